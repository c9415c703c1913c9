set_option maxRecDepth 100000 in
set_option maxHeartbeats 4000000 in
theorem c_X9_thrown (l : Launch) (D : va_G) (ca : Nat → ClassId) (ad : Nat → Nat) (tF : Nat)  (S : xS) (Q : Int → xS → Prop)  (h : w_X9_thrown  S Q) : xM l yX9_thrown (xws yX9_thrown cX9_thrown 1 (some .int)) ({ frames := 0, cells := 0, slots := 0, locals := 0 }) (gC D ca ad tF) [.ref (ad 54)] S (xQi Q) 0 0 := by
  refine xm_of RX9 rfl (by decide +kernel) (Nat.le_of_ble_eq_true rfl) ?_
  intro p e s m args below meth c A Z C hA hZ hr hlocks hw
  unfold w_X9_thrown at h
  show xV (gC D ca ad tF) p l e ({ frames := 0, cells := 0, slots := 0, locals := 0 }) s m args below meth c A 1 Z 0 0 0 [(0, .ref (ad 54))] [] S
  refine xi_aload_n C 0 dX9_thrown_0 rfl rfl ?_
  refine xi_getI C xK_X9 (q := 54) (r := 0) rfl 0 (by decide) (ki := 0) rfl xl_X9_142 rfl dX9_thrown_1 ?_
  exact xr_i C hA hZ hr hlocks rfl dX9_thrown_4 (Nat.le_of_ble_eq_true rfl) (Nat.le_of_ble_eq_true rfl) hw ⟨_, rfl, (xval.i (q := 54) (i := 0) hw (by decide) rfl), h⟩
set_option maxRecDepth 100000 in
set_option maxHeartbeats 4000000 in
theorem c_X9_drops (l : Launch) (D : va_G) (ca : Nat → ClassId) (ad : Nat → Nat) (tF : Nat)  (S : xS) (Q : xS → Prop)  (h : w_X9_drops  S Q) : xM l yX9_drops (xws yX9_drops cX9_drops 1 (none)) ({ frames := 0, cells := 0, slots := 0, locals := 0 }) (gC D ca ad tF) [.ref (ad 54)] S (xQv Q) 0 0 := by
  refine xm_of RX9 rfl (by decide +kernel) (Nat.le_of_ble_eq_true rfl) ?_
  intro p e s m args below meth c A Z C hA hZ hr hlocks hw
  unfold w_X9_drops at h
  show xV (gC D ca ad tF) p l e ({ frames := 0, cells := 0, slots := 0, locals := 0 }) s m args below meth c A 1 Z 0 0 0 [(0, .ref (ad 54))] [] S
  refine xi_aload_n C 0 dX9_drops_0 rfl rfl ?_
  refine xi_iconst C (v := 0) dX9_drops_1 rfl ?_
  refine xi_putI C xK_X9 (q := 54) (r := 0) rfl 0 (by decide) (ki := 0) rfl xl_X9_142 rfl rfl rfl dX9_drops_2 ?_
  have hw1 := xval.up (q := 54) (i := 0) (v := 0) hw rfl (by decide)
  refine xi_aload_n C 0 dX9_drops_5 rfl rfl ?_
  refine xi_iconst C (v := 0) dX9_drops_6 rfl ?_
  refine xi_putZ C xK_X9 (q := 54) (r := 0) rfl 13 (by decide) (ki := 13) rfl xl_X9_291 rfl rfl rfl (Or.inl rfl) dX9_drops_7 ?_
  have hw2 := xval.up (q := 54) (i := 13) (v := 0) hw1 rfl (by decide)
  exact xr_v C hA hZ hr hlocks dX9_drops_10 (Nat.le_of_ble_eq_true rfl) (Nat.le_of_ble_eq_true rfl) hw2 ⟨rfl, h⟩
set_option maxRecDepth 100000 in
set_option maxHeartbeats 4000000 in
theorem c_X9_fails (l : Launch) (D : va_G) (ca : Nat → ClassId) (ad : Nat → Nat) (tF : Nat) (a1 : Int) (S : xS) (Q : Int → xS → Prop) (h_a1 : xR a1) (h : w_X9_fails a1 S Q) : xM l yX9_fails (xws yX9_fails cX9_fails 2 (some .int)) ({ frames := 0, cells := 0, slots := 0, locals := 0 }) (gC D ca ad tF) [.ref (ad 54), .int (iN a1)] S (xQi Q) 0 0 := by
  refine xm_of RX9 rfl (by decide +kernel) (Nat.le_of_ble_eq_true rfl) ?_
  intro p e s m args below meth c A Z C hA hZ hr hlocks hw
  unfold w_X9_fails at h
  show xV (gC D ca ad tF) p l e ({ frames := 0, cells := 0, slots := 0, locals := 0 }) s m args below meth c A 2 Z 0 0 0 [(0, .ref (ad 54)), (1, .int (iN a1))] [] S
  refine xi_aload_n C 0 dX9_fails_0 rfl rfl ?_
  refine xi_iload_n C 1 dX9_fails_1 rfl rfl ?_
  refine xi_putI C xK_X9 (q := 54) (r := 0) rfl 0 (by decide) (ki := 0) rfl xl_X9_142 rfl rfl rfl dX9_fails_2 ?_
  have hw1 := xval.up (q := 54) (i := 0) (v := a1) hw rfl h_a1
  refine xi_iconst C (v := 0) dX9_fails_5 rfl ?_
  exact xr_i C hA hZ hr hlocks rfl dX9_fails_6 (Nat.le_of_ble_eq_true rfl) (Nat.le_of_ble_eq_true rfl) hw1 ⟨_, rfl, (by decide), h⟩
set_option maxRecDepth 100000 in
set_option maxHeartbeats 4000000 in
theorem c_X9_addProcess (l : Launch) (D : va_G) (ca : Nat → ClassId) (ad : Nat → Nat) (tF : Nat)  (S : xS) (Q : Int → xS → Prop)  (h : w_X9_addProcess  S Q) : xM l yX9_addProcess (xws yX9_addProcess cX9_addProcess 1 (some .int)) ({ frames := 1, cells := 0, slots := 0, locals := 21 }) (gC D ca ad tF) [.ref (ad 54)] S (xQi Q) 0 0 := by
  refine xm_of RX9 rfl (by decide +kernel) (Nat.le_of_ble_eq_true rfl) ?_
  intro p e s m args below meth c A Z C hA hZ hr hlocks hw
  unfold w_X9_addProcess at h
  show xV (gC D ca ad tF) p l e ({ frames := 1, cells := 0, slots := 0, locals := 21 }) s m args below meth c A 1 Z 0 0 0 [(0, .ref (ad 54))] [] S
  refine xi_aload_n C 0 dX9_addProcess_0 rfl rfl ?_
  refine xi_getI C xK_X9 (q := 54) (r := 0) rfl 1 (by decide) (ki := 1) rfl xl_X9_161 rfl dX9_addProcess_1 ?_
  refine xi_iconst C (v := 3) dX9_addProcess_4 rfl ?_
  refine xi_icmp_ne C 14 (xval.i (q := 54) (i := 1) hw (by decide) rfl) (by decide) dX9_addProcess_5 (by decide) (fun z1 => ?_) (fun z1 => ?_)
  · replace h := h.1 z1
    refine xi_aload_n C 0 dX9_addProcess_14 rfl rfl ?_
    refine xc_Vv C hw (c_X9_drops l D ca ad tF S _ h) xk_X9_drops xv_X9_drops xl_X9_300 ⟨Nat.le_of_ble_eq_true rfl, Nat.le_of_ble_eq_true rfl⟩ xK_X9 (q := 54) rfl rfl rfl (Nat.le_of_ble_eq_true rfl) ⟨Nat.le_of_ble_eq_true rfl, Nat.le_of_ble_eq_true rfl⟩ dX9_addProcess_15 (fun S15 h hw2 => ?_)
    refine xi_aload_n C 0 dX9_addProcess_18 rfl rfl ?_
    refine xi_dup C dX9_addProcess_19 rfl ?_
    refine xi_getI C xK_X9 (q := 54) (r := 0) rfl 1 (by decide) (ki := 1) rfl xl_X9_161 rfl dX9_addProcess_20 ?_
    refine xi_iconst C (v := 1) dX9_addProcess_23 rfl ?_
    refine xi_iadd C dX9_addProcess_24 ?_
    obtain ⟨hc3, h⟩ := h
    refine xi_putI C xK_X9 (q := 54) (r := 0) rfl 1 (by decide) (ki := 1) rfl xl_X9_161 rfl rfl rfl dX9_addProcess_25 ?_
    have hw4 := xval.up (q := 54) (i := 1) (v := (S15 54 1) + 1) hw2 rfl hc3
    refine xi_aload_n C 0 dX9_addProcess_28 rfl rfl ?_
    refine xi_getI C xK_X9 (q := 54) (r := 0) rfl 1 (by decide) (ki := 1) rfl xl_X9_161 rfl dX9_addProcess_29 ?_
    refine xi_iconst C (v := 1) dX9_addProcess_32 rfl ?_
    refine xi_isub C dX9_addProcess_33 ?_
    obtain ⟨hc5, h⟩ := h
    exact xr_i C hA hZ hr hlocks rfl dX9_addProcess_34 (Nat.le_of_ble_eq_true rfl) (Nat.le_of_ble_eq_true rfl) hw4 ⟨_, rfl, hc5, h⟩
  · replace h := h.2 z1
    refine xi_aload_n C 0 dX9_addProcess_8 rfl rfl ?_
    refine xi_iconst C (v := 1) dX9_addProcess_9 rfl ?_
    refine xc_Vi C hw (c_X9_fails l D ca ad tF 1 S _ (by decide) h) xk_X9_fails xv_X9_fails xl_X9_297 ⟨Nat.le_of_ble_eq_true rfl, Nat.le_of_ble_eq_true rfl⟩ xK_X9 (q := 54) rfl rfl rfl (Nat.le_of_ble_eq_true rfl) ⟨Nat.le_of_ble_eq_true rfl, Nat.le_of_ble_eq_true rfl⟩ dX9_addProcess_10 (fun r10 S10 h_r10 h hw6 => ?_)
    exact xr_i C hA hZ hr hlocks rfl dX9_addProcess_13 (Nat.le_of_ble_eq_true rfl) (Nat.le_of_ble_eq_true rfl) hw6 ⟨_, rfl, h_r10, h⟩
set_option maxRecDepth 100000 in
set_option maxHeartbeats 4000000 in
theorem c_X9_in (l : Launch) (D : va_G) (ca : Nat → ClassId) (ad : Nat → Nat) (tF : Nat) (a0 : Int) (a1 : Int) (a2 : Int) (S : xS) (Q : Int → xS → Prop) (h_a0 : xR a0) (h_a1 : xR a1) (h_a2 : xR a2) (h : w_X9_in a0 a1 a2 S Q) : xM l yX9_in (xws yX9_in cX9_in 3 (some .boolean)) ({ frames := 0, cells := 0, slots := 0, locals := 0 }) (gC D ca ad tF) [.int (iN a0), .int (iN a1), .int (iN a2)] S (xQi Q) 0 0 := by
  refine xm_of RX9 rfl (by decide +kernel) (Nat.le_of_ble_eq_true rfl) ?_
  intro p e s m args below meth c A Z C hA hZ hr hlocks hw
  unfold w_X9_in at h
  show xV (gC D ca ad tF) p l e ({ frames := 0, cells := 0, slots := 0, locals := 0 }) s m args below meth c A 3 Z 0 0 0 [(0, .int (iN a0)), (1, .int (iN a1)), (2, .int (iN a2))] [] S
  refine xi_iload_n C 0 dX9_in_0 rfl rfl ?_
  refine xi_iload_n C 1 dX9_in_1 rfl rfl ?_
  refine xi_icmp_lt C 14 h_a0 h_a1 dX9_in_2 (by decide) (fun z1 => ?_) (fun z1 => ?_)
  · replace h := h.1 z1
    refine xi_iconst C (v := 0) dX9_in_14 rfl ?_
    exact xr_i C hA hZ hr hlocks (xnarZ (Or.inl rfl)).1 dX9_in_15 (Nat.le_of_ble_eq_true rfl) (Nat.le_of_ble_eq_true rfl) hw ⟨_, rfl, (by decide), h⟩
  · replace h := h.2 z1
    refine xi_iload_n C 0 dX9_in_5 rfl rfl ?_
    refine xi_iload_n C 2 dX9_in_6 rfl rfl ?_
    refine xi_icmp_gt C 14 h_a0 h_a2 dX9_in_7 (by decide) (fun z2 => ?_) (fun z2 => ?_)
    · replace h := h.1 z2
      refine xi_iconst C (v := 0) dX9_in_14 rfl ?_
      exact xr_i C hA hZ hr hlocks (xnarZ (Or.inl rfl)).1 dX9_in_15 (Nat.le_of_ble_eq_true rfl) (Nat.le_of_ble_eq_true rfl) hw ⟨_, rfl, (by decide), h⟩
    · replace h := h.2 z2
      refine xi_iconst C (v := 1) dX9_in_10 rfl ?_
      refine xi_goto C 15 dX9_in_11 (by decide) ?_
      exact xr_i C hA hZ hr hlocks (xnarZ (Or.inr rfl)).1 dX9_in_15 (Nat.le_of_ble_eq_true rfl) (Nat.le_of_ble_eq_true rfl) hw ⟨_, rfl, (by decide), h⟩
set_option maxRecDepth 100000 in
set_option maxHeartbeats 4000000 in
theorem c_X9_isProcess (l : Launch) (D : va_G) (ca : Nat → ClassId) (ad : Nat → Nat) (tF : Nat) (a1 : Int) (S : xS) (Q : Int → xS → Prop) (h_a1 : xR a1) (h : w_X9_isProcess a1 S Q) : xM l yX9_isProcess (xws yX9_isProcess cX9_isProcess 2 (some .boolean)) ({ frames := 1, cells := 0, slots := 0, locals := 22 }) (gC D ca ad tF) [.ref (ad 54), .int (iN a1)] S (xQi Q) 0 0 := by
  refine xm_of RX9 rfl (by decide +kernel) (Nat.le_of_ble_eq_true rfl) ?_
  intro p e s m args below meth c A Z C hA hZ hr hlocks hw
  unfold w_X9_isProcess at h
  show xV (gC D ca ad tF) p l e ({ frames := 1, cells := 0, slots := 0, locals := 22 }) s m args below meth c A 2 Z 0 0 0 [(0, .ref (ad 54)), (1, .int (iN a1))] [] S
  refine xi_iload_n C 1 dX9_isProcess_0 rfl rfl ?_
  refine xi_iconst C (v := 0) dX9_isProcess_1 rfl ?_
  refine xi_aload_n C 0 dX9_isProcess_2 rfl rfl ?_
  refine xi_getI C xK_X9 (q := 54) (r := 0) rfl 1 (by decide) (ki := 1) rfl xl_X9_161 rfl dX9_isProcess_3 ?_
  refine xi_iconst C (v := 1) dX9_isProcess_6 rfl ?_
  refine xi_isub C dX9_isProcess_7 ?_
  obtain ⟨hc1, h⟩ := h
  refine xc_Si C hw (c_X9_in l D ca ad tF a1 0 ((S 54 1) - 1) S _ h_a1 (by decide) hc1 h) xk_X9_in xs_X9_in xl_X9_294 ⟨Nat.le_of_ble_eq_true rfl, Nat.le_of_ble_eq_true rfl⟩ rfl rfl (Nat.le_of_ble_eq_true rfl) ⟨Nat.le_of_ble_eq_true rfl, Nat.le_of_ble_eq_true rfl⟩ dX9_isProcess_8 (fun r8 S8 h_r8 h hw2 => ?_)
  obtain ⟨hc3, h⟩ := h
  exact xr_i C hA hZ hr hlocks (xnarZ hc3).1 dX9_isProcess_11 (Nat.le_of_ble_eq_true rfl) (Nat.le_of_ble_eq_true rfl) hw2 ⟨_, rfl, h_r8, h⟩
set_option maxRecDepth 100000 in
set_option maxHeartbeats 4000000 in
theorem c_X9_isOf (l : Launch) (D : va_G) (ca : Nat → ClassId) (ad : Nat → Nat) (tF : Nat) (a0 : Int) (a1 : Int) (S : xS) (Q : Int → xS → Prop) (h_a0 : xR a0) (h_a1 : xR a1) (h : w_X9_isOf a0 a1 S Q) : xM l yX9_isOf (xws yX9_isOf cX9_isOf 2 (some .boolean)) ({ frames := 1, cells := 0, slots := 0, locals := 22 }) (gC D ca ad tF) [.int (iN a0), .int (iN a1)] S (xQi Q) 0 0 := by
  refine xm_of RX9 rfl (by decide +kernel) (Nat.le_of_ble_eq_true rfl) ?_
  intro p e s m args below meth c A Z C hA hZ hr hlocks hw
  unfold w_X9_isOf at h
  show xV (gC D ca ad tF) p l e ({ frames := 1, cells := 0, slots := 0, locals := 22 }) s m args below meth c A 2 Z 0 0 0 [(0, .int (iN a0)), (1, .int (iN a1))] [] S
  refine xi_iload_n C 1 dX9_isOf_0 rfl rfl ?_
  refine xi_iconst C (v := 0) dX9_isOf_1 rfl ?_
  refine xi_iconst C (v := 2) dX9_isOf_2 rfl ?_
  refine xc_Si C hw (c_X9_in l D ca ad tF a1 0 2 S _ h_a1 (by decide) (by decide) h) xk_X9_in xs_X9_in xl_X9_294 ⟨Nat.le_of_ble_eq_true rfl, Nat.le_of_ble_eq_true rfl⟩ rfl rfl (Nat.le_of_ble_eq_true rfl) ⟨Nat.le_of_ble_eq_true rfl, Nat.le_of_ble_eq_true rfl⟩ dX9_isOf_3 (fun r3 S3 h_r3 h hw1 => ?_)
  refine xi_if_ne C 27 h_r3 dX9_isOf_6 (by decide) (fun z2 => ?_) (fun z2 => ?_)
  · replace h := h.1 z2
    refine xi_iconst C (v := 1) dX9_isOf_27 rfl ?_
    refine xi_goto C 32 dX9_isOf_28 (by decide) ?_
    exact xr_i C hA hZ hr hlocks (xnarZ (Or.inr rfl)).1 dX9_isOf_32 (Nat.le_of_ble_eq_true rfl) (Nat.le_of_ble_eq_true rfl) hw1 ⟨_, rfl, (by decide), h⟩
  · replace h := h.2 z2
    refine xi_iload_n C 1 dX9_isOf_9 rfl rfl ?_
    refine xi_iconst C (v := 3) dX9_isOf_10 rfl ?_
    refine xi_iconst C (v := 2) dX9_isOf_11 rfl ?_
    refine xi_iload_n C 0 dX9_isOf_12 rfl rfl ?_
    refine xi_imul C dX9_isOf_13 ?_
    refine xi_iadd C dX9_isOf_14 ?_
    obtain ⟨hc3, h⟩ := h
    refine xi_icmp_eq C 27 h_a1 hc3 dX9_isOf_15 (by decide) (fun z4 => ?_) (fun z4 => ?_)
    · replace h := h.1 z4
      refine xi_iconst C (v := 1) dX9_isOf_27 rfl ?_
      refine xi_goto C 32 dX9_isOf_28 (by decide) ?_
      exact xr_i C hA hZ hr hlocks (xnarZ (Or.inr rfl)).1 dX9_isOf_32 (Nat.le_of_ble_eq_true rfl) (Nat.le_of_ble_eq_true rfl) hw1 ⟨_, rfl, (by decide), h⟩
    · replace h := h.2 z4
      refine xi_iload_n C 1 dX9_isOf_18 rfl rfl ?_
      refine xi_iconst C (v := 4) dX9_isOf_19 rfl ?_
      refine xi_iconst C (v := 2) dX9_isOf_20 rfl ?_
      refine xi_iload_n C 0 dX9_isOf_21 rfl rfl ?_
      refine xi_imul C dX9_isOf_22 ?_
      refine xi_iadd C dX9_isOf_23 ?_
      obtain ⟨hc5, h⟩ := h
      refine xi_icmp_ne C 31 h_a1 hc5 dX9_isOf_24 (by decide) (fun z6 => ?_) (fun z6 => ?_)
      · replace h := h.1 z6
        refine xi_iconst C (v := 0) dX9_isOf_31 rfl ?_
        exact xr_i C hA hZ hr hlocks (xnarZ (Or.inl rfl)).1 dX9_isOf_32 (Nat.le_of_ble_eq_true rfl) (Nat.le_of_ble_eq_true rfl) hw1 ⟨_, rfl, (by decide), h⟩
      · replace h := h.2 z6
        refine xi_iconst C (v := 1) dX9_isOf_27 rfl ?_
        refine xi_goto C 32 dX9_isOf_28 (by decide) ?_
        exact xr_i C hA hZ hr hlocks (xnarZ (Or.inr rfl)).1 dX9_isOf_32 (Nat.le_of_ble_eq_true rfl) (Nat.le_of_ble_eq_true rfl) hw1 ⟨_, rfl, (by decide), h⟩
set_option maxRecDepth 100000 in
set_option maxHeartbeats 4000000 in
theorem c_X9_isRight (l : Launch) (D : va_G) (ca : Nat → ClassId) (ad : Nat → Nat) (tF : Nat) (a1 : Int) (a2 : Int) (a3 : Int) (a4 : Int) (S : xS) (Q : Int → xS → Prop) (h_a1 : xR a1) (h_a2 : xR a2) (h_a3 : xR a3) (h_a4 : xR a4) (h : w_X9_isRight a1 a2 a3 a4 S Q) : xM l yX9_isRight (xws yX9_isRight cX9_isRight 5 (some .boolean)) ({ frames := 2, cells := 0, slots := 0, locals := 43 }) (gC D ca ad tF) [.ref (ad 54), .int (iN a1), .int (iN a2), .int (iN a3), .int (iN a4)] S (xQi Q) 0 0 := by
  refine xm_of RX9 rfl (by decide +kernel) (Nat.le_of_ble_eq_true rfl) ?_
  intro p e s m args below meth c A Z C hA hZ hr hlocks hw
  unfold w_X9_isRight at h
  show xV (gC D ca ad tF) p l e ({ frames := 2, cells := 0, slots := 0, locals := 43 }) s m args below meth c A 5 Z 0 0 0 [(0, .ref (ad 54)), (1, .int (iN a1)), (2, .int (iN a2)), (3, .int (iN a3)), (4, .int (iN a4))] [] S
  refine xi_iload_n C 2 dX9_isRight_0 rfl rfl ?_
  refine xi_bipush C (v := 107) dX9_isRight_1 (by decide +kernel) ?_
  refine xi_icmp_ne C 8 h_a2 (by decide) dX9_isRight_3 (by decide) (fun z1 => ?_) (fun z1 => ?_)
  · replace h := h.1 z1
    refine xi_iload_n C 2 dX9_isRight_8 rfl rfl ?_
    refine xi_bipush C (v := 119) dX9_isRight_9 (by decide +kernel) ?_
    refine xJ0_w (fun  S20 => xval (gC D ca ad tF) S20 → xV (gC D ca ad tF) p l e ({ frames := 2, cells := 0, slots := 0, locals := 43 }) s m args below meth c A 5 Z 0 0 20 [(0, .ref (ad 54)), (1, .int (iN a1)), (3, .int (iN a3)), (4, .int (iN a4))] [] S20) h (fun  S20 h  hw20 => ?_) (fun j20 hj20 h => ?_)
    · unfold w_X9_isRight_J20 at h
      refine xi_iload_n C 2 dX9_isRight_20 rfl rfl ?_
      refine xi_iconst C (v := 0) dX9_isRight_21 rfl ?_
      refine xi_aload_n C 0 dX9_isRight_22 rfl rfl ?_
      refine xi_getI C xK_X9 (q := 54) (r := 0) rfl 2 (by decide) (ki := 2) rfl xl_X9_303 rfl dX9_isRight_23 ?_
      refine xi_iconst C (v := 1) dX9_isRight_26 rfl ?_
      refine xi_isub C dX9_isRight_27 ?_
      obtain ⟨hc3, h⟩ := h
      refine xc_Si C hw20 (c_X9_in l D ca ad tF a3 0 ((S20 54 2) - 1) S20 _ h_a3 (by decide) hc3 h) xk_X9_in xs_X9_in xl_X9_294 ⟨Nat.le_of_ble_eq_true rfl, Nat.le_of_ble_eq_true rfl⟩ rfl rfl (Nat.le_of_ble_eq_true rfl) ⟨Nat.le_of_ble_eq_true rfl, Nat.le_of_ble_eq_true rfl⟩ dX9_isRight_28 (fun r28 S28 h_r28 h hw4 => ?_)
      refine xi_if_eq C 47 h_r28 dX9_isRight_31 (by decide) (fun z5 => ?_) (fun z5 => ?_)
      · replace h := h.1 z5
        refine xi_iconst C (v := 0) dX9_isRight_47 rfl ?_
        exact xr_i C hA hZ hr hlocks (xnarZ (Or.inl rfl)).1 dX9_isRight_48 (Nat.le_of_ble_eq_true rfl) (Nat.le_of_ble_eq_true rfl) hw4 ⟨_, rfl, (by decide), h⟩
      · replace h := h.2 z5
        refine xi_iload_n C 1 dX9_isRight_34 rfl rfl ?_
        refine xi_iload C 3 dX9_isRight_35 rfl ?_
        refine xc_Si C hw4 (c_X9_isOf l D ca ad tF a1 a4 S28 _ h_a1 h_a4 h) xk_X9_isOf xs_X9_isOf xl_X9_306 ⟨Nat.le_of_ble_eq_true rfl, Nat.le_of_ble_eq_true rfl⟩ rfl rfl (Nat.le_of_ble_eq_true rfl) ⟨Nat.le_of_ble_eq_true rfl, Nat.le_of_ble_eq_true rfl⟩ dX9_isRight_37 (fun r37 S37 h_r37 h hw6 => ?_)
        refine xi_if_eq C 47 h_r37 dX9_isRight_40 (by decide) (fun z7 => ?_) (fun z7 => ?_)
        · replace h := h.1 z7
          refine xi_iconst C (v := 0) dX9_isRight_47 rfl ?_
          exact xr_i C hA hZ hr hlocks (xnarZ (Or.inl rfl)).1 dX9_isRight_48 (Nat.le_of_ble_eq_true rfl) (Nat.le_of_ble_eq_true rfl) hw6 ⟨_, rfl, (by decide), h⟩
        · replace h := h.2 z7
          refine xi_iconst C (v := 1) dX9_isRight_43 rfl ?_
          refine xi_goto C 48 dX9_isRight_44 (by decide) ?_
          exact xr_i C hA hZ hr hlocks (xnarZ (Or.inr rfl)).1 dX9_isRight_48 (Nat.le_of_ble_eq_true rfl) (Nat.le_of_ble_eq_true rfl) hw6 ⟨_, rfl, (by decide), h⟩
    · refine xi_icmp_eq C 20 h_a2 (by decide) dX9_isRight_11 (by decide) (fun z2 => ?_) (fun z2 => ?_)
      · replace h := h.1 z2
        exact xi_sub [0, 1, 3, 4] rfl (hj20 S h hw)
      · replace h := h.2 z2
        refine xi_iload_n C 2 dX9_isRight_14 rfl rfl ?_
        refine xi_bipush C (v := 114) dX9_isRight_15 (by decide +kernel) ?_
        refine xi_icmp_ne C 49 h_a2 (by decide) dX9_isRight_17 (by decide) (fun z8 => ?_) (fun z8 => ?_)
        · replace h := h.1 z8
          refine xi_iload_n C 2 dX9_isRight_49 rfl rfl ?_
          refine xi_bipush C (v := 115) dX9_isRight_50 (by decide +kernel) ?_
          refine xJ0_w (fun  S79 => xval (gC D ca ad tF) S79 → xV (gC D ca ad tF) p l e ({ frames := 2, cells := 0, slots := 0, locals := 43 }) s m args below meth c A 5 Z 0 0 79 [(1, .int (iN a1)), (3, .int (iN a3)), (4, .int (iN a4))] [] S79) h (fun  S79 h  hw79 => ?_) (fun j79 hj79 h => ?_)
          · unfold w_X9_isRight_J79 at h
            refine xi_iload_n C 0 dX9_isRight_79 rfl rfl ?_
            refine xi_iload_n C 1 dX9_isRight_80 rfl rfl ?_
            refine xc_Si C hw79 (c_X9_isOf l D ca ad tF a1 a3 S79 _ h_a1 h_a3 h) xk_X9_isOf xs_X9_isOf xl_X9_306 ⟨Nat.le_of_ble_eq_true rfl, Nat.le_of_ble_eq_true rfl⟩ rfl rfl (Nat.le_of_ble_eq_true rfl) ⟨Nat.le_of_ble_eq_true rfl, Nat.le_of_ble_eq_true rfl⟩ dX9_isRight_81 (fun r81 S81 h_r81 h hw10 => ?_)
            refine xi_if_eq C 101 h_r81 dX9_isRight_84 (by decide) (fun z11 => ?_) (fun z11 => ?_)
            · replace h := h.1 z11
              refine xi_iconst C (v := 0) dX9_isRight_101 rfl ?_
              exact xr_i C hA hZ hr hlocks (xnarZ (Or.inl rfl)).1 dX9_isRight_102 (Nat.le_of_ble_eq_true rfl) (Nat.le_of_ble_eq_true rfl) hw10 ⟨_, rfl, (by decide), h⟩
            · replace h := h.2 z11
              refine xi_iload C 2 dX9_isRight_87 rfl ?_
              refine xi_iconst C (v := 0) dX9_isRight_89 rfl ?_
              refine xi_iconst C (v := 3) dX9_isRight_90 rfl ?_
              refine xc_Si C hw10 (c_X9_in l D ca ad tF a4 0 3 S81 _ h_a4 (by decide) (by decide) h) xk_X9_in xs_X9_in xl_X9_294 ⟨Nat.le_of_ble_eq_true rfl, Nat.le_of_ble_eq_true rfl⟩ rfl rfl (Nat.le_of_ble_eq_true rfl) ⟨Nat.le_of_ble_eq_true rfl, Nat.le_of_ble_eq_true rfl⟩ dX9_isRight_91 (fun r91 S91 h_r91 h hw12 => ?_)
              refine xi_if_eq C 101 h_r91 dX9_isRight_94 (by decide) (fun z13 => ?_) (fun z13 => ?_)
              · replace h := h.1 z13
                refine xi_iconst C (v := 0) dX9_isRight_101 rfl ?_
                exact xr_i C hA hZ hr hlocks (xnarZ (Or.inl rfl)).1 dX9_isRight_102 (Nat.le_of_ble_eq_true rfl) (Nat.le_of_ble_eq_true rfl) hw12 ⟨_, rfl, (by decide), h⟩
              · replace h := h.2 z13
                refine xi_iconst C (v := 1) dX9_isRight_97 rfl ?_
                refine xi_goto C 102 dX9_isRight_98 (by decide) ?_
                exact xr_i C hA hZ hr hlocks (xnarZ (Or.inr rfl)).1 dX9_isRight_102 (Nat.le_of_ble_eq_true rfl) (Nat.le_of_ble_eq_true rfl) hw12 ⟨_, rfl, (by decide), h⟩
          · refine xi_icmp_eq C 79 h_a2 (by decide) dX9_isRight_52 (by decide) (fun z9 => ?_) (fun z9 => ?_)
            · replace h := h.1 z9
              exact xi_sub [1, 3, 4] rfl (hj79 S h hw)
            · replace h := h.2 z9
              refine xi_iload_n C 2 dX9_isRight_55 rfl rfl ?_
              refine xi_bipush C (v := 105) dX9_isRight_56 (by decide +kernel) ?_
              refine xi_icmp_eq C 79 h_a2 (by decide) dX9_isRight_58 (by decide) (fun z14 => ?_) (fun z14 => ?_)
              · replace h := h.1 z14
                exact xi_sub [1, 3, 4] rfl (hj79 S h hw)
              · replace h := h.2 z14
                refine xi_iload_n C 2 dX9_isRight_61 rfl rfl ?_
                refine xi_bipush C (v := 61) dX9_isRight_62 (by decide +kernel) ?_
                refine xi_icmp_eq C 79 h_a2 (by decide) dX9_isRight_64 (by decide) (fun z15 => ?_) (fun z15 => ?_)
                · replace h := h.1 z15
                  exact xi_sub [1, 3, 4] rfl (hj79 S h hw)
                · replace h := h.2 z15
                  refine xi_iload_n C 2 dX9_isRight_67 rfl rfl ?_
                  refine xi_bipush C (v := 33) dX9_isRight_68 (by decide +kernel) ?_
                  refine xi_icmp_eq C 79 h_a2 (by decide) dX9_isRight_70 (by decide) (fun z16 => ?_) (fun z16 => ?_)
                  · replace h := h.1 z16
                    exact xi_sub [1, 3, 4] rfl (hj79 S h hw)
                  · replace h := h.2 z16
                    refine xi_iload_n C 2 dX9_isRight_73 rfl rfl ?_
                    refine xi_bipush C (v := 97) dX9_isRight_74 (by decide +kernel) ?_
                    refine xi_icmp_ne C 101 h_a2 (by decide) dX9_isRight_76 (by decide) (fun z17 => ?_) (fun z17 => ?_)
                    · replace h := h.1 z17
                      refine xi_iconst C (v := 0) dX9_isRight_101 rfl ?_
                      exact xr_i C hA hZ hr hlocks (xnarZ (Or.inl rfl)).1 dX9_isRight_102 (Nat.le_of_ble_eq_true rfl) (Nat.le_of_ble_eq_true rfl) hw ⟨_, rfl, (by decide), h⟩
                    · replace h := h.2 z17
                      exact xi_sub [1, 3, 4] rfl (hj79 S h hw)
        · replace h := h.2 z8
          exact xi_sub [0, 1, 3, 4] rfl (hj20 S h hw)
  · replace h := h.2 z1
    refine xi_iconst C (v := 1) dX9_isRight_6 rfl ?_
    exact xr_i C hA hZ hr hlocks (xnarZ (Or.inr rfl)).1 dX9_isRight_7 (Nat.le_of_ble_eq_true rfl) (Nat.le_of_ble_eq_true rfl) hw ⟨_, rfl, (by decide), h⟩
set_option maxRecDepth 100000 in
set_option maxHeartbeats 4000000 in
theorem c_X9_addStep (l : Launch) (D : va_G) (ca : Nat → ClassId) (ad : Nat → Nat) (tF : Nat) (a1 : Int) (a2 : Int) (a3 : Int) (a4 : Int) (a5 : Int) (a6 : Int) (S : xS) (Q : Int → xS → Prop) (h_a1 : xR a1) (h_a2 : xR a2) (h_a3 : xR a3) (h_a4 : xR a4) (h_a5 : xR a5) (h_a6 : xR a6) (h : w_X9_addStep a1 a2 a3 a4 a5 a6 S Q) : xM l yX9_addStep (xws yX9_addStep cX9_addStep 8 (some .int)) ({ frames := 3, cells := 0, slots := 0, locals := 67 }) (gC D ca ad tF) [.ref (ad 54), .int (iN a1), .int (iN a2), .int (iN a3), .int (iN a4), .int (iN a5), .int (iN a6)] S (xQi Q) 0 0 := by
  refine xm_of RX9 rfl (by decide +kernel) (Nat.le_of_ble_eq_true rfl) ?_
  intro p e s m args below meth c A Z C hA hZ hr hlocks hw
  unfold w_X9_addStep at h
  show xV (gC D ca ad tF) p l e ({ frames := 3, cells := 0, slots := 0, locals := 67 }) s m args below meth c A 8 Z 0 0 0 [(0, .ref (ad 54)), (1, .int (iN a1)), (2, .int (iN a2)), (3, .int (iN a3)), (4, .int (iN a4)), (5, .int (iN a5)), (6, .int (iN a6))] [] S
  refine xi_aload_n C 0 dX9_addStep_0 rfl rfl ?_
  refine xi_iload_n C 1 dX9_addStep_1 rfl rfl ?_
  refine xc_Vi C hw (c_X9_isProcess l D ca ad tF a1 S _ h_a1 h) xk_X9_isProcess xv_X9_isProcess xl_X9_309 ⟨Nat.le_of_ble_eq_true rfl, Nat.le_of_ble_eq_true rfl⟩ xK_X9 (q := 54) rfl rfl rfl (Nat.le_of_ble_eq_true rfl) ⟨Nat.le_of_ble_eq_true rfl, Nat.le_of_ble_eq_true rfl⟩ dX9_addStep_2 (fun r2 S2 h_r2 h hw1 => ?_)
  refine xi_if_ne C 14 h_r2 dX9_addStep_5 (by decide) (fun z2 => ?_) (fun z2 => ?_)
  · replace h := h.1 z2
    refine xi_iload_n C 2 dX9_addStep_14 rfl rfl ?_
    refine xi_iconst C (v := 0) dX9_addStep_15 rfl ?_
    refine xi_bipush C (v := 11) dX9_addStep_16 (by decide +kernel) ?_
    refine xc_Si C hw1 (c_X9_in l D ca ad tF a2 0 11 S2 _ h_a2 (by decide) (by decide) h) xk_X9_in xs_X9_in xl_X9_294 ⟨Nat.le_of_ble_eq_true rfl, Nat.le_of_ble_eq_true rfl⟩ rfl rfl (Nat.le_of_ble_eq_true rfl) ⟨Nat.le_of_ble_eq_true rfl, Nat.le_of_ble_eq_true rfl⟩ dX9_addStep_18 (fun r18 S18 h_r18 h hw3 => ?_)
    refine xJ0_w (fun  S48 => xval (gC D ca ad tF) S48 → xV (gC D ca ad tF) p l e ({ frames := 3, cells := 0, slots := 0, locals := 67 }) s m args below meth c A 8 Z 0 0 48 [(0, .ref (ad 54))] [] S48) h (fun  S48 h  hw48 => ?_) (fun j48 hj48 h => ?_)
    · unfold w_X9_addStep_J48 at h
      refine xi_aload_n C 0 dX9_addStep_48 rfl rfl ?_
      refine xi_iconst C (v := 2) dX9_addStep_49 rfl ?_
      refine xc_Vi C hw48 (c_X9_fails l D ca ad tF 2 S48 _ (by decide) h) xk_X9_fails xv_X9_fails xl_X9_297 ⟨Nat.le_of_ble_eq_true rfl, Nat.le_of_ble_eq_true rfl⟩ xK_X9 (q := 54) rfl rfl rfl (Nat.le_of_ble_eq_true rfl) ⟨Nat.le_of_ble_eq_true rfl, Nat.le_of_ble_eq_true rfl⟩ dX9_addStep_50 (fun r50 S50 h_r50 h hw5 => ?_)
      exact xr_i C hA hZ hr hlocks rfl dX9_addStep_53 (Nat.le_of_ble_eq_true rfl) (Nat.le_of_ble_eq_true rfl) hw5 ⟨_, rfl, h_r50, h⟩
    · refine xi_if_eq C 48 h_r18 dX9_addStep_21 (by decide) (fun z4 => ?_) (fun z4 => ?_)
      · replace h := h.1 z4
        exact xi_sub [0] rfl (hj48 S18 h hw3)
      · replace h := h.2 z4
        refine xi_iload_n C 3 dX9_addStep_24 rfl rfl ?_
        refine xi_iconst C (v := 0) dX9_addStep_25 rfl ?_
        refine xi_bipush C (v := 11) dX9_addStep_26 (by decide +kernel) ?_
        refine xc_Si C hw3 (c_X9_in l D ca ad tF a3 0 11 S18 _ h_a3 (by decide) (by decide) h) xk_X9_in xs_X9_in xl_X9_294 ⟨Nat.le_of_ble_eq_true rfl, Nat.le_of_ble_eq_true rfl⟩ rfl rfl (Nat.le_of_ble_eq_true rfl) ⟨Nat.le_of_ble_eq_true rfl, Nat.le_of_ble_eq_true rfl⟩ dX9_addStep_28 (fun r28 S28 h_r28 h hw6 => ?_)
        refine xi_if_eq C 48 h_r28 dX9_addStep_31 (by decide) (fun z7 => ?_) (fun z7 => ?_)
        · replace h := h.1 z7
          exact xi_sub [0] rfl (hj48 S28 h hw6)
        · replace h := h.2 z7
          refine xi_aload_n C 0 dX9_addStep_34 rfl rfl ?_
          refine xi_iload_n C 1 dX9_addStep_35 rfl rfl ?_
          refine xi_iload C 4 dX9_addStep_36 rfl ?_
          refine xi_iload C 5 dX9_addStep_38 rfl ?_
          refine xi_iload C 6 dX9_addStep_40 rfl ?_
          refine xc_Vi C hw6 (c_X9_isRight l D ca ad tF a1 a4 a5 a6 S28 _ h_a1 h_a4 h_a5 h_a6 h) xk_X9_isRight xv_X9_isRight xl_X9_312 ⟨Nat.le_of_ble_eq_true rfl, Nat.le_of_ble_eq_true rfl⟩ xK_X9 (q := 54) rfl rfl rfl (Nat.le_of_ble_eq_true rfl) ⟨Nat.le_of_ble_eq_true rfl, Nat.le_of_ble_eq_true rfl⟩ dX9_addStep_42 (fun r42 S42 h_r42 h hw8 => ?_)
          refine xi_if_ne C 54 h_r42 dX9_addStep_45 (by decide) (fun z9 => ?_) (fun z9 => ?_)
          · replace h := h.1 z9
            refine xi_aload_n C 0 dX9_addStep_54 rfl rfl ?_
            refine xi_getR C xK_X9 (q := 54) (r := 55) rfl 15 (by decide) (ki := 15) rfl xl_X9_7 rfl dX9_addStep_55 ?_
            refine xi_iload_n C 1 dX9_addStep_58 rfl rfl ?_
            obtain ⟨hc10, h⟩ := h
            refine xi_iaload C (q := 55) rfl (by decide) hc10 dX9_addStep_59 ?_
            refine xi_bipush C (v := 14) dX9_addStep_60 (by decide +kernel) ?_
            refine xi_icmp_ne C 71 (xval.i (q := 55) (i := a1) hw8 hc10.1 rfl) (by decide) dX9_addStep_62 (by decide) (fun z11 => ?_) (fun z11 => ?_)
            · replace h := h.1 z11
              refine xi_aload_n C 0 dX9_addStep_71 rfl rfl ?_
              refine xc_Vv C hw8 (c_X9_drops l D ca ad tF S42 _ h) xk_X9_drops xv_X9_drops xl_X9_300 ⟨Nat.le_of_ble_eq_true rfl, Nat.le_of_ble_eq_true rfl⟩ xK_X9 (q := 54) rfl rfl rfl (Nat.le_of_ble_eq_true rfl) ⟨Nat.le_of_ble_eq_true rfl, Nat.le_of_ble_eq_true rfl⟩ dX9_addStep_72 (fun S72 h hw12 => ?_)
              refine xi_bipush C (v := 14) dX9_addStep_75 (by decide +kernel) ?_
              refine xi_iload_n C 1 dX9_addStep_77 rfl rfl ?_
              refine xi_imul C dX9_addStep_78 ?_
              refine xi_aload_n C 0 dX9_addStep_79 rfl rfl ?_
              refine xi_getR C xK_X9 (q := 54) (r := 55) rfl 15 (by decide) (ki := 15) rfl xl_X9_7 rfl dX9_addStep_80 ?_
              refine xi_iload_n C 1 dX9_addStep_83 rfl rfl ?_
              refine xi_iaload C (q := 55) rfl (by decide) hc10 dX9_addStep_84 ?_
              refine xi_iadd C dX9_addStep_85 ?_
              refine xi_istore C (L' := [(7, .int (iN ((14 * a1) + (S72 55 a1)))), (0, .ref (ad 54)), (1, .int (iN a1)), (2, .int (iN a2)), (3, .int (iN a3)), (4, .int (iN a4)), (5, .int (iN a5)), (6, .int (iN a6))]) dX9_addStep_86 (by decide) rfl ?_
              refine xi_aload_n C 1 dX9_addStep_88 rfl rfl ?_
              refine xi_getR C xK_X9 (q := 54) (r := 56) rfl 16 (by decide) (ki := 16) rfl xl_X9_13 rfl dX9_addStep_89 ?_
              refine xi_iload C 0 dX9_addStep_92 rfl ?_
              refine xi_iload_n C 3 dX9_addStep_94 rfl rfl ?_
              obtain ⟨hc13, h⟩ := h
              refine xi_iastore C (q := 56) rfl (by decide) hc13 dX9_addStep_95 ?_
              have hw14 := xval.up (q := 56) (i := (14 * a1) + (S72 55 a1)) (v := a2) hw12 rfl h_a2
              refine xi_aload_n C 1 dX9_addStep_96 rfl rfl ?_
              refine xi_getR C xK_X9 (q := 54) (r := 57) rfl 17 (by decide) (ki := 17) rfl xl_X9_16 rfl dX9_addStep_97 ?_
              refine xi_iload C 0 dX9_addStep_100 rfl ?_
              refine xi_iload_n C 4 dX9_addStep_102 rfl rfl ?_
              refine xi_iastore C (q := 57) rfl (by decide) hc13 dX9_addStep_103 ?_
              have hw15 := xval.up (q := 57) (i := (14 * a1) + (S72 55 a1)) (v := a3) hw14 rfl h_a3
              refine xi_aload_n C 1 dX9_addStep_104 rfl rfl ?_
              refine xi_getR C xK_X9 (q := 54) (r := 58) rfl 18 (by decide) (ki := 18) rfl xl_X9_19 rfl dX9_addStep_105 ?_
              refine xi_iload C 0 dX9_addStep_108 rfl ?_
              refine xi_iload C 5 dX9_addStep_110 rfl ?_
              refine xi_iastore C (q := 58) rfl (by decide) hc13 dX9_addStep_112 ?_
              have hw16 := xval.up (q := 58) (i := (14 * a1) + (S72 55 a1)) (v := a4) hw15 rfl h_a4
              refine xi_aload_n C 1 dX9_addStep_113 rfl rfl ?_
              refine xi_getR C xK_X9 (q := 54) (r := 59) rfl 19 (by decide) (ki := 19) rfl xl_X9_22 rfl dX9_addStep_114 ?_
              refine xi_iload C 0 dX9_addStep_117 rfl ?_
              refine xi_iload C 6 dX9_addStep_119 rfl ?_
              refine xi_iastore C (q := 59) rfl (by decide) hc13 dX9_addStep_121 ?_
              have hw17 := xval.up (q := 59) (i := (14 * a1) + (S72 55 a1)) (v := a5) hw16 rfl h_a5
              refine xi_aload_n C 1 dX9_addStep_122 rfl rfl ?_
              refine xi_getR C xK_X9 (q := 54) (r := 60) rfl 20 (by decide) (ki := 20) rfl xl_X9_25 rfl dX9_addStep_123 ?_
              refine xi_iload C 0 dX9_addStep_126 rfl ?_
              refine xi_iload C 7 dX9_addStep_128 rfl ?_
              refine xi_iastore C (q := 60) rfl (by decide) hc13 dX9_addStep_130 ?_
              have hw18 := xval.up (q := 60) (i := (14 * a1) + (S72 55 a1)) (v := a6) hw17 rfl h_a6
              refine xi_aload_n C 1 dX9_addStep_131 rfl rfl ?_
              refine xi_getR C xK_X9 (q := 54) (r := 55) rfl 15 (by decide) (ki := 15) rfl xl_X9_7 rfl dX9_addStep_132 ?_
              refine xi_iload_n C 2 dX9_addStep_135 rfl rfl ?_
              refine xi_dup2 C dX9_addStep_136 rfl rfl ?_
              refine xi_iaload C (q := 55) rfl (by decide) hc10 dX9_addStep_137 ?_
              refine xi_iconst C (v := 1) dX9_addStep_138 rfl ?_
              refine xi_iadd C dX9_addStep_139 ?_
              obtain ⟨hc19, h⟩ := h
              refine xi_iastore C (q := 55) rfl (by decide) hc10 dX9_addStep_140 ?_
              have hw20 := xval.up (q := 55) (i := a1) (v := (S72 55 a1) + 1) hw18 rfl hc19
              refine xi_aload_n C 1 dX9_addStep_141 rfl rfl ?_
              refine xi_getR C xK_X9 (q := 54) (r := 55) rfl 15 (by decide) (ki := 15) rfl xl_X9_7 rfl dX9_addStep_142 ?_
              refine xi_iload_n C 2 dX9_addStep_145 rfl rfl ?_
              refine xi_iaload C (q := 55) rfl (by decide) hc10 dX9_addStep_146 ?_
              refine xi_iconst C (v := 1) dX9_addStep_147 rfl ?_
              refine xi_isub C dX9_addStep_148 ?_
              obtain ⟨hc21, h⟩ := h
              exact xr_i C hA hZ hr hlocks rfl dX9_addStep_149 (Nat.le_of_ble_eq_true rfl) (Nat.le_of_ble_eq_true rfl) hw20 ⟨_, rfl, hc21, h⟩
            · replace h := h.2 z11
              refine xi_aload_n C 0 dX9_addStep_65 rfl rfl ?_
              refine xi_iconst C (v := 3) dX9_addStep_66 rfl ?_
              refine xc_Vi C hw8 (c_X9_fails l D ca ad tF 3 S42 _ (by decide) h) xk_X9_fails xv_X9_fails xl_X9_297 ⟨Nat.le_of_ble_eq_true rfl, Nat.le_of_ble_eq_true rfl⟩ xK_X9 (q := 54) rfl rfl rfl (Nat.le_of_ble_eq_true rfl) ⟨Nat.le_of_ble_eq_true rfl, Nat.le_of_ble_eq_true rfl⟩ dX9_addStep_67 (fun r67 S67 h_r67 h hw22 => ?_)
              exact xr_i C hA hZ hr hlocks rfl dX9_addStep_70 (Nat.le_of_ble_eq_true rfl) (Nat.le_of_ble_eq_true rfl) hw22 ⟨_, rfl, h_r67, h⟩
          · replace h := h.2 z9
            exact xi_sub [0] rfl (hj48 S42 h hw8)
  · replace h := h.2 z2
    refine xi_aload_n C 0 dX9_addStep_8 rfl rfl ?_
    refine xi_iconst C (v := 1) dX9_addStep_9 rfl ?_
    refine xc_Vi C hw1 (c_X9_fails l D ca ad tF 1 S2 _ (by decide) h) xk_X9_fails xv_X9_fails xl_X9_297 ⟨Nat.le_of_ble_eq_true rfl, Nat.le_of_ble_eq_true rfl⟩ xK_X9 (q := 54) rfl rfl rfl (Nat.le_of_ble_eq_true rfl) ⟨Nat.le_of_ble_eq_true rfl, Nat.le_of_ble_eq_true rfl⟩ dX9_addStep_10 (fun r10 S10 h_r10 h hw23 => ?_)
    exact xr_i C hA hZ hr hlocks rfl dX9_addStep_13 (Nat.le_of_ble_eq_true rfl) (Nat.le_of_ble_eq_true rfl) hw23 ⟨_, rfl, h_r10, h⟩
set_option maxRecDepth 100000 in
set_option maxHeartbeats 4000000 in
theorem c_X9_addChannel (l : Launch) (D : va_G) (ca : Nat → ClassId) (ad : Nat → Nat) (tF : Nat) (a1 : Int) (S : xS) (Q : Int → xS → Prop) (h_a1 : xR a1) (h : w_X9_addChannel a1 S Q) : xM l yX9_addChannel (xws yX9_addChannel cX9_addChannel 2 (some .int)) ({ frames := 1, cells := 0, slots := 0, locals := 22 }) (gC D ca ad tF) [.ref (ad 54), .int (iN a1)] S (xQi Q) 0 0 := by
  refine xm_of RX9 rfl (by decide +kernel) (Nat.le_of_ble_eq_true rfl) ?_
  intro p e s m args below meth c A Z C hA hZ hr hlocks hw
  unfold w_X9_addChannel at h
  show xV (gC D ca ad tF) p l e ({ frames := 1, cells := 0, slots := 0, locals := 22 }) s m args below meth c A 2 Z 0 0 0 [(0, .ref (ad 54)), (1, .int (iN a1))] [] S
  refine xi_iload_n C 1 dX9_addChannel_0 rfl rfl ?_
  refine xi_iconst C (v := 0) dX9_addChannel_1 rfl ?_
  refine xi_iconst C (v := 2) dX9_addChannel_2 rfl ?_
  refine xc_Si C hw (c_X9_in l D ca ad tF a1 0 2 S _ h_a1 (by decide) (by decide) h) xk_X9_in xs_X9_in xl_X9_294 ⟨Nat.le_of_ble_eq_true rfl, Nat.le_of_ble_eq_true rfl⟩ rfl rfl (Nat.le_of_ble_eq_true rfl) ⟨Nat.le_of_ble_eq_true rfl, Nat.le_of_ble_eq_true rfl⟩ dX9_addChannel_3 (fun r3 S3 h_r3 h hw1 => ?_)
  refine xi_if_ne C 15 h_r3 dX9_addChannel_6 (by decide) (fun z2 => ?_) (fun z2 => ?_)
  · replace h := h.1 z2
    refine xi_aload_n C 0 dX9_addChannel_15 rfl rfl ?_
    refine xi_getI C xK_X9 (q := 54) (r := 0) rfl 2 (by decide) (ki := 2) rfl xl_X9_303 rfl dX9_addChannel_16 ?_
    refine xi_iconst C (v := 2) dX9_addChannel_19 rfl ?_
    refine xi_icmp_ne C 29 (xval.i (q := 54) (i := 2) hw1 (by decide) rfl) (by decide) dX9_addChannel_20 (by decide) (fun z3 => ?_) (fun z3 => ?_)
    · replace h := h.1 z3
      refine xi_aload_n C 0 dX9_addChannel_29 rfl rfl ?_
      refine xc_Vv C hw1 (c_X9_drops l D ca ad tF S3 _ h) xk_X9_drops xv_X9_drops xl_X9_300 ⟨Nat.le_of_ble_eq_true rfl, Nat.le_of_ble_eq_true rfl⟩ xK_X9 (q := 54) rfl rfl rfl (Nat.le_of_ble_eq_true rfl) ⟨Nat.le_of_ble_eq_true rfl, Nat.le_of_ble_eq_true rfl⟩ dX9_addChannel_30 (fun S30 h hw4 => ?_)
      refine xi_aload_n C 0 dX9_addChannel_33 rfl rfl ?_
      refine xi_getR C xK_X9 (q := 54) (r := 61) rfl 21 (by decide) (ki := 21) rfl xl_X9_28 rfl dX9_addChannel_34 ?_
      refine xi_aload_n C 0 dX9_addChannel_37 rfl rfl ?_
      refine xi_getI C xK_X9 (q := 54) (r := 0) rfl 2 (by decide) (ki := 2) rfl xl_X9_303 rfl dX9_addChannel_38 ?_
      refine xi_iload_n C 1 dX9_addChannel_41 rfl rfl ?_
      obtain ⟨hc5, h⟩ := h
      refine xi_iastore C (q := 61) rfl (by decide) hc5 dX9_addChannel_42 ?_
      have hw6 := xval.up (q := 61) (i := S30 54 2) (v := a1) hw4 rfl h_a1
      refine xi_aload_n C 0 dX9_addChannel_43 rfl rfl ?_
      refine xi_dup C dX9_addChannel_44 rfl ?_
      refine xi_getI C xK_X9 (q := 54) (r := 0) rfl 2 (by decide) (ki := 2) rfl xl_X9_303 rfl dX9_addChannel_45 ?_
      refine xi_iconst C (v := 1) dX9_addChannel_48 rfl ?_
      refine xi_iadd C dX9_addChannel_49 ?_
      obtain ⟨hc7, h⟩ := h
      refine xi_putI C xK_X9 (q := 54) (r := 0) rfl 2 (by decide) (ki := 2) rfl xl_X9_303 rfl rfl rfl dX9_addChannel_50 ?_
      have hw8 := xval.up (q := 54) (i := 2) (v := (S30 54 2) + 1) hw6 rfl hc7
      refine xi_aload_n C 0 dX9_addChannel_53 rfl rfl ?_
      refine xi_getI C xK_X9 (q := 54) (r := 0) rfl 2 (by decide) (ki := 2) rfl xl_X9_303 rfl dX9_addChannel_54 ?_
      refine xi_iconst C (v := 1) dX9_addChannel_57 rfl ?_
      refine xi_isub C dX9_addChannel_58 ?_
      obtain ⟨hc9, h⟩ := h
      exact xr_i C hA hZ hr hlocks rfl dX9_addChannel_59 (Nat.le_of_ble_eq_true rfl) (Nat.le_of_ble_eq_true rfl) hw8 ⟨_, rfl, hc9, h⟩
    · replace h := h.2 z3
      refine xi_aload_n C 0 dX9_addChannel_23 rfl rfl ?_
      refine xi_iconst C (v := 2) dX9_addChannel_24 rfl ?_
      refine xc_Vi C hw1 (c_X9_fails l D ca ad tF 2 S3 _ (by decide) h) xk_X9_fails xv_X9_fails xl_X9_297 ⟨Nat.le_of_ble_eq_true rfl, Nat.le_of_ble_eq_true rfl⟩ xK_X9 (q := 54) rfl rfl rfl (Nat.le_of_ble_eq_true rfl) ⟨Nat.le_of_ble_eq_true rfl, Nat.le_of_ble_eq_true rfl⟩ dX9_addChannel_25 (fun r25 S25 h_r25 h hw10 => ?_)
      exact xr_i C hA hZ hr hlocks rfl dX9_addChannel_28 (Nat.le_of_ble_eq_true rfl) (Nat.le_of_ble_eq_true rfl) hw10 ⟨_, rfl, h_r25, h⟩
  · replace h := h.2 z2
    refine xi_aload_n C 0 dX9_addChannel_9 rfl rfl ?_
    refine xi_iconst C (v := 1) dX9_addChannel_10 rfl ?_
    refine xc_Vi C hw1 (c_X9_fails l D ca ad tF 1 S3 _ (by decide) h) xk_X9_fails xv_X9_fails xl_X9_297 ⟨Nat.le_of_ble_eq_true rfl, Nat.le_of_ble_eq_true rfl⟩ xK_X9 (q := 54) rfl rfl rfl (Nat.le_of_ble_eq_true rfl) ⟨Nat.le_of_ble_eq_true rfl, Nat.le_of_ble_eq_true rfl⟩ dX9_addChannel_11 (fun r11 S11 h_r11 h hw11 => ?_)
    exact xr_i C hA hZ hr hlocks rfl dX9_addChannel_14 (Nat.le_of_ble_eq_true rfl) (Nat.le_of_ble_eq_true rfl) hw11 ⟨_, rfl, h_r11, h⟩
set_option maxRecDepth 100000 in
set_option maxHeartbeats 4000000 in
theorem c_X9_setStart (l : Launch) (D : va_G) (ca : Nat → ClassId) (ad : Nat → Nat) (tF : Nat) (a1 : Int) (a2 : Int) (S : xS) (Q : Int → xS → Prop) (h_a1 : xR a1) (h_a2 : xR a2) (h : w_X9_setStart a1 a2 S Q) : xM l yX9_setStart (xws yX9_setStart cX9_setStart 4 (some .int)) ({ frames := 1, cells := 0, slots := 0, locals := 22 }) (gC D ca ad tF) [.ref (ad 54), .int (iN a1), .int (iN a2)] S (xQi Q) 0 0 := by
  refine xm_of RX9 rfl (by decide +kernel) (Nat.le_of_ble_eq_true rfl) ?_
  intro p e s m args below meth c A Z C hA hZ hr hlocks hw
  unfold w_X9_setStart at h
  show xV (gC D ca ad tF) p l e ({ frames := 1, cells := 0, slots := 0, locals := 22 }) s m args below meth c A 4 Z 0 0 0 [(0, .ref (ad 54)), (1, .int (iN a1)), (2, .int (iN a2))] [] S
  refine xi_iload_n C 1 dX9_setStart_0 rfl rfl ?_
  refine xi_iconst C (v := 0) dX9_setStart_1 rfl ?_
  refine xi_bipush C (v := 8) dX9_setStart_2 (by decide +kernel) ?_
  refine xc_Si C hw (c_X9_in l D ca ad tF a1 0 8 S _ h_a1 (by decide) (by decide) h) xk_X9_in xs_X9_in xl_X9_294 ⟨Nat.le_of_ble_eq_true rfl, Nat.le_of_ble_eq_true rfl⟩ rfl rfl (Nat.le_of_ble_eq_true rfl) ⟨Nat.le_of_ble_eq_true rfl, Nat.le_of_ble_eq_true rfl⟩ dX9_setStart_4 (fun r4 S4 h_r4 h hw1 => ?_)
  refine xJ0_w (fun  S19 => xval (gC D ca ad tF) S19 → xV (gC D ca ad tF) p l e ({ frames := 1, cells := 0, slots := 0, locals := 22 }) s m args below meth c A 4 Z 0 0 19 [(0, .ref (ad 54))] [] S19) h (fun  S19 h  hw19 => ?_) (fun j19 hj19 h => ?_)
  · unfold w_X9_setStart_J19 at h
    refine xi_aload_n C 0 dX9_setStart_19 rfl rfl ?_
    refine xi_iconst C (v := 1) dX9_setStart_20 rfl ?_
    refine xc_Vi C hw19 (c_X9_fails l D ca ad tF 1 S19 _ (by decide) h) xk_X9_fails xv_X9_fails xl_X9_297 ⟨Nat.le_of_ble_eq_true rfl, Nat.le_of_ble_eq_true rfl⟩ xK_X9 (q := 54) rfl rfl rfl (Nat.le_of_ble_eq_true rfl) ⟨Nat.le_of_ble_eq_true rfl, Nat.le_of_ble_eq_true rfl⟩ dX9_setStart_21 (fun r21 S21 h_r21 h hw3 => ?_)
    exact xr_i C hA hZ hr hlocks rfl dX9_setStart_24 (Nat.le_of_ble_eq_true rfl) (Nat.le_of_ble_eq_true rfl) hw3 ⟨_, rfl, h_r21, h⟩
  · refine xi_if_eq C 19 h_r4 dX9_setStart_7 (by decide) (fun z2 => ?_) (fun z2 => ?_)
    · replace h := h.1 z2
      exact xi_sub [0] rfl (hj19 S4 h hw1)
    · replace h := h.2 z2
      refine xi_iload_n C 2 dX9_setStart_10 rfl rfl ?_
      refine xi_iconst C (v := 0) dX9_setStart_11 rfl ?_
      refine xi_iconst C (v := 3) dX9_setStart_12 rfl ?_
      refine xc_Si C hw1 (c_X9_in l D ca ad tF a2 0 3 S4 _ h_a2 (by decide) (by decide) h) xk_X9_in xs_X9_in xl_X9_294 ⟨Nat.le_of_ble_eq_true rfl, Nat.le_of_ble_eq_true rfl⟩ rfl rfl (Nat.le_of_ble_eq_true rfl) ⟨Nat.le_of_ble_eq_true rfl, Nat.le_of_ble_eq_true rfl⟩ dX9_setStart_13 (fun r13 S13 h_r13 h hw4 => ?_)
      refine xi_if_ne C 25 h_r13 dX9_setStart_16 (by decide) (fun z5 => ?_) (fun z5 => ?_)
      · replace h := h.1 z5
        refine xi_aload_n C 0 dX9_setStart_25 rfl rfl ?_
        refine xc_Vv C hw4 (c_X9_drops l D ca ad tF S13 _ h) xk_X9_drops xv_X9_drops xl_X9_300 ⟨Nat.le_of_ble_eq_true rfl, Nat.le_of_ble_eq_true rfl⟩ xK_X9 (q := 54) rfl rfl rfl (Nat.le_of_ble_eq_true rfl) ⟨Nat.le_of_ble_eq_true rfl, Nat.le_of_ble_eq_true rfl⟩ dX9_setStart_26 (fun S26 h hw6 => ?_)
        refine xi_aload_n C 0 dX9_setStart_29 rfl rfl ?_
        refine xi_getR C xK_X9 (q := 54) (r := 62) rfl 22 (by decide) (ki := 22) rfl xl_X9_31 rfl dX9_setStart_30 ?_
        refine xi_iload_n C 1 dX9_setStart_33 rfl rfl ?_
        obtain ⟨hc7, h⟩ := h
        refine xi_iaload C (q := 62) rfl (by decide) hc7 dX9_setStart_34 ?_
        refine xi_istore_n C (L' := [(3, .int (iN (S26 62 a1))), (0, .ref (ad 54)), (1, .int (iN a1)), (2, .int (iN a2))]) dX9_setStart_35 rfl (by decide) rfl ?_
        refine xi_aload_n C 1 dX9_setStart_36 rfl rfl ?_
        refine xi_getR C xK_X9 (q := 54) (r := 62) rfl 22 (by decide) (ki := 22) rfl xl_X9_31 rfl dX9_setStart_37 ?_
        refine xi_iload_n C 2 dX9_setStart_40 rfl rfl ?_
        refine xi_iload_n C 3 dX9_setStart_41 rfl rfl ?_
        refine xi_iastore C (q := 62) rfl (by decide) hc7 dX9_setStart_42 ?_
        have hw8 := xval.up (q := 62) (i := a1) (v := a2) hw6 rfl h_a2
        refine xi_iload_n C 0 dX9_setStart_43 rfl rfl ?_
        exact xr_i C hA hZ hr hlocks rfl dX9_setStart_44 (Nat.le_of_ble_eq_true rfl) (Nat.le_of_ble_eq_true rfl) hw8 ⟨_, rfl, (xval.i (q := 62) (i := a1) hw6 hc7.1 rfl), h⟩
      · replace h := h.2 z5
        exact xi_sub [0] rfl (hj19 S13 h hw4)
set_option maxRecDepth 100000 in
set_option maxHeartbeats 4000000 in
theorem c_X9_setMarks (l : Launch) (D : va_G) (ca : Nat → ClassId) (ad : Nat → Nat) (tF : Nat) (a1 : Int) (a2 : Int) (a3 : Int) (a4 : Int) (S : xS) (Q : Int → xS → Prop) (h_a1 : xR a1) (h_a2 : xR a2) (h_a3 : xR a3) (h_a4 : xR a4) (h : w_X9_setMarks a1 a2 a3 a4 S Q) : xM l yX9_setMarks (xws yX9_setMarks cX9_setMarks 7 (some .boolean)) ({ frames := 2, cells := 0, slots := 0, locals := 43 }) (gC D ca ad tF) [.ref (ad 54), .int (iN a1), .int (iN a2), .int (iN a3), .int (iN a4)] S (xQi Q) 0 0 := by
  refine xm_of RX9 rfl (by decide +kernel) (Nat.le_of_ble_eq_true rfl) ?_
  intro p e s m args below meth c A Z C hA hZ hr hlocks hw
  unfold w_X9_setMarks at h
  show xV (gC D ca ad tF) p l e ({ frames := 2, cells := 0, slots := 0, locals := 43 }) s m args below meth c A 7 Z 0 0 0 [(0, .ref (ad 54)), (1, .int (iN a1)), (2, .int (iN a2)), (3, .int (iN a3)), (4, .int (iN a4))] [] S
  refine xi_aload_n C 0 dX9_setMarks_0 rfl rfl ?_
  refine xi_aload_n C 0 dX9_setMarks_1 rfl rfl ?_
  refine xi_iload_n C 1 dX9_setMarks_2 rfl rfl ?_
  refine xc_Vi C hw (c_X9_isProcess l D ca ad tF a1 S _ h_a1 h) xk_X9_isProcess xv_X9_isProcess xl_X9_309 ⟨Nat.le_of_ble_eq_true rfl, Nat.le_of_ble_eq_true rfl⟩ xK_X9 (q := 54) rfl rfl rfl (Nat.le_of_ble_eq_true rfl) ⟨Nat.le_of_ble_eq_true rfl, Nat.le_of_ble_eq_true rfl⟩ dX9_setMarks_3 (fun r3 S3 h_r3 h hw1 => ?_)
  refine xJ1_w (fun t0_28 S28 => xR t0_28 → xval (gC D ca ad tF) S28 → xV (gC D ca ad tF) p l e ({ frames := 2, cells := 0, slots := 0, locals := 43 }) s m args below meth c A 7 Z 0 0 28 [(0, .ref (ad 54)), (1, .int (iN a1)), (2, .int (iN a2)), (3, .int (iN a3)), (4, .int (iN a4))] [.int (iN t0_28), .ref (ad 54)] S28) h (fun t0_28 S28 h h_t0_28 hw28 => ?_) (fun j28 hj28 h => ?_)
  · unfold w_X9_setMarks_J28 at h
    refine xi_putI C xK_X9 (q := 54) (r := 0) rfl 0 (by decide) (ki := 0) rfl xl_X9_142 rfl rfl rfl dX9_setMarks_28 ?_
    have hw3 := xval.up (q := 54) (i := 0) (v := t0_28) hw28 rfl h_t0_28
    refine xi_aload_n C 0 dX9_setMarks_31 rfl rfl ?_
    refine xi_getI C xK_X9 (q := 54) (r := 0) rfl 0 (by decide) (ki := 0) rfl xl_X9_142 rfl dX9_setMarks_32 ?_
    refine xi_if_le C 40 (xval.i (q := 54) (i := 0) hw3 (by decide) rfl) dX9_setMarks_35 (by decide) (fun z4 => ?_) (fun z4 => ?_)
    · replace h := h.1 z4
      refine xi_aload_n C 0 dX9_setMarks_40 rfl rfl ?_
      refine xc_Vv C hw3 (c_X9_drops l D ca ad tF (xup S28 54 0 t0_28) _ h) xk_X9_drops xv_X9_drops xl_X9_300 ⟨Nat.le_of_ble_eq_true rfl, Nat.le_of_ble_eq_true rfl⟩ xK_X9 (q := 54) rfl rfl rfl (Nat.le_of_ble_eq_true rfl) ⟨Nat.le_of_ble_eq_true rfl, Nat.le_of_ble_eq_true rfl⟩ dX9_setMarks_41 (fun S41 h hw5 => ?_)
      refine xi_bipush C (v := 12) dX9_setMarks_44 (by decide +kernel) ?_
      refine xi_iload_n C 1 dX9_setMarks_46 rfl rfl ?_
      refine xi_imul C dX9_setMarks_47 ?_
      refine xi_iload_n C 2 dX9_setMarks_48 rfl rfl ?_
      refine xi_iadd C dX9_setMarks_49 ?_
      refine xi_istore C (L' := [(5, .int (iN ((12 * a1) + a2))), (0, .ref (ad 54)), (1, .int (iN a1)), (2, .int (iN a2)), (3, .int (iN a3)), (4, .int (iN a4))]) dX9_setMarks_50 (by decide) rfl ?_
      refine xi_aload_n C 1 dX9_setMarks_52 rfl rfl ?_
      refine xi_getR C xK_X9 (q := 54) (r := 65) rfl 25 (by decide) (ki := 25) rfl xl_X9_40 rfl dX9_setMarks_53 ?_
      refine xi_iload C 0 dX9_setMarks_56 rfl ?_
      obtain ⟨hc6, h⟩ := h
      refine xi_baload C (q := 65) rfl (by decide) hc6 dX9_setMarks_58 ?_
      refine xi_iload_n C 4 dX9_setMarks_59 rfl rfl ?_
      refine xJ1_w (fun t0_80 S80 => xR t0_80 → xval (gC D ca ad tF) S80 → xV (gC D ca ad tF) p l e ({ frames := 2, cells := 0, slots := 0, locals := 43 }) s m args below meth c A 7 Z 0 0 80 [(0, .ref (ad 54)), (3, .int (iN a3)), (4, .int (iN a4)), (5, .int (iN ((12 * a1) + a2)))] [.int (iN t0_80)] S80) h (fun t0_80 S80 h h_t0_80 hw80 => ?_) (fun j80 hj80 h => ?_)
      · unfold w_X9_setMarks_J80 at h
        refine xi_istore C (L' := [(6, .int (iN t0_80)), (0, .ref (ad 54)), (3, .int (iN a3)), (4, .int (iN a4)), (5, .int (iN ((12 * a1) + a2)))]) dX9_setMarks_80 (by decide) rfl ?_
        refine xi_aload_n C 1 dX9_setMarks_82 rfl rfl ?_
        refine xi_getR C xK_X9 (q := 54) (r := 65) rfl 25 (by decide) (ki := 25) rfl xl_X9_40 rfl dX9_setMarks_83 ?_
        refine xi_iload C 4 dX9_setMarks_86 rfl ?_
        refine xi_iload_n C 2 dX9_setMarks_88 rfl rfl ?_
        obtain ⟨hc8, h⟩ := h
        refine xi_bastore C (q := 65) rfl (by decide) hc6 hc8 dX9_setMarks_89 ?_
        have hw9 := xval.up (q := 65) (i := (12 * a1) + a2) (v := a3) hw80 rfl h_a3
        refine xi_aload_n C 1 dX9_setMarks_90 rfl rfl ?_
        refine xi_getR C xK_X9 (q := 54) (r := 66) rfl 26 (by decide) (ki := 26) rfl xl_X9_44 rfl dX9_setMarks_91 ?_
        refine xi_iload C 4 dX9_setMarks_94 rfl ?_
        refine xi_iload C 3 dX9_setMarks_96 rfl ?_
        obtain ⟨hc10, h⟩ := h
        refine xi_bastore C (q := 66) rfl (by decide) hc6 hc10 dX9_setMarks_98 ?_
        have hw11 := xval.up (q := 66) (i := (12 * a1) + a2) (v := a4) hw9 rfl h_a4
        refine xi_iload C 0 dX9_setMarks_99 rfl ?_
        obtain ⟨hc12, h⟩ := h
        exact xr_i C hA hZ hr hlocks (xnarZ hc12).1 dX9_setMarks_101 (Nat.le_of_ble_eq_true rfl) (Nat.le_of_ble_eq_true rfl) hw11 ⟨_, rfl, h_t0_80, h⟩
      · refine xJ0_w (fun  S75 => xval (gC D ca ad tF) S75 → xV (gC D ca ad tF) p l e ({ frames := 2, cells := 0, slots := 0, locals := 43 }) s m args below meth c A 7 Z 0 0 75 [(0, .ref (ad 54)), (3, .int (iN a3)), (4, .int (iN a4)), (5, .int (iN ((12 * a1) + a2)))] [] S75) h (fun  S75 h  hw75 => ?_) (fun j75 hj75 h => ?_)
        · unfold w_X9_setMarks_J75 at h
          refine xi_iconst C (v := 1) dX9_setMarks_75 rfl ?_
          refine xi_goto C 80 dX9_setMarks_76 (by decide) ?_
          exact xi_sub [0, 1, 2, 3] rfl (hj80 1 S75 h (by decide) hw75)
        · refine xi_icmp_ne C 75 (xval.i (q := 65) (i := (12 * a1) + a2) hw5 hc6.1 rfl) h_a3 dX9_setMarks_60 (by decide) (fun z7 => ?_) (fun z7 => ?_)
          · replace h := h.1 z7
            exact xi_sub [1, 4, 5, 0] rfl (hj75 S41 h hw5)
          · replace h := h.2 z7
            refine xi_aload_n C 1 dX9_setMarks_63 rfl rfl ?_
            refine xi_getR C xK_X9 (q := 54) (r := 66) rfl 26 (by decide) (ki := 26) rfl xl_X9_44 rfl dX9_setMarks_64 ?_
            refine xi_iload C 0 dX9_setMarks_67 rfl ?_
            refine xi_baload C (q := 66) rfl (by decide) hc6 dX9_setMarks_69 ?_
            refine xi_iload C 5 dX9_setMarks_70 rfl ?_
            refine xi_icmp_eq C 79 (xval.i (q := 66) (i := (12 * a1) + a2) hw5 hc6.1 rfl) h_a4 dX9_setMarks_72 (by decide) (fun z13 => ?_) (fun z13 => ?_)
            · replace h := h.1 z13
              refine xi_iconst C (v := 0) dX9_setMarks_79 rfl ?_
              exact xi_sub [1, 4, 5, 0] rfl (hj80 0 S41 h (by decide) hw5)
            · replace h := h.2 z13
              exact xi_sub [1, 4, 5, 0] rfl (hj75 S41 h hw5)
    · replace h := h.2 z4
      refine xi_iconst C (v := 0) dX9_setMarks_38 rfl ?_
      exact xr_i C hA hZ hr hlocks (xnarZ (Or.inl rfl)).1 dX9_setMarks_39 (Nat.le_of_ble_eq_true rfl) (Nat.le_of_ble_eq_true rfl) hw3 ⟨_, rfl, (by decide), h⟩
  · refine xi_if_ne C 13 h_r3 dX9_setMarks_6 (by decide) (fun z2 => ?_) (fun z2 => ?_)
    · replace h := h.1 z2
      refine xi_iload_n C 2 dX9_setMarks_13 rfl rfl ?_
      refine xi_iconst C (v := 0) dX9_setMarks_14 rfl ?_
      refine xi_bipush C (v := 11) dX9_setMarks_15 (by decide +kernel) ?_
      refine xc_Si C hw1 (c_X9_in l D ca ad tF a2 0 11 S3 _ h_a2 (by decide) (by decide) h) xk_X9_in xs_X9_in xl_X9_294 ⟨Nat.le_of_ble_eq_true rfl, Nat.le_of_ble_eq_true rfl⟩ rfl rfl (Nat.le_of_ble_eq_true rfl) ⟨Nat.le_of_ble_eq_true rfl, Nat.le_of_ble_eq_true rfl⟩ dX9_setMarks_17 (fun r17 S17 h_r17 h hw14 => ?_)
      refine xi_if_ne C 27 h_r17 dX9_setMarks_20 (by decide) (fun z15 => ?_) (fun z15 => ?_)
      · replace h := h.1 z15
        refine xi_iconst C (v := 0) dX9_setMarks_27 rfl ?_
        exact xi_sub [0, 1, 2, 3, 4] rfl (hj28 0 S17 h (by decide) hw14)
      · replace h := h.2 z15
        refine xi_iconst C (v := 2) dX9_setMarks_23 rfl ?_
        refine xi_goto C 28 dX9_setMarks_24 (by decide) ?_
        exact xi_sub [0, 1, 2, 3, 4] rfl (hj28 2 S17 h (by decide) hw14)
    · replace h := h.2 z2
      refine xi_iconst C (v := 1) dX9_setMarks_9 rfl ?_
      refine xi_goto C 28 dX9_setMarks_10 (by decide) ?_
      exact xi_sub [0, 1, 2, 3, 4] rfl (hj28 1 S3 h (by decide) hw1)
set_option maxRecDepth 100000 in
set_option maxHeartbeats 4000000 in
theorem c_X9_addInvariant (l : Launch) (D : va_G) (ca : Nat → ClassId) (ad : Nat → Nat) (tF : Nat) (a1 : Int) (a2 : Int) (S : xS) (Q : Int → xS → Prop) (h_a1 : xR a1) (h_a2 : xR a2) (h : w_X9_addInvariant a1 a2 S Q) : xM l yX9_addInvariant (xws yX9_addInvariant cX9_addInvariant 3 (some .int)) ({ frames := 1, cells := 0, slots := 0, locals := 22 }) (gC D ca ad tF) [.ref (ad 54), .int (iN a1), .int (iN a2)] S (xQi Q) 0 0 := by
  refine xm_of RX9 rfl (by decide +kernel) (Nat.le_of_ble_eq_true rfl) ?_
  intro p e s m args below meth c A Z C hA hZ hr hlocks hw
  unfold w_X9_addInvariant at h
  show xV (gC D ca ad tF) p l e ({ frames := 1, cells := 0, slots := 0, locals := 22 }) s m args below meth c A 3 Z 0 0 0 [(0, .ref (ad 54)), (1, .int (iN a1)), (2, .int (iN a2))] [] S
  refine xi_iload_n C 1 dX9_addInvariant_0 rfl rfl ?_
  refine xi_iconst C (v := 0) dX9_addInvariant_1 rfl ?_
  refine xi_bipush C (v := 8) dX9_addInvariant_2 (by decide +kernel) ?_
  refine xc_Si C hw (c_X9_in l D ca ad tF a1 0 8 S _ h_a1 (by decide) (by decide) h) xk_X9_in xs_X9_in xl_X9_294 ⟨Nat.le_of_ble_eq_true rfl, Nat.le_of_ble_eq_true rfl⟩ rfl rfl (Nat.le_of_ble_eq_true rfl) ⟨Nat.le_of_ble_eq_true rfl, Nat.le_of_ble_eq_true rfl⟩ dX9_addInvariant_4 (fun r4 S4 h_r4 h hw1 => ?_)
  refine xJ0_w (fun  S19 => xval (gC D ca ad tF) S19 → xV (gC D ca ad tF) p l e ({ frames := 1, cells := 0, slots := 0, locals := 22 }) s m args below meth c A 3 Z 0 0 19 [(0, .ref (ad 54))] [] S19) h (fun  S19 h  hw19 => ?_) (fun j19 hj19 h => ?_)
  · unfold w_X9_addInvariant_J19 at h
    refine xi_aload_n C 0 dX9_addInvariant_19 rfl rfl ?_
    refine xi_iconst C (v := 1) dX9_addInvariant_20 rfl ?_
    refine xc_Vi C hw19 (c_X9_fails l D ca ad tF 1 S19 _ (by decide) h) xk_X9_fails xv_X9_fails xl_X9_297 ⟨Nat.le_of_ble_eq_true rfl, Nat.le_of_ble_eq_true rfl⟩ xK_X9 (q := 54) rfl rfl rfl (Nat.le_of_ble_eq_true rfl) ⟨Nat.le_of_ble_eq_true rfl, Nat.le_of_ble_eq_true rfl⟩ dX9_addInvariant_21 (fun r21 S21 h_r21 h hw3 => ?_)
    exact xr_i C hA hZ hr hlocks rfl dX9_addInvariant_24 (Nat.le_of_ble_eq_true rfl) (Nat.le_of_ble_eq_true rfl) hw3 ⟨_, rfl, h_r21, h⟩
  · refine xi_if_eq C 19 h_r4 dX9_addInvariant_7 (by decide) (fun z2 => ?_) (fun z2 => ?_)
    · replace h := h.1 z2
      exact xi_sub [0] rfl (hj19 S4 h hw1)
    · replace h := h.2 z2
      refine xi_iload_n C 2 dX9_addInvariant_10 rfl rfl ?_
      refine xi_iconst C (v := 0) dX9_addInvariant_11 rfl ?_
      refine xi_iconst C (v := 3) dX9_addInvariant_12 rfl ?_
      refine xc_Si C hw1 (c_X9_in l D ca ad tF a2 0 3 S4 _ h_a2 (by decide) (by decide) h) xk_X9_in xs_X9_in xl_X9_294 ⟨Nat.le_of_ble_eq_true rfl, Nat.le_of_ble_eq_true rfl⟩ rfl rfl (Nat.le_of_ble_eq_true rfl) ⟨Nat.le_of_ble_eq_true rfl, Nat.le_of_ble_eq_true rfl⟩ dX9_addInvariant_13 (fun r13 S13 h_r13 h hw4 => ?_)
      refine xi_if_ne C 25 h_r13 dX9_addInvariant_16 (by decide) (fun z5 => ?_) (fun z5 => ?_)
      · replace h := h.1 z5
        refine xi_aload_n C 0 dX9_addInvariant_25 rfl rfl ?_
        refine xi_getI C xK_X9 (q := 54) (r := 0) rfl 3 (by decide) (ki := 3) rfl xl_X9_227 rfl dX9_addInvariant_26 ?_
        refine xi_iconst C (v := 4) dX9_addInvariant_29 rfl ?_
        refine xi_icmp_ne C 39 (xval.i (q := 54) (i := 3) hw4 (by decide) rfl) (by decide) dX9_addInvariant_30 (by decide) (fun z6 => ?_) (fun z6 => ?_)
        · replace h := h.1 z6
          refine xi_aload_n C 0 dX9_addInvariant_39 rfl rfl ?_
          refine xc_Vv C hw4 (c_X9_drops l D ca ad tF S13 _ h) xk_X9_drops xv_X9_drops xl_X9_300 ⟨Nat.le_of_ble_eq_true rfl, Nat.le_of_ble_eq_true rfl⟩ xK_X9 (q := 54) rfl rfl rfl (Nat.le_of_ble_eq_true rfl) ⟨Nat.le_of_ble_eq_true rfl, Nat.le_of_ble_eq_true rfl⟩ dX9_addInvariant_40 (fun S40 h hw7 => ?_)
          refine xi_aload_n C 0 dX9_addInvariant_43 rfl rfl ?_
          refine xi_getR C xK_X9 (q := 54) (r := 63) rfl 23 (by decide) (ki := 23) rfl xl_X9_34 rfl dX9_addInvariant_44 ?_
          refine xi_aload_n C 0 dX9_addInvariant_47 rfl rfl ?_
          refine xi_getI C xK_X9 (q := 54) (r := 0) rfl 3 (by decide) (ki := 3) rfl xl_X9_227 rfl dX9_addInvariant_48 ?_
          refine xi_iload_n C 1 dX9_addInvariant_51 rfl rfl ?_
          obtain ⟨hc8, h⟩ := h
          refine xi_iastore C (q := 63) rfl (by decide) hc8 dX9_addInvariant_52 ?_
          have hw9 := xval.up (q := 63) (i := S40 54 3) (v := a1) hw7 rfl h_a1
          refine xi_aload_n C 0 dX9_addInvariant_53 rfl rfl ?_
          refine xi_getR C xK_X9 (q := 54) (r := 64) rfl 24 (by decide) (ki := 24) rfl xl_X9_37 rfl dX9_addInvariant_54 ?_
          refine xi_aload_n C 0 dX9_addInvariant_57 rfl rfl ?_
          refine xi_getI C xK_X9 (q := 54) (r := 0) rfl 3 (by decide) (ki := 3) rfl xl_X9_227 rfl dX9_addInvariant_58 ?_
          refine xi_iload_n C 2 dX9_addInvariant_61 rfl rfl ?_
          refine xi_iastore C (q := 64) rfl (by decide) hc8 dX9_addInvariant_62 ?_
          have hw10 := xval.up (q := 64) (i := S40 54 3) (v := a2) hw9 rfl h_a2
          refine xi_aload_n C 0 dX9_addInvariant_63 rfl rfl ?_
          refine xi_dup C dX9_addInvariant_64 rfl ?_
          refine xi_getI C xK_X9 (q := 54) (r := 0) rfl 3 (by decide) (ki := 3) rfl xl_X9_227 rfl dX9_addInvariant_65 ?_
          refine xi_iconst C (v := 1) dX9_addInvariant_68 rfl ?_
          refine xi_iadd C dX9_addInvariant_69 ?_
          obtain ⟨hc11, h⟩ := h
          refine xi_putI C xK_X9 (q := 54) (r := 0) rfl 3 (by decide) (ki := 3) rfl xl_X9_227 rfl rfl rfl dX9_addInvariant_70 ?_
          have hw12 := xval.up (q := 54) (i := 3) (v := (S40 54 3) + 1) hw10 rfl hc11
          refine xi_aload_n C 0 dX9_addInvariant_73 rfl rfl ?_
          refine xi_getI C xK_X9 (q := 54) (r := 0) rfl 3 (by decide) (ki := 3) rfl xl_X9_227 rfl dX9_addInvariant_74 ?_
          exact xr_i C hA hZ hr hlocks rfl dX9_addInvariant_77 (Nat.le_of_ble_eq_true rfl) (Nat.le_of_ble_eq_true rfl) hw12 ⟨_, rfl, (xval.i (q := 54) (i := 3) hw12 (by decide) rfl), h⟩
        · replace h := h.2 z6
          refine xi_aload_n C 0 dX9_addInvariant_33 rfl rfl ?_
          refine xi_iconst C (v := 2) dX9_addInvariant_34 rfl ?_
          refine xc_Vi C hw4 (c_X9_fails l D ca ad tF 2 S13 _ (by decide) h) xk_X9_fails xv_X9_fails xl_X9_297 ⟨Nat.le_of_ble_eq_true rfl, Nat.le_of_ble_eq_true rfl⟩ xK_X9 (q := 54) rfl rfl rfl (Nat.le_of_ble_eq_true rfl) ⟨Nat.le_of_ble_eq_true rfl, Nat.le_of_ble_eq_true rfl⟩ dX9_addInvariant_35 (fun r35 S35 h_r35 h hw13 => ?_)
          exact xr_i C hA hZ hr hlocks rfl dX9_addInvariant_38 (Nat.le_of_ble_eq_true rfl) (Nat.le_of_ble_eq_true rfl) hw13 ⟨_, rfl, h_r35, h⟩
      · replace h := h.2 z5
        exact xi_sub [0] rfl (hj19 S13 h hw4)
set_option maxRecDepth 100000 in
set_option maxHeartbeats 4000000 in
theorem c_X9_swapped (l : Launch) (D : va_G) (ca : Nat → ClassId) (ad : Nat → Nat) (tF : Nat) (a0 : Int) (a1 : Int) (a2 : Int) (S : xS) (Q : Int → xS → Prop) (h_a0 : xR a0) (h_a1 : xR a1) (h_a2 : xR a2) (h : w_X9_swapped a0 a1 a2 S Q) : xM l yX9_swapped (xws yX9_swapped cX9_swapped 3 (some .int)) ({ frames := 0, cells := 0, slots := 0, locals := 0 }) (gC D ca ad tF) [.int (iN a0), .int (iN a1), .int (iN a2)] S (xQi Q) 0 0 := by
  refine xm_of RX9 rfl (by decide +kernel) (Nat.le_of_ble_eq_true rfl) ?_
  intro p e s m args below meth c A Z C hA hZ hr hlocks hw
  unfold w_X9_swapped at h
  show xV (gC D ca ad tF) p l e ({ frames := 0, cells := 0, slots := 0, locals := 0 }) s m args below meth c A 3 Z 0 0 0 [(0, .int (iN a0)), (1, .int (iN a1)), (2, .int (iN a2))] [] S
  refine xi_iload_n C 0 dX9_swapped_0 rfl rfl ?_
  refine xi_iconst C (v := 3) dX9_swapped_1 rfl ?_
  refine xi_icmp_ge C 9 h_a0 (by decide) dX9_swapped_2 (by decide) (fun z1 => ?_) (fun z1 => ?_)
  · replace h := h.1 z1
    refine xi_iload_n C 0 dX9_swapped_9 rfl rfl ?_
    refine xi_iconst C (v := 3) dX9_swapped_10 rfl ?_
    refine xi_isub C dX9_swapped_11 ?_
    refine xi_iconst C (v := 2) dX9_swapped_12 rfl ?_
    refine xi_iload_n C 1 dX9_swapped_13 rfl rfl ?_
    refine xi_imul C dX9_swapped_14 ?_
    refine xi_isub C dX9_swapped_15 ?_
    refine xi_iconst C (v := 3) dX9_swapped_16 rfl ?_
    refine xi_iadd C dX9_swapped_17 ?_
    refine xi_iconst C (v := 2) dX9_swapped_18 rfl ?_
    refine xi_iload_n C 2 dX9_swapped_19 rfl rfl ?_
    refine xi_imul C dX9_swapped_20 ?_
    refine xi_iadd C dX9_swapped_21 ?_
    obtain ⟨hc2, h⟩ := h
    exact xr_i C hA hZ hr hlocks rfl dX9_swapped_22 (Nat.le_of_ble_eq_true rfl) (Nat.le_of_ble_eq_true rfl) hw ⟨_, rfl, hc2, h⟩
  · replace h := h.2 z1
    refine xi_iload_n C 0 dX9_swapped_5 rfl rfl ?_
    refine xi_goto C 22 dX9_swapped_6 (by decide) ?_
    exact xr_i C hA hZ hr hlocks rfl dX9_swapped_22 (Nat.le_of_ble_eq_true rfl) (Nat.le_of_ble_eq_true rfl) hw ⟨_, rfl, h_a0, h⟩
set_option maxRecDepth 100000 in
set_option maxHeartbeats 4000000 in
theorem c_X9_isLikeStep (l : Launch) (D : va_G) (ca : Nat → ClassId) (ad : Nat → Nat) (tF : Nat) (a1 : Int) (a2 : Int) (a3 : Int) (S : xS) (Q : Int → xS → Prop) (h_a1 : xR a1) (h_a2 : xR a2) (h_a3 : xR a3) (h : w_X9_isLikeStep a1 a2 a3 S Q) : xM l yX9_isLikeStep (xws yX9_isLikeStep cX9_isLikeStep 7 (some .boolean)) ({ frames := 1, cells := 0, slots := 0, locals := 22 }) (gC D ca ad tF) [.ref (ad 54), .int (iN a1), .int (iN a2), .int (iN a3)] S (xQi Q) 0 0 := by
  refine xm_of RX9 rfl (by decide +kernel) (Nat.le_of_ble_eq_true rfl) ?_
  intro p e s m args below meth c A Z C hA hZ hr hlocks hw
  unfold w_X9_isLikeStep at h
  show xV (gC D ca ad tF) p l e ({ frames := 1, cells := 0, slots := 0, locals := 22 }) s m args below meth c A 7 Z 0 0 0 [(0, .ref (ad 54)), (1, .int (iN a1)), (2, .int (iN a2)), (3, .int (iN a3))] [] S
  refine xi_bipush C (v := 14) dX9_isLikeStep_0 (by decide +kernel) ?_
  refine xi_iload_n C 1 dX9_isLikeStep_2 rfl rfl ?_
  refine xi_imul C dX9_isLikeStep_3 ?_
  refine xi_iload_n C 3 dX9_isLikeStep_4 rfl rfl ?_
  refine xi_iadd C dX9_isLikeStep_5 ?_
  refine xi_istore C (L' := [(4, .int (iN ((14 * a1) + a3))), (0, .ref (ad 54)), (1, .int (iN a1)), (2, .int (iN a2)), (3, .int (iN a3))]) dX9_isLikeStep_6 (by decide) rfl ?_
  refine xi_bipush C (v := 14) dX9_isLikeStep_8 (by decide +kernel) ?_
  refine xi_iload_n C 3 dX9_isLikeStep_10 rfl rfl ?_
  refine xi_imul C dX9_isLikeStep_11 ?_
  refine xi_iload_n C 4 dX9_isLikeStep_12 rfl rfl ?_
  refine xi_iadd C dX9_isLikeStep_13 ?_
  refine xi_istore C (L' := [(5, .int (iN ((14 * a2) + a3))), (4, .int (iN ((14 * a1) + a3))), (0, .ref (ad 54)), (1, .int (iN a1)), (2, .int (iN a2)), (3, .int (iN a3))]) dX9_isLikeStep_14 (by decide) rfl ?_
  refine xi_aload_n C 2 dX9_isLikeStep_16 rfl rfl ?_
  refine xi_getR C xK_X9 (q := 54) (r := 56) rfl 16 (by decide) (ki := 16) rfl xl_X9_13 rfl dX9_isLikeStep_17 ?_
  refine xi_iload C 1 dX9_isLikeStep_20 rfl ?_
  obtain ⟨hc1, h⟩ := h
  refine xi_iaload C (q := 56) rfl (by decide) hc1 dX9_isLikeStep_22 ?_
  refine xi_aload_n C 2 dX9_isLikeStep_23 rfl rfl ?_
  refine xi_getR C xK_X9 (q := 54) (r := 56) rfl 16 (by decide) (ki := 16) rfl xl_X9_13 rfl dX9_isLikeStep_24 ?_
  refine xi_iload C 0 dX9_isLikeStep_27 rfl ?_
  obtain ⟨hc2, h⟩ := h
  refine xi_iaload C (q := 56) rfl (by decide) hc2 dX9_isLikeStep_29 ?_
  refine xJ1_w (fun t0_72 S72 => xR t0_72 → xval (gC D ca ad tF) S72 → xV (gC D ca ad tF) p l e ({ frames := 1, cells := 0, slots := 0, locals := 22 }) s m args below meth c A 7 Z 0 0 72 [(0, .ref (ad 54)), (1, .int (iN a1)), (2, .int (iN a2)), (4, .int (iN ((14 * a1) + a3))), (5, .int (iN ((14 * a2) + a3)))] [.int (iN t0_72)] S72) h (fun t0_72 S72 h h_t0_72 hw72 => ?_) (fun j72 hj72 h => ?_)
  · unfold w_X9_isLikeStep_J72 at h
    refine xi_istore C (L' := [(6, .int (iN t0_72)), (0, .ref (ad 54)), (1, .int (iN a1)), (2, .int (iN a2)), (4, .int (iN ((14 * a1) + a3))), (5, .int (iN ((14 * a2) + a3)))]) dX9_isLikeStep_72 (by decide) rfl ?_
    refine xi_iload C 0 dX9_isLikeStep_74 rfl ?_
    refine xi_if_ne C 81 h_t0_72 dX9_isLikeStep_76 (by decide) (fun z4 => ?_) (fun z4 => ?_)
    · replace h := h.1 z4
      refine xi_aload_n C 1 dX9_isLikeStep_81 rfl rfl ?_
      refine xi_getR C xK_X9 (q := 54) (r := 58) rfl 18 (by decide) (ki := 18) rfl xl_X9_19 rfl dX9_isLikeStep_82 ?_
      refine xi_iload C 4 dX9_isLikeStep_85 rfl ?_
      refine xi_iaload C (q := 58) rfl (by decide) hc1 dX9_isLikeStep_87 ?_
      refine xi_bipush C (v := 107) dX9_isLikeStep_88 (by decide +kernel) ?_
      refine xi_icmp_ne C 95 (xval.i (q := 58) (i := (14 * a1) + a3) hw72 hc1.1 rfl) (by decide) dX9_isLikeStep_90 (by decide) (fun z5 => ?_) (fun z5 => ?_)
      · replace h := h.1 z5
        refine xi_aload_n C 1 dX9_isLikeStep_95 rfl rfl ?_
        refine xi_getR C xK_X9 (q := 54) (r := 58) rfl 18 (by decide) (ki := 18) rfl xl_X9_19 rfl dX9_isLikeStep_96 ?_
        refine xi_iload C 4 dX9_isLikeStep_99 rfl ?_
        refine xi_iaload C (q := 58) rfl (by decide) hc1 dX9_isLikeStep_101 ?_
        refine xi_bipush C (v := 119) dX9_isLikeStep_102 (by decide +kernel) ?_
        refine xJ0_w (fun  S119 => xval (gC D ca ad tF) S119 → xV (gC D ca ad tF) p l e ({ frames := 1, cells := 0, slots := 0, locals := 22 }) s m args below meth c A 7 Z 0 0 119 [(0, .ref (ad 54)), (1, .int (iN a1)), (2, .int (iN a2)), (4, .int (iN ((14 * a1) + a3))), (5, .int (iN ((14 * a2) + a3)))] [] S119) h (fun  S119 h  hw119 => ?_) (fun j119 hj119 h => ?_)
        · unfold w_X9_isLikeStep_J119 at h
          refine xi_aload_n C 0 dX9_isLikeStep_119 rfl rfl ?_
          refine xi_getR C xK_X9 (q := 54) (r := 59) rfl 19 (by decide) (ki := 19) rfl xl_X9_22 rfl dX9_isLikeStep_120 ?_
          refine xi_iload C 3 dX9_isLikeStep_123 rfl ?_
          refine xi_iaload C (q := 59) rfl (by decide) hc1 dX9_isLikeStep_125 ?_
          refine xi_aload_n C 0 dX9_isLikeStep_126 rfl rfl ?_
          refine xi_getR C xK_X9 (q := 54) (r := 59) rfl 19 (by decide) (ki := 19) rfl xl_X9_22 rfl dX9_isLikeStep_127 ?_
          refine xi_iload C 4 dX9_isLikeStep_130 rfl ?_
          refine xi_iaload C (q := 59) rfl (by decide) hc2 dX9_isLikeStep_132 ?_
          refine xi_icmp_ne C 162 (xval.i (q := 59) (i := (14 * a1) + a3) hw119 hc1.1 rfl) (xval.i (q := 59) (i := (14 * a2) + a3) hw119 hc2.1 rfl) dX9_isLikeStep_133 (by decide) (fun z7 => ?_) (fun z7 => ?_)
          · replace h := h.1 z7
            refine xi_iconst C (v := 0) dX9_isLikeStep_162 rfl ?_
            exact xr_i C hA hZ hr hlocks (xnarZ (Or.inl rfl)).1 dX9_isLikeStep_163 (Nat.le_of_ble_eq_true rfl) (Nat.le_of_ble_eq_true rfl) hw119 ⟨_, rfl, (by decide), h⟩
          · replace h := h.2 z7
            refine xi_aload_n C 0 dX9_isLikeStep_136 rfl rfl ?_
            refine xi_getR C xK_X9 (q := 54) (r := 60) rfl 20 (by decide) (ki := 20) rfl xl_X9_25 rfl dX9_isLikeStep_137 ?_
            refine xi_iload C 3 dX9_isLikeStep_140 rfl ?_
            refine xi_iaload C (q := 60) rfl (by decide) hc1 dX9_isLikeStep_142 ?_
            refine xi_iload_n C 1 dX9_isLikeStep_143 rfl rfl ?_
            refine xi_iload_n C 2 dX9_isLikeStep_144 rfl rfl ?_
            refine xc_Si C hw119 (c_X9_swapped l D ca ad tF (S119 60 ((14 * a1) + a3)) a1 a2 S119 _ (xval.i (q := 60) (i := (14 * a1) + a3) hw119 hc1.1 rfl) h_a1 h_a2 h) xk_X9_swapped xs_X9_swapped xl_X9_187 ⟨Nat.le_of_ble_eq_true rfl, Nat.le_of_ble_eq_true rfl⟩ rfl rfl (Nat.le_of_ble_eq_true rfl) ⟨Nat.le_of_ble_eq_true rfl, Nat.le_of_ble_eq_true rfl⟩ dX9_isLikeStep_145 (fun r145 S145 h_r145 h hw8 => ?_)
            refine xi_aload_n C 0 dX9_isLikeStep_148 rfl rfl ?_
            refine xi_getR C xK_X9 (q := 54) (r := 60) rfl 20 (by decide) (ki := 20) rfl xl_X9_25 rfl dX9_isLikeStep_149 ?_
            refine xi_iload C 4 dX9_isLikeStep_152 rfl ?_
            refine xi_iaload C (q := 60) rfl (by decide) hc2 dX9_isLikeStep_154 ?_
            refine xi_icmp_ne C 162 h_r145 (xval.i (q := 60) (i := (14 * a2) + a3) hw8 hc2.1 rfl) dX9_isLikeStep_155 (by decide) (fun z9 => ?_) (fun z9 => ?_)
            · replace h := h.1 z9
              refine xi_iconst C (v := 0) dX9_isLikeStep_162 rfl ?_
              exact xr_i C hA hZ hr hlocks (xnarZ (Or.inl rfl)).1 dX9_isLikeStep_163 (Nat.le_of_ble_eq_true rfl) (Nat.le_of_ble_eq_true rfl) hw8 ⟨_, rfl, (by decide), h⟩
            · replace h := h.2 z9
              refine xi_iconst C (v := 1) dX9_isLikeStep_158 rfl ?_
              refine xi_goto C 163 dX9_isLikeStep_159 (by decide) ?_
              exact xr_i C hA hZ hr hlocks (xnarZ (Or.inr rfl)).1 dX9_isLikeStep_163 (Nat.le_of_ble_eq_true rfl) (Nat.le_of_ble_eq_true rfl) hw8 ⟨_, rfl, (by decide), h⟩
        · refine xi_icmp_eq C 119 (xval.i (q := 58) (i := (14 * a1) + a3) hw72 hc1.1 rfl) (by decide) dX9_isLikeStep_104 (by decide) (fun z6 => ?_) (fun z6 => ?_)
          · replace h := h.1 z6
            exact xi_sub [1, 2, 3, 4, 5] rfl (hj119 S72 h hw72)
          · replace h := h.2 z6
            refine xi_aload_n C 1 dX9_isLikeStep_107 rfl rfl ?_
            refine xi_getR C xK_X9 (q := 54) (r := 58) rfl 18 (by decide) (ki := 18) rfl xl_X9_19 rfl dX9_isLikeStep_108 ?_
            refine xi_iload C 4 dX9_isLikeStep_111 rfl ?_
            refine xi_iaload C (q := 58) rfl (by decide) hc1 dX9_isLikeStep_113 ?_
            refine xi_bipush C (v := 114) dX9_isLikeStep_114 (by decide +kernel) ?_
            refine xi_icmp_ne C 164 (xval.i (q := 58) (i := (14 * a1) + a3) hw72 hc1.1 rfl) (by decide) dX9_isLikeStep_116 (by decide) (fun z10 => ?_) (fun z10 => ?_)
            · replace h := h.1 z10
              refine xi_aload_n C 1 dX9_isLikeStep_164 rfl rfl ?_
              refine xi_getR C xK_X9 (q := 54) (r := 59) rfl 19 (by decide) (ki := 19) rfl xl_X9_22 rfl dX9_isLikeStep_165 ?_
              refine xi_iload C 4 dX9_isLikeStep_168 rfl ?_
              refine xi_iaload C (q := 59) rfl (by decide) hc1 dX9_isLikeStep_170 ?_
              refine xi_iload_n C 2 dX9_isLikeStep_171 rfl rfl ?_
              refine xi_iload_n C 3 dX9_isLikeStep_172 rfl rfl ?_
              refine xc_Si C hw72 (c_X9_swapped l D ca ad tF (S72 59 ((14 * a1) + a3)) a1 a2 S72 _ (xval.i (q := 59) (i := (14 * a1) + a3) hw72 hc1.1 rfl) h_a1 h_a2 h) xk_X9_swapped xs_X9_swapped xl_X9_187 ⟨Nat.le_of_ble_eq_true rfl, Nat.le_of_ble_eq_true rfl⟩ rfl rfl (Nat.le_of_ble_eq_true rfl) ⟨Nat.le_of_ble_eq_true rfl, Nat.le_of_ble_eq_true rfl⟩ dX9_isLikeStep_173 (fun r173 S173 h_r173 h hw11 => ?_)
              refine xi_aload_n C 1 dX9_isLikeStep_176 rfl rfl ?_
              refine xi_getR C xK_X9 (q := 54) (r := 59) rfl 19 (by decide) (ki := 19) rfl xl_X9_22 rfl dX9_isLikeStep_177 ?_
              refine xi_iload C 5 dX9_isLikeStep_180 rfl ?_
              refine xi_iaload C (q := 59) rfl (by decide) hc2 dX9_isLikeStep_182 ?_
              refine xi_icmp_ne C 207 h_r173 (xval.i (q := 59) (i := (14 * a2) + a3) hw11 hc2.1 rfl) dX9_isLikeStep_183 (by decide) (fun z12 => ?_) (fun z12 => ?_)
              · replace h := h.1 z12
                refine xi_iconst C (v := 0) dX9_isLikeStep_207 rfl ?_
                exact xr_i C hA hZ hr hlocks (xnarZ (Or.inl rfl)).1 dX9_isLikeStep_208 (Nat.le_of_ble_eq_true rfl) (Nat.le_of_ble_eq_true rfl) hw11 ⟨_, rfl, (by decide), h⟩
              · replace h := h.2 z12
                refine xi_aload_n C 1 dX9_isLikeStep_186 rfl rfl ?_
                refine xi_getR C xK_X9 (q := 54) (r := 60) rfl 20 (by decide) (ki := 20) rfl xl_X9_25 rfl dX9_isLikeStep_187 ?_
                refine xi_iload C 4 dX9_isLikeStep_190 rfl ?_
                refine xi_iaload C (q := 60) rfl (by decide) hc1 dX9_isLikeStep_192 ?_
                refine xi_aload_n C 1 dX9_isLikeStep_193 rfl rfl ?_
                refine xi_getR C xK_X9 (q := 54) (r := 60) rfl 20 (by decide) (ki := 20) rfl xl_X9_25 rfl dX9_isLikeStep_194 ?_
                refine xi_iload C 5 dX9_isLikeStep_197 rfl ?_
                refine xi_iaload C (q := 60) rfl (by decide) hc2 dX9_isLikeStep_199 ?_
                refine xi_icmp_ne C 207 (xval.i (q := 60) (i := (14 * a1) + a3) hw11 hc1.1 rfl) (xval.i (q := 60) (i := (14 * a2) + a3) hw11 hc2.1 rfl) dX9_isLikeStep_200 (by decide) (fun z13 => ?_) (fun z13 => ?_)
                · replace h := h.1 z13
                  refine xi_iconst C (v := 0) dX9_isLikeStep_207 rfl ?_
                  exact xr_i C hA hZ hr hlocks (xnarZ (Or.inl rfl)).1 dX9_isLikeStep_208 (Nat.le_of_ble_eq_true rfl) (Nat.le_of_ble_eq_true rfl) hw11 ⟨_, rfl, (by decide), h⟩
                · replace h := h.2 z13
                  refine xi_iconst C (v := 1) dX9_isLikeStep_203 rfl ?_
                  refine xi_goto C 208 dX9_isLikeStep_204 (by decide) ?_
                  exact xr_i C hA hZ hr hlocks (xnarZ (Or.inr rfl)).1 dX9_isLikeStep_208 (Nat.le_of_ble_eq_true rfl) (Nat.le_of_ble_eq_true rfl) hw11 ⟨_, rfl, (by decide), h⟩
            · replace h := h.2 z10
              exact xi_sub [1, 2, 3, 4, 5] rfl (hj119 S72 h hw72)
      · replace h := h.2 z5
        refine xi_iconst C (v := 1) dX9_isLikeStep_93 rfl ?_
        exact xr_i C hA hZ hr hlocks (xnarZ (Or.inr rfl)).1 dX9_isLikeStep_94 (Nat.le_of_ble_eq_true rfl) (Nat.le_of_ble_eq_true rfl) hw72 ⟨_, rfl, (by decide), h⟩
    · replace h := h.2 z4
      refine xi_iconst C (v := 0) dX9_isLikeStep_79 rfl ?_
      exact xr_i C hA hZ hr hlocks (xnarZ (Or.inl rfl)).1 dX9_isLikeStep_80 (Nat.le_of_ble_eq_true rfl) (Nat.le_of_ble_eq_true rfl) hw72 ⟨_, rfl, (by decide), h⟩
  · refine xJ0_w (fun  S71 => xval (gC D ca ad tF) S71 → xV (gC D ca ad tF) p l e ({ frames := 1, cells := 0, slots := 0, locals := 22 }) s m args below meth c A 7 Z 0 0 71 [(0, .ref (ad 54)), (1, .int (iN a1)), (2, .int (iN a2)), (4, .int (iN ((14 * a1) + a3))), (5, .int (iN ((14 * a2) + a3)))] [] S71) h (fun  S71 h  hw71 => ?_) (fun j71 hj71 h => ?_)
    · unfold w_X9_isLikeStep_J71 at h
      refine xi_iconst C (v := 0) dX9_isLikeStep_71 rfl ?_
      exact xi_sub [0, 1, 2, 3, 4] rfl (hj72 0 S71 h (by decide) hw71)
    · refine xi_icmp_ne C 71 (xval.i (q := 56) (i := (14 * a1) + a3) hw hc1.1 rfl) (xval.i (q := 56) (i := (14 * a2) + a3) hw hc2.1 rfl) dX9_isLikeStep_30 (by decide) (fun z3 => ?_) (fun z3 => ?_)
      · replace h := h.1 z3
        exact xi_sub [2, 3, 4, 1, 0] rfl (hj71 S h hw)
      · replace h := h.2 z3
        refine xi_aload_n C 2 dX9_isLikeStep_33 rfl rfl ?_
        refine xi_getR C xK_X9 (q := 54) (r := 57) rfl 17 (by decide) (ki := 17) rfl xl_X9_16 rfl dX9_isLikeStep_34 ?_
        refine xi_iload C 1 dX9_isLikeStep_37 rfl ?_
        refine xi_iaload C (q := 57) rfl (by decide) hc1 dX9_isLikeStep_39 ?_
        refine xi_aload_n C 2 dX9_isLikeStep_40 rfl rfl ?_
        refine xi_getR C xK_X9 (q := 54) (r := 57) rfl 17 (by decide) (ki := 17) rfl xl_X9_16 rfl dX9_isLikeStep_41 ?_
        refine xi_iload C 0 dX9_isLikeStep_44 rfl ?_
        refine xi_iaload C (q := 57) rfl (by decide) hc2 dX9_isLikeStep_46 ?_
        refine xi_icmp_ne C 71 (xval.i (q := 57) (i := (14 * a1) + a3) hw hc1.1 rfl) (xval.i (q := 57) (i := (14 * a2) + a3) hw hc2.1 rfl) dX9_isLikeStep_47 (by decide) (fun z14 => ?_) (fun z14 => ?_)
        · replace h := h.1 z14
          exact xi_sub [2, 3, 4, 1, 0] rfl (hj71 S h hw)
        · replace h := h.2 z14
          refine xi_aload_n C 2 dX9_isLikeStep_50 rfl rfl ?_
          refine xi_getR C xK_X9 (q := 54) (r := 58) rfl 18 (by decide) (ki := 18) rfl xl_X9_19 rfl dX9_isLikeStep_51 ?_
          refine xi_iload C 1 dX9_isLikeStep_54 rfl ?_
          refine xi_iaload C (q := 58) rfl (by decide) hc1 dX9_isLikeStep_56 ?_
          refine xi_aload_n C 2 dX9_isLikeStep_57 rfl rfl ?_
          refine xi_getR C xK_X9 (q := 54) (r := 58) rfl 18 (by decide) (ki := 18) rfl xl_X9_19 rfl dX9_isLikeStep_58 ?_
          refine xi_iload C 0 dX9_isLikeStep_61 rfl ?_
          refine xi_iaload C (q := 58) rfl (by decide) hc2 dX9_isLikeStep_63 ?_
          refine xi_icmp_ne C 71 (xval.i (q := 58) (i := (14 * a1) + a3) hw hc1.1 rfl) (xval.i (q := 58) (i := (14 * a2) + a3) hw hc2.1 rfl) dX9_isLikeStep_64 (by decide) (fun z15 => ?_) (fun z15 => ?_)
          · replace h := h.1 z15
            exact xi_sub [2, 3, 4, 1, 0] rfl (hj71 S h hw)
          · replace h := h.2 z15
            refine xi_iconst C (v := 1) dX9_isLikeStep_67 rfl ?_
            refine xi_goto C 72 dX9_isLikeStep_68 (by decide) ?_
            exact xi_sub [2, 3, 4, 1, 0] rfl (hj72 1 S h (by decide) hw)
set_option maxRecDepth 100000 in
set_option maxHeartbeats 4000000 in
theorem c_X9_areLike (l : Launch) (D : va_G) (ca : Nat → ClassId) (ad : Nat → Nat) (tF : Nat) (a1 : Int) (a2 : Int) (S : xS) (Q : Int → xS → Prop) (h_a1 : xR a1) (h_a2 : xR a2) (h : w_X9_areLike a1 a2 S Q) : xM l yX9_areLike (xws yX9_areLike cX9_areLike 4 (some .boolean)) ({ frames := 2, cells := 0, slots := 0, locals := 48 }) (gC D ca ad tF) [.ref (ad 54), .int (iN a1), .int (iN a2)] S (xQi Q) 0 0 := by
  refine xm_of RX9 rfl (by decide +kernel) (Nat.le_of_ble_eq_true rfl) ?_
  intro p e s m args below meth c A Z C hA hZ hr hlocks hw
  unfold w_X9_areLike at h
  show xV (gC D ca ad tF) p l e ({ frames := 2, cells := 0, slots := 0, locals := 48 }) s m args below meth c A 4 Z 0 0 0 [(0, .ref (ad 54)), (1, .int (iN a1)), (2, .int (iN a2))] [] S
  refine xi_aload_n C 0 dX9_areLike_0 rfl rfl ?_
  refine xi_getR C xK_X9 (q := 54) (r := 55) rfl 15 (by decide) (ki := 15) rfl xl_X9_7 rfl dX9_areLike_1 ?_
  refine xi_iload_n C 1 dX9_areLike_4 rfl rfl ?_
  obtain ⟨hc1, h⟩ := h
  refine xi_iaload C (q := 55) rfl (by decide) hc1 dX9_areLike_5 ?_
  refine xi_aload_n C 0 dX9_areLike_6 rfl rfl ?_
  refine xi_getR C xK_X9 (q := 54) (r := 55) rfl 15 (by decide) (ki := 15) rfl xl_X9_7 rfl dX9_areLike_7 ?_
  refine xi_iload_n C 2 dX9_areLike_10 rfl rfl ?_
  obtain ⟨hc2, h⟩ := h
  refine xi_iaload C (q := 55) rfl (by decide) hc2 dX9_areLike_11 ?_
  refine xi_icmp_eq C 17 (xval.i (q := 55) (i := a1) hw hc1.1 rfl) (xval.i (q := 55) (i := a2) hw hc2.1 rfl) dX9_areLike_12 (by decide) (fun z3 => ?_) (fun z3 => ?_)
  · replace h := h.1 z3
    refine xi_iconst C (v := 0) dX9_areLike_17 rfl ?_
    refine xi_istore_n C (L' := [(3, .int (iN 0)), (0, .ref (ad 54)), (1, .int (iN a1)), (2, .int (iN a2))]) dX9_areLike_18 rfl (by decide) rfl ?_
    refine xJ0_w (fun  S47 => xval (gC D ca ad tF) S47 → xV (gC D ca ad tF) p l e ({ frames := 2, cells := 0, slots := 0, locals := 48 }) s m args below meth c A 4 Z 0 0 47 [(0, .ref (ad 54)), (1, .int (iN a1)), (2, .int (iN a2))] [] S47) h (fun  S47 h  hw47 => ?_) (fun j47 hj47 h => ?_)
    · unfold w_X9_areLike_J47 at h
      refine xi_iconst C (v := 0) dX9_areLike_47 rfl ?_
      refine xi_istore_n C (L' := [(3, .int (iN 0)), (0, .ref (ad 54)), (1, .int (iN a1)), (2, .int (iN a2))]) dX9_areLike_48 rfl (by decide) rfl ?_
      refine xJ0_w (fun  S113 => xval (gC D ca ad tF) S113 → xV (gC D ca ad tF) p l e ({ frames := 2, cells := 0, slots := 0, locals := 48 }) s m args below meth c A 4 Z 0 0 113 [(0, .ref (ad 54)), (1, .int (iN a1)), (2, .int (iN a2))] [] S113) h (fun  S113 h  hw113 => ?_) (fun j113 hj113 h => ?_)
      · unfold w_X9_areLike_J113 at h
        refine xi_aload_n C 0 dX9_areLike_113 rfl rfl ?_
        refine xi_getR C xK_X9 (q := 54) (r := 62) rfl 22 (by decide) (ki := 22) rfl xl_X9_31 rfl dX9_areLike_114 ?_
        refine xi_iconst C (v := 3) dX9_areLike_117 rfl ?_
        refine xi_iconst C (v := 2) dX9_areLike_118 rfl ?_
        refine xi_iload_n C 1 dX9_areLike_119 rfl rfl ?_
        refine xi_imul C dX9_areLike_120 ?_
        refine xi_iadd C dX9_areLike_121 ?_
        obtain ⟨hc4, h⟩ := h
        refine xi_iaload C (q := 62) rfl (by decide) hc4 dX9_areLike_122 ?_
        refine xi_aload_n C 0 dX9_areLike_123 rfl rfl ?_
        refine xi_getR C xK_X9 (q := 54) (r := 62) rfl 22 (by decide) (ki := 22) rfl xl_X9_31 rfl dX9_areLike_124 ?_
        refine xi_iconst C (v := 3) dX9_areLike_127 rfl ?_
        refine xi_iconst C (v := 2) dX9_areLike_128 rfl ?_
        refine xi_iload_n C 2 dX9_areLike_129 rfl rfl ?_
        refine xi_imul C dX9_areLike_130 ?_
        refine xi_iadd C dX9_areLike_131 ?_
        obtain ⟨hc5, h⟩ := h
        refine xi_iaload C (q := 62) rfl (by decide) hc5 dX9_areLike_132 ?_
        refine xi_icmp_ne C 163 (xval.i (q := 62) (i := 3 + (2 * a1)) hw113 hc4.1 rfl) (xval.i (q := 62) (i := 3 + (2 * a2)) hw113 hc5.1 rfl) dX9_areLike_133 (by decide) (fun z6 => ?_) (fun z6 => ?_)
        · replace h := h.1 z6
          refine xi_iconst C (v := 0) dX9_areLike_163 rfl ?_
          exact xr_i C hA hZ hr hlocks (xnarZ (Or.inl rfl)).1 dX9_areLike_164 (Nat.le_of_ble_eq_true rfl) (Nat.le_of_ble_eq_true rfl) hw113 ⟨_, rfl, (by decide), h⟩
        · replace h := h.2 z6
          refine xi_aload_n C 0 dX9_areLike_136 rfl rfl ?_
          refine xi_getR C xK_X9 (q := 54) (r := 62) rfl 22 (by decide) (ki := 22) rfl xl_X9_31 rfl dX9_areLike_137 ?_
          refine xi_iconst C (v := 4) dX9_areLike_140 rfl ?_
          refine xi_iconst C (v := 2) dX9_areLike_141 rfl ?_
          refine xi_iload_n C 1 dX9_areLike_142 rfl rfl ?_
          refine xi_imul C dX9_areLike_143 ?_
          refine xi_iadd C dX9_areLike_144 ?_
          obtain ⟨hc7, h⟩ := h
          refine xi_iaload C (q := 62) rfl (by decide) hc7 dX9_areLike_145 ?_
          refine xi_aload_n C 0 dX9_areLike_146 rfl rfl ?_
          refine xi_getR C xK_X9 (q := 54) (r := 62) rfl 22 (by decide) (ki := 22) rfl xl_X9_31 rfl dX9_areLike_147 ?_
          refine xi_iconst C (v := 4) dX9_areLike_150 rfl ?_
          refine xi_iconst C (v := 2) dX9_areLike_151 rfl ?_
          refine xi_iload_n C 2 dX9_areLike_152 rfl rfl ?_
          refine xi_imul C dX9_areLike_153 ?_
          refine xi_iadd C dX9_areLike_154 ?_
          obtain ⟨hc8, h⟩ := h
          refine xi_iaload C (q := 62) rfl (by decide) hc8 dX9_areLike_155 ?_
          refine xi_icmp_ne C 163 (xval.i (q := 62) (i := 4 + (2 * a1)) hw113 hc7.1 rfl) (xval.i (q := 62) (i := 4 + (2 * a2)) hw113 hc8.1 rfl) dX9_areLike_156 (by decide) (fun z9 => ?_) (fun z9 => ?_)
          · replace h := h.1 z9
            refine xi_iconst C (v := 0) dX9_areLike_163 rfl ?_
            exact xr_i C hA hZ hr hlocks (xnarZ (Or.inl rfl)).1 dX9_areLike_164 (Nat.le_of_ble_eq_true rfl) (Nat.le_of_ble_eq_true rfl) hw113 ⟨_, rfl, (by decide), h⟩
          · replace h := h.2 z9
            refine xi_iconst C (v := 1) dX9_areLike_159 rfl ?_
            refine xi_goto C 164 dX9_areLike_160 (by decide) ?_
            exact xr_i C hA hZ hr hlocks (xnarZ (Or.inr rfl)).1 dX9_areLike_164 (Nat.le_of_ble_eq_true rfl) (Nat.le_of_ble_eq_true rfl) hw113 ⟨_, rfl, (by decide), h⟩
      · refine xi_sub [1, 2, 3, 0] rfl (xW1 (fun v3_49 S49 => xR v3_49 → xval (gC D ca ad tF) S49 → xV (gC D ca ad tF) p l e ({ frames := 2, cells := 0, slots := 0, locals := 48 }) s m args below meth c A 4 Z 0 0 49 [(0, .ref (ad 54)), (1, .int (iN a1)), (2, .int (iN a2)), (3, .int (iN v3_49))] [] S49) h (fun k49 hk49 v3_49 S49 h h_v3_49 hw49 => ?_) (by decide) hw47)
        unfold w_X9_areLike_L49 at h
        refine xi_iload_n C 3 dX9_areLike_49 rfl rfl ?_
        refine xi_bipush C (v := 12) dX9_areLike_50 (by decide +kernel) ?_
        refine xi_icmp_ge C 113 h_v3_49 (by decide) dX9_areLike_52 (by decide) (fun z10 => ?_) (fun z10 => ?_)
        · replace h := h.1 z10
          exact xi_sub [0, 1, 2] rfl (hj113 S49 h hw49)
        · replace h := h.2 z10
          refine xi_aload_n C 0 dX9_areLike_55 rfl rfl ?_
          refine xi_getR C xK_X9 (q := 54) (r := 65) rfl 25 (by decide) (ki := 25) rfl xl_X9_40 rfl dX9_areLike_56 ?_
          refine xi_bipush C (v := 12) dX9_areLike_59 (by decide +kernel) ?_
          refine xi_iload_n C 1 dX9_areLike_61 rfl rfl ?_
          refine xi_imul C dX9_areLike_62 ?_
          refine xi_iload_n C 3 dX9_areLike_63 rfl rfl ?_
          refine xi_iadd C dX9_areLike_64 ?_
          obtain ⟨hc11, h⟩ := h
          refine xi_baload C (q := 65) rfl (by decide) hc11 dX9_areLike_65 ?_
          refine xi_aload_n C 0 dX9_areLike_66 rfl rfl ?_
          refine xi_getR C xK_X9 (q := 54) (r := 65) rfl 25 (by decide) (ki := 25) rfl xl_X9_40 rfl dX9_areLike_67 ?_
          refine xi_bipush C (v := 12) dX9_areLike_70 (by decide +kernel) ?_
          refine xi_iload_n C 2 dX9_areLike_72 rfl rfl ?_
          refine xi_imul C dX9_areLike_73 ?_
          refine xi_iload_n C 3 dX9_areLike_74 rfl rfl ?_
          refine xi_iadd C dX9_areLike_75 ?_
          obtain ⟨hc12, h⟩ := h
          refine xi_baload C (q := 65) rfl (by decide) hc12 dX9_areLike_76 ?_
          refine xi_icmp_ne C 105 (xval.i (q := 65) (i := (12 * a1) + v3_49) hw49 hc11.1 rfl) (xval.i (q := 65) (i := (12 * a2) + v3_49) hw49 hc12.1 rfl) dX9_areLike_77 (by decide) (fun z13 => ?_) (fun z13 => ?_)
          · replace h := h.1 z13
            refine xi_iconst C (v := 0) dX9_areLike_105 rfl ?_
            exact xr_i C hA hZ hr hlocks (xnarZ (Or.inl rfl)).1 dX9_areLike_106 (Nat.le_of_ble_eq_true rfl) (Nat.le_of_ble_eq_true rfl) hw49 ⟨_, rfl, (by decide), h⟩
          · replace h := h.2 z13
            refine xi_aload_n C 0 dX9_areLike_80 rfl rfl ?_
            refine xi_getR C xK_X9 (q := 54) (r := 66) rfl 26 (by decide) (ki := 26) rfl xl_X9_44 rfl dX9_areLike_81 ?_
            refine xi_bipush C (v := 12) dX9_areLike_84 (by decide +kernel) ?_
            refine xi_iload_n C 1 dX9_areLike_86 rfl rfl ?_
            refine xi_imul C dX9_areLike_87 ?_
            refine xi_iload_n C 3 dX9_areLike_88 rfl rfl ?_
            refine xi_iadd C dX9_areLike_89 ?_
            refine xi_baload C (q := 66) rfl (by decide) hc11 dX9_areLike_90 ?_
            refine xi_aload_n C 0 dX9_areLike_91 rfl rfl ?_
            refine xi_getR C xK_X9 (q := 54) (r := 66) rfl 26 (by decide) (ki := 26) rfl xl_X9_44 rfl dX9_areLike_92 ?_
            refine xi_bipush C (v := 12) dX9_areLike_95 (by decide +kernel) ?_
            refine xi_iload_n C 2 dX9_areLike_97 rfl rfl ?_
            refine xi_imul C dX9_areLike_98 ?_
            refine xi_iload_n C 3 dX9_areLike_99 rfl rfl ?_
            refine xi_iadd C dX9_areLike_100 ?_
            refine xi_baload C (q := 66) rfl (by decide) hc12 dX9_areLike_101 ?_
            refine xi_icmp_eq C 107 (xval.i (q := 66) (i := (12 * a1) + v3_49) hw49 hc11.1 rfl) (xval.i (q := 66) (i := (12 * a2) + v3_49) hw49 hc12.1 rfl) dX9_areLike_102 (by decide) (fun z14 => ?_) (fun z14 => ?_)
            · replace h := h.1 z14
              refine xi_iinc C (L' := [(3, .int (iN (v3_49 + 1))), (0, .ref (ad 54)), (1, .int (iN a1)), (2, .int (iN a2))]) 3 dX9_areLike_107 rfl (by decide) rfl ?_
              refine xi_goto C 49 dX9_areLike_110 (by decide) ?_
              obtain ⟨hc15, h⟩ := h
              exact xi_sub [1, 2, 3, 0] rfl (hk49 (v3_49 + 1) S49 h hc15 hw49)
            · replace h := h.2 z14
              refine xi_iconst C (v := 0) dX9_areLike_105 rfl ?_
              exact xr_i C hA hZ hr hlocks (xnarZ (Or.inl rfl)).1 dX9_areLike_106 (Nat.le_of_ble_eq_true rfl) (Nat.le_of_ble_eq_true rfl) hw49 ⟨_, rfl, (by decide), h⟩
    · refine xi_sub [1, 2, 3, 0] rfl (xW1 (fun v3_19 S19 => xR v3_19 → xval (gC D ca ad tF) S19 → xV (gC D ca ad tF) p l e ({ frames := 2, cells := 0, slots := 0, locals := 48 }) s m args below meth c A 4 Z 0 0 19 [(0, .ref (ad 54)), (1, .int (iN a1)), (2, .int (iN a2)), (3, .int (iN v3_19))] [] S19) h (fun k19 hk19 v3_19 S19 h h_v3_19 hw19 => ?_) (by decide) hw)
      unfold w_X9_areLike_L19 at h
      refine xi_iload_n C 3 dX9_areLike_19 rfl rfl ?_
      refine xi_aload_n C 0 dX9_areLike_20 rfl rfl ?_
      refine xi_getR C xK_X9 (q := 54) (r := 55) rfl 15 (by decide) (ki := 15) rfl xl_X9_7 rfl dX9_areLike_21 ?_
      refine xi_iload_n C 1 dX9_areLike_24 rfl rfl ?_
      refine xi_iaload C (q := 55) rfl (by decide) hc1 dX9_areLike_25 ?_
      refine xi_icmp_ge C 47 h_v3_19 (xval.i (q := 55) (i := a1) hw19 hc1.1 rfl) dX9_areLike_26 (by decide) (fun z16 => ?_) (fun z16 => ?_)
      · replace h := h.1 z16
        exact xi_sub [0, 1, 2] rfl (hj47 S19 h hw19)
      · replace h := h.2 z16
        refine xi_aload_n C 0 dX9_areLike_29 rfl rfl ?_
        refine xi_iload_n C 1 dX9_areLike_30 rfl rfl ?_
        refine xi_iload_n C 2 dX9_areLike_31 rfl rfl ?_
        refine xi_iload_n C 3 dX9_areLike_32 rfl rfl ?_
        refine xc_Vi C hw19 (c_X9_isLikeStep l D ca ad tF a1 a2 v3_19 S19 _ h_a1 h_a2 h_v3_19 h) xk_X9_isLikeStep xv_X9_isLikeStep xl_X9_191 ⟨Nat.le_of_ble_eq_true rfl, Nat.le_of_ble_eq_true rfl⟩ xK_X9 (q := 54) rfl rfl rfl (Nat.le_of_ble_eq_true rfl) ⟨Nat.le_of_ble_eq_true rfl, Nat.le_of_ble_eq_true rfl⟩ dX9_areLike_33 (fun r33 S33 h_r33 h hw17 => ?_)
        refine xi_if_ne C 41 h_r33 dX9_areLike_36 (by decide) (fun z18 => ?_) (fun z18 => ?_)
        · replace h := h.1 z18
          refine xi_iinc C (L' := [(3, .int (iN (v3_19 + 1))), (0, .ref (ad 54)), (1, .int (iN a1)), (2, .int (iN a2))]) 3 dX9_areLike_41 rfl (by decide) rfl ?_
          refine xi_goto C 19 dX9_areLike_44 (by decide) ?_
          obtain ⟨hc19, h⟩ := h
          exact xi_sub [1, 2, 3, 0] rfl (hk19 (v3_19 + 1) S33 h hc19 hw17)
        · replace h := h.2 z18
          refine xi_iconst C (v := 0) dX9_areLike_39 rfl ?_
          exact xr_i C hA hZ hr hlocks (xnarZ (Or.inl rfl)).1 dX9_areLike_40 (Nat.le_of_ble_eq_true rfl) (Nat.le_of_ble_eq_true rfl) hw17 ⟨_, rfl, (by decide), h⟩
  · replace h := h.2 z3
    refine xi_iconst C (v := 0) dX9_areLike_15 rfl ?_
    exact xr_i C hA hZ hr hlocks (xnarZ (Or.inl rfl)).1 dX9_areLike_16 (Nat.le_of_ble_eq_true rfl) (Nat.le_of_ble_eq_true rfl) hw ⟨_, rfl, (by decide), h⟩
set_option maxRecDepth 100000 in
set_option maxHeartbeats 4000000 in
theorem c_X9_areAlike (l : Launch) (D : va_G) (ca : Nat → ClassId) (ad : Nat → Nat) (tF : Nat) (a1 : Int) (a2 : Int) (S : xS) (Q : Int → xS → Prop) (h_a1 : xR a1) (h_a2 : xR a2) (h : w_X9_areAlike a1 a2 S Q) : xM l yX9_areAlike (xws yX9_areAlike cX9_areAlike 3 (some .boolean)) ({ frames := 3, cells := 0, slots := 0, locals := 71 }) (gC D ca ad tF) [.ref (ad 54), .int (iN a1), .int (iN a2)] S (xQi Q) 0 0 := by
  refine xm_of RX9 rfl (by decide +kernel) (Nat.le_of_ble_eq_true rfl) ?_
  intro p e s m args below meth c A Z C hA hZ hr hlocks hw
  unfold w_X9_areAlike at h
  show xV (gC D ca ad tF) p l e ({ frames := 3, cells := 0, slots := 0, locals := 71 }) s m args below meth c A 3 Z 0 0 0 [(0, .ref (ad 54)), (1, .int (iN a1)), (2, .int (iN a2))] [] S
  refine xi_aload_n C 0 dX9_areAlike_0 rfl rfl ?_
  refine xi_aload_n C 0 dX9_areAlike_1 rfl rfl ?_
  refine xi_iload_n C 1 dX9_areAlike_2 rfl rfl ?_
  refine xc_Vi C hw (c_X9_isProcess l D ca ad tF a1 S _ h_a1 h) xk_X9_isProcess xv_X9_isProcess xl_X9_309 ⟨Nat.le_of_ble_eq_true rfl, Nat.le_of_ble_eq_true rfl⟩ xK_X9 (q := 54) rfl rfl rfl (Nat.le_of_ble_eq_true rfl) ⟨Nat.le_of_ble_eq_true rfl, Nat.le_of_ble_eq_true rfl⟩ dX9_areAlike_3 (fun r3 S3 h_r3 h hw1 => ?_)
  refine xJ1_w (fun t0_22 S22 => xR t0_22 → xval (gC D ca ad tF) S22 → xV (gC D ca ad tF) p l e ({ frames := 3, cells := 0, slots := 0, locals := 71 }) s m args below meth c A 3 Z 0 0 22 [(0, .ref (ad 54)), (1, .int (iN a1)), (2, .int (iN a2))] [.int (iN t0_22), .ref (ad 54)] S22) h (fun t0_22 S22 h h_t0_22 hw22 => ?_) (fun j22 hj22 h => ?_)
  · unfold w_X9_areAlike_J22 at h
    refine xi_putI C xK_X9 (q := 54) (r := 0) rfl 0 (by decide) (ki := 0) rfl xl_X9_142 rfl rfl rfl dX9_areAlike_22 ?_
    have hw3 := xval.up (q := 54) (i := 0) (v := t0_22) hw22 rfl h_t0_22
    refine xi_aload_n C 0 dX9_areAlike_25 rfl rfl ?_
    refine xi_getI C xK_X9 (q := 54) (r := 0) rfl 0 (by decide) (ki := 0) rfl xl_X9_142 rfl dX9_areAlike_26 ?_
    refine xi_if_ne C 45 (xval.i (q := 54) (i := 0) hw3 (by decide) rfl) dX9_areAlike_29 (by decide) (fun z4 => ?_) (fun z4 => ?_)
    · replace h := h.1 z4
      refine xi_iconst C (v := 0) dX9_areAlike_45 rfl ?_
      exact xr_i C hA hZ hr hlocks (xnarZ (Or.inl rfl)).1 dX9_areAlike_46 (Nat.le_of_ble_eq_true rfl) (Nat.le_of_ble_eq_true rfl) hw3 ⟨_, rfl, (by decide), h⟩
    · replace h := h.2 z4
      refine xi_aload_n C 0 dX9_areAlike_32 rfl rfl ?_
      refine xi_iload_n C 1 dX9_areAlike_33 rfl rfl ?_
      refine xi_iload_n C 2 dX9_areAlike_34 rfl rfl ?_
      refine xc_Vi C hw3 (c_X9_areLike l D ca ad tF a1 a2 (xup S22 54 0 t0_22) _ h_a1 h_a2 h) xk_X9_areLike xv_X9_areLike xl_X9_195 ⟨Nat.le_of_ble_eq_true rfl, Nat.le_of_ble_eq_true rfl⟩ xK_X9 (q := 54) rfl rfl rfl (Nat.le_of_ble_eq_true rfl) ⟨Nat.le_of_ble_eq_true rfl, Nat.le_of_ble_eq_true rfl⟩ dX9_areAlike_35 (fun r35 S35 h_r35 h hw5 => ?_)
      refine xi_if_eq C 45 h_r35 dX9_areAlike_38 (by decide) (fun z6 => ?_) (fun z6 => ?_)
      · replace h := h.1 z6
        refine xi_iconst C (v := 0) dX9_areAlike_45 rfl ?_
        exact xr_i C hA hZ hr hlocks (xnarZ (Or.inl rfl)).1 dX9_areAlike_46 (Nat.le_of_ble_eq_true rfl) (Nat.le_of_ble_eq_true rfl) hw5 ⟨_, rfl, (by decide), h⟩
      · replace h := h.2 z6
        refine xi_iconst C (v := 1) dX9_areAlike_41 rfl ?_
        refine xi_goto C 46 dX9_areAlike_42 (by decide) ?_
        exact xr_i C hA hZ hr hlocks (xnarZ (Or.inr rfl)).1 dX9_areAlike_46 (Nat.le_of_ble_eq_true rfl) (Nat.le_of_ble_eq_true rfl) hw5 ⟨_, rfl, (by decide), h⟩
  · refine xJ0_w (fun  S21 => xval (gC D ca ad tF) S21 → xV (gC D ca ad tF) p l e ({ frames := 3, cells := 0, slots := 0, locals := 71 }) s m args below meth c A 3 Z 0 0 21 [(0, .ref (ad 54)), (1, .int (iN a1)), (2, .int (iN a2))] [.ref (ad 54)] S21) h (fun  S21 h  hw21 => ?_) (fun j21 hj21 h => ?_)
    · unfold w_X9_areAlike_J21 at h
      refine xi_iconst C (v := 1) dX9_areAlike_21 rfl ?_
      exact xi_sub [0, 1, 2] rfl (hj22 1 S21 h (by decide) hw21)
    · refine xi_if_eq C 21 h_r3 dX9_areAlike_6 (by decide) (fun z2 => ?_) (fun z2 => ?_)
      · replace h := h.1 z2
        exact xi_sub [0, 1, 2] rfl (hj21 S3 h hw1)
      · replace h := h.2 z2
        refine xi_aload_n C 0 dX9_areAlike_9 rfl rfl ?_
        refine xi_iload_n C 2 dX9_areAlike_10 rfl rfl ?_
        refine xc_Vi C hw1 (c_X9_isProcess l D ca ad tF a2 S3 _ h_a2 h) xk_X9_isProcess xv_X9_isProcess xl_X9_309 ⟨Nat.le_of_ble_eq_true rfl, Nat.le_of_ble_eq_true rfl⟩ xK_X9 (q := 54) rfl rfl rfl (Nat.le_of_ble_eq_true rfl) ⟨Nat.le_of_ble_eq_true rfl, Nat.le_of_ble_eq_true rfl⟩ dX9_areAlike_11 (fun r11 S11 h_r11 h hw7 => ?_)
        refine xi_if_eq C 21 h_r11 dX9_areAlike_14 (by decide) (fun z8 => ?_) (fun z8 => ?_)
        · replace h := h.1 z8
          exact xi_sub [0, 1, 2] rfl (hj21 S11 h hw7)
        · replace h := h.2 z8
          refine xi_iconst C (v := 0) dX9_areAlike_17 rfl ?_
          refine xi_goto C 22 dX9_areAlike_18 (by decide) ?_
          exact xi_sub [0, 1, 2] rfl (hj22 0 S11 h (by decide) hw7)
set_option maxRecDepth 100000 in
set_option maxHeartbeats 4000000 in
theorem c_X9_codes (l : Launch) (D : va_G) (ca : Nat → ClassId) (ad : Nat → Nat) (tF : Nat)  (S : xS) (Q : Int → xS → Prop)  (h : w_X9_codes  S Q) : xM l yX9_codes (xws yX9_codes cX9_codes 4 (some .long)) ({ frames := 0, cells := 0, slots := 0, locals := 0 }) (gC D ca ad tF) [.ref (ad 54)] S (xQj Q) 0 0 := by
  refine xm_of RX9 rfl (by decide +kernel) (Nat.le_of_ble_eq_true rfl) ?_
  intro p e s m args below meth c A Z C hA hZ hr hlocks hw
  unfold w_X9_codes at h
  show xV (gC D ca ad tF) p l e ({ frames := 0, cells := 0, slots := 0, locals := 0 }) s m args below meth c A 4 Z 0 0 0 [(0, .ref (ad 54))] [] S
  refine xi_lconst C (v := 0) dX9_codes_0 (by decide +kernel) ?_
  refine xi_lstore_n C (L' := [(1, .long (jN 0)), (0, .ref (ad 54))]) dX9_codes_1 rfl (by decide) rfl ?_
  refine xi_iconst C (v := 0) dX9_codes_2 rfl ?_
  refine xi_istore_n C (L' := [(3, .int (iN 0)), (1, .long (jN 0)), (0, .ref (ad 54))]) dX9_codes_3 rfl (by decide) rfl ?_
  refine xJ1_w (fun v1_61 S61 => xRJ v1_61 → xval (gC D ca ad tF) S61 → xV (gC D ca ad tF) p l e ({ frames := 0, cells := 0, slots := 0, locals := 0 }) s m args below meth c A 4 Z 0 0 61 [(0, .ref (ad 54)), (1, .long (jN v1_61))] [] S61) h (fun v1_61 S61 h h_v1_61 hw61 => ?_) (fun j61 hj61 h => ?_)
  · unfold w_X9_codes_J61 at h
    refine xi_iconst C (v := 0) dX9_codes_61 rfl ?_
    refine xi_istore_n C (L' := [(3, .int (iN 0)), (0, .ref (ad 54)), (1, .long (jN v1_61))]) dX9_codes_62 rfl (by decide) rfl ?_
    refine xJ1_w (fun v1_88 S88 => xRJ v1_88 → xval (gC D ca ad tF) S88 → xV (gC D ca ad tF) p l e ({ frames := 0, cells := 0, slots := 0, locals := 0 }) s m args below meth c A 4 Z 0 0 88 [(0, .ref (ad 54)), (1, .long (jN v1_88))] [] S88) h (fun v1_88 S88 h h_v1_88 hw88 => ?_) (fun j88 hj88 h => ?_)
    · unfold w_X9_codes_J88 at h
      refine xi_iconst C (v := 0) dX9_codes_88 rfl ?_
      refine xi_istore_n C (L' := [(3, .int (iN 0)), (0, .ref (ad 54)), (1, .long (jN v1_88))]) dX9_codes_89 rfl (by decide) rfl ?_
      refine xi_sub [1, 2, 0] rfl (xW2 (fun v1_90 v3_90 S90 => xRJ v1_90 → xR v3_90 → xval (gC D ca ad tF) S90 → xV (gC D ca ad tF) p l e ({ frames := 0, cells := 0, slots := 0, locals := 0 }) s m args below meth c A 4 Z 0 0 90 [(0, .ref (ad 54)), (1, .long (jN v1_90)), (3, .int (iN v3_90))] [] S90) h (fun k90 hk90 v1_90 v3_90 S90 h h_v1_90 h_v3_90 hw90 => ?_) h_v1_88 (by decide) hw88)
      unfold w_X9_codes_L90 at h
      refine xi_iload_n C 2 dX9_codes_90 rfl rfl ?_
      refine xi_iconst C (v := 2) dX9_codes_91 rfl ?_
      refine xi_icmp_ge C 145 h_v3_90 (by decide) dX9_codes_92 (by decide) (fun z1 => ?_) (fun z1 => ?_)
      · replace h := h.1 z1
        refine xi_lload_n C 1 dX9_codes_145 rfl rfl ?_
        exact xr_j C hA hZ hr hlocks dX9_codes_146 (Nat.le_of_ble_eq_true rfl) (Nat.le_of_ble_eq_true rfl) hw90 ⟨_, rfl, h_v1_90, h⟩
      · replace h := h.2 z1
        refine xi_lload_n C 1 dX9_codes_95 rfl rfl ?_
        refine xi_ldc2 C xl_X9_150 (v := 3) (by decide +kernel) dX9_codes_96 ?_
        refine xi_lmul C dX9_codes_99 ?_
        refine xi_aload_n C 0 dX9_codes_100 rfl rfl ?_
        refine xi_getR C xK_X9 (q := 54) (r := 81) rfl 41 (by decide) (ki := 41) rfl xl_X9_91 rfl dX9_codes_101 ?_
        refine xi_iload_n C 2 dX9_codes_104 rfl rfl ?_
        obtain ⟨hc2, h⟩ := h
        refine xi_iaload C (q := 81) rfl (by decide) hc2 dX9_codes_105 ?_
        refine xi_i2l C (xval.i (q := 81) (i := v3_90) hw90 hc2.1 rfl) dX9_codes_106 ?_
        refine xi_ladd C dX9_codes_107 ?_
        refine xi_ldc2 C xl_X9_148 (v := 4) (by decide +kernel) dX9_codes_108 ?_
        refine xi_lmul C dX9_codes_111 ?_
        refine xi_aload_n C 0 dX9_codes_112 rfl rfl ?_
        refine xi_getR C xK_X9 (q := 54) (r := 82) rfl 42 (by decide) (ki := 42) rfl xl_X9_94 rfl dX9_codes_113 ?_
        refine xi_iconst C (v := 2) dX9_codes_116 rfl ?_
        refine xi_iload_n C 2 dX9_codes_117 rfl rfl ?_
        refine xi_imul C dX9_codes_118 ?_
        obtain ⟨hc3, h⟩ := h
        refine xi_iaload C (q := 82) rfl (by decide) hc3 dX9_codes_119 ?_
        refine xi_i2l C (xval.i (q := 82) (i := 2 * v3_90) hw90 hc3.1 rfl) dX9_codes_120 ?_
        refine xi_ladd C dX9_codes_121 ?_
        refine xi_ldc2 C xl_X9_148 (v := 4) (by decide +kernel) dX9_codes_122 ?_
        refine xi_lmul C dX9_codes_125 ?_
        refine xi_aload_n C 0 dX9_codes_126 rfl rfl ?_
        refine xi_getR C xK_X9 (q := 54) (r := 82) rfl 42 (by decide) (ki := 42) rfl xl_X9_94 rfl dX9_codes_127 ?_
        refine xi_iconst C (v := 2) dX9_codes_130 rfl ?_
        refine xi_iload_n C 2 dX9_codes_131 rfl rfl ?_
        refine xi_imul C dX9_codes_132 ?_
        refine xi_iconst C (v := 1) dX9_codes_133 rfl ?_
        refine xi_iadd C dX9_codes_134 ?_
        obtain ⟨hc4, h⟩ := h
        refine xi_iaload C (q := 82) rfl (by decide) hc4 dX9_codes_135 ?_
        refine xi_i2l C (xval.i (q := 82) (i := (2 * v3_90) + 1) hw90 hc4.1 rfl) dX9_codes_136 ?_
        refine xi_ladd C dX9_codes_137 ?_
        refine xi_lstore_n C (L' := [(1, .long (jN ((((((v1_90 * 3) + (S90 81 v3_90)) * 4) + (S90 82 (2 * v3_90))) * 4) + (S90 82 ((2 * v3_90) + 1))))), (0, .ref (ad 54)), (3, .int (iN v3_90))]) dX9_codes_138 rfl (by decide) rfl ?_
        refine xi_iinc C (L' := [(3, .int (iN (v3_90 + 1))), (1, .long (jN ((((((v1_90 * 3) + (S90 81 v3_90)) * 4) + (S90 82 (2 * v3_90))) * 4) + (S90 82 ((2 * v3_90) + 1))))), (0, .ref (ad 54))]) 2 dX9_codes_139 rfl (by decide) rfl ?_
        refine xi_goto C 90 dX9_codes_142 (by decide) ?_
        obtain ⟨hc5, h⟩ := h
        obtain ⟨hc6, h⟩ := h
        exact xi_sub [2, 1, 0] rfl (hk90 ((((((v1_90 * 3) + (S90 81 v3_90)) * 4) + (S90 82 (2 * v3_90))) * 4) + (S90 82 ((2 * v3_90) + 1))) (v3_90 + 1) S90 h hc5 hc6 hw90)
    · refine xi_sub [1, 2, 0] rfl (xW2 (fun v1_63 v3_63 S63 => xRJ v1_63 → xR v3_63 → xval (gC D ca ad tF) S63 → xV (gC D ca ad tF) p l e ({ frames := 0, cells := 0, slots := 0, locals := 0 }) s m args below meth c A 4 Z 0 0 63 [(0, .ref (ad 54)), (1, .long (jN v1_63)), (3, .int (iN v3_63))] [] S63) h (fun k63 hk63 v1_63 v3_63 S63 h h_v1_63 h_v3_63 hw63 => ?_) h_v1_61 (by decide) hw61)
      unfold w_X9_codes_L63 at h
      refine xi_iload_n C 2 dX9_codes_63 rfl rfl ?_
      refine xi_iconst C (v := 3) dX9_codes_64 rfl ?_
      refine xi_icmp_ge C 88 h_v3_63 (by decide) dX9_codes_65 (by decide) (fun z7 => ?_) (fun z7 => ?_)
      · replace h := h.1 z7
        exact xi_sub [0, 1] rfl (hj88 v1_63 S63 h h_v1_63 hw63)
      · replace h := h.2 z7
        refine xi_lload_n C 1 dX9_codes_68 rfl rfl ?_
        refine xi_ldc2 C xl_X9_148 (v := 4) (by decide +kernel) dX9_codes_69 ?_
        refine xi_lmul C dX9_codes_72 ?_
        refine xi_aload_n C 0 dX9_codes_73 rfl rfl ?_
        refine xi_getR C xK_X9 (q := 54) (r := 80) rfl 40 (by decide) (ki := 40) rfl xl_X9_88 rfl dX9_codes_74 ?_
        refine xi_iload_n C 2 dX9_codes_77 rfl rfl ?_
        obtain ⟨hc8, h⟩ := h
        refine xi_iaload C (q := 80) rfl (by decide) hc8 dX9_codes_78 ?_
        refine xi_i2l C (xval.i (q := 80) (i := v3_63) hw63 hc8.1 rfl) dX9_codes_79 ?_
        refine xi_ladd C dX9_codes_80 ?_
        refine xi_lstore_n C (L' := [(1, .long (jN ((v1_63 * 4) + (S63 80 v3_63)))), (0, .ref (ad 54)), (3, .int (iN v3_63))]) dX9_codes_81 rfl (by decide) rfl ?_
        refine xi_iinc C (L' := [(3, .int (iN (v3_63 + 1))), (1, .long (jN ((v1_63 * 4) + (S63 80 v3_63)))), (0, .ref (ad 54))]) 2 dX9_codes_82 rfl (by decide) rfl ?_
        refine xi_goto C 63 dX9_codes_85 (by decide) ?_
        obtain ⟨hc9, h⟩ := h
        obtain ⟨hc10, h⟩ := h
        exact xi_sub [2, 1, 0] rfl (hk63 ((v1_63 * 4) + (S63 80 v3_63)) (v3_63 + 1) S63 h hc9 hc10 hw63)
  · refine xi_sub [2, 1, 0] rfl (xW2 (fun v1_4 v3_4 S4 => xRJ v1_4 → xR v3_4 → xval (gC D ca ad tF) S4 → xV (gC D ca ad tF) p l e ({ frames := 0, cells := 0, slots := 0, locals := 0 }) s m args below meth c A 4 Z 0 0 4 [(0, .ref (ad 54)), (1, .long (jN v1_4)), (3, .int (iN v3_4))] [] S4) h (fun k4 hk4 v1_4 v3_4 S4 h h_v1_4 h_v3_4 hw4 => ?_) (by decide) (by decide) hw)
    unfold w_X9_codes_L4 at h
    refine xi_iload_n C 2 dX9_codes_4 rfl rfl ?_
    refine xi_iconst C (v := 3) dX9_codes_5 rfl ?_
    refine xi_icmp_ge C 61 h_v3_4 (by decide) dX9_codes_6 (by decide) (fun z11 => ?_) (fun z11 => ?_)
    · replace h := h.1 z11
      exact xi_sub [0, 1] rfl (hj61 v1_4 S4 h h_v1_4 hw4)
    · replace h := h.2 z11
      refine xi_lload_n C 1 dX9_codes_9 rfl rfl ?_
      refine xi_ldc2 C xl_X9_146 (v := 12) (by decide +kernel) dX9_codes_10 ?_
      refine xi_lmul C dX9_codes_13 ?_
      refine xi_aload_n C 0 dX9_codes_14 rfl rfl ?_
      refine xi_getR C xK_X9 (q := 54) (r := 79) rfl 39 (by decide) (ki := 39) rfl xl_X9_85 rfl dX9_codes_15 ?_
      refine xi_iload_n C 2 dX9_codes_18 rfl rfl ?_
      obtain ⟨hc12, h⟩ := h
      refine xi_iaload C (q := 79) rfl (by decide) hc12 dX9_codes_19 ?_
      refine xi_i2l C (xval.i (q := 79) (i := v3_4) hw4 hc12.1 rfl) dX9_codes_20 ?_
      refine xi_ladd C dX9_codes_21 ?_
      refine xi_ldc2 C xl_X9_148 (v := 4) (by decide +kernel) dX9_codes_22 ?_
      refine xi_lmul C dX9_codes_25 ?_
      refine xi_aload_n C 0 dX9_codes_26 rfl rfl ?_
      refine xi_getR C xK_X9 (q := 54) (r := 80) rfl 40 (by decide) (ki := 40) rfl xl_X9_88 rfl dX9_codes_27 ?_
      refine xi_iconst C (v := 3) dX9_codes_30 rfl ?_
      refine xi_iconst C (v := 2) dX9_codes_31 rfl ?_
      refine xi_iload_n C 2 dX9_codes_32 rfl rfl ?_
      refine xi_imul C dX9_codes_33 ?_
      refine xi_iadd C dX9_codes_34 ?_
      obtain ⟨hc13, h⟩ := h
      refine xi_iaload C (q := 80) rfl (by decide) hc13 dX9_codes_35 ?_
      refine xi_i2l C (xval.i (q := 80) (i := 3 + (2 * v3_4)) hw4 hc13.1 rfl) dX9_codes_36 ?_
      refine xi_ladd C dX9_codes_37 ?_
      refine xi_ldc2 C xl_X9_148 (v := 4) (by decide +kernel) dX9_codes_38 ?_
      refine xi_lmul C dX9_codes_41 ?_
      refine xi_aload_n C 0 dX9_codes_42 rfl rfl ?_
      refine xi_getR C xK_X9 (q := 54) (r := 80) rfl 40 (by decide) (ki := 40) rfl xl_X9_88 rfl dX9_codes_43 ?_
      refine xi_iconst C (v := 4) dX9_codes_46 rfl ?_
      refine xi_iconst C (v := 2) dX9_codes_47 rfl ?_
      refine xi_iload_n C 2 dX9_codes_48 rfl rfl ?_
      refine xi_imul C dX9_codes_49 ?_
      refine xi_iadd C dX9_codes_50 ?_
      obtain ⟨hc14, h⟩ := h
      refine xi_iaload C (q := 80) rfl (by decide) hc14 dX9_codes_51 ?_
      refine xi_i2l C (xval.i (q := 80) (i := 4 + (2 * v3_4)) hw4 hc14.1 rfl) dX9_codes_52 ?_
      refine xi_ladd C dX9_codes_53 ?_
      refine xi_lstore_n C (L' := [(1, .long (jN ((((((v1_4 * 12) + (S4 79 v3_4)) * 4) + (S4 80 (3 + (2 * v3_4)))) * 4) + (S4 80 (4 + (2 * v3_4)))))), (0, .ref (ad 54)), (3, .int (iN v3_4))]) dX9_codes_54 rfl (by decide) rfl ?_
      refine xi_iinc C (L' := [(3, .int (iN (v3_4 + 1))), (1, .long (jN ((((((v1_4 * 12) + (S4 79 v3_4)) * 4) + (S4 80 (3 + (2 * v3_4)))) * 4) + (S4 80 (4 + (2 * v3_4)))))), (0, .ref (ad 54))]) 2 dX9_codes_55 rfl (by decide) rfl ?_
      refine xi_goto C 4 dX9_codes_58 (by decide) ?_
      obtain ⟨hc15, h⟩ := h
      obtain ⟨hc16, h⟩ := h
      exact xi_sub [2, 1, 0] rfl (hk4 ((((((v1_4 * 12) + (S4 79 v3_4)) * 4) + (S4 80 (3 + (2 * v3_4)))) * 4) + (S4 80 (4 + (2 * v3_4)))) (v3_4 + 1) S4 h hc15 hc16 hw4)
set_option maxRecDepth 100000 in
set_option maxHeartbeats 4000000 in
theorem c_X9_exchanges (l : Launch) (D : va_G) (ca : Nat → ClassId) (ad : Nat → Nat) (tF : Nat) (a1 : Int) (a2 : Int) (S : xS) (Q : xS → Prop) (h_a1 : xR a1) (h_a2 : xR a2) (h : w_X9_exchanges a1 a2 S Q) : xM l yX9_exchanges (xws yX9_exchanges cX9_exchanges 6 (none)) ({ frames := 0, cells := 0, slots := 0, locals := 0 }) (gC D ca ad tF) [.ref (ad 54), .int (iN a1), .int (iN a2)] S (xQv Q) 0 0 := by
  refine xm_of RX9 rfl (by decide +kernel) (Nat.le_of_ble_eq_true rfl) ?_
  intro p e s m args below meth c A Z C hA hZ hr hlocks hw
  unfold w_X9_exchanges at h
  show xV (gC D ca ad tF) p l e ({ frames := 0, cells := 0, slots := 0, locals := 0 }) s m args below meth c A 6 Z 0 0 0 [(0, .ref (ad 54)), (1, .int (iN a1)), (2, .int (iN a2))] [] S
  refine xi_aload_n C 0 dX9_exchanges_0 rfl rfl ?_
  refine xi_getR C xK_X9 (q := 54) (r := 79) rfl 39 (by decide) (ki := 39) rfl xl_X9_85 rfl dX9_exchanges_1 ?_
  refine xi_iload_n C 1 dX9_exchanges_4 rfl rfl ?_
  obtain ⟨hc1, h⟩ := h
  refine xi_iaload C (q := 79) rfl (by decide) hc1 dX9_exchanges_5 ?_
  refine xi_istore_n C (L' := [(3, .int (iN (S 79 a1))), (0, .ref (ad 54)), (1, .int (iN a1)), (2, .int (iN a2))]) dX9_exchanges_6 rfl (by decide) rfl ?_
  refine xi_aload_n C 1 dX9_exchanges_7 rfl rfl ?_
  refine xi_getR C xK_X9 (q := 54) (r := 80) rfl 40 (by decide) (ki := 40) rfl xl_X9_88 rfl dX9_exchanges_8 ?_
  refine xi_iconst C (v := 3) dX9_exchanges_11 rfl ?_
  refine xi_iconst C (v := 2) dX9_exchanges_12 rfl ?_
  refine xi_iload_n C 2 dX9_exchanges_13 rfl rfl ?_
  refine xi_imul C dX9_exchanges_14 ?_
  refine xi_iadd C dX9_exchanges_15 ?_
  obtain ⟨hc2, h⟩ := h
  refine xi_iaload C (q := 80) rfl (by decide) hc2 dX9_exchanges_16 ?_
  refine xi_istore C (L' := [(4, .int (iN (S 80 (3 + (2 * a1))))), (3, .int (iN (S 79 a1))), (0, .ref (ad 54)), (1, .int (iN a1)), (2, .int (iN a2))]) dX9_exchanges_17 (by decide) rfl ?_
  refine xi_aload_n C 2 dX9_exchanges_19 rfl rfl ?_
  refine xi_getR C xK_X9 (q := 54) (r := 80) rfl 40 (by decide) (ki := 40) rfl xl_X9_88 rfl dX9_exchanges_20 ?_
  refine xi_iconst C (v := 4) dX9_exchanges_23 rfl ?_
  refine xi_iconst C (v := 2) dX9_exchanges_24 rfl ?_
  refine xi_iload_n C 3 dX9_exchanges_25 rfl rfl ?_
  refine xi_imul C dX9_exchanges_26 ?_
  refine xi_iadd C dX9_exchanges_27 ?_
  obtain ⟨hc3, h⟩ := h
  refine xi_iaload C (q := 80) rfl (by decide) hc3 dX9_exchanges_28 ?_
  refine xi_istore C (L' := [(5, .int (iN (S 80 (4 + (2 * a1))))), (4, .int (iN (S 80 (3 + (2 * a1))))), (3, .int (iN (S 79 a1))), (0, .ref (ad 54)), (1, .int (iN a1)), (2, .int (iN a2))]) dX9_exchanges_29 (by decide) rfl ?_
  refine xi_aload_n C 3 dX9_exchanges_31 rfl rfl ?_
  refine xi_getR C xK_X9 (q := 54) (r := 79) rfl 39 (by decide) (ki := 39) rfl xl_X9_85 rfl dX9_exchanges_32 ?_
  refine xi_iload_n C 4 dX9_exchanges_35 rfl rfl ?_
  refine xi_aload_n C 3 dX9_exchanges_36 rfl rfl ?_
  refine xi_getR C xK_X9 (q := 54) (r := 79) rfl 39 (by decide) (ki := 39) rfl xl_X9_85 rfl dX9_exchanges_37 ?_
  refine xi_iload_n C 5 dX9_exchanges_40 rfl rfl ?_
  obtain ⟨hc4, h⟩ := h
  refine xi_iaload C (q := 79) rfl (by decide) hc4 dX9_exchanges_41 ?_
  refine xi_iastore C (q := 79) rfl (by decide) hc1 dX9_exchanges_42 ?_
  have hw5 := xval.up (q := 79) (i := a1) (v := S 79 a2) hw rfl (xval.i (q := 79) (i := a2) hw hc4.1 rfl)
  refine xi_aload_n C 3 dX9_exchanges_43 rfl rfl ?_
  refine xi_getR C xK_X9 (q := 54) (r := 80) rfl 40 (by decide) (ki := 40) rfl xl_X9_88 rfl dX9_exchanges_44 ?_
  refine xi_iconst C (v := 3) dX9_exchanges_47 rfl ?_
  refine xi_iconst C (v := 2) dX9_exchanges_48 rfl ?_
  refine xi_iload_n C 4 dX9_exchanges_49 rfl rfl ?_
  refine xi_imul C dX9_exchanges_50 ?_
  refine xi_iadd C dX9_exchanges_51 ?_
  refine xi_aload_n C 3 dX9_exchanges_52 rfl rfl ?_
  refine xi_getR C xK_X9 (q := 54) (r := 80) rfl 40 (by decide) (ki := 40) rfl xl_X9_88 rfl dX9_exchanges_53 ?_
  refine xi_iconst C (v := 3) dX9_exchanges_56 rfl ?_
  refine xi_iconst C (v := 2) dX9_exchanges_57 rfl ?_
  refine xi_iload_n C 5 dX9_exchanges_58 rfl rfl ?_
  refine xi_imul C dX9_exchanges_59 ?_
  refine xi_iadd C dX9_exchanges_60 ?_
  obtain ⟨hc6, h⟩ := h
  refine xi_iaload C (q := 80) rfl (by decide) hc6 dX9_exchanges_61 ?_
  refine xi_iastore C (q := 80) rfl (by decide) hc2 dX9_exchanges_62 ?_
  have hw7 := xval.up (q := 80) (i := 3 + (2 * a1)) (v := S 80 (3 + (2 * a2))) hw5 rfl (xval.i (q := 80) (i := 3 + (2 * a2)) hw5 hc6.1 rfl)
  refine xi_aload_n C 3 dX9_exchanges_63 rfl rfl ?_
  refine xi_getR C xK_X9 (q := 54) (r := 80) rfl 40 (by decide) (ki := 40) rfl xl_X9_88 rfl dX9_exchanges_64 ?_
  refine xi_iconst C (v := 4) dX9_exchanges_67 rfl ?_
  refine xi_iconst C (v := 2) dX9_exchanges_68 rfl ?_
  refine xi_iload_n C 4 dX9_exchanges_69 rfl rfl ?_
  refine xi_imul C dX9_exchanges_70 ?_
  refine xi_iadd C dX9_exchanges_71 ?_
  refine xi_aload_n C 3 dX9_exchanges_72 rfl rfl ?_
  refine xi_getR C xK_X9 (q := 54) (r := 80) rfl 40 (by decide) (ki := 40) rfl xl_X9_88 rfl dX9_exchanges_73 ?_
  refine xi_iconst C (v := 4) dX9_exchanges_76 rfl ?_
  refine xi_iconst C (v := 2) dX9_exchanges_77 rfl ?_
  refine xi_iload_n C 5 dX9_exchanges_78 rfl rfl ?_
  refine xi_imul C dX9_exchanges_79 ?_
  refine xi_iadd C dX9_exchanges_80 ?_
  obtain ⟨hc8, h⟩ := h
  refine xi_iaload C (q := 80) rfl (by decide) hc8 dX9_exchanges_81 ?_
  refine xi_iastore C (q := 80) rfl (by decide) hc3 dX9_exchanges_82 ?_
  have hw9 := xval.up (q := 80) (i := 4 + (2 * a1)) (v := (xup (xup S 79 a1 (S 79 a2)) 80 (3 + (2 * a1)) (S 80 (3 + (2 * a2)))) 80 (4 + (2 * a2))) hw7 rfl (xval.i (q := 80) (i := 4 + (2 * a2)) hw7 hc8.1 rfl)
  refine xi_aload_n C 3 dX9_exchanges_83 rfl rfl ?_
  refine xi_getR C xK_X9 (q := 54) (r := 79) rfl 39 (by decide) (ki := 39) rfl xl_X9_85 rfl dX9_exchanges_84 ?_
  refine xi_iload_n C 5 dX9_exchanges_87 rfl rfl ?_
  refine xi_iload_n C 2 dX9_exchanges_88 rfl rfl ?_
  refine xi_iastore C (q := 79) rfl (by decide) hc4 dX9_exchanges_89 ?_
  have hw10 := xval.up (q := 79) (i := a2) (v := S 79 a1) hw9 rfl (xval.i (q := 79) (i := a1) hw hc1.1 rfl)
  refine xi_aload_n C 3 dX9_exchanges_90 rfl rfl ?_
  refine xi_getR C xK_X9 (q := 54) (r := 80) rfl 40 (by decide) (ki := 40) rfl xl_X9_88 rfl dX9_exchanges_91 ?_
  refine xi_iconst C (v := 3) dX9_exchanges_94 rfl ?_
  refine xi_iconst C (v := 2) dX9_exchanges_95 rfl ?_
  refine xi_iload_n C 5 dX9_exchanges_96 rfl rfl ?_
  refine xi_imul C dX9_exchanges_97 ?_
  refine xi_iadd C dX9_exchanges_98 ?_
  refine xi_iload C 1 dX9_exchanges_99 rfl ?_
  refine xi_iastore C (q := 80) rfl (by decide) hc6 dX9_exchanges_101 ?_
  have hw11 := xval.up (q := 80) (i := 3 + (2 * a2)) (v := S 80 (3 + (2 * a1))) hw10 rfl (xval.i (q := 80) (i := 3 + (2 * a1)) hw hc2.1 rfl)
  refine xi_aload_n C 3 dX9_exchanges_102 rfl rfl ?_
  refine xi_getR C xK_X9 (q := 54) (r := 80) rfl 40 (by decide) (ki := 40) rfl xl_X9_88 rfl dX9_exchanges_103 ?_
  refine xi_iconst C (v := 4) dX9_exchanges_106 rfl ?_
  refine xi_iconst C (v := 2) dX9_exchanges_107 rfl ?_
  refine xi_iload_n C 5 dX9_exchanges_108 rfl rfl ?_
  refine xi_imul C dX9_exchanges_109 ?_
  refine xi_iadd C dX9_exchanges_110 ?_
  refine xi_iload C 0 dX9_exchanges_111 rfl ?_
  refine xi_iastore C (q := 80) rfl (by decide) hc8 dX9_exchanges_113 ?_
  have hw12 := xval.up (q := 80) (i := 4 + (2 * a2)) (v := S 80 (4 + (2 * a1))) hw11 rfl (xval.i (q := 80) (i := 4 + (2 * a1)) hw hc3.1 rfl)
  exact xr_v C hA hZ hr hlocks dX9_exchanges_114 (Nat.le_of_ble_eq_true rfl) (Nat.le_of_ble_eq_true rfl) hw12 ⟨rfl, h⟩
set_option maxRecDepth 100000 in
set_option maxHeartbeats 4000000 in
theorem c_X9_lessens (l : Launch) (D : va_G) (ca : Nat → ClassId) (ad : Nat → Nat) (tF : Nat) (a1 : Int) (a2 : Int) (S : xS) (Q : xS → Prop) (h_a1 : xR a1) (h_a2 : xR a2) (h : w_X9_lessens a1 a2 S Q) : xM l yX9_lessens (xws yX9_lessens cX9_lessens 5 (none)) ({ frames := 3, cells := 0, slots := 0, locals := 71 }) (gC D ca ad tF) [.ref (ad 54), .int (iN a1), .int (iN a2)] S (xQv Q) 0 0 := by
  refine xm_of RX9 rfl (by decide +kernel) (Nat.le_of_ble_eq_true rfl) ?_
  intro p e s m args below meth c A Z C hA hZ hr hlocks hw
  unfold w_X9_lessens at h
  show xV (gC D ca ad tF) p l e ({ frames := 3, cells := 0, slots := 0, locals := 71 }) s m args below meth c A 5 Z 0 0 0 [(0, .ref (ad 54)), (1, .int (iN a1)), (2, .int (iN a2))] [] S
  refine xi_iload_n C 2 dX9_lessens_0 rfl rfl ?_
  refine xi_aload_n C 0 dX9_lessens_1 rfl rfl ?_
  refine xi_getI C xK_X9 (q := 54) (r := 0) rfl 1 (by decide) (ki := 1) rfl xl_X9_161 rfl dX9_lessens_2 ?_
  refine xi_icmp_ge C 17 h_a2 (xval.i (q := 54) (i := 1) hw (by decide) rfl) dX9_lessens_5 (by decide) (fun z1 => ?_) (fun z1 => ?_)
  · replace h := h.1 z1
    exact xr_v C hA hZ hr hlocks dX9_lessens_17 (Nat.le_of_ble_eq_true rfl) (Nat.le_of_ble_eq_true rfl) hw ⟨rfl, h⟩
  · replace h := h.2 z1
    refine xi_aload_n C 0 dX9_lessens_8 rfl rfl ?_
    refine xi_iload_n C 1 dX9_lessens_9 rfl rfl ?_
    refine xi_iload_n C 2 dX9_lessens_10 rfl rfl ?_
    refine xc_Vi C hw (c_X9_areLike l D ca ad tF a1 a2 S _ h_a1 h_a2 h) xk_X9_areLike xv_X9_areLike xl_X9_195 ⟨Nat.le_of_ble_eq_true rfl, Nat.le_of_ble_eq_true rfl⟩ xK_X9 (q := 54) rfl rfl rfl (Nat.le_of_ble_eq_true rfl) ⟨Nat.le_of_ble_eq_true rfl, Nat.le_of_ble_eq_true rfl⟩ dX9_lessens_11 (fun r11 S11 h_r11 h hw2 => ?_)
    refine xi_if_ne C 18 h_r11 dX9_lessens_14 (by decide) (fun z3 => ?_) (fun z3 => ?_)
    · replace h := h.1 z3
      refine xi_aload_n C 0 dX9_lessens_18 rfl rfl ?_
      refine xc_Vj C hw2 (c_X9_codes l D ca ad tF S11 _ h) xk_X9_codes xv_X9_codes xl_X9_198 ⟨Nat.le_of_ble_eq_true rfl, Nat.le_of_ble_eq_true rfl⟩ xK_X9 (q := 54) rfl rfl rfl (Nat.le_of_ble_eq_true rfl) ⟨Nat.le_of_ble_eq_true rfl, Nat.le_of_ble_eq_true rfl⟩ dX9_lessens_19 (fun r19 S19 h_r19 h hw4 => ?_)
      refine xi_lstore_n C (L' := [(3, .long (jN r19)), (0, .ref (ad 54)), (1, .int (iN a1)), (2, .int (iN a2))]) dX9_lessens_22 rfl (by decide) rfl ?_
      refine xi_aload_n C 1 dX9_lessens_23 rfl rfl ?_
      refine xi_iload_n C 2 dX9_lessens_24 rfl rfl ?_
      refine xi_iload_n C 3 dX9_lessens_25 rfl rfl ?_
      refine xc_Vv C hw4 (c_X9_exchanges l D ca ad tF a1 a2 S19 _ h_a1 h_a2 h) xk_X9_exchanges xv_X9_exchanges xl_X9_202 ⟨Nat.le_of_ble_eq_true rfl, Nat.le_of_ble_eq_true rfl⟩ xK_X9 (q := 54) rfl rfl rfl (Nat.le_of_ble_eq_true rfl) ⟨Nat.le_of_ble_eq_true rfl, Nat.le_of_ble_eq_true rfl⟩ dX9_lessens_26 (fun S26 h hw5 => ?_)
      refine xi_aload_n C 1 dX9_lessens_29 rfl rfl ?_
      refine xc_Vj C hw5 (c_X9_codes l D ca ad tF S26 _ h) xk_X9_codes xv_X9_codes xl_X9_198 ⟨Nat.le_of_ble_eq_true rfl, Nat.le_of_ble_eq_true rfl⟩ xK_X9 (q := 54) rfl rfl rfl (Nat.le_of_ble_eq_true rfl) ⟨Nat.le_of_ble_eq_true rfl, Nat.le_of_ble_eq_true rfl⟩ dX9_lessens_30 (fun r30 S30 h_r30 h hw6 => ?_)
      refine xi_lload_n C 0 dX9_lessens_33 rfl rfl ?_
      refine xi_lcmp_le C 44 h_r30 h_r19 dX9_lessens_34 dX9_lessens_35 (by decide) (fun z7 => ?_) (fun z7 => ?_)
      · replace h := h.1 z7
        exact xr_v C hA hZ hr hlocks dX9_lessens_44 (Nat.le_of_ble_eq_true rfl) (Nat.le_of_ble_eq_true rfl) hw6 ⟨rfl, h⟩
      · replace h := h.2 z7
        refine xi_aload_n C 1 dX9_lessens_38 rfl rfl ?_
        refine xi_iload_n C 2 dX9_lessens_39 rfl rfl ?_
        refine xi_iload_n C 3 dX9_lessens_40 rfl rfl ?_
        refine xc_Vv C hw6 (c_X9_exchanges l D ca ad tF a1 a2 S30 _ h_a1 h_a2 h) xk_X9_exchanges xv_X9_exchanges xl_X9_202 ⟨Nat.le_of_ble_eq_true rfl, Nat.le_of_ble_eq_true rfl⟩ xK_X9 (q := 54) rfl rfl rfl (Nat.le_of_ble_eq_true rfl) ⟨Nat.le_of_ble_eq_true rfl, Nat.le_of_ble_eq_true rfl⟩ dX9_lessens_41 (fun S41 h hw8 => ?_)
        exact xr_v C hA hZ hr hlocks dX9_lessens_44 (Nat.le_of_ble_eq_true rfl) (Nat.le_of_ble_eq_true rfl) hw8 ⟨rfl, h⟩
    · replace h := h.2 z3
      exact xr_v C hA hZ hr hlocks dX9_lessens_17 (Nat.le_of_ble_eq_true rfl) (Nat.le_of_ble_eq_true rfl) hw2 ⟨rfl, h⟩
set_option maxRecDepth 100000 in
set_option maxHeartbeats 4000000 in
theorem c_X9_found (l : Launch) (D : va_G) (ca : Nat → ClassId) (ad : Nat → Nat) (tF : Nat)  (S : xS) (Q : Int → xS → Prop)  (h : w_X9_found  S Q) : xM l yX9_found (xws yX9_found cX9_found 2 (some .long)) ({ frames := 4, cells := 0, slots := 0, locals := 95 }) (gC D ca ad tF) [.ref (ad 54)] S (xQj Q) 0 0 := by
  refine xm_of RX9 rfl (by decide +kernel) (Nat.le_of_ble_eq_true rfl) ?_
  intro p e s m args below meth c A Z C hA hZ hr hlocks hw
  unfold w_X9_found at h
  show xV (gC D ca ad tF) p l e ({ frames := 4, cells := 0, slots := 0, locals := 95 }) s m args below meth c A 2 Z 0 0 0 [(0, .ref (ad 54))] [] S
  refine xi_iconst C (v := 0) dX9_found_0 rfl ?_
  refine xi_istore_n C (L' := [(1, .int (iN 0)), (0, .ref (ad 54))]) dX9_found_1 rfl (by decide) rfl ?_
  refine xJ0_w (fun  S40 => xval (gC D ca ad tF) S40 → xV (gC D ca ad tF) p l e ({ frames := 4, cells := 0, slots := 0, locals := 95 }) s m args below meth c A 2 Z 0 0 40 [(0, .ref (ad 54))] [] S40) h (fun  S40 h  hw40 => ?_) (fun j40 hj40 h => ?_)
  · unfold w_X9_found_J40 at h
    refine xi_aload_n C 0 dX9_found_40 rfl rfl ?_
    refine xc_Vj C hw40 (c_X9_codes l D ca ad tF S40 _ h) xk_X9_codes xv_X9_codes xl_X9_198 ⟨Nat.le_of_ble_eq_true rfl, Nat.le_of_ble_eq_true rfl⟩ xK_X9 (q := 54) rfl rfl rfl (Nat.le_of_ble_eq_true rfl) ⟨Nat.le_of_ble_eq_true rfl, Nat.le_of_ble_eq_true rfl⟩ dX9_found_41 (fun r41 S41 h_r41 h hw1 => ?_)
    exact xr_j C hA hZ hr hlocks dX9_found_44 (Nat.le_of_ble_eq_true rfl) (Nat.le_of_ble_eq_true rfl) hw1 ⟨_, rfl, h_r41, h⟩
  · refine xi_sub [1, 0] rfl (xW1 (fun v1_2 S2 => xR v1_2 → xval (gC D ca ad tF) S2 → xV (gC D ca ad tF) p l e ({ frames := 4, cells := 0, slots := 0, locals := 95 }) s m args below meth c A 2 Z 0 0 2 [(0, .ref (ad 54)), (1, .int (iN v1_2))] [] S2) h (fun k2 hk2 v1_2 S2 h h_v1_2 hw2 => ?_) (by decide) hw)
    unfold w_X9_found_L2 at h
    refine xi_iload_n C 1 dX9_found_2 rfl rfl ?_
    refine xi_iconst C (v := 3) dX9_found_3 rfl ?_
    refine xi_icmp_ge C 40 h_v1_2 (by decide) dX9_found_4 (by decide) (fun z2 => ?_) (fun z2 => ?_)
    · replace h := h.1 z2
      exact xi_sub [0] rfl (hj40 S2 h hw2)
    · replace h := h.2 z2
      refine xi_aload_n C 0 dX9_found_7 rfl rfl ?_
      refine xi_getI C xK_X9 (q := 54) (r := 0) rfl 4 (by decide) (ki := 4) rfl xl_X9_205 rfl dX9_found_8 ?_
      refine xi_bipush C (v := 115) dX9_found_11 (by decide +kernel) ?_
      refine xi_icmp_ne C 40 (xval.i (q := 54) (i := 4) hw2 (by decide) rfl) (by decide) dX9_found_13 (by decide) (fun z3 => ?_) (fun z3 => ?_)
      · replace h := h.1 z3
        exact xi_sub [0] rfl (hj40 S2 h hw2)
      · replace h := h.2 z3
        refine xi_aload_n C 0 dX9_found_16 rfl rfl ?_
        refine xi_iconst C (v := 0) dX9_found_17 rfl ?_
        refine xi_iconst C (v := 1) dX9_found_18 rfl ?_
        refine xc_Vv C hw2 (c_X9_lessens l D ca ad tF 0 1 S2 _ (by decide) (by decide) h) xk_X9_lessens xv_X9_lessens xl_X9_208 ⟨Nat.le_of_ble_eq_true rfl, Nat.le_of_ble_eq_true rfl⟩ xK_X9 (q := 54) rfl rfl rfl (Nat.le_of_ble_eq_true rfl) ⟨Nat.le_of_ble_eq_true rfl, Nat.le_of_ble_eq_true rfl⟩ dX9_found_19 (fun S19 h hw4 => ?_)
        refine xi_aload_n C 0 dX9_found_22 rfl rfl ?_
        refine xi_iconst C (v := 0) dX9_found_23 rfl ?_
        refine xi_iconst C (v := 2) dX9_found_24 rfl ?_
        refine xc_Vv C hw4 (c_X9_lessens l D ca ad tF 0 2 S19 _ (by decide) (by decide) h) xk_X9_lessens xv_X9_lessens xl_X9_208 ⟨Nat.le_of_ble_eq_true rfl, Nat.le_of_ble_eq_true rfl⟩ xK_X9 (q := 54) rfl rfl rfl (Nat.le_of_ble_eq_true rfl) ⟨Nat.le_of_ble_eq_true rfl, Nat.le_of_ble_eq_true rfl⟩ dX9_found_25 (fun S25 h hw5 => ?_)
        refine xi_aload_n C 0 dX9_found_28 rfl rfl ?_
        refine xi_iconst C (v := 1) dX9_found_29 rfl ?_
        refine xi_iconst C (v := 2) dX9_found_30 rfl ?_
        refine xc_Vv C hw5 (c_X9_lessens l D ca ad tF 1 2 S25 _ (by decide) (by decide) h) xk_X9_lessens xv_X9_lessens xl_X9_208 ⟨Nat.le_of_ble_eq_true rfl, Nat.le_of_ble_eq_true rfl⟩ xK_X9 (q := 54) rfl rfl rfl (Nat.le_of_ble_eq_true rfl) ⟨Nat.le_of_ble_eq_true rfl, Nat.le_of_ble_eq_true rfl⟩ dX9_found_31 (fun S31 h hw6 => ?_)
        refine xi_iinc C (L' := [(1, .int (iN (v1_2 + 1))), (0, .ref (ad 54))]) 1 dX9_found_34 rfl (by decide) rfl ?_
        refine xi_goto C 2 dX9_found_37 (by decide) ?_
        obtain ⟨hc7, h⟩ := h
        exact xi_sub [1, 0] rfl (hk2 (v1_2 + 1) S31 h hc7 hw6)
set_option maxRecDepth 100000 in
set_option maxHeartbeats 4000000 in
theorem c_X9_slotOf (l : Launch) (D : va_G) (ca : Nat → ClassId) (ad : Nat → Nat) (tF : Nat) (a0 : Int) (S : xS) (Q : Int → xS → Prop) (h_a0 : xRJ a0) (h : w_X9_slotOf a0 S Q) : xM l yX9_slotOf (xws yX9_slotOf cX9_slotOf 2 (some .int)) ({ frames := 0, cells := 0, slots := 0, locals := 0 }) (gC D ca ad tF) [.long (jN a0)] S (xQi Q) 0 0 := by
  refine xm_of RX9 rfl (by decide +kernel) (Nat.le_of_ble_eq_true rfl) ?_
  intro p e s m args below meth c A Z C hA hZ hr hlocks hw
  unfold w_X9_slotOf at h
  show xV (gC D ca ad tF) p l e ({ frames := 0, cells := 0, slots := 0, locals := 0 }) s m args below meth c A 2 Z 0 0 0 [(0, .long (jN a0))] [] S
  refine xi_lload_n C 0 dX9_slotOf_0 rfl rfl ?_
  refine xi_ldc2 C xl_X9_211 (v := 7919) (by decide +kernel) dX9_slotOf_1 ?_
  refine xi_lmul C dX9_slotOf_4 ?_
  refine xi_ldc2 C xl_X9_213 (v := 8192) (by decide +kernel) dX9_slotOf_5 ?_
  obtain ⟨hc1, h⟩ := h
  obtain ⟨hc2, h⟩ := h
  refine xi_lrem C hc1 hc2 (by decide) (by decide) dX9_slotOf_8 ?_
  refine xi_l2i C dX9_slotOf_9 ?_
  obtain ⟨hc3, h⟩ := h
  exact xr_i C hA hZ hr hlocks rfl dX9_slotOf_10 (Nat.le_of_ble_eq_true rfl) (Nat.le_of_ble_eq_true rfl) hw ⟨_, rfl, hc3, h⟩
set_option maxRecDepth 100000 in
set_option maxHeartbeats 4000000 in
theorem c_X9_discovers (l : Launch) (D : va_G) (ca : Nat → ClassId) (ad : Nat → Nat) (tF : Nat) (a1 : Int) (a3 : Int) (a4 : Int) (S : xS) (Q : xS → Prop) (h_a1 : xRJ a1) (h_a3 : xR a3) (h_a4 : xR a4) (h : w_X9_discovers a1 a3 a4 S Q) : xM l yX9_discovers (xws yX9_discovers cX9_discovers 7 (none)) ({ frames := 1, cells := 0, slots := 0, locals := 21 }) (gC D ca ad tF) [.ref (ad 54), .long (jN a1), .int (iN a3), .int (iN a4)] S (xQv Q) 0 0 := by
  refine xm_of RX9 rfl (by decide +kernel) (Nat.le_of_ble_eq_true rfl) ?_
  intro p e s m args below meth c A Z C hA hZ hr hlocks hw
  unfold w_X9_discovers at h
  show xV (gC D ca ad tF) p l e ({ frames := 1, cells := 0, slots := 0, locals := 21 }) s m args below meth c A 7 Z 0 0 0 [(0, .ref (ad 54)), (1, .long (jN a1)), (3, .int (iN a3)), (4, .int (iN a4))] [] S
  refine xi_lload_n C 1 dX9_discovers_0 rfl rfl ?_
  refine xc_Si C hw (c_X9_slotOf l D ca ad tF a1 S _ h_a1 h) xk_X9_slotOf xs_X9_slotOf xl_X9_215 ⟨Nat.le_of_ble_eq_true rfl, Nat.le_of_ble_eq_true rfl⟩ rfl rfl (Nat.le_of_ble_eq_true rfl) ⟨Nat.le_of_ble_eq_true rfl, Nat.le_of_ble_eq_true rfl⟩ dX9_discovers_1 (fun r1 S1 h_r1 h hw1 => ?_)
  refine xi_istore C (L' := [(5, .int (iN r1)), (0, .ref (ad 54)), (1, .long (jN a1)), (3, .int (iN a3)), (4, .int (iN a4))]) dX9_discovers_4 (by decide) rfl ?_
  refine xJ1_w (fun v5_29 S29 => xR v5_29 → xval (gC D ca ad tF) S29 → xV (gC D ca ad tF) p l e ({ frames := 1, cells := 0, slots := 0, locals := 21 }) s m args below meth c A 7 Z 0 0 29 [(0, .ref (ad 54)), (1, .long (jN a1)), (3, .int (iN a3)), (4, .int (iN a4)), (5, .int (iN v5_29))] [] S29) h (fun v5_29 S29 h h_v5_29 hw29 => ?_) (fun j29 hj29 h => ?_)
  · unfold w_X9_discovers_J29 at h
    refine xi_aload_n C 0 dX9_discovers_29 rfl rfl ?_
    refine xi_getR C xK_X9 (q := 54) (r := 71) rfl 31 (by decide) (ki := 31) rfl xl_X9_60 rfl dX9_discovers_30 ?_
    refine xi_iload C 4 dX9_discovers_33 rfl ?_
    refine xi_aload_n C 0 dX9_discovers_35 rfl rfl ?_
    refine xi_getI C xK_X9 (q := 54) (r := 0) rfl 5 (by decide) (ki := 5) rfl xl_X9_224 rfl dX9_discovers_36 ?_
    refine xi_iconst C (v := 1) dX9_discovers_39 rfl ?_
    refine xi_iadd C dX9_discovers_40 ?_
    obtain ⟨hc2, h⟩ := h
    obtain ⟨hc3, h⟩ := h
    refine xi_iastore C (q := 71) rfl (by decide) hc3 dX9_discovers_41 ?_
    have hw4 := xval.up (q := 71) (i := v5_29) (v := (S29 54 5) + 1) hw29 rfl hc2
    refine xi_aload_n C 0 dX9_discovers_42 rfl rfl ?_
    refine xi_getR C xK_X9 (q := 54) (r := 72) rfl 32 (by decide) (ki := 32) rfl xl_X9_63 rfl dX9_discovers_43 ?_
    refine xi_lload_n C 1 dX9_discovers_46 rfl rfl ?_
    refine xi_ldc2 C xl_X9_219 (v := 509) (by decide +kernel) dX9_discovers_47 ?_
    obtain ⟨hc5, h⟩ := h
    refine xi_lrem C h_a1 hc5 (by decide) (by decide) dX9_discovers_50 ?_
    refine xi_l2i C dX9_discovers_51 ?_
    refine xi_iconst C (v := 1) dX9_discovers_52 rfl ?_
    obtain ⟨hc6, h⟩ := h
    refine xi_bastore C (q := 72) rfl (by decide) hc6 (Or.inr rfl) dX9_discovers_53 ?_
    have hw7 := xval.up (q := 72) (i := a1 % 509) (v := 1) hw4 rfl (by decide)
    refine xi_aload_n C 0 dX9_discovers_54 rfl rfl ?_
    refine xi_getR C xK_X9 (q := 54) (r := 67) rfl 27 (by decide) (ki := 27) rfl xl_X9_47 rfl dX9_discovers_55 ?_
    refine xi_aload_n C 0 dX9_discovers_58 rfl rfl ?_
    refine xi_getI C xK_X9 (q := 54) (r := 0) rfl 5 (by decide) (ki := 5) rfl xl_X9_224 rfl dX9_discovers_59 ?_
    refine xi_lload_n C 1 dX9_discovers_62 rfl rfl ?_
    obtain ⟨hc8, h⟩ := h
    refine xi_lastore C (q := 67) rfl (by decide) hc8 dX9_discovers_63 ?_
    have hw9 := xval.upJ (q := 67) (i := S29 54 5) (v := a1) hw7 rfl h_a1
    refine xi_aload_n C 0 dX9_discovers_64 rfl rfl ?_
    refine xi_getR C xK_X9 (q := 54) (r := 68) rfl 28 (by decide) (ki := 28) rfl xl_X9_51 rfl dX9_discovers_65 ?_
    refine xi_aload_n C 0 dX9_discovers_68 rfl rfl ?_
    refine xi_getI C xK_X9 (q := 54) (r := 0) rfl 5 (by decide) (ki := 5) rfl xl_X9_224 rfl dX9_discovers_69 ?_
    refine xi_iload_n C 2 dX9_discovers_72 rfl rfl ?_
    refine xi_iastore C (q := 68) rfl (by decide) hc8 dX9_discovers_73 ?_
    have hw10 := xval.up (q := 68) (i := S29 54 5) (v := a3) hw9 rfl h_a3
    refine xi_aload_n C 0 dX9_discovers_74 rfl rfl ?_
    refine xi_getR C xK_X9 (q := 54) (r := 69) rfl 29 (by decide) (ki := 29) rfl xl_X9_54 rfl dX9_discovers_75 ?_
    refine xi_aload_n C 0 dX9_discovers_78 rfl rfl ?_
    refine xi_getI C xK_X9 (q := 54) (r := 0) rfl 5 (by decide) (ki := 5) rfl xl_X9_224 rfl dX9_discovers_79 ?_
    refine xi_iload C 3 dX9_discovers_82 rfl ?_
    refine xi_iastore C (q := 69) rfl (by decide) hc8 dX9_discovers_84 ?_
    have hw11 := xval.up (q := 69) (i := S29 54 5) (v := a4) hw10 rfl h_a4
    refine xi_aload_n C 0 dX9_discovers_85 rfl rfl ?_
    refine xi_getR C xK_X9 (q := 54) (r := 70) rfl 30 (by decide) (ki := 30) rfl xl_X9_57 rfl dX9_discovers_86 ?_
    refine xi_aload_n C 0 dX9_discovers_89 rfl rfl ?_
    refine xi_getI C xK_X9 (q := 54) (r := 0) rfl 5 (by decide) (ki := 5) rfl xl_X9_224 rfl dX9_discovers_90 ?_
    refine xi_iload_n C 2 dX9_discovers_93 rfl rfl ?_
    refine xi_iconst C (v := (-1)) dX9_discovers_94 rfl ?_
    refine xJ1_w (fun t0_110 S110 => xR t0_110 → xval (gC D ca ad tF) S110 → xV (gC D ca ad tF) p l e ({ frames := 1, cells := 0, slots := 0, locals := 21 }) s m args below meth c A 7 Z 0 0 110 [(0, .ref (ad 54))] [.int (iN t0_110), .int (iN (S29 54 5)), .ref (ad 70)] S110) h (fun t0_110 S110 h h_t0_110 hw110 => ?_) (fun j110 hj110 h => ?_)
    · unfold w_X9_discovers_J110 at h
      refine xi_iastore C (q := 70) rfl (by decide) hc8 dX9_discovers_110 ?_
      have hw13 := xval.up (q := 70) (i := S29 54 5) (v := t0_110) hw110 rfl h_t0_110
      refine xi_aload_n C 0 dX9_discovers_111 rfl rfl ?_
      refine xi_dup C dX9_discovers_112 rfl ?_
      refine xi_getI C xK_X9 (q := 54) (r := 0) rfl 5 (by decide) (ki := 5) rfl xl_X9_224 rfl dX9_discovers_113 ?_
      refine xi_iconst C (v := 1) dX9_discovers_116 rfl ?_
      refine xi_iadd C dX9_discovers_117 ?_
      obtain ⟨hc14, h⟩ := h
      refine xi_putI C xK_X9 (q := 54) (r := 0) rfl 5 (by decide) (ki := 5) rfl xl_X9_224 rfl rfl rfl dX9_discovers_118 ?_
      have hw15 := xval.up (q := 54) (i := 5) (v := (S110 54 5) + 1) hw13 rfl hc14
      refine xi_iconst C (v := 0) dX9_discovers_121 rfl ?_
      refine xi_istore C (L' := [(6, .int (iN 0)), (0, .ref (ad 54))]) dX9_discovers_122 (by decide) rfl ?_
      refine xJ0_w (fun  S187 => xval (gC D ca ad tF) S187 → xV (gC D ca ad tF) p l e ({ frames := 1, cells := 0, slots := 0, locals := 21 }) s m args below meth c A 7 Z 0 0 187 [(0, .ref (ad 54))] [] S187) h (fun  S187 h  hw187 => ?_) (fun j187 hj187 h => ?_)
      · unfold w_X9_discovers_J187 at h
        refine xi_aload_n C 0 dX9_discovers_187 rfl rfl ?_
        refine xi_aload_n C 0 dX9_discovers_188 rfl rfl ?_
        refine xi_getI C xK_X9 (q := 54) (r := 0) rfl 7 (by decide) (ki := 7) rfl xl_X9_230 rfl dX9_discovers_189 ?_
        refine xi_if_gt C 205 (xval.i (q := 54) (i := 7) hw187 (by decide) rfl) dX9_discovers_192 (by decide) (fun z16 => ?_) (fun z16 => ?_)
        · replace h := h.1 z16
          refine xi_iconst C (v := 1) dX9_discovers_205 rfl ?_
          refine xi_goto C 210 dX9_discovers_206 (by decide) ?_
          refine xi_putZ C xK_X9 (q := 54) (r := 0) rfl 14 (by decide) (ki := 14) rfl xl_X9_236 rfl rfl rfl (Or.inr rfl) dX9_discovers_210 ?_
          have hw17 := xval.up (q := 54) (i := 14) (v := 1) hw187 rfl (by decide)
          exact xr_v C hA hZ hr hlocks dX9_discovers_213 (Nat.le_of_ble_eq_true rfl) (Nat.le_of_ble_eq_true rfl) hw17 ⟨rfl, h⟩
        · replace h := h.2 z16
          refine xi_aload_n C 0 dX9_discovers_195 rfl rfl ?_
          refine xi_getI C xK_X9 (q := 54) (r := 0) rfl 5 (by decide) (ki := 5) rfl xl_X9_224 rfl dX9_discovers_196 ?_
          refine xi_sipush C (v := 2000) dX9_discovers_199 (by decide +kernel) ?_
          refine xi_icmp_ne C 209 (xval.i (q := 54) (i := 5) hw187 (by decide) rfl) (by decide) dX9_discovers_202 (by decide) (fun z18 => ?_) (fun z18 => ?_)
          · replace h := h.1 z18
            refine xi_iconst C (v := 0) dX9_discovers_209 rfl ?_
            refine xi_putZ C xK_X9 (q := 54) (r := 0) rfl 14 (by decide) (ki := 14) rfl xl_X9_236 rfl rfl rfl (Or.inl rfl) dX9_discovers_210 ?_
            have hw19 := xval.up (q := 54) (i := 14) (v := 0) hw187 rfl (by decide)
            exact xr_v C hA hZ hr hlocks dX9_discovers_213 (Nat.le_of_ble_eq_true rfl) (Nat.le_of_ble_eq_true rfl) hw19 ⟨rfl, h⟩
          · replace h := h.2 z18
            refine xi_iconst C (v := 1) dX9_discovers_205 rfl ?_
            refine xi_goto C 210 dX9_discovers_206 (by decide) ?_
            refine xi_putZ C xK_X9 (q := 54) (r := 0) rfl 14 (by decide) (ki := 14) rfl xl_X9_236 rfl rfl rfl (Or.inr rfl) dX9_discovers_210 ?_
            have hw20 := xval.up (q := 54) (i := 14) (v := 1) hw187 rfl (by decide)
            exact xr_v C hA hZ hr hlocks dX9_discovers_213 (Nat.le_of_ble_eq_true rfl) (Nat.le_of_ble_eq_true rfl) hw20 ⟨rfl, h⟩
      · refine xi_sub [1, 0] rfl (xW1 (fun v6_124 S124 => xR v6_124 → xval (gC D ca ad tF) S124 → xV (gC D ca ad tF) p l e ({ frames := 1, cells := 0, slots := 0, locals := 21 }) s m args below meth c A 7 Z 0 0 124 [(0, .ref (ad 54)), (6, .int (iN v6_124))] [] S124) h (fun k124 hk124 v6_124 S124 h h_v6_124 hw124 => ?_) (by decide) hw15)
        unfold w_X9_discovers_L124 at h
        refine xi_iload C 1 dX9_discovers_124 rfl ?_
        refine xi_aload_n C 0 dX9_discovers_126 rfl rfl ?_
        refine xi_getI C xK_X9 (q := 54) (r := 0) rfl 3 (by decide) (ki := 3) rfl xl_X9_227 rfl dX9_discovers_127 ?_
        refine xi_icmp_ge C 187 h_v6_124 (xval.i (q := 54) (i := 3) hw124 (by decide) rfl) dX9_discovers_130 (by decide) (fun z21 => ?_) (fun z21 => ?_)
        · replace h := h.1 z21
          exact xi_sub [0] rfl (hj187 S124 h hw124)
        · replace h := h.2 z21
          refine xi_aload_n C 0 dX9_discovers_133 rfl rfl ?_
          refine xi_getI C xK_X9 (q := 54) (r := 0) rfl 7 (by decide) (ki := 7) rfl xl_X9_230 rfl dX9_discovers_134 ?_
          refine xi_if_ne C 187 (xval.i (q := 54) (i := 7) hw124 (by decide) rfl) dX9_discovers_137 (by decide) (fun z22 => ?_) (fun z22 => ?_)
          · replace h := h.1 z22
            exact xi_sub [0] rfl (hj187 S124 h hw124)
          · replace h := h.2 z22
            refine xi_aload_n C 0 dX9_discovers_140 rfl rfl ?_
            refine xi_getR C xK_X9 (q := 54) (r := 80) rfl 40 (by decide) (ki := 40) rfl xl_X9_88 rfl dX9_discovers_141 ?_
            refine xi_aload_n C 0 dX9_discovers_144 rfl rfl ?_
            refine xi_getR C xK_X9 (q := 54) (r := 63) rfl 23 (by decide) (ki := 23) rfl xl_X9_34 rfl dX9_discovers_145 ?_
            refine xi_iload C 1 dX9_discovers_148 rfl ?_
            obtain ⟨hc23, h⟩ := h
            refine xi_iaload C (q := 63) rfl (by decide) hc23 dX9_discovers_150 ?_
            obtain ⟨hc24, h⟩ := h
            refine xi_iaload C (q := 80) rfl (by decide) hc24 dX9_discovers_151 ?_
            refine xi_aload_n C 0 dX9_discovers_152 rfl rfl ?_
            refine xi_getR C xK_X9 (q := 54) (r := 64) rfl 24 (by decide) (ki := 24) rfl xl_X9_37 rfl dX9_discovers_153 ?_
            refine xi_iload C 1 dX9_discovers_156 rfl ?_
            refine xi_iaload C (q := 64) rfl (by decide) hc23 dX9_discovers_158 ?_
            refine xi_icmp_eq C 165 (xval.i (q := 80) (i := S124 63 v6_124) hw124 hc24.1 rfl) (xval.i (q := 64) (i := v6_124) hw124 hc23.1 rfl) dX9_discovers_159 (by decide) (fun z25 => ?_) (fun z25 => ?_)
            · replace h := h.1 z25
              refine xi_aload_n C 0 dX9_discovers_165 rfl rfl ?_
              refine xi_bipush C (v := 105) dX9_discovers_166 (by decide +kernel) ?_
              refine xi_putI C xK_X9 (q := 54) (r := 0) rfl 7 (by decide) (ki := 7) rfl xl_X9_230 rfl rfl rfl dX9_discovers_168 ?_
              have hw26 := xval.up (q := 54) (i := 7) (v := 105) hw124 rfl (by decide)
              refine xi_aload_n C 0 dX9_discovers_171 rfl rfl ?_
              refine xi_aload_n C 0 dX9_discovers_172 rfl rfl ?_
              refine xi_getI C xK_X9 (q := 54) (r := 0) rfl 5 (by decide) (ki := 5) rfl xl_X9_224 rfl dX9_discovers_173 ?_
              refine xi_iconst C (v := 1) dX9_discovers_176 rfl ?_
              refine xi_isub C dX9_discovers_177 ?_
              obtain ⟨hc27, h⟩ := h
              refine xi_putI C xK_X9 (q := 54) (r := 0) rfl 8 (by decide) (ki := 8) rfl xl_X9_233 rfl rfl rfl dX9_discovers_178 ?_
              have hw28 := xval.up (q := 54) (i := 8) (v := (S124 54 5) - 1) hw26 rfl hc27
              refine xi_iinc C (L' := [(6, .int (iN (v6_124 + 1))), (0, .ref (ad 54))]) 1 dX9_discovers_181 rfl (by decide) rfl ?_
              refine xi_goto C 124 dX9_discovers_184 (by decide) ?_
              obtain ⟨hc29, h⟩ := h
              exact xi_sub [1, 0] rfl (hk124 (v6_124 + 1) (xup (xup S124 54 7 105) 54 8 ((S124 54 5) - 1)) h hc29 hw28)
            · replace h := h.2 z25
              refine xi_goto C 181 dX9_discovers_162 (by decide) ?_
              refine xi_iinc C (L' := [(6, .int (iN (v6_124 + 1))), (0, .ref (ad 54))]) 1 dX9_discovers_181 rfl (by decide) rfl ?_
              refine xi_goto C 124 dX9_discovers_184 (by decide) ?_
              obtain ⟨hc30, h⟩ := h
              exact xi_sub [1, 0] rfl (hk124 (v6_124 + 1) S124 h hc30 hw124)
    · refine xi_icmp_ne C 102 h_a3 (by decide) dX9_discovers_95 (by decide) (fun z12 => ?_) (fun z12 => ?_)
      · replace h := h.1 z12
        refine xi_aload_n C 0 dX9_discovers_102 rfl rfl ?_
        refine xi_getR C xK_X9 (q := 54) (r := 70) rfl 30 (by decide) (ki := 30) rfl xl_X9_57 rfl dX9_discovers_103 ?_
        refine xi_iload_n C 2 dX9_discovers_106 rfl rfl ?_
        obtain ⟨hc31, h⟩ := h
        refine xi_iaload C (q := 70) rfl (by decide) hc31 dX9_discovers_107 ?_
        refine xi_iconst C (v := 1) dX9_discovers_108 rfl ?_
        refine xi_iadd C dX9_discovers_109 ?_
        obtain ⟨hc32, h⟩ := h
        exact xi_sub [0] rfl (hj110 ((S29 70 a3) + 1) (xup (xup (xup (xup (xup S29 71 v5_29 ((S29 54 5) + 1)) 72 (a1 % 509) 1) 67 (S29 54 5) a1) 68 (S29 54 5) a3) 69 (S29 54 5) a4) h hc32 hw11)
      · replace h := h.2 z12
        refine xi_iconst C (v := 0) dX9_discovers_98 rfl ?_
        refine xi_goto C 110 dX9_discovers_99 (by decide) ?_
        exact xi_sub [0] rfl (hj110 0 (xup (xup (xup (xup (xup S29 71 v5_29 ((S29 54 5) + 1)) 72 (a1 % 509) 1) 67 (S29 54 5) a1) 68 (S29 54 5) a3) 69 (S29 54 5) a4) h (by decide) hw11)
  · refine xi_sub [1, 2, 3, 4, 0] rfl (xW1 (fun v5_6 S6 => xR v5_6 → xval (gC D ca ad tF) S6 → xV (gC D ca ad tF) p l e ({ frames := 1, cells := 0, slots := 0, locals := 21 }) s m args below meth c A 7 Z 0 0 6 [(0, .ref (ad 54)), (1, .long (jN a1)), (3, .int (iN a3)), (4, .int (iN a4)), (5, .int (iN v5_6))] [] S6) h (fun k6 hk6 v5_6 S6 h h_v5_6 hw6 => ?_) h_r1 hw1)
    unfold w_X9_discovers_L6 at h
    refine xi_aload_n C 0 dX9_discovers_6 rfl rfl ?_
    refine xi_getR C xK_X9 (q := 54) (r := 71) rfl 31 (by decide) (ki := 31) rfl xl_X9_60 rfl dX9_discovers_7 ?_
    refine xi_iload C 4 dX9_discovers_10 rfl ?_
    obtain ⟨hc33, h⟩ := h
    refine xi_iaload C (q := 71) rfl (by decide) hc33 dX9_discovers_12 ?_
    refine xi_if_le C 29 (xval.i (q := 71) (i := v5_6) hw6 hc33.1 rfl) dX9_discovers_13 (by decide) (fun z34 => ?_) (fun z34 => ?_)
    · replace h := h.1 z34
      exact xi_sub [0, 1, 2, 3, 4] rfl (hj29 v5_6 S6 h h_v5_6 hw6)
    · replace h := h.2 z34
      refine xi_iload C 4 dX9_discovers_16 rfl ?_
      refine xi_iconst C (v := 1) dX9_discovers_18 rfl ?_
      refine xi_iadd C dX9_discovers_19 ?_
      refine xi_sipush C (v := 8192) dX9_discovers_20 (by decide +kernel) ?_
      obtain ⟨hc35, h⟩ := h
      obtain ⟨hc36, h⟩ := h
      refine xi_irem C hc35 hc36 (by decide) (by decide) dX9_discovers_23 ?_
      refine xi_istore C (L' := [(5, .int (iN ((v5_6 + 1) % 8192))), (0, .ref (ad 54)), (1, .long (jN a1)), (3, .int (iN a3)), (4, .int (iN a4))]) dX9_discovers_24 (by decide) rfl ?_
      refine xi_goto C 6 dX9_discovers_26 (by decide) ?_
      exact xi_sub [1, 2, 3, 4, 0] rfl (hk6 ((v5_6 + 1) % 8192) S6 h (xR_mod hc35 hc36 (by decide) (by decide)) hw6)
set_option maxRecDepth 100000 in
set_option maxHeartbeats 4000000 in
theorem c_X9_verdictNow (l : Launch) (D : va_G) (ca : Nat → ClassId) (ad : Nat → Nat) (tF : Nat)  (S : xS) (Q : Int → xS → Prop)  (h : w_X9_verdictNow  S Q) : xM l yX9_verdictNow (xws yX9_verdictNow cX9_verdictNow 1 (some .int)) ({ frames := 0, cells := 0, slots := 0, locals := 0 }) (gC D ca ad tF) [.ref (ad 54)] S (xQi Q) 0 0 := by
  refine xm_of RX9 rfl (by decide +kernel) (Nat.le_of_ble_eq_true rfl) ?_
  intro p e s m args below meth c A Z C hA hZ hr hlocks hw
  unfold w_X9_verdictNow at h
  show xV (gC D ca ad tF) p l e ({ frames := 0, cells := 0, slots := 0, locals := 0 }) s m args below meth c A 1 Z 0 0 0 [(0, .ref (ad 54))] [] S
  refine xi_aload_n C 0 dX9_verdictNow_0 rfl rfl ?_
  refine xi_getI C xK_X9 (q := 54) (r := 0) rfl 7 (by decide) (ki := 7) rfl xl_X9_230 rfl dX9_verdictNow_1 ?_
  refine xi_if_le C 12 (xval.i (q := 54) (i := 7) hw (by decide) rfl) dX9_verdictNow_4 (by decide) (fun z1 => ?_) (fun z1 => ?_)
  · replace h := h.1 z1
    refine xi_aload_n C 0 dX9_verdictNow_12 rfl rfl ?_
    refine xi_getI C xK_X9 (q := 54) (r := 0) rfl 4 (by decide) (ki := 4) rfl xl_X9_205 rfl dX9_verdictNow_13 ?_
    refine xi_bipush C (v := 104) dX9_verdictNow_16 (by decide +kernel) ?_
    refine xi_icmp_eq C 43 (xval.i (q := 54) (i := 4) hw (by decide) rfl) (by decide) dX9_verdictNow_18 (by decide) (fun z2 => ?_) (fun z2 => ?_)
    · replace h := h.1 z2
      refine xi_bipush C (v := 63) dX9_verdictNow_43 (by decide +kernel) ?_
      exact xr_i C hA hZ hr hlocks rfl dX9_verdictNow_45 (Nat.le_of_ble_eq_true rfl) (Nat.le_of_ble_eq_true rfl) hw ⟨_, rfl, (by decide), h⟩
    · replace h := h.2 z2
      refine xi_aload_n C 0 dX9_verdictNow_21 rfl rfl ?_
      refine xi_getI C xK_X9 (q := 54) (r := 0) rfl 14 (by decide) (ki := 14) rfl xl_X9_236 rfl dX9_verdictNow_22 ?_
      refine xi_if_eq C 43 (xval.i (q := 54) (i := 14) hw (by decide) rfl) dX9_verdictNow_25 (by decide) (fun z3 => ?_) (fun z3 => ?_)
      · replace h := h.1 z3
        refine xi_bipush C (v := 63) dX9_verdictNow_43 (by decide +kernel) ?_
        exact xr_i C hA hZ hr hlocks rfl dX9_verdictNow_45 (Nat.le_of_ble_eq_true rfl) (Nat.le_of_ble_eq_true rfl) hw ⟨_, rfl, (by decide), h⟩
      · replace h := h.2 z3
        refine xi_aload_n C 0 dX9_verdictNow_28 rfl rfl ?_
        refine xi_getI C xK_X9 (q := 54) (r := 0) rfl 5 (by decide) (ki := 5) rfl xl_X9_224 rfl dX9_verdictNow_29 ?_
        refine xi_sipush C (v := 2000) dX9_verdictNow_32 (by decide +kernel) ?_
        refine xi_icmp_ge C 43 (xval.i (q := 54) (i := 5) hw (by decide) rfl) (by decide) dX9_verdictNow_35 (by decide) (fun z4 => ?_) (fun z4 => ?_)
        · replace h := h.1 z4
          refine xi_bipush C (v := 63) dX9_verdictNow_43 (by decide +kernel) ?_
          exact xr_i C hA hZ hr hlocks rfl dX9_verdictNow_45 (Nat.le_of_ble_eq_true rfl) (Nat.le_of_ble_eq_true rfl) hw ⟨_, rfl, (by decide), h⟩
        · replace h := h.2 z4
          refine xi_bipush C (v := 110) dX9_verdictNow_38 (by decide +kernel) ?_
          refine xi_goto C 45 dX9_verdictNow_40 (by decide) ?_
          exact xr_i C hA hZ hr hlocks rfl dX9_verdictNow_45 (Nat.le_of_ble_eq_true rfl) (Nat.le_of_ble_eq_true rfl) hw ⟨_, rfl, (by decide), h⟩
  · replace h := h.2 z1
    refine xi_bipush C (v := 102) dX9_verdictNow_7 (by decide +kernel) ?_
    refine xi_goto C 45 dX9_verdictNow_9 (by decide) ?_
    exact xr_i C hA hZ hr hlocks rfl dX9_verdictNow_45 (Nat.le_of_ble_eq_true rfl) (Nat.le_of_ble_eq_true rfl) hw ⟨_, rfl, (by decide), h⟩
set_option maxRecDepth 100000 in
set_option maxHeartbeats 4000000 in
theorem c_X9_isBarred (l : Launch) (D : va_G) (ca : Nat → ClassId) (ad : Nat → Nat) (tF : Nat)  (S : xS) (Q : Int → xS → Prop)  (h : w_X9_isBarred  S Q) : xM l yX9_isBarred (xws yX9_isBarred cX9_isBarred 4 (some .boolean)) ({ frames := 3, cells := 0, slots := 0, locals := 71 }) (gC D ca ad tF) [.ref (ad 54)] S (xQi Q) 0 0 := by
  refine xm_of RX9 rfl (by decide +kernel) (Nat.le_of_ble_eq_true rfl) ?_
  intro p e s m args below meth c A Z C hA hZ hr hlocks hw
  unfold w_X9_isBarred at h
  show xV (gC D ca ad tF) p l e ({ frames := 3, cells := 0, slots := 0, locals := 71 }) s m args below meth c A 4 Z 0 0 0 [(0, .ref (ad 54))] [] S
  refine xi_iconst C (v := 0) dX9_isBarred_0 rfl ?_
  refine xi_istore_n C (L' := [(1, .int (iN 0)), (0, .ref (ad 54))]) dX9_isBarred_1 rfl (by decide) rfl ?_
  refine xi_sub [1, 0] rfl (xW1 (fun v1_2 S2 => xR v1_2 → xval (gC D ca ad tF) S2 → xV (gC D ca ad tF) p l e ({ frames := 3, cells := 0, slots := 0, locals := 71 }) s m args below meth c A 4 Z 0 0 2 [(0, .ref (ad 54)), (1, .int (iN v1_2))] [] S2) h (fun k2 hk2 v1_2 S2 h h_v1_2 hw2 => ?_) (by decide) hw)
  unfold w_X9_isBarred_L2 at h
  refine xi_iload_n C 1 dX9_isBarred_2 rfl rfl ?_
  refine xi_aload_n C 0 dX9_isBarred_3 rfl rfl ?_
  refine xi_getI C xK_X9 (q := 54) (r := 0) rfl 3 (by decide) (ki := 3) rfl xl_X9_227 rfl dX9_isBarred_4 ?_
  refine xi_icmp_ge C 89 h_v1_2 (xval.i (q := 54) (i := 3) hw2 (by decide) rfl) dX9_isBarred_7 (by decide) (fun z1 => ?_) (fun z1 => ?_)
  · replace h := h.1 z1
    refine xi_iconst C (v := 0) dX9_isBarred_89 rfl ?_
    exact xr_i C hA hZ hr hlocks (xnarZ (Or.inl rfl)).1 dX9_isBarred_90 (Nat.le_of_ble_eq_true rfl) (Nat.le_of_ble_eq_true rfl) hw2 ⟨_, rfl, (by decide), h⟩
  · replace h := h.2 z1
    refine xi_aload_n C 0 dX9_isBarred_10 rfl rfl ?_
    refine xi_getR C xK_X9 (q := 54) (r := 63) rfl 23 (by decide) (ki := 23) rfl xl_X9_34 rfl dX9_isBarred_11 ?_
    refine xi_iload_n C 1 dX9_isBarred_14 rfl rfl ?_
    obtain ⟨hc2, h⟩ := h
    refine xi_iaload C (q := 63) rfl (by decide) hc2 dX9_isBarred_15 ?_
    refine xi_iconst C (v := 3) dX9_isBarred_16 rfl ?_
    refine xJ1_w (fun t0_34 S34 => xR t0_34 → xval (gC D ca ad tF) S34 → xV (gC D ca ad tF) p l e ({ frames := 3, cells := 0, slots := 0, locals := 71 }) s m args below meth c A 4 Z 0 0 34 [(0, .ref (ad 54)), (1, .int (iN v1_2))] [.int (iN t0_34)] S34) h (fun t0_34 S34 h h_t0_34 hw34 => ?_) (fun j34 hj34 h => ?_)
    · unfold w_X9_isBarred_J34 at h
      refine xi_istore_n C (L' := [(2, .int (iN t0_34)), (0, .ref (ad 54)), (1, .int (iN v1_2))]) dX9_isBarred_34 rfl (by decide) rfl ?_
      refine xi_iload_n C 0 dX9_isBarred_35 rfl rfl ?_
      refine xi_iconst C (v := (-1)) dX9_isBarred_36 rfl ?_
      refine xi_icmp_eq C 83 h_t0_34 (by decide) dX9_isBarred_37 (by decide) (fun z4 => ?_) (fun z4 => ?_)
      · replace h := h.1 z4
        refine xi_iinc C (L' := [(1, .int (iN (v1_2 + 1))), (2, .int (iN t0_34)), (0, .ref (ad 54))]) 2 dX9_isBarred_83 rfl (by decide) rfl ?_
        refine xi_goto C 2 dX9_isBarred_86 (by decide) ?_
        obtain ⟨hc5, h⟩ := h
        exact xi_sub [2, 0] rfl (hk2 (v1_2 + 1) S34 h hc5 hw34)
      · replace h := h.2 z4
        refine xi_iload_n C 0 dX9_isBarred_40 rfl rfl ?_
        refine xi_aload_n C 1 dX9_isBarred_41 rfl rfl ?_
        refine xi_getI C xK_X9 (q := 54) (r := 0) rfl 1 (by decide) (ki := 1) rfl xl_X9_161 rfl dX9_isBarred_42 ?_
        refine xi_icmp_lt C 51 h_t0_34 (xval.i (q := 54) (i := 1) hw34 (by decide) rfl) dX9_isBarred_45 (by decide) (fun z6 => ?_) (fun z6 => ?_)
        · replace h := h.1 z6
          refine xi_iconst C (v := 0) dX9_isBarred_51 rfl ?_
          refine xi_istore_n C (L' := [(3, .int (iN 0)), (2, .int (iN t0_34)), (0, .ref (ad 54)), (1, .int (iN v1_2))]) dX9_isBarred_52 rfl (by decide) rfl ?_
          refine xi_sub [2, 3, 1, 0] rfl (xW1 (fun v3_53 S53 => xR v3_53 → xval (gC D ca ad tF) S53 → xV (gC D ca ad tF) p l e ({ frames := 3, cells := 0, slots := 0, locals := 71 }) s m args below meth c A 4 Z 0 0 53 [(0, .ref (ad 54)), (1, .int (iN v1_2)), (2, .int (iN t0_34)), (3, .int (iN v3_53))] [] S53) h (fun k53 hk53 v3_53 S53 h h_v3_53 hw53 => ?_) (by decide) hw34)
          unfold w_X9_isBarred_L53 at h
          refine xi_iload_n C 3 dX9_isBarred_53 rfl rfl ?_
          refine xi_aload_n C 0 dX9_isBarred_54 rfl rfl ?_
          refine xi_getI C xK_X9 (q := 54) (r := 0) rfl 1 (by decide) (ki := 1) rfl xl_X9_161 rfl dX9_isBarred_55 ?_
          refine xi_icmp_ge C 83 h_v3_53 (xval.i (q := 54) (i := 1) hw53 (by decide) rfl) dX9_isBarred_58 (by decide) (fun z7 => ?_) (fun z7 => ?_)
          · replace h := h.1 z7
            refine xi_iinc C (L' := [(1, .int (iN (v1_2 + 1))), (0, .ref (ad 54)), (2, .int (iN t0_34)), (3, .int (iN v3_53))]) 1 dX9_isBarred_83 rfl (by decide) rfl ?_
            refine xi_goto C 2 dX9_isBarred_86 (by decide) ?_
            obtain ⟨hc8, h⟩ := h
            exact xi_sub [1, 0] rfl (hk2 (v1_2 + 1) S53 h hc8 hw53)
          · replace h := h.2 z7
            refine xi_iload_n C 3 dX9_isBarred_61 rfl rfl ?_
            refine xi_iload_n C 2 dX9_isBarred_62 rfl rfl ?_
            refine xi_icmp_eq C 77 h_v3_53 h_t0_34 dX9_isBarred_63 (by decide) (fun z9 => ?_) (fun z9 => ?_)
            · replace h := h.1 z9
              refine xi_iinc C (L' := [(3, .int (iN (v3_53 + 1))), (0, .ref (ad 54)), (1, .int (iN v1_2)), (2, .int (iN t0_34))]) 3 dX9_isBarred_77 rfl (by decide) rfl ?_
              refine xi_goto C 53 dX9_isBarred_80 (by decide) ?_
              obtain ⟨hc10, h⟩ := h
              exact xi_sub [1, 2, 3, 0] rfl (hk53 (v3_53 + 1) S53 h hc10 hw53)
            · replace h := h.2 z9
              refine xi_aload_n C 0 dX9_isBarred_66 rfl rfl ?_
              refine xi_iload_n C 2 dX9_isBarred_67 rfl rfl ?_
              refine xi_iload_n C 3 dX9_isBarred_68 rfl rfl ?_
              refine xc_Vi C hw53 (c_X9_areLike l D ca ad tF t0_34 v3_53 S53 _ h_t0_34 h_v3_53 h) xk_X9_areLike xv_X9_areLike xl_X9_195 ⟨Nat.le_of_ble_eq_true rfl, Nat.le_of_ble_eq_true rfl⟩ xK_X9 (q := 54) rfl rfl rfl (Nat.le_of_ble_eq_true rfl) ⟨Nat.le_of_ble_eq_true rfl, Nat.le_of_ble_eq_true rfl⟩ dX9_isBarred_69 (fun r69 S69 h_r69 h hw11 => ?_)
              refine xi_if_eq C 77 h_r69 dX9_isBarred_72 (by decide) (fun z12 => ?_) (fun z12 => ?_)
              · replace h := h.1 z12
                refine xi_iinc C (L' := [(3, .int (iN (v3_53 + 1))), (0, .ref (ad 54)), (1, .int (iN v1_2)), (2, .int (iN t0_34))]) 3 dX9_isBarred_77 rfl (by decide) rfl ?_
                refine xi_goto C 53 dX9_isBarred_80 (by decide) ?_
                obtain ⟨hc13, h⟩ := h
                exact xi_sub [1, 2, 3, 0] rfl (hk53 (v3_53 + 1) S69 h hc13 hw11)
              · replace h := h.2 z12
                refine xi_iconst C (v := 1) dX9_isBarred_75 rfl ?_
                exact xr_i C hA hZ hr hlocks (xnarZ (Or.inr rfl)).1 dX9_isBarred_76 (Nat.le_of_ble_eq_true rfl) (Nat.le_of_ble_eq_true rfl) hw11 ⟨_, rfl, (by decide), h⟩
        · replace h := h.2 z6
          refine xi_goto C 83 dX9_isBarred_48 (by decide) ?_
          refine xi_iinc C (L' := [(1, .int (iN (v1_2 + 1))), (2, .int (iN t0_34)), (0, .ref (ad 54))]) 2 dX9_isBarred_83 rfl (by decide) rfl ?_
          refine xi_goto C 2 dX9_isBarred_86 (by decide) ?_
          obtain ⟨hc14, h⟩ := h
          exact xi_sub [2, 0] rfl (hk2 (v1_2 + 1) S34 h hc14 hw34)
    · refine xi_icmp_ge C 24 (xval.i (q := 63) (i := v1_2) hw2 hc2.1 rfl) (by decide) dX9_isBarred_17 (by decide) (fun z3 => ?_) (fun z3 => ?_)
      · replace h := h.1 z3
        refine xi_aload_n C 0 dX9_isBarred_24 rfl rfl ?_
        refine xi_getR C xK_X9 (q := 54) (r := 63) rfl 23 (by decide) (ki := 23) rfl xl_X9_34 rfl dX9_isBarred_25 ?_
        refine xi_iload_n C 1 dX9_isBarred_28 rfl rfl ?_
        refine xi_iaload C (q := 63) rfl (by decide) hc2 dX9_isBarred_29 ?_
        refine xi_iconst C (v := 3) dX9_isBarred_30 rfl ?_
        refine xi_isub C dX9_isBarred_31 ?_
        refine xi_iconst C (v := 2) dX9_isBarred_32 rfl ?_
        obtain ⟨hc15, h⟩ := h
        obtain ⟨hc16, h⟩ := h
        refine xi_idiv C hc15 hc16 (by decide) (by decide) dX9_isBarred_33 ?_
        exact xi_sub [0, 1] rfl (hj34 (((S2 63 v1_2) - 3) / 2) S2 h (xR_div hc15 hc16 (by decide) (by decide)) hw2)
      · replace h := h.2 z3
        refine xi_iconst C (v := (-1)) dX9_isBarred_20 rfl ?_
        refine xi_goto C 34 dX9_isBarred_21 (by decide) ?_
        exact xi_sub [0, 1] rfl (hj34 (-1) S2 h (by decide) hw2)
set_option maxRecDepth 100000 in
set_option maxHeartbeats 4000000 in
theorem c_X9_begin (l : Launch) (D : va_G) (ca : Nat → ClassId) (ad : Nat → Nat) (tF : Nat) (a1 : Int) (S : xS) (Q : Int → xS → Prop) (h_a1 : xR a1) (h : w_X9_begin a1 S Q) : xM l yX9_begin (xws yX9_begin cX9_begin 3 (some .char)) ({ frames := 5, cells := 0, slots := 0, locals := 116 }) (gC D ca ad tF) [.ref (ad 54), .int (iN a1)] S (xQi Q) 0 0 := by
  refine xm_of RX9 rfl (by decide +kernel) (Nat.le_of_ble_eq_true rfl) ?_
  intro p e s m args below meth c A Z C hA hZ hr hlocks hw
  unfold w_X9_begin at h
  show xV (gC D ca ad tF) p l e ({ frames := 5, cells := 0, slots := 0, locals := 116 }) s m args below meth c A 3 Z 0 0 0 [(0, .ref (ad 54)), (1, .int (iN a1))] [] S
  refine xi_aload_n C 0 dX9_begin_0 rfl rfl ?_
  refine xi_iload_n C 1 dX9_begin_1 rfl rfl ?_
  refine xi_bipush C (v := 97) dX9_begin_2 (by decide +kernel) ?_
  refine xJ1_w (fun t0_47 S47 => xR t0_47 → xval (gC D ca ad tF) S47 → xV (gC D ca ad tF) p l e ({ frames := 5, cells := 0, slots := 0, locals := 116 }) s m args below meth c A 3 Z 0 0 47 [(0, .ref (ad 54)), (1, .int (iN a1))] [.int (iN t0_47), .ref (ad 54)] S47) h (fun t0_47 S47 h h_t0_47 hw47 => ?_) (fun j47 hj47 h => ?_)
  · unfold w_X9_begin_J47 at h
    refine xi_putI C xK_X9 (q := 54) (r := 0) rfl 0 (by decide) (ki := 0) rfl xl_X9_142 rfl rfl rfl dX9_begin_47 ?_
    have hw2 := xval.up (q := 54) (i := 0) (v := t0_47) hw47 rfl h_t0_47
    refine xi_aload_n C 0 dX9_begin_50 rfl rfl ?_
    refine xi_getI C xK_X9 (q := 54) (r := 0) rfl 0 (by decide) (ki := 0) rfl xl_X9_142 rfl dX9_begin_51 ?_
    refine xi_if_le C 59 (xval.i (q := 54) (i := 0) hw2 (by decide) rfl) dX9_begin_54 (by decide) (fun z3 => ?_) (fun z3 => ?_)
    · replace h := h.1 z3
      refine xi_aload_n C 0 dX9_begin_59 rfl rfl ?_
      refine xi_iload_n C 1 dX9_begin_60 rfl rfl ?_
      refine xi_putI C xK_X9 (q := 54) (r := 0) rfl 4 (by decide) (ki := 4) rfl xl_X9_205 rfl rfl rfl dX9_begin_61 ?_
      have hw4 := xval.up (q := 54) (i := 4) (v := a1) hw2 rfl h_a1
      refine xi_aload_n C 0 dX9_begin_64 rfl rfl ?_
      refine xi_iconst C (v := 1) dX9_begin_65 rfl ?_
      refine xi_putZ C xK_X9 (q := 54) (r := 0) rfl 13 (by decide) (ki := 13) rfl xl_X9_291 rfl rfl rfl (Or.inr rfl) dX9_begin_66 ?_
      have hw5 := xval.up (q := 54) (i := 13) (v := 1) hw4 rfl (by decide)
      refine xi_aload_n C 0 dX9_begin_69 rfl rfl ?_
      refine xi_iconst C (v := 0) dX9_begin_70 rfl ?_
      refine xi_putZ C xK_X9 (q := 54) (r := 0) rfl 14 (by decide) (ki := 14) rfl xl_X9_236 rfl rfl rfl (Or.inl rfl) dX9_begin_71 ?_
      have hw6 := xval.up (q := 54) (i := 14) (v := 0) hw5 rfl (by decide)
      refine xi_aload_n C 0 dX9_begin_74 rfl rfl ?_
      refine xi_iconst C (v := 0) dX9_begin_75 rfl ?_
      refine xi_putI C xK_X9 (q := 54) (r := 0) rfl 5 (by decide) (ki := 5) rfl xl_X9_224 rfl rfl rfl dX9_begin_76 ?_
      have hw7 := xval.up (q := 54) (i := 5) (v := 0) hw6 rfl (by decide)
      refine xi_aload_n C 0 dX9_begin_79 rfl rfl ?_
      refine xi_iconst C (v := 0) dX9_begin_80 rfl ?_
      refine xi_putI C xK_X9 (q := 54) (r := 0) rfl 6 (by decide) (ki := 6) rfl xl_X9_250 rfl rfl rfl dX9_begin_81 ?_
      have hw8 := xval.up (q := 54) (i := 6) (v := 0) hw7 rfl (by decide)
      refine xi_aload_n C 0 dX9_begin_84 rfl rfl ?_
      refine xi_iconst C (v := 0) dX9_begin_85 rfl ?_
      refine xi_putI C xK_X9 (q := 54) (r := 0) rfl 7 (by decide) (ki := 7) rfl xl_X9_230 rfl rfl rfl dX9_begin_86 ?_
      have hw9 := xval.up (q := 54) (i := 7) (v := 0) hw8 rfl (by decide)
      refine xi_aload_n C 0 dX9_begin_89 rfl rfl ?_
      refine xi_lconst C (v := 0) dX9_begin_90 (by decide +kernel) ?_
      refine xi_putJ C xK_X9 (q := 54) (r := 0) rfl 12 (by decide) (ki := 12) rfl xl_X9_276 rfl rfl rfl dX9_begin_91 ?_
      have hw10 := xval.upJ (q := 54) (i := 12) (v := 0) hw9 rfl (by decide)
      refine xi_aload_n C 0 dX9_begin_94 rfl rfl ?_
      refine xi_iconst C (v := 0) dX9_begin_95 rfl ?_
      refine xi_putI C xK_X9 (q := 54) (r := 0) rfl 11 (by decide) (ki := 11) rfl xl_X9_260 rfl rfl rfl dX9_begin_96 ?_
      have hw11 := xval.up (q := 54) (i := 11) (v := 0) hw10 rfl (by decide)
      refine xi_iconst C (v := 0) dX9_begin_99 rfl ?_
      refine xi_istore_n C (L' := [(2, .int (iN 0)), (0, .ref (ad 54)), (1, .int (iN a1))]) dX9_begin_100 rfl (by decide) rfl ?_
      refine xJ0_w (fun  S121 => xval (gC D ca ad tF) S121 → xV (gC D ca ad tF) p l e ({ frames := 5, cells := 0, slots := 0, locals := 116 }) s m args below meth c A 3 Z 0 0 121 [(0, .ref (ad 54))] [] S121) h (fun  S121 h  hw121 => ?_) (fun j121 hj121 h => ?_)
      · unfold w_X9_begin_J121 at h
        refine xi_iconst C (v := 0) dX9_begin_121 rfl ?_
        refine xi_istore_n C (L' := [(2, .int (iN 0)), (0, .ref (ad 54))]) dX9_begin_122 rfl (by decide) rfl ?_
        refine xJ0_w (fun  S143 => xval (gC D ca ad tF) S143 → xV (gC D ca ad tF) p l e ({ frames := 5, cells := 0, slots := 0, locals := 116 }) s m args below meth c A 3 Z 0 0 143 [(0, .ref (ad 54))] [] S143) h (fun  S143 h  hw143 => ?_) (fun j143 hj143 h => ?_)
        · unfold w_X9_begin_J143 at h
          refine xi_iconst C (v := 0) dX9_begin_143 rfl ?_
          refine xi_istore_n C (L' := [(2, .int (iN 0)), (0, .ref (ad 54))]) dX9_begin_144 rfl (by decide) rfl ?_
          refine xJ0_w (fun  S163 => xval (gC D ca ad tF) S163 → xV (gC D ca ad tF) p l e ({ frames := 5, cells := 0, slots := 0, locals := 116 }) s m args below meth c A 3 Z 0 0 163 [(0, .ref (ad 54))] [] S163) h (fun  S163 h  hw163 => ?_) (fun j163 hj163 h => ?_)
          · unfold w_X9_begin_J163 at h
            refine xi_iconst C (v := 0) dX9_begin_163 rfl ?_
            refine xi_istore_n C (L' := [(2, .int (iN 0)), (0, .ref (ad 54))]) dX9_begin_164 rfl (by decide) rfl ?_
            refine xJ0_w (fun  S189 => xval (gC D ca ad tF) S189 → xV (gC D ca ad tF) p l e ({ frames := 5, cells := 0, slots := 0, locals := 116 }) s m args below meth c A 3 Z 0 0 189 [(0, .ref (ad 54))] [] S189) h (fun  S189 h  hw189 => ?_) (fun j189 hj189 h => ?_)
            · unfold w_X9_begin_J189 at h
              refine xi_iconst C (v := 0) dX9_begin_189 rfl ?_
              refine xi_istore_n C (L' := [(2, .int (iN 0)), (0, .ref (ad 54))]) dX9_begin_190 rfl (by decide) rfl ?_
              refine xJ0_w (fun  S209 => xval (gC D ca ad tF) S209 → xV (gC D ca ad tF) p l e ({ frames := 5, cells := 0, slots := 0, locals := 116 }) s m args below meth c A 3 Z 0 0 209 [(0, .ref (ad 54))] [] S209) h (fun  S209 h  hw209 => ?_) (fun j209 hj209 h => ?_)
              · unfold w_X9_begin_J209 at h
                refine xi_iconst C (v := 0) dX9_begin_209 rfl ?_
                refine xi_istore_n C (L' := [(2, .int (iN 0)), (0, .ref (ad 54))]) dX9_begin_210 rfl (by decide) rfl ?_
                refine xJ0_w (fun  S229 => xval (gC D ca ad tF) S229 → xV (gC D ca ad tF) p l e ({ frames := 5, cells := 0, slots := 0, locals := 116 }) s m args below meth c A 3 Z 0 0 229 [(0, .ref (ad 54))] [] S229) h (fun  S229 h  hw229 => ?_) (fun j229 hj229 h => ?_)
                · unfold w_X9_begin_J229 at h
                  refine xi_aload_n C 0 dX9_begin_229 rfl rfl ?_
                  refine xi_aload_n C 0 dX9_begin_230 rfl rfl ?_
                  refine xc_Vj C hw229 (c_X9_found l D ca ad tF S229 _ h) xk_X9_found xv_X9_found xl_X9_280 ⟨Nat.le_of_ble_eq_true rfl, Nat.le_of_ble_eq_true rfl⟩ xK_X9 (q := 54) rfl rfl rfl (Nat.le_of_ble_eq_true rfl) ⟨Nat.le_of_ble_eq_true rfl, Nat.le_of_ble_eq_true rfl⟩ dX9_begin_231 (fun r231 S231 h_r231 h hw12 => ?_)
                  refine xi_iconst C (v := (-1)) dX9_begin_234 rfl ?_
                  refine xi_iconst C (v := 0) dX9_begin_235 rfl ?_
                  refine xc_Vv C hw12 (c_X9_discovers l D ca ad tF r231 (-1) 0 S231 _ h_r231 (by decide) (by decide) h) xk_X9_discovers xv_X9_discovers xl_X9_283 ⟨Nat.le_of_ble_eq_true rfl, Nat.le_of_ble_eq_true rfl⟩ xK_X9 (q := 54) rfl rfl rfl (Nat.le_of_ble_eq_true rfl) ⟨Nat.le_of_ble_eq_true rfl, Nat.le_of_ble_eq_true rfl⟩ dX9_begin_236 (fun S236 h hw13 => ?_)
                  refine xi_aload_n C 0 dX9_begin_239 rfl rfl ?_
                  refine xc_Vi C hw13 (c_X9_verdictNow l D ca ad tF S236 _ h) xk_X9_verdictNow xv_X9_verdictNow xl_X9_319 ⟨Nat.le_of_ble_eq_true rfl, Nat.le_of_ble_eq_true rfl⟩ xK_X9 (q := 54) rfl rfl rfl (Nat.le_of_ble_eq_true rfl) ⟨Nat.le_of_ble_eq_true rfl, Nat.le_of_ble_eq_true rfl⟩ dX9_begin_240 (fun r240 S240 h_r240 h hw14 => ?_)
                  refine xi_i2c C dX9_begin_243 ?_
                  obtain ⟨hc15, h⟩ := h
                  exact xr_i C hA hZ hr hlocks (xnarC hc15).1 dX9_begin_244 (Nat.le_of_ble_eq_true rfl) (Nat.le_of_ble_eq_true rfl) hw14 ⟨_, rfl, (xR_c _), h⟩
                · refine xi_sub [1, 0] rfl (xW1 (fun v2_211 S211 => xR v2_211 → xval (gC D ca ad tF) S211 → xV (gC D ca ad tF) p l e ({ frames := 5, cells := 0, slots := 0, locals := 116 }) s m args below meth c A 3 Z 0 0 211 [(0, .ref (ad 54)), (2, .int (iN v2_211))] [] S211) h (fun k211 hk211 v2_211 S211 h h_v2_211 hw211 => ?_) (by decide) hw209)
                  unfold w_X9_begin_L211 at h
                  refine xi_iload_n C 1 dX9_begin_211 rfl rfl ?_
                  refine xi_iconst C (v := 4) dX9_begin_212 rfl ?_
                  refine xi_icmp_ge C 229 h_v2_211 (by decide) dX9_begin_213 (by decide) (fun z16 => ?_) (fun z16 => ?_)
                  · replace h := h.1 z16
                    exact xi_sub [0] rfl (hj229 S211 h hw211)
                  · replace h := h.2 z16
                    refine xi_aload_n C 0 dX9_begin_216 rfl rfl ?_
                    refine xi_getR C xK_X9 (q := 54) (r := 82) rfl 42 (by decide) (ki := 42) rfl xl_X9_94 rfl dX9_begin_217 ?_
                    refine xi_iload_n C 1 dX9_begin_220 rfl rfl ?_
                    refine xi_iconst C (v := 0) dX9_begin_221 rfl ?_
                    obtain ⟨hc17, h⟩ := h
                    refine xi_iastore C (q := 82) rfl (by decide) hc17 dX9_begin_222 ?_
                    have hw18 := xval.up (q := 82) (i := v2_211) (v := 0) hw211 rfl (by decide)
                    refine xi_iinc C (L' := [(2, .int (iN (v2_211 + 1))), (0, .ref (ad 54))]) 1 dX9_begin_223 rfl (by decide) rfl ?_
                    refine xi_goto C 211 dX9_begin_226 (by decide) ?_
                    obtain ⟨hc19, h⟩ := h
                    exact xi_sub [1, 0] rfl (hk211 (v2_211 + 1) (xup S211 82 v2_211 0) h hc19 hw18)
              · refine xi_sub [1, 0] rfl (xW1 (fun v2_191 S191 => xR v2_191 → xval (gC D ca ad tF) S191 → xV (gC D ca ad tF) p l e ({ frames := 5, cells := 0, slots := 0, locals := 116 }) s m args below meth c A 3 Z 0 0 191 [(0, .ref (ad 54)), (2, .int (iN v2_191))] [] S191) h (fun k191 hk191 v2_191 S191 h h_v2_191 hw191 => ?_) (by decide) hw189)
                unfold w_X9_begin_L191 at h
                refine xi_iload_n C 1 dX9_begin_191 rfl rfl ?_
                refine xi_iconst C (v := 2) dX9_begin_192 rfl ?_
                refine xi_icmp_ge C 209 h_v2_191 (by decide) dX9_begin_193 (by decide) (fun z20 => ?_) (fun z20 => ?_)
                · replace h := h.1 z20
                  exact xi_sub [0] rfl (hj209 S191 h hw191)
                · replace h := h.2 z20
                  refine xi_aload_n C 0 dX9_begin_196 rfl rfl ?_
                  refine xi_getR C xK_X9 (q := 54) (r := 81) rfl 41 (by decide) (ki := 41) rfl xl_X9_91 rfl dX9_begin_197 ?_
                  refine xi_iload_n C 1 dX9_begin_200 rfl rfl ?_
                  refine xi_iconst C (v := 0) dX9_begin_201 rfl ?_
                  obtain ⟨hc21, h⟩ := h
                  refine xi_iastore C (q := 81) rfl (by decide) hc21 dX9_begin_202 ?_
                  have hw22 := xval.up (q := 81) (i := v2_191) (v := 0) hw191 rfl (by decide)
                  refine xi_iinc C (L' := [(2, .int (iN (v2_191 + 1))), (0, .ref (ad 54))]) 1 dX9_begin_203 rfl (by decide) rfl ?_
                  refine xi_goto C 191 dX9_begin_206 (by decide) ?_
                  obtain ⟨hc23, h⟩ := h
                  exact xi_sub [1, 0] rfl (hk191 (v2_191 + 1) (xup S191 81 v2_191 0) h hc23 hw22)
            · refine xi_sub [1, 0] rfl (xW1 (fun v2_165 S165 => xR v2_165 → xval (gC D ca ad tF) S165 → xV (gC D ca ad tF) p l e ({ frames := 5, cells := 0, slots := 0, locals := 116 }) s m args below meth c A 3 Z 0 0 165 [(0, .ref (ad 54)), (2, .int (iN v2_165))] [] S165) h (fun k165 hk165 v2_165 S165 h h_v2_165 hw165 => ?_) (by decide) hw163)
              unfold w_X9_begin_L165 at h
              refine xi_iload_n C 1 dX9_begin_165 rfl rfl ?_
              refine xi_bipush C (v := 9) dX9_begin_166 (by decide +kernel) ?_
              refine xi_icmp_ge C 189 h_v2_165 (by decide) dX9_begin_168 (by decide) (fun z24 => ?_) (fun z24 => ?_)
              · replace h := h.1 z24
                exact xi_sub [0] rfl (hj189 S165 h hw165)
              · replace h := h.2 z24
                refine xi_aload_n C 0 dX9_begin_171 rfl rfl ?_
                refine xi_getR C xK_X9 (q := 54) (r := 80) rfl 40 (by decide) (ki := 40) rfl xl_X9_88 rfl dX9_begin_172 ?_
                refine xi_iload_n C 1 dX9_begin_175 rfl rfl ?_
                refine xi_aload_n C 0 dX9_begin_176 rfl rfl ?_
                refine xi_getR C xK_X9 (q := 54) (r := 62) rfl 22 (by decide) (ki := 22) rfl xl_X9_31 rfl dX9_begin_177 ?_
                refine xi_iload_n C 1 dX9_begin_180 rfl rfl ?_
                obtain ⟨hc25, h⟩ := h
                refine xi_iaload C (q := 62) rfl (by decide) hc25 dX9_begin_181 ?_
                refine xi_iastore C (q := 80) rfl (by decide) hc25 dX9_begin_182 ?_
                have hw26 := xval.up (q := 80) (i := v2_165) (v := S165 62 v2_165) hw165 rfl (xval.i (q := 62) (i := v2_165) hw165 hc25.1 rfl)
                refine xi_iinc C (L' := [(2, .int (iN (v2_165 + 1))), (0, .ref (ad 54))]) 1 dX9_begin_183 rfl (by decide) rfl ?_
                refine xi_goto C 165 dX9_begin_186 (by decide) ?_
                obtain ⟨hc27, h⟩ := h
                exact xi_sub [1, 0] rfl (hk165 (v2_165 + 1) (xup S165 80 v2_165 (S165 62 v2_165)) h hc27 hw26)
          · refine xi_sub [1, 0] rfl (xW1 (fun v2_145 S145 => xR v2_145 → xval (gC D ca ad tF) S145 → xV (gC D ca ad tF) p l e ({ frames := 5, cells := 0, slots := 0, locals := 116 }) s m args below meth c A 3 Z 0 0 145 [(0, .ref (ad 54)), (2, .int (iN v2_145))] [] S145) h (fun k145 hk145 v2_145 S145 h h_v2_145 hw145 => ?_) (by decide) hw143)
            unfold w_X9_begin_L145 at h
            refine xi_iload_n C 1 dX9_begin_145 rfl rfl ?_
            refine xi_iconst C (v := 3) dX9_begin_146 rfl ?_
            refine xi_icmp_ge C 163 h_v2_145 (by decide) dX9_begin_147 (by decide) (fun z28 => ?_) (fun z28 => ?_)
            · replace h := h.1 z28
              exact xi_sub [0] rfl (hj163 S145 h hw145)
            · replace h := h.2 z28
              refine xi_aload_n C 0 dX9_begin_150 rfl rfl ?_
              refine xi_getR C xK_X9 (q := 54) (r := 79) rfl 39 (by decide) (ki := 39) rfl xl_X9_85 rfl dX9_begin_151 ?_
              refine xi_iload_n C 1 dX9_begin_154 rfl rfl ?_
              refine xi_iconst C (v := 0) dX9_begin_155 rfl ?_
              obtain ⟨hc29, h⟩ := h
              refine xi_iastore C (q := 79) rfl (by decide) hc29 dX9_begin_156 ?_
              have hw30 := xval.up (q := 79) (i := v2_145) (v := 0) hw145 rfl (by decide)
              refine xi_iinc C (L' := [(2, .int (iN (v2_145 + 1))), (0, .ref (ad 54))]) 1 dX9_begin_157 rfl (by decide) rfl ?_
              refine xi_goto C 145 dX9_begin_160 (by decide) ?_
              obtain ⟨hc31, h⟩ := h
              exact xi_sub [1, 0] rfl (hk145 (v2_145 + 1) (xup S145 79 v2_145 0) h hc31 hw30)
        · refine xi_sub [1, 0] rfl (xW1 (fun v2_123 S123 => xR v2_123 → xval (gC D ca ad tF) S123 → xV (gC D ca ad tF) p l e ({ frames := 5, cells := 0, slots := 0, locals := 116 }) s m args below meth c A 3 Z 0 0 123 [(0, .ref (ad 54)), (2, .int (iN v2_123))] [] S123) h (fun k123 hk123 v2_123 S123 h h_v2_123 hw123 => ?_) (by decide) hw121)
          unfold w_X9_begin_L123 at h
          refine xi_iload_n C 1 dX9_begin_123 rfl rfl ?_
          refine xi_sipush C (v := 509) dX9_begin_124 (by decide +kernel) ?_
          refine xi_icmp_ge C 143 h_v2_123 (by decide) dX9_begin_127 (by decide) (fun z32 => ?_) (fun z32 => ?_)
          · replace h := h.1 z32
            exact xi_sub [0] rfl (hj143 S123 h hw123)
          · replace h := h.2 z32
            refine xi_aload_n C 0 dX9_begin_130 rfl rfl ?_
            refine xi_getR C xK_X9 (q := 54) (r := 72) rfl 32 (by decide) (ki := 32) rfl xl_X9_63 rfl dX9_begin_131 ?_
            refine xi_iload_n C 1 dX9_begin_134 rfl rfl ?_
            refine xi_iconst C (v := 0) dX9_begin_135 rfl ?_
            obtain ⟨hc33, h⟩ := h
            refine xi_bastore C (q := 72) rfl (by decide) hc33 (Or.inl rfl) dX9_begin_136 ?_
            have hw34 := xval.up (q := 72) (i := v2_123) (v := 0) hw123 rfl (by decide)
            refine xi_iinc C (L' := [(2, .int (iN (v2_123 + 1))), (0, .ref (ad 54))]) 1 dX9_begin_137 rfl (by decide) rfl ?_
            refine xi_goto C 123 dX9_begin_140 (by decide) ?_
            obtain ⟨hc35, h⟩ := h
            exact xi_sub [1, 0] rfl (hk123 (v2_123 + 1) (xup S123 72 v2_123 0) h hc35 hw34)
      · refine xi_sub [1, 0] rfl (xW1 (fun v2_101 S101 => xR v2_101 → xval (gC D ca ad tF) S101 → xV (gC D ca ad tF) p l e ({ frames := 5, cells := 0, slots := 0, locals := 116 }) s m args below meth c A 3 Z 0 0 101 [(0, .ref (ad 54)), (2, .int (iN v2_101))] [] S101) h (fun k101 hk101 v2_101 S101 h h_v2_101 hw101 => ?_) (by decide) hw11)
        unfold w_X9_begin_L101 at h
        refine xi_iload_n C 1 dX9_begin_101 rfl rfl ?_
        refine xi_sipush C (v := 8192) dX9_begin_102 (by decide +kernel) ?_
        refine xi_icmp_ge C 121 h_v2_101 (by decide) dX9_begin_105 (by decide) (fun z36 => ?_) (fun z36 => ?_)
        · replace h := h.1 z36
          exact xi_sub [0] rfl (hj121 S101 h hw101)
        · replace h := h.2 z36
          refine xi_aload_n C 0 dX9_begin_108 rfl rfl ?_
          refine xi_getR C xK_X9 (q := 54) (r := 71) rfl 31 (by decide) (ki := 31) rfl xl_X9_60 rfl dX9_begin_109 ?_
          refine xi_iload_n C 1 dX9_begin_112 rfl rfl ?_
          refine xi_iconst C (v := 0) dX9_begin_113 rfl ?_
          obtain ⟨hc37, h⟩ := h
          refine xi_iastore C (q := 71) rfl (by decide) hc37 dX9_begin_114 ?_
          have hw38 := xval.up (q := 71) (i := v2_101) (v := 0) hw101 rfl (by decide)
          refine xi_iinc C (L' := [(2, .int (iN (v2_101 + 1))), (0, .ref (ad 54))]) 1 dX9_begin_115 rfl (by decide) rfl ?_
          refine xi_goto C 101 dX9_begin_118 (by decide) ?_
          obtain ⟨hc39, h⟩ := h
          exact xi_sub [1, 0] rfl (hk101 (v2_101 + 1) (xup S101 71 v2_101 0) h hc39 hw38)
    · replace h := h.2 z3
      refine xi_iconst C (v := 0) dX9_begin_57 rfl ?_
      exact xr_i C hA hZ hr hlocks (xnarC (by decide)).1 dX9_begin_58 (Nat.le_of_ble_eq_true rfl) (Nat.le_of_ble_eq_true rfl) hw2 ⟨_, rfl, (by decide), h⟩
  · refine xJ0_w (fun  S29 => xval (gC D ca ad tF) S29 → xV (gC D ca ad tF) p l e ({ frames := 5, cells := 0, slots := 0, locals := 116 }) s m args below meth c A 3 Z 0 0 29 [(0, .ref (ad 54)), (1, .int (iN a1))] [.ref (ad 54)] S29) h (fun  S29 h  hw29 => ?_) (fun j29 hj29 h => ?_)
    · unfold w_X9_begin_J29 at h
      refine xi_iload_n C 1 dX9_begin_29 rfl rfl ?_
      refine xi_bipush C (v := 115) dX9_begin_30 (by decide +kernel) ?_
      refine xi_icmp_ne C 46 h_a1 (by decide) dX9_begin_32 (by decide) (fun z40 => ?_) (fun z40 => ?_)
      · replace h := h.1 z40
        refine xi_iconst C (v := 0) dX9_begin_46 rfl ?_
        exact xi_sub [0, 1] rfl (hj47 0 S29 h (by decide) hw29)
      · replace h := h.2 z40
        refine xi_aload_n C 0 dX9_begin_35 rfl rfl ?_
        refine xc_Vi C hw29 (c_X9_isBarred l D ca ad tF S29 _ h) xk_X9_isBarred xv_X9_isBarred xl_X9_316 ⟨Nat.le_of_ble_eq_true rfl, Nat.le_of_ble_eq_true rfl⟩ xK_X9 (q := 54) rfl rfl rfl (Nat.le_of_ble_eq_true rfl) ⟨Nat.le_of_ble_eq_true rfl, Nat.le_of_ble_eq_true rfl⟩ dX9_begin_36 (fun r36 S36 h_r36 h hw41 => ?_)
        refine xi_if_eq C 46 h_r36 dX9_begin_39 (by decide) (fun z42 => ?_) (fun z42 => ?_)
        · replace h := h.1 z42
          refine xi_iconst C (v := 0) dX9_begin_46 rfl ?_
          exact xi_sub [0, 1] rfl (hj47 0 S36 h (by decide) hw41)
        · replace h := h.2 z42
          refine xi_iconst C (v := 2) dX9_begin_42 rfl ?_
          refine xi_goto C 47 dX9_begin_43 (by decide) ?_
          exact xi_sub [0, 1] rfl (hj47 2 S36 h (by decide) hw41)
    · refine xi_icmp_eq C 29 h_a1 (by decide) dX9_begin_4 (by decide) (fun z1 => ?_) (fun z1 => ?_)
      · replace h := h.1 z1
        exact xi_sub [0, 1] rfl (hj29 S h hw)
      · replace h := h.2 z1
        refine xi_iload_n C 1 dX9_begin_7 rfl rfl ?_
        refine xi_bipush C (v := 112) dX9_begin_8 (by decide +kernel) ?_
        refine xi_icmp_eq C 29 h_a1 (by decide) dX9_begin_10 (by decide) (fun z43 => ?_) (fun z43 => ?_)
        · replace h := h.1 z43
          exact xi_sub [0, 1] rfl (hj29 S h hw)
        · replace h := h.2 z43
          refine xi_iload_n C 1 dX9_begin_13 rfl rfl ?_
          refine xi_bipush C (v := 115) dX9_begin_14 (by decide +kernel) ?_
          refine xi_icmp_eq C 29 h_a1 (by decide) dX9_begin_16 (by decide) (fun z44 => ?_) (fun z44 => ?_)
          · replace h := h.1 z44
            exact xi_sub [0, 1] rfl (hj29 S h hw)
          · replace h := h.2 z44
            refine xi_iload_n C 1 dX9_begin_19 rfl rfl ?_
            refine xi_bipush C (v := 104) dX9_begin_20 (by decide +kernel) ?_
            refine xi_icmp_eq C 29 h_a1 (by decide) dX9_begin_22 (by decide) (fun z45 => ?_) (fun z45 => ?_)
            · replace h := h.1 z45
              exact xi_sub [0, 1] rfl (hj29 S h hw)
            · replace h := h.2 z45
              refine xi_iconst C (v := 1) dX9_begin_25 rfl ?_
              refine xi_goto C 47 dX9_begin_26 (by decide) ?_
              exact xi_sub [0, 1] rfl (hj47 1 S h (by decide) hw)
set_option maxRecDepth 100000 in
set_option maxHeartbeats 4000000 in
theorem c_X9_isThere (l : Launch) (D : va_G) (ca : Nat → ClassId) (ad : Nat → Nat) (tF : Nat)  (S : xS) (Q : Int → xS → Prop)  (h : w_X9_isThere  S Q) : xM l yX9_isThere (xws yX9_isThere cX9_isThere 1 (some .boolean)) ({ frames := 0, cells := 0, slots := 0, locals := 0 }) (gC D ca ad tF) [.ref (ad 54)] S (xQi Q) 0 0 := by
  refine xm_of RX9 rfl (by decide +kernel) (Nat.le_of_ble_eq_true rfl) ?_
  intro p e s m args below meth c A Z C hA hZ hr hlocks hw
  unfold w_X9_isThere at h
  show xV (gC D ca ad tF) p l e ({ frames := 0, cells := 0, slots := 0, locals := 0 }) s m args below meth c A 1 Z 0 0 0 [(0, .ref (ad 54))] [] S
  refine xi_aload_n C 0 dX9_isThere_0 rfl rfl ?_
  refine xi_aload_n C 0 dX9_isThere_1 rfl rfl ?_
  refine xi_getI C xK_X9 (q := 54) (r := 0) rfl 13 (by decide) (ki := 13) rfl xl_X9_291 rfl dX9_isThere_2 ?_
  refine xi_if_eq C 12 (xval.i (q := 54) (i := 13) hw (by decide) rfl) dX9_isThere_5 (by decide) (fun z1 => ?_) (fun z1 => ?_)
  · replace h := h.1 z1
    refine xi_iconst C (v := 1) dX9_isThere_12 rfl ?_
    refine xi_putI C xK_X9 (q := 54) (r := 0) rfl 0 (by decide) (ki := 0) rfl xl_X9_142 rfl rfl rfl dX9_isThere_13 ?_
    have hw2 := xval.up (q := 54) (i := 0) (v := 1) hw rfl (by decide)
    refine xi_aload_n C 0 dX9_isThere_16 rfl rfl ?_
    refine xi_getI C xK_X9 (q := 54) (r := 0) rfl 13 (by decide) (ki := 13) rfl xl_X9_291 rfl dX9_isThere_17 ?_
    obtain ⟨hc3, h⟩ := h
    exact xr_i C hA hZ hr hlocks (xnarZ hc3).1 dX9_isThere_20 (Nat.le_of_ble_eq_true rfl) (Nat.le_of_ble_eq_true rfl) hw2 ⟨_, rfl, (xval.i (q := 54) (i := 13) hw2 (by decide) rfl), h⟩
  · replace h := h.2 z1
    refine xi_iconst C (v := 0) dX9_isThere_8 rfl ?_
    refine xi_goto C 13 dX9_isThere_9 (by decide) ?_
    refine xi_putI C xK_X9 (q := 54) (r := 0) rfl 0 (by decide) (ki := 0) rfl xl_X9_142 rfl rfl rfl dX9_isThere_13 ?_
    have hw4 := xval.up (q := 54) (i := 0) (v := 0) hw rfl (by decide)
    refine xi_aload_n C 0 dX9_isThere_16 rfl rfl ?_
    refine xi_getI C xK_X9 (q := 54) (r := 0) rfl 13 (by decide) (ki := 13) rfl xl_X9_291 rfl dX9_isThere_17 ?_
    obtain ⟨hc5, h⟩ := h
    exact xr_i C hA hZ hr hlocks (xnarZ hc5).1 dX9_isThere_20 (Nat.le_of_ble_eq_true rfl) (Nat.le_of_ble_eq_true rfl) hw4 ⟨_, rfl, (xval.i (q := 54) (i := 13) hw4 (by decide) rfl), h⟩
set_option maxRecDepth 100000 in
set_option maxHeartbeats 4000000 in
theorem c_X9_opens (l : Launch) (D : va_G) (ca : Nat → ClassId) (ad : Nat → Nat) (tF : Nat) (a1 : Int) (S : xS) (Q : xS → Prop) (h_a1 : xRJ a1) (h : w_X9_opens a1 S Q) : xM l yX9_opens (xws yX9_opens cX9_opens 6 (none)) ({ frames := 0, cells := 0, slots := 0, locals := 0 }) (gC D ca ad tF) [.ref (ad 54), .long (jN a1)] S (xQv Q) 0 0 := by
  refine xm_of RX9 rfl (by decide +kernel) (Nat.le_of_ble_eq_true rfl) ?_
  intro p e s m args below meth c A Z C hA hZ hr hlocks hw
  unfold w_X9_opens at h
  show xV (gC D ca ad tF) p l e ({ frames := 0, cells := 0, slots := 0, locals := 0 }) s m args below meth c A 6 Z 0 0 0 [(0, .ref (ad 54)), (1, .long (jN a1))] [] S
  refine xi_lload_n C 1 dX9_opens_0 rfl rfl ?_
  refine xi_lstore_n C (L' := [(3, .long (jN a1)), (0, .ref (ad 54)), (1, .long (jN a1))]) dX9_opens_1 rfl (by decide) rfl ?_
  refine xi_iconst C (v := 1) dX9_opens_2 rfl ?_
  refine xi_istore C (L' := [(5, .int (iN 1)), (3, .long (jN a1)), (0, .ref (ad 54)), (1, .long (jN a1))]) dX9_opens_3 (by decide) rfl ?_
  refine xJ1_w (fun v3_75 S75 => xRJ v3_75 → xval (gC D ca ad tF) S75 → xV (gC D ca ad tF) p l e ({ frames := 0, cells := 0, slots := 0, locals := 0 }) s m args below meth c A 6 Z 0 0 75 [(0, .ref (ad 54)), (3, .long (jN v3_75))] [] S75) h (fun v3_75 S75 h h_v3_75 hw75 => ?_) (fun j75 hj75 h => ?_)
  · unfold w_X9_opens_J75 at h
    refine xi_iconst C (v := 2) dX9_opens_75 rfl ?_
    refine xi_istore C (L' := [(5, .int (iN 2)), (0, .ref (ad 54)), (3, .long (jN v3_75))]) dX9_opens_76 (by decide) rfl ?_
    refine xJ1_w (fun v3_108 S108 => xRJ v3_108 → xval (gC D ca ad tF) S108 → xV (gC D ca ad tF) p l e ({ frames := 0, cells := 0, slots := 0, locals := 0 }) s m args below meth c A 6 Z 0 0 108 [(0, .ref (ad 54)), (3, .long (jN v3_108))] [] S108) h (fun v3_108 S108 h h_v3_108 hw108 => ?_) (fun j108 hj108 h => ?_)
    · unfold w_X9_opens_J108 at h
      refine xi_iconst C (v := 2) dX9_opens_108 rfl ?_
      refine xi_istore C (L' := [(5, .int (iN 2)), (0, .ref (ad 54)), (3, .long (jN v3_108))]) dX9_opens_109 (by decide) rfl ?_
      refine xi_sub [1, 2, 0] rfl (xW2 (fun v3_111 v5_111 S111 => xRJ v3_111 → xR v5_111 → xval (gC D ca ad tF) S111 → xV (gC D ca ad tF) p l e ({ frames := 0, cells := 0, slots := 0, locals := 0 }) s m args below meth c A 6 Z 0 0 111 [(0, .ref (ad 54)), (3, .long (jN v3_111)), (5, .int (iN v5_111))] [] S111) h (fun k111 hk111 v3_111 v5_111 S111 h h_v3_111 h_v5_111 hw111 => ?_) h_v3_108 (by decide) hw108)
      unfold w_X9_opens_L111 at h
      refine xi_iload C 2 dX9_opens_111 rfl ?_
      refine xi_if_lt C 183 h_v5_111 dX9_opens_113 (by decide) (fun z1 => ?_) (fun z1 => ?_)
      · replace h := h.1 z1
        exact xr_v C hA hZ hr hlocks dX9_opens_183 (Nat.le_of_ble_eq_true rfl) (Nat.le_of_ble_eq_true rfl) hw111 ⟨rfl, h⟩
      · replace h := h.2 z1
        refine xi_aload_n C 0 dX9_opens_116 rfl rfl ?_
        refine xi_getR C xK_X9 (q := 54) (r := 76) rfl 36 (by decide) (ki := 36) rfl xl_X9_76 rfl dX9_opens_117 ?_
        refine xi_iconst C (v := 4) dX9_opens_120 rfl ?_
        refine xi_iconst C (v := 2) dX9_opens_121 rfl ?_
        refine xi_iload C 2 dX9_opens_122 rfl ?_
        refine xi_imul C dX9_opens_124 ?_
        refine xi_iadd C dX9_opens_125 ?_
        refine xi_lload_n C 1 dX9_opens_126 rfl rfl ?_
        refine xi_ldc2 C xl_X9_148 (v := 4) (by decide +kernel) dX9_opens_127 ?_
        obtain ⟨hc2, h⟩ := h
        refine xi_lrem C h_v3_111 hc2 (by decide) (by decide) dX9_opens_130 ?_
        refine xi_l2i C dX9_opens_131 ?_
        obtain ⟨hc3, h⟩ := h
        obtain ⟨hc4, h⟩ := h
        refine xi_iastore C (q := 76) rfl (by decide) hc4 dX9_opens_132 ?_
        have hw5 := xval.up (q := 76) (i := 4 + (2 * v5_111)) (v := v3_111 % 4) hw111 rfl hc3
        refine xi_aload_n C 0 dX9_opens_133 rfl rfl ?_
        refine xi_getR C xK_X9 (q := 54) (r := 76) rfl 36 (by decide) (ki := 36) rfl xl_X9_76 rfl dX9_opens_134 ?_
        refine xi_iconst C (v := 3) dX9_opens_137 rfl ?_
        refine xi_iconst C (v := 2) dX9_opens_138 rfl ?_
        refine xi_iload C 2 dX9_opens_139 rfl ?_
        refine xi_imul C dX9_opens_141 ?_
        refine xi_iadd C dX9_opens_142 ?_
        refine xi_lload_n C 1 dX9_opens_143 rfl rfl ?_
        refine xi_ldc2 C xl_X9_148 (v := 4) (by decide +kernel) dX9_opens_144 ?_
        refine xi_ldiv C h_v3_111 hc2 (by decide) (by decide) dX9_opens_147 ?_
        refine xi_ldc2 C xl_X9_148 (v := 4) (by decide +kernel) dX9_opens_148 ?_
        refine xi_lrem C (xRJ_div h_v3_111 hc2 (by decide) (by decide)) (xnn_div hc2 (by decide)) (by decide) (by decide) dX9_opens_151 ?_
        refine xi_l2i C dX9_opens_152 ?_
        obtain ⟨hc6, h⟩ := h
        obtain ⟨hc7, h⟩ := h
        refine xi_iastore C (q := 76) rfl (by decide) hc7 dX9_opens_153 ?_
        have hw8 := xval.up (q := 76) (i := 3 + (2 * v5_111)) (v := (v3_111 / 4) % 4) hw5 rfl hc6
        refine xi_aload_n C 0 dX9_opens_154 rfl rfl ?_
        refine xi_getR C xK_X9 (q := 54) (r := 75) rfl 35 (by decide) (ki := 35) rfl xl_X9_73 rfl dX9_opens_155 ?_
        refine xi_iload C 2 dX9_opens_158 rfl ?_
        refine xi_lload_n C 1 dX9_opens_160 rfl rfl ?_
        refine xi_ldc2 C xl_X9_152 (v := 16) (by decide +kernel) dX9_opens_161 ?_
        refine xi_ldiv C h_v3_111 hc2 (by decide) (by decide) dX9_opens_164 ?_
        refine xi_ldc2 C xl_X9_146 (v := 12) (by decide +kernel) dX9_opens_165 ?_
        refine xi_lrem C (xRJ_div h_v3_111 hc2 (by decide) (by decide)) (xnn_div hc2 (by decide)) (by decide) (by decide) dX9_opens_168 ?_
        refine xi_l2i C dX9_opens_169 ?_
        obtain ⟨hc9, h⟩ := h
        obtain ⟨hc10, h⟩ := h
        refine xi_iastore C (q := 75) rfl (by decide) hc10 dX9_opens_170 ?_
        have hw11 := xval.up (q := 75) (i := v5_111) (v := (v3_111 / 16) % 12) hw8 rfl hc9
        refine xi_lload_n C 1 dX9_opens_171 rfl rfl ?_
        refine xi_ldc2 C xl_X9_156 (v := 192) (by decide +kernel) dX9_opens_172 ?_
        refine xi_ldiv C h_v3_111 hc2 (by decide) (by decide) dX9_opens_175 ?_
        refine xi_lstore_n C (L' := [(3, .long (jN (v3_111 / 192))), (0, .ref (ad 54)), (5, .int (iN v5_111))]) dX9_opens_176 rfl (by decide) rfl ?_
        refine xi_iinc C (L' := [(5, .int (iN (v5_111 + (-1)))), (3, .long (jN (v3_111 / 192))), (0, .ref (ad 54))]) 2 dX9_opens_177 rfl (by decide) rfl ?_
        refine xi_goto C 111 dX9_opens_180 (by decide) ?_
        obtain ⟨hc12, h⟩ := h
        exact xi_sub [2, 1, 0] rfl (hk111 (v3_111 / 192) (v5_111 + (-1)) (xup (xup (xup S111 76 (4 + (2 * v5_111)) (v3_111 % 4)) 76 (3 + (2 * v5_111)) ((v3_111 / 4) % 4)) 75 v5_111 ((v3_111 / 16) % 12)) h (xRJ_div h_v3_111 hc2 (by decide) (by decide)) hc12 hw11)
    · refine xi_sub [1, 2, 0] rfl (xW2 (fun v3_78 v5_78 S78 => xRJ v3_78 → xR v5_78 → xval (gC D ca ad tF) S78 → xV (gC D ca ad tF) p l e ({ frames := 0, cells := 0, slots := 0, locals := 0 }) s m args below meth c A 6 Z 0 0 78 [(0, .ref (ad 54)), (3, .long (jN v3_78)), (5, .int (iN v5_78))] [] S78) h (fun k78 hk78 v3_78 v5_78 S78 h h_v3_78 h_v5_78 hw78 => ?_) h_v3_75 (by decide) hw75)
      unfold w_X9_opens_L78 at h
      refine xi_iload C 2 dX9_opens_78 rfl ?_
      refine xi_if_lt C 108 h_v5_78 dX9_opens_80 (by decide) (fun z13 => ?_) (fun z13 => ?_)
      · replace h := h.1 z13
        exact xi_sub [0, 1] rfl (hj108 v3_78 S78 h h_v3_78 hw78)
      · replace h := h.2 z13
        refine xi_aload_n C 0 dX9_opens_83 rfl rfl ?_
        refine xi_getR C xK_X9 (q := 54) (r := 76) rfl 36 (by decide) (ki := 36) rfl xl_X9_76 rfl dX9_opens_84 ?_
        refine xi_iload C 2 dX9_opens_87 rfl ?_
        refine xi_lload_n C 1 dX9_opens_89 rfl rfl ?_
        refine xi_ldc2 C xl_X9_148 (v := 4) (by decide +kernel) dX9_opens_90 ?_
        obtain ⟨hc14, h⟩ := h
        refine xi_lrem C h_v3_78 hc14 (by decide) (by decide) dX9_opens_93 ?_
        refine xi_l2i C dX9_opens_94 ?_
        obtain ⟨hc15, h⟩ := h
        obtain ⟨hc16, h⟩ := h
        refine xi_iastore C (q := 76) rfl (by decide) hc16 dX9_opens_95 ?_
        have hw17 := xval.up (q := 76) (i := v5_78) (v := v3_78 % 4) hw78 rfl hc15
        refine xi_lload_n C 1 dX9_opens_96 rfl rfl ?_
        refine xi_ldc2 C xl_X9_148 (v := 4) (by decide +kernel) dX9_opens_97 ?_
        refine xi_ldiv C h_v3_78 hc14 (by decide) (by decide) dX9_opens_100 ?_
        refine xi_lstore_n C (L' := [(3, .long (jN (v3_78 / 4))), (0, .ref (ad 54)), (5, .int (iN v5_78))]) dX9_opens_101 rfl (by decide) rfl ?_
        refine xi_iinc C (L' := [(5, .int (iN (v5_78 + (-1)))), (3, .long (jN (v3_78 / 4))), (0, .ref (ad 54))]) 2 dX9_opens_102 rfl (by decide) rfl ?_
        refine xi_goto C 78 dX9_opens_105 (by decide) ?_
        obtain ⟨hc18, h⟩ := h
        exact xi_sub [2, 1, 0] rfl (hk78 (v3_78 / 4) (v5_78 + (-1)) (xup S78 76 v5_78 (v3_78 % 4)) h (xRJ_div h_v3_78 hc14 (by decide) (by decide)) hc18 hw17)
  · refine xi_sub [2, 1, 0] rfl (xW2 (fun v3_5 v5_5 S5 => xRJ v3_5 → xR v5_5 → xval (gC D ca ad tF) S5 → xV (gC D ca ad tF) p l e ({ frames := 0, cells := 0, slots := 0, locals := 0 }) s m args below meth c A 6 Z 0 0 5 [(0, .ref (ad 54)), (3, .long (jN v3_5)), (5, .int (iN v5_5))] [] S5) h (fun k5 hk5 v3_5 v5_5 S5 h h_v3_5 h_v5_5 hw5 => ?_) h_a1 (by decide) hw)
    unfold w_X9_opens_L5 at h
    refine xi_iload C 2 dX9_opens_5 rfl ?_
    refine xi_if_lt C 75 h_v5_5 dX9_opens_7 (by decide) (fun z19 => ?_) (fun z19 => ?_)
    · replace h := h.1 z19
      exact xi_sub [0, 1] rfl (hj75 v3_5 S5 h h_v3_5 hw5)
    · replace h := h.2 z19
      refine xi_aload_n C 0 dX9_opens_10 rfl rfl ?_
      refine xi_getR C xK_X9 (q := 54) (r := 78) rfl 38 (by decide) (ki := 38) rfl xl_X9_82 rfl dX9_opens_11 ?_
      refine xi_iconst C (v := 2) dX9_opens_14 rfl ?_
      refine xi_iload C 2 dX9_opens_15 rfl ?_
      refine xi_imul C dX9_opens_17 ?_
      refine xi_iconst C (v := 1) dX9_opens_18 rfl ?_
      refine xi_iadd C dX9_opens_19 ?_
      refine xi_lload_n C 1 dX9_opens_20 rfl rfl ?_
      refine xi_ldc2 C xl_X9_148 (v := 4) (by decide +kernel) dX9_opens_21 ?_
      obtain ⟨hc20, h⟩ := h
      refine xi_lrem C h_v3_5 hc20 (by decide) (by decide) dX9_opens_24 ?_
      refine xi_l2i C dX9_opens_25 ?_
      obtain ⟨hc21, h⟩ := h
      obtain ⟨hc22, h⟩ := h
      refine xi_iastore C (q := 78) rfl (by decide) hc22 dX9_opens_26 ?_
      have hw23 := xval.up (q := 78) (i := (2 * v5_5) + 1) (v := v3_5 % 4) hw5 rfl hc21
      refine xi_aload_n C 0 dX9_opens_27 rfl rfl ?_
      refine xi_getR C xK_X9 (q := 54) (r := 78) rfl 38 (by decide) (ki := 38) rfl xl_X9_82 rfl dX9_opens_28 ?_
      refine xi_iconst C (v := 2) dX9_opens_31 rfl ?_
      refine xi_iload C 2 dX9_opens_32 rfl ?_
      refine xi_imul C dX9_opens_34 ?_
      refine xi_lload_n C 1 dX9_opens_35 rfl rfl ?_
      refine xi_ldc2 C xl_X9_148 (v := 4) (by decide +kernel) dX9_opens_36 ?_
      refine xi_ldiv C h_v3_5 hc20 (by decide) (by decide) dX9_opens_39 ?_
      refine xi_ldc2 C xl_X9_148 (v := 4) (by decide +kernel) dX9_opens_40 ?_
      refine xi_lrem C (xRJ_div h_v3_5 hc20 (by decide) (by decide)) (xnn_div hc20 (by decide)) (by decide) (by decide) dX9_opens_43 ?_
      refine xi_l2i C dX9_opens_44 ?_
      obtain ⟨hc24, h⟩ := h
      obtain ⟨hc25, h⟩ := h
      refine xi_iastore C (q := 78) rfl (by decide) hc25 dX9_opens_45 ?_
      have hw26 := xval.up (q := 78) (i := 2 * v5_5) (v := (v3_5 / 4) % 4) hw23 rfl hc24
      refine xi_aload_n C 0 dX9_opens_46 rfl rfl ?_
      refine xi_getR C xK_X9 (q := 54) (r := 77) rfl 37 (by decide) (ki := 37) rfl xl_X9_79 rfl dX9_opens_47 ?_
      refine xi_iload C 2 dX9_opens_50 rfl ?_
      refine xi_lload_n C 1 dX9_opens_52 rfl rfl ?_
      refine xi_ldc2 C xl_X9_152 (v := 16) (by decide +kernel) dX9_opens_53 ?_
      refine xi_ldiv C h_v3_5 hc20 (by decide) (by decide) dX9_opens_56 ?_
      refine xi_ldc2 C xl_X9_150 (v := 3) (by decide +kernel) dX9_opens_57 ?_
      refine xi_lrem C (xRJ_div h_v3_5 hc20 (by decide) (by decide)) (xnn_div hc20 (by decide)) (by decide) (by decide) dX9_opens_60 ?_
      refine xi_l2i C dX9_opens_61 ?_
      obtain ⟨hc27, h⟩ := h
      obtain ⟨hc28, h⟩ := h
      refine xi_iastore C (q := 77) rfl (by decide) hc28 dX9_opens_62 ?_
      have hw29 := xval.up (q := 77) (i := v5_5) (v := (v3_5 / 16) % 3) hw26 rfl hc27
      refine xi_lload_n C 1 dX9_opens_63 rfl rfl ?_
      refine xi_ldc2 C xl_X9_154 (v := 48) (by decide +kernel) dX9_opens_64 ?_
      refine xi_ldiv C h_v3_5 hc20 (by decide) (by decide) dX9_opens_67 ?_
      refine xi_lstore_n C (L' := [(3, .long (jN (v3_5 / 48))), (0, .ref (ad 54)), (5, .int (iN v5_5))]) dX9_opens_68 rfl (by decide) rfl ?_
      refine xi_iinc C (L' := [(5, .int (iN (v5_5 + (-1)))), (3, .long (jN (v3_5 / 48))), (0, .ref (ad 54))]) 2 dX9_opens_69 rfl (by decide) rfl ?_
      refine xi_goto C 5 dX9_opens_72 (by decide) ?_
      obtain ⟨hc30, h⟩ := h
      exact xi_sub [2, 1, 0] rfl (hk5 (v3_5 / 48) (v5_5 + (-1)) (xup (xup (xup S5 78 ((2 * v5_5) + 1) (v3_5 % 4)) 78 (2 * v5_5) ((v3_5 / 4) % 4)) 77 v5_5 ((v3_5 / 16) % 3)) h (xRJ_div h_v3_5 hc20 (by decide) (by decide)) hc30 hw29)
set_option maxRecDepth 100000 in
set_option maxHeartbeats 4000000 in
theorem c_X9_keeps (l : Launch) (D : va_G) (ca : Nat → ClassId) (ad : Nat → Nat) (tF : Nat) (a1 : Int) (S : xS) (Q : xS → Prop) (h_a1 : xR a1) (h : w_X9_keeps a1 S Q) : xM l yX9_keeps (xws yX9_keeps cX9_keeps 4 (none)) ({ frames := 0, cells := 0, slots := 0, locals := 0 }) (gC D ca ad tF) [.ref (ad 54), .int (iN a1)] S (xQv Q) 0 0 := by
  refine xm_of RX9 rfl (by decide +kernel) (Nat.le_of_ble_eq_true rfl) ?_
  intro p e s m args below meth c A Z C hA hZ hr hlocks hw
  unfold w_X9_keeps at h
  show xV (gC D ca ad tF) p l e ({ frames := 0, cells := 0, slots := 0, locals := 0 }) s m args below meth c A 4 Z 0 0 0 [(0, .ref (ad 54)), (1, .int (iN a1))] [] S
  refine xi_iconst C (v := 0) dX9_keeps_0 rfl ?_
  refine xi_istore_n C (L' := [(2, .int (iN 0)), (0, .ref (ad 54)), (1, .int (iN a1))]) dX9_keeps_1 rfl (by decide) rfl ?_
  refine xi_iconst C (v := 0) dX9_keeps_2 rfl ?_
  refine xi_istore_n C (L' := [(3, .int (iN 0)), (2, .int (iN 0)), (0, .ref (ad 54)), (1, .int (iN a1))]) dX9_keeps_3 rfl (by decide) rfl ?_
  refine xi_sub [2, 3, 1, 0] rfl (xW2 (fun v2_4 v3_4 S4 => xR v2_4 → xR v3_4 → xval (gC D ca ad tF) S4 → xV (gC D ca ad tF) p l e ({ frames := 0, cells := 0, slots := 0, locals := 0 }) s m args below meth c A 4 Z 0 0 4 [(0, .ref (ad 54)), (1, .int (iN a1)), (2, .int (iN v2_4)), (3, .int (iN v3_4))] [] S4) h (fun k4 hk4 v2_4 v3_4 S4 h h_v2_4 h_v3_4 hw4 => ?_) (by decide) (by decide) hw)
  unfold w_X9_keeps_L4 at h
  refine xi_iload_n C 3 dX9_keeps_4 rfl rfl ?_
  refine xi_aload_n C 0 dX9_keeps_5 rfl rfl ?_
  refine xi_getI C xK_X9 (q := 54) (r := 0) rfl 10 (by decide) (ki := 10) rfl xl_X9_158 rfl dX9_keeps_6 ?_
  refine xi_icmp_ge C 77 h_v3_4 (xval.i (q := 54) (i := 10) hw4 (by decide) rfl) dX9_keeps_9 (by decide) (fun z1 => ?_) (fun z1 => ?_)
  · replace h := h.1 z1
    refine xi_aload_n C 0 dX9_keeps_77 rfl rfl ?_
    refine xi_iload_n C 2 dX9_keeps_78 rfl rfl ?_
    refine xi_putI C xK_X9 (q := 54) (r := 0) rfl 10 (by decide) (ki := 10) rfl xl_X9_158 rfl rfl rfl dX9_keeps_79 ?_
    have hw2 := xval.up (q := 54) (i := 10) (v := v2_4) hw4 rfl h_v2_4
    exact xr_v C hA hZ hr hlocks dX9_keeps_82 (Nat.le_of_ble_eq_true rfl) (Nat.le_of_ble_eq_true rfl) hw2 ⟨rfl, h⟩
  · replace h := h.2 z1
    refine xi_aload_n C 0 dX9_keeps_12 rfl rfl ?_
    refine xi_getR C xK_X9 (q := 54) (r := 83) rfl 43 (by decide) (ki := 43) rfl xl_X9_97 rfl dX9_keeps_13 ?_
    refine xi_iload_n C 3 dX9_keeps_16 rfl rfl ?_
    obtain ⟨hc3, h⟩ := h
    refine xi_iaload C (q := 83) rfl (by decide) hc3 dX9_keeps_17 ?_
    refine xi_iload_n C 1 dX9_keeps_18 rfl rfl ?_
    refine xi_icmp_eq C 25 (xval.i (q := 83) (i := v3_4) hw4 hc3.1 rfl) h_a1 dX9_keeps_19 (by decide) (fun z4 => ?_) (fun z4 => ?_)
    · replace h := h.1 z4
      refine xi_aload_n C 0 dX9_keeps_25 rfl rfl ?_
      refine xi_getR C xK_X9 (q := 54) (r := 83) rfl 43 (by decide) (ki := 43) rfl xl_X9_97 rfl dX9_keeps_26 ?_
      refine xi_iload_n C 2 dX9_keeps_29 rfl rfl ?_
      refine xi_iload_n C 1 dX9_keeps_30 rfl rfl ?_
      obtain ⟨hc5, h⟩ := h
      refine xi_iastore C (q := 83) rfl (by decide) hc5 dX9_keeps_31 ?_
      have hw6 := xval.up (q := 83) (i := v2_4) (v := a1) hw4 rfl h_a1
      refine xi_aload_n C 0 dX9_keeps_32 rfl rfl ?_
      refine xi_getR C xK_X9 (q := 54) (r := 84) rfl 44 (by decide) (ki := 44) rfl xl_X9_100 rfl dX9_keeps_33 ?_
      refine xi_iload_n C 2 dX9_keeps_36 rfl rfl ?_
      refine xi_aload_n C 0 dX9_keeps_37 rfl rfl ?_
      refine xi_getR C xK_X9 (q := 54) (r := 84) rfl 44 (by decide) (ki := 44) rfl xl_X9_100 rfl dX9_keeps_38 ?_
      refine xi_iload_n C 3 dX9_keeps_41 rfl rfl ?_
      refine xi_iaload C (q := 84) rfl (by decide) hc3 dX9_keeps_42 ?_
      refine xi_iastore C (q := 84) rfl (by decide) hc5 dX9_keeps_43 ?_
      have hw7 := xval.up (q := 84) (i := v2_4) (v := S4 84 v3_4) hw6 rfl (xval.i (q := 84) (i := v3_4) hw6 hc3.1 rfl)
      refine xi_aload_n C 0 dX9_keeps_44 rfl rfl ?_
      refine xi_getR C xK_X9 (q := 54) (r := 85) rfl 45 (by decide) (ki := 45) rfl xl_X9_103 rfl dX9_keeps_45 ?_
      refine xi_iload_n C 2 dX9_keeps_48 rfl rfl ?_
      refine xi_aload_n C 0 dX9_keeps_49 rfl rfl ?_
      refine xi_getR C xK_X9 (q := 54) (r := 85) rfl 45 (by decide) (ki := 45) rfl xl_X9_103 rfl dX9_keeps_50 ?_
      refine xi_iload_n C 3 dX9_keeps_53 rfl rfl ?_
      refine xi_iaload C (q := 85) rfl (by decide) hc3 dX9_keeps_54 ?_
      refine xi_iastore C (q := 85) rfl (by decide) hc5 dX9_keeps_55 ?_
      have hw8 := xval.up (q := 85) (i := v2_4) (v := S4 85 v3_4) hw7 rfl (xval.i (q := 85) (i := v3_4) hw7 hc3.1 rfl)
      refine xi_aload_n C 0 dX9_keeps_56 rfl rfl ?_
      refine xi_getR C xK_X9 (q := 54) (r := 86) rfl 46 (by decide) (ki := 46) rfl xl_X9_106 rfl dX9_keeps_57 ?_
      refine xi_iload_n C 2 dX9_keeps_60 rfl rfl ?_
      refine xi_aload_n C 0 dX9_keeps_61 rfl rfl ?_
      refine xi_getR C xK_X9 (q := 54) (r := 86) rfl 46 (by decide) (ki := 46) rfl xl_X9_106 rfl dX9_keeps_62 ?_
      refine xi_iload_n C 3 dX9_keeps_65 rfl rfl ?_
      refine xi_iaload C (q := 86) rfl (by decide) hc3 dX9_keeps_66 ?_
      refine xi_iastore C (q := 86) rfl (by decide) hc5 dX9_keeps_67 ?_
      have hw9 := xval.up (q := 86) (i := v2_4) (v := S4 86 v3_4) hw8 rfl (xval.i (q := 86) (i := v3_4) hw8 hc3.1 rfl)
      refine xi_iinc C (L' := [(2, .int (iN (v2_4 + 1))), (0, .ref (ad 54)), (1, .int (iN a1)), (3, .int (iN v3_4))]) 2 dX9_keeps_68 rfl (by decide) rfl ?_
      refine xi_iinc C (L' := [(3, .int (iN (v3_4 + 1))), (2, .int (iN (v2_4 + 1))), (0, .ref (ad 54)), (1, .int (iN a1))]) 3 dX9_keeps_71 rfl (by decide) rfl ?_
      refine xi_goto C 4 dX9_keeps_74 (by decide) ?_
      obtain ⟨hc10, h⟩ := h
      obtain ⟨hc11, h⟩ := h
      exact xi_sub [2, 3, 1, 0] rfl (hk4 (v2_4 + 1) (v3_4 + 1) (xup (xup (xup (xup S4 83 v2_4 a1) 84 v2_4 (S4 84 v3_4)) 85 v2_4 (S4 85 v3_4)) 86 v2_4 (S4 86 v3_4)) h hc10 hc11 hw9)
    · replace h := h.2 z4
      refine xi_goto C 71 dX9_keeps_22 (by decide) ?_
      refine xi_iinc C (L' := [(3, .int (iN (v3_4 + 1))), (0, .ref (ad 54)), (1, .int (iN a1)), (2, .int (iN v2_4))]) 3 dX9_keeps_71 rfl (by decide) rfl ?_
      refine xi_goto C 4 dX9_keeps_74 (by decide) ?_
      obtain ⟨hc12, h⟩ := h
      exact xi_sub [1, 2, 3, 0] rfl (hk4 v2_4 (v3_4 + 1) S4 h h_v2_4 hc12 hw4)
set_option maxRecDepth 100000 in
set_option maxHeartbeats 4000000 in
theorem c_X9_isHere (l : Launch) (D : va_G) (ca : Nat → ClassId) (ad : Nat → Nat) (tF : Nat) (a1 : Int) (a2 : Int) (S : xS) (Q : Int → xS → Prop) (h_a1 : xR a1) (h_a2 : xR a2) (h : w_X9_isHere a1 a2 S Q) : xM l yX9_isHere (xws yX9_isHere cX9_isHere 3 (some .boolean)) ({ frames := 0, cells := 0, slots := 0, locals := 0 }) (gC D ca ad tF) [.ref (ad 54), .int (iN a1), .int (iN a2)] S (xQi Q) 0 0 := by
  refine xm_of RX9 rfl (by decide +kernel) (Nat.le_of_ble_eq_true rfl) ?_
  intro p e s m args below meth c A Z C hA hZ hr hlocks hw
  unfold w_X9_isHere at h
  show xV (gC D ca ad tF) p l e ({ frames := 0, cells := 0, slots := 0, locals := 0 }) s m args below meth c A 3 Z 0 0 0 [(0, .ref (ad 54)), (1, .int (iN a1)), (2, .int (iN a2))] [] S
  refine xi_aload_n C 0 dX9_isHere_0 rfl rfl ?_
  refine xi_getR C xK_X9 (q := 54) (r := 56) rfl 16 (by decide) (ki := 16) rfl xl_X9_13 rfl dX9_isHere_1 ?_
  refine xi_bipush C (v := 14) dX9_isHere_4 (by decide +kernel) ?_
  refine xi_iload_n C 1 dX9_isHere_6 rfl rfl ?_
  refine xi_imul C dX9_isHere_7 ?_
  refine xi_iload_n C 2 dX9_isHere_8 rfl rfl ?_
  refine xi_iadd C dX9_isHere_9 ?_
  obtain ⟨hc1, h⟩ := h
  refine xi_iaload C (q := 56) rfl (by decide) hc1 dX9_isHere_10 ?_
  refine xi_aload_n C 0 dX9_isHere_11 rfl rfl ?_
  refine xi_getR C xK_X9 (q := 54) (r := 75) rfl 35 (by decide) (ki := 35) rfl xl_X9_73 rfl dX9_isHere_12 ?_
  refine xi_iload_n C 1 dX9_isHere_15 rfl rfl ?_
  obtain ⟨hc2, h⟩ := h
  refine xi_iaload C (q := 75) rfl (by decide) hc2 dX9_isHere_16 ?_
  refine xi_icmp_ne C 24 (xval.i (q := 56) (i := (14 * a1) + a2) hw hc1.1 rfl) (xval.i (q := 75) (i := a1) hw hc2.1 rfl) dX9_isHere_17 (by decide) (fun z3 => ?_) (fun z3 => ?_)
  · replace h := h.1 z3
    refine xi_iconst C (v := 0) dX9_isHere_24 rfl ?_
    exact xr_i C hA hZ hr hlocks (xnarZ (Or.inl rfl)).1 dX9_isHere_25 (Nat.le_of_ble_eq_true rfl) (Nat.le_of_ble_eq_true rfl) hw ⟨_, rfl, (by decide), h⟩
  · replace h := h.2 z3
    refine xi_iconst C (v := 1) dX9_isHere_20 rfl ?_
    refine xi_goto C 25 dX9_isHere_21 (by decide) ?_
    exact xr_i C hA hZ hr hlocks (xnarZ (Or.inr rfl)).1 dX9_isHere_25 (Nat.le_of_ble_eq_true rfl) (Nat.le_of_ble_eq_true rfl) hw ⟨_, rfl, (by decide), h⟩
set_option maxRecDepth 100000 in
set_option maxHeartbeats 4000000 in
theorem c_X9_isFree (l : Launch) (D : va_G) (ca : Nat → ClassId) (ad : Nat → Nat) (tF : Nat) (a1 : Int) (S : xS) (Q : Int → xS → Prop) (h_a1 : xR a1) (h : w_X9_isFree a1 S Q) : xM l yX9_isFree (xws yX9_isFree cX9_isFree 3 (some .boolean)) ({ frames := 0, cells := 0, slots := 0, locals := 0 }) (gC D ca ad tF) [.ref (ad 54), .int (iN a1)] S (xQi Q) 0 0 := by
  refine xm_of RX9 rfl (by decide +kernel) (Nat.le_of_ble_eq_true rfl) ?_
  intro p e s m args below meth c A Z C hA hZ hr hlocks hw
  unfold w_X9_isFree at h
  show xV (gC D ca ad tF) p l e ({ frames := 0, cells := 0, slots := 0, locals := 0 }) s m args below meth c A 3 Z 0 0 0 [(0, .ref (ad 54)), (1, .int (iN a1))] [] S
  refine xi_aload_n C 0 dX9_isFree_0 rfl rfl ?_
  refine xi_getR C xK_X9 (q := 54) (r := 58) rfl 18 (by decide) (ki := 18) rfl xl_X9_19 rfl dX9_isFree_1 ?_
  refine xi_iload_n C 1 dX9_isFree_4 rfl rfl ?_
  obtain ⟨hc1, h⟩ := h
  refine xi_iaload C (q := 58) rfl (by decide) hc1 dX9_isFree_5 ?_
  refine xi_istore_n C (L' := [(2, .int (iN (S 58 a1))), (0, .ref (ad 54)), (1, .int (iN a1))]) dX9_isFree_6 rfl (by decide) rfl ?_
  refine xi_iload_n C 0 dX9_isFree_7 rfl rfl ?_
  refine xi_bipush C (v := 61) dX9_isFree_8 (by decide +kernel) ?_
  refine xi_icmp_ne C 39 (xval.i (q := 58) (i := a1) hw hc1.1 rfl) (by decide) dX9_isFree_10 (by decide) (fun z2 => ?_) (fun z2 => ?_)
  · replace h := h.1 z2
    refine xi_iload_n C 0 dX9_isFree_39 rfl rfl ?_
    refine xi_bipush C (v := 33) dX9_isFree_40 (by decide +kernel) ?_
    refine xi_icmp_ne C 71 (xval.i (q := 58) (i := a1) hw hc1.1 rfl) (by decide) dX9_isFree_42 (by decide) (fun z3 => ?_) (fun z3 => ?_)
    · replace h := h.1 z3
      refine xi_iload_n C 0 dX9_isFree_71 rfl rfl ?_
      refine xi_bipush C (v := 119) dX9_isFree_72 (by decide +kernel) ?_
      refine xi_icmp_ne C 108 (xval.i (q := 58) (i := a1) hw hc1.1 rfl) (by decide) dX9_isFree_74 (by decide) (fun z4 => ?_) (fun z4 => ?_)
      · replace h := h.1 z4
        refine xi_iload_n C 0 dX9_isFree_108 rfl rfl ?_
        refine xi_bipush C (v := 114) dX9_isFree_109 (by decide +kernel) ?_
        refine xi_icmp_ne C 128 (xval.i (q := 58) (i := a1) hw hc1.1 rfl) (by decide) dX9_isFree_111 (by decide) (fun z5 => ?_) (fun z5 => ?_)
        · replace h := h.1 z5
          refine xi_iconst C (v := 1) dX9_isFree_128 rfl ?_
          refine xi_goto C 133 dX9_isFree_129 (by decide) ?_
          exact xr_i C hA hZ hr hlocks (xnarZ (Or.inr rfl)).1 dX9_isFree_133 (Nat.le_of_ble_eq_true rfl) (Nat.le_of_ble_eq_true rfl) hw ⟨_, rfl, (by decide), h⟩
        · replace h := h.2 z5
          refine xi_aload_n C 1 dX9_isFree_114 rfl rfl ?_
          refine xi_getR C xK_X9 (q := 54) (r := 77) rfl 37 (by decide) (ki := 37) rfl xl_X9_79 rfl dX9_isFree_115 ?_
          refine xi_aload_n C 1 dX9_isFree_118 rfl rfl ?_
          refine xi_getR C xK_X9 (q := 54) (r := 59) rfl 19 (by decide) (ki := 19) rfl xl_X9_22 rfl dX9_isFree_119 ?_
          refine xi_iload_n C 2 dX9_isFree_122 rfl rfl ?_
          refine xi_iaload C (q := 59) rfl (by decide) hc1 dX9_isFree_123 ?_
          obtain ⟨hc6, h⟩ := h
          refine xi_iaload C (q := 77) rfl (by decide) hc6 dX9_isFree_124 ?_
          refine xi_if_le C 132 (xval.i (q := 77) (i := S 59 a1) hw hc6.1 rfl) dX9_isFree_125 (by decide) (fun z7 => ?_) (fun z7 => ?_)
          · replace h := h.1 z7
            refine xi_iconst C (v := 0) dX9_isFree_132 rfl ?_
            exact xr_i C hA hZ hr hlocks (xnarZ (Or.inl rfl)).1 dX9_isFree_133 (Nat.le_of_ble_eq_true rfl) (Nat.le_of_ble_eq_true rfl) hw ⟨_, rfl, (by decide), h⟩
          · replace h := h.2 z7
            refine xi_iconst C (v := 1) dX9_isFree_128 rfl ?_
            refine xi_goto C 133 dX9_isFree_129 (by decide) ?_
            exact xr_i C hA hZ hr hlocks (xnarZ (Or.inr rfl)).1 dX9_isFree_133 (Nat.le_of_ble_eq_true rfl) (Nat.le_of_ble_eq_true rfl) hw ⟨_, rfl, (by decide), h⟩
      · replace h := h.2 z4
        refine xi_aload_n C 1 dX9_isFree_77 rfl rfl ?_
        refine xi_getR C xK_X9 (q := 54) (r := 77) rfl 37 (by decide) (ki := 37) rfl xl_X9_79 rfl dX9_isFree_78 ?_
        refine xi_aload_n C 1 dX9_isFree_81 rfl rfl ?_
        refine xi_getR C xK_X9 (q := 54) (r := 59) rfl 19 (by decide) (ki := 19) rfl xl_X9_22 rfl dX9_isFree_82 ?_
        refine xi_iload_n C 2 dX9_isFree_85 rfl rfl ?_
        refine xi_iaload C (q := 59) rfl (by decide) hc1 dX9_isFree_86 ?_
        obtain ⟨hc8, h⟩ := h
        refine xi_iaload C (q := 77) rfl (by decide) hc8 dX9_isFree_87 ?_
        refine xi_aload_n C 1 dX9_isFree_88 rfl rfl ?_
        refine xi_getR C xK_X9 (q := 54) (r := 61) rfl 21 (by decide) (ki := 21) rfl xl_X9_28 rfl dX9_isFree_89 ?_
        refine xi_aload_n C 1 dX9_isFree_92 rfl rfl ?_
        refine xi_getR C xK_X9 (q := 54) (r := 59) rfl 19 (by decide) (ki := 19) rfl xl_X9_22 rfl dX9_isFree_93 ?_
        refine xi_iload_n C 2 dX9_isFree_96 rfl rfl ?_
        refine xi_iaload C (q := 59) rfl (by decide) hc1 dX9_isFree_97 ?_
        refine xi_iaload C (q := 61) rfl (by decide) hc8 dX9_isFree_98 ?_
        refine xi_icmp_ge C 106 (xval.i (q := 77) (i := S 59 a1) hw hc8.1 rfl) (xval.i (q := 61) (i := S 59 a1) hw hc8.1 rfl) dX9_isFree_99 (by decide) (fun z9 => ?_) (fun z9 => ?_)
        · replace h := h.1 z9
          refine xi_iconst C (v := 0) dX9_isFree_106 rfl ?_
          exact xr_i C hA hZ hr hlocks (xnarZ (Or.inl rfl)).1 dX9_isFree_107 (Nat.le_of_ble_eq_true rfl) (Nat.le_of_ble_eq_true rfl) hw ⟨_, rfl, (by decide), h⟩
        · replace h := h.2 z9
          refine xi_iconst C (v := 1) dX9_isFree_102 rfl ?_
          refine xi_goto C 107 dX9_isFree_103 (by decide) ?_
          exact xr_i C hA hZ hr hlocks (xnarZ (Or.inr rfl)).1 dX9_isFree_107 (Nat.le_of_ble_eq_true rfl) (Nat.le_of_ble_eq_true rfl) hw ⟨_, rfl, (by decide), h⟩
    · replace h := h.2 z3
      refine xi_aload_n C 1 dX9_isFree_45 rfl rfl ?_
      refine xi_getR C xK_X9 (q := 54) (r := 76) rfl 36 (by decide) (ki := 36) rfl xl_X9_76 rfl dX9_isFree_46 ?_
      refine xi_aload_n C 1 dX9_isFree_49 rfl rfl ?_
      refine xi_getR C xK_X9 (q := 54) (r := 59) rfl 19 (by decide) (ki := 19) rfl xl_X9_22 rfl dX9_isFree_50 ?_
      refine xi_iload_n C 2 dX9_isFree_53 rfl rfl ?_
      refine xi_iaload C (q := 59) rfl (by decide) hc1 dX9_isFree_54 ?_
      obtain ⟨hc10, h⟩ := h
      refine xi_iaload C (q := 76) rfl (by decide) hc10 dX9_isFree_55 ?_
      refine xi_aload_n C 1 dX9_isFree_56 rfl rfl ?_
      refine xi_getR C xK_X9 (q := 54) (r := 60) rfl 20 (by decide) (ki := 20) rfl xl_X9_25 rfl dX9_isFree_57 ?_
      refine xi_iload_n C 2 dX9_isFree_60 rfl rfl ?_
      refine xi_iaload C (q := 60) rfl (by decide) hc1 dX9_isFree_61 ?_
      refine xi_icmp_eq C 69 (xval.i (q := 76) (i := S 59 a1) hw hc10.1 rfl) (xval.i (q := 60) (i := a1) hw hc1.1 rfl) dX9_isFree_62 (by decide) (fun z11 => ?_) (fun z11 => ?_)
      · replace h := h.1 z11
        refine xi_iconst C (v := 0) dX9_isFree_69 rfl ?_
        exact xr_i C hA hZ hr hlocks (xnarZ (Or.inl rfl)).1 dX9_isFree_70 (Nat.le_of_ble_eq_true rfl) (Nat.le_of_ble_eq_true rfl) hw ⟨_, rfl, (by decide), h⟩
      · replace h := h.2 z11
        refine xi_iconst C (v := 1) dX9_isFree_65 rfl ?_
        refine xi_goto C 70 dX9_isFree_66 (by decide) ?_
        exact xr_i C hA hZ hr hlocks (xnarZ (Or.inr rfl)).1 dX9_isFree_70 (Nat.le_of_ble_eq_true rfl) (Nat.le_of_ble_eq_true rfl) hw ⟨_, rfl, (by decide), h⟩
  · replace h := h.2 z2
    refine xi_aload_n C 1 dX9_isFree_13 rfl rfl ?_
    refine xi_getR C xK_X9 (q := 54) (r := 76) rfl 36 (by decide) (ki := 36) rfl xl_X9_76 rfl dX9_isFree_14 ?_
    refine xi_aload_n C 1 dX9_isFree_17 rfl rfl ?_
    refine xi_getR C xK_X9 (q := 54) (r := 59) rfl 19 (by decide) (ki := 19) rfl xl_X9_22 rfl dX9_isFree_18 ?_
    refine xi_iload_n C 2 dX9_isFree_21 rfl rfl ?_
    refine xi_iaload C (q := 59) rfl (by decide) hc1 dX9_isFree_22 ?_
    obtain ⟨hc12, h⟩ := h
    refine xi_iaload C (q := 76) rfl (by decide) hc12 dX9_isFree_23 ?_
    refine xi_aload_n C 1 dX9_isFree_24 rfl rfl ?_
    refine xi_getR C xK_X9 (q := 54) (r := 60) rfl 20 (by decide) (ki := 20) rfl xl_X9_25 rfl dX9_isFree_25 ?_
    refine xi_iload_n C 2 dX9_isFree_28 rfl rfl ?_
    refine xi_iaload C (q := 60) rfl (by decide) hc1 dX9_isFree_29 ?_
    refine xi_icmp_ne C 37 (xval.i (q := 76) (i := S 59 a1) hw hc12.1 rfl) (xval.i (q := 60) (i := a1) hw hc1.1 rfl) dX9_isFree_30 (by decide) (fun z13 => ?_) (fun z13 => ?_)
    · replace h := h.1 z13
      refine xi_iconst C (v := 0) dX9_isFree_37 rfl ?_
      exact xr_i C hA hZ hr hlocks (xnarZ (Or.inl rfl)).1 dX9_isFree_38 (Nat.le_of_ble_eq_true rfl) (Nat.le_of_ble_eq_true rfl) hw ⟨_, rfl, (by decide), h⟩
    · replace h := h.2 z13
      refine xi_iconst C (v := 1) dX9_isFree_33 rfl ?_
      refine xi_goto C 38 dX9_isFree_34 (by decide) ?_
      exact xr_i C hA hZ hr hlocks (xnarZ (Or.inr rfl)).1 dX9_isFree_38 (Nat.le_of_ble_eq_true rfl) (Nat.le_of_ble_eq_true rfl) hw ⟨_, rfl, (by decide), h⟩
set_option maxRecDepth 100000 in
set_option maxHeartbeats 4000000 in
theorem c_X9_adds (l : Launch) (D : va_G) (ca : Nat → ClassId) (ad : Nat → Nat) (tF : Nat) (a1 : Int) (a2 : Int) (a3 : Int) (a4 : Int) (S : xS) (Q : xS → Prop) (h_a1 : xR a1) (h_a2 : xR a2) (h_a3 : xR a3) (h_a4 : xR a4) (h : w_X9_adds a1 a2 a3 a4 S Q) : xM l yX9_adds (xws yX9_adds cX9_adds 5 (none)) ({ frames := 0, cells := 0, slots := 0, locals := 0 }) (gC D ca ad tF) [.ref (ad 54), .int (iN a1), .int (iN a2), .int (iN a3), .int (iN a4)] S (xQv Q) 0 0 := by
  refine xm_of RX9 rfl (by decide +kernel) (Nat.le_of_ble_eq_true rfl) ?_
  intro p e s m args below meth c A Z C hA hZ hr hlocks hw
  unfold w_X9_adds at h
  show xV (gC D ca ad tF) p l e ({ frames := 0, cells := 0, slots := 0, locals := 0 }) s m args below meth c A 5 Z 0 0 0 [(0, .ref (ad 54)), (1, .int (iN a1)), (2, .int (iN a2)), (3, .int (iN a3)), (4, .int (iN a4))] [] S
  refine xi_aload_n C 0 dX9_adds_0 rfl rfl ?_
  refine xi_getR C xK_X9 (q := 54) (r := 83) rfl 43 (by decide) (ki := 43) rfl xl_X9_97 rfl dX9_adds_1 ?_
  refine xi_aload_n C 0 dX9_adds_4 rfl rfl ?_
  refine xi_getI C xK_X9 (q := 54) (r := 0) rfl 10 (by decide) (ki := 10) rfl xl_X9_158 rfl dX9_adds_5 ?_
  refine xi_iload_n C 1 dX9_adds_8 rfl rfl ?_
  obtain ⟨hc1, h⟩ := h
  refine xi_iastore C (q := 83) rfl (by decide) hc1 dX9_adds_9 ?_
  have hw2 := xval.up (q := 83) (i := S 54 10) (v := a1) hw rfl h_a1
  refine xi_aload_n C 0 dX9_adds_10 rfl rfl ?_
  refine xi_getR C xK_X9 (q := 54) (r := 84) rfl 44 (by decide) (ki := 44) rfl xl_X9_100 rfl dX9_adds_11 ?_
  refine xi_aload_n C 0 dX9_adds_14 rfl rfl ?_
  refine xi_getI C xK_X9 (q := 54) (r := 0) rfl 10 (by decide) (ki := 10) rfl xl_X9_158 rfl dX9_adds_15 ?_
  refine xi_iload_n C 2 dX9_adds_18 rfl rfl ?_
  refine xi_iastore C (q := 84) rfl (by decide) hc1 dX9_adds_19 ?_
  have hw3 := xval.up (q := 84) (i := S 54 10) (v := a2) hw2 rfl h_a2
  refine xi_aload_n C 0 dX9_adds_20 rfl rfl ?_
  refine xi_getR C xK_X9 (q := 54) (r := 85) rfl 45 (by decide) (ki := 45) rfl xl_X9_103 rfl dX9_adds_21 ?_
  refine xi_aload_n C 0 dX9_adds_24 rfl rfl ?_
  refine xi_getI C xK_X9 (q := 54) (r := 0) rfl 10 (by decide) (ki := 10) rfl xl_X9_158 rfl dX9_adds_25 ?_
  refine xi_iload_n C 3 dX9_adds_28 rfl rfl ?_
  refine xi_iastore C (q := 85) rfl (by decide) hc1 dX9_adds_29 ?_
  have hw4 := xval.up (q := 85) (i := S 54 10) (v := a3) hw3 rfl h_a3
  refine xi_aload_n C 0 dX9_adds_30 rfl rfl ?_
  refine xi_getR C xK_X9 (q := 54) (r := 86) rfl 46 (by decide) (ki := 46) rfl xl_X9_106 rfl dX9_adds_31 ?_
  refine xi_aload_n C 0 dX9_adds_34 rfl rfl ?_
  refine xi_getI C xK_X9 (q := 54) (r := 0) rfl 10 (by decide) (ki := 10) rfl xl_X9_158 rfl dX9_adds_35 ?_
  refine xi_iload C 4 dX9_adds_38 rfl ?_
  refine xi_iastore C (q := 86) rfl (by decide) hc1 dX9_adds_40 ?_
  have hw5 := xval.up (q := 86) (i := S 54 10) (v := a4) hw4 rfl h_a4
  refine xi_aload_n C 0 dX9_adds_41 rfl rfl ?_
  refine xi_dup C dX9_adds_42 rfl ?_
  refine xi_getI C xK_X9 (q := 54) (r := 0) rfl 10 (by decide) (ki := 10) rfl xl_X9_158 rfl dX9_adds_43 ?_
  refine xi_iconst C (v := 1) dX9_adds_46 rfl ?_
  refine xi_iadd C dX9_adds_47 ?_
  obtain ⟨hc6, h⟩ := h
  refine xi_putI C xK_X9 (q := 54) (r := 0) rfl 10 (by decide) (ki := 10) rfl xl_X9_158 rfl rfl rfl dX9_adds_48 ?_
  have hw7 := xval.up (q := 54) (i := 10) (v := (S 54 10) + 1) hw5 rfl hc6
  exact xr_v C hA hZ hr hlocks dX9_adds_51 (Nat.le_of_ble_eq_true rfl) (Nat.le_of_ble_eq_true rfl) hw7 ⟨rfl, h⟩
set_option maxRecDepth 100000 in
set_option maxHeartbeats 4000000 in
theorem c_X9_pairs (l : Launch) (D : va_G) (ca : Nat → ClassId) (ad : Nat → Nat) (tF : Nat) (a1 : Int) (a2 : Int) (S : xS) (Q : xS → Prop) (h_a1 : xR a1) (h_a2 : xR a2) (h : w_X9_pairs a1 a2 S Q) : xM l yX9_pairs (xws yX9_pairs cX9_pairs 6 (none)) ({ frames := 1, cells := 0, slots := 0, locals := 24 }) (gC D ca ad tF) [.ref (ad 54), .int (iN a1), .int (iN a2)] S (xQv Q) 0 0 := by
  refine xm_of RX9 rfl (by decide +kernel) (Nat.le_of_ble_eq_true rfl) ?_
  intro p e s m args below meth c A Z C hA hZ hr hlocks hw
  unfold w_X9_pairs at h
  show xV (gC D ca ad tF) p l e ({ frames := 1, cells := 0, slots := 0, locals := 24 }) s m args below meth c A 6 Z 0 0 0 [(0, .ref (ad 54)), (1, .int (iN a1)), (2, .int (iN a2))] [] S
  refine xi_aload_n C 0 dX9_pairs_0 rfl rfl ?_
  refine xi_getR C xK_X9 (q := 54) (r := 59) rfl 19 (by decide) (ki := 19) rfl xl_X9_22 rfl dX9_pairs_1 ?_
  refine xi_bipush C (v := 14) dX9_pairs_4 (by decide +kernel) ?_
  refine xi_iload_n C 1 dX9_pairs_6 rfl rfl ?_
  refine xi_imul C dX9_pairs_7 ?_
  refine xi_iload_n C 2 dX9_pairs_8 rfl rfl ?_
  refine xi_iadd C dX9_pairs_9 ?_
  obtain ⟨hc1, h⟩ := h
  refine xi_iaload C (q := 59) rfl (by decide) hc1 dX9_pairs_10 ?_
  refine xi_istore_n C (L' := [(3, .int (iN (S 59 ((14 * a1) + a2)))), (0, .ref (ad 54)), (1, .int (iN a1)), (2, .int (iN a2))]) dX9_pairs_11 rfl (by decide) rfl ?_
  refine xi_iconst C (v := 0) dX9_pairs_12 rfl ?_
  refine xi_istore C (L' := [(4, .int (iN 0)), (3, .int (iN (S 59 ((14 * a1) + a2)))), (0, .ref (ad 54)), (1, .int (iN a1)), (2, .int (iN a2))]) dX9_pairs_13 (by decide) rfl ?_
  refine xi_sub [2, 3, 4, 1, 0] rfl (xW1 (fun v4_15 S15 => xR v4_15 → xval (gC D ca ad tF) S15 → xV (gC D ca ad tF) p l e ({ frames := 1, cells := 0, slots := 0, locals := 24 }) s m args below meth c A 6 Z 0 0 15 [(0, .ref (ad 54)), (1, .int (iN a1)), (2, .int (iN a2)), (3, .int (iN (S 59 ((14 * a1) + a2)))), (4, .int (iN v4_15))] [] S15) h (fun k15 hk15 v4_15 S15 h h_v4_15 hw15 => ?_) (by decide) hw)
  unfold w_X9_pairs_L15 at h
  refine xi_iload C 4 dX9_pairs_15 rfl ?_
  refine xi_aload_n C 0 dX9_pairs_17 rfl rfl ?_
  refine xi_getI C xK_X9 (q := 54) (r := 0) rfl 1 (by decide) (ki := 1) rfl xl_X9_161 rfl dX9_pairs_18 ?_
  refine xi_icmp_ge C 116 h_v4_15 (xval.i (q := 54) (i := 1) hw15 (by decide) rfl) dX9_pairs_21 (by decide) (fun z2 => ?_) (fun z2 => ?_)
  · replace h := h.1 z2
    exact xr_v C hA hZ hr hlocks dX9_pairs_116 (Nat.le_of_ble_eq_true rfl) (Nat.le_of_ble_eq_true rfl) hw15 ⟨rfl, h⟩
  · replace h := h.2 z2
    refine xi_iload C 4 dX9_pairs_24 rfl ?_
    refine xi_iload_n C 1 dX9_pairs_26 rfl rfl ?_
    refine xi_icmp_ne C 33 h_v4_15 h_a1 dX9_pairs_27 (by decide) (fun z3 => ?_) (fun z3 => ?_)
    · replace h := h.1 z3
      refine xi_iconst C (v := 0) dX9_pairs_33 rfl ?_
      refine xi_istore C (L' := [(5, .int (iN 0)), (0, .ref (ad 54)), (1, .int (iN a1)), (2, .int (iN a2)), (3, .int (iN (S 59 ((14 * a1) + a2)))), (4, .int (iN v4_15))]) dX9_pairs_34 (by decide) rfl ?_
      refine xi_sub [1, 2, 3, 4, 5, 0] rfl (xW1 (fun v5_36 S36 => xR v5_36 → xval (gC D ca ad tF) S36 → xV (gC D ca ad tF) p l e ({ frames := 1, cells := 0, slots := 0, locals := 24 }) s m args below meth c A 6 Z 0 0 36 [(0, .ref (ad 54)), (1, .int (iN a1)), (2, .int (iN a2)), (3, .int (iN (S 59 ((14 * a1) + a2)))), (4, .int (iN v4_15)), (5, .int (iN v5_36))] [] S36) h (fun k36 hk36 v5_36 S36 h h_v5_36 hw36 => ?_) (by decide) hw15)
      unfold w_X9_pairs_L36 at h
      refine xi_iload C 5 dX9_pairs_36 rfl ?_
      refine xi_aload_n C 0 dX9_pairs_38 rfl rfl ?_
      refine xi_getR C xK_X9 (q := 54) (r := 55) rfl 15 (by decide) (ki := 15) rfl xl_X9_7 rfl dX9_pairs_39 ?_
      refine xi_iload C 4 dX9_pairs_42 rfl ?_
      obtain ⟨hc4, h⟩ := h
      refine xi_iaload C (q := 55) rfl (by decide) hc4 dX9_pairs_44 ?_
      refine xi_icmp_ge C 110 h_v5_36 (xval.i (q := 55) (i := v4_15) hw36 hc4.1 rfl) dX9_pairs_45 (by decide) (fun z5 => ?_) (fun z5 => ?_)
      · replace h := h.1 z5
        refine xi_iinc C (L' := [(4, .int (iN (v4_15 + 1))), (0, .ref (ad 54)), (1, .int (iN a1)), (2, .int (iN a2)), (3, .int (iN (S 59 ((14 * a1) + a2)))), (5, .int (iN v5_36))]) 4 dX9_pairs_110 rfl (by decide) rfl ?_
        refine xi_goto C 15 dX9_pairs_113 (by decide) ?_
        obtain ⟨hc6, h⟩ := h
        exact xi_sub [1, 2, 3, 4, 0] rfl (hk15 (v4_15 + 1) S36 h hc6 hw36)
      · replace h := h.2 z5
        refine xi_aload_n C 0 dX9_pairs_48 rfl rfl ?_
        refine xi_iload C 4 dX9_pairs_49 rfl ?_
        refine xi_iload C 5 dX9_pairs_51 rfl ?_
        refine xc_Vi C hw36 (c_X9_isHere l D ca ad tF v4_15 v5_36 S36 _ h_v4_15 h_v5_36 h) xk_X9_isHere xv_X9_isHere xl_X9_164 ⟨Nat.le_of_ble_eq_true rfl, Nat.le_of_ble_eq_true rfl⟩ xK_X9 (q := 54) rfl rfl rfl (Nat.le_of_ble_eq_true rfl) ⟨Nat.le_of_ble_eq_true rfl, Nat.le_of_ble_eq_true rfl⟩ dX9_pairs_53 (fun r53 S53 h_r53 h hw7 => ?_)
        refine xi_if_eq C 104 h_r53 dX9_pairs_56 (by decide) (fun z8 => ?_) (fun z8 => ?_)
        · replace h := h.1 z8
          refine xi_iinc C (L' := [(5, .int (iN (v5_36 + 1))), (0, .ref (ad 54)), (1, .int (iN a1)), (2, .int (iN a2)), (3, .int (iN (S 59 ((14 * a1) + a2)))), (4, .int (iN v4_15))]) 5 dX9_pairs_104 rfl (by decide) rfl ?_
          refine xi_goto C 36 dX9_pairs_107 (by decide) ?_
          obtain ⟨hc9, h⟩ := h
          exact xi_sub [1, 2, 3, 4, 5, 0] rfl (hk36 (v5_36 + 1) S53 h hc9 hw7)
        · replace h := h.2 z8
          refine xi_aload_n C 0 dX9_pairs_59 rfl rfl ?_
          refine xi_getR C xK_X9 (q := 54) (r := 58) rfl 18 (by decide) (ki := 18) rfl xl_X9_19 rfl dX9_pairs_60 ?_
          refine xi_bipush C (v := 14) dX9_pairs_63 (by decide +kernel) ?_
          refine xi_iload C 4 dX9_pairs_65 rfl ?_
          refine xi_imul C dX9_pairs_67 ?_
          refine xi_iload C 5 dX9_pairs_68 rfl ?_
          refine xi_iadd C dX9_pairs_70 ?_
          obtain ⟨hc10, h⟩ := h
          refine xi_iaload C (q := 58) rfl (by decide) hc10 dX9_pairs_71 ?_
          refine xi_bipush C (v := 114) dX9_pairs_72 (by decide +kernel) ?_
          refine xi_icmp_ne C 104 (xval.i (q := 58) (i := (14 * v4_15) + v5_36) hw7 hc10.1 rfl) (by decide) dX9_pairs_74 (by decide) (fun z11 => ?_) (fun z11 => ?_)
          · replace h := h.1 z11
            refine xi_iinc C (L' := [(5, .int (iN (v5_36 + 1))), (0, .ref (ad 54)), (1, .int (iN a1)), (2, .int (iN a2)), (3, .int (iN (S 59 ((14 * a1) + a2)))), (4, .int (iN v4_15))]) 5 dX9_pairs_104 rfl (by decide) rfl ?_
            refine xi_goto C 36 dX9_pairs_107 (by decide) ?_
            obtain ⟨hc12, h⟩ := h
            exact xi_sub [1, 2, 3, 4, 5, 0] rfl (hk36 (v5_36 + 1) S53 h hc12 hw7)
          · replace h := h.2 z11
            refine xi_aload_n C 0 dX9_pairs_77 rfl rfl ?_
            refine xi_getR C xK_X9 (q := 54) (r := 59) rfl 19 (by decide) (ki := 19) rfl xl_X9_22 rfl dX9_pairs_78 ?_
            refine xi_bipush C (v := 14) dX9_pairs_81 (by decide +kernel) ?_
            refine xi_iload C 4 dX9_pairs_83 rfl ?_
            refine xi_imul C dX9_pairs_85 ?_
            refine xi_iload C 5 dX9_pairs_86 rfl ?_
            refine xi_iadd C dX9_pairs_88 ?_
            refine xi_iaload C (q := 59) rfl (by decide) hc10 dX9_pairs_89 ?_
            refine xi_iload_n C 3 dX9_pairs_90 rfl rfl ?_
            refine xi_icmp_ne C 104 (xval.i (q := 59) (i := (14 * v4_15) + v5_36) hw7 hc10.1 rfl) (xval.i (q := 59) (i := (14 * a1) + a2) hw hc1.1 rfl) dX9_pairs_91 (by decide) (fun z13 => ?_) (fun z13 => ?_)
            · replace h := h.1 z13
              refine xi_iinc C (L' := [(5, .int (iN (v5_36 + 1))), (0, .ref (ad 54)), (1, .int (iN a1)), (2, .int (iN a2)), (3, .int (iN (S 59 ((14 * a1) + a2)))), (4, .int (iN v4_15))]) 5 dX9_pairs_104 rfl (by decide) rfl ?_
              refine xi_goto C 36 dX9_pairs_107 (by decide) ?_
              obtain ⟨hc14, h⟩ := h
              exact xi_sub [1, 2, 3, 4, 5, 0] rfl (hk36 (v5_36 + 1) S53 h hc14 hw7)
            · replace h := h.2 z13
              refine xi_aload_n C 0 dX9_pairs_94 rfl rfl ?_
              refine xi_iload_n C 1 dX9_pairs_95 rfl rfl ?_
              refine xi_iload_n C 2 dX9_pairs_96 rfl rfl ?_
              refine xi_iload C 4 dX9_pairs_97 rfl ?_
              refine xi_iload C 5 dX9_pairs_99 rfl ?_
              refine xc_Vv C hw7 (c_X9_adds l D ca ad tF a1 a2 v4_15 v5_36 S53 _ h_a1 h_a2 h_v4_15 h_v5_36 h) xk_X9_adds xv_X9_adds xl_X9_168 ⟨Nat.le_of_ble_eq_true rfl, Nat.le_of_ble_eq_true rfl⟩ xK_X9 (q := 54) rfl rfl rfl (Nat.le_of_ble_eq_true rfl) ⟨Nat.le_of_ble_eq_true rfl, Nat.le_of_ble_eq_true rfl⟩ dX9_pairs_101 (fun S101 h hw15 => ?_)
              refine xi_iinc C (L' := [(5, .int (iN (v5_36 + 1))), (0, .ref (ad 54)), (1, .int (iN a1)), (2, .int (iN a2)), (3, .int (iN (S 59 ((14 * a1) + a2)))), (4, .int (iN v4_15))]) 5 dX9_pairs_104 rfl (by decide) rfl ?_
              refine xi_goto C 36 dX9_pairs_107 (by decide) ?_
              obtain ⟨hc16, h⟩ := h
              exact xi_sub [1, 2, 3, 4, 5, 0] rfl (hk36 (v5_36 + 1) S101 h hc16 hw15)
    · replace h := h.2 z3
      refine xi_goto C 110 dX9_pairs_30 (by decide) ?_
      refine xi_iinc C (L' := [(4, .int (iN (v4_15 + 1))), (0, .ref (ad 54)), (1, .int (iN a1)), (2, .int (iN a2)), (3, .int (iN (S 59 ((14 * a1) + a2))))]) 4 dX9_pairs_110 rfl (by decide) rfl ?_
      refine xi_goto C 15 dX9_pairs_113 (by decide) ?_
      obtain ⟨hc17, h⟩ := h
      exact xi_sub [1, 2, 3, 4, 0] rfl (hk15 (v4_15 + 1) S15 h hc17 hw15)
set_option maxRecDepth 100000 in
set_option maxHeartbeats 4000000 in
theorem c_X9_finds (l : Launch) (D : va_G) (ca : Nat → ClassId) (ad : Nat → Nat) (tF : Nat)  (S : xS) (Q : xS → Prop)  (h : w_X9_finds  S Q) : xM l yX9_finds (xws yX9_finds cX9_finds 4 (none)) ({ frames := 2, cells := 0, slots := 0, locals := 49 }) (gC D ca ad tF) [.ref (ad 54)] S (xQv Q) 0 0 := by
  refine xm_of RX9 rfl (by decide +kernel) (Nat.le_of_ble_eq_true rfl) ?_
  intro p e s m args below meth c A Z C hA hZ hr hlocks hw
  unfold w_X9_finds at h
  show xV (gC D ca ad tF) p l e ({ frames := 2, cells := 0, slots := 0, locals := 49 }) s m args below meth c A 4 Z 0 0 0 [(0, .ref (ad 54))] [] S
  refine xi_aload_n C 0 dX9_finds_0 rfl rfl ?_
  refine xi_iconst C (v := 0) dX9_finds_1 rfl ?_
  refine xi_putI C xK_X9 (q := 54) (r := 0) rfl 10 (by decide) (ki := 10) rfl xl_X9_158 rfl rfl rfl dX9_finds_2 ?_
  have hw1 := xval.up (q := 54) (i := 10) (v := 0) hw rfl (by decide)
  refine xi_iconst C (v := 0) dX9_finds_5 rfl ?_
  refine xi_istore_n C (L' := [(1, .int (iN 0)), (0, .ref (ad 54))]) dX9_finds_6 rfl (by decide) rfl ?_
  refine xJ0_w (fun  S108 => xval (gC D ca ad tF) S108 → xV (gC D ca ad tF) p l e ({ frames := 2, cells := 0, slots := 0, locals := 49 }) s m args below meth c A 4 Z 0 0 108 [(0, .ref (ad 54))] [] S108) h (fun  S108 h  hw108 => ?_) (fun j108 hj108 h => ?_)
  · unfold w_X9_finds_J108 at h
    refine xi_iconst C (v := (-1)) dX9_finds_108 rfl ?_
    refine xi_istore_n C (L' := [(1, .int (iN (-1))), (0, .ref (ad 54))]) dX9_finds_109 rfl (by decide) rfl ?_
    refine xi_aload_n C 1 dX9_finds_110 rfl rfl ?_
    refine xi_getI C xK_X9 (q := 54) (r := 0) rfl 10 (by decide) (ki := 10) rfl xl_X9_158 rfl dX9_finds_111 ?_
    refine xi_iconst C (v := 1) dX9_finds_114 rfl ?_
    refine xi_isub C dX9_finds_115 ?_
    refine xi_istore_n C (L' := [(2, .int (iN ((S108 54 10) - 1))), (1, .int (iN (-1))), (0, .ref (ad 54))]) dX9_finds_116 rfl (by decide) rfl ?_
    refine xJ1_w (fun v1_163 S163 => xR v1_163 → xval (gC D ca ad tF) S163 → xV (gC D ca ad tF) p l e ({ frames := 2, cells := 0, slots := 0, locals := 49 }) s m args below meth c A 4 Z 0 0 163 [(0, .ref (ad 54)), (1, .int (iN v1_163))] [] S163) h (fun v1_163 S163 h h_v1_163 hw163 => ?_) (fun j163 hj163 h => ?_)
    · unfold w_X9_finds_J163 at h
      refine xi_iload_n C 1 dX9_finds_163 rfl rfl ?_
      refine xi_iconst C (v := (-1)) dX9_finds_164 rfl ?_
      refine xi_icmp_ne C 169 h_v1_163 (by decide) dX9_finds_165 (by decide) (fun z2 => ?_) (fun z2 => ?_)
      · replace h := h.1 z2
        refine xi_aload_n C 0 dX9_finds_169 rfl rfl ?_
        refine xi_iload_n C 1 dX9_finds_170 rfl rfl ?_
        refine xc_Vv C hw163 (c_X9_keeps l D ca ad tF v1_163 S163 _ h_v1_163 h) xk_X9_keeps xv_X9_keeps xl_X9_180 ⟨Nat.le_of_ble_eq_true rfl, Nat.le_of_ble_eq_true rfl⟩ xK_X9 (q := 54) rfl rfl rfl (Nat.le_of_ble_eq_true rfl) ⟨Nat.le_of_ble_eq_true rfl, Nat.le_of_ble_eq_true rfl⟩ dX9_finds_171 (fun S171 h hw3 => ?_)
        exact xr_v C hA hZ hr hlocks dX9_finds_174 (Nat.le_of_ble_eq_true rfl) (Nat.le_of_ble_eq_true rfl) hw3 ⟨rfl, h⟩
      · replace h := h.2 z2
        exact xr_v C hA hZ hr hlocks dX9_finds_168 (Nat.le_of_ble_eq_true rfl) (Nat.le_of_ble_eq_true rfl) hw163 ⟨rfl, h⟩
    · obtain ⟨hc4, h⟩ := h
      refine xi_sub [2, 1, 0] rfl (xW2 (fun v1_117 v2_117 S117 => xR v1_117 → xR v2_117 → xval (gC D ca ad tF) S117 → xV (gC D ca ad tF) p l e ({ frames := 2, cells := 0, slots := 0, locals := 49 }) s m args below meth c A 4 Z 0 0 117 [(0, .ref (ad 54)), (1, .int (iN v1_117)), (2, .int (iN v2_117))] [] S117) h (fun k117 hk117 v1_117 v2_117 S117 h h_v1_117 h_v2_117 hw117 => ?_) (by decide) hc4 hw108)
      unfold w_X9_finds_L117 at h
      refine xi_iload_n C 2 dX9_finds_117 rfl rfl ?_
      refine xi_if_lt C 163 h_v2_117 dX9_finds_118 (by decide) (fun z5 => ?_) (fun z5 => ?_)
      · replace h := h.1 z5
        exact xi_sub [0, 1] rfl (hj163 v1_117 S117 h h_v1_117 hw117)
      · replace h := h.2 z5
        refine xi_aload_n C 0 dX9_finds_121 rfl rfl ?_
        refine xi_getR C xK_X9 (q := 54) (r := 66) rfl 26 (by decide) (ki := 26) rfl xl_X9_44 rfl dX9_finds_122 ?_
        refine xi_bipush C (v := 12) dX9_finds_125 (by decide +kernel) ?_
        refine xi_aload_n C 0 dX9_finds_127 rfl rfl ?_
        refine xi_getR C xK_X9 (q := 54) (r := 83) rfl 43 (by decide) (ki := 43) rfl xl_X9_97 rfl dX9_finds_128 ?_
        refine xi_iload_n C 2 dX9_finds_131 rfl rfl ?_
        obtain ⟨hc6, h⟩ := h
        refine xi_iaload C (q := 83) rfl (by decide) hc6 dX9_finds_132 ?_
        refine xi_imul C dX9_finds_133 ?_
        refine xi_aload_n C 0 dX9_finds_134 rfl rfl ?_
        refine xi_getR C xK_X9 (q := 54) (r := 75) rfl 35 (by decide) (ki := 35) rfl xl_X9_73 rfl dX9_finds_135 ?_
        refine xi_aload_n C 0 dX9_finds_138 rfl rfl ?_
        refine xi_getR C xK_X9 (q := 54) (r := 83) rfl 43 (by decide) (ki := 43) rfl xl_X9_97 rfl dX9_finds_139 ?_
        refine xi_iload_n C 2 dX9_finds_142 rfl rfl ?_
        refine xi_iaload C (q := 83) rfl (by decide) hc6 dX9_finds_143 ?_
        obtain ⟨hc7, h⟩ := h
        refine xi_iaload C (q := 75) rfl (by decide) hc7 dX9_finds_144 ?_
        refine xi_iadd C dX9_finds_145 ?_
        obtain ⟨hc8, h⟩ := h
        refine xi_baload C (q := 66) rfl (by decide) hc8 dX9_finds_146 ?_
        refine xi_if_eq C 157 (xval.i (q := 66) (i := (12 * (S117 83 v2_117)) + (S117 75 (S117 83 v2_117))) hw117 hc8.1 rfl) dX9_finds_147 (by decide) (fun z9 => ?_) (fun z9 => ?_)
        · replace h := h.1 z9
          refine xi_iinc C (L' := [(2, .int (iN (v2_117 + (-1)))), (0, .ref (ad 54)), (1, .int (iN v1_117))]) 2 dX9_finds_157 rfl (by decide) rfl ?_
          refine xi_goto C 117 dX9_finds_160 (by decide) ?_
          obtain ⟨hc10, h⟩ := h
          exact xi_sub [1, 2, 0] rfl (hk117 v1_117 (v2_117 + (-1)) S117 h h_v1_117 hc10 hw117)
        · replace h := h.2 z9
          refine xi_aload_n C 0 dX9_finds_150 rfl rfl ?_
          refine xi_getR C xK_X9 (q := 54) (r := 83) rfl 43 (by decide) (ki := 43) rfl xl_X9_97 rfl dX9_finds_151 ?_
          refine xi_iload_n C 2 dX9_finds_154 rfl rfl ?_
          refine xi_iaload C (q := 83) rfl (by decide) hc6 dX9_finds_155 ?_
          refine xi_istore_n C (L' := [(1, .int (iN (S117 83 v2_117))), (0, .ref (ad 54)), (2, .int (iN v2_117))]) dX9_finds_156 rfl (by decide) rfl ?_
          refine xi_iinc C (L' := [(2, .int (iN (v2_117 + (-1)))), (1, .int (iN (S117 83 v2_117))), (0, .ref (ad 54))]) 2 dX9_finds_157 rfl (by decide) rfl ?_
          refine xi_goto C 117 dX9_finds_160 (by decide) ?_
          obtain ⟨hc11, h⟩ := h
          exact xi_sub [2, 1, 0] rfl (hk117 (S117 83 v2_117) (v2_117 + (-1)) S117 h (xval.i (q := 83) (i := v2_117) hw117 hc6.1 rfl) hc11 hw117)
  · refine xi_sub [1, 0] rfl (xW1 (fun v1_7 S7 => xR v1_7 → xval (gC D ca ad tF) S7 → xV (gC D ca ad tF) p l e ({ frames := 2, cells := 0, slots := 0, locals := 49 }) s m args below meth c A 4 Z 0 0 7 [(0, .ref (ad 54)), (1, .int (iN v1_7))] [] S7) h (fun k7 hk7 v1_7 S7 h h_v1_7 hw7 => ?_) (by decide) hw1)
    unfold w_X9_finds_L7 at h
    refine xi_iload_n C 1 dX9_finds_7 rfl rfl ?_
    refine xi_aload_n C 0 dX9_finds_8 rfl rfl ?_
    refine xi_getI C xK_X9 (q := 54) (r := 0) rfl 1 (by decide) (ki := 1) rfl xl_X9_161 rfl dX9_finds_9 ?_
    refine xi_icmp_ge C 108 h_v1_7 (xval.i (q := 54) (i := 1) hw7 (by decide) rfl) dX9_finds_12 (by decide) (fun z12 => ?_) (fun z12 => ?_)
    · replace h := h.1 z12
      exact xi_sub [0] rfl (hj108 S7 h hw7)
    · replace h := h.2 z12
      refine xi_iconst C (v := 0) dX9_finds_15 rfl ?_
      refine xi_istore_n C (L' := [(2, .int (iN 0)), (0, .ref (ad 54)), (1, .int (iN v1_7))]) dX9_finds_16 rfl (by decide) rfl ?_
      refine xi_sub [1, 2, 0] rfl (xW1 (fun v2_17 S17 => xR v2_17 → xval (gC D ca ad tF) S17 → xV (gC D ca ad tF) p l e ({ frames := 2, cells := 0, slots := 0, locals := 49 }) s m args below meth c A 4 Z 0 0 17 [(0, .ref (ad 54)), (1, .int (iN v1_7)), (2, .int (iN v2_17))] [] S17) h (fun k17 hk17 v2_17 S17 h h_v2_17 hw17 => ?_) (by decide) hw7)
      unfold w_X9_finds_L17 at h
      refine xi_iload_n C 2 dX9_finds_17 rfl rfl ?_
      refine xi_aload_n C 0 dX9_finds_18 rfl rfl ?_
      refine xi_getR C xK_X9 (q := 54) (r := 55) rfl 15 (by decide) (ki := 15) rfl xl_X9_7 rfl dX9_finds_19 ?_
      refine xi_iload_n C 1 dX9_finds_22 rfl rfl ?_
      obtain ⟨hc13, h⟩ := h
      refine xi_iaload C (q := 55) rfl (by decide) hc13 dX9_finds_23 ?_
      refine xi_icmp_ge C 102 h_v2_17 (xval.i (q := 55) (i := v1_7) hw17 hc13.1 rfl) dX9_finds_24 (by decide) (fun z14 => ?_) (fun z14 => ?_)
      · replace h := h.1 z14
        refine xi_iinc C (L' := [(1, .int (iN (v1_7 + 1))), (0, .ref (ad 54)), (2, .int (iN v2_17))]) 1 dX9_finds_102 rfl (by decide) rfl ?_
        refine xi_goto C 7 dX9_finds_105 (by decide) ?_
        obtain ⟨hc15, h⟩ := h
        exact xi_sub [1, 0] rfl (hk7 (v1_7 + 1) S17 h hc15 hw17)
      · replace h := h.2 z14
        refine xi_bipush C (v := 14) dX9_finds_27 (by decide +kernel) ?_
        refine xi_iload_n C 1 dX9_finds_29 rfl rfl ?_
        refine xi_imul C dX9_finds_30 ?_
        refine xi_iload_n C 2 dX9_finds_31 rfl rfl ?_
        refine xi_iadd C dX9_finds_32 ?_
        refine xi_istore_n C (L' := [(3, .int (iN ((14 * v1_7) + v2_17))), (0, .ref (ad 54)), (1, .int (iN v1_7)), (2, .int (iN v2_17))]) dX9_finds_33 rfl (by decide) rfl ?_
        refine xi_aload_n C 1 dX9_finds_34 rfl rfl ?_
        refine xi_iload_n C 2 dX9_finds_35 rfl rfl ?_
        refine xi_iload_n C 3 dX9_finds_36 rfl rfl ?_
        refine xc_Vi C hw17 (c_X9_isHere l D ca ad tF v1_7 v2_17 S17 _ h_v1_7 h_v2_17 h) xk_X9_isHere xv_X9_isHere xl_X9_164 ⟨Nat.le_of_ble_eq_true rfl, Nat.le_of_ble_eq_true rfl⟩ xK_X9 (q := 54) rfl rfl rfl (Nat.le_of_ble_eq_true rfl) ⟨Nat.le_of_ble_eq_true rfl, Nat.le_of_ble_eq_true rfl⟩ dX9_finds_37 (fun r37 S37 h_r37 h hw16 => ?_)
        refine xi_if_ne C 46 h_r37 dX9_finds_40 (by decide) (fun z17 => ?_) (fun z17 => ?_)
        · replace h := h.1 z17
          refine xi_aload_n C 1 dX9_finds_46 rfl rfl ?_
          refine xi_getR C xK_X9 (q := 54) (r := 58) rfl 18 (by decide) (ki := 18) rfl xl_X9_19 rfl dX9_finds_47 ?_
          refine xi_iload_n C 0 dX9_finds_50 rfl rfl ?_
          obtain ⟨hc18, h⟩ := h
          refine xi_iaload C (q := 58) rfl (by decide) hc18 dX9_finds_51 ?_
          refine xi_bipush C (v := 119) dX9_finds_52 (by decide +kernel) ?_
          refine xJ0_w (fun  S80 => xval (gC D ca ad tF) S80 → xV (gC D ca ad tF) p l e ({ frames := 2, cells := 0, slots := 0, locals := 49 }) s m args below meth c A 4 Z 0 0 80 [(0, .ref (ad 54)), (1, .int (iN v1_7)), (2, .int (iN v2_17)), (3, .int (iN ((14 * v1_7) + v2_17)))] [] S80) h (fun  S80 h  hw80 => ?_) (fun j80 hj80 h => ?_)
          · unfold w_X9_finds_J80 at h
            refine xi_aload_n C 0 dX9_finds_80 rfl rfl ?_
            refine xi_iload_n C 3 dX9_finds_81 rfl rfl ?_
            refine xc_Vi C hw80 (c_X9_isFree l D ca ad tF ((14 * v1_7) + v2_17) S80 _ (⟨Int.le_trans (by decide) hc18.1, Int.lt_trans hc18.2 (by decide)⟩ : xR ((14 * v1_7) + v2_17)) h) xk_X9_isFree xv_X9_isFree xl_X9_176 ⟨Nat.le_of_ble_eq_true rfl, Nat.le_of_ble_eq_true rfl⟩ xK_X9 (q := 54) rfl rfl rfl (Nat.le_of_ble_eq_true rfl) ⟨Nat.le_of_ble_eq_true rfl, Nat.le_of_ble_eq_true rfl⟩ dX9_finds_82 (fun r82 S82 h_r82 h hw20 => ?_)
            refine xi_if_eq C 96 h_r82 dX9_finds_85 (by decide) (fun z21 => ?_) (fun z21 => ?_)
            · replace h := h.1 z21
              refine xi_iinc C (L' := [(2, .int (iN (v2_17 + 1))), (0, .ref (ad 54)), (1, .int (iN v1_7)), (3, .int (iN ((14 * v1_7) + v2_17)))]) 2 dX9_finds_96 rfl (by decide) rfl ?_
              refine xi_goto C 17 dX9_finds_99 (by decide) ?_
              obtain ⟨hc22, h⟩ := h
              exact xi_sub [1, 2, 0] rfl (hk17 (v2_17 + 1) S82 h hc22 hw20)
            · replace h := h.2 z21
              refine xi_aload_n C 0 dX9_finds_88 rfl rfl ?_
              refine xi_iload_n C 1 dX9_finds_89 rfl rfl ?_
              refine xi_iload_n C 2 dX9_finds_90 rfl rfl ?_
              refine xi_iconst C (v := (-1)) dX9_finds_91 rfl ?_
              refine xi_iconst C (v := (-1)) dX9_finds_92 rfl ?_
              refine xc_Vv C hw20 (c_X9_adds l D ca ad tF v1_7 v2_17 (-1) (-1) S82 _ h_v1_7 h_v2_17 (by decide) (by decide) h) xk_X9_adds xv_X9_adds xl_X9_168 ⟨Nat.le_of_ble_eq_true rfl, Nat.le_of_ble_eq_true rfl⟩ xK_X9 (q := 54) rfl rfl rfl (Nat.le_of_ble_eq_true rfl) ⟨Nat.le_of_ble_eq_true rfl, Nat.le_of_ble_eq_true rfl⟩ dX9_finds_93 (fun S93 h hw23 => ?_)
              refine xi_iinc C (L' := [(2, .int (iN (v2_17 + 1))), (0, .ref (ad 54)), (1, .int (iN v1_7)), (3, .int (iN ((14 * v1_7) + v2_17)))]) 2 dX9_finds_96 rfl (by decide) rfl ?_
              refine xi_goto C 17 dX9_finds_99 (by decide) ?_
              obtain ⟨hc24, h⟩ := h
              exact xi_sub [1, 2, 0] rfl (hk17 (v2_17 + 1) S93 h hc24 hw23)
          · refine xi_icmp_ne C 80 (xval.i (q := 58) (i := (14 * v1_7) + v2_17) hw16 hc18.1 rfl) (by decide) dX9_finds_54 (by decide) (fun z19 => ?_) (fun z19 => ?_)
            · replace h := h.1 z19
              exact xi_sub [1, 2, 3, 0] rfl (hj80 S37 h hw16)
            · replace h := h.2 z19
              refine xi_aload_n C 1 dX9_finds_57 rfl rfl ?_
              refine xi_getR C xK_X9 (q := 54) (r := 61) rfl 21 (by decide) (ki := 21) rfl xl_X9_28 rfl dX9_finds_58 ?_
              refine xi_aload_n C 1 dX9_finds_61 rfl rfl ?_
              refine xi_getR C xK_X9 (q := 54) (r := 59) rfl 19 (by decide) (ki := 19) rfl xl_X9_22 rfl dX9_finds_62 ?_
              refine xi_iload_n C 0 dX9_finds_65 rfl rfl ?_
              refine xi_iaload C (q := 59) rfl (by decide) hc18 dX9_finds_66 ?_
              obtain ⟨hc25, h⟩ := h
              refine xi_iaload C (q := 61) rfl (by decide) hc25 dX9_finds_67 ?_
              refine xi_if_ne C 80 (xval.i (q := 61) (i := S37 59 ((14 * v1_7) + v2_17)) hw16 hc25.1 rfl) dX9_finds_68 (by decide) (fun z26 => ?_) (fun z26 => ?_)
              · replace h := h.1 z26
                exact xi_sub [1, 2, 3, 0] rfl (hj80 S37 h hw16)
              · replace h := h.2 z26
                refine xi_aload_n C 1 dX9_finds_71 rfl rfl ?_
                refine xi_iload_n C 2 dX9_finds_72 rfl rfl ?_
                refine xi_iload_n C 3 dX9_finds_73 rfl rfl ?_
                refine xc_Vv C hw16 (c_X9_pairs l D ca ad tF v1_7 v2_17 S37 _ h_v1_7 h_v2_17 h) xk_X9_pairs xv_X9_pairs xl_X9_172 ⟨Nat.le_of_ble_eq_true rfl, Nat.le_of_ble_eq_true rfl⟩ xK_X9 (q := 54) rfl rfl rfl (Nat.le_of_ble_eq_true rfl) ⟨Nat.le_of_ble_eq_true rfl, Nat.le_of_ble_eq_true rfl⟩ dX9_finds_74 (fun S74 h hw27 => ?_)
                refine xi_goto C 96 dX9_finds_77 (by decide) ?_
                refine xi_iinc C (L' := [(2, .int (iN (v2_17 + 1))), (3, .int (iN ((14 * v1_7) + v2_17))), (0, .ref (ad 54)), (1, .int (iN v1_7))]) 3 dX9_finds_96 rfl (by decide) rfl ?_
                refine xi_goto C 17 dX9_finds_99 (by decide) ?_
                obtain ⟨hc28, h⟩ := h
                exact xi_sub [2, 3, 0] rfl (hk17 (v2_17 + 1) S74 h hc28 hw27)
        · replace h := h.2 z17
          refine xi_goto C 96 dX9_finds_43 (by decide) ?_
          refine xi_iinc C (L' := [(2, .int (iN (v2_17 + 1))), (3, .int (iN ((14 * v1_7) + v2_17))), (0, .ref (ad 54)), (1, .int (iN v1_7))]) 3 dX9_finds_96 rfl (by decide) rfl ?_
          refine xi_goto C 17 dX9_finds_99 (by decide) ?_
          obtain ⟨hc29, h⟩ := h
          exact xi_sub [2, 3, 0] rfl (hk17 (v2_17 + 1) S37 h hc29 hw16)
set_option maxRecDepth 100000 in
set_option maxHeartbeats 4000000 in
theorem c_X9_asserts (l : Launch) (D : va_G) (ca : Nat → ClassId) (ad : Nat → Nat) (tF : Nat) (a1 : Int) (S : xS) (Q : Int → xS → Prop) (h_a1 : xR a1) (h : w_X9_asserts a1 S Q) : xM l yX9_asserts (xws yX9_asserts cX9_asserts 3 (some .boolean)) ({ frames := 0, cells := 0, slots := 0, locals := 0 }) (gC D ca ad tF) [.ref (ad 54), .int (iN a1)] S (xQi Q) 0 0 := by
  refine xm_of RX9 rfl (by decide +kernel) (Nat.le_of_ble_eq_true rfl) ?_
  intro p e s m args below meth c A Z C hA hZ hr hlocks hw
  unfold w_X9_asserts at h
  show xV (gC D ca ad tF) p l e ({ frames := 0, cells := 0, slots := 0, locals := 0 }) s m args below meth c A 3 Z 0 0 0 [(0, .ref (ad 54)), (1, .int (iN a1))] [] S
  refine xi_bipush C (v := 14) dX9_asserts_0 (by decide +kernel) ?_
  refine xi_aload_n C 0 dX9_asserts_2 rfl rfl ?_
  refine xi_getR C xK_X9 (q := 54) (r := 83) rfl 43 (by decide) (ki := 43) rfl xl_X9_97 rfl dX9_asserts_3 ?_
  refine xi_iload_n C 1 dX9_asserts_6 rfl rfl ?_
  obtain ⟨hc1, h⟩ := h
  refine xi_iaload C (q := 83) rfl (by decide) hc1 dX9_asserts_7 ?_
  refine xi_imul C dX9_asserts_8 ?_
  refine xi_aload_n C 0 dX9_asserts_9 rfl rfl ?_
  refine xi_getR C xK_X9 (q := 54) (r := 84) rfl 44 (by decide) (ki := 44) rfl xl_X9_100 rfl dX9_asserts_10 ?_
  refine xi_iload_n C 1 dX9_asserts_13 rfl rfl ?_
  refine xi_iaload C (q := 84) rfl (by decide) hc1 dX9_asserts_14 ?_
  refine xi_iadd C dX9_asserts_15 ?_
  refine xi_istore_n C (L' := [(2, .int (iN ((14 * (S 83 a1)) + (S 84 a1)))), (0, .ref (ad 54)), (1, .int (iN a1))]) dX9_asserts_16 rfl (by decide) rfl ?_
  refine xi_aload_n C 1 dX9_asserts_17 rfl rfl ?_
  refine xi_getR C xK_X9 (q := 54) (r := 58) rfl 18 (by decide) (ki := 18) rfl xl_X9_19 rfl dX9_asserts_18 ?_
  refine xi_iload_n C 0 dX9_asserts_21 rfl rfl ?_
  obtain ⟨hc2, h⟩ := h
  refine xi_iaload C (q := 58) rfl (by decide) hc2 dX9_asserts_22 ?_
  refine xi_bipush C (v := 97) dX9_asserts_23 (by decide +kernel) ?_
  refine xi_icmp_ne C 52 (xval.i (q := 58) (i := (14 * (S 83 a1)) + (S 84 a1)) hw hc2.1 rfl) (by decide) dX9_asserts_25 (by decide) (fun z3 => ?_) (fun z3 => ?_)
  · replace h := h.1 z3
    refine xi_iconst C (v := 0) dX9_asserts_52 rfl ?_
    exact xr_i C hA hZ hr hlocks (xnarZ (Or.inl rfl)).1 dX9_asserts_53 (Nat.le_of_ble_eq_true rfl) (Nat.le_of_ble_eq_true rfl) hw ⟨_, rfl, (by decide), h⟩
  · replace h := h.2 z3
    refine xi_aload_n C 1 dX9_asserts_28 rfl rfl ?_
    refine xi_getR C xK_X9 (q := 54) (r := 76) rfl 36 (by decide) (ki := 36) rfl xl_X9_76 rfl dX9_asserts_29 ?_
    refine xi_aload_n C 1 dX9_asserts_32 rfl rfl ?_
    refine xi_getR C xK_X9 (q := 54) (r := 59) rfl 19 (by decide) (ki := 19) rfl xl_X9_22 rfl dX9_asserts_33 ?_
    refine xi_iload_n C 0 dX9_asserts_36 rfl rfl ?_
    refine xi_iaload C (q := 59) rfl (by decide) hc2 dX9_asserts_37 ?_
    obtain ⟨hc4, h⟩ := h
    refine xi_iaload C (q := 76) rfl (by decide) hc4 dX9_asserts_38 ?_
    refine xi_aload_n C 1 dX9_asserts_39 rfl rfl ?_
    refine xi_getR C xK_X9 (q := 54) (r := 60) rfl 20 (by decide) (ki := 20) rfl xl_X9_25 rfl dX9_asserts_40 ?_
    refine xi_iload_n C 0 dX9_asserts_43 rfl rfl ?_
    refine xi_iaload C (q := 60) rfl (by decide) hc2 dX9_asserts_44 ?_
    refine xi_icmp_ne C 52 (xval.i (q := 76) (i := S 59 ((14 * (S 83 a1)) + (S 84 a1))) hw hc4.1 rfl) (xval.i (q := 60) (i := (14 * (S 83 a1)) + (S 84 a1)) hw hc2.1 rfl) dX9_asserts_45 (by decide) (fun z5 => ?_) (fun z5 => ?_)
    · replace h := h.1 z5
      refine xi_iconst C (v := 0) dX9_asserts_52 rfl ?_
      exact xr_i C hA hZ hr hlocks (xnarZ (Or.inl rfl)).1 dX9_asserts_53 (Nat.le_of_ble_eq_true rfl) (Nat.le_of_ble_eq_true rfl) hw ⟨_, rfl, (by decide), h⟩
    · replace h := h.2 z5
      refine xi_iconst C (v := 1) dX9_asserts_48 rfl ?_
      refine xi_goto C 53 dX9_asserts_49 (by decide) ?_
      exact xr_i C hA hZ hr hlocks (xnarZ (Or.inr rfl)).1 dX9_asserts_53 (Nat.le_of_ble_eq_true rfl) (Nat.le_of_ble_eq_true rfl) hw ⟨_, rfl, (by decide), h⟩
set_option maxRecDepth 100000 in
set_option maxHeartbeats 4000000 in
theorem c_X9_copies (l : Launch) (D : va_G) (ca : Nat → ClassId) (ad : Nat → Nat) (tF : Nat)  (S : xS) (Q : xS → Prop)  (h : w_X9_copies  S Q) : xM l yX9_copies (xws yX9_copies cX9_copies 2 (none)) ({ frames := 0, cells := 0, slots := 0, locals := 0 }) (gC D ca ad tF) [.ref (ad 54)] S (xQv Q) 0 0 := by
  refine xm_of RX9 rfl (by decide +kernel) (Nat.le_of_ble_eq_true rfl) ?_
  intro p e s m args below meth c A Z C hA hZ hr hlocks hw
  unfold w_X9_copies at h
  show xV (gC D ca ad tF) p l e ({ frames := 0, cells := 0, slots := 0, locals := 0 }) s m args below meth c A 2 Z 0 0 0 [(0, .ref (ad 54))] [] S
  refine xi_iconst C (v := 0) dX9_copies_0 rfl ?_
  refine xi_istore_n C (L' := [(1, .int (iN 0)), (0, .ref (ad 54))]) dX9_copies_1 rfl (by decide) rfl ?_
  refine xJ0_w (fun  S25 => xval (gC D ca ad tF) S25 → xV (gC D ca ad tF) p l e ({ frames := 0, cells := 0, slots := 0, locals := 0 }) s m args below meth c A 2 Z 0 0 25 [(0, .ref (ad 54))] [] S25) h (fun  S25 h  hw25 => ?_) (fun j25 hj25 h => ?_)
  · unfold w_X9_copies_J25 at h
    refine xi_iconst C (v := 0) dX9_copies_25 rfl ?_
    refine xi_istore_n C (L' := [(1, .int (iN 0)), (0, .ref (ad 54))]) dX9_copies_26 rfl (by decide) rfl ?_
    refine xJ0_w (fun  S51 => xval (gC D ca ad tF) S51 → xV (gC D ca ad tF) p l e ({ frames := 0, cells := 0, slots := 0, locals := 0 }) s m args below meth c A 2 Z 0 0 51 [(0, .ref (ad 54))] [] S51) h (fun  S51 h  hw51 => ?_) (fun j51 hj51 h => ?_)
    · unfold w_X9_copies_J51 at h
      refine xi_iconst C (v := 0) dX9_copies_51 rfl ?_
      refine xi_istore_n C (L' := [(1, .int (iN 0)), (0, .ref (ad 54))]) dX9_copies_52 rfl (by decide) rfl ?_
      refine xJ0_w (fun  S76 => xval (gC D ca ad tF) S76 → xV (gC D ca ad tF) p l e ({ frames := 0, cells := 0, slots := 0, locals := 0 }) s m args below meth c A 2 Z 0 0 76 [(0, .ref (ad 54))] [] S76) h (fun  S76 h  hw76 => ?_) (fun j76 hj76 h => ?_)
      · unfold w_X9_copies_J76 at h
        refine xi_iconst C (v := 0) dX9_copies_76 rfl ?_
        refine xi_istore_n C (L' := [(1, .int (iN 0)), (0, .ref (ad 54))]) dX9_copies_77 rfl (by decide) rfl ?_
        refine xi_sub [1, 0] rfl (xW1 (fun v1_78 S78 => xR v1_78 → xval (gC D ca ad tF) S78 → xV (gC D ca ad tF) p l e ({ frames := 0, cells := 0, slots := 0, locals := 0 }) s m args below meth c A 2 Z 0 0 78 [(0, .ref (ad 54)), (1, .int (iN v1_78))] [] S78) h (fun k78 hk78 v1_78 S78 h h_v1_78 hw78 => ?_) (by decide) hw76)
        unfold w_X9_copies_L78 at h
        refine xi_iload_n C 1 dX9_copies_78 rfl rfl ?_
        refine xi_iconst C (v := 4) dX9_copies_79 rfl ?_
        refine xi_icmp_ge C 101 h_v1_78 (by decide) dX9_copies_80 (by decide) (fun z1 => ?_) (fun z1 => ?_)
        · replace h := h.1 z1
          exact xr_v C hA hZ hr hlocks dX9_copies_101 (Nat.le_of_ble_eq_true rfl) (Nat.le_of_ble_eq_true rfl) hw78 ⟨rfl, h⟩
        · replace h := h.2 z1
          refine xi_aload_n C 0 dX9_copies_83 rfl rfl ?_
          refine xi_getR C xK_X9 (q := 54) (r := 82) rfl 42 (by decide) (ki := 42) rfl xl_X9_94 rfl dX9_copies_84 ?_
          refine xi_iload_n C 1 dX9_copies_87 rfl rfl ?_
          refine xi_aload_n C 0 dX9_copies_88 rfl rfl ?_
          refine xi_getR C xK_X9 (q := 54) (r := 78) rfl 38 (by decide) (ki := 38) rfl xl_X9_82 rfl dX9_copies_89 ?_
          refine xi_iload_n C 1 dX9_copies_92 rfl rfl ?_
          obtain ⟨hc2, h⟩ := h
          refine xi_iaload C (q := 78) rfl (by decide) hc2 dX9_copies_93 ?_
          refine xi_iastore C (q := 82) rfl (by decide) hc2 dX9_copies_94 ?_
          have hw3 := xval.up (q := 82) (i := v1_78) (v := S78 78 v1_78) hw78 rfl (xval.i (q := 78) (i := v1_78) hw78 hc2.1 rfl)
          refine xi_iinc C (L' := [(1, .int (iN (v1_78 + 1))), (0, .ref (ad 54))]) 1 dX9_copies_95 rfl (by decide) rfl ?_
          refine xi_goto C 78 dX9_copies_98 (by decide) ?_
          obtain ⟨hc4, h⟩ := h
          exact xi_sub [1, 0] rfl (hk78 (v1_78 + 1) (xup S78 82 v1_78 (S78 78 v1_78)) h hc4 hw3)
      · refine xi_sub [1, 0] rfl (xW1 (fun v1_53 S53 => xR v1_53 → xval (gC D ca ad tF) S53 → xV (gC D ca ad tF) p l e ({ frames := 0, cells := 0, slots := 0, locals := 0 }) s m args below meth c A 2 Z 0 0 53 [(0, .ref (ad 54)), (1, .int (iN v1_53))] [] S53) h (fun k53 hk53 v1_53 S53 h h_v1_53 hw53 => ?_) (by decide) hw51)
        unfold w_X9_copies_L53 at h
        refine xi_iload_n C 1 dX9_copies_53 rfl rfl ?_
        refine xi_iconst C (v := 2) dX9_copies_54 rfl ?_
        refine xi_icmp_ge C 76 h_v1_53 (by decide) dX9_copies_55 (by decide) (fun z5 => ?_) (fun z5 => ?_)
        · replace h := h.1 z5
          exact xi_sub [0] rfl (hj76 S53 h hw53)
        · replace h := h.2 z5
          refine xi_aload_n C 0 dX9_copies_58 rfl rfl ?_
          refine xi_getR C xK_X9 (q := 54) (r := 81) rfl 41 (by decide) (ki := 41) rfl xl_X9_91 rfl dX9_copies_59 ?_
          refine xi_iload_n C 1 dX9_copies_62 rfl rfl ?_
          refine xi_aload_n C 0 dX9_copies_63 rfl rfl ?_
          refine xi_getR C xK_X9 (q := 54) (r := 77) rfl 37 (by decide) (ki := 37) rfl xl_X9_79 rfl dX9_copies_64 ?_
          refine xi_iload_n C 1 dX9_copies_67 rfl rfl ?_
          obtain ⟨hc6, h⟩ := h
          refine xi_iaload C (q := 77) rfl (by decide) hc6 dX9_copies_68 ?_
          refine xi_iastore C (q := 81) rfl (by decide) hc6 dX9_copies_69 ?_
          have hw7 := xval.up (q := 81) (i := v1_53) (v := S53 77 v1_53) hw53 rfl (xval.i (q := 77) (i := v1_53) hw53 hc6.1 rfl)
          refine xi_iinc C (L' := [(1, .int (iN (v1_53 + 1))), (0, .ref (ad 54))]) 1 dX9_copies_70 rfl (by decide) rfl ?_
          refine xi_goto C 53 dX9_copies_73 (by decide) ?_
          obtain ⟨hc8, h⟩ := h
          exact xi_sub [1, 0] rfl (hk53 (v1_53 + 1) (xup S53 81 v1_53 (S53 77 v1_53)) h hc8 hw7)
    · refine xi_sub [1, 0] rfl (xW1 (fun v1_27 S27 => xR v1_27 → xval (gC D ca ad tF) S27 → xV (gC D ca ad tF) p l e ({ frames := 0, cells := 0, slots := 0, locals := 0 }) s m args below meth c A 2 Z 0 0 27 [(0, .ref (ad 54)), (1, .int (iN v1_27))] [] S27) h (fun k27 hk27 v1_27 S27 h h_v1_27 hw27 => ?_) (by decide) hw25)
      unfold w_X9_copies_L27 at h
      refine xi_iload_n C 1 dX9_copies_27 rfl rfl ?_
      refine xi_bipush C (v := 9) dX9_copies_28 (by decide +kernel) ?_
      refine xi_icmp_ge C 51 h_v1_27 (by decide) dX9_copies_30 (by decide) (fun z9 => ?_) (fun z9 => ?_)
      · replace h := h.1 z9
        exact xi_sub [0] rfl (hj51 S27 h hw27)
      · replace h := h.2 z9
        refine xi_aload_n C 0 dX9_copies_33 rfl rfl ?_
        refine xi_getR C xK_X9 (q := 54) (r := 80) rfl 40 (by decide) (ki := 40) rfl xl_X9_88 rfl dX9_copies_34 ?_
        refine xi_iload_n C 1 dX9_copies_37 rfl rfl ?_
        refine xi_aload_n C 0 dX9_copies_38 rfl rfl ?_
        refine xi_getR C xK_X9 (q := 54) (r := 76) rfl 36 (by decide) (ki := 36) rfl xl_X9_76 rfl dX9_copies_39 ?_
        refine xi_iload_n C 1 dX9_copies_42 rfl rfl ?_
        obtain ⟨hc10, h⟩ := h
        refine xi_iaload C (q := 76) rfl (by decide) hc10 dX9_copies_43 ?_
        refine xi_iastore C (q := 80) rfl (by decide) hc10 dX9_copies_44 ?_
        have hw11 := xval.up (q := 80) (i := v1_27) (v := S27 76 v1_27) hw27 rfl (xval.i (q := 76) (i := v1_27) hw27 hc10.1 rfl)
        refine xi_iinc C (L' := [(1, .int (iN (v1_27 + 1))), (0, .ref (ad 54))]) 1 dX9_copies_45 rfl (by decide) rfl ?_
        refine xi_goto C 27 dX9_copies_48 (by decide) ?_
        obtain ⟨hc12, h⟩ := h
        exact xi_sub [1, 0] rfl (hk27 (v1_27 + 1) (xup S27 80 v1_27 (S27 76 v1_27)) h hc12 hw11)
  · refine xi_sub [1, 0] rfl (xW1 (fun v1_2 S2 => xR v1_2 → xval (gC D ca ad tF) S2 → xV (gC D ca ad tF) p l e ({ frames := 0, cells := 0, slots := 0, locals := 0 }) s m args below meth c A 2 Z 0 0 2 [(0, .ref (ad 54)), (1, .int (iN v1_2))] [] S2) h (fun k2 hk2 v1_2 S2 h h_v1_2 hw2 => ?_) (by decide) hw)
    unfold w_X9_copies_L2 at h
    refine xi_iload_n C 1 dX9_copies_2 rfl rfl ?_
    refine xi_iconst C (v := 3) dX9_copies_3 rfl ?_
    refine xi_icmp_ge C 25 h_v1_2 (by decide) dX9_copies_4 (by decide) (fun z13 => ?_) (fun z13 => ?_)
    · replace h := h.1 z13
      exact xi_sub [0] rfl (hj25 S2 h hw2)
    · replace h := h.2 z13
      refine xi_aload_n C 0 dX9_copies_7 rfl rfl ?_
      refine xi_getR C xK_X9 (q := 54) (r := 79) rfl 39 (by decide) (ki := 39) rfl xl_X9_85 rfl dX9_copies_8 ?_
      refine xi_iload_n C 1 dX9_copies_11 rfl rfl ?_
      refine xi_aload_n C 0 dX9_copies_12 rfl rfl ?_
      refine xi_getR C xK_X9 (q := 54) (r := 75) rfl 35 (by decide) (ki := 35) rfl xl_X9_73 rfl dX9_copies_13 ?_
      refine xi_iload_n C 1 dX9_copies_16 rfl rfl ?_
      obtain ⟨hc14, h⟩ := h
      refine xi_iaload C (q := 75) rfl (by decide) hc14 dX9_copies_17 ?_
      refine xi_iastore C (q := 79) rfl (by decide) hc14 dX9_copies_18 ?_
      have hw15 := xval.up (q := 79) (i := v1_2) (v := S2 75 v1_2) hw2 rfl (xval.i (q := 75) (i := v1_2) hw2 hc14.1 rfl)
      refine xi_iinc C (L' := [(1, .int (iN (v1_2 + 1))), (0, .ref (ad 54))]) 1 dX9_copies_19 rfl (by decide) rfl ?_
      refine xi_goto C 2 dX9_copies_22 (by decide) ?_
      obtain ⟨hc16, h⟩ := h
      exact xi_sub [1, 0] rfl (hk2 (v1_2 + 1) (xup S2 79 v1_2 (S2 75 v1_2)) h hc16 hw15)
set_option maxRecDepth 100000 in
set_option maxHeartbeats 4000000 in
theorem c_X9_makes (l : Launch) (D : va_G) (ca : Nat → ClassId) (ad : Nat → Nat) (tF : Nat) (a1 : Int) (S : xS) (Q : xS → Prop) (h_a1 : xR a1) (h : w_X9_makes a1 S Q) : xM l yX9_makes (xws yX9_makes cX9_makes 5 (none)) ({ frames := 1, cells := 0, slots := 0, locals := 21 }) (gC D ca ad tF) [.ref (ad 54), .int (iN a1)] S (xQv Q) 0 0 := by
  refine xm_of RX9 rfl (by decide +kernel) (Nat.le_of_ble_eq_true rfl) ?_
  intro p e s m args below meth c A Z C hA hZ hr hlocks hw
  unfold w_X9_makes at h
  show xV (gC D ca ad tF) p l e ({ frames := 1, cells := 0, slots := 0, locals := 21 }) s m args below meth c A 5 Z 0 0 0 [(0, .ref (ad 54)), (1, .int (iN a1))] [] S
  refine xi_bipush C (v := 14) dX9_makes_0 (by decide +kernel) ?_
  refine xi_aload_n C 0 dX9_makes_2 rfl rfl ?_
  refine xi_getR C xK_X9 (q := 54) (r := 83) rfl 43 (by decide) (ki := 43) rfl xl_X9_97 rfl dX9_makes_3 ?_
  refine xi_iload_n C 1 dX9_makes_6 rfl rfl ?_
  obtain ⟨hc1, h⟩ := h
  refine xi_iaload C (q := 83) rfl (by decide) hc1 dX9_makes_7 ?_
  refine xi_imul C dX9_makes_8 ?_
  refine xi_aload_n C 0 dX9_makes_9 rfl rfl ?_
  refine xi_getR C xK_X9 (q := 54) (r := 84) rfl 44 (by decide) (ki := 44) rfl xl_X9_100 rfl dX9_makes_10 ?_
  refine xi_iload_n C 1 dX9_makes_13 rfl rfl ?_
  refine xi_iaload C (q := 84) rfl (by decide) hc1 dX9_makes_14 ?_
  refine xi_iadd C dX9_makes_15 ?_
  refine xi_istore_n C (L' := [(2, .int (iN ((14 * (S 83 a1)) + (S 84 a1)))), (0, .ref (ad 54)), (1, .int (iN a1))]) dX9_makes_16 rfl (by decide) rfl ?_
  refine xi_aload_n C 1 dX9_makes_17 rfl rfl ?_
  refine xi_getR C xK_X9 (q := 54) (r := 59) rfl 19 (by decide) (ki := 19) rfl xl_X9_22 rfl dX9_makes_18 ?_
  refine xi_iload_n C 0 dX9_makes_21 rfl rfl ?_
  obtain ⟨hc2, h⟩ := h
  refine xi_iaload C (q := 59) rfl (by decide) hc2 dX9_makes_22 ?_
  refine xi_istore_n C (L' := [(3, .int (iN (S 59 ((14 * (S 83 a1)) + (S 84 a1))))), (2, .int (iN ((14 * (S 83 a1)) + (S 84 a1)))), (0, .ref (ad 54)), (1, .int (iN a1))]) dX9_makes_23 rfl (by decide) rfl ?_
  refine xi_aload_n C 2 dX9_makes_24 rfl rfl ?_
  refine xc_Vv C hw (c_X9_copies l D ca ad tF S _ h) xk_X9_copies xv_X9_copies xl_X9_184 ⟨Nat.le_of_ble_eq_true rfl, Nat.le_of_ble_eq_true rfl⟩ xK_X9 (q := 54) rfl rfl rfl (Nat.le_of_ble_eq_true rfl) ⟨Nat.le_of_ble_eq_true rfl, Nat.le_of_ble_eq_true rfl⟩ dX9_makes_25 (fun S25 h hw3 => ?_)
  refine xi_aload_n C 2 dX9_makes_28 rfl rfl ?_
  refine xi_getR C xK_X9 (q := 54) (r := 79) rfl 39 (by decide) (ki := 39) rfl xl_X9_85 rfl dX9_makes_29 ?_
  refine xi_aload_n C 2 dX9_makes_32 rfl rfl ?_
  refine xi_getR C xK_X9 (q := 54) (r := 83) rfl 43 (by decide) (ki := 43) rfl xl_X9_97 rfl dX9_makes_33 ?_
  refine xi_iload_n C 3 dX9_makes_36 rfl rfl ?_
  refine xi_iaload C (q := 83) rfl (by decide) hc1 dX9_makes_37 ?_
  refine xi_aload_n C 2 dX9_makes_38 rfl rfl ?_
  refine xi_getR C xK_X9 (q := 54) (r := 57) rfl 17 (by decide) (ki := 17) rfl xl_X9_16 rfl dX9_makes_39 ?_
  refine xi_iload_n C 1 dX9_makes_42 rfl rfl ?_
  refine xi_iaload C (q := 57) rfl (by decide) hc2 dX9_makes_43 ?_
  obtain ⟨hc4, h⟩ := h
  refine xi_iastore C (q := 79) rfl (by decide) hc4 dX9_makes_44 ?_
  have hw5 := xval.up (q := 79) (i := S25 83 a1) (v := S25 57 ((14 * (S 83 a1)) + (S 84 a1))) hw3 rfl (xval.i (q := 57) (i := (14 * (S 83 a1)) + (S 84 a1)) hw3 hc2.1 rfl)
  refine xi_aload_n C 2 dX9_makes_45 rfl rfl ?_
  refine xi_getR C xK_X9 (q := 54) (r := 85) rfl 45 (by decide) (ki := 45) rfl xl_X9_103 rfl dX9_makes_46 ?_
  refine xi_iload_n C 3 dX9_makes_49 rfl rfl ?_
  refine xi_iaload C (q := 85) rfl (by decide) hc1 dX9_makes_50 ?_
  refine xi_iconst C (v := (-1)) dX9_makes_51 rfl ?_
  refine xi_icmp_eq C 115 (xval.i (q := 85) (i := a1) hw5 hc1.1 rfl) (by decide) dX9_makes_52 (by decide) (fun z6 => ?_) (fun z6 => ?_)
  · replace h := h.1 z6
    refine xi_aload_n C 2 dX9_makes_115 rfl rfl ?_
    refine xi_getR C xK_X9 (q := 54) (r := 58) rfl 18 (by decide) (ki := 18) rfl xl_X9_19 rfl dX9_makes_116 ?_
    refine xi_iload_n C 1 dX9_makes_119 rfl rfl ?_
    refine xi_iaload C (q := 58) rfl (by decide) hc2 dX9_makes_120 ?_
    refine xi_bipush C (v := 115) dX9_makes_121 (by decide +kernel) ?_
    refine xJ0_w (fun  S138 => xval (gC D ca ad tF) S138 → xV (gC D ca ad tF) p l e ({ frames := 1, cells := 0, slots := 0, locals := 21 }) s m args below meth c A 5 Z 0 0 138 [(0, .ref (ad 54)), (2, .int (iN ((14 * (S 83 a1)) + (S 84 a1)))), (3, .int (iN (S 59 ((14 * (S 83 a1)) + (S 84 a1)))))] [] S138) h (fun  S138 h  hw138 => ?_) (fun j138 hj138 h => ?_)
    · unfold w_X9_makes_J138 at h
      refine xi_aload_n C 0 dX9_makes_138 rfl rfl ?_
      refine xi_getR C xK_X9 (q := 54) (r := 58) rfl 18 (by decide) (ki := 18) rfl xl_X9_19 rfl dX9_makes_139 ?_
      refine xi_iload_n C 1 dX9_makes_142 rfl rfl ?_
      refine xi_iaload C (q := 58) rfl (by decide) hc2 dX9_makes_143 ?_
      refine xi_bipush C (v := 105) dX9_makes_144 (by decide +kernel) ?_
      refine xJ0_w (fun  S170 => xval (gC D ca ad tF) S170 → xV (gC D ca ad tF) p l e ({ frames := 1, cells := 0, slots := 0, locals := 21 }) s m args below meth c A 5 Z 0 0 170 [(0, .ref (ad 54)), (2, .int (iN ((14 * (S 83 a1)) + (S 84 a1)))), (3, .int (iN (S 59 ((14 * (S 83 a1)) + (S 84 a1)))))] [] S170) h (fun  S170 h  hw170 => ?_) (fun j170 hj170 h => ?_)
      · unfold w_X9_makes_J170 at h
        refine xi_aload_n C 0 dX9_makes_170 rfl rfl ?_
        refine xi_getR C xK_X9 (q := 54) (r := 58) rfl 18 (by decide) (ki := 18) rfl xl_X9_19 rfl dX9_makes_171 ?_
        refine xi_iload_n C 1 dX9_makes_174 rfl rfl ?_
        refine xi_iaload C (q := 58) rfl (by decide) hc2 dX9_makes_175 ?_
        refine xi_bipush C (v := 119) dX9_makes_176 (by decide +kernel) ?_
        refine xJ0_w (fun  S217 => xval (gC D ca ad tF) S217 → xV (gC D ca ad tF) p l e ({ frames := 1, cells := 0, slots := 0, locals := 21 }) s m args below meth c A 5 Z 0 0 217 [(0, .ref (ad 54)), (2, .int (iN ((14 * (S 83 a1)) + (S 84 a1)))), (3, .int (iN (S 59 ((14 * (S 83 a1)) + (S 84 a1)))))] [] S217) h (fun  S217 h  hw217 => ?_) (fun j217 hj217 h => ?_)
        · unfold w_X9_makes_J217 at h
          refine xi_aload_n C 0 dX9_makes_217 rfl rfl ?_
          refine xi_getR C xK_X9 (q := 54) (r := 58) rfl 18 (by decide) (ki := 18) rfl xl_X9_19 rfl dX9_makes_218 ?_
          refine xi_iload_n C 1 dX9_makes_221 rfl rfl ?_
          refine xi_iaload C (q := 58) rfl (by decide) hc2 dX9_makes_222 ?_
          refine xi_bipush C (v := 114) dX9_makes_223 (by decide +kernel) ?_
          refine xi_icmp_ne C 286 (xval.i (q := 58) (i := (14 * (S 83 a1)) + (S 84 a1)) hw217 hc2.1 rfl) (by decide) dX9_makes_225 (by decide) (fun z10 => ?_) (fun z10 => ?_)
          · replace h := h.1 z10
            exact xr_v C hA hZ hr hlocks dX9_makes_286 (Nat.le_of_ble_eq_true rfl) (Nat.le_of_ble_eq_true rfl) hw217 ⟨rfl, h⟩
          · replace h := h.2 z10
            refine xi_aload_n C 0 dX9_makes_228 rfl rfl ?_
            refine xi_getR C xK_X9 (q := 54) (r := 80) rfl 40 (by decide) (ki := 40) rfl xl_X9_88 rfl dX9_makes_229 ?_
            refine xi_aload_n C 0 dX9_makes_232 rfl rfl ?_
            refine xi_getR C xK_X9 (q := 54) (r := 60) rfl 20 (by decide) (ki := 20) rfl xl_X9_25 rfl dX9_makes_233 ?_
            refine xi_iload_n C 1 dX9_makes_236 rfl rfl ?_
            refine xi_iaload C (q := 60) rfl (by decide) hc2 dX9_makes_237 ?_
            refine xi_aload_n C 0 dX9_makes_238 rfl rfl ?_
            refine xi_getR C xK_X9 (q := 54) (r := 78) rfl 38 (by decide) (ki := 38) rfl xl_X9_82 rfl dX9_makes_239 ?_
            refine xi_iconst C (v := 2) dX9_makes_242 rfl ?_
            refine xi_iload_n C 2 dX9_makes_243 rfl rfl ?_
            refine xi_imul C dX9_makes_244 ?_
            obtain ⟨hc11, h⟩ := h
            refine xi_iaload C (q := 78) rfl (by decide) hc11 dX9_makes_245 ?_
            obtain ⟨hc12, h⟩ := h
            refine xi_iastore C (q := 80) rfl (by decide) hc12 dX9_makes_246 ?_
            have hw13 := xval.up (q := 80) (i := S217 60 ((14 * (S 83 a1)) + (S 84 a1))) (v := S217 78 (2 * (S 59 ((14 * (S 83 a1)) + (S 84 a1))))) hw217 rfl (xval.i (q := 78) (i := 2 * (S 59 ((14 * (S 83 a1)) + (S 84 a1)))) hw217 hc11.1 rfl)
            refine xi_aload_n C 0 dX9_makes_247 rfl rfl ?_
            refine xi_getR C xK_X9 (q := 54) (r := 82) rfl 42 (by decide) (ki := 42) rfl xl_X9_94 rfl dX9_makes_248 ?_
            refine xi_iconst C (v := 2) dX9_makes_251 rfl ?_
            refine xi_iload_n C 2 dX9_makes_252 rfl rfl ?_
            refine xi_imul C dX9_makes_253 ?_
            refine xi_aload_n C 0 dX9_makes_254 rfl rfl ?_
            refine xi_getR C xK_X9 (q := 54) (r := 78) rfl 38 (by decide) (ki := 38) rfl xl_X9_82 rfl dX9_makes_255 ?_
            refine xi_iconst C (v := 2) dX9_makes_258 rfl ?_
            refine xi_iload_n C 2 dX9_makes_259 rfl rfl ?_
            refine xi_imul C dX9_makes_260 ?_
            refine xi_iconst C (v := 1) dX9_makes_261 rfl ?_
            refine xi_iadd C dX9_makes_262 ?_
            obtain ⟨hc14, h⟩ := h
            refine xi_iaload C (q := 78) rfl (by decide) hc14 dX9_makes_263 ?_
            refine xi_iastore C (q := 82) rfl (by decide) hc11 dX9_makes_264 ?_
            have hw15 := xval.up (q := 82) (i := 2 * (S 59 ((14 * (S 83 a1)) + (S 84 a1)))) (v := S217 78 ((2 * (S 59 ((14 * (S 83 a1)) + (S 84 a1)))) + 1)) hw13 rfl (xval.i (q := 78) (i := (2 * (S 59 ((14 * (S 83 a1)) + (S 84 a1)))) + 1) hw13 hc14.1 rfl)
            refine xi_aload_n C 0 dX9_makes_265 rfl rfl ?_
            refine xi_getR C xK_X9 (q := 54) (r := 82) rfl 42 (by decide) (ki := 42) rfl xl_X9_94 rfl dX9_makes_266 ?_
            refine xi_iconst C (v := 2) dX9_makes_269 rfl ?_
            refine xi_iload_n C 2 dX9_makes_270 rfl rfl ?_
            refine xi_imul C dX9_makes_271 ?_
            refine xi_iconst C (v := 1) dX9_makes_272 rfl ?_
            refine xi_iadd C dX9_makes_273 ?_
            refine xi_iconst C (v := 0) dX9_makes_274 rfl ?_
            refine xi_iastore C (q := 82) rfl (by decide) hc14 dX9_makes_275 ?_
            have hw16 := xval.up (q := 82) (i := (2 * (S 59 ((14 * (S 83 a1)) + (S 84 a1)))) + 1) (v := 0) hw15 rfl (by decide)
            refine xi_aload_n C 0 dX9_makes_276 rfl rfl ?_
            refine xi_getR C xK_X9 (q := 54) (r := 81) rfl 41 (by decide) (ki := 41) rfl xl_X9_91 rfl dX9_makes_277 ?_
            refine xi_iload_n C 2 dX9_makes_280 rfl rfl ?_
            refine xi_dup2 C dX9_makes_281 rfl rfl ?_
            obtain ⟨hc17, h⟩ := h
            refine xi_iaload C (q := 81) rfl (by decide) hc17 dX9_makes_282 ?_
            refine xi_iconst C (v := 1) dX9_makes_283 rfl ?_
            refine xi_isub C dX9_makes_284 ?_
            obtain ⟨hc18, h⟩ := h
            refine xi_iastore C (q := 81) rfl (by decide) hc17 dX9_makes_285 ?_
            have hw19 := xval.up (q := 81) (i := S 59 ((14 * (S 83 a1)) + (S 84 a1))) (v := (S217 81 (S 59 ((14 * (S 83 a1)) + (S 84 a1)))) - 1) hw16 rfl hc18
            exact xr_v C hA hZ hr hlocks dX9_makes_286 (Nat.le_of_ble_eq_true rfl) (Nat.le_of_ble_eq_true rfl) hw19 ⟨rfl, h⟩
        · refine xi_icmp_ne C 217 (xval.i (q := 58) (i := (14 * (S 83 a1)) + (S 84 a1)) hw170 hc2.1 rfl) (by decide) dX9_makes_178 (by decide) (fun z9 => ?_) (fun z9 => ?_)
          · replace h := h.1 z9
            exact xi_sub [0, 1, 2] rfl (hj217 S170 h hw170)
          · replace h := h.2 z9
            refine xi_aload_n C 0 dX9_makes_181 rfl rfl ?_
            refine xi_getR C xK_X9 (q := 54) (r := 82) rfl 42 (by decide) (ki := 42) rfl xl_X9_94 rfl dX9_makes_182 ?_
            refine xi_iconst C (v := 2) dX9_makes_185 rfl ?_
            refine xi_iload_n C 2 dX9_makes_186 rfl rfl ?_
            refine xi_imul C dX9_makes_187 ?_
            refine xi_aload_n C 0 dX9_makes_188 rfl rfl ?_
            refine xi_getR C xK_X9 (q := 54) (r := 77) rfl 37 (by decide) (ki := 37) rfl xl_X9_79 rfl dX9_makes_189 ?_
            refine xi_iload_n C 2 dX9_makes_192 rfl rfl ?_
            obtain ⟨hc20, h⟩ := h
            refine xi_iaload C (q := 77) rfl (by decide) hc20 dX9_makes_193 ?_
            refine xi_iadd C dX9_makes_194 ?_
            refine xi_aload_n C 0 dX9_makes_195 rfl rfl ?_
            refine xi_getR C xK_X9 (q := 54) (r := 76) rfl 36 (by decide) (ki := 36) rfl xl_X9_76 rfl dX9_makes_196 ?_
            refine xi_aload_n C 0 dX9_makes_199 rfl rfl ?_
            refine xi_getR C xK_X9 (q := 54) (r := 60) rfl 20 (by decide) (ki := 20) rfl xl_X9_25 rfl dX9_makes_200 ?_
            refine xi_iload_n C 1 dX9_makes_203 rfl rfl ?_
            refine xi_iaload C (q := 60) rfl (by decide) hc2 dX9_makes_204 ?_
            obtain ⟨hc21, h⟩ := h
            refine xi_iaload C (q := 76) rfl (by decide) hc21 dX9_makes_205 ?_
            obtain ⟨hc22, h⟩ := h
            refine xi_iastore C (q := 82) rfl (by decide) hc22 dX9_makes_206 ?_
            have hw23 := xval.up (q := 82) (i := (2 * (S 59 ((14 * (S 83 a1)) + (S 84 a1)))) + (S170 77 (S 59 ((14 * (S 83 a1)) + (S 84 a1))))) (v := S170 76 (S170 60 ((14 * (S 83 a1)) + (S 84 a1)))) hw170 rfl (xval.i (q := 76) (i := S170 60 ((14 * (S 83 a1)) + (S 84 a1))) hw170 hc21.1 rfl)
            refine xi_aload_n C 0 dX9_makes_207 rfl rfl ?_
            refine xi_getR C xK_X9 (q := 54) (r := 81) rfl 41 (by decide) (ki := 41) rfl xl_X9_91 rfl dX9_makes_208 ?_
            refine xi_iload_n C 2 dX9_makes_211 rfl rfl ?_
            refine xi_dup2 C dX9_makes_212 rfl rfl ?_
            refine xi_iaload C (q := 81) rfl (by decide) hc20 dX9_makes_213 ?_
            refine xi_iconst C (v := 1) dX9_makes_214 rfl ?_
            refine xi_iadd C dX9_makes_215 ?_
            obtain ⟨hc24, h⟩ := h
            refine xi_iastore C (q := 81) rfl (by decide) hc20 dX9_makes_216 ?_
            have hw25 := xval.up (q := 81) (i := S 59 ((14 * (S 83 a1)) + (S 84 a1))) (v := (S170 81 (S 59 ((14 * (S 83 a1)) + (S 84 a1)))) + 1) hw23 rfl hc24
            exact xi_sub [0, 1, 2] rfl (hj217 (xup (xup S170 82 ((2 * (S 59 ((14 * (S 83 a1)) + (S 84 a1)))) + (S170 77 (S 59 ((14 * (S 83 a1)) + (S 84 a1))))) (S170 76 (S170 60 ((14 * (S 83 a1)) + (S 84 a1))))) 81 (S 59 ((14 * (S 83 a1)) + (S 84 a1))) ((S170 81 (S 59 ((14 * (S 83 a1)) + (S 84 a1)))) + 1)) h hw25)
      · refine xi_icmp_ne C 170 (xval.i (q := 58) (i := (14 * (S 83 a1)) + (S 84 a1)) hw138 hc2.1 rfl) (by decide) dX9_makes_146 (by decide) (fun z8 => ?_) (fun z8 => ?_)
        · replace h := h.1 z8
          exact xi_sub [0, 1, 2] rfl (hj170 S138 h hw138)
        · replace h := h.2 z8
          refine xi_aload_n C 0 dX9_makes_149 rfl rfl ?_
          refine xi_getR C xK_X9 (q := 54) (r := 80) rfl 40 (by decide) (ki := 40) rfl xl_X9_88 rfl dX9_makes_150 ?_
          refine xi_iload_n C 2 dX9_makes_153 rfl rfl ?_
          refine xi_aload_n C 0 dX9_makes_154 rfl rfl ?_
          refine xi_getR C xK_X9 (q := 54) (r := 76) rfl 36 (by decide) (ki := 36) rfl xl_X9_76 rfl dX9_makes_155 ?_
          refine xi_iload_n C 2 dX9_makes_158 rfl rfl ?_
          obtain ⟨hc26, h⟩ := h
          refine xi_iaload C (q := 76) rfl (by decide) hc26 dX9_makes_159 ?_
          refine xi_aload_n C 0 dX9_makes_160 rfl rfl ?_
          refine xi_getR C xK_X9 (q := 54) (r := 60) rfl 20 (by decide) (ki := 20) rfl xl_X9_25 rfl dX9_makes_161 ?_
          refine xi_iload_n C 1 dX9_makes_164 rfl rfl ?_
          refine xi_iaload C (q := 60) rfl (by decide) hc2 dX9_makes_165 ?_
          refine xi_iadd C dX9_makes_166 ?_
          refine xi_iconst C (v := 4) dX9_makes_167 rfl ?_
          obtain ⟨hc27, h⟩ := h
          obtain ⟨hc28, h⟩ := h
          refine xi_irem C hc27 hc28 (by decide) (by decide) dX9_makes_168 ?_
          refine xi_iastore C (q := 80) rfl (by decide) hc26 dX9_makes_169 ?_
          have hw29 := xval.up (q := 80) (i := S 59 ((14 * (S 83 a1)) + (S 84 a1))) (v := ((S138 76 (S 59 ((14 * (S 83 a1)) + (S 84 a1)))) + (S138 60 ((14 * (S 83 a1)) + (S 84 a1)))) % 4) hw138 rfl (xR_mod hc27 hc28 (by decide) (by decide))
          exact xi_sub [0, 1, 2] rfl (hj170 (xup S138 80 (S 59 ((14 * (S 83 a1)) + (S 84 a1))) (((S138 76 (S 59 ((14 * (S 83 a1)) + (S 84 a1)))) + (S138 60 ((14 * (S 83 a1)) + (S 84 a1)))) % 4)) h hw29)
    · refine xi_icmp_ne C 138 (xval.i (q := 58) (i := (14 * (S 83 a1)) + (S 84 a1)) hw5 hc2.1 rfl) (by decide) dX9_makes_123 (by decide) (fun z7 => ?_) (fun z7 => ?_)
      · replace h := h.1 z7
        exact xi_sub [2, 1, 0] rfl (hj138 (xup S25 79 (S25 83 a1) (S25 57 ((14 * (S 83 a1)) + (S 84 a1)))) h hw5)
      · replace h := h.2 z7
        refine xi_aload_n C 2 dX9_makes_126 rfl rfl ?_
        refine xi_getR C xK_X9 (q := 54) (r := 80) rfl 40 (by decide) (ki := 40) rfl xl_X9_88 rfl dX9_makes_127 ?_
        refine xi_iload_n C 0 dX9_makes_130 rfl rfl ?_
        refine xi_aload_n C 2 dX9_makes_131 rfl rfl ?_
        refine xi_getR C xK_X9 (q := 54) (r := 60) rfl 20 (by decide) (ki := 20) rfl xl_X9_25 rfl dX9_makes_132 ?_
        refine xi_iload_n C 1 dX9_makes_135 rfl rfl ?_
        refine xi_iaload C (q := 60) rfl (by decide) hc2 dX9_makes_136 ?_
        obtain ⟨hc30, h⟩ := h
        refine xi_iastore C (q := 80) rfl (by decide) hc30 dX9_makes_137 ?_
        have hw31 := xval.up (q := 80) (i := S 59 ((14 * (S 83 a1)) + (S 84 a1))) (v := S25 60 ((14 * (S 83 a1)) + (S 84 a1))) hw5 rfl (xval.i (q := 60) (i := (14 * (S 83 a1)) + (S 84 a1)) hw5 hc2.1 rfl)
        exact xi_sub [2, 1, 0] rfl (hj138 (xup (xup S25 79 (S25 83 a1) (S25 57 ((14 * (S 83 a1)) + (S 84 a1)))) 80 (S 59 ((14 * (S 83 a1)) + (S 84 a1))) (S25 60 ((14 * (S 83 a1)) + (S 84 a1)))) h hw31)
  · replace h := h.2 z6
    refine xi_bipush C (v := 14) dX9_makes_55 (by decide +kernel) ?_
    refine xi_aload_n C 2 dX9_makes_57 rfl rfl ?_
    refine xi_getR C xK_X9 (q := 54) (r := 85) rfl 45 (by decide) (ki := 45) rfl xl_X9_103 rfl dX9_makes_58 ?_
    refine xi_iload_n C 3 dX9_makes_61 rfl rfl ?_
    refine xi_iaload C (q := 85) rfl (by decide) hc1 dX9_makes_62 ?_
    refine xi_imul C dX9_makes_63 ?_
    refine xi_aload_n C 2 dX9_makes_64 rfl rfl ?_
    refine xi_getR C xK_X9 (q := 54) (r := 86) rfl 46 (by decide) (ki := 46) rfl xl_X9_106 rfl dX9_makes_65 ?_
    refine xi_iload_n C 3 dX9_makes_68 rfl rfl ?_
    refine xi_iaload C (q := 86) rfl (by decide) hc1 dX9_makes_69 ?_
    refine xi_iadd C dX9_makes_70 ?_
    refine xi_istore C (L' := [(4, .int (iN ((14 * (S25 85 a1)) + (S25 86 a1)))), (3, .int (iN (S 59 ((14 * (S 83 a1)) + (S 84 a1))))), (2, .int (iN ((14 * (S 83 a1)) + (S 84 a1)))), (0, .ref (ad 54)), (1, .int (iN a1))]) dX9_makes_71 (by decide) rfl ?_
    refine xi_aload_n C 3 dX9_makes_73 rfl rfl ?_
    refine xi_getR C xK_X9 (q := 54) (r := 79) rfl 39 (by decide) (ki := 39) rfl xl_X9_85 rfl dX9_makes_74 ?_
    refine xi_aload_n C 3 dX9_makes_77 rfl rfl ?_
    refine xi_getR C xK_X9 (q := 54) (r := 85) rfl 45 (by decide) (ki := 45) rfl xl_X9_103 rfl dX9_makes_78 ?_
    refine xi_iload_n C 4 dX9_makes_81 rfl rfl ?_
    refine xi_iaload C (q := 85) rfl (by decide) hc1 dX9_makes_82 ?_
    refine xi_aload_n C 3 dX9_makes_83 rfl rfl ?_
    refine xi_getR C xK_X9 (q := 54) (r := 57) rfl 17 (by decide) (ki := 17) rfl xl_X9_16 rfl dX9_makes_84 ?_
    refine xi_iload C 0 dX9_makes_87 rfl ?_
    obtain ⟨hc32, h⟩ := h
    refine xi_iaload C (q := 57) rfl (by decide) hc32 dX9_makes_89 ?_
    obtain ⟨hc33, h⟩ := h
    refine xi_iastore C (q := 79) rfl (by decide) hc33 dX9_makes_90 ?_
    have hw34 := xval.up (q := 79) (i := S25 85 a1) (v := S25 57 ((14 * (S25 85 a1)) + (S25 86 a1))) hw5 rfl (xval.i (q := 57) (i := (14 * (S25 85 a1)) + (S25 86 a1)) hw5 hc32.1 rfl)
    refine xi_aload_n C 3 dX9_makes_91 rfl rfl ?_
    refine xi_getR C xK_X9 (q := 54) (r := 80) rfl 40 (by decide) (ki := 40) rfl xl_X9_88 rfl dX9_makes_92 ?_
    refine xi_aload_n C 3 dX9_makes_95 rfl rfl ?_
    refine xi_getR C xK_X9 (q := 54) (r := 60) rfl 20 (by decide) (ki := 20) rfl xl_X9_25 rfl dX9_makes_96 ?_
    refine xi_iload C 0 dX9_makes_99 rfl ?_
    refine xi_iaload C (q := 60) rfl (by decide) hc32 dX9_makes_101 ?_
    refine xi_aload_n C 3 dX9_makes_102 rfl rfl ?_
    refine xi_getR C xK_X9 (q := 54) (r := 76) rfl 36 (by decide) (ki := 36) rfl xl_X9_76 rfl dX9_makes_103 ?_
    refine xi_aload_n C 3 dX9_makes_106 rfl rfl ?_
    refine xi_getR C xK_X9 (q := 54) (r := 60) rfl 20 (by decide) (ki := 20) rfl xl_X9_25 rfl dX9_makes_107 ?_
    refine xi_iload_n C 2 dX9_makes_110 rfl rfl ?_
    refine xi_iaload C (q := 60) rfl (by decide) hc2 dX9_makes_111 ?_
    obtain ⟨hc35, h⟩ := h
    refine xi_iaload C (q := 76) rfl (by decide) hc35 dX9_makes_112 ?_
    obtain ⟨hc36, h⟩ := h
    refine xi_iastore C (q := 80) rfl (by decide) hc36 dX9_makes_113 ?_
    have hw37 := xval.up (q := 80) (i := S25 60 ((14 * (S25 85 a1)) + (S25 86 a1))) (v := S25 76 (S25 60 ((14 * (S 83 a1)) + (S 84 a1)))) hw34 rfl (xval.i (q := 76) (i := S25 60 ((14 * (S 83 a1)) + (S 84 a1))) hw34 hc35.1 rfl)
    exact xr_v C hA hZ hr hlocks dX9_makes_114 (Nat.le_of_ble_eq_true rfl) (Nat.le_of_ble_eq_true rfl) hw37 ⟨rfl, h⟩
set_option maxRecDepth 100000 in
set_option maxHeartbeats 4000000 in
theorem c_X9_indexOf (l : Launch) (D : va_G) (ca : Nat → ClassId) (ad : Nat → Nat) (tF : Nat) (a1 : Int) (S : xS) (Q : Int → xS → Prop) (h_a1 : xRJ a1) (h : w_X9_indexOf a1 S Q) : xM l yX9_indexOf (xws yX9_indexOf cX9_indexOf 4 (some .int)) ({ frames := 1, cells := 0, slots := 0, locals := 21 }) (gC D ca ad tF) [.ref (ad 54), .long (jN a1)] S (xQi Q) 0 0 := by
  refine xm_of RX9 rfl (by decide +kernel) (Nat.le_of_ble_eq_true rfl) ?_
  intro p e s m args below meth c A Z C hA hZ hr hlocks hw
  unfold w_X9_indexOf at h
  show xV (gC D ca ad tF) p l e ({ frames := 1, cells := 0, slots := 0, locals := 21 }) s m args below meth c A 4 Z 0 0 0 [(0, .ref (ad 54)), (1, .long (jN a1))] [] S
  refine xi_lload_n C 1 dX9_indexOf_0 rfl rfl ?_
  refine xc_Si C hw (c_X9_slotOf l D ca ad tF a1 S _ h_a1 h) xk_X9_slotOf xs_X9_slotOf xl_X9_215 ⟨Nat.le_of_ble_eq_true rfl, Nat.le_of_ble_eq_true rfl⟩ rfl rfl (Nat.le_of_ble_eq_true rfl) ⟨Nat.le_of_ble_eq_true rfl, Nat.le_of_ble_eq_true rfl⟩ dX9_indexOf_1 (fun r1 S1 h_r1 h hw1 => ?_)
  refine xi_istore_n C (L' := [(3, .int (iN r1)), (0, .ref (ad 54)), (1, .long (jN a1))]) dX9_indexOf_4 rfl (by decide) rfl ?_
  refine xi_sub [1, 2, 0] rfl (xW1 (fun v3_5 S5 => xR v3_5 → xval (gC D ca ad tF) S5 → xV (gC D ca ad tF) p l e ({ frames := 1, cells := 0, slots := 0, locals := 21 }) s m args below meth c A 4 Z 0 0 5 [(0, .ref (ad 54)), (1, .long (jN a1)), (3, .int (iN v3_5))] [] S5) h (fun k5 hk5 v3_5 S5 h h_v3_5 hw5 => ?_) h_r1 hw1)
  unfold w_X9_indexOf_L5 at h
  refine xi_aload_n C 0 dX9_indexOf_5 rfl rfl ?_
  refine xi_getR C xK_X9 (q := 54) (r := 71) rfl 31 (by decide) (ki := 31) rfl xl_X9_60 rfl dX9_indexOf_6 ?_
  refine xi_iload_n C 2 dX9_indexOf_9 rfl rfl ?_
  obtain ⟨hc2, h⟩ := h
  refine xi_iaload C (q := 71) rfl (by decide) hc2 dX9_indexOf_10 ?_
  refine xi_if_le C 52 (xval.i (q := 71) (i := v3_5) hw5 hc2.1 rfl) dX9_indexOf_11 (by decide) (fun z3 => ?_) (fun z3 => ?_)
  · replace h := h.1 z3
    refine xi_iconst C (v := (-1)) dX9_indexOf_52 rfl ?_
    exact xr_i C hA hZ hr hlocks rfl dX9_indexOf_53 (Nat.le_of_ble_eq_true rfl) (Nat.le_of_ble_eq_true rfl) hw5 ⟨_, rfl, (by decide), h⟩
  · replace h := h.2 z3
    refine xi_aload_n C 0 dX9_indexOf_14 rfl rfl ?_
    refine xi_getR C xK_X9 (q := 54) (r := 67) rfl 27 (by decide) (ki := 27) rfl xl_X9_47 rfl dX9_indexOf_15 ?_
    refine xi_aload_n C 0 dX9_indexOf_18 rfl rfl ?_
    refine xi_getR C xK_X9 (q := 54) (r := 71) rfl 31 (by decide) (ki := 31) rfl xl_X9_60 rfl dX9_indexOf_19 ?_
    refine xi_iload_n C 2 dX9_indexOf_22 rfl rfl ?_
    refine xi_iaload C (q := 71) rfl (by decide) hc2 dX9_indexOf_23 ?_
    refine xi_iconst C (v := 1) dX9_indexOf_24 rfl ?_
    refine xi_isub C dX9_indexOf_25 ?_
    obtain ⟨hc4, h⟩ := h
    refine xi_laload C (q := 67) rfl (by decide) hc4 dX9_indexOf_26 ?_
    refine xi_lload_n C 1 dX9_indexOf_27 rfl rfl ?_
    refine xi_lcmp_ne C 41 (xval.j (q := 67) (i := (S5 71 v3_5) - 1) hw5 hc4.1 rfl) h_a1 dX9_indexOf_28 dX9_indexOf_29 (by decide) (fun z5 => ?_) (fun z5 => ?_)
    · replace h := h.1 z5
      refine xi_iload_n C 2 dX9_indexOf_41 rfl rfl ?_
      refine xi_iconst C (v := 1) dX9_indexOf_42 rfl ?_
      refine xi_iadd C dX9_indexOf_43 ?_
      refine xi_sipush C (v := 8192) dX9_indexOf_44 (by decide +kernel) ?_
      obtain ⟨hc6, h⟩ := h
      obtain ⟨hc7, h⟩ := h
      refine xi_irem C hc6 hc7 (by decide) (by decide) dX9_indexOf_47 ?_
      refine xi_istore_n C (L' := [(3, .int (iN ((v3_5 + 1) % 8192))), (0, .ref (ad 54)), (1, .long (jN a1))]) dX9_indexOf_48 rfl (by decide) rfl ?_
      refine xi_goto C 5 dX9_indexOf_49 (by decide) ?_
      exact xi_sub [1, 2, 0] rfl (hk5 ((v3_5 + 1) % 8192) S5 h (xR_mod hc6 hc7 (by decide) (by decide)) hw5)
    · replace h := h.2 z5
      refine xi_aload_n C 0 dX9_indexOf_32 rfl rfl ?_
      refine xi_getR C xK_X9 (q := 54) (r := 71) rfl 31 (by decide) (ki := 31) rfl xl_X9_60 rfl dX9_indexOf_33 ?_
      refine xi_iload_n C 2 dX9_indexOf_36 rfl rfl ?_
      refine xi_iaload C (q := 71) rfl (by decide) hc2 dX9_indexOf_37 ?_
      refine xi_iconst C (v := 1) dX9_indexOf_38 rfl ?_
      refine xi_isub C dX9_indexOf_39 ?_
      exact xr_i C hA hZ hr hlocks rfl dX9_indexOf_40 (Nat.le_of_ble_eq_true rfl) (Nat.le_of_ble_eq_true rfl) hw5 ⟨_, rfl, (⟨Int.le_trans (by decide) hc4.1, Int.lt_trans hc4.2 (by decide)⟩ : xR ((S5 71 v3_5) - 1)), h⟩
set_option maxRecDepth 100000 in
set_option maxHeartbeats 4000000 in
theorem c_X9_isFound (l : Launch) (D : va_G) (ca : Nat → ClassId) (ad : Nat → Nat) (tF : Nat) (a1 : Int) (S : xS) (Q : Int → xS → Prop) (h_a1 : xRJ a1) (h : w_X9_isFound a1 S Q) : xM l yX9_isFound (xws yX9_isFound cX9_isFound 3 (some .boolean)) ({ frames := 2, cells := 0, slots := 0, locals := 44 }) (gC D ca ad tF) [.ref (ad 54), .long (jN a1)] S (xQi Q) 0 0 := by
  refine xm_of RX9 rfl (by decide +kernel) (Nat.le_of_ble_eq_true rfl) ?_
  intro p e s m args below meth c A Z C hA hZ hr hlocks hw
  unfold w_X9_isFound at h
  show xV (gC D ca ad tF) p l e ({ frames := 2, cells := 0, slots := 0, locals := 44 }) s m args below meth c A 3 Z 0 0 0 [(0, .ref (ad 54)), (1, .long (jN a1))] [] S
  refine xi_aload_n C 0 dX9_isFound_0 rfl rfl ?_
  refine xi_getI C xK_X9 (q := 54) (r := 0) rfl 4 (by decide) (ki := 4) rfl xl_X9_205 rfl dX9_isFound_1 ?_
  refine xi_bipush C (v := 104) dX9_isFound_4 (by decide +kernel) ?_
  refine xi_icmp_ne C 23 (xval.i (q := 54) (i := 4) hw (by decide) rfl) (by decide) dX9_isFound_6 (by decide) (fun z1 => ?_) (fun z1 => ?_)
  · replace h := h.1 z1
    refine xi_aload_n C 0 dX9_isFound_23 rfl rfl ?_
    refine xi_lload_n C 1 dX9_isFound_24 rfl rfl ?_
    refine xc_Vi C hw (c_X9_indexOf l D ca ad tF a1 S _ h_a1 h) xk_X9_indexOf xv_X9_indexOf xl_X9_221 ⟨Nat.le_of_ble_eq_true rfl, Nat.le_of_ble_eq_true rfl⟩ xK_X9 (q := 54) rfl rfl rfl (Nat.le_of_ble_eq_true rfl) ⟨Nat.le_of_ble_eq_true rfl, Nat.le_of_ble_eq_true rfl⟩ dX9_isFound_25 (fun r25 S25 h_r25 h hw2 => ?_)
    refine xi_iconst C (v := (-1)) dX9_isFound_28 rfl ?_
    refine xi_icmp_eq C 36 h_r25 (by decide) dX9_isFound_29 (by decide) (fun z3 => ?_) (fun z3 => ?_)
    · replace h := h.1 z3
      refine xi_iconst C (v := 0) dX9_isFound_36 rfl ?_
      exact xr_i C hA hZ hr hlocks (xnarZ (Or.inl rfl)).1 dX9_isFound_37 (Nat.le_of_ble_eq_true rfl) (Nat.le_of_ble_eq_true rfl) hw2 ⟨_, rfl, (by decide), h⟩
    · replace h := h.2 z3
      refine xi_iconst C (v := 1) dX9_isFound_32 rfl ?_
      refine xi_goto C 37 dX9_isFound_33 (by decide) ?_
      exact xr_i C hA hZ hr hlocks (xnarZ (Or.inr rfl)).1 dX9_isFound_37 (Nat.le_of_ble_eq_true rfl) (Nat.le_of_ble_eq_true rfl) hw2 ⟨_, rfl, (by decide), h⟩
  · replace h := h.2 z1
    refine xi_aload_n C 0 dX9_isFound_9 rfl rfl ?_
    refine xi_getR C xK_X9 (q := 54) (r := 72) rfl 32 (by decide) (ki := 32) rfl xl_X9_63 rfl dX9_isFound_10 ?_
    refine xi_lload_n C 1 dX9_isFound_13 rfl rfl ?_
    refine xi_ldc2 C xl_X9_219 (v := 509) (by decide +kernel) dX9_isFound_14 ?_
    obtain ⟨hc4, h⟩ := h
    refine xi_lrem C h_a1 hc4 (by decide) (by decide) dX9_isFound_17 ?_
    refine xi_l2i C dX9_isFound_18 ?_
    obtain ⟨hc5, h⟩ := h
    refine xi_baload C (q := 72) rfl (by decide) hc5 dX9_isFound_19 ?_
    refine xi_goto C 37 dX9_isFound_20 (by decide) ?_
    obtain ⟨hc6, h⟩ := h
    exact xr_i C hA hZ hr hlocks (xnarZ hc6).1 dX9_isFound_37 (Nat.le_of_ble_eq_true rfl) (Nat.le_of_ble_eq_true rfl) hw ⟨_, rfl, (xval.i (q := 72) (i := a1 % 509) hw hc5.1 rfl), h⟩
set_option maxRecDepth 100000 in
set_option maxHeartbeats 4000000 in
theorem c_X9_doers (l : Launch) (D : va_G) (ca : Nat → ClassId) (ad : Nat → Nat) (tF : Nat) (a1 : Int) (S : xS) (Q : Int → xS → Prop) (h_a1 : xR a1) (h : w_X9_doers a1 S Q) : xM l yX9_doers (xws yX9_doers cX9_doers 2 (some .int)) ({ frames := 0, cells := 0, slots := 0, locals := 0 }) (gC D ca ad tF) [.ref (ad 54), .int (iN a1)] S (xQi Q) 0 0 := by
  refine xm_of RX9 rfl (by decide +kernel) (Nat.le_of_ble_eq_true rfl) ?_
  intro p e s m args below meth c A Z C hA hZ hr hlocks hw
  unfold w_X9_doers at h
  show xV (gC D ca ad tF) p l e ({ frames := 0, cells := 0, slots := 0, locals := 0 }) s m args below meth c A 2 Z 0 0 0 [(0, .ref (ad 54)), (1, .int (iN a1))] [] S
  refine xi_iconst C (v := 1) dX9_doers_0 rfl ?_
  refine xi_aload_n C 0 dX9_doers_1 rfl rfl ?_
  refine xi_getR C xK_X9 (q := 54) (r := 83) rfl 43 (by decide) (ki := 43) rfl xl_X9_97 rfl dX9_doers_2 ?_
  refine xi_iload_n C 1 dX9_doers_5 rfl rfl ?_
  obtain ⟨hc1, h⟩ := h
  refine xi_iaload C (q := 83) rfl (by decide) hc1 dX9_doers_6 ?_
  obtain ⟨hc2, h⟩ := h
  refine xi_ishl C hc2 dX9_doers_7 ?_
  refine xi_aload_n C 0 dX9_doers_8 rfl rfl ?_
  refine xi_getR C xK_X9 (q := 54) (r := 85) rfl 45 (by decide) (ki := 45) rfl xl_X9_103 rfl dX9_doers_9 ?_
  refine xi_iload_n C 1 dX9_doers_12 rfl rfl ?_
  refine xi_iaload C (q := 85) rfl (by decide) hc1 dX9_doers_13 ?_
  refine xi_iconst C (v := (-1)) dX9_doers_14 rfl ?_
  refine xi_icmp_ne C 22 (xval.i (q := 85) (i := a1) hw hc1.1 rfl) (by decide) dX9_doers_15 (by decide) (fun z3 => ?_) (fun z3 => ?_)
  · replace h := h.1 z3
    refine xi_iconst C (v := 1) dX9_doers_22 rfl ?_
    refine xi_aload_n C 0 dX9_doers_23 rfl rfl ?_
    refine xi_getR C xK_X9 (q := 54) (r := 85) rfl 45 (by decide) (ki := 45) rfl xl_X9_103 rfl dX9_doers_24 ?_
    refine xi_iload_n C 1 dX9_doers_27 rfl rfl ?_
    refine xi_iaload C (q := 85) rfl (by decide) hc1 dX9_doers_28 ?_
    obtain ⟨hc4, h⟩ := h
    refine xi_ishl C hc4 dX9_doers_29 ?_
    refine xi_ior C dX9_doers_30 ?_
    exact xr_i C hA hZ hr hlocks rfl dX9_doers_31 (Nat.le_of_ble_eq_true rfl) (Nat.le_of_ble_eq_true rfl) hw ⟨_, rfl, (xor32_R _ _), h⟩
  · replace h := h.2 z3
    refine xi_iconst C (v := 0) dX9_doers_18 rfl ?_
    refine xi_goto C 30 dX9_doers_19 (by decide) ?_
    refine xi_ior C dX9_doers_30 ?_
    exact xr_i C hA hZ hr hlocks rfl dX9_doers_31 (Nat.le_of_ble_eq_true rfl) (Nat.le_of_ble_eq_true rfl) hw ⟨_, rfl, (xor32_R _ _), h⟩
set_option maxRecDepth 100000 in
set_option maxHeartbeats 4000000 in
theorem c_X9_isOwnStep (l : Launch) (D : va_G) (ca : Nat → ClassId) (ad : Nat → Nat) (tF : Nat) (a1 : Int) (a2 : Int) (S : xS) (Q : Int → xS → Prop) (h_a1 : xR a1) (h_a2 : xR a2) (h : w_X9_isOwnStep a1 a2 S Q) : xM l yX9_isOwnStep (xws yX9_isOwnStep cX9_isOwnStep 4 (some .boolean)) ({ frames := 0, cells := 0, slots := 0, locals := 0 }) (gC D ca ad tF) [.ref (ad 54), .int (iN a1), .int (iN a2)] S (xQi Q) 0 0 := by
  refine xm_of RX9 rfl (by decide +kernel) (Nat.le_of_ble_eq_true rfl) ?_
  intro p e s m args below meth c A Z C hA hZ hr hlocks hw
  unfold w_X9_isOwnStep at h
  show xV (gC D ca ad tF) p l e ({ frames := 0, cells := 0, slots := 0, locals := 0 }) s m args below meth c A 4 Z 0 0 0 [(0, .ref (ad 54)), (1, .int (iN a1)), (2, .int (iN a2))] [] S
  refine xi_aload_n C 0 dX9_isOwnStep_0 rfl rfl ?_
  refine xi_getR C xK_X9 (q := 54) (r := 58) rfl 18 (by decide) (ki := 18) rfl xl_X9_19 rfl dX9_isOwnStep_1 ?_
  refine xi_iload_n C 2 dX9_isOwnStep_4 rfl rfl ?_
  obtain ⟨hc1, h⟩ := h
  refine xi_iaload C (q := 58) rfl (by decide) hc1 dX9_isOwnStep_5 ?_
  refine xi_istore_n C (L' := [(3, .int (iN (S 58 a2))), (0, .ref (ad 54)), (1, .int (iN a1)), (2, .int (iN a2))]) dX9_isOwnStep_6 rfl (by decide) rfl ?_
  refine xi_iload_n C 0 dX9_isOwnStep_7 rfl rfl ?_
  refine xi_bipush C (v := 107) dX9_isOwnStep_8 (by decide +kernel) ?_
  refine xi_icmp_ne C 15 (xval.i (q := 58) (i := a2) hw hc1.1 rfl) (by decide) dX9_isOwnStep_10 (by decide) (fun z2 => ?_) (fun z2 => ?_)
  · replace h := h.1 z2
    refine xi_iload_n C 0 dX9_isOwnStep_15 rfl rfl ?_
    refine xi_bipush C (v := 115) dX9_isOwnStep_16 (by decide +kernel) ?_
    refine xJ0_w (fun  S39 => xval (gC D ca ad tF) S39 → xV (gC D ca ad tF) p l e ({ frames := 0, cells := 0, slots := 0, locals := 0 }) s m args below meth c A 4 Z 0 0 39 [(0, .ref (ad 54)), (1, .int (iN a1)), (2, .int (iN a2))] [] S39) h (fun  S39 h  hw39 => ?_) (fun j39 hj39 h => ?_)
    · unfold w_X9_isOwnStep_J39 at h
      refine xi_aload_n C 0 dX9_isOwnStep_39 rfl rfl ?_
      refine xi_getR C xK_X9 (q := 54) (r := 59) rfl 19 (by decide) (ki := 19) rfl xl_X9_22 rfl dX9_isOwnStep_40 ?_
      refine xi_iload_n C 2 dX9_isOwnStep_43 rfl rfl ?_
      refine xi_iaload C (q := 59) rfl (by decide) hc1 dX9_isOwnStep_44 ?_
      refine xi_iconst C (v := 3) dX9_isOwnStep_45 rfl ?_
      refine xi_iconst C (v := 2) dX9_isOwnStep_46 rfl ?_
      refine xi_iload_n C 1 dX9_isOwnStep_47 rfl rfl ?_
      refine xi_imul C dX9_isOwnStep_48 ?_
      refine xi_iadd C dX9_isOwnStep_49 ?_
      obtain ⟨hc4, h⟩ := h
      refine xi_icmp_eq C 67 (xval.i (q := 59) (i := a2) hw39 hc1.1 rfl) hc4 dX9_isOwnStep_50 (by decide) (fun z5 => ?_) (fun z5 => ?_)
      · replace h := h.1 z5
        refine xi_iconst C (v := 1) dX9_isOwnStep_67 rfl ?_
        refine xi_goto C 72 dX9_isOwnStep_68 (by decide) ?_
        exact xr_i C hA hZ hr hlocks (xnarZ (Or.inr rfl)).1 dX9_isOwnStep_72 (Nat.le_of_ble_eq_true rfl) (Nat.le_of_ble_eq_true rfl) hw39 ⟨_, rfl, (by decide), h⟩
      · replace h := h.2 z5
        refine xi_aload_n C 0 dX9_isOwnStep_53 rfl rfl ?_
        refine xi_getR C xK_X9 (q := 54) (r := 59) rfl 19 (by decide) (ki := 19) rfl xl_X9_22 rfl dX9_isOwnStep_54 ?_
        refine xi_iload_n C 2 dX9_isOwnStep_57 rfl rfl ?_
        refine xi_iaload C (q := 59) rfl (by decide) hc1 dX9_isOwnStep_58 ?_
        refine xi_iconst C (v := 4) dX9_isOwnStep_59 rfl ?_
        refine xi_iconst C (v := 2) dX9_isOwnStep_60 rfl ?_
        refine xi_iload_n C 1 dX9_isOwnStep_61 rfl rfl ?_
        refine xi_imul C dX9_isOwnStep_62 ?_
        refine xi_iadd C dX9_isOwnStep_63 ?_
        obtain ⟨hc6, h⟩ := h
        refine xi_icmp_ne C 71 (xval.i (q := 59) (i := a2) hw39 hc1.1 rfl) hc6 dX9_isOwnStep_64 (by decide) (fun z7 => ?_) (fun z7 => ?_)
        · replace h := h.1 z7
          refine xi_iconst C (v := 0) dX9_isOwnStep_71 rfl ?_
          exact xr_i C hA hZ hr hlocks (xnarZ (Or.inl rfl)).1 dX9_isOwnStep_72 (Nat.le_of_ble_eq_true rfl) (Nat.le_of_ble_eq_true rfl) hw39 ⟨_, rfl, (by decide), h⟩
        · replace h := h.2 z7
          refine xi_iconst C (v := 1) dX9_isOwnStep_67 rfl ?_
          refine xi_goto C 72 dX9_isOwnStep_68 (by decide) ?_
          exact xr_i C hA hZ hr hlocks (xnarZ (Or.inr rfl)).1 dX9_isOwnStep_72 (Nat.le_of_ble_eq_true rfl) (Nat.le_of_ble_eq_true rfl) hw39 ⟨_, rfl, (by decide), h⟩
    · refine xi_icmp_eq C 39 (xval.i (q := 58) (i := a2) hw hc1.1 rfl) (by decide) dX9_isOwnStep_18 (by decide) (fun z3 => ?_) (fun z3 => ?_)
      · replace h := h.1 z3
        exact xi_sub [1, 2, 3] rfl (hj39 S h hw)
      · replace h := h.2 z3
        refine xi_iload_n C 0 dX9_isOwnStep_21 rfl rfl ?_
        refine xi_bipush C (v := 105) dX9_isOwnStep_22 (by decide +kernel) ?_
        refine xi_icmp_eq C 39 (xval.i (q := 58) (i := a2) hw hc1.1 rfl) (by decide) dX9_isOwnStep_24 (by decide) (fun z8 => ?_) (fun z8 => ?_)
        · replace h := h.1 z8
          exact xi_sub [1, 2, 3] rfl (hj39 S h hw)
        · replace h := h.2 z8
          refine xi_iload_n C 0 dX9_isOwnStep_27 rfl rfl ?_
          refine xi_bipush C (v := 61) dX9_isOwnStep_28 (by decide +kernel) ?_
          refine xi_icmp_eq C 39 (xval.i (q := 58) (i := a2) hw hc1.1 rfl) (by decide) dX9_isOwnStep_30 (by decide) (fun z9 => ?_) (fun z9 => ?_)
          · replace h := h.1 z9
            exact xi_sub [1, 2, 3] rfl (hj39 S h hw)
          · replace h := h.2 z9
            refine xi_iload_n C 0 dX9_isOwnStep_33 rfl rfl ?_
            refine xi_bipush C (v := 33) dX9_isOwnStep_34 (by decide +kernel) ?_
            refine xi_icmp_ne C 71 (xval.i (q := 58) (i := a2) hw hc1.1 rfl) (by decide) dX9_isOwnStep_36 (by decide) (fun z10 => ?_) (fun z10 => ?_)
            · replace h := h.1 z10
              refine xi_iconst C (v := 0) dX9_isOwnStep_71 rfl ?_
              exact xr_i C hA hZ hr hlocks (xnarZ (Or.inl rfl)).1 dX9_isOwnStep_72 (Nat.le_of_ble_eq_true rfl) (Nat.le_of_ble_eq_true rfl) hw ⟨_, rfl, (by decide), h⟩
            · replace h := h.2 z10
              exact xi_sub [1, 2, 3] rfl (hj39 S h hw)
  · replace h := h.2 z2
    refine xi_iconst C (v := 1) dX9_isOwnStep_13 rfl ?_
    exact xr_i C hA hZ hr hlocks (xnarZ (Or.inr rfl)).1 dX9_isOwnStep_14 (Nat.le_of_ble_eq_true rfl) (Nat.le_of_ble_eq_true rfl) hw ⟨_, rfl, (by decide), h⟩
set_option maxRecDepth 100000 in
set_option maxHeartbeats 4000000 in
theorem c_X9_isEnough (l : Launch) (D : va_G) (ca : Nat → ClassId) (ad : Nat → Nat) (tF : Nat) (a1 : Int) (S : xS) (Q : Int → xS → Prop) (h_a1 : xR a1) (h : w_X9_isEnough a1 S Q) : xM l yX9_isEnough (xws yX9_isEnough cX9_isEnough 4 (some .boolean)) ({ frames := 3, cells := 0, slots := 0, locals := 66 }) (gC D ca ad tF) [.ref (ad 54), .int (iN a1)] S (xQi Q) 0 0 := by
  refine xm_of RX9 rfl (by decide +kernel) (Nat.le_of_ble_eq_true rfl) ?_
  intro p e s m args below meth c A Z C hA hZ hr hlocks hw
  unfold w_X9_isEnough at h
  show xV (gC D ca ad tF) p l e ({ frames := 3, cells := 0, slots := 0, locals := 66 }) s m args below meth c A 4 Z 0 0 0 [(0, .ref (ad 54)), (1, .int (iN a1))] [] S
  refine xi_iconst C (v := 0) dX9_isEnough_0 rfl ?_
  refine xi_istore_n C (L' := [(2, .int (iN 0)), (0, .ref (ad 54)), (1, .int (iN a1))]) dX9_isEnough_1 rfl (by decide) rfl ?_
  refine xi_iconst C (v := 0) dX9_isEnough_2 rfl ?_
  refine xi_istore_n C (L' := [(3, .int (iN 0)), (2, .int (iN 0)), (0, .ref (ad 54)), (1, .int (iN a1))]) dX9_isEnough_3 rfl (by decide) rfl ?_
  refine xJ0_w (fun  S45 => xval (gC D ca ad tF) S45 → xV (gC D ca ad tF) p l e ({ frames := 3, cells := 0, slots := 0, locals := 66 }) s m args below meth c A 4 Z 0 0 45 [(0, .ref (ad 54)), (1, .int (iN a1)), (2, .int (iN 0))] [] S45) h (fun  S45 h  hw45 => ?_) (fun j45 hj45 h => ?_)
  · unfold w_X9_isEnough_J45 at h
    refine xi_iconst C (v := 0) dX9_isEnough_45 rfl ?_
    refine xi_istore_n C (L' := [(3, .int (iN 0)), (0, .ref (ad 54)), (1, .int (iN a1)), (2, .int (iN 0))]) dX9_isEnough_46 rfl (by decide) rfl ?_
    refine xJ0_w (fun  S91 => xval (gC D ca ad tF) S91 → xV (gC D ca ad tF) p l e ({ frames := 3, cells := 0, slots := 0, locals := 66 }) s m args below meth c A 4 Z 0 0 91 [(0, .ref (ad 54)), (1, .int (iN a1)), (2, .int (iN 0))] [] S91) h (fun  S91 h  hw91 => ?_) (fun j91 hj91 h => ?_)
    · unfold w_X9_isEnough_J91 at h
      refine xi_iconst C (v := 0) dX9_isEnough_91 rfl ?_
      refine xi_istore_n C (L' := [(3, .int (iN 0)), (0, .ref (ad 54)), (1, .int (iN a1)), (2, .int (iN 0))]) dX9_isEnough_92 rfl (by decide) rfl ?_
      refine xJ1_w (fun v2_141 S141 => xR v2_141 → xval (gC D ca ad tF) S141 → xV (gC D ca ad tF) p l e ({ frames := 3, cells := 0, slots := 0, locals := 66 }) s m args below meth c A 4 Z 0 0 141 [(2, .int (iN v2_141))] [] S141) h (fun v2_141 S141 h h_v2_141 hw141 => ?_) (fun j141 hj141 h => ?_)
      · unfold w_X9_isEnough_J141 at h
        refine xi_iload_n C 0 dX9_isEnough_141 rfl rfl ?_
        refine xi_if_le C 149 h_v2_141 dX9_isEnough_142 (by decide) (fun z1 => ?_) (fun z1 => ?_)
        · replace h := h.1 z1
          refine xi_iconst C (v := 0) dX9_isEnough_149 rfl ?_
          exact xr_i C hA hZ hr hlocks (xnarZ (Or.inl rfl)).1 dX9_isEnough_150 (Nat.le_of_ble_eq_true rfl) (Nat.le_of_ble_eq_true rfl) hw141 ⟨_, rfl, (by decide), h⟩
        · replace h := h.2 z1
          refine xi_iconst C (v := 1) dX9_isEnough_145 rfl ?_
          refine xi_goto C 150 dX9_isEnough_146 (by decide) ?_
          exact xr_i C hA hZ hr hlocks (xnarZ (Or.inr rfl)).1 dX9_isEnough_150 (Nat.le_of_ble_eq_true rfl) (Nat.le_of_ble_eq_true rfl) hw141 ⟨_, rfl, (by decide), h⟩
      · refine xi_sub [1, 2, 3, 0] rfl (xW2 (fun v2_93 v3_93 S93 => xR v2_93 → xR v3_93 → xval (gC D ca ad tF) S93 → xV (gC D ca ad tF) p l e ({ frames := 3, cells := 0, slots := 0, locals := 66 }) s m args below meth c A 4 Z 0 0 93 [(0, .ref (ad 54)), (1, .int (iN a1)), (2, .int (iN v2_93)), (3, .int (iN v3_93))] [] S93) h (fun k93 hk93 v2_93 v3_93 S93 h h_v2_93 h_v3_93 hw93 => ?_) (by decide) (by decide) hw91)
        unfold w_X9_isEnough_L93 at h
        refine xi_iload_n C 3 dX9_isEnough_93 rfl rfl ?_
        refine xi_aload_n C 0 dX9_isEnough_94 rfl rfl ?_
        refine xi_getI C xK_X9 (q := 54) (r := 0) rfl 10 (by decide) (ki := 10) rfl xl_X9_158 rfl dX9_isEnough_95 ?_
        refine xi_icmp_ge C 141 h_v3_93 (xval.i (q := 54) (i := 10) hw93 (by decide) rfl) dX9_isEnough_98 (by decide) (fun z2 => ?_) (fun z2 => ?_)
        · replace h := h.1 z2
          exact xi_sub [2] rfl (hj141 v2_93 S93 h h_v2_93 hw93)
        · replace h := h.2 z2
          refine xi_aload_n C 0 dX9_isEnough_101 rfl rfl ?_
          refine xi_getR C xK_X9 (q := 54) (r := 83) rfl 43 (by decide) (ki := 43) rfl xl_X9_97 rfl dX9_isEnough_102 ?_
          refine xi_iload_n C 3 dX9_isEnough_105 rfl rfl ?_
          obtain ⟨hc3, h⟩ := h
          refine xi_iaload C (q := 83) rfl (by decide) hc3 dX9_isEnough_106 ?_
          refine xi_iload_n C 1 dX9_isEnough_107 rfl rfl ?_
          refine xi_icmp_eq C 114 (xval.i (q := 83) (i := v3_93) hw93 hc3.1 rfl) h_a1 dX9_isEnough_108 (by decide) (fun z4 => ?_) (fun z4 => ?_)
          · replace h := h.1 z4
            refine xi_iinc C (L' := [(2, .int (iN (v2_93 + 1))), (0, .ref (ad 54)), (1, .int (iN a1)), (3, .int (iN v3_93))]) 2 dX9_isEnough_114 rfl (by decide) rfl ?_
            refine xi_aload_n C 1 dX9_isEnough_117 rfl rfl ?_
            refine xi_iload_n C 3 dX9_isEnough_118 rfl rfl ?_
            refine xc_Vv C hw93 (c_X9_makes l D ca ad tF v3_93 S93 _ h_v3_93 h) xk_X9_makes xv_X9_makes xl_X9_243 ⟨Nat.le_of_ble_eq_true rfl, Nat.le_of_ble_eq_true rfl⟩ xK_X9 (q := 54) rfl rfl rfl (Nat.le_of_ble_eq_true rfl) ⟨Nat.le_of_ble_eq_true rfl, Nat.le_of_ble_eq_true rfl⟩ dX9_isEnough_119 (fun S119 h hw5 => ?_)
            refine xi_aload_n C 1 dX9_isEnough_122 rfl rfl ?_
            refine xi_aload_n C 1 dX9_isEnough_123 rfl rfl ?_
            refine xc_Vj C hw5 (c_X9_codes l D ca ad tF S119 _ h) xk_X9_codes xv_X9_codes xl_X9_198 ⟨Nat.le_of_ble_eq_true rfl, Nat.le_of_ble_eq_true rfl⟩ xK_X9 (q := 54) rfl rfl rfl (Nat.le_of_ble_eq_true rfl) ⟨Nat.le_of_ble_eq_true rfl, Nat.le_of_ble_eq_true rfl⟩ dX9_isEnough_124 (fun r124 S124 h_r124 h hw6 => ?_)
            refine xc_Vi C hw6 (c_X9_isFound l D ca ad tF r124 S124 _ h_r124 h) xk_X9_isFound xv_X9_isFound xl_X9_246 ⟨Nat.le_of_ble_eq_true rfl, Nat.le_of_ble_eq_true rfl⟩ xK_X9 (q := 54) rfl rfl rfl (Nat.le_of_ble_eq_true rfl) ⟨Nat.le_of_ble_eq_true rfl, Nat.le_of_ble_eq_true rfl⟩ dX9_isEnough_127 (fun r127 S127 h_r127 h hw7 => ?_)
            refine xi_if_eq C 135 h_r127 dX9_isEnough_130 (by decide) (fun z8 => ?_) (fun z8 => ?_)
            · replace h := h.1 z8
              refine xi_iinc C (L' := [(3, .int (iN (v3_93 + 1))), (2, .int (iN (v2_93 + 1))), (0, .ref (ad 54)), (1, .int (iN a1))]) 3 dX9_isEnough_135 rfl (by decide) rfl ?_
              refine xi_goto C 93 dX9_isEnough_138 (by decide) ?_
              obtain ⟨hc9, h⟩ := h
              obtain ⟨hc10, h⟩ := h
              exact xi_sub [2, 3, 1, 0] rfl (hk93 (v2_93 + 1) (v3_93 + 1) S127 h hc9 hc10 hw7)
            · replace h := h.2 z8
              refine xi_iconst C (v := 0) dX9_isEnough_133 rfl ?_
              exact xr_i C hA hZ hr hlocks (xnarZ (Or.inl rfl)).1 dX9_isEnough_134 (Nat.le_of_ble_eq_true rfl) (Nat.le_of_ble_eq_true rfl) hw7 ⟨_, rfl, (by decide), h⟩
          · replace h := h.2 z4
            refine xi_goto C 135 dX9_isEnough_111 (by decide) ?_
            refine xi_iinc C (L' := [(3, .int (iN (v3_93 + 1))), (0, .ref (ad 54)), (1, .int (iN a1)), (2, .int (iN v2_93))]) 3 dX9_isEnough_135 rfl (by decide) rfl ?_
            refine xi_goto C 93 dX9_isEnough_138 (by decide) ?_
            obtain ⟨hc11, h⟩ := h
            exact xi_sub [1, 2, 3, 0] rfl (hk93 v2_93 (v3_93 + 1) S93 h h_v2_93 hc11 hw93)
    · refine xi_sub [1, 2, 3, 0] rfl (xW1 (fun v3_47 S47 => xR v3_47 → xval (gC D ca ad tF) S47 → xV (gC D ca ad tF) p l e ({ frames := 3, cells := 0, slots := 0, locals := 66 }) s m args below meth c A 4 Z 0 0 47 [(0, .ref (ad 54)), (1, .int (iN a1)), (2, .int (iN 0)), (3, .int (iN v3_47))] [] S47) h (fun k47 hk47 v3_47 S47 h h_v3_47 hw47 => ?_) (by decide) hw45)
      unfold w_X9_isEnough_L47 at h
      refine xi_iload_n C 3 dX9_isEnough_47 rfl rfl ?_
      refine xi_aload_n C 0 dX9_isEnough_48 rfl rfl ?_
      refine xi_getI C xK_X9 (q := 54) (r := 0) rfl 3 (by decide) (ki := 3) rfl xl_X9_227 rfl dX9_isEnough_49 ?_
      refine xi_icmp_ge C 91 h_v3_47 (xval.i (q := 54) (i := 3) hw47 (by decide) rfl) dX9_isEnough_52 (by decide) (fun z12 => ?_) (fun z12 => ?_)
      · replace h := h.1 z12
        exact xi_sub [0, 1, 2] rfl (hj91 S47 h hw47)
      · replace h := h.2 z12
        refine xi_aload_n C 0 dX9_isEnough_55 rfl rfl ?_
        refine xi_getR C xK_X9 (q := 54) (r := 63) rfl 23 (by decide) (ki := 23) rfl xl_X9_34 rfl dX9_isEnough_56 ?_
        refine xi_iload_n C 3 dX9_isEnough_59 rfl rfl ?_
        obtain ⟨hc13, h⟩ := h
        refine xi_iaload C (q := 63) rfl (by decide) hc13 dX9_isEnough_60 ?_
        refine xi_iconst C (v := 3) dX9_isEnough_61 rfl ?_
        refine xi_iconst C (v := 2) dX9_isEnough_62 rfl ?_
        refine xi_iload_n C 1 dX9_isEnough_63 rfl rfl ?_
        refine xi_imul C dX9_isEnough_64 ?_
        refine xi_iadd C dX9_isEnough_65 ?_
        obtain ⟨hc14, h⟩ := h
        refine xi_icmp_eq C 83 (xval.i (q := 63) (i := v3_47) hw47 hc13.1 rfl) hc14 dX9_isEnough_66 (by decide) (fun z15 => ?_) (fun z15 => ?_)
        · replace h := h.1 z15
          refine xi_iconst C (v := 0) dX9_isEnough_83 rfl ?_
          exact xr_i C hA hZ hr hlocks (xnarZ (Or.inl rfl)).1 dX9_isEnough_84 (Nat.le_of_ble_eq_true rfl) (Nat.le_of_ble_eq_true rfl) hw47 ⟨_, rfl, (by decide), h⟩
        · replace h := h.2 z15
          refine xi_aload_n C 0 dX9_isEnough_69 rfl rfl ?_
          refine xi_getR C xK_X9 (q := 54) (r := 63) rfl 23 (by decide) (ki := 23) rfl xl_X9_34 rfl dX9_isEnough_70 ?_
          refine xi_iload_n C 3 dX9_isEnough_73 rfl rfl ?_
          refine xi_iaload C (q := 63) rfl (by decide) hc13 dX9_isEnough_74 ?_
          refine xi_iconst C (v := 4) dX9_isEnough_75 rfl ?_
          refine xi_iconst C (v := 2) dX9_isEnough_76 rfl ?_
          refine xi_iload_n C 1 dX9_isEnough_77 rfl rfl ?_
          refine xi_imul C dX9_isEnough_78 ?_
          refine xi_iadd C dX9_isEnough_79 ?_
          obtain ⟨hc16, h⟩ := h
          refine xi_icmp_ne C 85 (xval.i (q := 63) (i := v3_47) hw47 hc13.1 rfl) hc16 dX9_isEnough_80 (by decide) (fun z17 => ?_) (fun z17 => ?_)
          · replace h := h.1 z17
            refine xi_iinc C (L' := [(3, .int (iN (v3_47 + 1))), (0, .ref (ad 54)), (1, .int (iN a1)), (2, .int (iN 0))]) 3 dX9_isEnough_85 rfl (by decide) rfl ?_
            refine xi_goto C 47 dX9_isEnough_88 (by decide) ?_
            obtain ⟨hc18, h⟩ := h
            exact xi_sub [1, 2, 3, 0] rfl (hk47 (v3_47 + 1) S47 h hc18 hw47)
          · replace h := h.2 z17
            refine xi_iconst C (v := 0) dX9_isEnough_83 rfl ?_
            exact xr_i C hA hZ hr hlocks (xnarZ (Or.inl rfl)).1 dX9_isEnough_84 (Nat.le_of_ble_eq_true rfl) (Nat.le_of_ble_eq_true rfl) hw47 ⟨_, rfl, (by decide), h⟩
  · refine xi_sub [2, 3, 1, 0] rfl (xW1 (fun v3_4 S4 => xR v3_4 → xval (gC D ca ad tF) S4 → xV (gC D ca ad tF) p l e ({ frames := 3, cells := 0, slots := 0, locals := 66 }) s m args below meth c A 4 Z 0 0 4 [(0, .ref (ad 54)), (1, .int (iN a1)), (2, .int (iN 0)), (3, .int (iN v3_4))] [] S4) h (fun k4 hk4 v3_4 S4 h h_v3_4 hw4 => ?_) (by decide) hw)
    unfold w_X9_isEnough_L4 at h
    refine xi_iload_n C 3 dX9_isEnough_4 rfl rfl ?_
    refine xi_aload_n C 0 dX9_isEnough_5 rfl rfl ?_
    refine xi_getR C xK_X9 (q := 54) (r := 55) rfl 15 (by decide) (ki := 15) rfl xl_X9_7 rfl dX9_isEnough_6 ?_
    refine xi_iload_n C 1 dX9_isEnough_9 rfl rfl ?_
    obtain ⟨hc19, h⟩ := h
    refine xi_iaload C (q := 55) rfl (by decide) hc19 dX9_isEnough_10 ?_
    refine xi_icmp_ge C 45 h_v3_4 (xval.i (q := 55) (i := a1) hw4 hc19.1 rfl) dX9_isEnough_11 (by decide) (fun z20 => ?_) (fun z20 => ?_)
    · replace h := h.1 z20
      exact xi_sub [0, 1, 2] rfl (hj45 S4 h hw4)
    · replace h := h.2 z20
      refine xi_aload_n C 0 dX9_isEnough_14 rfl rfl ?_
      refine xi_iload_n C 1 dX9_isEnough_15 rfl rfl ?_
      refine xi_iload_n C 3 dX9_isEnough_16 rfl rfl ?_
      refine xc_Vi C hw4 (c_X9_isHere l D ca ad tF a1 v3_4 S4 _ h_a1 h_v3_4 h) xk_X9_isHere xv_X9_isHere xl_X9_164 ⟨Nat.le_of_ble_eq_true rfl, Nat.le_of_ble_eq_true rfl⟩ xK_X9 (q := 54) rfl rfl rfl (Nat.le_of_ble_eq_true rfl) ⟨Nat.le_of_ble_eq_true rfl, Nat.le_of_ble_eq_true rfl⟩ dX9_isEnough_17 (fun r17 S17 h_r17 h hw21 => ?_)
      refine xi_if_eq C 39 h_r17 dX9_isEnough_20 (by decide) (fun z22 => ?_) (fun z22 => ?_)
      · replace h := h.1 z22
        refine xi_iinc C (L' := [(3, .int (iN (v3_4 + 1))), (0, .ref (ad 54)), (1, .int (iN a1)), (2, .int (iN 0))]) 3 dX9_isEnough_39 rfl (by decide) rfl ?_
        refine xi_goto C 4 dX9_isEnough_42 (by decide) ?_
        obtain ⟨hc23, h⟩ := h
        exact xi_sub [1, 2, 3, 0] rfl (hk4 (v3_4 + 1) S17 h hc23 hw21)
      · replace h := h.2 z22
        refine xi_aload_n C 0 dX9_isEnough_23 rfl rfl ?_
        refine xi_iload_n C 1 dX9_isEnough_24 rfl rfl ?_
        refine xi_bipush C (v := 14) dX9_isEnough_25 (by decide +kernel) ?_
        refine xi_iload_n C 1 dX9_isEnough_27 rfl rfl ?_
        refine xi_imul C dX9_isEnough_28 ?_
        refine xi_iload_n C 3 dX9_isEnough_29 rfl rfl ?_
        refine xi_iadd C dX9_isEnough_30 ?_
        obtain ⟨hc24, h⟩ := h
        refine xc_Vi C hw21 (c_X9_isOwnStep l D ca ad tF a1 ((14 * a1) + v3_4) S17 _ h_a1 hc24 h) xk_X9_isOwnStep xv_X9_isOwnStep xl_X9_240 ⟨Nat.le_of_ble_eq_true rfl, Nat.le_of_ble_eq_true rfl⟩ xK_X9 (q := 54) rfl rfl rfl (Nat.le_of_ble_eq_true rfl) ⟨Nat.le_of_ble_eq_true rfl, Nat.le_of_ble_eq_true rfl⟩ dX9_isEnough_31 (fun r31 S31 h_r31 h hw25 => ?_)
        refine xi_if_ne C 39 h_r31 dX9_isEnough_34 (by decide) (fun z26 => ?_) (fun z26 => ?_)
        · replace h := h.1 z26
          refine xi_iinc C (L' := [(3, .int (iN (v3_4 + 1))), (0, .ref (ad 54)), (1, .int (iN a1)), (2, .int (iN 0))]) 3 dX9_isEnough_39 rfl (by decide) rfl ?_
          refine xi_goto C 4 dX9_isEnough_42 (by decide) ?_
          obtain ⟨hc27, h⟩ := h
          exact xi_sub [1, 2, 3, 0] rfl (hk4 (v3_4 + 1) S31 h hc27 hw25)
        · replace h := h.2 z26
          refine xi_iconst C (v := 0) dX9_isEnough_37 rfl ?_
          exact xr_i C hA hZ hr hlocks (xnarZ (Or.inl rfl)).1 dX9_isEnough_38 (Nat.le_of_ble_eq_true rfl) (Nat.le_of_ble_eq_true rfl) hw25 ⟨_, rfl, (by decide), h⟩
set_option maxRecDepth 100000 in
set_option maxHeartbeats 4000000 in
theorem c_X9_isStuck (l : Launch) (D : va_G) (ca : Nat → ClassId) (ad : Nat → Nat) (tF : Nat)  (S : xS) (Q : Int → xS → Prop)  (h : w_X9_isStuck  S Q) : xM l yX9_isStuck (xws yX9_isStuck cX9_isStuck 2 (some .boolean)) ({ frames := 0, cells := 0, slots := 0, locals := 0 }) (gC D ca ad tF) [.ref (ad 54)] S (xQi Q) 0 0 := by
  refine xm_of RX9 rfl (by decide +kernel) (Nat.le_of_ble_eq_true rfl) ?_
  intro p e s m args below meth c A Z C hA hZ hr hlocks hw
  unfold w_X9_isStuck at h
  show xV (gC D ca ad tF) p l e ({ frames := 0, cells := 0, slots := 0, locals := 0 }) s m args below meth c A 2 Z 0 0 0 [(0, .ref (ad 54))] [] S
  refine xi_iconst C (v := 0) dX9_isStuck_0 rfl ?_
  refine xi_istore_n C (L' := [(1, .int (iN 0)), (0, .ref (ad 54))]) dX9_isStuck_1 rfl (by decide) rfl ?_
  refine xi_sub [1, 0] rfl (xW1 (fun v1_2 S2 => xR v1_2 → xval (gC D ca ad tF) S2 → xV (gC D ca ad tF) p l e ({ frames := 0, cells := 0, slots := 0, locals := 0 }) s m args below meth c A 2 Z 0 0 2 [(0, .ref (ad 54)), (1, .int (iN v1_2))] [] S2) h (fun k2 hk2 v1_2 S2 h h_v1_2 hw2 => ?_) (by decide) hw)
  unfold w_X9_isStuck_L2 at h
  refine xi_iload_n C 1 dX9_isStuck_2 rfl rfl ?_
  refine xi_aload_n C 0 dX9_isStuck_3 rfl rfl ?_
  refine xi_getI C xK_X9 (q := 54) (r := 0) rfl 1 (by decide) (ki := 1) rfl xl_X9_161 rfl dX9_isStuck_4 ?_
  refine xi_icmp_ge C 37 h_v1_2 (xval.i (q := 54) (i := 1) hw2 (by decide) rfl) dX9_isStuck_7 (by decide) (fun z1 => ?_) (fun z1 => ?_)
  · replace h := h.1 z1
    refine xi_iconst C (v := 0) dX9_isStuck_37 rfl ?_
    exact xr_i C hA hZ hr hlocks (xnarZ (Or.inl rfl)).1 dX9_isStuck_38 (Nat.le_of_ble_eq_true rfl) (Nat.le_of_ble_eq_true rfl) hw2 ⟨_, rfl, (by decide), h⟩
  · replace h := h.2 z1
    refine xi_aload_n C 0 dX9_isStuck_10 rfl rfl ?_
    refine xi_getR C xK_X9 (q := 54) (r := 65) rfl 25 (by decide) (ki := 25) rfl xl_X9_40 rfl dX9_isStuck_11 ?_
    refine xi_bipush C (v := 12) dX9_isStuck_14 (by decide +kernel) ?_
    refine xi_iload_n C 1 dX9_isStuck_16 rfl rfl ?_
    refine xi_imul C dX9_isStuck_17 ?_
    refine xi_aload_n C 0 dX9_isStuck_18 rfl rfl ?_
    refine xi_getR C xK_X9 (q := 54) (r := 75) rfl 35 (by decide) (ki := 35) rfl xl_X9_73 rfl dX9_isStuck_19 ?_
    refine xi_iload_n C 1 dX9_isStuck_22 rfl rfl ?_
    obtain ⟨hc2, h⟩ := h
    refine xi_iaload C (q := 75) rfl (by decide) hc2 dX9_isStuck_23 ?_
    refine xi_iadd C dX9_isStuck_24 ?_
    obtain ⟨hc3, h⟩ := h
    refine xi_baload C (q := 65) rfl (by decide) hc3 dX9_isStuck_25 ?_
    refine xi_if_ne C 31 (xval.i (q := 65) (i := (12 * v1_2) + (S2 75 v1_2)) hw2 hc3.1 rfl) dX9_isStuck_26 (by decide) (fun z4 => ?_) (fun z4 => ?_)
    · replace h := h.1 z4
      refine xi_iinc C (L' := [(1, .int (iN (v1_2 + 1))), (0, .ref (ad 54))]) 1 dX9_isStuck_31 rfl (by decide) rfl ?_
      refine xi_goto C 2 dX9_isStuck_34 (by decide) ?_
      obtain ⟨hc5, h⟩ := h
      exact xi_sub [1, 0] rfl (hk2 (v1_2 + 1) S2 h hc5 hw2)
    · replace h := h.2 z4
      refine xi_iconst C (v := 1) dX9_isStuck_29 rfl ?_
      exact xr_i C hA hZ hr hlocks (xnarZ (Or.inr rfl)).1 dX9_isStuck_30 (Nat.le_of_ble_eq_true rfl) (Nat.le_of_ble_eq_true rfl) hw2 ⟨_, rfl, (by decide), h⟩
set_option maxRecDepth 100000 in
set_option maxHeartbeats 4000000 in
theorem c_X9_goesOn (l : Launch) (D : va_G) (ca : Nat → ClassId) (ad : Nat → Nat) (tF : Nat)  (S : xS) (Q : xS → Prop)  (h : w_X9_goesOn  S Q) : xM l yX9_goesOn (xws yX9_goesOn cX9_goesOn 5 (none)) ({ frames := 5, cells := 0, slots := 0, locals := 116 }) (gC D ca ad tF) [.ref (ad 54)] S (xQv Q) 0 0 := by
  refine xm_of RX9 rfl (by decide +kernel) (Nat.le_of_ble_eq_true rfl) ?_
  intro p e s m args below meth c A Z C hA hZ hr hlocks hw
  unfold w_X9_goesOn at h
  show xV (gC D ca ad tF) p l e ({ frames := 5, cells := 0, slots := 0, locals := 116 }) s m args below meth c A 5 Z 0 0 0 [(0, .ref (ad 54))] [] S
  refine xi_aload_n C 0 dX9_goesOn_0 rfl rfl ?_
  refine xi_getI C xK_X9 (q := 54) (r := 0) rfl 6 (by decide) (ki := 6) rfl xl_X9_250 rfl dX9_goesOn_1 ?_
  refine xi_istore_n C (L' := [(1, .int (iN (S 54 6))), (0, .ref (ad 54))]) dX9_goesOn_4 rfl (by decide) rfl ?_
  refine xi_aload_n C 1 dX9_goesOn_5 rfl rfl ?_
  refine xi_dup C dX9_goesOn_6 rfl ?_
  refine xi_getI C xK_X9 (q := 54) (r := 0) rfl 6 (by decide) (ki := 6) rfl xl_X9_250 rfl dX9_goesOn_7 ?_
  refine xi_iconst C (v := 1) dX9_goesOn_10 rfl ?_
  refine xi_iadd C dX9_goesOn_11 ?_
  obtain ⟨hc1, h⟩ := h
  refine xi_putI C xK_X9 (q := 54) (r := 0) rfl 6 (by decide) (ki := 6) rfl xl_X9_250 rfl rfl rfl dX9_goesOn_12 ?_
  have hw2 := xval.up (q := 54) (i := 6) (v := (S 54 6) + 1) hw rfl hc1
  refine xi_aload_n C 1 dX9_goesOn_15 rfl rfl ?_
  refine xi_aload_n C 1 dX9_goesOn_16 rfl rfl ?_
  refine xi_getR C xK_X9 (q := 54) (r := 67) rfl 27 (by decide) (ki := 27) rfl xl_X9_47 rfl dX9_goesOn_17 ?_
  refine xi_iload_n C 0 dX9_goesOn_20 rfl rfl ?_
  obtain ⟨hc3, h⟩ := h
  refine xi_laload C (q := 67) rfl (by decide) hc3 dX9_goesOn_21 ?_
  refine xc_Vv C hw2 (c_X9_opens l D ca ad tF (S 67 (S 54 6)) (xup S 54 6 ((S 54 6) + 1)) _ (xval.j (q := 67) (i := S 54 6) hw2 hc3.1 rfl) h) xk_X9_opens xv_X9_opens xl_X9_253 ⟨Nat.le_of_ble_eq_true rfl, Nat.le_of_ble_eq_true rfl⟩ xK_X9 (q := 54) rfl rfl rfl (Nat.le_of_ble_eq_true rfl) ⟨Nat.le_of_ble_eq_true rfl, Nat.le_of_ble_eq_true rfl⟩ dX9_goesOn_22 (fun S22 h hw4 => ?_)
  refine xi_aload_n C 1 dX9_goesOn_25 rfl rfl ?_
  refine xc_Vv C hw4 (c_X9_finds l D ca ad tF S22 _ h) xk_X9_finds xv_X9_finds xl_X9_257 ⟨Nat.le_of_ble_eq_true rfl, Nat.le_of_ble_eq_true rfl⟩ xK_X9 (q := 54) rfl rfl rfl (Nat.le_of_ble_eq_true rfl) ⟨Nat.le_of_ble_eq_true rfl, Nat.le_of_ble_eq_true rfl⟩ dX9_goesOn_26 (fun S26 h hw5 => ?_)
  refine xi_aload_n C 1 dX9_goesOn_29 rfl rfl ?_
  refine xi_getR C xK_X9 (q := 54) (r := 73) rfl 33 (by decide) (ki := 33) rfl xl_X9_66 rfl dX9_goesOn_30 ?_
  refine xi_iload_n C 0 dX9_goesOn_33 rfl rfl ?_
  refine xi_aload_n C 1 dX9_goesOn_34 rfl rfl ?_
  refine xi_getI C xK_X9 (q := 54) (r := 0) rfl 11 (by decide) (ki := 11) rfl xl_X9_260 rfl dX9_goesOn_35 ?_
  refine xi_iastore C (q := 73) rfl (by decide) ⟨hc3.1, Int.lt_of_lt_of_le hc3.2 (by decide)⟩ dX9_goesOn_38 ?_
  have hw6 := xval.up (q := 73) (i := S 54 6) (v := S26 54 11) hw5 rfl (xval.i (q := 54) (i := 11) hw5 (by decide) rfl)
  refine xi_aload_n C 1 dX9_goesOn_39 rfl rfl ?_
  refine xi_getI C xK_X9 (q := 54) (r := 0) rfl 10 (by decide) (ki := 10) rfl xl_X9_158 rfl dX9_goesOn_40 ?_
  refine xJ0_w (fun  S69 => xval (gC D ca ad tF) S69 → xV (gC D ca ad tF) p l e ({ frames := 5, cells := 0, slots := 0, locals := 116 }) s m args below meth c A 5 Z 0 0 69 [(0, .ref (ad 54)), (1, .int (iN (S 54 6)))] [] S69) h (fun  S69 h  hw69 => ?_) (fun j69 hj69 h => ?_)
  · unfold w_X9_goesOn_J69 at h
    refine xi_iconst C (v := 0) dX9_goesOn_69 rfl ?_
    refine xi_istore_n C (L' := [(2, .int (iN 0)), (0, .ref (ad 54)), (1, .int (iN (S 54 6)))]) dX9_goesOn_70 rfl (by decide) rfl ?_
    refine xJ0_w (fun  S113 => xval (gC D ca ad tF) S113 → xV (gC D ca ad tF) p l e ({ frames := 5, cells := 0, slots := 0, locals := 116 }) s m args below meth c A 5 Z 0 0 113 [(0, .ref (ad 54)), (1, .int (iN (S 54 6)))] [] S113) h (fun  S113 h  hw113 => ?_) (fun j113 hj113 h => ?_)
    · unfold w_X9_goesOn_J113 at h
      refine xi_iconst C (v := 0) dX9_goesOn_113 rfl ?_
      refine xi_istore_n C (L' := [(2, .int (iN 0)), (0, .ref (ad 54)), (1, .int (iN (S 54 6)))]) dX9_goesOn_114 rfl (by decide) rfl ?_
      refine xJ0_w (fun  S278 => xval (gC D ca ad tF) S278 → xV (gC D ca ad tF) p l e ({ frames := 5, cells := 0, slots := 0, locals := 116 }) s m args below meth c A 5 Z 0 0 278 [(0, .ref (ad 54)), (1, .int (iN (S 54 6)))] [] S278) h (fun  S278 h  hw278 => ?_) (fun j278 hj278 h => ?_)
      · unfold w_X9_goesOn_J278 at h
        refine xi_aload_n C 0 dX9_goesOn_278 rfl rfl ?_
        refine xi_getR C xK_X9 (q := 54) (r := 73) rfl 33 (by decide) (ki := 33) rfl xl_X9_66 rfl dX9_goesOn_279 ?_
        refine xi_iload_n C 1 dX9_goesOn_282 rfl rfl ?_
        refine xi_iconst C (v := 1) dX9_goesOn_283 rfl ?_
        refine xi_iadd C dX9_goesOn_284 ?_
        refine xi_aload_n C 0 dX9_goesOn_285 rfl rfl ?_
        refine xi_getI C xK_X9 (q := 54) (r := 0) rfl 11 (by decide) (ki := 11) rfl xl_X9_260 rfl dX9_goesOn_286 ?_
        obtain ⟨hc8, h⟩ := h
        refine xi_iastore C (q := 73) rfl (by decide) hc8 dX9_goesOn_289 ?_
        have hw9 := xval.up (q := 73) (i := (S 54 6) + 1) (v := S278 54 11) hw278 rfl (xval.i (q := 54) (i := 11) hw278 (by decide) rfl)
        refine xi_aload_n C 0 dX9_goesOn_290 rfl rfl ?_
        refine xi_aload_n C 0 dX9_goesOn_291 rfl rfl ?_
        refine xi_getI C xK_X9 (q := 54) (r := 0) rfl 14 (by decide) (ki := 14) rfl xl_X9_236 rfl dX9_goesOn_292 ?_
        refine xi_if_ne C 309 (xval.i (q := 54) (i := 14) hw9 (by decide) rfl) dX9_goesOn_295 (by decide) (fun z10 => ?_) (fun z10 => ?_)
        · replace h := h.1 z10
          refine xi_iconst C (v := 1) dX9_goesOn_309 rfl ?_
          refine xi_goto C 314 dX9_goesOn_310 (by decide) ?_
          refine xi_putZ C xK_X9 (q := 54) (r := 0) rfl 14 (by decide) (ki := 14) rfl xl_X9_236 rfl rfl rfl (Or.inr rfl) dX9_goesOn_314 ?_
          have hw11 := xval.up (q := 54) (i := 14) (v := 1) hw9 rfl (by decide)
          exact xr_v C hA hZ hr hlocks dX9_goesOn_317 (Nat.le_of_ble_eq_true rfl) (Nat.le_of_ble_eq_true rfl) hw11 ⟨rfl, h⟩
        · replace h := h.2 z10
          refine xi_aload_n C 0 dX9_goesOn_298 rfl rfl ?_
          refine xi_getI C xK_X9 (q := 54) (r := 0) rfl 6 (by decide) (ki := 6) rfl xl_X9_250 rfl dX9_goesOn_299 ?_
          refine xi_aload_n C 0 dX9_goesOn_302 rfl rfl ?_
          refine xi_getI C xK_X9 (q := 54) (r := 0) rfl 5 (by decide) (ki := 5) rfl xl_X9_224 rfl dX9_goesOn_303 ?_
          refine xi_icmp_ne C 313 (xval.i (q := 54) (i := 6) hw9 (by decide) rfl) (xval.i (q := 54) (i := 5) hw9 (by decide) rfl) dX9_goesOn_306 (by decide) (fun z12 => ?_) (fun z12 => ?_)
          · replace h := h.1 z12
            refine xi_iconst C (v := 0) dX9_goesOn_313 rfl ?_
            refine xi_putZ C xK_X9 (q := 54) (r := 0) rfl 14 (by decide) (ki := 14) rfl xl_X9_236 rfl rfl rfl (Or.inl rfl) dX9_goesOn_314 ?_
            have hw13 := xval.up (q := 54) (i := 14) (v := 0) hw9 rfl (by decide)
            exact xr_v C hA hZ hr hlocks dX9_goesOn_317 (Nat.le_of_ble_eq_true rfl) (Nat.le_of_ble_eq_true rfl) hw13 ⟨rfl, h⟩
          · replace h := h.2 z12
            refine xi_iconst C (v := 1) dX9_goesOn_309 rfl ?_
            refine xi_goto C 314 dX9_goesOn_310 (by decide) ?_
            refine xi_putZ C xK_X9 (q := 54) (r := 0) rfl 14 (by decide) (ki := 14) rfl xl_X9_236 rfl rfl rfl (Or.inr rfl) dX9_goesOn_314 ?_
            have hw14 := xval.up (q := 54) (i := 14) (v := 1) hw9 rfl (by decide)
            exact xr_v C hA hZ hr hlocks dX9_goesOn_317 (Nat.le_of_ble_eq_true rfl) (Nat.le_of_ble_eq_true rfl) hw14 ⟨rfl, h⟩
      · refine xi_sub [1, 2, 0] rfl (xW1 (fun v2_115 S115 => xR v2_115 → xval (gC D ca ad tF) S115 → xV (gC D ca ad tF) p l e ({ frames := 5, cells := 0, slots := 0, locals := 116 }) s m args below meth c A 5 Z 0 0 115 [(0, .ref (ad 54)), (1, .int (iN (S 54 6))), (2, .int (iN v2_115))] [] S115) h (fun k115 hk115 v2_115 S115 h h_v2_115 hw115 => ?_) (by decide) hw113)
        unfold w_X9_goesOn_L115 at h
        refine xi_iload_n C 2 dX9_goesOn_115 rfl rfl ?_
        refine xi_aload_n C 0 dX9_goesOn_116 rfl rfl ?_
        refine xi_getI C xK_X9 (q := 54) (r := 0) rfl 10 (by decide) (ki := 10) rfl xl_X9_158 rfl dX9_goesOn_117 ?_
        refine xi_icmp_ge C 278 h_v2_115 (xval.i (q := 54) (i := 10) hw115 (by decide) rfl) dX9_goesOn_120 (by decide) (fun z15 => ?_) (fun z15 => ?_)
        · replace h := h.1 z15
          exact xi_sub [0, 1] rfl (hj278 S115 h hw115)
        · replace h := h.2 z15
          refine xi_aload_n C 0 dX9_goesOn_123 rfl rfl ?_
          refine xi_getI C xK_X9 (q := 54) (r := 0) rfl 14 (by decide) (ki := 14) rfl xl_X9_236 rfl dX9_goesOn_124 ?_
          refine xi_if_ne C 278 (xval.i (q := 54) (i := 14) hw115 (by decide) rfl) dX9_goesOn_127 (by decide) (fun z16 => ?_) (fun z16 => ?_)
          · replace h := h.1 z16
            exact xi_sub [0, 1] rfl (hj278 S115 h hw115)
          · replace h := h.2 z16
            refine xi_aload_n C 0 dX9_goesOn_130 rfl rfl ?_
            refine xi_iload_n C 2 dX9_goesOn_131 rfl rfl ?_
            refine xc_Vi C hw115 (c_X9_asserts l D ca ad tF v2_115 S115 _ h_v2_115 h) xk_X9_asserts xv_X9_asserts xl_X9_270 ⟨Nat.le_of_ble_eq_true rfl, Nat.le_of_ble_eq_true rfl⟩ xK_X9 (q := 54) rfl rfl rfl (Nat.le_of_ble_eq_true rfl) ⟨Nat.le_of_ble_eq_true rfl, Nat.le_of_ble_eq_true rfl⟩ dX9_goesOn_132 (fun r132 S132 h_r132 h hw17 => ?_)
            refine xi_if_eq C 177 h_r132 dX9_goesOn_135 (by decide) (fun z18 => ?_) (fun z18 => ?_)
            · replace h := h.1 z18
              refine xi_aload_n C 0 dX9_goesOn_177 rfl rfl ?_
              refine xi_dup C dX9_goesOn_178 rfl ?_
              refine xi_getJ C xK_X9 (q := 54) (r := 0) rfl 12 (by decide) (ki := 12) rfl xl_X9_276 rfl dX9_goesOn_179 ?_
              refine xi_lconst C (v := 1) dX9_goesOn_182 (by decide +kernel) ?_
              refine xi_ladd C dX9_goesOn_183 ?_
              obtain ⟨hc19, h⟩ := h
              refine xi_putJ C xK_X9 (q := 54) (r := 0) rfl 12 (by decide) (ki := 12) rfl xl_X9_276 rfl rfl rfl dX9_goesOn_184 ?_
              have hw20 := xval.upJ (q := 54) (i := 12) (v := (S132 54 12) + 1) hw17 rfl hc19
              refine xi_aload_n C 0 dX9_goesOn_187 rfl rfl ?_
              refine xi_iload_n C 2 dX9_goesOn_188 rfl rfl ?_
              refine xc_Vv C hw20 (c_X9_makes l D ca ad tF v2_115 (xup S132 54 12 ((S132 54 12) + 1)) _ h_v2_115 h) xk_X9_makes xv_X9_makes xl_X9_243 ⟨Nat.le_of_ble_eq_true rfl, Nat.le_of_ble_eq_true rfl⟩ xK_X9 (q := 54) rfl rfl rfl (Nat.le_of_ble_eq_true rfl) ⟨Nat.le_of_ble_eq_true rfl, Nat.le_of_ble_eq_true rfl⟩ dX9_goesOn_189 (fun S189 h hw21 => ?_)
              refine xi_aload_n C 0 dX9_goesOn_192 rfl rfl ?_
              refine xc_Vj C hw21 (c_X9_found l D ca ad tF S189 _ h) xk_X9_found xv_X9_found xl_X9_280 ⟨Nat.le_of_ble_eq_true rfl, Nat.le_of_ble_eq_true rfl⟩ xK_X9 (q := 54) rfl rfl rfl (Nat.le_of_ble_eq_true rfl) ⟨Nat.le_of_ble_eq_true rfl, Nat.le_of_ble_eq_true rfl⟩ dX9_goesOn_193 (fun r193 S193 h_r193 h hw22 => ?_)
              refine xi_lstore_n C (L' := [(3, .long (jN r193)), (0, .ref (ad 54)), (1, .int (iN (S 54 6))), (2, .int (iN v2_115))]) dX9_goesOn_196 rfl (by decide) rfl ?_
              refine xi_aload_n C 1 dX9_goesOn_197 rfl rfl ?_
              refine xi_lload_n C 0 dX9_goesOn_198 rfl rfl ?_
              refine xc_Vi C hw22 (c_X9_isFound l D ca ad tF r193 S193 _ h_r193 h) xk_X9_isFound xv_X9_isFound xl_X9_246 ⟨Nat.le_of_ble_eq_true rfl, Nat.le_of_ble_eq_true rfl⟩ xK_X9 (q := 54) rfl rfl rfl (Nat.le_of_ble_eq_true rfl) ⟨Nat.le_of_ble_eq_true rfl, Nat.le_of_ble_eq_true rfl⟩ dX9_goesOn_199 (fun r199 S199 h_r199 h hw23 => ?_)
              refine xJ0_w (fun  S227 => xval (gC D ca ad tF) S227 → xV (gC D ca ad tF) p l e ({ frames := 5, cells := 0, slots := 0, locals := 116 }) s m args below meth c A 5 Z 0 0 227 [(0, .ref (ad 54)), (1, .int (iN (S 54 6))), (2, .int (iN v2_115)), (3, .long (jN r193))] [] S227) h (fun  S227 h  hw227 => ?_) (fun j227 hj227 h => ?_)
              · unfold w_X9_goesOn_J227 at h
                refine xi_aload_n C 0 dX9_goesOn_227 rfl rfl ?_
                refine xi_getI C xK_X9 (q := 54) (r := 0) rfl 4 (by decide) (ki := 4) rfl xl_X9_205 rfl dX9_goesOn_228 ?_
                refine xi_bipush C (v := 97) dX9_goesOn_231 (by decide +kernel) ?_
                refine xi_icmp_eq C 239 (xval.i (q := 54) (i := 4) hw227 (by decide) rfl) (by decide) dX9_goesOn_233 (by decide) (fun z25 => ?_) (fun z25 => ?_)
                · replace h := h.1 z25
                  refine xi_aload_n C 0 dX9_goesOn_239 rfl rfl ?_
                  refine xi_getR C xK_X9 (q := 54) (r := 74) rfl 34 (by decide) (ki := 34) rfl xl_X9_70 rfl dX9_goesOn_240 ?_
                  refine xi_aload_n C 0 dX9_goesOn_243 rfl rfl ?_
                  refine xi_getI C xK_X9 (q := 54) (r := 0) rfl 11 (by decide) (ki := 11) rfl xl_X9_260 rfl dX9_goesOn_244 ?_
                  refine xi_bipush C (v := 8) dX9_goesOn_247 (by decide +kernel) ?_
                  refine xi_aload_n C 0 dX9_goesOn_249 rfl rfl ?_
                  refine xi_lload_n C 3 dX9_goesOn_250 rfl rfl ?_
                  refine xc_Vi C hw227 (c_X9_indexOf l D ca ad tF r193 S227 _ h_r193 h) xk_X9_indexOf xv_X9_indexOf xl_X9_221 ⟨Nat.le_of_ble_eq_true rfl, Nat.le_of_ble_eq_true rfl⟩ xK_X9 (q := 54) rfl rfl rfl (Nat.le_of_ble_eq_true rfl) ⟨Nat.le_of_ble_eq_true rfl, Nat.le_of_ble_eq_true rfl⟩ dX9_goesOn_251 (fun r251 S251 h_r251 h hw26 => ?_)
                  refine xi_imul C dX9_goesOn_254 ?_
                  refine xi_aload_n C 0 dX9_goesOn_255 rfl rfl ?_
                  refine xi_iload_n C 2 dX9_goesOn_256 rfl rfl ?_
                  refine xc_Vi C hw26 (c_X9_doers l D ca ad tF v2_115 S251 _ h_v2_115 h) xk_X9_doers xv_X9_doers xl_X9_287 ⟨Nat.le_of_ble_eq_true rfl, Nat.le_of_ble_eq_true rfl⟩ xK_X9 (q := 54) rfl rfl rfl (Nat.le_of_ble_eq_true rfl) ⟨Nat.le_of_ble_eq_true rfl, Nat.le_of_ble_eq_true rfl⟩ dX9_goesOn_257 (fun r257 S257 h_r257 h hw27 => ?_)
                  refine xi_iadd C dX9_goesOn_260 ?_
                  obtain ⟨hc28, h⟩ := h
                  obtain ⟨hc29, h⟩ := h
                  refine xi_iastore C (q := 74) rfl (by decide) hc29 dX9_goesOn_261 ?_
                  have hw30 := xval.up (q := 74) (i := S227 54 11) (v := (8 * r251) + r257) hw27 rfl hc28
                  refine xi_aload_n C 0 dX9_goesOn_262 rfl rfl ?_
                  refine xi_dup C dX9_goesOn_263 rfl ?_
                  refine xi_getI C xK_X9 (q := 54) (r := 0) rfl 11 (by decide) (ki := 11) rfl xl_X9_260 rfl dX9_goesOn_264 ?_
                  refine xi_iconst C (v := 1) dX9_goesOn_267 rfl ?_
                  refine xi_iadd C dX9_goesOn_268 ?_
                  obtain ⟨hc31, h⟩ := h
                  refine xi_putI C xK_X9 (q := 54) (r := 0) rfl 11 (by decide) (ki := 11) rfl xl_X9_260 rfl rfl rfl dX9_goesOn_269 ?_
                  have hw32 := xval.up (q := 54) (i := 11) (v := (S257 54 11) + 1) hw30 rfl hc31
                  refine xi_iinc C (L' := [(2, .int (iN (v2_115 + 1))), (0, .ref (ad 54)), (1, .int (iN (S 54 6))), (3, .long (jN r193))]) 2 dX9_goesOn_272 rfl (by decide) rfl ?_
                  refine xi_goto C 115 dX9_goesOn_275 (by decide) ?_
                  obtain ⟨hc33, h⟩ := h
                  exact xi_sub [1, 2, 0] rfl (hk115 (v2_115 + 1) (xup (xup S257 74 (S227 54 11) ((8 * r251) + r257)) 54 11 ((S257 54 11) + 1)) h hc33 hw32)
                · replace h := h.2 z25
                  refine xi_goto C 272 dX9_goesOn_236 (by decide) ?_
                  refine xi_iinc C (L' := [(2, .int (iN (v2_115 + 1))), (0, .ref (ad 54)), (1, .int (iN (S 54 6))), (3, .long (jN r193))]) 2 dX9_goesOn_272 rfl (by decide) rfl ?_
                  refine xi_goto C 115 dX9_goesOn_275 (by decide) ?_
                  obtain ⟨hc34, h⟩ := h
                  exact xi_sub [1, 2, 0] rfl (hk115 (v2_115 + 1) S227 h hc34 hw227)
              · refine xi_if_ne C 227 h_r199 dX9_goesOn_202 (by decide) (fun z24 => ?_) (fun z24 => ?_)
                · replace h := h.1 z24
                  exact xi_sub [1, 2, 3, 0] rfl (hj227 S199 h hw23)
                · replace h := h.2 z24
                  refine xi_aload_n C 1 dX9_goesOn_205 rfl rfl ?_
                  refine xi_lload_n C 0 dX9_goesOn_206 rfl rfl ?_
                  refine xi_iload_n C 2 dX9_goesOn_207 rfl rfl ?_
                  refine xi_bipush C (v := 16) dX9_goesOn_208 (by decide +kernel) ?_
                  refine xi_aload_n C 1 dX9_goesOn_210 rfl rfl ?_
                  refine xi_getR C xK_X9 (q := 54) (r := 83) rfl 43 (by decide) (ki := 43) rfl xl_X9_97 rfl dX9_goesOn_211 ?_
                  refine xi_iload_n C 3 dX9_goesOn_214 rfl rfl ?_
                  obtain ⟨hc35, h⟩ := h
                  refine xi_iaload C (q := 83) rfl (by decide) hc35 dX9_goesOn_215 ?_
                  refine xi_imul C dX9_goesOn_216 ?_
                  refine xi_aload_n C 1 dX9_goesOn_217 rfl rfl ?_
                  refine xi_getR C xK_X9 (q := 54) (r := 84) rfl 44 (by decide) (ki := 44) rfl xl_X9_100 rfl dX9_goesOn_218 ?_
                  refine xi_iload_n C 3 dX9_goesOn_221 rfl rfl ?_
                  refine xi_iaload C (q := 84) rfl (by decide) hc35 dX9_goesOn_222 ?_
                  refine xi_iadd C dX9_goesOn_223 ?_
                  obtain ⟨hc36, h⟩ := h
                  refine xc_Vv C hw23 (c_X9_discovers l D ca ad tF r193 (S 54 6) ((16 * (S199 83 v2_115)) + (S199 84 v2_115)) S199 _ h_r193 (xval.i (q := 54) (i := 6) hw (by decide) rfl) hc36 h) xk_X9_discovers xv_X9_discovers xl_X9_283 ⟨Nat.le_of_ble_eq_true rfl, Nat.le_of_ble_eq_true rfl⟩ xK_X9 (q := 54) rfl rfl rfl (Nat.le_of_ble_eq_true rfl) ⟨Nat.le_of_ble_eq_true rfl, Nat.le_of_ble_eq_true rfl⟩ dX9_goesOn_224 (fun S224 h hw37 => ?_)
                  exact xi_sub [1, 2, 3, 0] rfl (hj227 S224 h hw37)
            · replace h := h.2 z18
              refine xi_aload_n C 0 dX9_goesOn_138 rfl rfl ?_
              refine xi_bipush C (v := 97) dX9_goesOn_139 (by decide +kernel) ?_
              refine xi_putI C xK_X9 (q := 54) (r := 0) rfl 7 (by decide) (ki := 7) rfl xl_X9_230 rfl rfl rfl dX9_goesOn_141 ?_
              have hw38 := xval.up (q := 54) (i := 7) (v := 97) hw17 rfl (by decide)
              refine xi_aload_n C 0 dX9_goesOn_144 rfl rfl ?_
              refine xi_iload_n C 1 dX9_goesOn_145 rfl rfl ?_
              refine xi_putI C xK_X9 (q := 54) (r := 0) rfl 8 (by decide) (ki := 8) rfl xl_X9_233 rfl rfl rfl dX9_goesOn_146 ?_
              have hw39 := xval.up (q := 54) (i := 8) (v := S 54 6) hw38 rfl (xval.i (q := 54) (i := 6) hw (by decide) rfl)
              refine xi_aload_n C 0 dX9_goesOn_149 rfl rfl ?_
              refine xi_bipush C (v := 16) dX9_goesOn_150 (by decide +kernel) ?_
              refine xi_aload_n C 0 dX9_goesOn_152 rfl rfl ?_
              refine xi_getR C xK_X9 (q := 54) (r := 83) rfl 43 (by decide) (ki := 43) rfl xl_X9_97 rfl dX9_goesOn_153 ?_
              refine xi_iload_n C 2 dX9_goesOn_156 rfl rfl ?_
              obtain ⟨hc40, h⟩ := h
              refine xi_iaload C (q := 83) rfl (by decide) hc40 dX9_goesOn_157 ?_
              refine xi_imul C dX9_goesOn_158 ?_
              refine xi_aload_n C 0 dX9_goesOn_159 rfl rfl ?_
              refine xi_getR C xK_X9 (q := 54) (r := 84) rfl 44 (by decide) (ki := 44) rfl xl_X9_100 rfl dX9_goesOn_160 ?_
              refine xi_iload_n C 2 dX9_goesOn_163 rfl rfl ?_
              refine xi_iaload C (q := 84) rfl (by decide) hc40 dX9_goesOn_164 ?_
              refine xi_iadd C dX9_goesOn_165 ?_
              obtain ⟨hc41, h⟩ := h
              refine xi_putI C xK_X9 (q := 54) (r := 0) rfl 9 (by decide) (ki := 9) rfl xl_X9_273 rfl rfl rfl dX9_goesOn_166 ?_
              have hw42 := xval.up (q := 54) (i := 9) (v := (16 * (S132 83 v2_115)) + (S132 84 v2_115)) hw39 rfl hc41
              refine xi_aload_n C 0 dX9_goesOn_169 rfl rfl ?_
              refine xi_iconst C (v := 1) dX9_goesOn_170 rfl ?_
              refine xi_putZ C xK_X9 (q := 54) (r := 0) rfl 14 (by decide) (ki := 14) rfl xl_X9_236 rfl rfl rfl (Or.inr rfl) dX9_goesOn_171 ?_
              have hw43 := xval.up (q := 54) (i := 14) (v := 1) hw42 rfl (by decide)
              refine xi_goto C 272 dX9_goesOn_174 (by decide) ?_
              refine xi_iinc C (L' := [(2, .int (iN (v2_115 + 1))), (0, .ref (ad 54)), (1, .int (iN (S 54 6)))]) 2 dX9_goesOn_272 rfl (by decide) rfl ?_
              refine xi_goto C 115 dX9_goesOn_275 (by decide) ?_
              obtain ⟨hc44, h⟩ := h
              exact xi_sub [1, 2, 0] rfl (hk115 (v2_115 + 1) (xup (xup (xup (xup S132 54 7 97) 54 8 (S 54 6)) 54 9 ((16 * (S132 83 v2_115)) + (S132 84 v2_115))) 54 14 1) h hc44 hw43)
    · refine xJ1_w (fun v2_99 S99 => xR v2_99 → xval (gC D ca ad tF) S99 → xV (gC D ca ad tF) p l e ({ frames := 5, cells := 0, slots := 0, locals := 116 }) s m args below meth c A 5 Z 0 0 99 [(0, .ref (ad 54)), (1, .int (iN (S 54 6))), (2, .int (iN v2_99))] [] S99) h (fun v2_99 S99 h h_v2_99 hw99 => ?_) (fun j99 hj99 h => ?_)
      · unfold w_X9_goesOn_J99 at h
        refine xi_aload_n C 0 dX9_goesOn_99 rfl rfl ?_
        refine xi_iload_n C 2 dX9_goesOn_100 rfl rfl ?_
        refine xc_Vv C hw99 (c_X9_keeps l D ca ad tF v2_99 S99 _ h_v2_99 h) xk_X9_keeps xv_X9_keeps xl_X9_180 ⟨Nat.le_of_ble_eq_true rfl, Nat.le_of_ble_eq_true rfl⟩ xK_X9 (q := 54) rfl rfl rfl (Nat.le_of_ble_eq_true rfl) ⟨Nat.le_of_ble_eq_true rfl, Nat.le_of_ble_eq_true rfl⟩ dX9_goesOn_101 (fun S101 h hw45 => ?_)
        refine xi_goto C 113 dX9_goesOn_104 (by decide) ?_
        exact xi_sub [0, 1] rfl (hj113 S101 h hw45)
      · refine xi_sub [1, 2, 0] rfl (xW1 (fun v2_71 S71 => xR v2_71 → xval (gC D ca ad tF) S71 → xV (gC D ca ad tF) p l e ({ frames := 5, cells := 0, slots := 0, locals := 116 }) s m args below meth c A 5 Z 0 0 71 [(0, .ref (ad 54)), (1, .int (iN (S 54 6))), (2, .int (iN v2_71))] [] S71) h (fun k71 hk71 v2_71 S71 h h_v2_71 hw71 => ?_) (by decide) hw69)
        unfold w_X9_goesOn_L71 at h
        refine xi_iload_n C 2 dX9_goesOn_71 rfl rfl ?_
        refine xi_aload_n C 0 dX9_goesOn_72 rfl rfl ?_
        refine xi_getI C xK_X9 (q := 54) (r := 0) rfl 1 (by decide) (ki := 1) rfl xl_X9_161 rfl dX9_goesOn_73 ?_
        refine xi_icmp_ge C 113 h_v2_71 (xval.i (q := 54) (i := 1) hw71 (by decide) rfl) dX9_goesOn_76 (by decide) (fun z46 => ?_) (fun z46 => ?_)
        · replace h := h.1 z46
          exact xi_sub [0, 1] rfl (hj113 S71 h hw71)
        · replace h := h.2 z46
          refine xi_aload_n C 0 dX9_goesOn_79 rfl rfl ?_
          refine xi_getI C xK_X9 (q := 54) (r := 0) rfl 4 (by decide) (ki := 4) rfl xl_X9_205 rfl dX9_goesOn_80 ?_
          refine xi_bipush C (v := 112) dX9_goesOn_83 (by decide +kernel) ?_
          refine xi_icmp_ne C 113 (xval.i (q := 54) (i := 4) hw71 (by decide) rfl) (by decide) dX9_goesOn_85 (by decide) (fun z47 => ?_) (fun z47 => ?_)
          · replace h := h.1 z47
            exact xi_sub [0, 1] rfl (hj113 S71 h hw71)
          · replace h := h.2 z47
            refine xi_aload_n C 0 dX9_goesOn_88 rfl rfl ?_
            refine xi_iload_n C 2 dX9_goesOn_89 rfl rfl ?_
            refine xc_Vi C hw71 (c_X9_isEnough l D ca ad tF v2_71 S71 _ h_v2_71 h) xk_X9_isEnough xv_X9_isEnough xl_X9_267 ⟨Nat.le_of_ble_eq_true rfl, Nat.le_of_ble_eq_true rfl⟩ xK_X9 (q := 54) rfl rfl rfl (Nat.le_of_ble_eq_true rfl) ⟨Nat.le_of_ble_eq_true rfl, Nat.le_of_ble_eq_true rfl⟩ dX9_goesOn_90 (fun r90 S90 h_r90 h hw48 => ?_)
            refine xi_if_ne C 99 h_r90 dX9_goesOn_93 (by decide) (fun z49 => ?_) (fun z49 => ?_)
            · replace h := h.1 z49
              exact xi_sub [0, 1, 2] rfl (hj99 v2_71 S90 h h_v2_71 hw48)
            · replace h := h.2 z49
              refine xi_goto C 107 dX9_goesOn_96 (by decide) ?_
              refine xi_iinc C (L' := [(2, .int (iN (v2_71 + 1))), (0, .ref (ad 54)), (1, .int (iN (S 54 6)))]) 2 dX9_goesOn_107 rfl (by decide) rfl ?_
              refine xi_goto C 71 dX9_goesOn_110 (by decide) ?_
              obtain ⟨hc50, h⟩ := h
              exact xi_sub [1, 2, 0] rfl (hk71 (v2_71 + 1) S90 h hc50 hw48)
  · refine xi_if_ne C 69 (xval.i (q := 54) (i := 10) hw6 (by decide) rfl) dX9_goesOn_43 (by decide) (fun z7 => ?_) (fun z7 => ?_)
    · replace h := h.1 z7
      exact xi_sub [1, 0] rfl (hj69 (xup S26 73 (S 54 6) (S26 54 11)) h hw6)
    · replace h := h.2 z7
      refine xi_aload_n C 1 dX9_goesOn_46 rfl rfl ?_
      refine xc_Vi C hw6 (c_X9_isStuck l D ca ad tF (xup S26 73 (S 54 6) (S26 54 11)) _ h) xk_X9_isStuck xv_X9_isStuck xl_X9_263 ⟨Nat.le_of_ble_eq_true rfl, Nat.le_of_ble_eq_true rfl⟩ xK_X9 (q := 54) rfl rfl rfl (Nat.le_of_ble_eq_true rfl) ⟨Nat.le_of_ble_eq_true rfl, Nat.le_of_ble_eq_true rfl⟩ dX9_goesOn_47 (fun r47 S47 h_r47 h hw51 => ?_)
      refine xi_if_eq C 69 h_r47 dX9_goesOn_50 (by decide) (fun z52 => ?_) (fun z52 => ?_)
      · replace h := h.1 z52
        exact xi_sub [1, 0] rfl (hj69 S47 h hw51)
      · replace h := h.2 z52
        refine xi_aload_n C 1 dX9_goesOn_53 rfl rfl ?_
        refine xi_bipush C (v := 100) dX9_goesOn_54 (by decide +kernel) ?_
        refine xi_putI C xK_X9 (q := 54) (r := 0) rfl 7 (by decide) (ki := 7) rfl xl_X9_230 rfl rfl rfl dX9_goesOn_56 ?_
        have hw53 := xval.up (q := 54) (i := 7) (v := 100) hw51 rfl (by decide)
        refine xi_aload_n C 1 dX9_goesOn_59 rfl rfl ?_
        refine xi_iload_n C 0 dX9_goesOn_60 rfl rfl ?_
        refine xi_putI C xK_X9 (q := 54) (r := 0) rfl 8 (by decide) (ki := 8) rfl xl_X9_233 rfl rfl rfl dX9_goesOn_61 ?_
        have hw54 := xval.up (q := 54) (i := 8) (v := S 54 6) hw53 rfl (xval.i (q := 54) (i := 6) hw (by decide) rfl)
        refine xi_aload_n C 1 dX9_goesOn_64 rfl rfl ?_
        refine xi_iconst C (v := 1) dX9_goesOn_65 rfl ?_
        refine xi_putZ C xK_X9 (q := 54) (r := 0) rfl 14 (by decide) (ki := 14) rfl xl_X9_236 rfl rfl rfl (Or.inr rfl) dX9_goesOn_66 ?_
        have hw55 := xval.up (q := 54) (i := 14) (v := 1) hw54 rfl (by decide)
        exact xi_sub [1, 0] rfl (hj69 (xup (xup (xup S47 54 7 100) 54 8 (S 54 6)) 54 14 1) h hw55)
set_option maxRecDepth 100000 in
set_option maxHeartbeats 4000000 in
theorem c_X9_search (l : Launch) (D : va_G) (ca : Nat → ClassId) (ad : Nat → Nat) (tF : Nat) (a1 : Int) (S : xS) (Q : Int → xS → Prop) (h_a1 : xR a1) (h : w_X9_search a1 S Q) : xM l yX9_search (xws yX9_search cX9_search 4 (some .int)) ({ frames := 6, cells := 0, slots := 0, locals := 140 }) (gC D ca ad tF) [.ref (ad 54), .int (iN a1)] S (xQi Q) 0 0 := by
  refine xm_of RX9 rfl (by decide +kernel) (Nat.le_of_ble_eq_true rfl) ?_
  intro p e s m args below meth c A Z C hA hZ hr hlocks hw
  unfold w_X9_search at h
  show xV (gC D ca ad tF) p l e ({ frames := 6, cells := 0, slots := 0, locals := 140 }) s m args below meth c A 4 Z 0 0 0 [(0, .ref (ad 54)), (1, .int (iN a1))] [] S
  refine xi_aload_n C 0 dX9_search_0 rfl rfl ?_
  refine xc_Vi C hw (c_X9_isThere l D ca ad tF S _ h) xk_X9_isThere xv_X9_isThere xl_X9_323 ⟨Nat.le_of_ble_eq_true rfl, Nat.le_of_ble_eq_true rfl⟩ xK_X9 (q := 54) rfl rfl rfl (Nat.le_of_ble_eq_true rfl) ⟨Nat.le_of_ble_eq_true rfl, Nat.le_of_ble_eq_true rfl⟩ dX9_search_1 (fun r1 S1 h_r1 h hw1 => ?_)
  refine xi_if_ne C 9 h_r1 dX9_search_4 (by decide) (fun z2 => ?_) (fun z2 => ?_)
  · replace h := h.1 z2
    refine xi_iload_n C 1 dX9_search_9 rfl rfl ?_
    refine xi_iconst C (v := 1) dX9_search_10 rfl ?_
    refine xi_sipush C (v := 500) dX9_search_11 (by decide +kernel) ?_
    refine xc_Si C hw1 (c_X9_in l D ca ad tF a1 1 500 S1 _ h_a1 (by decide) (by decide) h) xk_X9_in xs_X9_in xl_X9_294 ⟨Nat.le_of_ble_eq_true rfl, Nat.le_of_ble_eq_true rfl⟩ rfl rfl (Nat.le_of_ble_eq_true rfl) ⟨Nat.le_of_ble_eq_true rfl, Nat.le_of_ble_eq_true rfl⟩ dX9_search_14 (fun r14 S14 h_r14 h hw3 => ?_)
    refine xi_if_ne C 26 h_r14 dX9_search_17 (by decide) (fun z4 => ?_) (fun z4 => ?_)
    · replace h := h.1 z4
      refine xi_aload_n C 0 dX9_search_26 rfl rfl ?_
      refine xi_getI C xK_X9 (q := 54) (r := 0) rfl 5 (by decide) (ki := 5) rfl xl_X9_224 rfl dX9_search_27 ?_
      refine xi_istore_n C (L' := [(2, .int (iN (S14 54 5))), (0, .ref (ad 54)), (1, .int (iN a1))]) dX9_search_30 rfl (by decide) rfl ?_
      refine xi_iconst C (v := 0) dX9_search_31 rfl ?_
      refine xi_istore_n C (L' := [(3, .int (iN 0)), (2, .int (iN (S14 54 5))), (0, .ref (ad 54)), (1, .int (iN a1))]) dX9_search_32 rfl (by decide) rfl ?_
      refine xi_sub [2, 3, 1, 0] rfl (xW1 (fun v3_33 S33 => xR v3_33 → xval (gC D ca ad tF) S33 → xV (gC D ca ad tF) p l e ({ frames := 6, cells := 0, slots := 0, locals := 140 }) s m args below meth c A 4 Z 0 0 33 [(0, .ref (ad 54)), (1, .int (iN a1)), (2, .int (iN (S14 54 5))), (3, .int (iN v3_33))] [] S33) h (fun k33 hk33 v3_33 S33 h h_v3_33 hw33 => ?_) (by decide) hw3)
      unfold w_X9_search_L33 at h
      refine xi_iload_n C 3 dX9_search_33 rfl rfl ?_
      refine xi_iload_n C 1 dX9_search_34 rfl rfl ?_
      refine xi_icmp_ge C 55 h_v3_33 h_a1 dX9_search_35 (by decide) (fun z5 => ?_) (fun z5 => ?_)
      · replace h := h.1 z5
        refine xi_aload_n C 0 dX9_search_55 rfl rfl ?_
        refine xi_getI C xK_X9 (q := 54) (r := 0) rfl 5 (by decide) (ki := 5) rfl xl_X9_224 rfl dX9_search_56 ?_
        refine xi_iload_n C 2 dX9_search_59 rfl rfl ?_
        refine xi_isub C dX9_search_60 ?_
        obtain ⟨hc6, h⟩ := h
        exact xr_i C hA hZ hr hlocks rfl dX9_search_61 (Nat.le_of_ble_eq_true rfl) (Nat.le_of_ble_eq_true rfl) hw33 ⟨_, rfl, hc6, h⟩
      · replace h := h.2 z5
        refine xi_aload_n C 0 dX9_search_38 rfl rfl ?_
        refine xi_getI C xK_X9 (q := 54) (r := 0) rfl 14 (by decide) (ki := 14) rfl xl_X9_236 rfl dX9_search_39 ?_
        refine xi_if_ne C 55 (xval.i (q := 54) (i := 14) hw33 (by decide) rfl) dX9_search_42 (by decide) (fun z7 => ?_) (fun z7 => ?_)
        · replace h := h.1 z7
          refine xi_aload_n C 0 dX9_search_55 rfl rfl ?_
          refine xi_getI C xK_X9 (q := 54) (r := 0) rfl 5 (by decide) (ki := 5) rfl xl_X9_224 rfl dX9_search_56 ?_
          refine xi_iload_n C 2 dX9_search_59 rfl rfl ?_
          refine xi_isub C dX9_search_60 ?_
          obtain ⟨hc8, h⟩ := h
          exact xr_i C hA hZ hr hlocks rfl dX9_search_61 (Nat.le_of_ble_eq_true rfl) (Nat.le_of_ble_eq_true rfl) hw33 ⟨_, rfl, hc8, h⟩
        · replace h := h.2 z7
          refine xi_aload_n C 0 dX9_search_45 rfl rfl ?_
          refine xc_Vv C hw33 (c_X9_goesOn l D ca ad tF S33 _ h) xk_X9_goesOn xv_X9_goesOn xl_X9_326 ⟨Nat.le_of_ble_eq_true rfl, Nat.le_of_ble_eq_true rfl⟩ xK_X9 (q := 54) rfl rfl rfl (Nat.le_of_ble_eq_true rfl) ⟨Nat.le_of_ble_eq_true rfl, Nat.le_of_ble_eq_true rfl⟩ dX9_search_46 (fun S46 h hw9 => ?_)
          refine xi_iinc C (L' := [(3, .int (iN (v3_33 + 1))), (0, .ref (ad 54)), (1, .int (iN a1)), (2, .int (iN (S14 54 5)))]) 3 dX9_search_49 rfl (by decide) rfl ?_
          refine xi_goto C 33 dX9_search_52 (by decide) ?_
          obtain ⟨hc10, h⟩ := h
          exact xi_sub [1, 2, 3, 0] rfl (hk33 (v3_33 + 1) S46 h hc10 hw9)
    · replace h := h.2 z4
      refine xi_aload_n C 0 dX9_search_20 rfl rfl ?_
      refine xi_iconst C (v := 2) dX9_search_21 rfl ?_
      refine xc_Vi C hw3 (c_X9_fails l D ca ad tF 2 S14 _ (by decide) h) xk_X9_fails xv_X9_fails xl_X9_297 ⟨Nat.le_of_ble_eq_true rfl, Nat.le_of_ble_eq_true rfl⟩ xK_X9 (q := 54) rfl rfl rfl (Nat.le_of_ble_eq_true rfl) ⟨Nat.le_of_ble_eq_true rfl, Nat.le_of_ble_eq_true rfl⟩ dX9_search_22 (fun r22 S22 h_r22 h hw11 => ?_)
      exact xr_i C hA hZ hr hlocks rfl dX9_search_25 (Nat.le_of_ble_eq_true rfl) (Nat.le_of_ble_eq_true rfl) hw11 ⟨_, rfl, h_r22, h⟩
  · replace h := h.2 z2
    refine xi_iconst C (v := 0) dX9_search_7 rfl ?_
    exact xr_i C hA hZ hr hlocks rfl dX9_search_8 (Nat.le_of_ble_eq_true rfl) (Nat.le_of_ble_eq_true rfl) hw1 ⟨_, rfl, (by decide), h⟩
set_option maxRecDepth 100000 in
set_option maxHeartbeats 4000000 in
theorem c_X9_verdict (l : Launch) (D : va_G) (ca : Nat → ClassId) (ad : Nat → Nat) (tF : Nat)  (S : xS) (Q : Int → xS → Prop)  (h : w_X9_verdict  S Q) : xM l yX9_verdict (xws yX9_verdict cX9_verdict 1 (some .char)) ({ frames := 1, cells := 0, slots := 0, locals := 20 }) (gC D ca ad tF) [.ref (ad 54)] S (xQi Q) 0 0 := by
  refine xm_of RX9 rfl (by decide +kernel) (Nat.le_of_ble_eq_true rfl) ?_
  intro p e s m args below meth c A Z C hA hZ hr hlocks hw
  unfold w_X9_verdict at h
  show xV (gC D ca ad tF) p l e ({ frames := 1, cells := 0, slots := 0, locals := 20 }) s m args below meth c A 1 Z 0 0 0 [(0, .ref (ad 54))] [] S
  refine xi_aload_n C 0 dX9_verdict_0 rfl rfl ?_
  refine xc_Vi C hw (c_X9_isThere l D ca ad tF S _ h) xk_X9_isThere xv_X9_isThere xl_X9_323 ⟨Nat.le_of_ble_eq_true rfl, Nat.le_of_ble_eq_true rfl⟩ xK_X9 (q := 54) rfl rfl rfl (Nat.le_of_ble_eq_true rfl) ⟨Nat.le_of_ble_eq_true rfl, Nat.le_of_ble_eq_true rfl⟩ dX9_verdict_1 (fun r1 S1 h_r1 h hw1 => ?_)
  refine xi_if_eq C 14 h_r1 dX9_verdict_4 (by decide) (fun z2 => ?_) (fun z2 => ?_)
  · replace h := h.1 z2
    refine xi_iconst C (v := 0) dX9_verdict_14 rfl ?_
    refine xi_i2c C dX9_verdict_15 ?_
    exact xr_i C hA hZ hr hlocks (xnarC (by decide)).1 dX9_verdict_16 (Nat.le_of_ble_eq_true rfl) (Nat.le_of_ble_eq_true rfl) hw1 ⟨_, rfl, (by decide), h⟩
  · replace h := h.2 z2
    refine xi_aload_n C 0 dX9_verdict_7 rfl rfl ?_
    refine xc_Vi C hw1 (c_X9_verdictNow l D ca ad tF S1 _ h) xk_X9_verdictNow xv_X9_verdictNow xl_X9_319 ⟨Nat.le_of_ble_eq_true rfl, Nat.le_of_ble_eq_true rfl⟩ xK_X9 (q := 54) rfl rfl rfl (Nat.le_of_ble_eq_true rfl) ⟨Nat.le_of_ble_eq_true rfl, Nat.le_of_ble_eq_true rfl⟩ dX9_verdict_8 (fun r8 S8 h_r8 h hw3 => ?_)
    refine xi_goto C 15 dX9_verdict_11 (by decide) ?_
    refine xi_i2c C dX9_verdict_15 ?_
    obtain ⟨hc4, h⟩ := h
    exact xr_i C hA hZ hr hlocks (xnarC hc4).1 dX9_verdict_16 (Nat.le_of_ble_eq_true rfl) (Nat.le_of_ble_eq_true rfl) hw3 ⟨_, rfl, (xR_c _), h⟩
set_option maxRecDepth 100000 in
set_option maxHeartbeats 4000000 in
theorem c_X9_states (l : Launch) (D : va_G) (ca : Nat → ClassId) (ad : Nat → Nat) (tF : Nat)  (S : xS) (Q : Int → xS → Prop)  (h : w_X9_states  S Q) : xM l yX9_states (xws yX9_states cX9_states 1 (some .int)) ({ frames := 1, cells := 0, slots := 0, locals := 20 }) (gC D ca ad tF) [.ref (ad 54)] S (xQi Q) 0 0 := by
  refine xm_of RX9 rfl (by decide +kernel) (Nat.le_of_ble_eq_true rfl) ?_
  intro p e s m args below meth c A Z C hA hZ hr hlocks hw
  unfold w_X9_states at h
  show xV (gC D ca ad tF) p l e ({ frames := 1, cells := 0, slots := 0, locals := 20 }) s m args below meth c A 1 Z 0 0 0 [(0, .ref (ad 54))] [] S
  refine xi_aload_n C 0 dX9_states_0 rfl rfl ?_
  refine xc_Vi C hw (c_X9_isThere l D ca ad tF S _ h) xk_X9_isThere xv_X9_isThere xl_X9_323 ⟨Nat.le_of_ble_eq_true rfl, Nat.le_of_ble_eq_true rfl⟩ xK_X9 (q := 54) rfl rfl rfl (Nat.le_of_ble_eq_true rfl) ⟨Nat.le_of_ble_eq_true rfl, Nat.le_of_ble_eq_true rfl⟩ dX9_states_1 (fun r1 S1 h_r1 h hw1 => ?_)
  refine xi_if_eq C 14 h_r1 dX9_states_4 (by decide) (fun z2 => ?_) (fun z2 => ?_)
  · replace h := h.1 z2
    refine xi_iconst C (v := 0) dX9_states_14 rfl ?_
    exact xr_i C hA hZ hr hlocks rfl dX9_states_15 (Nat.le_of_ble_eq_true rfl) (Nat.le_of_ble_eq_true rfl) hw1 ⟨_, rfl, (by decide), h⟩
  · replace h := h.2 z2
    refine xi_aload_n C 0 dX9_states_7 rfl rfl ?_
    refine xi_getI C xK_X9 (q := 54) (r := 0) rfl 5 (by decide) (ki := 5) rfl xl_X9_224 rfl dX9_states_8 ?_
    refine xi_goto C 15 dX9_states_11 (by decide) ?_
    exact xr_i C hA hZ hr hlocks rfl dX9_states_15 (Nat.le_of_ble_eq_true rfl) (Nat.le_of_ble_eq_true rfl) hw1 ⟨_, rfl, (xval.i (q := 54) (i := 5) hw1 (by decide) rfl), h⟩
set_option maxRecDepth 100000 in
set_option maxHeartbeats 4000000 in
theorem c_X9_goneOn (l : Launch) (D : va_G) (ca : Nat → ClassId) (ad : Nat → Nat) (tF : Nat)  (S : xS) (Q : Int → xS → Prop)  (h : w_X9_goneOn  S Q) : xM l yX9_goneOn (xws yX9_goneOn cX9_goneOn 1 (some .int)) ({ frames := 1, cells := 0, slots := 0, locals := 20 }) (gC D ca ad tF) [.ref (ad 54)] S (xQi Q) 0 0 := by
  refine xm_of RX9 rfl (by decide +kernel) (Nat.le_of_ble_eq_true rfl) ?_
  intro p e s m args below meth c A Z C hA hZ hr hlocks hw
  unfold w_X9_goneOn at h
  show xV (gC D ca ad tF) p l e ({ frames := 1, cells := 0, slots := 0, locals := 20 }) s m args below meth c A 1 Z 0 0 0 [(0, .ref (ad 54))] [] S
  refine xi_aload_n C 0 dX9_goneOn_0 rfl rfl ?_
  refine xc_Vi C hw (c_X9_isThere l D ca ad tF S _ h) xk_X9_isThere xv_X9_isThere xl_X9_323 ⟨Nat.le_of_ble_eq_true rfl, Nat.le_of_ble_eq_true rfl⟩ xK_X9 (q := 54) rfl rfl rfl (Nat.le_of_ble_eq_true rfl) ⟨Nat.le_of_ble_eq_true rfl, Nat.le_of_ble_eq_true rfl⟩ dX9_goneOn_1 (fun r1 S1 h_r1 h hw1 => ?_)
  refine xi_if_eq C 14 h_r1 dX9_goneOn_4 (by decide) (fun z2 => ?_) (fun z2 => ?_)
  · replace h := h.1 z2
    refine xi_iconst C (v := 0) dX9_goneOn_14 rfl ?_
    exact xr_i C hA hZ hr hlocks rfl dX9_goneOn_15 (Nat.le_of_ble_eq_true rfl) (Nat.le_of_ble_eq_true rfl) hw1 ⟨_, rfl, (by decide), h⟩
  · replace h := h.2 z2
    refine xi_aload_n C 0 dX9_goneOn_7 rfl rfl ?_
    refine xi_getI C xK_X9 (q := 54) (r := 0) rfl 6 (by decide) (ki := 6) rfl xl_X9_250 rfl dX9_goneOn_8 ?_
    refine xi_goto C 15 dX9_goneOn_11 (by decide) ?_
    exact xr_i C hA hZ hr hlocks rfl dX9_goneOn_15 (Nat.le_of_ble_eq_true rfl) (Nat.le_of_ble_eq_true rfl) hw1 ⟨_, rfl, (xval.i (q := 54) (i := 6) hw1 (by decide) rfl), h⟩
set_option maxRecDepth 100000 in
set_option maxHeartbeats 4000000 in
theorem c_X9_isState (l : Launch) (D : va_G) (ca : Nat → ClassId) (ad : Nat → Nat) (tF : Nat) (a1 : Int) (S : xS) (Q : Int → xS → Prop) (h_a1 : xR a1) (h : w_X9_isState a1 S Q) : xM l yX9_isState (xws yX9_isState cX9_isState 2 (some .boolean)) ({ frames := 1, cells := 0, slots := 0, locals := 22 }) (gC D ca ad tF) [.ref (ad 54), .int (iN a1)] S (xQi Q) 0 0 := by
  refine xm_of RX9 rfl (by decide +kernel) (Nat.le_of_ble_eq_true rfl) ?_
  intro p e s m args below meth c A Z C hA hZ hr hlocks hw
  unfold w_X9_isState at h
  show xV (gC D ca ad tF) p l e ({ frames := 1, cells := 0, slots := 0, locals := 22 }) s m args below meth c A 2 Z 0 0 0 [(0, .ref (ad 54)), (1, .int (iN a1))] [] S
  refine xi_aload_n C 0 dX9_isState_0 rfl rfl ?_
  refine xc_Vi C hw (c_X9_isThere l D ca ad tF S _ h) xk_X9_isThere xv_X9_isThere xl_X9_323 ⟨Nat.le_of_ble_eq_true rfl, Nat.le_of_ble_eq_true rfl⟩ xK_X9 (q := 54) rfl rfl rfl (Nat.le_of_ble_eq_true rfl) ⟨Nat.le_of_ble_eq_true rfl, Nat.le_of_ble_eq_true rfl⟩ dX9_isState_1 (fun r1 S1 h_r1 h hw1 => ?_)
  refine xJ0_w (fun  S26 => xval (gC D ca ad tF) S26 → xV (gC D ca ad tF) p l e ({ frames := 1, cells := 0, slots := 0, locals := 22 }) s m args below meth c A 2 Z 0 0 26 [(0, .ref (ad 54))] [] S26) h (fun  S26 h  hw26 => ?_) (fun j26 hj26 h => ?_)
  · unfold w_X9_isState_J26 at h
    refine xi_aload_n C 0 dX9_isState_26 rfl rfl ?_
    refine xi_getI C xK_X9 (q := 54) (r := 0) rfl 0 (by decide) (ki := 0) rfl xl_X9_142 rfl dX9_isState_27 ?_
    refine xi_if_ne C 37 (xval.i (q := 54) (i := 0) hw26 (by decide) rfl) dX9_isState_30 (by decide) (fun z3 => ?_) (fun z3 => ?_)
    · replace h := h.1 z3
      refine xi_iconst C (v := 0) dX9_isState_37 rfl ?_
      exact xr_i C hA hZ hr hlocks (xnarZ (Or.inl rfl)).1 dX9_isState_38 (Nat.le_of_ble_eq_true rfl) (Nat.le_of_ble_eq_true rfl) hw26 ⟨_, rfl, (by decide), h⟩
    · replace h := h.2 z3
      refine xi_iconst C (v := 1) dX9_isState_33 rfl ?_
      refine xi_goto C 38 dX9_isState_34 (by decide) ?_
      exact xr_i C hA hZ hr hlocks (xnarZ (Or.inr rfl)).1 dX9_isState_38 (Nat.le_of_ble_eq_true rfl) (Nat.le_of_ble_eq_true rfl) hw26 ⟨_, rfl, (by decide), h⟩
  · refine xi_if_eq C 26 h_r1 dX9_isState_4 (by decide) (fun z2 => ?_) (fun z2 => ?_)
    · replace h := h.1 z2
      exact xi_sub [0] rfl (hj26 S1 h hw1)
    · replace h := h.2 z2
      refine xi_iload_n C 1 dX9_isState_7 rfl rfl ?_
      refine xi_iconst C (v := 0) dX9_isState_8 rfl ?_
      refine xi_aload_n C 0 dX9_isState_9 rfl rfl ?_
      refine xi_getI C xK_X9 (q := 54) (r := 0) rfl 5 (by decide) (ki := 5) rfl xl_X9_224 rfl dX9_isState_10 ?_
      refine xi_iconst C (v := 1) dX9_isState_13 rfl ?_
      refine xi_isub C dX9_isState_14 ?_
      obtain ⟨hc4, h⟩ := h
      refine xc_Si C hw1 (c_X9_in l D ca ad tF a1 0 ((S1 54 5) - 1) S1 _ h_a1 (by decide) hc4 h) xk_X9_in xs_X9_in xl_X9_294 ⟨Nat.le_of_ble_eq_true rfl, Nat.le_of_ble_eq_true rfl⟩ rfl rfl (Nat.le_of_ble_eq_true rfl) ⟨Nat.le_of_ble_eq_true rfl, Nat.le_of_ble_eq_true rfl⟩ dX9_isState_15 (fun r15 S15 h_r15 h hw5 => ?_)
      refine xi_if_ne C 26 h_r15 dX9_isState_18 (by decide) (fun z6 => ?_) (fun z6 => ?_)
      · replace h := h.1 z6
        exact xi_sub [0] rfl (hj26 S15 h hw5)
      · replace h := h.2 z6
        refine xi_aload_n C 0 dX9_isState_21 rfl rfl ?_
        refine xi_iconst C (v := 2) dX9_isState_22 rfl ?_
        refine xi_putI C xK_X9 (q := 54) (r := 0) rfl 0 (by decide) (ki := 0) rfl xl_X9_142 rfl rfl rfl dX9_isState_23 ?_
        have hw7 := xval.up (q := 54) (i := 0) (v := 2) hw5 rfl (by decide)
        exact xi_sub [0] rfl (hj26 (xup S15 54 0 2) h hw7)
set_option maxRecDepth 100000 in
set_option maxHeartbeats 4000000 in
theorem c_X9_codeOf (l : Launch) (D : va_G) (ca : Nat → ClassId) (ad : Nat → Nat) (tF : Nat) (a1 : Int) (S : xS) (Q : Int → xS → Prop) (h_a1 : xR a1) (h : w_X9_codeOf a1 S Q) : xM l yX9_codeOf (xws yX9_codeOf cX9_codeOf 2 (some .long)) ({ frames := 2, cells := 0, slots := 0, locals := 43 }) (gC D ca ad tF) [.ref (ad 54), .int (iN a1)] S (xQj Q) 0 0 := by
  refine xm_of RX9 rfl (by decide +kernel) (Nat.le_of_ble_eq_true rfl) ?_
  intro p e s m args below meth c A Z C hA hZ hr hlocks hw
  unfold w_X9_codeOf at h
  show xV (gC D ca ad tF) p l e ({ frames := 2, cells := 0, slots := 0, locals := 43 }) s m args below meth c A 2 Z 0 0 0 [(0, .ref (ad 54)), (1, .int (iN a1))] [] S
  refine xi_aload_n C 0 dX9_codeOf_0 rfl rfl ?_
  refine xi_iload_n C 1 dX9_codeOf_1 rfl rfl ?_
  refine xc_Vi C hw (c_X9_isState l D ca ad tF a1 S _ h_a1 h) xk_X9_isState xv_X9_isState xl_X9_329 ⟨Nat.le_of_ble_eq_true rfl, Nat.le_of_ble_eq_true rfl⟩ xK_X9 (q := 54) rfl rfl rfl (Nat.le_of_ble_eq_true rfl) ⟨Nat.le_of_ble_eq_true rfl, Nat.le_of_ble_eq_true rfl⟩ dX9_codeOf_2 (fun r2 S2 h_r2 h hw1 => ?_)
  refine xi_if_eq C 17 h_r2 dX9_codeOf_5 (by decide) (fun z2 => ?_) (fun z2 => ?_)
  · replace h := h.1 z2
    refine xi_lconst C (v := 0) dX9_codeOf_17 (by decide +kernel) ?_
    exact xr_j C hA hZ hr hlocks dX9_codeOf_18 (Nat.le_of_ble_eq_true rfl) (Nat.le_of_ble_eq_true rfl) hw1 ⟨_, rfl, (by decide), h⟩
  · replace h := h.2 z2
    refine xi_aload_n C 0 dX9_codeOf_8 rfl rfl ?_
    refine xi_getR C xK_X9 (q := 54) (r := 67) rfl 27 (by decide) (ki := 27) rfl xl_X9_47 rfl dX9_codeOf_9 ?_
    refine xi_iload_n C 1 dX9_codeOf_12 rfl rfl ?_
    obtain ⟨hc3, h⟩ := h
    refine xi_laload C (q := 67) rfl (by decide) hc3 dX9_codeOf_13 ?_
    refine xi_goto C 18 dX9_codeOf_14 (by decide) ?_
    exact xr_j C hA hZ hr hlocks dX9_codeOf_18 (Nat.le_of_ble_eq_true rfl) (Nat.le_of_ble_eq_true rfl) hw1 ⟨_, rfl, (xval.j (q := 67) (i := a1) hw1 hc3.1 rfl), h⟩
set_option maxRecDepth 100000 in
set_option maxHeartbeats 4000000 in
theorem c_X9_movesOf (l : Launch) (D : va_G) (ca : Nat → ClassId) (ad : Nat → Nat) (tF : Nat) (a1 : Int) (S : xS) (Q : Int → xS → Prop) (h_a1 : xR a1) (h : w_X9_movesOf a1 S Q) : xM l yX9_movesOf (xws yX9_movesOf cX9_movesOf 2 (some .int)) ({ frames := 3, cells := 0, slots := 0, locals := 72 }) (gC D ca ad tF) [.ref (ad 54), .int (iN a1)] S (xQi Q) 0 0 := by
  refine xm_of RX9 rfl (by decide +kernel) (Nat.le_of_ble_eq_true rfl) ?_
  intro p e s m args below meth c A Z C hA hZ hr hlocks hw
  unfold w_X9_movesOf at h
  show xV (gC D ca ad tF) p l e ({ frames := 3, cells := 0, slots := 0, locals := 72 }) s m args below meth c A 2 Z 0 0 0 [(0, .ref (ad 54)), (1, .int (iN a1))] [] S
  refine xi_aload_n C 0 dX9_movesOf_0 rfl rfl ?_
  refine xi_aload_n C 0 dX9_movesOf_1 rfl rfl ?_
  refine xi_getR C xK_X9 (q := 54) (r := 67) rfl 27 (by decide) (ki := 27) rfl xl_X9_47 rfl dX9_movesOf_2 ?_
  refine xi_iload_n C 1 dX9_movesOf_5 rfl rfl ?_
  obtain ⟨hc1, h⟩ := h
  refine xi_laload C (q := 67) rfl (by decide) hc1 dX9_movesOf_6 ?_
  refine xc_Vv C hw (c_X9_opens l D ca ad tF (S 67 a1) S _ (xval.j (q := 67) (i := a1) hw hc1.1 rfl) h) xk_X9_opens xv_X9_opens xl_X9_253 ⟨Nat.le_of_ble_eq_true rfl, Nat.le_of_ble_eq_true rfl⟩ xK_X9 (q := 54) rfl rfl rfl (Nat.le_of_ble_eq_true rfl) ⟨Nat.le_of_ble_eq_true rfl, Nat.le_of_ble_eq_true rfl⟩ dX9_movesOf_7 (fun S7 h hw2 => ?_)
  refine xi_aload_n C 0 dX9_movesOf_10 rfl rfl ?_
  refine xc_Vv C hw2 (c_X9_finds l D ca ad tF S7 _ h) xk_X9_finds xv_X9_finds xl_X9_257 ⟨Nat.le_of_ble_eq_true rfl, Nat.le_of_ble_eq_true rfl⟩ xK_X9 (q := 54) rfl rfl rfl (Nat.le_of_ble_eq_true rfl) ⟨Nat.le_of_ble_eq_true rfl, Nat.le_of_ble_eq_true rfl⟩ dX9_movesOf_11 (fun S11 h hw3 => ?_)
  refine xi_aload_n C 0 dX9_movesOf_14 rfl rfl ?_
  refine xi_getI C xK_X9 (q := 54) (r := 0) rfl 10 (by decide) (ki := 10) rfl xl_X9_158 rfl dX9_movesOf_15 ?_
  exact xr_i C hA hZ hr hlocks rfl dX9_movesOf_18 (Nat.le_of_ble_eq_true rfl) (Nat.le_of_ble_eq_true rfl) hw3 ⟨_, rfl, (xval.i (q := 54) (i := 10) hw3 (by decide) rfl), h⟩
set_option maxRecDepth 100000 in
set_option maxHeartbeats 4000000 in
theorem c_X9_moves (l : Launch) (D : va_G) (ca : Nat → ClassId) (ad : Nat → Nat) (tF : Nat) (a1 : Int) (S : xS) (Q : Int → xS → Prop) (h_a1 : xR a1) (h : w_X9_moves a1 S Q) : xM l yX9_moves (xws yX9_moves cX9_moves 2 (some .int)) ({ frames := 4, cells := 0, slots := 0, locals := 93 }) (gC D ca ad tF) [.ref (ad 54), .int (iN a1)] S (xQi Q) 0 0 := by
  refine xm_of RX9 rfl (by decide +kernel) (Nat.le_of_ble_eq_true rfl) ?_
  intro p e s m args below meth c A Z C hA hZ hr hlocks hw
  unfold w_X9_moves at h
  show xV (gC D ca ad tF) p l e ({ frames := 4, cells := 0, slots := 0, locals := 93 }) s m args below meth c A 2 Z 0 0 0 [(0, .ref (ad 54)), (1, .int (iN a1))] [] S
  refine xi_aload_n C 0 dX9_moves_0 rfl rfl ?_
  refine xi_iload_n C 1 dX9_moves_1 rfl rfl ?_
  refine xc_Vi C hw (c_X9_isState l D ca ad tF a1 S _ h_a1 h) xk_X9_isState xv_X9_isState xl_X9_329 ⟨Nat.le_of_ble_eq_true rfl, Nat.le_of_ble_eq_true rfl⟩ xK_X9 (q := 54) rfl rfl rfl (Nat.le_of_ble_eq_true rfl) ⟨Nat.le_of_ble_eq_true rfl, Nat.le_of_ble_eq_true rfl⟩ dX9_moves_2 (fun r2 S2 h_r2 h hw1 => ?_)
  refine xi_if_eq C 16 h_r2 dX9_moves_5 (by decide) (fun z2 => ?_) (fun z2 => ?_)
  · replace h := h.1 z2
    refine xi_iconst C (v := 0) dX9_moves_16 rfl ?_
    exact xr_i C hA hZ hr hlocks rfl dX9_moves_17 (Nat.le_of_ble_eq_true rfl) (Nat.le_of_ble_eq_true rfl) hw1 ⟨_, rfl, (by decide), h⟩
  · replace h := h.2 z2
    refine xi_aload_n C 0 dX9_moves_8 rfl rfl ?_
    refine xi_iload_n C 1 dX9_moves_9 rfl rfl ?_
    refine xc_Vi C hw1 (c_X9_movesOf l D ca ad tF a1 S2 _ h_a1 h) xk_X9_movesOf xv_X9_movesOf xl_X9_332 ⟨Nat.le_of_ble_eq_true rfl, Nat.le_of_ble_eq_true rfl⟩ xK_X9 (q := 54) rfl rfl rfl (Nat.le_of_ble_eq_true rfl) ⟨Nat.le_of_ble_eq_true rfl, Nat.le_of_ble_eq_true rfl⟩ dX9_moves_10 (fun r10 S10 h_r10 h hw3 => ?_)
    refine xi_goto C 17 dX9_moves_13 (by decide) ?_
    exact xr_i C hA hZ hr hlocks rfl dX9_moves_17 (Nat.le_of_ble_eq_true rfl) (Nat.le_of_ble_eq_true rfl) hw3 ⟨_, rfl, h_r10, h⟩
set_option maxRecDepth 100000 in
set_option maxHeartbeats 4000000 in
theorem c_X9_reached (l : Launch) (D : va_G) (ca : Nat → ClassId) (ad : Nat → Nat) (tF : Nat) (a1 : Int) (a2 : Int) (S : xS) (Q : Int → xS → Prop) (h_a1 : xR a1) (h_a2 : xR a2) (h : w_X9_reached a1 a2 S Q) : xM l yX9_reached (xws yX9_reached cX9_reached 3 (some .long)) ({ frames := 4, cells := 0, slots := 0, locals := 93 }) (gC D ca ad tF) [.ref (ad 54), .int (iN a1), .int (iN a2)] S (xQj Q) 0 0 := by
  refine xm_of RX9 rfl (by decide +kernel) (Nat.le_of_ble_eq_true rfl) ?_
  intro p e s m args below meth c A Z C hA hZ hr hlocks hw
  unfold w_X9_reached at h
  show xV (gC D ca ad tF) p l e ({ frames := 4, cells := 0, slots := 0, locals := 93 }) s m args below meth c A 3 Z 0 0 0 [(0, .ref (ad 54)), (1, .int (iN a1)), (2, .int (iN a2))] [] S
  refine xi_aload_n C 0 dX9_reached_0 rfl rfl ?_
  refine xi_iload_n C 1 dX9_reached_1 rfl rfl ?_
  refine xc_Vi C hw (c_X9_isState l D ca ad tF a1 S _ h_a1 h) xk_X9_isState xv_X9_isState xl_X9_329 ⟨Nat.le_of_ble_eq_true rfl, Nat.le_of_ble_eq_true rfl⟩ xK_X9 (q := 54) rfl rfl rfl (Nat.le_of_ble_eq_true rfl) ⟨Nat.le_of_ble_eq_true rfl, Nat.le_of_ble_eq_true rfl⟩ dX9_reached_2 (fun r2 S2 h_r2 h hw1 => ?_)
  refine xi_if_ne C 10 h_r2 dX9_reached_5 (by decide) (fun z2 => ?_) (fun z2 => ?_)
  · replace h := h.1 z2
    refine xi_iload_n C 2 dX9_reached_10 rfl rfl ?_
    refine xi_iconst C (v := 0) dX9_reached_11 rfl ?_
    refine xi_aload_n C 0 dX9_reached_12 rfl rfl ?_
    refine xi_iload_n C 1 dX9_reached_13 rfl rfl ?_
    refine xc_Vi C hw1 (c_X9_movesOf l D ca ad tF a1 S2 _ h_a1 h) xk_X9_movesOf xv_X9_movesOf xl_X9_332 ⟨Nat.le_of_ble_eq_true rfl, Nat.le_of_ble_eq_true rfl⟩ xK_X9 (q := 54) rfl rfl rfl (Nat.le_of_ble_eq_true rfl) ⟨Nat.le_of_ble_eq_true rfl, Nat.le_of_ble_eq_true rfl⟩ dX9_reached_14 (fun r14 S14 h_r14 h hw3 => ?_)
    refine xi_iconst C (v := 1) dX9_reached_17 rfl ?_
    refine xi_isub C dX9_reached_18 ?_
    obtain ⟨hc4, h⟩ := h
    refine xc_Si C hw3 (c_X9_in l D ca ad tF a2 0 (r14 - 1) S14 _ h_a2 (by decide) hc4 h) xk_X9_in xs_X9_in xl_X9_294 ⟨Nat.le_of_ble_eq_true rfl, Nat.le_of_ble_eq_true rfl⟩ rfl rfl (Nat.le_of_ble_eq_true rfl) ⟨Nat.le_of_ble_eq_true rfl, Nat.le_of_ble_eq_true rfl⟩ dX9_reached_19 (fun r19 S19 h_r19 h hw5 => ?_)
    refine xi_if_ne C 32 h_r19 dX9_reached_22 (by decide) (fun z6 => ?_) (fun z6 => ?_)
    · replace h := h.1 z6
      refine xi_aload_n C 0 dX9_reached_32 rfl rfl ?_
      refine xi_iload_n C 2 dX9_reached_33 rfl rfl ?_
      refine xc_Vv C hw5 (c_X9_makes l D ca ad tF a2 S19 _ h_a2 h) xk_X9_makes xv_X9_makes xl_X9_243 ⟨Nat.le_of_ble_eq_true rfl, Nat.le_of_ble_eq_true rfl⟩ xK_X9 (q := 54) rfl rfl rfl (Nat.le_of_ble_eq_true rfl) ⟨Nat.le_of_ble_eq_true rfl, Nat.le_of_ble_eq_true rfl⟩ dX9_reached_34 (fun S34 h hw7 => ?_)
      refine xi_aload_n C 0 dX9_reached_37 rfl rfl ?_
      refine xc_Vj C hw7 (c_X9_codes l D ca ad tF S34 _ h) xk_X9_codes xv_X9_codes xl_X9_198 ⟨Nat.le_of_ble_eq_true rfl, Nat.le_of_ble_eq_true rfl⟩ xK_X9 (q := 54) rfl rfl rfl (Nat.le_of_ble_eq_true rfl) ⟨Nat.le_of_ble_eq_true rfl, Nat.le_of_ble_eq_true rfl⟩ dX9_reached_38 (fun r38 S38 h_r38 h hw8 => ?_)
      exact xr_j C hA hZ hr hlocks dX9_reached_41 (Nat.le_of_ble_eq_true rfl) (Nat.le_of_ble_eq_true rfl) hw8 ⟨_, rfl, h_r38, h⟩
    · replace h := h.2 z6
      refine xi_aload_n C 0 dX9_reached_25 rfl rfl ?_
      refine xi_iconst C (v := 3) dX9_reached_26 rfl ?_
      refine xc_Vi C hw5 (c_X9_fails l D ca ad tF 3 S19 _ (by decide) h) xk_X9_fails xv_X9_fails xl_X9_297 ⟨Nat.le_of_ble_eq_true rfl, Nat.le_of_ble_eq_true rfl⟩ xK_X9 (q := 54) rfl rfl rfl (Nat.le_of_ble_eq_true rfl) ⟨Nat.le_of_ble_eq_true rfl, Nat.le_of_ble_eq_true rfl⟩ dX9_reached_27 (fun r27 S27 h_r27 h hw9 => ?_)
      refine xi_i2l C h_r27 dX9_reached_30 ?_
      exact xr_j C hA hZ hr hlocks dX9_reached_31 (Nat.le_of_ble_eq_true rfl) (Nat.le_of_ble_eq_true rfl) hw9 ⟨_, rfl, (xR_J h_r27), h⟩
  · replace h := h.2 z2
    refine xi_lconst C (v := 0) dX9_reached_8 (by decide +kernel) ?_
    exact xr_j C hA hZ hr hlocks dX9_reached_9 (Nat.le_of_ble_eq_true rfl) (Nat.le_of_ble_eq_true rfl) hw1 ⟨_, rfl, (by decide), h⟩
set_option maxRecDepth 100000 in
set_option maxHeartbeats 4000000 in
theorem c_X9_variableIn (l : Launch) (D : va_G) (ca : Nat → ClassId) (ad : Nat → Nat) (tF : Nat) (a1 : Int) (a2 : Int) (S : xS) (Q : Int → xS → Prop) (h_a1 : xR a1) (h_a2 : xR a2) (h : w_X9_variableIn a1 a2 S Q) : xM l yX9_variableIn (xws yX9_variableIn cX9_variableIn 3 (some .int)) ({ frames := 2, cells := 0, slots := 0, locals := 43 }) (gC D ca ad tF) [.ref (ad 54), .int (iN a1), .int (iN a2)] S (xQi Q) 0 0 := by
  refine xm_of RX9 rfl (by decide +kernel) (Nat.le_of_ble_eq_true rfl) ?_
  intro p e s m args below meth c A Z C hA hZ hr hlocks hw
  unfold w_X9_variableIn at h
  show xV (gC D ca ad tF) p l e ({ frames := 2, cells := 0, slots := 0, locals := 43 }) s m args below meth c A 3 Z 0 0 0 [(0, .ref (ad 54)), (1, .int (iN a1)), (2, .int (iN a2))] [] S
  refine xi_aload_n C 0 dX9_variableIn_0 rfl rfl ?_
  refine xi_iload_n C 1 dX9_variableIn_1 rfl rfl ?_
  refine xc_Vi C hw (c_X9_isState l D ca ad tF a1 S _ h_a1 h) xk_X9_isState xv_X9_isState xl_X9_329 ⟨Nat.le_of_ble_eq_true rfl, Nat.le_of_ble_eq_true rfl⟩ xK_X9 (q := 54) rfl rfl rfl (Nat.le_of_ble_eq_true rfl) ⟨Nat.le_of_ble_eq_true rfl, Nat.le_of_ble_eq_true rfl⟩ dX9_variableIn_2 (fun r2 S2 h_r2 h hw1 => ?_)
  refine xi_if_ne C 10 h_r2 dX9_variableIn_5 (by decide) (fun z2 => ?_) (fun z2 => ?_)
  · replace h := h.1 z2
    refine xi_iload_n C 2 dX9_variableIn_10 rfl rfl ?_
    refine xi_iconst C (v := 0) dX9_variableIn_11 rfl ?_
    refine xi_bipush C (v := 8) dX9_variableIn_12 (by decide +kernel) ?_
    refine xc_Si C hw1 (c_X9_in l D ca ad tF a2 0 8 S2 _ h_a2 (by decide) (by decide) h) xk_X9_in xs_X9_in xl_X9_294 ⟨Nat.le_of_ble_eq_true rfl, Nat.le_of_ble_eq_true rfl⟩ rfl rfl (Nat.le_of_ble_eq_true rfl) ⟨Nat.le_of_ble_eq_true rfl, Nat.le_of_ble_eq_true rfl⟩ dX9_variableIn_14 (fun r14 S14 h_r14 h hw3 => ?_)
    refine xi_if_ne C 26 h_r14 dX9_variableIn_17 (by decide) (fun z4 => ?_) (fun z4 => ?_)
    · replace h := h.1 z4
      refine xi_aload_n C 0 dX9_variableIn_26 rfl rfl ?_
      refine xi_aload_n C 0 dX9_variableIn_27 rfl rfl ?_
      refine xi_getR C xK_X9 (q := 54) (r := 67) rfl 27 (by decide) (ki := 27) rfl xl_X9_47 rfl dX9_variableIn_28 ?_
      refine xi_iload_n C 1 dX9_variableIn_31 rfl rfl ?_
      obtain ⟨hc5, h⟩ := h
      refine xi_laload C (q := 67) rfl (by decide) hc5 dX9_variableIn_32 ?_
      refine xc_Vv C hw3 (c_X9_opens l D ca ad tF (S14 67 a1) S14 _ (xval.j (q := 67) (i := a1) hw3 hc5.1 rfl) h) xk_X9_opens xv_X9_opens xl_X9_253 ⟨Nat.le_of_ble_eq_true rfl, Nat.le_of_ble_eq_true rfl⟩ xK_X9 (q := 54) rfl rfl rfl (Nat.le_of_ble_eq_true rfl) ⟨Nat.le_of_ble_eq_true rfl, Nat.le_of_ble_eq_true rfl⟩ dX9_variableIn_33 (fun S33 h hw6 => ?_)
      refine xi_aload_n C 0 dX9_variableIn_36 rfl rfl ?_
      refine xi_getR C xK_X9 (q := 54) (r := 76) rfl 36 (by decide) (ki := 36) rfl xl_X9_76 rfl dX9_variableIn_37 ?_
      refine xi_iload_n C 2 dX9_variableIn_40 rfl rfl ?_
      obtain ⟨hc7, h⟩ := h
      refine xi_iaload C (q := 76) rfl (by decide) hc7 dX9_variableIn_41 ?_
      exact xr_i C hA hZ hr hlocks rfl dX9_variableIn_42 (Nat.le_of_ble_eq_true rfl) (Nat.le_of_ble_eq_true rfl) hw6 ⟨_, rfl, (xval.i (q := 76) (i := a2) hw6 hc7.1 rfl), h⟩
    · replace h := h.2 z4
      refine xi_aload_n C 0 dX9_variableIn_20 rfl rfl ?_
      refine xi_iconst C (v := 3) dX9_variableIn_21 rfl ?_
      refine xc_Vi C hw3 (c_X9_fails l D ca ad tF 3 S14 _ (by decide) h) xk_X9_fails xv_X9_fails xl_X9_297 ⟨Nat.le_of_ble_eq_true rfl, Nat.le_of_ble_eq_true rfl⟩ xK_X9 (q := 54) rfl rfl rfl (Nat.le_of_ble_eq_true rfl) ⟨Nat.le_of_ble_eq_true rfl, Nat.le_of_ble_eq_true rfl⟩ dX9_variableIn_22 (fun r22 S22 h_r22 h hw8 => ?_)
      exact xr_i C hA hZ hr hlocks rfl dX9_variableIn_25 (Nat.le_of_ble_eq_true rfl) (Nat.le_of_ble_eq_true rfl) hw8 ⟨_, rfl, h_r22, h⟩
  · replace h := h.2 z2
    refine xi_iconst C (v := 0) dX9_variableIn_8 rfl ?_
    exact xr_i C hA hZ hr hlocks rfl dX9_variableIn_9 (Nat.le_of_ble_eq_true rfl) (Nat.le_of_ble_eq_true rfl) hw1 ⟨_, rfl, (by decide), h⟩
set_option maxRecDepth 100000 in
set_option maxHeartbeats 4000000 in
theorem c_X9_made (l : Launch) (D : va_G) (ca : Nat → ClassId) (ad : Nat → Nat) (tF : Nat)  (S : xS) (Q : Int → xS → Prop)  (h : w_X9_made  S Q) : xM l yX9_made (xws yX9_made cX9_made 1 (some .long)) ({ frames := 1, cells := 0, slots := 0, locals := 20 }) (gC D ca ad tF) [.ref (ad 54)] S (xQj Q) 0 0 := by
  refine xm_of RX9 rfl (by decide +kernel) (Nat.le_of_ble_eq_true rfl) ?_
  intro p e s m args below meth c A Z C hA hZ hr hlocks hw
  unfold w_X9_made at h
  show xV (gC D ca ad tF) p l e ({ frames := 1, cells := 0, slots := 0, locals := 20 }) s m args below meth c A 1 Z 0 0 0 [(0, .ref (ad 54))] [] S
  refine xi_aload_n C 0 dX9_made_0 rfl rfl ?_
  refine xc_Vi C hw (c_X9_isThere l D ca ad tF S _ h) xk_X9_isThere xv_X9_isThere xl_X9_323 ⟨Nat.le_of_ble_eq_true rfl, Nat.le_of_ble_eq_true rfl⟩ xK_X9 (q := 54) rfl rfl rfl (Nat.le_of_ble_eq_true rfl) ⟨Nat.le_of_ble_eq_true rfl, Nat.le_of_ble_eq_true rfl⟩ dX9_made_1 (fun r1 S1 h_r1 h hw1 => ?_)
  refine xi_if_eq C 14 h_r1 dX9_made_4 (by decide) (fun z2 => ?_) (fun z2 => ?_)
  · replace h := h.1 z2
    refine xi_lconst C (v := 0) dX9_made_14 (by decide +kernel) ?_
    exact xr_j C hA hZ hr hlocks dX9_made_15 (Nat.le_of_ble_eq_true rfl) (Nat.le_of_ble_eq_true rfl) hw1 ⟨_, rfl, (by decide), h⟩
  · replace h := h.2 z2
    refine xi_aload_n C 0 dX9_made_7 rfl rfl ?_
    refine xi_getJ C xK_X9 (q := 54) (r := 0) rfl 12 (by decide) (ki := 12) rfl xl_X9_276 rfl dX9_made_8 ?_
    refine xi_goto C 15 dX9_made_11 (by decide) ?_
    exact xr_j C hA hZ hr hlocks dX9_made_15 (Nat.le_of_ble_eq_true rfl) (Nat.le_of_ble_eq_true rfl) hw1 ⟨_, rfl, (xval.j (q := 54) (i := 12) hw1 (by decide) rfl), h⟩
set_option maxRecDepth 100000 in
set_option maxHeartbeats 4000000 in
theorem c_X9_isFault (l : Launch) (D : va_G) (ca : Nat → ClassId) (ad : Nat → Nat) (tF : Nat)  (S : xS) (Q : Int → xS → Prop)  (h : w_X9_isFault  S Q) : xM l yX9_isFault (xws yX9_isFault cX9_isFault 1 (some .boolean)) ({ frames := 1, cells := 0, slots := 0, locals := 20 }) (gC D ca ad tF) [.ref (ad 54)] S (xQi Q) 0 0 := by
  refine xm_of RX9 rfl (by decide +kernel) (Nat.le_of_ble_eq_true rfl) ?_
  intro p e s m args below meth c A Z C hA hZ hr hlocks hw
  unfold w_X9_isFault at h
  show xV (gC D ca ad tF) p l e ({ frames := 1, cells := 0, slots := 0, locals := 20 }) s m args below meth c A 1 Z 0 0 0 [(0, .ref (ad 54))] [] S
  refine xi_aload_n C 0 dX9_isFault_0 rfl rfl ?_
  refine xc_Vi C hw (c_X9_isThere l D ca ad tF S _ h) xk_X9_isThere xv_X9_isThere xl_X9_323 ⟨Nat.le_of_ble_eq_true rfl, Nat.le_of_ble_eq_true rfl⟩ xK_X9 (q := 54) rfl rfl rfl (Nat.le_of_ble_eq_true rfl) ⟨Nat.le_of_ble_eq_true rfl, Nat.le_of_ble_eq_true rfl⟩ dX9_isFault_1 (fun r1 S1 h_r1 h hw1 => ?_)
  refine xJ0_w (fun  S19 => xval (gC D ca ad tF) S19 → xV (gC D ca ad tF) p l e ({ frames := 1, cells := 0, slots := 0, locals := 20 }) s m args below meth c A 1 Z 0 0 19 [(0, .ref (ad 54))] [] S19) h (fun  S19 h  hw19 => ?_) (fun j19 hj19 h => ?_)
  · unfold w_X9_isFault_J19 at h
    refine xi_aload_n C 0 dX9_isFault_19 rfl rfl ?_
    refine xi_getI C xK_X9 (q := 54) (r := 0) rfl 0 (by decide) (ki := 0) rfl xl_X9_142 rfl dX9_isFault_20 ?_
    refine xi_if_ne C 30 (xval.i (q := 54) (i := 0) hw19 (by decide) rfl) dX9_isFault_23 (by decide) (fun z3 => ?_) (fun z3 => ?_)
    · replace h := h.1 z3
      refine xi_iconst C (v := 0) dX9_isFault_30 rfl ?_
      exact xr_i C hA hZ hr hlocks (xnarZ (Or.inl rfl)).1 dX9_isFault_31 (Nat.le_of_ble_eq_true rfl) (Nat.le_of_ble_eq_true rfl) hw19 ⟨_, rfl, (by decide), h⟩
    · replace h := h.2 z3
      refine xi_iconst C (v := 1) dX9_isFault_26 rfl ?_
      refine xi_goto C 31 dX9_isFault_27 (by decide) ?_
      exact xr_i C hA hZ hr hlocks (xnarZ (Or.inr rfl)).1 dX9_isFault_31 (Nat.le_of_ble_eq_true rfl) (Nat.le_of_ble_eq_true rfl) hw19 ⟨_, rfl, (by decide), h⟩
  · refine xi_if_eq C 19 h_r1 dX9_isFault_4 (by decide) (fun z2 => ?_) (fun z2 => ?_)
    · replace h := h.1 z2
      exact xi_sub [0] rfl (hj19 S1 h hw1)
    · replace h := h.2 z2
      refine xi_aload_n C 0 dX9_isFault_7 rfl rfl ?_
      refine xi_getI C xK_X9 (q := 54) (r := 0) rfl 7 (by decide) (ki := 7) rfl xl_X9_230 rfl dX9_isFault_8 ?_
      refine xi_if_ne C 19 (xval.i (q := 54) (i := 7) hw1 (by decide) rfl) dX9_isFault_11 (by decide) (fun z4 => ?_) (fun z4 => ?_)
      · replace h := h.1 z4
        exact xi_sub [0] rfl (hj19 S1 h hw1)
      · replace h := h.2 z4
        refine xi_aload_n C 0 dX9_isFault_14 rfl rfl ?_
        refine xi_iconst C (v := 2) dX9_isFault_15 rfl ?_
        refine xi_putI C xK_X9 (q := 54) (r := 0) rfl 0 (by decide) (ki := 0) rfl xl_X9_142 rfl rfl rfl dX9_isFault_16 ?_
        have hw5 := xval.up (q := 54) (i := 0) (v := 2) hw1 rfl (by decide)
        exact xi_sub [0] rfl (hj19 (xup S1 54 0 2) h hw5)
set_option maxRecDepth 100000 in
set_option maxHeartbeats 4000000 in
theorem c_X9_fault (l : Launch) (D : va_G) (ca : Nat → ClassId) (ad : Nat → Nat) (tF : Nat)  (S : xS) (Q : Int → xS → Prop)  (h : w_X9_fault  S Q) : xM l yX9_fault (xws yX9_fault cX9_fault 1 (some .char)) ({ frames := 2, cells := 0, slots := 0, locals := 40 }) (gC D ca ad tF) [.ref (ad 54)] S (xQi Q) 0 0 := by
  refine xm_of RX9 rfl (by decide +kernel) (Nat.le_of_ble_eq_true rfl) ?_
  intro p e s m args below meth c A Z C hA hZ hr hlocks hw
  unfold w_X9_fault at h
  show xV (gC D ca ad tF) p l e ({ frames := 2, cells := 0, slots := 0, locals := 40 }) s m args below meth c A 1 Z 0 0 0 [(0, .ref (ad 54))] [] S
  refine xi_aload_n C 0 dX9_fault_0 rfl rfl ?_
  refine xc_Vi C hw (c_X9_isFault l D ca ad tF S _ h) xk_X9_isFault xv_X9_isFault xl_X9_335 ⟨Nat.le_of_ble_eq_true rfl, Nat.le_of_ble_eq_true rfl⟩ xK_X9 (q := 54) rfl rfl rfl (Nat.le_of_ble_eq_true rfl) ⟨Nat.le_of_ble_eq_true rfl, Nat.le_of_ble_eq_true rfl⟩ dX9_fault_1 (fun r1 S1 h_r1 h hw1 => ?_)
  refine xi_if_eq C 14 h_r1 dX9_fault_4 (by decide) (fun z2 => ?_) (fun z2 => ?_)
  · replace h := h.1 z2
    refine xi_iconst C (v := 0) dX9_fault_14 rfl ?_
    refine xi_i2c C dX9_fault_15 ?_
    exact xr_i C hA hZ hr hlocks (xnarC (by decide)).1 dX9_fault_16 (Nat.le_of_ble_eq_true rfl) (Nat.le_of_ble_eq_true rfl) hw1 ⟨_, rfl, (by decide), h⟩
  · replace h := h.2 z2
    refine xi_aload_n C 0 dX9_fault_7 rfl rfl ?_
    refine xi_getI C xK_X9 (q := 54) (r := 0) rfl 7 (by decide) (ki := 7) rfl xl_X9_230 rfl dX9_fault_8 ?_
    refine xi_goto C 15 dX9_fault_11 (by decide) ?_
    refine xi_i2c C dX9_fault_15 ?_
    obtain ⟨hc3, h⟩ := h
    exact xr_i C hA hZ hr hlocks (xnarC hc3).1 dX9_fault_16 (Nat.le_of_ble_eq_true rfl) (Nat.le_of_ble_eq_true rfl) hw1 ⟨_, rfl, (xR_c _), h⟩
set_option maxRecDepth 100000 in
set_option maxHeartbeats 4000000 in
theorem c_X9_length (l : Launch) (D : va_G) (ca : Nat → ClassId) (ad : Nat → Nat) (tF : Nat)  (S : xS) (Q : Int → xS → Prop)  (h : w_X9_length  S Q) : xM l yX9_length (xws yX9_length cX9_length 1 (some .int)) ({ frames := 0, cells := 0, slots := 0, locals := 0 }) (gC D ca ad tF) [.ref (ad 54)] S (xQi Q) 0 0 := by
  refine xm_of RX9 rfl (by decide +kernel) (Nat.le_of_ble_eq_true rfl) ?_
  intro p e s m args below meth c A Z C hA hZ hr hlocks hw
  unfold w_X9_length at h
  show xV (gC D ca ad tF) p l e ({ frames := 0, cells := 0, slots := 0, locals := 0 }) s m args below meth c A 1 Z 0 0 0 [(0, .ref (ad 54))] [] S
  refine xi_aload_n C 0 dX9_length_0 rfl rfl ?_
  refine xi_getR C xK_X9 (q := 54) (r := 70) rfl 30 (by decide) (ki := 30) rfl xl_X9_57 rfl dX9_length_1 ?_
  refine xi_aload_n C 0 dX9_length_4 rfl rfl ?_
  refine xi_getI C xK_X9 (q := 54) (r := 0) rfl 8 (by decide) (ki := 8) rfl xl_X9_233 rfl dX9_length_5 ?_
  obtain ⟨hc1, h⟩ := h
  refine xi_iaload C (q := 70) rfl (by decide) hc1 dX9_length_8 ?_
  refine xi_aload_n C 0 dX9_length_9 rfl rfl ?_
  refine xi_getI C xK_X9 (q := 54) (r := 0) rfl 7 (by decide) (ki := 7) rfl xl_X9_230 rfl dX9_length_10 ?_
  refine xi_bipush C (v := 97) dX9_length_13 (by decide +kernel) ?_
  refine xi_icmp_ne C 22 (xval.i (q := 54) (i := 7) hw (by decide) rfl) (by decide) dX9_length_15 (by decide) (fun z2 => ?_) (fun z2 => ?_)
  · replace h := h.1 z2
    refine xi_iconst C (v := 0) dX9_length_22 rfl ?_
    refine xi_iadd C dX9_length_23 ?_
    obtain ⟨hc3, h⟩ := h
    exact xr_i C hA hZ hr hlocks rfl dX9_length_24 (Nat.le_of_ble_eq_true rfl) (Nat.le_of_ble_eq_true rfl) hw ⟨_, rfl, hc3, h⟩
  · replace h := h.2 z2
    refine xi_iconst C (v := 1) dX9_length_18 rfl ?_
    refine xi_goto C 23 dX9_length_19 (by decide) ?_
    refine xi_iadd C dX9_length_23 ?_
    obtain ⟨hc4, h⟩ := h
    exact xr_i C hA hZ hr hlocks rfl dX9_length_24 (Nat.le_of_ble_eq_true rfl) (Nat.le_of_ble_eq_true rfl) hw ⟨_, rfl, hc4, h⟩
set_option maxRecDepth 100000 in
set_option maxHeartbeats 4000000 in
theorem c_X9_traceLength (l : Launch) (D : va_G) (ca : Nat → ClassId) (ad : Nat → Nat) (tF : Nat)  (S : xS) (Q : Int → xS → Prop)  (h : w_X9_traceLength  S Q) : xM l yX9_traceLength (xws yX9_traceLength cX9_traceLength 1 (some .int)) ({ frames := 2, cells := 0, slots := 0, locals := 40 }) (gC D ca ad tF) [.ref (ad 54)] S (xQi Q) 0 0 := by
  refine xm_of RX9 rfl (by decide +kernel) (Nat.le_of_ble_eq_true rfl) ?_
  intro p e s m args below meth c A Z C hA hZ hr hlocks hw
  unfold w_X9_traceLength at h
  show xV (gC D ca ad tF) p l e ({ frames := 2, cells := 0, slots := 0, locals := 40 }) s m args below meth c A 1 Z 0 0 0 [(0, .ref (ad 54))] [] S
  refine xi_aload_n C 0 dX9_traceLength_0 rfl rfl ?_
  refine xc_Vi C hw (c_X9_isFault l D ca ad tF S _ h) xk_X9_isFault xv_X9_isFault xl_X9_335 ⟨Nat.le_of_ble_eq_true rfl, Nat.le_of_ble_eq_true rfl⟩ xK_X9 (q := 54) rfl rfl rfl (Nat.le_of_ble_eq_true rfl) ⟨Nat.le_of_ble_eq_true rfl, Nat.le_of_ble_eq_true rfl⟩ dX9_traceLength_1 (fun r1 S1 h_r1 h hw1 => ?_)
  refine xi_if_eq C 14 h_r1 dX9_traceLength_4 (by decide) (fun z2 => ?_) (fun z2 => ?_)
  · replace h := h.1 z2
    refine xi_iconst C (v := 0) dX9_traceLength_14 rfl ?_
    exact xr_i C hA hZ hr hlocks rfl dX9_traceLength_15 (Nat.le_of_ble_eq_true rfl) (Nat.le_of_ble_eq_true rfl) hw1 ⟨_, rfl, (by decide), h⟩
  · replace h := h.2 z2
    refine xi_aload_n C 0 dX9_traceLength_7 rfl rfl ?_
    refine xc_Vi C hw1 (c_X9_length l D ca ad tF S1 _ h) xk_X9_length xv_X9_length xl_X9_338 ⟨Nat.le_of_ble_eq_true rfl, Nat.le_of_ble_eq_true rfl⟩ xK_X9 (q := 54) rfl rfl rfl (Nat.le_of_ble_eq_true rfl) ⟨Nat.le_of_ble_eq_true rfl, Nat.le_of_ble_eq_true rfl⟩ dX9_traceLength_8 (fun r8 S8 h_r8 h hw3 => ?_)
    refine xi_goto C 15 dX9_traceLength_11 (by decide) ?_
    exact xr_i C hA hZ hr hlocks rfl dX9_traceLength_15 (Nat.le_of_ble_eq_true rfl) (Nat.le_of_ble_eq_true rfl) hw3 ⟨_, rfl, h_r8, h⟩
set_option maxRecDepth 100000 in
set_option maxHeartbeats 4000000 in
theorem c_X9_traced (l : Launch) (D : va_G) (ca : Nat → ClassId) (ad : Nat → Nat) (tF : Nat) (a1 : Int) (S : xS) (Q : Int → xS → Prop) (h_a1 : xR a1) (h : w_X9_traced a1 S Q) : xM l yX9_traced (xws yX9_traced cX9_traced 3 (some .int)) ({ frames := 1, cells := 0, slots := 0, locals := 20 }) (gC D ca ad tF) [.ref (ad 54), .int (iN a1)] S (xQi Q) 0 0 := by
  refine xm_of RX9 rfl (by decide +kernel) (Nat.le_of_ble_eq_true rfl) ?_
  intro p e s m args below meth c A Z C hA hZ hr hlocks hw
  unfold w_X9_traced at h
  show xV (gC D ca ad tF) p l e ({ frames := 1, cells := 0, slots := 0, locals := 20 }) s m args below meth c A 3 Z 0 0 0 [(0, .ref (ad 54)), (1, .int (iN a1))] [] S
  refine xi_aload_n C 0 dX9_traced_0 rfl rfl ?_
  refine xi_getI C xK_X9 (q := 54) (r := 0) rfl 7 (by decide) (ki := 7) rfl xl_X9_230 rfl dX9_traced_1 ?_
  refine xi_bipush C (v := 97) dX9_traced_4 (by decide +kernel) ?_
  refine xJ0_w (fun  S24 => xval (gC D ca ad tF) S24 → xV (gC D ca ad tF) p l e ({ frames := 1, cells := 0, slots := 0, locals := 20 }) s m args below meth c A 3 Z 0 0 24 [(0, .ref (ad 54)), (1, .int (iN a1))] [] S24) h (fun  S24 h  hw24 => ?_) (fun j24 hj24 h => ?_)
  · unfold w_X9_traced_J24 at h
    refine xi_aload_n C 0 dX9_traced_24 rfl rfl ?_
    refine xi_getI C xK_X9 (q := 54) (r := 0) rfl 8 (by decide) (ki := 8) rfl xl_X9_233 rfl dX9_traced_25 ?_
    refine xi_istore_n C (L' := [(2, .int (iN (S24 54 8))), (0, .ref (ad 54)), (1, .int (iN a1))]) dX9_traced_28 rfl (by decide) rfl ?_
    refine xi_sub [1, 2, 0] rfl (xW1 (fun v2_29 S29 => xR v2_29 → xval (gC D ca ad tF) S29 → xV (gC D ca ad tF) p l e ({ frames := 1, cells := 0, slots := 0, locals := 20 }) s m args below meth c A 3 Z 0 0 29 [(0, .ref (ad 54)), (1, .int (iN a1)), (2, .int (iN v2_29))] [] S29) h (fun k29 hk29 v2_29 S29 h h_v2_29 hw29 => ?_) (xval.i (q := 54) (i := 8) hw24 (by decide) rfl) hw24)
    unfold w_X9_traced_L29 at h
    refine xi_aload_n C 0 dX9_traced_29 rfl rfl ?_
    refine xi_getR C xK_X9 (q := 54) (r := 70) rfl 30 (by decide) (ki := 30) rfl xl_X9_57 rfl dX9_traced_30 ?_
    refine xi_iload_n C 2 dX9_traced_33 rfl rfl ?_
    obtain ⟨hc2, h⟩ := h
    refine xi_iaload C (q := 70) rfl (by decide) hc2 dX9_traced_34 ?_
    refine xi_iload_n C 1 dX9_traced_35 rfl rfl ?_
    refine xi_iconst C (v := 1) dX9_traced_36 rfl ?_
    refine xi_iadd C dX9_traced_37 ?_
    obtain ⟨hc3, h⟩ := h
    refine xi_icmp_le C 51 (xval.i (q := 70) (i := v2_29) hw29 hc2.1 rfl) hc3 dX9_traced_38 (by decide) (fun z4 => ?_) (fun z4 => ?_)
    · replace h := h.1 z4
      refine xi_aload_n C 0 dX9_traced_51 rfl rfl ?_
      refine xi_getR C xK_X9 (q := 54) (r := 69) rfl 29 (by decide) (ki := 29) rfl xl_X9_54 rfl dX9_traced_52 ?_
      refine xi_iload_n C 2 dX9_traced_55 rfl rfl ?_
      refine xi_iaload C (q := 69) rfl (by decide) hc2 dX9_traced_56 ?_
      exact xr_i C hA hZ hr hlocks rfl dX9_traced_57 (Nat.le_of_ble_eq_true rfl) (Nat.le_of_ble_eq_true rfl) hw29 ⟨_, rfl, (xval.i (q := 69) (i := v2_29) hw29 hc2.1 rfl), h⟩
    · replace h := h.2 z4
      refine xi_aload_n C 0 dX9_traced_41 rfl rfl ?_
      refine xi_getR C xK_X9 (q := 54) (r := 68) rfl 28 (by decide) (ki := 28) rfl xl_X9_51 rfl dX9_traced_42 ?_
      refine xi_iload_n C 2 dX9_traced_45 rfl rfl ?_
      refine xi_iaload C (q := 68) rfl (by decide) hc2 dX9_traced_46 ?_
      refine xi_istore_n C (L' := [(2, .int (iN (S29 68 v2_29))), (0, .ref (ad 54)), (1, .int (iN a1))]) dX9_traced_47 rfl (by decide) rfl ?_
      refine xi_goto C 29 dX9_traced_48 (by decide) ?_
      exact xi_sub [1, 2, 0] rfl (hk29 (S29 68 v2_29) S29 h (xval.i (q := 68) (i := v2_29) hw29 hc2.1 rfl) hw29)
  · refine xi_icmp_ne C 24 (xval.i (q := 54) (i := 7) hw (by decide) rfl) (by decide) dX9_traced_6 (by decide) (fun z1 => ?_) (fun z1 => ?_)
    · replace h := h.1 z1
      exact xi_sub [0, 1] rfl (hj24 S h hw)
    · replace h := h.2 z1
      refine xi_iload_n C 1 dX9_traced_9 rfl rfl ?_
      refine xi_aload_n C 0 dX9_traced_10 rfl rfl ?_
      refine xc_Vi C hw (c_X9_length l D ca ad tF S _ h) xk_X9_length xv_X9_length xl_X9_338 ⟨Nat.le_of_ble_eq_true rfl, Nat.le_of_ble_eq_true rfl⟩ xK_X9 (q := 54) rfl rfl rfl (Nat.le_of_ble_eq_true rfl) ⟨Nat.le_of_ble_eq_true rfl, Nat.le_of_ble_eq_true rfl⟩ dX9_traced_11 (fun r11 S11 h_r11 h hw5 => ?_)
      refine xi_iconst C (v := 1) dX9_traced_14 rfl ?_
      refine xi_isub C dX9_traced_15 ?_
      obtain ⟨hc6, h⟩ := h
      refine xi_icmp_ne C 24 h_a1 hc6 dX9_traced_16 (by decide) (fun z7 => ?_) (fun z7 => ?_)
      · replace h := h.1 z7
        exact xi_sub [0, 1] rfl (hj24 S11 h hw5)
      · replace h := h.2 z7
        refine xi_aload_n C 0 dX9_traced_19 rfl rfl ?_
        refine xi_getI C xK_X9 (q := 54) (r := 0) rfl 9 (by decide) (ki := 9) rfl xl_X9_273 rfl dX9_traced_20 ?_
        exact xr_i C hA hZ hr hlocks rfl dX9_traced_23 (Nat.le_of_ble_eq_true rfl) (Nat.le_of_ble_eq_true rfl) hw5 ⟨_, rfl, (xval.i (q := 54) (i := 9) hw5 (by decide) rfl), h⟩
set_option maxRecDepth 100000 in
set_option maxHeartbeats 4000000 in
theorem c_X9_traceProcess (l : Launch) (D : va_G) (ca : Nat → ClassId) (ad : Nat → Nat) (tF : Nat) (a1 : Int) (S : xS) (Q : Int → xS → Prop) (h_a1 : xR a1) (h : w_X9_traceProcess a1 S Q) : xM l yX9_traceProcess (xws yX9_traceProcess cX9_traceProcess 2 (some .int)) ({ frames := 2, cells := 0, slots := 0, locals := 42 }) (gC D ca ad tF) [.ref (ad 54), .int (iN a1)] S (xQi Q) 0 0 := by
  refine xm_of RX9 rfl (by decide +kernel) (Nat.le_of_ble_eq_true rfl) ?_
  intro p e s m args below meth c A Z C hA hZ hr hlocks hw
  unfold w_X9_traceProcess at h
  show xV (gC D ca ad tF) p l e ({ frames := 2, cells := 0, slots := 0, locals := 42 }) s m args below meth c A 2 Z 0 0 0 [(0, .ref (ad 54)), (1, .int (iN a1))] [] S
  refine xi_aload_n C 0 dX9_traceProcess_0 rfl rfl ?_
  refine xc_Vi C hw (c_X9_isFault l D ca ad tF S _ h) xk_X9_isFault xv_X9_isFault xl_X9_335 ⟨Nat.le_of_ble_eq_true rfl, Nat.le_of_ble_eq_true rfl⟩ xK_X9 (q := 54) rfl rfl rfl (Nat.le_of_ble_eq_true rfl) ⟨Nat.le_of_ble_eq_true rfl, Nat.le_of_ble_eq_true rfl⟩ dX9_traceProcess_1 (fun r1 S1 h_r1 h hw1 => ?_)
  refine xi_if_ne C 9 h_r1 dX9_traceProcess_4 (by decide) (fun z2 => ?_) (fun z2 => ?_)
  · replace h := h.1 z2
    refine xi_iload_n C 1 dX9_traceProcess_9 rfl rfl ?_
    refine xi_iconst C (v := 0) dX9_traceProcess_10 rfl ?_
    refine xi_aload_n C 0 dX9_traceProcess_11 rfl rfl ?_
    refine xc_Vi C hw1 (c_X9_length l D ca ad tF S1 _ h) xk_X9_length xv_X9_length xl_X9_338 ⟨Nat.le_of_ble_eq_true rfl, Nat.le_of_ble_eq_true rfl⟩ xK_X9 (q := 54) rfl rfl rfl (Nat.le_of_ble_eq_true rfl) ⟨Nat.le_of_ble_eq_true rfl, Nat.le_of_ble_eq_true rfl⟩ dX9_traceProcess_12 (fun r12 S12 h_r12 h hw3 => ?_)
    refine xi_iconst C (v := 1) dX9_traceProcess_15 rfl ?_
    refine xi_isub C dX9_traceProcess_16 ?_
    obtain ⟨hc4, h⟩ := h
    refine xc_Si C hw3 (c_X9_in l D ca ad tF a1 0 (r12 - 1) S12 _ h_a1 (by decide) hc4 h) xk_X9_in xs_X9_in xl_X9_294 ⟨Nat.le_of_ble_eq_true rfl, Nat.le_of_ble_eq_true rfl⟩ rfl rfl (Nat.le_of_ble_eq_true rfl) ⟨Nat.le_of_ble_eq_true rfl, Nat.le_of_ble_eq_true rfl⟩ dX9_traceProcess_17 (fun r17 S17 h_r17 h hw5 => ?_)
    refine xi_if_eq C 34 h_r17 dX9_traceProcess_20 (by decide) (fun z6 => ?_) (fun z6 => ?_)
    · replace h := h.1 z6
      refine xi_aload_n C 0 dX9_traceProcess_34 rfl rfl ?_
      refine xi_iconst C (v := 3) dX9_traceProcess_35 rfl ?_
      refine xc_Vi C hw5 (c_X9_fails l D ca ad tF 3 S17 _ (by decide) h) xk_X9_fails xv_X9_fails xl_X9_297 ⟨Nat.le_of_ble_eq_true rfl, Nat.le_of_ble_eq_true rfl⟩ xK_X9 (q := 54) rfl rfl rfl (Nat.le_of_ble_eq_true rfl) ⟨Nat.le_of_ble_eq_true rfl, Nat.le_of_ble_eq_true rfl⟩ dX9_traceProcess_36 (fun r36 S36 h_r36 h hw7 => ?_)
      exact xr_i C hA hZ hr hlocks rfl dX9_traceProcess_39 (Nat.le_of_ble_eq_true rfl) (Nat.le_of_ble_eq_true rfl) hw7 ⟨_, rfl, h_r36, h⟩
    · replace h := h.2 z6
      refine xi_aload_n C 0 dX9_traceProcess_23 rfl rfl ?_
      refine xi_iload_n C 1 dX9_traceProcess_24 rfl rfl ?_
      refine xc_Vi C hw5 (c_X9_traced l D ca ad tF a1 S17 _ h_a1 h) xk_X9_traced xv_X9_traced xl_X9_341 ⟨Nat.le_of_ble_eq_true rfl, Nat.le_of_ble_eq_true rfl⟩ xK_X9 (q := 54) rfl rfl rfl (Nat.le_of_ble_eq_true rfl) ⟨Nat.le_of_ble_eq_true rfl, Nat.le_of_ble_eq_true rfl⟩ dX9_traceProcess_25 (fun r25 S25 h_r25 h hw8 => ?_)
      refine xi_bipush C (v := 16) dX9_traceProcess_28 (by decide +kernel) ?_
      obtain ⟨hc9, h⟩ := h
      refine xi_idiv C h_r25 hc9 (by decide) (by decide) dX9_traceProcess_30 ?_
      refine xi_goto C 39 dX9_traceProcess_31 (by decide) ?_
      exact xr_i C hA hZ hr hlocks rfl dX9_traceProcess_39 (Nat.le_of_ble_eq_true rfl) (Nat.le_of_ble_eq_true rfl) hw8 ⟨_, rfl, (xR_div h_r25 hc9 (by decide) (by decide)), h⟩
  · replace h := h.2 z2
    refine xi_iconst C (v := 0) dX9_traceProcess_7 rfl ?_
    exact xr_i C hA hZ hr hlocks rfl dX9_traceProcess_8 (Nat.le_of_ble_eq_true rfl) (Nat.le_of_ble_eq_true rfl) hw1 ⟨_, rfl, (by decide), h⟩
set_option maxRecDepth 100000 in
set_option maxHeartbeats 4000000 in
theorem c_X9_traceStep (l : Launch) (D : va_G) (ca : Nat → ClassId) (ad : Nat → Nat) (tF : Nat) (a1 : Int) (S : xS) (Q : Int → xS → Prop) (h_a1 : xR a1) (h : w_X9_traceStep a1 S Q) : xM l yX9_traceStep (xws yX9_traceStep cX9_traceStep 2 (some .int)) ({ frames := 2, cells := 0, slots := 0, locals := 42 }) (gC D ca ad tF) [.ref (ad 54), .int (iN a1)] S (xQi Q) 0 0 := by
  refine xm_of RX9 rfl (by decide +kernel) (Nat.le_of_ble_eq_true rfl) ?_
  intro p e s m args below meth c A Z C hA hZ hr hlocks hw
  unfold w_X9_traceStep at h
  show xV (gC D ca ad tF) p l e ({ frames := 2, cells := 0, slots := 0, locals := 42 }) s m args below meth c A 2 Z 0 0 0 [(0, .ref (ad 54)), (1, .int (iN a1))] [] S
  refine xi_aload_n C 0 dX9_traceStep_0 rfl rfl ?_
  refine xc_Vi C hw (c_X9_isFault l D ca ad tF S _ h) xk_X9_isFault xv_X9_isFault xl_X9_335 ⟨Nat.le_of_ble_eq_true rfl, Nat.le_of_ble_eq_true rfl⟩ xK_X9 (q := 54) rfl rfl rfl (Nat.le_of_ble_eq_true rfl) ⟨Nat.le_of_ble_eq_true rfl, Nat.le_of_ble_eq_true rfl⟩ dX9_traceStep_1 (fun r1 S1 h_r1 h hw1 => ?_)
  refine xi_if_ne C 9 h_r1 dX9_traceStep_4 (by decide) (fun z2 => ?_) (fun z2 => ?_)
  · replace h := h.1 z2
    refine xi_iload_n C 1 dX9_traceStep_9 rfl rfl ?_
    refine xi_iconst C (v := 0) dX9_traceStep_10 rfl ?_
    refine xi_aload_n C 0 dX9_traceStep_11 rfl rfl ?_
    refine xc_Vi C hw1 (c_X9_length l D ca ad tF S1 _ h) xk_X9_length xv_X9_length xl_X9_338 ⟨Nat.le_of_ble_eq_true rfl, Nat.le_of_ble_eq_true rfl⟩ xK_X9 (q := 54) rfl rfl rfl (Nat.le_of_ble_eq_true rfl) ⟨Nat.le_of_ble_eq_true rfl, Nat.le_of_ble_eq_true rfl⟩ dX9_traceStep_12 (fun r12 S12 h_r12 h hw3 => ?_)
    refine xi_iconst C (v := 1) dX9_traceStep_15 rfl ?_
    refine xi_isub C dX9_traceStep_16 ?_
    obtain ⟨hc4, h⟩ := h
    refine xc_Si C hw3 (c_X9_in l D ca ad tF a1 0 (r12 - 1) S12 _ h_a1 (by decide) hc4 h) xk_X9_in xs_X9_in xl_X9_294 ⟨Nat.le_of_ble_eq_true rfl, Nat.le_of_ble_eq_true rfl⟩ rfl rfl (Nat.le_of_ble_eq_true rfl) ⟨Nat.le_of_ble_eq_true rfl, Nat.le_of_ble_eq_true rfl⟩ dX9_traceStep_17 (fun r17 S17 h_r17 h hw5 => ?_)
    refine xi_if_eq C 34 h_r17 dX9_traceStep_20 (by decide) (fun z6 => ?_) (fun z6 => ?_)
    · replace h := h.1 z6
      refine xi_aload_n C 0 dX9_traceStep_34 rfl rfl ?_
      refine xi_iconst C (v := 3) dX9_traceStep_35 rfl ?_
      refine xc_Vi C hw5 (c_X9_fails l D ca ad tF 3 S17 _ (by decide) h) xk_X9_fails xv_X9_fails xl_X9_297 ⟨Nat.le_of_ble_eq_true rfl, Nat.le_of_ble_eq_true rfl⟩ xK_X9 (q := 54) rfl rfl rfl (Nat.le_of_ble_eq_true rfl) ⟨Nat.le_of_ble_eq_true rfl, Nat.le_of_ble_eq_true rfl⟩ dX9_traceStep_36 (fun r36 S36 h_r36 h hw7 => ?_)
      exact xr_i C hA hZ hr hlocks rfl dX9_traceStep_39 (Nat.le_of_ble_eq_true rfl) (Nat.le_of_ble_eq_true rfl) hw7 ⟨_, rfl, h_r36, h⟩
    · replace h := h.2 z6
      refine xi_aload_n C 0 dX9_traceStep_23 rfl rfl ?_
      refine xi_iload_n C 1 dX9_traceStep_24 rfl rfl ?_
      refine xc_Vi C hw5 (c_X9_traced l D ca ad tF a1 S17 _ h_a1 h) xk_X9_traced xv_X9_traced xl_X9_341 ⟨Nat.le_of_ble_eq_true rfl, Nat.le_of_ble_eq_true rfl⟩ xK_X9 (q := 54) rfl rfl rfl (Nat.le_of_ble_eq_true rfl) ⟨Nat.le_of_ble_eq_true rfl, Nat.le_of_ble_eq_true rfl⟩ dX9_traceStep_25 (fun r25 S25 h_r25 h hw8 => ?_)
      refine xi_bipush C (v := 16) dX9_traceStep_28 (by decide +kernel) ?_
      obtain ⟨hc9, h⟩ := h
      refine xi_irem C h_r25 hc9 (by decide) (by decide) dX9_traceStep_30 ?_
      refine xi_goto C 39 dX9_traceStep_31 (by decide) ?_
      exact xr_i C hA hZ hr hlocks rfl dX9_traceStep_39 (Nat.le_of_ble_eq_true rfl) (Nat.le_of_ble_eq_true rfl) hw8 ⟨_, rfl, (xR_mod h_r25 hc9 (by decide) (by decide)), h⟩
  · replace h := h.2 z2
    refine xi_iconst C (v := 0) dX9_traceStep_7 rfl ?_
    exact xr_i C hA hZ hr hlocks rfl dX9_traceStep_8 (Nat.le_of_ble_eq_true rfl) (Nat.le_of_ble_eq_true rfl) hw1 ⟨_, rfl, (by decide), h⟩
set_option maxRecDepth 100000 in
set_option maxHeartbeats 4000000 in
theorem c_X9_replays (l : Launch) (D : va_G) (ca : Nat → ClassId) (ad : Nat → Nat) (tF : Nat)  (S : xS) (Q : Int → xS → Prop)  (h : w_X9_replays  S Q) : xM l yX9_replays (xws yX9_replays cX9_replays 1 (some .boolean)) ({ frames := 2, cells := 0, slots := 0, locals := 40 }) (gC D ca ad tF) [.ref (ad 54)] S (xQi Q) 0 0 := by
  refine xm_of RX9 rfl (by decide +kernel) (Nat.le_of_ble_eq_true rfl) ?_
  intro p e s m args below meth c A Z C hA hZ hr hlocks hw
  unfold w_X9_replays at h
  show xV (gC D ca ad tF) p l e ({ frames := 2, cells := 0, slots := 0, locals := 40 }) s m args below meth c A 1 Z 0 0 0 [(0, .ref (ad 54))] [] S
  refine xi_aload_n C 0 dX9_replays_0 rfl rfl ?_
  refine xc_Vi C hw (c_X9_isFault l D ca ad tF S _ h) xk_X9_isFault xv_X9_isFault xl_X9_335 ⟨Nat.le_of_ble_eq_true rfl, Nat.le_of_ble_eq_true rfl⟩ xK_X9 (q := 54) rfl rfl rfl (Nat.le_of_ble_eq_true rfl) ⟨Nat.le_of_ble_eq_true rfl, Nat.le_of_ble_eq_true rfl⟩ dX9_replays_1 (fun r1 S1 h_r1 h hw1 => ?_)
  obtain ⟨hc2, h⟩ := h
  exact xr_i C hA hZ hr hlocks (xnarZ hc2).1 dX9_replays_4 (Nat.le_of_ble_eq_true rfl) (Nat.le_of_ble_eq_true rfl) hw1 ⟨_, rfl, h_r1, h⟩
set_option maxRecDepth 100000 in
set_option maxHeartbeats 4000000 in
theorem c_X9_isGraph (l : Launch) (D : va_G) (ca : Nat → ClassId) (ad : Nat → Nat) (tF : Nat)  (S : xS) (Q : Int → xS → Prop)  (h : w_X9_isGraph  S Q) : xM l yX9_isGraph (xws yX9_isGraph cX9_isGraph 1 (some .boolean)) ({ frames := 1, cells := 0, slots := 0, locals := 20 }) (gC D ca ad tF) [.ref (ad 54)] S (xQi Q) 0 0 := by
  refine xm_of RX9 rfl (by decide +kernel) (Nat.le_of_ble_eq_true rfl) ?_
  intro p e s m args below meth c A Z C hA hZ hr hlocks hw
  unfold w_X9_isGraph at h
  show xV (gC D ca ad tF) p l e ({ frames := 1, cells := 0, slots := 0, locals := 20 }) s m args below meth c A 1 Z 0 0 0 [(0, .ref (ad 54))] [] S
  refine xi_aload_n C 0 dX9_isGraph_0 rfl rfl ?_
  refine xi_getI C xK_X9 (q := 54) (r := 0) rfl 13 (by decide) (ki := 13) rfl xl_X9_291 rfl dX9_isGraph_1 ?_
  refine xi_if_eq C 29 (xval.i (q := 54) (i := 13) hw (by decide) rfl) dX9_isGraph_4 (by decide) (fun z1 => ?_) (fun z1 => ?_)
  · replace h := h.1 z1
    refine xi_iconst C (v := 0) dX9_isGraph_29 rfl ?_
    exact xr_i C hA hZ hr hlocks (xnarZ (Or.inl rfl)).1 dX9_isGraph_30 (Nat.le_of_ble_eq_true rfl) (Nat.le_of_ble_eq_true rfl) hw ⟨_, rfl, (by decide), h⟩
  · replace h := h.2 z1
    refine xi_aload_n C 0 dX9_isGraph_7 rfl rfl ?_
    refine xi_getI C xK_X9 (q := 54) (r := 0) rfl 4 (by decide) (ki := 4) rfl xl_X9_205 rfl dX9_isGraph_8 ?_
    refine xi_bipush C (v := 97) dX9_isGraph_11 (by decide +kernel) ?_
    refine xi_icmp_ne C 29 (xval.i (q := 54) (i := 4) hw (by decide) rfl) (by decide) dX9_isGraph_13 (by decide) (fun z2 => ?_) (fun z2 => ?_)
    · replace h := h.1 z2
      refine xi_iconst C (v := 0) dX9_isGraph_29 rfl ?_
      exact xr_i C hA hZ hr hlocks (xnarZ (Or.inl rfl)).1 dX9_isGraph_30 (Nat.le_of_ble_eq_true rfl) (Nat.le_of_ble_eq_true rfl) hw ⟨_, rfl, (by decide), h⟩
    · replace h := h.2 z2
      refine xi_aload_n C 0 dX9_isGraph_16 rfl rfl ?_
      refine xc_Vi C hw (c_X9_verdictNow l D ca ad tF S _ h) xk_X9_verdictNow xv_X9_verdictNow xl_X9_319 ⟨Nat.le_of_ble_eq_true rfl, Nat.le_of_ble_eq_true rfl⟩ xK_X9 (q := 54) rfl rfl rfl (Nat.le_of_ble_eq_true rfl) ⟨Nat.le_of_ble_eq_true rfl, Nat.le_of_ble_eq_true rfl⟩ dX9_isGraph_17 (fun r17 S17 h_r17 h hw3 => ?_)
      refine xi_bipush C (v := 110) dX9_isGraph_20 (by decide +kernel) ?_
      refine xi_icmp_ne C 29 h_r17 (by decide) dX9_isGraph_22 (by decide) (fun z4 => ?_) (fun z4 => ?_)
      · replace h := h.1 z4
        refine xi_iconst C (v := 0) dX9_isGraph_29 rfl ?_
        exact xr_i C hA hZ hr hlocks (xnarZ (Or.inl rfl)).1 dX9_isGraph_30 (Nat.le_of_ble_eq_true rfl) (Nat.le_of_ble_eq_true rfl) hw3 ⟨_, rfl, (by decide), h⟩
      · replace h := h.2 z4
        refine xi_iconst C (v := 1) dX9_isGraph_25 rfl ?_
        refine xi_goto C 30 dX9_isGraph_26 (by decide) ?_
        exact xr_i C hA hZ hr hlocks (xnarZ (Or.inr rfl)).1 dX9_isGraph_30 (Nat.le_of_ble_eq_true rfl) (Nat.le_of_ble_eq_true rfl) hw3 ⟨_, rfl, (by decide), h⟩
set_option maxRecDepth 100000 in
set_option maxHeartbeats 4000000 in
theorem c_X9_isAsked (l : Launch) (D : va_G) (ca : Nat → ClassId) (ad : Nat → Nat) (tF : Nat) (a1 : Int) (a2 : Int) (S : xS) (Q : Int → xS → Prop) (h_a1 : xR a1) (h_a2 : xR a2) (h : w_X9_isAsked a1 a2 S Q) : xM l yX9_isAsked (xws yX9_isAsked cX9_isAsked 3 (some .boolean)) ({ frames := 2, cells := 0, slots := 0, locals := 40 }) (gC D ca ad tF) [.ref (ad 54), .int (iN a1), .int (iN a2)] S (xQi Q) 0 0 := by
  refine xm_of RX9 rfl (by decide +kernel) (Nat.le_of_ble_eq_true rfl) ?_
  intro p e s m args below meth c A Z C hA hZ hr hlocks hw
  unfold w_X9_isAsked at h
  show xV (gC D ca ad tF) p l e ({ frames := 2, cells := 0, slots := 0, locals := 40 }) s m args below meth c A 3 Z 0 0 0 [(0, .ref (ad 54)), (1, .int (iN a1)), (2, .int (iN a2))] [] S
  refine xi_aload_n C 0 dX9_isAsked_0 rfl rfl ?_
  refine xi_iload_n C 1 dX9_isAsked_1 rfl rfl ?_
  refine xi_iconst C (v := 0) dX9_isAsked_2 rfl ?_
  refine xi_bipush C (v := 8) dX9_isAsked_3 (by decide +kernel) ?_
  refine xc_Si C hw (c_X9_in l D ca ad tF a1 0 8 S _ h_a1 (by decide) (by decide) h) xk_X9_in xs_X9_in xl_X9_294 ⟨Nat.le_of_ble_eq_true rfl, Nat.le_of_ble_eq_true rfl⟩ rfl rfl (Nat.le_of_ble_eq_true rfl) ⟨Nat.le_of_ble_eq_true rfl, Nat.le_of_ble_eq_true rfl⟩ dX9_isAsked_5 (fun r5 S5 h_r5 h hw1 => ?_)
  refine xJ1_w (fun t0_36 S36 => xR t0_36 → xval (gC D ca ad tF) S36 → xV (gC D ca ad tF) p l e ({ frames := 2, cells := 0, slots := 0, locals := 40 }) s m args below meth c A 3 Z 0 0 36 [(0, .ref (ad 54))] [.int (iN t0_36), .ref (ad 54)] S36) h (fun t0_36 S36 h h_t0_36 hw36 => ?_) (fun j36 hj36 h => ?_)
  · unfold w_X9_isAsked_J36 at h
    refine xi_putI C xK_X9 (q := 54) (r := 0) rfl 0 (by decide) (ki := 0) rfl xl_X9_142 rfl rfl rfl dX9_isAsked_36 ?_
    have hw3 := xval.up (q := 54) (i := 0) (v := t0_36) hw36 rfl h_t0_36
    refine xi_aload_n C 0 dX9_isAsked_39 rfl rfl ?_
    refine xi_getI C xK_X9 (q := 54) (r := 0) rfl 0 (by decide) (ki := 0) rfl xl_X9_142 rfl dX9_isAsked_40 ?_
    refine xi_if_ne C 50 (xval.i (q := 54) (i := 0) hw3 (by decide) rfl) dX9_isAsked_43 (by decide) (fun z4 => ?_) (fun z4 => ?_)
    · replace h := h.1 z4
      refine xi_iconst C (v := 0) dX9_isAsked_50 rfl ?_
      exact xr_i C hA hZ hr hlocks (xnarZ (Or.inl rfl)).1 dX9_isAsked_51 (Nat.le_of_ble_eq_true rfl) (Nat.le_of_ble_eq_true rfl) hw3 ⟨_, rfl, (by decide), h⟩
    · replace h := h.2 z4
      refine xi_iconst C (v := 1) dX9_isAsked_46 rfl ?_
      refine xi_goto C 51 dX9_isAsked_47 (by decide) ?_
      exact xr_i C hA hZ hr hlocks (xnarZ (Or.inr rfl)).1 dX9_isAsked_51 (Nat.le_of_ble_eq_true rfl) (Nat.le_of_ble_eq_true rfl) hw3 ⟨_, rfl, (by decide), h⟩
  · refine xJ0_w (fun  S20 => xval (gC D ca ad tF) S20 → xV (gC D ca ad tF) p l e ({ frames := 2, cells := 0, slots := 0, locals := 40 }) s m args below meth c A 3 Z 0 0 20 [(0, .ref (ad 54))] [.ref (ad 54)] S20) h (fun  S20 h  hw20 => ?_) (fun j20 hj20 h => ?_)
    · unfold w_X9_isAsked_J20 at h
      refine xi_iconst C (v := 1) dX9_isAsked_20 rfl ?_
      refine xi_goto C 36 dX9_isAsked_21 (by decide) ?_
      exact xi_sub [0] rfl (hj36 1 S20 h (by decide) hw20)
    · refine xi_if_eq C 20 h_r5 dX9_isAsked_8 (by decide) (fun z2 => ?_) (fun z2 => ?_)
      · replace h := h.1 z2
        exact xi_sub [0] rfl (hj20 S5 h hw1)
      · replace h := h.2 z2
        refine xi_iload_n C 2 dX9_isAsked_11 rfl rfl ?_
        refine xi_iconst C (v := 0) dX9_isAsked_12 rfl ?_
        refine xi_iconst C (v := 3) dX9_isAsked_13 rfl ?_
        refine xc_Si C hw1 (c_X9_in l D ca ad tF a2 0 3 S5 _ h_a2 (by decide) (by decide) h) xk_X9_in xs_X9_in xl_X9_294 ⟨Nat.le_of_ble_eq_true rfl, Nat.le_of_ble_eq_true rfl⟩ rfl rfl (Nat.le_of_ble_eq_true rfl) ⟨Nat.le_of_ble_eq_true rfl, Nat.le_of_ble_eq_true rfl⟩ dX9_isAsked_14 (fun r14 S14 h_r14 h hw5 => ?_)
        refine xi_if_ne C 24 h_r14 dX9_isAsked_17 (by decide) (fun z6 => ?_) (fun z6 => ?_)
        · replace h := h.1 z6
          refine xi_aload_n C 0 dX9_isAsked_24 rfl rfl ?_
          refine xc_Vi C hw5 (c_X9_isGraph l D ca ad tF S14 _ h) xk_X9_isGraph xv_X9_isGraph xl_X9_375 ⟨Nat.le_of_ble_eq_true rfl, Nat.le_of_ble_eq_true rfl⟩ xK_X9 (q := 54) rfl rfl rfl (Nat.le_of_ble_eq_true rfl) ⟨Nat.le_of_ble_eq_true rfl, Nat.le_of_ble_eq_true rfl⟩ dX9_isAsked_25 (fun r25 S25 h_r25 h hw7 => ?_)
          refine xi_if_ne C 35 h_r25 dX9_isAsked_28 (by decide) (fun z8 => ?_) (fun z8 => ?_)
          · replace h := h.1 z8
            refine xi_iconst C (v := 0) dX9_isAsked_35 rfl ?_
            exact xi_sub [0] rfl (hj36 0 S25 h (by decide) hw7)
          · replace h := h.2 z8
            refine xi_iconst C (v := 2) dX9_isAsked_31 rfl ?_
            refine xi_goto C 36 dX9_isAsked_32 (by decide) ?_
            exact xi_sub [0] rfl (hj36 2 S25 h (by decide) hw7)
        · replace h := h.2 z6
          exact xi_sub [0] rfl (hj20 S14 h hw5)
set_option maxRecDepth 100000 in
set_option maxHeartbeats 4000000 in
theorem c_X9_valueIn (l : Launch) (D : va_G) (ca : Nat → ClassId) (ad : Nat → Nat) (tF : Nat) (a1 : Int) (a2 : Int) (S : xS) (Q : Int → xS → Prop) (h_a1 : xR a1) (h_a2 : xR a2) (h : w_X9_valueIn a1 a2 S Q) : xM l yX9_valueIn (xws yX9_valueIn cX9_valueIn 3 (some .int)) ({ frames := 1, cells := 0, slots := 0, locals := 25 }) (gC D ca ad tF) [.ref (ad 54), .int (iN a1), .int (iN a2)] S (xQi Q) 0 0 := by
  refine xm_of RX9 rfl (by decide +kernel) (Nat.le_of_ble_eq_true rfl) ?_
  intro p e s m args below meth c A Z C hA hZ hr hlocks hw
  unfold w_X9_valueIn at h
  show xV (gC D ca ad tF) p l e ({ frames := 1, cells := 0, slots := 0, locals := 25 }) s m args below meth c A 3 Z 0 0 0 [(0, .ref (ad 54)), (1, .int (iN a1)), (2, .int (iN a2))] [] S
  refine xi_aload_n C 0 dX9_valueIn_0 rfl rfl ?_
  refine xi_aload_n C 0 dX9_valueIn_1 rfl rfl ?_
  refine xi_getR C xK_X9 (q := 54) (r := 67) rfl 27 (by decide) (ki := 27) rfl xl_X9_47 rfl dX9_valueIn_2 ?_
  refine xi_iload_n C 1 dX9_valueIn_5 rfl rfl ?_
  obtain ⟨hc1, h⟩ := h
  refine xi_laload C (q := 67) rfl (by decide) hc1 dX9_valueIn_6 ?_
  refine xc_Vv C hw (c_X9_opens l D ca ad tF (S 67 a1) S _ (xval.j (q := 67) (i := a1) hw hc1.1 rfl) h) xk_X9_opens xv_X9_opens xl_X9_253 ⟨Nat.le_of_ble_eq_true rfl, Nat.le_of_ble_eq_true rfl⟩ xK_X9 (q := 54) rfl rfl rfl (Nat.le_of_ble_eq_true rfl) ⟨Nat.le_of_ble_eq_true rfl, Nat.le_of_ble_eq_true rfl⟩ dX9_valueIn_7 (fun S7 h hw2 => ?_)
  refine xi_aload_n C 0 dX9_valueIn_10 rfl rfl ?_
  refine xi_getR C xK_X9 (q := 54) (r := 76) rfl 36 (by decide) (ki := 36) rfl xl_X9_76 rfl dX9_valueIn_11 ?_
  refine xi_iload_n C 2 dX9_valueIn_14 rfl rfl ?_
  obtain ⟨hc3, h⟩ := h
  refine xi_iaload C (q := 76) rfl (by decide) hc3 dX9_valueIn_15 ?_
  exact xr_i C hA hZ hr hlocks rfl dX9_valueIn_16 (Nat.le_of_ble_eq_true rfl) (Nat.le_of_ble_eq_true rfl) hw2 ⟨_, rfl, (xval.i (q := 76) (i := a2) hw2 hc3.1 rfl), h⟩
set_option maxRecDepth 100000 in
set_option maxHeartbeats 4000000 in
theorem c_X9_laysSet (l : Launch) (D : va_G) (ca : Nat → ClassId) (ad : Nat → Nat) (tF : Nat) (a1 : Int) (a2 : Int) (S : xS) (Q : xS → Prop) (h_a1 : xR a1) (h_a2 : xR a2) (h : w_X9_laysSet a1 a2 S Q) : xM l yX9_laysSet (xws yX9_laysSet cX9_laysSet 4 (none)) ({ frames := 2, cells := 0, slots := 0, locals := 47 }) (gC D ca ad tF) [.ref (ad 54), .int (iN a1), .int (iN a2)] S (xQv Q) 0 0 := by
  refine xm_of RX9 rfl (by decide +kernel) (Nat.le_of_ble_eq_true rfl) ?_
  intro p e s m args below meth c A Z C hA hZ hr hlocks hw
  unfold w_X9_laysSet at h
  show xV (gC D ca ad tF) p l e ({ frames := 2, cells := 0, slots := 0, locals := 47 }) s m args below meth c A 4 Z 0 0 0 [(0, .ref (ad 54)), (1, .int (iN a1)), (2, .int (iN a2))] [] S
  refine xi_iconst C (v := 0) dX9_laysSet_0 rfl ?_
  refine xi_istore_n C (L' := [(3, .int (iN 0)), (0, .ref (ad 54)), (1, .int (iN a1)), (2, .int (iN a2))]) dX9_laysSet_1 rfl (by decide) rfl ?_
  refine xi_sub [1, 2, 3, 0] rfl (xW1 (fun v3_2 S2 => xR v3_2 → xval (gC D ca ad tF) S2 → xV (gC D ca ad tF) p l e ({ frames := 2, cells := 0, slots := 0, locals := 47 }) s m args below meth c A 4 Z 0 0 2 [(0, .ref (ad 54)), (1, .int (iN a1)), (2, .int (iN a2)), (3, .int (iN v3_2))] [] S2) h (fun k2 hk2 v3_2 S2 h h_v3_2 hw2 => ?_) (by decide) hw)
  unfold w_X9_laysSet_L2 at h
  refine xi_iload_n C 3 dX9_laysSet_2 rfl rfl ?_
  refine xi_aload_n C 0 dX9_laysSet_3 rfl rfl ?_
  refine xi_getI C xK_X9 (q := 54) (r := 0) rfl 5 (by decide) (ki := 5) rfl xl_X9_224 rfl dX9_laysSet_4 ?_
  refine xi_icmp_ge C 37 h_v3_2 (xval.i (q := 54) (i := 5) hw2 (by decide) rfl) dX9_laysSet_7 (by decide) (fun z1 => ?_) (fun z1 => ?_)
  · replace h := h.1 z1
    exact xr_v C hA hZ hr hlocks dX9_laysSet_37 (Nat.le_of_ble_eq_true rfl) (Nat.le_of_ble_eq_true rfl) hw2 ⟨rfl, h⟩
  · replace h := h.2 z1
    refine xi_aload_n C 0 dX9_laysSet_10 rfl rfl ?_
    refine xi_getR C xK_X9 (q := 54) (r := 95) rfl 55 (by decide) (ki := 55) rfl xl_X9_133 rfl dX9_laysSet_11 ?_
    refine xi_iload_n C 3 dX9_laysSet_14 rfl rfl ?_
    refine xi_aload_n C 0 dX9_laysSet_15 rfl rfl ?_
    refine xi_iload_n C 3 dX9_laysSet_16 rfl rfl ?_
    refine xi_iload_n C 1 dX9_laysSet_17 rfl rfl ?_
    refine xc_Vi C hw2 (c_X9_valueIn l D ca ad tF v3_2 a1 S2 _ h_v3_2 h_a1 h) xk_X9_valueIn xv_X9_valueIn xl_X9_344 ⟨Nat.le_of_ble_eq_true rfl, Nat.le_of_ble_eq_true rfl⟩ xK_X9 (q := 54) rfl rfl rfl (Nat.le_of_ble_eq_true rfl) ⟨Nat.le_of_ble_eq_true rfl, Nat.le_of_ble_eq_true rfl⟩ dX9_laysSet_18 (fun r18 S18 h_r18 h hw2 => ?_)
    refine xi_iload_n C 2 dX9_laysSet_21 rfl rfl ?_
    refine xi_icmp_eq C 29 h_r18 h_a2 dX9_laysSet_22 (by decide) (fun z3 => ?_) (fun z3 => ?_)
    · replace h := h.1 z3
      refine xi_iconst C (v := 0) dX9_laysSet_29 rfl ?_
      obtain ⟨hc4, h⟩ := h
      refine xi_bastore C (q := 95) rfl (by decide) hc4 (Or.inl rfl) dX9_laysSet_30 ?_
      have hw5 := xval.up (q := 95) (i := v3_2) (v := 0) hw2 rfl (by decide)
      refine xi_iinc C (L' := [(3, .int (iN (v3_2 + 1))), (0, .ref (ad 54)), (1, .int (iN a1)), (2, .int (iN a2))]) 3 dX9_laysSet_31 rfl (by decide) rfl ?_
      refine xi_goto C 2 dX9_laysSet_34 (by decide) ?_
      obtain ⟨hc6, h⟩ := h
      exact xi_sub [1, 2, 3, 0] rfl (hk2 (v3_2 + 1) (xup S18 95 v3_2 0) h hc6 hw5)
    · replace h := h.2 z3
      refine xi_iconst C (v := 1) dX9_laysSet_25 rfl ?_
      refine xi_goto C 30 dX9_laysSet_26 (by decide) ?_
      obtain ⟨hc7, h⟩ := h
      refine xi_bastore C (q := 95) rfl (by decide) hc7 (Or.inr rfl) dX9_laysSet_30 ?_
      have hw8 := xval.up (q := 95) (i := v3_2) (v := 1) hw2 rfl (by decide)
      refine xi_iinc C (L' := [(3, .int (iN (v3_2 + 1))), (0, .ref (ad 54)), (1, .int (iN a1)), (2, .int (iN a2))]) 3 dX9_laysSet_31 rfl (by decide) rfl ?_
      refine xi_goto C 2 dX9_laysSet_34 (by decide) ?_
      obtain ⟨hc9, h⟩ := h
      exact xi_sub [1, 2, 3, 0] rfl (hk2 (v3_2 + 1) (xup S18 95 v3_2 1) h hc9 hw8)
set_option maxRecDepth 100000 in
set_option maxHeartbeats 4000000 in
theorem c_X9_enters (l : Launch) (D : va_G) (ca : Nat → ClassId) (ad : Nat → Nat) (tF : Nat) (a1 : Int) (S : xS) (Q : xS → Prop) (h_a1 : xR a1) (h : w_X9_enters a1 S Q) : xM l yX9_enters (xws yX9_enters cX9_enters 2 (none)) ({ frames := 0, cells := 0, slots := 0, locals := 0 }) (gC D ca ad tF) [.ref (ad 54), .int (iN a1)] S (xQv Q) 0 0 := by
  refine xm_of RX9 rfl (by decide +kernel) (Nat.le_of_ble_eq_true rfl) ?_
  intro p e s m args below meth c A Z C hA hZ hr hlocks hw
  unfold w_X9_enters at h
  show xV (gC D ca ad tF) p l e ({ frames := 0, cells := 0, slots := 0, locals := 0 }) s m args below meth c A 2 Z 0 0 0 [(0, .ref (ad 54)), (1, .int (iN a1))] [] S
  refine xi_aload_n C 0 dX9_enters_0 rfl rfl ?_
  refine xi_getR C xK_X9 (q := 54) (r := 87) rfl 47 (by decide) (ki := 47) rfl xl_X9_109 rfl dX9_enters_1 ?_
  refine xi_iload_n C 1 dX9_enters_4 rfl rfl ?_
  refine xi_aload_n C 0 dX9_enters_5 rfl rfl ?_
  refine xi_getI C xK_X9 (q := 54) (r := 0) rfl 60 (by decide) (ki := 60) rfl xl_X9_348 rfl dX9_enters_6 ?_
  obtain ⟨hc1, h⟩ := h
  refine xi_iastore C (q := 87) rfl (by decide) hc1 dX9_enters_9 ?_
  have hw2 := xval.up (q := 87) (i := a1) (v := S 54 60) hw rfl (xval.i (q := 54) (i := 60) hw (by decide) rfl)
  refine xi_aload_n C 0 dX9_enters_10 rfl rfl ?_
  refine xi_getR C xK_X9 (q := 54) (r := 88) rfl 48 (by decide) (ki := 48) rfl xl_X9_112 rfl dX9_enters_11 ?_
  refine xi_iload_n C 1 dX9_enters_14 rfl rfl ?_
  refine xi_aload_n C 0 dX9_enters_15 rfl rfl ?_
  refine xi_getI C xK_X9 (q := 54) (r := 0) rfl 60 (by decide) (ki := 60) rfl xl_X9_348 rfl dX9_enters_16 ?_
  refine xi_iastore C (q := 88) rfl (by decide) hc1 dX9_enters_19 ?_
  have hw3 := xval.up (q := 88) (i := a1) (v := S 54 60) hw2 rfl (xval.i (q := 54) (i := 60) hw2 (by decide) rfl)
  refine xi_aload_n C 0 dX9_enters_20 rfl rfl ?_
  refine xi_dup C dX9_enters_21 rfl ?_
  refine xi_getI C xK_X9 (q := 54) (r := 0) rfl 60 (by decide) (ki := 60) rfl xl_X9_348 rfl dX9_enters_22 ?_
  refine xi_iconst C (v := 1) dX9_enters_25 rfl ?_
  refine xi_iadd C dX9_enters_26 ?_
  obtain ⟨hc4, h⟩ := h
  refine xi_putI C xK_X9 (q := 54) (r := 0) rfl 60 (by decide) (ki := 60) rfl xl_X9_348 rfl rfl rfl dX9_enters_27 ?_
  have hw5 := xval.up (q := 54) (i := 60) (v := (S 54 60) + 1) hw3 rfl hc4
  refine xi_aload_n C 0 dX9_enters_30 rfl rfl ?_
  refine xi_getR C xK_X9 (q := 54) (r := 90) rfl 50 (by decide) (ki := 50) rfl xl_X9_118 rfl dX9_enters_31 ?_
  refine xi_aload_n C 0 dX9_enters_34 rfl rfl ?_
  refine xi_getI C xK_X9 (q := 54) (r := 0) rfl 59 (by decide) (ki := 59) rfl xl_X9_351 rfl dX9_enters_35 ?_
  refine xi_iload_n C 1 dX9_enters_38 rfl rfl ?_
  obtain ⟨hc6, h⟩ := h
  refine xi_iastore C (q := 90) rfl (by decide) hc6 dX9_enters_39 ?_
  have hw7 := xval.up (q := 90) (i := S 54 59) (v := a1) hw5 rfl h_a1
  refine xi_aload_n C 0 dX9_enters_40 rfl rfl ?_
  refine xi_dup C dX9_enters_41 rfl ?_
  refine xi_getI C xK_X9 (q := 54) (r := 0) rfl 59 (by decide) (ki := 59) rfl xl_X9_351 rfl dX9_enters_42 ?_
  refine xi_iconst C (v := 1) dX9_enters_45 rfl ?_
  refine xi_iadd C dX9_enters_46 ?_
  obtain ⟨hc8, h⟩ := h
  refine xi_putI C xK_X9 (q := 54) (r := 0) rfl 59 (by decide) (ki := 59) rfl xl_X9_351 rfl rfl rfl dX9_enters_47 ?_
  have hw9 := xval.up (q := 54) (i := 59) (v := (S 54 59) + 1) hw7 rfl hc8
  refine xi_aload_n C 0 dX9_enters_50 rfl rfl ?_
  refine xi_getR C xK_X9 (q := 54) (r := 96) rfl 56 (by decide) (ki := 56) rfl xl_X9_136 rfl dX9_enters_51 ?_
  refine xi_iload_n C 1 dX9_enters_54 rfl rfl ?_
  refine xi_iconst C (v := 1) dX9_enters_55 rfl ?_
  refine xi_bastore C (q := 96) rfl (by decide) hc1 (Or.inr rfl) dX9_enters_56 ?_
  have hw10 := xval.up (q := 96) (i := a1) (v := 1) hw9 rfl (by decide)
  refine xi_aload_n C 0 dX9_enters_57 rfl rfl ?_
  refine xi_getR C xK_X9 (q := 54) (r := 92) rfl 52 (by decide) (ki := 52) rfl xl_X9_124 rfl dX9_enters_58 ?_
  refine xi_iload_n C 1 dX9_enters_61 rfl rfl ?_
  refine xi_aload_n C 0 dX9_enters_62 rfl rfl ?_
  refine xi_getR C xK_X9 (q := 54) (r := 73) rfl 33 (by decide) (ki := 33) rfl xl_X9_66 rfl dX9_enters_63 ?_
  refine xi_iload_n C 1 dX9_enters_66 rfl rfl ?_
  refine xi_iaload C (q := 73) rfl (by decide) ⟨hc1.1, Int.lt_of_lt_of_le hc1.2 (by decide)⟩ dX9_enters_67 ?_
  refine xi_iastore C (q := 92) rfl (by decide) hc1 dX9_enters_68 ?_
  have hw11 := xval.up (q := 92) (i := a1) (v := S 73 a1) hw10 rfl (xval.i (q := 73) (i := a1) hw10 hc1.1 rfl)
  exact xr_v C hA hZ hr hlocks dX9_enters_69 (Nat.le_of_ble_eq_true rfl) (Nat.le_of_ble_eq_true rfl) hw11 ⟨rfl, h⟩
set_option maxRecDepth 100000 in
set_option maxHeartbeats 4000000 in
theorem c_X9_goal (l : Launch) (D : va_G) (ca : Nat → ClassId) (ad : Nat → Nat) (tF : Nat) (a1 : Int) (S : xS) (Q : Int → xS → Prop) (h_a1 : xR a1) (h : w_X9_goal a1 S Q) : xM l yX9_goal (xws yX9_goal cX9_goal 2 (some .int)) ({ frames := 0, cells := 0, slots := 0, locals := 0 }) (gC D ca ad tF) [.ref (ad 54), .int (iN a1)] S (xQi Q) 0 0 := by
  refine xm_of RX9 rfl (by decide +kernel) (Nat.le_of_ble_eq_true rfl) ?_
  intro p e s m args below meth c A Z C hA hZ hr hlocks hw
  unfold w_X9_goal at h
  show xV (gC D ca ad tF) p l e ({ frames := 0, cells := 0, slots := 0, locals := 0 }) s m args below meth c A 2 Z 0 0 0 [(0, .ref (ad 54)), (1, .int (iN a1))] [] S
  refine xi_aload_n C 0 dX9_goal_0 rfl rfl ?_
  refine xi_getR C xK_X9 (q := 54) (r := 74) rfl 34 (by decide) (ki := 34) rfl xl_X9_70 rfl dX9_goal_1 ?_
  refine xi_iload_n C 1 dX9_goal_4 rfl rfl ?_
  obtain ⟨hc1, h⟩ := h
  refine xi_iaload C (q := 74) rfl (by decide) hc1 dX9_goal_5 ?_
  refine xi_bipush C (v := 8) dX9_goal_6 (by decide +kernel) ?_
  obtain ⟨hc2, h⟩ := h
  refine xi_idiv C (xval.i (q := 74) (i := a1) hw hc1.1 rfl) hc2 (by decide) (by decide) dX9_goal_8 ?_
  exact xr_i C hA hZ hr hlocks rfl dX9_goal_9 (Nat.le_of_ble_eq_true rfl) (Nat.le_of_ble_eq_true rfl) hw ⟨_, rfl, (xR_div (xval.i (q := 74) (i := a1) hw hc1.1 rfl) hc2 (by decide) (by decide)), h⟩
set_option maxRecDepth 100000 in
set_option maxHeartbeats 4000000 in
theorem c_X9_lesser (l : Launch) (D : va_G) (ca : Nat → ClassId) (ad : Nat → Nat) (tF : Nat) (a0 : Int) (a1 : Int) (S : xS) (Q : Int → xS → Prop) (h_a0 : xR a0) (h_a1 : xR a1) (h : w_X9_lesser a0 a1 S Q) : xM l yX9_lesser (xws yX9_lesser cX9_lesser 2 (some .int)) ({ frames := 0, cells := 0, slots := 0, locals := 0 }) (gC D ca ad tF) [.int (iN a0), .int (iN a1)] S (xQi Q) 0 0 := by
  refine xm_of RX9 rfl (by decide +kernel) (Nat.le_of_ble_eq_true rfl) ?_
  intro p e s m args below meth c A Z C hA hZ hr hlocks hw
  unfold w_X9_lesser at h
  show xV (gC D ca ad tF) p l e ({ frames := 0, cells := 0, slots := 0, locals := 0 }) s m args below meth c A 2 Z 0 0 0 [(0, .int (iN a0)), (1, .int (iN a1))] [] S
  refine xi_iload_n C 0 dX9_lesser_0 rfl rfl ?_
  refine xi_iload_n C 1 dX9_lesser_1 rfl rfl ?_
  refine xi_icmp_ge C 9 h_a0 h_a1 dX9_lesser_2 (by decide) (fun z1 => ?_) (fun z1 => ?_)
  · replace h := h.1 z1
    refine xi_iload_n C 1 dX9_lesser_9 rfl rfl ?_
    exact xr_i C hA hZ hr hlocks rfl dX9_lesser_10 (Nat.le_of_ble_eq_true rfl) (Nat.le_of_ble_eq_true rfl) hw ⟨_, rfl, h_a1, h⟩
  · replace h := h.2 z1
    refine xi_iload_n C 0 dX9_lesser_5 rfl rfl ?_
    refine xi_goto C 10 dX9_lesser_6 (by decide) ?_
    exact xr_i C hA hZ hr hlocks rfl dX9_lesser_10 (Nat.le_of_ble_eq_true rfl) (Nat.le_of_ble_eq_true rfl) hw ⟨_, rfl, h_a0, h⟩
set_option maxRecDepth 100000 in
set_option maxHeartbeats 4000000 in
theorem c_X9_closes (l : Launch) (D : va_G) (ca : Nat → ClassId) (ad : Nat → Nat) (tF : Nat) (a1 : Int) (S : xS) (Q : xS → Prop) (h_a1 : xR a1) (h : w_X9_closes a1 S Q) : xM l yX9_closes (xws yX9_closes cX9_closes 3 (none)) ({ frames := 0, cells := 0, slots := 0, locals := 0 }) (gC D ca ad tF) [.ref (ad 54), .int (iN a1)] S (xQv Q) 0 0 := by
  refine xm_of RX9 rfl (by decide +kernel) (Nat.le_of_ble_eq_true rfl) ?_
  intro p e s m args below meth c A Z C hA hZ hr hlocks hw
  unfold w_X9_closes at h
  show xV (gC D ca ad tF) p l e ({ frames := 0, cells := 0, slots := 0, locals := 0 }) s m args below meth c A 3 Z 0 0 0 [(0, .ref (ad 54)), (1, .int (iN a1))] [] S
  refine xi_aload_n C 0 dX9_closes_0 rfl rfl ?_
  refine xi_getR C xK_X9 (q := 54) (r := 88) rfl 48 (by decide) (ki := 48) rfl xl_X9_112 rfl dX9_closes_1 ?_
  refine xi_iload_n C 1 dX9_closes_4 rfl rfl ?_
  obtain ⟨hc1, h⟩ := h
  refine xi_iaload C (q := 88) rfl (by decide) hc1 dX9_closes_5 ?_
  refine xi_aload_n C 0 dX9_closes_6 rfl rfl ?_
  refine xi_getR C xK_X9 (q := 54) (r := 87) rfl 47 (by decide) (ki := 47) rfl xl_X9_109 rfl dX9_closes_7 ?_
  refine xi_iload_n C 1 dX9_closes_10 rfl rfl ?_
  refine xi_iaload C (q := 87) rfl (by decide) hc1 dX9_closes_11 ?_
  refine xi_icmp_eq C 16 (xval.i (q := 88) (i := a1) hw hc1.1 rfl) (xval.i (q := 87) (i := a1) hw hc1.1 rfl) dX9_closes_12 (by decide) (fun z2 => ?_) (fun z2 => ?_)
  · replace h := h.1 z2
    refine xi_iconst C (v := (-1)) dX9_closes_16 rfl ?_
    refine xi_istore_n C (L' := [(2, .int (iN (-1))), (0, .ref (ad 54)), (1, .int (iN a1))]) dX9_closes_17 rfl (by decide) rfl ?_
    refine xi_sub [1, 2, 0] rfl (xW1 (fun v2_18 S18 => xR v2_18 → xval (gC D ca ad tF) S18 → xV (gC D ca ad tF) p l e ({ frames := 0, cells := 0, slots := 0, locals := 0 }) s m args below meth c A 3 Z 0 0 18 [(0, .ref (ad 54)), (1, .int (iN a1)), (2, .int (iN v2_18))] [] S18) h (fun k18 hk18 v2_18 S18 h h_v2_18 hw18 => ?_) (by decide) hw)
    unfold w_X9_closes_L18 at h
    refine xi_iload_n C 2 dX9_closes_18 rfl rfl ?_
    refine xi_iload_n C 1 dX9_closes_19 rfl rfl ?_
    refine xi_icmp_eq C 63 h_v2_18 h_a1 dX9_closes_20 (by decide) (fun z3 => ?_) (fun z3 => ?_)
    · replace h := h.1 z3
      refine xi_aload_n C 0 dX9_closes_63 rfl rfl ?_
      refine xi_dup C dX9_closes_64 rfl ?_
      refine xi_getI C xK_X9 (q := 54) (r := 0) rfl 58 (by decide) (ki := 58) rfl xl_X9_354 rfl dX9_closes_65 ?_
      refine xi_iconst C (v := 1) dX9_closes_68 rfl ?_
      refine xi_iadd C dX9_closes_69 ?_
      obtain ⟨hc4, h⟩ := h
      refine xi_putI C xK_X9 (q := 54) (r := 0) rfl 58 (by decide) (ki := 58) rfl xl_X9_354 rfl rfl rfl dX9_closes_70 ?_
      have hw5 := xval.up (q := 54) (i := 58) (v := (S18 54 58) + 1) hw18 rfl hc4
      exact xr_v C hA hZ hr hlocks dX9_closes_73 (Nat.le_of_ble_eq_true rfl) (Nat.le_of_ble_eq_true rfl) hw5 ⟨rfl, h⟩
    · replace h := h.2 z3
      refine xi_aload_n C 0 dX9_closes_23 rfl rfl ?_
      refine xi_dup C dX9_closes_24 rfl ?_
      refine xi_getI C xK_X9 (q := 54) (r := 0) rfl 59 (by decide) (ki := 59) rfl xl_X9_351 rfl dX9_closes_25 ?_
      refine xi_iconst C (v := 1) dX9_closes_28 rfl ?_
      refine xi_isub C dX9_closes_29 ?_
      obtain ⟨hc6, h⟩ := h
      refine xi_putI C xK_X9 (q := 54) (r := 0) rfl 59 (by decide) (ki := 59) rfl xl_X9_351 rfl rfl rfl dX9_closes_30 ?_
      have hw7 := xval.up (q := 54) (i := 59) (v := (S18 54 59) - 1) hw18 rfl hc6
      refine xi_aload_n C 0 dX9_closes_33 rfl rfl ?_
      refine xi_getR C xK_X9 (q := 54) (r := 90) rfl 50 (by decide) (ki := 50) rfl xl_X9_118 rfl dX9_closes_34 ?_
      refine xi_aload_n C 0 dX9_closes_37 rfl rfl ?_
      refine xi_getI C xK_X9 (q := 54) (r := 0) rfl 59 (by decide) (ki := 59) rfl xl_X9_351 rfl dX9_closes_38 ?_
      obtain ⟨hc8, h⟩ := h
      refine xi_iaload C (q := 90) rfl (by decide) hc8 dX9_closes_41 ?_
      refine xi_istore_n C (L' := [(2, .int (iN (S18 90 ((S18 54 59) - 1)))), (0, .ref (ad 54)), (1, .int (iN a1))]) dX9_closes_42 rfl (by decide) rfl ?_
      refine xi_aload_n C 1 dX9_closes_43 rfl rfl ?_
      refine xi_getR C xK_X9 (q := 54) (r := 96) rfl 56 (by decide) (ki := 56) rfl xl_X9_136 rfl dX9_closes_44 ?_
      refine xi_iload_n C 0 dX9_closes_47 rfl rfl ?_
      refine xi_iconst C (v := 0) dX9_closes_48 rfl ?_
      obtain ⟨hc9, h⟩ := h
      refine xi_bastore C (q := 96) rfl (by decide) hc9 (Or.inl rfl) dX9_closes_49 ?_
      have hw10 := xval.up (q := 96) (i := S18 90 ((S18 54 59) - 1)) (v := 0) hw7 rfl (by decide)
      refine xi_aload_n C 1 dX9_closes_50 rfl rfl ?_
      refine xi_getR C xK_X9 (q := 54) (r := 89) rfl 49 (by decide) (ki := 49) rfl xl_X9_115 rfl dX9_closes_51 ?_
      refine xi_iload_n C 0 dX9_closes_54 rfl rfl ?_
      refine xi_aload_n C 1 dX9_closes_55 rfl rfl ?_
      refine xi_getI C xK_X9 (q := 54) (r := 0) rfl 58 (by decide) (ki := 58) rfl xl_X9_354 rfl dX9_closes_56 ?_
      refine xi_iastore C (q := 89) rfl (by decide) hc9 dX9_closes_59 ?_
      have hw11 := xval.up (q := 89) (i := S18 90 ((S18 54 59) - 1)) (v := S18 54 58) hw10 rfl (xval.i (q := 54) (i := 58) hw10 (by decide) rfl)
      refine xi_goto C 18 dX9_closes_60 (by decide) ?_
      exact xi_sub [1, 2, 0] rfl (hk18 (S18 90 ((S18 54 59) - 1)) (xup (xup (xup S18 54 59 ((S18 54 59) - 1)) 96 (S18 90 ((S18 54 59) - 1)) 0) 89 (S18 90 ((S18 54 59) - 1)) (S18 54 58)) h (xval.i (q := 90) (i := (S18 54 59) - 1) hw7 hc8.1 rfl) hw11)
  · replace h := h.2 z2
    exact xr_v C hA hZ hr hlocks dX9_closes_15 (Nat.le_of_ble_eq_true rfl) (Nat.le_of_ble_eq_true rfl) hw ⟨rfl, h⟩
set_option maxRecDepth 100000 in
set_option maxHeartbeats 4000000 in
theorem c_X9_walks (l : Launch) (D : va_G) (ca : Nat → ClassId) (ad : Nat → Nat) (tF : Nat) (a1 : Int) (S : xS) (Q : xS → Prop) (h_a1 : xR a1) (h : w_X9_walks a1 S Q) : xM l yX9_walks (xws yX9_walks cX9_walks 5 (none)) ({ frames := 1, cells := 0, slots := 0, locals := 22 }) (gC D ca ad tF) [.ref (ad 54), .int (iN a1)] S (xQv Q) 0 0 := by
  refine xm_of RX9 rfl (by decide +kernel) (Nat.le_of_ble_eq_true rfl) ?_
  intro p e s m args below meth c A Z C hA hZ hr hlocks hw
  unfold w_X9_walks at h
  show xV (gC D ca ad tF) p l e ({ frames := 1, cells := 0, slots := 0, locals := 22 }) s m args below meth c A 5 Z 0 0 0 [(0, .ref (ad 54)), (1, .int (iN a1))] [] S
  refine xi_iconst C (v := 1) dX9_walks_0 rfl ?_
  refine xi_istore_n C (L' := [(2, .int (iN 1)), (0, .ref (ad 54)), (1, .int (iN a1))]) dX9_walks_1 rfl (by decide) rfl ?_
  refine xi_aload_n C 1 dX9_walks_2 rfl rfl ?_
  refine xi_getR C xK_X9 (q := 54) (r := 91) rfl 51 (by decide) (ki := 51) rfl xl_X9_121 rfl dX9_walks_3 ?_
  refine xi_iconst C (v := 0) dX9_walks_6 rfl ?_
  refine xi_iload_n C 2 dX9_walks_7 rfl rfl ?_
  refine xi_iastore C (q := 91) rfl (by decide) (by decide) dX9_walks_8 ?_
  have hw1 := xval.up (q := 91) (i := 0) (v := a1) hw rfl h_a1
  refine xi_aload_n C 1 dX9_walks_9 rfl rfl ?_
  refine xi_iload_n C 2 dX9_walks_10 rfl rfl ?_
  refine xc_Vv C hw1 (c_X9_enters l D ca ad tF a1 (xup S 91 0 a1) _ h_a1 h) xk_X9_enters xv_X9_enters xl_X9_357 ⟨Nat.le_of_ble_eq_true rfl, Nat.le_of_ble_eq_true rfl⟩ xK_X9 (q := 54) rfl rfl rfl (Nat.le_of_ble_eq_true rfl) ⟨Nat.le_of_ble_eq_true rfl, Nat.le_of_ble_eq_true rfl⟩ dX9_walks_11 (fun S11 h hw2 => ?_)
  refine xi_sub [1, 0] rfl (xW1 (fun v2_14 S14 => xR v2_14 → xval (gC D ca ad tF) S14 → xV (gC D ca ad tF) p l e ({ frames := 1, cells := 0, slots := 0, locals := 22 }) s m args below meth c A 5 Z 0 0 14 [(0, .ref (ad 54)), (2, .int (iN v2_14))] [] S14) h (fun k14 hk14 v2_14 S14 h h_v2_14 hw14 => ?_) (by decide) hw2)
  unfold w_X9_walks_L14 at h
  refine xi_iload_n C 1 dX9_walks_14 rfl rfl ?_
  refine xi_if_le C 195 h_v2_14 dX9_walks_15 (by decide) (fun z3 => ?_) (fun z3 => ?_)
  · replace h := h.1 z3
    exact xr_v C hA hZ hr hlocks dX9_walks_195 (Nat.le_of_ble_eq_true rfl) (Nat.le_of_ble_eq_true rfl) hw14 ⟨rfl, h⟩
  · replace h := h.2 z3
    refine xi_aload_n C 0 dX9_walks_18 rfl rfl ?_
    refine xi_getR C xK_X9 (q := 54) (r := 91) rfl 51 (by decide) (ki := 51) rfl xl_X9_121 rfl dX9_walks_19 ?_
    refine xi_iload_n C 1 dX9_walks_22 rfl rfl ?_
    refine xi_iconst C (v := 1) dX9_walks_23 rfl ?_
    refine xi_isub C dX9_walks_24 ?_
    obtain ⟨hc4, h⟩ := h
    refine xi_iaload C (q := 91) rfl (by decide) hc4 dX9_walks_25 ?_
    refine xi_istore_n C (L' := [(3, .int (iN (S14 91 (v2_14 - 1)))), (0, .ref (ad 54)), (2, .int (iN v2_14))]) dX9_walks_26 rfl (by decide) rfl ?_
    refine xi_aload_n C 1 dX9_walks_27 rfl rfl ?_
    refine xi_getR C xK_X9 (q := 54) (r := 92) rfl 52 (by decide) (ki := 52) rfl xl_X9_124 rfl dX9_walks_28 ?_
    refine xi_iload_n C 0 dX9_walks_31 rfl rfl ?_
    obtain ⟨hc5, h⟩ := h
    refine xi_iaload C (q := 92) rfl (by decide) hc5 dX9_walks_32 ?_
    refine xi_aload_n C 1 dX9_walks_33 rfl rfl ?_
    refine xi_getR C xK_X9 (q := 54) (r := 73) rfl 33 (by decide) (ki := 33) rfl xl_X9_66 rfl dX9_walks_34 ?_
    refine xi_iload_n C 0 dX9_walks_37 rfl rfl ?_
    refine xi_iconst C (v := 1) dX9_walks_38 rfl ?_
    refine xi_iadd C dX9_walks_39 ?_
    obtain ⟨hc6, h⟩ := h
    refine xi_iaload C (q := 73) rfl (by decide) hc6 dX9_walks_40 ?_
    refine xi_icmp_ne C 94 (xval.i (q := 92) (i := S14 91 (v2_14 - 1)) hw14 hc5.1 rfl) (xval.i (q := 73) (i := (S14 91 (v2_14 - 1)) + 1) hw14 hc6.1 rfl) dX9_walks_41 (by decide) (fun z7 => ?_) (fun z7 => ?_)
    · replace h := h.1 z7
      refine xi_aload_n C 1 dX9_walks_94 rfl rfl ?_
      refine xi_aload_n C 1 dX9_walks_95 rfl rfl ?_
      refine xi_getR C xK_X9 (q := 54) (r := 92) rfl 52 (by decide) (ki := 52) rfl xl_X9_124 rfl dX9_walks_96 ?_
      refine xi_iload_n C 0 dX9_walks_99 rfl rfl ?_
      refine xi_iaload C (q := 92) rfl (by decide) hc5 dX9_walks_100 ?_
      refine xc_Vi C hw14 (c_X9_goal l D ca ad tF (S14 92 (S14 91 (v2_14 - 1))) S14 _ (xval.i (q := 92) (i := S14 91 (v2_14 - 1)) hw14 hc5.1 rfl) h) xk_X9_goal xv_X9_goal xl_X9_366 ⟨Nat.le_of_ble_eq_true rfl, Nat.le_of_ble_eq_true rfl⟩ xK_X9 (q := 54) rfl rfl rfl (Nat.le_of_ble_eq_true rfl) ⟨Nat.le_of_ble_eq_true rfl, Nat.le_of_ble_eq_true rfl⟩ dX9_walks_101 (fun r101 S101 h_r101 h hw8 => ?_)
      refine xi_istore C (L' := [(4, .int (iN r101)), (3, .int (iN (S14 91 (v2_14 - 1)))), (0, .ref (ad 54)), (2, .int (iN v2_14))]) dX9_walks_104 (by decide) rfl ?_
      refine xi_aload_n C 2 dX9_walks_106 rfl rfl ?_
      refine xi_getR C xK_X9 (q := 54) (r := 92) rfl 52 (by decide) (ki := 52) rfl xl_X9_124 rfl dX9_walks_107 ?_
      refine xi_iload_n C 1 dX9_walks_110 rfl rfl ?_
      refine xi_dup2 C dX9_walks_111 rfl rfl ?_
      refine xi_iaload C (q := 92) rfl (by decide) hc5 dX9_walks_112 ?_
      refine xi_iconst C (v := 1) dX9_walks_113 rfl ?_
      refine xi_iadd C dX9_walks_114 ?_
      obtain ⟨hc9, h⟩ := h
      refine xi_iastore C (q := 92) rfl (by decide) hc5 dX9_walks_115 ?_
      have hw10 := xval.up (q := 92) (i := S14 91 (v2_14 - 1)) (v := (S101 92 (S14 91 (v2_14 - 1))) + 1) hw8 rfl hc9
      refine xi_aload_n C 2 dX9_walks_116 rfl rfl ?_
      refine xi_getR C xK_X9 (q := 54) (r := 95) rfl 55 (by decide) (ki := 55) rfl xl_X9_133 rfl dX9_walks_117 ?_
      refine xi_iload C 0 dX9_walks_120 rfl ?_
      obtain ⟨hc11, h⟩ := h
      refine xi_baload C (q := 95) rfl (by decide) hc11 dX9_walks_122 ?_
      refine xi_if_ne C 129 (xval.i (q := 95) (i := r101) hw10 hc11.1 rfl) dX9_walks_123 (by decide) (fun z12 => ?_) (fun z12 => ?_)
      · replace h := h.1 z12
        refine xi_aload_n C 2 dX9_walks_129 rfl rfl ?_
        refine xi_getR C xK_X9 (q := 54) (r := 87) rfl 47 (by decide) (ki := 47) rfl xl_X9_109 rfl dX9_walks_130 ?_
        refine xi_iload C 0 dX9_walks_133 rfl ?_
        refine xi_iaload C (q := 87) rfl (by decide) hc11 dX9_walks_135 ?_
        refine xi_iconst C (v := (-1)) dX9_walks_136 rfl ?_
        refine xi_icmp_ne C 160 (xval.i (q := 87) (i := r101) hw10 hc11.1 rfl) (by decide) dX9_walks_137 (by decide) (fun z13 => ?_) (fun z13 => ?_)
        · replace h := h.1 z13
          refine xi_aload_n C 2 dX9_walks_160 rfl rfl ?_
          refine xi_getR C xK_X9 (q := 54) (r := 96) rfl 56 (by decide) (ki := 56) rfl xl_X9_136 rfl dX9_walks_161 ?_
          refine xi_iload C 0 dX9_walks_164 rfl ?_
          refine xi_baload C (q := 96) rfl (by decide) hc11 dX9_walks_166 ?_
          refine xi_if_eq C 192 (xval.i (q := 96) (i := r101) hw10 hc11.1 rfl) dX9_walks_167 (by decide) (fun z14 => ?_) (fun z14 => ?_)
          · replace h := h.1 z14
            refine xi_goto C 14 dX9_walks_192 (by decide) ?_
            exact xi_sub [2, 3] rfl (hk14 v2_14 (xup S101 92 (S14 91 (v2_14 - 1)) ((S101 92 (S14 91 (v2_14 - 1))) + 1)) h h_v2_14 hw10)
          · replace h := h.2 z14
            refine xi_aload_n C 2 dX9_walks_170 rfl rfl ?_
            refine xi_getR C xK_X9 (q := 54) (r := 88) rfl 48 (by decide) (ki := 48) rfl xl_X9_112 rfl dX9_walks_171 ?_
            refine xi_iload_n C 1 dX9_walks_174 rfl rfl ?_
            refine xi_aload_n C 2 dX9_walks_175 rfl rfl ?_
            refine xi_getR C xK_X9 (q := 54) (r := 88) rfl 48 (by decide) (ki := 48) rfl xl_X9_112 rfl dX9_walks_176 ?_
            refine xi_iload_n C 1 dX9_walks_179 rfl rfl ?_
            refine xi_iaload C (q := 88) rfl (by decide) hc5 dX9_walks_180 ?_
            refine xi_aload_n C 2 dX9_walks_181 rfl rfl ?_
            refine xi_getR C xK_X9 (q := 54) (r := 87) rfl 47 (by decide) (ki := 47) rfl xl_X9_109 rfl dX9_walks_182 ?_
            refine xi_iload C 0 dX9_walks_185 rfl ?_
            refine xi_iaload C (q := 87) rfl (by decide) hc11 dX9_walks_187 ?_
            refine xc_Si C hw10 (c_X9_lesser l D ca ad tF (S101 88 (S14 91 (v2_14 - 1))) (S101 87 r101) (xup S101 92 (S14 91 (v2_14 - 1)) ((S101 92 (S14 91 (v2_14 - 1))) + 1)) _ (xval.i (q := 88) (i := S14 91 (v2_14 - 1)) hw10 hc5.1 rfl) (xval.i (q := 87) (i := r101) hw10 hc11.1 rfl) h) xk_X9_lesser xs_X9_lesser xl_X9_363 ⟨Nat.le_of_ble_eq_true rfl, Nat.le_of_ble_eq_true rfl⟩ rfl rfl (Nat.le_of_ble_eq_true rfl) ⟨Nat.le_of_ble_eq_true rfl, Nat.le_of_ble_eq_true rfl⟩ dX9_walks_188 (fun r188 S188 h_r188 h hw15 => ?_)
            refine xi_iastore C (q := 88) rfl (by decide) hc5 dX9_walks_191 ?_
            have hw16 := xval.up (q := 88) (i := S14 91 (v2_14 - 1)) (v := r188) hw15 rfl h_r188
            refine xi_goto C 14 dX9_walks_192 (by decide) ?_
            exact xi_sub [2, 3] rfl (hk14 v2_14 (xup S188 88 (S14 91 (v2_14 - 1)) r188) h h_v2_14 hw16)
        · replace h := h.2 z13
          refine xi_aload_n C 2 dX9_walks_140 rfl rfl ?_
          refine xi_getR C xK_X9 (q := 54) (r := 91) rfl 51 (by decide) (ki := 51) rfl xl_X9_121 rfl dX9_walks_141 ?_
          refine xi_iload_n C 3 dX9_walks_144 rfl rfl ?_
          refine xi_iload C 0 dX9_walks_145 rfl ?_
          obtain ⟨hc17, h⟩ := h
          refine xi_iastore C (q := 91) rfl (by decide) hc17 dX9_walks_147 ?_
          have hw18 := xval.up (q := 91) (i := v2_14) (v := r101) hw10 rfl h_r101
          refine xi_iinc C (L' := [(2, .int (iN (v2_14 + 1))), (4, .int (iN r101)), (3, .int (iN (S14 91 (v2_14 - 1)))), (0, .ref (ad 54))]) 3 dX9_walks_148 rfl (by decide) rfl ?_
          refine xi_aload_n C 3 dX9_walks_151 rfl rfl ?_
          refine xi_iload C 1 dX9_walks_152 rfl ?_
          refine xc_Vv C hw18 (c_X9_enters l D ca ad tF r101 (xup (xup S101 92 (S14 91 (v2_14 - 1)) ((S101 92 (S14 91 (v2_14 - 1))) + 1)) 91 v2_14 r101) _ h_r101 h) xk_X9_enters xv_X9_enters xl_X9_357 ⟨Nat.le_of_ble_eq_true rfl, Nat.le_of_ble_eq_true rfl⟩ xK_X9 (q := 54) rfl rfl rfl (Nat.le_of_ble_eq_true rfl) ⟨Nat.le_of_ble_eq_true rfl, Nat.le_of_ble_eq_true rfl⟩ dX9_walks_154 (fun S154 h hw19 => ?_)
          refine xi_goto C 192 dX9_walks_157 (by decide) ?_
          refine xi_goto C 14 dX9_walks_192 (by decide) ?_
          obtain ⟨hc20, h⟩ := h
          exact xi_sub [3, 0] rfl (hk14 (v2_14 + 1) S154 h hc20 hw19)
      · replace h := h.2 z12
        refine xi_goto C 14 dX9_walks_126 (by decide) ?_
        exact xi_sub [2, 3] rfl (hk14 v2_14 (xup S101 92 (S14 91 (v2_14 - 1)) ((S101 92 (S14 91 (v2_14 - 1))) + 1)) h h_v2_14 hw10)
    · replace h := h.2 z7
      refine xi_aload_n C 1 dX9_walks_44 rfl rfl ?_
      refine xi_iload_n C 0 dX9_walks_45 rfl rfl ?_
      refine xc_Vv C hw14 (c_X9_closes l D ca ad tF (S14 91 (v2_14 - 1)) S14 _ (xval.i (q := 91) (i := v2_14 - 1) hw14 hc4.1 rfl) h) xk_X9_closes xv_X9_closes xl_X9_360 ⟨Nat.le_of_ble_eq_true rfl, Nat.le_of_ble_eq_true rfl⟩ xK_X9 (q := 54) rfl rfl rfl (Nat.le_of_ble_eq_true rfl) ⟨Nat.le_of_ble_eq_true rfl, Nat.le_of_ble_eq_true rfl⟩ dX9_walks_46 (fun S46 h hw21 => ?_)
      refine xi_iinc C (L' := [(2, .int (iN (v2_14 + (-1)))), (3, .int (iN (S14 91 (v2_14 - 1)))), (0, .ref (ad 54))]) 2 dX9_walks_49 rfl (by decide) rfl ?_
      refine xi_iload_n C 0 dX9_walks_52 rfl rfl ?_
      obtain ⟨hc22, h⟩ := h
      refine xi_if_le C 14 hc22 dX9_walks_53 (by decide) (fun z23 => ?_) (fun z23 => ?_)
      · replace h := h.1 z23
        exact xi_sub [2, 0] rfl (hk14 (v2_14 + (-1)) S46 h hc22 hw21)
      · replace h := h.2 z23
        refine xi_aload_n C 2 dX9_walks_56 rfl rfl ?_
        refine xi_getR C xK_X9 (q := 54) (r := 88) rfl 48 (by decide) (ki := 48) rfl xl_X9_112 rfl dX9_walks_57 ?_
        refine xi_aload_n C 2 dX9_walks_60 rfl rfl ?_
        refine xi_getR C xK_X9 (q := 54) (r := 91) rfl 51 (by decide) (ki := 51) rfl xl_X9_121 rfl dX9_walks_61 ?_
        refine xi_iload_n C 0 dX9_walks_64 rfl rfl ?_
        refine xi_iconst C (v := 1) dX9_walks_65 rfl ?_
        refine xi_isub C dX9_walks_66 ?_
        obtain ⟨hc24, h⟩ := h
        refine xi_iaload C (q := 91) rfl (by decide) hc24 dX9_walks_67 ?_
        refine xi_aload_n C 2 dX9_walks_68 rfl rfl ?_
        refine xi_getR C xK_X9 (q := 54) (r := 88) rfl 48 (by decide) (ki := 48) rfl xl_X9_112 rfl dX9_walks_69 ?_
        refine xi_aload_n C 2 dX9_walks_72 rfl rfl ?_
        refine xi_getR C xK_X9 (q := 54) (r := 91) rfl 51 (by decide) (ki := 51) rfl xl_X9_121 rfl dX9_walks_73 ?_
        refine xi_iload_n C 0 dX9_walks_76 rfl rfl ?_
        refine xi_iconst C (v := 1) dX9_walks_77 rfl ?_
        refine xi_isub C dX9_walks_78 ?_
        refine xi_iaload C (q := 91) rfl (by decide) hc24 dX9_walks_79 ?_
        obtain ⟨hc25, h⟩ := h
        refine xi_iaload C (q := 88) rfl (by decide) hc25 dX9_walks_80 ?_
        refine xi_aload_n C 2 dX9_walks_81 rfl rfl ?_
        refine xi_getR C xK_X9 (q := 54) (r := 88) rfl 48 (by decide) (ki := 48) rfl xl_X9_112 rfl dX9_walks_82 ?_
        refine xi_iload_n C 1 dX9_walks_85 rfl rfl ?_
        refine xi_iaload C (q := 88) rfl (by decide) hc5 dX9_walks_86 ?_
        refine xc_Si C hw21 (c_X9_lesser l D ca ad tF (S46 88 (S46 91 ((v2_14 + (-1)) - 1))) (S46 88 (S14 91 (v2_14 - 1))) S46 _ (xval.i (q := 88) (i := S46 91 ((v2_14 + (-1)) - 1)) hw21 hc25.1 rfl) (xval.i (q := 88) (i := S14 91 (v2_14 - 1)) hw21 hc5.1 rfl) h) xk_X9_lesser xs_X9_lesser xl_X9_363 ⟨Nat.le_of_ble_eq_true rfl, Nat.le_of_ble_eq_true rfl⟩ rfl rfl (Nat.le_of_ble_eq_true rfl) ⟨Nat.le_of_ble_eq_true rfl, Nat.le_of_ble_eq_true rfl⟩ dX9_walks_87 (fun r87 S87 h_r87 h hw26 => ?_)
        refine xi_iastore C (q := 88) rfl (by decide) hc25 dX9_walks_90 ?_
        have hw27 := xval.up (q := 88) (i := S46 91 ((v2_14 + (-1)) - 1)) (v := r87) hw26 rfl h_r87
        refine xi_goto C 14 dX9_walks_91 (by decide) ?_
        exact xi_sub [2, 0] rfl (hk14 (v2_14 + (-1)) (xup S87 88 (S46 91 ((v2_14 + (-1)) - 1)) r87) h hc22 hw27)
set_option maxRecDepth 100000 in
set_option maxHeartbeats 4000000 in
theorem c_X9_findsComponents (l : Launch) (D : va_G) (ca : Nat → ClassId) (ad : Nat → Nat) (tF : Nat)  (S : xS) (Q : xS → Prop)  (h : w_X9_findsComponents  S Q) : xM l yX9_findsComponents (xws yX9_findsComponents cX9_findsComponents 2 (none)) ({ frames := 2, cells := 0, slots := 0, locals := 46 }) (gC D ca ad tF) [.ref (ad 54)] S (xQv Q) 0 0 := by
  refine xm_of RX9 rfl (by decide +kernel) (Nat.le_of_ble_eq_true rfl) ?_
  intro p e s m args below meth c A Z C hA hZ hr hlocks hw
  unfold w_X9_findsComponents at h
  show xV (gC D ca ad tF) p l e ({ frames := 2, cells := 0, slots := 0, locals := 46 }) s m args below meth c A 2 Z 0 0 0 [(0, .ref (ad 54))] [] S
  refine xi_aload_n C 0 dX9_findsComponents_0 rfl rfl ?_
  refine xi_iconst C (v := 0) dX9_findsComponents_1 rfl ?_
  refine xi_putI C xK_X9 (q := 54) (r := 0) rfl 58 (by decide) (ki := 58) rfl xl_X9_354 rfl rfl rfl dX9_findsComponents_2 ?_
  have hw1 := xval.up (q := 54) (i := 58) (v := 0) hw rfl (by decide)
  refine xi_aload_n C 0 dX9_findsComponents_5 rfl rfl ?_
  refine xi_iconst C (v := 0) dX9_findsComponents_6 rfl ?_
  refine xi_putI C xK_X9 (q := 54) (r := 0) rfl 59 (by decide) (ki := 59) rfl xl_X9_351 rfl rfl rfl dX9_findsComponents_7 ?_
  have hw2 := xval.up (q := 54) (i := 59) (v := 0) hw1 rfl (by decide)
  refine xi_aload_n C 0 dX9_findsComponents_10 rfl rfl ?_
  refine xi_iconst C (v := 0) dX9_findsComponents_11 rfl ?_
  refine xi_putI C xK_X9 (q := 54) (r := 0) rfl 60 (by decide) (ki := 60) rfl xl_X9_348 rfl rfl rfl dX9_findsComponents_12 ?_
  have hw3 := xval.up (q := 54) (i := 60) (v := 0) hw2 rfl (by decide)
  refine xi_iconst C (v := 0) dX9_findsComponents_15 rfl ?_
  refine xi_istore_n C (L' := [(1, .int (iN 0)), (0, .ref (ad 54))]) dX9_findsComponents_16 rfl (by decide) rfl ?_
  refine xJ0_w (fun  S45 => xval (gC D ca ad tF) S45 → xV (gC D ca ad tF) p l e ({ frames := 2, cells := 0, slots := 0, locals := 46 }) s m args below meth c A 2 Z 0 0 45 [(0, .ref (ad 54))] [] S45) h (fun  S45 h  hw45 => ?_) (fun j45 hj45 h => ?_)
  · unfold w_X9_findsComponents_J45 at h
    refine xi_iconst C (v := 0) dX9_findsComponents_45 rfl ?_
    refine xi_istore_n C (L' := [(1, .int (iN 0)), (0, .ref (ad 54))]) dX9_findsComponents_46 rfl (by decide) rfl ?_
    refine xi_sub [1, 0] rfl (xW1 (fun v1_47 S47 => xR v1_47 → xval (gC D ca ad tF) S47 → xV (gC D ca ad tF) p l e ({ frames := 2, cells := 0, slots := 0, locals := 46 }) s m args below meth c A 2 Z 0 0 47 [(0, .ref (ad 54)), (1, .int (iN v1_47))] [] S47) h (fun k47 hk47 v1_47 S47 h h_v1_47 hw47 => ?_) (by decide) hw45)
    unfold w_X9_findsComponents_L47 at h
    refine xi_iload_n C 1 dX9_findsComponents_47 rfl rfl ?_
    refine xi_aload_n C 0 dX9_findsComponents_48 rfl rfl ?_
    refine xi_getI C xK_X9 (q := 54) (r := 0) rfl 5 (by decide) (ki := 5) rfl xl_X9_224 rfl dX9_findsComponents_49 ?_
    refine xi_icmp_ge C 85 h_v1_47 (xval.i (q := 54) (i := 5) hw47 (by decide) rfl) dX9_findsComponents_52 (by decide) (fun z4 => ?_) (fun z4 => ?_)
    · replace h := h.1 z4
      exact xr_v C hA hZ hr hlocks dX9_findsComponents_85 (Nat.le_of_ble_eq_true rfl) (Nat.le_of_ble_eq_true rfl) hw47 ⟨rfl, h⟩
    · replace h := h.2 z4
      refine xi_aload_n C 0 dX9_findsComponents_55 rfl rfl ?_
      refine xi_getR C xK_X9 (q := 54) (r := 95) rfl 55 (by decide) (ki := 55) rfl xl_X9_133 rfl dX9_findsComponents_56 ?_
      refine xi_iload_n C 1 dX9_findsComponents_59 rfl rfl ?_
      obtain ⟨hc5, h⟩ := h
      refine xi_baload C (q := 95) rfl (by decide) hc5 dX9_findsComponents_60 ?_
      refine xi_if_eq C 79 (xval.i (q := 95) (i := v1_47) hw47 hc5.1 rfl) dX9_findsComponents_61 (by decide) (fun z6 => ?_) (fun z6 => ?_)
      · replace h := h.1 z6
        refine xi_iinc C (L' := [(1, .int (iN (v1_47 + 1))), (0, .ref (ad 54))]) 1 dX9_findsComponents_79 rfl (by decide) rfl ?_
        refine xi_goto C 47 dX9_findsComponents_82 (by decide) ?_
        obtain ⟨hc7, h⟩ := h
        exact xi_sub [1, 0] rfl (hk47 (v1_47 + 1) S47 h hc7 hw47)
      · replace h := h.2 z6
        refine xi_aload_n C 0 dX9_findsComponents_64 rfl rfl ?_
        refine xi_getR C xK_X9 (q := 54) (r := 87) rfl 47 (by decide) (ki := 47) rfl xl_X9_109 rfl dX9_findsComponents_65 ?_
        refine xi_iload_n C 1 dX9_findsComponents_68 rfl rfl ?_
        refine xi_iaload C (q := 87) rfl (by decide) hc5 dX9_findsComponents_69 ?_
        refine xi_iconst C (v := (-1)) dX9_findsComponents_70 rfl ?_
        refine xi_icmp_ne C 79 (xval.i (q := 87) (i := v1_47) hw47 hc5.1 rfl) (by decide) dX9_findsComponents_71 (by decide) (fun z8 => ?_) (fun z8 => ?_)
        · replace h := h.1 z8
          refine xi_iinc C (L' := [(1, .int (iN (v1_47 + 1))), (0, .ref (ad 54))]) 1 dX9_findsComponents_79 rfl (by decide) rfl ?_
          refine xi_goto C 47 dX9_findsComponents_82 (by decide) ?_
          obtain ⟨hc9, h⟩ := h
          exact xi_sub [1, 0] rfl (hk47 (v1_47 + 1) S47 h hc9 hw47)
        · replace h := h.2 z8
          refine xi_aload_n C 0 dX9_findsComponents_74 rfl rfl ?_
          refine xi_iload_n C 1 dX9_findsComponents_75 rfl rfl ?_
          refine xc_Vv C hw47 (c_X9_walks l D ca ad tF v1_47 S47 _ h_v1_47 h) xk_X9_walks xv_X9_walks xl_X9_369 ⟨Nat.le_of_ble_eq_true rfl, Nat.le_of_ble_eq_true rfl⟩ xK_X9 (q := 54) rfl rfl rfl (Nat.le_of_ble_eq_true rfl) ⟨Nat.le_of_ble_eq_true rfl, Nat.le_of_ble_eq_true rfl⟩ dX9_findsComponents_76 (fun S76 h hw10 => ?_)
          refine xi_iinc C (L' := [(1, .int (iN (v1_47 + 1))), (0, .ref (ad 54))]) 1 dX9_findsComponents_79 rfl (by decide) rfl ?_
          refine xi_goto C 47 dX9_findsComponents_82 (by decide) ?_
          obtain ⟨hc11, h⟩ := h
          exact xi_sub [1, 0] rfl (hk47 (v1_47 + 1) S76 h hc11 hw10)
  · refine xi_sub [1, 0] rfl (xW1 (fun v1_17 S17 => xR v1_17 → xval (gC D ca ad tF) S17 → xV (gC D ca ad tF) p l e ({ frames := 2, cells := 0, slots := 0, locals := 46 }) s m args below meth c A 2 Z 0 0 17 [(0, .ref (ad 54)), (1, .int (iN v1_17))] [] S17) h (fun k17 hk17 v1_17 S17 h h_v1_17 hw17 => ?_) (by decide) hw3)
    unfold w_X9_findsComponents_L17 at h
    refine xi_iload_n C 1 dX9_findsComponents_17 rfl rfl ?_
    refine xi_aload_n C 0 dX9_findsComponents_18 rfl rfl ?_
    refine xi_getI C xK_X9 (q := 54) (r := 0) rfl 5 (by decide) (ki := 5) rfl xl_X9_224 rfl dX9_findsComponents_19 ?_
    refine xi_icmp_ge C 45 h_v1_17 (xval.i (q := 54) (i := 5) hw17 (by decide) rfl) dX9_findsComponents_22 (by decide) (fun z12 => ?_) (fun z12 => ?_)
    · replace h := h.1 z12
      exact xi_sub [0] rfl (hj45 S17 h hw17)
    · replace h := h.2 z12
      refine xi_aload_n C 0 dX9_findsComponents_25 rfl rfl ?_
      refine xi_getR C xK_X9 (q := 54) (r := 87) rfl 47 (by decide) (ki := 47) rfl xl_X9_109 rfl dX9_findsComponents_26 ?_
      refine xi_iload_n C 1 dX9_findsComponents_29 rfl rfl ?_
      refine xi_iconst C (v := (-1)) dX9_findsComponents_30 rfl ?_
      obtain ⟨hc13, h⟩ := h
      refine xi_iastore C (q := 87) rfl (by decide) hc13 dX9_findsComponents_31 ?_
      have hw14 := xval.up (q := 87) (i := v1_17) (v := (-1)) hw17 rfl (by decide)
      refine xi_aload_n C 0 dX9_findsComponents_32 rfl rfl ?_
      refine xi_getR C xK_X9 (q := 54) (r := 96) rfl 56 (by decide) (ki := 56) rfl xl_X9_136 rfl dX9_findsComponents_33 ?_
      refine xi_iload_n C 1 dX9_findsComponents_36 rfl rfl ?_
      refine xi_iconst C (v := 0) dX9_findsComponents_37 rfl ?_
      refine xi_bastore C (q := 96) rfl (by decide) hc13 (Or.inl rfl) dX9_findsComponents_38 ?_
      have hw15 := xval.up (q := 96) (i := v1_17) (v := 0) hw14 rfl (by decide)
      refine xi_iinc C (L' := [(1, .int (iN (v1_17 + 1))), (0, .ref (ad 54))]) 1 dX9_findsComponents_39 rfl (by decide) rfl ?_
      refine xi_goto C 17 dX9_findsComponents_42 (by decide) ?_
      obtain ⟨hc16, h⟩ := h
      exact xi_sub [1, 0] rfl (hk17 (v1_17 + 1) (xup (xup S17 87 v1_17 (-1)) 96 v1_17 0) h hc16 hw15)
set_option maxRecDepth 100000 in
set_option maxHeartbeats 4000000 in
theorem c_X9_canStay (l : Launch) (D : va_G) (ca : Nat → ClassId) (ad : Nat → Nat) (tF : Nat) (a1 : Int) (S : xS) (Q : Int → xS → Prop) (h_a1 : xR a1) (h : w_X9_canStay a1 S Q) : xM l yX9_canStay (xws yX9_canStay cX9_canStay 6 (some .boolean)) ({ frames := 3, cells := 0, slots := 0, locals := 67 }) (gC D ca ad tF) [.ref (ad 54), .int (iN a1)] S (xQi Q) 0 0 := by
  refine xm_of RX9 rfl (by decide +kernel) (Nat.le_of_ble_eq_true rfl) ?_
  intro p e s m args below meth c A Z C hA hZ hr hlocks hw
  unfold w_X9_canStay at h
  show xV (gC D ca ad tF) p l e ({ frames := 3, cells := 0, slots := 0, locals := 67 }) s m args below meth c A 6 Z 0 0 0 [(0, .ref (ad 54)), (1, .int (iN a1))] [] S
  refine xi_aload_n C 0 dX9_canStay_0 rfl rfl ?_
  refine xc_Vv C hw (c_X9_findsComponents l D ca ad tF S _ h) xk_X9_findsComponents xv_X9_findsComponents xl_X9_372 ⟨Nat.le_of_ble_eq_true rfl, Nat.le_of_ble_eq_true rfl⟩ xK_X9 (q := 54) rfl rfl rfl (Nat.le_of_ble_eq_true rfl) ⟨Nat.le_of_ble_eq_true rfl, Nat.le_of_ble_eq_true rfl⟩ dX9_canStay_1 (fun S1 h hw1 => ?_)
  refine xi_iconst C (v := 1) dX9_canStay_4 rfl ?_
  refine xi_aload_n C 0 dX9_canStay_5 rfl rfl ?_
  refine xi_getI C xK_X9 (q := 54) (r := 0) rfl 1 (by decide) (ki := 1) rfl xl_X9_161 rfl dX9_canStay_6 ?_
  obtain ⟨hc2, h⟩ := h
  refine xi_ishl C hc2 dX9_canStay_9 ?_
  refine xi_iconst C (v := 1) dX9_canStay_10 rfl ?_
  refine xi_isub C dX9_canStay_11 ?_
  refine xi_istore_n C (L' := [(2, .int (iN ((1 * 2 ^ (S1 54 1).toNat) - 1))), (0, .ref (ad 54)), (1, .int (iN a1))]) dX9_canStay_12 rfl (by decide) rfl ?_
  refine xi_iconst C (v := 0) dX9_canStay_13 rfl ?_
  refine xi_istore_n C (L' := [(3, .int (iN 0)), (2, .int (iN ((1 * 2 ^ (S1 54 1).toNat) - 1))), (0, .ref (ad 54)), (1, .int (iN a1))]) dX9_canStay_14 rfl (by decide) rfl ?_
  refine xJ0_w (fun  S50 => xval (gC D ca ad tF) S50 → xV (gC D ca ad tF) p l e ({ frames := 3, cells := 0, slots := 0, locals := 67 }) s m args below meth c A 6 Z 0 0 50 [(0, .ref (ad 54)), (1, .int (iN a1)), (2, .int (iN ((1 * 2 ^ (S1 54 1).toNat) - 1)))] [] S50) h (fun  S50 h  hw50 => ?_) (fun j50 hj50 h => ?_)
  · unfold w_X9_canStay_J50 at h
    refine xi_iconst C (v := 0) dX9_canStay_50 rfl ?_
    refine xi_istore_n C (L' := [(3, .int (iN 0)), (0, .ref (ad 54)), (1, .int (iN a1)), (2, .int (iN ((1 * 2 ^ (S1 54 1).toNat) - 1)))]) dX9_canStay_51 rfl (by decide) rfl ?_
    refine xJ0_w (fun  S235 => xval (gC D ca ad tF) S235 → xV (gC D ca ad tF) p l e ({ frames := 3, cells := 0, slots := 0, locals := 67 }) s m args below meth c A 6 Z 0 0 235 [(0, .ref (ad 54)), (1, .int (iN a1)), (2, .int (iN ((1 * 2 ^ (S1 54 1).toNat) - 1)))] [] S235) h (fun  S235 h  hw235 => ?_) (fun j235 hj235 h => ?_)
    · unfold w_X9_canStay_J235 at h
      refine xi_iconst C (v := 0) dX9_canStay_235 rfl ?_
      refine xi_istore_n C (L' := [(3, .int (iN 0)), (0, .ref (ad 54)), (1, .int (iN a1)), (2, .int (iN ((1 * 2 ^ (S1 54 1).toNat) - 1)))]) dX9_canStay_236 rfl (by decide) rfl ?_
      refine xi_sub [1, 2, 3, 0] rfl (xW1 (fun v3_237 S237 => xR v3_237 → xval (gC D ca ad tF) S237 → xV (gC D ca ad tF) p l e ({ frames := 3, cells := 0, slots := 0, locals := 67 }) s m args below meth c A 6 Z 0 0 237 [(0, .ref (ad 54)), (1, .int (iN a1)), (2, .int (iN ((1 * 2 ^ (S1 54 1).toNat) - 1))), (3, .int (iN v3_237))] [] S237) h (fun k237 hk237 v3_237 S237 h h_v3_237 hw237 => ?_) (by decide) hw235)
      unfold w_X9_canStay_L237 at h
      refine xi_iload_n C 3 dX9_canStay_237 rfl rfl ?_
      refine xi_aload_n C 0 dX9_canStay_238 rfl rfl ?_
      refine xi_getI C xK_X9 (q := 54) (r := 0) rfl 58 (by decide) (ki := 58) rfl xl_X9_354 rfl dX9_canStay_239 ?_
      refine xi_icmp_ge C 283 h_v3_237 (xval.i (q := 54) (i := 58) hw237 (by decide) rfl) dX9_canStay_242 (by decide) (fun z3 => ?_) (fun z3 => ?_)
      · replace h := h.1 z3
        refine xi_iconst C (v := 0) dX9_canStay_283 rfl ?_
        exact xr_i C hA hZ hr hlocks (xnarZ (Or.inl rfl)).1 dX9_canStay_284 (Nat.le_of_ble_eq_true rfl) (Nat.le_of_ble_eq_true rfl) hw237 ⟨_, rfl, (by decide), h⟩
      · replace h := h.2 z3
        refine xi_aload_n C 0 dX9_canStay_245 rfl rfl ?_
        refine xi_getR C xK_X9 (q := 54) (r := 97) rfl 57 (by decide) (ki := 57) rfl xl_X9_139 rfl dX9_canStay_246 ?_
        refine xi_iload_n C 3 dX9_canStay_249 rfl rfl ?_
        obtain ⟨hc4, h⟩ := h
        refine xi_baload C (q := 97) rfl (by decide) hc4 dX9_canStay_250 ?_
        refine xi_if_eq C 277 (xval.i (q := 97) (i := v3_237) hw237 hc4.1 rfl) dX9_canStay_251 (by decide) (fun z5 => ?_) (fun z5 => ?_)
        · replace h := h.1 z5
          refine xi_iinc C (L' := [(3, .int (iN (v3_237 + 1))), (0, .ref (ad 54)), (1, .int (iN a1)), (2, .int (iN ((1 * 2 ^ (S1 54 1).toNat) - 1)))]) 3 dX9_canStay_277 rfl (by decide) rfl ?_
          refine xi_goto C 237 dX9_canStay_280 (by decide) ?_
          obtain ⟨hc6, h⟩ := h
          exact xi_sub [1, 2, 3, 0] rfl (hk237 (v3_237 + 1) S237 h hc6 hw237)
        · replace h := h.2 z5
          refine xi_iload_n C 1 dX9_canStay_254 rfl rfl ?_
          refine xi_if_eq C 275 h_a1 dX9_canStay_255 (by decide) (fun z7 => ?_) (fun z7 => ?_)
          · replace h := h.1 z7
            refine xi_iconst C (v := 1) dX9_canStay_275 rfl ?_
            exact xr_i C hA hZ hr hlocks (xnarZ (Or.inr rfl)).1 dX9_canStay_276 (Nat.le_of_ble_eq_true rfl) (Nat.le_of_ble_eq_true rfl) hw237 ⟨_, rfl, (by decide), h⟩
          · replace h := h.2 z7
            refine xi_aload_n C 0 dX9_canStay_258 rfl rfl ?_
            refine xi_getR C xK_X9 (q := 54) (r := 93) rfl 53 (by decide) (ki := 53) rfl xl_X9_127 rfl dX9_canStay_259 ?_
            refine xi_iload_n C 3 dX9_canStay_262 rfl rfl ?_
            refine xi_iaload C (q := 93) rfl (by decide) hc4 dX9_canStay_263 ?_
            refine xi_aload_n C 0 dX9_canStay_264 rfl rfl ?_
            refine xi_getR C xK_X9 (q := 54) (r := 94) rfl 54 (by decide) (ki := 54) rfl xl_X9_130 rfl dX9_canStay_265 ?_
            refine xi_iload_n C 3 dX9_canStay_268 rfl rfl ?_
            refine xi_iaload C (q := 94) rfl (by decide) hc4 dX9_canStay_269 ?_
            refine xi_ior C dX9_canStay_270 ?_
            refine xi_iload_n C 2 dX9_canStay_271 rfl rfl ?_
            obtain ⟨hc8, h⟩ := h
            refine xi_icmp_ne C 277 (xor32_R _ _) hc8 dX9_canStay_272 (by decide) (fun z9 => ?_) (fun z9 => ?_)
            · replace h := h.1 z9
              refine xi_iinc C (L' := [(3, .int (iN (v3_237 + 1))), (0, .ref (ad 54)), (1, .int (iN a1)), (2, .int (iN ((1 * 2 ^ (S1 54 1).toNat) - 1)))]) 3 dX9_canStay_277 rfl (by decide) rfl ?_
              refine xi_goto C 237 dX9_canStay_280 (by decide) ?_
              obtain ⟨hc10, h⟩ := h
              exact xi_sub [1, 2, 3, 0] rfl (hk237 (v3_237 + 1) S237 h hc10 hw237)
            · replace h := h.2 z9
              refine xi_iconst C (v := 1) dX9_canStay_275 rfl ?_
              exact xr_i C hA hZ hr hlocks (xnarZ (Or.inr rfl)).1 dX9_canStay_276 (Nat.le_of_ble_eq_true rfl) (Nat.le_of_ble_eq_true rfl) hw237 ⟨_, rfl, (by decide), h⟩
    · refine xi_sub [1, 2, 3, 0] rfl (xW1 (fun v3_52 S52 => xR v3_52 → xval (gC D ca ad tF) S52 → xV (gC D ca ad tF) p l e ({ frames := 3, cells := 0, slots := 0, locals := 67 }) s m args below meth c A 6 Z 0 0 52 [(0, .ref (ad 54)), (1, .int (iN a1)), (2, .int (iN ((1 * 2 ^ (S1 54 1).toNat) - 1))), (3, .int (iN v3_52))] [] S52) h (fun k52 hk52 v3_52 S52 h h_v3_52 hw52 => ?_) (by decide) hw50)
      unfold w_X9_canStay_L52 at h
      refine xi_iload_n C 3 dX9_canStay_52 rfl rfl ?_
      refine xi_aload_n C 0 dX9_canStay_53 rfl rfl ?_
      refine xi_getI C xK_X9 (q := 54) (r := 0) rfl 5 (by decide) (ki := 5) rfl xl_X9_224 rfl dX9_canStay_54 ?_
      refine xi_icmp_ge C 235 h_v3_52 (xval.i (q := 54) (i := 5) hw52 (by decide) rfl) dX9_canStay_57 (by decide) (fun z11 => ?_) (fun z11 => ?_)
      · replace h := h.1 z11
        exact xi_sub [0, 1, 2] rfl (hj235 S52 h hw52)
      · replace h := h.2 z11
        refine xi_aload_n C 0 dX9_canStay_60 rfl rfl ?_
        refine xi_getR C xK_X9 (q := 54) (r := 95) rfl 55 (by decide) (ki := 55) rfl xl_X9_133 rfl dX9_canStay_61 ?_
        refine xi_iload_n C 3 dX9_canStay_64 rfl rfl ?_
        obtain ⟨hc12, h⟩ := h
        refine xi_baload C (q := 95) rfl (by decide) hc12 dX9_canStay_65 ?_
        refine xi_if_ne C 72 (xval.i (q := 95) (i := v3_52) hw52 hc12.1 rfl) dX9_canStay_66 (by decide) (fun z13 => ?_) (fun z13 => ?_)
        · replace h := h.1 z13
          refine xi_aload_n C 0 dX9_canStay_72 rfl rfl ?_
          refine xi_getR C xK_X9 (q := 54) (r := 73) rfl 33 (by decide) (ki := 33) rfl xl_X9_66 rfl dX9_canStay_73 ?_
          refine xi_iload_n C 3 dX9_canStay_76 rfl rfl ?_
          refine xi_iaload C (q := 73) rfl (by decide) ⟨hc12.1, Int.lt_of_lt_of_le hc12.2 (by decide)⟩ dX9_canStay_77 ?_
          refine xi_aload_n C 0 dX9_canStay_78 rfl rfl ?_
          refine xi_getR C xK_X9 (q := 54) (r := 73) rfl 33 (by decide) (ki := 33) rfl xl_X9_66 rfl dX9_canStay_79 ?_
          refine xi_iload_n C 3 dX9_canStay_82 rfl rfl ?_
          refine xi_iconst C (v := 1) dX9_canStay_83 rfl ?_
          refine xi_iadd C dX9_canStay_84 ?_
          obtain ⟨hc14, h⟩ := h
          refine xi_iaload C (q := 73) rfl (by decide) hc14 dX9_canStay_85 ?_
          refine xi_icmp_ne C 91 (xval.i (q := 73) (i := v3_52) hw52 hc12.1 rfl) (xval.i (q := 73) (i := v3_52 + 1) hw52 hc14.1 rfl) dX9_canStay_86 (by decide) (fun z15 => ?_) (fun z15 => ?_)
          · replace h := h.1 z15
            refine xi_iconst C (v := 0) dX9_canStay_91 rfl ?_
            refine xi_istore C (L' := [(4, .int (iN 0)), (0, .ref (ad 54)), (1, .int (iN a1)), (2, .int (iN ((1 * 2 ^ (S1 54 1).toNat) - 1))), (3, .int (iN v3_52))]) dX9_canStay_92 (by decide) rfl ?_
            refine xi_aload_n C 1 dX9_canStay_94 rfl rfl ?_
            refine xi_getR C xK_X9 (q := 54) (r := 73) rfl 33 (by decide) (ki := 33) rfl xl_X9_66 rfl dX9_canStay_95 ?_
            refine xi_iload_n C 4 dX9_canStay_98 rfl rfl ?_
            refine xi_iaload C (q := 73) rfl (by decide) ⟨hc12.1, Int.lt_of_lt_of_le hc12.2 (by decide)⟩ dX9_canStay_99 ?_
            refine xi_istore C (L' := [(5, .int (iN (S52 73 v3_52))), (4, .int (iN 0)), (0, .ref (ad 54)), (1, .int (iN a1)), (2, .int (iN ((1 * 2 ^ (S1 54 1).toNat) - 1))), (3, .int (iN v3_52))]) dX9_canStay_100 (by decide) rfl ?_
            refine xJ1_w (fun v4_209 S209 => xR v4_209 → xval (gC D ca ad tF) S209 → xV (gC D ca ad tF) p l e ({ frames := 3, cells := 0, slots := 0, locals := 67 }) s m args below meth c A 6 Z 0 0 209 [(0, .ref (ad 54)), (1, .int (iN a1)), (2, .int (iN ((1 * 2 ^ (S1 54 1).toNat) - 1))), (3, .int (iN v3_52)), (4, .int (iN v4_209))] [] S209) h (fun v4_209 S209 h h_v4_209 hw209 => ?_) (fun j209 hj209 h => ?_)
            · unfold w_X9_canStay_J209 at h
              refine xi_aload_n C 0 dX9_canStay_209 rfl rfl ?_
              refine xi_getR C xK_X9 (q := 54) (r := 93) rfl 53 (by decide) (ki := 53) rfl xl_X9_127 rfl dX9_canStay_210 ?_
              refine xi_aload_n C 0 dX9_canStay_213 rfl rfl ?_
              refine xi_getR C xK_X9 (q := 54) (r := 89) rfl 49 (by decide) (ki := 49) rfl xl_X9_115 rfl dX9_canStay_214 ?_
              refine xi_iload_n C 3 dX9_canStay_217 rfl rfl ?_
              refine xi_iaload C (q := 89) rfl (by decide) hc12 dX9_canStay_218 ?_
              refine xi_dup2 C dX9_canStay_219 rfl rfl ?_
              obtain ⟨hc16, h⟩ := h
              refine xi_iaload C (q := 93) rfl (by decide) hc16 dX9_canStay_220 ?_
              refine xi_iload_n C 2 dX9_canStay_221 rfl rfl ?_
              refine xi_iload C 4 dX9_canStay_222 rfl ?_
              refine xi_iconst C (v := (-1)) dX9_canStay_224 rfl ?_
              refine xi_ixor C dX9_canStay_225 ?_
              refine xi_iand C dX9_canStay_226 ?_
              refine xi_ior C dX9_canStay_227 ?_
              refine xi_iastore C (q := 93) rfl (by decide) hc16 dX9_canStay_228 ?_
              have hw17 := xval.up (q := 93) (i := S209 89 v3_52) (v := xor32 (S209 93 (S209 89 v3_52)) (xand ((1 * 2 ^ (S1 54 1).toNat) - 1) (xxor v4_209 (-1)))) hw209 rfl (xor32_R _ _)
              refine xi_iinc C (L' := [(3, .int (iN (v3_52 + 1))), (0, .ref (ad 54)), (1, .int (iN a1)), (2, .int (iN ((1 * 2 ^ (S1 54 1).toNat) - 1))), (4, .int (iN v4_209))]) 3 dX9_canStay_229 rfl (by decide) rfl ?_
              refine xi_goto C 52 dX9_canStay_232 (by decide) ?_
              exact xi_sub [1, 2, 3, 0] rfl (hk52 (v3_52 + 1) (xup S209 93 (S209 89 v3_52) (xor32 (S209 93 (S209 89 v3_52)) (xand ((1 * 2 ^ (S1 54 1).toNat) - 1) (xxor v4_209 (-1))))) h (⟨Int.le_trans (by decide) hc14.1, Int.lt_trans hc14.2 (by decide)⟩ : xR (v3_52 + 1)) hw17)
            · refine xi_sub [2, 3, 4, 5, 1, 0] rfl (xW2 (fun v4_102 v5_102 S102 => xR v4_102 → xR v5_102 → xval (gC D ca ad tF) S102 → xV (gC D ca ad tF) p l e ({ frames := 3, cells := 0, slots := 0, locals := 67 }) s m args below meth c A 6 Z 0 0 102 [(0, .ref (ad 54)), (1, .int (iN a1)), (2, .int (iN ((1 * 2 ^ (S1 54 1).toNat) - 1))), (3, .int (iN v3_52)), (4, .int (iN v4_102)), (5, .int (iN v5_102))] [] S102) h (fun k102 hk102 v4_102 v5_102 S102 h h_v4_102 h_v5_102 hw102 => ?_) (by decide) (xval.i (q := 73) (i := v3_52) hw52 hc12.1 rfl) hw52)
              unfold w_X9_canStay_L102 at h
              refine xi_iload C 5 dX9_canStay_102 rfl ?_
              refine xi_aload_n C 0 dX9_canStay_104 rfl rfl ?_
              refine xi_getR C xK_X9 (q := 54) (r := 73) rfl 33 (by decide) (ki := 33) rfl xl_X9_66 rfl dX9_canStay_105 ?_
              refine xi_iload_n C 3 dX9_canStay_108 rfl rfl ?_
              refine xi_iconst C (v := 1) dX9_canStay_109 rfl ?_
              refine xi_iadd C dX9_canStay_110 ?_
              refine xi_iaload C (q := 73) rfl (by decide) hc14 dX9_canStay_111 ?_
              refine xi_icmp_ge C 209 h_v5_102 (xval.i (q := 73) (i := v3_52 + 1) hw102 hc14.1 rfl) dX9_canStay_112 (by decide) (fun z18 => ?_) (fun z18 => ?_)
              · replace h := h.1 z18
                exact xi_sub [0, 1, 2, 3, 4] rfl (hj209 v4_102 S102 h h_v4_102 hw102)
              · replace h := h.2 z18
                refine xi_iload C 4 dX9_canStay_115 rfl ?_
                refine xi_aload_n C 0 dX9_canStay_117 rfl rfl ?_
                refine xi_getR C xK_X9 (q := 54) (r := 74) rfl 34 (by decide) (ki := 34) rfl xl_X9_70 rfl dX9_canStay_118 ?_
                refine xi_iload C 5 dX9_canStay_121 rfl ?_
                obtain ⟨hc19, h⟩ := h
                refine xi_iaload C (q := 74) rfl (by decide) hc19 dX9_canStay_123 ?_
                refine xi_bipush C (v := 8) dX9_canStay_124 (by decide +kernel) ?_
                obtain ⟨hc20, h⟩ := h
                refine xi_irem C (xval.i (q := 74) (i := v5_102) hw102 hc19.1 rfl) hc20 (by decide) (by decide) dX9_canStay_126 ?_
                refine xi_ior C dX9_canStay_127 ?_
                refine xi_istore C (L' := [(4, .int (iN (xor32 v4_102 ((S102 74 v5_102) % 8)))), (0, .ref (ad 54)), (1, .int (iN a1)), (2, .int (iN ((1 * 2 ^ (S1 54 1).toNat) - 1))), (3, .int (iN v3_52)), (5, .int (iN v5_102))]) dX9_canStay_128 (by decide) rfl ?_
                refine xi_aload_n C 1 dX9_canStay_130 rfl rfl ?_
                refine xi_getR C xK_X9 (q := 54) (r := 95) rfl 55 (by decide) (ki := 55) rfl xl_X9_133 rfl dX9_canStay_131 ?_
                refine xi_aload_n C 1 dX9_canStay_134 rfl rfl ?_
                refine xi_iload C 5 dX9_canStay_135 rfl ?_
                refine xc_Vi C hw102 (c_X9_goal l D ca ad tF v5_102 S102 _ h_v5_102 h) xk_X9_goal xv_X9_goal xl_X9_366 ⟨Nat.le_of_ble_eq_true rfl, Nat.le_of_ble_eq_true rfl⟩ xK_X9 (q := 54) rfl rfl rfl (Nat.le_of_ble_eq_true rfl) ⟨Nat.le_of_ble_eq_true rfl, Nat.le_of_ble_eq_true rfl⟩ dX9_canStay_137 (fun r137 S137 h_r137 h hw21 => ?_)
                obtain ⟨hc22, h⟩ := h
                refine xi_baload C (q := 95) rfl (by decide) hc22 dX9_canStay_140 ?_
                refine xi_if_eq C 203 (xval.i (q := 95) (i := r137) hw21 hc22.1 rfl) dX9_canStay_141 (by decide) (fun z23 => ?_) (fun z23 => ?_)
                · replace h := h.1 z23
                  refine xi_iinc C (L' := [(5, .int (iN (v5_102 + 1))), (4, .int (iN (xor32 v4_102 ((S102 74 v5_102) % 8)))), (0, .ref (ad 54)), (1, .int (iN a1)), (2, .int (iN ((1 * 2 ^ (S1 54 1).toNat) - 1))), (3, .int (iN v3_52))]) 5 dX9_canStay_203 rfl (by decide) rfl ?_
                  refine xi_goto C 102 dX9_canStay_206 (by decide) ?_
                  obtain ⟨hc24, h⟩ := h
                  exact xi_sub [2, 3, 4, 5, 1, 0] rfl (hk102 (xor32 v4_102 ((S102 74 v5_102) % 8)) (v5_102 + 1) S137 h (xor32_R _ _) hc24 hw21)
                · replace h := h.2 z23
                  refine xi_aload_n C 1 dX9_canStay_144 rfl rfl ?_
                  refine xi_getR C xK_X9 (q := 54) (r := 89) rfl 49 (by decide) (ki := 49) rfl xl_X9_115 rfl dX9_canStay_145 ?_
                  refine xi_aload_n C 1 dX9_canStay_148 rfl rfl ?_
                  refine xi_iload C 5 dX9_canStay_149 rfl ?_
                  refine xc_Vi C hw21 (c_X9_goal l D ca ad tF v5_102 S137 _ h_v5_102 h) xk_X9_goal xv_X9_goal xl_X9_366 ⟨Nat.le_of_ble_eq_true rfl, Nat.le_of_ble_eq_true rfl⟩ xK_X9 (q := 54) rfl rfl rfl (Nat.le_of_ble_eq_true rfl) ⟨Nat.le_of_ble_eq_true rfl, Nat.le_of_ble_eq_true rfl⟩ dX9_canStay_151 (fun r151 S151 h_r151 h hw25 => ?_)
                  obtain ⟨hc26, h⟩ := h
                  refine xi_iaload C (q := 89) rfl (by decide) hc26 dX9_canStay_154 ?_
                  refine xi_aload_n C 1 dX9_canStay_155 rfl rfl ?_
                  refine xi_getR C xK_X9 (q := 54) (r := 89) rfl 49 (by decide) (ki := 49) rfl xl_X9_115 rfl dX9_canStay_156 ?_
                  refine xi_iload_n C 4 dX9_canStay_159 rfl rfl ?_
                  refine xi_iaload C (q := 89) rfl (by decide) hc12 dX9_canStay_160 ?_
                  refine xi_icmp_eq C 167 (xval.i (q := 89) (i := r151) hw25 hc26.1 rfl) (xval.i (q := 89) (i := v3_52) hw25 hc12.1 rfl) dX9_canStay_161 (by decide) (fun z27 => ?_) (fun z27 => ?_)
                  · replace h := h.1 z27
                    refine xi_aload_n C 1 dX9_canStay_167 rfl rfl ?_
                    refine xi_getR C xK_X9 (q := 54) (r := 97) rfl 57 (by decide) (ki := 57) rfl xl_X9_139 rfl dX9_canStay_168 ?_
                    refine xi_aload_n C 1 dX9_canStay_171 rfl rfl ?_
                    refine xi_getR C xK_X9 (q := 54) (r := 89) rfl 49 (by decide) (ki := 49) rfl xl_X9_115 rfl dX9_canStay_172 ?_
                    refine xi_iload_n C 4 dX9_canStay_175 rfl rfl ?_
                    refine xi_iaload C (q := 89) rfl (by decide) hc12 dX9_canStay_176 ?_
                    refine xi_iconst C (v := 1) dX9_canStay_177 rfl ?_
                    obtain ⟨hc28, h⟩ := h
                    refine xi_bastore C (q := 97) rfl (by decide) hc28 (Or.inr rfl) dX9_canStay_178 ?_
                    have hw29 := xval.up (q := 97) (i := S151 89 v3_52) (v := 1) hw25 rfl (by decide)
                    refine xi_aload_n C 1 dX9_canStay_179 rfl rfl ?_
                    refine xi_getR C xK_X9 (q := 54) (r := 94) rfl 54 (by decide) (ki := 54) rfl xl_X9_130 rfl dX9_canStay_180 ?_
                    refine xi_aload_n C 1 dX9_canStay_183 rfl rfl ?_
                    refine xi_getR C xK_X9 (q := 54) (r := 89) rfl 49 (by decide) (ki := 49) rfl xl_X9_115 rfl dX9_canStay_184 ?_
                    refine xi_iload_n C 4 dX9_canStay_187 rfl rfl ?_
                    refine xi_iaload C (q := 89) rfl (by decide) hc12 dX9_canStay_188 ?_
                    refine xi_dup2 C dX9_canStay_189 rfl rfl ?_
                    refine xi_iaload C (q := 94) rfl (by decide) hc28 dX9_canStay_190 ?_
                    refine xi_aload_n C 1 dX9_canStay_191 rfl rfl ?_
                    refine xi_getR C xK_X9 (q := 54) (r := 74) rfl 34 (by decide) (ki := 34) rfl xl_X9_70 rfl dX9_canStay_192 ?_
                    refine xi_iload C 5 dX9_canStay_195 rfl ?_
                    refine xi_iaload C (q := 74) rfl (by decide) hc19 dX9_canStay_197 ?_
                    refine xi_bipush C (v := 8) dX9_canStay_198 (by decide +kernel) ?_
                    obtain ⟨hc30, h⟩ := h
                    refine xi_irem C (xval.i (q := 74) (i := v5_102) hw29 hc19.1 rfl) hc30 (by decide) (by decide) dX9_canStay_200 ?_
                    refine xi_ior C dX9_canStay_201 ?_
                    refine xi_iastore C (q := 94) rfl (by decide) hc28 dX9_canStay_202 ?_
                    have hw31 := xval.up (q := 94) (i := S151 89 v3_52) (v := xor32 (S151 94 (S151 89 v3_52)) ((S151 74 v5_102) % 8)) hw29 rfl (xor32_R _ _)
                    refine xi_iinc C (L' := [(5, .int (iN (v5_102 + 1))), (4, .int (iN (xor32 v4_102 ((S102 74 v5_102) % 8)))), (0, .ref (ad 54)), (1, .int (iN a1)), (2, .int (iN ((1 * 2 ^ (S1 54 1).toNat) - 1))), (3, .int (iN v3_52))]) 5 dX9_canStay_203 rfl (by decide) rfl ?_
                    refine xi_goto C 102 dX9_canStay_206 (by decide) ?_
                    obtain ⟨hc32, h⟩ := h
                    exact xi_sub [2, 3, 4, 5, 1, 0] rfl (hk102 (xor32 v4_102 ((S102 74 v5_102) % 8)) (v5_102 + 1) (xup (xup S151 97 (S151 89 v3_52) 1) 94 (S151 89 v3_52) (xor32 (S151 94 (S151 89 v3_52)) ((S151 74 v5_102) % 8))) h (xor32_R _ _) hc32 hw31)
                  · replace h := h.2 z27
                    refine xi_goto C 203 dX9_canStay_164 (by decide) ?_
                    refine xi_iinc C (L' := [(5, .int (iN (v5_102 + 1))), (4, .int (iN (xor32 v4_102 ((S102 74 v5_102) % 8)))), (0, .ref (ad 54)), (1, .int (iN a1)), (2, .int (iN ((1 * 2 ^ (S1 54 1).toNat) - 1))), (3, .int (iN v3_52))]) 5 dX9_canStay_203 rfl (by decide) rfl ?_
                    refine xi_goto C 102 dX9_canStay_206 (by decide) ?_
                    obtain ⟨hc33, h⟩ := h
                    exact xi_sub [2, 3, 4, 5, 1, 0] rfl (hk102 (xor32 v4_102 ((S102 74 v5_102) % 8)) (v5_102 + 1) S151 h (xor32_R _ _) hc33 hw25)
          · replace h := h.2 z15
            refine xi_iconst C (v := 1) dX9_canStay_89 rfl ?_
            exact xr_i C hA hZ hr hlocks (xnarZ (Or.inr rfl)).1 dX9_canStay_90 (Nat.le_of_ble_eq_true rfl) (Nat.le_of_ble_eq_true rfl) hw52 ⟨_, rfl, (by decide), h⟩
        · replace h := h.2 z13
          refine xi_goto C 229 dX9_canStay_69 (by decide) ?_
          refine xi_iinc C (L' := [(3, .int (iN (v3_52 + 1))), (0, .ref (ad 54)), (1, .int (iN a1)), (2, .int (iN ((1 * 2 ^ (S1 54 1).toNat) - 1)))]) 3 dX9_canStay_229 rfl (by decide) rfl ?_
          refine xi_goto C 52 dX9_canStay_232 (by decide) ?_
          obtain ⟨hc34, h⟩ := h
          exact xi_sub [1, 2, 3, 0] rfl (hk52 (v3_52 + 1) S52 h hc34 hw52)
  · refine xi_sub [2, 3, 1, 0] rfl (xW1 (fun v3_15 S15 => xR v3_15 → xval (gC D ca ad tF) S15 → xV (gC D ca ad tF) p l e ({ frames := 3, cells := 0, slots := 0, locals := 67 }) s m args below meth c A 6 Z 0 0 15 [(0, .ref (ad 54)), (1, .int (iN a1)), (2, .int (iN ((1 * 2 ^ (S1 54 1).toNat) - 1))), (3, .int (iN v3_15))] [] S15) h (fun k15 hk15 v3_15 S15 h h_v3_15 hw15 => ?_) (by decide) hw1)
    unfold w_X9_canStay_L15 at h
    refine xi_iload_n C 3 dX9_canStay_15 rfl rfl ?_
    refine xi_aload_n C 0 dX9_canStay_16 rfl rfl ?_
    refine xi_getI C xK_X9 (q := 54) (r := 0) rfl 58 (by decide) (ki := 58) rfl xl_X9_354 rfl dX9_canStay_17 ?_
    refine xi_icmp_ge C 50 h_v3_15 (xval.i (q := 54) (i := 58) hw15 (by decide) rfl) dX9_canStay_20 (by decide) (fun z35 => ?_) (fun z35 => ?_)
    · replace h := h.1 z35
      exact xi_sub [0, 1, 2] rfl (hj50 S15 h hw15)
    · replace h := h.2 z35
      refine xi_aload_n C 0 dX9_canStay_23 rfl rfl ?_
      refine xi_getR C xK_X9 (q := 54) (r := 93) rfl 53 (by decide) (ki := 53) rfl xl_X9_127 rfl dX9_canStay_24 ?_
      refine xi_iload_n C 3 dX9_canStay_27 rfl rfl ?_
      refine xi_iconst C (v := 0) dX9_canStay_28 rfl ?_
      obtain ⟨hc36, h⟩ := h
      refine xi_iastore C (q := 93) rfl (by decide) hc36 dX9_canStay_29 ?_
      have hw37 := xval.up (q := 93) (i := v3_15) (v := 0) hw15 rfl (by decide)
      refine xi_aload_n C 0 dX9_canStay_30 rfl rfl ?_
      refine xi_getR C xK_X9 (q := 54) (r := 94) rfl 54 (by decide) (ki := 54) rfl xl_X9_130 rfl dX9_canStay_31 ?_
      refine xi_iload_n C 3 dX9_canStay_34 rfl rfl ?_
      refine xi_iconst C (v := 0) dX9_canStay_35 rfl ?_
      refine xi_iastore C (q := 94) rfl (by decide) hc36 dX9_canStay_36 ?_
      have hw38 := xval.up (q := 94) (i := v3_15) (v := 0) hw37 rfl (by decide)
      refine xi_aload_n C 0 dX9_canStay_37 rfl rfl ?_
      refine xi_getR C xK_X9 (q := 54) (r := 97) rfl 57 (by decide) (ki := 57) rfl xl_X9_139 rfl dX9_canStay_38 ?_
      refine xi_iload_n C 3 dX9_canStay_41 rfl rfl ?_
      refine xi_iconst C (v := 0) dX9_canStay_42 rfl ?_
      refine xi_bastore C (q := 97) rfl (by decide) hc36 (Or.inl rfl) dX9_canStay_43 ?_
      have hw39 := xval.up (q := 97) (i := v3_15) (v := 0) hw38 rfl (by decide)
      refine xi_iinc C (L' := [(3, .int (iN (v3_15 + 1))), (0, .ref (ad 54)), (1, .int (iN a1)), (2, .int (iN ((1 * 2 ^ (S1 54 1).toNat) - 1)))]) 3 dX9_canStay_44 rfl (by decide) rfl ?_
      refine xi_goto C 15 dX9_canStay_47 (by decide) ?_
      obtain ⟨hc40, h⟩ := h
      exact xi_sub [1, 2, 3, 0] rfl (hk15 (v3_15 + 1) (xup (xup (xup S15 93 v3_15 0) 94 v3_15 0) 97 v3_15 0) h hc40 hw39)
set_option maxRecDepth 100000 in
set_option maxHeartbeats 4000000 in
theorem c_X9_recurs (l : Launch) (D : va_G) (ca : Nat → ClassId) (ad : Nat → Nat) (tF : Nat) (a1 : Int) (a2 : Int) (a3 : Int) (S : xS) (Q : Int → xS → Prop) (h_a1 : xR a1) (h_a2 : xR a2) (h_a3 : xR a3) (h : w_X9_recurs a1 a2 a3 S Q) : xM l yX9_recurs (xws yX9_recurs cX9_recurs 4 (some .boolean)) ({ frames := 4, cells := 0, slots := 0, locals := 92 }) (gC D ca ad tF) [.ref (ad 54), .int (iN a1), .int (iN a2), .int (iN a3)] S (xQi Q) 0 0 := by
  refine xm_of RX9 rfl (by decide +kernel) (Nat.le_of_ble_eq_true rfl) ?_
  intro p e s m args below meth c A Z C hA hZ hr hlocks hw
  unfold w_X9_recurs at h
  show xV (gC D ca ad tF) p l e ({ frames := 4, cells := 0, slots := 0, locals := 92 }) s m args below meth c A 4 Z 0 0 0 [(0, .ref (ad 54)), (1, .int (iN a1)), (2, .int (iN a2)), (3, .int (iN a3))] [] S
  refine xi_aload_n C 0 dX9_recurs_0 rfl rfl ?_
  refine xi_iload_n C 1 dX9_recurs_1 rfl rfl ?_
  refine xi_iload_n C 2 dX9_recurs_2 rfl rfl ?_
  refine xc_Vi C hw (c_X9_isAsked l D ca ad tF a1 a2 S _ h_a1 h_a2 h) xk_X9_isAsked xv_X9_isAsked xl_X9_378 ⟨Nat.le_of_ble_eq_true rfl, Nat.le_of_ble_eq_true rfl⟩ xK_X9 (q := 54) rfl rfl rfl (Nat.le_of_ble_eq_true rfl) ⟨Nat.le_of_ble_eq_true rfl, Nat.le_of_ble_eq_true rfl⟩ dX9_recurs_3 (fun r3 S3 h_r3 h hw1 => ?_)
  refine xi_if_ne C 11 h_r3 dX9_recurs_6 (by decide) (fun z2 => ?_) (fun z2 => ?_)
  · replace h := h.1 z2
    refine xi_aload_n C 0 dX9_recurs_11 rfl rfl ?_
    refine xi_iload_n C 1 dX9_recurs_12 rfl rfl ?_
    refine xi_iload_n C 2 dX9_recurs_13 rfl rfl ?_
    refine xc_Vv C hw1 (c_X9_laysSet l D ca ad tF a1 a2 S3 _ h_a1 h_a2 h) xk_X9_laysSet xv_X9_laysSet xl_X9_381 ⟨Nat.le_of_ble_eq_true rfl, Nat.le_of_ble_eq_true rfl⟩ xK_X9 (q := 54) rfl rfl rfl (Nat.le_of_ble_eq_true rfl) ⟨Nat.le_of_ble_eq_true rfl, Nat.le_of_ble_eq_true rfl⟩ dX9_recurs_14 (fun S14 h hw3 => ?_)
    refine xi_aload_n C 0 dX9_recurs_17 rfl rfl ?_
    refine xi_iload_n C 3 dX9_recurs_18 rfl rfl ?_
    refine xc_Vi C hw3 (c_X9_canStay l D ca ad tF a3 S14 _ h_a3 h) xk_X9_canStay xv_X9_canStay xl_X9_384 ⟨Nat.le_of_ble_eq_true rfl, Nat.le_of_ble_eq_true rfl⟩ xK_X9 (q := 54) rfl rfl rfl (Nat.le_of_ble_eq_true rfl) ⟨Nat.le_of_ble_eq_true rfl, Nat.le_of_ble_eq_true rfl⟩ dX9_recurs_19 (fun r19 S19 h_r19 h hw4 => ?_)
    refine xi_if_ne C 29 h_r19 dX9_recurs_22 (by decide) (fun z5 => ?_) (fun z5 => ?_)
    · replace h := h.1 z5
      refine xi_iconst C (v := 0) dX9_recurs_29 rfl ?_
      exact xr_i C hA hZ hr hlocks (xnarZ (Or.inl rfl)).1 dX9_recurs_30 (Nat.le_of_ble_eq_true rfl) (Nat.le_of_ble_eq_true rfl) hw4 ⟨_, rfl, (by decide), h⟩
    · replace h := h.2 z5
      refine xi_iconst C (v := 1) dX9_recurs_25 rfl ?_
      refine xi_goto C 30 dX9_recurs_26 (by decide) ?_
      exact xr_i C hA hZ hr hlocks (xnarZ (Or.inr rfl)).1 dX9_recurs_30 (Nat.le_of_ble_eq_true rfl) (Nat.le_of_ble_eq_true rfl) hw4 ⟨_, rfl, (by decide), h⟩
  · replace h := h.2 z2
    refine xi_iconst C (v := 0) dX9_recurs_9 rfl ?_
    exact xr_i C hA hZ hr hlocks (xnarZ (Or.inl rfl)).1 dX9_recurs_10 (Nat.le_of_ble_eq_true rfl) (Nat.le_of_ble_eq_true rfl) hw1 ⟨_, rfl, (by decide), h⟩
set_option maxRecDepth 100000 in
set_option maxHeartbeats 4000000 in
theorem c_X9_recursByTaking (l : Launch) (D : va_G) (ca : Nat → ClassId) (ad : Nat → Nat) (tF : Nat) (a1 : Int) (a2 : Int) (S : xS) (Q : Int → xS → Prop) (h_a1 : xR a1) (h_a2 : xR a2) (h : w_X9_recursByTaking a1 a2 S Q) : xM l yX9_recursByTaking (xws yX9_recursByTaking cX9_recursByTaking 3 (some .boolean)) ({ frames := 5, cells := 0, slots := 0, locals := 115 }) (gC D ca ad tF) [.ref (ad 54), .int (iN a1), .int (iN a2)] S (xQi Q) 0 0 := by
  refine xm_of RX9 rfl (by decide +kernel) (Nat.le_of_ble_eq_true rfl) ?_
  intro p e s m args below meth c A Z C hA hZ hr hlocks hw
  unfold w_X9_recursByTaking at h
  show xV (gC D ca ad tF) p l e ({ frames := 5, cells := 0, slots := 0, locals := 115 }) s m args below meth c A 3 Z 0 0 0 [(0, .ref (ad 54)), (1, .int (iN a1)), (2, .int (iN a2))] [] S
  refine xi_aload_n C 0 dX9_recursByTaking_0 rfl rfl ?_
  refine xi_iload_n C 1 dX9_recursByTaking_1 rfl rfl ?_
  refine xi_iload_n C 2 dX9_recursByTaking_2 rfl rfl ?_
  refine xi_iconst C (v := 0) dX9_recursByTaking_3 rfl ?_
  refine xc_Vi C hw (c_X9_recurs l D ca ad tF a1 a2 0 S _ h_a1 h_a2 (by decide) h) xk_X9_recurs xv_X9_recurs xl_X9_388 ⟨Nat.le_of_ble_eq_true rfl, Nat.le_of_ble_eq_true rfl⟩ xK_X9 (q := 54) rfl rfl rfl (Nat.le_of_ble_eq_true rfl) ⟨Nat.le_of_ble_eq_true rfl, Nat.le_of_ble_eq_true rfl⟩ dX9_recursByTaking_4 (fun r4 S4 h_r4 h hw1 => ?_)
  obtain ⟨hc2, h⟩ := h
  exact xr_i C hA hZ hr hlocks (xnarZ hc2).1 dX9_recursByTaking_7 (Nat.le_of_ble_eq_true rfl) (Nat.le_of_ble_eq_true rfl) hw1 ⟨_, rfl, h_r4, h⟩
set_option maxRecDepth 100000 in
set_option maxHeartbeats 4000000 in
theorem c_X9_narrows (l : Launch) (D : va_G) (ca : Nat → ClassId) (ad : Nat → Nat) (tF : Nat)  (S : xS) (Q : xS → Prop)  (h : w_X9_narrows  S Q) : xM l yX9_narrows (xws yX9_narrows cX9_narrows 4 (none)) ({ frames := 1, cells := 0, slots := 0, locals := 21 }) (gC D ca ad tF) [.ref (ad 54)] S (xQv Q) 0 0 := by
  refine xm_of RX9 rfl (by decide +kernel) (Nat.le_of_ble_eq_true rfl) ?_
  intro p e s m args below meth c A Z C hA hZ hr hlocks hw
  unfold w_X9_narrows at h
  show xV (gC D ca ad tF) p l e ({ frames := 1, cells := 0, slots := 0, locals := 21 }) s m args below meth c A 4 Z 0 0 0 [(0, .ref (ad 54))] [] S
  refine xi_iconst C (v := 1) dX9_narrows_0 rfl ?_
  refine xi_istore_n C (L' := [(1, .int (iN 1)), (0, .ref (ad 54))]) dX9_narrows_1 rfl (by decide) rfl ?_
  refine xJ0_w (fun  S141 => xval (gC D ca ad tF) S141 → xV (gC D ca ad tF) p l e ({ frames := 1, cells := 0, slots := 0, locals := 21 }) s m args below meth c A 4 Z 0 0 141 [(0, .ref (ad 54))] [] S141) h (fun  S141 h  hw141 => ?_) (fun j141 hj141 h => ?_)
  · unfold w_X9_narrows_J141 at h
    refine xi_iconst C (v := 0) dX9_narrows_141 rfl ?_
    refine xi_istore_n C (L' := [(2, .int (iN 0)), (0, .ref (ad 54))]) dX9_narrows_142 rfl (by decide) rfl ?_
    refine xi_sub [1, 0] rfl (xW1 (fun v2_143 S143 => xR v2_143 → xval (gC D ca ad tF) S143 → xV (gC D ca ad tF) p l e ({ frames := 1, cells := 0, slots := 0, locals := 21 }) s m args below meth c A 4 Z 0 0 143 [(0, .ref (ad 54)), (2, .int (iN v2_143))] [] S143) h (fun k143 hk143 v2_143 S143 h h_v2_143 hw143 => ?_) (by decide) hw141)
    unfold w_X9_narrows_L143 at h
    refine xi_iload_n C 1 dX9_narrows_143 rfl rfl ?_
    refine xi_aload_n C 0 dX9_narrows_144 rfl rfl ?_
    refine xi_getI C xK_X9 (q := 54) (r := 0) rfl 5 (by decide) (ki := 5) rfl xl_X9_224 rfl dX9_narrows_145 ?_
    refine xi_icmp_ge C 186 h_v2_143 (xval.i (q := 54) (i := 5) hw143 (by decide) rfl) dX9_narrows_148 (by decide) (fun z1 => ?_) (fun z1 => ?_)
    · replace h := h.1 z1
      exact xr_v C hA hZ hr hlocks dX9_narrows_186 (Nat.le_of_ble_eq_true rfl) (Nat.le_of_ble_eq_true rfl) hw143 ⟨rfl, h⟩
    · replace h := h.2 z1
      refine xi_aload_n C 0 dX9_narrows_151 rfl rfl ?_
      refine xi_getR C xK_X9 (q := 54) (r := 95) rfl 55 (by decide) (ki := 55) rfl xl_X9_133 rfl dX9_narrows_152 ?_
      refine xi_iload_n C 1 dX9_narrows_155 rfl rfl ?_
      refine xi_aload_n C 0 dX9_narrows_156 rfl rfl ?_
      refine xi_getR C xK_X9 (q := 54) (r := 95) rfl 55 (by decide) (ki := 55) rfl xl_X9_133 rfl dX9_narrows_157 ?_
      refine xi_iload_n C 1 dX9_narrows_160 rfl rfl ?_
      obtain ⟨hc2, h⟩ := h
      refine xi_baload C (q := 95) rfl (by decide) hc2 dX9_narrows_161 ?_
      refine xi_if_eq C 178 (xval.i (q := 95) (i := v2_143) hw143 hc2.1 rfl) dX9_narrows_162 (by decide) (fun z3 => ?_) (fun z3 => ?_)
      · replace h := h.1 z3
        refine xi_iconst C (v := 0) dX9_narrows_178 rfl ?_
        refine xi_bastore C (q := 95) rfl (by decide) hc2 (Or.inl rfl) dX9_narrows_179 ?_
        have hw4 := xval.up (q := 95) (i := v2_143) (v := 0) hw143 rfl (by decide)
        refine xi_iinc C (L' := [(2, .int (iN (v2_143 + 1))), (0, .ref (ad 54))]) 1 dX9_narrows_180 rfl (by decide) rfl ?_
        refine xi_goto C 143 dX9_narrows_183 (by decide) ?_
        obtain ⟨hc5, h⟩ := h
        exact xi_sub [1, 0] rfl (hk143 (v2_143 + 1) (xup S143 95 v2_143 0) h hc5 hw4)
      · replace h := h.2 z3
        refine xi_aload_n C 0 dX9_narrows_165 rfl rfl ?_
        refine xi_getR C xK_X9 (q := 54) (r := 96) rfl 56 (by decide) (ki := 56) rfl xl_X9_136 rfl dX9_narrows_166 ?_
        refine xi_iload_n C 1 dX9_narrows_169 rfl rfl ?_
        refine xi_baload C (q := 96) rfl (by decide) hc2 dX9_narrows_170 ?_
        refine xi_if_eq C 178 (xval.i (q := 96) (i := v2_143) hw143 hc2.1 rfl) dX9_narrows_171 (by decide) (fun z6 => ?_) (fun z6 => ?_)
        · replace h := h.1 z6
          refine xi_iconst C (v := 0) dX9_narrows_178 rfl ?_
          refine xi_bastore C (q := 95) rfl (by decide) hc2 (Or.inl rfl) dX9_narrows_179 ?_
          have hw7 := xval.up (q := 95) (i := v2_143) (v := 0) hw143 rfl (by decide)
          refine xi_iinc C (L' := [(2, .int (iN (v2_143 + 1))), (0, .ref (ad 54))]) 1 dX9_narrows_180 rfl (by decide) rfl ?_
          refine xi_goto C 143 dX9_narrows_183 (by decide) ?_
          obtain ⟨hc8, h⟩ := h
          exact xi_sub [1, 0] rfl (hk143 (v2_143 + 1) (xup S143 95 v2_143 0) h hc8 hw7)
        · replace h := h.2 z6
          refine xi_iconst C (v := 1) dX9_narrows_174 rfl ?_
          refine xi_goto C 179 dX9_narrows_175 (by decide) ?_
          refine xi_bastore C (q := 95) rfl (by decide) hc2 (Or.inr rfl) dX9_narrows_179 ?_
          have hw9 := xval.up (q := 95) (i := v2_143) (v := 1) hw143 rfl (by decide)
          refine xi_iinc C (L' := [(2, .int (iN (v2_143 + 1))), (0, .ref (ad 54))]) 1 dX9_narrows_180 rfl (by decide) rfl ?_
          refine xi_goto C 143 dX9_narrows_183 (by decide) ?_
          obtain ⟨hc10, h⟩ := h
          exact xi_sub [1, 0] rfl (hk143 (v2_143 + 1) (xup S143 95 v2_143 1) h hc10 hw9)
  · refine xi_sub [1, 0] rfl (xW1 (fun v1_2 S2 => xR v1_2 → xval (gC D ca ad tF) S2 → xV (gC D ca ad tF) p l e ({ frames := 1, cells := 0, slots := 0, locals := 21 }) s m args below meth c A 4 Z 0 0 2 [(0, .ref (ad 54)), (1, .int (iN v1_2))] [] S2) h (fun k2 hk2 v1_2 S2 h h_v1_2 hw2 => ?_) (by decide) hw)
    unfold w_X9_narrows_L2 at h
    refine xi_iload_n C 1 dX9_narrows_2 rfl rfl ?_
    refine xi_if_eq C 141 h_v1_2 dX9_narrows_3 (by decide) (fun z11 => ?_) (fun z11 => ?_)
    · replace h := h.1 z11
      exact xi_sub [0] rfl (hj141 S2 h hw2)
    · replace h := h.2 z11
      refine xi_iconst C (v := 0) dX9_narrows_6 rfl ?_
      refine xi_istore_n C (L' := [(1, .int (iN 0)), (0, .ref (ad 54))]) dX9_narrows_7 rfl (by decide) rfl ?_
      refine xi_iconst C (v := 0) dX9_narrows_8 rfl ?_
      refine xi_istore_n C (L' := [(2, .int (iN 0)), (1, .int (iN 0)), (0, .ref (ad 54))]) dX9_narrows_9 rfl (by decide) rfl ?_
      refine xi_sub [2, 1, 0] rfl (xW2 (fun v1_10 v2_10 S10 => xR v1_10 → xR v2_10 → xval (gC D ca ad tF) S10 → xV (gC D ca ad tF) p l e ({ frames := 1, cells := 0, slots := 0, locals := 21 }) s m args below meth c A 4 Z 0 0 10 [(0, .ref (ad 54)), (1, .int (iN v1_10)), (2, .int (iN v2_10))] [] S10) h (fun k10 hk10 v1_10 v2_10 S10 h h_v1_10 h_v2_10 hw10 => ?_) (by decide) (by decide) hw2)
      unfold w_X9_narrows_L10 at h
      refine xi_iload_n C 2 dX9_narrows_10 rfl rfl ?_
      refine xi_aload_n C 0 dX9_narrows_11 rfl rfl ?_
      refine xi_getI C xK_X9 (q := 54) (r := 0) rfl 5 (by decide) (ki := 5) rfl xl_X9_224 rfl dX9_narrows_12 ?_
      refine xi_icmp_ge C 138 h_v2_10 (xval.i (q := 54) (i := 5) hw10 (by decide) rfl) dX9_narrows_15 (by decide) (fun z12 => ?_) (fun z12 => ?_)
      · replace h := h.1 z12
        refine xi_goto C 2 dX9_narrows_138 (by decide) ?_
        exact xi_sub [0, 1] rfl (hk2 v1_10 S10 h h_v1_10 hw10)
      · replace h := h.2 z12
        refine xi_aload_n C 0 dX9_narrows_18 rfl rfl ?_
        refine xi_getR C xK_X9 (q := 54) (r := 96) rfl 56 (by decide) (ki := 56) rfl xl_X9_136 rfl dX9_narrows_19 ?_
        refine xi_iload_n C 2 dX9_narrows_22 rfl rfl ?_
        obtain ⟨hc13, h⟩ := h
        refine xi_baload C (q := 96) rfl (by decide) hc13 dX9_narrows_23 ?_
        refine xi_if_ne C 30 (xval.i (q := 96) (i := v2_10) hw10 hc13.1 rfl) dX9_narrows_24 (by decide) (fun z14 => ?_) (fun z14 => ?_)
        · replace h := h.1 z14
          refine xi_aload_n C 0 dX9_narrows_30 rfl rfl ?_
          refine xi_getR C xK_X9 (q := 54) (r := 73) rfl 33 (by decide) (ki := 33) rfl xl_X9_66 rfl dX9_narrows_31 ?_
          refine xi_iload_n C 2 dX9_narrows_34 rfl rfl ?_
          refine xi_iaload C (q := 73) rfl (by decide) ⟨hc13.1, Int.lt_of_lt_of_le hc13.2 (by decide)⟩ dX9_narrows_35 ?_
          refine xi_istore_n C (L' := [(3, .int (iN (S10 73 v2_10))), (0, .ref (ad 54)), (1, .int (iN v1_10)), (2, .int (iN v2_10))]) dX9_narrows_36 rfl (by decide) rfl ?_
          refine xi_sub [1, 2, 3, 0] rfl (xW2 (fun v1_37 v3_37 S37 => xR v1_37 → xR v3_37 → xval (gC D ca ad tF) S37 → xV (gC D ca ad tF) p l e ({ frames := 1, cells := 0, slots := 0, locals := 21 }) s m args below meth c A 4 Z 0 0 37 [(0, .ref (ad 54)), (1, .int (iN v1_37)), (2, .int (iN v2_10)), (3, .int (iN v3_37))] [] S37) h (fun k37 hk37 v1_37 v3_37 S37 h h_v1_37 h_v3_37 hw37 => ?_) h_v1_10 (xval.i (q := 73) (i := v2_10) hw10 hc13.1 rfl) hw10)
          unfold w_X9_narrows_L37 at h
          refine xi_iload_n C 3 dX9_narrows_37 rfl rfl ?_
          refine xi_aload_n C 0 dX9_narrows_38 rfl rfl ?_
          refine xi_getR C xK_X9 (q := 54) (r := 73) rfl 33 (by decide) (ki := 33) rfl xl_X9_66 rfl dX9_narrows_39 ?_
          refine xi_iload_n C 2 dX9_narrows_42 rfl rfl ?_
          refine xi_iconst C (v := 1) dX9_narrows_43 rfl ?_
          refine xi_iadd C dX9_narrows_44 ?_
          obtain ⟨hc15, h⟩ := h
          refine xi_iaload C (q := 73) rfl (by decide) hc15 dX9_narrows_45 ?_
          refine xi_icmp_ge C 132 h_v3_37 (xval.i (q := 73) (i := v2_10 + 1) hw37 hc15.1 rfl) dX9_narrows_46 (by decide) (fun z16 => ?_) (fun z16 => ?_)
          · replace h := h.1 z16
            refine xi_iinc C (L' := [(2, .int (iN (v2_10 + 1))), (0, .ref (ad 54)), (1, .int (iN v1_37)), (3, .int (iN v3_37))]) 2 dX9_narrows_132 rfl (by decide) rfl ?_
            refine xi_goto C 10 dX9_narrows_135 (by decide) ?_
            exact xi_sub [1, 2, 0] rfl (hk10 v1_37 (v2_10 + 1) S37 h h_v1_37 (⟨Int.le_trans (by decide) hc15.1, Int.lt_trans hc15.2 (by decide)⟩ : xR (v2_10 + 1)) hw37)
          · replace h := h.2 z16
            refine xi_iload_n C 1 dX9_narrows_49 rfl rfl ?_
            refine xJ1_w (fun t0_84 S84 => xR t0_84 → xval (gC D ca ad tF) S84 → xV (gC D ca ad tF) p l e ({ frames := 1, cells := 0, slots := 0, locals := 21 }) s m args below meth c A 4 Z 0 0 84 [(0, .ref (ad 54)), (2, .int (iN v2_10)), (3, .int (iN v3_37))] [.int (iN t0_84)] S84) h (fun t0_84 S84 h h_t0_84 hw84 => ?_) (fun j84 hj84 h => ?_)
            · unfold w_X9_narrows_J84 at h
              refine xi_istore_n C (L' := [(1, .int (iN t0_84)), (0, .ref (ad 54)), (2, .int (iN v2_10)), (3, .int (iN v3_37))]) dX9_narrows_84 rfl (by decide) rfl ?_
              refine xi_aload_n C 1 dX9_narrows_85 rfl rfl ?_
              refine xi_getR C xK_X9 (q := 54) (r := 96) rfl 56 (by decide) (ki := 56) rfl xl_X9_136 rfl dX9_narrows_86 ?_
              refine xi_aload_n C 1 dX9_narrows_89 rfl rfl ?_
              refine xi_iload_n C 3 dX9_narrows_90 rfl rfl ?_
              refine xc_Vi C hw84 (c_X9_goal l D ca ad tF v3_37 S84 _ h_v3_37 h) xk_X9_goal xv_X9_goal xl_X9_366 ⟨Nat.le_of_ble_eq_true rfl, Nat.le_of_ble_eq_true rfl⟩ xK_X9 (q := 54) rfl rfl rfl (Nat.le_of_ble_eq_true rfl) ⟨Nat.le_of_ble_eq_true rfl, Nat.le_of_ble_eq_true rfl⟩ dX9_narrows_91 (fun r91 S91 h_r91 h hw18 => ?_)
              refine xi_aload_n C 1 dX9_narrows_94 rfl rfl ?_
              refine xi_getR C xK_X9 (q := 54) (r := 96) rfl 56 (by decide) (ki := 56) rfl xl_X9_136 rfl dX9_narrows_95 ?_
              refine xi_aload_n C 1 dX9_narrows_98 rfl rfl ?_
              refine xi_iload_n C 3 dX9_narrows_99 rfl rfl ?_
              refine xc_Vi C hw18 (c_X9_goal l D ca ad tF v3_37 S91 _ h_v3_37 h) xk_X9_goal xv_X9_goal xl_X9_366 ⟨Nat.le_of_ble_eq_true rfl, Nat.le_of_ble_eq_true rfl⟩ xK_X9 (q := 54) rfl rfl rfl (Nat.le_of_ble_eq_true rfl) ⟨Nat.le_of_ble_eq_true rfl, Nat.le_of_ble_eq_true rfl⟩ dX9_narrows_100 (fun r100 S100 h_r100 h hw19 => ?_)
              obtain ⟨hc20, h⟩ := h
              refine xi_baload C (q := 96) rfl (by decide) hc20 dX9_narrows_103 ?_
              refine xi_if_ne C 120 (xval.i (q := 96) (i := r100) hw19 hc20.1 rfl) dX9_narrows_104 (by decide) (fun z21 => ?_) (fun z21 => ?_)
              · replace h := h.1 z21
                refine xi_iconst C (v := 1) dX9_narrows_120 rfl ?_
                refine xi_goto C 125 dX9_narrows_121 (by decide) ?_
                obtain ⟨hc22, h⟩ := h
                refine xi_bastore C (q := 96) rfl (by decide) hc22 (Or.inr rfl) dX9_narrows_125 ?_
                have hw23 := xval.up (q := 96) (i := r91) (v := 1) hw19 rfl (by decide)
                refine xi_iinc C (L' := [(3, .int (iN (v3_37 + 1))), (1, .int (iN t0_84)), (0, .ref (ad 54)), (2, .int (iN v2_10))]) 3 dX9_narrows_126 rfl (by decide) rfl ?_
                refine xi_goto C 37 dX9_narrows_129 (by decide) ?_
                obtain ⟨hc24, h⟩ := h
                exact xi_sub [2, 1, 3, 0] rfl (hk37 t0_84 (v3_37 + 1) (xup S100 96 r91 1) h h_t0_84 hc24 hw23)
              · replace h := h.2 z21
                refine xi_aload_n C 1 dX9_narrows_107 rfl rfl ?_
                refine xi_getR C xK_X9 (q := 54) (r := 95) rfl 55 (by decide) (ki := 55) rfl xl_X9_133 rfl dX9_narrows_108 ?_
                refine xi_aload_n C 1 dX9_narrows_111 rfl rfl ?_
                refine xi_iload_n C 3 dX9_narrows_112 rfl rfl ?_
                refine xc_Vi C hw19 (c_X9_goal l D ca ad tF v3_37 S100 _ h_v3_37 h) xk_X9_goal xv_X9_goal xl_X9_366 ⟨Nat.le_of_ble_eq_true rfl, Nat.le_of_ble_eq_true rfl⟩ xK_X9 (q := 54) rfl rfl rfl (Nat.le_of_ble_eq_true rfl) ⟨Nat.le_of_ble_eq_true rfl, Nat.le_of_ble_eq_true rfl⟩ dX9_narrows_113 (fun r113 S113 h_r113 h hw25 => ?_)
                obtain ⟨hc26, h⟩ := h
                refine xi_baload C (q := 95) rfl (by decide) hc26 dX9_narrows_116 ?_
                refine xi_if_eq C 124 (xval.i (q := 95) (i := r113) hw25 hc26.1 rfl) dX9_narrows_117 (by decide) (fun z27 => ?_) (fun z27 => ?_)
                · replace h := h.1 z27
                  refine xi_iconst C (v := 0) dX9_narrows_124 rfl ?_
                  obtain ⟨hc28, h⟩ := h
                  refine xi_bastore C (q := 96) rfl (by decide) hc28 (Or.inl rfl) dX9_narrows_125 ?_
                  have hw29 := xval.up (q := 96) (i := r91) (v := 0) hw25 rfl (by decide)
                  refine xi_iinc C (L' := [(3, .int (iN (v3_37 + 1))), (1, .int (iN t0_84)), (0, .ref (ad 54)), (2, .int (iN v2_10))]) 3 dX9_narrows_126 rfl (by decide) rfl ?_
                  refine xi_goto C 37 dX9_narrows_129 (by decide) ?_
                  obtain ⟨hc30, h⟩ := h
                  exact xi_sub [2, 1, 3, 0] rfl (hk37 t0_84 (v3_37 + 1) (xup S113 96 r91 0) h h_t0_84 hc30 hw29)
                · replace h := h.2 z27
                  refine xi_iconst C (v := 1) dX9_narrows_120 rfl ?_
                  refine xi_goto C 125 dX9_narrows_121 (by decide) ?_
                  obtain ⟨hc31, h⟩ := h
                  refine xi_bastore C (q := 96) rfl (by decide) hc31 (Or.inr rfl) dX9_narrows_125 ?_
                  have hw32 := xval.up (q := 96) (i := r91) (v := 1) hw25 rfl (by decide)
                  refine xi_iinc C (L' := [(3, .int (iN (v3_37 + 1))), (1, .int (iN t0_84)), (0, .ref (ad 54)), (2, .int (iN v2_10))]) 3 dX9_narrows_126 rfl (by decide) rfl ?_
                  refine xi_goto C 37 dX9_narrows_129 (by decide) ?_
                  obtain ⟨hc33, h⟩ := h
                  exact xi_sub [2, 1, 3, 0] rfl (hk37 t0_84 (v3_37 + 1) (xup S113 96 r91 1) h h_t0_84 hc33 hw32)
            · refine xJ0_w (fun  S79 => xval (gC D ca ad tF) S79 → xV (gC D ca ad tF) p l e ({ frames := 1, cells := 0, slots := 0, locals := 21 }) s m args below meth c A 4 Z 0 0 79 [(0, .ref (ad 54)), (2, .int (iN v2_10)), (3, .int (iN v3_37))] [] S79) h (fun  S79 h  hw79 => ?_) (fun j79 hj79 h => ?_)
              · unfold w_X9_narrows_J79 at h
                refine xi_iconst C (v := 1) dX9_narrows_79 rfl ?_
                refine xi_goto C 84 dX9_narrows_80 (by decide) ?_
                exact xi_sub [0, 1, 2] rfl (hj84 1 S79 h (by decide) hw79)
              · refine xi_if_ne C 79 h_v1_37 dX9_narrows_50 (by decide) (fun z17 => ?_) (fun z17 => ?_)
                · replace h := h.1 z17
                  exact xi_sub [0, 2, 3] rfl (hj79 S37 h hw37)
                · replace h := h.2 z17
                  refine xi_aload_n C 0 dX9_narrows_53 rfl rfl ?_
                  refine xi_getR C xK_X9 (q := 54) (r := 95) rfl 55 (by decide) (ki := 55) rfl xl_X9_133 rfl dX9_narrows_54 ?_
                  refine xi_aload_n C 0 dX9_narrows_57 rfl rfl ?_
                  refine xi_iload_n C 3 dX9_narrows_58 rfl rfl ?_
                  refine xc_Vi C hw37 (c_X9_goal l D ca ad tF v3_37 S37 _ h_v3_37 h) xk_X9_goal xv_X9_goal xl_X9_366 ⟨Nat.le_of_ble_eq_true rfl, Nat.le_of_ble_eq_true rfl⟩ xK_X9 (q := 54) rfl rfl rfl (Nat.le_of_ble_eq_true rfl) ⟨Nat.le_of_ble_eq_true rfl, Nat.le_of_ble_eq_true rfl⟩ dX9_narrows_59 (fun r59 S59 h_r59 h hw34 => ?_)
                  obtain ⟨hc35, h⟩ := h
                  refine xi_baload C (q := 95) rfl (by decide) hc35 dX9_narrows_62 ?_
                  refine xi_if_eq C 83 (xval.i (q := 95) (i := r59) hw34 hc35.1 rfl) dX9_narrows_63 (by decide) (fun z36 => ?_) (fun z36 => ?_)
                  · replace h := h.1 z36
                    refine xi_iconst C (v := 0) dX9_narrows_83 rfl ?_
                    exact xi_sub [0, 2, 3] rfl (hj84 0 S59 h (by decide) hw34)
                  · replace h := h.2 z36
                    refine xi_aload_n C 0 dX9_narrows_66 rfl rfl ?_
                    refine xi_getR C xK_X9 (q := 54) (r := 96) rfl 56 (by decide) (ki := 56) rfl xl_X9_136 rfl dX9_narrows_67 ?_
                    refine xi_aload_n C 0 dX9_narrows_70 rfl rfl ?_
                    refine xi_iload_n C 3 dX9_narrows_71 rfl rfl ?_
                    refine xc_Vi C hw34 (c_X9_goal l D ca ad tF v3_37 S59 _ h_v3_37 h) xk_X9_goal xv_X9_goal xl_X9_366 ⟨Nat.le_of_ble_eq_true rfl, Nat.le_of_ble_eq_true rfl⟩ xK_X9 (q := 54) rfl rfl rfl (Nat.le_of_ble_eq_true rfl) ⟨Nat.le_of_ble_eq_true rfl, Nat.le_of_ble_eq_true rfl⟩ dX9_narrows_72 (fun r72 S72 h_r72 h hw37 => ?_)
                    obtain ⟨hc38, h⟩ := h
                    refine xi_baload C (q := 96) rfl (by decide) hc38 dX9_narrows_75 ?_
                    refine xi_if_ne C 83 (xval.i (q := 96) (i := r72) hw37 hc38.1 rfl) dX9_narrows_76 (by decide) (fun z39 => ?_) (fun z39 => ?_)
                    · replace h := h.1 z39
                      refine xi_iconst C (v := 0) dX9_narrows_83 rfl ?_
                      exact xi_sub [0, 2, 3] rfl (hj84 0 S72 h (by decide) hw37)
                    · replace h := h.2 z39
                      exact xi_sub [0, 2, 3] rfl (hj79 S72 h hw37)
        · replace h := h.2 z14
          refine xi_goto C 132 dX9_narrows_27 (by decide) ?_
          refine xi_iinc C (L' := [(2, .int (iN (v2_10 + 1))), (0, .ref (ad 54)), (1, .int (iN v1_10))]) 2 dX9_narrows_132 rfl (by decide) rfl ?_
          refine xi_goto C 10 dX9_narrows_135 (by decide) ?_
          obtain ⟨hc40, h⟩ := h
          exact xi_sub [1, 2, 0] rfl (hk10 v1_10 (v2_10 + 1) S10 h h_v1_10 hc40 hw10)
set_option maxRecDepth 100000 in
set_option maxHeartbeats 4000000 in
theorem c_X9_comes (l : Launch) (D : va_G) (ca : Nat → ClassId) (ad : Nat → Nat) (tF : Nat) (a1 : Int) (a2 : Int) (a3 : Int) (S : xS) (Q : Int → xS → Prop) (h_a1 : xR a1) (h_a2 : xR a2) (h_a3 : xR a3) (h : w_X9_comes a1 a2 a3 S Q) : xM l yX9_comes (xws yX9_comes cX9_comes 5 (some .boolean)) ({ frames := 4, cells := 0, slots := 0, locals := 92 }) (gC D ca ad tF) [.ref (ad 54), .int (iN a1), .int (iN a2), .int (iN a3)] S (xQi Q) 0 0 := by
  refine xm_of RX9 rfl (by decide +kernel) (Nat.le_of_ble_eq_true rfl) ?_
  intro p e s m args below meth c A Z C hA hZ hr hlocks hw
  unfold w_X9_comes at h
  show xV (gC D ca ad tF) p l e ({ frames := 4, cells := 0, slots := 0, locals := 92 }) s m args below meth c A 5 Z 0 0 0 [(0, .ref (ad 54)), (1, .int (iN a1)), (2, .int (iN a2)), (3, .int (iN a3))] [] S
  refine xi_aload_n C 0 dX9_comes_0 rfl rfl ?_
  refine xi_iload_n C 1 dX9_comes_1 rfl rfl ?_
  refine xi_iload_n C 2 dX9_comes_2 rfl rfl ?_
  refine xc_Vi C hw (c_X9_isAsked l D ca ad tF a1 a2 S _ h_a1 h_a2 h) xk_X9_isAsked xv_X9_isAsked xl_X9_378 ⟨Nat.le_of_ble_eq_true rfl, Nat.le_of_ble_eq_true rfl⟩ xK_X9 (q := 54) rfl rfl rfl (Nat.le_of_ble_eq_true rfl) ⟨Nat.le_of_ble_eq_true rfl, Nat.le_of_ble_eq_true rfl⟩ dX9_comes_3 (fun r3 S3 h_r3 h hw1 => ?_)
  refine xi_if_ne C 11 h_r3 dX9_comes_6 (by decide) (fun z2 => ?_) (fun z2 => ?_)
  · replace h := h.1 z2
    refine xi_aload_n C 0 dX9_comes_11 rfl rfl ?_
    refine xi_iload_n C 1 dX9_comes_12 rfl rfl ?_
    refine xi_iload_n C 2 dX9_comes_13 rfl rfl ?_
    refine xc_Vv C hw1 (c_X9_laysSet l D ca ad tF a1 a2 S3 _ h_a1 h_a2 h) xk_X9_laysSet xv_X9_laysSet xl_X9_381 ⟨Nat.le_of_ble_eq_true rfl, Nat.le_of_ble_eq_true rfl⟩ xK_X9 (q := 54) rfl rfl rfl (Nat.le_of_ble_eq_true rfl) ⟨Nat.le_of_ble_eq_true rfl, Nat.le_of_ble_eq_true rfl⟩ dX9_comes_14 (fun S14 h hw3 => ?_)
    refine xi_iconst C (v := 0) dX9_comes_17 rfl ?_
    refine xi_istore C (L' := [(4, .int (iN 0)), (0, .ref (ad 54)), (1, .int (iN a1)), (2, .int (iN a2)), (3, .int (iN a3))]) dX9_comes_18 (by decide) rfl ?_
    refine xJ0_w (fun  S62 => xval (gC D ca ad tF) S62 → xV (gC D ca ad tF) p l e ({ frames := 4, cells := 0, slots := 0, locals := 92 }) s m args below meth c A 5 Z 0 0 62 [(0, .ref (ad 54)), (3, .int (iN a3))] [] S62) h (fun  S62 h  hw62 => ?_) (fun j62 hj62 h => ?_)
    · unfold w_X9_comes_J62 at h
      refine xi_aload_n C 0 dX9_comes_62 rfl rfl ?_
      refine xc_Vv C hw62 (c_X9_narrows l D ca ad tF S62 _ h) xk_X9_narrows xv_X9_narrows xl_X9_392 ⟨Nat.le_of_ble_eq_true rfl, Nat.le_of_ble_eq_true rfl⟩ xK_X9 (q := 54) rfl rfl rfl (Nat.le_of_ble_eq_true rfl) ⟨Nat.le_of_ble_eq_true rfl, Nat.le_of_ble_eq_true rfl⟩ dX9_comes_63 (fun S63 h hw4 => ?_)
      refine xi_aload_n C 0 dX9_comes_66 rfl rfl ?_
      refine xi_iload_n C 1 dX9_comes_67 rfl rfl ?_
      refine xc_Vi C hw4 (c_X9_canStay l D ca ad tF a3 S63 _ h_a3 h) xk_X9_canStay xv_X9_canStay xl_X9_384 ⟨Nat.le_of_ble_eq_true rfl, Nat.le_of_ble_eq_true rfl⟩ xK_X9 (q := 54) rfl rfl rfl (Nat.le_of_ble_eq_true rfl) ⟨Nat.le_of_ble_eq_true rfl, Nat.le_of_ble_eq_true rfl⟩ dX9_comes_68 (fun r68 S68 h_r68 h hw5 => ?_)
      refine xi_if_ne C 78 h_r68 dX9_comes_71 (by decide) (fun z6 => ?_) (fun z6 => ?_)
      · replace h := h.1 z6
        refine xi_iconst C (v := 0) dX9_comes_78 rfl ?_
        exact xr_i C hA hZ hr hlocks (xnarZ (Or.inl rfl)).1 dX9_comes_79 (Nat.le_of_ble_eq_true rfl) (Nat.le_of_ble_eq_true rfl) hw5 ⟨_, rfl, (by decide), h⟩
      · replace h := h.2 z6
        refine xi_iconst C (v := 1) dX9_comes_74 rfl ?_
        refine xi_goto C 79 dX9_comes_75 (by decide) ?_
        exact xr_i C hA hZ hr hlocks (xnarZ (Or.inr rfl)).1 dX9_comes_79 (Nat.le_of_ble_eq_true rfl) (Nat.le_of_ble_eq_true rfl) hw5 ⟨_, rfl, (by decide), h⟩
    · refine xi_sub [1, 4, 0] rfl (xW1 (fun v4_20 S20 => xR v4_20 → xval (gC D ca ad tF) S20 → xV (gC D ca ad tF) p l e ({ frames := 4, cells := 0, slots := 0, locals := 92 }) s m args below meth c A 5 Z 0 0 20 [(0, .ref (ad 54)), (3, .int (iN a3)), (4, .int (iN v4_20))] [] S20) h (fun k20 hk20 v4_20 S20 h h_v4_20 hw20 => ?_) (by decide) hw3)
      unfold w_X9_comes_L20 at h
      refine xi_iload C 2 dX9_comes_20 rfl ?_
      refine xi_aload_n C 0 dX9_comes_22 rfl rfl ?_
      refine xi_getI C xK_X9 (q := 54) (r := 0) rfl 5 (by decide) (ki := 5) rfl xl_X9_224 rfl dX9_comes_23 ?_
      refine xi_icmp_ge C 62 h_v4_20 (xval.i (q := 54) (i := 5) hw20 (by decide) rfl) dX9_comes_26 (by decide) (fun z7 => ?_) (fun z7 => ?_)
      · replace h := h.1 z7
        exact xi_sub [0, 1] rfl (hj62 S20 h hw20)
      · replace h := h.2 z7
        refine xi_aload_n C 0 dX9_comes_29 rfl rfl ?_
        refine xi_getR C xK_X9 (q := 54) (r := 96) rfl 56 (by decide) (ki := 56) rfl xl_X9_136 rfl dX9_comes_30 ?_
        refine xi_iload C 2 dX9_comes_33 rfl ?_
        refine xi_iload C 2 dX9_comes_35 rfl ?_
        refine xi_if_ne C 54 h_v4_20 dX9_comes_37 (by decide) (fun z8 => ?_) (fun z8 => ?_)
        · replace h := h.1 z8
          refine xi_iconst C (v := 0) dX9_comes_54 rfl ?_
          obtain ⟨hc9, h⟩ := h
          refine xi_bastore C (q := 96) rfl (by decide) hc9 (Or.inl rfl) dX9_comes_55 ?_
          have hw10 := xval.up (q := 96) (i := v4_20) (v := 0) hw20 rfl (by decide)
          refine xi_iinc C (L' := [(4, .int (iN (v4_20 + 1))), (0, .ref (ad 54)), (3, .int (iN a3))]) 2 dX9_comes_56 rfl (by decide) rfl ?_
          refine xi_goto C 20 dX9_comes_59 (by decide) ?_
          obtain ⟨hc11, h⟩ := h
          exact xi_sub [1, 2, 0] rfl (hk20 (v4_20 + 1) (xup S20 96 v4_20 0) h hc11 hw10)
        · replace h := h.2 z8
          refine xi_aload_n C 0 dX9_comes_40 rfl rfl ?_
          refine xi_getR C xK_X9 (q := 54) (r := 95) rfl 55 (by decide) (ki := 55) rfl xl_X9_133 rfl dX9_comes_41 ?_
          refine xi_iload C 2 dX9_comes_44 rfl ?_
          obtain ⟨hc12, h⟩ := h
          refine xi_baload C (q := 95) rfl (by decide) hc12 dX9_comes_46 ?_
          refine xi_if_eq C 54 (xval.i (q := 95) (i := v4_20) hw20 hc12.1 rfl) dX9_comes_47 (by decide) (fun z13 => ?_) (fun z13 => ?_)
          · replace h := h.1 z13
            refine xi_iconst C (v := 0) dX9_comes_54 rfl ?_
            refine xi_bastore C (q := 96) rfl (by decide) hc12 (Or.inl rfl) dX9_comes_55 ?_
            have hw14 := xval.up (q := 96) (i := v4_20) (v := 0) hw20 rfl (by decide)
            refine xi_iinc C (L' := [(4, .int (iN (v4_20 + 1))), (0, .ref (ad 54)), (3, .int (iN a3))]) 2 dX9_comes_56 rfl (by decide) rfl ?_
            refine xi_goto C 20 dX9_comes_59 (by decide) ?_
            obtain ⟨hc15, h⟩ := h
            exact xi_sub [1, 2, 0] rfl (hk20 (v4_20 + 1) (xup S20 96 v4_20 0) h hc15 hw14)
          · replace h := h.2 z13
            refine xi_iconst C (v := 1) dX9_comes_50 rfl ?_
            refine xi_goto C 55 dX9_comes_51 (by decide) ?_
            refine xi_bastore C (q := 96) rfl (by decide) hc12 (Or.inr rfl) dX9_comes_55 ?_
            have hw16 := xval.up (q := 96) (i := v4_20) (v := 1) hw20 rfl (by decide)
            refine xi_iinc C (L' := [(4, .int (iN (v4_20 + 1))), (0, .ref (ad 54)), (3, .int (iN a3))]) 2 dX9_comes_56 rfl (by decide) rfl ?_
            refine xi_goto C 20 dX9_comes_59 (by decide) ?_
            obtain ⟨hc17, h⟩ := h
            exact xi_sub [1, 2, 0] rfl (hk20 (v4_20 + 1) (xup S20 96 v4_20 1) h hc17 hw16)
  · replace h := h.2 z2
    refine xi_iconst C (v := 0) dX9_comes_9 rfl ?_
    exact xr_i C hA hZ hr hlocks (xnarZ (Or.inl rfl)).1 dX9_comes_10 (Nat.le_of_ble_eq_true rfl) (Nat.le_of_ble_eq_true rfl) hw1 ⟨_, rfl, (by decide), h⟩
set_option maxRecDepth 100000 in
set_option maxHeartbeats 4000000 in
theorem c_X9_follows (l : Launch) (D : va_G) (ca : Nat → ClassId) (ad : Nat → Nat) (tF : Nat) (a1 : Int) (a2 : Int) (a3 : Int) (a4 : Int) (a5 : Int) (S : xS) (Q : Int → xS → Prop) (h_a1 : xR a1) (h_a2 : xR a2) (h_a3 : xR a3) (h_a4 : xR a4) (h_a5 : xR a5) (h : w_X9_follows a1 a2 a3 a4 a5 S Q) : xM l yX9_follows (xws yX9_follows cX9_follows 7 (some .boolean)) ({ frames := 4, cells := 0, slots := 0, locals := 92 }) (gC D ca ad tF) [.ref (ad 54), .int (iN a1), .int (iN a2), .int (iN a3), .int (iN a4), .int (iN a5)] S (xQi Q) 0 0 := by
  refine xm_of RX9 rfl (by decide +kernel) (Nat.le_of_ble_eq_true rfl) ?_
  intro p e s m args below meth c A Z C hA hZ hr hlocks hw
  unfold w_X9_follows at h
  show xV (gC D ca ad tF) p l e ({ frames := 4, cells := 0, slots := 0, locals := 92 }) s m args below meth c A 7 Z 0 0 0 [(0, .ref (ad 54)), (1, .int (iN a1)), (2, .int (iN a2)), (3, .int (iN a3)), (4, .int (iN a4)), (5, .int (iN a5))] [] S
  refine xi_aload_n C 0 dX9_follows_0 rfl rfl ?_
  refine xi_iload_n C 1 dX9_follows_1 rfl rfl ?_
  refine xi_iconst C (v := 0) dX9_follows_2 rfl ?_
  refine xi_bipush C (v := 8) dX9_follows_3 (by decide +kernel) ?_
  refine xc_Si C hw (c_X9_in l D ca ad tF a1 0 8 S _ h_a1 (by decide) (by decide) h) xk_X9_in xs_X9_in xl_X9_294 ⟨Nat.le_of_ble_eq_true rfl, Nat.le_of_ble_eq_true rfl⟩ rfl rfl (Nat.le_of_ble_eq_true rfl) ⟨Nat.le_of_ble_eq_true rfl, Nat.le_of_ble_eq_true rfl⟩ dX9_follows_5 (fun r5 S5 h_r5 h hw1 => ?_)
  refine xJ1_w (fun t0_56 S56 => xR t0_56 → xval (gC D ca ad tF) S56 → xV (gC D ca ad tF) p l e ({ frames := 4, cells := 0, slots := 0, locals := 92 }) s m args below meth c A 7 Z 0 0 56 [(0, .ref (ad 54)), (1, .int (iN a1)), (2, .int (iN a2)), (3, .int (iN a3)), (4, .int (iN a4)), (5, .int (iN a5))] [.int (iN t0_56), .ref (ad 54)] S56) h (fun t0_56 S56 h h_t0_56 hw56 => ?_) (fun j56 hj56 h => ?_)
  · unfold w_X9_follows_J56 at h
    refine xi_putI C xK_X9 (q := 54) (r := 0) rfl 0 (by decide) (ki := 0) rfl xl_X9_142 rfl rfl rfl dX9_follows_56 ?_
    have hw3 := xval.up (q := 54) (i := 0) (v := t0_56) hw56 rfl h_t0_56
    refine xi_aload_n C 0 dX9_follows_59 rfl rfl ?_
    refine xi_getI C xK_X9 (q := 54) (r := 0) rfl 0 (by decide) (ki := 0) rfl xl_X9_142 rfl dX9_follows_60 ?_
    refine xi_if_le C 68 (xval.i (q := 54) (i := 0) hw3 (by decide) rfl) dX9_follows_63 (by decide) (fun z4 => ?_) (fun z4 => ?_)
    · replace h := h.1 z4
      refine xi_aload_n C 0 dX9_follows_68 rfl rfl ?_
      refine xi_iload_n C 3 dX9_follows_69 rfl rfl ?_
      refine xi_iload C 4 dX9_follows_70 rfl ?_
      refine xc_Vv C hw3 (c_X9_laysSet l D ca ad tF a3 a4 (xup S56 54 0 t0_56) _ h_a3 h_a4 h) xk_X9_laysSet xv_X9_laysSet xl_X9_381 ⟨Nat.le_of_ble_eq_true rfl, Nat.le_of_ble_eq_true rfl⟩ xK_X9 (q := 54) rfl rfl rfl (Nat.le_of_ble_eq_true rfl) ⟨Nat.le_of_ble_eq_true rfl, Nat.le_of_ble_eq_true rfl⟩ dX9_follows_72 (fun S72 h hw5 => ?_)
      refine xi_iconst C (v := 0) dX9_follows_75 rfl ?_
      refine xi_istore C (L' := [(6, .int (iN 0)), (0, .ref (ad 54)), (1, .int (iN a1)), (2, .int (iN a2)), (3, .int (iN a3)), (4, .int (iN a4)), (5, .int (iN a5))]) dX9_follows_76 (by decide) rfl ?_
      refine xJ0_w (fun  S126 => xval (gC D ca ad tF) S126 → xV (gC D ca ad tF) p l e ({ frames := 4, cells := 0, slots := 0, locals := 92 }) s m args below meth c A 7 Z 0 0 126 [(0, .ref (ad 54)), (5, .int (iN a5))] [] S126) h (fun  S126 h  hw126 => ?_) (fun j126 hj126 h => ?_)
      · unfold w_X9_follows_J126 at h
        refine xi_aload_n C 0 dX9_follows_126 rfl rfl ?_
        refine xc_Vv C hw126 (c_X9_narrows l D ca ad tF S126 _ h) xk_X9_narrows xv_X9_narrows xl_X9_392 ⟨Nat.le_of_ble_eq_true rfl, Nat.le_of_ble_eq_true rfl⟩ xK_X9 (q := 54) rfl rfl rfl (Nat.le_of_ble_eq_true rfl) ⟨Nat.le_of_ble_eq_true rfl, Nat.le_of_ble_eq_true rfl⟩ dX9_follows_127 (fun S127 h hw6 => ?_)
        refine xi_aload_n C 0 dX9_follows_130 rfl rfl ?_
        refine xi_iload C 1 dX9_follows_131 rfl ?_
        refine xc_Vi C hw6 (c_X9_canStay l D ca ad tF a5 S127 _ h_a5 h) xk_X9_canStay xv_X9_canStay xl_X9_384 ⟨Nat.le_of_ble_eq_true rfl, Nat.le_of_ble_eq_true rfl⟩ xK_X9 (q := 54) rfl rfl rfl (Nat.le_of_ble_eq_true rfl) ⟨Nat.le_of_ble_eq_true rfl, Nat.le_of_ble_eq_true rfl⟩ dX9_follows_133 (fun r133 S133 h_r133 h hw7 => ?_)
        refine xi_if_ne C 143 h_r133 dX9_follows_136 (by decide) (fun z8 => ?_) (fun z8 => ?_)
        · replace h := h.1 z8
          refine xi_iconst C (v := 0) dX9_follows_143 rfl ?_
          exact xr_i C hA hZ hr hlocks (xnarZ (Or.inl rfl)).1 dX9_follows_144 (Nat.le_of_ble_eq_true rfl) (Nat.le_of_ble_eq_true rfl) hw7 ⟨_, rfl, (by decide), h⟩
        · replace h := h.2 z8
          refine xi_iconst C (v := 1) dX9_follows_139 rfl ?_
          refine xi_goto C 144 dX9_follows_140 (by decide) ?_
          exact xr_i C hA hZ hr hlocks (xnarZ (Or.inr rfl)).1 dX9_follows_144 (Nat.le_of_ble_eq_true rfl) (Nat.le_of_ble_eq_true rfl) hw7 ⟨_, rfl, (by decide), h⟩
      · refine xi_sub [1, 2, 3, 6, 0] rfl (xW1 (fun v6_78 S78 => xR v6_78 → xval (gC D ca ad tF) S78 → xV (gC D ca ad tF) p l e ({ frames := 4, cells := 0, slots := 0, locals := 92 }) s m args below meth c A 7 Z 0 0 78 [(0, .ref (ad 54)), (1, .int (iN a1)), (2, .int (iN a2)), (5, .int (iN a5)), (6, .int (iN v6_78))] [] S78) h (fun k78 hk78 v6_78 S78 h h_v6_78 hw78 => ?_) (by decide) hw5)
        unfold w_X9_follows_L78 at h
        refine xi_iload C 4 dX9_follows_78 rfl ?_
        refine xi_aload_n C 0 dX9_follows_80 rfl rfl ?_
        refine xi_getI C xK_X9 (q := 54) (r := 0) rfl 5 (by decide) (ki := 5) rfl xl_X9_224 rfl dX9_follows_81 ?_
        refine xi_icmp_ge C 126 h_v6_78 (xval.i (q := 54) (i := 5) hw78 (by decide) rfl) dX9_follows_84 (by decide) (fun z9 => ?_) (fun z9 => ?_)
        · replace h := h.1 z9
          exact xi_sub [0, 3] rfl (hj126 S78 h hw78)
        · replace h := h.2 z9
          refine xi_aload_n C 0 dX9_follows_87 rfl rfl ?_
          refine xi_getR C xK_X9 (q := 54) (r := 96) rfl 56 (by decide) (ki := 56) rfl xl_X9_136 rfl dX9_follows_88 ?_
          refine xi_iload C 4 dX9_follows_91 rfl ?_
          refine xi_aload_n C 0 dX9_follows_93 rfl rfl ?_
          refine xi_getR C xK_X9 (q := 54) (r := 95) rfl 55 (by decide) (ki := 55) rfl xl_X9_133 rfl dX9_follows_94 ?_
          refine xi_iload C 4 dX9_follows_97 rfl ?_
          obtain ⟨hc10, h⟩ := h
          refine xi_baload C (q := 95) rfl (by decide) hc10 dX9_follows_99 ?_
          refine xi_if_eq C 118 (xval.i (q := 95) (i := v6_78) hw78 hc10.1 rfl) dX9_follows_100 (by decide) (fun z11 => ?_) (fun z11 => ?_)
          · replace h := h.1 z11
            refine xi_iconst C (v := 0) dX9_follows_118 rfl ?_
            refine xi_bastore C (q := 96) rfl (by decide) hc10 (Or.inl rfl) dX9_follows_119 ?_
            have hw12 := xval.up (q := 96) (i := v6_78) (v := 0) hw78 rfl (by decide)
            refine xi_iinc C (L' := [(6, .int (iN (v6_78 + 1))), (0, .ref (ad 54)), (1, .int (iN a1)), (2, .int (iN a2)), (5, .int (iN a5))]) 4 dX9_follows_120 rfl (by decide) rfl ?_
            refine xi_goto C 78 dX9_follows_123 (by decide) ?_
            obtain ⟨hc13, h⟩ := h
            exact xi_sub [1, 2, 3, 4, 0] rfl (hk78 (v6_78 + 1) (xup S78 96 v6_78 0) h hc13 hw12)
          · replace h := h.2 z11
            refine xi_aload_n C 0 dX9_follows_103 rfl rfl ?_
            refine xi_iload C 4 dX9_follows_104 rfl ?_
            refine xi_iload_n C 1 dX9_follows_106 rfl rfl ?_
            refine xc_Vi C hw78 (c_X9_valueIn l D ca ad tF v6_78 a1 S78 _ h_v6_78 h_a1 h) xk_X9_valueIn xv_X9_valueIn xl_X9_344 ⟨Nat.le_of_ble_eq_true rfl, Nat.le_of_ble_eq_true rfl⟩ xK_X9 (q := 54) rfl rfl rfl (Nat.le_of_ble_eq_true rfl) ⟨Nat.le_of_ble_eq_true rfl, Nat.le_of_ble_eq_true rfl⟩ dX9_follows_107 (fun r107 S107 h_r107 h hw14 => ?_)
            refine xi_iload_n C 2 dX9_follows_110 rfl rfl ?_
            refine xi_icmp_ne C 118 h_r107 h_a2 dX9_follows_111 (by decide) (fun z15 => ?_) (fun z15 => ?_)
            · replace h := h.1 z15
              refine xi_iconst C (v := 0) dX9_follows_118 rfl ?_
              refine xi_bastore C (q := 96) rfl (by decide) hc10 (Or.inl rfl) dX9_follows_119 ?_
              have hw16 := xval.up (q := 96) (i := v6_78) (v := 0) hw14 rfl (by decide)
              refine xi_iinc C (L' := [(6, .int (iN (v6_78 + 1))), (0, .ref (ad 54)), (1, .int (iN a1)), (2, .int (iN a2)), (5, .int (iN a5))]) 4 dX9_follows_120 rfl (by decide) rfl ?_
              refine xi_goto C 78 dX9_follows_123 (by decide) ?_
              obtain ⟨hc17, h⟩ := h
              exact xi_sub [1, 2, 3, 4, 0] rfl (hk78 (v6_78 + 1) (xup S107 96 v6_78 0) h hc17 hw16)
            · replace h := h.2 z15
              refine xi_iconst C (v := 1) dX9_follows_114 rfl ?_
              refine xi_goto C 119 dX9_follows_115 (by decide) ?_
              refine xi_bastore C (q := 96) rfl (by decide) hc10 (Or.inr rfl) dX9_follows_119 ?_
              have hw18 := xval.up (q := 96) (i := v6_78) (v := 1) hw14 rfl (by decide)
              refine xi_iinc C (L' := [(6, .int (iN (v6_78 + 1))), (0, .ref (ad 54)), (1, .int (iN a1)), (2, .int (iN a2)), (5, .int (iN a5))]) 4 dX9_follows_120 rfl (by decide) rfl ?_
              refine xi_goto C 78 dX9_follows_123 (by decide) ?_
              obtain ⟨hc19, h⟩ := h
              exact xi_sub [1, 2, 3, 4, 0] rfl (hk78 (v6_78 + 1) (xup S107 96 v6_78 1) h hc19 hw18)
    · replace h := h.2 z4
      refine xi_iconst C (v := 0) dX9_follows_66 rfl ?_
      exact xr_i C hA hZ hr hlocks (xnarZ (Or.inl rfl)).1 dX9_follows_67 (Nat.le_of_ble_eq_true rfl) (Nat.le_of_ble_eq_true rfl) hw3 ⟨_, rfl, (by decide), h⟩
  · refine xJ0_w (fun  S40 => xval (gC D ca ad tF) S40 → xV (gC D ca ad tF) p l e ({ frames := 4, cells := 0, slots := 0, locals := 92 }) s m args below meth c A 7 Z 0 0 40 [(0, .ref (ad 54)), (1, .int (iN a1)), (2, .int (iN a2)), (3, .int (iN a3)), (4, .int (iN a4)), (5, .int (iN a5))] [.ref (ad 54)] S40) h (fun  S40 h  hw40 => ?_) (fun j40 hj40 h => ?_)
    · unfold w_X9_follows_J40 at h
      refine xi_iconst C (v := 1) dX9_follows_40 rfl ?_
      refine xi_goto C 56 dX9_follows_41 (by decide) ?_
      exact xi_sub [0, 1, 2, 3, 4, 5] rfl (hj56 1 S40 h (by decide) hw40)
    · refine xi_if_eq C 40 h_r5 dX9_follows_8 (by decide) (fun z2 => ?_) (fun z2 => ?_)
      · replace h := h.1 z2
        exact xi_sub [0, 1, 2, 3, 4, 5] rfl (hj40 S5 h hw1)
      · replace h := h.2 z2
        refine xi_iload_n C 2 dX9_follows_11 rfl rfl ?_
        refine xi_iconst C (v := 0) dX9_follows_12 rfl ?_
        refine xi_iconst C (v := 3) dX9_follows_13 rfl ?_
        refine xc_Si C hw1 (c_X9_in l D ca ad tF a2 0 3 S5 _ h_a2 (by decide) (by decide) h) xk_X9_in xs_X9_in xl_X9_294 ⟨Nat.le_of_ble_eq_true rfl, Nat.le_of_ble_eq_true rfl⟩ rfl rfl (Nat.le_of_ble_eq_true rfl) ⟨Nat.le_of_ble_eq_true rfl, Nat.le_of_ble_eq_true rfl⟩ dX9_follows_14 (fun r14 S14 h_r14 h hw20 => ?_)
        refine xi_if_eq C 40 h_r14 dX9_follows_17 (by decide) (fun z21 => ?_) (fun z21 => ?_)
        · replace h := h.1 z21
          exact xi_sub [0, 1, 2, 3, 4, 5] rfl (hj40 S14 h hw20)
        · replace h := h.2 z21
          refine xi_iload_n C 3 dX9_follows_20 rfl rfl ?_
          refine xi_iconst C (v := 0) dX9_follows_21 rfl ?_
          refine xi_bipush C (v := 8) dX9_follows_22 (by decide +kernel) ?_
          refine xc_Si C hw20 (c_X9_in l D ca ad tF a3 0 8 S14 _ h_a3 (by decide) (by decide) h) xk_X9_in xs_X9_in xl_X9_294 ⟨Nat.le_of_ble_eq_true rfl, Nat.le_of_ble_eq_true rfl⟩ rfl rfl (Nat.le_of_ble_eq_true rfl) ⟨Nat.le_of_ble_eq_true rfl, Nat.le_of_ble_eq_true rfl⟩ dX9_follows_24 (fun r24 S24 h_r24 h hw22 => ?_)
          refine xi_if_eq C 40 h_r24 dX9_follows_27 (by decide) (fun z23 => ?_) (fun z23 => ?_)
          · replace h := h.1 z23
            exact xi_sub [0, 1, 2, 3, 4, 5] rfl (hj40 S24 h hw22)
          · replace h := h.2 z23
            refine xi_iload C 4 dX9_follows_30 rfl ?_
            refine xi_iconst C (v := 0) dX9_follows_32 rfl ?_
            refine xi_iconst C (v := 3) dX9_follows_33 rfl ?_
            refine xc_Si C hw22 (c_X9_in l D ca ad tF a4 0 3 S24 _ h_a4 (by decide) (by decide) h) xk_X9_in xs_X9_in xl_X9_294 ⟨Nat.le_of_ble_eq_true rfl, Nat.le_of_ble_eq_true rfl⟩ rfl rfl (Nat.le_of_ble_eq_true rfl) ⟨Nat.le_of_ble_eq_true rfl, Nat.le_of_ble_eq_true rfl⟩ dX9_follows_34 (fun r34 S34 h_r34 h hw24 => ?_)
            refine xi_if_ne C 44 h_r34 dX9_follows_37 (by decide) (fun z25 => ?_) (fun z25 => ?_)
            · replace h := h.1 z25
              refine xi_aload_n C 0 dX9_follows_44 rfl rfl ?_
              refine xc_Vi C hw24 (c_X9_isGraph l D ca ad tF S34 _ h) xk_X9_isGraph xv_X9_isGraph xl_X9_375 ⟨Nat.le_of_ble_eq_true rfl, Nat.le_of_ble_eq_true rfl⟩ xK_X9 (q := 54) rfl rfl rfl (Nat.le_of_ble_eq_true rfl) ⟨Nat.le_of_ble_eq_true rfl, Nat.le_of_ble_eq_true rfl⟩ dX9_follows_45 (fun r45 S45 h_r45 h hw26 => ?_)
              refine xi_if_ne C 55 h_r45 dX9_follows_48 (by decide) (fun z27 => ?_) (fun z27 => ?_)
              · replace h := h.1 z27
                refine xi_iconst C (v := 0) dX9_follows_55 rfl ?_
                exact xi_sub [0, 1, 2, 3, 4, 5] rfl (hj56 0 S45 h (by decide) hw26)
              · replace h := h.2 z27
                refine xi_iconst C (v := 2) dX9_follows_51 rfl ?_
                refine xi_goto C 56 dX9_follows_52 (by decide) ?_
                exact xi_sub [0, 1, 2, 3, 4, 5] rfl (hj56 2 S45 h (by decide) hw26)
            · replace h := h.2 z25
              exact xi_sub [0, 1, 2, 3, 4, 5] rfl (hj40 S34 h hw24)
set_option maxRecDepth 100000 in
set_option maxHeartbeats 4000000 in
theorem c_X9_distance (l : Launch) (D : va_G) (ca : Nat → ClassId) (ad : Nat → Nat) (tF : Nat) (a1 : Int) (a2 : Int) (S : xS) (Q : Int → xS → Prop) (h_a1 : xR a1) (h_a2 : xR a2) (h : w_X9_distance a1 a2 S Q) : xM l yX9_distance (xws yX9_distance cX9_distance 4 (some .int)) ({ frames := 3, cells := 0, slots := 0, locals := 62 }) (gC D ca ad tF) [.ref (ad 54), .int (iN a1), .int (iN a2)] S (xQi Q) 0 0 := by
  refine xm_of RX9 rfl (by decide +kernel) (Nat.le_of_ble_eq_true rfl) ?_
  intro p e s m args below meth c A Z C hA hZ hr hlocks hw
  unfold w_X9_distance at h
  show xV (gC D ca ad tF) p l e ({ frames := 3, cells := 0, slots := 0, locals := 62 }) s m args below meth c A 4 Z 0 0 0 [(0, .ref (ad 54)), (1, .int (iN a1)), (2, .int (iN a2))] [] S
  refine xi_aload_n C 0 dX9_distance_0 rfl rfl ?_
  refine xi_iload_n C 1 dX9_distance_1 rfl rfl ?_
  refine xi_iload_n C 2 dX9_distance_2 rfl rfl ?_
  refine xc_Vi C hw (c_X9_isAsked l D ca ad tF a1 a2 S _ h_a1 h_a2 h) xk_X9_isAsked xv_X9_isAsked xl_X9_378 ⟨Nat.le_of_ble_eq_true rfl, Nat.le_of_ble_eq_true rfl⟩ xK_X9 (q := 54) rfl rfl rfl (Nat.le_of_ble_eq_true rfl) ⟨Nat.le_of_ble_eq_true rfl, Nat.le_of_ble_eq_true rfl⟩ dX9_distance_3 (fun r3 S3 h_r3 h hw1 => ?_)
  refine xi_if_ne C 11 h_r3 dX9_distance_6 (by decide) (fun z2 => ?_) (fun z2 => ?_)
  · replace h := h.1 z2
    refine xi_iconst C (v := 0) dX9_distance_11 rfl ?_
    refine xi_istore_n C (L' := [(3, .int (iN 0)), (0, .ref (ad 54)), (1, .int (iN a1)), (2, .int (iN a2))]) dX9_distance_12 rfl (by decide) rfl ?_
    refine xJ0_w (fun  S44 => xval (gC D ca ad tF) S44 → xV (gC D ca ad tF) p l e ({ frames := 3, cells := 0, slots := 0, locals := 62 }) s m args below meth c A 4 Z 0 0 44 [(0, .ref (ad 54))] [] S44) h (fun  S44 h  hw44 => ?_) (fun j44 hj44 h => ?_)
    · unfold w_X9_distance_J44 at h
      refine xi_aload_n C 0 dX9_distance_44 rfl rfl ?_
      refine xi_iconst C (v := 3) dX9_distance_45 rfl ?_
      refine xc_Vi C hw44 (c_X9_fails l D ca ad tF 3 S44 _ (by decide) h) xk_X9_fails xv_X9_fails xl_X9_297 ⟨Nat.le_of_ble_eq_true rfl, Nat.le_of_ble_eq_true rfl⟩ xK_X9 (q := 54) rfl rfl rfl (Nat.le_of_ble_eq_true rfl) ⟨Nat.le_of_ble_eq_true rfl, Nat.le_of_ble_eq_true rfl⟩ dX9_distance_46 (fun r46 S46 h_r46 h hw3 => ?_)
      exact xr_i C hA hZ hr hlocks rfl dX9_distance_49 (Nat.le_of_ble_eq_true rfl) (Nat.le_of_ble_eq_true rfl) hw3 ⟨_, rfl, h_r46, h⟩
    · refine xi_sub [1, 2, 3, 0] rfl (xW1 (fun v3_13 S13 => xR v3_13 → xval (gC D ca ad tF) S13 → xV (gC D ca ad tF) p l e ({ frames := 3, cells := 0, slots := 0, locals := 62 }) s m args below meth c A 4 Z 0 0 13 [(0, .ref (ad 54)), (1, .int (iN a1)), (2, .int (iN a2)), (3, .int (iN v3_13))] [] S13) h (fun k13 hk13 v3_13 S13 h h_v3_13 hw13 => ?_) (by decide) hw1)
      unfold w_X9_distance_L13 at h
      refine xi_iload_n C 3 dX9_distance_13 rfl rfl ?_
      refine xi_aload_n C 0 dX9_distance_14 rfl rfl ?_
      refine xi_getI C xK_X9 (q := 54) (r := 0) rfl 5 (by decide) (ki := 5) rfl xl_X9_224 rfl dX9_distance_15 ?_
      refine xi_icmp_ge C 44 h_v3_13 (xval.i (q := 54) (i := 5) hw13 (by decide) rfl) dX9_distance_18 (by decide) (fun z4 => ?_) (fun z4 => ?_)
      · replace h := h.1 z4
        exact xi_sub [0] rfl (hj44 S13 h hw13)
      · replace h := h.2 z4
        refine xi_aload_n C 0 dX9_distance_21 rfl rfl ?_
        refine xi_iload_n C 3 dX9_distance_22 rfl rfl ?_
        refine xi_iload_n C 1 dX9_distance_23 rfl rfl ?_
        refine xc_Vi C hw13 (c_X9_valueIn l D ca ad tF v3_13 a1 S13 _ h_v3_13 h_a1 h) xk_X9_valueIn xv_X9_valueIn xl_X9_344 ⟨Nat.le_of_ble_eq_true rfl, Nat.le_of_ble_eq_true rfl⟩ xK_X9 (q := 54) rfl rfl rfl (Nat.le_of_ble_eq_true rfl) ⟨Nat.le_of_ble_eq_true rfl, Nat.le_of_ble_eq_true rfl⟩ dX9_distance_24 (fun r24 S24 h_r24 h hw5 => ?_)
        refine xi_iload_n C 2 dX9_distance_27 rfl rfl ?_
        refine xi_icmp_ne C 38 h_r24 h_a2 dX9_distance_28 (by decide) (fun z6 => ?_) (fun z6 => ?_)
        · replace h := h.1 z6
          refine xi_iinc C (L' := [(3, .int (iN (v3_13 + 1))), (0, .ref (ad 54)), (1, .int (iN a1)), (2, .int (iN a2))]) 3 dX9_distance_38 rfl (by decide) rfl ?_
          refine xi_goto C 13 dX9_distance_41 (by decide) ?_
          obtain ⟨hc7, h⟩ := h
          exact xi_sub [1, 2, 3, 0] rfl (hk13 (v3_13 + 1) S24 h hc7 hw5)
        · replace h := h.2 z6
          refine xi_aload_n C 0 dX9_distance_31 rfl rfl ?_
          refine xi_getR C xK_X9 (q := 54) (r := 70) rfl 30 (by decide) (ki := 30) rfl xl_X9_57 rfl dX9_distance_32 ?_
          refine xi_iload_n C 3 dX9_distance_35 rfl rfl ?_
          obtain ⟨hc8, h⟩ := h
          refine xi_iaload C (q := 70) rfl (by decide) hc8 dX9_distance_36 ?_
          exact xr_i C hA hZ hr hlocks rfl dX9_distance_37 (Nat.le_of_ble_eq_true rfl) (Nat.le_of_ble_eq_true rfl) hw5 ⟨_, rfl, (xval.i (q := 70) (i := v3_13) hw5 hc8.1 rfl), h⟩
  · replace h := h.2 z2
    refine xi_iconst C (v := 0) dX9_distance_9 rfl ?_
    exact xr_i C hA hZ hr hlocks rfl dX9_distance_10 (Nat.le_of_ble_eq_true rfl) (Nat.le_of_ble_eq_true rfl) hw1 ⟨_, rfl, (by decide), h⟩
set_option maxRecDepth 100000 in
set_option maxHeartbeats 4000000 in
theorem c_X9_components (l : Launch) (D : va_G) (ca : Nat → ClassId) (ad : Nat → Nat) (tF : Nat)  (S : xS) (Q : Int → xS → Prop)  (h : w_X9_components  S Q) : xM l yX9_components (xws yX9_components cX9_components 2 (some .int)) ({ frames := 3, cells := 0, slots := 0, locals := 67 }) (gC D ca ad tF) [.ref (ad 54)] S (xQi Q) 0 0 := by
  refine xm_of RX9 rfl (by decide +kernel) (Nat.le_of_ble_eq_true rfl) ?_
  intro p e s m args below meth c A Z C hA hZ hr hlocks hw
  unfold w_X9_components at h
  show xV (gC D ca ad tF) p l e ({ frames := 3, cells := 0, slots := 0, locals := 67 }) s m args below meth c A 2 Z 0 0 0 [(0, .ref (ad 54))] [] S
  refine xi_aload_n C 0 dX9_components_0 rfl rfl ?_
  refine xi_aload_n C 0 dX9_components_1 rfl rfl ?_
  refine xc_Vi C hw (c_X9_isGraph l D ca ad tF S _ h) xk_X9_isGraph xv_X9_isGraph xl_X9_375 ⟨Nat.le_of_ble_eq_true rfl, Nat.le_of_ble_eq_true rfl⟩ xK_X9 (q := 54) rfl rfl rfl (Nat.le_of_ble_eq_true rfl) ⟨Nat.le_of_ble_eq_true rfl, Nat.le_of_ble_eq_true rfl⟩ dX9_components_2 (fun r2 S2 h_r2 h hw1 => ?_)
  refine xJ1_w (fun t0_13 S13 => xR t0_13 → xval (gC D ca ad tF) S13 → xV (gC D ca ad tF) p l e ({ frames := 3, cells := 0, slots := 0, locals := 67 }) s m args below meth c A 2 Z 0 0 13 [(0, .ref (ad 54))] [.int (iN t0_13), .ref (ad 54)] S13) h (fun t0_13 S13 h h_t0_13 hw13 => ?_) (fun j13 hj13 h => ?_)
  · unfold w_X9_components_J13 at h
    refine xi_putI C xK_X9 (q := 54) (r := 0) rfl 0 (by decide) (ki := 0) rfl xl_X9_142 rfl rfl rfl dX9_components_13 ?_
    have hw3 := xval.up (q := 54) (i := 0) (v := t0_13) hw13 rfl h_t0_13
    refine xi_aload_n C 0 dX9_components_16 rfl rfl ?_
    refine xi_getI C xK_X9 (q := 54) (r := 0) rfl 0 (by decide) (ki := 0) rfl xl_X9_142 rfl dX9_components_17 ?_
    refine xi_if_le C 25 (xval.i (q := 54) (i := 0) hw3 (by decide) rfl) dX9_components_20 (by decide) (fun z4 => ?_) (fun z4 => ?_)
    · replace h := h.1 z4
      refine xi_iconst C (v := 0) dX9_components_25 rfl ?_
      refine xi_istore_n C (L' := [(1, .int (iN 0)), (0, .ref (ad 54))]) dX9_components_26 rfl (by decide) rfl ?_
      refine xJ0_w (fun  S48 => xval (gC D ca ad tF) S48 → xV (gC D ca ad tF) p l e ({ frames := 3, cells := 0, slots := 0, locals := 67 }) s m args below meth c A 2 Z 0 0 48 [(0, .ref (ad 54))] [] S48) h (fun  S48 h  hw48 => ?_) (fun j48 hj48 h => ?_)
      · unfold w_X9_components_J48 at h
        refine xi_aload_n C 0 dX9_components_48 rfl rfl ?_
        refine xc_Vv C hw48 (c_X9_findsComponents l D ca ad tF S48 _ h) xk_X9_findsComponents xv_X9_findsComponents xl_X9_372 ⟨Nat.le_of_ble_eq_true rfl, Nat.le_of_ble_eq_true rfl⟩ xK_X9 (q := 54) rfl rfl rfl (Nat.le_of_ble_eq_true rfl) ⟨Nat.le_of_ble_eq_true rfl, Nat.le_of_ble_eq_true rfl⟩ dX9_components_49 (fun S49 h hw5 => ?_)
        refine xi_aload_n C 0 dX9_components_52 rfl rfl ?_
        refine xi_getI C xK_X9 (q := 54) (r := 0) rfl 58 (by decide) (ki := 58) rfl xl_X9_354 rfl dX9_components_53 ?_
        exact xr_i C hA hZ hr hlocks rfl dX9_components_56 (Nat.le_of_ble_eq_true rfl) (Nat.le_of_ble_eq_true rfl) hw5 ⟨_, rfl, (xval.i (q := 54) (i := 58) hw5 (by decide) rfl), h⟩
      · refine xi_sub [1, 0] rfl (xW1 (fun v1_27 S27 => xR v1_27 → xval (gC D ca ad tF) S27 → xV (gC D ca ad tF) p l e ({ frames := 3, cells := 0, slots := 0, locals := 67 }) s m args below meth c A 2 Z 0 0 27 [(0, .ref (ad 54)), (1, .int (iN v1_27))] [] S27) h (fun k27 hk27 v1_27 S27 h h_v1_27 hw27 => ?_) (by decide) hw3)
        unfold w_X9_components_L27 at h
        refine xi_iload_n C 1 dX9_components_27 rfl rfl ?_
        refine xi_aload_n C 0 dX9_components_28 rfl rfl ?_
        refine xi_getI C xK_X9 (q := 54) (r := 0) rfl 5 (by decide) (ki := 5) rfl xl_X9_224 rfl dX9_components_29 ?_
        refine xi_icmp_ge C 48 h_v1_27 (xval.i (q := 54) (i := 5) hw27 (by decide) rfl) dX9_components_32 (by decide) (fun z6 => ?_) (fun z6 => ?_)
        · replace h := h.1 z6
          exact xi_sub [0] rfl (hj48 S27 h hw27)
        · replace h := h.2 z6
          refine xi_aload_n C 0 dX9_components_35 rfl rfl ?_
          refine xi_getR C xK_X9 (q := 54) (r := 95) rfl 55 (by decide) (ki := 55) rfl xl_X9_133 rfl dX9_components_36 ?_
          refine xi_iload_n C 1 dX9_components_39 rfl rfl ?_
          refine xi_iconst C (v := 1) dX9_components_40 rfl ?_
          obtain ⟨hc7, h⟩ := h
          refine xi_bastore C (q := 95) rfl (by decide) hc7 (Or.inr rfl) dX9_components_41 ?_
          have hw8 := xval.up (q := 95) (i := v1_27) (v := 1) hw27 rfl (by decide)
          refine xi_iinc C (L' := [(1, .int (iN (v1_27 + 1))), (0, .ref (ad 54))]) 1 dX9_components_42 rfl (by decide) rfl ?_
          refine xi_goto C 27 dX9_components_45 (by decide) ?_
          obtain ⟨hc9, h⟩ := h
          exact xi_sub [1, 0] rfl (hk27 (v1_27 + 1) (xup S27 95 v1_27 1) h hc9 hw8)
    · replace h := h.2 z4
      refine xi_iconst C (v := 0) dX9_components_23 rfl ?_
      exact xr_i C hA hZ hr hlocks rfl dX9_components_24 (Nat.le_of_ble_eq_true rfl) (Nat.le_of_ble_eq_true rfl) hw3 ⟨_, rfl, (by decide), h⟩
  · refine xi_if_eq C 12 h_r2 dX9_components_5 (by decide) (fun z2 => ?_) (fun z2 => ?_)
    · replace h := h.1 z2
      refine xi_iconst C (v := 1) dX9_components_12 rfl ?_
      exact xi_sub [0] rfl (hj13 1 S2 h (by decide) hw1)
    · replace h := h.2 z2
      refine xi_iconst C (v := 0) dX9_components_8 rfl ?_
      refine xi_goto C 13 dX9_components_9 (by decide) ?_
      exact xi_sub [0] rfl (hj13 0 S2 h (by decide) hw1)
set_option maxRecDepth 100000 in
set_option maxHeartbeats 4000000 in
theorem c_X9_isSound (l : Launch) (D : va_G) (ca : Nat → ClassId) (ad : Nat → Nat) (tF : Nat)  (S : xS) (Q : Int → xS → Prop)  (h : w_X9_isSound  S Q) : xM l yX9_isSound (xws yX9_isSound cX9_isSound 1 (some .boolean)) ({ frames := 0, cells := 0, slots := 0, locals := 0 }) (gC D ca ad tF) [.ref (ad 54)] S (xQi Q) 0 0 := by
  refine xm_of RX9 rfl (by decide +kernel) (Nat.le_of_ble_eq_true rfl) ?_
  intro p e s m args below meth c A Z C hA hZ hr hlocks hw
  unfold w_X9_isSound at h
  show xV (gC D ca ad tF) p l e ({ frames := 0, cells := 0, slots := 0, locals := 0 }) s m args below meth c A 1 Z 0 0 0 [(0, .ref (ad 54))] [] S
  refine xi_aload_n C 0 dX9_isSound_0 rfl rfl ?_
  refine xi_iconst C (v := 0) dX9_isSound_1 rfl ?_
  refine xi_putI C xK_X9 (q := 54) (r := 0) rfl 0 (by decide) (ki := 0) rfl xl_X9_142 rfl rfl rfl dX9_isSound_2 ?_
  have hw1 := xval.up (q := 54) (i := 0) (v := 0) hw rfl (by decide)
  refine xi_iconst C (v := 1) dX9_isSound_5 rfl ?_
  exact xr_i C hA hZ hr hlocks (xnarZ (Or.inr rfl)).1 dX9_isSound_6 (Nat.le_of_ble_eq_true rfl) (Nat.le_of_ble_eq_true rfl) hw1 ⟨_, rfl, (by decide), h⟩

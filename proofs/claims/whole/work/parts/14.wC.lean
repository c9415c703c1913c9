def w_X7_goToStart_h  (S : xS) (Q : xS → Prop) : Prop :=
  Q (xfill (xfill (xfill (xcopy (xfill S 36 3 0) 17 0 37 0 9) 38 2 0) 39 2 0) 40 2 0)
def w_X4_stepAt (a0 : Int) (a1 : Int) (S : xS) (Q : Int → xS → Prop) : Prop :=
  (xR ((a0 * 14) + a1)) ∧ Q ((a0 * 14) + a1) S
def w_X4_isHandover (a1 : Int) (S : xS) (Q : Int → xS → Prop) : Prop :=
  (0 ≤ a1 ∧ a1 < 42) ∧ ((¬ (S 13 a1) = 119 → Q 0 S) ∧ ((S 13 a1) = 119 → (0 ≤ (S 14 a1) ∧ (S 14 a1) < 2) ∧ ((¬ (S 16 (S 14 a1)) = 0 → Q 0 S) ∧ ((S 16 (S 14 a1)) = 0 → Q 1 S))))
def w_X7_canDo_h (a1 : Int) (S : xS) (Q : Int → xS → Prop) : Prop :=
  (0 ≤ a1 ∧ a1 < 42) ∧ ((((S 13 a1) = 33) → (0 ≤ (S 14 a1) ∧ (S 14 a1) < 9) ∧ (((S 37 (S 14 a1)) = (S 15 a1) → Q 0 S) ∧ (¬ (S 37 (S 14 a1)) = (S 15 a1) → Q 1 S))) ∧ (((S 13 a1) = 61) → (0 ≤ (S 14 a1) ∧ (S 14 a1) < 9) ∧ ((¬ (S 37 (S 14 a1)) = (S 15 a1) → Q 0 S) ∧ ((S 37 (S 14 a1)) = (S 15 a1) → Q 1 S))) ∧ (((S 13 a1) = 114) → (0 ≤ (S 14 a1) ∧ (S 14 a1) < 2) ∧ (((S 38 (S 14 a1)) ≤ 0 → Q 0 S) ∧ (¬ (S 38 (S 14 a1)) ≤ 0 → Q 1 S))) ∧ (((S 13 a1) = 119) → (0 ≤ (S 14 a1) ∧ (S 14 a1) < 2) ∧ (((S 16 (S 14 a1)) ≤ (S 38 (S 14 a1)) → Q 0 S) ∧ (¬ (S 16 (S 14 a1)) ≤ (S 38 (S 14 a1)) → Q 1 S))) ∧ (¬ ((S 13 a1) = 33) → ¬ ((S 13 a1) = 61) → ¬ ((S 13 a1) = 114) → ¬ ((S 13 a1) = 119) → Q 1 S))
def w_X3_add (a1 : Int) (a2 : Int) (S : xS) (Q : xS → Prop) : Prop :=
  ((392 ≤ (S 6 2) → Q S) ∧ (¬ 392 ≤ (S 6 2) → (0 ≤ (S 6 2) ∧ (S 6 2) < 392) ∧ (xR ((S 6 2) + 1)) ∧ Q (xup (xup S 35 (S 6 2) (xor32 (a1 * 64) (a2 + 1))) 6 2 ((S 6 2) + 1))))
def w_X4_processOf (a0 : Int) (S : xS) (Q : Int → xS → Prop) : Prop :=
  (0 ≤ a0) ∧ Q (a0 / 14) S
def w_X4_takes (a1 : Int) (a2 : Int) (S : xS) (Q : Int → xS → Prop) : Prop :=
  (0 ≤ a2 ∧ a2 < 42) ∧ ((¬ (S 13 a2) = 114 → Q 0 S) ∧ ((S 13 a2) = 114 → (0 ≤ a1 ∧ a1 < 42) ∧ ((¬ (S 14 a2) = (S 14 a1) → Q 0 S) ∧ ((S 14 a2) = (S 14 a1) → Q 1 S))))
def w_X3_addHandovers_h_J70 (a1 : Int) (k16 : Int → xS → Prop) (v4_16 : Int) (r33 : Int) (t0_70 : Int) (S70 : xS) : Prop :=
  ((t0_70 = 0 → (xR (v4_16 + 1)) ∧ k16 (v4_16 + 1) S70) ∧ (¬ t0_70 = 0 → w_X4_takes a1 r33 S70 (fun r84 S84 => ((r84 = 0 → (xR (v4_16 + 1)) ∧ k16 (v4_16 + 1) S84) ∧ (¬ r84 = 0 → w_X3_add a1 r33 S84 (fun S94 => (xR (v4_16 + 1)) ∧ k16 (v4_16 + 1) S94))))))
def w_X3_addHandovers_h_J69 (j70 : Int → xS → Prop) (S69 : xS) : Prop :=
  j70 0 S69
def w_X3_addHandovers_h_L16 (a1 : Int) (k2 : Int → xS → Prop) (v3_2 : Int) (k16 : Int → xS → Prop) (v4_16 : Int) (S16 : xS) : Prop :=
  (0 ≤ v3_2 ∧ v3_2 < 3) ∧ (((S16 10 v3_2) ≤ v4_16 → (xR (v3_2 + 1)) ∧ k2 (v3_2 + 1) S16) ∧ (¬ (S16 10 v3_2) ≤ v4_16 → w_X4_stepAt v3_2 v4_16 S16 (fun r33 S33 => w_X4_processOf a1 S33 (fun r40 S40 => xJ1 (w_X3_addHandovers_h_J70 a1 k16 v4_16 r33) (fun j70 => xJ0 (w_X3_addHandovers_h_J69 j70) (fun j69 => ((v3_2 = r40 → j69 S40) ∧ (¬ v3_2 = r40 → (0 ≤ r33 ∧ r33 < 42) ∧ ((¬ (S40 11 r33) = (S40 36 v3_2) → j69 S40) ∧ ((S40 11 r33) = (S40 36 v3_2) → j70 1 S40))))))))))
def w_X3_addHandovers_h_L2 (a1 : Int) (Q : xS → Prop) (k2 : Int → xS → Prop) (v3_2 : Int) (S2 : xS) : Prop :=
  (((S2 1 0) ≤ v3_2 → Q S2) ∧ (¬ (S2 1 0) ≤ v3_2 → xL1 (w_X3_addHandovers_h_L16 a1 k2 v3_2) 0 S2))
def w_X3_addHandovers_h (a1 : Int) (S : xS) (Q : xS → Prop) : Prop :=
  xL1 (w_X3_addHandovers_h_L2 a1 Q) 0 S
def w_X3_addLedBy_h_L2 (a1 : Int) (Q : xS → Prop) (k2 : Int → xS → Prop) (v3_2 : Int) (S2 : xS) : Prop :=
  (0 ≤ a1 ∧ a1 < 3) ∧ (((S2 10 a1) ≤ v3_2 → Q S2) ∧ (¬ (S2 10 a1) ≤ v3_2 → w_X4_stepAt a1 v3_2 S2 (fun r17 S17 => (0 ≤ r17 ∧ r17 < 42) ∧ ((¬ (S17 11 r17) = (S17 36 a1) → (xR (v3_2 + 1)) ∧ k2 (v3_2 + 1) S17) ∧ ((S17 11 r17) = (S17 36 a1) → w_X4_isHandover r17 S17 (fun r47 S47 => ((r47 = 0 → w_X7_canDo_h r17 S47 (fun r66 S66 => ((r66 = 0 → (xR (v3_2 + 1)) ∧ k2 (v3_2 + 1) S66) ∧ (¬ r66 = 0 → w_X3_add r17 (-1) S66 (fun S76 => (xR (v3_2 + 1)) ∧ k2 (v3_2 + 1) S76))))) ∧ (¬ r47 = 0 → w_X3_addHandovers_h r17 S47 (fun S57 => (xR (v3_2 + 1)) ∧ k2 (v3_2 + 1) S57)))))))))
def w_X3_addLedBy_h (a1 : Int) (S : xS) (Q : xS → Prop) : Prop :=
  xL1 (w_X3_addLedBy_h_L2 a1 Q) 0 S
def w_X4_isMarked (a1 : Int) (a2 : Int) (a3 : Int) (S : xS) (Q : Int → xS → Prop) : Prop :=
  (0 ≤ ((a1 * 12) + a2) ∧ ((a1 * 12) + a2) < 36) ∧ (((xand (S 18 ((a1 * 12) + a2)) a3) = 0 → Q 0 S) ∧ (¬ (xand (S 18 ((a1 * 12) + a2)) a3) = 0 → Q 1 S))
def w_X3_listFor_h_L58 (Q : xS → Prop) (k58 : Int → xS → Prop) (v2_58 : Int) (S58 : xS) : Prop :=
  (((S58 1 0) ≤ v2_58 → Q S58) ∧ (¬ (S58 1 0) ≤ v2_58 → w_X3_addLedBy_h v2_58 S58 (fun S72 => (xR (v2_58 + 1)) ∧ k58 (v2_58 + 1) S72)))
def w_X3_listFor_h_J56 (Q : xS → Prop) (S56 : xS) : Prop :=
  xL1 (w_X3_listFor_h_L58 Q) 0 S56
def w_X3_listFor_h_L7 (Q : xS → Prop) (j56 : xS → Prop) (k7 : Int → xS → Prop) (v2_7 : Int) (S7 : xS) : Prop :=
  (((S7 1 0) ≤ v2_7 → j56 S7) ∧ (¬ (S7 1 0) ≤ v2_7 → (0 ≤ v2_7 ∧ v2_7 < 3) ∧ w_X4_isMarked v2_7 (S7 36 v2_7) 2 S7 (fun r30 S30 => ((r30 = 0 → (xR (v2_7 + 1)) ∧ k7 (v2_7 + 1) S30) ∧ (¬ r30 = 0 → w_X3_addLedBy_h v2_7 S30 (fun S39 => (((S39 6 2) ≤ 0 → (xR (v2_7 + 1)) ∧ k7 (v2_7 + 1) S39) ∧ (¬ (S39 6 2) ≤ 0 → Q S39))))))))
def w_X3_listFor_h  (S : xS) (Q : xS → Prop) : Prop :=
  xJ0 (w_X3_listFor_h_J56 Q) (fun j56 => xL1 (w_X3_listFor_h_L7 Q j56) 0 (xup S 6 2 0))
def w_X4_hasProcessAtNoEnd_h_L2 (Q : Int → xS → Prop) (k2 : Int → xS → Prop) (v2_2 : Int) (S2 : xS) : Prop :=
  (((S2 1 0) ≤ v2_2 → Q 0 S2) ∧ (¬ (S2 1 0) ≤ v2_2 → (0 ≤ v2_2 ∧ v2_2 < 3) ∧ w_X4_isMarked v2_2 (S2 36 v2_2) 1 S2 (fun r19 S19 => ((¬ r19 = 0 → (xR (v2_2 + 1)) ∧ k2 (v2_2 + 1) S19) ∧ (r19 = 0 → Q 1 S19)))))
def w_X4_hasProcessAtNoEnd_h  (S : xS) (Q : Int → xS → Prop) : Prop :=
  xL1 (w_X4_hasProcessAtNoEnd_h_L2 Q) 0 S
def w_X4_breaksInvariant_h_L2 (Q : Int → xS → Prop) (k2 : Int → xS → Prop) (v2_2 : Int) (S2 : xS) : Prop :=
  (((S2 1 11) ≤ v2_2 → Q 0 S2) ∧ (¬ (S2 1 11) ≤ v2_2 → (0 ≤ v2_2 ∧ v2_2 < 4) ∧ (0 ≤ (S2 19 v2_2) ∧ (S2 19 v2_2) < 9) ∧ ((¬ (S2 37 (S2 19 v2_2)) = (S2 20 v2_2) → (xR (v2_2 + 1)) ∧ k2 (v2_2 + 1) S2) ∧ ((S2 37 (S2 19 v2_2)) = (S2 20 v2_2) → Q 1 S2))))
def w_X4_breaksInvariant_h  (S : xS) (Q : Int → xS → Prop) : Prop :=
  xL1 (w_X4_breaksInvariant_h_L2 Q) 0 S
def w_X3_leadOf (a0 : Int) (S : xS) (Q : Int → xS → Prop) : Prop :=
  Q (a0 / 64) S
def w_X7_isRefuted_h (a1 : Int) (S : xS) (Q : Int → xS → Prop) : Prop :=
  w_X3_leadOf a1 S (fun r1 S1 => (0 ≤ r1 ∧ r1 < 42) ∧ ((¬ (S1 13 r1) = 97 → Q 0 S1) ∧ ((S1 13 r1) = 97 → (0 ≤ (S1 14 r1) ∧ (S1 14 r1) < 9) ∧ ((¬ (S1 37 (S1 14 r1)) = (S1 15 r1) → Q 0 S1) ∧ ((S1 37 (S1 14 r1)) = (S1 15 r1) → Q 1 S1)))))
def w_X3_has_L2 (a1 : Int) (Q : Int → xS → Prop) (k2 : Int → xS → Prop) (v2_2 : Int) (S2 : xS) : Prop :=
  (((S2 6 2) ≤ v2_2 → Q 0 S2) ∧ (¬ (S2 6 2) ≤ v2_2 → (0 ≤ v2_2 ∧ v2_2 < 392) ∧ ((¬ (S2 35 v2_2) = a1 → (xR (v2_2 + 1)) ∧ k2 (v2_2 + 1) S2) ∧ ((S2 35 v2_2) = a1 → Q 1 S2))))
def w_X3_has (a1 : Int) (S : xS) (Q : Int → xS → Prop) : Prop :=
  xL1 (w_X3_has_L2 a1 Q) 0 S
def w_X7_copyFrom_nh  (S : xS) (Q : xS → Prop) : Prop :=
  Q (xcopy (xcopy (xcopy (xcopy (xcopy S 36 0 41 0 3) 37 0 42 0 9) 38 0 43 0 2) 39 0 44 0 2) 40 0 45 0 2)
def w_X3_partnerOf (a0 : Int) (S : xS) (Q : Int → xS → Prop) : Prop :=
  (xR ((xand a0 63) - 1)) ∧ Q ((xand a0 63) - 1) S
def w_X7_doAlone_n_J137 (a1 : Int) (S : xS) (Q : xS → Prop) (S137 : xS) : Prop :=
  (xR ((S137 43 (S 14 a1)) + 1)) ∧ Q (xup S137 43 (S 14 a1) ((S137 43 (S 14 a1)) + 1))
def w_X7_doAlone_n (a1 : Int) (S : xS) (Q : xS → Prop) : Prop :=
  (0 ≤ a1 ∧ a1 < 42) ∧ ((((S 13 a1) = 105) → (0 ≤ (S 14 a1) ∧ (S 14 a1) < 9) ∧ (xR ((S 42 (S 14 a1)) + (S 15 a1))) ∧ (0 ≤ ((S 42 (S 14 a1)) + (S 15 a1))) ∧ Q (xup S 42 (S 14 a1) (((S 42 (S 14 a1)) + (S 15 a1)) % 4))) ∧ (((S 13 a1) = 114) → (0 ≤ (S 14 a1) ∧ (S 14 a1) < 2) ∧ (0 ≤ (S 15 a1) ∧ (S 15 a1) < 9) ∧ (xR ((S 43 (S 14 a1)) - 1)) ∧ Q (xup (xup (xup (xup S 42 (S 15 a1) (S 44 (S 14 a1))) 44 (S 14 a1) (S 45 (S 14 a1))) 45 (S 14 a1) 0) 43 (S 14 a1) ((S 43 (S 14 a1)) - 1))) ∧ (((S 13 a1) = 115) → (0 ≤ (S 14 a1) ∧ (S 14 a1) < 9) ∧ Q (xup S 42 (S 14 a1) (S 15 a1))) ∧ (((S 13 a1) = 119) → (0 ≤ (S 14 a1) ∧ (S 14 a1) < 2) ∧ xJ0 (w_X7_doAlone_n_J137 a1 S Q) (fun j137 => ((¬ (S 43 (S 14 a1)) = 0 → (0 ≤ (S 15 a1) ∧ (S 15 a1) < 9) ∧ j137 (xup S 45 (S 14 a1) (S 42 (S 15 a1)))) ∧ ((S 43 (S 14 a1)) = 0 → (0 ≤ (S 15 a1) ∧ (S 15 a1) < 9) ∧ j137 (xup S 44 (S 14 a1) (S 42 (S 15 a1))))))) ∧ (¬ ((S 13 a1) = 105) → ¬ ((S 13 a1) = 114) → ¬ ((S 13 a1) = 115) → ¬ ((S 13 a1) = 119) → Q S))
def w_X7_doMove_n_J69 (Q : xS → Prop) (r1 : Int) (S69 : xS) : Prop :=
  w_X4_processOf r1 S69 (fun r74 S74 => (0 ≤ r1 ∧ r1 < 42) ∧ (0 ≤ r74 ∧ r74 < 3) ∧ Q (xup S74 41 r74 (S74 12 r1)))
def w_X7_doMove_n (a1 : Int) (S : xS) (Q : xS → Prop) : Prop :=
  w_X3_leadOf a1 S (fun r1 S1 => w_X3_partnerOf a1 S1 (fun r6 S6 => xJ0 (w_X7_doMove_n_J69 Q r1) (fun j69 => ((¬ r6 = (-1) → (0 ≤ r6 ∧ r6 < 42) ∧ (0 ≤ r1 ∧ r1 < 42) ∧ (0 ≤ (S6 15 r1) ∧ (S6 15 r1) < 9) ∧ (0 ≤ (S6 15 r6) ∧ (S6 15 r6) < 9) ∧ w_X4_processOf r6 (xup S6 42 (S6 15 r6) (S6 42 (S6 15 r1))) (fun r56 S56 => (0 ≤ r56 ∧ r56 < 3) ∧ j69 (xup S56 41 r56 (S56 12 r6)))) ∧ (r6 = (-1) → w_X7_doAlone_n r1 S6 (fun S17 => j69 S17))))))
def w_X7_shareOf_n (a1 : Int) (S : xS) (Q : Int → xS → Prop) : Prop :=
  (0 ≤ a1 ∧ a1 < 3) ∧ (0 ≤ (3 + 2 * a1) ∧ (3 + 2 * a1) < 9) ∧ (0 ≤ ((3 + 2 * a1) + 1) ∧ ((3 + 2 * a1) + 1) < 9) ∧ (xR (((((S 41 a1) * 4) + (S 42 (3 + 2 * a1))) * 4) + (S 42 ((3 + 2 * a1) + 1)))) ∧ Q (((((S 41 a1) * 4) + (S 42 (3 + 2 * a1))) * 4) + (S 42 ((3 + 2 * a1) + 1))) S
def w_X7_exchange_n_L29 (a1 : Int) (a2 : Int) (Q : xS → Prop) (k29 : Int → xS → Prop) (v4_29 : Int) (S29 : xS) : Prop :=
  ((2 ≤ v4_29 → Q S29) ∧ (¬ 2 ≤ v4_29 → (0 ≤ ((3 + 2 * a1) + v4_29) ∧ ((3 + 2 * a1) + v4_29) < 9) ∧ (0 ≤ ((3 + 2 * a2) + v4_29) ∧ ((3 + 2 * a2) + v4_29) < 9) ∧ (xR (v4_29 + 1)) ∧ k29 (v4_29 + 1) (xup (xup S29 42 ((3 + 2 * a1) + v4_29) (S29 42 ((3 + 2 * a2) + v4_29))) 42 ((3 + 2 * a2) + v4_29) (S29 42 ((3 + 2 * a1) + v4_29)))))
def w_X7_exchange_n (a1 : Int) (a2 : Int) (S : xS) (Q : xS → Prop) : Prop :=
  (0 ≤ a1 ∧ a1 < 3) ∧ (0 ≤ a2 ∧ a2 < 3) ∧ xL1 (w_X7_exchange_n_L29 a1 a2 Q) 0 (xup (xup S 41 a1 (S 41 a2)) 41 a2 (S 41 a1))
def w_X7_exchangeToLeast_n_J32 (v2_2 : Int) (k11 : Int → xS → Prop) (v3_11 : Int) (t0_32 : Int) (S32 : xS) : Prop :=
  ((t0_32 = 0 → (xR (v3_11 + 1)) ∧ k11 (v3_11 + 1) S32) ∧ (¬ t0_32 = 0 → w_X7_shareOf_n v2_2 S32 (fun r41 S41 => w_X7_shareOf_n v3_11 S41 (fun r46 S46 => ((r41 ≤ r46 → (xR (v3_11 + 1)) ∧ k11 (v3_11 + 1) S46) ∧ (¬ r41 ≤ r46 → w_X7_exchange_n v2_2 v3_11 S46 (fun S55 => (xR (v3_11 + 1)) ∧ k11 (v3_11 + 1) S55)))))))
def w_X7_exchangeToLeast_n_L11 (k2 : Int → xS → Prop) (v2_2 : Int) (k11 : Int → xS → Prop) (v3_11 : Int) (S11 : xS) : Prop :=
  ((3 ≤ v3_11 → k2 (v2_2 + 1) S11) ∧ (¬ 3 ≤ v3_11 → (0 ≤ ((v2_2 * 3) + v3_11) ∧ ((v2_2 * 3) + v3_11) < 9) ∧ xJ1 (w_X7_exchangeToLeast_n_J32 v2_2 k11 v3_11) (fun j32 => ((¬ (S11 21 ((v2_2 * 3) + v3_11)) = 1 → j32 0 S11) ∧ ((S11 21 ((v2_2 * 3) + v3_11)) = 1 → j32 1 S11)))))
def w_X7_exchangeToLeast_n_L2 (Q : xS → Prop) (k2 : Int → xS → Prop) (v2_2 : Int) (S2 : xS) : Prop :=
  ((3 ≤ v2_2 → Q S2) ∧ (¬ 3 ≤ v2_2 → (xR (v2_2 + 1)) ∧ xL1 (w_X7_exchangeToLeast_n_L11 k2 v2_2) (v2_2 + 1) S2))
def w_X7_exchangeToLeast_n  (S : xS) (Q : xS → Prop) : Prop :=
  xL1 (w_X7_exchangeToLeast_n_L2 Q) 0 S
def w_X6_goBehind (a1 : Int) (S : xS) (Q : xS → Prop) : Prop :=
  w_X7_copyFrom_nh S (fun S8 => w_X7_doMove_n a1 S8 (fun S16 => w_X7_exchangeToLeast_n S16 (fun S27 => Q S27)))
def w_X7_copyFrom_hn  (S : xS) (Q : xS → Prop) : Prop :=
  Q (xcopy (xcopy (xcopy (xcopy (xcopy S 41 0 36 0 3) 42 0 37 0 9) 43 0 38 0 2) 44 0 39 0 2) 45 0 40 0 2)
def w_X6_doesReplay_J98 (Q : Int → xS → Prop) (S98 : xS) : Prop :=
  ((¬ (S98 2 13) = 105 → w_X3_listFor_h S98 (fun S127 => ((¬ (S127 2 13) = 100 → Q 0 S127) ∧ ((S127 2 13) = 100 → ((¬ (S127 6 2) = 0 → Q 0 S127) ∧ ((S127 6 2) = 0 → w_X4_hasProcessAtNoEnd_h S127 (fun r157 S157 => ((r157 = 0 → Q 0 S157) ∧ (¬ r157 = 0 → Q 1 S157))))))))) ∧ ((S98 2 13) = 105 → w_X4_breaksInvariant_h S98 (fun r115 S115 => (r115 = 0 ∨ r115 = 1) ∧ Q r115 S115)))
def w_X6_doesReplay_J67 (Q : Int → xS → Prop) (v2_67 : Int) (S67 : xS) : Prop :=
  w_X7_isRefuted_h v2_67 S67 (fun r72 S72 => (r72 = 0 ∨ r72 = 1) ∧ Q r72 S72)
def w_X6_doesReplay_J76 (k9 : Int → xS → Prop) (v1_9 : Int) (S9 : xS) (S76 : xS) : Prop :=
  w_X6_goBehind (S9 22 v1_9) S76 (fun S78 => w_X7_copyFrom_hn S78 (fun S89 => (xR (v1_9 + 1)) ∧ k9 (v1_9 + 1) S89))
def w_X6_doesReplay_L9 (Q : Int → xS → Prop) (j98 : xS → Prop) (j67 : Int → xS → Prop) (k9 : Int → xS → Prop) (v1_9 : Int) (S9 : xS) : Prop :=
  (((S9 2 8) ≤ v1_9 → j98 S9) ∧ (¬ (S9 2 8) ≤ v1_9 → (0 ≤ v1_9 ∧ v1_9 < 2000) ∧ w_X3_listFor_h S9 (fun S32 => w_X3_has (S9 22 v1_9) S32 (fun r40 S40 => ((¬ r40 = 0 → xJ0 (w_X6_doesReplay_J76 k9 v1_9 S9) (fun j76 => ((¬ (S40 2 13) = 97 → j76 S40) ∧ ((S40 2 13) = 97 → (xR ((S40 2 8) - 1)) ∧ ((¬ v1_9 = ((S40 2 8) - 1) → j76 S40) ∧ (v1_9 = ((S40 2 8) - 1) → j67 (S9 22 v1_9) S40)))))) ∧ (r40 = 0 → Q 0 S40))))))
def w_X6_doesReplay  (S : xS) (Q : Int → xS → Prop) : Prop :=
  w_X7_goToStart_h S (fun S4 => xJ0 (w_X6_doesReplay_J98 Q) (fun j98 => xJ1 (w_X6_doesReplay_J67 Q) (fun j67 => xL1 (w_X6_doesReplay_L9 Q j98 j67) 0 S4)))
def w_X1_slotFor_L27 (a1 : Int) (Q : Int → xS → Prop) (k27 : Int → Int → xS → Prop) (v3_27 : Int) (v4_27 : Int) (S27 : xS) : Prop :=
  ((4096 ≤ v4_27 → Q v3_27 S27) ∧ (¬ 4096 ≤ v4_27 → (0 ≤ v3_27 ∧ v3_27 < 4096) ∧ (xR ((S27 31 v3_27) - 1)) ∧ ((((S27 31 v3_27) - 1) = (-1) → Q v3_27 S27) ∧ (¬ ((S27 31 v3_27) - 1) = (-1) → (0 ≤ ((S27 31 v3_27) - 1) ∧ ((S27 31 v3_27) - 1) < 2000) ∧ ((¬ (S27 25 ((S27 31 v3_27) - 1)) = a1 → (xR (v3_27 + 1)) ∧ (0 ≤ (v3_27 + 1)) ∧ (xR (v4_27 + 1)) ∧ k27 ((v3_27 + 1) % 4096) (v4_27 + 1) S27) ∧ ((S27 25 ((S27 31 v3_27) - 1)) = a1 → Q v3_27 S27))))))
def w_X1_slotFor (a1 : Int) (S : xS) (Q : Int → xS → Prop) : Prop :=
  (((S 4 1) = 0 → (xR ((a1 * (-7046029254386353131)) % 18446744073709551616 / 4503599627370496)) ∧ xL2 (w_X1_slotFor_L27 a1 Q) ((a1 * (-7046029254386353131)) % 18446744073709551616 / 4503599627370496) 0 S) ∧ (¬ (S 4 1) = 0 → (0 ≤ a1) ∧ (xR (a1 % 509)) ∧ Q (a1 % 509) S))
def w_X1_numberFor (a1 : Int) (S : xS) (Q : Int → xS → Prop) : Prop :=
  w_X1_slotFor a1 S (fun r6 S6 => (0 ≤ r6 ∧ r6 < 4096) ∧ (xR ((S6 31 r6) - 1)) ∧ Q ((S6 31 r6) - 1) S6)
def w_X7_unpack_h_L109 (Q : xS → Prop) (k109 : Int → Int → xS → Prop) (v3_109 : Int) (v5_109 : Int) (S109 : xS) : Prop :=
  ((v5_109 < 0 → Q S109) ∧ (¬ v5_109 < 0 → (0 ≤ v5_109 ∧ v5_109 < 3) ∧ (0 ≤ v3_109) ∧ (xR (v3_109 % 4)) ∧ (0 ≤ ((3 + 2 * v5_109) + 1) ∧ ((3 + 2 * v5_109) + 1) < 9) ∧ (xR ((v3_109 / 4) % 4)) ∧ (0 ≤ (3 + 2 * v5_109) ∧ (3 + 2 * v5_109) < 9) ∧ (xR (((v3_109 / 4) / 4) % 12)) ∧ (xR (v5_109 + (-1))) ∧ k109 (((v3_109 / 4) / 4) / 12) (v5_109 + (-1)) (xup (xup (xup S109 37 ((3 + 2 * v5_109) + 1) (v3_109 % 4)) 37 (3 + 2 * v5_109) ((v3_109 / 4) % 4)) 36 v5_109 (((v3_109 / 4) / 4) % 12))))
def w_X7_unpack_h_J106 (Q : xS → Prop) (v3_106 : Int) (S106 : xS) : Prop :=
  xL2 (w_X7_unpack_h_L109 Q) v3_106 2 S106
def w_X7_unpack_h_L76 (j106 : Int → xS → Prop) (k76 : Int → Int → xS → Prop) (v3_76 : Int) (v5_76 : Int) (S76 : xS) : Prop :=
  ((v5_76 < 0 → j106 v3_76 S76) ∧ (¬ v5_76 < 0 → (0 ≤ v3_76) ∧ (xR (v3_76 % 4)) ∧ (0 ≤ v5_76 ∧ v5_76 < 9) ∧ (xR (v5_76 + (-1))) ∧ k76 (v3_76 / 4) (v5_76 + (-1)) (xup S76 37 v5_76 (v3_76 % 4))))
def w_X7_unpack_h_J73 (Q : xS → Prop) (v3_73 : Int) (S73 : xS) : Prop :=
  xJ1 (w_X7_unpack_h_J106 Q) (fun j106 => xL2 (w_X7_unpack_h_L76 j106) v3_73 2 S73)
def w_X7_unpack_h_L5 (j73 : Int → xS → Prop) (k5 : Int → Int → xS → Prop) (v3_5 : Int) (v5_5 : Int) (S5 : xS) : Prop :=
  ((v5_5 < 0 → j73 v3_5 S5) ∧ (¬ v5_5 < 0 → (0 ≤ v3_5) ∧ (xR (v3_5 % 4)) ∧ (0 ≤ v5_5 ∧ v5_5 < 2) ∧ (xR ((v3_5 / 4) % 4)) ∧ (xR (((v3_5 / 4) / 4) % 3)) ∧ (xR (v5_5 + (-1))) ∧ k5 (((v3_5 / 4) / 4) / 3) (v5_5 + (-1)) (xup (xup (xup S5 40 v5_5 (v3_5 % 4)) 39 v5_5 ((v3_5 / 4) % 4)) 38 v5_5 (((v3_5 / 4) / 4) % 3))))
def w_X7_unpack_h (a1 : Int) (S : xS) (Q : xS → Prop) : Prop :=
  xJ1 (w_X7_unpack_h_J73 Q) (fun j73 => xL2 (w_X7_unpack_h_L5 j73) a1 1 S)
def w_X6_listMoves (a1 : Int) (S : xS) (Q : xS → Prop) : Prop :=
  (0 ≤ a1 ∧ a1 < 2000) ∧ w_X7_unpack_h (S 25 a1) S (fun S13 => w_X3_listFor_h S13 (fun S24 => Q (xup S24 30 a1 (S24 6 2))))
def w_X7_pack_n_L57 (Q : Int → xS → Prop) (k57 : Int → Int → xS → Prop) (v1_57 : Int) (v3_57 : Int) (S57 : xS) : Prop :=
  ((2 ≤ v3_57 → Q v1_57 S57) ∧ (¬ 2 ≤ v3_57 → (0 ≤ v3_57 ∧ v3_57 < 2) ∧ (xRJ ((((((v1_57 * 3) + (S57 43 v3_57)) * 4) + (S57 44 v3_57)) * 4) + (S57 45 v3_57))) ∧ (xR (v3_57 + 1)) ∧ k57 ((((((v1_57 * 3) + (S57 43 v3_57)) * 4) + (S57 44 v3_57)) * 4) + (S57 45 v3_57)) (v3_57 + 1) S57))
def w_X7_pack_n_J55 (Q : Int → xS → Prop) (v1_55 : Int) (S55 : xS) : Prop :=
  xL2 (w_X7_pack_n_L57 Q) v1_55 0 S55
def w_X7_pack_n_L30 (j55 : Int → xS → Prop) (k30 : Int → Int → xS → Prop) (v1_30 : Int) (v3_30 : Int) (S30 : xS) : Prop :=
  ((3 ≤ v3_30 → j55 v1_30 S30) ∧ (¬ 3 ≤ v3_30 → (0 ≤ v3_30 ∧ v3_30 < 9) ∧ (xRJ ((v1_30 * 4) + (S30 42 v3_30))) ∧ (xR (v3_30 + 1)) ∧ k30 ((v1_30 * 4) + (S30 42 v3_30)) (v3_30 + 1) S30))
def w_X7_pack_n_J28 (Q : Int → xS → Prop) (v1_28 : Int) (S28 : xS) : Prop :=
  xJ1 (w_X7_pack_n_J55 Q) (fun j55 => xL2 (w_X7_pack_n_L30 j55) v1_28 0 S28)
def w_X7_pack_n_L4 (j28 : Int → xS → Prop) (k4 : Int → Int → xS → Prop) (v1_4 : Int) (v3_4 : Int) (S4 : xS) : Prop :=
  ((3 ≤ v3_4 → j28 v1_4 S4) ∧ (¬ 3 ≤ v3_4 → w_X7_shareOf_n v3_4 S4 (fun r16 S16 => (xRJ ((v1_4 * 192) + r16)) ∧ (xR (v3_4 + 1)) ∧ k4 ((v1_4 * 192) + r16) (v3_4 + 1) S16)))
def w_X7_pack_n  (S : xS) (Q : Int → xS → Prop) : Prop :=
  xJ1 (w_X7_pack_n_J28 Q) (fun j28 => xL2 (w_X7_pack_n_L4 j28) 0 0 S)
def w_X6_wasReached (a1 : Int) (S : xS) (Q : Int → xS → Prop) : Prop :=
  (0 ≤ a1 ∧ a1 < 2000) ∧ (((S 27 a1) < 0 → Q 0 S) ∧ (¬ (S 27 a1) < 0 → (((S 27 a1) < a1 → w_X6_listMoves (S 27 a1) S (fun S23 => w_X3_has (S23 28 a1) S23 (fun r39 S39 => ((¬ r39 = 0 → w_X6_goBehind (S39 28 a1) S39 (fun S57 => w_X7_pack_n S57 (fun r64 S64 => ((¬ r64 = (S64 25 a1) → Q 0 S64) ∧ (r64 = (S64 25 a1) → Q 1 S64))))) ∧ (r39 = 0 → Q 0 S39))))) ∧ (¬ (S 27 a1) < a1 → Q 0 S))))
def w_X6_isConsistent_J55 (Q : Int → xS → Prop) (S55 : xS) : Prop :=
  (((S55 2 13) = 45 → Q 1 S55) ∧ (¬ (S55 2 13) = 45 → w_X6_doesReplay S55 (fun r65 S65 => ((r65 = 0 → Q 0 S65) ∧ (¬ r65 = 0 → Q 1 S65)))))
def w_X6_isConsistent_L2 (Q : Int → xS → Prop) (j55 : xS → Prop) (k2 : Int → xS → Prop) (v1_2 : Int) (S2 : xS) : Prop :=
  (((S2 4 0) ≤ v1_2 → j55 S2) ∧ (¬ (S2 4 0) ≤ v1_2 → (0 ≤ v1_2 ∧ v1_2 < 2000) ∧ w_X1_numberFor (S2 25 v1_2) S2 (fun r26 S26 => ((r26 = v1_2 → ((v1_2 ≤ 0 → (xR (v1_2 + 1)) ∧ k2 (v1_2 + 1) S26) ∧ (¬ v1_2 ≤ 0 → w_X6_wasReached v1_2 S26 (fun r41 S41 => ((¬ r41 = 0 → (xR (v1_2 + 1)) ∧ k2 (v1_2 + 1) S41) ∧ (r41 = 0 → Q 0 S41)))))) ∧ (¬ r26 = v1_2 → Q 0 S26)))))
def w_X6_isConsistent  (S : xS) (Q : Int → xS → Prop) : Prop :=
  xJ0 (w_X6_isConsistent_J55 Q) (fun j55 => xL1 (w_X6_isConsistent_L2 Q j55) 0 S)
def w_X6_drop  (S : xS) (Q : xS → Prop) : Prop :=
  Q (xup S 2 9 0)
def w_X4_newProcess  (S : xS) (Q : Int → xS → Prop) : Prop :=
  (xR ((S 1 0) + 1)) ∧ (xR (((S 1 0) + 1) - 1)) ∧ Q (((S 1 0) + 1) - 1) (xup S 1 0 ((S 1 0) + 1))
def w_X4_isOwn (a0 : Int) (a1 : Int) (S : xS) (Q : Int → xS → Prop) : Prop :=
  (0 ≤ a0 ∧ a0 < 3) ∧ ((a1 < (3 + 2 * a0) → Q 0 S) ∧ (¬ a1 < (3 + 2 * a0) → (xR ((3 + 2 * a0) + 2)) ∧ ((((3 + 2 * a0) + 2) ≤ a1 → Q 0 S) ∧ (¬ ((3 + 2 * a0) + 2) ≤ a1 → Q 1 S))))
def w_X4_isUsable_J9 (a0 : Int) (a1 : Int) (Q : Int → xS → Prop) (S9 : xS) : Prop :=
  w_X4_isOwn a0 a1 S9 (fun r11 S11 => ((r11 = 0 → Q 0 S11) ∧ (¬ r11 = 0 → Q 1 S11)))
def w_X4_isUsable (a0 : Int) (a1 : Int) (S : xS) (Q : Int → xS → Prop) : Prop :=
  xJ0 (w_X4_isUsable_J9 a0 a1 Q) (fun j9 => ((a1 < 0 → j9 S) ∧ (¬ a1 < 0 → ((a1 < 3 → Q 1 S) ∧ (¬ a1 < 3 → j9 S)))))
def w_X4_isNumber (a0 : Int) (S : xS) (Q : Int → xS → Prop) : Prop :=
  ((a0 < 0 → Q 0 S) ∧ (¬ a0 < 0 → ((4 ≤ a0 → Q 0 S) ∧ (¬ 4 ≤ a0 → Q 1 S))))
def w_X4_fits (a1 : Int) (a2 : Int) (a3 : Int) (a4 : Int) (S : xS) (Q : Int → xS → Prop) : Prop :=
  (((a2 = 33 ∨ a2 = 61 ∨ a2 = 97 ∨ a2 = 105 ∨ a2 = 115) → w_X4_isUsable a1 a3 S (fun r80 S80 => ((r80 = 0 → Q 0 S80) ∧ (¬ r80 = 0 → w_X4_isNumber a4 S80 (fun r88 S88 => ((r88 = 0 → Q 0 S88) ∧ (¬ r88 = 0 → Q 1 S88))))))) ∧ ((a2 = 107) → Q 1 S) ∧ ((a2 = 114 ∨ a2 = 119) → ((a3 < 0 → Q 0 S) ∧ (¬ a3 < 0 → (((S 1 7) ≤ a3 → Q 0 S) ∧ (¬ (S 1 7) ≤ a3 → w_X4_isUsable a1 a4 S (fun r115 S115 => ((r115 = 0 → Q 0 S115) ∧ (¬ r115 = 0 → Q 1 S115)))))))) ∧ (¬ (a2 = 33 ∨ a2 = 61 ∨ a2 = 97 ∨ a2 = 105 ∨ a2 = 115) → ¬ (a2 = 107) → ¬ (a2 = 114 ∨ a2 = 119) → Q 0 S))
def w_X4_newStep_J80 (a1 : Int) (S : xS) (Q : Int → xS → Prop) (r11 : Int) (t0_80 : Int) (S80 : xS) : Prop :=
  (xR ((S80 10 a1) + 1)) ∧ Q (S 10 a1) (xup (xup S80 15 r11 t0_80) 10 a1 ((S80 10 a1) + 1))
def w_X4_newStep_J60 (a1 : Int) (a4 : Int) (a6 : Int) (S : xS) (Q : Int → xS → Prop) (r11 : Int) (t0_60 : Int) (S60 : xS) : Prop :=
  xJ1 (w_X4_newStep_J80 a1 S Q r11) (fun j80 => ((¬ a4 = 107 → j80 a6 (xup S60 14 r11 t0_60)) ∧ (a4 = 107 → j80 0 (xup S60 14 r11 t0_60))))
def w_X4_newStep (a1 : Int) (a2 : Int) (a3 : Int) (a4 : Int) (a5 : Int) (a6 : Int) (S : xS) (Q : Int → xS → Prop) : Prop :=
  (0 ≤ a1 ∧ a1 < 3) ∧ w_X4_stepAt a1 (S 10 a1) S (fun r11 S11 => (0 ≤ r11 ∧ r11 < 42) ∧ (0 ≤ a4 ∧ a4 < 65536) ∧ xJ1 (w_X4_newStep_J60 a1 a4 a6 S Q r11) (fun j60 => ((¬ a4 = 107 → j60 a5 (xup (xup (xup S11 11 r11 a2) 12 r11 a3) 13 r11 a4)) ∧ (a4 = 107 → j60 0 (xup (xup (xup S11 11 r11 a2) 12 r11 a3) 13 r11 a4)))))
def w_X4_newChannel (a1 : Int) (S : xS) (Q : Int → xS → Prop) : Prop :=
  (0 ≤ (S 1 7) ∧ (S 1 7) < 2) ∧ (xR ((S 1 7) + 1)) ∧ (xR (((S 1 7) + 1) - 1)) ∧ Q (((S 1 7) + 1) - 1) (xup (xup S 16 (S 1 7) a1) 1 7 ((S 1 7) + 1))
def w_X4_putMarks (a1 : Int) (a2 : Int) (a3 : Int) (S : xS) (Q : Int → xS → Prop) : Prop :=
  (0 ≤ ((a1 * 12) + a2) ∧ ((a1 * 12) + a2) < 36) ∧ (((S 18 ((a1 * 12) + a2)) = a3 → Q 0 (xup S 18 ((a1 * 12) + a2) a3)) ∧ (¬ (S 18 ((a1 * 12) + a2)) = a3 → Q 1 (xup S 18 ((a1 * 12) + a2) a3)))
def w_X4_newInvariant (a1 : Int) (a2 : Int) (S : xS) (Q : Int → xS → Prop) : Prop :=
  (0 ≤ (S 1 11) ∧ (S 1 11) < 4) ∧ (xR ((S 1 11) + 1)) ∧ Q ((S 1 11) + 1) (xup (xup (xup S 19 (S 1 11) a1) 20 (S 1 11) a2) 1 11 ((S 1 11) + 1))
def w_X4_isChannelStep (a1 : Int) (S : xS) (Q : Int → xS → Prop) : Prop :=
  (0 ≤ a1 ∧ a1 < 42) ∧ (((S 13 a1) = 119 → Q 1 S) ∧ (¬ (S 13 a1) = 119 → ((¬ (S 13 a1) = 114 → Q 0 S) ∧ ((S 13 a1) = 114 → Q 1 S))))
def w_X4_takenFor (a0 : Int) (a1 : Int) (a2 : Int) (S : xS) (Q : Int → xS → Prop) : Prop :=
  w_X4_isOwn a0 a2 S (fun r2 S2 => ((r2 = 0 → Q a2 S2) ∧ (¬ r2 = 0 → (xR (a2 + (2 * (a1 - a0)))) ∧ Q (a2 + (2 * (a1 - a0))) S2)))
def w_X4_isSameStep (a1 : Int) (a2 : Int) (a3 : Int) (S : xS) (Q : Int → xS → Prop) : Prop :=
  w_X4_stepAt a1 a3 S (fun r2 S2 => w_X4_stepAt a2 a3 S2 (fun r9 S9 => (0 ≤ r2 ∧ r2 < 42) ∧ (0 ≤ r9 ∧ r9 < 42) ∧ ((¬ (S9 11 r2) = (S9 11 r9) → Q 0 S9) ∧ ((S9 11 r2) = (S9 11 r9) → ((¬ (S9 12 r2) = (S9 12 r9) → Q 0 S9) ∧ ((S9 12 r2) = (S9 12 r9) → (((S9 13 r2) = (S9 13 r9) → w_X4_isChannelStep r2 S9 (fun r70 S70 => ((r70 = 0 → w_X4_takenFor a1 a2 (S70 14 r2) S70 (fun r130 S130 => ((¬ r130 = (S130 14 r9) → Q 0 S130) ∧ (r130 = (S130 14 r9) → ((¬ (S130 15 r2) = (S130 15 r9) → Q 0 S130) ∧ ((S130 15 r2) = (S130 15 r9) → Q 1 S130)))))) ∧ (¬ r70 = 0 → ((¬ (S70 14 r2) = (S70 14 r9) → Q 0 S70) ∧ ((S70 14 r2) = (S70 14 r9) → w_X4_takenFor a1 a2 (S70 15 r2) S70 (fun r102 S102 => ((¬ r102 = (S102 15 r9) → Q 0 S102) ∧ (r102 = (S102 15 r9) → Q 1 S102))))))))) ∧ (¬ (S9 13 r2) = (S9 13 r9) → Q 0 S9))))))))
def w_X4_hasAlike_L90 (a1 : Int) (a2 : Int) (Q : Int → xS → Prop) (k90 : Int → xS → Prop) (v3_90 : Int) (S90 : xS) : Prop :=
  ((2 ≤ v3_90 → Q 1 S90) ∧ (¬ 2 ≤ v3_90 → (0 ≤ ((3 + 2 * a1) + v3_90) ∧ ((3 + 2 * a1) + v3_90) < 9) ∧ (0 ≤ ((3 + 2 * a2) + v3_90) ∧ ((3 + 2 * a2) + v3_90) < 9) ∧ (((S90 17 ((3 + 2 * a1) + v3_90)) = (S90 17 ((3 + 2 * a2) + v3_90)) → (xR (v3_90 + 1)) ∧ k90 (v3_90 + 1) S90) ∧ (¬ (S90 17 ((3 + 2 * a1) + v3_90)) = (S90 17 ((3 + 2 * a2) + v3_90)) → Q 0 S90))))
def w_X4_hasAlike_J88 (a1 : Int) (a2 : Int) (Q : Int → xS → Prop) (S88 : xS) : Prop :=
  xL1 (w_X4_hasAlike_L90 a1 a2 Q) 0 S88
def w_X4_hasAlike_L49 (a1 : Int) (a2 : Int) (Q : Int → xS → Prop) (j88 : xS → Prop) (k49 : Int → xS → Prop) (v3_49 : Int) (S49 : xS) : Prop :=
  ((12 ≤ v3_49 → j88 S49) ∧ (¬ 12 ≤ v3_49 → (0 ≤ ((a1 * 12) + v3_49) ∧ ((a1 * 12) + v3_49) < 36) ∧ (0 ≤ ((a2 * 12) + v3_49) ∧ ((a2 * 12) + v3_49) < 36) ∧ (((S49 18 ((a1 * 12) + v3_49)) = (S49 18 ((a2 * 12) + v3_49)) → (xR (v3_49 + 1)) ∧ k49 (v3_49 + 1) S49) ∧ (¬ (S49 18 ((a1 * 12) + v3_49)) = (S49 18 ((a2 * 12) + v3_49)) → Q 0 S49))))
def w_X4_hasAlike_J47 (a1 : Int) (a2 : Int) (Q : Int → xS → Prop) (S47 : xS) : Prop :=
  xJ0 (w_X4_hasAlike_J88 a1 a2 Q) (fun j88 => xL1 (w_X4_hasAlike_L49 a1 a2 Q j88) 0 S47)
def w_X4_hasAlike_L19 (a1 : Int) (a2 : Int) (Q : Int → xS → Prop) (j47 : xS → Prop) (k19 : Int → xS → Prop) (v3_19 : Int) (S19 : xS) : Prop :=
  (((S19 10 a1) ≤ v3_19 → j47 S19) ∧ (¬ (S19 10 a1) ≤ v3_19 → w_X4_isSameStep a1 a2 v3_19 S19 (fun r33 S33 => ((¬ r33 = 0 → (xR (v3_19 + 1)) ∧ k19 (v3_19 + 1) S33) ∧ (r33 = 0 → Q 0 S33)))))
def w_X4_hasAlike (a1 : Int) (a2 : Int) (S : xS) (Q : Int → xS → Prop) : Prop :=
  (0 ≤ a1 ∧ a1 < 3) ∧ (0 ≤ a2 ∧ a2 < 3) ∧ (((S 10 a1) = (S 10 a2) → xJ0 (w_X4_hasAlike_J47 a1 a2 Q) (fun j47 => xL1 (w_X4_hasAlike_L19 a1 a2 Q j47) 0 S)) ∧ (¬ (S 10 a1) = (S 10 a2) → Q 0 S))
def w_X4_isWatched_L2 (a1 : Int) (Q : Int → xS → Prop) (k2 : Int → xS → Prop) (v2_2 : Int) (S2 : xS) : Prop :=
  (((S2 1 11) ≤ v2_2 → Q 0 S2) ∧ (¬ (S2 1 11) ≤ v2_2 → (0 ≤ v2_2 ∧ v2_2 < 4) ∧ w_X4_isOwn a1 (S2 19 v2_2) S2 (fun r17 S17 => ((r17 = 0 → (xR (v2_2 + 1)) ∧ k2 (v2_2 + 1) S17) ∧ (¬ r17 = 0 → Q 1 S17)))))
def w_X4_isWatched (a1 : Int) (S : xS) (Q : Int → xS → Prop) : Prop :=
  xL1 (w_X4_isWatched_L2 a1 Q) 0 S
def w_X4_hasInvariantOfAlike_L12 (Q : Int → xS → Prop) (k2 : Int → xS → Prop) (v1_2 : Int) (k12 : Int → xS → Prop) (v2_12 : Int) (S12 : xS) : Prop :=
  (((S12 1 0) ≤ v2_12 → (xR (v1_2 + 1)) ∧ k2 (v1_2 + 1) S12) ∧ (¬ (S12 1 0) ≤ v2_12 → ((v2_12 = v1_2 → (xR (v2_12 + 1)) ∧ k12 (v2_12 + 1) S12) ∧ (¬ v2_12 = v1_2 → w_X4_isWatched v1_2 S12 (fun r27 S27 => ((r27 = 0 → (xR (v2_12 + 1)) ∧ k12 (v2_12 + 1) S27) ∧ (¬ r27 = 0 → w_X4_hasAlike v1_2 v2_12 S27 (fun r36 S36 => ((r36 = 0 → (xR (v2_12 + 1)) ∧ k12 (v2_12 + 1) S36) ∧ (¬ r36 = 0 → Q 1 S36))))))))))
def w_X4_hasInvariantOfAlike_L2 (Q : Int → xS → Prop) (k2 : Int → xS → Prop) (v1_2 : Int) (S2 : xS) : Prop :=
  (((S2 1 0) ≤ v1_2 → Q 0 S2) ∧ (¬ (S2 1 0) ≤ v1_2 → xL1 (w_X4_hasInvariantOfAlike_L12 Q k2 v1_2) 0 S2))
def w_X4_hasInvariantOfAlike  (S : xS) (Q : Int → xS → Prop) : Prop :=
  xL1 (w_X4_hasInvariantOfAlike_L2 Q) 0 S
def w_X1_clear (a1 : Int) (S : xS) (Q : xS → Prop) : Prop :=
  (a1 = 0 ∨ a1 = 1) ∧ Q (xfill (xup (xup S 4 1 a1) 4 0 0) 31 4096 0)
def w_X2_clear  (S : xS) (Q : xS → Prop) : Prop :=
  Q (xup (xup (xup S 5 0 0) 5 3 0) 34 0 0)
def w_X6_findKin_L23 (k10 : Int → xS → Prop) (v1_10 : Int) (k23 : Int → xS → Prop) (v2_23 : Int) (S23 : xS) : Prop :=
  (((S23 1 0) ≤ v2_23 → (xR (v1_10 + 1)) ∧ k10 (v1_10 + 1) S23) ∧ (¬ (S23 1 0) ≤ v2_23 → ((¬ (S23 2 10) = 115 → (xR (v2_23 + 1)) ∧ k23 (v2_23 + 1) S23) ∧ ((S23 2 10) = 115 → w_X4_hasAlike v1_10 v2_23 S23 (fun r49 S49 => ((r49 = 0 → (xR (v2_23 + 1)) ∧ k23 (v2_23 + 1) S49) ∧ (¬ r49 = 0 → (0 ≤ ((v1_10 * 3) + v2_23) ∧ ((v1_10 * 3) + v2_23) < 9) ∧ (xR (v2_23 + 1)) ∧ k23 (v2_23 + 1) (xup S49 21 ((v1_10 * 3) + v2_23) 1))))))))
def w_X6_findKin_L10 (Q : xS → Prop) (k10 : Int → xS → Prop) (v1_10 : Int) (S10 : xS) : Prop :=
  (((S10 1 0) ≤ v1_10 → Q S10) ∧ (¬ (S10 1 0) ≤ v1_10 → xL1 (w_X6_findKin_L23 k10 v1_10) 0 S10))
def w_X6_findKin  (S : xS) (Q : xS → Prop) : Prop :=
  xL1 (w_X6_findKin_L10 Q) 0 (xfill S 21 9 0)
def w_X7_goToStart_n  (S : xS) (Q : xS → Prop) : Prop :=
  Q (xfill (xfill (xfill (xcopy (xfill S 41 3 0) 17 0 42 0 9) 43 2 0) 44 2 0) 45 2 0)
def w_X7_packValues_n_L4 (Q : Int → xS → Prop) (k4 : Int → Int → xS → Prop) (v1_4 : Int) (v2_4 : Int) (S4 : xS) : Prop :=
  ((9 ≤ v2_4 → Q v1_4 S4) ∧ (¬ 9 ≤ v2_4 → (0 ≤ v2_4 ∧ v2_4 < 9) ∧ (0 ≤ (2 * v2_4) ∧ (2 * v2_4) < 31) ∧ (xR (v2_4 + 1)) ∧ k4 (xor32 v1_4 ((S4 42 v2_4) * 2 ^ (2 * v2_4).toNat)) (v2_4 + 1) S4))
def w_X7_packValues_n  (S : xS) (Q : Int → xS → Prop) : Prop :=
  xL2 (w_X7_packValues_n_L4 Q) 0 0 S
def w_X1_add_J79 (S : xS) (Q : Int → xS → Prop) (t0_79 : Int) (S79 : xS) : Prop :=
  (xR ((S79 4 0) + 1)) ∧ Q (S 4 0) (xup (xup (xup S79 29 (S 4 0) t0_79) 30 (S 4 0) (-1)) 4 0 ((S79 4 0) + 1))
def w_X1_add (a1 : Int) (a3 : Int) (a4 : Int) (a5 : Int) (S : xS) (Q : Int → xS → Prop) : Prop :=
  w_X1_slotFor a1 S (fun r12 S12 => (xR ((S 4 0) + 1)) ∧ (0 ≤ r12 ∧ r12 < 4096) ∧ (0 ≤ (S 4 0) ∧ (S 4 0) < 2000) ∧ xJ1 (w_X1_add_J79 S Q) (fun j79 => ((¬ a4 = (-1) → (0 ≤ a4 ∧ a4 < 2000) ∧ (xR ((S12 29 a4) + 1)) ∧ j79 ((S12 29 a4) + 1) (xup (xup (xup (xup (xup S12 31 r12 ((S 4 0) + 1)) 25 (S 4 0) a1) 26 (S 4 0) a3) 27 (S 4 0) a4) 28 (S 4 0) a5)) ∧ (a4 = (-1) → j79 0 (xup (xup (xup (xup (xup S12 31 r12 ((S 4 0) + 1)) 25 (S 4 0) a1) 26 (S 4 0) a3) 27 (S 4 0) a4) 28 (S 4 0) a5)))))
def w_X4_breaksInvariant_n_L2 (Q : Int → xS → Prop) (k2 : Int → xS → Prop) (v2_2 : Int) (S2 : xS) : Prop :=
  (((S2 1 11) ≤ v2_2 → Q 0 S2) ∧ (¬ (S2 1 11) ≤ v2_2 → (0 ≤ v2_2 ∧ v2_2 < 4) ∧ (0 ≤ (S2 19 v2_2) ∧ (S2 19 v2_2) < 9) ∧ ((¬ (S2 42 (S2 19 v2_2)) = (S2 20 v2_2) → (xR (v2_2 + 1)) ∧ k2 (v2_2 + 1) S2) ∧ ((S2 42 (S2 19 v2_2)) = (S2 20 v2_2) → Q 1 S2))))
def w_X4_breaksInvariant_n  (S : xS) (Q : Int → xS → Prop) : Prop :=
  xL1 (w_X4_breaksInvariant_n_L2 Q) 0 S
def w_X6_endWith_L28 (Q : xS → Prop) (k28 : Int → Int → xS → Prop) (v3_28 : Int) (v4_28 : Int) (S28 : xS) : Prop :=
  ((v4_28 < 0 → Q S28) ∧ (¬ v4_28 < 0 → (0 ≤ v3_28 ∧ v3_28 < 2000) ∧ (0 ≤ v4_28 ∧ v4_28 < 2000) ∧ (xR (v4_28 + (-1))) ∧ k28 (S28 27 v3_28) (v4_28 + (-1)) (xup S28 22 v4_28 (S28 28 v3_28))))
def w_X6_endWith (a1 : Int) (a2 : Int) (S : xS) (Q : xS → Prop) : Prop :=
  (0 ≤ a1 ∧ a1 < 65536) ∧ (0 ≤ a2 ∧ a2 < 2000) ∧ (xR ((S 29 a2) - 1)) ∧ xL2 (w_X6_endWith_L28 Q) a2 ((S 29 a2) - 1) (xup (xup S 2 13 a1) 2 8 (S 29 a2))
def w_X6_find (a1 : Int) (a3 : Int) (a4 : Int) (S : xS) (Q : Int → xS → Prop) : Prop :=
  w_X7_packValues_n S (fun r9 S9 => w_X1_add a1 r9 a3 a4 S9 (fun r15 S15 => w_X4_breaksInvariant_n S15 (fun r28 S28 => ((r28 = 0 → Q r15 S28) ∧ (¬ r28 = 0 → w_X6_endWith 105 r15 S28 (fun S39 => Q r15 S39))))))
def w_X6_beginIn_J46 (Q : xS → Prop) (t0_46 : Int) (S46 : xS) : Prop :=
  w_X1_clear t0_46 S46 (fun S46 => w_X2_clear S46 (fun S53 => w_X6_findKin S53 (fun S57 => w_X7_goToStart_n S57 (fun S64 => w_X7_pack_n S64 (fun r72 S72 => w_X6_find r72 (-1) (-1) S72 (fun r77 S77 => Q S77))))))
def w_X6_beginIn (a1 : Int) (S : xS) (Q : xS → Prop) : Prop :=
  (0 ≤ a1 ∧ a1 < 65536) ∧ xJ1 (w_X6_beginIn_J46 Q) (fun j46 => ((¬ a1 = 104 → j46 0 (xup (xup (xup (xup (xup (xup S 2 10 a1) 2 9 1) 2 11 0) 2 12 0) 2 13 45) 2 8 0)) ∧ (a1 = 104 → j46 1 (xup (xup (xup (xup (xup (xup S 2 10 a1) 2 9 1) 2 11 0) 2 12 0) 2 13 45) 2 8 0))))
def w_X6_isCutShort  (S : xS) (Q : Int → xS → Prop) : Prop :=
  ((¬ (S 2 13) = 45 → Q 1 S) ∧ ((S 2 13) = 45 → (((S 4 0) < 2000 → Q 0 S) ∧ (¬ (S 4 0) < 2000 → Q 1 S))))
def w_X6_hasEnded  (S : xS) (Q : Int → xS → Prop) : Prop :=
  w_X6_isCutShort S (fun r1 S1 => ((¬ r1 = 0 → Q 1 S1) ∧ (r1 = 0 → (((S1 2 11) < (S1 4 0) → Q 0 S1) ∧ (¬ (S1 2 11) < (S1 4 0) → Q 1 S1)))))
def w_X6_judge  (S : xS) (Q : Int → xS → Prop) : Prop :=
  (((S 2 13) = 45 → (((S 2 10) = 104 → Q 63 S) ∧ (¬ (S 2 10) = 104 → w_X6_hasEnded S (fun r22 S22 => ((r22 = 0 → Q 63 S22) ∧ (¬ r22 = 0 → ((2000 ≤ (S22 4 0) → Q 63 S22) ∧ (¬ 2000 ≤ (S22 4 0) → Q 110 S22)))))))) ∧ (¬ (S 2 13) = 45 → Q 102 S))
def w_X4_isPrivateStep (a1 : Int) (a2 : Int) (S : xS) (Q : Int → xS → Prop) : Prop :=
  (0 ≤ a2 ∧ a2 < 42) ∧ ((¬ (S 13 a2) = 107 → (((S 13 a2) = 97 → Q 0 S) ∧ (¬ (S 13 a2) = 97 → w_X4_isChannelStep a2 S (fun r26 S26 => ((¬ r26 = 0 → Q 0 S26) ∧ (r26 = 0 → w_X4_isOwn a1 (S26 14 a2) S26 (fun r39 S39 => ((r39 = 0 → Q 0 S39) ∧ (¬ r39 = 0 → Q 1 S39))))))))) ∧ ((S 13 a2) = 107 → Q 1 S))
def w_X4_isPrivate_L12 (a1 : Int) (a2 : Int) (Q : Int → xS → Prop) (k12 : Int → xS → Prop) (v3_12 : Int) (S12 : xS) : Prop :=
  (0 ≤ a1 ∧ a1 < 3) ∧ (((S12 10 a1) ≤ v3_12 → Q 1 S12) ∧ (¬ (S12 10 a1) ≤ v3_12 → w_X4_stepAt a1 v3_12 S12 (fun r24 S24 => (0 ≤ r24 ∧ r24 < 42) ∧ ((¬ (S24 11 r24) = a2 → (xR (v3_12 + 1)) ∧ k12 (v3_12 + 1) S24) ∧ ((S24 11 r24) = a2 → w_X4_isPrivateStep a1 r24 S24 (fun r44 S44 => ((¬ r44 = 0 → (xR (v3_12 + 1)) ∧ k12 (v3_12 + 1) S44) ∧ (r44 = 0 → Q 0 S44))))))))
def w_X4_isPrivate (a1 : Int) (a2 : Int) (S : xS) (Q : Int → xS → Prop) : Prop :=
  w_X4_isWatched a1 S (fun r2 S2 => ((r2 = 0 → xL1 (w_X4_isPrivate_L12 a1 a2 Q) 0 S2) ∧ (¬ r2 = 0 → Q 0 S2)))
def w_X3_leaderOf (a0 : Int) (S : xS) (Q : Int → xS → Prop) : Prop :=
  w_X3_leadOf a0 S (fun r1 S1 => w_X4_processOf r1 S1 (fun r4 S4 => Q r4 S4))
def w_X3_hasLedBy_L2 (a1 : Int) (Q : Int → xS → Prop) (k2 : Int → xS → Prop) (v2_2 : Int) (S2 : xS) : Prop :=
  (((S2 6 2) ≤ v2_2 → Q 0 S2) ∧ (¬ (S2 6 2) ≤ v2_2 → (0 ≤ v2_2 ∧ v2_2 < 392) ∧ w_X3_leaderOf (S2 35 v2_2) S2 (fun r16 S16 => ((¬ r16 = a1 → (xR (v2_2 + 1)) ∧ k2 (v2_2 + 1) S16) ∧ (r16 = a1 → Q 1 S16)))))
def w_X3_hasLedBy (a1 : Int) (S : xS) (Q : Int → xS → Prop) : Prop :=
  xL1 (w_X3_hasLedBy_L2 a1 Q) 0 S
def w_X6_leadsToNewAlone_L2 (a1 : Int) (Q : Int → xS → Prop) (k2 : Int → xS → Prop) (v2_2 : Int) (S2 : xS) : Prop :=
  (((S2 6 2) ≤ v2_2 → Q 1 S2) ∧ (¬ (S2 6 2) ≤ v2_2 → (0 ≤ v2_2 ∧ v2_2 < 392) ∧ w_X3_leaderOf (S2 35 v2_2) S2 (fun r24 S24 => ((¬ r24 = a1 → (xR (v2_2 + 1)) ∧ k2 (v2_2 + 1) S24) ∧ (r24 = a1 → w_X6_goBehind (S2 35 v2_2) S24 (fun S33 => w_X7_pack_n S33 (fun r44 S44 => w_X1_numberFor r44 S44 (fun r47 S47 => ((r47 = (-1) → (xR (v2_2 + 1)) ∧ k2 (v2_2 + 1) S47) ∧ (¬ r47 = (-1) → Q 0 S47))))))))))
def w_X6_leadsToNewAlone (a1 : Int) (S : xS) (Q : Int → xS → Prop) : Prop :=
  xL1 (w_X6_leadsToNewAlone_L2 a1 Q) 0 S
def w_X6_processThatGoesAlone_L2 (Q : Int → xS → Prop) (k2 : Int → xS → Prop) (v1_2 : Int) (S2 : xS) : Prop :=
  (((S2 1 0) ≤ v1_2 → Q (-1) S2) ∧ (¬ (S2 1 0) ≤ v1_2 → (0 ≤ v1_2 ∧ v1_2 < 3) ∧ w_X4_isPrivate v1_2 (S2 36 v1_2) S2 (fun r27 S27 => ((r27 = 0 → (xR (v1_2 + 1)) ∧ k2 (v1_2 + 1) S27) ∧ (¬ r27 = 0 → w_X3_hasLedBy v1_2 S27 (fun r40 S40 => ((r40 = 0 → (xR (v1_2 + 1)) ∧ k2 (v1_2 + 1) S40) ∧ (¬ r40 = 0 → w_X6_leadsToNewAlone v1_2 S40 (fun r48 S48 => ((r48 = 0 → (xR (v1_2 + 1)) ∧ k2 (v1_2 + 1) S48) ∧ (¬ r48 = 0 → Q v1_2 S48)))))))))))
def w_X6_processThatGoesAlone  (S : xS) (Q : Int → xS → Prop) : Prop :=
  xL1 (w_X6_processThatGoesAlone_L2 Q) 0 S
def w_X3_doersOf (a0 : Int) (S : xS) (Q : Int → xS → Prop) : Prop :=
  w_X3_partnerOf a0 S (fun r1 S1 => w_X3_leaderOf a0 S1 (fun r7 S7 => (0 ≤ r7 ∧ r7 < 31) ∧ ((¬ r1 = (-1) → w_X4_processOf r1 S7 (fun r24 S24 => (0 ≤ r24 ∧ r24 < 31) ∧ Q (xor32 (1 * 2 ^ r7.toNat) (1 * 2 ^ r24.toNat)) S24)) ∧ (r1 = (-1) → (xR (1 * 2 ^ r7.toNat)) ∧ Q (1 * 2 ^ r7.toNat) S7))))
def w_X2_closeState  (S : xS) (Q : xS → Prop) : Prop :=
  ((2000 ≤ (S 5 0) → Q S) ∧ (¬ 2000 ≤ (S 5 0) → (xR ((S 5 0) + 1)) ∧ (0 ≤ ((S 5 0) + 1) ∧ ((S 5 0) + 1) < 2001) ∧ Q (xup (xup (xup S 5 0 ((S 5 0) + 1)) 32 ((S 5 0) + 1) (S 5 3)) 34 ((S 5 0) + 1) 0)))
def w_X6_countMoves (a1 : Int) (S : xS) (Q : Int → xS → Prop) : Prop :=
  (0 ≤ a1 ∧ a1 < 2000) ∧ ((¬ (S 30 a1) = (-1) → Q (S 30 a1) S) ∧ ((S 30 a1) = (-1) → w_X6_listMoves a1 S (fun S15 => Q (S15 30 a1) S15)))
def w_X6_codeBehind (a1 : Int) (a2 : Int) (S : xS) (Q : Int → xS → Prop) : Prop :=
  w_X6_listMoves a1 S (fun S2 => w_X7_copyFrom_nh S2 (fun S13 => (0 ≤ a2 ∧ a2 < 392) ∧ w_X7_doMove_n (S13 35 a2) S13 (fun S29 => w_X7_pack_n S29 (fun r36 S36 => Q r36 S36))))
def w_X1_valueIn (a1 : Int) (a2 : Int) (S : xS) (Q : Int → xS → Prop) : Prop :=
  (0 ≤ a1 ∧ a1 < 2000) ∧ (0 ≤ (2 * a2) ∧ (2 * a2) < 31) ∧ Q (xand ((S 26 a1) / 2 ^ (2 * a2).toNat) 3) S
def w_X4_numberOf (a0 : Int) (S : xS) (Q : Int → xS → Prop) : Prop :=
  (0 ≤ a0) ∧ Q (a0 % 14) S
def w_X5_markWithout_L2 (a1 : Int) (a2 : Int) (Q : xS → Prop) (k2 : Int → xS → Prop) (v3_2 : Int) (S2 : xS) : Prop :=
  (((S2 5 0) ≤ v3_2 → Q S2) ∧ (¬ (S2 5 0) ≤ v3_2 → w_X1_valueIn v3_2 a1 S2 (fun r24 S24 => ((¬ r24 = a2 → (0 ≤ v3_2 ∧ v3_2 < 2000) ∧ (xR (v3_2 + 1)) ∧ k2 (v3_2 + 1) (xup S24 23 v3_2 1)) ∧ (r24 = a2 → (0 ≤ v3_2 ∧ v3_2 < 2000) ∧ (xR (v3_2 + 1)) ∧ k2 (v3_2 + 1) (xup S24 23 v3_2 0))))))
def w_X5_markWithout (a1 : Int) (a2 : Int) (S : xS) (Q : xS → Prop) : Prop :=
  xL1 (w_X5_markWithout_L2 a1 a2 Q) 0 S
def w_X0_enter (a1 : Int) (S : xS) (Q : xS → Prop) : Prop :=
  (xR ((S 9 5) + 1)) ∧ (0 ≤ a1 ∧ a1 < 2000) ∧ (0 ≤ (S 9 8) ∧ (S 9 8) < 2000) ∧ (xR ((S 9 8) + 1)) ∧ (0 ≤ (S 9 10) ∧ (S 9 10) < 2000) ∧ (xR ((S 9 10) + 1)) ∧ Q (xup (xup (xup (xup (xup (xup (xup (xup S 9 5 ((S 9 5) + 1)) 47 a1 ((S 9 5) + 1)) 48 a1 ((S 9 5) + 1)) 49 a1 (S 32 a1)) 50 (S 9 8) a1) 9 8 ((S 9 8) + 1)) 51 (S 9 10) a1) 9 10 ((S 9 10) + 1))
def w_X0_close_L7 (a1 : Int) (Q : xS → Prop) (k7 : Int → xS → Prop) (v2_7 : Int) (S7 : xS) : Prop :=
  ((v2_7 < 0 → (xR ((S7 9 1) + 1)) ∧ Q (xup S7 9 1 ((S7 9 1) + 1))) ∧ (¬ v2_7 < 0 → (0 ≤ v2_7 ∧ v2_7 < 2000) ∧ (0 ≤ (S7 51 v2_7) ∧ (S7 51 v2_7) < 2000) ∧ (xR ((S7 9 10) - 1)) ∧ ((¬ (S7 51 v2_7) = a1 → (xR (v2_7 + (-1))) ∧ k7 (v2_7 + (-1)) (xup (xup S7 46 (S7 51 v2_7) (S7 9 1)) 9 10 ((S7 9 10) - 1))) ∧ ((S7 51 v2_7) = a1 → (xR ((S7 9 1) + 1)) ∧ Q (xup (xup (xup S7 46 (S7 51 v2_7) (S7 9 1)) 9 10 ((S7 9 10) - 1)) 9 1 ((S7 9 1) + 1))))))
def w_X0_close (a1 : Int) (S : xS) (Q : xS → Prop) : Prop :=
  (xR ((S 9 10) - 1)) ∧ xL1 (w_X0_close_L7 a1 Q) ((S 9 10) - 1) S
def w_X0_leave_J50 (a1 : Int) (Q : xS → Prop) (S50 : xS) : Prop :=
  (0 ≤ a1 ∧ a1 < 2000) ∧ ((¬ (S50 48 a1) = (S50 47 a1) → Q S50) ∧ ((S50 48 a1) = (S50 47 a1) → w_X0_close a1 S50 (fun S67 => Q S67)))
def w_X0_leave (a1 : Int) (S : xS) (Q : xS → Prop) : Prop :=
  (xR ((S 9 8) - 1)) ∧ xJ0 (w_X0_leave_J50 a1 Q) (fun j50 => ((((S 9 8) - 1) ≤ 0 → j50 (xup S 9 8 ((S 9 8) - 1))) ∧ (¬ ((S 9 8) - 1) ≤ 0 → (0 ≤ (((S 9 8) - 1) - 1) ∧ (((S 9 8) - 1) - 1) < 2000) ∧ (0 ≤ (S 50 (((S 9 8) - 1) - 1)) ∧ (S 50 (((S 9 8) - 1) - 1)) < 2000) ∧ (0 ≤ a1 ∧ a1 < 2000) ∧ j50 (xup (xup S 9 8 ((S 9 8) - 1)) 48 (S 50 (((S 9 8) - 1) - 1)) (xmin (S 48 (S 50 (((S 9 8) - 1) - 1))) (S 48 a1))))))
def w_X2_targetOf (a0 : Int) (S : xS) (Q : Int → xS → Prop) : Prop :=
  Q (a0 / 8) S
def w_X0_lookAt (a1 : Int) (a2 : Int) (S : xS) (Q : xS → Prop) : Prop :=
  (0 ≤ a1 ∧ a1 < 2000) ∧ ((¬ (S 47 a1) = 0 → ((¬ (S 46 a1) = (-1) → Q S) ∧ ((S 46 a1) = (-1) → (0 ≤ a2 ∧ a2 < 2000) ∧ Q (xup S 48 a2 (xmin (S 48 a2) (S 47 a1)))))) ∧ ((S 47 a1) = 0 → w_X0_enter a1 S (fun S11 => Q S11)))
def w_X0_walkFrom_L24 (Q : xS → Prop) (S2 : xS) (k24 : Int → xS → Prop) (v4_24 : Int) (S24 : xS) : Prop :=
  (xR ((S2 5 3) + (S2 5 0))) ∧ ((((S2 5 3) + (S2 5 0)) ≤ v4_24 → Q S24) ∧ (¬ ((S2 5 3) + (S2 5 0)) ≤ v4_24 → (((S24 9 8) ≤ 0 → Q S24) ∧ (¬ (S24 9 8) ≤ 0 → (0 ≤ ((S24 9 8) - 1) ∧ ((S24 9 8) - 1) < 2000) ∧ (0 ≤ (S24 50 ((S24 9 8) - 1)) ∧ (S24 50 ((S24 9 8) - 1)) < 2000) ∧ (0 ≤ ((S24 50 ((S24 9 8) - 1)) + 1) ∧ ((S24 50 ((S24 9 8) - 1)) + 1) < 2001) ∧ (((S24 32 ((S24 50 ((S24 9 8) - 1)) + 1)) ≤ (S24 49 (S24 50 ((S24 9 8) - 1))) → w_X0_leave (S24 50 ((S24 9 8) - 1)) S24 (fun S125 => (xR (v4_24 + 1)) ∧ k24 (v4_24 + 1) S125)) ∧ (¬ (S24 32 ((S24 50 ((S24 9 8) - 1)) + 1)) ≤ (S24 49 (S24 50 ((S24 9 8) - 1))) → (0 ≤ (S24 49 (S24 50 ((S24 9 8) - 1))) ∧ (S24 49 (S24 50 ((S24 9 8) - 1))) < S24 33 (-1) ∧ S24 33 (-1) < 2147483648) ∧ w_X2_targetOf (S24 33 (S24 49 (S24 50 ((S24 9 8) - 1)))) S24 (fun r87 S87 => (xR ((S87 49 (S24 50 ((S24 9 8) - 1))) + 1)) ∧ (0 ≤ r87 ∧ r87 < 2000) ∧ ((¬ (S87 23 r87) = 1 → (xR (v4_24 + 1)) ∧ k24 (v4_24 + 1) (xup S87 49 (S24 50 ((S24 9 8) - 1)) ((S87 49 (S24 50 ((S24 9 8) - 1))) + 1))) ∧ ((S87 23 r87) = 1 → w_X0_lookAt r87 (S24 50 ((S24 9 8) - 1)) (xup S87 49 (S24 50 ((S24 9 8) - 1)) ((S87 49 (S24 50 ((S24 9 8) - 1))) + 1)) (fun S116 => (xR (v4_24 + 1)) ∧ k24 (v4_24 + 1) S116))))))))))
def w_X0_walkFrom (a1 : Int) (S : xS) (Q : xS → Prop) : Prop :=
  w_X0_enter a1 S (fun S2 => xL1 (w_X0_walkFrom_L24 Q S2) 0 S2)
def w_X0_split_L38 (Q : xS → Prop) (k38 : Int → xS → Prop) (v2_38 : Int) (S38 : xS) : Prop :=
  (((S38 5 0) ≤ v2_38 → Q S38) ∧ (¬ (S38 5 0) ≤ v2_38 → (0 ≤ v2_38 ∧ v2_38 < 2000) ∧ ((¬ (S38 23 v2_38) = 1 → (xR (v2_38 + 1)) ∧ k38 (v2_38 + 1) S38) ∧ ((S38 23 v2_38) = 1 → ((¬ (S38 47 v2_38) = 0 → (xR (v2_38 + 1)) ∧ k38 (v2_38 + 1) S38) ∧ ((S38 47 v2_38) = 0 → w_X0_walkFrom v2_38 S38 (fun S68 => (xR (v2_38 + 1)) ∧ k38 (v2_38 + 1) S68)))))))
def w_X0_split  (S : xS) (Q : xS → Prop) : Prop :=
  xL1 (w_X0_split_L38 Q) 0 (xfill (xfill (xup (xup (xup (xup S 9 1 0) 9 5 0) 9 8 0) 9 10 0) 47 2000 0) 46 2000 (-1))
def w_X2_isWithoutEdges (a1 : Int) (S : xS) (Q : Int → xS → Prop) : Prop :=
  (0 ≤ a1 ∧ a1 < 2001) ∧ (0 ≤ (a1 + 1) ∧ (a1 + 1) < 2001) ∧ ((¬ (S 32 a1) = (S 32 (a1 + 1)) → Q 0 S) ∧ ((S 32 a1) = (S 32 (a1 + 1)) → Q 1 S))
def w_X2_doersOf (a0 : Int) (S : xS) (Q : Int → xS → Prop) : Prop :=
  Q (xand a0 7) S
def w_X0_judge_L51 (a1 : Int) (a2 : Int) (Q : xS → Prop) (k51 : Int → xS → Prop) (v3_51 : Int) (S51 : xS) : Prop :=
  (0 ≤ (a1 + 1) ∧ (a1 + 1) < 2001) ∧ (((S51 32 (a1 + 1)) ≤ v3_51 → Q S51) ∧ (¬ (S51 32 (a1 + 1)) ≤ v3_51 → (0 ≤ v3_51 ∧ v3_51 < S51 33 (-1) ∧ S51 33 (-1) < 2147483648) ∧ w_X2_targetOf (S51 33 v3_51) S51 (fun r83 S83 => (0 ≤ r83 ∧ r83 < 2000) ∧ ((¬ (S83 46 r83) = a2 → (xR (v3_51 + 1)) ∧ k51 (v3_51 + 1) S83) ∧ ((S83 46 r83) = a2 → w_X2_doersOf (S51 33 v3_51) (xup S83 53 a2 1) (fun r107 S107 => (xR (v3_51 + 1)) ∧ k51 (v3_51 + 1) (xup S107 52 a2 (xor32 (S83 52 a2) r107))))))))
def w_X0_judge_J41 (a1 : Int) (a2 : Int) (Q : xS → Prop) (S41 : xS) : Prop :=
  xL1 (w_X0_judge_L51 a1 a2 Q) (S41 32 a1) S41
def w_X0_judge (a1 : Int) (a2 : Int) (S : xS) (Q : xS → Prop) : Prop :=
  (0 ≤ a2 ∧ a2 < 2000) ∧ (0 ≤ a1 ∧ a1 < 2001) ∧ w_X2_isWithoutEdges a1 (xup S 52 a2 (xor32 (S 52 a2) (xand 7 (xxor (S 34 a1) (-1))))) (fun r28 S28 => xJ0 (w_X0_judge_J41 a1 a2 Q) (fun j41 => ((r28 = 0 → j41 S28) ∧ (¬ r28 = 0 → j41 (xup S28 53 a2 1)))))
def w_X0_holdsRun_L58 (a1 : Int) (Q : Int → xS → Prop) (k58 : Int → xS → Prop) (v2_58 : Int) (S58 : xS) : Prop :=
  (((S58 9 1) ≤ v2_58 → Q 0 S58) ∧ (¬ (S58 9 1) ≤ v2_58 → (0 ≤ v2_58 ∧ v2_58 < 2000) ∧ ((¬ (S58 53 v2_58) = 1 → (xR (v2_58 + 1)) ∧ k58 (v2_58 + 1) S58) ∧ ((S58 53 v2_58) = 1 → ((a1 = 0 → Q 1 S58) ∧ (¬ a1 = 0 → ((¬ (S58 52 v2_58) = 7 → (xR (v2_58 + 1)) ∧ k58 (v2_58 + 1) S58) ∧ ((S58 52 v2_58) = 7 → Q 1 S58))))))))
def w_X0_holdsRun_J56 (a1 : Int) (Q : Int → xS → Prop) (S56 : xS) : Prop :=
  xL1 (w_X0_holdsRun_L58 a1 Q) 0 S56
def w_X0_holdsRun_L18 (j56 : xS → Prop) (k18 : Int → xS → Prop) (v2_18 : Int) (S18 : xS) : Prop :=
  (((S18 5 0) ≤ v2_18 → j56 S18) ∧ (¬ (S18 5 0) ≤ v2_18 → (0 ≤ v2_18 ∧ v2_18 < 2000) ∧ (((S18 46 v2_18) = (-1) → (xR (v2_18 + 1)) ∧ k18 (v2_18 + 1) S18) ∧ (¬ (S18 46 v2_18) = (-1) → w_X0_judge v2_18 (S18 46 v2_18) S18 (fun S47 => (xR (v2_18 + 1)) ∧ k18 (v2_18 + 1) S47)))))
def w_X0_holdsRun (a1 : Int) (S : xS) (Q : Int → xS → Prop) : Prop :=
  xJ0 (w_X0_holdsRun_J56 a1 Q) (fun j56 => xL1 (w_X0_holdsRun_L18 j56) 0 (xfill (xfill S 52 2000 0) 53 2000 0))
def w_X5_canLeaveForGood (a1 : Int) (a2 : Int) (a3 : Int) (S : xS) (Q : Int → xS → Prop) : Prop :=
  w_X5_markWithout a1 a2 S (fun S3 => w_X0_split S3 (fun S14 => w_X0_holdsRun a3 S14 (fun r22 S22 => (r22 = 0 ∨ r22 = 1) ∧ Q r22 S22)))
def w_X5_takeIfStuck_L32 (a1 : Int) (Q : Int → xS → Prop) (k32 : Int → xS → Prop) (v2_32 : Int) (S32 : xS) : Prop :=
  (0 ≤ (a1 + 1) ∧ (a1 + 1) < 2001) ∧ (((S32 32 (a1 + 1)) ≤ v2_32 → Q 1 (xup S32 23 a1 0)) ∧ (¬ (S32 32 (a1 + 1)) ≤ v2_32 → (0 ≤ v2_32 ∧ v2_32 < S32 33 (-1) ∧ S32 33 (-1) < 2147483648) ∧ w_X2_targetOf (S32 33 v2_32) S32 (fun r60 S60 => (0 ≤ r60 ∧ r60 < 2000) ∧ ((¬ (S60 23 r60) = 1 → (xR (v2_32 + 1)) ∧ k32 (v2_32 + 1) S60) ∧ ((S60 23 r60) = 1 → Q 0 S60)))))
def w_X5_takeIfStuck (a1 : Int) (S : xS) (Q : Int → xS → Prop) : Prop :=
  (0 ≤ a1 ∧ a1 < 2000) ∧ (((S 23 a1) = 0 → Q 0 S) ∧ (¬ (S 23 a1) = 0 → w_X2_isWithoutEdges a1 S (fun r14 S14 => ((r14 = 0 → xL1 (w_X5_takeIfStuck_L32 a1 Q) (S14 32 a1) S14) ∧ (¬ r14 = 0 → Q 0 S14)))))
def w_X5_takeUpwards_L4 (Q : Int → xS → Prop) (k4 : Int → Int → xS → Prop) (v1_4 : Int) (v2_4 : Int) (S4 : xS) : Prop :=
  (((S4 5 0) ≤ v2_4 → Q v1_4 S4) ∧ (¬ (S4 5 0) ≤ v2_4 → w_X5_takeIfStuck v2_4 S4 (fun r18 S18 => (xR (v1_4 + r18)) ∧ (xR (v2_4 + 1)) ∧ k4 (v1_4 + r18) (v2_4 + 1) S18)))
def w_X5_takeUpwards  (S : xS) (Q : Int → xS → Prop) : Prop :=
  xL2 (w_X5_takeUpwards_L4 Q) 0 0 S
def w_X5_takeDownwards_L12 (Q : Int → xS → Prop) (k12 : Int → Int → xS → Prop) (v1_12 : Int) (v2_12 : Int) (S12 : xS) : Prop :=
  ((v2_12 < 0 → Q v1_12 S12) ∧ (¬ v2_12 < 0 → w_X5_takeIfStuck v2_12 S12 (fun r19 S19 => (xR (v1_12 + r19)) ∧ (xR (v2_12 + (-1))) ∧ k12 (v1_12 + r19) (v2_12 + (-1)) S19)))
def w_X5_takeDownwards  (S : xS) (Q : Int → xS → Prop) : Prop :=
  (xR ((S 5 0) - 1)) ∧ xL2 (w_X5_takeDownwards_L12 Q) 0 ((S 5 0) - 1) S
def w_X5_isAllTaken_L54 (Q : Int → xS → Prop) (k54 : Int → xS → Prop) (v3_54 : Int) (S54 : xS) : Prop :=
  (((S54 5 0) ≤ v3_54 → Q 1 S54) ∧ (¬ (S54 5 0) ≤ v3_54 → (0 ≤ v3_54 ∧ v3_54 < 2000) ∧ ((¬ (S54 23 v3_54) = 1 → (xR (v3_54 + 1)) ∧ k54 (v3_54 + 1) S54) ∧ ((S54 23 v3_54) = 1 → Q 0 S54))))
def w_X5_isAllTaken_J52 (Q : Int → xS → Prop) (S52 : xS) : Prop :=
  xL1 (w_X5_isAllTaken_L54 Q) 0 S52
def w_X5_isAllTaken_J43 (j52 : xS → Prop) (S43 : xS) : Prop :=
  j52 S43
def w_X5_isAllTaken_J36 (j43 : xS → Prop) (k8 : Int → xS → Prop) (v3_8 : Int) (t0_36 : Int) (S36 : xS) : Prop :=
  ((¬ t0_36 = 0 → (xR (v3_8 + 1)) ∧ k8 (v3_8 + 1) S36) ∧ (t0_36 = 0 → j43 S36))
def w_X5_isAllTaken_L8 (j52 : xS → Prop) (j43 : xS → Prop) (k8 : Int → xS → Prop) (v3_8 : Int) (S8 : xS) : Prop :=
  (((S8 5 0) < v3_8 → j52 S8) ∧ (¬ (S8 5 0) < v3_8 → (0 ≤ v3_8) ∧ xJ1 (w_X5_isAllTaken_J36 j43 k8 v3_8) (fun j36 => ((¬ (v3_8 % 2) = 0 → w_X5_takeUpwards S8 (fun r33 S33 => j36 r33 S33)) ∧ ((v3_8 % 2) = 0 → w_X5_takeDownwards S8 (fun r26 S26 => j36 r26 S26))))))
def w_X5_isAllTaken (a1 : Int) (a2 : Int) (S : xS) (Q : Int → xS → Prop) : Prop :=
  w_X5_markWithout a1 a2 S (fun S3 => xJ0 (w_X5_isAllTaken_J52 Q) (fun j52 => xJ0 (w_X5_isAllTaken_J43 j52) (fun j43 => xL1 (w_X5_isAllTaken_L8 j52 j43) 0 S3)))
def w_X5_clearMarks  (S : xS) (Q : xS → Prop) : Prop :=
  Q (xup (xfill S 23 2000 0) 3 5 0)
def w_X5_markIfWithout (a1 : Int) (a2 : Int) (a3 : Int) (S : xS) (Q : xS → Prop) : Prop :=
  (0 ≤ a1 ∧ a1 < 2000) ∧ ((¬ (S 23 a1) = 0 → Q S) ∧ ((S 23 a1) = 0 → w_X1_valueIn a1 a2 S (fun r15 S15 => ((r15 = a3 → Q S15) ∧ (¬ r15 = a3 → (0 ≤ (S15 3 5) ∧ (S15 3 5) < 2000) ∧ (xR ((S15 3 5) + 1)) ∧ Q (xup (xup (xup S15 23 a1 1) 24 (S15 3 5) a1) 3 5 ((S15 3 5) + 1)))))))
def w_X5_spread_L37 (a1 : Int) (a2 : Int) (k2 : Int → xS → Prop) (v3_2 : Int) (S2 : xS) (k37 : Int → xS → Prop) (v5_37 : Int) (S37 : xS) : Prop :=
  (0 ≤ ((S2 24 v3_2) + 1) ∧ ((S2 24 v3_2) + 1) < 2001) ∧ (((S37 32 ((S2 24 v3_2) + 1)) ≤ v5_37 → (xR (v3_2 + 1)) ∧ k2 (v3_2 + 1) S37) ∧ (¬ (S37 32 ((S2 24 v3_2) + 1)) ≤ v5_37 → (0 ≤ v5_37 ∧ v5_37 < S37 33 (-1) ∧ S37 33 (-1) < 2147483648) ∧ w_X2_targetOf (S37 33 v5_37) S37 (fun r65 S65 => w_X5_markIfWithout r65 a1 a2 S65 (fun S70 => (xR (v5_37 + 1)) ∧ k37 (v5_37 + 1) S70))))
def w_X5_spread_L2 (a1 : Int) (a2 : Int) (Q : xS → Prop) (k2 : Int → xS → Prop) (v3_2 : Int) (S2 : xS) : Prop :=
  ((2000 ≤ v3_2 → Q S2) ∧ (¬ 2000 ≤ v3_2 → (((S2 3 5) ≤ v3_2 → Q S2) ∧ (¬ (S2 3 5) ≤ v3_2 → (0 ≤ v3_2 ∧ v3_2 < 2000) ∧ (0 ≤ (S2 24 v3_2) ∧ (S2 24 v3_2) < 2001) ∧ xL1 (w_X5_spread_L37 a1 a2 k2 v3_2 S2) (S2 32 (S2 24 v3_2)) S2))))
def w_X5_spread (a1 : Int) (a2 : Int) (S : xS) (Q : xS → Prop) : Prop :=
  xL1 (w_X5_spread_L2 a1 a2 Q) 0 S
def w_X5_canMiss (a1 : Int) (a2 : Int) (a3 : Int) (S : xS) (Q : Int → xS → Prop) : Prop :=
  w_X5_clearMarks S (fun S1 => w_X5_markIfWithout 0 a1 a2 S1 (fun S8 => w_X5_spread a1 a2 S8 (fun S14 => w_X0_split S14 (fun S25 => w_X0_holdsRun a3 S25 (fun r33 S33 => (r33 = 0 ∨ r33 = 1) ∧ Q r33 S33)))))
def w_X5_canMissBehind_J48 (a3 : Int) (a4 : Int) (a5 : Int) (Q : Int → xS → Prop) (S48 : xS) : Prop :=
  w_X5_spread a3 a4 S48 (fun S52 => w_X0_split S52 (fun S63 => w_X0_holdsRun a5 S63 (fun r72 S72 => (r72 = 0 ∨ r72 = 1) ∧ Q r72 S72)))
def w_X5_canMissBehind_L7 (a1 : Int) (a2 : Int) (a3 : Int) (a4 : Int) (j48 : xS → Prop) (k7 : Int → xS → Prop) (v6_7 : Int) (S7 : xS) : Prop :=
  (((S7 5 0) ≤ v6_7 → j48 S7) ∧ (¬ (S7 5 0) ≤ v6_7 → w_X1_valueIn v6_7 a1 S7 (fun r26 S26 => ((¬ r26 = a2 → (xR (v6_7 + 1)) ∧ k7 (v6_7 + 1) S26) ∧ (r26 = a2 → w_X5_markIfWithout v6_7 a3 a4 S26 (fun S39 => (xR (v6_7 + 1)) ∧ k7 (v6_7 + 1) S39))))))
def w_X5_canMissBehind (a1 : Int) (a2 : Int) (a3 : Int) (a4 : Int) (a5 : Int) (S : xS) (Q : Int → xS → Prop) : Prop :=
  w_X5_clearMarks S (fun S1 => xJ0 (w_X5_canMissBehind_J48 a3 a4 a5 Q) (fun j48 => xL1 (w_X5_canMissBehind_L7 a1 a2 a3 a4 j48) 0 S1))
def w_X1_firstWith_L2 (a1 : Int) (a2 : Int) (Q : Int → xS → Prop) (k2 : Int → xS → Prop) (v3_2 : Int) (S2 : xS) : Prop :=
  (((S2 4 0) ≤ v3_2 → Q (-1) S2) ∧ (¬ (S2 4 0) ≤ v3_2 → w_X1_valueIn v3_2 a1 S2 (fun r13 S13 => ((¬ r13 = a2 → (xR (v3_2 + 1)) ∧ k2 (v3_2 + 1) S13) ∧ (r13 = a2 → Q v3_2 S13)))))
def w_X1_firstWith (a1 : Int) (a2 : Int) (S : xS) (Q : Int → xS → Prop) : Prop :=
  xL1 (w_X1_firstWith_L2 a1 a2 Q) 0 S
def w_X5_countComponents  (S : xS) (Q : Int → xS → Prop) : Prop :=
  w_X0_split (xfill S 23 2000 1) (fun S16 => Q (S16 9 1) S16)
def w_X6_countAllMoves_L4 (Q : Int → xS → Prop) (k4 : Int → Int → xS → Prop) (v1_4 : Int) (v3_4 : Int) (S4 : xS) : Prop :=
  (((S4 4 0) ≤ v3_4 → Q v1_4 S4) ∧ (¬ (S4 4 0) ≤ v3_4 → w_X6_countMoves v3_4 S4 (fun r18 S18 => (xRJ (v1_4 + r18)) ∧ (xR (v3_4 + 1)) ∧ k4 (v1_4 + r18) (v3_4 + 1) S18)))
def w_X6_countAllMoves  (S : xS) (Q : Int → xS → Prop) : Prop :=
  xL2 (w_X6_countAllMoves_L4 Q) 0 0 S

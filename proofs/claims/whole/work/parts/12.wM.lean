def w_X9_thrown  (S : xS) (Q : Int → xS → Prop) : Prop :=
  Q (S 54 0) S
def w_X9_drops  (S : xS) (Q : xS → Prop) : Prop :=
  Q (xup (xup S 54 0 0) 54 13 0)
def w_X9_fails (a1 : Int) (S : xS) (Q : Int → xS → Prop) : Prop :=
  Q 0 (xup S 54 0 a1)
def w_X9_addProcess  (S : xS) (Q : Int → xS → Prop) : Prop :=
  ((¬ (S 54 1) = 3 → w_X9_drops S (fun S15 => (xR ((S15 54 1) + 1)) ∧ (xR (((S15 54 1) + 1) - 1)) ∧ Q (((S15 54 1) + 1) - 1) (xup S15 54 1 ((S15 54 1) + 1)))) ∧ ((S 54 1) = 3 → w_X9_fails 1 S (fun r10 S10 => Q r10 S10)))
def w_X9_in (a0 : Int) (a1 : Int) (a2 : Int) (S : xS) (Q : Int → xS → Prop) : Prop :=
  ((a0 < a1 → Q 0 S) ∧ (¬ a0 < a1 → ((a2 < a0 → Q 0 S) ∧ (¬ a2 < a0 → Q 1 S))))
def w_X9_isProcess (a1 : Int) (S : xS) (Q : Int → xS → Prop) : Prop :=
  (xR ((S 54 1) - 1)) ∧ w_X9_in a1 0 ((S 54 1) - 1) S (fun r8 S8 => (r8 = 0 ∨ r8 = 1) ∧ Q r8 S8)
def w_X9_isOf (a0 : Int) (a1 : Int) (S : xS) (Q : Int → xS → Prop) : Prop :=
  w_X9_in a1 0 2 S (fun r3 S3 => ((¬ r3 = 0 → Q 1 S3) ∧ (r3 = 0 → (xR (3 + (2 * a0))) ∧ ((a1 = (3 + (2 * a0)) → Q 1 S3) ∧ (¬ a1 = (3 + (2 * a0)) → (xR (4 + (2 * a0))) ∧ ((¬ a1 = (4 + (2 * a0)) → Q 0 S3) ∧ (a1 = (4 + (2 * a0)) → Q 1 S3)))))))
def w_X9_isRight_J20 (a1 : Int) (a3 : Int) (a4 : Int) (Q : Int → xS → Prop) (S20 : xS) : Prop :=
  (xR ((S20 54 2) - 1)) ∧ w_X9_in a3 0 ((S20 54 2) - 1) S20 (fun r28 S28 => ((r28 = 0 → Q 0 S28) ∧ (¬ r28 = 0 → w_X9_isOf a1 a4 S28 (fun r37 S37 => ((r37 = 0 → Q 0 S37) ∧ (¬ r37 = 0 → Q 1 S37))))))
def w_X9_isRight_J79 (a1 : Int) (a3 : Int) (a4 : Int) (Q : Int → xS → Prop) (S79 : xS) : Prop :=
  w_X9_isOf a1 a3 S79 (fun r81 S81 => ((r81 = 0 → Q 0 S81) ∧ (¬ r81 = 0 → w_X9_in a4 0 3 S81 (fun r91 S91 => ((r91 = 0 → Q 0 S91) ∧ (¬ r91 = 0 → Q 1 S91))))))
def w_X9_isRight (a1 : Int) (a2 : Int) (a3 : Int) (a4 : Int) (S : xS) (Q : Int → xS → Prop) : Prop :=
  ((¬ a2 = 107 → xJ0 (w_X9_isRight_J20 a1 a3 a4 Q) (fun j20 => ((a2 = 119 → j20 S) ∧ (¬ a2 = 119 → ((¬ a2 = 114 → xJ0 (w_X9_isRight_J79 a1 a3 a4 Q) (fun j79 => ((a2 = 115 → j79 S) ∧ (¬ a2 = 115 → ((a2 = 105 → j79 S) ∧ (¬ a2 = 105 → ((a2 = 61 → j79 S) ∧ (¬ a2 = 61 → ((a2 = 33 → j79 S) ∧ (¬ a2 = 33 → ((¬ a2 = 97 → Q 0 S) ∧ (a2 = 97 → j79 S)))))))))))) ∧ (a2 = 114 → j20 S)))))) ∧ (a2 = 107 → Q 1 S))
def w_X9_addStep_J48 (Q : Int → xS → Prop) (S48 : xS) : Prop :=
  w_X9_fails 2 S48 (fun r50 S50 => Q r50 S50)
def w_X9_addStep (a1 : Int) (a2 : Int) (a3 : Int) (a4 : Int) (a5 : Int) (a6 : Int) (S : xS) (Q : Int → xS → Prop) : Prop :=
  w_X9_isProcess a1 S (fun r2 S2 => ((¬ r2 = 0 → w_X9_in a2 0 11 S2 (fun r18 S18 => xJ0 (w_X9_addStep_J48 Q) (fun j48 => ((r18 = 0 → j48 S18) ∧ (¬ r18 = 0 → w_X9_in a3 0 11 S18 (fun r28 S28 => ((r28 = 0 → j48 S28) ∧ (¬ r28 = 0 → w_X9_isRight a1 a4 a5 a6 S28 (fun r42 S42 => ((¬ r42 = 0 → (0 ≤ a1 ∧ a1 < 3) ∧ ((¬ (S42 55 a1) = 14 → w_X9_drops S42 (fun S72 => (0 ≤ ((14 * a1) + (S72 55 a1)) ∧ ((14 * a1) + (S72 55 a1)) < 42) ∧ (xR ((S72 55 a1) + 1)) ∧ (xR (((xup (xup (xup (xup (xup (xup S72 56 ((14 * a1) + (S72 55 a1)) a2) 57 ((14 * a1) + (S72 55 a1)) a3) 58 ((14 * a1) + (S72 55 a1)) a4) 59 ((14 * a1) + (S72 55 a1)) a5) 60 ((14 * a1) + (S72 55 a1)) a6) 55 a1 ((S72 55 a1) + 1)) 55 a1) - 1)) ∧ Q (((xup (xup (xup (xup (xup (xup S72 56 ((14 * a1) + (S72 55 a1)) a2) 57 ((14 * a1) + (S72 55 a1)) a3) 58 ((14 * a1) + (S72 55 a1)) a4) 59 ((14 * a1) + (S72 55 a1)) a5) 60 ((14 * a1) + (S72 55 a1)) a6) 55 a1 ((S72 55 a1) + 1)) 55 a1) - 1) (xup (xup (xup (xup (xup (xup S72 56 ((14 * a1) + (S72 55 a1)) a2) 57 ((14 * a1) + (S72 55 a1)) a3) 58 ((14 * a1) + (S72 55 a1)) a4) 59 ((14 * a1) + (S72 55 a1)) a5) 60 ((14 * a1) + (S72 55 a1)) a6) 55 a1 ((S72 55 a1) + 1)))) ∧ ((S42 55 a1) = 14 → w_X9_fails 3 S42 (fun r67 S67 => Q r67 S67)))) ∧ (r42 = 0 → j48 S42))))))))))) ∧ (r2 = 0 → w_X9_fails 1 S2 (fun r10 S10 => Q r10 S10))))
def w_X9_addChannel (a1 : Int) (S : xS) (Q : Int → xS → Prop) : Prop :=
  w_X9_in a1 0 2 S (fun r3 S3 => ((¬ r3 = 0 → ((¬ (S3 54 2) = 2 → w_X9_drops S3 (fun S30 => (0 ≤ (S30 54 2) ∧ (S30 54 2) < 2) ∧ (xR ((S30 54 2) + 1)) ∧ (xR (((S30 54 2) + 1) - 1)) ∧ Q (((S30 54 2) + 1) - 1) (xup (xup S30 61 (S30 54 2) a1) 54 2 ((S30 54 2) + 1)))) ∧ ((S3 54 2) = 2 → w_X9_fails 2 S3 (fun r25 S25 => Q r25 S25)))) ∧ (r3 = 0 → w_X9_fails 1 S3 (fun r11 S11 => Q r11 S11))))
def w_X9_setStart_J19 (Q : Int → xS → Prop) (S19 : xS) : Prop :=
  w_X9_fails 1 S19 (fun r21 S21 => Q r21 S21)
def w_X9_setStart (a1 : Int) (a2 : Int) (S : xS) (Q : Int → xS → Prop) : Prop :=
  w_X9_in a1 0 8 S (fun r4 S4 => xJ0 (w_X9_setStart_J19 Q) (fun j19 => ((r4 = 0 → j19 S4) ∧ (¬ r4 = 0 → w_X9_in a2 0 3 S4 (fun r13 S13 => ((¬ r13 = 0 → w_X9_drops S13 (fun S26 => (0 ≤ a1 ∧ a1 < 9) ∧ Q (S26 62 a1) (xup S26 62 a1 a2))) ∧ (r13 = 0 → j19 S13)))))))
def w_X9_setMarks_J80 (a1 : Int) (a2 : Int) (a3 : Int) (a4 : Int) (Q : Int → xS → Prop) (t0_80 : Int) (S80 : xS) : Prop :=
  (a3 = 0 ∨ a3 = 1) ∧ (a4 = 0 ∨ a4 = 1) ∧ (t0_80 = 0 ∨ t0_80 = 1) ∧ Q t0_80 (xup (xup S80 65 ((12 * a1) + a2) a3) 66 ((12 * a1) + a2) a4)
def w_X9_setMarks_J75 (j80 : Int → xS → Prop) (S75 : xS) : Prop :=
  j80 1 S75
def w_X9_setMarks_J28 (a1 : Int) (a2 : Int) (a3 : Int) (a4 : Int) (Q : Int → xS → Prop) (t0_28 : Int) (S28 : xS) : Prop :=
  ((t0_28 ≤ 0 → w_X9_drops (xup S28 54 0 t0_28) (fun S41 => (0 ≤ ((12 * a1) + a2) ∧ ((12 * a1) + a2) < 36) ∧ xJ1 (w_X9_setMarks_J80 a1 a2 a3 a4 Q) (fun j80 => xJ0 (w_X9_setMarks_J75 j80) (fun j75 => ((¬ (S41 65 ((12 * a1) + a2)) = a3 → j75 S41) ∧ ((S41 65 ((12 * a1) + a2)) = a3 → (((S41 66 ((12 * a1) + a2)) = a4 → j80 0 S41) ∧ (¬ (S41 66 ((12 * a1) + a2)) = a4 → j75 S41)))))))) ∧ (¬ t0_28 ≤ 0 → Q 0 (xup S28 54 0 t0_28)))
def w_X9_setMarks (a1 : Int) (a2 : Int) (a3 : Int) (a4 : Int) (S : xS) (Q : Int → xS → Prop) : Prop :=
  w_X9_isProcess a1 S (fun r3 S3 => xJ1 (w_X9_setMarks_J28 a1 a2 a3 a4 Q) (fun j28 => ((¬ r3 = 0 → w_X9_in a2 0 11 S3 (fun r17 S17 => ((¬ r17 = 0 → j28 0 S17) ∧ (r17 = 0 → j28 2 S17)))) ∧ (r3 = 0 → j28 1 S3))))
def w_X9_addInvariant_J19 (Q : Int → xS → Prop) (S19 : xS) : Prop :=
  w_X9_fails 1 S19 (fun r21 S21 => Q r21 S21)
def w_X9_addInvariant (a1 : Int) (a2 : Int) (S : xS) (Q : Int → xS → Prop) : Prop :=
  w_X9_in a1 0 8 S (fun r4 S4 => xJ0 (w_X9_addInvariant_J19 Q) (fun j19 => ((r4 = 0 → j19 S4) ∧ (¬ r4 = 0 → w_X9_in a2 0 3 S4 (fun r13 S13 => ((¬ r13 = 0 → ((¬ (S13 54 3) = 4 → w_X9_drops S13 (fun S40 => (0 ≤ (S40 54 3) ∧ (S40 54 3) < 4) ∧ (xR ((S40 54 3) + 1)) ∧ Q ((S40 54 3) + 1) (xup (xup (xup S40 63 (S40 54 3) a1) 64 (S40 54 3) a2) 54 3 ((S40 54 3) + 1)))) ∧ ((S13 54 3) = 4 → w_X9_fails 2 S13 (fun r35 S35 => Q r35 S35)))) ∧ (r13 = 0 → j19 S13)))))))
def w_X9_swapped (a0 : Int) (a1 : Int) (a2 : Int) (S : xS) (Q : Int → xS → Prop) : Prop :=
  ((3 ≤ a0 → (xR ((((a0 - 3) - (2 * a1)) + 3) + (2 * a2))) ∧ Q ((((a0 - 3) - (2 * a1)) + 3) + (2 * a2)) S) ∧ (¬ 3 ≤ a0 → Q a0 S))
def w_X9_isLikeStep_J119 (a1 : Int) (a2 : Int) (a3 : Int) (Q : Int → xS → Prop) (S119 : xS) : Prop :=
  ((¬ (S119 59 ((14 * a1) + a3)) = (S119 59 ((14 * a2) + a3)) → Q 0 S119) ∧ ((S119 59 ((14 * a1) + a3)) = (S119 59 ((14 * a2) + a3)) → w_X9_swapped (S119 60 ((14 * a1) + a3)) a1 a2 S119 (fun r145 S145 => ((¬ r145 = (S145 60 ((14 * a2) + a3)) → Q 0 S145) ∧ (r145 = (S145 60 ((14 * a2) + a3)) → Q 1 S145)))))
def w_X9_isLikeStep_J72 (a1 : Int) (a2 : Int) (a3 : Int) (Q : Int → xS → Prop) (t0_72 : Int) (S72 : xS) : Prop :=
  ((¬ t0_72 = 0 → ((¬ (S72 58 ((14 * a1) + a3)) = 107 → xJ0 (w_X9_isLikeStep_J119 a1 a2 a3 Q) (fun j119 => (((S72 58 ((14 * a1) + a3)) = 119 → j119 S72) ∧ (¬ (S72 58 ((14 * a1) + a3)) = 119 → ((¬ (S72 58 ((14 * a1) + a3)) = 114 → w_X9_swapped (S72 59 ((14 * a1) + a3)) a1 a2 S72 (fun r173 S173 => ((¬ r173 = (S173 59 ((14 * a2) + a3)) → Q 0 S173) ∧ (r173 = (S173 59 ((14 * a2) + a3)) → ((¬ (S173 60 ((14 * a1) + a3)) = (S173 60 ((14 * a2) + a3)) → Q 0 S173) ∧ ((S173 60 ((14 * a1) + a3)) = (S173 60 ((14 * a2) + a3)) → Q 1 S173)))))) ∧ ((S72 58 ((14 * a1) + a3)) = 114 → j119 S72)))))) ∧ ((S72 58 ((14 * a1) + a3)) = 107 → Q 1 S72))) ∧ (t0_72 = 0 → Q 0 S72))
def w_X9_isLikeStep_J71 (j72 : Int → xS → Prop) (S71 : xS) : Prop :=
  j72 0 S71
def w_X9_isLikeStep (a1 : Int) (a2 : Int) (a3 : Int) (S : xS) (Q : Int → xS → Prop) : Prop :=
  (0 ≤ ((14 * a1) + a3) ∧ ((14 * a1) + a3) < 42) ∧ (0 ≤ ((14 * a2) + a3) ∧ ((14 * a2) + a3) < 42) ∧ xJ1 (w_X9_isLikeStep_J72 a1 a2 a3 Q) (fun j72 => xJ0 (w_X9_isLikeStep_J71 j72) (fun j71 => ((¬ (S 56 ((14 * a1) + a3)) = (S 56 ((14 * a2) + a3)) → j71 S) ∧ ((S 56 ((14 * a1) + a3)) = (S 56 ((14 * a2) + a3)) → ((¬ (S 57 ((14 * a1) + a3)) = (S 57 ((14 * a2) + a3)) → j71 S) ∧ ((S 57 ((14 * a1) + a3)) = (S 57 ((14 * a2) + a3)) → ((¬ (S 58 ((14 * a1) + a3)) = (S 58 ((14 * a2) + a3)) → j71 S) ∧ ((S 58 ((14 * a1) + a3)) = (S 58 ((14 * a2) + a3)) → j72 1 S))))))))
def w_X9_areLike_J113 (a1 : Int) (a2 : Int) (Q : Int → xS → Prop) (S113 : xS) : Prop :=
  (0 ≤ (3 + (2 * a1)) ∧ (3 + (2 * a1)) < 9) ∧ (0 ≤ (3 + (2 * a2)) ∧ (3 + (2 * a2)) < 9) ∧ ((¬ (S113 62 (3 + (2 * a1))) = (S113 62 (3 + (2 * a2))) → Q 0 S113) ∧ ((S113 62 (3 + (2 * a1))) = (S113 62 (3 + (2 * a2))) → (0 ≤ (4 + (2 * a1)) ∧ (4 + (2 * a1)) < 9) ∧ (0 ≤ (4 + (2 * a2)) ∧ (4 + (2 * a2)) < 9) ∧ ((¬ (S113 62 (4 + (2 * a1))) = (S113 62 (4 + (2 * a2))) → Q 0 S113) ∧ ((S113 62 (4 + (2 * a1))) = (S113 62 (4 + (2 * a2))) → Q 1 S113))))
def w_X9_areLike_L49 (a1 : Int) (a2 : Int) (Q : Int → xS → Prop) (j113 : xS → Prop) (k49 : Int → xS → Prop) (v3_49 : Int) (S49 : xS) : Prop :=
  ((12 ≤ v3_49 → j113 S49) ∧ (¬ 12 ≤ v3_49 → (0 ≤ ((12 * a1) + v3_49) ∧ ((12 * a1) + v3_49) < 36) ∧ (0 ≤ ((12 * a2) + v3_49) ∧ ((12 * a2) + v3_49) < 36) ∧ ((¬ (S49 65 ((12 * a1) + v3_49)) = (S49 65 ((12 * a2) + v3_49)) → Q 0 S49) ∧ ((S49 65 ((12 * a1) + v3_49)) = (S49 65 ((12 * a2) + v3_49)) → (((S49 66 ((12 * a1) + v3_49)) = (S49 66 ((12 * a2) + v3_49)) → (xR (v3_49 + 1)) ∧ k49 (v3_49 + 1) S49) ∧ (¬ (S49 66 ((12 * a1) + v3_49)) = (S49 66 ((12 * a2) + v3_49)) → Q 0 S49))))))
def w_X9_areLike_J47 (a1 : Int) (a2 : Int) (Q : Int → xS → Prop) (S47 : xS) : Prop :=
  xJ0 (w_X9_areLike_J113 a1 a2 Q) (fun j113 => xL1 (w_X9_areLike_L49 a1 a2 Q j113) 0 S47)
def w_X9_areLike_L19 (a1 : Int) (a2 : Int) (Q : Int → xS → Prop) (j47 : xS → Prop) (k19 : Int → xS → Prop) (v3_19 : Int) (S19 : xS) : Prop :=
  (((S19 55 a1) ≤ v3_19 → j47 S19) ∧ (¬ (S19 55 a1) ≤ v3_19 → w_X9_isLikeStep a1 a2 v3_19 S19 (fun r33 S33 => ((¬ r33 = 0 → (xR (v3_19 + 1)) ∧ k19 (v3_19 + 1) S33) ∧ (r33 = 0 → Q 0 S33)))))
def w_X9_areLike (a1 : Int) (a2 : Int) (S : xS) (Q : Int → xS → Prop) : Prop :=
  (0 ≤ a1 ∧ a1 < 3) ∧ (0 ≤ a2 ∧ a2 < 3) ∧ (((S 55 a1) = (S 55 a2) → xJ0 (w_X9_areLike_J47 a1 a2 Q) (fun j47 => xL1 (w_X9_areLike_L19 a1 a2 Q j47) 0 S)) ∧ (¬ (S 55 a1) = (S 55 a2) → Q 0 S))
def w_X9_areAlike_J22 (a1 : Int) (a2 : Int) (Q : Int → xS → Prop) (t0_22 : Int) (S22 : xS) : Prop :=
  ((¬ t0_22 = 0 → Q 0 (xup S22 54 0 t0_22)) ∧ (t0_22 = 0 → w_X9_areLike a1 a2 (xup S22 54 0 t0_22) (fun r35 S35 => ((r35 = 0 → Q 0 S35) ∧ (¬ r35 = 0 → Q 1 S35)))))
def w_X9_areAlike_J21 (j22 : Int → xS → Prop) (S21 : xS) : Prop :=
  j22 1 S21
def w_X9_areAlike (a1 : Int) (a2 : Int) (S : xS) (Q : Int → xS → Prop) : Prop :=
  w_X9_isProcess a1 S (fun r3 S3 => xJ1 (w_X9_areAlike_J22 a1 a2 Q) (fun j22 => xJ0 (w_X9_areAlike_J21 j22) (fun j21 => ((r3 = 0 → j21 S3) ∧ (¬ r3 = 0 → w_X9_isProcess a2 S3 (fun r11 S11 => ((r11 = 0 → j21 S11) ∧ (¬ r11 = 0 → j22 0 S11))))))))
def w_X9_codes_L90 (Q : Int → xS → Prop) (k90 : Int → Int → xS → Prop) (v1_90 : Int) (v3_90 : Int) (S90 : xS) : Prop :=
  ((2 ≤ v3_90 → Q v1_90 S90) ∧ (¬ 2 ≤ v3_90 → (0 ≤ v3_90 ∧ v3_90 < 2) ∧ (0 ≤ (2 * v3_90) ∧ (2 * v3_90) < 4) ∧ (0 ≤ ((2 * v3_90) + 1) ∧ ((2 * v3_90) + 1) < 4) ∧ (xRJ ((((((v1_90 * 3) + (S90 81 v3_90)) * 4) + (S90 82 (2 * v3_90))) * 4) + (S90 82 ((2 * v3_90) + 1)))) ∧ (xR (v3_90 + 1)) ∧ k90 ((((((v1_90 * 3) + (S90 81 v3_90)) * 4) + (S90 82 (2 * v3_90))) * 4) + (S90 82 ((2 * v3_90) + 1))) (v3_90 + 1) S90))
def w_X9_codes_J88 (Q : Int → xS → Prop) (v1_88 : Int) (S88 : xS) : Prop :=
  xL2 (w_X9_codes_L90 Q) v1_88 0 S88
def w_X9_codes_L63 (j88 : Int → xS → Prop) (k63 : Int → Int → xS → Prop) (v1_63 : Int) (v3_63 : Int) (S63 : xS) : Prop :=
  ((3 ≤ v3_63 → j88 v1_63 S63) ∧ (¬ 3 ≤ v3_63 → (0 ≤ v3_63 ∧ v3_63 < 9) ∧ (xRJ ((v1_63 * 4) + (S63 80 v3_63))) ∧ (xR (v3_63 + 1)) ∧ k63 ((v1_63 * 4) + (S63 80 v3_63)) (v3_63 + 1) S63))
def w_X9_codes_J61 (Q : Int → xS → Prop) (v1_61 : Int) (S61 : xS) : Prop :=
  xJ1 (w_X9_codes_J88 Q) (fun j88 => xL2 (w_X9_codes_L63 j88) v1_61 0 S61)
def w_X9_codes_L4 (j61 : Int → xS → Prop) (k4 : Int → Int → xS → Prop) (v1_4 : Int) (v3_4 : Int) (S4 : xS) : Prop :=
  ((3 ≤ v3_4 → j61 v1_4 S4) ∧ (¬ 3 ≤ v3_4 → (0 ≤ v3_4 ∧ v3_4 < 3) ∧ (0 ≤ (3 + (2 * v3_4)) ∧ (3 + (2 * v3_4)) < 9) ∧ (0 ≤ (4 + (2 * v3_4)) ∧ (4 + (2 * v3_4)) < 9) ∧ (xRJ ((((((v1_4 * 12) + (S4 79 v3_4)) * 4) + (S4 80 (3 + (2 * v3_4)))) * 4) + (S4 80 (4 + (2 * v3_4))))) ∧ (xR (v3_4 + 1)) ∧ k4 ((((((v1_4 * 12) + (S4 79 v3_4)) * 4) + (S4 80 (3 + (2 * v3_4)))) * 4) + (S4 80 (4 + (2 * v3_4)))) (v3_4 + 1) S4))
def w_X9_codes  (S : xS) (Q : Int → xS → Prop) : Prop :=
  xJ1 (w_X9_codes_J61 Q) (fun j61 => xL2 (w_X9_codes_L4 j61) 0 0 S)
def w_X9_exchanges (a1 : Int) (a2 : Int) (S : xS) (Q : xS → Prop) : Prop :=
  (0 ≤ a1 ∧ a1 < 3) ∧ (0 ≤ (3 + (2 * a1)) ∧ (3 + (2 * a1)) < 9) ∧ (0 ≤ (4 + (2 * a1)) ∧ (4 + (2 * a1)) < 9) ∧ (0 ≤ a2 ∧ a2 < 3) ∧ (0 ≤ (3 + (2 * a2)) ∧ (3 + (2 * a2)) < 9) ∧ (0 ≤ (4 + (2 * a2)) ∧ (4 + (2 * a2)) < 9) ∧ Q (xup (xup (xup (xup (xup (xup S 79 a1 (S 79 a2)) 80 (3 + (2 * a1)) (S 80 (3 + (2 * a2)))) 80 (4 + (2 * a1)) ((xup (xup S 79 a1 (S 79 a2)) 80 (3 + (2 * a1)) (S 80 (3 + (2 * a2)))) 80 (4 + (2 * a2)))) 79 a2 (S 79 a1)) 80 (3 + (2 * a2)) (S 80 (3 + (2 * a1)))) 80 (4 + (2 * a2)) (S 80 (4 + (2 * a1))))
def w_X9_lessens (a1 : Int) (a2 : Int) (S : xS) (Q : xS → Prop) : Prop :=
  (((S 54 1) ≤ a2 → Q S) ∧ (¬ (S 54 1) ≤ a2 → w_X9_areLike a1 a2 S (fun r11 S11 => ((¬ r11 = 0 → w_X9_codes S11 (fun r19 S19 => w_X9_exchanges a1 a2 S19 (fun S26 => w_X9_codes S26 (fun r30 S30 => ((r30 ≤ r19 → Q S30) ∧ (¬ r30 ≤ r19 → w_X9_exchanges a1 a2 S30 (fun S41 => Q S41))))))) ∧ (r11 = 0 → Q S11)))))
def w_X9_found_J40 (Q : Int → xS → Prop) (S40 : xS) : Prop :=
  w_X9_codes S40 (fun r41 S41 => Q r41 S41)
def w_X9_found_L2 (j40 : xS → Prop) (k2 : Int → xS → Prop) (v1_2 : Int) (S2 : xS) : Prop :=
  ((3 ≤ v1_2 → j40 S2) ∧ (¬ 3 ≤ v1_2 → ((¬ (S2 54 4) = 115 → j40 S2) ∧ ((S2 54 4) = 115 → w_X9_lessens 0 1 S2 (fun S19 => w_X9_lessens 0 2 S19 (fun S25 => w_X9_lessens 1 2 S25 (fun S31 => (xR (v1_2 + 1)) ∧ k2 (v1_2 + 1) S31)))))))
def w_X9_found  (S : xS) (Q : Int → xS → Prop) : Prop :=
  xJ0 (w_X9_found_J40 Q) (fun j40 => xL1 (w_X9_found_L2 j40) 0 S)
def w_X9_slotOf (a0 : Int) (S : xS) (Q : Int → xS → Prop) : Prop :=
  (xRJ (a0 * 7919)) ∧ (0 ≤ (a0 * 7919)) ∧ (xR ((a0 * 7919) % 8192)) ∧ Q ((a0 * 7919) % 8192) S
def w_X9_discovers_J187 (Q : xS → Prop) (S187 : xS) : Prop :=
  ((0 < (S187 54 7) → Q (xup S187 54 14 1)) ∧ (¬ 0 < (S187 54 7) → ((¬ (S187 54 5) = 2000 → Q (xup S187 54 14 0)) ∧ ((S187 54 5) = 2000 → Q (xup S187 54 14 1)))))
def w_X9_discovers_L124 (j187 : xS → Prop) (k124 : Int → xS → Prop) (v6_124 : Int) (S124 : xS) : Prop :=
  (((S124 54 3) ≤ v6_124 → j187 S124) ∧ (¬ (S124 54 3) ≤ v6_124 → ((¬ (S124 54 7) = 0 → j187 S124) ∧ ((S124 54 7) = 0 → (0 ≤ v6_124 ∧ v6_124 < 4) ∧ (0 ≤ (S124 63 v6_124) ∧ (S124 63 v6_124) < 9) ∧ (((S124 80 (S124 63 v6_124)) = (S124 64 v6_124) → (xR ((S124 54 5) - 1)) ∧ (xR (v6_124 + 1)) ∧ k124 (v6_124 + 1) (xup (xup S124 54 7 105) 54 8 ((S124 54 5) - 1))) ∧ (¬ (S124 80 (S124 63 v6_124)) = (S124 64 v6_124) → (xR (v6_124 + 1)) ∧ k124 (v6_124 + 1) S124))))))
def w_X9_discovers_J110 (Q : xS → Prop) (S29 : xS) (t0_110 : Int) (S110 : xS) : Prop :=
  (xR ((S110 54 5) + 1)) ∧ xJ0 (w_X9_discovers_J187 Q) (fun j187 => xL1 (w_X9_discovers_L124 j187) 0 (xup (xup S110 70 (S29 54 5) t0_110) 54 5 ((S110 54 5) + 1)))
def w_X9_discovers_J29 (a1 : Int) (a3 : Int) (a4 : Int) (Q : xS → Prop) (v5_29 : Int) (S29 : xS) : Prop :=
  (xR ((S29 54 5) + 1)) ∧ (0 ≤ v5_29 ∧ v5_29 < 8192) ∧ (0 ≤ a1) ∧ (0 ≤ (a1 % 509) ∧ (a1 % 509) < 509) ∧ (0 ≤ (S29 54 5) ∧ (S29 54 5) < 2000) ∧ xJ1 (w_X9_discovers_J110 Q S29) (fun j110 => ((¬ a3 = (-1) → (0 ≤ a3 ∧ a3 < 2000) ∧ (xR ((S29 70 a3) + 1)) ∧ j110 ((S29 70 a3) + 1) (xup (xup (xup (xup (xup S29 71 v5_29 ((S29 54 5) + 1)) 72 (a1 % 509) 1) 67 (S29 54 5) a1) 68 (S29 54 5) a3) 69 (S29 54 5) a4)) ∧ (a3 = (-1) → j110 0 (xup (xup (xup (xup (xup S29 71 v5_29 ((S29 54 5) + 1)) 72 (a1 % 509) 1) 67 (S29 54 5) a1) 68 (S29 54 5) a3) 69 (S29 54 5) a4))))
def w_X9_discovers_L6 (j29 : Int → xS → Prop) (k6 : Int → xS → Prop) (v5_6 : Int) (S6 : xS) : Prop :=
  (0 ≤ v5_6 ∧ v5_6 < 8192) ∧ (((S6 71 v5_6) ≤ 0 → j29 v5_6 S6) ∧ (¬ (S6 71 v5_6) ≤ 0 → (xR (v5_6 + 1)) ∧ (0 ≤ (v5_6 + 1)) ∧ k6 ((v5_6 + 1) % 8192) S6))
def w_X9_discovers (a1 : Int) (a3 : Int) (a4 : Int) (S : xS) (Q : xS → Prop) : Prop :=
  w_X9_slotOf a1 S (fun r1 S1 => xJ1 (w_X9_discovers_J29 a1 a3 a4 Q) (fun j29 => xL1 (w_X9_discovers_L6 j29) r1 S1))
def w_X9_verdictNow  (S : xS) (Q : Int → xS → Prop) : Prop :=
  (((S 54 7) ≤ 0 → (((S 54 4) = 104 → Q 63 S) ∧ (¬ (S 54 4) = 104 → (((S 54 14) = 0 → Q 63 S) ∧ (¬ (S 54 14) = 0 → ((2000 ≤ (S 54 5) → Q 63 S) ∧ (¬ 2000 ≤ (S 54 5) → Q 110 S))))))) ∧ (¬ (S 54 7) ≤ 0 → Q 102 S))
def w_X9_isBarred_L53 (Q : Int → xS → Prop) (k2 : Int → xS → Prop) (v1_2 : Int) (t0_34 : Int) (k53 : Int → xS → Prop) (v3_53 : Int) (S53 : xS) : Prop :=
  (((S53 54 1) ≤ v3_53 → (xR (v1_2 + 1)) ∧ k2 (v1_2 + 1) S53) ∧ (¬ (S53 54 1) ≤ v3_53 → ((v3_53 = t0_34 → (xR (v3_53 + 1)) ∧ k53 (v3_53 + 1) S53) ∧ (¬ v3_53 = t0_34 → w_X9_areLike t0_34 v3_53 S53 (fun r69 S69 => ((r69 = 0 → (xR (v3_53 + 1)) ∧ k53 (v3_53 + 1) S69) ∧ (¬ r69 = 0 → Q 1 S69)))))))
def w_X9_isBarred_J34 (Q : Int → xS → Prop) (k2 : Int → xS → Prop) (v1_2 : Int) (t0_34 : Int) (S34 : xS) : Prop :=
  ((t0_34 = (-1) → (xR (v1_2 + 1)) ∧ k2 (v1_2 + 1) S34) ∧ (¬ t0_34 = (-1) → ((t0_34 < (S34 54 1) → xL1 (w_X9_isBarred_L53 Q k2 v1_2 t0_34) 0 S34) ∧ (¬ t0_34 < (S34 54 1) → (xR (v1_2 + 1)) ∧ k2 (v1_2 + 1) S34))))
def w_X9_isBarred_L2 (Q : Int → xS → Prop) (k2 : Int → xS → Prop) (v1_2 : Int) (S2 : xS) : Prop :=
  (((S2 54 3) ≤ v1_2 → Q 0 S2) ∧ (¬ (S2 54 3) ≤ v1_2 → (0 ≤ v1_2 ∧ v1_2 < 4) ∧ xJ1 (w_X9_isBarred_J34 Q k2 v1_2) (fun j34 => ((3 ≤ (S2 63 v1_2) → (xR ((S2 63 v1_2) - 3)) ∧ (0 ≤ ((S2 63 v1_2) - 3)) ∧ j34 (((S2 63 v1_2) - 3) / 2) S2) ∧ (¬ 3 ≤ (S2 63 v1_2) → j34 (-1) S2)))))
def w_X9_isBarred  (S : xS) (Q : Int → xS → Prop) : Prop :=
  xL1 (w_X9_isBarred_L2 Q) 0 S
def w_X9_begin_J229 (Q : Int → xS → Prop) (S229 : xS) : Prop :=
  w_X9_found S229 (fun r231 S231 => w_X9_discovers r231 (-1) 0 S231 (fun S236 => w_X9_verdictNow S236 (fun r240 S240 => (0 ≤ (r240 % 65536) ∧ (r240 % 65536) < 65536) ∧ Q (r240 % 65536) S240)))
def w_X9_begin_L211 (j229 : xS → Prop) (k211 : Int → xS → Prop) (v2_211 : Int) (S211 : xS) : Prop :=
  ((4 ≤ v2_211 → j229 S211) ∧ (¬ 4 ≤ v2_211 → (0 ≤ v2_211 ∧ v2_211 < 4) ∧ (xR (v2_211 + 1)) ∧ k211 (v2_211 + 1) (xup S211 82 v2_211 0)))
def w_X9_begin_J209 (Q : Int → xS → Prop) (S209 : xS) : Prop :=
  xJ0 (w_X9_begin_J229 Q) (fun j229 => xL1 (w_X9_begin_L211 j229) 0 S209)
def w_X9_begin_L191 (j209 : xS → Prop) (k191 : Int → xS → Prop) (v2_191 : Int) (S191 : xS) : Prop :=
  ((2 ≤ v2_191 → j209 S191) ∧ (¬ 2 ≤ v2_191 → (0 ≤ v2_191 ∧ v2_191 < 2) ∧ (xR (v2_191 + 1)) ∧ k191 (v2_191 + 1) (xup S191 81 v2_191 0)))
def w_X9_begin_J189 (Q : Int → xS → Prop) (S189 : xS) : Prop :=
  xJ0 (w_X9_begin_J209 Q) (fun j209 => xL1 (w_X9_begin_L191 j209) 0 S189)
def w_X9_begin_L165 (j189 : xS → Prop) (k165 : Int → xS → Prop) (v2_165 : Int) (S165 : xS) : Prop :=
  ((9 ≤ v2_165 → j189 S165) ∧ (¬ 9 ≤ v2_165 → (0 ≤ v2_165 ∧ v2_165 < 9) ∧ (xR (v2_165 + 1)) ∧ k165 (v2_165 + 1) (xup S165 80 v2_165 (S165 62 v2_165))))
def w_X9_begin_J163 (Q : Int → xS → Prop) (S163 : xS) : Prop :=
  xJ0 (w_X9_begin_J189 Q) (fun j189 => xL1 (w_X9_begin_L165 j189) 0 S163)
def w_X9_begin_L145 (j163 : xS → Prop) (k145 : Int → xS → Prop) (v2_145 : Int) (S145 : xS) : Prop :=
  ((3 ≤ v2_145 → j163 S145) ∧ (¬ 3 ≤ v2_145 → (0 ≤ v2_145 ∧ v2_145 < 3) ∧ (xR (v2_145 + 1)) ∧ k145 (v2_145 + 1) (xup S145 79 v2_145 0)))
def w_X9_begin_J143 (Q : Int → xS → Prop) (S143 : xS) : Prop :=
  xJ0 (w_X9_begin_J163 Q) (fun j163 => xL1 (w_X9_begin_L145 j163) 0 S143)
def w_X9_begin_L123 (j143 : xS → Prop) (k123 : Int → xS → Prop) (v2_123 : Int) (S123 : xS) : Prop :=
  ((509 ≤ v2_123 → j143 S123) ∧ (¬ 509 ≤ v2_123 → (0 ≤ v2_123 ∧ v2_123 < 509) ∧ (xR (v2_123 + 1)) ∧ k123 (v2_123 + 1) (xup S123 72 v2_123 0)))
def w_X9_begin_J121 (Q : Int → xS → Prop) (S121 : xS) : Prop :=
  xJ0 (w_X9_begin_J143 Q) (fun j143 => xL1 (w_X9_begin_L123 j143) 0 S121)
def w_X9_begin_L101 (j121 : xS → Prop) (k101 : Int → xS → Prop) (v2_101 : Int) (S101 : xS) : Prop :=
  ((8192 ≤ v2_101 → j121 S101) ∧ (¬ 8192 ≤ v2_101 → (0 ≤ v2_101 ∧ v2_101 < 8192) ∧ (xR (v2_101 + 1)) ∧ k101 (v2_101 + 1) (xup S101 71 v2_101 0)))
def w_X9_begin_J47 (a1 : Int) (Q : Int → xS → Prop) (t0_47 : Int) (S47 : xS) : Prop :=
  ((t0_47 ≤ 0 → xJ0 (w_X9_begin_J121 Q) (fun j121 => xL1 (w_X9_begin_L101 j121) 0 (xup (xup (xup (xup (xup (xup (xup (xup (xup S47 54 0 t0_47) 54 4 a1) 54 13 1) 54 14 0) 54 5 0) 54 6 0) 54 7 0) 54 12 0) 54 11 0))) ∧ (¬ t0_47 ≤ 0 → Q 0 (xup S47 54 0 t0_47)))
def w_X9_begin_J29 (a1 : Int) (j47 : Int → xS → Prop) (S29 : xS) : Prop :=
  ((¬ a1 = 115 → j47 0 S29) ∧ (a1 = 115 → w_X9_isBarred S29 (fun r36 S36 => ((r36 = 0 → j47 0 S36) ∧ (¬ r36 = 0 → j47 2 S36)))))
def w_X9_begin (a1 : Int) (S : xS) (Q : Int → xS → Prop) : Prop :=
  xJ1 (w_X9_begin_J47 a1 Q) (fun j47 => xJ0 (w_X9_begin_J29 a1 j47) (fun j29 => ((a1 = 97 → j29 S) ∧ (¬ a1 = 97 → ((a1 = 112 → j29 S) ∧ (¬ a1 = 112 → ((a1 = 115 → j29 S) ∧ (¬ a1 = 115 → ((a1 = 104 → j29 S) ∧ (¬ a1 = 104 → j47 1 S))))))))))
def w_X9_isThere  (S : xS) (Q : Int → xS → Prop) : Prop :=
  (((S 54 13) = 0 → (S 54 13 = 0 ∨ S 54 13 = 1) ∧ Q (S 54 13) (xup S 54 0 1)) ∧ (¬ (S 54 13) = 0 → (S 54 13 = 0 ∨ S 54 13 = 1) ∧ Q (S 54 13) (xup S 54 0 0)))
def w_X9_opens_L111 (Q : xS → Prop) (k111 : Int → Int → xS → Prop) (v3_111 : Int) (v5_111 : Int) (S111 : xS) : Prop :=
  ((v5_111 < 0 → Q S111) ∧ (¬ v5_111 < 0 → (0 ≤ v3_111) ∧ (xR (v3_111 % 4)) ∧ (0 ≤ (4 + (2 * v5_111)) ∧ (4 + (2 * v5_111)) < 9) ∧ (xR ((v3_111 / 4) % 4)) ∧ (0 ≤ (3 + (2 * v5_111)) ∧ (3 + (2 * v5_111)) < 9) ∧ (xR ((v3_111 / 16) % 12)) ∧ (0 ≤ v5_111 ∧ v5_111 < 3) ∧ (xR (v5_111 + (-1))) ∧ k111 (v3_111 / 192) (v5_111 + (-1)) (xup (xup (xup S111 76 (4 + (2 * v5_111)) (v3_111 % 4)) 76 (3 + (2 * v5_111)) ((v3_111 / 4) % 4)) 75 v5_111 ((v3_111 / 16) % 12))))
def w_X9_opens_J108 (Q : xS → Prop) (v3_108 : Int) (S108 : xS) : Prop :=
  xL2 (w_X9_opens_L111 Q) v3_108 2 S108
def w_X9_opens_L78 (j108 : Int → xS → Prop) (k78 : Int → Int → xS → Prop) (v3_78 : Int) (v5_78 : Int) (S78 : xS) : Prop :=
  ((v5_78 < 0 → j108 v3_78 S78) ∧ (¬ v5_78 < 0 → (0 ≤ v3_78) ∧ (xR (v3_78 % 4)) ∧ (0 ≤ v5_78 ∧ v5_78 < 9) ∧ (xR (v5_78 + (-1))) ∧ k78 (v3_78 / 4) (v5_78 + (-1)) (xup S78 76 v5_78 (v3_78 % 4))))
def w_X9_opens_J75 (Q : xS → Prop) (v3_75 : Int) (S75 : xS) : Prop :=
  xJ1 (w_X9_opens_J108 Q) (fun j108 => xL2 (w_X9_opens_L78 j108) v3_75 2 S75)
def w_X9_opens_L5 (j75 : Int → xS → Prop) (k5 : Int → Int → xS → Prop) (v3_5 : Int) (v5_5 : Int) (S5 : xS) : Prop :=
  ((v5_5 < 0 → j75 v3_5 S5) ∧ (¬ v5_5 < 0 → (0 ≤ v3_5) ∧ (xR (v3_5 % 4)) ∧ (0 ≤ ((2 * v5_5) + 1) ∧ ((2 * v5_5) + 1) < 4) ∧ (xR ((v3_5 / 4) % 4)) ∧ (0 ≤ (2 * v5_5) ∧ (2 * v5_5) < 4) ∧ (xR ((v3_5 / 16) % 3)) ∧ (0 ≤ v5_5 ∧ v5_5 < 2) ∧ (xR (v5_5 + (-1))) ∧ k5 (v3_5 / 48) (v5_5 + (-1)) (xup (xup (xup S5 78 ((2 * v5_5) + 1) (v3_5 % 4)) 78 (2 * v5_5) ((v3_5 / 4) % 4)) 77 v5_5 ((v3_5 / 16) % 3))))
def w_X9_opens (a1 : Int) (S : xS) (Q : xS → Prop) : Prop :=
  xJ1 (w_X9_opens_J75 Q) (fun j75 => xL2 (w_X9_opens_L5 j75) a1 1 S)
def w_X9_keeps_L4 (a1 : Int) (Q : xS → Prop) (k4 : Int → Int → xS → Prop) (v2_4 : Int) (v3_4 : Int) (S4 : xS) : Prop :=
  (((S4 54 10) ≤ v3_4 → Q (xup S4 54 10 v2_4)) ∧ (¬ (S4 54 10) ≤ v3_4 → (0 ≤ v3_4 ∧ v3_4 < 450) ∧ (((S4 83 v3_4) = a1 → (0 ≤ v2_4 ∧ v2_4 < 450) ∧ (xR (v2_4 + 1)) ∧ (xR (v3_4 + 1)) ∧ k4 (v2_4 + 1) (v3_4 + 1) (xup (xup (xup (xup S4 83 v2_4 a1) 84 v2_4 (S4 84 v3_4)) 85 v2_4 (S4 85 v3_4)) 86 v2_4 (S4 86 v3_4))) ∧ (¬ (S4 83 v3_4) = a1 → (xR (v3_4 + 1)) ∧ k4 v2_4 (v3_4 + 1) S4))))
def w_X9_keeps (a1 : Int) (S : xS) (Q : xS → Prop) : Prop :=
  xL2 (w_X9_keeps_L4 a1 Q) 0 0 S
def w_X9_isHere (a1 : Int) (a2 : Int) (S : xS) (Q : Int → xS → Prop) : Prop :=
  (0 ≤ ((14 * a1) + a2) ∧ ((14 * a1) + a2) < 42) ∧ (0 ≤ a1 ∧ a1 < 3) ∧ ((¬ (S 56 ((14 * a1) + a2)) = (S 75 a1) → Q 0 S) ∧ ((S 56 ((14 * a1) + a2)) = (S 75 a1) → Q 1 S))
def w_X9_isFree (a1 : Int) (S : xS) (Q : Int → xS → Prop) : Prop :=
  (0 ≤ a1 ∧ a1 < 42) ∧ ((¬ (S 58 a1) = 61 → ((¬ (S 58 a1) = 33 → ((¬ (S 58 a1) = 119 → ((¬ (S 58 a1) = 114 → Q 1 S) ∧ ((S 58 a1) = 114 → (0 ≤ (S 59 a1) ∧ (S 59 a1) < 2) ∧ (((S 77 (S 59 a1)) ≤ 0 → Q 0 S) ∧ (¬ (S 77 (S 59 a1)) ≤ 0 → Q 1 S))))) ∧ ((S 58 a1) = 119 → (0 ≤ (S 59 a1) ∧ (S 59 a1) < 2) ∧ (((S 61 (S 59 a1)) ≤ (S 77 (S 59 a1)) → Q 0 S) ∧ (¬ (S 61 (S 59 a1)) ≤ (S 77 (S 59 a1)) → Q 1 S))))) ∧ ((S 58 a1) = 33 → (0 ≤ (S 59 a1) ∧ (S 59 a1) < 9) ∧ (((S 76 (S 59 a1)) = (S 60 a1) → Q 0 S) ∧ (¬ (S 76 (S 59 a1)) = (S 60 a1) → Q 1 S))))) ∧ ((S 58 a1) = 61 → (0 ≤ (S 59 a1) ∧ (S 59 a1) < 9) ∧ ((¬ (S 76 (S 59 a1)) = (S 60 a1) → Q 0 S) ∧ ((S 76 (S 59 a1)) = (S 60 a1) → Q 1 S))))
def w_X9_adds (a1 : Int) (a2 : Int) (a3 : Int) (a4 : Int) (S : xS) (Q : xS → Prop) : Prop :=
  (0 ≤ (S 54 10) ∧ (S 54 10) < 450) ∧ (xR ((S 54 10) + 1)) ∧ Q (xup (xup (xup (xup (xup S 83 (S 54 10) a1) 84 (S 54 10) a2) 85 (S 54 10) a3) 86 (S 54 10) a4) 54 10 ((S 54 10) + 1))
def w_X9_pairs_L36 (a1 : Int) (a2 : Int) (S : xS) (k15 : Int → xS → Prop) (v4_15 : Int) (k36 : Int → xS → Prop) (v5_36 : Int) (S36 : xS) : Prop :=
  (0 ≤ v4_15 ∧ v4_15 < 3) ∧ (((S36 55 v4_15) ≤ v5_36 → (xR (v4_15 + 1)) ∧ k15 (v4_15 + 1) S36) ∧ (¬ (S36 55 v4_15) ≤ v5_36 → w_X9_isHere v4_15 v5_36 S36 (fun r53 S53 => ((r53 = 0 → (xR (v5_36 + 1)) ∧ k36 (v5_36 + 1) S53) ∧ (¬ r53 = 0 → (0 ≤ ((14 * v4_15) + v5_36) ∧ ((14 * v4_15) + v5_36) < 42) ∧ ((¬ (S53 58 ((14 * v4_15) + v5_36)) = 114 → (xR (v5_36 + 1)) ∧ k36 (v5_36 + 1) S53) ∧ ((S53 58 ((14 * v4_15) + v5_36)) = 114 → ((¬ (S53 59 ((14 * v4_15) + v5_36)) = (S 59 ((14 * a1) + a2)) → (xR (v5_36 + 1)) ∧ k36 (v5_36 + 1) S53) ∧ ((S53 59 ((14 * v4_15) + v5_36)) = (S 59 ((14 * a1) + a2)) → w_X9_adds a1 a2 v4_15 v5_36 S53 (fun S101 => (xR (v5_36 + 1)) ∧ k36 (v5_36 + 1) S101))))))))))
def w_X9_pairs_L15 (a1 : Int) (a2 : Int) (S : xS) (Q : xS → Prop) (k15 : Int → xS → Prop) (v4_15 : Int) (S15 : xS) : Prop :=
  (((S15 54 1) ≤ v4_15 → Q S15) ∧ (¬ (S15 54 1) ≤ v4_15 → ((¬ v4_15 = a1 → xL1 (w_X9_pairs_L36 a1 a2 S k15 v4_15) 0 S15) ∧ (v4_15 = a1 → (xR (v4_15 + 1)) ∧ k15 (v4_15 + 1) S15))))
def w_X9_pairs (a1 : Int) (a2 : Int) (S : xS) (Q : xS → Prop) : Prop :=
  (0 ≤ ((14 * a1) + a2) ∧ ((14 * a1) + a2) < 42) ∧ xL1 (w_X9_pairs_L15 a1 a2 S Q) 0 S
def w_X9_finds_J163 (Q : xS → Prop) (v1_163 : Int) (S163 : xS) : Prop :=
  ((¬ v1_163 = (-1) → w_X9_keeps v1_163 S163 (fun S171 => Q S171)) ∧ (v1_163 = (-1) → Q S163))
def w_X9_finds_L117 (j163 : Int → xS → Prop) (k117 : Int → Int → xS → Prop) (v1_117 : Int) (v2_117 : Int) (S117 : xS) : Prop :=
  ((v2_117 < 0 → j163 v1_117 S117) ∧ (¬ v2_117 < 0 → (0 ≤ v2_117 ∧ v2_117 < 450) ∧ (0 ≤ (S117 83 v2_117) ∧ (S117 83 v2_117) < 3) ∧ (0 ≤ ((12 * (S117 83 v2_117)) + (S117 75 (S117 83 v2_117))) ∧ ((12 * (S117 83 v2_117)) + (S117 75 (S117 83 v2_117))) < 36) ∧ (((S117 66 ((12 * (S117 83 v2_117)) + (S117 75 (S117 83 v2_117)))) = 0 → (xR (v2_117 + (-1))) ∧ k117 v1_117 (v2_117 + (-1)) S117) ∧ (¬ (S117 66 ((12 * (S117 83 v2_117)) + (S117 75 (S117 83 v2_117)))) = 0 → (xR (v2_117 + (-1))) ∧ k117 (S117 83 v2_117) (v2_117 + (-1)) S117))))
def w_X9_finds_J108 (Q : xS → Prop) (S108 : xS) : Prop :=
  xJ1 (w_X9_finds_J163 Q) (fun j163 => (xR ((S108 54 10) - 1)) ∧ xL2 (w_X9_finds_L117 j163) (-1) ((S108 54 10) - 1) S108)
def w_X9_finds_J80 (v1_7 : Int) (k17 : Int → xS → Prop) (v2_17 : Int) (S80 : xS) : Prop :=
  w_X9_isFree ((14 * v1_7) + v2_17) S80 (fun r82 S82 => ((r82 = 0 → (xR (v2_17 + 1)) ∧ k17 (v2_17 + 1) S82) ∧ (¬ r82 = 0 → w_X9_adds v1_7 v2_17 (-1) (-1) S82 (fun S93 => (xR (v2_17 + 1)) ∧ k17 (v2_17 + 1) S93))))
def w_X9_finds_L17 (k7 : Int → xS → Prop) (v1_7 : Int) (k17 : Int → xS → Prop) (v2_17 : Int) (S17 : xS) : Prop :=
  (0 ≤ v1_7 ∧ v1_7 < 3) ∧ (((S17 55 v1_7) ≤ v2_17 → (xR (v1_7 + 1)) ∧ k7 (v1_7 + 1) S17) ∧ (¬ (S17 55 v1_7) ≤ v2_17 → w_X9_isHere v1_7 v2_17 S17 (fun r37 S37 => ((¬ r37 = 0 → (0 ≤ ((14 * v1_7) + v2_17) ∧ ((14 * v1_7) + v2_17) < 42) ∧ xJ0 (w_X9_finds_J80 v1_7 k17 v2_17) (fun j80 => ((¬ (S37 58 ((14 * v1_7) + v2_17)) = 119 → j80 S37) ∧ ((S37 58 ((14 * v1_7) + v2_17)) = 119 → (0 ≤ (S37 59 ((14 * v1_7) + v2_17)) ∧ (S37 59 ((14 * v1_7) + v2_17)) < 2) ∧ ((¬ (S37 61 (S37 59 ((14 * v1_7) + v2_17))) = 0 → j80 S37) ∧ ((S37 61 (S37 59 ((14 * v1_7) + v2_17))) = 0 → w_X9_pairs v1_7 v2_17 S37 (fun S74 => (xR (v2_17 + 1)) ∧ k17 (v2_17 + 1) S74))))))) ∧ (r37 = 0 → (xR (v2_17 + 1)) ∧ k17 (v2_17 + 1) S37)))))
def w_X9_finds_L7 (j108 : xS → Prop) (k7 : Int → xS → Prop) (v1_7 : Int) (S7 : xS) : Prop :=
  (((S7 54 1) ≤ v1_7 → j108 S7) ∧ (¬ (S7 54 1) ≤ v1_7 → xL1 (w_X9_finds_L17 k7 v1_7) 0 S7))
def w_X9_finds  (S : xS) (Q : xS → Prop) : Prop :=
  xJ0 (w_X9_finds_J108 Q) (fun j108 => xL1 (w_X9_finds_L7 j108) 0 (xup S 54 10 0))
def w_X9_asserts (a1 : Int) (S : xS) (Q : Int → xS → Prop) : Prop :=
  (0 ≤ a1 ∧ a1 < 450) ∧ (0 ≤ ((14 * (S 83 a1)) + (S 84 a1)) ∧ ((14 * (S 83 a1)) + (S 84 a1)) < 42) ∧ ((¬ (S 58 ((14 * (S 83 a1)) + (S 84 a1))) = 97 → Q 0 S) ∧ ((S 58 ((14 * (S 83 a1)) + (S 84 a1))) = 97 → (0 ≤ (S 59 ((14 * (S 83 a1)) + (S 84 a1))) ∧ (S 59 ((14 * (S 83 a1)) + (S 84 a1))) < 9) ∧ ((¬ (S 76 (S 59 ((14 * (S 83 a1)) + (S 84 a1)))) = (S 60 ((14 * (S 83 a1)) + (S 84 a1))) → Q 0 S) ∧ ((S 76 (S 59 ((14 * (S 83 a1)) + (S 84 a1)))) = (S 60 ((14 * (S 83 a1)) + (S 84 a1))) → Q 1 S))))
def w_X9_copies_L78 (Q : xS → Prop) (k78 : Int → xS → Prop) (v1_78 : Int) (S78 : xS) : Prop :=
  ((4 ≤ v1_78 → Q S78) ∧ (¬ 4 ≤ v1_78 → (0 ≤ v1_78 ∧ v1_78 < 4) ∧ (xR (v1_78 + 1)) ∧ k78 (v1_78 + 1) (xup S78 82 v1_78 (S78 78 v1_78))))
def w_X9_copies_J76 (Q : xS → Prop) (S76 : xS) : Prop :=
  xL1 (w_X9_copies_L78 Q) 0 S76
def w_X9_copies_L53 (j76 : xS → Prop) (k53 : Int → xS → Prop) (v1_53 : Int) (S53 : xS) : Prop :=
  ((2 ≤ v1_53 → j76 S53) ∧ (¬ 2 ≤ v1_53 → (0 ≤ v1_53 ∧ v1_53 < 2) ∧ (xR (v1_53 + 1)) ∧ k53 (v1_53 + 1) (xup S53 81 v1_53 (S53 77 v1_53))))
def w_X9_copies_J51 (Q : xS → Prop) (S51 : xS) : Prop :=
  xJ0 (w_X9_copies_J76 Q) (fun j76 => xL1 (w_X9_copies_L53 j76) 0 S51)
def w_X9_copies_L27 (j51 : xS → Prop) (k27 : Int → xS → Prop) (v1_27 : Int) (S27 : xS) : Prop :=
  ((9 ≤ v1_27 → j51 S27) ∧ (¬ 9 ≤ v1_27 → (0 ≤ v1_27 ∧ v1_27 < 9) ∧ (xR (v1_27 + 1)) ∧ k27 (v1_27 + 1) (xup S27 80 v1_27 (S27 76 v1_27))))
def w_X9_copies_J25 (Q : xS → Prop) (S25 : xS) : Prop :=
  xJ0 (w_X9_copies_J51 Q) (fun j51 => xL1 (w_X9_copies_L27 j51) 0 S25)
def w_X9_copies_L2 (j25 : xS → Prop) (k2 : Int → xS → Prop) (v1_2 : Int) (S2 : xS) : Prop :=
  ((3 ≤ v1_2 → j25 S2) ∧ (¬ 3 ≤ v1_2 → (0 ≤ v1_2 ∧ v1_2 < 3) ∧ (xR (v1_2 + 1)) ∧ k2 (v1_2 + 1) (xup S2 79 v1_2 (S2 75 v1_2))))
def w_X9_copies  (S : xS) (Q : xS → Prop) : Prop :=
  xJ0 (w_X9_copies_J25 Q) (fun j25 => xL1 (w_X9_copies_L2 j25) 0 S)
def w_X9_makes_J217 (a1 : Int) (S : xS) (Q : xS → Prop) (S217 : xS) : Prop :=
  ((¬ (S217 58 ((14 * (S 83 a1)) + (S 84 a1))) = 114 → Q S217) ∧ ((S217 58 ((14 * (S 83 a1)) + (S 84 a1))) = 114 → (0 ≤ (2 * (S 59 ((14 * (S 83 a1)) + (S 84 a1)))) ∧ (2 * (S 59 ((14 * (S 83 a1)) + (S 84 a1)))) < 4) ∧ (0 ≤ (S217 60 ((14 * (S 83 a1)) + (S 84 a1))) ∧ (S217 60 ((14 * (S 83 a1)) + (S 84 a1))) < 9) ∧ (0 ≤ ((2 * (S 59 ((14 * (S 83 a1)) + (S 84 a1)))) + 1) ∧ ((2 * (S 59 ((14 * (S 83 a1)) + (S 84 a1)))) + 1) < 4) ∧ (0 ≤ (S 59 ((14 * (S 83 a1)) + (S 84 a1))) ∧ (S 59 ((14 * (S 83 a1)) + (S 84 a1))) < 2) ∧ (xR ((S217 81 (S 59 ((14 * (S 83 a1)) + (S 84 a1)))) - 1)) ∧ Q (xup (xup (xup (xup S217 80 (S217 60 ((14 * (S 83 a1)) + (S 84 a1))) (S217 78 (2 * (S 59 ((14 * (S 83 a1)) + (S 84 a1)))))) 82 (2 * (S 59 ((14 * (S 83 a1)) + (S 84 a1)))) (S217 78 ((2 * (S 59 ((14 * (S 83 a1)) + (S 84 a1)))) + 1))) 82 ((2 * (S 59 ((14 * (S 83 a1)) + (S 84 a1)))) + 1) 0) 81 (S 59 ((14 * (S 83 a1)) + (S 84 a1))) ((S217 81 (S 59 ((14 * (S 83 a1)) + (S 84 a1)))) - 1))))
def w_X9_makes_J170 (a1 : Int) (S : xS) (Q : xS → Prop) (S170 : xS) : Prop :=
  xJ0 (w_X9_makes_J217 a1 S Q) (fun j217 => ((¬ (S170 58 ((14 * (S 83 a1)) + (S 84 a1))) = 119 → j217 S170) ∧ ((S170 58 ((14 * (S 83 a1)) + (S 84 a1))) = 119 → (0 ≤ (S 59 ((14 * (S 83 a1)) + (S 84 a1))) ∧ (S 59 ((14 * (S 83 a1)) + (S 84 a1))) < 2) ∧ (0 ≤ (S170 60 ((14 * (S 83 a1)) + (S 84 a1))) ∧ (S170 60 ((14 * (S 83 a1)) + (S 84 a1))) < 9) ∧ (0 ≤ ((2 * (S 59 ((14 * (S 83 a1)) + (S 84 a1)))) + (S170 77 (S 59 ((14 * (S 83 a1)) + (S 84 a1))))) ∧ ((2 * (S 59 ((14 * (S 83 a1)) + (S 84 a1)))) + (S170 77 (S 59 ((14 * (S 83 a1)) + (S 84 a1))))) < 4) ∧ (xR ((S170 81 (S 59 ((14 * (S 83 a1)) + (S 84 a1)))) + 1)) ∧ j217 (xup (xup S170 82 ((2 * (S 59 ((14 * (S 83 a1)) + (S 84 a1)))) + (S170 77 (S 59 ((14 * (S 83 a1)) + (S 84 a1))))) (S170 76 (S170 60 ((14 * (S 83 a1)) + (S 84 a1))))) 81 (S 59 ((14 * (S 83 a1)) + (S 84 a1))) ((S170 81 (S 59 ((14 * (S 83 a1)) + (S 84 a1)))) + 1)))))
def w_X9_makes_J138 (a1 : Int) (S : xS) (Q : xS → Prop) (S138 : xS) : Prop :=
  xJ0 (w_X9_makes_J170 a1 S Q) (fun j170 => ((¬ (S138 58 ((14 * (S 83 a1)) + (S 84 a1))) = 105 → j170 S138) ∧ ((S138 58 ((14 * (S 83 a1)) + (S 84 a1))) = 105 → (0 ≤ (S 59 ((14 * (S 83 a1)) + (S 84 a1))) ∧ (S 59 ((14 * (S 83 a1)) + (S 84 a1))) < 9) ∧ (xR ((S138 76 (S 59 ((14 * (S 83 a1)) + (S 84 a1)))) + (S138 60 ((14 * (S 83 a1)) + (S 84 a1))))) ∧ (0 ≤ ((S138 76 (S 59 ((14 * (S 83 a1)) + (S 84 a1)))) + (S138 60 ((14 * (S 83 a1)) + (S 84 a1))))) ∧ j170 (xup S138 80 (S 59 ((14 * (S 83 a1)) + (S 84 a1))) (((S138 76 (S 59 ((14 * (S 83 a1)) + (S 84 a1)))) + (S138 60 ((14 * (S 83 a1)) + (S 84 a1)))) % 4)))))
def w_X9_makes (a1 : Int) (S : xS) (Q : xS → Prop) : Prop :=
  (0 ≤ a1 ∧ a1 < 450) ∧ (0 ≤ ((14 * (S 83 a1)) + (S 84 a1)) ∧ ((14 * (S 83 a1)) + (S 84 a1)) < 42) ∧ w_X9_copies S (fun S25 => (0 ≤ (S25 83 a1) ∧ (S25 83 a1) < 3) ∧ (((S25 85 a1) = (-1) → xJ0 (w_X9_makes_J138 a1 S Q) (fun j138 => ((¬ (S25 58 ((14 * (S 83 a1)) + (S 84 a1))) = 115 → j138 (xup S25 79 (S25 83 a1) (S25 57 ((14 * (S 83 a1)) + (S 84 a1))))) ∧ ((S25 58 ((14 * (S 83 a1)) + (S 84 a1))) = 115 → (0 ≤ (S 59 ((14 * (S 83 a1)) + (S 84 a1))) ∧ (S 59 ((14 * (S 83 a1)) + (S 84 a1))) < 9) ∧ j138 (xup (xup S25 79 (S25 83 a1) (S25 57 ((14 * (S 83 a1)) + (S 84 a1)))) 80 (S 59 ((14 * (S 83 a1)) + (S 84 a1))) (S25 60 ((14 * (S 83 a1)) + (S 84 a1)))))))) ∧ (¬ (S25 85 a1) = (-1) → (0 ≤ ((14 * (S25 85 a1)) + (S25 86 a1)) ∧ ((14 * (S25 85 a1)) + (S25 86 a1)) < 42) ∧ (0 ≤ (S25 85 a1) ∧ (S25 85 a1) < 3) ∧ (0 ≤ (S25 60 ((14 * (S 83 a1)) + (S 84 a1))) ∧ (S25 60 ((14 * (S 83 a1)) + (S 84 a1))) < 9) ∧ (0 ≤ (S25 60 ((14 * (S25 85 a1)) + (S25 86 a1))) ∧ (S25 60 ((14 * (S25 85 a1)) + (S25 86 a1))) < 9) ∧ Q (xup (xup (xup S25 79 (S25 83 a1) (S25 57 ((14 * (S 83 a1)) + (S 84 a1)))) 79 (S25 85 a1) (S25 57 ((14 * (S25 85 a1)) + (S25 86 a1)))) 80 (S25 60 ((14 * (S25 85 a1)) + (S25 86 a1))) (S25 76 (S25 60 ((14 * (S 83 a1)) + (S 84 a1))))))))
def w_X9_indexOf_L5 (a1 : Int) (Q : Int → xS → Prop) (k5 : Int → xS → Prop) (v3_5 : Int) (S5 : xS) : Prop :=
  (0 ≤ v3_5 ∧ v3_5 < 8192) ∧ (((S5 71 v3_5) ≤ 0 → Q (-1) S5) ∧ (¬ (S5 71 v3_5) ≤ 0 → (0 ≤ ((S5 71 v3_5) - 1) ∧ ((S5 71 v3_5) - 1) < 2000) ∧ ((¬ (S5 67 ((S5 71 v3_5) - 1)) = a1 → (xR (v3_5 + 1)) ∧ (0 ≤ (v3_5 + 1)) ∧ k5 ((v3_5 + 1) % 8192) S5) ∧ ((S5 67 ((S5 71 v3_5) - 1)) = a1 → Q ((S5 71 v3_5) - 1) S5))))
def w_X9_indexOf (a1 : Int) (S : xS) (Q : Int → xS → Prop) : Prop :=
  w_X9_slotOf a1 S (fun r1 S1 => xL1 (w_X9_indexOf_L5 a1 Q) r1 S1)
def w_X9_isFound (a1 : Int) (S : xS) (Q : Int → xS → Prop) : Prop :=
  ((¬ (S 54 4) = 104 → w_X9_indexOf a1 S (fun r25 S25 => ((r25 = (-1) → Q 0 S25) ∧ (¬ r25 = (-1) → Q 1 S25)))) ∧ ((S 54 4) = 104 → (0 ≤ a1) ∧ (0 ≤ (a1 % 509) ∧ (a1 % 509) < 509) ∧ (S 72 (a1 % 509) = 0 ∨ S 72 (a1 % 509) = 1) ∧ Q (S 72 (a1 % 509)) S))
def w_X9_doers (a1 : Int) (S : xS) (Q : Int → xS → Prop) : Prop :=
  (0 ≤ a1 ∧ a1 < 450) ∧ (0 ≤ (S 83 a1) ∧ (S 83 a1) < 31) ∧ ((¬ (S 85 a1) = (-1) → (0 ≤ (S 85 a1) ∧ (S 85 a1) < 31) ∧ Q (xor32 (1 * 2 ^ (S 83 a1).toNat) (1 * 2 ^ (S 85 a1).toNat)) S) ∧ ((S 85 a1) = (-1) → Q (xor32 (1 * 2 ^ (S 83 a1).toNat) 0) S))
def w_X9_isOwnStep_J39 (a1 : Int) (a2 : Int) (Q : Int → xS → Prop) (S39 : xS) : Prop :=
  (xR (3 + (2 * a1))) ∧ (((S39 59 a2) = (3 + (2 * a1)) → Q 1 S39) ∧ (¬ (S39 59 a2) = (3 + (2 * a1)) → (xR (4 + (2 * a1))) ∧ ((¬ (S39 59 a2) = (4 + (2 * a1)) → Q 0 S39) ∧ ((S39 59 a2) = (4 + (2 * a1)) → Q 1 S39))))
def w_X9_isOwnStep (a1 : Int) (a2 : Int) (S : xS) (Q : Int → xS → Prop) : Prop :=
  (0 ≤ a2 ∧ a2 < 42) ∧ ((¬ (S 58 a2) = 107 → xJ0 (w_X9_isOwnStep_J39 a1 a2 Q) (fun j39 => (((S 58 a2) = 115 → j39 S) ∧ (¬ (S 58 a2) = 115 → (((S 58 a2) = 105 → j39 S) ∧ (¬ (S 58 a2) = 105 → (((S 58 a2) = 61 → j39 S) ∧ (¬ (S 58 a2) = 61 → ((¬ (S 58 a2) = 33 → Q 0 S) ∧ ((S 58 a2) = 33 → j39 S)))))))))) ∧ ((S 58 a2) = 107 → Q 1 S))
def w_X9_isEnough_J141 (Q : Int → xS → Prop) (v2_141 : Int) (S141 : xS) : Prop :=
  ((v2_141 ≤ 0 → Q 0 S141) ∧ (¬ v2_141 ≤ 0 → Q 1 S141))
def w_X9_isEnough_L93 (a1 : Int) (Q : Int → xS → Prop) (j141 : Int → xS → Prop) (k93 : Int → Int → xS → Prop) (v2_93 : Int) (v3_93 : Int) (S93 : xS) : Prop :=
  (((S93 54 10) ≤ v3_93 → j141 v2_93 S93) ∧ (¬ (S93 54 10) ≤ v3_93 → (0 ≤ v3_93 ∧ v3_93 < 450) ∧ (((S93 83 v3_93) = a1 → w_X9_makes v3_93 S93 (fun S119 => w_X9_codes S119 (fun r124 S124 => w_X9_isFound r124 S124 (fun r127 S127 => ((r127 = 0 → (xR (v2_93 + 1)) ∧ (xR (v3_93 + 1)) ∧ k93 (v2_93 + 1) (v3_93 + 1) S127) ∧ (¬ r127 = 0 → Q 0 S127)))))) ∧ (¬ (S93 83 v3_93) = a1 → (xR (v3_93 + 1)) ∧ k93 v2_93 (v3_93 + 1) S93))))
def w_X9_isEnough_J91 (a1 : Int) (Q : Int → xS → Prop) (S91 : xS) : Prop :=
  xJ1 (w_X9_isEnough_J141 Q) (fun j141 => xL2 (w_X9_isEnough_L93 a1 Q j141) 0 0 S91)
def w_X9_isEnough_L47 (a1 : Int) (Q : Int → xS → Prop) (j91 : xS → Prop) (k47 : Int → xS → Prop) (v3_47 : Int) (S47 : xS) : Prop :=
  (((S47 54 3) ≤ v3_47 → j91 S47) ∧ (¬ (S47 54 3) ≤ v3_47 → (0 ≤ v3_47 ∧ v3_47 < 4) ∧ (xR (3 + (2 * a1))) ∧ (((S47 63 v3_47) = (3 + (2 * a1)) → Q 0 S47) ∧ (¬ (S47 63 v3_47) = (3 + (2 * a1)) → (xR (4 + (2 * a1))) ∧ ((¬ (S47 63 v3_47) = (4 + (2 * a1)) → (xR (v3_47 + 1)) ∧ k47 (v3_47 + 1) S47) ∧ ((S47 63 v3_47) = (4 + (2 * a1)) → Q 0 S47))))))
def w_X9_isEnough_J45 (a1 : Int) (Q : Int → xS → Prop) (S45 : xS) : Prop :=
  xJ0 (w_X9_isEnough_J91 a1 Q) (fun j91 => xL1 (w_X9_isEnough_L47 a1 Q j91) 0 S45)
def w_X9_isEnough_L4 (a1 : Int) (Q : Int → xS → Prop) (j45 : xS → Prop) (k4 : Int → xS → Prop) (v3_4 : Int) (S4 : xS) : Prop :=
  (0 ≤ a1 ∧ a1 < 3) ∧ (((S4 55 a1) ≤ v3_4 → j45 S4) ∧ (¬ (S4 55 a1) ≤ v3_4 → w_X9_isHere a1 v3_4 S4 (fun r17 S17 => ((r17 = 0 → (xR (v3_4 + 1)) ∧ k4 (v3_4 + 1) S17) ∧ (¬ r17 = 0 → (xR ((14 * a1) + v3_4)) ∧ w_X9_isOwnStep a1 ((14 * a1) + v3_4) S17 (fun r31 S31 => ((¬ r31 = 0 → (xR (v3_4 + 1)) ∧ k4 (v3_4 + 1) S31) ∧ (r31 = 0 → Q 0 S31))))))))
def w_X9_isEnough (a1 : Int) (S : xS) (Q : Int → xS → Prop) : Prop :=
  xJ0 (w_X9_isEnough_J45 a1 Q) (fun j45 => xL1 (w_X9_isEnough_L4 a1 Q j45) 0 S)
def w_X9_isStuck_L2 (Q : Int → xS → Prop) (k2 : Int → xS → Prop) (v1_2 : Int) (S2 : xS) : Prop :=
  (((S2 54 1) ≤ v1_2 → Q 0 S2) ∧ (¬ (S2 54 1) ≤ v1_2 → (0 ≤ v1_2 ∧ v1_2 < 3) ∧ (0 ≤ ((12 * v1_2) + (S2 75 v1_2)) ∧ ((12 * v1_2) + (S2 75 v1_2)) < 36) ∧ ((¬ (S2 65 ((12 * v1_2) + (S2 75 v1_2))) = 0 → (xR (v1_2 + 1)) ∧ k2 (v1_2 + 1) S2) ∧ ((S2 65 ((12 * v1_2) + (S2 75 v1_2))) = 0 → Q 1 S2))))
def w_X9_isStuck  (S : xS) (Q : Int → xS → Prop) : Prop :=
  xL1 (w_X9_isStuck_L2 Q) 0 S
def w_X9_goesOn_J278 (S : xS) (Q : xS → Prop) (S278 : xS) : Prop :=
  (0 ≤ ((S 54 6) + 1) ∧ ((S 54 6) + 1) < 2001) ∧ ((¬ (S278 54 14) = 0 → Q (xup (xup S278 73 ((S 54 6) + 1) (S278 54 11)) 54 14 1)) ∧ ((S278 54 14) = 0 → ((¬ (S278 54 6) = (S278 54 5) → Q (xup (xup S278 73 ((S 54 6) + 1) (S278 54 11)) 54 14 0)) ∧ ((S278 54 6) = (S278 54 5) → Q (xup (xup S278 73 ((S 54 6) + 1) (S278 54 11)) 54 14 1)))))
def w_X9_goesOn_J227 (k115 : Int → xS → Prop) (v2_115 : Int) (r193 : Int) (S227 : xS) : Prop :=
  (((S227 54 4) = 97 → w_X9_indexOf r193 S227 (fun r251 S251 => w_X9_doers v2_115 S251 (fun r257 S257 => (xR ((8 * r251) + r257)) ∧ (0 ≤ (S227 54 11) ∧ (S227 54 11) < 860000) ∧ (xR ((S257 54 11) + 1)) ∧ (xR (v2_115 + 1)) ∧ k115 (v2_115 + 1) (xup (xup S257 74 (S227 54 11) ((8 * r251) + r257)) 54 11 ((S257 54 11) + 1))))) ∧ (¬ (S227 54 4) = 97 → (xR (v2_115 + 1)) ∧ k115 (v2_115 + 1) S227))
def w_X9_goesOn_L115 (S : xS) (j278 : xS → Prop) (k115 : Int → xS → Prop) (v2_115 : Int) (S115 : xS) : Prop :=
  (((S115 54 10) ≤ v2_115 → j278 S115) ∧ (¬ (S115 54 10) ≤ v2_115 → ((¬ (S115 54 14) = 0 → j278 S115) ∧ ((S115 54 14) = 0 → w_X9_asserts v2_115 S115 (fun r132 S132 => ((r132 = 0 → (xRJ ((S132 54 12) + 1)) ∧ w_X9_makes v2_115 (xup S132 54 12 ((S132 54 12) + 1)) (fun S189 => w_X9_found S189 (fun r193 S193 => w_X9_isFound r193 S193 (fun r199 S199 => xJ0 (w_X9_goesOn_J227 k115 v2_115 r193) (fun j227 => ((¬ r199 = 0 → j227 S199) ∧ (r199 = 0 → (0 ≤ v2_115 ∧ v2_115 < 450) ∧ (xR ((16 * (S199 83 v2_115)) + (S199 84 v2_115))) ∧ w_X9_discovers r193 (S 54 6) ((16 * (S199 83 v2_115)) + (S199 84 v2_115)) S199 (fun S224 => j227 S224)))))))) ∧ (¬ r132 = 0 → (0 ≤ v2_115 ∧ v2_115 < 450) ∧ (xR ((16 * (S132 83 v2_115)) + (S132 84 v2_115))) ∧ (xR (v2_115 + 1)) ∧ k115 (v2_115 + 1) (xup (xup (xup (xup S132 54 7 97) 54 8 (S 54 6)) 54 9 ((16 * (S132 83 v2_115)) + (S132 84 v2_115))) 54 14 1))))))))
def w_X9_goesOn_J113 (S : xS) (Q : xS → Prop) (S113 : xS) : Prop :=
  xJ0 (w_X9_goesOn_J278 S Q) (fun j278 => xL1 (w_X9_goesOn_L115 S j278) 0 S113)
def w_X9_goesOn_J99 (j113 : xS → Prop) (v2_99 : Int) (S99 : xS) : Prop :=
  w_X9_keeps v2_99 S99 (fun S101 => j113 S101)
def w_X9_goesOn_L71 (j113 : xS → Prop) (j99 : Int → xS → Prop) (k71 : Int → xS → Prop) (v2_71 : Int) (S71 : xS) : Prop :=
  (((S71 54 1) ≤ v2_71 → j113 S71) ∧ (¬ (S71 54 1) ≤ v2_71 → ((¬ (S71 54 4) = 112 → j113 S71) ∧ ((S71 54 4) = 112 → w_X9_isEnough v2_71 S71 (fun r90 S90 => ((¬ r90 = 0 → j99 v2_71 S90) ∧ (r90 = 0 → (xR (v2_71 + 1)) ∧ k71 (v2_71 + 1) S90)))))))
def w_X9_goesOn_J69 (S : xS) (Q : xS → Prop) (S69 : xS) : Prop :=
  xJ0 (w_X9_goesOn_J113 S Q) (fun j113 => xJ1 (w_X9_goesOn_J99 j113) (fun j99 => xL1 (w_X9_goesOn_L71 j113 j99) 0 S69))
def w_X9_goesOn  (S : xS) (Q : xS → Prop) : Prop :=
  (xR ((S 54 6) + 1)) ∧ (0 ≤ (S 54 6) ∧ (S 54 6) < 2000) ∧ w_X9_opens (S 67 (S 54 6)) (xup S 54 6 ((S 54 6) + 1)) (fun S22 => w_X9_finds S22 (fun S26 => xJ0 (w_X9_goesOn_J69 S Q) (fun j69 => ((¬ (S26 54 10) = 0 → j69 (xup S26 73 (S 54 6) (S26 54 11))) ∧ ((S26 54 10) = 0 → w_X9_isStuck (xup S26 73 (S 54 6) (S26 54 11)) (fun r47 S47 => ((r47 = 0 → j69 S47) ∧ (¬ r47 = 0 → j69 (xup (xup (xup S47 54 7 100) 54 8 (S 54 6)) 54 14 1)))))))))
def w_X9_search_L33 (a1 : Int) (Q : Int → xS → Prop) (S14 : xS) (k33 : Int → xS → Prop) (v3_33 : Int) (S33 : xS) : Prop :=
  ((a1 ≤ v3_33 → (xR ((S33 54 5) - (S14 54 5))) ∧ Q ((S33 54 5) - (S14 54 5)) S33) ∧ (¬ a1 ≤ v3_33 → ((¬ (S33 54 14) = 0 → (xR ((S33 54 5) - (S14 54 5))) ∧ Q ((S33 54 5) - (S14 54 5)) S33) ∧ ((S33 54 14) = 0 → w_X9_goesOn S33 (fun S46 => (xR (v3_33 + 1)) ∧ k33 (v3_33 + 1) S46)))))
def w_X9_search (a1 : Int) (S : xS) (Q : Int → xS → Prop) : Prop :=
  w_X9_isThere S (fun r1 S1 => ((¬ r1 = 0 → w_X9_in a1 1 500 S1 (fun r14 S14 => ((¬ r14 = 0 → xL1 (w_X9_search_L33 a1 Q S14) 0 S14) ∧ (r14 = 0 → w_X9_fails 2 S14 (fun r22 S22 => Q r22 S22))))) ∧ (r1 = 0 → Q 0 S1)))
def w_X9_verdict  (S : xS) (Q : Int → xS → Prop) : Prop :=
  w_X9_isThere S (fun r1 S1 => ((r1 = 0 → Q 0 S1) ∧ (¬ r1 = 0 → w_X9_verdictNow S1 (fun r8 S8 => (0 ≤ (r8 % 65536) ∧ (r8 % 65536) < 65536) ∧ Q (r8 % 65536) S8))))
def w_X9_states  (S : xS) (Q : Int → xS → Prop) : Prop :=
  w_X9_isThere S (fun r1 S1 => ((r1 = 0 → Q 0 S1) ∧ (¬ r1 = 0 → Q (S1 54 5) S1)))
def w_X9_goneOn  (S : xS) (Q : Int → xS → Prop) : Prop :=
  w_X9_isThere S (fun r1 S1 => ((r1 = 0 → Q 0 S1) ∧ (¬ r1 = 0 → Q (S1 54 6) S1)))
def w_X9_isState_J26 (Q : Int → xS → Prop) (S26 : xS) : Prop :=
  ((¬ (S26 54 0) = 0 → Q 0 S26) ∧ ((S26 54 0) = 0 → Q 1 S26))
def w_X9_isState (a1 : Int) (S : xS) (Q : Int → xS → Prop) : Prop :=
  w_X9_isThere S (fun r1 S1 => xJ0 (w_X9_isState_J26 Q) (fun j26 => ((r1 = 0 → j26 S1) ∧ (¬ r1 = 0 → (xR ((S1 54 5) - 1)) ∧ w_X9_in a1 0 ((S1 54 5) - 1) S1 (fun r15 S15 => ((¬ r15 = 0 → j26 S15) ∧ (r15 = 0 → j26 (xup S15 54 0 2))))))))
def w_X9_codeOf (a1 : Int) (S : xS) (Q : Int → xS → Prop) : Prop :=
  w_X9_isState a1 S (fun r2 S2 => ((r2 = 0 → Q 0 S2) ∧ (¬ r2 = 0 → (0 ≤ a1 ∧ a1 < 2000) ∧ Q (S2 67 a1) S2)))
def w_X9_movesOf (a1 : Int) (S : xS) (Q : Int → xS → Prop) : Prop :=
  (0 ≤ a1 ∧ a1 < 2000) ∧ w_X9_opens (S 67 a1) S (fun S7 => w_X9_finds S7 (fun S11 => Q (S11 54 10) S11))
def w_X9_moves (a1 : Int) (S : xS) (Q : Int → xS → Prop) : Prop :=
  w_X9_isState a1 S (fun r2 S2 => ((r2 = 0 → Q 0 S2) ∧ (¬ r2 = 0 → w_X9_movesOf a1 S2 (fun r10 S10 => Q r10 S10))))
def w_X9_reached (a1 : Int) (a2 : Int) (S : xS) (Q : Int → xS → Prop) : Prop :=
  w_X9_isState a1 S (fun r2 S2 => ((¬ r2 = 0 → w_X9_movesOf a1 S2 (fun r14 S14 => (xR (r14 - 1)) ∧ w_X9_in a2 0 (r14 - 1) S14 (fun r19 S19 => ((¬ r19 = 0 → w_X9_makes a2 S19 (fun S34 => w_X9_codes S34 (fun r38 S38 => Q r38 S38))) ∧ (r19 = 0 → w_X9_fails 3 S19 (fun r27 S27 => Q r27 S27)))))) ∧ (r2 = 0 → Q 0 S2)))
def w_X9_variableIn (a1 : Int) (a2 : Int) (S : xS) (Q : Int → xS → Prop) : Prop :=
  w_X9_isState a1 S (fun r2 S2 => ((¬ r2 = 0 → w_X9_in a2 0 8 S2 (fun r14 S14 => ((¬ r14 = 0 → (0 ≤ a1 ∧ a1 < 2000) ∧ w_X9_opens (S14 67 a1) S14 (fun S33 => (0 ≤ a2 ∧ a2 < 9) ∧ Q (S33 76 a2) S33)) ∧ (r14 = 0 → w_X9_fails 3 S14 (fun r22 S22 => Q r22 S22))))) ∧ (r2 = 0 → Q 0 S2)))
def w_X9_made  (S : xS) (Q : Int → xS → Prop) : Prop :=
  w_X9_isThere S (fun r1 S1 => ((r1 = 0 → Q 0 S1) ∧ (¬ r1 = 0 → Q (S1 54 12) S1)))
def w_X9_isFault_J19 (Q : Int → xS → Prop) (S19 : xS) : Prop :=
  ((¬ (S19 54 0) = 0 → Q 0 S19) ∧ ((S19 54 0) = 0 → Q 1 S19))
def w_X9_isFault  (S : xS) (Q : Int → xS → Prop) : Prop :=
  w_X9_isThere S (fun r1 S1 => xJ0 (w_X9_isFault_J19 Q) (fun j19 => ((r1 = 0 → j19 S1) ∧ (¬ r1 = 0 → ((¬ (S1 54 7) = 0 → j19 S1) ∧ ((S1 54 7) = 0 → j19 (xup S1 54 0 2)))))))
def w_X9_fault  (S : xS) (Q : Int → xS → Prop) : Prop :=
  w_X9_isFault S (fun r1 S1 => ((r1 = 0 → Q 0 S1) ∧ (¬ r1 = 0 → (0 ≤ ((S1 54 7) % 65536) ∧ ((S1 54 7) % 65536) < 65536) ∧ Q ((S1 54 7) % 65536) S1)))
def w_X9_length  (S : xS) (Q : Int → xS → Prop) : Prop :=
  (0 ≤ (S 54 8) ∧ (S 54 8) < 2000) ∧ ((¬ (S 54 7) = 97 → (xR ((S 70 (S 54 8)) + 0)) ∧ Q ((S 70 (S 54 8)) + 0) S) ∧ ((S 54 7) = 97 → (xR ((S 70 (S 54 8)) + 1)) ∧ Q ((S 70 (S 54 8)) + 1) S))
def w_X9_traceLength  (S : xS) (Q : Int → xS → Prop) : Prop :=
  w_X9_isFault S (fun r1 S1 => ((r1 = 0 → Q 0 S1) ∧ (¬ r1 = 0 → w_X9_length S1 (fun r8 S8 => Q r8 S8))))
def w_X9_traced_L29 (a1 : Int) (Q : Int → xS → Prop) (k29 : Int → xS → Prop) (v2_29 : Int) (S29 : xS) : Prop :=
  (0 ≤ v2_29 ∧ v2_29 < 2000) ∧ (xR (a1 + 1)) ∧ (((S29 70 v2_29) ≤ (a1 + 1) → Q (S29 69 v2_29) S29) ∧ (¬ (S29 70 v2_29) ≤ (a1 + 1) → k29 (S29 68 v2_29) S29))
def w_X9_traced_J24 (a1 : Int) (Q : Int → xS → Prop) (S24 : xS) : Prop :=
  xL1 (w_X9_traced_L29 a1 Q) (S24 54 8) S24
def w_X9_traced (a1 : Int) (S : xS) (Q : Int → xS → Prop) : Prop :=
  xJ0 (w_X9_traced_J24 a1 Q) (fun j24 => ((¬ (S 54 7) = 97 → j24 S) ∧ ((S 54 7) = 97 → w_X9_length S (fun r11 S11 => (xR (r11 - 1)) ∧ ((¬ a1 = (r11 - 1) → j24 S11) ∧ (a1 = (r11 - 1) → Q (S11 54 9) S11))))))
def w_X9_traceProcess (a1 : Int) (S : xS) (Q : Int → xS → Prop) : Prop :=
  w_X9_isFault S (fun r1 S1 => ((¬ r1 = 0 → w_X9_length S1 (fun r12 S12 => (xR (r12 - 1)) ∧ w_X9_in a1 0 (r12 - 1) S12 (fun r17 S17 => ((r17 = 0 → w_X9_fails 3 S17 (fun r36 S36 => Q r36 S36)) ∧ (¬ r17 = 0 → w_X9_traced a1 S17 (fun r25 S25 => (0 ≤ r25) ∧ Q (r25 / 16) S25)))))) ∧ (r1 = 0 → Q 0 S1)))
def w_X9_traceStep (a1 : Int) (S : xS) (Q : Int → xS → Prop) : Prop :=
  w_X9_isFault S (fun r1 S1 => ((¬ r1 = 0 → w_X9_length S1 (fun r12 S12 => (xR (r12 - 1)) ∧ w_X9_in a1 0 (r12 - 1) S12 (fun r17 S17 => ((r17 = 0 → w_X9_fails 3 S17 (fun r36 S36 => Q r36 S36)) ∧ (¬ r17 = 0 → w_X9_traced a1 S17 (fun r25 S25 => (0 ≤ r25) ∧ Q (r25 % 16) S25)))))) ∧ (r1 = 0 → Q 0 S1)))
def w_X9_replays  (S : xS) (Q : Int → xS → Prop) : Prop :=
  w_X9_isFault S (fun r1 S1 => (r1 = 0 ∨ r1 = 1) ∧ Q r1 S1)
def w_X9_isGraph  (S : xS) (Q : Int → xS → Prop) : Prop :=
  (((S 54 13) = 0 → Q 0 S) ∧ (¬ (S 54 13) = 0 → ((¬ (S 54 4) = 97 → Q 0 S) ∧ ((S 54 4) = 97 → w_X9_verdictNow S (fun r17 S17 => ((¬ r17 = 110 → Q 0 S17) ∧ (r17 = 110 → Q 1 S17)))))))
def w_X9_isAsked_J36 (Q : Int → xS → Prop) (t0_36 : Int) (S36 : xS) : Prop :=
  ((¬ t0_36 = 0 → Q 0 (xup S36 54 0 t0_36)) ∧ (t0_36 = 0 → Q 1 (xup S36 54 0 t0_36)))
def w_X9_isAsked_J20 (j36 : Int → xS → Prop) (S20 : xS) : Prop :=
  j36 1 S20
def w_X9_isAsked (a1 : Int) (a2 : Int) (S : xS) (Q : Int → xS → Prop) : Prop :=
  w_X9_in a1 0 8 S (fun r5 S5 => xJ1 (w_X9_isAsked_J36 Q) (fun j36 => xJ0 (w_X9_isAsked_J20 j36) (fun j20 => ((r5 = 0 → j20 S5) ∧ (¬ r5 = 0 → w_X9_in a2 0 3 S5 (fun r14 S14 => ((¬ r14 = 0 → w_X9_isGraph S14 (fun r25 S25 => ((¬ r25 = 0 → j36 0 S25) ∧ (r25 = 0 → j36 2 S25)))) ∧ (r14 = 0 → j20 S14))))))))
def w_X9_valueIn (a1 : Int) (a2 : Int) (S : xS) (Q : Int → xS → Prop) : Prop :=
  (0 ≤ a1 ∧ a1 < 2000) ∧ w_X9_opens (S 67 a1) S (fun S7 => (0 ≤ a2 ∧ a2 < 9) ∧ Q (S7 76 a2) S7)
def w_X9_laysSet_L2 (a1 : Int) (a2 : Int) (Q : xS → Prop) (k2 : Int → xS → Prop) (v3_2 : Int) (S2 : xS) : Prop :=
  (((S2 54 5) ≤ v3_2 → Q S2) ∧ (¬ (S2 54 5) ≤ v3_2 → w_X9_valueIn v3_2 a1 S2 (fun r18 S18 => ((r18 = a2 → (0 ≤ v3_2 ∧ v3_2 < 2000) ∧ (xR (v3_2 + 1)) ∧ k2 (v3_2 + 1) (xup S18 95 v3_2 0)) ∧ (¬ r18 = a2 → (0 ≤ v3_2 ∧ v3_2 < 2000) ∧ (xR (v3_2 + 1)) ∧ k2 (v3_2 + 1) (xup S18 95 v3_2 1))))))
def w_X9_laysSet (a1 : Int) (a2 : Int) (S : xS) (Q : xS → Prop) : Prop :=
  xL1 (w_X9_laysSet_L2 a1 a2 Q) 0 S
def w_X9_enters (a1 : Int) (S : xS) (Q : xS → Prop) : Prop :=
  (0 ≤ a1 ∧ a1 < 2000) ∧ (xR ((S 54 60) + 1)) ∧ (0 ≤ (S 54 59) ∧ (S 54 59) < 2000) ∧ (xR ((S 54 59) + 1)) ∧ Q (xup (xup (xup (xup (xup (xup (xup S 87 a1 (S 54 60)) 88 a1 (S 54 60)) 54 60 ((S 54 60) + 1)) 90 (S 54 59) a1) 54 59 ((S 54 59) + 1)) 96 a1 1) 92 a1 (S 73 a1))
def w_X9_goal (a1 : Int) (S : xS) (Q : Int → xS → Prop) : Prop :=
  (0 ≤ a1 ∧ a1 < 860000) ∧ (0 ≤ (S 74 a1)) ∧ Q ((S 74 a1) / 8) S
def w_X9_lesser (a0 : Int) (a1 : Int) (S : xS) (Q : Int → xS → Prop) : Prop :=
  ((a1 ≤ a0 → Q a1 S) ∧ (¬ a1 ≤ a0 → Q a0 S))
def w_X9_closes_L18 (a1 : Int) (Q : xS → Prop) (k18 : Int → xS → Prop) (v2_18 : Int) (S18 : xS) : Prop :=
  ((v2_18 = a1 → (xR ((S18 54 58) + 1)) ∧ Q (xup S18 54 58 ((S18 54 58) + 1))) ∧ (¬ v2_18 = a1 → (xR ((S18 54 59) - 1)) ∧ (0 ≤ ((S18 54 59) - 1) ∧ ((S18 54 59) - 1) < 2000) ∧ (0 ≤ (S18 90 ((S18 54 59) - 1)) ∧ (S18 90 ((S18 54 59) - 1)) < 2000) ∧ k18 (S18 90 ((S18 54 59) - 1)) (xup (xup (xup S18 54 59 ((S18 54 59) - 1)) 96 (S18 90 ((S18 54 59) - 1)) 0) 89 (S18 90 ((S18 54 59) - 1)) (S18 54 58))))
def w_X9_closes (a1 : Int) (S : xS) (Q : xS → Prop) : Prop :=
  (0 ≤ a1 ∧ a1 < 2000) ∧ (((S 88 a1) = (S 87 a1) → xL1 (w_X9_closes_L18 a1 Q) (-1) S) ∧ (¬ (S 88 a1) = (S 87 a1) → Q S))
def w_X9_walks_L14 (Q : xS → Prop) (k14 : Int → xS → Prop) (v2_14 : Int) (S14 : xS) : Prop :=
  ((v2_14 ≤ 0 → Q S14) ∧ (¬ v2_14 ≤ 0 → (0 ≤ (v2_14 - 1) ∧ (v2_14 - 1) < 2000) ∧ (0 ≤ (S14 91 (v2_14 - 1)) ∧ (S14 91 (v2_14 - 1)) < 2000) ∧ (0 ≤ ((S14 91 (v2_14 - 1)) + 1) ∧ ((S14 91 (v2_14 - 1)) + 1) < 2001) ∧ ((¬ (S14 92 (S14 91 (v2_14 - 1))) = (S14 73 ((S14 91 (v2_14 - 1)) + 1)) → w_X9_goal (S14 92 (S14 91 (v2_14 - 1))) S14 (fun r101 S101 => (xR ((S101 92 (S14 91 (v2_14 - 1))) + 1)) ∧ (0 ≤ r101 ∧ r101 < 2000) ∧ ((¬ (S101 95 r101) = 0 → ((¬ (S101 87 r101) = (-1) → (((S101 96 r101) = 0 → k14 v2_14 (xup S101 92 (S14 91 (v2_14 - 1)) ((S101 92 (S14 91 (v2_14 - 1))) + 1))) ∧ (¬ (S101 96 r101) = 0 → w_X9_lesser (S101 88 (S14 91 (v2_14 - 1))) (S101 87 r101) (xup S101 92 (S14 91 (v2_14 - 1)) ((S101 92 (S14 91 (v2_14 - 1))) + 1)) (fun r188 S188 => k14 v2_14 (xup S188 88 (S14 91 (v2_14 - 1)) r188))))) ∧ ((S101 87 r101) = (-1) → (0 ≤ v2_14 ∧ v2_14 < 2000) ∧ w_X9_enters r101 (xup (xup S101 92 (S14 91 (v2_14 - 1)) ((S101 92 (S14 91 (v2_14 - 1))) + 1)) 91 v2_14 r101) (fun S154 => (xR (v2_14 + 1)) ∧ k14 (v2_14 + 1) S154)))) ∧ ((S101 95 r101) = 0 → k14 v2_14 (xup S101 92 (S14 91 (v2_14 - 1)) ((S101 92 (S14 91 (v2_14 - 1))) + 1)))))) ∧ ((S14 92 (S14 91 (v2_14 - 1))) = (S14 73 ((S14 91 (v2_14 - 1)) + 1)) → w_X9_closes (S14 91 (v2_14 - 1)) S14 (fun S46 => (xR (v2_14 + (-1))) ∧ (((v2_14 + (-1)) ≤ 0 → k14 (v2_14 + (-1)) S46) ∧ (¬ (v2_14 + (-1)) ≤ 0 → (0 ≤ ((v2_14 + (-1)) - 1) ∧ ((v2_14 + (-1)) - 1) < 2000) ∧ (0 ≤ (S46 91 ((v2_14 + (-1)) - 1)) ∧ (S46 91 ((v2_14 + (-1)) - 1)) < 2000) ∧ w_X9_lesser (S46 88 (S46 91 ((v2_14 + (-1)) - 1))) (S46 88 (S14 91 (v2_14 - 1))) S46 (fun r87 S87 => k14 (v2_14 + (-1)) (xup S87 88 (S46 91 ((v2_14 + (-1)) - 1)) r87)))))))))
def w_X9_walks (a1 : Int) (S : xS) (Q : xS → Prop) : Prop :=
  w_X9_enters a1 (xup S 91 0 a1) (fun S11 => xL1 (w_X9_walks_L14 Q) 1 S11)
def w_X9_findsComponents_L47 (Q : xS → Prop) (k47 : Int → xS → Prop) (v1_47 : Int) (S47 : xS) : Prop :=
  (((S47 54 5) ≤ v1_47 → Q S47) ∧ (¬ (S47 54 5) ≤ v1_47 → (0 ≤ v1_47 ∧ v1_47 < 2000) ∧ (((S47 95 v1_47) = 0 → (xR (v1_47 + 1)) ∧ k47 (v1_47 + 1) S47) ∧ (¬ (S47 95 v1_47) = 0 → ((¬ (S47 87 v1_47) = (-1) → (xR (v1_47 + 1)) ∧ k47 (v1_47 + 1) S47) ∧ ((S47 87 v1_47) = (-1) → w_X9_walks v1_47 S47 (fun S76 => (xR (v1_47 + 1)) ∧ k47 (v1_47 + 1) S76)))))))
def w_X9_findsComponents_J45 (Q : xS → Prop) (S45 : xS) : Prop :=
  xL1 (w_X9_findsComponents_L47 Q) 0 S45
def w_X9_findsComponents_L17 (j45 : xS → Prop) (k17 : Int → xS → Prop) (v1_17 : Int) (S17 : xS) : Prop :=
  (((S17 54 5) ≤ v1_17 → j45 S17) ∧ (¬ (S17 54 5) ≤ v1_17 → (0 ≤ v1_17 ∧ v1_17 < 2000) ∧ (xR (v1_17 + 1)) ∧ k17 (v1_17 + 1) (xup (xup S17 87 v1_17 (-1)) 96 v1_17 0)))
def w_X9_findsComponents  (S : xS) (Q : xS → Prop) : Prop :=
  xJ0 (w_X9_findsComponents_J45 Q) (fun j45 => xL1 (w_X9_findsComponents_L17 j45) 0 (xup (xup (xup S 54 58 0) 54 59 0) 54 60 0))
def w_X9_canStay_L237 (a1 : Int) (Q : Int → xS → Prop) (S1 : xS) (k237 : Int → xS → Prop) (v3_237 : Int) (S237 : xS) : Prop :=
  (((S237 54 58) ≤ v3_237 → Q 0 S237) ∧ (¬ (S237 54 58) ≤ v3_237 → (0 ≤ v3_237 ∧ v3_237 < 2000) ∧ (((S237 97 v3_237) = 0 → (xR (v3_237 + 1)) ∧ k237 (v3_237 + 1) S237) ∧ (¬ (S237 97 v3_237) = 0 → ((a1 = 0 → Q 1 S237) ∧ (¬ a1 = 0 → (xR ((1 * 2 ^ (S1 54 1).toNat) - 1)) ∧ ((¬ (xor32 (S237 93 v3_237) (S237 94 v3_237)) = ((1 * 2 ^ (S1 54 1).toNat) - 1) → (xR (v3_237 + 1)) ∧ k237 (v3_237 + 1) S237) ∧ ((xor32 (S237 93 v3_237) (S237 94 v3_237)) = ((1 * 2 ^ (S1 54 1).toNat) - 1) → Q 1 S237))))))))
def w_X9_canStay_J235 (a1 : Int) (Q : Int → xS → Prop) (S1 : xS) (S235 : xS) : Prop :=
  xL1 (w_X9_canStay_L237 a1 Q S1) 0 S235
def w_X9_canStay_J209 (S1 : xS) (k52 : Int → xS → Prop) (v3_52 : Int) (v4_209 : Int) (S209 : xS) : Prop :=
  (0 ≤ (S209 89 v3_52) ∧ (S209 89 v3_52) < 2000) ∧ k52 (v3_52 + 1) (xup S209 93 (S209 89 v3_52) (xor32 (S209 93 (S209 89 v3_52)) (xand ((1 * 2 ^ (S1 54 1).toNat) - 1) (xxor v4_209 (-1)))))
def w_X9_canStay_L102 (v3_52 : Int) (j209 : Int → xS → Prop) (k102 : Int → Int → xS → Prop) (v4_102 : Int) (v5_102 : Int) (S102 : xS) : Prop :=
  (((S102 73 (v3_52 + 1)) ≤ v5_102 → j209 v4_102 S102) ∧ (¬ (S102 73 (v3_52 + 1)) ≤ v5_102 → (0 ≤ v5_102 ∧ v5_102 < 860000) ∧ (0 ≤ (S102 74 v5_102)) ∧ w_X9_goal v5_102 S102 (fun r137 S137 => (0 ≤ r137 ∧ r137 < 2000) ∧ (((S137 95 r137) = 0 → (xR (v5_102 + 1)) ∧ k102 (xor32 v4_102 ((S102 74 v5_102) % 8)) (v5_102 + 1) S137) ∧ (¬ (S137 95 r137) = 0 → w_X9_goal v5_102 S137 (fun r151 S151 => (0 ≤ r151 ∧ r151 < 2000) ∧ (((S151 89 r151) = (S151 89 v3_52) → (0 ≤ (S151 89 v3_52) ∧ (S151 89 v3_52) < 2000) ∧ (0 ≤ (S151 74 v5_102)) ∧ (xR (v5_102 + 1)) ∧ k102 (xor32 v4_102 ((S102 74 v5_102) % 8)) (v5_102 + 1) (xup (xup S151 97 (S151 89 v3_52) 1) 94 (S151 89 v3_52) (xor32 (S151 94 (S151 89 v3_52)) ((S151 74 v5_102) % 8)))) ∧ (¬ (S151 89 r151) = (S151 89 v3_52) → (xR (v5_102 + 1)) ∧ k102 (xor32 v4_102 ((S102 74 v5_102) % 8)) (v5_102 + 1) S151))))))))
def w_X9_canStay_L52 (Q : Int → xS → Prop) (S1 : xS) (j235 : xS → Prop) (k52 : Int → xS → Prop) (v3_52 : Int) (S52 : xS) : Prop :=
  (((S52 54 5) ≤ v3_52 → j235 S52) ∧ (¬ (S52 54 5) ≤ v3_52 → (0 ≤ v3_52 ∧ v3_52 < 2000) ∧ ((¬ (S52 95 v3_52) = 0 → (0 ≤ (v3_52 + 1) ∧ (v3_52 + 1) < 2001) ∧ ((¬ (S52 73 v3_52) = (S52 73 (v3_52 + 1)) → xJ1 (w_X9_canStay_J209 S1 k52 v3_52) (fun j209 => xL2 (w_X9_canStay_L102 v3_52 j209) 0 (S52 73 v3_52) S52)) ∧ ((S52 73 v3_52) = (S52 73 (v3_52 + 1)) → Q 1 S52))) ∧ ((S52 95 v3_52) = 0 → (xR (v3_52 + 1)) ∧ k52 (v3_52 + 1) S52))))
def w_X9_canStay_J50 (a1 : Int) (Q : Int → xS → Prop) (S1 : xS) (S50 : xS) : Prop :=
  xJ0 (w_X9_canStay_J235 a1 Q S1) (fun j235 => xL1 (w_X9_canStay_L52 Q S1 j235) 0 S50)
def w_X9_canStay_L15 (j50 : xS → Prop) (k15 : Int → xS → Prop) (v3_15 : Int) (S15 : xS) : Prop :=
  (((S15 54 58) ≤ v3_15 → j50 S15) ∧ (¬ (S15 54 58) ≤ v3_15 → (0 ≤ v3_15 ∧ v3_15 < 2000) ∧ (xR (v3_15 + 1)) ∧ k15 (v3_15 + 1) (xup (xup (xup S15 93 v3_15 0) 94 v3_15 0) 97 v3_15 0)))
def w_X9_canStay (a1 : Int) (S : xS) (Q : Int → xS → Prop) : Prop :=
  w_X9_findsComponents S (fun S1 => (0 ≤ (S1 54 1) ∧ (S1 54 1) < 31) ∧ xJ0 (w_X9_canStay_J50 a1 Q S1) (fun j50 => xL1 (w_X9_canStay_L15 j50) 0 S1))
def w_X9_recurs (a1 : Int) (a2 : Int) (a3 : Int) (S : xS) (Q : Int → xS → Prop) : Prop :=
  w_X9_isAsked a1 a2 S (fun r3 S3 => ((¬ r3 = 0 → w_X9_laysSet a1 a2 S3 (fun S14 => w_X9_canStay a3 S14 (fun r19 S19 => ((¬ r19 = 0 → Q 0 S19) ∧ (r19 = 0 → Q 1 S19))))) ∧ (r3 = 0 → Q 0 S3)))
def w_X9_recursByTaking (a1 : Int) (a2 : Int) (S : xS) (Q : Int → xS → Prop) : Prop :=
  w_X9_recurs a1 a2 0 S (fun r4 S4 => (r4 = 0 ∨ r4 = 1) ∧ Q r4 S4)
def w_X9_narrows_L143 (Q : xS → Prop) (k143 : Int → xS → Prop) (v2_143 : Int) (S143 : xS) : Prop :=
  (((S143 54 5) ≤ v2_143 → Q S143) ∧ (¬ (S143 54 5) ≤ v2_143 → (0 ≤ v2_143 ∧ v2_143 < 2000) ∧ (((S143 95 v2_143) = 0 → (xR (v2_143 + 1)) ∧ k143 (v2_143 + 1) (xup S143 95 v2_143 0)) ∧ (¬ (S143 95 v2_143) = 0 → (((S143 96 v2_143) = 0 → (xR (v2_143 + 1)) ∧ k143 (v2_143 + 1) (xup S143 95 v2_143 0)) ∧ (¬ (S143 96 v2_143) = 0 → (xR (v2_143 + 1)) ∧ k143 (v2_143 + 1) (xup S143 95 v2_143 1)))))))
def w_X9_narrows_J141 (Q : xS → Prop) (S141 : xS) : Prop :=
  xL1 (w_X9_narrows_L143 Q) 0 S141
def w_X9_narrows_J84 (k37 : Int → Int → xS → Prop) (v3_37 : Int) (t0_84 : Int) (S84 : xS) : Prop :=
  w_X9_goal v3_37 S84 (fun r91 S91 => w_X9_goal v3_37 S91 (fun r100 S100 => (0 ≤ r100 ∧ r100 < 2000) ∧ ((¬ (S100 96 r100) = 0 → (0 ≤ r91 ∧ r91 < 2000) ∧ (xR (v3_37 + 1)) ∧ k37 t0_84 (v3_37 + 1) (xup S100 96 r91 1)) ∧ ((S100 96 r100) = 0 → w_X9_goal v3_37 S100 (fun r113 S113 => (0 ≤ r113 ∧ r113 < 2000) ∧ (((S113 95 r113) = 0 → (0 ≤ r91 ∧ r91 < 2000) ∧ (xR (v3_37 + 1)) ∧ k37 t0_84 (v3_37 + 1) (xup S113 96 r91 0)) ∧ (¬ (S113 95 r113) = 0 → (0 ≤ r91 ∧ r91 < 2000) ∧ (xR (v3_37 + 1)) ∧ k37 t0_84 (v3_37 + 1) (xup S113 96 r91 1))))))))
def w_X9_narrows_J79 (j84 : Int → xS → Prop) (S79 : xS) : Prop :=
  j84 1 S79
def w_X9_narrows_L37 (k10 : Int → Int → xS → Prop) (v2_10 : Int) (k37 : Int → Int → xS → Prop) (v1_37 : Int) (v3_37 : Int) (S37 : xS) : Prop :=
  (0 ≤ (v2_10 + 1) ∧ (v2_10 + 1) < 2001) ∧ (((S37 73 (v2_10 + 1)) ≤ v3_37 → k10 v1_37 (v2_10 + 1) S37) ∧ (¬ (S37 73 (v2_10 + 1)) ≤ v3_37 → xJ1 (w_X9_narrows_J84 k37 v3_37) (fun j84 => xJ0 (w_X9_narrows_J79 j84) (fun j79 => ((¬ v1_37 = 0 → j79 S37) ∧ (v1_37 = 0 → w_X9_goal v3_37 S37 (fun r59 S59 => (0 ≤ r59 ∧ r59 < 2000) ∧ (((S59 95 r59) = 0 → j84 0 S59) ∧ (¬ (S59 95 r59) = 0 → w_X9_goal v3_37 S59 (fun r72 S72 => (0 ≤ r72 ∧ r72 < 2000) ∧ ((¬ (S72 96 r72) = 0 → j84 0 S72) ∧ ((S72 96 r72) = 0 → j79 S72))))))))))))
def w_X9_narrows_L10 (k2 : Int → xS → Prop) (k10 : Int → Int → xS → Prop) (v1_10 : Int) (v2_10 : Int) (S10 : xS) : Prop :=
  (((S10 54 5) ≤ v2_10 → k2 v1_10 S10) ∧ (¬ (S10 54 5) ≤ v2_10 → (0 ≤ v2_10 ∧ v2_10 < 2000) ∧ ((¬ (S10 96 v2_10) = 0 → xL2 (w_X9_narrows_L37 k10 v2_10) v1_10 (S10 73 v2_10) S10) ∧ ((S10 96 v2_10) = 0 → (xR (v2_10 + 1)) ∧ k10 v1_10 (v2_10 + 1) S10))))
def w_X9_narrows_L2 (j141 : xS → Prop) (k2 : Int → xS → Prop) (v1_2 : Int) (S2 : xS) : Prop :=
  ((v1_2 = 0 → j141 S2) ∧ (¬ v1_2 = 0 → xL2 (w_X9_narrows_L10 k2) 0 0 S2))
def w_X9_narrows  (S : xS) (Q : xS → Prop) : Prop :=
  xJ0 (w_X9_narrows_J141 Q) (fun j141 => xL1 (w_X9_narrows_L2 j141) 1 S)
def w_X9_comes_J62 (a3 : Int) (Q : Int → xS → Prop) (S62 : xS) : Prop :=
  w_X9_narrows S62 (fun S63 => w_X9_canStay a3 S63 (fun r68 S68 => ((¬ r68 = 0 → Q 0 S68) ∧ (r68 = 0 → Q 1 S68))))
def w_X9_comes_L20 (j62 : xS → Prop) (k20 : Int → xS → Prop) (v4_20 : Int) (S20 : xS) : Prop :=
  (((S20 54 5) ≤ v4_20 → j62 S20) ∧ (¬ (S20 54 5) ≤ v4_20 → ((¬ v4_20 = 0 → (0 ≤ v4_20 ∧ v4_20 < 2000) ∧ (xR (v4_20 + 1)) ∧ k20 (v4_20 + 1) (xup S20 96 v4_20 0)) ∧ (v4_20 = 0 → (0 ≤ v4_20 ∧ v4_20 < 2000) ∧ (((S20 95 v4_20) = 0 → (xR (v4_20 + 1)) ∧ k20 (v4_20 + 1) (xup S20 96 v4_20 0)) ∧ (¬ (S20 95 v4_20) = 0 → (xR (v4_20 + 1)) ∧ k20 (v4_20 + 1) (xup S20 96 v4_20 1)))))))
def w_X9_comes (a1 : Int) (a2 : Int) (a3 : Int) (S : xS) (Q : Int → xS → Prop) : Prop :=
  w_X9_isAsked a1 a2 S (fun r3 S3 => ((¬ r3 = 0 → w_X9_laysSet a1 a2 S3 (fun S14 => xJ0 (w_X9_comes_J62 a3 Q) (fun j62 => xL1 (w_X9_comes_L20 j62) 0 S14))) ∧ (r3 = 0 → Q 0 S3)))
def w_X9_follows_J126 (a5 : Int) (Q : Int → xS → Prop) (S126 : xS) : Prop :=
  w_X9_narrows S126 (fun S127 => w_X9_canStay a5 S127 (fun r133 S133 => ((¬ r133 = 0 → Q 0 S133) ∧ (r133 = 0 → Q 1 S133))))
def w_X9_follows_L78 (a1 : Int) (a2 : Int) (j126 : xS → Prop) (k78 : Int → xS → Prop) (v6_78 : Int) (S78 : xS) : Prop :=
  (((S78 54 5) ≤ v6_78 → j126 S78) ∧ (¬ (S78 54 5) ≤ v6_78 → (0 ≤ v6_78 ∧ v6_78 < 2000) ∧ (((S78 95 v6_78) = 0 → (xR (v6_78 + 1)) ∧ k78 (v6_78 + 1) (xup S78 96 v6_78 0)) ∧ (¬ (S78 95 v6_78) = 0 → w_X9_valueIn v6_78 a1 S78 (fun r107 S107 => ((¬ r107 = a2 → (xR (v6_78 + 1)) ∧ k78 (v6_78 + 1) (xup S107 96 v6_78 0)) ∧ (r107 = a2 → (xR (v6_78 + 1)) ∧ k78 (v6_78 + 1) (xup S107 96 v6_78 1))))))))
def w_X9_follows_J56 (a1 : Int) (a2 : Int) (a3 : Int) (a4 : Int) (a5 : Int) (Q : Int → xS → Prop) (t0_56 : Int) (S56 : xS) : Prop :=
  ((t0_56 ≤ 0 → w_X9_laysSet a3 a4 (xup S56 54 0 t0_56) (fun S72 => xJ0 (w_X9_follows_J126 a5 Q) (fun j126 => xL1 (w_X9_follows_L78 a1 a2 j126) 0 S72))) ∧ (¬ t0_56 ≤ 0 → Q 0 (xup S56 54 0 t0_56)))
def w_X9_follows_J40 (j56 : Int → xS → Prop) (S40 : xS) : Prop :=
  j56 1 S40
def w_X9_follows (a1 : Int) (a2 : Int) (a3 : Int) (a4 : Int) (a5 : Int) (S : xS) (Q : Int → xS → Prop) : Prop :=
  w_X9_in a1 0 8 S (fun r5 S5 => xJ1 (w_X9_follows_J56 a1 a2 a3 a4 a5 Q) (fun j56 => xJ0 (w_X9_follows_J40 j56) (fun j40 => ((r5 = 0 → j40 S5) ∧ (¬ r5 = 0 → w_X9_in a2 0 3 S5 (fun r14 S14 => ((r14 = 0 → j40 S14) ∧ (¬ r14 = 0 → w_X9_in a3 0 8 S14 (fun r24 S24 => ((r24 = 0 → j40 S24) ∧ (¬ r24 = 0 → w_X9_in a4 0 3 S24 (fun r34 S34 => ((¬ r34 = 0 → w_X9_isGraph S34 (fun r45 S45 => ((¬ r45 = 0 → j56 0 S45) ∧ (r45 = 0 → j56 2 S45)))) ∧ (r34 = 0 → j40 S34))))))))))))))
def w_X9_distance_J44 (Q : Int → xS → Prop) (S44 : xS) : Prop :=
  w_X9_fails 3 S44 (fun r46 S46 => Q r46 S46)
def w_X9_distance_L13 (a1 : Int) (a2 : Int) (Q : Int → xS → Prop) (j44 : xS → Prop) (k13 : Int → xS → Prop) (v3_13 : Int) (S13 : xS) : Prop :=
  (((S13 54 5) ≤ v3_13 → j44 S13) ∧ (¬ (S13 54 5) ≤ v3_13 → w_X9_valueIn v3_13 a1 S13 (fun r24 S24 => ((¬ r24 = a2 → (xR (v3_13 + 1)) ∧ k13 (v3_13 + 1) S24) ∧ (r24 = a2 → (0 ≤ v3_13 ∧ v3_13 < 2000) ∧ Q (S24 70 v3_13) S24)))))
def w_X9_distance (a1 : Int) (a2 : Int) (S : xS) (Q : Int → xS → Prop) : Prop :=
  w_X9_isAsked a1 a2 S (fun r3 S3 => ((¬ r3 = 0 → xJ0 (w_X9_distance_J44 Q) (fun j44 => xL1 (w_X9_distance_L13 a1 a2 Q j44) 0 S3)) ∧ (r3 = 0 → Q 0 S3)))
def w_X9_components_J48 (Q : Int → xS → Prop) (S48 : xS) : Prop :=
  w_X9_findsComponents S48 (fun S49 => Q (S49 54 58) S49)
def w_X9_components_L27 (j48 : xS → Prop) (k27 : Int → xS → Prop) (v1_27 : Int) (S27 : xS) : Prop :=
  (((S27 54 5) ≤ v1_27 → j48 S27) ∧ (¬ (S27 54 5) ≤ v1_27 → (0 ≤ v1_27 ∧ v1_27 < 2000) ∧ (xR (v1_27 + 1)) ∧ k27 (v1_27 + 1) (xup S27 95 v1_27 1)))
def w_X9_components_J13 (Q : Int → xS → Prop) (t0_13 : Int) (S13 : xS) : Prop :=
  ((t0_13 ≤ 0 → xJ0 (w_X9_components_J48 Q) (fun j48 => xL1 (w_X9_components_L27 j48) 0 (xup S13 54 0 t0_13))) ∧ (¬ t0_13 ≤ 0 → Q 0 (xup S13 54 0 t0_13)))
def w_X9_components  (S : xS) (Q : Int → xS → Prop) : Prop :=
  w_X9_isGraph S (fun r2 S2 => xJ1 (w_X9_components_J13 Q) (fun j13 => ((r2 = 0 → j13 1 S2) ∧ (¬ r2 = 0 → j13 0 S2))))
def w_X9_isSound  (S : xS) (Q : Int → xS → Prop) : Prop :=
  Q 1 (xup S 54 0 0)

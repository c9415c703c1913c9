def w_X8_isSound  (S : xS) (Q : Int → xS → Prop) : Prop :=
  (((S 2 9) = 0 → Q 1 S) ∧ (¬ (S 2 9) = 0 → w_X6_isConsistent S (fun r14 S14 => ((r14 = 0 → Q 0 S14) ∧ (¬ r14 = 0 → Q 1 S14)))))
def w_X8_addProcess  (S : xS) (Q : Int → xS → Prop) (X : String → xS → Prop) : Prop :=
  (((S 1 0) < 3 → w_X6_drop S (fun S25 => w_X4_newProcess S25 (fun r32 S32 => (S32 33 (-1) = S 33 (-1)) ∧ Q r32 S32))) ∧ (¬ (S 1 0) < 3 → X "java/lang/IllegalStateException" S))
def w_X8_needProcess_J15 (X : String → xS → Prop) (S15 : xS) : Prop :=
  X "java/lang/IndexOutOfBoundsException" S15
def w_X8_needProcess (a1 : Int) (S : xS) (Q : xS → Prop) (X : String → xS → Prop) : Prop :=
  xJ0 (w_X8_needProcess_J15 X) (fun j15 => ((a1 < 0 → j15 S) ∧ (¬ a1 < 0 → ((a1 < (S 1 0) → Q S) ∧ (¬ a1 < (S 1 0) → j15 S)))))
def w_X8_needLocation_J10 (X : String → xS → Prop) (S10 : xS) : Prop :=
  X "java/lang/IllegalArgumentException" S10
def w_X8_needLocation (a0 : Int) (S : xS) (Q : xS → Prop) (X : String → xS → Prop) : Prop :=
  xJ0 (w_X8_needLocation_J10 X) (fun j10 => ((a0 < 0 → j10 S) ∧ (¬ a0 < 0 → ((a0 < 12 → Q S) ∧ (¬ a0 < 12 → j10 S)))))
def w_X8_addStep (a1 : Int) (a2 : Int) (a3 : Int) (a4 : Int) (a5 : Int) (a6 : Int) (S : xS) (Q : Int → xS → Prop) (X : String → xS → Prop) : Prop :=
  w_X8_needProcess a1 S (fun S2 => w_X8_needLocation a2 S2 (fun S6 => w_X8_needLocation a3 S6 (fun S10 => w_X4_fits a1 a4 a5 a6 S10 (fun r24 S24 => ((¬ r24 = 0 → (0 ≤ a1 ∧ a1 < 3) ∧ (((S24 10 a1) < 14 → w_X6_drop S24 (fun S68 => w_X4_newStep a1 a2 a3 a4 a5 a6 S68 (fun r84 S84 => (S84 33 (-1) = S10 33 (-1)) ∧ Q r84 S84))) ∧ (¬ (S24 10 a1) < 14 → (S24 33 (-1) = S10 33 (-1)) ∧ X "java/lang/IllegalStateException" S24))) ∧ (r24 = 0 → (S24 33 (-1) = S10 33 (-1)) ∧ X "java/lang/IllegalArgumentException" S24)))) X) X) X
def w_X8_addChannel_J9 (X : String → xS → Prop) (S9 : xS) : Prop :=
  X "java/lang/IllegalArgumentException" S9
def w_X8_addChannel (a1 : Int) (S : xS) (Q : Int → xS → Prop) (X : String → xS → Prop) : Prop :=
  xJ0 (w_X8_addChannel_J9 X) (fun j9 => ((a1 < 0 → j9 S) ∧ (¬ a1 < 0 → ((a1 ≤ 2 → (((S 1 7) < 2 → w_X6_drop S (fun S44 => w_X4_newChannel a1 S44 (fun r52 S52 => (S52 33 (-1) = S 33 (-1)) ∧ Q r52 S52))) ∧ (¬ (S 1 7) < 2 → X "java/lang/IllegalStateException" S))) ∧ (¬ a1 ≤ 2 → j9 S)))))
def w_X8_needVariable_J10 (X : String → xS → Prop) (S10 : xS) : Prop :=
  X "java/lang/IllegalArgumentException" S10
def w_X8_needVariable (a0 : Int) (S : xS) (Q : xS → Prop) (X : String → xS → Prop) : Prop :=
  xJ0 (w_X8_needVariable_J10 X) (fun j10 => ((a0 < 0 → j10 S) ∧ (¬ a0 < 0 → ((a0 < 9 → Q S) ∧ (¬ a0 < 9 → j10 S)))))
def w_X8_needNumber (a0 : Int) (S : xS) (Q : xS → Prop) (X : String → xS → Prop) : Prop :=
  w_X4_isNumber a0 S (fun r1 S1 => ((¬ r1 = 0 → (S1 33 (-1) = S 33 (-1)) ∧ Q S1) ∧ (r1 = 0 → (S1 33 (-1) = S 33 (-1)) ∧ X "java/lang/IllegalArgumentException" S1)))
def w_X8_setStart (a1 : Int) (a2 : Int) (S : xS) (Q : Int → xS → Prop) (X : String → xS → Prop) : Prop :=
  w_X8_needVariable a1 S (fun S1 => w_X8_needNumber a2 S1 (fun S5 => w_X6_drop S5 (fun S12 => (0 ≤ a1 ∧ a1 < 9) ∧ (S12 33 (-1) = S5 33 (-1)) ∧ Q (S12 17 a1) (xup S12 17 a1 a2))) X) X
def w_X8_setMarks_J41 (a1 : Int) (a2 : Int) (Q : Int → xS → Prop) (t0_31 : Int) (t0_41 : Int) (S41 : xS) : Prop :=
  w_X4_putMarks a1 a2 (xor32 t0_31 t0_41) S41 (fun r42 S42 => (S42 33 (-1) = S41 33 (-1)) ∧ (r42 = 0 ∨ r42 = 1) ∧ Q r42 S42)
def w_X8_setMarks_J31 (a1 : Int) (a2 : Int) (a4 : Int) (Q : Int → xS → Prop) (t0_31 : Int) (S31 : xS) : Prop :=
  xJ1 (w_X8_setMarks_J41 a1 a2 Q t0_31) (fun j41 => ((a4 = 0 → j41 0 S31) ∧ (¬ a4 = 0 → j41 2 S31)))
def w_X8_setMarks (a1 : Int) (a2 : Int) (a3 : Int) (a4 : Int) (S : xS) (Q : Int → xS → Prop) (X : String → xS → Prop) : Prop :=
  w_X8_needProcess a1 S (fun S2 => w_X8_needLocation a2 S2 (fun S6 => w_X6_drop S6 (fun S13 => xJ1 (w_X8_setMarks_J31 a1 a2 a4 Q) (fun j31 => ((a3 = 0 → (S13 33 (-1) = S6 33 (-1)) ∧ j31 0 S13) ∧ (¬ a3 = 0 → (S13 33 (-1) = S6 33 (-1)) ∧ j31 1 S13))))) X) X
def w_X8_addInvariant (a1 : Int) (a2 : Int) (S : xS) (Q : Int → xS → Prop) (X : String → xS → Prop) : Prop :=
  w_X8_needVariable a1 S (fun S1 => w_X8_needNumber a2 S1 (fun S5 => (((S5 1 11) < 4 → w_X6_drop S5 (fun S33 => w_X4_newInvariant a1 a2 S33 (fun r42 S42 => (S42 33 (-1) = S5 33 (-1)) ∧ Q r42 S42))) ∧ (¬ (S5 1 11) < 4 → X "java/lang/IllegalStateException" S5))) X) X
def w_X8_areAlike (a1 : Int) (a2 : Int) (S : xS) (Q : Int → xS → Prop) (X : String → xS → Prop) : Prop :=
  w_X8_needProcess a1 S (fun S2 => w_X8_needProcess a2 S2 (fun S7 => w_X4_hasAlike a1 a2 S7 (fun r16 S16 => (S16 33 (-1) = S7 33 (-1)) ∧ (r16 = 0 ∨ r16 = 1) ∧ Q r16 S16)) X) X
def w_X8_begin_J60 (a1 : Int) (Q : Int → xS → Prop) (S60 : xS) : Prop :=
  w_X6_beginIn a1 S60 (fun S65 => w_X6_judge S65 (fun r72 S72 => (S72 33 (-1) = S60 33 (-1)) ∧ (0 ≤ r72 ∧ r72 < 65536) ∧ Q r72 S72))
def w_X8_begin_J34 (a1 : Int) (Q : Int → xS → Prop) (X : String → xS → Prop) (S34 : xS) : Prop :=
  xJ0 (w_X8_begin_J60 a1 Q) (fun j60 => ((¬ a1 = 115 → j60 S34) ∧ (a1 = 115 → w_X4_hasInvariantOfAlike S34 (fun r44 S44 => ((r44 = 0 → (S44 33 (-1) = S34 33 (-1)) ∧ j60 S44) ∧ (¬ r44 = 0 → (S44 33 (-1) = S34 33 (-1)) ∧ X "java/lang/UnsupportedOperationException" S44))))))
def w_X8_begin (a1 : Int) (S : xS) (Q : Int → xS → Prop) (X : String → xS → Prop) : Prop :=
  xJ0 (w_X8_begin_J34 a1 Q X) (fun j34 => ((a1 = 97 → j34 S) ∧ (¬ a1 = 97 → ((a1 = 112 → j34 S) ∧ (¬ a1 = 112 → ((a1 = 115 → j34 S) ∧ (¬ a1 = 115 → ((a1 = 104 → j34 S) ∧ (¬ a1 = 104 → X "java/lang/IllegalArgumentException" S)))))))))
def w_X8_needSearch  (S : xS) (Q : xS → Prop) (X : String → xS → Prop) : Prop :=
  ((¬ (S 2 9) = 0 → Q S) ∧ ((S 2 9) = 0 → X "java/lang/IllegalStateException" S))
def w_X8_search_J16 (X : String → xS → Prop) (S16 : xS) : Prop :=
  X "java/lang/IllegalArgumentException" S16
def w_X8_search (a1 : Int) (S : xS) (Q : Int → xS → Prop) (X : String → xS → Prop) : Prop :=
  w_X8_needSearch S (fun S1 => xJ0 (w_X8_search_J16 X) (fun j16 => ((a1 < 1 → j16 S1) ∧ (¬ a1 < 1 → ((a1 ≤ 500 → w_X6_goOn a1 S1 (fun r31 S31 => Q r31 S31)) ∧ (¬ a1 ≤ 500 → j16 S1)))))) X
def w_X8_verdict  (S : xS) (Q : Int → xS → Prop) (X : String → xS → Prop) : Prop :=
  w_X8_needSearch S (fun S1 => w_X6_judge S1 (fun r8 S8 => (S8 33 (-1) = S1 33 (-1)) ∧ (0 ≤ r8 ∧ r8 < 65536) ∧ Q r8 S8)) X
def w_X8_states  (S : xS) (Q : Int → xS → Prop) (X : String → xS → Prop) : Prop :=
  w_X8_needSearch S (fun S1 => Q (S1 4 0) S1) X
def w_X8_goneOn  (S : xS) (Q : Int → xS → Prop) (X : String → xS → Prop) : Prop :=
  w_X8_needSearch S (fun S1 => Q (S1 2 11) S1) X
def w_X8_needState_J18 (X : String → xS → Prop) (S18 : xS) : Prop :=
  X "java/lang/IndexOutOfBoundsException" S18
def w_X8_needState (a1 : Int) (S : xS) (Q : xS → Prop) (X : String → xS → Prop) : Prop :=
  xJ0 (w_X8_needState_J18 X) (fun j18 => ((a1 < 0 → j18 S) ∧ (¬ a1 < 0 → ((a1 < (S 4 0) → Q S) ∧ (¬ a1 < (S 4 0) → j18 S)))))
def w_X8_codeOf (a1 : Int) (S : xS) (Q : Int → xS → Prop) (X : String → xS → Prop) : Prop :=
  w_X8_needSearch S (fun S1 => w_X8_needState a1 S1 (fun S6 => (0 ≤ a1 ∧ a1 < 2000) ∧ Q (S6 25 a1) S6) X) X
def w_X8_moves (a1 : Int) (S : xS) (Q : Int → xS → Prop) (X : String → xS → Prop) : Prop :=
  w_X8_needSearch S (fun S1 => w_X8_needState a1 S1 (fun S6 => w_X6_countMoves a1 S6 (fun r14 S14 => (S14 33 (-1) = S6 33 (-1)) ∧ Q r14 S14)) X) X
def w_X8_reached_J25 (X : String → xS → Prop) (S25 : xS) : Prop :=
  X "java/util/NoSuchElementException" S25
def w_X8_reached (a1 : Int) (a2 : Int) (S : xS) (Q : Int → xS → Prop) (X : String → xS → Prop) : Prop :=
  w_X8_needSearch S (fun S1 => w_X8_needState a1 S1 (fun S6 => xJ0 (w_X8_reached_J25 X) (fun j25 => ((a2 < 0 → j25 S6) ∧ (¬ a2 < 0 → w_X6_countMoves a1 S6 (fun r19 S19 => ((a2 < r19 → w_X6_codeBehind a1 a2 S19 (fun r41 S41 => (S41 33 (-1) = S6 33 (-1)) ∧ Q r41 S41)) ∧ (¬ a2 < r19 → (S19 33 (-1) = S6 33 (-1)) ∧ j25 S19))))))) X) X
def w_X8_variableIn (a1 : Int) (a2 : Int) (S : xS) (Q : Int → xS → Prop) (X : String → xS → Prop) : Prop :=
  w_X8_needSearch S (fun S1 => w_X8_needState a1 S1 (fun S6 => w_X8_needVariable a2 S6 (fun S10 => w_X1_valueIn a1 a2 S10 (fun r22 S22 => (S22 33 (-1) = S10 33 (-1)) ∧ Q r22 S22)) X) X) X
def w_X8_made  (S : xS) (Q : Int → xS → Prop) (X : String → xS → Prop) : Prop :=
  w_X8_needSearch S (fun S1 => Q (S1 2 12) S1) X
def w_X8_needFault  (S : xS) (Q : xS → Prop) (X : String → xS → Prop) : Prop :=
  w_X8_needSearch S (fun S1 => ((¬ (S1 2 13) = 45 → Q S1) ∧ ((S1 2 13) = 45 → X "java/util/NoSuchElementException" S1))) X
def w_X8_fault  (S : xS) (Q : Int → xS → Prop) (X : String → xS → Prop) : Prop :=
  w_X8_needFault S (fun S1 => (0 ≤ (S1 2 13) ∧ (S1 2 13) < 65536) ∧ Q (S1 2 13) S1) X
def w_X8_traceLength  (S : xS) (Q : Int → xS → Prop) (X : String → xS → Prop) : Prop :=
  w_X8_needFault S (fun S1 => Q (S1 2 8) S1) X
def w_X8_needPlace_J15 (X : String → xS → Prop) (S15 : xS) : Prop :=
  X "java/lang/IndexOutOfBoundsException" S15
def w_X8_needPlace (a1 : Int) (S : xS) (Q : xS → Prop) (X : String → xS → Prop) : Prop :=
  xJ0 (w_X8_needPlace_J15 X) (fun j15 => ((a1 < 0 → j15 S) ∧ (¬ a1 < 0 → ((a1 < (S 2 8) → Q S) ∧ (¬ a1 < (S 2 8) → j15 S)))))
def w_X8_traceProcess (a1 : Int) (S : xS) (Q : Int → xS → Prop) (X : String → xS → Prop) : Prop :=
  w_X8_needFault S (fun S1 => w_X8_needPlace a1 S1 (fun S6 => (0 ≤ a1 ∧ a1 < 2000) ∧ w_X3_leadOf (S6 22 a1) S6 (fun r18 S18 => w_X4_processOf r18 S18 (fun r21 S21 => (S21 33 (-1) = S6 33 (-1)) ∧ Q r21 S21))) X) X
def w_X8_traceStep (a1 : Int) (S : xS) (Q : Int → xS → Prop) (X : String → xS → Prop) : Prop :=
  w_X8_needFault S (fun S1 => w_X8_needPlace a1 S1 (fun S6 => (0 ≤ a1 ∧ a1 < 2000) ∧ w_X3_leadOf (S6 22 a1) S6 (fun r18 S18 => w_X4_numberOf r18 S18 (fun r21 S21 => (S21 33 (-1) = S6 33 (-1)) ∧ Q r21 S21))) X) X
def w_X8_replays  (S : xS) (Q : Int → xS → Prop) (X : String → xS → Prop) : Prop :=
  w_X8_needFault S (fun S1 => w_X6_doesReplay S1 (fun r8 S8 => (S8 33 (-1) = S1 33 (-1)) ∧ (r8 = 0 ∨ r8 = 1) ∧ Q r8 S8)) X
def w_X8_needAllRuns_J34 (X : String → xS → Prop) (S34 : xS) : Prop :=
  X "java/lang/IllegalStateException" S34
def w_X8_needAllRuns  (S : xS) (Q : xS → Prop) (X : String → xS → Prop) : Prop :=
  xJ0 (w_X8_needAllRuns_J34 X) (fun j34 => (((S 2 9) = 0 → j34 S) ∧ (¬ (S 2 9) = 0 → ((¬ (S 2 10) = 97 → j34 S) ∧ ((S 2 10) = 97 → w_X6_judge S (fun r26 S26 => ((r26 = 110 → (S26 33 (-1) = S 33 (-1)) ∧ Q S26) ∧ (¬ r26 = 110 → (S26 33 (-1) = S 33 (-1)) ∧ j34 S26))))))))
def w_X8_recurs (a1 : Int) (a2 : Int) (a3 : Int) (S : xS) (Q : Int → xS → Prop) (X : String → xS → Prop) : Prop :=
  w_X8_needVariable a1 S (fun S1 => w_X8_needNumber a2 S1 (fun S5 => w_X8_needAllRuns S5 (fun S9 => w_X5_canLeaveForGood a1 a2 a3 S9 (fun r19 S19 => ((¬ r19 = 0 → (S19 33 (-1) = S9 33 (-1)) ∧ Q 0 S19) ∧ (r19 = 0 → (S19 33 (-1) = S9 33 (-1)) ∧ Q 1 S19)))) X) X) X
def w_X8_recursByTaking (a1 : Int) (a2 : Int) (S : xS) (Q : Int → xS → Prop) (X : String → xS → Prop) : Prop :=
  w_X8_needVariable a1 S (fun S1 => w_X8_needNumber a2 S1 (fun S5 => w_X8_needAllRuns S5 (fun S9 => w_X5_isAllTaken a1 a2 S9 (fun r18 S18 => (S18 33 (-1) = S9 33 (-1)) ∧ (r18 = 0 ∨ r18 = 1) ∧ Q r18 S18)) X) X) X
def w_X8_comes (a1 : Int) (a2 : Int) (a3 : Int) (S : xS) (Q : Int → xS → Prop) (X : String → xS → Prop) : Prop :=
  w_X8_needVariable a1 S (fun S1 => w_X8_needNumber a2 S1 (fun S5 => w_X8_needAllRuns S5 (fun S9 => w_X5_canMiss a1 a2 a3 S9 (fun r19 S19 => ((¬ r19 = 0 → (S19 33 (-1) = S9 33 (-1)) ∧ Q 0 S19) ∧ (r19 = 0 → (S19 33 (-1) = S9 33 (-1)) ∧ Q 1 S19)))) X) X) X
def w_X8_follows (a1 : Int) (a2 : Int) (a3 : Int) (a4 : Int) (a5 : Int) (S : xS) (Q : Int → xS → Prop) (X : String → xS → Prop) : Prop :=
  w_X8_needVariable a1 S (fun S1 => w_X8_needNumber a2 S1 (fun S5 => w_X8_needVariable a3 S5 (fun S9 => w_X8_needNumber a4 S9 (fun S14 => w_X8_needAllRuns S14 (fun S18 => w_X5_canMissBehind a1 a2 a3 a4 a5 S18 (fun r32 S32 => ((¬ r32 = 0 → (S32 33 (-1) = S18 33 (-1)) ∧ Q 0 S32) ∧ (r32 = 0 → (S32 33 (-1) = S18 33 (-1)) ∧ Q 1 S32)))) X) X) X) X) X
def w_X8_distance (a1 : Int) (a2 : Int) (S : xS) (Q : Int → xS → Prop) (X : String → xS → Prop) : Prop :=
  w_X8_needVariable a1 S (fun S1 => w_X8_needNumber a2 S1 (fun S5 => w_X8_needAllRuns S5 (fun S9 => w_X1_firstWith a1 a2 S9 (fun r21 S21 => ((¬ r21 = (-1) → (0 ≤ r21 ∧ r21 < 2000) ∧ (S21 33 (-1) = S9 33 (-1)) ∧ Q (S21 29 r21) S21) ∧ (r21 = (-1) → (S21 33 (-1) = S9 33 (-1)) ∧ X "java/util/NoSuchElementException" S21)))) X) X) X
def w_X8_components  (S : xS) (Q : Int → xS → Prop) (X : String → xS → Prop) : Prop :=
  w_X8_needAllRuns S (fun S1 => w_X5_countComponents S1 (fun r8 S8 => (S8 33 (-1) = S1 33 (-1)) ∧ Q r8 S8)) X
def w_X8_meanMoves  (S : xS) (Q : UInt64 → xS → Prop) (X : String → xS → Prop) : Prop :=
  w_X8_needSearch S (fun S1 => w_X6_countAllMoves S1 (fun r8 S8 => (vf_n64 (FP.ddiv (FP.l2d (jN r8)) (FP.i2d (iN (S8 4 0))))) ∧ (S8 33 (-1) = S1 33 (-1)) ∧ Q (FP.ddiv (FP.l2d (jN r8)) (FP.i2d (iN (S8 4 0)))) S8)) X
def w_X8_newShare  (S : xS) (Q : UInt32 → xS → Prop) (X : String → xS → Prop) : Prop :=
  w_X8_needSearch S (fun S1 => ((¬ (S1 2 12) = 0 → (vf_n32 (FP.fdiv (FP.i2f (iN ((S1 4 0) - 1))) (FP.l2f (jN (S1 2 12))))) ∧ Q (FP.fdiv (FP.i2f (iN ((S1 4 0) - 1))) (FP.l2f (jN (S1 2 12)))) S1) ∧ ((S1 2 12) = 0 → X "java/lang/ArithmeticException" S1))) X
def w_X9_meanMoves_L13 (Q : UInt64 → xS → Prop) (k13 : Int → Int → xS → Prop) (v1_13 : Int) (v2_13 : Int) (S13 : xS) : Prop :=
  (((S13 54 5) ≤ v2_13 → (vf_n64 (FP.ddiv (FP.i2d (iN v1_13)) (FP.i2d (iN (S13 54 5))))) ∧ Q (FP.ddiv (FP.i2d (iN v1_13)) (FP.i2d (iN (S13 54 5)))) S13) ∧ (¬ (S13 54 5) ≤ v2_13 → w_X9_movesOf v2_13 S13 (fun r24 S24 => (xR (v1_13 + r24)) ∧ (xR (v2_13 + 1)) ∧ k13 (v1_13 + r24) (v2_13 + 1) S24)))
def w_X9_meanMoves  (S : xS) (Q : UInt64 → xS → Prop) : Prop :=
  w_X9_isThere S (fun r1 S1 => ((¬ r1 = 0 → xL2 (w_X9_meanMoves_L13 Q) 0 0 S1) ∧ (r1 = 0 → Q (FP.dconst0) S1)))
def w_X9_newShare_J24 (Q : UInt32 → xS → Prop) (t0_24 : Int) (S24 : xS) : Prop :=
  ((¬ (S24 54 12) = 0 → (vf_n32 (FP.fdiv (FP.i2f (iN ((S24 54 5) - 1))) (FP.l2f (jN (S24 54 12))))) ∧ Q (FP.fdiv (FP.i2f (iN ((S24 54 5) - 1))) (FP.l2f (jN (S24 54 12)))) (xup S24 54 0 t0_24)) ∧ ((S24 54 12) = 0 → Q (FP.fconst0) (xup S24 54 0 t0_24)))
def w_X9_newShare  (S : xS) (Q : UInt32 → xS → Prop) : Prop :=
  w_X9_isThere S (fun r1 S1 => ((¬ r1 = 0 → xJ1 (w_X9_newShare_J24 Q) (fun j24 => ((¬ (S1 54 12) = 0 → j24 0 S1) ∧ ((S1 54 12) = 0 → j24 2 S1)))) ∧ (r1 = 0 → Q (FP.fconst0) S1)))
def w_L_addProcess  (S : xS) (Q : Int → xS → Prop) : Prop :=
  w_X8_addProcess S (fun r3 S3 => Q 0 (xup S3 98 0 r3)) (fun E9 S9 => (E9 = "java/lang/IllegalStateException" ∧ Q 1 S9))
def w_L_addStep (a1 : Int) (a2 : Int) (a3 : Int) (a4 : Int) (a5 : Int) (a6 : Int) (S : xS) (Q : Int → xS → Prop) : Prop :=
  w_X8_addStep a1 a2 a3 a4 a5 a6 S (fun r13 S13 => Q 0 (xup S13 98 0 r13)) (fun E9 S9 => (E9 = "java/lang/IndexOutOfBoundsException" ∧ Q 1 S9) ∨ (E9 = "java/lang/IllegalArgumentException" ∧ Q 2 S9) ∨ (E9 = "java/lang/IllegalStateException" ∧ Q 3 S9))
def w_L_addChannel (a1 : Int) (S : xS) (Q : Int → xS → Prop) : Prop :=
  w_X8_addChannel a1 S (fun r4 S4 => Q 0 (xup S4 98 0 r4)) (fun E9 S9 => (E9 = "java/lang/IllegalArgumentException" ∧ Q 1 S9) ∨ (E9 = "java/lang/IllegalStateException" ∧ Q 2 S9))
def w_L_setStart (a1 : Int) (a2 : Int) (S : xS) (Q : Int → xS → Prop) : Prop :=
  w_X8_setStart a1 a2 S (fun r5 S5 => Q 0 (xup S5 98 0 r5)) (fun E9 S9 => (E9 = "java/lang/IllegalArgumentException" ∧ Q 1 S9))
def w_L_setMarks (a1 : Int) (a2 : Int) (a3 : Int) (a4 : Int) (S : xS) (Q : Int → xS → Prop) : Prop :=
  w_X8_setMarks a1 a2 a3 a4 S (fun r9 S9 => ((r9 = 0 → Q 0 (xup S9 98 0 0)) ∧ (¬ r9 = 0 → Q 0 (xup S9 98 0 1)))) (fun E9 S9 => (E9 = "java/lang/IndexOutOfBoundsException" ∧ Q 1 S9) ∨ (E9 = "java/lang/IllegalArgumentException" ∧ Q 2 S9))
def w_L_addInvariant (a1 : Int) (a2 : Int) (S : xS) (Q : Int → xS → Prop) : Prop :=
  w_X8_addInvariant a1 a2 S (fun r5 S5 => Q 0 (xup S5 98 0 r5)) (fun E9 S9 => (E9 = "java/lang/IllegalArgumentException" ∧ Q 1 S9) ∨ (E9 = "java/lang/IllegalStateException" ∧ Q 2 S9))
def w_L_areAlike (a1 : Int) (a2 : Int) (S : xS) (Q : Int → xS → Prop) : Prop :=
  w_X8_areAlike a1 a2 S (fun r5 S5 => ((r5 = 0 → Q 0 (xup S5 98 0 0)) ∧ (¬ r5 = 0 → Q 0 (xup S5 98 0 1)))) (fun E9 S9 => (E9 = "java/lang/IndexOutOfBoundsException" ∧ Q 1 S9))
def w_L_begin (a1 : Int) (S : xS) (Q : Int → xS → Prop) : Prop :=
  w_X8_begin a1 S (fun r4 S4 => Q 0 (xup S4 98 0 r4)) (fun E9 S9 => (E9 = "java/lang/IllegalArgumentException" ∧ Q 1 S9) ∨ (E9 = "java/lang/UnsupportedOperationException" ∧ Q 2 S9))
def w_L_search (a1 : Int) (S : xS) (Q : Int → xS → Prop) : Prop :=
  w_X8_search a1 S (fun r4 S4 => Q 0 (xup S4 98 0 r4)) (fun E9 S9 => (E9 = "java/lang/IllegalStateException" ∧ Q 1 S9) ∨ (E9 = "java/lang/IllegalArgumentException" ∧ Q 2 S9))
def w_L_verdict  (S : xS) (Q : Int → xS → Prop) : Prop :=
  w_X8_verdict S (fun r3 S3 => Q 0 (xup S3 98 0 r3)) (fun E9 S9 => (E9 = "java/lang/IllegalStateException" ∧ Q 1 S9))
def w_L_states  (S : xS) (Q : Int → xS → Prop) : Prop :=
  w_X8_states S (fun r3 S3 => Q 0 (xup S3 98 0 r3)) (fun E9 S9 => (E9 = "java/lang/IllegalStateException" ∧ Q 1 S9))
def w_L_goneOn  (S : xS) (Q : Int → xS → Prop) : Prop :=
  w_X8_goneOn S (fun r3 S3 => Q 0 (xup S3 98 0 r3)) (fun E9 S9 => (E9 = "java/lang/IllegalStateException" ∧ Q 1 S9))
def w_L_codeOf (a1 : Int) (S : xS) (Q : Int → xS → Prop) : Prop :=
  w_X8_codeOf a1 S (fun r4 S4 => Q 0 (xup S4 98 0 r4)) (fun E9 S9 => (E9 = "java/lang/IllegalStateException" ∧ Q 1 S9) ∨ (E9 = "java/lang/IndexOutOfBoundsException" ∧ Q 2 S9))
def w_L_moves (a1 : Int) (S : xS) (Q : Int → xS → Prop) : Prop :=
  w_X8_moves a1 S (fun r4 S4 => Q 0 (xup S4 98 0 r4)) (fun E9 S9 => (E9 = "java/lang/IllegalStateException" ∧ Q 1 S9) ∨ (E9 = "java/lang/IndexOutOfBoundsException" ∧ Q 2 S9))
def w_L_reached (a1 : Int) (a2 : Int) (S : xS) (Q : Int → xS → Prop) : Prop :=
  w_X8_reached a1 a2 S (fun r5 S5 => Q 0 (xup S5 98 0 r5)) (fun E9 S9 => (E9 = "java/lang/IllegalStateException" ∧ Q 1 S9) ∨ (E9 = "java/lang/IndexOutOfBoundsException" ∧ Q 2 S9) ∨ (E9 = "java/util/NoSuchElementException" ∧ Q 3 S9))
def w_L_variableIn (a1 : Int) (a2 : Int) (S : xS) (Q : Int → xS → Prop) : Prop :=
  w_X8_variableIn a1 a2 S (fun r5 S5 => Q 0 (xup S5 98 0 r5)) (fun E9 S9 => (E9 = "java/lang/IllegalStateException" ∧ Q 1 S9) ∨ (E9 = "java/lang/IndexOutOfBoundsException" ∧ Q 2 S9) ∨ (E9 = "java/lang/IllegalArgumentException" ∧ Q 3 S9))
def w_L_made  (S : xS) (Q : Int → xS → Prop) : Prop :=
  w_X8_made S (fun r3 S3 => Q 0 (xup S3 98 0 r3)) (fun E9 S9 => (E9 = "java/lang/IllegalStateException" ∧ Q 1 S9))
def w_L_fault  (S : xS) (Q : Int → xS → Prop) : Prop :=
  w_X8_fault S (fun r3 S3 => Q 0 (xup S3 98 0 r3)) (fun E9 S9 => (E9 = "java/lang/IllegalStateException" ∧ Q 1 S9) ∨ (E9 = "java/util/NoSuchElementException" ∧ Q 2 S9))
def w_L_traceLength  (S : xS) (Q : Int → xS → Prop) : Prop :=
  w_X8_traceLength S (fun r3 S3 => Q 0 (xup S3 98 0 r3)) (fun E9 S9 => (E9 = "java/lang/IllegalStateException" ∧ Q 1 S9) ∨ (E9 = "java/util/NoSuchElementException" ∧ Q 2 S9))
def w_L_traceProcess (a1 : Int) (S : xS) (Q : Int → xS → Prop) : Prop :=
  w_X8_traceProcess a1 S (fun r4 S4 => Q 0 (xup S4 98 0 r4)) (fun E9 S9 => (E9 = "java/lang/IllegalStateException" ∧ Q 1 S9) ∨ (E9 = "java/util/NoSuchElementException" ∧ Q 2 S9) ∨ (E9 = "java/lang/IndexOutOfBoundsException" ∧ Q 3 S9))
def w_L_traceStep (a1 : Int) (S : xS) (Q : Int → xS → Prop) : Prop :=
  w_X8_traceStep a1 S (fun r4 S4 => Q 0 (xup S4 98 0 r4)) (fun E9 S9 => (E9 = "java/lang/IllegalStateException" ∧ Q 1 S9) ∨ (E9 = "java/util/NoSuchElementException" ∧ Q 2 S9) ∨ (E9 = "java/lang/IndexOutOfBoundsException" ∧ Q 3 S9))
def w_L_replays  (S : xS) (Q : Int → xS → Prop) : Prop :=
  w_X8_replays S (fun r3 S3 => ((r3 = 0 → Q 0 (xup S3 98 0 0)) ∧ (¬ r3 = 0 → Q 0 (xup S3 98 0 1)))) (fun E9 S9 => (E9 = "java/lang/IllegalStateException" ∧ Q 1 S9) ∨ (E9 = "java/util/NoSuchElementException" ∧ Q 2 S9))
def w_L_recurs (a1 : Int) (a2 : Int) (a3 : Int) (S : xS) (Q : Int → xS → Prop) : Prop :=
  w_X8_recurs a1 a2 a3 S (fun r7 S7 => ((r7 = 0 → Q 0 (xup S7 98 0 0)) ∧ (¬ r7 = 0 → Q 0 (xup S7 98 0 1)))) (fun E9 S9 => (E9 = "java/lang/IllegalArgumentException" ∧ Q 1 S9) ∨ (E9 = "java/lang/IllegalStateException" ∧ Q 2 S9))
def w_L_recursByTaking (a1 : Int) (a2 : Int) (S : xS) (Q : Int → xS → Prop) : Prop :=
  w_X8_recursByTaking a1 a2 S (fun r5 S5 => ((r5 = 0 → Q 0 (xup S5 98 0 0)) ∧ (¬ r5 = 0 → Q 0 (xup S5 98 0 1)))) (fun E9 S9 => (E9 = "java/lang/IllegalArgumentException" ∧ Q 1 S9) ∨ (E9 = "java/lang/IllegalStateException" ∧ Q 2 S9))
def w_L_comes (a1 : Int) (a2 : Int) (a3 : Int) (S : xS) (Q : Int → xS → Prop) : Prop :=
  w_X8_comes a1 a2 a3 S (fun r7 S7 => ((r7 = 0 → Q 0 (xup S7 98 0 0)) ∧ (¬ r7 = 0 → Q 0 (xup S7 98 0 1)))) (fun E9 S9 => (E9 = "java/lang/IllegalArgumentException" ∧ Q 1 S9) ∨ (E9 = "java/lang/IllegalStateException" ∧ Q 2 S9))
def w_L_follows (a1 : Int) (a2 : Int) (a3 : Int) (a4 : Int) (a5 : Int) (S : xS) (Q : Int → xS → Prop) : Prop :=
  w_X8_follows a1 a2 a3 a4 a5 S (fun r11 S11 => ((r11 = 0 → Q 0 (xup S11 98 0 0)) ∧ (¬ r11 = 0 → Q 0 (xup S11 98 0 1)))) (fun E9 S9 => (E9 = "java/lang/IllegalArgumentException" ∧ Q 1 S9) ∨ (E9 = "java/lang/IllegalStateException" ∧ Q 2 S9))
def w_L_distance (a1 : Int) (a2 : Int) (S : xS) (Q : Int → xS → Prop) : Prop :=
  w_X8_distance a1 a2 S (fun r5 S5 => Q 0 (xup S5 98 0 r5)) (fun E9 S9 => (E9 = "java/lang/IllegalArgumentException" ∧ Q 1 S9) ∨ (E9 = "java/lang/IllegalStateException" ∧ Q 2 S9) ∨ (E9 = "java/util/NoSuchElementException" ∧ Q 3 S9))
def w_L_components  (S : xS) (Q : Int → xS → Prop) : Prop :=
  w_X8_components S (fun r3 S3 => Q 0 (xup S3 98 0 r3)) (fun E9 S9 => (E9 = "java/lang/IllegalStateException" ∧ Q 1 S9))
def w_L_meanMoves  (S : xS) (Q : Int → xS → Prop) : Prop :=
  w_X8_meanMoves S (fun r3 S3 => Q 0 (xup S3 99 0 (r3.toInt64.toInt))) (fun E9 S9 => (E9 = "java/lang/IllegalStateException" ∧ Q 1 S9))
def w_L_newShare  (S : xS) (Q : Int → xS → Prop) : Prop :=
  w_X8_newShare S (fun r3 S3 => (vf_n64 (FP.f2d r3)) ∧ Q 0 (xup S3 99 0 ((FP.f2d r3).toInt64.toInt))) (fun E9 S9 => (E9 = "java/lang/IllegalStateException" ∧ Q 1 S9) ∨ (E9 = "java/lang/ArithmeticException" ∧ Q 2 S9))
set_option maxRecDepth 100000 in
set_option maxHeartbeats 4000000 in
theorem c_X8_isSound (l : Launch) (D : va_G) (ca : Nat → ClassId) (ad : Nat → Nat) (tF : Nat)  (S : xS) (Q : Int → xS → Prop)  (h : w_X8_isSound  S Q) : xM l yX8_isSound (xws yX8_isSound cX8_isSound 1 (some .boolean)) ({ frames := 7, cells := 0, slots := 0, locals := 158 }) (gC D ca ad tF) [.ref (ad 0)] S (xQi Q) 0 0 := by
  refine xm_of RX8 rfl (by decide +kernel) (Nat.le_of_ble_eq_true rfl) ?_
  intro p e s m args below meth c A Z C hA hZ hr hlocks hw
  unfold w_X8_isSound at h
  show xV (gC D ca ad tF) p l e ({ frames := 7, cells := 0, slots := 0, locals := 158 }) s m args below meth c A 1 Z 0 0 0 [(0, .ref (ad 0))] [] S
  refine xi_aload_n C 0 dX8_isSound_0 rfl rfl ?_
  refine xi_getR C xK_X8 (q := 0) (r := 2) rfl 1 (by decide) (ki := 1) rfl xl_X8_27 rfl dX8_isSound_1 ?_
  refine xi_getIN C xK_X6 (q := 2) (r := 0) rfl 9 (by decide) (ki := 9) rfl xn_X8_251 rfl dX8_isSound_4 ?_
  refine xi_if_eq C 20 (xval.i (q := 2) (i := 9) hw (by decide) rfl) dX8_isSound_7 (by decide) (fun z1 => ?_) (fun z1 => ?_)
  · replace h := h.1 z1
    refine xi_iconst C (v := 1) dX8_isSound_20 rfl ?_
    refine xi_goto C 25 dX8_isSound_21 (by decide) ?_
    exact xr_i C hA hZ hr hlocks (xnarZ (Or.inr rfl)).1 dX8_isSound_25 (Nat.le_of_ble_eq_true rfl) (Nat.le_of_ble_eq_true rfl) hw ⟨_, rfl, (by decide), h⟩
  · replace h := h.2 z1
    refine xi_aload_n C 0 dX8_isSound_10 rfl rfl ?_
    refine xi_getR C xK_X8 (q := 0) (r := 2) rfl 1 (by decide) (ki := 1) rfl xl_X8_27 rfl dX8_isSound_11 ?_
    refine xc_Vi C hw (c_X6_isConsistent l D ca ad tF S _ h) xk_X6_isConsistent xv_X6_isConsistent xl_X8_255 ⟨Nat.le_of_ble_eq_true rfl, Nat.le_of_ble_eq_true rfl⟩ xK_X6 (q := 2) rfl rfl rfl (Nat.le_of_ble_eq_true rfl) ⟨Nat.le_of_ble_eq_true rfl, Nat.le_of_ble_eq_true rfl⟩ dX8_isSound_14 (fun r14 S14 h_r14 h hw2 => ?_)
    refine xi_if_eq C 24 h_r14 dX8_isSound_17 (by decide) (fun z3 => ?_) (fun z3 => ?_)
    · replace h := h.1 z3
      refine xi_iconst C (v := 0) dX8_isSound_24 rfl ?_
      exact xr_i C hA hZ hr hlocks (xnarZ (Or.inl rfl)).1 dX8_isSound_25 (Nat.le_of_ble_eq_true rfl) (Nat.le_of_ble_eq_true rfl) hw2 ⟨_, rfl, (by decide), h⟩
    · replace h := h.2 z3
      refine xi_iconst C (v := 1) dX8_isSound_20 rfl ?_
      refine xi_goto C 25 dX8_isSound_21 (by decide) ?_
      exact xr_i C hA hZ hr hlocks (xnarZ (Or.inr rfl)).1 dX8_isSound_25 (Nat.le_of_ble_eq_true rfl) (Nat.le_of_ble_eq_true rfl) hw2 ⟨_, rfl, (by decide), h⟩
set_option maxRecDepth 100000 in
set_option maxHeartbeats 4000000 in
theorem c_X8_addProcess (l : Launch) (D : va_G) (ca : Nat → ClassId) (ad : Nat → Nat) (tF : Nat)  (S : xS) (Q : Int → xS → Prop) (X : String → xS → Prop)  (h : w_X8_addProcess  S Q X) (hl9 : l.stackTraces = false) : xMY l yX8_addProcess (xws yX8_addProcess cX8_addProcess 1 (some .int)) ({ frames := 6, cells := xgc S + 1, slots := xgs S + 6, locals := 90 }) (gC D ca ad tF) [.ref (ad 0)] S (xQi Q) X 1 6 := by
  refine xmY_of RX8 rfl (by decide +kernel) (Nat.le_of_ble_eq_true rfl) ?_
  intro p e s m args below meth c A Z R hR9 C hA hZ hr hlocks ht hw
  subst hR9
  unfold w_X8_addProcess at h
  show xV (gC D ca ad tF) p l e ({ frames := 6, cells := xgc S + 1, slots := xgs S + 6, locals := 90 }) s m args below meth c A 1 Z (0 + (xgc S - xgc S)) (0 + (xgs S - xgs S)) 0 [(0, .ref (ad 0))] [] S
  refine xi_aload_n C 0 dX8_addProcess_0 rfl rfl ?_
  refine xi_getR C xK_X8 (q := 0) (r := 1) rfl 0 (by decide) (ki := 0) rfl xl_X8_16 rfl dX8_addProcess_1 ?_
  refine xi_getIN C xK_X4 (q := 1) (r := 0) rfl 0 (by decide) (ki := 0) rfl xn_X8_40 rfl dX8_addProcess_4 ?_
  refine xi_iconst C (v := 3) dX8_addProcess_7 rfl ?_
  refine xi_icmp_lt C 21 (xval.i (q := 1) (i := 0) hw (by decide) rfl) (by decide) dX8_addProcess_8 (by decide) (fun z1 => ?_) (fun z1 => ?_)
  · replace h := h.1 z1
    refine xi_aload_n C 0 dX8_addProcess_21 rfl rfl ?_
    refine xi_getR C xK_X8 (q := 0) (r := 2) rfl 1 (by decide) (ki := 1) rfl xl_X8_27 rfl dX8_addProcess_22 ?_
    refine xc_Vv C hw (c_X6_drop l D ca ad tF S _ h) xk_X6_drop xv_X6_drop xl_X8_51 ⟨Nat.le_of_ble_eq_true rfl, Nat.le_of_ble_eq_true rfl⟩ xK_X6 (q := 2) rfl rfl rfl (Nat.le_of_ble_eq_true rfl) ⟨xrm (Nat.le_of_ble_eq_true rfl), xrm (Nat.le_of_ble_eq_true rfl)⟩ dX8_addProcess_25 (fun S25 h hw2 => ?_)
    refine xi_aload_n C 0 dX8_addProcess_28 rfl rfl ?_
    refine xi_getR C xK_X8 (q := 0) (r := 1) rfl 0 (by decide) (ki := 0) rfl xl_X8_16 rfl dX8_addProcess_29 ?_
    refine xc_Vi C hw2 (c_X4_newProcess l D ca ad tF S25 _ h) xk_X4_newProcess xv_X4_newProcess xl_X8_54 ⟨Nat.le_of_ble_eq_true rfl, Nat.le_of_ble_eq_true rfl⟩ xK_X4 (q := 1) rfl rfl rfl (Nat.le_of_ble_eq_true rfl) ⟨xrm (Nat.le_of_ble_eq_true rfl), xrm (Nat.le_of_ble_eq_true rfl)⟩ dX8_addProcess_32 (fun r32 S32 h_r32 h hw3 => ?_)
    obtain ⟨hc4, h⟩ := h
    exact xr_iY C hA hZ (xAl.refl S) hc4 hr hlocks rfl dX8_addProcess_35 (Nat.le_of_ble_eq_true rfl) (Nat.le_of_ble_eq_true rfl) hw3 ⟨_, rfl, h_r32, h⟩
  · replace h := h.2 z1
    exact xi_throw C hA hZ hl9 hlocks ht rfl xx_X8_44 xst_X8_46 (xAl.refl S) rfl ⟨Nat.le_of_ble_eq_true rfl, Nat.le_of_ble_eq_true rfl⟩ (Nat.le_of_ble_eq_true rfl) (Nat.le_of_ble_eq_true rfl) dX8_addProcess_11 dX8_addProcess_14 dX8_addProcess_15 dX8_addProcess_17 dX8_addProcess_20 hw h
set_option maxRecDepth 100000 in
set_option maxHeartbeats 4000000 in
theorem c_X8_needProcess (l : Launch) (D : va_G) (ca : Nat → ClassId) (ad : Nat → Nat) (tF : Nat) (a1 : Int) (S : xS) (Q : xS → Prop) (X : String → xS → Prop) (h_a1 : xR a1) (h : w_X8_needProcess a1 S Q X) (hl9 : l.stackTraces = false) : xMY l yX8_needProcess (xws yX8_needProcess cX8_needProcess 2 (none)) ({ frames := 6, cells := xgc S + 1, slots := xgs S + 6, locals := 90 }) (gC D ca ad tF) [.ref (ad 0), .int (iN a1)] S (xQv Q) X 1 6 := by
  refine xmY_of RX8 rfl (by decide +kernel) (Nat.le_of_ble_eq_true rfl) ?_
  intro p e s m args below meth c A Z R hR9 C hA hZ hr hlocks ht hw
  subst hR9
  unfold w_X8_needProcess at h
  show xV (gC D ca ad tF) p l e ({ frames := 6, cells := xgc S + 1, slots := xgs S + 6, locals := 90 }) s m args below meth c A 2 Z (0 + (xgc S - xgc S)) (0 + (xgs S - xgs S)) 0 [(0, .ref (ad 0)), (1, .int (iN a1))] [] S
  refine xi_iload_n C 1 dX8_needProcess_0 rfl rfl ?_
  refine xJ0_w (fun  S15 => xval (gC D ca ad tF) S15 → xAl S S15 → xV (gC D ca ad tF) p l e ({ frames := 6, cells := xgc S + 1, slots := xgs S + 6, locals := 90 }) s m args below meth c A 2 Z (0 + (xgc S - xgc S15)) (0 + (xgs S - xgs S15)) 15 [] [] S15) h (fun  S15 h  hw15 ha15 => ?_) (fun j15 hj15 h => ?_)
  · unfold w_X8_needProcess_J15 at h
    exact xi_throwW C hA hZ hl9 hlocks ht rfl xx_X8_258 xst_X8_260 ha15 rfl ⟨Nat.le_of_ble_eq_true rfl, Nat.le_of_ble_eq_true rfl⟩ (Nat.le_of_ble_eq_true rfl) (Nat.le_of_ble_eq_true rfl) dX8_needProcess_15 dX8_needProcess_18 dX8_needProcess_19 dX8_needProcess_22 dX8_needProcess_25 hw15 h
  · refine xi_if_lt C 15 h_a1 dX8_needProcess_1 (by decide) (fun z1 => ?_) (fun z1 => ?_)
    · replace h := h.1 z1
      exact xV_alY (S1 := S) rfl (xi_sub [] rfl (hj15 S h hw ((xAl.refl S).eq rfl)))
    · replace h := h.2 z1
      refine xi_iload_n C 1 dX8_needProcess_4 rfl rfl ?_
      refine xi_aload_n C 0 dX8_needProcess_5 rfl rfl ?_
      refine xi_getR C xK_X8 (q := 0) (r := 1) rfl 0 (by decide) (ki := 0) rfl xl_X8_16 rfl dX8_needProcess_6 ?_
      refine xi_getIN C xK_X4 (q := 1) (r := 0) rfl 0 (by decide) (ki := 0) rfl xn_X8_40 rfl dX8_needProcess_9 ?_
      refine xi_icmp_lt C 26 h_a1 (xval.i (q := 1) (i := 0) hw (by decide) rfl) dX8_needProcess_12 (by decide) (fun z2 => ?_) (fun z2 => ?_)
      · replace h := h.1 z2
        exact xr_vY C hA hZ (xAl.refl S) rfl hr hlocks dX8_needProcess_26 (Nat.le_of_ble_eq_true rfl) (Nat.le_of_ble_eq_true rfl) hw ⟨rfl, h⟩
      · replace h := h.2 z2
        exact xV_alY (S1 := S) rfl (xi_sub [] rfl (hj15 S h hw ((xAl.refl S).eq rfl)))
set_option maxRecDepth 100000 in
set_option maxHeartbeats 4000000 in
theorem c_X8_needLocation (l : Launch) (D : va_G) (ca : Nat → ClassId) (ad : Nat → Nat) (tF : Nat) (a0 : Int) (S : xS) (Q : xS → Prop) (X : String → xS → Prop) (h_a0 : xR a0) (h : w_X8_needLocation a0 S Q X) (hl9 : l.stackTraces = false) : xMY l yX8_needLocation (xws yX8_needLocation cX8_needLocation 1 (none)) ({ frames := 6, cells := xgc S + 1, slots := xgs S + 6, locals := 90 }) (gC D ca ad tF) [.int (iN a0)] S (xQv Q) X 1 6 := by
  refine xmY_of RX8 rfl (by decide +kernel) (Nat.le_of_ble_eq_true rfl) ?_
  intro p e s m args below meth c A Z R hR9 C hA hZ hr hlocks ht hw
  subst hR9
  unfold w_X8_needLocation at h
  show xV (gC D ca ad tF) p l e ({ frames := 6, cells := xgc S + 1, slots := xgs S + 6, locals := 90 }) s m args below meth c A 1 Z (0 + (xgc S - xgc S)) (0 + (xgs S - xgs S)) 0 [(0, .int (iN a0))] [] S
  refine xi_iload_n C 0 dX8_needLocation_0 rfl rfl ?_
  refine xJ0_w (fun  S10 => xval (gC D ca ad tF) S10 → xAl S S10 → xV (gC D ca ad tF) p l e ({ frames := 6, cells := xgc S + 1, slots := xgs S + 6, locals := 90 }) s m args below meth c A 1 Z (0 + (xgc S - xgc S10)) (0 + (xgs S - xgs S10)) 10 [] [] S10) h (fun  S10 h  hw10 ha10 => ?_) (fun j10 hj10 h => ?_)
  · unfold w_X8_needLocation_J10 at h
    exact xi_throwW C hA hZ hl9 hlocks ht rfl xx_X8_69 xst_X8_263 ha10 rfl ⟨Nat.le_of_ble_eq_true rfl, Nat.le_of_ble_eq_true rfl⟩ (Nat.le_of_ble_eq_true rfl) (Nat.le_of_ble_eq_true rfl) dX8_needLocation_10 dX8_needLocation_13 dX8_needLocation_14 dX8_needLocation_17 dX8_needLocation_20 hw10 h
  · refine xi_if_lt C 10 h_a0 dX8_needLocation_1 (by decide) (fun z1 => ?_) (fun z1 => ?_)
    · replace h := h.1 z1
      exact xV_alY (S1 := S) rfl (xi_sub [] rfl (hj10 S h hw ((xAl.refl S).eq rfl)))
    · replace h := h.2 z1
      refine xi_iload_n C 0 dX8_needLocation_4 rfl rfl ?_
      refine xi_bipush C (v := 12) dX8_needLocation_5 (by decide +kernel) ?_
      refine xi_icmp_lt C 21 h_a0 (by decide) dX8_needLocation_7 (by decide) (fun z2 => ?_) (fun z2 => ?_)
      · replace h := h.1 z2
        exact xr_vY C hA hZ (xAl.refl S) rfl hr hlocks dX8_needLocation_21 (Nat.le_of_ble_eq_true rfl) (Nat.le_of_ble_eq_true rfl) hw ⟨rfl, h⟩
      · replace h := h.2 z2
        exact xV_alY (S1 := S) rfl (xi_sub [] rfl (hj10 S h hw ((xAl.refl S).eq rfl)))
set_option maxRecDepth 100000 in
set_option maxHeartbeats 4000000 in
theorem c_X8_addStep (l : Launch) (D : va_G) (ca : Nat → ClassId) (ad : Nat → Nat) (tF : Nat) (a1 : Int) (a2 : Int) (a3 : Int) (a4 : Int) (a5 : Int) (a6 : Int) (S : xS) (Q : Int → xS → Prop) (X : String → xS → Prop) (h_a1 : xR a1) (h_a2 : xR a2) (h_a3 : xR a3) (h_a4 : xR a4) (h_a5 : xR a5) (h_a6 : xR a6) (h : w_X8_addStep a1 a2 a3 a4 a5 a6 S Q X) (hl9 : l.stackTraces = false) : xMY l yX8_addStep (xws yX8_addStep cX8_addStep 7 (some .int)) ({ frames := 7, cells := xgc S + 4, slots := xgs S + 24, locals := 111 }) (gC D ca ad tF) [.ref (ad 0), .int (iN a1), .int (iN a2), .int (iN a3), .int (iN a4), .int (iN a5), .int (iN a6)] S (xQi Q) X 4 24 := by
  refine xmY_of RX8 rfl (by decide +kernel) (Nat.le_of_ble_eq_true rfl) ?_
  intro p e s m args below meth c A Z R hR9 C hA hZ hr hlocks ht hw
  subst hR9
  unfold w_X8_addStep at h
  show xV (gC D ca ad tF) p l e ({ frames := 7, cells := xgc S + 4, slots := xgs S + 24, locals := 111 }) s m args below meth c A 7 Z (0 + (xgc S - xgc S)) (0 + (xgs S - xgs S)) 0 [(0, .ref (ad 0)), (1, .int (iN a1)), (2, .int (iN a2)), (3, .int (iN a3)), (4, .int (iN a4)), (5, .int (iN a5)), (6, .int (iN a6))] [] S
  refine xi_aload_n C 0 dX8_addStep_0 rfl rfl ?_
  refine xi_iload_n C 1 dX8_addStep_1 rfl rfl ?_
  refine xc_VY C hw (xAl.refl S) rfl rfl (c_X8_needProcess l D ca ad tF a1 S _ _ h_a1 h hl9) xk_X8_needProcess xv_X8_needProcess xl_X8_58 ⟨⟨Nat.le_of_ble_eq_true rfl, Nat.le_of_ble_eq_true rfl⟩, Nat.le_of_ble_eq_true rfl, Nat.le_of_ble_eq_true rfl⟩ xK_X8 (q := 0) rfl rfl rfl (Nat.le_of_ble_eq_true rfl) dX8_addStep_2 (fun E9 S9 h9 hw9 ha9 => xt_out C hA hZ hlocks ht ha9 rfl (Nat.le_of_ble_eq_true rfl) (Nat.le_of_ble_eq_true rfl) hw9 h9) (fun r9 S2 h9 hw1 ha2 => ?_)
  obtain ⟨rfl, h⟩ := h9
  refine xi_iload_n C 2 dX8_addStep_5 rfl rfl ?_
  refine xc_SY C hw1 ha2 rfl rfl (c_X8_needLocation l D ca ad tF a2 S2 _ _ h_a2 h hl9) xk_X8_needLocation xs_X8_needLocation xl_X8_62 ⟨⟨Nat.le_of_ble_eq_true rfl, Nat.le_of_ble_eq_true rfl⟩, Nat.le_of_ble_eq_true rfl, Nat.le_of_ble_eq_true rfl⟩ rfl rfl (Nat.le_of_ble_eq_true rfl) dX8_addStep_6 (fun E9 S9 h9 hw9 ha9 => xt_out C hA hZ hlocks ht ha9 rfl (Nat.le_of_ble_eq_true rfl) (Nat.le_of_ble_eq_true rfl) hw9 h9) (fun r9 S6 h9 hw3 ha4 => ?_)
  obtain ⟨rfl, h⟩ := h9
  refine xi_iload_n C 3 dX8_addStep_9 rfl rfl ?_
  refine xc_SY C hw3 ha4 rfl rfl (c_X8_needLocation l D ca ad tF a3 S6 _ _ h_a3 h hl9) xk_X8_needLocation xs_X8_needLocation xl_X8_62 ⟨⟨Nat.le_of_ble_eq_true rfl, Nat.le_of_ble_eq_true rfl⟩, Nat.le_of_ble_eq_true rfl, Nat.le_of_ble_eq_true rfl⟩ rfl rfl (Nat.le_of_ble_eq_true rfl) dX8_addStep_10 (fun E9 S9 h9 hw9 ha9 => xt_out C hA hZ hlocks ht ha9 rfl (Nat.le_of_ble_eq_true rfl) (Nat.le_of_ble_eq_true rfl) hw9 h9) (fun r9 S10 h9 hw5 ha6 => ?_)
  obtain ⟨rfl, h⟩ := h9
  refine xi_aload_n C 0 dX8_addStep_13 rfl rfl ?_
  refine xi_getR C xK_X8 (q := 0) (r := 1) rfl 0 (by decide) (ki := 0) rfl xl_X8_16 rfl dX8_addStep_14 ?_
  refine xi_iload_n C 1 dX8_addStep_17 rfl rfl ?_
  refine xi_iload C 4 dX8_addStep_18 rfl ?_
  refine xi_iload C 5 dX8_addStep_20 rfl ?_
  refine xi_iload C 6 dX8_addStep_22 rfl ?_
  refine xc_Vi C hw5 (c_X4_fits l D ca ad tF a1 a4 a5 a6 S10 _ h_a1 h_a4 h_a5 h_a6 h) xk_X4_fits xv_X4_fits xl_X8_65 ⟨Nat.le_of_ble_eq_true rfl, Nat.le_of_ble_eq_true rfl⟩ xK_X4 (q := 1) rfl rfl rfl (Nat.le_of_ble_eq_true rfl) ⟨xrm (Nat.le_of_ble_eq_true rfl), xrm (Nat.le_of_ble_eq_true rfl)⟩ dX8_addStep_24 (fun r24 S24 h_r24 h hw7 => ?_)
  refine xi_if_ne C 40 h_r24 dX8_addStep_27 (by decide) (fun z8 => ?_) (fun z8 => ?_)
  · replace h := h.1 z8
    refine xi_aload_n C 0 dX8_addStep_40 rfl rfl ?_
    refine xi_getR C xK_X8 (q := 0) (r := 1) rfl 0 (by decide) (ki := 0) rfl xl_X8_16 rfl dX8_addStep_41 ?_
    refine xi_getRN C xK_X4 (q := 1) (r := 10) rfl 1 (by decide) (ki := 1) rfl xn_X8_74 rfl dX8_addStep_44 ?_
    refine xi_iload_n C 1 dX8_addStep_47 rfl rfl ?_
    obtain ⟨hc9, h⟩ := h
    refine xi_iaload C (q := 10) rfl (by decide) hc9 dX8_addStep_48 ?_
    refine xi_bipush C (v := 14) dX8_addStep_49 (by decide +kernel) ?_
    refine xi_icmp_lt C 64 (xval.i (q := 10) (i := a1) hw7 hc9.1 rfl) (by decide) dX8_addStep_51 (by decide) (fun z10 => ?_) (fun z10 => ?_)
    · replace h := h.1 z10
      refine xi_aload_n C 0 dX8_addStep_64 rfl rfl ?_
      refine xi_getR C xK_X8 (q := 0) (r := 2) rfl 1 (by decide) (ki := 1) rfl xl_X8_27 rfl dX8_addStep_65 ?_
      refine xc_Vv C hw7 (c_X6_drop l D ca ad tF S24 _ h) xk_X6_drop xv_X6_drop xl_X8_51 ⟨Nat.le_of_ble_eq_true rfl, Nat.le_of_ble_eq_true rfl⟩ xK_X6 (q := 2) rfl rfl rfl (Nat.le_of_ble_eq_true rfl) ⟨xrm (Nat.le_of_ble_eq_true rfl), xrm (Nat.le_of_ble_eq_true rfl)⟩ dX8_addStep_68 (fun S68 h hw11 => ?_)
      refine xi_aload_n C 0 dX8_addStep_71 rfl rfl ?_
      refine xi_getR C xK_X8 (q := 0) (r := 1) rfl 0 (by decide) (ki := 0) rfl xl_X8_16 rfl dX8_addStep_72 ?_
      refine xi_iload_n C 1 dX8_addStep_75 rfl rfl ?_
      refine xi_iload_n C 2 dX8_addStep_76 rfl rfl ?_
      refine xi_iload_n C 3 dX8_addStep_77 rfl rfl ?_
      refine xi_iload C 4 dX8_addStep_78 rfl ?_
      refine xi_iload C 5 dX8_addStep_80 rfl ?_
      refine xi_iload C 6 dX8_addStep_82 rfl ?_
      refine xc_Vi C hw11 (c_X4_newStep l D ca ad tF a1 a2 a3 a4 a5 a6 S68 _ h_a1 h_a2 h_a3 h_a4 h_a5 h_a6 h) xk_X4_newStep xv_X4_newStep xl_X8_80 ⟨Nat.le_of_ble_eq_true rfl, Nat.le_of_ble_eq_true rfl⟩ xK_X4 (q := 1) rfl rfl rfl (Nat.le_of_ble_eq_true rfl) ⟨xrm (Nat.le_of_ble_eq_true rfl), xrm (Nat.le_of_ble_eq_true rfl)⟩ dX8_addStep_84 (fun r84 S84 h_r84 h hw12 => ?_)
      obtain ⟨hc13, h⟩ := h
      exact xr_iY C hA hZ ha6 hc13 hr hlocks rfl dX8_addStep_87 (Nat.le_of_ble_eq_true rfl) (Nat.le_of_ble_eq_true rfl) hw12 ⟨_, rfl, h_r84, h⟩
    · replace h := h.2 z10
      obtain ⟨hc14, h⟩ := h
      exact xi_throw C hA hZ hl9 hlocks ht rfl xx_X8_44 xst_X8_78 ha6 hc14 ⟨Nat.le_of_ble_eq_true rfl, Nat.le_of_ble_eq_true rfl⟩ (Nat.le_of_ble_eq_true rfl) (Nat.le_of_ble_eq_true rfl) dX8_addStep_54 dX8_addStep_57 dX8_addStep_58 dX8_addStep_60 dX8_addStep_63 hw7 h
  · replace h := h.2 z8
    obtain ⟨hc15, h⟩ := h
    exact xi_throw C hA hZ hl9 hlocks ht rfl xx_X8_69 xst_X8_71 ha6 hc15 ⟨Nat.le_of_ble_eq_true rfl, Nat.le_of_ble_eq_true rfl⟩ (Nat.le_of_ble_eq_true rfl) (Nat.le_of_ble_eq_true rfl) dX8_addStep_30 dX8_addStep_33 dX8_addStep_34 dX8_addStep_36 dX8_addStep_39 hw7 h
set_option maxRecDepth 100000 in
set_option maxHeartbeats 4000000 in
theorem c_X8_addChannel (l : Launch) (D : va_G) (ca : Nat → ClassId) (ad : Nat → Nat) (tF : Nat) (a1 : Int) (S : xS) (Q : Int → xS → Prop) (X : String → xS → Prop) (h_a1 : xR a1) (h : w_X8_addChannel a1 S Q X) (hl9 : l.stackTraces = false) : xMY l yX8_addChannel (xws yX8_addChannel cX8_addChannel 2 (some .int)) ({ frames := 6, cells := xgc S + 1, slots := xgs S + 6, locals := 90 }) (gC D ca ad tF) [.ref (ad 0), .int (iN a1)] S (xQi Q) X 1 6 := by
  refine xmY_of RX8 rfl (by decide +kernel) (Nat.le_of_ble_eq_true rfl) ?_
  intro p e s m args below meth c A Z R hR9 C hA hZ hr hlocks ht hw
  subst hR9
  unfold w_X8_addChannel at h
  show xV (gC D ca ad tF) p l e ({ frames := 6, cells := xgc S + 1, slots := xgs S + 6, locals := 90 }) s m args below meth c A 2 Z (0 + (xgc S - xgc S)) (0 + (xgs S - xgs S)) 0 [(0, .ref (ad 0)), (1, .int (iN a1))] [] S
  refine xi_iload_n C 1 dX8_addChannel_0 rfl rfl ?_
  refine xJ0_w (fun  S9 => xval (gC D ca ad tF) S9 → xAl S S9 → xV (gC D ca ad tF) p l e ({ frames := 6, cells := xgc S + 1, slots := xgs S + 6, locals := 90 }) s m args below meth c A 2 Z (0 + (xgc S - xgc S9)) (0 + (xgs S - xgs S9)) 9 [] [] S9) h (fun  S9 h  hw9 ha9 => ?_) (fun j9 hj9 h => ?_)
  · unfold w_X8_addChannel_J9 at h
    exact xi_throw C hA hZ hl9 hlocks ht rfl xx_X8_69 xst_X8_84 ha9 rfl ⟨Nat.le_of_ble_eq_true rfl, Nat.le_of_ble_eq_true rfl⟩ (Nat.le_of_ble_eq_true rfl) (Nat.le_of_ble_eq_true rfl) dX8_addChannel_9 dX8_addChannel_12 dX8_addChannel_13 dX8_addChannel_15 dX8_addChannel_18 hw9 h
  · refine xi_if_lt C 9 h_a1 dX8_addChannel_1 (by decide) (fun z1 => ?_) (fun z1 => ?_)
    · replace h := h.1 z1
      exact xV_alY (S1 := S) rfl (xi_sub [] rfl (hj9 S h hw ((xAl.refl S).eq rfl)))
    · replace h := h.2 z1
      refine xi_iload_n C 1 dX8_addChannel_4 rfl rfl ?_
      refine xi_iconst C (v := 2) dX8_addChannel_5 rfl ?_
      refine xi_icmp_le C 19 h_a1 (by decide) dX8_addChannel_6 (by decide) (fun z2 => ?_) (fun z2 => ?_)
      · replace h := h.1 z2
        refine xi_aload_n C 0 dX8_addChannel_19 rfl rfl ?_
        refine xi_getR C xK_X8 (q := 0) (r := 1) rfl 0 (by decide) (ki := 0) rfl xl_X8_16 rfl dX8_addChannel_20 ?_
        refine xi_getIN C xK_X4 (q := 1) (r := 0) rfl 7 (by decide) (ki := 7) rfl xn_X8_86 rfl dX8_addChannel_23 ?_
        refine xi_iconst C (v := 2) dX8_addChannel_26 rfl ?_
        refine xi_icmp_lt C 40 (xval.i (q := 1) (i := 7) hw (by decide) rfl) (by decide) dX8_addChannel_27 (by decide) (fun z3 => ?_) (fun z3 => ?_)
        · replace h := h.1 z3
          refine xi_aload_n C 0 dX8_addChannel_40 rfl rfl ?_
          refine xi_getR C xK_X8 (q := 0) (r := 2) rfl 1 (by decide) (ki := 1) rfl xl_X8_27 rfl dX8_addChannel_41 ?_
          refine xc_Vv C hw (c_X6_drop l D ca ad tF S _ h) xk_X6_drop xv_X6_drop xl_X8_51 ⟨Nat.le_of_ble_eq_true rfl, Nat.le_of_ble_eq_true rfl⟩ xK_X6 (q := 2) rfl rfl rfl (Nat.le_of_ble_eq_true rfl) ⟨xrm (Nat.le_of_ble_eq_true rfl), xrm (Nat.le_of_ble_eq_true rfl)⟩ dX8_addChannel_44 (fun S44 h hw4 => ?_)
          refine xi_aload_n C 0 dX8_addChannel_47 rfl rfl ?_
          refine xi_getR C xK_X8 (q := 0) (r := 1) rfl 0 (by decide) (ki := 0) rfl xl_X8_16 rfl dX8_addChannel_48 ?_
          refine xi_iload_n C 1 dX8_addChannel_51 rfl rfl ?_
          refine xc_Vi C hw4 (c_X4_newChannel l D ca ad tF a1 S44 _ h_a1 h) xk_X4_newChannel xv_X4_newChannel xl_X8_91 ⟨Nat.le_of_ble_eq_true rfl, Nat.le_of_ble_eq_true rfl⟩ xK_X4 (q := 1) rfl rfl rfl (Nat.le_of_ble_eq_true rfl) ⟨xrm (Nat.le_of_ble_eq_true rfl), xrm (Nat.le_of_ble_eq_true rfl)⟩ dX8_addChannel_52 (fun r52 S52 h_r52 h hw5 => ?_)
          obtain ⟨hc6, h⟩ := h
          exact xr_iY C hA hZ (xAl.refl S) hc6 hr hlocks rfl dX8_addChannel_55 (Nat.le_of_ble_eq_true rfl) (Nat.le_of_ble_eq_true rfl) hw5 ⟨_, rfl, h_r52, h⟩
        · replace h := h.2 z3
          exact xi_throw C hA hZ hl9 hlocks ht rfl xx_X8_44 xst_X8_89 (xAl.refl S) rfl ⟨Nat.le_of_ble_eq_true rfl, Nat.le_of_ble_eq_true rfl⟩ (Nat.le_of_ble_eq_true rfl) (Nat.le_of_ble_eq_true rfl) dX8_addChannel_30 dX8_addChannel_33 dX8_addChannel_34 dX8_addChannel_36 dX8_addChannel_39 hw h
      · replace h := h.2 z2
        exact xV_alY (S1 := S) rfl (xi_sub [] rfl (hj9 S h hw ((xAl.refl S).eq rfl)))
set_option maxRecDepth 100000 in
set_option maxHeartbeats 4000000 in
theorem c_X8_needVariable (l : Launch) (D : va_G) (ca : Nat → ClassId) (ad : Nat → Nat) (tF : Nat) (a0 : Int) (S : xS) (Q : xS → Prop) (X : String → xS → Prop) (h_a0 : xR a0) (h : w_X8_needVariable a0 S Q X) (hl9 : l.stackTraces = false) : xMY l yX8_needVariable (xws yX8_needVariable cX8_needVariable 1 (none)) ({ frames := 6, cells := xgc S + 1, slots := xgs S + 6, locals := 90 }) (gC D ca ad tF) [.int (iN a0)] S (xQv Q) X 1 6 := by
  refine xmY_of RX8 rfl (by decide +kernel) (Nat.le_of_ble_eq_true rfl) ?_
  intro p e s m args below meth c A Z R hR9 C hA hZ hr hlocks ht hw
  subst hR9
  unfold w_X8_needVariable at h
  show xV (gC D ca ad tF) p l e ({ frames := 6, cells := xgc S + 1, slots := xgs S + 6, locals := 90 }) s m args below meth c A 1 Z (0 + (xgc S - xgc S)) (0 + (xgs S - xgs S)) 0 [(0, .int (iN a0))] [] S
  refine xi_iload_n C 0 dX8_needVariable_0 rfl rfl ?_
  refine xJ0_w (fun  S10 => xval (gC D ca ad tF) S10 → xAl S S10 → xV (gC D ca ad tF) p l e ({ frames := 6, cells := xgc S + 1, slots := xgs S + 6, locals := 90 }) s m args below meth c A 1 Z (0 + (xgc S - xgc S10)) (0 + (xgs S - xgs S10)) 10 [] [] S10) h (fun  S10 h  hw10 ha10 => ?_) (fun j10 hj10 h => ?_)
  · unfold w_X8_needVariable_J10 at h
    exact xi_throwW C hA hZ hl9 hlocks ht rfl xx_X8_69 xst_X8_265 ha10 rfl ⟨Nat.le_of_ble_eq_true rfl, Nat.le_of_ble_eq_true rfl⟩ (Nat.le_of_ble_eq_true rfl) (Nat.le_of_ble_eq_true rfl) dX8_needVariable_10 dX8_needVariable_13 dX8_needVariable_14 dX8_needVariable_17 dX8_needVariable_20 hw10 h
  · refine xi_if_lt C 10 h_a0 dX8_needVariable_1 (by decide) (fun z1 => ?_) (fun z1 => ?_)
    · replace h := h.1 z1
      exact xV_alY (S1 := S) rfl (xi_sub [] rfl (hj10 S h hw ((xAl.refl S).eq rfl)))
    · replace h := h.2 z1
      refine xi_iload_n C 0 dX8_needVariable_4 rfl rfl ?_
      refine xi_bipush C (v := 9) dX8_needVariable_5 (by decide +kernel) ?_
      refine xi_icmp_lt C 21 h_a0 (by decide) dX8_needVariable_7 (by decide) (fun z2 => ?_) (fun z2 => ?_)
      · replace h := h.1 z2
        exact xr_vY C hA hZ (xAl.refl S) rfl hr hlocks dX8_needVariable_21 (Nat.le_of_ble_eq_true rfl) (Nat.le_of_ble_eq_true rfl) hw ⟨rfl, h⟩
      · replace h := h.2 z2
        exact xV_alY (S1 := S) rfl (xi_sub [] rfl (hj10 S h hw ((xAl.refl S).eq rfl)))
set_option maxRecDepth 100000 in
set_option maxHeartbeats 4000000 in
theorem c_X8_needNumber (l : Launch) (D : va_G) (ca : Nat → ClassId) (ad : Nat → Nat) (tF : Nat) (a0 : Int) (S : xS) (Q : xS → Prop) (X : String → xS → Prop) (h_a0 : xR a0) (h : w_X8_needNumber a0 S Q X) (hl9 : l.stackTraces = false) : xMY l yX8_needNumber (xws yX8_needNumber cX8_needNumber 1 (none)) ({ frames := 6, cells := xgc S + 1, slots := xgs S + 6, locals := 90 }) (gC D ca ad tF) [.int (iN a0)] S (xQv Q) X 1 6 := by
  refine xmY_of RX8 rfl (by decide +kernel) (Nat.le_of_ble_eq_true rfl) ?_
  intro p e s m args below meth c A Z R hR9 C hA hZ hr hlocks ht hw
  subst hR9
  unfold w_X8_needNumber at h
  show xV (gC D ca ad tF) p l e ({ frames := 6, cells := xgc S + 1, slots := xgs S + 6, locals := 90 }) s m args below meth c A 1 Z (0 + (xgc S - xgc S)) (0 + (xgs S - xgs S)) 0 [(0, .int (iN a0))] [] S
  refine xi_iload_n C 0 dX8_needNumber_0 rfl rfl ?_
  refine xc_Si C hw (c_X4_isNumber l D ca ad tF a0 S _ h_a0 h) xk_X4_isNumber xs_X4_isNumber xl_X8_267 ⟨Nat.le_of_ble_eq_true rfl, Nat.le_of_ble_eq_true rfl⟩ rfl rfl (Nat.le_of_ble_eq_true rfl) ⟨xrm (Nat.le_of_ble_eq_true rfl), xrm (Nat.le_of_ble_eq_true rfl)⟩ dX8_needNumber_1 (fun r1 S1 h_r1 h hw1 => ?_)
  refine xi_if_ne C 18 h_r1 dX8_needNumber_4 (by decide) (fun z2 => ?_) (fun z2 => ?_)
  · replace h := h.1 z2
    obtain ⟨hc3, h⟩ := h
    exact xr_vY C hA hZ (xAl.refl S) hc3 hr hlocks dX8_needNumber_18 (Nat.le_of_ble_eq_true rfl) (Nat.le_of_ble_eq_true rfl) hw1 ⟨rfl, h⟩
  · replace h := h.2 z2
    obtain ⟨hc4, h⟩ := h
    exact xi_throwW C hA hZ hl9 hlocks ht rfl xx_X8_69 xst_X8_271 (xAl.refl S) hc4 ⟨Nat.le_of_ble_eq_true rfl, Nat.le_of_ble_eq_true rfl⟩ (Nat.le_of_ble_eq_true rfl) (Nat.le_of_ble_eq_true rfl) dX8_needNumber_7 dX8_needNumber_10 dX8_needNumber_11 dX8_needNumber_14 dX8_needNumber_17 hw1 h
set_option maxRecDepth 100000 in
set_option maxHeartbeats 4000000 in
theorem c_X8_setStart (l : Launch) (D : va_G) (ca : Nat → ClassId) (ad : Nat → Nat) (tF : Nat) (a1 : Int) (a2 : Int) (S : xS) (Q : Int → xS → Prop) (X : String → xS → Prop) (h_a1 : xR a1) (h_a2 : xR a2) (h : w_X8_setStart a1 a2 S Q X) (hl9 : l.stackTraces = false) : xMY l yX8_setStart (xws yX8_setStart cX8_setStart 4 (some .int)) ({ frames := 7, cells := xgc S + 2, slots := xgs S + 12, locals := 110 }) (gC D ca ad tF) [.ref (ad 0), .int (iN a1), .int (iN a2)] S (xQi Q) X 2 12 := by
  refine xmY_of RX8 rfl (by decide +kernel) (Nat.le_of_ble_eq_true rfl) ?_
  intro p e s m args below meth c A Z R hR9 C hA hZ hr hlocks ht hw
  subst hR9
  unfold w_X8_setStart at h
  show xV (gC D ca ad tF) p l e ({ frames := 7, cells := xgc S + 2, slots := xgs S + 12, locals := 110 }) s m args below meth c A 4 Z (0 + (xgc S - xgc S)) (0 + (xgs S - xgs S)) 0 [(0, .ref (ad 0)), (1, .int (iN a1)), (2, .int (iN a2))] [] S
  refine xi_iload_n C 1 dX8_setStart_0 rfl rfl ?_
  refine xc_SY C hw (xAl.refl S) rfl rfl (c_X8_needVariable l D ca ad tF a1 S _ _ h_a1 h hl9) xk_X8_needVariable xs_X8_needVariable xl_X8_95 ⟨⟨Nat.le_of_ble_eq_true rfl, Nat.le_of_ble_eq_true rfl⟩, Nat.le_of_ble_eq_true rfl, Nat.le_of_ble_eq_true rfl⟩ rfl rfl (Nat.le_of_ble_eq_true rfl) dX8_setStart_1 (fun E9 S9 h9 hw9 ha9 => xt_out C hA hZ hlocks ht ha9 rfl (Nat.le_of_ble_eq_true rfl) (Nat.le_of_ble_eq_true rfl) hw9 h9) (fun r9 S1 h9 hw1 ha2 => ?_)
  obtain ⟨rfl, h⟩ := h9
  refine xi_iload_n C 2 dX8_setStart_4 rfl rfl ?_
  refine xc_SY C hw1 ha2 rfl rfl (c_X8_needNumber l D ca ad tF a2 S1 _ _ h_a2 h hl9) xk_X8_needNumber xs_X8_needNumber xl_X8_98 ⟨⟨Nat.le_of_ble_eq_true rfl, Nat.le_of_ble_eq_true rfl⟩, Nat.le_of_ble_eq_true rfl, Nat.le_of_ble_eq_true rfl⟩ rfl rfl (Nat.le_of_ble_eq_true rfl) dX8_setStart_5 (fun E9 S9 h9 hw9 ha9 => xt_out C hA hZ hlocks ht ha9 rfl (Nat.le_of_ble_eq_true rfl) (Nat.le_of_ble_eq_true rfl) hw9 h9) (fun r9 S5 h9 hw3 ha4 => ?_)
  obtain ⟨rfl, h⟩ := h9
  refine xi_aload_n C 0 dX8_setStart_8 rfl rfl ?_
  refine xi_getR C xK_X8 (q := 0) (r := 2) rfl 1 (by decide) (ki := 1) rfl xl_X8_27 rfl dX8_setStart_9 ?_
  refine xc_Vv C hw3 (c_X6_drop l D ca ad tF S5 _ h) xk_X6_drop xv_X6_drop xl_X8_51 ⟨Nat.le_of_ble_eq_true rfl, Nat.le_of_ble_eq_true rfl⟩ xK_X6 (q := 2) rfl rfl rfl (Nat.le_of_ble_eq_true rfl) ⟨xrm (Nat.le_of_ble_eq_true rfl), xrm (Nat.le_of_ble_eq_true rfl)⟩ dX8_setStart_12 (fun S12 h hw5 => ?_)
  refine xi_aload_n C 0 dX8_setStart_15 rfl rfl ?_
  refine xi_getR C xK_X8 (q := 0) (r := 1) rfl 0 (by decide) (ki := 0) rfl xl_X8_16 rfl dX8_setStart_16 ?_
  refine xi_getRN C xK_X4 (q := 1) (r := 17) rfl 9 (by decide) (ki := 9) rfl xn_X8_101 rfl dX8_setStart_19 ?_
  refine xi_iload_n C 1 dX8_setStart_22 rfl rfl ?_
  obtain ⟨hc6, h⟩ := h
  refine xi_iaload C (q := 17) rfl (by decide) hc6 dX8_setStart_23 ?_
  refine xi_istore_n C (L' := [(3, .int (iN (S12 17 a1))), (0, .ref (ad 0)), (1, .int (iN a1)), (2, .int (iN a2))]) dX8_setStart_24 rfl (by decide) rfl ?_
  refine xi_aload_n C 1 dX8_setStart_25 rfl rfl ?_
  refine xi_getR C xK_X8 (q := 0) (r := 1) rfl 0 (by decide) (ki := 0) rfl xl_X8_16 rfl dX8_setStart_26 ?_
  refine xi_getRN C xK_X4 (q := 1) (r := 17) rfl 9 (by decide) (ki := 9) rfl xn_X8_101 rfl dX8_setStart_29 ?_
  refine xi_iload_n C 2 dX8_setStart_32 rfl rfl ?_
  refine xi_iload_n C 3 dX8_setStart_33 rfl rfl ?_
  refine xi_iastore C (q := 17) rfl (by decide) hc6 dX8_setStart_34 ?_
  have hw7 := xval.up (q := 17) (i := a1) (v := a2) hw5 rfl h_a2
  refine xi_iload_n C 0 dX8_setStart_35 rfl rfl ?_
  obtain ⟨hc8, h⟩ := h
  exact xr_iY C hA hZ ha4 ((congrFun (xup_cell (q' := 33) (by decide)) (-1)).trans hc8) hr hlocks rfl dX8_setStart_36 (Nat.le_of_ble_eq_true rfl) (Nat.le_of_ble_eq_true rfl) hw7 ⟨_, rfl, (xval.i (q := 17) (i := a1) hw5 hc6.1 rfl), h⟩
set_option maxRecDepth 100000 in
set_option maxHeartbeats 4000000 in
theorem c_X8_setMarks (l : Launch) (D : va_G) (ca : Nat → ClassId) (ad : Nat → Nat) (tF : Nat) (a1 : Int) (a2 : Int) (a3 : Int) (a4 : Int) (S : xS) (Q : Int → xS → Prop) (X : String → xS → Prop) (h_a1 : xR a1) (h_a2 : xR a2) (h_a3 : xR a3) (h_a4 : xR a4) (h : w_X8_setMarks a1 a2 a3 a4 S Q X) (hl9 : l.stackTraces = false) : xMY l yX8_setMarks (xws yX8_setMarks cX8_setMarks 5 (some .boolean)) ({ frames := 7, cells := xgc S + 2, slots := xgs S + 12, locals := 111 }) (gC D ca ad tF) [.ref (ad 0), .int (iN a1), .int (iN a2), .int (iN a3), .int (iN a4)] S (xQi Q) X 2 12 := by
  refine xmY_of RX8 rfl (by decide +kernel) (Nat.le_of_ble_eq_true rfl) ?_
  intro p e s m args below meth c A Z R hR9 C hA hZ hr hlocks ht hw
  subst hR9
  unfold w_X8_setMarks at h
  show xV (gC D ca ad tF) p l e ({ frames := 7, cells := xgc S + 2, slots := xgs S + 12, locals := 111 }) s m args below meth c A 5 Z (0 + (xgc S - xgc S)) (0 + (xgs S - xgs S)) 0 [(0, .ref (ad 0)), (1, .int (iN a1)), (2, .int (iN a2)), (3, .int (iN a3)), (4, .int (iN a4))] [] S
  refine xi_aload_n C 0 dX8_setMarks_0 rfl rfl ?_
  refine xi_iload_n C 1 dX8_setMarks_1 rfl rfl ?_
  refine xc_VY C hw (xAl.refl S) rfl rfl (c_X8_needProcess l D ca ad tF a1 S _ _ h_a1 h hl9) xk_X8_needProcess xv_X8_needProcess xl_X8_58 ⟨⟨Nat.le_of_ble_eq_true rfl, Nat.le_of_ble_eq_true rfl⟩, Nat.le_of_ble_eq_true rfl, Nat.le_of_ble_eq_true rfl⟩ xK_X8 (q := 0) rfl rfl rfl (Nat.le_of_ble_eq_true rfl) dX8_setMarks_2 (fun E9 S9 h9 hw9 ha9 => xt_out C hA hZ hlocks ht ha9 rfl (Nat.le_of_ble_eq_true rfl) (Nat.le_of_ble_eq_true rfl) hw9 h9) (fun r9 S2 h9 hw1 ha2 => ?_)
  obtain ⟨rfl, h⟩ := h9
  refine xi_iload_n C 2 dX8_setMarks_5 rfl rfl ?_
  refine xc_SY C hw1 ha2 rfl rfl (c_X8_needLocation l D ca ad tF a2 S2 _ _ h_a2 h hl9) xk_X8_needLocation xs_X8_needLocation xl_X8_62 ⟨⟨Nat.le_of_ble_eq_true rfl, Nat.le_of_ble_eq_true rfl⟩, Nat.le_of_ble_eq_true rfl, Nat.le_of_ble_eq_true rfl⟩ rfl rfl (Nat.le_of_ble_eq_true rfl) dX8_setMarks_6 (fun E9 S9 h9 hw9 ha9 => xt_out C hA hZ hlocks ht ha9 rfl (Nat.le_of_ble_eq_true rfl) (Nat.le_of_ble_eq_true rfl) hw9 h9) (fun r9 S6 h9 hw3 ha4 => ?_)
  obtain ⟨rfl, h⟩ := h9
  refine xi_aload_n C 0 dX8_setMarks_9 rfl rfl ?_
  refine xi_getR C xK_X8 (q := 0) (r := 2) rfl 1 (by decide) (ki := 1) rfl xl_X8_27 rfl dX8_setMarks_10 ?_
  refine xc_Vv C hw3 (c_X6_drop l D ca ad tF S6 _ h) xk_X6_drop xv_X6_drop xl_X8_51 ⟨Nat.le_of_ble_eq_true rfl, Nat.le_of_ble_eq_true rfl⟩ xK_X6 (q := 2) rfl rfl rfl (Nat.le_of_ble_eq_true rfl) ⟨xrm (Nat.le_of_ble_eq_true rfl), xrm (Nat.le_of_ble_eq_true rfl)⟩ dX8_setMarks_13 (fun S13 h hw5 => ?_)
  refine xi_aload_n C 0 dX8_setMarks_16 rfl rfl ?_
  refine xi_getR C xK_X8 (q := 0) (r := 1) rfl 0 (by decide) (ki := 0) rfl xl_X8_16 rfl dX8_setMarks_17 ?_
  refine xi_iload_n C 1 dX8_setMarks_20 rfl rfl ?_
  refine xi_iload_n C 2 dX8_setMarks_21 rfl rfl ?_
  refine xi_iload_n C 3 dX8_setMarks_22 rfl rfl ?_
  refine xJ1_w (fun t0_31 S31 => xR t0_31 → xval (gC D ca ad tF) S31 → xAl S S31 → xV (gC D ca ad tF) p l e ({ frames := 7, cells := xgc S + 2, slots := xgs S + 12, locals := 111 }) s m args below meth c A 5 Z (2 + (xgc S - xgc S31)) (12 + (xgs S - xgs S31)) 31 [(4, .int (iN a4))] [.int (iN t0_31), .int (iN a2), .int (iN a1), .ref (ad 1)] S31) h (fun t0_31 S31 h h_t0_31 hw31 ha31 => ?_) (fun j31 hj31 h => ?_)
  · unfold w_X8_setMarks_J31 at h
    refine xi_iload C 0 dX8_setMarks_31 rfl ?_
    refine xJ1_w (fun t0_41 S41 => xR t0_41 → xval (gC D ca ad tF) S41 → xAl S S41 → xV (gC D ca ad tF) p l e ({ frames := 7, cells := xgc S + 2, slots := xgs S + 12, locals := 111 }) s m args below meth c A 5 Z (2 + (xgc S - xgc S41)) (12 + (xgs S - xgs S41)) 41 [] [.int (iN t0_41), .int (iN t0_31), .int (iN a2), .int (iN a1), .ref (ad 1)] S41) h (fun t0_41 S41 h h_t0_41 hw41 ha41 => ?_) (fun j41 hj41 h => ?_)
    · unfold w_X8_setMarks_J41 at h
      refine xi_ior C dX8_setMarks_41 ?_
      refine xc_Vi C hw41 (c_X4_putMarks l D ca ad tF a1 a2 (xor32 t0_31 t0_41) S41 _ h_a1 h_a2 (xor32_R _ _) h) xk_X4_putMarks xv_X4_putMarks xl_X8_104 ⟨Nat.le_of_ble_eq_true rfl, Nat.le_of_ble_eq_true rfl⟩ xK_X4 (q := 1) rfl rfl rfl (Nat.le_of_ble_eq_true rfl) ⟨xrm (Nat.le_of_ble_eq_true rfl), xrm (Nat.le_of_ble_eq_true rfl)⟩ dX8_setMarks_42 (fun r42 S42 h_r42 h hw8 => ?_)
      obtain ⟨hc9, h⟩ := h
      obtain ⟨hc10, h⟩ := h
      exact xr_iY C hA hZ ha41 hc9 hr hlocks (xnarZ hc10).1 dX8_setMarks_45 (Nat.le_of_ble_eq_true rfl) (Nat.le_of_ble_eq_true rfl) hw8 ⟨_, rfl, h_r42, h⟩
    · refine xi_if_eq C 40 h_a4 dX8_setMarks_33 (by decide) (fun z7 => ?_) (fun z7 => ?_)
      · replace h := h.1 z7
        refine xi_iconst C (v := 0) dX8_setMarks_40 rfl ?_
        exact xV_alY (S1 := S31) rfl (xi_sub [] rfl (hj41 0 S31 h (by decide) hw31 (ha31.eq rfl)))
      · replace h := h.2 z7
        refine xi_iconst C (v := 2) dX8_setMarks_36 rfl ?_
        refine xi_goto C 41 dX8_setMarks_37 (by decide) ?_
        exact xV_alY (S1 := S31) rfl (xi_sub [] rfl (hj41 2 S31 h (by decide) hw31 (ha31.eq rfl)))
  · refine xi_if_eq C 30 h_a3 dX8_setMarks_23 (by decide) (fun z6 => ?_) (fun z6 => ?_)
    · replace h := h.1 z6
      refine xi_iconst C (v := 0) dX8_setMarks_30 rfl ?_
      obtain ⟨hc11, h⟩ := h
      exact xV_alY (S1 := S13) hc11 (xi_sub [4] rfl (hj31 0 S13 h (by decide) hw5 (ha4.eq hc11)))
    · replace h := h.2 z6
      refine xi_iconst C (v := 1) dX8_setMarks_26 rfl ?_
      refine xi_goto C 31 dX8_setMarks_27 (by decide) ?_
      obtain ⟨hc12, h⟩ := h
      exact xV_alY (S1 := S13) hc12 (xi_sub [4] rfl (hj31 1 S13 h (by decide) hw5 (ha4.eq hc12)))
set_option maxRecDepth 100000 in
set_option maxHeartbeats 4000000 in
theorem c_X8_addInvariant (l : Launch) (D : va_G) (ca : Nat → ClassId) (ad : Nat → Nat) (tF : Nat) (a1 : Int) (a2 : Int) (S : xS) (Q : Int → xS → Prop) (X : String → xS → Prop) (h_a1 : xR a1) (h_a2 : xR a2) (h : w_X8_addInvariant a1 a2 S Q X) (hl9 : l.stackTraces = false) : xMY l yX8_addInvariant (xws yX8_addInvariant cX8_addInvariant 3 (some .int)) ({ frames := 7, cells := xgc S + 3, slots := xgs S + 18, locals := 110 }) (gC D ca ad tF) [.ref (ad 0), .int (iN a1), .int (iN a2)] S (xQi Q) X 3 18 := by
  refine xmY_of RX8 rfl (by decide +kernel) (Nat.le_of_ble_eq_true rfl) ?_
  intro p e s m args below meth c A Z R hR9 C hA hZ hr hlocks ht hw
  subst hR9
  unfold w_X8_addInvariant at h
  show xV (gC D ca ad tF) p l e ({ frames := 7, cells := xgc S + 3, slots := xgs S + 18, locals := 110 }) s m args below meth c A 3 Z (0 + (xgc S - xgc S)) (0 + (xgs S - xgs S)) 0 [(0, .ref (ad 0)), (1, .int (iN a1)), (2, .int (iN a2))] [] S
  refine xi_iload_n C 1 dX8_addInvariant_0 rfl rfl ?_
  refine xc_SY C hw (xAl.refl S) rfl rfl (c_X8_needVariable l D ca ad tF a1 S _ _ h_a1 h hl9) xk_X8_needVariable xs_X8_needVariable xl_X8_95 ⟨⟨Nat.le_of_ble_eq_true rfl, Nat.le_of_ble_eq_true rfl⟩, Nat.le_of_ble_eq_true rfl, Nat.le_of_ble_eq_true rfl⟩ rfl rfl (Nat.le_of_ble_eq_true rfl) dX8_addInvariant_1 (fun E9 S9 h9 hw9 ha9 => xt_out C hA hZ hlocks ht ha9 rfl (Nat.le_of_ble_eq_true rfl) (Nat.le_of_ble_eq_true rfl) hw9 h9) (fun r9 S1 h9 hw1 ha2 => ?_)
  obtain ⟨rfl, h⟩ := h9
  refine xi_iload_n C 2 dX8_addInvariant_4 rfl rfl ?_
  refine xc_SY C hw1 ha2 rfl rfl (c_X8_needNumber l D ca ad tF a2 S1 _ _ h_a2 h hl9) xk_X8_needNumber xs_X8_needNumber xl_X8_98 ⟨⟨Nat.le_of_ble_eq_true rfl, Nat.le_of_ble_eq_true rfl⟩, Nat.le_of_ble_eq_true rfl, Nat.le_of_ble_eq_true rfl⟩ rfl rfl (Nat.le_of_ble_eq_true rfl) dX8_addInvariant_5 (fun E9 S9 h9 hw9 ha9 => xt_out C hA hZ hlocks ht ha9 rfl (Nat.le_of_ble_eq_true rfl) (Nat.le_of_ble_eq_true rfl) hw9 h9) (fun r9 S5 h9 hw3 ha4 => ?_)
  obtain ⟨rfl, h⟩ := h9
  refine xi_aload_n C 0 dX8_addInvariant_8 rfl rfl ?_
  refine xi_getR C xK_X8 (q := 0) (r := 1) rfl 0 (by decide) (ki := 0) rfl xl_X8_16 rfl dX8_addInvariant_9 ?_
  refine xi_getIN C xK_X4 (q := 1) (r := 0) rfl 11 (by decide) (ki := 11) rfl xn_X8_108 rfl dX8_addInvariant_12 ?_
  refine xi_iconst C (v := 4) dX8_addInvariant_15 rfl ?_
  refine xi_icmp_lt C 29 (xval.i (q := 1) (i := 11) hw3 (by decide) rfl) (by decide) dX8_addInvariant_16 (by decide) (fun z5 => ?_) (fun z5 => ?_)
  · replace h := h.1 z5
    refine xi_aload_n C 0 dX8_addInvariant_29 rfl rfl ?_
    refine xi_getR C xK_X8 (q := 0) (r := 2) rfl 1 (by decide) (ki := 1) rfl xl_X8_27 rfl dX8_addInvariant_30 ?_
    refine xc_Vv C hw3 (c_X6_drop l D ca ad tF S5 _ h) xk_X6_drop xv_X6_drop xl_X8_51 ⟨Nat.le_of_ble_eq_true rfl, Nat.le_of_ble_eq_true rfl⟩ xK_X6 (q := 2) rfl rfl rfl (Nat.le_of_ble_eq_true rfl) ⟨xrm (Nat.le_of_ble_eq_true rfl), xrm (Nat.le_of_ble_eq_true rfl)⟩ dX8_addInvariant_33 (fun S33 h hw6 => ?_)
    refine xi_aload_n C 0 dX8_addInvariant_36 rfl rfl ?_
    refine xi_getR C xK_X8 (q := 0) (r := 1) rfl 0 (by decide) (ki := 0) rfl xl_X8_16 rfl dX8_addInvariant_37 ?_
    refine xi_iload_n C 1 dX8_addInvariant_40 rfl rfl ?_
    refine xi_iload_n C 2 dX8_addInvariant_41 rfl rfl ?_
    refine xc_Vi C hw6 (c_X4_newInvariant l D ca ad tF a1 a2 S33 _ h_a1 h_a2 h) xk_X4_newInvariant xv_X4_newInvariant xl_X8_113 ⟨Nat.le_of_ble_eq_true rfl, Nat.le_of_ble_eq_true rfl⟩ xK_X4 (q := 1) rfl rfl rfl (Nat.le_of_ble_eq_true rfl) ⟨xrm (Nat.le_of_ble_eq_true rfl), xrm (Nat.le_of_ble_eq_true rfl)⟩ dX8_addInvariant_42 (fun r42 S42 h_r42 h hw7 => ?_)
    obtain ⟨hc8, h⟩ := h
    exact xr_iY C hA hZ ha4 hc8 hr hlocks rfl dX8_addInvariant_45 (Nat.le_of_ble_eq_true rfl) (Nat.le_of_ble_eq_true rfl) hw7 ⟨_, rfl, h_r42, h⟩
  · replace h := h.2 z5
    exact xi_throw C hA hZ hl9 hlocks ht rfl xx_X8_44 xst_X8_111 ha4 rfl ⟨Nat.le_of_ble_eq_true rfl, Nat.le_of_ble_eq_true rfl⟩ (Nat.le_of_ble_eq_true rfl) (Nat.le_of_ble_eq_true rfl) dX8_addInvariant_19 dX8_addInvariant_22 dX8_addInvariant_23 dX8_addInvariant_25 dX8_addInvariant_28 hw3 h
set_option maxRecDepth 100000 in
set_option maxHeartbeats 4000000 in
theorem c_X8_areAlike (l : Launch) (D : va_G) (ca : Nat → ClassId) (ad : Nat → Nat) (tF : Nat) (a1 : Int) (a2 : Int) (S : xS) (Q : Int → xS → Prop) (X : String → xS → Prop) (h_a1 : xR a1) (h_a2 : xR a2) (h : w_X8_areAlike a1 a2 S Q X) (hl9 : l.stackTraces = false) : xMY l yX8_areAlike (xws yX8_areAlike cX8_areAlike 3 (some .boolean)) ({ frames := 7, cells := xgc S + 2, slots := xgs S + 12, locals := 111 }) (gC D ca ad tF) [.ref (ad 0), .int (iN a1), .int (iN a2)] S (xQi Q) X 2 12 := by
  refine xmY_of RX8 rfl (by decide +kernel) (Nat.le_of_ble_eq_true rfl) ?_
  intro p e s m args below meth c A Z R hR9 C hA hZ hr hlocks ht hw
  subst hR9
  unfold w_X8_areAlike at h
  show xV (gC D ca ad tF) p l e ({ frames := 7, cells := xgc S + 2, slots := xgs S + 12, locals := 111 }) s m args below meth c A 3 Z (0 + (xgc S - xgc S)) (0 + (xgs S - xgs S)) 0 [(0, .ref (ad 0)), (1, .int (iN a1)), (2, .int (iN a2))] [] S
  refine xi_aload_n C 0 dX8_areAlike_0 rfl rfl ?_
  refine xi_iload_n C 1 dX8_areAlike_1 rfl rfl ?_
  refine xc_VY C hw (xAl.refl S) rfl rfl (c_X8_needProcess l D ca ad tF a1 S _ _ h_a1 h hl9) xk_X8_needProcess xv_X8_needProcess xl_X8_58 ⟨⟨Nat.le_of_ble_eq_true rfl, Nat.le_of_ble_eq_true rfl⟩, Nat.le_of_ble_eq_true rfl, Nat.le_of_ble_eq_true rfl⟩ xK_X8 (q := 0) rfl rfl rfl (Nat.le_of_ble_eq_true rfl) dX8_areAlike_2 (fun E9 S9 h9 hw9 ha9 => xt_out C hA hZ hlocks ht ha9 rfl (Nat.le_of_ble_eq_true rfl) (Nat.le_of_ble_eq_true rfl) hw9 h9) (fun r9 S2 h9 hw1 ha2 => ?_)
  obtain ⟨rfl, h⟩ := h9
  refine xi_aload_n C 0 dX8_areAlike_5 rfl rfl ?_
  refine xi_iload_n C 2 dX8_areAlike_6 rfl rfl ?_
  refine xc_VY C hw1 ha2 rfl rfl (c_X8_needProcess l D ca ad tF a2 S2 _ _ h_a2 h hl9) xk_X8_needProcess xv_X8_needProcess xl_X8_58 ⟨⟨Nat.le_of_ble_eq_true rfl, Nat.le_of_ble_eq_true rfl⟩, Nat.le_of_ble_eq_true rfl, Nat.le_of_ble_eq_true rfl⟩ xK_X8 (q := 0) rfl rfl rfl (Nat.le_of_ble_eq_true rfl) dX8_areAlike_7 (fun E9 S9 h9 hw9 ha9 => xt_out C hA hZ hlocks ht ha9 rfl (Nat.le_of_ble_eq_true rfl) (Nat.le_of_ble_eq_true rfl) hw9 h9) (fun r9 S7 h9 hw3 ha4 => ?_)
  obtain ⟨rfl, h⟩ := h9
  refine xi_aload_n C 0 dX8_areAlike_10 rfl rfl ?_
  refine xi_getR C xK_X8 (q := 0) (r := 1) rfl 0 (by decide) (ki := 0) rfl xl_X8_16 rfl dX8_areAlike_11 ?_
  refine xi_iload_n C 1 dX8_areAlike_14 rfl rfl ?_
  refine xi_iload_n C 2 dX8_areAlike_15 rfl rfl ?_
  refine xc_Vi C hw3 (c_X4_hasAlike l D ca ad tF a1 a2 S7 _ h_a1 h_a2 h) xk_X4_hasAlike xv_X4_hasAlike xl_X8_117 ⟨Nat.le_of_ble_eq_true rfl, Nat.le_of_ble_eq_true rfl⟩ xK_X4 (q := 1) rfl rfl rfl (Nat.le_of_ble_eq_true rfl) ⟨xrm (Nat.le_of_ble_eq_true rfl), xrm (Nat.le_of_ble_eq_true rfl)⟩ dX8_areAlike_16 (fun r16 S16 h_r16 h hw5 => ?_)
  obtain ⟨hc6, h⟩ := h
  obtain ⟨hc7, h⟩ := h
  exact xr_iY C hA hZ ha4 hc6 hr hlocks (xnarZ hc7).1 dX8_areAlike_19 (Nat.le_of_ble_eq_true rfl) (Nat.le_of_ble_eq_true rfl) hw5 ⟨_, rfl, h_r16, h⟩
set_option maxRecDepth 100000 in
set_option maxHeartbeats 4000000 in
theorem c_X8_begin (l : Launch) (D : va_G) (ca : Nat → ClassId) (ad : Nat → Nat) (tF : Nat) (a1 : Int) (S : xS) (Q : Int → xS → Prop) (X : String → xS → Prop) (h_a1 : xR a1) (h : w_X8_begin a1 S Q X) (hl9 : l.stackTraces = false) : xMY l yX8_begin (xws yX8_begin cX8_begin 2 (some .char)) ({ frames := 6, cells := xgc S + 1, slots := xgs S + 6, locals := 135 }) (gC D ca ad tF) [.ref (ad 0), .int (iN a1)] S (xQi Q) X 1 6 := by
  refine xmY_of RX8 rfl (by decide +kernel) (Nat.le_of_ble_eq_true rfl) ?_
  intro p e s m args below meth c A Z R hR9 C hA hZ hr hlocks ht hw
  subst hR9
  unfold w_X8_begin at h
  show xV (gC D ca ad tF) p l e ({ frames := 6, cells := xgc S + 1, slots := xgs S + 6, locals := 135 }) s m args below meth c A 2 Z (0 + (xgc S - xgc S)) (0 + (xgs S - xgs S)) 0 [(0, .ref (ad 0)), (1, .int (iN a1))] [] S
  refine xi_iload_n C 1 dX8_begin_0 rfl rfl ?_
  refine xi_bipush C (v := 97) dX8_begin_1 (by decide +kernel) ?_
  refine xJ0_w (fun  S34 => xval (gC D ca ad tF) S34 → xAl S S34 → xV (gC D ca ad tF) p l e ({ frames := 6, cells := xgc S + 1, slots := xgs S + 6, locals := 135 }) s m args below meth c A 2 Z (0 + (xgc S - xgc S34)) (0 + (xgs S - xgs S34)) 34 [(0, .ref (ad 0)), (1, .int (iN a1))] [] S34) h (fun  S34 h  hw34 ha34 => ?_) (fun j34 hj34 h => ?_)
  · unfold w_X8_begin_J34 at h
    refine xi_iload_n C 1 dX8_begin_34 rfl rfl ?_
    refine xi_bipush C (v := 115) dX8_begin_35 (by decide +kernel) ?_
    refine xJ0_w (fun  S60 => xval (gC D ca ad tF) S60 → xAl S S60 → xV (gC D ca ad tF) p l e ({ frames := 6, cells := xgc S + 1, slots := xgs S + 6, locals := 135 }) s m args below meth c A 2 Z (0 + (xgc S - xgc S60)) (0 + (xgs S - xgs S60)) 60 [(0, .ref (ad 0)), (1, .int (iN a1))] [] S60) h (fun  S60 h  hw60 ha60 => ?_) (fun j60 hj60 h => ?_)
    · unfold w_X8_begin_J60 at h
      refine xi_aload_n C 0 dX8_begin_60 rfl rfl ?_
      refine xi_getR C xK_X8 (q := 0) (r := 2) rfl 1 (by decide) (ki := 1) rfl xl_X8_27 rfl dX8_begin_61 ?_
      refine xi_iload_n C 1 dX8_begin_64 rfl rfl ?_
      refine xc_Vv C hw60 (c_X6_beginIn l D ca ad tF a1 S60 _ h_a1 h) xk_X6_beginIn xv_X6_beginIn xl_X8_132 ⟨Nat.le_of_ble_eq_true rfl, Nat.le_of_ble_eq_true rfl⟩ xK_X6 (q := 2) rfl rfl rfl (Nat.le_of_ble_eq_true rfl) ⟨xrm (Nat.le_of_ble_eq_true rfl), xrm (Nat.le_of_ble_eq_true rfl)⟩ dX8_begin_65 (fun S65 h hw3 => ?_)
      refine xi_aload_n C 0 dX8_begin_68 rfl rfl ?_
      refine xi_getR C xK_X8 (q := 0) (r := 2) rfl 1 (by decide) (ki := 1) rfl xl_X8_27 rfl dX8_begin_69 ?_
      refine xc_Vi C hw3 (c_X6_judge l D ca ad tF S65 _ h) xk_X6_judge xv_X6_judge xl_X8_136 ⟨Nat.le_of_ble_eq_true rfl, Nat.le_of_ble_eq_true rfl⟩ xK_X6 (q := 2) rfl rfl rfl (Nat.le_of_ble_eq_true rfl) ⟨xrm (Nat.le_of_ble_eq_true rfl), xrm (Nat.le_of_ble_eq_true rfl)⟩ dX8_begin_72 (fun r72 S72 h_r72 h hw4 => ?_)
      obtain ⟨hc5, h⟩ := h
      obtain ⟨hc6, h⟩ := h
      exact xr_iY C hA hZ ha60 hc5 hr hlocks (xnarC hc6).1 dX8_begin_75 (Nat.le_of_ble_eq_true rfl) (Nat.le_of_ble_eq_true rfl) hw4 ⟨_, rfl, h_r72, h⟩
    · refine xi_icmp_ne C 60 h_a1 (by decide) dX8_begin_37 (by decide) (fun z2 => ?_) (fun z2 => ?_)
      · replace h := h.1 z2
        exact xV_alY (S1 := S34) rfl (xi_sub [0, 1] rfl (hj60 S34 h hw34 (ha34.eq rfl)))
      · replace h := h.2 z2
        refine xi_aload_n C 0 dX8_begin_40 rfl rfl ?_
        refine xi_getR C xK_X8 (q := 0) (r := 1) rfl 0 (by decide) (ki := 0) rfl xl_X8_16 rfl dX8_begin_41 ?_
        refine xc_Vi C hw34 (c_X4_hasInvariantOfAlike l D ca ad tF S34 _ h) xk_X4_hasInvariantOfAlike xv_X4_hasInvariantOfAlike xl_X8_123 ⟨Nat.le_of_ble_eq_true rfl, Nat.le_of_ble_eq_true rfl⟩ xK_X4 (q := 1) rfl rfl rfl (Nat.le_of_ble_eq_true rfl) ⟨xrm (Nat.le_of_ble_eq_true rfl), xrm (Nat.le_of_ble_eq_true rfl)⟩ dX8_begin_44 (fun r44 S44 h_r44 h hw7 => ?_)
        refine xi_if_eq C 60 h_r44 dX8_begin_47 (by decide) (fun z8 => ?_) (fun z8 => ?_)
        · replace h := h.1 z8
          obtain ⟨hc9, h⟩ := h
          exact xV_alY (S1 := S44) hc9 (xi_sub [0, 1] rfl (hj60 S44 h hw7 (ha34.eq hc9)))
        · replace h := h.2 z8
          obtain ⟨hc10, h⟩ := h
          exact xi_throw C hA hZ hl9 hlocks ht rfl xx_X8_127 xst_X8_129 ha34 hc10 ⟨Nat.le_of_ble_eq_true rfl, Nat.le_of_ble_eq_true rfl⟩ (Nat.le_of_ble_eq_true rfl) (Nat.le_of_ble_eq_true rfl) dX8_begin_50 dX8_begin_53 dX8_begin_54 dX8_begin_56 dX8_begin_59 hw7 h
  · refine xi_icmp_eq C 34 h_a1 (by decide) dX8_begin_3 (by decide) (fun z1 => ?_) (fun z1 => ?_)
    · replace h := h.1 z1
      exact xV_alY (S1 := S) rfl (xi_sub [0, 1] rfl (hj34 S h hw ((xAl.refl S).eq rfl)))
    · replace h := h.2 z1
      refine xi_iload_n C 1 dX8_begin_6 rfl rfl ?_
      refine xi_bipush C (v := 112) dX8_begin_7 (by decide +kernel) ?_
      refine xi_icmp_eq C 34 h_a1 (by decide) dX8_begin_9 (by decide) (fun z11 => ?_) (fun z11 => ?_)
      · replace h := h.1 z11
        exact xV_alY (S1 := S) rfl (xi_sub [0, 1] rfl (hj34 S h hw ((xAl.refl S).eq rfl)))
      · replace h := h.2 z11
        refine xi_iload_n C 1 dX8_begin_12 rfl rfl ?_
        refine xi_bipush C (v := 115) dX8_begin_13 (by decide +kernel) ?_
        refine xi_icmp_eq C 34 h_a1 (by decide) dX8_begin_15 (by decide) (fun z12 => ?_) (fun z12 => ?_)
        · replace h := h.1 z12
          exact xV_alY (S1 := S) rfl (xi_sub [0, 1] rfl (hj34 S h hw ((xAl.refl S).eq rfl)))
        · replace h := h.2 z12
          refine xi_iload_n C 1 dX8_begin_18 rfl rfl ?_
          refine xi_bipush C (v := 104) dX8_begin_19 (by decide +kernel) ?_
          refine xi_icmp_eq C 34 h_a1 (by decide) dX8_begin_21 (by decide) (fun z13 => ?_) (fun z13 => ?_)
          · replace h := h.1 z13
            exact xV_alY (S1 := S) rfl (xi_sub [0, 1] rfl (hj34 S h hw ((xAl.refl S).eq rfl)))
          · replace h := h.2 z13
            exact xi_throw C hA hZ hl9 hlocks ht rfl xx_X8_69 xst_X8_121 (xAl.refl S) rfl ⟨Nat.le_of_ble_eq_true rfl, Nat.le_of_ble_eq_true rfl⟩ (Nat.le_of_ble_eq_true rfl) (Nat.le_of_ble_eq_true rfl) dX8_begin_24 dX8_begin_27 dX8_begin_28 dX8_begin_30 dX8_begin_33 hw h
set_option maxRecDepth 100000 in
set_option maxHeartbeats 4000000 in
theorem c_X8_needSearch (l : Launch) (D : va_G) (ca : Nat → ClassId) (ad : Nat → Nat) (tF : Nat)  (S : xS) (Q : xS → Prop) (X : String → xS → Prop)  (h : w_X8_needSearch  S Q X) (hl9 : l.stackTraces = false) : xMY l yX8_needSearch (xws yX8_needSearch cX8_needSearch 1 (none)) ({ frames := 6, cells := xgc S + 1, slots := xgs S + 6, locals := 90 }) (gC D ca ad tF) [.ref (ad 0)] S (xQv Q) X 1 6 := by
  refine xmY_of RX8 rfl (by decide +kernel) (Nat.le_of_ble_eq_true rfl) ?_
  intro p e s m args below meth c A Z R hR9 C hA hZ hr hlocks ht hw
  subst hR9
  unfold w_X8_needSearch at h
  show xV (gC D ca ad tF) p l e ({ frames := 6, cells := xgc S + 1, slots := xgs S + 6, locals := 90 }) s m args below meth c A 1 Z (0 + (xgc S - xgc S)) (0 + (xgs S - xgs S)) 0 [(0, .ref (ad 0))] [] S
  refine xi_aload_n C 0 dX8_needSearch_0 rfl rfl ?_
  refine xi_getR C xK_X8 (q := 0) (r := 2) rfl 1 (by decide) (ki := 1) rfl xl_X8_27 rfl dX8_needSearch_1 ?_
  refine xi_getIN C xK_X6 (q := 2) (r := 0) rfl 9 (by decide) (ki := 9) rfl xn_X8_251 rfl dX8_needSearch_4 ?_
  refine xi_if_ne C 21 (xval.i (q := 2) (i := 9) hw (by decide) rfl) dX8_needSearch_7 (by decide) (fun z1 => ?_) (fun z1 => ?_)
  · replace h := h.1 z1
    exact xr_vY C hA hZ (xAl.refl S) rfl hr hlocks dX8_needSearch_21 (Nat.le_of_ble_eq_true rfl) (Nat.le_of_ble_eq_true rfl) hw ⟨rfl, h⟩
  · replace h := h.2 z1
    exact xi_throwW C hA hZ hl9 hlocks ht rfl xx_X8_44 xst_X8_273 (xAl.refl S) rfl ⟨Nat.le_of_ble_eq_true rfl, Nat.le_of_ble_eq_true rfl⟩ (Nat.le_of_ble_eq_true rfl) (Nat.le_of_ble_eq_true rfl) dX8_needSearch_10 dX8_needSearch_13 dX8_needSearch_14 dX8_needSearch_17 dX8_needSearch_20 hw h
set_option maxRecDepth 100000 in
set_option maxHeartbeats 4000000 in
theorem c_X8_search (l : Launch) (D : va_G) (ca : Nat → ClassId) (ad : Nat → Nat) (tF : Nat) (a1 : Int) (S : xS) (Q : Int → xS → Prop) (X : String → xS → Prop) (h_a1 : xR a1) (h : w_X8_search a1 S Q X) (hl9 : l.stackTraces = false) : xMY l yX8_search (xws yX8_search cX8_search 2 (some .int)) ({ frames := 7, cells := xgc S + 2, slots := xgs S + 12, locals := 214 }) (gC D ca ad tF) [.ref (ad 0), .int (iN a1)] S (xQi Q) X 2 12 := by
  refine xmY_of RX8 rfl (by decide +kernel) (Nat.le_of_ble_eq_true rfl) ?_
  intro p e s m args below meth c A Z R hR9 C hA hZ hr hlocks ht hw
  subst hR9
  unfold w_X8_search at h
  show xV (gC D ca ad tF) p l e ({ frames := 7, cells := xgc S + 2, slots := xgs S + 12, locals := 214 }) s m args below meth c A 2 Z (0 + (xgc S - xgc S)) (0 + (xgs S - xgs S)) 0 [(0, .ref (ad 0)), (1, .int (iN a1))] [] S
  refine xi_aload_n C 0 dX8_search_0 rfl rfl ?_
  refine xc_VY C hw (xAl.refl S) rfl rfl (c_X8_needSearch l D ca ad tF S _ _ h hl9) xk_X8_needSearch xv_X8_needSearch xl_X8_140 ⟨⟨Nat.le_of_ble_eq_true rfl, Nat.le_of_ble_eq_true rfl⟩, Nat.le_of_ble_eq_true rfl, Nat.le_of_ble_eq_true rfl⟩ xK_X8 (q := 0) rfl rfl rfl (Nat.le_of_ble_eq_true rfl) dX8_search_1 (fun E9 S9 h9 hw9 ha9 => xt_out C hA hZ hlocks ht ha9 rfl (Nat.le_of_ble_eq_true rfl) (Nat.le_of_ble_eq_true rfl) hw9 h9) (fun r9 S1 h9 hw1 ha2 => ?_)
  obtain ⟨rfl, h⟩ := h9
  refine xi_iload_n C 1 dX8_search_4 rfl rfl ?_
  refine xi_iconst C (v := 1) dX8_search_5 rfl ?_
  refine xJ0_w (fun  S16 => xval (gC D ca ad tF) S16 → xAl S S16 → xV (gC D ca ad tF) p l e ({ frames := 7, cells := xgc S + 2, slots := xgs S + 12, locals := 214 }) s m args below meth c A 2 Z (1 + (xgc S - xgc S16)) (6 + (xgs S - xgs S16)) 16 [] [] S16) h (fun  S16 h  hw16 ha16 => ?_) (fun j16 hj16 h => ?_)
  · unfold w_X8_search_J16 at h
    exact xi_throw C hA hZ hl9 hlocks ht rfl xx_X8_69 xst_X8_143 ha16 rfl ⟨Nat.le_of_ble_eq_true rfl, Nat.le_of_ble_eq_true rfl⟩ (Nat.le_of_ble_eq_true rfl) (Nat.le_of_ble_eq_true rfl) dX8_search_16 dX8_search_19 dX8_search_20 dX8_search_22 dX8_search_25 hw16 h
  · refine xi_icmp_lt C 16 h_a1 (by decide) dX8_search_6 (by decide) (fun z3 => ?_) (fun z3 => ?_)
    · replace h := h.1 z3
      exact xV_alY (S1 := S1) rfl (xi_sub [] rfl (hj16 S1 h hw1 (ha2.eq rfl)))
    · replace h := h.2 z3
      refine xi_iload_n C 1 dX8_search_9 rfl rfl ?_
      refine xi_sipush C (v := 500) dX8_search_10 (by decide +kernel) ?_
      refine xi_icmp_le C 26 h_a1 (by decide) dX8_search_13 (by decide) (fun z4 => ?_) (fun z4 => ?_)
      · replace h := h.1 z4
        refine xi_aload_n C 0 dX8_search_26 rfl rfl ?_
        refine xi_getR C xK_X8 (q := 0) (r := 2) rfl 1 (by decide) (ki := 1) rfl xl_X8_27 rfl dX8_search_27 ?_
        refine xi_iload_n C 1 dX8_search_30 rfl rfl ?_
        refine xc_VAY C hw1 ha2 rfl rfl (c_X6_goOn l D ca ad tF a1 S1 _ h_a1 h) xk_X6_goOn xv_X6_goOn xl_X8_145 ⟨⟨Nat.le_of_ble_eq_true rfl, Nat.le_of_ble_eq_true rfl⟩, Nat.le_of_ble_eq_true rfl, Nat.le_of_ble_eq_true rfl⟩ xK_X6 (q := 2) rfl rfl rfl (Nat.le_of_ble_eq_true rfl) dX8_search_31  (fun r9 S31 h9 hw5 ha6 => ?_)
        obtain ⟨r31, rfl, h_r31, h⟩ := h9
        exact xr_iY C hA hZ ha6 rfl hr hlocks rfl dX8_search_34 (Nat.le_of_ble_eq_true rfl) (Nat.le_of_ble_eq_true rfl) hw5 ⟨_, rfl, h_r31, h⟩
      · replace h := h.2 z4
        exact xV_alY (S1 := S1) rfl (xi_sub [] rfl (hj16 S1 h hw1 (ha2.eq rfl)))
set_option maxRecDepth 100000 in
set_option maxHeartbeats 4000000 in
theorem c_X8_verdict (l : Launch) (D : va_G) (ca : Nat → ClassId) (ad : Nat → Nat) (tF : Nat)  (S : xS) (Q : Int → xS → Prop) (X : String → xS → Prop)  (h : w_X8_verdict  S Q X) (hl9 : l.stackTraces = false) : xMY l yX8_verdict (xws yX8_verdict cX8_verdict 1 (some .char)) ({ frames := 7, cells := xgc S + 1, slots := xgs S + 6, locals := 110 }) (gC D ca ad tF) [.ref (ad 0)] S (xQi Q) X 1 6 := by
  refine xmY_of RX8 rfl (by decide +kernel) (Nat.le_of_ble_eq_true rfl) ?_
  intro p e s m args below meth c A Z R hR9 C hA hZ hr hlocks ht hw
  subst hR9
  unfold w_X8_verdict at h
  show xV (gC D ca ad tF) p l e ({ frames := 7, cells := xgc S + 1, slots := xgs S + 6, locals := 110 }) s m args below meth c A 1 Z (0 + (xgc S - xgc S)) (0 + (xgs S - xgs S)) 0 [(0, .ref (ad 0))] [] S
  refine xi_aload_n C 0 dX8_verdict_0 rfl rfl ?_
  refine xc_VY C hw (xAl.refl S) rfl rfl (c_X8_needSearch l D ca ad tF S _ _ h hl9) xk_X8_needSearch xv_X8_needSearch xl_X8_140 ⟨⟨Nat.le_of_ble_eq_true rfl, Nat.le_of_ble_eq_true rfl⟩, Nat.le_of_ble_eq_true rfl, Nat.le_of_ble_eq_true rfl⟩ xK_X8 (q := 0) rfl rfl rfl (Nat.le_of_ble_eq_true rfl) dX8_verdict_1 (fun E9 S9 h9 hw9 ha9 => xt_out C hA hZ hlocks ht ha9 rfl (Nat.le_of_ble_eq_true rfl) (Nat.le_of_ble_eq_true rfl) hw9 h9) (fun r9 S1 h9 hw1 ha2 => ?_)
  obtain ⟨rfl, h⟩ := h9
  refine xi_aload_n C 0 dX8_verdict_4 rfl rfl ?_
  refine xi_getR C xK_X8 (q := 0) (r := 2) rfl 1 (by decide) (ki := 1) rfl xl_X8_27 rfl dX8_verdict_5 ?_
  refine xc_Vi C hw1 (c_X6_judge l D ca ad tF S1 _ h) xk_X6_judge xv_X6_judge xl_X8_136 ⟨Nat.le_of_ble_eq_true rfl, Nat.le_of_ble_eq_true rfl⟩ xK_X6 (q := 2) rfl rfl rfl (Nat.le_of_ble_eq_true rfl) ⟨xrm (Nat.le_of_ble_eq_true rfl), xrm (Nat.le_of_ble_eq_true rfl)⟩ dX8_verdict_8 (fun r8 S8 h_r8 h hw3 => ?_)
  obtain ⟨hc4, h⟩ := h
  obtain ⟨hc5, h⟩ := h
  exact xr_iY C hA hZ ha2 hc4 hr hlocks (xnarC hc5).1 dX8_verdict_11 (Nat.le_of_ble_eq_true rfl) (Nat.le_of_ble_eq_true rfl) hw3 ⟨_, rfl, h_r8, h⟩
set_option maxRecDepth 100000 in
set_option maxHeartbeats 4000000 in
theorem c_X8_states (l : Launch) (D : va_G) (ca : Nat → ClassId) (ad : Nat → Nat) (tF : Nat)  (S : xS) (Q : Int → xS → Prop) (X : String → xS → Prop)  (h : w_X8_states  S Q X) (hl9 : l.stackTraces = false) : xMY l yX8_states (xws yX8_states cX8_states 1 (some .int)) ({ frames := 7, cells := xgc S + 1, slots := xgs S + 6, locals := 110 }) (gC D ca ad tF) [.ref (ad 0)] S (xQi Q) X 1 6 := by
  refine xmY_of RX8 rfl (by decide +kernel) (Nat.le_of_ble_eq_true rfl) ?_
  intro p e s m args below meth c A Z R hR9 C hA hZ hr hlocks ht hw
  subst hR9
  unfold w_X8_states at h
  show xV (gC D ca ad tF) p l e ({ frames := 7, cells := xgc S + 1, slots := xgs S + 6, locals := 110 }) s m args below meth c A 1 Z (0 + (xgc S - xgc S)) (0 + (xgs S - xgs S)) 0 [(0, .ref (ad 0))] [] S
  refine xi_aload_n C 0 dX8_states_0 rfl rfl ?_
  refine xc_VY C hw (xAl.refl S) rfl rfl (c_X8_needSearch l D ca ad tF S _ _ h hl9) xk_X8_needSearch xv_X8_needSearch xl_X8_140 ⟨⟨Nat.le_of_ble_eq_true rfl, Nat.le_of_ble_eq_true rfl⟩, Nat.le_of_ble_eq_true rfl, Nat.le_of_ble_eq_true rfl⟩ xK_X8 (q := 0) rfl rfl rfl (Nat.le_of_ble_eq_true rfl) dX8_states_1 (fun E9 S9 h9 hw9 ha9 => xt_out C hA hZ hlocks ht ha9 rfl (Nat.le_of_ble_eq_true rfl) (Nat.le_of_ble_eq_true rfl) hw9 h9) (fun r9 S1 h9 hw1 ha2 => ?_)
  obtain ⟨rfl, h⟩ := h9
  refine xi_aload_n C 0 dX8_states_4 rfl rfl ?_
  refine xi_getR C xK_X8 (q := 0) (r := 2) rfl 1 (by decide) (ki := 1) rfl xl_X8_27 rfl dX8_states_5 ?_
  refine xi_getRN C xK_X6 (q := 2) (r := 4) rfl 1 (by decide) (ki := 1) rfl xn_X8_148 rfl dX8_states_8 ?_
  refine xi_getIN C xK_X1 (q := 4) (r := 0) rfl 0 (by decide) (ki := 0) rfl xn_X8_152 rfl dX8_states_11 ?_
  exact xr_iY C hA hZ ha2 rfl hr hlocks rfl dX8_states_14 (Nat.le_of_ble_eq_true rfl) (Nat.le_of_ble_eq_true rfl) hw1 ⟨_, rfl, (xval.i (q := 4) (i := 0) hw1 (by decide) rfl), h⟩
set_option maxRecDepth 100000 in
set_option maxHeartbeats 4000000 in
theorem c_X8_goneOn (l : Launch) (D : va_G) (ca : Nat → ClassId) (ad : Nat → Nat) (tF : Nat)  (S : xS) (Q : Int → xS → Prop) (X : String → xS → Prop)  (h : w_X8_goneOn  S Q X) (hl9 : l.stackTraces = false) : xMY l yX8_goneOn (xws yX8_goneOn cX8_goneOn 1 (some .int)) ({ frames := 7, cells := xgc S + 1, slots := xgs S + 6, locals := 110 }) (gC D ca ad tF) [.ref (ad 0)] S (xQi Q) X 1 6 := by
  refine xmY_of RX8 rfl (by decide +kernel) (Nat.le_of_ble_eq_true rfl) ?_
  intro p e s m args below meth c A Z R hR9 C hA hZ hr hlocks ht hw
  subst hR9
  unfold w_X8_goneOn at h
  show xV (gC D ca ad tF) p l e ({ frames := 7, cells := xgc S + 1, slots := xgs S + 6, locals := 110 }) s m args below meth c A 1 Z (0 + (xgc S - xgc S)) (0 + (xgs S - xgs S)) 0 [(0, .ref (ad 0))] [] S
  refine xi_aload_n C 0 dX8_goneOn_0 rfl rfl ?_
  refine xc_VY C hw (xAl.refl S) rfl rfl (c_X8_needSearch l D ca ad tF S _ _ h hl9) xk_X8_needSearch xv_X8_needSearch xl_X8_140 ⟨⟨Nat.le_of_ble_eq_true rfl, Nat.le_of_ble_eq_true rfl⟩, Nat.le_of_ble_eq_true rfl, Nat.le_of_ble_eq_true rfl⟩ xK_X8 (q := 0) rfl rfl rfl (Nat.le_of_ble_eq_true rfl) dX8_goneOn_1 (fun E9 S9 h9 hw9 ha9 => xt_out C hA hZ hlocks ht ha9 rfl (Nat.le_of_ble_eq_true rfl) (Nat.le_of_ble_eq_true rfl) hw9 h9) (fun r9 S1 h9 hw1 ha2 => ?_)
  obtain ⟨rfl, h⟩ := h9
  refine xi_aload_n C 0 dX8_goneOn_4 rfl rfl ?_
  refine xi_getR C xK_X8 (q := 0) (r := 2) rfl 1 (by decide) (ki := 1) rfl xl_X8_27 rfl dX8_goneOn_5 ?_
  refine xi_getIN C xK_X6 (q := 2) (r := 0) rfl 11 (by decide) (ki := 11) rfl xn_X8_155 rfl dX8_goneOn_8 ?_
  exact xr_iY C hA hZ ha2 rfl hr hlocks rfl dX8_goneOn_11 (Nat.le_of_ble_eq_true rfl) (Nat.le_of_ble_eq_true rfl) hw1 ⟨_, rfl, (xval.i (q := 2) (i := 11) hw1 (by decide) rfl), h⟩
set_option maxRecDepth 100000 in
set_option maxHeartbeats 4000000 in
theorem c_X8_needState (l : Launch) (D : va_G) (ca : Nat → ClassId) (ad : Nat → Nat) (tF : Nat) (a1 : Int) (S : xS) (Q : xS → Prop) (X : String → xS → Prop) (h_a1 : xR a1) (h : w_X8_needState a1 S Q X) (hl9 : l.stackTraces = false) : xMY l yX8_needState (xws yX8_needState cX8_needState 2 (none)) ({ frames := 6, cells := xgc S + 1, slots := xgs S + 6, locals := 90 }) (gC D ca ad tF) [.ref (ad 0), .int (iN a1)] S (xQv Q) X 1 6 := by
  refine xmY_of RX8 rfl (by decide +kernel) (Nat.le_of_ble_eq_true rfl) ?_
  intro p e s m args below meth c A Z R hR9 C hA hZ hr hlocks ht hw
  subst hR9
  unfold w_X8_needState at h
  show xV (gC D ca ad tF) p l e ({ frames := 6, cells := xgc S + 1, slots := xgs S + 6, locals := 90 }) s m args below meth c A 2 Z (0 + (xgc S - xgc S)) (0 + (xgs S - xgs S)) 0 [(0, .ref (ad 0)), (1, .int (iN a1))] [] S
  refine xi_iload_n C 1 dX8_needState_0 rfl rfl ?_
  refine xJ0_w (fun  S18 => xval (gC D ca ad tF) S18 → xAl S S18 → xV (gC D ca ad tF) p l e ({ frames := 6, cells := xgc S + 1, slots := xgs S + 6, locals := 90 }) s m args below meth c A 2 Z (0 + (xgc S - xgc S18)) (0 + (xgs S - xgs S18)) 18 [] [] S18) h (fun  S18 h  hw18 ha18 => ?_) (fun j18 hj18 h => ?_)
  · unfold w_X8_needState_J18 at h
    exact xi_throw C hA hZ hl9 hlocks ht rfl xx_X8_258 xst_X8_234 ha18 rfl ⟨Nat.le_of_ble_eq_true rfl, Nat.le_of_ble_eq_true rfl⟩ (Nat.le_of_ble_eq_true rfl) (Nat.le_of_ble_eq_true rfl) dX8_needState_18 dX8_needState_21 dX8_needState_22 dX8_needState_24 dX8_needState_27 hw18 h
  · refine xi_if_lt C 18 h_a1 dX8_needState_1 (by decide) (fun z1 => ?_) (fun z1 => ?_)
    · replace h := h.1 z1
      exact xV_alY (S1 := S) rfl (xi_sub [] rfl (hj18 S h hw ((xAl.refl S).eq rfl)))
    · replace h := h.2 z1
      refine xi_iload_n C 1 dX8_needState_4 rfl rfl ?_
      refine xi_aload_n C 0 dX8_needState_5 rfl rfl ?_
      refine xi_getR C xK_X8 (q := 0) (r := 2) rfl 1 (by decide) (ki := 1) rfl xl_X8_27 rfl dX8_needState_6 ?_
      refine xi_getRN C xK_X6 (q := 2) (r := 4) rfl 1 (by decide) (ki := 1) rfl xn_X8_148 rfl dX8_needState_9 ?_
      refine xi_getIN C xK_X1 (q := 4) (r := 0) rfl 0 (by decide) (ki := 0) rfl xn_X8_152 rfl dX8_needState_12 ?_
      refine xi_icmp_lt C 28 h_a1 (xval.i (q := 4) (i := 0) hw (by decide) rfl) dX8_needState_15 (by decide) (fun z2 => ?_) (fun z2 => ?_)
      · replace h := h.1 z2
        exact xr_vY C hA hZ (xAl.refl S) rfl hr hlocks dX8_needState_28 (Nat.le_of_ble_eq_true rfl) (Nat.le_of_ble_eq_true rfl) hw ⟨rfl, h⟩
      · replace h := h.2 z2
        exact xV_alY (S1 := S) rfl (xi_sub [] rfl (hj18 S h hw ((xAl.refl S).eq rfl)))
set_option maxRecDepth 100000 in
set_option maxHeartbeats 4000000 in
theorem c_X8_codeOf (l : Launch) (D : va_G) (ca : Nat → ClassId) (ad : Nat → Nat) (tF : Nat) (a1 : Int) (S : xS) (Q : Int → xS → Prop) (X : String → xS → Prop) (h_a1 : xR a1) (h : w_X8_codeOf a1 S Q X) (hl9 : l.stackTraces = false) : xMY l yX8_codeOf (xws yX8_codeOf cX8_codeOf 2 (some .long)) ({ frames := 7, cells := xgc S + 2, slots := xgs S + 12, locals := 111 }) (gC D ca ad tF) [.ref (ad 0), .int (iN a1)] S (xQj Q) X 2 12 := by
  refine xmY_of RX8 rfl (by decide +kernel) (Nat.le_of_ble_eq_true rfl) ?_
  intro p e s m args below meth c A Z R hR9 C hA hZ hr hlocks ht hw
  subst hR9
  unfold w_X8_codeOf at h
  show xV (gC D ca ad tF) p l e ({ frames := 7, cells := xgc S + 2, slots := xgs S + 12, locals := 111 }) s m args below meth c A 2 Z (0 + (xgc S - xgc S)) (0 + (xgs S - xgs S)) 0 [(0, .ref (ad 0)), (1, .int (iN a1))] [] S
  refine xi_aload_n C 0 dX8_codeOf_0 rfl rfl ?_
  refine xc_VY C hw (xAl.refl S) rfl rfl (c_X8_needSearch l D ca ad tF S _ _ h hl9) xk_X8_needSearch xv_X8_needSearch xl_X8_140 ⟨⟨Nat.le_of_ble_eq_true rfl, Nat.le_of_ble_eq_true rfl⟩, Nat.le_of_ble_eq_true rfl, Nat.le_of_ble_eq_true rfl⟩ xK_X8 (q := 0) rfl rfl rfl (Nat.le_of_ble_eq_true rfl) dX8_codeOf_1 (fun E9 S9 h9 hw9 ha9 => xt_out C hA hZ hlocks ht ha9 rfl (Nat.le_of_ble_eq_true rfl) (Nat.le_of_ble_eq_true rfl) hw9 h9) (fun r9 S1 h9 hw1 ha2 => ?_)
  obtain ⟨rfl, h⟩ := h9
  refine xi_aload_n C 0 dX8_codeOf_4 rfl rfl ?_
  refine xi_iload_n C 1 dX8_codeOf_5 rfl rfl ?_
  refine xc_VY C hw1 ha2 rfl rfl (c_X8_needState l D ca ad tF a1 S1 _ _ h_a1 h hl9) xk_X8_needState xv_X8_needState xl_X8_158 ⟨⟨Nat.le_of_ble_eq_true rfl, Nat.le_of_ble_eq_true rfl⟩, Nat.le_of_ble_eq_true rfl, Nat.le_of_ble_eq_true rfl⟩ xK_X8 (q := 0) rfl rfl rfl (Nat.le_of_ble_eq_true rfl) dX8_codeOf_6 (fun E9 S9 h9 hw9 ha9 => xt_out C hA hZ hlocks ht ha9 rfl (Nat.le_of_ble_eq_true rfl) (Nat.le_of_ble_eq_true rfl) hw9 h9) (fun r9 S6 h9 hw3 ha4 => ?_)
  obtain ⟨rfl, h⟩ := h9
  refine xi_aload_n C 0 dX8_codeOf_9 rfl rfl ?_
  refine xi_getR C xK_X8 (q := 0) (r := 2) rfl 1 (by decide) (ki := 1) rfl xl_X8_27 rfl dX8_codeOf_10 ?_
  refine xi_getRN C xK_X6 (q := 2) (r := 4) rfl 1 (by decide) (ki := 1) rfl xn_X8_148 rfl dX8_codeOf_13 ?_
  refine xi_getRN C xK_X1 (q := 4) (r := 25) rfl 2 (by decide) (ki := 2) rfl xn_X8_161 rfl dX8_codeOf_16 ?_
  refine xi_iload_n C 1 dX8_codeOf_19 rfl rfl ?_
  obtain ⟨hc5, h⟩ := h
  refine xi_laload C (q := 25) rfl (by decide) hc5 dX8_codeOf_20 ?_
  exact xr_jY C hA hZ ha4 rfl hr hlocks dX8_codeOf_21 (Nat.le_of_ble_eq_true rfl) (Nat.le_of_ble_eq_true rfl) hw3 ⟨_, rfl, (xval.j (q := 25) (i := a1) hw3 hc5.1 rfl), h⟩
set_option maxRecDepth 100000 in
set_option maxHeartbeats 4000000 in
theorem c_X8_moves (l : Launch) (D : va_G) (ca : Nat → ClassId) (ad : Nat → Nat) (tF : Nat) (a1 : Int) (S : xS) (Q : Int → xS → Prop) (X : String → xS → Prop) (h_a1 : xR a1) (h : w_X8_moves a1 S Q X) (hl9 : l.stackTraces = false) : xMY l yX8_moves (xws yX8_moves cX8_moves 2 (some .int)) ({ frames := 7, cells := xgc S + 2, slots := xgs S + 12, locals := 136 }) (gC D ca ad tF) [.ref (ad 0), .int (iN a1)] S (xQi Q) X 2 12 := by
  refine xmY_of RX8 rfl (by decide +kernel) (Nat.le_of_ble_eq_true rfl) ?_
  intro p e s m args below meth c A Z R hR9 C hA hZ hr hlocks ht hw
  subst hR9
  unfold w_X8_moves at h
  show xV (gC D ca ad tF) p l e ({ frames := 7, cells := xgc S + 2, slots := xgs S + 12, locals := 136 }) s m args below meth c A 2 Z (0 + (xgc S - xgc S)) (0 + (xgs S - xgs S)) 0 [(0, .ref (ad 0)), (1, .int (iN a1))] [] S
  refine xi_aload_n C 0 dX8_moves_0 rfl rfl ?_
  refine xc_VY C hw (xAl.refl S) rfl rfl (c_X8_needSearch l D ca ad tF S _ _ h hl9) xk_X8_needSearch xv_X8_needSearch xl_X8_140 ⟨⟨Nat.le_of_ble_eq_true rfl, Nat.le_of_ble_eq_true rfl⟩, Nat.le_of_ble_eq_true rfl, Nat.le_of_ble_eq_true rfl⟩ xK_X8 (q := 0) rfl rfl rfl (Nat.le_of_ble_eq_true rfl) dX8_moves_1 (fun E9 S9 h9 hw9 ha9 => xt_out C hA hZ hlocks ht ha9 rfl (Nat.le_of_ble_eq_true rfl) (Nat.le_of_ble_eq_true rfl) hw9 h9) (fun r9 S1 h9 hw1 ha2 => ?_)
  obtain ⟨rfl, h⟩ := h9
  refine xi_aload_n C 0 dX8_moves_4 rfl rfl ?_
  refine xi_iload_n C 1 dX8_moves_5 rfl rfl ?_
  refine xc_VY C hw1 ha2 rfl rfl (c_X8_needState l D ca ad tF a1 S1 _ _ h_a1 h hl9) xk_X8_needState xv_X8_needState xl_X8_158 ⟨⟨Nat.le_of_ble_eq_true rfl, Nat.le_of_ble_eq_true rfl⟩, Nat.le_of_ble_eq_true rfl, Nat.le_of_ble_eq_true rfl⟩ xK_X8 (q := 0) rfl rfl rfl (Nat.le_of_ble_eq_true rfl) dX8_moves_6 (fun E9 S9 h9 hw9 ha9 => xt_out C hA hZ hlocks ht ha9 rfl (Nat.le_of_ble_eq_true rfl) (Nat.le_of_ble_eq_true rfl) hw9 h9) (fun r9 S6 h9 hw3 ha4 => ?_)
  obtain ⟨rfl, h⟩ := h9
  refine xi_aload_n C 0 dX8_moves_9 rfl rfl ?_
  refine xi_getR C xK_X8 (q := 0) (r := 2) rfl 1 (by decide) (ki := 1) rfl xl_X8_27 rfl dX8_moves_10 ?_
  refine xi_iload_n C 1 dX8_moves_13 rfl rfl ?_
  refine xc_Vi C hw3 (c_X6_countMoves l D ca ad tF a1 S6 _ h_a1 h) xk_X6_countMoves xv_X6_countMoves xl_X8_165 ⟨Nat.le_of_ble_eq_true rfl, Nat.le_of_ble_eq_true rfl⟩ xK_X6 (q := 2) rfl rfl rfl (Nat.le_of_ble_eq_true rfl) ⟨xrm (Nat.le_of_ble_eq_true rfl), xrm (Nat.le_of_ble_eq_true rfl)⟩ dX8_moves_14 (fun r14 S14 h_r14 h hw5 => ?_)
  obtain ⟨hc6, h⟩ := h
  exact xr_iY C hA hZ ha4 hc6 hr hlocks rfl dX8_moves_17 (Nat.le_of_ble_eq_true rfl) (Nat.le_of_ble_eq_true rfl) hw5 ⟨_, rfl, h_r14, h⟩
set_option maxRecDepth 100000 in
set_option maxHeartbeats 4000000 in
theorem c_X8_reached (l : Launch) (D : va_G) (ca : Nat → ClassId) (ad : Nat → Nat) (tF : Nat) (a1 : Int) (a2 : Int) (S : xS) (Q : Int → xS → Prop) (X : String → xS → Prop) (h_a1 : xR a1) (h_a2 : xR a2) (h : w_X8_reached a1 a2 S Q X) (hl9 : l.stackTraces = false) : xMY l yX8_reached (xws yX8_reached cX8_reached 3 (some .long)) ({ frames := 7, cells := xgc S + 3, slots := xgs S + 18, locals := 137 }) (gC D ca ad tF) [.ref (ad 0), .int (iN a1), .int (iN a2)] S (xQj Q) X 3 18 := by
  refine xmY_of RX8 rfl (by decide +kernel) (Nat.le_of_ble_eq_true rfl) ?_
  intro p e s m args below meth c A Z R hR9 C hA hZ hr hlocks ht hw
  subst hR9
  unfold w_X8_reached at h
  show xV (gC D ca ad tF) p l e ({ frames := 7, cells := xgc S + 3, slots := xgs S + 18, locals := 137 }) s m args below meth c A 3 Z (0 + (xgc S - xgc S)) (0 + (xgs S - xgs S)) 0 [(0, .ref (ad 0)), (1, .int (iN a1)), (2, .int (iN a2))] [] S
  refine xi_aload_n C 0 dX8_reached_0 rfl rfl ?_
  refine xc_VY C hw (xAl.refl S) rfl rfl (c_X8_needSearch l D ca ad tF S _ _ h hl9) xk_X8_needSearch xv_X8_needSearch xl_X8_140 ⟨⟨Nat.le_of_ble_eq_true rfl, Nat.le_of_ble_eq_true rfl⟩, Nat.le_of_ble_eq_true rfl, Nat.le_of_ble_eq_true rfl⟩ xK_X8 (q := 0) rfl rfl rfl (Nat.le_of_ble_eq_true rfl) dX8_reached_1 (fun E9 S9 h9 hw9 ha9 => xt_out C hA hZ hlocks ht ha9 rfl (Nat.le_of_ble_eq_true rfl) (Nat.le_of_ble_eq_true rfl) hw9 h9) (fun r9 S1 h9 hw1 ha2 => ?_)
  obtain ⟨rfl, h⟩ := h9
  refine xi_aload_n C 0 dX8_reached_4 rfl rfl ?_
  refine xi_iload_n C 1 dX8_reached_5 rfl rfl ?_
  refine xc_VY C hw1 ha2 rfl rfl (c_X8_needState l D ca ad tF a1 S1 _ _ h_a1 h hl9) xk_X8_needState xv_X8_needState xl_X8_158 ⟨⟨Nat.le_of_ble_eq_true rfl, Nat.le_of_ble_eq_true rfl⟩, Nat.le_of_ble_eq_true rfl, Nat.le_of_ble_eq_true rfl⟩ xK_X8 (q := 0) rfl rfl rfl (Nat.le_of_ble_eq_true rfl) dX8_reached_6 (fun E9 S9 h9 hw9 ha9 => xt_out C hA hZ hlocks ht ha9 rfl (Nat.le_of_ble_eq_true rfl) (Nat.le_of_ble_eq_true rfl) hw9 h9) (fun r9 S6 h9 hw3 ha4 => ?_)
  obtain ⟨rfl, h⟩ := h9
  refine xi_iload_n C 2 dX8_reached_9 rfl rfl ?_
  refine xJ0_w (fun  S25 => xval (gC D ca ad tF) S25 → xAl S S25 → xV (gC D ca ad tF) p l e ({ frames := 7, cells := xgc S + 3, slots := xgs S + 18, locals := 137 }) s m args below meth c A 3 Z (2 + (xgc S - xgc S25)) (12 + (xgs S - xgs S25)) 25 [] [] S25) h (fun  S25 h  hw25 ha25 => ?_) (fun j25 hj25 h => ?_)
  · unfold w_X8_reached_J25 at h
    exact xi_throwN C hA hZ hl9 hlocks ht rfl xst_X8_170 ha25 rfl ⟨Nat.le_of_ble_eq_true rfl, Nat.le_of_ble_eq_true rfl⟩ (Nat.le_of_ble_eq_true rfl) (Nat.le_of_ble_eq_true rfl) dX8_reached_25 dX8_reached_28 dX8_reached_29 dX8_reached_31 dX8_reached_34 hw25 h
  · refine xi_if_lt C 25 h_a2 dX8_reached_10 (by decide) (fun z5 => ?_) (fun z5 => ?_)
    · replace h := h.1 z5
      exact xV_alY (S1 := S6) rfl (xi_sub [] rfl (hj25 S6 h hw3 (ha4.eq rfl)))
    · replace h := h.2 z5
      refine xi_iload_n C 2 dX8_reached_13 rfl rfl ?_
      refine xi_aload_n C 0 dX8_reached_14 rfl rfl ?_
      refine xi_getR C xK_X8 (q := 0) (r := 2) rfl 1 (by decide) (ki := 1) rfl xl_X8_27 rfl dX8_reached_15 ?_
      refine xi_iload_n C 1 dX8_reached_18 rfl rfl ?_
      refine xc_Vi C hw3 (c_X6_countMoves l D ca ad tF a1 S6 _ h_a1 h) xk_X6_countMoves xv_X6_countMoves xl_X8_165 ⟨Nat.le_of_ble_eq_true rfl, Nat.le_of_ble_eq_true rfl⟩ xK_X6 (q := 2) rfl rfl rfl (Nat.le_of_ble_eq_true rfl) ⟨xrm (Nat.le_of_ble_eq_true rfl), xrm (Nat.le_of_ble_eq_true rfl)⟩ dX8_reached_19 (fun r19 S19 h_r19 h hw6 => ?_)
      refine xi_icmp_lt C 35 h_a2 h_r19 dX8_reached_22 (by decide) (fun z7 => ?_) (fun z7 => ?_)
      · replace h := h.1 z7
        refine xi_aload_n C 0 dX8_reached_35 rfl rfl ?_
        refine xi_getR C xK_X8 (q := 0) (r := 2) rfl 1 (by decide) (ki := 1) rfl xl_X8_27 rfl dX8_reached_36 ?_
        refine xi_iload_n C 1 dX8_reached_39 rfl rfl ?_
        refine xi_iload_n C 2 dX8_reached_40 rfl rfl ?_
        refine xc_Vj C hw6 (c_X6_codeBehind l D ca ad tF a1 a2 S19 _ h_a1 h_a2 h) xk_X6_codeBehind xv_X6_codeBehind xl_X8_173 ⟨Nat.le_of_ble_eq_true rfl, Nat.le_of_ble_eq_true rfl⟩ xK_X6 (q := 2) rfl rfl rfl (Nat.le_of_ble_eq_true rfl) ⟨xrm (Nat.le_of_ble_eq_true rfl), xrm (Nat.le_of_ble_eq_true rfl)⟩ dX8_reached_41 (fun r41 S41 h_r41 h hw8 => ?_)
        obtain ⟨hc9, h⟩ := h
        exact xr_jY C hA hZ ha4 hc9 hr hlocks dX8_reached_44 (Nat.le_of_ble_eq_true rfl) (Nat.le_of_ble_eq_true rfl) hw8 ⟨_, rfl, h_r41, h⟩
      · replace h := h.2 z7
        obtain ⟨hc10, h⟩ := h
        exact xV_alY (S1 := S19) hc10 (xi_sub [] rfl (hj25 S19 h hw6 (ha4.eq hc10)))
set_option maxRecDepth 100000 in
set_option maxHeartbeats 4000000 in
theorem c_X8_variableIn (l : Launch) (D : va_G) (ca : Nat → ClassId) (ad : Nat → Nat) (tF : Nat) (a1 : Int) (a2 : Int) (S : xS) (Q : Int → xS → Prop) (X : String → xS → Prop) (h_a1 : xR a1) (h_a2 : xR a2) (h : w_X8_variableIn a1 a2 S Q X) (hl9 : l.stackTraces = false) : xMY l yX8_variableIn (xws yX8_variableIn cX8_variableIn 3 (some .int)) ({ frames := 7, cells := xgc S + 3, slots := xgs S + 18, locals := 111 }) (gC D ca ad tF) [.ref (ad 0), .int (iN a1), .int (iN a2)] S (xQi Q) X 3 18 := by
  refine xmY_of RX8 rfl (by decide +kernel) (Nat.le_of_ble_eq_true rfl) ?_
  intro p e s m args below meth c A Z R hR9 C hA hZ hr hlocks ht hw
  subst hR9
  unfold w_X8_variableIn at h
  show xV (gC D ca ad tF) p l e ({ frames := 7, cells := xgc S + 3, slots := xgs S + 18, locals := 111 }) s m args below meth c A 3 Z (0 + (xgc S - xgc S)) (0 + (xgs S - xgs S)) 0 [(0, .ref (ad 0)), (1, .int (iN a1)), (2, .int (iN a2))] [] S
  refine xi_aload_n C 0 dX8_variableIn_0 rfl rfl ?_
  refine xc_VY C hw (xAl.refl S) rfl rfl (c_X8_needSearch l D ca ad tF S _ _ h hl9) xk_X8_needSearch xv_X8_needSearch xl_X8_140 ⟨⟨Nat.le_of_ble_eq_true rfl, Nat.le_of_ble_eq_true rfl⟩, Nat.le_of_ble_eq_true rfl, Nat.le_of_ble_eq_true rfl⟩ xK_X8 (q := 0) rfl rfl rfl (Nat.le_of_ble_eq_true rfl) dX8_variableIn_1 (fun E9 S9 h9 hw9 ha9 => xt_out C hA hZ hlocks ht ha9 rfl (Nat.le_of_ble_eq_true rfl) (Nat.le_of_ble_eq_true rfl) hw9 h9) (fun r9 S1 h9 hw1 ha2 => ?_)
  obtain ⟨rfl, h⟩ := h9
  refine xi_aload_n C 0 dX8_variableIn_4 rfl rfl ?_
  refine xi_iload_n C 1 dX8_variableIn_5 rfl rfl ?_
  refine xc_VY C hw1 ha2 rfl rfl (c_X8_needState l D ca ad tF a1 S1 _ _ h_a1 h hl9) xk_X8_needState xv_X8_needState xl_X8_158 ⟨⟨Nat.le_of_ble_eq_true rfl, Nat.le_of_ble_eq_true rfl⟩, Nat.le_of_ble_eq_true rfl, Nat.le_of_ble_eq_true rfl⟩ xK_X8 (q := 0) rfl rfl rfl (Nat.le_of_ble_eq_true rfl) dX8_variableIn_6 (fun E9 S9 h9 hw9 ha9 => xt_out C hA hZ hlocks ht ha9 rfl (Nat.le_of_ble_eq_true rfl) (Nat.le_of_ble_eq_true rfl) hw9 h9) (fun r9 S6 h9 hw3 ha4 => ?_)
  obtain ⟨rfl, h⟩ := h9
  refine xi_iload_n C 2 dX8_variableIn_9 rfl rfl ?_
  refine xc_SY C hw3 ha4 rfl rfl (c_X8_needVariable l D ca ad tF a2 S6 _ _ h_a2 h hl9) xk_X8_needVariable xs_X8_needVariable xl_X8_95 ⟨⟨Nat.le_of_ble_eq_true rfl, Nat.le_of_ble_eq_true rfl⟩, Nat.le_of_ble_eq_true rfl, Nat.le_of_ble_eq_true rfl⟩ rfl rfl (Nat.le_of_ble_eq_true rfl) dX8_variableIn_10 (fun E9 S9 h9 hw9 ha9 => xt_out C hA hZ hlocks ht ha9 rfl (Nat.le_of_ble_eq_true rfl) (Nat.le_of_ble_eq_true rfl) hw9 h9) (fun r9 S10 h9 hw5 ha6 => ?_)
  obtain ⟨rfl, h⟩ := h9
  refine xi_aload_n C 0 dX8_variableIn_13 rfl rfl ?_
  refine xi_getR C xK_X8 (q := 0) (r := 2) rfl 1 (by decide) (ki := 1) rfl xl_X8_27 rfl dX8_variableIn_14 ?_
  refine xi_getRN C xK_X6 (q := 2) (r := 4) rfl 1 (by decide) (ki := 1) rfl xn_X8_148 rfl dX8_variableIn_17 ?_
  refine xi_iload_n C 1 dX8_variableIn_20 rfl rfl ?_
  refine xi_iload_n C 2 dX8_variableIn_21 rfl rfl ?_
  refine xc_Vi C hw5 (c_X1_valueIn l D ca ad tF a1 a2 S10 _ h_a1 h_a2 h) xk_X1_valueIn xv_X1_valueIn xl_X8_177 ⟨Nat.le_of_ble_eq_true rfl, Nat.le_of_ble_eq_true rfl⟩ xK_X1 (q := 4) rfl rfl rfl (Nat.le_of_ble_eq_true rfl) ⟨xrm (Nat.le_of_ble_eq_true rfl), xrm (Nat.le_of_ble_eq_true rfl)⟩ dX8_variableIn_22 (fun r22 S22 h_r22 h hw7 => ?_)
  obtain ⟨hc8, h⟩ := h
  exact xr_iY C hA hZ ha6 hc8 hr hlocks rfl dX8_variableIn_25 (Nat.le_of_ble_eq_true rfl) (Nat.le_of_ble_eq_true rfl) hw7 ⟨_, rfl, h_r22, h⟩
set_option maxRecDepth 100000 in
set_option maxHeartbeats 4000000 in
theorem c_X8_made (l : Launch) (D : va_G) (ca : Nat → ClassId) (ad : Nat → Nat) (tF : Nat)  (S : xS) (Q : Int → xS → Prop) (X : String → xS → Prop)  (h : w_X8_made  S Q X) (hl9 : l.stackTraces = false) : xMY l yX8_made (xws yX8_made cX8_made 1 (some .long)) ({ frames := 7, cells := xgc S + 1, slots := xgs S + 6, locals := 110 }) (gC D ca ad tF) [.ref (ad 0)] S (xQj Q) X 1 6 := by
  refine xmY_of RX8 rfl (by decide +kernel) (Nat.le_of_ble_eq_true rfl) ?_
  intro p e s m args below meth c A Z R hR9 C hA hZ hr hlocks ht hw
  subst hR9
  unfold w_X8_made at h
  show xV (gC D ca ad tF) p l e ({ frames := 7, cells := xgc S + 1, slots := xgs S + 6, locals := 110 }) s m args below meth c A 1 Z (0 + (xgc S - xgc S)) (0 + (xgs S - xgs S)) 0 [(0, .ref (ad 0))] [] S
  refine xi_aload_n C 0 dX8_made_0 rfl rfl ?_
  refine xc_VY C hw (xAl.refl S) rfl rfl (c_X8_needSearch l D ca ad tF S _ _ h hl9) xk_X8_needSearch xv_X8_needSearch xl_X8_140 ⟨⟨Nat.le_of_ble_eq_true rfl, Nat.le_of_ble_eq_true rfl⟩, Nat.le_of_ble_eq_true rfl, Nat.le_of_ble_eq_true rfl⟩ xK_X8 (q := 0) rfl rfl rfl (Nat.le_of_ble_eq_true rfl) dX8_made_1 (fun E9 S9 h9 hw9 ha9 => xt_out C hA hZ hlocks ht ha9 rfl (Nat.le_of_ble_eq_true rfl) (Nat.le_of_ble_eq_true rfl) hw9 h9) (fun r9 S1 h9 hw1 ha2 => ?_)
  obtain ⟨rfl, h⟩ := h9
  refine xi_aload_n C 0 dX8_made_4 rfl rfl ?_
  refine xi_getR C xK_X8 (q := 0) (r := 2) rfl 1 (by decide) (ki := 1) rfl xl_X8_27 rfl dX8_made_5 ?_
  refine xi_getJN C xK_X6 (q := 2) (r := 0) rfl 12 (by decide) (ki := 12) rfl xn_X8_180 rfl dX8_made_8 ?_
  exact xr_jY C hA hZ ha2 rfl hr hlocks dX8_made_11 (Nat.le_of_ble_eq_true rfl) (Nat.le_of_ble_eq_true rfl) hw1 ⟨_, rfl, (xval.j (q := 2) (i := 12) hw1 (by decide) rfl), h⟩
set_option maxRecDepth 100000 in
set_option maxHeartbeats 4000000 in
theorem c_X8_needFault (l : Launch) (D : va_G) (ca : Nat → ClassId) (ad : Nat → Nat) (tF : Nat)  (S : xS) (Q : xS → Prop) (X : String → xS → Prop)  (h : w_X8_needFault  S Q X) (hl9 : l.stackTraces = false) : xMY l yX8_needFault (xws yX8_needFault cX8_needFault 1 (none)) ({ frames := 7, cells := xgc S + 2, slots := xgs S + 12, locals := 110 }) (gC D ca ad tF) [.ref (ad 0)] S (xQv Q) X 2 12 := by
  refine xmY_of RX8 rfl (by decide +kernel) (Nat.le_of_ble_eq_true rfl) ?_
  intro p e s m args below meth c A Z R hR9 C hA hZ hr hlocks ht hw
  subst hR9
  unfold w_X8_needFault at h
  show xV (gC D ca ad tF) p l e ({ frames := 7, cells := xgc S + 2, slots := xgs S + 12, locals := 110 }) s m args below meth c A 1 Z (0 + (xgc S - xgc S)) (0 + (xgs S - xgs S)) 0 [(0, .ref (ad 0))] [] S
  refine xi_aload_n C 0 dX8_needFault_0 rfl rfl ?_
  refine xc_VY C hw (xAl.refl S) rfl rfl (c_X8_needSearch l D ca ad tF S _ _ h hl9) xk_X8_needSearch xv_X8_needSearch xl_X8_140 ⟨⟨Nat.le_of_ble_eq_true rfl, Nat.le_of_ble_eq_true rfl⟩, Nat.le_of_ble_eq_true rfl, Nat.le_of_ble_eq_true rfl⟩ xK_X8 (q := 0) rfl rfl rfl (Nat.le_of_ble_eq_true rfl) dX8_needFault_1 (fun E9 S9 h9 hw9 ha9 => xt_out C hA hZ hlocks ht ha9 rfl (Nat.le_of_ble_eq_true rfl) (Nat.le_of_ble_eq_true rfl) hw9 h9) (fun r9 S1 h9 hw1 ha2 => ?_)
  obtain ⟨rfl, h⟩ := h9
  refine xi_aload_n C 0 dX8_needFault_4 rfl rfl ?_
  refine xi_getR C xK_X8 (q := 0) (r := 2) rfl 1 (by decide) (ki := 1) rfl xl_X8_27 rfl dX8_needFault_5 ?_
  refine xi_getIN C xK_X6 (q := 2) (r := 0) rfl 13 (by decide) (ki := 13) rfl xn_X8_187 rfl dX8_needFault_8 ?_
  refine xi_bipush C (v := 45) dX8_needFault_11 (by decide +kernel) ?_
  refine xi_icmp_ne C 27 (xval.i (q := 2) (i := 13) hw1 (by decide) rfl) (by decide) dX8_needFault_13 (by decide) (fun z3 => ?_) (fun z3 => ?_)
  · replace h := h.1 z3
    exact xr_vY C hA hZ ha2 rfl hr hlocks dX8_needFault_27 (Nat.le_of_ble_eq_true rfl) (Nat.le_of_ble_eq_true rfl) hw1 ⟨rfl, h⟩
  · replace h := h.2 z3
    exact xi_throwNW C hA hZ hl9 hlocks ht rfl xst_X8_275 ha2 rfl ⟨Nat.le_of_ble_eq_true rfl, Nat.le_of_ble_eq_true rfl⟩ (Nat.le_of_ble_eq_true rfl) (Nat.le_of_ble_eq_true rfl) dX8_needFault_16 dX8_needFault_19 dX8_needFault_20 dX8_needFault_23 dX8_needFault_26 hw1 h
set_option maxRecDepth 100000 in
set_option maxHeartbeats 4000000 in
theorem c_X8_fault (l : Launch) (D : va_G) (ca : Nat → ClassId) (ad : Nat → Nat) (tF : Nat)  (S : xS) (Q : Int → xS → Prop) (X : String → xS → Prop)  (h : w_X8_fault  S Q X) (hl9 : l.stackTraces = false) : xMY l yX8_fault (xws yX8_fault cX8_fault 1 (some .char)) ({ frames := 8, cells := xgc S + 2, slots := xgs S + 12, locals := 130 }) (gC D ca ad tF) [.ref (ad 0)] S (xQi Q) X 2 12 := by
  refine xmY_of RX8 rfl (by decide +kernel) (Nat.le_of_ble_eq_true rfl) ?_
  intro p e s m args below meth c A Z R hR9 C hA hZ hr hlocks ht hw
  subst hR9
  unfold w_X8_fault at h
  show xV (gC D ca ad tF) p l e ({ frames := 8, cells := xgc S + 2, slots := xgs S + 12, locals := 130 }) s m args below meth c A 1 Z (0 + (xgc S - xgc S)) (0 + (xgs S - xgs S)) 0 [(0, .ref (ad 0))] [] S
  refine xi_aload_n C 0 dX8_fault_0 rfl rfl ?_
  refine xc_VY C hw (xAl.refl S) rfl rfl (c_X8_needFault l D ca ad tF S _ _ h hl9) xk_X8_needFault xv_X8_needFault xl_X8_184 ⟨⟨Nat.le_of_ble_eq_true rfl, Nat.le_of_ble_eq_true rfl⟩, Nat.le_of_ble_eq_true rfl, Nat.le_of_ble_eq_true rfl⟩ xK_X8 (q := 0) rfl rfl rfl (Nat.le_of_ble_eq_true rfl) dX8_fault_1 (fun E9 S9 h9 hw9 ha9 => xt_out C hA hZ hlocks ht ha9 rfl (Nat.le_of_ble_eq_true rfl) (Nat.le_of_ble_eq_true rfl) hw9 h9) (fun r9 S1 h9 hw1 ha2 => ?_)
  obtain ⟨rfl, h⟩ := h9
  refine xi_aload_n C 0 dX8_fault_4 rfl rfl ?_
  refine xi_getR C xK_X8 (q := 0) (r := 2) rfl 1 (by decide) (ki := 1) rfl xl_X8_27 rfl dX8_fault_5 ?_
  refine xi_getIN C xK_X6 (q := 2) (r := 0) rfl 13 (by decide) (ki := 13) rfl xn_X8_187 rfl dX8_fault_8 ?_
  obtain ⟨hc3, h⟩ := h
  exact xr_iY C hA hZ ha2 rfl hr hlocks (xnarC hc3).1 dX8_fault_11 (Nat.le_of_ble_eq_true rfl) (Nat.le_of_ble_eq_true rfl) hw1 ⟨_, rfl, (xval.i (q := 2) (i := 13) hw1 (by decide) rfl), h⟩
set_option maxRecDepth 100000 in
set_option maxHeartbeats 4000000 in
theorem c_X8_traceLength (l : Launch) (D : va_G) (ca : Nat → ClassId) (ad : Nat → Nat) (tF : Nat)  (S : xS) (Q : Int → xS → Prop) (X : String → xS → Prop)  (h : w_X8_traceLength  S Q X) (hl9 : l.stackTraces = false) : xMY l yX8_traceLength (xws yX8_traceLength cX8_traceLength 1 (some .int)) ({ frames := 8, cells := xgc S + 2, slots := xgs S + 12, locals := 130 }) (gC D ca ad tF) [.ref (ad 0)] S (xQi Q) X 2 12 := by
  refine xmY_of RX8 rfl (by decide +kernel) (Nat.le_of_ble_eq_true rfl) ?_
  intro p e s m args below meth c A Z R hR9 C hA hZ hr hlocks ht hw
  subst hR9
  unfold w_X8_traceLength at h
  show xV (gC D ca ad tF) p l e ({ frames := 8, cells := xgc S + 2, slots := xgs S + 12, locals := 130 }) s m args below meth c A 1 Z (0 + (xgc S - xgc S)) (0 + (xgs S - xgs S)) 0 [(0, .ref (ad 0))] [] S
  refine xi_aload_n C 0 dX8_traceLength_0 rfl rfl ?_
  refine xc_VY C hw (xAl.refl S) rfl rfl (c_X8_needFault l D ca ad tF S _ _ h hl9) xk_X8_needFault xv_X8_needFault xl_X8_184 ⟨⟨Nat.le_of_ble_eq_true rfl, Nat.le_of_ble_eq_true rfl⟩, Nat.le_of_ble_eq_true rfl, Nat.le_of_ble_eq_true rfl⟩ xK_X8 (q := 0) rfl rfl rfl (Nat.le_of_ble_eq_true rfl) dX8_traceLength_1 (fun E9 S9 h9 hw9 ha9 => xt_out C hA hZ hlocks ht ha9 rfl (Nat.le_of_ble_eq_true rfl) (Nat.le_of_ble_eq_true rfl) hw9 h9) (fun r9 S1 h9 hw1 ha2 => ?_)
  obtain ⟨rfl, h⟩ := h9
  refine xi_aload_n C 0 dX8_traceLength_4 rfl rfl ?_
  refine xi_getR C xK_X8 (q := 0) (r := 2) rfl 1 (by decide) (ki := 1) rfl xl_X8_27 rfl dX8_traceLength_5 ?_
  refine xi_getIN C xK_X6 (q := 2) (r := 0) rfl 8 (by decide) (ki := 8) rfl xn_X8_191 rfl dX8_traceLength_8 ?_
  exact xr_iY C hA hZ ha2 rfl hr hlocks rfl dX8_traceLength_11 (Nat.le_of_ble_eq_true rfl) (Nat.le_of_ble_eq_true rfl) hw1 ⟨_, rfl, (xval.i (q := 2) (i := 8) hw1 (by decide) rfl), h⟩
set_option maxRecDepth 100000 in
set_option maxHeartbeats 4000000 in
theorem c_X8_needPlace (l : Launch) (D : va_G) (ca : Nat → ClassId) (ad : Nat → Nat) (tF : Nat) (a1 : Int) (S : xS) (Q : xS → Prop) (X : String → xS → Prop) (h_a1 : xR a1) (h : w_X8_needPlace a1 S Q X) (hl9 : l.stackTraces = false) : xMY l yX8_needPlace (xws yX8_needPlace cX8_needPlace 2 (none)) ({ frames := 6, cells := xgc S + 1, slots := xgs S + 6, locals := 90 }) (gC D ca ad tF) [.ref (ad 0), .int (iN a1)] S (xQv Q) X 1 6 := by
  refine xmY_of RX8 rfl (by decide +kernel) (Nat.le_of_ble_eq_true rfl) ?_
  intro p e s m args below meth c A Z R hR9 C hA hZ hr hlocks ht hw
  subst hR9
  unfold w_X8_needPlace at h
  show xV (gC D ca ad tF) p l e ({ frames := 6, cells := xgc S + 1, slots := xgs S + 6, locals := 90 }) s m args below meth c A 2 Z (0 + (xgc S - xgc S)) (0 + (xgs S - xgs S)) 0 [(0, .ref (ad 0)), (1, .int (iN a1))] [] S
  refine xi_iload_n C 1 dX8_needPlace_0 rfl rfl ?_
  refine xJ0_w (fun  S15 => xval (gC D ca ad tF) S15 → xAl S S15 → xV (gC D ca ad tF) p l e ({ frames := 6, cells := xgc S + 1, slots := xgs S + 6, locals := 90 }) s m args below meth c A 2 Z (0 + (xgc S - xgc S15)) (0 + (xgs S - xgs S15)) 15 [] [] S15) h (fun  S15 h  hw15 ha15 => ?_) (fun j15 hj15 h => ?_)
  · unfold w_X8_needPlace_J15 at h
    exact xi_throwW C hA hZ hl9 hlocks ht rfl xx_X8_258 xst_X8_277 ha15 rfl ⟨Nat.le_of_ble_eq_true rfl, Nat.le_of_ble_eq_true rfl⟩ (Nat.le_of_ble_eq_true rfl) (Nat.le_of_ble_eq_true rfl) dX8_needPlace_15 dX8_needPlace_18 dX8_needPlace_19 dX8_needPlace_22 dX8_needPlace_25 hw15 h
  · refine xi_if_lt C 15 h_a1 dX8_needPlace_1 (by decide) (fun z1 => ?_) (fun z1 => ?_)
    · replace h := h.1 z1
      exact xV_alY (S1 := S) rfl (xi_sub [] rfl (hj15 S h hw ((xAl.refl S).eq rfl)))
    · replace h := h.2 z1
      refine xi_iload_n C 1 dX8_needPlace_4 rfl rfl ?_
      refine xi_aload_n C 0 dX8_needPlace_5 rfl rfl ?_
      refine xi_getR C xK_X8 (q := 0) (r := 2) rfl 1 (by decide) (ki := 1) rfl xl_X8_27 rfl dX8_needPlace_6 ?_
      refine xi_getIN C xK_X6 (q := 2) (r := 0) rfl 8 (by decide) (ki := 8) rfl xn_X8_191 rfl dX8_needPlace_9 ?_
      refine xi_icmp_lt C 26 h_a1 (xval.i (q := 2) (i := 8) hw (by decide) rfl) dX8_needPlace_12 (by decide) (fun z2 => ?_) (fun z2 => ?_)
      · replace h := h.1 z2
        exact xr_vY C hA hZ (xAl.refl S) rfl hr hlocks dX8_needPlace_26 (Nat.le_of_ble_eq_true rfl) (Nat.le_of_ble_eq_true rfl) hw ⟨rfl, h⟩
      · replace h := h.2 z2
        exact xV_alY (S1 := S) rfl (xi_sub [] rfl (hj15 S h hw ((xAl.refl S).eq rfl)))
set_option maxRecDepth 100000 in
set_option maxHeartbeats 4000000 in
theorem c_X8_traceProcess (l : Launch) (D : va_G) (ca : Nat → ClassId) (ad : Nat → Nat) (tF : Nat) (a1 : Int) (S : xS) (Q : Int → xS → Prop) (X : String → xS → Prop) (h_a1 : xR a1) (h : w_X8_traceProcess a1 S Q X) (hl9 : l.stackTraces = false) : xMY l yX8_traceProcess (xws yX8_traceProcess cX8_traceProcess 2 (some .int)) ({ frames := 8, cells := xgc S + 3, slots := xgs S + 18, locals := 130 }) (gC D ca ad tF) [.ref (ad 0), .int (iN a1)] S (xQi Q) X 3 18 := by
  refine xmY_of RX8 rfl (by decide +kernel) (Nat.le_of_ble_eq_true rfl) ?_
  intro p e s m args below meth c A Z R hR9 C hA hZ hr hlocks ht hw
  subst hR9
  unfold w_X8_traceProcess at h
  show xV (gC D ca ad tF) p l e ({ frames := 8, cells := xgc S + 3, slots := xgs S + 18, locals := 130 }) s m args below meth c A 2 Z (0 + (xgc S - xgc S)) (0 + (xgs S - xgs S)) 0 [(0, .ref (ad 0)), (1, .int (iN a1))] [] S
  refine xi_aload_n C 0 dX8_traceProcess_0 rfl rfl ?_
  refine xc_VY C hw (xAl.refl S) rfl rfl (c_X8_needFault l D ca ad tF S _ _ h hl9) xk_X8_needFault xv_X8_needFault xl_X8_184 ⟨⟨Nat.le_of_ble_eq_true rfl, Nat.le_of_ble_eq_true rfl⟩, Nat.le_of_ble_eq_true rfl, Nat.le_of_ble_eq_true rfl⟩ xK_X8 (q := 0) rfl rfl rfl (Nat.le_of_ble_eq_true rfl) dX8_traceProcess_1 (fun E9 S9 h9 hw9 ha9 => xt_out C hA hZ hlocks ht ha9 rfl (Nat.le_of_ble_eq_true rfl) (Nat.le_of_ble_eq_true rfl) hw9 h9) (fun r9 S1 h9 hw1 ha2 => ?_)
  obtain ⟨rfl, h⟩ := h9
  refine xi_aload_n C 0 dX8_traceProcess_4 rfl rfl ?_
  refine xi_iload_n C 1 dX8_traceProcess_5 rfl rfl ?_
  refine xc_VY C hw1 ha2 rfl rfl (c_X8_needPlace l D ca ad tF a1 S1 _ _ h_a1 h hl9) xk_X8_needPlace xv_X8_needPlace xl_X8_194 ⟨⟨Nat.le_of_ble_eq_true rfl, Nat.le_of_ble_eq_true rfl⟩, Nat.le_of_ble_eq_true rfl, Nat.le_of_ble_eq_true rfl⟩ xK_X8 (q := 0) rfl rfl rfl (Nat.le_of_ble_eq_true rfl) dX8_traceProcess_6 (fun E9 S9 h9 hw9 ha9 => xt_out C hA hZ hlocks ht ha9 rfl (Nat.le_of_ble_eq_true rfl) (Nat.le_of_ble_eq_true rfl) hw9 h9) (fun r9 S6 h9 hw3 ha4 => ?_)
  obtain ⟨rfl, h⟩ := h9
  refine xi_aload_n C 0 dX8_traceProcess_9 rfl rfl ?_
  refine xi_getR C xK_X8 (q := 0) (r := 2) rfl 1 (by decide) (ki := 1) rfl xl_X8_27 rfl dX8_traceProcess_10 ?_
  refine xi_getRN C xK_X6 (q := 2) (r := 22) rfl 7 (by decide) (ki := 7) rfl xn_X8_197 rfl dX8_traceProcess_13 ?_
  refine xi_iload_n C 1 dX8_traceProcess_16 rfl rfl ?_
  obtain ⟨hc5, h⟩ := h
  refine xi_iaload C (q := 22) rfl (by decide) hc5 dX8_traceProcess_17 ?_
  refine xc_Si C hw3 (c_X3_leadOf l D ca ad tF (S6 22 a1) S6 _ (xval.i (q := 22) (i := a1) hw3 hc5.1 rfl) h) xk_X3_leadOf xs_X3_leadOf xl_X8_200 ⟨Nat.le_of_ble_eq_true rfl, Nat.le_of_ble_eq_true rfl⟩ rfl rfl (Nat.le_of_ble_eq_true rfl) ⟨xrm (Nat.le_of_ble_eq_true rfl), xrm (Nat.le_of_ble_eq_true rfl)⟩ dX8_traceProcess_18 (fun r18 S18 h_r18 h hw6 => ?_)
  refine xc_Si C hw6 (c_X4_processOf l D ca ad tF r18 S18 _ h_r18 h) xk_X4_processOf xs_X4_processOf xl_X8_205 ⟨Nat.le_of_ble_eq_true rfl, Nat.le_of_ble_eq_true rfl⟩ rfl rfl (Nat.le_of_ble_eq_true rfl) ⟨xrm (Nat.le_of_ble_eq_true rfl), xrm (Nat.le_of_ble_eq_true rfl)⟩ dX8_traceProcess_21 (fun r21 S21 h_r21 h hw7 => ?_)
  obtain ⟨hc8, h⟩ := h
  exact xr_iY C hA hZ ha4 hc8 hr hlocks rfl dX8_traceProcess_24 (Nat.le_of_ble_eq_true rfl) (Nat.le_of_ble_eq_true rfl) hw7 ⟨_, rfl, h_r21, h⟩
set_option maxRecDepth 100000 in
set_option maxHeartbeats 4000000 in
theorem c_X8_traceStep (l : Launch) (D : va_G) (ca : Nat → ClassId) (ad : Nat → Nat) (tF : Nat) (a1 : Int) (S : xS) (Q : Int → xS → Prop) (X : String → xS → Prop) (h_a1 : xR a1) (h : w_X8_traceStep a1 S Q X) (hl9 : l.stackTraces = false) : xMY l yX8_traceStep (xws yX8_traceStep cX8_traceStep 2 (some .int)) ({ frames := 8, cells := xgc S + 3, slots := xgs S + 18, locals := 130 }) (gC D ca ad tF) [.ref (ad 0), .int (iN a1)] S (xQi Q) X 3 18 := by
  refine xmY_of RX8 rfl (by decide +kernel) (Nat.le_of_ble_eq_true rfl) ?_
  intro p e s m args below meth c A Z R hR9 C hA hZ hr hlocks ht hw
  subst hR9
  unfold w_X8_traceStep at h
  show xV (gC D ca ad tF) p l e ({ frames := 8, cells := xgc S + 3, slots := xgs S + 18, locals := 130 }) s m args below meth c A 2 Z (0 + (xgc S - xgc S)) (0 + (xgs S - xgs S)) 0 [(0, .ref (ad 0)), (1, .int (iN a1))] [] S
  refine xi_aload_n C 0 dX8_traceStep_0 rfl rfl ?_
  refine xc_VY C hw (xAl.refl S) rfl rfl (c_X8_needFault l D ca ad tF S _ _ h hl9) xk_X8_needFault xv_X8_needFault xl_X8_184 ⟨⟨Nat.le_of_ble_eq_true rfl, Nat.le_of_ble_eq_true rfl⟩, Nat.le_of_ble_eq_true rfl, Nat.le_of_ble_eq_true rfl⟩ xK_X8 (q := 0) rfl rfl rfl (Nat.le_of_ble_eq_true rfl) dX8_traceStep_1 (fun E9 S9 h9 hw9 ha9 => xt_out C hA hZ hlocks ht ha9 rfl (Nat.le_of_ble_eq_true rfl) (Nat.le_of_ble_eq_true rfl) hw9 h9) (fun r9 S1 h9 hw1 ha2 => ?_)
  obtain ⟨rfl, h⟩ := h9
  refine xi_aload_n C 0 dX8_traceStep_4 rfl rfl ?_
  refine xi_iload_n C 1 dX8_traceStep_5 rfl rfl ?_
  refine xc_VY C hw1 ha2 rfl rfl (c_X8_needPlace l D ca ad tF a1 S1 _ _ h_a1 h hl9) xk_X8_needPlace xv_X8_needPlace xl_X8_194 ⟨⟨Nat.le_of_ble_eq_true rfl, Nat.le_of_ble_eq_true rfl⟩, Nat.le_of_ble_eq_true rfl, Nat.le_of_ble_eq_true rfl⟩ xK_X8 (q := 0) rfl rfl rfl (Nat.le_of_ble_eq_true rfl) dX8_traceStep_6 (fun E9 S9 h9 hw9 ha9 => xt_out C hA hZ hlocks ht ha9 rfl (Nat.le_of_ble_eq_true rfl) (Nat.le_of_ble_eq_true rfl) hw9 h9) (fun r9 S6 h9 hw3 ha4 => ?_)
  obtain ⟨rfl, h⟩ := h9
  refine xi_aload_n C 0 dX8_traceStep_9 rfl rfl ?_
  refine xi_getR C xK_X8 (q := 0) (r := 2) rfl 1 (by decide) (ki := 1) rfl xl_X8_27 rfl dX8_traceStep_10 ?_
  refine xi_getRN C xK_X6 (q := 2) (r := 22) rfl 7 (by decide) (ki := 7) rfl xn_X8_197 rfl dX8_traceStep_13 ?_
  refine xi_iload_n C 1 dX8_traceStep_16 rfl rfl ?_
  obtain ⟨hc5, h⟩ := h
  refine xi_iaload C (q := 22) rfl (by decide) hc5 dX8_traceStep_17 ?_
  refine xc_Si C hw3 (c_X3_leadOf l D ca ad tF (S6 22 a1) S6 _ (xval.i (q := 22) (i := a1) hw3 hc5.1 rfl) h) xk_X3_leadOf xs_X3_leadOf xl_X8_200 ⟨Nat.le_of_ble_eq_true rfl, Nat.le_of_ble_eq_true rfl⟩ rfl rfl (Nat.le_of_ble_eq_true rfl) ⟨xrm (Nat.le_of_ble_eq_true rfl), xrm (Nat.le_of_ble_eq_true rfl)⟩ dX8_traceStep_18 (fun r18 S18 h_r18 h hw6 => ?_)
  refine xc_Si C hw6 (c_X4_numberOf l D ca ad tF r18 S18 _ h_r18 h) xk_X4_numberOf xs_X4_numberOf xl_X8_208 ⟨Nat.le_of_ble_eq_true rfl, Nat.le_of_ble_eq_true rfl⟩ rfl rfl (Nat.le_of_ble_eq_true rfl) ⟨xrm (Nat.le_of_ble_eq_true rfl), xrm (Nat.le_of_ble_eq_true rfl)⟩ dX8_traceStep_21 (fun r21 S21 h_r21 h hw7 => ?_)
  obtain ⟨hc8, h⟩ := h
  exact xr_iY C hA hZ ha4 hc8 hr hlocks rfl dX8_traceStep_24 (Nat.le_of_ble_eq_true rfl) (Nat.le_of_ble_eq_true rfl) hw7 ⟨_, rfl, h_r21, h⟩
set_option maxRecDepth 100000 in
set_option maxHeartbeats 4000000 in
theorem c_X8_replays (l : Launch) (D : va_G) (ca : Nat → ClassId) (ad : Nat → Nat) (tF : Nat)  (S : xS) (Q : Int → xS → Prop) (X : String → xS → Prop)  (h : w_X8_replays  S Q X) (hl9 : l.stackTraces = false) : xMY l yX8_replays (xws yX8_replays cX8_replays 1 (some .boolean)) ({ frames := 8, cells := xgc S + 2, slots := xgs S + 12, locals := 130 }) (gC D ca ad tF) [.ref (ad 0)] S (xQi Q) X 2 12 := by
  refine xmY_of RX8 rfl (by decide +kernel) (Nat.le_of_ble_eq_true rfl) ?_
  intro p e s m args below meth c A Z R hR9 C hA hZ hr hlocks ht hw
  subst hR9
  unfold w_X8_replays at h
  show xV (gC D ca ad tF) p l e ({ frames := 8, cells := xgc S + 2, slots := xgs S + 12, locals := 130 }) s m args below meth c A 1 Z (0 + (xgc S - xgc S)) (0 + (xgs S - xgs S)) 0 [(0, .ref (ad 0))] [] S
  refine xi_aload_n C 0 dX8_replays_0 rfl rfl ?_
  refine xc_VY C hw (xAl.refl S) rfl rfl (c_X8_needFault l D ca ad tF S _ _ h hl9) xk_X8_needFault xv_X8_needFault xl_X8_184 ⟨⟨Nat.le_of_ble_eq_true rfl, Nat.le_of_ble_eq_true rfl⟩, Nat.le_of_ble_eq_true rfl, Nat.le_of_ble_eq_true rfl⟩ xK_X8 (q := 0) rfl rfl rfl (Nat.le_of_ble_eq_true rfl) dX8_replays_1 (fun E9 S9 h9 hw9 ha9 => xt_out C hA hZ hlocks ht ha9 rfl (Nat.le_of_ble_eq_true rfl) (Nat.le_of_ble_eq_true rfl) hw9 h9) (fun r9 S1 h9 hw1 ha2 => ?_)
  obtain ⟨rfl, h⟩ := h9
  refine xi_aload_n C 0 dX8_replays_4 rfl rfl ?_
  refine xi_getR C xK_X8 (q := 0) (r := 2) rfl 1 (by decide) (ki := 1) rfl xl_X8_27 rfl dX8_replays_5 ?_
  refine xc_Vi C hw1 (c_X6_doesReplay l D ca ad tF S1 _ h) xk_X6_doesReplay xv_X6_doesReplay xl_X8_211 ⟨Nat.le_of_ble_eq_true rfl, Nat.le_of_ble_eq_true rfl⟩ xK_X6 (q := 2) rfl rfl rfl (Nat.le_of_ble_eq_true rfl) ⟨xrm (Nat.le_of_ble_eq_true rfl), xrm (Nat.le_of_ble_eq_true rfl)⟩ dX8_replays_8 (fun r8 S8 h_r8 h hw3 => ?_)
  obtain ⟨hc4, h⟩ := h
  obtain ⟨hc5, h⟩ := h
  exact xr_iY C hA hZ ha2 hc4 hr hlocks (xnarZ hc5).1 dX8_replays_11 (Nat.le_of_ble_eq_true rfl) (Nat.le_of_ble_eq_true rfl) hw3 ⟨_, rfl, h_r8, h⟩
set_option maxRecDepth 100000 in
set_option maxHeartbeats 4000000 in
theorem c_X8_needAllRuns (l : Launch) (D : va_G) (ca : Nat → ClassId) (ad : Nat → Nat) (tF : Nat)  (S : xS) (Q : xS → Prop) (X : String → xS → Prop)  (h : w_X8_needAllRuns  S Q X) (hl9 : l.stackTraces = false) : xMY l yX8_needAllRuns (xws yX8_needAllRuns cX8_needAllRuns 1 (none)) ({ frames := 6, cells := xgc S + 1, slots := xgs S + 6, locals := 90 }) (gC D ca ad tF) [.ref (ad 0)] S (xQv Q) X 1 6 := by
  refine xmY_of RX8 rfl (by decide +kernel) (Nat.le_of_ble_eq_true rfl) ?_
  intro p e s m args below meth c A Z R hR9 C hA hZ hr hlocks ht hw
  subst hR9
  unfold w_X8_needAllRuns at h
  show xV (gC D ca ad tF) p l e ({ frames := 6, cells := xgc S + 1, slots := xgs S + 6, locals := 90 }) s m args below meth c A 1 Z (0 + (xgc S - xgc S)) (0 + (xgs S - xgs S)) 0 [(0, .ref (ad 0))] [] S
  refine xi_aload_n C 0 dX8_needAllRuns_0 rfl rfl ?_
  refine xi_getR C xK_X8 (q := 0) (r := 2) rfl 1 (by decide) (ki := 1) rfl xl_X8_27 rfl dX8_needAllRuns_1 ?_
  refine xi_getIN C xK_X6 (q := 2) (r := 0) rfl 9 (by decide) (ki := 9) rfl xn_X8_251 rfl dX8_needAllRuns_4 ?_
  refine xJ0_w (fun  S34 => xval (gC D ca ad tF) S34 → xAl S S34 → xV (gC D ca ad tF) p l e ({ frames := 6, cells := xgc S + 1, slots := xgs S + 6, locals := 90 }) s m args below meth c A 1 Z (0 + (xgc S - xgc S34)) (0 + (xgs S - xgs S34)) 34 [] [] S34) h (fun  S34 h  hw34 ha34 => ?_) (fun j34 hj34 h => ?_)
  · unfold w_X8_needAllRuns_J34 at h
    exact xi_throwW C hA hZ hl9 hlocks ht rfl xx_X8_44 xst_X8_282 ha34 rfl ⟨Nat.le_of_ble_eq_true rfl, Nat.le_of_ble_eq_true rfl⟩ (Nat.le_of_ble_eq_true rfl) (Nat.le_of_ble_eq_true rfl) dX8_needAllRuns_34 dX8_needAllRuns_37 dX8_needAllRuns_38 dX8_needAllRuns_41 dX8_needAllRuns_44 hw34 h
  · refine xi_if_eq C 34 (xval.i (q := 2) (i := 9) hw (by decide) rfl) dX8_needAllRuns_7 (by decide) (fun z1 => ?_) (fun z1 => ?_)
    · replace h := h.1 z1
      exact xV_alY (S1 := S) rfl (xi_sub [] rfl (hj34 S h hw ((xAl.refl S).eq rfl)))
    · replace h := h.2 z1
      refine xi_aload_n C 0 dX8_needAllRuns_10 rfl rfl ?_
      refine xi_getR C xK_X8 (q := 0) (r := 2) rfl 1 (by decide) (ki := 1) rfl xl_X8_27 rfl dX8_needAllRuns_11 ?_
      refine xi_getIN C xK_X6 (q := 2) (r := 0) rfl 10 (by decide) (ki := 10) rfl xn_X8_279 rfl dX8_needAllRuns_14 ?_
      refine xi_bipush C (v := 97) dX8_needAllRuns_17 (by decide +kernel) ?_
      refine xi_icmp_ne C 34 (xval.i (q := 2) (i := 10) hw (by decide) rfl) (by decide) dX8_needAllRuns_19 (by decide) (fun z2 => ?_) (fun z2 => ?_)
      · replace h := h.1 z2
        exact xV_alY (S1 := S) rfl (xi_sub [] rfl (hj34 S h hw ((xAl.refl S).eq rfl)))
      · replace h := h.2 z2
        refine xi_aload_n C 0 dX8_needAllRuns_22 rfl rfl ?_
        refine xi_getR C xK_X8 (q := 0) (r := 2) rfl 1 (by decide) (ki := 1) rfl xl_X8_27 rfl dX8_needAllRuns_23 ?_
        refine xc_Vi C hw (c_X6_judge l D ca ad tF S _ h) xk_X6_judge xv_X6_judge xl_X8_136 ⟨Nat.le_of_ble_eq_true rfl, Nat.le_of_ble_eq_true rfl⟩ xK_X6 (q := 2) rfl rfl rfl (Nat.le_of_ble_eq_true rfl) ⟨xrm (Nat.le_of_ble_eq_true rfl), xrm (Nat.le_of_ble_eq_true rfl)⟩ dX8_needAllRuns_26 (fun r26 S26 h_r26 h hw3 => ?_)
        refine xi_bipush C (v := 110) dX8_needAllRuns_29 (by decide +kernel) ?_
        refine xi_icmp_eq C 45 h_r26 (by decide) dX8_needAllRuns_31 (by decide) (fun z4 => ?_) (fun z4 => ?_)
        · replace h := h.1 z4
          obtain ⟨hc5, h⟩ := h
          exact xr_vY C hA hZ (xAl.refl S) hc5 hr hlocks dX8_needAllRuns_45 (Nat.le_of_ble_eq_true rfl) (Nat.le_of_ble_eq_true rfl) hw3 ⟨rfl, h⟩
        · replace h := h.2 z4
          obtain ⟨hc6, h⟩ := h
          exact xV_alY (S1 := S26) hc6 (xi_sub [] rfl (hj34 S26 h hw3 ((xAl.refl S).eq hc6)))
set_option maxRecDepth 100000 in
set_option maxHeartbeats 4000000 in
theorem c_X8_recurs (l : Launch) (D : va_G) (ca : Nat → ClassId) (ad : Nat → Nat) (tF : Nat) (a1 : Int) (a2 : Int) (a3 : Int) (S : xS) (Q : Int → xS → Prop) (X : String → xS → Prop) (h_a1 : xR a1) (h_a2 : xR a2) (h_a3 : xR a3) (h : w_X8_recurs a1 a2 a3 S Q X) (hl9 : l.stackTraces = false) : xMY l yX8_recurs (xws yX8_recurs cX8_recurs 4 (some .boolean)) ({ frames := 7, cells := xgc S + 3, slots := xgs S + 18, locals := 153 }) (gC D ca ad tF) [.ref (ad 0), .int (iN a1), .int (iN a2), .int (iN a3)] S (xQi Q) X 3 18 := by
  refine xmY_of RX8 rfl (by decide +kernel) (Nat.le_of_ble_eq_true rfl) ?_
  intro p e s m args below meth c A Z R hR9 C hA hZ hr hlocks ht hw
  subst hR9
  unfold w_X8_recurs at h
  show xV (gC D ca ad tF) p l e ({ frames := 7, cells := xgc S + 3, slots := xgs S + 18, locals := 153 }) s m args below meth c A 4 Z (0 + (xgc S - xgc S)) (0 + (xgs S - xgs S)) 0 [(0, .ref (ad 0)), (1, .int (iN a1)), (2, .int (iN a2)), (3, .int (iN a3))] [] S
  refine xi_iload_n C 1 dX8_recurs_0 rfl rfl ?_
  refine xc_SY C hw (xAl.refl S) rfl rfl (c_X8_needVariable l D ca ad tF a1 S _ _ h_a1 h hl9) xk_X8_needVariable xs_X8_needVariable xl_X8_95 ⟨⟨Nat.le_of_ble_eq_true rfl, Nat.le_of_ble_eq_true rfl⟩, Nat.le_of_ble_eq_true rfl, Nat.le_of_ble_eq_true rfl⟩ rfl rfl (Nat.le_of_ble_eq_true rfl) dX8_recurs_1 (fun E9 S9 h9 hw9 ha9 => xt_out C hA hZ hlocks ht ha9 rfl (Nat.le_of_ble_eq_true rfl) (Nat.le_of_ble_eq_true rfl) hw9 h9) (fun r9 S1 h9 hw1 ha2 => ?_)
  obtain ⟨rfl, h⟩ := h9
  refine xi_iload_n C 2 dX8_recurs_4 rfl rfl ?_
  refine xc_SY C hw1 ha2 rfl rfl (c_X8_needNumber l D ca ad tF a2 S1 _ _ h_a2 h hl9) xk_X8_needNumber xs_X8_needNumber xl_X8_98 ⟨⟨Nat.le_of_ble_eq_true rfl, Nat.le_of_ble_eq_true rfl⟩, Nat.le_of_ble_eq_true rfl, Nat.le_of_ble_eq_true rfl⟩ rfl rfl (Nat.le_of_ble_eq_true rfl) dX8_recurs_5 (fun E9 S9 h9 hw9 ha9 => xt_out C hA hZ hlocks ht ha9 rfl (Nat.le_of_ble_eq_true rfl) (Nat.le_of_ble_eq_true rfl) hw9 h9) (fun r9 S5 h9 hw3 ha4 => ?_)
  obtain ⟨rfl, h⟩ := h9
  refine xi_aload_n C 0 dX8_recurs_8 rfl rfl ?_
  refine xc_VY C hw3 ha4 rfl rfl (c_X8_needAllRuns l D ca ad tF S5 _ _ h hl9) xk_X8_needAllRuns xv_X8_needAllRuns xl_X8_214 ⟨⟨Nat.le_of_ble_eq_true rfl, Nat.le_of_ble_eq_true rfl⟩, Nat.le_of_ble_eq_true rfl, Nat.le_of_ble_eq_true rfl⟩ xK_X8 (q := 0) rfl rfl rfl (Nat.le_of_ble_eq_true rfl) dX8_recurs_9 (fun E9 S9 h9 hw9 ha9 => xt_out C hA hZ hlocks ht ha9 rfl (Nat.le_of_ble_eq_true rfl) (Nat.le_of_ble_eq_true rfl) hw9 h9) (fun r9 S9 h9 hw5 ha6 => ?_)
  obtain ⟨rfl, h⟩ := h9
  refine xi_aload_n C 0 dX8_recurs_12 rfl rfl ?_
  refine xi_getR C xK_X8 (q := 0) (r := 3) rfl 2 (by decide) (ki := 2) rfl xl_X8_36 rfl dX8_recurs_13 ?_
  refine xi_iload_n C 1 dX8_recurs_16 rfl rfl ?_
  refine xi_iload_n C 2 dX8_recurs_17 rfl rfl ?_
  refine xi_iload_n C 3 dX8_recurs_18 rfl rfl ?_
  refine xc_Vi C hw5 (c_X5_canLeaveForGood l D ca ad tF a1 a2 a3 S9 _ h_a1 h_a2 h_a3 h) xk_X5_canLeaveForGood xv_X5_canLeaveForGood xl_X8_217 ⟨Nat.le_of_ble_eq_true rfl, Nat.le_of_ble_eq_true rfl⟩ xK_X5 (q := 3) rfl rfl rfl (Nat.le_of_ble_eq_true rfl) ⟨xrm (Nat.le_of_ble_eq_true rfl), xrm (Nat.le_of_ble_eq_true rfl)⟩ dX8_recurs_19 (fun r19 S19 h_r19 h hw7 => ?_)
  refine xi_if_ne C 29 h_r19 dX8_recurs_22 (by decide) (fun z8 => ?_) (fun z8 => ?_)
  · replace h := h.1 z8
    refine xi_iconst C (v := 0) dX8_recurs_29 rfl ?_
    obtain ⟨hc9, h⟩ := h
    exact xr_iY C hA hZ ha6 hc9 hr hlocks (xnarZ (Or.inl rfl)).1 dX8_recurs_30 (Nat.le_of_ble_eq_true rfl) (Nat.le_of_ble_eq_true rfl) hw7 ⟨_, rfl, (by decide), h⟩
  · replace h := h.2 z8
    refine xi_iconst C (v := 1) dX8_recurs_25 rfl ?_
    refine xi_goto C 30 dX8_recurs_26 (by decide) ?_
    obtain ⟨hc10, h⟩ := h
    exact xr_iY C hA hZ ha6 hc10 hr hlocks (xnarZ (Or.inr rfl)).1 dX8_recurs_30 (Nat.le_of_ble_eq_true rfl) (Nat.le_of_ble_eq_true rfl) hw7 ⟨_, rfl, (by decide), h⟩
set_option maxRecDepth 100000 in
set_option maxHeartbeats 4000000 in
theorem c_X8_recursByTaking (l : Launch) (D : va_G) (ca : Nat → ClassId) (ad : Nat → Nat) (tF : Nat) (a1 : Int) (a2 : Int) (S : xS) (Q : Int → xS → Prop) (X : String → xS → Prop) (h_a1 : xR a1) (h_a2 : xR a2) (h : w_X8_recursByTaking a1 a2 S Q X) (hl9 : l.stackTraces = false) : xMY l yX8_recursByTaking (xws yX8_recursByTaking cX8_recursByTaking 3 (some .boolean)) ({ frames := 7, cells := xgc S + 3, slots := xgs S + 18, locals := 110 }) (gC D ca ad tF) [.ref (ad 0), .int (iN a1), .int (iN a2)] S (xQi Q) X 3 18 := by
  refine xmY_of RX8 rfl (by decide +kernel) (Nat.le_of_ble_eq_true rfl) ?_
  intro p e s m args below meth c A Z R hR9 C hA hZ hr hlocks ht hw
  subst hR9
  unfold w_X8_recursByTaking at h
  show xV (gC D ca ad tF) p l e ({ frames := 7, cells := xgc S + 3, slots := xgs S + 18, locals := 110 }) s m args below meth c A 3 Z (0 + (xgc S - xgc S)) (0 + (xgs S - xgs S)) 0 [(0, .ref (ad 0)), (1, .int (iN a1)), (2, .int (iN a2))] [] S
  refine xi_iload_n C 1 dX8_recursByTaking_0 rfl rfl ?_
  refine xc_SY C hw (xAl.refl S) rfl rfl (c_X8_needVariable l D ca ad tF a1 S _ _ h_a1 h hl9) xk_X8_needVariable xs_X8_needVariable xl_X8_95 ⟨⟨Nat.le_of_ble_eq_true rfl, Nat.le_of_ble_eq_true rfl⟩, Nat.le_of_ble_eq_true rfl, Nat.le_of_ble_eq_true rfl⟩ rfl rfl (Nat.le_of_ble_eq_true rfl) dX8_recursByTaking_1 (fun E9 S9 h9 hw9 ha9 => xt_out C hA hZ hlocks ht ha9 rfl (Nat.le_of_ble_eq_true rfl) (Nat.le_of_ble_eq_true rfl) hw9 h9) (fun r9 S1 h9 hw1 ha2 => ?_)
  obtain ⟨rfl, h⟩ := h9
  refine xi_iload_n C 2 dX8_recursByTaking_4 rfl rfl ?_
  refine xc_SY C hw1 ha2 rfl rfl (c_X8_needNumber l D ca ad tF a2 S1 _ _ h_a2 h hl9) xk_X8_needNumber xs_X8_needNumber xl_X8_98 ⟨⟨Nat.le_of_ble_eq_true rfl, Nat.le_of_ble_eq_true rfl⟩, Nat.le_of_ble_eq_true rfl, Nat.le_of_ble_eq_true rfl⟩ rfl rfl (Nat.le_of_ble_eq_true rfl) dX8_recursByTaking_5 (fun E9 S9 h9 hw9 ha9 => xt_out C hA hZ hlocks ht ha9 rfl (Nat.le_of_ble_eq_true rfl) (Nat.le_of_ble_eq_true rfl) hw9 h9) (fun r9 S5 h9 hw3 ha4 => ?_)
  obtain ⟨rfl, h⟩ := h9
  refine xi_aload_n C 0 dX8_recursByTaking_8 rfl rfl ?_
  refine xc_VY C hw3 ha4 rfl rfl (c_X8_needAllRuns l D ca ad tF S5 _ _ h hl9) xk_X8_needAllRuns xv_X8_needAllRuns xl_X8_214 ⟨⟨Nat.le_of_ble_eq_true rfl, Nat.le_of_ble_eq_true rfl⟩, Nat.le_of_ble_eq_true rfl, Nat.le_of_ble_eq_true rfl⟩ xK_X8 (q := 0) rfl rfl rfl (Nat.le_of_ble_eq_true rfl) dX8_recursByTaking_9 (fun E9 S9 h9 hw9 ha9 => xt_out C hA hZ hlocks ht ha9 rfl (Nat.le_of_ble_eq_true rfl) (Nat.le_of_ble_eq_true rfl) hw9 h9) (fun r9 S9 h9 hw5 ha6 => ?_)
  obtain ⟨rfl, h⟩ := h9
  refine xi_aload_n C 0 dX8_recursByTaking_12 rfl rfl ?_
  refine xi_getR C xK_X8 (q := 0) (r := 3) rfl 2 (by decide) (ki := 2) rfl xl_X8_36 rfl dX8_recursByTaking_13 ?_
  refine xi_iload_n C 1 dX8_recursByTaking_16 rfl rfl ?_
  refine xi_iload_n C 2 dX8_recursByTaking_17 rfl rfl ?_
  refine xc_Vi C hw5 (c_X5_isAllTaken l D ca ad tF a1 a2 S9 _ h_a1 h_a2 h) xk_X5_isAllTaken xv_X5_isAllTaken xl_X8_221 ⟨Nat.le_of_ble_eq_true rfl, Nat.le_of_ble_eq_true rfl⟩ xK_X5 (q := 3) rfl rfl rfl (Nat.le_of_ble_eq_true rfl) ⟨xrm (Nat.le_of_ble_eq_true rfl), xrm (Nat.le_of_ble_eq_true rfl)⟩ dX8_recursByTaking_18 (fun r18 S18 h_r18 h hw7 => ?_)
  obtain ⟨hc8, h⟩ := h
  obtain ⟨hc9, h⟩ := h
  exact xr_iY C hA hZ ha6 hc8 hr hlocks (xnarZ hc9).1 dX8_recursByTaking_21 (Nat.le_of_ble_eq_true rfl) (Nat.le_of_ble_eq_true rfl) hw7 ⟨_, rfl, h_r18, h⟩
set_option maxRecDepth 100000 in
set_option maxHeartbeats 4000000 in
theorem c_X8_comes (l : Launch) (D : va_G) (ca : Nat → ClassId) (ad : Nat → Nat) (tF : Nat) (a1 : Int) (a2 : Int) (a3 : Int) (S : xS) (Q : Int → xS → Prop) (X : String → xS → Prop) (h_a1 : xR a1) (h_a2 : xR a2) (h_a3 : xR a3) (h : w_X8_comes a1 a2 a3 S Q X) (hl9 : l.stackTraces = false) : xMY l yX8_comes (xws yX8_comes cX8_comes 4 (some .boolean)) ({ frames := 7, cells := xgc S + 3, slots := xgs S + 18, locals := 153 }) (gC D ca ad tF) [.ref (ad 0), .int (iN a1), .int (iN a2), .int (iN a3)] S (xQi Q) X 3 18 := by
  refine xmY_of RX8 rfl (by decide +kernel) (Nat.le_of_ble_eq_true rfl) ?_
  intro p e s m args below meth c A Z R hR9 C hA hZ hr hlocks ht hw
  subst hR9
  unfold w_X8_comes at h
  show xV (gC D ca ad tF) p l e ({ frames := 7, cells := xgc S + 3, slots := xgs S + 18, locals := 153 }) s m args below meth c A 4 Z (0 + (xgc S - xgc S)) (0 + (xgs S - xgs S)) 0 [(0, .ref (ad 0)), (1, .int (iN a1)), (2, .int (iN a2)), (3, .int (iN a3))] [] S
  refine xi_iload_n C 1 dX8_comes_0 rfl rfl ?_
  refine xc_SY C hw (xAl.refl S) rfl rfl (c_X8_needVariable l D ca ad tF a1 S _ _ h_a1 h hl9) xk_X8_needVariable xs_X8_needVariable xl_X8_95 ⟨⟨Nat.le_of_ble_eq_true rfl, Nat.le_of_ble_eq_true rfl⟩, Nat.le_of_ble_eq_true rfl, Nat.le_of_ble_eq_true rfl⟩ rfl rfl (Nat.le_of_ble_eq_true rfl) dX8_comes_1 (fun E9 S9 h9 hw9 ha9 => xt_out C hA hZ hlocks ht ha9 rfl (Nat.le_of_ble_eq_true rfl) (Nat.le_of_ble_eq_true rfl) hw9 h9) (fun r9 S1 h9 hw1 ha2 => ?_)
  obtain ⟨rfl, h⟩ := h9
  refine xi_iload_n C 2 dX8_comes_4 rfl rfl ?_
  refine xc_SY C hw1 ha2 rfl rfl (c_X8_needNumber l D ca ad tF a2 S1 _ _ h_a2 h hl9) xk_X8_needNumber xs_X8_needNumber xl_X8_98 ⟨⟨Nat.le_of_ble_eq_true rfl, Nat.le_of_ble_eq_true rfl⟩, Nat.le_of_ble_eq_true rfl, Nat.le_of_ble_eq_true rfl⟩ rfl rfl (Nat.le_of_ble_eq_true rfl) dX8_comes_5 (fun E9 S9 h9 hw9 ha9 => xt_out C hA hZ hlocks ht ha9 rfl (Nat.le_of_ble_eq_true rfl) (Nat.le_of_ble_eq_true rfl) hw9 h9) (fun r9 S5 h9 hw3 ha4 => ?_)
  obtain ⟨rfl, h⟩ := h9
  refine xi_aload_n C 0 dX8_comes_8 rfl rfl ?_
  refine xc_VY C hw3 ha4 rfl rfl (c_X8_needAllRuns l D ca ad tF S5 _ _ h hl9) xk_X8_needAllRuns xv_X8_needAllRuns xl_X8_214 ⟨⟨Nat.le_of_ble_eq_true rfl, Nat.le_of_ble_eq_true rfl⟩, Nat.le_of_ble_eq_true rfl, Nat.le_of_ble_eq_true rfl⟩ xK_X8 (q := 0) rfl rfl rfl (Nat.le_of_ble_eq_true rfl) dX8_comes_9 (fun E9 S9 h9 hw9 ha9 => xt_out C hA hZ hlocks ht ha9 rfl (Nat.le_of_ble_eq_true rfl) (Nat.le_of_ble_eq_true rfl) hw9 h9) (fun r9 S9 h9 hw5 ha6 => ?_)
  obtain ⟨rfl, h⟩ := h9
  refine xi_aload_n C 0 dX8_comes_12 rfl rfl ?_
  refine xi_getR C xK_X8 (q := 0) (r := 3) rfl 2 (by decide) (ki := 2) rfl xl_X8_36 rfl dX8_comes_13 ?_
  refine xi_iload_n C 1 dX8_comes_16 rfl rfl ?_
  refine xi_iload_n C 2 dX8_comes_17 rfl rfl ?_
  refine xi_iload_n C 3 dX8_comes_18 rfl rfl ?_
  refine xc_Vi C hw5 (c_X5_canMiss l D ca ad tF a1 a2 a3 S9 _ h_a1 h_a2 h_a3 h) xk_X5_canMiss xv_X5_canMiss xl_X8_224 ⟨Nat.le_of_ble_eq_true rfl, Nat.le_of_ble_eq_true rfl⟩ xK_X5 (q := 3) rfl rfl rfl (Nat.le_of_ble_eq_true rfl) ⟨xrm (Nat.le_of_ble_eq_true rfl), xrm (Nat.le_of_ble_eq_true rfl)⟩ dX8_comes_19 (fun r19 S19 h_r19 h hw7 => ?_)
  refine xi_if_ne C 29 h_r19 dX8_comes_22 (by decide) (fun z8 => ?_) (fun z8 => ?_)
  · replace h := h.1 z8
    refine xi_iconst C (v := 0) dX8_comes_29 rfl ?_
    obtain ⟨hc9, h⟩ := h
    exact xr_iY C hA hZ ha6 hc9 hr hlocks (xnarZ (Or.inl rfl)).1 dX8_comes_30 (Nat.le_of_ble_eq_true rfl) (Nat.le_of_ble_eq_true rfl) hw7 ⟨_, rfl, (by decide), h⟩
  · replace h := h.2 z8
    refine xi_iconst C (v := 1) dX8_comes_25 rfl ?_
    refine xi_goto C 30 dX8_comes_26 (by decide) ?_
    obtain ⟨hc10, h⟩ := h
    exact xr_iY C hA hZ ha6 hc10 hr hlocks (xnarZ (Or.inr rfl)).1 dX8_comes_30 (Nat.le_of_ble_eq_true rfl) (Nat.le_of_ble_eq_true rfl) hw7 ⟨_, rfl, (by decide), h⟩
set_option maxRecDepth 100000 in
set_option maxHeartbeats 4000000 in
theorem c_X8_follows (l : Launch) (D : va_G) (ca : Nat → ClassId) (ad : Nat → Nat) (tF : Nat) (a1 : Int) (a2 : Int) (a3 : Int) (a4 : Int) (a5 : Int) (S : xS) (Q : Int → xS → Prop) (X : String → xS → Prop) (h_a1 : xR a1) (h_a2 : xR a2) (h_a3 : xR a3) (h_a4 : xR a4) (h_a5 : xR a5) (h : w_X8_follows a1 a2 a3 a4 a5 S Q X) (hl9 : l.stackTraces = false) : xMY l yX8_follows (xws yX8_follows cX8_follows 6 (some .boolean)) ({ frames := 7, cells := xgc S + 5, slots := xgs S + 30, locals := 156 }) (gC D ca ad tF) [.ref (ad 0), .int (iN a1), .int (iN a2), .int (iN a3), .int (iN a4), .int (iN a5)] S (xQi Q) X 5 30 := by
  refine xmY_of RX8 rfl (by decide +kernel) (Nat.le_of_ble_eq_true rfl) ?_
  intro p e s m args below meth c A Z R hR9 C hA hZ hr hlocks ht hw
  subst hR9
  unfold w_X8_follows at h
  show xV (gC D ca ad tF) p l e ({ frames := 7, cells := xgc S + 5, slots := xgs S + 30, locals := 156 }) s m args below meth c A 6 Z (0 + (xgc S - xgc S)) (0 + (xgs S - xgs S)) 0 [(0, .ref (ad 0)), (1, .int (iN a1)), (2, .int (iN a2)), (3, .int (iN a3)), (4, .int (iN a4)), (5, .int (iN a5))] [] S
  refine xi_iload_n C 1 dX8_follows_0 rfl rfl ?_
  refine xc_SY C hw (xAl.refl S) rfl rfl (c_X8_needVariable l D ca ad tF a1 S _ _ h_a1 h hl9) xk_X8_needVariable xs_X8_needVariable xl_X8_95 ⟨⟨Nat.le_of_ble_eq_true rfl, Nat.le_of_ble_eq_true rfl⟩, Nat.le_of_ble_eq_true rfl, Nat.le_of_ble_eq_true rfl⟩ rfl rfl (Nat.le_of_ble_eq_true rfl) dX8_follows_1 (fun E9 S9 h9 hw9 ha9 => xt_out C hA hZ hlocks ht ha9 rfl (Nat.le_of_ble_eq_true rfl) (Nat.le_of_ble_eq_true rfl) hw9 h9) (fun r9 S1 h9 hw1 ha2 => ?_)
  obtain ⟨rfl, h⟩ := h9
  refine xi_iload_n C 2 dX8_follows_4 rfl rfl ?_
  refine xc_SY C hw1 ha2 rfl rfl (c_X8_needNumber l D ca ad tF a2 S1 _ _ h_a2 h hl9) xk_X8_needNumber xs_X8_needNumber xl_X8_98 ⟨⟨Nat.le_of_ble_eq_true rfl, Nat.le_of_ble_eq_true rfl⟩, Nat.le_of_ble_eq_true rfl, Nat.le_of_ble_eq_true rfl⟩ rfl rfl (Nat.le_of_ble_eq_true rfl) dX8_follows_5 (fun E9 S9 h9 hw9 ha9 => xt_out C hA hZ hlocks ht ha9 rfl (Nat.le_of_ble_eq_true rfl) (Nat.le_of_ble_eq_true rfl) hw9 h9) (fun r9 S5 h9 hw3 ha4 => ?_)
  obtain ⟨rfl, h⟩ := h9
  refine xi_iload_n C 3 dX8_follows_8 rfl rfl ?_
  refine xc_SY C hw3 ha4 rfl rfl (c_X8_needVariable l D ca ad tF a3 S5 _ _ h_a3 h hl9) xk_X8_needVariable xs_X8_needVariable xl_X8_95 ⟨⟨Nat.le_of_ble_eq_true rfl, Nat.le_of_ble_eq_true rfl⟩, Nat.le_of_ble_eq_true rfl, Nat.le_of_ble_eq_true rfl⟩ rfl rfl (Nat.le_of_ble_eq_true rfl) dX8_follows_9 (fun E9 S9 h9 hw9 ha9 => xt_out C hA hZ hlocks ht ha9 rfl (Nat.le_of_ble_eq_true rfl) (Nat.le_of_ble_eq_true rfl) hw9 h9) (fun r9 S9 h9 hw5 ha6 => ?_)
  obtain ⟨rfl, h⟩ := h9
  refine xi_iload C 4 dX8_follows_12 rfl ?_
  refine xc_SY C hw5 ha6 rfl rfl (c_X8_needNumber l D ca ad tF a4 S9 _ _ h_a4 h hl9) xk_X8_needNumber xs_X8_needNumber xl_X8_98 ⟨⟨Nat.le_of_ble_eq_true rfl, Nat.le_of_ble_eq_true rfl⟩, Nat.le_of_ble_eq_true rfl, Nat.le_of_ble_eq_true rfl⟩ rfl rfl (Nat.le_of_ble_eq_true rfl) dX8_follows_14 (fun E9 S9 h9 hw9 ha9 => xt_out C hA hZ hlocks ht ha9 rfl (Nat.le_of_ble_eq_true rfl) (Nat.le_of_ble_eq_true rfl) hw9 h9) (fun r9 S14 h9 hw7 ha8 => ?_)
  obtain ⟨rfl, h⟩ := h9
  refine xi_aload_n C 0 dX8_follows_17 rfl rfl ?_
  refine xc_VY C hw7 ha8 rfl rfl (c_X8_needAllRuns l D ca ad tF S14 _ _ h hl9) xk_X8_needAllRuns xv_X8_needAllRuns xl_X8_214 ⟨⟨Nat.le_of_ble_eq_true rfl, Nat.le_of_ble_eq_true rfl⟩, Nat.le_of_ble_eq_true rfl, Nat.le_of_ble_eq_true rfl⟩ xK_X8 (q := 0) rfl rfl rfl (Nat.le_of_ble_eq_true rfl) dX8_follows_18 (fun E9 S9 h9 hw9 ha9 => xt_out C hA hZ hlocks ht ha9 rfl (Nat.le_of_ble_eq_true rfl) (Nat.le_of_ble_eq_true rfl) hw9 h9) (fun r9 S18 h9 hw9 ha10 => ?_)
  obtain ⟨rfl, h⟩ := h9
  refine xi_aload_n C 0 dX8_follows_21 rfl rfl ?_
  refine xi_getR C xK_X8 (q := 0) (r := 3) rfl 2 (by decide) (ki := 2) rfl xl_X8_36 rfl dX8_follows_22 ?_
  refine xi_iload_n C 1 dX8_follows_25 rfl rfl ?_
  refine xi_iload_n C 2 dX8_follows_26 rfl rfl ?_
  refine xi_iload_n C 3 dX8_follows_27 rfl rfl ?_
  refine xi_iload C 4 dX8_follows_28 rfl ?_
  refine xi_iload C 5 dX8_follows_30 rfl ?_
  refine xc_Vi C hw9 (c_X5_canMissBehind l D ca ad tF a1 a2 a3 a4 a5 S18 _ h_a1 h_a2 h_a3 h_a4 h_a5 h) xk_X5_canMissBehind xv_X5_canMissBehind xl_X8_227 ⟨Nat.le_of_ble_eq_true rfl, Nat.le_of_ble_eq_true rfl⟩ xK_X5 (q := 3) rfl rfl rfl (Nat.le_of_ble_eq_true rfl) ⟨xrm (Nat.le_of_ble_eq_true rfl), xrm (Nat.le_of_ble_eq_true rfl)⟩ dX8_follows_32 (fun r32 S32 h_r32 h hw11 => ?_)
  refine xi_if_ne C 42 h_r32 dX8_follows_35 (by decide) (fun z12 => ?_) (fun z12 => ?_)
  · replace h := h.1 z12
    refine xi_iconst C (v := 0) dX8_follows_42 rfl ?_
    obtain ⟨hc13, h⟩ := h
    exact xr_iY C hA hZ ha10 hc13 hr hlocks (xnarZ (Or.inl rfl)).1 dX8_follows_43 (Nat.le_of_ble_eq_true rfl) (Nat.le_of_ble_eq_true rfl) hw11 ⟨_, rfl, (by decide), h⟩
  · replace h := h.2 z12
    refine xi_iconst C (v := 1) dX8_follows_38 rfl ?_
    refine xi_goto C 43 dX8_follows_39 (by decide) ?_
    obtain ⟨hc14, h⟩ := h
    exact xr_iY C hA hZ ha10 hc14 hr hlocks (xnarZ (Or.inr rfl)).1 dX8_follows_43 (Nat.le_of_ble_eq_true rfl) (Nat.le_of_ble_eq_true rfl) hw11 ⟨_, rfl, (by decide), h⟩
set_option maxRecDepth 100000 in
set_option maxHeartbeats 4000000 in
theorem c_X8_distance (l : Launch) (D : va_G) (ca : Nat → ClassId) (ad : Nat → Nat) (tF : Nat) (a1 : Int) (a2 : Int) (S : xS) (Q : Int → xS → Prop) (X : String → xS → Prop) (h_a1 : xR a1) (h_a2 : xR a2) (h : w_X8_distance a1 a2 S Q X) (hl9 : l.stackTraces = false) : xMY l yX8_distance (xws yX8_distance cX8_distance 4 (some .int)) ({ frames := 7, cells := xgc S + 4, slots := xgs S + 24, locals := 110 }) (gC D ca ad tF) [.ref (ad 0), .int (iN a1), .int (iN a2)] S (xQi Q) X 4 24 := by
  refine xmY_of RX8 rfl (by decide +kernel) (Nat.le_of_ble_eq_true rfl) ?_
  intro p e s m args below meth c A Z R hR9 C hA hZ hr hlocks ht hw
  subst hR9
  unfold w_X8_distance at h
  show xV (gC D ca ad tF) p l e ({ frames := 7, cells := xgc S + 4, slots := xgs S + 24, locals := 110 }) s m args below meth c A 4 Z (0 + (xgc S - xgc S)) (0 + (xgs S - xgs S)) 0 [(0, .ref (ad 0)), (1, .int (iN a1)), (2, .int (iN a2))] [] S
  refine xi_iload_n C 1 dX8_distance_0 rfl rfl ?_
  refine xc_SY C hw (xAl.refl S) rfl rfl (c_X8_needVariable l D ca ad tF a1 S _ _ h_a1 h hl9) xk_X8_needVariable xs_X8_needVariable xl_X8_95 ⟨⟨Nat.le_of_ble_eq_true rfl, Nat.le_of_ble_eq_true rfl⟩, Nat.le_of_ble_eq_true rfl, Nat.le_of_ble_eq_true rfl⟩ rfl rfl (Nat.le_of_ble_eq_true rfl) dX8_distance_1 (fun E9 S9 h9 hw9 ha9 => xt_out C hA hZ hlocks ht ha9 rfl (Nat.le_of_ble_eq_true rfl) (Nat.le_of_ble_eq_true rfl) hw9 h9) (fun r9 S1 h9 hw1 ha2 => ?_)
  obtain ⟨rfl, h⟩ := h9
  refine xi_iload_n C 2 dX8_distance_4 rfl rfl ?_
  refine xc_SY C hw1 ha2 rfl rfl (c_X8_needNumber l D ca ad tF a2 S1 _ _ h_a2 h hl9) xk_X8_needNumber xs_X8_needNumber xl_X8_98 ⟨⟨Nat.le_of_ble_eq_true rfl, Nat.le_of_ble_eq_true rfl⟩, Nat.le_of_ble_eq_true rfl, Nat.le_of_ble_eq_true rfl⟩ rfl rfl (Nat.le_of_ble_eq_true rfl) dX8_distance_5 (fun E9 S9 h9 hw9 ha9 => xt_out C hA hZ hlocks ht ha9 rfl (Nat.le_of_ble_eq_true rfl) (Nat.le_of_ble_eq_true rfl) hw9 h9) (fun r9 S5 h9 hw3 ha4 => ?_)
  obtain ⟨rfl, h⟩ := h9
  refine xi_aload_n C 0 dX8_distance_8 rfl rfl ?_
  refine xc_VY C hw3 ha4 rfl rfl (c_X8_needAllRuns l D ca ad tF S5 _ _ h hl9) xk_X8_needAllRuns xv_X8_needAllRuns xl_X8_214 ⟨⟨Nat.le_of_ble_eq_true rfl, Nat.le_of_ble_eq_true rfl⟩, Nat.le_of_ble_eq_true rfl, Nat.le_of_ble_eq_true rfl⟩ xK_X8 (q := 0) rfl rfl rfl (Nat.le_of_ble_eq_true rfl) dX8_distance_9 (fun E9 S9 h9 hw9 ha9 => xt_out C hA hZ hlocks ht ha9 rfl (Nat.le_of_ble_eq_true rfl) (Nat.le_of_ble_eq_true rfl) hw9 h9) (fun r9 S9 h9 hw5 ha6 => ?_)
  obtain ⟨rfl, h⟩ := h9
  refine xi_aload_n C 0 dX8_distance_12 rfl rfl ?_
  refine xi_getR C xK_X8 (q := 0) (r := 2) rfl 1 (by decide) (ki := 1) rfl xl_X8_27 rfl dX8_distance_13 ?_
  refine xi_getRN C xK_X6 (q := 2) (r := 4) rfl 1 (by decide) (ki := 1) rfl xn_X8_148 rfl dX8_distance_16 ?_
  refine xi_iload_n C 1 dX8_distance_19 rfl rfl ?_
  refine xi_iload_n C 2 dX8_distance_20 rfl rfl ?_
  refine xc_Vi C hw5 (c_X1_firstWith l D ca ad tF a1 a2 S9 _ h_a1 h_a2 h) xk_X1_firstWith xv_X1_firstWith xl_X8_231 ⟨Nat.le_of_ble_eq_true rfl, Nat.le_of_ble_eq_true rfl⟩ xK_X1 (q := 4) rfl rfl rfl (Nat.le_of_ble_eq_true rfl) ⟨xrm (Nat.le_of_ble_eq_true rfl), xrm (Nat.le_of_ble_eq_true rfl)⟩ dX8_distance_21 (fun r21 S21 h_r21 h hw7 => ?_)
  refine xi_istore_n C (L' := [(3, .int (iN r21)), (0, .ref (ad 0)), (1, .int (iN a1)), (2, .int (iN a2))]) dX8_distance_24 rfl (by decide) rfl ?_
  refine xi_iload_n C 0 dX8_distance_25 rfl rfl ?_
  refine xi_iconst C (v := (-1)) dX8_distance_26 rfl ?_
  refine xi_icmp_ne C 40 h_r21 (by decide) dX8_distance_27 (by decide) (fun z8 => ?_) (fun z8 => ?_)
  · replace h := h.1 z8
    refine xi_aload_n C 1 dX8_distance_40 rfl rfl ?_
    refine xi_getR C xK_X8 (q := 0) (r := 2) rfl 1 (by decide) (ki := 1) rfl xl_X8_27 rfl dX8_distance_41 ?_
    refine xi_getRN C xK_X6 (q := 2) (r := 4) rfl 1 (by decide) (ki := 1) rfl xn_X8_148 rfl dX8_distance_44 ?_
    refine xi_getRN C xK_X1 (q := 4) (r := 29) rfl 6 (by decide) (ki := 6) rfl xn_X8_236 rfl dX8_distance_47 ?_
    refine xi_iload_n C 0 dX8_distance_50 rfl rfl ?_
    obtain ⟨hc9, h⟩ := h
    refine xi_iaload C (q := 29) rfl (by decide) hc9 dX8_distance_51 ?_
    obtain ⟨hc10, h⟩ := h
    exact xr_iY C hA hZ ha6 hc10 hr hlocks rfl dX8_distance_52 (Nat.le_of_ble_eq_true rfl) (Nat.le_of_ble_eq_true rfl) hw7 ⟨_, rfl, (xval.i (q := 29) (i := r21) hw7 hc9.1 rfl), h⟩
  · replace h := h.2 z8
    obtain ⟨hc11, h⟩ := h
    exact xi_throwN C hA hZ hl9 hlocks ht rfl xst_X8_234 ha6 hc11 ⟨Nat.le_of_ble_eq_true rfl, Nat.le_of_ble_eq_true rfl⟩ (Nat.le_of_ble_eq_true rfl) (Nat.le_of_ble_eq_true rfl) dX8_distance_30 dX8_distance_33 dX8_distance_34 dX8_distance_36 dX8_distance_39 hw7 h
set_option maxRecDepth 100000 in
set_option maxHeartbeats 4000000 in
theorem c_X8_components (l : Launch) (D : va_G) (ca : Nat → ClassId) (ad : Nat → Nat) (tF : Nat)  (S : xS) (Q : Int → xS → Prop) (X : String → xS → Prop)  (h : w_X8_components  S Q X) (hl9 : l.stackTraces = false) : xMY l yX8_components (xws yX8_components cX8_components 1 (some .int)) ({ frames := 7, cells := xgc S + 1, slots := xgs S + 6, locals := 150 }) (gC D ca ad tF) [.ref (ad 0)] S (xQi Q) X 1 6 := by
  refine xmY_of RX8 rfl (by decide +kernel) (Nat.le_of_ble_eq_true rfl) ?_
  intro p e s m args below meth c A Z R hR9 C hA hZ hr hlocks ht hw
  subst hR9
  unfold w_X8_components at h
  show xV (gC D ca ad tF) p l e ({ frames := 7, cells := xgc S + 1, slots := xgs S + 6, locals := 150 }) s m args below meth c A 1 Z (0 + (xgc S - xgc S)) (0 + (xgs S - xgs S)) 0 [(0, .ref (ad 0))] [] S
  refine xi_aload_n C 0 dX8_components_0 rfl rfl ?_
  refine xc_VY C hw (xAl.refl S) rfl rfl (c_X8_needAllRuns l D ca ad tF S _ _ h hl9) xk_X8_needAllRuns xv_X8_needAllRuns xl_X8_214 ⟨⟨Nat.le_of_ble_eq_true rfl, Nat.le_of_ble_eq_true rfl⟩, Nat.le_of_ble_eq_true rfl, Nat.le_of_ble_eq_true rfl⟩ xK_X8 (q := 0) rfl rfl rfl (Nat.le_of_ble_eq_true rfl) dX8_components_1 (fun E9 S9 h9 hw9 ha9 => xt_out C hA hZ hlocks ht ha9 rfl (Nat.le_of_ble_eq_true rfl) (Nat.le_of_ble_eq_true rfl) hw9 h9) (fun r9 S1 h9 hw1 ha2 => ?_)
  obtain ⟨rfl, h⟩ := h9
  refine xi_aload_n C 0 dX8_components_4 rfl rfl ?_
  refine xi_getR C xK_X8 (q := 0) (r := 3) rfl 2 (by decide) (ki := 2) rfl xl_X8_36 rfl dX8_components_5 ?_
  refine xc_Vi C hw1 (c_X5_countComponents l D ca ad tF S1 _ h) xk_X5_countComponents xv_X5_countComponents xl_X8_239 ⟨Nat.le_of_ble_eq_true rfl, Nat.le_of_ble_eq_true rfl⟩ xK_X5 (q := 3) rfl rfl rfl (Nat.le_of_ble_eq_true rfl) ⟨xrm (Nat.le_of_ble_eq_true rfl), xrm (Nat.le_of_ble_eq_true rfl)⟩ dX8_components_8 (fun r8 S8 h_r8 h hw3 => ?_)
  obtain ⟨hc4, h⟩ := h
  exact xr_iY C hA hZ ha2 hc4 hr hlocks rfl dX8_components_11 (Nat.le_of_ble_eq_true rfl) (Nat.le_of_ble_eq_true rfl) hw3 ⟨_, rfl, h_r8, h⟩
set_option maxRecDepth 100000 in
set_option maxHeartbeats 4000000 in
theorem c_X8_meanMoves (l : Launch) (D : va_G) (ca : Nat → ClassId) (ad : Nat → Nat) (tF : Nat)  (S : xS) (Q : UInt64 → xS → Prop) (X : String → xS → Prop)  (h : w_X8_meanMoves  S Q X) (hl9 : l.stackTraces = false) : xMY l yX8_meanMoves (xws yX8_meanMoves cX8_meanMoves 1 (some .double)) ({ frames := 7, cells := xgc S + 1, slots := xgs S + 6, locals := 159 }) (gC D ca ad tF) [.ref (ad 0)] S (xQd Q) X 1 6 := by
  refine xmY_of RX8 rfl (by decide +kernel) (Nat.le_of_ble_eq_true rfl) ?_
  intro p e s m args below meth c A Z R hR9 C hA hZ hr hlocks ht hw
  subst hR9
  unfold w_X8_meanMoves at h
  show xV (gC D ca ad tF) p l e ({ frames := 7, cells := xgc S + 1, slots := xgs S + 6, locals := 159 }) s m args below meth c A 1 Z (0 + (xgc S - xgc S)) (0 + (xgs S - xgs S)) 0 [(0, .ref (ad 0))] [] S
  refine xi_aload_n C 0 dX8_meanMoves_0 rfl rfl ?_
  refine xc_VY C hw (xAl.refl S) rfl rfl (c_X8_needSearch l D ca ad tF S _ _ h hl9) xk_X8_needSearch xv_X8_needSearch xl_X8_140 ⟨⟨Nat.le_of_ble_eq_true rfl, Nat.le_of_ble_eq_true rfl⟩, Nat.le_of_ble_eq_true rfl, Nat.le_of_ble_eq_true rfl⟩ xK_X8 (q := 0) rfl rfl rfl (Nat.le_of_ble_eq_true rfl) dX8_meanMoves_1 (fun E9 S9 h9 hw9 ha9 => xt_out C hA hZ hlocks ht ha9 rfl (Nat.le_of_ble_eq_true rfl) (Nat.le_of_ble_eq_true rfl) hw9 h9) (fun r9 S1 h9 hw1 ha2 => ?_)
  obtain ⟨rfl, h⟩ := h9
  refine xi_aload_n C 0 dX8_meanMoves_4 rfl rfl ?_
  refine xi_getR C xK_X8 (q := 0) (r := 2) rfl 1 (by decide) (ki := 1) rfl xl_X8_27 rfl dX8_meanMoves_5 ?_
  refine xc_Vj C hw1 (c_X6_countAllMoves l D ca ad tF S1 _ h) xk_X6_countAllMoves xv_X6_countAllMoves xl_X8_242 ⟨Nat.le_of_ble_eq_true rfl, Nat.le_of_ble_eq_true rfl⟩ xK_X6 (q := 2) rfl rfl rfl (Nat.le_of_ble_eq_true rfl) ⟨xrm (Nat.le_of_ble_eq_true rfl), xrm (Nat.le_of_ble_eq_true rfl)⟩ dX8_meanMoves_8 (fun r8 S8 h_r8 h hw3 => ?_)
  refine xi_l2d C dX8_meanMoves_11 ?_
  refine xi_aload_n C 0 dX8_meanMoves_12 rfl rfl ?_
  refine xi_getR C xK_X8 (q := 0) (r := 2) rfl 1 (by decide) (ki := 1) rfl xl_X8_27 rfl dX8_meanMoves_13 ?_
  refine xi_getRN C xK_X6 (q := 2) (r := 4) rfl 1 (by decide) (ki := 1) rfl xn_X8_148 rfl dX8_meanMoves_16 ?_
  refine xi_getIN C xK_X1 (q := 4) (r := 0) rfl 0 (by decide) (ki := 0) rfl xn_X8_152 rfl dX8_meanMoves_19 ?_
  refine xi_i2d C dX8_meanMoves_22 ?_
  obtain ⟨hc4, h⟩ := h
  refine xi_ddiv C dX8_meanMoves_23 hc4 ?_
  obtain ⟨hc5, h⟩ := h
  exact xr_dY C hA hZ ha2 hc5 hr hlocks dX8_meanMoves_24 (Nat.le_of_ble_eq_true rfl) (Nat.le_of_ble_eq_true rfl) hw3 ⟨_, rfl, h⟩
set_option maxRecDepth 100000 in
set_option maxHeartbeats 4000000 in
theorem c_X8_newShare (l : Launch) (D : va_G) (ca : Nat → ClassId) (ad : Nat → Nat) (tF : Nat)  (S : xS) (Q : UInt32 → xS → Prop) (X : String → xS → Prop)  (h : w_X8_newShare  S Q X) (hl9 : l.stackTraces = false) : xMY l yX8_newShare (xws yX8_newShare cX8_newShare 1 (some .float)) ({ frames := 7, cells := xgc S + 2, slots := xgs S + 12, locals := 110 }) (gC D ca ad tF) [.ref (ad 0)] S (xQf Q) X 2 12 := by
  refine xmY_of RX8 rfl (by decide +kernel) (Nat.le_of_ble_eq_true rfl) ?_
  intro p e s m args below meth c A Z R hR9 C hA hZ hr hlocks ht hw
  subst hR9
  unfold w_X8_newShare at h
  show xV (gC D ca ad tF) p l e ({ frames := 7, cells := xgc S + 2, slots := xgs S + 12, locals := 110 }) s m args below meth c A 1 Z (0 + (xgc S - xgc S)) (0 + (xgs S - xgs S)) 0 [(0, .ref (ad 0))] [] S
  refine xi_aload_n C 0 dX8_newShare_0 rfl rfl ?_
  refine xc_VY C hw (xAl.refl S) rfl rfl (c_X8_needSearch l D ca ad tF S _ _ h hl9) xk_X8_needSearch xv_X8_needSearch xl_X8_140 ⟨⟨Nat.le_of_ble_eq_true rfl, Nat.le_of_ble_eq_true rfl⟩, Nat.le_of_ble_eq_true rfl, Nat.le_of_ble_eq_true rfl⟩ xK_X8 (q := 0) rfl rfl rfl (Nat.le_of_ble_eq_true rfl) dX8_newShare_1 (fun E9 S9 h9 hw9 ha9 => xt_out C hA hZ hlocks ht ha9 rfl (Nat.le_of_ble_eq_true rfl) (Nat.le_of_ble_eq_true rfl) hw9 h9) (fun r9 S1 h9 hw1 ha2 => ?_)
  obtain ⟨rfl, h⟩ := h9
  refine xi_aload_n C 0 dX8_newShare_4 rfl rfl ?_
  refine xi_getR C xK_X8 (q := 0) (r := 2) rfl 1 (by decide) (ki := 1) rfl xl_X8_27 rfl dX8_newShare_5 ?_
  refine xi_getJN C xK_X6 (q := 2) (r := 0) rfl 12 (by decide) (ki := 12) rfl xn_X8_180 rfl dX8_newShare_8 ?_
  refine xi_lconst C (v := 0) dX8_newShare_11 (by decide +kernel) ?_
  refine xi_lcmp_ne C 26 (xval.j (q := 2) (i := 12) hw1 (by decide) rfl) (by decide) dX8_newShare_12 dX8_newShare_13 (by decide) (fun z3 => ?_) (fun z3 => ?_)
  · replace h := h.1 z3
    refine xi_aload_n C 0 dX8_newShare_26 rfl rfl ?_
    refine xi_getR C xK_X8 (q := 0) (r := 2) rfl 1 (by decide) (ki := 1) rfl xl_X8_27 rfl dX8_newShare_27 ?_
    refine xi_getRN C xK_X6 (q := 2) (r := 4) rfl 1 (by decide) (ki := 1) rfl xn_X8_148 rfl dX8_newShare_30 ?_
    refine xi_getIN C xK_X1 (q := 4) (r := 0) rfl 0 (by decide) (ki := 0) rfl xn_X8_152 rfl dX8_newShare_33 ?_
    refine xi_iconst C (v := 1) dX8_newShare_36 rfl ?_
    refine xi_isub C dX8_newShare_37 ?_
    refine xi_i2f C dX8_newShare_38 ?_
    refine xi_aload_n C 0 dX8_newShare_39 rfl rfl ?_
    refine xi_getR C xK_X8 (q := 0) (r := 2) rfl 1 (by decide) (ki := 1) rfl xl_X8_27 rfl dX8_newShare_40 ?_
    refine xi_getJN C xK_X6 (q := 2) (r := 0) rfl 12 (by decide) (ki := 12) rfl xn_X8_180 rfl dX8_newShare_43 ?_
    refine xi_l2f C dX8_newShare_46 ?_
    obtain ⟨hc4, h⟩ := h
    refine xi_fdiv C dX8_newShare_47 hc4 ?_
    exact xr_fY C hA hZ ha2 rfl hr hlocks dX8_newShare_48 (Nat.le_of_ble_eq_true rfl) (Nat.le_of_ble_eq_true rfl) hw1 ⟨_, rfl, h⟩
  · replace h := h.2 z3
    exact xi_throw C hA hZ hl9 hlocks ht rfl xx_X8_246 xst_X8_248 ha2 rfl ⟨Nat.le_of_ble_eq_true rfl, Nat.le_of_ble_eq_true rfl⟩ (Nat.le_of_ble_eq_true rfl) (Nat.le_of_ble_eq_true rfl) dX8_newShare_16 dX8_newShare_19 dX8_newShare_20 dX8_newShare_22 dX8_newShare_25 hw1 h
set_option maxRecDepth 100000 in
set_option maxHeartbeats 4000000 in
theorem c_X9_meanMoves (l : Launch) (D : va_G) (ca : Nat → ClassId) (ad : Nat → Nat) (tF : Nat)  (S : xS) (Q : UInt64 → xS → Prop)  (h : w_X9_meanMoves  S Q) : xM l yX9_meanMoves (xws yX9_meanMoves cX9_meanMoves 3 (some .double)) ({ frames := 4, cells := 0, slots := 0, locals := 93 }) (gC D ca ad tF) [.ref (ad 54)] S (xQd Q) 0 0 := by
  refine xm_of RX9 rfl (by decide +kernel) (Nat.le_of_ble_eq_true rfl) ?_
  intro p e s m args below meth c A Z C hA hZ hr hlocks hw
  unfold w_X9_meanMoves at h
  show xV (gC D ca ad tF) p l e ({ frames := 4, cells := 0, slots := 0, locals := 93 }) s m args below meth c A 3 Z 0 0 0 [(0, .ref (ad 54))] [] S
  refine xi_aload_n C 0 dX9_meanMoves_0 rfl rfl ?_
  refine xc_Vi C hw (c_X9_isThere l D ca ad tF S _ h) xk_X9_isThere xv_X9_isThere xl_X9_323 ⟨Nat.le_of_ble_eq_true rfl, Nat.le_of_ble_eq_true rfl⟩ xK_X9 (q := 54) rfl rfl rfl (Nat.le_of_ble_eq_true rfl) ⟨Nat.le_of_ble_eq_true rfl, Nat.le_of_ble_eq_true rfl⟩ dX9_meanMoves_1 (fun r1 S1 h_r1 h hw1 => ?_)
  refine xi_if_ne C 9 h_r1 dX9_meanMoves_4 (by decide) (fun z2 => ?_) (fun z2 => ?_)
  · replace h := h.1 z2
    refine xi_iconst C (v := 0) dX9_meanMoves_9 rfl ?_
    refine xi_istore_n C (L' := [(1, .int (iN 0)), (0, .ref (ad 54))]) dX9_meanMoves_10 rfl (by decide) rfl ?_
    refine xi_iconst C (v := 0) dX9_meanMoves_11 rfl ?_
    refine xi_istore_n C (L' := [(2, .int (iN 0)), (1, .int (iN 0)), (0, .ref (ad 54))]) dX9_meanMoves_12 rfl (by decide) rfl ?_
    refine xi_sub [2, 1, 0] rfl (xW2 (fun v1_13 v2_13 S13 => xR v1_13 → xR v2_13 → xval (gC D ca ad tF) S13 → xV (gC D ca ad tF) p l e ({ frames := 4, cells := 0, slots := 0, locals := 93 }) s m args below meth c A 3 Z 0 0 13 [(0, .ref (ad 54)), (1, .int (iN v1_13)), (2, .int (iN v2_13))] [] S13) h (fun k13 hk13 v1_13 v2_13 S13 h h_v1_13 h_v2_13 hw13 => ?_) (by decide) (by decide) hw1)
    unfold w_X9_meanMoves_L13 at h
    refine xi_iload_n C 2 dX9_meanMoves_13 rfl rfl ?_
    refine xi_aload_n C 0 dX9_meanMoves_14 rfl rfl ?_
    refine xi_getI C xK_X9 (q := 54) (r := 0) rfl 5 (by decide) (ki := 5) rfl xl_X9_224 rfl dX9_meanMoves_15 ?_
    refine xi_icmp_ge C 35 h_v2_13 (xval.i (q := 54) (i := 5) hw13 (by decide) rfl) dX9_meanMoves_18 (by decide) (fun z3 => ?_) (fun z3 => ?_)
    · replace h := h.1 z3
      refine xi_iload_n C 1 dX9_meanMoves_35 rfl rfl ?_
      refine xi_i2d C dX9_meanMoves_36 ?_
      refine xi_aload_n C 0 dX9_meanMoves_37 rfl rfl ?_
      refine xi_getI C xK_X9 (q := 54) (r := 0) rfl 5 (by decide) (ki := 5) rfl xl_X9_224 rfl dX9_meanMoves_38 ?_
      refine xi_i2d C dX9_meanMoves_41 ?_
      obtain ⟨hc4, h⟩ := h
      refine xi_ddiv C dX9_meanMoves_42 hc4 ?_
      exact xr_d C hA hZ hr hlocks dX9_meanMoves_43 (Nat.le_of_ble_eq_true rfl) (Nat.le_of_ble_eq_true rfl) hw13 ⟨_, rfl, h⟩
    · replace h := h.2 z3
      refine xi_iload_n C 1 dX9_meanMoves_21 rfl rfl ?_
      refine xi_aload_n C 0 dX9_meanMoves_22 rfl rfl ?_
      refine xi_iload_n C 2 dX9_meanMoves_23 rfl rfl ?_
      refine xc_Vi C hw13 (c_X9_movesOf l D ca ad tF v2_13 S13 _ h_v2_13 h) xk_X9_movesOf xv_X9_movesOf xl_X9_332 ⟨Nat.le_of_ble_eq_true rfl, Nat.le_of_ble_eq_true rfl⟩ xK_X9 (q := 54) rfl rfl rfl (Nat.le_of_ble_eq_true rfl) ⟨Nat.le_of_ble_eq_true rfl, Nat.le_of_ble_eq_true rfl⟩ dX9_meanMoves_24 (fun r24 S24 h_r24 h hw5 => ?_)
      refine xi_iadd C dX9_meanMoves_27 ?_
      refine xi_istore_n C (L' := [(1, .int (iN (v1_13 + r24))), (0, .ref (ad 54)), (2, .int (iN v2_13))]) dX9_meanMoves_28 rfl (by decide) rfl ?_
      refine xi_iinc C (L' := [(2, .int (iN (v2_13 + 1))), (1, .int (iN (v1_13 + r24))), (0, .ref (ad 54))]) 2 dX9_meanMoves_29 rfl (by decide) rfl ?_
      refine xi_goto C 13 dX9_meanMoves_32 (by decide) ?_
      obtain ⟨hc6, h⟩ := h
      obtain ⟨hc7, h⟩ := h
      exact xi_sub [2, 1, 0] rfl (hk13 (v1_13 + r24) (v2_13 + 1) S24 h hc6 hc7 hw5)
  · replace h := h.2 z2
    refine xi_dconst0 C dX9_meanMoves_7 ?_
    exact xr_d C hA hZ hr hlocks dX9_meanMoves_8 (Nat.le_of_ble_eq_true rfl) (Nat.le_of_ble_eq_true rfl) hw1 ⟨_, rfl, h⟩
set_option maxRecDepth 100000 in
set_option maxHeartbeats 4000000 in
theorem c_X9_newShare (l : Launch) (D : va_G) (ca : Nat → ClassId) (ad : Nat → Nat) (tF : Nat)  (S : xS) (Q : UInt32 → xS → Prop)  (h : w_X9_newShare  S Q) : xM l yX9_newShare (xws yX9_newShare cX9_newShare 1 (some .float)) ({ frames := 1, cells := 0, slots := 0, locals := 20 }) (gC D ca ad tF) [.ref (ad 54)] S (xQf Q) 0 0 := by
  refine xm_of RX9 rfl (by decide +kernel) (Nat.le_of_ble_eq_true rfl) ?_
  intro p e s m args below meth c A Z C hA hZ hr hlocks hw
  unfold w_X9_newShare at h
  show xV (gC D ca ad tF) p l e ({ frames := 1, cells := 0, slots := 0, locals := 20 }) s m args below meth c A 1 Z 0 0 0 [(0, .ref (ad 54))] [] S
  refine xi_aload_n C 0 dX9_newShare_0 rfl rfl ?_
  refine xc_Vi C hw (c_X9_isThere l D ca ad tF S _ h) xk_X9_isThere xv_X9_isThere xl_X9_323 ⟨Nat.le_of_ble_eq_true rfl, Nat.le_of_ble_eq_true rfl⟩ xK_X9 (q := 54) rfl rfl rfl (Nat.le_of_ble_eq_true rfl) ⟨Nat.le_of_ble_eq_true rfl, Nat.le_of_ble_eq_true rfl⟩ dX9_newShare_1 (fun r1 S1 h_r1 h hw1 => ?_)
  refine xi_if_ne C 9 h_r1 dX9_newShare_4 (by decide) (fun z2 => ?_) (fun z2 => ?_)
  · replace h := h.1 z2
    refine xi_aload_n C 0 dX9_newShare_9 rfl rfl ?_
    refine xi_aload_n C 0 dX9_newShare_10 rfl rfl ?_
    refine xi_getJ C xK_X9 (q := 54) (r := 0) rfl 12 (by decide) (ki := 12) rfl xl_X9_276 rfl dX9_newShare_11 ?_
    refine xi_lconst C (v := 0) dX9_newShare_14 (by decide +kernel) ?_
    refine xJ1_w (fun t0_24 S24 => xR t0_24 → xval (gC D ca ad tF) S24 → xV (gC D ca ad tF) p l e ({ frames := 1, cells := 0, slots := 0, locals := 20 }) s m args below meth c A 1 Z 0 0 24 [(0, .ref (ad 54))] [.int (iN t0_24), .ref (ad 54)] S24) h (fun t0_24 S24 h h_t0_24 hw24 => ?_) (fun j24 hj24 h => ?_)
    · unfold w_X9_newShare_J24 at h
      refine xi_putI C xK_X9 (q := 54) (r := 0) rfl 0 (by decide) (ki := 0) rfl xl_X9_142 rfl rfl rfl dX9_newShare_24 ?_
      have hw4 := xval.up (q := 54) (i := 0) (v := t0_24) hw24 rfl h_t0_24
      refine xi_aload_n C 0 dX9_newShare_27 rfl rfl ?_
      refine xi_getJ C xK_X9 (q := 54) (r := 0) rfl 12 (by decide) (ki := 12) rfl xl_X9_276 rfl dX9_newShare_28 ?_
      refine xi_lconst C (v := 0) dX9_newShare_31 (by decide +kernel) ?_
      refine xi_lcmp_ne C 40 (xval.j (q := 54) (i := 12) hw4 (by decide) rfl) (by decide) dX9_newShare_32 dX9_newShare_33 (by decide) (fun z5 => ?_) (fun z5 => ?_)
      · replace h := h.1 z5
        refine xi_aload_n C 0 dX9_newShare_40 rfl rfl ?_
        refine xi_getI C xK_X9 (q := 54) (r := 0) rfl 5 (by decide) (ki := 5) rfl xl_X9_224 rfl dX9_newShare_41 ?_
        refine xi_iconst C (v := 1) dX9_newShare_44 rfl ?_
        refine xi_isub C dX9_newShare_45 ?_
        refine xi_i2f C dX9_newShare_46 ?_
        refine xi_aload_n C 0 dX9_newShare_47 rfl rfl ?_
        refine xi_getJ C xK_X9 (q := 54) (r := 0) rfl 12 (by decide) (ki := 12) rfl xl_X9_276 rfl dX9_newShare_48 ?_
        refine xi_l2f C dX9_newShare_51 ?_
        obtain ⟨hc6, h⟩ := h
        refine xi_fdiv C dX9_newShare_52 hc6 ?_
        exact xr_f C hA hZ hr hlocks dX9_newShare_53 (Nat.le_of_ble_eq_true rfl) (Nat.le_of_ble_eq_true rfl) hw4 ⟨_, rfl, h⟩
      · replace h := h.2 z5
        refine xi_fconst0 C dX9_newShare_36 ?_
        refine xi_goto C 53 dX9_newShare_37 (by decide) ?_
        exact xr_f C hA hZ hr hlocks dX9_newShare_53 (Nat.le_of_ble_eq_true rfl) (Nat.le_of_ble_eq_true rfl) hw4 ⟨_, rfl, h⟩
    · refine xi_lcmp_ne C 23 (xval.j (q := 54) (i := 12) hw1 (by decide) rfl) (by decide) dX9_newShare_15 dX9_newShare_16 (by decide) (fun z3 => ?_) (fun z3 => ?_)
      · replace h := h.1 z3
        refine xi_iconst C (v := 0) dX9_newShare_23 rfl ?_
        exact xi_sub [0] rfl (hj24 0 S1 h (by decide) hw1)
      · replace h := h.2 z3
        refine xi_iconst C (v := 2) dX9_newShare_19 rfl ?_
        refine xi_goto C 24 dX9_newShare_20 (by decide) ?_
        exact xi_sub [0] rfl (hj24 2 S1 h (by decide) hw1)
  · replace h := h.2 z2
    refine xi_fconst0 C dX9_newShare_7 ?_
    exact xr_f C hA hZ hr hlocks dX9_newShare_8 (Nat.le_of_ble_eq_true rfl) (Nat.le_of_ble_eq_true rfl) hw1 ⟨_, rfl, h⟩
set_option maxRecDepth 100000 in
set_option maxHeartbeats 4000000 in
theorem c_L_addProcess (l : Launch) (D : va_G) (ca : Nat → ClassId) (ad : Nat → Nat) (tF : Nat)  (S : xS) (Q : Int → xS → Prop)  (h : w_L_addProcess  S Q) (hl9 : l.stackTraces = false) : xMY l yL_addProcess (xwsH yL_addProcess cL_addProcess 3 (some .int) [(0, 8, 11, 13)]) ({ frames := 7, cells := xgc S + 1, slots := xgs S + 6, locals := 110 }) (gC D ca ad tF) [.ref (ad 0), .ref (ad 98)] S (xQi Q) (fun _ _ => False) 1 6 := by
  refine xmH_of RL rfl (by decide +kernel) (Nat.le_of_ble_eq_true rfl) ?_
  intro p e s m args below meth c A Z R hR9 C hA hZ hr hlocks ht hw
  subst hR9
  unfold w_L_addProcess at h
  show xV (gC D ca ad tF) p l e ({ frames := 7, cells := xgc S + 1, slots := xgs S + 6, locals := 110 }) s m args below meth c A 3 Z (0 + (xgc S - xgc S)) (0 + (xgs S - xgs S)) 0 [(0, .ref (ad 0)), (1, .ref (ad 98))] [] S
  refine xi_aload_n C 1 dL_addProcess_0 rfl rfl ?_
  refine xi_iconst C (v := 0) dL_addProcess_1 rfl ?_
  refine xi_aload_n C 0 dL_addProcess_2 rfl rfl ?_
  refine xc_VY C hw (xAl.refl S) rfl rfl (c_X8_addProcess l D ca ad tF S _ _ h hl9) xk_X8_addProcess xv_X8_addProcess xl_L_7 ⟨⟨Nat.le_of_ble_eq_true rfl, Nat.le_of_ble_eq_true rfl⟩, Nat.le_of_ble_eq_true rfl, Nat.le_of_ble_eq_true rfl⟩ xK_X8 (q := 0) rfl rfl rfl (Nat.le_of_ble_eq_true rfl) dL_addProcess_3 (fun E9 S9 h9 hw9 ha9 => ?_) (fun r9 S3 h9 hw1 ha2 => ?_)
  · obtain ⟨rfl, h⟩ := h9
    refine xt_catch (name := "java/lang/IllegalStateException") C [] ⟨0, 8, 11, 13⟩ [] ht (fun z hz => nomatch hz) rfl (by decide) xcl_L_13 xca_IllegalStateException (fun q9 => ?_)
    show xV (gC D ca ad tF) p l e ({ frames := 7, cells := xgc S + 1, slots := xgs S + 6, locals := 110 }) s m args below meth c A 3 Z (1 + (xgc S - xgc S9)) (6 + (xgs S - xgs S9)) 11 [(0, .ref (ad 0)), (1, .ref (ad 98))] [.ref q9] S9
    refine xi_astore_n C (L' := [(2, .ref q9), (0, .ref (ad 0)), (1, .ref (ad 98))]) dL_addProcess_11 rfl (by decide) rfl ?_
    refine xi_iconst C (v := 1) dL_addProcess_12 rfl ?_
    exact xr_iY C hA hZ ha9 rfl hr hlocks rfl dL_addProcess_13 (Nat.le_of_ble_eq_true rfl) (Nat.le_of_ble_eq_true rfl) hw9 ⟨_, rfl, (by decide), h⟩
  obtain ⟨r3, rfl, h_r3, h⟩ := h9
  refine xi_i2l C h_r3 dL_addProcess_6 ?_
  refine xi_lastore C (q := 98) rfl (by decide) (by decide) dL_addProcess_7 ?_
  have hw3 := xval.upJ (q := 98) (i := 0) (v := r3) hw1 rfl (xR_J h_r3)
  refine xi_goto C 14 dL_addProcess_8 (by decide) ?_
  refine xi_iconst C (v := 0) dL_addProcess_14 rfl ?_
  exact xr_iY C hA hZ ha2 ((congrFun (xup_cell (q' := 33) (by decide)) (-1)).trans rfl) hr hlocks rfl dL_addProcess_15 (Nat.le_of_ble_eq_true rfl) (Nat.le_of_ble_eq_true rfl) hw3 ⟨_, rfl, (by decide), h⟩
set_option maxRecDepth 100000 in
set_option maxHeartbeats 4000000 in
theorem c_L_addStep (l : Launch) (D : va_G) (ca : Nat → ClassId) (ad : Nat → Nat) (tF : Nat) (a1 : Int) (a2 : Int) (a3 : Int) (a4 : Int) (a5 : Int) (a6 : Int) (S : xS) (Q : Int → xS → Prop) (h_a1 : xR a1) (h_a2 : xR a2) (h_a3 : xR a3) (h_a4 : xR a4) (h_a5 : xR a5) (h_a6 : xR a6) (h : w_L_addStep a1 a2 a3 a4 a5 a6 S Q) (hl9 : l.stackTraces = false) : xMY l yL_addStep (xwsH yL_addStep cL_addStep 9 (some .int) [(0, 18, 21, 19), (0, 18, 25, 21), (0, 18, 29, 13)]) ({ frames := 8, cells := xgc S + 4, slots := xgs S + 24, locals := 137 }) (gC D ca ad tF) [.ref (ad 0), .int (iN a1), .int (iN a2), .int (iN a3), .int (iN a4), .int (iN a5), .int (iN a6), .ref (ad 98)] S (xQi Q) (fun _ _ => False) 4 24 := by
  refine xmH_of RL rfl (by decide +kernel) (Nat.le_of_ble_eq_true rfl) ?_
  intro p e s m args below meth c A Z R hR9 C hA hZ hr hlocks ht hw
  subst hR9
  unfold w_L_addStep at h
  show xV (gC D ca ad tF) p l e ({ frames := 8, cells := xgc S + 4, slots := xgs S + 24, locals := 137 }) s m args below meth c A 9 Z (0 + (xgc S - xgc S)) (0 + (xgs S - xgs S)) 0 [(0, .ref (ad 0)), (1, .int (iN a1)), (2, .int (iN a2)), (3, .int (iN a3)), (4, .int (iN a4)), (5, .int (iN a5)), (6, .int (iN a6)), (7, .ref (ad 98))] [] S
  refine xi_aload C 7 dL_addStep_0 rfl ?_
  refine xi_iconst C (v := 0) dL_addStep_2 rfl ?_
  refine xi_aload_n C 0 dL_addStep_3 rfl rfl ?_
  refine xi_iload_n C 1 dL_addStep_4 rfl rfl ?_
  refine xi_iload_n C 2 dL_addStep_5 rfl rfl ?_
  refine xi_iload_n C 3 dL_addStep_6 rfl rfl ?_
  refine xi_iload C 4 dL_addStep_7 rfl ?_
  refine xi_iload C 5 dL_addStep_9 rfl ?_
  refine xi_iload C 6 dL_addStep_11 rfl ?_
  refine xc_VY C hw (xAl.refl S) rfl rfl (c_X8_addStep l D ca ad tF a1 a2 a3 a4 a5 a6 S _ _ h_a1 h_a2 h_a3 h_a4 h_a5 h_a6 h hl9) xk_X8_addStep xv_X8_addStep xl_L_15 ⟨⟨Nat.le_of_ble_eq_true rfl, Nat.le_of_ble_eq_true rfl⟩, Nat.le_of_ble_eq_true rfl, Nat.le_of_ble_eq_true rfl⟩ xK_X8 (q := 0) rfl rfl rfl (Nat.le_of_ble_eq_true rfl) dL_addStep_13 (fun E9 S9 h9 hw9 ha9 => ?_) (fun r9 S13 h9 hw1 ha2 => ?_)
  · rcases h9 with ⟨rfl, h⟩ | ⟨rfl, h⟩ | ⟨rfl, h⟩
    · refine xt_catch (name := "java/lang/IndexOutOfBoundsException") C [] ⟨0, 18, 21, 19⟩ [⟨0, 18, 25, 21⟩, ⟨0, 18, 29, 13⟩] ht (fun z hz => nomatch hz) rfl (by decide) xcl_L_19 xca_IndexOutOfBoundsException (fun q9 => ?_)
      show xV (gC D ca ad tF) p l e ({ frames := 8, cells := xgc S + 4, slots := xgs S + 24, locals := 137 }) s m args below meth c A 9 Z (4 + (xgc S - xgc S9)) (24 + (xgs S - xgs S9)) 21 [(0, .ref (ad 0)), (1, .int (iN a1)), (2, .int (iN a2)), (3, .int (iN a3)), (4, .int (iN a4)), (5, .int (iN a5)), (6, .int (iN a6)), (7, .ref (ad 98))] [.ref q9] S9
      refine xi_astore C (L' := [(8, .ref q9), (0, .ref (ad 0)), (1, .int (iN a1)), (2, .int (iN a2)), (3, .int (iN a3)), (4, .int (iN a4)), (5, .int (iN a5)), (6, .int (iN a6)), (7, .ref (ad 98))]) dL_addStep_21 (by decide) rfl ?_
      refine xi_iconst C (v := 1) dL_addStep_23 rfl ?_
      exact xr_iY C hA hZ ha9 rfl hr hlocks rfl dL_addStep_24 (Nat.le_of_ble_eq_true rfl) (Nat.le_of_ble_eq_true rfl) hw9 ⟨_, rfl, (by decide), h⟩
    · refine xt_catch (name := "java/lang/IllegalArgumentException") C [⟨0, 18, 21, 19⟩] ⟨0, 18, 25, 21⟩ [⟨0, 18, 29, 13⟩] ht (xpass (Or.inr ⟨by decide, _, xcl_L_19, C.2.2.2.2.2.2.2.2.1.2 ("java/lang/IllegalArgumentException", "java/lang/IndexOutOfBoundsException") (by decide +kernel)⟩) (fun z hz => nomatch hz)) rfl (by decide) xcl_L_21 xca_IllegalArgumentException (fun q9 => ?_)
      show xV (gC D ca ad tF) p l e ({ frames := 8, cells := xgc S + 4, slots := xgs S + 24, locals := 137 }) s m args below meth c A 9 Z (4 + (xgc S - xgc S9)) (24 + (xgs S - xgs S9)) 25 [(0, .ref (ad 0)), (1, .int (iN a1)), (2, .int (iN a2)), (3, .int (iN a3)), (4, .int (iN a4)), (5, .int (iN a5)), (6, .int (iN a6)), (7, .ref (ad 98))] [.ref q9] S9
      refine xi_astore C (L' := [(8, .ref q9), (0, .ref (ad 0)), (1, .int (iN a1)), (2, .int (iN a2)), (3, .int (iN a3)), (4, .int (iN a4)), (5, .int (iN a5)), (6, .int (iN a6)), (7, .ref (ad 98))]) dL_addStep_25 (by decide) rfl ?_
      refine xi_iconst C (v := 2) dL_addStep_27 rfl ?_
      exact xr_iY C hA hZ ha9 rfl hr hlocks rfl dL_addStep_28 (Nat.le_of_ble_eq_true rfl) (Nat.le_of_ble_eq_true rfl) hw9 ⟨_, rfl, (by decide), h⟩
    · refine xt_catch (name := "java/lang/IllegalStateException") C [⟨0, 18, 21, 19⟩, ⟨0, 18, 25, 21⟩] ⟨0, 18, 29, 13⟩ [] ht (xpass (Or.inr ⟨by decide, _, xcl_L_19, C.2.2.2.2.2.2.2.2.1.2 ("java/lang/IllegalStateException", "java/lang/IndexOutOfBoundsException") (by decide +kernel)⟩) (xpass (Or.inr ⟨by decide, _, xcl_L_21, C.2.2.2.2.2.2.2.2.1.2 ("java/lang/IllegalStateException", "java/lang/IllegalArgumentException") (by decide +kernel)⟩) (fun z hz => nomatch hz))) rfl (by decide) xcl_L_13 xca_IllegalStateException (fun q9 => ?_)
      show xV (gC D ca ad tF) p l e ({ frames := 8, cells := xgc S + 4, slots := xgs S + 24, locals := 137 }) s m args below meth c A 9 Z (4 + (xgc S - xgc S9)) (24 + (xgs S - xgs S9)) 29 [(0, .ref (ad 0)), (1, .int (iN a1)), (2, .int (iN a2)), (3, .int (iN a3)), (4, .int (iN a4)), (5, .int (iN a5)), (6, .int (iN a6)), (7, .ref (ad 98))] [.ref q9] S9
      refine xi_astore C (L' := [(8, .ref q9), (0, .ref (ad 0)), (1, .int (iN a1)), (2, .int (iN a2)), (3, .int (iN a3)), (4, .int (iN a4)), (5, .int (iN a5)), (6, .int (iN a6)), (7, .ref (ad 98))]) dL_addStep_29 (by decide) rfl ?_
      refine xi_iconst C (v := 3) dL_addStep_31 rfl ?_
      exact xr_iY C hA hZ ha9 rfl hr hlocks rfl dL_addStep_32 (Nat.le_of_ble_eq_true rfl) (Nat.le_of_ble_eq_true rfl) hw9 ⟨_, rfl, (by decide), h⟩
  obtain ⟨r13, rfl, h_r13, h⟩ := h9
  refine xi_i2l C h_r13 dL_addStep_16 ?_
  refine xi_lastore C (q := 98) rfl (by decide) (by decide) dL_addStep_17 ?_
  have hw3 := xval.upJ (q := 98) (i := 0) (v := r13) hw1 rfl (xR_J h_r13)
  refine xi_goto C 33 dL_addStep_18 (by decide) ?_
  refine xi_iconst C (v := 0) dL_addStep_33 rfl ?_
  exact xr_iY C hA hZ ha2 ((congrFun (xup_cell (q' := 33) (by decide)) (-1)).trans rfl) hr hlocks rfl dL_addStep_34 (Nat.le_of_ble_eq_true rfl) (Nat.le_of_ble_eq_true rfl) hw3 ⟨_, rfl, (by decide), h⟩
set_option maxRecDepth 100000 in
set_option maxHeartbeats 4000000 in
theorem c_L_addChannel (l : Launch) (D : va_G) (ca : Nat → ClassId) (ad : Nat → Nat) (tF : Nat) (a1 : Int) (S : xS) (Q : Int → xS → Prop) (h_a1 : xR a1) (h : w_L_addChannel a1 S Q) (hl9 : l.stackTraces = false) : xMY l yL_addChannel (xwsH yL_addChannel cL_addChannel 4 (some .int) [(0, 9, 12, 21), (0, 9, 15, 13)]) ({ frames := 7, cells := xgc S + 1, slots := xgs S + 6, locals := 111 }) (gC D ca ad tF) [.ref (ad 0), .int (iN a1), .ref (ad 98)] S (xQi Q) (fun _ _ => False) 1 6 := by
  refine xmH_of RL rfl (by decide +kernel) (Nat.le_of_ble_eq_true rfl) ?_
  intro p e s m args below meth c A Z R hR9 C hA hZ hr hlocks ht hw
  subst hR9
  unfold w_L_addChannel at h
  show xV (gC D ca ad tF) p l e ({ frames := 7, cells := xgc S + 1, slots := xgs S + 6, locals := 111 }) s m args below meth c A 4 Z (0 + (xgc S - xgc S)) (0 + (xgs S - xgs S)) 0 [(0, .ref (ad 0)), (1, .int (iN a1)), (2, .ref (ad 98))] [] S
  refine xi_aload_n C 2 dL_addChannel_0 rfl rfl ?_
  refine xi_iconst C (v := 0) dL_addChannel_1 rfl ?_
  refine xi_aload_n C 0 dL_addChannel_2 rfl rfl ?_
  refine xi_iload_n C 1 dL_addChannel_3 rfl rfl ?_
  refine xc_VY C hw (xAl.refl S) rfl rfl (c_X8_addChannel l D ca ad tF a1 S _ _ h_a1 h hl9) xk_X8_addChannel xv_X8_addChannel xl_L_23 ⟨⟨Nat.le_of_ble_eq_true rfl, Nat.le_of_ble_eq_true rfl⟩, Nat.le_of_ble_eq_true rfl, Nat.le_of_ble_eq_true rfl⟩ xK_X8 (q := 0) rfl rfl rfl (Nat.le_of_ble_eq_true rfl) dL_addChannel_4 (fun E9 S9 h9 hw9 ha9 => ?_) (fun r9 S4 h9 hw1 ha2 => ?_)
  · rcases h9 with ⟨rfl, h⟩ | ⟨rfl, h⟩
    · refine xt_catch (name := "java/lang/IllegalArgumentException") C [] ⟨0, 9, 12, 21⟩ [⟨0, 9, 15, 13⟩] ht (fun z hz => nomatch hz) rfl (by decide) xcl_L_21 xca_IllegalArgumentException (fun q9 => ?_)
      show xV (gC D ca ad tF) p l e ({ frames := 7, cells := xgc S + 1, slots := xgs S + 6, locals := 111 }) s m args below meth c A 4 Z (1 + (xgc S - xgc S9)) (6 + (xgs S - xgs S9)) 12 [(0, .ref (ad 0)), (1, .int (iN a1)), (2, .ref (ad 98))] [.ref q9] S9
      refine xi_astore_n C (L' := [(3, .ref q9), (0, .ref (ad 0)), (1, .int (iN a1)), (2, .ref (ad 98))]) dL_addChannel_12 rfl (by decide) rfl ?_
      refine xi_iconst C (v := 1) dL_addChannel_13 rfl ?_
      exact xr_iY C hA hZ ha9 rfl hr hlocks rfl dL_addChannel_14 (Nat.le_of_ble_eq_true rfl) (Nat.le_of_ble_eq_true rfl) hw9 ⟨_, rfl, (by decide), h⟩
    · refine xt_catch (name := "java/lang/IllegalStateException") C [⟨0, 9, 12, 21⟩] ⟨0, 9, 15, 13⟩ [] ht (xpass (Or.inr ⟨by decide, _, xcl_L_21, C.2.2.2.2.2.2.2.2.1.2 ("java/lang/IllegalStateException", "java/lang/IllegalArgumentException") (by decide +kernel)⟩) (fun z hz => nomatch hz)) rfl (by decide) xcl_L_13 xca_IllegalStateException (fun q9 => ?_)
      show xV (gC D ca ad tF) p l e ({ frames := 7, cells := xgc S + 1, slots := xgs S + 6, locals := 111 }) s m args below meth c A 4 Z (1 + (xgc S - xgc S9)) (6 + (xgs S - xgs S9)) 15 [(0, .ref (ad 0)), (1, .int (iN a1)), (2, .ref (ad 98))] [.ref q9] S9
      refine xi_astore_n C (L' := [(3, .ref q9), (0, .ref (ad 0)), (1, .int (iN a1)), (2, .ref (ad 98))]) dL_addChannel_15 rfl (by decide) rfl ?_
      refine xi_iconst C (v := 2) dL_addChannel_16 rfl ?_
      exact xr_iY C hA hZ ha9 rfl hr hlocks rfl dL_addChannel_17 (Nat.le_of_ble_eq_true rfl) (Nat.le_of_ble_eq_true rfl) hw9 ⟨_, rfl, (by decide), h⟩
  obtain ⟨r4, rfl, h_r4, h⟩ := h9
  refine xi_i2l C h_r4 dL_addChannel_7 ?_
  refine xi_lastore C (q := 98) rfl (by decide) (by decide) dL_addChannel_8 ?_
  have hw3 := xval.upJ (q := 98) (i := 0) (v := r4) hw1 rfl (xR_J h_r4)
  refine xi_goto C 18 dL_addChannel_9 (by decide) ?_
  refine xi_iconst C (v := 0) dL_addChannel_18 rfl ?_
  exact xr_iY C hA hZ ha2 ((congrFun (xup_cell (q' := 33) (by decide)) (-1)).trans rfl) hr hlocks rfl dL_addChannel_19 (Nat.le_of_ble_eq_true rfl) (Nat.le_of_ble_eq_true rfl) hw3 ⟨_, rfl, (by decide), h⟩
set_option maxRecDepth 100000 in
set_option maxHeartbeats 4000000 in
theorem c_L_setStart (l : Launch) (D : va_G) (ca : Nat → ClassId) (ad : Nat → Nat) (tF : Nat) (a1 : Int) (a2 : Int) (S : xS) (Q : Int → xS → Prop) (h_a1 : xR a1) (h_a2 : xR a2) (h : w_L_setStart a1 a2 S Q) (hl9 : l.stackTraces = false) : xMY l yL_setStart (xwsH yL_setStart cL_setStart 5 (some .int) [(0, 10, 13, 21)]) ({ frames := 8, cells := xgc S + 2, slots := xgs S + 12, locals := 133 }) (gC D ca ad tF) [.ref (ad 0), .int (iN a1), .int (iN a2), .ref (ad 98)] S (xQi Q) (fun _ _ => False) 2 12 := by
  refine xmH_of RL rfl (by decide +kernel) (Nat.le_of_ble_eq_true rfl) ?_
  intro p e s m args below meth c A Z R hR9 C hA hZ hr hlocks ht hw
  subst hR9
  unfold w_L_setStart at h
  show xV (gC D ca ad tF) p l e ({ frames := 8, cells := xgc S + 2, slots := xgs S + 12, locals := 133 }) s m args below meth c A 5 Z (0 + (xgc S - xgc S)) (0 + (xgs S - xgs S)) 0 [(0, .ref (ad 0)), (1, .int (iN a1)), (2, .int (iN a2)), (3, .ref (ad 98))] [] S
  refine xi_aload_n C 3 dL_setStart_0 rfl rfl ?_
  refine xi_iconst C (v := 0) dL_setStart_1 rfl ?_
  refine xi_aload_n C 0 dL_setStart_2 rfl rfl ?_
  refine xi_iload_n C 1 dL_setStart_3 rfl rfl ?_
  refine xi_iload_n C 2 dL_setStart_4 rfl rfl ?_
  refine xc_VY C hw (xAl.refl S) rfl rfl (c_X8_setStart l D ca ad tF a1 a2 S _ _ h_a1 h_a2 h hl9) xk_X8_setStart xv_X8_setStart xl_L_27 ⟨⟨Nat.le_of_ble_eq_true rfl, Nat.le_of_ble_eq_true rfl⟩, Nat.le_of_ble_eq_true rfl, Nat.le_of_ble_eq_true rfl⟩ xK_X8 (q := 0) rfl rfl rfl (Nat.le_of_ble_eq_true rfl) dL_setStart_5 (fun E9 S9 h9 hw9 ha9 => ?_) (fun r9 S5 h9 hw1 ha2 => ?_)
  · obtain ⟨rfl, h⟩ := h9
    refine xt_catch (name := "java/lang/IllegalArgumentException") C [] ⟨0, 10, 13, 21⟩ [] ht (fun z hz => nomatch hz) rfl (by decide) xcl_L_21 xca_IllegalArgumentException (fun q9 => ?_)
    show xV (gC D ca ad tF) p l e ({ frames := 8, cells := xgc S + 2, slots := xgs S + 12, locals := 133 }) s m args below meth c A 5 Z (2 + (xgc S - xgc S9)) (12 + (xgs S - xgs S9)) 13 [(0, .ref (ad 0)), (1, .int (iN a1)), (2, .int (iN a2)), (3, .ref (ad 98))] [.ref q9] S9
    refine xi_astore C (L' := [(4, .ref q9), (0, .ref (ad 0)), (1, .int (iN a1)), (2, .int (iN a2)), (3, .ref (ad 98))]) dL_setStart_13 (by decide) rfl ?_
    refine xi_iconst C (v := 1) dL_setStart_15 rfl ?_
    exact xr_iY C hA hZ ha9 rfl hr hlocks rfl dL_setStart_16 (Nat.le_of_ble_eq_true rfl) (Nat.le_of_ble_eq_true rfl) hw9 ⟨_, rfl, (by decide), h⟩
  obtain ⟨r5, rfl, h_r5, h⟩ := h9
  refine xi_i2l C h_r5 dL_setStart_8 ?_
  refine xi_lastore C (q := 98) rfl (by decide) (by decide) dL_setStart_9 ?_
  have hw3 := xval.upJ (q := 98) (i := 0) (v := r5) hw1 rfl (xR_J h_r5)
  refine xi_goto C 17 dL_setStart_10 (by decide) ?_
  refine xi_iconst C (v := 0) dL_setStart_17 rfl ?_
  exact xr_iY C hA hZ ha2 ((congrFun (xup_cell (q' := 33) (by decide)) (-1)).trans rfl) hr hlocks rfl dL_setStart_18 (Nat.le_of_ble_eq_true rfl) (Nat.le_of_ble_eq_true rfl) hw3 ⟨_, rfl, (by decide), h⟩
set_option maxRecDepth 100000 in
set_option maxHeartbeats 4000000 in
theorem c_L_setMarks (l : Launch) (D : va_G) (ca : Nat → ClassId) (ad : Nat → Nat) (tF : Nat) (a1 : Int) (a2 : Int) (a3 : Int) (a4 : Int) (S : xS) (Q : Int → xS → Prop) (h_a1 : xR a1) (h_a2 : xR a2) (h_a3 : xR a3) (h_a4 : xR a4) (h : w_L_setMarks a1 a2 a3 a4 S Q) (hl9 : l.stackTraces = false) : xMY l yL_setMarks (xwsH yL_setMarks cL_setMarks 7 (some .int) [(0, 21, 24, 19), (0, 21, 28, 21)]) ({ frames := 8, cells := xgc S + 2, slots := xgs S + 12, locals := 135 }) (gC D ca ad tF) [.ref (ad 0), .int (iN a1), .int (iN a2), .int (iN a3), .int (iN a4), .ref (ad 98)] S (xQi Q) (fun _ _ => False) 2 12 := by
  refine xmH_of RL rfl (by decide +kernel) (Nat.le_of_ble_eq_true rfl) ?_
  intro p e s m args below meth c A Z R hR9 C hA hZ hr hlocks ht hw
  subst hR9
  unfold w_L_setMarks at h
  show xV (gC D ca ad tF) p l e ({ frames := 8, cells := xgc S + 2, slots := xgs S + 12, locals := 135 }) s m args below meth c A 7 Z (0 + (xgc S - xgc S)) (0 + (xgs S - xgs S)) 0 [(0, .ref (ad 0)), (1, .int (iN a1)), (2, .int (iN a2)), (3, .int (iN a3)), (4, .int (iN a4)), (5, .ref (ad 98))] [] S
  refine xi_aload C 5 dL_setMarks_0 rfl ?_
  refine xi_iconst C (v := 0) dL_setMarks_2 rfl ?_
  refine xi_aload_n C 0 dL_setMarks_3 rfl rfl ?_
  refine xi_iload_n C 1 dL_setMarks_4 rfl rfl ?_
  refine xi_iload_n C 2 dL_setMarks_5 rfl rfl ?_
  refine xi_iload_n C 3 dL_setMarks_6 rfl rfl ?_
  refine xi_iload C 4 dL_setMarks_7 rfl ?_
  refine xc_VY C hw (xAl.refl S) rfl rfl (c_X8_setMarks l D ca ad tF a1 a2 a3 a4 S _ _ h_a1 h_a2 h_a3 h_a4 h hl9) xk_X8_setMarks xv_X8_setMarks xl_L_31 ⟨⟨Nat.le_of_ble_eq_true rfl, Nat.le_of_ble_eq_true rfl⟩, Nat.le_of_ble_eq_true rfl, Nat.le_of_ble_eq_true rfl⟩ xK_X8 (q := 0) rfl rfl rfl (Nat.le_of_ble_eq_true rfl) dL_setMarks_9 (fun E9 S9 h9 hw9 ha9 => ?_) (fun r9 S9 h9 hw1 ha2 => ?_)
  · rcases h9 with ⟨rfl, h⟩ | ⟨rfl, h⟩
    · refine xt_catch (name := "java/lang/IndexOutOfBoundsException") C [] ⟨0, 21, 24, 19⟩ [⟨0, 21, 28, 21⟩] ht (fun z hz => nomatch hz) rfl (by decide) xcl_L_19 xca_IndexOutOfBoundsException (fun q9 => ?_)
      show xV (gC D ca ad tF) p l e ({ frames := 8, cells := xgc S + 2, slots := xgs S + 12, locals := 135 }) s m args below meth c A 7 Z (2 + (xgc S - xgc S9)) (12 + (xgs S - xgs S9)) 24 [(0, .ref (ad 0)), (1, .int (iN a1)), (2, .int (iN a2)), (3, .int (iN a3)), (4, .int (iN a4)), (5, .ref (ad 98))] [.ref q9] S9
      refine xi_astore C (L' := [(6, .ref q9), (0, .ref (ad 0)), (1, .int (iN a1)), (2, .int (iN a2)), (3, .int (iN a3)), (4, .int (iN a4)), (5, .ref (ad 98))]) dL_setMarks_24 (by decide) rfl ?_
      refine xi_iconst C (v := 1) dL_setMarks_26 rfl ?_
      exact xr_iY C hA hZ ha9 rfl hr hlocks rfl dL_setMarks_27 (Nat.le_of_ble_eq_true rfl) (Nat.le_of_ble_eq_true rfl) hw9 ⟨_, rfl, (by decide), h⟩
    · refine xt_catch (name := "java/lang/IllegalArgumentException") C [⟨0, 21, 24, 19⟩] ⟨0, 21, 28, 21⟩ [] ht (xpass (Or.inr ⟨by decide, _, xcl_L_19, C.2.2.2.2.2.2.2.2.1.2 ("java/lang/IllegalArgumentException", "java/lang/IndexOutOfBoundsException") (by decide +kernel)⟩) (fun z hz => nomatch hz)) rfl (by decide) xcl_L_21 xca_IllegalArgumentException (fun q9 => ?_)
      show xV (gC D ca ad tF) p l e ({ frames := 8, cells := xgc S + 2, slots := xgs S + 12, locals := 135 }) s m args below meth c A 7 Z (2 + (xgc S - xgc S9)) (12 + (xgs S - xgs S9)) 28 [(0, .ref (ad 0)), (1, .int (iN a1)), (2, .int (iN a2)), (3, .int (iN a3)), (4, .int (iN a4)), (5, .ref (ad 98))] [.ref q9] S9
      refine xi_astore C (L' := [(6, .ref q9), (0, .ref (ad 0)), (1, .int (iN a1)), (2, .int (iN a2)), (3, .int (iN a3)), (4, .int (iN a4)), (5, .ref (ad 98))]) dL_setMarks_28 (by decide) rfl ?_
      refine xi_iconst C (v := 2) dL_setMarks_30 rfl ?_
      exact xr_iY C hA hZ ha9 rfl hr hlocks rfl dL_setMarks_31 (Nat.le_of_ble_eq_true rfl) (Nat.le_of_ble_eq_true rfl) hw9 ⟨_, rfl, (by decide), h⟩
  obtain ⟨r9, rfl, h_r9, h⟩ := h9
  refine xi_if_eq C 19 h_r9 dL_setMarks_12 (by decide) (fun z3 => ?_) (fun z3 => ?_)
  · replace h := h.1 z3
    refine xi_lconst C (v := 0) dL_setMarks_19 (by decide +kernel) ?_
    refine xi_lastore C (q := 98) rfl (by decide) (by decide) dL_setMarks_20 ?_
    have hw4 := xval.upJ (q := 98) (i := 0) (v := 0) hw1 rfl (by decide)
    refine xi_goto C 32 dL_setMarks_21 (by decide) ?_
    refine xi_iconst C (v := 0) dL_setMarks_32 rfl ?_
    exact xr_iY C hA hZ ha2 ((congrFun (xup_cell (q' := 33) (by decide)) (-1)).trans rfl) hr hlocks rfl dL_setMarks_33 (Nat.le_of_ble_eq_true rfl) (Nat.le_of_ble_eq_true rfl) hw4 ⟨_, rfl, (by decide), h⟩
  · replace h := h.2 z3
    refine xi_lconst C (v := 1) dL_setMarks_15 (by decide +kernel) ?_
    refine xi_goto C 20 dL_setMarks_16 (by decide) ?_
    refine xi_lastore C (q := 98) rfl (by decide) (by decide) dL_setMarks_20 ?_
    have hw5 := xval.upJ (q := 98) (i := 0) (v := 1) hw1 rfl (by decide)
    refine xi_goto C 32 dL_setMarks_21 (by decide) ?_
    refine xi_iconst C (v := 0) dL_setMarks_32 rfl ?_
    exact xr_iY C hA hZ ha2 ((congrFun (xup_cell (q' := 33) (by decide)) (-1)).trans rfl) hr hlocks rfl dL_setMarks_33 (Nat.le_of_ble_eq_true rfl) (Nat.le_of_ble_eq_true rfl) hw5 ⟨_, rfl, (by decide), h⟩
set_option maxRecDepth 100000 in
set_option maxHeartbeats 4000000 in
theorem c_L_addInvariant (l : Launch) (D : va_G) (ca : Nat → ClassId) (ad : Nat → Nat) (tF : Nat) (a1 : Int) (a2 : Int) (S : xS) (Q : Int → xS → Prop) (h_a1 : xR a1) (h_a2 : xR a2) (h : w_L_addInvariant a1 a2 S Q) (hl9 : l.stackTraces = false) : xMY l yL_addInvariant (xwsH yL_addInvariant cL_addInvariant 5 (some .int) [(0, 10, 13, 21), (0, 10, 17, 13)]) ({ frames := 8, cells := xgc S + 3, slots := xgs S + 18, locals := 132 }) (gC D ca ad tF) [.ref (ad 0), .int (iN a1), .int (iN a2), .ref (ad 98)] S (xQi Q) (fun _ _ => False) 3 18 := by
  refine xmH_of RL rfl (by decide +kernel) (Nat.le_of_ble_eq_true rfl) ?_
  intro p e s m args below meth c A Z R hR9 C hA hZ hr hlocks ht hw
  subst hR9
  unfold w_L_addInvariant at h
  show xV (gC D ca ad tF) p l e ({ frames := 8, cells := xgc S + 3, slots := xgs S + 18, locals := 132 }) s m args below meth c A 5 Z (0 + (xgc S - xgc S)) (0 + (xgs S - xgs S)) 0 [(0, .ref (ad 0)), (1, .int (iN a1)), (2, .int (iN a2)), (3, .ref (ad 98))] [] S
  refine xi_aload_n C 3 dL_addInvariant_0 rfl rfl ?_
  refine xi_iconst C (v := 0) dL_addInvariant_1 rfl ?_
  refine xi_aload_n C 0 dL_addInvariant_2 rfl rfl ?_
  refine xi_iload_n C 1 dL_addInvariant_3 rfl rfl ?_
  refine xi_iload_n C 2 dL_addInvariant_4 rfl rfl ?_
  refine xc_VY C hw (xAl.refl S) rfl rfl (c_X8_addInvariant l D ca ad tF a1 a2 S _ _ h_a1 h_a2 h hl9) xk_X8_addInvariant xv_X8_addInvariant xl_L_35 ⟨⟨Nat.le_of_ble_eq_true rfl, Nat.le_of_ble_eq_true rfl⟩, Nat.le_of_ble_eq_true rfl, Nat.le_of_ble_eq_true rfl⟩ xK_X8 (q := 0) rfl rfl rfl (Nat.le_of_ble_eq_true rfl) dL_addInvariant_5 (fun E9 S9 h9 hw9 ha9 => ?_) (fun r9 S5 h9 hw1 ha2 => ?_)
  · rcases h9 with ⟨rfl, h⟩ | ⟨rfl, h⟩
    · refine xt_catch (name := "java/lang/IllegalArgumentException") C [] ⟨0, 10, 13, 21⟩ [⟨0, 10, 17, 13⟩] ht (fun z hz => nomatch hz) rfl (by decide) xcl_L_21 xca_IllegalArgumentException (fun q9 => ?_)
      show xV (gC D ca ad tF) p l e ({ frames := 8, cells := xgc S + 3, slots := xgs S + 18, locals := 132 }) s m args below meth c A 5 Z (3 + (xgc S - xgc S9)) (18 + (xgs S - xgs S9)) 13 [(0, .ref (ad 0)), (1, .int (iN a1)), (2, .int (iN a2)), (3, .ref (ad 98))] [.ref q9] S9
      refine xi_astore C (L' := [(4, .ref q9), (0, .ref (ad 0)), (1, .int (iN a1)), (2, .int (iN a2)), (3, .ref (ad 98))]) dL_addInvariant_13 (by decide) rfl ?_
      refine xi_iconst C (v := 1) dL_addInvariant_15 rfl ?_
      exact xr_iY C hA hZ ha9 rfl hr hlocks rfl dL_addInvariant_16 (Nat.le_of_ble_eq_true rfl) (Nat.le_of_ble_eq_true rfl) hw9 ⟨_, rfl, (by decide), h⟩
    · refine xt_catch (name := "java/lang/IllegalStateException") C [⟨0, 10, 13, 21⟩] ⟨0, 10, 17, 13⟩ [] ht (xpass (Or.inr ⟨by decide, _, xcl_L_21, C.2.2.2.2.2.2.2.2.1.2 ("java/lang/IllegalStateException", "java/lang/IllegalArgumentException") (by decide +kernel)⟩) (fun z hz => nomatch hz)) rfl (by decide) xcl_L_13 xca_IllegalStateException (fun q9 => ?_)
      show xV (gC D ca ad tF) p l e ({ frames := 8, cells := xgc S + 3, slots := xgs S + 18, locals := 132 }) s m args below meth c A 5 Z (3 + (xgc S - xgc S9)) (18 + (xgs S - xgs S9)) 17 [(0, .ref (ad 0)), (1, .int (iN a1)), (2, .int (iN a2)), (3, .ref (ad 98))] [.ref q9] S9
      refine xi_astore C (L' := [(4, .ref q9), (0, .ref (ad 0)), (1, .int (iN a1)), (2, .int (iN a2)), (3, .ref (ad 98))]) dL_addInvariant_17 (by decide) rfl ?_
      refine xi_iconst C (v := 2) dL_addInvariant_19 rfl ?_
      exact xr_iY C hA hZ ha9 rfl hr hlocks rfl dL_addInvariant_20 (Nat.le_of_ble_eq_true rfl) (Nat.le_of_ble_eq_true rfl) hw9 ⟨_, rfl, (by decide), h⟩
  obtain ⟨r5, rfl, h_r5, h⟩ := h9
  refine xi_i2l C h_r5 dL_addInvariant_8 ?_
  refine xi_lastore C (q := 98) rfl (by decide) (by decide) dL_addInvariant_9 ?_
  have hw3 := xval.upJ (q := 98) (i := 0) (v := r5) hw1 rfl (xR_J h_r5)
  refine xi_goto C 21 dL_addInvariant_10 (by decide) ?_
  refine xi_iconst C (v := 0) dL_addInvariant_21 rfl ?_
  exact xr_iY C hA hZ ha2 ((congrFun (xup_cell (q' := 33) (by decide)) (-1)).trans rfl) hr hlocks rfl dL_addInvariant_22 (Nat.le_of_ble_eq_true rfl) (Nat.le_of_ble_eq_true rfl) hw3 ⟨_, rfl, (by decide), h⟩
set_option maxRecDepth 100000 in
set_option maxHeartbeats 4000000 in
theorem c_L_areAlike (l : Launch) (D : va_G) (ca : Nat → ClassId) (ad : Nat → Nat) (tF : Nat) (a1 : Int) (a2 : Int) (S : xS) (Q : Int → xS → Prop) (h_a1 : xR a1) (h_a2 : xR a2) (h : w_L_areAlike a1 a2 S Q) (hl9 : l.stackTraces = false) : xMY l yL_areAlike (xwsH yL_areAlike cL_areAlike 5 (some .int) [(0, 17, 20, 19)]) ({ frames := 8, cells := xgc S + 2, slots := xgs S + 12, locals := 133 }) (gC D ca ad tF) [.ref (ad 0), .int (iN a1), .int (iN a2), .ref (ad 98)] S (xQi Q) (fun _ _ => False) 2 12 := by
  refine xmH_of RL rfl (by decide +kernel) (Nat.le_of_ble_eq_true rfl) ?_
  intro p e s m args below meth c A Z R hR9 C hA hZ hr hlocks ht hw
  subst hR9
  unfold w_L_areAlike at h
  show xV (gC D ca ad tF) p l e ({ frames := 8, cells := xgc S + 2, slots := xgs S + 12, locals := 133 }) s m args below meth c A 5 Z (0 + (xgc S - xgc S)) (0 + (xgs S - xgs S)) 0 [(0, .ref (ad 0)), (1, .int (iN a1)), (2, .int (iN a2)), (3, .ref (ad 98))] [] S
  refine xi_aload_n C 3 dL_areAlike_0 rfl rfl ?_
  refine xi_iconst C (v := 0) dL_areAlike_1 rfl ?_
  refine xi_aload_n C 0 dL_areAlike_2 rfl rfl ?_
  refine xi_iload_n C 1 dL_areAlike_3 rfl rfl ?_
  refine xi_iload_n C 2 dL_areAlike_4 rfl rfl ?_
  refine xc_VY C hw (xAl.refl S) rfl rfl (c_X8_areAlike l D ca ad tF a1 a2 S _ _ h_a1 h_a2 h hl9) xk_X8_areAlike xv_X8_areAlike xl_L_38 ⟨⟨Nat.le_of_ble_eq_true rfl, Nat.le_of_ble_eq_true rfl⟩, Nat.le_of_ble_eq_true rfl, Nat.le_of_ble_eq_true rfl⟩ xK_X8 (q := 0) rfl rfl rfl (Nat.le_of_ble_eq_true rfl) dL_areAlike_5 (fun E9 S9 h9 hw9 ha9 => ?_) (fun r9 S5 h9 hw1 ha2 => ?_)
  · obtain ⟨rfl, h⟩ := h9
    refine xt_catch (name := "java/lang/IndexOutOfBoundsException") C [] ⟨0, 17, 20, 19⟩ [] ht (fun z hz => nomatch hz) rfl (by decide) xcl_L_19 xca_IndexOutOfBoundsException (fun q9 => ?_)
    show xV (gC D ca ad tF) p l e ({ frames := 8, cells := xgc S + 2, slots := xgs S + 12, locals := 133 }) s m args below meth c A 5 Z (2 + (xgc S - xgc S9)) (12 + (xgs S - xgs S9)) 20 [(0, .ref (ad 0)), (1, .int (iN a1)), (2, .int (iN a2)), (3, .ref (ad 98))] [.ref q9] S9
    refine xi_astore C (L' := [(4, .ref q9), (0, .ref (ad 0)), (1, .int (iN a1)), (2, .int (iN a2)), (3, .ref (ad 98))]) dL_areAlike_20 (by decide) rfl ?_
    refine xi_iconst C (v := 1) dL_areAlike_22 rfl ?_
    exact xr_iY C hA hZ ha9 rfl hr hlocks rfl dL_areAlike_23 (Nat.le_of_ble_eq_true rfl) (Nat.le_of_ble_eq_true rfl) hw9 ⟨_, rfl, (by decide), h⟩
  obtain ⟨r5, rfl, h_r5, h⟩ := h9
  refine xi_if_eq C 15 h_r5 dL_areAlike_8 (by decide) (fun z3 => ?_) (fun z3 => ?_)
  · replace h := h.1 z3
    refine xi_lconst C (v := 0) dL_areAlike_15 (by decide +kernel) ?_
    refine xi_lastore C (q := 98) rfl (by decide) (by decide) dL_areAlike_16 ?_
    have hw4 := xval.upJ (q := 98) (i := 0) (v := 0) hw1 rfl (by decide)
    refine xi_goto C 24 dL_areAlike_17 (by decide) ?_
    refine xi_iconst C (v := 0) dL_areAlike_24 rfl ?_
    exact xr_iY C hA hZ ha2 ((congrFun (xup_cell (q' := 33) (by decide)) (-1)).trans rfl) hr hlocks rfl dL_areAlike_25 (Nat.le_of_ble_eq_true rfl) (Nat.le_of_ble_eq_true rfl) hw4 ⟨_, rfl, (by decide), h⟩
  · replace h := h.2 z3
    refine xi_lconst C (v := 1) dL_areAlike_11 (by decide +kernel) ?_
    refine xi_goto C 16 dL_areAlike_12 (by decide) ?_
    refine xi_lastore C (q := 98) rfl (by decide) (by decide) dL_areAlike_16 ?_
    have hw5 := xval.upJ (q := 98) (i := 0) (v := 1) hw1 rfl (by decide)
    refine xi_goto C 24 dL_areAlike_17 (by decide) ?_
    refine xi_iconst C (v := 0) dL_areAlike_24 rfl ?_
    exact xr_iY C hA hZ ha2 ((congrFun (xup_cell (q' := 33) (by decide)) (-1)).trans rfl) hr hlocks rfl dL_areAlike_25 (Nat.le_of_ble_eq_true rfl) (Nat.le_of_ble_eq_true rfl) hw5 ⟨_, rfl, (by decide), h⟩
set_option maxRecDepth 100000 in
set_option maxHeartbeats 4000000 in
theorem c_L_begin (l : Launch) (D : va_G) (ca : Nat → ClassId) (ad : Nat → Nat) (tF : Nat) (a1 : Int) (S : xS) (Q : Int → xS → Prop) (h_a1 : xR a1) (h : w_L_begin a1 S Q) (hl9 : l.stackTraces = false) : xMY l yL_begin (xwsH yL_begin cL_begin 4 (some .int) [(0, 9, 12, 21), (0, 9, 15, 46)]) ({ frames := 7, cells := xgc S + 1, slots := xgs S + 6, locals := 156 }) (gC D ca ad tF) [.ref (ad 0), .int (iN a1), .ref (ad 98)] S (xQi Q) (fun _ _ => False) 1 6 := by
  refine xmH_of RL rfl (by decide +kernel) (Nat.le_of_ble_eq_true rfl) ?_
  intro p e s m args below meth c A Z R hR9 C hA hZ hr hlocks ht hw
  subst hR9
  unfold w_L_begin at h
  show xV (gC D ca ad tF) p l e ({ frames := 7, cells := xgc S + 1, slots := xgs S + 6, locals := 156 }) s m args below meth c A 4 Z (0 + (xgc S - xgc S)) (0 + (xgs S - xgs S)) 0 [(0, .ref (ad 0)), (1, .int (iN a1)), (2, .ref (ad 98))] [] S
  refine xi_aload_n C 2 dL_begin_0 rfl rfl ?_
  refine xi_iconst C (v := 0) dL_begin_1 rfl ?_
  refine xi_aload_n C 0 dL_begin_2 rfl rfl ?_
  refine xi_iload_n C 1 dL_begin_3 rfl rfl ?_
  refine xc_VY C hw (xAl.refl S) rfl rfl (c_X8_begin l D ca ad tF a1 S _ _ h_a1 h hl9) xk_X8_begin xv_X8_begin xl_L_42 ⟨⟨Nat.le_of_ble_eq_true rfl, Nat.le_of_ble_eq_true rfl⟩, Nat.le_of_ble_eq_true rfl, Nat.le_of_ble_eq_true rfl⟩ xK_X8 (q := 0) rfl rfl rfl (Nat.le_of_ble_eq_true rfl) dL_begin_4 (fun E9 S9 h9 hw9 ha9 => ?_) (fun r9 S4 h9 hw1 ha2 => ?_)
  · rcases h9 with ⟨rfl, h⟩ | ⟨rfl, h⟩
    · refine xt_catch (name := "java/lang/IllegalArgumentException") C [] ⟨0, 9, 12, 21⟩ [⟨0, 9, 15, 46⟩] ht (fun z hz => nomatch hz) rfl (by decide) xcl_L_21 xca_IllegalArgumentException (fun q9 => ?_)
      show xV (gC D ca ad tF) p l e ({ frames := 7, cells := xgc S + 1, slots := xgs S + 6, locals := 156 }) s m args below meth c A 4 Z (1 + (xgc S - xgc S9)) (6 + (xgs S - xgs S9)) 12 [(0, .ref (ad 0)), (1, .int (iN a1)), (2, .ref (ad 98))] [.ref q9] S9
      refine xi_astore_n C (L' := [(3, .ref q9), (0, .ref (ad 0)), (1, .int (iN a1)), (2, .ref (ad 98))]) dL_begin_12 rfl (by decide) rfl ?_
      refine xi_iconst C (v := 1) dL_begin_13 rfl ?_
      exact xr_iY C hA hZ ha9 rfl hr hlocks rfl dL_begin_14 (Nat.le_of_ble_eq_true rfl) (Nat.le_of_ble_eq_true rfl) hw9 ⟨_, rfl, (by decide), h⟩
    · refine xt_catch (name := "java/lang/UnsupportedOperationException") C [⟨0, 9, 12, 21⟩] ⟨0, 9, 15, 46⟩ [] ht (xpass (Or.inr ⟨by decide, _, xcl_L_21, C.2.2.2.2.2.2.2.2.1.2 ("java/lang/UnsupportedOperationException", "java/lang/IllegalArgumentException") (by decide +kernel)⟩) (fun z hz => nomatch hz)) rfl (by decide) xcl_L_46 xca_UnsupportedOperationException (fun q9 => ?_)
      show xV (gC D ca ad tF) p l e ({ frames := 7, cells := xgc S + 1, slots := xgs S + 6, locals := 156 }) s m args below meth c A 4 Z (1 + (xgc S - xgc S9)) (6 + (xgs S - xgs S9)) 15 [(0, .ref (ad 0)), (1, .int (iN a1)), (2, .ref (ad 98))] [.ref q9] S9
      refine xi_astore_n C (L' := [(3, .ref q9), (0, .ref (ad 0)), (1, .int (iN a1)), (2, .ref (ad 98))]) dL_begin_15 rfl (by decide) rfl ?_
      refine xi_iconst C (v := 2) dL_begin_16 rfl ?_
      exact xr_iY C hA hZ ha9 rfl hr hlocks rfl dL_begin_17 (Nat.le_of_ble_eq_true rfl) (Nat.le_of_ble_eq_true rfl) hw9 ⟨_, rfl, (by decide), h⟩
  obtain ⟨r4, rfl, h_r4, h⟩ := h9
  refine xi_i2l C h_r4 dL_begin_7 ?_
  refine xi_lastore C (q := 98) rfl (by decide) (by decide) dL_begin_8 ?_
  have hw3 := xval.upJ (q := 98) (i := 0) (v := r4) hw1 rfl (xR_J h_r4)
  refine xi_goto C 18 dL_begin_9 (by decide) ?_
  refine xi_iconst C (v := 0) dL_begin_18 rfl ?_
  exact xr_iY C hA hZ ha2 ((congrFun (xup_cell (q' := 33) (by decide)) (-1)).trans rfl) hr hlocks rfl dL_begin_19 (Nat.le_of_ble_eq_true rfl) (Nat.le_of_ble_eq_true rfl) hw3 ⟨_, rfl, (by decide), h⟩
set_option maxRecDepth 100000 in
set_option maxHeartbeats 4000000 in
theorem c_L_search (l : Launch) (D : va_G) (ca : Nat → ClassId) (ad : Nat → Nat) (tF : Nat) (a1 : Int) (S : xS) (Q : Int → xS → Prop) (h_a1 : xR a1) (h : w_L_search a1 S Q) (hl9 : l.stackTraces = false) : xMY l yL_search (xwsH yL_search cL_search 4 (some .int) [(0, 9, 12, 13), (0, 9, 15, 21)]) ({ frames := 8, cells := xgc S + 2, slots := xgs S + 12, locals := 235 }) (gC D ca ad tF) [.ref (ad 0), .int (iN a1), .ref (ad 98)] S (xQi Q) (fun _ _ => False) 2 12 := by
  refine xmH_of RL rfl (by decide +kernel) (Nat.le_of_ble_eq_true rfl) ?_
  intro p e s m args below meth c A Z R hR9 C hA hZ hr hlocks ht hw
  subst hR9
  unfold w_L_search at h
  show xV (gC D ca ad tF) p l e ({ frames := 8, cells := xgc S + 2, slots := xgs S + 12, locals := 235 }) s m args below meth c A 4 Z (0 + (xgc S - xgc S)) (0 + (xgs S - xgs S)) 0 [(0, .ref (ad 0)), (1, .int (iN a1)), (2, .ref (ad 98))] [] S
  refine xi_aload_n C 2 dL_search_0 rfl rfl ?_
  refine xi_iconst C (v := 0) dL_search_1 rfl ?_
  refine xi_aload_n C 0 dL_search_2 rfl rfl ?_
  refine xi_iload_n C 1 dL_search_3 rfl rfl ?_
  refine xc_VY C hw (xAl.refl S) rfl rfl (c_X8_search l D ca ad tF a1 S _ _ h_a1 h hl9) xk_X8_search xv_X8_search xl_L_48 ⟨⟨Nat.le_of_ble_eq_true rfl, Nat.le_of_ble_eq_true rfl⟩, Nat.le_of_ble_eq_true rfl, Nat.le_of_ble_eq_true rfl⟩ xK_X8 (q := 0) rfl rfl rfl (Nat.le_of_ble_eq_true rfl) dL_search_4 (fun E9 S9 h9 hw9 ha9 => ?_) (fun r9 S4 h9 hw1 ha2 => ?_)
  · rcases h9 with ⟨rfl, h⟩ | ⟨rfl, h⟩
    · refine xt_catch (name := "java/lang/IllegalStateException") C [] ⟨0, 9, 12, 13⟩ [⟨0, 9, 15, 21⟩] ht (fun z hz => nomatch hz) rfl (by decide) xcl_L_13 xca_IllegalStateException (fun q9 => ?_)
      show xV (gC D ca ad tF) p l e ({ frames := 8, cells := xgc S + 2, slots := xgs S + 12, locals := 235 }) s m args below meth c A 4 Z (2 + (xgc S - xgc S9)) (12 + (xgs S - xgs S9)) 12 [(0, .ref (ad 0)), (1, .int (iN a1)), (2, .ref (ad 98))] [.ref q9] S9
      refine xi_astore_n C (L' := [(3, .ref q9), (0, .ref (ad 0)), (1, .int (iN a1)), (2, .ref (ad 98))]) dL_search_12 rfl (by decide) rfl ?_
      refine xi_iconst C (v := 1) dL_search_13 rfl ?_
      exact xr_iY C hA hZ ha9 rfl hr hlocks rfl dL_search_14 (Nat.le_of_ble_eq_true rfl) (Nat.le_of_ble_eq_true rfl) hw9 ⟨_, rfl, (by decide), h⟩
    · refine xt_catch (name := "java/lang/IllegalArgumentException") C [⟨0, 9, 12, 13⟩] ⟨0, 9, 15, 21⟩ [] ht (xpass (Or.inr ⟨by decide, _, xcl_L_13, C.2.2.2.2.2.2.2.2.1.2 ("java/lang/IllegalArgumentException", "java/lang/IllegalStateException") (by decide +kernel)⟩) (fun z hz => nomatch hz)) rfl (by decide) xcl_L_21 xca_IllegalArgumentException (fun q9 => ?_)
      show xV (gC D ca ad tF) p l e ({ frames := 8, cells := xgc S + 2, slots := xgs S + 12, locals := 235 }) s m args below meth c A 4 Z (2 + (xgc S - xgc S9)) (12 + (xgs S - xgs S9)) 15 [(0, .ref (ad 0)), (1, .int (iN a1)), (2, .ref (ad 98))] [.ref q9] S9
      refine xi_astore_n C (L' := [(3, .ref q9), (0, .ref (ad 0)), (1, .int (iN a1)), (2, .ref (ad 98))]) dL_search_15 rfl (by decide) rfl ?_
      refine xi_iconst C (v := 2) dL_search_16 rfl ?_
      exact xr_iY C hA hZ ha9 rfl hr hlocks rfl dL_search_17 (Nat.le_of_ble_eq_true rfl) (Nat.le_of_ble_eq_true rfl) hw9 ⟨_, rfl, (by decide), h⟩
  obtain ⟨r4, rfl, h_r4, h⟩ := h9
  refine xi_i2l C h_r4 dL_search_7 ?_
  refine xi_lastore C (q := 98) rfl (by decide) (by decide) dL_search_8 ?_
  have hw3 := xval.upJ (q := 98) (i := 0) (v := r4) hw1 rfl (xR_J h_r4)
  refine xi_goto C 18 dL_search_9 (by decide) ?_
  refine xi_iconst C (v := 0) dL_search_18 rfl ?_
  exact xr_iY C hA hZ ha2 ((congrFun (xup_cell (q' := 33) (by decide)) (-1)).trans rfl) hr hlocks rfl dL_search_19 (Nat.le_of_ble_eq_true rfl) (Nat.le_of_ble_eq_true rfl) hw3 ⟨_, rfl, (by decide), h⟩
set_option maxRecDepth 100000 in
set_option maxHeartbeats 4000000 in
theorem c_L_verdict (l : Launch) (D : va_G) (ca : Nat → ClassId) (ad : Nat → Nat) (tF : Nat)  (S : xS) (Q : Int → xS → Prop)  (h : w_L_verdict  S Q) (hl9 : l.stackTraces = false) : xMY l yL_verdict (xwsH yL_verdict cL_verdict 3 (some .int) [(0, 8, 11, 13)]) ({ frames := 8, cells := xgc S + 1, slots := xgs S + 6, locals := 130 }) (gC D ca ad tF) [.ref (ad 0), .ref (ad 98)] S (xQi Q) (fun _ _ => False) 1 6 := by
  refine xmH_of RL rfl (by decide +kernel) (Nat.le_of_ble_eq_true rfl) ?_
  intro p e s m args below meth c A Z R hR9 C hA hZ hr hlocks ht hw
  subst hR9
  unfold w_L_verdict at h
  show xV (gC D ca ad tF) p l e ({ frames := 8, cells := xgc S + 1, slots := xgs S + 6, locals := 130 }) s m args below meth c A 3 Z (0 + (xgc S - xgc S)) (0 + (xgs S - xgs S)) 0 [(0, .ref (ad 0)), (1, .ref (ad 98))] [] S
  refine xi_aload_n C 1 dL_verdict_0 rfl rfl ?_
  refine xi_iconst C (v := 0) dL_verdict_1 rfl ?_
  refine xi_aload_n C 0 dL_verdict_2 rfl rfl ?_
  refine xc_VY C hw (xAl.refl S) rfl rfl (c_X8_verdict l D ca ad tF S _ _ h hl9) xk_X8_verdict xv_X8_verdict xl_L_51 ⟨⟨Nat.le_of_ble_eq_true rfl, Nat.le_of_ble_eq_true rfl⟩, Nat.le_of_ble_eq_true rfl, Nat.le_of_ble_eq_true rfl⟩ xK_X8 (q := 0) rfl rfl rfl (Nat.le_of_ble_eq_true rfl) dL_verdict_3 (fun E9 S9 h9 hw9 ha9 => ?_) (fun r9 S3 h9 hw1 ha2 => ?_)
  · obtain ⟨rfl, h⟩ := h9
    refine xt_catch (name := "java/lang/IllegalStateException") C [] ⟨0, 8, 11, 13⟩ [] ht (fun z hz => nomatch hz) rfl (by decide) xcl_L_13 xca_IllegalStateException (fun q9 => ?_)
    show xV (gC D ca ad tF) p l e ({ frames := 8, cells := xgc S + 1, slots := xgs S + 6, locals := 130 }) s m args below meth c A 3 Z (1 + (xgc S - xgc S9)) (6 + (xgs S - xgs S9)) 11 [(0, .ref (ad 0)), (1, .ref (ad 98))] [.ref q9] S9
    refine xi_astore_n C (L' := [(2, .ref q9), (0, .ref (ad 0)), (1, .ref (ad 98))]) dL_verdict_11 rfl (by decide) rfl ?_
    refine xi_iconst C (v := 1) dL_verdict_12 rfl ?_
    exact xr_iY C hA hZ ha9 rfl hr hlocks rfl dL_verdict_13 (Nat.le_of_ble_eq_true rfl) (Nat.le_of_ble_eq_true rfl) hw9 ⟨_, rfl, (by decide), h⟩
  obtain ⟨r3, rfl, h_r3, h⟩ := h9
  refine xi_i2l C h_r3 dL_verdict_6 ?_
  refine xi_lastore C (q := 98) rfl (by decide) (by decide) dL_verdict_7 ?_
  have hw3 := xval.upJ (q := 98) (i := 0) (v := r3) hw1 rfl (xR_J h_r3)
  refine xi_goto C 14 dL_verdict_8 (by decide) ?_
  refine xi_iconst C (v := 0) dL_verdict_14 rfl ?_
  exact xr_iY C hA hZ ha2 ((congrFun (xup_cell (q' := 33) (by decide)) (-1)).trans rfl) hr hlocks rfl dL_verdict_15 (Nat.le_of_ble_eq_true rfl) (Nat.le_of_ble_eq_true rfl) hw3 ⟨_, rfl, (by decide), h⟩
set_option maxRecDepth 100000 in
set_option maxHeartbeats 4000000 in
theorem c_L_states (l : Launch) (D : va_G) (ca : Nat → ClassId) (ad : Nat → Nat) (tF : Nat)  (S : xS) (Q : Int → xS → Prop)  (h : w_L_states  S Q) (hl9 : l.stackTraces = false) : xMY l yL_states (xwsH yL_states cL_states 3 (some .int) [(0, 8, 11, 13)]) ({ frames := 8, cells := xgc S + 1, slots := xgs S + 6, locals := 130 }) (gC D ca ad tF) [.ref (ad 0), .ref (ad 98)] S (xQi Q) (fun _ _ => False) 1 6 := by
  refine xmH_of RL rfl (by decide +kernel) (Nat.le_of_ble_eq_true rfl) ?_
  intro p e s m args below meth c A Z R hR9 C hA hZ hr hlocks ht hw
  subst hR9
  unfold w_L_states at h
  show xV (gC D ca ad tF) p l e ({ frames := 8, cells := xgc S + 1, slots := xgs S + 6, locals := 130 }) s m args below meth c A 3 Z (0 + (xgc S - xgc S)) (0 + (xgs S - xgs S)) 0 [(0, .ref (ad 0)), (1, .ref (ad 98))] [] S
  refine xi_aload_n C 1 dL_states_0 rfl rfl ?_
  refine xi_iconst C (v := 0) dL_states_1 rfl ?_
  refine xi_aload_n C 0 dL_states_2 rfl rfl ?_
  refine xc_VY C hw (xAl.refl S) rfl rfl (c_X8_states l D ca ad tF S _ _ h hl9) xk_X8_states xv_X8_states xl_L_55 ⟨⟨Nat.le_of_ble_eq_true rfl, Nat.le_of_ble_eq_true rfl⟩, Nat.le_of_ble_eq_true rfl, Nat.le_of_ble_eq_true rfl⟩ xK_X8 (q := 0) rfl rfl rfl (Nat.le_of_ble_eq_true rfl) dL_states_3 (fun E9 S9 h9 hw9 ha9 => ?_) (fun r9 S3 h9 hw1 ha2 => ?_)
  · obtain ⟨rfl, h⟩ := h9
    refine xt_catch (name := "java/lang/IllegalStateException") C [] ⟨0, 8, 11, 13⟩ [] ht (fun z hz => nomatch hz) rfl (by decide) xcl_L_13 xca_IllegalStateException (fun q9 => ?_)
    show xV (gC D ca ad tF) p l e ({ frames := 8, cells := xgc S + 1, slots := xgs S + 6, locals := 130 }) s m args below meth c A 3 Z (1 + (xgc S - xgc S9)) (6 + (xgs S - xgs S9)) 11 [(0, .ref (ad 0)), (1, .ref (ad 98))] [.ref q9] S9
    refine xi_astore_n C (L' := [(2, .ref q9), (0, .ref (ad 0)), (1, .ref (ad 98))]) dL_states_11 rfl (by decide) rfl ?_
    refine xi_iconst C (v := 1) dL_states_12 rfl ?_
    exact xr_iY C hA hZ ha9 rfl hr hlocks rfl dL_states_13 (Nat.le_of_ble_eq_true rfl) (Nat.le_of_ble_eq_true rfl) hw9 ⟨_, rfl, (by decide), h⟩
  obtain ⟨r3, rfl, h_r3, h⟩ := h9
  refine xi_i2l C h_r3 dL_states_6 ?_
  refine xi_lastore C (q := 98) rfl (by decide) (by decide) dL_states_7 ?_
  have hw3 := xval.upJ (q := 98) (i := 0) (v := r3) hw1 rfl (xR_J h_r3)
  refine xi_goto C 14 dL_states_8 (by decide) ?_
  refine xi_iconst C (v := 0) dL_states_14 rfl ?_
  exact xr_iY C hA hZ ha2 ((congrFun (xup_cell (q' := 33) (by decide)) (-1)).trans rfl) hr hlocks rfl dL_states_15 (Nat.le_of_ble_eq_true rfl) (Nat.le_of_ble_eq_true rfl) hw3 ⟨_, rfl, (by decide), h⟩
set_option maxRecDepth 100000 in
set_option maxHeartbeats 4000000 in
theorem c_L_goneOn (l : Launch) (D : va_G) (ca : Nat → ClassId) (ad : Nat → Nat) (tF : Nat)  (S : xS) (Q : Int → xS → Prop)  (h : w_L_goneOn  S Q) (hl9 : l.stackTraces = false) : xMY l yL_goneOn (xwsH yL_goneOn cL_goneOn 3 (some .int) [(0, 8, 11, 13)]) ({ frames := 8, cells := xgc S + 1, slots := xgs S + 6, locals := 130 }) (gC D ca ad tF) [.ref (ad 0), .ref (ad 98)] S (xQi Q) (fun _ _ => False) 1 6 := by
  refine xmH_of RL rfl (by decide +kernel) (Nat.le_of_ble_eq_true rfl) ?_
  intro p e s m args below meth c A Z R hR9 C hA hZ hr hlocks ht hw
  subst hR9
  unfold w_L_goneOn at h
  show xV (gC D ca ad tF) p l e ({ frames := 8, cells := xgc S + 1, slots := xgs S + 6, locals := 130 }) s m args below meth c A 3 Z (0 + (xgc S - xgc S)) (0 + (xgs S - xgs S)) 0 [(0, .ref (ad 0)), (1, .ref (ad 98))] [] S
  refine xi_aload_n C 1 dL_goneOn_0 rfl rfl ?_
  refine xi_iconst C (v := 0) dL_goneOn_1 rfl ?_
  refine xi_aload_n C 0 dL_goneOn_2 rfl rfl ?_
  refine xc_VY C hw (xAl.refl S) rfl rfl (c_X8_goneOn l D ca ad tF S _ _ h hl9) xk_X8_goneOn xv_X8_goneOn xl_L_58 ⟨⟨Nat.le_of_ble_eq_true rfl, Nat.le_of_ble_eq_true rfl⟩, Nat.le_of_ble_eq_true rfl, Nat.le_of_ble_eq_true rfl⟩ xK_X8 (q := 0) rfl rfl rfl (Nat.le_of_ble_eq_true rfl) dL_goneOn_3 (fun E9 S9 h9 hw9 ha9 => ?_) (fun r9 S3 h9 hw1 ha2 => ?_)
  · obtain ⟨rfl, h⟩ := h9
    refine xt_catch (name := "java/lang/IllegalStateException") C [] ⟨0, 8, 11, 13⟩ [] ht (fun z hz => nomatch hz) rfl (by decide) xcl_L_13 xca_IllegalStateException (fun q9 => ?_)
    show xV (gC D ca ad tF) p l e ({ frames := 8, cells := xgc S + 1, slots := xgs S + 6, locals := 130 }) s m args below meth c A 3 Z (1 + (xgc S - xgc S9)) (6 + (xgs S - xgs S9)) 11 [(0, .ref (ad 0)), (1, .ref (ad 98))] [.ref q9] S9
    refine xi_astore_n C (L' := [(2, .ref q9), (0, .ref (ad 0)), (1, .ref (ad 98))]) dL_goneOn_11 rfl (by decide) rfl ?_
    refine xi_iconst C (v := 1) dL_goneOn_12 rfl ?_
    exact xr_iY C hA hZ ha9 rfl hr hlocks rfl dL_goneOn_13 (Nat.le_of_ble_eq_true rfl) (Nat.le_of_ble_eq_true rfl) hw9 ⟨_, rfl, (by decide), h⟩
  obtain ⟨r3, rfl, h_r3, h⟩ := h9
  refine xi_i2l C h_r3 dL_goneOn_6 ?_
  refine xi_lastore C (q := 98) rfl (by decide) (by decide) dL_goneOn_7 ?_
  have hw3 := xval.upJ (q := 98) (i := 0) (v := r3) hw1 rfl (xR_J h_r3)
  refine xi_goto C 14 dL_goneOn_8 (by decide) ?_
  refine xi_iconst C (v := 0) dL_goneOn_14 rfl ?_
  exact xr_iY C hA hZ ha2 ((congrFun (xup_cell (q' := 33) (by decide)) (-1)).trans rfl) hr hlocks rfl dL_goneOn_15 (Nat.le_of_ble_eq_true rfl) (Nat.le_of_ble_eq_true rfl) hw3 ⟨_, rfl, (by decide), h⟩
set_option maxRecDepth 100000 in
set_option maxHeartbeats 4000000 in
theorem c_L_codeOf (l : Launch) (D : va_G) (ca : Nat → ClassId) (ad : Nat → Nat) (tF : Nat) (a1 : Int) (S : xS) (Q : Int → xS → Prop) (h_a1 : xR a1) (h : w_L_codeOf a1 S Q) (hl9 : l.stackTraces = false) : xMY l yL_codeOf (xwsH yL_codeOf cL_codeOf 4 (some .int) [(0, 8, 11, 13), (0, 8, 14, 19)]) ({ frames := 8, cells := xgc S + 2, slots := xgs S + 12, locals := 132 }) (gC D ca ad tF) [.ref (ad 0), .int (iN a1), .ref (ad 98)] S (xQi Q) (fun _ _ => False) 2 12 := by
  refine xmH_of RL rfl (by decide +kernel) (Nat.le_of_ble_eq_true rfl) ?_
  intro p e s m args below meth c A Z R hR9 C hA hZ hr hlocks ht hw
  subst hR9
  unfold w_L_codeOf at h
  show xV (gC D ca ad tF) p l e ({ frames := 8, cells := xgc S + 2, slots := xgs S + 12, locals := 132 }) s m args below meth c A 4 Z (0 + (xgc S - xgc S)) (0 + (xgs S - xgs S)) 0 [(0, .ref (ad 0)), (1, .int (iN a1)), (2, .ref (ad 98))] [] S
  refine xi_aload_n C 2 dL_codeOf_0 rfl rfl ?_
  refine xi_iconst C (v := 0) dL_codeOf_1 rfl ?_
  refine xi_aload_n C 0 dL_codeOf_2 rfl rfl ?_
  refine xi_iload_n C 1 dL_codeOf_3 rfl rfl ?_
  refine xc_VY C hw (xAl.refl S) rfl rfl (c_X8_codeOf l D ca ad tF a1 S _ _ h_a1 h hl9) xk_X8_codeOf xv_X8_codeOf xl_L_61 ⟨⟨Nat.le_of_ble_eq_true rfl, Nat.le_of_ble_eq_true rfl⟩, Nat.le_of_ble_eq_true rfl, Nat.le_of_ble_eq_true rfl⟩ xK_X8 (q := 0) rfl rfl rfl (Nat.le_of_ble_eq_true rfl) dL_codeOf_4 (fun E9 S9 h9 hw9 ha9 => ?_) (fun r9 S4 h9 hw1 ha2 => ?_)
  · rcases h9 with ⟨rfl, h⟩ | ⟨rfl, h⟩
    · refine xt_catch (name := "java/lang/IllegalStateException") C [] ⟨0, 8, 11, 13⟩ [⟨0, 8, 14, 19⟩] ht (fun z hz => nomatch hz) rfl (by decide) xcl_L_13 xca_IllegalStateException (fun q9 => ?_)
      show xV (gC D ca ad tF) p l e ({ frames := 8, cells := xgc S + 2, slots := xgs S + 12, locals := 132 }) s m args below meth c A 4 Z (2 + (xgc S - xgc S9)) (12 + (xgs S - xgs S9)) 11 [(0, .ref (ad 0)), (1, .int (iN a1)), (2, .ref (ad 98))] [.ref q9] S9
      refine xi_astore_n C (L' := [(3, .ref q9), (0, .ref (ad 0)), (1, .int (iN a1)), (2, .ref (ad 98))]) dL_codeOf_11 rfl (by decide) rfl ?_
      refine xi_iconst C (v := 1) dL_codeOf_12 rfl ?_
      exact xr_iY C hA hZ ha9 rfl hr hlocks rfl dL_codeOf_13 (Nat.le_of_ble_eq_true rfl) (Nat.le_of_ble_eq_true rfl) hw9 ⟨_, rfl, (by decide), h⟩
    · refine xt_catch (name := "java/lang/IndexOutOfBoundsException") C [⟨0, 8, 11, 13⟩] ⟨0, 8, 14, 19⟩ [] ht (xpass (Or.inr ⟨by decide, _, xcl_L_13, C.2.2.2.2.2.2.2.2.1.2 ("java/lang/IndexOutOfBoundsException", "java/lang/IllegalStateException") (by decide +kernel)⟩) (fun z hz => nomatch hz)) rfl (by decide) xcl_L_19 xca_IndexOutOfBoundsException (fun q9 => ?_)
      show xV (gC D ca ad tF) p l e ({ frames := 8, cells := xgc S + 2, slots := xgs S + 12, locals := 132 }) s m args below meth c A 4 Z (2 + (xgc S - xgc S9)) (12 + (xgs S - xgs S9)) 14 [(0, .ref (ad 0)), (1, .int (iN a1)), (2, .ref (ad 98))] [.ref q9] S9
      refine xi_astore_n C (L' := [(3, .ref q9), (0, .ref (ad 0)), (1, .int (iN a1)), (2, .ref (ad 98))]) dL_codeOf_14 rfl (by decide) rfl ?_
      refine xi_iconst C (v := 2) dL_codeOf_15 rfl ?_
      exact xr_iY C hA hZ ha9 rfl hr hlocks rfl dL_codeOf_16 (Nat.le_of_ble_eq_true rfl) (Nat.le_of_ble_eq_true rfl) hw9 ⟨_, rfl, (by decide), h⟩
  obtain ⟨r4, rfl, h_r4, h⟩ := h9
  refine xi_lastore C (q := 98) rfl (by decide) (by decide) dL_codeOf_7 ?_
  have hw3 := xval.upJ (q := 98) (i := 0) (v := r4) hw1 rfl h_r4
  refine xi_goto C 17 dL_codeOf_8 (by decide) ?_
  refine xi_iconst C (v := 0) dL_codeOf_17 rfl ?_
  exact xr_iY C hA hZ ha2 ((congrFun (xup_cell (q' := 33) (by decide)) (-1)).trans rfl) hr hlocks rfl dL_codeOf_18 (Nat.le_of_ble_eq_true rfl) (Nat.le_of_ble_eq_true rfl) hw3 ⟨_, rfl, (by decide), h⟩
set_option maxRecDepth 100000 in
set_option maxHeartbeats 4000000 in
theorem c_L_moves (l : Launch) (D : va_G) (ca : Nat → ClassId) (ad : Nat → Nat) (tF : Nat) (a1 : Int) (S : xS) (Q : Int → xS → Prop) (h_a1 : xR a1) (h : w_L_moves a1 S Q) (hl9 : l.stackTraces = false) : xMY l yL_moves (xwsH yL_moves cL_moves 4 (some .int) [(0, 9, 12, 13), (0, 9, 15, 19)]) ({ frames := 8, cells := xgc S + 2, slots := xgs S + 12, locals := 157 }) (gC D ca ad tF) [.ref (ad 0), .int (iN a1), .ref (ad 98)] S (xQi Q) (fun _ _ => False) 2 12 := by
  refine xmH_of RL rfl (by decide +kernel) (Nat.le_of_ble_eq_true rfl) ?_
  intro p e s m args below meth c A Z R hR9 C hA hZ hr hlocks ht hw
  subst hR9
  unfold w_L_moves at h
  show xV (gC D ca ad tF) p l e ({ frames := 8, cells := xgc S + 2, slots := xgs S + 12, locals := 157 }) s m args below meth c A 4 Z (0 + (xgc S - xgc S)) (0 + (xgs S - xgs S)) 0 [(0, .ref (ad 0)), (1, .int (iN a1)), (2, .ref (ad 98))] [] S
  refine xi_aload_n C 2 dL_moves_0 rfl rfl ?_
  refine xi_iconst C (v := 0) dL_moves_1 rfl ?_
  refine xi_aload_n C 0 dL_moves_2 rfl rfl ?_
  refine xi_iload_n C 1 dL_moves_3 rfl rfl ?_
  refine xc_VY C hw (xAl.refl S) rfl rfl (c_X8_moves l D ca ad tF a1 S _ _ h_a1 h hl9) xk_X8_moves xv_X8_moves xl_L_65 ⟨⟨Nat.le_of_ble_eq_true rfl, Nat.le_of_ble_eq_true rfl⟩, Nat.le_of_ble_eq_true rfl, Nat.le_of_ble_eq_true rfl⟩ xK_X8 (q := 0) rfl rfl rfl (Nat.le_of_ble_eq_true rfl) dL_moves_4 (fun E9 S9 h9 hw9 ha9 => ?_) (fun r9 S4 h9 hw1 ha2 => ?_)
  · rcases h9 with ⟨rfl, h⟩ | ⟨rfl, h⟩
    · refine xt_catch (name := "java/lang/IllegalStateException") C [] ⟨0, 9, 12, 13⟩ [⟨0, 9, 15, 19⟩] ht (fun z hz => nomatch hz) rfl (by decide) xcl_L_13 xca_IllegalStateException (fun q9 => ?_)
      show xV (gC D ca ad tF) p l e ({ frames := 8, cells := xgc S + 2, slots := xgs S + 12, locals := 157 }) s m args below meth c A 4 Z (2 + (xgc S - xgc S9)) (12 + (xgs S - xgs S9)) 12 [(0, .ref (ad 0)), (1, .int (iN a1)), (2, .ref (ad 98))] [.ref q9] S9
      refine xi_astore_n C (L' := [(3, .ref q9), (0, .ref (ad 0)), (1, .int (iN a1)), (2, .ref (ad 98))]) dL_moves_12 rfl (by decide) rfl ?_
      refine xi_iconst C (v := 1) dL_moves_13 rfl ?_
      exact xr_iY C hA hZ ha9 rfl hr hlocks rfl dL_moves_14 (Nat.le_of_ble_eq_true rfl) (Nat.le_of_ble_eq_true rfl) hw9 ⟨_, rfl, (by decide), h⟩
    · refine xt_catch (name := "java/lang/IndexOutOfBoundsException") C [⟨0, 9, 12, 13⟩] ⟨0, 9, 15, 19⟩ [] ht (xpass (Or.inr ⟨by decide, _, xcl_L_13, C.2.2.2.2.2.2.2.2.1.2 ("java/lang/IndexOutOfBoundsException", "java/lang/IllegalStateException") (by decide +kernel)⟩) (fun z hz => nomatch hz)) rfl (by decide) xcl_L_19 xca_IndexOutOfBoundsException (fun q9 => ?_)
      show xV (gC D ca ad tF) p l e ({ frames := 8, cells := xgc S + 2, slots := xgs S + 12, locals := 157 }) s m args below meth c A 4 Z (2 + (xgc S - xgc S9)) (12 + (xgs S - xgs S9)) 15 [(0, .ref (ad 0)), (1, .int (iN a1)), (2, .ref (ad 98))] [.ref q9] S9
      refine xi_astore_n C (L' := [(3, .ref q9), (0, .ref (ad 0)), (1, .int (iN a1)), (2, .ref (ad 98))]) dL_moves_15 rfl (by decide) rfl ?_
      refine xi_iconst C (v := 2) dL_moves_16 rfl ?_
      exact xr_iY C hA hZ ha9 rfl hr hlocks rfl dL_moves_17 (Nat.le_of_ble_eq_true rfl) (Nat.le_of_ble_eq_true rfl) hw9 ⟨_, rfl, (by decide), h⟩
  obtain ⟨r4, rfl, h_r4, h⟩ := h9
  refine xi_i2l C h_r4 dL_moves_7 ?_
  refine xi_lastore C (q := 98) rfl (by decide) (by decide) dL_moves_8 ?_
  have hw3 := xval.upJ (q := 98) (i := 0) (v := r4) hw1 rfl (xR_J h_r4)
  refine xi_goto C 18 dL_moves_9 (by decide) ?_
  refine xi_iconst C (v := 0) dL_moves_18 rfl ?_
  exact xr_iY C hA hZ ha2 ((congrFun (xup_cell (q' := 33) (by decide)) (-1)).trans rfl) hr hlocks rfl dL_moves_19 (Nat.le_of_ble_eq_true rfl) (Nat.le_of_ble_eq_true rfl) hw3 ⟨_, rfl, (by decide), h⟩
set_option maxRecDepth 100000 in
set_option maxHeartbeats 4000000 in
theorem c_L_reached (l : Launch) (D : va_G) (ca : Nat → ClassId) (ad : Nat → Nat) (tF : Nat) (a1 : Int) (a2 : Int) (S : xS) (Q : Int → xS → Prop) (h_a1 : xR a1) (h_a2 : xR a2) (h : w_L_reached a1 a2 S Q) (hl9 : l.stackTraces = false) : xMY l yL_reached (xwsH yL_reached cL_reached 5 (some .int) [(0, 9, 12, 13), (0, 9, 16, 19), (0, 9, 20, 72)]) ({ frames := 8, cells := xgc S + 3, slots := xgs S + 18, locals := 159 }) (gC D ca ad tF) [.ref (ad 0), .int (iN a1), .int (iN a2), .ref (ad 98)] S (xQi Q) (fun _ _ => False) 3 18 := by
  refine xmH_of RL rfl (by decide +kernel) (Nat.le_of_ble_eq_true rfl) ?_
  intro p e s m args below meth c A Z R hR9 C hA hZ hr hlocks ht hw
  subst hR9
  unfold w_L_reached at h
  show xV (gC D ca ad tF) p l e ({ frames := 8, cells := xgc S + 3, slots := xgs S + 18, locals := 159 }) s m args below meth c A 5 Z (0 + (xgc S - xgc S)) (0 + (xgs S - xgs S)) 0 [(0, .ref (ad 0)), (1, .int (iN a1)), (2, .int (iN a2)), (3, .ref (ad 98))] [] S
  refine xi_aload_n C 3 dL_reached_0 rfl rfl ?_
  refine xi_iconst C (v := 0) dL_reached_1 rfl ?_
  refine xi_aload_n C 0 dL_reached_2 rfl rfl ?_
  refine xi_iload_n C 1 dL_reached_3 rfl rfl ?_
  refine xi_iload_n C 2 dL_reached_4 rfl rfl ?_
  refine xc_VY C hw (xAl.refl S) rfl rfl (c_X8_reached l D ca ad tF a1 a2 S _ _ h_a1 h_a2 h hl9) xk_X8_reached xv_X8_reached xl_L_68 ⟨⟨Nat.le_of_ble_eq_true rfl, Nat.le_of_ble_eq_true rfl⟩, Nat.le_of_ble_eq_true rfl, Nat.le_of_ble_eq_true rfl⟩ xK_X8 (q := 0) rfl rfl rfl (Nat.le_of_ble_eq_true rfl) dL_reached_5 (fun E9 S9 h9 hw9 ha9 => ?_) (fun r9 S5 h9 hw1 ha2 => ?_)
  · rcases h9 with ⟨rfl, h⟩ | ⟨rfl, h⟩ | ⟨rfl, h⟩
    · refine xt_catch (name := "java/lang/IllegalStateException") C [] ⟨0, 9, 12, 13⟩ [⟨0, 9, 16, 19⟩, ⟨0, 9, 20, 72⟩] ht (fun z hz => nomatch hz) rfl (by decide) xcl_L_13 xca_IllegalStateException (fun q9 => ?_)
      show xV (gC D ca ad tF) p l e ({ frames := 8, cells := xgc S + 3, slots := xgs S + 18, locals := 159 }) s m args below meth c A 5 Z (3 + (xgc S - xgc S9)) (18 + (xgs S - xgs S9)) 12 [(0, .ref (ad 0)), (1, .int (iN a1)), (2, .int (iN a2)), (3, .ref (ad 98))] [.ref q9] S9
      refine xi_astore C (L' := [(4, .ref q9), (0, .ref (ad 0)), (1, .int (iN a1)), (2, .int (iN a2)), (3, .ref (ad 98))]) dL_reached_12 (by decide) rfl ?_
      refine xi_iconst C (v := 1) dL_reached_14 rfl ?_
      exact xr_iY C hA hZ ha9 rfl hr hlocks rfl dL_reached_15 (Nat.le_of_ble_eq_true rfl) (Nat.le_of_ble_eq_true rfl) hw9 ⟨_, rfl, (by decide), h⟩
    · refine xt_catch (name := "java/lang/IndexOutOfBoundsException") C [⟨0, 9, 12, 13⟩] ⟨0, 9, 16, 19⟩ [⟨0, 9, 20, 72⟩] ht (xpass (Or.inr ⟨by decide, _, xcl_L_13, C.2.2.2.2.2.2.2.2.1.2 ("java/lang/IndexOutOfBoundsException", "java/lang/IllegalStateException") (by decide +kernel)⟩) (fun z hz => nomatch hz)) rfl (by decide) xcl_L_19 xca_IndexOutOfBoundsException (fun q9 => ?_)
      show xV (gC D ca ad tF) p l e ({ frames := 8, cells := xgc S + 3, slots := xgs S + 18, locals := 159 }) s m args below meth c A 5 Z (3 + (xgc S - xgc S9)) (18 + (xgs S - xgs S9)) 16 [(0, .ref (ad 0)), (1, .int (iN a1)), (2, .int (iN a2)), (3, .ref (ad 98))] [.ref q9] S9
      refine xi_astore C (L' := [(4, .ref q9), (0, .ref (ad 0)), (1, .int (iN a1)), (2, .int (iN a2)), (3, .ref (ad 98))]) dL_reached_16 (by decide) rfl ?_
      refine xi_iconst C (v := 2) dL_reached_18 rfl ?_
      exact xr_iY C hA hZ ha9 rfl hr hlocks rfl dL_reached_19 (Nat.le_of_ble_eq_true rfl) (Nat.le_of_ble_eq_true rfl) hw9 ⟨_, rfl, (by decide), h⟩
    · refine xt_catch (name := "java/util/NoSuchElementException") C [⟨0, 9, 12, 13⟩, ⟨0, 9, 16, 19⟩] ⟨0, 9, 20, 72⟩ [] ht (xpass (Or.inr ⟨by decide, _, xcl_L_13, C.2.2.2.2.2.2.2.2.1.2 ("java/util/NoSuchElementException", "java/lang/IllegalStateException") (by decide +kernel)⟩) (xpass (Or.inr ⟨by decide, _, xcl_L_19, C.2.2.2.2.2.2.2.2.1.2 ("java/util/NoSuchElementException", "java/lang/IndexOutOfBoundsException") (by decide +kernel)⟩) (fun z hz => nomatch hz))) rfl (by decide) xcl_L_72 xca_NoSuchElementException (fun q9 => ?_)
      show xV (gC D ca ad tF) p l e ({ frames := 8, cells := xgc S + 3, slots := xgs S + 18, locals := 159 }) s m args below meth c A 5 Z (3 + (xgc S - xgc S9)) (18 + (xgs S - xgs S9)) 20 [(0, .ref (ad 0)), (1, .int (iN a1)), (2, .int (iN a2)), (3, .ref (ad 98))] [.ref q9] S9
      refine xi_astore C (L' := [(4, .ref q9), (0, .ref (ad 0)), (1, .int (iN a1)), (2, .int (iN a2)), (3, .ref (ad 98))]) dL_reached_20 (by decide) rfl ?_
      refine xi_iconst C (v := 3) dL_reached_22 rfl ?_
      exact xr_iY C hA hZ ha9 rfl hr hlocks rfl dL_reached_23 (Nat.le_of_ble_eq_true rfl) (Nat.le_of_ble_eq_true rfl) hw9 ⟨_, rfl, (by decide), h⟩
  obtain ⟨r5, rfl, h_r5, h⟩ := h9
  refine xi_lastore C (q := 98) rfl (by decide) (by decide) dL_reached_8 ?_
  have hw3 := xval.upJ (q := 98) (i := 0) (v := r5) hw1 rfl h_r5
  refine xi_goto C 24 dL_reached_9 (by decide) ?_
  refine xi_iconst C (v := 0) dL_reached_24 rfl ?_
  exact xr_iY C hA hZ ha2 ((congrFun (xup_cell (q' := 33) (by decide)) (-1)).trans rfl) hr hlocks rfl dL_reached_25 (Nat.le_of_ble_eq_true rfl) (Nat.le_of_ble_eq_true rfl) hw3 ⟨_, rfl, (by decide), h⟩
set_option maxRecDepth 100000 in
set_option maxHeartbeats 4000000 in
theorem c_L_variableIn (l : Launch) (D : va_G) (ca : Nat → ClassId) (ad : Nat → Nat) (tF : Nat) (a1 : Int) (a2 : Int) (S : xS) (Q : Int → xS → Prop) (h_a1 : xR a1) (h_a2 : xR a2) (h : w_L_variableIn a1 a2 S Q) (hl9 : l.stackTraces = false) : xMY l yL_variableIn (xwsH yL_variableIn cL_variableIn 5 (some .int) [(0, 10, 13, 13), (0, 10, 17, 19), (0, 10, 21, 21)]) ({ frames := 8, cells := xgc S + 3, slots := xgs S + 18, locals := 133 }) (gC D ca ad tF) [.ref (ad 0), .int (iN a1), .int (iN a2), .ref (ad 98)] S (xQi Q) (fun _ _ => False) 3 18 := by
  refine xmH_of RL rfl (by decide +kernel) (Nat.le_of_ble_eq_true rfl) ?_
  intro p e s m args below meth c A Z R hR9 C hA hZ hr hlocks ht hw
  subst hR9
  unfold w_L_variableIn at h
  show xV (gC D ca ad tF) p l e ({ frames := 8, cells := xgc S + 3, slots := xgs S + 18, locals := 133 }) s m args below meth c A 5 Z (0 + (xgc S - xgc S)) (0 + (xgs S - xgs S)) 0 [(0, .ref (ad 0)), (1, .int (iN a1)), (2, .int (iN a2)), (3, .ref (ad 98))] [] S
  refine xi_aload_n C 3 dL_variableIn_0 rfl rfl ?_
  refine xi_iconst C (v := 0) dL_variableIn_1 rfl ?_
  refine xi_aload_n C 0 dL_variableIn_2 rfl rfl ?_
  refine xi_iload_n C 1 dL_variableIn_3 rfl rfl ?_
  refine xi_iload_n C 2 dL_variableIn_4 rfl rfl ?_
  refine xc_VY C hw (xAl.refl S) rfl rfl (c_X8_variableIn l D ca ad tF a1 a2 S _ _ h_a1 h_a2 h hl9) xk_X8_variableIn xv_X8_variableIn xl_L_74 ⟨⟨Nat.le_of_ble_eq_true rfl, Nat.le_of_ble_eq_true rfl⟩, Nat.le_of_ble_eq_true rfl, Nat.le_of_ble_eq_true rfl⟩ xK_X8 (q := 0) rfl rfl rfl (Nat.le_of_ble_eq_true rfl) dL_variableIn_5 (fun E9 S9 h9 hw9 ha9 => ?_) (fun r9 S5 h9 hw1 ha2 => ?_)
  · rcases h9 with ⟨rfl, h⟩ | ⟨rfl, h⟩ | ⟨rfl, h⟩
    · refine xt_catch (name := "java/lang/IllegalStateException") C [] ⟨0, 10, 13, 13⟩ [⟨0, 10, 17, 19⟩, ⟨0, 10, 21, 21⟩] ht (fun z hz => nomatch hz) rfl (by decide) xcl_L_13 xca_IllegalStateException (fun q9 => ?_)
      show xV (gC D ca ad tF) p l e ({ frames := 8, cells := xgc S + 3, slots := xgs S + 18, locals := 133 }) s m args below meth c A 5 Z (3 + (xgc S - xgc S9)) (18 + (xgs S - xgs S9)) 13 [(0, .ref (ad 0)), (1, .int (iN a1)), (2, .int (iN a2)), (3, .ref (ad 98))] [.ref q9] S9
      refine xi_astore C (L' := [(4, .ref q9), (0, .ref (ad 0)), (1, .int (iN a1)), (2, .int (iN a2)), (3, .ref (ad 98))]) dL_variableIn_13 (by decide) rfl ?_
      refine xi_iconst C (v := 1) dL_variableIn_15 rfl ?_
      exact xr_iY C hA hZ ha9 rfl hr hlocks rfl dL_variableIn_16 (Nat.le_of_ble_eq_true rfl) (Nat.le_of_ble_eq_true rfl) hw9 ⟨_, rfl, (by decide), h⟩
    · refine xt_catch (name := "java/lang/IndexOutOfBoundsException") C [⟨0, 10, 13, 13⟩] ⟨0, 10, 17, 19⟩ [⟨0, 10, 21, 21⟩] ht (xpass (Or.inr ⟨by decide, _, xcl_L_13, C.2.2.2.2.2.2.2.2.1.2 ("java/lang/IndexOutOfBoundsException", "java/lang/IllegalStateException") (by decide +kernel)⟩) (fun z hz => nomatch hz)) rfl (by decide) xcl_L_19 xca_IndexOutOfBoundsException (fun q9 => ?_)
      show xV (gC D ca ad tF) p l e ({ frames := 8, cells := xgc S + 3, slots := xgs S + 18, locals := 133 }) s m args below meth c A 5 Z (3 + (xgc S - xgc S9)) (18 + (xgs S - xgs S9)) 17 [(0, .ref (ad 0)), (1, .int (iN a1)), (2, .int (iN a2)), (3, .ref (ad 98))] [.ref q9] S9
      refine xi_astore C (L' := [(4, .ref q9), (0, .ref (ad 0)), (1, .int (iN a1)), (2, .int (iN a2)), (3, .ref (ad 98))]) dL_variableIn_17 (by decide) rfl ?_
      refine xi_iconst C (v := 2) dL_variableIn_19 rfl ?_
      exact xr_iY C hA hZ ha9 rfl hr hlocks rfl dL_variableIn_20 (Nat.le_of_ble_eq_true rfl) (Nat.le_of_ble_eq_true rfl) hw9 ⟨_, rfl, (by decide), h⟩
    · refine xt_catch (name := "java/lang/IllegalArgumentException") C [⟨0, 10, 13, 13⟩, ⟨0, 10, 17, 19⟩] ⟨0, 10, 21, 21⟩ [] ht (xpass (Or.inr ⟨by decide, _, xcl_L_13, C.2.2.2.2.2.2.2.2.1.2 ("java/lang/IllegalArgumentException", "java/lang/IllegalStateException") (by decide +kernel)⟩) (xpass (Or.inr ⟨by decide, _, xcl_L_19, C.2.2.2.2.2.2.2.2.1.2 ("java/lang/IllegalArgumentException", "java/lang/IndexOutOfBoundsException") (by decide +kernel)⟩) (fun z hz => nomatch hz))) rfl (by decide) xcl_L_21 xca_IllegalArgumentException (fun q9 => ?_)
      show xV (gC D ca ad tF) p l e ({ frames := 8, cells := xgc S + 3, slots := xgs S + 18, locals := 133 }) s m args below meth c A 5 Z (3 + (xgc S - xgc S9)) (18 + (xgs S - xgs S9)) 21 [(0, .ref (ad 0)), (1, .int (iN a1)), (2, .int (iN a2)), (3, .ref (ad 98))] [.ref q9] S9
      refine xi_astore C (L' := [(4, .ref q9), (0, .ref (ad 0)), (1, .int (iN a1)), (2, .int (iN a2)), (3, .ref (ad 98))]) dL_variableIn_21 (by decide) rfl ?_
      refine xi_iconst C (v := 3) dL_variableIn_23 rfl ?_
      exact xr_iY C hA hZ ha9 rfl hr hlocks rfl dL_variableIn_24 (Nat.le_of_ble_eq_true rfl) (Nat.le_of_ble_eq_true rfl) hw9 ⟨_, rfl, (by decide), h⟩
  obtain ⟨r5, rfl, h_r5, h⟩ := h9
  refine xi_i2l C h_r5 dL_variableIn_8 ?_
  refine xi_lastore C (q := 98) rfl (by decide) (by decide) dL_variableIn_9 ?_
  have hw3 := xval.upJ (q := 98) (i := 0) (v := r5) hw1 rfl (xR_J h_r5)
  refine xi_goto C 25 dL_variableIn_10 (by decide) ?_
  refine xi_iconst C (v := 0) dL_variableIn_25 rfl ?_
  exact xr_iY C hA hZ ha2 ((congrFun (xup_cell (q' := 33) (by decide)) (-1)).trans rfl) hr hlocks rfl dL_variableIn_26 (Nat.le_of_ble_eq_true rfl) (Nat.le_of_ble_eq_true rfl) hw3 ⟨_, rfl, (by decide), h⟩
set_option maxRecDepth 100000 in
set_option maxHeartbeats 4000000 in
theorem c_L_made (l : Launch) (D : va_G) (ca : Nat → ClassId) (ad : Nat → Nat) (tF : Nat)  (S : xS) (Q : Int → xS → Prop)  (h : w_L_made  S Q) (hl9 : l.stackTraces = false) : xMY l yL_made (xwsH yL_made cL_made 3 (some .int) [(0, 7, 10, 13)]) ({ frames := 8, cells := xgc S + 1, slots := xgs S + 6, locals := 130 }) (gC D ca ad tF) [.ref (ad 0), .ref (ad 98)] S (xQi Q) (fun _ _ => False) 1 6 := by
  refine xmH_of RL rfl (by decide +kernel) (Nat.le_of_ble_eq_true rfl) ?_
  intro p e s m args below meth c A Z R hR9 C hA hZ hr hlocks ht hw
  subst hR9
  unfold w_L_made at h
  show xV (gC D ca ad tF) p l e ({ frames := 8, cells := xgc S + 1, slots := xgs S + 6, locals := 130 }) s m args below meth c A 3 Z (0 + (xgc S - xgc S)) (0 + (xgs S - xgs S)) 0 [(0, .ref (ad 0)), (1, .ref (ad 98))] [] S
  refine xi_aload_n C 1 dL_made_0 rfl rfl ?_
  refine xi_iconst C (v := 0) dL_made_1 rfl ?_
  refine xi_aload_n C 0 dL_made_2 rfl rfl ?_
  refine xc_VY C hw (xAl.refl S) rfl rfl (c_X8_made l D ca ad tF S _ _ h hl9) xk_X8_made xv_X8_made xl_L_77 ⟨⟨Nat.le_of_ble_eq_true rfl, Nat.le_of_ble_eq_true rfl⟩, Nat.le_of_ble_eq_true rfl, Nat.le_of_ble_eq_true rfl⟩ xK_X8 (q := 0) rfl rfl rfl (Nat.le_of_ble_eq_true rfl) dL_made_3 (fun E9 S9 h9 hw9 ha9 => ?_) (fun r9 S3 h9 hw1 ha2 => ?_)
  · obtain ⟨rfl, h⟩ := h9
    refine xt_catch (name := "java/lang/IllegalStateException") C [] ⟨0, 7, 10, 13⟩ [] ht (fun z hz => nomatch hz) rfl (by decide) xcl_L_13 xca_IllegalStateException (fun q9 => ?_)
    show xV (gC D ca ad tF) p l e ({ frames := 8, cells := xgc S + 1, slots := xgs S + 6, locals := 130 }) s m args below meth c A 3 Z (1 + (xgc S - xgc S9)) (6 + (xgs S - xgs S9)) 10 [(0, .ref (ad 0)), (1, .ref (ad 98))] [.ref q9] S9
    refine xi_astore_n C (L' := [(2, .ref q9), (0, .ref (ad 0)), (1, .ref (ad 98))]) dL_made_10 rfl (by decide) rfl ?_
    refine xi_iconst C (v := 1) dL_made_11 rfl ?_
    exact xr_iY C hA hZ ha9 rfl hr hlocks rfl dL_made_12 (Nat.le_of_ble_eq_true rfl) (Nat.le_of_ble_eq_true rfl) hw9 ⟨_, rfl, (by decide), h⟩
  obtain ⟨r3, rfl, h_r3, h⟩ := h9
  refine xi_lastore C (q := 98) rfl (by decide) (by decide) dL_made_6 ?_
  have hw3 := xval.upJ (q := 98) (i := 0) (v := r3) hw1 rfl h_r3
  refine xi_goto C 13 dL_made_7 (by decide) ?_
  refine xi_iconst C (v := 0) dL_made_13 rfl ?_
  exact xr_iY C hA hZ ha2 ((congrFun (xup_cell (q' := 33) (by decide)) (-1)).trans rfl) hr hlocks rfl dL_made_14 (Nat.le_of_ble_eq_true rfl) (Nat.le_of_ble_eq_true rfl) hw3 ⟨_, rfl, (by decide), h⟩
set_option maxRecDepth 100000 in
set_option maxHeartbeats 4000000 in
theorem c_L_fault (l : Launch) (D : va_G) (ca : Nat → ClassId) (ad : Nat → Nat) (tF : Nat)  (S : xS) (Q : Int → xS → Prop)  (h : w_L_fault  S Q) (hl9 : l.stackTraces = false) : xMY l yL_fault (xwsH yL_fault cL_fault 3 (some .int) [(0, 8, 11, 13), (0, 8, 14, 72)]) ({ frames := 9, cells := xgc S + 2, slots := xgs S + 12, locals := 150 }) (gC D ca ad tF) [.ref (ad 0), .ref (ad 98)] S (xQi Q) (fun _ _ => False) 2 12 := by
  refine xmH_of RL rfl (by decide +kernel) (Nat.le_of_ble_eq_true rfl) ?_
  intro p e s m args below meth c A Z R hR9 C hA hZ hr hlocks ht hw
  subst hR9
  unfold w_L_fault at h
  show xV (gC D ca ad tF) p l e ({ frames := 9, cells := xgc S + 2, slots := xgs S + 12, locals := 150 }) s m args below meth c A 3 Z (0 + (xgc S - xgc S)) (0 + (xgs S - xgs S)) 0 [(0, .ref (ad 0)), (1, .ref (ad 98))] [] S
  refine xi_aload_n C 1 dL_fault_0 rfl rfl ?_
  refine xi_iconst C (v := 0) dL_fault_1 rfl ?_
  refine xi_aload_n C 0 dL_fault_2 rfl rfl ?_
  refine xc_VY C hw (xAl.refl S) rfl rfl (c_X8_fault l D ca ad tF S _ _ h hl9) xk_X8_fault xv_X8_fault xl_L_81 ⟨⟨Nat.le_of_ble_eq_true rfl, Nat.le_of_ble_eq_true rfl⟩, Nat.le_of_ble_eq_true rfl, Nat.le_of_ble_eq_true rfl⟩ xK_X8 (q := 0) rfl rfl rfl (Nat.le_of_ble_eq_true rfl) dL_fault_3 (fun E9 S9 h9 hw9 ha9 => ?_) (fun r9 S3 h9 hw1 ha2 => ?_)
  · rcases h9 with ⟨rfl, h⟩ | ⟨rfl, h⟩
    · refine xt_catch (name := "java/lang/IllegalStateException") C [] ⟨0, 8, 11, 13⟩ [⟨0, 8, 14, 72⟩] ht (fun z hz => nomatch hz) rfl (by decide) xcl_L_13 xca_IllegalStateException (fun q9 => ?_)
      show xV (gC D ca ad tF) p l e ({ frames := 9, cells := xgc S + 2, slots := xgs S + 12, locals := 150 }) s m args below meth c A 3 Z (2 + (xgc S - xgc S9)) (12 + (xgs S - xgs S9)) 11 [(0, .ref (ad 0)), (1, .ref (ad 98))] [.ref q9] S9
      refine xi_astore_n C (L' := [(2, .ref q9), (0, .ref (ad 0)), (1, .ref (ad 98))]) dL_fault_11 rfl (by decide) rfl ?_
      refine xi_iconst C (v := 1) dL_fault_12 rfl ?_
      exact xr_iY C hA hZ ha9 rfl hr hlocks rfl dL_fault_13 (Nat.le_of_ble_eq_true rfl) (Nat.le_of_ble_eq_true rfl) hw9 ⟨_, rfl, (by decide), h⟩
    · refine xt_catch (name := "java/util/NoSuchElementException") C [⟨0, 8, 11, 13⟩] ⟨0, 8, 14, 72⟩ [] ht (xpass (Or.inr ⟨by decide, _, xcl_L_13, C.2.2.2.2.2.2.2.2.1.2 ("java/util/NoSuchElementException", "java/lang/IllegalStateException") (by decide +kernel)⟩) (fun z hz => nomatch hz)) rfl (by decide) xcl_L_72 xca_NoSuchElementException (fun q9 => ?_)
      show xV (gC D ca ad tF) p l e ({ frames := 9, cells := xgc S + 2, slots := xgs S + 12, locals := 150 }) s m args below meth c A 3 Z (2 + (xgc S - xgc S9)) (12 + (xgs S - xgs S9)) 14 [(0, .ref (ad 0)), (1, .ref (ad 98))] [.ref q9] S9
      refine xi_astore_n C (L' := [(2, .ref q9), (0, .ref (ad 0)), (1, .ref (ad 98))]) dL_fault_14 rfl (by decide) rfl ?_
      refine xi_iconst C (v := 2) dL_fault_15 rfl ?_
      exact xr_iY C hA hZ ha9 rfl hr hlocks rfl dL_fault_16 (Nat.le_of_ble_eq_true rfl) (Nat.le_of_ble_eq_true rfl) hw9 ⟨_, rfl, (by decide), h⟩
  obtain ⟨r3, rfl, h_r3, h⟩ := h9
  refine xi_i2l C h_r3 dL_fault_6 ?_
  refine xi_lastore C (q := 98) rfl (by decide) (by decide) dL_fault_7 ?_
  have hw3 := xval.upJ (q := 98) (i := 0) (v := r3) hw1 rfl (xR_J h_r3)
  refine xi_goto C 17 dL_fault_8 (by decide) ?_
  refine xi_iconst C (v := 0) dL_fault_17 rfl ?_
  exact xr_iY C hA hZ ha2 ((congrFun (xup_cell (q' := 33) (by decide)) (-1)).trans rfl) hr hlocks rfl dL_fault_18 (Nat.le_of_ble_eq_true rfl) (Nat.le_of_ble_eq_true rfl) hw3 ⟨_, rfl, (by decide), h⟩
set_option maxRecDepth 100000 in
set_option maxHeartbeats 4000000 in
theorem c_L_traceLength (l : Launch) (D : va_G) (ca : Nat → ClassId) (ad : Nat → Nat) (tF : Nat)  (S : xS) (Q : Int → xS → Prop)  (h : w_L_traceLength  S Q) (hl9 : l.stackTraces = false) : xMY l yL_traceLength (xwsH yL_traceLength cL_traceLength 3 (some .int) [(0, 8, 11, 13), (0, 8, 14, 72)]) ({ frames := 9, cells := xgc S + 2, slots := xgs S + 12, locals := 150 }) (gC D ca ad tF) [.ref (ad 0), .ref (ad 98)] S (xQi Q) (fun _ _ => False) 2 12 := by
  refine xmH_of RL rfl (by decide +kernel) (Nat.le_of_ble_eq_true rfl) ?_
  intro p e s m args below meth c A Z R hR9 C hA hZ hr hlocks ht hw
  subst hR9
  unfold w_L_traceLength at h
  show xV (gC D ca ad tF) p l e ({ frames := 9, cells := xgc S + 2, slots := xgs S + 12, locals := 150 }) s m args below meth c A 3 Z (0 + (xgc S - xgc S)) (0 + (xgs S - xgs S)) 0 [(0, .ref (ad 0)), (1, .ref (ad 98))] [] S
  refine xi_aload_n C 1 dL_traceLength_0 rfl rfl ?_
  refine xi_iconst C (v := 0) dL_traceLength_1 rfl ?_
  refine xi_aload_n C 0 dL_traceLength_2 rfl rfl ?_
  refine xc_VY C hw (xAl.refl S) rfl rfl (c_X8_traceLength l D ca ad tF S _ _ h hl9) xk_X8_traceLength xv_X8_traceLength xl_L_84 ⟨⟨Nat.le_of_ble_eq_true rfl, Nat.le_of_ble_eq_true rfl⟩, Nat.le_of_ble_eq_true rfl, Nat.le_of_ble_eq_true rfl⟩ xK_X8 (q := 0) rfl rfl rfl (Nat.le_of_ble_eq_true rfl) dL_traceLength_3 (fun E9 S9 h9 hw9 ha9 => ?_) (fun r9 S3 h9 hw1 ha2 => ?_)
  · rcases h9 with ⟨rfl, h⟩ | ⟨rfl, h⟩
    · refine xt_catch (name := "java/lang/IllegalStateException") C [] ⟨0, 8, 11, 13⟩ [⟨0, 8, 14, 72⟩] ht (fun z hz => nomatch hz) rfl (by decide) xcl_L_13 xca_IllegalStateException (fun q9 => ?_)
      show xV (gC D ca ad tF) p l e ({ frames := 9, cells := xgc S + 2, slots := xgs S + 12, locals := 150 }) s m args below meth c A 3 Z (2 + (xgc S - xgc S9)) (12 + (xgs S - xgs S9)) 11 [(0, .ref (ad 0)), (1, .ref (ad 98))] [.ref q9] S9
      refine xi_astore_n C (L' := [(2, .ref q9), (0, .ref (ad 0)), (1, .ref (ad 98))]) dL_traceLength_11 rfl (by decide) rfl ?_
      refine xi_iconst C (v := 1) dL_traceLength_12 rfl ?_
      exact xr_iY C hA hZ ha9 rfl hr hlocks rfl dL_traceLength_13 (Nat.le_of_ble_eq_true rfl) (Nat.le_of_ble_eq_true rfl) hw9 ⟨_, rfl, (by decide), h⟩
    · refine xt_catch (name := "java/util/NoSuchElementException") C [⟨0, 8, 11, 13⟩] ⟨0, 8, 14, 72⟩ [] ht (xpass (Or.inr ⟨by decide, _, xcl_L_13, C.2.2.2.2.2.2.2.2.1.2 ("java/util/NoSuchElementException", "java/lang/IllegalStateException") (by decide +kernel)⟩) (fun z hz => nomatch hz)) rfl (by decide) xcl_L_72 xca_NoSuchElementException (fun q9 => ?_)
      show xV (gC D ca ad tF) p l e ({ frames := 9, cells := xgc S + 2, slots := xgs S + 12, locals := 150 }) s m args below meth c A 3 Z (2 + (xgc S - xgc S9)) (12 + (xgs S - xgs S9)) 14 [(0, .ref (ad 0)), (1, .ref (ad 98))] [.ref q9] S9
      refine xi_astore_n C (L' := [(2, .ref q9), (0, .ref (ad 0)), (1, .ref (ad 98))]) dL_traceLength_14 rfl (by decide) rfl ?_
      refine xi_iconst C (v := 2) dL_traceLength_15 rfl ?_
      exact xr_iY C hA hZ ha9 rfl hr hlocks rfl dL_traceLength_16 (Nat.le_of_ble_eq_true rfl) (Nat.le_of_ble_eq_true rfl) hw9 ⟨_, rfl, (by decide), h⟩
  obtain ⟨r3, rfl, h_r3, h⟩ := h9
  refine xi_i2l C h_r3 dL_traceLength_6 ?_
  refine xi_lastore C (q := 98) rfl (by decide) (by decide) dL_traceLength_7 ?_
  have hw3 := xval.upJ (q := 98) (i := 0) (v := r3) hw1 rfl (xR_J h_r3)
  refine xi_goto C 17 dL_traceLength_8 (by decide) ?_
  refine xi_iconst C (v := 0) dL_traceLength_17 rfl ?_
  exact xr_iY C hA hZ ha2 ((congrFun (xup_cell (q' := 33) (by decide)) (-1)).trans rfl) hr hlocks rfl dL_traceLength_18 (Nat.le_of_ble_eq_true rfl) (Nat.le_of_ble_eq_true rfl) hw3 ⟨_, rfl, (by decide), h⟩
set_option maxRecDepth 100000 in
set_option maxHeartbeats 4000000 in
theorem c_L_traceProcess (l : Launch) (D : va_G) (ca : Nat → ClassId) (ad : Nat → Nat) (tF : Nat) (a1 : Int) (S : xS) (Q : Int → xS → Prop) (h_a1 : xR a1) (h : w_L_traceProcess a1 S Q) (hl9 : l.stackTraces = false) : xMY l yL_traceProcess (xwsH yL_traceProcess cL_traceProcess 4 (some .int) [(0, 9, 12, 13), (0, 9, 15, 72), (0, 9, 18, 19)]) ({ frames := 9, cells := xgc S + 3, slots := xgs S + 18, locals := 151 }) (gC D ca ad tF) [.ref (ad 0), .int (iN a1), .ref (ad 98)] S (xQi Q) (fun _ _ => False) 3 18 := by
  refine xmH_of RL rfl (by decide +kernel) (Nat.le_of_ble_eq_true rfl) ?_
  intro p e s m args below meth c A Z R hR9 C hA hZ hr hlocks ht hw
  subst hR9
  unfold w_L_traceProcess at h
  show xV (gC D ca ad tF) p l e ({ frames := 9, cells := xgc S + 3, slots := xgs S + 18, locals := 151 }) s m args below meth c A 4 Z (0 + (xgc S - xgc S)) (0 + (xgs S - xgs S)) 0 [(0, .ref (ad 0)), (1, .int (iN a1)), (2, .ref (ad 98))] [] S
  refine xi_aload_n C 2 dL_traceProcess_0 rfl rfl ?_
  refine xi_iconst C (v := 0) dL_traceProcess_1 rfl ?_
  refine xi_aload_n C 0 dL_traceProcess_2 rfl rfl ?_
  refine xi_iload_n C 1 dL_traceProcess_3 rfl rfl ?_
  refine xc_VY C hw (xAl.refl S) rfl rfl (c_X8_traceProcess l D ca ad tF a1 S _ _ h_a1 h hl9) xk_X8_traceProcess xv_X8_traceProcess xl_L_87 ⟨⟨Nat.le_of_ble_eq_true rfl, Nat.le_of_ble_eq_true rfl⟩, Nat.le_of_ble_eq_true rfl, Nat.le_of_ble_eq_true rfl⟩ xK_X8 (q := 0) rfl rfl rfl (Nat.le_of_ble_eq_true rfl) dL_traceProcess_4 (fun E9 S9 h9 hw9 ha9 => ?_) (fun r9 S4 h9 hw1 ha2 => ?_)
  · rcases h9 with ⟨rfl, h⟩ | ⟨rfl, h⟩ | ⟨rfl, h⟩
    · refine xt_catch (name := "java/lang/IllegalStateException") C [] ⟨0, 9, 12, 13⟩ [⟨0, 9, 15, 72⟩, ⟨0, 9, 18, 19⟩] ht (fun z hz => nomatch hz) rfl (by decide) xcl_L_13 xca_IllegalStateException (fun q9 => ?_)
      show xV (gC D ca ad tF) p l e ({ frames := 9, cells := xgc S + 3, slots := xgs S + 18, locals := 151 }) s m args below meth c A 4 Z (3 + (xgc S - xgc S9)) (18 + (xgs S - xgs S9)) 12 [(0, .ref (ad 0)), (1, .int (iN a1)), (2, .ref (ad 98))] [.ref q9] S9
      refine xi_astore_n C (L' := [(3, .ref q9), (0, .ref (ad 0)), (1, .int (iN a1)), (2, .ref (ad 98))]) dL_traceProcess_12 rfl (by decide) rfl ?_
      refine xi_iconst C (v := 1) dL_traceProcess_13 rfl ?_
      exact xr_iY C hA hZ ha9 rfl hr hlocks rfl dL_traceProcess_14 (Nat.le_of_ble_eq_true rfl) (Nat.le_of_ble_eq_true rfl) hw9 ⟨_, rfl, (by decide), h⟩
    · refine xt_catch (name := "java/util/NoSuchElementException") C [⟨0, 9, 12, 13⟩] ⟨0, 9, 15, 72⟩ [⟨0, 9, 18, 19⟩] ht (xpass (Or.inr ⟨by decide, _, xcl_L_13, C.2.2.2.2.2.2.2.2.1.2 ("java/util/NoSuchElementException", "java/lang/IllegalStateException") (by decide +kernel)⟩) (fun z hz => nomatch hz)) rfl (by decide) xcl_L_72 xca_NoSuchElementException (fun q9 => ?_)
      show xV (gC D ca ad tF) p l e ({ frames := 9, cells := xgc S + 3, slots := xgs S + 18, locals := 151 }) s m args below meth c A 4 Z (3 + (xgc S - xgc S9)) (18 + (xgs S - xgs S9)) 15 [(0, .ref (ad 0)), (1, .int (iN a1)), (2, .ref (ad 98))] [.ref q9] S9
      refine xi_astore_n C (L' := [(3, .ref q9), (0, .ref (ad 0)), (1, .int (iN a1)), (2, .ref (ad 98))]) dL_traceProcess_15 rfl (by decide) rfl ?_
      refine xi_iconst C (v := 2) dL_traceProcess_16 rfl ?_
      exact xr_iY C hA hZ ha9 rfl hr hlocks rfl dL_traceProcess_17 (Nat.le_of_ble_eq_true rfl) (Nat.le_of_ble_eq_true rfl) hw9 ⟨_, rfl, (by decide), h⟩
    · refine xt_catch (name := "java/lang/IndexOutOfBoundsException") C [⟨0, 9, 12, 13⟩, ⟨0, 9, 15, 72⟩] ⟨0, 9, 18, 19⟩ [] ht (xpass (Or.inr ⟨by decide, _, xcl_L_13, C.2.2.2.2.2.2.2.2.1.2 ("java/lang/IndexOutOfBoundsException", "java/lang/IllegalStateException") (by decide +kernel)⟩) (xpass (Or.inr ⟨by decide, _, xcl_L_72, C.2.2.2.2.2.2.2.2.1.2 ("java/lang/IndexOutOfBoundsException", "java/util/NoSuchElementException") (by decide +kernel)⟩) (fun z hz => nomatch hz))) rfl (by decide) xcl_L_19 xca_IndexOutOfBoundsException (fun q9 => ?_)
      show xV (gC D ca ad tF) p l e ({ frames := 9, cells := xgc S + 3, slots := xgs S + 18, locals := 151 }) s m args below meth c A 4 Z (3 + (xgc S - xgc S9)) (18 + (xgs S - xgs S9)) 18 [(0, .ref (ad 0)), (1, .int (iN a1)), (2, .ref (ad 98))] [.ref q9] S9
      refine xi_astore_n C (L' := [(3, .ref q9), (0, .ref (ad 0)), (1, .int (iN a1)), (2, .ref (ad 98))]) dL_traceProcess_18 rfl (by decide) rfl ?_
      refine xi_iconst C (v := 3) dL_traceProcess_19 rfl ?_
      exact xr_iY C hA hZ ha9 rfl hr hlocks rfl dL_traceProcess_20 (Nat.le_of_ble_eq_true rfl) (Nat.le_of_ble_eq_true rfl) hw9 ⟨_, rfl, (by decide), h⟩
  obtain ⟨r4, rfl, h_r4, h⟩ := h9
  refine xi_i2l C h_r4 dL_traceProcess_7 ?_
  refine xi_lastore C (q := 98) rfl (by decide) (by decide) dL_traceProcess_8 ?_
  have hw3 := xval.upJ (q := 98) (i := 0) (v := r4) hw1 rfl (xR_J h_r4)
  refine xi_goto C 21 dL_traceProcess_9 (by decide) ?_
  refine xi_iconst C (v := 0) dL_traceProcess_21 rfl ?_
  exact xr_iY C hA hZ ha2 ((congrFun (xup_cell (q' := 33) (by decide)) (-1)).trans rfl) hr hlocks rfl dL_traceProcess_22 (Nat.le_of_ble_eq_true rfl) (Nat.le_of_ble_eq_true rfl) hw3 ⟨_, rfl, (by decide), h⟩
set_option maxRecDepth 100000 in
set_option maxHeartbeats 4000000 in
theorem c_L_traceStep (l : Launch) (D : va_G) (ca : Nat → ClassId) (ad : Nat → Nat) (tF : Nat) (a1 : Int) (S : xS) (Q : Int → xS → Prop) (h_a1 : xR a1) (h : w_L_traceStep a1 S Q) (hl9 : l.stackTraces = false) : xMY l yL_traceStep (xwsH yL_traceStep cL_traceStep 4 (some .int) [(0, 9, 12, 13), (0, 9, 15, 72), (0, 9, 18, 19)]) ({ frames := 9, cells := xgc S + 3, slots := xgs S + 18, locals := 151 }) (gC D ca ad tF) [.ref (ad 0), .int (iN a1), .ref (ad 98)] S (xQi Q) (fun _ _ => False) 3 18 := by
  refine xmH_of RL rfl (by decide +kernel) (Nat.le_of_ble_eq_true rfl) ?_
  intro p e s m args below meth c A Z R hR9 C hA hZ hr hlocks ht hw
  subst hR9
  unfold w_L_traceStep at h
  show xV (gC D ca ad tF) p l e ({ frames := 9, cells := xgc S + 3, slots := xgs S + 18, locals := 151 }) s m args below meth c A 4 Z (0 + (xgc S - xgc S)) (0 + (xgs S - xgs S)) 0 [(0, .ref (ad 0)), (1, .int (iN a1)), (2, .ref (ad 98))] [] S
  refine xi_aload_n C 2 dL_traceStep_0 rfl rfl ?_
  refine xi_iconst C (v := 0) dL_traceStep_1 rfl ?_
  refine xi_aload_n C 0 dL_traceStep_2 rfl rfl ?_
  refine xi_iload_n C 1 dL_traceStep_3 rfl rfl ?_
  refine xc_VY C hw (xAl.refl S) rfl rfl (c_X8_traceStep l D ca ad tF a1 S _ _ h_a1 h hl9) xk_X8_traceStep xv_X8_traceStep xl_L_90 ⟨⟨Nat.le_of_ble_eq_true rfl, Nat.le_of_ble_eq_true rfl⟩, Nat.le_of_ble_eq_true rfl, Nat.le_of_ble_eq_true rfl⟩ xK_X8 (q := 0) rfl rfl rfl (Nat.le_of_ble_eq_true rfl) dL_traceStep_4 (fun E9 S9 h9 hw9 ha9 => ?_) (fun r9 S4 h9 hw1 ha2 => ?_)
  · rcases h9 with ⟨rfl, h⟩ | ⟨rfl, h⟩ | ⟨rfl, h⟩
    · refine xt_catch (name := "java/lang/IllegalStateException") C [] ⟨0, 9, 12, 13⟩ [⟨0, 9, 15, 72⟩, ⟨0, 9, 18, 19⟩] ht (fun z hz => nomatch hz) rfl (by decide) xcl_L_13 xca_IllegalStateException (fun q9 => ?_)
      show xV (gC D ca ad tF) p l e ({ frames := 9, cells := xgc S + 3, slots := xgs S + 18, locals := 151 }) s m args below meth c A 4 Z (3 + (xgc S - xgc S9)) (18 + (xgs S - xgs S9)) 12 [(0, .ref (ad 0)), (1, .int (iN a1)), (2, .ref (ad 98))] [.ref q9] S9
      refine xi_astore_n C (L' := [(3, .ref q9), (0, .ref (ad 0)), (1, .int (iN a1)), (2, .ref (ad 98))]) dL_traceStep_12 rfl (by decide) rfl ?_
      refine xi_iconst C (v := 1) dL_traceStep_13 rfl ?_
      exact xr_iY C hA hZ ha9 rfl hr hlocks rfl dL_traceStep_14 (Nat.le_of_ble_eq_true rfl) (Nat.le_of_ble_eq_true rfl) hw9 ⟨_, rfl, (by decide), h⟩
    · refine xt_catch (name := "java/util/NoSuchElementException") C [⟨0, 9, 12, 13⟩] ⟨0, 9, 15, 72⟩ [⟨0, 9, 18, 19⟩] ht (xpass (Or.inr ⟨by decide, _, xcl_L_13, C.2.2.2.2.2.2.2.2.1.2 ("java/util/NoSuchElementException", "java/lang/IllegalStateException") (by decide +kernel)⟩) (fun z hz => nomatch hz)) rfl (by decide) xcl_L_72 xca_NoSuchElementException (fun q9 => ?_)
      show xV (gC D ca ad tF) p l e ({ frames := 9, cells := xgc S + 3, slots := xgs S + 18, locals := 151 }) s m args below meth c A 4 Z (3 + (xgc S - xgc S9)) (18 + (xgs S - xgs S9)) 15 [(0, .ref (ad 0)), (1, .int (iN a1)), (2, .ref (ad 98))] [.ref q9] S9
      refine xi_astore_n C (L' := [(3, .ref q9), (0, .ref (ad 0)), (1, .int (iN a1)), (2, .ref (ad 98))]) dL_traceStep_15 rfl (by decide) rfl ?_
      refine xi_iconst C (v := 2) dL_traceStep_16 rfl ?_
      exact xr_iY C hA hZ ha9 rfl hr hlocks rfl dL_traceStep_17 (Nat.le_of_ble_eq_true rfl) (Nat.le_of_ble_eq_true rfl) hw9 ⟨_, rfl, (by decide), h⟩
    · refine xt_catch (name := "java/lang/IndexOutOfBoundsException") C [⟨0, 9, 12, 13⟩, ⟨0, 9, 15, 72⟩] ⟨0, 9, 18, 19⟩ [] ht (xpass (Or.inr ⟨by decide, _, xcl_L_13, C.2.2.2.2.2.2.2.2.1.2 ("java/lang/IndexOutOfBoundsException", "java/lang/IllegalStateException") (by decide +kernel)⟩) (xpass (Or.inr ⟨by decide, _, xcl_L_72, C.2.2.2.2.2.2.2.2.1.2 ("java/lang/IndexOutOfBoundsException", "java/util/NoSuchElementException") (by decide +kernel)⟩) (fun z hz => nomatch hz))) rfl (by decide) xcl_L_19 xca_IndexOutOfBoundsException (fun q9 => ?_)
      show xV (gC D ca ad tF) p l e ({ frames := 9, cells := xgc S + 3, slots := xgs S + 18, locals := 151 }) s m args below meth c A 4 Z (3 + (xgc S - xgc S9)) (18 + (xgs S - xgs S9)) 18 [(0, .ref (ad 0)), (1, .int (iN a1)), (2, .ref (ad 98))] [.ref q9] S9
      refine xi_astore_n C (L' := [(3, .ref q9), (0, .ref (ad 0)), (1, .int (iN a1)), (2, .ref (ad 98))]) dL_traceStep_18 rfl (by decide) rfl ?_
      refine xi_iconst C (v := 3) dL_traceStep_19 rfl ?_
      exact xr_iY C hA hZ ha9 rfl hr hlocks rfl dL_traceStep_20 (Nat.le_of_ble_eq_true rfl) (Nat.le_of_ble_eq_true rfl) hw9 ⟨_, rfl, (by decide), h⟩
  obtain ⟨r4, rfl, h_r4, h⟩ := h9
  refine xi_i2l C h_r4 dL_traceStep_7 ?_
  refine xi_lastore C (q := 98) rfl (by decide) (by decide) dL_traceStep_8 ?_
  have hw3 := xval.upJ (q := 98) (i := 0) (v := r4) hw1 rfl (xR_J h_r4)
  refine xi_goto C 21 dL_traceStep_9 (by decide) ?_
  refine xi_iconst C (v := 0) dL_traceStep_21 rfl ?_
  exact xr_iY C hA hZ ha2 ((congrFun (xup_cell (q' := 33) (by decide)) (-1)).trans rfl) hr hlocks rfl dL_traceStep_22 (Nat.le_of_ble_eq_true rfl) (Nat.le_of_ble_eq_true rfl) hw3 ⟨_, rfl, (by decide), h⟩
set_option maxRecDepth 100000 in
set_option maxHeartbeats 4000000 in
theorem c_L_replays (l : Launch) (D : va_G) (ca : Nat → ClassId) (ad : Nat → Nat) (tF : Nat)  (S : xS) (Q : Int → xS → Prop)  (h : w_L_replays  S Q) (hl9 : l.stackTraces = false) : xMY l yL_replays (xwsH yL_replays cL_replays 3 (some .int) [(0, 15, 18, 13), (0, 15, 21, 72)]) ({ frames := 9, cells := xgc S + 2, slots := xgs S + 12, locals := 150 }) (gC D ca ad tF) [.ref (ad 0), .ref (ad 98)] S (xQi Q) (fun _ _ => False) 2 12 := by
  refine xmH_of RL rfl (by decide +kernel) (Nat.le_of_ble_eq_true rfl) ?_
  intro p e s m args below meth c A Z R hR9 C hA hZ hr hlocks ht hw
  subst hR9
  unfold w_L_replays at h
  show xV (gC D ca ad tF) p l e ({ frames := 9, cells := xgc S + 2, slots := xgs S + 12, locals := 150 }) s m args below meth c A 3 Z (0 + (xgc S - xgc S)) (0 + (xgs S - xgs S)) 0 [(0, .ref (ad 0)), (1, .ref (ad 98))] [] S
  refine xi_aload_n C 1 dL_replays_0 rfl rfl ?_
  refine xi_iconst C (v := 0) dL_replays_1 rfl ?_
  refine xi_aload_n C 0 dL_replays_2 rfl rfl ?_
  refine xc_VY C hw (xAl.refl S) rfl rfl (c_X8_replays l D ca ad tF S _ _ h hl9) xk_X8_replays xv_X8_replays xl_L_93 ⟨⟨Nat.le_of_ble_eq_true rfl, Nat.le_of_ble_eq_true rfl⟩, Nat.le_of_ble_eq_true rfl, Nat.le_of_ble_eq_true rfl⟩ xK_X8 (q := 0) rfl rfl rfl (Nat.le_of_ble_eq_true rfl) dL_replays_3 (fun E9 S9 h9 hw9 ha9 => ?_) (fun r9 S3 h9 hw1 ha2 => ?_)
  · rcases h9 with ⟨rfl, h⟩ | ⟨rfl, h⟩
    · refine xt_catch (name := "java/lang/IllegalStateException") C [] ⟨0, 15, 18, 13⟩ [⟨0, 15, 21, 72⟩] ht (fun z hz => nomatch hz) rfl (by decide) xcl_L_13 xca_IllegalStateException (fun q9 => ?_)
      show xV (gC D ca ad tF) p l e ({ frames := 9, cells := xgc S + 2, slots := xgs S + 12, locals := 150 }) s m args below meth c A 3 Z (2 + (xgc S - xgc S9)) (12 + (xgs S - xgs S9)) 18 [(0, .ref (ad 0)), (1, .ref (ad 98))] [.ref q9] S9
      refine xi_astore_n C (L' := [(2, .ref q9), (0, .ref (ad 0)), (1, .ref (ad 98))]) dL_replays_18 rfl (by decide) rfl ?_
      refine xi_iconst C (v := 1) dL_replays_19 rfl ?_
      exact xr_iY C hA hZ ha9 rfl hr hlocks rfl dL_replays_20 (Nat.le_of_ble_eq_true rfl) (Nat.le_of_ble_eq_true rfl) hw9 ⟨_, rfl, (by decide), h⟩
    · refine xt_catch (name := "java/util/NoSuchElementException") C [⟨0, 15, 18, 13⟩] ⟨0, 15, 21, 72⟩ [] ht (xpass (Or.inr ⟨by decide, _, xcl_L_13, C.2.2.2.2.2.2.2.2.1.2 ("java/util/NoSuchElementException", "java/lang/IllegalStateException") (by decide +kernel)⟩) (fun z hz => nomatch hz)) rfl (by decide) xcl_L_72 xca_NoSuchElementException (fun q9 => ?_)
      show xV (gC D ca ad tF) p l e ({ frames := 9, cells := xgc S + 2, slots := xgs S + 12, locals := 150 }) s m args below meth c A 3 Z (2 + (xgc S - xgc S9)) (12 + (xgs S - xgs S9)) 21 [(0, .ref (ad 0)), (1, .ref (ad 98))] [.ref q9] S9
      refine xi_astore_n C (L' := [(2, .ref q9), (0, .ref (ad 0)), (1, .ref (ad 98))]) dL_replays_21 rfl (by decide) rfl ?_
      refine xi_iconst C (v := 2) dL_replays_22 rfl ?_
      exact xr_iY C hA hZ ha9 rfl hr hlocks rfl dL_replays_23 (Nat.le_of_ble_eq_true rfl) (Nat.le_of_ble_eq_true rfl) hw9 ⟨_, rfl, (by decide), h⟩
  obtain ⟨r3, rfl, h_r3, h⟩ := h9
  refine xi_if_eq C 13 h_r3 dL_replays_6 (by decide) (fun z3 => ?_) (fun z3 => ?_)
  · replace h := h.1 z3
    refine xi_lconst C (v := 0) dL_replays_13 (by decide +kernel) ?_
    refine xi_lastore C (q := 98) rfl (by decide) (by decide) dL_replays_14 ?_
    have hw4 := xval.upJ (q := 98) (i := 0) (v := 0) hw1 rfl (by decide)
    refine xi_goto C 24 dL_replays_15 (by decide) ?_
    refine xi_iconst C (v := 0) dL_replays_24 rfl ?_
    exact xr_iY C hA hZ ha2 ((congrFun (xup_cell (q' := 33) (by decide)) (-1)).trans rfl) hr hlocks rfl dL_replays_25 (Nat.le_of_ble_eq_true rfl) (Nat.le_of_ble_eq_true rfl) hw4 ⟨_, rfl, (by decide), h⟩
  · replace h := h.2 z3
    refine xi_lconst C (v := 1) dL_replays_9 (by decide +kernel) ?_
    refine xi_goto C 14 dL_replays_10 (by decide) ?_
    refine xi_lastore C (q := 98) rfl (by decide) (by decide) dL_replays_14 ?_
    have hw5 := xval.upJ (q := 98) (i := 0) (v := 1) hw1 rfl (by decide)
    refine xi_goto C 24 dL_replays_15 (by decide) ?_
    refine xi_iconst C (v := 0) dL_replays_24 rfl ?_
    exact xr_iY C hA hZ ha2 ((congrFun (xup_cell (q' := 33) (by decide)) (-1)).trans rfl) hr hlocks rfl dL_replays_25 (Nat.le_of_ble_eq_true rfl) (Nat.le_of_ble_eq_true rfl) hw5 ⟨_, rfl, (by decide), h⟩
set_option maxRecDepth 100000 in
set_option maxHeartbeats 4000000 in
theorem c_L_recurs (l : Launch) (D : va_G) (ca : Nat → ClassId) (ad : Nat → Nat) (tF : Nat) (a1 : Int) (a2 : Int) (a3 : Int) (S : xS) (Q : Int → xS → Prop) (h_a1 : xR a1) (h_a2 : xR a2) (h_a3 : xR a3) (h : w_L_recurs a1 a2 a3 S Q) (hl9 : l.stackTraces = false) : xMY l yL_recurs (xwsH yL_recurs cL_recurs 6 (some .int) [(0, 19, 22, 21), (0, 19, 26, 13)]) ({ frames := 8, cells := xgc S + 3, slots := xgs S + 18, locals := 176 }) (gC D ca ad tF) [.ref (ad 0), .int (iN a1), .int (iN a2), .int (iN a3), .ref (ad 98)] S (xQi Q) (fun _ _ => False) 3 18 := by
  refine xmH_of RL rfl (by decide +kernel) (Nat.le_of_ble_eq_true rfl) ?_
  intro p e s m args below meth c A Z R hR9 C hA hZ hr hlocks ht hw
  subst hR9
  unfold w_L_recurs at h
  show xV (gC D ca ad tF) p l e ({ frames := 8, cells := xgc S + 3, slots := xgs S + 18, locals := 176 }) s m args below meth c A 6 Z (0 + (xgc S - xgc S)) (0 + (xgs S - xgs S)) 0 [(0, .ref (ad 0)), (1, .int (iN a1)), (2, .int (iN a2)), (3, .int (iN a3)), (4, .ref (ad 98))] [] S
  refine xi_aload C 4 dL_recurs_0 rfl ?_
  refine xi_iconst C (v := 0) dL_recurs_2 rfl ?_
  refine xi_aload_n C 0 dL_recurs_3 rfl rfl ?_
  refine xi_iload_n C 1 dL_recurs_4 rfl rfl ?_
  refine xi_iload_n C 2 dL_recurs_5 rfl rfl ?_
  refine xi_iload_n C 3 dL_recurs_6 rfl rfl ?_
  refine xc_VY C hw (xAl.refl S) rfl rfl (c_X8_recurs l D ca ad tF a1 a2 a3 S _ _ h_a1 h_a2 h_a3 h hl9) xk_X8_recurs xv_X8_recurs xl_L_97 ⟨⟨Nat.le_of_ble_eq_true rfl, Nat.le_of_ble_eq_true rfl⟩, Nat.le_of_ble_eq_true rfl, Nat.le_of_ble_eq_true rfl⟩ xK_X8 (q := 0) rfl rfl rfl (Nat.le_of_ble_eq_true rfl) dL_recurs_7 (fun E9 S9 h9 hw9 ha9 => ?_) (fun r9 S7 h9 hw1 ha2 => ?_)
  · rcases h9 with ⟨rfl, h⟩ | ⟨rfl, h⟩
    · refine xt_catch (name := "java/lang/IllegalArgumentException") C [] ⟨0, 19, 22, 21⟩ [⟨0, 19, 26, 13⟩] ht (fun z hz => nomatch hz) rfl (by decide) xcl_L_21 xca_IllegalArgumentException (fun q9 => ?_)
      show xV (gC D ca ad tF) p l e ({ frames := 8, cells := xgc S + 3, slots := xgs S + 18, locals := 176 }) s m args below meth c A 6 Z (3 + (xgc S - xgc S9)) (18 + (xgs S - xgs S9)) 22 [(0, .ref (ad 0)), (1, .int (iN a1)), (2, .int (iN a2)), (3, .int (iN a3)), (4, .ref (ad 98))] [.ref q9] S9
      refine xi_astore C (L' := [(5, .ref q9), (0, .ref (ad 0)), (1, .int (iN a1)), (2, .int (iN a2)), (3, .int (iN a3)), (4, .ref (ad 98))]) dL_recurs_22 (by decide) rfl ?_
      refine xi_iconst C (v := 1) dL_recurs_24 rfl ?_
      exact xr_iY C hA hZ ha9 rfl hr hlocks rfl dL_recurs_25 (Nat.le_of_ble_eq_true rfl) (Nat.le_of_ble_eq_true rfl) hw9 ⟨_, rfl, (by decide), h⟩
    · refine xt_catch (name := "java/lang/IllegalStateException") C [⟨0, 19, 22, 21⟩] ⟨0, 19, 26, 13⟩ [] ht (xpass (Or.inr ⟨by decide, _, xcl_L_21, C.2.2.2.2.2.2.2.2.1.2 ("java/lang/IllegalStateException", "java/lang/IllegalArgumentException") (by decide +kernel)⟩) (fun z hz => nomatch hz)) rfl (by decide) xcl_L_13 xca_IllegalStateException (fun q9 => ?_)
      show xV (gC D ca ad tF) p l e ({ frames := 8, cells := xgc S + 3, slots := xgs S + 18, locals := 176 }) s m args below meth c A 6 Z (3 + (xgc S - xgc S9)) (18 + (xgs S - xgs S9)) 26 [(0, .ref (ad 0)), (1, .int (iN a1)), (2, .int (iN a2)), (3, .int (iN a3)), (4, .ref (ad 98))] [.ref q9] S9
      refine xi_astore C (L' := [(5, .ref q9), (0, .ref (ad 0)), (1, .int (iN a1)), (2, .int (iN a2)), (3, .int (iN a3)), (4, .ref (ad 98))]) dL_recurs_26 (by decide) rfl ?_
      refine xi_iconst C (v := 2) dL_recurs_28 rfl ?_
      exact xr_iY C hA hZ ha9 rfl hr hlocks rfl dL_recurs_29 (Nat.le_of_ble_eq_true rfl) (Nat.le_of_ble_eq_true rfl) hw9 ⟨_, rfl, (by decide), h⟩
  obtain ⟨r7, rfl, h_r7, h⟩ := h9
  refine xi_if_eq C 17 h_r7 dL_recurs_10 (by decide) (fun z3 => ?_) (fun z3 => ?_)
  · replace h := h.1 z3
    refine xi_lconst C (v := 0) dL_recurs_17 (by decide +kernel) ?_
    refine xi_lastore C (q := 98) rfl (by decide) (by decide) dL_recurs_18 ?_
    have hw4 := xval.upJ (q := 98) (i := 0) (v := 0) hw1 rfl (by decide)
    refine xi_goto C 30 dL_recurs_19 (by decide) ?_
    refine xi_iconst C (v := 0) dL_recurs_30 rfl ?_
    exact xr_iY C hA hZ ha2 ((congrFun (xup_cell (q' := 33) (by decide)) (-1)).trans rfl) hr hlocks rfl dL_recurs_31 (Nat.le_of_ble_eq_true rfl) (Nat.le_of_ble_eq_true rfl) hw4 ⟨_, rfl, (by decide), h⟩
  · replace h := h.2 z3
    refine xi_lconst C (v := 1) dL_recurs_13 (by decide +kernel) ?_
    refine xi_goto C 18 dL_recurs_14 (by decide) ?_
    refine xi_lastore C (q := 98) rfl (by decide) (by decide) dL_recurs_18 ?_
    have hw5 := xval.upJ (q := 98) (i := 0) (v := 1) hw1 rfl (by decide)
    refine xi_goto C 30 dL_recurs_19 (by decide) ?_
    refine xi_iconst C (v := 0) dL_recurs_30 rfl ?_
    exact xr_iY C hA hZ ha2 ((congrFun (xup_cell (q' := 33) (by decide)) (-1)).trans rfl) hr hlocks rfl dL_recurs_31 (Nat.le_of_ble_eq_true rfl) (Nat.le_of_ble_eq_true rfl) hw5 ⟨_, rfl, (by decide), h⟩
set_option maxRecDepth 100000 in
set_option maxHeartbeats 4000000 in
theorem c_L_recursByTaking (l : Launch) (D : va_G) (ca : Nat → ClassId) (ad : Nat → Nat) (tF : Nat) (a1 : Int) (a2 : Int) (S : xS) (Q : Int → xS → Prop) (h_a1 : xR a1) (h_a2 : xR a2) (h : w_L_recursByTaking a1 a2 S Q) (hl9 : l.stackTraces = false) : xMY l yL_recursByTaking (xwsH yL_recursByTaking cL_recursByTaking 5 (some .int) [(0, 17, 20, 21), (0, 17, 24, 13)]) ({ frames := 8, cells := xgc S + 3, slots := xgs S + 18, locals := 132 }) (gC D ca ad tF) [.ref (ad 0), .int (iN a1), .int (iN a2), .ref (ad 98)] S (xQi Q) (fun _ _ => False) 3 18 := by
  refine xmH_of RL rfl (by decide +kernel) (Nat.le_of_ble_eq_true rfl) ?_
  intro p e s m args below meth c A Z R hR9 C hA hZ hr hlocks ht hw
  subst hR9
  unfold w_L_recursByTaking at h
  show xV (gC D ca ad tF) p l e ({ frames := 8, cells := xgc S + 3, slots := xgs S + 18, locals := 132 }) s m args below meth c A 5 Z (0 + (xgc S - xgc S)) (0 + (xgs S - xgs S)) 0 [(0, .ref (ad 0)), (1, .int (iN a1)), (2, .int (iN a2)), (3, .ref (ad 98))] [] S
  refine xi_aload_n C 3 dL_recursByTaking_0 rfl rfl ?_
  refine xi_iconst C (v := 0) dL_recursByTaking_1 rfl ?_
  refine xi_aload_n C 0 dL_recursByTaking_2 rfl rfl ?_
  refine xi_iload_n C 1 dL_recursByTaking_3 rfl rfl ?_
  refine xi_iload_n C 2 dL_recursByTaking_4 rfl rfl ?_
  refine xc_VY C hw (xAl.refl S) rfl rfl (c_X8_recursByTaking l D ca ad tF a1 a2 S _ _ h_a1 h_a2 h hl9) xk_X8_recursByTaking xv_X8_recursByTaking xl_L_101 ⟨⟨Nat.le_of_ble_eq_true rfl, Nat.le_of_ble_eq_true rfl⟩, Nat.le_of_ble_eq_true rfl, Nat.le_of_ble_eq_true rfl⟩ xK_X8 (q := 0) rfl rfl rfl (Nat.le_of_ble_eq_true rfl) dL_recursByTaking_5 (fun E9 S9 h9 hw9 ha9 => ?_) (fun r9 S5 h9 hw1 ha2 => ?_)
  · rcases h9 with ⟨rfl, h⟩ | ⟨rfl, h⟩
    · refine xt_catch (name := "java/lang/IllegalArgumentException") C [] ⟨0, 17, 20, 21⟩ [⟨0, 17, 24, 13⟩] ht (fun z hz => nomatch hz) rfl (by decide) xcl_L_21 xca_IllegalArgumentException (fun q9 => ?_)
      show xV (gC D ca ad tF) p l e ({ frames := 8, cells := xgc S + 3, slots := xgs S + 18, locals := 132 }) s m args below meth c A 5 Z (3 + (xgc S - xgc S9)) (18 + (xgs S - xgs S9)) 20 [(0, .ref (ad 0)), (1, .int (iN a1)), (2, .int (iN a2)), (3, .ref (ad 98))] [.ref q9] S9
      refine xi_astore C (L' := [(4, .ref q9), (0, .ref (ad 0)), (1, .int (iN a1)), (2, .int (iN a2)), (3, .ref (ad 98))]) dL_recursByTaking_20 (by decide) rfl ?_
      refine xi_iconst C (v := 1) dL_recursByTaking_22 rfl ?_
      exact xr_iY C hA hZ ha9 rfl hr hlocks rfl dL_recursByTaking_23 (Nat.le_of_ble_eq_true rfl) (Nat.le_of_ble_eq_true rfl) hw9 ⟨_, rfl, (by decide), h⟩
    · refine xt_catch (name := "java/lang/IllegalStateException") C [⟨0, 17, 20, 21⟩] ⟨0, 17, 24, 13⟩ [] ht (xpass (Or.inr ⟨by decide, _, xcl_L_21, C.2.2.2.2.2.2.2.2.1.2 ("java/lang/IllegalStateException", "java/lang/IllegalArgumentException") (by decide +kernel)⟩) (fun z hz => nomatch hz)) rfl (by decide) xcl_L_13 xca_IllegalStateException (fun q9 => ?_)
      show xV (gC D ca ad tF) p l e ({ frames := 8, cells := xgc S + 3, slots := xgs S + 18, locals := 132 }) s m args below meth c A 5 Z (3 + (xgc S - xgc S9)) (18 + (xgs S - xgs S9)) 24 [(0, .ref (ad 0)), (1, .int (iN a1)), (2, .int (iN a2)), (3, .ref (ad 98))] [.ref q9] S9
      refine xi_astore C (L' := [(4, .ref q9), (0, .ref (ad 0)), (1, .int (iN a1)), (2, .int (iN a2)), (3, .ref (ad 98))]) dL_recursByTaking_24 (by decide) rfl ?_
      refine xi_iconst C (v := 2) dL_recursByTaking_26 rfl ?_
      exact xr_iY C hA hZ ha9 rfl hr hlocks rfl dL_recursByTaking_27 (Nat.le_of_ble_eq_true rfl) (Nat.le_of_ble_eq_true rfl) hw9 ⟨_, rfl, (by decide), h⟩
  obtain ⟨r5, rfl, h_r5, h⟩ := h9
  refine xi_if_eq C 15 h_r5 dL_recursByTaking_8 (by decide) (fun z3 => ?_) (fun z3 => ?_)
  · replace h := h.1 z3
    refine xi_lconst C (v := 0) dL_recursByTaking_15 (by decide +kernel) ?_
    refine xi_lastore C (q := 98) rfl (by decide) (by decide) dL_recursByTaking_16 ?_
    have hw4 := xval.upJ (q := 98) (i := 0) (v := 0) hw1 rfl (by decide)
    refine xi_goto C 28 dL_recursByTaking_17 (by decide) ?_
    refine xi_iconst C (v := 0) dL_recursByTaking_28 rfl ?_
    exact xr_iY C hA hZ ha2 ((congrFun (xup_cell (q' := 33) (by decide)) (-1)).trans rfl) hr hlocks rfl dL_recursByTaking_29 (Nat.le_of_ble_eq_true rfl) (Nat.le_of_ble_eq_true rfl) hw4 ⟨_, rfl, (by decide), h⟩
  · replace h := h.2 z3
    refine xi_lconst C (v := 1) dL_recursByTaking_11 (by decide +kernel) ?_
    refine xi_goto C 16 dL_recursByTaking_12 (by decide) ?_
    refine xi_lastore C (q := 98) rfl (by decide) (by decide) dL_recursByTaking_16 ?_
    have hw5 := xval.upJ (q := 98) (i := 0) (v := 1) hw1 rfl (by decide)
    refine xi_goto C 28 dL_recursByTaking_17 (by decide) ?_
    refine xi_iconst C (v := 0) dL_recursByTaking_28 rfl ?_
    exact xr_iY C hA hZ ha2 ((congrFun (xup_cell (q' := 33) (by decide)) (-1)).trans rfl) hr hlocks rfl dL_recursByTaking_29 (Nat.le_of_ble_eq_true rfl) (Nat.le_of_ble_eq_true rfl) hw5 ⟨_, rfl, (by decide), h⟩
set_option maxRecDepth 100000 in
set_option maxHeartbeats 4000000 in
theorem c_L_comes (l : Launch) (D : va_G) (ca : Nat → ClassId) (ad : Nat → Nat) (tF : Nat) (a1 : Int) (a2 : Int) (a3 : Int) (S : xS) (Q : Int → xS → Prop) (h_a1 : xR a1) (h_a2 : xR a2) (h_a3 : xR a3) (h : w_L_comes a1 a2 a3 S Q) (hl9 : l.stackTraces = false) : xMY l yL_comes (xwsH yL_comes cL_comes 6 (some .int) [(0, 19, 22, 21), (0, 19, 26, 13)]) ({ frames := 8, cells := xgc S + 3, slots := xgs S + 18, locals := 176 }) (gC D ca ad tF) [.ref (ad 0), .int (iN a1), .int (iN a2), .int (iN a3), .ref (ad 98)] S (xQi Q) (fun _ _ => False) 3 18 := by
  refine xmH_of RL rfl (by decide +kernel) (Nat.le_of_ble_eq_true rfl) ?_
  intro p e s m args below meth c A Z R hR9 C hA hZ hr hlocks ht hw
  subst hR9
  unfold w_L_comes at h
  show xV (gC D ca ad tF) p l e ({ frames := 8, cells := xgc S + 3, slots := xgs S + 18, locals := 176 }) s m args below meth c A 6 Z (0 + (xgc S - xgc S)) (0 + (xgs S - xgs S)) 0 [(0, .ref (ad 0)), (1, .int (iN a1)), (2, .int (iN a2)), (3, .int (iN a3)), (4, .ref (ad 98))] [] S
  refine xi_aload C 4 dL_comes_0 rfl ?_
  refine xi_iconst C (v := 0) dL_comes_2 rfl ?_
  refine xi_aload_n C 0 dL_comes_3 rfl rfl ?_
  refine xi_iload_n C 1 dL_comes_4 rfl rfl ?_
  refine xi_iload_n C 2 dL_comes_5 rfl rfl ?_
  refine xi_iload_n C 3 dL_comes_6 rfl rfl ?_
  refine xc_VY C hw (xAl.refl S) rfl rfl (c_X8_comes l D ca ad tF a1 a2 a3 S _ _ h_a1 h_a2 h_a3 h hl9) xk_X8_comes xv_X8_comes xl_L_104 ⟨⟨Nat.le_of_ble_eq_true rfl, Nat.le_of_ble_eq_true rfl⟩, Nat.le_of_ble_eq_true rfl, Nat.le_of_ble_eq_true rfl⟩ xK_X8 (q := 0) rfl rfl rfl (Nat.le_of_ble_eq_true rfl) dL_comes_7 (fun E9 S9 h9 hw9 ha9 => ?_) (fun r9 S7 h9 hw1 ha2 => ?_)
  · rcases h9 with ⟨rfl, h⟩ | ⟨rfl, h⟩
    · refine xt_catch (name := "java/lang/IllegalArgumentException") C [] ⟨0, 19, 22, 21⟩ [⟨0, 19, 26, 13⟩] ht (fun z hz => nomatch hz) rfl (by decide) xcl_L_21 xca_IllegalArgumentException (fun q9 => ?_)
      show xV (gC D ca ad tF) p l e ({ frames := 8, cells := xgc S + 3, slots := xgs S + 18, locals := 176 }) s m args below meth c A 6 Z (3 + (xgc S - xgc S9)) (18 + (xgs S - xgs S9)) 22 [(0, .ref (ad 0)), (1, .int (iN a1)), (2, .int (iN a2)), (3, .int (iN a3)), (4, .ref (ad 98))] [.ref q9] S9
      refine xi_astore C (L' := [(5, .ref q9), (0, .ref (ad 0)), (1, .int (iN a1)), (2, .int (iN a2)), (3, .int (iN a3)), (4, .ref (ad 98))]) dL_comes_22 (by decide) rfl ?_
      refine xi_iconst C (v := 1) dL_comes_24 rfl ?_
      exact xr_iY C hA hZ ha9 rfl hr hlocks rfl dL_comes_25 (Nat.le_of_ble_eq_true rfl) (Nat.le_of_ble_eq_true rfl) hw9 ⟨_, rfl, (by decide), h⟩
    · refine xt_catch (name := "java/lang/IllegalStateException") C [⟨0, 19, 22, 21⟩] ⟨0, 19, 26, 13⟩ [] ht (xpass (Or.inr ⟨by decide, _, xcl_L_21, C.2.2.2.2.2.2.2.2.1.2 ("java/lang/IllegalStateException", "java/lang/IllegalArgumentException") (by decide +kernel)⟩) (fun z hz => nomatch hz)) rfl (by decide) xcl_L_13 xca_IllegalStateException (fun q9 => ?_)
      show xV (gC D ca ad tF) p l e ({ frames := 8, cells := xgc S + 3, slots := xgs S + 18, locals := 176 }) s m args below meth c A 6 Z (3 + (xgc S - xgc S9)) (18 + (xgs S - xgs S9)) 26 [(0, .ref (ad 0)), (1, .int (iN a1)), (2, .int (iN a2)), (3, .int (iN a3)), (4, .ref (ad 98))] [.ref q9] S9
      refine xi_astore C (L' := [(5, .ref q9), (0, .ref (ad 0)), (1, .int (iN a1)), (2, .int (iN a2)), (3, .int (iN a3)), (4, .ref (ad 98))]) dL_comes_26 (by decide) rfl ?_
      refine xi_iconst C (v := 2) dL_comes_28 rfl ?_
      exact xr_iY C hA hZ ha9 rfl hr hlocks rfl dL_comes_29 (Nat.le_of_ble_eq_true rfl) (Nat.le_of_ble_eq_true rfl) hw9 ⟨_, rfl, (by decide), h⟩
  obtain ⟨r7, rfl, h_r7, h⟩ := h9
  refine xi_if_eq C 17 h_r7 dL_comes_10 (by decide) (fun z3 => ?_) (fun z3 => ?_)
  · replace h := h.1 z3
    refine xi_lconst C (v := 0) dL_comes_17 (by decide +kernel) ?_
    refine xi_lastore C (q := 98) rfl (by decide) (by decide) dL_comes_18 ?_
    have hw4 := xval.upJ (q := 98) (i := 0) (v := 0) hw1 rfl (by decide)
    refine xi_goto C 30 dL_comes_19 (by decide) ?_
    refine xi_iconst C (v := 0) dL_comes_30 rfl ?_
    exact xr_iY C hA hZ ha2 ((congrFun (xup_cell (q' := 33) (by decide)) (-1)).trans rfl) hr hlocks rfl dL_comes_31 (Nat.le_of_ble_eq_true rfl) (Nat.le_of_ble_eq_true rfl) hw4 ⟨_, rfl, (by decide), h⟩
  · replace h := h.2 z3
    refine xi_lconst C (v := 1) dL_comes_13 (by decide +kernel) ?_
    refine xi_goto C 18 dL_comes_14 (by decide) ?_
    refine xi_lastore C (q := 98) rfl (by decide) (by decide) dL_comes_18 ?_
    have hw5 := xval.upJ (q := 98) (i := 0) (v := 1) hw1 rfl (by decide)
    refine xi_goto C 30 dL_comes_19 (by decide) ?_
    refine xi_iconst C (v := 0) dL_comes_30 rfl ?_
    exact xr_iY C hA hZ ha2 ((congrFun (xup_cell (q' := 33) (by decide)) (-1)).trans rfl) hr hlocks rfl dL_comes_31 (Nat.le_of_ble_eq_true rfl) (Nat.le_of_ble_eq_true rfl) hw5 ⟨_, rfl, (by decide), h⟩
set_option maxRecDepth 100000 in
set_option maxHeartbeats 4000000 in
theorem c_L_follows (l : Launch) (D : va_G) (ca : Nat → ClassId) (ad : Nat → Nat) (tF : Nat) (a1 : Int) (a2 : Int) (a3 : Int) (a4 : Int) (a5 : Int) (S : xS) (Q : Int → xS → Prop) (h_a1 : xR a1) (h_a2 : xR a2) (h_a3 : xR a3) (h_a4 : xR a4) (h_a5 : xR a5) (h : w_L_follows a1 a2 a3 a4 a5 S Q) (hl9 : l.stackTraces = false) : xMY l yL_follows (xwsH yL_follows cL_follows 8 (some .int) [(0, 23, 26, 21), (0, 23, 30, 13)]) ({ frames := 8, cells := xgc S + 5, slots := xgs S + 30, locals := 181 }) (gC D ca ad tF) [.ref (ad 0), .int (iN a1), .int (iN a2), .int (iN a3), .int (iN a4), .int (iN a5), .ref (ad 98)] S (xQi Q) (fun _ _ => False) 5 30 := by
  refine xmH_of RL rfl (by decide +kernel) (Nat.le_of_ble_eq_true rfl) ?_
  intro p e s m args below meth c A Z R hR9 C hA hZ hr hlocks ht hw
  subst hR9
  unfold w_L_follows at h
  show xV (gC D ca ad tF) p l e ({ frames := 8, cells := xgc S + 5, slots := xgs S + 30, locals := 181 }) s m args below meth c A 8 Z (0 + (xgc S - xgc S)) (0 + (xgs S - xgs S)) 0 [(0, .ref (ad 0)), (1, .int (iN a1)), (2, .int (iN a2)), (3, .int (iN a3)), (4, .int (iN a4)), (5, .int (iN a5)), (6, .ref (ad 98))] [] S
  refine xi_aload C 6 dL_follows_0 rfl ?_
  refine xi_iconst C (v := 0) dL_follows_2 rfl ?_
  refine xi_aload_n C 0 dL_follows_3 rfl rfl ?_
  refine xi_iload_n C 1 dL_follows_4 rfl rfl ?_
  refine xi_iload_n C 2 dL_follows_5 rfl rfl ?_
  refine xi_iload_n C 3 dL_follows_6 rfl rfl ?_
  refine xi_iload C 4 dL_follows_7 rfl ?_
  refine xi_iload C 5 dL_follows_9 rfl ?_
  refine xc_VY C hw (xAl.refl S) rfl rfl (c_X8_follows l D ca ad tF a1 a2 a3 a4 a5 S _ _ h_a1 h_a2 h_a3 h_a4 h_a5 h hl9) xk_X8_follows xv_X8_follows xl_L_107 ⟨⟨Nat.le_of_ble_eq_true rfl, Nat.le_of_ble_eq_true rfl⟩, Nat.le_of_ble_eq_true rfl, Nat.le_of_ble_eq_true rfl⟩ xK_X8 (q := 0) rfl rfl rfl (Nat.le_of_ble_eq_true rfl) dL_follows_11 (fun E9 S9 h9 hw9 ha9 => ?_) (fun r9 S11 h9 hw1 ha2 => ?_)
  · rcases h9 with ⟨rfl, h⟩ | ⟨rfl, h⟩
    · refine xt_catch (name := "java/lang/IllegalArgumentException") C [] ⟨0, 23, 26, 21⟩ [⟨0, 23, 30, 13⟩] ht (fun z hz => nomatch hz) rfl (by decide) xcl_L_21 xca_IllegalArgumentException (fun q9 => ?_)
      show xV (gC D ca ad tF) p l e ({ frames := 8, cells := xgc S + 5, slots := xgs S + 30, locals := 181 }) s m args below meth c A 8 Z (5 + (xgc S - xgc S9)) (30 + (xgs S - xgs S9)) 26 [(0, .ref (ad 0)), (1, .int (iN a1)), (2, .int (iN a2)), (3, .int (iN a3)), (4, .int (iN a4)), (5, .int (iN a5)), (6, .ref (ad 98))] [.ref q9] S9
      refine xi_astore C (L' := [(7, .ref q9), (0, .ref (ad 0)), (1, .int (iN a1)), (2, .int (iN a2)), (3, .int (iN a3)), (4, .int (iN a4)), (5, .int (iN a5)), (6, .ref (ad 98))]) dL_follows_26 (by decide) rfl ?_
      refine xi_iconst C (v := 1) dL_follows_28 rfl ?_
      exact xr_iY C hA hZ ha9 rfl hr hlocks rfl dL_follows_29 (Nat.le_of_ble_eq_true rfl) (Nat.le_of_ble_eq_true rfl) hw9 ⟨_, rfl, (by decide), h⟩
    · refine xt_catch (name := "java/lang/IllegalStateException") C [⟨0, 23, 26, 21⟩] ⟨0, 23, 30, 13⟩ [] ht (xpass (Or.inr ⟨by decide, _, xcl_L_21, C.2.2.2.2.2.2.2.2.1.2 ("java/lang/IllegalStateException", "java/lang/IllegalArgumentException") (by decide +kernel)⟩) (fun z hz => nomatch hz)) rfl (by decide) xcl_L_13 xca_IllegalStateException (fun q9 => ?_)
      show xV (gC D ca ad tF) p l e ({ frames := 8, cells := xgc S + 5, slots := xgs S + 30, locals := 181 }) s m args below meth c A 8 Z (5 + (xgc S - xgc S9)) (30 + (xgs S - xgs S9)) 30 [(0, .ref (ad 0)), (1, .int (iN a1)), (2, .int (iN a2)), (3, .int (iN a3)), (4, .int (iN a4)), (5, .int (iN a5)), (6, .ref (ad 98))] [.ref q9] S9
      refine xi_astore C (L' := [(7, .ref q9), (0, .ref (ad 0)), (1, .int (iN a1)), (2, .int (iN a2)), (3, .int (iN a3)), (4, .int (iN a4)), (5, .int (iN a5)), (6, .ref (ad 98))]) dL_follows_30 (by decide) rfl ?_
      refine xi_iconst C (v := 2) dL_follows_32 rfl ?_
      exact xr_iY C hA hZ ha9 rfl hr hlocks rfl dL_follows_33 (Nat.le_of_ble_eq_true rfl) (Nat.le_of_ble_eq_true rfl) hw9 ⟨_, rfl, (by decide), h⟩
  obtain ⟨r11, rfl, h_r11, h⟩ := h9
  refine xi_if_eq C 21 h_r11 dL_follows_14 (by decide) (fun z3 => ?_) (fun z3 => ?_)
  · replace h := h.1 z3
    refine xi_lconst C (v := 0) dL_follows_21 (by decide +kernel) ?_
    refine xi_lastore C (q := 98) rfl (by decide) (by decide) dL_follows_22 ?_
    have hw4 := xval.upJ (q := 98) (i := 0) (v := 0) hw1 rfl (by decide)
    refine xi_goto C 34 dL_follows_23 (by decide) ?_
    refine xi_iconst C (v := 0) dL_follows_34 rfl ?_
    exact xr_iY C hA hZ ha2 ((congrFun (xup_cell (q' := 33) (by decide)) (-1)).trans rfl) hr hlocks rfl dL_follows_35 (Nat.le_of_ble_eq_true rfl) (Nat.le_of_ble_eq_true rfl) hw4 ⟨_, rfl, (by decide), h⟩
  · replace h := h.2 z3
    refine xi_lconst C (v := 1) dL_follows_17 (by decide +kernel) ?_
    refine xi_goto C 22 dL_follows_18 (by decide) ?_
    refine xi_lastore C (q := 98) rfl (by decide) (by decide) dL_follows_22 ?_
    have hw5 := xval.upJ (q := 98) (i := 0) (v := 1) hw1 rfl (by decide)
    refine xi_goto C 34 dL_follows_23 (by decide) ?_
    refine xi_iconst C (v := 0) dL_follows_34 rfl ?_
    exact xr_iY C hA hZ ha2 ((congrFun (xup_cell (q' := 33) (by decide)) (-1)).trans rfl) hr hlocks rfl dL_follows_35 (Nat.le_of_ble_eq_true rfl) (Nat.le_of_ble_eq_true rfl) hw5 ⟨_, rfl, (by decide), h⟩
set_option maxRecDepth 100000 in
set_option maxHeartbeats 4000000 in
theorem c_L_distance (l : Launch) (D : va_G) (ca : Nat → ClassId) (ad : Nat → Nat) (tF : Nat) (a1 : Int) (a2 : Int) (S : xS) (Q : Int → xS → Prop) (h_a1 : xR a1) (h_a2 : xR a2) (h : w_L_distance a1 a2 S Q) (hl9 : l.stackTraces = false) : xMY l yL_distance (xwsH yL_distance cL_distance 5 (some .int) [(0, 10, 13, 21), (0, 10, 17, 13), (0, 10, 21, 72)]) ({ frames := 8, cells := xgc S + 4, slots := xgs S + 24, locals := 133 }) (gC D ca ad tF) [.ref (ad 0), .int (iN a1), .int (iN a2), .ref (ad 98)] S (xQi Q) (fun _ _ => False) 4 24 := by
  refine xmH_of RL rfl (by decide +kernel) (Nat.le_of_ble_eq_true rfl) ?_
  intro p e s m args below meth c A Z R hR9 C hA hZ hr hlocks ht hw
  subst hR9
  unfold w_L_distance at h
  show xV (gC D ca ad tF) p l e ({ frames := 8, cells := xgc S + 4, slots := xgs S + 24, locals := 133 }) s m args below meth c A 5 Z (0 + (xgc S - xgc S)) (0 + (xgs S - xgs S)) 0 [(0, .ref (ad 0)), (1, .int (iN a1)), (2, .int (iN a2)), (3, .ref (ad 98))] [] S
  refine xi_aload_n C 3 dL_distance_0 rfl rfl ?_
  refine xi_iconst C (v := 0) dL_distance_1 rfl ?_
  refine xi_aload_n C 0 dL_distance_2 rfl rfl ?_
  refine xi_iload_n C 1 dL_distance_3 rfl rfl ?_
  refine xi_iload_n C 2 dL_distance_4 rfl rfl ?_
  refine xc_VY C hw (xAl.refl S) rfl rfl (c_X8_distance l D ca ad tF a1 a2 S _ _ h_a1 h_a2 h hl9) xk_X8_distance xv_X8_distance xl_L_111 ⟨⟨Nat.le_of_ble_eq_true rfl, Nat.le_of_ble_eq_true rfl⟩, Nat.le_of_ble_eq_true rfl, Nat.le_of_ble_eq_true rfl⟩ xK_X8 (q := 0) rfl rfl rfl (Nat.le_of_ble_eq_true rfl) dL_distance_5 (fun E9 S9 h9 hw9 ha9 => ?_) (fun r9 S5 h9 hw1 ha2 => ?_)
  · rcases h9 with ⟨rfl, h⟩ | ⟨rfl, h⟩ | ⟨rfl, h⟩
    · refine xt_catch (name := "java/lang/IllegalArgumentException") C [] ⟨0, 10, 13, 21⟩ [⟨0, 10, 17, 13⟩, ⟨0, 10, 21, 72⟩] ht (fun z hz => nomatch hz) rfl (by decide) xcl_L_21 xca_IllegalArgumentException (fun q9 => ?_)
      show xV (gC D ca ad tF) p l e ({ frames := 8, cells := xgc S + 4, slots := xgs S + 24, locals := 133 }) s m args below meth c A 5 Z (4 + (xgc S - xgc S9)) (24 + (xgs S - xgs S9)) 13 [(0, .ref (ad 0)), (1, .int (iN a1)), (2, .int (iN a2)), (3, .ref (ad 98))] [.ref q9] S9
      refine xi_astore C (L' := [(4, .ref q9), (0, .ref (ad 0)), (1, .int (iN a1)), (2, .int (iN a2)), (3, .ref (ad 98))]) dL_distance_13 (by decide) rfl ?_
      refine xi_iconst C (v := 1) dL_distance_15 rfl ?_
      exact xr_iY C hA hZ ha9 rfl hr hlocks rfl dL_distance_16 (Nat.le_of_ble_eq_true rfl) (Nat.le_of_ble_eq_true rfl) hw9 ⟨_, rfl, (by decide), h⟩
    · refine xt_catch (name := "java/lang/IllegalStateException") C [⟨0, 10, 13, 21⟩] ⟨0, 10, 17, 13⟩ [⟨0, 10, 21, 72⟩] ht (xpass (Or.inr ⟨by decide, _, xcl_L_21, C.2.2.2.2.2.2.2.2.1.2 ("java/lang/IllegalStateException", "java/lang/IllegalArgumentException") (by decide +kernel)⟩) (fun z hz => nomatch hz)) rfl (by decide) xcl_L_13 xca_IllegalStateException (fun q9 => ?_)
      show xV (gC D ca ad tF) p l e ({ frames := 8, cells := xgc S + 4, slots := xgs S + 24, locals := 133 }) s m args below meth c A 5 Z (4 + (xgc S - xgc S9)) (24 + (xgs S - xgs S9)) 17 [(0, .ref (ad 0)), (1, .int (iN a1)), (2, .int (iN a2)), (3, .ref (ad 98))] [.ref q9] S9
      refine xi_astore C (L' := [(4, .ref q9), (0, .ref (ad 0)), (1, .int (iN a1)), (2, .int (iN a2)), (3, .ref (ad 98))]) dL_distance_17 (by decide) rfl ?_
      refine xi_iconst C (v := 2) dL_distance_19 rfl ?_
      exact xr_iY C hA hZ ha9 rfl hr hlocks rfl dL_distance_20 (Nat.le_of_ble_eq_true rfl) (Nat.le_of_ble_eq_true rfl) hw9 ⟨_, rfl, (by decide), h⟩
    · refine xt_catch (name := "java/util/NoSuchElementException") C [⟨0, 10, 13, 21⟩, ⟨0, 10, 17, 13⟩] ⟨0, 10, 21, 72⟩ [] ht (xpass (Or.inr ⟨by decide, _, xcl_L_21, C.2.2.2.2.2.2.2.2.1.2 ("java/util/NoSuchElementException", "java/lang/IllegalArgumentException") (by decide +kernel)⟩) (xpass (Or.inr ⟨by decide, _, xcl_L_13, C.2.2.2.2.2.2.2.2.1.2 ("java/util/NoSuchElementException", "java/lang/IllegalStateException") (by decide +kernel)⟩) (fun z hz => nomatch hz))) rfl (by decide) xcl_L_72 xca_NoSuchElementException (fun q9 => ?_)
      show xV (gC D ca ad tF) p l e ({ frames := 8, cells := xgc S + 4, slots := xgs S + 24, locals := 133 }) s m args below meth c A 5 Z (4 + (xgc S - xgc S9)) (24 + (xgs S - xgs S9)) 21 [(0, .ref (ad 0)), (1, .int (iN a1)), (2, .int (iN a2)), (3, .ref (ad 98))] [.ref q9] S9
      refine xi_astore C (L' := [(4, .ref q9), (0, .ref (ad 0)), (1, .int (iN a1)), (2, .int (iN a2)), (3, .ref (ad 98))]) dL_distance_21 (by decide) rfl ?_
      refine xi_iconst C (v := 3) dL_distance_23 rfl ?_
      exact xr_iY C hA hZ ha9 rfl hr hlocks rfl dL_distance_24 (Nat.le_of_ble_eq_true rfl) (Nat.le_of_ble_eq_true rfl) hw9 ⟨_, rfl, (by decide), h⟩
  obtain ⟨r5, rfl, h_r5, h⟩ := h9
  refine xi_i2l C h_r5 dL_distance_8 ?_
  refine xi_lastore C (q := 98) rfl (by decide) (by decide) dL_distance_9 ?_
  have hw3 := xval.upJ (q := 98) (i := 0) (v := r5) hw1 rfl (xR_J h_r5)
  refine xi_goto C 25 dL_distance_10 (by decide) ?_
  refine xi_iconst C (v := 0) dL_distance_25 rfl ?_
  exact xr_iY C hA hZ ha2 ((congrFun (xup_cell (q' := 33) (by decide)) (-1)).trans rfl) hr hlocks rfl dL_distance_26 (Nat.le_of_ble_eq_true rfl) (Nat.le_of_ble_eq_true rfl) hw3 ⟨_, rfl, (by decide), h⟩
set_option maxRecDepth 100000 in
set_option maxHeartbeats 4000000 in
theorem c_L_components (l : Launch) (D : va_G) (ca : Nat → ClassId) (ad : Nat → Nat) (tF : Nat)  (S : xS) (Q : Int → xS → Prop)  (h : w_L_components  S Q) (hl9 : l.stackTraces = false) : xMY l yL_components (xwsH yL_components cL_components 3 (some .int) [(0, 8, 11, 13)]) ({ frames := 8, cells := xgc S + 1, slots := xgs S + 6, locals := 170 }) (gC D ca ad tF) [.ref (ad 0), .ref (ad 98)] S (xQi Q) (fun _ _ => False) 1 6 := by
  refine xmH_of RL rfl (by decide +kernel) (Nat.le_of_ble_eq_true rfl) ?_
  intro p e s m args below meth c A Z R hR9 C hA hZ hr hlocks ht hw
  subst hR9
  unfold w_L_components at h
  show xV (gC D ca ad tF) p l e ({ frames := 8, cells := xgc S + 1, slots := xgs S + 6, locals := 170 }) s m args below meth c A 3 Z (0 + (xgc S - xgc S)) (0 + (xgs S - xgs S)) 0 [(0, .ref (ad 0)), (1, .ref (ad 98))] [] S
  refine xi_aload_n C 1 dL_components_0 rfl rfl ?_
  refine xi_iconst C (v := 0) dL_components_1 rfl ?_
  refine xi_aload_n C 0 dL_components_2 rfl rfl ?_
  refine xc_VY C hw (xAl.refl S) rfl rfl (c_X8_components l D ca ad tF S _ _ h hl9) xk_X8_components xv_X8_components xl_L_114 ⟨⟨Nat.le_of_ble_eq_true rfl, Nat.le_of_ble_eq_true rfl⟩, Nat.le_of_ble_eq_true rfl, Nat.le_of_ble_eq_true rfl⟩ xK_X8 (q := 0) rfl rfl rfl (Nat.le_of_ble_eq_true rfl) dL_components_3 (fun E9 S9 h9 hw9 ha9 => ?_) (fun r9 S3 h9 hw1 ha2 => ?_)
  · obtain ⟨rfl, h⟩ := h9
    refine xt_catch (name := "java/lang/IllegalStateException") C [] ⟨0, 8, 11, 13⟩ [] ht (fun z hz => nomatch hz) rfl (by decide) xcl_L_13 xca_IllegalStateException (fun q9 => ?_)
    show xV (gC D ca ad tF) p l e ({ frames := 8, cells := xgc S + 1, slots := xgs S + 6, locals := 170 }) s m args below meth c A 3 Z (1 + (xgc S - xgc S9)) (6 + (xgs S - xgs S9)) 11 [(0, .ref (ad 0)), (1, .ref (ad 98))] [.ref q9] S9
    refine xi_astore_n C (L' := [(2, .ref q9), (0, .ref (ad 0)), (1, .ref (ad 98))]) dL_components_11 rfl (by decide) rfl ?_
    refine xi_iconst C (v := 1) dL_components_12 rfl ?_
    exact xr_iY C hA hZ ha9 rfl hr hlocks rfl dL_components_13 (Nat.le_of_ble_eq_true rfl) (Nat.le_of_ble_eq_true rfl) hw9 ⟨_, rfl, (by decide), h⟩
  obtain ⟨r3, rfl, h_r3, h⟩ := h9
  refine xi_i2l C h_r3 dL_components_6 ?_
  refine xi_lastore C (q := 98) rfl (by decide) (by decide) dL_components_7 ?_
  have hw3 := xval.upJ (q := 98) (i := 0) (v := r3) hw1 rfl (xR_J h_r3)
  refine xi_goto C 14 dL_components_8 (by decide) ?_
  refine xi_iconst C (v := 0) dL_components_14 rfl ?_
  exact xr_iY C hA hZ ha2 ((congrFun (xup_cell (q' := 33) (by decide)) (-1)).trans rfl) hr hlocks rfl dL_components_15 (Nat.le_of_ble_eq_true rfl) (Nat.le_of_ble_eq_true rfl) hw3 ⟨_, rfl, (by decide), h⟩
set_option maxRecDepth 100000 in
set_option maxHeartbeats 4000000 in
theorem c_L_meanMoves (l : Launch) (D : va_G) (ca : Nat → ClassId) (ad : Nat → Nat) (tF : Nat)  (S : xS) (Q : Int → xS → Prop)  (h : w_L_meanMoves  S Q) (hl9 : l.stackTraces = false) : xMY l yL_meanMoves (xwsH yL_meanMoves cL_meanMoves 3 (some .int) [(0, 7, 10, 13)]) ({ frames := 8, cells := xgc S + 1, slots := xgs S + 6, locals := 179 }) (gC D ca ad tF) [.ref (ad 0), .ref (ad 99)] S (xQi Q) (fun _ _ => False) 1 6 := by
  refine xmH_of RL rfl (by decide +kernel) (Nat.le_of_ble_eq_true rfl) ?_
  intro p e s m args below meth c A Z R hR9 C hA hZ hr hlocks ht hw
  subst hR9
  unfold w_L_meanMoves at h
  show xV (gC D ca ad tF) p l e ({ frames := 8, cells := xgc S + 1, slots := xgs S + 6, locals := 179 }) s m args below meth c A 3 Z (0 + (xgc S - xgc S)) (0 + (xgs S - xgs S)) 0 [(0, .ref (ad 0)), (1, .ref (ad 99))] [] S
  refine xi_aload_n C 1 dL_meanMoves_0 rfl rfl ?_
  refine xi_iconst C (v := 0) dL_meanMoves_1 rfl ?_
  refine xi_aload_n C 0 dL_meanMoves_2 rfl rfl ?_
  refine xc_VY C hw (xAl.refl S) rfl rfl (c_X8_meanMoves l D ca ad tF S _ _ h hl9) xk_X8_meanMoves xv_X8_meanMoves xl_L_117 ⟨⟨Nat.le_of_ble_eq_true rfl, Nat.le_of_ble_eq_true rfl⟩, Nat.le_of_ble_eq_true rfl, Nat.le_of_ble_eq_true rfl⟩ xK_X8 (q := 0) rfl rfl rfl (Nat.le_of_ble_eq_true rfl) dL_meanMoves_3 (fun E9 S9 h9 hw9 ha9 => ?_) (fun r9 S3 h9 hw1 ha2 => ?_)
  · obtain ⟨rfl, h⟩ := h9
    refine xt_catch (name := "java/lang/IllegalStateException") C [] ⟨0, 7, 10, 13⟩ [] ht (fun z hz => nomatch hz) rfl (by decide) xcl_L_13 xca_IllegalStateException (fun q9 => ?_)
    show xV (gC D ca ad tF) p l e ({ frames := 8, cells := xgc S + 1, slots := xgs S + 6, locals := 179 }) s m args below meth c A 3 Z (1 + (xgc S - xgc S9)) (6 + (xgs S - xgs S9)) 10 [(0, .ref (ad 0)), (1, .ref (ad 99))] [.ref q9] S9
    refine xi_astore_n C (L' := [(2, .ref q9), (0, .ref (ad 0)), (1, .ref (ad 99))]) dL_meanMoves_10 rfl (by decide) rfl ?_
    refine xi_iconst C (v := 1) dL_meanMoves_11 rfl ?_
    exact xr_iY C hA hZ ha9 rfl hr hlocks rfl dL_meanMoves_12 (Nat.le_of_ble_eq_true rfl) (Nat.le_of_ble_eq_true rfl) hw9 ⟨_, rfl, (by decide), h⟩
  obtain ⟨r3, rfl, h⟩ := h9
  refine xi_dastore C (q := 99) rfl (by decide) (by decide) dL_meanMoves_6 ?_
  have hw3 := xval.upJ (q := 99) (i := 0) (v := r3.toInt64.toInt) hw1 rfl (xRJ_d _)
  refine xi_goto C 13 dL_meanMoves_7 (by decide) ?_
  refine xi_iconst C (v := 0) dL_meanMoves_13 rfl ?_
  exact xr_iY C hA hZ ha2 ((congrFun (xup_cell (q' := 33) (by decide)) (-1)).trans rfl) hr hlocks rfl dL_meanMoves_14 (Nat.le_of_ble_eq_true rfl) (Nat.le_of_ble_eq_true rfl) hw3 ⟨_, rfl, (by decide), h⟩
set_option maxRecDepth 100000 in
set_option maxHeartbeats 4000000 in
theorem c_L_newShare (l : Launch) (D : va_G) (ca : Nat → ClassId) (ad : Nat → Nat) (tF : Nat)  (S : xS) (Q : Int → xS → Prop)  (h : w_L_newShare  S Q) (hl9 : l.stackTraces = false) : xMY l yL_newShare (xwsH yL_newShare cL_newShare 3 (some .int) [(0, 8, 11, 13), (0, 8, 14, 125)]) ({ frames := 8, cells := xgc S + 2, slots := xgs S + 12, locals := 130 }) (gC D ca ad tF) [.ref (ad 0), .ref (ad 99)] S (xQi Q) (fun _ _ => False) 2 12 := by
  refine xmH_of RL rfl (by decide +kernel) (Nat.le_of_ble_eq_true rfl) ?_
  intro p e s m args below meth c A Z R hR9 C hA hZ hr hlocks ht hw
  subst hR9
  unfold w_L_newShare at h
  show xV (gC D ca ad tF) p l e ({ frames := 8, cells := xgc S + 2, slots := xgs S + 12, locals := 130 }) s m args below meth c A 3 Z (0 + (xgc S - xgc S)) (0 + (xgs S - xgs S)) 0 [(0, .ref (ad 0)), (1, .ref (ad 99))] [] S
  refine xi_aload_n C 1 dL_newShare_0 rfl rfl ?_
  refine xi_iconst C (v := 0) dL_newShare_1 rfl ?_
  refine xi_aload_n C 0 dL_newShare_2 rfl rfl ?_
  refine xc_VY C hw (xAl.refl S) rfl rfl (c_X8_newShare l D ca ad tF S _ _ h hl9) xk_X8_newShare xv_X8_newShare xl_L_121 ⟨⟨Nat.le_of_ble_eq_true rfl, Nat.le_of_ble_eq_true rfl⟩, Nat.le_of_ble_eq_true rfl, Nat.le_of_ble_eq_true rfl⟩ xK_X8 (q := 0) rfl rfl rfl (Nat.le_of_ble_eq_true rfl) dL_newShare_3 (fun E9 S9 h9 hw9 ha9 => ?_) (fun r9 S3 h9 hw1 ha2 => ?_)
  · rcases h9 with ⟨rfl, h⟩ | ⟨rfl, h⟩
    · refine xt_catch (name := "java/lang/IllegalStateException") C [] ⟨0, 8, 11, 13⟩ [⟨0, 8, 14, 125⟩] ht (fun z hz => nomatch hz) rfl (by decide) xcl_L_13 xca_IllegalStateException (fun q9 => ?_)
      show xV (gC D ca ad tF) p l e ({ frames := 8, cells := xgc S + 2, slots := xgs S + 12, locals := 130 }) s m args below meth c A 3 Z (2 + (xgc S - xgc S9)) (12 + (xgs S - xgs S9)) 11 [(0, .ref (ad 0)), (1, .ref (ad 99))] [.ref q9] S9
      refine xi_astore_n C (L' := [(2, .ref q9), (0, .ref (ad 0)), (1, .ref (ad 99))]) dL_newShare_11 rfl (by decide) rfl ?_
      refine xi_iconst C (v := 1) dL_newShare_12 rfl ?_
      exact xr_iY C hA hZ ha9 rfl hr hlocks rfl dL_newShare_13 (Nat.le_of_ble_eq_true rfl) (Nat.le_of_ble_eq_true rfl) hw9 ⟨_, rfl, (by decide), h⟩
    · refine xt_catch (name := "java/lang/ArithmeticException") C [⟨0, 8, 11, 13⟩] ⟨0, 8, 14, 125⟩ [] ht (xpass (Or.inr ⟨by decide, _, xcl_L_13, C.2.2.2.2.2.2.2.2.1.2 ("java/lang/ArithmeticException", "java/lang/IllegalStateException") (by decide +kernel)⟩) (fun z hz => nomatch hz)) rfl (by decide) xcl_L_125 xca_ArithmeticException (fun q9 => ?_)
      show xV (gC D ca ad tF) p l e ({ frames := 8, cells := xgc S + 2, slots := xgs S + 12, locals := 130 }) s m args below meth c A 3 Z (2 + (xgc S - xgc S9)) (12 + (xgs S - xgs S9)) 14 [(0, .ref (ad 0)), (1, .ref (ad 99))] [.ref q9] S9
      refine xi_astore_n C (L' := [(2, .ref q9), (0, .ref (ad 0)), (1, .ref (ad 99))]) dL_newShare_14 rfl (by decide) rfl ?_
      refine xi_iconst C (v := 2) dL_newShare_15 rfl ?_
      exact xr_iY C hA hZ ha9 rfl hr hlocks rfl dL_newShare_16 (Nat.le_of_ble_eq_true rfl) (Nat.le_of_ble_eq_true rfl) hw9 ⟨_, rfl, (by decide), h⟩
  obtain ⟨r3, rfl, h⟩ := h9
  obtain ⟨hc3, h⟩ := h
  refine xi_f2d C dL_newShare_6 hc3 ?_
  refine xi_dastore C (q := 99) rfl (by decide) (by decide) dL_newShare_7 ?_
  have hw4 := xval.upJ (q := 99) (i := 0) (v := (FP.f2d r3).toInt64.toInt) hw1 rfl (xRJ_d _)
  refine xi_goto C 17 dL_newShare_8 (by decide) ?_
  refine xi_iconst C (v := 0) dL_newShare_17 rfl ?_
  exact xr_iY C hA hZ ha2 ((congrFun (xup_cell (q' := 33) (by decide)) (-1)).trans rfl) hr hlocks rfl dL_newShare_18 (Nat.le_of_ble_eq_true rfl) (Nat.le_of_ble_eq_true rfl) hw4 ⟨_, rfl, (by decide), h⟩

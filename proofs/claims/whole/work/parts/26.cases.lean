def w_K0 (f : Int → Int) (i : Int) (S : xS) (Q : xS → Prop) : Prop :=
  w_L_addProcess S (fun r186 Sc186 => w_X9_addProcess Sc186 (fun r192 Sc192 => (Sc192 33 (-1) = Sc186 33 (-1)) ∧ w_X9_thrown Sc192 (fun r198 Sc198 => ((r198 = r186 → ((¬ r186 = 0 → (Sc198 33 (-1) = Sc186 33 (-1)) ∧ Q Sc198) ∧ (r186 = 0 → (((Sc198 98 0) = r192 → (Sc198 33 (-1) = Sc186 33 (-1)) ∧ Q Sc198) ∧ (¬ (Sc198 98 0) = r192 → False))))) ∧ (¬ r198 = r186 → False)))))
def w_K1 (f : Int → Int) (i : Int) (S : xS) (Q : xS → Prop) : Prop :=
  w_L_addStep (f (i + 1)) (f (i + 2)) (f (i + 3)) ((f (i + 4)) % 65536) (f (i + 5)) (f (i + 6)) S (fun r268 Sc268 => w_X9_addStep (f (i + 1)) (f (i + 2)) (f (i + 3)) ((f (i + 4)) % 65536) (f (i + 5)) (f (i + 6)) Sc268 (fun r312 Sc312 => (Sc312 33 (-1) = Sc268 33 (-1)) ∧ w_X9_thrown Sc312 (fun r318 Sc318 => ((r318 = r268 → ((¬ r268 = 0 → (Sc318 33 (-1) = Sc268 33 (-1)) ∧ Q Sc318) ∧ (r268 = 0 → (((Sc318 98 0) = r312 → (Sc318 33 (-1) = Sc268 33 (-1)) ∧ Q Sc318) ∧ (¬ (Sc318 98 0) = r312 → False))))) ∧ (¬ r318 = r268 → False)))))
def w_K2 (f : Int → Int) (i : Int) (S : xS) (Q : xS → Prop) : Prop :=
  w_L_addChannel (f (i + 1)) S (fun r356 Sc356 => w_X9_addChannel (f (i + 1)) Sc356 (fun r368 Sc368 => (Sc368 33 (-1) = Sc356 33 (-1)) ∧ w_X9_thrown Sc368 (fun r374 Sc374 => ((r374 = r356 → ((¬ r356 = 0 → (Sc374 33 (-1) = Sc356 33 (-1)) ∧ Q Sc374) ∧ (r356 = 0 → (((Sc374 98 0) = r368 → (Sc374 33 (-1) = Sc356 33 (-1)) ∧ Q Sc374) ∧ (¬ (Sc374 98 0) = r368 → False))))) ∧ (¬ r374 = r356 → False)))))
def w_K3 (f : Int → Int) (i : Int) (S : xS) (Q : xS → Prop) : Prop :=
  w_L_setStart (f (i + 1)) (f (i + 2)) S (fun r418 Sc418 => w_X9_setStart (f (i + 1)) (f (i + 2)) Sc418 (fun r436 Sc436 => (Sc436 33 (-1) = Sc418 33 (-1)) ∧ w_X9_thrown Sc436 (fun r442 Sc442 => ((r442 = r418 → ((¬ r418 = 0 → (Sc442 33 (-1) = Sc418 33 (-1)) ∧ Q Sc442) ∧ (r418 = 0 → (((Sc442 98 0) = r436 → (Sc442 33 (-1) = Sc418 33 (-1)) ∧ Q Sc442) ∧ (¬ (Sc442 98 0) = r436 → False))))) ∧ (¬ r442 = r418 → False)))))
def w_K4_J594 (Q : xS → Prop) (Sc566 : xS) (t0_594 : Int) (S594 : xS) : Prop :=
  (((Sc566 98 0) = t0_594 → Q S594) ∧ (¬ (Sc566 98 0) = t0_594 → False))
def w_K4_J560 (f : Int → Int) (i : Int) (Q : xS → Prop) (r514 : Int) (t0_546 : Int) (t0_560 : Int) (S560 : xS) : Prop :=
  w_X9_setMarks (f (i + 1)) (f (i + 2)) t0_546 t0_560 S560 (fun r560 Sc560 => (Sc560 33 (-1) = S560 33 (-1)) ∧ w_X9_thrown Sc560 (fun r566 Sc566 => ((r566 = r514 → ((¬ r514 = 0 → (Sc566 33 (-1) = S560 33 (-1)) ∧ Q Sc566) ∧ (r514 = 0 → xJ1 (w_K4_J594 Q Sc566) (fun j594 => ((r560 = 0 → (Sc566 33 (-1) = S560 33 (-1)) ∧ j594 0 Sc566) ∧ (¬ r560 = 0 → (Sc566 33 (-1) = S560 33 (-1)) ∧ j594 1 Sc566)))))) ∧ (¬ r566 = r514 → False))))
def w_K4_J546 (f : Int → Int) (i : Int) (Q : xS → Prop) (r514 : Int) (t0_546 : Int) (S546 : xS) : Prop :=
  xJ1 (w_K4_J560 f i Q r514 t0_546) (fun j560 => (((f (i + 4)) = 0 → j560 0 S546) ∧ (¬ (f (i + 4)) = 0 → j560 1 S546)))
def w_K4_J513 (f : Int → Int) (i : Int) (Q : xS → Prop) (t0_499 : Int) (t0_513 : Int) (S513 : xS) : Prop :=
  w_L_setMarks (f (i + 1)) (f (i + 2)) t0_499 t0_513 S513 (fun r514 Sc514 => xJ1 (w_K4_J546 f i Q r514) (fun j546 => (((f (i + 3)) = 0 → j546 0 Sc514) ∧ (¬ (f (i + 3)) = 0 → j546 1 Sc514))))
def w_K4_J499 (f : Int → Int) (i : Int) (Q : xS → Prop) (t0_499 : Int) (S499 : xS) : Prop :=
  xJ1 (w_K4_J513 f i Q t0_499) (fun j513 => (((f (i + 4)) = 0 → j513 0 S499) ∧ (¬ (f (i + 4)) = 0 → j513 1 S499)))
def w_K4 (f : Int → Int) (i : Int) (S : xS) (Q : xS → Prop) : Prop :=
  xJ1 (w_K4_J499 f i Q) (fun j499 => (((f (i + 3)) = 0 → j499 0 S) ∧ (¬ (f (i + 3)) = 0 → j499 1 S)))
def w_K5 (f : Int → Int) (i : Int) (S : xS) (Q : xS → Prop) : Prop :=
  w_L_addInvariant (f (i + 1)) (f (i + 2)) S (fun r617 Sc617 => w_X9_addInvariant (f (i + 1)) (f (i + 2)) Sc617 (fun r635 Sc635 => (Sc635 33 (-1) = Sc617 33 (-1)) ∧ w_X9_thrown Sc635 (fun r641 Sc641 => ((r641 = r617 → ((¬ r617 = 0 → (Sc641 33 (-1) = Sc617 33 (-1)) ∧ Q Sc641) ∧ (r617 = 0 → (((Sc641 98 0) = r635 → (Sc641 33 (-1) = Sc617 33 (-1)) ∧ Q Sc641) ∧ (¬ (Sc641 98 0) = r635 → False))))) ∧ (¬ r641 = r617 → False)))))
def w_K6_J737 (Q : xS → Prop) (Sc709 : xS) (t0_737 : Int) (S737 : xS) : Prop :=
  (((Sc709 98 0) = t0_737 → Q S737) ∧ (¬ (Sc709 98 0) = t0_737 → False))
def w_K6 (f : Int → Int) (i : Int) (S : xS) (Q : xS → Prop) : Prop :=
  w_L_areAlike (f (i + 1)) (f (i + 2)) S (fun r685 Sc685 => w_X9_areAlike (f (i + 1)) (f (i + 2)) Sc685 (fun r703 Sc703 => (Sc703 33 (-1) = Sc685 33 (-1)) ∧ w_X9_thrown Sc703 (fun r709 Sc709 => ((r709 = r685 → ((¬ r685 = 0 → (Sc709 33 (-1) = Sc685 33 (-1)) ∧ Q Sc709) ∧ (r685 = 0 → xJ1 (w_K6_J737 Q Sc709) (fun j737 => ((r703 = 0 → (Sc709 33 (-1) = Sc685 33 (-1)) ∧ j737 0 Sc709) ∧ (¬ r703 = 0 → (Sc709 33 (-1) = Sc685 33 (-1)) ∧ j737 1 Sc709)))))) ∧ (¬ r709 = r685 → False)))))
def w_K7 (f : Int → Int) (i : Int) (S : xS) (Q : xS → Prop) : Prop :=
  w_L_begin ((f (i + 1)) % 65536) S (fun r755 Sc755 => w_X9_begin ((f (i + 1)) % 65536) Sc755 (fun r768 Sc768 => (Sc768 33 (-1) = Sc755 33 (-1)) ∧ w_X9_thrown Sc768 (fun r774 Sc774 => ((r774 = r755 → ((¬ r755 = 0 → (Sc774 33 (-1) = Sc755 33 (-1)) ∧ Q Sc774) ∧ (r755 = 0 → (((Sc774 98 0) = r768 → (Sc774 33 (-1) = Sc755 33 (-1)) ∧ Q Sc774) ∧ (¬ (Sc774 98 0) = r768 → False))))) ∧ (¬ r774 = r755 → False)))))
def w_K8 (f : Int → Int) (i : Int) (S : xS) (Q : xS → Prop) : Prop :=
  w_L_search (f (i + 1)) S (fun r812 Sc812 => w_X9_search (f (i + 1)) Sc812 (fun r824 Sc824 => (Sc824 33 (-1) = Sc812 33 (-1)) ∧ w_X9_thrown Sc824 (fun r830 Sc830 => ((r830 = r812 → ((¬ r812 = 0 → (Sc830 33 (-1) = Sc812 33 (-1)) ∧ Q Sc830) ∧ (r812 = 0 → (((Sc830 98 0) = r824 → (Sc830 33 (-1) = Sc812 33 (-1)) ∧ Q Sc830) ∧ (¬ (Sc830 98 0) = r824 → False))))) ∧ (¬ r830 = r812 → False)))))
def w_K9 (f : Int → Int) (i : Int) (S : xS) (Q : xS → Prop) : Prop :=
  w_L_verdict S (fun r862 Sc862 => w_X9_verdict Sc862 (fun r868 Sc868 => (Sc868 33 (-1) = Sc862 33 (-1)) ∧ w_X9_thrown Sc868 (fun r874 Sc874 => ((r874 = r862 → ((¬ r862 = 0 → (Sc874 33 (-1) = Sc862 33 (-1)) ∧ Q Sc874) ∧ (r862 = 0 → (((Sc874 98 0) = r868 → (Sc874 33 (-1) = Sc862 33 (-1)) ∧ Q Sc874) ∧ (¬ (Sc874 98 0) = r868 → False))))) ∧ (¬ r874 = r862 → False)))))
def w_K10 (f : Int → Int) (i : Int) (S : xS) (Q : xS → Prop) : Prop :=
  w_L_states S (fun r906 Sc906 => w_X9_states Sc906 (fun r912 Sc912 => (Sc912 33 (-1) = Sc906 33 (-1)) ∧ w_X9_thrown Sc912 (fun r918 Sc918 => ((r918 = r906 → ((¬ r906 = 0 → (Sc918 33 (-1) = Sc906 33 (-1)) ∧ Q Sc918) ∧ (r906 = 0 → (((Sc918 98 0) = r912 → (Sc918 33 (-1) = Sc906 33 (-1)) ∧ Q Sc918) ∧ (¬ (Sc918 98 0) = r912 → False))))) ∧ (¬ r918 = r906 → False)))))
def w_K11 (f : Int → Int) (i : Int) (S : xS) (Q : xS → Prop) : Prop :=
  w_L_goneOn S (fun r950 Sc950 => w_X9_goneOn Sc950 (fun r956 Sc956 => (Sc956 33 (-1) = Sc950 33 (-1)) ∧ w_X9_thrown Sc956 (fun r962 Sc962 => ((r962 = r950 → ((¬ r950 = 0 → (Sc962 33 (-1) = Sc950 33 (-1)) ∧ Q Sc962) ∧ (r950 = 0 → (((Sc962 98 0) = r956 → (Sc962 33 (-1) = Sc950 33 (-1)) ∧ Q Sc962) ∧ (¬ (Sc962 98 0) = r956 → False))))) ∧ (¬ r962 = r950 → False)))))
def w_K12 (f : Int → Int) (i : Int) (S : xS) (Q : xS → Prop) : Prop :=
  w_L_codeOf (f (i + 1)) S (fun r1000 Sc1000 => w_X9_codeOf (f (i + 1)) Sc1000 (fun r1012 Sc1012 => (Sc1012 33 (-1) = Sc1000 33 (-1)) ∧ w_X9_thrown Sc1012 (fun r1018 Sc1018 => ((r1018 = r1000 → ((¬ r1000 = 0 → (Sc1018 33 (-1) = Sc1000 33 (-1)) ∧ Q Sc1018) ∧ (r1000 = 0 → (((Sc1018 98 0) = r1012 → (Sc1018 33 (-1) = Sc1000 33 (-1)) ∧ Q Sc1018) ∧ (¬ (Sc1018 98 0) = r1012 → False))))) ∧ (¬ r1018 = r1000 → False)))))
def w_K13 (f : Int → Int) (i : Int) (S : xS) (Q : xS → Prop) : Prop :=
  w_L_moves (f (i + 1)) S (fun r1055 Sc1055 => w_X9_moves (f (i + 1)) Sc1055 (fun r1067 Sc1067 => (Sc1067 33 (-1) = Sc1055 33 (-1)) ∧ w_X9_thrown Sc1067 (fun r1073 Sc1073 => ((r1073 = r1055 → ((¬ r1055 = 0 → (Sc1073 33 (-1) = Sc1055 33 (-1)) ∧ Q Sc1073) ∧ (r1055 = 0 → (((Sc1073 98 0) = r1067 → (Sc1073 33 (-1) = Sc1055 33 (-1)) ∧ Q Sc1073) ∧ (¬ (Sc1073 98 0) = r1067 → False))))) ∧ (¬ r1073 = r1055 → False)))))
def w_K14 (f : Int → Int) (i : Int) (S : xS) (Q : xS → Prop) : Prop :=
  w_L_reached (f (i + 1)) (f (i + 2)) S (fun r1117 Sc1117 => w_X9_reached (f (i + 1)) (f (i + 2)) Sc1117 (fun r1135 Sc1135 => (Sc1135 33 (-1) = Sc1117 33 (-1)) ∧ w_X9_thrown Sc1135 (fun r1141 Sc1141 => ((r1141 = r1117 → ((¬ r1117 = 0 → (Sc1141 33 (-1) = Sc1117 33 (-1)) ∧ Q Sc1141) ∧ (r1117 = 0 → (((Sc1141 98 0) = r1135 → (Sc1141 33 (-1) = Sc1117 33 (-1)) ∧ Q Sc1141) ∧ (¬ (Sc1141 98 0) = r1135 → False))))) ∧ (¬ r1141 = r1117 → False)))))
def w_K15 (f : Int → Int) (i : Int) (S : xS) (Q : xS → Prop) : Prop :=
  w_L_variableIn (f (i + 1)) (f (i + 2)) S (fun r1184 Sc1184 => w_X9_variableIn (f (i + 1)) (f (i + 2)) Sc1184 (fun r1202 Sc1202 => (Sc1202 33 (-1) = Sc1184 33 (-1)) ∧ w_X9_thrown Sc1202 (fun r1208 Sc1208 => ((r1208 = r1184 → ((¬ r1184 = 0 → (Sc1208 33 (-1) = Sc1184 33 (-1)) ∧ Q Sc1208) ∧ (r1184 = 0 → (((Sc1208 98 0) = r1202 → (Sc1208 33 (-1) = Sc1184 33 (-1)) ∧ Q Sc1208) ∧ (¬ (Sc1208 98 0) = r1202 → False))))) ∧ (¬ r1208 = r1184 → False)))))
def w_K16 (f : Int → Int) (i : Int) (S : xS) (Q : xS → Prop) : Prop :=
  w_L_made S (fun r1240 Sc1240 => w_X9_made Sc1240 (fun r1246 Sc1246 => (Sc1246 33 (-1) = Sc1240 33 (-1)) ∧ w_X9_thrown Sc1246 (fun r1252 Sc1252 => ((r1252 = r1240 → ((¬ r1240 = 0 → (Sc1252 33 (-1) = Sc1240 33 (-1)) ∧ Q Sc1252) ∧ (r1240 = 0 → (((Sc1252 98 0) = r1246 → (Sc1252 33 (-1) = Sc1240 33 (-1)) ∧ Q Sc1252) ∧ (¬ (Sc1252 98 0) = r1246 → False))))) ∧ (¬ r1252 = r1240 → False)))))
def w_K17 (f : Int → Int) (i : Int) (S : xS) (Q : xS → Prop) : Prop :=
  w_L_fault S (fun r1283 Sc1283 => w_X9_fault Sc1283 (fun r1289 Sc1289 => (Sc1289 33 (-1) = Sc1283 33 (-1)) ∧ w_X9_thrown Sc1289 (fun r1295 Sc1295 => ((r1295 = r1283 → ((¬ r1283 = 0 → (Sc1295 33 (-1) = Sc1283 33 (-1)) ∧ Q Sc1295) ∧ (r1283 = 0 → (((Sc1295 98 0) = r1289 → (Sc1295 33 (-1) = Sc1283 33 (-1)) ∧ Q Sc1295) ∧ (¬ (Sc1295 98 0) = r1289 → False))))) ∧ (¬ r1295 = r1283 → False)))))
def w_K18 (f : Int → Int) (i : Int) (S : xS) (Q : xS → Prop) : Prop :=
  w_L_traceLength S (fun r1327 Sc1327 => w_X9_traceLength Sc1327 (fun r1333 Sc1333 => (Sc1333 33 (-1) = Sc1327 33 (-1)) ∧ w_X9_thrown Sc1333 (fun r1339 Sc1339 => ((r1339 = r1327 → ((¬ r1327 = 0 → (Sc1339 33 (-1) = Sc1327 33 (-1)) ∧ Q Sc1339) ∧ (r1327 = 0 → (((Sc1339 98 0) = r1333 → (Sc1339 33 (-1) = Sc1327 33 (-1)) ∧ Q Sc1339) ∧ (¬ (Sc1339 98 0) = r1333 → False))))) ∧ (¬ r1339 = r1327 → False)))))
def w_K19 (f : Int → Int) (i : Int) (S : xS) (Q : xS → Prop) : Prop :=
  w_L_traceProcess (f (i + 1)) S (fun r1377 Sc1377 => w_X9_traceProcess (f (i + 1)) Sc1377 (fun r1389 Sc1389 => (Sc1389 33 (-1) = Sc1377 33 (-1)) ∧ w_X9_thrown Sc1389 (fun r1395 Sc1395 => ((r1395 = r1377 → ((¬ r1377 = 0 → (Sc1395 33 (-1) = Sc1377 33 (-1)) ∧ Q Sc1395) ∧ (r1377 = 0 → (((Sc1395 98 0) = r1389 → (Sc1395 33 (-1) = Sc1377 33 (-1)) ∧ Q Sc1395) ∧ (¬ (Sc1395 98 0) = r1389 → False))))) ∧ (¬ r1395 = r1377 → False)))))
def w_K20 (f : Int → Int) (i : Int) (S : xS) (Q : xS → Prop) : Prop :=
  w_L_traceStep (f (i + 1)) S (fun r1433 Sc1433 => w_X9_traceStep (f (i + 1)) Sc1433 (fun r1445 Sc1445 => (Sc1445 33 (-1) = Sc1433 33 (-1)) ∧ w_X9_thrown Sc1445 (fun r1451 Sc1451 => ((r1451 = r1433 → ((¬ r1433 = 0 → (Sc1451 33 (-1) = Sc1433 33 (-1)) ∧ Q Sc1451) ∧ (r1433 = 0 → (((Sc1451 98 0) = r1445 → (Sc1451 33 (-1) = Sc1433 33 (-1)) ∧ Q Sc1451) ∧ (¬ (Sc1451 98 0) = r1445 → False))))) ∧ (¬ r1451 = r1433 → False)))))
def w_K21_J1523 (Q : xS → Prop) (Sc1495 : xS) (t0_1523 : Int) (S1523 : xS) : Prop :=
  (((Sc1495 98 0) = t0_1523 → Q S1523) ∧ (¬ (Sc1495 98 0) = t0_1523 → False))
def w_K21 (f : Int → Int) (i : Int) (S : xS) (Q : xS → Prop) : Prop :=
  w_L_replays S (fun r1483 Sc1483 => w_X9_replays Sc1483 (fun r1489 Sc1489 => (Sc1489 33 (-1) = Sc1483 33 (-1)) ∧ w_X9_thrown Sc1489 (fun r1495 Sc1495 => ((r1495 = r1483 → ((¬ r1483 = 0 → (Sc1495 33 (-1) = Sc1483 33 (-1)) ∧ Q Sc1495) ∧ (r1483 = 0 → xJ1 (w_K21_J1523 Q Sc1495) (fun j1523 => ((r1489 = 0 → (Sc1495 33 (-1) = Sc1483 33 (-1)) ∧ j1523 0 Sc1495) ∧ (¬ r1489 = 0 → (Sc1495 33 (-1) = Sc1483 33 (-1)) ∧ j1523 1 Sc1495)))))) ∧ (¬ r1495 = r1483 → False)))))
def w_K22_J1626 (Q : xS → Prop) (Sc1598 : xS) (t0_1626 : Int) (S1626 : xS) : Prop :=
  (((Sc1598 98 0) = t0_1626 → Q S1626) ∧ (¬ (Sc1598 98 0) = t0_1626 → False))
def w_K22_J1592 (f : Int → Int) (i : Int) (Q : xS → Prop) (r1560 : Int) (t0_1592 : Int) (S1592 : xS) : Prop :=
  w_X9_recurs (f (i + 1)) (f (i + 2)) t0_1592 S1592 (fun r1592 Sc1592 => (Sc1592 33 (-1) = S1592 33 (-1)) ∧ w_X9_thrown Sc1592 (fun r1598 Sc1598 => ((r1598 = r1560 → ((¬ r1560 = 0 → (Sc1598 33 (-1) = S1592 33 (-1)) ∧ Q Sc1598) ∧ (r1560 = 0 → xJ1 (w_K22_J1626 Q Sc1598) (fun j1626 => ((r1592 = 0 → (Sc1598 33 (-1) = S1592 33 (-1)) ∧ j1626 0 Sc1598) ∧ (¬ r1592 = 0 → (Sc1598 33 (-1) = S1592 33 (-1)) ∧ j1626 1 Sc1598)))))) ∧ (¬ r1598 = r1560 → False))))
def w_K22_J1559 (f : Int → Int) (i : Int) (Q : xS → Prop) (t0_1559 : Int) (S1559 : xS) : Prop :=
  w_L_recurs (f (i + 1)) (f (i + 2)) t0_1559 S1559 (fun r1560 Sc1560 => xJ1 (w_K22_J1592 f i Q r1560) (fun j1592 => (((f (i + 3)) = 0 → j1592 0 Sc1560) ∧ (¬ (f (i + 3)) = 0 → j1592 1 Sc1560))))
def w_K22 (f : Int → Int) (i : Int) (S : xS) (Q : xS → Prop) : Prop :=
  xJ1 (w_K22_J1559 f i Q) (fun j1559 => (((f (i + 3)) = 0 → j1559 0 S) ∧ (¬ (f (i + 3)) = 0 → j1559 1 S)))
def w_K23_J1701 (Q : xS → Prop) (Sc1673 : xS) (t0_1701 : Int) (S1701 : xS) : Prop :=
  (((Sc1673 98 0) = t0_1701 → Q S1701) ∧ (¬ (Sc1673 98 0) = t0_1701 → False))
def w_K23 (f : Int → Int) (i : Int) (S : xS) (Q : xS → Prop) : Prop :=
  w_L_recursByTaking (f (i + 1)) (f (i + 2)) S (fun r1649 Sc1649 => w_X9_recursByTaking (f (i + 1)) (f (i + 2)) Sc1649 (fun r1667 Sc1667 => (Sc1667 33 (-1) = Sc1649 33 (-1)) ∧ w_X9_thrown Sc1667 (fun r1673 Sc1673 => ((r1673 = r1649 → ((¬ r1649 = 0 → (Sc1673 33 (-1) = Sc1649 33 (-1)) ∧ Q Sc1673) ∧ (r1649 = 0 → xJ1 (w_K23_J1701 Q Sc1673) (fun j1701 => ((r1667 = 0 → (Sc1673 33 (-1) = Sc1649 33 (-1)) ∧ j1701 0 Sc1673) ∧ (¬ r1667 = 0 → (Sc1673 33 (-1) = Sc1649 33 (-1)) ∧ j1701 1 Sc1673)))))) ∧ (¬ r1673 = r1649 → False)))))
def w_K24_J1804 (Q : xS → Prop) (Sc1776 : xS) (t0_1804 : Int) (S1804 : xS) : Prop :=
  (((Sc1776 98 0) = t0_1804 → Q S1804) ∧ (¬ (Sc1776 98 0) = t0_1804 → False))
def w_K24_J1770 (f : Int → Int) (i : Int) (Q : xS → Prop) (r1738 : Int) (t0_1770 : Int) (S1770 : xS) : Prop :=
  w_X9_comes (f (i + 1)) (f (i + 2)) t0_1770 S1770 (fun r1770 Sc1770 => (Sc1770 33 (-1) = S1770 33 (-1)) ∧ w_X9_thrown Sc1770 (fun r1776 Sc1776 => ((r1776 = r1738 → ((¬ r1738 = 0 → (Sc1776 33 (-1) = S1770 33 (-1)) ∧ Q Sc1776) ∧ (r1738 = 0 → xJ1 (w_K24_J1804 Q Sc1776) (fun j1804 => ((r1770 = 0 → (Sc1776 33 (-1) = S1770 33 (-1)) ∧ j1804 0 Sc1776) ∧ (¬ r1770 = 0 → (Sc1776 33 (-1) = S1770 33 (-1)) ∧ j1804 1 Sc1776)))))) ∧ (¬ r1776 = r1738 → False))))
def w_K24_J1737 (f : Int → Int) (i : Int) (Q : xS → Prop) (t0_1737 : Int) (S1737 : xS) : Prop :=
  w_L_comes (f (i + 1)) (f (i + 2)) t0_1737 S1737 (fun r1738 Sc1738 => xJ1 (w_K24_J1770 f i Q r1738) (fun j1770 => (((f (i + 3)) = 0 → j1770 0 Sc1738) ∧ (¬ (f (i + 3)) = 0 → j1770 1 Sc1738))))
def w_K24 (f : Int → Int) (i : Int) (S : xS) (Q : xS → Prop) : Prop :=
  xJ1 (w_K24_J1737 f i Q) (fun j1737 => (((f (i + 3)) = 0 → j1737 0 S) ∧ (¬ (f (i + 3)) = 0 → j1737 1 S)))
def w_K25_J1931 (Q : xS → Prop) (Sc1903 : xS) (t0_1931 : Int) (S1931 : xS) : Prop :=
  (((Sc1903 98 0) = t0_1931 → Q S1931) ∧ (¬ (Sc1903 98 0) = t0_1931 → False))
def w_K25_J1897 (f : Int → Int) (i : Int) (Q : xS → Prop) (r1853 : Int) (t0_1897 : Int) (S1897 : xS) : Prop :=
  w_X9_follows (f (i + 1)) (f (i + 2)) (f (i + 3)) (f (i + 4)) t0_1897 S1897 (fun r1897 Sc1897 => (Sc1897 33 (-1) = S1897 33 (-1)) ∧ w_X9_thrown Sc1897 (fun r1903 Sc1903 => ((r1903 = r1853 → ((¬ r1853 = 0 → (Sc1903 33 (-1) = S1897 33 (-1)) ∧ Q Sc1903) ∧ (r1853 = 0 → xJ1 (w_K25_J1931 Q Sc1903) (fun j1931 => ((r1897 = 0 → (Sc1903 33 (-1) = S1897 33 (-1)) ∧ j1931 0 Sc1903) ∧ (¬ r1897 = 0 → (Sc1903 33 (-1) = S1897 33 (-1)) ∧ j1931 1 Sc1903)))))) ∧ (¬ r1903 = r1853 → False))))
def w_K25_J1852 (f : Int → Int) (i : Int) (Q : xS → Prop) (t0_1852 : Int) (S1852 : xS) : Prop :=
  w_L_follows (f (i + 1)) (f (i + 2)) (f (i + 3)) (f (i + 4)) t0_1852 S1852 (fun r1853 Sc1853 => xJ1 (w_K25_J1897 f i Q r1853) (fun j1897 => (((f (i + 5)) = 0 → j1897 0 Sc1853) ∧ (¬ (f (i + 5)) = 0 → j1897 1 Sc1853))))
def w_K25 (f : Int → Int) (i : Int) (S : xS) (Q : xS → Prop) : Prop :=
  xJ1 (w_K25_J1852 f i Q) (fun j1852 => (((f (i + 5)) = 0 → j1852 0 S) ∧ (¬ (f (i + 5)) = 0 → j1852 1 S)))
def w_K26 (f : Int → Int) (i : Int) (S : xS) (Q : xS → Prop) : Prop :=
  w_L_distance (f (i + 1)) (f (i + 2)) S (fun r1954 Sc1954 => w_X9_distance (f (i + 1)) (f (i + 2)) Sc1954 (fun r1972 Sc1972 => (Sc1972 33 (-1) = Sc1954 33 (-1)) ∧ w_X9_thrown Sc1972 (fun r1978 Sc1978 => ((r1978 = r1954 → ((¬ r1954 = 0 → (Sc1978 33 (-1) = Sc1954 33 (-1)) ∧ Q Sc1978) ∧ (r1954 = 0 → (((Sc1978 98 0) = r1972 → (Sc1978 33 (-1) = Sc1954 33 (-1)) ∧ Q Sc1978) ∧ (¬ (Sc1978 98 0) = r1972 → False))))) ∧ (¬ r1978 = r1954 → False)))))
def w_K27 (f : Int → Int) (i : Int) (S : xS) (Q : xS → Prop) : Prop :=
  w_L_components S (fun r2010 Sc2010 => w_X9_components Sc2010 (fun r2016 Sc2016 => (Sc2016 33 (-1) = Sc2010 33 (-1)) ∧ w_X9_thrown Sc2016 (fun r2022 Sc2022 => ((r2022 = r2010 → ((¬ r2010 = 0 → (Sc2022 33 (-1) = Sc2010 33 (-1)) ∧ Q Sc2022) ∧ (r2010 = 0 → (((Sc2022 98 0) = r2016 → (Sc2022 33 (-1) = Sc2010 33 (-1)) ∧ Q Sc2022) ∧ (¬ (Sc2022 98 0) = r2016 → False))))) ∧ (¬ r2022 = r2010 → False)))))
def w_K28 (f : Int → Int) (i : Int) (S : xS) (Q : xS → Prop) : Prop :=
  w_L_meanMoves S (fun r2055 Sc2055 => w_X9_meanMoves Sc2055 (fun r2061 Sc2061 => (Sc2061 33 (-1) = Sc2055 33 (-1)) ∧ w_X9_thrown Sc2061 (fun r2067 Sc2067 => ((r2067 = r2055 → ((¬ r2055 = 0 → (Sc2067 33 (-1) = Sc2055 33 (-1)) ∧ Q Sc2067) ∧ (r2055 = 0 → ((((Op.cmpValue (FP.dcmp ((jN (Sc2067 99 0)).toUInt64) r2061) CmpOp.l).toInt) = 0 → (Sc2067 33 (-1) = Sc2055 33 (-1)) ∧ Q Sc2067) ∧ (¬ ((Op.cmpValue (FP.dcmp ((jN (Sc2067 99 0)).toUInt64) r2061) CmpOp.l).toInt) = 0 → ((((Op.cmpValue (FP.dcmp ((jN (Sc2067 99 0)).toUInt64) ((jN (Sc2067 99 0)).toUInt64)) CmpOp.l).toInt) = 0 → False) ∧ (¬ ((Op.cmpValue (FP.dcmp ((jN (Sc2067 99 0)).toUInt64) ((jN (Sc2067 99 0)).toUInt64)) CmpOp.l).toInt) = 0 → ((¬ ((Op.cmpValue (FP.dcmp r2061 r2061) CmpOp.l).toInt) = 0 → (Sc2067 33 (-1) = Sc2055 33 (-1)) ∧ Q Sc2067) ∧ (((Op.cmpValue (FP.dcmp r2061 r2061) CmpOp.l).toInt) = 0 → False))))))))) ∧ (¬ r2067 = r2055 → False)))))
def w_K29 (f : Int → Int) (i : Int) (S : xS) (Q : xS → Prop) : Prop :=
  w_L_newShare S (fun r2120 Sc2120 => w_X9_newShare Sc2120 (fun r2126 Sc2126 => (Sc2126 33 (-1) = Sc2120 33 (-1)) ∧ w_X9_thrown Sc2126 (fun r2132 Sc2132 => ((r2132 = r2120 → ((¬ r2120 = 0 → (Sc2132 33 (-1) = Sc2120 33 (-1)) ∧ Q Sc2132) ∧ (r2120 = 0 → (vf_n64 (FP.f2d r2126)) ∧ ((((Op.cmpValue (FP.dcmp ((jN (Sc2132 99 0)).toUInt64) (FP.f2d r2126)) CmpOp.l).toInt) = 0 → (Sc2132 33 (-1) = Sc2120 33 (-1)) ∧ Q Sc2132) ∧ (¬ ((Op.cmpValue (FP.dcmp ((jN (Sc2132 99 0)).toUInt64) (FP.f2d r2126)) CmpOp.l).toInt) = 0 → ((((Op.cmpValue (FP.dcmp ((jN (Sc2132 99 0)).toUInt64) ((jN (Sc2132 99 0)).toUInt64)) CmpOp.l).toInt) = 0 → False) ∧ (¬ ((Op.cmpValue (FP.dcmp ((jN (Sc2132 99 0)).toUInt64) ((jN (Sc2132 99 0)).toUInt64)) CmpOp.l).toInt) = 0 → ((¬ ((Op.cmpValue (FP.fcmp r2126 r2126) CmpOp.l).toInt) = 0 → (Sc2132 33 (-1) = Sc2120 33 (-1)) ∧ Q Sc2132) ∧ (((Op.cmpValue (FP.fcmp r2126 r2126) CmpOp.l).toInt) = 0 → False))))))))) ∧ (¬ r2132 = r2120 → False)))))
def w_K30 (f : Int → Int) (i : Int) (S : xS) (Q : xS → Prop) : Prop :=
  w_X8_isSound S (fun r2184 Sc2184 => (Sc2184 33 (-1) = S 33 (-1)) ∧ w_X9_isSound Sc2184 (fun r2188 Sc2188 => ((r2184 = r2188 → (Sc2188 33 (-1) = S 33 (-1)) ∧ Q Sc2188) ∧ (¬ r2184 = r2188 → False))))
set_option maxRecDepth 100000 in
set_option maxHeartbeats 4000000 in
theorem c_K0 {l : Launch} (hl9 : l.stackTraces = false) {D : va_G} {ca : Nat → ClassId} {ad : Nat → Nat} {tF : Nat} {p : Program} {e : Env} {s : State} {m : MethodId} {below : List Frame} {meth : Method} {c : Code} {A : Nat → Prop} {Z : State → Prop} {b L k0 n0 : Nat} {xs : Nat → Int32} {f : Int → Int} {i : Int} {S S0 : xS} {Q : xS → Prop}
    (C : xC (gC D ca ad tF) p c cL_law 9 s #[Value.ref b] RL m A) (hX : va_X b L xs s s.heap) (hbl : b < s.heap.size) (hbA : ¬ A b) (hL : L ≤ 3584) (hff : f = xsI xs) (h0 : 0 ≤ i ∧ i + 6 < (L : Int)) (hk9 : k0 + 5 + xgc S0 ≤ 603072 ∧ n0 + 30 + xgs S0 ≤ 7198826) (ha0 : xAl S0 S) (hw : xval (gC D ca ad tF) S) (h : w_K0 f i S Q)
    (hk : ∀ S' : xS, Q S' → xval (gC D ca ad tF) S' → xAl S0 S' → xV (gC D ca ad tF) p l e room_1 s m #[Value.ref b] below meth c A 9 Z (k0 + 5 + (xgc S0 - xgc S')) (n0 + 30 + (xgs S0 - xgs S')) 2196 [(5, .int (iN i)), (0, .ref b), (1, .ref (ad 0)), (2, .ref (ad 54)), (3, .ref (ad 98)), (4, .ref (ad 99))] [] S') :
    xV (gC D ca ad tF) p l e room_1 s m #[Value.ref b] below meth c A 9 Z (k0 + 0 + (xgc S0 - xgc S)) (n0 + 0 + (xgs S0 - xgs S)) 184 [(5, .int (iN i)), (0, .ref b), (1, .ref (ad 0)), (2, .ref (ad 54)), (3, .ref (ad 98)), (4, .ref (ad 99))] [] S := by
  have h_i : xR i := ⟨by omega, by omega⟩
  have hf : ∀ z, xR (f z) := fun z => by rw [hff]; exact xR_I _
  unfold w_K0 at h
  refine xi_aload_n C 2 dL_law_184 rfl rfl ?_
  refine xi_aload_n C 4 dL_law_185 rfl rfl ?_
  refine xl_SH C hw ha0 rfl (c_L_addProcess l D ca ad tF S _ h hl9) xkh_L_addProcess xs_L_addProcess xl_L_131 ⟨Nat.le_of_ble_eq_true rfl, Nat.le_of_ble_eq_true rfl⟩ ⟨xrL hk9.1 (Nat.le_of_ble_eq_true rfl), xrL hk9.2 (Nat.le_of_ble_eq_true rfl)⟩ rfl rfl (Nat.le_of_ble_eq_true rfl) dL_law_186 (fun E9 S9 h9 _ _ => h9.elim) (fun r9 Sc186 h9 hw1 ha2 => ?_)
  obtain ⟨r186, rfl, h_r186, h⟩ := h9
  refine xi_istore C (L' := [(6, .int (iN r186)), (5, .int (iN i)), (0, .ref b), (1, .ref (ad 0)), (2, .ref (ad 54)), (3, .ref (ad 98)), (4, .ref (ad 99))]) dL_law_189 (by decide) rfl ?_
  refine xi_aload_n C 4 dL_law_191 rfl rfl ?_
  refine xc_Vi C hw1 (c_X9_addProcess l D ca ad tF Sc186 _ h) xk_X9_addProcess xv_X9_addProcess xl_L_136 ⟨Nat.le_of_ble_eq_true rfl, Nat.le_of_ble_eq_true rfl⟩ xK_X9 (q := 54) rfl rfl rfl (Nat.le_of_ble_eq_true rfl) ⟨xrM hk9.1 (Nat.le_of_ble_eq_true rfl), xrM hk9.2 (Nat.le_of_ble_eq_true rfl)⟩ dL_law_192 (fun r192 Sc192 h_r192 h hw3 => ?_)
  refine xi_istore C (L' := [(7, .int (iN r192)), (6, .int (iN r186)), (5, .int (iN i)), (0, .ref b), (1, .ref (ad 0)), (2, .ref (ad 54)), (3, .ref (ad 98)), (4, .ref (ad 99))]) dL_law_195 (by decide) rfl ?_
  refine xi_aload_n C 5 dL_law_197 rfl rfl ?_
  obtain ⟨hc4, h⟩ := h
  refine xc_Vi C hw3 (c_X9_thrown l D ca ad tF Sc192 _ h) xk_X9_thrown xv_X9_thrown xl_L_137 ⟨Nat.le_of_ble_eq_true rfl, Nat.le_of_ble_eq_true rfl⟩ xK_X9 (q := 54) rfl rfl rfl (Nat.le_of_ble_eq_true rfl) ⟨xrM hk9.1 (Nat.le_of_ble_eq_true rfl), xrM hk9.2 (Nat.le_of_ble_eq_true rfl)⟩ dL_law_198 (fun r198 Sc198 h_r198 h hw5 => ?_)
  refine xi_iload C 1 dL_law_201 rfl ?_
  refine xi_icmp_eq C 208 h_r198 h_r186 dL_law_203 (by decide) (fun z6 => ?_) (fun z6 => ?_)
  · replace h := h.1 z6
    refine xi_iload C 1 dL_law_208 rfl ?_
    refine xi_if_ne C 225 h_r186 dL_law_210 (by decide) (fun z7 => ?_) (fun z7 => ?_)
    · replace h := h.1 z7
      refine xi_goto C 2196 dL_law_225 (by decide) ?_
      obtain ⟨hc8, h⟩ := h
      exact xV_alY (S1 := Sc198) hc8 (xV_wid (xrK (Nat.le_of_ble_eq_true rfl)) (xrK (Nat.le_of_ble_eq_true rfl)) (xi_sub [2, 3, 4, 5, 6, 7] rfl (hk Sc198 h hw5 (ha2.eq hc8))))
    · replace h := h.2 z7
      refine xi_aload_n C 6 dL_law_213 rfl rfl ?_
      refine xi_iconst C (v := 0) dL_law_214 rfl ?_
      refine xi_laload C (q := 98) rfl (by decide) (by decide) dL_law_215 ?_
      refine xi_iload C 0 dL_law_216 rfl ?_
      refine xi_i2l C h_r192 dL_law_218 ?_
      refine xi_lcmp_eq C 225 (xval.j (q := 98) (i := 0) hw5 (by decide) rfl) (xR_J h_r192) dL_law_219 dL_law_220 (by decide) (fun z9 => ?_) (fun z9 => ?_)
      · replace h := h.1 z9
        refine xi_goto C 2196 dL_law_225 (by decide) ?_
        obtain ⟨hc10, h⟩ := h
        exact xV_alY (S1 := Sc198) hc10 (xV_wid (xrK (Nat.le_of_ble_eq_true rfl)) (xrK (Nat.le_of_ble_eq_true rfl)) (xi_sub [2, 3, 4, 5, 6, 7] rfl (hk Sc198 h hw5 (ha2.eq hc10))))
      · replace h := h.2 z9
        refine xi_iconst C (v := 0) dL_law_223 rfl ?_
        exact h.elim
  · replace h := h.2 z6
    refine xi_iconst C (v := 0) dL_law_206 rfl ?_
    exact h.elim
set_option maxRecDepth 100000 in
set_option maxHeartbeats 4000000 in
theorem c_K1 {l : Launch} (hl9 : l.stackTraces = false) {D : va_G} {ca : Nat → ClassId} {ad : Nat → Nat} {tF : Nat} {p : Program} {e : Env} {s : State} {m : MethodId} {below : List Frame} {meth : Method} {c : Code} {A : Nat → Prop} {Z : State → Prop} {b L k0 n0 : Nat} {xs : Nat → Int32} {f : Int → Int} {i : Int} {S S0 : xS} {Q : xS → Prop}
    (C : xC (gC D ca ad tF) p c cL_law 9 s #[Value.ref b] RL m A) (hX : va_X b L xs s s.heap) (hbl : b < s.heap.size) (hbA : ¬ A b) (hL : L ≤ 3584) (hff : f = xsI xs) (h0 : 0 ≤ i ∧ i + 6 < (L : Int)) (hk9 : k0 + 5 + xgc S0 ≤ 603072 ∧ n0 + 30 + xgs S0 ≤ 7198826) (ha0 : xAl S0 S) (hw : xval (gC D ca ad tF) S) (h : w_K1 f i S Q)
    (hk : ∀ S' : xS, Q S' → xval (gC D ca ad tF) S' → xAl S0 S' → xV (gC D ca ad tF) p l e room_1 s m #[Value.ref b] below meth c A 9 Z (k0 + 5 + (xgc S0 - xgc S')) (n0 + 30 + (xgs S0 - xgs S')) 2196 [(5, .int (iN i)), (0, .ref b), (1, .ref (ad 0)), (2, .ref (ad 54)), (3, .ref (ad 98)), (4, .ref (ad 99))] [] S') :
    xV (gC D ca ad tF) p l e room_1 s m #[Value.ref b] below meth c A 9 Z (k0 + 0 + (xgc S0 - xgc S)) (n0 + 0 + (xgs S0 - xgs S)) 228 [(5, .int (iN i)), (0, .ref b), (1, .ref (ad 0)), (2, .ref (ad 54)), (3, .ref (ad 98)), (4, .ref (ad 99))] [] S := by
  have h_i : xR i := ⟨by omega, by omega⟩
  have hf : ∀ z, xR (f z) := fun z => by rw [hff]; exact xR_I _
  unfold w_K1 at h
  refine xi_aload_n C 2 dL_law_228 rfl rfl ?_
  refine xi_aload_n C 1 dL_law_229 rfl rfl ?_
  refine xi_iload C 0 dL_law_230 rfl ?_
  refine xi_iconst C (v := 1) dL_law_232 rfl ?_
  refine xi_iadd C dL_law_233 ?_
  refine xi_sldF C hff hX hbl hbA (i := i + 1) (by omega) hL dL_law_234 ?_
  refine xi_aload_n C 1 dL_law_235 rfl rfl ?_
  refine xi_iload C 0 dL_law_236 rfl ?_
  refine xi_iconst C (v := 2) dL_law_238 rfl ?_
  refine xi_iadd C dL_law_239 ?_
  refine xi_sldF C hff hX hbl hbA (i := i + 2) (by omega) hL dL_law_240 ?_
  refine xi_aload_n C 1 dL_law_241 rfl rfl ?_
  refine xi_iload C 0 dL_law_242 rfl ?_
  refine xi_iconst C (v := 3) dL_law_244 rfl ?_
  refine xi_iadd C dL_law_245 ?_
  refine xi_sldF C hff hX hbl hbA (i := i + 3) (by omega) hL dL_law_246 ?_
  refine xi_aload_n C 1 dL_law_247 rfl rfl ?_
  refine xi_iload C 0 dL_law_248 rfl ?_
  refine xi_iconst C (v := 4) dL_law_250 rfl ?_
  refine xi_iadd C dL_law_251 ?_
  refine xi_sldF C hff hX hbl hbA (i := i + 4) (by omega) hL dL_law_252 ?_
  refine xi_i2c C dL_law_253 ?_
  refine xi_aload_n C 1 dL_law_254 rfl rfl ?_
  refine xi_iload C 0 dL_law_255 rfl ?_
  refine xi_iconst C (v := 5) dL_law_257 rfl ?_
  refine xi_iadd C dL_law_258 ?_
  refine xi_sldF C hff hX hbl hbA (i := i + 5) (by omega) hL dL_law_259 ?_
  refine xi_aload_n C 1 dL_law_260 rfl rfl ?_
  refine xi_iload C 0 dL_law_261 rfl ?_
  refine xi_bipush C (v := 6) dL_law_263 (by decide +kernel) ?_
  refine xi_iadd C dL_law_265 ?_
  refine xi_sldF C hff hX hbl hbA (i := i + 6) (by omega) hL dL_law_266 ?_
  refine xi_aload_n C 4 dL_law_267 rfl rfl ?_
  refine xl_SH C hw ha0 rfl (c_L_addStep l D ca ad tF (f (i + 1)) (f (i + 2)) (f (i + 3)) ((f (i + 4)) % 65536) (f (i + 5)) (f (i + 6)) S _ (hf _) (hf _) (hf _) (xR_c _) (hf _) (hf _) h hl9) xkh_L_addStep xs_L_addStep xl_L_140 ⟨Nat.le_of_ble_eq_true rfl, Nat.le_of_ble_eq_true rfl⟩ ⟨xrL hk9.1 (Nat.le_of_ble_eq_true rfl), xrL hk9.2 (Nat.le_of_ble_eq_true rfl)⟩ rfl rfl (Nat.le_of_ble_eq_true rfl) dL_law_268 (fun E9 S9 h9 _ _ => h9.elim) (fun r9 Sc268 h9 hw1 ha2 => ?_)
  obtain ⟨r268, rfl, h_r268, h⟩ := h9
  refine xi_istore C (L' := [(6, .int (iN r268)), (5, .int (iN i)), (0, .ref b), (1, .ref (ad 0)), (2, .ref (ad 54)), (3, .ref (ad 98)), (4, .ref (ad 99))]) dL_law_271 (by decide) rfl ?_
  refine xi_aload_n C 4 dL_law_273 rfl rfl ?_
  refine xi_aload_n C 2 dL_law_274 rfl rfl ?_
  refine xi_iload C 1 dL_law_275 rfl ?_
  refine xi_iconst C (v := 1) dL_law_277 rfl ?_
  refine xi_iadd C dL_law_278 ?_
  refine xi_sldF C hff hX hbl hbA (i := i + 1) (by omega) hL dL_law_279 ?_
  refine xi_aload_n C 2 dL_law_280 rfl rfl ?_
  refine xi_iload C 1 dL_law_281 rfl ?_
  refine xi_iconst C (v := 2) dL_law_283 rfl ?_
  refine xi_iadd C dL_law_284 ?_
  refine xi_sldF C hff hX hbl hbA (i := i + 2) (by omega) hL dL_law_285 ?_
  refine xi_aload_n C 2 dL_law_286 rfl rfl ?_
  refine xi_iload C 1 dL_law_287 rfl ?_
  refine xi_iconst C (v := 3) dL_law_289 rfl ?_
  refine xi_iadd C dL_law_290 ?_
  refine xi_sldF C hff hX hbl hbA (i := i + 3) (by omega) hL dL_law_291 ?_
  refine xi_aload_n C 2 dL_law_292 rfl rfl ?_
  refine xi_iload C 1 dL_law_293 rfl ?_
  refine xi_iconst C (v := 4) dL_law_295 rfl ?_
  refine xi_iadd C dL_law_296 ?_
  refine xi_sldF C hff hX hbl hbA (i := i + 4) (by omega) hL dL_law_297 ?_
  refine xi_i2c C dL_law_298 ?_
  refine xi_aload_n C 2 dL_law_299 rfl rfl ?_
  refine xi_iload C 1 dL_law_300 rfl ?_
  refine xi_iconst C (v := 5) dL_law_302 rfl ?_
  refine xi_iadd C dL_law_303 ?_
  refine xi_sldF C hff hX hbl hbA (i := i + 5) (by omega) hL dL_law_304 ?_
  refine xi_aload_n C 2 dL_law_305 rfl rfl ?_
  refine xi_iload C 1 dL_law_306 rfl ?_
  refine xi_bipush C (v := 6) dL_law_308 (by decide +kernel) ?_
  refine xi_iadd C dL_law_310 ?_
  refine xi_sldF C hff hX hbl hbA (i := i + 6) (by omega) hL dL_law_311 ?_
  refine xc_Vi C hw1 (c_X9_addStep l D ca ad tF (f (i + 1)) (f (i + 2)) (f (i + 3)) ((f (i + 4)) % 65536) (f (i + 5)) (f (i + 6)) Sc268 _ (hf _) (hf _) (hf _) (xR_c _) (hf _) (hf _) h) xk_X9_addStep xv_X9_addStep xl_L_143 ⟨Nat.le_of_ble_eq_true rfl, Nat.le_of_ble_eq_true rfl⟩ xK_X9 (q := 54) rfl rfl rfl (Nat.le_of_ble_eq_true rfl) ⟨xrM hk9.1 (Nat.le_of_ble_eq_true rfl), xrM hk9.2 (Nat.le_of_ble_eq_true rfl)⟩ dL_law_312 (fun r312 Sc312 h_r312 h hw3 => ?_)
  refine xi_istore C (L' := [(7, .int (iN r312)), (6, .int (iN r268)), (5, .int (iN i)), (0, .ref b), (1, .ref (ad 0)), (2, .ref (ad 54)), (3, .ref (ad 98)), (4, .ref (ad 99))]) dL_law_315 (by decide) rfl ?_
  refine xi_aload_n C 5 dL_law_317 rfl rfl ?_
  obtain ⟨hc4, h⟩ := h
  refine xc_Vi C hw3 (c_X9_thrown l D ca ad tF Sc312 _ h) xk_X9_thrown xv_X9_thrown xl_L_137 ⟨Nat.le_of_ble_eq_true rfl, Nat.le_of_ble_eq_true rfl⟩ xK_X9 (q := 54) rfl rfl rfl (Nat.le_of_ble_eq_true rfl) ⟨xrM hk9.1 (Nat.le_of_ble_eq_true rfl), xrM hk9.2 (Nat.le_of_ble_eq_true rfl)⟩ dL_law_318 (fun r318 Sc318 h_r318 h hw5 => ?_)
  refine xi_iload C 1 dL_law_321 rfl ?_
  refine xi_icmp_eq C 328 h_r318 h_r268 dL_law_323 (by decide) (fun z6 => ?_) (fun z6 => ?_)
  · replace h := h.1 z6
    refine xi_iload C 1 dL_law_328 rfl ?_
    refine xi_if_ne C 345 h_r268 dL_law_330 (by decide) (fun z7 => ?_) (fun z7 => ?_)
    · replace h := h.1 z7
      refine xi_goto C 2196 dL_law_345 (by decide) ?_
      obtain ⟨hc8, h⟩ := h
      exact xV_alY (S1 := Sc318) hc8 (xV_wid (xrK (Nat.le_of_ble_eq_true rfl)) (xrK (Nat.le_of_ble_eq_true rfl)) (xi_sub [2, 3, 4, 5, 6, 7] rfl (hk Sc318 h hw5 (ha2.eq hc8))))
    · replace h := h.2 z7
      refine xi_aload_n C 6 dL_law_333 rfl rfl ?_
      refine xi_iconst C (v := 0) dL_law_334 rfl ?_
      refine xi_laload C (q := 98) rfl (by decide) (by decide) dL_law_335 ?_
      refine xi_iload C 0 dL_law_336 rfl ?_
      refine xi_i2l C h_r312 dL_law_338 ?_
      refine xi_lcmp_eq C 345 (xval.j (q := 98) (i := 0) hw5 (by decide) rfl) (xR_J h_r312) dL_law_339 dL_law_340 (by decide) (fun z9 => ?_) (fun z9 => ?_)
      · replace h := h.1 z9
        refine xi_goto C 2196 dL_law_345 (by decide) ?_
        obtain ⟨hc10, h⟩ := h
        exact xV_alY (S1 := Sc318) hc10 (xV_wid (xrK (Nat.le_of_ble_eq_true rfl)) (xrK (Nat.le_of_ble_eq_true rfl)) (xi_sub [2, 3, 4, 5, 6, 7] rfl (hk Sc318 h hw5 (ha2.eq hc10))))
      · replace h := h.2 z9
        refine xi_iconst C (v := 0) dL_law_343 rfl ?_
        exact h.elim
  · replace h := h.2 z6
    refine xi_iconst C (v := 0) dL_law_326 rfl ?_
    exact h.elim
set_option maxRecDepth 100000 in
set_option maxHeartbeats 4000000 in
theorem c_K2 {l : Launch} (hl9 : l.stackTraces = false) {D : va_G} {ca : Nat → ClassId} {ad : Nat → Nat} {tF : Nat} {p : Program} {e : Env} {s : State} {m : MethodId} {below : List Frame} {meth : Method} {c : Code} {A : Nat → Prop} {Z : State → Prop} {b L k0 n0 : Nat} {xs : Nat → Int32} {f : Int → Int} {i : Int} {S S0 : xS} {Q : xS → Prop}
    (C : xC (gC D ca ad tF) p c cL_law 9 s #[Value.ref b] RL m A) (hX : va_X b L xs s s.heap) (hbl : b < s.heap.size) (hbA : ¬ A b) (hL : L ≤ 3584) (hff : f = xsI xs) (h0 : 0 ≤ i ∧ i + 6 < (L : Int)) (hk9 : k0 + 5 + xgc S0 ≤ 603072 ∧ n0 + 30 + xgs S0 ≤ 7198826) (ha0 : xAl S0 S) (hw : xval (gC D ca ad tF) S) (h : w_K2 f i S Q)
    (hk : ∀ S' : xS, Q S' → xval (gC D ca ad tF) S' → xAl S0 S' → xV (gC D ca ad tF) p l e room_1 s m #[Value.ref b] below meth c A 9 Z (k0 + 5 + (xgc S0 - xgc S')) (n0 + 30 + (xgs S0 - xgs S')) 2196 [(5, .int (iN i)), (0, .ref b), (1, .ref (ad 0)), (2, .ref (ad 54)), (3, .ref (ad 98)), (4, .ref (ad 99))] [] S') :
    xV (gC D ca ad tF) p l e room_1 s m #[Value.ref b] below meth c A 9 Z (k0 + 0 + (xgc S0 - xgc S)) (n0 + 0 + (xgs S0 - xgs S)) 348 [(5, .int (iN i)), (0, .ref b), (1, .ref (ad 0)), (2, .ref (ad 54)), (3, .ref (ad 98)), (4, .ref (ad 99))] [] S := by
  have h_i : xR i := ⟨by omega, by omega⟩
  have hf : ∀ z, xR (f z) := fun z => by rw [hff]; exact xR_I _
  unfold w_K2 at h
  refine xi_aload_n C 2 dL_law_348 rfl rfl ?_
  refine xi_aload_n C 1 dL_law_349 rfl rfl ?_
  refine xi_iload C 0 dL_law_350 rfl ?_
  refine xi_iconst C (v := 1) dL_law_352 rfl ?_
  refine xi_iadd C dL_law_353 ?_
  refine xi_sldF C hff hX hbl hbA (i := i + 1) (by omega) hL dL_law_354 ?_
  refine xi_aload_n C 4 dL_law_355 rfl rfl ?_
  refine xl_SH C hw ha0 rfl (c_L_addChannel l D ca ad tF (f (i + 1)) S _ (hf _) h hl9) xkh_L_addChannel xs_L_addChannel xl_L_144 ⟨Nat.le_of_ble_eq_true rfl, Nat.le_of_ble_eq_true rfl⟩ ⟨xrL hk9.1 (Nat.le_of_ble_eq_true rfl), xrL hk9.2 (Nat.le_of_ble_eq_true rfl)⟩ rfl rfl (Nat.le_of_ble_eq_true rfl) dL_law_356 (fun E9 S9 h9 _ _ => h9.elim) (fun r9 Sc356 h9 hw1 ha2 => ?_)
  obtain ⟨r356, rfl, h_r356, h⟩ := h9
  refine xi_istore C (L' := [(6, .int (iN r356)), (5, .int (iN i)), (0, .ref b), (1, .ref (ad 0)), (2, .ref (ad 54)), (3, .ref (ad 98)), (4, .ref (ad 99))]) dL_law_359 (by decide) rfl ?_
  refine xi_aload_n C 4 dL_law_361 rfl rfl ?_
  refine xi_aload_n C 2 dL_law_362 rfl rfl ?_
  refine xi_iload C 1 dL_law_363 rfl ?_
  refine xi_iconst C (v := 1) dL_law_365 rfl ?_
  refine xi_iadd C dL_law_366 ?_
  refine xi_sldF C hff hX hbl hbA (i := i + 1) (by omega) hL dL_law_367 ?_
  refine xc_Vi C hw1 (c_X9_addChannel l D ca ad tF (f (i + 1)) Sc356 _ (hf _) h) xk_X9_addChannel xv_X9_addChannel xl_L_147 ⟨Nat.le_of_ble_eq_true rfl, Nat.le_of_ble_eq_true rfl⟩ xK_X9 (q := 54) rfl rfl rfl (Nat.le_of_ble_eq_true rfl) ⟨xrM hk9.1 (Nat.le_of_ble_eq_true rfl), xrM hk9.2 (Nat.le_of_ble_eq_true rfl)⟩ dL_law_368 (fun r368 Sc368 h_r368 h hw3 => ?_)
  refine xi_istore C (L' := [(7, .int (iN r368)), (6, .int (iN r356)), (5, .int (iN i)), (0, .ref b), (1, .ref (ad 0)), (2, .ref (ad 54)), (3, .ref (ad 98)), (4, .ref (ad 99))]) dL_law_371 (by decide) rfl ?_
  refine xi_aload_n C 5 dL_law_373 rfl rfl ?_
  obtain ⟨hc4, h⟩ := h
  refine xc_Vi C hw3 (c_X9_thrown l D ca ad tF Sc368 _ h) xk_X9_thrown xv_X9_thrown xl_L_137 ⟨Nat.le_of_ble_eq_true rfl, Nat.le_of_ble_eq_true rfl⟩ xK_X9 (q := 54) rfl rfl rfl (Nat.le_of_ble_eq_true rfl) ⟨xrM hk9.1 (Nat.le_of_ble_eq_true rfl), xrM hk9.2 (Nat.le_of_ble_eq_true rfl)⟩ dL_law_374 (fun r374 Sc374 h_r374 h hw5 => ?_)
  refine xi_iload C 1 dL_law_377 rfl ?_
  refine xi_icmp_eq C 384 h_r374 h_r356 dL_law_379 (by decide) (fun z6 => ?_) (fun z6 => ?_)
  · replace h := h.1 z6
    refine xi_iload C 1 dL_law_384 rfl ?_
    refine xi_if_ne C 401 h_r356 dL_law_386 (by decide) (fun z7 => ?_) (fun z7 => ?_)
    · replace h := h.1 z7
      refine xi_goto C 2196 dL_law_401 (by decide) ?_
      obtain ⟨hc8, h⟩ := h
      exact xV_alY (S1 := Sc374) hc8 (xV_wid (xrK (Nat.le_of_ble_eq_true rfl)) (xrK (Nat.le_of_ble_eq_true rfl)) (xi_sub [2, 3, 4, 5, 6, 7] rfl (hk Sc374 h hw5 (ha2.eq hc8))))
    · replace h := h.2 z7
      refine xi_aload_n C 6 dL_law_389 rfl rfl ?_
      refine xi_iconst C (v := 0) dL_law_390 rfl ?_
      refine xi_laload C (q := 98) rfl (by decide) (by decide) dL_law_391 ?_
      refine xi_iload C 0 dL_law_392 rfl ?_
      refine xi_i2l C h_r368 dL_law_394 ?_
      refine xi_lcmp_eq C 401 (xval.j (q := 98) (i := 0) hw5 (by decide) rfl) (xR_J h_r368) dL_law_395 dL_law_396 (by decide) (fun z9 => ?_) (fun z9 => ?_)
      · replace h := h.1 z9
        refine xi_goto C 2196 dL_law_401 (by decide) ?_
        obtain ⟨hc10, h⟩ := h
        exact xV_alY (S1 := Sc374) hc10 (xV_wid (xrK (Nat.le_of_ble_eq_true rfl)) (xrK (Nat.le_of_ble_eq_true rfl)) (xi_sub [2, 3, 4, 5, 6, 7] rfl (hk Sc374 h hw5 (ha2.eq hc10))))
      · replace h := h.2 z9
        refine xi_iconst C (v := 0) dL_law_399 rfl ?_
        exact h.elim
  · replace h := h.2 z6
    refine xi_iconst C (v := 0) dL_law_382 rfl ?_
    exact h.elim
set_option maxRecDepth 100000 in
set_option maxHeartbeats 4000000 in
theorem c_K3 {l : Launch} (hl9 : l.stackTraces = false) {D : va_G} {ca : Nat → ClassId} {ad : Nat → Nat} {tF : Nat} {p : Program} {e : Env} {s : State} {m : MethodId} {below : List Frame} {meth : Method} {c : Code} {A : Nat → Prop} {Z : State → Prop} {b L k0 n0 : Nat} {xs : Nat → Int32} {f : Int → Int} {i : Int} {S S0 : xS} {Q : xS → Prop}
    (C : xC (gC D ca ad tF) p c cL_law 9 s #[Value.ref b] RL m A) (hX : va_X b L xs s s.heap) (hbl : b < s.heap.size) (hbA : ¬ A b) (hL : L ≤ 3584) (hff : f = xsI xs) (h0 : 0 ≤ i ∧ i + 6 < (L : Int)) (hk9 : k0 + 5 + xgc S0 ≤ 603072 ∧ n0 + 30 + xgs S0 ≤ 7198826) (ha0 : xAl S0 S) (hw : xval (gC D ca ad tF) S) (h : w_K3 f i S Q)
    (hk : ∀ S' : xS, Q S' → xval (gC D ca ad tF) S' → xAl S0 S' → xV (gC D ca ad tF) p l e room_1 s m #[Value.ref b] below meth c A 9 Z (k0 + 5 + (xgc S0 - xgc S')) (n0 + 30 + (xgs S0 - xgs S')) 2196 [(5, .int (iN i)), (0, .ref b), (1, .ref (ad 0)), (2, .ref (ad 54)), (3, .ref (ad 98)), (4, .ref (ad 99))] [] S') :
    xV (gC D ca ad tF) p l e room_1 s m #[Value.ref b] below meth c A 9 Z (k0 + 0 + (xgc S0 - xgc S)) (n0 + 0 + (xgs S0 - xgs S)) 404 [(5, .int (iN i)), (0, .ref b), (1, .ref (ad 0)), (2, .ref (ad 54)), (3, .ref (ad 98)), (4, .ref (ad 99))] [] S := by
  have h_i : xR i := ⟨by omega, by omega⟩
  have hf : ∀ z, xR (f z) := fun z => by rw [hff]; exact xR_I _
  unfold w_K3 at h
  refine xi_aload_n C 2 dL_law_404 rfl rfl ?_
  refine xi_aload_n C 1 dL_law_405 rfl rfl ?_
  refine xi_iload C 0 dL_law_406 rfl ?_
  refine xi_iconst C (v := 1) dL_law_408 rfl ?_
  refine xi_iadd C dL_law_409 ?_
  refine xi_sldF C hff hX hbl hbA (i := i + 1) (by omega) hL dL_law_410 ?_
  refine xi_aload_n C 1 dL_law_411 rfl rfl ?_
  refine xi_iload C 0 dL_law_412 rfl ?_
  refine xi_iconst C (v := 2) dL_law_414 rfl ?_
  refine xi_iadd C dL_law_415 ?_
  refine xi_sldF C hff hX hbl hbA (i := i + 2) (by omega) hL dL_law_416 ?_
  refine xi_aload_n C 4 dL_law_417 rfl rfl ?_
  refine xl_SH C hw ha0 rfl (c_L_setStart l D ca ad tF (f (i + 1)) (f (i + 2)) S _ (hf _) (hf _) h hl9) xkh_L_setStart xs_L_setStart xl_L_148 ⟨Nat.le_of_ble_eq_true rfl, Nat.le_of_ble_eq_true rfl⟩ ⟨xrL hk9.1 (Nat.le_of_ble_eq_true rfl), xrL hk9.2 (Nat.le_of_ble_eq_true rfl)⟩ rfl rfl (Nat.le_of_ble_eq_true rfl) dL_law_418 (fun E9 S9 h9 _ _ => h9.elim) (fun r9 Sc418 h9 hw1 ha2 => ?_)
  obtain ⟨r418, rfl, h_r418, h⟩ := h9
  refine xi_istore C (L' := [(6, .int (iN r418)), (5, .int (iN i)), (0, .ref b), (1, .ref (ad 0)), (2, .ref (ad 54)), (3, .ref (ad 98)), (4, .ref (ad 99))]) dL_law_421 (by decide) rfl ?_
  refine xi_aload_n C 4 dL_law_423 rfl rfl ?_
  refine xi_aload_n C 2 dL_law_424 rfl rfl ?_
  refine xi_iload C 1 dL_law_425 rfl ?_
  refine xi_iconst C (v := 1) dL_law_427 rfl ?_
  refine xi_iadd C dL_law_428 ?_
  refine xi_sldF C hff hX hbl hbA (i := i + 1) (by omega) hL dL_law_429 ?_
  refine xi_aload_n C 2 dL_law_430 rfl rfl ?_
  refine xi_iload C 1 dL_law_431 rfl ?_
  refine xi_iconst C (v := 2) dL_law_433 rfl ?_
  refine xi_iadd C dL_law_434 ?_
  refine xi_sldF C hff hX hbl hbA (i := i + 2) (by omega) hL dL_law_435 ?_
  refine xc_Vi C hw1 (c_X9_setStart l D ca ad tF (f (i + 1)) (f (i + 2)) Sc418 _ (hf _) (hf _) h) xk_X9_setStart xv_X9_setStart xl_L_151 ⟨Nat.le_of_ble_eq_true rfl, Nat.le_of_ble_eq_true rfl⟩ xK_X9 (q := 54) rfl rfl rfl (Nat.le_of_ble_eq_true rfl) ⟨xrM hk9.1 (Nat.le_of_ble_eq_true rfl), xrM hk9.2 (Nat.le_of_ble_eq_true rfl)⟩ dL_law_436 (fun r436 Sc436 h_r436 h hw3 => ?_)
  refine xi_istore C (L' := [(7, .int (iN r436)), (6, .int (iN r418)), (5, .int (iN i)), (0, .ref b), (1, .ref (ad 0)), (2, .ref (ad 54)), (3, .ref (ad 98)), (4, .ref (ad 99))]) dL_law_439 (by decide) rfl ?_
  refine xi_aload_n C 5 dL_law_441 rfl rfl ?_
  obtain ⟨hc4, h⟩ := h
  refine xc_Vi C hw3 (c_X9_thrown l D ca ad tF Sc436 _ h) xk_X9_thrown xv_X9_thrown xl_L_137 ⟨Nat.le_of_ble_eq_true rfl, Nat.le_of_ble_eq_true rfl⟩ xK_X9 (q := 54) rfl rfl rfl (Nat.le_of_ble_eq_true rfl) ⟨xrM hk9.1 (Nat.le_of_ble_eq_true rfl), xrM hk9.2 (Nat.le_of_ble_eq_true rfl)⟩ dL_law_442 (fun r442 Sc442 h_r442 h hw5 => ?_)
  refine xi_iload C 1 dL_law_445 rfl ?_
  refine xi_icmp_eq C 452 h_r442 h_r418 dL_law_447 (by decide) (fun z6 => ?_) (fun z6 => ?_)
  · replace h := h.1 z6
    refine xi_iload C 1 dL_law_452 rfl ?_
    refine xi_if_ne C 469 h_r418 dL_law_454 (by decide) (fun z7 => ?_) (fun z7 => ?_)
    · replace h := h.1 z7
      refine xi_goto C 2196 dL_law_469 (by decide) ?_
      obtain ⟨hc8, h⟩ := h
      exact xV_alY (S1 := Sc442) hc8 (xV_wid (xrK (Nat.le_of_ble_eq_true rfl)) (xrK (Nat.le_of_ble_eq_true rfl)) (xi_sub [2, 3, 4, 5, 6, 7] rfl (hk Sc442 h hw5 (ha2.eq hc8))))
    · replace h := h.2 z7
      refine xi_aload_n C 6 dL_law_457 rfl rfl ?_
      refine xi_iconst C (v := 0) dL_law_458 rfl ?_
      refine xi_laload C (q := 98) rfl (by decide) (by decide) dL_law_459 ?_
      refine xi_iload C 0 dL_law_460 rfl ?_
      refine xi_i2l C h_r436 dL_law_462 ?_
      refine xi_lcmp_eq C 469 (xval.j (q := 98) (i := 0) hw5 (by decide) rfl) (xR_J h_r436) dL_law_463 dL_law_464 (by decide) (fun z9 => ?_) (fun z9 => ?_)
      · replace h := h.1 z9
        refine xi_goto C 2196 dL_law_469 (by decide) ?_
        obtain ⟨hc10, h⟩ := h
        exact xV_alY (S1 := Sc442) hc10 (xV_wid (xrK (Nat.le_of_ble_eq_true rfl)) (xrK (Nat.le_of_ble_eq_true rfl)) (xi_sub [2, 3, 4, 5, 6, 7] rfl (hk Sc442 h hw5 (ha2.eq hc10))))
      · replace h := h.2 z9
        refine xi_iconst C (v := 0) dL_law_467 rfl ?_
        exact h.elim
  · replace h := h.2 z6
    refine xi_iconst C (v := 0) dL_law_450 rfl ?_
    exact h.elim
set_option maxRecDepth 100000 in
set_option maxHeartbeats 4000000 in
theorem c_K4 {l : Launch} (hl9 : l.stackTraces = false) {D : va_G} {ca : Nat → ClassId} {ad : Nat → Nat} {tF : Nat} {p : Program} {e : Env} {s : State} {m : MethodId} {below : List Frame} {meth : Method} {c : Code} {A : Nat → Prop} {Z : State → Prop} {b L k0 n0 : Nat} {xs : Nat → Int32} {f : Int → Int} {i : Int} {S S0 : xS} {Q : xS → Prop}
    (C : xC (gC D ca ad tF) p c cL_law 9 s #[Value.ref b] RL m A) (hX : va_X b L xs s s.heap) (hbl : b < s.heap.size) (hbA : ¬ A b) (hL : L ≤ 3584) (hff : f = xsI xs) (h0 : 0 ≤ i ∧ i + 6 < (L : Int)) (hk9 : k0 + 5 + xgc S0 ≤ 603072 ∧ n0 + 30 + xgs S0 ≤ 7198826) (ha0 : xAl S0 S) (hw : xval (gC D ca ad tF) S) (h : w_K4 f i S Q)
    (hk : ∀ S' : xS, Q S' → xval (gC D ca ad tF) S' → xAl S0 S' → xV (gC D ca ad tF) p l e room_1 s m #[Value.ref b] below meth c A 9 Z (k0 + 5 + (xgc S0 - xgc S')) (n0 + 30 + (xgs S0 - xgs S')) 2196 [(5, .int (iN i)), (0, .ref b), (1, .ref (ad 0)), (2, .ref (ad 54)), (3, .ref (ad 98)), (4, .ref (ad 99))] [] S') :
    xV (gC D ca ad tF) p l e room_1 s m #[Value.ref b] below meth c A 9 Z (k0 + 0 + (xgc S0 - xgc S)) (n0 + 0 + (xgs S0 - xgs S)) 472 [(5, .int (iN i)), (0, .ref b), (1, .ref (ad 0)), (2, .ref (ad 54)), (3, .ref (ad 98)), (4, .ref (ad 99))] [] S := by
  have h_i : xR i := ⟨by omega, by omega⟩
  have hf : ∀ z, xR (f z) := fun z => by rw [hff]; exact xR_I _
  unfold w_K4 at h
  refine xi_aload_n C 2 dL_law_472 rfl rfl ?_
  refine xi_aload_n C 1 dL_law_473 rfl rfl ?_
  refine xi_iload C 0 dL_law_474 rfl ?_
  refine xi_iconst C (v := 1) dL_law_476 rfl ?_
  refine xi_iadd C dL_law_477 ?_
  refine xi_sldF C hff hX hbl hbA (i := i + 1) (by omega) hL dL_law_478 ?_
  refine xi_aload_n C 1 dL_law_479 rfl rfl ?_
  refine xi_iload C 0 dL_law_480 rfl ?_
  refine xi_iconst C (v := 2) dL_law_482 rfl ?_
  refine xi_iadd C dL_law_483 ?_
  refine xi_sldF C hff hX hbl hbA (i := i + 2) (by omega) hL dL_law_484 ?_
  refine xi_aload_n C 1 dL_law_485 rfl rfl ?_
  refine xi_iload C 0 dL_law_486 rfl ?_
  refine xi_iconst C (v := 3) dL_law_488 rfl ?_
  refine xi_iadd C dL_law_489 ?_
  refine xi_sldF C hff hX hbl hbA (i := i + 3) (by omega) hL dL_law_490 ?_
  refine xJ1_w (fun t0_499 S499 => xR t0_499 → xval (gC D ca ad tF) S499 → xAl S0 S499 → xV (gC D ca ad tF) p l e room_1 s m #[Value.ref b] below meth c A 9 Z (k0 + 0 + (xgc S0 - xgc S499)) (n0 + 0 + (xgs S0 - xgs S499)) 499 [(0, .ref b), (1, .ref (ad 0)), (2, .ref (ad 54)), (3, .ref (ad 98)), (4, .ref (ad 99)), (5, .int (iN i))] [.int (iN t0_499), .int (iN (f (i + 2))), .int (iN (f (i + 1))), .ref (ad 0)] S499) h (fun t0_499 S499 h h_t0_499 hw499 ha499 => ?_) (fun j499 hj499 h => ?_)
  · unfold w_K4_J499 at h
    refine xi_aload_n C 0 dL_law_499 rfl rfl ?_
    refine xi_iload C 5 dL_law_500 rfl ?_
    refine xi_iconst C (v := 4) dL_law_502 rfl ?_
    refine xi_iadd C dL_law_503 ?_
    refine xi_sldF C hff hX hbl hbA (i := i + 4) (by omega) hL dL_law_504 ?_
    refine xJ1_w (fun t0_513 S513 => xR t0_513 → xval (gC D ca ad tF) S513 → xAl S0 S513 → xV (gC D ca ad tF) p l e room_1 s m #[Value.ref b] below meth c A 9 Z (k0 + 0 + (xgc S0 - xgc S513)) (n0 + 0 + (xgs S0 - xgs S513)) 513 [(0, .ref b), (1, .ref (ad 0)), (2, .ref (ad 54)), (3, .ref (ad 98)), (4, .ref (ad 99)), (5, .int (iN i))] [.int (iN t0_513), .int (iN t0_499), .int (iN (f (i + 2))), .int (iN (f (i + 1))), .ref (ad 0)] S513) h (fun t0_513 S513 h h_t0_513 hw513 ha513 => ?_) (fun j513 hj513 h => ?_)
    · unfold w_K4_J513 at h
      refine xi_aload_n C 3 dL_law_513 rfl rfl ?_
      refine xl_SH C hw513 ha513 rfl (c_L_setMarks l D ca ad tF (f (i + 1)) (f (i + 2)) t0_499 t0_513 S513 _ (hf _) (hf _) h_t0_499 h_t0_513 h hl9) xkh_L_setMarks xs_L_setMarks xl_L_152 ⟨Nat.le_of_ble_eq_true rfl, Nat.le_of_ble_eq_true rfl⟩ ⟨xrL hk9.1 (Nat.le_of_ble_eq_true rfl), xrL hk9.2 (Nat.le_of_ble_eq_true rfl)⟩ rfl rfl (Nat.le_of_ble_eq_true rfl) dL_law_514 (fun E9 S9 h9 _ _ => h9.elim) (fun r9 Sc514 h9 hw3 ha4 => ?_)
      obtain ⟨r514, rfl, h_r514, h⟩ := h9
      refine xi_istore C (L' := [(6, .int (iN r514)), (0, .ref b), (1, .ref (ad 0)), (2, .ref (ad 54)), (3, .ref (ad 98)), (4, .ref (ad 99)), (5, .int (iN i))]) dL_law_517 (by decide) rfl ?_
      refine xi_aload_n C 3 dL_law_519 rfl rfl ?_
      refine xi_aload_n C 1 dL_law_520 rfl rfl ?_
      refine xi_iload C 6 dL_law_521 rfl ?_
      refine xi_iconst C (v := 1) dL_law_523 rfl ?_
      refine xi_iadd C dL_law_524 ?_
      refine xi_sldF C hff hX hbl hbA (i := i + 1) (by omega) hL dL_law_525 ?_
      refine xi_aload_n C 1 dL_law_526 rfl rfl ?_
      refine xi_iload C 6 dL_law_527 rfl ?_
      refine xi_iconst C (v := 2) dL_law_529 rfl ?_
      refine xi_iadd C dL_law_530 ?_
      refine xi_sldF C hff hX hbl hbA (i := i + 2) (by omega) hL dL_law_531 ?_
      refine xi_aload_n C 1 dL_law_532 rfl rfl ?_
      refine xi_iload C 6 dL_law_533 rfl ?_
      refine xi_iconst C (v := 3) dL_law_535 rfl ?_
      refine xi_iadd C dL_law_536 ?_
      refine xi_sldF C hff hX hbl hbA (i := i + 3) (by omega) hL dL_law_537 ?_
      refine xJ1_w (fun t0_546 S546 => xR t0_546 → xval (gC D ca ad tF) S546 → xAl S0 S546 → xV (gC D ca ad tF) p l e room_1 s m #[Value.ref b] below meth c A 9 Z (k0 + 2 + (xgc S0 - xgc S546)) (n0 + 12 + (xgs S0 - xgs S546)) 546 [(0, .ref b), (1, .ref (ad 0)), (2, .ref (ad 54)), (3, .ref (ad 98)), (4, .ref (ad 99)), (5, .int (iN i)), (6, .int (iN r514))] [.int (iN t0_546), .int (iN (f (i + 2))), .int (iN (f (i + 1))), .ref (ad 54)] S546) h (fun t0_546 S546 h h_t0_546 hw546 ha546 => ?_) (fun j546 hj546 h => ?_)
      · unfold w_K4_J546 at h
        refine xi_aload_n C 0 dL_law_546 rfl rfl ?_
        refine xi_iload C 5 dL_law_547 rfl ?_
        refine xi_iconst C (v := 4) dL_law_549 rfl ?_
        refine xi_iadd C dL_law_550 ?_
        refine xi_sldF C hff hX hbl hbA (i := i + 4) (by omega) hL dL_law_551 ?_
        refine xJ1_w (fun t0_560 S560 => xR t0_560 → xval (gC D ca ad tF) S560 → xAl S0 S560 → xV (gC D ca ad tF) p l e room_1 s m #[Value.ref b] below meth c A 9 Z (k0 + 2 + (xgc S0 - xgc S560)) (n0 + 12 + (xgs S0 - xgs S560)) 560 [(0, .ref b), (1, .ref (ad 0)), (2, .ref (ad 54)), (3, .ref (ad 98)), (4, .ref (ad 99)), (5, .int (iN i)), (6, .int (iN r514))] [.int (iN t0_560), .int (iN t0_546), .int (iN (f (i + 2))), .int (iN (f (i + 1))), .ref (ad 54)] S560) h (fun t0_560 S560 h h_t0_560 hw560 ha560 => ?_) (fun j560 hj560 h => ?_)
        · unfold w_K4_J560 at h
          refine xc_Vi C hw560 (c_X9_setMarks l D ca ad tF (f (i + 1)) (f (i + 2)) t0_546 t0_560 S560 _ (hf _) (hf _) h_t0_546 h_t0_560 h) xk_X9_setMarks xv_X9_setMarks xl_L_155 ⟨Nat.le_of_ble_eq_true rfl, Nat.le_of_ble_eq_true rfl⟩ xK_X9 (q := 54) rfl rfl rfl (Nat.le_of_ble_eq_true rfl) ⟨xrM hk9.1 (Nat.le_of_ble_eq_true rfl), xrM hk9.2 (Nat.le_of_ble_eq_true rfl)⟩ dL_law_560 (fun r560 Sc560 h_r560 h hw7 => ?_)
          refine xi_istore C (L' := [(7, .int (iN r560)), (0, .ref b), (1, .ref (ad 0)), (2, .ref (ad 54)), (3, .ref (ad 98)), (4, .ref (ad 99)), (5, .int (iN i)), (6, .int (iN r514))]) dL_law_563 (by decide) rfl ?_
          refine xi_aload_n C 3 dL_law_565 rfl rfl ?_
          obtain ⟨hc8, h⟩ := h
          refine xc_Vi C hw7 (c_X9_thrown l D ca ad tF Sc560 _ h) xk_X9_thrown xv_X9_thrown xl_L_137 ⟨Nat.le_of_ble_eq_true rfl, Nat.le_of_ble_eq_true rfl⟩ xK_X9 (q := 54) rfl rfl rfl (Nat.le_of_ble_eq_true rfl) ⟨xrM hk9.1 (Nat.le_of_ble_eq_true rfl), xrM hk9.2 (Nat.le_of_ble_eq_true rfl)⟩ dL_law_566 (fun r566 Sc566 h_r566 h hw9 => ?_)
          refine xi_iload C 7 dL_law_569 rfl ?_
          refine xi_icmp_eq C 576 h_r566 h_r514 dL_law_571 (by decide) (fun z10 => ?_) (fun z10 => ?_)
          · replace h := h.1 z10
            refine xi_iload C 7 dL_law_576 rfl ?_
            refine xi_if_ne C 600 h_r514 dL_law_578 (by decide) (fun z11 => ?_) (fun z11 => ?_)
            · replace h := h.1 z11
              refine xi_goto C 2196 dL_law_600 (by decide) ?_
              obtain ⟨hc12, h⟩ := h
              exact xV_alY (S1 := Sc566) hc12 (xV_wid (xrK (Nat.le_of_ble_eq_true rfl)) (xrK (Nat.le_of_ble_eq_true rfl)) (xi_sub [6, 1, 2, 3, 4, 5] rfl (hk Sc566 h hw9 (ha560.eq hc12))))
            · replace h := h.2 z11
              refine xi_aload_n C 4 dL_law_581 rfl rfl ?_
              refine xi_iconst C (v := 0) dL_law_582 rfl ?_
              refine xi_laload C (q := 98) rfl (by decide) (by decide) dL_law_583 ?_
              refine xi_iload C 0 dL_law_584 rfl ?_
              refine xJ1_w (fun t0_594 S594 => xRJ t0_594 → xval (gC D ca ad tF) S594 → xAl S0 S594 → xV (gC D ca ad tF) p l e room_1 s m #[Value.ref b] below meth c A 9 Z (k0 + 2 + (xgc S0 - xgc S594)) (n0 + 12 + (xgs S0 - xgs S594)) 594 [(0, .ref b), (1, .ref (ad 0)), (2, .ref (ad 54)), (3, .ref (ad 98)), (4, .ref (ad 99)), (5, .int (iN i))] [.long (jN t0_594), .long (jN (Sc566 98 0))] S594) h (fun t0_594 S594 h h_t0_594 hw594 ha594 => ?_) (fun j594 hj594 h => ?_)
              · unfold w_K4_J594 at h
                refine xi_lcmp_eq C 600 (xval.j (q := 98) (i := 0) hw9 (by decide) rfl) h_t0_594 dL_law_594 dL_law_595 (by decide) (fun z14 => ?_) (fun z14 => ?_)
                · replace h := h.1 z14
                  refine xi_goto C 2196 dL_law_600 (by decide) ?_
                  exact xV_alY (S1 := S594) rfl (xV_wid (xrK (Nat.le_of_ble_eq_true rfl)) (xrK (Nat.le_of_ble_eq_true rfl)) (xi_sub [5, 0, 1, 2, 3, 4] rfl (hk S594 h hw594 (ha594.eq rfl))))
                · replace h := h.2 z14
                  refine xi_iconst C (v := 0) dL_law_598 rfl ?_
                  exact h.elim
              · refine xi_if_eq C 593 h_r560 dL_law_586 (by decide) (fun z13 => ?_) (fun z13 => ?_)
                · replace h := h.1 z13
                  refine xi_lconst C (v := 0) dL_law_593 (by decide +kernel) ?_
                  obtain ⟨hc15, h⟩ := h
                  exact xV_alY (S1 := Sc566) hc15 (xi_sub [1, 2, 3, 4, 5, 6] rfl (hj594 0 Sc566 h (by decide) hw9 (ha560.eq hc15)))
                · replace h := h.2 z13
                  refine xi_lconst C (v := 1) dL_law_589 (by decide +kernel) ?_
                  refine xi_goto C 594 dL_law_590 (by decide) ?_
                  obtain ⟨hc16, h⟩ := h
                  exact xV_alY (S1 := Sc566) hc16 (xi_sub [1, 2, 3, 4, 5, 6] rfl (hj594 1 Sc566 h (by decide) hw9 (ha560.eq hc16)))
          · replace h := h.2 z10
            refine xi_iconst C (v := 0) dL_law_574 rfl ?_
            exact h.elim
        · refine xi_if_eq C 559 (hf _) dL_law_552 (by decide) (fun z6 => ?_) (fun z6 => ?_)
          · replace h := h.1 z6
            refine xi_iconst C (v := 0) dL_law_559 rfl ?_
            exact xV_alY (S1 := S546) rfl (xi_sub [0, 1, 2, 3, 4, 5, 6] rfl (hj560 0 S546 h (by decide) hw546 (ha546.eq rfl)))
          · replace h := h.2 z6
            refine xi_iconst C (v := 1) dL_law_555 rfl ?_
            refine xi_goto C 560 dL_law_556 (by decide) ?_
            exact xV_alY (S1 := S546) rfl (xi_sub [0, 1, 2, 3, 4, 5, 6] rfl (hj560 1 S546 h (by decide) hw546 (ha546.eq rfl)))
      · refine xi_if_eq C 545 (hf _) dL_law_538 (by decide) (fun z5 => ?_) (fun z5 => ?_)
        · replace h := h.1 z5
          refine xi_iconst C (v := 0) dL_law_545 rfl ?_
          exact xV_alY (S1 := Sc514) rfl (xi_sub [1, 2, 3, 4, 5, 6, 0] rfl (hj546 0 Sc514 h (by decide) hw3 (ha4.eq rfl)))
        · replace h := h.2 z5
          refine xi_iconst C (v := 1) dL_law_541 rfl ?_
          refine xi_goto C 546 dL_law_542 (by decide) ?_
          exact xV_alY (S1 := Sc514) rfl (xi_sub [1, 2, 3, 4, 5, 6, 0] rfl (hj546 1 Sc514 h (by decide) hw3 (ha4.eq rfl)))
    · refine xi_if_eq C 512 (hf _) dL_law_505 (by decide) (fun z2 => ?_) (fun z2 => ?_)
      · replace h := h.1 z2
        refine xi_iconst C (v := 0) dL_law_512 rfl ?_
        exact xV_alY (S1 := S499) rfl (xi_sub [0, 1, 2, 3, 4, 5] rfl (hj513 0 S499 h (by decide) hw499 (ha499.eq rfl)))
      · replace h := h.2 z2
        refine xi_iconst C (v := 1) dL_law_508 rfl ?_
        refine xi_goto C 513 dL_law_509 (by decide) ?_
        exact xV_alY (S1 := S499) rfl (xi_sub [0, 1, 2, 3, 4, 5] rfl (hj513 1 S499 h (by decide) hw499 (ha499.eq rfl)))
  · refine xi_if_eq C 498 (hf _) dL_law_491 (by decide) (fun z1 => ?_) (fun z1 => ?_)
    · replace h := h.1 z1
      refine xi_iconst C (v := 0) dL_law_498 rfl ?_
      exact xV_alY (S1 := S) rfl (xi_sub [1, 2, 3, 4, 5, 0] rfl (hj499 0 S h (by decide) hw (ha0.eq rfl)))
    · replace h := h.2 z1
      refine xi_iconst C (v := 1) dL_law_494 rfl ?_
      refine xi_goto C 499 dL_law_495 (by decide) ?_
      exact xV_alY (S1 := S) rfl (xi_sub [1, 2, 3, 4, 5, 0] rfl (hj499 1 S h (by decide) hw (ha0.eq rfl)))
set_option maxRecDepth 100000 in
set_option maxHeartbeats 4000000 in
theorem c_K5 {l : Launch} (hl9 : l.stackTraces = false) {D : va_G} {ca : Nat → ClassId} {ad : Nat → Nat} {tF : Nat} {p : Program} {e : Env} {s : State} {m : MethodId} {below : List Frame} {meth : Method} {c : Code} {A : Nat → Prop} {Z : State → Prop} {b L k0 n0 : Nat} {xs : Nat → Int32} {f : Int → Int} {i : Int} {S S0 : xS} {Q : xS → Prop}
    (C : xC (gC D ca ad tF) p c cL_law 9 s #[Value.ref b] RL m A) (hX : va_X b L xs s s.heap) (hbl : b < s.heap.size) (hbA : ¬ A b) (hL : L ≤ 3584) (hff : f = xsI xs) (h0 : 0 ≤ i ∧ i + 6 < (L : Int)) (hk9 : k0 + 5 + xgc S0 ≤ 603072 ∧ n0 + 30 + xgs S0 ≤ 7198826) (ha0 : xAl S0 S) (hw : xval (gC D ca ad tF) S) (h : w_K5 f i S Q)
    (hk : ∀ S' : xS, Q S' → xval (gC D ca ad tF) S' → xAl S0 S' → xV (gC D ca ad tF) p l e room_1 s m #[Value.ref b] below meth c A 9 Z (k0 + 5 + (xgc S0 - xgc S')) (n0 + 30 + (xgs S0 - xgs S')) 2196 [(5, .int (iN i)), (0, .ref b), (1, .ref (ad 0)), (2, .ref (ad 54)), (3, .ref (ad 98)), (4, .ref (ad 99))] [] S') :
    xV (gC D ca ad tF) p l e room_1 s m #[Value.ref b] below meth c A 9 Z (k0 + 0 + (xgc S0 - xgc S)) (n0 + 0 + (xgs S0 - xgs S)) 603 [(5, .int (iN i)), (0, .ref b), (1, .ref (ad 0)), (2, .ref (ad 54)), (3, .ref (ad 98)), (4, .ref (ad 99))] [] S := by
  have h_i : xR i := ⟨by omega, by omega⟩
  have hf : ∀ z, xR (f z) := fun z => by rw [hff]; exact xR_I _
  unfold w_K5 at h
  refine xi_aload_n C 2 dL_law_603 rfl rfl ?_
  refine xi_aload_n C 1 dL_law_604 rfl rfl ?_
  refine xi_iload C 0 dL_law_605 rfl ?_
  refine xi_iconst C (v := 1) dL_law_607 rfl ?_
  refine xi_iadd C dL_law_608 ?_
  refine xi_sldF C hff hX hbl hbA (i := i + 1) (by omega) hL dL_law_609 ?_
  refine xi_aload_n C 1 dL_law_610 rfl rfl ?_
  refine xi_iload C 0 dL_law_611 rfl ?_
  refine xi_iconst C (v := 2) dL_law_613 rfl ?_
  refine xi_iadd C dL_law_614 ?_
  refine xi_sldF C hff hX hbl hbA (i := i + 2) (by omega) hL dL_law_615 ?_
  refine xi_aload_n C 4 dL_law_616 rfl rfl ?_
  refine xl_SH C hw ha0 rfl (c_L_addInvariant l D ca ad tF (f (i + 1)) (f (i + 2)) S _ (hf _) (hf _) h hl9) xkh_L_addInvariant xs_L_addInvariant xl_L_156 ⟨Nat.le_of_ble_eq_true rfl, Nat.le_of_ble_eq_true rfl⟩ ⟨xrL hk9.1 (Nat.le_of_ble_eq_true rfl), xrL hk9.2 (Nat.le_of_ble_eq_true rfl)⟩ rfl rfl (Nat.le_of_ble_eq_true rfl) dL_law_617 (fun E9 S9 h9 _ _ => h9.elim) (fun r9 Sc617 h9 hw1 ha2 => ?_)
  obtain ⟨r617, rfl, h_r617, h⟩ := h9
  refine xi_istore C (L' := [(6, .int (iN r617)), (5, .int (iN i)), (0, .ref b), (1, .ref (ad 0)), (2, .ref (ad 54)), (3, .ref (ad 98)), (4, .ref (ad 99))]) dL_law_620 (by decide) rfl ?_
  refine xi_aload_n C 4 dL_law_622 rfl rfl ?_
  refine xi_aload_n C 2 dL_law_623 rfl rfl ?_
  refine xi_iload C 1 dL_law_624 rfl ?_
  refine xi_iconst C (v := 1) dL_law_626 rfl ?_
  refine xi_iadd C dL_law_627 ?_
  refine xi_sldF C hff hX hbl hbA (i := i + 1) (by omega) hL dL_law_628 ?_
  refine xi_aload_n C 2 dL_law_629 rfl rfl ?_
  refine xi_iload C 1 dL_law_630 rfl ?_
  refine xi_iconst C (v := 2) dL_law_632 rfl ?_
  refine xi_iadd C dL_law_633 ?_
  refine xi_sldF C hff hX hbl hbA (i := i + 2) (by omega) hL dL_law_634 ?_
  refine xc_Vi C hw1 (c_X9_addInvariant l D ca ad tF (f (i + 1)) (f (i + 2)) Sc617 _ (hf _) (hf _) h) xk_X9_addInvariant xv_X9_addInvariant xl_L_158 ⟨Nat.le_of_ble_eq_true rfl, Nat.le_of_ble_eq_true rfl⟩ xK_X9 (q := 54) rfl rfl rfl (Nat.le_of_ble_eq_true rfl) ⟨xrM hk9.1 (Nat.le_of_ble_eq_true rfl), xrM hk9.2 (Nat.le_of_ble_eq_true rfl)⟩ dL_law_635 (fun r635 Sc635 h_r635 h hw3 => ?_)
  refine xi_istore C (L' := [(7, .int (iN r635)), (6, .int (iN r617)), (5, .int (iN i)), (0, .ref b), (1, .ref (ad 0)), (2, .ref (ad 54)), (3, .ref (ad 98)), (4, .ref (ad 99))]) dL_law_638 (by decide) rfl ?_
  refine xi_aload_n C 5 dL_law_640 rfl rfl ?_
  obtain ⟨hc4, h⟩ := h
  refine xc_Vi C hw3 (c_X9_thrown l D ca ad tF Sc635 _ h) xk_X9_thrown xv_X9_thrown xl_L_137 ⟨Nat.le_of_ble_eq_true rfl, Nat.le_of_ble_eq_true rfl⟩ xK_X9 (q := 54) rfl rfl rfl (Nat.le_of_ble_eq_true rfl) ⟨xrM hk9.1 (Nat.le_of_ble_eq_true rfl), xrM hk9.2 (Nat.le_of_ble_eq_true rfl)⟩ dL_law_641 (fun r641 Sc641 h_r641 h hw5 => ?_)
  refine xi_iload C 1 dL_law_644 rfl ?_
  refine xi_icmp_eq C 651 h_r641 h_r617 dL_law_646 (by decide) (fun z6 => ?_) (fun z6 => ?_)
  · replace h := h.1 z6
    refine xi_iload C 1 dL_law_651 rfl ?_
    refine xi_if_ne C 668 h_r617 dL_law_653 (by decide) (fun z7 => ?_) (fun z7 => ?_)
    · replace h := h.1 z7
      refine xi_goto C 2196 dL_law_668 (by decide) ?_
      obtain ⟨hc8, h⟩ := h
      exact xV_alY (S1 := Sc641) hc8 (xV_wid (xrK (Nat.le_of_ble_eq_true rfl)) (xrK (Nat.le_of_ble_eq_true rfl)) (xi_sub [2, 3, 4, 5, 6, 7] rfl (hk Sc641 h hw5 (ha2.eq hc8))))
    · replace h := h.2 z7
      refine xi_aload_n C 6 dL_law_656 rfl rfl ?_
      refine xi_iconst C (v := 0) dL_law_657 rfl ?_
      refine xi_laload C (q := 98) rfl (by decide) (by decide) dL_law_658 ?_
      refine xi_iload C 0 dL_law_659 rfl ?_
      refine xi_i2l C h_r635 dL_law_661 ?_
      refine xi_lcmp_eq C 668 (xval.j (q := 98) (i := 0) hw5 (by decide) rfl) (xR_J h_r635) dL_law_662 dL_law_663 (by decide) (fun z9 => ?_) (fun z9 => ?_)
      · replace h := h.1 z9
        refine xi_goto C 2196 dL_law_668 (by decide) ?_
        obtain ⟨hc10, h⟩ := h
        exact xV_alY (S1 := Sc641) hc10 (xV_wid (xrK (Nat.le_of_ble_eq_true rfl)) (xrK (Nat.le_of_ble_eq_true rfl)) (xi_sub [2, 3, 4, 5, 6, 7] rfl (hk Sc641 h hw5 (ha2.eq hc10))))
      · replace h := h.2 z9
        refine xi_iconst C (v := 0) dL_law_666 rfl ?_
        exact h.elim
  · replace h := h.2 z6
    refine xi_iconst C (v := 0) dL_law_649 rfl ?_
    exact h.elim
set_option maxRecDepth 100000 in
set_option maxHeartbeats 4000000 in
theorem c_K6 {l : Launch} (hl9 : l.stackTraces = false) {D : va_G} {ca : Nat → ClassId} {ad : Nat → Nat} {tF : Nat} {p : Program} {e : Env} {s : State} {m : MethodId} {below : List Frame} {meth : Method} {c : Code} {A : Nat → Prop} {Z : State → Prop} {b L k0 n0 : Nat} {xs : Nat → Int32} {f : Int → Int} {i : Int} {S S0 : xS} {Q : xS → Prop}
    (C : xC (gC D ca ad tF) p c cL_law 9 s #[Value.ref b] RL m A) (hX : va_X b L xs s s.heap) (hbl : b < s.heap.size) (hbA : ¬ A b) (hL : L ≤ 3584) (hff : f = xsI xs) (h0 : 0 ≤ i ∧ i + 6 < (L : Int)) (hk9 : k0 + 5 + xgc S0 ≤ 603072 ∧ n0 + 30 + xgs S0 ≤ 7198826) (ha0 : xAl S0 S) (hw : xval (gC D ca ad tF) S) (h : w_K6 f i S Q)
    (hk : ∀ S' : xS, Q S' → xval (gC D ca ad tF) S' → xAl S0 S' → xV (gC D ca ad tF) p l e room_1 s m #[Value.ref b] below meth c A 9 Z (k0 + 5 + (xgc S0 - xgc S')) (n0 + 30 + (xgs S0 - xgs S')) 2196 [(5, .int (iN i)), (0, .ref b), (1, .ref (ad 0)), (2, .ref (ad 54)), (3, .ref (ad 98)), (4, .ref (ad 99))] [] S') :
    xV (gC D ca ad tF) p l e room_1 s m #[Value.ref b] below meth c A 9 Z (k0 + 0 + (xgc S0 - xgc S)) (n0 + 0 + (xgs S0 - xgs S)) 671 [(5, .int (iN i)), (0, .ref b), (1, .ref (ad 0)), (2, .ref (ad 54)), (3, .ref (ad 98)), (4, .ref (ad 99))] [] S := by
  have h_i : xR i := ⟨by omega, by omega⟩
  have hf : ∀ z, xR (f z) := fun z => by rw [hff]; exact xR_I _
  unfold w_K6 at h
  refine xi_aload_n C 2 dL_law_671 rfl rfl ?_
  refine xi_aload_n C 1 dL_law_672 rfl rfl ?_
  refine xi_iload C 0 dL_law_673 rfl ?_
  refine xi_iconst C (v := 1) dL_law_675 rfl ?_
  refine xi_iadd C dL_law_676 ?_
  refine xi_sldF C hff hX hbl hbA (i := i + 1) (by omega) hL dL_law_677 ?_
  refine xi_aload_n C 1 dL_law_678 rfl rfl ?_
  refine xi_iload C 0 dL_law_679 rfl ?_
  refine xi_iconst C (v := 2) dL_law_681 rfl ?_
  refine xi_iadd C dL_law_682 ?_
  refine xi_sldF C hff hX hbl hbA (i := i + 2) (by omega) hL dL_law_683 ?_
  refine xi_aload_n C 4 dL_law_684 rfl rfl ?_
  refine xl_SH C hw ha0 rfl (c_L_areAlike l D ca ad tF (f (i + 1)) (f (i + 2)) S _ (hf _) (hf _) h hl9) xkh_L_areAlike xs_L_areAlike xl_L_159 ⟨Nat.le_of_ble_eq_true rfl, Nat.le_of_ble_eq_true rfl⟩ ⟨xrL hk9.1 (Nat.le_of_ble_eq_true rfl), xrL hk9.2 (Nat.le_of_ble_eq_true rfl)⟩ rfl rfl (Nat.le_of_ble_eq_true rfl) dL_law_685 (fun E9 S9 h9 _ _ => h9.elim) (fun r9 Sc685 h9 hw1 ha2 => ?_)
  obtain ⟨r685, rfl, h_r685, h⟩ := h9
  refine xi_istore C (L' := [(6, .int (iN r685)), (5, .int (iN i)), (0, .ref b), (1, .ref (ad 0)), (2, .ref (ad 54)), (3, .ref (ad 98)), (4, .ref (ad 99))]) dL_law_688 (by decide) rfl ?_
  refine xi_aload_n C 4 dL_law_690 rfl rfl ?_
  refine xi_aload_n C 2 dL_law_691 rfl rfl ?_
  refine xi_iload C 1 dL_law_692 rfl ?_
  refine xi_iconst C (v := 1) dL_law_694 rfl ?_
  refine xi_iadd C dL_law_695 ?_
  refine xi_sldF C hff hX hbl hbA (i := i + 1) (by omega) hL dL_law_696 ?_
  refine xi_aload_n C 2 dL_law_697 rfl rfl ?_
  refine xi_iload C 1 dL_law_698 rfl ?_
  refine xi_iconst C (v := 2) dL_law_700 rfl ?_
  refine xi_iadd C dL_law_701 ?_
  refine xi_sldF C hff hX hbl hbA (i := i + 2) (by omega) hL dL_law_702 ?_
  refine xc_Vi C hw1 (c_X9_areAlike l D ca ad tF (f (i + 1)) (f (i + 2)) Sc685 _ (hf _) (hf _) h) xk_X9_areAlike xv_X9_areAlike xl_L_161 ⟨Nat.le_of_ble_eq_true rfl, Nat.le_of_ble_eq_true rfl⟩ xK_X9 (q := 54) rfl rfl rfl (Nat.le_of_ble_eq_true rfl) ⟨xrM hk9.1 (Nat.le_of_ble_eq_true rfl), xrM hk9.2 (Nat.le_of_ble_eq_true rfl)⟩ dL_law_703 (fun r703 Sc703 h_r703 h hw3 => ?_)
  refine xi_istore C (L' := [(7, .int (iN r703)), (6, .int (iN r685)), (5, .int (iN i)), (0, .ref b), (1, .ref (ad 0)), (2, .ref (ad 54)), (3, .ref (ad 98)), (4, .ref (ad 99))]) dL_law_706 (by decide) rfl ?_
  refine xi_aload_n C 5 dL_law_708 rfl rfl ?_
  obtain ⟨hc4, h⟩ := h
  refine xc_Vi C hw3 (c_X9_thrown l D ca ad tF Sc703 _ h) xk_X9_thrown xv_X9_thrown xl_L_137 ⟨Nat.le_of_ble_eq_true rfl, Nat.le_of_ble_eq_true rfl⟩ xK_X9 (q := 54) rfl rfl rfl (Nat.le_of_ble_eq_true rfl) ⟨xrM hk9.1 (Nat.le_of_ble_eq_true rfl), xrM hk9.2 (Nat.le_of_ble_eq_true rfl)⟩ dL_law_709 (fun r709 Sc709 h_r709 h hw5 => ?_)
  refine xi_iload C 1 dL_law_712 rfl ?_
  refine xi_icmp_eq C 719 h_r709 h_r685 dL_law_714 (by decide) (fun z6 => ?_) (fun z6 => ?_)
  · replace h := h.1 z6
    refine xi_iload C 1 dL_law_719 rfl ?_
    refine xi_if_ne C 743 h_r685 dL_law_721 (by decide) (fun z7 => ?_) (fun z7 => ?_)
    · replace h := h.1 z7
      refine xi_goto C 2196 dL_law_743 (by decide) ?_
      obtain ⟨hc8, h⟩ := h
      exact xV_alY (S1 := Sc709) hc8 (xV_wid (xrK (Nat.le_of_ble_eq_true rfl)) (xrK (Nat.le_of_ble_eq_true rfl)) (xi_sub [2, 3, 4, 5, 6, 7] rfl (hk Sc709 h hw5 (ha2.eq hc8))))
    · replace h := h.2 z7
      refine xi_aload_n C 6 dL_law_724 rfl rfl ?_
      refine xi_iconst C (v := 0) dL_law_725 rfl ?_
      refine xi_laload C (q := 98) rfl (by decide) (by decide) dL_law_726 ?_
      refine xi_iload C 0 dL_law_727 rfl ?_
      refine xJ1_w (fun t0_737 S737 => xRJ t0_737 → xval (gC D ca ad tF) S737 → xAl S0 S737 → xV (gC D ca ad tF) p l e room_1 s m #[Value.ref b] below meth c A 9 Z (k0 + 2 + (xgc S0 - xgc S737)) (n0 + 12 + (xgs S0 - xgs S737)) 737 [(0, .ref b), (1, .ref (ad 0)), (2, .ref (ad 54)), (3, .ref (ad 98)), (4, .ref (ad 99)), (5, .int (iN i))] [.long (jN t0_737), .long (jN (Sc709 98 0))] S737) h (fun t0_737 S737 h h_t0_737 hw737 ha737 => ?_) (fun j737 hj737 h => ?_)
      · unfold w_K6_J737 at h
        refine xi_lcmp_eq C 743 (xval.j (q := 98) (i := 0) hw5 (by decide) rfl) h_t0_737 dL_law_737 dL_law_738 (by decide) (fun z10 => ?_) (fun z10 => ?_)
        · replace h := h.1 z10
          refine xi_goto C 2196 dL_law_743 (by decide) ?_
          exact xV_alY (S1 := S737) rfl (xV_wid (xrK (Nat.le_of_ble_eq_true rfl)) (xrK (Nat.le_of_ble_eq_true rfl)) (xi_sub [5, 0, 1, 2, 3, 4] rfl (hk S737 h hw737 (ha737.eq rfl))))
        · replace h := h.2 z10
          refine xi_iconst C (v := 0) dL_law_741 rfl ?_
          exact h.elim
      · refine xi_if_eq C 736 h_r703 dL_law_729 (by decide) (fun z9 => ?_) (fun z9 => ?_)
        · replace h := h.1 z9
          refine xi_lconst C (v := 0) dL_law_736 (by decide +kernel) ?_
          obtain ⟨hc11, h⟩ := h
          exact xV_alY (S1 := Sc709) hc11 (xi_sub [3, 4, 5, 6, 7, 2] rfl (hj737 0 Sc709 h (by decide) hw5 (ha2.eq hc11)))
        · replace h := h.2 z9
          refine xi_lconst C (v := 1) dL_law_732 (by decide +kernel) ?_
          refine xi_goto C 737 dL_law_733 (by decide) ?_
          obtain ⟨hc12, h⟩ := h
          exact xV_alY (S1 := Sc709) hc12 (xi_sub [3, 4, 5, 6, 7, 2] rfl (hj737 1 Sc709 h (by decide) hw5 (ha2.eq hc12)))
  · replace h := h.2 z6
    refine xi_iconst C (v := 0) dL_law_717 rfl ?_
    exact h.elim
set_option maxRecDepth 100000 in
set_option maxHeartbeats 4000000 in
theorem c_K7 {l : Launch} (hl9 : l.stackTraces = false) {D : va_G} {ca : Nat → ClassId} {ad : Nat → Nat} {tF : Nat} {p : Program} {e : Env} {s : State} {m : MethodId} {below : List Frame} {meth : Method} {c : Code} {A : Nat → Prop} {Z : State → Prop} {b L k0 n0 : Nat} {xs : Nat → Int32} {f : Int → Int} {i : Int} {S S0 : xS} {Q : xS → Prop}
    (C : xC (gC D ca ad tF) p c cL_law 9 s #[Value.ref b] RL m A) (hX : va_X b L xs s s.heap) (hbl : b < s.heap.size) (hbA : ¬ A b) (hL : L ≤ 3584) (hff : f = xsI xs) (h0 : 0 ≤ i ∧ i + 6 < (L : Int)) (hk9 : k0 + 5 + xgc S0 ≤ 603072 ∧ n0 + 30 + xgs S0 ≤ 7198826) (ha0 : xAl S0 S) (hw : xval (gC D ca ad tF) S) (h : w_K7 f i S Q)
    (hk : ∀ S' : xS, Q S' → xval (gC D ca ad tF) S' → xAl S0 S' → xV (gC D ca ad tF) p l e room_1 s m #[Value.ref b] below meth c A 9 Z (k0 + 5 + (xgc S0 - xgc S')) (n0 + 30 + (xgs S0 - xgs S')) 2196 [(5, .int (iN i)), (0, .ref b), (1, .ref (ad 0)), (2, .ref (ad 54)), (3, .ref (ad 98)), (4, .ref (ad 99))] [] S') :
    xV (gC D ca ad tF) p l e room_1 s m #[Value.ref b] below meth c A 9 Z (k0 + 0 + (xgc S0 - xgc S)) (n0 + 0 + (xgs S0 - xgs S)) 746 [(5, .int (iN i)), (0, .ref b), (1, .ref (ad 0)), (2, .ref (ad 54)), (3, .ref (ad 98)), (4, .ref (ad 99))] [] S := by
  have h_i : xR i := ⟨by omega, by omega⟩
  have hf : ∀ z, xR (f z) := fun z => by rw [hff]; exact xR_I _
  unfold w_K7 at h
  refine xi_aload_n C 2 dL_law_746 rfl rfl ?_
  refine xi_aload_n C 1 dL_law_747 rfl rfl ?_
  refine xi_iload C 0 dL_law_748 rfl ?_
  refine xi_iconst C (v := 1) dL_law_750 rfl ?_
  refine xi_iadd C dL_law_751 ?_
  refine xi_sldF C hff hX hbl hbA (i := i + 1) (by omega) hL dL_law_752 ?_
  refine xi_i2c C dL_law_753 ?_
  refine xi_aload_n C 4 dL_law_754 rfl rfl ?_
  refine xl_SH C hw ha0 rfl (c_L_begin l D ca ad tF ((f (i + 1)) % 65536) S _ (xR_c _) h hl9) xkh_L_begin xs_L_begin xl_L_162 ⟨Nat.le_of_ble_eq_true rfl, Nat.le_of_ble_eq_true rfl⟩ ⟨xrL hk9.1 (Nat.le_of_ble_eq_true rfl), xrL hk9.2 (Nat.le_of_ble_eq_true rfl)⟩ rfl rfl (Nat.le_of_ble_eq_true rfl) dL_law_755 (fun E9 S9 h9 _ _ => h9.elim) (fun r9 Sc755 h9 hw1 ha2 => ?_)
  obtain ⟨r755, rfl, h_r755, h⟩ := h9
  refine xi_istore C (L' := [(6, .int (iN r755)), (5, .int (iN i)), (0, .ref b), (1, .ref (ad 0)), (2, .ref (ad 54)), (3, .ref (ad 98)), (4, .ref (ad 99))]) dL_law_758 (by decide) rfl ?_
  refine xi_aload_n C 4 dL_law_760 rfl rfl ?_
  refine xi_aload_n C 2 dL_law_761 rfl rfl ?_
  refine xi_iload C 1 dL_law_762 rfl ?_
  refine xi_iconst C (v := 1) dL_law_764 rfl ?_
  refine xi_iadd C dL_law_765 ?_
  refine xi_sldF C hff hX hbl hbA (i := i + 1) (by omega) hL dL_law_766 ?_
  refine xi_i2c C dL_law_767 ?_
  refine xc_Vi C hw1 (c_X9_begin l D ca ad tF ((f (i + 1)) % 65536) Sc755 _ (xR_c _) h) xk_X9_begin xv_X9_begin xl_L_165 ⟨Nat.le_of_ble_eq_true rfl, Nat.le_of_ble_eq_true rfl⟩ xK_X9 (q := 54) rfl rfl rfl (Nat.le_of_ble_eq_true rfl) ⟨xrM hk9.1 (Nat.le_of_ble_eq_true rfl), xrM hk9.2 (Nat.le_of_ble_eq_true rfl)⟩ dL_law_768 (fun r768 Sc768 h_r768 h hw3 => ?_)
  refine xi_istore C (L' := [(7, .int (iN r768)), (6, .int (iN r755)), (5, .int (iN i)), (0, .ref b), (1, .ref (ad 0)), (2, .ref (ad 54)), (3, .ref (ad 98)), (4, .ref (ad 99))]) dL_law_771 (by decide) rfl ?_
  refine xi_aload_n C 5 dL_law_773 rfl rfl ?_
  obtain ⟨hc4, h⟩ := h
  refine xc_Vi C hw3 (c_X9_thrown l D ca ad tF Sc768 _ h) xk_X9_thrown xv_X9_thrown xl_L_137 ⟨Nat.le_of_ble_eq_true rfl, Nat.le_of_ble_eq_true rfl⟩ xK_X9 (q := 54) rfl rfl rfl (Nat.le_of_ble_eq_true rfl) ⟨xrM hk9.1 (Nat.le_of_ble_eq_true rfl), xrM hk9.2 (Nat.le_of_ble_eq_true rfl)⟩ dL_law_774 (fun r774 Sc774 h_r774 h hw5 => ?_)
  refine xi_iload C 1 dL_law_777 rfl ?_
  refine xi_icmp_eq C 784 h_r774 h_r755 dL_law_779 (by decide) (fun z6 => ?_) (fun z6 => ?_)
  · replace h := h.1 z6
    refine xi_iload C 1 dL_law_784 rfl ?_
    refine xi_if_ne C 801 h_r755 dL_law_786 (by decide) (fun z7 => ?_) (fun z7 => ?_)
    · replace h := h.1 z7
      refine xi_goto C 2196 dL_law_801 (by decide) ?_
      obtain ⟨hc8, h⟩ := h
      exact xV_alY (S1 := Sc774) hc8 (xV_wid (xrK (Nat.le_of_ble_eq_true rfl)) (xrK (Nat.le_of_ble_eq_true rfl)) (xi_sub [2, 3, 4, 5, 6, 7] rfl (hk Sc774 h hw5 (ha2.eq hc8))))
    · replace h := h.2 z7
      refine xi_aload_n C 6 dL_law_789 rfl rfl ?_
      refine xi_iconst C (v := 0) dL_law_790 rfl ?_
      refine xi_laload C (q := 98) rfl (by decide) (by decide) dL_law_791 ?_
      refine xi_iload C 0 dL_law_792 rfl ?_
      refine xi_i2l C h_r768 dL_law_794 ?_
      refine xi_lcmp_eq C 801 (xval.j (q := 98) (i := 0) hw5 (by decide) rfl) (xR_J h_r768) dL_law_795 dL_law_796 (by decide) (fun z9 => ?_) (fun z9 => ?_)
      · replace h := h.1 z9
        refine xi_goto C 2196 dL_law_801 (by decide) ?_
        obtain ⟨hc10, h⟩ := h
        exact xV_alY (S1 := Sc774) hc10 (xV_wid (xrK (Nat.le_of_ble_eq_true rfl)) (xrK (Nat.le_of_ble_eq_true rfl)) (xi_sub [2, 3, 4, 5, 6, 7] rfl (hk Sc774 h hw5 (ha2.eq hc10))))
      · replace h := h.2 z9
        refine xi_iconst C (v := 0) dL_law_799 rfl ?_
        exact h.elim
  · replace h := h.2 z6
    refine xi_iconst C (v := 0) dL_law_782 rfl ?_
    exact h.elim
set_option maxRecDepth 100000 in
set_option maxHeartbeats 4000000 in
theorem c_K8 {l : Launch} (hl9 : l.stackTraces = false) {D : va_G} {ca : Nat → ClassId} {ad : Nat → Nat} {tF : Nat} {p : Program} {e : Env} {s : State} {m : MethodId} {below : List Frame} {meth : Method} {c : Code} {A : Nat → Prop} {Z : State → Prop} {b L k0 n0 : Nat} {xs : Nat → Int32} {f : Int → Int} {i : Int} {S S0 : xS} {Q : xS → Prop}
    (C : xC (gC D ca ad tF) p c cL_law 9 s #[Value.ref b] RL m A) (hX : va_X b L xs s s.heap) (hbl : b < s.heap.size) (hbA : ¬ A b) (hL : L ≤ 3584) (hff : f = xsI xs) (h0 : 0 ≤ i ∧ i + 6 < (L : Int)) (hk9 : k0 + 5 + xgc S0 ≤ 603072 ∧ n0 + 30 + xgs S0 ≤ 7198826) (ha0 : xAl S0 S) (hw : xval (gC D ca ad tF) S) (h : w_K8 f i S Q)
    (hk : ∀ S' : xS, Q S' → xval (gC D ca ad tF) S' → xAl S0 S' → xV (gC D ca ad tF) p l e room_1 s m #[Value.ref b] below meth c A 9 Z (k0 + 5 + (xgc S0 - xgc S')) (n0 + 30 + (xgs S0 - xgs S')) 2196 [(5, .int (iN i)), (0, .ref b), (1, .ref (ad 0)), (2, .ref (ad 54)), (3, .ref (ad 98)), (4, .ref (ad 99))] [] S') :
    xV (gC D ca ad tF) p l e room_1 s m #[Value.ref b] below meth c A 9 Z (k0 + 0 + (xgc S0 - xgc S)) (n0 + 0 + (xgs S0 - xgs S)) 804 [(5, .int (iN i)), (0, .ref b), (1, .ref (ad 0)), (2, .ref (ad 54)), (3, .ref (ad 98)), (4, .ref (ad 99))] [] S := by
  have h_i : xR i := ⟨by omega, by omega⟩
  have hf : ∀ z, xR (f z) := fun z => by rw [hff]; exact xR_I _
  unfold w_K8 at h
  refine xi_aload_n C 2 dL_law_804 rfl rfl ?_
  refine xi_aload_n C 1 dL_law_805 rfl rfl ?_
  refine xi_iload C 0 dL_law_806 rfl ?_
  refine xi_iconst C (v := 1) dL_law_808 rfl ?_
  refine xi_iadd C dL_law_809 ?_
  refine xi_sldF C hff hX hbl hbA (i := i + 1) (by omega) hL dL_law_810 ?_
  refine xi_aload_n C 4 dL_law_811 rfl rfl ?_
  refine xl_SH C hw ha0 rfl (c_L_search l D ca ad tF (f (i + 1)) S _ (hf _) h hl9) xkh_L_search xs_L_search xl_L_166 ⟨Nat.le_of_ble_eq_true rfl, Nat.le_of_ble_eq_true rfl⟩ ⟨xrL hk9.1 (Nat.le_of_ble_eq_true rfl), xrL hk9.2 (Nat.le_of_ble_eq_true rfl)⟩ rfl rfl (Nat.le_of_ble_eq_true rfl) dL_law_812 (fun E9 S9 h9 _ _ => h9.elim) (fun r9 Sc812 h9 hw1 ha2 => ?_)
  obtain ⟨r812, rfl, h_r812, h⟩ := h9
  refine xi_istore C (L' := [(6, .int (iN r812)), (5, .int (iN i)), (0, .ref b), (1, .ref (ad 0)), (2, .ref (ad 54)), (3, .ref (ad 98)), (4, .ref (ad 99))]) dL_law_815 (by decide) rfl ?_
  refine xi_aload_n C 4 dL_law_817 rfl rfl ?_
  refine xi_aload_n C 2 dL_law_818 rfl rfl ?_
  refine xi_iload C 1 dL_law_819 rfl ?_
  refine xi_iconst C (v := 1) dL_law_821 rfl ?_
  refine xi_iadd C dL_law_822 ?_
  refine xi_sldF C hff hX hbl hbA (i := i + 1) (by omega) hL dL_law_823 ?_
  refine xc_Vi C hw1 (c_X9_search l D ca ad tF (f (i + 1)) Sc812 _ (hf _) h) xk_X9_search xv_X9_search xl_L_168 ⟨Nat.le_of_ble_eq_true rfl, Nat.le_of_ble_eq_true rfl⟩ xK_X9 (q := 54) rfl rfl rfl (Nat.le_of_ble_eq_true rfl) ⟨xrM hk9.1 (Nat.le_of_ble_eq_true rfl), xrM hk9.2 (Nat.le_of_ble_eq_true rfl)⟩ dL_law_824 (fun r824 Sc824 h_r824 h hw3 => ?_)
  refine xi_istore C (L' := [(7, .int (iN r824)), (6, .int (iN r812)), (5, .int (iN i)), (0, .ref b), (1, .ref (ad 0)), (2, .ref (ad 54)), (3, .ref (ad 98)), (4, .ref (ad 99))]) dL_law_827 (by decide) rfl ?_
  refine xi_aload_n C 5 dL_law_829 rfl rfl ?_
  obtain ⟨hc4, h⟩ := h
  refine xc_Vi C hw3 (c_X9_thrown l D ca ad tF Sc824 _ h) xk_X9_thrown xv_X9_thrown xl_L_137 ⟨Nat.le_of_ble_eq_true rfl, Nat.le_of_ble_eq_true rfl⟩ xK_X9 (q := 54) rfl rfl rfl (Nat.le_of_ble_eq_true rfl) ⟨xrM hk9.1 (Nat.le_of_ble_eq_true rfl), xrM hk9.2 (Nat.le_of_ble_eq_true rfl)⟩ dL_law_830 (fun r830 Sc830 h_r830 h hw5 => ?_)
  refine xi_iload C 1 dL_law_833 rfl ?_
  refine xi_icmp_eq C 840 h_r830 h_r812 dL_law_835 (by decide) (fun z6 => ?_) (fun z6 => ?_)
  · replace h := h.1 z6
    refine xi_iload C 1 dL_law_840 rfl ?_
    refine xi_if_ne C 857 h_r812 dL_law_842 (by decide) (fun z7 => ?_) (fun z7 => ?_)
    · replace h := h.1 z7
      refine xi_goto C 2196 dL_law_857 (by decide) ?_
      obtain ⟨hc8, h⟩ := h
      exact xV_alY (S1 := Sc830) hc8 (xV_wid (xrK (Nat.le_of_ble_eq_true rfl)) (xrK (Nat.le_of_ble_eq_true rfl)) (xi_sub [2, 3, 4, 5, 6, 7] rfl (hk Sc830 h hw5 (ha2.eq hc8))))
    · replace h := h.2 z7
      refine xi_aload_n C 6 dL_law_845 rfl rfl ?_
      refine xi_iconst C (v := 0) dL_law_846 rfl ?_
      refine xi_laload C (q := 98) rfl (by decide) (by decide) dL_law_847 ?_
      refine xi_iload C 0 dL_law_848 rfl ?_
      refine xi_i2l C h_r824 dL_law_850 ?_
      refine xi_lcmp_eq C 857 (xval.j (q := 98) (i := 0) hw5 (by decide) rfl) (xR_J h_r824) dL_law_851 dL_law_852 (by decide) (fun z9 => ?_) (fun z9 => ?_)
      · replace h := h.1 z9
        refine xi_goto C 2196 dL_law_857 (by decide) ?_
        obtain ⟨hc10, h⟩ := h
        exact xV_alY (S1 := Sc830) hc10 (xV_wid (xrK (Nat.le_of_ble_eq_true rfl)) (xrK (Nat.le_of_ble_eq_true rfl)) (xi_sub [2, 3, 4, 5, 6, 7] rfl (hk Sc830 h hw5 (ha2.eq hc10))))
      · replace h := h.2 z9
        refine xi_iconst C (v := 0) dL_law_855 rfl ?_
        exact h.elim
  · replace h := h.2 z6
    refine xi_iconst C (v := 0) dL_law_838 rfl ?_
    exact h.elim
set_option maxRecDepth 100000 in
set_option maxHeartbeats 4000000 in
theorem c_K9 {l : Launch} (hl9 : l.stackTraces = false) {D : va_G} {ca : Nat → ClassId} {ad : Nat → Nat} {tF : Nat} {p : Program} {e : Env} {s : State} {m : MethodId} {below : List Frame} {meth : Method} {c : Code} {A : Nat → Prop} {Z : State → Prop} {b L k0 n0 : Nat} {xs : Nat → Int32} {f : Int → Int} {i : Int} {S S0 : xS} {Q : xS → Prop}
    (C : xC (gC D ca ad tF) p c cL_law 9 s #[Value.ref b] RL m A) (hX : va_X b L xs s s.heap) (hbl : b < s.heap.size) (hbA : ¬ A b) (hL : L ≤ 3584) (hff : f = xsI xs) (h0 : 0 ≤ i ∧ i + 6 < (L : Int)) (hk9 : k0 + 5 + xgc S0 ≤ 603072 ∧ n0 + 30 + xgs S0 ≤ 7198826) (ha0 : xAl S0 S) (hw : xval (gC D ca ad tF) S) (h : w_K9 f i S Q)
    (hk : ∀ S' : xS, Q S' → xval (gC D ca ad tF) S' → xAl S0 S' → xV (gC D ca ad tF) p l e room_1 s m #[Value.ref b] below meth c A 9 Z (k0 + 5 + (xgc S0 - xgc S')) (n0 + 30 + (xgs S0 - xgs S')) 2196 [(5, .int (iN i)), (0, .ref b), (1, .ref (ad 0)), (2, .ref (ad 54)), (3, .ref (ad 98)), (4, .ref (ad 99))] [] S') :
    xV (gC D ca ad tF) p l e room_1 s m #[Value.ref b] below meth c A 9 Z (k0 + 0 + (xgc S0 - xgc S)) (n0 + 0 + (xgs S0 - xgs S)) 860 [(5, .int (iN i)), (0, .ref b), (1, .ref (ad 0)), (2, .ref (ad 54)), (3, .ref (ad 98)), (4, .ref (ad 99))] [] S := by
  have h_i : xR i := ⟨by omega, by omega⟩
  have hf : ∀ z, xR (f z) := fun z => by rw [hff]; exact xR_I _
  unfold w_K9 at h
  refine xi_aload_n C 2 dL_law_860 rfl rfl ?_
  refine xi_aload_n C 4 dL_law_861 rfl rfl ?_
  refine xl_SH C hw ha0 rfl (c_L_verdict l D ca ad tF S _ h hl9) xkh_L_verdict xs_L_verdict xl_L_169 ⟨Nat.le_of_ble_eq_true rfl, Nat.le_of_ble_eq_true rfl⟩ ⟨xrL hk9.1 (Nat.le_of_ble_eq_true rfl), xrL hk9.2 (Nat.le_of_ble_eq_true rfl)⟩ rfl rfl (Nat.le_of_ble_eq_true rfl) dL_law_862 (fun E9 S9 h9 _ _ => h9.elim) (fun r9 Sc862 h9 hw1 ha2 => ?_)
  obtain ⟨r862, rfl, h_r862, h⟩ := h9
  refine xi_istore C (L' := [(6, .int (iN r862)), (5, .int (iN i)), (0, .ref b), (1, .ref (ad 0)), (2, .ref (ad 54)), (3, .ref (ad 98)), (4, .ref (ad 99))]) dL_law_865 (by decide) rfl ?_
  refine xi_aload_n C 4 dL_law_867 rfl rfl ?_
  refine xc_Vi C hw1 (c_X9_verdict l D ca ad tF Sc862 _ h) xk_X9_verdict xv_X9_verdict xl_L_171 ⟨Nat.le_of_ble_eq_true rfl, Nat.le_of_ble_eq_true rfl⟩ xK_X9 (q := 54) rfl rfl rfl (Nat.le_of_ble_eq_true rfl) ⟨xrM hk9.1 (Nat.le_of_ble_eq_true rfl), xrM hk9.2 (Nat.le_of_ble_eq_true rfl)⟩ dL_law_868 (fun r868 Sc868 h_r868 h hw3 => ?_)
  refine xi_istore C (L' := [(7, .int (iN r868)), (6, .int (iN r862)), (5, .int (iN i)), (0, .ref b), (1, .ref (ad 0)), (2, .ref (ad 54)), (3, .ref (ad 98)), (4, .ref (ad 99))]) dL_law_871 (by decide) rfl ?_
  refine xi_aload_n C 5 dL_law_873 rfl rfl ?_
  obtain ⟨hc4, h⟩ := h
  refine xc_Vi C hw3 (c_X9_thrown l D ca ad tF Sc868 _ h) xk_X9_thrown xv_X9_thrown xl_L_137 ⟨Nat.le_of_ble_eq_true rfl, Nat.le_of_ble_eq_true rfl⟩ xK_X9 (q := 54) rfl rfl rfl (Nat.le_of_ble_eq_true rfl) ⟨xrM hk9.1 (Nat.le_of_ble_eq_true rfl), xrM hk9.2 (Nat.le_of_ble_eq_true rfl)⟩ dL_law_874 (fun r874 Sc874 h_r874 h hw5 => ?_)
  refine xi_iload C 1 dL_law_877 rfl ?_
  refine xi_icmp_eq C 884 h_r874 h_r862 dL_law_879 (by decide) (fun z6 => ?_) (fun z6 => ?_)
  · replace h := h.1 z6
    refine xi_iload C 1 dL_law_884 rfl ?_
    refine xi_if_ne C 901 h_r862 dL_law_886 (by decide) (fun z7 => ?_) (fun z7 => ?_)
    · replace h := h.1 z7
      refine xi_goto C 2196 dL_law_901 (by decide) ?_
      obtain ⟨hc8, h⟩ := h
      exact xV_alY (S1 := Sc874) hc8 (xV_wid (xrK (Nat.le_of_ble_eq_true rfl)) (xrK (Nat.le_of_ble_eq_true rfl)) (xi_sub [2, 3, 4, 5, 6, 7] rfl (hk Sc874 h hw5 (ha2.eq hc8))))
    · replace h := h.2 z7
      refine xi_aload_n C 6 dL_law_889 rfl rfl ?_
      refine xi_iconst C (v := 0) dL_law_890 rfl ?_
      refine xi_laload C (q := 98) rfl (by decide) (by decide) dL_law_891 ?_
      refine xi_iload C 0 dL_law_892 rfl ?_
      refine xi_i2l C h_r868 dL_law_894 ?_
      refine xi_lcmp_eq C 901 (xval.j (q := 98) (i := 0) hw5 (by decide) rfl) (xR_J h_r868) dL_law_895 dL_law_896 (by decide) (fun z9 => ?_) (fun z9 => ?_)
      · replace h := h.1 z9
        refine xi_goto C 2196 dL_law_901 (by decide) ?_
        obtain ⟨hc10, h⟩ := h
        exact xV_alY (S1 := Sc874) hc10 (xV_wid (xrK (Nat.le_of_ble_eq_true rfl)) (xrK (Nat.le_of_ble_eq_true rfl)) (xi_sub [2, 3, 4, 5, 6, 7] rfl (hk Sc874 h hw5 (ha2.eq hc10))))
      · replace h := h.2 z9
        refine xi_iconst C (v := 0) dL_law_899 rfl ?_
        exact h.elim
  · replace h := h.2 z6
    refine xi_iconst C (v := 0) dL_law_882 rfl ?_
    exact h.elim
set_option maxRecDepth 100000 in
set_option maxHeartbeats 4000000 in
theorem c_K10 {l : Launch} (hl9 : l.stackTraces = false) {D : va_G} {ca : Nat → ClassId} {ad : Nat → Nat} {tF : Nat} {p : Program} {e : Env} {s : State} {m : MethodId} {below : List Frame} {meth : Method} {c : Code} {A : Nat → Prop} {Z : State → Prop} {b L k0 n0 : Nat} {xs : Nat → Int32} {f : Int → Int} {i : Int} {S S0 : xS} {Q : xS → Prop}
    (C : xC (gC D ca ad tF) p c cL_law 9 s #[Value.ref b] RL m A) (hX : va_X b L xs s s.heap) (hbl : b < s.heap.size) (hbA : ¬ A b) (hL : L ≤ 3584) (hff : f = xsI xs) (h0 : 0 ≤ i ∧ i + 6 < (L : Int)) (hk9 : k0 + 5 + xgc S0 ≤ 603072 ∧ n0 + 30 + xgs S0 ≤ 7198826) (ha0 : xAl S0 S) (hw : xval (gC D ca ad tF) S) (h : w_K10 f i S Q)
    (hk : ∀ S' : xS, Q S' → xval (gC D ca ad tF) S' → xAl S0 S' → xV (gC D ca ad tF) p l e room_1 s m #[Value.ref b] below meth c A 9 Z (k0 + 5 + (xgc S0 - xgc S')) (n0 + 30 + (xgs S0 - xgs S')) 2196 [(5, .int (iN i)), (0, .ref b), (1, .ref (ad 0)), (2, .ref (ad 54)), (3, .ref (ad 98)), (4, .ref (ad 99))] [] S') :
    xV (gC D ca ad tF) p l e room_1 s m #[Value.ref b] below meth c A 9 Z (k0 + 0 + (xgc S0 - xgc S)) (n0 + 0 + (xgs S0 - xgs S)) 904 [(5, .int (iN i)), (0, .ref b), (1, .ref (ad 0)), (2, .ref (ad 54)), (3, .ref (ad 98)), (4, .ref (ad 99))] [] S := by
  have h_i : xR i := ⟨by omega, by omega⟩
  have hf : ∀ z, xR (f z) := fun z => by rw [hff]; exact xR_I _
  unfold w_K10 at h
  refine xi_aload_n C 2 dL_law_904 rfl rfl ?_
  refine xi_aload_n C 4 dL_law_905 rfl rfl ?_
  refine xl_SH C hw ha0 rfl (c_L_states l D ca ad tF S _ h hl9) xkh_L_states xs_L_states xl_L_172 ⟨Nat.le_of_ble_eq_true rfl, Nat.le_of_ble_eq_true rfl⟩ ⟨xrL hk9.1 (Nat.le_of_ble_eq_true rfl), xrL hk9.2 (Nat.le_of_ble_eq_true rfl)⟩ rfl rfl (Nat.le_of_ble_eq_true rfl) dL_law_906 (fun E9 S9 h9 _ _ => h9.elim) (fun r9 Sc906 h9 hw1 ha2 => ?_)
  obtain ⟨r906, rfl, h_r906, h⟩ := h9
  refine xi_istore C (L' := [(6, .int (iN r906)), (5, .int (iN i)), (0, .ref b), (1, .ref (ad 0)), (2, .ref (ad 54)), (3, .ref (ad 98)), (4, .ref (ad 99))]) dL_law_909 (by decide) rfl ?_
  refine xi_aload_n C 4 dL_law_911 rfl rfl ?_
  refine xc_Vi C hw1 (c_X9_states l D ca ad tF Sc906 _ h) xk_X9_states xv_X9_states xl_L_174 ⟨Nat.le_of_ble_eq_true rfl, Nat.le_of_ble_eq_true rfl⟩ xK_X9 (q := 54) rfl rfl rfl (Nat.le_of_ble_eq_true rfl) ⟨xrM hk9.1 (Nat.le_of_ble_eq_true rfl), xrM hk9.2 (Nat.le_of_ble_eq_true rfl)⟩ dL_law_912 (fun r912 Sc912 h_r912 h hw3 => ?_)
  refine xi_istore C (L' := [(7, .int (iN r912)), (6, .int (iN r906)), (5, .int (iN i)), (0, .ref b), (1, .ref (ad 0)), (2, .ref (ad 54)), (3, .ref (ad 98)), (4, .ref (ad 99))]) dL_law_915 (by decide) rfl ?_
  refine xi_aload_n C 5 dL_law_917 rfl rfl ?_
  obtain ⟨hc4, h⟩ := h
  refine xc_Vi C hw3 (c_X9_thrown l D ca ad tF Sc912 _ h) xk_X9_thrown xv_X9_thrown xl_L_137 ⟨Nat.le_of_ble_eq_true rfl, Nat.le_of_ble_eq_true rfl⟩ xK_X9 (q := 54) rfl rfl rfl (Nat.le_of_ble_eq_true rfl) ⟨xrM hk9.1 (Nat.le_of_ble_eq_true rfl), xrM hk9.2 (Nat.le_of_ble_eq_true rfl)⟩ dL_law_918 (fun r918 Sc918 h_r918 h hw5 => ?_)
  refine xi_iload C 1 dL_law_921 rfl ?_
  refine xi_icmp_eq C 928 h_r918 h_r906 dL_law_923 (by decide) (fun z6 => ?_) (fun z6 => ?_)
  · replace h := h.1 z6
    refine xi_iload C 1 dL_law_928 rfl ?_
    refine xi_if_ne C 945 h_r906 dL_law_930 (by decide) (fun z7 => ?_) (fun z7 => ?_)
    · replace h := h.1 z7
      refine xi_goto C 2196 dL_law_945 (by decide) ?_
      obtain ⟨hc8, h⟩ := h
      exact xV_alY (S1 := Sc918) hc8 (xV_wid (xrK (Nat.le_of_ble_eq_true rfl)) (xrK (Nat.le_of_ble_eq_true rfl)) (xi_sub [2, 3, 4, 5, 6, 7] rfl (hk Sc918 h hw5 (ha2.eq hc8))))
    · replace h := h.2 z7
      refine xi_aload_n C 6 dL_law_933 rfl rfl ?_
      refine xi_iconst C (v := 0) dL_law_934 rfl ?_
      refine xi_laload C (q := 98) rfl (by decide) (by decide) dL_law_935 ?_
      refine xi_iload C 0 dL_law_936 rfl ?_
      refine xi_i2l C h_r912 dL_law_938 ?_
      refine xi_lcmp_eq C 945 (xval.j (q := 98) (i := 0) hw5 (by decide) rfl) (xR_J h_r912) dL_law_939 dL_law_940 (by decide) (fun z9 => ?_) (fun z9 => ?_)
      · replace h := h.1 z9
        refine xi_goto C 2196 dL_law_945 (by decide) ?_
        obtain ⟨hc10, h⟩ := h
        exact xV_alY (S1 := Sc918) hc10 (xV_wid (xrK (Nat.le_of_ble_eq_true rfl)) (xrK (Nat.le_of_ble_eq_true rfl)) (xi_sub [2, 3, 4, 5, 6, 7] rfl (hk Sc918 h hw5 (ha2.eq hc10))))
      · replace h := h.2 z9
        refine xi_iconst C (v := 0) dL_law_943 rfl ?_
        exact h.elim
  · replace h := h.2 z6
    refine xi_iconst C (v := 0) dL_law_926 rfl ?_
    exact h.elim
set_option maxRecDepth 100000 in
set_option maxHeartbeats 4000000 in
theorem c_K11 {l : Launch} (hl9 : l.stackTraces = false) {D : va_G} {ca : Nat → ClassId} {ad : Nat → Nat} {tF : Nat} {p : Program} {e : Env} {s : State} {m : MethodId} {below : List Frame} {meth : Method} {c : Code} {A : Nat → Prop} {Z : State → Prop} {b L k0 n0 : Nat} {xs : Nat → Int32} {f : Int → Int} {i : Int} {S S0 : xS} {Q : xS → Prop}
    (C : xC (gC D ca ad tF) p c cL_law 9 s #[Value.ref b] RL m A) (hX : va_X b L xs s s.heap) (hbl : b < s.heap.size) (hbA : ¬ A b) (hL : L ≤ 3584) (hff : f = xsI xs) (h0 : 0 ≤ i ∧ i + 6 < (L : Int)) (hk9 : k0 + 5 + xgc S0 ≤ 603072 ∧ n0 + 30 + xgs S0 ≤ 7198826) (ha0 : xAl S0 S) (hw : xval (gC D ca ad tF) S) (h : w_K11 f i S Q)
    (hk : ∀ S' : xS, Q S' → xval (gC D ca ad tF) S' → xAl S0 S' → xV (gC D ca ad tF) p l e room_1 s m #[Value.ref b] below meth c A 9 Z (k0 + 5 + (xgc S0 - xgc S')) (n0 + 30 + (xgs S0 - xgs S')) 2196 [(5, .int (iN i)), (0, .ref b), (1, .ref (ad 0)), (2, .ref (ad 54)), (3, .ref (ad 98)), (4, .ref (ad 99))] [] S') :
    xV (gC D ca ad tF) p l e room_1 s m #[Value.ref b] below meth c A 9 Z (k0 + 0 + (xgc S0 - xgc S)) (n0 + 0 + (xgs S0 - xgs S)) 948 [(5, .int (iN i)), (0, .ref b), (1, .ref (ad 0)), (2, .ref (ad 54)), (3, .ref (ad 98)), (4, .ref (ad 99))] [] S := by
  have h_i : xR i := ⟨by omega, by omega⟩
  have hf : ∀ z, xR (f z) := fun z => by rw [hff]; exact xR_I _
  unfold w_K11 at h
  refine xi_aload_n C 2 dL_law_948 rfl rfl ?_
  refine xi_aload_n C 4 dL_law_949 rfl rfl ?_
  refine xl_SH C hw ha0 rfl (c_L_goneOn l D ca ad tF S _ h hl9) xkh_L_goneOn xs_L_goneOn xl_L_175 ⟨Nat.le_of_ble_eq_true rfl, Nat.le_of_ble_eq_true rfl⟩ ⟨xrL hk9.1 (Nat.le_of_ble_eq_true rfl), xrL hk9.2 (Nat.le_of_ble_eq_true rfl)⟩ rfl rfl (Nat.le_of_ble_eq_true rfl) dL_law_950 (fun E9 S9 h9 _ _ => h9.elim) (fun r9 Sc950 h9 hw1 ha2 => ?_)
  obtain ⟨r950, rfl, h_r950, h⟩ := h9
  refine xi_istore C (L' := [(6, .int (iN r950)), (5, .int (iN i)), (0, .ref b), (1, .ref (ad 0)), (2, .ref (ad 54)), (3, .ref (ad 98)), (4, .ref (ad 99))]) dL_law_953 (by decide) rfl ?_
  refine xi_aload_n C 4 dL_law_955 rfl rfl ?_
  refine xc_Vi C hw1 (c_X9_goneOn l D ca ad tF Sc950 _ h) xk_X9_goneOn xv_X9_goneOn xl_L_177 ⟨Nat.le_of_ble_eq_true rfl, Nat.le_of_ble_eq_true rfl⟩ xK_X9 (q := 54) rfl rfl rfl (Nat.le_of_ble_eq_true rfl) ⟨xrM hk9.1 (Nat.le_of_ble_eq_true rfl), xrM hk9.2 (Nat.le_of_ble_eq_true rfl)⟩ dL_law_956 (fun r956 Sc956 h_r956 h hw3 => ?_)
  refine xi_istore C (L' := [(7, .int (iN r956)), (6, .int (iN r950)), (5, .int (iN i)), (0, .ref b), (1, .ref (ad 0)), (2, .ref (ad 54)), (3, .ref (ad 98)), (4, .ref (ad 99))]) dL_law_959 (by decide) rfl ?_
  refine xi_aload_n C 5 dL_law_961 rfl rfl ?_
  obtain ⟨hc4, h⟩ := h
  refine xc_Vi C hw3 (c_X9_thrown l D ca ad tF Sc956 _ h) xk_X9_thrown xv_X9_thrown xl_L_137 ⟨Nat.le_of_ble_eq_true rfl, Nat.le_of_ble_eq_true rfl⟩ xK_X9 (q := 54) rfl rfl rfl (Nat.le_of_ble_eq_true rfl) ⟨xrM hk9.1 (Nat.le_of_ble_eq_true rfl), xrM hk9.2 (Nat.le_of_ble_eq_true rfl)⟩ dL_law_962 (fun r962 Sc962 h_r962 h hw5 => ?_)
  refine xi_iload C 1 dL_law_965 rfl ?_
  refine xi_icmp_eq C 972 h_r962 h_r950 dL_law_967 (by decide) (fun z6 => ?_) (fun z6 => ?_)
  · replace h := h.1 z6
    refine xi_iload C 1 dL_law_972 rfl ?_
    refine xi_if_ne C 989 h_r950 dL_law_974 (by decide) (fun z7 => ?_) (fun z7 => ?_)
    · replace h := h.1 z7
      refine xi_goto C 2196 dL_law_989 (by decide) ?_
      obtain ⟨hc8, h⟩ := h
      exact xV_alY (S1 := Sc962) hc8 (xV_wid (xrK (Nat.le_of_ble_eq_true rfl)) (xrK (Nat.le_of_ble_eq_true rfl)) (xi_sub [2, 3, 4, 5, 6, 7] rfl (hk Sc962 h hw5 (ha2.eq hc8))))
    · replace h := h.2 z7
      refine xi_aload_n C 6 dL_law_977 rfl rfl ?_
      refine xi_iconst C (v := 0) dL_law_978 rfl ?_
      refine xi_laload C (q := 98) rfl (by decide) (by decide) dL_law_979 ?_
      refine xi_iload C 0 dL_law_980 rfl ?_
      refine xi_i2l C h_r956 dL_law_982 ?_
      refine xi_lcmp_eq C 989 (xval.j (q := 98) (i := 0) hw5 (by decide) rfl) (xR_J h_r956) dL_law_983 dL_law_984 (by decide) (fun z9 => ?_) (fun z9 => ?_)
      · replace h := h.1 z9
        refine xi_goto C 2196 dL_law_989 (by decide) ?_
        obtain ⟨hc10, h⟩ := h
        exact xV_alY (S1 := Sc962) hc10 (xV_wid (xrK (Nat.le_of_ble_eq_true rfl)) (xrK (Nat.le_of_ble_eq_true rfl)) (xi_sub [2, 3, 4, 5, 6, 7] rfl (hk Sc962 h hw5 (ha2.eq hc10))))
      · replace h := h.2 z9
        refine xi_iconst C (v := 0) dL_law_987 rfl ?_
        exact h.elim
  · replace h := h.2 z6
    refine xi_iconst C (v := 0) dL_law_970 rfl ?_
    exact h.elim
set_option maxRecDepth 100000 in
set_option maxHeartbeats 4000000 in
theorem c_K12 {l : Launch} (hl9 : l.stackTraces = false) {D : va_G} {ca : Nat → ClassId} {ad : Nat → Nat} {tF : Nat} {p : Program} {e : Env} {s : State} {m : MethodId} {below : List Frame} {meth : Method} {c : Code} {A : Nat → Prop} {Z : State → Prop} {b L k0 n0 : Nat} {xs : Nat → Int32} {f : Int → Int} {i : Int} {S S0 : xS} {Q : xS → Prop}
    (C : xC (gC D ca ad tF) p c cL_law 9 s #[Value.ref b] RL m A) (hX : va_X b L xs s s.heap) (hbl : b < s.heap.size) (hbA : ¬ A b) (hL : L ≤ 3584) (hff : f = xsI xs) (h0 : 0 ≤ i ∧ i + 6 < (L : Int)) (hk9 : k0 + 5 + xgc S0 ≤ 603072 ∧ n0 + 30 + xgs S0 ≤ 7198826) (ha0 : xAl S0 S) (hw : xval (gC D ca ad tF) S) (h : w_K12 f i S Q)
    (hk : ∀ S' : xS, Q S' → xval (gC D ca ad tF) S' → xAl S0 S' → xV (gC D ca ad tF) p l e room_1 s m #[Value.ref b] below meth c A 9 Z (k0 + 5 + (xgc S0 - xgc S')) (n0 + 30 + (xgs S0 - xgs S')) 2196 [(5, .int (iN i)), (0, .ref b), (1, .ref (ad 0)), (2, .ref (ad 54)), (3, .ref (ad 98)), (4, .ref (ad 99))] [] S') :
    xV (gC D ca ad tF) p l e room_1 s m #[Value.ref b] below meth c A 9 Z (k0 + 0 + (xgc S0 - xgc S)) (n0 + 0 + (xgs S0 - xgs S)) 992 [(5, .int (iN i)), (0, .ref b), (1, .ref (ad 0)), (2, .ref (ad 54)), (3, .ref (ad 98)), (4, .ref (ad 99))] [] S := by
  have h_i : xR i := ⟨by omega, by omega⟩
  have hf : ∀ z, xR (f z) := fun z => by rw [hff]; exact xR_I _
  unfold w_K12 at h
  refine xi_aload_n C 2 dL_law_992 rfl rfl ?_
  refine xi_aload_n C 1 dL_law_993 rfl rfl ?_
  refine xi_iload C 0 dL_law_994 rfl ?_
  refine xi_iconst C (v := 1) dL_law_996 rfl ?_
  refine xi_iadd C dL_law_997 ?_
  refine xi_sldF C hff hX hbl hbA (i := i + 1) (by omega) hL dL_law_998 ?_
  refine xi_aload_n C 4 dL_law_999 rfl rfl ?_
  refine xl_SH C hw ha0 rfl (c_L_codeOf l D ca ad tF (f (i + 1)) S _ (hf _) h hl9) xkh_L_codeOf xs_L_codeOf xl_L_178 ⟨Nat.le_of_ble_eq_true rfl, Nat.le_of_ble_eq_true rfl⟩ ⟨xrL hk9.1 (Nat.le_of_ble_eq_true rfl), xrL hk9.2 (Nat.le_of_ble_eq_true rfl)⟩ rfl rfl (Nat.le_of_ble_eq_true rfl) dL_law_1000 (fun E9 S9 h9 _ _ => h9.elim) (fun r9 Sc1000 h9 hw1 ha2 => ?_)
  obtain ⟨r1000, rfl, h_r1000, h⟩ := h9
  refine xi_istore C (L' := [(6, .int (iN r1000)), (5, .int (iN i)), (0, .ref b), (1, .ref (ad 0)), (2, .ref (ad 54)), (3, .ref (ad 98)), (4, .ref (ad 99))]) dL_law_1003 (by decide) rfl ?_
  refine xi_aload_n C 4 dL_law_1005 rfl rfl ?_
  refine xi_aload_n C 2 dL_law_1006 rfl rfl ?_
  refine xi_iload C 1 dL_law_1007 rfl ?_
  refine xi_iconst C (v := 1) dL_law_1009 rfl ?_
  refine xi_iadd C dL_law_1010 ?_
  refine xi_sldF C hff hX hbl hbA (i := i + 1) (by omega) hL dL_law_1011 ?_
  refine xc_Vj C hw1 (c_X9_codeOf l D ca ad tF (f (i + 1)) Sc1000 _ (hf _) h) xk_X9_codeOf xv_X9_codeOf xl_L_180 ⟨Nat.le_of_ble_eq_true rfl, Nat.le_of_ble_eq_true rfl⟩ xK_X9 (q := 54) rfl rfl rfl (Nat.le_of_ble_eq_true rfl) ⟨xrM hk9.1 (Nat.le_of_ble_eq_true rfl), xrM hk9.2 (Nat.le_of_ble_eq_true rfl)⟩ dL_law_1012 (fun r1012 Sc1012 h_r1012 h hw3 => ?_)
  refine xi_lstore C (L' := [(7, .long (jN r1012)), (6, .int (iN r1000)), (5, .int (iN i)), (0, .ref b), (1, .ref (ad 0)), (2, .ref (ad 54)), (3, .ref (ad 98)), (4, .ref (ad 99))]) dL_law_1015 (by decide) rfl ?_
  refine xi_aload_n C 5 dL_law_1017 rfl rfl ?_
  obtain ⟨hc4, h⟩ := h
  refine xc_Vi C hw3 (c_X9_thrown l D ca ad tF Sc1012 _ h) xk_X9_thrown xv_X9_thrown xl_L_137 ⟨Nat.le_of_ble_eq_true rfl, Nat.le_of_ble_eq_true rfl⟩ xK_X9 (q := 54) rfl rfl rfl (Nat.le_of_ble_eq_true rfl) ⟨xrM hk9.1 (Nat.le_of_ble_eq_true rfl), xrM hk9.2 (Nat.le_of_ble_eq_true rfl)⟩ dL_law_1018 (fun r1018 Sc1018 h_r1018 h hw5 => ?_)
  refine xi_iload C 1 dL_law_1021 rfl ?_
  refine xi_icmp_eq C 1028 h_r1018 h_r1000 dL_law_1023 (by decide) (fun z6 => ?_) (fun z6 => ?_)
  · replace h := h.1 z6
    refine xi_iload C 1 dL_law_1028 rfl ?_
    refine xi_if_ne C 1044 h_r1000 dL_law_1030 (by decide) (fun z7 => ?_) (fun z7 => ?_)
    · replace h := h.1 z7
      refine xi_goto C 2196 dL_law_1044 (by decide) ?_
      obtain ⟨hc8, h⟩ := h
      exact xV_alY (S1 := Sc1018) hc8 (xV_wid (xrK (Nat.le_of_ble_eq_true rfl)) (xrK (Nat.le_of_ble_eq_true rfl)) (xi_sub [2, 3, 4, 5, 6, 7] rfl (hk Sc1018 h hw5 (ha2.eq hc8))))
    · replace h := h.2 z7
      refine xi_aload_n C 6 dL_law_1033 rfl rfl ?_
      refine xi_iconst C (v := 0) dL_law_1034 rfl ?_
      refine xi_laload C (q := 98) rfl (by decide) (by decide) dL_law_1035 ?_
      refine xi_lload C 0 dL_law_1036 rfl ?_
      refine xi_lcmp_eq C 1044 (xval.j (q := 98) (i := 0) hw5 (by decide) rfl) h_r1012 dL_law_1038 dL_law_1039 (by decide) (fun z9 => ?_) (fun z9 => ?_)
      · replace h := h.1 z9
        refine xi_goto C 2196 dL_law_1044 (by decide) ?_
        obtain ⟨hc10, h⟩ := h
        exact xV_alY (S1 := Sc1018) hc10 (xV_wid (xrK (Nat.le_of_ble_eq_true rfl)) (xrK (Nat.le_of_ble_eq_true rfl)) (xi_sub [2, 3, 4, 5, 6, 7] rfl (hk Sc1018 h hw5 (ha2.eq hc10))))
      · replace h := h.2 z9
        refine xi_iconst C (v := 0) dL_law_1042 rfl ?_
        exact h.elim
  · replace h := h.2 z6
    refine xi_iconst C (v := 0) dL_law_1026 rfl ?_
    exact h.elim
set_option maxRecDepth 100000 in
set_option maxHeartbeats 4000000 in
theorem c_K13 {l : Launch} (hl9 : l.stackTraces = false) {D : va_G} {ca : Nat → ClassId} {ad : Nat → Nat} {tF : Nat} {p : Program} {e : Env} {s : State} {m : MethodId} {below : List Frame} {meth : Method} {c : Code} {A : Nat → Prop} {Z : State → Prop} {b L k0 n0 : Nat} {xs : Nat → Int32} {f : Int → Int} {i : Int} {S S0 : xS} {Q : xS → Prop}
    (C : xC (gC D ca ad tF) p c cL_law 9 s #[Value.ref b] RL m A) (hX : va_X b L xs s s.heap) (hbl : b < s.heap.size) (hbA : ¬ A b) (hL : L ≤ 3584) (hff : f = xsI xs) (h0 : 0 ≤ i ∧ i + 6 < (L : Int)) (hk9 : k0 + 5 + xgc S0 ≤ 603072 ∧ n0 + 30 + xgs S0 ≤ 7198826) (ha0 : xAl S0 S) (hw : xval (gC D ca ad tF) S) (h : w_K13 f i S Q)
    (hk : ∀ S' : xS, Q S' → xval (gC D ca ad tF) S' → xAl S0 S' → xV (gC D ca ad tF) p l e room_1 s m #[Value.ref b] below meth c A 9 Z (k0 + 5 + (xgc S0 - xgc S')) (n0 + 30 + (xgs S0 - xgs S')) 2196 [(5, .int (iN i)), (0, .ref b), (1, .ref (ad 0)), (2, .ref (ad 54)), (3, .ref (ad 98)), (4, .ref (ad 99))] [] S') :
    xV (gC D ca ad tF) p l e room_1 s m #[Value.ref b] below meth c A 9 Z (k0 + 0 + (xgc S0 - xgc S)) (n0 + 0 + (xgs S0 - xgs S)) 1047 [(5, .int (iN i)), (0, .ref b), (1, .ref (ad 0)), (2, .ref (ad 54)), (3, .ref (ad 98)), (4, .ref (ad 99))] [] S := by
  have h_i : xR i := ⟨by omega, by omega⟩
  have hf : ∀ z, xR (f z) := fun z => by rw [hff]; exact xR_I _
  unfold w_K13 at h
  refine xi_aload_n C 2 dL_law_1047 rfl rfl ?_
  refine xi_aload_n C 1 dL_law_1048 rfl rfl ?_
  refine xi_iload C 0 dL_law_1049 rfl ?_
  refine xi_iconst C (v := 1) dL_law_1051 rfl ?_
  refine xi_iadd C dL_law_1052 ?_
  refine xi_sldF C hff hX hbl hbA (i := i + 1) (by omega) hL dL_law_1053 ?_
  refine xi_aload_n C 4 dL_law_1054 rfl rfl ?_
  refine xl_SH C hw ha0 rfl (c_L_moves l D ca ad tF (f (i + 1)) S _ (hf _) h hl9) xkh_L_moves xs_L_moves xl_L_181 ⟨Nat.le_of_ble_eq_true rfl, Nat.le_of_ble_eq_true rfl⟩ ⟨xrL hk9.1 (Nat.le_of_ble_eq_true rfl), xrL hk9.2 (Nat.le_of_ble_eq_true rfl)⟩ rfl rfl (Nat.le_of_ble_eq_true rfl) dL_law_1055 (fun E9 S9 h9 _ _ => h9.elim) (fun r9 Sc1055 h9 hw1 ha2 => ?_)
  obtain ⟨r1055, rfl, h_r1055, h⟩ := h9
  refine xi_istore C (L' := [(6, .int (iN r1055)), (5, .int (iN i)), (0, .ref b), (1, .ref (ad 0)), (2, .ref (ad 54)), (3, .ref (ad 98)), (4, .ref (ad 99))]) dL_law_1058 (by decide) rfl ?_
  refine xi_aload_n C 4 dL_law_1060 rfl rfl ?_
  refine xi_aload_n C 2 dL_law_1061 rfl rfl ?_
  refine xi_iload C 1 dL_law_1062 rfl ?_
  refine xi_iconst C (v := 1) dL_law_1064 rfl ?_
  refine xi_iadd C dL_law_1065 ?_
  refine xi_sldF C hff hX hbl hbA (i := i + 1) (by omega) hL dL_law_1066 ?_
  refine xc_Vi C hw1 (c_X9_moves l D ca ad tF (f (i + 1)) Sc1055 _ (hf _) h) xk_X9_moves xv_X9_moves xl_L_183 ⟨Nat.le_of_ble_eq_true rfl, Nat.le_of_ble_eq_true rfl⟩ xK_X9 (q := 54) rfl rfl rfl (Nat.le_of_ble_eq_true rfl) ⟨xrM hk9.1 (Nat.le_of_ble_eq_true rfl), xrM hk9.2 (Nat.le_of_ble_eq_true rfl)⟩ dL_law_1067 (fun r1067 Sc1067 h_r1067 h hw3 => ?_)
  refine xi_istore C (L' := [(7, .int (iN r1067)), (6, .int (iN r1055)), (5, .int (iN i)), (0, .ref b), (1, .ref (ad 0)), (2, .ref (ad 54)), (3, .ref (ad 98)), (4, .ref (ad 99))]) dL_law_1070 (by decide) rfl ?_
  refine xi_aload_n C 5 dL_law_1072 rfl rfl ?_
  obtain ⟨hc4, h⟩ := h
  refine xc_Vi C hw3 (c_X9_thrown l D ca ad tF Sc1067 _ h) xk_X9_thrown xv_X9_thrown xl_L_137 ⟨Nat.le_of_ble_eq_true rfl, Nat.le_of_ble_eq_true rfl⟩ xK_X9 (q := 54) rfl rfl rfl (Nat.le_of_ble_eq_true rfl) ⟨xrM hk9.1 (Nat.le_of_ble_eq_true rfl), xrM hk9.2 (Nat.le_of_ble_eq_true rfl)⟩ dL_law_1073 (fun r1073 Sc1073 h_r1073 h hw5 => ?_)
  refine xi_iload C 1 dL_law_1076 rfl ?_
  refine xi_icmp_eq C 1083 h_r1073 h_r1055 dL_law_1078 (by decide) (fun z6 => ?_) (fun z6 => ?_)
  · replace h := h.1 z6
    refine xi_iload C 1 dL_law_1083 rfl ?_
    refine xi_if_ne C 1100 h_r1055 dL_law_1085 (by decide) (fun z7 => ?_) (fun z7 => ?_)
    · replace h := h.1 z7
      refine xi_goto C 2196 dL_law_1100 (by decide) ?_
      obtain ⟨hc8, h⟩ := h
      exact xV_alY (S1 := Sc1073) hc8 (xV_wid (xrK (Nat.le_of_ble_eq_true rfl)) (xrK (Nat.le_of_ble_eq_true rfl)) (xi_sub [2, 3, 4, 5, 6, 7] rfl (hk Sc1073 h hw5 (ha2.eq hc8))))
    · replace h := h.2 z7
      refine xi_aload_n C 6 dL_law_1088 rfl rfl ?_
      refine xi_iconst C (v := 0) dL_law_1089 rfl ?_
      refine xi_laload C (q := 98) rfl (by decide) (by decide) dL_law_1090 ?_
      refine xi_iload C 0 dL_law_1091 rfl ?_
      refine xi_i2l C h_r1067 dL_law_1093 ?_
      refine xi_lcmp_eq C 1100 (xval.j (q := 98) (i := 0) hw5 (by decide) rfl) (xR_J h_r1067) dL_law_1094 dL_law_1095 (by decide) (fun z9 => ?_) (fun z9 => ?_)
      · replace h := h.1 z9
        refine xi_goto C 2196 dL_law_1100 (by decide) ?_
        obtain ⟨hc10, h⟩ := h
        exact xV_alY (S1 := Sc1073) hc10 (xV_wid (xrK (Nat.le_of_ble_eq_true rfl)) (xrK (Nat.le_of_ble_eq_true rfl)) (xi_sub [2, 3, 4, 5, 6, 7] rfl (hk Sc1073 h hw5 (ha2.eq hc10))))
      · replace h := h.2 z9
        refine xi_iconst C (v := 0) dL_law_1098 rfl ?_
        exact h.elim
  · replace h := h.2 z6
    refine xi_iconst C (v := 0) dL_law_1081 rfl ?_
    exact h.elim
set_option maxRecDepth 100000 in
set_option maxHeartbeats 4000000 in
theorem c_K14 {l : Launch} (hl9 : l.stackTraces = false) {D : va_G} {ca : Nat → ClassId} {ad : Nat → Nat} {tF : Nat} {p : Program} {e : Env} {s : State} {m : MethodId} {below : List Frame} {meth : Method} {c : Code} {A : Nat → Prop} {Z : State → Prop} {b L k0 n0 : Nat} {xs : Nat → Int32} {f : Int → Int} {i : Int} {S S0 : xS} {Q : xS → Prop}
    (C : xC (gC D ca ad tF) p c cL_law 9 s #[Value.ref b] RL m A) (hX : va_X b L xs s s.heap) (hbl : b < s.heap.size) (hbA : ¬ A b) (hL : L ≤ 3584) (hff : f = xsI xs) (h0 : 0 ≤ i ∧ i + 6 < (L : Int)) (hk9 : k0 + 5 + xgc S0 ≤ 603072 ∧ n0 + 30 + xgs S0 ≤ 7198826) (ha0 : xAl S0 S) (hw : xval (gC D ca ad tF) S) (h : w_K14 f i S Q)
    (hk : ∀ S' : xS, Q S' → xval (gC D ca ad tF) S' → xAl S0 S' → xV (gC D ca ad tF) p l e room_1 s m #[Value.ref b] below meth c A 9 Z (k0 + 5 + (xgc S0 - xgc S')) (n0 + 30 + (xgs S0 - xgs S')) 2196 [(5, .int (iN i)), (0, .ref b), (1, .ref (ad 0)), (2, .ref (ad 54)), (3, .ref (ad 98)), (4, .ref (ad 99))] [] S') :
    xV (gC D ca ad tF) p l e room_1 s m #[Value.ref b] below meth c A 9 Z (k0 + 0 + (xgc S0 - xgc S)) (n0 + 0 + (xgs S0 - xgs S)) 1103 [(5, .int (iN i)), (0, .ref b), (1, .ref (ad 0)), (2, .ref (ad 54)), (3, .ref (ad 98)), (4, .ref (ad 99))] [] S := by
  have h_i : xR i := ⟨by omega, by omega⟩
  have hf : ∀ z, xR (f z) := fun z => by rw [hff]; exact xR_I _
  unfold w_K14 at h
  refine xi_aload_n C 2 dL_law_1103 rfl rfl ?_
  refine xi_aload_n C 1 dL_law_1104 rfl rfl ?_
  refine xi_iload C 0 dL_law_1105 rfl ?_
  refine xi_iconst C (v := 1) dL_law_1107 rfl ?_
  refine xi_iadd C dL_law_1108 ?_
  refine xi_sldF C hff hX hbl hbA (i := i + 1) (by omega) hL dL_law_1109 ?_
  refine xi_aload_n C 1 dL_law_1110 rfl rfl ?_
  refine xi_iload C 0 dL_law_1111 rfl ?_
  refine xi_iconst C (v := 2) dL_law_1113 rfl ?_
  refine xi_iadd C dL_law_1114 ?_
  refine xi_sldF C hff hX hbl hbA (i := i + 2) (by omega) hL dL_law_1115 ?_
  refine xi_aload_n C 4 dL_law_1116 rfl rfl ?_
  refine xl_SH C hw ha0 rfl (c_L_reached l D ca ad tF (f (i + 1)) (f (i + 2)) S _ (hf _) (hf _) h hl9) xkh_L_reached xs_L_reached xl_L_184 ⟨Nat.le_of_ble_eq_true rfl, Nat.le_of_ble_eq_true rfl⟩ ⟨xrL hk9.1 (Nat.le_of_ble_eq_true rfl), xrL hk9.2 (Nat.le_of_ble_eq_true rfl)⟩ rfl rfl (Nat.le_of_ble_eq_true rfl) dL_law_1117 (fun E9 S9 h9 _ _ => h9.elim) (fun r9 Sc1117 h9 hw1 ha2 => ?_)
  obtain ⟨r1117, rfl, h_r1117, h⟩ := h9
  refine xi_istore C (L' := [(6, .int (iN r1117)), (5, .int (iN i)), (0, .ref b), (1, .ref (ad 0)), (2, .ref (ad 54)), (3, .ref (ad 98)), (4, .ref (ad 99))]) dL_law_1120 (by decide) rfl ?_
  refine xi_aload_n C 4 dL_law_1122 rfl rfl ?_
  refine xi_aload_n C 2 dL_law_1123 rfl rfl ?_
  refine xi_iload C 1 dL_law_1124 rfl ?_
  refine xi_iconst C (v := 1) dL_law_1126 rfl ?_
  refine xi_iadd C dL_law_1127 ?_
  refine xi_sldF C hff hX hbl hbA (i := i + 1) (by omega) hL dL_law_1128 ?_
  refine xi_aload_n C 2 dL_law_1129 rfl rfl ?_
  refine xi_iload C 1 dL_law_1130 rfl ?_
  refine xi_iconst C (v := 2) dL_law_1132 rfl ?_
  refine xi_iadd C dL_law_1133 ?_
  refine xi_sldF C hff hX hbl hbA (i := i + 2) (by omega) hL dL_law_1134 ?_
  refine xc_Vj C hw1 (c_X9_reached l D ca ad tF (f (i + 1)) (f (i + 2)) Sc1117 _ (hf _) (hf _) h) xk_X9_reached xv_X9_reached xl_L_186 ⟨Nat.le_of_ble_eq_true rfl, Nat.le_of_ble_eq_true rfl⟩ xK_X9 (q := 54) rfl rfl rfl (Nat.le_of_ble_eq_true rfl) ⟨xrM hk9.1 (Nat.le_of_ble_eq_true rfl), xrM hk9.2 (Nat.le_of_ble_eq_true rfl)⟩ dL_law_1135 (fun r1135 Sc1135 h_r1135 h hw3 => ?_)
  refine xi_lstore C (L' := [(7, .long (jN r1135)), (6, .int (iN r1117)), (5, .int (iN i)), (0, .ref b), (1, .ref (ad 0)), (2, .ref (ad 54)), (3, .ref (ad 98)), (4, .ref (ad 99))]) dL_law_1138 (by decide) rfl ?_
  refine xi_aload_n C 5 dL_law_1140 rfl rfl ?_
  obtain ⟨hc4, h⟩ := h
  refine xc_Vi C hw3 (c_X9_thrown l D ca ad tF Sc1135 _ h) xk_X9_thrown xv_X9_thrown xl_L_137 ⟨Nat.le_of_ble_eq_true rfl, Nat.le_of_ble_eq_true rfl⟩ xK_X9 (q := 54) rfl rfl rfl (Nat.le_of_ble_eq_true rfl) ⟨xrM hk9.1 (Nat.le_of_ble_eq_true rfl), xrM hk9.2 (Nat.le_of_ble_eq_true rfl)⟩ dL_law_1141 (fun r1141 Sc1141 h_r1141 h hw5 => ?_)
  refine xi_iload C 1 dL_law_1144 rfl ?_
  refine xi_icmp_eq C 1151 h_r1141 h_r1117 dL_law_1146 (by decide) (fun z6 => ?_) (fun z6 => ?_)
  · replace h := h.1 z6
    refine xi_iload C 1 dL_law_1151 rfl ?_
    refine xi_if_ne C 1167 h_r1117 dL_law_1153 (by decide) (fun z7 => ?_) (fun z7 => ?_)
    · replace h := h.1 z7
      refine xi_goto C 2196 dL_law_1167 (by decide) ?_
      obtain ⟨hc8, h⟩ := h
      exact xV_alY (S1 := Sc1141) hc8 (xV_wid (xrK (Nat.le_of_ble_eq_true rfl)) (xrK (Nat.le_of_ble_eq_true rfl)) (xi_sub [2, 3, 4, 5, 6, 7] rfl (hk Sc1141 h hw5 (ha2.eq hc8))))
    · replace h := h.2 z7
      refine xi_aload_n C 6 dL_law_1156 rfl rfl ?_
      refine xi_iconst C (v := 0) dL_law_1157 rfl ?_
      refine xi_laload C (q := 98) rfl (by decide) (by decide) dL_law_1158 ?_
      refine xi_lload C 0 dL_law_1159 rfl ?_
      refine xi_lcmp_eq C 1167 (xval.j (q := 98) (i := 0) hw5 (by decide) rfl) h_r1135 dL_law_1161 dL_law_1162 (by decide) (fun z9 => ?_) (fun z9 => ?_)
      · replace h := h.1 z9
        refine xi_goto C 2196 dL_law_1167 (by decide) ?_
        obtain ⟨hc10, h⟩ := h
        exact xV_alY (S1 := Sc1141) hc10 (xV_wid (xrK (Nat.le_of_ble_eq_true rfl)) (xrK (Nat.le_of_ble_eq_true rfl)) (xi_sub [2, 3, 4, 5, 6, 7] rfl (hk Sc1141 h hw5 (ha2.eq hc10))))
      · replace h := h.2 z9
        refine xi_iconst C (v := 0) dL_law_1165 rfl ?_
        exact h.elim
  · replace h := h.2 z6
    refine xi_iconst C (v := 0) dL_law_1149 rfl ?_
    exact h.elim
set_option maxRecDepth 100000 in
set_option maxHeartbeats 4000000 in
theorem c_K15 {l : Launch} (hl9 : l.stackTraces = false) {D : va_G} {ca : Nat → ClassId} {ad : Nat → Nat} {tF : Nat} {p : Program} {e : Env} {s : State} {m : MethodId} {below : List Frame} {meth : Method} {c : Code} {A : Nat → Prop} {Z : State → Prop} {b L k0 n0 : Nat} {xs : Nat → Int32} {f : Int → Int} {i : Int} {S S0 : xS} {Q : xS → Prop}
    (C : xC (gC D ca ad tF) p c cL_law 9 s #[Value.ref b] RL m A) (hX : va_X b L xs s s.heap) (hbl : b < s.heap.size) (hbA : ¬ A b) (hL : L ≤ 3584) (hff : f = xsI xs) (h0 : 0 ≤ i ∧ i + 6 < (L : Int)) (hk9 : k0 + 5 + xgc S0 ≤ 603072 ∧ n0 + 30 + xgs S0 ≤ 7198826) (ha0 : xAl S0 S) (hw : xval (gC D ca ad tF) S) (h : w_K15 f i S Q)
    (hk : ∀ S' : xS, Q S' → xval (gC D ca ad tF) S' → xAl S0 S' → xV (gC D ca ad tF) p l e room_1 s m #[Value.ref b] below meth c A 9 Z (k0 + 5 + (xgc S0 - xgc S')) (n0 + 30 + (xgs S0 - xgs S')) 2196 [(5, .int (iN i)), (0, .ref b), (1, .ref (ad 0)), (2, .ref (ad 54)), (3, .ref (ad 98)), (4, .ref (ad 99))] [] S') :
    xV (gC D ca ad tF) p l e room_1 s m #[Value.ref b] below meth c A 9 Z (k0 + 0 + (xgc S0 - xgc S)) (n0 + 0 + (xgs S0 - xgs S)) 1170 [(5, .int (iN i)), (0, .ref b), (1, .ref (ad 0)), (2, .ref (ad 54)), (3, .ref (ad 98)), (4, .ref (ad 99))] [] S := by
  have h_i : xR i := ⟨by omega, by omega⟩
  have hf : ∀ z, xR (f z) := fun z => by rw [hff]; exact xR_I _
  unfold w_K15 at h
  refine xi_aload_n C 2 dL_law_1170 rfl rfl ?_
  refine xi_aload_n C 1 dL_law_1171 rfl rfl ?_
  refine xi_iload C 0 dL_law_1172 rfl ?_
  refine xi_iconst C (v := 1) dL_law_1174 rfl ?_
  refine xi_iadd C dL_law_1175 ?_
  refine xi_sldF C hff hX hbl hbA (i := i + 1) (by omega) hL dL_law_1176 ?_
  refine xi_aload_n C 1 dL_law_1177 rfl rfl ?_
  refine xi_iload C 0 dL_law_1178 rfl ?_
  refine xi_iconst C (v := 2) dL_law_1180 rfl ?_
  refine xi_iadd C dL_law_1181 ?_
  refine xi_sldF C hff hX hbl hbA (i := i + 2) (by omega) hL dL_law_1182 ?_
  refine xi_aload_n C 4 dL_law_1183 rfl rfl ?_
  refine xl_SH C hw ha0 rfl (c_L_variableIn l D ca ad tF (f (i + 1)) (f (i + 2)) S _ (hf _) (hf _) h hl9) xkh_L_variableIn xs_L_variableIn xl_L_187 ⟨Nat.le_of_ble_eq_true rfl, Nat.le_of_ble_eq_true rfl⟩ ⟨xrL hk9.1 (Nat.le_of_ble_eq_true rfl), xrL hk9.2 (Nat.le_of_ble_eq_true rfl)⟩ rfl rfl (Nat.le_of_ble_eq_true rfl) dL_law_1184 (fun E9 S9 h9 _ _ => h9.elim) (fun r9 Sc1184 h9 hw1 ha2 => ?_)
  obtain ⟨r1184, rfl, h_r1184, h⟩ := h9
  refine xi_istore C (L' := [(6, .int (iN r1184)), (5, .int (iN i)), (0, .ref b), (1, .ref (ad 0)), (2, .ref (ad 54)), (3, .ref (ad 98)), (4, .ref (ad 99))]) dL_law_1187 (by decide) rfl ?_
  refine xi_aload_n C 4 dL_law_1189 rfl rfl ?_
  refine xi_aload_n C 2 dL_law_1190 rfl rfl ?_
  refine xi_iload C 1 dL_law_1191 rfl ?_
  refine xi_iconst C (v := 1) dL_law_1193 rfl ?_
  refine xi_iadd C dL_law_1194 ?_
  refine xi_sldF C hff hX hbl hbA (i := i + 1) (by omega) hL dL_law_1195 ?_
  refine xi_aload_n C 2 dL_law_1196 rfl rfl ?_
  refine xi_iload C 1 dL_law_1197 rfl ?_
  refine xi_iconst C (v := 2) dL_law_1199 rfl ?_
  refine xi_iadd C dL_law_1200 ?_
  refine xi_sldF C hff hX hbl hbA (i := i + 2) (by omega) hL dL_law_1201 ?_
  refine xc_Vi C hw1 (c_X9_variableIn l D ca ad tF (f (i + 1)) (f (i + 2)) Sc1184 _ (hf _) (hf _) h) xk_X9_variableIn xv_X9_variableIn xl_L_189 ⟨Nat.le_of_ble_eq_true rfl, Nat.le_of_ble_eq_true rfl⟩ xK_X9 (q := 54) rfl rfl rfl (Nat.le_of_ble_eq_true rfl) ⟨xrM hk9.1 (Nat.le_of_ble_eq_true rfl), xrM hk9.2 (Nat.le_of_ble_eq_true rfl)⟩ dL_law_1202 (fun r1202 Sc1202 h_r1202 h hw3 => ?_)
  refine xi_istore C (L' := [(7, .int (iN r1202)), (6, .int (iN r1184)), (5, .int (iN i)), (0, .ref b), (1, .ref (ad 0)), (2, .ref (ad 54)), (3, .ref (ad 98)), (4, .ref (ad 99))]) dL_law_1205 (by decide) rfl ?_
  refine xi_aload_n C 5 dL_law_1207 rfl rfl ?_
  obtain ⟨hc4, h⟩ := h
  refine xc_Vi C hw3 (c_X9_thrown l D ca ad tF Sc1202 _ h) xk_X9_thrown xv_X9_thrown xl_L_137 ⟨Nat.le_of_ble_eq_true rfl, Nat.le_of_ble_eq_true rfl⟩ xK_X9 (q := 54) rfl rfl rfl (Nat.le_of_ble_eq_true rfl) ⟨xrM hk9.1 (Nat.le_of_ble_eq_true rfl), xrM hk9.2 (Nat.le_of_ble_eq_true rfl)⟩ dL_law_1208 (fun r1208 Sc1208 h_r1208 h hw5 => ?_)
  refine xi_iload C 1 dL_law_1211 rfl ?_
  refine xi_icmp_eq C 1218 h_r1208 h_r1184 dL_law_1213 (by decide) (fun z6 => ?_) (fun z6 => ?_)
  · replace h := h.1 z6
    refine xi_iload C 1 dL_law_1218 rfl ?_
    refine xi_if_ne C 1235 h_r1184 dL_law_1220 (by decide) (fun z7 => ?_) (fun z7 => ?_)
    · replace h := h.1 z7
      refine xi_goto C 2196 dL_law_1235 (by decide) ?_
      obtain ⟨hc8, h⟩ := h
      exact xV_alY (S1 := Sc1208) hc8 (xV_wid (xrK (Nat.le_of_ble_eq_true rfl)) (xrK (Nat.le_of_ble_eq_true rfl)) (xi_sub [2, 3, 4, 5, 6, 7] rfl (hk Sc1208 h hw5 (ha2.eq hc8))))
    · replace h := h.2 z7
      refine xi_aload_n C 6 dL_law_1223 rfl rfl ?_
      refine xi_iconst C (v := 0) dL_law_1224 rfl ?_
      refine xi_laload C (q := 98) rfl (by decide) (by decide) dL_law_1225 ?_
      refine xi_iload C 0 dL_law_1226 rfl ?_
      refine xi_i2l C h_r1202 dL_law_1228 ?_
      refine xi_lcmp_eq C 1235 (xval.j (q := 98) (i := 0) hw5 (by decide) rfl) (xR_J h_r1202) dL_law_1229 dL_law_1230 (by decide) (fun z9 => ?_) (fun z9 => ?_)
      · replace h := h.1 z9
        refine xi_goto C 2196 dL_law_1235 (by decide) ?_
        obtain ⟨hc10, h⟩ := h
        exact xV_alY (S1 := Sc1208) hc10 (xV_wid (xrK (Nat.le_of_ble_eq_true rfl)) (xrK (Nat.le_of_ble_eq_true rfl)) (xi_sub [2, 3, 4, 5, 6, 7] rfl (hk Sc1208 h hw5 (ha2.eq hc10))))
      · replace h := h.2 z9
        refine xi_iconst C (v := 0) dL_law_1233 rfl ?_
        exact h.elim
  · replace h := h.2 z6
    refine xi_iconst C (v := 0) dL_law_1216 rfl ?_
    exact h.elim
set_option maxRecDepth 100000 in
set_option maxHeartbeats 4000000 in
theorem c_K16 {l : Launch} (hl9 : l.stackTraces = false) {D : va_G} {ca : Nat → ClassId} {ad : Nat → Nat} {tF : Nat} {p : Program} {e : Env} {s : State} {m : MethodId} {below : List Frame} {meth : Method} {c : Code} {A : Nat → Prop} {Z : State → Prop} {b L k0 n0 : Nat} {xs : Nat → Int32} {f : Int → Int} {i : Int} {S S0 : xS} {Q : xS → Prop}
    (C : xC (gC D ca ad tF) p c cL_law 9 s #[Value.ref b] RL m A) (hX : va_X b L xs s s.heap) (hbl : b < s.heap.size) (hbA : ¬ A b) (hL : L ≤ 3584) (hff : f = xsI xs) (h0 : 0 ≤ i ∧ i + 6 < (L : Int)) (hk9 : k0 + 5 + xgc S0 ≤ 603072 ∧ n0 + 30 + xgs S0 ≤ 7198826) (ha0 : xAl S0 S) (hw : xval (gC D ca ad tF) S) (h : w_K16 f i S Q)
    (hk : ∀ S' : xS, Q S' → xval (gC D ca ad tF) S' → xAl S0 S' → xV (gC D ca ad tF) p l e room_1 s m #[Value.ref b] below meth c A 9 Z (k0 + 5 + (xgc S0 - xgc S')) (n0 + 30 + (xgs S0 - xgs S')) 2196 [(5, .int (iN i)), (0, .ref b), (1, .ref (ad 0)), (2, .ref (ad 54)), (3, .ref (ad 98)), (4, .ref (ad 99))] [] S') :
    xV (gC D ca ad tF) p l e room_1 s m #[Value.ref b] below meth c A 9 Z (k0 + 0 + (xgc S0 - xgc S)) (n0 + 0 + (xgs S0 - xgs S)) 1238 [(5, .int (iN i)), (0, .ref b), (1, .ref (ad 0)), (2, .ref (ad 54)), (3, .ref (ad 98)), (4, .ref (ad 99))] [] S := by
  have h_i : xR i := ⟨by omega, by omega⟩
  have hf : ∀ z, xR (f z) := fun z => by rw [hff]; exact xR_I _
  unfold w_K16 at h
  refine xi_aload_n C 2 dL_law_1238 rfl rfl ?_
  refine xi_aload_n C 4 dL_law_1239 rfl rfl ?_
  refine xl_SH C hw ha0 rfl (c_L_made l D ca ad tF S _ h hl9) xkh_L_made xs_L_made xl_L_190 ⟨Nat.le_of_ble_eq_true rfl, Nat.le_of_ble_eq_true rfl⟩ ⟨xrL hk9.1 (Nat.le_of_ble_eq_true rfl), xrL hk9.2 (Nat.le_of_ble_eq_true rfl)⟩ rfl rfl (Nat.le_of_ble_eq_true rfl) dL_law_1240 (fun E9 S9 h9 _ _ => h9.elim) (fun r9 Sc1240 h9 hw1 ha2 => ?_)
  obtain ⟨r1240, rfl, h_r1240, h⟩ := h9
  refine xi_istore C (L' := [(6, .int (iN r1240)), (5, .int (iN i)), (0, .ref b), (1, .ref (ad 0)), (2, .ref (ad 54)), (3, .ref (ad 98)), (4, .ref (ad 99))]) dL_law_1243 (by decide) rfl ?_
  refine xi_aload_n C 4 dL_law_1245 rfl rfl ?_
  refine xc_Vj C hw1 (c_X9_made l D ca ad tF Sc1240 _ h) xk_X9_made xv_X9_made xl_L_192 ⟨Nat.le_of_ble_eq_true rfl, Nat.le_of_ble_eq_true rfl⟩ xK_X9 (q := 54) rfl rfl rfl (Nat.le_of_ble_eq_true rfl) ⟨xrM hk9.1 (Nat.le_of_ble_eq_true rfl), xrM hk9.2 (Nat.le_of_ble_eq_true rfl)⟩ dL_law_1246 (fun r1246 Sc1246 h_r1246 h hw3 => ?_)
  refine xi_lstore C (L' := [(7, .long (jN r1246)), (6, .int (iN r1240)), (5, .int (iN i)), (0, .ref b), (1, .ref (ad 0)), (2, .ref (ad 54)), (3, .ref (ad 98)), (4, .ref (ad 99))]) dL_law_1249 (by decide) rfl ?_
  refine xi_aload_n C 5 dL_law_1251 rfl rfl ?_
  obtain ⟨hc4, h⟩ := h
  refine xc_Vi C hw3 (c_X9_thrown l D ca ad tF Sc1246 _ h) xk_X9_thrown xv_X9_thrown xl_L_137 ⟨Nat.le_of_ble_eq_true rfl, Nat.le_of_ble_eq_true rfl⟩ xK_X9 (q := 54) rfl rfl rfl (Nat.le_of_ble_eq_true rfl) ⟨xrM hk9.1 (Nat.le_of_ble_eq_true rfl), xrM hk9.2 (Nat.le_of_ble_eq_true rfl)⟩ dL_law_1252 (fun r1252 Sc1252 h_r1252 h hw5 => ?_)
  refine xi_iload C 1 dL_law_1255 rfl ?_
  refine xi_icmp_eq C 1262 h_r1252 h_r1240 dL_law_1257 (by decide) (fun z6 => ?_) (fun z6 => ?_)
  · replace h := h.1 z6
    refine xi_iload C 1 dL_law_1262 rfl ?_
    refine xi_if_ne C 1278 h_r1240 dL_law_1264 (by decide) (fun z7 => ?_) (fun z7 => ?_)
    · replace h := h.1 z7
      refine xi_goto C 2196 dL_law_1278 (by decide) ?_
      obtain ⟨hc8, h⟩ := h
      exact xV_alY (S1 := Sc1252) hc8 (xV_wid (xrK (Nat.le_of_ble_eq_true rfl)) (xrK (Nat.le_of_ble_eq_true rfl)) (xi_sub [2, 3, 4, 5, 6, 7] rfl (hk Sc1252 h hw5 (ha2.eq hc8))))
    · replace h := h.2 z7
      refine xi_aload_n C 6 dL_law_1267 rfl rfl ?_
      refine xi_iconst C (v := 0) dL_law_1268 rfl ?_
      refine xi_laload C (q := 98) rfl (by decide) (by decide) dL_law_1269 ?_
      refine xi_lload C 0 dL_law_1270 rfl ?_
      refine xi_lcmp_eq C 1278 (xval.j (q := 98) (i := 0) hw5 (by decide) rfl) h_r1246 dL_law_1272 dL_law_1273 (by decide) (fun z9 => ?_) (fun z9 => ?_)
      · replace h := h.1 z9
        refine xi_goto C 2196 dL_law_1278 (by decide) ?_
        obtain ⟨hc10, h⟩ := h
        exact xV_alY (S1 := Sc1252) hc10 (xV_wid (xrK (Nat.le_of_ble_eq_true rfl)) (xrK (Nat.le_of_ble_eq_true rfl)) (xi_sub [2, 3, 4, 5, 6, 7] rfl (hk Sc1252 h hw5 (ha2.eq hc10))))
      · replace h := h.2 z9
        refine xi_iconst C (v := 0) dL_law_1276 rfl ?_
        exact h.elim
  · replace h := h.2 z6
    refine xi_iconst C (v := 0) dL_law_1260 rfl ?_
    exact h.elim
set_option maxRecDepth 100000 in
set_option maxHeartbeats 4000000 in
theorem c_K17 {l : Launch} (hl9 : l.stackTraces = false) {D : va_G} {ca : Nat → ClassId} {ad : Nat → Nat} {tF : Nat} {p : Program} {e : Env} {s : State} {m : MethodId} {below : List Frame} {meth : Method} {c : Code} {A : Nat → Prop} {Z : State → Prop} {b L k0 n0 : Nat} {xs : Nat → Int32} {f : Int → Int} {i : Int} {S S0 : xS} {Q : xS → Prop}
    (C : xC (gC D ca ad tF) p c cL_law 9 s #[Value.ref b] RL m A) (hX : va_X b L xs s s.heap) (hbl : b < s.heap.size) (hbA : ¬ A b) (hL : L ≤ 3584) (hff : f = xsI xs) (h0 : 0 ≤ i ∧ i + 6 < (L : Int)) (hk9 : k0 + 5 + xgc S0 ≤ 603072 ∧ n0 + 30 + xgs S0 ≤ 7198826) (ha0 : xAl S0 S) (hw : xval (gC D ca ad tF) S) (h : w_K17 f i S Q)
    (hk : ∀ S' : xS, Q S' → xval (gC D ca ad tF) S' → xAl S0 S' → xV (gC D ca ad tF) p l e room_1 s m #[Value.ref b] below meth c A 9 Z (k0 + 5 + (xgc S0 - xgc S')) (n0 + 30 + (xgs S0 - xgs S')) 2196 [(5, .int (iN i)), (0, .ref b), (1, .ref (ad 0)), (2, .ref (ad 54)), (3, .ref (ad 98)), (4, .ref (ad 99))] [] S') :
    xV (gC D ca ad tF) p l e room_1 s m #[Value.ref b] below meth c A 9 Z (k0 + 0 + (xgc S0 - xgc S)) (n0 + 0 + (xgs S0 - xgs S)) 1281 [(5, .int (iN i)), (0, .ref b), (1, .ref (ad 0)), (2, .ref (ad 54)), (3, .ref (ad 98)), (4, .ref (ad 99))] [] S := by
  have h_i : xR i := ⟨by omega, by omega⟩
  have hf : ∀ z, xR (f z) := fun z => by rw [hff]; exact xR_I _
  unfold w_K17 at h
  refine xi_aload_n C 2 dL_law_1281 rfl rfl ?_
  refine xi_aload_n C 4 dL_law_1282 rfl rfl ?_
  refine xl_SH C hw ha0 rfl (c_L_fault l D ca ad tF S _ h hl9) xkh_L_fault xs_L_fault xl_L_193 ⟨Nat.le_of_ble_eq_true rfl, Nat.le_of_ble_eq_true rfl⟩ ⟨xrL hk9.1 (Nat.le_of_ble_eq_true rfl), xrL hk9.2 (Nat.le_of_ble_eq_true rfl)⟩ rfl rfl (Nat.le_of_ble_eq_true rfl) dL_law_1283 (fun E9 S9 h9 _ _ => h9.elim) (fun r9 Sc1283 h9 hw1 ha2 => ?_)
  obtain ⟨r1283, rfl, h_r1283, h⟩ := h9
  refine xi_istore C (L' := [(6, .int (iN r1283)), (5, .int (iN i)), (0, .ref b), (1, .ref (ad 0)), (2, .ref (ad 54)), (3, .ref (ad 98)), (4, .ref (ad 99))]) dL_law_1286 (by decide) rfl ?_
  refine xi_aload_n C 4 dL_law_1288 rfl rfl ?_
  refine xc_Vi C hw1 (c_X9_fault l D ca ad tF Sc1283 _ h) xk_X9_fault xv_X9_fault xl_L_195 ⟨Nat.le_of_ble_eq_true rfl, Nat.le_of_ble_eq_true rfl⟩ xK_X9 (q := 54) rfl rfl rfl (Nat.le_of_ble_eq_true rfl) ⟨xrM hk9.1 (Nat.le_of_ble_eq_true rfl), xrM hk9.2 (Nat.le_of_ble_eq_true rfl)⟩ dL_law_1289 (fun r1289 Sc1289 h_r1289 h hw3 => ?_)
  refine xi_istore C (L' := [(7, .int (iN r1289)), (6, .int (iN r1283)), (5, .int (iN i)), (0, .ref b), (1, .ref (ad 0)), (2, .ref (ad 54)), (3, .ref (ad 98)), (4, .ref (ad 99))]) dL_law_1292 (by decide) rfl ?_
  refine xi_aload_n C 5 dL_law_1294 rfl rfl ?_
  obtain ⟨hc4, h⟩ := h
  refine xc_Vi C hw3 (c_X9_thrown l D ca ad tF Sc1289 _ h) xk_X9_thrown xv_X9_thrown xl_L_137 ⟨Nat.le_of_ble_eq_true rfl, Nat.le_of_ble_eq_true rfl⟩ xK_X9 (q := 54) rfl rfl rfl (Nat.le_of_ble_eq_true rfl) ⟨xrM hk9.1 (Nat.le_of_ble_eq_true rfl), xrM hk9.2 (Nat.le_of_ble_eq_true rfl)⟩ dL_law_1295 (fun r1295 Sc1295 h_r1295 h hw5 => ?_)
  refine xi_iload C 1 dL_law_1298 rfl ?_
  refine xi_icmp_eq C 1305 h_r1295 h_r1283 dL_law_1300 (by decide) (fun z6 => ?_) (fun z6 => ?_)
  · replace h := h.1 z6
    refine xi_iload C 1 dL_law_1305 rfl ?_
    refine xi_if_ne C 1322 h_r1283 dL_law_1307 (by decide) (fun z7 => ?_) (fun z7 => ?_)
    · replace h := h.1 z7
      refine xi_goto C 2196 dL_law_1322 (by decide) ?_
      obtain ⟨hc8, h⟩ := h
      exact xV_alY (S1 := Sc1295) hc8 (xV_wid (xrK (Nat.le_of_ble_eq_true rfl)) (xrK (Nat.le_of_ble_eq_true rfl)) (xi_sub [2, 3, 4, 5, 6, 7] rfl (hk Sc1295 h hw5 (ha2.eq hc8))))
    · replace h := h.2 z7
      refine xi_aload_n C 6 dL_law_1310 rfl rfl ?_
      refine xi_iconst C (v := 0) dL_law_1311 rfl ?_
      refine xi_laload C (q := 98) rfl (by decide) (by decide) dL_law_1312 ?_
      refine xi_iload C 0 dL_law_1313 rfl ?_
      refine xi_i2l C h_r1289 dL_law_1315 ?_
      refine xi_lcmp_eq C 1322 (xval.j (q := 98) (i := 0) hw5 (by decide) rfl) (xR_J h_r1289) dL_law_1316 dL_law_1317 (by decide) (fun z9 => ?_) (fun z9 => ?_)
      · replace h := h.1 z9
        refine xi_goto C 2196 dL_law_1322 (by decide) ?_
        obtain ⟨hc10, h⟩ := h
        exact xV_alY (S1 := Sc1295) hc10 (xV_wid (xrK (Nat.le_of_ble_eq_true rfl)) (xrK (Nat.le_of_ble_eq_true rfl)) (xi_sub [2, 3, 4, 5, 6, 7] rfl (hk Sc1295 h hw5 (ha2.eq hc10))))
      · replace h := h.2 z9
        refine xi_iconst C (v := 0) dL_law_1320 rfl ?_
        exact h.elim
  · replace h := h.2 z6
    refine xi_iconst C (v := 0) dL_law_1303 rfl ?_
    exact h.elim
set_option maxRecDepth 100000 in
set_option maxHeartbeats 4000000 in
theorem c_K18 {l : Launch} (hl9 : l.stackTraces = false) {D : va_G} {ca : Nat → ClassId} {ad : Nat → Nat} {tF : Nat} {p : Program} {e : Env} {s : State} {m : MethodId} {below : List Frame} {meth : Method} {c : Code} {A : Nat → Prop} {Z : State → Prop} {b L k0 n0 : Nat} {xs : Nat → Int32} {f : Int → Int} {i : Int} {S S0 : xS} {Q : xS → Prop}
    (C : xC (gC D ca ad tF) p c cL_law 9 s #[Value.ref b] RL m A) (hX : va_X b L xs s s.heap) (hbl : b < s.heap.size) (hbA : ¬ A b) (hL : L ≤ 3584) (hff : f = xsI xs) (h0 : 0 ≤ i ∧ i + 6 < (L : Int)) (hk9 : k0 + 5 + xgc S0 ≤ 603072 ∧ n0 + 30 + xgs S0 ≤ 7198826) (ha0 : xAl S0 S) (hw : xval (gC D ca ad tF) S) (h : w_K18 f i S Q)
    (hk : ∀ S' : xS, Q S' → xval (gC D ca ad tF) S' → xAl S0 S' → xV (gC D ca ad tF) p l e room_1 s m #[Value.ref b] below meth c A 9 Z (k0 + 5 + (xgc S0 - xgc S')) (n0 + 30 + (xgs S0 - xgs S')) 2196 [(5, .int (iN i)), (0, .ref b), (1, .ref (ad 0)), (2, .ref (ad 54)), (3, .ref (ad 98)), (4, .ref (ad 99))] [] S') :
    xV (gC D ca ad tF) p l e room_1 s m #[Value.ref b] below meth c A 9 Z (k0 + 0 + (xgc S0 - xgc S)) (n0 + 0 + (xgs S0 - xgs S)) 1325 [(5, .int (iN i)), (0, .ref b), (1, .ref (ad 0)), (2, .ref (ad 54)), (3, .ref (ad 98)), (4, .ref (ad 99))] [] S := by
  have h_i : xR i := ⟨by omega, by omega⟩
  have hf : ∀ z, xR (f z) := fun z => by rw [hff]; exact xR_I _
  unfold w_K18 at h
  refine xi_aload_n C 2 dL_law_1325 rfl rfl ?_
  refine xi_aload_n C 4 dL_law_1326 rfl rfl ?_
  refine xl_SH C hw ha0 rfl (c_L_traceLength l D ca ad tF S _ h hl9) xkh_L_traceLength xs_L_traceLength xl_L_196 ⟨Nat.le_of_ble_eq_true rfl, Nat.le_of_ble_eq_true rfl⟩ ⟨xrL hk9.1 (Nat.le_of_ble_eq_true rfl), xrL hk9.2 (Nat.le_of_ble_eq_true rfl)⟩ rfl rfl (Nat.le_of_ble_eq_true rfl) dL_law_1327 (fun E9 S9 h9 _ _ => h9.elim) (fun r9 Sc1327 h9 hw1 ha2 => ?_)
  obtain ⟨r1327, rfl, h_r1327, h⟩ := h9
  refine xi_istore C (L' := [(6, .int (iN r1327)), (5, .int (iN i)), (0, .ref b), (1, .ref (ad 0)), (2, .ref (ad 54)), (3, .ref (ad 98)), (4, .ref (ad 99))]) dL_law_1330 (by decide) rfl ?_
  refine xi_aload_n C 4 dL_law_1332 rfl rfl ?_
  refine xc_Vi C hw1 (c_X9_traceLength l D ca ad tF Sc1327 _ h) xk_X9_traceLength xv_X9_traceLength xl_L_198 ⟨Nat.le_of_ble_eq_true rfl, Nat.le_of_ble_eq_true rfl⟩ xK_X9 (q := 54) rfl rfl rfl (Nat.le_of_ble_eq_true rfl) ⟨xrM hk9.1 (Nat.le_of_ble_eq_true rfl), xrM hk9.2 (Nat.le_of_ble_eq_true rfl)⟩ dL_law_1333 (fun r1333 Sc1333 h_r1333 h hw3 => ?_)
  refine xi_istore C (L' := [(7, .int (iN r1333)), (6, .int (iN r1327)), (5, .int (iN i)), (0, .ref b), (1, .ref (ad 0)), (2, .ref (ad 54)), (3, .ref (ad 98)), (4, .ref (ad 99))]) dL_law_1336 (by decide) rfl ?_
  refine xi_aload_n C 5 dL_law_1338 rfl rfl ?_
  obtain ⟨hc4, h⟩ := h
  refine xc_Vi C hw3 (c_X9_thrown l D ca ad tF Sc1333 _ h) xk_X9_thrown xv_X9_thrown xl_L_137 ⟨Nat.le_of_ble_eq_true rfl, Nat.le_of_ble_eq_true rfl⟩ xK_X9 (q := 54) rfl rfl rfl (Nat.le_of_ble_eq_true rfl) ⟨xrM hk9.1 (Nat.le_of_ble_eq_true rfl), xrM hk9.2 (Nat.le_of_ble_eq_true rfl)⟩ dL_law_1339 (fun r1339 Sc1339 h_r1339 h hw5 => ?_)
  refine xi_iload C 1 dL_law_1342 rfl ?_
  refine xi_icmp_eq C 1349 h_r1339 h_r1327 dL_law_1344 (by decide) (fun z6 => ?_) (fun z6 => ?_)
  · replace h := h.1 z6
    refine xi_iload C 1 dL_law_1349 rfl ?_
    refine xi_if_ne C 1366 h_r1327 dL_law_1351 (by decide) (fun z7 => ?_) (fun z7 => ?_)
    · replace h := h.1 z7
      refine xi_goto C 2196 dL_law_1366 (by decide) ?_
      obtain ⟨hc8, h⟩ := h
      exact xV_alY (S1 := Sc1339) hc8 (xV_wid (xrK (Nat.le_of_ble_eq_true rfl)) (xrK (Nat.le_of_ble_eq_true rfl)) (xi_sub [2, 3, 4, 5, 6, 7] rfl (hk Sc1339 h hw5 (ha2.eq hc8))))
    · replace h := h.2 z7
      refine xi_aload_n C 6 dL_law_1354 rfl rfl ?_
      refine xi_iconst C (v := 0) dL_law_1355 rfl ?_
      refine xi_laload C (q := 98) rfl (by decide) (by decide) dL_law_1356 ?_
      refine xi_iload C 0 dL_law_1357 rfl ?_
      refine xi_i2l C h_r1333 dL_law_1359 ?_
      refine xi_lcmp_eq C 1366 (xval.j (q := 98) (i := 0) hw5 (by decide) rfl) (xR_J h_r1333) dL_law_1360 dL_law_1361 (by decide) (fun z9 => ?_) (fun z9 => ?_)
      · replace h := h.1 z9
        refine xi_goto C 2196 dL_law_1366 (by decide) ?_
        obtain ⟨hc10, h⟩ := h
        exact xV_alY (S1 := Sc1339) hc10 (xV_wid (xrK (Nat.le_of_ble_eq_true rfl)) (xrK (Nat.le_of_ble_eq_true rfl)) (xi_sub [2, 3, 4, 5, 6, 7] rfl (hk Sc1339 h hw5 (ha2.eq hc10))))
      · replace h := h.2 z9
        refine xi_iconst C (v := 0) dL_law_1364 rfl ?_
        exact h.elim
  · replace h := h.2 z6
    refine xi_iconst C (v := 0) dL_law_1347 rfl ?_
    exact h.elim
set_option maxRecDepth 100000 in
set_option maxHeartbeats 4000000 in
theorem c_K19 {l : Launch} (hl9 : l.stackTraces = false) {D : va_G} {ca : Nat → ClassId} {ad : Nat → Nat} {tF : Nat} {p : Program} {e : Env} {s : State} {m : MethodId} {below : List Frame} {meth : Method} {c : Code} {A : Nat → Prop} {Z : State → Prop} {b L k0 n0 : Nat} {xs : Nat → Int32} {f : Int → Int} {i : Int} {S S0 : xS} {Q : xS → Prop}
    (C : xC (gC D ca ad tF) p c cL_law 9 s #[Value.ref b] RL m A) (hX : va_X b L xs s s.heap) (hbl : b < s.heap.size) (hbA : ¬ A b) (hL : L ≤ 3584) (hff : f = xsI xs) (h0 : 0 ≤ i ∧ i + 6 < (L : Int)) (hk9 : k0 + 5 + xgc S0 ≤ 603072 ∧ n0 + 30 + xgs S0 ≤ 7198826) (ha0 : xAl S0 S) (hw : xval (gC D ca ad tF) S) (h : w_K19 f i S Q)
    (hk : ∀ S' : xS, Q S' → xval (gC D ca ad tF) S' → xAl S0 S' → xV (gC D ca ad tF) p l e room_1 s m #[Value.ref b] below meth c A 9 Z (k0 + 5 + (xgc S0 - xgc S')) (n0 + 30 + (xgs S0 - xgs S')) 2196 [(5, .int (iN i)), (0, .ref b), (1, .ref (ad 0)), (2, .ref (ad 54)), (3, .ref (ad 98)), (4, .ref (ad 99))] [] S') :
    xV (gC D ca ad tF) p l e room_1 s m #[Value.ref b] below meth c A 9 Z (k0 + 0 + (xgc S0 - xgc S)) (n0 + 0 + (xgs S0 - xgs S)) 1369 [(5, .int (iN i)), (0, .ref b), (1, .ref (ad 0)), (2, .ref (ad 54)), (3, .ref (ad 98)), (4, .ref (ad 99))] [] S := by
  have h_i : xR i := ⟨by omega, by omega⟩
  have hf : ∀ z, xR (f z) := fun z => by rw [hff]; exact xR_I _
  unfold w_K19 at h
  refine xi_aload_n C 2 dL_law_1369 rfl rfl ?_
  refine xi_aload_n C 1 dL_law_1370 rfl rfl ?_
  refine xi_iload C 0 dL_law_1371 rfl ?_
  refine xi_iconst C (v := 1) dL_law_1373 rfl ?_
  refine xi_iadd C dL_law_1374 ?_
  refine xi_sldF C hff hX hbl hbA (i := i + 1) (by omega) hL dL_law_1375 ?_
  refine xi_aload_n C 4 dL_law_1376 rfl rfl ?_
  refine xl_SH C hw ha0 rfl (c_L_traceProcess l D ca ad tF (f (i + 1)) S _ (hf _) h hl9) xkh_L_traceProcess xs_L_traceProcess xl_L_199 ⟨Nat.le_of_ble_eq_true rfl, Nat.le_of_ble_eq_true rfl⟩ ⟨xrL hk9.1 (Nat.le_of_ble_eq_true rfl), xrL hk9.2 (Nat.le_of_ble_eq_true rfl)⟩ rfl rfl (Nat.le_of_ble_eq_true rfl) dL_law_1377 (fun E9 S9 h9 _ _ => h9.elim) (fun r9 Sc1377 h9 hw1 ha2 => ?_)
  obtain ⟨r1377, rfl, h_r1377, h⟩ := h9
  refine xi_istore C (L' := [(6, .int (iN r1377)), (5, .int (iN i)), (0, .ref b), (1, .ref (ad 0)), (2, .ref (ad 54)), (3, .ref (ad 98)), (4, .ref (ad 99))]) dL_law_1380 (by decide) rfl ?_
  refine xi_aload_n C 4 dL_law_1382 rfl rfl ?_
  refine xi_aload_n C 2 dL_law_1383 rfl rfl ?_
  refine xi_iload C 1 dL_law_1384 rfl ?_
  refine xi_iconst C (v := 1) dL_law_1386 rfl ?_
  refine xi_iadd C dL_law_1387 ?_
  refine xi_sldF C hff hX hbl hbA (i := i + 1) (by omega) hL dL_law_1388 ?_
  refine xc_Vi C hw1 (c_X9_traceProcess l D ca ad tF (f (i + 1)) Sc1377 _ (hf _) h) xk_X9_traceProcess xv_X9_traceProcess xl_L_201 ⟨Nat.le_of_ble_eq_true rfl, Nat.le_of_ble_eq_true rfl⟩ xK_X9 (q := 54) rfl rfl rfl (Nat.le_of_ble_eq_true rfl) ⟨xrM hk9.1 (Nat.le_of_ble_eq_true rfl), xrM hk9.2 (Nat.le_of_ble_eq_true rfl)⟩ dL_law_1389 (fun r1389 Sc1389 h_r1389 h hw3 => ?_)
  refine xi_istore C (L' := [(7, .int (iN r1389)), (6, .int (iN r1377)), (5, .int (iN i)), (0, .ref b), (1, .ref (ad 0)), (2, .ref (ad 54)), (3, .ref (ad 98)), (4, .ref (ad 99))]) dL_law_1392 (by decide) rfl ?_
  refine xi_aload_n C 5 dL_law_1394 rfl rfl ?_
  obtain ⟨hc4, h⟩ := h
  refine xc_Vi C hw3 (c_X9_thrown l D ca ad tF Sc1389 _ h) xk_X9_thrown xv_X9_thrown xl_L_137 ⟨Nat.le_of_ble_eq_true rfl, Nat.le_of_ble_eq_true rfl⟩ xK_X9 (q := 54) rfl rfl rfl (Nat.le_of_ble_eq_true rfl) ⟨xrM hk9.1 (Nat.le_of_ble_eq_true rfl), xrM hk9.2 (Nat.le_of_ble_eq_true rfl)⟩ dL_law_1395 (fun r1395 Sc1395 h_r1395 h hw5 => ?_)
  refine xi_iload C 1 dL_law_1398 rfl ?_
  refine xi_icmp_eq C 1405 h_r1395 h_r1377 dL_law_1400 (by decide) (fun z6 => ?_) (fun z6 => ?_)
  · replace h := h.1 z6
    refine xi_iload C 1 dL_law_1405 rfl ?_
    refine xi_if_ne C 1422 h_r1377 dL_law_1407 (by decide) (fun z7 => ?_) (fun z7 => ?_)
    · replace h := h.1 z7
      refine xi_goto C 2196 dL_law_1422 (by decide) ?_
      obtain ⟨hc8, h⟩ := h
      exact xV_alY (S1 := Sc1395) hc8 (xV_wid (xrK (Nat.le_of_ble_eq_true rfl)) (xrK (Nat.le_of_ble_eq_true rfl)) (xi_sub [2, 3, 4, 5, 6, 7] rfl (hk Sc1395 h hw5 (ha2.eq hc8))))
    · replace h := h.2 z7
      refine xi_aload_n C 6 dL_law_1410 rfl rfl ?_
      refine xi_iconst C (v := 0) dL_law_1411 rfl ?_
      refine xi_laload C (q := 98) rfl (by decide) (by decide) dL_law_1412 ?_
      refine xi_iload C 0 dL_law_1413 rfl ?_
      refine xi_i2l C h_r1389 dL_law_1415 ?_
      refine xi_lcmp_eq C 1422 (xval.j (q := 98) (i := 0) hw5 (by decide) rfl) (xR_J h_r1389) dL_law_1416 dL_law_1417 (by decide) (fun z9 => ?_) (fun z9 => ?_)
      · replace h := h.1 z9
        refine xi_goto C 2196 dL_law_1422 (by decide) ?_
        obtain ⟨hc10, h⟩ := h
        exact xV_alY (S1 := Sc1395) hc10 (xV_wid (xrK (Nat.le_of_ble_eq_true rfl)) (xrK (Nat.le_of_ble_eq_true rfl)) (xi_sub [2, 3, 4, 5, 6, 7] rfl (hk Sc1395 h hw5 (ha2.eq hc10))))
      · replace h := h.2 z9
        refine xi_iconst C (v := 0) dL_law_1420 rfl ?_
        exact h.elim
  · replace h := h.2 z6
    refine xi_iconst C (v := 0) dL_law_1403 rfl ?_
    exact h.elim
set_option maxRecDepth 100000 in
set_option maxHeartbeats 4000000 in
theorem c_K20 {l : Launch} (hl9 : l.stackTraces = false) {D : va_G} {ca : Nat → ClassId} {ad : Nat → Nat} {tF : Nat} {p : Program} {e : Env} {s : State} {m : MethodId} {below : List Frame} {meth : Method} {c : Code} {A : Nat → Prop} {Z : State → Prop} {b L k0 n0 : Nat} {xs : Nat → Int32} {f : Int → Int} {i : Int} {S S0 : xS} {Q : xS → Prop}
    (C : xC (gC D ca ad tF) p c cL_law 9 s #[Value.ref b] RL m A) (hX : va_X b L xs s s.heap) (hbl : b < s.heap.size) (hbA : ¬ A b) (hL : L ≤ 3584) (hff : f = xsI xs) (h0 : 0 ≤ i ∧ i + 6 < (L : Int)) (hk9 : k0 + 5 + xgc S0 ≤ 603072 ∧ n0 + 30 + xgs S0 ≤ 7198826) (ha0 : xAl S0 S) (hw : xval (gC D ca ad tF) S) (h : w_K20 f i S Q)
    (hk : ∀ S' : xS, Q S' → xval (gC D ca ad tF) S' → xAl S0 S' → xV (gC D ca ad tF) p l e room_1 s m #[Value.ref b] below meth c A 9 Z (k0 + 5 + (xgc S0 - xgc S')) (n0 + 30 + (xgs S0 - xgs S')) 2196 [(5, .int (iN i)), (0, .ref b), (1, .ref (ad 0)), (2, .ref (ad 54)), (3, .ref (ad 98)), (4, .ref (ad 99))] [] S') :
    xV (gC D ca ad tF) p l e room_1 s m #[Value.ref b] below meth c A 9 Z (k0 + 0 + (xgc S0 - xgc S)) (n0 + 0 + (xgs S0 - xgs S)) 1425 [(5, .int (iN i)), (0, .ref b), (1, .ref (ad 0)), (2, .ref (ad 54)), (3, .ref (ad 98)), (4, .ref (ad 99))] [] S := by
  have h_i : xR i := ⟨by omega, by omega⟩
  have hf : ∀ z, xR (f z) := fun z => by rw [hff]; exact xR_I _
  unfold w_K20 at h
  refine xi_aload_n C 2 dL_law_1425 rfl rfl ?_
  refine xi_aload_n C 1 dL_law_1426 rfl rfl ?_
  refine xi_iload C 0 dL_law_1427 rfl ?_
  refine xi_iconst C (v := 1) dL_law_1429 rfl ?_
  refine xi_iadd C dL_law_1430 ?_
  refine xi_sldF C hff hX hbl hbA (i := i + 1) (by omega) hL dL_law_1431 ?_
  refine xi_aload_n C 4 dL_law_1432 rfl rfl ?_
  refine xl_SH C hw ha0 rfl (c_L_traceStep l D ca ad tF (f (i + 1)) S _ (hf _) h hl9) xkh_L_traceStep xs_L_traceStep xl_L_202 ⟨Nat.le_of_ble_eq_true rfl, Nat.le_of_ble_eq_true rfl⟩ ⟨xrL hk9.1 (Nat.le_of_ble_eq_true rfl), xrL hk9.2 (Nat.le_of_ble_eq_true rfl)⟩ rfl rfl (Nat.le_of_ble_eq_true rfl) dL_law_1433 (fun E9 S9 h9 _ _ => h9.elim) (fun r9 Sc1433 h9 hw1 ha2 => ?_)
  obtain ⟨r1433, rfl, h_r1433, h⟩ := h9
  refine xi_istore C (L' := [(6, .int (iN r1433)), (5, .int (iN i)), (0, .ref b), (1, .ref (ad 0)), (2, .ref (ad 54)), (3, .ref (ad 98)), (4, .ref (ad 99))]) dL_law_1436 (by decide) rfl ?_
  refine xi_aload_n C 4 dL_law_1438 rfl rfl ?_
  refine xi_aload_n C 2 dL_law_1439 rfl rfl ?_
  refine xi_iload C 1 dL_law_1440 rfl ?_
  refine xi_iconst C (v := 1) dL_law_1442 rfl ?_
  refine xi_iadd C dL_law_1443 ?_
  refine xi_sldF C hff hX hbl hbA (i := i + 1) (by omega) hL dL_law_1444 ?_
  refine xc_Vi C hw1 (c_X9_traceStep l D ca ad tF (f (i + 1)) Sc1433 _ (hf _) h) xk_X9_traceStep xv_X9_traceStep xl_L_204 ⟨Nat.le_of_ble_eq_true rfl, Nat.le_of_ble_eq_true rfl⟩ xK_X9 (q := 54) rfl rfl rfl (Nat.le_of_ble_eq_true rfl) ⟨xrM hk9.1 (Nat.le_of_ble_eq_true rfl), xrM hk9.2 (Nat.le_of_ble_eq_true rfl)⟩ dL_law_1445 (fun r1445 Sc1445 h_r1445 h hw3 => ?_)
  refine xi_istore C (L' := [(7, .int (iN r1445)), (6, .int (iN r1433)), (5, .int (iN i)), (0, .ref b), (1, .ref (ad 0)), (2, .ref (ad 54)), (3, .ref (ad 98)), (4, .ref (ad 99))]) dL_law_1448 (by decide) rfl ?_
  refine xi_aload_n C 5 dL_law_1450 rfl rfl ?_
  obtain ⟨hc4, h⟩ := h
  refine xc_Vi C hw3 (c_X9_thrown l D ca ad tF Sc1445 _ h) xk_X9_thrown xv_X9_thrown xl_L_137 ⟨Nat.le_of_ble_eq_true rfl, Nat.le_of_ble_eq_true rfl⟩ xK_X9 (q := 54) rfl rfl rfl (Nat.le_of_ble_eq_true rfl) ⟨xrM hk9.1 (Nat.le_of_ble_eq_true rfl), xrM hk9.2 (Nat.le_of_ble_eq_true rfl)⟩ dL_law_1451 (fun r1451 Sc1451 h_r1451 h hw5 => ?_)
  refine xi_iload C 1 dL_law_1454 rfl ?_
  refine xi_icmp_eq C 1461 h_r1451 h_r1433 dL_law_1456 (by decide) (fun z6 => ?_) (fun z6 => ?_)
  · replace h := h.1 z6
    refine xi_iload C 1 dL_law_1461 rfl ?_
    refine xi_if_ne C 1478 h_r1433 dL_law_1463 (by decide) (fun z7 => ?_) (fun z7 => ?_)
    · replace h := h.1 z7
      refine xi_goto C 2196 dL_law_1478 (by decide) ?_
      obtain ⟨hc8, h⟩ := h
      exact xV_alY (S1 := Sc1451) hc8 (xV_wid (xrK (Nat.le_of_ble_eq_true rfl)) (xrK (Nat.le_of_ble_eq_true rfl)) (xi_sub [2, 3, 4, 5, 6, 7] rfl (hk Sc1451 h hw5 (ha2.eq hc8))))
    · replace h := h.2 z7
      refine xi_aload_n C 6 dL_law_1466 rfl rfl ?_
      refine xi_iconst C (v := 0) dL_law_1467 rfl ?_
      refine xi_laload C (q := 98) rfl (by decide) (by decide) dL_law_1468 ?_
      refine xi_iload C 0 dL_law_1469 rfl ?_
      refine xi_i2l C h_r1445 dL_law_1471 ?_
      refine xi_lcmp_eq C 1478 (xval.j (q := 98) (i := 0) hw5 (by decide) rfl) (xR_J h_r1445) dL_law_1472 dL_law_1473 (by decide) (fun z9 => ?_) (fun z9 => ?_)
      · replace h := h.1 z9
        refine xi_goto C 2196 dL_law_1478 (by decide) ?_
        obtain ⟨hc10, h⟩ := h
        exact xV_alY (S1 := Sc1451) hc10 (xV_wid (xrK (Nat.le_of_ble_eq_true rfl)) (xrK (Nat.le_of_ble_eq_true rfl)) (xi_sub [2, 3, 4, 5, 6, 7] rfl (hk Sc1451 h hw5 (ha2.eq hc10))))
      · replace h := h.2 z9
        refine xi_iconst C (v := 0) dL_law_1476 rfl ?_
        exact h.elim
  · replace h := h.2 z6
    refine xi_iconst C (v := 0) dL_law_1459 rfl ?_
    exact h.elim
set_option maxRecDepth 100000 in
set_option maxHeartbeats 4000000 in
theorem c_K21 {l : Launch} (hl9 : l.stackTraces = false) {D : va_G} {ca : Nat → ClassId} {ad : Nat → Nat} {tF : Nat} {p : Program} {e : Env} {s : State} {m : MethodId} {below : List Frame} {meth : Method} {c : Code} {A : Nat → Prop} {Z : State → Prop} {b L k0 n0 : Nat} {xs : Nat → Int32} {f : Int → Int} {i : Int} {S S0 : xS} {Q : xS → Prop}
    (C : xC (gC D ca ad tF) p c cL_law 9 s #[Value.ref b] RL m A) (hX : va_X b L xs s s.heap) (hbl : b < s.heap.size) (hbA : ¬ A b) (hL : L ≤ 3584) (hff : f = xsI xs) (h0 : 0 ≤ i ∧ i + 6 < (L : Int)) (hk9 : k0 + 5 + xgc S0 ≤ 603072 ∧ n0 + 30 + xgs S0 ≤ 7198826) (ha0 : xAl S0 S) (hw : xval (gC D ca ad tF) S) (h : w_K21 f i S Q)
    (hk : ∀ S' : xS, Q S' → xval (gC D ca ad tF) S' → xAl S0 S' → xV (gC D ca ad tF) p l e room_1 s m #[Value.ref b] below meth c A 9 Z (k0 + 5 + (xgc S0 - xgc S')) (n0 + 30 + (xgs S0 - xgs S')) 2196 [(5, .int (iN i)), (0, .ref b), (1, .ref (ad 0)), (2, .ref (ad 54)), (3, .ref (ad 98)), (4, .ref (ad 99))] [] S') :
    xV (gC D ca ad tF) p l e room_1 s m #[Value.ref b] below meth c A 9 Z (k0 + 0 + (xgc S0 - xgc S)) (n0 + 0 + (xgs S0 - xgs S)) 1481 [(5, .int (iN i)), (0, .ref b), (1, .ref (ad 0)), (2, .ref (ad 54)), (3, .ref (ad 98)), (4, .ref (ad 99))] [] S := by
  have h_i : xR i := ⟨by omega, by omega⟩
  have hf : ∀ z, xR (f z) := fun z => by rw [hff]; exact xR_I _
  unfold w_K21 at h
  refine xi_aload_n C 2 dL_law_1481 rfl rfl ?_
  refine xi_aload_n C 4 dL_law_1482 rfl rfl ?_
  refine xl_SH C hw ha0 rfl (c_L_replays l D ca ad tF S _ h hl9) xkh_L_replays xs_L_replays xl_L_205 ⟨Nat.le_of_ble_eq_true rfl, Nat.le_of_ble_eq_true rfl⟩ ⟨xrL hk9.1 (Nat.le_of_ble_eq_true rfl), xrL hk9.2 (Nat.le_of_ble_eq_true rfl)⟩ rfl rfl (Nat.le_of_ble_eq_true rfl) dL_law_1483 (fun E9 S9 h9 _ _ => h9.elim) (fun r9 Sc1483 h9 hw1 ha2 => ?_)
  obtain ⟨r1483, rfl, h_r1483, h⟩ := h9
  refine xi_istore C (L' := [(6, .int (iN r1483)), (5, .int (iN i)), (0, .ref b), (1, .ref (ad 0)), (2, .ref (ad 54)), (3, .ref (ad 98)), (4, .ref (ad 99))]) dL_law_1486 (by decide) rfl ?_
  refine xi_aload_n C 4 dL_law_1488 rfl rfl ?_
  refine xc_Vi C hw1 (c_X9_replays l D ca ad tF Sc1483 _ h) xk_X9_replays xv_X9_replays xl_L_207 ⟨Nat.le_of_ble_eq_true rfl, Nat.le_of_ble_eq_true rfl⟩ xK_X9 (q := 54) rfl rfl rfl (Nat.le_of_ble_eq_true rfl) ⟨xrM hk9.1 (Nat.le_of_ble_eq_true rfl), xrM hk9.2 (Nat.le_of_ble_eq_true rfl)⟩ dL_law_1489 (fun r1489 Sc1489 h_r1489 h hw3 => ?_)
  refine xi_istore C (L' := [(7, .int (iN r1489)), (6, .int (iN r1483)), (5, .int (iN i)), (0, .ref b), (1, .ref (ad 0)), (2, .ref (ad 54)), (3, .ref (ad 98)), (4, .ref (ad 99))]) dL_law_1492 (by decide) rfl ?_
  refine xi_aload_n C 5 dL_law_1494 rfl rfl ?_
  obtain ⟨hc4, h⟩ := h
  refine xc_Vi C hw3 (c_X9_thrown l D ca ad tF Sc1489 _ h) xk_X9_thrown xv_X9_thrown xl_L_137 ⟨Nat.le_of_ble_eq_true rfl, Nat.le_of_ble_eq_true rfl⟩ xK_X9 (q := 54) rfl rfl rfl (Nat.le_of_ble_eq_true rfl) ⟨xrM hk9.1 (Nat.le_of_ble_eq_true rfl), xrM hk9.2 (Nat.le_of_ble_eq_true rfl)⟩ dL_law_1495 (fun r1495 Sc1495 h_r1495 h hw5 => ?_)
  refine xi_iload C 1 dL_law_1498 rfl ?_
  refine xi_icmp_eq C 1505 h_r1495 h_r1483 dL_law_1500 (by decide) (fun z6 => ?_) (fun z6 => ?_)
  · replace h := h.1 z6
    refine xi_iload C 1 dL_law_1505 rfl ?_
    refine xi_if_ne C 1529 h_r1483 dL_law_1507 (by decide) (fun z7 => ?_) (fun z7 => ?_)
    · replace h := h.1 z7
      refine xi_goto C 2196 dL_law_1529 (by decide) ?_
      obtain ⟨hc8, h⟩ := h
      exact xV_alY (S1 := Sc1495) hc8 (xV_wid (xrK (Nat.le_of_ble_eq_true rfl)) (xrK (Nat.le_of_ble_eq_true rfl)) (xi_sub [2, 3, 4, 5, 6, 7] rfl (hk Sc1495 h hw5 (ha2.eq hc8))))
    · replace h := h.2 z7
      refine xi_aload_n C 6 dL_law_1510 rfl rfl ?_
      refine xi_iconst C (v := 0) dL_law_1511 rfl ?_
      refine xi_laload C (q := 98) rfl (by decide) (by decide) dL_law_1512 ?_
      refine xi_iload C 0 dL_law_1513 rfl ?_
      refine xJ1_w (fun t0_1523 S1523 => xRJ t0_1523 → xval (gC D ca ad tF) S1523 → xAl S0 S1523 → xV (gC D ca ad tF) p l e room_1 s m #[Value.ref b] below meth c A 9 Z (k0 + 2 + (xgc S0 - xgc S1523)) (n0 + 12 + (xgs S0 - xgs S1523)) 1523 [(0, .ref b), (1, .ref (ad 0)), (2, .ref (ad 54)), (3, .ref (ad 98)), (4, .ref (ad 99)), (5, .int (iN i))] [.long (jN t0_1523), .long (jN (Sc1495 98 0))] S1523) h (fun t0_1523 S1523 h h_t0_1523 hw1523 ha1523 => ?_) (fun j1523 hj1523 h => ?_)
      · unfold w_K21_J1523 at h
        refine xi_lcmp_eq C 1529 (xval.j (q := 98) (i := 0) hw5 (by decide) rfl) h_t0_1523 dL_law_1523 dL_law_1524 (by decide) (fun z10 => ?_) (fun z10 => ?_)
        · replace h := h.1 z10
          refine xi_goto C 2196 dL_law_1529 (by decide) ?_
          exact xV_alY (S1 := S1523) rfl (xV_wid (xrK (Nat.le_of_ble_eq_true rfl)) (xrK (Nat.le_of_ble_eq_true rfl)) (xi_sub [5, 0, 1, 2, 3, 4] rfl (hk S1523 h hw1523 (ha1523.eq rfl))))
        · replace h := h.2 z10
          refine xi_iconst C (v := 0) dL_law_1527 rfl ?_
          exact h.elim
      · refine xi_if_eq C 1522 h_r1489 dL_law_1515 (by decide) (fun z9 => ?_) (fun z9 => ?_)
        · replace h := h.1 z9
          refine xi_lconst C (v := 0) dL_law_1522 (by decide +kernel) ?_
          obtain ⟨hc11, h⟩ := h
          exact xV_alY (S1 := Sc1495) hc11 (xi_sub [3, 4, 5, 6, 7, 2] rfl (hj1523 0 Sc1495 h (by decide) hw5 (ha2.eq hc11)))
        · replace h := h.2 z9
          refine xi_lconst C (v := 1) dL_law_1518 (by decide +kernel) ?_
          refine xi_goto C 1523 dL_law_1519 (by decide) ?_
          obtain ⟨hc12, h⟩ := h
          exact xV_alY (S1 := Sc1495) hc12 (xi_sub [3, 4, 5, 6, 7, 2] rfl (hj1523 1 Sc1495 h (by decide) hw5 (ha2.eq hc12)))
  · replace h := h.2 z6
    refine xi_iconst C (v := 0) dL_law_1503 rfl ?_
    exact h.elim
set_option maxRecDepth 100000 in
set_option maxHeartbeats 4000000 in
theorem c_K22 {l : Launch} (hl9 : l.stackTraces = false) {D : va_G} {ca : Nat → ClassId} {ad : Nat → Nat} {tF : Nat} {p : Program} {e : Env} {s : State} {m : MethodId} {below : List Frame} {meth : Method} {c : Code} {A : Nat → Prop} {Z : State → Prop} {b L k0 n0 : Nat} {xs : Nat → Int32} {f : Int → Int} {i : Int} {S S0 : xS} {Q : xS → Prop}
    (C : xC (gC D ca ad tF) p c cL_law 9 s #[Value.ref b] RL m A) (hX : va_X b L xs s s.heap) (hbl : b < s.heap.size) (hbA : ¬ A b) (hL : L ≤ 3584) (hff : f = xsI xs) (h0 : 0 ≤ i ∧ i + 6 < (L : Int)) (hk9 : k0 + 5 + xgc S0 ≤ 603072 ∧ n0 + 30 + xgs S0 ≤ 7198826) (ha0 : xAl S0 S) (hw : xval (gC D ca ad tF) S) (h : w_K22 f i S Q)
    (hk : ∀ S' : xS, Q S' → xval (gC D ca ad tF) S' → xAl S0 S' → xV (gC D ca ad tF) p l e room_1 s m #[Value.ref b] below meth c A 9 Z (k0 + 5 + (xgc S0 - xgc S')) (n0 + 30 + (xgs S0 - xgs S')) 2196 [(5, .int (iN i)), (0, .ref b), (1, .ref (ad 0)), (2, .ref (ad 54)), (3, .ref (ad 98)), (4, .ref (ad 99))] [] S') :
    xV (gC D ca ad tF) p l e room_1 s m #[Value.ref b] below meth c A 9 Z (k0 + 0 + (xgc S0 - xgc S)) (n0 + 0 + (xgs S0 - xgs S)) 1532 [(5, .int (iN i)), (0, .ref b), (1, .ref (ad 0)), (2, .ref (ad 54)), (3, .ref (ad 98)), (4, .ref (ad 99))] [] S := by
  have h_i : xR i := ⟨by omega, by omega⟩
  have hf : ∀ z, xR (f z) := fun z => by rw [hff]; exact xR_I _
  unfold w_K22 at h
  refine xi_aload_n C 2 dL_law_1532 rfl rfl ?_
  refine xi_aload_n C 1 dL_law_1533 rfl rfl ?_
  refine xi_iload C 0 dL_law_1534 rfl ?_
  refine xi_iconst C (v := 1) dL_law_1536 rfl ?_
  refine xi_iadd C dL_law_1537 ?_
  refine xi_sldF C hff hX hbl hbA (i := i + 1) (by omega) hL dL_law_1538 ?_
  refine xi_aload_n C 1 dL_law_1539 rfl rfl ?_
  refine xi_iload C 0 dL_law_1540 rfl ?_
  refine xi_iconst C (v := 2) dL_law_1542 rfl ?_
  refine xi_iadd C dL_law_1543 ?_
  refine xi_sldF C hff hX hbl hbA (i := i + 2) (by omega) hL dL_law_1544 ?_
  refine xi_aload_n C 1 dL_law_1545 rfl rfl ?_
  refine xi_iload C 0 dL_law_1546 rfl ?_
  refine xi_iconst C (v := 3) dL_law_1548 rfl ?_
  refine xi_iadd C dL_law_1549 ?_
  refine xi_sldF C hff hX hbl hbA (i := i + 3) (by omega) hL dL_law_1550 ?_
  refine xJ1_w (fun t0_1559 S1559 => xR t0_1559 → xval (gC D ca ad tF) S1559 → xAl S0 S1559 → xV (gC D ca ad tF) p l e room_1 s m #[Value.ref b] below meth c A 9 Z (k0 + 0 + (xgc S0 - xgc S1559)) (n0 + 0 + (xgs S0 - xgs S1559)) 1559 [(0, .ref b), (1, .ref (ad 0)), (2, .ref (ad 54)), (3, .ref (ad 98)), (4, .ref (ad 99)), (5, .int (iN i))] [.int (iN t0_1559), .int (iN (f (i + 2))), .int (iN (f (i + 1))), .ref (ad 0)] S1559) h (fun t0_1559 S1559 h h_t0_1559 hw1559 ha1559 => ?_) (fun j1559 hj1559 h => ?_)
  · unfold w_K22_J1559 at h
    refine xi_aload_n C 3 dL_law_1559 rfl rfl ?_
    refine xl_SH C hw1559 ha1559 rfl (c_L_recurs l D ca ad tF (f (i + 1)) (f (i + 2)) t0_1559 S1559 _ (hf _) (hf _) h_t0_1559 h hl9) xkh_L_recurs xs_L_recurs xl_L_208 ⟨Nat.le_of_ble_eq_true rfl, Nat.le_of_ble_eq_true rfl⟩ ⟨xrL hk9.1 (Nat.le_of_ble_eq_true rfl), xrL hk9.2 (Nat.le_of_ble_eq_true rfl)⟩ rfl rfl (Nat.le_of_ble_eq_true rfl) dL_law_1560 (fun E9 S9 h9 _ _ => h9.elim) (fun r9 Sc1560 h9 hw2 ha3 => ?_)
    obtain ⟨r1560, rfl, h_r1560, h⟩ := h9
    refine xi_istore C (L' := [(6, .int (iN r1560)), (0, .ref b), (1, .ref (ad 0)), (2, .ref (ad 54)), (3, .ref (ad 98)), (4, .ref (ad 99)), (5, .int (iN i))]) dL_law_1563 (by decide) rfl ?_
    refine xi_aload_n C 3 dL_law_1565 rfl rfl ?_
    refine xi_aload_n C 1 dL_law_1566 rfl rfl ?_
    refine xi_iload C 6 dL_law_1567 rfl ?_
    refine xi_iconst C (v := 1) dL_law_1569 rfl ?_
    refine xi_iadd C dL_law_1570 ?_
    refine xi_sldF C hff hX hbl hbA (i := i + 1) (by omega) hL dL_law_1571 ?_
    refine xi_aload_n C 1 dL_law_1572 rfl rfl ?_
    refine xi_iload C 6 dL_law_1573 rfl ?_
    refine xi_iconst C (v := 2) dL_law_1575 rfl ?_
    refine xi_iadd C dL_law_1576 ?_
    refine xi_sldF C hff hX hbl hbA (i := i + 2) (by omega) hL dL_law_1577 ?_
    refine xi_aload_n C 1 dL_law_1578 rfl rfl ?_
    refine xi_iload C 6 dL_law_1579 rfl ?_
    refine xi_iconst C (v := 3) dL_law_1581 rfl ?_
    refine xi_iadd C dL_law_1582 ?_
    refine xi_sldF C hff hX hbl hbA (i := i + 3) (by omega) hL dL_law_1583 ?_
    refine xJ1_w (fun t0_1592 S1592 => xR t0_1592 → xval (gC D ca ad tF) S1592 → xAl S0 S1592 → xV (gC D ca ad tF) p l e room_1 s m #[Value.ref b] below meth c A 9 Z (k0 + 3 + (xgc S0 - xgc S1592)) (n0 + 18 + (xgs S0 - xgs S1592)) 1592 [(0, .ref b), (1, .ref (ad 0)), (2, .ref (ad 54)), (3, .ref (ad 98)), (4, .ref (ad 99)), (5, .int (iN i)), (6, .int (iN r1560))] [.int (iN t0_1592), .int (iN (f (i + 2))), .int (iN (f (i + 1))), .ref (ad 54)] S1592) h (fun t0_1592 S1592 h h_t0_1592 hw1592 ha1592 => ?_) (fun j1592 hj1592 h => ?_)
    · unfold w_K22_J1592 at h
      refine xc_Vi C hw1592 (c_X9_recurs l D ca ad tF (f (i + 1)) (f (i + 2)) t0_1592 S1592 _ (hf _) (hf _) h_t0_1592 h) xk_X9_recurs xv_X9_recurs xl_L_211 ⟨Nat.le_of_ble_eq_true rfl, Nat.le_of_ble_eq_true rfl⟩ xK_X9 (q := 54) rfl rfl rfl (Nat.le_of_ble_eq_true rfl) ⟨xrM hk9.1 (Nat.le_of_ble_eq_true rfl), xrM hk9.2 (Nat.le_of_ble_eq_true rfl)⟩ dL_law_1592 (fun r1592 Sc1592 h_r1592 h hw5 => ?_)
      refine xi_istore C (L' := [(7, .int (iN r1592)), (0, .ref b), (1, .ref (ad 0)), (2, .ref (ad 54)), (3, .ref (ad 98)), (4, .ref (ad 99)), (5, .int (iN i)), (6, .int (iN r1560))]) dL_law_1595 (by decide) rfl ?_
      refine xi_aload_n C 3 dL_law_1597 rfl rfl ?_
      obtain ⟨hc6, h⟩ := h
      refine xc_Vi C hw5 (c_X9_thrown l D ca ad tF Sc1592 _ h) xk_X9_thrown xv_X9_thrown xl_L_137 ⟨Nat.le_of_ble_eq_true rfl, Nat.le_of_ble_eq_true rfl⟩ xK_X9 (q := 54) rfl rfl rfl (Nat.le_of_ble_eq_true rfl) ⟨xrM hk9.1 (Nat.le_of_ble_eq_true rfl), xrM hk9.2 (Nat.le_of_ble_eq_true rfl)⟩ dL_law_1598 (fun r1598 Sc1598 h_r1598 h hw7 => ?_)
      refine xi_iload C 7 dL_law_1601 rfl ?_
      refine xi_icmp_eq C 1608 h_r1598 h_r1560 dL_law_1603 (by decide) (fun z8 => ?_) (fun z8 => ?_)
      · replace h := h.1 z8
        refine xi_iload C 7 dL_law_1608 rfl ?_
        refine xi_if_ne C 1632 h_r1560 dL_law_1610 (by decide) (fun z9 => ?_) (fun z9 => ?_)
        · replace h := h.1 z9
          refine xi_goto C 2196 dL_law_1632 (by decide) ?_
          obtain ⟨hc10, h⟩ := h
          exact xV_alY (S1 := Sc1598) hc10 (xV_wid (xrK (Nat.le_of_ble_eq_true rfl)) (xrK (Nat.le_of_ble_eq_true rfl)) (xi_sub [6, 1, 2, 3, 4, 5] rfl (hk Sc1598 h hw7 (ha1592.eq hc10))))
        · replace h := h.2 z9
          refine xi_aload_n C 4 dL_law_1613 rfl rfl ?_
          refine xi_iconst C (v := 0) dL_law_1614 rfl ?_
          refine xi_laload C (q := 98) rfl (by decide) (by decide) dL_law_1615 ?_
          refine xi_iload C 0 dL_law_1616 rfl ?_
          refine xJ1_w (fun t0_1626 S1626 => xRJ t0_1626 → xval (gC D ca ad tF) S1626 → xAl S0 S1626 → xV (gC D ca ad tF) p l e room_1 s m #[Value.ref b] below meth c A 9 Z (k0 + 3 + (xgc S0 - xgc S1626)) (n0 + 18 + (xgs S0 - xgs S1626)) 1626 [(0, .ref b), (1, .ref (ad 0)), (2, .ref (ad 54)), (3, .ref (ad 98)), (4, .ref (ad 99)), (5, .int (iN i))] [.long (jN t0_1626), .long (jN (Sc1598 98 0))] S1626) h (fun t0_1626 S1626 h h_t0_1626 hw1626 ha1626 => ?_) (fun j1626 hj1626 h => ?_)
          · unfold w_K22_J1626 at h
            refine xi_lcmp_eq C 1632 (xval.j (q := 98) (i := 0) hw7 (by decide) rfl) h_t0_1626 dL_law_1626 dL_law_1627 (by decide) (fun z12 => ?_) (fun z12 => ?_)
            · replace h := h.1 z12
              refine xi_goto C 2196 dL_law_1632 (by decide) ?_
              exact xV_alY (S1 := S1626) rfl (xV_wid (xrK (Nat.le_of_ble_eq_true rfl)) (xrK (Nat.le_of_ble_eq_true rfl)) (xi_sub [5, 0, 1, 2, 3, 4] rfl (hk S1626 h hw1626 (ha1626.eq rfl))))
            · replace h := h.2 z12
              refine xi_iconst C (v := 0) dL_law_1630 rfl ?_
              exact h.elim
          · refine xi_if_eq C 1625 h_r1592 dL_law_1618 (by decide) (fun z11 => ?_) (fun z11 => ?_)
            · replace h := h.1 z11
              refine xi_lconst C (v := 0) dL_law_1625 (by decide +kernel) ?_
              obtain ⟨hc13, h⟩ := h
              exact xV_alY (S1 := Sc1598) hc13 (xi_sub [1, 2, 3, 4, 5, 6] rfl (hj1626 0 Sc1598 h (by decide) hw7 (ha1592.eq hc13)))
            · replace h := h.2 z11
              refine xi_lconst C (v := 1) dL_law_1621 (by decide +kernel) ?_
              refine xi_goto C 1626 dL_law_1622 (by decide) ?_
              obtain ⟨hc14, h⟩ := h
              exact xV_alY (S1 := Sc1598) hc14 (xi_sub [1, 2, 3, 4, 5, 6] rfl (hj1626 1 Sc1598 h (by decide) hw7 (ha1592.eq hc14)))
      · replace h := h.2 z8
        refine xi_iconst C (v := 0) dL_law_1606 rfl ?_
        exact h.elim
    · refine xi_if_eq C 1591 (hf _) dL_law_1584 (by decide) (fun z4 => ?_) (fun z4 => ?_)
      · replace h := h.1 z4
        refine xi_iconst C (v := 0) dL_law_1591 rfl ?_
        exact xV_alY (S1 := Sc1560) rfl (xi_sub [1, 2, 3, 4, 5, 6, 0] rfl (hj1592 0 Sc1560 h (by decide) hw2 (ha3.eq rfl)))
      · replace h := h.2 z4
        refine xi_iconst C (v := 1) dL_law_1587 rfl ?_
        refine xi_goto C 1592 dL_law_1588 (by decide) ?_
        exact xV_alY (S1 := Sc1560) rfl (xi_sub [1, 2, 3, 4, 5, 6, 0] rfl (hj1592 1 Sc1560 h (by decide) hw2 (ha3.eq rfl)))
  · refine xi_if_eq C 1558 (hf _) dL_law_1551 (by decide) (fun z1 => ?_) (fun z1 => ?_)
    · replace h := h.1 z1
      refine xi_iconst C (v := 0) dL_law_1558 rfl ?_
      exact xV_alY (S1 := S) rfl (xi_sub [1, 2, 3, 4, 5, 0] rfl (hj1559 0 S h (by decide) hw (ha0.eq rfl)))
    · replace h := h.2 z1
      refine xi_iconst C (v := 1) dL_law_1554 rfl ?_
      refine xi_goto C 1559 dL_law_1555 (by decide) ?_
      exact xV_alY (S1 := S) rfl (xi_sub [1, 2, 3, 4, 5, 0] rfl (hj1559 1 S h (by decide) hw (ha0.eq rfl)))
set_option maxRecDepth 100000 in
set_option maxHeartbeats 4000000 in
theorem c_K23 {l : Launch} (hl9 : l.stackTraces = false) {D : va_G} {ca : Nat → ClassId} {ad : Nat → Nat} {tF : Nat} {p : Program} {e : Env} {s : State} {m : MethodId} {below : List Frame} {meth : Method} {c : Code} {A : Nat → Prop} {Z : State → Prop} {b L k0 n0 : Nat} {xs : Nat → Int32} {f : Int → Int} {i : Int} {S S0 : xS} {Q : xS → Prop}
    (C : xC (gC D ca ad tF) p c cL_law 9 s #[Value.ref b] RL m A) (hX : va_X b L xs s s.heap) (hbl : b < s.heap.size) (hbA : ¬ A b) (hL : L ≤ 3584) (hff : f = xsI xs) (h0 : 0 ≤ i ∧ i + 6 < (L : Int)) (hk9 : k0 + 5 + xgc S0 ≤ 603072 ∧ n0 + 30 + xgs S0 ≤ 7198826) (ha0 : xAl S0 S) (hw : xval (gC D ca ad tF) S) (h : w_K23 f i S Q)
    (hk : ∀ S' : xS, Q S' → xval (gC D ca ad tF) S' → xAl S0 S' → xV (gC D ca ad tF) p l e room_1 s m #[Value.ref b] below meth c A 9 Z (k0 + 5 + (xgc S0 - xgc S')) (n0 + 30 + (xgs S0 - xgs S')) 2196 [(5, .int (iN i)), (0, .ref b), (1, .ref (ad 0)), (2, .ref (ad 54)), (3, .ref (ad 98)), (4, .ref (ad 99))] [] S') :
    xV (gC D ca ad tF) p l e room_1 s m #[Value.ref b] below meth c A 9 Z (k0 + 0 + (xgc S0 - xgc S)) (n0 + 0 + (xgs S0 - xgs S)) 1635 [(5, .int (iN i)), (0, .ref b), (1, .ref (ad 0)), (2, .ref (ad 54)), (3, .ref (ad 98)), (4, .ref (ad 99))] [] S := by
  have h_i : xR i := ⟨by omega, by omega⟩
  have hf : ∀ z, xR (f z) := fun z => by rw [hff]; exact xR_I _
  unfold w_K23 at h
  refine xi_aload_n C 2 dL_law_1635 rfl rfl ?_
  refine xi_aload_n C 1 dL_law_1636 rfl rfl ?_
  refine xi_iload C 0 dL_law_1637 rfl ?_
  refine xi_iconst C (v := 1) dL_law_1639 rfl ?_
  refine xi_iadd C dL_law_1640 ?_
  refine xi_sldF C hff hX hbl hbA (i := i + 1) (by omega) hL dL_law_1641 ?_
  refine xi_aload_n C 1 dL_law_1642 rfl rfl ?_
  refine xi_iload C 0 dL_law_1643 rfl ?_
  refine xi_iconst C (v := 2) dL_law_1645 rfl ?_
  refine xi_iadd C dL_law_1646 ?_
  refine xi_sldF C hff hX hbl hbA (i := i + 2) (by omega) hL dL_law_1647 ?_
  refine xi_aload_n C 4 dL_law_1648 rfl rfl ?_
  refine xl_SH C hw ha0 rfl (c_L_recursByTaking l D ca ad tF (f (i + 1)) (f (i + 2)) S _ (hf _) (hf _) h hl9) xkh_L_recursByTaking xs_L_recursByTaking xl_L_212 ⟨Nat.le_of_ble_eq_true rfl, Nat.le_of_ble_eq_true rfl⟩ ⟨xrL hk9.1 (Nat.le_of_ble_eq_true rfl), xrL hk9.2 (Nat.le_of_ble_eq_true rfl)⟩ rfl rfl (Nat.le_of_ble_eq_true rfl) dL_law_1649 (fun E9 S9 h9 _ _ => h9.elim) (fun r9 Sc1649 h9 hw1 ha2 => ?_)
  obtain ⟨r1649, rfl, h_r1649, h⟩ := h9
  refine xi_istore C (L' := [(6, .int (iN r1649)), (5, .int (iN i)), (0, .ref b), (1, .ref (ad 0)), (2, .ref (ad 54)), (3, .ref (ad 98)), (4, .ref (ad 99))]) dL_law_1652 (by decide) rfl ?_
  refine xi_aload_n C 4 dL_law_1654 rfl rfl ?_
  refine xi_aload_n C 2 dL_law_1655 rfl rfl ?_
  refine xi_iload C 1 dL_law_1656 rfl ?_
  refine xi_iconst C (v := 1) dL_law_1658 rfl ?_
  refine xi_iadd C dL_law_1659 ?_
  refine xi_sldF C hff hX hbl hbA (i := i + 1) (by omega) hL dL_law_1660 ?_
  refine xi_aload_n C 2 dL_law_1661 rfl rfl ?_
  refine xi_iload C 1 dL_law_1662 rfl ?_
  refine xi_iconst C (v := 2) dL_law_1664 rfl ?_
  refine xi_iadd C dL_law_1665 ?_
  refine xi_sldF C hff hX hbl hbA (i := i + 2) (by omega) hL dL_law_1666 ?_
  refine xc_Vi C hw1 (c_X9_recursByTaking l D ca ad tF (f (i + 1)) (f (i + 2)) Sc1649 _ (hf _) (hf _) h) xk_X9_recursByTaking xv_X9_recursByTaking xl_L_214 ⟨Nat.le_of_ble_eq_true rfl, Nat.le_of_ble_eq_true rfl⟩ xK_X9 (q := 54) rfl rfl rfl (Nat.le_of_ble_eq_true rfl) ⟨xrM hk9.1 (Nat.le_of_ble_eq_true rfl), xrM hk9.2 (Nat.le_of_ble_eq_true rfl)⟩ dL_law_1667 (fun r1667 Sc1667 h_r1667 h hw3 => ?_)
  refine xi_istore C (L' := [(7, .int (iN r1667)), (6, .int (iN r1649)), (5, .int (iN i)), (0, .ref b), (1, .ref (ad 0)), (2, .ref (ad 54)), (3, .ref (ad 98)), (4, .ref (ad 99))]) dL_law_1670 (by decide) rfl ?_
  refine xi_aload_n C 5 dL_law_1672 rfl rfl ?_
  obtain ⟨hc4, h⟩ := h
  refine xc_Vi C hw3 (c_X9_thrown l D ca ad tF Sc1667 _ h) xk_X9_thrown xv_X9_thrown xl_L_137 ⟨Nat.le_of_ble_eq_true rfl, Nat.le_of_ble_eq_true rfl⟩ xK_X9 (q := 54) rfl rfl rfl (Nat.le_of_ble_eq_true rfl) ⟨xrM hk9.1 (Nat.le_of_ble_eq_true rfl), xrM hk9.2 (Nat.le_of_ble_eq_true rfl)⟩ dL_law_1673 (fun r1673 Sc1673 h_r1673 h hw5 => ?_)
  refine xi_iload C 1 dL_law_1676 rfl ?_
  refine xi_icmp_eq C 1683 h_r1673 h_r1649 dL_law_1678 (by decide) (fun z6 => ?_) (fun z6 => ?_)
  · replace h := h.1 z6
    refine xi_iload C 1 dL_law_1683 rfl ?_
    refine xi_if_ne C 1707 h_r1649 dL_law_1685 (by decide) (fun z7 => ?_) (fun z7 => ?_)
    · replace h := h.1 z7
      refine xi_goto C 2196 dL_law_1707 (by decide) ?_
      obtain ⟨hc8, h⟩ := h
      exact xV_alY (S1 := Sc1673) hc8 (xV_wid (xrK (Nat.le_of_ble_eq_true rfl)) (xrK (Nat.le_of_ble_eq_true rfl)) (xi_sub [2, 3, 4, 5, 6, 7] rfl (hk Sc1673 h hw5 (ha2.eq hc8))))
    · replace h := h.2 z7
      refine xi_aload_n C 6 dL_law_1688 rfl rfl ?_
      refine xi_iconst C (v := 0) dL_law_1689 rfl ?_
      refine xi_laload C (q := 98) rfl (by decide) (by decide) dL_law_1690 ?_
      refine xi_iload C 0 dL_law_1691 rfl ?_
      refine xJ1_w (fun t0_1701 S1701 => xRJ t0_1701 → xval (gC D ca ad tF) S1701 → xAl S0 S1701 → xV (gC D ca ad tF) p l e room_1 s m #[Value.ref b] below meth c A 9 Z (k0 + 3 + (xgc S0 - xgc S1701)) (n0 + 18 + (xgs S0 - xgs S1701)) 1701 [(0, .ref b), (1, .ref (ad 0)), (2, .ref (ad 54)), (3, .ref (ad 98)), (4, .ref (ad 99)), (5, .int (iN i))] [.long (jN t0_1701), .long (jN (Sc1673 98 0))] S1701) h (fun t0_1701 S1701 h h_t0_1701 hw1701 ha1701 => ?_) (fun j1701 hj1701 h => ?_)
      · unfold w_K23_J1701 at h
        refine xi_lcmp_eq C 1707 (xval.j (q := 98) (i := 0) hw5 (by decide) rfl) h_t0_1701 dL_law_1701 dL_law_1702 (by decide) (fun z10 => ?_) (fun z10 => ?_)
        · replace h := h.1 z10
          refine xi_goto C 2196 dL_law_1707 (by decide) ?_
          exact xV_alY (S1 := S1701) rfl (xV_wid (xrK (Nat.le_of_ble_eq_true rfl)) (xrK (Nat.le_of_ble_eq_true rfl)) (xi_sub [5, 0, 1, 2, 3, 4] rfl (hk S1701 h hw1701 (ha1701.eq rfl))))
        · replace h := h.2 z10
          refine xi_iconst C (v := 0) dL_law_1705 rfl ?_
          exact h.elim
      · refine xi_if_eq C 1700 h_r1667 dL_law_1693 (by decide) (fun z9 => ?_) (fun z9 => ?_)
        · replace h := h.1 z9
          refine xi_lconst C (v := 0) dL_law_1700 (by decide +kernel) ?_
          obtain ⟨hc11, h⟩ := h
          exact xV_alY (S1 := Sc1673) hc11 (xi_sub [3, 4, 5, 6, 7, 2] rfl (hj1701 0 Sc1673 h (by decide) hw5 (ha2.eq hc11)))
        · replace h := h.2 z9
          refine xi_lconst C (v := 1) dL_law_1696 (by decide +kernel) ?_
          refine xi_goto C 1701 dL_law_1697 (by decide) ?_
          obtain ⟨hc12, h⟩ := h
          exact xV_alY (S1 := Sc1673) hc12 (xi_sub [3, 4, 5, 6, 7, 2] rfl (hj1701 1 Sc1673 h (by decide) hw5 (ha2.eq hc12)))
  · replace h := h.2 z6
    refine xi_iconst C (v := 0) dL_law_1681 rfl ?_
    exact h.elim
set_option maxRecDepth 100000 in
set_option maxHeartbeats 4000000 in
theorem c_K24 {l : Launch} (hl9 : l.stackTraces = false) {D : va_G} {ca : Nat → ClassId} {ad : Nat → Nat} {tF : Nat} {p : Program} {e : Env} {s : State} {m : MethodId} {below : List Frame} {meth : Method} {c : Code} {A : Nat → Prop} {Z : State → Prop} {b L k0 n0 : Nat} {xs : Nat → Int32} {f : Int → Int} {i : Int} {S S0 : xS} {Q : xS → Prop}
    (C : xC (gC D ca ad tF) p c cL_law 9 s #[Value.ref b] RL m A) (hX : va_X b L xs s s.heap) (hbl : b < s.heap.size) (hbA : ¬ A b) (hL : L ≤ 3584) (hff : f = xsI xs) (h0 : 0 ≤ i ∧ i + 6 < (L : Int)) (hk9 : k0 + 5 + xgc S0 ≤ 603072 ∧ n0 + 30 + xgs S0 ≤ 7198826) (ha0 : xAl S0 S) (hw : xval (gC D ca ad tF) S) (h : w_K24 f i S Q)
    (hk : ∀ S' : xS, Q S' → xval (gC D ca ad tF) S' → xAl S0 S' → xV (gC D ca ad tF) p l e room_1 s m #[Value.ref b] below meth c A 9 Z (k0 + 5 + (xgc S0 - xgc S')) (n0 + 30 + (xgs S0 - xgs S')) 2196 [(5, .int (iN i)), (0, .ref b), (1, .ref (ad 0)), (2, .ref (ad 54)), (3, .ref (ad 98)), (4, .ref (ad 99))] [] S') :
    xV (gC D ca ad tF) p l e room_1 s m #[Value.ref b] below meth c A 9 Z (k0 + 0 + (xgc S0 - xgc S)) (n0 + 0 + (xgs S0 - xgs S)) 1710 [(5, .int (iN i)), (0, .ref b), (1, .ref (ad 0)), (2, .ref (ad 54)), (3, .ref (ad 98)), (4, .ref (ad 99))] [] S := by
  have h_i : xR i := ⟨by omega, by omega⟩
  have hf : ∀ z, xR (f z) := fun z => by rw [hff]; exact xR_I _
  unfold w_K24 at h
  refine xi_aload_n C 2 dL_law_1710 rfl rfl ?_
  refine xi_aload_n C 1 dL_law_1711 rfl rfl ?_
  refine xi_iload C 0 dL_law_1712 rfl ?_
  refine xi_iconst C (v := 1) dL_law_1714 rfl ?_
  refine xi_iadd C dL_law_1715 ?_
  refine xi_sldF C hff hX hbl hbA (i := i + 1) (by omega) hL dL_law_1716 ?_
  refine xi_aload_n C 1 dL_law_1717 rfl rfl ?_
  refine xi_iload C 0 dL_law_1718 rfl ?_
  refine xi_iconst C (v := 2) dL_law_1720 rfl ?_
  refine xi_iadd C dL_law_1721 ?_
  refine xi_sldF C hff hX hbl hbA (i := i + 2) (by omega) hL dL_law_1722 ?_
  refine xi_aload_n C 1 dL_law_1723 rfl rfl ?_
  refine xi_iload C 0 dL_law_1724 rfl ?_
  refine xi_iconst C (v := 3) dL_law_1726 rfl ?_
  refine xi_iadd C dL_law_1727 ?_
  refine xi_sldF C hff hX hbl hbA (i := i + 3) (by omega) hL dL_law_1728 ?_
  refine xJ1_w (fun t0_1737 S1737 => xR t0_1737 → xval (gC D ca ad tF) S1737 → xAl S0 S1737 → xV (gC D ca ad tF) p l e room_1 s m #[Value.ref b] below meth c A 9 Z (k0 + 0 + (xgc S0 - xgc S1737)) (n0 + 0 + (xgs S0 - xgs S1737)) 1737 [(0, .ref b), (1, .ref (ad 0)), (2, .ref (ad 54)), (3, .ref (ad 98)), (4, .ref (ad 99)), (5, .int (iN i))] [.int (iN t0_1737), .int (iN (f (i + 2))), .int (iN (f (i + 1))), .ref (ad 0)] S1737) h (fun t0_1737 S1737 h h_t0_1737 hw1737 ha1737 => ?_) (fun j1737 hj1737 h => ?_)
  · unfold w_K24_J1737 at h
    refine xi_aload_n C 3 dL_law_1737 rfl rfl ?_
    refine xl_SH C hw1737 ha1737 rfl (c_L_comes l D ca ad tF (f (i + 1)) (f (i + 2)) t0_1737 S1737 _ (hf _) (hf _) h_t0_1737 h hl9) xkh_L_comes xs_L_comes xl_L_215 ⟨Nat.le_of_ble_eq_true rfl, Nat.le_of_ble_eq_true rfl⟩ ⟨xrL hk9.1 (Nat.le_of_ble_eq_true rfl), xrL hk9.2 (Nat.le_of_ble_eq_true rfl)⟩ rfl rfl (Nat.le_of_ble_eq_true rfl) dL_law_1738 (fun E9 S9 h9 _ _ => h9.elim) (fun r9 Sc1738 h9 hw2 ha3 => ?_)
    obtain ⟨r1738, rfl, h_r1738, h⟩ := h9
    refine xi_istore C (L' := [(6, .int (iN r1738)), (0, .ref b), (1, .ref (ad 0)), (2, .ref (ad 54)), (3, .ref (ad 98)), (4, .ref (ad 99)), (5, .int (iN i))]) dL_law_1741 (by decide) rfl ?_
    refine xi_aload_n C 3 dL_law_1743 rfl rfl ?_
    refine xi_aload_n C 1 dL_law_1744 rfl rfl ?_
    refine xi_iload C 6 dL_law_1745 rfl ?_
    refine xi_iconst C (v := 1) dL_law_1747 rfl ?_
    refine xi_iadd C dL_law_1748 ?_
    refine xi_sldF C hff hX hbl hbA (i := i + 1) (by omega) hL dL_law_1749 ?_
    refine xi_aload_n C 1 dL_law_1750 rfl rfl ?_
    refine xi_iload C 6 dL_law_1751 rfl ?_
    refine xi_iconst C (v := 2) dL_law_1753 rfl ?_
    refine xi_iadd C dL_law_1754 ?_
    refine xi_sldF C hff hX hbl hbA (i := i + 2) (by omega) hL dL_law_1755 ?_
    refine xi_aload_n C 1 dL_law_1756 rfl rfl ?_
    refine xi_iload C 6 dL_law_1757 rfl ?_
    refine xi_iconst C (v := 3) dL_law_1759 rfl ?_
    refine xi_iadd C dL_law_1760 ?_
    refine xi_sldF C hff hX hbl hbA (i := i + 3) (by omega) hL dL_law_1761 ?_
    refine xJ1_w (fun t0_1770 S1770 => xR t0_1770 → xval (gC D ca ad tF) S1770 → xAl S0 S1770 → xV (gC D ca ad tF) p l e room_1 s m #[Value.ref b] below meth c A 9 Z (k0 + 3 + (xgc S0 - xgc S1770)) (n0 + 18 + (xgs S0 - xgs S1770)) 1770 [(0, .ref b), (1, .ref (ad 0)), (2, .ref (ad 54)), (3, .ref (ad 98)), (4, .ref (ad 99)), (5, .int (iN i)), (6, .int (iN r1738))] [.int (iN t0_1770), .int (iN (f (i + 2))), .int (iN (f (i + 1))), .ref (ad 54)] S1770) h (fun t0_1770 S1770 h h_t0_1770 hw1770 ha1770 => ?_) (fun j1770 hj1770 h => ?_)
    · unfold w_K24_J1770 at h
      refine xc_Vi C hw1770 (c_X9_comes l D ca ad tF (f (i + 1)) (f (i + 2)) t0_1770 S1770 _ (hf _) (hf _) h_t0_1770 h) xk_X9_comes xv_X9_comes xl_L_217 ⟨Nat.le_of_ble_eq_true rfl, Nat.le_of_ble_eq_true rfl⟩ xK_X9 (q := 54) rfl rfl rfl (Nat.le_of_ble_eq_true rfl) ⟨xrM hk9.1 (Nat.le_of_ble_eq_true rfl), xrM hk9.2 (Nat.le_of_ble_eq_true rfl)⟩ dL_law_1770 (fun r1770 Sc1770 h_r1770 h hw5 => ?_)
      refine xi_istore C (L' := [(7, .int (iN r1770)), (0, .ref b), (1, .ref (ad 0)), (2, .ref (ad 54)), (3, .ref (ad 98)), (4, .ref (ad 99)), (5, .int (iN i)), (6, .int (iN r1738))]) dL_law_1773 (by decide) rfl ?_
      refine xi_aload_n C 3 dL_law_1775 rfl rfl ?_
      obtain ⟨hc6, h⟩ := h
      refine xc_Vi C hw5 (c_X9_thrown l D ca ad tF Sc1770 _ h) xk_X9_thrown xv_X9_thrown xl_L_137 ⟨Nat.le_of_ble_eq_true rfl, Nat.le_of_ble_eq_true rfl⟩ xK_X9 (q := 54) rfl rfl rfl (Nat.le_of_ble_eq_true rfl) ⟨xrM hk9.1 (Nat.le_of_ble_eq_true rfl), xrM hk9.2 (Nat.le_of_ble_eq_true rfl)⟩ dL_law_1776 (fun r1776 Sc1776 h_r1776 h hw7 => ?_)
      refine xi_iload C 7 dL_law_1779 rfl ?_
      refine xi_icmp_eq C 1786 h_r1776 h_r1738 dL_law_1781 (by decide) (fun z8 => ?_) (fun z8 => ?_)
      · replace h := h.1 z8
        refine xi_iload C 7 dL_law_1786 rfl ?_
        refine xi_if_ne C 1810 h_r1738 dL_law_1788 (by decide) (fun z9 => ?_) (fun z9 => ?_)
        · replace h := h.1 z9
          refine xi_goto C 2196 dL_law_1810 (by decide) ?_
          obtain ⟨hc10, h⟩ := h
          exact xV_alY (S1 := Sc1776) hc10 (xV_wid (xrK (Nat.le_of_ble_eq_true rfl)) (xrK (Nat.le_of_ble_eq_true rfl)) (xi_sub [6, 1, 2, 3, 4, 5] rfl (hk Sc1776 h hw7 (ha1770.eq hc10))))
        · replace h := h.2 z9
          refine xi_aload_n C 4 dL_law_1791 rfl rfl ?_
          refine xi_iconst C (v := 0) dL_law_1792 rfl ?_
          refine xi_laload C (q := 98) rfl (by decide) (by decide) dL_law_1793 ?_
          refine xi_iload C 0 dL_law_1794 rfl ?_
          refine xJ1_w (fun t0_1804 S1804 => xRJ t0_1804 → xval (gC D ca ad tF) S1804 → xAl S0 S1804 → xV (gC D ca ad tF) p l e room_1 s m #[Value.ref b] below meth c A 9 Z (k0 + 3 + (xgc S0 - xgc S1804)) (n0 + 18 + (xgs S0 - xgs S1804)) 1804 [(0, .ref b), (1, .ref (ad 0)), (2, .ref (ad 54)), (3, .ref (ad 98)), (4, .ref (ad 99)), (5, .int (iN i))] [.long (jN t0_1804), .long (jN (Sc1776 98 0))] S1804) h (fun t0_1804 S1804 h h_t0_1804 hw1804 ha1804 => ?_) (fun j1804 hj1804 h => ?_)
          · unfold w_K24_J1804 at h
            refine xi_lcmp_eq C 1810 (xval.j (q := 98) (i := 0) hw7 (by decide) rfl) h_t0_1804 dL_law_1804 dL_law_1805 (by decide) (fun z12 => ?_) (fun z12 => ?_)
            · replace h := h.1 z12
              refine xi_goto C 2196 dL_law_1810 (by decide) ?_
              exact xV_alY (S1 := S1804) rfl (xV_wid (xrK (Nat.le_of_ble_eq_true rfl)) (xrK (Nat.le_of_ble_eq_true rfl)) (xi_sub [5, 0, 1, 2, 3, 4] rfl (hk S1804 h hw1804 (ha1804.eq rfl))))
            · replace h := h.2 z12
              refine xi_iconst C (v := 0) dL_law_1808 rfl ?_
              exact h.elim
          · refine xi_if_eq C 1803 h_r1770 dL_law_1796 (by decide) (fun z11 => ?_) (fun z11 => ?_)
            · replace h := h.1 z11
              refine xi_lconst C (v := 0) dL_law_1803 (by decide +kernel) ?_
              obtain ⟨hc13, h⟩ := h
              exact xV_alY (S1 := Sc1776) hc13 (xi_sub [1, 2, 3, 4, 5, 6] rfl (hj1804 0 Sc1776 h (by decide) hw7 (ha1770.eq hc13)))
            · replace h := h.2 z11
              refine xi_lconst C (v := 1) dL_law_1799 (by decide +kernel) ?_
              refine xi_goto C 1804 dL_law_1800 (by decide) ?_
              obtain ⟨hc14, h⟩ := h
              exact xV_alY (S1 := Sc1776) hc14 (xi_sub [1, 2, 3, 4, 5, 6] rfl (hj1804 1 Sc1776 h (by decide) hw7 (ha1770.eq hc14)))
      · replace h := h.2 z8
        refine xi_iconst C (v := 0) dL_law_1784 rfl ?_
        exact h.elim
    · refine xi_if_eq C 1769 (hf _) dL_law_1762 (by decide) (fun z4 => ?_) (fun z4 => ?_)
      · replace h := h.1 z4
        refine xi_iconst C (v := 0) dL_law_1769 rfl ?_
        exact xV_alY (S1 := Sc1738) rfl (xi_sub [1, 2, 3, 4, 5, 6, 0] rfl (hj1770 0 Sc1738 h (by decide) hw2 (ha3.eq rfl)))
      · replace h := h.2 z4
        refine xi_iconst C (v := 1) dL_law_1765 rfl ?_
        refine xi_goto C 1770 dL_law_1766 (by decide) ?_
        exact xV_alY (S1 := Sc1738) rfl (xi_sub [1, 2, 3, 4, 5, 6, 0] rfl (hj1770 1 Sc1738 h (by decide) hw2 (ha3.eq rfl)))
  · refine xi_if_eq C 1736 (hf _) dL_law_1729 (by decide) (fun z1 => ?_) (fun z1 => ?_)
    · replace h := h.1 z1
      refine xi_iconst C (v := 0) dL_law_1736 rfl ?_
      exact xV_alY (S1 := S) rfl (xi_sub [1, 2, 3, 4, 5, 0] rfl (hj1737 0 S h (by decide) hw (ha0.eq rfl)))
    · replace h := h.2 z1
      refine xi_iconst C (v := 1) dL_law_1732 rfl ?_
      refine xi_goto C 1737 dL_law_1733 (by decide) ?_
      exact xV_alY (S1 := S) rfl (xi_sub [1, 2, 3, 4, 5, 0] rfl (hj1737 1 S h (by decide) hw (ha0.eq rfl)))
set_option maxRecDepth 100000 in
set_option maxHeartbeats 4000000 in
theorem c_K25 {l : Launch} (hl9 : l.stackTraces = false) {D : va_G} {ca : Nat → ClassId} {ad : Nat → Nat} {tF : Nat} {p : Program} {e : Env} {s : State} {m : MethodId} {below : List Frame} {meth : Method} {c : Code} {A : Nat → Prop} {Z : State → Prop} {b L k0 n0 : Nat} {xs : Nat → Int32} {f : Int → Int} {i : Int} {S S0 : xS} {Q : xS → Prop}
    (C : xC (gC D ca ad tF) p c cL_law 9 s #[Value.ref b] RL m A) (hX : va_X b L xs s s.heap) (hbl : b < s.heap.size) (hbA : ¬ A b) (hL : L ≤ 3584) (hff : f = xsI xs) (h0 : 0 ≤ i ∧ i + 6 < (L : Int)) (hk9 : k0 + 5 + xgc S0 ≤ 603072 ∧ n0 + 30 + xgs S0 ≤ 7198826) (ha0 : xAl S0 S) (hw : xval (gC D ca ad tF) S) (h : w_K25 f i S Q)
    (hk : ∀ S' : xS, Q S' → xval (gC D ca ad tF) S' → xAl S0 S' → xV (gC D ca ad tF) p l e room_1 s m #[Value.ref b] below meth c A 9 Z (k0 + 5 + (xgc S0 - xgc S')) (n0 + 30 + (xgs S0 - xgs S')) 2196 [(5, .int (iN i)), (0, .ref b), (1, .ref (ad 0)), (2, .ref (ad 54)), (3, .ref (ad 98)), (4, .ref (ad 99))] [] S') :
    xV (gC D ca ad tF) p l e room_1 s m #[Value.ref b] below meth c A 9 Z (k0 + 0 + (xgc S0 - xgc S)) (n0 + 0 + (xgs S0 - xgs S)) 1813 [(5, .int (iN i)), (0, .ref b), (1, .ref (ad 0)), (2, .ref (ad 54)), (3, .ref (ad 98)), (4, .ref (ad 99))] [] S := by
  have h_i : xR i := ⟨by omega, by omega⟩
  have hf : ∀ z, xR (f z) := fun z => by rw [hff]; exact xR_I _
  unfold w_K25 at h
  refine xi_aload_n C 2 dL_law_1813 rfl rfl ?_
  refine xi_aload_n C 1 dL_law_1814 rfl rfl ?_
  refine xi_iload C 0 dL_law_1815 rfl ?_
  refine xi_iconst C (v := 1) dL_law_1817 rfl ?_
  refine xi_iadd C dL_law_1818 ?_
  refine xi_sldF C hff hX hbl hbA (i := i + 1) (by omega) hL dL_law_1819 ?_
  refine xi_aload_n C 1 dL_law_1820 rfl rfl ?_
  refine xi_iload C 0 dL_law_1821 rfl ?_
  refine xi_iconst C (v := 2) dL_law_1823 rfl ?_
  refine xi_iadd C dL_law_1824 ?_
  refine xi_sldF C hff hX hbl hbA (i := i + 2) (by omega) hL dL_law_1825 ?_
  refine xi_aload_n C 1 dL_law_1826 rfl rfl ?_
  refine xi_iload C 0 dL_law_1827 rfl ?_
  refine xi_iconst C (v := 3) dL_law_1829 rfl ?_
  refine xi_iadd C dL_law_1830 ?_
  refine xi_sldF C hff hX hbl hbA (i := i + 3) (by omega) hL dL_law_1831 ?_
  refine xi_aload_n C 1 dL_law_1832 rfl rfl ?_
  refine xi_iload C 0 dL_law_1833 rfl ?_
  refine xi_iconst C (v := 4) dL_law_1835 rfl ?_
  refine xi_iadd C dL_law_1836 ?_
  refine xi_sldF C hff hX hbl hbA (i := i + 4) (by omega) hL dL_law_1837 ?_
  refine xi_aload_n C 1 dL_law_1838 rfl rfl ?_
  refine xi_iload C 0 dL_law_1839 rfl ?_
  refine xi_iconst C (v := 5) dL_law_1841 rfl ?_
  refine xi_iadd C dL_law_1842 ?_
  refine xi_sldF C hff hX hbl hbA (i := i + 5) (by omega) hL dL_law_1843 ?_
  refine xJ1_w (fun t0_1852 S1852 => xR t0_1852 → xval (gC D ca ad tF) S1852 → xAl S0 S1852 → xV (gC D ca ad tF) p l e room_1 s m #[Value.ref b] below meth c A 9 Z (k0 + 0 + (xgc S0 - xgc S1852)) (n0 + 0 + (xgs S0 - xgs S1852)) 1852 [(0, .ref b), (1, .ref (ad 0)), (2, .ref (ad 54)), (3, .ref (ad 98)), (4, .ref (ad 99)), (5, .int (iN i))] [.int (iN t0_1852), .int (iN (f (i + 4))), .int (iN (f (i + 3))), .int (iN (f (i + 2))), .int (iN (f (i + 1))), .ref (ad 0)] S1852) h (fun t0_1852 S1852 h h_t0_1852 hw1852 ha1852 => ?_) (fun j1852 hj1852 h => ?_)
  · unfold w_K25_J1852 at h
    refine xi_aload_n C 3 dL_law_1852 rfl rfl ?_
    refine xl_SH C hw1852 ha1852 rfl (c_L_follows l D ca ad tF (f (i + 1)) (f (i + 2)) (f (i + 3)) (f (i + 4)) t0_1852 S1852 _ (hf _) (hf _) (hf _) (hf _) h_t0_1852 h hl9) xkh_L_follows xs_L_follows xl_L_218 ⟨Nat.le_of_ble_eq_true rfl, Nat.le_of_ble_eq_true rfl⟩ ⟨xrL hk9.1 (Nat.le_of_ble_eq_true rfl), xrL hk9.2 (Nat.le_of_ble_eq_true rfl)⟩ rfl rfl (Nat.le_of_ble_eq_true rfl) dL_law_1853 (fun E9 S9 h9 _ _ => h9.elim) (fun r9 Sc1853 h9 hw2 ha3 => ?_)
    obtain ⟨r1853, rfl, h_r1853, h⟩ := h9
    refine xi_istore C (L' := [(6, .int (iN r1853)), (0, .ref b), (1, .ref (ad 0)), (2, .ref (ad 54)), (3, .ref (ad 98)), (4, .ref (ad 99)), (5, .int (iN i))]) dL_law_1856 (by decide) rfl ?_
    refine xi_aload_n C 3 dL_law_1858 rfl rfl ?_
    refine xi_aload_n C 1 dL_law_1859 rfl rfl ?_
    refine xi_iload C 6 dL_law_1860 rfl ?_
    refine xi_iconst C (v := 1) dL_law_1862 rfl ?_
    refine xi_iadd C dL_law_1863 ?_
    refine xi_sldF C hff hX hbl hbA (i := i + 1) (by omega) hL dL_law_1864 ?_
    refine xi_aload_n C 1 dL_law_1865 rfl rfl ?_
    refine xi_iload C 6 dL_law_1866 rfl ?_
    refine xi_iconst C (v := 2) dL_law_1868 rfl ?_
    refine xi_iadd C dL_law_1869 ?_
    refine xi_sldF C hff hX hbl hbA (i := i + 2) (by omega) hL dL_law_1870 ?_
    refine xi_aload_n C 1 dL_law_1871 rfl rfl ?_
    refine xi_iload C 6 dL_law_1872 rfl ?_
    refine xi_iconst C (v := 3) dL_law_1874 rfl ?_
    refine xi_iadd C dL_law_1875 ?_
    refine xi_sldF C hff hX hbl hbA (i := i + 3) (by omega) hL dL_law_1876 ?_
    refine xi_aload_n C 1 dL_law_1877 rfl rfl ?_
    refine xi_iload C 6 dL_law_1878 rfl ?_
    refine xi_iconst C (v := 4) dL_law_1880 rfl ?_
    refine xi_iadd C dL_law_1881 ?_
    refine xi_sldF C hff hX hbl hbA (i := i + 4) (by omega) hL dL_law_1882 ?_
    refine xi_aload_n C 1 dL_law_1883 rfl rfl ?_
    refine xi_iload C 6 dL_law_1884 rfl ?_
    refine xi_iconst C (v := 5) dL_law_1886 rfl ?_
    refine xi_iadd C dL_law_1887 ?_
    refine xi_sldF C hff hX hbl hbA (i := i + 5) (by omega) hL dL_law_1888 ?_
    refine xJ1_w (fun t0_1897 S1897 => xR t0_1897 → xval (gC D ca ad tF) S1897 → xAl S0 S1897 → xV (gC D ca ad tF) p l e room_1 s m #[Value.ref b] below meth c A 9 Z (k0 + 5 + (xgc S0 - xgc S1897)) (n0 + 30 + (xgs S0 - xgs S1897)) 1897 [(0, .ref b), (1, .ref (ad 0)), (2, .ref (ad 54)), (3, .ref (ad 98)), (4, .ref (ad 99)), (5, .int (iN i)), (6, .int (iN r1853))] [.int (iN t0_1897), .int (iN (f (i + 4))), .int (iN (f (i + 3))), .int (iN (f (i + 2))), .int (iN (f (i + 1))), .ref (ad 54)] S1897) h (fun t0_1897 S1897 h h_t0_1897 hw1897 ha1897 => ?_) (fun j1897 hj1897 h => ?_)
    · unfold w_K25_J1897 at h
      refine xc_Vi C hw1897 (c_X9_follows l D ca ad tF (f (i + 1)) (f (i + 2)) (f (i + 3)) (f (i + 4)) t0_1897 S1897 _ (hf _) (hf _) (hf _) (hf _) h_t0_1897 h) xk_X9_follows xv_X9_follows xl_L_221 ⟨Nat.le_of_ble_eq_true rfl, Nat.le_of_ble_eq_true rfl⟩ xK_X9 (q := 54) rfl rfl rfl (Nat.le_of_ble_eq_true rfl) ⟨xrM hk9.1 (Nat.le_of_ble_eq_true rfl), xrM hk9.2 (Nat.le_of_ble_eq_true rfl)⟩ dL_law_1897 (fun r1897 Sc1897 h_r1897 h hw5 => ?_)
      refine xi_istore C (L' := [(7, .int (iN r1897)), (0, .ref b), (1, .ref (ad 0)), (2, .ref (ad 54)), (3, .ref (ad 98)), (4, .ref (ad 99)), (5, .int (iN i)), (6, .int (iN r1853))]) dL_law_1900 (by decide) rfl ?_
      refine xi_aload_n C 3 dL_law_1902 rfl rfl ?_
      obtain ⟨hc6, h⟩ := h
      refine xc_Vi C hw5 (c_X9_thrown l D ca ad tF Sc1897 _ h) xk_X9_thrown xv_X9_thrown xl_L_137 ⟨Nat.le_of_ble_eq_true rfl, Nat.le_of_ble_eq_true rfl⟩ xK_X9 (q := 54) rfl rfl rfl (Nat.le_of_ble_eq_true rfl) ⟨xrM hk9.1 (Nat.le_of_ble_eq_true rfl), xrM hk9.2 (Nat.le_of_ble_eq_true rfl)⟩ dL_law_1903 (fun r1903 Sc1903 h_r1903 h hw7 => ?_)
      refine xi_iload C 7 dL_law_1906 rfl ?_
      refine xi_icmp_eq C 1913 h_r1903 h_r1853 dL_law_1908 (by decide) (fun z8 => ?_) (fun z8 => ?_)
      · replace h := h.1 z8
        refine xi_iload C 7 dL_law_1913 rfl ?_
        refine xi_if_ne C 1937 h_r1853 dL_law_1915 (by decide) (fun z9 => ?_) (fun z9 => ?_)
        · replace h := h.1 z9
          refine xi_goto C 2196 dL_law_1937 (by decide) ?_
          obtain ⟨hc10, h⟩ := h
          exact xV_alY (S1 := Sc1903) hc10 (xV_wid (xrK (Nat.le_of_ble_eq_true rfl)) (xrK (Nat.le_of_ble_eq_true rfl)) (xi_sub [6, 1, 2, 3, 4, 5] rfl (hk Sc1903 h hw7 (ha1897.eq hc10))))
        · replace h := h.2 z9
          refine xi_aload_n C 4 dL_law_1918 rfl rfl ?_
          refine xi_iconst C (v := 0) dL_law_1919 rfl ?_
          refine xi_laload C (q := 98) rfl (by decide) (by decide) dL_law_1920 ?_
          refine xi_iload C 0 dL_law_1921 rfl ?_
          refine xJ1_w (fun t0_1931 S1931 => xRJ t0_1931 → xval (gC D ca ad tF) S1931 → xAl S0 S1931 → xV (gC D ca ad tF) p l e room_1 s m #[Value.ref b] below meth c A 9 Z (k0 + 5 + (xgc S0 - xgc S1931)) (n0 + 30 + (xgs S0 - xgs S1931)) 1931 [(0, .ref b), (1, .ref (ad 0)), (2, .ref (ad 54)), (3, .ref (ad 98)), (4, .ref (ad 99)), (5, .int (iN i))] [.long (jN t0_1931), .long (jN (Sc1903 98 0))] S1931) h (fun t0_1931 S1931 h h_t0_1931 hw1931 ha1931 => ?_) (fun j1931 hj1931 h => ?_)
          · unfold w_K25_J1931 at h
            refine xi_lcmp_eq C 1937 (xval.j (q := 98) (i := 0) hw7 (by decide) rfl) h_t0_1931 dL_law_1931 dL_law_1932 (by decide) (fun z12 => ?_) (fun z12 => ?_)
            · replace h := h.1 z12
              refine xi_goto C 2196 dL_law_1937 (by decide) ?_
              exact xV_alY (S1 := S1931) rfl (xV_wid (xrK (Nat.le_of_ble_eq_true rfl)) (xrK (Nat.le_of_ble_eq_true rfl)) (xi_sub [5, 0, 1, 2, 3, 4] rfl (hk S1931 h hw1931 (ha1931.eq rfl))))
            · replace h := h.2 z12
              refine xi_iconst C (v := 0) dL_law_1935 rfl ?_
              exact h.elim
          · refine xi_if_eq C 1930 h_r1897 dL_law_1923 (by decide) (fun z11 => ?_) (fun z11 => ?_)
            · replace h := h.1 z11
              refine xi_lconst C (v := 0) dL_law_1930 (by decide +kernel) ?_
              obtain ⟨hc13, h⟩ := h
              exact xV_alY (S1 := Sc1903) hc13 (xi_sub [1, 2, 3, 4, 5, 6] rfl (hj1931 0 Sc1903 h (by decide) hw7 (ha1897.eq hc13)))
            · replace h := h.2 z11
              refine xi_lconst C (v := 1) dL_law_1926 (by decide +kernel) ?_
              refine xi_goto C 1931 dL_law_1927 (by decide) ?_
              obtain ⟨hc14, h⟩ := h
              exact xV_alY (S1 := Sc1903) hc14 (xi_sub [1, 2, 3, 4, 5, 6] rfl (hj1931 1 Sc1903 h (by decide) hw7 (ha1897.eq hc14)))
      · replace h := h.2 z8
        refine xi_iconst C (v := 0) dL_law_1911 rfl ?_
        exact h.elim
    · refine xi_if_eq C 1896 (hf _) dL_law_1889 (by decide) (fun z4 => ?_) (fun z4 => ?_)
      · replace h := h.1 z4
        refine xi_iconst C (v := 0) dL_law_1896 rfl ?_
        exact xV_alY (S1 := Sc1853) rfl (xi_sub [1, 2, 3, 4, 5, 6, 0] rfl (hj1897 0 Sc1853 h (by decide) hw2 (ha3.eq rfl)))
      · replace h := h.2 z4
        refine xi_iconst C (v := 1) dL_law_1892 rfl ?_
        refine xi_goto C 1897 dL_law_1893 (by decide) ?_
        exact xV_alY (S1 := Sc1853) rfl (xi_sub [1, 2, 3, 4, 5, 6, 0] rfl (hj1897 1 Sc1853 h (by decide) hw2 (ha3.eq rfl)))
  · refine xi_if_eq C 1851 (hf _) dL_law_1844 (by decide) (fun z1 => ?_) (fun z1 => ?_)
    · replace h := h.1 z1
      refine xi_iconst C (v := 0) dL_law_1851 rfl ?_
      exact xV_alY (S1 := S) rfl (xi_sub [1, 2, 3, 4, 5, 0] rfl (hj1852 0 S h (by decide) hw (ha0.eq rfl)))
    · replace h := h.2 z1
      refine xi_iconst C (v := 1) dL_law_1847 rfl ?_
      refine xi_goto C 1852 dL_law_1848 (by decide) ?_
      exact xV_alY (S1 := S) rfl (xi_sub [1, 2, 3, 4, 5, 0] rfl (hj1852 1 S h (by decide) hw (ha0.eq rfl)))
set_option maxRecDepth 100000 in
set_option maxHeartbeats 4000000 in
theorem c_K26 {l : Launch} (hl9 : l.stackTraces = false) {D : va_G} {ca : Nat → ClassId} {ad : Nat → Nat} {tF : Nat} {p : Program} {e : Env} {s : State} {m : MethodId} {below : List Frame} {meth : Method} {c : Code} {A : Nat → Prop} {Z : State → Prop} {b L k0 n0 : Nat} {xs : Nat → Int32} {f : Int → Int} {i : Int} {S S0 : xS} {Q : xS → Prop}
    (C : xC (gC D ca ad tF) p c cL_law 9 s #[Value.ref b] RL m A) (hX : va_X b L xs s s.heap) (hbl : b < s.heap.size) (hbA : ¬ A b) (hL : L ≤ 3584) (hff : f = xsI xs) (h0 : 0 ≤ i ∧ i + 6 < (L : Int)) (hk9 : k0 + 5 + xgc S0 ≤ 603072 ∧ n0 + 30 + xgs S0 ≤ 7198826) (ha0 : xAl S0 S) (hw : xval (gC D ca ad tF) S) (h : w_K26 f i S Q)
    (hk : ∀ S' : xS, Q S' → xval (gC D ca ad tF) S' → xAl S0 S' → xV (gC D ca ad tF) p l e room_1 s m #[Value.ref b] below meth c A 9 Z (k0 + 5 + (xgc S0 - xgc S')) (n0 + 30 + (xgs S0 - xgs S')) 2196 [(5, .int (iN i)), (0, .ref b), (1, .ref (ad 0)), (2, .ref (ad 54)), (3, .ref (ad 98)), (4, .ref (ad 99))] [] S') :
    xV (gC D ca ad tF) p l e room_1 s m #[Value.ref b] below meth c A 9 Z (k0 + 0 + (xgc S0 - xgc S)) (n0 + 0 + (xgs S0 - xgs S)) 1940 [(5, .int (iN i)), (0, .ref b), (1, .ref (ad 0)), (2, .ref (ad 54)), (3, .ref (ad 98)), (4, .ref (ad 99))] [] S := by
  have h_i : xR i := ⟨by omega, by omega⟩
  have hf : ∀ z, xR (f z) := fun z => by rw [hff]; exact xR_I _
  unfold w_K26 at h
  refine xi_aload_n C 2 dL_law_1940 rfl rfl ?_
  refine xi_aload_n C 1 dL_law_1941 rfl rfl ?_
  refine xi_iload C 0 dL_law_1942 rfl ?_
  refine xi_iconst C (v := 1) dL_law_1944 rfl ?_
  refine xi_iadd C dL_law_1945 ?_
  refine xi_sldF C hff hX hbl hbA (i := i + 1) (by omega) hL dL_law_1946 ?_
  refine xi_aload_n C 1 dL_law_1947 rfl rfl ?_
  refine xi_iload C 0 dL_law_1948 rfl ?_
  refine xi_iconst C (v := 2) dL_law_1950 rfl ?_
  refine xi_iadd C dL_law_1951 ?_
  refine xi_sldF C hff hX hbl hbA (i := i + 2) (by omega) hL dL_law_1952 ?_
  refine xi_aload_n C 4 dL_law_1953 rfl rfl ?_
  refine xl_SH C hw ha0 rfl (c_L_distance l D ca ad tF (f (i + 1)) (f (i + 2)) S _ (hf _) (hf _) h hl9) xkh_L_distance xs_L_distance xl_L_222 ⟨Nat.le_of_ble_eq_true rfl, Nat.le_of_ble_eq_true rfl⟩ ⟨xrL hk9.1 (Nat.le_of_ble_eq_true rfl), xrL hk9.2 (Nat.le_of_ble_eq_true rfl)⟩ rfl rfl (Nat.le_of_ble_eq_true rfl) dL_law_1954 (fun E9 S9 h9 _ _ => h9.elim) (fun r9 Sc1954 h9 hw1 ha2 => ?_)
  obtain ⟨r1954, rfl, h_r1954, h⟩ := h9
  refine xi_istore C (L' := [(6, .int (iN r1954)), (5, .int (iN i)), (0, .ref b), (1, .ref (ad 0)), (2, .ref (ad 54)), (3, .ref (ad 98)), (4, .ref (ad 99))]) dL_law_1957 (by decide) rfl ?_
  refine xi_aload_n C 4 dL_law_1959 rfl rfl ?_
  refine xi_aload_n C 2 dL_law_1960 rfl rfl ?_
  refine xi_iload C 1 dL_law_1961 rfl ?_
  refine xi_iconst C (v := 1) dL_law_1963 rfl ?_
  refine xi_iadd C dL_law_1964 ?_
  refine xi_sldF C hff hX hbl hbA (i := i + 1) (by omega) hL dL_law_1965 ?_
  refine xi_aload_n C 2 dL_law_1966 rfl rfl ?_
  refine xi_iload C 1 dL_law_1967 rfl ?_
  refine xi_iconst C (v := 2) dL_law_1969 rfl ?_
  refine xi_iadd C dL_law_1970 ?_
  refine xi_sldF C hff hX hbl hbA (i := i + 2) (by omega) hL dL_law_1971 ?_
  refine xc_Vi C hw1 (c_X9_distance l D ca ad tF (f (i + 1)) (f (i + 2)) Sc1954 _ (hf _) (hf _) h) xk_X9_distance xv_X9_distance xl_L_224 ⟨Nat.le_of_ble_eq_true rfl, Nat.le_of_ble_eq_true rfl⟩ xK_X9 (q := 54) rfl rfl rfl (Nat.le_of_ble_eq_true rfl) ⟨xrM hk9.1 (Nat.le_of_ble_eq_true rfl), xrM hk9.2 (Nat.le_of_ble_eq_true rfl)⟩ dL_law_1972 (fun r1972 Sc1972 h_r1972 h hw3 => ?_)
  refine xi_istore C (L' := [(7, .int (iN r1972)), (6, .int (iN r1954)), (5, .int (iN i)), (0, .ref b), (1, .ref (ad 0)), (2, .ref (ad 54)), (3, .ref (ad 98)), (4, .ref (ad 99))]) dL_law_1975 (by decide) rfl ?_
  refine xi_aload_n C 5 dL_law_1977 rfl rfl ?_
  obtain ⟨hc4, h⟩ := h
  refine xc_Vi C hw3 (c_X9_thrown l D ca ad tF Sc1972 _ h) xk_X9_thrown xv_X9_thrown xl_L_137 ⟨Nat.le_of_ble_eq_true rfl, Nat.le_of_ble_eq_true rfl⟩ xK_X9 (q := 54) rfl rfl rfl (Nat.le_of_ble_eq_true rfl) ⟨xrM hk9.1 (Nat.le_of_ble_eq_true rfl), xrM hk9.2 (Nat.le_of_ble_eq_true rfl)⟩ dL_law_1978 (fun r1978 Sc1978 h_r1978 h hw5 => ?_)
  refine xi_iload C 1 dL_law_1981 rfl ?_
  refine xi_icmp_eq C 1988 h_r1978 h_r1954 dL_law_1983 (by decide) (fun z6 => ?_) (fun z6 => ?_)
  · replace h := h.1 z6
    refine xi_iload C 1 dL_law_1988 rfl ?_
    refine xi_if_ne C 2005 h_r1954 dL_law_1990 (by decide) (fun z7 => ?_) (fun z7 => ?_)
    · replace h := h.1 z7
      refine xi_goto C 2196 dL_law_2005 (by decide) ?_
      obtain ⟨hc8, h⟩ := h
      exact xV_alY (S1 := Sc1978) hc8 (xV_wid (xrK (Nat.le_of_ble_eq_true rfl)) (xrK (Nat.le_of_ble_eq_true rfl)) (xi_sub [2, 3, 4, 5, 6, 7] rfl (hk Sc1978 h hw5 (ha2.eq hc8))))
    · replace h := h.2 z7
      refine xi_aload_n C 6 dL_law_1993 rfl rfl ?_
      refine xi_iconst C (v := 0) dL_law_1994 rfl ?_
      refine xi_laload C (q := 98) rfl (by decide) (by decide) dL_law_1995 ?_
      refine xi_iload C 0 dL_law_1996 rfl ?_
      refine xi_i2l C h_r1972 dL_law_1998 ?_
      refine xi_lcmp_eq C 2005 (xval.j (q := 98) (i := 0) hw5 (by decide) rfl) (xR_J h_r1972) dL_law_1999 dL_law_2000 (by decide) (fun z9 => ?_) (fun z9 => ?_)
      · replace h := h.1 z9
        refine xi_goto C 2196 dL_law_2005 (by decide) ?_
        obtain ⟨hc10, h⟩ := h
        exact xV_alY (S1 := Sc1978) hc10 (xV_wid (xrK (Nat.le_of_ble_eq_true rfl)) (xrK (Nat.le_of_ble_eq_true rfl)) (xi_sub [2, 3, 4, 5, 6, 7] rfl (hk Sc1978 h hw5 (ha2.eq hc10))))
      · replace h := h.2 z9
        refine xi_iconst C (v := 0) dL_law_2003 rfl ?_
        exact h.elim
  · replace h := h.2 z6
    refine xi_iconst C (v := 0) dL_law_1986 rfl ?_
    exact h.elim
set_option maxRecDepth 100000 in
set_option maxHeartbeats 4000000 in
theorem c_K27 {l : Launch} (hl9 : l.stackTraces = false) {D : va_G} {ca : Nat → ClassId} {ad : Nat → Nat} {tF : Nat} {p : Program} {e : Env} {s : State} {m : MethodId} {below : List Frame} {meth : Method} {c : Code} {A : Nat → Prop} {Z : State → Prop} {b L k0 n0 : Nat} {xs : Nat → Int32} {f : Int → Int} {i : Int} {S S0 : xS} {Q : xS → Prop}
    (C : xC (gC D ca ad tF) p c cL_law 9 s #[Value.ref b] RL m A) (hX : va_X b L xs s s.heap) (hbl : b < s.heap.size) (hbA : ¬ A b) (hL : L ≤ 3584) (hff : f = xsI xs) (h0 : 0 ≤ i ∧ i + 6 < (L : Int)) (hk9 : k0 + 5 + xgc S0 ≤ 603072 ∧ n0 + 30 + xgs S0 ≤ 7198826) (ha0 : xAl S0 S) (hw : xval (gC D ca ad tF) S) (h : w_K27 f i S Q)
    (hk : ∀ S' : xS, Q S' → xval (gC D ca ad tF) S' → xAl S0 S' → xV (gC D ca ad tF) p l e room_1 s m #[Value.ref b] below meth c A 9 Z (k0 + 5 + (xgc S0 - xgc S')) (n0 + 30 + (xgs S0 - xgs S')) 2196 [(5, .int (iN i)), (0, .ref b), (1, .ref (ad 0)), (2, .ref (ad 54)), (3, .ref (ad 98)), (4, .ref (ad 99))] [] S') :
    xV (gC D ca ad tF) p l e room_1 s m #[Value.ref b] below meth c A 9 Z (k0 + 0 + (xgc S0 - xgc S)) (n0 + 0 + (xgs S0 - xgs S)) 2008 [(5, .int (iN i)), (0, .ref b), (1, .ref (ad 0)), (2, .ref (ad 54)), (3, .ref (ad 98)), (4, .ref (ad 99))] [] S := by
  have h_i : xR i := ⟨by omega, by omega⟩
  have hf : ∀ z, xR (f z) := fun z => by rw [hff]; exact xR_I _
  unfold w_K27 at h
  refine xi_aload_n C 2 dL_law_2008 rfl rfl ?_
  refine xi_aload_n C 4 dL_law_2009 rfl rfl ?_
  refine xl_SH C hw ha0 rfl (c_L_components l D ca ad tF S _ h hl9) xkh_L_components xs_L_components xl_L_225 ⟨Nat.le_of_ble_eq_true rfl, Nat.le_of_ble_eq_true rfl⟩ ⟨xrL hk9.1 (Nat.le_of_ble_eq_true rfl), xrL hk9.2 (Nat.le_of_ble_eq_true rfl)⟩ rfl rfl (Nat.le_of_ble_eq_true rfl) dL_law_2010 (fun E9 S9 h9 _ _ => h9.elim) (fun r9 Sc2010 h9 hw1 ha2 => ?_)
  obtain ⟨r2010, rfl, h_r2010, h⟩ := h9
  refine xi_istore C (L' := [(6, .int (iN r2010)), (5, .int (iN i)), (0, .ref b), (1, .ref (ad 0)), (2, .ref (ad 54)), (3, .ref (ad 98)), (4, .ref (ad 99))]) dL_law_2013 (by decide) rfl ?_
  refine xi_aload_n C 4 dL_law_2015 rfl rfl ?_
  refine xc_Vi C hw1 (c_X9_components l D ca ad tF Sc2010 _ h) xk_X9_components xv_X9_components xl_L_227 ⟨Nat.le_of_ble_eq_true rfl, Nat.le_of_ble_eq_true rfl⟩ xK_X9 (q := 54) rfl rfl rfl (Nat.le_of_ble_eq_true rfl) ⟨xrM hk9.1 (Nat.le_of_ble_eq_true rfl), xrM hk9.2 (Nat.le_of_ble_eq_true rfl)⟩ dL_law_2016 (fun r2016 Sc2016 h_r2016 h hw3 => ?_)
  refine xi_istore C (L' := [(7, .int (iN r2016)), (6, .int (iN r2010)), (5, .int (iN i)), (0, .ref b), (1, .ref (ad 0)), (2, .ref (ad 54)), (3, .ref (ad 98)), (4, .ref (ad 99))]) dL_law_2019 (by decide) rfl ?_
  refine xi_aload_n C 5 dL_law_2021 rfl rfl ?_
  obtain ⟨hc4, h⟩ := h
  refine xc_Vi C hw3 (c_X9_thrown l D ca ad tF Sc2016 _ h) xk_X9_thrown xv_X9_thrown xl_L_137 ⟨Nat.le_of_ble_eq_true rfl, Nat.le_of_ble_eq_true rfl⟩ xK_X9 (q := 54) rfl rfl rfl (Nat.le_of_ble_eq_true rfl) ⟨xrM hk9.1 (Nat.le_of_ble_eq_true rfl), xrM hk9.2 (Nat.le_of_ble_eq_true rfl)⟩ dL_law_2022 (fun r2022 Sc2022 h_r2022 h hw5 => ?_)
  refine xi_iload C 1 dL_law_2025 rfl ?_
  refine xi_icmp_eq C 2032 h_r2022 h_r2010 dL_law_2027 (by decide) (fun z6 => ?_) (fun z6 => ?_)
  · replace h := h.1 z6
    refine xi_iload C 1 dL_law_2032 rfl ?_
    refine xi_if_ne C 2049 h_r2010 dL_law_2034 (by decide) (fun z7 => ?_) (fun z7 => ?_)
    · replace h := h.1 z7
      refine xi_goto C 2196 dL_law_2049 (by decide) ?_
      obtain ⟨hc8, h⟩ := h
      exact xV_alY (S1 := Sc2022) hc8 (xV_wid (xrK (Nat.le_of_ble_eq_true rfl)) (xrK (Nat.le_of_ble_eq_true rfl)) (xi_sub [2, 3, 4, 5, 6, 7] rfl (hk Sc2022 h hw5 (ha2.eq hc8))))
    · replace h := h.2 z7
      refine xi_aload_n C 6 dL_law_2037 rfl rfl ?_
      refine xi_iconst C (v := 0) dL_law_2038 rfl ?_
      refine xi_laload C (q := 98) rfl (by decide) (by decide) dL_law_2039 ?_
      refine xi_iload C 0 dL_law_2040 rfl ?_
      refine xi_i2l C h_r2016 dL_law_2042 ?_
      refine xi_lcmp_eq C 2049 (xval.j (q := 98) (i := 0) hw5 (by decide) rfl) (xR_J h_r2016) dL_law_2043 dL_law_2044 (by decide) (fun z9 => ?_) (fun z9 => ?_)
      · replace h := h.1 z9
        refine xi_goto C 2196 dL_law_2049 (by decide) ?_
        obtain ⟨hc10, h⟩ := h
        exact xV_alY (S1 := Sc2022) hc10 (xV_wid (xrK (Nat.le_of_ble_eq_true rfl)) (xrK (Nat.le_of_ble_eq_true rfl)) (xi_sub [2, 3, 4, 5, 6, 7] rfl (hk Sc2022 h hw5 (ha2.eq hc10))))
      · replace h := h.2 z9
        refine xi_iconst C (v := 0) dL_law_2047 rfl ?_
        exact h.elim
  · replace h := h.2 z6
    refine xi_iconst C (v := 0) dL_law_2030 rfl ?_
    exact h.elim
set_option maxRecDepth 100000 in
set_option maxHeartbeats 4000000 in
theorem c_K28 {l : Launch} (hl9 : l.stackTraces = false) {D : va_G} {ca : Nat → ClassId} {ad : Nat → Nat} {tF : Nat} {p : Program} {e : Env} {s : State} {m : MethodId} {below : List Frame} {meth : Method} {c : Code} {A : Nat → Prop} {Z : State → Prop} {b L k0 n0 : Nat} {xs : Nat → Int32} {f : Int → Int} {i : Int} {S S0 : xS} {Q : xS → Prop}
    (C : xC (gC D ca ad tF) p c cL_law 9 s #[Value.ref b] RL m A) (hX : va_X b L xs s s.heap) (hbl : b < s.heap.size) (hbA : ¬ A b) (hL : L ≤ 3584) (hff : f = xsI xs) (h0 : 0 ≤ i ∧ i + 6 < (L : Int)) (hk9 : k0 + 5 + xgc S0 ≤ 603072 ∧ n0 + 30 + xgs S0 ≤ 7198826) (ha0 : xAl S0 S) (hw : xval (gC D ca ad tF) S) (h : w_K28 f i S Q)
    (hk : ∀ S' : xS, Q S' → xval (gC D ca ad tF) S' → xAl S0 S' → xV (gC D ca ad tF) p l e room_1 s m #[Value.ref b] below meth c A 9 Z (k0 + 5 + (xgc S0 - xgc S')) (n0 + 30 + (xgs S0 - xgs S')) 2196 [(5, .int (iN i)), (0, .ref b), (1, .ref (ad 0)), (2, .ref (ad 54)), (3, .ref (ad 98)), (4, .ref (ad 99))] [] S') :
    xV (gC D ca ad tF) p l e room_1 s m #[Value.ref b] below meth c A 9 Z (k0 + 0 + (xgc S0 - xgc S)) (n0 + 0 + (xgs S0 - xgs S)) 2052 [(5, .int (iN i)), (0, .ref b), (1, .ref (ad 0)), (2, .ref (ad 54)), (3, .ref (ad 98)), (4, .ref (ad 99))] [] S := by
  have h_i : xR i := ⟨by omega, by omega⟩
  have hf : ∀ z, xR (f z) := fun z => by rw [hff]; exact xR_I _
  unfold w_K28 at h
  refine xi_aload_n C 2 dL_law_2052 rfl rfl ?_
  refine xi_aload C 5 dL_law_2053 rfl ?_
  refine xl_SH C hw ha0 rfl (c_L_meanMoves l D ca ad tF S _ h hl9) xkh_L_meanMoves xs_L_meanMoves xl_L_228 ⟨Nat.le_of_ble_eq_true rfl, Nat.le_of_ble_eq_true rfl⟩ ⟨xrL hk9.1 (Nat.le_of_ble_eq_true rfl), xrL hk9.2 (Nat.le_of_ble_eq_true rfl)⟩ rfl rfl (Nat.le_of_ble_eq_true rfl) dL_law_2055 (fun E9 S9 h9 _ _ => h9.elim) (fun r9 Sc2055 h9 hw1 ha2 => ?_)
  obtain ⟨r2055, rfl, h_r2055, h⟩ := h9
  refine xi_istore C (L' := [(6, .int (iN r2055)), (5, .int (iN i)), (0, .ref b), (1, .ref (ad 0)), (2, .ref (ad 54)), (3, .ref (ad 98)), (4, .ref (ad 99))]) dL_law_2058 (by decide) rfl ?_
  refine xi_aload_n C 4 dL_law_2060 rfl rfl ?_
  refine xc_Vd C hw1 (c_X9_meanMoves l D ca ad tF Sc2055 _ h) xk_X9_meanMoves xv_X9_meanMoves xl_L_231 ⟨Nat.le_of_ble_eq_true rfl, Nat.le_of_ble_eq_true rfl⟩ xK_X9 (q := 54) rfl rfl rfl (Nat.le_of_ble_eq_true rfl) ⟨xrM hk9.1 (Nat.le_of_ble_eq_true rfl), xrM hk9.2 (Nat.le_of_ble_eq_true rfl)⟩ dL_law_2061 (fun r2061 Sc2061 h hw3 => ?_)
  refine xi_dstore C (L' := [(7, .double r2061), (6, .int (iN r2055)), (5, .int (iN i)), (0, .ref b), (1, .ref (ad 0)), (2, .ref (ad 54)), (3, .ref (ad 98)), (4, .ref (ad 99))]) dL_law_2064 (by decide) rfl ?_
  refine xi_aload_n C 5 dL_law_2066 rfl rfl ?_
  obtain ⟨hc4, h⟩ := h
  refine xc_Vi C hw3 (c_X9_thrown l D ca ad tF Sc2061 _ h) xk_X9_thrown xv_X9_thrown xl_L_137 ⟨Nat.le_of_ble_eq_true rfl, Nat.le_of_ble_eq_true rfl⟩ xK_X9 (q := 54) rfl rfl rfl (Nat.le_of_ble_eq_true rfl) ⟨xrM hk9.1 (Nat.le_of_ble_eq_true rfl), xrM hk9.2 (Nat.le_of_ble_eq_true rfl)⟩ dL_law_2067 (fun r2067 Sc2067 h_r2067 h hw5 => ?_)
  refine xi_iload C 1 dL_law_2070 rfl ?_
  refine xi_icmp_eq C 2077 h_r2067 h_r2055 dL_law_2072 (by decide) (fun z6 => ?_) (fun z6 => ?_)
  · replace h := h.1 z6
    refine xi_iload C 1 dL_law_2077 rfl ?_
    refine xi_if_ne C 2114 h_r2055 dL_law_2079 (by decide) (fun z7 => ?_) (fun z7 => ?_)
    · replace h := h.1 z7
      refine xi_goto C 2196 dL_law_2114 (by decide) ?_
      obtain ⟨hc8, h⟩ := h
      exact xV_alY (S1 := Sc2067) hc8 (xV_wid (xrK (Nat.le_of_ble_eq_true rfl)) (xrK (Nat.le_of_ble_eq_true rfl)) (xi_sub [2, 3, 4, 5, 6, 7] rfl (hk Sc2067 h hw5 (ha2.eq hc8))))
    · replace h := h.2 z7
      refine xi_aload C 7 dL_law_2082 rfl ?_
      refine xi_iconst C (v := 0) dL_law_2084 rfl ?_
      refine xi_daload C (q := 99) rfl (by decide) (by decide) dL_law_2085 ?_
      refine xi_dload C 0 dL_law_2086 rfl ?_
      refine xi_dcmpI C dL_law_2088 ?_
      refine xi_if_eq C 2114 (xR_I _) dL_law_2089 (by decide) (fun z9 => ?_) (fun z9 => ?_)
      · replace h := h.1 z9
        refine xi_goto C 2196 dL_law_2114 (by decide) ?_
        obtain ⟨hc10, h⟩ := h
        exact xV_alY (S1 := Sc2067) hc10 (xV_wid (xrK (Nat.le_of_ble_eq_true rfl)) (xrK (Nat.le_of_ble_eq_true rfl)) (xi_sub [2, 3, 4, 5, 6, 7] rfl (hk Sc2067 h hw5 (ha2.eq hc10))))
      · replace h := h.2 z9
        refine xi_aload C 7 dL_law_2092 rfl ?_
        refine xi_iconst C (v := 0) dL_law_2094 rfl ?_
        refine xi_daload C (q := 99) rfl (by decide) (by decide) dL_law_2095 ?_
        refine xi_aload C 7 dL_law_2096 rfl ?_
        refine xi_iconst C (v := 0) dL_law_2098 rfl ?_
        refine xi_daload C (q := 99) rfl (by decide) (by decide) dL_law_2099 ?_
        refine xi_dcmpI C dL_law_2100 ?_
        refine xi_if_eq C 2112 (xR_I _) dL_law_2101 (by decide) (fun z11 => ?_) (fun z11 => ?_)
        · replace h := h.1 z11
          refine xi_iconst C (v := 0) dL_law_2112 rfl ?_
          exact h.elim
        · replace h := h.2 z11
          refine xi_dload C 0 dL_law_2104 rfl ?_
          refine xi_dload C 0 dL_law_2106 rfl ?_
          refine xi_dcmpI C dL_law_2108 ?_
          refine xi_if_ne C 2114 (xR_I _) dL_law_2109 (by decide) (fun z12 => ?_) (fun z12 => ?_)
          · replace h := h.1 z12
            refine xi_goto C 2196 dL_law_2114 (by decide) ?_
            obtain ⟨hc13, h⟩ := h
            exact xV_alY (S1 := Sc2067) hc13 (xV_wid (xrK (Nat.le_of_ble_eq_true rfl)) (xrK (Nat.le_of_ble_eq_true rfl)) (xi_sub [2, 3, 4, 5, 6, 7] rfl (hk Sc2067 h hw5 (ha2.eq hc13))))
          · replace h := h.2 z12
            refine xi_iconst C (v := 0) dL_law_2112 rfl ?_
            exact h.elim
  · replace h := h.2 z6
    refine xi_iconst C (v := 0) dL_law_2075 rfl ?_
    exact h.elim
set_option maxRecDepth 100000 in
set_option maxHeartbeats 4000000 in
theorem c_K29 {l : Launch} (hl9 : l.stackTraces = false) {D : va_G} {ca : Nat → ClassId} {ad : Nat → Nat} {tF : Nat} {p : Program} {e : Env} {s : State} {m : MethodId} {below : List Frame} {meth : Method} {c : Code} {A : Nat → Prop} {Z : State → Prop} {b L k0 n0 : Nat} {xs : Nat → Int32} {f : Int → Int} {i : Int} {S S0 : xS} {Q : xS → Prop}
    (C : xC (gC D ca ad tF) p c cL_law 9 s #[Value.ref b] RL m A) (hX : va_X b L xs s s.heap) (hbl : b < s.heap.size) (hbA : ¬ A b) (hL : L ≤ 3584) (hff : f = xsI xs) (h0 : 0 ≤ i ∧ i + 6 < (L : Int)) (hk9 : k0 + 5 + xgc S0 ≤ 603072 ∧ n0 + 30 + xgs S0 ≤ 7198826) (ha0 : xAl S0 S) (hw : xval (gC D ca ad tF) S) (h : w_K29 f i S Q)
    (hk : ∀ S' : xS, Q S' → xval (gC D ca ad tF) S' → xAl S0 S' → xV (gC D ca ad tF) p l e room_1 s m #[Value.ref b] below meth c A 9 Z (k0 + 5 + (xgc S0 - xgc S')) (n0 + 30 + (xgs S0 - xgs S')) 2196 [(5, .int (iN i)), (0, .ref b), (1, .ref (ad 0)), (2, .ref (ad 54)), (3, .ref (ad 98)), (4, .ref (ad 99))] [] S') :
    xV (gC D ca ad tF) p l e room_1 s m #[Value.ref b] below meth c A 9 Z (k0 + 0 + (xgc S0 - xgc S)) (n0 + 0 + (xgs S0 - xgs S)) 2117 [(5, .int (iN i)), (0, .ref b), (1, .ref (ad 0)), (2, .ref (ad 54)), (3, .ref (ad 98)), (4, .ref (ad 99))] [] S := by
  have h_i : xR i := ⟨by omega, by omega⟩
  have hf : ∀ z, xR (f z) := fun z => by rw [hff]; exact xR_I _
  unfold w_K29 at h
  refine xi_aload_n C 2 dL_law_2117 rfl rfl ?_
  refine xi_aload C 5 dL_law_2118 rfl ?_
  refine xl_SH C hw ha0 rfl (c_L_newShare l D ca ad tF S _ h hl9) xkh_L_newShare xs_L_newShare xl_L_232 ⟨Nat.le_of_ble_eq_true rfl, Nat.le_of_ble_eq_true rfl⟩ ⟨xrL hk9.1 (Nat.le_of_ble_eq_true rfl), xrL hk9.2 (Nat.le_of_ble_eq_true rfl)⟩ rfl rfl (Nat.le_of_ble_eq_true rfl) dL_law_2120 (fun E9 S9 h9 _ _ => h9.elim) (fun r9 Sc2120 h9 hw1 ha2 => ?_)
  obtain ⟨r2120, rfl, h_r2120, h⟩ := h9
  refine xi_istore C (L' := [(6, .int (iN r2120)), (5, .int (iN i)), (0, .ref b), (1, .ref (ad 0)), (2, .ref (ad 54)), (3, .ref (ad 98)), (4, .ref (ad 99))]) dL_law_2123 (by decide) rfl ?_
  refine xi_aload_n C 4 dL_law_2125 rfl rfl ?_
  refine xc_Vf C hw1 (c_X9_newShare l D ca ad tF Sc2120 _ h) xk_X9_newShare xv_X9_newShare xl_L_234 ⟨Nat.le_of_ble_eq_true rfl, Nat.le_of_ble_eq_true rfl⟩ xK_X9 (q := 54) rfl rfl rfl (Nat.le_of_ble_eq_true rfl) ⟨xrM hk9.1 (Nat.le_of_ble_eq_true rfl), xrM hk9.2 (Nat.le_of_ble_eq_true rfl)⟩ dL_law_2126 (fun r2126 Sc2126 h hw3 => ?_)
  refine xi_fstore C (L' := [(7, .float r2126), (6, .int (iN r2120)), (5, .int (iN i)), (0, .ref b), (1, .ref (ad 0)), (2, .ref (ad 54)), (3, .ref (ad 98)), (4, .ref (ad 99))]) dL_law_2129 (by decide) rfl ?_
  refine xi_aload_n C 5 dL_law_2131 rfl rfl ?_
  obtain ⟨hc4, h⟩ := h
  refine xc_Vi C hw3 (c_X9_thrown l D ca ad tF Sc2126 _ h) xk_X9_thrown xv_X9_thrown xl_L_137 ⟨Nat.le_of_ble_eq_true rfl, Nat.le_of_ble_eq_true rfl⟩ xK_X9 (q := 54) rfl rfl rfl (Nat.le_of_ble_eq_true rfl) ⟨xrM hk9.1 (Nat.le_of_ble_eq_true rfl), xrM hk9.2 (Nat.le_of_ble_eq_true rfl)⟩ dL_law_2132 (fun r2132 Sc2132 h_r2132 h hw5 => ?_)
  refine xi_iload C 1 dL_law_2135 rfl ?_
  refine xi_icmp_eq C 2142 h_r2132 h_r2120 dL_law_2137 (by decide) (fun z6 => ?_) (fun z6 => ?_)
  · replace h := h.1 z6
    refine xi_iload C 1 dL_law_2142 rfl ?_
    refine xi_if_ne C 2180 h_r2120 dL_law_2144 (by decide) (fun z7 => ?_) (fun z7 => ?_)
    · replace h := h.1 z7
      refine xi_goto C 2196 dL_law_2180 (by decide) ?_
      obtain ⟨hc8, h⟩ := h
      exact xV_alY (S1 := Sc2132) hc8 (xV_wid (xrK (Nat.le_of_ble_eq_true rfl)) (xrK (Nat.le_of_ble_eq_true rfl)) (xi_sub [2, 3, 4, 5, 6, 7] rfl (hk Sc2132 h hw5 (ha2.eq hc8))))
    · replace h := h.2 z7
      refine xi_aload C 7 dL_law_2147 rfl ?_
      refine xi_iconst C (v := 0) dL_law_2149 rfl ?_
      refine xi_daload C (q := 99) rfl (by decide) (by decide) dL_law_2150 ?_
      refine xi_fload C 0 dL_law_2151 rfl ?_
      obtain ⟨hc9, h⟩ := h
      refine xi_f2d C dL_law_2153 hc9 ?_
      refine xi_dcmpI C dL_law_2154 ?_
      refine xi_if_eq C 2180 (xR_I _) dL_law_2155 (by decide) (fun z10 => ?_) (fun z10 => ?_)
      · replace h := h.1 z10
        refine xi_goto C 2196 dL_law_2180 (by decide) ?_
        obtain ⟨hc11, h⟩ := h
        exact xV_alY (S1 := Sc2132) hc11 (xV_wid (xrK (Nat.le_of_ble_eq_true rfl)) (xrK (Nat.le_of_ble_eq_true rfl)) (xi_sub [2, 3, 4, 5, 6, 7] rfl (hk Sc2132 h hw5 (ha2.eq hc11))))
      · replace h := h.2 z10
        refine xi_aload C 7 dL_law_2158 rfl ?_
        refine xi_iconst C (v := 0) dL_law_2160 rfl ?_
        refine xi_daload C (q := 99) rfl (by decide) (by decide) dL_law_2161 ?_
        refine xi_aload C 7 dL_law_2162 rfl ?_
        refine xi_iconst C (v := 0) dL_law_2164 rfl ?_
        refine xi_daload C (q := 99) rfl (by decide) (by decide) dL_law_2165 ?_
        refine xi_dcmpI C dL_law_2166 ?_
        refine xi_if_eq C 2178 (xR_I _) dL_law_2167 (by decide) (fun z12 => ?_) (fun z12 => ?_)
        · replace h := h.1 z12
          refine xi_iconst C (v := 0) dL_law_2178 rfl ?_
          exact h.elim
        · replace h := h.2 z12
          refine xi_fload C 0 dL_law_2170 rfl ?_
          refine xi_fload C 0 dL_law_2172 rfl ?_
          refine xi_fcmpI C dL_law_2174 ?_
          refine xi_if_ne C 2180 (xR_I _) dL_law_2175 (by decide) (fun z13 => ?_) (fun z13 => ?_)
          · replace h := h.1 z13
            refine xi_goto C 2196 dL_law_2180 (by decide) ?_
            obtain ⟨hc14, h⟩ := h
            exact xV_alY (S1 := Sc2132) hc14 (xV_wid (xrK (Nat.le_of_ble_eq_true rfl)) (xrK (Nat.le_of_ble_eq_true rfl)) (xi_sub [2, 3, 4, 5, 6, 7] rfl (hk Sc2132 h hw5 (ha2.eq hc14))))
          · replace h := h.2 z13
            refine xi_iconst C (v := 0) dL_law_2178 rfl ?_
            exact h.elim
  · replace h := h.2 z6
    refine xi_iconst C (v := 0) dL_law_2140 rfl ?_
    exact h.elim
set_option maxRecDepth 100000 in
set_option maxHeartbeats 4000000 in
theorem c_K30 {l : Launch} (hl9 : l.stackTraces = false) {D : va_G} {ca : Nat → ClassId} {ad : Nat → Nat} {tF : Nat} {p : Program} {e : Env} {s : State} {m : MethodId} {below : List Frame} {meth : Method} {c : Code} {A : Nat → Prop} {Z : State → Prop} {b L k0 n0 : Nat} {xs : Nat → Int32} {f : Int → Int} {i : Int} {S S0 : xS} {Q : xS → Prop}
    (C : xC (gC D ca ad tF) p c cL_law 9 s #[Value.ref b] RL m A) (hX : va_X b L xs s s.heap) (hbl : b < s.heap.size) (hbA : ¬ A b) (hL : L ≤ 3584) (hff : f = xsI xs) (h0 : 0 ≤ i ∧ i + 6 < (L : Int)) (hk9 : k0 + 5 + xgc S0 ≤ 603072 ∧ n0 + 30 + xgs S0 ≤ 7198826) (ha0 : xAl S0 S) (hw : xval (gC D ca ad tF) S) (h : w_K30 f i S Q)
    (hk : ∀ S' : xS, Q S' → xval (gC D ca ad tF) S' → xAl S0 S' → xV (gC D ca ad tF) p l e room_1 s m #[Value.ref b] below meth c A 9 Z (k0 + 5 + (xgc S0 - xgc S')) (n0 + 30 + (xgs S0 - xgs S')) 2196 [(5, .int (iN i)), (0, .ref b), (1, .ref (ad 0)), (2, .ref (ad 54)), (3, .ref (ad 98)), (4, .ref (ad 99))] [] S') :
    xV (gC D ca ad tF) p l e room_1 s m #[Value.ref b] below meth c A 9 Z (k0 + 0 + (xgc S0 - xgc S)) (n0 + 0 + (xgs S0 - xgs S)) 2183 [(5, .int (iN i)), (0, .ref b), (1, .ref (ad 0)), (2, .ref (ad 54)), (3, .ref (ad 98)), (4, .ref (ad 99))] [] S := by
  have h_i : xR i := ⟨by omega, by omega⟩
  have hf : ∀ z, xR (f z) := fun z => by rw [hff]; exact xR_I _
  unfold w_K30 at h
  refine xi_aload_n C 2 dL_law_2183 rfl rfl ?_
  refine xc_Vi C hw (c_X8_isSound l D ca ad tF S _ h) xk_X8_isSound xv_X8_isSound xl_L_235 ⟨Nat.le_of_ble_eq_true rfl, Nat.le_of_ble_eq_true rfl⟩ xK_X8 (q := 0) rfl rfl rfl (Nat.le_of_ble_eq_true rfl) ⟨xrM hk9.1 (Nat.le_of_ble_eq_true rfl), xrM hk9.2 (Nat.le_of_ble_eq_true rfl)⟩ dL_law_2184 (fun r2184 Sc2184 h_r2184 h hw1 => ?_)
  refine xi_aload_n C 3 dL_law_2187 rfl rfl ?_
  obtain ⟨hc2, h⟩ := h
  refine xc_Vi C hw1 (c_X9_isSound l D ca ad tF Sc2184 _ h) xk_X9_isSound xv_X9_isSound xl_L_238 ⟨Nat.le_of_ble_eq_true rfl, Nat.le_of_ble_eq_true rfl⟩ xK_X9 (q := 54) rfl rfl rfl (Nat.le_of_ble_eq_true rfl) ⟨xrM hk9.1 (Nat.le_of_ble_eq_true rfl), xrM hk9.2 (Nat.le_of_ble_eq_true rfl)⟩ dL_law_2188 (fun r2188 Sc2188 h_r2188 h hw3 => ?_)
  refine xi_icmp_eq C 2196 h_r2184 h_r2188 dL_law_2191 (by decide) (fun z4 => ?_) (fun z4 => ?_)
  · replace h := h.1 z4
    obtain ⟨hc5, h⟩ := h
    exact xV_alY (S1 := Sc2188) hc5 (xV_wid (xrK (Nat.le_of_ble_eq_true rfl)) (xrK (Nat.le_of_ble_eq_true rfl)) (xi_sub [0, 1, 2, 3, 4, 5] rfl (hk Sc2188 h hw3 (ha0.eq hc5))))
  · replace h := h.2 z4
    refine xi_iconst C (v := 0) dL_law_2194 rfl ?_
    exact h.elim

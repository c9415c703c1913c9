/-! pure layer: the cases of the law that lay a program -/
theorem kfin {S1 S2 : xS} {r b : Int} {Q : xS → Prop} (e : S2 33 (-1) = S1 33 (-1)) (ht : S2 54 0 = r) (hb : r = 0 → S2 98 0 = b) (hq : Q S2) : (S2 33 (-1) = S1 33 (-1)) ∧ w_X9_thrown S2 (fun r3 S3 => ((r3 = r → ((¬ r = 0 → (S3 33 (-1) = S1 33 (-1)) ∧ Q S3) ∧ (r = 0 → (((S3 98 0) = b → (S3 33 (-1) = S1 33 (-1)) ∧ Q S3) ∧ (¬ (S3 98 0) = b → False))))) ∧ (¬ r3 = r → False))) :=
  ⟨e, ⟨fun _ => ⟨fun _ => ⟨e, hq⟩, fun z => ⟨fun _ => ⟨e, hq⟩, fun y => y (hb z)⟩⟩, fun z => z ht⟩⟩
theorem kfinZ {S1 S2 : xS} {r b : Int} {Q : xS → Prop} {j : xS → Int → xS → Prop} (hj : j = fun Sc t0 S594 => (((Sc 98 0) = t0 → Q S594) ∧ (¬ (Sc 98 0) = t0 → False))) (e : S2 33 (-1) = S1 33 (-1)) (ht : S2 54 0 = r) (hb : r = 0 → (b = 0 ∧ S2 98 0 = 0) ∨ (¬ b = 0 ∧ S2 98 0 = 1)) (hq : Q S2) : (S2 33 (-1) = S1 33 (-1)) ∧ w_X9_thrown S2 (fun r3 S3 => ((r3 = r → ((¬ r = 0 → (S3 33 (-1) = S1 33 (-1)) ∧ Q S3) ∧ (r = 0 → xJ1 (j S3) (fun j594 => ((b = 0 → (S3 33 (-1) = S1 33 (-1)) ∧ j594 0 S3) ∧ (¬ b = 0 → (S3 33 (-1) = S1 33 (-1)) ∧ j594 1 S3)))))) ∧ (¬ r3 = r → False))) := by
  subst hj
  refine ⟨e, ⟨fun _ => ⟨fun _ => ⟨e, hq⟩, fun z => ⟨fun y => ⟨e, fun _ => hq, fun w => ?_⟩, fun y => ⟨e, fun _ => hq, fun w => ?_⟩⟩⟩, fun z => z ht⟩⟩
  · rcases hb z with h | h
    · exact w h.2
    · exact h.1 y
  · rcases hb z with h | h
    · exact y h.1
    · exact w h.2
theorem pw_WF.chg {S S' : xS} (h : pw_WF S) (e1 : 0 ≤ S' 54 1 ∧ S' 54 1 ≤ 3) (e2 : S' 54 2 = S 54 2) (e3 : S' 54 3 = S 54 3) (e : ∀ q : Nat, 55 ≤ q → q ≤ 66 → S' q = S q) : pw_WF S' := by
  unfold pw_WF pw_ok at *
  rw [e2, e3, e 55 (by omega) (by omega), e 56 (by omega) (by omega), e 57 (by omega) (by omega), e 58 (by omega) (by omega), e 59 (by omega) (by omega), e 60 (by omega) (by omega), e 61 (by omega) (by omega), e 62 (by omega) (by omega), e 63 (by omega) (by omega), e 64 (by omega) (by omega), e 65 (by omega) (by omega), e 66 (by omega) (by omega)]
  exact ⟨e1, h.2⟩
/-- what the calls that lay a program may write -/
abbrev pw_L0 : List (Nat × Int) := [(1, -9), (2, 9), (10, -9), (11, -9), (12, -9), (13, -9), (14, -9), (15, -9), (16, -9), (17, -9), (18, -9), (19, -9), (20, -9), (54, 0), (54, 1), (54, 2), (54, 3), (54, 13), (55, -9), (56, -9), (57, -9), (58, -9), (59, -9), (60, -9), (61, -9), (62, -9), (63, -9), (64, -9), (65, -9), (66, -9), (98, -9)]
/-- a call that laid something: the program holds on both sides, no search is on -/
def pw_D (S S2 : xS) : Prop := kp pw_L0 S S2 ∧ pw_WF S2 ∧ pw_C S2 S2 ∧ S2 2 9 = 0 ∧ S2 54 13 = 0
/-- a call that changed nothing but what it tells -/
def pw_T (S S2 : xS) : Prop := kp [(54, 0), (98, -9)] S S2
section PWK
variable {S : xS} {Q : xS → Prop} {f : Int → Int} {i : Int}
theorem k_0 (hW : pw_WF S) (hC : pw_C S S) (hD : ∀ S2, pw_D S S2 → Q S2) (hT : ∀ S2, pw_T S S2 → Q S2) : w_K0 f i S Q := by
  have c0 := hC.1
  have w0 := hW.1
  refine ⟨fun z => ⟨⟨by show -2147483648 ≤ S 1 0 + 1; omega, by show S 1 0 + 1 < 2147483648; omega⟩, ⟨by show -2147483648 ≤ S 1 0 + 1 - 1; omega, by show S 1 0 + 1 - 1 < 2147483648; omega⟩, rfl, ?_⟩, fun z => ⟨rfl, ?_⟩⟩
  · refine ⟨fun y => ⟨⟨by show -2147483648 ≤ S 54 1 + 1; omega, by show S 54 1 + 1 < 2147483648; omega⟩, ⟨by show -2147483648 ≤ S 54 1 + 1 - 1; omega, by show S 54 1 + 1 - 1 < 2147483648; omega⟩, kfin rfl rfl (fun _ => ?_) (hD _ ⟨?_, ?_, ?_, rfl, rfl⟩)⟩, fun y => ?_⟩
    · show S 1 0 + 1 - 1 = S 54 1 + 1 - 1
      omega
    · exact ((((((kp.rf.up rfl).up rfl).up rfl).up rfl).up rfl).up rfl)
    · refine hW.chg ?_ rfl rfl (fun q h1 h2 => ?_)
      · show 0 ≤ S 54 1 + 1 ∧ S 54 1 + 1 ≤ 3
        omega
      · rw [xup_cell (by omega), xup_cell (by omega), xup_cell (by omega), xup_cell (by omega), xup_cell (by omega), xup_cell (by omega)]
    · refine ⟨?_, hC.2⟩
      show S 1 0 + 1 = S 54 1 + 1
      omega
    · exfalso
      have y' : S 54 1 = 3 := y
      omega
  · refine ⟨fun y => ?_, fun y => kfin rfl rfl (fun z => by omega) (hT _ (kp.rf.up rfl))⟩
    exfalso
    have y' : ¬ S 54 1 = 3 := y
    omega
theorem k_2 (hW : pw_WF S) (hC : pw_C S S) (hD : ∀ S2, pw_D S S2 → Q S2) (hT : ∀ S2, pw_T S S2 → Q S2) : w_K2 f i S Q := by
  have c0 := hC.2.1
  have w0 := hW.2.1
  have hbad : ¬ (0 ≤ f (i + 1) ∧ f (i + 1) ≤ 2) → ∀ {S1 : xS}, S1 = S → w_X9_addChannel (f (i + 1)) S1 (fun r368 Sc368 => (Sc368 33 (-1) = S1 33 (-1)) ∧ w_X9_thrown Sc368 (fun r374 Sc374 => ((r374 = 1 → ((¬ (1 : Int) = 0 → (Sc374 33 (-1) = S1 33 (-1)) ∧ Q Sc374) ∧ ((1 : Int) = 0 → (((Sc374 98 0) = r368 → (Sc374 33 (-1) = S1 33 (-1)) ∧ Q Sc374) ∧ (¬ (Sc374 98 0) = r368 → False))))) ∧ (¬ r374 = 1 → False)))) := by
    intro hb S1 e
    subst e
    refine s9_in (fun z z' => absurd ⟨z, z'⟩ hb) (fun z => ⟨fun y => absurd rfl y, fun _ => ?_⟩)
    exact kfin rfl rfl (fun z => by omega) (hT _ (kp.rf.up rfl))
  refine ⟨fun z => Or.inl ⟨rfl, hbad (by omega) rfl⟩, fun z1 => ⟨fun z2 => ⟨fun z3 => ⟨⟨by show 0 ≤ S 1 7; omega, by show S 1 7 < 2; omega⟩, ⟨by show -2147483648 ≤ S 1 7 + 1; omega, by show S 1 7 + 1 < 2147483648; omega⟩, ⟨by show -2147483648 ≤ S 1 7 + 1 - 1; omega, by show S 1 7 + 1 - 1 < 2147483648; omega⟩, rfl, ?_⟩, fun z3 => Or.inr ⟨rfl, ?_⟩⟩, fun z2 => Or.inl ⟨rfl, hbad (by omega) rfl⟩⟩⟩
  · refine s9_in (fun z z' => ⟨fun _ => ⟨fun y => ⟨⟨by show 0 ≤ S 54 2; omega, by show S 54 2 < 2; omega⟩, ⟨by show -2147483648 ≤ S 54 2 + 1; omega, by show S 54 2 + 1 < 2147483648; omega⟩, ⟨by show -2147483648 ≤ S 54 2 + 1 - 1; omega, by show S 54 2 + 1 - 1 < 2147483648; omega⟩, kfin rfl rfl (fun _ => ?_) (hD _ ⟨?_, ?_, ?_, rfl, rfl⟩)⟩, fun y => ?_⟩, fun y => by omega⟩) (fun z => by omega)
    · show S 1 7 + 1 - 1 = S 54 2 + 1 - 1
      omega
    · exact (((((((kp.rf.up rfl).up rfl).up rfl).up rfl).up rfl).up rfl).up rfl).up rfl
    · obtain ⟨h1, h2, h3, h4, h5, h6, h7⟩ := hW
      refine ⟨h1, ?_, h3, h4, fun p s a1 a2 a3 a4 => ?_, fun k a1 a2 => ?_, h7⟩
      · show 0 ≤ S 54 2 + 1 ∧ S 54 2 + 1 ≤ 2
        omega
      · have h := h5 p s a1 a2 a3 a4
        refine ⟨h.1, h.2.1, ?_⟩
        have h' := h.2.2
        show pw_fit (S 54 2 + 1) p (S 58 (14 * p + s)) (S 59 (14 * p + s)) (S 60 (14 * p + s))
        unfold pw_fit at *
        rcases h' with w | w | w
        · exact Or.inl w
        · exact Or.inr (Or.inl w)
        · exact Or.inr (Or.inr ⟨w.1, by omega, w.2.2⟩)
      · have h := h6 k a1 a2
        simp [xup_at]
        split
        · omega
        · exact h
    · obtain ⟨h1, h2, h3, h4, h5, h6, h7⟩ := hC
      refine ⟨h1, ?_, h3, h4, h5, fun k a1 a2 => ?_, h7⟩
      · show S 1 7 + 1 = S 54 2 + 1
        omega
      · have h := h6 k a1 a2
        simp [xup_at, h2]
        split
        · rfl
        · exact h
    · exfalso
      have y' : S 54 2 = 2 := y
      omega
  · refine s9_in (fun z z' => ⟨fun _ => ⟨fun y => ?_, fun y => ?_⟩, fun y => by omega⟩) (fun z => by omega)
    · exfalso
      have y' : ¬ S 54 2 = 2 := y
      omega
    · exact kfin rfl rfl (fun z => by omega) (hT _ (kp.rf.up rfl))
theorem s8_needProcess {S : xS} {Q : xS → Prop} {X : String → xS → Prop} {p : Int} (h1 : 0 ≤ p → p < S 1 0 → Q S) (h0 : ¬ (0 ≤ p ∧ p < S 1 0) → X "java/lang/IndexOutOfBoundsException" S) : w_X8_needProcess p S Q X :=
  ⟨fun z => h0 (by omega), fun z => ⟨fun y => h1 (by omega) y, fun y => h0 (by omega)⟩⟩
theorem s8_needLocation {S : xS} {Q : xS → Prop} {X : String → xS → Prop} {p : Int} (h1 : 0 ≤ p → p < 12 → Q S) (h0 : ¬ (0 ≤ p ∧ p < 12) → X "java/lang/IllegalArgumentException" S) : w_X8_needLocation p S Q X :=
  ⟨fun z => h0 (by omega), fun z => ⟨fun y => h1 (by omega) y, fun y => h0 (by omega)⟩⟩
theorem s8_needVariable {S : xS} {Q : xS → Prop} {X : String → xS → Prop} {p : Int} (h1 : 0 ≤ p → p < 9 → Q S) (h0 : ¬ (0 ≤ p ∧ p < 9) → X "java/lang/IllegalArgumentException" S) : w_X8_needVariable p S Q X :=
  ⟨fun z => h0 (by omega), fun z => ⟨fun y => h1 (by omega) y, fun y => h0 (by omega)⟩⟩
theorem s8_needNumber {S : xS} {Q : xS → Prop} {X : String → xS → Prop} {p : Int} (h1 : 0 ≤ p → p < 4 → Q S) (h0 : ¬ (0 ≤ p ∧ p < 4) → X "java/lang/IllegalArgumentException" S) : w_X8_needNumber p S Q X :=
  s4_isNumber (fun z z' => ⟨fun _ => ⟨rfl, h1 z z'⟩, fun y => by omega⟩) (fun z => ⟨fun y => absurd rfl y, fun _ => ⟨rfl, h0 z⟩⟩)
theorem k_3 (hW : pw_WF S) (hC : pw_C S S) (hD : ∀ S2, pw_D S S2 → Q S2) (hT : ∀ S2, pw_T S S2 → Q S2) : w_K3 f i S Q := by
  have bad : ¬ ((0 ≤ f (i + 1) ∧ f (i + 1) ≤ 8) ∧ 0 ≤ f (i + 2) ∧ f (i + 2) ≤ 3) → w_X9_setStart (f (i + 1)) (f (i + 2)) S (fun r436 Sc436 => (Sc436 33 (-1) = S 33 (-1)) ∧ w_X9_thrown Sc436 (fun r442 Sc442 => ((r442 = 1 → ((¬ (1 : Int) = 0 → (Sc442 33 (-1) = S 33 (-1)) ∧ Q Sc442) ∧ ((1 : Int) = 0 → (((Sc442 98 0) = r436 → (Sc442 33 (-1) = S 33 (-1)) ∧ Q Sc442) ∧ (¬ (Sc442 98 0) = r436 → False))))) ∧ (¬ r442 = 1 → False)))) := by
    intro hb
    refine s9_in (fun z z' => ⟨fun y => by omega, fun _ => s9_in (fun y y' => by omega) (fun y => ⟨fun w => absurd rfl w, fun _ => kfin rfl rfl (fun z => by omega) (hT _ (kp.rf.up rfl))⟩)⟩) (fun z => ⟨fun _ => kfin rfl rfl (fun z => by omega) (hT _ (kp.rf.up rfl)), fun w => absurd rfl w⟩)
  unfold w_K3 w_L_setStart w_X8_setStart
  refine s8_needVariable (fun z1 z2 => s8_needNumber (fun z3 z4 => ⟨⟨z1, z2⟩, rfl, ?_⟩) (fun z => ⟨rfl, bad (by omega)⟩)) (fun z => ⟨rfl, bad (by omega)⟩)
  refine s9_in (fun y1 y2 => ⟨fun y => by omega, fun _ => s9_in (fun y3 y4 => ⟨fun _ => ⟨⟨z1, z2⟩, kfin rfl rfl (fun _ => ?_) (hD _ ⟨?_, ?_, ?_, rfl, rfl⟩)⟩, fun y => by omega⟩) (fun y => by omega)⟩) (fun y => by omega)
  · have h := hC.2.2.2.2.2.2.1 (f (i + 1)) z1 z2
    exact h
  · exact ((((((kp.rf.up rfl).up rfl).up rfl).up rfl).up rfl).up rfl)
  · obtain ⟨h1, h2, h3, h4, h5, h6, h7, h8⟩ := hW
    refine ⟨h1, h2, h3, h4, h5, h6, fun v a1 a2 => ?_, h8⟩
    have h := h7 v a1 a2
    simp [xup_at]
    split
    · omega
    · exact h
  · obtain ⟨h1, h2, h3, h4, h5, h6, h7, h8⟩ := hC
    refine ⟨h1, h2, h3, h4, h5, h6, fun v a1 a2 => ?_, h8⟩
    have h := h7 v a1 a2
    simp [xup_at]
    split
    · rfl
    · exact h
theorem k_5 (hW : pw_WF S) (hC : pw_C S S) (hD : ∀ S2, pw_D S S2 → Q S2) (hT : ∀ S2, pw_T S S2 → Q S2) : w_K5 f i S Q := by
  have c0 := hC.2.2.1
  have w0 := hW.2.2.1
  have bad : ¬ ((0 ≤ f (i + 1) ∧ f (i + 1) ≤ 8) ∧ 0 ≤ f (i + 2) ∧ f (i + 2) ≤ 3) → w_X9_addInvariant (f (i + 1)) (f (i + 2)) S (fun r436 Sc436 => (Sc436 33 (-1) = S 33 (-1)) ∧ w_X9_thrown Sc436 (fun r442 Sc442 => ((r442 = 1 → ((¬ (1 : Int) = 0 → (Sc442 33 (-1) = S 33 (-1)) ∧ Q Sc442) ∧ ((1 : Int) = 0 → (((Sc442 98 0) = r436 → (Sc442 33 (-1) = S 33 (-1)) ∧ Q Sc442) ∧ (¬ (Sc442 98 0) = r436 → False))))) ∧ (¬ r442 = 1 → False)))) := by
    intro hb
    refine s9_in (fun z z' => ⟨fun y => by omega, fun _ => s9_in (fun y y' => by omega) (fun y => ⟨fun w => absurd rfl w, fun _ => kfin rfl rfl (fun z => by omega) (hT _ (kp.rf.up rfl))⟩)⟩) (fun z => ⟨fun _ => kfin rfl rfl (fun z => by omega) (hT _ (kp.rf.up rfl)), fun w => absurd rfl w⟩)
  unfold w_K5 w_L_addInvariant w_X8_addInvariant
  refine s8_needVariable (fun z1 z2 => s8_needNumber (fun z3 z4 => ⟨fun z5 => ⟨⟨by show 0 ≤ S 1 11; omega, by show S 1 11 < 4; omega⟩, ⟨by show -2147483648 ≤ S 1 11 + 1; omega, by show S 1 11 + 1 < 2147483648; omega⟩, rfl, ?_⟩, fun z5 => Or.inr ⟨rfl, ?_⟩⟩) (fun z => Or.inl ⟨rfl, bad (by omega)⟩)) (fun z => Or.inl ⟨rfl, bad (by omega)⟩)
  · refine s9_in (fun y1 y2 => ⟨fun y => by omega, fun _ => s9_in (fun y3 y4 => ⟨fun _ => ⟨fun y5 => ⟨⟨by show 0 ≤ S 54 3; omega, by show S 54 3 < 4; omega⟩, ⟨by show -2147483648 ≤ S 54 3 + 1; omega, by show S 54 3 + 1 < 2147483648; omega⟩, kfin rfl rfl (fun _ => ?_) (hD _ ⟨?_, ?_, ?_, rfl, rfl⟩)⟩, fun y5 => ?_⟩, fun y => by omega⟩) (fun y => by omega)⟩) (fun y => by omega)
    · show S 1 11 + 1 = S 54 3 + 1
      omega
    · exact (((((((((kp.rf.up rfl).up rfl).up rfl).up rfl).up rfl).up rfl).up rfl).up rfl).up rfl).up rfl
    · obtain ⟨h1, h2, h3, h4, h5, h6, h7, h8, h9⟩ := hW
      refine ⟨h1, h2, ?_, h4, h5, h6, h7, fun k a1 a2 => ?_, h9⟩
      · show 0 ≤ S 54 3 + 1 ∧ S 54 3 + 1 ≤ 4
        omega
      · have a3 : k < S 54 3 + 1 := a2
        have h := h8 k a1
        simp [xup_at]
        by_cases hk : k = S 54 3
        · simp [hk]; omega
        · simp [hk]; exact h (by omega)
    · obtain ⟨h1, h2, h3, h4, h5, h6, h7, h8, h9⟩ := hC
      refine ⟨h1, h2, ?_, h4, h5, h6, h7, h8, fun k a1 a2 => ?_⟩
      · show S 1 11 + 1 = S 54 3 + 1
        omega
      · have a3 : k < S 54 3 + 1 := a2
        have h := h9 k a1
        simp [xup_at, h3]
        by_cases hk : k = S 54 3
        · simp [hk]
        · simp [hk]; exact h (by omega)
    · exfalso
      have y' : S 54 3 = 4 := y5
      omega
  · refine s9_in (fun y1 y2 => ⟨fun y => by omega, fun _ => s9_in (fun y3 y4 => ⟨fun _ => ⟨fun y5 => ?_, fun y5 => kfin rfl rfl (fun z => by omega) (hT _ (kp.rf.up rfl))⟩, fun y => by omega⟩) (fun y => by omega)⟩) (fun y => by omega)
    exfalso
    have y' : ¬ S 54 3 = 4 := y5
    omega
theorem k_6 (hW : pw_WF S) (hC : pw_C S S) (hT : ∀ S2, pw_T S S2 → Q S2) : w_K6 f i S Q := by
  have c0 := hC.1
  have w0 := hW.1
  have good : ∀ r : Int, (0 ≤ f (i + 1) ∧ f (i + 1) < S 54 1) → (0 ≤ f (i + 2) ∧ f (i + 2) < S 54 1) → ((pw_like S (f (i + 1)) (f (i + 2)) ∧ r = 1) ∨ (¬ pw_like S (f (i + 1)) (f (i + 2)) ∧ r = 0)) → w_X9_areAlike (f (i + 1)) (f (i + 2)) (xup S 98 0 r) (fun r703 Sc703 => (Sc703 33 (-1) = (xup S 98 0 r) 33 (-1)) ∧ w_X9_thrown Sc703 (fun r709 Sc709 => ((r709 = 0 → ((¬ (0 : Int) = 0 → (Sc709 33 (-1) = (xup S 98 0 r) 33 (-1)) ∧ Q Sc709) ∧ ((0 : Int) = 0 → xJ1 (w_K6_J737 Q Sc709) (fun j737 => ((r703 = 0 → (Sc709 33 (-1) = (xup S 98 0 r) 33 (-1)) ∧ j737 0 Sc709) ∧ (¬ r703 = 0 → (Sc709 33 (-1) = (xup S 98 0 r) 33 (-1)) ∧ j737 1 Sc709)))))) ∧ (¬ r709 = 0 → False)))) := by
    intro r g1 g2 hr
    have hR : pw_R S (xup (xup S 98 0 r) 54 0 0) := pw_R.rf.kp ((kp.rf (L := [(98, -9), (54, 0)]).up rfl).up rfl) rfl
    refine s9_isProcess w0 (fun y1 y2 => ⟨fun y => by omega, fun _ => s9_isProcess w0 (fun y3 y4 => ⟨fun y => by omega, fun _ => ⟨fun y => absurd rfl y, fun _ => ?_⟩⟩) (fun y => absurd g2 y)⟩) (fun y => absurd g1 y)
    refine s9_areLike (hW.R hR) ⟨g1.1, by omega⟩ ⟨g2.1, by omega⟩ (fun h => ⟨fun y => by omega, fun _ => ?_⟩) (fun h => ⟨fun _ => ?_, fun y => absurd rfl y⟩)
    · rw [pw_like.R hR] at h
      refine kfinZ (j := w_K6_J737 Q) rfl rfl rfl (fun _ => Or.inr ⟨by omega, ?_⟩) (hT _ ((kp.rf.up rfl).up rfl))
      rcases hr with hr | hr
      · exact hr.2
      · exact absurd h hr.1
    · rw [pw_like.R hR] at h
      refine kfinZ (j := w_K6_J737 Q) rfl rfl rfl (fun _ => Or.inl ⟨rfl, ?_⟩) (hT _ ((kp.rf.up rfl).up rfl))
      rcases hr with hr | hr
      · exact absurd hr.1 h
      · exact hr.2
  have bad : ¬ ((0 ≤ f (i + 1) ∧ f (i + 1) < S 54 1) ∧ 0 ≤ f (i + 2) ∧ f (i + 2) < S 54 1) → w_X9_areAlike (f (i + 1)) (f (i + 2)) S (fun r703 Sc703 => (Sc703 33 (-1) = S 33 (-1)) ∧ w_X9_thrown Sc703 (fun r709 Sc709 => ((r709 = 1 → ((¬ (1 : Int) = 0 → (Sc709 33 (-1) = S 33 (-1)) ∧ Q Sc709) ∧ ((1 : Int) = 0 → xJ1 (w_K6_J737 Q Sc709) (fun j737 => ((r703 = 0 → (Sc709 33 (-1) = S 33 (-1)) ∧ j737 0 Sc709) ∧ (¬ r703 = 0 → (Sc709 33 (-1) = S 33 (-1)) ∧ j737 1 Sc709)))))) ∧ (¬ r709 = 1 → False)))) := by
    intro hb
    have fin := kfinZ (S1 := S) (S2 := xup S 54 0 1) (r := 1) (b := 0) (Q := Q) (j := w_K6_J737 Q) rfl rfl rfl (fun z => by omega) (hT _ (kp.rf.up rfl))
    refine s9_isProcess w0 (fun y1 y2 => ⟨fun y => by omega, fun _ => s9_isProcess w0 (fun y3 y4 => by omega) (fun y => ⟨fun _ => ⟨fun _ => fin, fun y => by omega⟩, fun y => absurd rfl y⟩)⟩) (fun y => ⟨fun _ => ⟨fun _ => fin, fun y => by omega⟩, fun y => absurd rfl y⟩)
  unfold w_K6 w_L_areAlike w_X8_areAlike
  refine s8_needProcess (fun z1 z2 => s8_needProcess (fun z3 z4 => s4_hasAlike hW hC ⟨z1, by omega⟩ ⟨z3, by omega⟩ (fun h => ⟨rfl, Or.inr rfl, fun y => by omega, fun _ => good 1 (by omega) (by omega) (Or.inl ⟨h, rfl⟩)⟩) (fun h => ⟨rfl, Or.inl rfl, fun _ => good 0 (by omega) (by omega) (Or.inr ⟨h, rfl⟩), fun y => absurd rfl y⟩)) (fun z => ⟨rfl, bad (by omega)⟩)) (fun z => ⟨rfl, bad (by omega)⟩)
theorem k_4a (hW : pw_WF S) (hC : pw_C S S) (hD : ∀ S2, pw_D S S2 → Q S2) (hT : ∀ S2, pw_T S S2 → Q S2) {a b c d m : Int} (hc : c = 0 ∨ c = 1) (hd : d = 0 ∨ d = 1) (hm : xor32 (if c = 0 then 0 else 1) (if d = 0 then 0 else 2) = m ∧ m = c + 2 * d) {K : Int → xS → Prop}
    (hK : ∀ (r : Int) (Sc : xS), w_X9_setMarks a b c d Sc (fun r560 Sc560 => (Sc560 33 (-1) = Sc 33 (-1)) ∧ w_X9_thrown Sc560 (fun r566 Sc566 => ((r566 = r → ((¬ r = 0 → (Sc566 33 (-1) = Sc 33 (-1)) ∧ Q Sc566) ∧ (r = 0 → xJ1 (w_K4_J594 Q Sc566) (fun j594 => ((r560 = 0 → (Sc566 33 (-1) = Sc 33 (-1)) ∧ j594 0 Sc566) ∧ (¬ r560 = 0 → (Sc566 33 (-1) = Sc 33 (-1)) ∧ j594 1 Sc566)))))) ∧ (¬ r566 = r → False)))) → K r Sc) : w_L_setMarks a b c d S K := by
  have c0 := hC.1
  have w0 := hW.1
  have mk : ∀ x : Int, 0 ≤ x → x < 36 → ((S 18 x = m ∧ S 65 x = c ∧ S 66 x = d) ∨ (¬ S 18 x = m ∧ ¬ (S 65 x = c ∧ S 66 x = d))) := by
    intro x h1 h2
    have u := hC.2.2.2.2.2.2.2.1 x h1 h2
    have w := hW.2.2.2.2.2.2.2.2 x h1 h2
    omega
  have fin : ∀ (p : Bool) (r : Int), (0 ≤ a ∧ a < S 54 1) → (0 ≤ b ∧ b < 12) → ((p = true ∧ r = 0 ∧ S 18 (a * 12 + b) = m) ∨ (p = false ∧ r = 1 ∧ ¬ S 18 (a * 12 + b) = m)) → K 0 (xup (xup (xup S 2 9 0) 18 (a * 12 + b) m) 98 0 r) := by
    intro p r h1 h2 h3
    apply hK
    have mk' := mk (a * 12 + b) (by omega) (by omega)
    refine s9_isProcess w0 (fun y1 y2 => ⟨fun _ => s9_in (fun y3 y4 => ⟨fun _ => ⟨fun _ => ⟨⟨by omega, by omega⟩, ?_⟩, fun y => by omega⟩, fun y => by omega⟩) (fun y => by omega), fun y => by omega⟩) (fun y => absurd h1 y)
    have hD' : Q (xup (xup (xup (xup (xup (xup (xup S 2 9 0) 18 (a * 12 + b) m) 98 0 r) 54 0 0) 54 0 0) 54 13 0) 65 (12 * a + b) c) → True := fun _ => trivial
    have key : ∀ t : Int, ((r = 0 ∧ t = 0) ∨ (r = 1 ∧ t = 1)) → w_X9_setMarks_J80 a b c d (fun r560 Sc560 => (Sc560 33 (-1) = S 33 (-1)) ∧ w_X9_thrown Sc560 (fun r566 Sc566 => ((r566 = 0 → ((¬ (0 : Int) = 0 → (Sc566 33 (-1) = S 33 (-1)) ∧ Q Sc566) ∧ ((0 : Int) = 0 → xJ1 (w_K4_J594 Q Sc566) (fun j594 => ((r560 = 0 → (Sc566 33 (-1) = S 33 (-1)) ∧ j594 0 Sc566) ∧ (¬ r560 = 0 → (Sc566 33 (-1) = S 33 (-1)) ∧ j594 1 Sc566)))))) ∧ (¬ r566 = 0 → False)))) t (xup (xup (xup (xup (xup (xup S 2 9 0) 18 (a * 12 + b) m) 98 0 r) 54 0 0) 54 0 0) 54 13 0) := by
      intro t ht
      refine ⟨hc, hd, by omega, kfinZ (S1 := S) (j := w_K4_J594 Q) rfl rfl rfl (fun _ => ?_) (hD _ ⟨?_, ?_, ?_, rfl, rfl⟩)⟩
      · show t = 0 ∧ r = 0 ∨ ¬ t = 0 ∧ r = 1
        omega
      · exact (((((((kp.rf.up rfl).up rfl).up rfl).up rfl).up rfl).up rfl).up rfl).up rfl
      · obtain ⟨g1, g2, g3, g4, g5, g6, g7, g8, g9⟩ := hW
        refine ⟨g1, g2, g3, g4, g5, g6, g7, g8, fun x a1 a2 => ?_⟩
        have h := g9 x a1 a2
        simp [xup_at]
        split <;> omega
      · obtain ⟨g1, g2, g3, g4, g5, g6, g7, g8, g9⟩ := hC
        refine ⟨g1, g2, g3, g4, g5, g6, g7, fun x a1 a2 => ?_, g9⟩
        have h := g8 x a1 a2
        simp [xup_at]
        by_cases hx : x = 12 * a + b
        · simp [hx, show 12 * a + b = a * 12 + b by omega]; omega
        · simp [hx, show ¬ x = a * 12 + b by omega]; omega
    have e65 : S 65 (12 * a + b) = S 65 (a * 12 + b) := by rw [show 12 * a + b = a * 12 + b by omega]
    have e66 : S 66 (12 * a + b) = S 66 (a * 12 + b) := by rw [show 12 * a + b = a * 12 + b by omega]
    refine ⟨fun y => key 1 ?_, fun y => ⟨fun y' => key 0 ?_, fun y' => key 1 ?_⟩⟩
    · have y2 : ¬ S 65 (12 * a + b) = c := y
      omega
    · have y2 : S 65 (12 * a + b) = c := y
      have y3 : S 66 (12 * a + b) = d := y'
      omega
    · have y2 : S 65 (12 * a + b) = c := y
      have y3 : ¬ S 66 (12 * a + b) = d := y'
      omega
  have badA : ¬ (0 ≤ a ∧ a < S 54 1) → K 1 S := by
    intro hb
    apply hK
    refine s9_isProcess w0 (fun y1 y2 => by omega) (fun y => ⟨fun y => absurd rfl y, fun _ => ⟨fun y => by omega, fun _ => ?_⟩⟩)
    exact kfinZ (S1 := S) (j := w_K4_J594 Q) rfl rfl rfl (fun y => by omega) (hT _ (kp.rf.up rfl))
  have badB : (0 ≤ a ∧ a < S 54 1) → ¬ (0 ≤ b ∧ b < 12) → K 2 S := by
    intro ha hb
    apply hK
    refine s9_isProcess w0 (fun y1 y2 => ⟨fun _ => s9_in (fun y3 y4 => by omega) (fun y => ⟨fun y => absurd rfl y, fun _ => ⟨fun y => by omega, fun _ => ?_⟩⟩), fun y => by omega⟩) (fun y => absurd ha y)
    exact kfinZ (S1 := S) (j := w_K4_J594 Q) rfl rfl rfl (fun y => by omega) (hT _ (kp.rf.up rfl))
  have put : (0 ≤ a ∧ a < S 54 1) → (0 ≤ b ∧ b < 12) → ∀ u v : Int, xor32 u v = m → w_X8_setMarks_J41 a b (fun r9 S9 => ((r9 = 0 → K 0 (xup S9 98 0 0)) ∧ (¬ r9 = 0 → K 0 (xup S9 98 0 1)))) u v (xup S 2 9 0) := by
    intro ha hb u v e
    unfold w_X8_setMarks_J41
    rw [e]
    refine ⟨⟨by omega, by omega⟩, fun y => ⟨rfl, Or.inl rfl, fun _ => fin true 0 ha hb (Or.inl ⟨rfl, rfl, y⟩), fun y => absurd rfl y⟩, fun y => ⟨rfl, Or.inr rfl, fun y => by omega, fun _ => fin false 1 ha hb (Or.inr ⟨rfl, rfl, y⟩)⟩⟩
  unfold w_L_setMarks w_X8_setMarks
  refine s8_needProcess (fun z1 z2 => s8_needLocation (fun z3 z4 => ⟨fun y => ⟨rfl, fun w => put (by omega) (by omega) 0 0 ?_, fun w => put (by omega) (by omega) 0 2 ?_⟩, fun y => ⟨rfl, fun w => put (by omega) (by omega) 1 0 ?_, fun w => put (by omega) (by omega) 1 2 ?_⟩⟩) (fun z => Or.inr ⟨rfl, badB (by omega) (by omega)⟩)) (fun z => Or.inl ⟨rfl, badA (by omega)⟩)
  · have h := hm.1; rw [if_pos y, if_pos w] at h; exact h
  · have h := hm.1; rw [if_pos y, if_neg w] at h; exact h
  · have h := hm.1; rw [if_neg y, if_pos w] at h; exact h
  · have h := hm.1; rw [if_neg y, if_neg w] at h; exact h
theorem k_4 (hW : pw_WF S) (hC : pw_C S S) (hD : ∀ S2, pw_D S S2 → Q S2) (hT : ∀ S2, pw_T S S2 → Q S2) : w_K4 f i S Q := by
  have o1 : xor32 0 0 = 0 := by decide +kernel
  have o2 : xor32 0 2 = 2 := by decide +kernel
  have o3 : xor32 1 0 = 1 := by decide +kernel
  have o4 : xor32 1 2 = 3 := by decide +kernel
  refine ⟨fun h3 => ⟨fun h4 => ?_, fun h4 => ?_⟩, fun h3 => ⟨fun h4 => ?_, fun h4 => ?_⟩⟩
  · exact k_4a hW hC hD hT (m := 0) (Or.inl rfl) (Or.inl rfl) ⟨by simp [o1], rfl⟩ (fun r Sc h => ⟨fun _ => ⟨fun _ => h, fun y => absurd h4 y⟩, fun y => absurd h3 y⟩)
  · exact k_4a hW hC hD hT (m := 2) (Or.inl rfl) (Or.inr rfl) ⟨by simp [o2], rfl⟩ (fun r Sc h => ⟨fun _ => ⟨fun y => absurd y h4, fun _ => h⟩, fun y => absurd h3 y⟩)
  · exact k_4a hW hC hD hT (m := 1) (Or.inr rfl) (Or.inl rfl) ⟨by simp [o3], rfl⟩ (fun r Sc h => ⟨fun y => absurd y h3, fun _ => ⟨fun _ => h, fun y => absurd h4 y⟩⟩)
  · exact k_4a hW hC hD hT (m := 3) (Or.inr rfl) (Or.inr rfl) ⟨by simp [o4], rfl⟩ (fun r Sc h => ⟨fun y => absurd y h3, fun _ => ⟨fun y => absurd y h4, fun _ => h⟩⟩)
theorem k_1 (hW : pw_WF S) (hC : pw_C S S) (hD : ∀ S2, pw_D S S2 → Q S2) (hT : ∀ S2, pw_T S S2 → Q S2) : w_K1 f i S Q := by
  have c0 := hC.1
  have c7 := hC.2.1
  have w0 := hW.1
  have w2 := hW.2.1
  unfold w_K1
  have hk : 0 ≤ f (i + 4) % 65536 ∧ f (i + 4) % 65536 < 65536 := by omega
  generalize f (i + 4) % 65536 = k at *
  generalize f (i + 1) = p at *
  generalize f (i + 2) = a2 at *
  generalize f (i + 3) = a3 at *
  generalize f (i + 5) = a at *
  generalize f (i + 6) = b at *
  have key : ∀ (r : Int) (Sc : xS), (kp [(54, 0), (98, -9)] S Sc) → r ≠ 0 → ((r = 1 ∧ ¬ (0 ≤ p ∧ p < S 54 1)) ∨ (r = 2 ∧ (0 ≤ p ∧ p < S 54 1) ∧ ¬ ((0 ≤ a2 ∧ a2 ≤ 11) ∧ (0 ≤ a3 ∧ a3 ≤ 11) ∧ pw_fit (S 54 2) p k a b)) ∨ (r = 3 ∧ (0 ≤ p ∧ p < S 54 1) ∧ (0 ≤ a2 ∧ a2 ≤ 11) ∧ (0 ≤ a3 ∧ a3 ≤ 11) ∧ pw_fit (S 54 2) p k a b ∧ S 55 p = 14)) → w_X9_addStep p a2 a3 k a b S (fun r312 Sc312 => (Sc312 33 (-1) = S 33 (-1)) ∧ w_X9_thrown Sc312 (fun r318 Sc318 => ((r318 = r → ((¬ r = 0 → (Sc318 33 (-1) = S 33 (-1)) ∧ Q Sc318) ∧ (r = 0 → (((Sc318 98 0) = r312 → (Sc318 33 (-1) = S 33 (-1)) ∧ Q Sc318) ∧ (¬ (Sc318 98 0) = r312 → False))))) ∧ (¬ r318 = r → False)))) := by
    intro r Sc _ hr0 hr
    have fin : ∀ b : Int, (xup S 54 0 r) 33 (-1) = S 33 (-1) ∧ w_X9_thrown (xup S 54 0 r) (fun r318 Sc318 => ((r318 = r → ((¬ r = 0 → (Sc318 33 (-1) = S 33 (-1)) ∧ Q Sc318) ∧ (r = 0 → (((Sc318 98 0) = b → (Sc318 33 (-1) = S 33 (-1)) ∧ Q Sc318) ∧ (¬ (Sc318 98 0) = b → False))))) ∧ (¬ r318 = r → False))) := fun b => kfin (S1 := S) rfl rfl (fun z => absurd z hr0) (hT _ (kp.rf.up rfl))
    have two : (0 ≤ p ∧ p < S 54 1) → r = 2 → w_X9_addStep_J48 (fun r312 Sc312 => (Sc312 33 (-1) = S 33 (-1)) ∧ w_X9_thrown Sc312 (fun r318 Sc318 => ((r318 = r → ((¬ r = 0 → (Sc318 33 (-1) = S 33 (-1)) ∧ Q Sc318) ∧ (r = 0 → (((Sc318 98 0) = r312 → (Sc318 33 (-1) = S 33 (-1)) ∧ Q Sc318) ∧ (¬ (Sc318 98 0) = r312 → False))))) ∧ (¬ r318 = r → False)))) S := by
      intro _ e
      have fin' := fin 0
      rw [e] at fin' ⊢
      exact fin'
    refine s9_isProcess w0 (fun y1 y2 => ⟨fun _ => s9_in (fun y3 y4 => ⟨fun y => by omega, fun _ => s9_in (fun y5 y6 => ⟨fun y => by omega, fun _ => s9_isRight w2 ⟨y1, by omega⟩ (fun h => ⟨fun _ => ⟨⟨y1, by omega⟩, fun y7 => ?_, fun y7 => ?_⟩, fun y => by omega⟩) (fun h => ⟨fun y => absurd rfl y, fun _ => two ⟨y1, y2⟩ ?_⟩)⟩) (fun y => ⟨fun _ => two ⟨y1, y2⟩ (by omega), fun y => absurd rfl y⟩)⟩) (fun y => ⟨fun _ => two ⟨y1, y2⟩ (by omega), fun y => absurd rfl y⟩), fun y => by omega⟩) (fun y => ⟨fun y => absurd rfl y, fun _ => ?_⟩)
    · exfalso
      rcases hr with hr | hr | hr
      · omega
      · exact hr.2.2 ⟨by omega, by omega, h⟩
      · omega
    · rcases hr with hr | hr | hr
      · omega
      · exact absurd ⟨by omega, by omega, h⟩ hr.2.2
      · have fin' := fin 0
        rw [hr.1] at fin' ⊢
        exact fin'
    · rcases hr with hr | hr | hr
      · omega
      · exact hr.1
      · exact absurd hr.2.2.2.2.1 h
    · rcases hr with hr | hr | hr
      · have fin' := fin 0
        rw [hr.1] at fin' ⊢
        exact fin'
      · omega
      · omega
  unfold w_L_addStep w_X8_addStep
  refine s8_needProcess (fun z1 z2 => s8_needLocation (fun z3 z4 => s8_needLocation (fun z5 z6 => s4_fits ⟨z1, by omega⟩ (fun h => ⟨fun _ => ⟨⟨z1, by omega⟩, fun z7 => ?_, fun z7 => ⟨rfl, Or.inr (Or.inr ⟨rfl, key 3 S kp.rf (by omega) (Or.inr (Or.inr ⟨rfl, by omega, by omega, by omega, ?_, ?_⟩))⟩)⟩⟩, fun y => by omega⟩) (fun h => ⟨fun y => absurd rfl y, fun _ => ⟨rfl, Or.inr (Or.inl ⟨rfl, key 2 S kp.rf (by omega) (Or.inr (Or.inl ⟨rfl, by omega, fun w => h ?_⟩))⟩)⟩⟩)) (fun z => Or.inr (Or.inl ⟨rfl, key 2 S kp.rf (by omega) (Or.inr (Or.inl ⟨rfl, by omega, fun w => by omega⟩))⟩))) (fun z => Or.inr (Or.inl ⟨rfl, key 2 S kp.rf (by omega) (Or.inr (Or.inl ⟨rfl, by omega, fun w => by omega⟩))⟩))) (fun z => Or.inl ⟨rfl, key 1 S kp.rf (by omega) (Or.inl ⟨rfl, by omega⟩)⟩)
  · rw [c7] at h
    have c10 := hC.2.2.2.1 p z1 (by omega)
    have w10 := hW.2.2.2.1 p z1 (by omega)
    have z7' : S 10 p < 14 := z7
    -- the class, then the reference
    have ref : ∀ (x u v : Int), x = 14 * p + S 55 p → ((k = 107 ∧ u = 0 ∧ v = 0) ∨ (k ≠ 107 ∧ u = a ∧ v = b)) → w_X9_addStep p a2 a3 k a b (xup (xup (xup (xup (xup (xup (xup (xup S 2 9 0) 11 x a2) 12 x a3) 13 x k) 14 x u) 15 x v) 10 p (S 10 p + 1)) 98 0 (S 10 p)) (fun r312 Sc312 => (Sc312 33 (-1) = S 33 (-1)) ∧ w_X9_thrown Sc312 (fun r318 Sc318 => ((r318 = 0 → ((¬ (0 : Int) = 0 → (Sc318 33 (-1) = S 33 (-1)) ∧ Q Sc318) ∧ ((0 : Int) = 0 → (((Sc318 98 0) = r312 → (Sc318 33 (-1) = S 33 (-1)) ∧ Q Sc318) ∧ (¬ (Sc318 98 0) = r312 → False))))) ∧ (¬ r318 = 0 → False)))) := by
      intro x u v hx huv
      refine s9_isProcess w0 (fun y1 y2 => ⟨fun _ => s9_in (fun y3 y4 => ⟨fun y => by omega, fun _ => s9_in (fun y5 y6 => ⟨fun y => by omega, fun _ => s9_isRight w2 ⟨y1, by omega⟩ (fun h' => ⟨fun _ => ⟨⟨y1, by omega⟩, fun y7 => ?_, fun y7 => ?_⟩, fun y => by omega⟩) (fun h' => absurd h h')⟩) (fun y => by omega)⟩) (fun y => by omega), fun y => by omega⟩) (fun y => absurd (show 0 ≤ p ∧ p < S 54 1 from ⟨z1, by omega⟩) y)
      · have eq : ∀ i : Int, (xup (xup (xup (xup (xup (xup (xup (xup (xup (xup S 2 9 0) 11 x a2) 12 x a3) 13 x k) 14 x u) 15 x v) 10 p (S 10 p + 1)) 98 0 (S 10 p)) 54 0 0) 54 13 0) 55 i = S 55 i := fun i => rfl
        refine ⟨⟨by show 0 ≤ 14 * p + S 55 p; omega, by show 14 * p + S 55 p < 42; omega⟩, ⟨by show -2147483648 ≤ S 55 p + 1; omega, by show S 55 p + 1 < 2147483648; omega⟩, ⟨?_, ?_⟩, kfin rfl rfl (fun _ => ?_) (hD _ ⟨?_, ?_, ?_, rfl, rfl⟩)⟩
        · rw [xup_same]; show -2147483648 ≤ S 55 p + 1 - 1; omega
        · rw [xup_same]; show S 55 p + 1 - 1 < 2147483648; omega
        · rw [xup_same]; show S 10 p = S 55 p + 1 - 1; omega
        · exact (((((((((((((((kp.rf.up rfl).up rfl).up rfl).up rfl).up rfl).up rfl).up rfl).up rfl).up rfl).up rfl).up rfl).up rfl).up rfl).up rfl).up rfl).up rfl
        · obtain ⟨h1, h2, h3, h4, h5, h6, h7, h8, h9⟩ := hW
          refine ⟨h1, h2, h3, fun p' b1 b2 => ?_, fun p' s' b1 b2 b3 b4 => ?_, h6, h7, h8, h9⟩
          · have h := h4 p' b1 b2
            simp [xup_at]
            by_cases hp : p' = p
            · simp [hp]; omega
            · simp [hp]; exact h
          · have hb := h4 p' b1 b2
            have b5 : (p' = p ∧ s' = S 55 p) ∨ (s' < S 55 p' ∧ ¬ (14 * p' + s' = 14 * p + S 55 p)) := by
              simp [xup_at] at b4
              by_cases hp : p' = p
              · simp [hp] at b4
                by_cases hs : s' = S 55 p
                · exact Or.inl ⟨hp, hs⟩
                · exact Or.inr ⟨by rw [hp]; omega, by omega⟩
              · simp [hp] at b4
                exact Or.inr ⟨b4, by omega⟩
            rcases b5 with ⟨e1, e2⟩ | ⟨e1, e2⟩
            · rw [e1, e2]
              unfold pw_ok
              simp [xup_at]
              exact ⟨by omega, by omega, h⟩
            · have h' := h5 p' s' b1 b2 b3 e1
              generalize 14 * p' + s' = y at *
              unfold pw_ok at *
              simp [xup_at, e2]
              exact h'
        · obtain ⟨g1, g2, g3, g4, g5, g6, g7, g8, g9⟩ := hC
          refine ⟨g1, g2, g3, fun p' b1 b2 => ?_, fun p' s' b1 b2 b3 b4 => ?_, g6, g7, g8, g9⟩
          · have h := g4 p' b1 b2
            simp [xup_at]
            by_cases hp : p' = p
            · simp [hp]; omega
            · simp [hp]; exact h
          · have h := hW.2.2.2.1 p' b1 b2
            have b5 : (p' = p ∧ s' = S 55 p) ∨ (s' < S 55 p' ∧ ¬ (14 * p' + s' = 14 * p + S 55 p)) := by
              simp [xup_at] at b4
              by_cases hp : p' = p
              · simp [hp] at b4
                by_cases hs : s' = S 55 p
                · exact Or.inl ⟨hp, hs⟩
                · exact Or.inr ⟨by rw [hp]; omega, by omega⟩
              · simp [hp] at b4
                exact Or.inr ⟨b4, by omega⟩
            subst hx
            rcases b5 with ⟨e1, e2⟩ | ⟨e1, e2⟩
            · rw [e1, e2]
              unfold pw_cs
              simp [xup_at]
              omega
            · have h' := g5 p' s' b1 b2 b3 e1
              generalize 14 * p' + s' = y at *
              unfold pw_cs at *
              simp [xup_at, e2]
              exact h'
      · exfalso
        have y8 : S 55 p = 14 := y7
        omega
    refine ⟨⟨z1, by omega⟩, ⟨by show -2147483648 ≤ p * 14 + S 10 p; omega, by show p * 14 + S 10 p < 2147483648; omega⟩, ⟨by show 0 ≤ p * 14 + S 10 p; omega, by show p * 14 + S 10 p < 42; omega⟩, hk, fun y => ⟨fun _ => ⟨⟨by show -2147483648 ≤ S 10 p + 1; omega, by show S 10 p + 1 < 2147483648; omega⟩, rfl, ref (p * 14 + S 10 p) a b (by omega) (Or.inr ⟨y, rfl, rfl⟩)⟩, fun y' => absurd y' y⟩, fun y => ⟨fun y' => absurd y y', fun _ => ⟨⟨by show -2147483648 ≤ S 10 p + 1; omega, by show S 10 p + 1 < 2147483648; omega⟩, rfl, ref (p * 14 + S 10 p) 0 0 (by omega) (Or.inl ⟨y, rfl, rfl⟩)⟩⟩⟩
  · rw [c7] at h; exact h
  · have c10 := hC.2.2.2.1 p z1 (by omega)
    have w10 := hW.2.2.2.1 p z1 (by omega)
    have z7' : ¬ S 10 p < 14 := z7
    omega
  · rw [c7]; exact w.2.2
end PWK

/-! pure layer: what holds between calls; calls that tell -/
abbrev scr : List (Nat × Int) := [(54, 0), (54, 10), (54, 58), (54, 59), (54, 60), (98, -9), (99, -9), (36, -9), (37, -9), (38, -9), (39, -9), (40, -9), (41, -9), (42, -9), (43, -9), (44, -9), (45, -9), (6, 2), (35, -9), (75, -9), (76, -9), (77, -9), (78, -9), (79, -9), (80, -9), (81, -9), (82, -9), (83, -9), (84, -9), (85, -9), (86, -9), (3, 5), (23, -9), (24, -9), (46, -9), (47, -9), (48, -9), (49, -9), (50, -9), (51, -9), (52, -9), (53, -9), (9, 1), (9, 5), (9, 8), (9, 10), (87, -9), (88, -9), (89, -9), (90, -9), (91, -9), (92, -9), (93, -9), (94, -9), (95, -9), (96, -9), (97, -9)]
abbrev sc3 : List (Nat × Int) := (30, -9) :: scr
/-- a search is on -/
def on_ (P : xS) (md : Int) (X S : xS) : Prop := pw_R P S ∧ pw_WF P ∧ pw_C P S ∧ (md = 97 ∨ md = 112 ∨ md = 115 ∨ md = 104) ∧ xa P md X ∧ xb X ∧ cb P md X S ∧ rb P md X S ∧ S 2 9 = 1 ∧ S 54 13 = 1
def Inv_ (S : xS) : Prop := pw_WF S ∧ pw_C S S ∧ S 32 0 = 0 ∧ cap_ (S 33 (-1)) ∧ ((S 2 9 = 0 ∧ S 54 13 = 0) ∨ ∃ (P : xS) (md : Int) (X : xS), on_ P md X S)
theorem pw_R.sy {P S : xS} (h : pw_R P S) : pw_R S P := by
  obtain ⟨e1, e2, e3, e4, e5, e6, e7, e8, e9, e10, e11, e12, e13, e14, e15⟩ := h
  exact ⟨e1.symm, e2.symm, e3.symm, e4.symm, e5.symm, e6.symm, e7.symm, e8.symm, e9.symm, e10.symm, e11.symm, e12.symm, e13.symm, e14.symm, e15.symm⟩
section PWIN
variable {P S S' X : xS} {md : Int}
theorem on_kp (h : on_ P md X S) (hk : kp sc3 S S') (hc : cx P md X S') : on_ P md X S' := by
  obtain ⟨h1, h2, h3, h4, h5, h6, h7, h8, h9, h10⟩ := h
  obtain ⟨q1, q2, q3, q4⟩ := h7
  obtain ⟨r1, r2, r3, r4⟩ := h8
  refine ⟨h1.kp hk rfl, h2, h3.kp hk rfl, h4, h5, h6, ⟨hc, (hk 32 0 rfl).trans q2, by rw [hk 33 (-1) rfl]; exact q3, fun z => (q4 z).kp hk rfl rfl (fun _ => rfl) (fun _ => rfl) (fun _ => rfl)⟩, ⟨rx_kp r1 hk rfl, fun z => (hk 54 14 rfl).trans (r2 z), fun z => (hk 54 14 rfl).trans (r3 z), fun z w s s0 s1 => (hk 73 s rfl).trans (r4 z w s s0 s1)⟩, (hk 2 9 rfl).trans h9, (hk 54 13 rfl).trans h10⟩
theorem on_kp' (h : on_ P md X S) (hk : kp scr S S') : on_ P md X S' := on_kp h (hk.mono rfl) (h.2.2.2.2.2.2.1.1.kp hk rfl)
theorem Inv_of (h : on_ P md X S) : Inv_ S := ⟨h.2.1.R h.1, h.2.2.1.R h.1, h.2.2.2.2.2.2.1.2.1, h.2.2.2.2.2.2.1.2.2.1, Or.inr ⟨P, md, X, h⟩⟩
theorem Inv_kp (h : Inv_ S) (hk : kp scr S S') : Inv_ S' := by
  obtain ⟨h1, h2, h3, h4, h5⟩ := h
  refine ⟨h1.R (pw_R.rf.kp hk rfl), (h2.kp hk rfl).R (pw_R.rf.kp hk rfl), (hk 32 0 rfl).trans h3, by rw [hk 33 (-1) rfl]; exact h4, ?_⟩
  rcases h5 with ⟨a, b⟩ | ⟨P, md, X, h⟩
  · exact Or.inl ⟨(hk 2 9 rfl).trans a, (hk 54 13 rfl).trans b⟩
  · exact Or.inr ⟨P, md, X, on_kp' h hk⟩
theorem Inv_D (h : Inv_ S) (hd : pw_D S S') : Inv_ S' := ⟨hd.2.1, hd.2.2.1, (hd.1 32 0 rfl).trans h.2.2.1, by rw [hd.1 33 (-1) rfl]; exact h.2.2.2.1, Or.inl ⟨hd.2.2.2.1, hd.2.2.2.2⟩⟩
theorem Inv_T (h : Inv_ S) (hd : pw_T S S') : Inv_ S' := Inv_kp h (hd.mono rfl)
theorem Inv_ab (h : Inv_ S) : (S 2 9 = 0 ∧ S 54 13 = 0) ∨ ∃ (P : xS) (md : Int) (X : xS), on_ P md X S := h.2.2.2.2
/-- the verdict -/
def vd (md : Int) (X : xS) : Int := if X 0 2 ≠ 0 then 102 else if md ≠ 104 ∧ (X 0 2 ≠ 0 ∨ 2000 ≤ X 0 0 ∨ X 0 0 ≤ X 0 1) ∧ X 0 0 < 2000 then 110 else 63
theorem vd.b (md : Int) (X : xS) : 0 ≤ vd md X ∧ vd md X < 65536 := by
  unfold vd
  split
  · omega
  · split <;> omega
theorem s6_judge {Q : Int → xS → Prop} (hx : xa P md X) (hcx : cx P md X S) (k : Q (vd md X) S) : w_X6_judge S Q := by
  obtain ⟨c1, c2, c3, c4, c5, c6, c7, c8, c9⟩ := id hcx
  unfold vd at k
  unfold w_X6_judge
  rw [c8]
  by_cases hf : X 0 2 = 0
  · have e := c3 hf
    rw [if_neg (by omega)] at k
    refine ⟨fun _ => ⟨fun z => ?_, fun z => s6_ended hx hcx (fun he => ⟨fun w => by omega, fun _ => ?_⟩) (fun he => ⟨fun _ => ?_, fun w => absurd rfl w⟩)⟩, fun z => absurd e z⟩
    · rw [if_neg (by omega)] at k; exact k
    · rw [c1]
      refine ⟨fun w => ?_, fun w => ?_⟩
      · rw [if_neg (by omega)] at k; exact k
      · rw [if_pos ⟨z, he, by omega⟩] at k; exact k
    · rw [if_neg (fun w => he w.2.1)] at k; exact k
  · have e := (c4 hf).1
    have ne : X 0 2 ≠ 45 := by
      rcases hx.2.2.2.2.2.1 with h | ⟨-, h | h | h⟩
      · exact absurd h hf
      · rw [h.1]; decide
      · rw [h.1]; decide
      · rw [h.1]; decide
    rw [if_pos hf] at k
    exact ⟨fun z => absurd (e.symm.trans z) ne, fun _ => k⟩
theorem s9_verdictNow {Q : Int → xS → Prop} (hx : xa P md X) (hrb : rb P md X S) (k : Q (vd md X) S) : w_X9_verdictNow S Q := by
  obtain ⟨⟨c1, c2, c3, c4, c5, c6, -⟩, r2, r3, -⟩ := hrb
  unfold vd at k
  unfold w_X9_verdictNow
  rw [c3, c6, c1]
  have pos : X 0 2 = 0 ∨ 0 < X 0 2 := by
    rcases hx.2.2.2.2.2.1 with h | ⟨-, h | h | h⟩
    · exact Or.inl h
    · exact Or.inr (by rw [h.1]; decide)
    · exact Or.inr (by rw [h.1]; decide)
    · exact Or.inr (by rw [h.1]; decide)
  refine ⟨fun z => ?_, fun z => ?_⟩
  · rw [if_neg (by omega)] at k
    refine ⟨fun y => ?_, fun y => ⟨fun w => ?_, fun w => ⟨fun v => ?_, fun v => ?_⟩⟩⟩
    · rw [if_neg (by omega)] at k; exact k
    · rw [if_neg (fun h => by have := r2 h.2.1; omega)] at k; exact k
    · rw [if_neg (by omega)] at k; exact k
    · have he : X 0 2 ≠ 0 ∨ 2000 ≤ X 0 0 ∨ X 0 0 ≤ X 0 1 := by
        by_cases h : X 0 2 ≠ 0 ∨ 2000 ≤ X 0 0 ∨ X 0 0 ≤ X 0 1
        · exact h
        · exact absurd (r3 h) w
      rw [if_pos ⟨y, he, by omega⟩] at k; exact k
  · rw [if_pos (by omega)] at k; exact k
theorem s8_needSearch {Q : xS → Prop} {Z : String → xS → Prop} (h1 : S 2 9 ≠ 0 → Q S) (h0 : S 2 9 = 0 → Z "java/lang/IllegalStateException" S) : w_X8_needSearch S Q Z := ⟨h1, h0⟩
theorem s9_isThere {Q : Int → xS → Prop} (h1 : S 54 13 = 1 → Q 1 (xup S 54 0 0)) (h0 : S 54 13 = 0 → Q 0 (xup S 54 0 1)) (h : S 54 13 = 0 ∨ S 54 13 = 1) : w_X9_isThere S Q := by
  refine ⟨fun z => ⟨h, ?_⟩, fun z => ⟨h, ?_⟩⟩
  · rw [z]; exact h0 z
  · have e : S 54 13 = 1 := by omega
    rw [e]; exact h1 e
theorem s8_needState {Q : xS → Prop} {Z : String → xS → Prop} {p : Int} (h1 : 0 ≤ p → p < S 4 0 → Q S) (h0 : ¬ (0 ≤ p ∧ p < S 4 0) → Z "java/lang/IndexOutOfBoundsException" S) : w_X8_needState p S Q Z :=
  ⟨fun z => h0 (by omega), fun z => ⟨fun y => h1 (by omega) y, fun y => h0 (by omega)⟩⟩
/-- the reference: is there such a state -/
theorem s9_isState {Q : Int → xS → Prop} {p : Int} (hn : 0 ≤ S 54 5 ∧ S 54 5 ≤ 2000) (h1 : S 54 13 = 1 → 0 ≤ p → p < S 54 5 → Q 1 (xup S 54 0 0)) (h2 : S 54 13 = 1 → ¬ (0 ≤ p ∧ p < S 54 5) → Q 0 (xup (xup S 54 0 0) 54 0 2)) (h0 : S 54 13 = 0 → Q 0 (xup S 54 0 1)) (h : S 54 13 = 0 ∨ S 54 13 = 1) : w_X9_isState p S Q := by
  refine s9_isThere (fun z => ⟨fun w => by omega, fun _ => ⟨⟨by show -2147483648 ≤ S 54 5 - 1; omega, by show S 54 5 - 1 < 2147483648; omega⟩, s9_in (fun a b => ⟨fun _ => ⟨fun w => absurd rfl w, fun _ => h1 z a ?_⟩, fun w => by omega⟩) (fun a => ⟨fun w => absurd rfl w, fun _ => ⟨fun _ => h2 z (fun b => a ⟨b.1, ?_⟩), fun w => by cases w⟩⟩)⟩⟩) (fun z => ⟨fun _ => ⟨fun _ => h0 z, fun w => by cases w⟩, fun w => absurd rfl w⟩) h
  · have b' : p ≤ S 54 5 - 1 := b
    omega
  · show p ≤ S 54 5 - 1
    omega
end PWIN
section PWKG
variable {S : xS} {f : Int → Int} {i : Int}
theorem k_9 (hI : Inv_ S) : w_K9 f i S Inv_ := by
  unfold w_K9 w_L_verdict w_X8_verdict w_X9_verdict
  rcases Inv_ab hI with ⟨a, b⟩ | ⟨P, md, X, h⟩
  · refine s8_needSearch (fun z => absurd a z) (fun _ => ⟨rfl, s9_isThere (fun z => by omega) (fun _ => ⟨fun _ => kfin rfl rfl (fun z => by omega) (Inv_kp hI (kp.rf.up rfl)), fun w => absurd rfl w⟩) (Or.inl b)⟩)
  · obtain ⟨h1, h2, h3, h4, h5, h6, h7, h8, h9, h10⟩ := id h
    have vb := vd.b md X
    have h' : ∀ v, on_ P md X (xup (xup S 98 0 v) 54 0 0) := fun v => on_kp' h ((kp.rf.up rfl).up rfl)
    refine s8_needSearch (fun _ => s6_judge h5 h7.1 ⟨rfl, vb, s9_isThere (fun _ => ⟨fun w => by omega, fun _ => s9_verdictNow h5 (h' _).2.2.2.2.2.2.2.1 ⟨by omega, kfin rfl rfl (fun _ => ?_) (Inv_of (h' _))⟩⟩) (fun z => absurd ((show S 54 13 = 0 from z).symm.trans h10) (by decide)) (Or.inr h10)⟩) (fun z => absurd (z.symm.trans h9) (by decide))
    show vd md X = vd md X % 65536
    omega
theorem k_10 (hI : Inv_ S) : w_K10 f i S Inv_ := by
  unfold w_K10 w_L_states w_X8_states w_X9_states
  rcases Inv_ab hI with ⟨a, b⟩ | ⟨P, md, X, h⟩
  · refine s8_needSearch (fun z => absurd a z) (fun _ => ⟨rfl, s9_isThere (fun z => by omega) (fun _ => ⟨fun _ => kfin rfl rfl (fun z => by omega) (Inv_kp hI (kp.rf.up rfl)), fun w => absurd rfl w⟩) (Or.inl b)⟩)
  · obtain ⟨h1, h2, h3, h4, h5, h6, h7, h8, h9, h10⟩ := id h
    refine s8_needSearch (fun _ => s9_isThere (fun _ => ⟨fun w => by omega, fun _ => kfin rfl rfl (fun _ => ?_) (Inv_of (on_kp' h ((kp.rf.up rfl).up rfl)))⟩) (fun z => absurd ((show S 54 13 = 0 from z).symm.trans h10) (by decide)) (Or.inr h10)) (fun z => absurd (z.symm.trans h9) (by decide))
    show S 4 0 = S 54 5
    rw [h7.1.1, h8.1.1]
theorem k_11 (hI : Inv_ S) : w_K11 f i S Inv_ := by
  unfold w_K11 w_L_goneOn w_X8_goneOn w_X9_goneOn
  rcases Inv_ab hI with ⟨a, b⟩ | ⟨P, md, X, h⟩
  · refine s8_needSearch (fun z => absurd a z) (fun _ => ⟨rfl, s9_isThere (fun z => by omega) (fun _ => ⟨fun _ => kfin rfl rfl (fun z => by omega) (Inv_kp hI (kp.rf.up rfl)), fun w => absurd rfl w⟩) (Or.inl b)⟩)
  · obtain ⟨h1, h2, h3, h4, h5, h6, h7, h8, h9, h10⟩ := id h
    refine s8_needSearch (fun _ => s9_isThere (fun _ => ⟨fun w => by omega, fun _ => kfin rfl rfl (fun _ => ?_) (Inv_of (on_kp' h ((kp.rf.up rfl).up rfl)))⟩) (fun z => absurd ((show S 54 13 = 0 from z).symm.trans h10) (by decide)) (Or.inr h10)) (fun z => absurd (z.symm.trans h9) (by decide))
    show S 2 11 = S 54 6
    rw [h7.1.2.1, h8.1.2.1]
theorem k_16 (hI : Inv_ S) : w_K16 f i S Inv_ := by
  unfold w_K16 w_L_made w_X8_made w_X9_made
  rcases Inv_ab hI with ⟨a, b⟩ | ⟨P, md, X, h⟩
  · refine s8_needSearch (fun z => absurd a z) (fun _ => ⟨rfl, s9_isThere (fun z => by omega) (fun _ => ⟨fun _ => kfin rfl rfl (fun z => by omega) (Inv_kp hI (kp.rf.up rfl)), fun w => absurd rfl w⟩) (Or.inl b)⟩)
  · obtain ⟨h1, h2, h3, h4, h5, h6, h7, h8, h9, h10⟩ := id h
    refine s8_needSearch (fun _ => s9_isThere (fun _ => ⟨fun w => by omega, fun _ => kfin rfl rfl (fun _ => ?_) (Inv_of (on_kp' h ((kp.rf.up rfl).up rfl)))⟩) (fun z => absurd ((show S 54 13 = 0 from z).symm.trans h10) (by decide)) (Or.inr h10)) (fun z => absurd (z.symm.trans h9) (by decide))
    show S 2 12 = S 54 12
    rw [h7.1.2.2.2.2.1, h8.1.2.2.2.1]
theorem k_8 (hI : Inv_ S) : w_K8 f i S Inv_ := by
  unfold w_K8 w_L_search w_X8_search w_X9_search
  generalize f (i + 1) = b
  rcases Inv_ab hI with ⟨a, b'⟩ | ⟨P, md, X, h⟩
  · refine s8_needSearch (fun z => absurd a z) (fun _ => Or.inl ⟨rfl, s9_isThere (fun z => by omega) (fun _ => ⟨fun w => absurd rfl w, fun _ => kfin rfl rfl (fun z => by omega) (Inv_kp hI (kp.rf.up rfl))⟩) (Or.inl b')⟩)
  · obtain ⟨h1, h2, h3, h4, h5, h6, h7, h8, h9, h10⟩ := id h
    have bad : ¬ (1 ≤ b ∧ b ≤ 500) → w_X9_isThere S (fun r1 S1 => ((¬ r1 = 0 → w_X9_in b 1 500 S1 (fun r14 S14 => ((¬ r14 = 0 → xL1 (w_X9_search_L33 b (fun r824 Sc824 => (Sc824 33 (-1) = S 33 (-1)) ∧ w_X9_thrown Sc824 (fun r830 Sc830 => ((r830 = 2 → ((¬ (2 : Int) = 0 → (Sc830 33 (-1) = S 33 (-1)) ∧ Inv_ Sc830) ∧ ((2 : Int) = 0 → (((Sc830 98 0) = r824 → (Sc830 33 (-1) = S 33 (-1)) ∧ Inv_ Sc830) ∧ (¬ (Sc830 98 0) = r824 → False))))) ∧ (¬ r830 = 2 → False)))) S14) 0 S14) ∧ (r14 = 0 → w_X9_fails 2 S14 (fun r22 S22 => (S22 33 (-1) = S 33 (-1)) ∧ w_X9_thrown S22 (fun r830 Sc830 => ((r830 = 2 → ((¬ (2 : Int) = 0 → (Sc830 33 (-1) = S 33 (-1)) ∧ Inv_ Sc830) ∧ ((2 : Int) = 0 → (((Sc830 98 0) = r22 → (Sc830 33 (-1) = S 33 (-1)) ∧ Inv_ Sc830) ∧ (¬ (Sc830 98 0) = r22 → False))))) ∧ (¬ r830 = 2 → False)))))))) ∧ (r1 = 0 → (fun r824 Sc824 => (Sc824 33 (-1) = S 33 (-1)) ∧ w_X9_thrown Sc824 (fun r830 Sc830 => ((r830 = 2 → ((¬ (2 : Int) = 0 → (Sc830 33 (-1) = S 33 (-1)) ∧ Inv_ Sc830) ∧ ((2 : Int) = 0 → (((Sc830 98 0) = r824 → (Sc830 33 (-1) = S 33 (-1)) ∧ Inv_ Sc830) ∧ (¬ (Sc830 98 0) = r824 → False))))) ∧ (¬ r830 = 2 → False)))) (0 : Int) S1))) := by
      intro hb
      refine s9_isThere (fun _ => ⟨fun _ => s9_in (fun z z' => absurd ⟨z, z'⟩ hb) (fun _ => ⟨fun w => absurd rfl w, fun _ => kfin (S1 := S) rfl rfl (fun z => by omega) (Inv_of (on_kp' h ((kp.rf.up rfl).up rfl)))⟩), fun w => by omega⟩) (fun z => absurd (z.symm.trans h10) (by decide)) (Or.inr h10)
    refine s8_needSearch (fun _ => ⟨fun z => Or.inr ⟨rfl, bad (by omega)⟩, fun z => ⟨fun z2 => s6_goOn h2 h3 h5 h6 h7 (by omega) (fun S1 a1 c1 x1 b1 => ?_), fun z2 => Or.inr ⟨rfl, bad (by omega)⟩⟩⟩) (fun z => absurd (z.symm.trans h9) (by decide))
    have e13 : (xup S1 98 0 ((sx_sr P md b.toNat X) 0 0 - X 0 0)) 54 13 = 1 := (a1 54 13 rfl).trans h10
    refine s9_isThere (fun _ => ⟨fun _ => s9_in (fun _ _ => ⟨fun _ => ?_, fun w => by omega⟩) (fun w => absurd ⟨by omega, z2⟩ w), fun w => by omega⟩) (fun w => absurd (w.symm.trans e13) (by decide)) (Or.inr e13)
    have rb1 : rb P md X (xup (xup S1 98 0 ((sx_sr P md b.toNat X) 0 0 - X 0 0)) 54 0 0) := by
      obtain ⟨r1, r2, r3, r4⟩ := h8
      have kk : kp (cx_Lg ++ [(98, -9), (54, 0)]) S (xup (xup S1 98 0 ((sx_sr P md b.toNat X) 0 0 - X 0 0)) 54 0 0) := ((a1.mono rfl).up rfl).up rfl
      exact ⟨rx_kp r1 kk rfl, fun z => (kk 54 14 rfl).trans (r2 z), fun z => (kk 54 14 rfl).trans (r3 z), fun z w s s0 s1 => (kk 73 s rfl).trans (r4 z w s s0 s1)⟩
    have kk : kp (cx_Lg ++ [(98, -9), (54, 0)]) S (xup (xup S1 98 0 ((sx_sr P md b.toNat X) 0 0 - X 0 0)) 54 0 0) := ((a1.mono rfl).up rfl).up rfl
    refine s9_searchL h2 (h1.kp kk rfl) h5 h6 rb1 (by omega) (rb1.1.1) (fun S2 a2 c2 => kfin (a2 33 (-1) rfl) ?_ (fun _ => ?_) (Inv_of ⟨(h1.kp kk rfl |> fun r => ?_), h2, (h3.kp kk rfl).kp a2 rfl, h4, x1, b1, ?_, c2, ?_, ?_⟩))
    · exact (a2 54 0 rfl)
    · exact (a2 98 0 rfl)
    · exact r.kp a2 rfl
    · obtain ⟨q1, q2, q3, q4⟩ := c1
      have k3 : kp (rx_Lg ++ [(98, -9), (54, 0)]) S1 S2 := ((kp.rf.up rfl).up rfl).tr (a2.mono rfl)
      exact ⟨q1.kp k3 rfl, (k3 32 0 rfl).trans q2, by rw [k3 33 (-1) rfl]; exact q3, fun w => (q4 w).kp k3 rfl rfl (fun _ => rfl) (fun _ => rfl) (fun _ => rfl)⟩
    · exact (a2 2 9 rfl).trans ((kk 2 9 rfl).trans h9)
    · exact (a2 54 13 rfl).trans ((kk 54 13 rfl).trans h10)
end PWKG

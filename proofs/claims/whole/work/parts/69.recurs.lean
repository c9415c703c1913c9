/-! pure layer: questions about all runs: the ground -/
def ag (P X S : xS) : Prop := on_ P 97 X S ∧ vd 97 X = 110
def nog (S : xS) : Prop := (S 2 9 = 0 ∧ S 54 13 = 0) ∨ ∃ (P : xS) (md : Int) (X : xS), on_ P md X S ∧ ¬ (md = 97 ∧ vd md X = 110)
abbrev rr_L : List (Nat × Int) := [(75, -9), (76, -9), (77, -9), (78, -9), (95, -9), (54, 58), (54, 59), (54, 60), (87, -9), (88, -9), (89, -9), (90, -9), (91, -9), (92, -9), (96, -9), (93, -9), (94, -9), (97, -9)]
abbrev rc_L : List (Nat × Int) := [(23, -9), (3, 5), (24, -9), (9, 1), (9, 5), (9, 8), (9, 10), (46, -9), (47, -9), (48, -9), (49, -9), (50, -9), (51, -9), (52, -9), (53, -9)]
section PWAG
variable {P S S' X : xS} {md : Int} {m : Int → Bool}
theorem ag.kp (h : ag P X S) (hk : kp scr S S') : ag P X S' := ⟨on_kp' h.1 hk, h.2⟩
theorem Inv_g (h : Inv_ S) : (∃ P X : xS, ag P X S) ∨ nog S := by
  rcases Inv_ab h with w | ⟨P, md, X, h⟩
  · exact Or.inr (Or.inl w)
  · by_cases e : md = 97 ∧ vd md X = 110
    · obtain ⟨e1, e2⟩ := e
      subst e1
      exact Or.inl ⟨P, X, h, e2⟩
    · exact Or.inr (Or.inr ⟨P, md, X, h, e⟩)
theorem ag.g (h : ag P X S) : gr X ∧ gCl X S ∧ gRf X S ∧ (∀ e : Int, 0 ≤ e → e < X 0 6 → ∀ p : Nat, p < 3 → bt (X 6 e % 8) p → (p : Int) < P 54 1) ∧ S 54 1 = P 54 1 ∧ (0 ≤ P 54 1 ∧ P 54 1 ≤ 3) ∧ S 4 0 = X 0 0 := by
  obtain ⟨⟨h1, h2, h3, h4, h5, h6, h7, h8, h9, h10⟩, hv⟩ := h
  have hX : X 0 2 = 0 ∧ X 0 0 ≤ X 0 1 ∧ X 0 0 < 2000 := by
    unfold vd at hv
    by_cases e : X 0 2 = 0
    · rw [if_neg (by omega)] at hv
      split at hv
      · rename_i w
        exact ⟨e, by omega, w.2.2⟩
      · omega
    · rw [if_pos e] at hv
      omega
  obtain ⟨hf, hN, hlt⟩ := hX
  have n := h5.1
  obtain ⟨b1, b2, b3, b4, b5⟩ := h6
  obtain ⟨b6, b7⟩ := b5 hf
  have eN : X 0 1 = X 0 0 := by omega
  have a8 := h5.2.2.2.2.2.2.2
  obtain ⟨g1, g2, g3, g4⟩ := h7.2.2.2 hf
  obtain ⟨g5, g6, g7, g8, g9, g10⟩ := g4 rfl
  have cap : S 33 (-1) < 2147483648 := by
    rcases g3 with w | w | w | w | w | w | w | w <;> omega
  rw [eN] at b6 b7 g1 g8 g9
  have r1 := h8.2.2.2 hf
  rw [eN] at r1
  have r2 := r1 (by omega)
  have hGr : gr X := ⟨by omega, b4, b6, b7, by omega, fun e e0 e1 => (a8 e e0 e1).1⟩
  refine ⟨hGr, ⟨g1, g5, ⟨g6, cap⟩, g7, g8, fun s s0 s1 => g9 s s0 s1⟩, ⟨h8.1.1, r2, h8.1.2.2.2.2.2.2.2.2.2⟩, fun e e0 e1 => (a8 e e0 e1).2, h1.1.symm ▸ rfl, h2.1, h7.1.1⟩
theorem s8_all_ok {Q : xS → Prop} {Z : String → xS → Prop} (h : ag P X S) (k : Q S) : w_X8_needAllRuns S Q Z := by
  obtain ⟨⟨h1, h2, h3, h4, h5, h6, h7, h8, h9, h10⟩, hv⟩ := h
  have e10 := h7.1.2.2.2.2.2.2.2.1
  refine ⟨fun w => by omega, fun _ => ⟨fun w => absurd e10 w, fun _ => s6_judge h5 h7.1 ⟨fun _ => ⟨rfl, k⟩, fun w => absurd hv w⟩⟩⟩
theorem s8_all_no {Q : xS → Prop} {Z : String → xS → Prop} (h : nog S) (k : Z "java/lang/IllegalStateException" S) : w_X8_needAllRuns S Q Z := by
  rcases h with w | ⟨P, md, X, ⟨h1, h2, h3, h4, h5, h6, h7, h8, h9, h10⟩, hv⟩
  · exact ⟨fun _ => k, fun y => absurd w.1 y⟩
  · have e10 := h7.1.2.2.2.2.2.2.2.1
    refine ⟨fun w => by omega, fun _ => ⟨fun _ => k, fun w => s6_judge h5 h7.1 ⟨fun y => absurd ⟨by omega, y⟩ hv, fun _ => ⟨rfl, k⟩⟩⟩⟩
theorem s9_graph_ok {Q : Int → xS → Prop} (h : ag P X S) (k : Q 1 S) : w_X9_isGraph S Q := by
  obtain ⟨⟨h1, h2, h3, h4, h5, h6, h7, h8, h9, h10⟩, hv⟩ := h
  have e4 := h8.1.2.2.2.2.2.1
  refine ⟨fun w => by omega, fun _ => ⟨fun w => absurd e4 w, fun _ => s9_verdictNow h5 h8 ⟨fun w => absurd hv w, fun _ => k⟩⟩⟩
theorem s9_graph_no {Q : Int → xS → Prop} (h : nog S) (k : Q 0 S) : w_X9_isGraph S Q := by
  rcases h with w | ⟨P, md, X, ⟨h1, h2, h3, h4, h5, h6, h7, h8, h9, h10⟩, hv⟩
  · exact ⟨fun _ => k, fun y => absurd w.2 y⟩
  · have e4 := h8.1.2.2.2.2.2.1
    refine ⟨fun w => by omega, fun _ => ⟨fun _ => k, fun w => s9_verdictNow h5 h8 ⟨fun _ => k, fun y => absurd ⟨by omega, y⟩ hv⟩⟩⟩
theorem s9_asked_bad {Q : Int → xS → Prop} {a v : Int} (h : ¬ ((0 ≤ a ∧ a < 9) ∧ (0 ≤ v ∧ v < 4))) (k : Q 0 (xup S 54 0 1)) : w_X9_isAsked a v S Q :=
  s9_in (fun a0 a1 => ⟨fun w => by omega, fun _ => s9_in (fun b0 b1 => absurd ⟨⟨a0, by omega⟩, b0, by omega⟩ h) (fun _ => ⟨fun w => absurd rfl w, fun _ => ⟨fun _ => k, fun w => by cases w⟩⟩)⟩) (fun _ => ⟨fun _ => ⟨fun _ => k, fun w => by cases w⟩, fun w => absurd rfl w⟩)
theorem s9_asked_ok {Q : Int → xS → Prop} {a v : Int} (h : ag P X S) (ha : 0 ≤ a ∧ a < 9) (hv : 0 ≤ v ∧ v < 4) (k : Q 1 (xup S 54 0 0)) : w_X9_isAsked a v S Q :=
  s9_in (fun _ _ => ⟨fun w => by omega, fun _ => s9_in (fun _ _ => ⟨fun _ => s9_graph_ok h ⟨fun _ => ⟨fun w => absurd rfl w, fun _ => k⟩, fun w => by omega⟩, fun w => by omega⟩) (fun w => absurd ⟨hv.1, by omega⟩ w)⟩) (fun w => absurd ⟨ha.1, by omega⟩ w)
theorem s9_asked_no {Q : Int → xS → Prop} {a v : Int} (h : nog S) (ha : 0 ≤ a ∧ a < 9) (hv : 0 ≤ v ∧ v < 4) (k : Q 0 (xup S 54 0 2)) : w_X9_isAsked a v S Q :=
  s9_in (fun _ _ => ⟨fun w => by omega, fun _ => s9_in (fun _ _ => ⟨fun _ => s9_graph_no h ⟨fun w => absurd rfl w, fun _ => ⟨fun _ => k, fun w => by cases w⟩⟩, fun w => by omega⟩) (fun w => absurd ⟨hv.1, by omega⟩ w)⟩) (fun w => absurd ⟨ha.1, by omega⟩ w)
/-- the states in which a variable is not a number -/
def mw (X : xS) (a v : Int) : Int → Bool := fun s => !decide (sv_dec (X 1 s) 1 a = v)
theorem s5_markWithout {Q : xS → Prop} {a v : Int} (h : ag P X S) (ha : 0 ≤ a ∧ a < 9) (k : ∀ S' : xS, kp rc_L S S' → mq 23 (mw X a v) X S' → Q S') : w_X5_markWithout a v S Q := by
  have n := h.g.1.1
  refine xL1_up (X 0 0) (fun s S' => 0 ≤ s ∧ kp rc_L S S' ∧ ∀ t : Int, 0 ≤ t → t < s → (mw X a v t = true → S' 23 t = 1) ∧ (mw X a v t = false → S' 23 t = 0)) ?_ 0 S (by omega) ⟨by omega, kp.rf, fun t t0 t1 => by omega⟩
  rintro s S1 ⟨s0, a1, b1⟩ hs k2 hk2
  have o1 := h.kp (a1.mono rfl)
  unfold w_X5_markWithout_L2
  rw [o1.g.2.1.1]
  have up : ∀ b : Int, (mw X a v s = true → b = 1) ∧ (mw X a v s = false → b = 0) → s < X 0 0 → (0 ≤ s ∧ s < 2000) ∧ xR (s + 1) ∧ k2 (s + 1) (xup S1 23 s b) := fun b hb hlt => by
    refine ⟨by omega, ⟨by omega, by omega⟩, hk2 _ (by omega) ⟨by omega, a1.up rfl, fun t t0 t1 => ?_⟩⟩
    rw [xup_sm]
    by_cases e : t = s
    · rw [if_pos e, e]; exact hb
    · rw [if_neg e]; exact b1 t t0 (by omega)
  refine ⟨fun z => k S1 a1 (fun t t0 t1 => b1 t t0 (by omega)), fun z => s1_valueIn o1.1.2.2.2.2.1 o1.1.2.2.2.2.2.2.1.1 ⟨s0, by omega⟩ ha ⟨fun y => up 1 ⟨fun _ => rfl, fun w => ?_⟩ (by omega), fun y => up 0 ⟨fun w => ?_, fun _ => rfl⟩ (by omega)⟩⟩
  · unfold mw at w
    rw [decide_eq_false y] at w
    cases w
  · unfold mw at w
    rw [decide_eq_true y] at w
    cases w
theorem s9_laysSet {Q : xS → Prop} {a v : Int} (h : ag P X S) (ha : 0 ≤ a ∧ a < 9) (k : ∀ S' : xS, kp rr_L S S' → mq 95 (mw X a v) X S' → Q S') : w_X9_laysSet a v S Q := by
  have n := h.g.1.1
  refine xL1_up (X 0 0) (fun s S' => 0 ≤ s ∧ kp rr_L S S' ∧ ∀ t : Int, 0 ≤ t → t < s → (mw X a v t = true → S' 95 t = 1) ∧ (mw X a v t = false → S' 95 t = 0)) ?_ 0 S (by omega) ⟨by omega, kp.rf, fun t t0 t1 => by omega⟩
  rintro s S1 ⟨s0, a1, b1⟩ hs k2 hk2
  have o1 := h.kp (a1.mono rfl)
  unfold w_X9_laysSet_L2
  rw [o1.g.2.2.1.1]
  refine ⟨fun z => k S1 a1 (fun t t0 t1 => b1 t t0 (by omega)), fun z => s9_valueIn o1.1.2.2.2.2.1 o1.1.2.2.2.2.2.2.2.1.1 ⟨s0, by omega⟩ ha (fun S2 a2 => ?_)⟩
  have up : ∀ b : Int, (mw X a v s = true → b = 1) ∧ (mw X a v s = false → b = 0) → (0 ≤ s ∧ s < 2000) ∧ xR (s + 1) ∧ k2 (s + 1) (xup S2 95 s b) := fun b hb => by
    refine ⟨by omega, ⟨by omega, by omega⟩, hk2 _ (by omega) ⟨by omega, (a1.tr (a2.mono rfl)).up rfl, fun t t0 t1 => ?_⟩⟩
    rw [xup_sm]
    by_cases e : t = s
    · rw [if_pos e, e]; exact hb
    · rw [if_neg e, a2 95 t rfl]; exact b1 t t0 (by omega)
  refine ⟨fun y => up 0 ⟨fun w => ?_, fun _ => rfl⟩, fun y => up 1 ⟨fun _ => rfl, fun w => ?_⟩⟩
  · unfold mw at w
    rw [decide_eq_true y] at w
    cases w
  · unfold mw at w
    rw [decide_eq_false y] at w
    cases w
/-- the class, once the states are marked -/
theorem s0_part {Q : Int → xS → Prop} {f : Int} (h : ag P X S) (hM : mq 23 m X S) (h1 : ∀ S' : xS, kp rc_L S S' → RR X (tj_al X m (X 0 0).toNat) m (P 54 1) f → Q 1 S') (h0 : ∀ S' : xS, kp rc_L S S' → ¬ RR X (tj_al X m (X 0 0).toNat) m (P 54 1) f → Q 0 S') : w_X0_split S (fun S14 => w_X0_holdsRun f S14 (fun r22 S22 => (r22 = 0 ∨ r22 = 1) ∧ Q r22 S22)) := by
  obtain ⟨g1, g2, g3, g4, g5, g6, g7⟩ := h.g
  obtain ⟨hI, hm, hc⟩ := tI.end (m := m) g1
  have e := CR_RR (f := f) g1 hI hm g4
  refine s0_split g1 g2 hM (fun S1 a1 b1 => s0_holds g1 (g2.kp a1 rfl) hI b1 (fun S2 a2 w => ⟨Or.inr rfl, h1 S2 ((a1.mono rfl).tr (a2.mono rfl)) (e.mp w)⟩) (fun S2 a2 w => ⟨Or.inl rfl, h0 S2 ((a1.mono rfl).tr (a2.mono rfl)) (fun y => w (e.mpr y))⟩))
/-- the reference, once the states are marked -/
theorem s9_part {Q : Int → xS → Prop} {f : Int} (h : ag P X S) (hM : mq 95 m X S) (h1 : ∀ S' : xS, kp rr_L S S' → RR X (tj_al X m (X 0 0).toNat) m (P 54 1) f → Q 1 S') (h0 : ∀ S' : xS, kp rr_L S S' → ¬ RR X (tj_al X m (X 0 0).toNat) m (P 54 1) f → Q 0 S') : w_X9_canStay f S Q := by
  obtain ⟨g1, g2, g3, g4, g5, g6, g7⟩ := h.g
  exact s9_canStay g1 g3 hM g5 g6 (fun S1 a1 w => h1 S1 (a1.mono rfl) w) (fun S1 a1 w => h0 S1 (a1.mono rfl) w)
end PWAG
section PWKR
variable {S : xS} {f : Int → Int} {i : Int}
/-- the reference refuses: nothing but what it tells has changed -/
theorem gZ.no {t : Int} {S1 : xS} (hI : Inv_ S1) (ht : t ≠ 0) : gZ t S1 0 (xup S1 54 0 t) := gZ.mk rfl rfl (fun z => absurd z ht) (Inv_kp hI (kp.rf.up rfl))
theorem gZ.ok {P X S1 S2 : xS} {r : Int} (h : ag P X S1) (hk : kp rr_L (xup S1 54 0 0) S2) (hb : (r = 0 ∧ S1 98 0 = 0) ∨ (¬ r = 0 ∧ S1 98 0 = 1)) : gZ 0 S1 r S2 := by
  have k2 : kp scr S1 S2 := (kp.rf.up rfl).tr (hk.mono rfl)
  refine gZ.mk (hk 33 (-1) rfl) (hk 54 0 rfl) (fun _ => ?_) (Inv_of (on_kp' h.1 k2))
  rw [hk 98 0 rfl]
  exact hb
theorem r22 {a v t : Int} {K : Int → xS → Prop} (hI : Inv_ S) (hK : ∀ (r : Int) (S1 : xS), w_X9_recurs a v t S1 (gZ r S1) → K r S1) : w_L_recurs a v t S K := by
  have bad : ∀ {S1 : xS}, Inv_ S1 → ¬ ((0 ≤ a ∧ a < 9) ∧ (0 ≤ v ∧ v < 4)) → K 1 S1 := fun h w => hK 1 _ (s9_asked_bad w ⟨fun y => absurd rfl y, fun _ => gZ.no h (by decide)⟩)
  unfold w_L_recurs w_X8_recurs
  refine s8_needVariable (fun a0 a1' => s8_needNumber (fun v0 v1 => ?_) (fun w => Or.inl ⟨rfl, bad hI (fun y => w y.2)⟩)) (fun w => Or.inl ⟨rfl, bad hI (fun y => w y.1)⟩)
  rcases Inv_g hI with ⟨P, X, h⟩ | h
  · have fin : ∀ (b : Int) (S1 : xS), kp rc_L S S1 → ((b = 1 ∧ ¬ RR X (tj_al X (mw X a v) (X 0 0).toNat) (mw X a v) (P 54 1) t) ∨ (b = 0 ∧ RR X (tj_al X (mw X a v) (X 0 0).toNat) (mw X a v) (P 54 1) t)) → K 0 (xup S1 98 0 b) := by
      intro b S1 a1 hb
      have h1 := (h.kp (a1.mono rfl)).kp (S' := xup S1 98 0 b) (kp.rf.up rfl)
      have h2 := h1.kp (S' := xup (xup S1 98 0 b) 54 0 0) (kp.rf.up rfl)
      refine hK 0 _ (s9_asked_ok h1 ⟨a0, a1'⟩ ⟨v0, v1⟩ ⟨fun _ => s9_laysSet h2 ⟨a0, a1'⟩ (fun S2 a2 b2 => s9_part (h2.kp (a2.mono rfl)) b2 (fun S3 a3 w => ⟨fun _ => gZ.ok h1 (a2.tr a3) (Or.inl ⟨rfl, ?_⟩), fun y => by omega⟩) (fun S3 a3 w => ⟨fun y => absurd rfl y, fun _ => gZ.ok h1 (a2.tr a3) (Or.inr ⟨by decide, ?_⟩)⟩)), fun y => by omega⟩)
      · rcases hb with ⟨-, y⟩ | ⟨y, -⟩
        · exact absurd w y
        · exact y
      · rcases hb with ⟨y, -⟩ | ⟨-, y⟩
        · exact y
        · exact absurd y w
    refine s8_all_ok h (s5_markWithout h ⟨a0, a1'⟩ (fun S1 k1 b1 => s0_part (h.kp (k1.mono rfl)) b1 (fun S2 k2 w => ⟨fun _ => ⟨(k2 33 (-1) rfl).trans (k1 33 (-1) rfl), fun _ => fin 0 S2 (k1.tr k2) (Or.inr ⟨rfl, w⟩), fun y => absurd rfl y⟩, fun y => by omega⟩) (fun S2 k2 w => ⟨fun y => absurd rfl y, fun _ => ⟨(k2 33 (-1) rfl).trans (k1 33 (-1) rfl), fun y => by omega, fun _ => fin 1 S2 (k1.tr k2) (Or.inl ⟨rfl, w⟩)⟩⟩)))
  · exact s8_all_no h (Or.inr ⟨rfl, hK 2 _ (s9_asked_no h ⟨a0, a1'⟩ ⟨v0, v1⟩ ⟨fun y => absurd rfl y, fun _ => gZ.no hI (by decide)⟩)⟩)
theorem k_22 (hI : Inv_ S) : w_K22 f i S Inv_ := by
  refine ⟨fun z => ?_, fun z => ?_⟩
  · exact r22 hI (fun r S1 w => ⟨fun _ => w, fun y => absurd z y⟩)
  · exact r22 hI (fun r S1 w => ⟨fun y => absurd y z, fun _ => w⟩)
end PWKR

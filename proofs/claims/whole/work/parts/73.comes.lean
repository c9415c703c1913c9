/-! pure layer: comes, follows -/
section PWCM
variable {P S X : xS} {W : Int → Bool} {Sd : Int → Prop}
theorem oI.of (h : ∀ s : Int, 0 ≤ s → s < X 0 0 → (Sd s → S 96 s = 1) ∧ (¬ Sd s → S 96 s = 0)) : oI X W Sd S := fun s s0 s1 => by
  obtain ⟨h1, h0⟩ := h s s0 s1
  by_cases q : Sd s
  · exact ⟨Or.inr (h1 q), fun _ => rs.seed s0 s1 q, h1⟩
  · exact ⟨Or.inl (h0 q), fun w => by rw [h0 q] at w; omega, fun w => absurd w q⟩
/-- the class spreads, splits and looks -/
theorem s5_rest {Q : Int → xS → Prop} {a v f : Int} (h : ag P X S) (ha : 0 ≤ a ∧ a < 9) (hq : qI X (mw X a v) Sd S) (hs : ∀ t : Int, 0 ≤ t → t < X 0 0 → Sd t → S 23 t = 1) (h1 : ∀ S' : xS, kp rc_L S S' → RR X (tj_al X (rsm X (mw X a v) Sd) (X 0 0).toNat) (rsm X (mw X a v) Sd) (P 54 1) f → Q 1 S') (h0 : ∀ S' : xS, kp rc_L S S' → ¬ RR X (tj_al X (rsm X (mw X a v) Sd) (X 0 0).toNat) (rsm X (mw X a v) Sd) (P 54 1) f → Q 0 S') : w_X5_spread a v S (fun S14 => w_X0_split S14 (fun S25 => w_X0_holdsRun f S25 (fun r33 S33 => (r33 = 0 ∨ r33 = 1) ∧ Q r33 S33))) :=
  s5_spread h ha hq hs (fun S1 a1 b1 => s0_part (h.kp (a1.mono rfl)) b1 (fun S2 a2 w => h1 S2 ((a1.mono rfl).tr a2) w) (fun S2 a2 w => h0 S2 ((a1.mono rfl).tr a2) w))
/-- the reference narrows and looks -/
theorem s9_rest {Q : Int → xS → Prop} {f : Int} (h : ag P X S) (hM : mq 95 W X S) (hs : ∀ s : Int, 0 ≤ s → s < X 0 0 → (Sd s → S 96 s = 1) ∧ (¬ Sd s → S 96 s = 0)) (hSW : ∀ t : Int, 0 ≤ t → t < X 0 0 → Sd t → W t = true) (h1 : ∀ S' : xS, kp rr_L S S' → RR X (tj_al X (rsm X W Sd) (X 0 0).toNat) (rsm X W Sd) (P 54 1) f → Q 1 S') (h0 : ∀ S' : xS, kp rr_L S S' → ¬ RR X (tj_al X (rsm X W Sd) (X 0 0).toNat) (rsm X W Sd) (P 54 1) f → Q 0 S') : w_X9_narrows S (fun S63 => w_X9_canStay f S63 Q) :=
  s9_narrows h.g.1 h.g.2.2.1 hM (oI.of hs) hSW (fun S1 a1 b1 => s9_part (h.kp (a1.mono rfl)) b1 (fun S2 a2 w => h1 S2 ((a1.mono rfl).tr a2) w) (fun S2 a2 w => h0 S2 ((a1.mono rfl).tr a2) w))
end PWCM
section PWK4
variable {S : xS} {f : Int → Int} {i : Int}
theorem r24 {a v t : Int} {K : Int → xS → Prop} (hI : Inv_ S) (hK : ∀ (r : Int) (S1 : xS), w_X9_comes a v t S1 (gZ r S1) → K r S1) : w_L_comes a v t S K := by
  have bad : ∀ {S1 : xS}, Inv_ S1 → ¬ ((0 ≤ a ∧ a < 9) ∧ (0 ≤ v ∧ v < 4)) → K 1 S1 := fun h w => hK 1 _ (s9_asked_bad w ⟨fun y => absurd rfl y, fun _ => gZ.no h (by decide)⟩)
  unfold w_L_comes w_X8_comes
  refine s8_needVariable (fun a0 a1' => s8_needNumber (fun v0 v1 => ?_) (fun w => Or.inl ⟨rfl, bad hI (fun y => w y.2)⟩)) (fun w => Or.inl ⟨rfl, bad hI (fun y => w y.1)⟩)
  rcases Inv_g hI with ⟨P, X, h⟩ | h
  · have n := h.g.1.1
    generalize hSd : (fun t : Int => t = 0 ∧ mw X a v t = true) = Sd
    have sd : ∀ t : Int, Sd t ↔ (t = 0 ∧ mw X a v t = true) := fun t => by rw [← hSd]
    have hSW : ∀ t : Int, 0 ≤ t → t < X 0 0 → Sd t → mw X a v t = true := fun t _ _ w => ((sd t).mp w).2
    have fin : ∀ (b : Int) (S1 : xS), kp rc_L S S1 → ((b = 1 ∧ ¬ RR X (tj_al X (rsm X (mw X a v) Sd) (X 0 0).toNat) (rsm X (mw X a v) Sd) (P 54 1) t) ∨ (b = 0 ∧ RR X (tj_al X (rsm X (mw X a v) Sd) (X 0 0).toNat) (rsm X (mw X a v) Sd) (P 54 1) t)) → K 0 (xup S1 98 0 b) := by
      intro b S1 a1 hb
      have h1 := (h.kp (a1.mono rfl)).kp (S' := xup S1 98 0 b) (kp.rf.up rfl)
      have h2 := h1.kp (S' := xup (xup S1 98 0 b) 54 0 0) (kp.rf.up rfl)
      refine hK 0 _ (s9_asked_ok h1 ⟨a0, a1'⟩ ⟨v0, v1⟩ ⟨fun _ => s9_laysSet h2 ⟨a0, a1'⟩ (fun S2 a2 b2 => ?_), fun y => by omega⟩)
      refine xL1_up (X 0 0) (fun s S' => 0 ≤ s ∧ kp rr_L (xup (xup S1 98 0 b) 54 0 0) S' ∧ mq 95 (mw X a v) X S' ∧ ∀ u : Int, 0 ≤ u → u < s → (Sd u → S' 96 u = 1) ∧ (¬ Sd u → S' 96 u = 0)) ?_ 0 S2 (by omega) ⟨by omega, a2, b2, fun u u0 u1 => by omega⟩
      rintro s S3 ⟨s0, a3, b3, c3⟩ hs k2 hk2
      have h3 := h2.kp (a3.mono rfl)
      unfold w_X9_comes_L20
      rw [h3.g.2.2.1.1]
      refine ⟨fun z => ?_, fun z => ?_⟩
      · unfold w_X9_comes_J62
        refine s9_rest (Q := fun r68 S68 => ((¬ r68 = 0 → gZ 0 (xup S1 98 0 b) 0 S68) ∧ (r68 = 0 → gZ 0 (xup S1 98 0 b) 1 S68))) h3 b3 (fun u u0 u1 => c3 u u0 (by omega)) hSW (fun S4 a4 w => ⟨fun _ => gZ.ok h1 (a3.tr a4) (Or.inl ⟨rfl, ?_⟩), fun y => by omega⟩) (fun S4 a4 w => ⟨fun y => absurd rfl y, fun _ => gZ.ok h1 (a3.tr a4) (Or.inr ⟨by decide, ?_⟩)⟩)
        · rcases hb with ⟨-, y⟩ | ⟨y, -⟩
          · exact absurd w y
          · exact y
        · rcases hb with ⟨y, -⟩ | ⟨-, y⟩
          · exact y
          · exact absurd y w
      · have up : ∀ c : Int, (Sd s → c = 1) ∧ (¬ Sd s → c = 0) → xR (s + 1) ∧ k2 (s + 1) (xup S3 96 s c) := fun c hc => by
          refine ⟨⟨by omega, by omega⟩, hk2 _ (by omega) ⟨by omega, a3.up rfl, b3.kp ((kp.rf (L := [(96, -9)])).up rfl) (fun _ => rfl), fun u u0 u1 => ?_⟩⟩
          rw [xup_sm]
          by_cases q : u = s
          · rw [if_pos q, q]; exact hc
          · rw [if_neg q]; exact c3 u u0 (by omega)
        have m := b3 s s0 (by omega)
        refine ⟨fun y => ⟨by omega, up 0 ⟨fun w => absurd ((sd s).mp w).1 y, fun _ => rfl⟩⟩, fun y => ⟨by omega, fun x => up 0 ⟨fun w => ?_, fun _ => rfl⟩, fun x => up 1 ⟨fun _ => rfl, fun w => absurd ((sd s).mpr ⟨y, ?_⟩) w⟩⟩⟩
        · have := m.1 ((sd s).mp w).2
          omega
        · rcases Bool.eq_false_or_eq_true (mw X a v s) with q | q
          · exact q
          · exact absurd (m.2 q) x
    have kz : kp rc_L S (xup (xfill S 23 2000 0) 3 5 0) := (kp.rf.fill (fun _ => rfl)).up rfl
    refine s8_all_ok h (s5_mark (Sd := Sd) (h.kp (kz.mono rfl)) ⟨a0, a1'⟩ (by omega) (by omega) (qI.zero h.g.1) (fun w => rs.seed (by omega) (by omega) ((sd 0).mpr ⟨rfl, w⟩)) (fun S1 k1 q1 _ w1 _ _ => ?_))
    have kk : kp rc_L S S1 := kz.tr (k1.mono rfl)
    refine s5_rest (Q := fun r19 S19 => ((¬ r19 = 0 → (S19 33 (-1) = S 33 (-1)) ∧ (fun r7 S7 => ((r7 = 0 → K 0 (xup S7 98 0 0)) ∧ (¬ r7 = 0 → K 0 (xup S7 98 0 1)))) (0 : Int) S19) ∧ (r19 = 0 → (S19 33 (-1) = S 33 (-1)) ∧ (fun r7 S7 => ((r7 = 0 → K 0 (xup S7 98 0 0)) ∧ (¬ r7 = 0 → K 0 (xup S7 98 0 1)))) (1 : Int) S19))) (h.kp (kk.mono rfl)) ⟨a0, a1'⟩ q1 (fun t t0 t1 w => ?_) (fun S2 k2 w => ⟨fun _ => ⟨(k2 33 (-1) rfl).trans (kk 33 (-1) rfl), fun _ => fin 0 S2 (kk.tr k2) (Or.inr ⟨rfl, w⟩), fun y => absurd rfl y⟩, fun y => by omega⟩) (fun S2 k2 w => ⟨fun y => absurd rfl y, fun _ => ⟨(k2 33 (-1) rfl).trans (kk 33 (-1) rfl), fun y => by omega, fun _ => fin 1 S2 (kk.tr k2) (Or.inl ⟨rfl, w⟩)⟩⟩)
    obtain ⟨w2, w3⟩ := (sd t).mp w
    rw [w2] at w3 ⊢
    exact w1 w3
  · exact s8_all_no h (Or.inr ⟨rfl, hK 2 _ (s9_asked_no h ⟨a0, a1'⟩ ⟨v0, v1⟩ ⟨fun y => absurd rfl y, fun _ => gZ.no hI (by decide)⟩)⟩)
theorem k_24 (hI : Inv_ S) : w_K24 f i S Inv_ := by
  refine ⟨fun z => ?_, fun z => ?_⟩
  · exact r24 hI (fun r S1 w => ⟨fun _ => w, fun y => absurd z y⟩)
  · exact r24 hI (fun r S1 w => ⟨fun y => absurd y z, fun _ => w⟩)
/-- what follows asks first -/
theorem s9_fol_bad {a v b w t : Int} {Q : Int → xS → Prop} (h : ¬ ((0 ≤ a ∧ a < 9) ∧ (0 ≤ v ∧ v < 4) ∧ (0 ≤ b ∧ b < 9) ∧ (0 ≤ w ∧ w < 4))) (k : Q 0 (xup S 54 0 1)) : w_X9_follows a v b w t S Q := by
  have j40 : (fun S40 => (fun (t0 : Int) (S56 : xS) => w_X9_follows_J56 a v b w t Q t0 S56) 1 S40) S := ⟨fun y => by omega, fun _ => k⟩
  exact s9_in (fun a0 a1 => ⟨fun y => by omega, fun _ => s9_in (fun b0 b1 => ⟨fun y => by omega, fun _ => s9_in (fun c0 c1 => ⟨fun y => by omega, fun _ => s9_in (fun d0 d1 => absurd ⟨⟨a0, by omega⟩, ⟨b0, by omega⟩, ⟨c0, by omega⟩, d0, by omega⟩ h) (fun _ => ⟨fun y => absurd rfl y, fun _ => j40⟩)⟩) (fun _ => ⟨fun _ => j40, fun y => absurd rfl y⟩)⟩) (fun _ => ⟨fun _ => j40, fun y => absurd rfl y⟩)⟩) (fun _ => ⟨fun _ => j40, fun y => absurd rfl y⟩)
theorem s9_fol_in {a v b w t : Int} {Q : Int → xS → Prop} (ha : 0 ≤ a ∧ a < 9) (hv : 0 ≤ v ∧ v < 4) (hb : 0 ≤ b ∧ b < 9) (hw : 0 ≤ w ∧ w < 4) (k : w_X9_isGraph S (fun r45 S45 => ((¬ r45 = 0 → w_X9_follows_J56 a v b w t Q 0 S45) ∧ (r45 = 0 → w_X9_follows_J56 a v b w t Q 2 S45)))) : w_X9_follows a v b w t S Q :=
  s9_in (fun _ _ => ⟨fun y => by omega, fun _ => s9_in (fun _ _ => ⟨fun y => by omega, fun _ => s9_in (fun _ _ => ⟨fun y => by omega, fun _ => s9_in (fun _ _ => ⟨fun _ => k, fun y => by omega⟩) (fun y => absurd ⟨hw.1, by omega⟩ y)⟩) (fun y => absurd ⟨hb.1, by omega⟩ y)⟩) (fun y => absurd ⟨hv.1, by omega⟩ y)⟩) (fun y => absurd ⟨ha.1, by omega⟩ y)
theorem r25 {a v b w t : Int} {K : Int → xS → Prop} (hI : Inv_ S) (hK : ∀ (r : Int) (S1 : xS), w_X9_follows a v b w t S1 (gZ r S1) → K r S1) : w_L_follows a v b w t S K := by
  have bad : ∀ {S1 : xS}, Inv_ S1 → ¬ ((0 ≤ a ∧ a < 9) ∧ (0 ≤ v ∧ v < 4) ∧ (0 ≤ b ∧ b < 9) ∧ (0 ≤ w ∧ w < 4)) → K 1 S1 := fun h y => hK 1 _ (s9_fol_bad y (gZ.no h (by decide)))
  unfold w_L_follows w_X8_follows
  refine s8_needVariable (fun a0 a1' => s8_needNumber (fun v0 v1 => s8_needVariable (fun c0 c1 => s8_needNumber (fun d0 d1 => ?_) (fun x => Or.inl ⟨rfl, bad hI (fun y => x y.2.2.2)⟩)) (fun x => Or.inl ⟨rfl, bad hI (fun y => x y.2.2.1)⟩)) (fun x => Or.inl ⟨rfl, bad hI (fun y => x y.2.1)⟩)) (fun x => Or.inl ⟨rfl, bad hI (fun y => x y.1)⟩)
  rcases Inv_g hI with ⟨P, X, h⟩ | h
  · have n := h.g.1.1
    generalize hSd : (fun t : Int => sv_dec (X 1 t) 1 a = v ∧ mw X b w t = true) = Sd
    have sd : ∀ t : Int, Sd t ↔ (sv_dec (X 1 t) 1 a = v ∧ mw X b w t = true) := fun t => by rw [← hSd]
    have hSW : ∀ t : Int, 0 ≤ t → t < X 0 0 → Sd t → mw X b w t = true := fun t _ _ x => ((sd t).mp x).2
    have fin : ∀ (e : Int) (S1 : xS), kp rc_L S S1 → ((e = 1 ∧ ¬ RR X (tj_al X (rsm X (mw X b w) Sd) (X 0 0).toNat) (rsm X (mw X b w) Sd) (P 54 1) t) ∨ (e = 0 ∧ RR X (tj_al X (rsm X (mw X b w) Sd) (X 0 0).toNat) (rsm X (mw X b w) Sd) (P 54 1) t)) → K 0 (xup S1 98 0 e) := by
      intro e S1 a1 hb
      have h1 := (h.kp (a1.mono rfl)).kp (S' := xup S1 98 0 e) (kp.rf.up rfl)
      have h2 := h1.kp (S' := xup (xup S1 98 0 e) 54 0 0) (kp.rf.up rfl)
      refine hK 0 _ (s9_fol_in ⟨a0, a1'⟩ ⟨v0, v1⟩ ⟨c0, c1⟩ ⟨d0, d1⟩ (s9_graph_ok h1 ⟨fun _ => ⟨fun _ => s9_laysSet h2 ⟨c0, c1⟩ (fun S2 a2 b2 => ?_), fun y => absurd (Int.le_refl 0) y⟩, fun y => by omega⟩))
      refine xL1_up (X 0 0) (fun s S' => 0 ≤ s ∧ kp rr_L (xup (xup S1 98 0 e) 54 0 0) S' ∧ mq 95 (mw X b w) X S' ∧ ∀ u : Int, 0 ≤ u → u < s → (Sd u → S' 96 u = 1) ∧ (¬ Sd u → S' 96 u = 0)) ?_ 0 S2 (by omega) ⟨by omega, a2, b2, fun u u0 u1 => by omega⟩
      rintro s S3 ⟨s0, a3, b3, c3⟩ hs k2 hk2
      have h3 := h2.kp (a3.mono rfl)
      unfold w_X9_follows_L78
      rw [h3.g.2.2.1.1]
      refine ⟨fun z => ?_, fun z => ?_⟩
      · unfold w_X9_follows_J126
        refine s9_rest (Q := fun r68 S68 => ((¬ r68 = 0 → gZ 0 (xup S1 98 0 e) 0 S68) ∧ (r68 = 0 → gZ 0 (xup S1 98 0 e) 1 S68))) h3 b3 (fun u u0 u1 => c3 u u0 (by omega)) hSW (fun S4 a4 x => ⟨fun _ => gZ.ok h1 (a3.tr a4) (Or.inl ⟨rfl, ?_⟩), fun y => by omega⟩) (fun S4 a4 x => ⟨fun y => absurd rfl y, fun _ => gZ.ok h1 (a3.tr a4) (Or.inr ⟨by decide, ?_⟩)⟩)
        · rcases hb with ⟨-, y⟩ | ⟨y, -⟩
          · exact absurd x y
          · exact y
        · rcases hb with ⟨y, -⟩ | ⟨-, y⟩
          · exact y
          · exact absurd y x
      · have up : ∀ (S5 : xS) (c : Int), kp sv_L9h S3 S5 → (Sd s → c = 1) ∧ (¬ Sd s → c = 0) → xR (s + 1) ∧ k2 (s + 1) (xup S5 96 s c) := fun S5 c k5 hc => by
          refine ⟨⟨by omega, by omega⟩, hk2 _ (by omega) ⟨by omega, (a3.tr (k5.mono rfl)).up rfl, (b3.kp k5 (fun _ => rfl)).kp ((kp.rf (L := [(96, -9)])).up rfl) (fun _ => rfl), fun u u0 u1 => ?_⟩⟩
          rw [xup_sm]
          by_cases q : u = s
          · rw [if_pos q, q]; exact hc
          · rw [if_neg q, k5 96 u rfl]; exact c3 u u0 (by omega)
        have m := b3 s s0 (by omega)
        refine ⟨by omega, fun y => up S3 0 kp.rf ⟨fun x => ?_, fun _ => rfl⟩, fun y => s9_valueIn h3.1.2.2.2.2.1 h3.1.2.2.2.2.2.2.2.1.1 ⟨s0, by omega⟩ ⟨a0, a1'⟩ (fun S5 k5 => ⟨fun x => up S5 0 k5 ⟨fun q => absurd ((sd s).mp q).1 x, fun _ => rfl⟩, fun x => up S5 1 k5 ⟨fun _ => rfl, fun q => absurd ((sd s).mpr ⟨x, ?_⟩) q⟩⟩)⟩
        · have := m.1 ((sd s).mp x).2
          omega
        · rcases Bool.eq_false_or_eq_true (mw X b w s) with q | q
          · exact q
          · exact absurd (m.2 q) y
    have kz : kp rc_L S (xup (xfill S 23 2000 0) 3 5 0) := (kp.rf.fill (fun _ => rfl)).up rfl
    refine s8_all_ok h ?_
    refine xL1_up (X 0 0) (fun s S' => 0 ≤ s ∧ kp rc_L S S' ∧ qI X (mw X b w) Sd S' ∧ ∀ u : Int, 0 ≤ u → u < s → Sd u → S' 23 u = 1) ?_ 0 _ (by omega) ⟨by omega, kz, qI.zero h.g.1, fun u u0 u1 => by omega⟩
    rintro s S1 ⟨s0, k1, q1, c1'⟩ hs k2 hk2
    have h1 := h.kp (k1.mono rfl)
    unfold w_X5_canMissBehind_L7
    rw [h1.g.2.1.1]
    refine ⟨fun z => ?_, fun z => s1_valueIn h1.1.2.2.2.2.1 h1.1.2.2.2.2.2.2.1.1 ⟨s0, by omega⟩ ⟨a0, a1'⟩ ⟨fun y => ⟨⟨by omega, by omega⟩, hk2 S1 (by omega) ⟨by omega, k1, q1, fun u u0 u1 x => ?_⟩⟩, fun y => s5_mark h1 ⟨c0, c1⟩ s0 (by omega) q1 (fun x => rs.seed s0 (by omega) ((sd s).mpr ⟨y, x⟩)) (fun S2 k2' q2 m2 w2 _ _ => ⟨⟨by omega, by omega⟩, hk2 S2 (by omega) ⟨by omega, k1.tr (k2'.mono rfl), q2, fun u u0 u1 x => ?_⟩⟩)⟩⟩
    · unfold w_X5_canMissBehind_J48
      refine s5_rest (Q := fun r19 S19 => ((¬ r19 = 0 → (S19 33 (-1) = S 33 (-1)) ∧ (fun r7 S7 => ((r7 = 0 → K 0 (xup S7 98 0 0)) ∧ (¬ r7 = 0 → K 0 (xup S7 98 0 1)))) (0 : Int) S19) ∧ (r19 = 0 → (S19 33 (-1) = S 33 (-1)) ∧ (fun r7 S7 => ((r7 = 0 → K 0 (xup S7 98 0 0)) ∧ (¬ r7 = 0 → K 0 (xup S7 98 0 1)))) (1 : Int) S19))) h1 ⟨c0, c1⟩ q1 (fun u u0 u1 x => c1' u u0 (by omega) x) (fun S2 k2 x => ⟨fun _ => ⟨(k2 33 (-1) rfl).trans (k1 33 (-1) rfl), fun _ => fin 0 S2 (k1.tr k2) (Or.inr ⟨rfl, x⟩), fun y => absurd rfl y⟩, fun y => by omega⟩) (fun S2 k2 x => ⟨fun y => absurd rfl y, fun _ => ⟨(k2 33 (-1) rfl).trans (k1 33 (-1) rfl), fun y => by omega, fun _ => fin 1 S2 (k1.tr k2) (Or.inl ⟨rfl, x⟩)⟩⟩)
    · by_cases q : u = s
      · rw [q] at x
        exact absurd ((sd s).mp x).1 y
      · exact c1' u u0 (by omega) x
    · by_cases q : u = s
      · rw [q] at x ⊢
        exact w2 ((sd s).mp x).2
      · exact m2 u (c1' u u0 (by omega) x)
  · exact s8_all_no h (Or.inr ⟨rfl, hK 2 _ (s9_fol_in ⟨a0, a1'⟩ ⟨v0, v1⟩ ⟨c0, c1⟩ ⟨d0, d1⟩ (s9_graph_no h ⟨fun y => absurd rfl y, fun _ => ⟨fun y => by omega, fun _ => gZ.no hI (by decide)⟩⟩))⟩)
theorem k_25 (hI : Inv_ S) : w_K25 f i S Inv_ := by
  refine ⟨fun z => ?_, fun z => ?_⟩
  · exact r25 hI (fun r S1 w => ⟨fun _ => w, fun y => absurd z y⟩)
  · exact r25 hI (fun r S1 w => ⟨fun y => absurd y z, fun _ => w⟩)
end PWK4

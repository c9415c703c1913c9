/-! pure layer: distance, components -/
section PWDI
variable {P S X : xS}
theorem s1_firstWith {Q : Int → xS → Prop} {a v : Int} (h : ag P X S) (ha : 0 ≤ a ∧ a < 9) (h1 : ∀ s : Int, 0 ≤ s → s < X 0 0 → sv_dec (X 1 s) 1 a = v → (∀ t : Int, 0 ≤ t → t < s → sv_dec (X 1 t) 1 a ≠ v) → Q s S) (h0 : (∀ t : Int, 0 ≤ t → t < X 0 0 → sv_dec (X 1 t) 1 a ≠ v) → Q (-1) S) : w_X1_firstWith a v S Q := by
  have n := h.g.1.1
  have e4 := h.g.2.2.2.2.2.2
  refine xL1_up (X 0 0) (fun s S' => S' = S ∧ 0 ≤ s ∧ ∀ t : Int, 0 ≤ t → t < s → sv_dec (X 1 t) 1 a ≠ v) ?_ 0 S (by omega) ⟨rfl, by omega, fun t t0 t1 => by omega⟩
  rintro s S1 ⟨rfl, s0, b1⟩ hs k2 hk2
  unfold w_X1_firstWith_L2
  rw [e4]
  refine ⟨fun z => h0 (fun t t0 t1 => b1 t t0 (by omega)), fun z => s1_valueIn h.1.2.2.2.2.1 h.1.2.2.2.2.2.2.1.1 ⟨s0, by omega⟩ ha ⟨fun y => ⟨⟨by omega, by omega⟩, hk2 S1 (by omega) ⟨rfl, by omega, fun t t0 t1 => ?_⟩⟩, fun y => h1 s s0 (by omega) y b1⟩⟩
  by_cases e : t = s
  · rw [e]; exact y
  · exact b1 t t0 (by omega)
theorem s9_distL {Q : Int → xS → Prop} {a v : Int} {j44 : xS → Prop} (h : ag P X S) (ha : 0 ≤ a ∧ a < 9) (h1 : ∀ (s : Int) (S' : xS), kp rr_L S S' → 0 ≤ s → s < X 0 0 → sv_dec (X 1 s) 1 a = v → (∀ t : Int, 0 ≤ t → t < s → sv_dec (X 1 t) 1 a ≠ v) → Q (X 4 s) S') (h0 : ∀ S' : xS, kp rr_L S S' → (∀ t : Int, 0 ≤ t → t < X 0 0 → sv_dec (X 1 t) 1 a ≠ v) → j44 S') : xL1 (w_X9_distance_L13 a v Q j44) 0 S := by
  have n := h.g.1.1
  refine xL1_up (X 0 0) (fun s S' => kp rr_L S S' ∧ 0 ≤ s ∧ ∀ t : Int, 0 ≤ t → t < s → sv_dec (X 1 t) 1 a ≠ v) ?_ 0 S (by omega) ⟨kp.rf, by omega, fun t t0 t1 => by omega⟩
  rintro s S1 ⟨a1, s0, b1⟩ hs k2 hk2
  have o1 := h.kp (a1.mono rfl)
  unfold w_X9_distance_L13
  rw [o1.g.2.2.1.1]
  refine ⟨fun z => h0 S1 a1 (fun t t0 t1 => b1 t t0 (by omega)), fun z => s9_valueIn o1.1.2.2.2.2.1 o1.1.2.2.2.2.2.2.2.1.1 ⟨s0, by omega⟩ ha (fun S2 a2 => ⟨fun y => ⟨⟨by omega, by omega⟩, hk2 S2 (by omega) ⟨a1.tr (a2.mono rfl), by omega, fun t t0 t1 => ?_⟩⟩, fun y => ⟨by omega, ?_⟩⟩)⟩
  · by_cases e : t = s
    · rw [e]; exact y
    · exact b1 t t0 (by omega)
  · have o2 := o1.kp (a2.mono rfl)
    rw [((o2.1.2.2.2.2.2.2.2.1.1).2.2.2.2.2.2.1 s s0 (by omega)).2.2.2]
    exact h1 s S2 (a1.tr (a2.mono rfl)) s0 (by omega) y b1
end PWDI
section PWKD
variable {S : xS} {f : Int → Int} {i : Int}
theorem gF.no {t r : Int} {S1 : xS} (hI : Inv_ S1) (ht : t ≠ 0) : gF t S1 r (xup S1 54 0 t) := gF.mk rfl rfl (fun z => absurd z ht) (Inv_kp hI (kp.rf.up rfl))
theorem gF.ok {P X S1 S2 : xS} {r : Int} (h : ag P X S1) (hk : kp rr_L (xup S1 54 0 0) S2) (hb : S1 98 0 = r) : gF 0 S1 r S2 := by
  have k2 : kp scr S1 S2 := (kp.rf.up rfl).tr (hk.mono rfl)
  refine gF.mk (hk 33 (-1) rfl) (hk 54 0 rfl) (fun _ => ?_) (Inv_of (on_kp' h.1 k2))
  rw [hk 98 0 rfl]
  exact hb
theorem k_26 (hI : Inv_ S) : w_K26 f i S Inv_ := by
  show w_L_distance (f (i + 1)) (f (i + 2)) S (fun t S1 => w_X9_distance (f (i + 1)) (f (i + 2)) S1 (gF t S1))
  generalize f (i + 1) = a
  generalize f (i + 2) = v
  have bad : ¬ ((0 ≤ a ∧ a < 9) ∧ (0 ≤ v ∧ v < 4)) → w_X9_distance a v S (gF 1 S) := fun w => s9_asked_bad w ⟨fun y => absurd rfl y, fun _ => gF.no hI (by decide)⟩
  unfold w_L_distance w_X8_distance
  refine s8_needVariable (fun a0 a1 => s8_needNumber (fun v0 v1 => ?_) (fun w => Or.inl ⟨rfl, bad (fun y => w y.2)⟩)) (fun w => Or.inl ⟨rfl, bad (fun y => w y.1)⟩)
  rcases Inv_g hI with ⟨P, X, h⟩ | h
  · have n := h.g.1.1
    refine s8_all_ok h (s1_firstWith h ⟨a0, a1⟩ (fun s s0 s1 sv hpre => ⟨fun _ => ⟨by omega, rfl, ?_⟩, fun y => by omega⟩) (fun hno => ⟨fun y => absurd rfl y, fun _ => ⟨rfl, Or.inr (Or.inr ⟨rfl, ?_⟩)⟩⟩))
    · have e29 := (h.1.2.2.2.2.2.2.1.1.2.2.2.2.2.1 s s0 s1).2.2.2.2.1
      rw [e29]
      have h1 := h.kp (S' := xup S 98 0 (X 4 s)) (kp.rf.up rfl)
      have h2 := h1.kp (S' := xup (xup S 98 0 (X 4 s)) 54 0 0) (kp.rf.up rfl)
      refine s9_asked_ok h1 ⟨a0, a1⟩ ⟨v0, v1⟩ ⟨fun _ => s9_distL h2 ⟨a0, a1⟩ (fun t S2 k2 t0 t1 tv tpre => ?_) (fun S2 k2 hno => absurd sv (hno s s0 s1)), fun y => by omega⟩
      have e : t = s := by
        by_cases l : t < s
        · exact absurd tv (hpre t t0 l)
        · by_cases r : s < t
          · exact absurd sv (tpre s s0 r)
          · omega
      rw [e]
      exact gF.ok h1 k2 rfl
    · have h2 := h.kp (S' := xup S 54 0 0) (kp.rf.up rfl)
      refine s9_asked_ok h ⟨a0, a1⟩ ⟨v0, v1⟩ ⟨fun _ => s9_distL h2 ⟨a0, a1⟩ (fun t S2 k2 t0 t1 tv tpre => absurd tv (hno t t0 t1)) (fun S2 k2 _ => ?_), fun y => by omega⟩
      have k3 : kp scr S (xup S2 54 0 3) := ((kp.rf.up rfl).tr (k2.mono rfl)).up rfl
      exact gF.mk (k2 33 (-1) rfl) rfl (fun z => by omega) (Inv_of (on_kp' h.1 k3))
  · exact s8_all_no h (Or.inr (Or.inl ⟨rfl, s9_asked_no h ⟨a0, a1⟩ ⟨v0, v1⟩ ⟨fun y => absurd rfl y, fun _ => gF.no hI (by decide)⟩⟩))
theorem k_27 (hI : Inv_ S) : w_K27 f i S Inv_ := by
  show w_L_components S (fun t S1 => w_X9_components S1 (gF t S1))
  unfold w_L_components w_X8_components w_X5_countComponents
  rcases Inv_g hI with ⟨P, X, h⟩ | h
  · obtain ⟨g1, g2, g3, g4, g5, g6, g7⟩ := h.g
    have n := g1.1
    have k0 : kp rc_L S (xfill S 23 2000 1) := kp.rf.fill (fun _ => rfl)
    have hm : mq 23 (fun _ => true) X (xfill S 23 2000 1) := fun s s0 s1 => ⟨fun _ => by rw [xfill_at, if_pos ⟨rfl, s0, by omega⟩], fun w => by cases w⟩
    refine s8_all_ok h (s0_split g1 (g2.kp k0 rfl) hm (fun S1 a1 b1 => ⟨(a1 33 (-1) rfl).trans (k0 33 (-1) rfl), ?_⟩))
    rw [b1.1]
    generalize hc : (tj_al X (fun _ => true) (X 0 0).toNat) 0 0 = c
    have h1 := (h.kp ((k0.tr (a1.mono rfl)).mono rfl)).kp (S' := xup S1 98 0 c) (kp.rf.up rfl)
    have h2 := h1.kp (S' := xup (xup S1 98 0 c) 54 0 0) (kp.rf.up rfl)
    unfold w_X9_components
    refine s9_graph_ok h1 ⟨fun y => by omega, fun _ => ⟨fun _ => ?_, fun y => absurd (Int.le_refl 0) y⟩⟩
    have g3' := h2.g.2.2.1
    refine xL1_up (X 0 0) (fun s S' => 0 ≤ s ∧ kp rr_L (xup (xup S1 98 0 c) 54 0 0) S' ∧ ∀ t : Int, 0 ≤ t → t < s → S' 95 t = 1) ?_ 0 _ (by omega) ⟨by omega, kp.rf, fun t t0 t1 => by omega⟩
    rintro s S2 ⟨s0, a2, b2⟩ hs k2 hk2
    have g3s := g3'.kp a2 rfl
    unfold w_X9_components_L27
    rw [g3s.1]
    refine ⟨fun z => ?_, fun z => ⟨by omega, ⟨by omega, by omega⟩, hk2 _ (by omega) ⟨by omega, a2.up rfl, fun t t0 t1 => ?_⟩⟩⟩
    · unfold w_X9_components_J48
      refine s9_findsComp (m := fun _ => true) g1 g3s (fun t t0 t1 => ⟨fun _ => b2 t t0 (by omega), fun w => by cases w⟩) (fun S3 a3 b3 => ?_)
      rw [b3.1, hc]
      exact gF.ok h1 (a2.tr (a3.mono rfl)) rfl
    · rw [xup_sm]
      by_cases e : t = s
      · rw [if_pos e]
      · rw [if_neg e]; exact b2 t t0 (by omega)
  · refine s8_all_no h ⟨rfl, ?_⟩
    unfold w_X9_components
    refine s9_graph_no h ⟨fun _ => ⟨fun y => by omega, fun _ => gF.no hI (by decide)⟩, fun y => absurd rfl y⟩
end PWKD

/-! pure layer: what is reached from marked states, the class -/
def rs (X : xS) (W : Int → Bool) (Sd : Int → Prop) (s : Int) : Prop := ∀ C : Int → Prop, (∀ t : Int, 0 ≤ t → t < X 0 0 → Sd t → C t) → (∀ t e : Int, 0 ≤ t → t < X 0 0 → C t → X 5 t ≤ e → e < X 5 (t + 1) → W (X 6 e / 8) = true → C (X 6 e / 8)) → C s
noncomputable def rsm (X : xS) (W : Int → Bool) (Sd : Int → Prop) : Int → Bool := fun s => @decide (rs X W Sd s) (Classical.propDecidable _)
theorem rsm.t {X : xS} {W : Int → Bool} {Sd : Int → Prop} {s : Int} (h : rs X W Sd s) : rsm X W Sd s = true := @decide_eq_true _ (Classical.propDecidable _) h
theorem rsm.f {X : xS} {W : Int → Bool} {Sd : Int → Prop} {s : Int} (h : ¬ rs X W Sd s) : rsm X W Sd s = false := @decide_eq_false _ (Classical.propDecidable _) h
theorem rsm.i {X : xS} {W : Int → Bool} {Sd : Int → Prop} {s : Int} (h : rsm X W Sd s = true) : rs X W Sd s := @of_decide_eq_true _ (Classical.propDecidable _) h
theorem rsm.n {X : xS} {W : Int → Bool} {Sd : Int → Prop} {s : Int} (h : rsm X W Sd s = false) : ¬ rs X W Sd s := @of_decide_eq_false _ (Classical.propDecidable _) h
theorem rs.seed {X : xS} {W : Int → Bool} {Sd : Int → Prop} {s : Int} (h0 : 0 ≤ s) (h1 : s < X 0 0) (h : Sd s) : rs X W Sd s := fun C hs _ => hs s h0 h1 h
theorem rs.edge {X : xS} {W : Int → Bool} {Sd : Int → Prop} {s e : Int} (h : rs X W Sd s) (h0 : 0 ≤ s) (h1 : s < X 0 0) (e0 : X 5 s ≤ e) (e1 : e < X 5 (s + 1)) (hw : W (X 6 e / 8) = true) : rs X W Sd (X 6 e / 8) := fun C hs hc => hc s e h0 h1 (h C hs hc) e0 e1 hw
theorem rs.W {X : xS} {W : Int → Bool} {Sd : Int → Prop} {s : Int} (hS : ∀ t : Int, 0 ≤ t → t < X 0 0 → Sd t → W t = true) (h : rs X W Sd s) : W s = true := h (fun t => W t = true) hS (fun t e _ _ _ _ _ hw => hw)
def qI (X : xS) (W : Int → Bool) (Sd : Int → Prop) (S : xS) : Prop :=
  (∀ s : Int, 0 ≤ s → s < X 0 0 → (S 23 s = 0 ∨ S 23 s = 1) ∧ (S 23 s = 1 → rs X W Sd s ∧ ∃ j : Int, 0 ≤ j ∧ j < S 3 5 ∧ S 24 j = s))
  ∧ (∀ j : Int, 0 ≤ j → j < S 3 5 → (0 ≤ S 24 j ∧ S 24 j < X 0 0) ∧ S 23 (S 24 j) = 1)
  ∧ (nz (S 23) (X 0 0).toNat : Int) = S 3 5
abbrev q3_L : List (Nat × Int) := [(23, -9), (3, 5), (24, -9)]
section PWSP
variable {P X S : xS} {Sd : Int → Prop} {a v : Int}
theorem mw.t {s : Int} (h : sv_dec (X 1 s) 1 a ≠ v) : mw X a v s = true := by unfold mw; rw [decide_eq_false h]; rfl
theorem mw.f {s : Int} (h : sv_dec (X 1 s) 1 a = v) : mw X a v s = false := by unfold mw; rw [decide_eq_true h]; rfl
theorem mw.i {s : Int} (h : mw X a v s = true) : sv_dec (X 1 s) 1 a ≠ v := fun w => by rw [mw.f w] at h; cases h
theorem s5_mark {Q : xS → Prop} {s : Int} (h : ag P X S) (ha : 0 ≤ a ∧ a < 9) (s0 : 0 ≤ s) (s1 : s < X 0 0) (hq : qI X (mw X a v) Sd S) (hr : mw X a v s = true → rs X (mw X a v) Sd s) (k : ∀ S' : xS, kp q3_L S S' → qI X (mw X a v) Sd S' → (∀ t : Int, S 23 t = 1 → S' 23 t = 1) → (mw X a v s = true → S' 23 s = 1) → S 3 5 ≤ S' 3 5 → (∀ j : Int, j < S 3 5 → S' 24 j = S 24 j) → Q S') : w_X5_markIfWithout s a v S Q := by
  have n := h.g.1.1
  obtain ⟨q1, q2, q3⟩ := id hq
  have qs := q1 s s0 s1
  have ql := nz_le (S 23) (X 0 0).toNat
  refine ⟨by omega, fun z => k S kp.rf hq (fun t w => w) (fun _ => qs.1.elim (fun w => absurd w z) id) (Int.le_refl _) (fun _ _ => rfl), fun z => s1_valueIn h.1.2.2.2.2.1 h.1.2.2.2.2.2.2.1.1 ⟨s0, s1⟩ ha ⟨fun y => ?_, fun y => ?_⟩⟩
  · exact k S kp.rf hq (fun t w => w) (fun w => absurd y (mw.i w)) (Int.le_refl _) (fun _ _ => rfl)
  · have up := nz_up (T := S 23) (T' := (xup S 23 s 1) 23) (j := s.toNat) (by rw [show (s.toNat : Int) = s by omega]; exact z) (by rw [show (s.toNat : Int) = s by omega, xup_sm, if_pos rfl]; decide) (fun i hi => by rw [xup_sm, if_neg (by omega)]) (X 0 0).toNat (by omega)
    have lt : nz (S 23) (X 0 0).toNat < (X 0 0).toNat := by
      have := nz_le ((xup S 23 s 1) 23) (X 0 0).toNat
      omega
    have r23 : ∀ t : Int, (xup (xup (xup S 23 s 1) 24 (S 3 5) s) 3 5 (S 3 5 + 1)) 23 t = if t = s then 1 else S 23 t := fun t => by simp [xup_at]
    have r24 : ∀ t : Int, (xup (xup (xup S 23 s 1) 24 (S 3 5) s) 3 5 (S 3 5 + 1)) 24 t = if t = S 3 5 then s else S 24 t := fun t => by simp [xup_at]
    have r35 : (xup (xup (xup S 23 s 1) 24 (S 3 5) s) 3 5 (S 3 5 + 1)) 3 5 = S 3 5 + 1 := rfl
    refine ⟨by omega, ⟨by omega, by omega⟩, k _ (((kp.rf.up rfl).up rfl).up rfl) ⟨fun t t0 t1 => ?_, fun j j0 j1 => ?_, ?_⟩ (fun t w => ?_) (fun _ => by rw [r23, if_pos rfl]) (by rw [r35]; omega) (fun j hj => by rw [r24, if_neg (by omega)])⟩
    · rw [r23, r35]
      by_cases e : t = s
      · rw [if_pos e]
        refine ⟨Or.inr rfl, fun _ => ⟨by rw [e]; exact hr (mw.t y), S 3 5, by omega, by omega, by rw [r24, if_pos rfl, e]⟩⟩
      · rw [if_neg e]
        have b := q1 t t0 t1
        refine ⟨b.1, fun w => ?_⟩
        obtain ⟨b1, j, j0, j1, je⟩ := b.2 w
        exact ⟨b1, j, j0, by omega, by rw [r24, if_neg (by omega)]; exact je⟩
    · rw [r35] at j1
      rw [r24]
      by_cases e : j = S 3 5
      · rw [if_pos e]
        exact ⟨⟨s0, s1⟩, by rw [r23, if_pos rfl]⟩
      · rw [if_neg e]
        have b := q2 j j0 (by omega)
        refine ⟨b.1, ?_⟩
        rw [r23]
        split
        · rfl
        · exact b.2
    · have : nz ((xup (xup (xup S 23 s 1) 24 (S 3 5) s) 3 5 (S 3 5 + 1)) 23) (X 0 0).toNat = nz ((xup S 23 s 1) 23) (X 0 0).toNat := rfl
      rw [this, up, r35]
      omega
    · rw [r23]
      split
      · rfl
      · exact w
theorem qI.zero (hG : gr X) {W : Int → Bool} : qI X W Sd (xup (xfill S 23 2000 0) 3 5 0) := by
  have n := hG.1
  have z : ∀ t : Int, 0 ≤ t → t < X 0 0 → (xup (xfill S 23 2000 0) 3 5 0) 23 t = 0 := fun t t0 t1 => by
    show (xfill S 23 2000 0) 23 t = 0
    rw [xfill_at, if_pos ⟨rfl, t0, by omega⟩]
  refine ⟨fun s s0 s1 => ?_, fun j j0 j1 => ?_, ?_⟩
  · rw [z s s0 s1]
    exact ⟨Or.inl rfl, fun w => by omega⟩
  · have : j < 0 := j1
    omega
  · rw [nz_0 _ (fun j hj => z j (by omega) (by omega))]
    rfl
theorem s5_spread {Q : xS → Prop} (h : ag P X S) (ha : 0 ≤ a ∧ a < 9) (hq : qI X (mw X a v) Sd S) (hs : ∀ t : Int, 0 ≤ t → t < X 0 0 → Sd t → S 23 t = 1) (k : ∀ S' : xS, kp q3_L S S' → mq 23 (rsm X (mw X a v) Sd) X S' → Q S') : w_X5_spread a v S Q := by
  have hG := h.g.1
  have n := hG.1
  have g7 := hG.2.2.2.2.1
  refine xL1_up (X 0 0) (fun p S' => 0 ≤ p ∧ p ≤ S' 3 5 ∧ kp q3_L S S' ∧ qI X (mw X a v) Sd S' ∧ (∀ t : Int, S 23 t = 1 → S' 23 t = 1) ∧ (∀ j : Int, 0 ≤ j → j < p → ∀ e : Int, X 5 (S' 24 j) ≤ e → e < X 5 (S' 24 j + 1) → mw X a v (X 6 e / 8) = true → S' 23 (X 6 e / 8) = 1)) ?_ 0 S (by omega) ⟨by omega, by have := hq.2.2; omega, kp.rf, hq, fun t w => w, fun j j0 j1 => by omega⟩
  rintro p S1 ⟨p0, p1, a1, q1, m1, c1⟩ hp k2 hk2
  have ql := nz_le (S1 23) (X 0 0).toNat
  have q13 := q1.2.2
  unfold w_X5_spread_L2
  refine ⟨fun z => by omega, fun z => ⟨fun z2 => k S1 a1 (fun s s0 s1 => ⟨fun w => ?_, fun w => ?_⟩), fun z2 => ?_⟩⟩
  · refine (rsm.i w) (fun t => S1 23 t = 1) (fun t t0 t1 w => m1 t (hs t t0 t1 w)) (fun t e t0 t1 ct e0 e1 hw => ?_)
    obtain ⟨-, j, j0, j1, je⟩ := (q1.1 t t0 t1).2 ct
    exact c1 j j0 (by omega) e (by rw [je]; exact e0) (by rw [je]; exact e1) hw
  · have b := q1.1 s s0 s1
    rcases b.1 with y | y
    · exact y
    · exact absurd (b.2 y).1 (rsm.n w)
  · have qj := q1.2.1 p p0 (by omega)
    have h1 := h.kp (a1.mono rfl)
    have gc1 := h1.g.2.1
    have rsq := ((q1.1 _ qj.1.1 qj.1.2).2 qj.2).1
    have b0 := hG.b qj.1.1 (by omega)
    have b1 := hG.b (s := S1 24 p + 1) (by omega) (by omega)
    have bm := hG.2.2.1 _ qj.1.1 qj.1.2
    refine ⟨by omega, by omega, ?_⟩
    rw [gc1.2.2.2.2.1 (S1 24 p) qj.1.1 (by omega)]
    refine xL1_up (X 5 (S1 24 p + 1)) (fun e S' => X 5 (S1 24 p) ≤ e ∧ kp q3_L S S' ∧ qI X (mw X a v) Sd S' ∧ (∀ t : Int, S1 23 t = 1 → S' 23 t = 1) ∧ S1 3 5 ≤ S' 3 5 ∧ (∀ j : Int, j < S1 3 5 → S' 24 j = S1 24 j) ∧ (∀ e' : Int, X 5 (S1 24 p) ≤ e' → e' < e → mw X a v (X 6 e' / 8) = true → S' 23 (X 6 e' / 8) = 1)) ?_ _ S1 bm ⟨by omega, a1, q1, fun t w => w, by omega, fun _ _ => rfl, fun e' e0 e1 => by omega⟩
    rintro e S2 ⟨e0, a2, q2, m2, l2, s2, c2⟩ he k3 hk3
    have h2 := h.kp (a2.mono rfl)
    have gc2 := h2.g.2.1
    unfold w_X5_spread_L37
    rw [gc2.2.2.2.2.1 (S1 24 p + 1) (by omega) (by omega)]
    refine ⟨by omega, fun y => ⟨⟨by omega, by omega⟩, hk2 S2 (by omega) ⟨by omega, by omega, a2, q2, fun t w => m2 t (m1 t w), fun j j0 j1 e' f0 f1 hw => ?_⟩⟩, fun y => ?_⟩
    · rw [s2 j (by omega)] at f0 f1
      by_cases q : j = p
      · rw [q] at f0 f1
        exact c2 e' f0 (by omega) hw
      · exact m2 _ (c1 j j0 (by omega) e' f0 f1 hw)
    · have gt := hG.t qj.1.1 qj.1.2 e0 (by omega)
      have e33 := gc2.2.2.2.1 e gt.1.1 gt.1.2
      have hcap := gc2.2.2.1
      rw [e33]
      refine ⟨by omega, ?_⟩
      unfold w_X2_targetOf
      refine s5_mark h2 ha gt.2.2.1 gt.2.2.2 q2 (fun w => rsq.edge qj.1.1 qj.1.2 e0 (by omega) w) (fun S3 a3 q3 m3 w3 l3 s3 => ⟨⟨by omega, by omega⟩, hk3 S3 (by omega) ⟨by omega, a2.tr a3, q3, fun t w => m3 t (m2 t w), by omega, fun j hj => (s3 j (by omega)).trans (s2 j hj), fun e' f0 f1 hw => ?_⟩⟩)
      by_cases q : e' = e
      · rw [q] at hw ⊢
        exact w3 hw
      · exact m3 _ (c2 e' f0 (by omega) hw)
end PWSP

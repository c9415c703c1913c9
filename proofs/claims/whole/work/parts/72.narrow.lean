/-! pure layer: what is reached from marked states, the reference -/
theorem nz_mono {T T' : Int → Int} : ∀ k : Nat, (∀ j : Nat, j < k → T j ≠ 0 → T' j ≠ 0) → nz T k ≤ nz T' k
  | 0, _ => Nat.le_refl 0
  | k + 1, h => by
    have a := nz_mono k (fun j hj => h j (by omega))
    have b := h k (by omega)
    unfold nz
    by_cases e : T k = 0
    · rw [if_pos e]
      split <;> omega
    · rw [if_neg e, if_neg (b e)]
      omega
theorem nz_lt {T T' : Int → Int} {i : Nat} (h0 : T i = 0) (h1 : T' i ≠ 0) : ∀ k : Nat, i < k → (∀ j : Nat, j < k → T j ≠ 0 → T' j ≠ 0) → nz T k < nz T' k
  | 0, hi, _ => by omega
  | k + 1, hi, h => by
    have b := h k (by omega)
    unfold nz
    by_cases e : i = k
    · have a := nz_mono k (fun j hj => h j (by omega))
      rw [← e, if_pos h0, if_neg h1]
      rw [← e] at a
      omega
    · have a := nz_lt h0 h1 k (by omega) (fun j hj => h j (by omega))
      by_cases y : T k = 0
      · rw [if_pos y]
        split <;> omega
      · rw [if_neg y, if_neg (b y)]
        omega
def oI (X : xS) (W : Int → Bool) (Sd : Int → Prop) (S : xS) : Prop := ∀ s : Int, 0 ≤ s → s < X 0 0 → (S 96 s = 0 ∨ S 96 s = 1) ∧ (S 96 s = 1 → rs X W Sd s) ∧ (Sd s → S 96 s = 1)
def pI (X : xS) (W : Int → Bool) (Sd : Int → Prop) (S0 : xS) (more s e : Int) (S : xS) : Prop :=
  oI X W Sd S ∧ (∀ t : Int, 0 ≤ t → t < X 0 0 → S0 96 t = 1 → S 96 t = 1) ∧ (more = 0 → ∀ t : Int, 0 ≤ t → t < X 0 0 → S 96 t = S0 96 t) ∧ (more ≠ 0 → ∃ t : Int, 0 ≤ t ∧ t < X 0 0 ∧ S0 96 t = 0 ∧ S 96 t = 1)
  ∧ (more = 0 → (∀ t : Int, 0 ≤ t → t < s → S 96 t = 1 → ∀ e' : Int, X 5 t ≤ e' → e' < X 5 (t + 1) → W (X 6 e' / 8) = true → S 96 (X 6 e' / 8) = 1) ∧ ∀ e' : Int, X 5 s ≤ e' → e' < e → W (X 6 e' / 8) = true → S 96 (X 6 e' / 8) = 1)
abbrev n9_L : List (Nat × Int) := [(95, -9), (96, -9)]
section PWNR
variable {X S : xS} {W : Int → Bool} {Sd : Int → Prop}
theorem pI.same {S0 S' : xS} {more t0 s e : Int} (hG : gr X) (h : pI X W Sd S0 more s e S) (s0 : 0 ≤ s) (s1 : s < X 0 0) (e0 : X 5 s ≤ e) (e1 : e < X 5 (s + 1)) (hE : ∀ t : Int, 0 ≤ t → t < X 0 0 → S' 96 t = S 96 t) (ht : (t0 = 0 ↔ more = 0)) (hg : t0 = 0 → W (X 6 e / 8) = true → S 96 (X 6 e / 8) = 1) : pI X W Sd S0 t0 s (e + 1) S' := by
  obtain ⟨h1, h2, h3, h4, h5⟩ := h
  have gb := fun (t e' : Int) (x0 : 0 ≤ t) (x1 : t < X 0 0) (y0 : X 5 t ≤ e') (y1 : e' < X 5 (t + 1)) => (hG.t x0 x1 y0 y1).2.2
  refine ⟨fun t t0 t1 => by rw [hE t t0 t1]; exact h1 t t0 t1, fun t t0 t1 w => by rw [hE t t0 t1]; exact h2 t t0 t1 w, fun w t t0 t1 => by rw [hE t t0 t1]; exact h3 (ht.mp w) t t0 t1, fun w => ?_, fun w => ⟨fun t x0 x1 y e' y0 y1 yw => ?_, fun e' y0 y1 yw => ?_⟩⟩
  · obtain ⟨t, x0, x1, y0, y1⟩ := h4 (fun y => w (ht.mpr y))
    exact ⟨t, x0, x1, y0, by rw [hE t x0 x1]; exact y1⟩
  · have g := gb t e' x0 (by omega) y0 y1
    rw [hE t x0 (by omega)] at y
    rw [hE _ g.1 g.2]
    exact (h5 (ht.mp w)).1 t x0 x1 y e' y0 y1 yw
  · have g := gb s e' s0 s1 y0 (by omega)
    rw [hE _ g.1 g.2]
    by_cases q : e' = e
    · rw [q] at yw ⊢; exact hg w yw
    · exact (h5 (ht.mp w)).2 e' y0 (by omega) yw
theorem s9_nJ84 {S0 : xS} {k37 : Int → Int → xS → Prop} {more t0 s e : Int} (hG : gr X) (hgr : gRf X S) (hM : mq 95 W X S) (h : pI X W Sd S0 more s e S) (s0 : 0 ≤ s) (s1 : s < X 0 0) (hs : S 96 s = 1) (e0 : X 5 s ≤ e) (e1 : e < X 5 (s + 1)) (hS0 : ∀ t : Int, 0 ≤ t → t < X 0 0 → S0 96 t = 0 ∨ S0 96 t = 1) (ht : (t0 = 0 → more = 0 ∧ (W (X 6 e / 8) = true → S 96 (X 6 e / 8) = 1)) ∧ (t0 ≠ 0 → more ≠ 0 ∨ (W (X 6 e / 8) = true ∧ S 96 (X 6 e / 8) = 0))) (k : ∀ S' : xS, kp [(96, -9)] S S' → pI X W Sd S0 t0 s (e + 1) S' → S' 96 s = 1 → k37 t0 (e + 1) S') : w_X9_narrows_J84 k37 e t0 S := by
  have n := hG.1
  have g7 := hG.2.2.2.2.1
  have gt := hG.t s0 s1 e0 e1
  have mg := hM (X 6 e / 8) gt.2.2.1 gt.2.2.2
  have og := h.1 (X 6 e / 8) gt.2.2.1 gt.2.2.2
  have same : ∀ b : Int, b = S 96 (X 6 e / 8) → ((W (X 6 e / 8) = true → S 96 (X 6 e / 8) = 1)) → k37 t0 (e + 1) (xup S 96 (X 6 e / 8) b) := by
    intro b hb hw
    have hE : ∀ t : Int, (xup S 96 (X 6 e / 8) b) 96 t = S 96 t := fun t => by
      rw [xup_sm]
      by_cases q : t = X 6 e / 8
      · rw [if_pos q, q, hb]
      · rw [if_neg q]
    refine k _ (kp.rf.up rfl) (h.same hG s0 s1 e0 e1 (fun t _ _ => hE t) ⟨fun w => (ht.1 w).1, fun w => ?_⟩ (fun _ => hw)) (by rw [hE]; exact hs)
    by_cases q : t0 = 0
    · exact q
    · rcases ht.2 q with y | y
      · exact absurd w y
      · have := hw y.1
        omega
  refine s9_goal hG hgr gt.1 (s9_goal hG hgr gt.1 ⟨by omega, fun y => ⟨by omega, ⟨by omega, by omega⟩, same 1 (by rcases og.1 with q | q <;> omega) (fun _ => by rcases og.1 with q | q <;> omega)⟩, fun y => s9_goal hG hgr gt.1 ⟨by omega, fun z => ⟨by omega, ⟨by omega, by omega⟩, same 0 y.symm (fun w => ?_)⟩, fun z => ⟨by omega, ⟨by omega, by omega⟩, ?_⟩⟩⟩)
  · have := mg.1 w
    omega
  · have hw : W (X 6 e / 8) = true := by
      rcases Bool.eq_false_or_eq_true (W (X 6 e / 8)) with w | w
      · exact w
      · exact absurd (mg.2 w) z
    have ht0 : t0 ≠ 0 := fun w => by
      have := (ht.1 w).2 hw
      omega
    have r96 : ∀ t : Int, (xup S 96 (X 6 e / 8) 1) 96 t = if t = X 6 e / 8 then 1 else S 96 t := fun t => xup_sm _ _ _ _ _
    obtain ⟨h1, h2, h3, h4, h5⟩ := h
    have rss := (h1 s s0 s1).2.1 hs
    refine k _ (kp.rf.up rfl) ⟨fun t x0 x1 => ?_, fun t x0 x1 w => ?_, fun w => absurd w ht0, fun _ => ⟨X 6 e / 8, gt.2.2.1, gt.2.2.2, ?_, by rw [r96, if_pos rfl]⟩, fun w => absurd w ht0⟩ (by rw [r96]; split <;> first | rfl | exact hs)
    · rw [r96]
      by_cases q : t = X 6 e / 8
      · rw [if_pos q, q]
        exact ⟨Or.inr rfl, fun _ => rss.edge s0 s1 e0 e1 hw, fun _ => rfl⟩
      · rw [if_neg q]
        exact h1 t x0 x1
    · rw [r96]
      split
      · rfl
      · exact h2 t x0 x1 w
    · rcases hS0 (X 6 e / 8) gt.2.2.1 gt.2.2.2 with q | q
      · exact q
      · have := h2 _ gt.2.2.1 gt.2.2.2 q
        omega
theorem s9_pass {k2 : Int → xS → Prop} (hG : gr X) (hgr : gRf X S) (hM : mq 95 W X S) (ho : oI X W Sd S) (k : ∀ (more : Int) (S' : xS), kp [(96, -9)] S S' → pI X W Sd S more (X 0 0) (X 0 6) S' → k2 more S') : xL2 (w_X9_narrows_L10 k2) 0 0 S := by
  have n := hG.1
  have g7 := hG.2.2.2.2.1
  refine xL2_up (X 0 0) (fun more s S' => 0 ≤ s ∧ kp [(96, -9)] S S' ∧ pI X W Sd S more s (X 5 s) S') ?_ 0 0 S (by omega) ⟨by omega, kp.rf, ho, fun t _ _ w => w, fun _ t _ _ => rfl, fun w => absurd rfl w, fun _ => ⟨fun t t0 t1 => by omega, fun e' e0 e1 => by omega⟩⟩
  rintro more s S1 ⟨s0, a1, p1⟩ hs k10 hk10
  have hgr1 := hgr.kp a1 rfl
  have hM1 := hM.kp a1 (fun _ => rfl)
  unfold w_X9_narrows_L10
  rw [hgr1.1]
  refine ⟨fun z => ?_, fun z => ⟨by omega, ?_⟩⟩
  · have es : s = X 0 0 := by omega
    rw [es, hG.2.2.2.1] at p1
    exact k more S1 a1 p1
  · have s1 : s < X 0 0 := by omega
    have b0 := hG.b s0 (by omega)
    have b1 := hG.b (s := s + 1) (by omega) (by omega)
    have bm := hG.2.2.1 s s0 s1
    have os := p1.1 s s0 s1
    refine ⟨fun y => ?_, fun y => ⟨⟨by omega, by omega⟩, hk10 more S1 (by omega) ⟨by omega, a1, ?_⟩⟩⟩
    · have hs1 : S1 96 s = 1 := by rcases os.1 with q | q <;> omega
      rw [hgr1.2.1 s s0 (by omega)]
      refine xL2_up (X 5 (s + 1)) (fun u e S' => X 5 s ≤ e ∧ kp [(96, -9)] S S' ∧ pI X W Sd S u s e S' ∧ S' 96 s = 1) ?_ more (X 5 s) S1 bm ⟨by omega, a1, p1, hs1⟩
      rintro u e S2 ⟨e0, a2, p2, hs2⟩ he k37 hk37
      have hgr2 := hgr.kp a2 rfl
      have hM2 := hM.kp a2 (fun _ => rfl)
      unfold w_X9_narrows_L37
      rw [hgr2.2.1 (s + 1) (by omega) (by omega)]
      refine ⟨by omega, fun z2 => hk10 u S2 (by omega) ⟨by omega, a2, ?_⟩, fun z2 => ?_⟩
      · have ee : e = X 5 (s + 1) := by omega
        obtain ⟨h1, h2, h3, h4, h5⟩ := p2
        refine ⟨h1, h2, h3, h4, fun w => ⟨fun t t0 t1 y e' y0 y1 yw => ?_, fun e' y0 y1 => by omega⟩⟩
        by_cases q : t = s
        · rw [q] at y0 y1
          exact (h5 w).2 e' y0 (by omega) yw
        · exact (h5 w).1 t t0 (by omega) y e' y0 y1 yw
      · have gt := hG.t s0 s1 e0 (by omega)
        have mg := hM2 (X 6 e / 8) gt.2.2.1 gt.2.2.2
        have og := p2.1 (X 6 e / 8) gt.2.2.1 gt.2.2.2
        have hS0 : ∀ t : Int, 0 ≤ t → t < X 0 0 → S 96 t = 0 ∨ S 96 t = 1 := fun t t0 t1 => (ho t t0 t1).1
        have j84 : ∀ t0 : Int, ((t0 = 0 → u = 0 ∧ (W (X 6 e / 8) = true → S2 96 (X 6 e / 8) = 1)) ∧ (t0 ≠ 0 → u ≠ 0 ∨ (W (X 6 e / 8) = true ∧ S2 96 (X 6 e / 8) = 0))) → w_X9_narrows_J84 k37 e t0 S2 := fun t0 ht => s9_nJ84 hG hgr2 hM2 p2 s0 s1 hs2 e0 (by omega) hS0 ht (fun S3 a3 p3 q3 => hk37 t0 S3 (by omega) ⟨by omega, a2.tr a3, p3, q3⟩)
        refine ⟨fun w => j84 1 ⟨fun y => by omega, fun _ => Or.inl w⟩, fun w => s9_goal hG hgr2 gt.1 ⟨by omega, fun y => j84 0 ⟨fun _ => ⟨w, fun hw => ?_⟩, fun y => absurd rfl y⟩, fun y => s9_goal hG hgr2 gt.1 ⟨by omega, fun x => j84 0 ⟨fun _ => ⟨w, fun _ => ?_⟩, fun y => absurd rfl y⟩, fun x => j84 1 ⟨fun y => by omega, fun _ => Or.inr ⟨?_, x⟩⟩⟩⟩⟩
        · have := mg.1 hw
          omega
        · rcases og.1 with q | q <;> omega
        · rcases Bool.eq_false_or_eq_true (W (X 6 e / 8)) with q | q
          · exact q
          · exact absurd (mg.2 q) y
    · obtain ⟨h1, h2, h3, h4, h5⟩ := p1
      refine ⟨h1, h2, h3, h4, fun w => ⟨fun t t0 t1 yy e' y0 y1 yw => ?_, fun e' y0 y1 => by omega⟩⟩
      by_cases q : t = s
      · rw [q, y] at yy; omega
      · exact (h5 w).1 t t0 (by omega) yy e' y0 y1 yw
theorem s9_narrows {Q : xS → Prop} (hG : gr X) (hgr : gRf X S) (hM : mq 95 W X S) (ho : oI X W Sd S) (hSW : ∀ t : Int, 0 ≤ t → t < X 0 0 → Sd t → W t = true) (k : ∀ S' : xS, kp n9_L S S' → mq 95 (rsm X W Sd) X S' → Q S') : w_X9_narrows S Q := by
  have n := hG.1
  have j141 : ∀ S1 : xS, kp [(96, -9)] S S1 → oI X W Sd S1 → (∀ t : Int, 0 ≤ t → t < X 0 0 → S1 96 t = 1 → ∀ e' : Int, X 5 t ≤ e' → e' < X 5 (t + 1) → W (X 6 e' / 8) = true → S1 96 (X 6 e' / 8) = 1) → w_X9_narrows_J141 Q S1 := by
    intro S1 a1 o1 c1
    have iff1 : ∀ s : Int, 0 ≤ s → s < X 0 0 → (S1 96 s = 1 ↔ rs X W Sd s) := fun s s0 s1 => ⟨(o1 s s0 s1).2.1, fun h => h (fun t => S1 96 t = 1) (fun t t0 t1 ht => (o1 t t0 t1).2.2 ht) (fun t e t0 t1 ct e0 e1 hw => c1 t t0 t1 ct e e0 e1 hw)⟩
    refine xL1_up (X 0 0) (fun v S' => 0 ≤ v ∧ kp n9_L S S' ∧ kp [(95, -9)] S1 S' ∧ (∀ s : Int, v ≤ s → S' 95 s = S1 95 s) ∧ ∀ s : Int, 0 ≤ s → s < v → (rsm X W Sd s = true → S' 95 s = 1) ∧ (rsm X W Sd s = false → S' 95 s = 0)) ?_ 0 S1 (by omega) ⟨by omega, a1.mono rfl, kp.rf, fun _ _ => rfl, fun s s0 s1 => by omega⟩
    rintro v S2 ⟨v0, a2, a12, e2, b2⟩ hv k2 hk2
    unfold w_X9_narrows_L143
    rw [(hgr.kp a2 rfl).1]
    refine ⟨fun z => k S2 a2 (fun s s0 s1 => b2 s s0 (by omega)), fun z => ⟨by omega, ?_⟩⟩
    have m1 := (hM.kp a1 (fun _ => rfl)) v v0 (by omega)
    rw [← e2 v (Int.le_refl _)] at m1
    have e96 : S2 96 v = S1 96 v := a12 96 v rfl
    have iv := iff1 v v0 (by omega)
    have up : ∀ b : Int, (rsm X W Sd v = true → b = 1) ∧ (rsm X W Sd v = false → b = 0) → xR (v + 1) ∧ k2 (v + 1) (xup S2 95 v b) := fun b hb => by
      refine ⟨⟨by omega, by omega⟩, hk2 _ (by omega) ⟨by omega, a2.up rfl, a12.up rfl, fun s hs => ?_, fun s s0 s1 => ?_⟩⟩
      · rw [xup_sm, if_neg (by omega)]
        exact e2 s (by omega)
      · rw [xup_sm]
        by_cases q : s = v
        · rw [if_pos q, q]; exact hb
        · rw [if_neg q]; exact b2 s s0 (by omega)
    rw [e96]
    refine ⟨fun y => up 0 ⟨fun w => ?_, fun _ => rfl⟩, fun y => ⟨fun x => up 0 ⟨fun w => ?_, fun _ => rfl⟩, fun x => up 1 ⟨fun _ => rfl, fun w => ?_⟩⟩⟩
    · have := m1.1 ((rsm.i w).W hSW)
      omega
    · have := iv.mpr (rsm.i w)
      omega
    · have hx : S1 96 v = 1 := by rcases (o1 v v0 (by omega)).1 with q | q <;> omega
      exact absurd (iv.mp hx) (rsm.n w)
  refine xL1_ex (fun c v S' => kp [(96, -9)] S S' ∧ oI X W Sd S' ∧ ((v ≠ 0 ∧ (c : Int) = X 0 0 - (nz (S' 96) (X 0 0).toNat : Int) + 1) ∨ (v = 0 ∧ c = 0 ∧ ∀ t : Int, 0 ≤ t → t < X 0 0 → S' 96 t = 1 → ∀ e' : Int, X 5 t ≤ e' → e' < X 5 (t + 1) → W (X 6 e' / 8) = true → S' 96 (X 6 e' / 8) = 1))) ?_ (X 0 0 - (nz (S 96) (X 0 0).toNat : Int) + 1).toNat 1 S ⟨kp.rf, ho, Or.inl ⟨by decide, by have := nz_le (S 96) (X 0 0).toNat; omega⟩⟩
  rintro c v S1 ⟨a1, o1, hor⟩ k2 hk2
  refine ⟨fun z => ?_, fun z => s9_pass hG (hgr.kp a1 rfl) (hM.kp a1 (fun _ => rfl)) o1 (fun more S2 a2 p2 => ?_)⟩
  · rcases hor with ⟨w, -⟩ | ⟨-, -, w⟩
    · exact absurd z w
    · exact j141 S1 a1 o1 w
  · rcases hor with ⟨-, hc⟩ | ⟨w, -⟩
    · obtain ⟨h1, h2, h3, h4, h5⟩ := p2
      have nl := nz_le (S1 96) (X 0 0).toNat
      have nl2 := nz_le (S2 96) (X 0 0).toNat
      by_cases q : more = 0
      · refine hk2 0 more S2 (by omega) ⟨a1.tr a2, h1, Or.inr ⟨q, rfl, fun t t0 t1 y e' y0 y1 yw => (h5 q).1 t t0 t1 y e' y0 y1 yw⟩⟩
      · obtain ⟨t, t0, t1, t2, t3⟩ := h4 q
        have lt := nz_lt (T := S1 96) (T' := S2 96) (i := t.toNat) (by rw [show (t.toNat : Int) = t by omega]; exact t2) (by rw [show (t.toNat : Int) = t by omega, t3]; decide) (X 0 0).toNat (by omega) (fun j hj w => by
          rcases (o1 j (by omega) (by omega)).1 with y | y
          · exact absurd y w
          · rw [h2 j (by omega) (by omega) y]; decide)
        exact hk2 (X 0 0 - (nz (S2 96) (X 0 0).toNat : Int) + 1).toNat more S2 (by omega) ⟨a1.tr a2, h1, Or.inl ⟨q, by omega⟩⟩
    · exact absurd w z
end PWNR

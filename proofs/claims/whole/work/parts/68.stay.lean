/-! pure layer: the reference: can a run stay -/
abbrev t2_L : List (Nat × Int) := [(93, -9), (94, -9), (97, -9)]
def hvR (n : Int) (W D : Int → Nat → Prop) (G : Int → Prop) (S : xS) : Prop := ∀ c : Int, 0 ≤ c → c < n → ((0 ≤ S 93 c ∧ S 93 c < 8) ∧ (0 ≤ S 94 c ∧ S 94 c < 8)) ∧ (∀ p : Nat, p < 3 → (bt (S 93 c) p ↔ W c p) ∧ (bt (S 94 c) p ↔ D c p)) ∧ (S 97 c = 0 ∨ S 97 c = 1) ∧ (S 97 c = 1 ↔ G c)
theorem hvR.E {n : Int} {W W' D D' : Int → Nat → Prop} {G G' : Int → Prop} {S : xS} (h : hvR n W D G S) (hW : ∀ c : Int, 0 ≤ c → ∀ p : Nat, p < 3 → (W c p ↔ W' c p)) (hD : ∀ c : Int, 0 ≤ c → ∀ p : Nat, p < 3 → (D c p ↔ D' c p)) (hG : ∀ c : Int, 0 ≤ c → (G c ↔ G' c)) : hvR n W' D' G' S := fun c c0 c1 => by
  obtain ⟨h1, h2, h3, h4⟩ := h c c0 c1
  exact ⟨h1, fun p hp => ⟨(h2 p hp).1.trans (hW c c0 p hp), (h2 p hp).2.trans (hD c c0 p hp)⟩, h3, h4.trans (hG c c0)⟩
theorem hvR.w {n : Int} {W D : Int → Nat → Prop} {G : Int → Prop} {S : xS} (h : hvR n W D G S) {c0 x : Int} (hx : 0 ≤ x ∧ x < 8) (b0 : 0 ≤ c0) (b1 : c0 < n) : hvR n (fun c p => W c p ∨ (c = c0 ∧ bt x p)) D G (xup S 93 c0 (xor32 (S 93 c0) x)) := fun c d0 d1 => by
  obtain ⟨h1, h2, h3, h4⟩ := h c d0 d1
  show ((0 ≤ (xup S 93 c0 (xor32 (S 93 c0) x)) 93 c ∧ (xup S 93 c0 (xor32 (S 93 c0) x)) 93 c < 8) ∧ (0 ≤ S 94 c ∧ S 94 c < 8)) ∧ (∀ p : Nat, p < 3 → (bt ((xup S 93 c0 (xor32 (S 93 c0) x)) 93 c) p ↔ (W c p ∨ (c = c0 ∧ bt x p))) ∧ (bt (S 94 c) p ↔ D c p)) ∧ (S 97 c = 0 ∨ S 97 c = 1) ∧ (S 97 c = 1 ↔ G c)
  rw [xup_sm]
  by_cases e : c = c0
  · rw [if_pos e]
    obtain ⟨o1, o2⟩ := bt_or (h c0 b0 b1).1.1 hx
    refine ⟨⟨o1, h1.2⟩, fun p hp => ⟨?_, (h2 p hp).2⟩, h3, h4⟩
    rw [o2 p hp, ← e, (h2 p hp).1]
    exact ⟨fun w => w.elim Or.inl (fun y => Or.inr ⟨rfl, y⟩), fun w => w.elim Or.inl (fun y => Or.inr y.2)⟩
  · rw [if_neg e]
    exact ⟨h1, fun p hp => ⟨(h2 p hp).1.trans ⟨Or.inl, fun w => w.elim id (fun y => absurd y.1 e)⟩, (h2 p hp).2⟩, h3, h4⟩
theorem hvR.d {n : Int} {W D : Int → Nat → Prop} {G : Int → Prop} {S : xS} (h : hvR n W D G S) {c0 x : Int} (hx : 0 ≤ x ∧ x < 8) (b0 : 0 ≤ c0) (b1 : c0 < n) : hvR n W (fun c p => D c p ∨ (c = c0 ∧ bt x p)) (fun c => G c ∨ c = c0) (xup (xup S 97 c0 1) 94 c0 (xor32 (S 94 c0) x)) := fun c d0 d1 => by
  obtain ⟨h1, h2, h3, h4⟩ := h c d0 d1
  have q94 : (xup (xup S 97 c0 1) 94 c0 (xor32 (S 94 c0) x)) 94 c = if c = c0 then xor32 (S 94 c0) x else S 94 c := by simp [xup_at]
  have q97 : (xup (xup S 97 c0 1) 94 c0 (xor32 (S 94 c0) x)) 97 c = if c = c0 then 1 else S 97 c := by simp [xup_at]
  have q93 : (xup (xup S 97 c0 1) 94 c0 (xor32 (S 94 c0) x)) 93 c = S 93 c := by simp [xup_at]
  rw [q94, q97, q93]
  by_cases e : c = c0
  · rw [if_pos e, if_pos e]
    obtain ⟨o1, o2⟩ := bt_or (h c0 b0 b1).1.2 hx
    refine ⟨⟨h1.1, o1⟩, fun p hp => ⟨(h2 p hp).1, ?_⟩, Or.inr rfl, ⟨fun _ => Or.inr e, fun _ => rfl⟩⟩
    rw [o2 p hp, ← e, (h2 p hp).2]
    exact ⟨fun w => w.elim Or.inl (fun y => Or.inr ⟨rfl, y⟩), fun w => w.elim Or.inl (fun y => Or.inr y.2)⟩
  · rw [if_neg e, if_neg e]
    exact ⟨h1, fun p hp => ⟨(h2 p hp).1, (h2 p hp).2.trans ⟨Or.inl, fun w => w.elim id (fun y => absurd y.1 e)⟩⟩, h3, h4.trans ⟨Or.inl, fun w => w.elim id (fun y => absurd y e)⟩⟩
section PWSY
variable {X T S : xS} {m : Int → Bool}
theorem s9_canStay {Q : Int → xS → Prop} {f P : Int} (hG : gr X) (hgr : gRf X S) (hM : mq 95 m X S) (hP : S 54 1 = P) (hP3 : 0 ≤ P ∧ P ≤ 3) (h1 : ∀ S' : xS, kp (t9_L ++ t2_L) S S' → RR X (tj_al X m (X 0 0).toNat) m P f → Q 1 S') (h0 : ∀ S' : xS, kp (t9_L ++ t2_L) S S' → ¬ RR X (tj_al X m (X 0 0).toNat) m P f → Q 0 S') : w_X9_canStay f S Q := by
  have n0 := hG.1
  have g7 := hG.2.2.2.2.1
  refine s9_findsComp hG hgr hM (fun S1 a1 b1 => ?_)
  obtain ⟨hI, hm, hc⟩ := tI.end (m := m) hG
  generalize tj_al X m (X 0 0).toNat = T at *
  have e1 : S1 54 1 = P := (a1 54 1 rfl).trans hP
  have hM1 := hM.kp a1 (fun _ => rfl)
  have hgr1 := hgr.kp a1 rfl
  have e58 := b1.1
  have aa : kp (t9_L ++ t2_L) S S1 := a1.mono rfl
  have h89 : ∀ s : Int, 0 ≤ s → s < X 0 0 → T 6 s ≠ -1 → S1 89 s = T 6 s := fun s s0 s1 w => (b1.2.2.2.1 s s0 s1).2.2.2 w
  obtain ⟨Pn, rfl⟩ : ∃ Pn : Nat, P = (Pn : Int) := ⟨P.toNat, by omega⟩
  have j235 : ∀ S2 : xS, kp t2_L S1 S2 → (∀ s : Int, 0 ≤ s → s < X 0 0 → m s = true → X 5 s ≠ X 5 (s + 1)) → hvR (T 0 0) (wto X T Pn (X 0 0)) (dng X T (X 0 0)) (hin X T (X 0 0)) S2 → w_X9_canStay_J235 f Q S1 S2 := by
    intro S2 a2 hne v2
    have a2' : kp (t9_L ++ t2_L) S S2 := aa.tr (a2.mono rfl)
    refine xL1_up (T 0 0) (fun v S' => S' = S2 ∧ 0 ≤ v ∧ ∀ c : Int, 0 ≤ c → c < v → ¬ (hin X T (X 0 0) c ∧ (f = 0 ∨ ∀ p : Nat, p < 3 → (wto X T Pn (X 0 0) c p ∨ dng X T (X 0 0) c p ↔ (p : Int) < Pn)))) ?_ 0 S2 (by omega) ⟨rfl, by omega, fun c a b => by omega⟩
    rintro v S3 ⟨rfl, hv0, hpre⟩ hv k2 hk2
    unfold w_X9_canStay_L237
    rw [show S3 54 58 = T 0 0 from (a2 54 58 rfl).trans e58, e1, Int.toNat_natCast]
    refine ⟨fun z => h0 S3 a2' ?_, fun z => ⟨by omega, ?_⟩⟩
    · rintro (⟨s, s0, s1, s2, s3⟩ | ⟨c, c0, c1, hl, hf⟩)
      · exact hne s s0 s1 s2 s3
      · exact hpre c c0 (by omega) ⟨hl, hf⟩
    · obtain ⟨⟨b93, b94⟩, bb, b3, b4⟩ := v2 v hv0 (by omega)
      obtain ⟨o1, o2⟩ := bt_or b93 b94
      have e7 := bt_all (n := Pn) (by omega) o1
      have next : ¬ (hin X T (X 0 0) v ∧ (f = 0 ∨ ∀ p : Nat, p < 3 → (wto X T Pn (X 0 0) v p ∨ dng X T (X 0 0) v p ↔ (p : Int) < Pn))) → xR (v + 1) ∧ k2 (v + 1) S3 := fun w => ⟨⟨by omega, by omega⟩, hk2 S3 (by omega) ⟨rfl, by omega, fun c c0 c1 => by
        by_cases e : c = v
        · rw [e]; exact w
        · exact hpre c c0 (by omega)⟩⟩
      have yes : (hin X T (X 0 0) v ∧ (f = 0 ∨ ∀ p : Nat, p < 3 → (wto X T Pn (X 0 0) v p ∨ dng X T (X 0 0) v p ↔ (p : Int) < Pn))) → Q 1 S3 := fun w => h1 S3 a2' (Or.inr ⟨v, hv0, by omega, w⟩)
      have pw : (1 : Int) * 2 ^ Pn - 1 = 0 ∨ (1 : Int) * 2 ^ Pn - 1 = 1 ∨ (1 : Int) * 2 ^ Pn - 1 = 3 ∨ (1 : Int) * 2 ^ Pn - 1 = 7 := by
        have : Pn = 0 ∨ Pn = 1 ∨ Pn = 2 ∨ Pn = 3 := by omega
        rcases this with e | e | e | e <;> subst e <;> decide
      refine ⟨fun y => next (fun w => ?_), fun y => ⟨fun x => yes ⟨b4.mp (by omega), Or.inl x⟩, fun x => ⟨⟨by omega, by omega⟩, fun w => next (fun q => w ?_), fun w => yes ⟨b4.mp (by omega), Or.inr (fun p hp => ?_)⟩⟩⟩⟩
      · have := b4.mpr w.1
        omega
      · rcases q.2 with q | q
        · exact absurd q x
        · refine e7.mpr (fun p hp => ?_)
          rw [o2 p hp, (bb p hp).1, (bb p hp).2, q p hp]
          omega
      · have := e7.mp w p hp
        rw [o2 p hp, (bb p hp).1, (bb p hp).2] at this
        rw [this]
        omega
  have j50 : ∀ S2 : xS, kp t2_L S1 S2 → hvR (T 0 0) (wto X T Pn 0) (dng X T 0) (hin X T 0) S2 → w_X9_canStay_J50 f Q S1 S2 := by
    intro S2 a2 v2
    refine xL1_up (X 0 0) (fun v S' => 0 ≤ v ∧ kp t2_L S1 S' ∧ (∀ s : Int, 0 ≤ s → s < v → m s = true → X 5 s ≠ X 5 (s + 1)) ∧ hvR (T 0 0) (wto X T Pn v) (dng X T v) (hin X T v) S') ?_ 0 S2 (by omega) ⟨by omega, a2, fun s a b => by omega, v2⟩
    rintro s S3 ⟨s0, a3, hne, v3⟩ hs k2 hk2
    have hgr3 := hgr1.kp a3 rfl
    unfold w_X9_canStay_L52
    rw [hgr3.1]
    refine ⟨fun z => ?_, fun z => ⟨by omega, ?_⟩⟩
    · rw [show s = X 0 0 by omega] at v3 hne
      exact j235 S3 a3 hne v3
    · have s1 : s < X 0 0 := by omega
      have ms := (hM1.kp a3 (fun _ => rfl)) s s0 s1
      have b0 := hG.b s0 (by omega)
      have b1' := hG.b (s := s + 1) (by omega) (by omega)
      have bm := hG.2.2.1 s s0 s1
      refine ⟨fun y => ⟨by omega, ?_⟩, fun y => ⟨⟨by omega, by omega⟩, hk2 S3 (by omega) ⟨by omega, a3, fun t t0 t1 tm => ?_, v3.E (fun c c0 p _ => ?_) (fun c c0 p _ => ?_) (fun c c0 => ?_)⟩⟩⟩
      · have hms : m s = true := by
          rcases Bool.eq_false_or_eq_true (m s) with w | w
          · exact w
          · exact absurd (ms.2 w) y
        have hT6 := (hm s s0 s1).mp hms
        have bT := (hI.1.2.1 s s0 s1).2.2.2.1
        have e89 : ∀ S4 : xS, kp t2_L S1 S4 → S4 89 s = T 6 s := fun S4 a4 => (a4 89 s rfl).trans (h89 s s0 s1 hT6)
        rw [hgr3.2.1 s s0 (by omega), hgr3.2.1 (s + 1) (by omega) (by omega)]
        refine ⟨fun x => ?_, fun x => h1 S3 (aa.tr (a3.mono rfl)) (Or.inl ⟨s, s0, s1, hms, x⟩)⟩
        generalize hcc : T 6 s = c at *
        refine xL2_up (X 5 (s + 1)) (fun u v S' => X 5 s ≤ v ∧ u = dz X (X 5 s) (v - X 5 s).toNat ∧ kp t2_L S1 S' ∧ hvR (T 0 0) (wto X T Pn s) (fun c' p => dng X T s c' p ∨ (c' = c ∧ ∃ e : Int, X 5 s ≤ e ∧ e < v ∧ T 6 (X 6 e / 8) = c ∧ bt (X 6 e % 8) p)) (fun c' => hin X T s c' ∨ (c' = c ∧ ∃ e : Int, X 5 s ≤ e ∧ e < v ∧ T 6 (X 6 e / 8) = c)) S') ?_ 0 (X 5 s) S3 (by omega) ⟨by omega, by rw [show (X 5 s - X 5 s).toNat = 0 by omega]; rfl, a3, v3.E (fun _ _ _ _ => Iff.rfl) (fun c' _ p _ => ⟨Or.inl, fun w => w.elim id (fun y => by obtain ⟨-, e, y0, y1, -⟩ := y; omega)⟩) (fun c' _ => ⟨Or.inl, fun w => w.elim id (fun y => by obtain ⟨-, e, y0, y1, -⟩ := y; omega)⟩)⟩
        rintro u v S4 ⟨hv0, rfl, a4, v4⟩ hv k3 hk3
        have hgr4 := hgr1.kp a4 rfl
        have hM4 := hM1.kp a4 (fun _ => rfl)
        have dzb := (dz.b X (X 5 s) (v - X 5 s).toNat).1
        unfold w_X9_canStay_L102
        rw [hgr4.2.1 (s + 1) (by omega) (by omega)]
        refine ⟨fun z2 => ?_, fun z2 => ?_⟩
        · have ev : v = X 5 (s + 1) := by omega
          unfold w_X9_canStay_J209
          rw [e89 S4 a4, e1, Int.toNat_natCast]
          obtain ⟨n1, n2⟩ := bt_not (n := Pn) (by omega) dzb
          refine ⟨by omega, hk2 _ (by omega) ⟨by omega, a4.up rfl, fun t t0 t1 tm => ?_, (v4.w (c0 := c) n1 (by omega) (by omega)).E (fun c' _ p hp => ?_) (fun c' _ p _ => ?_) (fun c' _ => ?_)⟩⟩
          · by_cases q : t = s
            · rw [q]; exact x
            · exact hne t t0 (by omega) tm
          · rw [n2 p hp, ev, ste_dz hG s0 s1 hp]
            constructor
            · rintro (⟨t, t0, t1, t2⟩ | ⟨w1, w2, w3⟩)
              · exact ⟨t, t0, by omega, t2⟩
              · exact ⟨s, s0, by omega, by rw [hcc, w1], by omega, w3⟩
            · rintro ⟨t, t0, t1, t2, t3, t4⟩
              by_cases q : t = s
              · rw [q] at t2 t4
                exact Or.inr ⟨by rw [← t2, hcc], by omega, t4⟩
              · exact Or.inl ⟨t, t0, by omega, t2, t3, t4⟩
          · rw [ev]
            constructor
            · rintro (⟨t, t0, t1, t2⟩ | ⟨w1, e, w2, w3, w4, w5⟩)
              · exact ⟨t, t0, by omega, t2⟩
              · exact ⟨s, s0, by omega, by rw [hcc, w1], e, ⟨w2, w3, by rw [hcc]; exact w4⟩, w5⟩
            · rintro ⟨t, t0, t1, t2, e, ⟨t3, t4, t5⟩, t6⟩
              by_cases q : t = s
              · rw [q] at t2 t3 t4 t5
                exact Or.inr ⟨by rw [← t2, hcc], e, t3, t4, by rw [t5, hcc], t6⟩
              · exact Or.inl ⟨t, t0, by omega, t2, e, ⟨t3, t4, t5⟩, t6⟩
          · rw [ev]
            constructor
            · rintro (⟨t, t0, t1, t2⟩ | ⟨w1, e, w2, w3, w4⟩)
              · exact ⟨t, t0, by omega, t2⟩
              · exact ⟨s, s0, by omega, by rw [hcc, w1], e, ⟨w2, w3, by rw [hcc]; exact w4⟩⟩
            · rintro ⟨t, t0, t1, t2, e, ⟨t3, t4, t5⟩⟩
              by_cases q : t = s
              · rw [q] at t2 t3 t4 t5
                exact Or.inr ⟨by rw [← t2, hcc], e, t3, t4, by rw [t5, hcc]⟩
              · exact Or.inl ⟨t, t0, by omega, t2, e, ⟨t3, t4, t5⟩⟩
        · have gt := hG.t s0 s1 hv0 (by omega)
          have e74 := hgr4.2.2 v gt.1.1 gt.1.2
          have dzs : xor32 (dz X (X 5 s) (v - X 5 s).toNat) (X 6 v % 8) = dz X (X 5 s) (v + 1 - X 5 s).toNat := by
            rw [show (v + 1 - X 5 s).toNat = (v - X 5 s).toNat + 1 by omega, dz.succ, show X 5 s + ((v - X 5 s).toNat : Int) = v by omega]
          have mt := hM4 (X 6 v / 8) gt.2.2.1 gt.2.2.2
          have skip : T 6 (X 6 v / 8) ≠ c → k3 (dz X (X 5 s) (v + 1 - X 5 s).toNat) (v + 1) S4 := fun y => by
            refine hk3 _ S4 (by omega) ⟨by omega, rfl, a4, v4.E (fun _ _ _ _ => Iff.rfl) (fun c' _ p _ => ?_) (fun c' _ => ?_)⟩
            · constructor
              · rintro (w | ⟨w1, e, e0, e1, e2⟩)
                · exact Or.inl w
                · exact Or.inr ⟨w1, e, e0, by omega, e2⟩
              · rintro (w | ⟨w1, e, e0, e1, e2, e3⟩)
                · exact Or.inl w
                · by_cases q : e = v
                  · rw [q] at e2; exact absurd e2 y
                  · exact Or.inr ⟨w1, e, e0, by omega, e2, e3⟩
            · constructor
              · rintro (w | ⟨w1, e, e0, e1, e2⟩)
                · exact Or.inl w
                · exact Or.inr ⟨w1, e, e0, by omega, e2⟩
              · rintro (w | ⟨w1, e, e0, e1, e2⟩)
                · exact Or.inl w
                · by_cases q : e = v
                  · rw [q] at e2; exact absurd e2 y
                  · exact Or.inr ⟨w1, e, e0, by omega, e2⟩
          rw [e74, dzs]
          refine ⟨by omega, by omega, s9_goal hG hgr4 gt.1 ⟨by omega, fun y => ⟨⟨by omega, by omega⟩, skip ?_⟩, fun y => s9_goal hG hgr4 gt.1 ⟨by omega, fun w => ?_, fun w => ⟨⟨by omega, by omega⟩, skip ?_⟩⟩⟩⟩
          · have hmf : m (X 6 v / 8) = false := by
              rcases Bool.eq_false_or_eq_true (m (X 6 v / 8)) with w | w
              · have := mt.1 w
                omega
              · exact w
            intro w
            have := (hm _ gt.2.2.1 gt.2.2.2).mpr (by omega)
            rw [hmf] at this
            cases this
          · have hmt : m (X 6 v / 8) = true := by
              rcases Bool.eq_false_or_eq_true (m (X 6 v / 8)) with w | w
              · exact w
              · exact absurd (mt.2 w) y
            have t6 := (hm _ gt.2.2.1 gt.2.2.2).mp hmt
            have e89t : S4 89 (X 6 v / 8) = T 6 (X 6 v / 8) := (a4 89 _ rfl).trans (h89 _ gt.2.2.1 gt.2.2.2 t6)
            rw [e89t, e89 S4 a4] at w
            rw [e89 S4 a4, e74]
            refine ⟨by omega, by omega, ⟨by omega, by omega⟩, hk3 _ _ (by omega) ⟨by omega, rfl, (a4.up rfl).up rfl, (v4.d (c0 := c) (x := X 6 v % 8) (by omega) (by omega) (by omega)).E (fun _ _ _ _ => Iff.rfl) (fun c' _ p _ => ?_) (fun c' _ => ?_)⟩⟩
            · constructor
              · rintro ((q | ⟨w1, e, e0, e1, e2, e3⟩) | ⟨w1, w2⟩)
                · exact Or.inl q
                · exact Or.inr ⟨w1, e, e0, by omega, e2, e3⟩
                · exact Or.inr ⟨w1, v, hv0, by omega, w, w2⟩
              · rintro (q | ⟨w1, e, e0, e1, e2, e3⟩)
                · exact Or.inl (Or.inl q)
                · by_cases q : e = v
                  · rw [q] at e3; exact Or.inr ⟨w1, e3⟩
                  · exact Or.inl (Or.inr ⟨w1, e, e0, by omega, e2, e3⟩)
            · constructor
              · rintro ((q | ⟨w1, e, e0, e1, e2⟩) | q)
                · exact Or.inl q
                · exact Or.inr ⟨w1, e, e0, by omega, e2⟩
                · exact Or.inr ⟨q, v, hv0, by omega, w⟩
              · rintro (q | ⟨w1, e, e0, e1, e2⟩)
                · exact Or.inl (Or.inl q)
                · exact Or.inr w1
          · have hmt : m (X 6 v / 8) = true := by
              rcases Bool.eq_false_or_eq_true (m (X 6 v / 8)) with q | q
              · exact q
              · exact absurd (mt.2 q) y
            have t6 := (hm _ gt.2.2.1 gt.2.2.2).mp hmt
            have e89t : S4 89 (X 6 v / 8) = T 6 (X 6 v / 8) := (a4 89 _ rfl).trans (h89 _ gt.2.2.1 gt.2.2.2 t6)
            rw [e89t, e89 S4 a4] at w
            exact w
      · by_cases q : t = s
        · rw [q] at tm
          have := ms.1 tm
          omega
        · exact hne t t0 (by omega) tm
      · have hms : T 6 s ≠ c := fun w => by
          have := ms.1 ((hm s s0 s1).mpr (by omega))
          omega
        constructor
        · rintro ⟨t, t0, t1, t2⟩
          exact ⟨t, t0, by omega, t2⟩
        · rintro ⟨t, t0, t1, t2, t3⟩
          by_cases q : t = s
          · rw [q] at t2; exact absurd t2 hms
          · exact ⟨t, t0, by omega, t2, t3⟩
      · have hms : T 6 s ≠ c := fun w => by
          have := ms.1 ((hm s s0 s1).mpr (by omega))
          omega
        constructor
        · rintro ⟨t, t0, t1, t2⟩
          exact ⟨t, t0, by omega, t2⟩
        · rintro ⟨t, t0, t1, t2, t3⟩
          by_cases q : t = s
          · rw [q] at t2; exact absurd t2 hms
          · exact ⟨t, t0, by omega, t2, t3⟩
      · have hms : T 6 s ≠ c := fun w => by
          have := ms.1 ((hm s s0 s1).mpr (by omega))
          omega
        constructor
        · rintro ⟨t, t0, t1, t2⟩
          exact ⟨t, t0, by omega, t2⟩
        · rintro ⟨t, t0, t1, t2, t3⟩
          by_cases q : t = s
          · rw [q] at t2; exact absurd t2 hms
          · exact ⟨t, t0, by omega, t2, t3⟩
  refine ⟨by omega, ?_⟩
  refine xL1_up (T 0 0) (fun v S' => 0 ≤ v ∧ kp t2_L S1 S' ∧ ∀ c : Int, 0 ≤ c → c < v → S' 93 c = 0 ∧ S' 94 c = 0 ∧ S' 97 c = 0) ?_ 0 S1 (by omega) ⟨by omega, kp.rf, fun c a b => by omega⟩
  rintro v S2 ⟨hv0, a2, v2⟩ hv k2 hk2
  unfold w_X9_canStay_L15
  rw [show S2 54 58 = T 0 0 from (a2 54 58 rfl).trans e58]
  refine ⟨fun z => j50 S2 a2 (fun c c0 c1 => ?_), fun z => ⟨by omega, ⟨by omega, by omega⟩, hk2 _ (by omega) ⟨by omega, ((a2.up rfl).up rfl).up rfl, fun c c0 c1 => ?_⟩⟩⟩
  · obtain ⟨z93, z94, z97⟩ := v2 c c0 (by omega)
    rw [z93, z94, z97]
    refine ⟨by omega, fun p hp => ⟨⟨fun w => absurd w (bt_0 hp), ?_⟩, ⟨fun w => absurd w (bt_0 hp), ?_⟩⟩, Or.inl rfl, ⟨fun w => by omega, ?_⟩⟩
    · rintro ⟨s, s0, s1, -⟩
      omega
    · rintro ⟨s, s0, s1, -⟩
      omega
    · rintro ⟨s, s0, s1, -⟩
      omega
  · have q93 : (xup (xup (xup S2 93 v 0) 94 v 0) 97 v 0) 93 c = if c = v then 0 else S2 93 c := by simp [xup_at]
    have q94 : (xup (xup (xup S2 93 v 0) 94 v 0) 97 v 0) 94 c = if c = v then 0 else S2 94 c := by simp [xup_at]
    have q97 : (xup (xup (xup S2 93 v 0) 94 v 0) 97 v 0) 97 c = if c = v then 0 else S2 97 c := by simp [xup_at]
    rw [q93, q94, q97]
    by_cases e : c = v
    · rw [if_pos e, if_pos e, if_pos e]
      exact ⟨rfl, rfl, rfl⟩
    · rw [if_neg e, if_neg e, if_neg e]
      exact v2 c c0 (by omega)
end PWSY

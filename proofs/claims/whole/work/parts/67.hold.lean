/-! pure layer: the class: does a component hold a run -/
abbrev t1_L : List (Nat × Int) := [(52, -9), (53, -9)]
def hvC (F : Int → Nat → Prop) (G : Int → Prop) (S : xS) : Prop := ∀ c : Int, 0 ≤ c → c < 2000 → (0 ≤ S 52 c ∧ S 52 c < 8) ∧ (∀ p : Nat, p < 3 → (bt (S 52 c) p ↔ F c p)) ∧ (S 53 c = 0 ∨ S 53 c = 1) ∧ (S 53 c = 1 ↔ G c)
theorem hvC.E {F F' : Int → Nat → Prop} {G G' : Int → Prop} {S : xS} (h : hvC F G S) (hF : ∀ c : Int, 0 ≤ c → ∀ p : Nat, p < 3 → (F c p ↔ F' c p)) (hG : ∀ c : Int, 0 ≤ c → (G c ↔ G' c)) : hvC F' G' S := fun c c0 c1 => by
  obtain ⟨h1, h2, h3, h4⟩ := h c c0 c1
  exact ⟨h1, fun p hp => (h2 p hp).trans (hF c c0 p hp), h3, h4.trans (hG c c0)⟩
theorem hvC.or {F : Int → Nat → Prop} {G : Int → Prop} {S : xS} (h : hvC F G S) {c0 x : Int} (hx : 0 ≤ x ∧ x < 8) (b0 : 0 ≤ c0) (b1 : c0 < 2000) : hvC (fun c p => F c p ∨ (c = c0 ∧ bt x p)) G (xup S 52 c0 (xor32 (S 52 c0) x)) := fun c d0 d1 => by
  obtain ⟨h1, h2, h3, h4⟩ := h c d0 d1
  show (0 ≤ (xup S 52 c0 (xor32 (S 52 c0) x)) 52 c ∧ (xup S 52 c0 (xor32 (S 52 c0) x)) 52 c < 8) ∧ (∀ p : Nat, p < 3 → (bt ((xup S 52 c0 (xor32 (S 52 c0) x)) 52 c) p ↔ (F c p ∨ (c = c0 ∧ bt x p)))) ∧ (S 53 c = 0 ∨ S 53 c = 1) ∧ (S 53 c = 1 ↔ G c)
  rw [xup_sm]
  by_cases e : c = c0
  · rw [if_pos e]
    obtain ⟨o1, o2⟩ := bt_or (h c0 b0 b1).1 hx
    refine ⟨o1, fun p hp => ?_, h3, h4⟩
    rw [o2 p hp, ← e, h2 p hp]
    exact ⟨fun w => w.elim Or.inl (fun y => Or.inr ⟨rfl, y⟩), fun w => w.elim Or.inl (fun y => Or.inr y.2)⟩
  · rw [if_neg e]
    exact ⟨h1, fun p hp => (h2 p hp).trans ⟨Or.inl, fun w => w.elim id (fun y => absurd y.1 e)⟩, h3, h4⟩
theorem hvC.on {F : Int → Nat → Prop} {G : Int → Prop} {S : xS} (h : hvC F G S) (c0 : Int) : hvC F (fun c => G c ∨ c = c0) (xup S 53 c0 1) := fun c d0 d1 => by
  obtain ⟨h1, h2, h3, h4⟩ := h c d0 d1
  refine ⟨h1, h2, ?_, ?_⟩
  · rw [xup_sm]
    split
    · exact Or.inr rfl
    · exact h3
  · rw [xup_sm]
    by_cases e : c = c0
    · rw [if_pos e]
      exact ⟨fun _ => Or.inr e, fun _ => rfl⟩
    · rw [if_neg e]
      exact h4.trans ⟨Or.inl, fun w => w.elim id (fun y => absurd y e)⟩
section PWHD
variable {X T S : xS} {m : Int → Bool} {F : Int → Nat → Prop} {G : Int → Prop}
theorem ste_dz (hG : gr X) {s : Int} (s0 : 0 ≤ s) (s1 : s < X 0 0) {p : Nat} (hp : p < 3) : bt (dz X (X 5 s) (X 5 (s + 1) - X 5 s).toNat) p ↔ ste X s p := by
  have := hG.2.2.1 s s0 s1
  rw [(dz.b X (X 5 s) (X 5 (s + 1) - X 5 s).toNat).2 p hp, show X 5 s + ((X 5 (s + 1) - X 5 s).toNat : Int) = X 5 (s + 1) by omega]
  exact Iff.rfl
theorem s2_without {Q : Int → xS → Prop} {s : Int} (hG : gr X) (hgc : gCl X S) (s0 : 0 ≤ s) (s1 : s < X 0 0) (h1 : X 5 s = X 5 (s + 1) → Q 1 S) (h0 : X 5 s ≠ X 5 (s + 1) → Q 0 S) : w_X2_isWithoutEdges s S Q := by
  have n0 := hG.1
  unfold w_X2_isWithoutEdges
  rw [hgc.2.2.2.2.1 s s0 (by omega), hgc.2.2.2.2.1 (s + 1) (by omega) (by omega)]
  exact ⟨by omega, by omega, fun z => h0 z, fun z => h1 z⟩
theorem s0_judge {Q : xS → Prop} {s c : Int} (hG : gr X) (hgc : gCl X S) (h46 : ∀ t : Int, 0 ≤ t → t < X 0 0 → S 46 t = T 6 t) (s0 : 0 ≤ s) (s1 : s < X 0 0) (hc : T 6 s = c) (c0 : 0 ≤ c) (c1 : c < 2000) (h : hvC F G S) (k : ∀ S' : xS, kp t1_L S S' → hvC (fun c' p => F c' p ∨ (c' = c ∧ (¬ ste X s p ∨ ∃ e : Int, inn X T s e ∧ bt (X 6 e % 8) p))) (fun c' => G c' ∨ (c' = c ∧ (X 5 s = X 5 (s + 1) ∨ ∃ e : Int, inn X T s e))) S' → Q S') : w_X0_judge s c S Q := by
  have n0 := hG.1
  have g7 := hG.2.2.2.2.1
  have b0 := hG.b s0 (by omega)
  have b1 := hG.b (s := s + 1) (by omega) (by omega)
  have bm := hG.2.2.1 s s0 s1
  have e34 := hgc.2.2.2.2.2 s s0 s1
  have dzb := (dz.b X (X 5 s) (X 5 (s + 1) - X 5 s).toNat).1
  obtain ⟨n1, n2⟩ := bt_not (n := 3) (by decide) dzb
  have j41 : ∀ S1 : xS, kp t1_L S S1 → hvC (fun c' p => F c' p ∨ (c' = c ∧ ¬ ste X s p)) (fun c' => G c' ∨ (c' = c ∧ X 5 s = X 5 (s + 1))) S1 → w_X0_judge_J41 s c Q S1 := by
    intro S1 a1 v1
    have e32 := (hgc.kp a1 rfl).2.2.2.2.1 s s0 (by omega)
    unfold w_X0_judge_J41
    rw [e32]
    refine xL1_up (X 5 (s + 1)) (fun v S' => X 5 s ≤ v ∧ kp t1_L S S' ∧ hvC (fun c' p => (F c' p ∨ (c' = c ∧ ¬ ste X s p)) ∨ (c' = c ∧ ∃ e : Int, X 5 s ≤ e ∧ e < v ∧ T 6 (X 6 e / 8) = c ∧ bt (X 6 e % 8) p)) (fun c' => (G c' ∨ (c' = c ∧ X 5 s = X 5 (s + 1))) ∨ (c' = c ∧ ∃ e : Int, X 5 s ≤ e ∧ e < v ∧ T 6 (X 6 e / 8) = c)) S') ?_ (X 5 s) S1 (by omega) ⟨by omega, a1, v1.E (fun c' _ p _ => ⟨Or.inl, fun w => w.elim id (fun y => by obtain ⟨-, e, y0, y1, -⟩ := y; omega)⟩) (fun c' _ => ⟨Or.inl, fun w => w.elim id (fun y => by obtain ⟨-, e, y0, y1, -⟩ := y; omega)⟩)⟩
    rintro v S2 ⟨hv0, a2, v2⟩ hv k2 hk2
    have hgc2 := hgc.kp a2 rfl
    unfold w_X0_judge_L51
    rw [hgc2.2.2.2.2.1 (s + 1) (by omega) (by omega)]
    refine ⟨by omega, fun z => ?_, fun z => ?_⟩
    · have ev : v = X 5 (s + 1) := by omega
      refine k S2 a2 (v2.E (fun c' _ p _ => ?_) (fun c' _ => ?_))
      · rw [ev]
        constructor
        · rintro ((w | w) | ⟨w1, e, e0, e1, e2, e3⟩)
          · exact Or.inl w
          · exact Or.inr ⟨w.1, Or.inl w.2⟩
          · exact Or.inr ⟨w1, Or.inr ⟨e, ⟨e0, e1, by rw [hc]; exact e2⟩, e3⟩⟩
        · rintro (w | ⟨w1, (w | ⟨e, ⟨e0, e1, e2⟩, e3⟩)⟩)
          · exact Or.inl (Or.inl w)
          · exact Or.inl (Or.inr ⟨w1, w⟩)
          · exact Or.inr ⟨w1, e, e0, e1, by rw [← hc]; exact e2, e3⟩
      · rw [ev]
        constructor
        · rintro ((w | w) | ⟨w1, e, e0, e1, e2⟩)
          · exact Or.inl w
          · exact Or.inr ⟨w.1, Or.inl w.2⟩
          · exact Or.inr ⟨w1, Or.inr ⟨e, ⟨e0, e1, by rw [hc]; exact e2⟩⟩⟩
        · rintro (w | ⟨w1, (w | ⟨e, ⟨e0, e1, e2⟩⟩)⟩)
          · exact Or.inl (Or.inl w)
          · exact Or.inl (Or.inr ⟨w1, w⟩)
          · exact Or.inr ⟨w1, e, e0, e1, by rw [← hc]; exact e2⟩
    · have gt := hG.t s0 s1 hv0 (by omega)
      have e33 := hgc2.2.2.2.1 v gt.1.1 gt.1.2
      have hcap := hgc2.2.2.1
      rw [e33]
      have e46 : S2 46 (X 6 v / 8) = T 6 (X 6 v / 8) := (a2 46 _ rfl).trans (h46 _ gt.2.2.1 gt.2.2.2)
      refine ⟨by omega, by omega, fun y => ⟨⟨by omega, by omega⟩, hk2 S2 (by omega) ⟨by omega, a2, v2.E (fun c' _ p _ => ?_) (fun c' _ => ?_)⟩⟩, fun y => ?_⟩
      · rw [e46] at y
        constructor
        · rintro (w | ⟨w1, e, e0, e1, e2⟩)
          · exact Or.inl w
          · exact Or.inr ⟨w1, e, e0, by omega, e2⟩
        · rintro (w | ⟨w1, e, e0, e1, e2, e3⟩)
          · exact Or.inl w
          · by_cases q : e = v
            · rw [q] at e2; exact absurd e2 y
            · exact Or.inr ⟨w1, e, e0, by omega, e2, e3⟩
      · rw [e46] at y
        constructor
        · rintro (w | ⟨w1, e, e0, e1, e2⟩)
          · exact Or.inl w
          · exact Or.inr ⟨w1, e, e0, by omega, e2⟩
        · rintro (w | ⟨w1, e, e0, e1, e2⟩)
          · exact Or.inl w
          · by_cases q : e = v
            · rw [q] at e2; exact absurd e2 y
            · exact Or.inr ⟨w1, e, e0, by omega, e2⟩
      · rw [e46] at y
        have ed : xand (X 6 v) 7 = X 6 v % 8 := by
          by_cases hlt : X 6 v < 2147483648
          · have := xand_lo (a := X 6 v) 3 ⟨gt.2.1, hlt⟩ (by decide)
            rw [show (2 : Int) ^ 3 - 1 = 7 by decide, show (2 : Int) ^ 3 = 8 by decide] at this
            exact this
          · omega
        unfold w_X2_doersOf
        rw [ed]
        refine ⟨⟨by omega, by omega⟩, hk2 _ (by omega) ⟨by omega, (a2.up rfl).up rfl, ?_⟩⟩
        have q := (v2.on c).or (c0 := c) (x := X 6 v % 8) (by omega) c0 c1
        refine hvC.E q (fun c' _ p _ => ?_) (fun c' _ => ?_)
        · constructor
          · rintro ((w | ⟨w1, e, e0, e1, e2, e3⟩) | ⟨w1, w2⟩)
            · exact Or.inl w
            · exact Or.inr ⟨w1, e, e0, by omega, e2, e3⟩
            · exact Or.inr ⟨w1, v, hv0, by omega, y, w2⟩
          · rintro (w | ⟨w1, e, e0, e1, e2, e3⟩)
            · exact Or.inl (Or.inl w)
            · by_cases q : e = v
              · rw [q] at e3; exact Or.inr ⟨w1, e3⟩
              · exact Or.inl (Or.inr ⟨w1, e, e0, by omega, e2, e3⟩)
        · constructor
          · rintro ((w | ⟨w1, e, e0, e1, e2⟩) | w)
            · exact Or.inl w
            · exact Or.inr ⟨w1, e, e0, by omega, e2⟩
            · exact Or.inr ⟨w, v, hv0, by omega, y⟩
          · rintro (w | ⟨w1, e, e0, e1, e2⟩)
            · exact Or.inl (Or.inl w)
            · exact Or.inr w1
  unfold w_X0_judge
  rw [e34]
  refine ⟨by omega, by omega, ?_⟩
  have v1 := h.or (c0 := c) (x := xand 7 (xxor (dz X (X 5 s) (X 5 (s + 1) - X 5 s).toNat) (-1))) n1 c0 c1
  have fE : ∀ c' : Int, 0 ≤ c' → ∀ p : Nat, p < 3 → ((F c' p ∨ (c' = c ∧ bt (xand 7 (xxor (dz X (X 5 s) (X 5 (s + 1) - X 5 s).toNat) (-1))) p)) ↔ (F c' p ∨ (c' = c ∧ ¬ ste X s p))) := by
    intro c' _ p hp
    have e := (n2 p hp)
    rw [ste_dz hG s0 s1 hp] at e
    have e' : bt (xand 7 (xxor (dz X (X 5 s) (X 5 (s + 1) - X 5 s).toNat) (-1))) p ↔ ¬ ste X s p := e.trans ⟨fun w => w.2, fun w => ⟨hp, w⟩⟩
    rw [e']
  refine s2_without hG (hgc.kp ((kp.rf (L := t1_L)).up rfl) rfl) s0 s1 (fun z => ⟨fun w => by omega, fun _ => j41 _ ((kp.rf.up rfl).up rfl) ?_⟩) (fun z => ⟨fun _ => j41 _ (kp.rf.up rfl) ?_, fun w => absurd rfl w⟩)
  · exact (v1.on c).E fE (fun c' _ => ⟨fun w => w.elim Or.inl (fun y => Or.inr ⟨y, z⟩), fun w => w.elim Or.inl (fun y => Or.inr y.1)⟩)
  · exact v1.E fE (fun c' _ => ⟨Or.inl, fun w => w.elim id (fun y => absurd y.2 z)⟩)
theorem s0_holds {Q : Int → xS → Prop} {f : Int} (hG : gr X) (hgc : gCl X S) (hI : tI X m T) (hT : tCl X T S) (h1 : ∀ S' : xS, kp t1_L S S' → CR X T f → Q 1 S') (h0 : ∀ S' : xS, kp t1_L S S' → ¬ CR X T f → Q 0 S') : w_X0_holdsRun f S Q := by
  have n0 := hG.1
  have nn := hI.n hG
  have h46 : ∀ t : Int, 0 ≤ t → t < X 0 0 → S 46 t = T 6 t := fun t t0 t1 => (hT.2.2.2.2.1 t t0 t1).1
  have e91 := hT.1
  have j56 : ∀ S1 : xS, kp t1_L S S1 → hvC (srv X T (X 0 0)) (las X T (X 0 0)) S1 → w_X0_holdsRun_J56 f Q S1 := by
    intro S1 a1 v1
    refine xL1_up (T 0 0) (fun v S' => S' = S1 ∧ 0 ≤ v ∧ ∀ c : Int, 0 ≤ c → c < v → ¬ (las X T (X 0 0) c ∧ (f = 0 ∨ ∀ p : Nat, p < 3 → srv X T (X 0 0) c p))) ?_ 0 S1 (by omega) ⟨rfl, by omega, fun c a b => by omega⟩
    rintro v S2 ⟨rfl, hv0, hpre⟩ hv k2 hk2
    have e91' : S2 9 1 = T 0 0 := (a1 9 1 rfl).trans e91
    unfold w_X0_holdsRun_L58
    rw [e91']
    refine ⟨fun z => h0 S2 a1 ?_, fun z => ⟨by omega, ?_⟩⟩
    · rintro ⟨c, c0, c1, hl, hf⟩
      exact hpre c c0 (by omega) ⟨hl, hf⟩
    · obtain ⟨b1, b2, b3, b4⟩ := v1 v hv0 (by omega)
      have next : ¬ (las X T (X 0 0) v ∧ (f = 0 ∨ ∀ p : Nat, p < 3 → srv X T (X 0 0) v p)) → xR (v + 1) ∧ k2 (v + 1) S2 := fun w => ⟨⟨by omega, by omega⟩, hk2 S2 (by omega) ⟨rfl, by omega, fun c c0 c1 => by
        by_cases e : c = v
        · rw [e]; exact w
        · exact hpre c c0 (by omega)⟩⟩
      have yes : (las X T (X 0 0) v ∧ (f = 0 ∨ ∀ p : Nat, p < 3 → srv X T (X 0 0) v p)) → Q 1 S2 := fun w => h1 S2 a1 ⟨v, hv0, by omega, w⟩
      have e7 := bt_all (n := 3) (by decide) b1
      refine ⟨fun y => next (fun w => y (b4.mpr w.1)), fun y => ⟨fun x => yes ⟨b4.mp y, Or.inl x⟩, fun x => ⟨fun w => next (fun q => w ?_), fun w => yes ⟨b4.mp y, Or.inr (fun p hp => ?_)⟩⟩⟩⟩
      · rcases q.2 with q | q
        · exact absurd q x
        · exact e7.mpr (fun p hp => ⟨fun _ => hp, fun _ => (b2 p hp).mpr (q p hp)⟩)
      · exact (b2 p hp).mp ((e7.mp w p hp).mpr hp)
  have kk : kp t1_L S (xfill (xfill S 52 2000 0) 53 2000 0) := (kp.rf.fill (fun _ => rfl)).fill (fun _ => rfl)
  refine xL1_up (X 0 0) (fun v S' => 0 ≤ v ∧ kp t1_L S S' ∧ hvC (srv X T v) (las X T v) S') ?_ 0 _ (by omega) ⟨by omega, kk, fun c c0 c1 => ?_⟩
  · rintro v S2 ⟨hv0, a2, v2⟩ hv k2 hk2
    have hgc2 := hgc.kp a2 rfl
    unfold w_X0_holdsRun_L18
    rw [hgc2.1]
    refine ⟨fun z => ?_, fun z => ⟨by omega, ?_⟩⟩
    · rw [show v = X 0 0 by omega] at v2
      exact j56 S2 a2 v2
    · have e46 : S2 46 v = T 6 v := (a2 46 v rfl).trans (h46 v hv0 (by omega))
      have b6 := (hI.1.2.1 v hv0 (by omega)).2.2.2.1
      rw [e46]
      refine ⟨fun y => ⟨⟨by omega, by omega⟩, hk2 S2 (by omega) ⟨by omega, a2, v2.E (fun c c0 p _ => ?_) (fun c c0 => ?_)⟩⟩, fun y => s0_judge hG hgc2 (fun t t0 t1 => (a2 46 t rfl).trans (h46 t t0 t1)) hv0 (by omega) rfl (by omega) (by omega) v2 (fun S3 a3 v3 => ⟨⟨by omega, by omega⟩, hk2 S3 (by omega) ⟨by omega, a2.tr a3, v3.E (fun c c0 p _ => ?_) (fun c c0 => ?_)⟩⟩)⟩
      · constructor
        · rintro ⟨s, s0, s1, s2⟩
          exact ⟨s, s0, by omega, s2⟩
        · rintro ⟨s, s0, s1, s2, s3⟩
          by_cases e : s = v
          · rw [e] at s2; omega
          · exact ⟨s, s0, by omega, s2, s3⟩
      · constructor
        · rintro ⟨s, s0, s1, s2⟩
          exact ⟨s, s0, by omega, s2⟩
        · rintro ⟨s, s0, s1, s2, s3⟩
          by_cases e : s = v
          · rw [e] at s2; omega
          · exact ⟨s, s0, by omega, s2, s3⟩
      · constructor
        · rintro (⟨s, s0, s1, s2⟩ | ⟨w1, w2⟩)
          · exact ⟨s, s0, by omega, s2⟩
          · exact ⟨v, hv0, by omega, w1.symm, w2⟩
        · rintro ⟨s, s0, s1, s2, s3⟩
          by_cases e : s = v
          · rw [e] at s2 s3
            exact Or.inr ⟨s2.symm, s3⟩
          · exact Or.inl ⟨s, s0, by omega, s2, s3⟩
      · constructor
        · rintro (⟨s, s0, s1, s2⟩ | ⟨w1, w2⟩)
          · exact ⟨s, s0, by omega, s2⟩
          · exact ⟨v, hv0, by omega, w1.symm, w2⟩
        · rintro ⟨s, s0, s1, s2, s3⟩
          by_cases e : s = v
          · rw [e] at s2 s3
            exact Or.inr ⟨s2.symm, s3⟩
          · exact Or.inl ⟨s, s0, by omega, s2, s3⟩
  · have z52 : (xfill (xfill S 52 2000 0) 53 2000 0) 52 c = 0 := by
      rw [xfill_at, if_neg (fun w => by omega), xfill_at, if_pos ⟨rfl, c0, c1⟩]
    have z53 : (xfill (xfill S 52 2000 0) 53 2000 0) 53 c = 0 := by
      rw [xfill_at, if_pos ⟨rfl, c0, c1⟩]
    rw [z52, z53]
    refine ⟨by omega, fun p hp => ⟨fun w => absurd w (bt_0 hp), ?_⟩, Or.inl rfl, ⟨fun w => by omega, ?_⟩⟩
    · rintro ⟨s, s0, s1, -⟩
      omega
    · rintro ⟨s, s0, s1, -⟩
      omega
end PWHD

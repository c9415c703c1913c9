/-! pure layer: a search begins -/
def brd (P : xS) : Prop := ∃ p q k : Int, (0 ≤ p ∧ p < P 54 1) ∧ (0 ≤ q ∧ q < P 54 1) ∧ q ≠ p ∧ (0 ≤ k ∧ k < P 54 3) ∧ (P 63 k = 3 + 2 * p ∨ P 63 k = 4 + 2 * p) ∧ pw_like P p q
section PWBG
variable {P S : xS} {md : Int}
theorem s4_hasInv {Q : Int → xS → Prop} (hW : pw_WF P) (hC : pw_C P S) (h1 : brd P → Q 1 S) (h0 : ¬ brd P → Q 0 S) : w_X4_hasInvariantOfAlike S Q := by
  have w0 := hW.1
  refine xL1_up (P 54 1) (fun v S' => S' = S ∧ 0 ≤ v ∧ ∀ p q k : Int, (0 ≤ p ∧ p < v) → (0 ≤ q ∧ q < P 54 1) → q ≠ p → (0 ≤ k ∧ k < P 54 3) → (P 63 k = 3 + 2 * p ∨ P 63 k = 4 + 2 * p) → ¬ pw_like P p q) ?_ 0 S (by omega) ⟨rfl, by omega, fun p q k h => by omega⟩
  rintro v S' ⟨rfl, v0, hpre⟩ hv k2 hk2
  unfold w_X4_hasInvariantOfAlike_L2
  rw [hC.1]
  refine ⟨fun z => h0 (fun ⟨p, q, k, a, b, c, d, e, g⟩ => hpre p q k ⟨a.1, by omega⟩ b c d e g), fun z => ?_⟩
  refine xL1_up (P 54 1) (fun u S2 => S2 = S' ∧ 0 ≤ u ∧ ∀ q k : Int, (0 ≤ q ∧ q < u) → q ≠ v → (0 ≤ k ∧ k < P 54 3) → (P 63 k = 3 + 2 * v ∨ P 63 k = 4 + 2 * v) → ¬ pw_like P v q) ?_ 0 S' (by omega) ⟨rfl, by omega, fun q k h => by omega⟩
  rintro u S2 ⟨rfl, u0, hpre2⟩ hu k3 hk3
  unfold w_X4_hasInvariantOfAlike_L12
  rw [hC.1]
  refine ⟨fun y => ⟨by omega, hk2 S2 (by omega) ⟨rfl, by omega, fun p q k a b c d e => ?_⟩⟩, fun y => ⟨fun w => ⟨by omega, hk3 S2 (by omega) ⟨rfl, by omega, fun q k a c d e => ?_⟩⟩, fun w => ?_⟩⟩
  · by_cases hp : p = v
    · subst hp
      exact hpre2 q k ⟨b.1, by omega⟩ c d e
    · exact hpre p q k ⟨a.1, by omega⟩ b c d e
  · exact hpre2 q k ⟨a.1, by omega⟩ c d e
  · refine s4_isWatched hW hC (by omega) (fun hk => ⟨fun x => by omega, fun _ => ?_⟩) (fun hk => ⟨fun _ => ⟨by omega, hk3 S2 (by omega) ⟨rfl, by omega, fun q k a c d e => ?_⟩⟩, fun x => absurd rfl x⟩)
    · obtain ⟨k, k0, k1, k2'⟩ := hk
      refine s4_hasAlike hW hC (by omega) (by omega) (fun hl => ⟨fun x => by omega, fun _ => h1 ⟨v, u, k, by omega, by omega, w, ⟨k0, k1⟩, k2', hl⟩⟩) (fun hl => ⟨fun _ => ⟨by omega, hk3 S2 (by omega) ⟨rfl, by omega, fun q k a c d e => ?_⟩⟩, fun x => absurd rfl x⟩)
      by_cases hq : q = u
      · rw [hq]; exact hl
      · exact hpre2 q k ⟨a.1, by omega⟩ c d e
    · exact absurd e (hk k d.1 d.2)
theorem s9_isBarred {Q : Int → xS → Prop} (hW : pw_WF P) (hR : pw_R P S) (h1 : brd P → Q 1 S) (h0 : ¬ brd P → Q 0 S) : w_X9_isBarred S Q := by
  have w0 := hW.1
  have w3 := hW.2.2.1
  refine xL1_up (P 54 3) (fun v S' => S' = S ∧ 0 ≤ v ∧ ∀ p q k : Int, (0 ≤ p ∧ p < P 54 1) → (0 ≤ q ∧ q < P 54 1) → q ≠ p → (0 ≤ k ∧ k < v) → (P 63 k = 3 + 2 * p ∨ P 63 k = 4 + 2 * p) → ¬ pw_like P p q) ?_ 0 S (by omega) ⟨rfl, by omega, fun p q k _ _ _ h => by omega⟩
  rintro v S' ⟨rfl, v0, hpre⟩ hv k2 hk2
  unfold w_X9_isBarred_L2
  rw [hR.2.2.1, hR.2.2.2.2.2.2.2.2.2.2.2.1]
  refine ⟨fun z => h0 (fun ⟨p, q, k, a, b, c, d, e, g⟩ => hpre p q k a b c ⟨d.1, by omega⟩ e g), fun z => ⟨by omega, ?_⟩⟩
  have w := hW.2.2.2.2.2.2.2.1 v v0 (by omega)
  have next : (∀ p q : Int, (0 ≤ p ∧ p < P 54 1) → (0 ≤ q ∧ q < P 54 1) → q ≠ p → (P 63 v = 3 + 2 * p ∨ P 63 v = 4 + 2 * p) → ¬ pw_like P p q) → (-2147483648 ≤ v + 1 ∧ v + 1 < 2147483648) ∧ k2 (v + 1) S' := fun h => ⟨by omega, hk2 S' (by omega) ⟨rfl, by omega, fun p q k a b c d e => by
    by_cases hk : k = v
    · subst hk
      exact h p q a b c e
    · exact hpre p q k a b c ⟨d.1, by omega⟩ e⟩⟩
  have j : ∀ t : Int, (P 63 v < 3 ∧ t = -1) ∨ (3 ≤ P 63 v ∧ t = (P 63 v - 3) / 2) → w_X9_isBarred_J34 Q k2 v t S' := by
    intro t ht
    unfold w_X9_isBarred_J34
    rw [hR.1]
    refine ⟨fun y => next (fun p q a b c e => by omega), fun y => ⟨fun y2 => ?_, fun y2 => next (fun p q a b c e => by omega)⟩⟩
    refine xL1_up (P 54 1) (fun u S2 => S2 = S' ∧ 0 ≤ u ∧ ∀ q : Int, (0 ≤ q ∧ q < u) → q ≠ t → ¬ pw_like P t q) ?_ 0 S' (by omega) ⟨rfl, by omega, fun q h => by omega⟩
    rintro u S2 ⟨rfl, u0, hpre2⟩ hu k3 hk3
    unfold w_X9_isBarred_L53
    rw [hR.1]
    refine ⟨fun x => next (fun p q a b c e => ?_), fun x => ⟨fun x2 => ⟨by omega, hk3 S2 (by omega) ⟨rfl, by omega, fun q a c => hpre2 q ⟨a.1, by omega⟩ c⟩⟩, fun x2 => ?_⟩⟩
    · have : p = t := by omega
      subst this
      exact hpre2 q ⟨b.1, by omega⟩ c
    · refine s9_areLike (hW.R hR) (by omega) (by omega) (fun hl => ⟨fun r => by omega, fun _ => ?_⟩) (fun hl => ⟨fun _ => ⟨by omega, hk3 S2 (by omega) ⟨rfl, by omega, fun q a c => ?_⟩⟩, fun r => absurd rfl r⟩)
      · rw [pw_like.R hR] at hl
        exact h1 ⟨t, u, v, by omega, by omega, x2, ⟨v0, by omega⟩, by omega, hl⟩
      · rw [pw_like.R hR] at hl
        by_cases hq : q = u
        · rw [hq]; exact hl
        · exact hpre2 q ⟨a.1, by omega⟩ c
  exact ⟨fun y => ⟨by omega, by omega, j _ (Or.inr ⟨y, rfl⟩)⟩, fun y => j _ (Or.inl ⟨by omega, rfl⟩)⟩
theorem s6_findKin {Q : xS → Prop} (hW : pw_WF P) (hC : pw_C P S) (hm : S 2 10 = md) (k : ∀ S' : xS, kp [(21, -9)] S S' → ex_kn (ex_K P md) S' → Q S') : w_X6_findKin S Q := by
  have w0 := hW.1
  refine xL1_up (P 54 1) (fun v S' => kp [(21, -9)] S S' ∧ 0 ≤ v ∧ ∀ p q : Int, 0 ≤ p → p < q → q < 3 → (ex_K P md p q → p < v → S' 21 (p * 3 + q) = 1) ∧ (¬ (ex_K P md p q ∧ p < v) → S' 21 (p * 3 + q) = 0)) ?_ 0 _ (by omega) ⟨kp.rf.fill (fun _ => rfl), by omega, fun p q a b c => ⟨fun _ h => by omega, fun _ => by rw [xfill_at, if_pos ⟨rfl, by omega, by omega⟩]⟩⟩
  rintro v S' ⟨a1, v0, hpre⟩ hv k2 hk2
  have hC1 := hC.kp a1 rfl
  unfold w_X6_findKin_L10
  rw [hC1.1]
  refine ⟨fun z => k S' a1 (fun p q a b c => ⟨fun h => (hpre p q a b c).1 h (by have := h.2.1; omega), fun h => (hpre p q a b c).2 (fun w => h w.1)⟩), fun z => ?_⟩
  refine xL1_up (P 54 1) (fun u S2 => kp [(21, -9)] S S2 ∧ 0 ≤ u ∧ ∀ p q : Int, 0 ≤ p → p < q → q < 3 → (ex_K P md p q → (p < v ∨ (p = v ∧ q < u)) → S2 21 (p * 3 + q) = 1) ∧ (¬ (ex_K P md p q ∧ (p < v ∨ (p = v ∧ q < u))) → S2 21 (p * 3 + q) = 0)) ?_ 0 S' (by omega) ⟨a1, by omega, fun p q a b c => ⟨fun h g => (hpre p q a b c).1 h (by omega), fun h => (hpre p q a b c).2 (fun w => h ⟨w.1, Or.inl w.2⟩)⟩⟩
  rintro u S2 ⟨a2, u0, hpre2⟩ hu k3 hk3
  have hC2 := hC.kp a2 rfl
  unfold w_X6_findKin_L23
  rw [hC2.1, a2 2 10 rfl, hm]
  refine ⟨fun y => ⟨by omega, hk2 S2 (by omega) ⟨a2, by omega, fun p q a b c => ⟨fun h g => (hpre2 p q a b c).1 h (by have := h.2.1; omega), fun h => (hpre2 p q a b c).2 (fun w => h ⟨w.1, by omega⟩)⟩⟩⟩, fun y => ?_⟩
  have same : ¬ (md = 115 ∧ pw_like P v u) → (-2147483648 ≤ u + 1 ∧ u + 1 < 2147483648) ∧ k3 (u + 1) S2 := fun hn => ⟨by omega, hk3 S2 (by omega) ⟨a2, by omega, fun p q a b c => ⟨fun h g => (hpre2 p q a b c).1 h (by
    by_cases e : p = v ∧ q = u
    · exfalso
      rw [e.1, e.2] at h
      exact hn ⟨h.1, h.2.2⟩
    · omega), fun h => (hpre2 p q a b c).2 (fun w => h ⟨w.1, by omega⟩)⟩⟩⟩
  refine ⟨fun w => same (fun h => w h.1), fun w => s4_hasAlike hW hC2 (by omega) (by omega) (fun hl => ⟨fun x => by omega, fun _ => ⟨by omega, by omega, hk3 _ (by omega) ⟨a2.up rfl, by omega, fun p q a b c => ?_⟩⟩⟩) (fun hl => ⟨fun _ => same (fun h => hl h.2), fun x => absurd rfl x⟩)⟩
  have h := hpre2 p q a b c
  rw [xup_at]
  by_cases e : p = v ∧ q = u
  · rw [if_pos ⟨rfl, by rw [e.1, e.2]⟩]
    refine ⟨fun _ _ => rfl, fun hn => absurd ⟨⟨w, by omega, by rw [e.1, e.2]; exact hl⟩, Or.inr ⟨e.1, by omega⟩⟩ hn⟩
  · rw [if_neg (fun z => by omega)]
    exact ⟨fun hk g => h.1 hk (by omega), fun hn => h.2 (fun w => hn ⟨w.1, by omega⟩)⟩
end PWBG

/-! pure layer: the program that is laid, on both sides. P: the cells 54 (1, 2, 3), 55 .. 66 of the reference -/
def pw_us (p v : Int) : Prop := (0 ≤ v ∧ v < 3) ∨ v = 3 + 2 * p ∨ v = 4 + 2 * p
def pw_fit (n p k a b : Int) : Prop := k = 107 ∨ ((k = 115 ∨ k = 105 ∨ k = 61 ∨ k = 33 ∨ k = 97) ∧ pw_us p a ∧ 0 ≤ b ∧ b < 4) ∨ ((k = 119 ∨ k = 114) ∧ (0 ≤ a ∧ a < n) ∧ pw_us p b)
def pw_ok (P : xS) (p x : Int) : Prop := (0 ≤ P 56 x ∧ P 56 x < 12) ∧ (0 ≤ P 57 x ∧ P 57 x < 12) ∧ pw_fit (P 54 2) p (P 58 x) (P 59 x) (P 60 x)
def pw_WF (P : xS) : Prop := (0 ≤ P 54 1 ∧ P 54 1 ≤ 3) ∧ (0 ≤ P 54 2 ∧ P 54 2 ≤ 2) ∧ (0 ≤ P 54 3 ∧ P 54 3 ≤ 4) ∧ (∀ p : Int, 0 ≤ p → p < 3 → 0 ≤ P 55 p ∧ P 55 p ≤ 14) ∧ (∀ p s : Int, 0 ≤ p → p < 3 → 0 ≤ s → s < P 55 p → pw_ok P p (14 * p + s)) ∧ (∀ k : Int, 0 ≤ k → k < 2 → 0 ≤ P 61 k ∧ P 61 k ≤ 2) ∧ (∀ v : Int, 0 ≤ v → v < 9 → 0 ≤ P 62 v ∧ P 62 v < 4) ∧ (∀ k : Int, 0 ≤ k → k < P 54 3 → (0 ≤ P 63 k ∧ P 63 k < 9) ∧ 0 ≤ P 64 k ∧ P 64 k < 4) ∧ (∀ x : Int, 0 ≤ x → x < 36 → (P 65 x = 0 ∨ P 65 x = 1) ∧ (P 66 x = 0 ∨ P 66 x = 1))
def pw_cs (P S : xS) (x : Int) : Prop := S 11 x = P 56 x ∧ S 12 x = P 57 x ∧ S 13 x = P 58 x ∧ (P 58 x ≠ 107 → S 14 x = P 59 x ∧ S 15 x = P 60 x) ∧ (P 58 x = 107 → S 14 x = 0 ∧ S 15 x = 0)
/-- the class holds the program P -/
def pw_C (P S : xS) : Prop := S 1 0 = P 54 1 ∧ S 1 7 = P 54 2 ∧ S 1 11 = P 54 3 ∧ (∀ p : Int, 0 ≤ p → p < 3 → S 10 p = P 55 p) ∧ (∀ p s : Int, 0 ≤ p → p < 3 → 0 ≤ s → s < P 55 p → pw_cs P S (14 * p + s)) ∧ (∀ k : Int, 0 ≤ k → k < 2 → S 16 k = P 61 k) ∧ (∀ v : Int, 0 ≤ v → v < 9 → S 17 v = P 62 v) ∧ (∀ x : Int, 0 ≤ x → x < 36 → S 18 x = P 65 x + 2 * P 66 x) ∧ (∀ k : Int, 0 ≤ k → k < P 54 3 → S 19 k = P 63 k ∧ S 20 k = P 64 k)
/-- the reference holds the program P -/
def pw_R (P S : xS) : Prop := S 54 1 = P 54 1 ∧ S 54 2 = P 54 2 ∧ S 54 3 = P 54 3 ∧ S 55 = P 55 ∧ S 56 = P 56 ∧ S 57 = P 57 ∧ S 58 = P 58 ∧ S 59 = P 59 ∧ S 60 = P 60 ∧ S 61 = P 61 ∧ S 62 = P 62 ∧ S 63 = P 63 ∧ S 64 = P 64 ∧ S 65 = P 65 ∧ S 66 = P 66
theorem pw_R.rf {P : xS} : pw_R P P := ⟨rfl, rfl, rfl, rfl, rfl, rfl, rfl, rfl, rfl, rfl, rfl, rfl, rfl, rfl, rfl⟩
def kpC (L : List (Nat × Int)) : Bool := L.all (fun e => !(e.1 == 1) && !(decide (10 ≤ e.1) && decide (e.1 ≤ 20)))
def kpR (L : List (Nat × Int)) : Bool := L.all (fun e => !(decide (55 ≤ e.1) && decide (e.1 ≤ 66)) && !(e.1 == 54 && (e.2 == -9 || e.2 == 1 || e.2 == 2 || e.2 == 3)))
theorem kpC_hit {L : List (Nat × Int)} (h : kpC L = true) {q : Nat} (hq : q = 1 ∨ (10 ≤ q ∧ q ≤ 20)) (i : Int) : hit L q i = false := by
  rw [← Bool.not_eq_true]
  intro hc
  unfold hit at hc
  obtain ⟨e, he, h1⟩ := List.any_eq_true.mp hc
  have h2 := List.all_eq_true.mp h e he
  simp only [Bool.and_eq_true, Bool.not_eq_true', Bool.and_eq_false_iff, beq_iff_eq, beq_eq_false_iff_ne, decide_eq_false_iff_not, ne_eq] at h1 h2
  have e1 := h1.1
  omega
theorem kpR_hit {L : List (Nat × Int)} (h : kpR L = true) {q : Nat} {i : Int} (hq : (55 ≤ q ∧ q ≤ 66) ∨ (q = 54 ∧ (i = 1 ∨ i = 2 ∨ i = 3))) : hit L q i = false := by
  rw [← Bool.not_eq_true]
  intro hc
  unfold hit at hc
  obtain ⟨e, he, h1⟩ := List.any_eq_true.mp hc
  have h2 := List.all_eq_true.mp h e he
  simp only [Bool.and_eq_true, Bool.or_eq_true, Bool.not_eq_true', Bool.and_eq_false_iff, Bool.or_eq_false_iff, beq_iff_eq, beq_eq_false_iff_ne, decide_eq_false_iff_not, ne_eq] at h1 h2
  have e1 := h1.1
  have e2 := h1.2
  omega
theorem pw_C.kp {P S S' : xS} {L : List (Nat × Int)} (h : pw_C P S) (hk : kp L S S') (hL : kpC L = true) : pw_C P S' := by
  have e : ∀ q : Nat, (q = 1 ∨ (10 ≤ q ∧ q ≤ 20)) → S' q = S q := fun q hq => hk.cell q (kpC_hit hL hq)
  unfold pw_C pw_cs at *
  rw [e 1 (by omega), e 10 (by omega), e 11 (by omega), e 12 (by omega), e 13 (by omega), e 14 (by omega), e 15 (by omega), e 16 (by omega), e 17 (by omega), e 18 (by omega), e 19 (by omega), e 20 (by omega)]
  exact h
theorem pw_R.kp {P S S' : xS} {L : List (Nat × Int)} (h : pw_R P S) (hk : kp L S S') (hL : kpR L = true) : pw_R P S' := by
  have e : ∀ q : Nat, (55 ≤ q ∧ q ≤ 66) → S' q = S q := fun q hq => hk.cell q (fun i => kpR_hit hL (Or.inl hq))
  have e' : ∀ i : Int, (i = 1 ∨ i = 2 ∨ i = 3) → S' 54 i = S 54 i := fun i hi => hk 54 i (kpR_hit hL (Or.inr ⟨rfl, hi⟩))
  unfold pw_R at *
  rw [e' 1 (by omega), e' 2 (by omega), e' 3 (by omega), e 55 (by omega), e 56 (by omega), e 57 (by omega), e 58 (by omega), e 59 (by omega), e 60 (by omega), e 61 (by omega), e 62 (by omega), e 63 (by omega), e 64 (by omega), e 65 (by omega), e 66 (by omega)]
  exact h
theorem pw_WF.R {P S : xS} (h : pw_WF P) (hR : pw_R P S) : pw_WF S := by
  obtain ⟨e1, e2, e3, e4, e5, e6, e7, e8, e9, e10, e11, e12, e13, e14, e15⟩ := hR
  unfold pw_WF pw_ok at *
  rw [e1, e2, e3, e4, e5, e6, e7, e8, e9, e10, e11, e12, e13, e14, e15]
  exact h
theorem pw_C.R {P S T : xS} (h : pw_C P S) (hR : pw_R P T) : pw_C T S := by
  obtain ⟨e1, e2, e3, e4, e5, e6, e7, e8, e9, e10, e11, e12, e13, e14, e15⟩ := hR
  unfold pw_C pw_cs at *
  rw [e1, e2, e3, e4, e5, e6, e7, e8, e9, e10, e11, e12, e13, e14, e15]
  exact h
/-! small methods of the reference -/
section PWA
variable {S : xS} {Q : Int → xS → Prop} {a b c p q v : Int}
theorem s9_in (h1 : b ≤ a → a ≤ c → Q 1 S) (h0 : ¬ (b ≤ a ∧ a ≤ c) → Q 0 S) : w_X9_in a b c S Q :=
  ⟨fun z => h0 (by omega), fun z => ⟨fun z' => h0 (by omega), fun z' => h1 (by omega) (by omega)⟩⟩
theorem s9_isProcess (hn : 0 ≤ S 54 1 ∧ S 54 1 ≤ 3) (h1 : 0 ≤ p → p < S 54 1 → Q 1 S) (h0 : ¬ (0 ≤ p ∧ p < S 54 1) → Q 0 S) : w_X9_isProcess p S Q :=
  ⟨⟨by omega, by omega⟩, s9_in (fun z z' => ⟨Or.inr rfl, h1 z (by omega)⟩) (fun z => ⟨Or.inl rfl, h0 (by omega)⟩)⟩
theorem s9_isOf (hp : 0 ≤ p ∧ p < 3) (h1 : pw_us p v → Q 1 S) (h0 : ¬ pw_us p v → Q 0 S) : w_X9_isOf p v S Q := by
  unfold w_X9_isOf
  refine s9_in (fun z z' => ⟨fun _ => h1 (Or.inl (by omega)), fun z => by omega⟩) (fun z => ⟨fun z => by omega, fun _ => ⟨⟨by omega, by omega⟩, fun z' => h1 (Or.inr (Or.inl z')), fun z' => ⟨⟨by omega, by omega⟩, fun z'' => h0 (by unfold pw_us; omega), fun z'' => h1 (Or.inr (Or.inr z''))⟩⟩⟩)
theorem s9_isRight {k : Int} (hc : 0 ≤ S 54 2 ∧ S 54 2 ≤ 2) (hp : 0 ≤ p ∧ p < 3) (h1 : pw_fit (S 54 2) p k a b → Q 1 S) (h0 : ¬ pw_fit (S 54 2) p k a b → Q 0 S) : w_X9_isRight p k a b S Q := by
  have H20 : (k = 119 ∨ k = 114) → w_X9_isRight_J20 p a b Q S := by
    intro hk
    unfold w_X9_isRight_J20
    refine ⟨⟨by omega, by omega⟩, s9_in (fun z z' => ⟨fun z => by omega, fun _ => s9_isOf hp (fun z'' => ⟨fun z => by omega, fun _ => h1 (Or.inr (Or.inr ⟨hk, by omega, z''⟩))⟩) (fun z'' => ⟨fun _ => h0 (fun y => ?_), fun z => by omega⟩)⟩) (fun z => ⟨fun _ => h0 (fun y => ?_), fun z => by omega⟩)⟩
    · rcases y with y | y | y
      · omega
      · omega
      · exact z'' y.2.2
    · rcases y with y | y | y <;> omega
  have H79 : (k = 115 ∨ k = 105 ∨ k = 61 ∨ k = 33 ∨ k = 97) → w_X9_isRight_J79 p a b Q S := by
    intro hk
    unfold w_X9_isRight_J79
    refine s9_isOf hp (fun z => ⟨fun z => by omega, fun _ => s9_in (fun y y' => ⟨fun z => by omega, fun _ => h1 (Or.inr (Or.inl ⟨hk, z, by omega⟩))⟩) (fun y => ⟨fun _ => h0 (fun w => ?_), fun z => by omega⟩)⟩) (fun z => ⟨fun _ => h0 (fun w => ?_), fun z => by omega⟩)
    · rcases w with w | w | w
      · omega
      · omega
      · omega
    · rcases w with w | w | w
      · omega
      · exact z w.2.1
      · omega
  unfold w_X9_isRight xJ0
  refine ⟨fun z => ⟨fun y => H20 (Or.inl y), fun y => ⟨fun x => ⟨fun w => H79 (by omega), fun w => ⟨fun w1 => H79 (by omega), fun w1 => ⟨fun w2 => H79 (by omega), fun w2 => ⟨fun w3 => H79 (by omega), fun w3 => ⟨fun w4 => h0 (fun r => ?_), fun w4 => H79 (by omega)⟩⟩⟩⟩⟩, fun x => H20 (Or.inr x)⟩⟩, fun z => h1 (Or.inl z)⟩
  rcases r with r | r | r <;> omega
theorem s9_swapped (hv : xR v) (h : (p = 0 ∨ p = 1 ∨ p = 2) ∧ (q = 0 ∨ q = 1 ∨ q = 2)) (hv2 : v < 100) (k : Q (if v < 3 then v else v - 3 - 2 * p + 3 + 2 * q) S) : w_X9_swapped v p q S Q := by
  unfold w_X9_swapped
  refine ⟨fun z => ⟨⟨by omega, by omega⟩, ?_⟩, fun z => ?_⟩
  · rw [if_neg (by omega)] at k; exact k
  · rw [if_pos (by omega)] at k; exact k
end PWA
/-! when two processes are alike -/
def pw_sw (p q v : Int) : Int := if v < 3 then v else v - 3 - 2 * p + 3 + 2 * q
def pw_ls (P : xS) (p q s : Int) : Prop := P 56 (14 * p + s) = P 56 (14 * q + s) ∧ P 57 (14 * p + s) = P 57 (14 * q + s) ∧ P 58 (14 * p + s) = P 58 (14 * q + s) ∧ (P 58 (14 * p + s) = 107 ∨ ((P 58 (14 * p + s) = 119 ∨ P 58 (14 * p + s) = 114) ∧ P 59 (14 * p + s) = P 59 (14 * q + s) ∧ pw_sw p q (P 60 (14 * p + s)) = P 60 (14 * q + s)) ∨ (¬ (P 58 (14 * p + s) = 107 ∨ P 58 (14 * p + s) = 119 ∨ P 58 (14 * p + s) = 114) ∧ pw_sw p q (P 59 (14 * p + s)) = P 59 (14 * q + s) ∧ P 60 (14 * p + s) = P 60 (14 * q + s)))
def pw_like (P : xS) (p q : Int) : Prop := P 55 p = P 55 q ∧ (∀ s : Int, 0 ≤ s → s < P 55 p → pw_ls P p q s) ∧ (∀ l : Int, 0 ≤ l → l < 12 → P 65 (12 * p + l) = P 65 (12 * q + l) ∧ P 66 (12 * p + l) = P 66 (12 * q + l)) ∧ P 62 (3 + 2 * p) = P 62 (3 + 2 * q) ∧ P 62 (4 + 2 * p) = P 62 (4 + 2 * q)
theorem pw_ok.b {P : xS} {p x : Int} (hW : pw_WF P) (h : pw_ok P p x) (hp : 0 ≤ p ∧ p < 3) : (P 58 x = 107 ∨ P 58 x = 115 ∨ P 58 x = 105 ∨ P 58 x = 61 ∨ P 58 x = 33 ∨ P 58 x = 97 ∨ P 58 x = 119 ∨ P 58 x = 114) ∧ (P 58 x ≠ 107 → (0 ≤ P 59 x ∧ P 59 x < 9) ∧ 0 ≤ P 60 x ∧ P 60 x < 9) ∧ ((P 58 x = 119 ∨ P 58 x = 114) → 0 ≤ P 59 x ∧ P 59 x < 2 ∧ pw_us p (P 60 x)) ∧ ((P 58 x = 115 ∨ P 58 x = 105 ∨ P 58 x = 61 ∨ P 58 x = 33 ∨ P 58 x = 97) → pw_us p (P 59 x) ∧ 0 ≤ P 60 x ∧ P 60 x < 4) := by
  have h2 := hW.2.1
  unfold pw_ok pw_fit pw_us at h
  unfold pw_us
  rcases h.2.2 with z | z | z
  · exact ⟨by omega, by omega, by omega, by omega⟩
  · exact ⟨by omega, by omega, by omega, fun _ => z.2⟩
  · exact ⟨by omega, by omega, fun _ => ⟨z.2.1.1, by omega, z.2.2⟩, by omega⟩
theorem pw_like.R {P S : xS} (hR : pw_R P S) : pw_like S = pw_like P := by
  obtain ⟨e1, e2, e3, e4, e5, e6, e7, e8, e9, e10, e11, e12, e13, e14, e15⟩ := hR
  funext p q
  unfold pw_like pw_ls
  rw [e4, e5, e6, e7, e8, e9, e11, e14, e15]
section PWB
variable {P S : xS} {Q : Int → xS → Prop} {p q s : Int}
theorem s9_isLikeStep (hW : pw_WF S) (hp : 0 ≤ p ∧ p < 3) (hq : 0 ≤ q ∧ q < 3) (hs : 0 ≤ s ∧ s < S 55 p ∧ s < S 55 q) (h1 : pw_ls S p q s → Q 1 S) (h0 : ¬ pw_ls S p q s → Q 0 S) : w_X9_isLikeStep p q s S Q := by
  have b1 := (hW.2.2.2.2.1 p s hp.1 hp.2 hs.1 hs.2.1).b hW hp
  have b2 := (hW.2.2.2.2.1 q s hq.1 hq.2 hs.1 hs.2.2).b hW hq
  have l1 := hW.2.2.2.1 p hp.1 hp.2
  have l2 := hW.2.2.2.1 q hq.1 hq.2
  have c1 := b1.1
  have c2 := b1.2.1
  clear b1 b2
  unfold pw_ls at h1 h0
  unfold w_X9_isLikeStep xJ1 xJ0 w_X9_isLikeStep_J71 w_X9_isLikeStep_J72 w_X9_isLikeStep_J119
  refine ⟨by omega, by omega, ?_⟩
  repeat' (first | apply And.intro | intro _ | refine s9_swapped (by omega) (by omega) (by omega) ?_)
  all_goals first | omega | (apply h1; unfold pw_sw; omega) | (apply h0; unfold pw_sw; omega)
theorem s9_areLike (hW : pw_WF S) (hp : 0 ≤ p ∧ p < 3) (hq : 0 ≤ q ∧ q < 3) (h1 : pw_like S p q → Q 1 S) (h0 : ¬ pw_like S p q → Q 0 S) : w_X9_areLike p q S Q := by
  have l1 := hW.2.2.2.1 p hp.1 hp.2
  unfold w_X9_areLike xJ0
  refine ⟨hp, hq, fun e => ?_, fun e => h0 (fun z => e z.1)⟩
  refine xL1_up (S 55 p) (fun v S' => S' = S ∧ 0 ≤ v ∧ ∀ s : Int, 0 ≤ s → s < v → pw_ls S p q s) ?_ 0 S (by omega) ⟨rfl, by omega, fun s _ _ => by omega⟩
  rintro v S' ⟨rfl, hv0, hv⟩ hvn k hk
  unfold w_X9_areLike_L19
  refine ⟨fun z => ?_, fun z => s9_isLikeStep hW hp hq ⟨hv0, by omega, by omega⟩ (fun w => ⟨fun _ => ⟨⟨by omega, by omega⟩, hk _ (by omega) ⟨rfl, by omega, fun s h0 h1 => ?_⟩⟩, fun z => by omega⟩) (fun w => ⟨fun z => by omega, fun _ => h0 (fun y => w (y.2.1 v hv0 (by omega)))⟩)⟩
  · unfold w_X9_areLike_J47 xJ0
    refine xL1_up 12 (fun l S'' => S'' = S' ∧ 0 ≤ l ∧ ∀ s : Int, 0 ≤ s → s < l → S' 65 (12 * p + s) = S' 65 (12 * q + s) ∧ S' 66 (12 * p + s) = S' 66 (12 * q + s)) ?_ 0 S' (by omega) ⟨rfl, by omega, fun s _ _ => by omega⟩
    rintro l S'' ⟨rfl, hl0, hl⟩ hln k2 hk2
    unfold w_X9_areLike_L49
    refine ⟨fun y => ?_, fun y => ⟨⟨by omega, by omega⟩, ⟨by omega, by omega⟩, fun e1 => h0 (fun w => e1 (w.2.2.1 l hl0 (by omega)).1), fun e1 => ⟨fun e2 => ⟨⟨by omega, by omega⟩, hk2 _ (by omega) ⟨rfl, by omega, fun s h0 h1 => ?_⟩⟩, fun e2 => h0 (fun w => e2 (w.2.2.1 l hl0 (by omega)).2)⟩⟩⟩
    · unfold w_X9_areLike_J113
      refine ⟨⟨by omega, by omega⟩, ⟨by omega, by omega⟩, fun e1 => h0 (fun w => e1 w.2.2.2.1), fun e1 => ⟨⟨by omega, by omega⟩, ⟨by omega, by omega⟩, fun e2 => h0 (fun w => e2 w.2.2.2.2), fun e2 => h1 ⟨e, fun s hs0 hs1 => hv s hs0 (by omega), fun l' h0' h1' => hl l' h0' (by omega), e1, e2⟩⟩⟩
    · by_cases hh : s = l
      · rw [hh]; exact ⟨e1, e2⟩
      · exact hl s h0 (by omega)
  · by_cases hh : s = v
    · rw [hh]; exact w
    · exact hv s h0 (by omega)
end PWB
/-! small methods of the class -/
section PWC
variable {P S : xS} {Q : Int → xS → Prop} {p q s v a b : Int}
theorem s4_isOwn (hp : 0 ≤ p ∧ p < 3) (h1 : v = 3 + 2 * p ∨ v = 4 + 2 * p → Q 1 S) (h0 : ¬ (v = 3 + 2 * p ∨ v = 4 + 2 * p) → Q 0 S) : w_X4_isOwn p v S Q := by
  unfold w_X4_isOwn
  exact ⟨hp, fun z => h0 (by omega), fun z => ⟨⟨by omega, by omega⟩, fun z' => h0 (by omega), fun z' => h1 (by omega)⟩⟩
theorem s4_isUsable (hp : 0 ≤ p ∧ p < 3) (h1 : pw_us p v → Q 1 S) (h0 : ¬ pw_us p v → Q 0 S) : w_X4_isUsable p v S Q := by
  unfold w_X4_isUsable xJ0 w_X4_isUsable_J9
  unfold pw_us at h1 h0
  exact ⟨fun z => s4_isOwn hp (fun y => ⟨fun z => by omega, fun _ => h1 (by omega)⟩) (fun y => ⟨fun _ => h0 (by omega), fun z => by omega⟩), fun z => ⟨fun z' => h1 (by omega), fun z' => s4_isOwn hp (fun y => ⟨fun z => by omega, fun _ => h1 (by omega)⟩) (fun y => ⟨fun _ => h0 (by omega), fun z => by omega⟩)⟩⟩
theorem s4_isNumber (h1 : 0 ≤ v → v < 4 → Q 1 S) (h0 : ¬ (0 ≤ v ∧ v < 4) → Q 0 S) : w_X4_isNumber v S Q := by
  unfold w_X4_isNumber
  exact ⟨fun z => h0 (by omega), fun z => ⟨fun z' => h0 (by omega), fun z' => h1 (by omega) (by omega)⟩⟩
theorem s4_fits {k : Int} (hp : 0 ≤ p ∧ p < 3) (h1 : pw_fit (S 1 7) p k a b → Q 1 S) (h0 : ¬ pw_fit (S 1 7) p k a b → Q 0 S) : w_X4_fits p k a b S Q := by
  unfold w_X4_fits
  unfold pw_fit at h1 h0
  refine ⟨fun z => s4_isUsable hp (fun y => ⟨fun z => by omega, fun _ => s4_isNumber (fun w w' => ⟨fun z => by omega, fun _ => h1 (Or.inr (Or.inl ⟨by omega, y, w, w'⟩))⟩) (fun w => ⟨fun _ => h0 (by omega), fun z => by omega⟩)⟩) (fun y => ⟨fun _ => h0 (fun w => ?_), fun z => by omega⟩), fun z => h1 (Or.inl z), fun z => ⟨fun y => h0 (by omega), fun y => ⟨fun w => h0 (by omega), fun w => s4_isUsable hp (fun y => ⟨fun z => by omega, fun _ => h1 (Or.inr (Or.inr ⟨by omega, by omega, y⟩))⟩) (fun y => ⟨fun _ => h0 (fun w => ?_), fun z => by omega⟩)⟩⟩, fun z1 z2 z3 => h0 (by omega)⟩
  · rcases w with w | w | w
    · omega
    · exact y w.2.1
    · omega
  · rcases w with w | w | w
    · omega
    · omega
    · exact y w.2.2
theorem s4_isChannelStep {x : Int} (hx : 0 ≤ x ∧ x < 42) (h1 : S 13 x = 119 ∨ S 13 x = 114 → Q 1 S) (h0 : ¬ (S 13 x = 119 ∨ S 13 x = 114) → Q 0 S) : w_X4_isChannelStep x S Q := by
  unfold w_X4_isChannelStep
  exact ⟨hx, fun z => h1 (Or.inl z), fun z => ⟨fun y => h0 (by omega), fun y => h1 (Or.inr y)⟩⟩
theorem s4_takenFor (hp : 0 ≤ p ∧ p < 3) (hq : 0 ≤ q ∧ q < 3) (hv : pw_us p v) (k : Q (pw_sw p q v) S) : w_X4_takenFor p q v S Q := by
  unfold w_X4_takenFor
  unfold pw_us at hv
  unfold pw_sw at k
  refine s4_isOwn hp (fun y => ⟨fun z => by omega, fun _ => ⟨⟨by omega, by omega⟩, ?_⟩⟩) (fun y => ⟨fun _ => ?_, fun z => by omega⟩)
  · rw [if_neg (by omega)] at k
    rw [show v + 2 * (q - p) = v - 3 - 2 * p + 3 + 2 * q by omega]
    exact k
  · rw [if_pos (by omega)] at k
    exact k
theorem s4_takenFor0 (hp : 0 ≤ p ∧ p < 3) (k : Q 0 S) : w_X4_takenFor p q 0 S Q := by
  unfold w_X4_takenFor
  exact s4_isOwn hp (fun y => by omega) (fun y => ⟨fun _ => k, fun z => by omega⟩)
theorem s4_isSameStep (hW : pw_WF P) (hC : pw_C P S) (hp : 0 ≤ p ∧ p < 3) (hq : 0 ≤ q ∧ q < 3) (hs : 0 ≤ s ∧ s < P 55 p ∧ s < P 55 q) (h1 : pw_ls P p q s → Q 1 S) (h0 : ¬ pw_ls P p q s → Q 0 S) : w_X4_isSameStep p q s S Q := by
  have b1 := (hW.2.2.2.2.1 p s hp.1 hp.2 hs.1 hs.2.1).b hW hp
  have b2 := (hW.2.2.2.2.1 q s hq.1 hq.2 hs.1 hs.2.2).b hW hq
  have l1 := hW.2.2.2.1 p hp.1 hp.2
  have l2 := hW.2.2.2.1 q hq.1 hq.2
  obtain ⟨g1, g2, g3, g4, g5⟩ := hC.2.2.2.2.1 p s hp.1 hp.2 hs.1 hs.2.1
  obtain ⟨i1, i2, i3, i4, i5⟩ := hC.2.2.2.2.1 q s hq.1 hq.2 hs.1 hs.2.2
  unfold w_X4_isSameStep w_X4_stepAt
  rw [show p * 14 + s = 14 * p + s by omega, show q * 14 + s = 14 * q + s by omega]
  refine ⟨⟨by omega, by omega⟩, ⟨by omega, by omega⟩, ⟨by omega, by omega⟩, ⟨by omega, by omega⟩, ?_⟩
  rw [g1, g2, g3, i1, i2, i3]
  refine ⟨fun e => h0 (fun w => e w.1), fun e1 => ⟨fun e => h0 (fun w => e w.2.1), fun e2 => ⟨fun e3 => ?_, fun e => h0 (fun w => e w.2.2.1)⟩⟩⟩
  refine s4_isChannelStep ⟨by omega, by omega⟩ (fun z => ⟨fun z => by omega, fun _ => ?_⟩) (fun z => ⟨fun _ => ?_, fun z => by omega⟩)
  · rw [g3] at z
    obtain ⟨g6, g7⟩ := g4 (by omega)
    obtain ⟨i6, i7⟩ := i4 (by omega)
    have u := b1.2.2.1 z
    rw [g6, g7, i6]
    unfold pw_ls at h1 h0
    refine ⟨fun e => h0 (by omega), fun e4 => s4_takenFor hp hq u.2.2 ⟨fun e => h0 (by omega), fun e5 => h1 ⟨e1, e2, e3, Or.inr (Or.inl ⟨z, e4, e5.trans i7⟩)⟩⟩⟩
  · rw [g3] at z
    by_cases hk : P 58 (14 * p + s) = 107
    · obtain ⟨g6, g7⟩ := g5 hk
      obtain ⟨i6, i7⟩ := i5 (by omega)
      rw [g6]
      exact s4_takenFor0 hp ⟨fun e => absurd i6.symm e, fun _ => ⟨fun e => absurd (g7.trans i7.symm) e, fun _ => h1 ⟨e1, e2, e3, Or.inl hk⟩⟩⟩
    · obtain ⟨g6, g7⟩ := g4 hk
      obtain ⟨i6, i7⟩ := i4 (by omega)
      have u := b1.2.2.2 (by omega)
      rw [g6]
      unfold pw_ls at h1 h0
      refine s4_takenFor hp hq u.1 ⟨fun e => h0 (by omega), fun e4 => ⟨fun e => h0 (by omega), fun e5 => h1 ⟨e1, e2, e3, Or.inr (Or.inr ⟨by omega, e4.trans i6, by omega⟩)⟩⟩⟩
theorem s4_hasAlike (hW : pw_WF P) (hC : pw_C P S) (hp : 0 ≤ p ∧ p < 3) (hq : 0 ≤ q ∧ q < 3) (h1 : pw_like P p q → Q 1 S) (h0 : ¬ pw_like P p q → Q 0 S) : w_X4_hasAlike p q S Q := by
  have l1 := hW.2.2.2.1 p hp.1 hp.2
  have c1 := hC.2.2.2.1 p hp.1 hp.2
  have c2 := hC.2.2.2.1 q hq.1 hq.2
  unfold w_X4_hasAlike xJ0
  refine ⟨hp, hq, fun e => ?_, fun e => h0 (fun z => e (by rw [c1, c2]; exact z.1))⟩
  rw [c1, c2] at e
  refine xL1_up (P 55 p) (fun v S' => S' = S ∧ 0 ≤ v ∧ ∀ s : Int, 0 ≤ s → s < v → pw_ls P p q s) ?_ 0 S (by omega) ⟨rfl, by omega, fun s _ _ => by omega⟩
  rintro v S' ⟨rfl, hv0, hv⟩ hvn k hk
  unfold w_X4_hasAlike_L19
  rw [c1]
  refine ⟨fun z => ?_, fun z => s4_isSameStep hW hC hp hq ⟨hv0, by omega, by omega⟩ (fun w => ⟨fun _ => ⟨⟨by omega, by omega⟩, hk _ (by omega) ⟨rfl, by omega, fun s h0 h1 => ?_⟩⟩, fun z => by omega⟩) (fun w => ⟨fun z => by omega, fun _ => h0 (fun y => w (y.2.1 v hv0 (by omega)))⟩)⟩
  · unfold w_X4_hasAlike_J47 xJ0
    refine xL1_up 12 (fun l S'' => S'' = S' ∧ 0 ≤ l ∧ ∀ s : Int, 0 ≤ s → s < l → P 65 (12 * p + s) = P 65 (12 * q + s) ∧ P 66 (12 * p + s) = P 66 (12 * q + s)) ?_ 0 S' (by omega) ⟨rfl, by omega, fun s _ _ => by omega⟩
    rintro l S'' ⟨rfl, hl0, hl⟩ hln k2 hk2
    unfold w_X4_hasAlike_L49
    have m1 := hC.2.2.2.2.2.2.2.1 (12 * p + l)
    have m2 := hC.2.2.2.2.2.2.2.1 (12 * q + l)
    have n1 := hW.2.2.2.2.2.2.2.2 (12 * p + l)
    have n2 := hW.2.2.2.2.2.2.2.2 (12 * q + l)
    rw [show p * 12 + l = 12 * p + l by omega, show q * 12 + l = 12 * q + l by omega]
    refine ⟨fun y => ?_, fun y => ⟨⟨by omega, by omega⟩, ⟨by omega, by omega⟩, fun e1 => ⟨⟨by omega, by omega⟩, hk2 _ (by omega) ⟨rfl, by omega, fun s h0 h1 => ?_⟩⟩, fun e1 => h0 (fun w => ?_)⟩⟩
    · unfold w_X4_hasAlike_J88
      have t1 := hC.2.2.2.2.2.2.1 (3 + 2 * p)
      have t2 := hC.2.2.2.2.2.2.1 (3 + 2 * q)
      have t3 := hC.2.2.2.2.2.2.1 (3 + 2 * p + 1)
      have t4 := hC.2.2.2.2.2.2.1 (3 + 2 * q + 1)
      rw [show 3 + 2 * p + 1 = 4 + 2 * p by omega] at t3
      rw [show 3 + 2 * q + 1 = 4 + 2 * q by omega] at t4
      refine ⟨3, ?_⟩
      simp only [xLn1, w_X4_hasAlike_L90]
      refine ⟨fun z => by omega, fun _ => ⟨⟨by omega, by omega⟩, ⟨by omega, by omega⟩, fun e1 => ⟨⟨by omega, by omega⟩, fun z => by omega, fun _ => ⟨⟨by omega, by omega⟩, ⟨by omega, by omega⟩, fun e2 => ⟨⟨by omega, by omega⟩, fun z => ?_, fun z => by omega⟩, fun e2 => h0 (fun w => e2 ?_)⟩⟩, fun e1 => h0 (fun w => e1 ?_)⟩⟩
      · refine h1 ⟨e, fun s hs0 hs1 => hv s hs0 (by omega), fun l' h0' h1' => hl l' h0' (by omega), ?_, ?_⟩
        · rw [← t1 (by omega) (by omega), ← t2 (by omega) (by omega)]
          rw [show 3 + 2 * p + 0 = 3 + 2 * p by omega, show 3 + 2 * q + 0 = 3 + 2 * q by omega] at e1
          exact e1
        · rw [← t3 (by omega) (by omega), ← t4 (by omega) (by omega)]
          rw [show 3 + 2 * p + (0 + 1) = 4 + 2 * p by omega, show 3 + 2 * q + (0 + 1) = 4 + 2 * q by omega] at e2
          exact e2
      · rw [show 3 + 2 * p + (0 + 1) = 4 + 2 * p by omega, show 3 + 2 * q + (0 + 1) = 4 + 2 * q by omega, t3 (by omega) (by omega), t4 (by omega) (by omega)]
        exact w.2.2.2.2
      · rw [show 3 + 2 * p + 0 = 3 + 2 * p by omega, show 3 + 2 * q + 0 = 3 + 2 * q by omega, t1 (by omega) (by omega), t2 (by omega) (by omega)]
        exact w.2.2.2.1
    · by_cases hh : s = l
      · rw [hh]
        have m1' := m1 (by omega) (by omega)
        have m2' := m2 (by omega) (by omega)
        have n1' := n1 (by omega) (by omega)
        have n2' := n2 (by omega) (by omega)
        omega
      · exact hl s h0 (by omega)
    · apply e1
      have w' := w.2.2.1 l hl0 (by omega)
      rw [m1 (by omega) (by omega), m2 (by omega) (by omega), w'.1, w'.2]
  · by_cases hh : s = v
    · rw [hh]; exact w
    · exact hv s h0 (by omega)
end PWC

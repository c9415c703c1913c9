/-! pure layer: the three bits of processes -/
abbrev bt (x : Int) (p : Nat) : Prop := x / 2 ^ p % 2 = 1
theorem bt_or8 : ∀ a b : Fin 8, (0 ≤ xor32 a.val b.val ∧ xor32 a.val b.val < 8) ∧ ∀ p : Fin 3, (bt (xor32 a.val b.val) p.val ↔ bt a.val p.val ∨ bt b.val p.val) := by decide +kernel
theorem bt_not8 : ∀ (n : Fin 4) (a : Fin 8), (0 ≤ xand (1 * 2 ^ n.val - 1) (xxor a.val (-1)) ∧ xand (1 * 2 ^ n.val - 1) (xxor a.val (-1)) < 8) ∧ ∀ p : Fin 3, (bt (xand (1 * 2 ^ n.val - 1) (xxor a.val (-1))) p.val ↔ p.val < n.val ∧ ¬ bt a.val p.val) := by decide +kernel
theorem bt_all8 : ∀ (n : Fin 4) (a : Fin 8), ((a.val : Int) = 1 * 2 ^ n.val - 1 ↔ ∀ p : Fin 3, (bt a.val p.val ↔ p.val < n.val)) := by decide +kernel
theorem bt_07 : ∀ p : Fin 3, ¬ bt 0 p.val := by decide +kernel
theorem to8 {a : Int} (h : 0 ≤ a ∧ a < 8) : ∃ n : Fin 8, a = (n.val : Int) := ⟨⟨a.toNat, by omega⟩, by show a = (a.toNat : Int); omega⟩
theorem bt_or {a b : Int} (ha : 0 ≤ a ∧ a < 8) (hb : 0 ≤ b ∧ b < 8) : (0 ≤ xor32 a b ∧ xor32 a b < 8) ∧ ∀ p : Nat, p < 3 → (bt (xor32 a b) p ↔ bt a p ∨ bt b p) := by
  obtain ⟨x, rfl⟩ := to8 ha
  obtain ⟨y, rfl⟩ := to8 hb
  have h := bt_or8 x y
  exact ⟨h.1, fun p hp => h.2 ⟨p, hp⟩⟩
theorem bt_not {a : Int} {n : Nat} (hn : n < 4) (ha : 0 ≤ a ∧ a < 8) : (0 ≤ xand (1 * 2 ^ n - 1) (xxor a (-1)) ∧ xand (1 * 2 ^ n - 1) (xxor a (-1)) < 8) ∧ ∀ p : Nat, p < 3 → (bt (xand (1 * 2 ^ n - 1) (xxor a (-1))) p ↔ p < n ∧ ¬ bt a p) := by
  obtain ⟨x, rfl⟩ := to8 ha
  have h := bt_not8 ⟨n, hn⟩ x
  exact ⟨h.1, fun p hp => h.2 ⟨p, hp⟩⟩
theorem bt_all {a : Int} {n : Nat} (hn : n < 4) (ha : 0 ≤ a ∧ a < 8) : a = 1 * 2 ^ n - 1 ↔ ∀ p : Nat, p < 3 → (bt a p ↔ p < n) := by
  obtain ⟨x, rfl⟩ := to8 ha
  have h := bt_all8 ⟨n, hn⟩ x
  rw [show ((x.val : Int) = 1 * 2 ^ n - 1) ↔ _ from h]
  exact ⟨fun k p hp => k ⟨p, hp⟩, fun k p => k p.val p.isLt⟩
theorem bt_0 {p : Nat} (hp : p < 3) : ¬ bt 0 p := bt_07 ⟨p, hp⟩
theorem dz.b (X : xS) (a : Int) : ∀ k : Nat, (0 ≤ dz X a k ∧ dz X a k < 8) ∧ ∀ p : Nat, p < 3 → (bt (dz X a k) p ↔ ∃ e : Int, a ≤ e ∧ e < a + k ∧ bt (X 6 e % 8) p)
  | 0 => ⟨by show (0 : Int) ≤ 0 ∧ (0 : Int) < 8; omega, fun p hp => ⟨fun w => absurd w (bt_0 hp), fun ⟨e, h1, h2, _⟩ => by omega⟩⟩
  | k + 1 => by
    obtain ⟨h1, h2⟩ := dz.b X a k
    rw [dz.succ]
    obtain ⟨o1, o2⟩ := bt_or h1 (show 0 ≤ X 6 (a + k) % 8 ∧ X 6 (a + k) % 8 < 8 by omega)
    refine ⟨o1, fun p hp => ?_⟩
    rw [o2 p hp, h2 p hp]
    constructor
    · rintro (⟨e, e0, e1, e2⟩ | w)
      · exact ⟨e, e0, by omega, e2⟩
      · exact ⟨a + k, by omega, by omega, w⟩
    · rintro ⟨e, e0, e1, e2⟩
      by_cases y : e = a + k
      · rw [y] at e2; exact Or.inr e2
      · exact Or.inl ⟨e, e0, by omega, e2⟩
/-! what a component holds: of the walk's end T -/
/-- an edge within its component -/
def inn (X T : xS) (s e : Int) : Prop := X 5 s ≤ e ∧ e < X 5 (s + 1) ∧ T 6 (X 6 e / 8) = T 6 s
def ste (X : xS) (s : Int) (p : Nat) : Prop := ∃ e : Int, X 5 s ≤ e ∧ e < X 5 (s + 1) ∧ bt (X 6 e % 8) p
def srv (X T : xS) (n c : Int) (p : Nat) : Prop := ∃ s : Int, 0 ≤ s ∧ s < n ∧ T 6 s = c ∧ (¬ ste X s p ∨ ∃ e : Int, inn X T s e ∧ bt (X 6 e % 8) p)
def las (X T : xS) (n c : Int) : Prop := ∃ s : Int, 0 ≤ s ∧ s < n ∧ T 6 s = c ∧ (X 5 s = X 5 (s + 1) ∨ ∃ e : Int, inn X T s e)
def wto (X T : xS) (P : Int) (n c : Int) (p : Nat) : Prop := ∃ s : Int, 0 ≤ s ∧ s < n ∧ T 6 s = c ∧ (p : Int) < P ∧ ¬ ste X s p
def dng (X T : xS) (n c : Int) (p : Nat) : Prop := ∃ s : Int, 0 ≤ s ∧ s < n ∧ T 6 s = c ∧ ∃ e : Int, inn X T s e ∧ bt (X 6 e % 8) p
def hin (X T : xS) (n c : Int) : Prop := ∃ s : Int, 0 ≤ s ∧ s < n ∧ T 6 s = c ∧ ∃ e : Int, inn X T s e
/-- a run can stay: the class's reading -/
def CR (X T : xS) (f : Int) : Prop := ∃ c : Int, 0 ≤ c ∧ c < T 0 0 ∧ las X T (X 0 0) c ∧ (f = 0 ∨ ∀ p : Nat, p < 3 → srv X T (X 0 0) c p)
/-- and the reference's -/
def RR (X T : xS) (m : Int → Bool) (P f : Int) : Prop := (∃ s : Int, 0 ≤ s ∧ s < X 0 0 ∧ m s = true ∧ X 5 s = X 5 (s + 1)) ∨ ∃ c : Int, 0 ≤ c ∧ c < T 0 0 ∧ hin X T (X 0 0) c ∧ (f = 0 ∨ ∀ p : Nat, p < 3 → (wto X T P (X 0 0) c p ∨ dng X T (X 0 0) c p ↔ (p : Int) < P))
theorem CR_RR {X T : xS} {m : Int → Bool} {P f : Int} (hG : gr X) (hI : tI X m T) (hm : ∀ s : Int, 0 ≤ s → s < X 0 0 → (m s = true ↔ T 6 s ≠ -1)) (hd : ∀ e : Int, 0 ≤ e → e < X 0 6 → ∀ p : Nat, p < 3 → bt (X 6 e % 8) p → (p : Int) < P) : CR X T f ↔ RR X T m P f := by
  have hdp : ∀ s e : Int, 0 ≤ s → s < X 0 0 → X 5 s ≤ e → e < X 5 (s + 1) → ∀ p : Nat, p < 3 → bt (X 6 e % 8) p → (p : Int) < P := fun s e s0 s1 e0 e1 p hp hb => hd e (hG.t s0 s1 e0 e1).1.1 (hG.t s0 s1 e0 e1).1.2 p hp hb
  constructor
  · rintro ⟨c, c0, c1, ⟨s, s0, s1, sc, hs⟩, hf⟩
    by_cases hst : ∃ t : Int, 0 ≤ t ∧ t < X 0 0 ∧ T 6 t = c ∧ X 5 t = X 5 (t + 1)
    · obtain ⟨t, t0, t1, tc, te⟩ := hst
      exact Or.inl ⟨t, t0, t1, (hm t t0 t1).mpr (by omega), te⟩
    · right
      have hs' : ∃ e : Int, inn X T s e := by
        rcases hs with w | w
        · exact absurd ⟨s, s0, s1, sc, w⟩ hst
        · exact w
      refine ⟨c, c0, c1, ⟨s, s0, s1, sc, hs'⟩, ?_⟩
      rcases hf with w | w
      · exact Or.inl w
      · right
        intro p hp
        constructor
        · rintro (⟨t, t0, t1, tc, hpP, -⟩ | ⟨t, t0, t1, tc, e, he, hb⟩)
          · exact hpP
          · exact hdp t e t0 t1 he.1 he.2.1 p hp hb
        · intro hpP
          obtain ⟨t, t0, t1, tc, hh⟩ := w p hp
          rcases hh with y | y
          · exact Or.inl ⟨t, t0, t1, tc, hpP, y⟩
          · exact Or.inr ⟨t, t0, t1, tc, y⟩
  · rintro (⟨s, s0, s1, sm, se⟩ | ⟨c, c0, c1, ⟨s, s0, s1, sc, hs⟩, hf⟩)
    · have s6 := (hm s s0 s1).mp sm
      have b := (hI.1.2.1 s s0 s1).2.2.2.1
      refine ⟨T 6 s, by omega, by omega, ⟨s, s0, s1, rfl, Or.inl se⟩, Or.inr (fun p hp => ⟨s, s0, s1, rfl, Or.inl ?_⟩)⟩
      rintro ⟨e, e0, e1, -⟩
      omega
    · refine ⟨c, c0, c1, ⟨s, s0, s1, sc, Or.inr hs⟩, ?_⟩
      rcases hf with w | w
      · exact Or.inl w
      · right
        intro p hp
        by_cases hpP : (p : Int) < P
        · rcases (w p hp).mpr hpP with ⟨t, t0, t1, tc, -, y⟩ | ⟨t, t0, t1, tc, y⟩
          · exact ⟨t, t0, t1, tc, Or.inl y⟩
          · exact ⟨t, t0, t1, tc, Or.inr y⟩
        · refine ⟨s, s0, s1, sc, Or.inl ?_⟩
          rintro ⟨e, e0, e1, eb⟩
          exact hpP (hdp s e s0 s1 e0 e1 p hp eb)

/-! pure layer: the graph of a search that has ended, and the walk that finds components, as such -/
/-- the graph: X 0 0 states, X 5 where edges begin, X 6 edges, X 0 6 how many -/
def gr (X : xS) : Prop := (1 ≤ X 0 0 ∧ X 0 0 < 2000) ∧ X 5 0 = 0 ∧ (∀ s : Int, 0 ≤ s → s < X 0 0 → X 5 s ≤ X 5 (s + 1)) ∧ X 5 (X 0 0) = X 0 6 ∧ X 0 6 ≤ 784000 ∧ (∀ e : Int, 0 ≤ e → e < X 0 6 → 0 ≤ X 6 e ∧ X 6 e / 8 < X 0 0)
def gCl (X S : xS) : Prop := S 5 0 = X 0 0 ∧ S 5 3 = X 0 6 ∧ (X 0 6 ≤ S 33 (-1) ∧ S 33 (-1) < 2147483648) ∧ (∀ e : Int, 0 ≤ e → e < X 0 6 → S 33 e = X 6 e) ∧ (∀ s : Int, 0 ≤ s → s ≤ X 0 0 → S 32 s = X 5 s) ∧ (∀ s : Int, 0 ≤ s → s < X 0 0 → S 34 s = dz X (X 5 s) (X 5 (s + 1) - X 5 s).toNat)
def gRf (X S : xS) : Prop := S 54 5 = X 0 0 ∧ (∀ s : Int, 0 ≤ s → s ≤ X 0 0 → S 73 s = X 5 s) ∧ (∀ e : Int, 0 ≤ e → e < X 0 6 → S 74 e = X 6 e)
def gC_h (L : List (Nat × Int)) : Bool := [33, 32, 34].all (fun q => L.all (fun e => !(e.1 == q))) && (!hit L 5 0 && !hit L 5 3)
def gR_h (L : List (Nat × Int)) : Bool := [73, 74].all (fun q => L.all (fun e => !(e.1 == q))) && !hit L 54 5
theorem lq_no {L : List (Nat × Int)} {q : Nat} (h : L.all (fun e => !(e.1 == q)) = true) (i : Int) : hit L q i = false := by
  rw [← Bool.not_eq_true]
  intro hc
  unfold hit at hc
  obtain ⟨e, he, h1⟩ := List.any_eq_true.mp hc
  have := List.all_eq_true.mp h e he
  rw [Bool.and_eq_true] at h1
  rw [h1.1] at this
  cases this
section PWGR
variable {X S S' : xS} {L : List (Nat × Int)}
theorem gCl.kp (h : gCl X S) (hk : kp L S S') (hL : gC_h L = true) : gCl X S' := by
  obtain ⟨h1, h2, h3, h4, h5, h6⟩ := h
  unfold gC_h at hL
  rw [Bool.and_eq_true, Bool.and_eq_true] at hL
  obtain ⟨l1, l2, l3⟩ := hL
  have q := fun q hq => lq_no (List.all_eq_true.mp l1 q hq)
  have q33 := q 33 (by decide)
  have q32 := q 32 (by decide)
  have q34 := q 34 (by decide)
  refine ⟨(hk 5 0 (by simpa using l2)).trans h1, (hk 5 3 (by simpa using l3)).trans h2, ?_, fun e a b => (hk 33 e (q33 e)).trans (h4 e a b), fun s a b => (hk 32 s (q32 s)).trans (h5 s a b), fun s a b => (hk 34 s (q34 s)).trans (h6 s a b)⟩
  rw [hk 33 (-1) (q33 (-1))]
  exact h3
theorem gRf.kp (h : gRf X S) (hk : kp L S S') (hL : gR_h L = true) : gRf X S' := by
  obtain ⟨h1, h2, h3⟩ := h
  unfold gR_h at hL
  rw [Bool.and_eq_true] at hL
  obtain ⟨l1, l2⟩ := hL
  have q := fun q hq => lq_no (List.all_eq_true.mp l1 q hq)
  exact ⟨(hk 54 5 (by simpa using l2)).trans h1, fun s a b => (hk 73 s (q 73 (by decide) s)).trans (h2 s a b), fun s a b => (hk 74 s (q 74 (by decide) s)).trans (h3 s a b)⟩
theorem gr.mono (h : gr X) : ∀ n : Nat, ∀ s : Int, 0 ≤ s → s + n ≤ X 0 0 → X 5 s ≤ X 5 (s + n)
  | 0, s, _, _ => by rw [show s + ((0 : Nat) : Int) = s by omega]; omega
  | n + 1, s, h0, h1 => by
    have a := gr.mono h n s h0 (by omega)
    have b := h.2.2.1 (s + n) (by omega) (by omega)
    rw [show s + ((n + 1 : Nat) : Int) = s + n + 1 by omega]
    omega
theorem gr.b (h : gr X) {s : Int} (h0 : 0 ≤ s) (h1 : s ≤ X 0 0) : 0 ≤ X 5 s ∧ X 5 s ≤ X 0 6 := by
  have a := h.mono s.toNat 0 (by omega) (by omega)
  have b := h.mono (X 0 0 - s).toNat s (by omega) (by omega)
  rw [show (0 : Int) + (s.toNat : Int) = s by omega, h.2.1] at a
  rw [show s + ((X 0 0 - s).toNat : Int) = X 0 0 by omega, h.2.2.2.1] at b
  omega
/-- an edge of a state: its place and where it leads -/
theorem gr.t (h : gr X) {s e : Int} (h0 : 0 ≤ s) (h1 : s < X 0 0) (e0 : X 5 s ≤ e) (e1 : e < X 5 (s + 1)) : (0 ≤ e ∧ e < X 0 6) ∧ 0 ≤ X 6 e ∧ 0 ≤ X 6 e / 8 ∧ X 6 e / 8 < X 0 0 := by
  have a := h.b h0 (by omega)
  have b := h.b (s := s + 1) (by omega) (by omega)
  have c := h.2.2.2.2.2 e (by omega) (by omega)
  exact ⟨by omega, by omega, by omega, by omega⟩
end PWGR
/-- the states that count are marked in a cell -/
def mq (q : Nat) (m : Int → Bool) (X S : xS) : Prop := ∀ s : Int, 0 ≤ s → s < X 0 0 → (m s = true → S q s = 1) ∧ (m s = false → S q s = 0)
theorem mq.kp {q : Nat} {m : Int → Bool} {X S S' : xS} {L : List (Nat × Int)} (h : mq q m X S) (hk : kp L S S') (hL : ∀ i, hit L q i = false) : mq q m X S' := fun s a b => by
  rw [hk q s (hL s)]
  exact h s a b
/-! the walk: T 0: 0 components, 1 how many have a number, 2 the path's length, 3 how many are open; T 1 numbers, T 2 lows, T 3 the next edges, T 4 path, T 5 open states, T 6 components -/
def tj_0 (X : xS) : xS := fun q i => if q = 1 then -1 else if q = 6 then -1 else if q = 3 then X 5 i else 0
def tj_en (T : xS) (g : Int) : xS := xup (xup (xup (xup (xup (xup (xup T 1 g (T 0 1)) 2 g (T 0 1)) 0 1 (T 0 1 + 1)) 4 (T 0 2) g) 0 2 (T 0 2 + 1)) 5 (T 0 3) g) 0 3 (T 0 3 + 1)
def tj_p1 (T : xS) (n : Nat) : xS := xup (xup T 6 (T 5 n) (T 0 0)) 0 3 n
def tj_pop (a : Int) : Nat → xS → xS
  | 0, T => T
  | n + 1, T => if T 5 n = a then tj_p1 T n else tj_pop a n (tj_p1 T n)
def tj_cl (T : xS) (a : Int) : xS := xup (tj_pop a (T 0 3).toNat T) 0 0 (T 0 0 + 1)
def tj_l1 (T : xS) (a : Int) : xS := if T 0 2 - 1 ≤ 0 then xup T 0 2 (T 0 2 - 1) else xup (xup T 0 2 (T 0 2 - 1)) 2 (T 4 (T 0 2 - 1 - 1)) (xmin (T 2 (T 4 (T 0 2 - 1 - 1))) (T 2 a))
def tj_lv (T : xS) (a : Int) : xS := if (tj_l1 T a) 2 a = T 1 a then tj_cl (tj_l1 T a) a else tj_l1 T a
def tj_lk (X : xS) (m : Int → Bool) (T : xS) (a g : Int) : xS :=
  if m g = true then (if T 1 g = -1 then tj_en (xup T 3 a (T 3 a + 1)) g else if T 6 g = -1 then xup (xup T 3 a (T 3 a + 1)) 2 a (xmin (T 2 a) (T 1 g)) else xup T 3 a (T 3 a + 1)) else xup T 3 a (T 3 a + 1)
def tj_st (X : xS) (m : Int → Bool) (T : xS) : xS :=
  if T 3 (T 4 (T 0 2 - 1)) < X 5 (T 4 (T 0 2 - 1) + 1) then tj_lk X m T (T 4 (T 0 2 - 1)) (X 6 (T 3 (T 4 (T 0 2 - 1))) / 8) else tj_lv T (T 4 (T 0 2 - 1))
def tj_go (X : xS) (m : Int → Bool) : Nat → xS → xS
  | 0, T => T
  | n + 1, T => if T 0 2 ≤ 0 then T else tj_go X m n (tj_st X m T)
def tj_al (X : xS) (m : Int → Bool) : Nat → xS
  | 0 => tj_0 X
  | s + 1 => if m s = true ∧ (tj_al X m s) 1 s = -1 then tj_go X m (X 0 6 + X 0 0).toNat (tj_en (tj_al X m s) s) else tj_al X m s
def tJ (X : xS) (m : Int → Bool) (T : xS) : Prop :=
  ((0 ≤ T 0 2 ∧ T 0 2 ≤ T 0 1) ∧ 0 ≤ T 0 3 ∧ 0 ≤ T 0 0 ∧ T 0 0 + T 0 3 ≤ T 0 1 ∧ (nz (fun s => T 1 s + 1) (X 0 0).toNat : Int) = T 0 1)
  ∧ (∀ s : Int, 0 ≤ s → s < X 0 0 → (T 1 s = -1 ∨ (0 ≤ T 1 s ∧ T 1 s < T 0 1)) ∧ (X 5 s ≤ T 3 s ∧ T 3 s ≤ X 5 (s + 1)) ∧ (T 1 s = -1 → T 3 s = X 5 s ∧ T 6 s = -1) ∧ (T 6 s = -1 ∨ (0 ≤ T 6 s ∧ T 6 s < T 0 0)) ∧ (T 1 s ≠ -1 → m s = true))
  ∧ (∀ j : Int, 0 ≤ j → j < T 0 3 → (0 ≤ T 5 j ∧ T 5 j < X 0 0) ∧ T 1 (T 5 j) ≠ -1 ∧ T 6 (T 5 j) = -1)
  ∧ (∀ j j' : Int, 0 ≤ j → j < j' → j' < T 0 3 → T 1 (T 5 j) < T 1 (T 5 j'))
  ∧ (∀ s : Int, 0 ≤ s → s < X 0 0 → T 1 s ≠ -1 → T 6 s = -1 → ∃ j : Int, 0 ≤ j ∧ j < T 0 3 ∧ T 5 j = s)
  ∧ (∀ i : Int, 0 ≤ i → i < T 0 2 → ∃ j : Int, 0 ≤ j ∧ j < T 0 3 ∧ T 5 j = T 4 i)
  ∧ (∀ i i' : Int, 0 ≤ i → i < i' → i' < T 0 2 → T 1 (T 4 i) < T 1 (T 4 i'))
  ∧ (∀ j : Int, 0 ≤ j → j < T 0 3 → T 2 (T 5 j) ≤ T 1 (T 5 j) ∧ ∃ j' : Int, 0 ≤ j' ∧ j' < T 0 3 ∧ T 1 (T 5 j') = T 2 (T 5 j))
def tI (X : xS) (m : Int → Bool) (T : xS) : Prop := tJ X m T ∧ (T 0 2 = 0 → T 0 3 = 0) ∧ (0 < T 0 2 → 0 < T 0 3 ∧ T 5 0 = T 4 0)
theorem nz_le (T : Int → Int) : ∀ k : Nat, nz T k ≤ k
  | 0 => Nat.le_refl 0
  | k + 1 => by
    have := nz_le T k
    unfold nz
    split <;> omega
/-- edges that are not looked along yet -/
def tj_rm (X T : xS) : Nat → Int
  | 0 => 0
  | n + 1 => tj_rm X T n + (X 5 (n + 1) - T 3 n)
theorem tj_rm.E {X T T' : xS} : ∀ n : Nat, (∀ s : Int, 0 ≤ s → s < n → T' 3 s = T 3 s) → tj_rm X T' n = tj_rm X T n
  | 0, _ => rfl
  | n + 1, h => by
    show tj_rm X T' n + (X 5 (n + 1) - T' 3 n) = tj_rm X T n + (X 5 (n + 1) - T 3 n)
    rw [tj_rm.E n (fun s a b => h s a (by omega)), h n (by omega) (by omega)]
theorem tj_rm.up {X T T' : xS} {a : Int} (ha : 0 ≤ a) (e : T' 3 a = T 3 a + 1) (h : ∀ s : Int, s ≠ a → T' 3 s = T 3 s) : ∀ n : Nat, a < n → tj_rm X T' n = tj_rm X T n - 1
  | 0, hn => by omega
  | n + 1, hn => by
    show tj_rm X T' n + (X 5 (n + 1) - T' 3 n) = tj_rm X T n + (X 5 (n + 1) - T 3 n) - 1
    by_cases hh : a = n
    · rw [tj_rm.E n (fun s a b => h s (by omega)), ← hh, e]
      omega
    · rw [tj_rm.up ha e h n (by omega), h n (fun z => hh z.symm)]
      omega
theorem tj_rm.nn {X T : xS} : ∀ n : Nat, (∀ s : Int, 0 ≤ s → s < n → T 3 s ≤ X 5 (s + 1)) → 0 ≤ tj_rm X T n
  | 0, _ => Int.le_refl 0
  | n + 1, h => by
    have a := tj_rm.nn (X := X) (T := T) n (fun s x y => h s x (by omega))
    have b := h n (by omega) (by omega)
    show 0 ≤ tj_rm X T n + (X 5 (n + 1) - T 3 n)
    omega
theorem tj_rm.le {X T : xS} : ∀ n : Nat, (∀ s : Int, 0 ≤ s → s < n → X 5 s ≤ T 3 s) → tj_rm X T n ≤ X 5 n - X 5 0
  | 0, _ => by show (0 : Int) ≤ X 5 ((0 : Nat) : Int) - X 5 0; rw [show ((0 : Nat) : Int) = 0 from rfl]; omega
  | n + 1, h => by
    have a := tj_rm.le (X := X) (T := T) n (fun s x y => h s x (by omega))
    have b := h n (by omega) (by omega)
    show tj_rm X T n + (X 5 (n + 1) - T 3 n) ≤ X 5 ((n + 1 : Nat) : Int) - X 5 0
    rw [show ((n + 1 : Nat) : Int) = (n : Int) + 1 by omega]
    omega
def tj_F (X T : xS) : Int := tj_rm X T (X 0 0).toNat + (X 0 0 - T 0 1) + T 0 2
theorem tj_en.rows (T : xS) (g : Int) : (∀ s : Int, (tj_en T g) 1 s = if s = g then T 0 1 else T 1 s) ∧ (∀ s : Int, (tj_en T g) 2 s = if s = g then T 0 1 else T 2 s) ∧ (tj_en T g) 3 = T 3 ∧ (∀ s : Int, (tj_en T g) 4 s = if s = T 0 2 then g else T 4 s) ∧ (∀ s : Int, (tj_en T g) 5 s = if s = T 0 3 then g else T 5 s) ∧ (tj_en T g) 6 = T 6 ∧ (tj_en T g) 0 0 = T 0 0 ∧ (tj_en T g) 0 1 = T 0 1 + 1 ∧ (tj_en T g) 0 2 = T 0 2 + 1 ∧ (tj_en T g) 0 3 = T 0 3 + 1 := by
  refine ⟨fun s => by simp [tj_en, xup_at], fun s => by simp [tj_en, xup_at], rfl, fun s => by simp [tj_en, xup_at], fun s => by simp [tj_en, xup_at], rfl, rfl, rfl, rfl, rfl⟩

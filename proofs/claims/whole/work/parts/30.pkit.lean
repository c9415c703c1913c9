/-! pure layer: loops with a counter, what stays, rows of places -/
theorem xL1_up {b : (Int → xS → Prop) → Int → xS → Prop} (n : Int) (I : Int → xS → Prop) (h : ∀ (v : Int) (S : xS), I v S → v ≤ n → ∀ k : Int → xS → Prop, (∀ S' : xS, v < n → I (v + 1) S' → k (v + 1) S') → b k v S) (x : Int) (S : xS) (hx : x ≤ n) (h0 : I x S) : xL1 b x S := by
  refine xL1_inv (fun v S => v ≤ n ∧ I v S) (fun v _ => (n - v).toNat) ?_ x S ⟨hx, h0⟩
  intro v S hI k hk
  refine h v S hI.2 hI.1 k (fun S' hv hI' => hk (v + 1) S' ⟨by omega, hI'⟩ ?_)
  show (n - (v + 1)).toNat < (n - v).toNat
  omega
theorem xL1_dn {b : (Int → xS → Prop) → Int → xS → Prop} (I : Int → xS → Prop) (h : ∀ (v : Int) (S : xS), I v S → -1 ≤ v → ∀ k : Int → xS → Prop, (∀ S' : xS, 0 ≤ v → I (v + -1) S' → k (v + -1) S') → b k v S) (x : Int) (S : xS) (hx : -1 ≤ x) (h0 : I x S) : xL1 b x S := by
  refine xL1_inv (fun v S => -1 ≤ v ∧ I v S) (fun v _ => (v + 1).toNat) ?_ x S ⟨hx, h0⟩
  intro v S hI k hk
  refine h v S hI.2 hI.1 k (fun S' hv hI' => hk (v + -1) S' ⟨by omega, hI'⟩ ?_)
  show (v + -1 + 1).toNat < (v + 1).toNat
  omega
/-- the second number counts up to n, the first is carried along -/
theorem xL2_up {b : (Int → Int → xS → Prop) → Int → Int → xS → Prop} (n : Int) (I : Int → Int → xS → Prop) (h : ∀ (u v : Int) (S : xS), I u v S → v ≤ n → ∀ k : Int → Int → xS → Prop, (∀ (u' : Int) (S' : xS), v < n → I u' (v + 1) S' → k u' (v + 1) S') → b k u v S) (u x : Int) (S : xS) (hx : x ≤ n) (h0 : I u x S) : xL2 b u x S := by
  refine xL2_inv (fun u v S => v ≤ n ∧ I u v S) (fun _ v _ => (n - v).toNat) ?_ u x S ⟨hx, h0⟩
  intro u v S hI k hk
  refine h u v S hI.2 hI.1 k (fun u' S' hv hI' => hk u' (v + 1) S' ⟨by omega, hI'⟩ ?_)
  show (n - (v + 1)).toNat < (n - v).toNat
  omega
theorem xL2_dn {b : (Int → Int → xS → Prop) → Int → Int → xS → Prop} (I : Int → Int → xS → Prop) (h : ∀ (u v : Int) (S : xS), I u v S → -1 ≤ v → ∀ k : Int → Int → xS → Prop, (∀ (u' : Int) (S' : xS), 0 ≤ v → I u' (v + -1) S' → k u' (v + -1) S') → b k u v S) (u x : Int) (S : xS) (hx : -1 ≤ x) (h0 : I u x S) : xL2 b u x S := by
  refine xL2_inv (fun u v S => -1 ≤ v ∧ I u v S) (fun _ v _ => (v + 1).toNat) ?_ u x S ⟨hx, h0⟩
  intro u v S hI k hk
  refine h u v S hI.2 hI.1 k (fun u' S' hv hI' => hk u' (v + -1) S' ⟨by omega, hI'⟩ ?_)
  show (v + -1 + 1).toNat < (v + 1).toNat
  omega
/-- is a place named by the list: (cell, field), or (cell, -9): all of the cell -/
def hit (L : List (Nat × Int)) (q : Nat) (i : Int) : Bool := L.any (fun e => e.1 == q && (e.2 == -9 || e.2 == i))
/-- all places that L doesn't name stay -/
def kp (L : List (Nat × Int)) (S S' : xS) : Prop := ∀ (q : Nat) (i : Int), hit L q i = false → S' q i = S q i
theorem kp.rf {L : List (Nat × Int)} {S : xS} : kp L S S := fun _ _ _ => rfl
theorem kp.tr {L : List (Nat × Int)} {S S' S'' : xS} (h : kp L S S') (h' : kp L S' S'') : kp L S S'' := fun q i ht => (h' q i ht).trans (h q i ht)
def hsub (L L' : List (Nat × Int)) : Bool := L.all (fun e => L'.contains e || L'.contains (e.1, -9))
theorem hit_sub {L L' : List (Nat × Int)} (h : hsub L L' = true) {q : Nat} {i : Int} (hh : hit L' q i = false) : hit L q i = false := by
  rw [← Bool.not_eq_true] at hh ⊢
  intro hc
  apply hh
  unfold hit at hc ⊢
  rw [List.any_eq_true] at hc ⊢
  obtain ⟨e, he, h1⟩ := hc
  unfold hsub at h
  have h2 := List.all_eq_true.mp h e he
  rw [Bool.or_eq_true, List.contains_iff_mem, List.contains_iff_mem] at h2
  rw [Bool.and_eq_true] at h1
  cases h2 with
  | inl h2 => exact ⟨e, h2, by rw [Bool.and_eq_true]; exact h1⟩
  | inr h2 => exact ⟨(e.1, -9), h2, by rw [Bool.and_eq_true]; exact ⟨h1.1, rfl⟩⟩
theorem kp.mono {L L' : List (Nat × Int)} {S S' : xS} (h : kp L S S') (hL : hsub L L' = true) : kp L' S S' := fun q i ht => h q i (hit_sub hL ht)
theorem kp.up {L : List (Nat × Int)} {S S' : xS} (h : kp L S S') {q : Nat} {i v : Int} (ht : hit L q i = true) : kp L S (xup S' q i v) := fun q' i' ht' => by
  rw [xup_at, if_neg (fun z => by rw [z.1, z.2, ht] at ht'; cases ht')]
  exact h q' i' ht'
theorem kp.fill {L : List (Nat × Int)} {S S' : xS} (h : kp L S S') {q : Nat} {n v : Int} (ht : ∀ i, hit L q i = true) : kp L S (xfill S' q n v) := fun q' i' ht' => by
  unfold xfill
  rw [if_neg (fun z => by rw [z.1, ht] at ht'; cases ht')]
  exact h q' i' ht'
theorem kp.copy {L : List (Nat × Int)} {S S' : xS} (h : kp L S S') {q0 q1 : Nat} {i0 i1 n : Int} (ht : ∀ i, hit L q1 i = true) : kp L S (xcopy S' q0 i0 q1 i1 n) := fun q' i' ht' => by
  unfold xcopy
  rw [if_neg (fun z => by rw [z.1, ht] at ht'; cases ht')]
  exact h q' i' ht'
theorem kp.cell {L : List (Nat × Int)} {S S' : xS} (h : kp L S S') (q : Nat) (hq : ∀ i, hit L q i = false) : S' q = S q := by
  funext i; exact h q i (hq i)
theorem xfill_at (S : xS) (q : Nat) (n v : Int) (q' : Nat) (i : Int) : xfill S q n v q' i = if q' = q ∧ 0 ≤ i ∧ i < n then v else S q' i := rfl
theorem xcopy_at (S : xS) (q0 : Nat) (i0 : Int) (q1 : Nat) (i1 n : Int) (q : Nat) (i : Int) : xcopy S q0 i0 q1 i1 n q i = if q = q1 ∧ i1 ≤ i ∧ i < i1 + n then S q0 (i - i1 + i0) else S q i := rfl

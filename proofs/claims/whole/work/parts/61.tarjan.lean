/-! pure layer: what holds of the walk at any time -/
section PWTJ
variable {X T U : xS} {m : Int → Bool} {g a : Int}
/-- a state on the path is open and has a number -/
theorem tJ.pa (h : tJ X m T) {i : Int} (h0 : 0 ≤ i) (h1 : i < T 0 2) : (0 ≤ T 4 i ∧ T 4 i < X 0 0) ∧ (0 ≤ T 1 (T 4 i) ∧ T 1 (T 4 i) < T 0 1) ∧ T 6 (T 4 i) = -1 := by
  obtain ⟨h1', h2, h3, h4, h5, h6, h7, h8⟩ := h
  obtain ⟨j, j0, j1, e⟩ := h6 i h0 h1
  have o := h3 j j0 j1
  rw [e] at o
  have b := h2 _ o.1.1 o.1.2
  exact ⟨o.1, by have := b.1; omega, o.2.2⟩
theorem tJ.oa (h : tJ X m T) {j : Int} (h0 : 0 ≤ j) (h1 : j < T 0 3) : (0 ≤ T 5 j ∧ T 5 j < X 0 0) ∧ (0 ≤ T 1 (T 5 j) ∧ T 1 (T 5 j) < T 0 1) ∧ T 6 (T 5 j) = -1 := by
  obtain ⟨h1', h2, h3, h4, h5, h6, h7, h8⟩ := h
  have o := h3 j h0 h1
  have b := h2 _ o.1.1 o.1.2
  exact ⟨o.1, by have := b.1; omega, o.2.2⟩
theorem tJ.inj (h : tJ X m T) {j j' : Int} (h0 : 0 ≤ j) (h1 : j < T 0 3) (h0' : 0 ≤ j') (h1' : j' < T 0 3) (e : T 1 (T 5 j) ≤ T 1 (T 5 j')) : j ≤ j' := by
  by_cases hlt : j' < j
  · have := h.2.2.2.1 j' j h0' hlt h1
    omega
  · omega
theorem tI.en (h : tI X m T) (hg : 0 ≤ g ∧ g < X 0 0) (hn : T 1 g = -1) (hm : m g = true) : tI X m (tj_en T g) := by
  obtain ⟨hJ, z0, z1⟩ := h
  have oa := fun j h0 h1 => hJ.oa (j := j) h0 h1
  have pa := fun i h0 h1 => hJ.pa (i := i) h0 h1
  obtain ⟨⟨a1, a2, a3, a4, a5⟩, b, c, d, e, f, p, l⟩ := hJ
  obtain ⟨e1, e2, e3, e4, e5, e6, e00, e01, e02, e03⟩ := tj_en.rows T g
  generalize tj_en T g = U at *
  have og : ∀ j : Int, 0 ≤ j → j < T 0 3 → T 5 j ≠ g := fun j j0 j1 w => (c j j0 j1).2.1 (by rw [w]; exact hn)
  have pg : ∀ i : Int, 0 ≤ i → i < T 0 2 → T 4 i ≠ g := fun i i0 i1 w => by
    have := (pa i i0 i1).2.1
    rw [w, hn] at this
    omega
  have u5 : ∀ j : Int, 0 ≤ j → j < T 0 3 → U 5 j = T 5 j ∧ U 1 (T 5 j) = T 1 (T 5 j) ∧ U 2 (T 5 j) = T 2 (T 5 j) := fun j j0 j1 => by
    rw [e5, e1, e2, if_neg (by omega), if_neg (og j j0 j1), if_neg (og j j0 j1)]
    exact ⟨rfl, rfl, rfl⟩
  have v5 : U 5 (T 0 3) = g ∧ U 1 g = T 0 1 ∧ U 2 g = T 0 1 := by
    rw [e5, e1, e2, if_pos rfl, if_pos rfl, if_pos rfl]
    exact ⟨rfl, rfl, rfl⟩
  have u4 : ∀ i : Int, 0 ≤ i → i < T 0 2 → U 4 i = T 4 i ∧ U 1 (T 4 i) = T 1 (T 4 i) := fun i i0 i1 => by
    rw [e4, e1, if_neg (by omega), if_neg (pg i i0 i1)]
    exact ⟨rfl, rfl⟩
  have v4 : U 4 (T 0 2) = g := by rw [e4, if_pos rfl]
  refine ⟨⟨⟨?_, ?_, ?_, ?_, ?_⟩, ?_, ?_, ?_, ?_, ?_, ?_, ?_⟩, ?_, ?_⟩
  · omega
  · omega
  · omega
  · omega
  · rw [e01, ← a5]
    have := nz_up (T := fun s => T 1 s + 1) (T' := fun s => U 1 s + 1) (j := g.toNat) (by show T 1 (g.toNat : Int) + 1 = 0; rw [show (g.toNat : Int) = g by omega]; omega) (by show U 1 (g.toNat : Int) + 1 ≠ 0; rw [show (g.toNat : Int) = g by omega, v5.2.1]; omega) (fun i hi => by show U 1 (i : Int) + 1 = T 1 i + 1; rw [e1, if_neg (by omega)]) (X 0 0).toNat (by omega)
    omega
  · intro s s0 s1
    have bs := b s s0 s1
    rw [e1, e3, e6, e01, e00]
    by_cases hs : s = g
    · rw [if_pos hs, hs]
      rw [hs] at bs
      exact ⟨Or.inr (by omega), bs.2.1, fun w => by omega, bs.2.2.2.1, fun _ => hm⟩
    · rw [if_neg hs]
      exact ⟨by omega, bs.2.1, bs.2.2.1, bs.2.2.2.1, bs.2.2.2.2⟩
  · intro j j0 j1
    by_cases hj : j < T 0 3
    · rw [(u5 j j0 hj).1, (u5 j j0 hj).2.1, e6]
      exact c j j0 hj
    · rw [show j = T 0 3 by omega, v5.1, v5.2.1, e6]
      exact ⟨hg, by omega, ((b g hg.1 hg.2).2.2.1 hn).2⟩
  · intro j j' j0 jj j1
    rw [(u5 j j0 (by omega)).1, (u5 j j0 (by omega)).2.1]
    by_cases hj : j' < T 0 3
    · rw [(u5 j' (by omega) hj).1, (u5 j' (by omega) hj).2.1]
      exact d j j' j0 jj hj
    · rw [show j' = T 0 3 by omega, v5.1, v5.2.1]
      have := (oa j j0 (by omega)).2.1
      omega
  · intro s s0 s1 h1 h6
    by_cases hs : s = g
    · exact ⟨T 0 3, a2, by omega, by rw [v5.1, hs]⟩
    · rw [e1, if_neg hs] at h1
      rw [e6] at h6
      obtain ⟨j, j0, j1, ej⟩ := e s s0 s1 h1 h6
      exact ⟨j, j0, by omega, by rw [(u5 j j0 j1).1, ej]⟩
  · intro i i0 i1
    by_cases hi : i < T 0 2
    · obtain ⟨j, j0, j1, ej⟩ := f i i0 hi
      exact ⟨j, j0, by omega, by rw [(u5 j j0 j1).1, (u4 i i0 hi).1, ej]⟩
    · exact ⟨T 0 3, a2, by omega, by rw [v5.1, show i = T 0 2 by omega, v4]⟩
  · intro i i' i0 ii i1
    rw [(u4 i i0 (by omega)).1, (u4 i i0 (by omega)).2]
    by_cases hi : i' < T 0 2
    · rw [(u4 i' (by omega) hi).1, (u4 i' (by omega) hi).2]
      exact p i i' i0 ii hi
    · rw [show i' = T 0 2 by omega, v4, v5.2.1]
      have := (pa i i0 (by omega)).2.1
      omega
  · intro j j0 j1
    by_cases hj : j < T 0 3
    · rw [(u5 j j0 hj).1, (u5 j j0 hj).2.1, (u5 j j0 hj).2.2]
      obtain ⟨l1, j', j0', j1', l2⟩ := l j j0 hj
      exact ⟨l1, j', j0', by omega, by rw [(u5 j' j0' j1').1, (u5 j' j0' j1').2.1, l2]⟩
    · rw [show j = T 0 3 by omega, v5.1, v5.2.1, v5.2.2]
      exact ⟨by omega, T 0 3, a2, by omega, by rw [v5.1, v5.2.1]⟩
  · intro w; omega
  · intro _
    refine ⟨by omega, ?_⟩
    by_cases hp : T 0 2 = 0
    · have h3 := z0 hp
      have v5' := v5.1
      have v4' := v4
      rw [h3] at v5'
      rw [hp] at v4'
      rw [v5', v4']
    · have := z1 (by omega)
      rw [(u5 0 (by omega) this.1).1, (u4 0 (by omega) (by omega)).1]
      exact this.2
/-- the next edge of a state that is open -/
theorem tI.cur (h : tI X m T) (ha : 0 ≤ a ∧ a < X 0 0) (hn : T 1 a ≠ -1) (hc : T 3 a < X 5 (a + 1)) : tI X m (xup T 3 a (T 3 a + 1)) := by
  obtain ⟨⟨h1, h2, h3, h4, h5, h6, h7, h8⟩, z⟩ := h
  refine ⟨⟨h1, fun s s0 s1 => ?_, h3, h4, h5, h6, h7, h8⟩, z⟩
  have b := h2 s s0 s1
  refine ⟨b.1, ?_, fun w => ?_, b.2.2.2.1, b.2.2.2.2⟩
  · rw [xup_at]
    by_cases hs : s = a
    · rw [if_pos ⟨rfl, hs⟩, hs]
      rw [hs] at b
      omega
    · rw [if_neg (fun y => hs y.2)]
      exact b.2.1
  · have hs : s ≠ a := fun y => hn (by rw [← y]; exact w)
    rw [xup_at, if_neg (fun y => hs y.2)]
    exact b.2.2.1 w
theorem xmin_le (a b : Int) : xmin a b ≤ a ∧ xmin a b ≤ b := by unfold xmin; split <;> omega
theorem xmin_or (a b : Int) : xmin a b = a ∨ xmin a b = b := by unfold xmin; split <;> omega
/-- a low that sinks to another low, or number, of open states -/
theorem tJ.low (h : tJ X m T) {b v : Int} (hv : ∃ j : Int, 0 ≤ j ∧ j < T 0 3 ∧ T 1 (T 5 j) = v) : tJ X m (xup T 2 b (xmin (T 2 b) v)) := by
  obtain ⟨h1, h2, h3, h4, h5, h6, h7, h8⟩ := h
  refine ⟨h1, h2, h3, h4, h5, h6, h7, fun j j0 j1 => ?_⟩
  have l := h8 j j0 j1
  show (xup T 2 b (xmin (T 2 b) v)) 2 (T 5 j) ≤ T 1 (T 5 j) ∧ ∃ j' : Int, 0 ≤ j' ∧ j' < T 0 3 ∧ T 1 (T 5 j') = (xup T 2 b (xmin (T 2 b) v)) 2 (T 5 j)
  rw [xup_at]
  by_cases hb : T 5 j = b
  · rw [if_pos ⟨rfl, hb⟩, ← hb]
    have mn := xmin_le (T 2 (T 5 j)) v
    refine ⟨by omega, ?_⟩
    rcases xmin_or (T 2 (T 5 j)) v with w | w
    · rw [w]; exact l.2
    · rw [w]; exact hv
  · rw [if_neg (fun y => hb y.2)]
    exact l
theorem tI.lk (h : tI X m T) (ha : 0 ≤ a ∧ a < X 0 0) (hn : T 1 a ≠ -1) (hc : T 3 a < X 5 (a + 1)) (hg : 0 ≤ g ∧ g < X 0 0) : tI X m (tj_lk X m T a g) := by
  have hcur := h.cur ha hn hc
  unfold tj_lk
  split
  · rename_i hm
    split
    · rename_i w
      exact hcur.en hg w hm
    · rename_i w
      split
      · rename_i w6
        obtain ⟨j, j0, j1, e⟩ := h.1.2.2.2.2.1 g hg.1 hg.2 w w6
        exact ⟨tJ.low (b := a) (v := T 1 g) hcur.1 ⟨j, j0, j1, by show T 1 (T 5 j) = T 1 g; rw [e]⟩, hcur.2⟩
      · exact hcur
  · exact hcur
theorem tj_p1.rows (T : xS) (n : Nat) : (∀ s : Int, (tj_p1 T n) 6 s = if s = T 5 n then T 0 0 else T 6 s) ∧ (tj_p1 T n) 0 3 = n ∧ (∀ i : Int, i ≠ 3 → (tj_p1 T n) 0 i = T 0 i) ∧ (tj_p1 T n) 1 = T 1 ∧ (tj_p1 T n) 2 = T 2 ∧ (tj_p1 T n) 3 = T 3 ∧ (tj_p1 T n) 4 = T 4 ∧ (tj_p1 T n) 5 = T 5 := by
  refine ⟨fun s => by simp [tj_p1, xup_at], rfl, fun i hi => by simp [tj_p1, xup_at, hi], rfl, rfl, rfl, rfl, rfl⟩
theorem tj_pop.sp (a j0 : Int) : ∀ (n : Nat) (T : xS), 0 ≤ j0 → j0 < n → T 5 j0 = a → (∀ j : Int, j0 < j → j < n → T 5 j ≠ a) → (tj_pop a n T) 0 3 = j0 ∧ (∀ i : Int, i ≠ 3 → (tj_pop a n T) 0 i = T 0 i) ∧ (tj_pop a n T) 1 = T 1 ∧ (tj_pop a n T) 2 = T 2 ∧ (tj_pop a n T) 3 = T 3 ∧ (tj_pop a n T) 4 = T 4 ∧ (tj_pop a n T) 5 = T 5 ∧ (∀ j : Int, j0 ≤ j → j < n → (tj_pop a n T) 6 (T 5 j) = T 0 0) ∧ (∀ s : Int, (∀ j : Int, j0 ≤ j → j < n → T 5 j ≠ s) → (tj_pop a n T) 6 s = T 6 s)
  | 0, T, h0, h1, e, hu => by omega
  | n + 1, T, h0, h1, e, hu => by
    obtain ⟨r1, r2, r3, r4, r5, r6, r7, r8⟩ := tj_p1.rows T n
    show (if T 5 n = a then tj_p1 T n else tj_pop a n (tj_p1 T n)) 0 3 = j0 ∧ (∀ i : Int, i ≠ 3 → (if T 5 n = a then tj_p1 T n else tj_pop a n (tj_p1 T n)) 0 i = T 0 i) ∧ (if T 5 n = a then tj_p1 T n else tj_pop a n (tj_p1 T n)) 1 = T 1 ∧ (if T 5 n = a then tj_p1 T n else tj_pop a n (tj_p1 T n)) 2 = T 2 ∧ (if T 5 n = a then tj_p1 T n else tj_pop a n (tj_p1 T n)) 3 = T 3 ∧ (if T 5 n = a then tj_p1 T n else tj_pop a n (tj_p1 T n)) 4 = T 4 ∧ (if T 5 n = a then tj_p1 T n else tj_pop a n (tj_p1 T n)) 5 = T 5 ∧ (∀ j : Int, j0 ≤ j → j < ((n + 1 : Nat) : Int) → (if T 5 n = a then tj_p1 T n else tj_pop a n (tj_p1 T n)) 6 (T 5 j) = T 0 0) ∧ (∀ s : Int, (∀ j : Int, j0 ≤ j → j < ((n + 1 : Nat) : Int) → T 5 j ≠ s) → (if T 5 n = a then tj_p1 T n else tj_pop a n (tj_p1 T n)) 6 s = T 6 s)
    by_cases hn : T 5 n = a
    · have ej : j0 = n := by
        by_cases w : j0 = n
        · exact w
        · exact absurd hn (hu n (by omega) (by omega))
      rw [if_pos hn]
      refine ⟨by rw [r2, ej], r3, r4, r5, r6, r7, r8, fun j a b => ?_, fun s hs => ?_⟩
      · rw [r1, show j = n by omega, if_pos rfl]
      · rw [r1, if_neg (fun w => hs n (by omega) (by omega) w.symm)]
    · rw [if_neg hn]
      have hj : j0 < n := by
        by_cases w : j0 = n
        · rw [w] at e; exact absurd e hn
        · omega
      obtain ⟨q1, q2, q3, q4, q5, q6, q7, q8, q9⟩ := tj_pop.sp a j0 n (tj_p1 T n) h0 hj (by rw [r8]; exact e) (fun j a b => by rw [r8]; exact hu j a (by omega))
      rw [r8, r3 0 (by decide)] at q8
      rw [r8] at q9
      refine ⟨q1, fun i hi => (q2 i hi).trans (r3 i hi), q3.trans r4, q4.trans r5, q5.trans r6, q6.trans r7, q7.trans r8, fun j a b => ?_, fun s hs => ?_⟩
      · by_cases w : j < n
        · exact q8 j a w
        · rw [show j = n by omega]
          by_cases y : ∃ j' : Int, j0 ≤ j' ∧ j' < n ∧ T 5 j' = T 5 n
          · obtain ⟨j', y0, y1, y2⟩ := y
            rw [← y2]
            exact q8 j' y0 y1
          · rw [q9 (T 5 n) (fun j' y0 y1 y2 => y ⟨j', y0, y1, y2⟩), r1, if_pos rfl]
      · rw [q9 s (fun j a b => hs j a (by omega)), r1, if_neg (fun w => hs n (by omega) (by omega) w.symm)]
end PWTJ

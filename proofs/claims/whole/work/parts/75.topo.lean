/-! pure layer: components come in the order of their edges -/
def tL1 (X : xS) (m : Int → Bool) (T : xS) : Prop := ∀ s e : Int, 0 ≤ s → s < X 0 0 → T 6 s ≠ -1 → X 5 s ≤ e → e < X 5 (s + 1) → m (X 6 e / 8) = true → T 6 (X 6 e / 8) ≠ -1 ∧ T 6 (X 6 e / 8) ≤ T 6 s
def tL2 (X : xS) (m : Int → Bool) (T : xS) (G : Int → Prop) : Prop := ∀ u e : Int, 0 ≤ u → u < X 0 0 → T 1 u ≠ -1 → X 5 u ≤ e → e < T 3 u → m (X 6 e / 8) = true → T 1 (X 6 e / 8) ≠ -1 ∨ G (X 6 e / 8)
def tL3 (X T : xS) : Prop := ∀ u : Int, 0 ≤ u → u < X 0 0 → T 1 u ≠ -1 → T 6 u = -1 → (∀ i : Int, 0 ≤ i → i < T 0 2 → T 4 i ≠ u) → T 3 u = X 5 (u + 1)
def tL4 (X : xS) (m : Int → Bool) (T : xS) (G : Int → Prop) : Prop := ∀ u e : Int, 0 ≤ u → u < X 0 0 → T 1 u ≠ -1 → T 6 u = -1 → X 5 u ≤ e → e < T 3 u → m (X 6 e / 8) = true → T 6 (X 6 e / 8) = -1 → ¬ G (X 6 e / 8) → ∀ i : Int, 0 ≤ i → i < T 0 2 → T 1 (T 4 i) ≤ T 1 u → (i + 1 < T 0 2 → T 1 u < T 1 (T 4 (i + 1))) → T 2 (T 4 i) ≤ T 1 (X 6 e / 8)
def tLw (X : xS) (m : Int → Bool) (T : xS) (G : Int → Prop) : Prop := tL1 X m T ∧ tL2 X m T G ∧ tL3 X T ∧ tL4 X m T G
def tL (X : xS) (m : Int → Bool) (T : xS) : Prop := tLw X m T (fun _ => False)
section PWTP
variable {X T U : xS} {m : Int → Bool} {a g : Int}
theorem tLw.en (hI : tI X m T) (hL : tLw X m T (fun t => t = g)) (hg : 0 ≤ g ∧ g < X 0 0) (hn : T 1 g = -1) : tL X m (tj_en T g) := by
  obtain ⟨e1, e2, e3, e4, e5, e6, e00, e01, e02, e03⟩ := tj_en.rows T g
  obtain ⟨l1, l2, l3, l4⟩ := hL
  have pa := fun i h0 h1 => hI.1.pa (i := i) h0 h1
  have pg : ∀ i : Int, 0 ≤ i → i < T 0 2 → T 4 i ≠ g := fun i i0 i1 w => by
    have := (pa i i0 i1).2.1
    rw [w, hn] at this
    omega
  have c0 := hI.1.1
  have g3 := ((hI.1.2.1 g hg.1 hg.2).2.2.1 hn).1
  refine ⟨fun s e s0 s1 => by rw [e6]; exact l1 s e s0 s1, fun u e u0 u1 w x0 x1 hm => ?_, fun u u0 u1 w w6 hp => ?_, fun u e u0 u1 w w6 x0 x1 hm ht _ i i0 i1 hi hi2 => ?_⟩
  · rw [e3] at x1
    rw [e1] at w ⊢
    by_cases q : u = g
    · rw [q] at x0 x1; omega
    · rw [if_neg q] at w
      left
      rcases l2 u e u0 u1 w x0 x1 hm with y | y
      · split
        · omega
        · exact y
      · rw [if_pos y]; omega
  · rw [e1] at w
    rw [e6] at w6
    rw [e02] at hp
    rw [e3]
    by_cases q : u = g
    · exact absurd (by rw [e4, if_pos rfl, q]) (hp (T 0 2) (by omega) (by omega))
    · rw [if_neg q] at w
      exact l3 u u0 u1 w w6 (fun i i0 i1 => by
        have := hp i i0 (by omega)
        rw [e4, if_neg (by omega)] at this
        exact this)
  · rw [e3] at x1
    rw [e6] at w6 ht
    rw [e02] at i1 hi2
    have qu : u ≠ g := fun q => by rw [q] at x0 x1; omega
    rw [e1, if_neg qu] at w
    have bu := (hI.1.2.1 u u0 u1).1
    rw [e1 u, if_neg qu] at hi hi2
    rw [e4] at hi ⊢
    by_cases qi : i = T 0 2
    · rw [if_pos qi, e1, if_pos rfl] at hi
      omega
    · have ip := pg i i0 (by omega)
      rw [if_neg qi, e1, if_neg ip] at hi
      rw [if_neg qi, e2, if_neg ip, e1]
      have low : T 2 (T 4 i) ≤ T 1 (T 4 i) := by
        obtain ⟨j, j0, j1, je⟩ := hI.1.2.2.2.2.2.1 i i0 (by omega)
        have := (hI.1.2.2.2.2.2.2.2 j j0 j1).1
        rw [je] at this
        exact this
      have bi := (pa i i0 (by omega)).2.1
      by_cases qt : X 6 e / 8 = g
      · rw [if_pos qt]; omega
      · rw [if_neg qt]
        refine l4 u e u0 u1 w w6 x0 x1 hm ht qt i i0 (by omega) hi (fun y => ?_)
        have z := hi2 (by omega)
        rw [e4, if_neg (by omega), e1, if_neg (pg (i + 1) (by omega) y)] at z
        exact z
/-- one more edge is looked along, of the path's last state -/
theorem tL.cur (hL : tL X m T) (hI : tI X m T) (hp : 0 < T 0 2) (ha : a = T 4 (T 0 2 - 1)) (hg : g = X 6 (T 3 a) / 8) (u1 : U 1 = T 1) (u6 : U 6 = T 6) (u4 : U 4 = T 4) (u02 : U 0 2 = T 0 2) (u3 : ∀ s : Int, U 3 s = if s = a then T 3 a + 1 else T 3 s) (u2 : ∀ s : Int, U 2 s ≤ T 2 s) (G : Int → Prop) (h2 : m g = true → T 1 g ≠ -1 ∨ G g) (h4 : m g = true → T 6 g = -1 → ¬ G g → U 2 a ≤ T 1 g) : tLw X m U G := by
  obtain ⟨l1, l2, l3, l4⟩ := hL
  have fp := hI.1.2.2.2.2.2.2.1
  have look : ∀ u e : Int, e < U 3 u → e < T 3 u ∨ (u = a ∧ e = T 3 a) := fun u e he => by
    rw [u3] at he
    by_cases q : u = a
    · rw [if_pos q] at he
      rw [q]
      by_cases y : e = T 3 a
      · exact Or.inr ⟨rfl, y⟩
      · exact Or.inl (by omega)
    · rw [if_neg q] at he
      exact Or.inl he
  refine ⟨fun s e s0 s1 => by rw [u6]; exact l1 s e s0 s1, fun u e x0 x1 w y0 y1 hm => ?_, fun u x0 x1 w w6 hpp => ?_, fun u e x0 x1 w w6 y0 y1 hm ht hG i i0 i1 hi hi2 => ?_⟩
  · rw [u1] at w ⊢
    rcases look u e y1 with y | ⟨y, z⟩
    · rcases l2 u e x0 x1 w y0 y hm with q | q
      · exact Or.inl q
      · exact absurd q id
    · rw [z, ← hg] at hm ⊢
      exact h2 hm
  · rw [u1] at w
    rw [u6] at w6
    rw [u4, u02] at hpp
    have qa : u ≠ a := fun q => hpp (T 0 2 - 1) (by omega) (by omega) (by rw [q, ha])
    rw [u3, if_neg qa]
    exact l3 u x0 x1 w w6 hpp
  · rw [u1] at w hi hi2 ⊢
    rw [u6] at w6 ht
    rw [u4] at hi hi2 ⊢
    rw [u02] at i1 hi2
    rcases look u e y1 with y | ⟨y, z⟩
    · have := l4 u e x0 x1 w w6 y0 y hm ht id i i0 i1 hi hi2
      have := u2 (T 4 i)
      omega
    · rw [z, ← hg] at hm ht hG ⊢
      have ei : i = T 0 2 - 1 := by
        by_cases q : i = T 0 2 - 1
        · exact q
        · have lt := hi2 (by omega)
          rw [y, ha] at lt
          by_cases q2 : i + 1 = T 0 2 - 1
          · rw [q2] at lt; omega
          · have := fp (i + 1) (T 0 2 - 1) (by omega) (by omega) (by omega)
            omega
      rw [ei, ← ha]
      exact h4 hm ht hG
theorem tL.lk (hL : tL X m T) (hI : tI X m T) (hp : 0 < T 0 2) (ha : a = T 4 (T 0 2 - 1)) (hg : g = X 6 (T 3 a) / 8) (hc : T 3 a < X 5 (a + 1)) (hg2 : 0 ≤ g ∧ g < X 0 0) (ha2 : 0 ≤ a ∧ a < X 0 0) (hna : T 1 a ≠ -1) : tL X m (tj_lk X m T a g) := by
  have r3 : ∀ s : Int, (xup T 3 a (T 3 a + 1)) 3 s = if s = a then T 3 a + 1 else T 3 s := fun s => xup_sm _ _ _ _ _
  have base : ∀ G : Int → Prop, (m g = true → T 1 g ≠ -1 ∨ G g) → (m g = true → T 6 g = -1 → ¬ G g → T 2 a ≤ T 1 g) → tLw X m (xup T 3 a (T 3 a + 1)) G := fun G h2 h4 => hL.cur (U := xup T 3 a (T 3 a + 1)) hI hp ha hg rfl rfl rfl rfl r3 (fun s => Int.le_refl _) G h2 h4
  have hcur := hI.cur ha2 hna hc
  unfold tj_lk
  split
  · rename_i hm
    split
    · rename_i w
      exact tLw.en hcur (base (fun t => t = g) (fun _ => Or.inr rfl) (fun _ _ y => absurd rfl y)) hg2 w
    · rename_i w
      split
      · rename_i w6
        refine hL.cur (U := xup (xup T 3 a (T 3 a + 1)) 2 a (xmin (T 2 a) (T 1 g))) hI hp ha hg rfl rfl rfl rfl r3 (fun s => ?_) _ (fun _ => Or.inl w) (fun _ _ _ => ?_)
        · show (xup (xup T 3 a (T 3 a + 1)) 2 a (xmin (T 2 a) (T 1 g))) 2 s ≤ T 2 s
          rw [xup_sm]
          split
          · rename_i q
            rw [q]
            exact (xmin_le _ _).1
          · exact Int.le_refl _
        · rw [xup_sm, if_pos rfl]
          exact (xmin_le _ _).2
      · rename_i w6
        exact base _ (fun _ => Or.inl w) (fun _ y => absurd y w6)
  · rename_i hm
    exact base _ (fun y => absurd y hm) (fun y => absurd y hm)
theorem tL.lv (hL : tL X m T) (hG : gr X) (hI : tI X m T) (hp : 0 < T 0 2) (ha : a = T 4 (T 0 2 - 1)) (hc : T 3 a = X 5 (a + 1)) : tL X m (tj_lv T a) := by
  obtain ⟨l1, l2, l3, l4⟩ := hL
  obtain ⟨ja, j0, j1, je⟩ := hI.1.2.2.2.2.2.1 (T 0 2 - 1) (by omega) (by omega)
  rw [← ha] at je
  have hJ1 := hI.1.l1 (a := a) hp ⟨ja, j0, j1, je⟩
  obtain ⟨r1, r3, r4, r5, r6, r00, r01, r03, r02, r2, r2'⟩ := tj_l1.rows T a
  have fp := hI.1.2.2.2.2.2.2.1
  have pa := hI.1.pa (i := T 0 2 - 1) (by omega) (by omega)
  rw [← ha] at pa
  have q2 : ∀ s : Int, (tj_l1 T a) 2 s ≤ T 2 s := fun s => by
    by_cases w : T 0 2 - 1 ≤ 0
    · rw [r2 w]; omega
    · rw [r2' (by omega)]
      split
      · rename_i y
        rw [y]
        exact (xmin_le _ _).1
      · omega
  have qb : 0 < T 0 2 - 1 → (tj_l1 T a) 2 (T 4 (T 0 2 - 1 - 1)) ≤ T 2 a := fun w => by
    rw [r2' w, if_pos rfl]
    exact (xmin_le _ _).2
  have seg : ∀ u e : Int, 0 ≤ u → u < X 0 0 → T 1 u ≠ -1 → T 6 u = -1 → X 5 u ≤ e → e < T 3 u → m (X 6 e / 8) = true → T 6 (X 6 e / 8) = -1 → ∀ i : Int, 0 ≤ i → i < T 0 2 - 1 → T 1 (T 4 i) ≤ T 1 u → (i + 1 < T 0 2 - 1 → T 1 u < T 1 (T 4 (i + 1))) → (tj_l1 T a) 2 (T 4 i) ≤ T 1 (X 6 e / 8) := by
    intro u e u0 u1 w w6 x0 x1 hm ht i i0 i1 hi hi2
    by_cases y : i + 1 < T 0 2 - 1
    · have := l4 u e u0 u1 w w6 x0 x1 hm ht id i i0 (by omega) hi (fun _ => hi2 y)
      have := q2 (T 4 i)
      omega
    · have ei : i = T 0 2 - 1 - 1 := by omega
      by_cases z : T 1 u < T 1 a
      · have := l4 u e u0 u1 w w6 x0 x1 hm ht id i i0 (by omega) hi (fun _ => by rw [show i + 1 = T 0 2 - 1 by omega, ← ha]; exact z)
        have := q2 (T 4 i)
        omega
      · have := l4 u e u0 u1 w w6 x0 x1 hm ht id (T 0 2 - 1) (by omega) (by omega) (by rw [← ha]; omega) (fun q => by omega)
        rw [← ha] at this
        have q := qb (by omega)
        rw [ei]
        omega
  have offp : ∀ u : Int, u ≠ a → (∀ i : Int, 0 ≤ i → i < T 0 2 - 1 → T 4 i ≠ u) → ∀ i : Int, 0 ≤ i → i < T 0 2 → T 4 i ≠ u := fun u hu h i i0 i1 w => by
    by_cases q : i = T 0 2 - 1
    · rw [q, ← ha] at w
      exact hu w.symm
    · exact h i i0 (by omega) w
  unfold tj_lv
  split
  · rename_i hcl
    have low := (hI.1.2.2.2.2.2.2.2 ja j0 j1).1
    rw [je] at low
    have q2a := q2 a
    obtain ⟨v00, v01, v02, v03, v1, v2, v3, v4, v5, v6, v7⟩ := tj_cl.sp hJ1 (a := a) (ja := ja) j0 (by rw [r03]; exact j1) (by rw [r5]; exact je)
    rw [r5, r03, r00] at v6
    rw [r5, r03, r6] at v7
    have cls : ∀ s : Int, T 6 s ≠ -1 → (tj_cl (tj_l1 T a) a) 6 s = T 6 s := fun s hs => v7 s (fun j y0 y1 y2 => hs (by rw [← y2]; exact (hI.1.2.2.1 j (by omega) y1).2.2))
    have pop : ∀ s : Int, 0 ≤ s → s < X 0 0 → T 1 s ≠ -1 → T 6 s = -1 → T 1 a ≤ T 1 s → (tj_cl (tj_l1 T a) a) 6 s = T 0 0 := fun s s0 s1 w w6 hle => by
      obtain ⟨j, x0, x1, xe⟩ := hI.1.2.2.2.2.1 s s0 s1 w w6
      have := hI.1.inj j0 j1 x0 x1 (by rw [je, xe]; exact hle)
      rw [← xe]
      exact v6 j this x1
    have c00 := hI.1.1.2.2.1
    have op : ∀ s : Int, (tj_cl (tj_l1 T a) a) 6 s = -1 → T 6 s = -1 := fun s w => by
      by_cases q : T 6 s = -1
      · exact q
      · rw [cls s q] at w; exact w
    refine ⟨fun s e s0 s1 hs x0 x1 hm => ?_, fun u e x0 x1 w y0 y1 hm => ?_, fun u x0 x1 w w6 hpp => ?_, fun u e x0 x1 w w6 y0 y1 hm ht _ i i0 i1 hi hi2 => ?_⟩
    · by_cases q : T 6 s = -1
      · have hpop : ∃ j : Int, ja ≤ j ∧ j < T 0 3 ∧ T 5 j = s := by
          by_cases y : ∃ j : Int, ja ≤ j ∧ j < T 0 3 ∧ T 5 j = s
          · exact y
          · exfalso
            rw [v7 s (fun j y0 y1 y2 => y ⟨j, y0, y1, y2⟩)] at hs
            exact hs q
        obtain ⟨j, y0, y1, y2⟩ := hpop
        have es := v6 j y0 y1
        rw [y2] at es
        have oj := hI.1.oa (j := j) (by omega) y1
        rw [y2] at oj
        have nle : T 1 a ≤ T 1 s := by
          by_cases z : j = ja
          · rw [z, je] at y2; rw [y2]; omega
          · have := hI.1.2.2.2.1 ja j j0 (by omega) y1
            rw [je, y2] at this
            omega
        have full : T 3 s = X 5 (s + 1) := by
          by_cases z : s = a
          · rw [z]; exact hc
          · refine l3 s s0 s1 (by omega) q (offp s z (fun i i0 i1 w => ?_))
            have := fp i (T 0 2 - 1) i0 i1 (by omega)
            rw [← ha, w] at this
            omega
        have t1 : T 1 (X 6 e / 8) ≠ -1 := by
          rcases l2 s e s0 s1 (by omega) x0 (by omega) hm with z | z
          · exact z
          · exact absurd z id
        have rg := (hG.t s0 s1 x0 x1).2.2
        rw [es]
        by_cases z : T 6 (X 6 e / 8) = -1
        · have le := l4 s e s0 s1 (by omega) q x0 (by omega) hm z id (T 0 2 - 1) (by omega) (by omega) (by rw [← ha]; exact nle) (fun q => by omega)
          rw [← ha] at le
          rw [pop _ rg.1 rg.2 t1 z (by omega)]
          omega
        · rw [cls _ z]
          have := (hI.1.2.1 _ rg.1 rg.2).2.2.2.1
          omega
      · rw [cls s q]
        obtain ⟨z1, z2⟩ := l1 s e s0 s1 q x0 x1 hm
        rw [cls _ z1]
        exact ⟨z1, z2⟩
    · rw [v1, r1] at w ⊢
      rw [v3, r3] at y1
      exact l2 u e x0 x1 w y0 y1 hm
    · rw [v1, r1] at w
      rw [v4, r4, v02, r02] at hpp
      rw [v3, r3]
      have u6 := op u w6
      have ua : u ≠ a := fun q => by
        rw [q, pop a pa.1.1 pa.1.2 (by omega) pa.2.2 (Int.le_refl _)] at w6
        omega
      exact l3 u x0 x1 w u6 (offp u ua hpp)
    · rw [v1, r1] at w hi hi2 ⊢
      rw [v3, r3] at y1
      rw [v4, r4] at hi hi2 ⊢
      rw [v02, r02] at i1 hi2
      rw [v2]
      exact seg u e x0 x1 w (op u w6) y0 y1 hm (op _ ht) i i0 i1 hi hi2
  · refine ⟨fun s e s0 s1 => by rw [r6]; exact l1 s e s0 s1, fun u e x0 x1 w y0 y1 hm => ?_, fun u x0 x1 w w6 hpp => ?_, fun u e x0 x1 w w6 y0 y1 hm ht _ i i0 i1 hi hi2 => ?_⟩
    · rw [r1] at w ⊢
      rw [r3] at y1
      exact l2 u e x0 x1 w y0 y1 hm
    · rw [r1] at w
      rw [r6] at w6
      rw [r4, r02] at hpp
      rw [r3]
      by_cases ua : u = a
      · rw [ua]; exact hc
      · exact l3 u x0 x1 w w6 (offp u ua hpp)
    · rw [r1] at w hi hi2 ⊢
      rw [r3] at y1
      rw [r6] at w6 ht
      rw [r4] at hi hi2 ⊢
      rw [r02] at i1 hi2
      exact seg u e x0 x1 w w6 y0 y1 hm ht i i0 i1 hi hi2
theorem tL.st (hG : gr X) (hI : tI X m T) (hL : tL X m T) (hp : 0 < T 0 2) : tL X m (tj_st X m T) := by
  have pa := hI.1.pa (i := T 0 2 - 1) (by omega) (by omega)
  have cu := hI.1.2.1 _ pa.1.1 pa.1.2
  unfold tj_st
  split
  · rename_i hc
    have gt := hG.t pa.1.1 pa.1.2 cu.2.1.1 hc
    exact hL.lk hI hp rfl rfl hc gt.2.2 pa.1 (by omega)
  · rename_i hc
    exact hL.lv hG hI hp rfl (by omega)
theorem tL.go (hG : gr X) : ∀ (n : Nat) (T : xS), tI X m T → tL X m T → tL X m (tj_go X m n T)
  | 0, T, _, h => h
  | n + 1, T, hI, h => by
    by_cases w : T 0 2 ≤ 0
    · have e : tj_go X m (n + 1) T = T := if_pos w
      rw [e]; exact h
    · have e : tj_go X m (n + 1) T = tj_go X m n (tj_st X m T) := if_neg w
      rw [e]
      exact tL.go hG n _ (hI.st hG (by omega)).1 (h.st hG hI (by omega))
theorem tL.al (hG : gr X) : ∀ n : Nat, (n : Int) ≤ X 0 0 → tL X m (tj_al X m n)
  | 0, _ => ⟨fun s e _ _ w => absurd rfl w, fun u e _ _ w => absurd rfl w, fun u _ _ w => absurd rfl w, fun u e _ _ w => absurd rfl w⟩
  | n + 1, hn => by
    have h := tL.al hG n (by omega)
    obtain ⟨h1, h2, h3⟩ := tI.al (m := m) hG n (by omega)
    by_cases w : m n = true ∧ (tj_al X m n) 1 n = -1
    · have e : tj_al X m (n + 1) = tj_go X m (X 0 6 + X 0 0).toNat (tj_en (tj_al X m n) n) := if_pos w
      rw [e]
      obtain ⟨i1, i2⟩ := h1.in hG h2 (g := n) (by omega) w.2 w.1
      obtain ⟨l1, l2, l3, l4⟩ := h
      refine tL.go hG _ _ i1 (tLw.en h1 ⟨l1, fun u e x0 x1 y y0 y1 hm => Or.inl ((l2 u e x0 x1 y y0 y1 hm).elim id (fun q => absurd q id)), l3, fun u e x0 x1 y y6 y0 y1 hm ht _ => l4 u e x0 x1 y y6 y0 y1 hm ht id⟩ (by omega) w.2)
    · have e : tj_al X m (n + 1) = tj_al X m n := if_neg w
      rw [e]; exact h
/-- a set that nothing leads out of keeps a run -/
theorem RR.yes {P : Int} {Ug : Int → Prop} (hG : gr X) (hU : ∀ s : Int, Ug s → (0 ≤ s ∧ s < X 0 0) ∧ m s = true ∧ (X 5 s = X 5 (s + 1) ∨ ∃ e : Int, X 5 s ≤ e ∧ e < X 5 (s + 1) ∧ Ug (X 6 e / 8))) (hn : ∃ s : Int, Ug s) : RR X (tj_al X m (X 0 0).toNat) m P 0 := by
  have n0 := hG.1
  obtain ⟨hI, hm, hc⟩ := tI.end (m := m) hG
  have hL := (tL.al (m := m) hG (X 0 0).toNat (by omega)).1
  generalize tj_al X m (X 0 0).toNat = T at *
  by_cases hst : ∃ s : Int, Ug s ∧ X 5 s = X 5 (s + 1)
  · obtain ⟨s, us, se⟩ := hst
    have h := hU s us
    exact Or.inl ⟨s, h.1.1, h.1.2, h.2.1, se⟩
  · right
    have key : ∀ (n : Nat) (s : Int), Ug s → T 6 s < n → ∃ c : Int, 0 ≤ c ∧ c < T 0 0 ∧ hin X T (X 0 0) c := by
      intro n
      induction n with
      | zero =>
        intro s us hlt
        have h := hU s us
        have b := (hI.1.2.1 s h.1.1 h.1.2).2.2.2.1
        have := (hm s h.1.1 h.1.2).mp h.2.1
        omega
      | succ n ih =>
        intro s us hlt
        have h := hU s us
        have b := (hI.1.2.1 s h.1.1 h.1.2).2.2.2.1
        have s6 := (hm s h.1.1 h.1.2).mp h.2.1
        rcases h.2.2 with q | ⟨e, e0, e1, ue⟩
        · exact absurd ⟨s, us, q⟩ hst
        · obtain ⟨z1, z2⟩ := hL s e h.1.1 h.1.2 s6 e0 e1 (hU _ ue).2.1
          by_cases q : T 6 (X 6 e / 8) = T 6 s
          · exact ⟨T 6 s, by omega, by omega, s, h.1.1, h.1.2, rfl, e, e0, e1, q⟩
          · exact ih _ ue (by omega)
    obtain ⟨s, us⟩ := hn
    obtain ⟨c, c0, c1, hh⟩ := key (T 6 s + 1).toNat s us (by omega)
    exact ⟨c, c0, c1, hh, Or.inl rfl⟩
end PWTP

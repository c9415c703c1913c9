/-! pure layer: the walk leaves states, and ends -/
section PWTK
variable {X T U : xS} {m : Int → Bool} {g a : Int}
theorem tJ.dn (h : tJ X m T) (hp : 0 < T 0 2) : tJ X m (xup T 0 2 (T 0 2 - 1)) := by
  obtain ⟨⟨a1, a2, a3, a4, a5⟩, h2, h3, h4, h5, h6, h7, h8⟩ := h
  refine ⟨⟨?_, a2, a3, a4, a5⟩, h2, h3, h4, h5, fun i i0 i1 => h6 i i0 ?_, fun i i' i0 ii i1 => h7 i i' i0 ii ?_, h8⟩
  · show 0 ≤ T 0 2 - 1 ∧ T 0 2 - 1 ≤ T 0 1
    omega
  · have : i < T 0 2 - 1 := i1
    omega
  · have : i' < T 0 2 - 1 := i1
    omega
theorem tj_l1.rows (T : xS) (a : Int) : (tj_l1 T a) 1 = T 1 ∧ (tj_l1 T a) 3 = T 3 ∧ (tj_l1 T a) 4 = T 4 ∧ (tj_l1 T a) 5 = T 5 ∧ (tj_l1 T a) 6 = T 6 ∧ (tj_l1 T a) 0 0 = T 0 0 ∧ (tj_l1 T a) 0 1 = T 0 1 ∧ (tj_l1 T a) 0 3 = T 0 3 ∧ (tj_l1 T a) 0 2 = T 0 2 - 1 ∧ (T 0 2 - 1 ≤ 0 → (tj_l1 T a) 2 = T 2) ∧ (0 < T 0 2 - 1 → ∀ s : Int, (tj_l1 T a) 2 s = if s = T 4 (T 0 2 - 1 - 1) then xmin (T 2 (T 4 (T 0 2 - 1 - 1))) (T 2 a) else T 2 s) := by
  unfold tj_l1
  split
  · exact ⟨rfl, rfl, rfl, rfl, rfl, rfl, rfl, rfl, rfl, fun _ => rfl, fun w => by omega⟩
  · exact ⟨rfl, rfl, rfl, rfl, rfl, rfl, rfl, rfl, rfl, fun w => by omega, fun _ s => by simp [xup_at]⟩
theorem tJ.l1 (h : tJ X m T) (hp : 0 < T 0 2) (ha : ∃ j : Int, 0 ≤ j ∧ j < T 0 3 ∧ T 5 j = a) : tJ X m (tj_l1 T a) := by
  have hd := h.dn hp
  unfold tj_l1
  split
  · exact hd
  · obtain ⟨j, j0, j1, e⟩ := ha
    have l := (h.2.2.2.2.2.2.2 j j0 j1).2
    rw [e] at l
    exact hd.low (b := T 4 (T 0 2 - 1 - 1)) (v := T 2 a) l
theorem tj_cl.sp (h : tJ X m T) {ja : Int} (h0 : 0 ≤ ja) (h1 : ja < T 0 3) (e : T 5 ja = a) : (tj_cl T a) 0 0 = T 0 0 + 1 ∧ (tj_cl T a) 0 1 = T 0 1 ∧ (tj_cl T a) 0 2 = T 0 2 ∧ (tj_cl T a) 0 3 = ja ∧ (tj_cl T a) 1 = T 1 ∧ (tj_cl T a) 2 = T 2 ∧ (tj_cl T a) 3 = T 3 ∧ (tj_cl T a) 4 = T 4 ∧ (tj_cl T a) 5 = T 5 ∧ (∀ j : Int, ja ≤ j → j < T 0 3 → (tj_cl T a) 6 (T 5 j) = T 0 0) ∧ (∀ s : Int, (∀ j : Int, ja ≤ j → j < T 0 3 → T 5 j ≠ s) → (tj_cl T a) 6 s = T 6 s) := by
  have hoc : ((T 0 3).toNat : Int) = T 0 3 := by omega
  obtain ⟨q1, q2, q3, q4, q5, q6, q7, q8, q9⟩ := tj_pop.sp a ja (T 0 3).toNat T h0 (by omega) e (fun j j0 j1 w => by
    have := h.2.2.2.1 ja j h0 j0 (by omega)
    rw [w, e] at this
    omega)
  rw [hoc] at q8 q9
  exact ⟨rfl, q2 1 (by decide), q2 2 (by decide), q1, q3, q4, q5, q6, q7, q8, q9⟩
theorem tJ.cl (h : tJ X m T) {ja : Int} (h0 : 0 ≤ ja) (h1 : ja < T 0 3) (e : T 5 ja = a) (hp : ∀ i : Int, 0 ≤ i → i < T 0 2 → T 1 (T 4 i) < T 1 a) : tJ X m (tj_cl T a) := by
  obtain ⟨r0, r1, r2, r3, q1, q2, q3, q4, q5, q6, q7⟩ := tj_cl.sp h h0 h1 e
  have oa := fun j h0 h1 => h.oa (j := j) h0 h1
  have inj := fun (j j' : Int) (x0 : 0 ≤ j) (x1 : j < T 0 3) (y0 : 0 ≤ j') (y1 : j' < T 0 3) (w : T 1 (T 5 j) ≤ T 1 (T 5 j')) => h.inj x0 x1 y0 y1 w
  obtain ⟨⟨a1, a2, a3, a4, a5⟩, b, c, d, f5, f6, f7, f8⟩ := h
  generalize tj_cl T a = U at *
  have low : ∀ j : Int, 0 ≤ j → j < ja → U 6 (T 5 j) = T 6 (T 5 j) := fun j j0 j1 => q7 _ (fun j' y0 y1 w => by
    have := d j j' j0 (by omega) y1
    rw [w] at this
    omega)
  refine ⟨⟨?_, ?_, ?_, ?_, ?_⟩, ?_, ?_, ?_, ?_, ?_, ?_, ?_⟩
  · omega
  · omega
  · omega
  · omega
  · rw [q1, r1]; exact a5
  · intro s s0 s1
    have bs := b s s0 s1
    rw [q1, q3, r1, r0]
    by_cases y : ∃ j : Int, ja ≤ j ∧ j < T 0 3 ∧ T 5 j = s
    · obtain ⟨j, y0, y1, y2⟩ := y
      have u6 := q6 j y0 y1
      have o := oa j (by omega) y1
      rw [y2] at u6 o
      exact ⟨bs.1, bs.2.1, fun w => by omega, Or.inr (by omega), bs.2.2.2.2⟩
    · have u6 := q7 s (fun j y0 y1 y2 => y ⟨j, y0, y1, y2⟩)
      rw [u6]
      exact ⟨bs.1, bs.2.1, bs.2.2.1, by omega, bs.2.2.2.2⟩
  · intro j j0 j1
    rw [r3] at j1
    rw [q5, q1, low j j0 j1]
    exact c j j0 (by omega)
  · intro j j' j0 jj j1
    rw [r3] at j1
    rw [q5, q1]
    exact d j j' j0 jj (by omega)
  · intro s s0 s1 w1 w6
    rw [q1] at w1
    by_cases y : ∃ j : Int, ja ≤ j ∧ j < T 0 3 ∧ T 5 j = s
    · obtain ⟨j, y0, y1, y2⟩ := y
      have u6 := q6 j y0 y1
      rw [y2] at u6
      omega
    · rw [q7 s (fun j y0 y1 y2 => y ⟨j, y0, y1, y2⟩)] at w6
      obtain ⟨j, j0, j1, ej⟩ := f5 s s0 s1 w1 w6
      refine ⟨j, j0, ?_, by rw [q5]; exact ej⟩
      rw [r3]
      by_cases w : ja ≤ j
      · exact absurd ⟨j, w, j1, ej⟩ y
      · omega
  · intro i i0 i1
    rw [r2] at i1
    obtain ⟨j, j0, j1, ej⟩ := f6 i i0 i1
    have lt := hp i i0 i1
    refine ⟨j, j0, ?_, by rw [q5, q4]; exact ej⟩
    rw [r3]
    by_cases w : ja ≤ j
    · have := inj j ja j0 j1 h0 h1 (by rw [ej, e]; omega)
      have ee : j = ja := by omega
      rw [ee, e] at ej
      rw [ej] at lt
      omega
    · omega
  · intro i i' i0 ii i1
    rw [r2] at i1
    rw [q4, q1]
    exact f7 i i' i0 ii i1
  · intro j j0 j1
    rw [r3] at j1
    rw [q5, q1, q2]
    obtain ⟨l1, j', y0, y1, y2⟩ := f8 j j0 (by omega)
    refine ⟨l1, j', y0, ?_, y2⟩
    rw [r3]
    have lt := d j ja j0 j1 h1
    by_cases w : ja ≤ j'
    · have := inj j' j y0 y1 j0 (by omega) (by omega)
      omega
    · omega
theorem tI.lv (h : tI X m T) (hp : 0 < T 0 2) : tI X m (tj_lv T (T 4 (T 0 2 - 1))) ∧ (tj_lv T (T 4 (T 0 2 - 1))) 3 = T 3 ∧ (tj_lv T (T 4 (T 0 2 - 1))) 1 = T 1 ∧ (tj_lv T (T 4 (T 0 2 - 1))) 0 1 = T 0 1 ∧ (tj_lv T (T 4 (T 0 2 - 1))) 0 2 = T 0 2 - 1 := by
  obtain ⟨hJ, z0, z1⟩ := h
  obtain ⟨ja, h0, h1, e⟩ := hJ.2.2.2.2.2.1 (T 0 2 - 1) (by omega) (by omega)
  have hL := hJ.l1 (a := T 4 (T 0 2 - 1)) hp ⟨ja, h0, h1, e⟩
  obtain ⟨r1, r3, r4, r5, r6, r00, r01, r03, r02, r2, r2'⟩ := tj_l1.rows T (T 4 (T 0 2 - 1))
  have fp := hJ.2.2.2.2.2.2.1
  have bot : T 0 2 = 1 → ja = 0 := fun w => by
    have zz := z1 hp
    rw [w, show (1 : Int) - 1 = 0 by decide, ← zz.2] at e
    have := hJ.inj h0 h1 (Int.le_refl 0) zz.1 (by rw [e]; omega)
    omega
  unfold tj_lv
  split
  · rename_i hc
    obtain ⟨s00, s01, s02, s03, q1, q2, q3, q4, q5, q6, q7⟩ := tj_cl.sp hL (a := T 4 (T 0 2 - 1)) (ja := ja) h0 (by rw [r03]; exact h1) (by rw [r5]; exact e)
    have hU := hL.cl (a := T 4 (T 0 2 - 1)) (ja := ja) h0 (by rw [r03]; exact h1) (by rw [r5]; exact e) (fun i i0 i1 => by
      rw [r02] at i1
      rw [r4, r1]
      exact fp i (T 0 2 - 1) i0 i1 (by omega))
    refine ⟨⟨hU, fun w => ?_, fun w => ?_⟩, q3.trans r3, q1.trans r1, s01.trans r01, s02.trans r02⟩
    · rw [s02, r02] at w
      rw [s03]
      exact bot (by omega)
    · rw [s02, r02] at w
      rw [s03, q5, q4, r5, r4]
      have zz := z1 hp
      refine ⟨?_, zz.2⟩
      have lt := fp 0 (T 0 2 - 1) (by omega) w (by omega)
      rw [← zz.2, ← e] at lt
      by_cases y : ja = 0
      · rw [y] at lt; omega
      · omega
  · rename_i hc
    have hlt : 0 < T 0 2 - 1 := by
      by_cases w : T 0 2 - 1 ≤ 0
      · exfalso
        apply hc
        rw [r2 w]
        obtain ⟨l1, j', y0, y1, y2⟩ := hJ.2.2.2.2.2.2.2 ja h0 h1
        rw [e] at l1 y2
        have b0 := bot (by omega)
        have : T 1 (T 5 ja) ≤ T 1 (T 5 j') := by
          by_cases y : j' = ja
          · rw [y]; omega
          · have := hJ.2.2.2.1 ja j' h0 (by omega) y1
            omega
        rw [e] at this
        omega
      · omega
    refine ⟨⟨hL, fun w => by omega, fun _ => ?_⟩, r3, r1, r01, r02⟩
    rw [r03, r5, r4]
    exact z1 hp
theorem tI.st (hG : gr X) (h : tI X m T) (hp : 0 < T 0 2) : tI X m (tj_st X m T) ∧ tj_F X (tj_st X m T) = tj_F X T - 1 ∧ (∀ s : Int, T 1 s ≠ -1 → (tj_st X m T) 1 s ≠ -1) := by
  have pa := h.1.pa (i := T 0 2 - 1) (by omega) (by omega)
  have c0 := h.1.1
  unfold tj_st
  split
  · rename_i hc
    have cur := h.1.2.1 _ pa.1.1 pa.1.2
    have gt := hG.t pa.1.1 pa.1.2 cur.2.1.1 hc
    refine ⟨h.lk pa.1 (by omega) hc gt.2.2, ?_⟩
    generalize T 4 (T 0 2 - 1) = a at *
    generalize X 6 (T 3 a) / 8 = g at *
    have rm := tj_rm.up (X := X) (T := T) (T' := xup T 3 a (T 3 a + 1)) (a := a) pa.1.1 (xup_same _ _ _ _) (fun s hs => xup_ne hs) (X 0 0).toNat (by omega)
    have base : tj_F X (xup T 3 a (T 3 a + 1)) = tj_F X T - 1 := by
      unfold tj_F
      rw [rm]
      show tj_rm X T (X 0 0).toNat - 1 + (X 0 0 - T 0 1) + T 0 2 = _
      omega
    unfold tj_lk
    split
    · split
      · obtain ⟨e1, e2, e3, e4, e5, e6, e00, e01, e02, e03⟩ := tj_en.rows (xup T 3 a (T 3 a + 1)) g
        refine ⟨?_, fun s hs => ?_⟩
        · rw [← base]
          unfold tj_F
          rw [tj_rm.E (T := xup T 3 a (T 3 a + 1)) (T' := tj_en (xup T 3 a (T 3 a + 1)) g) _ (fun s _ _ => by rw [e3]), e01, e02]
          omega
        · rw [e1]
          split
          · show T 0 1 ≠ -1
            omega
          · exact hs
      · split
        · refine ⟨?_, fun s hs => hs⟩
          rw [← base]
          unfold tj_F
          rw [tj_rm.E (T := xup T 3 a (T 3 a + 1)) (T' := xup (xup T 3 a (T 3 a + 1)) 2 a (xmin (T 2 a) (T 1 g))) _ (fun s _ _ => rfl)]
          rfl
        · exact ⟨base, fun s hs => hs⟩
    · exact ⟨base, fun s hs => hs⟩
  · obtain ⟨l1, l2, l3, l4, l5⟩ := h.lv hp
    refine ⟨l1, ?_, fun s hs => by rw [l3]; exact hs⟩
    unfold tj_F
    rw [tj_rm.E (T := T) _ (fun s _ _ => by rw [l2]), l4, l5]
    omega
theorem tI.F (h : tI X m T) (hG : gr X) : T 0 2 ≤ tj_F X T := by
  obtain ⟨⟨⟨a1, a2, a3, a4, a5⟩, b, -⟩, -⟩ := h
  have n := nz_le (fun s => T 1 s + 1) (X 0 0).toNat
  have r := tj_rm.nn (X := X) (T := T) (X 0 0).toNat (fun s x y => (b s x (by omega)).2.1.2)
  unfold tj_F
  have := hG.1
  omega
theorem tI.go (hG : gr X) : ∀ (n : Nat) (T : xS), tI X m T → tj_F X T ≤ n → tI X m (tj_go X m n T) ∧ (tj_go X m n T) 0 2 = 0 ∧ (∀ s : Int, T 1 s ≠ -1 → (tj_go X m n T) 1 s ≠ -1)
  | 0, T, h, hF => by
    have := h.F hG
    have := h.1.1.1.1
    exact ⟨h, by show T 0 2 = 0; omega, fun s hs => hs⟩
  | n + 1, T, h, hF => by
    have h0 := h.1.1.1.1
    by_cases w : T 0 2 ≤ 0
    · have e : tj_go X m (n + 1) T = T := if_pos w
      rw [e]
      exact ⟨h, by omega, fun s hs => hs⟩
    · have e : tj_go X m (n + 1) T = tj_go X m n (tj_st X m T) := if_neg w
      rw [e]
      obtain ⟨s1, s2, s3⟩ := h.st hG (by omega)
      obtain ⟨q1, q2, q3⟩ := tI.go hG n (tj_st X m T) s1 (by omega)
      exact ⟨q1, q2, fun s hs => q3 s (s3 s hs)⟩
theorem tI.zero (hG : gr X) : tI X m (tj_0 X) := by
  refine ⟨⟨⟨⟨Int.le_refl 0, Int.le_refl 0⟩, Int.le_refl 0, Int.le_refl 0, Int.le_refl 0, ?_⟩, fun s s0 s1 => ⟨Or.inl rfl, ⟨Int.le_refl _, hG.2.2.1 s s0 s1⟩, fun _ => ⟨rfl, rfl⟩, Or.inl rfl, fun w => absurd rfl w⟩, fun j j0 j1 => ?_, fun j j' j0 jj j1 => ?_, fun s s0 s1 w => absurd rfl w, fun j j0 j1 => ?_, fun j j' j0 jj j1 => ?_, fun j j0 j1 => ?_⟩, fun _ => rfl, fun w => ?_⟩
  · rw [nz_0 _ (fun j _ => rfl)]
    rfl
  · have : j < 0 := j1
    omega
  · have : j' < 0 := j1
    omega
  · have : j < 0 := j1
    omega
  · have : j' < 0 := j1
    omega
  · have : j < 0 := j1
    omega
  · have : (0 : Int) < 0 := w
    omega
/-- a walk from one more state -/
theorem tI.in (hG : gr X) (h : tI X m T) (h2 : T 0 2 = 0) (hg : 0 ≤ g ∧ g < X 0 0) (hn : T 1 g = -1) (hm : m g = true) : tI X m (tj_en T g) ∧ tj_F X (tj_en T g) ≤ X 0 6 + X 0 0 := by
  refine ⟨h.en hg hn hm, ?_⟩
  obtain ⟨e1, e2, e3, e4, e5, e6, e00, e01, e02, e03⟩ := tj_en.rows T g
  have r := tj_rm.le (X := X) (T := T) (X 0 0).toNat (fun s x y => (h.1.2.1 s x (by omega)).2.1.1)
  have a := h.1.1.1
  unfold tj_F
  rw [tj_rm.E (T := T) _ (fun s _ _ => by rw [e3]), e01, e02]
  rw [hG.2.1, show ((X 0 0).toNat : Int) = X 0 0 by omega, hG.2.2.2.1] at r
  omega
theorem tI.al (hG : gr X) : ∀ n : Nat, (n : Int) ≤ X 0 0 → tI X m (tj_al X m n) ∧ (tj_al X m n) 0 2 = 0 ∧ (∀ s : Int, 0 ≤ s → s < n → m s = true → (tj_al X m n) 1 s ≠ -1)
  | 0, _ => ⟨tI.zero hG, rfl, fun s a b => by omega⟩
  | n + 1, hn => by
    obtain ⟨h1, h2, h3⟩ := tI.al hG n (by omega)
    by_cases w : m n = true ∧ (tj_al X m n) 1 n = -1
    · have e : tj_al X m (n + 1) = tj_go X m (X 0 6 + X 0 0).toNat (tj_en (tj_al X m n) n) := if_pos w
      rw [e]
      obtain ⟨i1, i2⟩ := h1.in hG h2 (g := n) (by omega) w.2 w.1
      obtain ⟨q1, q2, q3⟩ := tI.go hG (X 0 6 + X 0 0).toNat _ i1 (by omega)
      refine ⟨q1, q2, fun s s0 s1 hs => q3 s ?_⟩
      have e1 := (tj_en.rows (tj_al X m n) n).1
      have c := h1.1.1.1
      rw [e1]
      split
      · omega
      · exact h3 s s0 (by omega) hs
    · have e : tj_al X m (n + 1) = tj_al X m n := if_neg w
      rw [e]
      refine ⟨h1, h2, fun s s0 s1 hs => ?_⟩
      by_cases y : s = n
      · rw [y] at hs ⊢
        exact fun z => w ⟨hs, z⟩
      · exact h3 s s0 (by omega) hs
/-- all is told at the end -/
theorem tI.end (hG : gr X) : tI X m (tj_al X m (X 0 0).toNat) ∧ (∀ s : Int, 0 ≤ s → s < X 0 0 → (m s = true ↔ (tj_al X m (X 0 0).toNat) 6 s ≠ -1)) ∧ (0 ≤ (tj_al X m (X 0 0).toNat) 0 0 ∧ (tj_al X m (X 0 0).toNat) 0 0 ≤ X 0 0) := by
  have n0 := hG.1
  obtain ⟨h1, h2, h3⟩ := tI.al (m := m) hG (X 0 0).toNat (by omega)
  have z := h1.2.1 h2
  obtain ⟨⟨⟨a1, a2, a3, a4, a5⟩, b, c, d, f5, -⟩, -⟩ := id h1
  have nn := nz_le (fun s => (tj_al X m (X 0 0).toNat) 1 s + 1) (X 0 0).toNat
  refine ⟨h1, fun s s0 s1 => ⟨fun hs w => ?_, fun w => ?_⟩, by omega⟩
  · obtain ⟨j, j0, j1, -⟩ := f5 s s0 s1 (h3 s s0 (by omega) hs) w
    omega
  · have bs := b s s0 s1
    exact bs.2.2.2.2 (fun y => w (bs.2.2.1 y).2)
end PWTK

/-! pure layer: the class finds components -/
abbrev t0_L : List (Nat × Int) := [(9, 1), (9, 5), (9, 8), (9, 10), (46, -9), (47, -9), (48, -9), (49, -9), (50, -9), (51, -9)]
def tCl (X T S : xS) : Prop := S 9 1 = T 0 0 ∧ S 9 5 = T 0 1 ∧ S 9 8 = T 0 2 ∧ S 9 10 = T 0 3 ∧ (∀ s : Int, 0 ≤ s → s < X 0 0 → S 46 s = T 6 s ∧ S 47 s = T 1 s + 1 ∧ (T 1 s ≠ -1 → S 48 s = T 2 s + 1 ∧ S 49 s = T 3 s)) ∧ (∀ i : Int, 0 ≤ i → i < T 0 2 → S 50 i = T 4 i) ∧ (∀ j : Int, 0 ≤ j → j < T 0 3 → S 51 j = T 5 j)
theorem xup_sm (S : xS) (q : Nat) (i v s : Int) : xup S q i v q s = if s = i then v else S q s := by
  rw [xup_at]
  by_cases h : s = i
  · rw [if_pos ⟨rfl, h⟩, if_pos h]
  · rw [if_neg (fun w => h w.2), if_neg h]
section PWWC
variable {X T S U : xS} {m : Int → Bool} {g a : Int}
theorem tI.n (h : tI X m T) (hG : gr X) : T 0 1 ≤ X 0 0 ∧ T 0 2 ≤ X 0 0 ∧ T 0 3 ≤ X 0 0 ∧ T 0 0 ≤ X 0 0 ∧ 0 ≤ T 0 0 ∧ 0 ≤ T 0 2 ∧ 0 ≤ T 0 3 ∧ 0 ≤ T 0 1 := by
  obtain ⟨⟨⟨a1, a2, a3, a4, a5⟩, -⟩, -⟩ := h
  have n := nz_le (fun s => T 1 s + 1) (X 0 0).toNat
  have := hG.1
  omega
def en_C (S : xS) (a1 : Int) : xS := xup (xup (xup (xup (xup (xup (xup (xup S 9 5 ((S 9 5) + 1)) 47 a1 ((S 9 5) + 1)) 48 a1 ((S 9 5) + 1)) 49 a1 (S 32 a1)) 50 (S 9 8) a1) 9 8 ((S 9 8) + 1)) 51 (S 9 10) a1) 9 10 ((S 9 10) + 1)
theorem en_C.rows (S : xS) (g : Int) : (∀ s : Int, (en_C S g) 46 s = S 46 s ∧ (en_C S g) 47 s = (if s = g then S 9 5 + 1 else S 47 s) ∧ (en_C S g) 48 s = (if s = g then S 9 5 + 1 else S 48 s) ∧ (en_C S g) 49 s = (if s = g then S 32 g else S 49 s) ∧ (en_C S g) 50 s = (if s = S 9 8 then g else S 50 s) ∧ (en_C S g) 51 s = (if s = S 9 10 then g else S 51 s)) ∧ (en_C S g) 9 1 = S 9 1 ∧ (en_C S g) 9 5 = S 9 5 + 1 ∧ (en_C S g) 9 8 = S 9 8 + 1 ∧ (en_C S g) 9 10 = S 9 10 + 1 := by
  refine ⟨fun s => ⟨by simp [en_C, xup_at], by simp [en_C, xup_at], by simp [en_C, xup_at], by simp [en_C, xup_at], by simp [en_C, xup_at], by simp [en_C, xup_at]⟩, rfl, rfl, rfl, rfl⟩
theorem s0_enter {Q : xS → Prop} (hG : gr X) (hgc : gCl X S) (h : tI X m T) (hT : tCl X T S) (hg : 0 ≤ g ∧ g < X 0 0) (hn : T 1 g = -1) (k : ∀ S' : xS, kp t0_L S S' → tCl X (tj_en T g) S' → Q S') : w_X0_enter g S Q := by
  have nn := h.n hG
  have n0 := hG.1
  obtain ⟨t1, t5, t8, t10, ts, tp, to⟩ := hT
  refine ⟨⟨by omega, by omega⟩, by omega, by omega, ⟨by omega, by omega⟩, by omega, ⟨by omega, by omega⟩, ?_⟩
  have r := en_C.rows S g
  refine k (en_C S g) ((((((((kp.rf.up rfl).up rfl).up rfl).up rfl).up rfl).up rfl).up rfl).up rfl) ?_
  obtain ⟨r, r1, r5, r8, r10⟩ := r
  obtain ⟨e1, e2, e3, e4, e5, e6, e00, e01, e02, e03⟩ := tj_en.rows T g
  refine ⟨by rw [r1, e00, t1], by rw [r5, e01, t5], by rw [r8, e02, t8], by rw [r10, e03, t10], fun s s0 s1 => ?_, fun i i0 i1 => ?_, fun j j0 j1 => ?_⟩
  · obtain ⟨q1, q2, q3, q4, -⟩ := r s
    have b := ts s s0 s1
    rw [q1, q2, q3, q4, e1, e2, e3, e6]
    by_cases hs : s = g
    · rw [if_pos hs, if_pos hs, if_pos hs, if_pos hs, if_pos hs, hs, t5]
      rw [hs] at b
      exact ⟨b.1, rfl, fun _ => ⟨rfl, (hgc.2.2.2.2.1 g hg.1 (by omega)).trans ((h.1.2.1 g hg.1 hg.2).2.2.1 hn).1.symm⟩⟩
    · rw [if_neg hs, if_neg hs, if_neg hs, if_neg hs, if_neg hs]
      exact b
  · rw [(r i).2.2.2.2.1, e4, t8]
    by_cases hi : i = T 0 2
    · rw [if_pos hi, if_pos hi]
    · rw [if_neg hi, if_neg hi]
      exact tp i i0 (by omega)
  · rw [(r j).2.2.2.2.2, e5, t10]
    by_cases hj : j = T 0 3
    · rw [if_pos hj, if_pos hj]
    · rw [if_neg hj, if_neg hj]
      exact to j j0 (by omega)
theorem tCl.p1 {n : Nat} (hT : tCl X T S) (hn : T 0 3 = n + 1) : tCl X (tj_p1 T n) (xup (xup S 46 (S 51 n) (S 9 1)) 9 10 (S 9 10 - 1)) ∧ S 51 n = T 5 n := by
  obtain ⟨t1, t5, t8, t10, ts, tp, to⟩ := hT
  obtain ⟨r1, r2, r3, r4, r5, r6, r7, r8⟩ := tj_p1.rows T n
  have e51 := to n (by omega) (by omega)
  refine ⟨⟨?_, ?_, ?_, ?_, fun s s0 s1 => ?_, fun i i0 i1 => ?_, fun j j0 j1 => ?_⟩, e51⟩
  · rw [r3 0 (by decide), ← t1]; rfl
  · rw [r3 1 (by decide), ← t5]; rfl
  · rw [r3 2 (by decide), ← t8]; rfl
  · rw [r2]
    show S 9 10 - 1 = n
    omega
  · have b := ts s s0 s1
    rw [r1, r4, r5, r6]
    refine ⟨?_, b.2⟩
    show (xup S 46 (S 51 n) (S 9 1)) 46 s = _
    rw [xup_at, e51, t1]
    by_cases hs : s = T 5 n
    · rw [if_pos ⟨rfl, hs⟩, if_pos hs]
    · rw [if_neg (fun w => hs w.2), if_neg hs]
      exact b.1
  · rw [r7]
    exact tp i i0 (by rw [r3 2 (by decide)] at i1; exact i1)
  · rw [r8]
    exact to j j0 (by rw [r2] at j1; omega)
theorem s0_close {Q : xS → Prop} (hG : gr X) (h : tJ X m T) (hT : tCl X T S) {ja : Int} (h0 : 0 ≤ ja) (h1 : ja < T 0 3) (e : T 5 ja = a) (hN : T 0 3 ≤ X 0 0 ∧ 0 ≤ T 0 0 ∧ T 0 0 ≤ X 0 0) (k : ∀ S' : xS, kp t0_L S S' → tCl X (tj_cl T a) S' → Q S') : w_X0_close a S Q := by
  have n0 := hG.1
  have oa := fun j h0 h1 => h.oa (j := j) h0 h1
  have t10 := hT.2.2.2.1
  refine ⟨⟨by omega, by omega⟩, ?_⟩
  refine xL1_dn (fun v S' => ∃ (n : Nat) (T' : xS), v = (n : Int) - 1 ∧ kp t0_L S S' ∧ tCl X T' S' ∧ T' 0 3 = n ∧ (n : Int) ≤ T 0 3 ∧ ja < n ∧ T' 5 = T 5 ∧ T' 0 0 = T 0 0 ∧ tj_pop a n T' = tj_pop a (T 0 3).toNat T) ?_ _ S (by omega) ⟨(T 0 3).toNat, T, by omega, kp.rf, hT, by omega, by omega, by omega, rfl, rfl, rfl⟩
  rintro v S' ⟨n, T', rfl, kk, hT', e3, hle, hja, e5, e00, ep⟩ hv k2 hk2
  refine ⟨fun z => by omega, fun z => ?_⟩
  obtain ⟨n', rfl⟩ : ∃ n' : Nat, n = n' + 1 := ⟨n - 1, by omega⟩
  obtain ⟨p1, p51⟩ := hT'.p1 (n := n') (by omega)
  have t1' : S' 9 1 = T 0 0 := hT'.1.trans e00
  have t10' : S' 9 10 = n' + 1 := by have := hT'.2.2.2.1; omega
  have o := oa n' (by omega) (by omega)
  rw [show ((n' + 1 : Nat) : Int) - 1 = n' by omega] at hk2 ⊢
  have epn : tj_pop a (n' + 1) T' = if T' 5 n' = a then tj_p1 T' n' else tj_pop a n' (tj_p1 T' n') := rfl
  rw [epn] at ep
  obtain ⟨r1, r2, r3, r4, r5, r6, r7, r8⟩ := tj_p1.rows T' n'
  have kk2 : kp t0_L S (xup (xup S' 46 (S' 51 n') (S' 9 1)) 9 10 (S' 9 10 - 1)) := (kk.up rfl).up rfl
  refine ⟨by omega, by rw [p51, e5]; omega, ⟨by omega, by omega⟩, fun y => ?_, fun y => ?_⟩
  · rw [p51] at y
    rw [if_neg y] at ep
    have hj : ja ≠ n' := fun w => y (by rw [e5, ← w, e])
    exact ⟨⟨by omega, by omega⟩, hk2 _ (by omega) ⟨n', tj_p1 T' n', by omega, kk2, p1, r2, by omega, by omega, by rw [r8, e5], by rw [r3 0 (by decide), e00], ep⟩⟩
  · rw [p51] at y
    rw [if_pos y] at ep
    refine ⟨⟨by omega, by omega⟩, k _ (kk2.up rfl) ?_⟩
    have ec : tj_cl T a = xup (tj_p1 T' n') 0 0 (T 0 0 + 1) := by unfold tj_cl; rw [ep]
    rw [ec]
    obtain ⟨b1, b5, b8, b10, bs, bp, bo⟩ := p1
    refine ⟨?_, b5, b8, b10, bs, bp, bo⟩
    show S' 9 1 + 1 = T 0 0 + 1
    rw [t1']
theorem xmin_1 (x y : Int) : xmin (x + 1) (y + 1) = xmin x y + 1 := by unfold xmin; split <;> split <;> omega
theorem tCl.l1 (hT : tCl X T S) (h : tI X m T) (hp : 0 < T 0 2) (ha : a = T 4 (T 0 2 - 1)) : tCl X (tj_l1 T a) (if T 0 2 - 1 ≤ 0 then xup S 9 8 (T 0 2 - 1) else xup (xup S 9 8 (T 0 2 - 1)) 48 (T 4 (T 0 2 - 1 - 1)) (xmin (S 48 (T 4 (T 0 2 - 1 - 1))) (S 48 a))) := by
  obtain ⟨t1, t5, t8, t10, ts, tp, to⟩ := hT
  have pa := h.1.pa (i := T 0 2 - 1) (by omega) (by omega)
  rw [← ha] at pa
  unfold tj_l1
  split
  · exact ⟨t1, t5, rfl, t10, ts, fun i i0 i1 => tp i i0 (by have : i < T 0 2 - 1 := i1; omega), to⟩
  · have pb := h.1.pa (i := T 0 2 - 1 - 1) (by omega) (by omega)
    refine ⟨t1, t5, rfl, t10, fun s s0 s1 => ?_, fun i i0 i1 => tp i i0 (by have : i < T 0 2 - 1 := i1; omega), to⟩
    have b := ts s s0 s1
    refine ⟨b.1, b.2.1, fun w => ⟨?_, (b.2.2 w).2⟩⟩
    have w' : T 1 s ≠ -1 := w
    show (xup (xup S 9 8 (T 0 2 - 1)) 48 (T 4 (T 0 2 - 1 - 1)) (xmin (S 48 (T 4 (T 0 2 - 1 - 1))) (S 48 a))) 48 s = (xup (xup T 0 2 (T 0 2 - 1)) 2 (T 4 (T 0 2 - 1 - 1)) (xmin (T 2 (T 4 (T 0 2 - 1 - 1))) (T 2 a))) 2 s + 1
    rw [xup_sm, xup_sm, ((ts a pa.1.1 pa.1.2).2.2 (by omega)).1, ((ts _ pb.1.1 pb.1.2).2.2 (by omega)).1, xmin_1]
    by_cases hs : s = T 4 (T 0 2 - 1 - 1)
    · rw [if_pos hs, if_pos hs]
    · rw [if_neg hs, if_neg hs]
      exact (b.2.2 w').1
theorem s0_leave {Q : xS → Prop} (hG : gr X) (h : tI X m T) (hT : tCl X T S) (hp : 0 < T 0 2) (ha : a = T 4 (T 0 2 - 1)) (k : ∀ S' : xS, kp t0_L S S' → tCl X (tj_lv T a) S' → Q S') : w_X0_leave a S Q := by
  have nn := h.n hG
  have n0 := hG.1
  have c1 := hT.l1 h hp ha
  have pa := h.1.pa (i := T 0 2 - 1) (by omega) (by omega)
  rw [← ha] at pa
  obtain ⟨ja, j0, j1, je⟩ := h.1.2.2.2.2.2.1 (T 0 2 - 1) (by omega) (by omega)
  rw [← ha] at je
  have hL := h.1.l1 (a := a) hp ⟨ja, j0, j1, je⟩
  obtain ⟨r1, r3, r4, r5, r6, r00, r01, r03, r02, r2, r2'⟩ := tj_l1.rows T a
  have t8 := hT.2.2.1
  have j50 : ∀ S1 : xS, kp t0_L S S1 → tCl X (tj_l1 T a) S1 → w_X0_leave_J50 a Q S1 := by
    intro S1 a1 b1
    unfold tj_lv at k
    have b := b1.2.2.2.2.1 a pa.1.1 pa.1.2
    have b2 := (b.2.2 (by rw [r1]; omega)).1
    have b3 := b.2.1
    rw [r1] at b3
    refine ⟨by omega, fun z => ?_, fun z => ?_⟩
    · rw [if_neg (by omega)] at k
      exact k S1 a1 b1
    · rw [if_pos (by omega)] at k
      exact s0_close hG hL b1 (ja := ja) j0 (by rw [r03]; exact j1) (by rw [r5]; exact je) (by rw [r03, r00]; omega) (fun S2 a2 b2 => k S2 (a1.tr a2) b2)
  refine ⟨⟨by omega, by omega⟩, fun z => ?_, fun z => ?_⟩
  · rw [t8] at z ⊢
    rw [if_pos z] at c1
    exact j50 _ (kp.rf.up rfl) c1
  · rw [t8] at z ⊢
    rw [if_neg z] at c1
    have pb := h.1.pa (i := T 0 2 - 1 - 1) (by omega) (by omega)
    rw [hT.2.2.2.2.2.1 (T 0 2 - 1 - 1) (by omega) (by omega)]
    exact ⟨by omega, by omega, by omega, j50 _ ((kp.rf.up rfl).up rfl) c1⟩
theorem tCl.cur (hT : tCl X T S) (hn : T 1 a ≠ -1) (ha : 0 ≤ a ∧ a < X 0 0) : tCl X (xup T 3 a (T 3 a + 1)) (xup S 49 a (S 49 a + 1)) := by
  obtain ⟨t1, t5, t8, t10, ts, tp, to⟩ := hT
  refine ⟨t1, t5, t8, t10, fun s s0 s1 => ?_, tp, to⟩
  have b := ts s s0 s1
  refine ⟨b.1, b.2.1, fun w => ⟨(b.2.2 w).1, ?_⟩⟩
  rw [xup_at, xup_at, ((ts a ha.1 ha.2).2.2 hn).2]
  by_cases hs : s = a
  · rw [if_pos ⟨rfl, hs⟩, if_pos ⟨rfl, hs⟩]
  · rw [if_neg (fun y => hs y.2), if_neg (fun y => hs y.2)]
    exact (b.2.2 w).2
theorem s0_step {Q : xS → Prop} {S2 : xS} {k24 : Int → xS → Prop} {v : Int} (hG : gr X) (hgc : gCl X S) (hM : mq 23 m X S) (h : tI X m T) (hT : tCl X T S) (hp : 0 < T 0 2) (h5 : S2 5 3 = X 0 6 ∧ S2 5 0 = X 0 0) (hv : 0 ≤ v ∧ v < X 0 6 + X 0 0) (k : ∀ S' : xS, kp t0_L S S' → tCl X (tj_st X m T) S' → k24 (v + 1) S') : w_X0_walkFrom_L24 Q S2 k24 v S := by
  have nn := h.n hG
  have n0 := hG.1
  have g6 := hG.2.2.2.2.1
  have t8 := hT.2.2.1
  have pa := h.1.pa (i := T 0 2 - 1) (by omega) (by omega)
  have e50 := hT.2.2.2.2.2.1 (T 0 2 - 1) (by omega) (by omega)
  unfold w_X0_walkFrom_L24
  rw [h5.1, h5.2, t8, e50]
  refine ⟨⟨by omega, by omega⟩, fun z => by omega, fun _ => ⟨fun z => by omega, fun _ => ⟨by omega, by omega, by omega, ?_⟩⟩⟩
  have b := hT.2.2.2.2.1 _ pa.1.1 pa.1.2
  have b49 := (b.2.2 (by omega)).2
  have e32 := hgc.2.2.2.2.1 (T 4 (T 0 2 - 1) + 1) (by omega) (by omega)
  rw [b49, e32]
  unfold tj_st at k
  refine ⟨fun z => ?_, fun z => ?_⟩
  · rw [if_neg (by omega)] at k
    exact s0_leave hG h hT hp rfl (fun S1 a1 b1 => ⟨⟨by omega, by omega⟩, k S1 a1 b1⟩)
  · rw [if_pos (by omega)] at k
    have cu := h.1.2.1 _ pa.1.1 pa.1.2
    have gt := hG.t pa.1.1 pa.1.2 cu.2.1.1 (show T 3 (T 4 (T 0 2 - 1)) < X 5 (T 4 (T 0 2 - 1) + 1) by omega)
    have e33 := hgc.2.2.2.1 (T 3 (T 4 (T 0 2 - 1))) gt.1.1 gt.1.2
    have hcap := hgc.2.2.1
    refine ⟨by omega, ?_⟩
    rw [e33]
    have hcur := h.cur pa.1 (by omega) (show T 3 (T 4 (T 0 2 - 1)) < X 5 (T 4 (T 0 2 - 1) + 1) by omega)
    have tcur := hT.cur (a := T 4 (T 0 2 - 1)) (by omega) pa.1
    unfold tj_lk at k
    generalize T 4 (T 0 2 - 1) = a at *
    generalize hgg : X 6 (T 3 a) / 8 = g at *
    have mg := hM g gt.2.2.1 gt.2.2.2
    have bg := tcur.2.2.2.2.1 g gt.2.2.1 gt.2.2.2
    have goal : (xR (S 49 a + 1)) ∧ (0 ≤ g ∧ g < 2000) ∧ ((¬ S 23 g = 1 → (xR (v + 1)) ∧ k24 (v + 1) (xup S 49 a (S 49 a + 1))) ∧ (S 23 g = 1 → w_X0_lookAt g a (xup S 49 a (S 49 a + 1)) (fun S116 => (xR (v + 1)) ∧ k24 (v + 1) S116))) := by
      refine ⟨⟨by omega, by omega⟩, by omega, fun y => ?_, fun y => ?_⟩
      · have hm : m g = false := by
          rcases Bool.eq_false_or_eq_true (m g) with w | w
          · exact absurd (mg.1 w) y
          · exact w
        rw [if_neg (by rw [hm]; decide)] at k
        exact ⟨⟨by omega, by omega⟩, k _ (kp.rf.up rfl) tcur⟩
      · have hm : m g = true := by
          rcases Bool.eq_false_or_eq_true (m g) with w | w
          · exact w
          · have := mg.2 w
            omega
        rw [if_pos hm] at k
        have e47 : (xup S 49 a (S 49 a + 1)) 47 g = T 1 g + 1 := bg.2.1
        have e46 : (xup S 49 a (S 49 a + 1)) 46 g = T 6 g := bg.1
        unfold w_X0_lookAt
        rw [e47, e46]
        refine ⟨by omega, fun w => ?_, fun w => ?_⟩
        · rw [if_neg (by omega)] at k
          refine ⟨fun x => ?_, fun x => ⟨by omega, ⟨by omega, by omega⟩, ?_⟩⟩
          · rw [if_neg x] at k
            exact k _ (kp.rf.up rfl) tcur |> fun q => ⟨⟨by omega, by omega⟩, q⟩
          · rw [if_pos x] at k
            refine k _ ((kp.rf.up rfl).up rfl) ?_
            obtain ⟨t1, t5, t8', t10, ts, tp, to⟩ := tcur
            refine ⟨t1, t5, t8', t10, fun s s0 s1 => ?_, tp, to⟩
            have bs := ts s s0 s1
            refine ⟨bs.1, bs.2.1, fun y => ⟨?_, (bs.2.2 y).2⟩⟩
            have ba := ((ts a pa.1.1 pa.1.2).2.2 (show T 1 a ≠ -1 by omega)).1
            have ba' : S 48 a = T 2 a + 1 := ba
            rw [xup_sm, xup_sm]
            by_cases hs : s = a
            · rw [if_pos hs, if_pos hs]
              show xmin (S 48 a) (T 1 g + 1) = xmin (T 2 a) (T 1 g) + 1
              rw [ba', xmin_1]
            · rw [if_neg hs, if_neg hs]
              exact (bs.2.2 y).1
        · rw [if_pos (by omega)] at k
          exact s0_enter hG (hgc.kp ((kp.rf (L := [(49, -9)])).up rfl) rfl) hcur tcur gt.2.2 (by show T 1 g = -1; omega) (fun S1 a1 b1 => ⟨⟨by omega, by omega⟩, k S1 (((kp.rf.up rfl)).tr a1) b1⟩)
    unfold w_X2_targetOf
    rw [hgg]
    exact goal
theorem tj_go.done {n : Nat} (h : T 0 2 ≤ 0) : tj_go X m n T = T := by
  cases n with
  | zero => rfl
  | succ n => exact if_pos h
theorem s0_walk {Q : xS → Prop} (hG : gr X) (hgc : gCl X S) (hM : mq 23 m X S) (h : tI X m T) (hT : tCl X T S) (h2 : T 0 2 = 0) (hg : 0 ≤ g ∧ g < X 0 0) (hn : T 1 g = -1) (hm : m g = true) (k : ∀ S' : xS, kp t0_L S S' → tCl X (tj_go X m (X 0 6 + X 0 0).toNat (tj_en T g)) S' → Q S') : w_X0_walkFrom g S Q := by
  refine s0_enter hG hgc h hT hg hn (fun S1 a1 b1 => ?_)
  obtain ⟨i1, i2⟩ := h.in hG h2 hg hn hm
  have g6 := hG.2.2.2.1
  have g7 := hG.2.2.2.2.1
  have gb := hG.b (s := X 0 0) (by have := hG.1; omega) (Int.le_refl _)
  have n0 := hG.1
  have hgc1 := hgc.kp a1 rfl
  refine xL1_up (X 0 6 + X 0 0) (fun v S' => 0 ≤ v ∧ kp t0_L S S' ∧ ∃ (T' : xS) (n : Nat), tI X m T' ∧ tCl X T' S' ∧ v + tj_F X T' ≤ X 0 6 + X 0 0 ∧ tj_F X T' ≤ n ∧ tj_go X m n T' = tj_go X m (X 0 6 + X 0 0).toNat (tj_en T g)) ?_ 0 S1 (by omega) ⟨by omega, a1, tj_en T g, (X 0 6 + X 0 0).toNat, i1, b1, by omega, by omega, rfl⟩
  rintro v S2 ⟨hv0, a2, T', n, iT, bT, hF, hn', eT⟩ hv k2 hk2
  have hFp := iT.F hG
  have t8 := bT.2.2.1
  have nn := iT.n hG
  by_cases hp : T' 0 2 ≤ 0
  · rw [tj_go.done hp] at eT
    rw [← eT] at k
    unfold w_X0_walkFrom_L24
    rw [hgc1.1, hgc1.2.1, t8]
    exact ⟨⟨by omega, by omega⟩, fun _ => k S2 a2 bT, fun _ => ⟨fun _ => k S2 a2 bT, fun z => absurd hp z⟩⟩
  · obtain ⟨n', rfl⟩ : ∃ n' : Nat, n = n' + 1 := ⟨n - 1, by omega⟩
    obtain ⟨s1, s2, -⟩ := iT.st hG (by omega)
    have en : tj_go X m (n' + 1) T' = tj_go X m n' (tj_st X m T') := if_neg hp
    rw [en] at eT
    refine s0_step hG (hgc.kp a2 rfl) (hM.kp a2 (fun _ => rfl)) iT bT (by omega) ⟨hgc1.2.1, hgc1.1⟩ ⟨hv0, by omega⟩ (fun S3 a3 b3 => hk2 S3 (by omega) ⟨by omega, a2.tr a3, tj_st X m T', n', s1, b3, by omega, by omega, eT⟩)
theorem s0_split {Q : xS → Prop} (hG : gr X) (hgc : gCl X S) (hM : mq 23 m X S) (k : ∀ S' : xS, kp t0_L S S' → tCl X (tj_al X m (X 0 0).toNat) S' → Q S') : w_X0_split S Q := by
  have n0 := hG.1
  have kk : kp t0_L S (xfill (xfill (xup (xup (xup (xup S 9 1 0) 9 5 0) 9 8 0) 9 10 0) 47 2000 0) 46 2000 (-1)) := ((((((kp.rf.up rfl).up rfl).up rfl).up rfl).fill (fun _ => rfl)).fill (fun _ => rfl))
  refine xL1_up (X 0 0) (fun v S' => 0 ≤ v ∧ kp t0_L S S' ∧ tCl X (tj_al X m v.toNat) S') ?_ 0 _ (by omega) ⟨by omega, kk, rfl, rfl, rfl, rfl, fun s s0 s1 => ⟨?_, ?_, fun w => absurd rfl w⟩, fun i i0 i1 => ?_, fun i i0 i1 => ?_⟩
  · rintro v S1 ⟨hv0, a1, b1⟩ hv k2 hk2
    have hgc1 := hgc.kp a1 rfl
    have hM1 := hM.kp a1 (fun _ => rfl)
    unfold w_X0_split_L38
    rw [hgc1.1]
    refine ⟨fun z => ?_, fun z => ⟨by omega, ?_⟩⟩
    · rw [show v = X 0 0 by omega] at b1
      exact k S1 a1 b1
    · obtain ⟨i1, i2, i3⟩ := tI.al (m := m) hG v.toNat (by omega)
      have ev : (v.toNat : Int) = v := by omega
      have e1 : (v + 1).toNat = v.toNat + 1 := by omega
      have al : tj_al X m (v.toNat + 1) = if m v = true ∧ (tj_al X m v.toNat) 1 v = -1 then tj_go X m (X 0 6 + X 0 0).toNat (tj_en (tj_al X m v.toNat) v) else tj_al X m v.toNat := by
        show (if m (v.toNat : Int) = true ∧ (tj_al X m v.toNat) 1 (v.toNat : Int) = -1 then tj_go X m (X 0 6 + X 0 0).toNat (tj_en (tj_al X m v.toNat) (v.toNat : Int)) else tj_al X m v.toNat) = _
        rw [ev]
      have mv := hM1 v hv0 (by omega)
      have bv := b1.2.2.2.2.1 v hv0 (by omega)
      have skip : ¬ (m v = true ∧ (tj_al X m v.toNat) 1 v = -1) → xR (v + 1) ∧ k2 (v + 1) S1 := fun w => by
        rw [if_neg w] at al
        exact ⟨⟨by omega, by omega⟩, hk2 S1 (by omega) ⟨by omega, a1, by rw [e1, al]; exact b1⟩⟩
      refine ⟨fun y => skip (fun w => y (mv.1 w.1)), fun y => ⟨fun x => skip (fun w => x (by omega)), fun x => ?_⟩⟩
      have hm : m v = true := by
        rcases Bool.eq_false_or_eq_true (m v) with w | w
        · exact w
        · have := mv.2 w
          omega
      rw [if_pos ⟨hm, by omega⟩] at al
      exact s0_walk hG hgc1 hM1 i1 b1 i2 ⟨hv0, by omega⟩ (by omega) hm (fun S2 a2 b2 => ⟨⟨by omega, by omega⟩, hk2 S2 (by omega) ⟨by omega, a1.tr a2, by rw [e1, al]; exact b2⟩⟩)
  · rw [xfill_at, if_pos ⟨rfl, s0, by omega⟩]
    rfl
  · rw [xfill_at, if_neg (fun w => by omega), xfill_at, if_pos ⟨rfl, s0, by omega⟩]
    rfl
  · have : i < 0 := i1
    omega
  · have : i < 0 := i1
    omega
end PWWC

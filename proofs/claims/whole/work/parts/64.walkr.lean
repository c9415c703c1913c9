/-! pure layer: the reference finds components -/
theorem xL1_ex {b : (Int → xS → Prop) → Int → xS → Prop} (I : Nat → Int → xS → Prop) (h : ∀ (n : Nat) (v : Int) (S : xS), I n v S → ∀ k : Int → xS → Prop, (∀ (n' : Nat) (v' : Int) (S' : xS), n' < n → I n' v' S' → k v' S') → b k v S) (n : Nat) (x : Int) (S : xS) (h0 : I n x S) : xL1 b x S := by
  refine ⟨n + 1, ?_⟩
  have key : ∀ (N n : Nat) (v : Int) (S : xS), n < N → I n v S → xLn1 b N v S := by
    intro N
    induction N with
    | zero => intro n v S hm; exact absurd hm (Nat.not_lt_zero _)
    | succ N ih => intro n v S hm hI; exact h n v S hI (xLn1 b N) (fun n' v' S' hm' hI' => ih n' v' S' (by omega) hI')
  exact key _ n x S (Nat.lt_succ_self _) h0
abbrev t9_L : List (Nat × Int) := [(54, 58), (54, 59), (54, 60), (87, -9), (88, -9), (89, -9), (90, -9), (91, -9), (92, -9), (96, -9)]
def tRs (X T S : xS) (s : Int) : Prop := S 87 s = T 1 s ∧ (T 1 s ≠ -1 → S 88 s = T 2 s ∧ S 92 s = T 3 s) ∧ (S 96 s = 0 ↔ (T 1 s = -1 ∨ T 6 s ≠ -1)) ∧ (T 6 s ≠ -1 → S 89 s = T 6 s)
def tRf (X T S : xS) : Prop := S 54 58 = T 0 0 ∧ S 54 59 = T 0 3 ∧ S 54 60 = T 0 1 ∧ (∀ s : Int, 0 ≤ s → s < X 0 0 → tRs X T S s) ∧ (∀ i : Int, 0 ≤ i → i < T 0 2 → S 91 i = T 4 i) ∧ (∀ j : Int, 0 ≤ j → j < T 0 3 → S 90 j = T 5 j)
section PWWR
variable {X T S U : xS} {m : Int → Bool} {g a : Int}
def en_R (S : xS) (a1 : Int) : xS := xup (xup (xup (xup (xup (xup (xup S 87 a1 (S 54 60)) 88 a1 (S 54 60)) 54 60 ((S 54 60) + 1)) 90 (S 54 59) a1) 54 59 ((S 54 59) + 1)) 96 a1 1) 92 a1 (S 73 a1)
theorem en_R.rows (S : xS) (g : Int) : (∀ s : Int, (en_R S g) 87 s = (if s = g then S 54 60 else S 87 s) ∧ (en_R S g) 88 s = (if s = g then S 54 60 else S 88 s) ∧ (en_R S g) 89 s = S 89 s ∧ (en_R S g) 90 s = (if s = S 54 59 then g else S 90 s) ∧ (en_R S g) 91 s = S 91 s ∧ (en_R S g) 92 s = (if s = g then S 73 g else S 92 s) ∧ (en_R S g) 96 s = (if s = g then 1 else S 96 s)) ∧ (en_R S g) 54 58 = S 54 58 ∧ (en_R S g) 54 59 = S 54 59 + 1 ∧ (en_R S g) 54 60 = S 54 60 + 1 := by
  refine ⟨fun s => ⟨by simp [en_R, xup_at], by simp [en_R, xup_at], by simp [en_R, xup_at], by simp [en_R, xup_at], by simp [en_R, xup_at], by simp [en_R, xup_at], by simp [en_R, xup_at]⟩, rfl, rfl, rfl⟩
theorem s9_enters {Q : xS → Prop} (hG : gr X) (hgr : gRf X S) (h : tI X m T) (hT : tRf X T S) (hg : 0 ≤ g ∧ g < X 0 0) (hn : T 1 g = -1) (h91 : S 91 (T 0 2) = g) (k : ∀ S' : xS, kp t9_L S S' → tRf X (tj_en T g) S' → Q S') : w_X9_enters g S Q := by
  have nn := h.n hG
  have n0 := hG.1
  obtain ⟨t58, t59, t60, ts, tp, to⟩ := hT
  refine ⟨by omega, ⟨by omega, by omega⟩, by omega, ⟨by omega, by omega⟩, ?_⟩
  obtain ⟨r, r58, r59, r60⟩ := en_R.rows S g
  refine k (en_R S g) (((((((kp.rf.up rfl).up rfl).up rfl).up rfl).up rfl).up rfl).up rfl) ?_
  obtain ⟨e1, e2, e3, e4, e5, e6, e00, e01, e02, e03⟩ := tj_en.rows T g
  refine ⟨by rw [r58, e00, t58], by rw [r59, e03, t59], by rw [r60, e01, t60], fun s s0 s1 => ?_, fun i i0 i1 => ?_, fun j j0 j1 => ?_⟩
  · obtain ⟨q7, q8, q9, -, -, q2, q6⟩ := r s
    have b := ts s s0 s1
    unfold tRs at b ⊢
    rw [q7, q8, q9, q2, q6, e1, e2, e3, e6]
    by_cases hs : s = g
    · rw [if_pos hs, if_pos hs, if_pos hs, if_pos hs, if_pos hs, if_pos hs, hs, t60]
      rw [hs] at b
      have z := (h.1.2.1 g hg.1 hg.2).2.2.1 hn
      exact ⟨rfl, fun _ => ⟨rfl, (hgr.2.1 g hg.1 (by omega)).trans z.1.symm⟩, ⟨fun w => by omega, fun w => by omega⟩, fun w => absurd z.2 w⟩
    · rw [if_neg hs, if_neg hs, if_neg hs, if_neg hs, if_neg hs, if_neg hs]
      exact b
  · rw [(r i).2.2.2.2.1, e4]
    by_cases hi : i = T 0 2
    · rw [if_pos hi, hi]
      exact h91
    · rw [if_neg hi]
      exact tp i i0 (by omega)
  · rw [(r j).2.2.2.1, e5, t59]
    by_cases hj : j = T 0 3
    · rw [if_pos hj, if_pos hj]
    · rw [if_neg hj, if_neg hj]
      exact to j j0 (by omega)
theorem tRf.p1 {n : Nat} (hT : tRf X T S) (hn : T 0 3 = n + 1) (h0 : 0 ≤ T 0 0) : tRf X (tj_p1 T n) (xup (xup (xup S 54 59 (S 54 59 - 1)) 96 (S 90 n) 0) 89 (S 90 n) (S 54 58)) ∧ S 90 n = T 5 n := by
  obtain ⟨t58, t59, t60, ts, tp, to⟩ := hT
  obtain ⟨r1, r2, r3, r4, r5, r6, r7, r8⟩ := tj_p1.rows T n
  have e90 := to n (by omega) (by omega)
  refine ⟨⟨?_, ?_, ?_, fun s s0 s1 => ?_, fun i i0 i1 => ?_, fun j j0 j1 => ?_⟩, e90⟩
  · rw [r3 0 (by decide), ← t58]; rfl
  · rw [r2]
    show S 54 59 - 1 = n
    omega
  · rw [r3 1 (by decide), ← t60]; rfl
  · have b := ts s s0 s1
    unfold tRs at b ⊢
    rw [r1, r4, r5, r6]
    have q96 : (xup (xup (xup S 54 59 (S 54 59 - 1)) 96 (S 90 n) 0) 89 (S 90 n) (S 54 58)) 96 s = if s = T 5 n then 0 else S 96 s := by rw [← e90]; simp [xup_at]
    have q89 : (xup (xup (xup S 54 59 (S 54 59 - 1)) 96 (S 90 n) 0) 89 (S 90 n) (S 54 58)) 89 s = if s = T 5 n then T 0 0 else S 89 s := by rw [← e90, ← t58]; simp [xup_at]
    rw [q96, q89]
    refine ⟨b.1, b.2.1, ?_⟩
    by_cases hs : s = T 5 n
    · rw [if_pos hs, if_pos hs, if_pos hs]
      exact ⟨⟨fun _ => Or.inr (by omega), fun _ => rfl⟩, fun _ => rfl⟩
    · rw [if_neg hs, if_neg hs, if_neg hs]
      exact b.2.2
  · rw [r7]
    exact tp i i0 (by rw [r3 2 (by decide)] at i1; exact i1)
  · rw [r8]
    exact to j j0 (by rw [r2] at j1; omega)
theorem s9_closes {Q : xS → Prop} (hG : gr X) (h : tJ X m T) (hT : tRf X T S) {ja : Int} (h0 : 0 ≤ ja) (h1 : ja < T 0 3) (e : T 5 ja = a) (hN : T 0 3 ≤ X 0 0 ∧ 0 ≤ T 0 0 ∧ T 0 0 ≤ X 0 0) (h2 : T 1 a ≠ -1) (k : ∀ S' : xS, kp t9_L S S' → tRf X (if T 2 a = T 1 a then tj_cl T a else T) S' → Q S') : w_X9_closes a S Q := by
  have n0 := hG.1
  have oa := fun j h0 h1 => h.oa (j := j) h0 h1
  have o := oa ja h0 h1
  rw [e] at o
  have b := hT.2.2.2.1 a o.1.1 o.1.2
  unfold w_X9_closes
  rw [(b.2.1 h2).1, b.1]
  refine ⟨by omega, fun z => ?_, fun z => ?_⟩
  · rw [if_pos z] at k
    refine xL1_ex (fun n v S' => ∃ T' : xS, kp t9_L S S' ∧ tRf X T' S' ∧ T' 0 3 = n ∧ (n : Int) ≤ T 0 3 ∧ T' 5 = T 5 ∧ T' 0 0 = T 0 0 ∧ ((v = a ∧ T' = tj_pop a (T 0 3).toNat T) ∨ (v ≠ a ∧ ja < n ∧ tj_pop a n T' = tj_pop a (T 0 3).toNat T))) ?_ (T 0 3).toNat (-1) S ⟨T, kp.rf, hT, by omega, by omega, rfl, rfl, Or.inr ⟨by omega, by omega, rfl⟩⟩
    rintro n v S' ⟨T', kk, hT', e3, hle, e5, e00, hor⟩ k2 hk2
    have t58' : S' 54 58 = T 0 0 := hT'.1.trans e00
    have t59' : S' 54 59 = n := hT'.2.1.trans e3
    refine ⟨fun y => ⟨⟨by omega, by omega⟩, k _ (kk.up rfl) ?_⟩, fun y => ?_⟩
    · rcases hor with ⟨-, w⟩ | ⟨w, -⟩
      · have ec : tj_cl T a = xup T' 0 0 (T 0 0 + 1) := by unfold tj_cl; rw [← w]
        rw [ec]
        obtain ⟨b58, b59, b60, bs, bp, bo⟩ := hT'
        refine ⟨?_, b59, b60, bs, bp, bo⟩
        show S' 54 58 + 1 = T 0 0 + 1
        rw [t58']
      · exact absurd y w
    · rcases hor with ⟨w, -⟩ | ⟨-, hja, ep⟩
      · exact absurd w y
      · obtain ⟨n', rfl⟩ : ∃ n' : Nat, n = n' + 1 := ⟨n - 1, by omega⟩
        obtain ⟨p1, p90⟩ := hT'.p1 (n := n') (by omega) (by omega)
        obtain ⟨r1, r2, r3, r4, r5, r6, r7, r8⟩ := tj_p1.rows T' n'
        have on := oa n' (by omega) (by omega)
        have en' : S' 54 59 - 1 = n' := by omega
        rw [en'] at p1 ⊢
        have epn : tj_pop a (n' + 1) T' = if T' 5 n' = a then tj_p1 T' n' else tj_pop a n' (tj_p1 T' n') := rfl
        rw [epn] at ep
        refine ⟨⟨by omega, by omega⟩, by omega, by rw [p90, e5]; omega, hk2 n' _ _ (by omega) ⟨tj_p1 T' n', ((kk.up rfl).up rfl).up rfl, p1, r2, by omega, by rw [r8, e5], by rw [r3 0 (by decide), e00], ?_⟩⟩
        rw [p90]
        by_cases y5 : T' 5 n' = a
        · rw [if_pos y5] at ep
          exact Or.inl ⟨y5, ep⟩
        · rw [if_neg y5] at ep
          have hj : ja ≠ n' := fun w => y5 (by rw [e5, ← w, e])
          exact Or.inr ⟨y5, by omega, ep⟩
  · rw [if_neg z] at k
    exact k S kp.rf hT
theorem s9_lesser {Q : Int → xS → Prop} {x y : Int} (k : Q (xmin x y) S) : w_X9_lesser x y S Q := by
  unfold xmin at k
  refine ⟨fun z => ?_, fun z => ?_⟩
  · by_cases w : y < x
    · rw [if_pos w] at k; exact k
    · rw [if_neg w] at k
      rw [show y = x by omega]; exact k
  · rw [if_neg (by omega)] at k; exact k
/-- leaving, in the reference's order -/
theorem tj_lv.rf (h : tI X m T) (hp : 0 < T 0 2) (ha : a = T 4 (T 0 2 - 1)) (hT : tRf X (if T 2 a = T 1 a then tj_cl T a else T) S) : tRf X (tj_lv T a) (if T 0 2 - 1 ≤ 0 then S else xup S 88 (T 4 (T 0 2 - 1 - 1)) (xmin (T 2 (T 4 (T 0 2 - 1 - 1))) (T 2 a))) := by
  obtain ⟨ja, j0, j1, je⟩ := h.1.2.2.2.2.2.1 (T 0 2 - 1) (by omega) (by omega)
  rw [← ha] at je
  have hL := h.1.l1 (a := a) hp ⟨ja, j0, j1, je⟩
  obtain ⟨r1, r3, r4, r5, r6, r00, r01, r03, r02, r2, r2'⟩ := tj_l1.rows T a
  have e2 : (tj_l1 T a) 2 a = T 2 a := by
    by_cases w : T 0 2 - 1 ≤ 0
    · rw [r2 w]
    · rw [r2' (by omega)]
      split
      · rename_i y
        rw [← y]
        unfold xmin
        split <;> rfl
      · rfl
  have q2 : ∀ V : xS, (∀ s : Int, 0 ≤ s → s < X 0 0 → V 1 s = T 1 s) → V 2 = (tj_l1 T a) 2 → ∀ s : Int, 0 ≤ s → s < X 0 0 → (S 88 s = T 2 s) → (if T 0 2 - 1 ≤ 0 then S else xup S 88 (T 4 (T 0 2 - 1 - 1)) (xmin (T 2 (T 4 (T 0 2 - 1 - 1))) (T 2 a))) 88 s = V 2 s := by
    intro V _ e s s0 s1 e88
    rw [e]
    by_cases w : T 0 2 - 1 ≤ 0
    · rw [if_pos w, r2 w]; exact e88
    · rw [if_neg w, r2' (by omega), xup_sm]
      split
      · rfl
      · exact e88
  have other : ∀ (q : Nat) (s : Int), q ≠ 88 → (if T 0 2 - 1 ≤ 0 then S else xup S 88 (T 4 (T 0 2 - 1 - 1)) (xmin (T 2 (T 4 (T 0 2 - 1 - 1))) (T 2 a))) q s = S q s := by
    intro q s hq
    split
    · rfl
    · rw [xup_cell hq]
  generalize (if T 0 2 - 1 ≤ 0 then S else xup S 88 (T 4 (T 0 2 - 1 - 1)) (xmin (T 2 (T 4 (T 0 2 - 1 - 1))) (T 2 a))) = S' at *
  have ot := fun q s (hq : q ≠ 88) => other q s hq
  unfold tj_lv
  rw [e2]
  by_cases hc : T 2 a = T 1 a
  · rw [if_pos hc] at hT ⊢
    obtain ⟨u00, u01, u02, u03, u1, u2, u3, u4, u5, u6, u7⟩ := tj_cl.sp h.1 j0 j1 je
    obtain ⟨v00, v01, v02, v03, v1, v2, v3, v4, v5, v6, v7⟩ := tj_cl.sp hL (a := a) (ja := ja) j0 (by rw [r03]; exact j1) (by rw [r5]; exact je)
    rw [r5, r03, r00] at v6
    rw [r5, r03, r6] at v7
    have ev6 : ∀ s : Int, (tj_cl (tj_l1 T a) a) 6 s = (tj_cl T a) 6 s := fun s => by
      by_cases y : ∃ j : Int, ja ≤ j ∧ j < T 0 3 ∧ T 5 j = s
      · obtain ⟨j, y0, y1, y2⟩ := y
        rw [← y2, v6 j y0 y1, u6 j y0 y1]
      · rw [v7 s (fun j y0 y1 y2 => y ⟨j, y0, y1, y2⟩), u7 s (fun j y0 y1 y2 => y ⟨j, y0, y1, y2⟩)]
    obtain ⟨t58, t59, t60, ts, tp, to⟩ := hT
    refine ⟨?_, ?_, ?_, fun s s0 s1 => ?_, fun i i0 i1 => ?_, fun j y0 y1 => ?_⟩
    · rw [ot _ _ (by decide), t58, u00, v00, r00]
    · rw [ot _ _ (by decide), t59, u03, v03]
    · rw [ot _ _ (by decide), t60, u01, v01, r01]
    · have b := ts s s0 s1
      unfold tRs at b ⊢
      rw [ot 87 s (by decide), ot 92 s (by decide), ot 96 s (by decide), ot 89 s (by decide), ev6, v1, r1, v3, r3]
      rw [u1, u2, u3] at b
      refine ⟨b.1, fun w => ⟨?_, (b.2.1 w).2⟩, b.2.2⟩
      exact q2 _ (fun s _ _ => by rw [v1, r1]) v2 s s0 s1 (b.2.1 w).1
    · rw [ot _ _ (by decide), v4, r4, tp i i0 (by rw [u02]; rw [v02, r02] at i1; omega), u4]
    · rw [ot _ _ (by decide), v5, r5, to j y0 (by rw [u03]; rw [v03] at y1; exact y1), u5]
  · rw [if_neg hc] at hT ⊢
    obtain ⟨t58, t59, t60, ts, tp, to⟩ := hT
    refine ⟨?_, ?_, ?_, fun s s0 s1 => ?_, fun i i0 i1 => ?_, fun j y0 y1 => ?_⟩
    · rw [ot _ _ (by decide), t58, r00]
    · rw [ot _ _ (by decide), t59, r03]
    · rw [ot _ _ (by decide), t60, r01]
    · have b := ts s s0 s1
      unfold tRs at b ⊢
      rw [ot 87 s (by decide), ot 92 s (by decide), ot 96 s (by decide), ot 89 s (by decide), r1, r3, r6]
      exact ⟨b.1, fun w => ⟨q2 _ (fun s _ _ => by rw [r1]) rfl s s0 s1 (b.2.1 w).1, (b.2.1 w).2⟩, b.2.2⟩
    · rw [ot _ _ (by decide), r4, tp i i0 (by rw [r02] at i1; omega)]
    · rw [ot _ _ (by decide), r5, to j y0 (by rw [r03] at y1; exact y1)]
theorem tRf.cur (hT : tRf X T S) (hn : T 1 a ≠ -1) (ha : 0 ≤ a ∧ a < X 0 0) : tRf X (xup T 3 a (T 3 a + 1)) (xup S 92 a (S 92 a + 1)) := by
  obtain ⟨t58, t59, t60, ts, tp, to⟩ := hT
  refine ⟨t58, t59, t60, fun s s0 s1 => ?_, tp, to⟩
  have b := ts s s0 s1
  refine ⟨b.1, fun w => ⟨(b.2.1 w).1, ?_⟩, b.2.2⟩
  rw [xup_sm, xup_sm, ((ts a ha.1 ha.2).2.1 hn).2]
  by_cases hs : s = a
  · rw [if_pos hs, if_pos hs]
  · rw [if_neg hs, if_neg hs]
    exact (b.2.1 w).2
end PWWR

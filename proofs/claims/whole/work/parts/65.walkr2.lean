/-! pure layer: the reference's whole walk -/
section PWWQ
variable {X T S U : xS} {m : Int → Bool} {g a : Int}
theorem s9_goal {Q : Int → xS → Prop} {e : Int} (hG : gr X) (hgr : gRf X S) (he : 0 ≤ e ∧ e < X 0 6) (k : Q (X 6 e / 8) S) : w_X9_goal e S Q := by
  have g7 := hG.2.2.2.2.1
  have g8 := hG.2.2.2.2.2 e he.1 he.2
  unfold w_X9_goal
  rw [hgr.2.2 e he.1 he.2]
  exact ⟨by omega, by omega, k⟩
theorem s9_step {Q : xS → Prop} {k14 : Int → xS → Prop} (hG : gr X) (hgr : gRf X S) (hM : mq 95 m X S) (h : tI X m T) (hT : tRf X T S) (hp : 0 < T 0 2) (k : ∀ S' : xS, kp t9_L S S' → tRf X (tj_st X m T) S' → k14 ((tj_st X m T) 0 2) S') : w_X9_walks_L14 Q k14 (T 0 2) S := by
  have nn := h.n hG
  have n0 := hG.1
  have pa := h.1.pa (i := T 0 2 - 1) (by omega) (by omega)
  have e91 := hT.2.2.2.2.1 (T 0 2 - 1) (by omega) (by omega)
  unfold w_X9_walks_L14
  rw [e91]
  refine ⟨fun z => by omega, fun _ => ⟨by omega, by omega, by omega, ?_⟩⟩
  have b := hT.2.2.2.1 _ pa.1.1 pa.1.2
  have b92 := (b.2.1 (by omega)).2
  have e73 := hgr.2.1 (T 4 (T 0 2 - 1) + 1) (by omega) (by omega)
  have cu := h.1.2.1 _ pa.1.1 pa.1.2
  obtain ⟨l1, l2, l3, l4, l5⟩ := h.lv hp
  unfold tj_st at k
  have hJa := h.1.2.2.2.2.2.1 (T 0 2 - 1) (by omega) (by omega)
  refine ⟨fun z => ?_, fun z => ?_⟩
  · rw [b92, e73] at z
    rw [if_pos (by omega)] at k
    have gt := hG.t pa.1.1 pa.1.2 cu.2.1.1 (show T 3 (T 4 (T 0 2 - 1)) < X 5 (T 4 (T 0 2 - 1) + 1) by omega)
    have hcur := h.cur pa.1 (by omega) (show T 3 (T 4 (T 0 2 - 1)) < X 5 (T 4 (T 0 2 - 1) + 1) by omega)
    have tcur := hT.cur (a := T 4 (T 0 2 - 1)) (by omega) pa.1
    have b92' := b92
    rw [b92]
    refine s9_goal hG hgr gt.1 ?_
    rw [b92] at tcur ⊢
    unfold tj_lk at k
    generalize T 4 (T 0 2 - 1) = a at *
    generalize hgg : X 6 (T 3 a) / 8 = g at *
    have mg := hM g gt.2.2.1 gt.2.2.2
    have bg := hT.2.2.2.1 g gt.2.2.1 gt.2.2.2
    have ba := (b.2.1 (show T 1 a ≠ -1 by omega)).1
    have g6 := hG.2.2.2.2.1
    refine ⟨⟨by omega, by omega⟩, by omega, fun y => ?_, fun y => ?_⟩
    · have hm : m g = true := by
        rcases Bool.eq_false_or_eq_true (m g) with w | w
        · exact w
        · exact absurd (mg.2 w) y
      rw [if_pos hm] at k
      rw [bg.1]
      refine ⟨fun w => ?_, fun w => ?_⟩
      · rw [if_neg w] at k
        refine ⟨fun x => ?_, fun x => ?_⟩
        · have h6 : T 6 g ≠ -1 := by
            rcases bg.2.2.1.mp x with q | q
            · exact absurd q w
            · exact q
          rw [if_neg h6] at k
          exact k _ (kp.rf.up rfl) tcur
        · have h6 : T 6 g = -1 := by
            by_cases q : T 6 g = -1
            · exact q
            · exact absurd (bg.2.2.1.mpr (Or.inr q)) x
          rw [if_pos h6] at k
          rw [ba]
          refine s9_lesser (k _ ((kp.rf.up rfl).up rfl) ?_)
          obtain ⟨t58, t59, t60, ts, tp, to⟩ := tcur
          refine ⟨t58, t59, t60, fun s s0 s1 => ?_, tp, to⟩
          have bs := ts s s0 s1
          refine ⟨bs.1, fun y => ⟨?_, (bs.2.1 y).2⟩, bs.2.2⟩
          rw [xup_sm, xup_sm]
          split
          · rfl
          · exact (bs.2.1 y).1
      · rw [if_pos w] at k
        refine ⟨by omega, ?_⟩
        refine s9_enters (T := xup T 3 a (T 3 a + 1)) hG (hgr.kp ((kp.rf (L := [(91, -9), (92, -9)])).up rfl |>.up rfl) rfl) hcur ?_ gt.2.2 w (xup_same _ _ _ _) (fun S1 a1 b1 => ⟨⟨by omega, by omega⟩, k S1 (((kp.rf.up rfl).up rfl).tr a1) b1⟩)
        obtain ⟨t58, t59, t60, ts, tp, to⟩ := tcur
        refine ⟨t58, t59, t60, ts, fun i i0 i1 => ?_, to⟩
        have i1' : i < T 0 2 := i1
        rw [xup_sm, if_neg (by omega)]
        exact tp i i0 i1
    · have hm : m g = false := by
        rcases Bool.eq_false_or_eq_true (m g) with w | w
        · have := mg.1 w
          omega
        · exact w
      rw [if_neg (by rw [hm]; decide)] at k
      exact k _ (kp.rf.up rfl) tcur
  · rw [b92, e73] at z
    rw [if_neg (by omega), l5] at k
    have hrf := fun S1 => tj_lv.rf (S := S1) h hp rfl
    obtain ⟨ja, j0, j1, je⟩ := hJa
    generalize hae : T 4 (T 0 2 - 1) = a at *
    refine s9_closes hG h.1 hT j0 j1 je (by omega) (by omega) (fun S1 a1 b1 => ?_)
    have hr := hrf S1 b1
    have hV : (if T 2 a = T 1 a then tj_cl T a else T) 4 = T 4 ∧ (if T 2 a = T 1 a then tj_cl T a else T) 0 2 = T 0 2 ∧ (if T 2 a = T 1 a then tj_cl T a else T) 1 = T 1 ∧ (if T 2 a = T 1 a then tj_cl T a else T) 2 = T 2 := by
      split
      · obtain ⟨u00, u01, u02, u03, u1, u2, u3, u4, u5, u6, u7⟩ := tj_cl.sp h.1 j0 j1 je
        exact ⟨u4, u02, u1, u2⟩
      · exact ⟨rfl, rfl, rfl, rfl⟩
    obtain ⟨v4, v02, v1, v2⟩ := hV
    have p91 := b1.2.2.2.2.1
    have ps := b1.2.2.2.1
    rw [v4, v02] at p91
    refine ⟨⟨by omega, by omega⟩, fun y => ?_, fun y => ?_⟩
    · rw [if_pos (by omega)] at hr
      exact k S1 a1 hr
    · rw [if_neg (by omega)] at hr
      have pb := h.1.pa (i := T 0 2 - 1 - 1) (by omega) (by omega)
      have e91b := p91 (T 0 2 - 1 - 1) (by omega) (by omega)
      have q1 := ((ps a pa.1.1 pa.1.2).2.1 (by rw [v1]; omega)).1
      have q2 := ((ps _ pb.1.1 pb.1.2).2.1 (by rw [v1]; omega)).1
      rw [v2] at q1 q2
      rw [show T 0 2 + -1 - 1 = T 0 2 - 1 - 1 by omega, e91b]
      refine ⟨by omega, by omega, ?_⟩
      rw [q1, q2]
      exact s9_lesser (k _ (a1.up rfl) hr)
theorem s9_walks {Q : xS → Prop} (hG : gr X) (hgr : gRf X S) (hM : mq 95 m X S) (h : tI X m T) (hT : tRf X T S) (h2 : T 0 2 = 0) (hg : 0 ≤ g ∧ g < X 0 0) (hn : T 1 g = -1) (hm : m g = true) (k : ∀ S' : xS, kp t9_L S S' → tRf X (tj_go X m (X 0 6 + X 0 0).toNat (tj_en T g)) S' → Q S') : w_X9_walks g S Q := by
  have k0 : kp t9_L S (xup S 91 0 g) := kp.rf.up rfl
  have hT0 : tRf X T (xup S 91 0 g) := by
    obtain ⟨t58, t59, t60, ts, tp, to⟩ := hT
    exact ⟨t58, t59, t60, ts, fun i i0 i1 => by omega, to⟩
  refine s9_enters hG (hgr.kp k0 rfl) h hT0 hg hn (by rw [h2]; exact xup_same _ _ _ _) (fun S1 a1 b1 => ?_)
  obtain ⟨i1, i2⟩ := h.in hG h2 hg hn hm
  have a01 := k0.tr a1
  have e02 : (tj_en T g) 0 2 = 1 := by
    rw [(tj_en.rows T g).2.2.2.2.2.2.2.2.1, h2]
    rfl
  refine xL1_ex (fun n v S' => kp t9_L S S' ∧ ∃ T' : xS, v = T' 0 2 ∧ tI X m T' ∧ tRf X T' S' ∧ tj_F X T' ≤ n ∧ tj_go X m n T' = tj_go X m (X 0 6 + X 0 0).toNat (tj_en T g)) ?_ (X 0 6 + X 0 0).toNat 1 S1 ⟨a01, tj_en T g, e02.symm, i1, b1, by omega, rfl⟩
  rintro n v S2 ⟨a2, T', rfl, iT, bT, hF, eT⟩ k2 hk2
  have hFp := iT.F hG
  by_cases hp : T' 0 2 ≤ 0
  · rw [tj_go.done hp] at eT
    rw [← eT] at k
    exact ⟨fun _ => k S2 a2 bT, fun z => absurd hp z⟩
  · obtain ⟨n', rfl⟩ : ∃ n' : Nat, n = n' + 1 := ⟨n - 1, by omega⟩
    obtain ⟨s1, s2, -⟩ := iT.st hG (by omega)
    have en : tj_go X m (n' + 1) T' = tj_go X m n' (tj_st X m T') := if_neg hp
    rw [en] at eT
    exact s9_step hG (hgr.kp a2 rfl) (hM.kp a2 (fun _ => rfl)) iT bT (by omega) (fun S3 a3 b3 => hk2 n' _ S3 (by omega) ⟨a2.tr a3, tj_st X m T', rfl, s1, b3, by omega, eT⟩)
theorem s9_findsComp {Q : xS → Prop} (hG : gr X) (hgr : gRf X S) (hM : mq 95 m X S) (k : ∀ S' : xS, kp t9_L S S' → tRf X (tj_al X m (X 0 0).toNat) S' → Q S') : w_X9_findsComponents S Q := by
  have n0 := hG.1
  have j45 : ∀ S1 : xS, kp t9_L S S1 → tRf X (tj_0 X) S1 → w_X9_findsComponents_J45 Q S1 := by
    intro S0 a0 b0
    refine xL1_up (X 0 0) (fun v S' => 0 ≤ v ∧ kp t9_L S S' ∧ tRf X (tj_al X m v.toNat) S') ?_ 0 S0 (by omega) ⟨by omega, a0, b0⟩
    rintro v S1 ⟨hv0, a1, b1⟩ hv k2 hk2
    have hgr1 := hgr.kp a1 rfl
    have hM1 := hM.kp a1 (fun _ => rfl)
    unfold w_X9_findsComponents_L47
    rw [hgr1.1]
    refine ⟨fun z => ?_, fun z => ⟨by omega, ?_⟩⟩
    · rw [show v = X 0 0 by omega] at b1
      exact k S1 a1 b1
    · obtain ⟨i1, i2, i3⟩ := tI.al (m := m) hG v.toNat (by omega)
      have ev : (v.toNat : Int) = v := by omega
      have e1 : (v + 1).toNat = v.toNat + 1 := by omega
      have al : tj_al X m (v.toNat + 1) = if m v = true ∧ (tj_al X m v.toNat) 1 v = -1 then tj_go X m (X 0 6 + X 0 0).toNat (tj_en (tj_al X m v.toNat) v) else tj_al X m v.toNat := by
        show (if m (v.toNat : Int) = true ∧ (tj_al X m v.toNat) 1 (v.toNat : Int) = -1 then tj_go X m (X 0 6 + X 0 0).toNat (tj_en (tj_al X m v.toNat) (v.toNat : Int)) else tj_al X m v.toNat) = _
        rw [ev]
      have mv := hM1 v hv0 (by omega)
      have bv := b1.2.2.2.1 v hv0 (by omega)
      have skip : ¬ (m v = true ∧ (tj_al X m v.toNat) 1 v = -1) → xR (v + 1) ∧ k2 (v + 1) S1 := fun w => by
        rw [if_neg w] at al
        exact ⟨⟨by omega, by omega⟩, hk2 S1 (by omega) ⟨by omega, a1, by rw [e1, al]; exact b1⟩⟩
      refine ⟨fun y => skip (fun w => by have := mv.1 w.1; omega), fun y => ⟨fun x => skip (fun w => x (bv.1.trans w.2)), fun x => ?_⟩⟩
      have hm : m v = true := by
        rcases Bool.eq_false_or_eq_true (m v) with w | w
        · exact w
        · exact absurd (mv.2 w) y
      rw [if_pos ⟨hm, bv.1.symm.trans x⟩] at al
      exact s9_walks hG hgr1 hM1 i1 b1 i2 ⟨hv0, by omega⟩ (bv.1.symm.trans x) hm (fun S2 a2 b2 => ⟨⟨by omega, by omega⟩, hk2 S2 (by omega) ⟨by omega, a1.tr a2, by rw [e1, al]; exact b2⟩⟩)
  have kk : kp t9_L S (xup (xup (xup S 54 58 0) 54 59 0) 54 60 0) := ((kp.rf.up rfl).up rfl).up rfl
  refine xL1_up (X 0 0) (fun v S' => 0 ≤ v ∧ kp t9_L S S' ∧ S' 54 58 = 0 ∧ S' 54 59 = 0 ∧ S' 54 60 = 0 ∧ ∀ s : Int, 0 ≤ s → s < v → S' 87 s = -1 ∧ S' 96 s = 0) ?_ 0 _ (by omega) ⟨by omega, kk, rfl, rfl, rfl, fun s a b => by omega⟩
  rintro v S1 ⟨hv0, a1, b58, b59, b60, bs⟩ hv k2 hk2
  unfold w_X9_findsComponents_L17
  rw [(hgr.kp a1 rfl).1]
  refine ⟨fun z => j45 S1 a1 ⟨b58, b59, b60, fun s s0 s1 => ?_, fun i i0 i1 => ?_, fun i i0 i1 => ?_⟩, fun z => ⟨by omega, ⟨by omega, by omega⟩, hk2 _ (by omega) ⟨by omega, (a1.up rfl).up rfl, b58, b59, b60, fun s s0 s1 => ?_⟩⟩⟩
  · have b := bs s s0 (by omega)
    exact ⟨b.1, fun w => absurd rfl w, ⟨fun _ => Or.inl rfl, fun _ => b.2⟩, fun w => absurd rfl w⟩
  · have : i < 0 := i1
    omega
  · have : i < 0 := i1
    omega
  · show (if (87 : Nat) = 96 ∧ s = v then (0 : Int) else (xup S1 87 v (-1)) 87 s) = -1 ∧ (xup (xup S1 87 v (-1)) 96 v 0) 96 s = 0
    rw [if_neg (fun w => by omega), xup_sm, xup_sm]
    by_cases hs : s = v
    · rw [if_pos hs, if_pos hs]; exact ⟨rfl, rfl⟩
    · rw [if_neg hs, if_neg hs]
      exact bs s s0 (by omega)
end PWWQ

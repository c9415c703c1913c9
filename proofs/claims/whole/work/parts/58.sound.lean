/-! pure layer: the trace replays, the search is sound -/
section PWSD
variable {P S X : xS} {md : Int} {l : List Int}
theorem s3_has {Q : Int → xS → Prop} {m : Int} (hl : mv_LC l S) (hlen : l.length ≤ 392) (hm : m ∈ l) (k : Q 1 S) : w_X3_has m S Q := by
  obtain ⟨j, hj, rfl⟩ := List.getElem_of_mem hm
  refine xL1_up (j : Int) (fun v S' => S' = S ∧ 0 ≤ v) ?_ 0 S (by omega) ⟨rfl, by omega⟩
  rintro v S' ⟨rfl, hv0⟩ hv k2 hk2
  unfold w_X3_has_L2
  rw [hl.1]
  refine ⟨fun z => by omega, fun z => ⟨⟨by omega, by omega⟩, fun y => ?_, fun _ => k⟩⟩
  by_cases e : v = j
  · refine absurd ?_ y
    rw [e]
    exact hl.2 j _ (List.getElem?_eq_getElem hj)
  · exact ⟨⟨by omega, by omega⟩, hk2 S' (by omega) ⟨rfl, by omega⟩⟩
theorem xa.d0 (h : xa P md X) {s : Int} (h0 : 0 ≤ s ∧ s < X 0 0) (hd : X 4 s = 0) : s = 0 := by
  by_cases e : s = 0
  · exact e
  · have w := h.2.2.2.1 s (by omega) h0.2
    have g := h.2.1 (X 2 s) w.1.1 (by omega)
    omega
theorem s6_doesReplay {Q : Int → xS → Prop} (h : on_ P md X S) (hf : X 0 2 ≠ 0) (k : ∀ S' : xS, kp scr S S' → Q 1 S') : w_X6_doesReplay S Q := by
  obtain ⟨i1, i2, i3, i4, i5, i6, i7, i8, i9, i10⟩ := h
  obtain ⟨f1, f2⟩ := i5.fk hf
  have n := i5.1
  have gf := i5.2.1 (X 0 4) f1.1 f1.2
  obtain ⟨c1, c2, c3, c4, c5, c6, c7, c8, c9⟩ := id i7.1
  obtain ⟨d13, d8, d22⟩ := c4 hf
  have tb := tl_.b i5 hf
  refine s7_start_h i3 (fun S1 a1 b1 => ?_)
  refine xL1_up (tl_ X) (fun v S' => (0 ≤ v ∧ v ≤ X 4 (X 0 4)) ∧ kp scr S S' ∧ sv_H 36 (sv_dec (X 1 (up_ X (X 4 (X 0 4) - v).toNat (X 0 4)))) S') ?_ 0 S1 (by omega) ⟨by omega, a1.mono rfl, ?_⟩
  · rintro v S2 ⟨hv, a2, b2⟩ hvt k2 hk2
    have u := up_.d i5 f1 (X 4 (X 0 4) - v).toNat (by omega)
    have g := i5.2.1 _ u.1.1 u.1.2
    have hC2 := i3.kp a2 rfl
    have e13 : S2 2 13 = X 0 2 := (a2 2 13 rfl).trans d13
    unfold w_X6_doesReplay_L9
    rw [show S2 2 8 = tl_ X from (a2 2 8 rfl).trans d8]
    refine ⟨fun z => ?_, fun z => ⟨by omega, s3_listFor i2 hC2 b2 (sv_V.dec _) (mv_all.b i2 g.2.1) (fun S3 a3 l3 => ?_)⟩⟩
    · have hne : X 0 2 ≠ 97 := fun w => by unfold tl_ at z; rw [if_pos w] at z; omega
      have ev : v = X 4 (X 0 4) := by unfold tl_ at z; rw [if_neg hne] at z; omega
      rw [ev, show (X 4 (X 0 4) - X 4 (X 0 4)).toNat = 0 by omega] at b2
      have b2' : sv_H 36 (sv_dec (X 1 (X 0 4))) S2 := b2
      unfold w_X6_doesReplay_J98
      rw [e13]
      rcases i5.2.2.2.2.2.1 with w | ⟨-, w | w | w⟩
      · exact absurd w hf
      · exact ⟨fun y => absurd w.1 y, fun _ => s4_breaks_h i2 hC2 b2' (fun _ => ⟨Or.inr rfl, k S2 a2⟩) (fun y => by rw [w.2] at y; cases y)⟩
      · refine ⟨fun _ => s3_listFor i2 hC2 b2' (sv_V.dec _) (mv_all.b i2 gf.2.1) (fun S3 a3 l3 => ?_), fun y => by omega⟩
        rw [w.2.1] at l3
        have e13' : S3 2 13 = X 0 2 := (a3 2 13 rfl).trans e13
        have e0 : S3 6 2 = 0 := l3.1
        rw [e13', e0]
        exact ⟨fun y => absurd w.1 y, fun _ => ⟨fun y => absurd rfl y, fun _ => s4_hasStuck i2 (hC2.kp a3 rfl) (b2'.kp a3 (fun _ => rfl) (fun _ => rfl) (fun _ => rfl) (fun _ => rfl) (fun _ => rfl)) (sv_V.dec _) (fun _ => ⟨fun y => by omega, fun _ => k S3 (a2.tr (a3.mono rfl))⟩) (fun y => by rw [w.2.2] at y; cases y)⟩⟩
      · exact absurd w.1 hne
    · rw [show S2 22 v = tr_ X v from (a2 22 v rfl).trans (d22 v hv.1 (by omega))]
      have a3' : kp scr S S3 := a2.tr (a3.mono rfl)
      have hC3 := hC2.kp a3 rfl
      have b3 := b2.kp a3 (fun _ => rfl) (fun _ => rfl) (fun _ => rfl) (fun _ => rfl) (fun _ => rfl)
      have e13' : S3 2 13 = X 0 2 := (a3 2 13 rfl).trans e13
      by_cases ev : v = X 4 (X 0 4)
      · have e97 : X 0 2 = 97 := by
          by_cases w : X 0 2 = 97
          · exact w
          · unfold tl_ at z; rw [if_neg w] at z; omega
        have et : tr_ X v = X 0 5 := by unfold tr_; rw [if_pos ev]
        have etl : tl_ X = X 4 (X 0 4) + 1 := by unfold tl_; rw [if_pos e97]
        rw [et]
        rw [ev, show (X 4 (X 0 4) - X 4 (X 0 4)).toNat = 0 by omega] at b3 l3
        have b3' : sv_H 36 (sv_dec (X 1 (X 0 4))) S3 := b3
        have l3' : mv_LC (mvs P (sv_dec (X 1 (X 0 4)))) S3 := l3
        obtain ⟨hm, has⟩ : X 0 5 ∈ mvs P (sv_dec (X 1 (X 0 4))) ∧ sx_as P (sv_dec (X 1 (X 0 4))) (X 0 5) = true := by
          rcases i5.2.2.2.2.2.1 with w | ⟨-, w | w | w⟩
          · exact absurd w hf
          · omega
          · omega
          · exact w.2
        refine s3_has l3' (mvs.b i2 gf.2.1) hm ⟨fun _ => ?_, fun y => by omega⟩
        rw [e13', show S3 2 8 = tl_ X from (a3' 2 8 rfl).trans d8]
        refine ⟨fun y => absurd e97 y, fun _ => ⟨⟨by omega, by omega⟩, fun y => by omega, fun _ => ?_⟩⟩
        exact s7_isRefuted i2 hC3 b3' (mvs_mem i2 hm) (fun _ => ⟨Or.inr rfl, k S3 a3'⟩) (fun y => by rw [has] at y; cases y)
      · have et : tr_ X v = X 3 (up_ X (X 4 (X 0 4) - 1 - v).toNat (X 0 4)) := by unfold tr_; rw [if_neg ev]
        have ut := up_.d i5 f1 (X 4 (X 0 4) - 1 - v).toNat (by omega)
        have ep : up_ X (X 4 (X 0 4) - v).toNat (X 0 4) = X 2 (up_ X (X 4 (X 0 4) - 1 - v).toNat (X 0 4)) := by
          rw [show (X 4 (X 0 4) - v).toNat = (X 4 (X 0 4) - 1 - v).toNat + 1 by omega, up_.succ]
        have u0 : up_ X (X 4 (X 0 4) - 1 - v).toNat (X 0 4) ≠ 0 := fun w => by
          rw [w] at ut
          have := i5.2.2.1.2.2
          omega
        have w := i5.2.2.2.1 _ (by omega) ut.1.2
        have ex2 : up_ X (X 4 (X 0 4) - (v + 1)).toNat (X 0 4) = up_ X (X 4 (X 0 4) - 1 - v).toNat (X 0 4) := by
          rw [show (X 4 (X 0 4) - (v + 1)).toNat = (X 4 (X 0 4) - 1 - v).toNat by omega]
        rw [ep] at b3 l3 g
        have hmk := mvs_mem i2 w.2.1
        have j76 : w_X6_doesReplay_J76 k2 v S2 S3 := by
          unfold w_X6_doesReplay_J76
          rw [show S2 22 v = tr_ X v from (a2 22 v rfl).trans (d22 v hv.1 (by omega)), et]
          refine s6_goBehind (md := md) i2 hC3 b3 g.2.1 hmk (c9.kp a3' (fun _ => rfl)) (fun S4 a4 b4 => s7_copy_hn b4 (fun S5 a5 b5 => ⟨⟨by omega, by omega⟩, hk2 S5 (by omega) ⟨by omega, (a3'.tr (a4.mono rfl)).tr (a5.mono rfl), ?_⟩⟩))
          rw [ex2, w.2.2.1]
          exact b5.E (sv_E.de (gb.V i2 g.2.1 hmk).1).sy
        rw [et]
        refine s3_has l3 (mvs.b i2 g.2.1) w.2.1 ⟨fun _ => ?_, fun y => by omega⟩
        rw [e13', show S3 2 8 = tl_ X from (a3' 2 8 rfl).trans d8]
        refine ⟨fun _ => j76, fun y => ⟨⟨by omega, by omega⟩, fun _ => j76, fun y2 => ?_⟩⟩
        unfold tl_ at y2
        rw [if_pos y] at y2
        omega
  · have u := up_.d i5 f1 (X 4 (X 0 4) - 0).toNat (by omega)
    rw [i5.d0 u.1 (by omega), i5.2.2.1.1]
    exact b1.E (sv_E.de (sv_V.st i2)).sy
end PWSD
section PWKS
variable {S : xS} {f : Int → Int} {i : Int}
/-- what the law asks behind a call of the reference that tells a truth -/
def gZ (t : Int) (S1 : xS) : Int → xS → Prop := fun r Sc => (Sc 33 (-1) = S1 33 (-1)) ∧ w_X9_thrown Sc (fun r3 S3 => ((r3 = t → ((¬ t = 0 → (S3 33 (-1) = S1 33 (-1)) ∧ Inv_ S3) ∧ (t = 0 → xJ1 (fun t0 S4 => (((S3 98 0) = t0 → Inv_ S4) ∧ (¬ (S3 98 0) = t0 → False))) (fun j594 => ((r = 0 → (S3 33 (-1) = S1 33 (-1)) ∧ j594 0 S3) ∧ (¬ r = 0 → (S3 33 (-1) = S1 33 (-1)) ∧ j594 1 S3)))))) ∧ (¬ r3 = t → False)))
theorem gZ.mk {S1 S2 : xS} {t r : Int} (e : S2 33 (-1) = S1 33 (-1)) (ht : S2 54 0 = t) (hb : t = 0 → (r = 0 ∧ S2 98 0 = 0) ∨ (¬ r = 0 ∧ S2 98 0 = 1)) (hq : Inv_ S2) : gZ t S1 r S2 := kfinZ rfl e ht hb hq
theorem k_21 (hI : Inv_ S) : w_K21 f i S Inv_ := by
  show w_L_replays S (fun t S1 => w_X9_replays S1 (gZ t S1))
  unfold w_L_replays w_X8_replays
  rcases Inv_ab hI with ⟨a, b⟩ | ⟨P, md, X, h⟩
  · exact s8_needSearch (fun z => absurd a z) (fun _ => Or.inl ⟨rfl, s9_isFault_off b ⟨Or.inl rfl, gZ.mk rfl rfl (fun z => by omega) (Inv_kp hI (kp.rf.up rfl))⟩⟩)
  · refine s8_needFault h (fun hf => ?_) (fun hf => Or.inr ⟨rfl, s9_isFault h (fun w => absurd hf w) (fun _ => ⟨Or.inl rfl, gZ.mk rfl rfl (fun z => by omega) (Inv_kp hI ((kp.rf.up rfl).up rfl))⟩)⟩)
    refine s6_doesReplay h hf (fun S1 a1 => ⟨a1 33 (-1) rfl, Or.inr rfl, fun w => by omega, fun _ => ?_⟩)
    have o1 := on_kp' (on_kp' h a1) (S' := xup S1 98 0 1) (kp.rf.up rfl)
    exact s9_isFault o1 (fun _ => ⟨Or.inr rfl, gZ.mk rfl rfl (fun _ => Or.inr ⟨by omega, rfl⟩) (Inv_of (on_kp' o1 (kp.rf.up rfl)))⟩) (fun w => absurd w hf)
end PWKS
section PWSC
variable {P S X : xS} {md : Int}
theorem s6_wasReached {Q : Int → xS → Prop} {s : Int} (h : on_ P md X S) (hs : 1 ≤ s ∧ s < X 0 0) (k : ∀ S' : xS, kp sc3 S S' → cx P md X S' → Q 1 S') : w_X6_wasReached s S Q := by
  obtain ⟨i1, i2, i3, i4, i5, i6, i7, i8, i9, i10⟩ := h
  have n := i5.1
  have c := i7.1.2.2.2.2.2.1 s (by omega) hs.2
  have w := i5.2.2.2.1 s hs.1 hs.2
  have g := i5.2.1 (X 2 s) w.1.1 (by omega)
  have cp := i7.1.2.2.2.2.2.1 (X 2 s) w.1.1 (by omega)
  have hmk := mvs_mem i2 w.2.1
  unfold w_X6_wasReached
  rw [c.2.2.1]
  refine ⟨by omega, fun z => by omega, fun _ => ⟨fun _ => ?_, fun z => by omega⟩⟩
  refine s6_listMoves i2 i3 (by omega) cp.1 g.1 g.2.1 (fun S1 a1 b1 l1 e => ?_)
  rw [show S1 28 s = X 3 s from (a1 28 s rfl).trans (c.2.2.2.1 hs.1)]
  refine s3_has l1 (mvs.b i2 g.2.1) w.2.1 ⟨fun _ => ?_, fun y => by omega⟩
  rw [show S1 28 s = X 3 s from (a1 28 s rfl).trans (c.2.2.2.1 hs.1)]
  refine s6_goBehind (md := md) i2 (i3.kp a1 rfl) b1 g.2.1 hmk (i7.1.2.2.2.2.2.2.2.2.kp a1 (fun _ => rfl)) (fun S2 a2 b2 => s7_pack_n b2 (gb.V i2 g.2.1 hmk).1 ?_)
  rw [show S2 25 s = X 1 s from (a2 25 s rfl).trans ((a1 25 s rfl).trans c.1), w.2.2.1]
  exact ⟨fun y => absurd rfl y, fun _ => k S2 ((a1.mono rfl).tr (a2.mono rfl)) ((cx_30 i7.1 a1 e).kp a2 rfl)⟩
theorem s6_isConsistent {Q : Int → xS → Prop} (h : on_ P md X S) (k : ∀ S' : xS, kp sc3 S S' → cx P md X S' → Q 1 S') : w_X6_isConsistent S Q := by
  have n := h.2.2.2.2.1.1
  refine xL1_up (X 0 0) (fun v S' => 0 ≤ v ∧ kp sc3 S S' ∧ cx P md X S') ?_ 0 S (by omega) ⟨by omega, kp.rf, h.2.2.2.2.2.2.1.1⟩
  rintro v S1 ⟨hv0, a1, b1⟩ hv k2 hk2
  have o1 := on_kp h a1 b1
  obtain ⟨i1, i2, i3, i4, i5, i6, i7, i8, i9, i10⟩ := id o1
  obtain ⟨c1, c2, c3, c4, c5, c6, c7, c8, c9⟩ := id b1
  unfold w_X6_isConsistent_L2
  rw [c1]
  refine ⟨fun z => ?_, fun z => ⟨by omega, ?_⟩⟩
  · unfold w_X6_isConsistent_J55
    by_cases hf : X 0 2 = 0
    · exact ⟨fun _ => k S1 a1 b1, fun y => absurd (c3 hf) y⟩
    · have f2 := (i5.fk hf).2
      have e13 := (c4 hf).1
      exact ⟨fun y => by omega, fun _ => s6_doesReplay o1 hf (fun S2 a2 => ⟨fun y => by omega, fun _ => k S2 (a1.tr (a2.mono rfl)) (on_kp' o1 a2).2.2.2.2.2.2.1.1⟩)⟩
  · have cv := c6 v hv0 (by omega)
    have g := i5.2.1 v hv0 (by omega)
    rw [cv.1]
    refine s1_numberFor c7 (by omega) g.1.b.1 (fun s s0 s1 e => ?_) (fun hne => ?_)
    · rw [(c6 s s0 (by omega)).1] at e
      have es := i5.2.2.2.2.1 s v s0 (by omega) hv0 (by omega) e
      refine ⟨fun _ => ⟨fun _ => ⟨⟨by omega, by omega⟩, hk2 S1 (by omega) ⟨by omega, a1, b1⟩⟩, fun y => s6_wasReached o1 (by omega) (fun S2 a2 b2 => ⟨fun _ => ⟨⟨by omega, by omega⟩, hk2 S2 (by omega) ⟨by omega, a1.tr a2, b2⟩⟩, fun y => by omega⟩)⟩, fun y => absurd es y⟩
    · refine absurd ?_ (hne v hv0 (by omega))
      rw [cv.1]
end PWSC
section PWKT2
variable {S : xS} {f : Int → Int} {i : Int}
theorem k_30 (hI : Inv_ S) : w_K30 f i S Inv_ := by
  unfold w_K30 w_X8_isSound w_X9_isSound
  rcases Inv_ab hI with ⟨a, b⟩ | ⟨P, md, X, h⟩
  · exact ⟨fun _ => ⟨rfl, fun _ => ⟨rfl, Inv_kp hI (kp.rf.up rfl)⟩, fun w => absurd rfl w⟩, fun w => absurd a w⟩
  · have h9 := h.2.2.2.2.2.2.2.2.1
    exact ⟨fun w => by omega, fun _ => s6_isConsistent h (fun S1 a1 b1 => ⟨fun w => by omega, fun _ => ⟨a1 33 (-1) rfl, fun _ => ⟨a1 33 (-1) rfl, Inv_of (on_kp' (on_kp h a1 b1) (kp.rf.up rfl))⟩, fun w => absurd rfl w⟩⟩)⟩
end PWKT2

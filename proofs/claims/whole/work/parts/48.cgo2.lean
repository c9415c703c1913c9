/-! pure layer: the class's step and its search -/
section PWG2
variable {P S X : xS} {md : Int}
theorem s2_closeState {Q : xS → Prop} {g : Int} {Y : xS} (hg : 0 ≤ g ∧ g < 2000) (hcx : cx P md Y S) (hgl : gl md g Y S) (hm : xm g Y) (k : ∀ S' : xS, kp [(5, 0), (32, -9), (34, -9)] S S' → cx P md (xup Y 5 (g + 1) (Y 0 6)) S' → gl md (g + 1) (xup Y 5 (g + 1) (Y 0 6)) S' → Q S') : w_X2_closeState S Q := by
  obtain ⟨g1, g2, g3, g4⟩ := hgl
  unfold w_X2_closeState
  rw [g1]
  refine ⟨fun z => by omega, fun z => ⟨by omega, by omega, ?_⟩⟩
  have a1 : kp [(5, 0), (32, -9), (34, -9)] S (xup (xup (xup S 5 0 (g + 1)) 32 (g + 1) (S 5 3)) 34 (g + 1) 0) := ((kp.rf.up rfl).up rfl).up rfl
  refine k _ a1 ?_ ⟨rfl, ?_, g3, fun h97 => ?_⟩
  · have h := cx_chg (Y := xup Y 5 (g + 1) (Y 0 6)) hcx a1 rfl ⟨rfl, rfl, rfl, rfl, rfl⟩ hcx.2.1 hcx.2.2.1 (fun z => ?_) hcx.2.2.2.2.1
    · exact h
    · have d := hcx.2.2.2.1 z
      refine ⟨d.1, d.2.1, fun i i0 i1 => ?_⟩
      have := d.2.2 i i0 i1
      show S 22 i = _
      rw [this]
      unfold tr_
      rw [up_.E (X := Y) (Y := xup Y 5 (g + 1) (Y 0 6)) rfl]
      rfl
  · show (xup (xup S 5 0 (g + 1)) 32 (g + 1) (S 5 3)) 32 0 = 0
    rw [xup_ne (by omega)]
    exact g2
  · obtain ⟨k1, k2, k3, k4, k5, k6⟩ := g4 h97
    have hd : ∀ a n, dz (xup Y 5 (g + 1) (Y 0 6)) a n = dz Y a n := fun a n => dz.E n (fun e _ _ => rfl)
    refine ⟨k1, k2, k3, fun s s0 s1 => ?_, fun s s0 s1 => ?_, ?_⟩
    · show (xup (xup S 5 0 (g + 1)) 32 (g + 1) (S 5 3)) 32 s = (xup Y 5 (g + 1) (Y 0 6)) 5 s
      by_cases h : s = g + 1
      · rw [h, xup_same, xup_same]; exact k1
      · rw [xup_ne h, xup_ne (S := Y) h]
        exact k4 s s0 (by omega)
    · rw [hd]
      show (xup (xup (xup S 5 0 (g + 1)) 32 (g + 1) (S 5 3)) 34 (g + 1) 0) 34 s = dz Y ((xup Y 5 (g + 1) (Y 0 6)) 5 s) ((xup Y 5 (g + 1) (Y 0 6)) 5 (s + 1) - (xup Y 5 (g + 1) (Y 0 6)) 5 s).toNat
      rw [xup_ne (by omega), xup_ne (S := Y) (by omega)]
      by_cases h : s = g
      · subst h
        rw [xup_same]
        exact k6
      · rw [xup_ne (S := Y) (by omega)]
        exact k5 s s0 (by omega)
    · rw [hd]
      show (xup (xup (xup S 5 0 (g + 1)) 32 (g + 1) (S 5 3)) 34 (g + 1) 0) 34 (g + 1) = dz Y ((xup Y 5 (g + 1) (Y 0 6)) 5 (g + 1)) (Y 0 6 - (xup Y 5 (g + 1) (Y 0 6)) 5 (g + 1)).toNat
      rw [xup_same, xup_same, show (Y 0 6 - Y 0 6).toNat = 0 by omega]
      rfl
theorem s6_goOnFromOne {Q : xS → Prop} (hW : pw_WF P) (hC : pw_C P S) (hx : xa P md X) (hb : xb X) (hcb : cb P md X S) (hne : ¬ (X 0 2 ≠ 0 ∨ 2000 ≤ X 0 0 ∨ X 0 0 ≤ X 0 1)) (k : ∀ S' : xS, kp cx_Lg S S' → cb P md (sx_go P md X) S' → Q S') : w_X6_goOnFromOne S Q := by
  obtain ⟨hcx, h32, hcap, hgl⟩ := hcb
  have hf : X 0 2 = 0 := by omega
  have gl0 := hgl hf
  have hn := hx.1
  have hxm := xm.of hb hf
  obtain ⟨b1, b2q, b3q, b4, b5⟩ := hb
  have gg : 0 ≤ X 0 1 ∧ X 0 1 < X 0 0 := by omega
  have gx := hx.2.1 (X 0 1) gg.1 gg.2
  obtain ⟨c1, c2, c3, c4, c5, c6, c7, c8, c9⟩ := id hcx
  generalize hgq : X 0 1 = g at *
  have eX1 : xup X 0 1 (X 0 1 + 1) = xup X 0 1 (g + 1) := by rw [hgq]
  unfold sx_go at k
  rw [eX1, hgq] at k
  unfold w_X6_goOnFromOne
  rw [c2]
  have a1 : kp [(2, 11)] S (xup S 2 11 (g + 1)) := kp.rf.up rfl
  have cx1 : cx P md (xup X 0 1 (g + 1)) (xup S 2 11 (g + 1)) := by
    refine cx_chg hcx a1 rfl ⟨rfl, rfl, rfl, rfl, rfl⟩ rfl (fun _ => c3 hf) (fun z => absurd hf z) c5
  have x1 : xa P md (xup X 0 1 (g + 1)) := hx.up0 _ _ rfl
  have r25 : (xup S 2 11 (g + 1)) 25 g = X 1 g := (c6 g gg.1 gg.2).1
  refine ⟨by omega, s6_listMoves hW (hC.kp a1 rfl) (by omega) r25 gx.1 gx.2.1 (fun S1 a2 b2 l2 e30 => ?_)⟩
  have cx2 := cx_30 cx1 a2 e30
  have hC2 := (hC.kp a1 rfl).kp a2 rfl
  have k2 : kp cx_Lg S S1 := (a1.mono rfl).tr (a2.mono rfl)
  have gl2 : gl md g (xup X 0 1 (g + 1)) S1 := ((gl.eX (Y := xup X 0 1 (g + 1)) gl0 rfl rfl rfl).kp a1 rfl rfl (fun _ => rfl) (fun _ => rfl) (fun _ => rfl)).kp a2 rfl rfl (fun _ => rfl) (fun _ => rfl) (fun _ => rfl)
  have xm2 : xm g (xup X 0 1 (g + 1)) := hxm
  have hlen := mvs.b hW gx.2.1
  -- the moves made, one after the other
  have go : ¬ (mvs P (sv_dec (X 1 g)) = [] ∧ sx_st P (sv_dec (X 1 g)) = true) → ∀ (t : Int) (S2 : xS), kp sv_Ln S1 S2 → sx_ms P md (xup X 0 1 (g + 1)) g = (mvs P (sv_dec (X 1 g))).filter (fun m => decide (t = -1) || decide (m / 64 / 14 = t)) → w_X6_goOnFromOne_J69 S Q t S2 := by
    intro hnd t S2 a3 ems
    rw [if_neg hnd, ems] at k
    have hC3 := hC2.kp a3 rfl
    refine s6_loop (X := xup X 0 1 (g + 1)) (g := g) hW hC3 (b2.kp a3 (fun _ => rfl) (fun _ => rfl) (fun _ => rfl) (fun _ => rfl) (fun _ => rfl)) x1 (cx2.kp a3 rfl) (gl2.kp a3 rfl rfl (fun _ => rfl) (fun _ => rfl) (fun _ => rfl)) xm2 gg b2q b3q (l2.kp a3 rfl (fun _ => rfl)) c2 (fun S3 a4 c4' g4' => ?_)
    · change cx P md (sx_ml P md g ((mvs P (sv_dec (X 1 g))).filter (fun m => decide (t = -1) || decide (m / 64 / 14 = t))) (xup X 0 1 (g + 1))) S3 at c4'
      change gl md g (sx_ml P md g ((mvs P (sv_dec (X 1 g))).filter (fun m => decide (t = -1) || decide (m / 64 / 14 = t))) (xup X 0 1 (g + 1))) S3 at g4'
      have sub : ∀ m ∈ (mvs P (sv_dec (X 1 g))).filter (fun m => decide (t = -1) || decide (m / 64 / 14 = t)), m ∈ mvs P (sv_dec ((xup X 0 1 (g + 1)) 1 g)) := fun m hm => (List.mem_filter.mp hm).1
      obtain ⟨r1, r2, r3, r4, r5, r6⟩ := xa.ml hW _ (xup X 0 1 (g + 1)) (g := g) x1 gg sub
      generalize sx_ml P md g ((mvs P (sv_dec (X 1 g))).filter (fun m => decide (t = -1) || decide (m / 64 / 14 = t))) (xup X 0 1 (g + 1)) = Y at *
      have r3' : Y 0 1 = g + 1 := r3
      refine s2_closeState (by omega) c4' g4' (xm2.mono r6 r5.1) (fun S4 a5 c5' g5' => ⟨a5 33 (-1) rfl, k S4 ((k2.tr (a3.mono rfl)).tr ((a4.mono rfl).tr (a5.mono rfl))) ⟨c5', g5'.2.1, g5'.2.2.1, fun _ => ?_⟩⟩)
      have e : (xup Y 5 (g + 1) (Y 0 6)) 0 1 = g + 1 := r3'
      rw [e]
      exact g5'
  have j52 : ¬ (mvs P (sv_dec (X 1 g)) = [] ∧ sx_st P (sv_dec (X 1 g)) = true) → w_X6_goOnFromOne_J52 S Q S1 := by
    intro hnd
    unfold w_X6_goOnFromOne_J52
    rw [cx2.2.2.2.2.2.2.2.1]
    refine ⟨fun z => go hnd (-1) S1 kp.rf ?_, fun z => s6_alone (X := xup X 0 1 (g + 1)) (g := g) hW hC2 b2 x1 cx2 gg l2 (fun r S2 a3 hal => ⟨a3 33 (-1) rfl, go hnd r S2 a3 ?_⟩)⟩
    · unfold sx_ms
      rw [if_neg z]
      symm
      show List.filter _ (mvs P (sv_dec (X 1 g))) = mvs P (sv_dec (X 1 g))
      rw [List.filter_eq_self]
      intro m _
      simp
    · unfold sx_ms
      rw [if_pos z]
      rcases hal with ⟨h1, h2⟩ | ⟨n, h1, h2⟩
      · rw [h2]
        symm
        show List.filter _ (mvs P (sv_dec (X 1 g))) = mvs P (sv_dec (X 1 g))
        rw [List.filter_eq_self]
        intro m _
        simp [h1]
      · rw [h2]
        show List.filter (fun m => decide (m / 64 / 14 = (n : Int))) (mvs P (sv_dec (X 1 g))) = _
        apply List.filter_congr
        intro m _
        rw [h1]
        have : ¬ ((n : Int) = -1) := by omega
        simp [this]
  refine ⟨fun z => ⟨by rw [a2 33 (-1) rfl]; exact a1 33 (-1) rfl, j52 (fun h => z ?_)⟩, fun z => s4_hasStuck hW hC2 b2 (sv_V.dec _) (fun hs => ⟨fun w => by omega, fun _ => ?_⟩) (fun hs => ⟨fun _ => ⟨by rw [a2 33 (-1) rfl]; exact a1 33 (-1) rfl, j52 (fun h => by rw [h.2] at hs; cases hs)⟩, fun w => absurd rfl w⟩)⟩
  · rw [l2.1, h.1]; rfl
  · have hnil : mvs P (sv_dec (X 1 g)) = [] := by
      have := l2.1
      exact List.eq_nil_of_length_eq_zero (by omega)
    rw [if_pos ⟨hnil, hs⟩] at k
    refine s6_endWith x1 gg (by omega) (fun t t0 t1 => ⟨(cx2.2.2.2.2.2.1 t t0 t1).2.2.1, (cx2.2.2.2.2.2.1 t t0 t1).2.2.2.1, (cx2.2.2.2.2.2.1 t t0 t1).2.2.2.2.1⟩) (fun S2 a3 e13 e8 e22 => ⟨by rw [a3 33 (-1) rfl, a2 33 (-1) rfl]; exact a1 33 (-1) rfl, k S2 (k2.tr (a3.mono rfl)) ⟨?_, ?_, ?_, fun w => ?_⟩⟩)
    · refine cx_chg (Y := xup (xup (xup X 0 1 (g + 1)) 0 2 100) 0 4 g) cx2 a3 rfl ⟨rfl, rfl, rfl, rfl, rfl⟩ ((a3 2 11 rfl).trans cx2.2.1) (fun w => ?_) (fun _ => ⟨e13, ?_, fun i i0 i1 => ?_⟩) ((a3 2 12 rfl).trans cx2.2.2.2.2.1)
      · have w' : (100 : Int) = 0 := w
        omega
      · rw [e8]
        show X 4 g = X 4 g + (if (100 : Int) = 97 then 1 else 0)
        rw [if_neg (by decide)]; omega
      · have i1' : i < X 4 g + (if (100 : Int) = 97 then 1 else 0) := i1
        rw [if_neg (by decide)] at i1'
        have := e22 i i0 (by show i < X 4 g; omega)
        rw [this]
        show X 3 _ = if i = X 4 g then _ else X 3 (up_ (xup (xup (xup X 0 1 (g + 1)) 0 2 100) 0 4 g) (X 4 g - 1 - i).toNat g)
        rw [if_neg (by omega), up_.E (X := xup X 0 1 (g + 1)) (Y := xup (xup (xup X 0 1 (g + 1)) 0 2 100) 0 4 g) rfl]
        rfl
    · rw [a3 32 0 rfl, a2 32 0 rfl]; exact h32
    · rw [a3 33 (-1) rfl, a2 33 (-1) rfl]; exact hcap
    · have w' : (100 : Int) = 0 := w
      omega
theorem s6_goOn {Q : Int → xS → Prop} {b : Int} (hW : pw_WF P) (hC : pw_C P S) (hx : xa P md X) (hb : xb X) (hcb : cb P md X S) (hbu : 0 ≤ b ∧ b ≤ 500) (k : ∀ S' : xS, kp cx_Lg S S' → cb P md (sx_sr P md b.toNat X) S' → xa P md (sx_sr P md b.toNat X) → xb (sx_sr P md b.toNat X) → Q ((sx_sr P md b.toNat X) 0 0 - X 0 0) S') : w_X6_goOn b S Q := by
  have hn := hx.1
  generalize hF : sx_sr P md b.toNat X = F at *
  refine xL1_up b (fun v S' => kp cx_Lg S S' ∧ ∃ Y : xS, 0 ≤ v ∧ cb P md Y S' ∧ xa P md Y ∧ xb Y ∧ sx_sr P md (b - v).toNat Y = F) ?_ 0 S (by omega) ⟨kp.rf, X, by omega, hcb, hx, hb, by rw [show b - 0 = b by omega]; exact hF⟩
  rintro v S' ⟨a1, Y, hv0, cY, xY, bY, eF⟩ hv k2 hk2
  have e0 : S 4 0 = X 0 0 := hcb.1.1
  have nY := xY.1
  have fin : ∀ S2 : xS, kp cx_Lg S S2 → cb P md Y S2 → Y = F → (-2147483648 ≤ S2 4 0 - S 4 0 ∧ S2 4 0 - S 4 0 < 2147483648) ∧ Q (S2 4 0 - S 4 0) S2 := by
    rintro S2 a c rfl
    rw [c.1.1, e0]
    exact ⟨by omega, k S2 a c xY bY⟩
  refine ⟨fun z => ?_, fun z => s6_ended xY cY.1 (fun he => ⟨fun _ => ⟨rfl, ?_⟩, fun w => by omega⟩) (fun he => ⟨fun w => absurd rfl w, fun _ => ⟨rfl, ?_⟩⟩)⟩
  · refine fin S' a1 cY ?_
    rw [show (b - v).toNat = 0 by omega] at eF
    exact eF
  · refine fin S' a1 cY ?_
    rw [show (b - v).toNat = (b - v).toNat - 1 + 1 by omega] at eF
    have e : sx_sr P md ((b - v).toNat - 1 + 1) Y = Y := by
      show (if _ then _ else _) = _
      rw [if_pos he]
    rw [e] at eF
    exact eF
  · have hlen : (mvs P (sv_dec (Y 1 (Y 0 1)))).length ≤ 392 := mvs.b hW (xY.2.1 _ bY.1.1 (by omega)).2.1
    obtain ⟨x2, b2, -⟩ := xa.go hW xY bY (by omega) (by omega) hlen
    refine s6_goOnFromOne hW (hC.kp a1 rfl) xY bY cY he (fun S2 a2 c2 => ⟨⟨by omega, by omega⟩, hk2 S2 (by omega) ⟨a1.tr a2, sx_go P md Y, by omega, c2, x2, b2, ?_⟩⟩)
    rw [show (b - v).toNat = (b - (v + 1)).toNat + 1 by omega] at eF
    have e : sx_sr P md ((b - (v + 1)).toNat + 1) Y = sx_sr P md (b - (v + 1)).toNat (sx_go P md Y) := by
      show (if _ then _ else _) = _
      rw [if_neg he]
    rw [e] at eF
    exact eF
end PWG2

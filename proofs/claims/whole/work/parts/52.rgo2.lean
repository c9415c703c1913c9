/-! pure layer: the reference's step and its search -/
abbrev rx_Lg : List (Nat × Int) := [(54, 5), (54, 6), (54, 7), (54, 8), (54, 9), (54, 10), (54, 11), (54, 12), (54, 14), (67, -9), (68, -9), (69, -9), (70, -9), (71, -9), (72, -9), (73, -9), (74, -9), (75, -9), (76, -9), (77, -9), (78, -9), (79, -9), (80, -9), (81, -9), (82, -9), (83, -9), (84, -9), (85, -9), (86, -9)]
/-- where edges begin, as the reference has it -/
def rgA (g : Int) (X S : xS) : Prop := ∀ s : Int, 0 ≤ s → s ≤ g → S 73 s = X 5 s
def rg (g : Int) (X S : xS) : Prop := 0 < g → rgA g X S
/-- between two states -/
def rb (P : xS) (md : Int) (X S : xS) : Prop := rx P md X S ∧ ((X 0 2 ≠ 0 ∨ 2000 ≤ X 0 0 ∨ X 0 0 ≤ X 0 1) → S 54 14 = 1) ∧ (¬ (X 0 2 ≠ 0 ∨ 2000 ≤ X 0 0 ∨ X 0 0 ≤ X 0 1) → S 54 14 = 0) ∧ (X 0 2 = 0 → rg (X 0 1) X S)
section PWR2
variable {P S X : xS} {md : Int}
theorem s9_pick {Q : xS → Prop} {j113 : xS → Prop} {g : Int} (hW : pw_WF P) (hR : pw_R P S) (hH : sv_N 75 (sv_dec (X 1 g)) S) (hx : xa P md X) (hrx : rx P md X S) (hg : 0 ≤ g ∧ g < X 0 0) (hl : mv_LR (mvs P (sv_dec (X 1 g))) S) (k : ∀ S' : xS, kp [(54, 10), (83, -9), (84, -9), (85, -9), (86, -9), (79, -9), (80, -9), (81, -9), (82, -9)] S S' → mv_LR (sx_ms P md X g) S' → j113 S') : xL1 (w_X9_goesOn_L71 j113 (w_X9_goesOn_J99 j113)) 0 S := by
  have w0 := hW.1
  have gx := hx.2.1 g hg.1 hg.2
  have hlen := mvs.b hW gx.2.1
  unfold sx_ms at k
  refine xL1_up (P 54 1) (fun v S' => kp sv_L9n S S' ∧ ∃ n : Nat, v = (n : Int) ∧ ∀ j : Nat, j < n → sx_en P md X g j = false) ?_ 0 S (by omega) ⟨kp.rf, 0, rfl, fun j hj => by omega⟩
  rintro v S' ⟨a1, n, rfl, hpre⟩ hv k2 hk2
  have hl1 := hl.kp a1 rfl (fun _ => rfl) (fun _ => rfl) (fun _ => rfl) (fun _ => rfl)
  have hR1 := hR.kp a1 rfl
  have rx1 := rx_kp hrx a1 rfl
  unfold w_X9_goesOn_L71
  rw [hR1.1, rx1.2.2.2.2.2.1]
  refine ⟨fun z => ?_, fun z => ⟨fun y => ?_, fun y => ?_⟩⟩
  · refine k S' (a1.mono rfl) ?_
    have e : (List.range (P 54 1).toNat).find? (fun p => sx_en P md X g p) = none := by
      rw [List.find?_eq_none]
      intro j hj
      have := List.mem_range.mp hj
      rw [hpre j (by omega)]
      decide
    rw [e]
    split <;> exact hl1
  · refine k S' (a1.mono rfl) ?_
    rw [if_neg y]
    exact hl1
  · refine s9_isEnough hW hR1 (hH.kp a1 (fun _ => rfl) (fun _ => rfl) (fun _ => rfl) (fun _ => rfl)) hx rx1 hg hl1 (by omega) y (fun r S2 a2 hr => ?_)
    rcases hr with ⟨h1, h2⟩ | ⟨h1, h2⟩
    · refine ⟨fun _ => ?_, fun w => by omega⟩
      have e := find_range (N := (P 54 1).toNat) (by omega) h2 hpre
      rw [if_pos y, e] at k
      have hl2 := hl1.kp a2 rfl (fun _ => rfl) (fun _ => rfl) (fun _ => rfl) (fun _ => rfl)
      exact s9_keeps hl2 (by omega) (fun S3 a3 b3 => k S3 ((a1.mono rfl).tr ((a2.mono rfl).tr (a3.mono rfl))) b3)
    · refine ⟨fun w => absurd h1 w, fun _ => ⟨⟨by omega, by omega⟩, hk2 S2 (by omega) ⟨a1.tr a2, n + 1, by omega, fun j hj => ?_⟩⟩⟩
      by_cases e : j = n
      · rw [e]; exact h2
      · exact hpre j (by omega)
theorem s9_goesOn {Q : xS → Prop} (hW : pw_WF P) (hR : pw_R P S) (hx : xa P md X) (hb : xb X) (hrb : rb P md X S) (hne : ¬ (X 0 2 ≠ 0 ∨ 2000 ≤ X 0 0 ∨ X 0 0 ≤ X 0 1)) (k : ∀ S' : xS, kp rx_Lg S S' → rb P md (sx_go P md X) S' → Q S') : w_X9_goesOn S Q := by
  obtain ⟨hrx, he1, he0, hrg⟩ := hrb
  have hf : X 0 2 = 0 := by omega
  have rg0 := hrg hf
  have h14 := he0 hne
  have hn := hx.1
  obtain ⟨b1, b2, b3, b4, b5⟩ := hb
  have gg : 0 ≤ X 0 1 ∧ X 0 1 < X 0 0 := by omega
  have gx := hx.2.1 (X 0 1) gg.1 gg.2
  have bb := b5 hf
  obtain ⟨c1, c2, c3, c4, c5, c6, c7, c8, c9, c10⟩ := id hrx
  generalize hgq : X 0 1 = g at *
  have eX1 : xup X 0 1 (X 0 1 + 1) = xup X 0 1 (g + 1) := by rw [hgq]
  unfold sx_go at k
  rw [eX1, hgq] at k
  unfold w_X9_goesOn
  rw [c2]
  have a1 : kp [(54, 6)] S (xup S 54 6 (g + 1)) := kp.rf.up rfl
  have rx1 : rx P md (xup X 0 1 (g + 1)) (xup S 54 6 (g + 1)) := rx_chg hrx a1 rfl ⟨rfl, rfl, rfl, rfl, rfl⟩ rfl c3 c4 (fun z => absurd hf z) c9 c10
  have x1 : xa P md (xup X 0 1 (g + 1)) := hx.up0 _ _ rfl
  have r67 : S 67 g = X 1 g := (c7 g gg.1 gg.2).1
  rw [r67]
  have hlen := mvs.b hW gx.2.1
  refine ⟨by omega, by omega, s9_opens gx.1.b.1 (fun S1 a2 b2' => s9_finds hW ((hR.kp a1 rfl).kp a2 rfl) b2' (sv_V.dec _) (by have := mv_all.b hW gx.2.1; omega) (fun S2 a3 l3 => ?_))⟩
  have rx2 := rx_kp (rx_kp rx1 a2 rfl) (S' := S2) a3 rfl
  have hR2 := ((hR.kp a1 rfl).kp a2 rfl).kp a3 rfl
  have hH2 := b2'.kp a3 (fun _ => rfl) (fun _ => rfl) (fun _ => rfl) (fun _ => rfl)
  have k2 : kp rx_Lg S S2 := (a1.mono rfl).tr ((a2.mono rfl).tr (a3.mono rfl))
  have e11 : S2 54 11 = X 0 6 := rx2.2.2.2.2.2.2.2.2.1
  have e14 : S2 54 14 = 0 := (a3 54 14 rfl).trans ((a2 54 14 rfl).trans h14)
  rw [e11]
  have a4 : kp [(73, -9)] S2 (xup S2 73 g (X 0 6)) := kp.rf.up rfl
  have rx3 := rx_kp rx2 a4 rfl
  have rg3 : rgA g X (xup S2 73 g (X 0 6)) := by
    intro s s0 s1
    rw [xup_at]
    by_cases h : s = g
    · rw [if_pos ⟨rfl, h⟩, h]; exact bb.2.symm
    · rw [if_neg (fun w => h w.2), a3 73 s rfl, a2 73 s rfl]
      exact rg0 (by omega) s s0 s1
  -- behind the loop
  have tail : ∀ (Y S3 : xS), kp rx_Lg S S3 → rx P md Y S3 → rcut Y S3 → rgA g Y S3 → Y 0 1 = g + 1 → g < Y 0 0 → xa P md Y → (Y 0 2 = 0 → ∀ S' : xS, kp rx_Lg S S' → rb P md (xup Y 5 (g + 1) (Y 0 6)) S' → Q S') → (Y 0 2 ≠ 0 → ∀ S' : xS, kp rx_Lg S S' → rb P md Y S' → Q S') → w_X9_goesOn_J278 S Q S3 := by
    intro Y S3 aa r3 c3' g3 y1 yg xy kq kq2
    have d11 := r3.2.2.2.2.2.2.2.2.1
    have ny := xy.1
    have y2 := xy.2.2.2.2.2.1
    have done : ∀ f : Int, ((Y 0 2 ≠ 0 ∨ 2000 ≤ Y 0 0 ∨ Y 0 0 ≤ Y 0 1) → f = 1) → (¬ (Y 0 2 ≠ 0 ∨ 2000 ≤ Y 0 0 ∨ Y 0 0 ≤ Y 0 1) → f = 0) → Q (xup (xup S3 73 (g + 1) (Y 0 6)) 54 14 f) := by
      intro f f1 f0
      have a5 : kp [(73, -9), (54, 14)] S3 (xup (xup S3 73 (g + 1) (Y 0 6)) 54 14 f) := (kp.rf.up rfl).up rfl
      have r5 := rx_kp r3 a5 rfl
      by_cases hy : Y 0 2 = 0
      · refine kq hy _ (aa.tr (a5.mono rfl)) ⟨rx_chg r5 (kp.rf (L := [])) rfl ⟨rfl, rfl, rfl, rfl, rfl⟩ r5.2.1 r5.2.2.1 r5.2.2.2.1 r5.2.2.2.2.1 r5.2.2.2.2.2.2.2.2.1 r5.2.2.2.2.2.2.2.2.2, f1, f0, fun _ _ s s0 s1 => ?_⟩
        have s1' : s ≤ g + 1 := by have : s ≤ Y 0 1 := s1; omega
        show (xup S3 73 (g + 1) (Y 0 6)) 73 s = (xup Y 5 (g + 1) (Y 0 6)) 5 s
        rw [xup_at, xup_at]
        by_cases h : s = g + 1
        · rw [if_pos ⟨rfl, h⟩, if_pos ⟨rfl, h⟩]
        · rw [if_neg (fun w => h w.2), if_neg (fun w => h w.2)]
          exact g3 s s0 (by omega)
      · exact kq2 hy _ (aa.tr (a5.mono rfl)) ⟨r5, f1, f0, fun w => absurd w hy⟩
    unfold w_X9_goesOn_J278
    rw [c2, d11, r3.2.1, r3.1, y1]
    refine ⟨by omega, fun z => done 1 (fun _ => rfl) (fun w => ?_), fun z => ⟨fun w => done 0 (fun h => ?_) (fun _ => rfl), fun w => done 1 (fun _ => rfl) (fun h => by omega)⟩⟩
    · have : Y 0 2 ≠ 0 ∨ 2000 ≤ Y 0 0 := by
        by_cases h : Y 0 2 ≠ 0 ∨ 2000 ≤ Y 0 0
        · exact h
        · exact absurd (c3'.2 h) z
      omega
    · exfalso
      by_cases h' : Y 0 2 ≠ 0 ∨ 2000 ≤ Y 0 0
      · have := c3'.1 h'; omega
      · omega
  have j69 : ∀ (Y0 S3 : xS), kp rx_Lg S S3 → rx P md Y0 S3 → rcut Y0 S3 → rgA g X S3 → pw_R P S3 → sv_N 75 (sv_dec (X 1 g)) S3 → mv_LR (mvs P (sv_dec (X 1 g))) S3 → xa P md Y0 → Y0 0 1 = g + 1 → Y0 0 0 = X 0 0 → Y0 1 = X 1 → Y0 5 = X 5 → Y0 0 3 = X 0 3 → Y0 0 6 = X 0 6 → (∀ Y : xS, Y = sx_ml P md g (sx_ms P md Y0 g) Y0 → (Y 0 2 = 0 → ∀ S' : xS, kp rx_Lg S S' → rb P md (xup Y 5 (g + 1) (Y 0 6)) S' → Q S') ∧ (Y 0 2 ≠ 0 → ∀ S' : xS, kp rx_Lg S S' → rb P md Y S' → Q S')) → w_X9_goesOn_J69 S Q S3 := by
    intro Y0 S3 aa r3 c3' g3 R3 H3 l3' xy y1 y0 e1 e5 e3 e6 kq
    have sub := sx_ms.sub P md Y0 g
    refine s9_pick (X := Y0) (Q := Q) hW R3 (by rw [e1]; exact H3) xy r3 (by omega) (by rw [e1]; exact l3') (fun S4 a4 l4 => ?_)
    have r4 := rx_kp r3 a4 rfl
    have lim : (sx_ms P md Y0 g).length ≤ 392 := Nat.le_trans sub.2 (by rw [e1]; exact hlen)
    refine s9_loop (X := Y0) (g := g) hW (R3.kp a4 rfl) (by rw [e1]; exact H3.kp a4 (fun _ => rfl) (fun _ => rfl) (fun _ => rfl) (fun _ => rfl)) xy r4 ⟨fun h => (a4 54 14 rfl).trans (c3'.1 h), fun h => (a4 54 14 rfl).trans (c3'.2 h)⟩ (by omega) (by omega) (by omega) l4 sub.1 lim c2 (fun S5 a5 r5 c5' => ?_)
    obtain ⟨q1, q2, q3, q4, q5, q6⟩ := xa.ml hW (sx_ms P md Y0 g) Y0 (g := g) xy (by omega) sub.1
    have kq' := kq _ rfl
    generalize sx_ml P md g (sx_ms P md Y0 g) Y0 = Y at *
    refine tail Y S5 (aa.tr ((a4.mono rfl).tr (a5.mono rfl))) r5 c5' (fun s s0 s1 => ?_) (q3.trans y1) (by omega) q1 kq'.1 kq'.2
    rw [a5 73 s rfl, a4 73 s rfl, q6, e5]
    exact g3 s s0 s1
  have hl4 := l3.kp a4 rfl (fun _ => rfl) (fun _ => rfl) (fun _ => rfl) (fun _ => rfl)
  have hR4 := hR2.kp a4 rfl
  have hH4 := hH2.kp a4 (fun _ => rfl) (fun _ => rfl) (fun _ => rfl) (fun _ => rfl)
  have k4 : kp rx_Lg S (xup S2 73 g (X 0 6)) := k2.tr (a4.mono rfl)
  have plain : ¬ (mvs P (sv_dec (X 1 g)) = [] ∧ sx_st P (sv_dec (X 1 g)) = true) → w_X9_goesOn_J69 S Q (xup S2 73 g (X 0 6)) := by
    intro hnd
    rw [if_neg hnd] at k
    refine j69 (xup X 0 1 (g + 1)) _ k4 rx3 ⟨fun h => ?_, fun _ => e14⟩ rg3 hR4 hH4 hl4 x1 rfl rfl rfl rfl rfl rfl (fun Y eY => ?_)
    · exfalso
      have h' : X 0 2 ≠ 0 ∨ 2000 ≤ X 0 0 := h
      omega
    · subst eY
      exact ⟨fun _ => k, fun hy S' a r => k S' a ⟨r.1, r.2.1, r.2.2.1, fun w => absurd w hy⟩⟩
  refine ⟨fun z => plain (fun h => z ?_), fun z => s9_isStuck hW hR4 hH4 (sv_V.dec _) (fun hs => ⟨fun w => by omega, fun _ => ?_⟩) (fun hs => ⟨fun _ => plain (fun h => by rw [h.2] at hs; cases hs), fun w => absurd rfl w⟩)⟩
  · rw [l3.1, h.1]; rfl
  · have hnil : mvs P (sv_dec (X 1 g)) = [] := by
      have := l3.1
      exact List.eq_nil_of_length_eq_zero (by omega)
    rw [if_pos ⟨hnil, hs⟩] at k
    have a5 : kp [(54, 7), (54, 8), (54, 14)] (xup S2 73 g (X 0 6)) (xup (xup (xup (xup S2 73 g (X 0 6)) 54 7 100) 54 8 g) 54 14 1) := ((kp.rf.up rfl).up rfl).up rfl
    have xd : xa P md (xup (xup (xup X 0 1 (g + 1)) 0 2 100) 0 4 g) := by
      obtain ⟨q1, q2, q3, q4, q5, q6, q7, q8⟩ := hx
      exact ⟨q1, q2, q3, q4, q5, Or.inr ⟨gg, Or.inr (Or.inl ⟨rfl, hnil, hs⟩)⟩, q7, q8⟩
    refine j69 (xup (xup (xup X 0 1 (g + 1)) 0 2 100) 0 4 g) _ (k4.tr (a5.mono rfl)) (rx_chg rx3 a5 rfl ⟨rfl, rfl, rfl, rfl, rfl⟩ rx3.2.1 rfl rx3.2.2.2.1 (fun _ => ⟨rfl, fun w => ?_⟩) rx3.2.2.2.2.2.2.2.2.1 rx3.2.2.2.2.2.2.2.2.2) ⟨fun _ => rfl, fun w => absurd (Or.inl (show (100 : Int) ≠ 0 by decide)) w⟩ (fun s s0 s1 => rg3 s s0 s1) (hR4.kp a5 rfl) (hH4.kp a5 (fun _ => rfl) (fun _ => rfl) (fun _ => rfl) (fun _ => rfl)) (hl4.kp a5 rfl (fun _ => rfl) (fun _ => rfl) (fun _ => rfl) (fun _ => rfl)) xd rfl rfl rfl rfl rfl rfl (fun Y eY => ?_)
    · have w' : (100 : Int) = 97 := w
      omega
    · have hms : sx_ms P md (xup (xup (xup X 0 1 (g + 1)) 0 2 100) 0 4 g) g = [] := by
        have := (sx_ms.sub P md (xup (xup (xup X 0 1 (g + 1)) 0 2 100) 0 4 g) g).2
        have e : (mvs P (sv_dec ((xup (xup (xup X 0 1 (g + 1)) 0 2 100) 0 4 g) 1 g))).length = 0 := by
          show (mvs P (sv_dec (X 1 g))).length = 0
          rw [hnil]; rfl
        exact List.eq_nil_of_length_eq_zero (by omega)
      rw [hms] at eY
      have eY' : Y = xup (xup (xup X 0 1 (g + 1)) 0 2 100) 0 4 g := eY
      subst eY'
      exact ⟨fun w => absurd w (show (100 : Int) ≠ 0 by decide), fun _ => k⟩
theorem s9_searchL {Q : Int → xS → Prop} {b : Int} {S0 : xS} (hW : pw_WF P) (hR : pw_R P S) (hx : xa P md X) (hb : xb X) (hrb : rb P md X S) (hbu : 0 ≤ b ∧ b ≤ 500) (h0 : S0 54 5 = X 0 0) (k : ∀ S' : xS, kp rx_Lg S S' → rb P md (sx_sr P md b.toNat X) S' → Q ((sx_sr P md b.toNat X) 0 0 - X 0 0) S') : xL1 (w_X9_search_L33 b Q S0) 0 S := by
  have hn := hx.1
  generalize hF : sx_sr P md b.toNat X = F at *
  refine xL1_up b (fun v S' => kp rx_Lg S S' ∧ ∃ Y : xS, 0 ≤ v ∧ rb P md Y S' ∧ xa P md Y ∧ xb Y ∧ sx_sr P md (b - v).toNat Y = F) ?_ 0 S (by omega) ⟨kp.rf, X, by omega, hrb, hx, hb, by rw [show b - 0 = b by omega]; exact hF⟩
  rintro v S' ⟨a1, Y, hv0, cY, xY, bY, eF⟩ hv k2 hk2
  have nY := xY.1
  have fin : Y = F → (-2147483648 ≤ S' 54 5 - S0 54 5 ∧ S' 54 5 - S0 54 5 < 2147483648) ∧ Q (S' 54 5 - S0 54 5) S' := by
    rintro rfl
    rw [cY.1.1, h0]
    exact ⟨by omega, k S' a1 cY⟩
  refine ⟨fun z => fin ?_, fun z => ⟨fun he => fin ?_, fun he => ?_⟩⟩
  · rw [show (b - v).toNat = 0 by omega] at eF
    exact eF
  · have he' : Y 0 2 ≠ 0 ∨ 2000 ≤ Y 0 0 ∨ Y 0 0 ≤ Y 0 1 := by
      by_cases h : Y 0 2 ≠ 0 ∨ 2000 ≤ Y 0 0 ∨ Y 0 0 ≤ Y 0 1
      · exact h
      · exact absurd (cY.2.2.1 h) he
    rw [show (b - v).toNat = (b - v).toNat - 1 + 1 by omega] at eF
    have e : sx_sr P md ((b - v).toNat - 1 + 1) Y = Y := by
      show (if _ then _ else _) = _
      rw [if_pos he']
    rw [e] at eF
    exact eF
  · have he' : ¬ (Y 0 2 ≠ 0 ∨ 2000 ≤ Y 0 0 ∨ Y 0 0 ≤ Y 0 1) := fun h => by have := cY.2.1 h; omega
    have hlen : (mvs P (sv_dec (Y 1 (Y 0 1)))).length ≤ 392 := mvs.b hW (xY.2.1 _ bY.1.1 (by omega)).2.1
    obtain ⟨x2, b2, -⟩ := xa.go hW xY bY (by omega) (by omega) hlen
    refine s9_goesOn hW (hR.kp a1 rfl) xY bY cY he' (fun S2 a2 c2 => ⟨⟨by omega, by omega⟩, hk2 S2 (by omega) ⟨a1.tr a2, sx_go P md Y, by omega, c2, x2, b2, ?_⟩⟩)
    rw [show (b - v).toNat = (b - (v + 1)).toNat + 1 by omega] at eF
    have e : sx_sr P md ((b - (v + 1)).toNat + 1) Y = sx_sr P md (b - (v + 1)).toNat (sx_go P md Y) := by
      show (if _ then _ else _) = _
      rw [if_neg he']
    rw [e] at eF
    exact eF
end PWR2


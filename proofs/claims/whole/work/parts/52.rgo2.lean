/-! pure layer: the reference's step and its search -/
abbrev rx_Lg : List (Nat × Int) := [(54, 5), (54, 6), (54, 7), (54, 8), (54, 9), (54, 10), (54, 11), (54, 12), (54, 14), (67, -9), (68, -9), (69, -9), (70, -9), (71, -9), (72, -9), (73, -9), (74, -9), (75, -9), (76, -9), (77, -9), (78, -9), (79, -9), (80, -9), (81, -9), (82, -9), (83, -9), (84, -9), (85, -9), (86, -9)]
/-- where edges begin, as the reference has it -/
def rg (g : Int) (X S : xS) : Prop := ∀ s : Int, 0 ≤ s → s ≤ g → S 73 s = X 5 s
/-- between two states -/
def rb (P : xS) (md : Int) (X S : xS) : Prop := rx P md X S ∧ ((X 0 2 ≠ 0 ∨ 2000 ≤ X 0 0 ∨ X 0 0 ≤ X 0 1) → S 54 14 = 1) ∧ (¬ (X 0 2 ≠ 0 ∨ 2000 ≤ X 0 0 ∨ X 0 0 ≤ X 0 1) → S 54 14 = 0) ∧ (X 0 2 = 0 → rg (X 0 1) X S)
section PWR2
variable {P S X : xS} {md : Int}
theorem s9_pick {Q : xS → Prop} {j113 : xS → Prop} {g : Int} (hW : pw_WF P) (hR : pw_R P S) (hH : sv_N 75 (sv_dec (X 1 g)) S) (hx : xa P md X) (hrx : rx P md X S) (hg : 0 ≤ g ∧ g < X 0 0) (hl : mv_LR (mvs P (sv_dec (X 1 g))) S) (k : ∀ S' : xS, kp [(54, 10), (83, -9), (84, -9), (85, -9), (86, -9), (79, -9), (80, -9), (81, -9), (82, -9)] S S' → mv_LR (sx_ms P md X g) S' → j113 S') : xL1 (w_X9_goesOn_L71 j113 (w_X9_goesOn_J99 j113)) 0 S := by
  have w0 := hW.1
  have gx := hx.2.1 g hg.1 hg.2
  have hlen := mvs.b hW gx.2.1
  unfold sx_ms at k
  refine xL1_up (P 54 1) (fun v S' => kp sv_L9n S S' ∧ ∃ n : Nat, v = (n : Int) ∧ ∀ j : Nat, j < n → sx_en P md X g j = false) ?_ 0 S (by omega) ⟨kp.rf, 0, rfl, fun j hj => by omega⟩
  rintro v S' ⟨a1, n, rfl, hpre⟩ hv k2 hk2
  have hl1 := hl.kp a1 rfl (fun _ => rfl) (fun _ => rfl) (fun _ => rfl) (fun _ => rfl)
  have hR1 := hR.kp a1 rfl
  have rx1 := rx_kp hrx a1 rfl
  unfold w_X9_goesOn_L71
  rw [hR1.1, rx1.2.2.2.2.2.1]
  refine ⟨fun z => ?_, fun z => ⟨fun y => ?_, fun y => ?_⟩⟩
  · refine k S' (a1.mono rfl) ?_
    have e : (List.range (P 54 1).toNat).find? (fun p => sx_en P md X g p) = none := by
      rw [List.find?_eq_none]
      intro j hj
      have := List.mem_range.mp hj
      rw [hpre j (by omega)]
      decide
    rw [e]
    split <;> exact hl1
  · refine k S' (a1.mono rfl) ?_
    rw [if_neg y]
    exact hl1
  · refine s9_isEnough hW hR1 (hH.kp a1 (fun _ => rfl) (fun _ => rfl) (fun _ => rfl) (fun _ => rfl)) hx rx1 hg hl1 (by omega) y (fun r S2 a2 hr => ?_)
    rcases hr with ⟨h1, h2⟩ | ⟨h1, h2⟩
    · refine ⟨fun _ => ?_, fun w => by omega⟩
      have e := find_range (N := (P 54 1).toNat) (by omega) h2 hpre
      rw [if_pos y, e] at k
      have hl2 := hl1.kp a2 rfl (fun _ => rfl) (fun _ => rfl) (fun _ => rfl) (fun _ => rfl)
      exact s9_keeps hl2 (by omega) (fun S3 a3 b3 => k S3 ((a1.mono rfl).tr ((a2.mono rfl).tr (a3.mono rfl))) b3)
    · refine ⟨fun w => absurd h1 w, fun _ => ⟨⟨by omega, by omega⟩, hk2 S2 (by omega) ⟨a1.tr a2, n + 1, by omega, fun j hj => ?_⟩⟩⟩
      by_cases e : j = n
      · rw [e]; exact h2
      · exact hpre j (by omega)
theorem s9_goesOn {Q : xS → Prop} (hW : pw_WF P) (hR : pw_R P S) (hx : xa P md X) (hb : xb X) (hrb : rb P md X S) (hne : ¬ (X 0 2 ≠ 0 ∨ 2000 ≤ X 0 0 ∨ X 0 0 ≤ X 0 1)) (k : ∀ S' : xS, kp rx_Lg S S' → rb P md (sx_go P md X) S' → Q S') : w_X9_goesOn S Q := by
  obtain ⟨hrx, he1, he0, hrg⟩ := hrb
  have hf : X 0 2 = 0 := by omega
  have rg0 := hrg hf
  have h14 := he0 hne
  have hn := hx.1
  obtain ⟨b1, b2, b3, b4, b5⟩ := hb
  have gg : 0 ≤ X 0 1 ∧ X 0 1 < X 0 0 := by omega
  have gx := hx.2.1 (X 0 1) gg.1 gg.2
  have bb := b5 hf
  obtain ⟨c1, c2, c3, c4, c5, c6, c7, c8, c9, c10⟩ := id hrx
  generalize hgq : X 0 1 = g at *
  have eX1 : xup X 0 1 (X 0 1 + 1) = xup X 0 1 (g + 1) := by rw [hgq]
  unfold sx_go at k
  rw [eX1, hgq] at k
  unfold w_X9_goesOn
  rw [c2]
  have a1 : kp [(54, 6)] S (xup S 54 6 (g + 1)) := kp.rf.up rfl
  have rx1 : rx P md (xup X 0 1 (g + 1)) (xup S 54 6 (g + 1)) := rx_chg hrx a1 rfl ⟨rfl, rfl, rfl, rfl, rfl⟩ rfl c3 c4 (fun z => absurd hf z) c9 c10
  have x1 : xa P md (xup X 0 1 (g + 1)) := hx.up0 _ _ rfl
  have r67 : S 67 g = X 1 g := (c7 g gg.1 gg.2).1
  rw [r67]
  have hlen := mvs.b hW gx.2.1
  refine ⟨by omega, by omega, s9_opens gx.1.b.1 (fun S1 a2 b2' => s9_finds hW ((hR.kp a1 rfl).kp a2 rfl) b2' (sv_V.dec _) (by have := mv_all.b hW gx.2.1; omega) (fun S2 a3 l3 => ?_))⟩
  have rx2 := rx_kp (rx_kp rx1 a2 rfl) (S' := S2) a3 rfl
  have hR2 := ((hR.kp a1 rfl).kp a2 rfl).kp a3 rfl
  have hH2 := b2'.kp a3 (fun _ => rfl) (fun _ => rfl) (fun _ => rfl) (fun _ => rfl)
  have k2 : kp rx_Lg S S2 := (a1.mono rfl).tr ((a2.mono rfl).tr (a3.mono rfl))
  have e11 : S2 54 11 = X 0 6 := rx2.2.2.2.2.2.2.2.2.1
  have e14 : S2 54 14 = 0 := (a3 54 14 rfl).trans ((a2 54 14 rfl).trans h14)
  rw [e11]
  have a4 : kp [(73, -9)] S2 (xup S2 73 g (X 0 6)) := kp.rf.up rfl
  have rx3 := rx_kp rx2 a4 rfl
  have rg3 : rg g X (xup S2 73 g (X 0 6)) := by
    intro s s0 s1
    rw [xup_at]
    by_cases h : s = g
    · rw [if_pos ⟨rfl, h⟩, h]; exact bb.2.symm
    · rw [if_neg (fun w => h w.2), a3 73 s rfl, a2 73 s rfl]
      exact rg0 s s0 s1
  -- behind the loop
  have tail : ∀ (Y S3 : xS), kp rx_Lg S S3 → rx P md Y S3 → rcut Y S3 → rg g Y S3 → Y 0 1 = g + 1 → xa P md Y → (Y 0 2 = 0 → ∀ S' : xS, kp rx_Lg S S' → rb P md (xup Y 5 (g + 1) (Y 0 6)) S' → Q S') → (Y 0 2 ≠ 0 → ∀ S' : xS, kp rx_Lg S S' → rb P md Y S' → Q S') → w_X9_goesOn_J278 S Q S3 := by
    intro Y S3 aa r3 c3' g3 y1 xy kq kq2
    have d11 := r3.2.2.2.2.2.2.2.2.1
    have ny := xy.1
    have y2 := xy.2.2.2.2.2.1
    have done : ∀ f : Int, ((Y 0 2 ≠ 0 ∨ 2000 ≤ Y 0 0 ∨ Y 0 0 ≤ Y 0 1) → f = 1) → (¬ (Y 0 2 ≠ 0 ∨ 2000 ≤ Y 0 0 ∨ Y 0 0 ≤ Y 0 1) → f = 0) → Q (xup (xup S3 73 (g + 1) (Y 0 6)) 54 14 f) := by
      intro f f1 f0
      have a5 : kp [(73, -9), (54, 14)] S3 (xup (xup S3 73 (g + 1) (Y 0 6)) 54 14 f) := (kp.rf.up rfl).up rfl
      have r5 := rx_kp r3 a5 rfl
      by_cases hy : Y 0 2 = 0
      · refine kq hy _ (aa.tr (a5.mono rfl)) ⟨rx_chg r5 (kp.rf (L := [])) rfl ⟨rfl, rfl, rfl, rfl, rfl⟩ r5.2.1 r5.2.2.1 r5.2.2.2.1 r5.2.2.2.2.1 r5.2.2.2.2.2.2.2.2.1 r5.2.2.2.2.2.2.2.2.2, f1, f0, fun _ s s0 s1 => ?_⟩
        have s1' : s ≤ g + 1 := by have : s ≤ Y 0 1 := s1; omega
        show (xup S3 73 (g + 1) (Y 0 6)) 73 s = (xup Y 5 (g + 1) (Y 0 6)) 5 s
        rw [xup_at, xup_at]
        by_cases h : s = g + 1
        · rw [if_pos ⟨rfl, h⟩, if_pos ⟨rfl, h⟩]
        · rw [if_neg (fun w => h w.2), if_neg (fun w => h w.2)]
          exact g3 s s0 (by omega)
      · exact kq2 hy _ (aa.tr (a5.mono rfl)) ⟨r5, f1, f0, fun w => absurd w hy⟩
    unfold w_X9_goesOn_J278
    rw [c2, d11, r3.2.1, r3.1, y1]
    refine ⟨by omega, fun z => done 1 (fun _ => rfl) (fun w => ?_), fun z => ⟨fun w => done 0 (fun h => ?_) (fun _ => rfl), fun w => done 1 (fun _ => rfl) (fun h => by omega)⟩⟩
    · have : Y 0 2 ≠ 0 ∨ 2000 ≤ Y 0 0 := by
        by_cases h : Y 0 2 ≠ 0 ∨ 2000 ≤ Y 0 0
        · exact h
        · exact absurd (c3'.2 h) z
      omega
    · exfalso
      by_cases h' : Y 0 2 ≠ 0 ∨ 2000 ≤ Y 0 0
      · have := c3'.1 h'; omega
      · sorry
  sorry
end PWR2

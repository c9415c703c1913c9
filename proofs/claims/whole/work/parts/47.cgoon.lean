/-! pure layer: the class's search from state to state -/
def al_ (P : xS) (md : Int) (X : xS) (g : Int) (r : Int) : Prop := (r = -1 ∧ (List.range (P 54 1).toNat).find? (fun p => sx_en P md X g p) = none) ∨ (∃ n : Nat, r = (n : Int) ∧ (List.range (P 54 1).toNat).find? (fun p => sx_en P md X g p) = some n)
theorem find_range {p : Nat → Bool} {N n : Nat} (hn : n < N) (h : p n = true) (h' : ∀ j : Nat, j < n → p j = false) : (List.range N).find? p = some n := by
  rw [List.find?_eq_some_iff_getElem]
  refine ⟨h, n, by simpa using hn, by simp, fun j hj => ?_⟩
  simp [h' j hj]
abbrev cx_Lg : List (Nat × Int) := [(2, 8), (2, 11), (2, 12), (2, 13), (22, -9), (4, 0), (25, -9), (26, -9), (27, -9), (28, -9), (29, -9), (30, -9), (31, -9), (36, -9), (37, -9), (38, -9), (39, -9), (40, -9), (41, -9), (42, -9), (43, -9), (44, -9), (45, -9), (6, 2), (35, -9), (33, -9), (5, 0), (5, 3), (32, -9), (34, -9)]
section PWGO
variable {P S X : xS} {md : Int}
theorem s6_alone {Q : Int → xS → Prop} {g : Int} (hW : pw_WF P) (hC : pw_C P S) (hH : sv_H 36 (sv_dec (X 1 g)) S) (hx : xa P md X) (hcx : cx P md X S) (hg : 0 ≤ g ∧ g < X 0 0) (hl : mv_LC (mvs P (sv_dec (X 1 g))) S) (k : ∀ (r : Int) (S' : xS), kp sv_Ln S S' → al_ P md X g r → Q r S') : w_X6_processThatGoesAlone S Q := by
  have w0 := hW.1
  have gx := hx.2.1 g hg.1 hg.2
  have hlen := mvs.b hW gx.2.1
  refine xL1_up (P 54 1) (fun v S' => kp sv_Ln S S' ∧ ∃ n : Nat, v = (n : Int) ∧ ∀ j : Nat, j < n → sx_en P md X g j = false) ?_ 0 S (by omega) ⟨kp.rf, 0, rfl, fun j hj => by omega⟩
  rintro v S' ⟨a1, n, rfl, hpre⟩ hv k2 hk2
  have hC1 := hC.kp a1 rfl
  have hH1 := hH.kp a1 (fun _ => rfl) (fun _ => rfl) (fun _ => rfl) (fun _ => rfl) (fun _ => rfl)
  have hl1 := hl.kp a1 rfl (fun _ => rfl)
  unfold w_X6_processThatGoesAlone_L2
  rw [hC1.1]
  refine ⟨fun z => k (-1) S' a1 (Or.inl ⟨rfl, ?_⟩), fun z => ⟨⟨by omega, by omega⟩, ?_⟩⟩
  · rw [List.find?_eq_none]
    intro j hj
    have := List.mem_range.mp hj
    rw [hpre j (by omega)]
    decide
  · have next : ∀ S2 : xS, kp sv_Ln S S2 → sx_en P md X g n = false → (-2147483648 ≤ (n : Int) + 1 ∧ (n : Int) + 1 < 2147483648) ∧ k2 (n + 1) S2 := fun S2 b h => ⟨⟨by omega, by omega⟩, hk2 S2 (by omega) ⟨b, n + 1, by omega, fun j hj => by
      by_cases e : j = n
      · rw [e]; exact h
      · exact hpre j (by omega)⟩⟩
    rw [show S' 36 n = sv_dec (X 1 g) 0 n from hH1.1 n (by omega) (by omega)]
    refine s4_isPrivate hW hC1 (by omega) (fun y1 => ⟨fun w => by omega, fun _ => ?_⟩) (fun y1 => ⟨fun _ => next S' a1 (by unfold sx_en; simp [y1]), fun w => absurd rfl w⟩)
    refine s3_hasLedBy hl1 hlen (fun m hm => ((mvs_mem hW hm).n hW rfl).2.1) (fun y2 => ⟨fun w => by omega, fun _ => ?_⟩) (fun y2 => ⟨fun _ => next S' a1 (by unfold sx_en; rw [y2]; simp), fun w => absurd rfl w⟩)
    refine s6_leadsNew hW hC1 hH1 hx (hcx.kp a1 rfl) hg hl1 (fun S2 a2 y3 => ⟨fun w => by omega, fun _ => k n S2 (a1.tr a2) (Or.inr ⟨n, rfl, ?_⟩)⟩) (fun S2 a2 y3 => ⟨fun _ => next S2 (a1.tr a2) (by unfold sx_en; rw [y3]; simp), fun w => absurd rfl w⟩)
    exact find_range (by omega) (by unfold sx_en; rw [y1, y2, y3]; rfl) hpre
/-- the moves one after the other -/
theorem s6_loop {j128 : xS → Prop} {g t : Int} {S0 : xS} (hW : pw_WF P) (hC : pw_C P S) (hH : sv_H 36 (sv_dec (X 1 g)) S) (hx : xa P md X) (hcx : cx P md X S) (hgl : gl md g X S) (hxm : xm g X) (hg : 0 ≤ g ∧ g < X 0 0) (h3 : X 0 3 ≤ 392 * g) (h6 : X 0 6 ≤ 392 * g) (hl : mv_LC (mvs P (sv_dec (X 1 g))) S) (h0 : S0 2 11 = g)
    (kf : ∀ S' : xS, kp cx_Lm S S' → cx P md (sx_ml P md g ((mvs P (sv_dec (X 1 g))).filter (fun m => decide (t = -1) || decide (m / 64 / 14 = t))) X) S' → gl md g (sx_ml P md g ((mvs P (sv_dec (X 1 g))).filter (fun m => decide (t = -1) || decide (m / 64 / 14 = t))) X) S' → j128 S') : xL1 (w_X6_goOnFromOne_L72 S0 t j128) 0 S := by
  have gx := hx.2.1 g hg.1 hg.2
  have hlen := mvs.b hW gx.2.1
  have hn := hx.1
  generalize hF : sx_ml P md g ((mvs P (sv_dec (X 1 g))).filter (fun m => decide (t = -1) || decide (m / 64 / 14 = t))) X = F at *
  refine xL1_up ((mvs P (sv_dec (X 1 g))).length : Int) (fun v S' => kp cx_Lm S S' ∧ ∃ (i : Nat) (Y : xS), v = (i : Int) ∧ cx P md Y S' ∧ gl md g Y S' ∧ xa P md Y ∧ xm g Y ∧ Y 0 3 ≤ X 0 3 + i ∧ Y 0 6 ≤ X 0 6 + i ∧ g < Y 0 0 ∧ Y 1 g = X 1 g ∧ sx_ml P md g (((mvs P (sv_dec (X 1 g))).drop i).filter (fun m => decide (t = -1) || decide (m / 64 / 14 = t))) Y = F) ?_ 0 S (by omega) ⟨kp.rf, 0, X, rfl, hcx, hgl, hx, hxm, by omega, by omega, hg.2, rfl, hF⟩
  rintro v S' ⟨a1, i, Y, rfl, cy, gy, xy, my, y3, y6, yg, y1, yF⟩ hv k2 hk2
  have hl1 := hl.kp a1 rfl (fun _ => rfl)
  unfold w_X6_goOnFromOne_L72
  rw [hl1.1]
  refine ⟨fun z => ?_, fun z => s6_cut xy cy (fun hc => ⟨fun _ => ⟨rfl, ?_⟩, fun w => by omega⟩) (fun hc => ⟨fun w => absurd rfl w, fun _ => ⟨by omega, ?_⟩⟩)⟩
  · have e : i = (mvs P (sv_dec (X 1 g))).length := by omega
    rw [e, List.drop_length] at yF
    have yF' : Y = F := yF
    subst yF'
    exact kf S' a1 cy gy
  · rw [sx_ml.cut hc] at yF
    subst yF
    exact kf S' a1 cy gy
  · have hi : i < (mvs P (sv_dec (X 1 g))).length := by omega
    have hm := List.getElem?_eq_getElem hi
    have hmem := List.getElem_mem hi
    have hdrop := List.drop_eq_getElem_cons hi
    rw [hl1.2 i _ hm]
    generalize (mvs P (sv_dec (X 1 g)))[i] = m at *
    rw [hdrop] at yF
    have made : (decide (t = -1) || decide (m / 64 / 14 = t)) = true → w_X6_goOnFromOne_J115 S0 k2 i S' S' := by
      intro hs
      rw [List.filter_cons_of_pos (by exact hs)] at yF
      have yF2 : sx_ml P md g ((List.drop (i + 1) (mvs P (sv_dec (X 1 g)))).filter (fun m => decide (t = -1) || decide (m / 64 / 14 = t))) (sx_mk P md Y g m) = F := by
        have e : sx_ml P md g (m :: (List.drop (i + 1) (mvs P (sv_dec (X 1 g)))).filter (fun m => decide (t = -1) || decide (m / 64 / 14 = t))) Y = sx_ml P md g ((List.drop (i + 1) (mvs P (sv_dec (X 1 g)))).filter (fun m => decide (t = -1) || decide (m / 64 / 14 = t))) (sx_mk P md Y g m) := by
          show (if Y 0 2 ≠ 0 ∨ 2000 ≤ Y 0 0 then Y else _) = _
          rw [if_neg hc]
        rw [← e]; exact yF
      unfold w_X6_goOnFromOne_J115
      rw [h0, hl1.2 i _ hm]
      have hm' : m ∈ mvs P (sv_dec (Y 1 g)) := by rw [y1]; exact hmem
      obtain ⟨q1, q2, q3, q4, q5, q6, q7⟩ := xa.mk hW xy ⟨hg.1, yg⟩ (by omega) (by omega) hm'
      refine s6_make hW (hC.kp a1 rfl) (by rw [y1]; exact hH.kp a1 (fun _ => rfl) (fun _ => rfl) (fun _ => rfl) (fun _ => rfl) (fun _ => rfl)) xy cy gy my ⟨hg.1, yg⟩ hc hm' (by omega) (by omega) (fun S2 a2 c2 g2 => ⟨⟨by omega, by omega⟩, hk2 S2 (by omega) ⟨a1.tr a2, i + 1, _, by omega, c2, g2, q1, my.mono q6 (by omega), by omega, by omega, by omega, by rw [q7 g yg]; exact y1, yF2⟩⟩)
    refine ⟨fun w => ⟨rfl, made (by simp [w])⟩, fun w => ?_⟩
    refine s3_leaderOf ((mvs_mem hW hmem).n hW rfl).2.1 ⟨fun w2 => ⟨⟨by omega, by omega⟩, rfl, ?_⟩, fun w2 => ⟨rfl, made (by simp [w2])⟩⟩
    rw [List.filter_cons_of_neg (by simp [w, w2])] at yF
    exact hk2 S' (by omega) ⟨a1, i + 1, Y, by omega, cy, gy, xy, my, by omega, by omega, yg, y1, yF⟩
/-- between two states -/
def cb (P : xS) (md : Int) (X S : xS) : Prop := cx P md X S ∧ S 32 0 = 0 ∧ cap_ (S 33 (-1)) ∧ (X 0 2 = 0 → gl md (X 0 1) X S)
theorem xm.of {X : xS} (hb : xb X) (hf : X 0 2 = 0) : xm (X 0 1) X := by
  obtain ⟨b1, b2, b3, b4, b5⟩ := hb
  have b := b5 hf
  have up : ∀ n : Nat, (n : Int) ≤ X 0 1 → 0 ≤ X 5 n := by
    intro n
    induction n with
    | zero => intro _; show 0 ≤ X 5 0; omega
    | succ n ih => intro h; have h1 := ih (by omega); have h2 := b.1 n (by omega) (by omega); have e : X 5 ((n + 1 : Nat) : Int) = X 5 ((n : Int) + 1) := rfl; omega
  have dn : ∀ n : Nat, (n : Int) ≤ X 0 1 → X 5 (X 0 1 - n) ≤ X 0 6 := by
    intro n
    induction n with
    | zero => intro _; rw [show X 0 1 - ((0 : Nat) : Int) = X 0 1 by omega]; omega
    | succ n ih =>
      intro h
      have h1 := ih (by omega)
      have h2 := b.1 (X 0 1 - (n + 1 : Nat)) (by omega) (by omega)
      rw [show X 0 1 - ((n + 1 : Nat) : Int) + 1 = X 0 1 - n by omega] at h2
      omega
  refine ⟨b.1, fun s s0 s1 => ⟨?_, ?_⟩⟩
  · have := up s.toNat (by omega)
    rw [Int.toNat_of_nonneg s0] at this
    exact this
  · have := dn (X 0 1 - s).toNat (by omega)
    rw [show X 0 1 - ((X 0 1 - s).toNat : Int) = s by omega] at this
    exact this
end PWGO

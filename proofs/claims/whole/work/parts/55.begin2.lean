/-! pure layer: begin on both sides -/
def zx : xS := fun _ _ => 0
abbrev cx_Lb : List (Nat × Int) := [(2, 8), (2, 9), (2, 10), (2, 11), (2, 12), (2, 13), (4, 0), (4, 1), (31, -9), (5, 0), (5, 3), (34, -9), (21, -9), (41, -9), (42, -9), (43, -9), (44, -9), (45, -9), (22, -9), (25, -9), (26, -9), (27, -9), (28, -9), (29, -9), (30, -9)]
section PWB2
variable {P S : xS} {md : Int}
theorem sv_rm.st (hW : pw_WF P) : sv_rm P (sv_0 P) := fun k a b => by
  have h2 := hW.2.1
  have := hW.2.2.2.2.2.1 k a (by omega)
  show (0 : Int) ≤ _
  omega
theorem xa.start (hW : pw_WF P) : xa P md (sx_add P zx (sv_enc (sv_0 P)) (-1) (-1)) ∧ xb (sx_add P zx (sv_enc (sv_0 P)) (-1) (-1)) := by
  obtain ⟨r1, r2, r3, r4⟩ := sx_add.rows P zx (sv_enc (sv_0 P)) (-1) (-1)
  obtain ⟨n1, n2, n3, n4, n5, n6, n7⟩ := sx_add.n P zx (sv_enc (sv_0 P)) (-1) (-1)
  have br := fun h => sx_add.br (P := P) (X := zx) (c := sv_enc (sv_0 P)) (g := -1) (m := -1) h
  have nb := fun h => sx_add.nb (P := P) (X := zx) (c := sv_enc (sv_0 P)) (g := -1) (m := -1) h
  have V := sv_V.st hW
  have ok := sv_ok.enc V
  have rm := (sv_rm.st hW).E hW (sv_E.de V).sy
  generalize sx_add P zx (sv_enc (sv_0 P)) (-1) (-1) = X at *
  have n1' : X 0 0 = 1 := n1
  have n2' : X 0 1 = 0 := n2
  have n3' : X 0 3 = 0 := n3
  have n4' : X 0 6 = 0 := n4
  have e1 : X 1 0 = sv_enc (sv_0 P) := by rw [r1]; exact if_pos rfl
  have e2 : X 2 0 = -1 := by rw [r2]; exact if_pos rfl
  have e4 : X 4 0 = 0 := by rw [r4]; exact if_pos rfl
  have e5 : X 5 0 = 0 := by rw [n5]; rfl
  refine ⟨⟨by omega, fun s s0 s1 => ?_, ⟨e1, e2, e4⟩, fun s s0 s1 => by omega, fun s t s0 s1 t0 t1 _ => by omega, ?_, by omega, fun e e0 e1 => by omega⟩, by omega, by omega, by omega, e5, fun _ => ⟨fun s s0 s1 => by omega, by rw [n2', n4']; exact e5⟩⟩
  · have : s = 0 := by omega
    subst this
    rw [e1, e4]
    exact ⟨ok, rm, by omega, by omega⟩
  · cases hb : sx_br P (sv_dec (sv_enc (sv_0 P))) with
    | true =>
      obtain ⟨b2, b4⟩ := br hb
      have b4' : X 0 4 = 0 := b4
      exact Or.inr ⟨by omega, Or.inl ⟨b2, by rw [b4', e1]; exact hb⟩⟩
    | false => exact Or.inl (nb hb)
theorem s6_beginIn {Q : xS → Prop} (hW : pw_WF P) (hC : pw_C P S) (hmd : md = 97 ∨ md = 112 ∨ md = 115 ∨ md = 104) (h32 : S 32 0 = 0) (hcap : cap_ (S 33 (-1))) (k : ∀ S' : xS, kp cx_Lb S S' → cb P md (sx_add P zx (sv_enc (sv_0 P)) (-1) (-1)) S' → S' 2 9 = 1 → Q S') : w_X6_beginIn md S Q := by
  have V := sv_V.st hW
  have xs := (xa.start (P := P) (md := md) hW)
  have j46 : ∀ t : Int, (md ≠ 104 ∧ t = 0) ∨ (md = 104 ∧ t = 1) → w_X6_beginIn_J46 Q t (xup (xup (xup (xup (xup (xup S 2 10 md) 2 9 1) 2 11 0) 2 12 0) 2 13 45) 2 8 0) := by
    intro t ht
    refine ⟨by omega, ?_⟩
    generalize hT : (xup (xup (xup (xfill (xup (xup (xup (xup (xup (xup (xup (xup S 2 10 md) 2 9 1) 2 11 0) 2 12 0) 2 13 45) 2 8 0) 4 1 t) 4 0 0) 31 4096 0) 5 0 0) 5 3 0) 34 0 0) = T
    show w_X6_findKin (xup (xup (xup (xfill (xup (xup (xup (xup (xup (xup (xup (xup S 2 10 md) 2 9 1) 2 11 0) 2 12 0) 2 13 45) 2 8 0) 4 1 t) 4 0 0) 31 4096 0) 5 0 0) 5 3 0) 34 0 0) _
    rw [hT]
    have a0 : kp cx_Lb S T := by
      rw [← hT]
      exact (((((((((((kp.rf.up rfl).up rfl).up rfl).up rfl).up rfl).up rfl).up rfl).up rfl).fill (fun _ => rfl)).up rfl).up rfl).up rfl
    have T40 : T 4 0 = 0 := by rw [← hT]; rfl
    have T41 : T 4 1 = t := by rw [← hT]; rfl
    have T29 : T 2 9 = 1 := by rw [← hT]; rfl
    have T210 : T 2 10 = md := by rw [← hT]; rfl
    have T211 : T 2 11 = 0 := by rw [← hT]; rfl
    have T212 : T 2 12 = 0 := by rw [← hT]; rfl
    have T213 : T 2 13 = 45 := by rw [← hT]; rfl
    have T31 : ∀ j : Int, 0 ≤ j → j < 4096 → T 31 j = 0 := by
      intro j j0 j1
      rw [← hT]
      show (xfill _ 31 4096 0) 31 j = 0
      rw [xfill_at, if_pos ⟨rfl, j0, j1⟩]
    have T50 : T 5 0 = 0 := by rw [← hT]; rfl
    have T53 : T 5 3 = 0 := by rw [← hT]; rfl
    have T34 : T 34 0 = 0 := by rw [← hT]; rfl
    refine s6_findKin (md := md) hW (hC.kp a0 rfl) T210 (fun S1 a1 hk => s7_start_n ((hC.kp a0 rfl).kp a1 rfl) (fun S2 a2 b2 => s7_pack_n b2 V ?_))
    have a12 : kp [(21, -9), (41, -9), (42, -9), (43, -9), (44, -9), (45, -9)] T S2 := (a1.mono rfl).tr (a2.mono rfl)
    have cx0 : cx P md zx S2 := by
      refine ⟨(a12 4 0 rfl).trans T40, (a12 2 11 rfl).trans T211, fun _ => (a12 2 13 rfl).trans T213, fun w => absurd rfl w, (a12 2 12 rfl).trans T212, fun s s0 s1 => ?_, ⟨fun w => ⟨?_, ?_⟩, fun w => ⟨?_, fun s s0 s1 => ?_, fun j j0 j1 => ?_⟩⟩, (a12 2 10 rfl).trans T210, hk.kp a2 (fun _ => rfl)⟩
      · have : s < 0 := s1
        omega
      · rw [a12 4 1 rfl, T41]; omega
      · rw [a12 4 0 rfl, T40]
        exact tb_ok.new (fun j j0 j1 => by rw [a12 31 j rfl]; exact T31 j j0 (by omega))
      · rw [a12 4 1 rfl, T41]; omega
      · rw [a12 4 0 rfl, T40] at s1; omega
      · rw [a12 31 j rfl]; exact Or.inl (T31 j j0 (by omega))
    refine s6_find (X := zx) (σ := sv_0 P) hW (((hC.kp a0 rfl).kp a1 rfl).kp a2 rfl) b2 V rfl cx0 (fun s s0 s1 => ?_) xs.1 (show (0 : Int) ≤ 0 ∧ (0 : Int) < 2000 by omega) rfl (fun s s0 s1 => ?_) (Or.inl ⟨rfl, rfl⟩) (fun S3 a3 cx3 => k S3 ((a0.tr (a12.mono rfl)).tr (a3.mono rfl)) ⟨cx3, ?_, ?_, fun _ => ?_⟩ ?_)
    · have : s < 0 := s1
      omega
    · have : s < 0 := s1
      omega
    · rw [a3 32 0 rfl, a12 32 0 rfl, a0 32 0 rfl]; exact h32
    · rw [a3 33 (-1) rfl, a12 33 (-1) rfl, a0 33 (-1) rfl]; exact hcap
    · obtain ⟨n1, n2, n3, n4, n5, n6, n7⟩ := sx_add.n P zx (sv_enc (sv_0 P)) (-1) (-1)
      generalize sx_add P zx (sv_enc (sv_0 P)) (-1) (-1) = X at *
      have n2' : X 0 1 = 0 := n2
      have n4' : X 0 6 = 0 := n4
      have n5' : X 5 = fun _ => 0 := n5
      rw [n2']
      refine ⟨?_, ?_, ?_, fun _ => ⟨?_, ?_, fun e e0 e1 => by omega, fun s s0 s1 => ?_, fun s s0 s1 => by omega, ?_⟩⟩
      · rw [a3 5 0 rfl, a12 5 0 rfl]; exact T50
      · rw [a3 32 0 rfl, a12 32 0 rfl, a0 32 0 rfl]; exact h32
      · rw [a3 33 (-1) rfl, a12 33 (-1) rfl, a0 33 (-1) rfl]; exact hcap
      · rw [a3 5 3 rfl, a12 5 3 rfl, n4']; exact T53
      · rw [n4', a3 33 (-1) rfl, a12 33 (-1) rfl, a0 33 (-1) rfl]
        unfold cap_ at hcap
        omega
      · have : s = 0 := by omega
        subst this
        rw [n5', a3 32 0 rfl, a12 32 0 rfl, a0 32 0 rfl]; exact h32
      · rw [n5', n4', a3 34 0 rfl, a12 34 0 rfl, T34]
        rfl
    · rw [a3 2 9 rfl, a12 2 9 rfl]; exact T29
  unfold w_X6_beginIn
  exact ⟨by omega, fun z => j46 0 (Or.inl ⟨z, rfl⟩), fun z => j46 1 (Or.inr ⟨z, rfl⟩)⟩
/-! the reference -/
abbrev rx_Lb : List (Nat × Int) := [(54, 0), (54, 4), (54, 5), (54, 6), (54, 7), (54, 8), (54, 11), (54, 12), (54, 13), (54, 14), (67, -9), (68, -9), (69, -9), (70, -9), (71, -9), (72, -9), (79, -9), (80, -9), (81, -9), (82, -9)]
theorem ex_3.start (hW : pw_WF P) : ex_3 (ex_K P md) (sv_0 P) = sv_0 P := by
  have h : ∀ p q : Int, (0 ≤ p ∧ p < 3) → (0 ≤ q ∧ q < 3) → ¬ (ex_K P md p q ∧ sv_sh (sv_0 P) q < sv_sh (sv_0 P) p) := by
    intro p q hp hq h
    have hl := h.1.2.2
    have e1 : sv_sh (sv_0 P) p = (0 * 4 + P 62 (3 + 2 * p)) * 4 + P 62 (4 + 2 * p) := rfl
    have e2 : sv_sh (sv_0 P) q = (0 * 4 + P 62 (3 + 2 * q)) * 4 + P 62 (4 + 2 * q) := rfl
    have := hl.2.2.2
    omega
  unfold ex_3
  rw [ex_c.neg (h 0 1 (by omega) (by omega)), ex_c.neg (h 0 2 (by omega) (by omega)), ex_c.neg (h 1 2 (by omega) (by omega))]
theorem s9_beginIn {Q : Int → xS → Prop} (hW : pw_WF P) (hR : pw_R P S) (hmd : md = 97 ∨ md = 112 ∨ md = 115 ∨ md = 104) (k : ∀ S' : xS, kp rx_Lb S S' → rb P md (sx_add P zx (sv_enc (sv_0 P)) (-1) (-1)) S' → S' 54 13 = 1 → S' 54 0 = 0 → Q (vd md (sx_add P zx (sv_enc (sv_0 P)) (-1) (-1)) % 65536) S') : w_X9_begin_J47 md Q 0 S := by
  have V := sv_V.st hW
  have xs := (xa.start (P := P) (md := md) hW)
  refine ⟨fun _ => ?_, fun z => by omega⟩
  generalize hT : (xup (xup (xup (xup (xup (xup (xup (xup (xup S 54 0 0) 54 4 md) 54 13 1) 54 14 0) 54 5 0) 54 6 0) 54 7 0) 54 12 0) 54 11 0) = T
  have a0 : kp rx_Lb S T := by
    rw [← hT]
    exact ((((((((kp.rf.up rfl).up rfl).up rfl).up rfl).up rfl).up rfl).up rfl).up rfl).up rfl
  have T0 : T 54 0 = 0 := by rw [← hT]; rfl
  have T4 : T 54 4 = md := by rw [← hT]; rfl
  have T5 : T 54 5 = 0 := by rw [← hT]; rfl
  have T6 : T 54 6 = 0 := by rw [← hT]; rfl
  have T7 : T 54 7 = 0 := by rw [← hT]; rfl
  have T11 : T 54 11 = 0 := by rw [← hT]; rfl
  have T12 : T 54 12 = 0 := by rw [← hT]; rfl
  have T13 : T 54 13 = 1 := by rw [← hT]; rfl
  have hR0 := hR.kp a0 rfl
  refine xL1_up 8192 (fun v S' => kp [(71, -9)] T S' ∧ 0 ≤ v ∧ ∀ j : Int, 0 ≤ j → j < v → S' 71 j = 0) ?_ 0 T (by omega) ⟨kp.rf, by omega, fun j _ _ => by omega⟩
  rintro v1 S1 ⟨a1, v0, z1⟩ hv1 k1 hk1
  refine ⟨fun y => ?_, fun y => ⟨by omega, by omega, hk1 _ (by omega) ⟨a1.up rfl, by omega, fun j j0 j1 => ?_⟩⟩⟩
  rotate_left
  · rw [xup_at]
    split
    · rfl
    · exact z1 j j0 (by omega)
  have z1' : ∀ j : Int, 0 ≤ j → j < 8192 → S1 71 j = 0 := fun j j0 j1 => z1 j j0 (by omega)
  refine xL1_up 509 (fun v S' => kp [(72, -9)] S1 S' ∧ 0 ≤ v ∧ ∀ j : Int, 0 ≤ j → j < v → S' 72 j = 0) ?_ 0 S1 (by omega) ⟨kp.rf, by omega, fun j _ _ => by omega⟩
  rintro v2 S2 ⟨a2, v20, z2⟩ hv2 k2 hk2
  refine ⟨fun y => ?_, fun y => ⟨by omega, by omega, hk2 _ (by omega) ⟨a2.up rfl, by omega, fun j j0 j1 => ?_⟩⟩⟩
  rotate_left
  · rw [xup_at]
    split
    · rfl
    · exact z2 j j0 (by omega)
  have z2' : ∀ j : Int, 0 ≤ j → j < 509 → S2 72 j = 0 := fun j j0 j1 => z2 j j0 (by omega)
  refine xL1_up 3 (fun v S' => kp [(79, -9)] S2 S' ∧ 0 ≤ v ∧ ∀ j : Int, 0 ≤ j → j < v → S' 79 j = 0) ?_ 0 S2 (by omega) ⟨kp.rf, by omega, fun j _ _ => by omega⟩
  rintro v3 S3 ⟨a3, v30, z3⟩ hv3 k3 hk3
  refine ⟨fun y => ?_, fun y => ⟨by omega, by omega, hk3 _ (by omega) ⟨a3.up rfl, by omega, fun j j0 j1 => ?_⟩⟩⟩
  rotate_left
  · rw [xup_at]
    split
    · rfl
    · exact z3 j j0 (by omega)
  have hR3 := ((hR0.kp a1 rfl).kp a2 rfl).kp a3 rfl
  refine xL1_up 9 (fun v S' => kp [(80, -9)] S3 S' ∧ 0 ≤ v ∧ ∀ j : Int, 0 ≤ j → j < v → S' 80 j = P 62 j) ?_ 0 S3 (by omega) ⟨kp.rf, by omega, fun j _ _ => by omega⟩
  rintro v4 S4 ⟨a4, v40, z4⟩ hv4 k4 hk4
  refine ⟨fun y => ?_, fun y => ⟨by omega, by omega, hk4 _ (by omega) ⟨a4.up rfl, by omega, fun j j0 j1 => ?_⟩⟩⟩
  rotate_left
  · rw [xup_at]
    split
    · rename_i h
      rw [h.2, (hR3.kp a4 rfl).2.2.2.2.2.2.2.2.2.2.1]
    · exact z4 j j0 (by omega)
  refine xL1_up 2 (fun v S' => kp [(81, -9)] S4 S' ∧ 0 ≤ v ∧ ∀ j : Int, 0 ≤ j → j < v → S' 81 j = 0) ?_ 0 S4 (by omega) ⟨kp.rf, by omega, fun j _ _ => by omega⟩
  rintro v5 S5 ⟨a5, v50, z5⟩ hv5 k5 hk5
  refine ⟨fun y => ?_, fun y => ⟨by omega, by omega, hk5 _ (by omega) ⟨a5.up rfl, by omega, fun j j0 j1 => ?_⟩⟩⟩
  rotate_left
  · rw [xup_at]
    split
    · rfl
    · exact z5 j j0 (by omega)
  refine xL1_up 4 (fun v S' => kp [(82, -9)] S5 S' ∧ 0 ≤ v ∧ ∀ j : Int, 0 ≤ j → j < v → S' 82 j = 0) ?_ 0 S5 (by omega) ⟨kp.rf, by omega, fun j _ _ => by omega⟩
  rintro v6 S6 ⟨a6, v60, z6⟩ hv6 k6 hk6
  refine ⟨fun y => ?_, fun y => ⟨by omega, by omega, hk6 _ (by omega) ⟨a6.up rfl, by omega, fun j j0 j1 => ?_⟩⟩⟩
  rotate_left
  · rw [xup_at]
    split
    · rfl
    · exact z6 j j0 (by omega)
  have aT : kp [(71, -9), (72, -9), (79, -9), (80, -9), (81, -9), (82, -9)] T S6 := ((((a1.mono rfl).tr (a2.mono rfl)).tr (a3.mono rfl)).tr (a4.mono rfl)).tr ((a5.mono rfl).tr (a6.mono rfl))
  have aN : sv_N 79 (sv_0 P) S6 := by
    refine ⟨fun p p0 p1 => ?_, fun v v0 v1 => ?_, fun j j0 j1 => ?_, fun j j0 j1 => z6 j j0 (by omega)⟩
    · rw [a6 79 p rfl, a5 79 p rfl, a4 79 p rfl]; exact z3 p p0 (by omega)
    · show S6 80 v = P 62 v
      rw [a6 80 v rfl, a5 80 v rfl]; exact z4 v v0 (by omega)
    · show S6 81 j = 0
      rw [a6 81 j rfl]; exact z5 j j0 (by omega)
  have hR6 := ((hR3.kp a4 rfl).kp a5 rfl).kp a6 rfl
  have e71 : ∀ j : Int, 0 ≤ j → j < 8192 → S6 71 j = 0 := fun j j0 j1 => by
    rw [a6 71 j rfl, a5 71 j rfl, a4 71 j rfl, a3 71 j rfl, a2 71 j rfl]; exact z1' j j0 j1
  have e72 : ∀ j : Int, 0 ≤ j → j < 509 → S6 72 j = 0 := fun j j0 j1 => by
    rw [a6 72 j rfl, a5 72 j rfl, a4 72 j rfl, a3 72 j rfl]; exact z2' j j0 j1
  have rx0 : rx P md zx S6 := by
    refine ⟨(aT 54 5 rfl).trans T5, (aT 54 6 rfl).trans T6, (aT 54 7 rfl).trans T7, (aT 54 12 rfl).trans T12, fun w => absurd rfl w, (aT 54 4 rfl).trans T4, fun s s0 s1 => ?_, ⟨?_, fun j j0 j1 => Or.inl (e72 j j0 j1), fun j j0 j1 => ⟨fun w => ?_, fun ⟨s, s0, s1, _⟩ => ?_⟩⟩, (aT 54 11 rfl).trans T11, fun e e0 e1 => ?_⟩
    · have : s < 0 := s1
      omega
    · rw [aT 54 5 rfl, T5]
      exact tb_ok.new (fun j j0 j1 => e71 j j0 (by omega))
    · rw [e72 j j0 j1] at w; omega
    · rw [aT 54 5 rfl, T5] at s1; omega
    · have : e < 0 := e1
      omega
  have m6 : S6 54 4 = md := (aT 54 4 rfl).trans T4
  show w_X9_begin_J229 Q S6
  refine s9_found hW hR6 aN V (fun S7 a7 b7 => ?_)
  rw [m6, ex_3.start hW] at b7 ⊢
  have rx7 := rx_kp rx0 a7 rfl
  refine s9_find (X := zx) (σ := sv_0 P) (m := -1) hW (hR6.kp a7 rfl) b7 V rfl rx7 (show (0 : Int) ≤ 0 ∧ (0 : Int) < 2000 by omega) rfl (Or.inl ⟨rfl, rfl⟩) (fun s s0 s1 => ?_) (fun w => ?_) (fun S8 a8 rx8 c8 => ?_)
  · have : s < 0 := s1
    omega
  · have : (1 : Int) ≤ 0 := w
    omega
  · obtain ⟨n1, n2, n3, n4, n5, n6, n7⟩ := sx_add.n P zx (sv_enc (sv_0 P)) (-1) (-1)
    have rb8 : rb P md (sx_add P zx (sv_enc (sv_0 P)) (-1) (-1)) S8 := by
      generalize sx_add P zx (sv_enc (sv_0 P)) (-1) (-1) = X at *
      have n1' : X 0 0 = 1 := n1
      have n2' : X 0 1 = 0 := n2
      exact ⟨rx8, fun w => c8.1 (by omega), fun w => c8.2 (by omega), fun _ w => by omega⟩
    have kk : kp rx_Lb S S8 := (a0.tr (aT.mono rfl)).tr ((a7.mono rfl).tr (a8.mono rfl))
    refine s9_verdictNow xs.1 rb8 ⟨by omega, k S8 kk rb8 ?_ ?_⟩
    · rw [a8 54 13 rfl, a7 54 13 rfl, aT 54 13 rfl]; exact T13
    · rw [a8 54 0 rfl, a7 54 0 rfl, aT 54 0 rfl]; exact T0
end PWB2
/-- what the law asks behind a begin of the class -/
def g7 (c : Int) : Int → xS → Prop := fun r755 Sc755 => w_X9_begin c Sc755 (fun r768 Sc768 => (Sc768 33 (-1) = Sc755 33 (-1)) ∧ w_X9_thrown Sc768 (fun r774 Sc774 => ((r774 = r755 → ((¬ r755 = 0 → (Sc774 33 (-1) = Sc755 33 (-1)) ∧ Inv_ Sc774) ∧ (r755 = 0 → (((Sc774 98 0) = r768 → (Sc774 33 (-1) = Sc755 33 (-1)) ∧ Inv_ Sc774) ∧ (¬ (Sc774 98 0) = r768 → False))))) ∧ (¬ r774 = r755 → False))))
theorem g7_err {S : xS} {c t : Int} (hI : Inv_ S) (h : (t = 1 ∧ ¬ (c = 97 ∨ c = 112 ∨ c = 115 ∨ c = 104)) ∨ (t = 2 ∧ c = 115 ∧ brd S)) : g7 c t S := by
  have j47 : w_X9_begin_J47 c (fun r768 Sc768 => (Sc768 33 (-1) = S 33 (-1)) ∧ w_X9_thrown Sc768 (fun r774 Sc774 => ((r774 = t → ((¬ t = 0 → (Sc774 33 (-1) = S 33 (-1)) ∧ Inv_ Sc774) ∧ (t = 0 → (((Sc774 98 0) = r768 → (Sc774 33 (-1) = S 33 (-1)) ∧ Inv_ Sc774) ∧ (¬ (Sc774 98 0) = r768 → False))))) ∧ (¬ r774 = t → False)))) t S := ⟨fun z => by omega, fun _ => kfin (S1 := S) rfl rfl (fun z => by omega) (Inv_kp hI (kp.rf.up rfl))⟩
  rcases h with ⟨h1, h2⟩ | ⟨h1, h2, h3⟩
  · subst h1
    exact ⟨fun y => absurd (Or.inl y) h2, fun _ => ⟨fun y => absurd (Or.inr (Or.inl y)) h2, fun _ => ⟨fun y => absurd (Or.inr (Or.inr (Or.inl y))) h2, fun _ => ⟨fun y => absurd (Or.inr (Or.inr (Or.inr y))) h2, fun _ => j47⟩⟩⟩⟩
  · subst h1
    refine ⟨fun y => by omega, fun _ => ⟨fun y => by omega, fun _ => ⟨fun _ => ⟨fun w => absurd h2 w, fun _ => s9_isBarred hI.1 pw_R.rf (fun _ => ⟨fun w => by omega, fun _ => j47⟩) (fun w => absurd h3 w)⟩, fun y => absurd h2 y⟩⟩⟩
theorem g7_ok {S S1 X : xS} {c v : Int} (hW : pw_WF S) (hC : pw_C S S) (hm : c = 97 ∨ c = 112 ∨ c = 115 ∨ c = 104) (hnb : ¬ (c = 115 ∧ brd S)) (a1 : kp cx_Lb S S1) (c1 : cb S c X S1) (e29 : S1 2 9 = 1) (hX : sx_add S zx (sv_enc (sv_0 S)) (-1) (-1) = X) (hv : v = vd c X) : g7 c 0 (xup S1 98 0 v) := by
  subst hv
  have xs := xa.start (P := S) (md := c) hW
  rw [hX] at xs
  have a2 : kp (cx_Lb ++ [(98, -9)]) S (xup S1 98 0 (vd c X)) := (a1.mono rfl).up rfl
  have hR1 : pw_R S (xup S1 98 0 (vd c X)) := pw_R.rf.kp a2 rfl
  have fin : w_X9_begin_J47 c (fun r768 Sc768 => (Sc768 33 (-1) = (xup S1 98 0 (vd c X)) 33 (-1)) ∧ w_X9_thrown Sc768 (fun r774 Sc774 => ((r774 = 0 → ((¬ (0 : Int) = 0 → (Sc774 33 (-1) = (xup S1 98 0 (vd c X)) 33 (-1)) ∧ Inv_ Sc774) ∧ ((0 : Int) = 0 → (((Sc774 98 0) = r768 → (Sc774 33 (-1) = (xup S1 98 0 (vd c X)) 33 (-1)) ∧ Inv_ Sc774) ∧ (¬ (Sc774 98 0) = r768 → False))))) ∧ (¬ r774 = 0 → False)))) 0 (xup S1 98 0 (vd c X)) := by
    refine s9_beginIn (P := S) hW hR1 hm (fun S2 b1 r2 e13 e0 => ?_)
    rw [hX] at r2 ⊢
    have vb := vd.b c X
    refine kfin (b1 33 (-1) rfl) e0 (fun _ => ?_) (Inv_of (P := S) (md := c) (X := X) ⟨hR1.kp b1 rfl, hW, (hC.kp a2 rfl).kp b1 rfl, hm, xs.1, xs.2, ?_, r2, ?_, e13⟩)
    · rw [b1 98 0 rfl, Int.emod_eq_of_lt vb.1 vb.2]
      rfl
    · obtain ⟨q1, q2, q3, q4⟩ := c1
      have k3 : kp (rx_Lb ++ [(98, -9)]) S1 S2 := (kp.rf.up rfl).tr (b1.mono rfl)
      exact ⟨q1.kp k3 rfl, (k3 32 0 rfl).trans q2, by rw [k3 33 (-1) rfl]; exact q3, fun w => (q4 w).kp k3 rfl rfl (fun _ => rfl) (fun _ => rfl) (fun _ => rfl)⟩
    · exact (b1 2 9 rfl).trans e29
  have j29 : w_X9_begin_J29 c (w_X9_begin_J47 c (fun r768 Sc768 => (Sc768 33 (-1) = (xup S1 98 0 (vd c X)) 33 (-1)) ∧ w_X9_thrown Sc768 (fun r774 Sc774 => ((r774 = 0 → ((¬ (0 : Int) = 0 → (Sc774 33 (-1) = (xup S1 98 0 (vd c X)) 33 (-1)) ∧ Inv_ Sc774) ∧ ((0 : Int) = 0 → (((Sc774 98 0) = r768 → (Sc774 33 (-1) = (xup S1 98 0 (vd c X)) 33 (-1)) ∧ Inv_ Sc774) ∧ (¬ (Sc774 98 0) = r768 → False))))) ∧ (¬ r774 = 0 → False))))) (xup S1 98 0 (vd c X)) :=
    ⟨fun _ => fin, fun z => s9_isBarred hW hR1 (fun h => absurd ⟨z, h⟩ hnb) (fun h => ⟨fun _ => fin, fun w => absurd rfl w⟩)⟩
  exact ⟨fun _ => j29, fun z => ⟨fun _ => j29, fun z2 => ⟨fun _ => j29, fun z3 => ⟨fun _ => j29, fun z4 => by omega⟩⟩⟩⟩
theorem k_7 {S : xS} {f : Int → Int} {i : Int} (hI : Inv_ S) : w_K7 f i S Inv_ := by
  obtain ⟨hW, hC, h32, hcap, -⟩ := id hI
  show w_L_begin (f (i + 1) % 65536) S (g7 (f (i + 1) % 65536))
  generalize f (i + 1) % 65536 = c at *
  unfold w_L_begin w_X8_begin
  have good : (c = 97 ∨ c = 112 ∨ c = 115 ∨ c = 104) → ¬ (c = 115 ∧ brd S) → w_X8_begin_J60 c (fun r4 S4 => g7 c 0 (xup S4 98 0 r4)) S := by
    intro hm hnb
    refine s6_beginIn hW hC hm h32 hcap (fun S1 a1 c1 e29 => ?_)
    have xs := xa.start (P := S) (md := c) hW
    generalize hX : sx_add S zx (sv_enc (sv_0 S)) (-1) (-1) = X at *
    exact s6_judge xs.1 c1.1 ⟨a1 33 (-1) rfl, vd.b c X, g7_ok hW hC hm hnb a1 c1 e29 hX rfl⟩
  have j34 : (c = 97 ∨ c = 112 ∨ c = 115 ∨ c = 104) → w_X8_begin_J34 c (fun r4 S4 => g7 c 0 (xup S4 98 0 r4)) (fun E9 S9 => (E9 = "java/lang/IllegalArgumentException" ∧ g7 c 1 S9) ∨ (E9 = "java/lang/UnsupportedOperationException" ∧ g7 c 2 S9)) S := by
    intro hm
    exact ⟨fun z => good hm (fun h => z h.1), fun z => s4_hasInv hW hC (fun h => ⟨fun w => by omega, fun _ => ⟨rfl, Or.inr ⟨rfl, g7_err hI (Or.inr ⟨rfl, z, h⟩)⟩⟩⟩) (fun h => ⟨fun _ => ⟨rfl, good hm (fun w => h w.2)⟩, fun w => absurd rfl w⟩)⟩
  exact ⟨fun z => j34 (by omega), fun z1 => ⟨fun z => j34 (by omega), fun z2 => ⟨fun z => j34 (by omega), fun z3 => ⟨fun z => j34 (by omega), fun z4 => Or.inl ⟨rfl, g7_err hI (Or.inl ⟨rfl, by omega⟩)⟩⟩⟩⟩⟩

/-! pure layer: the reference's search from state to state -/
def rxr (L : List (Nat × Int)) : Bool := [67, 68, 69, 70, 71, 72].all (fun q => L.all (fun e => !(e.1 == q))) && [4, 5].all (fun i => !hit L 54 i)
theorem rxr.cell {L : List (Nat × Int)} (h : rxr L = true) {q : Nat} (hq : q ∈ [67, 68, 69, 70, 71, 72]) (i : Int) : hit L q i = false := by
  unfold rxr at h
  rw [Bool.and_eq_true] at h
  have h1 := List.all_eq_true.mp h.1 q hq
  rw [← Bool.not_eq_true]
  intro hc
  unfold hit at hc
  obtain ⟨e, he, h2⟩ := List.any_eq_true.mp hc
  have h3 := List.all_eq_true.mp h1 e he
  rw [Bool.and_eq_true] at h2
  rw [h2.1] at h3
  cases h3
theorem rxr.f {L : List (Nat × Int)} (h : rxr L = true) {i : Int} (hq : i ∈ [4, 5]) : hit L 54 i = false := by
  unfold rxr at h
  rw [Bool.and_eq_true] at h
  have h1 := List.all_eq_true.mp h.2 i hq
  simpa using h1
theorem rx_chg {P X Y S S' : xS} {md : Int} {L : List (Nat × Int)} (h : rx P md X S) (hk : kp L S S') (hL : rxr L = true) (eX : Y 0 0 = X 0 0 ∧ Y 1 = X 1 ∧ Y 2 = X 2 ∧ Y 3 = X 3 ∧ Y 4 = X 4) (e6 : S' 54 6 = Y 0 1) (e7 : S' 54 7 = Y 0 2) (e12 : S' 54 12 = Y 0 3) (e8 : Y 0 2 ≠ 0 → S' 54 8 = Y 0 4 ∧ (Y 0 2 = 97 → S' 54 9 = w16 (Y 0 5))) (e11 : S' 54 11 = Y 0 6) (e74 : ∀ e : Int, 0 ≤ e → e < Y 0 6 → S' 74 e = Y 6 e) : rx P md Y S' := by
  have c : ∀ q, q ∈ [67, 68, 69, 70, 71, 72] → S' q = S q := fun q hq => hk.cell q (fun i => rxr.cell hL hq i)
  have f : ∀ i : Int, i ∈ [4, 5] → S' 54 i = S 54 i := fun i hi => hk 54 i (rxr.f hL hi)
  obtain ⟨c1, c2, c3, c4, c5, c6, c7, c8, c9, c10⟩ := h
  obtain ⟨x0, x1, x2, x3, x4⟩ := eX
  refine ⟨?_, e6, e7, e12, e8, (f 4 (by decide)).trans c6, ?_, ?_, e11, e74⟩
  · rw [f 5 (by decide), x0]; exact c1
  · rw [x0, x1, x2, x3, x4, c 67 (by decide), c 68 (by decide), c 69 (by decide), c 70 (by decide)]
    exact c7
  · unfold tb_R at *
    rw [f 5 (by decide), c 67 (by decide), c 71 (by decide), c 72 (by decide)]
    exact c8
/-- the flag: no further move is made -/
def rcut (X S : xS) : Prop := ((X 0 2 ≠ 0 ∨ 2000 ≤ X 0 0) → S 54 14 = 1) ∧ (¬ (X 0 2 ≠ 0 ∨ 2000 ≤ X 0 0) → S 54 14 = 0)
abbrev rx_Lm : List (Nat × Int) := [(54, 5), (54, 7), (54, 8), (54, 9), (54, 11), (54, 12), (54, 14), (67, -9), (68, -9), (69, -9), (70, -9), (71, -9), (72, -9), (74, -9), (79, -9), (80, -9), (81, -9), (82, -9)]
section PWRG
variable {P S X σ : xS} {md : Int} {l : List Int}
theorem s9_find {Q : xS → Prop} {c g m : Int} (hW : pw_WF P) (hR : pw_R P S) (hH : sv_N 79 σ S) (hV : sv_V σ) (hc : c = sv_enc σ) (hrx : rx P md X S) (hn : 0 ≤ X 0 0 ∧ X 0 0 < 2000) (hf : X 0 2 = 0) (hp : (g = -1 ∧ X 0 0 = 0) ∨ (0 ≤ g ∧ g < X 0 0)) (hd : ∀ s : Int, 0 ≤ s → s < X 0 0 → 0 ≤ X 4 s ∧ X 4 s < 2000) {way : Int} (hw : 1 ≤ X 0 0 → way = w16 m)
    (k : ∀ S' : xS, kp rx_Ld S S' → rx P md (sx_add P X c g m) S' → rcut (sx_add P X c g m) S' → Q S') : w_X9_discovers c g way S Q := by
  obtain ⟨c1, c2, c3, c4, c5, c6, c7, c8, c9, c10⟩ := hrx
  obtain ⟨r1, r2, r3, r4⟩ := sx_add.rows P X c g m
  obtain ⟨n1, n2, n3, n4, n5, n6, n7⟩ := sx_add.n P X c g m
  refine s9_discovers hW hR hH hV hc c8 (by rw [c1]; exact hn) (c3.trans hf) (by rw [c1]; exact hp) (fun s s0 s1 => by rw [c1] at s1; rw [(c7 s s0 s1).2.2.2]; exact hd s s0 s1) (fun S1 a1 t1 b0 b67 b68 b69 b70 hbr hnb => ?_)
  rw [c1] at b0 b67 b68 b69 b70 hbr hnb
  have recs : ∀ s : Int, 0 ≤ s → s < (sx_add P X c g m) 0 0 → S1 67 s = (sx_add P X c g m) 1 s ∧ S1 68 s = (sx_add P X c g m) 2 s ∧ (1 ≤ s → S1 69 s = w16 ((sx_add P X c g m) 3 s)) ∧ S1 70 s = (sx_add P X c g m) 4 s := by
    intro s s0 s1
    rw [n1] at s1
    rw [b67, b68, b69, b70, r1, r2, r3, r4]
    by_cases hs : s = X 0 0
    · simp only [if_pos hs]
      refine ⟨trivial, trivial, fun h => hw (by omega), ?_⟩
      rcases hp with ⟨h1, -⟩ | ⟨h1, h2⟩
      · rw [if_pos h1, if_pos h1]
      · rw [if_neg (by omega), if_neg (by omega), (c7 g h1 h2).2.2.2]
    · simp only [if_neg hs]
      exact c7 s s0 (by omega)
  have e74 : ∀ e : Int, 0 ≤ e → e < (sx_add P X c g m) 0 6 → S1 74 e = (sx_add P X c g m) 6 e := by
    intro e e0 e1
    rw [n4] at e1
    rw [n6, a1 74 e rfl]
    exact c10 e e0 e1
  cases hb : sx_br P (sv_dec c) with
  | true =>
    obtain ⟨f7, f8, f14⟩ := hbr hb
    obtain ⟨e2, e4⟩ := sx_add.br (X := X) (g := g) (m := m) hb
    refine k S1 a1 ⟨by rw [b0, n1], by rw [a1 54 6 rfl, n2]; exact c2, by rw [f7, e2], by rw [a1 54 12 rfl, n3]; exact c4, fun _ => ⟨by rw [f8, e4], fun z => by rw [e2] at z; omega⟩, (a1 54 4 rfl).trans c6, recs, t1, by rw [a1 54 11 rfl, n4]; exact c9, e74⟩ ⟨fun _ => f14, fun z => absurd (Or.inl (by rw [e2]; decide)) z⟩
  | false =>
    obtain ⟨f7, f14⟩ := hnb hb
    have e2 := (sx_add.nb (X := X) (g := g) (m := m) hb).trans hf
    refine k S1 a1 ⟨by rw [b0, n1], by rw [a1 54 6 rfl, n2]; exact c2, by rw [f7, e2], by rw [a1 54 12 rfl, n3]; exact c4, fun z => absurd e2 z, (a1 54 4 rfl).trans c6, recs, t1, by rw [a1 54 11 rfl, n4]; exact c9, e74⟩ ⟨fun z => ?_, fun z => ?_⟩
    · rw [f14, if_pos (by omega)]
    · rw [f14, if_neg (by omega)]
/-- one move, in the loop over the moves -/
theorem s9_loop {j278 : xS → Prop} {g : Int} {S0 : xS} (hW : pw_WF P) (hR : pw_R P S) (hH : sv_N 75 (sv_dec (X 1 g)) S) (hx : xa P md X) (hrx : rx P md X S) (hcut : rcut X S) (hg : 0 ≤ g ∧ g < X 0 0) (h3 : X 0 3 ≤ 392 * g) (h6 : X 0 6 ≤ 392 * g) (hl : mv_LR l S) (hsub : ∀ m ∈ l, m ∈ mvs P (sv_dec (X 1 g))) (hlen : l.length ≤ 392) (h0 : S0 54 6 = g)
    (kf : ∀ S' : xS, kp rx_Lm S S' → rx P md (sx_ml P md g l X) S' → rcut (sx_ml P md g l X) S' → j278 S') : xL1 (w_X9_goesOn_L115 S0 j278) 0 S := by
  have gx := hx.2.1 g hg.1 hg.2
  have hn := hx.1
  generalize hF : sx_ml P md g l X = F at *
  refine xL1_up (l.length : Int) (fun v S' => kp rx_Lm S S' ∧ ∃ (i : Nat) (Y : xS), v = (i : Int) ∧ rx P md Y S' ∧ rcut Y S' ∧ xa P md Y ∧ Y 0 3 ≤ X 0 3 + i ∧ Y 0 6 ≤ X 0 6 + i ∧ g < Y 0 0 ∧ Y 1 g = X 1 g ∧ sx_ml P md g (l.drop i) Y = F) ?_ 0 S (by omega) ⟨kp.rf, 0, X, rfl, hrx, hcut, hx, by omega, by omega, hg.2, rfl, hF⟩
  rintro v S' ⟨a1, i, Y, rfl, ry, cy, xy, y3, y6, yg, y1, yF⟩ hv k2 hk2
  have hl1 := hl.kp a1 rfl (fun _ => rfl) (fun _ => rfl) (fun _ => rfl) (fun _ => rfl)
  have hR1 := hR.kp a1 rfl
  have hH1 := hH.kp a1 (fun _ => rfl) (fun _ => rfl) (fun _ => rfl) (fun _ => rfl)
  have ny := xy.1
  have ay := xy.2.2.2.2.2.2.1
  unfold w_X9_goesOn_L115
  rw [hl1.1]
  refine ⟨fun z => ?_, fun z => ⟨fun y => ?_, fun y => ?_⟩⟩
  · have e : i = l.length := by omega
    rw [e, List.drop_length] at yF
    have yF' : Y = F := yF
    subst yF'
    exact kf S' a1 ry cy
  · have hc : Y 0 2 ≠ 0 ∨ 2000 ≤ Y 0 0 := by
      by_cases h : Y 0 2 ≠ 0 ∨ 2000 ≤ Y 0 0
      · exact h
      · exact absurd (cy.2 h) y
    rw [sx_ml.cut hc] at yF
    subst yF
    exact kf S' a1 ry cy
  · have hc : ¬ (Y 0 2 ≠ 0 ∨ 2000 ≤ Y 0 0) := fun h => by have := cy.1 h; omega
    have hf : Y 0 2 = 0 := by omega
    have hi : i < l.length := by omega
    have hm := List.getElem?_eq_getElem hi
    have hmem := hsub _ (List.getElem_mem hi)
    have hdrop := List.drop_eq_getElem_cons hi
    generalize l[i] = m at *
    rw [hdrop] at yF
    have yF2 : sx_ml P md g (l.drop (i + 1)) (sx_mk P md Y g m) = F := by
      have e : sx_ml P md g (m :: l.drop (i + 1)) Y = sx_ml P md g (l.drop (i + 1)) (sx_mk P md Y g m) := by
        show (if Y 0 2 ≠ 0 ∨ 2000 ≤ Y 0 0 then Y else _) = _
        rw [if_neg hc]
      rw [← e]; exact yF
    have hok := mvs_mem hW hmem
    have hm' : m ∈ mvs P (sv_dec (Y 1 g)) := by rw [y1]; exact hmem
    obtain ⟨q1, q2, q3, q4, q5, q6, q7⟩ := xa.mk hW xy ⟨hg.1, yg⟩ (by omega) hf hm'
    have next : ∀ S2 : xS, kp rx_Lm S' S2 → rx P md (sx_mk P md Y g m) S2 → rcut (sx_mk P md Y g m) S2 → (-2147483648 ≤ (i : Int) + 1 ∧ (i : Int) + 1 < 2147483648) ∧ k2 (i + 1) S2 := fun S2 a r c => ⟨⟨by omega, by omega⟩, hk2 S2 (by omega) ⟨a1.tr a, i + 1, _, by omega, r, c, q1, by omega, by omega, by omega, by rw [q7 g yg]; exact y1, yF2⟩⟩
    obtain ⟨d1, d2, d3, d4, d5, d6, d7, d8, d9, d10⟩ := id ry
    have r := hl1.2 i m hm
    have rn := r.n
    have hv64 := (hok.n hW rfl)
    have dob := sx_do.b hW hok
    refine s9_asserts hW hR1 hH1 hl1 (by omega) hm hok (fun has => ⟨fun w => by omega, fun _ => ?_⟩) (fun has => ⟨fun _ => ?_, fun w => absurd rfl w⟩)
    · have emk : sx_mk P md Y g m = xup (xup (xup Y 0 2 97) 0 4 g) 0 5 m := by
        unfold sx_mk
        rw [y1, if_pos has]
      rw [emk] at next
      rw [rn.2, h0]
      have a2 : kp [(54, 7), (54, 8), (54, 9), (54, 14)] S' (xup (xup (xup (xup S' 54 7 97) 54 8 g) 54 9 (w16 m)) 54 14 1) := (((kp.rf.up rfl).up rfl).up rfl).up rfl
      refine ⟨by omega, by unfold w16; omega, next _ (a2.mono rfl) (rx_chg ry a2 rfl ⟨rfl, rfl, rfl, rfl, rfl⟩ d2 rfl d4 (fun _ => ⟨rfl, fun _ => rfl⟩) d9 (fun e e0 e1 => d10 e e0 e1)) ⟨fun _ => rfl, fun w => absurd (Or.inl (show (97 : Int) ≠ 0 by decide)) w⟩⟩
    · rw [d4]
      have a2 : kp [(54, 12)] S' (xup S' 54 12 (Y 0 3 + 1)) := kp.rf.up rfl
      have ry1 : rx P md (xup Y 0 3 (Y 0 3 + 1)) (xup S' 54 12 (Y 0 3 + 1)) := rx_chg ry a2 rfl ⟨rfl, rfl, rfl, rfl, rfl⟩ d2 d3 rfl d5 d9 d10
      have gxY := xy.2.1 g hg.1 yg
      have gbV := gb.V (md := md) hW gx.2.1 hok
      have gcb := (gc.ok (md := md) hW gx.2.1 hok).1.b
      refine ⟨by omega, s9_makes hW (hR1.kp a2 rfl) (hH1.kp a2 (fun _ => rfl) (fun _ => rfl) (fun _ => rfl) (fun _ => rfl)) (sv_V.dec _) (hl1.kp a2 rfl (fun _ => rfl) (fun _ => rfl) (fun _ => rfl) (fun _ => rfl)) (by omega) hm hok (fun S2 a3 b3 => ?_)⟩
      have ry2 := rx_kp ry1 a3 rfl
      have mdV := mk_do.V hW (sv_V.dec (X 1 g)) gx.2.1 hok
      have hR2 := (hR1.kp a2 rfl).kp a3 rfl
      refine s9_found hW hR2 b3 mdV.1 (fun S3 a4 b4 => ?_)
      rw [ry2.2.2.2.2.2.1] at b4 ⊢
      change sv_N 79 (gb P md (X 1 g) m) S3 at b4
      show w_X9_isFound (gc P md (X 1 g) m) S3 _
      have ry3 := rx_kp ry2 a4 rfl
      have hR3 := hR2.kp a4 rfl
      have aa : kp rx_Lm S' S3 := (a2.mono rfl).tr ((a3.mono rfl).tr (a4.mono rfl))
      have hl3 := hl1.kp aa rfl (fun _ => rfl) (fun _ => rfl) (fun _ => rfl) (fun _ => rfl)
      have cut3 : S3 54 14 = 0 := (a4 54 14 rfl).trans ((a3 54 14 rfl).trans ((a2 54 14 rfl).trans y))
      -- the edge
      have edge : ∀ (Z S4 : xS) (s : Int), kp rx_Lm S' S4 → rx P md Z S4 → rcut Z S4 → xa P md Z → (0 ≤ s ∧ s < Z 0 0) → Z 1 s = gc P md (X 1 g) m → Z 0 6 = Y 0 6 → sx_mk P md Y g m = sx_ed md Z s (sx_do m) → w_X9_goesOn_J227 k2 i (gc P md (X 1 g) m) S4 := by
        intro Z S4 s a rz cz xz hs hzs z6 emk
        rw [emk] at next
        unfold sx_ed at next
        unfold w_X9_goesOn_J227
        rw [rz.2.2.2.2.2.1]
        refine ⟨fun w => ?_, fun w => by rw [if_neg w] at next; exact next S4 a rz cz⟩
        rw [if_pos w] at next
        have nz := xz.1
        have hl4 := hl1.kp a rfl (fun _ => rfl) (fun _ => rfl) (fun _ => rfl) (fun _ => rfl)
        refine s9_indexOf rz.2.2.2.2.2.2.2.1 (by rw [rz.1]; omega) (by omega) (fun t t0 t1 e => ?_) (fun hno => absurd ((rz.2.2.2.2.2.2.1 s hs.1 hs.2).1.trans hzs) (hno s hs.1 (by rw [rz.1]; exact hs.2)))
        rw [rz.1] at t1
        rw [(rz.2.2.2.2.2.2.1 t t0 t1).1] at e
        have ets : t = s := xz.2.2.2.2.1 t s t0 t1 hs.1 hs.2 (by rw [e, hzs])
        subst ets
        refine s9_doers hW hl4 (by omega) hm hok ?_
        rw [rz.2.2.2.2.2.2.2.2.1]
        have a5 : kp [(74, -9), (54, 11)] S4 (xup (xup S4 74 (Z 0 6) (8 * t + sx_do m)) 54 11 (Z 0 6 + 1)) := (kp.rf.up rfl).up rfl
        have z60 := xz.2.2.2.2.2.2.1.2
        refine ⟨by omega, by omega, by omega, next _ (a.tr (a5.mono rfl)) (rx_chg rz a5 rfl ⟨rfl, rfl, rfl, rfl, rfl⟩ rz.2.1 rz.2.2.1 rz.2.2.2.1 rz.2.2.2.2.1 rfl (fun e e0 e1 => ?_)) cz⟩
        have e1' : e < Z 0 6 + 1 := e1
        show (xup S4 74 (Z 0 6) (8 * t + sx_do m)) 74 e = (xup Z 6 (Z 0 6) (8 * t + sx_do m)) 6 e
        rw [xup_at, xup_at]
        by_cases he : e = Z 0 6
        · rw [if_pos ⟨rfl, he⟩, if_pos ⟨rfl, he⟩]
        · rw [if_neg (fun w => he w.2), if_neg (fun w => he w.2)]
          exact rz.2.2.2.2.2.2.2.2.2 e e0 (by omega)
      have kyc : ∀ s : Int, (0 ≤ s ∧ s < Y 0 0) → S3 67 s = Y 1 s := fun s hs => (ry3.2.2.2.2.2.2.1 s hs.1 hs.2).1
      have n3 : S3 54 5 = Y 0 0 := ry3.1
      refine s9_isFound ry3.2.2.2.2.2.2.2.1 (by rw [n3]; omega) (by omega) (fun ⟨s, s0, s1, e⟩ => ⟨fun _ => ?_, fun w => by omega⟩) (fun hno => ⟨fun w => absurd rfl w, fun _ => ⟨by omega, ?_, ?_⟩⟩)
      · rw [n3] at s1
        rw [ry3.2.2.2.2.2.1, kyc s ⟨s0, s1⟩] at e
        have hfd : 0 ≤ sx_fnd md Y (gc P md (X 1 g) m) ∧ sx_fnd md Y (gc P md (X 1 g) m) < Y 0 0 ∧ ky md (Y 1 (sx_fnd md Y (gc P md (X 1 g) m))) = ky md (gc P md (X 1 g) m) := by
          rcases sx_fnd.or md Y (gc P md (X 1 g) m) with ⟨-, h⟩ | h
          · exact absurd e (h s s0 s1)
          · exact h
        have emk : sx_mk P md Y g m = sx_ed md (xup Y 0 3 (Y 0 3 + 1)) (sx_fnd md Y (gc P md (X 1 g) m)) (sx_do m) := by
          unfold sx_mk
          rw [y1, if_neg (by rw [has]; decide), if_neg (by omega)]
        have cutZ : rcut (xup Y 0 3 (Y 0 3 + 1)) S3 := ⟨fun w => absurd w hc, fun _ => cut3⟩
        by_cases h97 : md = 97
        · refine edge _ S3 _ aa ry3 cutZ xy.made ⟨hfd.1, hfd.2.1⟩ ?_ rfl emk
          have := hfd.2.2
          unfold ky at this
          rw [if_neg (by omega), if_neg (by omega)] at this
          exact this
        · unfold w_X9_goesOn_J227
          rw [ry3.2.2.2.2.2.1]
          refine ⟨fun w => absurd w h97, fun _ => next S3 aa ?_ ?_⟩
          · rw [emk]; unfold sx_ed; rw [if_neg h97]; exact ry3
          · rw [emk]; unfold sx_ed; rw [if_neg h97]; exact cutZ
      · rw [(hl3.2 i m hm).n.2]; unfold w16; omega
      · rw [(hl3.2 i m hm).n.2, h0]
        have hnew : ∀ s : Int, 0 ≤ s → s < Y 0 0 → ky md (Y 1 s) ≠ ky md (gc P md (X 1 g) m) := by
          intro s s0 s1 e
          refine hno s s0 (by rw [n3]; exact s1) ?_
          rw [ry3.2.2.2.2.2.1, kyc s ⟨s0, s1⟩]
          exact e
        have es : sx_fnd md Y (gc P md (X 1 g) m) = -1 := by
          rcases sx_fnd.or md Y (gc P md (X 1 g) m) with ⟨h, -⟩ | ⟨h1, h2, h3⟩
          · exact h
          · exact absurd h3 (hnew _ h1 h2)
        have emk : sx_mk P md Y g m = sx_ed md (sx_add P (xup Y 0 3 (Y 0 3 + 1)) (gc P md (X 1 g) m) g m) (Y 0 0) (sx_do m) := by
          unfold sx_mk
          rw [y1, if_neg (by rw [has]; decide), if_pos es]
        have hx' := xa.add (md := md) (c := gc P md (X 1 g) m) hW xy.made ⟨hg.1, yg⟩ (by show Y 0 0 < 2000; omega) hf hm' (by show _ = gc P md (Y 1 g) m; rw [y1]) hnew
        obtain ⟨n1, n2, n3', n4, n5, n6, n7⟩ := sx_add.n P (xup Y 0 3 (Y 0 3 + 1)) (gc P md (X 1 g) m) g m
        have n1' : (sx_add P (xup Y 0 3 (Y 0 3 + 1)) (gc P md (X 1 g) m) g m) 0 0 = Y 0 0 + 1 := n1
        refine s9_find (X := xup Y 0 3 (Y 0 3 + 1)) (m := m) hW hR3 b4 gbV.1 rfl ry3 (by show 0 ≤ Y 0 0 ∧ Y 0 0 < 2000; omega) hf (Or.inr ⟨hg.1, yg⟩) (fun s s0 s1 => by have := xy.2.1 s s0 s1; have s1' : s < Y 0 0 := s1; show 0 ≤ Y 4 s ∧ Y 4 s < 2000; omega) (fun _ => rfl) (fun S4 a5 r5 c5 => ?_)
        refine edge (sx_add P (xup Y 0 3 (Y 0 3 + 1)) (gc P md (X 1 g) m) g m) S4 (Y 0 0) (aa.tr (a5.mono rfl)) r5 c5 hx' (by omega) ?_ n4 emk
        have := (sx_add.rows P (xup Y 0 3 (Y 0 3 + 1)) (gc P md (X 1 g) m) g m).1 (Y 0 0)
        rw [show (xup Y 0 3 (Y 0 3 + 1)) 0 0 = Y 0 0 from rfl, if_pos rfl] at this
        exact this
end PWRG

/-! pure layer: the class goes on from a state -/
abbrev cx_Lm : List (Nat × Int) := [(2, 8), (2, 12), (2, 13), (22, -9), (4, 0), (25, -9), (26, -9), (27, -9), (28, -9), (29, -9), (30, -9), (31, -9), (41, -9), (42, -9), (43, -9), (44, -9), (45, -9), (33, -9), (5, 3), (34, -9)]
def cxr (L : List (Nat × Int)) : Bool := [4, 25, 26, 27, 28, 29, 30, 31, 21].all (fun q => L.all (fun e => !(e.1 == q))) && !hit L 2 10
theorem cxr.cell {L : List (Nat × Int)} (h : cxr L = true) {q : Nat} (hq : q ∈ [4, 25, 26, 27, 28, 29, 30, 31, 21]) (i : Int) : hit L q i = false := by
  unfold cxr at h
  rw [Bool.and_eq_true] at h
  have h1 := List.all_eq_true.mp h.1 q hq
  rw [← Bool.not_eq_true]
  intro hc
  unfold hit at hc
  obtain ⟨e, he, h2⟩ := List.any_eq_true.mp hc
  have h3 := List.all_eq_true.mp h1 e he
  rw [Bool.and_eq_true] at h2
  rw [h2.1] at h3
  cases h3
theorem cx_chg {P X Y S S' : xS} {md : Int} {L : List (Nat × Int)} (h : cx P md X S) (hk : kp L S S') (hL : cxr L = true) (eX : Y 0 0 = X 0 0 ∧ Y 1 = X 1 ∧ Y 2 = X 2 ∧ Y 3 = X 3 ∧ Y 4 = X 4) (e11 : S' 2 11 = Y 0 1) (e13 : Y 0 2 = 0 → S' 2 13 = 45) (e4 : Y 0 2 ≠ 0 → S' 2 13 = Y 0 2 ∧ S' 2 8 = tl_ Y ∧ ∀ i : Int, 0 ≤ i → i < tl_ Y → S' 22 i = tr_ Y i) (e12 : S' 2 12 = Y 0 3) : cx P md Y S' := by
  have c : ∀ q, q ∈ [4, 25, 26, 27, 28, 29, 30, 31, 21] → S' q = S q := fun q hq => hk.cell q (fun i => cxr.cell hL hq i)
  have f : S' 2 10 = S 2 10 := hk 2 10 (by
    unfold cxr at hL
    rw [Bool.and_eq_true] at hL
    simpa using hL.2)
  obtain ⟨c1, c2, c3, c4, c5, c6, c7, c8, c9⟩ := h
  obtain ⟨x0, x1, x2, x3, x4⟩ := eX
  refine ⟨?_, e11, e13, e4, e12, ?_, ?_, f.trans c8, ?_⟩
  · rw [c 4 (by decide), x0]; exact c1
  · rw [x0, x1, x2, x3, x4, c 25 (by decide), c 26 (by decide), c 27 (by decide), c 28 (by decide), c 29 (by decide), c 30 (by decide)]
    exact c6
  · unfold tb_C at *
    rw [c 4 (by decide), c 31 (by decide), c 25 (by decide)]
    exact c7
  · unfold ex_kn at *
    rw [c 21 (by decide)]
    exact c9
theorem up_.E {X Y : xS} (h : Y 2 = X 2) : ∀ (k : Nat) (s : Int), up_ Y k s = up_ X k s
  | 0, _ => rfl
  | k + 1, s => by
    unfold up_
    rw [h, up_.E h k]
theorem xm.mono {g : Int} {X Y : xS} (h : xm g X) (h5 : Y 5 = X 5) (h0 : X 0 6 ≤ Y 0 6) : xm g Y := by
  unfold xm
  rw [h5]
  exact ⟨h.1, fun s a b => by have := h.2 s a b; omega⟩
section PWCG
variable {P S X σ : xS} {md : Int}
theorem s7_isRefuted {Q : Int → xS → Prop} {m : Int} (hW : pw_WF P) (hC : pw_C P S) (hH : sv_H 36 σ S) (hm : mv_ok P σ m) (h1 : sx_as P σ m = true → Q 1 S) (h0 : sx_as P σ m = false → Q 0 S) : w_X7_isRefuted_h m S Q := by
  have hv := (hm.n hW rfl).1
  obtain ⟨b1, b2, b3, b4, b5, b6, b7⟩ := hv.b hW
  obtain ⟨c1, c2, c3, c4, -⟩ := hv.c hC
  unfold sx_as at h1 h0
  show _ ∧ _
  refine ⟨b1, fun z => h0 ?_, fun z => ?_⟩
  · rw [c3] at z
    simp [z]
  · rw [c3] at z
    obtain ⟨c5, c6⟩ := c4 (by omega)
    have b8 := (b5 (by omega)).1
    have e := hH.2.1 (P 59 (m / 64)) b8.1 b8.2
    rw [c5, c6, show S 37 (P 59 (m / 64)) = σ 1 (P 59 (m / 64)) from e]
    exact ⟨b8, fun y => h0 (by simp [z, y]), fun y => h1 (by simp [z, y])⟩
theorem s3_leaderOf {Q : Int → xS → Prop} {m : Int} (h : 0 ≤ m) (k : Q (m / 64 / 14) S) : w_X3_leaderOf m S Q := ⟨by omega, k⟩
theorem s3_doersOf {Q : Int → xS → Prop} {m : Int} (hW : pw_WF P) (hm : mv_ok P σ m) (k : Q (sx_do m) S) : w_X3_doersOf m S Q := by
  obtain ⟨hv, h0, h1, h2, h3⟩ := hm.n hW rfl
  have b1 := (hv.b hW).1
  unfold sx_do at k
  refine s3_partnerOf ⟨h0, by omega⟩ (s3_leaderOf h0 ⟨by omega, fun z => ?_, fun z => ?_⟩)
  · rw [if_neg (by omega)] at k
    have : 0 ≤ (m % 64 - 1) / 14 ∧ (m % 64 - 1) / 14 < 31 := by omega
    refine ⟨by omega, this, ?_⟩
    rw [Int.one_mul, Int.one_mul]
    exact k
  · rw [if_pos (by omega)] at k
    have o1 : ∀ a : Int, (a = 0 ∨ a = 1 ∨ a = 2) → 0 ≤ (2 : Int) ^ a.toNat ∧ (2 : Int) ^ a.toNat < 8 := by
      intro a ha
      rcases ha with rfl | rfl | rfl <;> decide +kernel
    have := o1 (m / 64 / 14) (by omega)
    rw [Int.one_mul]
    exact ⟨by omega, k⟩
theorem s6_cut {Q : Int → xS → Prop} (hx : xa P md X) (hcx : cx P md X S) (h1 : (X 0 2 ≠ 0 ∨ 2000 ≤ X 0 0) → Q 1 S) (h0 : ¬ (X 0 2 ≠ 0 ∨ 2000 ≤ X 0 0) → Q 0 S) : w_X6_isCutShort S Q := by
  obtain ⟨c1, c2, c3, c4, -⟩ := hcx
  unfold w_X6_isCutShort
  rw [c1]
  by_cases hf : X 0 2 = 0
  · have e := c3 hf
    exact ⟨fun z => absurd e z, fun _ => ⟨fun z => h0 (by omega), fun z => h1 (by omega)⟩⟩
  · have e := (c4 hf).1
    have ne : X 0 2 ≠ 45 := by
      rcases hx.2.2.2.2.2.1 with h | ⟨-, h | h | h⟩
      · exact absurd h hf
      · rw [h.1]; decide
      · rw [h.1]; decide
      · rw [h.1]; decide
    exact ⟨fun _ => h1 (Or.inl hf), fun z => absurd (e.symm.trans z) ne⟩
theorem s6_ended {Q : Int → xS → Prop} (hx : xa P md X) (hcx : cx P md X S) (h1 : (X 0 2 ≠ 0 ∨ 2000 ≤ X 0 0 ∨ X 0 0 ≤ X 0 1) → Q 1 S) (h0 : ¬ (X 0 2 ≠ 0 ∨ 2000 ≤ X 0 0 ∨ X 0 0 ≤ X 0 1) → Q 0 S) : w_X6_hasEnded S Q := by
  refine s6_cut hx hcx (fun z => ⟨fun _ => h1 (by omega), fun y => by omega⟩) (fun z => ⟨fun y => absurd rfl y, fun _ => ?_⟩)
  rw [hcx.1, hcx.2.1]
  exact ⟨fun y => h0 (by omega), fun y => h1 (by omega)⟩
theorem s6_make {Q : xS → Prop} {g m : Int} (hW : pw_WF P) (hC : pw_C P S) (hH : sv_H 36 (sv_dec (X 1 g)) S) (hx : xa P md X) (hcx : cx P md X S) (hgl : gl md g X S) (hxm : xm g X) (hg : 0 ≤ g ∧ g < X 0 0) (hcut : ¬ (X 0 2 ≠ 0 ∨ 2000 ≤ X 0 0)) (hm : m ∈ mvs P (sv_dec (X 1 g))) (hE : X 0 6 < 784000) (hM : X 0 3 < 784000)
    (k : ∀ S' : xS, kp cx_Lm S S' → cx P md (sx_mk P md X g m) S' → gl md g (sx_mk P md X g m) S' → Q S') : w_X6_make m g S Q := by
  have hmk := mvs_mem hW hm
  obtain ⟨c1, c2, c3, c4, c5, c6, c7, c8, c9⟩ := id hcx
  have hf : X 0 2 = 0 := by omega
  have hn := hx.1
  have gx := hx.2.1 g hg.1 hg.2
  have dob := sx_do.b hW hmk
  unfold sx_mk at k
  refine s7_isRefuted hW hC hH hmk (fun has => ⟨fun z => by omega, fun _ => ?_⟩) (fun has => ⟨fun _ => ?_, fun z => absurd rfl z⟩)
  · rw [if_pos has] at k
    refine s6_endWith hx hg (by omega) (fun t t0 t1 => ⟨(c6 t t0 t1).2.2.1, (c6 t t0 t1).2.2.2.1, (c6 t t0 t1).2.2.2.2.1⟩) (fun S1 a1 e13 e8 e22 => ?_)
    rw [e8]
    refine ⟨by omega, by omega, a1 33 (-1) rfl, ?_⟩
    have a2 : kp [(2, 8), (2, 13), (22, -9)] S (xup (xup S1 22 (X 4 g) m) 2 8 (X 4 g + 1)) := (a1.up rfl).up rfl
    refine k _ (a2.mono rfl) (cx_chg hcx a2 rfl ⟨rfl, rfl, rfl, rfl, rfl⟩ ?_ (fun z => ?_) (fun _ => ⟨e13, ?_, fun i i0 i1 => ?_⟩) ?_) ((gl.eX (Y := xup (xup (xup X 0 2 97) 0 4 g) 0 5 m) hgl rfl rfl rfl).kp a2 rfl rfl (fun _ => rfl) (fun _ => rfl) (fun _ => rfl))
    · exact (a2 2 11 rfl).trans c2
    · have z' : (97 : Int) = 0 := z
      omega
    · show X 4 g + 1 = X 4 g + (if (97 : Int) = 97 then 1 else 0)
      rw [if_pos rfl]
    · have i1' : i < X 4 g + (if (97 : Int) = 97 then 1 else 0) := i1
      rw [if_pos rfl] at i1'
      show (xup S1 22 (X 4 g) m) 22 i = if i = X 4 g then m else X 3 (up_ (xup (xup (xup X 0 2 97) 0 4 g) 0 5 m) (X 4 g - 1 - i).toNat g)
      rw [up_.E (X := X) (Y := xup (xup (xup X 0 2 97) 0 4 g) 0 5 m) rfl, xup_at]
      by_cases hi : i = X 4 g
      · rw [if_pos ⟨rfl, hi⟩, if_pos hi]
      · rw [if_neg (fun w => hi w.2), if_neg hi]
        exact e22 i i0 (by omega)
    · exact (a2 2 12 rfl).trans c5
  · rw [if_neg (by rw [has]; decide)] at k
    rw [c5]
    have a3 := hx.2.2.2.2.2.2.1
    have gbV := gb.V (md := md) hW gx.2.1 hmk
    have gcb := (gc.ok (md := md) hW gx.2.1 hmk).1.b
    have a1 : kp [(2, 12)] S (xup S 2 12 (X 0 3 + 1)) := kp.rf.up rfl
    have cx1 : cx P md (xup X 0 3 (X 0 3 + 1)) (xup S 2 12 (X 0 3 + 1)) := cx_chg hcx a1 rfl ⟨rfl, rfl, rfl, rfl, rfl⟩ c2 c3 (fun z => absurd hf z) rfl
    refine ⟨by omega, s6_goBehind (md := md) hW (hC.kp a1 rfl) (hH.kp a1 (fun _ => rfl) (fun _ => rfl) (fun _ => rfl) (fun _ => rfl) (fun _ => rfl)) gx.2.1 hmk (c9.kp a1 (fun _ => rfl)) (fun S2 a2 b2 => ?_)⟩
    have cx2 := cx1.kp a2 rfl
    have k2 : kp cx_Lm S S2 := (a1.mono rfl).tr (a2.mono rfl)
    have hgl2 : gl md g X S2 := (hgl.kp a1 rfl rfl (fun _ => rfl) (fun _ => rfl) (fun _ => rfl)).kp a2 rfl rfl (fun _ => rfl) (fun _ => rfl) (fun _ => rfl)
    have fin : ∀ (s : Int) (Y S3 : xS), (0 ≤ s ∧ s < Y 0 0) → Y 0 0 ≤ 2000 → kp cx_Lm S S3 → S3 33 (-1) = S 33 (-1) → cx P md Y S3 → gl md g X S3 → Y 5 = X 5 → Y 6 = X 6 → Y 0 6 = X 0 6 → (∀ S' : xS, kp cx_Lm S S' → cx P md (sx_ed md Y s (sx_do m)) S' → gl md g (sx_ed md Y s (sx_do m)) S' → Q S') → (S3 33 (-1) = S 33 (-1)) ∧ w_X6_make_J87 m Q s S3 := by
      intro s Y S3 hs hY hk3 h33 cx3 gl3 y5 y6 y06 kk
      have glY : gl md g Y S3 := gl3.eX y5 y6 y06
      refine ⟨h33, ?_⟩
      unfold w_X6_make_J87
      rw [cx3.2.2.2.2.2.2.2.1]
      unfold sx_ed at kk
      refine ⟨fun z => ?_, fun z => ?_⟩
      · rw [if_neg z] at kk
        exact kk S3 hk3 cx3 glY
      · rw [if_pos z] at kk
        subst z
        refine s3_doersOf hW hmk ⟨rfl, s2_addEdge glY (hxm.mono y5 (by omega)) (by omega) (by omega) dob (by have := hx.2.2.2.2.2.2.1.2; omega) (fun S4 a4 b4 => kk S4 (hk3.tr (a4.mono rfl)) ?_ b4)⟩
        obtain ⟨d1, d2, d3, d4, d5, -⟩ := id cx3
        refine cx_chg cx3 a4 rfl ⟨rfl, rfl, rfl, rfl, rfl⟩ ((a4 2 11 rfl).trans d2) (fun z => (a4 2 13 rfl).trans (d3 z)) (fun z => ?_) ((a4 2 12 rfl).trans d5)
        have d := d4 z
        refine ⟨(a4 2 13 rfl).trans d.1, (a4 2 8 rfl).trans d.2.1, fun i i0 i1 => ?_⟩
        rw [a4 22 i rfl]
        have := d.2.2 i i0 i1
        rw [this]
        unfold tr_
        rw [up_.E (X := Y) (Y := xup (xup Y 6 (Y 0 6) (8 * s + sx_do m)) 0 6 (Y 0 6 + 1)) rfl]
        rfl
    refine s7_pack_n b2 gbV.1 (s1_numberFor cx2.2.2.2.2.2.2.1 (by rw [cx2.1]; show 0 ≤ X 0 0 ∧ X 0 0 ≤ 2000; omega) (show 0 ≤ gc P md (X 1 g) m by omega) (fun s s0 s1 e => ⟨fun z => ?_, fun z => by omega⟩) (fun hno => ⟨fun z => absurd rfl z, fun _ => ?_⟩))
    · have s1' : s < X 0 0 := by rw [cx2.1] at s1; exact s1
      rw [(cx2.2.2.2.2.2.1 s s0 s1').1] at e
      have es : sx_fnd md X (gc P md (X 1 g) m) = s := by
        rcases sx_fnd.or md X (gc P md (X 1 g) m) with ⟨-, h⟩ | ⟨h1, h2, h3⟩
        · exact absurd e (h s s0 s1')
        · exact hx.2.2.2.2.1 _ _ h1 h2 s0 s1' (h3.trans e.symm)
      rw [if_neg (by rw [es]; exact z), es] at k
      exact fin s (xup X 0 3 (X 0 3 + 1)) S2 ⟨s0, s1'⟩ hn.2 k2 (by rw [a2 33 (-1) rfl]; exact a1 33 (-1) rfl) cx2 hgl2 rfl rfl rfl k
    · have hnew : ∀ s : Int, 0 ≤ s → s < X 0 0 → ky md (X 1 s) ≠ ky md (gc P md (X 1 g) m) := by
        intro s s0 s1 e
        refine hno s s0 (by rw [cx2.1]; exact s1) ?_
        rw [(cx2.2.2.2.2.2.1 s s0 s1).1]
        exact e
      have es : sx_fnd md X (gc P md (X 1 g) m) = -1 := by
        rcases sx_fnd.or md X (gc P md (X 1 g) m) with ⟨h, -⟩ | ⟨h1, h2, h3⟩
        · exact h
        · exact absurd h3 (hnew _ h1 h2)
      rw [if_pos es] at k
      have hx' := xa.add (md := md) (c := gc P md (X 1 g) m) hW hx.made hg (by show X 0 0 < 2000; omega) hf hm rfl hnew
      obtain ⟨n1, n2, n3, n4, n5, n6, n7⟩ := sx_add.n P (xup X 0 3 (X 0 3 + 1)) (gc P md (X 1 g) m) g m
      have n1' : (sx_add P (xup X 0 3 (X 0 3 + 1)) (gc P md (X 1 g) m) g m) 0 0 = X 0 0 + 1 := n1
      refine s6_find (X := xup X 0 3 (X 0 3 + 1)) hW ((hC.kp a1 rfl).kp a2 rfl) b2 gbV.1 rfl cx2 (fun s s0 s1 => by have := hx.2.1 s s0 s1; have s1' : s < X 0 0 := s1; show 0 ≤ X 4 s ∧ X 4 s < 2000; omega) hx' (by show 0 ≤ X 0 0 ∧ X 0 0 < 2000; omega) hf hnew (Or.inr hg) (fun S3 a3 cx3 => ?_)
      exact fin (X 0 0) (sx_add P (xup X 0 3 (X 0 3 + 1)) (gc P md (X 1 g) m) g m) S3 (by omega) (by omega) (k2.tr (a3.mono rfl)) (by rw [a3 33 (-1) rfl, a2 33 (-1) rfl]; exact a1 33 (-1) rfl) cx3 (hgl2.kp a3 rfl rfl (fun _ => rfl) (fun _ => rfl) (fun _ => rfl)) n5 n6 n4 k
end PWCG

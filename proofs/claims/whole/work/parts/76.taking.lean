/-! pure layer: taking states away -/
abbrev m23 : List (Nat × Int) := [(23, -9)]
def kR (X : xS) (m : Int → Bool) (r : Int → Int) (tm : Int) (S : xS) : Prop := ∀ s : Int, 0 ≤ s → s < X 0 0 → (S 23 s = 0 ∨ S 23 s = 1) ∧ (S 23 s = 1 → m s = true) ∧ (m s = true → S 23 s = 0 → r s < tm ∧ X 5 s ≠ X 5 (s + 1) ∧ ∀ e : Int, X 5 s ≤ e → e < X 5 (s + 1) → m (X 6 e / 8) = true → S 23 (X 6 e / 8) = 0 ∧ r (X 6 e / 8) < r s)
def kI (X : xS) (m : Int → Bool) (S : xS) : Prop := ∃ (r : Int → Int) (tm : Int), kR X m r tm S
def oks (X S : xS) (s : Int) : Prop := S 23 s = 1 → X 5 s = X 5 (s + 1) ∨ ∃ e : Int, X 5 s ≤ e ∧ e < X 5 (s + 1) ∧ S 23 (X 6 e / 8) = 1
section PWTA
variable {P X S : xS} {m : Int → Bool}
theorem s5_takeIf {Q : Int → xS → Prop} {s : Int} (hG : gr X) (hgc : gCl X S) (hk : kI X m S) (s0 : 0 ≤ s) (s1 : s < X 0 0) (k1 : ∀ S' : xS, kp m23 S S' → kI X m S' → nz (S' 23) (X 0 0).toNat + 1 = nz (S 23) (X 0 0).toNat → Q 1 S') (k0 : oks X S s → Q 0 S) : w_X5_takeIfStuck s S Q := by
  have n := hG.1
  have g7 := hG.2.2.2.2.1
  obtain ⟨r, tm, hr⟩ := hk
  have hs := hr s s0 s1
  have b0 := hG.b s0 (by omega)
  have b1 := hG.b (s := s + 1) (by omega) (by omega)
  have bm := hG.2.2.1 s s0 s1
  refine ⟨by omega, fun z => k0 (fun w => by omega), fun z => s2_without hG hgc s0 s1 (fun y => ⟨fun w => by omega, fun _ => k0 (fun _ => Or.inl y)⟩) (fun y => ⟨fun _ => ?_, fun w => absurd rfl w⟩)⟩
  have m1 : S 23 s = 1 := hs.1.elim (fun w => absurd w z) id
  rw [hgc.2.2.2.2.1 s s0 (by omega)]
  refine xL1_up (X 5 (s + 1)) (fun v S' => S' = S ∧ X 5 s ≤ v ∧ ∀ e : Int, X 5 s ≤ e → e < v → S 23 (X 6 e / 8) ≠ 1) ?_ (X 5 s) S bm ⟨rfl, by omega, fun e e0 e1 => by omega⟩
  rintro v S1 ⟨rfl, hv0, hpre⟩ hv k2 hk2
  unfold w_X5_takeIfStuck_L32
  rw [hgc.2.2.2.2.1 (s + 1) (by omega) (by omega)]
  refine ⟨by omega, fun w => ?_, fun w => ?_⟩
  · have up := nz_up (T := (xup S1 23 s 0) 23) (T' := S1 23) (j := s.toNat) (by rw [show (s.toNat : Int) = s by omega, xup_sm, if_pos rfl]) (by rw [show (s.toNat : Int) = s by omega]; exact z) (fun i hi => by rw [xup_sm, if_neg (by omega)]) (X 0 0).toNat (by omega)
    refine k1 _ (kp.rf.up rfl) ⟨fun x => if x = s then tm else r x, tm + 1, fun t t0 t1 => ?_⟩ up.symm
    have ht := hr t t0 t1
    have r23 : ∀ x : Int, (xup S1 23 s 0) 23 x = if x = s then 0 else S1 23 x := fun x => xup_sm _ _ _ _ _
    rw [r23]
    by_cases q : t = s
    · rw [if_pos q]
      refine ⟨Or.inl rfl, fun x => by omega, fun _ _ => ⟨?_, ?_, fun e e0 e1 em => ?_⟩⟩
      · show (if t = s then tm else r t) < tm + 1
        rw [if_pos q]; omega
      · rw [q]; exact y
      · rw [q] at e0 e1
        have gt := (hG.t s0 s1 e0 e1).2.2
        have ne := hpre e e0 (by omega)
        have hg := hr _ gt.1 gt.2
        have z0 : S1 23 (X 6 e / 8) = 0 := hg.1.elim id (fun x => absurd x ne)
        have hne : X 6 e / 8 ≠ s := fun x => by rw [x] at z0; omega
        refine ⟨by rw [r23, if_neg hne]; exact z0, ?_⟩
        show (if X 6 e / 8 = s then tm else r (X 6 e / 8)) < (if t = s then tm else r t)
        rw [if_neg hne, if_pos q]
        exact (hg.2.2 em z0).1
    · rw [if_neg q]
      refine ⟨ht.1, ht.2.1, fun tm' tz => ?_⟩
      obtain ⟨x1, x2, x3⟩ := ht.2.2 tm' tz
      refine ⟨?_, x2, fun e e0 e1 em => ?_⟩
      · show (if t = s then tm else r t) < tm + 1
        rw [if_neg q]; omega
      · obtain ⟨y1, y2⟩ := x3 e e0 e1 em
        have hne : X 6 e / 8 ≠ s := fun x => by rw [x] at y1; omega
        refine ⟨by rw [r23, if_neg hne]; exact y1, ?_⟩
        show (if X 6 e / 8 = s then tm else r (X 6 e / 8)) < (if t = s then tm else r t)
        rw [if_neg hne, if_neg q]
        exact y2
  · have gt := hG.t s0 s1 hv0 (by omega)
    have e33 := hgc.2.2.2.1 v gt.1.1 gt.1.2
    have hcap := hgc.2.2.1
    rw [e33]
    refine ⟨by omega, by omega, fun q => ⟨⟨by omega, by omega⟩, hk2 S1 (by omega) ⟨rfl, by omega, fun e e0 e1 => ?_⟩⟩, fun q => k0 (fun _ => Or.inr ⟨v, hv0, by omega, q⟩)⟩
    by_cases x : e = v
    · rw [x]; exact q
    · exact hpre e e0 (by omega)
theorem s5_takeUp {Q : Int → xS → Prop} (hG : gr X) (hgc : gCl X S) (hk : kI X m S) (k : ∀ (c : Int) (S' : xS), kp m23 S S' → kI X m S' → 0 ≤ c → (nz (S' 23) (X 0 0).toNat : Int) + c = nz (S 23) (X 0 0).toNat → (c = 0 → ∀ s : Int, 0 ≤ s → s < X 0 0 → oks X S' s) → Q c S') : w_X5_takeUpwards S Q := by
  have n := hG.1
  have nl := nz_le (S 23) (X 0 0).toNat
  refine xL2_up (X 0 0) (fun c s S' => 0 ≤ s ∧ kp m23 S S' ∧ kI X m S' ∧ 0 ≤ c ∧ (nz (S' 23) (X 0 0).toNat : Int) + c = nz (S 23) (X 0 0).toNat ∧ (c = 0 → ∀ t : Int, 0 ≤ t → t < s → oks X S' t)) ?_ 0 0 S (by omega) ⟨by omega, kp.rf, hk, by omega, by omega, fun _ t t0 t1 => by omega⟩
  rintro c s S1 ⟨s0, a1, i1, c0, n1, o1⟩ hs k4 hk4
  have gc1 := hgc.kp a1 rfl
  unfold w_X5_takeUpwards_L4
  rw [gc1.1]
  refine ⟨fun z => k c S1 a1 i1 c0 n1 (fun w t t0 t1 => o1 w t t0 (by omega)), fun z => s5_takeIf hG gc1 i1 s0 (by omega) (fun S2 a2 i2 n2 => ⟨⟨by omega, by omega⟩, ⟨by omega, by omega⟩, hk4 _ S2 (by omega) ⟨by omega, a1.tr a2, i2, by omega, by omega, fun w => by omega⟩⟩) (fun ok => ⟨⟨by omega, by omega⟩, ⟨by omega, by omega⟩, hk4 _ S1 (by omega) ⟨by omega, a1, i1, by omega, by omega, fun w t t0 t1 => ?_⟩⟩)⟩
  by_cases q : t = s
  · rw [q]; exact ok
  · exact o1 (by omega) t t0 (by omega)
theorem s5_takeDown {Q : Int → xS → Prop} (hG : gr X) (hgc : gCl X S) (hk : kI X m S) (k : ∀ (c : Int) (S' : xS), kp m23 S S' → kI X m S' → 0 ≤ c → (nz (S' 23) (X 0 0).toNat : Int) + c = nz (S 23) (X 0 0).toNat → (c = 0 → ∀ s : Int, 0 ≤ s → s < X 0 0 → oks X S' s) → Q c S') : w_X5_takeDownwards S Q := by
  have n := hG.1
  have nl := nz_le (S 23) (X 0 0).toNat
  unfold w_X5_takeDownwards
  rw [hgc.1]
  refine ⟨⟨by omega, by omega⟩, ?_⟩
  refine xL2_dn (fun c s S' => s < X 0 0 ∧ kp m23 S S' ∧ kI X m S' ∧ 0 ≤ c ∧ (nz (S' 23) (X 0 0).toNat : Int) + c = nz (S 23) (X 0 0).toNat ∧ (c = 0 → ∀ t : Int, s < t → t < X 0 0 → oks X S' t)) ?_ 0 (X 0 0 - 1) S (by omega) ⟨by omega, kp.rf, hk, by omega, by omega, fun _ t t0 t1 => by omega⟩
  rintro c s S1 ⟨s1, a1, i1, c0, n1, o1⟩ hs k4 hk4
  have gc1 := hgc.kp a1 rfl
  refine ⟨fun z => k c S1 a1 i1 c0 n1 (fun w t t0 t1 => o1 w t (by omega) t1), fun z => s5_takeIf hG gc1 i1 (by omega) s1 (fun S2 a2 i2 n2 => ⟨⟨by omega, by omega⟩, ⟨by omega, by omega⟩, hk4 _ S2 (by omega) ⟨by omega, a1.tr a2, i2, by omega, by omega, fun w => by omega⟩⟩) (fun ok => ⟨⟨by omega, by omega⟩, ⟨by omega, by omega⟩, hk4 _ S1 (by omega) ⟨by omega, a1, i1, by omega, by omega, fun w t t0 t1 => ?_⟩⟩)⟩
  by_cases q : t = s
  · rw [q]; exact ok
  · exact o1 (by omega) t (by omega) t1
theorem s5_isAllTaken {Q : Int → xS → Prop} {a v : Int} (h : ag P X S) (ha : 0 ≤ a ∧ a < 9) (k1 : ∀ S' : xS, kp rc_L S S' → ¬ RR X (tj_al X (mw X a v) (X 0 0).toNat) (mw X a v) (P 54 1) 0 → Q 1 S') (k0 : ∀ S' : xS, kp rc_L S S' → RR X (tj_al X (mw X a v) (X 0 0).toNat) (mw X a v) (P 54 1) 0 → Q 0 S') : w_X5_isAllTaken a v S Q := by
  have hG := h.g.1
  have n := hG.1
  refine s5_markWithout h ha (fun S1 a1 b1 => ?_)
  have j52 : ∀ S2 : xS, kp rc_L S S2 → kI X (mw X a v) S2 → (∀ s : Int, 0 ≤ s → s < X 0 0 → oks X S2 s) → w_X5_isAllTaken_J52 Q S2 := by
    intro S2 a2 i2 o2
    have gc2 := (h.kp (a2.mono rfl)).g.2.1
    refine xL1_up (X 0 0) (fun s S' => S' = S2 ∧ 0 ≤ s ∧ ∀ t : Int, 0 ≤ t → t < s → S2 23 t ≠ 1) ?_ 0 S2 (by omega) ⟨rfl, by omega, fun t t0 t1 => by omega⟩
    rintro s S3 ⟨rfl, s0, hpre⟩ hs k2 hk2
    unfold w_X5_isAllTaken_L54
    rw [gc2.1]
    refine ⟨fun z => k1 S3 a2 ?_, fun z => ⟨by omega, fun y => ⟨⟨by omega, by omega⟩, hk2 S3 (by omega) ⟨rfl, by omega, fun t t0 t1 => ?_⟩⟩, fun y => k0 S3 a2 ?_⟩⟩
    · obtain ⟨r, tm, hr⟩ := i2
      have z0 : ∀ t : Int, 0 ≤ t → t < X 0 0 → S3 23 t = 0 := fun t t0 t1 => (hr t t0 t1).1.elim id (fun x => absurd x (hpre t t0 (by omega)))
      refine RR.no (r := r) hG (fun t e t0 t1 tm' e0 e1 em => ((((hr t t0 t1).2.2 tm' (z0 t t0 t1)).2.2) e e0 e1 em).2) (fun t t0 t1 tm' => ((hr t t0 t1).2.2 tm' (z0 t t0 t1)).2.1)
    · by_cases q : t = s
      · rw [q]; exact y
      · exact hpre t t0 (by omega)
    · obtain ⟨r, tm, hr⟩ := i2
      refine RR.yes (Ug := fun t => (0 ≤ t ∧ t < X 0 0) ∧ S3 23 t = 1) hG (fun t ht => ⟨ht.1, (hr t ht.1.1 ht.1.2).2.1 ht.2, ?_⟩) ⟨s, ⟨s0, by omega⟩, y⟩
      rcases o2 t ht.1.1 ht.1.2 ht.2 with q | ⟨e, e0, e1, e2⟩
      · exact Or.inl q
      · exact Or.inr ⟨e, e0, e1, (hG.t ht.1.1 ht.1.2 e0 e1).2.2, e2⟩
  have i1 : kI X (mw X a v) S1 := by
    refine ⟨fun _ => 0, 0, fun s s0 s1 => ?_⟩
    have b := b1 s s0 s1
    rcases Bool.eq_false_or_eq_true (mw X a v s) with q | q
    · have e := b.1 q
      exact ⟨Or.inr e, fun _ => q, fun _ w => by omega⟩
    · have e := b.2 q
      exact ⟨Or.inl e, fun w => by omega, fun w => by rw [q] at w; cases w⟩
  have nl := nz_le (S1 23) (X 0 0).toNat
  refine xL1_up (X 0 0 + 1) (fun p S' => 0 ≤ p ∧ kp rc_L S S' ∧ kI X (mw X a v) S' ∧ (nz (S' 23) (X 0 0).toNat : Int) + p ≤ X 0 0) ?_ 0 S1 (by omega) ⟨by omega, a1, i1, by omega⟩
  rintro p S2 ⟨p0, a2, i2, n2⟩ hp k8 hk8
  have gc2 := (h.kp (a2.mono rfl)).g.2.1
  unfold w_X5_isAllTaken_L8
  rw [gc2.1]
  have j36 : ∀ (c : Int) (S3 : xS), kp m23 S2 S3 → kI X (mw X a v) S3 → 0 ≤ c → (nz (S3 23) (X 0 0).toNat : Int) + c = nz (S2 23) (X 0 0).toNat → (c = 0 → ∀ s : Int, 0 ≤ s → s < X 0 0 → oks X S3 s) → w_X5_isAllTaken_J36 (w_X5_isAllTaken_J43 (w_X5_isAllTaken_J52 Q)) k8 p c S3 := by
    intro c S3 a3 i3 c0 n3 o3
    exact ⟨fun w => ⟨⟨by omega, by omega⟩, hk8 S3 (by omega) ⟨by omega, a2.tr (a3.mono rfl), i3, by omega⟩⟩, fun w => j52 S3 (a2.tr (a3.mono rfl)) i3 (o3 w)⟩
  exact ⟨fun z => by omega, fun z => ⟨p0, fun w => s5_takeUp hG gc2 i2 (fun c S3 a3 i3 c0 n3 o3 => j36 c S3 a3 i3 c0 n3 o3), fun w => s5_takeDown hG gc2 i2 (fun c S3 a3 i3 c0 n3 o3 => j36 c S3 a3 i3 c0 n3 o3)⟩⟩
end PWTA
section PWK3
variable {S : xS} {f : Int → Int} {i : Int}
theorem k_23 (hI : Inv_ S) : w_K23 f i S Inv_ := by
  show w_L_recursByTaking (f (i + 1)) (f (i + 2)) S (fun r S1 => w_X9_recursByTaking (f (i + 1)) (f (i + 2)) S1 (gZ r S1))
  generalize f (i + 1) = a
  generalize f (i + 2) = v
  have bad : ¬ ((0 ≤ a ∧ a < 9) ∧ (0 ≤ v ∧ v < 4)) → w_X9_recursByTaking a v S (gZ 1 S) := fun w => s9_asked_bad w ⟨fun y => absurd rfl y, fun _ => ⟨Or.inl rfl, gZ.no hI (by decide)⟩⟩
  unfold w_L_recursByTaking w_X8_recursByTaking
  refine s8_needVariable (fun a0 a1' => s8_needNumber (fun v0 v1 => ?_) (fun w => Or.inl ⟨rfl, bad (fun y => w y.2)⟩)) (fun w => Or.inl ⟨rfl, bad (fun y => w y.1)⟩)
  rcases Inv_g hI with ⟨P, X, h⟩ | h
  · have fin : ∀ (b : Int) (S1 : xS), kp rc_L S S1 → ((b = 1 ∧ ¬ RR X (tj_al X (mw X a v) (X 0 0).toNat) (mw X a v) (P 54 1) 0) ∨ (b = 0 ∧ RR X (tj_al X (mw X a v) (X 0 0).toNat) (mw X a v) (P 54 1) 0)) → w_X9_recursByTaking a v (xup S1 98 0 b) (gZ 0 (xup S1 98 0 b)) := by
      intro b S1 a1 hb
      have h1 := (h.kp (a1.mono rfl)).kp (S' := xup S1 98 0 b) (kp.rf.up rfl)
      have h2 := h1.kp (S' := xup (xup S1 98 0 b) 54 0 0) (kp.rf.up rfl)
      refine s9_asked_ok h1 ⟨a0, a1'⟩ ⟨v0, v1⟩ ⟨fun _ => s9_laysSet h2 ⟨a0, a1'⟩ (fun S2 a2 b2 => s9_part (h2.kp (a2.mono rfl)) b2 (fun S3 a3 w => ⟨fun _ => ⟨Or.inl rfl, gZ.ok h1 (a2.tr a3) (Or.inl ⟨rfl, ?_⟩)⟩, fun y => by omega⟩) (fun S3 a3 w => ⟨fun y => absurd rfl y, fun _ => ⟨Or.inr rfl, gZ.ok h1 (a2.tr a3) (Or.inr ⟨by decide, ?_⟩)⟩⟩)), fun y => by omega⟩
      · rcases hb with ⟨-, y⟩ | ⟨y, -⟩
        · exact absurd w y
        · exact y
      · rcases hb with ⟨y, -⟩ | ⟨-, y⟩
        · exact y
        · exact absurd y w
    exact s8_all_ok h (s5_isAllTaken h ⟨a0, a1'⟩ (fun S1 k1 w => ⟨k1 33 (-1) rfl, Or.inr rfl, fun y => by omega, fun _ => fin 1 S1 k1 (Or.inl ⟨rfl, w⟩)⟩) (fun S1 k1 w => ⟨k1 33 (-1) rfl, Or.inl rfl, fun _ => fin 0 S1 k1 (Or.inr ⟨rfl, w⟩), fun y => absurd rfl y⟩))
  · exact s8_all_no h (Or.inr ⟨rfl, s9_asked_no h ⟨a0, a1'⟩ ⟨v0, v1⟩ ⟨fun y => absurd rfl y, fun _ => ⟨Or.inl rfl, gZ.no hI (by decide)⟩⟩⟩)
end PWK3

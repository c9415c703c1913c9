/-! pure layer: what a move does; exchanging alike processes -/
def mk_al (P σ : xS) (x : Int) : xS :=
  if P 58 x = 115 then xup σ 1 (P 59 x) (P 60 x)
  else if P 58 x = 105 then xup σ 1 (P 59 x) ((σ 1 (P 59 x) + P 60 x) % 4)
  else if P 58 x = 119 then xup (xup σ 3 (2 * P 59 x + σ 2 (P 59 x)) (σ 1 (P 60 x))) 2 (P 59 x) (σ 2 (P 59 x) + 1)
  else if P 58 x = 114 then xup (xup (xup (xup σ 1 (P 60 x) (σ 3 (2 * P 59 x))) 3 (2 * P 59 x) (σ 3 (2 * P 59 x + 1))) 3 (2 * P 59 x + 1) 0) 2 (P 59 x) (σ 2 (P 59 x) - 1)
  else σ
def mk_pa (P σ : xS) (x y : Int) : xS := xup (xup σ 1 (P 60 y) (σ 1 (P 60 x))) 0 (y / 14) (P 57 y)
def mk_do (P σ : xS) (m : Int) : xS := xup (if m % 64 = 0 then mk_al P σ (m / 64) else mk_pa P σ (m / 64) (m % 64 - 1)) 0 (m / 64 / 14) (P 57 (m / 64))
section PWH
variable {σ S : xS} {i v : Int}
theorem sv_H.up0 (h : sv_H 41 σ S) : sv_H 41 (xup σ 0 i v) (xup S 41 i v) := by
  refine ⟨fun p a b => ?_, fun p a b => ?_, fun k a b => ?_⟩
  · have := h.1 p a b
    simp [xup_at, this]
  · have := h.2.1 p a b
    simp [xup_at] at this ⊢; exact this
  · have := h.2.2 k a b
    simp [xup_at] at this ⊢; exact this
theorem sv_H.up1 (h : sv_H 41 σ S) : sv_H 41 (xup σ 1 i v) (xup S 42 i v) := by
  refine ⟨fun p a b => ?_, fun p a b => ?_, fun k a b => ?_⟩
  · have := h.1 p a b
    simp [xup_at, this]
  · have := h.2.1 p a b
    simp [xup_at] at this ⊢; rw [this]
  · have := h.2.2 k a b
    simp [xup_at] at this ⊢; exact this
theorem sv_H.up2 (h : sv_H 41 σ S) : sv_H 41 (xup σ 2 i v) (xup S 43 i v) := by
  refine ⟨fun p a b => ?_, fun p a b => ?_, fun k a b => ?_⟩
  · have := h.1 p a b
    simp [xup_at, this]
  · have := h.2.1 p a b
    simp [xup_at] at this ⊢; exact this
  · have := h.2.2 k a b
    simp [xup_at] at this ⊢; exact ⟨by rw [this.1], this.2⟩
theorem sv_H.up3 (h : sv_H 41 σ S) : sv_H 41 (xup σ 3 (2 * i) v) (xup S 44 i v) := by
  refine ⟨fun p a b => ?_, fun p a b => ?_, fun k a b => ?_⟩
  · have := h.1 p a b
    simp [xup_at, this]
  · have := h.2.1 p a b
    simp [xup_at] at this ⊢; exact this
  · have := h.2.2 k a b
    have e1 : (2 * k = 2 * i) = (k = i) := propext ⟨fun h => by omega, fun h => by omega⟩
    have e2 : (2 * k + 1 = 2 * i) = False := propext ⟨fun h => by omega, fun h => h.elim⟩
    simp only [xup_at, e1, e2]
    simp at this ⊢
    exact ⟨this.1, by rw [this.2.1], this.2.2⟩
theorem sv_H.up4 (h : sv_H 41 σ S) : sv_H 41 (xup σ 3 (2 * i + 1) v) (xup S 45 i v) := by
  refine ⟨fun p a b => ?_, fun p a b => ?_, fun k a b => ?_⟩
  · have := h.1 p a b
    simp [xup_at, this]
  · have := h.2.1 p a b
    simp [xup_at] at this ⊢; exact this
  · have := h.2.2 k a b
    have e1 : (2 * k + 1 = 2 * i + 1) = (k = i) := propext ⟨fun h => by omega, fun h => by omega⟩
    have e2 : (2 * k = 2 * i + 1) = False := propext ⟨fun h => by omega, fun h => h.elim⟩
    simp only [xup_at, e1, e2]
    simp at this ⊢
    exact ⟨this.1, this.2.1, by rw [this.2.2]⟩
theorem sv_N.up0 (h : sv_N 79 σ S) : sv_N 79 (xup σ 0 i v) (xup S 79 i v) := by
  refine ⟨fun p a b => ?_, fun p a b => ?_, fun k a b => ?_, fun k a b => ?_⟩
  · have := h.1 p a b
    simp [xup_at, this]
  · have := h.2.1 p a b
    simp [xup_at] at this ⊢; exact this
  · have := h.2.2.1 k a b
    simp [xup_at] at this ⊢; exact this
  · have := h.2.2.2 k a b
    simp [xup_at] at this ⊢; exact this
theorem sv_N.up1 (h : sv_N 79 σ S) : sv_N 79 (xup σ 1 i v) (xup S 80 i v) := by
  refine ⟨fun p a b => ?_, fun p a b => ?_, fun k a b => ?_, fun k a b => ?_⟩
  · have := h.1 p a b
    simp [xup_at, this]
  · have := h.2.1 p a b
    simp [xup_at] at this ⊢; rw [this]
  · have := h.2.2.1 k a b
    simp [xup_at] at this ⊢; exact this
  · have := h.2.2.2 k a b
    simp [xup_at] at this ⊢; exact this
theorem sv_N.up2 (h : sv_N 79 σ S) : sv_N 79 (xup σ 2 i v) (xup S 81 i v) := by
  refine ⟨fun p a b => ?_, fun p a b => ?_, fun k a b => ?_, fun k a b => ?_⟩
  · have := h.1 p a b
    simp [xup_at, this]
  · have := h.2.1 p a b
    simp [xup_at] at this ⊢; exact this
  · have := h.2.2.1 k a b
    simp [xup_at] at this ⊢; rw [this]
  · have := h.2.2.2 k a b
    simp [xup_at] at this ⊢; exact this
theorem sv_N.up3 (h : sv_N 79 σ S) : sv_N 79 (xup σ 3 i v) (xup S 82 i v) := by
  refine ⟨fun p a b => ?_, fun p a b => ?_, fun k a b => ?_, fun k a b => ?_⟩
  · have := h.1 p a b
    simp [xup_at, this]
  · have := h.2.1 p a b
    simp [xup_at] at this ⊢; exact this
  · have := h.2.2.1 k a b
    simp [xup_at] at this ⊢; exact this
  · have := h.2.2.2 k a b
    simp [xup_at] at this ⊢; rw [this]
end PWH
section PWD
variable {P S σ : xS} {m : Int} {l : List Int}
/-- the numbers in a move -/
theorem mv_ok.n {x : Int} (h : mv_ok P σ m) (hW : pw_WF P) (hx : m / 64 = x) : pw_v P x ∧ 0 ≤ m ∧ (0 ≤ x / 14 ∧ x / 14 < 3 ∧ x / 14 < P 54 1) ∧ P 56 x = σ 0 (x / 14) ∧ ((m % 64 = 0 ∧ m = 64 * x ∧ mv_ho P x = false ∧ mv_fr P σ x = true) ∨ (m % 64 ≠ 0 ∧ P 58 x = 119 ∧ pw_v P (m % 64 - 1) ∧ P 58 (m % 64 - 1) = 114 ∧ (m % 64 - 1) / 14 ≠ x / 14 ∧ (0 ≤ (m % 64 - 1) / 14 ∧ (m % 64 - 1) / 14 < 3 ∧ (m % 64 - 1) / 14 < P 54 1) ∧ P 56 (m % 64 - 1) = σ 0 ((m % 64 - 1) / 14) ∧ mv_ho P x = true)) := by
  have w0 := hW.1
  obtain ⟨p, s, g1, g2, g3, g4, g5⟩ := h
  have ws := hW.2.2.2.1 p (by omega) (by omega)
  have ex : x = 14 * p + s := by omega
  have ep : x / 14 = p := by omega
  refine ⟨⟨p, s, by omega, by omega, ex⟩, ?_, by omega, ?_, ?_⟩
  · rcases g5 with ⟨-, -, h⟩ | ⟨-, q, r, h1, h2, h3, h4, -⟩ <;> omega
  · rw [ep, ex]; exact g4
  · rcases g5 with ⟨h1, h2, h3⟩ | ⟨h1, q, r, h2, h3, h4, h5, h6, h7, h8⟩
    · exact Or.inl ⟨by omega, by omega, by rw [ex]; exact h1, by rw [ex]; exact h2⟩
    · have wr := hW.2.2.2.1 q (by omega) (by omega)
      have ey : m % 64 - 1 = 14 * q + r := by omega
      have eq : (m % 64 - 1) / 14 = q := by omega
      refine Or.inr ⟨by omega, ?_, ⟨q, r, by omega, by omega, ey⟩, by rw [ey]; exact h7, by omega, by omega, by rw [eq, ey]; exact h6, by rw [ex]; exact h1⟩
      rw [ex]
      unfold mv_ho at h1
      simp at h1
      exact h1.1
theorem s3_partnerOf {Q : Int → xS → Prop} (h0 : 0 ≤ m ∧ m < 2147483648) (k : Q (m % 64 - 1) S) : w_X3_partnerOf m S Q := by
  have e := xand_lo (a := m) 6 h0 (by decide)
  rw [show ((2 : Int) ^ 6 - 1) = 63 by decide, show ((2 : Int) ^ 6) = 64 by decide] at e
  unfold w_X3_partnerOf
  rw [e]
  exact ⟨⟨by omega, by omega⟩, k⟩
theorem s7_doMove {Q : xS → Prop} (hW : pw_WF P) (hC : pw_C P S) (hH : sv_H 41 σ S) (hV : sv_V σ) (hm : mv_ok P σ m) (k : ∀ S' : xS, kp sv_Ln S S' → sv_H 41 (mk_do P σ m) S' → Q S') : w_X7_doMove_n m S Q := by
  obtain ⟨hv, h0, h1, h2, h3⟩ := hm.n hW rfl
  have kk := k
  unfold mk_do at k
  generalize hx : m / 64 = x at *
  obtain ⟨b1, b2, b3, b4, b5, b6, b7⟩ := hv.b hW
  obtain ⟨c1, c2, c3, c4, c5⟩ := hv.c hC
  have e12 : S 12 x = P 57 x := c2
  unfold w_X7_doMove_n w_X3_leadOf
  rw [hx]
  refine s3_partnerOf ⟨h0, by omega⟩ ?_
  refine ⟨fun z => ?_, fun z => ?_⟩
  · rcases h3 with ⟨z1, -⟩ | ⟨z1, z2, z3, z4, z5, z6, -⟩
    · omega
    · rw [if_neg z1] at k
      generalize hy : m % 64 - 1 = y at *
      obtain ⟨d1, d2, d3, d4, d5, d6, d7⟩ := z3.b hW
      obtain ⟨f1, f2, f3, f4, f5⟩ := z3.c hC
      have c6 := (c4 (by omega)).2
      have f6 := (f4 (by omega)).2
      have bx := (b5 (by omega)).2
      have by' := (d5 (by omega)).2
      have e1 := hH.2.1 (P 60 x) (by omega) (by omega)
      rw [c6, f6, show S 42 (P 60 x) = σ 1 (P 60 x) from e1]
      refine ⟨d1, b1, by omega, by omega, by omega, by omega, by omega, b1, by omega, ?_⟩
      refine k _ (((kp.rf.up rfl).up rfl).up rfl) ?_
      have t1 : (xup (xup S 42 (P 60 y) (σ 1 (P 60 x))) 41 (y / 14) ((xup S 42 (P 60 y) (σ 1 (P 60 x))) 12 y)) 12 x = P 57 x := e12
      have t2 : (xup S 42 (P 60 y) (σ 1 (P 60 x))) 12 y = P 57 y := f2
      rw [t1, t2]
      unfold mk_pa
      exact sv_H.up0 (sv_H.up0 (sv_H.up1 hH))
  · rcases h3 with ⟨z1, z2, z3, z4⟩ | ⟨z1, -⟩
    · rw [if_pos z1] at k
      have fin : ∀ (τ S2 : xS), sv_H 41 τ S2 → kp sv_Ln S S2 → τ = mk_al P σ x → w_X7_doMove_n_J69 Q x S2 := by
        rintro τ S2 hH2 hk2 rfl
        refine ⟨by omega, b1, by omega, ?_⟩
        refine k _ (hk2.up rfl) ?_
        rw [hk2 12 x rfl, e12]
        exact sv_H.up0 hH2
      refine ⟨b1, ?_⟩
      rw [c3]
      refine ⟨fun y => ?_, fun y => ?_, fun y => ?_, fun y => ?_, fun y1 y2 y3 y4 => ?_⟩
      · obtain ⟨c6, c7⟩ := c4 (by omega)
        have bx := b5 (by omega)
        have b9 := b7 (by omega)
        have e1 := hH.2.1 (P 59 x) (by omega) (by omega)
        have e2 := hV.2.1 (P 59 x) (by omega) (by omega)
        rw [c6, c7, show S 42 (P 59 x) = σ 1 (P 59 x) from e1]
        refine ⟨by omega, ⟨by omega, by omega⟩, by omega, fin _ _ (sv_H.up1 hH) (kp.rf.up rfl) ?_⟩
        unfold mk_al
        rw [if_neg (by omega), if_pos y]
      · obtain ⟨c6, c7⟩ := c4 (by omega)
        have bx := b5 (by omega)
        have b9 := b6 (by omega)
        have e1 := hH.2.2 (P 59 x) (by omega) (by omega)
        have e2 := hV.2.2.1 (P 59 x) (by omega) (by omega)
        rw [c6, c7, show S 43 (P 59 x) = σ 2 (P 59 x) from e1.1, show S 44 (P 59 x) = σ 3 (2 * P 59 x) from e1.2.1, show S 45 (P 59 x) = σ 3 (2 * P 59 x + 1) from e1.2.2]
        refine ⟨by omega, by omega, ⟨by omega, by omega⟩, fin _ _ (sv_H.up2 (sv_H.up4 (sv_H.up3 (sv_H.up1 hH)))) ((((kp.rf.up rfl).up rfl).up rfl).up rfl) ?_⟩
        unfold mk_al
        rw [if_neg (by omega), if_neg (by omega), if_neg (by omega), if_pos y]
      · obtain ⟨c6, c7⟩ := c4 (by omega)
        have bx := b5 (by omega)
        rw [c6, c7]
        refine ⟨by omega, fin _ _ (sv_H.up1 hH) (kp.rf.up rfl) ?_⟩
        unfold mk_al
        rw [if_pos y]
      · obtain ⟨c6, c7⟩ := c4 (by omega)
        have bx := b5 (by omega)
        have b9 := b6 (by omega)
        have e1 := hH.2.2 (P 59 x) (by omega) (by omega)
        have e2 := hV.2.2.1 (P 59 x) (by omega) (by omega)
        have e3 := hH.2.1 (P 60 x) (by omega) (by omega)
        have fr : σ 2 (P 59 x) < P 61 (P 59 x) := by
          unfold mv_fr at z4
          simp [y] at z4
          exact z4
        have last : ∀ (j : Nat) (τ : xS), (j = 44 ∨ j = 45) → sv_H 41 τ (xup S j (P 59 x) (σ 1 (P 60 x))) → xup τ 2 (P 59 x) (σ 2 (P 59 x) + 1) = mk_al P σ x → w_X7_doAlone_n_J137 x S (fun S17 => w_X7_doMove_n_J69 Q x S17) (xup S j (P 59 x) (σ 1 (P 60 x))) := by
          intro j τ hj hτ e
          unfold w_X7_doAlone_n_J137
          have e5 : (xup S j (P 59 x) (σ 1 (P 60 x))) 43 (P 59 x) = σ 2 (P 59 x) := by
            rw [xup_cell (by omega)]
            exact e1.1
          rw [c6, e5]
          refine ⟨⟨by omega, by omega⟩, fin _ _ (sv_H.up2 hτ) ?_ e⟩
          rcases hj with rfl | rfl
          · exact (kp.rf.up rfl).up rfl
          · exact (kp.rf.up rfl).up rfl
        rw [c6, c7, show S 43 (P 59 x) = σ 2 (P 59 x) from e1.1, show S 42 (P 60 x) = σ 1 (P 60 x) from e3]
        refine ⟨by omega, fun w => ⟨by omega, last 45 _ (Or.inr rfl) (sv_H.up4 hH) ?_⟩, fun w => ⟨by omega, last 44 _ (Or.inl rfl) (sv_H.up3 hH) ?_⟩⟩
        · unfold mk_al
          rw [if_neg (by omega), if_neg (by omega), if_pos y, show σ 2 (P 59 x) = 1 by omega]
        · unfold mk_al
          rw [if_neg (by omega), if_neg (by omega), if_pos y, w, Int.add_zero]
      · refine fin σ S hH kp.rf ?_
        unfold mk_al
        rw [if_neg y3, if_neg y1, if_neg y4, if_neg y2]
    · omega
theorem s9_makes {Q : xS → Prop} {i : Nat} (hW : pw_WF P) (hR : pw_R P S) (hH : sv_N 75 σ S) (hV : sv_V σ) (hl : mv_LR l S) (hlen : l.length ≤ 449) (hi : l[i]? = some m) (hm : mv_ok P σ m) (k : ∀ S' : xS, kp sv_L9n S S' → sv_N 79 (mk_do P σ m) S' → Q S') : w_X9_makes i S Q := by
  obtain ⟨hv, h0, h1, h2, h3⟩ := hm.n hW rfl
  have r := hl.2 i m hi
  have hil := (List.getElem?_eq_some_iff.mp hi).1
  unfold mk_do at k
  generalize hx : m / 64 = x at *
  obtain ⟨b1, b2, b3, b4, b5, b6, b7⟩ := hv.b hW
  have ex : 14 * S 83 i + S 84 i = x := by rw [r.1, r.2.1, hx]; omega
  have e83 : S 83 i = x / 14 := by rw [r.1, hx]
  unfold w_X9_makes w_X9_makes_J138 w_X9_makes_J170 w_X9_makes_J217
  rw [ex, hR.2.2.2.2.2.2.2.1]
  refine ⟨⟨by omega, by omega⟩, by omega, s9_copies hH (fun S1 a1 g1 => ?_)⟩
  have hR1 := hR.kp a1 rfl
  have hH1 := hH.kp a1 (fun _ => rfl) (fun _ => rfl) (fun _ => rfl) (fun _ => rfl)
  obtain ⟨e1, e2, e3, e4, e5, e6, e7, e8, e9, e10, e11, e12, e13, e14, e15⟩ := hR1
  have i83 : S1 83 i = x / 14 := by rw [a1 83 i rfl]; exact e83
  have i85 : S1 85 i = S 85 i := a1 85 i rfl
  have i86 : S1 86 i = S 86 i := a1 86 i rfl
  rw [i83, i85, i86, e6, e7, e9]
  refine ⟨by omega, fun z => ?_, fun z => ?_⟩
  · rcases h3 with ⟨z1, z2, z3, z4⟩ | ⟨z1, -⟩
    · rw [if_pos z1] at k
      have g2 : sv_N 79 (xup σ 0 (x / 14) (P 57 x)) (xup S1 79 (x / 14) (P 57 x)) := sv_N.up0 g1
      have k2 : kp sv_L9n S (xup S1 79 (x / 14) (P 57 x)) := a1.up rfl
      have fin : ∀ (τ S2 : xS), kp sv_L9n S S2 → sv_N 79 τ S2 → sv_E τ (xup (mk_al P σ x) 0 (x / 14) (P 57 x)) → Q S2 := fun τ S2 a b c => k S2 a (b.E c)
      have sw : ∀ (q : Nat) (j w : Int) (τ : xS), q ≠ 0 → xup (xup τ 0 (x / 14) (P 57 x)) q j w = xup (xup τ q j w) 0 (x / 14) (P 57 x) := by
        intro q j w τ hq
        funext q' j'
        simp only [xup_at]
        by_cases hq0 : q' = 0
        · have hne : ¬ q' = q := by omega
          simp [hne]
        · simp [hq0]
      -- a step of another kind passes by
      have skip : ∀ (S2 : xS), S2 58 = P 58 → (∀ v : Int, P 58 x ≠ v → ¬ S2 58 x = v) := fun S2 e v hv => by rw [e]; exact hv
      refine ⟨fun y => ?_, fun y => ?_⟩
      · refine ⟨fun y1 => ⟨fun y2 => ⟨fun y3 => ?_, fun y3 => ?_⟩, fun y2 => ?_⟩, fun y1 => ?_⟩
        · have q1 : ¬ P 58 x = 105 := fun w => y1 ((congrFun e7 x).trans w)
          have q2 : ¬ P 58 x = 119 := fun w => y2 ((congrFun e7 x).trans w)
          have q3 : ¬ P 58 x = 114 := fun w => y3 ((congrFun e7 x).trans w)
          refine fin _ _ k2 g2 ?_
          unfold mk_al
          rw [if_neg y, if_neg q1, if_neg q2, if_neg q3]
          exact sv_E.rf
        · have q3 : P 58 x = 114 := (congrFun e7 x).symm.trans y3
          have bx := b5 (by omega)
          have b9 := b6 (by omega)
          have f1 := hH1.2.2.2 (2 * P 59 x) (by omega) (by omega)
          have f2 := hH1.2.2.2 (2 * P 59 x + 1) (by omega) (by omega)
          have f3 := g1.2.2.1 (P 59 x) (by omega) (by omega)
          have f4 := hV.2.2.1 (P 59 x) (by omega) (by omega)
          have e60 : (xup S1 79 (x / 14) (P 57 x)) 60 x = P 60 x := congrFun e9 x
          have t1 : (xup S1 79 (x / 14) (P 57 x)) 78 (2 * P 59 x) = σ 3 (2 * P 59 x) := f1
          have t2 : (xup S1 79 (x / 14) (P 57 x)) 78 (2 * P 59 x + 1) = σ 3 (2 * P 59 x + 1) := f2
          have t3 : (xup S1 79 (x / 14) (P 57 x)) 81 (P 59 x) = σ 2 (P 59 x) := f3
          rw [e60, t1, t2, t3]
          refine ⟨by omega, by omega, by omega, by omega, ⟨by omega, by omega⟩, fin _ _ ((((k2.up rfl).up rfl).up rfl).up rfl) (sv_N.up2 (sv_N.up3 (sv_N.up3 (sv_N.up1 g2)))) ?_⟩
          unfold mk_al
          rw [if_neg (by omega), if_neg (by omega), if_neg (by omega), if_pos q3, sw 1 _ _ _ (by decide), sw 3 _ _ _ (by decide), sw 3 _ _ _ (by decide), sw 2 _ _ _ (by decide)]
          exact sv_E.rf
        · have q2 : P 58 x = 119 := (congrFun e7 x).symm.trans y2
          have bx := b5 (by omega)
          have b9 := b6 (by omega)
          have f1 := hH1.2.1 (P 60 x) (by omega) (by omega)
          have f2 := hH1.2.2.1 (P 59 x) (by omega) (by omega)
          have f3 := g1.2.2.1 (P 59 x) (by omega) (by omega)
          have f4 := hV.2.2.1 (P 59 x) (by omega) (by omega)
          have fr : σ 2 (P 59 x) < P 61 (P 59 x) := by
            unfold mv_fr at z4
            simp [q2] at z4
            exact z4
          have e60 : (xup S1 79 (x / 14) (P 57 x)) 60 x = P 60 x := congrFun e9 x
          have t1 : (xup S1 79 (x / 14) (P 57 x)) 76 (P 60 x) = σ 1 (P 60 x) := f1
          have t2 : (xup S1 79 (x / 14) (P 57 x)) 77 (P 59 x) = σ 2 (P 59 x) := f2
          have t3 : (xup S1 79 (x / 14) (P 57 x)) 81 (P 59 x) = σ 2 (P 59 x) := f3
          rw [e60, t1, t2, t3]
          refine ⟨by omega, by omega, by omega, ⟨by omega, by omega⟩, fun y4 => ?_, fun y4 => ?_⟩
          · refine fin _ _ ((k2.up rfl).up rfl) (sv_N.up2 (sv_N.up3 g2)) ?_
            unfold mk_al
            rw [if_neg (by omega), if_neg (by omega), if_pos q2, sw 3 _ _ _ (by decide), sw 2 _ _ _ (by decide)]
            exact sv_E.rf
          · exfalso
            have y5 : P 58 x = 114 := (congrFun e7 x).symm.trans y4
            omega
        · have q1 : P 58 x = 105 := (congrFun e7 x).symm.trans y1
          have bx := b5 (by omega)
          have b9 := b7 (by omega)
          have f1 := hH1.2.1 (P 59 x) (by omega) (by omega)
          have f4 := hV.2.1 (P 59 x) (by omega) (by omega)
          have e60 : (xup S1 79 (x / 14) (P 57 x)) 60 x = P 60 x := congrFun e9 x
          have t1 : (xup S1 79 (x / 14) (P 57 x)) 76 (P 59 x) = σ 1 (P 59 x) := f1
          rw [e60, t1]
          refine ⟨by omega, ⟨by omega, by omega⟩, by omega, fun y2 => ⟨fun y3 => ?_, fun y3 => ?_⟩, fun y2 => ?_⟩
          · refine fin _ _ (k2.up rfl) (sv_N.up1 g2) ?_
            unfold mk_al
            rw [if_neg (by omega), if_pos q1, sw 1 _ _ _ (by decide)]
            exact sv_E.rf
          · exfalso
            have y5 : P 58 x = 114 := (congrFun e7 x).symm.trans y3
            omega
          · exfalso
            have y5 : P 58 x = 119 := (congrFun e7 x).symm.trans y2
            omega
      · have bx := b5 (by omega)
        refine ⟨by omega, fun y1 => ⟨fun y2 => ⟨fun y3 => ?_, fun y3 => ?_⟩, fun y2 => ?_⟩, fun y1 => ?_⟩
        · refine fin _ _ (k2.up rfl) (sv_N.up1 g2) ?_
          unfold mk_al
          rw [if_pos y, sw 1 _ _ _ (by decide)]
          exact sv_E.rf
        · exfalso
          have y5 : P 58 x = 114 := (congrFun e7 x).symm.trans y3
          omega
        · exfalso
          have y5 : P 58 x = 119 := (congrFun e7 x).symm.trans y2
          omega
        · exfalso
          have y5 : P 58 x = 105 := (congrFun e7 x).symm.trans y1
          omega
    · rcases r.2.2 with ⟨w1, -⟩ | ⟨w1, w2, -⟩ <;> omega
  · rcases h3 with ⟨z1, -⟩ | ⟨z1, z2, z3, z4, z5, z6, -⟩
    · rcases r.2.2 with ⟨w1, w2, -⟩ | ⟨w1, -⟩ <;> omega
    · rw [if_neg z1] at k
      have ey : 14 * S 85 i + S 86 i = m % 64 - 1 := by
        rcases r.2.2 with ⟨w1, -⟩ | ⟨w1, w2, w3⟩ <;> omega
      have ey2 : S 85 i = (m % 64 - 1) / 14 := by
        rcases r.2.2 with ⟨w1, -⟩ | ⟨w1, w2, w3⟩ <;> omega
      rw [ey, ey2]
      generalize hy : m % 64 - 1 = y at *
      obtain ⟨d1, d2, d3, d4, d5, d6, d7⟩ := z3.b hW
      have bx := (b5 (by omega)).2
      have by' := (d5 (by omega)).2
      have f1 := hH1.2.1 (P 60 x) (by omega) (by omega)
      rw [show S1 76 (P 60 x) = σ 1 (P 60 x) from f1]
      refine ⟨d1, by omega, by omega, by omega, k _ (((a1.up rfl).up rfl).up rfl) ((sv_N.up1 (sv_N.up0 (sv_N.up0 g1))).E ?_)⟩
      unfold mk_pa
      refine ⟨fun p a b => ?_, fun p a b => ?_, fun p a b => ?_, fun p a b => ?_⟩
      · simp only [xup_at]
        by_cases hp : p = x / 14
        · subst hp
          simp
          intro h
          omega
        · simp [hp]
      · simp [xup_at]
      · simp [xup_at]
      · simp [xup_at]
end PWD

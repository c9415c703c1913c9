/-! pure layer: moves keep states states; exchanging alike processes -/
/-- no channel holds more than its room -/
def sv_rm (P σ : xS) : Prop := ∀ k : Int, 0 ≤ k → k < P 54 2 → σ 2 k ≤ P 61 k
section PWV
variable {P σ : xS} {m : Int}
theorem sv_V.up0 (h : sv_V σ) {i v : Int} (hv : 0 ≤ v ∧ v < 12) : sv_V (xup σ 0 i v) := by
  refine ⟨fun p a b => ?_, fun p a b => ?_, fun p a b => ?_, fun p a b => ?_⟩
  · have := h.1 p a b
    simp only [xup_at]; split <;> omega
  · have := h.2.1 p a b
    simp [xup_at]; omega
  · have := h.2.2.1 p a b
    simp [xup_at]; omega
  · have := h.2.2.2 p a b
    simp [xup_at]; omega
theorem sv_V.up1 (h : sv_V σ) {i v : Int} (hv : 0 ≤ v ∧ v < 4) : sv_V (xup σ 1 i v) := by
  refine ⟨fun p a b => ?_, fun p a b => ?_, fun p a b => ?_, fun p a b => ?_⟩
  · have := h.1 p a b
    simp [xup_at]; omega
  · have := h.2.1 p a b
    simp only [xup_at]; split <;> omega
  · have := h.2.2.1 p a b
    simp [xup_at]; omega
  · have := h.2.2.2 p a b
    simp [xup_at]; omega
theorem sv_V.up2 (h : sv_V σ) {i v : Int} (hv : 0 ≤ v ∧ v < 3) : sv_V (xup σ 2 i v) := by
  refine ⟨fun p a b => ?_, fun p a b => ?_, fun p a b => ?_, fun p a b => ?_⟩
  · have := h.1 p a b
    simp [xup_at]; omega
  · have := h.2.1 p a b
    simp [xup_at]; omega
  · have := h.2.2.1 p a b
    simp only [xup_at]; split <;> omega
  · have := h.2.2.2 p a b
    simp [xup_at]; omega
theorem sv_V.up3 (h : sv_V σ) {i v : Int} (hv : 0 ≤ v ∧ v < 4) : sv_V (xup σ 3 i v) := by
  refine ⟨fun p a b => ?_, fun p a b => ?_, fun p a b => ?_, fun p a b => ?_⟩
  · have := h.1 p a b
    simp [xup_at]; omega
  · have := h.2.1 p a b
    simp [xup_at]; omega
  · have := h.2.2.1 p a b
    simp [xup_at]; omega
  · have := h.2.2.2 p a b
    simp only [xup_at]; split <;> omega
theorem mk_do.V (hW : pw_WF P) (hV : sv_V σ) (hr : sv_rm P σ) (hm : mv_ok P σ m) : sv_V (mk_do P σ m) ∧ sv_rm P (mk_do P σ m) := by
  obtain ⟨hv, h0, h1, h2, h3⟩ := hm.n hW rfl
  unfold mk_do
  generalize hx : m / 64 = x at *
  obtain ⟨b1, b2, b3, b4, b5, b6, b7⟩ := hv.b hW
  have rm0 : ∀ τ : xS, sv_rm P τ → sv_rm P (xup τ 0 (x / 14) (P 57 x)) := fun τ h k a b => by
    have := h k a b
    simp [xup_at]; exact this
  rcases h3 with ⟨z1, z2, z3, z4⟩ | ⟨z1, z2, z3, z4, z5, z6, -⟩
  · rw [if_pos z1]
    suffices h : sv_V (mk_al P σ x) ∧ sv_rm P (mk_al P σ x) from ⟨h.1.up0 b3, rm0 _ h.2⟩
    unfold mk_al
    split
    · rename_i y
      have b9 := b7 (by omega)
      exact ⟨hV.up1 b9, fun k a b => by have := hr k a b; simp [xup_at]; exact this⟩
    · split
      · exact ⟨hV.up1 (by omega), fun k a b => by have := hr k a b; simp [xup_at]; exact this⟩
      · split
        · rename_i y
          have b9 := b6 (by omega)
          have b8 := b5 (by omega)
          have f1 := hV.2.1 (P 60 x) (by omega) (by omega)
          have f2 := hV.2.2.1 (P 59 x) (by omega) (by omega)
          have fr : σ 2 (P 59 x) < P 61 (P 59 x) := by
            unfold mv_fr at z4
            simp [y] at z4
            exact z4
          refine ⟨(hV.up3 f1).up2 (by omega), fun k a b => ?_⟩
          have := hr k a b
          simp only [xup_at]
          by_cases hk : k = P 59 x
          · simp [hk]; omega
          · simp [hk]; exact this
        · split
          · rename_i y
            have b9 := b6 (by omega)
            have b8 := b5 (by omega)
            have f1 := hV.2.2.2 (2 * P 59 x) (by omega) (by omega)
            have f3 := hV.2.2.2 (2 * P 59 x + 1) (by omega) (by omega)
            have f2 := hV.2.2.1 (P 59 x) (by omega) (by omega)
            have fr : 0 < σ 2 (P 59 x) := by
              unfold mv_fr at z4
              simp [y] at z4
              exact z4
            refine ⟨(((hV.up1 f1).up3 f3).up3 (by omega)).up2 (by omega), fun k a b => ?_⟩
            have := hr k a b
            simp only [xup_at]
            by_cases hk : k = P 59 x
            · subst hk
              simp; omega
            · simp [hk]; exact this
          · exact ⟨hV, hr⟩
  · rw [if_neg z1]
    generalize hy : m % 64 - 1 = y at *
    obtain ⟨d1, d2, d3, d4, d5, d6, d7⟩ := z3.b hW
    have b8 := b5 (by omega)
    have f1 := hV.2.1 (P 60 x) (by omega) (by omega)
    unfold mk_pa
    refine ⟨((hV.up1 f1).up0 d3).up0 b3, fun k a b => ?_⟩
    have := hr k a b
    simp [xup_at]; exact this
theorem sv_rm.E {τ : xS} (hW : pw_WF P) (h : sv_rm P σ) (e : sv_E σ τ) : sv_rm P τ := fun k a b => by
  have := hW.2.1
  rw [← e.2.2.1 k a (by omega)]
  exact h k a b
end PWV
/-! exchanging -/
def ex_sw (σ : xS) (p q : Int) : xS := xup (xup (xup (xup (xup (xup σ 0 p (σ 0 q)) 0 q (σ 0 p)) 1 (3 + 2 * p) (σ 1 (3 + 2 * q))) 1 (3 + 2 * q) (σ 1 (3 + 2 * p))) 1 (4 + 2 * p) (σ 1 (4 + 2 * q))) 1 (4 + 2 * q) (σ 1 (4 + 2 * p))
noncomputable def ex_c (K : Int → Int → Prop) (σ : xS) (p q : Int) : xS := @ite xS (K p q ∧ sv_sh σ q < sv_sh σ p) (Classical.propDecidable _) (ex_sw σ p q) σ
noncomputable def ex_3 (K : Int → Int → Prop) (σ : xS) : xS := ex_c K (ex_c K (ex_c K σ 0 1) 0 2) 1 2
/-- when processes are exchanged in the mode md -/
def ex_K (P : xS) (md : Int) (p q : Int) : Prop := md = 115 ∧ q < P 54 1 ∧ pw_like P p q
theorem ex_c.pos {K : Int → Int → Prop} {σ : xS} {p q : Int} (h : K p q ∧ sv_sh σ q < sv_sh σ p) : ex_c K σ p q = ex_sw σ p q := by unfold ex_c; rw [if_pos h]
theorem ex_c.neg {K : Int → Int → Prop} {σ : xS} {p q : Int} (h : ¬ (K p q ∧ sv_sh σ q < sv_sh σ p)) : ex_c K σ p q = σ := by unfold ex_c; rw [if_neg h]
theorem ex_sw.V {σ : xS} {p q : Int} (h : sv_V σ) (hp : 0 ≤ p ∧ p < 3) (hq : 0 ≤ q ∧ q < 3) : sv_V (ex_sw σ p q) := by
  have a := h.1 p hp.1 hp.2
  have b := h.1 q hq.1 hq.2
  have c := h.2.1 (3 + 2 * p) (by omega) (by omega)
  have d := h.2.1 (3 + 2 * q) (by omega) (by omega)
  have e := h.2.1 (4 + 2 * p) (by omega) (by omega)
  have f := h.2.1 (4 + 2 * q) (by omega) (by omega)
  exact (((((h.up0 b).up0 a).up1 d).up1 c).up1 f).up1 e
theorem ex_c.V {K : Int → Int → Prop} {σ : xS} {p q : Int} (h : sv_V σ) (hp : 0 ≤ p ∧ p < 3) (hq : 0 ≤ q ∧ q < 3) : sv_V (ex_c K σ p q) := by
  by_cases hh : K p q ∧ sv_sh σ q < sv_sh σ p
  · rw [ex_c.pos hh]; exact ex_sw.V h hp hq
  · rw [ex_c.neg hh]; exact h
theorem ex_3.V {K : Int → Int → Prop} {σ : xS} (h : sv_V σ) : sv_V (ex_3 K σ) := ex_c.V (ex_c.V (ex_c.V h (by omega) (by omega)) (by omega) (by omega)) (by omega) (by omega)
theorem ex_c.rm {P σ : xS} {K : Int → Int → Prop} {p q : Int} (h : sv_rm P σ) : sv_rm P (ex_c K σ p q) := by
  by_cases hh : K p q ∧ sv_sh σ q < sv_sh σ p
  · rw [ex_c.pos hh]
    intro k a b
    have := h k a b
    unfold ex_sw
    simp [xup_at]; exact this
  · rw [ex_c.neg hh]; exact h
theorem ex_sw.sh {σ : xS} {p q r : Int} (hp : 0 ≤ p ∧ p < 3) (hq : 0 ≤ q ∧ q < 3) (hr : 0 ≤ r ∧ r < 3) (hpq : p ≠ q) : sv_sh (ex_sw σ p q) r = if r = p then sv_sh σ q else if r = q then sv_sh σ p else sv_sh σ r := by
  unfold sv_sh ex_sw
  simp only [xup_at]
  by_cases h1 : r = p
  · subst h1
    simp [hpq]
    have e1 : ¬ (3 + 2 * r = 4 + 2 * q) := by omega
    have e2 : ¬ (3 + 2 * r = 4 + 2 * r) := by omega
    have e3 : ¬ (3 + 2 * r = 3 + 2 * q) := by omega
    have e4 : ¬ (4 + 2 * r = 4 + 2 * q) := by omega
    have e5 : ¬ (2 * r = 2 * q) := by omega
    simp [e1, e2, e3, e4, e5]
  · by_cases h2 : r = q
    · subst h2
      simp [h1]
      have e1 : ¬ (3 + 2 * r = 4 + 2 * r) := by omega
      have e2 : ¬ (3 + 2 * r = 4 + 2 * p) := by omega
      simp [e1, e2]
    · simp [h1, h2]
      have e1 : ¬ (3 + 2 * r = 4 + 2 * q) := by omega
      have e2 : ¬ (3 + 2 * r = 4 + 2 * p) := by omega
      have e3 : ¬ (3 + 2 * r = 3 + 2 * q) := by omega
      have e4 : ¬ (3 + 2 * r = 3 + 2 * p) := by omega
      have e5 : ¬ (4 + 2 * r = 4 + 2 * q) := by omega
      have e6 : ¬ (4 + 2 * r = 4 + 2 * p) := by omega
      have e7 : ¬ (4 + 2 * r = 3 + 2 * q) := by omega
      have e8 : ¬ (4 + 2 * r = 3 + 2 * p) := by omega
      have f1 : ¬ (2 * r = 2 * q) := by omega
      have f2 : ¬ (2 * r = 2 * p) := by omega
      simp [e1, e2, e3, e4, e5, e6, e7, e8, f1, f2]
theorem ex_c.sh {K : Int → Int → Prop} {σ : xS} {p q r : Int} (hp : 0 ≤ p ∧ p < 3) (hq : 0 ≤ q ∧ q < 3) (hr : 0 ≤ r ∧ r < 3) (hpq : p ≠ q) : (K p q ∧ sv_sh σ q < sv_sh σ p ∧ sv_sh (ex_c K σ p q) r = if r = p then sv_sh σ q else if r = q then sv_sh σ p else sv_sh σ r) ∨ (¬ (K p q ∧ sv_sh σ q < sv_sh σ p) ∧ sv_sh (ex_c K σ p q) r = sv_sh σ r) := by
  by_cases hh : K p q ∧ sv_sh σ q < sv_sh σ p
  · rw [ex_c.pos hh]; exact Or.inl ⟨hh.1, hh.2, ex_sw.sh hp hq hr hpq⟩
  · rw [ex_c.neg hh]; exact Or.inr ⟨hh, rfl⟩
/-- behind the three exchanges nothing is left to exchange -/
theorem ex_3.sorted {K : Int → Int → Prop} {σ : xS} (t1 : K 0 1 → K 0 2 → K 1 2) (t2 : K 0 1 → K 1 2 → K 0 2) (t3 : K 0 2 → K 1 2 → K 0 1) : (K 0 1 → sv_sh (ex_3 K σ) 0 ≤ sv_sh (ex_3 K σ) 1) ∧ (K 0 2 → sv_sh (ex_3 K σ) 0 ≤ sv_sh (ex_3 K σ) 2) ∧ (K 1 2 → sv_sh (ex_3 K σ) 1 ≤ sv_sh (ex_3 K σ) 2) := by
  have a0 := ex_c.sh (K := K) (σ := σ) (p := 0) (q := 1) (r := 0) (by omega) (by omega) (by omega) (by omega)
  have a1 := ex_c.sh (K := K) (σ := σ) (p := 0) (q := 1) (r := 1) (by omega) (by omega) (by omega) (by omega)
  have a2 := ex_c.sh (K := K) (σ := σ) (p := 0) (q := 1) (r := 2) (by omega) (by omega) (by omega) (by omega)
  have b0 := ex_c.sh (K := K) (σ := ex_c K σ 0 1) (p := 0) (q := 2) (r := 0) (by omega) (by omega) (by omega) (by omega)
  have b1 := ex_c.sh (K := K) (σ := ex_c K σ 0 1) (p := 0) (q := 2) (r := 1) (by omega) (by omega) (by omega) (by omega)
  have b2 := ex_c.sh (K := K) (σ := ex_c K σ 0 1) (p := 0) (q := 2) (r := 2) (by omega) (by omega) (by omega) (by omega)
  have c0 := ex_c.sh (K := K) (σ := ex_c K (ex_c K σ 0 1) 0 2) (p := 1) (q := 2) (r := 0) (by omega) (by omega) (by omega) (by omega)
  have c1 := ex_c.sh (K := K) (σ := ex_c K (ex_c K σ 0 1) 0 2) (p := 1) (q := 2) (r := 1) (by omega) (by omega) (by omega) (by omega)
  have c2 := ex_c.sh (K := K) (σ := ex_c K (ex_c K σ 0 1) 0 2) (p := 1) (q := 2) (r := 2) (by omega) (by omega) (by omega) (by omega)
  simp at a0 a1 a2 b0 b1 b2 c0 c1 c2
  by_cases k1 : K 0 1 <;> by_cases k2 : K 0 2 <;> by_cases k3 : K 1 2 <;> simp [k1, k2, k3] at a0 a1 a2 b0 b1 b2 c0 c1 c2 t1 t2 t3 ⊢ <;> unfold ex_3 <;> omega
/-! alikeness goes from one to the next -/
def pw_ca (P : xS) (p s : Int) : Int := if P 58 (14 * p + s) = 107 then 0 else if P 58 (14 * p + s) = 119 ∨ P 58 (14 * p + s) = 114 then P 59 (14 * p + s) else if P 59 (14 * p + s) < 3 then P 59 (14 * p + s) else P 59 (14 * p + s) - 2 * p
def pw_cb (P : xS) (p s : Int) : Int := if P 58 (14 * p + s) = 107 then 0 else if P 58 (14 * p + s) = 119 ∨ P 58 (14 * p + s) = 114 then (if P 60 (14 * p + s) < 3 then P 60 (14 * p + s) else P 60 (14 * p + s) - 2 * p) else P 60 (14 * p + s)
theorem pw_sw_iff {p q v w : Int} (hp : 0 ≤ p ∧ p < 3) (hq : 0 ≤ q ∧ q < 3) (hv : pw_us p v) (hw : pw_us q w) : pw_sw p q v = w ↔ (if v < 3 then v else v - 2 * p) = (if w < 3 then w else w - 2 * q) := by
  unfold pw_us at hv hw
  unfold pw_sw
  split <;> split <;> omega
theorem pw_ls_iff {P : xS} {p q s : Int} (hW : pw_WF P) (hp : 0 ≤ p ∧ p < 3) (hq : 0 ≤ q ∧ q < 3) (hs : 0 ≤ s ∧ s < P 55 p ∧ s < P 55 q) : pw_ls P p q s ↔ (P 56 (14 * p + s) = P 56 (14 * q + s) ∧ P 57 (14 * p + s) = P 57 (14 * q + s) ∧ P 58 (14 * p + s) = P 58 (14 * q + s) ∧ pw_ca P p s = pw_ca P q s ∧ pw_cb P p s = pw_cb P q s) := by
  have b1 := (hW.2.2.2.2.1 p s hp.1 hp.2 hs.1 hs.2.1).b hW hp
  have b2 := (hW.2.2.2.2.1 q s hq.1 hq.2 hs.1 hs.2.2).b hW hq
  unfold pw_ls pw_ca pw_cb
  by_cases hk : P 58 (14 * p + s) = P 58 (14 * q + s)
  · rw [← hk] at b2 ⊢
    by_cases k1 : P 58 (14 * p + s) = 107
    · simp [k1]
    · by_cases k2 : P 58 (14 * p + s) = 119 ∨ P 58 (14 * p + s) = 114
      · have i1 := pw_sw_iff hp hq (b1.2.2.1 k2).2.2 (b2.2.2.1 k2).2.2
        simp only [k1, k2, if_true, if_false, i1]
        constructor
        · rintro ⟨h1, h2, h3, h4 | h4 | h4⟩
          · exact h4.elim
          · exact ⟨h1, h2, h3, h4.2⟩
          · exact absurd (Or.inr trivial) h4.1
        · rintro ⟨h1, h2, h3, h4⟩
          exact ⟨h1, h2, h3, Or.inr (Or.inl ⟨trivial, h4⟩)⟩
      · have i1 := pw_sw_iff hp hq (b1.2.2.2 (by omega)).1 (b2.2.2.2 (by omega)).1
        simp only [k1, k2, if_true, if_false, i1]
        constructor
        · rintro ⟨h1, h2, h3, h4 | h4 | h4⟩
          · exact h4.elim
          · exact h4.1.elim
          · exact ⟨h1, h2, h3, h4.2⟩
        · rintro ⟨h1, h2, h3, h4⟩
          exact ⟨h1, h2, h3, Or.inr (Or.inr ⟨by simp, h4⟩)⟩
  · constructor
    · intro h; exact absurd h.2.2.1 hk
    · intro h; exact absurd h.2.2.1 hk
/-- alikeness, said of each process alone -/
def pw_nf (P : xS) (p : Int) (q : Int) : Prop := P 55 p = P 55 q ∧ (∀ s : Int, 0 ≤ s → s < P 55 p → P 56 (14 * p + s) = P 56 (14 * q + s) ∧ P 57 (14 * p + s) = P 57 (14 * q + s) ∧ P 58 (14 * p + s) = P 58 (14 * q + s) ∧ pw_ca P p s = pw_ca P q s ∧ pw_cb P p s = pw_cb P q s) ∧ (∀ l : Int, 0 ≤ l → l < 12 → P 65 (12 * p + l) = P 65 (12 * q + l) ∧ P 66 (12 * p + l) = P 66 (12 * q + l)) ∧ P 62 (3 + 2 * p) = P 62 (3 + 2 * q) ∧ P 62 (4 + 2 * p) = P 62 (4 + 2 * q)
theorem pw_like_nf {P : xS} {p q : Int} (hW : pw_WF P) (hp : 0 ≤ p ∧ p < 3) (hq : 0 ≤ q ∧ q < 3) : pw_like P p q ↔ pw_nf P p q := by
  unfold pw_like pw_nf
  constructor
  · rintro ⟨h1, h2, h3⟩
    exact ⟨h1, fun s a b => (pw_ls_iff hW hp hq ⟨a, b, by omega⟩).mp (h2 s a b), h3⟩
  · rintro ⟨h1, h2, h3⟩
    exact ⟨h1, fun s a b => (pw_ls_iff hW hp hq ⟨a, b, by omega⟩).mpr (h2 s a b), h3⟩
theorem pw_nf.sy {P : xS} {p q : Int} (h : pw_nf P p q) : pw_nf P q p := by
  obtain ⟨h1, h2, h3, h4, h5⟩ := h
  exact ⟨h1.symm, fun s a b => ⟨(h2 s a (by omega)).1.symm, (h2 s a (by omega)).2.1.symm, (h2 s a (by omega)).2.2.1.symm, (h2 s a (by omega)).2.2.2.1.symm, (h2 s a (by omega)).2.2.2.2.symm⟩, fun l a b => ⟨(h3 l a b).1.symm, (h3 l a b).2.symm⟩, h4.symm, h5.symm⟩
theorem pw_nf.tr {P : xS} {p q r : Int} (h : pw_nf P p q) (h' : pw_nf P q r) : pw_nf P p r := by
  obtain ⟨h1, h2, h3, h4, h5⟩ := h
  obtain ⟨g1, g2, g3, g4, g5⟩ := h'
  refine ⟨h1.trans g1, fun s a b => ?_, fun l a b => ⟨(h3 l a b).1.trans (g3 l a b).1, (h3 l a b).2.trans (g3 l a b).2⟩, h4.trans g4, h5.trans g5⟩
  have x := h2 s a b
  have y := g2 s a (by omega)
  exact ⟨x.1.trans y.1, x.2.1.trans y.2.1, x.2.2.1.trans y.2.2.1, x.2.2.2.1.trans y.2.2.2.1, x.2.2.2.2.trans y.2.2.2.2⟩
theorem pw_like.sy {P : xS} {p q : Int} (hW : pw_WF P) (hp : 0 ≤ p ∧ p < 3) (hq : 0 ≤ q ∧ q < 3) (h : pw_like P p q) : pw_like P q p := (pw_like_nf hW hq hp).mpr ((pw_like_nf hW hp hq).mp h).sy
theorem pw_like.tr {P : xS} {p q r : Int} (hW : pw_WF P) (hp : 0 ≤ p ∧ p < 3) (hq : 0 ≤ q ∧ q < 3) (hr : 0 ≤ r ∧ r < 3) (h : pw_like P p q) (h' : pw_like P q r) : pw_like P p r := (pw_like_nf hW hp hr).mpr (((pw_like_nf hW hp hq).mp h).tr ((pw_like_nf hW hq hr).mp h'))
theorem ex_K.t1 {P : xS} {md : Int} (hW : pw_WF P) : ex_K P md 0 1 → ex_K P md 0 2 → ex_K P md 1 2 := fun h h' => ⟨h.1, h'.2.1, (h.2.2.sy hW (by omega) (by omega)).tr hW (by omega) (by omega) (by omega) h'.2.2⟩
theorem ex_K.t2 {P : xS} {md : Int} (hW : pw_WF P) : ex_K P md 0 1 → ex_K P md 1 2 → ex_K P md 0 2 := fun h h' => ⟨h.1, h'.2.1, h.2.2.tr hW (by omega) (by omega) (by omega) h'.2.2⟩
theorem ex_K.t3 {P : xS} {md : Int} (hW : pw_WF P) : ex_K P md 0 2 → ex_K P md 1 2 → ex_K P md 0 1 := fun h h' => ⟨h.1, by have := h.2.1; omega, h.2.2.tr hW (by omega) (by omega) (by omega) (h'.2.2.sy hW (by omega) (by omega))⟩
theorem ex_3.idem {P σ : xS} {md : Int} (hW : pw_WF P) : ex_3 (ex_K P md) (ex_3 (ex_K P md) σ) = ex_3 (ex_K P md) σ := by
  have h := ex_3.sorted (K := ex_K P md) (σ := σ) (ex_K.t1 hW) (ex_K.t2 hW) (ex_K.t3 hW)
  generalize ex_3 (ex_K P md) σ = τ at *
  unfold ex_3
  rw [ex_c.neg (p := 0) (q := 1) (fun z => by have := h.1 z.1; omega), ex_c.neg (p := 0) (q := 2) (fun z => by have := h.2.1 z.1; omega), ex_c.neg (p := 1) (q := 2) (fun z => by have := h.2.2 z.1; omega)]
/-! exchanging on the two sides -/
/-- the class's table of who is exchanged -/
def ex_kn (K : Int → Int → Prop) (S : xS) : Prop := ∀ p q : Int, 0 ≤ p → p < q → q < 3 → (K p q → S 21 (p * 3 + q) = 1) ∧ (¬ K p q → S 21 (p * 3 + q) = 0)
section PWX
variable {P S σ : xS} {K : Int → Int → Prop} {p q : Int}
theorem s7_exchange {Q : xS → Prop} (hH : sv_H 41 σ S) (hp : 0 ≤ p ∧ p < 3) (hq : 0 ≤ q ∧ q < 3) (hpq : p < q) (k : ∀ S' : xS, kp sv_Ln S S' → sv_H 41 (ex_sw σ p q) S' → Q S') : w_X7_exchange_n p q S Q := by
  have f1 := hH.1 p hp.1 hp.2
  have f2 := hH.1 q hq.1 hq.2
  have g1 : S 42 (3 + 2 * p) = σ 1 (3 + 2 * p) := hH.2.1 (3 + 2 * p) (by omega) (by omega)
  have g2 : S 42 (3 + 2 * q) = σ 1 (3 + 2 * q) := hH.2.1 (3 + 2 * q) (by omega) (by omega)
  have g3 : S 42 (4 + 2 * p) = σ 1 (4 + 2 * p) := hH.2.1 (4 + 2 * p) (by omega) (by omega)
  have g4 : S 42 (4 + 2 * q) = σ 1 (4 + 2 * q) := hH.2.1 (4 + 2 * q) (by omega) (by omega)
  refine ⟨hp, hq, 3, ?_⟩
  rw [f1, f2]
  simp only [xLn1, w_X7_exchange_n_L29]
  refine ⟨fun z => by omega, fun _ => ⟨⟨by omega, by omega⟩, ⟨by omega, by omega⟩, ⟨by omega, by omega⟩, fun z => by omega, fun _ => ⟨⟨by omega, by omega⟩, ⟨by omega, by omega⟩, ⟨by omega, by omega⟩, fun _ => ?_, fun z => by omega⟩⟩⟩
  refine k _ ((((((kp.rf.up rfl).up rfl).up rfl).up rfl).up rfl).up rfl) ?_
  rw [show 3 + 2 * p + 0 = 3 + 2 * p by omega, show 3 + 2 * q + 0 = 3 + 2 * q by omega, show 3 + 2 * p + (0 + 1) = 4 + 2 * p by omega, show 3 + 2 * q + (0 + 1) = 4 + 2 * q by omega]
  have t1 : xup (xup S 41 p (σ 0 q)) 41 q (σ 0 p) 42 (3 + 2 * p) = σ 1 (3 + 2 * p) := g1
  have t2 : xup (xup S 41 p (σ 0 q)) 41 q (σ 0 p) 42 (3 + 2 * q) = σ 1 (3 + 2 * q) := g2
  rw [t1, t2]
  have t3 : ∀ j : Int, j = 4 + 2 * p ∨ j = 4 + 2 * q → xup (xup (xup (xup S 41 p (σ 0 q)) 41 q (σ 0 p)) 42 (3 + 2 * p) (σ 1 (3 + 2 * q))) 42 (3 + 2 * q) (σ 1 (3 + 2 * p)) 42 j = S 42 j := by
    intro j hj
    have n1 : ¬ j = 3 + 2 * q := by omega
    have n2 : ¬ j = 3 + 2 * p := by omega
    simp [xup_at, n1, n2]
  rw [t3 _ (Or.inl rfl), t3 _ (Or.inr rfl), g3, g4]
  exact sv_H.up1 (sv_H.up1 (sv_H.up1 (sv_H.up1 (sv_H.up0 (sv_H.up0 hH)))))
theorem s7_pair {k2 k11 : Int → xS → Prop} (hH : sv_H 41 σ S) (hV : sv_V σ) (hK : ex_kn K S) (hp : 0 ≤ p ∧ p < 3) (hq : p < q ∧ q < 3) (k : ∀ S' : xS, kp sv_Ln S S' → sv_H 41 (ex_c K σ p q) S' → k11 (q + 1) S') : w_X7_exchangeToLeast_n_L11 k2 p k11 q S := by
  have hK' := hK p q hp.1 hq.1 hq.2
  have stay : ¬ (K p q ∧ sv_sh σ q < sv_sh σ p) → (-2147483648 ≤ q + 1 ∧ q + 1 < 2147483648) ∧ k11 (q + 1) S := fun h => ⟨⟨by omega, by omega⟩, k S kp.rf (by rw [ex_c.neg h]; exact hH)⟩
  refine ⟨fun z => by omega, fun _ => ⟨⟨by omega, by omega⟩, fun y => ⟨fun _ => stay (fun h => y (hK'.1 h.1)), fun z => absurd rfl z⟩, fun y => ⟨fun z => by omega, fun _ => ?_⟩⟩⟩
  have hk : K p q := by
    by_cases hk : K p q
    · exact hk
    · have := hK'.2 hk
      omega
  refine s7_shareOf_n hH hV hp (s7_shareOf_n hH hV (by omega) ⟨fun z => stay (fun h => by omega), fun z => ?_⟩)
  exact s7_exchange hH hp (by omega) hq.1 (fun S' a b => ⟨⟨by omega, by omega⟩, k S' a (by rw [ex_c.pos ⟨hk, by omega⟩]; exact b)⟩)
theorem ex_kn.kp {S' : xS} {L : List (Nat × Int)} (h : ex_kn K S) (hk : kp L S S') (h1 : ∀ i, hit L 21 i = false) : ex_kn K S' := by
  unfold ex_kn
  rw [hk.cell 21 h1]
  exact h
theorem s7_least {Q : xS → Prop} (hH : sv_H 41 σ S) (hV : sv_V σ) (hK : ex_kn K S) (k : ∀ S' : xS, kp sv_Ln S S' → sv_H 41 (ex_3 K σ) S' → Q S') : w_X7_exchangeToLeast_n S Q := by
  have hV1 : sv_V (ex_c K σ 0 1) := ex_c.V hV (by omega) (by omega)
  have hV2 : sv_V (ex_c K (ex_c K σ 0 1) 0 2) := ex_c.V hV1 (by omega) (by omega)
  refine ⟨4, ?_⟩
  simp only [xLn1, w_X7_exchangeToLeast_n_L2]
  refine ⟨fun z => by omega, fun _ => ⟨⟨by omega, by omega⟩, 3, ?_⟩⟩
  refine s7_pair (p := 0) (q := 1) hH hV hK (by omega) (by omega) (fun S1 a1 b1 => ?_)
  refine s7_pair (p := 0) (q := 2) b1 hV1 (hK.kp a1 (fun _ => rfl)) (by omega) (by omega) (fun S2 a2 b2 => ?_)
  refine ⟨fun _ => ?_, fun z => by omega⟩
  refine ⟨fun z => by omega, fun _ => ⟨⟨by omega, by omega⟩, 2, ?_⟩⟩
  refine s7_pair (p := 1) (q := 2) b2 hV2 (hK.kp (a1.tr a2) (fun _ => rfl)) (by omega) (by omega) (fun S3 a3 b3 => ?_)
  refine ⟨fun _ => ?_, fun z => by omega⟩
  refine ⟨fun z => by omega, fun _ => ⟨⟨by omega, by omega⟩, 1, ?_⟩⟩
  refine ⟨fun _ => ?_, fun z => by omega⟩
  refine ⟨fun _ => k S3 ((a1.tr a2).tr a3) b3, fun z => by omega⟩
end PWX

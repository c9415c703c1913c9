/-! pure layer: what is found behind a move, on both sides -/
theorem xup_comm {S : xS} {q q' : Nat} {i i' v v' : Int} (h : ¬ (q = q' ∧ i = i')) : xup (xup S q i v) q' i' v' = xup (xup S q' i' v') q i v := by
  funext a b
  simp only [xup_at]
  by_cases h1 : a = q' ∧ b = i'
  · rw [if_pos h1, if_neg (fun z => h ⟨z.1.symm.trans h1.1, z.2.symm.trans h1.2⟩), if_pos h1]
  · by_cases h2 : a = q ∧ b = i
    · rw [if_neg h1, if_pos h2, if_pos h2]
    · rw [if_neg h1, if_neg h2, if_neg h2, if_neg h1]
theorem xup_id {S : xS} {q : Nat} {i v : Int} (h : S q i = v) : xup S q i v = S := by
  funext a b
  simp only [xup_at]
  split
  · rename_i z
    rw [z.1, z.2, h]
  · rfl
theorem ex_sw.two {σ : xS} {p q : Int} (hpq : (p = 0 ∧ q = 1) ∨ (p = 0 ∧ q = 2) ∨ (p = 1 ∧ q = 2)) : sv_E (ex_sw (ex_sw σ p q) p q) σ := by
  rcases hpq with ⟨rfl, rfl⟩ | ⟨rfl, rfl⟩ | ⟨rfl, rfl⟩ <;> refine ⟨fun p a b => ?_, fun v a b => ?_, fun k a b => ?_, fun k a b => ?_⟩
  · rcases sv_i3 a b with h | h | h <;> subst h <;> simp [ex_sw, xup_at]
  · rcases sv_i9 a b with h | h | h | h | h | h | h | h | h <;> subst h <;> simp [ex_sw, xup_at]
  · simp [ex_sw, xup_at]
  · simp [ex_sw, xup_at]
  · rcases sv_i3 a b with h | h | h <;> subst h <;> simp [ex_sw, xup_at]
  · rcases sv_i9 a b with h | h | h | h | h | h | h | h | h <;> subst h <;> simp [ex_sw, xup_at]
  · simp [ex_sw, xup_at]
  · simp [ex_sw, xup_at]
  · rcases sv_i3 a b with h | h | h <;> subst h <;> simp [ex_sw, xup_at]
  · rcases sv_i9 a b with h | h | h | h | h | h | h | h | h <;> subst h <;> simp [ex_sw, xup_at]
  · simp [ex_sw, xup_at]
  · simp [ex_sw, xup_at]
theorem ex_sw.same {σ : xS} {p q : Int} (hV : sv_V σ) (hp : 0 ≤ p ∧ p < 3) (hq : 0 ≤ q ∧ q < 3) (h : sv_sh σ p = sv_sh σ q) : ex_sw σ p q = σ := by
  have a1 := hV.1 p hp.1 hp.2
  have a2 := hV.1 q hq.1 hq.2
  have b1 := hV.2.1 (3 + 2 * p) (by omega) (by omega)
  have b2 := hV.2.1 (3 + 2 * q) (by omega) (by omega)
  have c1 := hV.2.1 (4 + 2 * p) (by omega) (by omega)
  have c2 := hV.2.1 (4 + 2 * q) (by omega) (by omega)
  unfold sv_sh at h
  have e1 : σ 0 p = σ 0 q := by omega
  have e2 : σ 1 (3 + 2 * p) = σ 1 (3 + 2 * q) := by omega
  have e3 : σ 1 (4 + 2 * p) = σ 1 (4 + 2 * q) := by omega
  unfold ex_sw
  rw [xup_id (S := σ) e1, xup_id (S := σ) e1.symm, xup_id (S := σ) e2, xup_id (S := σ) e2.symm, xup_id (S := σ) e3, xup_id (S := σ) e3.symm]
theorem ex_sw.enc {σ : xS} {p q : Int} (hV : sv_V σ) (hpq : (p = 0 ∧ q = 1) ∨ (p = 0 ∧ q = 2) ∨ (p = 1 ∧ q = 2)) : sv_enc (ex_sw σ p q) ≤ sv_enc σ ↔ sv_sh σ q ≤ sv_sh σ p := by
  have s0 := sv_sh.b hV (p := 0) (by omega)
  have s1 := sv_sh.b hV (p := 1) (by omega)
  have s2 := sv_sh.b hV (p := 2) (by omega)
  have low : ∀ d v0 v1 v2 h0 c0 c1 h1 c2 c3 : Int, sv_low d v0 v1 v2 h0 c0 c1 h1 c2 c3 = d * 147456 + sv_low 0 v0 v1 v2 h0 c0 c1 h1 c2 c3 := by
    intro d v0 v1 v2 h0 c0 c1 h1 c2 c3
    unfold sv_low
    omega
  have t0 := ex_sw.sh (σ := σ) (p := p) (q := q) (r := 0) (by omega) (by omega) (by omega) (by omega)
  have t1 := ex_sw.sh (σ := σ) (p := p) (q := q) (r := 1) (by omega) (by omega) (by omega) (by omega)
  have t2 := ex_sw.sh (σ := σ) (p := p) (q := q) (r := 2) (by omega) (by omega) (by omega) (by omega)
  have e1 : ∀ v : Int, v < 3 → (ex_sw σ p q) 1 v = σ 1 v := by
    intro v hv
    rcases hpq with ⟨rfl, rfl⟩ | ⟨rfl, rfl⟩ | ⟨rfl, rfl⟩ <;> simp [ex_sw, xup_at] <;> (repeat rw [if_neg (by omega)])
  have e2 : ∀ v : Int, (ex_sw σ p q) 2 v = σ 2 v := fun v => by simp [ex_sw, xup_at]
  have e3 : ∀ v : Int, (ex_sw σ p q) 3 v = σ 3 v := fun v => by simp [ex_sw, xup_at]
  unfold sv_enc
  rw [e1 0 (by omega), e1 1 (by omega), e1 2 (by omega), e2, e2, e3, e3, e3, e3, low (sv_top (ex_sw σ p q)), low (sv_top σ)]
  unfold sv_top
  rw [t0, t1, t2]
  rcases hpq with ⟨rfl, rfl⟩ | ⟨rfl, rfl⟩ | ⟨rfl, rfl⟩ <;> simp <;> omega
section PWF
variable {P S σ : xS} {p q : Int}
theorem s9_exchanges {Q : xS → Prop} (hH : sv_N 79 σ S) (hp : 0 ≤ p ∧ p < 3) (hq : 0 ≤ q ∧ q < 3) (hpq : p < q) (k : ∀ S' : xS, kp sv_L9n S S' → sv_N 79 (ex_sw σ p q) S' → Q S') : w_X9_exchanges p q S Q := by
  have f1 := hH.1 p hp.1 hp.2
  have f2 := hH.1 q hq.1 hq.2
  have g1 : S 80 (3 + 2 * p) = σ 1 (3 + 2 * p) := hH.2.1 (3 + 2 * p) (by omega) (by omega)
  have g2 : S 80 (3 + 2 * q) = σ 1 (3 + 2 * q) := hH.2.1 (3 + 2 * q) (by omega) (by omega)
  have g3 : S 80 (4 + 2 * p) = σ 1 (4 + 2 * p) := hH.2.1 (4 + 2 * p) (by omega) (by omega)
  have g4 : S 80 (4 + 2 * q) = σ 1 (4 + 2 * q) := hH.2.1 (4 + 2 * q) (by omega) (by omega)
  have n1 : ¬ (4 + 2 * q = 3 + 2 * p) := by omega
  have n2 : ¬ (q = p) := by omega
  refine ⟨hp, ⟨by omega, by omega⟩, ⟨by omega, by omega⟩, hq, ⟨by omega, by omega⟩, ⟨by omega, by omega⟩, ?_⟩
  refine k _ ((((((kp.rf.up rfl).up rfl).up rfl).up rfl).up rfl).up rfl) ?_
  have e : ex_sw σ p q = xup (xup (xup (xup (xup (xup σ 0 p (σ 0 q)) 1 (3 + 2 * p) (σ 1 (3 + 2 * q))) 1 (4 + 2 * p) (σ 1 (4 + 2 * q))) 0 q (σ 0 p)) 1 (3 + 2 * q) (σ 1 (3 + 2 * p))) 1 (4 + 2 * q) (σ 1 (4 + 2 * p)) := by
    unfold ex_sw
    rw [xup_comm (q := 1) (i := 4 + 2 * p) (q' := 0) (i' := q) (by omega), xup_comm (q := 1) (i := 3 + 2 * p) (q' := 0) (i' := q) (by omega), xup_comm (q := 1) (i := 4 + 2 * p) (q' := 1) (i' := 3 + 2 * q) (by omega)]
  have t : (xup (xup S 79 p (S 79 q)) 80 (3 + 2 * p) (S 80 (3 + 2 * q))) 80 (4 + 2 * q) = σ 1 (4 + 2 * q) := by
    simp [xup_at, n1]
    exact g4
  rw [e, t, f1, f2, g1, g2, g3]
  exact sv_N.up1 (sv_N.up1 (sv_N.up0 (sv_N.up1 (sv_N.up1 (sv_N.up0 hH)))))
theorem s9_lessens {Q : xS → Prop} (hW : pw_WF P) (hR : pw_R P S) (hH : sv_N 79 σ S) (hV : sv_V σ) (hpq : (p = 0 ∧ q = 1) ∨ (p = 0 ∧ q = 2) ∨ (p = 1 ∧ q = 2)) (k : ∀ S' : xS, kp sv_L9n S S' → sv_N 79 (ex_c (ex_K P 115) σ p q) S' → Q S') : w_X9_lessens p q S Q := by
  have w0 := hW.1
  have stay : ∀ S' : xS, kp sv_L9n S S' → sv_N 79 σ S' → ¬ (ex_K P 115 p q ∧ sv_sh σ q < sv_sh σ p) → Q S' := fun S' a b h => k S' a (by rw [ex_c.neg h]; exact b)
  unfold w_X9_lessens
  rw [hR.1]
  refine ⟨fun z => stay S kp.rf hH (fun h => by have := h.1.2.1; omega), fun z => ?_⟩
  refine s9_areLike (hW.R hR) (by omega) (by omega) (fun h => ⟨fun _ => ?_, fun y => by omega⟩) (fun h => ⟨fun y => absurd rfl y, fun _ => stay S kp.rf hH (fun h' => h (by rw [pw_like.R hR]; exact h'.1.2.2))⟩)
  rw [pw_like.R hR] at h
  have hV2 : sv_V (ex_sw σ p q) := ex_sw.V hV (by omega) (by omega)
  have en := ex_sw.enc hV hpq
  refine s9_codes hH hV (s9_exchanges hH (by omega) (by omega) (by omega) (fun S1 a1 b1 => s9_codes b1 hV2 ⟨fun y => ?_, fun y => ?_⟩))
  · by_cases hs : sv_sh σ q < sv_sh σ p
    · exact k S1 a1 (by rw [ex_c.pos ⟨⟨rfl, by omega, h⟩, hs⟩]; exact b1)
    · have e : sv_sh σ p = sv_sh σ q := by have := en.mp y; omega
      refine stay S1 a1 ?_ (fun h' => hs h'.2)
      rw [ex_sw.same hV (by omega) (by omega) e] at b1
      exact b1
  · refine s9_exchanges b1 (by omega) (by omega) (by omega) (fun S2 a2 b2 => stay S2 (a1.tr a2) (b2.E (ex_sw.two hpq)) (fun h' => y (en.mpr (by omega))))
theorem ex_c.no {K : Int → Int → Prop} (h : ¬ K p q) : ex_c K σ p q = σ := ex_c.neg (fun z => h z.1)
theorem ex_3.no {K : Int → Int → Prop} (h : ∀ p q, ¬ K p q) : ex_3 K σ = σ := by
  unfold ex_3
  rw [ex_c.no (h _ _), ex_c.no (h _ _), ex_c.no (h _ _)]
theorem s9_found {Q : Int → xS → Prop} (hW : pw_WF P) (hR : pw_R P S) (hH : sv_N 79 σ S) (hV : sv_V σ) (k : ∀ S' : xS, kp sv_L9n S S' → sv_N 79 (ex_3 (ex_K P (S 54 4)) σ) S' → Q (sv_enc (ex_3 (ex_K P (S 54 4)) σ)) S') : w_X9_found S Q := by
  by_cases hm : S 54 4 = 115
  · rw [hm] at k
    have turn : ∀ (τ S1 : xS) (R : xS → Prop), kp sv_L9n S S1 → sv_N 79 τ S1 → sv_V τ → (∀ S2 : xS, kp sv_L9n S S2 → sv_N 79 (ex_3 (ex_K P 115) τ) S2 → R S2) → w_X9_lessens 0 1 S1 (fun S19 => w_X9_lessens 0 2 S19 (fun S25 => w_X9_lessens 1 2 S25 R)) := by
      intro τ S1 R a b hVt kR
      have hV1 : sv_V (ex_c (ex_K P 115) τ 0 1) := ex_c.V hVt (by omega) (by omega)
      have hV2 : sv_V (ex_c (ex_K P 115) (ex_c (ex_K P 115) τ 0 1) 0 2) := ex_c.V hV1 (by omega) (by omega)
      refine s9_lessens hW (hR.kp a rfl) b hVt (by omega) (fun S2 a2 b2 => ?_)
      refine s9_lessens hW (hR.kp (a.tr a2) rfl) b2 hV1 (by omega) (fun S3 a3 b3 => ?_)
      exact s9_lessens hW (hR.kp ((a.tr a2).tr a3) rfl) b3 hV2 (by omega) (fun S4 a4 b4 => kR S4 (((a.tr a2).tr a3).tr a4) b4)
    have hV1 : sv_V (ex_3 (ex_K P 115) σ) := ex_3.V hV
    have m4 : ∀ S1 : xS, kp sv_L9n S S1 → S1 54 4 = 115 := fun S1 a => (a 54 4 rfl).trans hm
    have id := ex_3.idem (P := P) (σ := σ) (md := 115) hW
    refine ⟨4, ?_⟩
    simp only [xLn1, w_X9_found_L2]
    refine ⟨fun z => by omega, fun _ => ⟨fun y => absurd hm y, fun _ => turn σ S _ kp.rf hH hV (fun S1 a1 b1 => ⟨⟨by omega, by omega⟩, fun z => by omega, fun _ => ⟨fun y => absurd (m4 S1 a1) y, fun _ => turn _ S1 _ a1 b1 hV1 (fun S2 a2 b2 => ⟨⟨by omega, by omega⟩, fun z => by omega, fun _ => ⟨fun y => absurd (m4 S2 a2) y, fun _ => ?_⟩⟩)⟩⟩)⟩⟩
    rw [id] at b2
    refine turn _ S2 _ a2 b2 hV1 (fun S3 a3 b3 => ⟨⟨by omega, by omega⟩, fun _ => ?_, fun z => by omega⟩)
    rw [id] at b3
    exact s9_codes b3 hV1 (k S3 a3 b3)
  · have e : ex_3 (ex_K P (S 54 4)) σ = σ := ex_3.no (fun p q h => hm h.1)
    rw [e] at k
    refine ⟨4, ?_⟩
    simp only [xLn1, w_X9_found_L2]
    exact ⟨fun z => by omega, fun _ => ⟨fun _ => s9_codes hH hV (k S kp.rf hH), fun y => absurd y hm⟩⟩
/-- what is found behind a move of the state with the code c -/
noncomputable def gb (P : xS) (md c m : Int) : xS := ex_3 (ex_K P md) (mk_do P (sv_dec c) m)
noncomputable def gc (P : xS) (md c m : Int) : Int := sv_enc (gb P md c m)
theorem gb.V {md c m : Int} (hW : pw_WF P) (hr : sv_rm P (sv_dec c)) (hm : mv_ok P (sv_dec c) m) : sv_V (gb P md c m) ∧ sv_rm P (gb P md c m) := by
  have h := mk_do.V hW (sv_V.dec c) hr hm
  exact ⟨ex_3.V h.1, ex_c.rm (ex_c.rm (ex_c.rm h.2))⟩
theorem gc.ok {md c m : Int} (hW : pw_WF P) (hr : sv_rm P (sv_dec c)) (hm : mv_ok P (sv_dec c) m) : sv_ok (gc P md c m) ∧ sv_rm P (sv_dec (gc P md c m)) := by
  have h := gb.V (md := md) hW hr hm
  exact ⟨sv_ok.enc h.1, h.2.E hW (sv_E.de h.1).sy⟩
theorem s6_goBehind {Q : xS → Prop} {md c m : Int} (hW : pw_WF P) (hC : pw_C P S) (hH : sv_H 36 (sv_dec c) S) (hr : sv_rm P (sv_dec c)) (hm : mv_ok P (sv_dec c) m) (hK : ex_kn (ex_K P md) S) (k : ∀ S' : xS, kp sv_Ln S S' → sv_H 41 (gb P md c m) S' → Q S') : w_X6_goBehind m S Q := by
  refine s7_copy_nh hH (fun S1 a1 b1 => s7_doMove hW (hC.kp a1 rfl) b1 (sv_V.dec c) hm (fun S2 a2 b2 => ?_))
  exact s7_least b2 (mk_do.V hW (sv_V.dec c) hr hm).1 (hK.kp (a1.tr a2) (fun _ => rfl)) (fun S3 a3 b3 => k S3 ((a1.tr a2).tr a3) b3)
end PWF

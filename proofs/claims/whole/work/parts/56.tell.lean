/-! pure layer: calls that tell of a state or of the fault -/
section PWTL
variable {P S X : xS} {md : Int}
theorem s6_countMoves {Q : Int → xS → Prop} {p : Int} (h : on_ P md X S) (hp : 0 ≤ p ∧ p < X 0 0) (k : ∀ S' : xS, kp sc3 S S' → cx P md X S' → Q ((mvs P (sv_dec (X 1 p))).length : Int) S') : w_X6_countMoves p S Q := by
  obtain ⟨h1, h2, h3, h4, h5, h6, h7, h8, h9, h10⟩ := h
  have n := h5.1
  have c := h7.1.2.2.2.2.2.1 p hp.1 hp.2
  have g := h5.2.1 p hp.1 hp.2
  refine ⟨by omega, fun z => ?_, fun z => s6_listMoves h2 h3 (by omega) c.1 g.1 g.2.1 (fun S1 a1 b1 l1 e => ?_)⟩
  · rcases c.2.2.2.2.2 with w | w
    · exact absurd w z
    · rw [w]; exact k S kp.rf h7.1
  · rw [e, if_pos rfl]
    exact k S1 (a1.mono rfl) (cx_30 h7.1 a1 e)
theorem s9_movesOf {Q : Int → xS → Prop} {p : Int} (h : on_ P md X S) (hp : 0 ≤ p ∧ p < X 0 0) (k : ∀ S' : xS, kp scr S S' → S' 54 0 = S 54 0 → S' 98 0 = S 98 0 → sv_N 75 (sv_dec (X 1 p)) S' → mv_LR (mvs P (sv_dec (X 1 p))) S' → Q ((mvs P (sv_dec (X 1 p))).length : Int) S') : w_X9_movesOf p S Q := by
  obtain ⟨h1, h2, h3, h4, h5, h6, h7, h8, h9, h10⟩ := h
  have n := h5.1
  have c := h8.1.2.2.2.2.2.2.1 p hp.1 hp.2
  have g := h5.2.1 p hp.1 hp.2
  refine ⟨by omega, ?_⟩
  rw [c.1]
  refine s9_opens g.1.b.1 (fun S1 a1 b1 => s9_finds h2 (h1.kp a1 rfl) b1 (sv_V.dec _) (by have := mv_all.b h2 g.2.1; omega) (fun S2 a2 l2 => ?_))
  rw [l2.1]
  exact k S2 ((a1.mono rfl).tr (a2.mono rfl)) ((a2 54 0 rfl).trans (a1 54 0 rfl)) ((a2 98 0 rfl).trans (a1 98 0 rfl)) (b1.kp a2 (fun _ => rfl) (fun _ => rfl) (fun _ => rfl) (fun _ => rfl)) l2
theorem pv_val {σ : xS} (hV : sv_V σ) {v : Int} (hv : 0 ≤ v ∧ v < 9) : xand (pv σ / 2 ^ (2 * v).toNat) 3 = σ 1 v := by
  have v0 := hV.2.1 0 (by omega) (by omega)
  have v1 := hV.2.1 1 (by omega) (by omega)
  have v2 := hV.2.1 2 (by omega) (by omega)
  have v3 := hV.2.1 3 (by omega) (by omega)
  have v4 := hV.2.1 4 (by omega) (by omega)
  have v5 := hV.2.1 5 (by omega) (by omega)
  have v6 := hV.2.1 6 (by omega) (by omega)
  have v7 := hV.2.1 7 (by omega) (by omega)
  have v8 := hV.2.1 8 (by omega) (by omega)
  have x3 : ∀ a : Int, 0 ≤ a → a < 2147483648 → xand a 3 = a % 4 := fun a h0 h1 => by
    have := xand_lo (a := a) 2 ⟨h0, h1⟩ (by decide)
    rw [show (2 : Int) ^ 2 - 1 = 3 by decide, show (2 : Int) ^ 2 = 4 by decide] at this
    exact this
  have b : 0 ≤ pv σ ∧ pv σ < 262144 := by unfold pv; omega
  rcases sv_i9 hv.1 hv.2 with h | h | h | h | h | h | h | h | h <;> subst h
  · rw [show (2 : Int) ^ (2 * (0 : Int)).toNat = 1 by decide, x3 _ (by omega) (by omega)]; unfold pv; omega
  · rw [show (2 : Int) ^ (2 * (1 : Int)).toNat = 4 by decide, x3 _ (by omega) (by omega)]; unfold pv; omega
  · rw [show (2 : Int) ^ (2 * (2 : Int)).toNat = 16 by decide, x3 _ (by omega) (by omega)]; unfold pv; omega
  · rw [show (2 : Int) ^ (2 * (3 : Int)).toNat = 64 by decide, x3 _ (by omega) (by omega)]; unfold pv; omega
  · rw [show (2 : Int) ^ (2 * (4 : Int)).toNat = 256 by decide, x3 _ (by omega) (by omega)]; unfold pv; omega
  · rw [show (2 : Int) ^ (2 * (5 : Int)).toNat = 1024 by decide, x3 _ (by omega) (by omega)]; unfold pv; omega
  · rw [show (2 : Int) ^ (2 * (6 : Int)).toNat = 4096 by decide, x3 _ (by omega) (by omega)]; unfold pv; omega
  · rw [show (2 : Int) ^ (2 * (7 : Int)).toNat = 16384 by decide, x3 _ (by omega) (by omega)]; unfold pv; omega
  · rw [show (2 : Int) ^ (2 * (8 : Int)).toNat = 65536 by decide, x3 _ (by omega) (by omega)]; unfold pv; omega
theorem s1_valueIn {Q : Int → xS → Prop} {p v : Int} (hx : xa P md X) (hcx : cx P md X S) (hp : 0 ≤ p ∧ p < X 0 0) (hv : 0 ≤ v ∧ v < 9) (k : Q (sv_dec (X 1 p) 1 v) S) : w_X1_valueIn p v S Q := by
  have n := hx.1
  have c := hcx.2.2.2.2.2.1 p hp.1 hp.2
  unfold w_X1_valueIn
  rw [c.2.1, pv_val (sv_V.dec _) hv]
  exact ⟨by omega, by omega, k⟩
theorem s9_valueIn {Q : Int → xS → Prop} {p v : Int} (hx : xa P md X) (hrx : rx P md X S) (hp : 0 ≤ p ∧ p < X 0 0) (hv : 0 ≤ v ∧ v < 9) (k : ∀ S' : xS, kp sv_L9h S S' → Q (sv_dec (X 1 p) 1 v) S') : w_X9_valueIn p v S Q := by
  have n := hx.1
  have c := hrx.2.2.2.2.2.2.1 p hp.1 hp.2
  have g := hx.2.1 p hp.1 hp.2
  unfold w_X9_valueIn
  rw [c.1]
  refine ⟨by omega, s9_opens g.1.b.1 (fun S1 a1 b1 => ⟨hv, ?_⟩)⟩
  rw [show S1 76 v = sv_dec (X 1 p) 1 v from b1.2.1 v hv.1 hv.2]
  exact k S1 a1
end PWTL
section PWKT
variable {S : xS} {f : Int → Int} {i : Int}
theorem k_12 (hI : Inv_ S) : w_K12 f i S Inv_ := by
  unfold w_K12 w_L_codeOf w_X8_codeOf w_X9_codeOf
  generalize f (i + 1) = p
  rcases Inv_ab hI with ⟨a, b⟩ | ⟨P, md, X, h⟩
  · refine s8_needSearch (fun z => absurd a z) (fun _ => Or.inl ⟨rfl, s9_isThere (fun z => by omega) (fun _ => ⟨fun _ => ⟨fun _ => ⟨fun _ => kfin rfl rfl (fun z => by omega) (Inv_kp hI (kp.rf.up rfl)), fun w => absurd rfl w⟩, fun w => by cases w⟩, fun w => absurd rfl w⟩) (Or.inl b)⟩)
  · obtain ⟨h1, h2, h3, h4, h5, h6, h7, h8, h9, h10⟩ := id h
    have n := h5.1
    have e4 := h7.1.1
    have e5 := h8.1.1
    refine s8_needSearch (fun _ => s8_needState (fun p0 p1 => ?_) (fun hp => Or.inr ⟨rfl, s9_isState (by omega) (fun _ a b => absurd ⟨a, by omega⟩ hp) (fun _ _ => ⟨fun _ => kfin rfl rfl (fun z => by omega) (Inv_of (on_kp' h ((kp.rf.up rfl).up rfl))), fun w => absurd rfl w⟩) (fun z => by omega) (Or.inr h10)⟩)) (fun z => absurd (z.symm.trans h9) (by decide))
    rw [e4] at p1
    refine ⟨by omega, s9_isState (S := xup S 98 0 (S 25 p)) (by show 0 ≤ S 54 5 ∧ S 54 5 ≤ 2000; omega) (fun _ _ _ => ⟨fun w => by omega, fun _ => ⟨by omega, kfin rfl rfl (fun _ => ?_) (Inv_of (on_kp' h ((kp.rf.up rfl).up rfl)))⟩⟩) (fun _ hn => absurd ⟨p0, by show p < S 54 5; omega⟩ hn) (fun z => absurd ((show S 54 13 = 0 from z).symm.trans h10) (by decide)) (Or.inr h10)⟩
    show S 25 p = S 67 p
    rw [(h7.1.2.2.2.2.2.1 p p0 p1).1, (h8.1.2.2.2.2.2.2.1 p p0 p1).1]
theorem k_13 (hI : Inv_ S) : w_K13 f i S Inv_ := by
  unfold w_K13 w_L_moves w_X8_moves w_X9_moves
  generalize f (i + 1) = p
  rcases Inv_ab hI with ⟨a, b⟩ | ⟨P, md, X, h⟩
  · refine s8_needSearch (fun z => absurd a z) (fun _ => Or.inl ⟨rfl, s9_isThere (fun z => by omega) (fun _ => ⟨fun _ => ⟨fun _ => ⟨fun _ => kfin rfl rfl (fun z => by omega) (Inv_kp hI (kp.rf.up rfl)), fun w => absurd rfl w⟩, fun w => by cases w⟩, fun w => absurd rfl w⟩) (Or.inl b)⟩)
  · obtain ⟨h1, h2, h3, h4, h5, h6, h7, h8, h9, h10⟩ := id h
    have n := h5.1
    have e4 := h7.1.1
    have e5 := h8.1.1
    refine s8_needSearch (fun _ => s8_needState (fun p0 p1 => ?_) (fun hp => Or.inr ⟨rfl, s9_isState (by omega) (fun _ a b => absurd ⟨a, by omega⟩ hp) (fun _ _ => ⟨fun _ => kfin rfl rfl (fun z => by omega) (Inv_of (on_kp' h ((kp.rf.up rfl).up rfl))), fun w => absurd rfl w⟩) (fun z => by omega) (Or.inr h10)⟩)) (fun z => absurd (z.symm.trans h9) (by decide))
    rw [e4] at p1
    refine s6_countMoves h ⟨p0, p1⟩ (fun S1 a1 c1 => ⟨a1 33 (-1) rfl, ?_⟩)
    have o1 := on_kp' (on_kp h a1 c1) (S' := xup (xup S1 98 0 ((mvs P (sv_dec (X 1 p))).length : Int)) 54 0 0) ((kp.rf.up rfl).up rfl)
    have e13 : S1 54 13 = 1 := (a1 54 13 rfl).trans h10
    have e15 : S1 54 5 = X 0 0 := (a1 54 5 rfl).trans e5
    refine s9_isState (S := xup S1 98 0 ((mvs P (sv_dec (X 1 p))).length : Int)) (by show 0 ≤ S1 54 5 ∧ S1 54 5 ≤ 2000; omega) (fun _ _ _ => ⟨fun w => by omega, fun _ => s9_movesOf o1 ⟨p0, p1⟩ (fun S2 a2 e0 e98 _ _ => kfin (a2 33 (-1) rfl) e0 (fun _ => e98) (Inv_of (on_kp' o1 a2)))⟩) (fun _ hn => absurd ⟨p0, by show p < S1 54 5; omega⟩ hn) (fun z => absurd ((show S1 54 13 = 0 from z).symm.trans e13) (by decide)) (Or.inr e13)
theorem k_15 (hI : Inv_ S) : w_K15 f i S Inv_ := by
  unfold w_K15 w_L_variableIn w_X8_variableIn w_X9_variableIn
  generalize f (i + 1) = p
  generalize f (i + 2) = v
  rcases Inv_ab hI with ⟨a, b⟩ | ⟨P, md, X, h⟩
  · refine s8_needSearch (fun z => absurd a z) (fun _ => Or.inl ⟨rfl, s9_isThere (fun z => by omega) (fun _ => ⟨fun _ => ⟨fun _ => ⟨fun w => absurd rfl w, fun _ => kfin rfl rfl (fun z => by omega) (Inv_kp hI (kp.rf.up rfl))⟩, fun w => by cases w⟩, fun w => absurd rfl w⟩) (Or.inl b)⟩)
  · obtain ⟨h1, h2, h3, h4, h5, h6, h7, h8, h9, h10⟩ := id h
    have n := h5.1
    have e4 := h7.1.1
    have e5 := h8.1.1
    refine s8_needSearch (fun _ => s8_needState (fun p0 p1 => ?_) (fun hp => Or.inr (Or.inl ⟨rfl, s9_isState (by omega) (fun _ a b => absurd ⟨a, by omega⟩ hp) (fun _ _ => ⟨fun w => absurd rfl w, fun _ => kfin rfl rfl (fun z => by omega) (Inv_of (on_kp' h ((kp.rf.up rfl).up rfl)))⟩) (fun z => by omega) (Or.inr h10)⟩))) (fun z => absurd (z.symm.trans h9) (by decide))
    rw [e4] at p1
    refine s8_needVariable (fun v0 v1 => s1_valueIn h5 h7.1 ⟨p0, p1⟩ ⟨v0, v1⟩ ⟨rfl, ?_⟩) (fun hv => Or.inr (Or.inr ⟨rfl, s9_isState (by omega) (fun _ _ _ => ⟨fun _ => s9_in (fun a b => absurd ⟨a, by omega⟩ hv) (fun _ => ⟨fun w => absurd rfl w, fun _ => kfin rfl rfl (fun z => by omega) (Inv_of (on_kp' h ((kp.rf.up rfl).up rfl)))⟩), fun w => by omega⟩) (fun _ hn => absurd ⟨p0, by omega⟩ hn) (fun z => by omega) (Or.inr h10)⟩))
    have o1 := on_kp' h (S' := xup (xup S 98 0 (sv_dec (X 1 p) 1 v)) 54 0 0) ((kp.rf.up rfl).up rfl)
    have vi := s9_valueIn (v := v) (p := p) (Q := fun r37 Sc => (Sc 33 (-1) = S 33 (-1)) ∧ w_X9_thrown Sc (fun r3 S3 => ((r3 = 0 → ((¬ (0 : Int) = 0 → (S3 33 (-1) = S 33 (-1)) ∧ Inv_ S3) ∧ ((0 : Int) = 0 → (((S3 98 0) = r37 → (S3 33 (-1) = S 33 (-1)) ∧ Inv_ S3) ∧ (¬ (S3 98 0) = r37 → False))))) ∧ (¬ r3 = 0 → False)))) h5 o1.2.2.2.2.2.2.2.1.1 ⟨p0, p1⟩ ⟨v0, v1⟩ (fun S2 a2 => kfin (S1 := S) (a2 33 (-1) rfl) (a2 54 0 rfl) (fun _ => a2 98 0 rfl) (Inv_of (on_kp' o1 (a2.mono rfl))))
    refine s9_isState (S := xup S 98 0 (sv_dec (X 1 p) 1 v)) (by show 0 ≤ S 54 5 ∧ S 54 5 ≤ 2000; omega) (fun _ _ _ => ⟨fun _ => s9_in (fun _ _ => ⟨fun _ => vi, fun w => by omega⟩) (fun w => absurd ⟨v0, by omega⟩ w), fun w => by omega⟩) (fun _ hn => absurd ⟨p0, by show p < S 54 5; omega⟩ hn) (fun z => absurd ((show S 54 13 = 0 from z).symm.trans h10) (by decide)) (Or.inr h10)
/-- what the law asks behind a call of the reference that tells a number -/
def gF (t : Int) (S1 : xS) : Int → xS → Prop := fun r Sc => (Sc 33 (-1) = S1 33 (-1)) ∧ w_X9_thrown Sc (fun r3 S3 => ((r3 = t → ((¬ t = 0 → (S3 33 (-1) = S1 33 (-1)) ∧ Inv_ S3) ∧ (t = 0 → (((S3 98 0) = r → (S3 33 (-1) = S1 33 (-1)) ∧ Inv_ S3) ∧ (¬ (S3 98 0) = r → False))))) ∧ (¬ r3 = t → False)))
theorem gF.mk {S1 S2 : xS} {t r : Int} (e : S2 33 (-1) = S1 33 (-1)) (ht : S2 54 0 = t) (hb : t = 0 → S2 98 0 = r) (hq : Inv_ S2) : gF t S1 r S2 := kfin e ht hb hq
def g14 (p v t : Int) (S1 : xS) : Prop := w_X9_reached p v S1 (gF t S1)
section PW14
variable {P X S1 : xS} {md p v : Int}
theorem g14_off (hI : Inv_ S1) (h : S1 54 13 = 0) : g14 p v 1 S1 := by
  unfold g14 w_X9_reached
  exact s9_isThere (fun z => by omega) (fun _ => ⟨fun _ => ⟨fun _ => ⟨fun w => absurd rfl w, fun _ => gF.mk rfl rfl (fun z => by omega) (Inv_kp hI (kp.rf.up rfl))⟩, fun w => by cases w⟩, fun w => absurd rfl w⟩) (Or.inl h)
theorem g14_bad2 (h : on_ P md X S1) (hp : ¬ (0 ≤ p ∧ p < X 0 0)) : g14 p v 2 S1 := by
  have n := h.2.2.2.2.1.1
  have e5 := h.2.2.2.2.2.2.2.1.1.1
  have e13 := h.2.2.2.2.2.2.2.2.2
  exact s9_isState (by omega) (fun _ a b => absurd ⟨a, by omega⟩ hp) (fun _ _ => ⟨fun w => absurd rfl w, fun _ => gF.mk rfl rfl (fun z => by omega) (Inv_of (on_kp' h ((kp.rf.up rfl).up rfl)))⟩) (fun z => by omega) (Or.inr e13)
theorem g14_bad3 (h : on_ P md X S1) (hp : 0 ≤ p ∧ p < X 0 0) (hv : ¬ (0 ≤ v ∧ v < ((mvs P (sv_dec (X 1 p))).length : Int))) : g14 p v 3 S1 := by
  have n := h.2.2.2.2.1.1
  have e5 := h.2.2.2.2.2.2.2.1.1.1
  have e13 := h.2.2.2.2.2.2.2.2.2
  have hlen := mvs.b h.2.1 (h.2.2.2.2.1.2.1 p hp.1 hp.2).2.1
  have oo := on_kp' h (S' := xup S1 54 0 0) (kp.rf.up rfl)
  exact s9_isState (by omega) (fun _ _ _ => ⟨fun _ => s9_movesOf oo hp (fun S2 a2 _ _ _ _ => ⟨⟨by omega, by omega⟩, s9_in (fun a b => absurd ⟨a, by omega⟩ hv) (fun _ => ⟨fun w => absurd rfl w, fun _ => gF.mk (S1 := S1) (a2 33 (-1) rfl) rfl (fun z => by omega) (Inv_of (on_kp' oo (a2.up rfl)))⟩)⟩), fun w => by omega⟩) (fun _ hn => absurd ⟨hp.1, by omega⟩ hn) (fun z => absurd (z.symm.trans e13) (by decide)) (Or.inr e13)
theorem g14_ok (h : on_ P md X S1) (hp : 0 ≤ p ∧ p < X 0 0) {vn : Nat} {m : Int} (hm : (mvs P (sv_dec (X 1 p)))[vn]? = some m) (h98 : S1 98 0 = sv_enc (mk_do P (sv_dec (X 1 p)) m)) : g14 p vn 0 S1 := by
  have n := h.2.2.2.2.1.1
  have e5 := h.2.2.2.2.2.2.2.1.1.1
  have e13 := h.2.2.2.2.2.2.2.2.2
  have gp := h.2.2.2.2.1.2.1 p hp.1 hp.2
  have hlen := mvs.b h.2.1 gp.2.1
  have hi : vn < (mvs P (sv_dec (X 1 p))).length := by
    rcases Nat.lt_or_ge vn (mvs P (sv_dec (X 1 p))).length with w | w
    · exact w
    · rw [List.getElem?_eq_none w] at hm; cases hm
  have hmem : m ∈ mvs P (sv_dec (X 1 p)) := List.mem_of_getElem? hm
  have hok := mvs_mem h.2.1 hmem
  have mdV := mk_do.V h.2.1 (sv_V.dec (X 1 p)) gp.2.1 hok
  have oo := on_kp' h (S' := xup S1 54 0 0) (kp.rf.up rfl)
  refine s9_isState (by omega) (fun _ _ _ => ⟨fun _ => s9_movesOf oo hp (fun S5 a5 e0 e98 n5 l5 => ⟨⟨by omega, by omega⟩, s9_in (fun _ _ => ⟨fun _ => s9_makes h.2.1 (oo.1.kp a5 rfl) n5 (sv_V.dec _) l5 (by omega) hm hok (fun S6 a6 b6 => s9_codes b6 mdV.1 ?_), fun w => by omega⟩) (fun w => absurd ⟨by omega, by omega⟩ w)⟩), fun w => by omega⟩) (fun _ hn => absurd ⟨hp.1, by omega⟩ hn) (fun w => absurd (w.symm.trans e13) (by decide)) (Or.inr e13)
  exact gF.mk (S1 := S1) ((a6 33 (-1) rfl).trans (a5 33 (-1) rfl)) ((a6 54 0 rfl).trans e0) (fun _ => ((a6 98 0 rfl).trans e98).trans h98) (Inv_of (on_kp' (on_kp' oo a5) (a6.mono rfl)))
end PW14
theorem k_14 (hI : Inv_ S) : w_K14 f i S Inv_ := by
  show w_L_reached (f (i + 1)) (f (i + 2)) S (g14 (f (i + 1)) (f (i + 2)))
  unfold w_L_reached w_X8_reached
  generalize f (i + 1) = p
  generalize f (i + 2) = v
  rcases Inv_ab hI with ⟨a, b⟩ | ⟨P, md, X, h⟩
  · exact s8_needSearch (fun z => absurd a z) (fun _ => Or.inl ⟨rfl, g14_off hI b⟩)
  · obtain ⟨h1, h2, h3, h4, h5, h6, h7, h8, h9, h10⟩ := id h
    have n := h5.1
    have e4 := h7.1.1
    refine s8_needSearch (fun _ => s8_needState (fun p0 p1 => ?_) (fun hp => Or.inr (Or.inl ⟨rfl, g14_bad2 h (by rw [← e4]; exact hp)⟩))) (fun z => absurd (z.symm.trans h9) (by decide))
    rw [e4] at p1
    have gp := h5.2.1 p p0 p1
    have hlen := mvs.b h2 gp.2.1
    refine ⟨fun z => Or.inr (Or.inr ⟨rfl, g14_bad3 h ⟨p0, p1⟩ (by omega)⟩), fun z => s6_countMoves h ⟨p0, p1⟩ (fun S1 a1 c1 => ⟨fun hv => ?_, fun hv => ⟨a1 33 (-1) rfl, Or.inr (Or.inr ⟨rfl, g14_bad3 (on_kp h a1 c1) ⟨p0, p1⟩ (by omega)⟩)⟩⟩)⟩
    have o1 := on_kp h a1 c1
    obtain ⟨i1, i2, i3, i4, i5, i6, i7, i8, i9, i10⟩ := id o1
    obtain ⟨vn, rfl⟩ : ∃ vn : Nat, v = (vn : Int) := ⟨v.toNat, by omega⟩
    have hi : vn < (mvs P (sv_dec (X 1 p))).length := by omega
    obtain ⟨m, hm⟩ : ∃ m, (mvs P (sv_dec (X 1 p)))[vn]? = some m := ⟨_, List.getElem?_eq_getElem hi⟩
    have hmem : m ∈ mvs P (sv_dec (X 1 p)) := List.mem_of_getElem? hm
    have hok := mvs_mem h2 hmem
    have mdV := mk_do.V h2 (sv_V.dec (X 1 p)) gp.2.1 hok
    have r25 := (i7.1.2.2.2.2.2.1 p p0 p1).1
    refine s6_listMoves h2 i3 (by omega) r25 gp.1 gp.2.1 (fun S2 a2 b2 l2 e30 => s7_copy_nh b2 (fun S3 a3 b3 => ⟨by omega, ?_⟩))
    rw [a3 35 vn rfl, l2.2 vn m hm]
    have hC3 := (i3.kp a2 rfl).kp a3 rfl
    refine s7_doMove h2 hC3 b3 (sv_V.dec _) hok (fun S4 a4 b4 => s7_pack_n b4 mdV.1 ⟨?_, ?_⟩)
    · rw [a4 33 (-1) rfl, a3 33 (-1) rfl, a2 33 (-1) rfl]; exact a1 33 (-1) rfl
    · have cx2 := cx_30 i7.1 a2 e30
      have o4 : on_ P md X S4 := on_kp' (on_kp' (on_kp o1 (a2.mono rfl) cx2) (S' := S3) (a3.mono rfl)) (a4.mono rfl)
      exact g14_ok (on_kp' o4 (kp.rf.up rfl)) ⟨p0, p1⟩ hm rfl
end PWKT

/-! pure layer: the two figures -/
theorem fg_n64 {r : UInt64} (h : FP.Core.dIsNaN r = false) : vf_n64 r := by
  unfold vf_n64
  have h2 := FP.Core.isNaN_bits r
  have h3 : ¬ (9218868437227405312 < r.toNat % 2 ^ 63) := fun w => by
    have := h2.mpr w
    rw [show FP.Core.dIsNaN r = false from h] at this
    cases this
  rw [UInt64.le_iff_toNat_le, UInt64.toNat_and, show (0x7fffffffffffffff : UInt64).toNat = 2 ^ 63 - 1 by decide, Nat.and_two_pow_sub_one_eq_mod, show (0x7ff0000000000000 : UInt64).toNat = 9218868437227405312 by decide]
  omega
theorem fg_n32 {r : UInt32} (h : FP.Core.fIsNaN r = false) : vf_n32 r := by
  unfold vf_n32
  have h2 := FP.Core.isNaN_bits32 r
  have h3 : ¬ (2139095040 < r.toNat % 2 ^ 31) := fun w => by
    have := h2.mpr w
    rw [show FP.Core.fIsNaN r = false from h] at this
    cases this
  rw [UInt32.le_iff_toNat_le, UInt32.toNat_and, show (0x7fffffff : UInt32).toNat = 2 ^ 31 - 1 by decide, Nat.and_two_pow_sub_one_eq_mod, show (0x7f800000 : UInt32).toNat = 2139095040 by decide]
  omega
theorem fg_rt (r : UInt64) : (jN (r.toInt64.toInt)).toUInt64 = r := by
  rw [jN_of]
  rfl
theorem fg_eq {r : UInt64} (h : FP.Core.dIsNaN r = false) : ((Op.cmpValue (FP.dcmp r r) CmpOp.l).toInt) = 0 := by
  rw [show FP.dcmp r r = some .eq from FP.Core.dcmp_self ((FP.Core.notNaN_iff r).mp h)]
  rfl
theorem fg_div {a b : Int} (hb : xR b) (h0 : b ≠ 0) : FP.Core.dIsNaN (FP.ddiv (FP.l2d (jN a)) (FP.i2d (iN b))) = false := by
  refine FP.Core.ddiv_out (FP.Core.l2d_notNaN _) (FP.Core.i2d_fin _) (fun z => ?_)
  have hz := (FP.Core.zero_bits2 _).mp z
  refine FP.Core.i2d_ne_zero (fun w => h0 ?_) hz
  have := congrArg Int32.toInt w
  rw [iN_t hb] at this
  exact this
theorem fg_fdiv {a b : Int} (hb : xRJ b) (h0 : b ≠ 0) : FP.Core.fIsNaN (FP.fdiv (FP.i2f (iN a)) (FP.l2f (jN b))) = false := by
  refine FP.Core.fdiv_out ((FP.Core.i2f_fin _).notNaN) (FP.Core.l2f_fin _) (fun z => ?_)
  have hz := (FP.Core.zero_bits232 _).mp z
  refine FP.Core.l2f_ne_zero (fun w => h0 ?_) hz
  have := congrArg Int64.toInt w
  rw [jN_t hb] at this
  exact this
theorem fg_f2d {r : UInt32} (h : FP.Core.fIsNaN r = false) : FP.Core.dIsNaN (FP.f2d r) = false := by
  unfold FP.f2d
  rw [if_neg (by rw [h]; decide)]
  exact FP.Core.f2d_out h
section PWFG
variable {P S X : xS} {md : Int}
noncomputable def sm_ (P X : xS) : Nat → Int
  | 0 => 0
  | n + 1 => sm_ P X n + ((mvs P (sv_dec (X 1 n))).length : Int)
theorem sm_.b (hW : pw_WF P) (hx : xa P md X) : ∀ n : Nat, (n : Int) ≤ X 0 0 → 0 ≤ sm_ P X n ∧ sm_ P X n ≤ 392 * n
  | 0, _ => by show (0 : Int) ≤ 0 ∧ (0 : Int) ≤ 392 * ((0 : Nat) : Int); omega
  | n + 1, h => by
    have r := sm_.b hW hx n (by omega)
    have l := mvs.b hW (hx.2.1 n (by omega) (by omega)).2.1
    show 0 ≤ sm_ P X n + ((mvs P (sv_dec (X 1 n))).length : Int) ∧ sm_ P X n + ((mvs P (sv_dec (X 1 n))).length : Int) ≤ 392 * ((n + 1 : Nat) : Int)
    omega
theorem s6_countAll {Q : Int → xS → Prop} (h : on_ P md X S) (k : ∀ S' : xS, kp sc3 S S' → cx P md X S' → Q (sm_ P X (X 0 0).toNat) S') : w_X6_countAllMoves S Q := by
  have n := h.2.2.2.2.1.1
  refine xL2_up (X 0 0) (fun u v S' => 0 ≤ v ∧ u = sm_ P X v.toNat ∧ kp sc3 S S' ∧ cx P md X S') ?_ 0 0 S (by omega) ⟨by omega, rfl, kp.rf, h.2.2.2.2.2.2.1.1⟩
  rintro u v S1 ⟨hv0, rfl, a1, b1⟩ hv k2 hk2
  have o1 := on_kp h a1 b1
  unfold w_X6_countAllMoves_L4
  rw [b1.1]
  have sb := sm_.b h.2.1 h.2.2.2.2.1 v.toNat (by omega)
  refine ⟨fun z => ?_, fun z => s6_countMoves o1 ⟨hv0, by omega⟩ (fun S2 a2 b2 => ?_)⟩
  · rw [show v = X 0 0 by omega]
    exact k S1 a1 b1
  · have sb1 := sm_.b h.2.1 h.2.2.2.2.1 (v.toNat + 1) (by omega)
    have e : sm_ P X (v.toNat + 1) = sm_ P X v.toNat + ((mvs P (sv_dec (X 1 v))).length : Int) := by
      show sm_ P X v.toNat + ((mvs P (sv_dec (X 1 (v.toNat : Int)))).length : Int) = _
      rw [Int.toNat_of_nonneg hv0]
    rw [e] at sb1
    refine ⟨⟨by omega, by omega⟩, ⟨by omega, by omega⟩, hk2 _ S2 (by omega) ⟨by omega, ?_, a1.tr a2, b2⟩⟩
    rw [← e, show (v + 1).toNat = v.toNat + 1 by omega]
abbrev rm_L : List (Nat × Int) := [(75, -9), (76, -9), (77, -9), (78, -9), (54, 10), (83, -9), (84, -9), (85, -9), (86, -9)]
theorem s9_movesOf9 {Q : Int → xS → Prop} {p : Int} (h : on_ P md X S) (hp : 0 ≤ p ∧ p < X 0 0) (k : ∀ S' : xS, kp rm_L S S' → Q ((mvs P (sv_dec (X 1 p))).length : Int) S') : w_X9_movesOf p S Q := by
  obtain ⟨h1, h2, h3, h4, h5, h6, h7, h8, h9, h10⟩ := h
  have n := h5.1
  have c := h8.1.2.2.2.2.2.2.1 p hp.1 hp.2
  have g := h5.2.1 p hp.1 hp.2
  refine ⟨by omega, ?_⟩
  rw [c.1]
  refine s9_opens g.1.b.1 (fun S1 a1 b1 => s9_finds h2 (h1.kp a1 rfl) b1 (sv_V.dec _) (by have := mv_all.b h2 g.2.1; omega) (fun S2 a2 l2 => ?_))
  rw [l2.1]
  exact k S2 ((a1.mono rfl).tr (a2.mono rfl))
theorem s9_meanL {Q : UInt64 → xS → Prop} (h : on_ P md X S) (k : ∀ S' : xS, kp rm_L S S' → Q (FP.ddiv (FP.i2d (iN (sm_ P X (X 0 0).toNat))) (FP.i2d (iN (X 0 0)))) S') : xL2 (w_X9_meanMoves_L13 Q) 0 0 S := by
  have n := h.2.2.2.2.1.1
  refine xL2_up (X 0 0) (fun u v S' => 0 ≤ v ∧ u = sm_ P X v.toNat ∧ kp rm_L S S') ?_ 0 0 S (by omega) ⟨by omega, rfl, kp.rf⟩
  rintro u v S1 ⟨hv0, rfl, a1⟩ hv k2 hk2
  have o1 := on_kp' h (a1.mono rfl)
  have sb := sm_.b h.2.1 h.2.2.2.2.1 v.toNat (by omega)
  unfold w_X9_meanMoves_L13
  rw [o1.2.2.2.2.2.2.2.1.1.1]
  refine ⟨fun z => ?_, fun z => s9_movesOf9 o1 ⟨hv0, by omega⟩ (fun S2 a2 => ?_)⟩
  · rw [show v = X 0 0 by omega] at sb ⊢
    refine ⟨fg_n64 ?_, k S1 a1⟩
    have e : FP.i2d (iN (sm_ P X (X 0 0).toNat)) = FP.l2d (jN (sm_ P X (X 0 0).toNat)) := by
      rw [← iN_l (show xR (sm_ P X (X 0 0).toNat) from ⟨by omega, by omega⟩)]
      exact FP.Core.i2d_l2d _
    rw [e]
    exact fg_div ⟨by omega, by omega⟩ (by omega)
  · have sb1 := sm_.b h.2.1 h.2.2.2.2.1 (v.toNat + 1) (by omega)
    have e : sm_ P X (v.toNat + 1) = sm_ P X v.toNat + ((mvs P (sv_dec (X 1 v))).length : Int) := by
      show sm_ P X v.toNat + ((mvs P (sv_dec (X 1 (v.toNat : Int)))).length : Int) = _
      rw [Int.toNat_of_nonneg hv0]
    rw [e] at sb1
    refine ⟨⟨by omega, by omega⟩, ⟨by omega, by omega⟩, hk2 _ S2 (by omega) ⟨by omega, ?_, a1.tr a2⟩⟩
    rw [← e, show (v + 1).toNat = v.toNat + 1 by omega]
end PWFG
section PWKG2
variable {S : xS} {f : Int → Int} {i : Int}
def gD (t : Int) (S1 : xS) : UInt64 → xS → Prop := fun r Sc => (Sc 33 (-1) = S1 33 (-1)) ∧ w_X9_thrown Sc (fun r3 S3 => ((r3 = t → ((¬ t = 0 → (S3 33 (-1) = S1 33 (-1)) ∧ Inv_ S3) ∧ (t = 0 → ((((Op.cmpValue (FP.dcmp ((jN (S3 99 0)).toUInt64) r) CmpOp.l).toInt) = 0 → (S3 33 (-1) = S1 33 (-1)) ∧ Inv_ S3) ∧ (¬ ((Op.cmpValue (FP.dcmp ((jN (S3 99 0)).toUInt64) r) CmpOp.l).toInt) = 0 → ((((Op.cmpValue (FP.dcmp ((jN (S3 99 0)).toUInt64) ((jN (S3 99 0)).toUInt64)) CmpOp.l).toInt) = 0 → False) ∧ (¬ ((Op.cmpValue (FP.dcmp ((jN (S3 99 0)).toUInt64) ((jN (S3 99 0)).toUInt64)) CmpOp.l).toInt) = 0 → ((¬ ((Op.cmpValue (FP.dcmp r r) CmpOp.l).toInt) = 0 → (S3 33 (-1) = S1 33 (-1)) ∧ Inv_ S3) ∧ (((Op.cmpValue (FP.dcmp r r) CmpOp.l).toInt) = 0 → False))))))))) ∧ (¬ r3 = t → False)))
theorem gD.mk {S1 S2 : xS} {t : Int} {r : UInt64} (e : S2 33 (-1) = S1 33 (-1)) (ht : S2 54 0 = t) (hb : t = 0 → FP.Core.dIsNaN r = false ∧ S2 99 0 = r.toInt64.toInt) (hq : Inv_ S2) : gD t S1 r S2 := by
  refine ⟨e, fun _ => ⟨fun _ => ⟨e, hq⟩, fun z => ⟨fun _ => ⟨e, hq⟩, fun w => absurd ?_ w⟩⟩, fun z => z ht⟩
  rw [(hb z).2, fg_rt]
  exact fg_eq (hb z).1
theorem k_28 (hI : Inv_ S) : w_K28 f i S Inv_ := by
  show w_L_meanMoves S (fun t S1 => w_X9_meanMoves S1 (gD t S1))
  unfold w_L_meanMoves w_X8_meanMoves w_X9_meanMoves
  rcases Inv_ab hI with ⟨a, b⟩ | ⟨P, md, X, h⟩
  · exact s8_needSearch (fun z => absurd a z) (fun _ => ⟨rfl, s9_isThere (fun z => by omega) (fun _ => ⟨fun w => absurd rfl w, fun _ => gD.mk rfl rfl (fun z => by omega) (Inv_kp hI (kp.rf.up rfl))⟩) (Or.inl b)⟩)
  · have n := h.2.2.2.2.1.1
    refine s8_needSearch (fun _ => s6_countAll h (fun S1 a1 b1 => ?_)) (fun z => absurd (z.symm.trans h.2.2.2.2.2.2.2.2.1) (by decide))
    rw [b1.1]
    have sb := sm_.b h.2.1 h.2.2.2.2.1 (X 0 0).toNat (by omega)
    have nn := fg_div (a := sm_ P X (X 0 0).toNat) (b := X 0 0) ⟨by omega, by omega⟩ (by omega)
    have o1 := on_kp' (on_kp h a1 b1) (S' := xup S1 99 0 ((FP.ddiv (FP.l2d (jN (sm_ P X (X 0 0).toNat))) (FP.i2d (iN (X 0 0)))).toInt64.toInt)) (kp.rf.up rfl)
    have o2 := on_kp' o1 (S' := xup (xup S1 99 0 ((FP.ddiv (FP.l2d (jN (sm_ P X (X 0 0).toNat))) (FP.i2d (iN (X 0 0)))).toInt64.toInt)) 54 0 0) (kp.rf.up rfl)
    have e : FP.i2d (iN (sm_ P X (X 0 0).toNat)) = FP.l2d (jN (sm_ P X (X 0 0).toNat)) := by
      rw [← iN_l (show xR (sm_ P X (X 0 0).toNat) from ⟨by omega, by omega⟩)]
      exact FP.Core.i2d_l2d _
    refine ⟨fg_n64 nn, a1 33 (-1) rfl, s9_isThere (fun _ => ⟨fun _ => s9_meanL o2 (fun S2 a2 => ?_), fun w => by omega⟩) (fun z => absurd (z.symm.trans o1.2.2.2.2.2.2.2.2.2) (by decide)) (Or.inr o1.2.2.2.2.2.2.2.2.2)⟩
    rw [e]
    exact gD.mk (a2 33 (-1) rfl) (a2 54 0 rfl) (fun _ => ⟨nn, a2 99 0 rfl⟩) (Inv_of (on_kp' o2 (a2.mono rfl)))
def gE (t : Int) (S1 : xS) : UInt32 → xS → Prop := fun r Sc => (Sc 33 (-1) = S1 33 (-1)) ∧ w_X9_thrown Sc (fun r3 S3 => ((r3 = t → ((¬ t = 0 → (S3 33 (-1) = S1 33 (-1)) ∧ Inv_ S3) ∧ (t = 0 → (vf_n64 (FP.f2d r)) ∧ ((((Op.cmpValue (FP.dcmp ((jN (S3 99 0)).toUInt64) (FP.f2d r)) CmpOp.l).toInt) = 0 → (S3 33 (-1) = S1 33 (-1)) ∧ Inv_ S3) ∧ (¬ ((Op.cmpValue (FP.dcmp ((jN (S3 99 0)).toUInt64) (FP.f2d r)) CmpOp.l).toInt) = 0 → ((((Op.cmpValue (FP.dcmp ((jN (S3 99 0)).toUInt64) ((jN (S3 99 0)).toUInt64)) CmpOp.l).toInt) = 0 → False) ∧ (¬ ((Op.cmpValue (FP.dcmp ((jN (S3 99 0)).toUInt64) ((jN (S3 99 0)).toUInt64)) CmpOp.l).toInt) = 0 → ((¬ ((Op.cmpValue (FP.fcmp r r) CmpOp.l).toInt) = 0 → (S3 33 (-1) = S1 33 (-1)) ∧ Inv_ S3) ∧ (((Op.cmpValue (FP.fcmp r r) CmpOp.l).toInt) = 0 → False))))))))) ∧ (¬ r3 = t → False)))
theorem gE.mk {S1 S2 : xS} {t : Int} {r : UInt32} (e : S2 33 (-1) = S1 33 (-1)) (ht : S2 54 0 = t) (hb : t = 0 → FP.Core.fIsNaN r = false ∧ S2 99 0 = (FP.f2d r).toInt64.toInt) (hq : Inv_ S2) : gE t S1 r S2 := by
  refine ⟨e, fun _ => ⟨fun _ => ⟨e, hq⟩, fun z => ⟨fg_n64 (fg_f2d (hb z).1), fun _ => ⟨e, hq⟩, fun w => absurd ?_ w⟩⟩, fun z => z ht⟩
  rw [(hb z).2, fg_rt]
  exact fg_eq (fg_f2d (hb z).1)
theorem k_29 (hI : Inv_ S) : w_K29 f i S Inv_ := by
  show w_L_newShare S (fun t S1 => w_X9_newShare S1 (gE t S1))
  unfold w_L_newShare w_X8_newShare w_X9_newShare w_X9_newShare_J24
  rcases Inv_ab hI with ⟨a, b⟩ | ⟨P, md, X, h⟩
  · exact s8_needSearch (fun z => absurd a z) (fun _ => Or.inl ⟨rfl, s9_isThere (fun z => by omega) (fun _ => ⟨fun w => absurd rfl w, fun _ => gE.mk rfl rfl (fun z => by omega) (Inv_kp hI (kp.rf.up rfl))⟩) (Or.inl b)⟩)
  · have n := h.2.2.2.2.1.1
    have e4 := h.2.2.2.2.2.2.1.1.1
    have e12 := h.2.2.2.2.2.2.1.1.2.2.2.2.1
    have r5 := h.2.2.2.2.2.2.2.1.1.1
    have r12 := h.2.2.2.2.2.2.2.1.1.2.2.2.1
    have m0 := h.2.2.2.2.1.2.2.2.2.2.2.1.1
    have m1 := h.2.2.2.2.2.1.2.1
    have m2 := h.2.2.2.2.2.1.1
    refine s8_needSearch (fun _ => ⟨fun z => ?_, fun z => Or.inr ⟨rfl, s9_isThere (fun _ => ⟨fun _ => ⟨fun w => ?_, fun w => ⟨fun y => absurd w y, fun _ => gE.mk rfl rfl (fun z => by omega) (Inv_of (on_kp' h ((kp.rf.up rfl).up rfl)))⟩⟩, fun w => by omega⟩) (fun z => absurd (z.symm.trans h.2.2.2.2.2.2.2.2.2) (by decide)) (Or.inr h.2.2.2.2.2.2.2.2.2)⟩⟩) (fun z => absurd (z.symm.trans h.2.2.2.2.2.2.2.2.1) (by decide))
    · rw [e12] at z
      have nn := fg_fdiv (a := X 0 0 - 1) (b := X 0 3) ⟨by omega, by omega⟩ z
      have o1 := on_kp' h (S' := xup S 99 0 ((FP.f2d (FP.fdiv (FP.i2f (iN (X 0 0 - 1))) (FP.l2f (jN (X 0 3))))).toInt64.toInt)) (kp.rf.up rfl)
      rw [e4, e12]
      refine ⟨fg_n32 nn, fg_n64 (fg_f2d nn), s9_isThere (fun _ => ⟨fun _ => ⟨fun w => ?_, fun w => ?_⟩, fun w => by omega⟩) (fun z => absurd (z.symm.trans o1.2.2.2.2.2.2.2.2.2) (by decide)) (Or.inr o1.2.2.2.2.2.2.2.2.2)⟩
      · have r5' : (xup (xup S 99 0 ((FP.f2d (FP.fdiv (FP.i2f (iN (X 0 0 - 1))) (FP.l2f (jN (X 0 3))))).toInt64.toInt)) 54 0 0) 54 5 = X 0 0 := r5
        have r12' : (xup (xup S 99 0 ((FP.f2d (FP.fdiv (FP.i2f (iN (X 0 0 - 1))) (FP.l2f (jN (X 0 3))))).toInt64.toInt)) 54 0 0) 54 12 = X 0 3 := r12
        refine ⟨fun _ => ?_, fun y => absurd (r12'.symm.trans y) z⟩
        rw [r5', r12']
        exact ⟨fg_n32 nn, gE.mk rfl rfl (fun _ => ⟨nn, rfl⟩) (Inv_of (on_kp' o1 ((kp.rf.up rfl).up rfl)))⟩
      · have w' : S 54 12 = 0 := w
        omega
    · have w' : ¬ S 54 12 = 0 := w
      omega
end PWKG2

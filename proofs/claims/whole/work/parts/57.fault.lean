/-! pure layer: the fault and its trace -/
theorem xa.fk {P X : xS} {md : Int} (h : xa P md X) (hf : X 0 2 ≠ 0) : (0 ≤ X 0 4 ∧ X 0 4 < X 0 0) ∧ (X 0 2 = 105 ∨ X 0 2 = 100 ∨ X 0 2 = 97) := by
  rcases h.2.2.2.2.2.1 with z | ⟨h1, h2 | h2 | h2⟩
  · exact absurd z hf
  · exact ⟨h1, Or.inl h2.1⟩
  · exact ⟨h1, Or.inr (Or.inl h2.1)⟩
  · exact ⟨h1, Or.inr (Or.inr h2.1)⟩
/-- each move of the trace is one of the state above -/
theorem tr_.ok {P X : xS} {md : Int} (h : xa P md X) (hf : X 0 2 ≠ 0) {i : Int} (h0 : 0 ≤ i) (h1 : i < tl_ X) : ∃ s : Int, (0 ≤ s ∧ s < X 0 0) ∧ tr_ X i ∈ mvs P (sv_dec (X 1 s)) := by
  obtain ⟨f1, f2⟩ := h.fk hf
  unfold tl_ at h1
  unfold tr_
  by_cases hi : i = X 4 (X 0 4)
  · rw [if_pos hi]
    by_cases e : X 0 2 = 97
    · rcases h.2.2.2.2.2.1 with z | ⟨-, z | z | z⟩
      · exact absurd z hf
      · omega
      · omega
      · exact ⟨X 0 4, f1, z.2.1⟩
    · rw [if_neg e] at h1
      omega
  · rw [if_neg hi]
    have hlt : i < X 4 (X 0 4) := by split at h1 <;> omega
    have u := up_.d h f1 (X 4 (X 0 4) - 1 - i).toNat (by omega)
    have u0 : up_ X (X 4 (X 0 4) - 1 - i).toNat (X 0 4) ≠ 0 := fun z => by
      rw [z] at u
      have := h.2.2.1.2.2
      omega
    have w := h.2.2.2.1 _ (by omega) u.1.2
    exact ⟨X 2 (up_ X (X 4 (X 0 4) - 1 - i).toNat (X 0 4)), by omega, w.2.1⟩
section PWFT
variable {P S X : xS} {md : Int}
theorem s8_needFault {Q : xS → Prop} {Z : String → xS → Prop} (h : on_ P md X S) (h1 : X 0 2 ≠ 0 → Q S) (h0 : X 0 2 = 0 → Z "java/util/NoSuchElementException" S) : w_X8_needFault S Q Z := by
  obtain ⟨i1, i2, i3, i4, i5, i6, i7, i8, i9, i10⟩ := h
  refine s8_needSearch (fun _ => ?_) (fun z => absurd (z.symm.trans i9) (by decide))
  by_cases hf : X 0 2 = 0
  · have e := i7.1.2.2.1 hf
    exact ⟨fun w => absurd e w, fun _ => h0 hf⟩
  · have e := (i7.1.2.2.2.1 hf).1
    have f := (i5.fk hf).2
    exact ⟨fun _ => h1 hf, fun w => by omega⟩
theorem s9_isFault {Q : Int → xS → Prop} (h : on_ P md X S) (h1 : X 0 2 ≠ 0 → Q 1 (xup S 54 0 0)) (h0 : X 0 2 = 0 → Q 0 (xup (xup S 54 0 0) 54 0 2)) : w_X9_isFault S Q := by
  obtain ⟨i1, i2, i3, i4, i5, i6, i7, i8, i9, i10⟩ := h
  have e := i8.1.2.2.1
  refine s9_isThere (fun _ => ⟨fun w => by omega, fun _ => ⟨fun w => ⟨fun y => absurd rfl y, fun _ => h1 ?_⟩, fun w => ⟨fun _ => h0 ?_, fun y => by cases y⟩⟩⟩) (fun z => absurd (z.symm.trans i10) (by decide)) (Or.inr i10)
  · have w' : ¬ S 54 7 = 0 := w
    omega
  · have w' : S 54 7 = 0 := w
    omega
theorem s9_isFault_off {Q : Int → xS → Prop} (hI : S 54 13 = 0) (h0 : Q 0 (xup S 54 0 1)) : w_X9_isFault S Q :=
  s9_isThere (fun z => by omega) (fun _ => ⟨fun _ => ⟨fun _ => h0, fun w => by cases w⟩, fun w => absurd rfl w⟩) (Or.inl hI)
theorem s9_length {Q : Int → xS → Prop} (hx : xa P md X) (hrx : rx P md X S) (hf : X 0 2 ≠ 0) (k : Q (tl_ X) S) : w_X9_length S Q := by
  obtain ⟨f1, f2⟩ := hx.fk hf
  have n := hx.1
  have e8 := (hrx.2.2.2.2.1 hf).1
  have e7 := hrx.2.2.1
  have c := (hrx.2.2.2.2.2.2.1 (X 0 4) f1.1 f1.2).2.2.2
  have g := hx.2.1 (X 0 4) f1.1 f1.2
  unfold w_X9_length
  unfold tl_ at k
  rw [e8, c, e7]
  refine ⟨by omega, fun z => ⟨⟨by omega, by omega⟩, ?_⟩, fun z => ⟨⟨by omega, by omega⟩, ?_⟩⟩
  · rw [if_neg z] at k; exact k
  · rw [if_pos z] at k; exact k
theorem s9_traced {Q : Int → xS → Prop} {a : Int} (hx : xa P md X) (hrx : rx P md X S) (hf : X 0 2 ≠ 0) (ha : 0 ≤ a ∧ a < tl_ X) (k : Q (w16 (tr_ X a)) S) : w_X9_traced a S Q := by
  obtain ⟨f1, f2⟩ := hx.fk hf
  have n := hx.1
  have e8 := (hrx.2.2.2.2.1 hf).1
  have e7 := hrx.2.2.1
  have g := hx.2.1 (X 0 4) f1.1 f1.2
  have j24 : a ≠ X 4 (X 0 4) → w_X9_traced_J24 a Q S := by
    intro hne
    have hlt : a < X 4 (X 0 4) := by
      have := ha.2
      unfold tl_ at this
      split at this <;> omega
    unfold w_X9_traced_J24
    rw [e8]
    refine xL1_inv (fun v S' => S' = S ∧ ∃ j : Nat, v = up_ X j (X 0 4) ∧ a + 1 ≤ X 4 (X 0 4) - j) (fun v _ => (X 4 v).toNat) ?_ _ S ⟨rfl, 0, rfl, by omega⟩
    rintro v S' ⟨rfl, j, rfl, hj⟩ k2 hk2
    have u := up_.d hx f1 j (by omega)
    have c := hrx.2.2.2.2.2.2.1 _ u.1.1 u.1.2
    have u0 : up_ X j (X 0 4) ≠ 0 := fun z => by
      rw [z] at u
      have := hx.2.2.1.2.2
      omega
    have w := hx.2.2.2.1 _ (by omega) u.1.2
    refine ⟨by omega, ⟨by omega, by omega⟩, fun z => ?_, fun z => ?_⟩
    · rw [c.2.2.2] at z
      have ej : j = (X 4 (X 0 4) - 1 - a).toNat := by omega
      rw [c.2.2.1 (by omega), ej]
      unfold tr_ at k
      rw [if_neg hne] at k
      exact k
    · rw [c.2.2.2] at z
      rw [c.2.1]
      refine hk2 _ S' ⟨rfl, j + 1, (up_.succ X j _).symm, by omega⟩ ?_
      omega
  have g24 : a < X 4 (X 0 4) ∨ a = X 4 (X 0 4) := by
    have := ha.2
    unfold tl_ at this
    split at this <;> omega
  refine ⟨fun z => j24 ?_, fun z => s9_length hx hrx hf ⟨⟨by unfold tl_; split <;> omega, by unfold tl_; split <;> omega⟩, fun y => j24 ?_, fun y => ?_⟩⟩
  · rw [e7] at z
    have := ha.2
    unfold tl_ at this
    rw [if_neg z] at this
    omega
  · rw [e7] at z
    unfold tl_ at y
    rw [if_pos z] at y
    omega
  · rw [e7] at z
    unfold tl_ at y
    rw [if_pos z] at y
    unfold tr_ at k
    rw [if_pos (by omega)] at k
    rw [(hrx.2.2.2.2.1 hf).2 z]
    exact k
end PWFT
section PWKF
variable {S : xS} {f : Int → Int} {i : Int}
theorem k_17 (hI : Inv_ S) : w_K17 f i S Inv_ := by
  show w_L_fault S (fun t S1 => w_X9_fault S1 (gF t S1))
  unfold w_L_fault w_X8_fault
  rcases Inv_ab hI with ⟨a, b⟩ | ⟨P, md, X, h⟩
  · exact s8_needSearch (fun z => absurd a z) (fun _ => Or.inl ⟨rfl, s9_isFault_off b ⟨fun _ => gF.mk rfl rfl (fun z => by omega) (Inv_kp hI (kp.rf.up rfl)), fun w => absurd rfl w⟩⟩)
  · refine s8_needFault h (fun hf => ?_) (fun hf => Or.inr ⟨rfl, s9_isFault h (fun w => absurd hf w) (fun _ => ⟨fun _ => gF.mk rfl rfl (fun z => by omega) (Inv_kp hI ((kp.rf.up rfl).up rfl)), fun w => absurd rfl w⟩)⟩)
    obtain ⟨f1, f2⟩ := h.2.2.2.2.1.fk hf
    have e := (h.2.2.2.2.2.2.1.1.2.2.2.1 hf).1
    have e7 := h.2.2.2.2.2.2.2.1.1.2.2.1
    have o1 := on_kp' h (S' := xup S 98 0 (S 2 13)) (kp.rf.up rfl)
    refine ⟨by omega, s9_isFault o1 (fun _ => ⟨fun w => by omega, fun _ => ⟨?_, gF.mk rfl rfl (fun _ => ?_) (Inv_of (on_kp' o1 (kp.rf.up rfl)))⟩⟩) (fun w => absurd w hf)⟩
    · show 0 ≤ S 54 7 % 65536 ∧ S 54 7 % 65536 < 65536
      omega
    · show S 2 13 = S 54 7 % 65536
      omega
theorem k_18 (hI : Inv_ S) : w_K18 f i S Inv_ := by
  show w_L_traceLength S (fun t S1 => w_X9_traceLength S1 (gF t S1))
  unfold w_L_traceLength w_X8_traceLength
  rcases Inv_ab hI with ⟨a, b⟩ | ⟨P, md, X, h⟩
  · exact s8_needSearch (fun z => absurd a z) (fun _ => Or.inl ⟨rfl, s9_isFault_off b ⟨fun _ => gF.mk rfl rfl (fun z => by omega) (Inv_kp hI (kp.rf.up rfl)), fun w => absurd rfl w⟩⟩)
  · refine s8_needFault h (fun hf => ?_) (fun hf => Or.inr ⟨rfl, s9_isFault h (fun w => absurd hf w) (fun _ => ⟨fun _ => gF.mk rfl rfl (fun z => by omega) (Inv_kp hI ((kp.rf.up rfl).up rfl)), fun w => absurd rfl w⟩)⟩)
    have e := (h.2.2.2.2.2.2.1.1.2.2.2.1 hf).2.1
    have o1 := on_kp' h (S' := xup S 98 0 (S 2 8)) (kp.rf.up rfl)
    have o2 := on_kp' o1 (S' := xup (xup S 98 0 (S 2 8)) 54 0 0) (kp.rf.up rfl)
    refine s9_isFault o1 (fun _ => ⟨fun w => by omega, fun _ => s9_length o2.2.2.2.2.1 o2.2.2.2.2.2.2.2.1.1 hf (gF.mk rfl rfl (fun _ => e) (Inv_of o2))⟩) (fun w => absurd w hf)
theorem tl_.b {P X : xS} {md : Int} (h : xa P md X) (hf : X 0 2 ≠ 0) : 0 ≤ tl_ X ∧ tl_ X ≤ 2000 := by
  obtain ⟨f1, f2⟩ := h.fk hf
  have n := h.1
  have g := h.2.1 (X 0 4) f1.1 f1.2
  unfold tl_
  split <;> omega
theorem k_19 (hI : Inv_ S) : w_K19 f i S Inv_ := by
  show w_L_traceProcess (f (i + 1)) S (fun t S1 => w_X9_traceProcess (f (i + 1)) S1 (gF t S1))
  unfold w_L_traceProcess w_X8_traceProcess w_X8_needPlace w_X8_needPlace_J15
  generalize f (i + 1) = p
  rcases Inv_ab hI with ⟨a, b⟩ | ⟨P, md, X, h⟩
  · exact s8_needSearch (fun z => absurd a z) (fun _ => Or.inl ⟨rfl, s9_isFault_off b ⟨fun w => absurd rfl w, fun _ => gF.mk rfl rfl (fun z => by omega) (Inv_kp hI (kp.rf.up rfl))⟩⟩)
  · refine s8_needFault h (fun hf => ?_) (fun hf => Or.inr (Or.inl ⟨rfl, s9_isFault h (fun w => absurd hf w) (fun _ => ⟨fun w => absurd rfl w, fun _ => gF.mk rfl rfl (fun z => by omega) (Inv_kp hI ((kp.rf.up rfl).up rfl))⟩)⟩))
    have n := tl_.b h.2.2.2.2.1 hf
    have e := (h.2.2.2.2.2.2.1.1.2.2.2.1 hf).2.1
    have bad : ¬ (0 ≤ p ∧ p < tl_ X) → w_X9_traceProcess p S (gF 3 S) := fun hp => by
      have o2 := on_kp' h (S' := xup S 54 0 0) (kp.rf.up rfl)
      exact s9_isFault h (fun _ => ⟨fun _ => s9_length o2.2.2.2.2.1 o2.2.2.2.2.2.2.2.1.1 hf ⟨⟨by omega, by omega⟩, s9_in (fun a b => absurd ⟨a, by omega⟩ hp) (fun _ => ⟨fun _ => gF.mk rfl rfl (fun z => by omega) (Inv_of (on_kp' o2 (kp.rf.up rfl))), fun w => absurd rfl w⟩)⟩, fun w => by omega⟩) (fun w => absurd w hf)
    refine ⟨fun z => Or.inr (Or.inr ⟨rfl, bad (by omega)⟩), fun z => ⟨fun z2 => ?_, fun z2 => Or.inr (Or.inr ⟨rfl, bad (by omega)⟩)⟩⟩
    rw [e] at z2
    have et := (h.2.2.2.2.2.2.1.1.2.2.2.1 hf).2.2 p (by omega) z2
    obtain ⟨s, hs, hm⟩ := tr_.ok h.2.2.2.2.1 hf (by omega) z2
    have m0 := ((mvs_mem h.2.1 hm).n h.2.1 rfl).2.1
    rw [et]
    refine ⟨by omega, by omega, rfl, ?_⟩
    have o1 := on_kp' h (S' := xup S 98 0 (tr_ X p / 64 / 14)) (kp.rf.up rfl)
    have o2 := on_kp' o1 (S' := xup (xup S 98 0 (tr_ X p / 64 / 14)) 54 0 0) (kp.rf.up rfl)
    refine s9_isFault o1 (fun _ => ⟨fun _ => s9_length o2.2.2.2.2.1 o2.2.2.2.2.2.2.2.1.1 hf ⟨⟨by omega, by omega⟩, s9_in (fun _ _ => ⟨fun w => by omega, fun _ => s9_traced o2.2.2.2.2.1 o2.2.2.2.2.2.2.2.1.1 hf ⟨by omega, z2⟩ ⟨?_, gF.mk rfl rfl (fun _ => ?_) (Inv_of o2)⟩⟩) (fun w => absurd ⟨by omega, by omega⟩ w)⟩, fun w => by omega⟩) (fun w => absurd w hf)
    · unfold w16; omega
    · show tr_ X p / 64 / 14 = w16 (tr_ X p) / 16
      unfold w16; omega
theorem k_20 (hI : Inv_ S) : w_K20 f i S Inv_ := by
  show w_L_traceStep (f (i + 1)) S (fun t S1 => w_X9_traceStep (f (i + 1)) S1 (gF t S1))
  unfold w_L_traceStep w_X8_traceStep w_X8_needPlace w_X8_needPlace_J15
  generalize f (i + 1) = p
  rcases Inv_ab hI with ⟨a, b⟩ | ⟨P, md, X, h⟩
  · exact s8_needSearch (fun z => absurd a z) (fun _ => Or.inl ⟨rfl, s9_isFault_off b ⟨fun w => absurd rfl w, fun _ => gF.mk rfl rfl (fun z => by omega) (Inv_kp hI (kp.rf.up rfl))⟩⟩)
  · refine s8_needFault h (fun hf => ?_) (fun hf => Or.inr (Or.inl ⟨rfl, s9_isFault h (fun w => absurd hf w) (fun _ => ⟨fun w => absurd rfl w, fun _ => gF.mk rfl rfl (fun z => by omega) (Inv_kp hI ((kp.rf.up rfl).up rfl))⟩)⟩))
    have n := tl_.b h.2.2.2.2.1 hf
    have e := (h.2.2.2.2.2.2.1.1.2.2.2.1 hf).2.1
    have bad : ¬ (0 ≤ p ∧ p < tl_ X) → w_X9_traceStep p S (gF 3 S) := fun hp => by
      have o2 := on_kp' h (S' := xup S 54 0 0) (kp.rf.up rfl)
      exact s9_isFault h (fun _ => ⟨fun _ => s9_length o2.2.2.2.2.1 o2.2.2.2.2.2.2.2.1.1 hf ⟨⟨by omega, by omega⟩, s9_in (fun a b => absurd ⟨a, by omega⟩ hp) (fun _ => ⟨fun _ => gF.mk rfl rfl (fun z => by omega) (Inv_of (on_kp' o2 (kp.rf.up rfl))), fun w => absurd rfl w⟩)⟩, fun w => by omega⟩) (fun w => absurd w hf)
    refine ⟨fun z => Or.inr (Or.inr ⟨rfl, bad (by omega)⟩), fun z => ⟨fun z2 => ?_, fun z2 => Or.inr (Or.inr ⟨rfl, bad (by omega)⟩)⟩⟩
    rw [e] at z2
    have et := (h.2.2.2.2.2.2.1.1.2.2.2.1 hf).2.2 p (by omega) z2
    obtain ⟨s, hs, hm⟩ := tr_.ok h.2.2.2.2.1 hf (by omega) z2
    have m0 := ((mvs_mem h.2.1 hm).n h.2.1 rfl).2.1
    rw [et]
    refine ⟨by omega, by omega, rfl, ?_⟩
    have o1 := on_kp' h (S' := xup S 98 0 (tr_ X p / 64 % 14)) (kp.rf.up rfl)
    have o2 := on_kp' o1 (S' := xup (xup S 98 0 (tr_ X p / 64 % 14)) 54 0 0) (kp.rf.up rfl)
    refine s9_isFault o1 (fun _ => ⟨fun _ => s9_length o2.2.2.2.2.1 o2.2.2.2.2.2.2.2.1.1 hf ⟨⟨by omega, by omega⟩, s9_in (fun _ _ => ⟨fun w => by omega, fun _ => s9_traced o2.2.2.2.2.1 o2.2.2.2.2.2.2.2.1.1 hf ⟨by omega, z2⟩ ⟨?_, gF.mk rfl rfl (fun _ => ?_) (Inv_of o2)⟩⟩) (fun w => absurd ⟨by omega, by omega⟩ w)⟩, fun w => by omega⟩) (fun w => absurd w hf)
    · unfold w16; omega
    · show tr_ X p / 64 % 14 = w16 (tr_ X p) % 16
      unfold w16; omega
end PWKF

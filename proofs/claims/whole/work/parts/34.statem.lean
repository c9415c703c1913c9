/-! pure layer: rows and codes -/
section PWS
variable {S σ : xS} {c p : Int}
theorem s7_shareOf_n {Q : Int → xS → Prop} (hH : sv_H 41 σ S) (hV : sv_V σ) (hp : 0 ≤ p ∧ p < 3) (k : Q (sv_sh σ p) S) : w_X7_shareOf_n p S Q := by
  have h1 := hH.1 p hp.1 hp.2
  have h2 := hH.2.1 (3 + 2 * p) (by omega) (by omega)
  have h3 := hH.2.1 (4 + 2 * p) (by omega) (by omega)
  have hb := sv_sh.b hV hp
  have e : ((S 41 p * 4 + S 42 (3 + 2 * p)) * 4 + S 42 (3 + 2 * p + 1)) = sv_sh σ p := by
    unfold sv_sh
    rw [show 3 + 2 * p + 1 = 4 + 2 * p by omega, h1]
    rw [show S 42 (3 + 2 * p) = σ 1 (3 + 2 * p) from h2, show S 42 (4 + 2 * p) = σ 1 (4 + 2 * p) from h3]
  unfold w_X7_shareOf_n
  rw [e]
  exact ⟨hp, ⟨by omega, by omega⟩, ⟨by omega, by omega⟩, ⟨by omega, by omega⟩, k⟩
theorem s7_pack_n {Q : Int → xS → Prop} (hH : sv_H 41 σ S) (hV : sv_V σ) (k : Q (sv_enc σ) S) : w_X7_pack_n S Q := by
  have s0 := sv_sh.b hV (p := 0) (by omega)
  have s1 := sv_sh.b hV (p := 1) (by omega)
  have s2 := sv_sh.b hV (p := 2) (by omega)
  have a0 := hV.2.1 0 (by omega) (by omega)
  have a1 := hV.2.1 1 (by omega) (by omega)
  have a2 := hV.2.1 2 (by omega) (by omega)
  have b0 := hV.2.2.1 0 (by omega) (by omega)
  have b1 := hV.2.2.1 1 (by omega) (by omega)
  have c0 := hV.2.2.2 0 (by omega) (by omega)
  have c1 := hV.2.2.2 1 (by omega) (by omega)
  have c2 := hV.2.2.2 2 (by omega) (by omega)
  have c3 := hV.2.2.2 3 (by omega) (by omega)
  have e0 : S 42 0 = σ 1 0 := hH.2.1 0 (by omega) (by omega)
  have e1 : S 42 (0 + 1) = σ 1 1 := hH.2.1 1 (by omega) (by omega)
  have e2 : S 42 (0 + 1 + 1) = σ 1 2 := hH.2.1 2 (by omega) (by omega)
  have f0 : S 43 0 = σ 2 0 ∧ S 44 0 = σ 3 0 ∧ S 45 0 = σ 3 1 := hH.2.2 0 (by omega) (by omega)
  have f1 : S 43 (0 + 1) = σ 2 1 ∧ S 44 (0 + 1) = σ 3 2 ∧ S 45 (0 + 1) = σ 3 3 := hH.2.2 1 (by omega) (by omega)
  have g0 : sv_sh σ (0 + 1) = sv_sh σ 1 := rfl
  have g1 : sv_sh σ (0 + 1 + 1) = sv_sh σ 2 := rfl
  refine ⟨4, fun z => by omega, fun _ => s7_shareOf_n hH hV (by omega) ⟨⟨by omega, by omega⟩, ⟨by omega, by omega⟩, fun z => by omega, fun _ => s7_shareOf_n hH hV (by omega) ⟨⟨by omega, by omega⟩, ⟨by omega, by omega⟩, fun z => by omega, fun _ => s7_shareOf_n hH hV (by omega) ⟨⟨by omega, by omega⟩, ⟨by omega, by omega⟩, fun _ => ?_, fun z => by omega⟩⟩⟩⟩
  rw [g0, g1]
  refine ⟨4, ?_⟩
  simp only [xLn2, w_X7_pack_n_L30]
  rw [e0, e1, e2]
  refine ⟨fun z => by omega, fun _ => ⟨by omega, ⟨by omega, by omega⟩, ⟨by omega, by omega⟩, fun z => by omega, fun _ => ⟨by omega, ⟨by omega, by omega⟩, ⟨by omega, by omega⟩, fun z => by omega, fun _ => ⟨by omega, ⟨by omega, by omega⟩, ⟨by omega, by omega⟩, fun _ => ?_, fun z => by omega⟩⟩⟩⟩
  refine ⟨3, ?_⟩
  simp only [xLn2, w_X7_pack_n_L57]
  rw [f0.1, f0.2.1, f0.2.2, f1.1, f1.2.1, f1.2.2]
  refine ⟨fun z => by omega, fun _ => ⟨by omega, ⟨by omega, by omega⟩, ⟨by omega, by omega⟩, fun z => by omega, fun _ => ⟨by omega, ⟨by omega, by omega⟩, ⟨by omega, by omega⟩, fun _ => ?_, fun z => by omega⟩⟩⟩
  have e : sv_enc σ = ((((((((((((0 * 192 + sv_sh σ 0) * 192 + sv_sh σ 1) * 192 + sv_sh σ 2) * 4 + σ 1 0) * 4 + σ 1 1) * 4 + σ 1 2) * 3 + σ 2 0) * 4 + σ 3 0) * 4 + σ 3 1) * 3 + σ 2 1) * 4 + σ 3 2) * 4 + σ 3 3) := by
    unfold sv_enc sv_low sv_top
    omega
  rw [← e]
  exact k
theorem s9_codes {Q : Int → xS → Prop} (hH : sv_N 79 σ S) (hV : sv_V σ) (k : Q (sv_enc σ) S) : w_X9_codes S Q := by
  have s0 := sv_sh.b hV (p := 0) (by omega)
  have s1 := sv_sh.b hV (p := 1) (by omega)
  have s2 := sv_sh.b hV (p := 2) (by omega)
  have a0 := hV.2.1 0 (by omega) (by omega)
  have a1 := hV.2.1 1 (by omega) (by omega)
  have a2 := hV.2.1 2 (by omega) (by omega)
  have b0 := hV.2.2.1 0 (by omega) (by omega)
  have b1 := hV.2.2.1 1 (by omega) (by omega)
  have c0 := hV.2.2.2 0 (by omega) (by omega)
  have c1 := hV.2.2.2 1 (by omega) (by omega)
  have c2 := hV.2.2.2 2 (by omega) (by omega)
  have c3 := hV.2.2.2 3 (by omega) (by omega)
  have p0 : S 79 0 = σ 0 0 := hH.1 0 (by omega) (by omega)
  have p1 : S 79 (0 + 1) = σ 0 1 := hH.1 1 (by omega) (by omega)
  have p2 : S 79 (0 + 1 + 1) = σ 0 2 := hH.1 2 (by omega) (by omega)
  have e0 : S 80 0 = σ 1 0 := hH.2.1 0 (by omega) (by omega)
  have e1 : S 80 (0 + 1) = σ 1 1 := hH.2.1 1 (by omega) (by omega)
  have e2 : S 80 (0 + 1 + 1) = σ 1 2 := hH.2.1 2 (by omega) (by omega)
  have e3 : S 80 (3 + 2 * 0) = σ 1 3 := hH.2.1 3 (by omega) (by omega)
  have e4 : S 80 (4 + 2 * 0) = σ 1 4 := hH.2.1 4 (by omega) (by omega)
  have e5 : S 80 (3 + 2 * (0 + 1)) = σ 1 5 := hH.2.1 5 (by omega) (by omega)
  have e6 : S 80 (4 + 2 * (0 + 1)) = σ 1 6 := hH.2.1 6 (by omega) (by omega)
  have e7 : S 80 (3 + 2 * (0 + 1 + 1)) = σ 1 7 := hH.2.1 7 (by omega) (by omega)
  have e8 : S 80 (4 + 2 * (0 + 1 + 1)) = σ 1 8 := hH.2.1 8 (by omega) (by omega)
  have f0 : S 81 0 = σ 2 0 := hH.2.2.1 0 (by omega) (by omega)
  have f1 : S 81 (0 + 1) = σ 2 1 := hH.2.2.1 1 (by omega) (by omega)
  have d0 : S 82 (2 * 0) = σ 3 0 := hH.2.2.2 0 (by omega) (by omega)
  have d1 : S 82 (2 * 0 + 1) = σ 3 1 := hH.2.2.2 1 (by omega) (by omega)
  have d2 : S 82 (2 * (0 + 1)) = σ 3 2 := hH.2.2.2 2 (by omega) (by omega)
  have d3 : S 82 (2 * (0 + 1) + 1) = σ 3 3 := hH.2.2.2 3 (by omega) (by omega)
  have u0 : sv_sh σ 0 = (σ 0 0 * 4 + σ 1 3) * 4 + σ 1 4 := rfl
  have u1 : sv_sh σ 1 = (σ 0 1 * 4 + σ 1 5) * 4 + σ 1 6 := rfl
  have u2 : sv_sh σ 2 = (σ 0 2 * 4 + σ 1 7) * 4 + σ 1 8 := rfl
  refine ⟨4, ?_⟩
  simp only [xLn2, w_X9_codes_L4]
  rw [p0, p1, p2, e3, e4, e5, e6, e7, e8]
  refine ⟨fun z => by omega, fun _ => ⟨by omega, ⟨by omega, by omega⟩, ⟨by omega, by omega⟩, ⟨by omega, by omega⟩, ⟨by omega, by omega⟩, fun z => by omega, fun _ => ⟨by omega, ⟨by omega, by omega⟩, ⟨by omega, by omega⟩, ⟨by omega, by omega⟩, ⟨by omega, by omega⟩, fun z => by omega, fun _ => ⟨by omega, ⟨by omega, by omega⟩, ⟨by omega, by omega⟩, ⟨by omega, by omega⟩, ⟨by omega, by omega⟩, fun _ => ?_, fun z => by omega⟩⟩⟩⟩
  have g : (((((((((0 * 12 + σ 0 0) * 4 + σ 1 3) * 4 + σ 1 4) * 12 + σ 0 1) * 4 + σ 1 5) * 4 + σ 1 6) * 12 + σ 0 2) * 4 + σ 1 7) * 4 + σ 1 8) = sv_top σ := by
    unfold sv_top
    omega
  rw [g]
  have gb : 0 ≤ sv_top σ ∧ sv_top σ < 7077888 := by unfold sv_top; omega
  refine ⟨4, ?_⟩
  simp only [xLn2, w_X9_codes_L63]
  rw [e0, e1, e2]
  refine ⟨fun z => by omega, fun _ => ⟨by omega, ⟨by omega, by omega⟩, ⟨by omega, by omega⟩, fun z => by omega, fun _ => ⟨by omega, ⟨by omega, by omega⟩, ⟨by omega, by omega⟩, fun z => by omega, fun _ => ⟨by omega, ⟨by omega, by omega⟩, ⟨by omega, by omega⟩, fun _ => ?_, fun z => by omega⟩⟩⟩⟩
  refine ⟨3, ?_⟩
  simp only [xLn2, w_X9_codes_L90]
  rw [f0, f1, d0, d1, d2, d3]
  refine ⟨fun z => by omega, fun _ => ⟨by omega, by omega, by omega, ⟨by omega, by omega⟩, ⟨by omega, by omega⟩, fun z => by omega, fun _ => ⟨by omega, by omega, by omega, ⟨by omega, by omega⟩, ⟨by omega, by omega⟩, fun _ => ?_, fun z => by omega⟩⟩⟩
  exact k
/-- the cells of a state of the class that is unpacked -/
abbrev sv_Lh : List (Nat × Int) := [(36, -9), (37, -9), (38, -9), (39, -9), (40, -9)]
abbrev sv_Ln : List (Nat × Int) := [(41, -9), (42, -9), (43, -9), (44, -9), (45, -9)]
abbrev sv_L9h : List (Nat × Int) := [(75, -9), (76, -9), (77, -9), (78, -9)]
abbrev sv_L9n : List (Nat × Int) := [(79, -9), (80, -9), (81, -9), (82, -9)]
theorem s7_unpack_h {Q : xS → Prop} (hc : 0 ≤ c) (k : ∀ S' : xS, kp sv_Lh S S' → sv_H 36 (sv_dec c) S' → Q S') : w_X7_unpack_h c S Q := by
  refine ⟨3, ?_⟩
  simp only [xLn2, w_X7_unpack_h_L5]
  refine ⟨fun z => by omega, fun _ => ⟨by omega, ⟨by omega, by omega⟩, by omega, ⟨by omega, by omega⟩, ⟨by omega, by omega⟩, ⟨by omega, by omega⟩, fun z => by omega, fun _ => ⟨by omega, ⟨by omega, by omega⟩, by omega, ⟨by omega, by omega⟩, ⟨by omega, by omega⟩, ⟨by omega, by omega⟩, fun _ => ?_, fun z => by omega⟩⟩⟩
  refine ⟨4, ?_⟩
  simp only [xLn2, w_X7_unpack_h_L76]
  refine ⟨fun z => by omega, fun _ => ⟨by omega, ⟨by omega, by omega⟩, by omega, ⟨by omega, by omega⟩, fun z => by omega, fun _ => ⟨by omega, ⟨by omega, by omega⟩, by omega, ⟨by omega, by omega⟩, fun z => by omega, fun _ => ⟨by omega, ⟨by omega, by omega⟩, by omega, ⟨by omega, by omega⟩, fun _ => ?_, fun z => by omega⟩⟩⟩⟩
  refine ⟨4, ?_⟩
  simp only [xLn2, w_X7_unpack_h_L109]
  refine ⟨fun z => by omega, fun _ => ⟨by omega, by omega, ⟨by omega, by omega⟩, by omega, ⟨by omega, by omega⟩, by omega, ⟨by omega, by omega⟩, ⟨by omega, by omega⟩, fun z => by omega, fun _ => ⟨by omega, by omega, ⟨by omega, by omega⟩, by omega, ⟨by omega, by omega⟩, by omega, ⟨by omega, by omega⟩, ⟨by omega, by omega⟩, fun z => by omega, fun _ => ⟨by omega, by omega, ⟨by omega, by omega⟩, by omega, ⟨by omega, by omega⟩, by omega, ⟨by omega, by omega⟩, ⟨by omega, by omega⟩, fun _ => ?_, fun z => by omega⟩⟩⟩⟩
  refine k _ ?_ ?_
  · exact (((((((((((((((((kp.rf.up rfl).up rfl).up rfl).up rfl).up rfl).up rfl).up rfl).up rfl).up rfl).up rfl).up rfl).up rfl).up rfl).up rfl).up rfl).up rfl).up rfl).up rfl
  · refine ⟨fun p h0 h1 => ?_, fun v h0 h1 => ?_, fun k h0 h1 => ?_⟩
    · rcases sv_i3 h0 h1 with h | h | h <;> subst h <;> simp [xup_at, sv_dec] <;> omega
    · rcases sv_i9 h0 h1 with h | h | h | h | h | h | h | h | h <;> subst h <;> simp [xup_at, sv_dec] <;> omega
    · rcases sv_i2 h0 h1 with h | h <;> subst h <;> simp [xup_at, sv_dec] <;> omega
theorem s9_opens {Q : xS → Prop} (hc : 0 ≤ c) (k : ∀ S' : xS, kp sv_L9h S S' → sv_N 75 (sv_dec c) S' → Q S') : w_X9_opens c S Q := by
  refine ⟨3, ?_⟩
  simp only [xLn2, w_X9_opens_L5]
  refine ⟨fun z => by omega, fun _ => ⟨by omega, ⟨by omega, by omega⟩, by omega, ⟨by omega, by omega⟩, by omega, ⟨by omega, by omega⟩, by omega, ⟨by omega, by omega⟩, fun z => by omega, fun _ => ⟨by omega, ⟨by omega, by omega⟩, by omega, ⟨by omega, by omega⟩, by omega, ⟨by omega, by omega⟩, by omega, ⟨by omega, by omega⟩, fun _ => ?_, fun z => by omega⟩⟩⟩
  refine ⟨4, ?_⟩
  simp only [xLn2, w_X9_opens_L78]
  refine ⟨fun z => by omega, fun _ => ⟨by omega, ⟨by omega, by omega⟩, by omega, ⟨by omega, by omega⟩, fun z => by omega, fun _ => ⟨by omega, ⟨by omega, by omega⟩, by omega, ⟨by omega, by omega⟩, fun z => by omega, fun _ => ⟨by omega, ⟨by omega, by omega⟩, by omega, ⟨by omega, by omega⟩, fun _ => ?_, fun z => by omega⟩⟩⟩⟩
  refine ⟨4, ?_⟩
  simp only [xLn2, w_X9_opens_L111]
  refine ⟨fun z => by omega, fun _ => ⟨by omega, ⟨by omega, by omega⟩, by omega, ⟨by omega, by omega⟩, by omega, ⟨by omega, by omega⟩, by omega, ⟨by omega, by omega⟩, fun z => by omega, fun _ => ⟨by omega, ⟨by omega, by omega⟩, by omega, ⟨by omega, by omega⟩, by omega, ⟨by omega, by omega⟩, by omega, ⟨by omega, by omega⟩, fun z => by omega, fun _ => ⟨by omega, ⟨by omega, by omega⟩, by omega, ⟨by omega, by omega⟩, by omega, ⟨by omega, by omega⟩, by omega, ⟨by omega, by omega⟩, fun _ => ?_, fun z => by omega⟩⟩⟩⟩
  refine k _ ?_ ?_
  · exact (((((((((((((((((kp.rf.up rfl).up rfl).up rfl).up rfl).up rfl).up rfl).up rfl).up rfl).up rfl).up rfl).up rfl).up rfl).up rfl).up rfl).up rfl).up rfl).up rfl).up rfl
  · refine ⟨fun p h0 h1 => ?_, fun v h0 h1 => ?_, fun k h0 h1 => ?_, fun k h0 h1 => ?_⟩
    · rcases sv_i3 h0 h1 with h | h | h <;> subst h <;> simp [xup_at, sv_dec] <;> omega
    · rcases sv_i9 h0 h1 with h | h | h | h | h | h | h | h | h <;> subst h <;> simp [xup_at, sv_dec] <;> omega
    · rcases sv_i2 h0 h1 with h | h <;> subst h <;> simp [xup_at, sv_dec] <;> omega
    · rcases sv_i4 h0 h1 with h | h | h | h <;> subst h <;> simp [xup_at, sv_dec] <;> omega
theorem s7_copy_nh {Q : xS → Prop} (hH : sv_H 36 σ S) (k : ∀ S' : xS, kp sv_Ln S S' → sv_H 41 σ S' → Q S') : w_X7_copyFrom_nh S Q := by
  refine k _ ?_ ?_
  · exact ((((kp.rf.copy (fun _ => rfl)).copy (fun _ => rfl)).copy (fun _ => rfl)).copy (fun _ => rfl)).copy (fun _ => rfl)
  · obtain ⟨h1, h2, h3⟩ := hH
    refine ⟨fun p a b => ?_, fun v a b => ?_, fun k a b => ?_⟩
    · have h := h1 p a b
      simp [xcopy_at, a, b]; exact h
    · have h := h2 v a b
      simp [xcopy_at, a, b]; exact h
    · have h := h3 k a b
      simp [xcopy_at, a, b]; exact h
theorem s7_copy_hn {Q : xS → Prop} (hH : sv_H 41 σ S) (k : ∀ S' : xS, kp sv_Lh S S' → sv_H 36 σ S' → Q S') : w_X7_copyFrom_hn S Q := by
  refine k _ ?_ ?_
  · exact ((((kp.rf.copy (fun _ => rfl)).copy (fun _ => rfl)).copy (fun _ => rfl)).copy (fun _ => rfl)).copy (fun _ => rfl)
  · obtain ⟨h1, h2, h3⟩ := hH
    refine ⟨fun p a b => ?_, fun v a b => ?_, fun k a b => ?_⟩
    · have h := h1 p a b
      simp [xcopy_at, a, b]; exact h
    · have h := h2 v a b
      simp [xcopy_at, a, b]; exact h
    · have h := h3 k a b
      simp [xcopy_at, a, b]; exact h
theorem s9_copies {Q : xS → Prop} (hH : sv_N 75 σ S) (k : ∀ S' : xS, kp sv_L9n S S' → sv_N 79 σ S' → Q S') : w_X9_copies S Q := by
  refine ⟨4, ?_⟩
  simp only [xLn1, w_X9_copies_L2]
  refine ⟨fun z => by omega, fun _ => ⟨by omega, ⟨by omega, by omega⟩, fun z => by omega, fun _ => ⟨by omega, ⟨by omega, by omega⟩, fun z => by omega, fun _ => ⟨by omega, ⟨by omega, by omega⟩, fun _ => ?_, fun z => by omega⟩⟩⟩⟩
  refine ⟨10, ?_⟩
  simp only [xLn1, w_X9_copies_L27]
  refine ⟨fun z => by omega, fun _ => ⟨by omega, ⟨by omega, by omega⟩, fun z => by omega, fun _ => ⟨by omega, ⟨by omega, by omega⟩, fun z => by omega, fun _ => ⟨by omega, ⟨by omega, by omega⟩, fun z => by omega, fun _ => ⟨by omega, ⟨by omega, by omega⟩, fun z => by omega, fun _ => ⟨by omega, ⟨by omega, by omega⟩, fun z => by omega, fun _ => ⟨by omega, ⟨by omega, by omega⟩, fun z => by omega, fun _ => ⟨by omega, ⟨by omega, by omega⟩, fun z => by omega, fun _ => ⟨by omega, ⟨by omega, by omega⟩, fun z => by omega, fun _ => ⟨by omega, ⟨by omega, by omega⟩, fun _ => ?_, fun z => by omega⟩⟩⟩⟩⟩⟩⟩⟩⟩⟩
  refine ⟨3, ?_⟩
  simp only [xLn1, w_X9_copies_L53]
  refine ⟨fun z => by omega, fun _ => ⟨by omega, ⟨by omega, by omega⟩, fun z => by omega, fun _ => ⟨by omega, ⟨by omega, by omega⟩, fun _ => ?_, fun z => by omega⟩⟩⟩
  refine ⟨5, ?_⟩
  simp only [xLn1, w_X9_copies_L78]
  refine ⟨fun z => by omega, fun _ => ⟨by omega, ⟨by omega, by omega⟩, fun z => by omega, fun _ => ⟨by omega, ⟨by omega, by omega⟩, fun z => by omega, fun _ => ⟨by omega, ⟨by omega, by omega⟩, fun z => by omega, fun _ => ⟨by omega, ⟨by omega, by omega⟩, fun _ => ?_, fun z => by omega⟩⟩⟩⟩⟩
  refine k _ ?_ ?_
  · exact (((((((((((((((((kp.rf.up rfl).up rfl).up rfl).up rfl).up rfl).up rfl).up rfl).up rfl).up rfl).up rfl).up rfl).up rfl).up rfl).up rfl).up rfl).up rfl).up rfl).up rfl
  · obtain ⟨g1, g2, g3, g4⟩ := hH
    refine ⟨fun p h0 h1 => ?_, fun v h0 h1 => ?_, fun k h0 h1 => ?_, fun k h0 h1 => ?_⟩
    · have g := g1 p h0 h1
      rcases sv_i3 h0 h1 with h | h | h <;> subst h <;> simp [xup_at] <;> exact g
    · have g := g2 v h0 h1
      rcases sv_i9 h0 h1 with h | h | h | h | h | h | h | h | h <;> subst h <;> simp [xup_at] <;> exact g
    · have g := g3 k h0 h1
      rcases sv_i2 h0 h1 with h | h <;> subst h <;> simp [xup_at] <;> exact g
    · have g := g4 k h0 h1
      rcases sv_i4 h0 h1 with h | h | h | h <;> subst h <;> simp [xup_at] <;> exact g
/-- the state in which a search begins -/
def sv_0 (P : xS) : xS := fun k i => if k = 1 then P 62 i else 0
theorem sv_V.st {P : xS} (hW : pw_WF P) : sv_V (sv_0 P) := ⟨fun p a b => by simp [sv_0], fun v a b => hW.2.2.2.2.2.2.1 v a b, fun p a b => by simp [sv_0], fun p a b => by simp [sv_0]⟩
theorem s7_start_n {P : xS} {Q : xS → Prop} (hC : pw_C P S) (k : ∀ S' : xS, kp sv_Ln S S' → sv_H 41 (sv_0 P) S' → Q S') : w_X7_goToStart_n S Q := by
  refine k _ ?_ ?_
  · exact ((((kp.rf.fill (fun _ => rfl)).copy (fun _ => rfl)).fill (fun _ => rfl)).fill (fun _ => rfl)).fill (fun _ => rfl)
  · refine ⟨fun p a b => ?_, fun v a b => ?_, fun k a b => ?_⟩
    · simp [xcopy_at, xfill_at, a, b, sv_0]
    · have h := hC.2.2.2.2.2.2.1 v a b
      simp [xcopy_at, xfill_at, a, b, sv_0]; exact h
    · simp [xcopy_at, xfill_at, a, b, sv_0]
theorem s7_start_h {P : xS} {Q : xS → Prop} (hC : pw_C P S) (k : ∀ S' : xS, kp sv_Lh S S' → sv_H 36 (sv_0 P) S' → Q S') : w_X7_goToStart_h S Q := by
  refine k _ ?_ ?_
  · exact ((((kp.rf.fill (fun _ => rfl)).copy (fun _ => rfl)).fill (fun _ => rfl)).fill (fun _ => rfl)).fill (fun _ => rfl)
  · refine ⟨fun p a b => ?_, fun v a b => ?_, fun k a b => ?_⟩
    · simp [xcopy_at, xfill_at, a, b, sv_0]
    · have h := hC.2.2.2.2.2.2.1 v a b
      simp [xcopy_at, xfill_at, a, b, sv_0]; exact h
    · simp [xcopy_at, xfill_at, a, b, sv_0]
end PWS

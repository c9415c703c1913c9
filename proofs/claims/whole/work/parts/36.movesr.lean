/-! pure layer: the moves of a state, as the reference lists them -/
def mv_R1 (S : xS) (i : Nat) (m : Int) : Prop := S 83 i = m / 64 / 14 ∧ S 84 i = m / 64 % 14 ∧ ((m % 64 = 0 ∧ S 85 i = -1 ∧ S 86 i = -1) ∨ (m % 64 ≠ 0 ∧ S 85 i = (m % 64 - 1) / 14 ∧ S 86 i = (m % 64 - 1) % 14))
def mv_LR (l : List Int) (S : xS) : Prop := S 54 10 = (l.length : Int) ∧ ∀ (i : Nat) (m : Int), l[i]? = some m → mv_R1 S i m
abbrev mv_M : List (Nat × Int) := [(54, 10), (83, -9), (84, -9), (85, -9), (86, -9)]
theorem mv_LR.kp {l : List Int} {S S' : xS} {L : List (Nat × Int)} (h : mv_LR l S) (hk : kp L S S') (h0 : hit L 54 10 = false) (h1 : ∀ i, hit L 83 i = false) (h2 : ∀ i, hit L 84 i = false) (h3 : ∀ i, hit L 85 i = false) (h4 : ∀ i, hit L 86 i = false) : mv_LR l S' := by
  unfold mv_LR mv_R1
  rw [hk 54 10 h0, hk.cell 83 h1, hk.cell 84 h2, hk.cell 85 h3, hk.cell 86 h4]
  exact h
section PWR
variable {P S σ : xS} {x y p q : Int} {l : List Int}
theorem s9_adds {Q : xS → Prop} {a b c d m : Int} (hl : mv_LR l S) (hn : l.length < 450) (ha : a = m / 64 / 14) (hb : b = m / 64 % 14) (hcd : (m % 64 = 0 ∧ c = -1 ∧ d = -1) ∨ (m % 64 ≠ 0 ∧ c = (m % 64 - 1) / 14 ∧ d = (m % 64 - 1) % 14)) (k : ∀ S' : xS, kp mv_M S S' → mv_LR (l ++ [m]) S' → Q S') : w_X9_adds a b c d S Q := by
  obtain ⟨h1, h2⟩ := hl
  refine ⟨⟨by omega, by omega⟩, ⟨by omega, by omega⟩, k _ (((((kp.rf.up rfl).up rfl).up rfl).up rfl).up rfl) ⟨?_, fun i m' h => ?_⟩⟩
  · rw [xup_same, List.length_append]
    show S 54 10 + 1 = _
    rw [h1]
    simp
  · rw [List.getElem?_append] at h
    split at h
    · rename_i hi
      have h' := h2 i m' h
      unfold mv_R1 at *
      simp [xup_at, h1, show ¬ ((i : Int) = (l.length : Int)) by omega]
      exact h'
    · rename_i hi
      have hi2 : i - l.length = 0 := by
        have hh := (List.getElem?_eq_some_iff.mp h).1
        simp at hh
        omega
      rw [hi2] at h
      have e : m = m' := by simpa using h
      have e2 : (i : Int) = (l.length : Int) := by omega
      subst e
      unfold mv_R1
      simp [xup_at, h1, e2]
      exact ⟨ha, hb, hcd⟩
theorem s9_isHere {Q : Int → xS → Prop} {n m : Nat} (hR : pw_R P S) (hH : sv_N 75 σ S) (hp : n < 3) (hm : m < 14) (h1 : P 56 (14 * n + m) = σ 0 n → Q 1 S) (h0 : ¬ P 56 (14 * n + m) = σ 0 n → Q 0 S) : w_X9_isHere n m S Q := by
  obtain ⟨e1, e2, e3, e4, e5, e6, e7, e8, e9, e10, e11, e12, e13, e14, e15⟩ := hR
  have e := hH.1 n (by omega) (by omega)
  unfold w_X9_isHere
  rw [e5, show S 75 n = σ 0 n from e]
  exact ⟨⟨by omega, by omega⟩, ⟨by omega, by omega⟩, h0, h1⟩
theorem s9_isFree {Q : Int → xS → Prop} (hW : pw_WF P) (hR : pw_R P S) (hH : sv_N 75 σ S) (hx : pw_v P x) (h1 : mv_fr P σ x = true → Q 1 S) (h0 : mv_fr P σ x = false → Q 0 S) : w_X9_isFree x S Q := by
  obtain ⟨b1, b2, b3, b4, b5, b6, b7⟩ := hx.b hW
  obtain ⟨e1, e2, e3, e4, e5, e6, e7, e8, e9, e10, e11, e12, e13, e14, e15⟩ := hR
  unfold mv_fr at h1 h0
  unfold w_X9_isFree
  rw [e7, e8, e9, e10]
  refine ⟨b1, fun z1 => ⟨fun z2 => ⟨fun z3 => ⟨fun z4 => h1 (by simp [z1, z2, z3, z4]), fun z4 => ?_⟩, fun z3 => ?_⟩, fun z2 => ?_⟩, fun z1 => ?_⟩
  · have b8 := b6 (by omega)
    have e := hH.2.2.1 (P 59 x) (by omega) (by omega)
    rw [show S 77 (P 59 x) = σ 2 (P 59 x) from e]
    exact ⟨by omega, fun y => h0 (by simp [z4]; omega), fun y => h1 (by simp [z4]; omega)⟩
  · have b8 := b6 (by omega)
    have e := hH.2.2.1 (P 59 x) (by omega) (by omega)
    rw [show S 77 (P 59 x) = σ 2 (P 59 x) from e]
    exact ⟨by omega, fun y => h0 (by simp [z3]; omega), fun y => h1 (by simp [z3]; omega)⟩
  · have b8 := b5 (by omega)
    have e := hH.2.1 (P 59 x) (by omega) (by omega)
    rw [show S 76 (P 59 x) = σ 1 (P 59 x) from e]
    exact ⟨by omega, fun y => h0 (by simp [z2, y]), fun y => h1 (by simp [z2, y])⟩
  · have b8 := b5 (by omega)
    have e := hH.2.1 (P 59 x) (by omega) (by omega)
    rw [show S 76 (P 59 x) = σ 1 (P 59 x) from e]
    exact ⟨by omega, fun y => h0 (by simp [z1, y]), fun y => h1 (by simp [z1, y])⟩
theorem s9_pairs {Q : xS → Prop} {n m : Nat} (hW : pw_WF P) (hR : pw_R P S) (hH : sv_N 75 σ S) (hp : n < 3) (hs : (m : Int) < P 55 n) (hl : mv_LR l S) (hn : l.length + (mv_pr P σ (14 * n + m)).length ≤ 449) (k : ∀ S' : xS, kp mv_M S S' → mv_LR (l ++ mv_pr P σ (14 * n + m)) S' → Q S') : w_X9_pairs n m S Q := by
  have w0 := hW.1
  have ws := hW.2.2.2.1 n (by omega) (by omega)
  have e59 : S 59 = P 59 := hR.2.2.2.2.2.2.2.1
  refine ⟨⟨by omega, by omega⟩, ?_⟩
  refine xL1_up (P 54 1) (fun v S' => ∃ j : Nat, v = (j : Int) ∧ kp mv_M S S' ∧ mv_LR (l ++ (List.range j).flatMap (mv_p1 P σ (14 * n + m))) S') ?_ 0 S (by omega) ⟨0, rfl, kp.rf, by simpa using hl⟩
  rintro v S' ⟨j, rfl, hk1, hl1⟩ hvn k2 hk2
  have hR1 := hR.kp hk1 rfl
  unfold w_X9_pairs_L15
  rw [hR1.1]
  refine ⟨fun z => ?_, fun z => ⟨fun z1 => ?_, fun z1 => ⟨⟨by omega, by omega⟩, hk2 S' (by omega) ⟨j + 1, by omega, hk1, ?_⟩⟩⟩⟩
  · have hnn : j = (P 54 1).toNat := by omega
    rw [hnn] at hl1
    exact k S' hk1 hl1
  · have wq := hW.2.2.2.1 j (by omega) (by omega)
    have hne : ¬ (j : Int) = (14 * (n : Int) + m) / 14 := by omega
    refine xL1_up (P 55 j) (fun u S'' => ∃ r : Nat, u = (r : Int) ∧ kp mv_M S S'' ∧ mv_LR (l ++ (List.range j).flatMap (mv_p1 P σ (14 * n + m)) ++ (List.range r).flatMap (mv_p2 P σ (14 * n + m) j)) S'') ?_ 0 S' (by omega) ⟨0, rfl, hk1, by simpa using hl1⟩
    rintro u S'' ⟨r, rfl, hk3, hl3⟩ hum k4 hk4
    have hR3 := hR.kp hk3 rfl
    have hH3 := hH.kp hk3 (fun _ => rfl) (fun _ => rfl) (fun _ => rfl) (fun _ => rfl)
    unfold w_X9_pairs_L36
    rw [hR3.2.2.2.1]
    refine ⟨⟨by omega, by omega⟩, fun z => ⟨⟨by omega, by omega⟩, hk2 S'' (by omega) ⟨j + 1, by omega, hk3, ?_⟩⟩, fun z => ?_⟩
    · have hmm : r = (P 55 j).toNat := by omega
      rw [hmm] at hl3
      rw [fm_succ, ← List.append_assoc]
      unfold mv_p1 mv_pi
      rw [if_neg hne]
      exact hl3
    · have skip : ¬ (P 56 (14 * j + r) = σ 0 j ∧ P 58 (14 * j + r) = 114 ∧ P 59 (14 * j + r) = P 59 (14 * n + m)) → (-2147483648 ≤ (r : Int) + 1 ∧ (r : Int) + 1 < 2147483648) ∧ k4 (r + 1) S'' := fun e => ⟨⟨by omega, by omega⟩, hk4 S'' (by omega) ⟨r + 1, by omega, hk3, by
        rw [fm_succ]
        have : mv_p2 P σ (14 * n + m) j r = [] := by unfold mv_p2; rw [if_neg e]
        rw [this, List.append_nil]; exact hl3⟩⟩
      refine s9_isHere hR3 hH3 (by omega) (by omega) (fun z2 => ⟨fun y => by omega, fun _ => ⟨⟨by omega, by omega⟩, ?_⟩⟩) (fun z2 => ⟨fun _ => skip (fun w => z2 w.1), fun y => absurd rfl y⟩)
      rw [hR3.2.2.2.2.2.2.1, hR3.2.2.2.2.2.2.2.1, e59]
      refine ⟨fun z3 => skip (fun w => z3 w.2.1), fun z3 => ⟨fun z4 => skip (fun w => z4 w.2.2), fun z4 => ?_⟩⟩
      have e1 : mv_p2 P σ (14 * n + m) j r = [64 * (14 * (n : Int) + m) + (14 * (j : Int) + r) + 1] := by
        unfold mv_p2
        rw [if_pos ⟨z2, z3, z4⟩]
      have hlen : (l ++ (List.range j).flatMap (mv_p1 P σ (14 * n + m)) ++ (List.range r).flatMap (mv_p2 P σ (14 * n + m) j)).length < 450 := by
        have a1 := fm_le (mv_p2 P σ (14 * n + m) j) (show r ≤ (P 55 j).toNat by omega)
        have a2 := fm_le (mv_p1 P σ (14 * n + m)) (show j + 1 ≤ (P 54 1).toNat by omega)
        rw [fm_succ, List.length_append] at a2
        unfold mv_pr at hn
        have a3 : (mv_p1 P σ (14 * n + m) j).length = ((List.range (P 55 j).toNat).flatMap (mv_p2 P σ (14 * n + m) j)).length := by
          unfold mv_p1 mv_pi
          rw [if_neg hne]
        rw [List.length_append, List.length_append]
        omega
      have q1 : (64 * (14 * (n : Int) + m) + (14 * (j : Int) + r) + 1) / 64 = 14 * n + m := by omega
      have q2 : (64 * (14 * (n : Int) + m) + (14 * (j : Int) + r) + 1) % 64 = 14 * j + r + 1 := by omega
      refine s9_adds hl3 hlen (m := 64 * (14 * n + m) + (14 * j + r) + 1) (by rw [q1]; omega) (by rw [q1]; omega) (Or.inr ⟨by rw [q2]; omega, by rw [q2]; omega, by rw [q2]; omega⟩) (fun S3 hk5 hl5 => ⟨⟨by omega, by omega⟩, hk4 S3 (by omega) ⟨r + 1, by omega, hk3.tr hk5, ?_⟩⟩)
      rw [fm_succ, e1, ← List.append_assoc]
      exact hl5
  · rw [fm_succ]
    unfold mv_p1 mv_pi
    rw [if_pos (by omega), List.append_nil]
    exact hl1
theorem s9_keeps {Q : xS → Prop} (hl : mv_LR l S) (hn : l.length ≤ 449) (k : ∀ S' : xS, kp mv_M S S' → mv_LR (l.filter (fun m => decide (m / 64 / 14 = p))) S' → Q S') : w_X9_keeps p S Q := by
  obtain ⟨h1, h2⟩ := hl
  refine xL2_up (l.length : Int) (fun u v S' => ∃ i : Nat, v = (i : Int) ∧ kp mv_M S S' ∧ S' 54 10 = (l.length : Int) ∧ u = (((l.take i).filter (fun m => decide (m / 64 / 14 = p))).length : Int) ∧ u ≤ v ∧ (∀ (j : Nat) (m : Int), ((l.take i).filter (fun m => decide (m / 64 / 14 = p)))[j]? = some m → mv_R1 S' j m) ∧ (∀ (j : Nat) (m : Int), i ≤ j → l[j]? = some m → mv_R1 S' j m)) ?_ 0 0 S (by omega) ⟨0, rfl, kp.rf, h1, by simp, by omega, fun j m h => by simp at h, fun j m _ h => h2 j m h⟩
  rintro u v S' ⟨i, rfl, hk1, hc, hu, huv, hA, hB⟩ hvn k2 hk2
  unfold w_X9_keeps_L4
  rw [hc]
  refine ⟨fun z => ?_, fun z => ⟨⟨by omega, by omega⟩, ?_⟩⟩
  · have hi : i = l.length := by omega
    rw [hi, List.take_length] at hA hu
    refine k _ (hk1.up rfl) ⟨?_, fun j m h => ?_⟩
    · rw [xup_same]; exact hu
    · have := hA j m h
      unfold mv_R1 at *
      rw [xup_cell (by decide), xup_cell (by decide), xup_cell (by decide), xup_cell (by decide)]
      exact this
  · obtain ⟨m0, hm0⟩ : ∃ m0, l[i]? = some m0 := ⟨l[i]'(by omega), List.getElem?_eq_getElem (by omega)⟩
    have b0 := hB i m0 (Nat.le_refl _) hm0
    have tk : l.take (i + 1) = l.take i ++ [m0] := by
      rw [List.take_add_one, hm0]
      rfl
    refine ⟨fun z1 => ⟨⟨by omega, by omega⟩, ⟨by omega, by omega⟩, ⟨by omega, by omega⟩, hk2 (u + 1) _ (by omega) ⟨i + 1, by omega, (((hk1.up rfl).up rfl).up rfl).up rfl, ?_, ?_, by omega, ?_, ?_⟩⟩, fun z1 => ⟨⟨by omega, by omega⟩, hk2 u _ (by omega) ⟨i + 1, by omega, hk1, hc, ?_, by omega, ?_, fun j m hj h => hB j m (by omega) h⟩⟩⟩
    · exact hc
    · have z2 : m0 / 64 / 14 = p := by rw [← b0.1]; exact z1
      rw [tk, List.filter_append, List.length_append]
      simp [z2]
      exact hu
    · intro j m h
      have z2 : m0 / 64 / 14 = p := by rw [← b0.1]; exact z1
      rw [tk, List.filter_append, List.getElem?_append] at h
      split at h
      · rename_i hj
        have hne : ¬ (j : Int) = u := by omega
        have := hA j m h
        unfold mv_R1 at *
        simp [xup_at, hne]
        exact this
      · rename_i hj
        simp [z2] at h
        have hj2 : (j : Int) = u := by
          have := (List.getElem?_eq_some_iff.mp h).1
          simp at this
          omega
        have hj3 : j - ((l.take i).filter (fun m => decide (m / 64 / 14 = p))).length = 0 := by omega
        rw [hj3] at h
        have e : m0 = m := by simpa using h
        subst e
        unfold mv_R1 at *
        simp [xup_at, hj2]
        exact ⟨z2.symm, b0.2.1, b0.2.2⟩
    · intro j m hj h
      have hne : ¬ (j : Int) = u := by omega
      have := hB j m (by omega) h
      unfold mv_R1 at *
      simp [xup_at, hne]
      exact this
    · have z2 : ¬ m0 / 64 / 14 = p := by rw [← b0.1]; exact z1
      rw [tk, List.filter_append, List.length_append]
      simp [z2]
      exact hu
    · intro j m h
      have z2 : ¬ m0 / 64 / 14 = p := by rw [← b0.1]; exact z1
      rw [tk, List.filter_append] at h
      simp [z2] at h
      exact hA j m (by simpa using h)
theorem s9_finds {Q : xS → Prop} (hW : pw_WF P) (hR : pw_R P S) (hH : sv_N 75 σ S) (hV : sv_V σ) (hn : (mv_all P σ).length ≤ 449) (k : ∀ S' : xS, kp mv_M S S' → mv_LR (mvs P σ) S' → Q S') : w_X9_finds S Q := by
  have w0 := hW.1
  have l0 : mv_LR [] (xup S 54 10 0) := ⟨by rw [xup_same]; rfl, fun i m h => by simp at h⟩
  refine xL1_up (P 54 1) (fun v S' => ∃ n : Nat, v = (n : Int) ∧ kp mv_M S S' ∧ mv_LR ((List.range n).flatMap (mv_ld P σ)) S') ?_ 0 _ (by omega) ⟨0, rfl, kp.rf.up rfl, l0⟩
  rintro v S' ⟨n, rfl, hk1, hl1⟩ hvn k2 hk2
  have hR1 := hR.kp hk1 rfl
  have hH1 := hH.kp hk1 (fun _ => rfl) (fun _ => rfl) (fun _ => rfl) (fun _ => rfl)
  unfold w_X9_finds_L7
  rw [hR1.1]
  refine ⟨fun z => ?_, fun z => ?_⟩
  · have hnn : n = (P 54 1).toNat := by omega
    rw [hnn] at hl1
    change mv_LR (mv_all P σ) S' at hl1
    have hlen : S' 54 10 = ((mv_all P σ).length : Int) := hl1.1
    -- the least quiet process that leads a move
    have fin : ∀ (v : Int) (S2 : xS), S2 = S' → ((v = -1 ∧ (mv_all P σ).find? (fun m => mv_qt P σ (m / 64 / 14)) = none) ∨ (v ≠ -1 ∧ ∃ m, (mv_all P σ).find? (fun m => mv_qt P σ (m / 64 / 14)) = some m ∧ v = m / 64 / 14)) → w_X9_finds_J163 Q v S2 := by
      rintro v S2 rfl hv
      refine ⟨fun y => ?_, fun y => ?_⟩
      · rcases hv with ⟨h1, -⟩ | ⟨-, m, h2, h3⟩
        · exact absurd h1 y
        · have e : mvs P σ = (mv_all P σ).filter (fun m' => decide (m' / 64 / 14 = v)) := by unfold mvs; rw [h2, h3]
          exact s9_keeps hl1 hn (fun S3 a b => k S3 (hk1.tr a) (by rw [e]; exact b))
      · rcases hv with ⟨-, h2⟩ | ⟨h1, -⟩
        · have e : mvs P σ = mv_all P σ := by unfold mvs; rw [h2]
          exact k S2 hk1 (by rw [e]; exact hl1)
        · exact absurd y h1
    show w_X9_finds_J108 Q S'
    refine ⟨⟨by omega, by omega⟩, ?_⟩
    refine xL2_dn (fun u v S2 => S2 = S' ∧ v < ((mv_all P σ).length : Int) ∧ ((u = -1 ∧ ∀ (i : Nat) (m : Int), v < (i : Int) → (mv_all P σ)[i]? = some m → mv_qt P σ (m / 64 / 14) = false) ∨ (u ≠ -1 ∧ ∃ (i : Nat) (m : Int), v < (i : Int) ∧ (mv_all P σ)[i]? = some m ∧ u = m / 64 / 14 ∧ mv_qt P σ u = true ∧ ∀ (j : Nat) (m' : Int), v < (j : Int) → j < i → (mv_all P σ)[j]? = some m' → mv_qt P σ (m' / 64 / 14) = false))) ?_ (-1) (S' 54 10 - 1) S' (by omega) ⟨rfl, by omega, Or.inl ⟨rfl, fun i m h1 h2 => ?_⟩⟩
    · rintro u v S2 ⟨rfl, hv1, hv2⟩ hv0 k3 hk3
      refine ⟨fun y => ?_, fun y => ?_⟩
      · have ev : v = -1 := by omega
        subst ev
        refine fin u S2 rfl ?_
        rcases hv2 with ⟨h1, h2⟩ | ⟨h1, i, m, h2, h3, h4, h5, h6⟩
        · refine Or.inl ⟨h1, ?_⟩
          rw [List.find?_eq_none]
          intro m hm
          obtain ⟨i, hi⟩ := List.getElem?_of_mem hm
          rw [h2 i m (by omega) hi]
          decide
        · refine Or.inr ⟨h1, m, ?_, h4⟩
          rw [List.find?_eq_some_iff_getElem]
          refine ⟨by rw [← h4]; exact h5, i, (List.getElem?_eq_some_iff.mp h3).1, (List.getElem?_eq_some_iff.mp h3).2, fun j hj => ?_⟩
          have := h6 j _ (by omega) hj (List.getElem?_eq_getElem (by have := (List.getElem?_eq_some_iff.mp h3).1; omega))
          rw [this]
          rfl
      · obtain ⟨n0, rfl⟩ : ∃ n0 : Nat, v = (n0 : Int) := ⟨v.toNat, by omega⟩
        have hlt : n0 < (mv_all P σ).length := by omega
        have hm := List.getElem?_eq_getElem hlt
        have r := hl1.2 n0 _ hm
        have ok := mv_all_mem hW (List.getElem_mem hlt)
        generalize (mv_all P σ)[n0] = m at *
        obtain ⟨pp, ss, g1, g2, g3, g4, g5⟩ := ok
        have wss := hW.2.2.2.1 pp (by omega) (by omega)
        have em : m / 64 / 14 = pp := by omega
        have e75 : S2 75 (S2 83 n0) = σ 0 (m / 64 / 14) := by rw [r.1]; exact (hH1.1 _ (by omega) (by omega))
        have vp := hV.1 pp (by omega) (by omega)
        have w66 := hW.2.2.2.2.2.2.2.2 (12 * pp + σ 0 pp) (by omega) (by omega)
        have e66 : S2 66 = P 66 := hR1.2.2.2.2.2.2.2.2.2.2.2.2.2.2
        rw [e75, r.1, em, e66]
        refine ⟨⟨by omega, by omega⟩, ⟨by omega, by omega⟩, ⟨by omega, by omega⟩, fun z1 => ⟨⟨by omega, by omega⟩, hk3 u S2 (by omega) ⟨rfl, by omega, ?_⟩⟩, fun z1 => ⟨⟨by omega, by omega⟩, hk3 _ S2 (by omega) ⟨rfl, by omega, Or.inr ⟨by omega, n0, m, by omega, hm, em.symm, ?_, fun j m' a b c => by omega⟩⟩⟩⟩
        · have q0 : mv_qt P σ (m / 64 / 14) = false := by rw [em]; unfold mv_qt; simp; omega
          rcases hv2 with ⟨h1, h2⟩ | ⟨h1, i, m1, h2, h3, h4, h5, h6⟩
          · refine Or.inl ⟨h1, fun i m' a b => ?_⟩
            by_cases hi : i = n0
            · rw [hi, hm] at b
              cases b
              exact q0
            · exact h2 i m' (by omega) b
          · refine Or.inr ⟨h1, i, m1, by omega, h3, h4, h5, fun j m' a b c => ?_⟩
            by_cases hi : j = n0
            · rw [hi, hm] at c
              cases c
              exact q0
            · exact h6 j m' (by omega) b c
        · unfold mv_qt; simp; omega
    · exfalso
      have := (List.getElem?_eq_some_iff.mp h2).1
      omega
  · have wn := hW.2.2.2.1 n (by omega) (by omega)
    refine xL1_up (P 55 n) (fun u S'' => ∃ m : Nat, u = (m : Int) ∧ kp mv_M S S'' ∧ mv_LR ((List.range n).flatMap (mv_ld P σ) ++ (List.range m).flatMap (mv_ow P σ n)) S'') ?_ 0 S' (by omega) ⟨0, rfl, hk1, by simpa using hl1⟩
    rintro u S'' ⟨m, rfl, hk3, hl3⟩ hum k4 hk4
    have hR3 := hR.kp hk3 rfl
    have hH3 := hH.kp hk3 (fun _ => rfl) (fun _ => rfl) (fun _ => rfl) (fun _ => rfl)
    unfold w_X9_finds_L17
    rw [hR3.2.2.2.1]
    refine ⟨⟨by omega, by omega⟩, fun z1 => ⟨⟨by omega, by omega⟩, hk2 S'' (by omega) ⟨n + 1, by omega, hk3, ?_⟩⟩, fun z1 => ?_⟩
    · have hmm : m = (P 55 n).toNat := by omega
      rw [hmm] at hl3
      rw [fm_succ]
      exact hl3
    · have hv : pw_v P (14 * n + m) := ⟨n, m, by omega, by omega, rfl⟩
      obtain ⟨b1, b2, b3, b4, b5, b6, b7⟩ := hv.b hW
      have hlen : ((List.range n).flatMap (mv_ld P σ) ++ (List.range m).flatMap (mv_ow P σ n)).length + (mv_ow P σ n m).length ≤ 449 := by
        have a1 := fm_le (mv_ld P σ) (show n + 1 ≤ (P 54 1).toNat by omega)
        rw [fm_succ, List.length_append] at a1
        have a2 := fm_le (mv_ow P σ n) (show m + 1 ≤ (P 55 n).toNat by omega)
        rw [fm_succ, List.length_append] at a2
        unfold mv_all at hn
        have a3 : (mv_ld P σ n).length = ((List.range (P 55 n).toNat).flatMap (mv_ow P σ n)).length := rfl
        rw [List.length_append]
        omega
      have go : ∀ S2 : xS, kp mv_M S'' S2 → mv_LR ((List.range n).flatMap (mv_ld P σ) ++ (List.range m).flatMap (mv_ow P σ n) ++ mv_ow P σ n m) S2 → (-2147483648 ≤ (m : Int) + 1 ∧ (m : Int) + 1 < 2147483648) ∧ k4 (m + 1) S2 := fun S2 a b => ⟨⟨by omega, by omega⟩, hk4 S2 (by omega) ⟨m + 1, by omega, hk3.tr a, by rw [fm_succ, ← List.append_assoc]; exact b⟩⟩
      have free : P 56 (14 * n + m) = σ 0 n → mv_ho P (14 * n + m) = false → w_X9_finds_J80 n k4 m S'' := by
        intro z2 z3
        refine s9_isFree hW hR3 hH3 hv (fun z4 => ⟨fun y => by omega, fun _ => ?_⟩) (fun z4 => ⟨fun _ => go S'' kp.rf ?_, fun y => absurd rfl y⟩)
        · have e : mv_ow P σ n m = [64 * (14 * (n : Int) + m)] := by unfold mv_ow; rw [if_pos z2, if_neg (by rw [z3]; decide), if_pos z4]
          rw [e] at hlen go
          exact s9_adds hl3 (by simp at hlen ⊢; omega) (m := 64 * (14 * n + m)) (by omega) (by omega) (Or.inl ⟨by omega, rfl, rfl⟩) go
        · have e : mv_ow P σ n m = [] := by unfold mv_ow; rw [if_pos z2, if_neg (by rw [z3]; decide), if_neg (by rw [z4]; decide)]
          rw [e, List.append_nil]; exact hl3
      refine s9_isHere hR3 hH3 (by omega) (by omega) (fun z2 => ⟨fun _ => ⟨⟨by omega, by omega⟩, ?_⟩, fun y => by omega⟩) (fun z2 => ⟨fun y => absurd rfl y, fun _ => go S'' kp.rf ?_⟩)
      · rw [hR3.2.2.2.2.2.2.1, hR3.2.2.2.2.2.2.2.1, hR3.2.2.2.2.2.2.2.2.2.1]
        refine ⟨fun z3 => free z2 (by unfold mv_ho; simp [z3]), fun z3 => ⟨(b6 (Or.inl z3)).1, fun z4 => free z2 (by unfold mv_ho; simp [z4]), fun z4 => ?_⟩⟩
        have e : mv_ow P σ n m = mv_pr P σ (14 * n + m) := by unfold mv_ow; rw [if_pos z2, if_pos (by unfold mv_ho; simp [z3, z4])]
        rw [e] at hlen go
        exact s9_pairs hW hR3 hH3 (by omega) (by omega) hl3 hlen go
      · have e : mv_ow P σ n m = [] := by unfold mv_ow; rw [if_neg z2]
        rw [e, List.append_nil]; exact hl3
end PWR

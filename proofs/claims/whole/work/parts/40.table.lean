/-! pure layer: tables with open addressing -/
def nz (T : Int → Int) : Nat → Nat
  | 0 => 0
  | k + 1 => nz T k + (if T k = 0 then 0 else 1)
theorem nz_full {T : Int → Int} : ∀ k : Nat, (∀ j : Nat, j < k → T j ≠ 0) → nz T k = k
  | 0, _ => rfl
  | k + 1, h => by
    unfold nz
    rw [nz_full k (fun j hj => h j (by omega)), if_neg (h k (by omega))]
theorem nz_same {T T' : Int → Int} : ∀ k : Nat, (∀ j : Nat, j < k → (T j = 0 ↔ T' j = 0)) → nz T k = nz T' k
  | 0, _ => rfl
  | k + 1, h => by
    unfold nz
    rw [nz_same k (fun j hj => h j (by omega))]
    have := h k (by omega)
    by_cases e : T k = 0
    · rw [if_pos e, if_pos (this.mp e)]
    · rw [if_neg e, if_neg (fun z => e (this.mpr z))]
theorem nz_up {T T' : Int → Int} {j : Nat} (hj : T j = 0) (hj' : T' j ≠ 0) (h : ∀ i : Nat, i ≠ j → T' i = T i) : ∀ k : Nat, j < k → nz T' k = nz T k + 1
  | 0, hk => by omega
  | k + 1, hk => by
    unfold nz
    by_cases e : j = k
    · subst e
      rw [if_pos hj, if_neg hj', nz_same (T := T') (T' := T) j (fun i hi => by rw [h i (by omega)])]
    · rw [nz_up hj hj' h k (by omega), h k (by omega)]
      omega
theorem nz_free {T : Int → Int} {M : Nat} (h : nz T M < M) : ∃ j : Nat, j < M ∧ T j = 0 := by
  by_cases e : ∃ j : Nat, j < M ∧ T j = 0
  · exact e
  · exfalso
    have := nz_full M (T := T) (fun j hj hz => e ⟨j, hj, hz⟩)
    omega
theorem nz_0 {T : Int → Int} (k : Nat) (h : ∀ j : Nat, j < k → T j = 0) : nz T k = 0 := by
  induction k with
  | zero => rfl
  | succ k ih =>
    unfold nz
    rw [ih (fun j hj => h j (by omega)), if_pos (h k (by omega))]
/-- the slot at the d-th place from a -/
def tb_path (M : Int) (T : Int → Int) (a : Int) (j : Int) : Prop := ∃ d : Nat, (d : Int) < M ∧ j = (a + d) % M ∧ ∀ e : Nat, e < d → T ((a + e) % M) ≠ 0
def tb_ok (M : Nat) (T cd h : Int → Int) (n : Int) : Prop := (∀ j : Int, 0 ≤ j → j < M → 0 ≤ T j ∧ T j ≤ n) ∧ (∀ s : Int, 0 ≤ s → s < n → ∃ j : Int, 0 ≤ j ∧ j < M ∧ T j = s + 1 ∧ tb_path M T (h (cd s)) j) ∧ (nz T M : Int) = n
theorem tb_ok.add {M : Nat} {T T' cd cd' h : Int → Int} {n c j : Int} (hM : 0 < M) (ht : tb_ok M T cd h n) (hn : 0 ≤ n) (hj : 0 ≤ j ∧ j < M) (hz : T j = 0) (hp : tb_path M T (h c) j) (hT : ∀ i : Int, T' i = if i = j then n + 1 else T i) (hc : cd' n = c) (hc' : ∀ s : Int, 0 ≤ s → s < n → cd' s = cd s) : tb_ok M T' cd' h (n + 1) := by
  obtain ⟨h1, h2, h3⟩ := ht
  have lift : ∀ a i : Int, tb_path M T a i → tb_path M T' a i := by
    rintro a i ⟨d, d1, d2, d3⟩
    refine ⟨d, d1, d2, fun e he => ?_⟩
    have := d3 e he
    rw [hT]
    split
    · omega
    · exact this
  refine ⟨fun i a b => ?_, fun s a b => ?_, ?_⟩
  · have := h1 i a b
    rw [hT]
    split <;> omega
  · by_cases hs : s = n
    · subst hs
      exact ⟨j, hj.1, hj.2, by rw [hT, if_pos rfl], by rw [hc]; exact lift _ _ hp⟩
    · obtain ⟨i, i1, i2, i3, i4⟩ := h2 s a (by omega)
      refine ⟨i, i1, i2, ?_, by rw [hc' s a (by omega)]; exact lift _ _ i4⟩
      rw [hT, if_neg (fun z => by rw [z, hz] at i3; omega)]
      exact i3
  · have := nz_up (T := T) (T' := T') (j := j.toNat) (by rw [Int.toNat_of_nonneg hj.1]; exact hz) (by rw [Int.toNat_of_nonneg hj.1, hT, if_pos rfl]; omega) (fun i hi => by rw [hT, if_neg (by omega)]) M (by omega)
    omega
theorem tb_ok.new {M : Nat} {T cd h : Int → Int} (hT : ∀ j : Int, 0 ≤ j → j < M → T j = 0) : tb_ok M T cd h 0 := ⟨fun j a b => by rw [hT j a b]; omega, fun s a b => by omega, by rw [nz_0 M (fun j hj => hT j (by omega) (by omega))]; rfl⟩
theorem tb_ok.E {M : Nat} {T T' cd cd' h : Int → Int} {n : Int} (ht : tb_ok M T cd h n) (hT : T' = T) (hc : cd' = cd) : tb_ok M T' cd' h n := by rw [hT, hc]; exact ht
/-- a full way from the start to a state's slot: what a probe meets first -/
theorem tb_ok.meet {M : Nat} {T cd h : Int → Int} {n c a : Int} {d : Nat} (ht : tb_ok M T cd h n) (ha : a = h c) (hs : ∃ s : Int, 0 ≤ s ∧ s < n ∧ cd s = c) (hd : ∀ e : Nat, e < d → ¬ cd (T ((a + e) % M) - 1) = c) : T ((a + d) % M) ≠ 0 := by
  obtain ⟨s, s0, s1, s2⟩ := hs
  obtain ⟨j, j1, j2, j3, d', d1, d2, d3⟩ := ht.2.1 s s0 s1
  rw [s2, ← ha] at d2 d3
  intro hz
  by_cases h1 : d < d'
  · exact d3 d h1 hz
  · by_cases h2 : d = d'
    · rw [h2, ← d2, j3] at hz
      omega
    · apply hd d' (by omega)
      rw [← d2, j3, show s + 1 - 1 = s by omega]
      exact s2
def hC (c : Int) : Int := c * (-7046029254386353131) % 18446744073709551616 / 4503599627370496
def hR (c : Int) : Int := c * 7919 % 8192
theorem hC.b (c : Int) : 0 ≤ hC c ∧ hC c < 4096 := by unfold hC; omega
theorem hR.b (c : Int) : 0 ≤ hR c ∧ hR c < 8192 := by unfold hR; omega
/-- by what a code counts as found -/
def ky (md c : Int) : Int := if md = 104 then c % 509 else c
/-- the class's table -/
def tb_C (md : Int) (S : xS) : Prop := (md ≠ 104 → S 4 1 = 0 ∧ tb_ok 4096 (S 31) (S 25) hC (S 4 0)) ∧ (md = 104 → S 4 1 = 1 ∧ (∀ s : Int, 0 ≤ s → s < S 4 0 → S 31 (S 25 s % 509) = s + 1) ∧ (∀ j : Int, 0 ≤ j → j < 509 → S 31 j = 0 ∨ (1 ≤ S 31 j ∧ S 31 j ≤ S 4 0 ∧ S 25 (S 31 j - 1) % 509 = j)))
/-- the reference's tables -/
def tb_R (S : xS) : Prop := tb_ok 8192 (S 71) (S 67) hR (S 54 5) ∧ (∀ j : Int, 0 ≤ j → j < 509 → S 72 j = 0 ∨ S 72 j = 1) ∧ (∀ j : Int, 0 ≤ j → j < 509 → (S 72 j = 1 ↔ ∃ s : Int, 0 ≤ s ∧ s < S 54 5 ∧ S 67 s % 509 = j))
theorem tb_C.kp {md : Int} {S S' : xS} {L : List (Nat × Int)} (h : tb_C md S) (hk : kp L S S') (h0 : hit L 4 0 = false) (h1 : hit L 4 1 = false) (h2 : ∀ i, hit L 31 i = false) (h3 : ∀ i, hit L 25 i = false) : tb_C md S' := by
  unfold tb_C
  rw [hk 4 0 h0, hk 4 1 h1, hk.cell 31 h2, hk.cell 25 h3]
  exact h
theorem tb_R.kp {S S' : xS} {L : List (Nat × Int)} (h : tb_R S) (hk : kp L S S') (h0 : hit L 54 5 = false) (h1 : ∀ i, hit L 67 i = false) (h2 : ∀ i, hit L 71 i = false) (h3 : ∀ i, hit L 72 i = false) : tb_R S' := by
  unfold tb_R
  rw [hk 54 5 h0, hk.cell 67 h1, hk.cell 71 h2, hk.cell 72 h3]
  exact h
section PWT
variable {S : xS} {md c : Int}
/-- what slotFor tells: the slot of a state with the code, or a free one that the next such state takes -/
theorem s1_slotFor {Q : Int → xS → Prop} (ht : tb_C md S) (hn : 0 ≤ S 4 0 ∧ S 4 0 ≤ 2000) (hc : 0 ≤ c) (k1 : ∀ j s : Int, 0 ≤ j → j < 4096 → 0 ≤ s → s < S 4 0 → ky md (S 25 s) = ky md c → S 31 j = s + 1 → Q j S) (k0 : ∀ j : Int, 0 ≤ j → j < 4096 → (∀ s : Int, 0 ≤ s → s < S 4 0 → ky md (S 25 s) ≠ ky md c) → S 31 j = 0 → (md ≠ 104 → tb_path 4096 (S 31) (hC c) j) → (md = 104 → j = c % 509) → Q j S) : w_X1_slotFor c S Q := by
  by_cases hm : md = 104
  · obtain ⟨t1, t2, t3⟩ := ht.2 hm
    have kk : ∀ x : Int, ky md x = x % 509 := fun x => by unfold ky; rw [if_pos hm]
    refine ⟨fun z => by omega, fun z => ⟨hc, ⟨by omega, by omega⟩, ?_⟩⟩
    rcases t3 (c % 509) (by omega) (by omega) with h | ⟨h1, h2, h3⟩
    · refine k0 _ (by omega) (by omega) (fun s s0 s1 e => ?_) h (fun z => absurd hm z) (fun _ => rfl)
      rw [kk, kk] at e
      have := t2 s s0 s1
      rw [e] at this
      omega
    · exact k1 _ (S 31 (c % 509) - 1) (by omega) (by omega) (by omega) (by omega) (by rw [kk, kk]; exact h3) (by omega)
  · obtain ⟨t1, t2⟩ := ht.1 hm
    have kk : ∀ x : Int, ky md x = x := fun x => by unfold ky; rw [if_neg hm]
    have hb := hC.b c
    refine ⟨fun _ => ⟨⟨by unfold hC at hb; omega, by unfold hC at hb; omega⟩, ?_⟩, fun z => absurd t1 z⟩
    show xL2 (w_X1_slotFor_L27 c Q) (hC c) 0 S
    obtain ⟨j0, j1, j2⟩ := nz_free (T := S 31) (M := 4096) (by have := t2.2.2; omega)
    refine xL2_up 4096 (fun u v S' => S' = S ∧ ∃ e : Nat, v = (e : Int) ∧ u = (hC c + e) % 4096 ∧ ∀ e' : Nat, e' < e → S 31 ((hC c + e') % 4096) ≠ 0 ∧ ¬ S 25 (S 31 ((hC c + e') % 4096) - 1) = c) ?_ (hC c) 0 S (by omega) ⟨rfl, 0, rfl, by omega, fun e' h => by omega⟩
    rintro u v S' ⟨rfl, e, rfl, rfl, hpre⟩ hv k hk
    refine ⟨fun z => ?_, fun z => ⟨by omega, ?_⟩⟩
    · exfalso
      have h1 := hpre ((((j0 : Int) - hC c) % 4096).toNat) (by omega)
      have h2 : (hC c + ((((j0 : Int) - hC c) % 4096).toNat : Int)) % 4096 = j0 := by omega
      rw [h2] at h1
      exact h1.1 j2
    · have tr := t2.1 ((hC c + e) % 4096) (by omega) (by omega)
      refine ⟨⟨by omega, by omega⟩, fun y => ?_, fun y => ⟨by omega, fun w => ⟨⟨by omega, by omega⟩, by omega, ⟨by omega, by omega⟩, hk _ S' (by omega) ⟨rfl, e + 1, by omega, by omega, fun e' he' => ?_⟩⟩, fun w => ?_⟩⟩
      · have hz : S' 31 ((hC c + e) % 4096) = 0 := by omega
        refine k0 _ (by omega) (by omega) (fun s s0 s1 e1 => ?_) hz (fun _ => ⟨e, by omega, rfl, fun e' he' => (hpre e' he').1⟩) (fun z => absurd z hm)
        rw [kk, kk] at e1
        exact t2.meet (a := hC c) (d := e) rfl ⟨s, s0, s1, e1⟩ (fun e' he' => (hpre e' he').2) hz
      · by_cases h : e' = e
        · rw [h]; exact ⟨by omega, w⟩
        · exact hpre e' (by omega)
      · exact k1 _ (S' 31 ((hC c + e) % 4096) - 1) (by omega) (by omega) (by omega) (by omega) (by rw [kk, kk]; exact w) (by omega)
theorem s1_numberFor {Q : Int → xS → Prop} (ht : tb_C md S) (hn : 0 ≤ S 4 0 ∧ S 4 0 ≤ 2000) (hc : 0 ≤ c) (k1 : ∀ s : Int, 0 ≤ s → s < S 4 0 → ky md (S 25 s) = ky md c → Q s S) (k0 : (∀ s : Int, 0 ≤ s → s < S 4 0 → ky md (S 25 s) ≠ ky md c) → Q (-1) S) : w_X1_numberFor c S Q := by
  refine s1_slotFor ht hn hc (fun j s j0 j1 s0 s1 e1 e2 => ⟨by omega, ⟨by omega, by omega⟩, ?_⟩) (fun j j0 j1 hs hz _ _ => ⟨by omega, ⟨by omega, by omega⟩, ?_⟩)
  · rw [show S 31 j - 1 = s by omega]
    exact k1 s s0 s1 e1
  · rw [show S 31 j - 1 = -1 by omega]
    exact k0 hs
/-- a state's record, added to the class's -/
abbrev tb_LC : List (Nat × Int) := [(4, 0), (25, -9), (26, -9), (27, -9), (28, -9), (29, -9), (30, -9), (31, -9)]
theorem s1_add {Q : Int → xS → Prop} {vals par way : Int} (ht : tb_C md S) (hn : 0 ≤ S 4 0 ∧ S 4 0 < 2000) (hc : 0 ≤ c) (hnew : ∀ s : Int, 0 ≤ s → s < S 4 0 → ky md (S 25 s) ≠ ky md c) (hp : (par = -1 ∧ S 4 0 = 0) ∨ (0 ≤ par ∧ par < S 4 0)) (hd : ∀ s : Int, 0 ≤ s → s < S 4 0 → 0 ≤ S 29 s ∧ S 29 s < 2000)
    (k : ∀ S' : xS, kp tb_LC S S' → tb_C md S' → S' 4 0 = S 4 0 + 1 → (∀ i : Int, S' 25 i = if i = S 4 0 then c else S 25 i) → (∀ i : Int, S' 26 i = if i = S 4 0 then vals else S 26 i) → (∀ i : Int, S' 27 i = if i = S 4 0 then par else S 27 i) → (∀ i : Int, S' 28 i = if i = S 4 0 then way else S 28 i) → (∀ i : Int, S' 29 i = if i = S 4 0 then (if par = -1 then 0 else S 29 par + 1) else S 29 i) → (∀ i : Int, S' 30 i = if i = S 4 0 then -1 else S 30 i) → Q (S 4 0) S') : w_X1_add c vals par way S Q := by
  have fin : ∀ (j t : Int), 0 ≤ j → j < 4096 → S 31 j = 0 → (md ≠ 104 → tb_path 4096 (S 31) (hC c) j) → (md = 104 → j = c % 509) → t = (if par = -1 then 0 else S 29 par + 1) → w_X1_add_J79 S Q t (xup (xup (xup (xup (xup S 31 j (S 4 0 + 1)) 25 (S 4 0) c) 26 (S 4 0) vals) 27 (S 4 0) par) 28 (S 4 0) way) := by
    intro j t j0 j1 hz hpa hre htt
    refine ⟨⟨by show -2147483648 ≤ S 4 0 + 1; omega, by show S 4 0 + 1 < 2147483648; omega⟩, ?_⟩
    have tbn : ∀ S' : xS, S' 4 1 = S 4 1 → S' 4 0 = S 4 0 + 1 → (∀ i : Int, S' 25 i = if i = S 4 0 then c else S 25 i) → (∀ i : Int, S' 31 i = if i = j then S 4 0 + 1 else S 31 i) → tb_C md S' := by
      intro S' b1 b0 a25 a31
      refine ⟨fun hm => ?_, fun hm => ?_⟩
      · obtain ⟨t1, t2⟩ := ht.1 hm
        rw [b0]
        exact ⟨b1.trans t1, t2.add (by decide) hn.1 ⟨j0, j1⟩ hz (hpa hm) a31 (by rw [a25, if_pos rfl]) (fun s s0 s1 => by rw [a25, if_neg (by omega)])⟩
      · obtain ⟨t1, t2, t3⟩ := ht.2 hm
        have kk : ∀ x : Int, ky md x = x % 509 := fun x => by unfold ky; rw [if_pos hm]
        have ej := hre hm
        rw [b0]
        refine ⟨b1.trans t1, fun s s0 s1 => ?_, fun i i0 i1 => ?_⟩
        · rw [a31, a25]
          by_cases hs : s = S 4 0
          · rw [if_pos hs, if_pos (by omega)]; omega
          · have := hnew s s0 (by omega)
            rw [kk, kk] at this
            rw [if_neg hs, if_neg (by omega)]
            exact t2 s s0 (by omega)
        · rw [a31]
          by_cases hi : i = j
          · rw [if_pos hi]
            right
            refine ⟨by omega, by omega, ?_⟩
            rw [a25, if_pos (by omega)]; omega
          · rw [if_neg hi]
            rcases t3 i i0 i1 with h | ⟨h1, h2, h3⟩
            · exact Or.inl h
            · right
              refine ⟨h1, by omega, ?_⟩
              rw [a25, if_neg (by omega)]; exact h3
    exact k _ ((((((((kp.rf.up rfl).up rfl).up rfl).up rfl).up rfl).up rfl).up rfl).up rfl) (tbn _ rfl rfl (fun i => by simp [xup_at]) (fun i => by simp [xup_at])) rfl (fun i => by simp [xup_at]) (fun i => by simp [xup_at]) (fun i => by simp [xup_at]) (fun i => by simp [xup_at]) (fun i => by simp [xup_at, htt]) (fun i => by simp [xup_at])
  refine s1_slotFor ht ⟨hn.1, by omega⟩ hc (fun j s j0 j1 s0 s1 e1 e2 => absurd e1 (hnew s s0 s1)) (fun j j0 j1 hs hz hpa hre => ⟨⟨by omega, by omega⟩, by omega, by omega, fun z => ?_, fun z => ?_⟩)
  · have hp' : 0 ≤ par ∧ par < S 4 0 := by omega
    have hd' := hd par hp'.1 hp'.2
    exact ⟨⟨by omega, by omega⟩, ⟨by omega, by omega⟩, fin j _ j0 j1 hz hpa hre (by rw [if_neg z])⟩
  · exact fin j _ j0 j1 hz hpa hre (by rw [if_pos z])
/-! the reference's -/
theorem s9_slotOf {Q : Int → xS → Prop} (hc : 0 ≤ c ∧ c < 1043677052928) (k : Q (hR c) S) : w_X9_slotOf c S Q := ⟨⟨by omega, by omega⟩, by omega, ⟨by omega, by omega⟩, k⟩
theorem s9_indexOf {Q : Int → xS → Prop} (ht : tb_R S) (hn : 0 ≤ S 54 5 ∧ S 54 5 ≤ 2000) (hc : 0 ≤ c ∧ c < 1043677052928) (k1 : ∀ s : Int, 0 ≤ s → s < S 54 5 → S 67 s = c → Q s S) (k0 : (∀ s : Int, 0 ≤ s → s < S 54 5 → S 67 s ≠ c) → Q (-1) S) : w_X9_indexOf c S Q := by
  have t2 := ht.1
  have hb := hR.b c
  obtain ⟨j0, j1, j2⟩ := nz_free (T := S 71) (M := 8192) (by have := t2.2.2; omega)
  refine s9_slotOf hc ?_
  refine xL1_inv (fun v S' => S' = S ∧ ∃ e : Nat, v = (hR c + e) % 8192 ∧ ∀ e' : Nat, e' < e → S 71 ((hR c + e') % 8192) ≠ 0 ∧ ¬ S 67 (S 71 ((hR c + e') % 8192) - 1) = c) (fun v _ => (((j0 : Int) - v) % 8192).toNat) ?_ (hR c) S ⟨rfl, 0, by omega, fun e' h => by omega⟩
  rintro v S' ⟨rfl, e, rfl, hpre⟩ k hk
  have tr := t2.1 ((hR c + e) % 8192) (by omega) (by omega)
  refine ⟨by omega, fun z => ?_, fun z => ⟨by omega, fun y => ⟨⟨by omega, by omega⟩, by omega, hk _ S' ⟨rfl, e + 1, by omega, fun e' he' => ?_⟩ ?_⟩, fun y => k1 _ (by omega) (by omega) y⟩⟩
  · have hz : S' 71 ((hR c + e) % 8192) = 0 := by omega
    refine k0 (fun s s0 s1 e1 => ?_)
    exact t2.meet (a := hR c) (d := e) rfl ⟨s, s0, s1, e1⟩ (fun e' he' => (hpre e' he').2) hz
  · by_cases h : e' = e
    · rw [h]; exact ⟨by omega, y⟩
    · exact hpre e' (by omega)
  · have hne : (j0 : Int) ≠ (hR c + e) % 8192 := fun h => by rw [← h] at z; omega
    show (((j0 : Int) - ((hR c + e) % 8192 + 1) % 8192) % 8192).toNat < (((j0 : Int) - (hR c + e) % 8192) % 8192).toNat
    omega
theorem s9_isFound {Q : Int → xS → Prop} (ht : tb_R S) (hn : 0 ≤ S 54 5 ∧ S 54 5 ≤ 2000) (hc : 0 ≤ c ∧ c < 1043677052928) (k1 : (∃ s : Int, 0 ≤ s ∧ s < S 54 5 ∧ ky (S 54 4) (S 67 s) = ky (S 54 4) c) → Q 1 S) (k0 : (∀ s : Int, 0 ≤ s → s < S 54 5 → ky (S 54 4) (S 67 s) ≠ ky (S 54 4) c) → Q 0 S) : w_X9_isFound c S Q := by
  refine ⟨fun hm => ?_, fun hm => ⟨hc.1, by omega, ht.2.1 _ (by omega) (by omega), ?_⟩⟩
  · have kk : ∀ x : Int, ky (S 54 4) x = x := fun x => by unfold ky; rw [if_neg hm]
    refine s9_indexOf ht hn hc (fun s s0 s1 e => ⟨fun z => by omega, fun _ => k1 ⟨s, s0, s1, by rw [kk, kk]; exact e⟩⟩) (fun h => ⟨fun _ => k0 (fun s s0 s1 e => ?_), fun z => absurd rfl z⟩)
    rw [kk, kk] at e
    exact h s s0 s1 e
  · have kk : ∀ x : Int, ky (S 54 4) x = x % 509 := fun x => by unfold ky; rw [if_pos hm]
    have iff := ht.2.2 (c % 509) (by omega) (by omega)
    rcases ht.2.1 (c % 509) (by omega) (by omega) with h | h
    · rw [h]
      refine k0 (fun s s0 s1 e => ?_)
      rw [kk, kk] at e
      have := iff.mpr ⟨s, s0, s1, e⟩
      omega
    · rw [h]
      obtain ⟨s, s0, s1, e⟩ := iff.mp h
      exact k1 ⟨s, s0, s1, by rw [kk, kk]; exact e⟩
end PWT

/-! pure layer: the reference's one step of a search -/
/-- the reference's records of a search -/
def rx (P : xS) (md : Int) (X S : xS) : Prop := S 54 5 = X 0 0 ∧ S 54 6 = X 0 1 ∧ S 54 7 = X 0 2 ∧ S 54 12 = X 0 3 ∧ (X 0 2 ≠ 0 → S 54 8 = X 0 4 ∧ (X 0 2 = 97 → S 54 9 = w16 (X 0 5))) ∧ S 54 4 = md ∧ (∀ s : Int, 0 ≤ s → s < X 0 0 → S 67 s = X 1 s ∧ S 68 s = X 2 s ∧ (1 ≤ s → S 69 s = w16 (X 3 s)) ∧ S 70 s = X 4 s) ∧ tb_R S ∧ S 54 11 = X 0 6 ∧ (∀ e : Int, 0 ≤ e → e < X 0 6 → S 74 e = X 6 e)
def rxh (L : List (Nat × Int)) : Bool := [67, 68, 69, 70, 71, 72, 74].all (fun q => L.all (fun e => !(e.1 == q))) && [4, 5, 6, 7, 8, 9, 11, 12].all (fun i => !hit L 54 i)
theorem rxh.cell {L : List (Nat × Int)} (h : rxh L = true) {q : Nat} (hq : q ∈ [67, 68, 69, 70, 71, 72, 74]) (i : Int) : hit L q i = false := by
  unfold rxh at h
  rw [Bool.and_eq_true] at h
  have h1 := List.all_eq_true.mp h.1 q hq
  rw [← Bool.not_eq_true]
  intro hc
  unfold hit at hc
  obtain ⟨e, he, h2⟩ := List.any_eq_true.mp hc
  have h3 := List.all_eq_true.mp h1 e he
  rw [Bool.and_eq_true] at h2
  rw [h2.1] at h3
  cases h3
theorem rxh.f {L : List (Nat × Int)} (h : rxh L = true) {i : Int} (hq : i ∈ [4, 5, 6, 7, 8, 9, 11, 12]) : hit L 54 i = false := by
  unfold rxh at h
  rw [Bool.and_eq_true] at h
  have h1 := List.all_eq_true.mp h.2 i hq
  simpa using h1
theorem rx_kp {P X S S' : xS} {md : Int} {L : List (Nat × Int)} (h : rx P md X S) (hk : kp L S S') (hL : rxh L = true) : rx P md X S' := by
  have c : ∀ q, q ∈ [67, 68, 69, 70, 71, 72, 74] → S' q = S q := fun q hq => hk.cell q (fun i => rxh.cell hL hq i)
  have f : ∀ i : Int, i ∈ [4, 5, 6, 7, 8, 9, 11, 12] → S' 54 i = S 54 i := fun i hi => hk 54 i (rxh.f hL hi)
  unfold rx tb_R at *
  rw [c 67 (by decide), c 68 (by decide), c 69 (by decide), c 70 (by decide), c 71 (by decide), c 72 (by decide), c 74 (by decide), f 4 (by decide), f 5 (by decide), f 6 (by decide), f 7 (by decide), f 8 (by decide), f 9 (by decide), f 11 (by decide), f 12 (by decide)]
  exact h
section PWRT
variable {P S X σ : xS} {md : Int} {l : List Int}
theorem s9_isOwnStep {Q : Int → xS → Prop} {p x : Int} (hW : pw_WF P) (hR : pw_R P S) (hp : 0 ≤ p ∧ p < 3) (hv : pw_v P x) (h1 : (P 58 x = 107 ∨ ((P 58 x = 115 ∨ P 58 x = 105 ∨ P 58 x = 61 ∨ P 58 x = 33) ∧ (P 59 x = 3 + 2 * p ∨ P 59 x = 4 + 2 * p))) → Q 1 S) (h0 : ¬ (P 58 x = 107 ∨ ((P 58 x = 115 ∨ P 58 x = 105 ∨ P 58 x = 61 ∨ P 58 x = 33) ∧ (P 59 x = 3 + 2 * p ∨ P 59 x = 4 + 2 * p))) → Q 0 S) : w_X9_isOwnStep p x S Q := by
  have b1 := (hv.b hW).1
  unfold w_X9_isOwnStep w_X9_isOwnStep_J39 xJ0
  have e59 : S 59 x = P 59 x := congrFun hR.2.2.2.2.2.2.2.1 x
  rw [hR.2.2.2.2.2.2.1]
  refine ⟨b1, fun z => ⟨fun y => ⟨by omega, fun w => h1 (by omega), fun w => ⟨by omega, fun w2 => h0 (by omega), fun w2 => h1 (by omega)⟩⟩, fun y => ⟨fun y2 => ⟨by omega, fun w => h1 (by omega), fun w => ⟨by omega, fun w2 => h0 (by omega), fun w2 => h1 (by omega)⟩⟩, fun y2 => ⟨fun y3 => ⟨by omega, fun w => h1 (by omega), fun w => ⟨by omega, fun w2 => h0 (by omega), fun w2 => h1 (by omega)⟩⟩, fun y3 => ⟨fun y4 => h0 (by omega), fun y4 => ⟨by omega, fun w => h1 (by omega), fun w => ⟨by omega, fun w2 => h0 (by omega), fun w2 => h1 (by omega)⟩⟩⟩⟩⟩⟩, fun z => h1 (Or.inl z)⟩
theorem gc_p {c m : Int} (hmd : md ≠ 115) : gb P md c m = mk_do P (sv_dec c) m := by
  unfold gb
  exact ex_3.no (fun p q h => hmd h.1)
theorem s9_isEnough {Q : Int → xS → Prop} {n : Nat} {g : Int} (hW : pw_WF P) (hR : pw_R P S) (hH : sv_N 75 (sv_dec (X 1 g)) S) (hx : xa P md X) (hrx : rx P md X S) (hg : 0 ≤ g ∧ g < X 0 0) (hl : mv_LR (mvs P (sv_dec (X 1 g))) S) (hn : n < 3) (hmd : md = 112)
    (k : ∀ (r : Int) (S' : xS), kp sv_L9n S S' → ((r = 1 ∧ sx_en P md X g n = true) ∨ (r = 0 ∧ sx_en P md X g n = false)) → Q r S') : w_X9_isEnough n S Q := by
  have wn := hW.2.2.2.1 n (by omega) (by omega)
  have w3 := hW.2.2.1
  have gx := hx.2.1 g hg.1 hg.2
  have hlen := mvs.b hW gx.2.1
  have nx := hx.1
  have no : ∀ S' : xS, kp sv_L9n S S' → sx_en P md X g n = false → Q 0 S' := fun S' a h => k 0 S' a (Or.inr ⟨rfl, h⟩)
  -- the steps that can be done here
  refine xL1_up (P 55 n) (fun v S' => S' = S ∧ ∃ m : Nat, v = (m : Int) ∧ ∀ s : Nat, s < m → (!decide (P 56 (14 * n + s) = sv_dec (X 1 g) 0 n) || (decide (P 58 (14 * n + s) = 107) || ((decide (P 58 (14 * n + s) = 115) || decide (P 58 (14 * n + s) = 105) || decide (P 58 (14 * n + s) = 61) || decide (P 58 (14 * n + s) = 33)) && (decide (P 59 (14 * n + s) = 3 + 2 * n) || decide (P 59 (14 * n + s) = 4 + 2 * n))))) = true) ?_ 0 S (by omega) ⟨rfl, 0, rfl, fun s hs => by omega⟩
  rintro v S' ⟨rfl, m, rfl, hpre⟩ hv k2 hk2
  unfold w_X9_isEnough_L4
  rw [hR.2.2.2.1]
  refine ⟨⟨by omega, by omega⟩, fun z => ?_, fun z => ?_⟩
  · have hm : m = (P 55 n).toNat := by omega
    have A1 : (List.range (P 55 n).toNat).all (fun s => !decide (P 56 (14 * n + s) = sv_dec (X 1 g) 0 n) || (decide (P 58 (14 * n + s) = 107) || ((decide (P 58 (14 * n + s) = 115) || decide (P 58 (14 * n + s) = 105) || decide (P 58 (14 * n + s) = 61) || decide (P 58 (14 * n + s) = 33)) && (decide (P 59 (14 * n + s) = 3 + 2 * n) || decide (P 59 (14 * n + s) = 4 + 2 * n))))) = true := by
      rw [List.all_eq_true]
      intro s hs
      have := List.mem_range.mp hs
      exact hpre s (by omega)
    show w_X9_isEnough_J45 n Q S'
    refine xL1_up (P 54 3) (fun v S2 => S2 = S' ∧ 0 ≤ v ∧ ∀ i : Int, 0 ≤ i → i < v → ¬ (P 63 i = 3 + 2 * n ∨ P 63 i = 4 + 2 * n)) ?_ 0 S' (by omega) ⟨rfl, by omega, fun i _ _ => by omega⟩
    rintro v S2 ⟨rfl, hv0, hpre2⟩ hv2 k3 hk3
    unfold w_X9_isEnough_L47
    rw [hR.2.2.1, hR.2.2.2.2.2.2.2.2.2.2.2.1]
    have bad : 0 ≤ v → v < P 54 3 → (P 63 v = 3 + 2 * n ∨ P 63 v = 4 + 2 * n) → sx_en P md X g n = false := by
      intro v0 v1 hb
      unfold sx_en sx_pr
      have A2 : (List.range (P 54 3).toNat).all (fun k => !decide (P 63 k = 3 + 2 * n) && !decide (P 63 k = 4 + 2 * n)) = false := by
        rw [← Bool.not_eq_true]
        intro hc
        have := List.all_eq_true.mp hc v.toNat (List.mem_range.mpr (by omega))
        rw [Int.toNat_of_nonneg v0] at this
        simp at this
        omega
      rw [A2]
      simp
    refine ⟨fun z2 => ?_, fun z2 => ⟨⟨by omega, by omega⟩, ⟨by omega, by omega⟩, fun y => no S2 kp.rf (bad hv0 (by omega) (Or.inl y)), fun y => ⟨⟨by omega, by omega⟩, fun y2 => ⟨⟨by omega, by omega⟩, hk3 S2 (by omega) ⟨rfl, by omega, fun i i0 i1 => ?_⟩⟩, fun y2 => no S2 kp.rf (bad hv0 (by omega) (Or.inr y2))⟩⟩⟩
    · have A2 : (List.range (P 54 3).toNat).all (fun k => !decide (P 63 k = 3 + 2 * n) && !decide (P 63 k = 4 + 2 * n)) = true := by
        rw [List.all_eq_true]
        intro i hi
        have := List.mem_range.mp hi
        have := hpre2 i (by omega) (by omega)
        simp
        omega
      have en : sx_en P md X g n = ((mvs P (sv_dec (X 1 g))).any (fun m => decide (m / 64 / 14 = n)) && (mvs P (sv_dec (X 1 g))).all (fun m => !decide (m / 64 / 14 = n) || decide (sx_fnd md X (gc P md (X 1 g) m) = -1))) := by
        unfold sx_en sx_pr
        rw [A1, A2]
        simp
      show w_X9_isEnough_J91 n Q S2
      obtain ⟨l1, l2⟩ := id hl
      refine xL2_up ((mvs P (sv_dec (X 1 g))).length : Int) (fun u v S3 => kp sv_L9n S2 S3 ∧ ∃ i : Nat, v = (i : Int) ∧ 0 ≤ u ∧ u ≤ v ∧ (0 < u ↔ ∃ (j : Nat) (m : Int), j < i ∧ (mvs P (sv_dec (X 1 g)))[j]? = some m ∧ m / 64 / 14 = n) ∧ ∀ (j : Nat) (m : Int), j < i → (mvs P (sv_dec (X 1 g)))[j]? = some m → (!decide (m / 64 / 14 = n) || decide (sx_fnd md X (gc P md (X 1 g) m) = -1)) = true) ?_ 0 0 S2 (by omega) ⟨kp.rf, 0, rfl, by omega, by omega, ⟨fun h => by omega, fun ⟨j, m, h, _⟩ => by omega⟩, fun j m h => by omega⟩
      rintro u v S3 ⟨a1, i, rfl, u0, uv, hany, hall⟩ hv3 k4 hk4
      have hl3 := hl.kp a1 rfl (fun _ => rfl) (fun _ => rfl) (fun _ => rfl) (fun _ => rfl)
      have hR3 := hR.kp a1 rfl
      unfold w_X9_isEnough_L93
      rw [hl3.1]
      refine ⟨fun z3 => ?_, fun z3 => ⟨by omega, ?_⟩⟩
      · have hall' : (mvs P (sv_dec (X 1 g))).all (fun m => !decide (m / 64 / 14 = n) || decide (sx_fnd md X (gc P md (X 1 g) m) = -1)) = true := by
          rw [List.all_eq_true]
          intro m hm
          obtain ⟨j, hj⟩ := List.getElem?_of_mem hm
          exact hall j m (by have := (List.getElem?_eq_some_iff.mp hj).1; omega) hj
        refine ⟨fun y => no S3 a1 ?_, fun y => k 1 S3 a1 (Or.inl ⟨rfl, ?_⟩)⟩
        · rw [en, hall', Bool.and_true, ← Bool.not_eq_true]
          intro hc
          obtain ⟨m, hm, hm2⟩ := List.any_eq_true.mp hc
          obtain ⟨j, hj⟩ := List.getElem?_of_mem hm
          have := hany.mpr ⟨j, m, by have := (List.getElem?_eq_some_iff.mp hj).1; omega, hj, by simpa using hm2⟩
          omega
        · rw [en, hall', Bool.and_true]
          obtain ⟨j, m, hj, hj2, hj3⟩ := hany.mp (by omega)
          exact List.any_eq_true.mpr ⟨m, List.mem_of_getElem? hj2, by simpa using hj3⟩
      · have hi : i < (mvs P (sv_dec (X 1 g))).length := by omega
        have hm := List.getElem?_eq_getElem hi
        have hmem := List.getElem_mem hi
        generalize (mvs P (sv_dec (X 1 g)))[i] = m at *
        have r := hl3.2 i m hm
        rw [r.1]
        have hok := mvs_mem hW hmem
        have gbV := gb.V (md := md) hW gx.2.1 hok
        have gcb := (gc.ok (md := md) hW gx.2.1 hok).1.b
        have next : ∀ (u' : Int) (S4 : xS), kp sv_L9n S2 S4 → (0 ≤ u' ∧ u' ≤ (i : Int) + 1) → (0 < u' ↔ (0 < u ∨ m / 64 / 14 = n)) → (!decide (m / 64 / 14 = n) || decide (sx_fnd md X (gc P md (X 1 g) m) = -1)) = true → k4 u' (i + 1) S4 := by
          intro u' S4 a4 hu hiff hb
          refine hk4 u' S4 (by omega) ⟨a4, i + 1, by omega, hu.1, by omega, ⟨fun h => ?_, fun ⟨j, m', h1, h2, h3⟩ => ?_⟩, fun j m' hj he => ?_⟩
          · rcases hiff.mp h with h | h
            · obtain ⟨j, m', h1, h2, h3⟩ := hany.mp h
              exact ⟨j, m', by omega, h2, h3⟩
            · exact ⟨i, m, by omega, hm, h⟩
          · by_cases e : j = i
            · rw [e, hm] at h2
              cases h2
              exact hiff.mpr (Or.inr h3)
            · exact hiff.mpr (Or.inl (hany.mpr ⟨j, m', by omega, h2, h3⟩))
          · by_cases e : j = i
            · rw [e, hm] at he
              cases he
              exact hb
            · exact hall j m' (by omega) he
        refine ⟨fun y => ?_, fun y => ⟨⟨by omega, by omega⟩, next u S3 a1 (by omega) ⟨fun h => Or.inl h, fun h => h.elim id (fun h => absurd h y)⟩ (by simp [y])⟩⟩
        refine s9_makes hW hR3 (hH.kp a1 (fun _ => rfl) (fun _ => rfl) (fun _ => rfl) (fun _ => rfl)) (sv_V.dec _) hl3 (by omega) hm hok (fun S4 a4 b4 => ?_)
        rw [gc_p (P := P) (by omega)] at gbV
        have rx4 := rx_kp (rx_kp hrx a1 rfl) a4 rfl
        have egc : sv_enc (mk_do P (sv_dec (X 1 g)) m) = gc P md (X 1 g) m := by unfold gc; rw [gc_p (by omega)]
        refine s9_codes b4 gbV.1 ?_
        rw [egc]
        refine s9_isFound rx4.2.2.2.2.2.2.2.1 (by rw [rx4.1]; omega) (by omega) (fun ⟨s, s0, s1, e⟩ => ⟨fun w => by omega, fun _ => no S4 (a1.tr a4) ?_⟩) (fun hno => ⟨fun _ => ⟨⟨by omega, by omega⟩, ⟨by omega, by omega⟩, next (u + 1) S4 (a1.tr a4) (by omega) ⟨fun _ => Or.inr y, fun _ => by omega⟩ ?_⟩, fun w => absurd rfl w⟩)
        · rw [rx4.1] at s1
          rw [rx4.2.2.2.2.2.1, (rx4.2.2.2.2.2.2.1 s s0 s1).1] at e
          have es : ¬ sx_fnd md X (gc P md (X 1 g) m) = -1 := by
            rcases sx_fnd.or md X (gc P md (X 1 g) m) with ⟨-, h⟩ | ⟨h1, h2, h3⟩
            · exact absurd e (h s s0 s1)
            · omega
          rw [en, Bool.and_eq_false_iff]
          right
          rw [← Bool.not_eq_true]
          intro hc
          have := List.all_eq_true.mp hc m hmem
          simp [y, es] at this
        · have es : sx_fnd md X (gc P md (X 1 g) m) = -1 := by
            rcases sx_fnd.or md X (gc P md (X 1 g) m) with ⟨h, -⟩ | ⟨h1, h2, h3⟩
            · exact h
            · refine absurd h3 (fun e => hno _ h1 (by rw [rx4.1]; exact h2) ?_)
              rw [rx4.2.2.2.2.2.1, (rx4.2.2.2.2.2.2.1 _ h1 h2).1]
              exact e
          simp [es]
    · by_cases e : i = v
      · rw [e]; omega
      · exact hpre2 i i0 (by omega)
  · have hv2 : pw_v P (14 * n + m) := ⟨n, m, by omega, by omega, rfl⟩
    have next : (!decide (P 56 (14 * n + m) = sv_dec (X 1 g) 0 n) || (decide (P 58 (14 * n + m) = 107) || ((decide (P 58 (14 * n + m) = 115) || decide (P 58 (14 * n + m) = 105) || decide (P 58 (14 * n + m) = 61) || decide (P 58 (14 * n + m) = 33)) && (decide (P 59 (14 * n + m) = 3 + 2 * n) || decide (P 59 (14 * n + m) = 4 + 2 * n))))) = true → (-2147483648 ≤ (m : Int) + 1 ∧ (m : Int) + 1 < 2147483648) ∧ k2 (m + 1) S' := fun h => ⟨⟨by omega, by omega⟩, hk2 S' (by omega) ⟨rfl, m + 1, by omega, fun s hs => by
      by_cases e : s = m
      · rw [e]; exact h
      · exact hpre s (by omega)⟩⟩
    refine s9_isHere hR hH hn (by omega) (fun y => ⟨fun w => by omega, fun _ => ⟨⟨by omega, by omega⟩, s9_isOwnStep hW hR (by omega) hv2 (fun y2 => ⟨fun _ => next ?_, fun w => by omega⟩) (fun y2 => ⟨fun w => absurd rfl w, fun _ => no S' kp.rf ?_⟩)⟩⟩) (fun y => ⟨fun _ => next (by simp [y]), fun w => absurd rfl w⟩)
    · rcases y2 with y2 | ⟨y2, y3⟩
      · simp [y2]
      · rcases y2 with h | h | h | h <;> rcases y3 with h' | h' <;> simp [h, h']
    · unfold sx_en sx_pr
      have A1 : (List.range (P 55 n).toNat).all (fun s => !decide (P 56 (14 * n + s) = sv_dec (X 1 g) 0 n) || (decide (P 58 (14 * n + s) = 107) || ((decide (P 58 (14 * n + s) = 115) || decide (P 58 (14 * n + s) = 105) || decide (P 58 (14 * n + s) = 61) || decide (P 58 (14 * n + s) = 33)) && (decide (P 59 (14 * n + s) = 3 + 2 * n) || decide (P 59 (14 * n + s) = 4 + 2 * n))))) = false := by
        rw [← Bool.not_eq_true]
        intro hc
        have := List.all_eq_true.mp hc m (List.mem_range.mpr (by omega))
        simp [y] at this
        omega
      rw [A1]
      simp
end PWRT

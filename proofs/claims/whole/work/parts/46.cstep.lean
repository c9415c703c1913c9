/-! pure layer: the class's one step of a search, and the search -/
abbrev cx_Ll : List (Nat × Int) := [(36, -9), (37, -9), (38, -9), (39, -9), (40, -9), (6, 2), (35, -9), (30, -9)]
theorem any_of {p : Nat → Bool} {n : Nat} {k : Int} (h0 : 0 ≤ k) (h1 : k < n) (h : p k.toNat = true) : (List.range n).any p = true := List.any_eq_true.mpr ⟨k.toNat, List.mem_range.mpr (by omega), h⟩
section PWST
variable {P S X σ : xS} {md : Int} {l : List Int}
theorem s6_listMoves {Q : xS → Prop} {s c : Int} (hW : pw_WF P) (hC : pw_C P S) (hs : 0 ≤ s ∧ s < 2000) (hc : S 25 s = c) (hok : sv_ok c) (hr : sv_rm P (sv_dec c)) (k : ∀ S' : xS, kp cx_Ll S S' → sv_H 36 (sv_dec c) S' → mv_LC (mvs P (sv_dec c)) S' → (∀ i : Int, S' 30 i = if i = s then ((mvs P (sv_dec c)).length : Int) else S 30 i) → Q S') : w_X6_listMoves s S Q := by
  refine ⟨hs, ?_⟩
  rw [hc]
  refine s7_unpack_h hok.b.1 (fun S1 a1 b1 => s3_listFor hW (hC.kp a1 rfl) b1 (sv_V.dec c) (mv_all.b hW hr) (fun S2 a2 b2 => ?_))
  have a3 : kp cx_Ll S S2 := (a1.mono rfl).tr (a2.mono rfl)
  refine k _ (a3.up rfl) ?_ ?_ (fun i => ?_)
  · exact (b1.kp a2 (fun _ => rfl) (fun _ => rfl) (fun _ => rfl) (fun _ => rfl) (fun _ => rfl)).kp ((kp.rf (L := [(30, -9)])).up rfl) (fun _ => rfl) (fun _ => rfl) (fun _ => rfl) (fun _ => rfl) (fun _ => rfl)
  · exact b2.kp ((kp.rf (L := [(30, -9)])).up rfl) rfl (fun _ => rfl)
  · rw [xup_at, b2.1]
    by_cases h : i = s
    · rw [if_pos ⟨rfl, h⟩, if_pos h]
    · rw [if_neg (fun w => h w.2), if_neg h, a2 30 i rfl, a1 30 i rfl]
theorem cx_30 {S' : xS} {s : Int} (h : cx P md X S) (hk : kp cx_Ll S S') (e : ∀ i : Int, S' 30 i = if i = s then ((mvs P (sv_dec (X 1 s))).length : Int) else S 30 i) : cx P md X S' := by
  obtain ⟨c1, c2, c3, c4, c5, c6, c7, c8, c9⟩ := h
  refine ⟨(hk 4 0 rfl).trans c1, (hk 2 11 rfl).trans c2, fun z => (hk 2 13 rfl).trans (c3 z), fun z => ?_, (hk 2 12 rfl).trans c5, fun t t0 t1 => ?_, c7.kp hk rfl rfl (fun _ => rfl) (fun _ => rfl), (hk 2 10 rfl).trans c8, c9.kp hk (fun _ => rfl)⟩
  · have d := c4 z
    exact ⟨(hk 2 13 rfl).trans d.1, (hk 2 8 rfl).trans d.2.1, fun i i0 i1 => (hk 22 i rfl).trans (d.2.2 i i0 i1)⟩
  · have d := c6 t t0 t1
    refine ⟨(hk 25 t rfl).trans d.1, (hk 26 t rfl).trans d.2.1, (hk 27 t rfl).trans d.2.2.1, fun z => (hk 28 t rfl).trans (d.2.2.2.1 z), (hk 29 t rfl).trans d.2.2.2.2.1, ?_⟩
    rw [e]
    by_cases h : t = s
    · rw [if_pos h, h]; exact Or.inr rfl
    · rw [if_neg h]; exact d.2.2.2.2.2
theorem s4_hasStuck {Q : Int → xS → Prop} (hW : pw_WF P) (hC : pw_C P S) (hH : sv_H 36 σ S) (hV : sv_V σ) (h1 : sx_st P σ = true → Q 1 S) (h0 : sx_st P σ = false → Q 0 S) : w_X4_hasProcessAtNoEnd_h S Q := by
  have w0 := hW.1
  refine xL1_up (P 54 1) (fun v S' => S' = S ∧ ∃ n : Nat, v = (n : Int) ∧ ∀ j : Nat, j < n → ¬ P 65 (12 * j + σ 0 j) = 0) ?_ 0 S (by omega) ⟨rfl, 0, rfl, fun j hj => by omega⟩
  rintro v S' ⟨rfl, n, rfl, hpre⟩ hv k2 hk2
  unfold w_X4_hasProcessAtNoEnd_h_L2
  rw [hC.1]
  refine ⟨fun z => h0 ?_, fun z => ⟨⟨by omega, by omega⟩, ?_⟩⟩
  · rw [← Bool.not_eq_true]
    intro hc
    unfold sx_st at hc
    obtain ⟨j, hj, hj2⟩ := List.any_eq_true.mp hc
    have := List.mem_range.mp hj
    exact hpre j (by omega) (by simpa using hj2)
  · rw [show S' 36 n = σ 0 n from hH.1 n (by omega) (by omega)]
    refine s4_isEnd hW hC hV (by omega) (fun y => ⟨fun _ => ⟨⟨by omega, by omega⟩, hk2 S' (by omega) ⟨rfl, n + 1, by omega, fun j hj => ?_⟩⟩, fun w => by omega⟩) (fun y => ⟨fun w => absurd rfl w, fun _ => h1 ?_⟩)
    · by_cases e : j = n
      · rw [e, y]; decide
      · exact hpre j (by omega)
    · unfold sx_st
      exact List.any_eq_true.mpr ⟨n, List.mem_range.mpr (by omega), by simpa using y⟩
theorem s4_isWatched {Q : Int → xS → Prop} {p : Int} (hW : pw_WF P) (hC : pw_C P S) (hp : 0 ≤ p ∧ p < 3) (h1 : (∃ k : Int, 0 ≤ k ∧ k < P 54 3 ∧ (P 63 k = 3 + 2 * p ∨ P 63 k = 4 + 2 * p)) → Q 1 S) (h0 : (∀ k : Int, 0 ≤ k → k < P 54 3 → ¬ (P 63 k = 3 + 2 * p ∨ P 63 k = 4 + 2 * p)) → Q 0 S) : w_X4_isWatched p S Q := by
  have w0 := hW.2.2.1
  refine xL1_up (P 54 3) (fun v S' => S' = S ∧ 0 ≤ v ∧ ∀ k : Int, 0 ≤ k → k < v → ¬ (P 63 k = 3 + 2 * p ∨ P 63 k = 4 + 2 * p)) ?_ 0 S (by omega) ⟨rfl, by omega, fun j _ _ => by omega⟩
  rintro v S' ⟨rfl, hv0, hpre⟩ hv k2 hk2
  unfold w_X4_isWatched_L2
  rw [hC.2.2.1]
  refine ⟨fun z => h0 (fun k a b => hpre k a (by omega)), fun z => ⟨⟨by omega, by omega⟩, ?_⟩⟩
  rw [(hC.2.2.2.2.2.2.2.2 v hv0 (by omega)).1]
  refine s4_isOwn hp (fun y => ⟨fun w => by omega, fun _ => h1 ⟨v, hv0, by omega, y⟩⟩) (fun y => ⟨fun _ => ⟨⟨by omega, by omega⟩, hk2 S' (by omega) ⟨rfl, by omega, fun k a b => ?_⟩⟩, fun w => absurd rfl w⟩)
  by_cases e : k = v
  · rw [e]; exact y
  · exact hpre k a (by omega)
theorem s4_isPrivate {Q : Int → xS → Prop} {n : Nat} (hW : pw_WF P) (hC : pw_C P S) (hn : n < 3) (h1 : sx_pr P σ n = true → Q 1 S) (h0 : sx_pr P σ n = false → Q 0 S) : w_X4_isPrivate n (σ 0 n) S Q := by
  have wn := hW.2.2.2.1 n (by omega) (by omega)
  have w3 := hW.2.2.1
  unfold sx_pr at h1 h0
  refine s4_isWatched hW hC (by omega) (fun y => ⟨fun w => by omega, fun _ => h0 ?_⟩) (fun y => ⟨fun _ => ?_, fun w => absurd rfl w⟩)
  · obtain ⟨k, k0, k1, k2⟩ := y
    rw [Bool.and_eq_false_iff]
    right
    rw [← Bool.not_eq_true]
    intro hc
    have := List.all_eq_true.mp hc k.toNat (List.mem_range.mpr (by omega))
    rw [Int.toNat_of_nonneg k0] at this
    simp at this
    omega
  · have inv : (List.range (P 54 3).toNat).all (fun k => !decide (P 63 k = 3 + 2 * n) && !decide (P 63 k = 4 + 2 * n)) = true := by
      rw [List.all_eq_true]
      intro k hk
      have := List.mem_range.mp hk
      have := y k (by omega) (by omega)
      simp
      omega
    rw [inv] at h1 h0
    rw [Bool.and_true] at h1 h0
    refine xL1_up (P 55 n) (fun v S' => S' = S ∧ ∃ m : Nat, v = (m : Int) ∧ ∀ s : Nat, s < m → (!decide (P 56 (14 * n + s) = σ 0 n) || (decide (P 58 (14 * n + s) = 107) || ((decide (P 58 (14 * n + s) = 115) || decide (P 58 (14 * n + s) = 105) || decide (P 58 (14 * n + s) = 61) || decide (P 58 (14 * n + s) = 33)) && (decide (P 59 (14 * n + s) = 3 + 2 * n) || decide (P 59 (14 * n + s) = 4 + 2 * n))))) = true) ?_ 0 S (by omega) ⟨rfl, 0, rfl, fun s hs => by omega⟩
    rintro v S' ⟨rfl, m, rfl, hpre⟩ hv k2 hk2
    unfold w_X4_isPrivate_L12
    rw [hC.2.2.2.1 n (by omega) (by omega)]
    refine ⟨⟨by omega, by omega⟩, fun z => h1 ?_, fun z => ⟨⟨by omega, by omega⟩, ⟨by omega, by omega⟩, ?_⟩⟩
    · rw [List.all_eq_true]
      intro s hs
      have := List.mem_range.mp hs
      exact hpre s (by omega)
    · rw [show (n : Int) * 14 + m = 14 * n + m by omega]
      have hv2 : pw_v P (14 * n + m) := ⟨n, m, by omega, by omega, rfl⟩
      obtain ⟨b1, b2, b3, b4, b5, b6, b7⟩ := hv2.b hW
      obtain ⟨c1, c2, c3, c4, -⟩ := hv2.c hC
      rw [c1]
      have next : (!decide (P 56 (14 * n + m) = σ 0 n) || (decide (P 58 (14 * n + m) = 107) || ((decide (P 58 (14 * n + m) = 115) || decide (P 58 (14 * n + m) = 105) || decide (P 58 (14 * n + m) = 61) || decide (P 58 (14 * n + m) = 33)) && (decide (P 59 (14 * n + m) = 3 + 2 * n) || decide (P 59 (14 * n + m) = 4 + 2 * n))))) = true → (-2147483648 ≤ (m : Int) + 1 ∧ (m : Int) + 1 < 2147483648) ∧ k2 (m + 1) S' := fun h => ⟨⟨by omega, by omega⟩, hk2 S' (by omega) ⟨rfl, m + 1, by omega, fun s hs => by
        by_cases e : s = m
        · rw [e]; exact h
        · exact hpre s (by omega)⟩⟩
      have stop : (!decide (P 56 (14 * n + m) = σ 0 n) || (decide (P 58 (14 * n + m) = 107) || ((decide (P 58 (14 * n + m) = 115) || decide (P 58 (14 * n + m) = 105) || decide (P 58 (14 * n + m) = 61) || decide (P 58 (14 * n + m) = 33)) && (decide (P 59 (14 * n + m) = 3 + 2 * n) || decide (P 59 (14 * n + m) = 4 + 2 * n))))) = false → Q 0 S' := fun h => h0 (by
        rw [← Bool.not_eq_true]
        intro hc
        have := List.all_eq_true.mp hc m (List.mem_range.mpr (by omega))
        rw [h] at this
        cases this)
      refine ⟨fun z1 => next (by simp [z1]), fun z1 => ?_⟩
      unfold w_X4_isPrivateStep
      rw [c3]
      refine ⟨b1, fun z2 => ⟨fun z3 => ⟨fun y => absurd rfl y, fun _ => stop (by simp [z1, z3])⟩, fun z3 => s4_isChannelStep b1 (fun z4 => ⟨fun _ => ⟨fun y => absurd rfl y, fun _ => stop ?_⟩, fun y => by omega⟩) (fun z4 => ⟨fun y => absurd rfl y, fun _ => ?_⟩)⟩, fun z2 => ⟨fun _ => next (by simp [z2]), fun y => by omega⟩⟩
      · rw [c3] at z4
        rcases z4 with z4 | z4 <;> simp [z1, z4]
      · rw [c3] at z4
        rw [(c4 z2).1]
        have kd : P 58 (14 * n + m) = 115 ∨ P 58 (14 * n + m) = 105 ∨ P 58 (14 * n + m) = 61 ∨ P 58 (14 * n + m) = 33 := by omega
        refine s4_isOwn (by omega) (fun z5 => ⟨fun y => by omega, fun _ => ⟨fun _ => next ?_, fun y => by omega⟩⟩) (fun z5 => ⟨fun _ => ⟨fun y => absurd rfl y, fun _ => stop ?_⟩, fun y => absurd rfl y⟩)
        · rcases kd with h | h | h | h <;> rcases z5 with h' | h' <;> simp [h, h']
        · have e1 : ¬ P 59 (14 * n + m) = 3 + 2 * n := fun w => z5 (Or.inl w)
          have e2 : ¬ P 59 (14 * n + m) = 4 + 2 * n := fun w => z5 (Or.inr w)
          simp [z1, z2, e1, e2]
theorem s3_hasLedBy {Q : Int → xS → Prop} {n : Nat} (hl : mv_LC l S) (hlen : l.length ≤ 392) (h0' : ∀ m ∈ l, 0 ≤ m) (h1 : l.any (fun m => decide (m / 64 / 14 = n)) = true → Q 1 S) (h0 : l.any (fun m => decide (m / 64 / 14 = n)) = false → Q 0 S) : w_X3_hasLedBy n S Q := by
  obtain ⟨l1, l2⟩ := hl
  refine xL1_up (l.length : Int) (fun v S' => S' = S ∧ ∃ i : Nat, v = (i : Int) ∧ ∀ (j : Nat) (m : Int), j < i → l[j]? = some m → ¬ m / 64 / 14 = n) ?_ 0 S (by omega) ⟨rfl, 0, rfl, fun j m hj => by omega⟩
  rintro v S' ⟨rfl, i, rfl, hpre⟩ hv k2 hk2
  unfold w_X3_hasLedBy_L2
  rw [l1]
  refine ⟨fun z => h0 ?_, fun z => ⟨by omega, ?_⟩⟩
  · rw [← Bool.not_eq_true]
    intro hc
    obtain ⟨m, hm, hm2⟩ := List.any_eq_true.mp hc
    obtain ⟨j, hj⟩ := List.getElem?_of_mem hm
    exact hpre j m (by have := (List.getElem?_eq_some_iff.mp hj).1; omega) hj (by simpa using hm2)
  · have hm := List.getElem?_eq_getElem (show i < l.length by omega)
    have hmem := List.getElem_mem (show i < l.length by omega)
    rw [l2 i _ hm]
    refine s3_leaderOf (h0' _ hmem) ⟨fun y => ⟨⟨by omega, by omega⟩, hk2 S' (by omega) ⟨rfl, i + 1, by omega, fun j m hj he => ?_⟩⟩, fun y => h1 (List.any_eq_true.mpr ⟨_, hmem, by simpa using y⟩)⟩
    by_cases e : j = i
    · rw [e, hm] at he
      cases he
      exact y
    · exact hpre j m (by omega) he
theorem s6_leadsNew {Q : Int → xS → Prop} {n : Nat} {g : Int} (hW : pw_WF P) (hC : pw_C P S) (hH : sv_H 36 (sv_dec (X 1 g)) S) (hx : xa P md X) (hcx : cx P md X S) (hg : 0 ≤ g ∧ g < X 0 0) (hl : mv_LC (mvs P (sv_dec (X 1 g))) S)
    (k1 : ∀ S' : xS, kp sv_Ln S S' → (mvs P (sv_dec (X 1 g))).all (fun m => !decide (m / 64 / 14 = n) || decide (sx_fnd md X (gc P md (X 1 g) m) = -1)) = true → Q 1 S') (k0 : ∀ S' : xS, kp sv_Ln S S' → (mvs P (sv_dec (X 1 g))).all (fun m => !decide (m / 64 / 14 = n) || decide (sx_fnd md X (gc P md (X 1 g) m) = -1)) = false → Q 0 S') : w_X6_leadsToNewAlone n S Q := by
  obtain ⟨l1, l2⟩ := hl
  have gx := hx.2.1 g hg.1 hg.2
  have hlen := mvs.b hW gx.2.1
  have hn := hx.1
  refine xL1_up ((mvs P (sv_dec (X 1 g))).length : Int) (fun v S' => kp sv_Ln S S' ∧ ∃ i : Nat, v = (i : Int) ∧ ∀ (j : Nat) (m : Int), j < i → (mvs P (sv_dec (X 1 g)))[j]? = some m → (!decide (m / 64 / 14 = n) || decide (sx_fnd md X (gc P md (X 1 g) m) = -1)) = true) ?_ 0 S (by omega) ⟨kp.rf, 0, rfl, fun j m hj => by omega⟩
  rintro v S' ⟨a1, i, rfl, hpre⟩ hv k2 hk2
  have cx1 := hcx.kp a1 rfl
  unfold w_X6_leadsToNewAlone_L2
  rw [a1 6 2 rfl, l1]
  refine ⟨fun z => k1 S' a1 ?_, fun z => ⟨by omega, ?_⟩⟩
  · rw [List.all_eq_true]
    intro m hm
    obtain ⟨j, hj⟩ := List.getElem?_of_mem hm
    exact hpre j m (by have := (List.getElem?_eq_some_iff.mp hj).1; omega) hj
  · have hm := List.getElem?_eq_getElem (show i < (mvs P (sv_dec (X 1 g))).length by omega)
    have hmem := List.getElem_mem (show i < (mvs P (sv_dec (X 1 g))).length by omega)
    rw [a1 35 i rfl, l2 i _ hm]
    have next : ∀ S2 : xS, kp sv_Ln S S2 → (!decide ((mvs P (sv_dec (X 1 g)))[i] / 64 / 14 = n) || decide (sx_fnd md X (gc P md (X 1 g) (mvs P (sv_dec (X 1 g)))[i]) = -1)) = true → (-2147483648 ≤ (i : Int) + 1 ∧ (i : Int) + 1 < 2147483648) ∧ k2 (i + 1) S2 := fun S2 b h => ⟨⟨by omega, by omega⟩, hk2 S2 (by omega) ⟨b, i + 1, by omega, fun j m hj he => by
      by_cases e : j = i
      · subst e
        rw [hm] at he
        cases he
        exact h
      · exact hpre j m (by omega) he⟩⟩
    generalize (mvs P (sv_dec (X 1 g)))[i] = m at *
    have hok := mvs_mem hW hmem
    have gbV := gb.V (md := md) hW gx.2.1 hok
    have gcb := (gc.ok (md := md) hW gx.2.1 hok).1.b
    refine s3_leaderOf (hok.n hW rfl).2.1 ⟨fun y => next S' a1 (by simp [y]), fun y => ?_⟩
    refine s6_goBehind (md := md) hW (hC.kp a1 rfl) (hH.kp a1 (fun _ => rfl) (fun _ => rfl) (fun _ => rfl) (fun _ => rfl) (fun _ => rfl)) gx.2.1 hok (cx1.2.2.2.2.2.2.2.2) (fun S2 a2 b2 => ?_)
    have cx2 := cx1.kp a2 rfl
    refine s7_pack_n b2 gbV.1 (s1_numberFor cx2.2.2.2.2.2.2.1 (by rw [cx2.1]; omega) (show 0 ≤ gc P md (X 1 g) m by omega) (fun s s0 s1 e => ⟨fun w => by omega, fun _ => k0 S2 (a1.tr a2) ?_⟩) (fun hno => ⟨fun _ => next S2 (a1.tr a2) ?_, fun w => absurd rfl w⟩))
    · have s1' : s < X 0 0 := by rw [cx2.1] at s1; exact s1
      rw [(cx2.2.2.2.2.2.1 s s0 s1').1] at e
      have es : ¬ sx_fnd md X (gc P md (X 1 g) m) = -1 := by
        rcases sx_fnd.or md X (gc P md (X 1 g) m) with ⟨-, h⟩ | ⟨h1, h2, h3⟩
        · exact absurd e (h s s0 s1')
        · omega
      rw [← Bool.not_eq_true]
      intro hc
      have := List.all_eq_true.mp hc m hmem
      simp [y, es] at this
    · have es : sx_fnd md X (gc P md (X 1 g) m) = -1 := by
        rcases sx_fnd.or md X (gc P md (X 1 g) m) with ⟨h, -⟩ | ⟨h1, h2, h3⟩
        · exact h
        · refine absurd h3 (fun e => hno _ h1 (by rw [cx2.1]; exact h2) ?_)
          rw [(cx2.2.2.2.2.2.1 _ h1 h2).1]
          exact e
      simp [es]
end PWST

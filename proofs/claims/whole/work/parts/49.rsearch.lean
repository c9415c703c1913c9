/-! pure layer: the reference's search, its pieces -/
def w16 (m : Int) : Int := 16 * (m / 64 / 14) + m / 64 % 14
abbrev rx_Ld : List (Nat × Int) := [(54, 5), (54, 7), (54, 8), (54, 14), (67, -9), (68, -9), (69, -9), (70, -9), (71, -9), (72, -9)]
theorem rs_mod {j0 v : Int} (hj : 0 ≤ j0 ∧ j0 < 8192) (hv : 0 ≤ v ∧ v < 8192) (hne : j0 ≠ v) : (j0 - (v + 1) % 8192) % 8192 + 1 = (j0 - v) % 8192 := by omega
section PWRS
variable {P S X σ : xS} {md : Int} {l : List Int}
theorem mv_R1.n {m : Int} {i : Nat} (h : mv_R1 S i m) : 14 * S 83 i + S 84 i = m / 64 ∧ 16 * S 83 i + S 84 i = w16 m := by
  unfold w16
  rw [h.1, h.2.1]
  omega
theorem s9_asserts {Q : Int → xS → Prop} {i : Nat} {m : Int} (hW : pw_WF P) (hR : pw_R P S) (hH : sv_N 75 σ S) (hl : mv_LR l S) (hlen : l.length ≤ 449) (hi : l[i]? = some m) (hm : mv_ok P σ m) (h1 : sx_as P σ m = true → Q 1 S) (h0 : sx_as P σ m = false → Q 0 S) : w_X9_asserts i S Q := by
  have hil := (List.getElem?_eq_some_iff.mp hi).1
  have r := (hl.2 i m hi).n
  have hv := (hm.n hW rfl).1
  obtain ⟨b1, b2, b3, b4, b5, b6, b7⟩ := hv.b hW
  obtain ⟨e1, e2, e3, e4, e5, e6, e7, e8, e9, e10, e11, e12, e13, e14, e15⟩ := hR
  unfold sx_as at h1 h0
  unfold w_X9_asserts
  rw [r.1, e7, e8, e9]
  refine ⟨by omega, b1, fun z => h0 (by simp [z]), fun z => ?_⟩
  have b8 := (b5 (by omega)).1
  have e := hH.2.1 (P 59 (m / 64)) b8.1 b8.2
  rw [show S 76 (P 59 (m / 64)) = σ 1 (P 59 (m / 64)) from e]
  exact ⟨b8, fun y => h0 (by simp [z, y]), fun y => h1 (by simp [z, y])⟩
theorem s9_doers {Q : Int → xS → Prop} {i : Nat} {m : Int} (hW : pw_WF P) (hl : mv_LR l S) (hlen : l.length ≤ 449) (hi : l[i]? = some m) (hm : mv_ok P σ m) (k : Q (sx_do m) S) : w_X9_doers i S Q := by
  have hil := (List.getElem?_eq_some_iff.mp hi).1
  have r := hl.2 i m hi
  obtain ⟨hv, h0, h1, h2, h3⟩ := hm.n hW rfl
  unfold sx_do at k
  unfold w_X9_doers
  rw [r.1]
  refine ⟨by omega, by omega, fun z => ?_, fun z => ?_⟩
  · rcases r.2.2 with ⟨w, w2, -⟩ | ⟨w, w2, -⟩
    · exact absurd w2 z
    · rw [if_neg w] at k
      rw [w2, Int.one_mul, Int.one_mul]
      exact ⟨by omega, k⟩
  · rcases r.2.2 with ⟨w, w2, -⟩ | ⟨w, w2, -⟩
    · rw [if_pos w] at k
      rw [Int.one_mul]
      have o : ∀ a : Int, (a = 0 ∨ a = 1 ∨ a = 2) → xor32 (2 ^ a.toNat) 0 = 2 ^ a.toNat := by
        intro a ha
        rcases ha with rfl | rfl | rfl <;> decide +kernel
      rw [o _ (by omega)]
      exact k
    · omega
theorem s9_isStuck {Q : Int → xS → Prop} (hW : pw_WF P) (hR : pw_R P S) (hH : sv_N 75 σ S) (hV : sv_V σ) (h1 : sx_st P σ = true → Q 1 S) (h0 : sx_st P σ = false → Q 0 S) : w_X9_isStuck S Q := by
  have w0 := hW.1
  refine xL1_up (P 54 1) (fun v S' => S' = S ∧ ∃ n : Nat, v = (n : Int) ∧ ∀ j : Nat, j < n → ¬ P 65 (12 * j + σ 0 j) = 0) ?_ 0 S (by omega) ⟨rfl, 0, rfl, fun j hj => by omega⟩
  rintro v S' ⟨rfl, n, rfl, hpre⟩ hv k2 hk2
  unfold w_X9_isStuck_L2
  rw [hR.1, hR.2.2.2.2.2.2.2.2.2.2.2.2.2.1]
  refine ⟨fun z => h0 ?_, fun z => ⟨⟨by omega, by omega⟩, ?_⟩⟩
  · rw [← Bool.not_eq_true]
    intro hc
    unfold sx_st at hc
    obtain ⟨j, hj, hj2⟩ := List.any_eq_true.mp hc
    have := List.mem_range.mp hj
    exact hpre j (by omega) (by simpa using hj2)
  · have v := hV.1 n (by omega) (by omega)
    rw [show S' 75 n = σ 0 n from hH.1 n (by omega) (by omega)]
    refine ⟨by omega, fun y => ⟨⟨by omega, by omega⟩, hk2 S' (by omega) ⟨rfl, n + 1, by omega, fun j hj => ?_⟩⟩, fun y => h1 ?_⟩
    · by_cases e : j = n
      · rw [e]; exact y
      · exact hpre j (by omega)
    · unfold sx_st
      exact List.any_eq_true.mpr ⟨n, List.mem_range.mpr (by omega), by simpa using y⟩
theorem s9_discovers {Q : xS → Prop} {c last way : Int} (hW : pw_WF P) (hRR : pw_R P S) (hH : sv_N 79 σ S) (hV : sv_V σ) (hc : c = sv_enc σ) (ht : tb_R S) (hn : 0 ≤ S 54 5 ∧ S 54 5 < 2000) (hf : S 54 7 = 0) (hp : (last = -1 ∧ S 54 5 = 0) ∨ (0 ≤ last ∧ last < S 54 5)) (hd : ∀ s : Int, 0 ≤ s → s < S 54 5 → 0 ≤ S 70 s ∧ S 70 s < 2000)
    (k : ∀ S' : xS, kp rx_Ld S S' → tb_R S' → S' 54 5 = S 54 5 + 1 → (∀ i : Int, S' 67 i = if i = S 54 5 then c else S 67 i) → (∀ i : Int, S' 68 i = if i = S 54 5 then last else S 68 i) → (∀ i : Int, S' 69 i = if i = S 54 5 then way else S 69 i) → (∀ i : Int, S' 70 i = if i = S 54 5 then (if last = -1 then 0 else S 70 last + 1) else S 70 i) → (sx_br P (sv_dec c) = true → S' 54 7 = 105 ∧ S' 54 8 = S 54 5 ∧ S' 54 14 = 1) → (sx_br P (sv_dec c) = false → S' 54 7 = 0 ∧ S' 54 14 = if S 54 5 + 1 = 2000 then 1 else 0) → Q S') : w_X9_discovers c last way S Q := by
  have cb := sv_enc.b hV
  rw [← hc] at cb
  have br := sx_br.E hW (sv_E.de hV)
  rw [← hc] at br
  have t2 := ht.1
  have hb := hR.b c
  have w3 := hW.2.2.1
  obtain ⟨j0, j1, j2⟩ := nz_free (T := S 71) (M := 8192) (by have := t2.2.2; omega)
  have fin : ∀ (j t : Int), 0 ≤ j → j < 8192 → S 71 j = 0 → tb_path 8192 (S 71) (hR c) j → t = (if last = -1 then 0 else S 70 last + 1) → w_X9_discovers_J110 Q S t (xup (xup (xup (xup (xup S 71 j (S 54 5 + 1)) 72 (c % 509) 1) 67 (S 54 5) c) 68 (S 54 5) last) 69 (S 54 5) way) := by
    intro j t j0 j1 hz hpa htt
    have tbn : ∀ S' : xS, S' 54 5 = S 54 5 + 1 → (∀ i : Int, S' 67 i = if i = S 54 5 then c else S 67 i) → (∀ i : Int, S' 71 i = if i = j then S 54 5 + 1 else S 71 i) → (∀ i : Int, S' 72 i = if i = c % 509 then 1 else S 72 i) → tb_R S' := by
      intro S' b0 a67 a71 a72
      obtain ⟨t1, t3, t4⟩ := ht
      unfold tb_R
      rw [b0]
      refine ⟨t1.add (by decide) hn.1 ⟨j0, j1⟩ hz hpa a71 (by rw [a67, if_pos rfl]) (fun s s0 s1 => by rw [a67, if_neg (by omega)]), fun i i0 i1 => ?_, fun i i0 i1 => ?_⟩
      · rw [a72]
        split
        · exact Or.inr rfl
        · exact t3 i i0 i1
      · rw [a72]
        constructor
        · intro h
          by_cases hi : i = c % 509
          · exact ⟨S 54 5, hn.1, by omega, by rw [a67, if_pos rfl]; exact hi.symm⟩
          · rw [if_neg hi] at h
            obtain ⟨s, s0, s1, s2⟩ := (t4 i i0 i1).mp h
            exact ⟨s, s0, by omega, by rw [a67, if_neg (by omega)]; exact s2⟩
        · rintro ⟨s, s0, s1, s2⟩
          rw [a67] at s2
          by_cases hs : s = S 54 5
          · rw [if_pos hs] at s2
            rw [if_pos s2.symm]
          · rw [if_neg hs] at s2
            split
            · rfl
            · exact (t4 i i0 i1).mpr ⟨s, s0, by omega, s2⟩
    have kk : ∀ S' : xS, kp [(54, 7), (54, 8), (54, 14)] (xup (xup (xup (xup (xup (xup (xup S 71 j (S 54 5 + 1)) 72 (c % 509) 1) 67 (S 54 5) c) 68 (S 54 5) last) 69 (S 54 5) way) 70 (S 54 5) t) 54 5 (S 54 5 + 1)) S' → (sx_br P (sv_dec c) = true → S' 54 7 = 105 ∧ S' 54 8 = S 54 5 ∧ S' 54 14 = 1) → (sx_br P (sv_dec c) = false → S' 54 7 = 0 ∧ S' 54 14 = if S 54 5 + 1 = 2000 then 1 else 0) → Q S' := by
      intro S' a h1 h0
      have a5 := a 54 5 rfl
      have a67 := a.cell 67 (fun _ => rfl)
      have a68 := a.cell 68 (fun _ => rfl)
      have a69 := a.cell 69 (fun _ => rfl)
      have a70 := a.cell 70 (fun _ => rfl)
      have a71 := a.cell 71 (fun _ => rfl)
      have a72 := a.cell 72 (fun _ => rfl)
      have e67 : ∀ i : Int, S' 67 i = if i = S 54 5 then c else S 67 i := fun i => by rw [a67]; simp [xup_at]
      refine k S' ((((((((kp.rf.up rfl).up rfl).up rfl).up rfl).up rfl).up rfl).up rfl).tr (a.mono rfl)) (tbn S' a5 e67 (fun i => by rw [a71]; simp [xup_at]) (fun i => by rw [a72]; simp [xup_at])) a5 e67 (fun i => by rw [a68]; simp [xup_at]) (fun i => by rw [a69]; simp [xup_at]) (fun i => by rw [a70]; simp [xup_at, htt]) h1 h0
    refine ⟨⟨by show -2147483648 ≤ S 54 5 + 1; omega, by show S 54 5 + 1 < 2147483648; omega⟩, ?_⟩
    generalize hT : (xup (xup (xup (xup (xup (xup (xup S 71 j (S 54 5 + 1)) 72 (c % 509) 1) 67 (S 54 5) c) 68 (S 54 5) last) 69 (S 54 5) way) 70 (S 54 5) t) 54 5 (S 54 5 + 1)) = T at kk
    have hT' : xup (xup (xup (xup (xup (xup (xup S 71 j (S 54 5 + 1)) 72 (c % 509) 1) 67 (S 54 5) c) 68 (S 54 5) last) 69 (S 54 5) way) 70 (S 54 5) t) 54 5 ((xup (xup (xup (xup (xup S 71 j (S 54 5 + 1)) 72 (c % 509) 1) 67 (S 54 5) c) 68 (S 54 5) last) 69 (S 54 5) way) 54 5 + 1) = T := hT
    show xL1 (w_X9_discovers_L124 (w_X9_discovers_J187 Q)) 0 (xup (xup (xup (xup (xup (xup (xup S 71 j (S 54 5 + 1)) 72 (c % 509) 1) 67 (S 54 5) c) 68 (S 54 5) last) 69 (S 54 5) way) 70 (S 54 5) t) 54 5 ((xup (xup (xup (xup (xup S 71 j (S 54 5 + 1)) 72 (c % 509) 1) 67 (S 54 5) c) 68 (S 54 5) last) 69 (S 54 5) way) 54 5 + 1))
    rw [hT']
    have T5 : T 54 5 = S 54 5 + 1 := by rw [← hT]; rfl
    have T7 : T 54 7 = 0 := by rw [← hT]; exact hf
    have TR : pw_R P T := by rw [← hT]; exact hRR.kp (((((((kp.rf (L := [(71, -9), (72, -9), (67, -9), (68, -9), (69, -9), (70, -9), (54, 5)]).up rfl).up rfl).up rfl).up rfl).up rfl).up rfl).up rfl) rfl
    have TH : sv_N 79 σ T := by rw [← hT]; exact hH.kp (((((((kp.rf (L := [(71, -9), (72, -9), (67, -9), (68, -9), (69, -9), (70, -9), (54, 5)]).up rfl).up rfl).up rfl).up rfl).up rfl).up rfl).up rfl) (fun _ => rfl) (fun _ => rfl) (fun _ => rfl) (fun _ => rfl)
    have out : ∀ S' : xS, kp [(54, 7), (54, 8)] T S' → ((sx_br P (sv_dec c) = true ∧ S' 54 7 = 105 ∧ S' 54 8 = S 54 5) ∨ (sx_br P (sv_dec c) = false ∧ S' 54 7 = 0)) → w_X9_discovers_J187 Q S' := by
      intro S' a h
      have e5 : S' 54 5 = S 54 5 + 1 := (a 54 5 rfl).trans T5
      refine ⟨fun z => ?_, fun z => ⟨fun y => ?_, fun y => ?_⟩⟩
      · rcases h with ⟨h1, h2, h3⟩ | ⟨h1, h2⟩
        · exact kk _ ((a.mono rfl).up rfl) (fun _ => ⟨h2, h3, rfl⟩) (fun w => by rw [h1] at w; cases w)
        · omega
      · rcases h with ⟨h1, h2, h3⟩ | ⟨h1, h2⟩
        · omega
        · exact kk _ ((a.mono rfl).up rfl) (fun w => by rw [h1] at w; cases w) (fun _ => ⟨h2, by rw [if_neg (by omega)]; rfl⟩)
      · rcases h with ⟨h1, h2, h3⟩ | ⟨h1, h2⟩
        · omega
        · exact kk _ ((a.mono rfl).up rfl) (fun w => by rw [h1] at w; cases w) (fun _ => ⟨h2, by rw [if_pos (by omega)]; rfl⟩)
    refine xL1_up (P 54 3) (fun v S' => kp [(54, 7), (54, 8)] T S' ∧ 0 ≤ v ∧ ((S' 54 7 = 105 ∧ S' 54 8 = S 54 5 ∧ sx_br P σ = true) ∨ (S' 54 7 = 0 ∧ ∀ i : Int, 0 ≤ i → i < v → ¬ σ 1 (P 63 i) = P 64 i))) ?_ 0 T (by omega) ⟨kp.rf, by omega, Or.inr ⟨T7, fun i _ _ => by omega⟩⟩
    rintro v S' ⟨a, hv0, hcase⟩ hv k2 hk2
    have R' := TR.kp a rfl
    have H' := TH.kp a (fun _ => rfl) (fun _ => rfl) (fun _ => rfl) (fun _ => rfl)
    unfold w_X9_discovers_L124
    rw [R'.2.2.1, R'.2.2.2.2.2.2.2.2.2.2.2.1, R'.2.2.2.2.2.2.2.2.2.2.2.2.1]
    refine ⟨fun z => out S' a ?_, fun z => ⟨fun y => out S' a ?_, fun y => ⟨⟨by omega, by omega⟩, ?_⟩⟩⟩
    · rcases hcase with h | ⟨h1, h2⟩
      · exact Or.inl ⟨by rw [br]; exact h.2.2, h.1, h.2.1⟩
      · refine Or.inr ⟨?_, h1⟩
        rw [br, ← Bool.not_eq_true]
        intro hcc
        unfold sx_br at hcc
        obtain ⟨i, hi, hi2⟩ := List.any_eq_true.mp hcc
        have := List.mem_range.mp hi
        exact h2 i (by omega) (by omega) (by simpa using hi2)
    · rcases hcase with h | ⟨h1, h2⟩
      · exact Or.inl ⟨by rw [br]; exact h.2.2, h.1, h.2.1⟩
      · exact absurd h1 y
    · rcases hcase with h | ⟨h1, h2⟩
      · omega
      · have w := hW.2.2.2.2.2.2.2.1 v hv0 (by omega)
        have e := H'.2.1 (P 63 v) w.1.1 w.1.2
        have e5 : S' 54 5 = S 54 5 + 1 := (a 54 5 rfl).trans T5
        rw [show S' 80 (P 63 v) = σ 1 (P 63 v) from e, e5]
        refine ⟨w.1, fun y2 => ⟨⟨by omega, by omega⟩, ⟨by omega, by omega⟩, hk2 _ (by omega) ⟨(a.up rfl).up rfl, by omega, Or.inl ⟨rfl, ?_, ?_⟩⟩⟩, fun y2 => ⟨⟨by omega, by omega⟩, hk2 S' (by omega) ⟨a, by omega, Or.inr ⟨h1, fun i i0 i1 => ?_⟩⟩⟩⟩
        · show S 54 5 + 1 - 1 = S 54 5
          omega
        · unfold sx_br
          refine List.any_eq_true.mpr ⟨v.toNat, List.mem_range.mpr (by omega), ?_⟩
          rw [Int.toNat_of_nonneg hv0]
          simpa using y2
        · by_cases hi : i = v
          · rw [hi]; exact y2
          · exact h2 i i0 (by omega)
  refine s9_slotOf (by omega) ?_
  refine xL1_inv (fun v S' => S' = S ∧ ∃ e : Nat, v = (hR c + e) % 8192 ∧ (e : Int) + ((j0 : Int) - v) % 8192 < 8192 ∧ ∀ e' : Nat, e' < e → S 71 ((hR c + e') % 8192) ≠ 0) (fun v _ => (((j0 : Int) - v) % 8192).toNat) ?_ (hR c) S ⟨rfl, 0, by omega, by omega, fun e' h => by omega⟩
  rintro v S' ⟨rfl, e, hve, hlt, hpre⟩ k2 hk2
  have v0 : 0 ≤ v ∧ v < 8192 := by omega
  have tr := t2.1 v v0.1 v0.2
  have st := rs_mod (j0 := (j0 : Int)) (v := v) ⟨by omega, by omega⟩ v0
  have hve' : (v + 1) % 8192 = (hR c + ((e + 1 : Nat) : Int)) % 8192 := by
    clear st hlt tr
    omega
  refine ⟨v0, fun z => ?_, fun z => ⟨⟨by omega, by omega⟩, by omega, hk2 _ S' ⟨rfl, e + 1, hve', ?_, fun e' he' => ?_⟩ ?_⟩⟩
  · have hz : S' 71 v = 0 := by clear st hve hve'; omega
    have he : (e : Int) < 8192 := by
      have : 0 ≤ ((j0 : Int) - v) % 8192 := Int.emod_nonneg _ (by decide)
      clear st hve hve' tr
      generalize ((j0 : Int) - v) % 8192 = d at *
      omega
    have pth : tb_path 8192 (S' 71) (hR c) v := ⟨e, he, hve, hpre⟩
    clear st hve hve' hlt hpre tr
    refine ⟨⟨by omega, by omega⟩, v0, by omega, by omega, by omega, fun y => ?_, fun y => fin _ _ v0.1 v0.2 hz pth (by rw [if_pos y])⟩
    have hp' : 0 ≤ last ∧ last < S' 54 5 := by omega
    have hd' := hd last hp'.1 hp'.2
    exact ⟨by omega, ⟨by omega, by omega⟩, fin _ _ v0.1 v0.2 hz pth (by rw [if_neg y])⟩
  · have hne : (j0 : Int) ≠ v := fun h => by rw [← h] at z; clear st hve hve' hlt tr; omega
    have := st hne
    clear hve hve' tr
    generalize ((j0 : Int) - v) % 8192 = d at *
    generalize ((j0 : Int) - (v + 1) % 8192) % 8192 = d' at *
    omega
  · by_cases h : e' = e
    · rw [h, ← hve]
      clear st hve hve' hlt
      omega
    · exact hpre e' (by omega)
  · have hne : (j0 : Int) ≠ v := fun h => by rw [← h] at z; clear st hve hve' hlt tr; omega
    have := st hne
    have nn : 0 ≤ ((j0 : Int) - (v + 1) % 8192) % 8192 := Int.emod_nonneg _ (by decide)
    show (((j0 : Int) - (v + 1) % 8192) % 8192).toNat < (((j0 : Int) - v) % 8192).toNat
    clear hve hve' tr hlt st
    generalize ((j0 : Int) - v) % 8192 = d at *
    generalize ((j0 : Int) - (v + 1) % 8192) % 8192 = d' at *
    omega
end PWRS

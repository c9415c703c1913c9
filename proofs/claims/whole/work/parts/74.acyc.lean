/-! pure layer: the walk of a graph without cycles -/
def rk (X : xS) (m : Int → Bool) (r : Int → Int) : Prop := ∀ s e : Int, 0 ≤ s → s < X 0 0 → m s = true → X 5 s ≤ e → e < X 5 (s + 1) → m (X 6 e / 8) = true → r (X 6 e / 8) < r s
def tA (X : xS) (r : Int → Int) (T : xS) : Prop := T 0 2 = T 0 3 ∧ (∀ i : Int, 0 ≤ i → i < T 0 2 → T 5 i = T 4 i ∧ T 2 (T 4 i) = T 1 (T 4 i)) ∧ (∀ i i' : Int, 0 ≤ i → i < i' → i' < T 0 2 → r (T 4 i') < r (T 4 i)) ∧ (∀ s t : Int, 0 ≤ s → s < X 0 0 → 0 ≤ t → t < X 0 0 → T 6 s ≠ -1 → T 6 s = T 6 t → s = t)
section PWAC
variable {X T : xS} {m : Int → Bool} {r : Int → Int} {g : Int}
theorem tA.en (hI : tI X m T) (hA : tA X r T) (hn : T 1 g = -1) (hr : ∀ i : Int, 0 ≤ i → i < T 0 2 → r g < r (T 4 i)) : tA X r (tj_en T g) := by
  obtain ⟨e1, e2, e3, e4, e5, e6, e00, e01, e02, e03⟩ := tj_en.rows T g
  have pa := fun i h0 h1 => hI.1.pa (i := i) h0 h1
  obtain ⟨h1, h2, h3, h4⟩ := hA
  have pg : ∀ i : Int, 0 ≤ i → i < T 0 2 → T 4 i ≠ g := fun i i0 i1 w => by
    have := (pa i i0 i1).2.1
    rw [w, hn] at this
    omega
  refine ⟨by omega, fun i i0 i1 => ?_, fun i i' i0 ii i1 => ?_, fun s t s0 s1 t0 t1 => by rw [e6]; exact h4 s t s0 s1 t0 t1⟩
  · rw [e4, e5]
    by_cases q : i = T 0 2
    · rw [if_pos q, if_pos (by omega)]
      exact ⟨rfl, by rw [e1, e2, if_pos rfl, if_pos rfl]⟩
    · rw [if_neg q, if_neg (by omega), e1, e2, if_neg (pg i i0 (by omega)), if_neg (pg i i0 (by omega))]
      exact h2 i i0 (by omega)
  · rw [e4, e4, if_neg (show ¬ i = T 0 2 by omega)]
    by_cases q : i' = T 0 2
    · rw [if_pos q]
      exact hr i i0 (by omega)
    · rw [if_neg q]
      exact h3 i i' i0 ii (by omega)
theorem tA.st (hG : gr X) (hr : rk X m r) (hI : tI X m T) (hA : tA X r T) (hp : 0 < T 0 2) : tA X r (tj_st X m T) := by
  have pa := hI.1.pa (i := T 0 2 - 1) (by omega) (by omega)
  have cu := hI.1.2.1 _ pa.1.1 pa.1.2
  have ma := cu.2.2.2.2 (by omega)
  obtain ⟨h1, h2, h3, h4⟩ := id hA
  unfold tj_st
  split
  · rename_i hc
    have gt := hG.t pa.1.1 pa.1.2 cu.2.1.1 hc
    have hcur := hI.cur pa.1 (by omega) hc
    have rr := hr _ _ pa.1.1 pa.1.2 ma cu.2.1.1 hc
    have rg : m (X 6 (T 3 (T 4 (T 0 2 - 1))) / 8) = true → ∀ i : Int, 0 ≤ i → i < T 0 2 → r (X 6 (T 3 (T 4 (T 0 2 - 1))) / 8) < r (T 4 i) := fun w i i0 i1 => by
      have a := rr w
      by_cases q : i = T 0 2 - 1
      · rw [q]; exact a
      · have := h3 i (T 0 2 - 1) i0 (by omega) (by omega)
        omega
    generalize T 4 (T 0 2 - 1) = a at *
    generalize X 6 (T 3 a) / 8 = g at *
    unfold tj_lk
    split
    · rename_i hm
      split
      · rename_i w
        exact tA.en (T := xup T 3 a (T 3 a + 1)) hcur hA w (rg hm)
      · rename_i w
        split
        · rename_i w6
          exfalso
          obtain ⟨j, j0, j1, e⟩ := hI.1.2.2.2.2.1 g gt.2.2.1 gt.2.2.2 w w6
          have := (h2 j j0 (by omega)).1
          have q := rg hm j j0 (by omega)
          rw [← this, e] at q
          omega
        · exact hA
    · exact hA
  · rename_i hc
    generalize hae : T 4 (T 0 2 - 1) = a at *
    have ta := h2 (T 0 2 - 1) (by omega) (by omega)
    rw [hae] at ta
    have hL := hI.1.l1 (a := a) hp ⟨T 0 2 - 1, by omega, by omega, ta.1⟩
    obtain ⟨r1, r3, r4, r5, r6, r00, r01, r03, r02, r2, r2'⟩ := tj_l1.rows T a
    have e2 : ∀ s : Int, (tj_l1 T a) 2 s = T 2 s := fun s => by
      by_cases w : T 0 2 - 1 ≤ 0
      · rw [r2 w]
      · rw [r2' (by omega)]
        split
        · rename_i q
          have tb := (h2 (T 0 2 - 1 - 1) (by omega) (by omega)).2
          have lt := hI.1.2.2.2.2.2.2.1 (T 0 2 - 1 - 1) (T 0 2 - 1) (by omega) (by omega) (by omega)
          rw [hae] at lt
          rw [q]
          unfold xmin
          rw [if_neg (by omega)]
        · rfl
    unfold tj_lv
    rw [if_pos (by rw [e2]; exact ta.2)]
    obtain ⟨v00, v01, v02, v03, v1, v2, v3, v4, v5, v6, v7⟩ := tj_cl.sp hL (a := a) (ja := T 0 2 - 1) (by omega) (by rw [r03]; omega) (by rw [r5]; exact ta.1)
    rw [r5, r03, r00] at v6
    rw [r5, r03, r6] at v7
    have v6' := v6 (T 0 2 - 1) (by omega) (by omega)
    rw [ta.1] at v6'
    have v7' : ∀ s : Int, s ≠ a → (tj_cl (tj_l1 T a) a) 6 s = T 6 s := fun s hs => v7 s (fun j y0 y1 y2 => hs (by
      have : j = T 0 2 - 1 := by omega
      rw [this, ta.1] at y2
      exact y2.symm))
    refine ⟨by rw [v02, v03, r02], fun i i0 i1 => ?_, fun i i' i0 ii i1 => ?_, fun s t s0 s1 t0 t1 hs he => ?_⟩
    · rw [v02, r02] at i1
      rw [v4, v5, r4, r5, v1, r1, v2, e2]
      exact h2 i i0 (by omega)
    · rw [v02, r02] at i1
      rw [v4, r4]
      exact h3 i i' i0 ii (by omega)
    · have bs := (hI.1.2.1 s s0 s1).2.2.2.1
      have bt' := (hI.1.2.1 t t0 t1).2.2.2.1
      have c0 := hI.1.1.2.2.1
      by_cases qs : s = a
      · by_cases qt : t = a
        · rw [qs, qt]
        · rw [qs, v6', v7' t qt] at he
          omega
      · by_cases qt : t = a
        · rw [qt, v6', v7' s qs] at he
          omega
        · rw [v7' s qs, v7' t qt] at he
          rw [v7' s qs] at hs
          exact h4 s t s0 s1 t0 t1 hs he
theorem tA.go (hG : gr X) (hr : rk X m r) : ∀ (n : Nat) (T : xS), tI X m T → tA X r T → tA X r (tj_go X m n T)
  | 0, T, _, h => h
  | n + 1, T, hI, h => by
    by_cases w : T 0 2 ≤ 0
    · have e : tj_go X m (n + 1) T = T := if_pos w
      rw [e]; exact h
    · have e : tj_go X m (n + 1) T = tj_go X m n (tj_st X m T) := if_neg w
      rw [e]
      exact tA.go hG hr n _ (hI.st hG (by omega)).1 (h.st hG hr hI (by omega))
theorem tA.al (hG : gr X) (hr : rk X m r) : ∀ n : Nat, (n : Int) ≤ X 0 0 → tA X r (tj_al X m n)
  | 0, _ => ⟨rfl, fun i i0 i1 => by have : i < 0 := i1; omega, fun i i' i0 ii i1 => by have : i' < 0 := i1; omega, fun s t _ _ _ _ w _ => absurd rfl w⟩
  | n + 1, hn => by
    have h := tA.al hG hr n (by omega)
    obtain ⟨h1, h2, h3⟩ := tI.al (m := m) hG n (by omega)
    by_cases w : m n = true ∧ (tj_al X m n) 1 n = -1
    · have e : tj_al X m (n + 1) = tj_go X m (X 0 6 + X 0 0).toNat (tj_en (tj_al X m n) n) := if_pos w
      rw [e]
      obtain ⟨i1, i2⟩ := h1.in hG h2 (g := n) (by omega) w.2 w.1
      exact tA.go hG hr _ _ i1 (h.en h1 w.2 (fun i i0 i1 => by omega))
    · have e : tj_al X m (n + 1) = tj_al X m n := if_neg w
      rw [e]; exact h
theorem RR.no {P : Int} (hG : gr X) (hr : rk X m r) (he : ∀ s : Int, 0 ≤ s → s < X 0 0 → m s = true → X 5 s ≠ X 5 (s + 1)) : ¬ RR X (tj_al X m (X 0 0).toNat) m P 0 := by
  have n0 := hG.1
  obtain ⟨hI, hm, hc⟩ := tI.end (m := m) hG
  have hA := tA.al hG hr (X 0 0).toNat (by omega)
  generalize tj_al X m (X 0 0).toNat = T at *
  rintro (⟨s, s0, s1, sm, se⟩ | ⟨c, c0, c1, ⟨s, s0, s1, sc, e, e0, e1, e2⟩, -⟩)
  · exact he s s0 s1 sm se
  · have gt := (hG.t s0 s1 e0 e1).2.2
    have st := hA.2.2.2 _ _ gt.1 gt.2 s0 s1 (by omega) e2
    have q := hr s e s0 s1 ((hm s s0 s1).mpr (by omega)) e0 e1 ((hm _ gt.1 gt.2).mpr (by omega))
    rw [st] at q
    omega
end PWAC

/-! pure layer: the class makes a move -/
def cxh (L : List (Nat × Int)) : Bool := [4, 22, 25, 26, 27, 28, 29, 30, 31, 21].all (fun q => L.all (fun e => !(e.1 == q))) && [8, 10, 11, 12, 13].all (fun i => !hit L 2 i)
theorem cxh.cell {L : List (Nat × Int)} (h : cxh L = true) {q : Nat} (hq : q ∈ [4, 22, 25, 26, 27, 28, 29, 30, 31, 21]) (i : Int) : hit L q i = false := by
  unfold cxh at h
  rw [Bool.and_eq_true] at h
  have h1 := List.all_eq_true.mp h.1 q hq
  rw [← Bool.not_eq_true]
  intro hc
  unfold hit at hc
  obtain ⟨e, he, h2⟩ := List.any_eq_true.mp hc
  have h3 := List.all_eq_true.mp h1 e he
  rw [Bool.and_eq_true] at h2
  rw [h2.1] at h3
  cases h3
theorem cxh.f {L : List (Nat × Int)} (h : cxh L = true) {i : Int} (hq : i ∈ [8, 10, 11, 12, 13]) : hit L 2 i = false := by
  unfold cxh at h
  rw [Bool.and_eq_true] at h
  have h1 := List.all_eq_true.mp h.2 i hq
  simpa using h1
theorem cx.kp {P X S S' : xS} {md : Int} {L : List (Nat × Int)} (h : cx P md X S) (hk : kp L S S') (hL : cxh L = true) : cx P md X S' := by
  have c : ∀ q, q ∈ [4, 22, 25, 26, 27, 28, 29, 30, 31, 21] → S' q = S q := fun q hq => hk.cell q (fun i => cxh.cell hL hq i)
  have f : ∀ i : Int, i ∈ [8, 10, 11, 12, 13] → S' 2 i = S 2 i := fun i hi => hk 2 i (cxh.f hL hi)
  unfold cx tb_C ex_kn at *
  rw [c 4 (by decide), c 22 (by decide), c 25 (by decide), c 26 (by decide), c 27 (by decide), c 28 (by decide), c 29 (by decide), c 30 (by decide), c 31 (by decide), c 21 (by decide), f 8 (by decide), f 10 (by decide), f 11 (by decide), f 12 (by decide), f 13 (by decide)]
  exact h
theorem sx_add.rows (P X : xS) (c g m : Int) : (∀ i : Int, (sx_add P X c g m) 1 i = if i = X 0 0 then c else X 1 i) ∧ (∀ i : Int, (sx_add P X c g m) 2 i = if i = X 0 0 then g else X 2 i) ∧ (∀ i : Int, (sx_add P X c g m) 3 i = if i = X 0 0 then m else X 3 i) ∧ (∀ i : Int, (sx_add P X c g m) 4 i = if i = X 0 0 then (if g = -1 then 0 else X 4 g + 1) else X 4 i) := by
  unfold sx_add
  split <;> exact ⟨fun i => by simp [sx_a0, xup_at], fun i => by simp [sx_a0, xup_at], fun i => by simp [sx_a0, xup_at], fun i => by simp [sx_a0, xup_at]⟩
theorem sx_add.br {P X : xS} {c g m : Int} (h : sx_br P (sv_dec c) = true) : (sx_add P X c g m) 0 2 = 105 ∧ (sx_add P X c g m) 0 4 = X 0 0 := by
  unfold sx_add; rw [if_pos h]; exact ⟨rfl, rfl⟩
theorem sx_add.nb {P X : xS} {c g m : Int} (h : sx_br P (sv_dec c) = false) : (sx_add P X c g m) 0 2 = X 0 2 := by
  unfold sx_add; rw [if_neg (by rw [h]; decide)]; rfl
abbrev cx_Lf : List (Nat × Int) := [(2, 8), (2, 13), (22, -9), (4, 0), (25, -9), (26, -9), (27, -9), (28, -9), (29, -9), (30, -9), (31, -9)]
section PWCM
variable {P S X σ : xS} {md : Int}
theorem s6_find {Q : Int → xS → Prop} {c g m : Int} (hW : pw_WF P) (hC : pw_C P S) (hH : sv_H 41 σ S) (hV : sv_V σ) (hc : c = sv_enc σ) (hcx : cx P md X S) (hd : ∀ s : Int, 0 ≤ s → s < X 0 0 → 0 ≤ X 4 s ∧ X 4 s < 2000) (hx' : xa P md (sx_add P X c g m)) (hn : 0 ≤ X 0 0 ∧ X 0 0 < 2000) (hf : X 0 2 = 0) (hnew : ∀ s : Int, 0 ≤ s → s < X 0 0 → ky md (X 1 s) ≠ ky md c) (hp : (g = -1 ∧ X 0 0 = 0) ∨ (0 ≤ g ∧ g < X 0 0))
    (k : ∀ S' : xS, kp cx_Lf S S' → cx P md (sx_add P X c g m) S' → Q (X 0 0) S') : w_X6_find c g m S Q := by
  obtain ⟨c1, c2, c3, c4, c5, c6, c7, c8, c9⟩ := hcx
  have cb := sv_enc.b hV
  have br := sx_br.E hW (sv_E.de hV)
  rw [← hc] at br
  obtain ⟨r1, r2, r3, r4⟩ := sx_add.rows P X c g m
  obtain ⟨n1, n2, n3, n4, n5, n6, n7⟩ := sx_add.n P X c g m
  refine s7_packValues hH hV (s1_add (par := g) c7 (by rw [c1]; exact hn) (by omega) (fun s s0 s1 => by rw [c1] at s1; rw [(c6 s s0 s1).1]; exact hnew s s0 s1) (by rw [c1]; exact hp) (fun s s0 s1 => by rw [c1] at s1; rw [(c6 s s0 s1).2.2.2.2.1]; exact hd s s0 s1) (fun S1 a1 t1 b0 b25 b26 b27 b28 b29 b30 => ?_))
  rw [c1] at b0 b25 b26 b27 b28 b29 b30 ⊢
  have recs : ∀ S2 : xS, (∀ q, q ∈ [25, 26, 27, 28, 29, 30] → S2 q = S1 q) → ∀ s : Int, 0 ≤ s → s < X 0 0 + 1 → S2 25 s = (sx_add P X c g m) 1 s ∧ S2 26 s = pv (sv_dec ((sx_add P X c g m) 1 s)) ∧ S2 27 s = (sx_add P X c g m) 2 s ∧ (1 ≤ s → S2 28 s = (sx_add P X c g m) 3 s) ∧ S2 29 s = (sx_add P X c g m) 4 s ∧ (S2 30 s = -1 ∨ S2 30 s = ((mvs P (sv_dec ((sx_add P X c g m) 1 s))).length : Int)) := by
    intro S2 hS2 s s0 s1
    rw [hS2 25 (by decide), hS2 26 (by decide), hS2 27 (by decide), hS2 28 (by decide), hS2 29 (by decide), hS2 30 (by decide), b25, b26, b27, b28, b29, b30, r1, r2, r3, r4]
    by_cases hs : s = X 0 0
    · simp only [if_pos hs]
      refine ⟨trivial, ?_, trivial, fun _ => trivial, ?_, Or.inl trivial⟩
      · rw [hc]; exact (pv.E (sv_E.de hV)).symm
      · rcases hp with ⟨h1, -⟩ | ⟨h1, h2⟩
        · rw [if_pos h1, if_pos h1]
        · rw [if_neg (by omega), if_neg (by omega), (c6 g h1 h2).2.2.2.2.1]
    · simp only [if_neg hs]
      exact c6 s s0 (by omega)
  have hC1 := hC.kp a1 rfl
  have hH1 := hH.kp a1 (fun _ => rfl) (fun _ => rfl) (fun _ => rfl) (fun _ => rfl) (fun _ => rfl)
  refine s4_breaks_n hW hC1 hH1 (fun hb => ⟨fun z => by omega, fun _ => ?_⟩) (fun hb => ⟨fun _ => ?_, fun z => absurd rfl z⟩)
  · rw [← br] at hb
    obtain ⟨e2, e4⟩ := sx_add.br (X := X) (g := g) (m := m) hb
    refine s6_endWith (X := sx_add P X c g m) (s := X 0 0) hx' (by omega) (by omega) (fun t t0 t1 => ?_) (fun S2 a2 k13 k8 k22 => k S2 ((a1.mono rfl).tr (a2.mono rfl)) ?_)
    · have := recs S1 (fun q _ => rfl) t t0 (by omega)
      exact ⟨this.2.2.1, this.2.2.2.1, this.2.2.2.2.1⟩
    · refine ⟨?_, ?_, fun z => by omega, fun _ => ⟨k13.trans e2.symm, ?_, fun i i0 i1 => ?_⟩, ?_, ?_, t1.kp a2 rfl rfl (fun _ => rfl) (fun _ => rfl), ?_, (c9.kp a1 (fun _ => rfl)).kp a2 (fun _ => rfl)⟩
      · rw [a2 4 0 rfl, b0, n1]
      · rw [a2 2 11 rfl, a1 2 11 rfl, n2]; exact c2
      · unfold tl_
        rw [e4, e2, k8]; simp
      · unfold tl_ at i1
        rw [e4, e2] at i1
        simp at i1
        unfold tr_
        rw [e4, if_neg (by omega)]
        exact k22 i i0 i1
      · rw [a2 2 12 rfl, a1 2 12 rfl, n3]; exact c5
      · rw [n1]
        exact recs S2 (fun q hq => by
          simp only [List.mem_cons, List.mem_nil_iff, or_false] at hq
          rcases hq with rfl | rfl | rfl | rfl | rfl | rfl <;> exact a2.cell _ (fun _ => rfl))
      · rw [a2 2 10 rfl, a1 2 10 rfl]; exact c8
  · rw [← br] at hb
    have e2 := sx_add.nb (X := X) (g := g) (m := m) hb
    refine k S1 (a1.mono rfl) ⟨?_, ?_, fun z => ?_, fun z => absurd (e2.trans hf) z, ?_, ?_, t1, ?_, c9.kp a1 (fun _ => rfl)⟩
    · rw [b0, n1]
    · rw [a1 2 11 rfl, n2]; exact c2
    · rw [a1 2 13 rfl]; exact c3 hf
    · rw [a1 2 12 rfl, n3]; exact c5
    · rw [n1]; exact recs S1 (fun q _ => rfl)
    · rw [a1 2 10 rfl]; exact c8
/-! the graph -/
def dz (X : xS) (a : Int) : Nat → Int
  | 0 => 0
  | k + 1 => xor32 (dz X a k) (X 6 (a + k) % 8)
theorem dz.succ (X : xS) (a : Int) (k : Nat) : dz X a (k + 1) = xor32 (dz X a k) (X 6 (a + k) % 8) := rfl
theorem dz.E {X Y : xS} {a : Int} : ∀ k : Nat, (∀ e : Int, a ≤ e → e < a + k → X 6 e = Y 6 e) → dz X a k = dz Y a k
  | 0, _ => rfl
  | k + 1, h => by
    unfold dz
    rw [dz.E k (fun e h1 h2 => h e h1 (by omega)), h (a + k) (by omega) (by omega)]
def cap_ (c : Int) : Prop := c = 8192 ∨ c = 16384 ∨ c = 32768 ∨ c = 65536 ∨ c = 131072 ∨ c = 262144 ∨ c = 524288 ∨ c = 784000
/-- where edges begin is in order -/
def xm (g : Int) (X : xS) : Prop := (∀ s : Int, 0 ≤ s → s < g → X 5 s ≤ X 5 (s + 1)) ∧ (∀ s : Int, 0 ≤ s → s ≤ g → 0 ≤ X 5 s ∧ X 5 s ≤ X 0 6)
def gl (md g : Int) (X S : xS) : Prop := S 5 0 = g ∧ S 32 0 = 0 ∧ cap_ (S 33 (-1)) ∧ (md = 97 → S 5 3 = X 0 6 ∧ X 0 6 ≤ S 33 (-1) ∧ (∀ e : Int, 0 ≤ e → e < X 0 6 → S 33 e = X 6 e) ∧ (∀ s : Int, 0 ≤ s → s ≤ g → S 32 s = X 5 s) ∧ (∀ s : Int, 0 ≤ s → s < g → S 34 s = dz X (X 5 s) (X 5 (s + 1) - X 5 s).toNat) ∧ S 34 g = dz X (X 5 g) (X 0 6 - X 5 g).toNat)
theorem gl.kp {md g : Int} {S' : xS} {L : List (Nat × Int)} (h : gl md g X S) (hk : kp L S S') (h0 : hit L 5 0 = false) (h1 : hit L 5 3 = false) (h2 : ∀ i, hit L 32 i = false) (h3 : ∀ i, hit L 33 i = false) (h4 : ∀ i, hit L 34 i = false) : gl md g X S' := by
  unfold gl
  rw [hk 5 0 h0, hk 5 3 h1, hk.cell 32 h2, hk.cell 33 h3, hk.cell 34 h4]
  exact h
theorem gl.eX {md g : Int} {Y : xS} (h : gl md g X S) (h5 : Y 5 = X 5) (h6 : Y 6 = X 6) (h0 : Y 0 6 = X 0 6) : gl md g Y S := by
  have hd : ∀ a k, dz Y a k = dz X a k := fun a k => dz.E k (fun e _ _ => by rw [h6])
  unfold gl
  rw [h0, h5, h6]
  simp only [hd]
  exact h
abbrev gl_L : List (Nat × Int) := [(33, -9), (5, 3), (34, -9)]
theorem s2_addEdge {Q : xS → Prop} {g t d : Int} (hgl : gl 97 g X S) (hxm : xm g X) (hg : 0 ≤ g ∧ g < 2000) (ht : 0 ≤ t ∧ t < 2000) (hd : 0 ≤ d ∧ d < 8) (hE : 0 ≤ X 0 6 ∧ X 0 6 < 784000) (k : ∀ S' : xS, kp gl_L S S' → gl 97 g (xup (xup X 6 (X 0 6) (8 * t + d)) 0 6 (X 0 6 + 1)) S' → Q S') : w_X2_addEdge t d S Q := by
  obtain ⟨g1, g2, g3, g4⟩ := hgl
  obtain ⟨k1, k2, k3, k4, k5, k6⟩ := g4 rfl
  have capb : 8192 ≤ S 33 (-1) ∧ S 33 (-1) ≤ 784000 := by unfold cap_ at g3; omega
  have eo : xor32 (t * 8) d = 8 * t + d := by
    have := xor_lo (a := t) (b := d) 3 ht.1 ⟨hd.1, by omega⟩ (by omega) (by decide)
    rw [show (2 : Int) ^ 3 = 8 by decide] at this
    omega
  have fin : ∀ S1 : xS, kp gl_L S S1 → S1 5 3 = X 0 6 → X 0 6 < S1 33 (-1) → cap_ (S1 33 (-1)) → (∀ e : Int, 0 ≤ e → e < X 0 6 → S1 33 e = X 6 e) → S1 34 = S 34 → w_X2_addEdge_J35 t d Q S1 := by
    intro S1 a1 h53 hlt hcap h33 h34
    have capb1 : 8192 ≤ S1 33 (-1) ∧ S1 33 (-1) ≤ 784000 := by unfold cap_ at hcap; omega
    have h50 : S1 5 0 = g := (a1 5 0 rfl).trans g1
    have xm5 := hxm.2 g hg.1 (Int.le_refl _)
    unfold w_X2_addEdge_J35
    rw [h53, h50, eo, h34, k6]
    refine ⟨by omega, fun z => by omega, fun z => ⟨by omega, by omega, by omega, xup_ne (by omega), k _ (((a1.up rfl).up rfl).up rfl) ?_⟩⟩
    have hdz : ∀ (a : Int) (k : Nat), 0 ≤ a → a + k ≤ X 0 6 → dz (xup (xup X 6 (X 0 6) (8 * t + d)) 0 6 (X 0 6 + 1)) a k = dz X a k := by
      intro a k ha hk
      refine dz.E k (fun e e0 e1 => ?_)
      simp [xup_at]
      omega
    refine ⟨?_, ?_, ?_, fun _ => ⟨rfl, ?_, fun e e0 e1 => ?_, fun s s0 s1 => ?_, fun s s0 s1 => ?_, ?_⟩⟩
    · exact h50
    · show S1 32 0 = 0
      rw [a1 32 0 rfl]; exact g2
    · show cap_ ((xup S1 33 (X 0 6) (8 * t + d)) 33 (-1))
      rw [xup_ne (by omega)]; exact hcap
    · show X 0 6 + 1 ≤ (xup S1 33 (X 0 6) (8 * t + d)) 33 (-1)
      rw [xup_ne (by omega)]; omega
    · have e1' : e < X 0 6 + 1 := e1
      show (xup S1 33 (X 0 6) (8 * t + d)) 33 e = (xup X 6 (X 0 6) (8 * t + d)) 6 e
      rw [xup_at, xup_at]
      by_cases he : e = X 0 6
      · rw [if_pos ⟨rfl, he⟩, if_pos ⟨rfl, he⟩]
      · rw [if_neg (fun w => he w.2), if_neg (fun w => he w.2)]
        exact h33 e e0 (by omega)
    · show S1 32 s = X 5 s
      rw [a1 32 s rfl]; exact k4 s s0 s1
    · have m1 := hxm.1 s s0 s1
      have m2 := hxm.2 s s0 (by omega)
      have m3 := hxm.2 (s + 1) (by omega) (by omega)
      show (xup (xup (xup S1 33 (X 0 6) (8 * t + d)) 5 3 (X 0 6 + 1)) 34 g (xor32 (dz X (X 5 g) (X 0 6 - X 5 g).toNat) d)) 34 s = dz _ (X 5 s) (X 5 (s + 1) - X 5 s).toNat
      rw [hdz (X 5 s) _ (by omega) (by omega), xup_at, if_neg (fun w => by omega)]
      show S1 34 s = _
      rw [h34]
      exact k5 s s0 s1
    · show (xup (xup (xup S1 33 (X 0 6) (8 * t + d)) 5 3 (X 0 6 + 1)) 34 g (xor32 (dz X (X 5 g) (X 0 6 - X 5 g).toNat) d)) 34 g = dz _ (X 5 g) (X 0 6 + 1 - X 5 g).toNat
      rw [xup_same, show (X 0 6 + 1 - X 5 g).toNat = (X 0 6 - X 5 g).toNat + 1 by omega, dz.succ, hdz (X 5 g) _ (by omega) (by omega)]
      congr 1
      have e9 : X 5 g + ((X 0 6 - X 5 g).toNat : Int) = X 0 6 := by omega
      rw [e9]
      show d = (xup X 6 (X 0 6) (8 * t + d)) 6 (X 0 6) % 8
      rw [xup_same]
      omega
  refine ⟨by omega, fun z => fin S kp.rf k1 (by omega) g3 k3 rfl, fun z => ?_⟩
  have hlt : S 33 (-1) < 784000 := by omega
  refine ⟨⟨by omega, ?_⟩, ?_, fun b => ?_⟩
  · unfold xmin
    split <;> omega
  · unfold cap_ at g3
    rcases g3 with h | h | h | h | h | h | h | h
    all_goals first | (rw [h]; decide) | omega
  · have eg : ∀ q i, q ≠ 33 → (xgrow S (xmin (2 * S 33 (-1)) 784000) b) q i = S q i := fun q i hq => by unfold xgrow; rw [if_neg hq]
    have e1 : (xgrow S (xmin (2 * S 33 (-1)) 784000) b) 33 (-1) = xmin (2 * S 33 (-1)) 784000 := rfl
    have e2 : ∀ e : Int, 0 ≤ e → e < X 0 6 → (xgrow S (xmin (2 * S 33 (-1)) 784000) b) 33 e = S 33 e := by
      intro e e0 e1
      unfold xgrow
      rw [if_pos rfl, if_neg (by omega), if_neg (by omega), if_pos (by omega)]
    refine fin _ (fun q i hq => eg q i (fun w => by rw [w] at hq; simp [hit] at hq)) (by rw [eg 5 3 (by decide)]; exact k1) ?_ ?_ (fun e e0 e1 => by rw [e2 e e0 e1]; exact k3 e e0 e1) (by funext i; exact eg 34 i (by decide))
    · rw [e1]
      unfold xmin
      split <;> omega
    · rw [e1]
      unfold cap_ at g3 ⊢
      unfold xmin
      split <;> omega
end PWCM

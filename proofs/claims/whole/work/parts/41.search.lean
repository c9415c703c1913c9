/-! pure layer: the search as such. X 0: 0 how many states, 1 gone on from, 2 the fault, 3 moves made, 4 the fault's state, 5 its move, 6 edges; X 1 codes, X 2 parents, X 3 ways, X 4 depths, X 5 where edges begin, X 6 edges -/
def sx_br (P σ : xS) : Bool := (List.range (P 54 3).toNat).any (fun k => decide (σ 1 (P 63 k) = P 64 k))
def sx_st (P σ : xS) : Bool := (List.range (P 54 1).toNat).any (fun p => decide (P 65 (12 * p + σ 0 p) = 0))
def sx_as (P σ : xS) (m : Int) : Bool := decide (P 58 (m / 64) = 97) && decide (σ 1 (P 59 (m / 64)) = P 60 (m / 64))
def sx_do (m : Int) : Int := if m % 64 = 0 then 2 ^ (m / 64 / 14).toNat else xor32 (2 ^ (m / 64 / 14).toNat) (2 ^ ((m % 64 - 1) / 14).toNat)
def sx_fnd (md : Int) (X : xS) (c : Int) : Int := match (List.range (X 0 0).toNat).find? (fun (s : Nat) => decide (ky md (X 1 (s : Int)) = ky md c)) with
  | some s => s
  | none => -1
def sx_a0 (X : xS) (c par way : Int) : xS := xup (xup (xup (xup (xup X 1 (X 0 0) c) 2 (X 0 0) par) 3 (X 0 0) way) 4 (X 0 0) (if par = -1 then 0 else X 4 par + 1)) 0 0 (X 0 0 + 1)
def sx_add (P X : xS) (c par way : Int) : xS := if sx_br P (sv_dec c) = true then xup (xup (sx_a0 X c par way) 0 2 105) 0 4 (X 0 0) else sx_a0 X c par way
def sx_ed (md : Int) (X : xS) (s d : Int) : xS := if md = 97 then xup (xup X 6 (X 0 6) (8 * s + d)) 0 6 (X 0 6 + 1) else X
noncomputable def sx_mk (P : xS) (md : Int) (X : xS) (g m : Int) : xS :=
  if sx_as P (sv_dec (X 1 g)) m = true then xup (xup (xup X 0 2 97) 0 4 g) 0 5 m
  else if sx_fnd md X (gc P md (X 1 g) m) = -1 then sx_ed md (sx_add P (xup X 0 3 (X 0 3 + 1)) (gc P md (X 1 g) m) g m) (X 0 0) (sx_do m)
  else sx_ed md (xup X 0 3 (X 0 3 + 1)) (sx_fnd md X (gc P md (X 1 g) m)) (sx_do m)
noncomputable def sx_ml (P : xS) (md g : Int) : List Int → xS → xS
  | [], X => X
  | m :: l, X => if X 0 2 ≠ 0 ∨ 2000 ≤ X 0 0 then X else sx_ml P md g l (sx_mk P md X g m)
/-- nothing outside the process can see what it does at the location -/
def sx_pr (P σ : xS) (p : Nat) : Bool := (List.range (P 55 p).toNat).all (fun s => !decide (P 56 (14 * p + s) = σ 0 p) || (decide (P 58 (14 * p + s) = 107) || ((decide (P 58 (14 * p + s) = 115) || decide (P 58 (14 * p + s) = 105) || decide (P 58 (14 * p + s) = 61) || decide (P 58 (14 * p + s) = 33)) && (decide (P 59 (14 * p + s) = 3 + 2 * p) || decide (P 59 (14 * p + s) = 4 + 2 * p))))) && (List.range (P 54 3).toNat).all (fun k => !decide (P 63 k = 3 + 2 * p) && !decide (P 63 k = 4 + 2 * p))
noncomputable def sx_en (P : xS) (md : Int) (X : xS) (g : Int) (p : Nat) : Bool := sx_pr P (sv_dec (X 1 g)) p && ((mvs P (sv_dec (X 1 g))).any (fun m => decide (m / 64 / 14 = p)) && (mvs P (sv_dec (X 1 g))).all (fun m => !decide (m / 64 / 14 = p) || decide (sx_fnd md X (gc P md (X 1 g) m) = -1)))
noncomputable def sx_ms (P : xS) (md : Int) (X : xS) (g : Int) : List Int := if md = 112 then (match (List.range (P 54 1).toNat).find? (fun p => sx_en P md X g p) with
    | some p => (mvs P (sv_dec (X 1 g))).filter (fun m => decide (m / 64 / 14 = p))
    | none => mvs P (sv_dec (X 1 g))) else mvs P (sv_dec (X 1 g))
noncomputable def sx_go (P : xS) (md : Int) (X : xS) : xS :=
  if mvs P (sv_dec (X 1 (X 0 1))) = [] ∧ sx_st P (sv_dec (X 1 (X 0 1))) = true then xup (xup (xup X 0 1 (X 0 1 + 1)) 0 2 100) 0 4 (X 0 1)
  else xup (sx_ml P md (X 0 1) (sx_ms P md (xup X 0 1 (X 0 1 + 1)) (X 0 1)) (xup X 0 1 (X 0 1 + 1))) 5 (X 0 1 + 1) ((sx_ml P md (X 0 1) (sx_ms P md (xup X 0 1 (X 0 1 + 1)) (X 0 1)) (xup X 0 1 (X 0 1 + 1))) 0 6)
noncomputable def sx_sr (P : xS) (md : Int) : Nat → xS → xS
  | 0, X => X
  | b + 1, X => if X 0 2 ≠ 0 ∨ 2000 ≤ X 0 0 ∨ X 0 0 ≤ X 0 1 then X else sx_sr P md b (sx_go P md X)
theorem sx_fnd.or (md : Int) (X : xS) (c : Int) : (sx_fnd md X c = -1 ∧ ∀ s : Int, 0 ≤ s → s < X 0 0 → ky md (X 1 s) ≠ ky md c) ∨ (0 ≤ sx_fnd md X c ∧ sx_fnd md X c < X 0 0 ∧ ky md (X 1 (sx_fnd md X c)) = ky md c) := by
  unfold sx_fnd
  split
  · rename_i s h
    right
    have h1 := List.mem_range.mp (List.mem_of_find?_eq_some h)
    have h2 := List.find?_some h
    exact ⟨by omega, by omega, by simpa using h2⟩
  · rename_i h
    left
    refine ⟨rfl, fun s a b e => ?_⟩
    rw [List.find?_eq_none] at h
    have := h s.toNat (List.mem_range.mpr (by omega))
    rw [Int.toNat_of_nonneg a] at this
    simp [e] at this
/-- each of the doers is a process -/
def dv (P : xS) (d : Int) : Prop := ∀ p : Nat, p < 3 → d / 2 ^ p % 2 = 1 → (p : Int) < P 54 1
/-- what holds of a search at any time -/
def xa (P : xS) (md : Int) (X : xS) : Prop := (1 ≤ X 0 0 ∧ X 0 0 ≤ 2000) ∧ (∀ s : Int, 0 ≤ s → s < X 0 0 → sv_ok (X 1 s) ∧ sv_rm P (sv_dec (X 1 s)) ∧ 0 ≤ X 4 s ∧ X 4 s ≤ s) ∧ (X 1 0 = sv_enc (sv_0 P) ∧ X 2 0 = -1 ∧ X 4 0 = 0) ∧ (∀ s : Int, 1 ≤ s → s < X 0 0 → (0 ≤ X 2 s ∧ X 2 s < s) ∧ X 3 s ∈ mvs P (sv_dec (X 1 (X 2 s))) ∧ X 1 s = gc P md (X 1 (X 2 s)) (X 3 s) ∧ X 4 s = X 4 (X 2 s) + 1) ∧ (∀ s t : Int, 0 ≤ s → s < X 0 0 → 0 ≤ t → t < X 0 0 → ky md (X 1 s) = ky md (X 1 t) → s = t) ∧ (X 0 2 = 0 ∨ ((0 ≤ X 0 4 ∧ X 0 4 < X 0 0) ∧ ((X 0 2 = 105 ∧ sx_br P (sv_dec (X 1 (X 0 4))) = true) ∨ (X 0 2 = 100 ∧ mvs P (sv_dec (X 1 (X 0 4))) = [] ∧ sx_st P (sv_dec (X 1 (X 0 4))) = true) ∨ (X 0 2 = 97 ∧ X 0 5 ∈ mvs P (sv_dec (X 1 (X 0 4))) ∧ sx_as P (sv_dec (X 1 (X 0 4))) (X 0 5) = true)))) ∧ (0 ≤ X 0 3 ∧ 0 ≤ X 0 6) ∧ (∀ e : Int, 0 ≤ e → e < X 0 6 → (0 ≤ X 6 e ∧ X 6 e / 8 < X 0 0) ∧ dv P (X 6 e % 8))
theorem sx_do.b {P σ : xS} {m : Int} (hW : pw_WF P) (h : mv_ok P σ m) : 0 ≤ sx_do m ∧ sx_do m < 8 := by
  obtain ⟨hv, h0, h1, h2, h3⟩ := h.n hW rfl
  have o : ∀ a b : Int, (a = 0 ∨ a = 1 ∨ a = 2) → (b = 0 ∨ b = 1 ∨ b = 2) → 0 ≤ xor32 (2 ^ a.toNat) (2 ^ b.toNat) ∧ xor32 (2 ^ a.toNat) (2 ^ b.toNat) < 8 := by
    intro a b ha hb
    rcases ha with rfl | rfl | rfl <;> rcases hb with rfl | rfl | rfl <;> decide +kernel
  have o1 : ∀ a : Int, (a = 0 ∨ a = 1 ∨ a = 2) → 0 ≤ (2 : Int) ^ a.toNat ∧ (2 : Int) ^ a.toNat < 8 := by
    intro a ha
    rcases ha with rfl | rfl | rfl <;> decide +kernel
  unfold sx_do
  split
  · exact o1 _ (by omega)
  · rcases h3 with ⟨z, -⟩ | ⟨z1, z2, z3, z4, z5, z6, -⟩
    · contradiction
    · exact o _ _ (by omega) (by omega)
theorem dv_1 : ∀ a p : Fin 3, (2 : Int) ^ a.val / 2 ^ p.val % 2 = 1 → p = a := by decide +kernel
theorem dv_2 : ∀ a b p : Fin 3, xor32 ((2 : Int) ^ a.val) ((2 : Int) ^ b.val) / 2 ^ p.val % 2 = 1 → p = a ∨ p = b := by decide +kernel
theorem sx_do.dv {P σ : xS} {m : Int} (hW : pw_WF P) (h : mv_ok P σ m) : dv P (sx_do m) := by
  obtain ⟨hv, h0, h1, h2, h3⟩ := h.n hW rfl
  intro p hp
  obtain ⟨a, ea⟩ : ∃ a : Nat, m / 64 / 14 = (a : Int) := ⟨(m / 64 / 14).toNat, by omega⟩
  unfold sx_do
  split
  · intro w
    rw [ea, Int.toNat_natCast] at w
    have := dv_1 ⟨a, by omega⟩ ⟨p, hp⟩ w
    have := congrArg Fin.val this
    have : p = a := this
    omega
  · rcases h3 with ⟨z, -⟩ | ⟨z1, z2, z3, z4, z5, z6, -⟩
    · contradiction
    · obtain ⟨b, eb⟩ : ∃ b : Nat, (m % 64 - 1) / 14 = (b : Int) := ⟨((m % 64 - 1) / 14).toNat, by omega⟩
      intro w
      rw [ea, eb, Int.toNat_natCast, Int.toNat_natCast] at w
      rcases dv_2 ⟨a, by omega⟩ ⟨b, by omega⟩ ⟨p, hp⟩ w with y | y
      · have : p = a := congrArg Fin.val y
        omega
      · have : p = b := congrArg Fin.val y
        omega
theorem xa.up0 {P X : xS} {md : Int} (h : xa P md X) (i v : Int) (h0 : i = 1) : xa P md (xup X 0 i v) := by
  subst h0
  exact h
theorem xa.made {P X : xS} {md : Int} (h : xa P md X) : xa P md (xup X 0 3 (X 0 3 + 1)) := by
  obtain ⟨a1, a2, a3, a4, a5, a6, a7, a8⟩ := h
  exact ⟨a1, a2, a3, a4, a5, a6, ⟨by show 0 ≤ X 0 3 + 1; omega, a7.2⟩, a8⟩
theorem xa.close {P X : xS} {md i v : Int} (h : xa P md X) : xa P md (xup X 5 i v) := h
theorem xa.add {P X : xS} {md g m c : Int} (hW : pw_WF P) (h : xa P md X) (hg : 0 ≤ g ∧ g < X 0 0) (hn : X 0 0 < 2000) (hf : X 0 2 = 0) (hm : m ∈ mvs P (sv_dec (X 1 g))) (hc : c = gc P md (X 1 g) m) (hnew : ∀ s : Int, 0 ≤ s → s < X 0 0 → ky md (X 1 s) ≠ ky md c) : xa P md (sx_add P X c g m) := by
  obtain ⟨a1, a2, a3, a4, a5, a6, a7, a8⟩ := h
  have g2 := a2 g hg.1 hg.2
  have ok := gc.ok (md := md) hW g2.2.1 (mvs_mem hW hm)
  rw [← hc] at ok
  have base : xa P md (sx_a0 X c g m) := by
    have e0 : (sx_a0 X c g m) 0 0 = X 0 0 + 1 := rfl
    have e1 : ∀ i : Int, (sx_a0 X c g m) 1 i = if i = X 0 0 then c else X 1 i := fun i => by simp [sx_a0, xup_at]
    have e2 : ∀ i : Int, (sx_a0 X c g m) 2 i = if i = X 0 0 then g else X 2 i := fun i => by simp [sx_a0, xup_at]
    have e3 : ∀ i : Int, (sx_a0 X c g m) 3 i = if i = X 0 0 then m else X 3 i := fun i => by simp [sx_a0, xup_at]
    have e4 : ∀ i : Int, (sx_a0 X c g m) 4 i = if i = X 0 0 then X 4 g + 1 else X 4 i := fun i => by simp [sx_a0, xup_at, show ¬ g = -1 by omega]
    have e6 : (sx_a0 X c g m) 6 = X 6 := rfl
    have f2 : (sx_a0 X c g m) 0 2 = X 0 2 := rfl
    have f3 : (sx_a0 X c g m) 0 3 = X 0 3 := rfl
    have f6 : (sx_a0 X c g m) 0 6 = X 0 6 := rfl
    unfold xa
    rw [e0, e6, f2, f3, f6]
    simp only [e1, e2, e3, e4]
    refine ⟨by omega, fun s s0 s1 => ?_, ?_, fun s s0 s1 => ?_, fun s t s0 s1 t0 t1 e => ?_, Or.inl hf, a7, fun e e0 e1 => ?_⟩
    · by_cases hs : s = X 0 0
      · rw [if_pos hs, if_pos hs]
        exact ⟨ok.1, ok.2, by omega, by omega⟩
      · rw [if_neg hs, if_neg hs]
        exact a2 s s0 (by omega)
    · rw [if_neg (by omega), if_neg (by omega), if_neg (by omega)]
      exact a3
    · by_cases hs : s = X 0 0
      · rw [if_pos hs, if_pos hs, if_pos hs, if_pos hs, if_neg (by omega), if_neg (by omega)]
        exact ⟨by omega, hm, hc, rfl⟩
      · have := a4 s s0 (by omega)
        rw [if_neg hs, if_neg hs, if_neg hs, if_neg hs, if_neg (by omega), if_neg (by omega)]
        exact this
    · by_cases hs : s = X 0 0
      · by_cases ht : t = X 0 0
        · omega
        · rw [if_pos hs, if_neg ht] at e
          exact absurd e.symm (hnew t t0 (by omega))
      · by_cases ht : t = X 0 0
        · rw [if_neg hs, if_pos ht] at e
          exact absurd e (hnew s s0 (by omega))
        · rw [if_neg hs, if_neg ht] at e
          exact a5 s t s0 (by omega) t0 (by omega) e
    · have := a8 e e0 e1
      exact ⟨by omega, this.2⟩
  unfold sx_add
  split
  · rename_i hb
    obtain ⟨b1, b2, b3, b4, b5, b6, b7, b8⟩ := base
    refine ⟨b1, b2, b3, b4, b5, Or.inr ⟨?_, Or.inl ⟨rfl, ?_⟩⟩, b7, b8⟩
    · show 0 ≤ X 0 0 ∧ X 0 0 < X 0 0 + 1
      omega
    · have e1 : (sx_a0 X c g m) 1 (X 0 0) = c := by simp [sx_a0, xup_at]
      show sx_br P (sv_dec ((sx_a0 X c g m) 1 (X 0 0))) = true
      rw [e1]
      exact hb
  · exact base
theorem sx_add.n (P X : xS) (c g m : Int) : (sx_add P X c g m) 0 0 = X 0 0 + 1 ∧ (sx_add P X c g m) 0 1 = X 0 1 ∧ (sx_add P X c g m) 0 3 = X 0 3 ∧ (sx_add P X c g m) 0 6 = X 0 6 ∧ (sx_add P X c g m) 5 = X 5 ∧ (sx_add P X c g m) 6 = X 6 ∧ (∀ s : Int, s < X 0 0 → (sx_add P X c g m) 1 s = X 1 s) := by
  unfold sx_add
  split
  · exact ⟨rfl, rfl, rfl, rfl, rfl, rfl, fun s hs => by simp [sx_a0, xup_at]; omega⟩
  · exact ⟨rfl, rfl, rfl, rfl, rfl, rfl, fun s hs => by simp [sx_a0, xup_at]; omega⟩
theorem xa.ed {P X : xS} {md s d : Int} (h : xa P md X) (hs : 0 ≤ s ∧ s < X 0 0) (hd : 0 ≤ d ∧ d < 8) (hdv : dv P d) : xa P md (sx_ed md X s d) := by
  unfold sx_ed
  split
  · obtain ⟨a1, a2, a3, a4, a5, a6, a7, a8⟩ := h
    refine ⟨a1, a2, a3, a4, a5, a6, ⟨a7.1, by show 0 ≤ X 0 6 + 1; omega⟩, fun e e0 e1 => ?_⟩
    have e1' : e < X 0 6 + 1 := e1
    show (0 ≤ (xup X 6 (X 0 6) (8 * s + d)) 6 e ∧ (xup X 6 (X 0 6) (8 * s + d)) 6 e / 8 < X 0 0) ∧ dv P ((xup X 6 (X 0 6) (8 * s + d)) 6 e % 8)
    rw [xup_at]
    split
    · exact ⟨by omega, by rw [show (8 * s + d) % 8 = d by omega]; exact hdv⟩
    · exact a8 e e0 (by omega)
  · exact h
theorem sx_ed.n (md : Int) (X : xS) (s d : Int) : (sx_ed md X s d) 0 0 = X 0 0 ∧ (sx_ed md X s d) 0 1 = X 0 1 ∧ (sx_ed md X s d) 0 2 = X 0 2 ∧ (sx_ed md X s d) 0 3 = X 0 3 ∧ (X 0 6 ≤ (sx_ed md X s d) 0 6 ∧ (sx_ed md X s d) 0 6 ≤ X 0 6 + 1) ∧ (sx_ed md X s d) 5 = X 5 ∧ (sx_ed md X s d) 1 = X 1 := by
  unfold sx_ed
  split
  · exact ⟨rfl, rfl, rfl, rfl, by show X 0 6 ≤ X 0 6 + 1 ∧ X 0 6 + 1 ≤ X 0 6 + 1; omega, rfl, rfl⟩
  · exact ⟨rfl, rfl, rfl, rfl, by omega, rfl, rfl⟩
theorem xa.mk {P X : xS} {md g m : Int} (hW : pw_WF P) (h : xa P md X) (hg : 0 ≤ g ∧ g < X 0 0) (hn : X 0 0 < 2000) (hf : X 0 2 = 0) (hm : m ∈ mvs P (sv_dec (X 1 g))) : xa P md (sx_mk P md X g m) ∧ X 0 0 ≤ (sx_mk P md X g m) 0 0 ∧ (sx_mk P md X g m) 0 1 = X 0 1 ∧ (sx_mk P md X g m) 0 3 ≤ X 0 3 + 1 ∧ (X 0 6 ≤ (sx_mk P md X g m) 0 6 ∧ (sx_mk P md X g m) 0 6 ≤ X 0 6 + 1) ∧ (sx_mk P md X g m) 5 = X 5 ∧ (∀ s : Int, s < X 0 0 → (sx_mk P md X g m) 1 s = X 1 s) := by
  have dob := sx_do.b hW (mvs_mem hW hm)
  have dov := sx_do.dv hW (mvs_mem hW hm)
  unfold sx_mk
  split
  · rename_i has
    obtain ⟨a1, a2, a3, a4, a5, a6, a7, a8⟩ := h
    refine ⟨⟨a1, a2, a3, a4, a5, Or.inr ⟨hg, Or.inr (Or.inr ⟨rfl, hm, has⟩)⟩, a7, a8⟩, Int.le_refl _, rfl, ?_, ?_, rfl, fun s hs => rfl⟩
    · show X 0 3 ≤ X 0 3 + 1; omega
    · show X 0 6 ≤ X 0 6 ∧ X 0 6 ≤ X 0 6 + 1; omega
  · split
    · rename_i hfn
      have hnew : ∀ s : Int, 0 ≤ s → s < X 0 0 → ky md (X 1 s) ≠ ky md (gc P md (X 1 g) m) := by
        rcases sx_fnd.or md X (gc P md (X 1 g) m) with h1 | h1
        · exact h1.2
        · omega
      have h2 := xa.add (md := md) (c := gc P md (X 1 g) m) hW h.made hg hn hf hm rfl hnew
      obtain ⟨n1, n2, n3, n4, n5, n6, n7⟩ := sx_add.n P (xup X 0 3 (X 0 3 + 1)) (gc P md (X 1 g) m) g m
      have n1' : (sx_add P (xup X 0 3 (X 0 3 + 1)) (gc P md (X 1 g) m) g m) 0 0 = X 0 0 + 1 := n1
      obtain ⟨k1, k2, k3, k4, k5, k6, k7⟩ := sx_ed.n md (sx_add P (xup X 0 3 (X 0 3 + 1)) (gc P md (X 1 g) m) g m) (X 0 0) (sx_do m)
      refine ⟨h2.ed (by omega) dob dov, by omega, k2.trans n2, ?_, ?_, k6.trans n5, fun s hs => (congrFun k7 s).trans (n7 s hs)⟩
      · rw [k4, n3]; show X 0 3 + 1 ≤ X 0 3 + 1; omega
      · rw [n4] at k5; exact k5
    · rename_i hfn
      have hfd : 0 ≤ sx_fnd md X (gc P md (X 1 g) m) ∧ sx_fnd md X (gc P md (X 1 g) m) < X 0 0 := by
        rcases sx_fnd.or md X (gc P md (X 1 g) m) with h1 | h1
        · exact absurd h1.1 hfn
        · exact ⟨h1.1, h1.2.1⟩
      obtain ⟨k1, k2, k3, k4, k5, k6, k7⟩ := sx_ed.n md (xup X 0 3 (X 0 3 + 1)) (sx_fnd md X (gc P md (X 1 g) m)) (sx_do m)
      refine ⟨h.made.ed hfd dob dov, ?_, k2, ?_, k5, k6, fun s hs => congrFun k7 s⟩
      · rw [k1]; exact Int.le_refl _
      · rw [k4]; show X 0 3 + 1 ≤ X 0 3 + 1; omega
theorem sx_ml.cut {P X : xS} {md g : Int} (h : X 0 2 ≠ 0 ∨ 2000 ≤ X 0 0) (l : List Int) : sx_ml P md g l X = X := by
  cases l with
  | nil => rfl
  | cons m l => unfold sx_ml; rw [if_pos h]
theorem xa.ml {P : xS} {md g : Int} (hW : pw_WF P) : ∀ (l : List Int) (X : xS), xa P md X → (0 ≤ g ∧ g < X 0 0) → (∀ m ∈ l, m ∈ mvs P (sv_dec (X 1 g))) → xa P md (sx_ml P md g l X) ∧ X 0 0 ≤ (sx_ml P md g l X) 0 0 ∧ (sx_ml P md g l X) 0 1 = X 0 1 ∧ (sx_ml P md g l X) 0 3 ≤ X 0 3 + l.length ∧ (X 0 6 ≤ (sx_ml P md g l X) 0 6 ∧ (sx_ml P md g l X) 0 6 ≤ X 0 6 + l.length) ∧ (sx_ml P md g l X) 5 = X 5
  | [], X, h, hg, hl => ⟨h, Int.le_refl _, rfl, by show X 0 3 ≤ X 0 3 + ((0 : Nat) : Int); omega, by show X 0 6 ≤ X 0 6 ∧ X 0 6 ≤ X 0 6 + ((0 : Nat) : Int); omega, rfl⟩
  | m :: l, X, h, hg, hl => by
    by_cases hcut : X 0 2 ≠ 0 ∨ 2000 ≤ X 0 0
    · rw [sx_ml.cut hcut]
      exact ⟨h, Int.le_refl _, rfl, by omega, by omega, rfl⟩
    · have e : sx_ml P md g (m :: l) X = sx_ml P md g l (sx_mk P md X g m) := by
        show (if X 0 2 ≠ 0 ∨ 2000 ≤ X 0 0 then X else sx_ml P md g l (sx_mk P md X g m)) = _
        rw [if_neg hcut]
      rw [e]
      obtain ⟨k1, k2, k3, k4, k5, k6, k7⟩ := xa.mk hW h hg (by omega) (by omega) (hl m List.mem_cons_self)
      obtain ⟨r1, r2, r3, r4, r5, r6⟩ := xa.ml hW (g := g) l (sx_mk P md X g m) k1 (by omega) (fun m' hm' => by rw [k7 g hg.2]; exact hl m' (List.mem_cons_of_mem _ hm'))
      have el : ((m :: l).length : Int) = l.length + 1 := by simp
      exact ⟨r1, by omega, r3.trans k3, by omega, by omega, r6.trans k6⟩
theorem sx_ms.sub (P : xS) (md : Int) (X : xS) (g : Int) : (∀ m ∈ sx_ms P md X g, m ∈ mvs P (sv_dec (X 1 g))) ∧ (sx_ms P md X g).length ≤ (mvs P (sv_dec (X 1 g))).length := by
  unfold sx_ms
  split
  · split
    · exact ⟨fun m hm => (List.mem_filter.mp hm).1, List.length_filter_le _ _⟩
    · exact ⟨fun m hm => hm, Nat.le_refl _⟩
  · exact ⟨fun m hm => hm, Nat.le_refl _⟩
/-- between two states that are gone on from -/
def xb (X : xS) : Prop := (0 ≤ X 0 1 ∧ X 0 1 ≤ X 0 0) ∧ X 0 3 ≤ 392 * X 0 1 ∧ X 0 6 ≤ 392 * X 0 1 ∧ X 5 0 = 0 ∧ (X 0 2 = 0 → (∀ s : Int, 0 ≤ s → s < X 0 1 → X 5 s ≤ X 5 (s + 1)) ∧ X 5 (X 0 1) = X 0 6)
theorem xa.go {P X : xS} {md : Int} (hW : pw_WF P) (h : xa P md X) (hb : xb X) (hg : X 0 1 < X 0 0) (hf : X 0 2 = 0) (hlen : (mvs P (sv_dec (X 1 (X 0 1)))).length ≤ 392) : xa P md (sx_go P md X) ∧ xb (sx_go P md X) ∧ X 0 0 ≤ (sx_go P md X) 0 0 := by
  obtain ⟨b1, b2, b3, b4, b5⟩ := hb
  unfold sx_go
  split
  · rename_i hd
    obtain ⟨a1, a2, a3, a4, a5, a6, a7, a8⟩ := h
    refine ⟨⟨a1, a2, a3, a4, a5, Or.inr ⟨⟨b1.1, hg⟩, Or.inr (Or.inl ⟨rfl, hd.1, hd.2⟩)⟩, a7, a8⟩, ⟨?_, ?_, ?_, b4, fun z => ?_⟩, Int.le_refl _⟩
    · show 0 ≤ X 0 1 + 1 ∧ X 0 1 + 1 ≤ X 0 0; omega
    · show X 0 3 ≤ 392 * (X 0 1 + 1); omega
    · show X 0 6 ≤ 392 * (X 0 1 + 1); omega
    · have z' : (100 : Int) = 0 := z
      omega
  · have hx : xa P md (xup X 0 1 (X 0 1 + 1)) := h.up0 _ _ rfl
    have sub := sx_ms.sub P md (xup X 0 1 (X 0 1 + 1)) (X 0 1)
    obtain ⟨r1, r2, r3, r4, r5, r6⟩ := xa.ml hW (sx_ms P md (xup X 0 1 (X 0 1 + 1)) (X 0 1)) (xup X 0 1 (X 0 1 + 1)) (g := X 0 1) hx ⟨b1.1, hg⟩ sub.1
    have hl2 : (sx_ms P md (xup X 0 1 (X 0 1 + 1)) (X 0 1)).length ≤ 392 := Nat.le_trans sub.2 hlen
    generalize sx_ml P md (X 0 1) (sx_ms P md (xup X 0 1 (X 0 1 + 1)) (X 0 1)) (xup X 0 1 (X 0 1 + 1)) = Y at *
    have r2' : X 0 0 ≤ Y 0 0 := r2
    have r3' : Y 0 1 = X 0 1 + 1 := r3
    have r4' : Y 0 3 ≤ X 0 3 + (sx_ms P md (xup X 0 1 (X 0 1 + 1)) (X 0 1)).length := r4
    have r5' : X 0 6 ≤ Y 0 6 ∧ Y 0 6 ≤ X 0 6 + (sx_ms P md (xup X 0 1 (X 0 1 + 1)) (X 0 1)).length := r5
    have r6' : Y 5 = X 5 := r6
    have bb := b5 hf
    refine ⟨r1.close, ⟨?_, ?_, ?_, ?_, fun z => ⟨fun s s0 s1 => ?_, ?_⟩⟩, r2'⟩
    · show 0 ≤ Y 0 1 ∧ Y 0 1 ≤ Y 0 0; omega
    · show Y 0 3 ≤ 392 * Y 0 1; omega
    · show Y 0 6 ≤ 392 * Y 0 1; omega
    · rw [xup_at, if_neg (fun z => by omega), r6']; exact b4
    · have s1' : s < X 0 1 + 1 := by have : s < Y 0 1 := s1; omega
      rw [xup_at, xup_at, r6', if_neg (fun z => by omega)]
      by_cases hs : s = X 0 1
      · rw [if_pos ⟨rfl, by omega⟩, hs, bb.2]; exact r5'.1
      · rw [if_neg (fun z => by omega)]; exact bb.1 s s0 (by omega)
    · show (xup Y 5 (X 0 1 + 1) (Y 0 6)) 5 (Y 0 1) = Y 0 6
      rw [r3', xup_same]

/-! pure layer: the class's search -/
def pv (σ : xS) : Int := σ 1 0 + σ 1 1 * 4 + σ 1 2 * 16 + σ 1 3 * 64 + σ 1 4 * 256 + σ 1 5 * 1024 + σ 1 6 * 4096 + σ 1 7 * 16384 + σ 1 8 * 65536
theorem pv.E {σ τ : xS} (e : sv_E σ τ) : pv σ = pv τ := by
  unfold pv
  rw [e.2.1 0 (by omega) (by omega), e.2.1 1 (by omega) (by omega), e.2.1 2 (by omega) (by omega), e.2.1 3 (by omega) (by omega), e.2.1 4 (by omega) (by omega), e.2.1 5 (by omega) (by omega), e.2.1 6 (by omega) (by omega), e.2.1 7 (by omega) (by omega), e.2.1 8 (by omega) (by omega)]
theorem xor32_comm (a b : Int) : xor32 a b = xor32 b a := by
  unfold xor32
  rw [Int32.or_comm]
theorem sx_br.E {P σ τ : xS} (hW : pw_WF P) (e : sv_E σ τ) : sx_br P σ = sx_br P τ := by
  have hb : ∀ b : Bool, ∀ c : Bool, (b = true ↔ c = true) → b = c := by decide
  apply hb
  unfold sx_br
  rw [List.any_eq_true, List.any_eq_true]
  constructor
  · rintro ⟨k, h1, h2⟩
    have w := hW.2.2.2.2.2.2.2.1 k (by omega) (by have := List.mem_range.mp h1; omega)
    rw [e.2.1 _ w.1.1 w.1.2] at h2
    exact ⟨k, h1, h2⟩
  · rintro ⟨k, h1, h2⟩
    have w := hW.2.2.2.2.2.2.2.1 k (by omega) (by have := List.mem_range.mp h1; omega)
    rw [← e.2.1 _ w.1.1 w.1.2] at h2
    exact ⟨k, h1, h2⟩
def up_ (X : xS) : Nat → Int → Int
  | 0, s => s
  | k + 1, s => up_ X k (X 2 s)
def tl_ (X : xS) : Int := X 4 (X 0 4) + (if X 0 2 = 97 then 1 else 0)
def tr_ (X : xS) (i : Int) : Int := if i = X 4 (X 0 4) then X 0 5 else X 3 (up_ X (X 4 (X 0 4) - 1 - i).toNat (X 0 4))
theorem up_.succ (X : xS) : ∀ (k : Nat) (s : Int), up_ X (k + 1) s = X 2 (up_ X k s)
  | 0, _ => rfl
  | k + 1, s => up_.succ X k (X 2 s)
/-- going up by as many steps as the depth allows -/
theorem up_.d {P X : xS} {md : Int} (h : xa P md X) {s : Int} (hs : 0 ≤ s ∧ s < X 0 0) : ∀ k : Nat, (k : Int) ≤ X 4 s → (0 ≤ up_ X k s ∧ up_ X k s < X 0 0) ∧ X 4 (up_ X k s) = X 4 s - k
  | 0, _ => ⟨hs, by show X 4 s = _; omega⟩
  | k + 1, hk => by
    obtain ⟨h1, h2⟩ := up_.d h hs k (by omega)
    rw [up_.succ]
    have h0 : up_ X k s ≠ 0 := fun z => by
      rw [z] at h2
      have := h.2.2.1.2.2
      omega
    have h3 := h.2.2.2.1 (up_ X k s) (by omega) h1.2
    exact ⟨by omega, by omega⟩
/-- the class's records of a search -/
def cx (P : xS) (md : Int) (X S : xS) : Prop := S 4 0 = X 0 0 ∧ S 2 11 = X 0 1 ∧ (X 0 2 = 0 → S 2 13 = 45) ∧ (X 0 2 ≠ 0 → S 2 13 = X 0 2 ∧ S 2 8 = tl_ X ∧ ∀ i : Int, 0 ≤ i → i < tl_ X → S 22 i = tr_ X i) ∧ S 2 12 = X 0 3 ∧ (∀ s : Int, 0 ≤ s → s < X 0 0 → S 25 s = X 1 s ∧ S 26 s = pv (sv_dec (X 1 s)) ∧ S 27 s = X 2 s ∧ (1 ≤ s → S 28 s = X 3 s) ∧ S 29 s = X 4 s ∧ (S 30 s = -1 ∨ S 30 s = ((mvs P (sv_dec (X 1 s))).length : Int))) ∧ tb_C md S ∧ S 2 10 = md ∧ ex_kn (ex_K P md) S
section PWCS
variable {P S X σ : xS} {md : Int}
theorem s7_packValues {Q : Int → xS → Prop} (hH : sv_H 41 σ S) (hV : sv_V σ) (k : Q (pv σ) S) : w_X7_packValues_n S Q := by
  have st : ∀ (i : Nat) (a v : Int), (0 ≤ a ∧ a < 2 ^ i) → (0 ≤ v ∧ v < 4) → i < 29 → v * 2 ^ i < 2147483648 → xor32 a (v * 2 ^ i) = a + v * 2 ^ i := by
    intro i a v ha hv hi h
    rw [xor32_comm, xor_lo i hv.1 ha h (by omega)]
    omega
  have v0 := hV.2.1 0 (by omega) (by omega)
  have v1 := hV.2.1 1 (by omega) (by omega)
  have v2 := hV.2.1 2 (by omega) (by omega)
  have v3 := hV.2.1 3 (by omega) (by omega)
  have v4 := hV.2.1 4 (by omega) (by omega)
  have v5 := hV.2.1 5 (by omega) (by omega)
  have v6 := hV.2.1 6 (by omega) (by omega)
  have v7 := hV.2.1 7 (by omega) (by omega)
  have v8 := hV.2.1 8 (by omega) (by omega)
  have e0 : S 42 0 = σ 1 0 := hH.2.1 0 (by omega) (by omega)
  have t0 : (2 : Int) ^ ((2 : Int) * 0).toNat = 1 := by decide
  have q0 : xor32 (0) (σ 1 0 * 1) = σ 1 0 * 1 := by
    have h := st 0 (0) (σ 1 0) (by simp <;> omega) v0 (by omega) (by simp <;> omega)
    rw [show (2 : Int) ^ 0 = 1 by decide] at h
    rw [h]
    omega
  have e1 : S 42 (0 + 1) = σ 1 1 := hH.2.1 1 (by omega) (by omega)
  have t1 : (2 : Int) ^ ((2 : Int) * (0 + 1)).toNat = 4 := by decide
  have q1 : xor32 (σ 1 0 * 1) (σ 1 1 * 4) = σ 1 0 * 1 + σ 1 1 * 4 := by
    have h := st 2 (σ 1 0 * 1) (σ 1 1) (by simp <;> omega) v1 (by omega) (by simp <;> omega)
    rw [show (2 : Int) ^ 2 = 4 by decide] at h
    rw [h]
  have e2 : S 42 (0 + 1 + 1) = σ 1 2 := hH.2.1 2 (by omega) (by omega)
  have t2 : (2 : Int) ^ ((2 : Int) * (0 + 1 + 1)).toNat = 16 := by decide
  have q2 : xor32 (σ 1 0 * 1 + σ 1 1 * 4) (σ 1 2 * 16) = σ 1 0 * 1 + σ 1 1 * 4 + σ 1 2 * 16 := by
    have h := st 4 (σ 1 0 * 1 + σ 1 1 * 4) (σ 1 2) (by simp <;> omega) v2 (by omega) (by simp <;> omega)
    rw [show (2 : Int) ^ 4 = 16 by decide] at h
    rw [h]
  have e3 : S 42 (0 + 1 + 1 + 1) = σ 1 3 := hH.2.1 3 (by omega) (by omega)
  have t3 : (2 : Int) ^ ((2 : Int) * (0 + 1 + 1 + 1)).toNat = 64 := by decide
  have q3 : xor32 (σ 1 0 * 1 + σ 1 1 * 4 + σ 1 2 * 16) (σ 1 3 * 64) = σ 1 0 * 1 + σ 1 1 * 4 + σ 1 2 * 16 + σ 1 3 * 64 := by
    have h := st 6 (σ 1 0 * 1 + σ 1 1 * 4 + σ 1 2 * 16) (σ 1 3) (by simp <;> omega) v3 (by omega) (by simp <;> omega)
    rw [show (2 : Int) ^ 6 = 64 by decide] at h
    rw [h]
  have e4 : S 42 (0 + 1 + 1 + 1 + 1) = σ 1 4 := hH.2.1 4 (by omega) (by omega)
  have t4 : (2 : Int) ^ ((2 : Int) * (0 + 1 + 1 + 1 + 1)).toNat = 256 := by decide
  have q4 : xor32 (σ 1 0 * 1 + σ 1 1 * 4 + σ 1 2 * 16 + σ 1 3 * 64) (σ 1 4 * 256) = σ 1 0 * 1 + σ 1 1 * 4 + σ 1 2 * 16 + σ 1 3 * 64 + σ 1 4 * 256 := by
    have h := st 8 (σ 1 0 * 1 + σ 1 1 * 4 + σ 1 2 * 16 + σ 1 3 * 64) (σ 1 4) (by simp <;> omega) v4 (by omega) (by simp <;> omega)
    rw [show (2 : Int) ^ 8 = 256 by decide] at h
    rw [h]
  have e5 : S 42 (0 + 1 + 1 + 1 + 1 + 1) = σ 1 5 := hH.2.1 5 (by omega) (by omega)
  have t5 : (2 : Int) ^ ((2 : Int) * (0 + 1 + 1 + 1 + 1 + 1)).toNat = 1024 := by decide
  have q5 : xor32 (σ 1 0 * 1 + σ 1 1 * 4 + σ 1 2 * 16 + σ 1 3 * 64 + σ 1 4 * 256) (σ 1 5 * 1024) = σ 1 0 * 1 + σ 1 1 * 4 + σ 1 2 * 16 + σ 1 3 * 64 + σ 1 4 * 256 + σ 1 5 * 1024 := by
    have h := st 10 (σ 1 0 * 1 + σ 1 1 * 4 + σ 1 2 * 16 + σ 1 3 * 64 + σ 1 4 * 256) (σ 1 5) (by simp <;> omega) v5 (by omega) (by simp <;> omega)
    rw [show (2 : Int) ^ 10 = 1024 by decide] at h
    rw [h]
  have e6 : S 42 (0 + 1 + 1 + 1 + 1 + 1 + 1) = σ 1 6 := hH.2.1 6 (by omega) (by omega)
  have t6 : (2 : Int) ^ ((2 : Int) * (0 + 1 + 1 + 1 + 1 + 1 + 1)).toNat = 4096 := by decide
  have q6 : xor32 (σ 1 0 * 1 + σ 1 1 * 4 + σ 1 2 * 16 + σ 1 3 * 64 + σ 1 4 * 256 + σ 1 5 * 1024) (σ 1 6 * 4096) = σ 1 0 * 1 + σ 1 1 * 4 + σ 1 2 * 16 + σ 1 3 * 64 + σ 1 4 * 256 + σ 1 5 * 1024 + σ 1 6 * 4096 := by
    have h := st 12 (σ 1 0 * 1 + σ 1 1 * 4 + σ 1 2 * 16 + σ 1 3 * 64 + σ 1 4 * 256 + σ 1 5 * 1024) (σ 1 6) (by simp <;> omega) v6 (by omega) (by simp <;> omega)
    rw [show (2 : Int) ^ 12 = 4096 by decide] at h
    rw [h]
  have e7 : S 42 (0 + 1 + 1 + 1 + 1 + 1 + 1 + 1) = σ 1 7 := hH.2.1 7 (by omega) (by omega)
  have t7 : (2 : Int) ^ ((2 : Int) * (0 + 1 + 1 + 1 + 1 + 1 + 1 + 1)).toNat = 16384 := by decide
  have q7 : xor32 (σ 1 0 * 1 + σ 1 1 * 4 + σ 1 2 * 16 + σ 1 3 * 64 + σ 1 4 * 256 + σ 1 5 * 1024 + σ 1 6 * 4096) (σ 1 7 * 16384) = σ 1 0 * 1 + σ 1 1 * 4 + σ 1 2 * 16 + σ 1 3 * 64 + σ 1 4 * 256 + σ 1 5 * 1024 + σ 1 6 * 4096 + σ 1 7 * 16384 := by
    have h := st 14 (σ 1 0 * 1 + σ 1 1 * 4 + σ 1 2 * 16 + σ 1 3 * 64 + σ 1 4 * 256 + σ 1 5 * 1024 + σ 1 6 * 4096) (σ 1 7) (by simp <;> omega) v7 (by omega) (by simp <;> omega)
    rw [show (2 : Int) ^ 14 = 16384 by decide] at h
    rw [h]
  have e8 : S 42 (0 + 1 + 1 + 1 + 1 + 1 + 1 + 1 + 1) = σ 1 8 := hH.2.1 8 (by omega) (by omega)
  have t8 : (2 : Int) ^ ((2 : Int) * (0 + 1 + 1 + 1 + 1 + 1 + 1 + 1 + 1)).toNat = 65536 := by decide
  have q8 : xor32 (σ 1 0 * 1 + σ 1 1 * 4 + σ 1 2 * 16 + σ 1 3 * 64 + σ 1 4 * 256 + σ 1 5 * 1024 + σ 1 6 * 4096 + σ 1 7 * 16384) (σ 1 8 * 65536) = σ 1 0 * 1 + σ 1 1 * 4 + σ 1 2 * 16 + σ 1 3 * 64 + σ 1 4 * 256 + σ 1 5 * 1024 + σ 1 6 * 4096 + σ 1 7 * 16384 + σ 1 8 * 65536 := by
    have h := st 16 (σ 1 0 * 1 + σ 1 1 * 4 + σ 1 2 * 16 + σ 1 3 * 64 + σ 1 4 * 256 + σ 1 5 * 1024 + σ 1 6 * 4096 + σ 1 7 * 16384) (σ 1 8) (by simp <;> omega) v8 (by omega) (by simp <;> omega)
    rw [show (2 : Int) ^ 16 = 65536 by decide] at h
    rw [h]
  refine ⟨10, ?_⟩
  simp only [xLn2, w_X7_packValues_n_L4]
  rw [t0, t1, t2, t3, t4, t5, t6, t7, t8, e0, e1, e2, e3, e4, e5, e6, e7, e8, q0, q1, q2, q3, q4, q5, q6, q7, q8]
  refine ⟨fun z => by omega, fun _ => ⟨⟨by omega, by omega⟩, ⟨by omega, by omega⟩, ⟨by omega, by omega⟩, ⟨fun z => by omega, fun _ => ⟨⟨by omega, by omega⟩, ⟨by omega, by omega⟩, ⟨by omega, by omega⟩, ⟨fun z => by omega, fun _ => ⟨⟨by omega, by omega⟩, ⟨by omega, by omega⟩, ⟨by omega, by omega⟩, ⟨fun z => by omega, fun _ => ⟨⟨by omega, by omega⟩, ⟨by omega, by omega⟩, ⟨by omega, by omega⟩, ⟨fun z => by omega, fun _ => ⟨⟨by omega, by omega⟩, ⟨by omega, by omega⟩, ⟨by omega, by omega⟩, ⟨fun z => by omega, fun _ => ⟨⟨by omega, by omega⟩, ⟨by omega, by omega⟩, ⟨by omega, by omega⟩, ⟨fun z => by omega, fun _ => ⟨⟨by omega, by omega⟩, ⟨by omega, by omega⟩, ⟨by omega, by omega⟩, ⟨fun z => by omega, fun _ => ⟨⟨by omega, by omega⟩, ⟨by omega, by omega⟩, ⟨by omega, by omega⟩, ⟨fun z => by omega, fun _ => ⟨⟨by omega, by omega⟩, ⟨by omega, by omega⟩, ⟨by omega, by omega⟩, fun _ => ?_, fun z => by omega⟩⟩⟩⟩⟩⟩⟩⟩⟩⟩⟩⟩⟩⟩⟩⟩⟩⟩
  have e : pv σ = σ 1 0 * 1 + σ 1 1 * 4 + σ 1 2 * 16 + σ 1 3 * 64 + σ 1 4 * 256 + σ 1 5 * 1024 + σ 1 6 * 4096 + σ 1 7 * 16384 + σ 1 8 * 65536 := by unfold pv; omega
  rw [← e]
  exact k
theorem s4_breaks_n {Q : Int → xS → Prop} (hW : pw_WF P) (hC : pw_C P S) (hH : sv_H 41 σ S) (h1 : sx_br P σ = true → Q 1 S) (h0 : sx_br P σ = false → Q 0 S) : w_X4_breaksInvariant_n S Q := by
  have w0 := hW.2.2.1
  refine xL1_up (P 54 3) (fun v S' => S' = S ∧ 0 ≤ v ∧ ∀ k : Int, 0 ≤ k → k < v → ¬ σ 1 (P 63 k) = P 64 k) ?_ 0 S (by omega) ⟨rfl, by omega, fun k a b => by omega⟩
  rintro v S' ⟨rfl, hv0, hpre⟩ hv k2 hk2
  unfold w_X4_breaksInvariant_n_L2
  rw [hC.2.2.1]
  refine ⟨fun z => h0 ?_, fun z => ⟨⟨by omega, by omega⟩, ?_⟩⟩
  · rw [← Bool.not_eq_true]
    intro hc
    unfold sx_br at hc
    obtain ⟨k, hk, hk2⟩ := List.any_eq_true.mp hc
    have := List.mem_range.mp hk
    exact hpre k (by omega) (by omega) (by simpa using hk2)
  · have c := hC.2.2.2.2.2.2.2.2 v hv0 (by omega)
    have w := hW.2.2.2.2.2.2.2.1 v hv0 (by omega)
    have e := hH.2.1 (P 63 v) w.1.1 w.1.2
    rw [c.1, c.2, show S' 42 (P 63 v) = σ 1 (P 63 v) from e]
    refine ⟨w.1, fun y => ⟨⟨by omega, by omega⟩, hk2 S' (by omega) ⟨rfl, by omega, fun k a b => ?_⟩⟩, fun y => h1 ?_⟩
    · by_cases hkv : k = v
      · rw [hkv]; exact y
      · exact hpre k a (by omega)
    · unfold sx_br
      rw [List.any_eq_true]
      refine ⟨v.toNat, List.mem_range.mpr (by omega), ?_⟩
      rw [Int.toNat_of_nonneg hv0]
      simpa using y
theorem s4_breaks_h {Q : Int → xS → Prop} (hW : pw_WF P) (hC : pw_C P S) (hH : sv_H 36 σ S) (h1 : sx_br P σ = true → Q 1 S) (h0 : sx_br P σ = false → Q 0 S) : w_X4_breaksInvariant_h S Q := by
  have w0 := hW.2.2.1
  refine xL1_up (P 54 3) (fun v S' => S' = S ∧ 0 ≤ v ∧ ∀ k : Int, 0 ≤ k → k < v → ¬ σ 1 (P 63 k) = P 64 k) ?_ 0 S (by omega) ⟨rfl, by omega, fun k a b => by omega⟩
  rintro v S' ⟨rfl, hv0, hpre⟩ hv k2 hk2
  unfold w_X4_breaksInvariant_h_L2
  rw [hC.2.2.1]
  refine ⟨fun z => h0 ?_, fun z => ⟨⟨by omega, by omega⟩, ?_⟩⟩
  · rw [← Bool.not_eq_true]
    intro hc
    unfold sx_br at hc
    obtain ⟨k, hk, hk2⟩ := List.any_eq_true.mp hc
    have := List.mem_range.mp hk
    exact hpre k (by omega) (by omega) (by simpa using hk2)
  · have c := hC.2.2.2.2.2.2.2.2 v hv0 (by omega)
    have w := hW.2.2.2.2.2.2.2.1 v hv0 (by omega)
    have e := hH.2.1 (P 63 v) w.1.1 w.1.2
    rw [c.1, c.2, show S' 37 (P 63 v) = σ 1 (P 63 v) from e]
    refine ⟨w.1, fun y => ⟨⟨by omega, by omega⟩, hk2 S' (by omega) ⟨rfl, by omega, fun k a b => ?_⟩⟩, fun y => h1 ?_⟩
    · by_cases hkv : k = v
      · rw [hkv]; exact y
      · exact hpre k a (by omega)
    · unfold sx_br
      rw [List.any_eq_true]
      refine ⟨v.toNat, List.mem_range.mpr (by omega), ?_⟩
      rw [Int.toNat_of_nonneg hv0]
      simpa using y
abbrev cx_Le : List (Nat × Int) := [(2, 8), (2, 13), (22, -9)]
/-- the trace is written -/
theorem s6_endWith {Q : xS → Prop} {kind s : Int} (hx : xa P md X) (hs : 0 ≤ s ∧ s < X 0 0) (hk : 0 ≤ kind ∧ kind < 65536) (hr : ∀ t : Int, 0 ≤ t → t < X 0 0 → S 27 t = X 2 t ∧ (1 ≤ t → S 28 t = X 3 t) ∧ S 29 t = X 4 t) (k : ∀ S' : xS, kp cx_Le S S' → S' 2 13 = kind → S' 2 8 = X 4 s → (∀ i : Int, 0 ≤ i → i < X 4 s → S' 22 i = X 3 (up_ X (X 4 s - 1 - i).toNat s)) → Q S') : w_X6_endWith kind s S Q := by
  have n := hx.1
  have d := hx.2.1 s hs.1 hs.2
  have e29 := (hr s hs.1 hs.2).2.2
  refine ⟨hk, by omega, by omega, ?_⟩
  rw [e29]
  refine xL2_dn (fun u v S' => (v < X 4 s ∧ u = up_ X (X 4 s - 1 - v).toNat s) ∧ kp cx_Le S S' ∧ S' 2 13 = kind ∧ S' 2 8 = X 4 s ∧ ∀ i : Int, v < i → i < X 4 s → S' 22 i = X 3 (up_ X (X 4 s - 1 - i).toNat s)) ?_ s (X 4 s - 1) _ (by omega) ⟨⟨by omega, ?_⟩, (kp.rf.up rfl).up rfl, rfl, rfl, fun i a b => by omega⟩
  · rintro u v S' ⟨⟨hv1, hu⟩, hk1, h13, h8, hpre⟩ hv k2 hk2
    have ud := up_.d hx hs (X 4 s - 1 - v).toNat (by omega)
    rw [← hu] at ud
    refine ⟨fun z => k S' hk1 h13 h8 (fun i a b => hpre i (by omega) b), fun z => ?_⟩
    have u0 : u ≠ 0 := fun w => by
      rw [w] at ud
      have := hx.2.2.1.2.2
      omega
    have r := hr u ud.1.1 ud.1.2
    have r27 : S' 27 u = X 2 u := by rw [hk1 27 u rfl]; exact r.1
    have r28 : S' 28 u = X 3 u := by rw [hk1 28 u rfl]; exact r.2.1 (by omega)
    rw [r27, r28]
    refine ⟨by omega, ⟨by omega, by omega⟩, ⟨by omega, by omega⟩, hk2 _ _ (by omega) ⟨⟨by omega, ?_⟩, hk1.up rfl, h13, h8, fun i a b => ?_⟩⟩
    · rw [show (X 4 s - 1 - (v + -1)).toNat = (X 4 s - 1 - v).toNat + 1 by omega, up_.succ, ← hu]
    · rw [xup_at]
      by_cases hi : i = v
      · rw [if_pos ⟨rfl, hi⟩, hi, ← hu]
      · rw [if_neg (fun w => hi w.2)]
        exact hpre i (by omega) b
  · rw [show (X 4 s - 1 - (X 4 s - 1)).toNat = 0 by omega]
    rfl
end PWCS

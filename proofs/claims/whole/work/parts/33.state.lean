/-! pure layer: a state, its code, the rows that hold it. σ 0: places, σ 1: variables, σ 2: how many a channel holds, σ 3: what (two places a channel) -/
def sv_V (σ : xS) : Prop := (∀ p : Int, 0 ≤ p → p < 3 → 0 ≤ σ 0 p ∧ σ 0 p < 12) ∧ (∀ v : Int, 0 ≤ v → v < 9 → 0 ≤ σ 1 v ∧ σ 1 v < 4) ∧ (∀ k : Int, 0 ≤ k → k < 2 → 0 ≤ σ 2 k ∧ σ 2 k < 3) ∧ (∀ j : Int, 0 ≤ j → j < 4 → 0 ≤ σ 3 j ∧ σ 3 j < 4)
/-- the same state -/
def sv_E (σ τ : xS) : Prop := (∀ p : Int, 0 ≤ p → p < 3 → σ 0 p = τ 0 p) ∧ (∀ v : Int, 0 ≤ v → v < 9 → σ 1 v = τ 1 v) ∧ (∀ k : Int, 0 ≤ k → k < 2 → σ 2 k = τ 2 k) ∧ (∀ j : Int, 0 ≤ j → j < 4 → σ 3 j = τ 3 j)
/-- the class holds it in the cells from b (36: here, 41: next) -/
def sv_H (b : Nat) (σ S : xS) : Prop := (∀ p : Int, 0 ≤ p → p < 3 → S b p = σ 0 p) ∧ (∀ v : Int, 0 ≤ v → v < 9 → S (b + 1) v = σ 1 v) ∧ (∀ k : Int, 0 ≤ k → k < 2 → S (b + 2) k = σ 2 k ∧ S (b + 3) k = σ 3 (2 * k) ∧ S (b + 4) k = σ 3 (2 * k + 1))
/-- the reference holds it in the cells from b (75: at hand, 79: next) -/
def sv_N (b : Nat) (σ S : xS) : Prop := (∀ p : Int, 0 ≤ p → p < 3 → S b p = σ 0 p) ∧ (∀ v : Int, 0 ≤ v → v < 9 → S (b + 1) v = σ 1 v) ∧ (∀ k : Int, 0 ≤ k → k < 2 → S (b + 2) k = σ 2 k) ∧ (∀ j : Int, 0 ≤ j → j < 4 → S (b + 3) j = σ 3 j)
def sv_sh (σ : xS) (p : Int) : Int := (σ 0 p * 4 + σ 1 (3 + 2 * p)) * 4 + σ 1 (4 + 2 * p)
def sv_top (σ : xS) : Int := (sv_sh σ 0 * 192 + sv_sh σ 1) * 192 + sv_sh σ 2
def sv_low (d v0 v1 v2 h0 c0 c1 h1 c2 c3 : Int) : Int := ((((((((d * 4 + v0) * 4 + v1) * 4 + v2) * 3 + h0) * 4 + c0) * 4 + c1) * 3 + h1) * 4 + c2) * 4 + c3
def sv_enc (σ : xS) : Int := sv_low (sv_top σ) (σ 1 0) (σ 1 1) (σ 1 2) (σ 2 0) (σ 3 0) (σ 3 1) (σ 2 1) (σ 3 2) (σ 3 3)
def sv_dec (c : Int) : xS := fun k i =>
  if k = 0 then (if i = 0 then c / 147456 / 36864 / 16 % 12 else if i = 1 then c / 147456 / 192 / 16 % 12 else c / 147456 / 16 % 12)
  else if k = 1 then (if i = 0 then c / 36864 % 4 else if i = 1 then c / 9216 % 4 else if i = 2 then c / 2304 % 4 else if i = 3 then c / 147456 / 36864 / 4 % 4 else if i = 4 then c / 147456 / 36864 % 4 else if i = 5 then c / 147456 / 192 / 4 % 4 else if i = 6 then c / 147456 / 192 % 4 else if i = 7 then c / 147456 / 4 % 4 else c / 147456 % 4)
  else if k = 2 then (if i = 0 then c / 768 % 3 else c / 16 % 3)
  else (if i = 0 then c / 192 % 4 else if i = 1 then c / 48 % 4 else if i = 2 then c / 4 % 4 else c % 4)
theorem sv_i3 {p : Int} (h0 : 0 ≤ p) (h1 : p < 3) : p = 0 ∨ p = 1 ∨ p = 2 := by omega
theorem sv_i2 {p : Int} (h0 : 0 ≤ p) (h1 : p < 2) : p = 0 ∨ p = 1 := by omega
theorem sv_i4 {p : Int} (h0 : 0 ≤ p) (h1 : p < 4) : p = 0 ∨ p = 1 ∨ p = 2 ∨ p = 3 := by omega
theorem sv_i9 {p : Int} (h0 : 0 ≤ p) (h1 : p < 9) : p = 0 ∨ p = 1 ∨ p = 2 ∨ p = 3 ∨ p = 4 ∨ p = 5 ∨ p = 6 ∨ p = 7 ∨ p = 8 := by omega
theorem sv_V.dec (c : Int) : sv_V (sv_dec c) := by
  refine ⟨fun p h0 h1 => ?_, fun v h0 h1 => ?_, fun k h0 h1 => ?_, fun j h0 h1 => ?_⟩
  · rcases sv_i3 h0 h1 with h | h | h <;> subst h <;> simp only [sv_dec] <;> simp <;> omega
  · rcases sv_i9 h0 h1 with h | h | h | h | h | h | h | h | h <;> subst h <;> simp only [sv_dec] <;> simp <;> omega
  · rcases sv_i2 h0 h1 with h | h <;> subst h <;> simp only [sv_dec] <;> simp <;> omega
  · rcases sv_i4 h0 h1 with h | h | h | h <;> subst h <;> simp only [sv_dec] <;> simp <;> omega
theorem sv_sh.b {σ : xS} (h : sv_V σ) {p : Int} (hp : 0 ≤ p ∧ p < 3) : 0 ≤ sv_sh σ p ∧ sv_sh σ p < 192 := by
  have h1 := h.1 p hp.1 hp.2
  have h2 := h.2.1 (3 + 2 * p) (by omega) (by omega)
  have h3 := h.2.1 (4 + 2 * p) (by omega) (by omega)
  unfold sv_sh
  omega
theorem sv_low_d {d v0 v1 v2 h0 c0 c1 h1 c2 c3 : Int} (b1 : 0 ≤ v0 ∧ v0 < 4) (b2 : 0 ≤ v1 ∧ v1 < 4) (b3 : 0 ≤ v2 ∧ v2 < 4) (b4 : 0 ≤ h0 ∧ h0 < 3) (b5 : 0 ≤ c0 ∧ c0 < 4) (b6 : 0 ≤ c1 ∧ c1 < 4) (b7 : 0 ≤ h1 ∧ h1 < 3) (b8 : 0 ≤ c2 ∧ c2 < 4) (b9 : 0 ≤ c3 ∧ c3 < 4) :
    sv_low d v0 v1 v2 h0 c0 c1 h1 c2 c3 % 4 = c3 ∧ sv_low d v0 v1 v2 h0 c0 c1 h1 c2 c3 / 4 % 4 = c2 ∧ sv_low d v0 v1 v2 h0 c0 c1 h1 c2 c3 / 16 % 3 = h1 ∧ sv_low d v0 v1 v2 h0 c0 c1 h1 c2 c3 / 48 % 4 = c1 ∧ sv_low d v0 v1 v2 h0 c0 c1 h1 c2 c3 / 192 % 4 = c0 ∧ sv_low d v0 v1 v2 h0 c0 c1 h1 c2 c3 / 768 % 3 = h0 ∧ sv_low d v0 v1 v2 h0 c0 c1 h1 c2 c3 / 2304 % 4 = v2 ∧ sv_low d v0 v1 v2 h0 c0 c1 h1 c2 c3 / 9216 % 4 = v1 ∧ sv_low d v0 v1 v2 h0 c0 c1 h1 c2 c3 / 36864 % 4 = v0 ∧ sv_low d v0 v1 v2 h0 c0 c1 h1 c2 c3 / 147456 = d := by
  unfold sv_low
  have e9 : ∀ a b : Int, 0 ≤ b ∧ b < 4 → (a * 4 + b) / 4 = a ∧ (a * 4 + b) % 4 = b := fun a b h => by omega
  have e3 : ∀ a b : Int, 0 ≤ b ∧ b < 3 → (a * 3 + b) / 3 = a ∧ (a * 3 + b) % 3 = b := fun a b h => by omega
  have dd : ∀ (a : Int) (m n : Int), 0 ≤ m → a / (m * n) = a / m / n := fun a m n h => (Int.ediv_ediv_of_nonneg h).symm
  generalize hx9 : ((((((((d * 4 + v0) * 4 + v1) * 4 + v2) * 3 + h0) * 4 + c0) * 4 + c1) * 3 + h1) * 4 + c2) = x9
  have f9 := e9 x9 c3 b9
  generalize hx8 : (((((((d * 4 + v0) * 4 + v1) * 4 + v2) * 3 + h0) * 4 + c0) * 4 + c1) * 3 + h1) = x8 at hx9
  have f8 := e9 x8 c2 b8
  generalize hx7 : ((((((d * 4 + v0) * 4 + v1) * 4 + v2) * 3 + h0) * 4 + c0) * 4 + c1) = x7 at hx8
  have f7 := e3 x7 h1 b7
  generalize hx6 : (((((d * 4 + v0) * 4 + v1) * 4 + v2) * 3 + h0) * 4 + c0) = x6 at hx7
  have f6 := e9 x6 c1 b6
  generalize hx5 : ((((d * 4 + v0) * 4 + v1) * 4 + v2) * 3 + h0) = x5 at hx6
  have f5 := e9 x5 c0 b5
  generalize hx4 : (((d * 4 + v0) * 4 + v1) * 4 + v2) = x4 at hx5
  have f4 := e3 x4 h0 b4
  generalize hx3 : ((d * 4 + v0) * 4 + v1) = x3 at hx4
  have f3 := e9 x3 v2 b3
  generalize hx2 : (d * 4 + v0) = x2 at hx3
  have f2 := e9 x2 v1 b2
  have f1 := e9 d v0 b1
  subst hx9
  rw [show (16 : Int) = 4 * 4 by decide, show (48 : Int) = 4 * 4 * 3 by decide, show (192 : Int) = 4 * 4 * 3 * 4 by decide, show (768 : Int) = 4 * 4 * 3 * 4 * 4 by decide, show (2304 : Int) = 4 * 4 * 3 * 4 * 4 * 3 by decide, show (9216 : Int) = 4 * 4 * 3 * 4 * 4 * 3 * 4 by decide, show (36864 : Int) = 4 * 4 * 3 * 4 * 4 * 3 * 4 * 4 by decide, show (147456 : Int) = 4 * 4 * 3 * 4 * 4 * 3 * 4 * 4 * 4 by decide]
  rw [dd _ (4 * 4 * 3 * 4 * 4 * 3 * 4 * 4) 4 (by decide), dd _ (4 * 4 * 3 * 4 * 4 * 3 * 4) 4 (by decide), dd _ (4 * 4 * 3 * 4 * 4 * 3) 4 (by decide), dd _ (4 * 4 * 3 * 4 * 4) 3 (by decide), dd _ (4 * 4 * 3 * 4) 4 (by decide), dd _ (4 * 4 * 3) 4 (by decide), dd _ (4 * 4) 3 (by decide), dd _ 4 4 (by decide)]
  rw [f9.1, f8.1]
  subst hx8
  rw [f7.1]
  subst hx7
  rw [f6.1]
  subst hx6
  rw [f5.1]
  subst hx5
  rw [f4.1]
  subst hx4
  rw [f3.1]
  subst hx3
  rw [f2.1]
  subst hx2
  rw [f1.1]
  exact ⟨f9.2, f8.2, f7.2, f6.2, f5.2, f4.2, f3.2, f2.2, f1.2, rfl⟩
theorem sv_E.de {σ : xS} (h : sv_V σ) : sv_E (sv_dec (sv_enc σ)) σ := by
  have hl := sv_low_d (d := sv_top σ) (h.2.1 0 (by omega) (by omega)) (h.2.1 1 (by omega) (by omega)) (h.2.1 2 (by omega) (by omega)) (h.2.2.1 0 (by omega) (by omega)) (h.2.2.2 0 (by omega) (by omega)) (h.2.2.2 1 (by omega) (by omega)) (h.2.2.1 1 (by omega) (by omega)) (h.2.2.2 2 (by omega) (by omega)) (h.2.2.2 3 (by omega) (by omega))
  obtain ⟨l1, l2, l3, l4, l5, l6, l7, l8, l9, l10⟩ := hl
  have s0 := sv_sh.b h (p := 0) (by omega)
  have s1 := sv_sh.b h (p := 1) (by omega)
  have s2 := sv_sh.b h (p := 2) (by omega)
  have t0 : sv_top σ / 36864 = sv_sh σ 0 := by unfold sv_top; omega
  have t1 : sv_top σ / 192 = sv_sh σ 0 * 192 + sv_sh σ 1 := by unfold sv_top; omega
  have q0 := h.1 0 (by omega) (by omega)
  have q1 := h.1 1 (by omega) (by omega)
  have q2 := h.1 2 (by omega) (by omega)
  have v3 := h.2.1 3 (by omega) (by omega)
  have v4 := h.2.1 4 (by omega) (by omega)
  have v5 := h.2.1 5 (by omega) (by omega)
  have v6 := h.2.1 6 (by omega) (by omega)
  have v7 := h.2.1 7 (by omega) (by omega)
  have v8 := h.2.1 8 (by omega) (by omega)
  have u0 : sv_sh σ 0 = (σ 0 0 * 4 + σ 1 3) * 4 + σ 1 4 := rfl
  have u1 : sv_sh σ 1 = (σ 0 1 * 4 + σ 1 5) * 4 + σ 1 6 := rfl
  have u2 : sv_sh σ 2 = (σ 0 2 * 4 + σ 1 7) * 4 + σ 1 8 := rfl
  have u3 : sv_top σ = (sv_sh σ 0 * 192 + sv_sh σ 1) * 192 + sv_sh σ 2 := rfl
  refine ⟨fun p h0 h1 => ?_, fun v h0 h1 => ?_, fun k h0 h1 => ?_, fun j h0 h1 => ?_⟩
  · unfold sv_enc
    rcases sv_i3 h0 h1 with h | h | h <;> subst h <;> simp only [sv_dec] <;> simp <;> rw [l10] <;> omega
  · unfold sv_enc
    rcases sv_i9 h0 h1 with h | h | h | h | h | h | h | h | h <;> subst h <;> simp only [sv_dec] <;> simp
    · exact l9
    · exact l8
    · exact l7
    · rw [l10]; omega
    · rw [l10]; omega
    · rw [l10]; omega
    · rw [l10]; omega
    · rw [l10]; omega
    · rw [l10]; omega
  · unfold sv_enc
    rcases sv_i2 h0 h1 with h | h <;> subst h <;> simp only [sv_dec] <;> simp
    · exact l6
    · exact l3
  · unfold sv_enc
    rcases sv_i4 h0 h1 with h | h | h | h <;> subst h <;> simp only [sv_dec] <;> simp
    · exact l5
    · exact l4
    · exact l2
    · exact l1
theorem sv_E.sy {σ τ : xS} (h : sv_E σ τ) : sv_E τ σ := ⟨fun p a b => (h.1 p a b).symm, fun p a b => (h.2.1 p a b).symm, fun p a b => (h.2.2.1 p a b).symm, fun p a b => (h.2.2.2 p a b).symm⟩
theorem sv_E.tr {σ τ ρ : xS} (h : sv_E σ τ) (h' : sv_E τ ρ) : sv_E σ ρ := ⟨fun p a b => (h.1 p a b).trans (h'.1 p a b), fun p a b => (h.2.1 p a b).trans (h'.2.1 p a b), fun p a b => (h.2.2.1 p a b).trans (h'.2.2.1 p a b), fun p a b => (h.2.2.2 p a b).trans (h'.2.2.2 p a b)⟩
theorem sv_E.rf {σ : xS} : sv_E σ σ := ⟨fun _ _ _ => rfl, fun _ _ _ => rfl, fun _ _ _ => rfl, fun _ _ _ => rfl⟩
theorem sv_V.E {σ τ : xS} (h : sv_V σ) (e : sv_E σ τ) : sv_V τ := ⟨fun p a b => (e.1 p a b) ▸ h.1 p a b, fun p a b => (e.2.1 p a b) ▸ h.2.1 p a b, fun p a b => (e.2.2.1 p a b) ▸ h.2.2.1 p a b, fun p a b => (e.2.2.2 p a b) ▸ h.2.2.2 p a b⟩
theorem sv_H.E {b : Nat} {σ τ S : xS} (h : sv_H b σ S) (e : sv_E σ τ) : sv_H b τ S := ⟨fun p a b => (h.1 p a b).trans (e.1 p a b), fun p a b => (h.2.1 p a b).trans (e.2.1 p a b), fun p a b => ⟨(h.2.2 p a b).1.trans (e.2.2.1 p a b), (h.2.2 p a b).2.1.trans (e.2.2.2 _ (by omega) (by omega)), (h.2.2 p a b).2.2.trans (e.2.2.2 _ (by omega) (by omega))⟩⟩
theorem sv_N.E {b : Nat} {σ τ S : xS} (h : sv_N b σ S) (e : sv_E σ τ) : sv_N b τ S := ⟨fun p a b => (h.1 p a b).trans (e.1 p a b), fun p a b => (h.2.1 p a b).trans (e.2.1 p a b), fun p a b => (h.2.2.1 p a b).trans (e.2.2.1 p a b), fun p a b => (h.2.2.2 p a b).trans (e.2.2.2 p a b)⟩
theorem sv_sh.E {σ τ : xS} (e : sv_E σ τ) {p : Int} (hp : 0 ≤ p ∧ p < 3) : sv_sh σ p = sv_sh τ p := by
  unfold sv_sh
  rw [e.1 p hp.1 hp.2, e.2.1 (3 + 2 * p) (by omega) (by omega), e.2.1 (4 + 2 * p) (by omega) (by omega)]
theorem sv_enc.E {σ τ : xS} (e : sv_E σ τ) : sv_enc σ = sv_enc τ := by
  unfold sv_enc sv_top
  rw [sv_sh.E e (p := 0) (by omega), sv_sh.E e (p := 1) (by omega), sv_sh.E e (p := 2) (by omega), e.2.1 0 (by omega) (by omega), e.2.1 1 (by omega) (by omega), e.2.1 2 (by omega) (by omega), e.2.2.1 0 (by omega) (by omega), e.2.2.1 1 (by omega) (by omega), e.2.2.2 0 (by omega) (by omega), e.2.2.2 1 (by omega) (by omega), e.2.2.2 2 (by omega) (by omega), e.2.2.2 3 (by omega) (by omega)]
/-- a code that a state has -/
def sv_ok (c : Int) : Prop := sv_enc (sv_dec c) = c
theorem sv_enc.b {σ : xS} (h : sv_V σ) : 0 ≤ sv_enc σ ∧ sv_enc σ < 1043677052928 := by
  have s0 := sv_sh.b h (p := 0) (by omega)
  have s1 := sv_sh.b h (p := 1) (by omega)
  have s2 := sv_sh.b h (p := 2) (by omega)
  have b1 := h.2.1 0 (by omega) (by omega)
  have b2 := h.2.1 1 (by omega) (by omega)
  have b3 := h.2.1 2 (by omega) (by omega)
  have b4 := h.2.2.1 0 (by omega) (by omega)
  have b5 := h.2.2.1 1 (by omega) (by omega)
  have b6 := h.2.2.2 0 (by omega) (by omega)
  have b7 := h.2.2.2 1 (by omega) (by omega)
  have b8 := h.2.2.2 2 (by omega) (by omega)
  have b9 := h.2.2.2 3 (by omega) (by omega)
  unfold sv_enc sv_low sv_top
  omega
theorem sv_ok.enc {σ : xS} (h : sv_V σ) : sv_ok (sv_enc σ) := sv_enc.E (sv_E.de h)
theorem sv_ok.b {c : Int} (h : sv_ok c) : 0 ≤ c ∧ c < 1043677052928 := by
  have h' := sv_enc.b (sv_V.dec c)
  rw [show sv_enc (sv_dec c) = c from h] at h'
  exact h'
theorem sv_enc.inj {σ τ : xS} (h : sv_V σ) (h' : sv_V τ) (e : sv_enc σ = sv_enc τ) : sv_E σ τ := by
  have a := sv_E.de h
  rw [e] at a
  exact a.sy.tr (sv_E.de h')

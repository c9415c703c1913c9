/-! pure layer: a state has no more than 392 moves -/
def ct (f : Nat → Bool) : Nat → Nat
  | 0 => 0
  | k + 1 => ct f k + (if f k = true then 1 else 0)
theorem ct_two {A B : Nat → Bool} (h : ∀ s, A s = true → B s = false) : ∀ k : Nat, ct A k + ct B k ≤ k
  | 0 => Nat.le_refl _
  | k + 1 => by
    have ih := ct_two h k
    unfold ct
    by_cases a : A k = true
    · rw [if_pos a, if_neg (by rw [h k a]; decide)]; omega
    · rw [if_neg a]; split <;> omega
theorem ct_fm {F : Nat → List Int} {A B : Nat → Bool} {a : Nat} (h : ∀ s, A s = true → B s = false) : ∀ k : Nat, (∀ s : Nat, s < k → (F s).length ≤ if A s = true then a else if B s = true then 0 else 1) → ((List.range k).flatMap F).length + ct A k + ct B k ≤ ct A k * a + k
  | 0, _ => by simp [ct]
  | k + 1, hF => by
    have ih := ct_fm h k (fun s hs => hF s (by omega))
    have hk := hF k (by omega)
    rw [fm_succ, List.length_append]
    unfold ct
    by_cases x : A k = true
    · rw [if_pos x, if_neg (by rw [h k x]; decide)]
      rw [if_pos x] at hk
      rw [Nat.add_mul]
      omega
    · rw [if_neg x] at hk ⊢
      rw [Nat.add_zero]
      by_cases y : B k = true
      · rw [if_pos y] at hk ⊢; omega
      · rw [if_neg y] at hk ⊢; omega
theorem ct_len {F : Nat → List Int} {B : Nat → Bool} : ∀ k : Nat, (∀ s : Nat, s < k → (F s).length ≤ if B s = true then 1 else 0) → ((List.range k).flatMap F).length ≤ ct B k
  | 0, _ => by simp
  | k + 1, hF => by
    have ih := ct_len k (fun s hs => hF s (by omega))
    have hk := hF k (by omega)
    rw [fm_succ, List.length_append]
    unfold ct
    omega
theorem vx14 {h r a b c M : Int} (h0 : 0 ≤ h) (r0 : 0 ≤ r) (hr : h + r ≤ 14) (v1 : 14 * a + c ≤ M) (v2 : 14 * b + c ≤ M) (v3 : c ≤ M) : h * a + r * b + c ≤ M := by
  have k1 := Int.mul_le_mul_of_nonneg_left v1 h0
  have k2 := Int.mul_le_mul_of_nonneg_left v2 r0
  have k3 := Int.mul_le_mul_of_nonneg_left v3 (show 0 ≤ 14 - h - r by omega)
  rw [Int.mul_add, Int.mul_left_comm] at k1 k2
  rw [Int.sub_mul, Int.sub_mul, Int.sub_mul, Int.sub_mul] at k3
  omega
theorem vx392 {h0 r0 h1 r1 h2 r2 : Int} (a0 : 0 ≤ h0) (b0 : 0 ≤ r0) (a1 : 0 ≤ h1) (b1 : 0 ≤ r1) (a2 : 0 ≤ h2) (b2 : 0 ≤ r2) (c0 : h0 + r0 ≤ 14) (c1 : h1 + r1 ≤ 14) (c2 : h2 + r2 ≤ 14) : h0 * (r1 + r2) + h1 * (r0 + r2) + h2 * (r0 + r1) + 42 - (h0 + r0 + h1 + r1 + h2 + r2) ≤ 392 := by
  have g1 := vx14 (a := r2 - 1) (b := h2 + 13) (c := 13 * r2 + 28 - h2) (M := 392) a1 b1 c1 (by omega) (by omega) (by omega)
  have g2 := vx14 (a := r2 + 13) (b := h2 - 1) (c := 13 * h2 + 28 - r2) (M := 392) a1 b1 c1 (by omega) (by omega) (by omega)
  have g3 := vx14 (a := r2 - 1) (b := h2 - 1) (c := 42 - h2 - r2) (M := 392) a1 b1 c1 (by omega) (by omega) (by omega)
  simp only [Int.mul_add, Int.mul_sub, Int.mul_one] at g1 g2 g3
  have e1 := Int.mul_comm r1 h2
  have g := vx14 (a := r1 + r2 - 1) (b := h1 + h2 - 1) (c := h1 * r2 + h2 * r1 + 42 - h1 - r1 - h2 - r2) (M := 392) a0 b0 c0 (by omega) (by omega) (by omega)
  simp only [Int.mul_add, Int.mul_sub, Int.mul_one] at g ⊢
  have e2 := Int.mul_comm r0 h1
  have e3 := Int.mul_comm r0 h2
  omega
section PWQ
variable {P σ : xS}
def bd_H (P σ : xS) (p s : Nat) : Bool := decide (P 56 (14 * p + s) = σ 0 p) && mv_ho P (14 * p + s)
def bd_R (P σ : xS) (p s : Nat) : Bool := decide (P 56 (14 * p + s) = σ 0 p) && (decide (P 58 (14 * p + s) = 114) && decide (P 61 (P 59 (14 * p + s)) = 0))
def bd_h (P σ : xS) (p : Nat) : Nat := ct (bd_H P σ p) (P 55 p).toNat
def bd_r (P σ : xS) (p : Nat) : Nat := ct (bd_R P σ p) (P 55 p).toNat
theorem bd_dis (p s : Nat) (h : bd_H P σ p s = true) : bd_R P σ p s = false := by
  unfold bd_H mv_ho at h
  unfold bd_R
  simp at h ⊢
  intro _ h2
  omega
theorem bd_14 (hW : pw_WF P) {p : Nat} (hp : p < 3) : bd_h P σ p + bd_r P σ p ≤ 14 := by
  have w := hW.2.2.2.1 p (by omega) (by omega)
  have := ct_two (bd_dis (P := P) (σ := σ) p) (P 55 p).toNat
  unfold bd_h bd_r
  omega
theorem bd_pr {p s : Nat} (hW : pw_WF P) (hp : p < 3) (hs : (s : Int) < P 55 p) (hh : mv_ho P (14 * p + s) = true) : (mv_pr P σ (14 * p + s)).length ≤ (if p = 0 then 0 else bd_r P σ 0) + (if p = 1 then 0 else bd_r P σ 1) + (if p = 2 then 0 else bd_r P σ 2) := by
  have w0 := hW.1
  have ws := hW.2.2.2.1 p (by omega) (by omega)
  have one : ∀ q : Nat, (mv_p1 P σ (14 * p + s) q).length ≤ if p = q then 0 else bd_r P σ q := by
    intro q
    unfold mv_p1 mv_pi
    by_cases e : p = q
    · rw [if_pos e, if_pos (by omega)]; exact Nat.le_refl _
    · rw [if_neg e, if_neg (by omega)]
      unfold bd_r
      refine ct_len _ (fun r hr => ?_)
      unfold mv_p2
      split
      · rename_i hc
        unfold mv_ho at hh
        simp at hh
        have : bd_R P σ q r = true := by
          unfold bd_R
          simp [hc.1, hc.2.1, hc.2.2, hh.2]
        rw [if_pos this]
        exact Nat.le_refl _
      · simp
  have a := fm_le (mv_p1 P σ (14 * p + s)) (show (P 54 1).toNat ≤ 3 by omega)
  unfold mv_pr
  rw [fm_succ, fm_succ, fm_succ, List.length_append, List.length_append, List.length_append] at a
  have o0 := one 0
  have o1 := one 1
  have o2 := one 2
  simp only [List.range_zero, List.flatMap_nil, List.length_nil, Nat.zero_add] at a
  omega
theorem bd_ld {p : Nat} (hW : pw_WF P) (hr : sv_rm P σ) (hp : p < 3) : (mv_ld P σ p).length + bd_h P σ p + bd_r P σ p ≤ bd_h P σ p * ((if p = 0 then 0 else bd_r P σ 0) + (if p = 1 then 0 else bd_r P σ 1) + (if p = 2 then 0 else bd_r P σ 2)) + 14 := by
  have ws := hW.2.2.2.1 p (by omega) (by omega)
  have := ct_fm (F := mv_ow P σ p) (A := bd_H P σ p) (B := bd_R P σ p) (a := (if p = 0 then 0 else bd_r P σ 0) + (if p = 1 then 0 else bd_r P σ 1) + (if p = 2 then 0 else bd_r P σ 2)) (bd_dis p) (P 55 p).toNat (fun s hs => ?_)
  · unfold mv_ld bd_h bd_r
    unfold bd_h bd_r at this
    omega
  · have hv : pw_v P (14 * p + s) := ⟨p, s, by omega, by omega, rfl⟩
    unfold mv_ow
    split
    · rename_i h1
      split
      · rename_i h2
        have : bd_H P σ p s = true := by unfold bd_H; simp [h1, h2]
        rw [if_pos this]
        exact bd_pr hW hp (by omega) h2
      · rename_i h2
        have : ¬ bd_H P σ p s = true := by unfold bd_H; simp [h2]
        rw [if_neg this]
        split
        · rename_i h3
          have h4 : ¬ bd_R P σ p s = true := by
            unfold bd_R
            intro h5
            simp at h5
            have b := hv.b hW
            have b6 := b.2.2.2.2.2.1 (Or.inr h5.2.1)
            have okk := hW.2.2.2.2.1 p s (by omega) (by omega) (by omega) (by omega)
            have lt : P 59 (14 * p + s) < P 54 2 := by
              unfold pw_ok pw_fit at okk
              omega
            have := hr _ b6.1.1 lt
            unfold mv_fr at h3
            simp [h5.2.1] at h3
            omega
          rw [if_neg h4]
          simp
        · simp
    · simp
theorem mv_all.b (hW : pw_WF P) (hr : sv_rm P σ) : (mv_all P σ).length ≤ 392 := by
  have w0 := hW.1
  have a := fm_le (mv_ld P σ) (show (P 54 1).toNat ≤ 3 by omega)
  rw [fm_succ, fm_succ, fm_succ, List.length_append, List.length_append, List.length_append] at a
  have l0 := bd_ld (p := 0) hW hr (by omega)
  have l1 := bd_ld (p := 1) hW hr (by omega)
  have l2 := bd_ld (p := 2) hW hr (by omega)
  have c0 := bd_14 (σ := σ) hW (p := 0) (by omega)
  have c1 := bd_14 (σ := σ) hW (p := 1) (by omega)
  have c2 := bd_14 (σ := σ) hW (p := 2) (by omega)
  simp only [List.range_zero, List.flatMap_nil, List.length_nil, Nat.zero_add] at a
  simp at l0 l1 l2
  unfold mv_all
  generalize bd_h P σ 0 = h0 at *
  generalize bd_h P σ 1 = h1 at *
  generalize bd_h P σ 2 = h2 at *
  generalize bd_r P σ 0 = r0 at *
  generalize bd_r P σ 1 = r1 at *
  generalize bd_r P σ 2 = r2 at *
  have v := vx392 (h0 := h0) (r0 := r0) (h1 := h1) (r1 := r1) (h2 := h2) (r2 := r2) (by omega) (by omega) (by omega) (by omega) (by omega) (by omega) (by omega) (by omega) (by omega)
  have p0 : ((h0 * (r1 + r2) : Nat) : Int) = (h0 : Int) * (r1 + r2) := by rw [Int.natCast_mul, Int.natCast_add]
  have p1 : ((h1 * (r0 + r2) : Nat) : Int) = (h1 : Int) * (r0 + r2) := by rw [Int.natCast_mul, Int.natCast_add]
  have p2 : ((h2 * (r0 + r1) : Nat) : Int) = (h2 : Int) * (r0 + r1) := by rw [Int.natCast_mul, Int.natCast_add]
  rw [← p0, ← p1, ← p2] at v
  omega
theorem mvs.b (hW : pw_WF P) (hr : sv_rm P σ) : (mvs P σ).length ≤ 392 := Nat.le_trans mvs_len (mv_all.b hW hr)
end PWQ

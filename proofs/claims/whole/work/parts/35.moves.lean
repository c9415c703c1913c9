/-! pure layer: the moves of a state. A move: 64 times the step that leads it, plus the partner's plus 1, or plus 0 -/
def mv_ho (P : xS) (x : Int) : Bool := decide (P 58 x = 119) && decide (P 61 (P 59 x) = 0)
def mv_fr (P σ : xS) (x : Int) : Bool := (!decide (P 58 x = 61) || decide (σ 1 (P 59 x) = P 60 x)) && ((!decide (P 58 x = 33) || !decide (σ 1 (P 59 x) = P 60 x)) && ((!decide (P 58 x = 119) || decide (σ 2 (P 59 x) < P 61 (P 59 x))) && (!decide (P 58 x = 114) || decide (0 < σ 2 (P 59 x)))))
def mv_p2 (P σ : xS) (x : Int) (q r : Nat) : List Int := if P 56 (14 * q + r) = σ 0 q ∧ P 58 (14 * q + r) = 114 ∧ P 59 (14 * q + r) = P 59 x then [64 * x + (14 * q + r) + 1] else []
def mv_pi (P σ : xS) (x : Int) (q u : Nat) : List Int := if (q : Int) = x / 14 then [] else (List.range u).flatMap (mv_p2 P σ x q)
def mv_p1 (P σ : xS) (x : Int) (q : Nat) : List Int := mv_pi P σ x q (P 55 q).toNat
def mv_pr (P σ : xS) (x : Int) : List Int := (List.range (P 54 1).toNat).flatMap (mv_p1 P σ x)
def mv_ow (P σ : xS) (p s : Nat) : List Int := if P 56 (14 * p + s) = σ 0 p then (if mv_ho P (14 * p + s) = true then mv_pr P σ (14 * p + s) else if mv_fr P σ (14 * p + s) = true then [64 * (14 * p + s)] else []) else []
def mv_ld (P σ : xS) (p : Nat) : List Int := (List.range (P 55 p).toNat).flatMap (mv_ow P σ p)
def mv_all (P σ : xS) : List Int := (List.range (P 54 1).toNat).flatMap (mv_ld P σ)
def mv_qt (P σ : xS) (p : Int) : Bool := decide (P 66 (12 * p + σ 0 p) = 1)
def mvs (P σ : xS) : List Int := match (mv_all P σ).find? (fun m => mv_qt P σ (m / 64 / 14)) with
  | none => mv_all P σ
  | some m => (mv_all P σ).filter (fun m' => decide (m' / 64 / 14 = m / 64 / 14))
theorem fm_succ (f : Nat → List Int) (n : Nat) : (List.range (n + 1)).flatMap f = (List.range n).flatMap f ++ f n := by
  rw [List.range_succ, List.flatMap_append]
  simp
theorem fm_le (f : Nat → List Int) {a b : Nat} (h : a ≤ b) : ((List.range a).flatMap f).length ≤ ((List.range b).flatMap f).length := by
  induction b with
  | zero => rw [show a = 0 by omega]; exact Nat.le_refl _
  | succ b ih =>
    by_cases e : a = b + 1
    · rw [e]; exact Nat.le_refl _
    · rw [fm_succ, List.length_append]
      have := ih (by omega)
      omega
theorem mv_pi_succ (P σ : xS) (x : Int) (q u : Nat) : mv_pi P σ x q (u + 1) = mv_pi P σ x q u ++ (if (q : Int) = x / 14 then [] else mv_p2 P σ x q u) := by
  unfold mv_pi
  by_cases e : (q : Int) = x / 14
  · rw [if_pos e, if_pos e, if_pos e]; rfl
  · rw [if_neg e, if_neg e, if_neg e, fm_succ]
theorem mv_pi_le (P σ : xS) (x : Int) (q : Nat) {a b : Nat} (h : a ≤ b) : (mv_pi P σ x q a).length ≤ (mv_pi P σ x q b).length := by
  unfold mv_pi
  split
  · exact Nat.le_refl _
  · exact fm_le _ h
/-! bits -/
theorem iN_nat {x : Int} (h0 : 0 ≤ x) (h1 : x < 2147483648) : (iN x).toBitVec.toNat = x.toNat := by
  show (BitVec.ofInt 32 x).toNat = x.toNat
  rw [BitVec.toNat_ofInt]
  congr 1
  exact Int.emod_eq_of_lt h0 (by omega)
theorem iN_int {w : Int32} (h : w.toBitVec.toNat < 2147483648) : w.toInt = (w.toBitVec.toNat : Int) := by
  show w.toBitVec.toInt = _
  rw [BitVec.toInt_eq_toNat_of_lt (by omega)]
theorem xor_nat {a b : Int} (ha : 0 ≤ a ∧ a < 2147483648) (hb : 0 ≤ b ∧ b < 2147483648) : xor32 a b = ((a.toNat ||| b.toNat : Nat) : Int) := by
  have h : (iN a ||| iN b).toBitVec.toNat = a.toNat ||| b.toNat := by
    rw [Int32.toBitVec_or, BitVec.toNat_or, iN_nat ha.1 ha.2, iN_nat hb.1 hb.2]
  have hlt : a.toNat ||| b.toNat < 2 ^ 31 := Nat.or_lt_two_pow (by omega) (by omega)
  unfold xor32
  rw [iN_int (by rw [h]; omega), h]
theorem xand_nat {a b : Int} (ha : 0 ≤ a ∧ a < 2147483648) (hb : 0 ≤ b ∧ b < 2147483648) : xand a b = ((a.toNat &&& b.toNat : Nat) : Int) := by
  have h : (iN a &&& iN b).toBitVec.toNat = a.toNat &&& b.toNat := by
    rw [Int32.toBitVec_and, BitVec.toNat_and, iN_nat ha.1 ha.2, iN_nat hb.1 hb.2]
  have hlt : a.toNat &&& b.toNat ≤ a.toNat := Nat.and_le_left
  unfold xand
  rw [iN_int (by rw [h]; omega), h]
theorem xor_lo {a b : Int} (i : Nat) (ha : 0 ≤ a) (hb : 0 ≤ b ∧ b < 2 ^ i) (h : a * 2 ^ i < 2147483648) (hi : i < 31) : xor32 (a * 2 ^ i) b = a * 2 ^ i + b := by
  have hp : (0 : Int) < 2 ^ i := Int.pow_pos (by decide)
  have hp2 : (2 : Int) ^ i ≤ 1073741824 := by
    have a := Nat.pow_le_pow_right (show 0 < 2 by decide) (show i ≤ 30 by omega)
    rw [show ((2 : Int) ^ i) = ((2 ^ i : Nat) : Int) by rw [Int.natCast_pow]; rfl]
    omega
  have h0 : 0 ≤ a * 2 ^ i := Int.mul_nonneg ha (by omega)
  rw [xor_nat ⟨h0, h⟩ ⟨hb.1, by omega⟩]
  have e1 : (a * 2 ^ i).toNat = a.toNat <<< i := by
    rw [Nat.shiftLeft_eq]
    apply Int.ofNat.inj
    show ((a * 2 ^ i).toNat : Int) = ((a.toNat * 2 ^ i : Nat) : Int)
    rw [Int.toNat_of_nonneg h0, Int.natCast_mul, Int.toNat_of_nonneg ha, Int.natCast_pow]
    rfl
  have e2 : b.toNat < 2 ^ i := by
    have : ((b.toNat : Nat) : Int) < ((2 ^ i : Nat) : Int) := by
      rw [Int.toNat_of_nonneg hb.1, Int.natCast_pow]
      exact hb.2
    omega
  rw [e1, ← Nat.shiftLeft_add_eq_or_of_lt e2, Int.natCast_add, Int.toNat_of_nonneg hb.1, ← e1, Int.toNat_of_nonneg h0]
theorem xand_lo {a : Int} (i : Nat) (ha : 0 ≤ a ∧ a < 2147483648) (hi : i < 31) : xand a (2 ^ i - 1) = a % 2 ^ i := by
  have hp : (0 : Int) < 2 ^ i := Int.pow_pos (by decide)
  have hp2 : (2 : Int) ^ i ≤ 1073741824 := by
    have a := Nat.pow_le_pow_right (show 0 < 2 by decide) (show i ≤ 30 by omega)
    rw [show ((2 : Int) ^ i) = ((2 ^ i : Nat) : Int) by rw [Int.natCast_pow]; rfl]
    omega
  rw [xand_nat ha ⟨by omega, by omega⟩]
  have e1 : ((2 : Int) ^ i - 1).toNat = 2 ^ i - 1 := by
    have : ((2 : Int) ^ i) = ((2 ^ i : Nat) : Int) := by rw [Int.natCast_pow]; rfl
    rw [this]
    omega
  have e2 : ((a.toNat % 2 ^ i : Nat) : Int) = (a.toNat : Int) % ((2 ^ i : Nat) : Int) := rfl
  rw [e1, Nat.and_two_pow_sub_one_eq_mod, e2, Int.toNat_of_nonneg ha.1, Int.natCast_pow]
  rfl
/-- the class's list of moves -/
def mv_LC (l : List Int) (S : xS) : Prop := S 6 2 = (l.length : Int) ∧ ∀ (i : Nat) (m : Int), l[i]? = some m → S 35 i = m
theorem mv_LC.kp {l : List Int} {S S' : xS} {L : List (Nat × Int)} (h : mv_LC l S) (hk : kp L S S') (h1 : hit L 6 2 = false) (h2 : ∀ i, hit L 35 i = false) : mv_LC l S' := by
  unfold mv_LC
  rw [hk 6 2 h1, hk.cell 35 h2]
  exact h
abbrev mv_L : List (Nat × Int) := [(6, 2), (35, -9)]
section PWM
variable {P S σ : xS} {x y p q : Int} {l : List Int}
theorem s3_add {Q : xS → Prop} (hl : mv_LC l S) (hn : l.length < 392) (hx : 0 ≤ x ∧ x < 42) (hy : -1 ≤ y ∧ y < 42) (k : ∀ S' : xS, kp mv_L S S' → mv_LC (l ++ [64 * x + y + 1]) S' → Q S') : w_X3_add x y S Q := by
  have e : xor32 (x * 64) (y + 1) = 64 * x + y + 1 := by
    have := xor_lo (a := x) (b := y + 1) 6 hx.1 ⟨by omega, by omega⟩ (by omega) (by decide)
    rw [show (2 : Int) ^ 6 = 64 by decide] at this
    omega
  obtain ⟨h1, h2⟩ := hl
  unfold w_X3_add
  rw [e]
  refine ⟨fun z => by omega, fun z => ⟨⟨by omega, by omega⟩, ⟨by omega, by omega⟩, k _ ((kp.rf.up rfl).up rfl) ⟨?_, fun i m h => ?_⟩⟩⟩
  · rw [xup_same, List.length_append]
    show S 6 2 + 1 = _
    rw [h1]
    simp
  · rw [List.getElem?_append] at h
    rw [xup_cell (by decide), xup_at, h1]
    split at h
    · rename_i hi
      rw [if_neg (by omega)]
      exact h2 i m h
    · rename_i hi
      have hi2 : i - l.length = 0 := by
        have hh := (List.getElem?_eq_some_iff.mp h).1
        simp at hh
        omega
      rw [hi2] at h
      rw [if_pos ⟨rfl, by omega⟩]
      simpa using h
theorem s4_processOf {Q : Int → xS → Prop} (hx : 0 ≤ x) (k : Q (x / 14) S) : w_X4_processOf x S Q := ⟨hx, k⟩
theorem s3_addHandovers {Q : xS → Prop} (hW : pw_WF P) (hC : pw_C P S) (hH : sv_H 36 σ S) {p' s' : Int} (hp : 0 ≤ p' ∧ p' < 3) (hs : 0 ≤ s' ∧ s' < P 55 p') (hx : x = 14 * p' + s') (hk : P 58 x = 119) (hl : mv_LC l S) (hn : l.length + (mv_pr P σ x).length ≤ 392) (k : ∀ S' : xS, kp mv_L S S' → mv_LC (l ++ mv_pr P σ x) S' → Q S') : w_X3_addHandovers_h x S Q := by
  have w0 := hW.1
  have ws := hW.2.2.2.1 p' hp.1 hp.2
  have cx := hC.2.2.2.2.1 p' s' hp.1 hp.2 hs.1 hs.2
  rw [← hx] at cx
  obtain ⟨cx1, cx2, cx3, cx4, -⟩ := cx
  have cx5 := (cx4 (by omega)).1
  refine xL1_up (P 54 1) (fun v S' => ∃ n : Nat, v = (n : Int) ∧ kp mv_L S S' ∧ mv_LC (l ++ (List.range n).flatMap (mv_p1 P σ x)) S') ?_ 0 S (by omega) ⟨0, rfl, kp.rf, by simpa using hl⟩
  rintro v S' ⟨n, rfl, hk1, hl1⟩ hvn k2 hk2
  have hC1 := hC.kp hk1 rfl
  unfold w_X3_addHandovers_h_L2
  rw [hC1.1]
  refine ⟨fun z => ?_, fun z => ?_⟩
  · have hnn : n = (P 54 1).toNat := by omega
    rw [hnn] at hl1
    exact k S' hk1 hl1
  · have wq := hW.2.2.2.1 n (by omega) (by omega)
    refine xL1_up (P 55 n) (fun u S'' => ∃ m : Nat, u = (m : Int) ∧ kp mv_L S S'' ∧ mv_LC (l ++ (List.range n).flatMap (mv_p1 P σ x) ++ mv_pi P σ x n m) S'') ?_ 0 S' (by omega) ⟨0, rfl, hk1, by
      have : mv_pi P σ x n 0 = [] := by unfold mv_pi; split <;> rfl
      rw [this]; simpa using hl1⟩
    rintro u S'' ⟨m, rfl, hk3, hl3⟩ hum k4 hk4
    have hC3 := hC.kp hk3 rfl
    have cq := hC3.2.2.2.1 n (by omega) (by omega)
    unfold w_X3_addHandovers_h_L16
    rw [cq]
    refine ⟨⟨by omega, by omega⟩, fun z => ⟨⟨by omega, by omega⟩, hk2 S'' (by omega) ⟨n + 1, by omega, hk3, ?_⟩⟩, fun z => ⟨⟨by omega, by omega⟩, by omega, ?_⟩⟩
    · have hmm : m = (P 55 n).toNat := by omega
      rw [hmm] at hl3
      rw [fm_succ, ← List.append_assoc]
      exact hl3
    · have cs := hC3.2.2.2.2.1 n m (by omega) (by omega) (by omega) (by omega)
      obtain ⟨cs1, cs2, cs3, cs4, -⟩ := cs
      rw [show (n : Int) * 14 + m = 14 * n + m by omega]
      have skip : mv_pi P σ x n (m + 1) = mv_pi P σ x n m → (-2147483648 ≤ (m : Int) + 1 ∧ (m : Int) + 1 < 2147483648) ∧ k4 (m + 1) S'' := fun e => ⟨⟨by omega, by omega⟩, hk4 S'' (by omega) ⟨m + 1, by omega, hk3, by rw [e]; exact hl3⟩⟩
      have e36 : S'' 36 n = σ 0 n := by rw [hk3 36 n rfl]; exact hH.1 n (by omega) (by omega)
      refine ⟨fun z1 => ⟨fun _ => skip ?_, fun z2 => absurd rfl z2⟩, fun z1 => ⟨⟨by omega, by omega⟩, fun z2 => ⟨fun _ => skip ?_, fun z2 => absurd rfl z2⟩, fun z2 => ⟨fun z3 => by omega, fun _ => ⟨⟨by omega, by omega⟩, fun z3 => ⟨fun _ => skip ?_, fun z4 => absurd rfl z4⟩, fun z3 => ⟨⟨by omega, by omega⟩, fun z4 => ⟨fun _ => skip ?_, fun z5 => absurd rfl z5⟩, fun z4 => ⟨fun z5 => by omega, fun _ => ?_⟩⟩⟩⟩⟩⟩
      · rw [mv_pi_succ, if_pos z1, List.append_nil]
      · rw [mv_pi_succ, if_neg z1]
        unfold mv_p2
        rw [if_neg (fun w => z2 (by rw [cs1, e36]; exact w.1)), List.append_nil]
      · rw [mv_pi_succ, if_neg z1]
        unfold mv_p2
        rw [if_neg (fun w => z3 (by rw [cs3]; exact w.2.1)), List.append_nil]
      · have c14 := (cs4 (by rw [← cs3]; omega)).1
        rw [mv_pi_succ, if_neg z1]
        unfold mv_p2
        rw [if_neg (fun w => z4 (by rw [c14, hk3 14 x rfl, cx5]; exact w.2.2)), List.append_nil]
      · have c14 := (cs4 (by rw [← cs3]; omega)).1
        have e1 : mv_pi P σ x n (m + 1) = mv_pi P σ x n m ++ [64 * x + (14 * n + m) + 1] := by
          rw [mv_pi_succ, if_neg z1]
          unfold mv_p2
          rw [if_pos ⟨by rw [← cs1, ← e36]; exact z2, by rw [← cs3]; exact z3, by rw [← c14, ← cx5, ← hk3 14 x rfl]; exact z4⟩]
        have hlen : (l ++ (List.range n).flatMap (mv_p1 P σ x) ++ mv_pi P σ x n m).length < 392 := by
          have a1 := mv_pi_le P σ x n (show m + 1 ≤ (P 55 n).toNat by omega)
          rw [e1, List.length_append] at a1
          have a2 := fm_le (mv_p1 P σ x) (show n + 1 ≤ (P 54 1).toNat by omega)
          rw [fm_succ, List.length_append] at a2
          unfold mv_pr at hn
          have a3 : (mv_p1 P σ x n).length = (mv_pi P σ x n (P 55 n).toNat).length := rfl
          rw [List.length_append, List.length_append]
          simp only [List.length_cons, List.length_nil] at a1
          omega
        refine s3_add hl3 hlen ⟨by omega, by omega⟩ ⟨by omega, by omega⟩ (fun S3 hk5 hl5 => ⟨⟨by omega, by omega⟩, hk4 S3 (by omega) ⟨m + 1, by omega, hk3.tr hk5, ?_⟩⟩)
        rw [e1, ← List.append_assoc]
        exact hl5
end PWM
/-- a step that was laid -/
def pw_v (P : xS) (x : Int) : Prop := ∃ p s : Int, (0 ≤ p ∧ p < 3) ∧ (0 ≤ s ∧ s < P 55 p) ∧ x = 14 * p + s
theorem pw_v.b {P : xS} {x : Int} (h : pw_v P x) (hW : pw_WF P) : (0 ≤ x ∧ x < 42) ∧ (0 ≤ P 56 x ∧ P 56 x < 12) ∧ (0 ≤ P 57 x ∧ P 57 x < 12) ∧ (P 58 x = 107 ∨ P 58 x = 115 ∨ P 58 x = 105 ∨ P 58 x = 61 ∨ P 58 x = 33 ∨ P 58 x = 97 ∨ P 58 x = 119 ∨ P 58 x = 114) ∧ (P 58 x ≠ 107 → (0 ≤ P 59 x ∧ P 59 x < 9) ∧ 0 ≤ P 60 x ∧ P 60 x < 9) ∧ ((P 58 x = 119 ∨ P 58 x = 114) → (0 ≤ P 59 x ∧ P 59 x < 2) ∧ (0 ≤ P 61 (P 59 x) ∧ P 61 (P 59 x) ≤ 2)) ∧ ((P 58 x = 115 ∨ P 58 x = 105 ∨ P 58 x = 61 ∨ P 58 x = 33 ∨ P 58 x = 97) → 0 ≤ P 60 x ∧ P 60 x < 4) := by
  obtain ⟨p, s, hp, hs, rfl⟩ := h
  have l := hW.2.2.2.1 p hp.1 hp.2
  have o := hW.2.2.2.2.1 p s hp.1 hp.2 hs.1 hs.2
  have b := o.b hW hp
  refine ⟨by omega, o.1, o.2.1, b.1, b.2.1, fun z => ?_, fun z => (b.2.2.2 z).2⟩
  have c := b.2.2.1 z
  exact ⟨⟨c.1, c.2.1⟩, hW.2.2.2.2.2.1 _ c.1 c.2.1⟩
theorem pw_v.c {P S : xS} {x : Int} (h : pw_v P x) (hC : pw_C P S) : pw_cs P S x := by
  obtain ⟨p, s, hp, hs, rfl⟩ := h
  exact hC.2.2.2.2.1 p s hp.1 hp.2 hs.1 hs.2
section PWM2
variable {P S σ : xS} {x y p q : Int} {l : List Int}
theorem s4_isHandover {Q : Int → xS → Prop} (hW : pw_WF P) (hC : pw_C P S) (hx : pw_v P x) (h1 : mv_ho P x = true → Q 1 S) (h0 : mv_ho P x = false → Q 0 S) : w_X4_isHandover x S Q := by
  obtain ⟨b1, b2, b3, b4, b5, b6, b7⟩ := hx.b hW
  obtain ⟨c1, c2, c3, c4, -⟩ := hx.c hC
  unfold mv_ho at h1 h0
  unfold w_X4_isHandover
  refine ⟨b1, fun z => h0 ?_, fun z => ?_⟩
  · simp [← c3, z]
  · have c5 := (c4 (by omega)).1
    have b8 := b6 (Or.inl (by omega))
    have c6 := hC.2.2.2.2.2.1 (P 59 x) (by omega) (by omega)
    rw [c5, c6]
    refine ⟨by omega, fun y => h0 ?_, fun y => h1 ?_⟩
    · simp [y]
    · simp [← c3, z, y]
theorem s7_canDo {Q : Int → xS → Prop} (hW : pw_WF P) (hC : pw_C P S) (hH : sv_H 36 σ S) (hx : pw_v P x) (h1 : mv_fr P σ x = true → Q 1 S) (h0 : mv_fr P σ x = false → Q 0 S) : w_X7_canDo_h x S Q := by
  obtain ⟨b1, b2, b3, b4, b5, b6, b7⟩ := hx.b hW
  obtain ⟨c1, c2, c3, c4, -⟩ := hx.c hC
  unfold mv_fr at h1 h0
  unfold w_X7_canDo_h
  rw [c3]
  refine ⟨b1, fun z => ?_, fun z => ?_, fun z => ?_, fun z => ?_, fun z1 z2 z3 z4 => h1 ?_⟩
  · obtain ⟨c5, c6⟩ := c4 (by omega)
    have b8 := b5 (by omega)
    have e := hH.2.1 (P 59 x) (by omega) (by omega)
    rw [c5, c6, show S 37 (P 59 x) = σ 1 (P 59 x) from e]
    exact ⟨by omega, fun y => h0 (by simp [z, y]), fun y => h1 (by simp [z, y])⟩
  · obtain ⟨c5, c6⟩ := c4 (by omega)
    have b8 := b5 (by omega)
    have e := hH.2.1 (P 59 x) (by omega) (by omega)
    rw [c5, c6, show S 37 (P 59 x) = σ 1 (P 59 x) from e]
    exact ⟨by omega, fun y => h0 (by simp [z, y]), fun y => h1 (by simp [z, y])⟩
  · obtain ⟨c5, c6⟩ := c4 (by omega)
    have b8 := b6 (by omega)
    have e := (hH.2.2 (P 59 x) (by omega) (by omega)).1
    rw [c5, show S 38 (P 59 x) = σ 2 (P 59 x) from e]
    exact ⟨by omega, fun y => h0 (by simp [z]; omega), fun y => h1 (by simp [z]; omega)⟩
  · obtain ⟨c5, c6⟩ := c4 (by omega)
    have b8 := b6 (by omega)
    have e := (hH.2.2 (P 59 x) (by omega) (by omega)).1
    have c7 := hC.2.2.2.2.2.1 (P 59 x) (by omega) (by omega)
    rw [c5, c7, show S 38 (P 59 x) = σ 2 (P 59 x) from e]
    exact ⟨by omega, fun y => h0 (by simp [z]; omega), fun y => h1 (by simp [z]; omega)⟩
  · simp [z1, z2, z3, z4]
theorem s3_addLedBy {Q : xS → Prop} {n : Nat} (hW : pw_WF P) (hC : pw_C P S) (hH : sv_H 36 σ S) (hp : n < 3) (hl : mv_LC l S) (hn : l.length + (mv_ld P σ n).length ≤ 392) (k : ∀ S' : xS, kp mv_L S S' → mv_LC (l ++ mv_ld P σ n) S' → Q S') : w_X3_addLedBy_h n S Q := by
  have ws := hW.2.2.2.1 n (by omega) (by omega)
  refine xL1_up (P 55 n) (fun v S' => ∃ m : Nat, v = (m : Int) ∧ kp mv_L S S' ∧ mv_LC (l ++ (List.range m).flatMap (mv_ow P σ n)) S') ?_ 0 S (by omega) ⟨0, rfl, kp.rf, by simpa using hl⟩
  rintro v S' ⟨m, rfl, hk1, hl1⟩ hvn k2 hk2
  have hC1 := hC.kp hk1 rfl
  have cq := hC1.2.2.2.1 n (by omega) (by omega)
  unfold w_X3_addLedBy_h_L2
  rw [cq]
  refine ⟨⟨by omega, by omega⟩, fun z => ?_, fun z => ⟨⟨by omega, by omega⟩, ⟨by omega, by omega⟩, ?_⟩⟩
  · have hmm : m = (P 55 n).toNat := by omega
    rw [hmm] at hl1
    exact k S' hk1 hl1
  · rw [show (n : Int) * 14 + m = 14 * n + m by omega]
    have hv : pw_v P (14 * n + m) := ⟨n, m, by omega, by omega, rfl⟩
    obtain ⟨c1, c2, c3, c4, -⟩ := hv.c hC1
    have e36 : S' 36 n = σ 0 n := by rw [hk1 36 n rfl]; exact hH.1 n (by omega) (by omega)
    have hH1 : sv_H 36 σ S' := by
      unfold sv_H
      rw [hk1.cell 36 (fun _ => rfl), hk1.cell (36 + 1) (fun _ => rfl), hk1.cell (36 + 2) (fun _ => rfl), hk1.cell (36 + 3) (fun _ => rfl), hk1.cell (36 + 4) (fun _ => rfl)]
      exact hH
    have hlen : (l ++ (List.range m).flatMap (mv_ow P σ n)).length + (mv_ow P σ n m).length ≤ 392 := by
      have a2 := fm_le (mv_ow P σ n) (show m + 1 ≤ (P 55 n).toNat by omega)
      rw [fm_succ, List.length_append] at a2
      unfold mv_ld at hn
      rw [List.length_append]
      omega
    have go : ∀ S2 : xS, kp mv_L S' S2 → mv_LC (l ++ (List.range m).flatMap (mv_ow P σ n) ++ mv_ow P σ n m) S2 → (-2147483648 ≤ (m : Int) + 1 ∧ (m : Int) + 1 < 2147483648) ∧ k2 (m + 1) S2 := fun S2 a b => ⟨⟨by omega, by omega⟩, hk2 S2 (by omega) ⟨m + 1, by omega, hk1.tr a, by rw [fm_succ, ← List.append_assoc]; exact b⟩⟩
    rw [c1, e36]
    refine ⟨fun z1 => go S' kp.rf ?_, fun z1 => s4_isHandover hW hC1 hv (fun z2 => ⟨fun y => by omega, fun _ => ?_⟩) (fun z2 => ⟨fun _ => s7_canDo hW hC1 hH1 hv (fun z3 => ⟨fun y => by omega, fun _ => ?_⟩) (fun z3 => ⟨fun _ => go S' kp.rf ?_, fun y => absurd rfl y⟩), fun y => absurd rfl y⟩)⟩
    · have e : mv_ow P σ n m = [] := by unfold mv_ow; rw [if_neg z1]
      rw [e, List.append_nil]; exact hl1
    · have e : mv_ow P σ n m = mv_pr P σ (14 * n + m) := by unfold mv_ow; rw [if_pos z1, if_pos z2]
      rw [e] at hlen go
      have z4 : P 58 (14 * n + m) = 119 := by
        unfold mv_ho at z2
        simp at z2
        exact z2.1
      exact s3_addHandovers hW hC1 hH1 (p' := n) (s' := m) ⟨by omega, by omega⟩ ⟨by omega, by omega⟩ rfl z4 hl1 hlen go
    · have e : mv_ow P σ n m = [64 * (14 * (n : Int) + m)] := by unfold mv_ow; rw [if_pos z1, if_neg (by rw [z2]; decide), if_pos z3]
      rw [e] at hlen go
      have b := (hv.b hW).1
      refine s3_add hl1 (by simp at hlen ⊢; omega) b ⟨by omega, by omega⟩ (fun S2 a b => go S2 a ?_)
      rw [show (64 * (14 * (n : Int) + m)) = 64 * (14 * (n : Int) + m) + -1 + 1 by omega]
      exact b
    · have e : mv_ow P σ n m = [] := by unfold mv_ow; rw [if_pos z1, if_neg (by rw [z2]; decide), if_neg (by rw [z3]; decide)]
      rw [e, List.append_nil]; exact hl1
end PWM2
/-! which moves are left where a location is quiet -/
theorem mv_p2_mem {P σ : xS} {x m : Int} {q r : Nat} (h : m ∈ mv_p2 P σ x q r) : m = 64 * x + (14 * q + r) + 1 := by
  unfold mv_p2 at h
  split at h
  · simpa using h
  · simp at h
theorem mv_pr_mem {P σ : xS} {x m : Int} (hW : pw_WF P) (h : m ∈ mv_pr P σ x) : ∃ q r : Nat, (q : Int) < P 54 1 ∧ (r : Int) < P 55 q ∧ (q : Int) ≠ x / 14 ∧ m = 64 * x + (14 * q + r) + 1 ∧ P 56 (14 * q + r) = σ 0 q ∧ P 58 (14 * q + r) = 114 ∧ P 59 (14 * q + r) = P 59 x := by
  unfold mv_pr at h
  obtain ⟨q, hq, hm⟩ := List.mem_flatMap.mp h
  rw [List.mem_range] at hq
  unfold mv_p1 mv_pi at hm
  split at hm
  · simp at hm
  · rename_i hne
    obtain ⟨r, hr, hm2⟩ := List.mem_flatMap.mp hm
    rw [List.mem_range] at hr
    have e := mv_p2_mem hm2
    unfold mv_p2 at hm2
    split at hm2
    · rename_i hc
      exact ⟨q, r, by omega, by omega, hne, e, hc⟩
    · simp at hm2
/-- what a move of the list is -/
def mv_ok (P σ : xS) (m : Int) : Prop := ∃ p s : Nat, (p : Int) < P 54 1 ∧ (s : Int) < P 55 p ∧ m / 64 = 14 * p + s ∧ P 56 (14 * p + s) = σ 0 p ∧ ((mv_ho P (14 * p + s) = false ∧ mv_fr P σ (14 * p + s) = true ∧ m = 64 * (14 * p + s)) ∨ (mv_ho P (14 * p + s) = true ∧ ∃ q r : Nat, (q : Int) < P 54 1 ∧ (r : Int) < P 55 q ∧ q ≠ p ∧ m = 64 * (14 * p + s) + (14 * q + r) + 1 ∧ P 56 (14 * q + r) = σ 0 q ∧ P 58 (14 * q + r) = 114 ∧ P 59 (14 * q + r) = P 59 (14 * p + s)))
theorem mv_ld_mem {P σ : xS} {m : Int} {p : Nat} (hW : pw_WF P) (hp : (p : Int) < P 54 1) (h : m ∈ mv_ld P σ p) : m / 64 / 14 = p ∧ mv_ok P σ m := by
  have w0 := hW.1
  unfold mv_ld at h
  obtain ⟨s, hs, hm⟩ := List.mem_flatMap.mp h
  rw [List.mem_range] at hs
  have ws := hW.2.2.2.1 p (by omega) (by omega)
  unfold mv_ow at hm
  split at hm
  · rename_i h1
    split at hm
    · rename_i h2
      obtain ⟨q, r, g1, g2, g3, g4, g5⟩ := mv_pr_mem hW hm
      have wq := hW.2.2.2.1 q (by omega) (by omega)
      exact ⟨by omega, p, s, hp, by omega, by omega, h1, Or.inr ⟨h2, q, r, g1, g2, by omega, g4, g5⟩⟩
    · rename_i h2
      split at hm
      · rename_i h3
        have e : m = 64 * (14 * p + s) := by simpa using hm
        exact ⟨by omega, p, s, hp, by omega, by omega, h1, Or.inl ⟨by simpa using h2, h3, e⟩⟩
      · simp at hm
  · simp at hm
theorem mv_all_mem {P σ : xS} {m : Int} (hW : pw_WF P) (h : m ∈ mv_all P σ) : mv_ok P σ m := by
  have w0 := hW.1
  unfold mv_all at h
  obtain ⟨p, hp, hm⟩ := List.mem_flatMap.mp h
  rw [List.mem_range] at hp
  exact (mv_ld_mem hW (by omega) hm).2
theorem mvs_mem {P σ : xS} {m : Int} (hW : pw_WF P) (h : m ∈ mvs P σ) : mv_ok P σ m := by
  unfold mvs at h
  split at h
  · exact mv_all_mem hW h
  · exact mv_all_mem hW ((List.mem_filter.mp h).1)
theorem mvs_len {P σ : xS} : (mvs P σ).length ≤ (mv_all P σ).length := by
  unfold mvs
  split
  · exact Nat.le_refl _
  · exact List.length_filter_le _ _
theorem fm_split (f : Nat → List Int) {k n : Nat} (h : k < n) : ∃ rest : List Int, (∀ m ∈ rest, ∃ j : Nat, k < j ∧ j < n ∧ m ∈ f j) ∧ (List.range n).flatMap f = (List.range k).flatMap f ++ f k ++ rest := by
  induction n with
  | zero => omega
  | succ n ih =>
    by_cases e : k = n
    · subst e
      exact ⟨[], by simp, by rw [fm_succ, List.append_nil]⟩
    · obtain ⟨rest, h1, h2⟩ := ih (by omega)
      refine ⟨rest ++ f n, fun m hm => ?_, by rw [fm_succ, h2, List.append_assoc]⟩
      rcases List.mem_append.mp hm with h3 | h3
      · obtain ⟨j, a, b, c⟩ := h1 m h3
        exact ⟨j, a, by omega, c⟩
      · exact ⟨n, by omega, by omega, h3⟩
/-- the first quiet process with a move: its moves alone -/
theorem mvs_quiet {P σ : xS} (hW : pw_WF P) {k : Nat} (hk : (k : Int) < P 54 1) (h1 : mv_qt P σ k = true) (h2 : mv_ld P σ k ≠ []) (h3 : ∀ j : Nat, j < k → mv_qt P σ j = true → mv_ld P σ j = []) : mvs P σ = mv_ld P σ k := by
  have w0 := hW.1
  obtain ⟨rest, r1, r2⟩ := fm_split (mv_ld P σ) (k := k) (n := (P 54 1).toNat) (by omega)
  have hall : mv_all P σ = (List.range k).flatMap (mv_ld P σ) ++ mv_ld P σ k ++ rest := r2
  have pre : ∀ m ∈ (List.range k).flatMap (mv_ld P σ), ∃ j : Nat, j < k ∧ m / 64 / 14 = j ∧ m ∈ mv_ld P σ j := by
    intro m hm
    obtain ⟨j, hj, hm2⟩ := List.mem_flatMap.mp hm
    rw [List.mem_range] at hj
    exact ⟨j, hj, (mv_ld_mem hW (by omega) hm2).1, hm2⟩
  obtain ⟨m0, t, e0⟩ : ∃ m0 t, mv_ld P σ k = m0 :: t := by
    cases hl : mv_ld P σ k with
    | nil => exact absurd hl h2
    | cons a t => exact ⟨a, t, rfl⟩
  have hm0 := (mv_ld_mem hW hk (show m0 ∈ mv_ld P σ k by rw [e0]; exact List.mem_cons_self)).1
  have hf : (mv_all P σ).find? (fun m => mv_qt P σ (m / 64 / 14)) = some m0 := by
    rw [hall, e0, List.append_assoc, List.find?_append]
    have : List.find? (fun m => mv_qt P σ (m / 64 / 14)) ((List.range k).flatMap (mv_ld P σ)) = none := by
      rw [List.find?_eq_none]
      intro m hm
      obtain ⟨j, hj, e, hmj⟩ := pre m hm
      intro hq
      rw [e] at hq
      rw [h3 j hj hq] at hmj
      simp at hmj
    rw [this]
    simp [hm0, h1]
  unfold mvs
  rw [hf]
  simp only
  rw [hm0, hall, List.filter_append, List.filter_append]
  have f1 : List.filter (fun m' => decide (m' / 64 / 14 = (k : Int))) ((List.range k).flatMap (mv_ld P σ)) = [] := by
    rw [List.filter_eq_nil_iff]
    intro m hm
    obtain ⟨j, hj, e, -⟩ := pre m hm
    simp
    omega
  have f2 : List.filter (fun m' => decide (m' / 64 / 14 = (k : Int))) (mv_ld P σ k) = mv_ld P σ k := by
    rw [List.filter_eq_self]
    intro m hm
    have := (mv_ld_mem hW hk hm).1
    simp
    omega
  have f3 : List.filter (fun m' => decide (m' / 64 / 14 = (k : Int))) rest = [] := by
    rw [List.filter_eq_nil_iff]
    intro m hm
    obtain ⟨j, a, b, hmj⟩ := r1 m hm
    have := (mv_ld_mem hW (p := j) (by omega) hmj).1
    simp
    omega
  rw [f1, f2, f3]
  simp
theorem mvs_none {P σ : xS} (hW : pw_WF P) (h3 : ∀ j : Nat, (j : Int) < P 54 1 → mv_qt P σ j = true → mv_ld P σ j = []) : mvs P σ = mv_all P σ := by
  have w0 := hW.1
  have hf : (mv_all P σ).find? (fun m => mv_qt P σ (m / 64 / 14)) = none := by
    rw [List.find?_eq_none]
    intro m hm hq
    unfold mv_all at hm
    obtain ⟨j, hj, hm2⟩ := List.mem_flatMap.mp hm
    rw [List.mem_range] at hj
    rw [(mv_ld_mem hW (by omega) hm2).1] at hq
    rw [h3 j (by omega) hq] at hm2
    simp at hm2
  unfold mvs
  rw [hf]
section PWM3
variable {P S σ : xS} {x y p q : Int} {l : List Int}
theorem xand_mark {e f : Int} (he : e = 0 ∨ e = 1) (hf : f = 0 ∨ f = 1) : xand (e + 2 * f) 2 = 2 * f ∧ xand (e + 2 * f) 1 = e := by
  rcases he with rfl | rfl <;> rcases hf with rfl | rfl <;> decide +kernel
theorem s4_isQuiet {Q : Int → xS → Prop} (hW : pw_WF P) (hC : pw_C P S) (hV : sv_V σ) {n : Nat} (hp : n < 3) (h1 : mv_qt P σ n = true → Q 1 S) (h0 : mv_qt P σ n = false → Q 0 S) : w_X4_isMarked n (σ 0 n) 2 S Q := by
  have v := hV.1 n (by omega) (by omega)
  have w := hW.2.2.2.2.2.2.2.2 (12 * n + σ 0 n) (by omega) (by omega)
  have c := hC.2.2.2.2.2.2.2.1 (12 * n + σ 0 n) (by omega) (by omega)
  unfold w_X4_isMarked
  rw [show (n : Int) * 12 + σ 0 n = 12 * n + σ 0 n by omega, c, (xand_mark w.1 w.2).1]
  unfold mv_qt at h1 h0
  exact ⟨by omega, fun z => h0 (by simp; omega), fun z => h1 (by simp; omega)⟩
theorem s4_isEnd {Q : Int → xS → Prop} (hW : pw_WF P) (hC : pw_C P S) (hV : sv_V σ) {n : Nat} (hp : n < 3) (h1 : P 65 (12 * n + σ 0 n) = 1 → Q 1 S) (h0 : P 65 (12 * n + σ 0 n) = 0 → Q 0 S) : w_X4_isMarked n (σ 0 n) 1 S Q := by
  have v := hV.1 n (by omega) (by omega)
  have w := hW.2.2.2.2.2.2.2.2 (12 * n + σ 0 n) (by omega) (by omega)
  have c := hC.2.2.2.2.2.2.2.1 (12 * n + σ 0 n) (by omega) (by omega)
  unfold w_X4_isMarked
  rw [show (n : Int) * 12 + σ 0 n = 12 * n + σ 0 n by omega, c, (xand_mark w.1 w.2).2]
  exact ⟨by omega, fun z => h0 z, fun z => h1 (by omega)⟩
theorem mv_ld_le {n : Nat} (h : n < (P 54 1).toNat) : (mv_ld P σ n).length ≤ (mv_all P σ).length := by
  have a := fm_le (mv_ld P σ) (show n + 1 ≤ (P 54 1).toNat by omega)
  rw [fm_succ, List.length_append] at a
  unfold mv_all
  omega
theorem sv_H.kp {b : Nat} {S' : xS} {L : List (Nat × Int)} (h : sv_H b σ S) (hk : kp L S S') (e : ∀ i, hit L b i = false) (e1 : ∀ i, hit L (b + 1) i = false) (e2 : ∀ i, hit L (b + 2) i = false) (e3 : ∀ i, hit L (b + 3) i = false) (e4 : ∀ i, hit L (b + 4) i = false) : sv_H b σ S' := by
  unfold sv_H
  rw [hk.cell b e, hk.cell (b + 1) e1, hk.cell (b + 2) e2, hk.cell (b + 3) e3, hk.cell (b + 4) e4]
  exact h
theorem sv_N.kp {b : Nat} {S' : xS} {L : List (Nat × Int)} (h : sv_N b σ S) (hk : kp L S S') (e : ∀ i, hit L b i = false) (e1 : ∀ i, hit L (b + 1) i = false) (e2 : ∀ i, hit L (b + 2) i = false) (e3 : ∀ i, hit L (b + 3) i = false) : sv_N b σ S' := by
  unfold sv_N
  rw [hk.cell b e, hk.cell (b + 1) e1, hk.cell (b + 2) e2, hk.cell (b + 3) e3]
  exact h
theorem s3_listFor {Q : xS → Prop} (hW : pw_WF P) (hC : pw_C P S) (hH : sv_H 36 σ S) (hV : sv_V σ) (hn : (mv_all P σ).length ≤ 392) (k : ∀ S' : xS, kp mv_L S S' → mv_LC (mvs P σ) S' → Q S') : w_X3_listFor_h S Q := by
  have w0 := hW.1
  have l0 : mv_LC [] (xup S 6 2 0) := ⟨by rw [xup_same]; rfl, fun i m h => by simp at h⟩
  refine xL1_up (P 54 1) (fun v S' => ∃ n : Nat, v = (n : Int) ∧ kp mv_L S S' ∧ mv_LC [] S' ∧ ∀ j : Nat, j < n → mv_qt P σ j = true → mv_ld P σ j = []) ?_ 0 _ (by omega) ⟨0, rfl, kp.rf.up rfl, l0, fun j hj => by omega⟩
  rintro v S' ⟨n, rfl, hk1, hl1, hq1⟩ hvn k2 hk2
  have hC1 := hC.kp hk1 rfl
  have hH1 := hH.kp hk1 (fun _ => rfl) (fun _ => rfl) (fun _ => rfl) (fun _ => rfl) (fun _ => rfl)
  unfold w_X3_listFor_h_L7
  rw [hC1.1]
  refine ⟨fun z => ?_, fun z => ⟨⟨by omega, by omega⟩, ?_⟩⟩
  · have e : mvs P σ = mv_all P σ := mvs_none hW (fun j hj => hq1 j (by omega))
    refine xL1_up (P 54 1) (fun v S' => ∃ n : Nat, v = (n : Int) ∧ kp mv_L S S' ∧ mv_LC ((List.range n).flatMap (mv_ld P σ)) S') ?_ 0 S' (by omega) ⟨0, rfl, hk1, hl1⟩
    rintro u S2 ⟨m, rfl, hk3, hl3⟩ hum k4 hk4
    have hC3 := hC.kp hk3 rfl
    have hH3 := hH.kp hk3 (fun _ => rfl) (fun _ => rfl) (fun _ => rfl) (fun _ => rfl) (fun _ => rfl)
    unfold w_X3_listFor_h_L58
    rw [hC3.1]
    refine ⟨fun y => ?_, fun y => ?_⟩
    · have hm : m = (P 54 1).toNat := by omega
      rw [hm] at hl3
      exact k S2 hk3 (by rw [e]; exact hl3)
    · have hlen : ((List.range m).flatMap (mv_ld P σ)).length + (mv_ld P σ m).length ≤ 392 := by
        have a := fm_le (mv_ld P σ) (show m + 1 ≤ (P 54 1).toNat by omega)
        rw [fm_succ, List.length_append] at a
        unfold mv_all at hn
        omega
      exact s3_addLedBy hW hC3 hH3 (by omega) hl3 hlen (fun S4 a b => ⟨⟨by omega, by omega⟩, hk4 S4 (by omega) ⟨m + 1, by omega, hk3.tr a, by rw [fm_succ]; exact b⟩⟩)
  · rw [show S' 36 n = σ 0 n from hH1.1 n (by omega) (by omega)]
    refine s4_isQuiet hW hC1 hV (by omega) (fun y => ⟨fun w => by omega, fun _ => ?_⟩) (fun y => ⟨fun _ => ⟨⟨by omega, by omega⟩, hk2 S' (by omega) ⟨n + 1, by omega, hk1, hl1, fun j hj hq => ?_⟩⟩, fun w => absurd rfl w⟩)
    · have a := mv_ld_le (σ := σ) (show n < (P 54 1).toNat by omega)
      refine s3_addLedBy hW hC1 hH1 (by omega) hl1 (by simp; omega) (fun S4 a b => ?_)
      rw [List.nil_append] at b
      refine ⟨fun w => ⟨⟨by omega, by omega⟩, hk2 S4 (by omega) ⟨n + 1, by omega, hk1.tr a, ?_, fun j hj hq => ?_⟩⟩, fun w => ?_⟩
      · have e : mv_ld P σ n = [] := by
          have b1 := b.1
          exact List.eq_nil_of_length_eq_zero (by omega)
        rw [e] at b
        exact b
      · by_cases e : j = n
        · rw [e]
          have b1 := b.1
          exact List.eq_nil_of_length_eq_zero (by omega)
        · exact hq1 j (by omega) hq
      · have e : mv_ld P σ n ≠ [] := by
          intro e
          have b1 := b.1
          rw [e] at b1
          simp at b1
          omega
        exact k S4 (hk1.tr a) (by rw [mvs_quiet hW (by omega) y e hq1]; exact b)
    · by_cases e : j = n
      · rw [e, y] at hq; cases hq
      · exact hq1 j (by omega) hq
end PWM3

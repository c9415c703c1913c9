/-! numbers: Int32 and Int64 as Ints -/
def iN (a : Int) : Int32 := Int32.ofInt a
def jN (a : Int) : Int64 := Int64.ofInt a
abbrev xR (a : Int) : Prop := -2147483648 ≤ a ∧ a < 2147483648
abbrev xRJ (a : Int) : Prop := -9223372036854775808 ≤ a ∧ a < 9223372036854775808
theorem iN_add (a b : Int) : iN a + iN b = iN (a + b) := (Int32.ofInt_add a b).symm
theorem iN_sub (a b : Int) : iN a - iN b = iN (a - b) := (Int32.ofInt_sub a b).symm
theorem iN_mul (a b : Int) : iN a * iN b = iN (a * b) := (Int32.ofInt_mul a b).symm
theorem jN_add (a b : Int) : jN a + jN b = jN (a + b) := (Int64.ofInt_add a b).symm
theorem jN_sub (a b : Int) : jN a - jN b = jN (a - b) := (Int64.ofInt_sub a b).symm
theorem jN_mul (a b : Int) : jN a * jN b = jN (a * b) := (Int64.ofInt_mul a b).symm
theorem iN_t {a : Int} (h : xR a) : (iN a).toInt = a := Int32.toInt_ofInt_of_le (by have := h.1; omega) (by have := h.2; omega)
theorem jN_t {a : Int} (h : xRJ a) : (jN a).toInt = a := Int64.toInt_ofInt_of_le (by have := h.1; omega) (by have := h.2; omega)
theorem iN_of (x : Int32) : iN x.toInt = x := Int32.ofInt_toInt x
theorem jN_of (x : Int64) : jN x.toInt = x := Int64.ofInt_toInt x
theorem xR_of (x : Int32) : xR x.toInt := ⟨by have := x.le_toInt; omega, by have := x.toInt_lt; omega⟩
theorem xRJ_of (x : Int64) : xRJ x.toInt := ⟨by have := x.le_toInt; omega, by have := x.toInt_lt; omega⟩
theorem iN_eq {a b : Int} (ha : xR a) (hb : xR b) : iN a = iN b ↔ a = b := ⟨fun h => by have := congrArg Int32.toInt h; rwa [iN_t ha, iN_t hb] at this, fun h => by rw [h]⟩
theorem iN_lt {a b : Int} (ha : xR a) (hb : xR b) : iN a < iN b ↔ a < b := by rw [Int32.lt_iff_toInt_lt, iN_t ha, iN_t hb]
theorem iN_le {a b : Int} (ha : xR a) (hb : xR b) : iN a ≤ iN b ↔ a ≤ b := by rw [Int32.le_iff_toInt_le, iN_t ha, iN_t hb]
theorem iN_0 : iN 0 = 0 := by decide +kernel
theorem xR_0 : xR 0 := by decide
theorem jN_eq {a b : Int} (ha : xRJ a) (hb : xRJ b) : jN a = jN b ↔ a = b := ⟨fun h => by have := congrArg Int64.toInt h; rwa [jN_t ha, jN_t hb] at this, fun h => by rw [h]⟩
theorem jN_lt {a b : Int} (ha : xRJ a) (hb : xRJ b) : jN a < jN b ↔ a < b := by rw [Int64.lt_iff_toInt_lt, jN_t ha, jN_t hb]
theorem jN_le {a b : Int} (ha : xRJ a) (hb : xRJ b) : jN a ≤ jN b ↔ a ≤ b := by rw [Int64.le_iff_toInt_le, jN_t ha, jN_t hb]
theorem iN_div {a b : Int} (ha : xR a) (h0 : 0 ≤ a) (hb : xR b) (hb0 : 0 < b) : iN a / iN b = iN (a / b) := by
  have h1 : xR (a / b) := ⟨by have := Int.ediv_nonneg h0 (Int.le_of_lt hb0); omega, by have := Int.ediv_le_self b h0; have := ha.2; omega⟩
  apply Int32.toInt_inj.mp
  rw [Int32.toInt_div_of_ne_right _ _ (fun h => by have := congrArg Int32.toInt h; rw [iN_t hb] at this; rw [this] at hb0; exact absurd hb0 (by decide)), iN_t ha, iN_t hb, iN_t h1, Int.tdiv_eq_ediv_of_nonneg h0]
theorem iN_rem {a b : Int} (ha : xR a) (h0 : 0 ≤ a) (hb : xR b) (hb0 : 0 < b) : iN a - iN a / iN b * iN b = iN (a % b) := by
  rw [iN_div ha h0 hb hb0, iN_mul, iN_sub, Int.emod_def, Int.mul_comm b]
theorem iN_nz {b : Int} (hb : xR b) (hb0 : 0 < b) : ¬ iN b = 0 := by
  rw [← iN_0, iN_eq hb xR_0]; omega
theorem jN_div {a b : Int} (ha : xRJ a) (h0 : 0 ≤ a) (hb : xRJ b) (hb0 : 0 < b) : jN a / jN b = jN (a / b) := by
  have h1 : xRJ (a / b) := ⟨by have := Int.ediv_nonneg h0 (Int.le_of_lt hb0); omega, by have := Int.ediv_le_self b h0; have := ha.2; omega⟩
  apply Int64.toInt_inj.mp
  rw [Int64.toInt_div_of_ne_right _ _ (fun h => by have := congrArg Int64.toInt h; rw [jN_t hb] at this; rw [this] at hb0; exact absurd hb0 (by decide)), jN_t ha, jN_t hb, jN_t h1, Int.tdiv_eq_ediv_of_nonneg h0]
theorem jN_rem {a b : Int} (ha : xRJ a) (h0 : 0 ≤ a) (hb : xRJ b) (hb0 : 0 < b) : jN a - jN a / jN b * jN b = jN (a % b) := by
  rw [jN_div ha h0 hb hb0, jN_mul, jN_sub, Int.emod_def, Int.mul_comm b]
theorem jN_0 : jN 0 = 0 := by decide +kernel
theorem jN_nz {b : Int} (hb : xRJ b) (hb0 : 0 < b) : ¬ jN b = 0 := by
  rw [← jN_0, jN_eq hb (by decide)]; omega
theorem iN_l {a : Int} (h : xR a) : (iN a).toInt64 = jN a := by
  have h2 : xRJ a := ⟨by have := h.1; omega, by have := h.2; omega⟩
  apply Int64.toInt_inj.mp
  rw [Int32.toInt_toInt64, iN_t h, jN_t h2]
theorem jN_i (a : Int) : (jN a).toInt32 = iN a := Int64.toInt32_ofInt
theorem iN_ix {i : Int} {n : Nat} (hn : n < 2147483648) (h : 0 ≤ i ∧ i < (n : Int)) : vp_in (iN i) n ∧ (iN i).toNatClampNeg = i.toNat := by
  have hr : xR i := ⟨by omega, by omega⟩
  have e : (iN i).toNatClampNeg = i.toNat := Int32.toNatClampNeg_ofInt_of_le (by have := hr.1; omega) (by have := hr.2; omega)
  refine ⟨fun q => ?_, e⟩
  rcases q with q | q
  · rw [← iN_0, iN_lt hr xR_0] at q; omega
  · rw [e] at q; omega
def xand (a b : Int) : Int := (iN a &&& iN b).toInt
def xor32 (a b : Int) : Int := (iN a ||| iN b).toInt
def xxor (a b : Int) : Int := (iN a ^^^ iN b).toInt
theorem xand_R (a b : Int) : xR (xand a b) := xR_of _
theorem xor32_R (a b : Int) : xR (xor32 a b) := xR_of _
theorem xxor_R (a b : Int) : xR (xxor a b) := xR_of _

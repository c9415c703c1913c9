/-! java.util.Arrays.fill over one array of ints (its body written as gen.py writes them) -/
def w_fill_L5 (q : Nat) (n v : Int) (Q : xS → Prop) (k5 : Int → xS → Prop) (v2_5 : Int) (S5 : xS) : Prop :=
  ((n ≤ v2_5 → Q S5) ∧ (¬ n ≤ v2_5 → (0 ≤ v2_5 ∧ v2_5 < n) ∧ (xR (v2_5 + 1)) ∧ k5 (v2_5 + 1) (xup S5 q v2_5 v)))
def w_fill (q : Nat) (n v : Int) (S : xS) (Q : xS → Prop) : Prop := xL1 (w_fill_L5 q n v Q) 0 S
theorem w_fill_ok {q : Nat} {n v : Int} {S : xS} {Q : xS → Prop} (hn : 0 ≤ n ∧ n < 2147483648) (h : Q (xfill S q n v)) : w_fill q n v S Q := by
  unfold w_fill
  refine xL1_inv (fun i S' => (0 ≤ i ∧ i ≤ n) ∧ S' = xfill S q i v) (fun i _ => (n - i).toNat) ?_ 0 S ⟨⟨by omega, hn.1⟩, ?_⟩
  · intro i S' hI k hk
    obtain ⟨hi, rfl⟩ := hI
    refine ⟨fun z => ?_, fun z => ⟨by omega, by constructor <;> omega, hk _ _ ⟨by omega, ?_⟩ (by omega)⟩⟩
    · have e : i = n := by omega
      subst e; exact h
    · funext q' j
      unfold xup xfill
      by_cases hq : q' = q
      · by_cases hj : j = i
        · subst hj
          rw [if_pos ⟨hq, rfl⟩, if_pos ⟨hq, by omega, by omega⟩]
        · rw [if_neg (fun z => hj z.2)]
          by_cases h9 : 0 ≤ j ∧ j < i
          · rw [if_pos ⟨hq, h9.1, h9.2⟩, if_pos ⟨hq, h9.1, by omega⟩]
          · rw [if_neg (fun z => h9 z.2), if_neg (fun z => h9 ⟨z.2.1, by omega⟩)]
      · rw [if_neg (fun z => hq z.1), if_neg (fun z => hq z.1), if_neg (fun z => hq z.1)]
  · funext q' j
    unfold xfill
    rw [if_neg (fun z => by omega)]
set_option maxRecDepth 100000 in
theorem c_fill (l : Launch) (G : xG) {q n : Nat} {v : Int} {S : xS} {Q : xS → Prop} (hq : G.2.2.2.1[q]? = some (.inl (0, n))) (hn : 0 < n ∧ n < 2147483648) (h_v : xR v) (hlg : ∀ i, G.2.2.2.2.2 q i = false) (h : Q (xfill S q (n : Int) v)) : xM l yJ7_fill_53178 (xws yJ7_fill_53178 cJ7_fill_53178 4 (none)) ({ frames := 0, cells := 0, slots := 0, locals := 0 }) G [.ref (G.2.2.1 q), .int (iN v)] S (xQv Q) 0 0 := by
  have h := w_fill_ok (q := q) (S := S) (v := v) (n := (n : Int)) ⟨by omega, by omega⟩ h
  refine xm_of RJ7 rfl (by decide +kernel) (Nat.le_of_ble_eq_true rfl) ?_
  intro p e s m args below meth c A Z C hA hZ hr hlocks hw
  unfold w_fill at h
  have h_n : xR (n : Int) := ⟨by omega, by omega⟩
  show xV G p l e ({ frames := 0, cells := 0, slots := 0, locals := 0 }) s m args below meth c A 4 Z 0 0 0 [(0, .ref (G.2.2.1 q)), (1, .int (iN v))] [] S
  refine xi_iconst C (v := 0) dJ7_fill_53178_0 rfl ?_
  refine xi_istore_n C (L' := [(2, .int (iN 0)), (0, .ref (G.2.2.1 q)), (1, .int (iN v))]) dJ7_fill_53178_1 rfl (by decide) rfl ?_
  refine xi_aload_n C 1 dJ7_fill_53178_2 rfl rfl ?_
  refine xi_alen C (ni := (n : Int)) rfl hq hn.1 (by decide) dJ7_fill_53178_3 ?_
  refine xi_istore_n C (L' := [(3, .int (iN (n : Int))), (2, .int (iN 0)), (0, .ref (G.2.2.1 q)), (1, .int (iN v))]) dJ7_fill_53178_4 rfl (by decide) rfl ?_
  refine xi_sub [2, 3, 1, 0] rfl (xW1 (fun v2_5 S5 => xR v2_5 → xval G S5 → xV G p l e ({ frames := 0, cells := 0, slots := 0, locals := 0 }) s m args below meth c A 4 Z 0 0 5 [(0, .ref (G.2.2.1 q)), (1, .int (iN v)), (2, .int (iN v2_5)), (3, .int (iN (n : Int)))] [] S5) h (fun k5 hk5 v2_5 S5 h h_v2_5 hw5 => ?_) (by decide) hw)
  unfold w_fill_L5 at h
  refine xi_iload_n C 2 dJ7_fill_53178_5 rfl rfl ?_
  refine xi_iload_n C 3 dJ7_fill_53178_6 rfl rfl ?_
  refine xi_icmp_ge C 20 h_v2_5 h_n dJ7_fill_53178_7 (by decide) (fun z1 => ?_) (fun z1 => ?_)
  · replace h := h.1 z1
    exact xr_v C hA hZ hr hlocks dJ7_fill_53178_20 (Nat.le_of_ble_eq_true rfl) (Nat.le_of_ble_eq_true rfl) hw5 ⟨rfl, h⟩
  · replace h := h.2 z1
    refine xi_aload_n C 0 dJ7_fill_53178_10 rfl rfl ?_
    refine xi_iload_n C 2 dJ7_fill_53178_11 rfl rfl ?_
    refine xi_iload_n C 1 dJ7_fill_53178_12 rfl rfl ?_
    obtain ⟨hc2, h⟩ := h
    refine xi_iastore C (q := q) hq hn hc2 dJ7_fill_53178_13 ?_
    have hw6 := xval.up (q := q) (i := v2_5) (v := v) hw5 (hlg _) h_v
    refine xi_iinc C (L' := [(2, .int (iN (v2_5 + 1))), (0, .ref (G.2.2.1 q)), (1, .int (iN v)), (3, .int (iN (n : Int)))]) 2 dJ7_fill_53178_14 rfl (by decide) rfl ?_
    refine xi_goto C 5 dJ7_fill_53178_17 (by decide) ?_
    obtain ⟨hc5, h⟩ := h
    exact xi_sub [1, 2, 0, 3] rfl (hk5 (v2_5 + 1) _ h hc5 hw6)
/-! java.lang.Math.min -/
def xmin (a b : Int) : Int := if b < a then b else a
theorem xmin_R {a b : Int} (ha : xR a) (hb : xR b) : xR (xmin a b) := by unfold xmin; split <;> assumption
theorem xi_mmin {G : xG} {p : Program} {l : Launch} {e : Env} {R : Room} {s : State} {m : MethodId} {args : Array Value} {below : List Frame} {meth : Method} {c : Code} {A : Nat → Prop} {nL : Nat} {Q : State → Prop} {cc : ByteArray} {own : String} {pc index : Nat} {L : List (Nat × Value)} {st : List Value} {S : xS}
    (C : xC G p c cc nL s args own m A) {x y : Int} (hx : xR x) (hy : xR y) (hl : Cond.methodLink own index yJ9_min_7cf53 ∈ xBIG) (hw : Cond.static yJ9_min_7cf53 ∈ xBIG ∧ Cond.initialized "java/lang/Math" ∈ xBIG ∧ Cond.code yJ9_min_7cf53 cJ9_min_7cf53 2 (some .int) ∈ xBIG)
    (hcat : (st.map fun v => v.category).sum ≤ 8) (hR : 1 ≤ R.frames ∧ 21 ≤ R.locals) {cells slots : Nat} (hcs : cells ≤ R.cells ∧ slots ≤ R.slots) (d : decode cc pc = .ok (.invokestatic index, 3))
    (k : xV G p l e R s m args below meth c A nL Q cells slots (pc + 3) L (.int (iN (xmin x y)) :: st) S) : xV G p l e R s m args below meth c A nL Q cells slots pc L (.int (iN y) :: .int (iN x) :: st) S := by
  intro H locs ls hP hD hS hls
  have hh := C.1.2.2.2.2
  have ey : yJ9_min_7cf53 = Lib.Math.min.name := rfl
  have ec : cJ9_min_7cf53 = Lib.Math.min.code := rfl
  have h3 := hh _ hw.2.2
  rw [ey, ec] at h3
  have h2 := hh _ hw.1
  rw [ey] at h2
  have h1 := hh _ hl
  rw [ey] at h1
  refine va_mmin C.1.1 C.1.2.1 (C.1.2.2.1.trans hls.1.symm) C.1.2.2.2.1 h1 h2 (hh _ hw.2.1) h3 hR.1 (by have := hR.2; omega) hcs.1 hcs.2 d ?_
  have e9 : (if iN y < iN x then iN y else iN x) = iN (xmin x y) := by
    unfold xmin
    by_cases z : y < x
    · rw [if_pos z, if_pos ((iN_lt hy hx).mpr z)]
    · rw [if_neg z, if_neg (fun q => z ((iN_lt hy hx).mp q))]
  rw [e9]
  exact k H locs ls hP hD hS hls

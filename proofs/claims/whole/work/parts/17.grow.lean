/-! Arrays.copyOf where the length grows; the growth of the row of edges -/
def xgrow (S : xS) (n b : Int) : xS := fun q i => if q = 33 then (if i = -1 then n else if i = -2 then b else if i < S 33 (-1) then S 33 i else 0) else S q i
theorem xwAI : Cond.arrayClass .int ∈ xBIG := xmt1 77 (by decide +kernel) (by decide +kernel)
theorem xwA304 : Cond.methodLink RJ7 304 yJ9_min_7cf53 ∈ xBIG := xmt4 187 (by decide +kernel) (by decide +kernel)
theorem xwA150 : Cond.methodLink RJ7 150 arraycopyName ∈ xBIG := xmt4 188 (by decide +kernel) (by decide +kernel)
theorem xset_last {α : Type} (a : List α) (x y : α) : (a ++ [x]).set a.length y = a ++ [y] := by simp
theorem xwd_len {D : va_G} {ca : Nat → ClassId} {ad : Nat → Nat} {tF : Nat} (S : xS) : (xwd (gC D ca ad tF) S).length = 100 := by unfold xwd xw; rw [List.length_mapIdx]; rfl
abbrev xcpRow (S : xS) (k : Nat) : Nat → Int32 := fun j => iN (if (j : Int) < (k : Int) then S 33 j else 0)
set_option maxRecDepth 100000 in
set_option maxHeartbeats 4000000 in
theorem c_copyOf (l : Launch) (D : va_G) (ca : Nat → ClassId) (ad : Nat → Nat) (tF : Nat) (S : xS) {n k : Nat} (hk : S 33 (-1) = (k : Int)) (hkn : 0 < k ∧ k < n ∧ n ≤ 784000) (sz : Nat) :
    Met l yJ7_copyOf_59c91 (xws yJ7_copyOf_59c91 cJ7_copyOf_59c91 3 (some (.array .int))) ({ frames := 1, cells := 1, slots := n, locals := 60 }) (xPre (gC D ca ad tF) [.ref (S 33 (-2)).toNat, .int (iN (n : Int))] S sz)
      (fun _ st oc t => (∃ b : Nat, oc = .returned (some (.ref b)) ∧ va_P D vwCl (xwd (gC D ca ad tF) S ++ [(b, .inl (ca 0, n, .inl (xcpRow S k)))]) t.heap ∧ va_D (va_A (xwd (gC D ca ad tF) S) sz) (xwd (gC D ca ad tF) S ++ [(b, .inl (ca 0, n, .inl (xcpRow S k)))])) ∧ va_F (va_A (xwd (gC D ca ad tF) S) sz) st t) 1 n (va_A (xwd (gC D ca ad tF) S) sz) := by
  refine Met.ofW (cc := cJ7_copyOf_59c91) (maxL := 3) (ret := some (.array .int)) (by decide +kernel) rfl ?_
  intro p e s m args below meth c s₁ B hml hv
  obtain ⟨rfl, hsz, hw, hP, hK, hD, hE⟩ := hv
  subst hsz
  have hts := atoms_spec (ws := xws yJ7_copyOf_59c91 cJ7_copyOf_59c91 3 (some (.array .int))) B.pre
  have hl0 := lv_entry [.ref (S 33 (-2)).toNat, .int (iN (n : Int))] (n := 3) (Nat.le_of_ble_eq_true rfl)
  rw [lg_entry_eq]
  have h_n : xR (n : Int) := ⟨by omega, by omega⟩
  have h_k : xR (k : Int) := ⟨by omega, by omega⟩
  have C : xC (gC D ca ad tF) p c cJ7_copyOf_59c91 3 s _ RJ7 m (va_A (xwd (gC D ca ad tF) S) s.heap.size) := ⟨⟨B.exec, B.bytes, hml, findClass_of_methodNamed B.named, fun w h => hts w (List.mem_cons_of_mem _ h)⟩, hK, fun q h => Or.inr h, hE⟩
  refine (show xV (gC D ca ad tF) p l e ({ frames := 1, cells := 1, slots := n, locals := 60 }) s m _ below meth c (va_A (xwd (gC D ca ad tF) S) s.heap.size) 3 _ 0 0 0 [(0, .ref (S 33 (-2)).toNat), (1, .int (iN (n : Int)))] [] S from ?_) s.heap [] _ hP hD.self va_S.rf hl0
  refine xi_iload_n C 1 dJ7_copyOf_59c91_0 rfl rfl ?_
  refine xi_aload_n C 0 dJ7_copyOf_59c91_1 rfl rfl ?_
  refine xi_alenE C (q := 33) rfl (by omega) dJ7_copyOf_59c91_2 ?_
  rw [hk]
  refine xi_icmp_ne C 14 h_n h_k dJ7_copyOf_59c91_3 (by decide) (fun z1 => ?_) (fun z1 => absurd z1 (by omega))
  refine xi_iload_n C 1 dJ7_copyOf_59c91_14 rfl rfl ?_
  intro H locs ls hP hD hS hl
  have hn0 : ¬ iN (n : Int) < 0 := by rw [iN_nI]; exact nI_pos (by omega)
  have hnc : (iN (n : Int)).toNatClampNeg = n := by rw [iN_nI]; exact nI_clamp (by omega)
  refine va_newaK (atype := .int) C.1.1 C.1.2.1 (C.1.2.2.2.2 _ xwAI) rfl dJ7_copyOf_59c91_15 rfl hn0 hnc (by show n * 4 ≤ _; omega) (Nat.le_refl _) (Nat.le_of_eq (Nat.zero_add _)) rfl (fun H1 cA e1 z1 o1 hAr hNm => ?_)
  have hcA : cA = ca 0 := by
    obtain ⟨-, -, -, -, -, -, -, -, -, h7⟩ := C
    have h8 : s.vm.findClass "[I" = some cA := hNm
    exact Option.some.inj (h8.symm.trans h7)
  subst hcA
  have hkk : ∀ (k : Nat) (x : Nat × va_E), (xwd (gC D ca ad tF) S)[k]? = some x → H1[x.1]? = H[x.1]? := fun k x hx => o1 x.1 ((hP k x hx).lt)
  have hP1 : va_P D vwCl (xwd (gC D ca ad tF) S ++ [(H.size, .inl (ca 0, n, .inl (fun _ => 0)))]) H1 := (hP.kept hkk).app (fun k x hx => by
    have hz : k < 1 := (List.getElem?_eq_some_iff.mp hx).1
    rw [show k = 0 by omega] at hx
    cases hx
    exact e1)
  have hD1 : va_D (va_A (xwd (gC D ca ad tF) S) s.heap.size) (xwd (gC D ca ad tF) S ++ [(H.size, .inl (ca 0, n, .inl (fun _ => 0)))]) := hD.push hP rfl (C.2.2.1 _ hS.1)
  have hS1 : va_S (va_A (xwd (gC D ca ad tF) S) s.heap.size) s.heap H1 locs := ⟨Nat.le_trans hS.1 (by omega), fun x h1 h2 => (o1 x (Nat.lt_of_lt_of_le h1 hS.1)).trans (hS.2.1 x h1 h2), hS.2.2⟩
  have hlen := xwd_len (D := D) (ca := ca) (ad := ad) (tF := tF) S
  have h33 : (xwd (gC D ca ad tF) S ++ [(H.size, .inl (ca 0, n, .inl (fun _ => 0)))])[33]? = some ((S 33 (-2)).toNat, .inl (ca 0, k, .inl (fun j => iN (S 33 j)))) := by
    rw [List.getElem?_append_left (by rw [hlen]; decide)]
    have h := xw_dyn (G := (gC D ca ad tF)) (S := S) (q := 33) (t := 0) rfl
    rw [hk] at h
    exact h
  have h54 : (xwd (gC D ca ad tF) S ++ [(H.size, .inl (ca 0, n, .inl (fun _ => 0)))])[100]? = some (H.size, .inl (ca 0, n, .inl (fun _ => 0))) := by
    rw [List.getElem?_append_right (by rw [hlen]; decide), hlen]
    rfl
  refine lv_astore_n C.1.1 C.1.2.1 dJ7_copyOf_59c91_17 rfl hl (by decide) (lv' := [(2, .ref H.size), (0, .ref (S 33 (-2)).toNat), (1, .int (iN (n : Int)))]) rfl ?_
  intro ls2 hl2
  refine lv_aload_n C.1.1 C.1.2.1 dJ7_copyOf_59c91_18 rfl (lv_at hl2 1 rfl) ?_
  refine lv_iconst C.1.1 C.1.2.1 (v := iN 0) dJ7_copyOf_59c91_19 rfl ?_
  refine lv_aload_n C.1.1 C.1.2.1 dJ7_copyOf_59c91_20 rfl (lv_at hl2 0 rfl) ?_
  refine lv_iconst C.1.1 C.1.2.1 (v := iN 0) dJ7_copyOf_59c91_21 rfl ?_
  refine lv_aload_n C.1.1 C.1.2.1 dJ7_copyOf_59c91_22 rfl (lv_at hl2 1 rfl) ?_
  refine va_alen C.1.1 C.1.2.1 C.2.1 hP1 33 0 h33 (ty := .int) rfl (v := iN (k : Int)) (iN_nI k).symm dJ7_copyOf_59c91_23 ?_
  refine lv_iload_n C.1.1 C.1.2.1 dJ7_copyOf_59c91_24 rfl (lv_at hl2 2 rfl) ?_
  have w3 := C.1.2.2.2.2 _ xmmw.2.2
  have w2 := C.1.2.2.2.2 _ xmmw.1
  have w1 := C.1.2.2.2.2 _ xwA304
  refine va_mmin C.1.1 C.1.2.1 (C.1.2.2.1.trans hl2.1.symm) C.1.2.2.2.1 w1 w2 (C.1.2.2.2.2 _ xmmw.2.1) w3 (Nat.le_of_ble_eq_true rfl) (Nat.le_of_ble_eq_true rfl) (Nat.le_refl _) (Nat.le_of_eq (Nat.zero_add _)) dJ7_copyOf_59c91_25 ?_
  have e9 : (if iN (n : Int) < iN (k : Int) then iN (n : Int) else iN (k : Int)) = iN (k : Int) := if_neg (fun q => by have := (iN_lt h_n h_k).mp q; omega)
  rw [e9]
  have e0 : (iN 0).toNatClampNeg = 0 := by decide +kernel
  have en : (iN (k : Int)).toNatClampNeg = k := by rw [iN_nI]; exact nI_clamp (by omega)
  have hz : ¬ iN 0 < 0 := by decide +kernel
  have hzn : ¬ iN (k : Int) < 0 := by rw [iN_nI]; exact nI_pos (by omega)
  refine va_copyi C.1.1 C.1.2.1 (C.1.2.2.1.trans hl2.1.symm) C.1.2.2.2.1 (C.1.2.2.2.2 _ xwA150) (C.1.2.2.2.2 _ xacw.1) (C.1.2.2.2.2 _ xacw.2.1) (C.1.2.2.2.2 _ xacw.2.2) C.2.1 hP1 hD1 hS1 33 100 0 0 h33 h54 (ty := .int) rfl rfl rfl hz hz hzn (by rw [e0, en]; omega) (by rw [e0, en]; omega) (fun _ _ => rfl) (Nat.le_of_ble_eq_true rfl) (Nat.le_of_ble_eq_true rfl) dJ7_copyOf_59c91_28 (fun H2 locs2 hP2 hD2 hS2 => ?_)
  have er : va_cpy (fun j : Nat => iN (S 33 j)) (fun _ : Nat => 0) (iN 0).toNatClampNeg (iN 0).toNatClampNeg (iN (k : Int)).toNatClampNeg = xcpRow S k := by
    rw [e0, en]
    funext j
    unfold xcpRow
    by_cases z : j < k
    · rw [pk_cpy_in (Nat.zero_le _) (by omega), if_pos (by omega), show 0 + (j - 0) = j by omega]
    · rw [pk_cpy_out (by omega), if_neg (by omega)]
      rfl
  have e54 : ∀ y, (xwd (gC D ca ad tF) S ++ ([(H.size, .inl (ca 0, n, .inl (fun _ => 0)))] : va_W)).set 100 y = xwd (gC D ca ad tF) S ++ [y] := fun y => by rw [← hlen]; exact xset_last _ _ _
  rw [er, e54] at hP2 hD2
  refine lv_aload_n C.1.1 C.1.2.1 dJ7_copyOf_59c91_31 rfl (lv_at hl2 0 rfl) ?_
  refine W.widen (k := 1) (n := n) (Nat.le_refl _) (Nat.le_of_eq (Nat.zero_add _)) ?_
  exact W.aret C.1.1 C.1.2.1 B.returns (Or.inr ⟨_, rfl⟩) (Or.inr ⟨_, rfl⟩) (fun t ht hW => ⟨⟨H.size, rfl, by rw [ht]; exact hP2, hD2⟩, hS2.F ht⟩) (fun q hq => hS2.2.2 q hq) dJ7_copyOf_59c91_32 B.notSynchronized
theorem xval_grow {D : va_G} {ca : Nat → ClassId} {ad : Nat → Nat} {tF : Nat} {S : xS} (h : xval (gC D ca ad tF) S) (n b : Int) : xval (gC D ca ad tF) (xgrow S n b) := by
  intro q i hi
  unfold xgrow
  by_cases hq : q = 33
  · subst hq
    rw [if_pos rfl, if_neg (by omega), if_neg (by omega)]
    refine ⟨fun hg => ?_, fun hg => ?_⟩
    · split
      · exact (h 33 i hi).1 hg
      · exact ⟨by decide, by decide⟩
    · exact absurd hg (by show ¬ (lgC 33 i = true); unfold lgC; simp)
  · rw [if_neg hq]
    exact h q i hi
/-- a cell that holds nothing of the row of edges -/
def xok9 : xD → Bool := fun d => match d with | .inl (_, m) => decide (0 < m) | .inr (_, fs) => fs.all (fun e => decide (e.1 < 3))
theorem xok9_all : (List.range 100).all (fun j => j == 33 || j == 5 || (match layC[j]? with | some d => xok9 d | none => true)) = true := by decide +kernel
theorem xok9_at {j : Nat} {d : xD} (h33 : ¬ j = 33) (h5 : ¬ j = 5) (hd : layC[j]? = some d) : xok9 d = true := by
  have hj : j < 100 := (List.getElem?_eq_some_iff.mp hd).1
  have h := List.all_eq_true.mp xok9_all j (List.mem_range.mpr hj)
  rw [hd] at h
  simpa [h33, h5] using h
theorem xgrow_cell {ca : Nat → ClassId} {ad : Nat → Nat} {S : xS} {n b : Int} {j : Nat} {d : xD} (h33 : ¬ j = 33) (hok : xok9 d = true) : xad ad (xgrow S n b) j d = xad ad S j d ∧ xcell ca ad (xgrow S n b) j d = xcell ca ad S j d := by
  have eS : xgrow S n b j = S j := by funext i; unfold xgrow; rw [if_neg h33]
  rcases d with ⟨t, m⟩ | ⟨ci, fs⟩
  · have hm : 0 < m := of_decide_eq_true hok
    obtain ⟨m', rfl⟩ : ∃ m', m = m' + 1 := ⟨m - 1, by omega⟩
    refine ⟨rfl, ?_⟩
    unfold xcell xlen
    rw [eS]
  · refine ⟨rfl, ?_⟩
    unfold xcell
    rw [eS]
    refine congrArg Sum.inr (congrArg (Prod.mk ci) ?_)
    apply List.ext_getElem?
    intro k9
    rw [List.getElem?_mapIdx, List.getElem?_mapIdx]
    cases hf : fs[k9]? with
    | none => rfl
    | some e =>
      have he : e.1 < 3 := of_decide_eq_true (List.all_eq_true.mp hok e (List.mem_of_getElem? hf))
      obtain ⟨a9, b9⟩ := e
      simp only [Option.map_some]
      have : xfld ad (xgrow S n b) (S j k9) (a9, b9) = xfld ad S (S j k9) (a9, b9) := by
        have he' : a9 < 3 := he
        rcases (show a9 = 0 ∨ a9 = 1 ∨ a9 = 2 by omega) with rfl | rfl | rfl <;> rfl
      rw [this]
/-- the world behind the growth -/
theorem xwd_grow {D : va_G} {ca : Nat → ClassId} {ad : Nat → Nat} {tF : Nat} {S : xS} {n k b : Nat} (hk : S 33 (-1) = (k : Int)) : ∀ (j : Nat) (x : Nat × va_E), (xwd (gC D ca ad tF) (xgrow S n b))[j]? = some x → (j = 33 ∧ x = (b, .inl (ca 0, n, .inl (xcpRow S k)))) ∨ (j = 5 ∧ ∃ fs, (xwd (gC D ca ad tF) S)[5]? = some (ad 5, .inr (4, fs)) ∧ x = (ad 5, .inr (4, fs.set 2 (.ref b)))) ∨ (j ≠ 33 ∧ j ≠ 5 ∧ (xwd (gC D ca ad tF) S)[j]? = some x) := by
  intro j x hx
  unfold xwd xw at hx
  rw [List.getElem?_mapIdx] at hx
  by_cases h33 : j = 33
  · subst h33
    refine Or.inl ⟨rfl, ?_⟩
    have h9 : (layC)[33]? = some (.inl (0, 0)) := rfl
    rw [h9] at hx
    have hx' := (Option.some.inj hx).symm
    rw [hx']
    have e1 : xgrow S n b 33 (-1) = n := by unfold xgrow; rw [if_pos rfl, if_pos rfl]
    have e2 : xgrow S n b 33 (-2) = b := by unfold xgrow; rw [if_pos rfl, if_neg (by decide), if_pos rfl]
    show ((xgrow S n b 33 (-2)).toNat, Sum.inl (ca 0, (xgrow S n b 33 (-1)).toNat, Sum.inl (fun j : Nat => iN (xgrow S n b 33 j)))) = _
    rw [e1, e2]
    have e3 : (fun j : Nat => iN (xgrow S n b 33 j)) = xcpRow S k := by
      funext j
      unfold xgrow xcpRow
      rw [if_pos rfl, if_neg (by omega), if_neg (by omega), hk]
    rw [e3]
    rfl
  · by_cases h5 : j = 5
    · subst h5
      refine Or.inr (Or.inl ⟨rfl, _, xw_obj (ci := 4) (fs := [(0, 0), (2, 32), (3, 33), (0, 0), (2, 34)]) rfl, ?_⟩)
      have h9 : (layC)[5]? = some (.inr (4, [(0, 0), (2, 32), (3, 33), (0, 0), (2, 34)])) := rfl
      rw [h9] at hx
      have hx' := (Option.some.inj hx).symm
      rw [hx']
      have e2 : xgrow S n b 33 (-2) = b := by unfold xgrow; rw [if_pos rfl, if_neg (by decide), if_pos rfl]
      show (ad 5, Sum.inr (4, ([.int (iN ((xgrow S n b) 5 0)), .ref (ad 32), .ref ((xgrow S n b) 33 (-2)).toNat, .int (iN ((xgrow S n b) 5 3)), .ref (ad 34)] : List Value))) = (ad 5, Sum.inr (4, ([.int (iN (S 5 0)), .ref (ad 32), .ref (S 33 (-2)).toNat, .int (iN (S 5 3)), .ref (ad 34)] : List Value).set 2 (.ref b)))
      rw [e2]
      rfl
    · refine Or.inr (Or.inr ⟨h33, h5, ?_⟩)
      unfold xwd xw
      rw [List.getElem?_mapIdx]
      cases hd : (layC)[j]? with
      | none => rw [show (gC D ca ad tF).2.2.2.1[j]? = none from hd] at hx; cases hx
      | some d =>
        rw [show (gC D ca ad tF).2.2.2.1[j]? = some d from hd] at hx
        rw [← hx]
        obtain ⟨k1, k2⟩ := xgrow_cell (ca := ca) (ad := ad) (n := n) (b := b) (S := S) h33 (xok9_at h33 h5 hd)
        show some (xad ad S j d, xcell ca ad S j d) = some (xad ad (xgrow S n b) j d, xcell ca ad (xgrow S n b) j d)
        rw [k1, k2]
set_option maxRecDepth 100000 in
set_option maxHeartbeats 4000000 in
theorem xi_grow {l : Launch} {D : va_G} {ca : Nat → ClassId} {ad : Nat → Nat} {tF : Nat} {p : Program} {e : Env} {R : Room} {s : State} {m : MethodId} {args : Array Value} {below : List Frame} {meth : Method} {c : Code} {A : Nat → Prop} {Q : State → Prop} {S S0 Sx : xS} {v1 v2 : Int} {f0 lo0 : Nat}
    (C : xC (gC D ca ad tF) p c cX2_addEdge 3 s args RX2 m A) (hw : xval (gC D ca ad tF) S) (ha : xAl S0 Sx) (e1 : S 33 (-1) = Sx 33 (-1)) (hRoom : R = { frames := f0, cells := xgc S0, slots := xgs S0, locals := lo0 }) (hR : 2 ≤ f0 ∧ 100 ≤ lo0)
    (hkn : 0 < S 33 (-1) ∧ S 33 (-1) < xmin (2 * S 33 (-1)) 784000) (hg : 1 + (xgN (xmin (2 * S 33 (-1)) 784000)).1 ≤ (xgN (S 33 (-1))).1 ∧ (xmin (2 * S 33 (-1)) 784000).toNat + (xgN (xmin (2 * S 33 (-1)) 784000)).2 ≤ (xgN (S 33 (-1))).2)
    (kk : ∀ b : Nat, xval (gC D ca ad tF) (xgrow S (xmin (2 * S 33 (-1)) 784000) b) → xAl S0 (xgrow S (xmin (2 * S 33 (-1)) 784000) b) → xV (gC D ca ad tF) p l e R s m args below meth c A 3 Q (xgc S0 - xgc (xgrow S (xmin (2 * S 33 (-1)) 784000) b)) (xgs S0 - xgs (xgrow S (xmin (2 * S 33 (-1)) 784000) b)) 35 [(0, .ref (ad 5)), (1, .int (iN v1)), (2, .int (iN v2))] [] (xgrow S (xmin (2 * S 33 (-1)) 784000) b)) :
    xV (gC D ca ad tF) p l e R s m args below meth c A 3 Q (xgc S0 - xgc Sx) (xgs S0 - xgs Sx) 12 [(0, .ref (ad 5)), (1, .int (iN v1)), (2, .int (iN v2))] [] S := by
  refine xV_al e1 ?_
  have ha' : xAl S0 S := ha.eq e1
  have hmx : xmin (2 * S 33 (-1)) 784000 ≤ 784000 := by unfold xmin; split <;> omega
  have hmx2 : xmin (2 * S 33 (-1)) 784000 ≤ 2 * S 33 (-1) := by unfold xmin; split <;> omega
  obtain ⟨k, hk⟩ : ∃ k : Nat, S 33 (-1) = (k : Int) := ⟨(S 33 (-1)).toNat, by omega⟩
  generalize hnn : xmin (2 * S 33 (-1)) 784000 = nn at *
  obtain ⟨n, rfl⟩ : ∃ n : Nat, nn = (n : Int) := ⟨nn.toNat, by omega⟩
  have hlt : 2 * S 33 (-1) < 2147483648 := by
    by_cases z : (784000 : Int) < 2 * S 33 (-1)
    · unfold xmin at hnn; rw [if_pos z] at hnn; rw [← hnn] at hkn; omega
    · omega
  have h_2 : xR (2 * S 33 (-1)) := ⟨by omega, by omega⟩
  have hknN : 0 < k ∧ k < n ∧ n ≤ 784000 := by omega
  have eg1 : ∀ b : Int, xgrow S (n : Int) b 33 (-1) = n := fun b => by unfold xgrow; rw [if_pos rfl, if_pos rfl]
  have hgc : ∀ b : Int, 1 + xgc (xgrow S (n : Int) b) ≤ xgc S ∧ n + xgs (xgrow S (n : Int) b) ≤ xgs S := fun b => by
    unfold xgc xgs
    rw [eg1 b]
    have := hg.2
    rw [Int.toNat_natCast] at this
    exact ⟨hg.1, this⟩
  have haN : ∀ b : Int, xAl S0 (xgrow S (n : Int) b) := fun b => ⟨by have := (hgc b).1; have := ha'.1; omega, by have := (hgc b).2; have := ha'.2; omega⟩
  refine xi_aload_n C 0 dX2_addEdge_12 rfl rfl ?_
  refine xi_aload_n C 0 dX2_addEdge_13 rfl rfl ?_
  refine xi_getE C xK_X2 (q := 5) (r := 33) rfl 2 (by decide) (ki := 2) rfl xl_X2_15 rfl dX2_addEdge_14 ?_
  refine xi_iconst C (v := 2) dX2_addEdge_17 rfl ?_
  refine xi_aload_n C 0 dX2_addEdge_18 rfl rfl ?_
  refine xi_getE C xK_X2 (q := 5) (r := 33) rfl 2 (by decide) (ki := 2) rfl xl_X2_15 rfl dX2_addEdge_19 ?_
  refine xi_alenE C (q := 33) rfl (by omega) dX2_addEdge_22 ?_
  refine xi_imul C dX2_addEdge_23 ?_
  refine xi_ldc C xl_X2_28 (v := 784000) (by decide +kernel) dX2_addEdge_24 ?_
  subst hRoom
  refine xi_mmin C h_2 (by decide) xl_X2_29 xmmw (Nat.le_of_ble_eq_true rfl) ⟨by show 1 ≤ f0; omega, by show 21 ≤ lo0; omega⟩ ⟨Nat.sub_le _ _, Nat.sub_le _ _⟩ dX2_addEdge_26 ?_
  rw [hnn]
  intro H locs ls hP hD hS hl T hT X
  have cb : CallB ({ frames := f0, cells := xgc S0, slots := xgs S0, locals := lo0 } : Room) s args RX2 35 yJ7_copyOf_59c91 cJ7_copyOf_59c91 3 (some (.array .int)) (xws yJ7_copyOf_59c91 cJ7_copyOf_59c91 3 (some (.array .int))) ({ frames := 1, cells := 1, slots := n, locals := 60 }) 1 n 2 := xcallB C xk_J7_copyOf_59c91 xl_X2_35 ⟨by show 1 + 1 ≤ f0; omega, by show 8 + (3 + 11) + 60 ≤ lo0; omega⟩
  obtain ⟨v, st₀, t, T', LL, h0, X', hL, e1', e2', ⟨⟨b, hv, hp, hd⟩, hF⟩, stp⟩ := va_runS (rest := [.ref (ad 5)]) (g := F0 m 29 ls [.int (iN (n : Int)), .ref (S 33 (-2)).toNat, .ref (ad 5)]) (As := [.ref (S 33 (-2)).toNat, .int (iN (n : Int))]) C.1 (c_copyOf l D ca ad tF S hk hknN H.size) ⟨cb, C.1.2.2.2.2 _ xs_J7_copyOf_59c91⟩ ⟨xPre.blind, xPre.make C hw hP hD hS _⟩ rfl rfl hl.1 rfl (lv_room (Nat.le_of_ble_eq_true rfl)) dX2_addEdge_29 ⟨by have := (hgc 0).1; have := ha'.1; show _ ≤ xgc S0; omega, by have := (hgc 0).2; have := ha'.2; show _ ≤ xgs S0; omega⟩ T hT X
  cases hv
  have hAin := xA_in C hD hS
  have hd1 : va_D A (xwd (gC D ca ad tF) S ++ [(b, .inl (ca 0, n, .inl (xcpRow S k)))]) := hd.weaken (fun _ q _ h => hAin q.1 h)
  obtain ⟨hz, hkp⟩ := hF
  rw [h0] at hz hkp
  have hS1 : va_S A s.heap T'.heap (locs ++ LL) := ⟨Nat.le_trans hS.1 (by rw [e1']; exact hz), fun q h1 h2 => by
      rw [e1', hkp q (Nat.lt_of_lt_of_le h1 hS.1) (fun z => h2 (hAin q z))]
      exact hS.2.1 q h1 h2, fun q hq => by
      rcases List.mem_append.mp hq with h | h
      · exact hS.2.2 q h
      · exact hAin _ (hL q h)⟩
  have hlen := xwd_len (D := D) (ca := ca) (ad := ad) (tF := tF) S
  have h5 : (xwd (gC D ca ad tF) S ++ ([(b, .inl (ca 0, n, .inl (xcpRow S k)))] : va_W))[5]? = some (ad 5, .inr (4, ([(0, 0), (2, 32), (3, 33), (0, 0), (2, 34)] : List (Nat × Nat)).mapIdx (fun k e => xfld ad S (S 5 k) e))) := by
    rw [List.getElem?_append_left (by rw [hlen]; decide)]
    exact xw_obj (G := (gC D ca ad tF)) (S := S) (q := 5) rfl
  have hcont : W p l e ({ frames := f0, cells := xgc S0, slots := xgs S0, locals := lo0 }) s m args below meth c T'.heap (locs ++ LL) (xgc S0 - xgc S + 1) (xgs S0 - xgs S + n) Q (F0 m 32 ls [.ref b, .ref (ad 5)]) := by
    have hK := xK_X2
    refine va_put C.1.1 C.1.2.1 C.1.2.2.2.2 hK.2.1 tyX2 hK.2.2.1 hK.2.2.2 C.1.2.2.2.1 C.2.1 (by rw [e1']; exact hp) hd1 hS1 5 h5 hK.1 2 (by decide) (C.1.2.2.2.2 _ xl_X2_15) (fun x h => h) rfl (hK.2.2.1 2 (by decide)) rfl rfl (by rw [List.length_mapIdx]; decide) dX2_addEdge_32 (fun H3 locs3 hP3 hD3 hS3 => ?_)
    refine W.widen (k := xgc S0 - xgc (xgrow S (n : Int) b)) (n := xgs S0 - xgs (xgrow S (n : Int) b)) (by have := (hgc b).1; have := ha'.1; omega) (by have := (hgc b).2; have := ha'.2; omega) ?_
    have hset : ∀ j x, (xwd (gC D ca ad tF) (xgrow S (n : Int) b))[j]? = some x → ∃ i, ((xwd (gC D ca ad tF) S ++ ([(b, .inl (ca 0, n, .inl (xcpRow S k)))] : va_W)).set 5 (ad 5, .inr (4, (([(0, 0), (2, 32), (3, 33), (0, 0), (2, 34)] : List (Nat × Nat)).mapIdx (fun k e => xfld ad S (S 5 k) e)).set 2 (.ref b))))[i]? = some x ∧ (j = 33 → i = 100) ∧ (j ≠ 33 → i = j) ∧ j < 100 := by
      intro j x hx
      have hj54 : j < 100 := by have := (List.getElem?_eq_some_iff.mp hx).1; rw [xwd_len] at this; exact this
      rcases xwd_grow hk j x hx with ⟨rfl, rfl⟩ | ⟨rfl, fs, hfs, rfl⟩ | ⟨h33, h55, hx'⟩
      · refine ⟨100, ?_, fun _ => rfl, fun h => absurd rfl h, hj54⟩
        rw [List.getElem?_set_ne (by decide), List.getElem?_append_right (by rw [hlen]; decide), hlen]
        rfl
      · refine ⟨5, ?_, fun h => absurd h (by decide), fun _ => rfl, hj54⟩
        rw [List.getElem?_set_self (by rw [List.length_append, hlen]; exact Nat.lt_of_lt_of_le (by decide : 5 < 100) (Nat.le_add_right _ _))]
        have h6 : (xwd (gC D ca ad tF) S)[5]? = some (ad 5, .inr (4, ([(0, 0), (2, 32), (3, 33), (0, 0), (2, 34)] : List (Nat × Nat)).mapIdx (fun k e => xfld ad S (S 5 k) e))) := xw_obj (G := (gC D ca ad tF)) (S := S) (q := 5) rfl
        rw [h6] at hfs
        cases hfs
        rfl
      · refine ⟨j, ?_, fun h => absurd h h33, fun _ => rfl, hj54⟩
        rw [List.getElem?_set_ne (Ne.symm h55), List.getElem?_append_left (by rw [hlen]; exact hj54)]
        exact hx'
    have hPg : va_P D vwCl (xwd (gC D ca ad tF) (xgrow S (n : Int) b)) H3 := fun j x hx => by
      obtain ⟨i, hi, -⟩ := hset j x hx
      exact hP3 i x hi
    have hDg : va_D A (xwd (gC D ca ad tF) (xgrow S (n : Int) b)) := by
      refine ⟨fun i j x y hx hy hxy => ?_, fun j x hx => ?_⟩
      · obtain ⟨i', hi, a1, a2, a3⟩ := hset i x hx
        obtain ⟨j', hj, b1, b2, b3⟩ := hset j y hy
        have := hD3.1 i' j' x y hi hj hxy
        by_cases z1 : i = 33 <;> by_cases z2 : j = 33
        · rw [z1, z2]
        · have := a1 z1; have := b2 z2; omega
        · have := a2 z1; have := b1 z2; omega
        · have := a2 z1; have := b2 z2; omega
      · obtain ⟨i', hi, -⟩ := hset j x hx
        exact hD3.2 i' x hi
    exact kk b (xval_grow hw _ _) (haN b) H3 locs3 ls hPg hDg hS3 hl
  obtain ⟨t2, a1, b1⟩ := hcont T' rfl X'
  exact ⟨t2, stp t2 a1, b1⟩

/-! the end: every case keeps what holds between calls; the claim -/
theorem xlaw_all {f : Int → Int} {i : Int} {S : xS} (hI : Inv_ S) : xlaw f i S Inv_ :=
  ⟨fun _ => k_0 hI.1 hI.2.1 (fun S2 h => Inv_D hI h) (fun S2 h => Inv_T hI h), fun _ => k_1 hI.1 hI.2.1 (fun S2 h => Inv_D hI h) (fun S2 h => Inv_T hI h), fun _ => k_2 hI.1 hI.2.1 (fun S2 h => Inv_D hI h) (fun S2 h => Inv_T hI h), fun _ => k_3 hI.1 hI.2.1 (fun S2 h => Inv_D hI h) (fun S2 h => Inv_T hI h), fun _ => k_4 hI.1 hI.2.1 (fun S2 h => Inv_D hI h) (fun S2 h => Inv_T hI h), fun _ => k_5 hI.1 hI.2.1 (fun S2 h => Inv_D hI h) (fun S2 h => Inv_T hI h), fun _ => k_6 hI.1 hI.2.1 (fun S2 h => Inv_T hI h), fun _ => k_7 hI, fun _ => k_8 hI, fun _ => k_9 hI, fun _ => k_10 hI, fun _ => k_11 hI, fun _ => k_12 hI, fun _ => k_13 hI, fun _ => k_14 hI, fun _ => k_15 hI, fun _ => k_16 hI, fun _ => k_17 hI, fun _ => k_18 hI, fun _ => k_19 hI, fun _ => k_20 hI, fun _ => k_21 hI, fun _ => k_22 hI, fun _ => k_23 hI, fun _ => k_24 hI, fun _ => k_25 hI, fun _ => k_26 hI, fun _ => k_27 hI, fun _ => k_28 hI, fun _ => k_29 hI, fun _ => k_30 hI, fun _ => hI⟩
theorem Inv_0 (b : Nat) : Inv_ (xS0 b) := by
  have z : ∀ (q : Nat) (i : Int), 0 ≤ i → xS0 b q i = 0 := fun q i hi => by
    unfold xS0
    rw [if_neg (show ¬ i = -1 by omega), if_neg (show ¬ i = -2 by omega)]
    split <;> rfl
  have z54 := fun i hi => z 54 i hi
  refine ⟨⟨?_, ?_, ?_, ?_, ?_, ?_, ?_, ?_, ?_⟩, ⟨?_, ?_, ?_, ?_, ?_, ?_, ?_, ?_, ?_⟩, rfl, Or.inl rfl, Or.inl ⟨rfl, rfl⟩⟩
  · rw [z54 1 (by omega)]; omega
  · rw [z54 2 (by omega)]; omega
  · rw [z54 3 (by omega)]; omega
  · intro p p0 p1; rw [z 55 p p0]; omega
  · intro p s p0 p1 s0 s1; rw [z 55 p p0] at s1; omega
  · intro k k0 k1; rw [z 61 k k0]; omega
  · intro v v0 v1; rw [z 62 v v0]; omega
  · intro k k0 k1; rw [z54 3 (by omega)] at k1; omega
  · intro x x0 x1; rw [z 65 x x0, z 66 x x0]; omega
  · rw [z 1 0 (by omega), z54 1 (by omega)]
  · rw [z 1 7 (by omega), z54 2 (by omega)]
  · rw [z 1 11 (by omega), z54 3 (by omega)]
  · intro p p0 p1; rw [z 10 p p0, z 55 p p0]
  · intro p s p0 p1 s0 s1; rw [z 55 p p0] at s1; omega
  · intro k k0 k1; rw [z 16 k k0, z 61 k k0]
  · intro v v0 v1; rw [z 17 v v0, z 62 v v0]
  · intro x x0 x1; rw [z 18 x x0, z 65 x x0, z 66 x x0]; rfl
  · intro k k0 k1; rw [z54 3 (by omega)] at k1; omega
theorem whole_start {p : Program} {e : Env} {s : State} {m : MethodId} {below : List Frame} {meth : Method} {c : Code} (l : Launch) (hflags : l.flags = flags0) {b L : Nat} {xs : Nat → Int32} (hL : L ≤ 3584) (C0 : lw_At p s m meth c b L xs) : W p l e room_1 s m #[Value.ref b] below meth c s.heap [] 0 0 (lw_Z below #[Value.ref b] s) (entryFrame m ([Value.ref b] : List Value).toArray 9) := by
  have hl9 : l.stackTraces = false := by
    unfold Launch.stackTraces
    rw [hflags]
    decide +kernel
  exact xst_whole l hl9 hL C0 Inv_ Inv_0 (fun f i S _ _ hI => xlaw_all hI)
set_option maxHeartbeats 4000000 in
theorem lw_walk (l : Launch) (hflags : l.flags = flags0) (b : Addr) (xs : List Int32) : MetFree l x (headSpec (Jvm.Cond.code x code maxLocals ret :: tables_1) room_1) (lw_P b xs) (fun _ _ _ _ _ => True) lw_Q := by
  refine MetFree.of_bodyS (code := code) (maxLocals := maxLocals) (ret := ret) (by decide) ?_ ?_
  · intro args s m h hn
    obtain ⟨meth, c, h1, h2, h3, h4, h5, h6, -, -⟩ := Cond.code_spec hn (atoms_spec (ws := Jvm.Cond.code x code maxLocals ret :: tables_1) h _ List.mem_cons_self)
    exact ⟨meth, c, h1, h2, h3, h4, h5, h6⟩
  · intro p e s m args below meth c s₁ B hml0 hP _
    obtain ⟨rfl, hx, hbd, hgv⟩ := hP
    obtain ⟨scr, harrAt, hlist, hof, hsmall⟩ := hx
    obtain ⟨hcb, hkn, -, -⟩ := State.arrayAt?_spec harrAt
    have hown : s.vm.findClass R_law = some m.cls := findClass_of_methodNamed B.named
    have hts0 : ∀ c ∈ (Jvm.Cond.code x code maxLocals ret :: tables_1), c.before #[Value.ref b] s = true := atoms_spec (ws := Jvm.Cond.code x code maxLocals ret :: tables_1) B.pre
    have hts : ∀ w ∈ lw_tbl, w.before #[Value.ref b] s = true := k2_hts_sels lw_privs (fun w hw => hts0 w (List.mem_cons_of_mem _ hw)) lw_privs_ok
    have hml : c.maxLocals = 9 := B.maxLocals_eq (hts0 _ List.mem_cons_self)
    have X₀ : Stand p l e room_1 s m #[Value.ref b] below meth c s₁ [] 0 0 := Stand.of_body B
    have hh0 : s₁.heap = s.heap := by rw [B.state]; rfl
    have hsz : scr.slots.size = xs.length := by rw [← Array.length_toList, hlist, List.length_map]
    have hval : ∀ j : Nat, j < xs.length → scr.slots[j]? = some (.int (xs.getD j 0)) := fun j hj => by
      rw [← Array.getElem?_toList, hlist]
      simp [hj]
    have hbl : b < s.heap.size := (Array.getElem?_eq_some_iff.mp hcb).1
    have hX : va_X b xs.length (fun j => xs.getD j 0) s s.heap := ⟨scr, hcb, hof, hkn, hsz, hval⟩
    have K : W p l e room_1 s m #[Value.ref b] below meth c s₁.heap [] 0 0 (lw_Z below #[Value.ref b] s) (entryFrame m ([Value.ref b] : List Value).toArray 9) := by
      rw [hh0]
      exact whole_start l hflags hbd ⟨B.exec, B.bytes, B.returns, hml, hown, hts, hX, hbl, B.notSynchronized, hgv⟩
    obtain ⟨t, a1, o, b1, b2, b3⟩ := K s₁ rfl X₀
    exact ⟨t, o, a1, b1, b2, b3⟩
theorem lw_pre_spec {args : Array Value} {s : State} (h : (Jvm.Cond.and given_1 narrow_1).before args s = true) (hr : rest_1_c.before args s = true) : ∃ (b : Addr) (xs : List Int32), lw_P b xs args s := by
  have hs := flat_of_before _ h
  have hq := flat_of_before _ hr
  have hc : (Cond.count 1).before args s = true := hs _ (by decide +kernel)
  have harr : (Cond.arrayOf (.arg 0) .int).before args s = true := hs _ (by decide +kernel)
  have hle : (Cond.le (.length (.arg 0)) (.int 3584)).before args s = true := hs _ (by decide +kernel)
  have hlen : (Cond.isInt (.length (.arg 0))).before args s = true := hq _ (by decide +kernel)
  have hall : (Cond.all (.arg 0) (.isInt (.elem (.arg 0) (.index 0)))).before args s = true := hq _ (by decide +kernel)
  obtain ⟨b, xs, hb, hx⟩ := State.ints_of_pre rfl harr hlen hall
  have hsm : xs.length < 2 ^ 31 := hx.choose_spec.2.2.2
  have hev : (Term.length (.arg 0)).eval args s none [] s = some (.int xs.length.toInt32) := hx.length_eval hb
  have hv := Cond.le_ints hev (show (Term.int 3584).eval args s none [] s = some (.int 3584) from rfl)
  have hd : xs.length.toInt32 ≤ 3584 := by
    simpa [Cond.before, Cond.holds, hv] using hle
  have hN : xs.length ≤ 3584 := (Int32.ofNat_le_ofNat hsm (by decide)).mp (show Int32.ofNat xs.length ≤ Int32.ofNat 3584 from hd)
  exact ⟨b, xs, Cond.one_arg hc (show args[0]? = some (.ref b) from hb), hx, hN, h⟩
theorem lw_comes (l : Launch) (hflags : l.flags = flags0) : Comes l x (Jvm.Cond.code x code maxLocals ret :: tables_1) room_1 (fun tb e args s => Calls_1 tb e args s ∧ rest_1 tb e args s ∧ Pre_1 tb e args s)
    (fun _ _ args s o t => lw_Q args s o t) := by
  intro p e ha hc hk s m args below hf hfit hheap happ hpre
  obtain ⟨b, xs, hP⟩ := lw_pre_spec hpre.2.2 hpre.2.1
  obtain ⟨k, o, h1, h2, h3, hQ⟩ := lw_walk l hflags b xs p e ha hc hk s m args below hf ((Spec.applies_iff_loose hf).mp happ).1 hP trivial
  exact ⟨k, o, h1, h2, h3, hQ⟩
theorem lw_frame {s t : State} {o : Outcome} {args : Array Value} (h : State.butDraws s t lw_cs (fun t1 => Framed s o t1 [] 603072 7198826)) :
    State.butDraws s t [Jvm.Choice.named "NaN.bits"] (fun t1 => Framed s o t1 (fieldLocs frame_1_writes args s ++ arrayLocs frame_1_arrays args s ++ staticLocs frame_1_statics s) 603072 7198826) := h
theorem lw_limb (L : Cond) (hL : ∀ (args : Array Value) (s t : State), L.after args s (.returned (some (.int 1))) t = true) :
    ArmFor flags0 classFile x code maxLocals ret World_1 tables_1 room_1 Calls_1 rest_1 Pre_1
      (fun tb e a s o t => postC L tb e a s o t ∧ State.butDraws s t [Jvm.Choice.named "NaN.bits"] (fun t1 => Framed s o t1 (fieldLocs frame_1_writes a s ++ arrayLocs frame_1_arrays a s ++ staticLocs frame_1_statics s) 603072 7198826)) := by
  intro l hflags _ _ p e ha hc hk s m args below hf hfit hheap happ hpre
  obtain ⟨k, o, h1, h2, h3, rfl, hF⟩ := lw_comes l hflags p e ha hc hk s m args below hf hfit hheap happ hpre
  exact ⟨k, _, h1, h2, h3, hL args s _, lw_frame hF⟩
theorem i_vc : Claimed_1_1 ∧ Claimed_1_2 := ⟨lw_limb limb_1_1 (fun args s t => by simp [limb_1_1, Cond.after, Cond.holds, Cond.value]), lw_limb limb_1_2 (fun args s t => Cond.after_iff.mpr (by
  first | (rw [show limb_1_2 = Cond.eq .result (.int 1) from rfl, Cond.eq_ints (x := 1) (y := 1) rfl rfl]; simp; done) | (simp [limb_1_2, Cond.value, Term.eval]; done)))⟩

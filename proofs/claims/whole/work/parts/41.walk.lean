theorem iX4_sizeOf_X4 : ∀ w ∈ u_ws RX4 TX4 8, w ∈ wsX4_sizeOf := by decide +kernel
theorem fX4_sizeOf_15 : Cond.fieldLink RX4 15 (TX4 3).1 (TX4 3).2.1 (TX4 3).2.2.1 ∈ wsX4_sizeOf := by decide +kernel
theorem fX4_sizeOf_28 : Cond.fieldLink RX4 28 (TX4 6).1 (TX4 6).2.1 (TX4 6).2.2.1 ∈ wsX4_sizeOf := by decide +kernel
theorem iX4_sizeOf_X3 : ∀ w ∈ u_ws RX3 TX3 2, w ∈ wsX4_sizeOf := by decide +kernel
theorem fX4_sizeOf_90 : (RX4, 90, (TX3 1).1, (TX3 1).2.1, (TX3 1).2.2.1, "CubeDesk") ∈ nestF := by decide +kernel
set_option maxHeartbeats 4000000 in
set_option maxRecDepth 100000 in
theorem zX4_sizeOf {cy : Nat → ClassId} {ad : Nat → Nat} {n : Nat} {D : va_G} {A : Nat → Prop} {l : Launch} (hn : 49 ≤ n) (σ : St) (x1 : Int32) : Ci TC cy ad n D A l yX4_sizeOf wsX4_sizeOf rmX4_sizeOf σ [.ref (ad 22), .int x1] (fun Q => vX4_sizeOf Q σ x1) := by
  intro Q h
  refine startW (cc := cX4_sizeOf) (nL := 2) (own := RX4) (lo := [some (.ref (ad 22)), some (.int x1)]) (by decide) rfl rfl (lo_start (av := [.ref (ad 22), .int x1]) (k := 0) (allc1_ok (l := [.ref (ad 22), .int x1]) trivial)) (Nat.le_of_ble_eq_true rfl) (fun p e s m args below meth c hc hr hlk => ?_)
  unfold vX4_sizeOf at h
  refine r_aload_n hc dX4_sizeOf_0 rfl ?_
  refine r_iload_n hc dX4_sizeOf_1 rfl ?_
  refine r_callVi hc (zX4_has hn σ x1) h (Nat.lt_of_lt_of_le (by decide) hn) rfl rfl rfl (cwV 1 hc.2.2.2.2.1 gX4_sizeOf_X4_has rfl rfl rfl qX4_has ⟨Nat.le_of_ble_eq_true rfl, Nat.le_of_ble_eq_true rfl⟩) rfl rfl (Nat.le_of_ble_eq_true rfl) dX4_sizeOf_2 (fun r2 σ1 h => ?_)
  refine r_if_ne (tgt := 10) hc dX4_sizeOf_5 (by decide) (fun hq5 => ?_) (fun hq5 => ?_)
  · replace h := h.1 hq5
    refine r_iconst (v := 0) hc dX4_sizeOf_8 (by decide) ?_
    exact e_i hc hr hlk h dX4_sizeOf_9
  · replace h := h.2 hq5
    refine r_aload_n hc dX4_sizeOf_10 rfl ?_
    refine r_get (v := .ref (ad 24)) hc iX4_sizeOf_X4 (Nat.lt_of_lt_of_le (by decide) hn) rfl rfl rfl 3 (by decide) fX4_sizeOf_15 rfl dX4_sizeOf_11 ?_
    refine r_iload_n hc dX4_sizeOf_14 rfl ?_
    refine r_iald hc (Nat.lt_of_lt_of_le (by decide) hn) rfl rfl h.1 dX4_sizeOf_15 ?_
    replace h := h.2
    refine r_iconst (v := (-1)) hc dX4_sizeOf_16 (by decide) ?_
    refine r_icmp_ne (tgt := 38) hc dX4_sizeOf_17 (by decide) (fun hq4 => ?_) (fun hq4 => ?_)
    · replace h := h.1 hq4
      refine r_aload_n hc dX4_sizeOf_20 rfl ?_
      refine r_iload_n hc dX4_sizeOf_21 rfl ?_
      refine r_callVv hc (zX4_collectGroups hn σ1 x1) h (Nat.lt_of_lt_of_le (by decide) hn) rfl rfl rfl (cwV 1 hc.2.2.2.2.1 gX4_sizeOf_X4_collectGroups rfl rfl rfl qX4_collectGroups ⟨Nat.le_of_ble_eq_true rfl, Nat.le_of_ble_eq_true rfl⟩) rfl rfl (Nat.le_of_ble_eq_true rfl) dX4_sizeOf_22 (fun σ3 h => ?_)
      refine r_aload_n hc dX4_sizeOf_25 rfl ?_
      refine r_get (v := .ref (ad 24)) hc iX4_sizeOf_X4 (Nat.lt_of_lt_of_le (by decide) hn) rfl rfl rfl 3 (by decide) fX4_sizeOf_15 rfl dX4_sizeOf_26 ?_
      refine r_iload_n hc dX4_sizeOf_29 rfl ?_
      refine r_aload_n hc dX4_sizeOf_30 rfl ?_
      refine r_get (v := .ref (ad 27)) hc iX4_sizeOf_X4 (Nat.lt_of_lt_of_le (by decide) hn) rfl rfl rfl 6 (by decide) fX4_sizeOf_28 rfl dX4_sizeOf_31 ?_
      refine r_getN (v := .int (rd σ3 27 1)) hc iX4_sizeOf_X3 (Nat.lt_of_lt_of_le (by decide) hn) rfl rfl rfl 1 (by decide) fX4_sizeOf_90 rfl dX4_sizeOf_34 ?_
      refine r_iast hc (Nat.lt_of_lt_of_le (by decide) hn) rfl rfl h.1 dX4_sizeOf_37 ?_
      replace h := h.2
      refine r_aload_n hc dX4_sizeOf_38 rfl ?_
      refine r_get (v := .ref (ad 24)) hc iX4_sizeOf_X4 (Nat.lt_of_lt_of_le (by decide) hn) rfl rfl rfl 3 (by decide) fX4_sizeOf_15 rfl dX4_sizeOf_39 ?_
      refine r_iload_n hc dX4_sizeOf_42 rfl ?_
      refine r_iald hc (Nat.lt_of_lt_of_le (by decide) hn) rfl rfl h.1 dX4_sizeOf_43 ?_
      replace h := h.2
      exact e_i hc hr hlk h dX4_sizeOf_44
    · replace h := h.2 hq4
      refine r_aload_n hc dX4_sizeOf_38 rfl ?_
      refine r_get (v := .ref (ad 24)) hc iX4_sizeOf_X4 (Nat.lt_of_lt_of_le (by decide) hn) rfl rfl rfl 3 (by decide) fX4_sizeOf_15 rfl dX4_sizeOf_39 ?_
      refine r_iload_n hc dX4_sizeOf_42 rfl ?_
      refine r_iald hc (Nat.lt_of_lt_of_le (by decide) hn) rfl rfl h.1 dX4_sizeOf_43 ?_
      replace h := h.2
      exact e_i hc hr hlk h dX4_sizeOf_44
theorem iX4_fillBare_X4 : ∀ w ∈ u_ws RX4 TX4 8, w ∈ wsX4_fillBare := by decide +kernel
theorem fX4_fillBare_55 : Cond.fieldLink RX4 55 (TX4 7).1 (TX4 7).2.1 (TX4 7).2.2.1 ∈ wsX4_fillBare := by decide +kernel
theorem fX4_fillBare_15 : Cond.fieldLink RX4 15 (TX4 3).1 (TX4 3).2.1 (TX4 3).2.2.1 ∈ wsX4_fillBare := by decide +kernel
set_option maxHeartbeats 4000000 in
set_option maxRecDepth 100000 in
theorem tvX4_fillBare_L2 {cy : Nat → ClassId} {ad : Nat → Nat} {n : Nat} {D : va_G} {A : Nat → Prop} {l : Launch} {p : Program} {e : Env} {s : State} {m : MethodId} {args : Array Value} {below : List Frame} {meth : Method} {c : Code} {a1 : Nat} {Q : St → Prop} (hn : 49 ≤ n) (hc : CX p s m args c D cy cX4_fillBare 3 RX4 wsX4_fillBare) (hr : meth.sig.returnType = none) (hlk : meth.locks = false) : ∀ (q2 : Nat) (σ : St) (x2 : Int32), vX4_fillBare_L2 a1 Q q2 σ x2 → WV TC cy ad n D A p l e rmX4_fillBare s m args below meth c 3 (MQ below (va_Qv Q (Bw TC cy ad n D) A) args s 0 0 A) σ [some (.ref (ad 22)), some (.ref (ad a1)), some (.int x2)] [] 2 := by
  intro q2
  induction q2 with
  | zero =>
    intro σ x2 h
    exact h.elim
  | succ q2 ih =>
    intro σ x2 h
    unfold vX4_fillBare_L2 at h
    refine r_iload_n hc dX4_fillBare_2 rfl ?_
    refine r_aload_n hc dX4_fillBare_3 rfl ?_
    refine r_get (v := .int (rd σ 22 7)) hc iX4_fillBare_X4 (Nat.lt_of_lt_of_le (by decide) hn) rfl rfl rfl 7 (by decide) fX4_fillBare_55 rfl dX4_fillBare_4 ?_
    refine r_icmp_ge (tgt := 22) hc dX4_fillBare_7 (by decide) (fun hq4 => ?_) (fun hq4 => ?_)
    · replace h := h.1 hq4
      refine r_aload_n hc dX4_fillBare_22 rfl ?_
      refine r_aload_n hc dX4_fillBare_23 rfl ?_
      refine r_get (v := .ref (ad 24)) hc iX4_fillBare_X4 (Nat.lt_of_lt_of_le (by decide) hn) rfl rfl rfl 3 (by decide) fX4_fillBare_15 rfl dX4_fillBare_24 ?_
      refine r_iconst (v := 0) hc dX4_fillBare_27 (by decide) ?_
      refine r_iald hc (Nat.lt_of_lt_of_le (by decide) hn) rfl rfl h.1 dX4_fillBare_28 ?_
      replace h := h.2
      refine r_callSv hc (zJ7_fill_53178 (b := 49) hn σ a1 (rd σ 24 (0 : Int32).toNatClampNeg)) h (va_cwS 2 hc.2.2.2.2.1 gX4_fillBare_J7_fill_53178 rfl rfl rfl qJ7_fill_53178 ⟨Nat.le_of_ble_eq_true rfl, Nat.le_of_ble_eq_true rfl⟩) rfl rfl (Nat.le_of_ble_eq_true rfl) dX4_fillBare_29 (fun σ1 h => ?_)
      exact e_v hc hr hlk h dX4_fillBare_32
    · replace h := h.2 hq4
      refine r_aload_n hc dX4_fillBare_10 rfl ?_
      refine r_iload_n hc dX4_fillBare_11 rfl ?_
      refine r_callVi hc (zX4_sizeOf hn σ x2) h (Nat.lt_of_lt_of_le (by decide) hn) rfl rfl rfl (cwV 1 hc.2.2.2.2.1 gX4_fillBare_X4_sizeOf rfl rfl rfl qX4_sizeOf ⟨Nat.le_of_ble_eq_true rfl, Nat.le_of_ble_eq_true rfl⟩) rfl rfl (Nat.le_of_ble_eq_true rfl) dX4_fillBare_12 (fun r3 σ2 h => ?_)
      refine r_pop hc dX4_fillBare_15 rfl ?_
      refine r_iinc (v := x2 + 1) hc dX4_fillBare_16 rfl rfl (by decide) (ss (s1 trivial)) ?_
      refine r_goto (tgt := 2) hc dX4_fillBare_19 (by decide) ?_
      exact r_weak (wk (wk (wk w0))) (ih _ _ h)
set_option maxHeartbeats 4000000 in
set_option maxRecDepth 100000 in
theorem zX4_fillBare {cy : Nat → ClassId} {ad : Nat → Nat} {n : Nat} {D : va_G} {A : Nat → Prop} {l : Launch} (hn : 49 ≤ n) (σ : St) (a1 : Nat) : Cv TC cy ad n D A l yX4_fillBare wsX4_fillBare rmX4_fillBare σ [.ref (ad 22), .ref (ad a1)] (fun Q => vX4_fillBare a1 Q σ ) := by
  intro Q h
  refine startW (cc := cX4_fillBare) (nL := 3) (own := RX4) (lo := [some (.ref (ad 22)), some (.ref (ad a1)), none]) (by decide) rfl rfl (lo_start (av := [.ref (ad 22), .ref (ad a1)]) (k := 1) (allc1_ok (l := [.ref (ad 22), .ref (ad a1)]) trivial)) (Nat.le_of_ble_eq_true rfl) (fun p e s m args below meth c hc hr hlk => ?_)
  unfold vX4_fillBare at h
  refine r_iconst (v := 0) hc dX4_fillBare_0 (by decide) ?_
  refine r_istore_n hc dX4_fillBare_1 rfl (by decide) (ss (s1 trivial)) ?_
  obtain ⟨e2, h⟩ := h
  exact r_weak (wk (wk (wk w0))) (tvX4_fillBare_L2 (a1 := a1) hn hc hr hlk e2 _ _ h)
theorem iX0_greatestGain_X0 : ∀ w ∈ u_ws RX0 TX0 3, w ∈ wsX0_greatestGain := by decide +kernel
theorem fX0_greatestGain_19 : Cond.fieldLink RX0 19 (TX0 0).1 (TX0 0).2.1 (TX0 0).2.2.1 ∈ wsX0_greatestGain := by decide +kernel
theorem fX0_greatestGain_11 : Cond.fieldLink RX0 11 (TX0 1).1 (TX0 1).2.1 (TX0 1).2.2.1 ∈ wsX0_greatestGain := by decide +kernel
set_option maxHeartbeats 4000000 in
set_option maxRecDepth 100000 in
theorem zX0_greatestGain {cy : Nat → ClassId} {ad : Nat → Nat} {n : Nat} {D : va_G} {A : Nat → Prop} {l : Launch} (hn : 49 ≤ n) (σ : St) (x1 : Int32) : Ci TC cy ad n D A l yX0_greatestGain wsX0_greatestGain rmX0_greatestGain σ [.ref (ad 29), .int x1] (fun Q => vX0_greatestGain Q σ x1) := by
  intro Q h
  refine startW (cc := cX0_greatestGain) (nL := 2) (own := RX0) (lo := [some (.ref (ad 29)), some (.int x1)]) (by decide) rfl rfl (lo_start (av := [.ref (ad 29), .int x1]) (k := 0) (allc1_ok (l := [.ref (ad 29), .int x1]) trivial)) (Nat.le_of_ble_eq_true rfl) (fun p e s m args below meth c hc hr hlk => ?_)
  unfold vX0_greatestGain at h
  refine r_iload_n hc dX0_greatestGain_0 rfl ?_
  refine r_iconst (v := 1) hc dX0_greatestGain_1 (by decide) ?_
  refine r_icmp_lt (tgt := 10) hc dX0_greatestGain_2 (by decide) (fun hq5 => ?_) (fun hq5 => ?_)
  · replace h := h.1 hq5
    refine r_iconst (v := 0) hc dX0_greatestGain_10 (by decide) ?_
    exact e_i hc hr hlk h dX0_greatestGain_11
  · replace h := h.2 hq5
    refine r_iload_n hc dX0_greatestGain_5 rfl ?_
    refine r_iconst (v := 3) hc dX0_greatestGain_6 (by decide) ?_
    refine r_icmp_le (tgt := 12) hc dX0_greatestGain_7 (by decide) (fun hq4 => ?_) (fun hq4 => ?_)
    · replace h := h.1 hq4
      refine r_aload_n hc dX0_greatestGain_12 rfl ?_
      refine r_get (v := .ref (ad 22)) hc iX0_greatestGain_X0 (Nat.lt_of_lt_of_le (by decide) hn) rfl rfl rfl 0 (by decide) fX0_greatestGain_19 rfl dX0_greatestGain_13 ?_
      refine r_aload_n hc dX0_greatestGain_16 rfl ?_
      refine r_get (v := .ref (ad 30)) hc iX0_greatestGain_X0 (Nat.lt_of_lt_of_le (by decide) hn) rfl rfl rfl 1 (by decide) fX0_greatestGain_11 rfl dX0_greatestGain_17 ?_
      refine r_iload_n hc dX0_greatestGain_20 rfl ?_
      refine r_aald6 (q := 31 + x1.toNatClampNeg) hc (Nat.lt_of_lt_of_le (by decide) hn) rfl rfl h.1 rfl dX0_greatestGain_21 ?_
      replace h := h.2
      refine r_callVv hc (zX4_fillBare hn σ (31 + x1.toNatClampNeg)) h (Nat.lt_of_lt_of_le (by decide) hn) rfl rfl rfl (cwV 1 hc.2.2.2.2.1 gX0_greatestGain_X4_fillBare rfl rfl rfl qX4_fillBare ⟨Nat.le_of_ble_eq_true rfl, Nat.le_of_ble_eq_true rfl⟩) rfl rfl (Nat.le_of_ble_eq_true rfl) dX0_greatestGain_22 (fun σ1 h => ?_)
      refine r_aload_n hc dX0_greatestGain_25 rfl ?_
      refine r_iload_n hc dX0_greatestGain_26 rfl ?_
      refine r_iconst (v := 0) hc dX0_greatestGain_27 (by decide) ?_
      refine r_iconst (v := 0) hc dX0_greatestGain_28 (by decide) ?_
      refine r_iconst (v := 0) hc dX0_greatestGain_29 (by decide) ?_
      refine r_callSi hc (zX0_extendR hn σ1 x1 0 0 0) h (va_cwS 5 hc.2.2.2.2.1 gX0_greatestGain_X0_extend rfl rfl rfl qX0_extend ⟨Nat.le_of_ble_eq_true rfl, Nat.le_of_ble_eq_true rfl⟩) rfl rfl (Nat.le_of_ble_eq_true rfl) dX0_greatestGain_30 (fun r3 σ2 h => ?_)
      exact e_i hc hr hlk h dX0_greatestGain_33
    · replace h := h.2 hq4
      refine r_iconst (v := 0) hc dX0_greatestGain_10 (by decide) ?_
      exact e_i hc hr hlk h dX0_greatestGain_11
theorem iX1_settle_X1 : ∀ w ∈ u_ws RX1 TX1 6, w ∈ wsX1_settle := by decide +kernel
theorem fX1_settle_9 : Cond.fieldLink RX1 9 (TX1 0).1 (TX1 0).2.1 (TX1 0).2.2.1 ∈ wsX1_settle := by decide +kernel
theorem fX1_settle_18 : Cond.fieldLink RX1 18 (TX1 2).1 (TX1 2).2.1 (TX1 2).2.2.1 ∈ wsX1_settle := by decide +kernel
theorem fX1_settle_25 : Cond.fieldLink RX1 25 (TX1 3).1 (TX1 3).2.1 (TX1 3).2.2.1 ∈ wsX1_settle := by decide +kernel
theorem fX1_settle_15 : Cond.fieldLink RX1 15 (TX1 1).1 (TX1 1).2.1 (TX1 1).2.2.1 ∈ wsX1_settle := by decide +kernel
set_option maxHeartbeats 4000000 in
set_option maxRecDepth 100000 in
theorem tvX1_settle_L27 {cy : Nat → ClassId} {ad : Nat → Nat} {n : Nat} {D : va_G} {A : Nat → Prop} {l : Launch} {p : Program} {e : Env} {s : State} {m : MethodId} {args : Array Value} {below : List Frame} {meth : Method} {c : Code} {k : Nat} {Q : St → Prop} {K2 : St → Int32 → Prop} (hn : 29 ≤ n) (hk0 : dimk k) (hc : CX p s m args c D cy cX1_settle 4 RX1 wsX1_settle) (hr : meth.sig.returnType = none) (hlk : meth.locks = false) (hK2 : ∀ (σ : St) (x1 : Int32), K2 σ x1 → WV TC cy ad n D A p l e rmX1_settle s m args below meth c 4 (MQ below (va_Qv Q (Bw TC cy ad n D) A) args s 0 0 A) σ [some (.ref (ad k)), some (.int x1), none, none] [] 2) : ∀ (q27 : Nat) (σ : St) (x1 : Int32) (x2 : Int32) (x3 : Int32), vX1_settle_L27 k Q K2 q27 σ x1 x2 x3 → WV TC cy ad n D A p l e rmX1_settle s m args below meth c 4 (MQ below (va_Qv Q (Bw TC cy ad n D) A) args s 0 0 A) σ [some (.ref (ad k)), some (.int x1), some (.int x2), some (.int x3)] [] 27 := by
  intro q27
  induction q27 with
  | zero =>
    intro σ x1 x2 x3 h
    exact h.elim
  | succ q27 ih =>
    intro σ x1 x2 x3 h
    unfold vX1_settle_L27 at h
    refine r_iload_n hc dX1_settle_27 rfl ?_
    refine r_aload_n hc dX1_settle_28 rfl ?_
    refine r_get (v := .int (rd σ k 3)) hc iX1_settle_X1 (dm_lt0 hk0 hn) (dm_T hk0) (dm_L hk0) rfl 3 (by decide) fX1_settle_25 rfl dX1_settle_29 ?_
    refine r_icmp_gt (tgt := 65) hc dX1_settle_32 (by decide) (fun hq8 => ?_) (fun hq8 => ?_)
    · replace h := h.1 hq8
      refine r_iinc (v := x1 + 1) hc dX1_settle_65 rfl rfl (by decide) (s1 trivial) ?_
      refine r_goto (tgt := 2) hc dX1_settle_68 (by decide) ?_
      exact r_weak (wk (wk (wn (wn w0)))) (hK2 _ _ h)
    · replace h := h.2 hq8
      refine r_aload_n hc dX1_settle_35 rfl ?_
      refine r_get (v := .ref (ad (k + 2))) hc iX1_settle_X1 (dm_lt0 hk0 hn) (dm_T hk0) (dm_L hk0) rfl 1 (by decide) fX1_settle_15 rfl dX1_settle_36 ?_
      refine r_iload_n hc dX1_settle_39 rfl ?_
      refine r_iconst (v := 1) hc dX1_settle_40 (by decide) ?_
      refine r_isub hc dX1_settle_41 ?_
      refine r_iload_n hc dX1_settle_42 rfl ?_
      refine r_callSi hc (zX1_placeOf hn σ (x3 - 1) x2) h (va_cwS 2 hc.2.2.2.2.1 gX1_settle_X1_placeOf rfl rfl rfl qX1_placeOf ⟨Nat.le_of_ble_eq_true rfl, Nat.le_of_ble_eq_true rfl⟩) rfl rfl (Nat.le_of_ble_eq_true rfl) dX1_settle_43 (fun r5 σ4 h => ?_)
      refine r_iald hc (dm_lt hk0 hn 2 (by decide)) (dm_T2 hk0) (dm_N2 hk0) h.1 dX1_settle_46 ?_
      replace h := h.2
      refine r_istore_n hc dX1_settle_47 rfl (by decide) (ss (s1 trivial)) ?_
      refine r_aload_n hc dX1_settle_48 rfl ?_
      refine r_get (v := .ref (ad (k + 3))) hc iX1_settle_X1 (dm_lt0 hk0 hn) (dm_T hk0) (dm_L hk0) rfl 2 (by decide) fX1_settle_18 rfl dX1_settle_49 ?_
      refine r_iload_n hc dX1_settle_52 rfl ?_
      refine r_iload_n hc dX1_settle_53 rfl ?_
      refine r_callSi hc (zX1_placeOf hn σ4 x3 x1) h (va_cwS 2 hc.2.2.2.2.1 gX1_settle_X1_placeOf rfl rfl rfl qX1_placeOf ⟨Nat.le_of_ble_eq_true rfl, Nat.le_of_ble_eq_true rfl⟩) rfl rfl (Nat.le_of_ble_eq_true rfl) dX1_settle_54 (fun r7 σ6 h => ?_)
      refine r_iload_n hc dX1_settle_57 rfl ?_
      refine r_iast hc (dm_lt hk0 hn 3 (by decide)) (dm_T3 hk0) (dm_N3 hk0) h.1 dX1_settle_58 ?_
      replace h := h.2
      refine r_iinc (v := x3 + 1) hc dX1_settle_59 rfl rfl (by decide) (ss (ss (s1 trivial))) ?_
      refine r_goto (tgt := 27) hc dX1_settle_62 (by decide) ?_
      exact r_weak (wk (wk (wk (wk w0)))) (ih _ _ _ _ h)
set_option maxHeartbeats 4000000 in
set_option maxRecDepth 100000 in
theorem tvX1_settle_L2 {cy : Nat → ClassId} {ad : Nat → Nat} {n : Nat} {D : va_G} {A : Nat → Prop} {l : Launch} {p : Program} {e : Env} {s : State} {m : MethodId} {args : Array Value} {below : List Frame} {meth : Method} {c : Code} {k : Nat} {Q : St → Prop} (hn : 29 ≤ n) (hk0 : dimk k) (hc : CX p s m args c D cy cX1_settle 4 RX1 wsX1_settle) (hr : meth.sig.returnType = none) (hlk : meth.locks = false) : ∀ (q2 : Nat) (σ : St) (x1 : Int32), vX1_settle_L2 k Q q2 σ x1 → WV TC cy ad n D A p l e rmX1_settle s m args below meth c 4 (MQ below (va_Qv Q (Bw TC cy ad n D) A) args s 0 0 A) σ [some (.ref (ad k)), some (.int x1), none, none] [] 2 := by
  intro q2
  induction q2 with
  | zero =>
    intro σ x1 h
    exact h.elim
  | succ q2 ih =>
    intro σ x1 h
    unfold vX1_settle_L2 at h
    refine r_iload_n hc dX1_settle_2 rfl ?_
    refine r_aload_n hc dX1_settle_3 rfl ?_
    refine r_get (v := .ref (ad (k + 1))) hc iX1_settle_X1 (dm_lt0 hk0 hn) (dm_T hk0) (dm_L hk0) rfl 0 (by decide) fX1_settle_9 rfl dX1_settle_4 ?_
    refine r_iconst (v := 0) hc dX1_settle_7 (by decide) ?_
    refine r_iald hc (dm_lt hk0 hn 1 (by decide)) (dm_T1 hk0) (dm_N1 hk0) h.1 dX1_settle_8 ?_
    replace h := h.2
    refine r_icmp_ge (tgt := 71) hc dX1_settle_9 (by decide) (fun hq3 => ?_) (fun hq3 => ?_)
    · replace h := h.1 hq3
      exact e_v hc hr hlk h dX1_settle_71
    · replace h := h.2 hq3
      refine r_iload_n hc dX1_settle_12 rfl ?_
      refine r_istore_n hc dX1_settle_13 rfl (by decide) (ss (s1 trivial)) ?_
      refine r_aload_n hc dX1_settle_14 rfl ?_
      refine r_get (v := .ref (ad (k + 3))) hc iX1_settle_X1 (dm_lt0 hk0 hn) (dm_T hk0) (dm_L hk0) rfl 2 (by decide) fX1_settle_18 rfl dX1_settle_15 ?_
      refine r_iconst (v := 0) hc dX1_settle_18 (by decide) ?_
      refine r_iload_n hc dX1_settle_19 rfl ?_
      refine r_callSi hc (zX1_placeOf hn σ 0 x1) h (va_cwS 2 hc.2.2.2.2.1 gX1_settle_X1_placeOf rfl rfl rfl qX1_placeOf ⟨Nat.le_of_ble_eq_true rfl, Nat.le_of_ble_eq_true rfl⟩) rfl rfl (Nat.le_of_ble_eq_true rfl) dX1_settle_20 (fun r2 σ1 h => ?_)
      refine r_iload_n hc dX1_settle_23 rfl ?_
      refine r_iast hc (dm_lt hk0 hn 3 (by decide)) (dm_T3 hk0) (dm_N3 hk0) h.1 dX1_settle_24 ?_
      replace h := h.2
      refine r_iconst (v := 1) hc dX1_settle_25 (by decide) ?_
      refine r_istore_n hc dX1_settle_26 rfl (by decide) (ss (ss (s1 trivial))) ?_
      obtain ⟨e27, h⟩ := h
      exact r_weak (wk (wk (wk (wk w0)))) (tvX1_settle_L27 (k := k) hn hk0 hc hr hlk ih e27 _ _ _ _ h)
set_option maxHeartbeats 4000000 in
set_option maxRecDepth 100000 in
theorem zX1_settle {cy : Nat → ClassId} {ad : Nat → Nat} {n : Nat} {D : va_G} {A : Nat → Prop} {l : Launch} {k : Nat} (hn : 29 ≤ n) (hk0 : dimk k) (σ : St) : Cv TC cy ad n D A l yX1_settle wsX1_settle rmX1_settle σ [.ref (ad k)] (fun Q => vX1_settle k Q σ ) := by
  intro Q h
  refine startW (cc := cX1_settle) (nL := 4) (own := RX1) (lo := [some (.ref (ad k)), none, none, none]) (by decide) rfl rfl (lo_start (av := [.ref (ad k)]) (k := 3) (allc1_ok (l := [.ref (ad k)]) trivial)) (Nat.le_of_ble_eq_true rfl) (fun p e s m args below meth c hc hr hlk => ?_)
  unfold vX1_settle at h
  refine r_iconst (v := 0) hc dX1_settle_0 (by decide) ?_
  refine r_istore_n hc dX1_settle_1 rfl (by decide) (s1 trivial) ?_
  obtain ⟨e2, h⟩ := h
  exact r_weak (wk (wk (wn (wn w0)))) (tvX1_settle_L2 (k := k) hn hk0 hc hr hlk e2 _ _ h)
theorem iX1_hang_X1 : ∀ w ∈ u_ws RX1 TX1 6, w ∈ wsX1_hang := by decide +kernel
theorem fX1_hang_15 : Cond.fieldLink RX1 15 (TX1 1).1 (TX1 1).2.1 (TX1 1).2.2.1 ∈ wsX1_hang := by decide +kernel
set_option maxHeartbeats 4000000 in
set_option maxRecDepth 100000 in
theorem zX1_hang {cy : Nat → ClassId} {ad : Nat → Nat} {n : Nat} {D : va_G} {A : Nat → Prop} {l : Launch} {k : Nat} (hn : 29 ≤ n) (hk0 : dimk k) (σ : St) (x1 : Int32) (x2 : Int32) (x3 : Int32) : Ci TC cy ad n D A l yX1_hang wsX1_hang rmX1_hang σ [.ref (ad k), .int x1, .int x2, .int x3] (fun Q => vX1_hang k Q σ x1 x2 x3) := by
  intro Q h
  refine startW (cc := cX1_hang) (nL := 6) (own := RX1) (lo := [some (.ref (ad k)), some (.int x1), some (.int x2), some (.int x3), none, none]) (by decide) rfl rfl (lo_start (av := [.ref (ad k), .int x1, .int x2, .int x3]) (k := 2) (allc1_ok (l := [.ref (ad k), .int x1, .int x2, .int x3]) trivial)) (Nat.le_of_ble_eq_true rfl) (fun p e s m args below meth c hc hr hlk => ?_)
  unfold vX1_hang at h
  refine r_iload_n hc dX1_hang_0 rfl ?_
  refine r_iload_n hc dX1_hang_1 rfl ?_
  refine r_callSi hc (zX1_placeOf hn σ x1 x2) h (va_cwS 2 hc.2.2.2.2.1 gX1_hang_X1_placeOf rfl rfl rfl qX1_placeOf ⟨Nat.le_of_ble_eq_true rfl, Nat.le_of_ble_eq_true rfl⟩) rfl rfl (Nat.le_of_ble_eq_true rfl) dX1_hang_2 (fun r2 σ1 h => ?_)
  refine r_istore hc dX1_hang_5 (by decide) (ss (ss (ss (s1 trivial)))) ?_
  refine r_aload_n hc dX1_hang_7 rfl ?_
  refine r_get (v := .ref (ad (k + 2))) hc iX1_hang_X1 (dm_lt0 hk0 hn) (dm_T hk0) (dm_L hk0) rfl 1 (by decide) fX1_hang_15 rfl dX1_hang_8 ?_
  refine r_iload hc dX1_hang_11 rfl ?_
  refine r_iald hc (dm_lt hk0 hn 2 (by decide)) (dm_T2 hk0) (dm_N2 hk0) h.1 dX1_hang_13 ?_
  replace h := h.2
  refine r_istore hc dX1_hang_14 (by decide) (ss (ss (ss (ss (s1 trivial))))) ?_
  refine r_aload_n hc dX1_hang_16 rfl ?_
  refine r_get (v := .ref (ad (k + 2))) hc iX1_hang_X1 (dm_lt0 hk0 hn) (dm_T hk0) (dm_L hk0) rfl 1 (by decide) fX1_hang_15 rfl dX1_hang_17 ?_
  refine r_iload hc dX1_hang_20 rfl ?_
  refine r_iload_n hc dX1_hang_22 rfl ?_
  refine r_iast hc (dm_lt hk0 hn 2 (by decide)) (dm_T2 hk0) (dm_N2 hk0) h.1 dX1_hang_23 ?_
  replace h := h.2
  refine r_aload_n hc dX1_hang_24 rfl ?_
  refine r_callVv hc (zX1_settle hn hk0 (wr σ1 (k + 2) r2.toNatClampNeg x3)) h (dm_lt0 hk0 hn) (dm_T hk0) (dm_L hk0) rfl (cwV 0 hc.2.2.2.2.1 gX1_hang_X1_settle rfl rfl rfl qX1_settle ⟨Nat.le_of_ble_eq_true rfl, Nat.le_of_ble_eq_true rfl⟩) rfl rfl (Nat.le_of_ble_eq_true rfl) dX1_hang_25 (fun σ3 h => ?_)
  refine r_iload hc dX1_hang_28 rfl ?_
  exact e_i hc hr hlk h dX1_hang_30
theorem iX1_hasLevel_X1 : ∀ w ∈ u_ws RX1 TX1 6, w ∈ wsX1_hasLevel := by decide +kernel
theorem fX1_hasLevel_25 : Cond.fieldLink RX1 25 (TX1 3).1 (TX1 3).2.1 (TX1 3).2.2.1 ∈ wsX1_hasLevel := by decide +kernel
set_option maxHeartbeats 4000000 in
set_option maxRecDepth 100000 in
theorem zX1_hasLevel {cy : Nat → ClassId} {ad : Nat → Nat} {n : Nat} {D : va_G} {A : Nat → Prop} {l : Launch} {k : Nat} (hn : 29 ≤ n) (hk0 : dimk k) (σ : St) (x1 : Int32) : Ci TC cy ad n D A l yX1_hasLevel wsX1_hasLevel rmX1_hasLevel σ [.ref (ad k), .int x1] (fun Q => vX1_hasLevel k Q σ x1) := by
  intro Q h
  refine startW (cc := cX1_hasLevel) (nL := 2) (own := RX1) (lo := [some (.ref (ad k)), some (.int x1)]) (by decide) rfl rfl (lo_start (av := [.ref (ad k), .int x1]) (k := 0) (allc1_ok (l := [.ref (ad k), .int x1]) trivial)) (Nat.le_of_ble_eq_true rfl) (fun p e s m args below meth c hc hr hlk => ?_)
  unfold vX1_hasLevel at h
  refine r_iload_n hc dX1_hasLevel_0 rfl ?_
  refine r_if_lt (tgt := 16) hc dX1_hasLevel_1 (by decide) (fun hq2 => ?_) (fun hq2 => ?_)
  · replace h := h.1 hq2
    refine r_iconst (v := 0) hc dX1_hasLevel_16 (by decide) ?_
    exact e_z hc hr hlk (by decide) h dX1_hasLevel_17
  · replace h := h.2 hq2
    refine r_iload_n hc dX1_hasLevel_4 rfl ?_
    refine r_aload_n hc dX1_hasLevel_5 rfl ?_
    refine r_get (v := .int (rd σ k 3)) hc iX1_hasLevel_X1 (dm_lt0 hk0 hn) (dm_T hk0) (dm_L hk0) rfl 3 (by decide) fX1_hasLevel_25 rfl dX1_hasLevel_6 ?_
    refine r_icmp_gt (tgt := 16) hc dX1_hasLevel_9 (by decide) (fun hq1 => ?_) (fun hq1 => ?_)
    · replace h := h.1 hq1
      refine r_iconst (v := 0) hc dX1_hasLevel_16 (by decide) ?_
      exact e_z hc hr hlk (by decide) h dX1_hasLevel_17
    · replace h := h.2 hq1
      refine r_iconst (v := 1) hc dX1_hasLevel_12 (by decide) ?_
      refine r_goto (tgt := 17) hc dX1_hasLevel_13 (by decide) ?_
      exact e_z hc hr hlk (by decide) h dX1_hasLevel_17
theorem iX1_widthOf_X1 : ∀ w ∈ u_ws RX1 TX1 6, w ∈ wsX1_widthOf := by decide +kernel
theorem fX1_widthOf_9 : Cond.fieldLink RX1 9 (TX1 0).1 (TX1 0).2.1 (TX1 0).2.2.1 ∈ wsX1_widthOf := by decide +kernel
set_option maxHeartbeats 4000000 in
set_option maxRecDepth 100000 in
theorem zX1_widthOf {cy : Nat → ClassId} {ad : Nat → Nat} {n : Nat} {D : va_G} {A : Nat → Prop} {l : Launch} {k : Nat} (hn : 29 ≤ n) (hk0 : dimk k) (σ : St) (x1 : Int32) : Ci TC cy ad n D A l yX1_widthOf wsX1_widthOf rmX1_widthOf σ [.ref (ad k), .int x1] (fun Q => vX1_widthOf k Q σ x1) := by
  intro Q h
  refine startW (cc := cX1_widthOf) (nL := 2) (own := RX1) (lo := [some (.ref (ad k)), some (.int x1)]) (by decide) rfl rfl (lo_start (av := [.ref (ad k), .int x1]) (k := 0) (allc1_ok (l := [.ref (ad k), .int x1]) trivial)) (Nat.le_of_ble_eq_true rfl) (fun p e s m args below meth c hc hr hlk => ?_)
  unfold vX1_widthOf at h
  refine r_aload_n hc dX1_widthOf_0 rfl ?_
  refine r_iload_n hc dX1_widthOf_1 rfl ?_
  refine r_callVi hc (zX1_hasLevel hn hk0 σ x1) h (dm_lt0 hk0 hn) (dm_T hk0) (dm_L hk0) rfl (cwV 1 hc.2.2.2.2.1 gX1_widthOf_X1_hasLevel rfl rfl rfl qX1_hasLevel ⟨Nat.le_of_ble_eq_true rfl, Nat.le_of_ble_eq_true rfl⟩) rfl rfl (Nat.le_of_ble_eq_true rfl) dX1_widthOf_2 (fun r2 σ1 h => ?_)
  refine r_if_eq (tgt := 17) hc dX1_widthOf_5 (by decide) (fun hq3 => ?_) (fun hq3 => ?_)
  · replace h := h.1 hq3
    refine r_iconst (v := 0) hc dX1_widthOf_17 (by decide) ?_
    exact e_i hc hr hlk h dX1_widthOf_18
  · replace h := h.2 hq3
    refine r_aload_n hc dX1_widthOf_8 rfl ?_
    refine r_get (v := .ref (ad (k + 1))) hc iX1_widthOf_X1 (dm_lt0 hk0 hn) (dm_T hk0) (dm_L hk0) rfl 0 (by decide) fX1_widthOf_9 rfl dX1_widthOf_9 ?_
    refine r_iload_n hc dX1_widthOf_12 rfl ?_
    refine r_iald hc (dm_lt hk0 hn 1 (by decide)) (dm_T1 hk0) (dm_N1 hk0) h.1 dX1_widthOf_13 ?_
    replace h := h.2
    refine r_goto (tgt := 18) hc dX1_widthOf_14 (by decide) ?_
    exact e_i hc hr hlk h dX1_widthOf_18
set_option maxHeartbeats 4000000 in
set_option maxRecDepth 100000 in
theorem zX1_hasMember {cy : Nat → ClassId} {ad : Nat → Nat} {n : Nat} {D : va_G} {A : Nat → Prop} {l : Launch} {k : Nat} (hn : 29 ≤ n) (hk0 : dimk k) (σ : St) (x1 : Int32) (x2 : Int32) : Ci TC cy ad n D A l yX1_hasMember wsX1_hasMember rmX1_hasMember σ [.ref (ad k), .int x1, .int x2] (fun Q => vX1_hasMember k Q σ x1 x2) := by
  intro Q h
  refine startW (cc := cX1_hasMember) (nL := 3) (own := RX1) (lo := [some (.ref (ad k)), some (.int x1), some (.int x2)]) (by decide) rfl rfl (lo_start (av := [.ref (ad k), .int x1, .int x2]) (k := 0) (allc1_ok (l := [.ref (ad k), .int x1, .int x2]) trivial)) (Nat.le_of_ble_eq_true rfl) (fun p e s m args below meth c hc hr hlk => ?_)
  unfold vX1_hasMember at h
  refine r_iload_n hc dX1_hasMember_0 rfl ?_
  refine r_if_lt (tgt := 17) hc dX1_hasMember_1 (by decide) (fun hq4 => ?_) (fun hq4 => ?_)
  · replace h := h.1 hq4
    refine r_iconst (v := 0) hc dX1_hasMember_17 (by decide) ?_
    exact e_z hc hr hlk (by decide) h dX1_hasMember_18
  · replace h := h.2 hq4
    refine r_iload_n hc dX1_hasMember_4 rfl ?_
    refine r_aload_n hc dX1_hasMember_5 rfl ?_
    refine r_iload_n hc dX1_hasMember_6 rfl ?_
    refine r_callVi hc (zX1_widthOf hn hk0 σ x1) h (dm_lt0 hk0 hn) (dm_T hk0) (dm_L hk0) rfl (cwV 1 hc.2.2.2.2.1 gX1_hasMember_X1_widthOf rfl rfl rfl qX1_widthOf ⟨Nat.le_of_ble_eq_true rfl, Nat.le_of_ble_eq_true rfl⟩) rfl rfl (Nat.le_of_ble_eq_true rfl) dX1_hasMember_7 (fun r2 σ1 h => ?_)
    refine r_icmp_ge (tgt := 17) hc dX1_hasMember_10 (by decide) (fun hq3 => ?_) (fun hq3 => ?_)
    · replace h := h.1 hq3
      refine r_iconst (v := 0) hc dX1_hasMember_17 (by decide) ?_
      exact e_z hc hr hlk (by decide) h dX1_hasMember_18
    · replace h := h.2 hq3
      refine r_iconst (v := 1) hc dX1_hasMember_13 (by decide) ?_
      refine r_goto (tgt := 18) hc dX1_hasMember_14 (by decide) ?_
      exact e_z hc hr hlk (by decide) h dX1_hasMember_18
theorem iX1_homeOf_X1 : ∀ w ∈ u_ws RX1 TX1 6, w ∈ wsX1_homeOf := by decide +kernel
theorem fX1_homeOf_18 : Cond.fieldLink RX1 18 (TX1 2).1 (TX1 2).2.1 (TX1 2).2.2.1 ∈ wsX1_homeOf := by decide +kernel
set_option maxHeartbeats 4000000 in
set_option maxRecDepth 100000 in
theorem zX1_homeOf {cy : Nat → ClassId} {ad : Nat → Nat} {n : Nat} {D : va_G} {A : Nat → Prop} {l : Launch} {k : Nat} (hn : 29 ≤ n) (hk0 : dimk k) (σ : St) (x1 : Int32) (x2 : Int32) : Ci TC cy ad n D A l yX1_homeOf wsX1_homeOf rmX1_homeOf σ [.ref (ad k), .int x1, .int x2] (fun Q => vX1_homeOf k Q σ x1 x2) := by
  intro Q h
  refine startW (cc := cX1_homeOf) (nL := 3) (own := RX1) (lo := [some (.ref (ad k)), some (.int x1), some (.int x2)]) (by decide) rfl rfl (lo_start (av := [.ref (ad k), .int x1, .int x2]) (k := 0) (allc1_ok (l := [.ref (ad k), .int x1, .int x2]) trivial)) (Nat.le_of_ble_eq_true rfl) (fun p e s m args below meth c hc hr hlk => ?_)
  unfold vX1_homeOf at h
  refine r_aload_n hc dX1_homeOf_0 rfl ?_
  refine r_get (v := .ref (ad (k + 3))) hc iX1_homeOf_X1 (dm_lt0 hk0 hn) (dm_T hk0) (dm_L hk0) rfl 2 (by decide) fX1_homeOf_18 rfl dX1_homeOf_1 ?_
  refine r_iload_n hc dX1_homeOf_4 rfl ?_
  refine r_iload_n hc dX1_homeOf_5 rfl ?_
  refine r_callSi hc (zX1_placeOf hn σ x2 x1) h (va_cwS 2 hc.2.2.2.2.1 gX1_homeOf_X1_placeOf rfl rfl rfl qX1_placeOf ⟨Nat.le_of_ble_eq_true rfl, Nat.le_of_ble_eq_true rfl⟩) rfl rfl (Nat.le_of_ble_eq_true rfl) dX1_homeOf_6 (fun r2 σ1 h => ?_)
  refine r_iald hc (dm_lt hk0 hn 3 (by decide)) (dm_T3 hk0) (dm_N3 hk0) h.1 dX1_homeOf_9 ?_
  replace h := h.2
  exact e_i hc hr hlk h dX1_homeOf_10
theorem iX1_setFilter_X1 : ∀ w ∈ u_ws RX1 TX1 6, w ∈ wsX1_setFilter := by decide +kernel
theorem fX1_setFilter_48 : Cond.fieldLink RX1 48 (TX1 4).1 (TX1 4).2.1 (TX1 4).2.2.1 ∈ wsX1_setFilter := by decide +kernel
theorem fX1_setFilter_51 : Cond.fieldLink RX1 51 (TX1 5).1 (TX1 5).2.1 (TX1 5).2.2.1 ∈ wsX1_setFilter := by decide +kernel
set_option maxHeartbeats 4000000 in
set_option maxRecDepth 100000 in
theorem zX1_setFilter {cy : Nat → ClassId} {ad : Nat → Nat} {n : Nat} {D : va_G} {A : Nat → Prop} {l : Launch} {k : Nat} (hn : 29 ≤ n) (hk0 : dimk k) (σ : St) (x1 : Int32) (x2 : Int32) : Cv TC cy ad n D A l yX1_setFilter wsX1_setFilter rmX1_setFilter σ [.ref (ad k), .int x1, .int x2] (fun Q => vX1_setFilter k Q σ x1 x2) := by
  intro Q h
  refine startW (cc := cX1_setFilter) (nL := 3) (own := RX1) (lo := [some (.ref (ad k)), some (.int x1), some (.int x2)]) (by decide) rfl rfl (lo_start (av := [.ref (ad k), .int x1, .int x2]) (k := 0) (allc1_ok (l := [.ref (ad k), .int x1, .int x2]) trivial)) (Nat.le_of_ble_eq_true rfl) (fun p e s m args below meth c hc hr hlk => ?_)
  unfold vX1_setFilter at h
  refine r_aload_n hc dX1_setFilter_0 rfl ?_
  refine r_iload_n hc dX1_setFilter_1 rfl ?_
  refine r_put hc iX1_setFilter_X1 tyX1_ok nmX1 (dm_lt0 hk0 hn) (dm_T hk0) (dm_L hk0) rfl 4 (by decide) (Nat.le_of_ble_eq_true rfl) fX1_setFilter_48 rfl (by decide +kernel) rfl dX1_setFilter_2 ?_
  refine r_aload_n hc dX1_setFilter_5 rfl ?_
  refine r_iload_n hc dX1_setFilter_6 rfl ?_
  refine r_put hc iX1_setFilter_X1 tyX1_ok nmX1 (dm_lt0 hk0 hn) (dm_T hk0) (dm_L hk0) rfl 5 (by decide) (Nat.le_of_ble_eq_true rfl) fX1_setFilter_51 rfl (by decide +kernel) rfl dX1_setFilter_7 ?_
  exact e_v hc hr hlk h dX1_setFilter_10
theorem iX1_topAt_X1 : ∀ w ∈ u_ws RX1 TX1 6, w ∈ wsX1_topAt := by decide +kernel
theorem fX1_topAt_25 : Cond.fieldLink RX1 25 (TX1 3).1 (TX1 3).2.1 (TX1 3).2.2.1 ∈ wsX1_topAt := by decide +kernel
theorem fX1_topAt_9 : Cond.fieldLink RX1 9 (TX1 0).1 (TX1 0).2.1 (TX1 0).2.2.1 ∈ wsX1_topAt := by decide +kernel
set_option maxHeartbeats 4000000 in
set_option maxRecDepth 100000 in
theorem zX1_topAt {cy : Nat → ClassId} {ad : Nat → Nat} {n : Nat} {D : va_G} {A : Nat → Prop} {l : Launch} {k : Nat} (hn : 29 ≤ n) (hk0 : dimk k) (σ : St) (x1 : Int32) : Cv TC cy ad n D A l yX1_topAt wsX1_topAt rmX1_topAt σ [.ref (ad k), .int x1] (fun Q => vX1_topAt k Q σ x1) := by
  intro Q h
  refine startW (cc := cX1_topAt) (nL := 2) (own := RX1) (lo := [some (.ref (ad k)), some (.int x1)]) (by decide) rfl rfl (lo_start (av := [.ref (ad k), .int x1]) (k := 0) (allc1_ok (l := [.ref (ad k), .int x1]) trivial)) (Nat.le_of_ble_eq_true rfl) (fun p e s m args below meth c hc hr hlk => ?_)
  unfold vX1_topAt at h
  refine r_aload_n hc dX1_topAt_0 rfl ?_
  refine r_iload_n hc dX1_topAt_1 rfl ?_
  refine r_put hc iX1_topAt_X1 tyX1_ok nmX1 (dm_lt0 hk0 hn) (dm_T hk0) (dm_L hk0) rfl 3 (by decide) (Nat.le_of_ble_eq_true rfl) fX1_topAt_25 rfl (by decide +kernel) rfl dX1_topAt_2 ?_
  refine r_aload_n hc dX1_topAt_5 rfl ?_
  refine r_get (v := .ref (ad (k + 1))) hc iX1_topAt_X1 (dm_lt0 hk0 hn) (dm_T hk0) (dm_L hk0) rfl 0 (by decide) fX1_topAt_9 rfl dX1_topAt_6 ?_
  refine r_iload_n hc dX1_topAt_9 rfl ?_
  refine r_iconst (v := 1) hc dX1_topAt_10 (by decide) ?_
  refine r_iast hc (dm_lt hk0 hn 1 (by decide)) (dm_T1 hk0) (dm_N1 hk0) h.1 dX1_topAt_11 ?_
  replace h := h.2
  refine r_aload_n hc dX1_topAt_12 rfl ?_
  refine r_iload_n hc dX1_topAt_13 rfl ?_
  refine r_iconst (v := 0) hc dX1_topAt_14 (by decide) ?_
  refine r_callVv hc (zX1_setFilter hn hk0 (wr (wr σ k 3 x1) (k + 1) x1.toNatClampNeg 1) x1 0) h (dm_lt0 hk0 hn) (dm_T hk0) (dm_L hk0) rfl (cwV 2 hc.2.2.2.2.1 gX1_topAt_X1_setFilter rfl rfl rfl qX1_setFilter ⟨Nat.le_of_ble_eq_true rfl, Nat.le_of_ble_eq_true rfl⟩) rfl rfl (Nat.le_of_ble_eq_true rfl) dX1_topAt_15 (fun σ1 h => ?_)
  refine r_aload_n hc dX1_topAt_18 rfl ?_
  refine r_callVv hc (zX1_settle hn hk0 σ1) h (dm_lt0 hk0 hn) (dm_T hk0) (dm_L hk0) rfl (cwV 0 hc.2.2.2.2.1 gX1_topAt_X1_settle rfl rfl rfl qX1_settle ⟨Nat.le_of_ble_eq_true rfl, Nat.le_of_ble_eq_true rfl⟩) rfl rfl (Nat.le_of_ble_eq_true rfl) dX1_topAt_19 (fun σ2 h => ?_)
  exact e_v hc hr hlk h dX1_topAt_22
theorem iX1_open_X1 : ∀ w ∈ u_ws RX1 TX1 6, w ∈ wsX1_open := by decide +kernel
theorem fX1_open_9 : Cond.fieldLink RX1 9 (TX1 0).1 (TX1 0).2.1 (TX1 0).2.2.1 ∈ wsX1_open := by decide +kernel
set_option maxHeartbeats 4000000 in
set_option maxRecDepth 100000 in
theorem zX1_open {cy : Nat → ClassId} {ad : Nat → Nat} {n : Nat} {D : va_G} {A : Nat → Prop} {l : Launch} {k : Nat} (hn : 29 ≤ n) (hk0 : dimk k) (σ : St) (x1 : Int32) : Cv TC cy ad n D A l yX1_open wsX1_open rmX1_open σ [.ref (ad k), .int x1] (fun Q => vX1_open k Q σ x1) := by
  intro Q h
  refine startW (cc := cX1_open) (nL := 2) (own := RX1) (lo := [some (.ref (ad k)), some (.int x1)]) (by decide) rfl rfl (lo_start (av := [.ref (ad k), .int x1]) (k := 0) (allc1_ok (l := [.ref (ad k), .int x1]) trivial)) (Nat.le_of_ble_eq_true rfl) (fun p e s m args below meth c hc hr hlk => ?_)
  unfold vX1_open at h
  refine r_aload_n hc dX1_open_0 rfl ?_
  refine r_get (v := .ref (ad (k + 1))) hc iX1_open_X1 (dm_lt0 hk0 hn) (dm_T hk0) (dm_L hk0) rfl 0 (by decide) fX1_open_9 rfl dX1_open_1 ?_
  refine r_iconst (v := 0) hc dX1_open_4 (by decide) ?_
  refine r_iload_n hc dX1_open_5 rfl ?_
  refine r_iast hc (dm_lt hk0 hn 1 (by decide)) (dm_T1 hk0) (dm_N1 hk0) h.1 dX1_open_6 ?_
  replace h := h.2
  refine r_aload_n hc dX1_open_7 rfl ?_
  refine r_iconst (v := 1) hc dX1_open_8 (by decide) ?_
  refine r_callVv hc (zX1_topAt hn hk0 (wr σ (k + 1) (0 : Int32).toNatClampNeg x1) 1) h (dm_lt0 hk0 hn) (dm_T hk0) (dm_L hk0) rfl (cwV 1 hc.2.2.2.2.1 gX1_open_X1_topAt rfl rfl rfl qX1_topAt ⟨Nat.le_of_ble_eq_true rfl, Nat.le_of_ble_eq_true rfl⟩) rfl rfl (Nat.le_of_ble_eq_true rfl) dX1_open_9 (fun σ1 h => ?_)
  exact e_v hc hr hlk h dX1_open_12
theorem iX1_passes_X1 : ∀ w ∈ u_ws RX1 TX1 6, w ∈ wsX1_passes := by decide +kernel
theorem fX1_passes_48 : Cond.fieldLink RX1 48 (TX1 4).1 (TX1 4).2.1 (TX1 4).2.2.1 ∈ wsX1_passes := by decide +kernel
theorem fX1_passes_51 : Cond.fieldLink RX1 51 (TX1 5).1 (TX1 5).2.1 (TX1 5).2.2.1 ∈ wsX1_passes := by decide +kernel
set_option maxHeartbeats 4000000 in
set_option maxRecDepth 100000 in
theorem zX1_passes {cy : Nat → ClassId} {ad : Nat → Nat} {n : Nat} {D : va_G} {A : Nat → Prop} {l : Launch} {k : Nat} (hn : 29 ≤ n) (hk0 : dimk k) (σ : St) (x1 : Int32) : Ci TC cy ad n D A l yX1_passes wsX1_passes rmX1_passes σ [.ref (ad k), .int x1] (fun Q => vX1_passes k Q σ x1) := by
  intro Q h
  refine startW (cc := cX1_passes) (nL := 2) (own := RX1) (lo := [some (.ref (ad k)), some (.int x1)]) (by decide) rfl rfl (lo_start (av := [.ref (ad k), .int x1]) (k := 0) (allc1_ok (l := [.ref (ad k), .int x1]) trivial)) (Nat.le_of_ble_eq_true rfl) (fun p e s m args below meth c hc hr hlk => ?_)
  unfold vX1_passes at h
  refine r_aload_n hc dX1_passes_0 rfl ?_
  refine r_iload_n hc dX1_passes_1 rfl ?_
  refine r_aload_n hc dX1_passes_2 rfl ?_
  refine r_get (v := .int (rd σ k 4)) hc iX1_passes_X1 (dm_lt0 hk0 hn) (dm_T hk0) (dm_L hk0) rfl 4 (by decide) fX1_passes_48 rfl dX1_passes_3 ?_
  refine r_callVi hc (zX1_homeOf hn hk0 σ x1 (rd σ k 4)) h (dm_lt0 hk0 hn) (dm_T hk0) (dm_L hk0) rfl (cwV 2 hc.2.2.2.2.1 gX1_passes_X1_homeOf rfl rfl rfl qX1_homeOf ⟨Nat.le_of_ble_eq_true rfl, Nat.le_of_ble_eq_true rfl⟩) rfl rfl (Nat.le_of_ble_eq_true rfl) dX1_passes_6 (fun r2 σ1 h => ?_)
  refine r_aload_n hc dX1_passes_9 rfl ?_
  refine r_get (v := .int (rd σ1 k 5)) hc iX1_passes_X1 (dm_lt0 hk0 hn) (dm_T hk0) (dm_L hk0) rfl 5 (by decide) fX1_passes_51 rfl dX1_passes_10 ?_
  refine r_icmp_ne (tgt := 20) hc dX1_passes_13 (by decide) (fun hq3 => ?_) (fun hq3 => ?_)
  · replace h := h.1 hq3
    refine r_iconst (v := 1) hc dX1_passes_16 (by decide) ?_
    refine r_goto (tgt := 21) hc dX1_passes_17 (by decide) ?_
    exact e_z hc hr hlk (by decide) h dX1_passes_21
  · replace h := h.2 hq3
    refine r_iconst (v := 0) hc dX1_passes_20 (by decide) ?_
    exact e_z hc hr hlk (by decide) h dX1_passes_21
theorem iX1_raise_X1 : ∀ w ∈ u_ws RX1 TX1 6, w ∈ wsX1_raise := by decide +kernel
theorem fX1_raise_25 : Cond.fieldLink RX1 25 (TX1 3).1 (TX1 3).2.1 (TX1 3).2.2.1 ∈ wsX1_raise := by decide +kernel
theorem fX1_raise_9 : Cond.fieldLink RX1 9 (TX1 0).1 (TX1 0).2.1 (TX1 0).2.2.1 ∈ wsX1_raise := by decide +kernel
set_option maxHeartbeats 4000000 in
set_option maxRecDepth 100000 in
theorem zX1_raise {cy : Nat → ClassId} {ad : Nat → Nat} {n : Nat} {D : va_G} {A : Nat → Prop} {l : Launch} {k : Nat} (hn : 29 ≤ n) (hk0 : dimk k) (σ : St) (x1 : Int32) : Ci TC cy ad n D A l yX1_raise wsX1_raise rmX1_raise σ [.ref (ad k), .int x1] (fun Q => vX1_raise k Q σ x1) := by
  intro Q h
  refine startW (cc := cX1_raise) (nL := 3) (own := RX1) (lo := [some (.ref (ad k)), some (.int x1), none]) (by decide) rfl rfl (lo_start (av := [.ref (ad k), .int x1]) (k := 1) (allc1_ok (l := [.ref (ad k), .int x1]) trivial)) (Nat.le_of_ble_eq_true rfl) (fun p e s m args below meth c hc hr hlk => ?_)
  unfold vX1_raise at h
  refine r_aload_n hc dX1_raise_0 rfl ?_
  refine r_get (v := .int (rd σ k 3)) hc iX1_raise_X1 (dm_lt0 hk0 hn) (dm_T hk0) (dm_L hk0) rfl 3 (by decide) fX1_raise_25 rfl dX1_raise_1 ?_
  refine r_istore_n hc dX1_raise_4 rfl (by decide) (ss (s1 trivial)) ?_
  refine r_iload_n hc dX1_raise_5 rfl ?_
  refine r_iconst (v := 3) hc dX1_raise_6 (by decide) ?_
  refine r_icmp_ge (tgt := 24) hc dX1_raise_7 (by decide) (fun hq2 => ?_) (fun hq2 => ?_)
  · replace h := h.1 hq2
    refine r_iload_n hc dX1_raise_24 rfl ?_
    exact e_i hc hr hlk h dX1_raise_25
  · replace h := h.2 hq2
    refine r_aload_n hc dX1_raise_10 rfl ?_
    refine r_get (v := .ref (ad (k + 1))) hc iX1_raise_X1 (dm_lt0 hk0 hn) (dm_T hk0) (dm_L hk0) rfl 0 (by decide) fX1_raise_9 rfl dX1_raise_11 ?_
    refine r_iload_n hc dX1_raise_14 rfl ?_
    refine r_iload_n hc dX1_raise_15 rfl ?_
    refine r_iast hc (dm_lt hk0 hn 1 (by decide)) (dm_T1 hk0) (dm_N1 hk0) h.1 dX1_raise_16 ?_
    replace h := h.2
    refine r_aload_n hc dX1_raise_17 rfl ?_
    refine r_iload_n hc dX1_raise_18 rfl ?_
    refine r_iconst (v := 1) hc dX1_raise_19 (by decide) ?_
    refine r_iadd hc dX1_raise_20 ?_
    refine r_callVv hc (zX1_topAt hn hk0 (wr σ (k + 1) (rd σ k 3).toNatClampNeg x1) ((rd σ k 3) + 1)) h (dm_lt0 hk0 hn) (dm_T hk0) (dm_L hk0) rfl (cwV 1 hc.2.2.2.2.1 gX1_raise_X1_topAt rfl rfl rfl qX1_topAt ⟨Nat.le_of_ble_eq_true rfl, Nat.le_of_ble_eq_true rfl⟩) rfl rfl (Nat.le_of_ble_eq_true rfl) dX1_raise_21 (fun σ1 h => ?_)
    refine r_iload_n hc dX1_raise_24 rfl ?_
    exact e_i hc hr hlk h dX1_raise_25
theorem iX2_enter_X2 : ∀ w ∈ u_ws RX2 TX2 5, w ∈ wsX2_enter := by decide +kernel
theorem fX2_enter_22 : Cond.fieldLink RX2 22 (TX2 3).1 (TX2 3).2.1 (TX2 3).2.2.1 ∈ wsX2_enter := by decide +kernel
theorem fX2_enter_9 : Cond.fieldLink RX2 9 (TX2 0).1 (TX2 0).2.1 (TX2 0).2.2.1 ∈ wsX2_enter := by decide +kernel
theorem fX2_enter_15 : Cond.fieldLink RX2 15 (TX2 1).1 (TX2 1).2.1 (TX2 1).2.2.1 ∈ wsX2_enter := by decide +kernel
theorem fX2_enter_26 : Cond.fieldLink RX2 26 (TX2 4).1 (TX2 4).2.1 (TX2 4).2.2.1 ∈ wsX2_enter := by decide +kernel
set_option maxHeartbeats 4000000 in
set_option maxRecDepth 100000 in
theorem zX2_enter {cy : Nat → ClassId} {ad : Nat → Nat} {n : Nat} {D : va_G} {A : Nat → Prop} {l : Launch} (hn : 29 ≤ n) (σ : St) (x1 : Int32) (x2 : Int32) : Ci TC cy ad n D A l yX2_enter wsX2_enter rmX2_enter σ [.ref (ad 18), .int x1, .int x2] (fun Q => vX2_enter Q σ x1 x2) := by
  intro Q h
  refine startW (cc := cX2_enter) (nL := 4) (own := RX2) (lo := [some (.ref (ad 18)), some (.int x1), some (.int x2), none]) (by decide) rfl rfl (lo_start (av := [.ref (ad 18), .int x1, .int x2]) (k := 1) (allc1_ok (l := [.ref (ad 18), .int x1, .int x2]) trivial)) (Nat.le_of_ble_eq_true rfl) (fun p e s m args below meth c hc hr hlk => ?_)
  unfold vX2_enter at h
  refine r_aload_n hc dX2_enter_0 rfl ?_
  refine r_get (v := .int (rd σ 18 3)) hc iX2_enter_X2 (Nat.lt_of_lt_of_le (by decide) hn) rfl rfl rfl 3 (by decide) fX2_enter_22 rfl dX2_enter_1 ?_
  refine r_istore_n hc dX2_enter_4 rfl (by decide) (ss (ss (s1 trivial))) ?_
  refine r_iload_n hc dX2_enter_5 rfl ?_
  refine r_sipush (v := 300) hc dX2_enter_6 (by decide) ?_
  refine r_icmp_ge (tgt := 46) hc dX2_enter_9 (by decide) (fun hq1 => ?_) (fun hq1 => ?_)
  · replace h := h.1 hq1
    refine r_iload_n hc dX2_enter_46 rfl ?_
    exact e_i hc hr hlk h dX2_enter_47
  · replace h := h.2 hq1
    refine r_aload_n hc dX2_enter_12 rfl ?_
    refine r_get (v := .ref (ad 19)) hc iX2_enter_X2 (Nat.lt_of_lt_of_le (by decide) hn) rfl rfl rfl 0 (by decide) fX2_enter_9 rfl dX2_enter_13 ?_
    refine r_iload_n hc dX2_enter_16 rfl ?_
    refine r_iload_n hc dX2_enter_17 rfl ?_
    refine r_iast hc (Nat.lt_of_lt_of_le (by decide) hn) rfl rfl h.1 dX2_enter_18 ?_
    replace h := h.2
    refine r_aload_n hc dX2_enter_19 rfl ?_
    refine r_get (v := .ref (ad 20)) hc iX2_enter_X2 (Nat.lt_of_lt_of_le (by decide) hn) rfl rfl rfl 1 (by decide) fX2_enter_15 rfl dX2_enter_20 ?_
    refine r_iload_n hc dX2_enter_23 rfl ?_
    refine r_iload_n hc dX2_enter_24 rfl ?_
    refine r_iast hc (Nat.lt_of_lt_of_le (by decide) hn) rfl rfl h.1 dX2_enter_25 ?_
    replace h := h.2
    refine r_aload_n hc dX2_enter_26 rfl ?_
    refine r_dup hc dX2_enter_27 rfl ?_
    refine r_get (v := .int (rd (wr (wr σ 19 (rd σ 18 3).toNatClampNeg x1) 20 (rd σ 18 3).toNatClampNeg x2) 18 3)) hc iX2_enter_X2 (Nat.lt_of_lt_of_le (by decide) hn) rfl rfl rfl 3 (by decide) fX2_enter_22 rfl dX2_enter_28 ?_
    refine r_iconst (v := 1) hc dX2_enter_31 (by decide) ?_
    refine r_iadd hc dX2_enter_32 ?_
    refine r_put hc iX2_enter_X2 tyX2_ok nmX2 (Nat.lt_of_lt_of_le (by decide) hn) rfl rfl rfl 3 (by decide) (Nat.le_of_ble_eq_true rfl) fX2_enter_22 rfl (by decide +kernel) rfl dX2_enter_33 ?_
    refine r_aload_n hc dX2_enter_36 rfl ?_
    refine r_dup hc dX2_enter_37 rfl ?_
    refine r_get (v := .int (rd (wr (wr (wr σ 19 (rd σ 18 3).toNatClampNeg x1) 20 (rd σ 18 3).toNatClampNeg x2) 18 3 ((rd (wr (wr σ 19 (rd σ 18 3).toNatClampNeg x1) 20 (rd σ 18 3).toNatClampNeg x2) 18 3) + 1)) 18 4)) hc iX2_enter_X2 (Nat.lt_of_lt_of_le (by decide) hn) rfl rfl rfl 4 (by decide) fX2_enter_26 rfl dX2_enter_38 ?_
    refine r_iconst (v := 1) hc dX2_enter_41 (by decide) ?_
    refine r_iadd hc dX2_enter_42 ?_
    refine r_put hc iX2_enter_X2 tyX2_ok nmX2 (Nat.lt_of_lt_of_le (by decide) hn) rfl rfl rfl 4 (by decide) (Nat.le_of_ble_eq_true rfl) fX2_enter_26 rfl (by decide +kernel) rfl dX2_enter_43 ?_
    refine r_iload_n hc dX2_enter_46 rfl ?_
    exact e_i hc hr hlk h dX2_enter_47
theorem iX2_measureOf_X2 : ∀ w ∈ u_ws RX2 TX2 5, w ∈ wsX2_measureOf := by decide +kernel
theorem fX2_measureOf_15 : Cond.fieldLink RX2 15 (TX2 1).1 (TX2 1).2.1 (TX2 1).2.2.1 ∈ wsX2_measureOf := by decide +kernel
set_option maxHeartbeats 4000000 in
set_option maxRecDepth 100000 in
theorem zX2_measureOf {cy : Nat → ClassId} {ad : Nat → Nat} {n : Nat} {D : va_G} {A : Nat → Prop} {l : Launch} (hn : 29 ≤ n) (σ : St) (x1 : Int32) : Ci TC cy ad n D A l yX2_measureOf wsX2_measureOf rmX2_measureOf σ [.ref (ad 18), .int x1] (fun Q => vX2_measureOf Q σ x1) := by
  intro Q h
  refine startW (cc := cX2_measureOf) (nL := 2) (own := RX2) (lo := [some (.ref (ad 18)), some (.int x1)]) (by decide) rfl rfl (lo_start (av := [.ref (ad 18), .int x1]) (k := 0) (allc1_ok (l := [.ref (ad 18), .int x1]) trivial)) (Nat.le_of_ble_eq_true rfl) (fun p e s m args below meth c hc hr hlk => ?_)
  unfold vX2_measureOf at h
  refine r_aload_n hc dX2_measureOf_0 rfl ?_
  refine r_iload_n hc dX2_measureOf_1 rfl ?_
  refine r_callVi hc (zX2_has hn σ x1) h (Nat.lt_of_lt_of_le (by decide) hn) rfl rfl rfl (cwV 1 hc.2.2.2.2.1 gX2_measureOf_X2_has rfl rfl rfl qX2_has ⟨Nat.le_of_ble_eq_true rfl, Nat.le_of_ble_eq_true rfl⟩) rfl rfl (Nat.le_of_ble_eq_true rfl) dX2_measureOf_2 (fun r2 σ1 h => ?_)
  refine r_if_eq (tgt := 17) hc dX2_measureOf_5 (by decide) (fun hq3 => ?_) (fun hq3 => ?_)
  · replace h := h.1 hq3
    refine r_iconst (v := 0) hc dX2_measureOf_17 (by decide) ?_
    exact e_i hc hr hlk h dX2_measureOf_18
  · replace h := h.2 hq3
    refine r_aload_n hc dX2_measureOf_8 rfl ?_
    refine r_get (v := .ref (ad 20)) hc iX2_measureOf_X2 (Nat.lt_of_lt_of_le (by decide) hn) rfl rfl rfl 1 (by decide) fX2_measureOf_15 rfl dX2_measureOf_9 ?_
    refine r_iload_n hc dX2_measureOf_12 rfl ?_
    refine r_iald hc (Nat.lt_of_lt_of_le (by decide) hn) rfl rfl h.1 dX2_measureOf_13 ?_
    replace h := h.2
    refine r_goto (tgt := 18) hc dX2_measureOf_14 (by decide) ?_
    exact e_i hc hr hlk h dX2_measureOf_18
theorem iX2_strike_X2 : ∀ w ∈ u_ws RX2 TX2 5, w ∈ wsX2_strike := by decide +kernel
theorem fX2_strike_18 : Cond.fieldLink RX2 18 (TX2 2).1 (TX2 2).2.1 (TX2 2).2.2.1 ∈ wsX2_strike := by decide +kernel
theorem fX2_strike_26 : Cond.fieldLink RX2 26 (TX2 4).1 (TX2 4).2.1 (TX2 4).2.2.1 ∈ wsX2_strike := by decide +kernel
set_option maxHeartbeats 4000000 in
set_option maxRecDepth 100000 in
theorem zX2_strike {cy : Nat → ClassId} {ad : Nat → Nat} {n : Nat} {D : va_G} {A : Nat → Prop} {l : Launch} (hn : 29 ≤ n) (σ : St) (x1 : Int32) : Ci TC cy ad n D A l yX2_strike wsX2_strike rmX2_strike σ [.ref (ad 18), .int x1] (fun Q => vX2_strike Q σ x1) := by
  intro Q h
  refine startW (cc := cX2_strike) (nL := 2) (own := RX2) (lo := [some (.ref (ad 18)), some (.int x1)]) (by decide) rfl rfl (lo_start (av := [.ref (ad 18), .int x1]) (k := 0) (allc1_ok (l := [.ref (ad 18), .int x1]) trivial)) (Nat.le_of_ble_eq_true rfl) (fun p e s m args below meth c hc hr hlk => ?_)
  unfold vX2_strike at h
  refine r_aload_n hc dX2_strike_0 rfl ?_
  refine r_iload_n hc dX2_strike_1 rfl ?_
  refine r_callVi hc (zX2_isThere hn σ x1) h (Nat.lt_of_lt_of_le (by decide) hn) rfl rfl rfl (cwV 1 hc.2.2.2.2.1 gX2_strike_X2_isThere rfl rfl rfl qX2_isThere ⟨Nat.le_of_ble_eq_true rfl, Nat.le_of_ble_eq_true rfl⟩) rfl rfl (Nat.le_of_ble_eq_true rfl) dX2_strike_2 (fun r2 σ1 h => ?_)
  refine r_if_eq (tgt := 25) hc dX2_strike_5 (by decide) (fun hq7 => ?_) (fun hq7 => ?_)
  · replace h := h.1 hq7
    refine r_aload_n hc dX2_strike_25 rfl ?_
    refine r_iload_n hc dX2_strike_26 rfl ?_
    refine r_callVi hc (zX2_measureOf hn σ1 x1) h (Nat.lt_of_lt_of_le (by decide) hn) rfl rfl rfl (cwV 1 hc.2.2.2.2.1 gX2_strike_X2_measureOf rfl rfl rfl qX2_measureOf ⟨Nat.le_of_ble_eq_true rfl, Nat.le_of_ble_eq_true rfl⟩) rfl rfl (Nat.le_of_ble_eq_true rfl) dX2_strike_27 (fun r4 σ3 h => ?_)
    exact e_i hc hr hlk h dX2_strike_30
  · replace h := h.2 hq7
    refine r_aload_n hc dX2_strike_8 rfl ?_
    refine r_get (v := .ref (ad 21)) hc iX2_strike_X2 (Nat.lt_of_lt_of_le (by decide) hn) rfl rfl rfl 2 (by decide) fX2_strike_18 rfl dX2_strike_9 ?_
    refine r_iload_n hc dX2_strike_12 rfl ?_
    refine r_iconst (v := 1) hc dX2_strike_13 (by decide) ?_
    refine r_zast hc (Nat.lt_of_lt_of_le (by decide) hn) rfl rfl h.1 dX2_strike_14 ?_
    replace h := h.2
    refine r_aload_n hc dX2_strike_15 rfl ?_
    refine r_dup hc dX2_strike_16 rfl ?_
    refine r_get (v := .int (rd (wr σ1 21 x1.toNatClampNeg (vp_nar .boolean 1)) 18 4)) hc iX2_strike_X2 (Nat.lt_of_lt_of_le (by decide) hn) rfl rfl rfl 4 (by decide) fX2_strike_26 rfl dX2_strike_17 ?_
    refine r_iconst (v := 1) hc dX2_strike_20 (by decide) ?_
    refine r_isub hc dX2_strike_21 ?_
    refine r_put hc iX2_strike_X2 tyX2_ok nmX2 (Nat.lt_of_lt_of_le (by decide) hn) rfl rfl rfl 4 (by decide) (Nat.le_of_ble_eq_true rfl) fX2_strike_26 rfl (by decide +kernel) rfl dX2_strike_22 ?_
    refine r_aload_n hc dX2_strike_25 rfl ?_
    refine r_iload_n hc dX2_strike_26 rfl ?_
    refine r_callVi hc (zX2_measureOf hn (wr (wr σ1 21 x1.toNatClampNeg (vp_nar .boolean 1)) 18 4 ((rd (wr σ1 21 x1.toNatClampNeg (vp_nar .boolean 1)) 18 4) - 1)) x1) h (Nat.lt_of_lt_of_le (by decide) hn) rfl rfl rfl (cwV 1 hc.2.2.2.2.1 gX2_strike_X2_measureOf rfl rfl rfl qX2_measureOf ⟨Nat.le_of_ble_eq_true rfl, Nat.le_of_ble_eq_true rfl⟩) rfl rfl (Nat.le_of_ble_eq_true rfl) dX2_strike_27 (fun r6 σ5 h => ?_)
    exact e_i hc hr hlk h dX2_strike_30
theorem iX3_at_X3 : ∀ w ∈ u_ws RX3 TX3 2, w ∈ wsX3_at := by decide +kernel
theorem fX3_at_19 : Cond.fieldLink RX3 19 (TX3 1).1 (TX3 1).2.1 (TX3 1).2.2.1 ∈ wsX3_at := by decide +kernel
theorem fX3_at_9 : Cond.fieldLink RX3 9 (TX3 0).1 (TX3 0).2.1 (TX3 0).2.2.1 ∈ wsX3_at := by decide +kernel
set_option maxHeartbeats 4000000 in
set_option maxRecDepth 100000 in
theorem tvX3_at_L4 {cy : Nat → ClassId} {ad : Nat → Nat} {n : Nat} {D : va_G} {A : Nat → Prop} {l : Launch} {p : Program} {e : Env} {s : State} {m : MethodId} {args : Array Value} {below : List Frame} {meth : Method} {c : Code} {Q : Int32 → St → Prop} (hn : 29 ≤ n) (hc : CX p s m args c D cy cX3_at 4 RX3 wsX3_at) (hr : meth.sig.returnType = some .int) (hlk : meth.locks = false) : ∀ (q4 : Nat) (σ : St) (x1 : Int32) (x2 : Int32) (x3 : Int32), vX3_at_L4 Q q4 σ x1 x2 x3 → WV TC cy ad n D A p l e rmX3_at s m args below meth c 4 (MQ below (va_Qi Q (Bw TC cy ad n D) A) args s 0 0 A) σ [some (.ref (ad 27)), some (.int x1), some (.int x2), some (.int x3)] [] 4 := by
  intro q4
  induction q4 with
  | zero =>
    intro σ x1 x2 x3 h
    exact h.elim
  | succ q4 ih =>
    intro σ x1 x2 x3 h
    unfold vX3_at_L4 at h
    refine r_iload_n hc dX3_at_4 rfl ?_
    refine r_sipush (v := 4096) hc dX3_at_5 (by decide) ?_
    refine r_icmp_ge (tgt := 53) hc dX3_at_8 (by decide) (fun hq4 => ?_) (fun hq4 => ?_)
    · replace h := h.1 hq4
      refine r_iconst (v := (-1)) hc dX3_at_53 (by decide) ?_
      exact e_i hc hr hlk h dX3_at_54
    · replace h := h.2 hq4
      refine r_iload_n hc dX3_at_11 rfl ?_
      refine r_aload_n hc dX3_at_12 rfl ?_
      refine r_get (v := .int (rd σ 27 1)) hc iX3_at_X3 (Nat.lt_of_lt_of_le (by decide) hn) rfl rfl rfl 1 (by decide) fX3_at_19 rfl dX3_at_13 ?_
      refine r_icmp_ge (tgt := 53) hc dX3_at_16 (by decide) (fun hq3 => ?_) (fun hq3 => ?_)
      · replace h := h.1 hq3
        refine r_iconst (v := (-1)) hc dX3_at_53 (by decide) ?_
        exact e_i hc hr hlk h dX3_at_54
      · replace h := h.2 hq3
        refine r_aload_n hc dX3_at_19 rfl ?_
        refine r_get (v := .ref (ad 28)) hc iX3_at_X3 (Nat.lt_of_lt_of_le (by decide) hn) rfl rfl rfl 0 (by decide) fX3_at_9 rfl dX3_at_20 ?_
        refine r_iload_n hc dX3_at_23 rfl ?_
        refine r_bipush (v := 6) hc dX3_at_24 (by decide) ?_
        refine r_ishr hc dX3_at_26 ?_
        refine r_lald hc (Nat.lt_of_lt_of_le (by decide) hn) rfl rfl h.1 dX3_at_27 ?_
        replace h := h.2
        refine r_lconst (v := 1) hc dX3_at_28 (by decide) ?_
        refine r_iload_n hc dX3_at_29 rfl ?_
        refine r_lshl hc dX3_at_30 ?_
        refine r_land hc dX3_at_31 ?_
        refine r_lconst (v := 0) hc dX3_at_32 (by decide) ?_
        refine r_lcmp hc dX3_at_33 ?_
        refine r_if_eq (tgt := 47) hc dX3_at_34 (by decide) (fun hq2 => ?_) (fun hq2 => ?_)
        · replace h := h.1 hq2
          refine r_iinc (v := x3 + 1) hc dX3_at_47 rfl rfl (by decide) (ss (ss (s1 trivial))) ?_
          refine r_goto (tgt := 4) hc dX3_at_50 (by decide) ?_
          exact r_weak (wk (wk (wk (wk w0)))) (ih _ _ _ _ h)
        · replace h := h.2 hq2
          refine r_iload_n hc dX3_at_37 rfl ?_
          refine r_iload_n hc dX3_at_38 rfl ?_
          refine r_icmp_ne (tgt := 44) hc dX3_at_39 (by decide) (fun hq1 => ?_) (fun hq1 => ?_)
          · replace h := h.1 hq1
            refine r_iload_n hc dX3_at_42 rfl ?_
            exact e_i hc hr hlk h dX3_at_43
          · replace h := h.2 hq1
            refine r_iinc (v := x2 + 1) hc dX3_at_44 rfl rfl (by decide) (ss (s1 trivial)) ?_
            refine r_iinc (v := x3 + 1) hc dX3_at_47 rfl rfl (by decide) (ss (ss (s1 trivial))) ?_
            refine r_goto (tgt := 4) hc dX3_at_50 (by decide) ?_
            exact r_weak (wk (wk (wk (wk w0)))) (ih _ _ _ _ h)
set_option maxHeartbeats 4000000 in
set_option maxRecDepth 100000 in
theorem zX3_at {cy : Nat → ClassId} {ad : Nat → Nat} {n : Nat} {D : va_G} {A : Nat → Prop} {l : Launch} (hn : 29 ≤ n) (σ : St) (x1 : Int32) : Ci TC cy ad n D A l yX3_at wsX3_at rmX3_at σ [.ref (ad 27), .int x1] (fun Q => vX3_at Q σ x1) := by
  intro Q h
  refine startW (cc := cX3_at) (nL := 4) (own := RX3) (lo := [some (.ref (ad 27)), some (.int x1), none, none]) (by decide) rfl rfl (lo_start (av := [.ref (ad 27), .int x1]) (k := 2) (allc1_ok (l := [.ref (ad 27), .int x1]) trivial)) (Nat.le_of_ble_eq_true rfl) (fun p e s m args below meth c hc hr hlk => ?_)
  unfold vX3_at at h
  refine r_iconst (v := 0) hc dX3_at_0 (by decide) ?_
  refine r_istore_n hc dX3_at_1 rfl (by decide) (ss (s1 trivial)) ?_
  refine r_iconst (v := 0) hc dX3_at_2 (by decide) ?_
  refine r_istore_n hc dX3_at_3 rfl (by decide) (ss (ss (s1 trivial))) ?_
  obtain ⟨e4, h⟩ := h
  exact r_weak (wk (wk (wk (wk w0)))) (tvX3_at_L4 hn hc hr hlk e4 _ _ _ _ h)
set_option maxHeartbeats 4000000 in
set_option maxRecDepth 100000 in
theorem zX4_canServe {cy : Nat → ClassId} {ad : Nat → Nat} {n : Nat} {D : va_G} {A : Nat → Prop} {l : Launch} (hn : 49 ≤ n) (σ : St) (x1 : Int32) (x2 : Int32) : Ci TC cy ad n D A l yX4_canServe wsX4_canServe rmX4_canServe σ [.ref (ad 22), .int x1, .int x2] (fun Q => vX4_canServe Q σ x1 x2) := by
  intro Q h
  refine startW (cc := cX4_canServe) (nL := 3) (own := RX4) (lo := [some (.ref (ad 22)), some (.int x1), some (.int x2)]) (by decide) rfl rfl (lo_start (av := [.ref (ad 22), .int x1, .int x2]) (k := 0) (allc1_ok (l := [.ref (ad 22), .int x1, .int x2]) trivial)) (Nat.le_of_ble_eq_true rfl) (fun p e s m args below meth c hc hr hlk => ?_)
  unfold vX4_canServe at h
  refine r_aload_n hc dX4_canServe_0 rfl ?_
  refine r_iload_n hc dX4_canServe_1 rfl ?_
  refine r_callVi hc (zX4_levelsOf hn σ x1) h (Nat.lt_of_lt_of_le (by decide) hn) rfl rfl rfl (cwV 1 hc.2.2.2.2.1 gX4_canServe_X4_levelsOf rfl rfl rfl qX4_levelsOf ⟨Nat.le_of_ble_eq_true rfl, Nat.le_of_ble_eq_true rfl⟩) rfl rfl (Nat.le_of_ble_eq_true rfl) dX4_canServe_2 (fun r2 σ1 h => ?_)
  refine r_aload_n hc dX4_canServe_5 rfl ?_
  refine r_iload_n hc dX4_canServe_6 rfl ?_
  refine r_callVi hc (zX4_levelsOf hn σ1 x2) h (Nat.lt_of_lt_of_le (by decide) hn) rfl rfl rfl (cwV 1 hc.2.2.2.2.1 gX4_canServe_X4_levelsOf rfl rfl rfl qX4_levelsOf ⟨Nat.le_of_ble_eq_true rfl, Nat.le_of_ble_eq_true rfl⟩) rfl rfl (Nat.le_of_ble_eq_true rfl) dX4_canServe_7 (fun r4 σ3 h => ?_)
  refine r_callSi hc (zX6_isNowhereAbove (Nat.le_trans (by decide) hn) σ3 r2 r4) h (va_cwS 2 hc.2.2.2.2.1 gX4_canServe_X6_isNowhereAbove rfl rfl rfl qX6_isNowhereAbove ⟨Nat.le_of_ble_eq_true rfl, Nat.le_of_ble_eq_true rfl⟩) rfl rfl (Nat.le_of_ble_eq_true rfl) dX4_canServe_10 (fun r6 σ5 h => ?_)
  exact e_z hc hr hlk h.1 h.2 dX4_canServe_13
theorem iX4_keepOnlyFirst_X4 : ∀ w ∈ u_ws RX4 TX4 8, w ∈ wsX4_keepOnlyFirst := by decide +kernel
theorem fX4_keepOnlyFirst_18 : Cond.fieldLink RX4 18 (TX4 4).1 (TX4 4).2.1 (TX4 4).2.2.1 ∈ wsX4_keepOnlyFirst := by decide +kernel
set_option maxHeartbeats 4000000 in
set_option maxRecDepth 100000 in
theorem tvX4_keepOnlyFirst_L2 {cy : Nat → ClassId} {ad : Nat → Nat} {n : Nat} {D : va_G} {A : Nat → Prop} {l : Launch} {p : Program} {e : Env} {s : State} {m : MethodId} {args : Array Value} {below : List Frame} {meth : Method} {c : Code} {Q : St → Prop} (hn : 29 ≤ n) (hc : CX p s m args c D cy cX4_keepOnlyFirst 2 RX4 wsX4_keepOnlyFirst) (hr : meth.sig.returnType = none) (hlk : meth.locks = false) : ∀ (q2 : Nat) (σ : St) (x1 : Int32), vX4_keepOnlyFirst_L2 Q q2 σ x1 → WV TC cy ad n D A p l e rmX4_keepOnlyFirst s m args below meth c 2 (MQ below (va_Qv Q (Bw TC cy ad n D) A) args s 0 0 A) σ [some (.ref (ad 22)), some (.int x1)] [] 2 := by
  intro q2
  induction q2 with
  | zero =>
    intro σ x1 h
    exact h.elim
  | succ q2 ih =>
    intro σ x1 h
    unfold vX4_keepOnlyFirst_L2 at h
    refine r_iload_n hc dX4_keepOnlyFirst_2 rfl ?_
    refine r_sipush (v := 256) hc dX4_keepOnlyFirst_3 (by decide) ?_
    refine r_icmp_ge (tgt := 30) hc dX4_keepOnlyFirst_6 (by decide) (fun hq2 => ?_) (fun hq2 => ?_)
    · replace h := h.1 hq2
      exact e_v hc hr hlk h dX4_keepOnlyFirst_30
    · replace h := h.2 hq2
      refine r_aload_n hc dX4_keepOnlyFirst_9 rfl ?_
      refine r_get (v := .ref (ad 25)) hc iX4_keepOnlyFirst_X4 (Nat.lt_of_lt_of_le (by decide) hn) rfl rfl rfl 4 (by decide) fX4_keepOnlyFirst_18 rfl dX4_keepOnlyFirst_10 ?_
      refine r_iload_n hc dX4_keepOnlyFirst_13 rfl ?_
      refine r_iload_n hc dX4_keepOnlyFirst_14 rfl ?_
      refine r_if_ne (tgt := 22) hc dX4_keepOnlyFirst_15 (by decide) (fun hq1 => ?_) (fun hq1 => ?_)
      · replace h := h.1 hq1
        refine r_iconst (v := 1) hc dX4_keepOnlyFirst_18 (by decide) ?_
        refine r_goto (tgt := 23) hc dX4_keepOnlyFirst_19 (by decide) ?_
        refine r_zast hc (Nat.lt_of_lt_of_le (by decide) hn) rfl rfl h.1 dX4_keepOnlyFirst_23 ?_
        replace h := h.2
        refine r_iinc (v := x1 + 1) hc dX4_keepOnlyFirst_24 rfl rfl (by decide) (s1 trivial) ?_
        refine r_goto (tgt := 2) hc dX4_keepOnlyFirst_27 (by decide) ?_
        exact r_weak (wk (wk w0)) (ih _ _ h)
      · replace h := h.2 hq1
        refine r_iconst (v := 0) hc dX4_keepOnlyFirst_22 (by decide) ?_
        refine r_zast hc (Nat.lt_of_lt_of_le (by decide) hn) rfl rfl h.1 dX4_keepOnlyFirst_23 ?_
        replace h := h.2
        refine r_iinc (v := x1 + 1) hc dX4_keepOnlyFirst_24 rfl rfl (by decide) (s1 trivial) ?_
        refine r_goto (tgt := 2) hc dX4_keepOnlyFirst_27 (by decide) ?_
        exact r_weak (wk (wk w0)) (ih _ _ h)
set_option maxHeartbeats 4000000 in
set_option maxRecDepth 100000 in
theorem zX4_keepOnlyFirst {cy : Nat → ClassId} {ad : Nat → Nat} {n : Nat} {D : va_G} {A : Nat → Prop} {l : Launch} (hn : 29 ≤ n) (σ : St) : Cv TC cy ad n D A l yX4_keepOnlyFirst wsX4_keepOnlyFirst rmX4_keepOnlyFirst σ [.ref (ad 22)] (fun Q => vX4_keepOnlyFirst Q σ ) := by
  intro Q h
  refine startW (cc := cX4_keepOnlyFirst) (nL := 2) (own := RX4) (lo := [some (.ref (ad 22)), none]) (by decide) rfl rfl (lo_start (av := [.ref (ad 22)]) (k := 1) (allc1_ok (l := [.ref (ad 22)]) trivial)) (Nat.le_of_ble_eq_true rfl) (fun p e s m args below meth c hc hr hlk => ?_)
  unfold vX4_keepOnlyFirst at h
  refine r_iconst (v := 0) hc dX4_keepOnlyFirst_0 (by decide) ?_
  refine r_istore_n hc dX4_keepOnlyFirst_1 rfl (by decide) (s1 trivial) ?_
  obtain ⟨e2, h⟩ := h
  exact r_weak (wk (wk w0)) (tvX4_keepOnlyFirst_L2 hn hc hr hlk e2 _ _ h)
theorem iX4_mark_X4 : ∀ w ∈ u_ws RX4 TX4 8, w ∈ wsX4_mark := by decide +kernel
theorem fX4_mark_18 : Cond.fieldLink RX4 18 (TX4 4).1 (TX4 4).2.1 (TX4 4).2.2.1 ∈ wsX4_mark := by decide +kernel
set_option maxHeartbeats 4000000 in
set_option maxRecDepth 100000 in
theorem zX4_mark {cy : Nat → ClassId} {ad : Nat → Nat} {n : Nat} {D : va_G} {A : Nat → Prop} {l : Launch} (hn : 49 ≤ n) (σ : St) (x1 : Int32) (x2 : Int32) : Ci TC cy ad n D A l yX4_mark wsX4_mark rmX4_mark σ [.ref (ad 22), .int x1, .int x2] (fun Q => vX4_mark Q σ x1 x2) := by
  intro Q h
  refine startW (cc := cX4_mark) (nL := 3) (own := RX4) (lo := [some (.ref (ad 22)), some (.int x1), some (.int x2)]) (by decide) rfl rfl (lo_start (av := [.ref (ad 22), .int x1, .int x2]) (k := 0) (allc1_ok (l := [.ref (ad 22), .int x1, .int x2]) trivial)) (Nat.le_of_ble_eq_true rfl) (fun p e s m args below meth c hc hr hlk => ?_)
  unfold vX4_mark at h
  refine r_aload_n hc dX4_mark_0 rfl ?_
  refine r_iload_n hc dX4_mark_1 rfl ?_
  refine r_callVi hc (zX4_has hn σ x1) h (Nat.lt_of_lt_of_le (by decide) hn) rfl rfl rfl (cwV 1 hc.2.2.2.2.1 gX4_mark_X4_has rfl rfl rfl qX4_has ⟨Nat.le_of_ble_eq_true rfl, Nat.le_of_ble_eq_true rfl⟩) rfl rfl (Nat.le_of_ble_eq_true rfl) dX4_mark_2 (fun r2 σ1 h => ?_)
  refine r_if_eq (tgt := 18) hc dX4_mark_5 (by decide) (fun hq4 => ?_) (fun hq4 => ?_)
  · replace h := h.1 hq4
    refine r_iconst (v := 0) hc dX4_mark_18 (by decide) ?_
    exact e_z hc hr hlk (by decide) h dX4_mark_19
  · replace h := h.2 hq4
    refine r_aload_n hc dX4_mark_8 rfl ?_
    refine r_get (v := .ref (ad 25)) hc iX4_mark_X4 (Nat.lt_of_lt_of_le (by decide) hn) rfl rfl rfl 4 (by decide) fX4_mark_18 rfl dX4_mark_9 ?_
    refine r_iload_n hc dX4_mark_12 rfl ?_
    refine r_zald hc (Nat.lt_of_lt_of_le (by decide) hn) rfl rfl h.1 dX4_mark_13 ?_
    replace h := h.2
    refine r_iload_n hc dX4_mark_14 rfl ?_
    refine r_icmp_ne (tgt := 20) hc dX4_mark_15 (by decide) (fun hq3 => ?_) (fun hq3 => ?_)
    · replace h := h.1 hq3
      refine r_iconst (v := 0) hc dX4_mark_18 (by decide) ?_
      exact e_z hc hr hlk (by decide) h dX4_mark_19
    · replace h := h.2 hq3
      refine r_aload_n hc dX4_mark_20 rfl ?_
      refine r_get (v := .ref (ad 25)) hc iX4_mark_X4 (Nat.lt_of_lt_of_le (by decide) hn) rfl rfl rfl 4 (by decide) fX4_mark_18 rfl dX4_mark_21 ?_
      refine r_iload_n hc dX4_mark_24 rfl ?_
      refine r_iload_n hc dX4_mark_25 rfl ?_
      refine r_zast hc (Nat.lt_of_lt_of_le (by decide) hn) rfl rfl h.1 dX4_mark_26 ?_
      replace h := h.2
      refine r_iconst (v := 1) hc dX4_mark_27 (by decide) ?_
      exact e_z hc hr hlk (by decide) h dX4_mark_28
theorem iX4_worthMost_X4 : ∀ w ∈ u_ws RX4 TX4 8, w ∈ wsX4_worthMost := by decide +kernel
theorem fX4_worthMost_55 : Cond.fieldLink RX4 55 (TX4 7).1 (TX4 7).2.1 (TX4 7).2.2.1 ∈ wsX4_worthMost := by decide +kernel
theorem fX4_worthMost_22 : Cond.fieldLink RX4 22 (TX4 5).1 (TX4 5).2.1 (TX4 5).2.2.1 ∈ wsX4_worthMost := by decide +kernel
set_option maxHeartbeats 4000000 in
set_option maxRecDepth 100000 in
theorem tvX4_worthMost_L6 {cy : Nat → ClassId} {ad : Nat → Nat} {n : Nat} {D : va_G} {A : Nat → Prop} {l : Launch} {p : Program} {e : Env} {s : State} {m : MethodId} {args : Array Value} {below : List Frame} {meth : Method} {c : Code} {Q : Int32 → St → Prop} (hn : 49 ≤ n) (hc : CX p s m args c D cy cX4_worthMost 5 RX4 wsX4_worthMost) (hr : meth.sig.returnType = some .int) (hlk : meth.locks = false) : ∀ (q6 : Nat) (σ : St) (x1 : Int32) (x2 : Int32) (x3 : Int32), vX4_worthMost_L6 Q q6 σ x1 x2 x3 → WV TC cy ad n D A p l e rmX4_worthMost s m args below meth c 5 (MQ below (va_Qi Q (Bw TC cy ad n D) A) args s 0 0 A) σ [some (.ref (ad 22)), some (.int x1), some (.int x2), some (.int x3), none] [] 6 := by
  intro q6
  induction q6 with
  | zero =>
    intro σ x1 x2 x3 h
    exact h.elim
  | succ q6 ih =>
    intro σ x1 x2 x3 h
    unfold vX4_worthMost_L6 at h
    refine r_iload_n hc dX4_worthMost_6 rfl ?_
    refine r_aload_n hc dX4_worthMost_7 rfl ?_
    refine r_get (v := .int (rd σ 22 7)) hc iX4_worthMost_X4 (Nat.lt_of_lt_of_le (by decide) hn) rfl rfl rfl 7 (by decide) fX4_worthMost_55 rfl dX4_worthMost_8 ?_
    refine r_icmp_ge (tgt := 42) hc dX4_worthMost_11 (by decide) (fun hq4 => ?_) (fun hq4 => ?_)
    · replace h := h.1 hq4
      refine r_iload_n hc dX4_worthMost_42 rfl ?_
      exact e_i hc hr hlk h dX4_worthMost_43
    · replace h := h.2 hq4
      refine r_aload_n hc dX4_worthMost_14 rfl ?_
      refine r_iload_n hc dX4_worthMost_15 rfl ?_
      refine r_aload_n hc dX4_worthMost_16 rfl ?_
      refine r_get (v := .ref (ad 26)) hc iX4_worthMost_X4 (Nat.lt_of_lt_of_le (by decide) hn) rfl rfl rfl 5 (by decide) fX4_worthMost_22 rfl dX4_worthMost_17 ?_
      refine r_callVi hc (zX4_sparedBy hn σ 26 x3) h (Nat.lt_of_lt_of_le (by decide) hn) rfl rfl rfl (cwV 2 hc.2.2.2.2.1 gX4_worthMost_X4_sparedBy rfl rfl rfl qX4_sparedBy ⟨Nat.le_of_ble_eq_true rfl, Nat.le_of_ble_eq_true rfl⟩) rfl rfl (Nat.le_of_ble_eq_true rfl) dX4_worthMost_20 (fun r2 σ1 h => ?_)
      refine r_istore hc dX4_worthMost_23 (by decide) (ss (ss (ss (s1 trivial)))) ?_
      refine r_iload hc dX4_worthMost_25 rfl ?_
      refine r_iload_n hc dX4_worthMost_27 rfl ?_
      refine r_icmp_le (tgt := 36) hc dX4_worthMost_28 (by decide) (fun hq3 => ?_) (fun hq3 => ?_)
      · replace h := h.1 hq3
        refine r_iinc (v := x3 + 1) hc dX4_worthMost_36 rfl rfl (by decide) (ss (ss (s1 trivial))) ?_
        refine r_goto (tgt := 6) hc dX4_worthMost_39 (by decide) ?_
        exact r_weak (wk (wk (wk (wk (wn w0))))) (ih _ _ _ _ h)
      · replace h := h.2 hq3
        refine r_iload_n hc dX4_worthMost_31 rfl ?_
        refine r_istore_n hc dX4_worthMost_32 rfl (by decide) (s1 trivial) ?_
        refine r_iload hc dX4_worthMost_33 rfl ?_
        refine r_istore_n hc dX4_worthMost_35 rfl (by decide) (ss (s1 trivial)) ?_
        refine r_iinc (v := x3 + 1) hc dX4_worthMost_36 rfl rfl (by decide) (ss (ss (s1 trivial))) ?_
        refine r_goto (tgt := 6) hc dX4_worthMost_39 (by decide) ?_
        exact r_weak (wk (wk (wk (wk (wn w0))))) (ih _ _ _ _ h)
set_option maxHeartbeats 4000000 in
set_option maxRecDepth 100000 in
theorem zX4_worthMost {cy : Nat → ClassId} {ad : Nat → Nat} {n : Nat} {D : va_G} {A : Nat → Prop} {l : Launch} (hn : 49 ≤ n) (σ : St) : Ci TC cy ad n D A l yX4_worthMost wsX4_worthMost rmX4_worthMost σ [.ref (ad 22)] (fun Q => vX4_worthMost Q σ ) := by
  intro Q h
  refine startW (cc := cX4_worthMost) (nL := 5) (own := RX4) (lo := [some (.ref (ad 22)), none, none, none, none]) (by decide) rfl rfl (lo_start (av := [.ref (ad 22)]) (k := 4) (allc1_ok (l := [.ref (ad 22)]) trivial)) (Nat.le_of_ble_eq_true rfl) (fun p e s m args below meth c hc hr hlk => ?_)
  unfold vX4_worthMost at h
  refine r_iconst (v := 0) hc dX4_worthMost_0 (by decide) ?_
  refine r_istore_n hc dX4_worthMost_1 rfl (by decide) (s1 trivial) ?_
  refine r_iconst (v := 0) hc dX4_worthMost_2 (by decide) ?_
  refine r_istore_n hc dX4_worthMost_3 rfl (by decide) (ss (s1 trivial)) ?_
  refine r_iconst (v := 0) hc dX4_worthMost_4 (by decide) ?_
  refine r_istore_n hc dX4_worthMost_5 rfl (by decide) (ss (ss (s1 trivial))) ?_
  obtain ⟨e6, h⟩ := h
  exact r_weak (wk (wk (wk (wk (wn w0))))) (tvX4_worthMost_L6 hn hc hr hlk e6 _ _ _ _ h)
theorem iX4_chooseGreedily_X4 : ∀ w ∈ u_ws RX4 TX4 8, w ∈ wsX4_chooseGreedily := by decide +kernel
theorem fX4_chooseGreedily_22 : Cond.fieldLink RX4 22 (TX4 5).1 (TX4 5).2.1 (TX4 5).2.2.1 ∈ wsX4_chooseGreedily := by decide +kernel
set_option maxHeartbeats 4000000 in
set_option maxRecDepth 100000 in
theorem tvX4_chooseGreedily_L16 {cy : Nat → ClassId} {ad : Nat → Nat} {n : Nat} {D : va_G} {A : Nat → Prop} {l : Launch} {p : Program} {e : Env} {s : State} {m : MethodId} {args : Array Value} {below : List Frame} {meth : Method} {c : Code} {Q : Int32 → St → Prop} (hn : 49 ≤ n) (hc : CX p s m args c D cy cX4_chooseGreedily 6 RX4 wsX4_chooseGreedily) (hr : meth.sig.returnType = some .int) (hlk : meth.locks = false) : ∀ (q16 : Nat) (σ : St) (x1 : Int32) (x2 : Int32) (x3 : Int32), vX4_chooseGreedily_L16 Q q16 σ x1 x2 x3 → WV TC cy ad n D A p l e rmX4_chooseGreedily s m args below meth c 6 (MQ below (va_Qi Q (Bw TC cy ad n D) A) args s 0 0 A) σ [some (.ref (ad 22)), some (.int x1), some (.int x2), some (.int x3), none, none] [] 16 := by
  intro q16
  induction q16 with
  | zero =>
    intro σ x1 x2 x3 h
    exact h.elim
  | succ q16 ih =>
    intro σ x1 x2 x3 h
    unfold vX4_chooseGreedily_L16 at h
    refine r_iload_n hc dX4_chooseGreedily_16 rfl ?_
    refine r_iload_n hc dX4_chooseGreedily_17 rfl ?_
    refine r_icmp_ge (tgt := 80) hc dX4_chooseGreedily_18 (by decide) (fun hq11 => ?_) (fun hq11 => ?_)
    · replace h := h.1 hq11
      refine r_iload_n hc dX4_chooseGreedily_80 rfl ?_
      exact e_i hc hr hlk h dX4_chooseGreedily_81
    · replace h := h.2 hq11
      refine r_aload_n hc dX4_chooseGreedily_21 rfl ?_
      refine r_callVi hc (zX4_worthMost hn σ) h (Nat.lt_of_lt_of_le (by decide) hn) rfl rfl rfl (cwV 0 hc.2.2.2.2.1 gX4_chooseGreedily_X4_worthMost rfl rfl rfl qX4_worthMost ⟨Nat.le_of_ble_eq_true rfl, Nat.le_of_ble_eq_true rfl⟩) rfl rfl (Nat.le_of_ble_eq_true rfl) dX4_chooseGreedily_22 (fun r4 σ3 h => ?_)
      refine r_istore hc dX4_chooseGreedily_25 (by decide) (ss (ss (ss (s1 trivial)))) ?_
      refine r_aload_n hc dX4_chooseGreedily_27 rfl ?_
      refine r_iload hc dX4_chooseGreedily_28 rfl ?_
      refine r_aload_n hc dX4_chooseGreedily_30 rfl ?_
      refine r_get (v := .ref (ad 26)) hc iX4_chooseGreedily_X4 (Nat.lt_of_lt_of_le (by decide) hn) rfl rfl rfl 5 (by decide) fX4_chooseGreedily_22 rfl dX4_chooseGreedily_31 ?_
      refine r_callVi hc (zX4_sparedBy hn σ3 26 r4) h (Nat.lt_of_lt_of_le (by decide) hn) rfl rfl rfl (cwV 2 hc.2.2.2.2.1 gX4_chooseGreedily_X4_sparedBy rfl rfl rfl qX4_sparedBy ⟨Nat.le_of_ble_eq_true rfl, Nat.le_of_ble_eq_true rfl⟩) rfl rfl (Nat.le_of_ble_eq_true rfl) dX4_chooseGreedily_34 (fun r6 σ5 h => ?_)
      refine r_istore hc dX4_chooseGreedily_37 (by decide) (ss (ss (ss (ss (s1 trivial))))) ?_
      refine r_iload hc dX4_chooseGreedily_39 rfl ?_
      refine r_if_gt (tgt := 47) hc dX4_chooseGreedily_41 (by decide) (fun hq10 => ?_) (fun hq10 => ?_)
      · replace h := h.1 hq10
        refine r_aload_n hc dX4_chooseGreedily_47 rfl ?_
        refine r_iload hc dX4_chooseGreedily_48 rfl ?_
        refine r_iconst (v := 1) hc dX4_chooseGreedily_50 (by decide) ?_
        refine r_callVi hc (zX4_mark hn σ5 r4 1) h (Nat.lt_of_lt_of_le (by decide) hn) rfl rfl rfl (cwV 2 hc.2.2.2.2.1 gX4_chooseGreedily_X4_mark rfl rfl rfl qX4_mark ⟨Nat.le_of_ble_eq_true rfl, Nat.le_of_ble_eq_true rfl⟩) rfl rfl (Nat.le_of_ble_eq_true rfl) dX4_chooseGreedily_51 (fun r8 σ7 h => ?_)
        refine r_pop hc dX4_chooseGreedily_54 rfl ?_
        refine r_aload_n hc dX4_chooseGreedily_55 rfl ?_
        refine r_aload_n hc dX4_chooseGreedily_56 rfl ?_
        refine r_get (v := .ref (ad 26)) hc iX4_chooseGreedily_X4 (Nat.lt_of_lt_of_le (by decide) hn) rfl rfl rfl 5 (by decide) fX4_chooseGreedily_22 rfl dX4_chooseGreedily_57 ?_
        refine r_aload_n hc dX4_chooseGreedily_60 rfl ?_
        refine r_get (v := .ref (ad 26)) hc iX4_chooseGreedily_X4 (Nat.lt_of_lt_of_le (by decide) hn) rfl rfl rfl 5 (by decide) fX4_chooseGreedily_22 rfl dX4_chooseGreedily_61 ?_
        refine r_iload hc dX4_chooseGreedily_64 rfl ?_
        refine r_callVv hc (zX4_lower hn σ7 26 26 r4) h (Nat.lt_of_lt_of_le (by decide) hn) rfl rfl rfl (cwV 3 hc.2.2.2.2.1 gX4_chooseGreedily_X4_lower rfl rfl rfl qX4_lower ⟨Nat.le_of_ble_eq_true rfl, Nat.le_of_ble_eq_true rfl⟩) rfl rfl (Nat.le_of_ble_eq_true rfl) dX4_chooseGreedily_66 (fun σ9 h => ?_)
        refine r_iload_n hc dX4_chooseGreedily_69 rfl ?_
        refine r_iload hc dX4_chooseGreedily_70 rfl ?_
        refine r_iadd hc dX4_chooseGreedily_72 ?_
        refine r_istore_n hc dX4_chooseGreedily_73 rfl (by decide) (ss (s1 trivial)) ?_
        refine r_iinc (v := x3 + 1) hc dX4_chooseGreedily_74 rfl rfl (by decide) (ss (ss (s1 trivial))) ?_
        refine r_goto (tgt := 16) hc dX4_chooseGreedily_77 (by decide) ?_
        exact r_weak (wk (wk (wk (wk (wn (wn w0)))))) (ih _ _ _ _ h)
      · replace h := h.2 hq10
        refine r_goto (tgt := 80) hc dX4_chooseGreedily_44 (by decide) ?_
        refine r_iload_n hc dX4_chooseGreedily_80 rfl ?_
        exact e_i hc hr hlk h dX4_chooseGreedily_81
set_option maxHeartbeats 4000000 in
set_option maxRecDepth 100000 in
theorem zX4_chooseGreedily {cy : Nat → ClassId} {ad : Nat → Nat} {n : Nat} {D : va_G} {A : Nat → Prop} {l : Launch} (hn : 49 ≤ n) (σ : St) (x1 : Int32) : Ci TC cy ad n D A l yX4_chooseGreedily wsX4_chooseGreedily rmX4_chooseGreedily σ [.ref (ad 22), .int x1] (fun Q => vX4_chooseGreedily Q σ x1) := by
  intro Q h
  refine startW (cc := cX4_chooseGreedily) (nL := 6) (own := RX4) (lo := [some (.ref (ad 22)), some (.int x1), none, none, none, none]) (by decide) rfl rfl (lo_start (av := [.ref (ad 22), .int x1]) (k := 4) (allc1_ok (l := [.ref (ad 22), .int x1]) trivial)) (Nat.le_of_ble_eq_true rfl) (fun p e s m args below meth c hc hr hlk => ?_)
  unfold vX4_chooseGreedily at h
  refine r_aload_n hc dX4_chooseGreedily_0 rfl ?_
  refine r_callVv hc (zX4_keepOnlyFirst (Nat.le_trans (by decide) hn) σ) h (Nat.lt_of_lt_of_le (by decide) hn) rfl rfl rfl (cwV 0 hc.2.2.2.2.1 gX4_chooseGreedily_X4_keepOnlyFirst rfl rfl rfl qX4_keepOnlyFirst ⟨Nat.le_of_ble_eq_true rfl, Nat.le_of_ble_eq_true rfl⟩) rfl rfl (Nat.le_of_ble_eq_true rfl) dX4_chooseGreedily_1 (fun σ1 h => ?_)
  refine r_aload_n hc dX4_chooseGreedily_4 rfl ?_
  refine r_aload_n hc dX4_chooseGreedily_5 rfl ?_
  refine r_get (v := .ref (ad 26)) hc iX4_chooseGreedily_X4 (Nat.lt_of_lt_of_le (by decide) hn) rfl rfl rfl 5 (by decide) fX4_chooseGreedily_22 rfl dX4_chooseGreedily_6 ?_
  refine r_callVv hc (zX4_fillBare hn σ1 26) h (Nat.lt_of_lt_of_le (by decide) hn) rfl rfl rfl (cwV 1 hc.2.2.2.2.1 gX4_chooseGreedily_X4_fillBare rfl rfl rfl qX4_fillBare ⟨Nat.le_of_ble_eq_true rfl, Nat.le_of_ble_eq_true rfl⟩) rfl rfl (Nat.le_of_ble_eq_true rfl) dX4_chooseGreedily_9 (fun σ2 h => ?_)
  refine r_iconst (v := 0) hc dX4_chooseGreedily_12 (by decide) ?_
  refine r_istore_n hc dX4_chooseGreedily_13 rfl (by decide) (ss (s1 trivial)) ?_
  refine r_iconst (v := 0) hc dX4_chooseGreedily_14 (by decide) ?_
  refine r_istore_n hc dX4_chooseGreedily_15 rfl (by decide) (ss (ss (s1 trivial))) ?_
  obtain ⟨e16, h⟩ := h
  exact r_weak (wk (wk (wk (wk (wn (wn w0)))))) (tvX4_chooseGreedily_L16 hn hc hr hlk e16 _ _ _ _ h)

set_option maxHeartbeats 4000000 in
set_option maxRecDepth 100000 in
theorem zX9_isSide {cy : Nat → ClassId} {ad : Nat → Nat} {n : Nat} {D : va_G} {A : Nat → Prop} {l : Launch} (hn : 17 ≤ n) (σ : St) (x1 : Int32) : Ci TR cy ad n D A l yX9_isSide wsX9_isSide rmX9_isSide σ [.ref (ad 0), .int x1] (fun Q => vX9_isSide Q σ x1) := by
  intro Q h
  refine startW (cc := cX9_isSide) (nL := 2) (own := RX9) (lo := [some (.ref (ad 0)), some (.int x1)]) (by decide) rfl rfl (lo_start (av := [.ref (ad 0), .int x1]) (k := 0) (allc1_ok (l := [.ref (ad 0), .int x1]) trivial)) (Nat.le_of_ble_eq_true rfl) (fun p e s m args below meth c hc hr hlk => ?_)
  unfold vX9_isSide at h
  refine r_iload_n hc dX9_isSide_0 rfl ?_
  refine r_if_lt (tgt := 34) hc dX9_isSide_1 (by decide) (fun hq7 => ?_) (fun hq7 => ?_)
  · replace h := h.1 hq7
    refine r_iconst (v := 0) hc dX9_isSide_34 (by decide) ?_
    exact e_z hc hr hlk (by decide) h dX9_isSide_35
  · replace h := h.2 hq7
    refine r_aload_n hc dX9_isSide_4 rfl ?_
    refine r_iload_n hc dX9_isSide_5 rfl ?_
    refine r_bipush (v := 10) hc dX9_isSide_6 (by decide) ?_
    refine r_idiv hc dX9_isSide_8 (by decide) ?_
    refine r_callVi hc (zX9_isDimension hn σ (x1 / 10)) h (Nat.lt_of_lt_of_le (by decide) hn) rfl rfl rfl (cwV 1 hc.2.2.2.2.1 gX9_isSide_X9_isDimension rfl rfl rfl qX9_isDimension ⟨Nat.le_of_ble_eq_true rfl, Nat.le_of_ble_eq_true rfl⟩) rfl rfl (Nat.le_of_ble_eq_true rfl) dX9_isSide_9 (fun r2 σ1 h => ?_)
    refine r_if_eq (tgt := 34) hc dX9_isSide_12 (by decide) (fun hq6 => ?_) (fun hq6 => ?_)
    · replace h := h.1 hq6
      refine r_iconst (v := 0) hc dX9_isSide_34 (by decide) ?_
      exact e_z hc hr hlk (by decide) h dX9_isSide_35
    · replace h := h.2 hq6
      refine r_aload_n hc dX9_isSide_15 rfl ?_
      refine r_iload_n hc dX9_isSide_16 rfl ?_
      refine r_bipush (v := 10) hc dX9_isSide_17 (by decide) ?_
      refine r_idiv hc dX9_isSide_19 (by decide) ?_
      refine r_iload_n hc dX9_isSide_20 rfl ?_
      refine r_bipush (v := 10) hc dX9_isSide_21 (by decide) ?_
      refine r_irem hc dX9_isSide_23 (by decide) ?_
      refine r_callVi hc (zX9_many hn σ1 (x1 / 10) (x1 - x1 / 10 * 10)) h (Nat.lt_of_lt_of_le (by decide) hn) rfl rfl rfl (cwV 2 hc.2.2.2.2.1 gX9_isSide_X9_many rfl rfl rfl qX9_many ⟨Nat.le_of_ble_eq_true rfl, Nat.le_of_ble_eq_true rfl⟩) rfl rfl (Nat.le_of_ble_eq_true rfl) dX9_isSide_24 (fun r4 σ3 h => ?_)
      refine r_if_le (tgt := 34) hc dX9_isSide_27 (by decide) (fun hq5 => ?_) (fun hq5 => ?_)
      · replace h := h.1 hq5
        refine r_iconst (v := 0) hc dX9_isSide_34 (by decide) ?_
        exact e_z hc hr hlk (by decide) h dX9_isSide_35
      · replace h := h.2 hq5
        refine r_iconst (v := 1) hc dX9_isSide_30 (by decide) ?_
        refine r_goto (tgt := 35) hc dX9_isSide_31 (by decide) ?_
        exact e_z hc hr hlk (by decide) h dX9_isSide_35
theorem iX9_keep_X9 : ∀ w ∈ u_ws RX9 TX9 25, w ∈ wsX9_keep := by decide +kernel
theorem fX9_keep_60 : Cond.fieldLink RX9 60 (TX9 0).1 (TX9 0).2.1 (TX9 0).2.2.1 ∈ wsX9_keep := by decide +kernel
theorem oX9_keep_74 : Jvm.Cond.constant RX9 74 (-2000000002) ∈ wsX9_keep := by decide +kernel
theorem oX9_keep_75 : Jvm.Cond.constant RX9 75 (-2000000003) ∈ wsX9_keep := by decide +kernel
theorem fX9_keep_38 : Cond.fieldLink RX9 38 (TX9 12).1 (TX9 12).2.1 (TX9 12).2.2.1 ∈ wsX9_keep := by decide +kernel
set_option maxHeartbeats 4000000 in
set_option maxRecDepth 100000 in
theorem tvX9_keep_J27 {cy : Nat → ClassId} {ad : Nat → Nat} {n : Nat} {D : va_G} {A : Nat → Prop} {l : Launch} {p : Program} {e : Env} {s : State} {m : MethodId} {args : Array Value} {below : List Frame} {meth : Method} {c : Code} {Q : Int32 → St → Prop} (hn : 17 ≤ n) (hc : CX p s m args c D cy cX9_keep 4 RX9 wsX9_keep) (hr : meth.sig.returnType = some .int) (hlk : meth.locks = false) : ∀ (σ : St) (x1 : Int32) (x2 : Int32), vX9_keep_J27 Q σ x1 x2 → WV TR cy ad n D A p l e rmX9_keep s m args below meth c 4 (MQ below (va_Qi Q (Bw TR cy ad n D) A) args s 0 0 A) σ [some (.ref (ad 0)), some (.int x1), some (.int x2), none] [] 27 := by
  intro σ x1 x2 h
  unfold vX9_keep_J27 at h
  refine r_aload_n hc dX9_keep_27 rfl ?_
  refine r_get (v := .ref (ad 10)) hc iX9_keep_X9 (Nat.lt_of_lt_of_le (by decide) hn) rfl rfl rfl 12 (by decide) fX9_keep_38 rfl dX9_keep_28 ?_
  refine r_iload_n hc dX9_keep_31 rfl ?_
  refine r_zald hc (Nat.lt_of_lt_of_le (by decide) hn) rfl rfl h.1 dX9_keep_32 ?_
  replace h := h.2
  refine r_istore_n hc dX9_keep_33 rfl (by decide) (ss (ss (s1 trivial))) ?_
  refine r_aload_n hc dX9_keep_34 rfl ?_
  refine r_get (v := .ref (ad 10)) hc iX9_keep_X9 (Nat.lt_of_lt_of_le (by decide) hn) rfl rfl rfl 12 (by decide) fX9_keep_38 rfl dX9_keep_35 ?_
  refine r_iload_n hc dX9_keep_38 rfl ?_
  refine r_iload_n hc dX9_keep_39 rfl ?_
  refine r_zast hc (Nat.lt_of_lt_of_le (by decide) hn) rfl rfl h.1 dX9_keep_40 ?_
  replace h := h.2
  refine r_iload_n hc dX9_keep_41 rfl ?_
  refine r_iload_n hc dX9_keep_42 rfl ?_
  refine r_icmp_eq (tgt := 50) hc dX9_keep_43 (by decide) (fun hq6 => ?_) (fun hq6 => ?_)
  · replace h := h.1 hq6
    refine r_iconst (v := 0) hc dX9_keep_50 (by decide) ?_
    exact e_i hc hr hlk h dX9_keep_51
  · replace h := h.2 hq6
    refine r_iconst (v := 1) hc dX9_keep_46 (by decide) ?_
    refine r_goto (tgt := 51) hc dX9_keep_47 (by decide) ?_
    exact e_i hc hr hlk h dX9_keep_51
set_option maxHeartbeats 4000000 in
set_option maxRecDepth 100000 in
theorem zX9_keep {cy : Nat → ClassId} {ad : Nat → Nat} {n : Nat} {D : va_G} {A : Nat → Prop} {l : Launch} (hn : 17 ≤ n) (σ : St) (x1 : Int32) (x2 : Int32) : Ci TR cy ad n D A l yX9_keep wsX9_keep rmX9_keep σ [.ref (ad 0), .int x1, .int x2] (fun Q => vX9_keep Q σ x1 x2) := by
  intro Q h
  refine startW (cc := cX9_keep) (nL := 4) (own := RX9) (lo := [some (.ref (ad 0)), some (.int x1), some (.int x2), none]) (by decide) rfl rfl (lo_start (av := [.ref (ad 0), .int x1, .int x2]) (k := 1) (allc1_ok (l := [.ref (ad 0), .int x1, .int x2]) trivial)) (Nat.le_of_ble_eq_true rfl) (fun p e s m args below meth c hc hr hlk => ?_)
  unfold vX9_keep at h
  refine r_aload_n hc dX9_keep_0 rfl ?_
  refine r_iconst (v := 0) hc dX9_keep_1 (by decide) ?_
  refine r_put hc iX9_keep_X9 tyX9_ok nmX9 (Nat.lt_of_lt_of_le (by decide) hn) rfl rfl rfl 0 (by decide) (Nat.le_of_ble_eq_true rfl) fX9_keep_60 rfl (by decide +kernel) rfl dX9_keep_2 ?_
  refine r_aload_n hc dX9_keep_5 rfl ?_
  refine r_iload_n hc dX9_keep_6 rfl ?_
  refine r_callVi hc (zX9_isCuboid hn (wr σ 0 0 0) x1) h (Nat.lt_of_lt_of_le (by decide) hn) rfl rfl rfl (cwV 1 hc.2.2.2.2.1 gX9_keep_X9_isCuboid rfl rfl rfl qX9_isCuboid ⟨Nat.le_of_ble_eq_true rfl, Nat.le_of_ble_eq_true rfl⟩) rfl rfl (Nat.le_of_ble_eq_true rfl) dX9_keep_7 (fun r2 σ1 h => ?_)
  refine r_if_ne (tgt := 16) hc dX9_keep_10 (by decide) (fun hq5 => ?_) (fun hq5 => ?_)
  · replace h := h.1 hq5
    refine r_ldc (v := (-2000000002)) hc dX9_keep_13 oX9_keep_74 ?_
    exact e_i hc hr hlk h dX9_keep_15
  · replace h := h.2 hq5
    refine r_iload_n hc dX9_keep_16 rfl ?_
    refine r_if_ne (tgt := 27) hc dX9_keep_17 (by decide) (fun hq4 => ?_) (fun hq4 => ?_)
    · replace h := h.1 hq4
      refine r_iload_n hc dX9_keep_20 rfl ?_
      refine r_if_ne (tgt := 27) hc dX9_keep_21 (by decide) (fun hq3 => ?_) (fun hq3 => ?_)
      · replace h := h.1 hq3
        refine r_ldc (v := (-2000000003)) hc dX9_keep_24 oX9_keep_75 ?_
        exact e_i hc hr hlk h dX9_keep_26
      · replace h := h.2 hq3
        exact r_weak (wk (wk (wk (wn w0)))) (tvX9_keep_J27 hn hc hr hlk _ _ _ h)
    · replace h := h.2 hq4
      exact r_weak (wk (wk (wk (wn w0)))) (tvX9_keep_J27 hn hc hr hlk _ _ _ h)
theorem iX9_kept_X9 : ∀ w ∈ u_ws RX9 TX9 25, w ∈ wsX9_kept := by decide +kernel
theorem fX9_kept_60 : Cond.fieldLink RX9 60 (TX9 0).1 (TX9 0).2.1 (TX9 0).2.2.1 ∈ wsX9_kept := by decide +kernel
theorem oX9_kept_74 : Jvm.Cond.constant RX9 74 (-2000000002) ∈ wsX9_kept := by decide +kernel
theorem fX9_kept_38 : Cond.fieldLink RX9 38 (TX9 12).1 (TX9 12).2.1 (TX9 12).2.2.1 ∈ wsX9_kept := by decide +kernel
set_option maxHeartbeats 4000000 in
set_option maxRecDepth 100000 in
theorem zX9_kept {cy : Nat → ClassId} {ad : Nat → Nat} {n : Nat} {D : va_G} {A : Nat → Prop} {l : Launch} (hn : 17 ≤ n) (σ : St) (x1 : Int32) : Ci TR cy ad n D A l yX9_kept wsX9_kept rmX9_kept σ [.ref (ad 0), .int x1] (fun Q => vX9_kept Q σ x1) := by
  intro Q h
  refine startW (cc := cX9_kept) (nL := 2) (own := RX9) (lo := [some (.ref (ad 0)), some (.int x1)]) (by decide) rfl rfl (lo_start (av := [.ref (ad 0), .int x1]) (k := 0) (allc1_ok (l := [.ref (ad 0), .int x1]) trivial)) (Nat.le_of_ble_eq_true rfl) (fun p e s m args below meth c hc hr hlk => ?_)
  unfold vX9_kept at h
  refine r_aload_n hc dX9_kept_0 rfl ?_
  refine r_iconst (v := 0) hc dX9_kept_1 (by decide) ?_
  refine r_put hc iX9_kept_X9 tyX9_ok nmX9 (Nat.lt_of_lt_of_le (by decide) hn) rfl rfl rfl 0 (by decide) (Nat.le_of_ble_eq_true rfl) fX9_kept_60 rfl (by decide +kernel) rfl dX9_kept_2 ?_
  refine r_aload_n hc dX9_kept_5 rfl ?_
  refine r_iload_n hc dX9_kept_6 rfl ?_
  refine r_callVi hc (zX9_isCuboid hn (wr σ 0 0 0) x1) h (Nat.lt_of_lt_of_le (by decide) hn) rfl rfl rfl (cwV 1 hc.2.2.2.2.1 gX9_kept_X9_isCuboid rfl rfl rfl qX9_isCuboid ⟨Nat.le_of_ble_eq_true rfl, Nat.le_of_ble_eq_true rfl⟩) rfl rfl (Nat.le_of_ble_eq_true rfl) dX9_kept_7 (fun r2 σ1 h => ?_)
  refine r_if_ne (tgt := 18) hc dX9_kept_10 (by decide) (fun hq4 => ?_) (fun hq4 => ?_)
  · replace h := h.1 hq4
    refine r_ldc (v := (-2000000002)) hc dX9_kept_13 oX9_kept_74 ?_
    refine r_goto (tgt := 32) hc dX9_kept_15 (by decide) ?_
    exact e_i hc hr hlk h dX9_kept_32
  · replace h := h.2 hq4
    refine r_aload_n hc dX9_kept_18 rfl ?_
    refine r_get (v := .ref (ad 10)) hc iX9_kept_X9 (Nat.lt_of_lt_of_le (by decide) hn) rfl rfl rfl 12 (by decide) fX9_kept_38 rfl dX9_kept_19 ?_
    refine r_iload_n hc dX9_kept_22 rfl ?_
    refine r_zald hc (Nat.lt_of_lt_of_le (by decide) hn) rfl rfl h.1 dX9_kept_23 ?_
    replace h := h.2
    refine r_if_eq (tgt := 31) hc dX9_kept_24 (by decide) (fun hq3 => ?_) (fun hq3 => ?_)
    · replace h := h.1 hq3
      refine r_iconst (v := 0) hc dX9_kept_31 (by decide) ?_
      exact e_i hc hr hlk h dX9_kept_32
    · replace h := h.2 hq3
      refine r_iconst (v := 1) hc dX9_kept_27 (by decide) ?_
      refine r_goto (tgt := 32) hc dX9_kept_28 (by decide) ?_
      exact e_i hc hr hlk h dX9_kept_32
theorem iX9_level_X9 : ∀ w ∈ u_ws RX9 TX9 25, w ∈ wsX9_level := by decide +kernel
theorem fX9_level_60 : Cond.fieldLink RX9 60 (TX9 0).1 (TX9 0).2.1 (TX9 0).2.2.1 ∈ wsX9_level := by decide +kernel
theorem oX9_level_74 : Jvm.Cond.constant RX9 74 (-2000000002) ∈ wsX9_level := by decide +kernel
theorem fX9_level_13 : Cond.fieldLink RX9 13 (TX9 3).1 (TX9 3).2.1 (TX9 3).2.2.1 ∈ wsX9_level := by decide +kernel
theorem fX9_level_7 : Cond.fieldLink RX9 7 (TX9 2).1 (TX9 2).2.1 (TX9 2).2.2.1 ∈ wsX9_level := by decide +kernel
theorem fX9_level_71 : Cond.fieldLink RX9 71 (TX9 5).1 (TX9 5).2.1 (TX9 5).2.2.1 ∈ wsX9_level := by decide +kernel
theorem oX9_level_76 : Jvm.Cond.constant RX9 76 (-2000000004) ∈ wsX9_level := by decide +kernel
theorem fX9_level_32 : Cond.fieldLink RX9 32 (TX9 10).1 (TX9 10).2.1 (TX9 10).2.2.1 ∈ wsX9_level := by decide +kernel
theorem fX9_level_35 : Cond.fieldLink RX9 35 (TX9 11).1 (TX9 11).2.1 (TX9 11).2.2.1 ∈ wsX9_level := by decide +kernel
theorem oX9_level_75 : Jvm.Cond.constant RX9 75 (-2000000003) ∈ wsX9_level := by decide +kernel
set_option maxHeartbeats 4000000 in
set_option maxRecDepth 100000 in
theorem zX9_level {cy : Nat → ClassId} {ad : Nat → Nat} {n : Nat} {D : va_G} {A : Nat → Prop} {l : Launch} (hn : 17 ≤ n) (σ : St) (x1 : Int32) (x2 : Int32) : Ci TR cy ad n D A l yX9_level wsX9_level rmX9_level σ [.ref (ad 0), .int x1, .int x2] (fun Q => vX9_level Q σ x1 x2) := by
  intro Q h
  refine startW (cc := cX9_level) (nL := 3) (own := RX9) (lo := [some (.ref (ad 0)), some (.int x1), some (.int x2)]) (by decide) rfl rfl (lo_start (av := [.ref (ad 0), .int x1, .int x2]) (k := 0) (allc1_ok (l := [.ref (ad 0), .int x1, .int x2]) trivial)) (Nat.le_of_ble_eq_true rfl) (fun p e s m args below meth c hc hr hlk => ?_)
  unfold vX9_level at h
  refine r_aload_n hc dX9_level_0 rfl ?_
  refine r_iconst (v := 0) hc dX9_level_1 (by decide) ?_
  refine r_put hc iX9_level_X9 tyX9_ok nmX9 (Nat.lt_of_lt_of_le (by decide) hn) rfl rfl rfl 0 (by decide) (Nat.le_of_ble_eq_true rfl) fX9_level_60 rfl (by decide +kernel) rfl dX9_level_2 ?_
  refine r_aload_n hc dX9_level_5 rfl ?_
  refine r_iload_n hc dX9_level_6 rfl ?_
  refine r_callVi hc (zX9_isDimension hn (wr σ 0 0 0) x1) h (Nat.lt_of_lt_of_le (by decide) hn) rfl rfl rfl (cwV 1 hc.2.2.2.2.1 gX9_level_X9_isDimension rfl rfl rfl qX9_isDimension ⟨Nat.le_of_ble_eq_true rfl, Nat.le_of_ble_eq_true rfl⟩) rfl rfl (Nat.le_of_ble_eq_true rfl) dX9_level_7 (fun r2 σ1 h => ?_)
  refine r_if_eq (tgt := 38) hc dX9_level_10 (by decide) (fun hq9 => ?_) (fun hq9 => ?_)
  · replace h := h.1 hq9
    refine r_ldc (v := (-2000000002)) hc dX9_level_38 oX9_level_74 ?_
    exact e_i hc hr hlk h dX9_level_40
  · replace h := h.2 hq9
    refine r_iload_n hc dX9_level_13 rfl ?_
    refine r_iconst (v := 1) hc dX9_level_14 (by decide) ?_
    refine r_aload_n hc dX9_level_15 rfl ?_
    refine r_get (v := .ref (ad 2)) hc iX9_level_X9 (Nat.lt_of_lt_of_le (by decide) hn) rfl rfl rfl 3 (by decide) fX9_level_13 rfl dX9_level_16 ?_
    refine r_iconst (v := 3) hc dX9_level_19 (by decide) ?_
    refine r_iload_n hc dX9_level_20 rfl ?_
    refine r_imul hc dX9_level_21 ?_
    refine r_aload_n hc dX9_level_22 rfl ?_
    refine r_get (v := .ref (ad 1)) hc iX9_level_X9 (Nat.lt_of_lt_of_le (by decide) hn) rfl rfl rfl 2 (by decide) fX9_level_7 rfl dX9_level_23 ?_
    refine r_iload_n hc dX9_level_26 rfl ?_
    refine r_iald hc (Nat.lt_of_lt_of_le (by decide) hn) rfl rfl h.1 dX9_level_27 ?_
    replace h := h.2
    refine r_iadd hc dX9_level_28 ?_
    refine r_iconst (v := 1) hc dX9_level_29 (by decide) ?_
    refine r_isub hc dX9_level_30 ?_
    refine r_iald hc (Nat.lt_of_lt_of_le (by decide) hn) rfl rfl h.1 dX9_level_31 ?_
    replace h := h.2
    refine r_callSi hc (zX9_in hn σ1 x2 1 (rd σ1 2 (((3 * x1) + (rd σ1 1 x1.toNatClampNeg)) - 1).toNatClampNeg)) h (va_cwS 3 hc.2.2.2.2.1 gX9_level_X9_in rfl rfl rfl qX9_in ⟨Nat.le_of_ble_eq_true rfl, Nat.le_of_ble_eq_true rfl⟩) rfl rfl (Nat.le_of_ble_eq_true rfl) dX9_level_32 (fun r4 σ3 h => ?_)
    refine r_if_ne (tgt := 41) hc dX9_level_35 (by decide) (fun hq8 => ?_) (fun hq8 => ?_)
    · replace h := h.1 hq8
      refine r_ldc (v := (-2000000002)) hc dX9_level_38 oX9_level_74 ?_
      exact e_i hc hr hlk h dX9_level_40
    · replace h := h.2 hq8
      refine r_aload_n hc dX9_level_41 rfl ?_
      refine r_get (v := .int (rd σ3 0 5)) hc iX9_level_X9 (Nat.lt_of_lt_of_le (by decide) hn) rfl rfl rfl 5 (by decide) fX9_level_71 rfl dX9_level_42 ?_
      refine r_if_le (tgt := 51) hc dX9_level_45 (by decide) (fun hq7 => ?_) (fun hq7 => ?_)
      · replace h := h.1 hq7
        refine r_aload_n hc dX9_level_51 rfl ?_
        refine r_get (v := .ref (ad 1)) hc iX9_level_X9 (Nat.lt_of_lt_of_le (by decide) hn) rfl rfl rfl 2 (by decide) fX9_level_7 rfl dX9_level_52 ?_
        refine r_iload_n hc dX9_level_55 rfl ?_
        refine r_iald hc (Nat.lt_of_lt_of_le (by decide) hn) rfl rfl h.1 dX9_level_56 ?_
        replace h := h.2
        refine r_iconst (v := 3) hc dX9_level_57 (by decide) ?_
        refine r_icmp_ne (tgt := 64) hc dX9_level_58 (by decide) (fun hq6 => ?_) (fun hq6 => ?_)
        · replace h := h.1 hq6
          refine r_ldc (v := (-2000000004)) hc dX9_level_61 oX9_level_76 ?_
          exact e_i hc hr hlk h dX9_level_63
        · replace h := h.2 hq6
          refine r_aload_n hc dX9_level_64 rfl ?_
          refine r_get (v := .ref (ad 2)) hc iX9_level_X9 (Nat.lt_of_lt_of_le (by decide) hn) rfl rfl rfl 3 (by decide) fX9_level_13 rfl dX9_level_65 ?_
          refine r_iconst (v := 3) hc dX9_level_68 (by decide) ?_
          refine r_iload_n hc dX9_level_69 rfl ?_
          refine r_imul hc dX9_level_70 ?_
          refine r_aload_n hc dX9_level_71 rfl ?_
          refine r_get (v := .ref (ad 1)) hc iX9_level_X9 (Nat.lt_of_lt_of_le (by decide) hn) rfl rfl rfl 2 (by decide) fX9_level_7 rfl dX9_level_72 ?_
          refine r_iload_n hc dX9_level_75 rfl ?_
          refine r_iald hc (Nat.lt_of_lt_of_le (by decide) hn) rfl rfl h.1 dX9_level_76 ?_
          replace h := h.2
          refine r_iadd hc dX9_level_77 ?_
          refine r_iload_n hc dX9_level_78 rfl ?_
          refine r_iast hc (Nat.lt_of_lt_of_le (by decide) hn) rfl rfl h.1 dX9_level_79 ?_
          replace h := h.2
          refine r_aload_n hc dX9_level_80 rfl ?_
          refine r_get (v := .ref (ad 1)) hc iX9_level_X9 (Nat.lt_of_lt_of_le (by decide) hn) rfl rfl rfl 2 (by decide) fX9_level_7 rfl dX9_level_81 ?_
          refine r_iload_n hc dX9_level_84 rfl ?_
          refine r_dup2 hc dX9_level_85 rfl rfl ?_
          refine r_iald hc (Nat.lt_of_lt_of_le (by decide) hn) rfl rfl h.1 dX9_level_86 ?_
          replace h := h.2
          refine r_iconst (v := 1) hc dX9_level_87 (by decide) ?_
          refine r_iadd hc dX9_level_88 ?_
          refine r_iast hc (Nat.lt_of_lt_of_le (by decide) hn) rfl rfl h.1 dX9_level_89 ?_
          replace h := h.2
          refine r_aload_n hc dX9_level_90 rfl ?_
          refine r_get (v := .ref (ad 8)) hc iX9_level_X9 (Nat.lt_of_lt_of_le (by decide) hn) rfl rfl rfl 10 (by decide) fX9_level_32 rfl dX9_level_91 ?_
          refine r_iload_n hc dX9_level_94 rfl ?_
          refine r_aload_n hc dX9_level_95 rfl ?_
          refine r_get (v := .ref (ad 1)) hc iX9_level_X9 (Nat.lt_of_lt_of_le (by decide) hn) rfl rfl rfl 2 (by decide) fX9_level_7 rfl dX9_level_96 ?_
          refine r_iload_n hc dX9_level_99 rfl ?_
          refine r_iald hc (Nat.lt_of_lt_of_le (by decide) hn) rfl rfl h.1 dX9_level_100 ?_
          replace h := h.2
          refine r_iast hc (Nat.lt_of_lt_of_le (by decide) hn) rfl rfl h.1 dX9_level_101 ?_
          replace h := h.2
          refine r_aload_n hc dX9_level_102 rfl ?_
          refine r_get (v := .ref (ad 9)) hc iX9_level_X9 (Nat.lt_of_lt_of_le (by decide) hn) rfl rfl rfl 11 (by decide) fX9_level_35 rfl dX9_level_103 ?_
          refine r_iload_n hc dX9_level_106 rfl ?_
          refine r_iconst (v := 0) hc dX9_level_107 (by decide) ?_
          refine r_iast hc (Nat.lt_of_lt_of_le (by decide) hn) rfl rfl h.1 dX9_level_108 ?_
          replace h := h.2
          refine r_aload_n hc dX9_level_109 rfl ?_
          refine r_callVv hc (zX9_keepNone hn (wr (wr (wr (wr σ3 2 ((3 * x1) + (rd σ3 1 x1.toNatClampNeg)).toNatClampNeg x2) 1 x1.toNatClampNeg ((rd (wr σ3 2 ((3 * x1) + (rd σ3 1 x1.toNatClampNeg)).toNatClampNeg x2) 1 x1.toNatClampNeg) + 1)) 8 x1.toNatClampNeg (rd (wr (wr σ3 2 ((3 * x1) + (rd σ3 1 x1.toNatClampNeg)).toNatClampNeg x2) 1 x1.toNatClampNeg ((rd (wr σ3 2 ((3 * x1) + (rd σ3 1 x1.toNatClampNeg)).toNatClampNeg x2) 1 x1.toNatClampNeg) + 1)) 1 x1.toNatClampNeg)) 9 x1.toNatClampNeg 0)) h (Nat.lt_of_lt_of_le (by decide) hn) rfl rfl rfl (cwV 0 hc.2.2.2.2.1 gX9_level_X9_keepNone rfl rfl rfl qX9_keepNone ⟨Nat.le_of_ble_eq_true rfl, Nat.le_of_ble_eq_true rfl⟩) rfl rfl (Nat.le_of_ble_eq_true rfl) dX9_level_110 (fun σ5 h => ?_)
          refine r_aload_n hc dX9_level_113 rfl ?_
          refine r_get (v := .ref (ad 1)) hc iX9_level_X9 (Nat.lt_of_lt_of_le (by decide) hn) rfl rfl rfl 2 (by decide) fX9_level_7 rfl dX9_level_114 ?_
          refine r_iload_n hc dX9_level_117 rfl ?_
          refine r_iald hc (Nat.lt_of_lt_of_le (by decide) hn) rfl rfl h.1 dX9_level_118 ?_
          replace h := h.2
          refine r_iconst (v := 1) hc dX9_level_119 (by decide) ?_
          refine r_isub hc dX9_level_120 ?_
          exact e_i hc hr hlk h dX9_level_121
      · replace h := h.2 hq7
        refine r_ldc (v := (-2000000003)) hc dX9_level_48 oX9_level_75 ?_
        exact e_i hc hr hlk h dX9_level_50
theorem iX9_levelOf_X9 : ∀ w ∈ u_ws RX9 TX9 25, w ∈ wsX9_levelOf := by decide +kernel
theorem fX9_levelOf_60 : Cond.fieldLink RX9 60 (TX9 0).1 (TX9 0).2.1 (TX9 0).2.2.1 ∈ wsX9_levelOf := by decide +kernel
theorem oX9_levelOf_74 : Jvm.Cond.constant RX9 74 (-2000000002) ∈ wsX9_levelOf := by decide +kernel
set_option maxHeartbeats 4000000 in
set_option maxRecDepth 100000 in
theorem zX9_levelOf {cy : Nat → ClassId} {ad : Nat → Nat} {n : Nat} {D : va_G} {A : Nat → Prop} {l : Launch} (hn : 17 ≤ n) (σ : St) (x1 : Int32) (x2 : Int32) : Ci TR cy ad n D A l yX9_levelOf wsX9_levelOf rmX9_levelOf σ [.ref (ad 0), .int x1, .int x2] (fun Q => vX9_levelOf Q σ x1 x2) := by
  intro Q h
  refine startW (cc := cX9_levelOf) (nL := 3) (own := RX9) (lo := [some (.ref (ad 0)), some (.int x1), some (.int x2)]) (by decide) rfl rfl (lo_start (av := [.ref (ad 0), .int x1, .int x2]) (k := 0) (allc1_ok (l := [.ref (ad 0), .int x1, .int x2]) trivial)) (Nat.le_of_ble_eq_true rfl) (fun p e s m args below meth c hc hr hlk => ?_)
  unfold vX9_levelOf at h
  refine r_aload_n hc dX9_levelOf_0 rfl ?_
  refine r_iconst (v := 0) hc dX9_levelOf_1 (by decide) ?_
  refine r_put hc iX9_levelOf_X9 tyX9_ok nmX9 (Nat.lt_of_lt_of_le (by decide) hn) rfl rfl rfl 0 (by decide) (Nat.le_of_ble_eq_true rfl) fX9_levelOf_60 rfl (by decide +kernel) rfl dX9_levelOf_2 ?_
  refine r_aload_n hc dX9_levelOf_5 rfl ?_
  refine r_iload_n hc dX9_levelOf_6 rfl ?_
  refine r_callVi hc (zX9_isCuboid hn (wr σ 0 0 0) x1) h (Nat.lt_of_lt_of_le (by decide) hn) rfl rfl rfl (cwV 1 hc.2.2.2.2.1 gX9_levelOf_X9_isCuboid rfl rfl rfl qX9_isCuboid ⟨Nat.le_of_ble_eq_true rfl, Nat.le_of_ble_eq_true rfl⟩) rfl rfl (Nat.le_of_ble_eq_true rfl) dX9_levelOf_7 (fun r2 σ1 h => ?_)
  refine r_if_eq (tgt := 30) hc dX9_levelOf_10 (by decide) (fun hq8 => ?_) (fun hq8 => ?_)
  · replace h := h.1 hq8
    refine r_ldc (v := (-2000000002)) hc dX9_levelOf_30 oX9_levelOf_74 ?_
    exact e_i hc hr hlk h dX9_levelOf_32
  · replace h := h.2 hq8
    refine r_aload_n hc dX9_levelOf_13 rfl ?_
    refine r_iload_n hc dX9_levelOf_14 rfl ?_
    refine r_callVi hc (zX9_isDimension hn σ1 x2) h (Nat.lt_of_lt_of_le (by decide) hn) rfl rfl rfl (cwV 1 hc.2.2.2.2.1 gX9_levelOf_X9_isDimension rfl rfl rfl qX9_isDimension ⟨Nat.le_of_ble_eq_true rfl, Nat.le_of_ble_eq_true rfl⟩) rfl rfl (Nat.le_of_ble_eq_true rfl) dX9_levelOf_15 (fun r4 σ3 h => ?_)
    refine r_if_eq (tgt := 30) hc dX9_levelOf_18 (by decide) (fun hq7 => ?_) (fun hq7 => ?_)
    · replace h := h.1 hq7
      refine r_ldc (v := (-2000000002)) hc dX9_levelOf_30 oX9_levelOf_74 ?_
      exact e_i hc hr hlk h dX9_levelOf_32
    · replace h := h.2 hq7
      refine r_aload_n hc dX9_levelOf_21 rfl ?_
      refine r_iload_n hc dX9_levelOf_22 rfl ?_
      refine r_iload_n hc dX9_levelOf_23 rfl ?_
      refine r_callVi hc (zX9_levelIn hn σ3 x1 x2) h (Nat.lt_of_lt_of_le (by decide) hn) rfl rfl rfl (cwV 2 hc.2.2.2.2.1 gX9_levelOf_X9_levelIn rfl rfl rfl qX9_levelIn ⟨Nat.le_of_ble_eq_true rfl, Nat.le_of_ble_eq_true rfl⟩) rfl rfl (Nat.le_of_ble_eq_true rfl) dX9_levelOf_24 (fun r6 σ5 h => ?_)
      refine r_goto (tgt := 32) hc dX9_levelOf_27 (by decide) ?_
      exact e_i hc hr hlk h dX9_levelOf_32
theorem iX9_lies_X9 : ∀ w ∈ u_ws RX9 TX9 25, w ∈ wsX9_lies := by decide +kernel
theorem fX9_lies_60 : Cond.fieldLink RX9 60 (TX9 0).1 (TX9 0).2.1 (TX9 0).2.2.1 ∈ wsX9_lies := by decide +kernel
theorem oX9_lies_74 : Jvm.Cond.constant RX9 74 (-2000000002) ∈ wsX9_lies := by decide +kernel
set_option maxHeartbeats 4000000 in
set_option maxRecDepth 100000 in
theorem zX9_lies {cy : Nat → ClassId} {ad : Nat → Nat} {n : Nat} {D : va_G} {A : Nat → Prop} {l : Launch} (hn : 17 ≤ n) (σ : St) (x1 : Int32) (x2 : Int32) (x3 : Int32) : Ci TR cy ad n D A l yX9_lies wsX9_lies rmX9_lies σ [.ref (ad 0), .int x1, .int x2, .int x3] (fun Q => vX9_lies Q σ x1 x2 x3) := by
  intro Q h
  refine startW (cc := cX9_lies) (nL := 4) (own := RX9) (lo := [some (.ref (ad 0)), some (.int x1), some (.int x2), some (.int x3)]) (by decide) rfl rfl (lo_start (av := [.ref (ad 0), .int x1, .int x2, .int x3]) (k := 0) (allc1_ok (l := [.ref (ad 0), .int x1, .int x2, .int x3]) trivial)) (Nat.le_of_ble_eq_true rfl) (fun p e s m args below meth c hc hr hlk => ?_)
  unfold vX9_lies at h
  refine r_aload_n hc dX9_lies_0 rfl ?_
  refine r_iconst (v := 0) hc dX9_lies_1 (by decide) ?_
  refine r_put hc iX9_lies_X9 tyX9_ok nmX9 (Nat.lt_of_lt_of_le (by decide) hn) rfl rfl rfl 0 (by decide) (Nat.le_of_ble_eq_true rfl) fX9_lies_60 rfl (by decide +kernel) rfl dX9_lies_2 ?_
  refine r_aload_n hc dX9_lies_5 rfl ?_
  refine r_iload_n hc dX9_lies_6 rfl ?_
  refine r_callVi hc (zX9_isDimension hn (wr σ 0 0 0) x1) h (Nat.lt_of_lt_of_le (by decide) hn) rfl rfl rfl (cwV 1 hc.2.2.2.2.1 gX9_lies_X9_isDimension rfl rfl rfl qX9_isDimension ⟨Nat.le_of_ble_eq_true rfl, Nat.le_of_ble_eq_true rfl⟩) rfl rfl (Nat.le_of_ble_eq_true rfl) dX9_lies_7 (fun r2 σ1 h => ?_)
  refine r_if_eq (tgt := 38) hc dX9_lies_10 (by decide) (fun hq13 => ?_) (fun hq13 => ?_)
  · replace h := h.1 hq13
    refine r_ldc (v := (-2000000002)) hc dX9_lies_38 oX9_lies_74 ?_
    exact e_i hc hr hlk h dX9_lies_40
  · replace h := h.2 hq13
    refine r_iload_n hc dX9_lies_13 rfl ?_
    refine r_iconst (v := 0) hc dX9_lies_14 (by decide) ?_
    refine r_aload_n hc dX9_lies_15 rfl ?_
    refine r_iload_n hc dX9_lies_16 rfl ?_
    refine r_iconst (v := 0) hc dX9_lies_17 (by decide) ?_
    refine r_callVi hc (zX9_many hn σ1 x1 0) h (Nat.lt_of_lt_of_le (by decide) hn) rfl rfl rfl (cwV 2 hc.2.2.2.2.1 gX9_lies_X9_many rfl rfl rfl qX9_many ⟨Nat.le_of_ble_eq_true rfl, Nat.le_of_ble_eq_true rfl⟩) rfl rfl (Nat.le_of_ble_eq_true rfl) dX9_lies_18 (fun r4 σ3 h => ?_)
    refine r_iconst (v := 1) hc dX9_lies_21 (by decide) ?_
    refine r_isub hc dX9_lies_22 ?_
    refine r_callSi hc (zX9_in hn σ3 x2 0 (r4 - 1)) h (va_cwS 3 hc.2.2.2.2.1 gX9_lies_X9_in rfl rfl rfl qX9_in ⟨Nat.le_of_ble_eq_true rfl, Nat.le_of_ble_eq_true rfl⟩) rfl rfl (Nat.le_of_ble_eq_true rfl) dX9_lies_23 (fun r6 σ5 h => ?_)
    refine r_if_eq (tgt := 38) hc dX9_lies_26 (by decide) (fun hq12 => ?_) (fun hq12 => ?_)
    · replace h := h.1 hq12
      refine r_ldc (v := (-2000000002)) hc dX9_lies_38 oX9_lies_74 ?_
      exact e_i hc hr hlk h dX9_lies_40
    · replace h := h.2 hq12
      refine r_aload_n hc dX9_lies_29 rfl ?_
      refine r_iload_n hc dX9_lies_30 rfl ?_
      refine r_iload_n hc dX9_lies_31 rfl ?_
      refine r_callVi hc (zX9_many hn σ5 x1 x3) h (Nat.lt_of_lt_of_le (by decide) hn) rfl rfl rfl (cwV 2 hc.2.2.2.2.1 gX9_lies_X9_many rfl rfl rfl qX9_many ⟨Nat.le_of_ble_eq_true rfl, Nat.le_of_ble_eq_true rfl⟩) rfl rfl (Nat.le_of_ble_eq_true rfl) dX9_lies_32 (fun r8 σ7 h => ?_)
      refine r_if_ne (tgt := 41) hc dX9_lies_35 (by decide) (fun hq11 => ?_) (fun hq11 => ?_)
      · replace h := h.1 hq11
        refine r_ldc (v := (-2000000002)) hc dX9_lies_38 oX9_lies_74 ?_
        exact e_i hc hr hlk h dX9_lies_40
      · replace h := h.2 hq11
        refine r_aload_n hc dX9_lies_41 rfl ?_
        refine r_iload_n hc dX9_lies_42 rfl ?_
        refine r_iload_n hc dX9_lies_43 rfl ?_
        refine r_iload_n hc dX9_lies_44 rfl ?_
        refine r_callVi hc (zX9_liesIn hn σ7 x1 x2 x3) h (Nat.lt_of_lt_of_le (by decide) hn) rfl rfl rfl (cwV 3 hc.2.2.2.2.1 gX9_lies_X9_liesIn rfl rfl rfl qX9_liesIn ⟨Nat.le_of_ble_eq_true rfl, Nat.le_of_ble_eq_true rfl⟩) rfl rfl (Nat.le_of_ble_eq_true rfl) dX9_lies_45 (fun r10 σ9 h => ?_)
        exact e_i hc hr hlk h dX9_lies_48
theorem iX9_members_X9 : ∀ w ∈ u_ws RX9 TX9 25, w ∈ wsX9_members := by decide +kernel
theorem fX9_members_60 : Cond.fieldLink RX9 60 (TX9 0).1 (TX9 0).2.1 (TX9 0).2.2.1 ∈ wsX9_members := by decide +kernel
theorem oX9_members_74 : Jvm.Cond.constant RX9 74 (-2000000002) ∈ wsX9_members := by decide +kernel
set_option maxHeartbeats 4000000 in
set_option maxRecDepth 100000 in
theorem zX9_members {cy : Nat → ClassId} {ad : Nat → Nat} {n : Nat} {D : va_G} {A : Nat → Prop} {l : Launch} (hn : 17 ≤ n) (σ : St) (x1 : Int32) (x2 : Int32) : Ci TR cy ad n D A l yX9_members wsX9_members rmX9_members σ [.ref (ad 0), .int x1, .int x2] (fun Q => vX9_members Q σ x1 x2) := by
  intro Q h
  refine startW (cc := cX9_members) (nL := 3) (own := RX9) (lo := [some (.ref (ad 0)), some (.int x1), some (.int x2)]) (by decide) rfl rfl (lo_start (av := [.ref (ad 0), .int x1, .int x2]) (k := 0) (allc1_ok (l := [.ref (ad 0), .int x1, .int x2]) trivial)) (Nat.le_of_ble_eq_true rfl) (fun p e s m args below meth c hc hr hlk => ?_)
  unfold vX9_members at h
  refine r_aload_n hc dX9_members_0 rfl ?_
  refine r_iconst (v := 0) hc dX9_members_1 (by decide) ?_
  refine r_put hc iX9_members_X9 tyX9_ok nmX9 (Nat.lt_of_lt_of_le (by decide) hn) rfl rfl rfl 0 (by decide) (Nat.le_of_ble_eq_true rfl) fX9_members_60 rfl (by decide +kernel) rfl dX9_members_2 ?_
  refine r_aload_n hc dX9_members_5 rfl ?_
  refine r_iload_n hc dX9_members_6 rfl ?_
  refine r_callVi hc (zX9_isDimension hn (wr σ 0 0 0) x1) h (Nat.lt_of_lt_of_le (by decide) hn) rfl rfl rfl (cwV 1 hc.2.2.2.2.1 gX9_members_X9_isDimension rfl rfl rfl qX9_isDimension ⟨Nat.le_of_ble_eq_true rfl, Nat.le_of_ble_eq_true rfl⟩) rfl rfl (Nat.le_of_ble_eq_true rfl) dX9_members_7 (fun r2 σ1 h => ?_)
  refine r_if_eq (tgt := 31) hc dX9_members_10 (by decide) (fun hq8 => ?_) (fun hq8 => ?_)
  · replace h := h.1 hq8
    refine r_ldc (v := (-2000000002)) hc dX9_members_31 oX9_members_74 ?_
    exact e_i hc hr hlk h dX9_members_33
  · replace h := h.2 hq8
    refine r_aload_n hc dX9_members_13 rfl ?_
    refine r_iload_n hc dX9_members_14 rfl ?_
    refine r_iload_n hc dX9_members_15 rfl ?_
    refine r_callVi hc (zX9_many hn σ1 x1 x2) h (Nat.lt_of_lt_of_le (by decide) hn) rfl rfl rfl (cwV 2 hc.2.2.2.2.1 gX9_members_X9_many rfl rfl rfl qX9_many ⟨Nat.le_of_ble_eq_true rfl, Nat.le_of_ble_eq_true rfl⟩) rfl rfl (Nat.le_of_ble_eq_true rfl) dX9_members_16 (fun r4 σ3 h => ?_)
    refine r_if_le (tgt := 31) hc dX9_members_19 (by decide) (fun hq7 => ?_) (fun hq7 => ?_)
    · replace h := h.1 hq7
      refine r_ldc (v := (-2000000002)) hc dX9_members_31 oX9_members_74 ?_
      exact e_i hc hr hlk h dX9_members_33
    · replace h := h.2 hq7
      refine r_aload_n hc dX9_members_22 rfl ?_
      refine r_iload_n hc dX9_members_23 rfl ?_
      refine r_iload_n hc dX9_members_24 rfl ?_
      refine r_callVi hc (zX9_many hn σ3 x1 x2) h (Nat.lt_of_lt_of_le (by decide) hn) rfl rfl rfl (cwV 2 hc.2.2.2.2.1 gX9_members_X9_many rfl rfl rfl qX9_many ⟨Nat.le_of_ble_eq_true rfl, Nat.le_of_ble_eq_true rfl⟩) rfl rfl (Nat.le_of_ble_eq_true rfl) dX9_members_25 (fun r6 σ5 h => ?_)
      refine r_goto (tgt := 33) hc dX9_members_28 (by decide) ?_
      exact e_i hc hr hlk h dX9_members_33
theorem iX9_out_X9 : ∀ w ∈ u_ws RX9 TX9 25, w ∈ wsX9_out := by decide +kernel
theorem fX9_out_60 : Cond.fieldLink RX9 60 (TX9 0).1 (TX9 0).2.1 (TX9 0).2.2.1 ∈ wsX9_out := by decide +kernel
theorem fX9_out_157 : Cond.fieldLink RX9 157 (TX9 15).1 (TX9 15).2.1 (TX9 15).2.2.1 ∈ wsX9_out := by decide +kernel
theorem oX9_out_150 : Jvm.Cond.constant RX9 150 (-2000000001) ∈ wsX9_out := by decide +kernel
theorem fX9_out_41 : Cond.fieldLink RX9 41 (TX9 14).1 (TX9 14).2.1 (TX9 14).2.2.1 ∈ wsX9_out := by decide +kernel
set_option maxHeartbeats 4000000 in
set_option maxRecDepth 100000 in
theorem zX9_out {cy : Nat → ClassId} {ad : Nat → Nat} {n : Nat} {D : va_G} {A : Nat → Prop} {l : Launch} (hn : 17 ≤ n) (σ : St) (x1 : Int32) : Ci TR cy ad n D A l yX9_out wsX9_out rmX9_out σ [.ref (ad 0), .int x1] (fun Q => vX9_out Q σ x1) := by
  intro Q h
  refine startW (cc := cX9_out) (nL := 2) (own := RX9) (lo := [some (.ref (ad 0)), some (.int x1)]) (by decide) rfl rfl (lo_start (av := [.ref (ad 0), .int x1]) (k := 0) (allc1_ok (l := [.ref (ad 0), .int x1]) trivial)) (Nat.le_of_ble_eq_true rfl) (fun p e s m args below meth c hc hr hlk => ?_)
  unfold vX9_out at h
  refine r_aload_n hc dX9_out_0 rfl ?_
  refine r_iconst (v := 0) hc dX9_out_1 (by decide) ?_
  refine r_put hc iX9_out_X9 tyX9_ok nmX9 (Nat.lt_of_lt_of_le (by decide) hn) rfl rfl rfl 0 (by decide) (Nat.le_of_ble_eq_true rfl) fX9_out_60 rfl (by decide +kernel) rfl dX9_out_2 ?_
  refine r_iload_n hc dX9_out_5 rfl ?_
  refine r_iconst (v := 0) hc dX9_out_6 (by decide) ?_
  refine r_aload_n hc dX9_out_7 rfl ?_
  refine r_get (v := .int (rd (wr σ 0 0 0) 0 15)) hc iX9_out_X9 (Nat.lt_of_lt_of_le (by decide) hn) rfl rfl rfl 15 (by decide) fX9_out_157 rfl dX9_out_8 ?_
  refine r_iconst (v := 1) hc dX9_out_11 (by decide) ?_
  refine r_isub hc dX9_out_12 ?_
  refine r_callSi hc (zX9_in hn (wr σ 0 0 0) x1 0 ((rd (wr σ 0 0 0) 0 15) - 1)) h (va_cwS 3 hc.2.2.2.2.1 gX9_out_X9_in rfl rfl rfl qX9_in ⟨Nat.le_of_ble_eq_true rfl, Nat.le_of_ble_eq_true rfl⟩) rfl rfl (Nat.le_of_ble_eq_true rfl) dX9_out_13 (fun r2 σ1 h => ?_)
  refine r_if_eq (tgt := 28) hc dX9_out_16 (by decide) (fun hq3 => ?_) (fun hq3 => ?_)
  · replace h := h.1 hq3
    refine r_ldc (v := (-2000000001)) hc dX9_out_28 oX9_out_150 ?_
    exact e_i hc hr hlk h dX9_out_30
  · replace h := h.2 hq3
    refine r_aload_n hc dX9_out_19 rfl ?_
    refine r_get (v := .ref (ad 11)) hc iX9_out_X9 (Nat.lt_of_lt_of_le (by decide) hn) rfl rfl rfl 14 (by decide) fX9_out_41 rfl dX9_out_20 ?_
    refine r_iload_n hc dX9_out_23 rfl ?_
    refine r_iald hc (Nat.lt_of_lt_of_le (by decide) hn) rfl rfl h.1 dX9_out_24 ?_
    replace h := h.2
    refine r_goto (tgt := 30) hc dX9_out_25 (by decide) ?_
    exact e_i hc hr hlk h dX9_out_30
theorem iX9_parent_X9 : ∀ w ∈ u_ws RX9 TX9 25, w ∈ wsX9_parent := by decide +kernel
theorem fX9_parent_60 : Cond.fieldLink RX9 60 (TX9 0).1 (TX9 0).2.1 (TX9 0).2.2.1 ∈ wsX9_parent := by decide +kernel
theorem oX9_parent_74 : Jvm.Cond.constant RX9 74 (-2000000002) ∈ wsX9_parent := by decide +kernel
theorem fX9_parent_7 : Cond.fieldLink RX9 7 (TX9 2).1 (TX9 2).2.1 (TX9 2).2.2.1 ∈ wsX9_parent := by decide +kernel
theorem fX9_parent_16 : Cond.fieldLink RX9 16 (TX9 4).1 (TX9 4).2.1 (TX9 4).2.2.1 ∈ wsX9_parent := by decide +kernel
set_option maxHeartbeats 4000000 in
set_option maxRecDepth 100000 in
theorem zX9_parent {cy : Nat → ClassId} {ad : Nat → Nat} {n : Nat} {D : va_G} {A : Nat → Prop} {l : Launch} (hn : 17 ≤ n) (σ : St) (x1 : Int32) (x2 : Int32) (x3 : Int32) (x4 : Int32) : Ci TR cy ad n D A l yX9_parent wsX9_parent rmX9_parent σ [.ref (ad 0), .int x1, .int x2, .int x3, .int x4] (fun Q => vX9_parent Q σ x1 x2 x3 x4) := by
  intro Q h
  refine startW (cc := cX9_parent) (nL := 7) (own := RX9) (lo := [some (.ref (ad 0)), some (.int x1), some (.int x2), some (.int x3), some (.int x4), none, none]) (by decide) rfl rfl (lo_start (av := [.ref (ad 0), .int x1, .int x2, .int x3, .int x4]) (k := 2) (allc1_ok (l := [.ref (ad 0), .int x1, .int x2, .int x3, .int x4]) trivial)) (Nat.le_of_ble_eq_true rfl) (fun p e s m args below meth c hc hr hlk => ?_)
  unfold vX9_parent at h
  refine r_aload_n hc dX9_parent_0 rfl ?_
  refine r_iconst (v := 0) hc dX9_parent_1 (by decide) ?_
  refine r_put hc iX9_parent_X9 tyX9_ok nmX9 (Nat.lt_of_lt_of_le (by decide) hn) rfl rfl rfl 0 (by decide) (Nat.le_of_ble_eq_true rfl) fX9_parent_60 rfl (by decide +kernel) rfl dX9_parent_2 ?_
  refine r_aload_n hc dX9_parent_5 rfl ?_
  refine r_iload_n hc dX9_parent_6 rfl ?_
  refine r_callVi hc (zX9_isDimension hn (wr σ 0 0 0) x1) h (Nat.lt_of_lt_of_le (by decide) hn) rfl rfl rfl (cwV 1 hc.2.2.2.2.1 gX9_parent_X9_isDimension rfl rfl rfl qX9_isDimension ⟨Nat.le_of_ble_eq_true rfl, Nat.le_of_ble_eq_true rfl⟩) rfl rfl (Nat.le_of_ble_eq_true rfl) dX9_parent_7 (fun r2 σ1 h => ?_)
  refine r_if_eq (tgt := 64) hc dX9_parent_10 (by decide) (fun hq16 => ?_) (fun hq16 => ?_)
  · replace h := h.1 hq16
    refine r_ldc (v := (-2000000002)) hc dX9_parent_64 oX9_parent_74 ?_
    exact e_i hc hr hlk h dX9_parent_66
  · replace h := h.2 hq16
    refine r_iload_n hc dX9_parent_13 rfl ?_
    refine r_iconst (v := 0) hc dX9_parent_14 (by decide) ?_
    refine r_aload_n hc dX9_parent_15 rfl ?_
    refine r_get (v := .ref (ad 1)) hc iX9_parent_X9 (Nat.lt_of_lt_of_le (by decide) hn) rfl rfl rfl 2 (by decide) fX9_parent_7 rfl dX9_parent_16 ?_
    refine r_iload_n hc dX9_parent_19 rfl ?_
    refine r_iald hc (Nat.lt_of_lt_of_le (by decide) hn) rfl rfl h.1 dX9_parent_20 ?_
    replace h := h.2
    refine r_iconst (v := 2) hc dX9_parent_21 (by decide) ?_
    refine r_isub hc dX9_parent_22 ?_
    refine r_callSi hc (zX9_in hn σ1 x2 0 ((rd σ1 1 x1.toNatClampNeg) - 2)) h (va_cwS 3 hc.2.2.2.2.1 gX9_parent_X9_in rfl rfl rfl qX9_in ⟨Nat.le_of_ble_eq_true rfl, Nat.le_of_ble_eq_true rfl⟩) rfl rfl (Nat.le_of_ble_eq_true rfl) dX9_parent_23 (fun r4 σ3 h => ?_)
    refine r_if_eq (tgt := 64) hc dX9_parent_26 (by decide) (fun hq15 => ?_) (fun hq15 => ?_)
    · replace h := h.1 hq15
      refine r_ldc (v := (-2000000002)) hc dX9_parent_64 oX9_parent_74 ?_
      exact e_i hc hr hlk h dX9_parent_66
    · replace h := h.2 hq15
      refine r_iload_n hc dX9_parent_29 rfl ?_
      refine r_iconst (v := 0) hc dX9_parent_30 (by decide) ?_
      refine r_aload_n hc dX9_parent_31 rfl ?_
      refine r_iload_n hc dX9_parent_32 rfl ?_
      refine r_iload_n hc dX9_parent_33 rfl ?_
      refine r_callVi hc (zX9_many hn σ3 x1 x2) h (Nat.lt_of_lt_of_le (by decide) hn) rfl rfl rfl (cwV 2 hc.2.2.2.2.1 gX9_parent_X9_many rfl rfl rfl qX9_many ⟨Nat.le_of_ble_eq_true rfl, Nat.le_of_ble_eq_true rfl⟩) rfl rfl (Nat.le_of_ble_eq_true rfl) dX9_parent_34 (fun r6 σ5 h => ?_)
      refine r_iconst (v := 1) hc dX9_parent_37 (by decide) ?_
      refine r_isub hc dX9_parent_38 ?_
      refine r_callSi hc (zX9_in hn σ5 x3 0 (r6 - 1)) h (va_cwS 3 hc.2.2.2.2.1 gX9_parent_X9_in rfl rfl rfl qX9_in ⟨Nat.le_of_ble_eq_true rfl, Nat.le_of_ble_eq_true rfl⟩) rfl rfl (Nat.le_of_ble_eq_true rfl) dX9_parent_39 (fun r8 σ7 h => ?_)
      refine r_if_eq (tgt := 64) hc dX9_parent_42 (by decide) (fun hq14 => ?_) (fun hq14 => ?_)
      · replace h := h.1 hq14
        refine r_ldc (v := (-2000000002)) hc dX9_parent_64 oX9_parent_74 ?_
        exact e_i hc hr hlk h dX9_parent_66
      · replace h := h.2 hq14
        refine r_iload hc dX9_parent_45 rfl ?_
        refine r_iconst (v := 0) hc dX9_parent_47 (by decide) ?_
        refine r_aload_n hc dX9_parent_48 rfl ?_
        refine r_iload_n hc dX9_parent_49 rfl ?_
        refine r_iload_n hc dX9_parent_50 rfl ?_
        refine r_iconst (v := 1) hc dX9_parent_51 (by decide) ?_
        refine r_iadd hc dX9_parent_52 ?_
        refine r_callVi hc (zX9_many hn σ7 x1 (x2 + 1)) h (Nat.lt_of_lt_of_le (by decide) hn) rfl rfl rfl (cwV 2 hc.2.2.2.2.1 gX9_parent_X9_many rfl rfl rfl qX9_many ⟨Nat.le_of_ble_eq_true rfl, Nat.le_of_ble_eq_true rfl⟩) rfl rfl (Nat.le_of_ble_eq_true rfl) dX9_parent_53 (fun r10 σ9 h => ?_)
        refine r_iconst (v := 1) hc dX9_parent_56 (by decide) ?_
        refine r_isub hc dX9_parent_57 ?_
        refine r_callSi hc (zX9_in hn σ9 x4 0 (r10 - 1)) h (va_cwS 3 hc.2.2.2.2.1 gX9_parent_X9_in rfl rfl rfl qX9_in ⟨Nat.le_of_ble_eq_true rfl, Nat.le_of_ble_eq_true rfl⟩) rfl rfl (Nat.le_of_ble_eq_true rfl) dX9_parent_58 (fun r12 σ11 h => ?_)
        refine r_if_ne (tgt := 67) hc dX9_parent_61 (by decide) (fun hq13 => ?_) (fun hq13 => ?_)
        · replace h := h.1 hq13
          refine r_ldc (v := (-2000000002)) hc dX9_parent_64 oX9_parent_74 ?_
          exact e_i hc hr hlk h dX9_parent_66
        · replace h := h.2 hq13
          refine r_bipush (v := 24) hc dX9_parent_67 (by decide) ?_
          refine r_iload_n hc dX9_parent_69 rfl ?_
          refine r_imul hc dX9_parent_70 ?_
          refine r_bipush (v := 8) hc dX9_parent_71 (by decide) ?_
          refine r_iload_n hc dX9_parent_73 rfl ?_
          refine r_imul hc dX9_parent_74 ?_
          refine r_iadd hc dX9_parent_75 ?_
          refine r_iload_n hc dX9_parent_76 rfl ?_
          refine r_iadd hc dX9_parent_77 ?_
          refine r_istore hc dX9_parent_78 (by decide) (ss (ss (ss (ss (s1 trivial))))) ?_
          refine r_aload_n hc dX9_parent_80 rfl ?_
          refine r_get (v := .ref (ad 3)) hc iX9_parent_X9 (Nat.lt_of_lt_of_le (by decide) hn) rfl rfl rfl 4 (by decide) fX9_parent_16 rfl dX9_parent_81 ?_
          refine r_iload hc dX9_parent_84 rfl ?_
          refine r_iald hc (Nat.lt_of_lt_of_le (by decide) hn) rfl rfl h.1 dX9_parent_86 ?_
          replace h := h.2
          refine r_istore hc dX9_parent_87 (by decide) (ss (ss (ss (ss (ss (s1 trivial)))))) ?_
          refine r_aload_n hc dX9_parent_89 rfl ?_
          refine r_get (v := .ref (ad 3)) hc iX9_parent_X9 (Nat.lt_of_lt_of_le (by decide) hn) rfl rfl rfl 4 (by decide) fX9_parent_16 rfl dX9_parent_90 ?_
          refine r_iload hc dX9_parent_93 rfl ?_
          refine r_iload hc dX9_parent_95 rfl ?_
          refine r_iast hc (Nat.lt_of_lt_of_le (by decide) hn) rfl rfl h.1 dX9_parent_97 ?_
          replace h := h.2
          refine r_iload hc dX9_parent_98 rfl ?_
          exact e_i hc hr hlk h dX9_parent_100
theorem iX9_pick_X9 : ∀ w ∈ u_ws RX9 TX9 25, w ∈ wsX9_pick := by decide +kernel
theorem fX9_pick_60 : Cond.fieldLink RX9 60 (TX9 0).1 (TX9 0).2.1 (TX9 0).2.2.1 ∈ wsX9_pick := by decide +kernel
theorem oX9_pick_74 : Jvm.Cond.constant RX9 74 (-2000000002) ∈ wsX9_pick := by decide +kernel
theorem fX9_pick_29 : Cond.fieldLink RX9 29 (TX9 9).1 (TX9 9).2.1 (TX9 9).2.2.1 ∈ wsX9_pick := by decide +kernel
set_option maxHeartbeats 4000000 in
set_option maxRecDepth 100000 in
theorem zX9_pick {cy : Nat → ClassId} {ad : Nat → Nat} {n : Nat} {D : va_G} {A : Nat → Prop} {l : Launch} (hn : 17 ≤ n) (σ : St) (x1 : Int32) (x2 : Int32) : Ci TR cy ad n D A l yX9_pick wsX9_pick rmX9_pick σ [.ref (ad 0), .int x1, .int x2] (fun Q => vX9_pick Q σ x1 x2) := by
  intro Q h
  refine startW (cc := cX9_pick) (nL := 4) (own := RX9) (lo := [some (.ref (ad 0)), some (.int x1), some (.int x2), none]) (by decide) rfl rfl (lo_start (av := [.ref (ad 0), .int x1, .int x2]) (k := 1) (allc1_ok (l := [.ref (ad 0), .int x1, .int x2]) trivial)) (Nat.le_of_ble_eq_true rfl) (fun p e s m args below meth c hc hr hlk => ?_)
  unfold vX9_pick at h
  refine r_aload_n hc dX9_pick_0 rfl ?_
  refine r_iconst (v := 0) hc dX9_pick_1 (by decide) ?_
  refine r_put hc iX9_pick_X9 tyX9_ok nmX9 (Nat.lt_of_lt_of_le (by decide) hn) rfl rfl rfl 0 (by decide) (Nat.le_of_ble_eq_true rfl) fX9_pick_60 rfl (by decide +kernel) rfl dX9_pick_2 ?_
  refine r_iload_n hc dX9_pick_5 rfl ?_
  refine r_iconst (v := 0) hc dX9_pick_6 (by decide) ?_
  refine r_iconst (v := 3) hc dX9_pick_7 (by decide) ?_
  refine r_callSi hc (zX9_in hn (wr σ 0 0 0) x1 0 3) h (va_cwS 3 hc.2.2.2.2.1 gX9_pick_X9_in rfl rfl rfl qX9_in ⟨Nat.le_of_ble_eq_true rfl, Nat.le_of_ble_eq_true rfl⟩) rfl rfl (Nat.le_of_ble_eq_true rfl) dX9_pick_8 (fun r2 σ1 h => ?_)
  refine r_if_eq (tgt := 24) hc dX9_pick_11 (by decide) (fun hq6 => ?_) (fun hq6 => ?_)
  · replace h := h.1 hq6
    refine r_ldc (v := (-2000000002)) hc dX9_pick_24 oX9_pick_74 ?_
    exact e_i hc hr hlk h dX9_pick_26
  · replace h := h.2 hq6
    refine r_iload_n hc dX9_pick_14 rfl ?_
    refine r_iconst (v := 0) hc dX9_pick_15 (by decide) ?_
    refine r_bipush (v := 7) hc dX9_pick_16 (by decide) ?_
    refine r_callSi hc (zX9_in hn σ1 x2 0 7) h (va_cwS 3 hc.2.2.2.2.1 gX9_pick_X9_in rfl rfl rfl qX9_in ⟨Nat.le_of_ble_eq_true rfl, Nat.le_of_ble_eq_true rfl⟩) rfl rfl (Nat.le_of_ble_eq_true rfl) dX9_pick_18 (fun r4 σ3 h => ?_)
    refine r_if_ne (tgt := 27) hc dX9_pick_21 (by decide) (fun hq5 => ?_) (fun hq5 => ?_)
    · replace h := h.1 hq5
      refine r_ldc (v := (-2000000002)) hc dX9_pick_24 oX9_pick_74 ?_
      exact e_i hc hr hlk h dX9_pick_26
    · replace h := h.2 hq5
      refine r_aload_n hc dX9_pick_27 rfl ?_
      refine r_get (v := .ref (ad 7)) hc iX9_pick_X9 (Nat.lt_of_lt_of_le (by decide) hn) rfl rfl rfl 9 (by decide) fX9_pick_29 rfl dX9_pick_28 ?_
      refine r_iload_n hc dX9_pick_31 rfl ?_
      refine r_iald hc (Nat.lt_of_lt_of_le (by decide) hn) rfl rfl h.1 dX9_pick_32 ?_
      replace h := h.2
      refine r_istore_n hc dX9_pick_33 rfl (by decide) (ss (ss (s1 trivial))) ?_
      refine r_aload_n hc dX9_pick_34 rfl ?_
      refine r_get (v := .ref (ad 7)) hc iX9_pick_X9 (Nat.lt_of_lt_of_le (by decide) hn) rfl rfl rfl 9 (by decide) fX9_pick_29 rfl dX9_pick_35 ?_
      refine r_iload_n hc dX9_pick_38 rfl ?_
      refine r_iload_n hc dX9_pick_39 rfl ?_
      refine r_iast hc (Nat.lt_of_lt_of_le (by decide) hn) rfl rfl h.1 dX9_pick_40 ?_
      replace h := h.2
      refine r_iload_n hc dX9_pick_41 rfl ?_
      exact e_i hc hr hlk h dX9_pick_42
theorem iX9_read_X9 : ∀ w ∈ u_ws RX9 TX9 25, w ∈ wsX9_read := by decide +kernel
theorem fX9_read_60 : Cond.fieldLink RX9 60 (TX9 0).1 (TX9 0).2.1 (TX9 0).2.2.1 ∈ wsX9_read := by decide +kernel
theorem fX9_read_141 : Cond.fieldLink RX9 141 (TX9 13).1 (TX9 13).2.1 (TX9 13).2.2.1 ∈ wsX9_read := by decide +kernel
set_option maxHeartbeats 4000000 in
set_option maxRecDepth 100000 in
theorem zX9_read {cy : Nat → ClassId} {ad : Nat → Nat} {n : Nat} {D : va_G} {A : Nat → Prop} {l : Launch} (hn : 17 ≤ n) (σ : St) : Ci TR cy ad n D A l yX9_read wsX9_read rmX9_read σ [.ref (ad 0)] (fun Q => vX9_read Q σ ) := by
  intro Q h
  refine startW (cc := cX9_read) (nL := 1) (own := RX9) (lo := [some (.ref (ad 0))]) (by decide) rfl rfl (lo_start (av := [.ref (ad 0)]) (k := 0) (allc1_ok (l := [.ref (ad 0)]) trivial)) (Nat.le_of_ble_eq_true rfl) (fun p e s m args below meth c hc hr hlk => ?_)
  unfold vX9_read at h
  refine r_aload_n hc dX9_read_0 rfl ?_
  refine r_iconst (v := 0) hc dX9_read_1 (by decide) ?_
  refine r_put hc iX9_read_X9 tyX9_ok nmX9 (Nat.lt_of_lt_of_le (by decide) hn) rfl rfl rfl 0 (by decide) (Nat.le_of_ble_eq_true rfl) fX9_read_60 rfl (by decide +kernel) rfl dX9_read_2 ?_
  refine r_aload_n hc dX9_read_5 rfl ?_
  refine r_get (v := .int (rd (wr σ 0 0 0) 0 13)) hc iX9_read_X9 (Nat.lt_of_lt_of_le (by decide) hn) rfl rfl rfl 13 (by decide) fX9_read_141 rfl dX9_read_6 ?_
  exact e_i hc hr hlk h dX9_read_9
theorem iX9_server_X9 : ∀ w ∈ u_ws RX9 TX9 25, w ∈ wsX9_server := by decide +kernel
theorem fX9_server_60 : Cond.fieldLink RX9 60 (TX9 0).1 (TX9 0).2.1 (TX9 0).2.2.1 ∈ wsX9_server := by decide +kernel
theorem oX9_server_74 : Jvm.Cond.constant RX9 74 (-2000000002) ∈ wsX9_server := by decide +kernel
set_option maxHeartbeats 4000000 in
set_option maxRecDepth 100000 in
theorem zX9_server {cy : Nat → ClassId} {ad : Nat → Nat} {n : Nat} {D : va_G} {A : Nat → Prop} {l : Launch} (hn : 17 ≤ n) (σ : St) (x1 : Int32) : Ci TR cy ad n D A l yX9_server wsX9_server rmX9_server σ [.ref (ad 0), .int x1] (fun Q => vX9_server Q σ x1) := by
  intro Q h
  refine startW (cc := cX9_server) (nL := 2) (own := RX9) (lo := [some (.ref (ad 0)), some (.int x1)]) (by decide) rfl rfl (lo_start (av := [.ref (ad 0), .int x1]) (k := 0) (allc1_ok (l := [.ref (ad 0), .int x1]) trivial)) (Nat.le_of_ble_eq_true rfl) (fun p e s m args below meth c hc hr hlk => ?_)
  unfold vX9_server at h
  refine r_aload_n hc dX9_server_0 rfl ?_
  refine r_iconst (v := 0) hc dX9_server_1 (by decide) ?_
  refine r_put hc iX9_server_X9 tyX9_ok nmX9 (Nat.lt_of_lt_of_le (by decide) hn) rfl rfl rfl 0 (by decide) (Nat.le_of_ble_eq_true rfl) fX9_server_60 rfl (by decide +kernel) rfl dX9_server_2 ?_
  refine r_aload_n hc dX9_server_5 rfl ?_
  refine r_iload_n hc dX9_server_6 rfl ?_
  refine r_callVi hc (zX9_isCuboid hn (wr σ 0 0 0) x1) h (Nat.lt_of_lt_of_le (by decide) hn) rfl rfl rfl (cwV 1 hc.2.2.2.2.1 gX9_server_X9_isCuboid rfl rfl rfl qX9_isCuboid ⟨Nat.le_of_ble_eq_true rfl, Nat.le_of_ble_eq_true rfl⟩) rfl rfl (Nat.le_of_ble_eq_true rfl) dX9_server_7 (fun r2 σ1 h => ?_)
  refine r_if_ne (tgt := 16) hc dX9_server_10 (by decide) (fun hq6 => ?_) (fun hq6 => ?_)
  · replace h := h.1 hq6
    refine r_ldc (v := (-2000000002)) hc dX9_server_13 oX9_server_74 ?_
    exact e_i hc hr hlk h dX9_server_15
  · replace h := h.2 hq6
    refine r_aload_n hc dX9_server_16 rfl ?_
    refine r_callVv hc (zX9_measure hn σ1) h (Nat.lt_of_lt_of_le (by decide) hn) rfl rfl rfl (cwV 0 hc.2.2.2.2.1 gX9_server_X9_measure rfl rfl rfl qX9_measure ⟨Nat.le_of_ble_eq_true rfl, Nat.le_of_ble_eq_true rfl⟩) rfl rfl (Nat.le_of_ble_eq_true rfl) dX9_server_17 (fun σ3 h => ?_)
    refine r_aload_n hc dX9_server_20 rfl ?_
    refine r_iload_n hc dX9_server_21 rfl ?_
    refine r_callVi hc (zX9_serverOf hn σ3 x1) h (Nat.lt_of_lt_of_le (by decide) hn) rfl rfl rfl (cwV 1 hc.2.2.2.2.1 gX9_server_X9_serverOf rfl rfl rfl qX9_serverOf ⟨Nat.le_of_ble_eq_true rfl, Nat.le_of_ble_eq_true rfl⟩) rfl rfl (Nat.le_of_ble_eq_true rfl) dX9_server_22 (fun r5 σ4 h => ?_)
    exact e_i hc hr hlk h dX9_server_25
theorem iX9_serves_X9 : ∀ w ∈ u_ws RX9 TX9 25, w ∈ wsX9_serves := by decide +kernel
theorem fX9_serves_60 : Cond.fieldLink RX9 60 (TX9 0).1 (TX9 0).2.1 (TX9 0).2.2.1 ∈ wsX9_serves := by decide +kernel
theorem oX9_serves_74 : Jvm.Cond.constant RX9 74 (-2000000002) ∈ wsX9_serves := by decide +kernel
set_option maxHeartbeats 4000000 in
set_option maxRecDepth 100000 in
theorem zX9_serves {cy : Nat → ClassId} {ad : Nat → Nat} {n : Nat} {D : va_G} {A : Nat → Prop} {l : Launch} (hn : 17 ≤ n) (σ : St) (x1 : Int32) (x2 : Int32) : Ci TR cy ad n D A l yX9_serves wsX9_serves rmX9_serves σ [.ref (ad 0), .int x1, .int x2] (fun Q => vX9_serves Q σ x1 x2) := by
  intro Q h
  refine startW (cc := cX9_serves) (nL := 3) (own := RX9) (lo := [some (.ref (ad 0)), some (.int x1), some (.int x2)]) (by decide) rfl rfl (lo_start (av := [.ref (ad 0), .int x1, .int x2]) (k := 0) (allc1_ok (l := [.ref (ad 0), .int x1, .int x2]) trivial)) (Nat.le_of_ble_eq_true rfl) (fun p e s m args below meth c hc hr hlk => ?_)
  unfold vX9_serves at h
  refine r_aload_n hc dX9_serves_0 rfl ?_
  refine r_iconst (v := 0) hc dX9_serves_1 (by decide) ?_
  refine r_put hc iX9_serves_X9 tyX9_ok nmX9 (Nat.lt_of_lt_of_le (by decide) hn) rfl rfl rfl 0 (by decide) (Nat.le_of_ble_eq_true rfl) fX9_serves_60 rfl (by decide +kernel) rfl dX9_serves_2 ?_
  refine r_aload_n hc dX9_serves_5 rfl ?_
  refine r_iload_n hc dX9_serves_6 rfl ?_
  refine r_callVi hc (zX9_isCuboid hn (wr σ 0 0 0) x1) h (Nat.lt_of_lt_of_le (by decide) hn) rfl rfl rfl (cwV 1 hc.2.2.2.2.1 gX9_serves_X9_isCuboid rfl rfl rfl qX9_isCuboid ⟨Nat.le_of_ble_eq_true rfl, Nat.le_of_ble_eq_true rfl⟩) rfl rfl (Nat.le_of_ble_eq_true rfl) dX9_serves_7 (fun r2 σ1 h => ?_)
  refine r_if_eq (tgt := 21) hc dX9_serves_10 (by decide) (fun hq9 => ?_) (fun hq9 => ?_)
  · replace h := h.1 hq9
    refine r_ldc (v := (-2000000002)) hc dX9_serves_21 oX9_serves_74 ?_
    refine r_goto (tgt := 40) hc dX9_serves_23 (by decide) ?_
    exact e_i hc hr hlk h dX9_serves_40
  · replace h := h.2 hq9
    refine r_aload_n hc dX9_serves_13 rfl ?_
    refine r_iload_n hc dX9_serves_14 rfl ?_
    refine r_callVi hc (zX9_isCuboid hn σ1 x2) h (Nat.lt_of_lt_of_le (by decide) hn) rfl rfl rfl (cwV 1 hc.2.2.2.2.1 gX9_serves_X9_isCuboid rfl rfl rfl qX9_isCuboid ⟨Nat.le_of_ble_eq_true rfl, Nat.le_of_ble_eq_true rfl⟩) rfl rfl (Nat.le_of_ble_eq_true rfl) dX9_serves_15 (fun r4 σ3 h => ?_)
    refine r_if_ne (tgt := 26) hc dX9_serves_18 (by decide) (fun hq8 => ?_) (fun hq8 => ?_)
    · replace h := h.1 hq8
      refine r_ldc (v := (-2000000002)) hc dX9_serves_21 oX9_serves_74 ?_
      refine r_goto (tgt := 40) hc dX9_serves_23 (by decide) ?_
      exact e_i hc hr hlk h dX9_serves_40
    · replace h := h.2 hq8
      refine r_aload_n hc dX9_serves_26 rfl ?_
      refine r_iload_n hc dX9_serves_27 rfl ?_
      refine r_iload_n hc dX9_serves_28 rfl ?_
      refine r_callVi hc (zX9_servesIt hn σ3 x1 x2) h (Nat.lt_of_lt_of_le (by decide) hn) rfl rfl rfl (cwV 2 hc.2.2.2.2.1 gX9_serves_X9_servesIt rfl rfl rfl qX9_servesIt ⟨Nat.le_of_ble_eq_true rfl, Nat.le_of_ble_eq_true rfl⟩) rfl rfl (Nat.le_of_ble_eq_true rfl) dX9_serves_29 (fun r6 σ5 h => ?_)
      refine r_if_eq (tgt := 39) hc dX9_serves_32 (by decide) (fun hq7 => ?_) (fun hq7 => ?_)
      · replace h := h.1 hq7
        refine r_iconst (v := 0) hc dX9_serves_39 (by decide) ?_
        exact e_i hc hr hlk h dX9_serves_40
      · replace h := h.2 hq7
        refine r_iconst (v := 1) hc dX9_serves_35 (by decide) ?_
        refine r_goto (tgt := 40) hc dX9_serves_36 (by decide) ?_
        exact e_i hc hr hlk h dX9_serves_40
theorem iX9_size_X9 : ∀ w ∈ u_ws RX9 TX9 25, w ∈ wsX9_size := by decide +kernel
theorem fX9_size_60 : Cond.fieldLink RX9 60 (TX9 0).1 (TX9 0).2.1 (TX9 0).2.2.1 ∈ wsX9_size := by decide +kernel
theorem oX9_size_74 : Jvm.Cond.constant RX9 74 (-2000000002) ∈ wsX9_size := by decide +kernel
set_option maxHeartbeats 4000000 in
set_option maxRecDepth 100000 in
theorem zX9_size {cy : Nat → ClassId} {ad : Nat → Nat} {n : Nat} {D : va_G} {A : Nat → Prop} {l : Launch} (hn : 17 ≤ n) (σ : St) (x1 : Int32) : Ci TR cy ad n D A l yX9_size wsX9_size rmX9_size σ [.ref (ad 0), .int x1] (fun Q => vX9_size Q σ x1) := by
  intro Q h
  refine startW (cc := cX9_size) (nL := 2) (own := RX9) (lo := [some (.ref (ad 0)), some (.int x1)]) (by decide) rfl rfl (lo_start (av := [.ref (ad 0), .int x1]) (k := 0) (allc1_ok (l := [.ref (ad 0), .int x1]) trivial)) (Nat.le_of_ble_eq_true rfl) (fun p e s m args below meth c hc hr hlk => ?_)
  unfold vX9_size at h
  refine r_aload_n hc dX9_size_0 rfl ?_
  refine r_iconst (v := 0) hc dX9_size_1 (by decide) ?_
  refine r_put hc iX9_size_X9 tyX9_ok nmX9 (Nat.lt_of_lt_of_le (by decide) hn) rfl rfl rfl 0 (by decide) (Nat.le_of_ble_eq_true rfl) fX9_size_60 rfl (by decide +kernel) rfl dX9_size_2 ?_
  refine r_aload_n hc dX9_size_5 rfl ?_
  refine r_iload_n hc dX9_size_6 rfl ?_
  refine r_callVi hc (zX9_isCuboid hn (wr σ 0 0 0) x1) h (Nat.lt_of_lt_of_le (by decide) hn) rfl rfl rfl (cwV 1 hc.2.2.2.2.1 gX9_size_X9_isCuboid rfl rfl rfl qX9_isCuboid ⟨Nat.le_of_ble_eq_true rfl, Nat.le_of_ble_eq_true rfl⟩) rfl rfl (Nat.le_of_ble_eq_true rfl) dX9_size_7 (fun r2 σ1 h => ?_)
  refine r_if_eq (tgt := 21) hc dX9_size_10 (by decide) (fun hq5 => ?_) (fun hq5 => ?_)
  · replace h := h.1 hq5
    refine r_ldc (v := (-2000000002)) hc dX9_size_21 oX9_size_74 ?_
    exact e_i hc hr hlk h dX9_size_23
  · replace h := h.2 hq5
    refine r_aload_n hc dX9_size_13 rfl ?_
    refine r_iload_n hc dX9_size_14 rfl ?_
    refine r_callVi hc (zX9_sizeOf hn σ1 x1) h (Nat.lt_of_lt_of_le (by decide) hn) rfl rfl rfl (cwV 1 hc.2.2.2.2.1 gX9_size_X9_sizeOf rfl rfl rfl qX9_sizeOf ⟨Nat.le_of_ble_eq_true rfl, Nat.le_of_ble_eq_true rfl⟩) rfl rfl (Nat.le_of_ble_eq_true rfl) dX9_size_15 (fun r4 σ3 h => ?_)
    refine r_goto (tgt := 23) hc dX9_size_18 (by decide) ?_
    exact e_i hc hr hlk h dX9_size_23
theorem iX9_table_X9 : ∀ w ∈ u_ws RX9 TX9 25, w ∈ wsX9_table := by decide +kernel
theorem fX9_table_60 : Cond.fieldLink RX9 60 (TX9 0).1 (TX9 0).2.1 (TX9 0).2.2.1 ∈ wsX9_table := by decide +kernel
theorem oX9_table_74 : Jvm.Cond.constant RX9 74 (-2000000002) ∈ wsX9_table := by decide +kernel
theorem fX9_table_157 : Cond.fieldLink RX9 157 (TX9 15).1 (TX9 15).2.1 (TX9 15).2.2.1 ∈ wsX9_table := by decide +kernel
set_option maxHeartbeats 4000000 in
set_option maxRecDepth 100000 in
theorem tvX9_table_J129 {cy : Nat → ClassId} {ad : Nat → Nat} {n : Nat} {D : va_G} {A : Nat → Prop} {l : Launch} {p : Program} {e : Env} {s : State} {m : MethodId} {args : Array Value} {below : List Frame} {meth : Method} {c : Code} {Q : Int32 → St → Prop} {K69 : St → Int32 → Int32 → Int32 → Int32 → Int32 → Int32 → Prop} {K79 : St → Int32 → Int32 → Int32 → Int32 → Int32 → Int32 → Int32 → Prop} (hn : 17 ≤ n) (hc : CX p s m args c D cy cX9_table 8 RX9 wsX9_table) (hr : meth.sig.returnType = some .int) (hlk : meth.locks = false) (hK69 : ∀ (σ : St) (x1 : Int32) (x2 : Int32) (x3 : Int32) (x4 : Int32) (x5 : Int32) (x6 : Int32), K69 σ x1 x2 x3 x4 x5 x6 → WV TR cy ad n D A p l e rmX9_table s m args below meth c 8 (MQ below (va_Qi Q (Bw TR cy ad n D) A) args s 0 0 A) σ [some (.ref (ad 0)), some (.int x1), some (.int x2), some (.int x3), some (.int x4), some (.int x5), some (.int x6), none] [] 69) (hK79 : ∀ (σ : St) (x1 : Int32) (x2 : Int32) (x3 : Int32) (x4 : Int32) (x5 : Int32) (x6 : Int32) (x7 : Int32), K79 σ x1 x2 x3 x4 x5 x6 x7 → WV TR cy ad n D A p l e rmX9_table s m args below meth c 8 (MQ below (va_Qi Q (Bw TR cy ad n D) A) args s 0 0 A) σ [some (.ref (ad 0)), some (.int x1), some (.int x2), some (.int x3), some (.int x4), some (.int x5), some (.int x6), some (.int x7)] [] 79) : ∀ (σ : St) (x1 : Int32) (x2 : Int32) (x3 : Int32) (x4 : Int32) (x5 : Int32) (x6 : Int32) (x7 : Int32) (y0 : Int32) (y1 : Int32) (y2 : Int32) (y3 : Int32) (y4 : Int32) (y5 : Int32), vX9_table_J129 Q K69 K79 σ x1 x2 x3 x4 x5 x6 x7 y0 y1 y2 y3 y4 y5 → WV TR cy ad n D A p l e rmX9_table s m args below meth c 8 (MQ below (va_Qi Q (Bw TR cy ad n D) A) args s 0 0 A) σ [some (.ref (ad 0)), some (.int x1), some (.int x2), some (.int x3), some (.int x4), some (.int x5), some (.int x6), some (.int x7)] [.int y0, .int y1, .int y2, .int y3, .int y4, .int y5, .ref (ad 0)] 129 := by
  intro σ x1 x2 x3 x4 x5 x6 x7 y0 y1 y2 y3 y4 y5 h
  unfold vX9_table_J129 at h
  refine r_iload_n hc dX9_table_129 rfl ?_
  refine r_callVv hc (zX9_cell hn σ y5 y4 y3 y2 y1 y0 x3) h (Nat.lt_of_lt_of_le (by decide) hn) rfl rfl rfl (cwV 7 hc.2.2.2.2.1 gX9_table_X9_cell rfl rfl rfl qX9_cell ⟨Nat.le_of_ble_eq_true rfl, Nat.le_of_ble_eq_true rfl⟩) rfl rfl (Nat.le_of_ble_eq_true rfl) dX9_table_130 (fun σ19 h => ?_)
  refine r_aload_n hc dX9_table_133 rfl ?_
  refine r_iload hc dX9_table_134 rfl ?_
  refine r_iload hc dX9_table_136 rfl ?_
  refine r_icmp_ne (tgt := 146) hc dX9_table_138 (by decide) (fun hq22 => ?_) (fun hq22 => ?_)
  · replace h := h.1 hq22
    refine r_bipush (v := 10) hc dX9_table_141 (by decide) ?_
    refine r_goto (tgt := 148) hc dX9_table_143 (by decide) ?_
    refine r_callVv hc (zX9_say hn σ19 10) h (Nat.lt_of_lt_of_le (by decide) hn) rfl rfl rfl (cwV 1 hc.2.2.2.2.1 gX9_table_X9_say rfl rfl rfl qX9_say ⟨Nat.le_of_ble_eq_true rfl, Nat.le_of_ble_eq_true rfl⟩) rfl rfl (Nat.le_of_ble_eq_true rfl) dX9_table_148 (fun σ20 h => ?_)
    refine r_iinc (v := x7 + 1) hc dX9_table_151 rfl rfl (by decide) (ss (ss (ss (ss (ss (ss (s1 trivial))))))) ?_
    refine r_goto (tgt := 79) hc dX9_table_154 (by decide) ?_
    exact r_weak (wk (wk (wk (wk (wk (wk (wk (wk w0)))))))) (hK79 _ _ _ _ _ _ _ _ h)
  · replace h := h.2 hq22
    refine r_bipush (v := 32) hc dX9_table_146 (by decide) ?_
    refine r_callVv hc (zX9_say hn σ19 32) h (Nat.lt_of_lt_of_le (by decide) hn) rfl rfl rfl (cwV 1 hc.2.2.2.2.1 gX9_table_X9_say rfl rfl rfl qX9_say ⟨Nat.le_of_ble_eq_true rfl, Nat.le_of_ble_eq_true rfl⟩) rfl rfl (Nat.le_of_ble_eq_true rfl) dX9_table_148 (fun σ21 h => ?_)
    refine r_iinc (v := x7 + 1) hc dX9_table_151 rfl rfl (by decide) (ss (ss (ss (ss (ss (ss (s1 trivial))))))) ?_
    refine r_goto (tgt := 79) hc dX9_table_154 (by decide) ?_
    exact r_weak (wk (wk (wk (wk (wk (wk (wk (wk w0)))))))) (hK79 _ _ _ _ _ _ _ _ h)
set_option maxHeartbeats 4000000 in
set_option maxRecDepth 100000 in
theorem tvX9_table_L79 {cy : Nat → ClassId} {ad : Nat → Nat} {n : Nat} {D : va_G} {A : Nat → Prop} {l : Launch} {p : Program} {e : Env} {s : State} {m : MethodId} {args : Array Value} {below : List Frame} {meth : Method} {c : Code} {Q : Int32 → St → Prop} {K69 : St → Int32 → Int32 → Int32 → Int32 → Int32 → Int32 → Prop} (hn : 17 ≤ n) (hc : CX p s m args c D cy cX9_table 8 RX9 wsX9_table) (hr : meth.sig.returnType = some .int) (hlk : meth.locks = false) (hK69 : ∀ (σ : St) (x1 : Int32) (x2 : Int32) (x3 : Int32) (x4 : Int32) (x5 : Int32) (x6 : Int32), K69 σ x1 x2 x3 x4 x5 x6 → WV TR cy ad n D A p l e rmX9_table s m args below meth c 8 (MQ below (va_Qi Q (Bw TR cy ad n D) A) args s 0 0 A) σ [some (.ref (ad 0)), some (.int x1), some (.int x2), some (.int x3), some (.int x4), some (.int x5), some (.int x6), none] [] 69) : ∀ (q79 : Nat) (σ : St) (x1 : Int32) (x2 : Int32) (x3 : Int32) (x4 : Int32) (x5 : Int32) (x6 : Int32) (x7 : Int32), vX9_table_L79 Q K69 q79 σ x1 x2 x3 x4 x5 x6 x7 → WV TR cy ad n D A p l e rmX9_table s m args below meth c 8 (MQ below (va_Qi Q (Bw TR cy ad n D) A) args s 0 0 A) σ [some (.ref (ad 0)), some (.int x1), some (.int x2), some (.int x3), some (.int x4), some (.int x5), some (.int x6), some (.int x7)] [] 79 := by
  intro q79
  induction q79 with
  | zero =>
    intro σ x1 x2 x3 x4 x5 x6 x7 h
    exact h.elim
  | succ q79 ih =>
    intro σ x1 x2 x3 x4 x5 x6 x7 h
    unfold vX9_table_L79 at h
    refine r_iload hc dX9_table_79 rfl ?_
    refine r_iload hc dX9_table_81 rfl ?_
    refine r_icmp_gt (tgt := 157) hc dX9_table_83 (by decide) (fun hq18 => ?_) (fun hq18 => ?_)
    · replace h := h.1 hq18
      refine r_iinc (v := x6 + 1) hc dX9_table_157 rfl rfl (by decide) (ss (ss (ss (ss (ss (s1 trivial)))))) ?_
      refine r_goto (tgt := 69) hc dX9_table_160 (by decide) ?_
      exact r_weak (wk (wk (wk (wk (wk (wk (wk (wn w0)))))))) (hK69 _ _ _ _ _ _ _ h)
    · replace h := h.2 hq18
      refine r_aload_n hc dX9_table_86 rfl ?_
      refine r_iload_n hc dX9_table_87 rfl ?_
      refine r_bipush (v := 10) hc dX9_table_88 (by decide) ?_
      refine r_idiv hc dX9_table_90 (by decide) ?_
      refine r_iload_n hc dX9_table_91 rfl ?_
      refine r_bipush (v := 10) hc dX9_table_92 (by decide) ?_
      refine r_irem hc dX9_table_94 (by decide) ?_
      refine r_iload hc dX9_table_95 rfl ?_
      refine r_iload hc dX9_table_97 rfl ?_
      refine r_icmp_ne (tgt := 106) hc dX9_table_99 (by decide) (fun hq17 => ?_) (fun hq17 => ?_)
      · replace h := h.1 hq17
        refine r_iconst (v := (-1)) hc dX9_table_102 (by decide) ?_
        refine r_goto (tgt := 108) hc dX9_table_103 (by decide) ?_
        refine r_iload_n hc dX9_table_108 rfl ?_
        refine r_bipush (v := 10) hc dX9_table_109 (by decide) ?_
        refine r_idiv hc dX9_table_111 (by decide) ?_
        refine r_iload_n hc dX9_table_112 rfl ?_
        refine r_bipush (v := 10) hc dX9_table_113 (by decide) ?_
        refine r_irem hc dX9_table_115 (by decide) ?_
        refine r_iload hc dX9_table_116 rfl ?_
        refine r_iload hc dX9_table_118 rfl ?_
        refine r_icmp_ne (tgt := 127) hc dX9_table_120 (by decide) (fun hq15 => ?_) (fun hq15 => ?_)
        · replace h := h.1 hq15
          refine r_iconst (v := (-1)) hc dX9_table_123 (by decide) ?_
          refine r_goto (tgt := 129) hc dX9_table_124 (by decide) ?_
          exact r_weak (wk (wk (wk (wk (wk (wk (wk (wk w0)))))))) (tvX9_table_J129 hn hc hr hlk hK69 ih _ _ _ _ _ _ _ _ _ _ _ _ _ _ h)
        · replace h := h.2 hq15
          refine r_iload hc dX9_table_127 rfl ?_
          exact r_weak (wk (wk (wk (wk (wk (wk (wk (wk w0)))))))) (tvX9_table_J129 hn hc hr hlk hK69 ih _ _ _ _ _ _ _ _ _ _ _ _ _ _ h)
      · replace h := h.2 hq17
        refine r_iload hc dX9_table_106 rfl ?_
        refine r_iload_n hc dX9_table_108 rfl ?_
        refine r_bipush (v := 10) hc dX9_table_109 (by decide) ?_
        refine r_idiv hc dX9_table_111 (by decide) ?_
        refine r_iload_n hc dX9_table_112 rfl ?_
        refine r_bipush (v := 10) hc dX9_table_113 (by decide) ?_
        refine r_irem hc dX9_table_115 (by decide) ?_
        refine r_iload hc dX9_table_116 rfl ?_
        refine r_iload hc dX9_table_118 rfl ?_
        refine r_icmp_ne (tgt := 127) hc dX9_table_120 (by decide) (fun hq16 => ?_) (fun hq16 => ?_)
        · replace h := h.1 hq16
          refine r_iconst (v := (-1)) hc dX9_table_123 (by decide) ?_
          refine r_goto (tgt := 129) hc dX9_table_124 (by decide) ?_
          exact r_weak (wk (wk (wk (wk (wk (wk (wk (wk w0)))))))) (tvX9_table_J129 hn hc hr hlk hK69 ih _ _ _ _ _ _ _ _ _ _ _ _ _ _ h)
        · replace h := h.2 hq16
          refine r_iload hc dX9_table_127 rfl ?_
          exact r_weak (wk (wk (wk (wk (wk (wk (wk (wk w0)))))))) (tvX9_table_J129 hn hc hr hlk hK69 ih _ _ _ _ _ _ _ _ _ _ _ _ _ _ h)
set_option maxHeartbeats 4000000 in
set_option maxRecDepth 100000 in
theorem tvX9_table_L69 {cy : Nat → ClassId} {ad : Nat → Nat} {n : Nat} {D : va_G} {A : Nat → Prop} {l : Launch} {p : Program} {e : Env} {s : State} {m : MethodId} {args : Array Value} {below : List Frame} {meth : Method} {c : Code} {Q : Int32 → St → Prop} (hn : 17 ≤ n) (hc : CX p s m args c D cy cX9_table 8 RX9 wsX9_table) (hr : meth.sig.returnType = some .int) (hlk : meth.locks = false) : ∀ (q69 : Nat) (σ : St) (x1 : Int32) (x2 : Int32) (x3 : Int32) (x4 : Int32) (x5 : Int32) (x6 : Int32), vX9_table_L69 Q q69 σ x1 x2 x3 x4 x5 x6 → WV TR cy ad n D A p l e rmX9_table s m args below meth c 8 (MQ below (va_Qi Q (Bw TR cy ad n D) A) args s 0 0 A) σ [some (.ref (ad 0)), some (.int x1), some (.int x2), some (.int x3), some (.int x4), some (.int x5), some (.int x6), none] [] 69 := by
  intro q69
  induction q69 with
  | zero =>
    intro σ x1 x2 x3 x4 x5 x6 h
    exact h.elim
  | succ q69 ih =>
    intro σ x1 x2 x3 x4 x5 x6 h
    unfold vX9_table_L69 at h
    refine r_iload hc dX9_table_69 rfl ?_
    refine r_iload hc dX9_table_71 rfl ?_
    refine r_icmp_gt (tgt := 163) hc dX9_table_73 (by decide) (fun hq14 => ?_) (fun hq14 => ?_)
    · replace h := h.1 hq14
      refine r_aload_n hc dX9_table_163 rfl ?_
      refine r_get (v := .int (rd σ 0 15)) hc iX9_table_X9 (Nat.lt_of_lt_of_le (by decide) hn) rfl rfl rfl 15 (by decide) fX9_table_157 rfl dX9_table_164 ?_
      exact e_i hc hr hlk h dX9_table_167
    · replace h := h.2 hq14
      refine r_iconst (v := 0) hc dX9_table_76 (by decide) ?_
      refine r_istore hc dX9_table_77 (by decide) (ss (ss (ss (ss (ss (ss (s1 trivial))))))) ?_
      obtain ⟨e79, h⟩ := h
      exact r_weak (wk (wk (wk (wk (wk (wk (wk (wk w0)))))))) (tvX9_table_L79 hn hc hr hlk ih e79 _ _ _ _ _ _ _ _ h)
set_option maxHeartbeats 4000000 in
set_option maxRecDepth 100000 in
theorem zX9_table {cy : Nat → ClassId} {ad : Nat → Nat} {n : Nat} {D : va_G} {A : Nat → Prop} {l : Launch} (hn : 17 ≤ n) (σ : St) (x1 : Int32) (x2 : Int32) (x3 : Int32) : Ci TR cy ad n D A l yX9_table wsX9_table rmX9_table σ [.ref (ad 0), .int x1, .int x2, .int x3] (fun Q => vX9_table Q σ x1 x2 x3) := by
  intro Q h
  refine startW (cc := cX9_table) (nL := 8) (own := RX9) (lo := [some (.ref (ad 0)), some (.int x1), some (.int x2), some (.int x3), none, none, none, none]) (by decide) rfl rfl (lo_start (av := [.ref (ad 0), .int x1, .int x2, .int x3]) (k := 4) (allc1_ok (l := [.ref (ad 0), .int x1, .int x2, .int x3]) trivial)) (Nat.le_of_ble_eq_true rfl) (fun p e s m args below meth c hc hr hlk => ?_)
  unfold vX9_table at h
  refine r_aload_n hc dX9_table_0 rfl ?_
  refine r_iconst (v := 0) hc dX9_table_1 (by decide) ?_
  refine r_put hc iX9_table_X9 tyX9_ok nmX9 (Nat.lt_of_lt_of_le (by decide) hn) rfl rfl rfl 0 (by decide) (Nat.le_of_ble_eq_true rfl) fX9_table_60 rfl (by decide +kernel) rfl dX9_table_2 ?_
  refine r_aload_n hc dX9_table_5 rfl ?_
  refine r_iload_n hc dX9_table_6 rfl ?_
  refine r_callVi hc (zX9_isSide hn (wr σ 0 0 0) x1) h (Nat.lt_of_lt_of_le (by decide) hn) rfl rfl rfl (cwV 1 hc.2.2.2.2.1 gX9_table_X9_isSide rfl rfl rfl qX9_isSide ⟨Nat.le_of_ble_eq_true rfl, Nat.le_of_ble_eq_true rfl⟩) rfl rfl (Nat.le_of_ble_eq_true rfl) dX9_table_7 (fun r2 σ1 h => ?_)
  refine r_if_eq (tgt := 30) hc dX9_table_10 (by decide) (fun hq13 => ?_) (fun hq13 => ?_)
  · replace h := h.1 hq13
    refine r_ldc (v := (-2000000002)) hc dX9_table_30 oX9_table_74 ?_
    exact e_i hc hr hlk h dX9_table_32
  · replace h := h.2 hq13
    refine r_aload_n hc dX9_table_13 rfl ?_
    refine r_iload_n hc dX9_table_14 rfl ?_
    refine r_callVi hc (zX9_isSide hn σ1 x2) h (Nat.lt_of_lt_of_le (by decide) hn) rfl rfl rfl (cwV 1 hc.2.2.2.2.1 gX9_table_X9_isSide rfl rfl rfl qX9_isSide ⟨Nat.le_of_ble_eq_true rfl, Nat.le_of_ble_eq_true rfl⟩) rfl rfl (Nat.le_of_ble_eq_true rfl) dX9_table_15 (fun r4 σ3 h => ?_)
    refine r_if_eq (tgt := 30) hc dX9_table_18 (by decide) (fun hq12 => ?_) (fun hq12 => ?_)
    · replace h := h.1 hq12
      refine r_ldc (v := (-2000000002)) hc dX9_table_30 oX9_table_74 ?_
      exact e_i hc hr hlk h dX9_table_32
    · replace h := h.2 hq12
      refine r_iload_n hc dX9_table_21 rfl ?_
      refine r_iconst (v := 0) hc dX9_table_22 (by decide) ?_
      refine r_iconst (v := 3) hc dX9_table_23 (by decide) ?_
      refine r_callSi hc (zX9_in hn σ3 x3 0 3) h (va_cwS 3 hc.2.2.2.2.1 gX9_table_X9_in rfl rfl rfl qX9_in ⟨Nat.le_of_ble_eq_true rfl, Nat.le_of_ble_eq_true rfl⟩) rfl rfl (Nat.le_of_ble_eq_true rfl) dX9_table_24 (fun r6 σ5 h => ?_)
      refine r_if_ne (tgt := 33) hc dX9_table_27 (by decide) (fun hq11 => ?_) (fun hq11 => ?_)
      · replace h := h.1 hq11
        refine r_ldc (v := (-2000000002)) hc dX9_table_30 oX9_table_74 ?_
        exact e_i hc hr hlk h dX9_table_32
      · replace h := h.2 hq11
        refine r_aload_n hc dX9_table_33 rfl ?_
        refine r_iconst (v := 0) hc dX9_table_34 (by decide) ?_
        refine r_put hc iX9_table_X9 tyX9_ok nmX9 (Nat.lt_of_lt_of_le (by decide) hn) rfl rfl rfl 15 (by decide) (Nat.le_of_ble_eq_true rfl) fX9_table_157 rfl (by decide +kernel) rfl dX9_table_35 ?_
        refine r_aload_n hc dX9_table_38 rfl ?_
        refine r_iload_n hc dX9_table_39 rfl ?_
        refine r_bipush (v := 10) hc dX9_table_40 (by decide) ?_
        refine r_idiv hc dX9_table_42 (by decide) ?_
        refine r_iload_n hc dX9_table_43 rfl ?_
        refine r_bipush (v := 10) hc dX9_table_44 (by decide) ?_
        refine r_irem hc dX9_table_46 (by decide) ?_
        refine r_callVi hc (zX9_many hn (wr σ5 0 15 0) (x1 / 10) (x1 - x1 / 10 * 10)) h (Nat.lt_of_lt_of_le (by decide) hn) rfl rfl rfl (cwV 2 hc.2.2.2.2.1 gX9_table_X9_many rfl rfl rfl qX9_many ⟨Nat.le_of_ble_eq_true rfl, Nat.le_of_ble_eq_true rfl⟩) rfl rfl (Nat.le_of_ble_eq_true rfl) dX9_table_47 (fun r8 σ7 h => ?_)
        refine r_istore hc dX9_table_50 (by decide) (ss (ss (ss (s1 trivial)))) ?_
        refine r_aload_n hc dX9_table_52 rfl ?_
        refine r_iload_n hc dX9_table_53 rfl ?_
        refine r_bipush (v := 10) hc dX9_table_54 (by decide) ?_
        refine r_idiv hc dX9_table_56 (by decide) ?_
        refine r_iload_n hc dX9_table_57 rfl ?_
        refine r_bipush (v := 10) hc dX9_table_58 (by decide) ?_
        refine r_irem hc dX9_table_60 (by decide) ?_
        refine r_callVi hc (zX9_many hn σ7 (x2 / 10) (x2 - x2 / 10 * 10)) h (Nat.lt_of_lt_of_le (by decide) hn) rfl rfl rfl (cwV 2 hc.2.2.2.2.1 gX9_table_X9_many rfl rfl rfl qX9_many ⟨Nat.le_of_ble_eq_true rfl, Nat.le_of_ble_eq_true rfl⟩) rfl rfl (Nat.le_of_ble_eq_true rfl) dX9_table_61 (fun r10 σ9 h => ?_)
        refine r_istore hc dX9_table_64 (by decide) (ss (ss (ss (ss (s1 trivial))))) ?_
        refine r_iconst (v := 0) hc dX9_table_66 (by decide) ?_
        refine r_istore hc dX9_table_67 (by decide) (ss (ss (ss (ss (ss (s1 trivial)))))) ?_
        obtain ⟨e69, h⟩ := h
        exact r_weak (wk (wk (wk (wk (wk (wk (wk (wn w0)))))))) (tvX9_table_L69 hn hc hr hlk e69 _ _ _ _ _ _ _ h)

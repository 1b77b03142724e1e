theorem iX8_fact_X8 : ∀ w ∈ u_ws RX8 TX8 8, w ∈ wsX8_fact := by decide +kernel
theorem fX8_fact_12 : Cond.fieldLink RX8 12 (TX8 0).1 (TX8 0).2.1 (TX8 0).2.2.1 ∈ wsX8_fact := by decide +kernel
theorem fX8_fact_55 : Cond.fieldLink RX8 55 (TX8 6).1 (TX8 6).2.1 (TX8 6).2.2.1 ∈ wsX8_fact := by decide +kernel
theorem oX8_fact_63 : Jvm.Cond.constant RX8 63 (-2000000002) ∈ wsX8_fact := by decide +kernel
theorem fX8_fact_19 : Cond.fieldLink RX8 19 (TX8 1).1 (TX8 1).2.1 (TX8 1).2.2.1 ∈ wsX8_fact := by decide +kernel
theorem iX8_fact_X2 : ∀ w ∈ u_ws RX2 TX2 5, w ∈ wsX8_fact := by decide +kernel
theorem fX8_fact_64 : (RX8, 64, (TX2 3).1, (TX2 3).2.1, (TX2 3).2.2.1, "CubeDesk") ∈ nestF := by decide +kernel
theorem fX8_fact_28 : Cond.fieldLink RX8 28 (TX8 2).1 (TX8 2).2.1 (TX8 2).2.2.1 ∈ wsX8_fact := by decide +kernel
theorem oX8_fact_71 : Jvm.Cond.constant RX8 71 (-2000000004) ∈ wsX8_fact := by decide +kernel
set_option maxHeartbeats 4000000 in
set_option maxRecDepth 100000 in
theorem zX8_fact {cy : Nat → ClassId} {ad : Nat → Nat} {n : Nat} {D : va_G} {A : Nat → Prop} {l : Launch} (hn : 49 ≤ n) (σ : St) (x1 : Int32) : Ci TC cy ad n D A l yX8_fact wsX8_fact rmX8_fact σ [.ref (ad 48), .int x1] (fun Q => vX8_fact Q σ x1) := by
  intro Q h
  refine startW (cc := cX8_fact) (nL := 3) (own := RX8) (lo := [some (.ref (ad 48)), some (.int x1), none]) (by decide) rfl rfl (lo_start (av := [.ref (ad 48), .int x1]) (k := 1) (allc1_ok (l := [.ref (ad 48), .int x1]) trivial)) (Nat.le_of_ble_eq_true rfl) (fun p e s m args below meth c hc hr hlk => ?_)
  unfold vX8_fact at h
  refine r_aload_n hc dX8_fact_0 rfl ?_
  refine r_get (v := .ref (ad 0)) hc iX8_fact_X8 (Nat.lt_of_lt_of_le (by decide) hn) rfl rfl rfl 0 (by decide) fX8_fact_12 rfl dX8_fact_1 ?_
  refine r_aload_n hc dX8_fact_4 rfl ?_
  refine r_get (v := .ref (ad 47)) hc iX8_fact_X8 (Nat.lt_of_lt_of_le (by decide) hn) rfl rfl rfl 6 (by decide) fX8_fact_55 rfl dX8_fact_5 ?_
  refine r_iconst (v := 0) hc dX8_fact_8 (by decide) ?_
  refine r_callVi hc (zX6_pack hn σ 47 0) h (Nat.lt_of_lt_of_le (by decide) hn) rfl rfl rfl (cwV 2 hc.2.2.2.2.1 gX8_fact_X6_pack rfl rfl rfl qX6_pack ⟨Nat.le_of_ble_eq_true rfl, Nat.le_of_ble_eq_true rfl⟩) rfl rfl (Nat.le_of_ble_eq_true rfl) dX8_fact_9 (fun r2 σ1 h => ?_)
  refine r_istore_n hc dX8_fact_12 rfl (by decide) (ss (s1 trivial)) ?_
  refine r_iload_n hc dX8_fact_13 rfl ?_
  refine r_if_lt (tgt := 31) hc dX8_fact_14 (by decide) (fun hq9 => ?_) (fun hq9 => ?_)
  · replace h := h.1 hq9
    refine r_ldc (v := (-2000000002)) hc dX8_fact_31 oX8_fact_63 ?_
    exact e_i hc hr hlk h dX8_fact_33
  · replace h := h.2 hq9
    refine r_iload_n hc dX8_fact_17 rfl ?_
    refine r_sipush (v := (-1000)) hc dX8_fact_18 (by decide) ?_
    refine r_icmp_lt (tgt := 31) hc dX8_fact_21 (by decide) (fun hq8 => ?_) (fun hq8 => ?_)
    · replace h := h.1 hq8
      refine r_ldc (v := (-2000000002)) hc dX8_fact_31 oX8_fact_63 ?_
      exact e_i hc hr hlk h dX8_fact_33
    · replace h := h.2 hq8
      refine r_iload_n hc dX8_fact_24 rfl ?_
      refine r_sipush (v := 1000) hc dX8_fact_25 (by decide) ?_
      refine r_icmp_le (tgt := 34) hc dX8_fact_28 (by decide) (fun hq7 => ?_) (fun hq7 => ?_)
      · replace h := h.1 hq7
        refine r_aload_n hc dX8_fact_34 rfl ?_
        refine r_get (v := .ref (ad 18)) hc iX8_fact_X8 (Nat.lt_of_lt_of_le (by decide) hn) rfl rfl rfl 1 (by decide) fX8_fact_19 rfl dX8_fact_35 ?_
        refine r_getN (v := .int (rd σ1 18 3)) hc iX8_fact_X2 (Nat.lt_of_lt_of_le (by decide) hn) rfl rfl rfl 3 (by decide) fX8_fact_64 rfl dX8_fact_38 ?_
        refine r_sipush (v := 300) hc dX8_fact_41 (by decide) ?_
        refine r_icmp_lt (tgt := 50) hc dX8_fact_44 (by decide) (fun hq6 => ?_) (fun hq6 => ?_)
        · replace h := h.1 hq6
          refine r_aload_n hc dX8_fact_50 rfl ?_
          refine r_get (v := .ref (ad 22)) hc iX8_fact_X8 (Nat.lt_of_lt_of_le (by decide) hn) rfl rfl rfl 2 (by decide) fX8_fact_28 rfl dX8_fact_51 ?_
          refine r_callVv hc (zX4_forgetSizes (Nat.le_trans (by decide) hn) σ1) h (Nat.lt_of_lt_of_le (by decide) hn) rfl rfl rfl (cwV 0 hc.2.2.2.2.1 gX8_fact_X4_forgetSizes rfl rfl rfl qX4_forgetSizes ⟨Nat.le_of_ble_eq_true rfl, Nat.le_of_ble_eq_true rfl⟩) rfl rfl (Nat.le_of_ble_eq_true rfl) dX8_fact_54 (fun σ3 h => ?_)
          refine r_aload_n hc dX8_fact_57 rfl ?_
          refine r_get (v := .ref (ad 18)) hc iX8_fact_X8 (Nat.lt_of_lt_of_le (by decide) hn) rfl rfl rfl 1 (by decide) fX8_fact_19 rfl dX8_fact_58 ?_
          refine r_iload_n hc dX8_fact_61 rfl ?_
          refine r_iload_n hc dX8_fact_62 rfl ?_
          refine r_callVi hc (zX2_enter (Nat.le_trans (by decide) hn) σ3 r2 x1) h (Nat.lt_of_lt_of_le (by decide) hn) rfl rfl rfl (cwV 2 hc.2.2.2.2.1 gX8_fact_X2_enter rfl rfl rfl qX2_enter ⟨Nat.le_of_ble_eq_true rfl, Nat.le_of_ble_eq_true rfl⟩) rfl rfl (Nat.le_of_ble_eq_true rfl) dX8_fact_63 (fun r5 σ4 h => ?_)
          exact e_i hc hr hlk h dX8_fact_66
        · replace h := h.2 hq6
          refine r_ldc (v := (-2000000004)) hc dX8_fact_47 oX8_fact_71 ?_
          exact e_i hc hr hlk h dX8_fact_49
      · replace h := h.2 hq7
        refine r_ldc (v := (-2000000002)) hc dX8_fact_31 oX8_fact_63 ?_
        exact e_i hc hr hlk h dX8_fact_33
theorem iX8_filter_X8 : ∀ w ∈ u_ws RX8 TX8 8, w ∈ wsX8_filter := by decide +kernel
theorem fX8_filter_12 : Cond.fieldLink RX8 12 (TX8 0).1 (TX8 0).2.1 (TX8 0).2.2.1 ∈ wsX8_filter := by decide +kernel
theorem oX8_filter_63 : Jvm.Cond.constant RX8 63 (-2000000002) ∈ wsX8_filter := by decide +kernel
set_option maxHeartbeats 4000000 in
set_option maxRecDepth 100000 in
theorem zX8_filter {cy : Nat → ClassId} {ad : Nat → Nat} {n : Nat} {D : va_G} {A : Nat → Prop} {l : Launch} (hn : 49 ≤ n) (σ : St) (x1 : Int32) (x2 : Int32) (x3 : Int32) : Ci TC cy ad n D A l yX8_filter wsX8_filter rmX8_filter σ [.ref (ad 48), .int x1, .int x2, .int x3] (fun Q => vX8_filter Q σ x1 x2 x3) := by
  intro Q h
  refine startW (cc := cX8_filter) (nL := 5) (own := RX8) (lo := [some (.ref (ad 48)), some (.int x1), some (.int x2), some (.int x3), none]) (by decide) rfl rfl (lo_start (av := [.ref (ad 48), .int x1, .int x2, .int x3]) (k := 1) (allc1_ok (l := [.ref (ad 48), .int x1, .int x2, .int x3]) trivial)) (Nat.le_of_ble_eq_true rfl) (fun p e s m args below meth c hc hr hlk => ?_)
  unfold vX8_filter at h
  refine r_aload_n hc dX8_filter_0 rfl ?_
  refine r_get (v := .ref (ad 0)) hc iX8_filter_X8 (Nat.lt_of_lt_of_le (by decide) hn) rfl rfl rfl 0 (by decide) fX8_filter_12 rfl dX8_filter_1 ?_
  refine r_iload_n hc dX8_filter_4 rfl ?_
  refine r_callVo hc (zX6_find (Nat.le_trans (by decide) hn) σ x1) h (Nat.lt_of_lt_of_le (by decide) hn) rfl rfl rfl (cwV 1 hc.2.2.2.2.1 gX8_filter_X6_find rfl rfl rfl qX6_find ⟨Nat.le_of_ble_eq_true rfl, Nat.le_of_ble_eq_true rfl⟩) rfl rfl (Nat.le_of_ble_eq_true rfl) dX8_filter_5 (fun r2 σ1 h => ?_)
  cases r2 with
  | none =>
    replace h := h.1 rfl
    refine r_astoreN hc dX8_filter_8 (by decide) (ss (ss (ss (s1 trivial)))) ?_
    refine r_aloadN hc dX8_filter_10 rfl ?_
    refine r_ifnull_n (tgt := 25) hc dX8_filter_12 (by decide) ?_
    refine r_ldc (v := (-2000000002)) hc dX8_filter_25 oX8_filter_63 ?_
    exact e_i hc hr hlk h dX8_filter_27
  | some k3 =>
    replace h := h.2 k3 rfl
    refine r_astore hc dX8_filter_8 (by decide) (ss (ss (ss (s1 trivial)))) ?_
    refine r_aload hc dX8_filter_10 rfl ?_
    refine r_ifnull_r hc dX8_filter_12 ?_
    refine r_aload hc dX8_filter_15 rfl ?_
    refine r_iload_n hc dX8_filter_17 rfl ?_
    refine r_iload_n hc dX8_filter_18 rfl ?_
    have hd4 := h.1
    replace h := h.2
    refine r_callVi hc (zX1_hasMember (Nat.le_trans (by decide) hn) hd4 σ1 x2 x3) h (dm_lt0 hd4 (Nat.le_trans (by decide) hn)) (dm_T hd4) (dm_L hd4) rfl (cwV 2 hc.2.2.2.2.1 gX8_filter_X1_hasMember rfl rfl rfl qX1_hasMember ⟨Nat.le_of_ble_eq_true rfl, Nat.le_of_ble_eq_true rfl⟩) rfl rfl (Nat.le_of_ble_eq_true rfl) dX8_filter_19 (fun r6 σ5 h => ?_)
    refine r_if_ne (tgt := 28) hc dX8_filter_22 (by decide) (fun hq8 => ?_) (fun hq8 => ?_)
    · replace h := h.1 hq8
      refine r_ldc (v := (-2000000002)) hc dX8_filter_25 oX8_filter_63 ?_
      exact e_i hc hr hlk h dX8_filter_27
    · replace h := h.2 hq8
      refine r_aload hc dX8_filter_28 rfl ?_
      refine r_iload_n hc dX8_filter_30 rfl ?_
      refine r_iload_n hc dX8_filter_31 rfl ?_
      refine r_callVv hc (zX1_setFilter (Nat.le_trans (by decide) hn) hd4 σ5 x2 x3) h (dm_lt0 hd4 (Nat.le_trans (by decide) hn)) (dm_T hd4) (dm_L hd4) rfl (cwV 2 hc.2.2.2.2.1 gX8_filter_X1_setFilter rfl rfl rfl qX1_setFilter ⟨Nat.le_of_ble_eq_true rfl, Nat.le_of_ble_eq_true rfl⟩) rfl rfl (Nat.le_of_ble_eq_true rfl) dX8_filter_32 (fun σ7 h => ?_)
      refine r_iconst (v := 0) hc dX8_filter_35 (by decide) ?_
      exact e_i hc hr hlk h dX8_filter_36
theorem iX8_gain_X8 : ∀ w ∈ u_ws RX8 TX8 8, w ∈ wsX8_gain := by decide +kernel
theorem fX8_gain_28 : Cond.fieldLink RX8 28 (TX8 2).1 (TX8 2).2.1 (TX8 2).2.2.1 ∈ wsX8_gain := by decide +kernel
theorem oX8_gain_63 : Jvm.Cond.constant RX8 63 (-2000000002) ∈ wsX8_gain := by decide +kernel
set_option maxHeartbeats 4000000 in
set_option maxRecDepth 100000 in
theorem zX8_gain {cy : Nat → ClassId} {ad : Nat → Nat} {n : Nat} {D : va_G} {A : Nat → Prop} {l : Launch} (hn : 49 ≤ n) (σ : St) (x1 : Int32) : Ci TC cy ad n D A l yX8_gain wsX8_gain rmX8_gain σ [.ref (ad 48), .int x1] (fun Q => vX8_gain Q σ x1) := by
  intro Q h
  refine startW (cc := cX8_gain) (nL := 2) (own := RX8) (lo := [some (.ref (ad 48)), some (.int x1)]) (by decide) rfl rfl (lo_start (av := [.ref (ad 48), .int x1]) (k := 0) (allc1_ok (l := [.ref (ad 48), .int x1]) trivial)) (Nat.le_of_ble_eq_true rfl) (fun p e s m args below meth c hc hr hlk => ?_)
  unfold vX8_gain at h
  refine r_aload_n hc dX8_gain_0 rfl ?_
  refine r_get (v := .ref (ad 22)) hc iX8_gain_X8 (Nat.lt_of_lt_of_le (by decide) hn) rfl rfl rfl 2 (by decide) fX8_gain_28 rfl dX8_gain_1 ?_
  refine r_iload_n hc dX8_gain_4 rfl ?_
  refine r_callVi hc (zX4_has hn σ x1) h (Nat.lt_of_lt_of_le (by decide) hn) rfl rfl rfl (cwV 1 hc.2.2.2.2.1 gX8_gain_X4_has rfl rfl rfl qX4_has ⟨Nat.le_of_ble_eq_true rfl, Nat.le_of_ble_eq_true rfl⟩) rfl rfl (Nat.le_of_ble_eq_true rfl) dX8_gain_5 (fun r2 σ1 h => ?_)
  refine r_if_eq (tgt := 22) hc dX8_gain_8 (by decide) (fun hq5 => ?_) (fun hq5 => ?_)
  · replace h := h.1 hq5
    refine r_ldc (v := (-2000000002)) hc dX8_gain_22 oX8_gain_63 ?_
    exact e_i hc hr hlk h dX8_gain_24
  · replace h := h.2 hq5
    refine r_aload_n hc dX8_gain_11 rfl ?_
    refine r_get (v := .ref (ad 22)) hc iX8_gain_X8 (Nat.lt_of_lt_of_le (by decide) hn) rfl rfl rfl 2 (by decide) fX8_gain_28 rfl dX8_gain_12 ?_
    refine r_iload_n hc dX8_gain_15 rfl ?_
    refine r_callVi hc (zX4_gainOf hn σ1 x1) h (Nat.lt_of_lt_of_le (by decide) hn) rfl rfl rfl (cwV 1 hc.2.2.2.2.1 gX8_gain_X4_gainOf rfl rfl rfl qX4_gainOf ⟨Nat.le_of_ble_eq_true rfl, Nat.le_of_ble_eq_true rfl⟩) rfl rfl (Nat.le_of_ble_eq_true rfl) dX8_gain_16 (fun r4 σ3 h => ?_)
    refine r_goto (tgt := 24) hc dX8_gain_19 (by decide) ?_
    exact e_i hc hr hlk h dX8_gain_24
theorem iX8_group_X8 : ∀ w ∈ u_ws RX8 TX8 8, w ∈ wsX8_group := by decide +kernel
theorem fX8_group_28 : Cond.fieldLink RX8 28 (TX8 2).1 (TX8 2).2.1 (TX8 2).2.2.1 ∈ wsX8_group := by decide +kernel
theorem oX8_group_63 : Jvm.Cond.constant RX8 63 (-2000000002) ∈ wsX8_group := by decide +kernel
theorem fX8_group_12 : Cond.fieldLink RX8 12 (TX8 0).1 (TX8 0).2.1 (TX8 0).2.2.1 ∈ wsX8_group := by decide +kernel
theorem oX8_group_176 : Jvm.Cond.constant RX8 176 (-2000000001) ∈ wsX8_group := by decide +kernel
set_option maxHeartbeats 4000000 in
set_option maxRecDepth 100000 in
theorem zX8_group {cy : Nat → ClassId} {ad : Nat → Nat} {n : Nat} {D : va_G} {A : Nat → Prop} {l : Launch} (hn : 49 ≤ n) (σ : St) (x1 : Int32) (x2 : Int32) : Ci TC cy ad n D A l yX8_group wsX8_group rmX8_group σ [.ref (ad 48), .int x1, .int x2] (fun Q => vX8_group Q σ x1 x2) := by
  intro Q h
  refine startW (cc := cX8_group) (nL := 4) (own := RX8) (lo := [some (.ref (ad 48)), some (.int x1), some (.int x2), none]) (by decide) rfl rfl (lo_start (av := [.ref (ad 48), .int x1, .int x2]) (k := 1) (allc1_ok (l := [.ref (ad 48), .int x1, .int x2]) trivial)) (Nat.le_of_ble_eq_true rfl) (fun p e s m args below meth c hc hr hlk => ?_)
  unfold vX8_group at h
  refine r_aload_n hc dX8_group_0 rfl ?_
  refine r_get (v := .ref (ad 22)) hc iX8_group_X8 (Nat.lt_of_lt_of_le (by decide) hn) rfl rfl rfl 2 (by decide) fX8_group_28 rfl dX8_group_1 ?_
  refine r_iload_n hc dX8_group_4 rfl ?_
  refine r_callVi hc (zX4_has hn σ x1) h (Nat.lt_of_lt_of_le (by decide) hn) rfl rfl rfl (cwV 1 hc.2.2.2.2.1 gX8_group_X4_has rfl rfl rfl qX4_has ⟨Nat.le_of_ble_eq_true rfl, Nat.le_of_ble_eq_true rfl⟩) rfl rfl (Nat.le_of_ble_eq_true rfl) dX8_group_5 (fun r2 σ1 h => ?_)
  refine r_if_eq (tgt := 15) hc dX8_group_8 (by decide) (fun hq9 => ?_) (fun hq9 => ?_)
  · replace h := h.1 hq9
    refine r_ldc (v := (-2000000002)) hc dX8_group_15 oX8_group_63 ?_
    exact e_i hc hr hlk h dX8_group_17
  · replace h := h.2 hq9
    refine r_iload_n hc dX8_group_11 rfl ?_
    refine r_if_ge (tgt := 18) hc dX8_group_12 (by decide) (fun hq8 => ?_) (fun hq8 => ?_)
    · replace h := h.1 hq8
      refine r_aload_n hc dX8_group_18 rfl ?_
      refine r_get (v := .ref (ad 22)) hc iX8_group_X8 (Nat.lt_of_lt_of_le (by decide) hn) rfl rfl rfl 2 (by decide) fX8_group_28 rfl dX8_group_19 ?_
      refine r_iload_n hc dX8_group_22 rfl ?_
      refine r_iload_n hc dX8_group_23 rfl ?_
      refine r_callVi hc (zX4_groupAt hn σ1 x1 x2) h (Nat.lt_of_lt_of_le (by decide) hn) rfl rfl rfl (cwV 2 hc.2.2.2.2.1 gX8_group_X4_groupAt rfl rfl rfl qX4_groupAt ⟨Nat.le_of_ble_eq_true rfl, Nat.le_of_ble_eq_true rfl⟩) rfl rfl (Nat.le_of_ble_eq_true rfl) dX8_group_24 (fun r4 σ3 h => ?_)
      refine r_istore_n hc dX8_group_27 rfl (by decide) (ss (ss (s1 trivial))) ?_
      refine r_iload_n hc dX8_group_28 rfl ?_
      refine r_if_ge (tgt := 37) hc dX8_group_29 (by decide) (fun hq7 => ?_) (fun hq7 => ?_)
      · replace h := h.1 hq7
        refine r_aload_n hc dX8_group_37 rfl ?_
        refine r_get (v := .ref (ad 0)) hc iX8_group_X8 (Nat.lt_of_lt_of_le (by decide) hn) rfl rfl rfl 0 (by decide) fX8_group_12 rfl dX8_group_38 ?_
        refine r_iload_n hc dX8_group_41 rfl ?_
        refine r_callVi hc (zX6_inDecimals (Nat.le_trans (by decide) hn) σ3 r4) h (Nat.lt_of_lt_of_le (by decide) hn) rfl rfl rfl (cwV 1 hc.2.2.2.2.1 gX8_group_X6_inDecimals rfl rfl rfl qX6_inDecimals ⟨Nat.le_of_ble_eq_true rfl, Nat.le_of_ble_eq_true rfl⟩) rfl rfl (Nat.le_of_ble_eq_true rfl) dX8_group_42 (fun r6 σ5 h => ?_)
        exact e_i hc hr hlk h dX8_group_45
      · replace h := h.2 hq7
        refine r_ldc (v := (-2000000001)) hc dX8_group_32 oX8_group_176 ?_
        refine r_goto (tgt := 45) hc dX8_group_34 (by decide) ?_
        exact e_i hc hr hlk h dX8_group_45
    · replace h := h.2 hq8
      refine r_ldc (v := (-2000000002)) hc dX8_group_15 oX8_group_63 ?_
      exact e_i hc hr hlk h dX8_group_17
theorem iX8_homeOnSide_X8 : ∀ w ∈ u_ws RX8 TX8 8, w ∈ wsX8_homeOnSide := by decide +kernel
theorem fX8_homeOnSide_12 : Cond.fieldLink RX8 12 (TX8 0).1 (TX8 0).2.1 (TX8 0).2.2.1 ∈ wsX8_homeOnSide := by decide +kernel
theorem fX8_homeOnSide_19 : Cond.fieldLink RX8 19 (TX8 1).1 (TX8 1).2.1 (TX8 1).2.2.1 ∈ wsX8_homeOnSide := by decide +kernel
set_option maxHeartbeats 4000000 in
set_option maxRecDepth 100000 in
theorem zX8_homeOnSide {cy : Nat → ClassId} {ad : Nat → Nat} {n : Nat} {D : va_G} {A : Nat → Prop} {l : Launch} (hn : 49 ≤ n) (σ : St) (x1 : Int32) (x2 : Int32) : Ci TC cy ad n D A l yX8_homeOnSide wsX8_homeOnSide rmX8_homeOnSide σ [.ref (ad 48), .int x1, .int x2] (fun Q => vX8_homeOnSide Q σ x1 x2) := by
  intro Q h
  refine startW (cc := cX8_homeOnSide) (nL := 3) (own := RX8) (lo := [some (.ref (ad 48)), some (.int x1), some (.int x2)]) (by decide) rfl rfl (lo_start (av := [.ref (ad 48), .int x1, .int x2]) (k := 0) (allc1_ok (l := [.ref (ad 48), .int x1, .int x2]) trivial)) (Nat.le_of_ble_eq_true rfl) (fun p e s m args below meth c hc hr hlk => ?_)
  unfold vX8_homeOnSide at h
  refine r_aload_n hc dX8_homeOnSide_0 rfl ?_
  refine r_get (v := .ref (ad 0)) hc iX8_homeOnSide_X8 (Nat.lt_of_lt_of_le (by decide) hn) rfl rfl rfl 0 (by decide) fX8_homeOnSide_12 rfl dX8_homeOnSide_1 ?_
  refine r_aload_n hc dX8_homeOnSide_4 rfl ?_
  refine r_get (v := .ref (ad 18)) hc iX8_homeOnSide_X8 (Nat.lt_of_lt_of_le (by decide) hn) rfl rfl rfl 1 (by decide) fX8_homeOnSide_19 rfl dX8_homeOnSide_5 ?_
  refine r_iload_n hc dX8_homeOnSide_8 rfl ?_
  refine r_callVi hc (zX2_cellOf (Nat.le_trans (by decide) hn) σ x1) h (Nat.lt_of_lt_of_le (by decide) hn) rfl rfl rfl (cwV 1 hc.2.2.2.2.1 gX8_homeOnSide_X2_cellOf rfl rfl rfl qX2_cellOf ⟨Nat.le_of_ble_eq_true rfl, Nat.le_of_ble_eq_true rfl⟩) rfl rfl (Nat.le_of_ble_eq_true rfl) dX8_homeOnSide_9 (fun r2 σ1 h => ?_)
  refine r_iload_n hc dX8_homeOnSide_12 rfl ?_
  refine r_bipush (v := 10) hc dX8_homeOnSide_13 (by decide) ?_
  refine r_idiv hc dX8_homeOnSide_15 (by decide) ?_
  refine r_iload_n hc dX8_homeOnSide_16 rfl ?_
  refine r_bipush (v := 10) hc dX8_homeOnSide_17 (by decide) ?_
  refine r_irem hc dX8_homeOnSide_19 (by decide) ?_
  refine r_callVi hc (zX6_homeIn (Nat.le_trans (by decide) hn) σ1 r2 (x2 / 10) (x2 - x2 / 10 * 10)) h (Nat.lt_of_lt_of_le (by decide) hn) rfl rfl rfl (cwV 3 hc.2.2.2.2.1 gX8_homeOnSide_X6_homeIn rfl rfl rfl qX6_homeIn ⟨Nat.le_of_ble_eq_true rfl, Nat.le_of_ble_eq_true rfl⟩) rfl rfl (Nat.le_of_ble_eq_true rfl) dX8_homeOnSide_20 (fun r4 σ3 h => ?_)
  exact e_i hc hr hlk h dX8_homeOnSide_23
theorem iX8_isInSight_X8 : ∀ w ∈ u_ws RX8 TX8 8, w ∈ wsX8_isInSight := by decide +kernel
theorem fX8_isInSight_19 : Cond.fieldLink RX8 19 (TX8 1).1 (TX8 1).2.1 (TX8 1).2.2.1 ∈ wsX8_isInSight := by decide +kernel
theorem fX8_isInSight_12 : Cond.fieldLink RX8 12 (TX8 0).1 (TX8 0).2.1 (TX8 0).2.2.1 ∈ wsX8_isInSight := by decide +kernel
set_option maxHeartbeats 4000000 in
set_option maxRecDepth 100000 in
theorem zX8_isInSight {cy : Nat → ClassId} {ad : Nat → Nat} {n : Nat} {D : va_G} {A : Nat → Prop} {l : Launch} (hn : 49 ≤ n) (σ : St) (x1 : Int32) : Ci TC cy ad n D A l yX8_isInSight wsX8_isInSight rmX8_isInSight σ [.ref (ad 48), .int x1] (fun Q => vX8_isInSight Q σ x1) := by
  intro Q h
  refine startW (cc := cX8_isInSight) (nL := 2) (own := RX8) (lo := [some (.ref (ad 48)), some (.int x1)]) (by decide) rfl rfl (lo_start (av := [.ref (ad 48), .int x1]) (k := 0) (allc1_ok (l := [.ref (ad 48), .int x1]) trivial)) (Nat.le_of_ble_eq_true rfl) (fun p e s m args below meth c hc hr hlk => ?_)
  unfold vX8_isInSight at h
  refine r_aload_n hc dX8_isInSight_0 rfl ?_
  refine r_get (v := .ref (ad 18)) hc iX8_isInSight_X8 (Nat.lt_of_lt_of_le (by decide) hn) rfl rfl rfl 1 (by decide) fX8_isInSight_19 rfl dX8_isInSight_1 ?_
  refine r_iload_n hc dX8_isInSight_4 rfl ?_
  refine r_callVi hc (zX2_isThere (Nat.le_trans (by decide) hn) σ x1) h (Nat.lt_of_lt_of_le (by decide) hn) rfl rfl rfl (cwV 1 hc.2.2.2.2.1 gX8_isInSight_X2_isThere rfl rfl rfl qX2_isThere ⟨Nat.le_of_ble_eq_true rfl, Nat.le_of_ble_eq_true rfl⟩) rfl rfl (Nat.le_of_ble_eq_true rfl) dX8_isInSight_5 (fun r2 σ1 h => ?_)
  refine r_if_eq (tgt := 33) hc dX8_isInSight_8 (by decide) (fun hq8 => ?_) (fun hq8 => ?_)
  · replace h := h.1 hq8
    refine r_iconst (v := 0) hc dX8_isInSight_33 (by decide) ?_
    exact e_z hc hr hlk (by decide) h dX8_isInSight_34
  · replace h := h.2 hq8
    refine r_aload_n hc dX8_isInSight_11 rfl ?_
    refine r_get (v := .ref (ad 0)) hc iX8_isInSight_X8 (Nat.lt_of_lt_of_le (by decide) hn) rfl rfl rfl 0 (by decide) fX8_isInSight_12 rfl dX8_isInSight_12 ?_
    refine r_aload_n hc dX8_isInSight_15 rfl ?_
    refine r_get (v := .ref (ad 18)) hc iX8_isInSight_X8 (Nat.lt_of_lt_of_le (by decide) hn) rfl rfl rfl 1 (by decide) fX8_isInSight_19 rfl dX8_isInSight_16 ?_
    refine r_iload_n hc dX8_isInSight_19 rfl ?_
    refine r_callVi hc (zX2_cellOf (Nat.le_trans (by decide) hn) σ1 x1) h (Nat.lt_of_lt_of_le (by decide) hn) rfl rfl rfl (cwV 1 hc.2.2.2.2.1 gX8_isInSight_X2_cellOf rfl rfl rfl qX2_cellOf ⟨Nat.le_of_ble_eq_true rfl, Nat.le_of_ble_eq_true rfl⟩) rfl rfl (Nat.le_of_ble_eq_true rfl) dX8_isInSight_20 (fun r4 σ3 h => ?_)
    refine r_callVi hc (zX6_passes (Nat.le_trans (by decide) hn) σ3 r4) h (Nat.lt_of_lt_of_le (by decide) hn) rfl rfl rfl (cwV 1 hc.2.2.2.2.1 gX8_isInSight_X6_passes rfl rfl rfl qX6_passes ⟨Nat.le_of_ble_eq_true rfl, Nat.le_of_ble_eq_true rfl⟩) rfl rfl (Nat.le_of_ble_eq_true rfl) dX8_isInSight_23 (fun r6 σ5 h => ?_)
    refine r_if_eq (tgt := 33) hc dX8_isInSight_26 (by decide) (fun hq7 => ?_) (fun hq7 => ?_)
    · replace h := h.1 hq7
      refine r_iconst (v := 0) hc dX8_isInSight_33 (by decide) ?_
      exact e_z hc hr hlk (by decide) h dX8_isInSight_34
    · replace h := h.2 hq7
      refine r_iconst (v := 1) hc dX8_isInSight_29 (by decide) ?_
      refine r_goto (tgt := 34) hc dX8_isInSight_30 (by decide) ?_
      exact e_z hc hr hlk (by decide) h dX8_isInSight_34
theorem iX8_keep_X8 : ∀ w ∈ u_ws RX8 TX8 8, w ∈ wsX8_keep := by decide +kernel
theorem fX8_keep_28 : Cond.fieldLink RX8 28 (TX8 2).1 (TX8 2).2.1 (TX8 2).2.2.1 ∈ wsX8_keep := by decide +kernel
theorem oX8_keep_63 : Jvm.Cond.constant RX8 63 (-2000000002) ∈ wsX8_keep := by decide +kernel
theorem oX8_keep_67 : Jvm.Cond.constant RX8 67 (-2000000003) ∈ wsX8_keep := by decide +kernel
set_option maxHeartbeats 4000000 in
set_option maxRecDepth 100000 in
theorem zX8_keep {cy : Nat → ClassId} {ad : Nat → Nat} {n : Nat} {D : va_G} {A : Nat → Prop} {l : Launch} (hn : 49 ≤ n) (σ : St) (x1 : Int32) (x2 : Int32) : Ci TC cy ad n D A l yX8_keep wsX8_keep rmX8_keep σ [.ref (ad 48), .int x1, .int x2] (fun Q => vX8_keep Q σ x1 x2) := by
  intro Q h
  refine startW (cc := cX8_keep) (nL := 3) (own := RX8) (lo := [some (.ref (ad 48)), some (.int x1), some (.int x2)]) (by decide) rfl rfl (lo_start (av := [.ref (ad 48), .int x1, .int x2]) (k := 0) (allc1_ok (l := [.ref (ad 48), .int x1, .int x2]) trivial)) (Nat.le_of_ble_eq_true rfl) (fun p e s m args below meth c hc hr hlk => ?_)
  unfold vX8_keep at h
  refine r_aload_n hc dX8_keep_0 rfl ?_
  refine r_get (v := .ref (ad 22)) hc iX8_keep_X8 (Nat.lt_of_lt_of_le (by decide) hn) rfl rfl rfl 2 (by decide) fX8_keep_28 rfl dX8_keep_1 ?_
  refine r_iload_n hc dX8_keep_4 rfl ?_
  refine r_callVi hc (zX4_has hn σ x1) h (Nat.lt_of_lt_of_le (by decide) hn) rfl rfl rfl (cwV 1 hc.2.2.2.2.1 gX8_keep_X4_has rfl rfl rfl qX4_has ⟨Nat.le_of_ble_eq_true rfl, Nat.le_of_ble_eq_true rfl⟩) rfl rfl (Nat.le_of_ble_eq_true rfl) dX8_keep_5 (fun r2 σ1 h => ?_)
  refine r_if_ne (tgt := 14) hc dX8_keep_8 (by decide) (fun hq11 => ?_) (fun hq11 => ?_)
  · replace h := h.1 hq11
    refine r_ldc (v := (-2000000002)) hc dX8_keep_11 oX8_keep_63 ?_
    exact e_i hc hr hlk h dX8_keep_13
  · replace h := h.2 hq11
    refine r_iload_n hc dX8_keep_14 rfl ?_
    refine r_if_ne (tgt := 25) hc dX8_keep_15 (by decide) (fun hq10 => ?_) (fun hq10 => ?_)
    · replace h := h.1 hq10
      refine r_iload_n hc dX8_keep_18 rfl ?_
      refine r_if_ne (tgt := 25) hc dX8_keep_19 (by decide) (fun hq6 => ?_) (fun hq6 => ?_)
      · replace h := h.1 hq6
        refine r_ldc (v := (-2000000003)) hc dX8_keep_22 oX8_keep_67 ?_
        exact e_i hc hr hlk h dX8_keep_24
      · replace h := h.2 hq6
        refine r_aload_n hc dX8_keep_25 rfl ?_
        refine r_get (v := .ref (ad 22)) hc iX8_keep_X8 (Nat.lt_of_lt_of_le (by decide) hn) rfl rfl rfl 2 (by decide) fX8_keep_28 rfl dX8_keep_26 ?_
        refine r_iload_n hc dX8_keep_29 rfl ?_
        refine r_iload_n hc dX8_keep_30 rfl ?_
        refine r_callVi hc (zX4_mark hn σ1 x1 x2) h (Nat.lt_of_lt_of_le (by decide) hn) rfl rfl rfl (cwV 2 hc.2.2.2.2.1 gX8_keep_X4_mark rfl rfl rfl qX4_mark ⟨Nat.le_of_ble_eq_true rfl, Nat.le_of_ble_eq_true rfl⟩) rfl rfl (Nat.le_of_ble_eq_true rfl) dX8_keep_31 (fun r4 σ3 h => ?_)
        refine r_if_eq (tgt := 41) hc dX8_keep_34 (by decide) (fun hq5 => ?_) (fun hq5 => ?_)
        · replace h := h.1 hq5
          refine r_iconst (v := 0) hc dX8_keep_41 (by decide) ?_
          exact e_i hc hr hlk h dX8_keep_42
        · replace h := h.2 hq5
          refine r_iconst (v := 1) hc dX8_keep_37 (by decide) ?_
          refine r_goto (tgt := 42) hc dX8_keep_38 (by decide) ?_
          exact e_i hc hr hlk h dX8_keep_42
    · replace h := h.2 hq10
      refine r_aload_n hc dX8_keep_25 rfl ?_
      refine r_get (v := .ref (ad 22)) hc iX8_keep_X8 (Nat.lt_of_lt_of_le (by decide) hn) rfl rfl rfl 2 (by decide) fX8_keep_28 rfl dX8_keep_26 ?_
      refine r_iload_n hc dX8_keep_29 rfl ?_
      refine r_iload_n hc dX8_keep_30 rfl ?_
      refine r_callVi hc (zX4_mark hn σ1 x1 x2) h (Nat.lt_of_lt_of_le (by decide) hn) rfl rfl rfl (cwV 2 hc.2.2.2.2.1 gX8_keep_X4_mark rfl rfl rfl qX4_mark ⟨Nat.le_of_ble_eq_true rfl, Nat.le_of_ble_eq_true rfl⟩) rfl rfl (Nat.le_of_ble_eq_true rfl) dX8_keep_31 (fun r8 σ7 h => ?_)
      refine r_if_eq (tgt := 41) hc dX8_keep_34 (by decide) (fun hq9 => ?_) (fun hq9 => ?_)
      · replace h := h.1 hq9
        refine r_iconst (v := 0) hc dX8_keep_41 (by decide) ?_
        exact e_i hc hr hlk h dX8_keep_42
      · replace h := h.2 hq9
        refine r_iconst (v := 1) hc dX8_keep_37 (by decide) ?_
        refine r_goto (tgt := 42) hc dX8_keep_38 (by decide) ?_
        exact e_i hc hr hlk h dX8_keep_42
theorem iX8_kept_X8 : ∀ w ∈ u_ws RX8 TX8 8, w ∈ wsX8_kept := by decide +kernel
theorem fX8_kept_28 : Cond.fieldLink RX8 28 (TX8 2).1 (TX8 2).2.1 (TX8 2).2.2.1 ∈ wsX8_kept := by decide +kernel
theorem oX8_kept_63 : Jvm.Cond.constant RX8 63 (-2000000002) ∈ wsX8_kept := by decide +kernel
set_option maxHeartbeats 4000000 in
set_option maxRecDepth 100000 in
theorem zX8_kept {cy : Nat → ClassId} {ad : Nat → Nat} {n : Nat} {D : va_G} {A : Nat → Prop} {l : Launch} (hn : 49 ≤ n) (σ : St) (x1 : Int32) : Ci TC cy ad n D A l yX8_kept wsX8_kept rmX8_kept σ [.ref (ad 48), .int x1] (fun Q => vX8_kept Q σ x1) := by
  intro Q h
  refine startW (cc := cX8_kept) (nL := 2) (own := RX8) (lo := [some (.ref (ad 48)), some (.int x1)]) (by decide) rfl rfl (lo_start (av := [.ref (ad 48), .int x1]) (k := 0) (allc1_ok (l := [.ref (ad 48), .int x1]) trivial)) (Nat.le_of_ble_eq_true rfl) (fun p e s m args below meth c hc hr hlk => ?_)
  unfold vX8_kept at h
  refine r_aload_n hc dX8_kept_0 rfl ?_
  refine r_get (v := .ref (ad 22)) hc iX8_kept_X8 (Nat.lt_of_lt_of_le (by decide) hn) rfl rfl rfl 2 (by decide) fX8_kept_28 rfl dX8_kept_1 ?_
  refine r_iload_n hc dX8_kept_4 rfl ?_
  refine r_callVi hc (zX4_has hn σ x1) h (Nat.lt_of_lt_of_le (by decide) hn) rfl rfl rfl (cwV 1 hc.2.2.2.2.1 gX8_kept_X4_has rfl rfl rfl qX4_has ⟨Nat.le_of_ble_eq_true rfl, Nat.le_of_ble_eq_true rfl⟩) rfl rfl (Nat.le_of_ble_eq_true rfl) dX8_kept_5 (fun r2 σ1 h => ?_)
  refine r_if_ne (tgt := 14) hc dX8_kept_8 (by decide) (fun hq6 => ?_) (fun hq6 => ?_)
  · replace h := h.1 hq6
    refine r_ldc (v := (-2000000002)) hc dX8_kept_11 oX8_kept_63 ?_
    exact e_i hc hr hlk h dX8_kept_13
  · replace h := h.2 hq6
    refine r_aload_n hc dX8_kept_14 rfl ?_
    refine r_get (v := .ref (ad 22)) hc iX8_kept_X8 (Nat.lt_of_lt_of_le (by decide) hn) rfl rfl rfl 2 (by decide) fX8_kept_28 rfl dX8_kept_15 ?_
    refine r_iload_n hc dX8_kept_18 rfl ?_
    refine r_callVi hc (zX4_isKept hn σ1 x1) h (Nat.lt_of_lt_of_le (by decide) hn) rfl rfl rfl (cwV 1 hc.2.2.2.2.1 gX8_kept_X4_isKept rfl rfl rfl qX4_isKept ⟨Nat.le_of_ble_eq_true rfl, Nat.le_of_ble_eq_true rfl⟩) rfl rfl (Nat.le_of_ble_eq_true rfl) dX8_kept_19 (fun r4 σ3 h => ?_)
    refine r_if_eq (tgt := 29) hc dX8_kept_22 (by decide) (fun hq5 => ?_) (fun hq5 => ?_)
    · replace h := h.1 hq5
      refine r_iconst (v := 0) hc dX8_kept_29 (by decide) ?_
      exact e_i hc hr hlk h dX8_kept_30
    · replace h := h.2 hq5
      refine r_iconst (v := 1) hc dX8_kept_25 (by decide) ?_
      refine r_goto (tgt := 30) hc dX8_kept_26 (by decide) ?_
      exact e_i hc hr hlk h dX8_kept_30
theorem iX8_level_X8 : ∀ w ∈ u_ws RX8 TX8 8, w ∈ wsX8_level := by decide +kernel
theorem fX8_level_12 : Cond.fieldLink RX8 12 (TX8 0).1 (TX8 0).2.1 (TX8 0).2.2.1 ∈ wsX8_level := by decide +kernel
theorem oX8_level_63 : Jvm.Cond.constant RX8 63 (-2000000002) ∈ wsX8_level := by decide +kernel
theorem iX8_level_X1 : ∀ w ∈ u_ws RX1 TX1 6, w ∈ wsX8_level := by decide +kernel
theorem fX8_level_83 : (RX8, 83, (TX1 3).1, (TX1 3).2.1, (TX1 3).2.2.1, "CubeDesk") ∈ nestF := by decide +kernel
theorem fX8_level_19 : Cond.fieldLink RX8 19 (TX8 1).1 (TX8 1).2.1 (TX8 1).2.2.1 ∈ wsX8_level := by decide +kernel
theorem iX8_level_X2 : ∀ w ∈ u_ws RX2 TX2 5, w ∈ wsX8_level := by decide +kernel
theorem fX8_level_64 : (RX8, 64, (TX2 3).1, (TX2 3).2.1, (TX2 3).2.2.1, "CubeDesk") ∈ nestF := by decide +kernel
theorem fX8_level_28 : Cond.fieldLink RX8 28 (TX8 2).1 (TX8 2).2.1 (TX8 2).2.2.1 ∈ wsX8_level := by decide +kernel
theorem oX8_level_71 : Jvm.Cond.constant RX8 71 (-2000000004) ∈ wsX8_level := by decide +kernel
theorem oX8_level_67 : Jvm.Cond.constant RX8 67 (-2000000003) ∈ wsX8_level := by decide +kernel
set_option maxHeartbeats 4000000 in
set_option maxRecDepth 100000 in
theorem zX8_level {cy : Nat → ClassId} {ad : Nat → Nat} {n : Nat} {D : va_G} {A : Nat → Prop} {l : Launch} (hn : 49 ≤ n) (σ : St) (x1 : Int32) (x2 : Int32) : Ci TC cy ad n D A l yX8_level wsX8_level rmX8_level σ [.ref (ad 48), .int x1, .int x2] (fun Q => vX8_level Q σ x1 x2) := by
  intro Q h
  refine startW (cc := cX8_level) (nL := 5) (own := RX8) (lo := [some (.ref (ad 48)), some (.int x1), some (.int x2), none, none]) (by decide) rfl rfl (lo_start (av := [.ref (ad 48), .int x1, .int x2]) (k := 2) (allc1_ok (l := [.ref (ad 48), .int x1, .int x2]) trivial)) (Nat.le_of_ble_eq_true rfl) (fun p e s m args below meth c hc hr hlk => ?_)
  unfold vX8_level at h
  refine r_aload_n hc dX8_level_0 rfl ?_
  refine r_get (v := .ref (ad 0)) hc iX8_level_X8 (Nat.lt_of_lt_of_le (by decide) hn) rfl rfl rfl 0 (by decide) fX8_level_12 rfl dX8_level_1 ?_
  refine r_iload_n hc dX8_level_4 rfl ?_
  refine r_callVo hc (zX6_find (Nat.le_trans (by decide) hn) σ x1) h (Nat.lt_of_lt_of_le (by decide) hn) rfl rfl rfl (cwV 1 hc.2.2.2.2.1 gX8_level_X6_find rfl rfl rfl qX6_find ⟨Nat.le_of_ble_eq_true rfl, Nat.le_of_ble_eq_true rfl⟩) rfl rfl (Nat.le_of_ble_eq_true rfl) dX8_level_5 (fun r2 σ1 h => ?_)
  cases r2 with
  | none =>
    replace h := h.1 rfl
    refine r_astoreN_n hc dX8_level_8 rfl (by decide) (ss (ss (s1 trivial))) ?_
    refine r_aloadN_n hc dX8_level_9 rfl ?_
    refine r_ifnull_n (tgt := 32) hc dX8_level_10 (by decide) ?_
    refine r_ldc (v := (-2000000002)) hc dX8_level_32 oX8_level_63 ?_
    exact e_i hc hr hlk h dX8_level_34
  | some k3 =>
    replace h := h.2 k3 rfl
    refine r_astore_n hc dX8_level_8 rfl (by decide) (ss (ss (s1 trivial))) ?_
    refine r_aload_n hc dX8_level_9 rfl ?_
    refine r_ifnull_r hc dX8_level_10 ?_
    refine r_iload_n hc dX8_level_13 rfl ?_
    refine r_iconst (v := 1) hc dX8_level_14 (by decide) ?_
    refine r_icmp_lt (tgt := 32) hc dX8_level_15 (by decide) (fun hq13 => ?_) (fun hq13 => ?_)
    · replace h := h.1 hq13
      refine r_ldc (v := (-2000000002)) hc dX8_level_32 oX8_level_63 ?_
      exact e_i hc hr hlk h dX8_level_34
    · replace h := h.2 hq13
      refine r_iload_n hc dX8_level_18 rfl ?_
      refine r_aload_n hc dX8_level_19 rfl ?_
      refine r_aload_n hc dX8_level_20 rfl ?_
      have hd4 := h.1
      replace h := h.2
      refine r_getN (v := .int (rd σ1 k3 3)) hc iX8_level_X1 (dm_lt0 hd4 (Nat.le_trans (by decide) hn)) (dm_T hd4) (dm_L hd4) rfl 3 (by decide) fX8_level_83 rfl dX8_level_21 ?_
      refine r_iconst (v := 1) hc dX8_level_24 (by decide) ?_
      refine r_isub hc dX8_level_25 ?_
      refine r_callVi hc (zX1_widthOf (Nat.le_trans (by decide) hn) hd4 σ1 ((rd σ1 k3 3) - 1)) h (dm_lt0 hd4 (Nat.le_trans (by decide) hn)) (dm_T hd4) (dm_L hd4) rfl (cwV 1 hc.2.2.2.2.1 gX8_level_X1_widthOf rfl rfl rfl qX1_widthOf ⟨Nat.le_of_ble_eq_true rfl, Nat.le_of_ble_eq_true rfl⟩) rfl rfl (Nat.le_of_ble_eq_true rfl) dX8_level_26 (fun r6 σ5 h => ?_)
      refine r_icmp_le (tgt := 35) hc dX8_level_29 (by decide) (fun hq12 => ?_) (fun hq12 => ?_)
      · replace h := h.1 hq12
        refine r_aload_n hc dX8_level_35 rfl ?_
        refine r_get (v := .ref (ad 18)) hc iX8_level_X8 (Nat.lt_of_lt_of_le (by decide) hn) rfl rfl rfl 1 (by decide) fX8_level_19 rfl dX8_level_36 ?_
        refine r_getN (v := .int (rd σ5 18 3)) hc iX8_level_X2 (Nat.lt_of_lt_of_le (by decide) hn) rfl rfl rfl 3 (by decide) fX8_level_64 rfl dX8_level_39 ?_
        refine r_if_le (tgt := 48) hc dX8_level_42 (by decide) (fun hq11 => ?_) (fun hq11 => ?_)
        · replace h := h.1 hq11
          refine r_aload_n hc dX8_level_48 rfl ?_
          refine r_getN (v := .int (rd σ5 k3 3)) hc iX8_level_X1 (dm_lt0 hd4 (Nat.le_trans (by decide) hn)) (dm_T hd4) (dm_L hd4) rfl 3 (by decide) fX8_level_83 rfl dX8_level_49 ?_
          refine r_iconst (v := 3) hc dX8_level_52 (by decide) ?_
          refine r_icmp_lt (tgt := 59) hc dX8_level_53 (by decide) (fun hq10 => ?_) (fun hq10 => ?_)
          · replace h := h.1 hq10
            refine r_aload_n hc dX8_level_59 rfl ?_
            refine r_iload_n hc dX8_level_60 rfl ?_
            refine r_callVi hc (zX1_raise (Nat.le_trans (by decide) hn) hd4 σ5 x2) h (dm_lt0 hd4 (Nat.le_trans (by decide) hn)) (dm_T hd4) (dm_L hd4) rfl (cwV 1 hc.2.2.2.2.1 gX8_level_X1_raise rfl rfl rfl qX1_raise ⟨Nat.le_of_ble_eq_true rfl, Nat.le_of_ble_eq_true rfl⟩) rfl rfl (Nat.le_of_ble_eq_true rfl) dX8_level_61 (fun r8 σ7 h => ?_)
            refine r_istore hc dX8_level_64 (by decide) (ss (ss (ss (s1 trivial)))) ?_
            refine r_aload_n hc dX8_level_66 rfl ?_
            refine r_get (v := .ref (ad 22)) hc iX8_level_X8 (Nat.lt_of_lt_of_le (by decide) hn) rfl rfl rfl 2 (by decide) fX8_level_28 rfl dX8_level_67 ?_
            refine r_callVv hc (zX4_rebuild (Nat.le_trans (by decide) hn) σ7) h (Nat.lt_of_lt_of_le (by decide) hn) rfl rfl rfl (cwV 0 hc.2.2.2.2.1 gX8_level_X4_rebuild rfl rfl rfl qX4_rebuild ⟨Nat.le_of_ble_eq_true rfl, Nat.le_of_ble_eq_true rfl⟩) rfl rfl (Nat.le_of_ble_eq_true rfl) dX8_level_70 (fun σ9 h => ?_)
            refine r_iload hc dX8_level_73 rfl ?_
            exact e_i hc hr hlk h dX8_level_75
          · replace h := h.2 hq10
            refine r_ldc (v := (-2000000004)) hc dX8_level_56 oX8_level_71 ?_
            exact e_i hc hr hlk h dX8_level_58
        · replace h := h.2 hq11
          refine r_ldc (v := (-2000000003)) hc dX8_level_45 oX8_level_67 ?_
          exact e_i hc hr hlk h dX8_level_47
      · replace h := h.2 hq12
        refine r_ldc (v := (-2000000002)) hc dX8_level_32 oX8_level_63 ?_
        exact e_i hc hr hlk h dX8_level_34
theorem iX8_levelOf_X8 : ∀ w ∈ u_ws RX8 TX8 8, w ∈ wsX8_levelOf := by decide +kernel
theorem fX8_levelOf_28 : Cond.fieldLink RX8 28 (TX8 2).1 (TX8 2).2.1 (TX8 2).2.2.1 ∈ wsX8_levelOf := by decide +kernel
theorem oX8_levelOf_63 : Jvm.Cond.constant RX8 63 (-2000000002) ∈ wsX8_levelOf := by decide +kernel
theorem fX8_levelOf_12 : Cond.fieldLink RX8 12 (TX8 0).1 (TX8 0).2.1 (TX8 0).2.2.1 ∈ wsX8_levelOf := by decide +kernel
set_option maxHeartbeats 4000000 in
set_option maxRecDepth 100000 in
theorem zX8_levelOf {cy : Nat → ClassId} {ad : Nat → Nat} {n : Nat} {D : va_G} {A : Nat → Prop} {l : Launch} (hn : 49 ≤ n) (σ : St) (x1 : Int32) (x2 : Int32) : Ci TC cy ad n D A l yX8_levelOf wsX8_levelOf rmX8_levelOf σ [.ref (ad 48), .int x1, .int x2] (fun Q => vX8_levelOf Q σ x1 x2) := by
  intro Q h
  refine startW (cc := cX8_levelOf) (nL := 3) (own := RX8) (lo := [some (.ref (ad 48)), some (.int x1), some (.int x2)]) (by decide) rfl rfl (lo_start (av := [.ref (ad 48), .int x1, .int x2]) (k := 0) (allc1_ok (l := [.ref (ad 48), .int x1, .int x2]) trivial)) (Nat.le_of_ble_eq_true rfl) (fun p e s m args below meth c hc hr hlk => ?_)
  unfold vX8_levelOf at h
  refine r_aload_n hc dX8_levelOf_0 rfl ?_
  refine r_get (v := .ref (ad 22)) hc iX8_levelOf_X8 (Nat.lt_of_lt_of_le (by decide) hn) rfl rfl rfl 2 (by decide) fX8_levelOf_28 rfl dX8_levelOf_1 ?_
  refine r_iload_n hc dX8_levelOf_4 rfl ?_
  refine r_callVi hc (zX4_has hn σ x1) h (Nat.lt_of_lt_of_le (by decide) hn) rfl rfl rfl (cwV 1 hc.2.2.2.2.1 gX8_levelOf_X4_has rfl rfl rfl qX4_has ⟨Nat.le_of_ble_eq_true rfl, Nat.le_of_ble_eq_true rfl⟩) rfl rfl (Nat.le_of_ble_eq_true rfl) dX8_levelOf_5 (fun r2 σ1 h => ?_)
  refine r_if_eq (tgt := 22) hc dX8_levelOf_8 (by decide) (fun hq10 => ?_) (fun hq10 => ?_)
  · replace h := h.1 hq10
    refine r_ldc (v := (-2000000002)) hc dX8_levelOf_22 oX8_levelOf_63 ?_
    exact e_i hc hr hlk h dX8_levelOf_24
  · replace h := h.2 hq10
    refine r_aload_n hc dX8_levelOf_11 rfl ?_
    refine r_get (v := .ref (ad 0)) hc iX8_levelOf_X8 (Nat.lt_of_lt_of_le (by decide) hn) rfl rfl rfl 0 (by decide) fX8_levelOf_12 rfl dX8_levelOf_12 ?_
    refine r_iload_n hc dX8_levelOf_15 rfl ?_
    refine r_callVo hc (zX6_find (Nat.le_trans (by decide) hn) σ1 x2) h (Nat.lt_of_lt_of_le (by decide) hn) rfl rfl rfl (cwV 1 hc.2.2.2.2.1 gX8_levelOf_X6_find rfl rfl rfl qX6_find ⟨Nat.le_of_ble_eq_true rfl, Nat.le_of_ble_eq_true rfl⟩) rfl rfl (Nat.le_of_ble_eq_true rfl) dX8_levelOf_16 (fun r4 σ3 h => ?_)
    cases r4 with
    | none =>
      replace h := h.1 rfl
      refine r_ifnonnull_n hc dX8_levelOf_19 ?_
      refine r_ldc (v := (-2000000002)) hc dX8_levelOf_22 oX8_levelOf_63 ?_
      exact e_i hc hr hlk h dX8_levelOf_24
    | some k5 =>
      replace h := h.2 k5 rfl
      refine r_ifnonnull_r (tgt := 25) hc dX8_levelOf_19 (by decide) ?_
      refine r_aload_n hc dX8_levelOf_25 rfl ?_
      refine r_get (v := .ref (ad 22)) hc iX8_levelOf_X8 (Nat.lt_of_lt_of_le (by decide) hn) rfl rfl rfl 2 (by decide) fX8_levelOf_28 rfl dX8_levelOf_26 ?_
      refine r_iload_n hc dX8_levelOf_29 rfl ?_
      refine r_callVi hc (zX4_levelsOf hn σ3 x1) h (Nat.lt_of_lt_of_le (by decide) hn) rfl rfl rfl (cwV 1 hc.2.2.2.2.1 gX8_levelOf_X4_levelsOf rfl rfl rfl qX4_levelsOf ⟨Nat.le_of_ble_eq_true rfl, Nat.le_of_ble_eq_true rfl⟩) rfl rfl (Nat.le_of_ble_eq_true rfl) dX8_levelOf_30 (fun r7 σ6 h => ?_)
      refine r_iload_n hc dX8_levelOf_33 rfl ?_
      refine r_callSi hc (zX6_levelIn (Nat.le_trans (by decide) hn) σ6 r7 x2) h (va_cwS 2 hc.2.2.2.2.1 gX8_levelOf_X6_levelIn rfl rfl rfl qX6_levelIn ⟨Nat.le_of_ble_eq_true rfl, Nat.le_of_ble_eq_true rfl⟩) rfl rfl (Nat.le_of_ble_eq_true rfl) dX8_levelOf_34 (fun r9 σ8 h => ?_)
      exact e_i hc hr hlk h dX8_levelOf_37
theorem iX8_lies_X8 : ∀ w ∈ u_ws RX8 TX8 8, w ∈ wsX8_lies := by decide +kernel
theorem fX8_lies_12 : Cond.fieldLink RX8 12 (TX8 0).1 (TX8 0).2.1 (TX8 0).2.2.1 ∈ wsX8_lies := by decide +kernel
theorem oX8_lies_63 : Jvm.Cond.constant RX8 63 (-2000000002) ∈ wsX8_lies := by decide +kernel
set_option maxHeartbeats 4000000 in
set_option maxRecDepth 100000 in
theorem zX8_lies {cy : Nat → ClassId} {ad : Nat → Nat} {n : Nat} {D : va_G} {A : Nat → Prop} {l : Launch} (hn : 49 ≤ n) (σ : St) (x1 : Int32) (x2 : Int32) (x3 : Int32) : Ci TC cy ad n D A l yX8_lies wsX8_lies rmX8_lies σ [.ref (ad 48), .int x1, .int x2, .int x3] (fun Q => vX8_lies Q σ x1 x2 x3) := by
  intro Q h
  refine startW (cc := cX8_lies) (nL := 5) (own := RX8) (lo := [some (.ref (ad 48)), some (.int x1), some (.int x2), some (.int x3), none]) (by decide) rfl rfl (lo_start (av := [.ref (ad 48), .int x1, .int x2, .int x3]) (k := 1) (allc1_ok (l := [.ref (ad 48), .int x1, .int x2, .int x3]) trivial)) (Nat.le_of_ble_eq_true rfl) (fun p e s m args below meth c hc hr hlk => ?_)
  unfold vX8_lies at h
  refine r_aload_n hc dX8_lies_0 rfl ?_
  refine r_get (v := .ref (ad 0)) hc iX8_lies_X8 (Nat.lt_of_lt_of_le (by decide) hn) rfl rfl rfl 0 (by decide) fX8_lies_12 rfl dX8_lies_1 ?_
  refine r_iload_n hc dX8_lies_4 rfl ?_
  refine r_callVo hc (zX6_find (Nat.le_trans (by decide) hn) σ x1) h (Nat.lt_of_lt_of_le (by decide) hn) rfl rfl rfl (cwV 1 hc.2.2.2.2.1 gX8_lies_X6_find rfl rfl rfl qX6_find ⟨Nat.le_of_ble_eq_true rfl, Nat.le_of_ble_eq_true rfl⟩) rfl rfl (Nat.le_of_ble_eq_true rfl) dX8_lies_5 (fun r2 σ1 h => ?_)
  cases r2 with
  | none =>
    replace h := h.1 rfl
    refine r_astoreN hc dX8_lies_8 (by decide) (ss (ss (ss (s1 trivial)))) ?_
    refine r_aloadN hc dX8_lies_10 rfl ?_
    refine r_ifnull_n (tgt := 34) hc dX8_lies_12 (by decide) ?_
    refine r_ldc (v := (-2000000002)) hc dX8_lies_34 oX8_lies_63 ?_
    exact e_i hc hr hlk h dX8_lies_36
  | some k3 =>
    replace h := h.2 k3 rfl
    refine r_astore hc dX8_lies_8 (by decide) (ss (ss (ss (s1 trivial)))) ?_
    refine r_aload hc dX8_lies_10 rfl ?_
    refine r_ifnull_r hc dX8_lies_12 ?_
    refine r_aload hc dX8_lies_15 rfl ?_
    refine r_iconst (v := 0) hc dX8_lies_17 (by decide) ?_
    refine r_iload_n hc dX8_lies_18 rfl ?_
    have hd4 := h.1
    replace h := h.2
    refine r_callVi hc (zX1_hasMember (Nat.le_trans (by decide) hn) hd4 σ1 0 x2) h (dm_lt0 hd4 (Nat.le_trans (by decide) hn)) (dm_T hd4) (dm_L hd4) rfl (cwV 2 hc.2.2.2.2.1 gX8_lies_X1_hasMember rfl rfl rfl qX1_hasMember ⟨Nat.le_of_ble_eq_true rfl, Nat.le_of_ble_eq_true rfl⟩) rfl rfl (Nat.le_of_ble_eq_true rfl) dX8_lies_19 (fun r6 σ5 h => ?_)
    refine r_if_eq (tgt := 34) hc dX8_lies_22 (by decide) (fun hq12 => ?_) (fun hq12 => ?_)
    · replace h := h.1 hq12
      refine r_ldc (v := (-2000000002)) hc dX8_lies_34 oX8_lies_63 ?_
      exact e_i hc hr hlk h dX8_lies_36
    · replace h := h.2 hq12
      refine r_aload hc dX8_lies_25 rfl ?_
      refine r_iload_n hc dX8_lies_27 rfl ?_
      refine r_callVi hc (zX1_hasLevel (Nat.le_trans (by decide) hn) hd4 σ5 x3) h (dm_lt0 hd4 (Nat.le_trans (by decide) hn)) (dm_T hd4) (dm_L hd4) rfl (cwV 1 hc.2.2.2.2.1 gX8_lies_X1_hasLevel rfl rfl rfl qX1_hasLevel ⟨Nat.le_of_ble_eq_true rfl, Nat.le_of_ble_eq_true rfl⟩) rfl rfl (Nat.le_of_ble_eq_true rfl) dX8_lies_28 (fun r8 σ7 h => ?_)
      refine r_if_ne (tgt := 37) hc dX8_lies_31 (by decide) (fun hq11 => ?_) (fun hq11 => ?_)
      · replace h := h.1 hq11
        refine r_ldc (v := (-2000000002)) hc dX8_lies_34 oX8_lies_63 ?_
        exact e_i hc hr hlk h dX8_lies_36
      · replace h := h.2 hq11
        refine r_aload hc dX8_lies_37 rfl ?_
        refine r_iload_n hc dX8_lies_39 rfl ?_
        refine r_iload_n hc dX8_lies_40 rfl ?_
        refine r_callVi hc (zX1_homeOf (Nat.le_trans (by decide) hn) hd4 σ7 x2 x3) h (dm_lt0 hd4 (Nat.le_trans (by decide) hn)) (dm_T hd4) (dm_L hd4) rfl (cwV 2 hc.2.2.2.2.1 gX8_lies_X1_homeOf rfl rfl rfl qX1_homeOf ⟨Nat.le_of_ble_eq_true rfl, Nat.le_of_ble_eq_true rfl⟩) rfl rfl (Nat.le_of_ble_eq_true rfl) dX8_lies_41 (fun r10 σ9 h => ?_)
        exact e_i hc hr hlk h dX8_lies_44
theorem iX8_members_X8 : ∀ w ∈ u_ws RX8 TX8 8, w ∈ wsX8_members := by decide +kernel
theorem fX8_members_12 : Cond.fieldLink RX8 12 (TX8 0).1 (TX8 0).2.1 (TX8 0).2.2.1 ∈ wsX8_members := by decide +kernel
theorem oX8_members_63 : Jvm.Cond.constant RX8 63 (-2000000002) ∈ wsX8_members := by decide +kernel
set_option maxHeartbeats 4000000 in
set_option maxRecDepth 100000 in
theorem zX8_members {cy : Nat → ClassId} {ad : Nat → Nat} {n : Nat} {D : va_G} {A : Nat → Prop} {l : Launch} (hn : 49 ≤ n) (σ : St) (x1 : Int32) (x2 : Int32) : Ci TC cy ad n D A l yX8_members wsX8_members rmX8_members σ [.ref (ad 48), .int x1, .int x2] (fun Q => vX8_members Q σ x1 x2) := by
  intro Q h
  refine startW (cc := cX8_members) (nL := 4) (own := RX8) (lo := [some (.ref (ad 48)), some (.int x1), some (.int x2), none]) (by decide) rfl rfl (lo_start (av := [.ref (ad 48), .int x1, .int x2]) (k := 1) (allc1_ok (l := [.ref (ad 48), .int x1, .int x2]) trivial)) (Nat.le_of_ble_eq_true rfl) (fun p e s m args below meth c hc hr hlk => ?_)
  unfold vX8_members at h
  refine r_aload_n hc dX8_members_0 rfl ?_
  refine r_get (v := .ref (ad 0)) hc iX8_members_X8 (Nat.lt_of_lt_of_le (by decide) hn) rfl rfl rfl 0 (by decide) fX8_members_12 rfl dX8_members_1 ?_
  refine r_iload_n hc dX8_members_4 rfl ?_
  refine r_callVo hc (zX6_find (Nat.le_trans (by decide) hn) σ x1) h (Nat.lt_of_lt_of_le (by decide) hn) rfl rfl rfl (cwV 1 hc.2.2.2.2.1 gX8_members_X6_find rfl rfl rfl qX6_find ⟨Nat.le_of_ble_eq_true rfl, Nat.le_of_ble_eq_true rfl⟩) rfl rfl (Nat.le_of_ble_eq_true rfl) dX8_members_5 (fun r2 σ1 h => ?_)
  cases r2 with
  | none =>
    replace h := h.1 rfl
    refine r_astoreN_n hc dX8_members_8 rfl (by decide) (ss (ss (s1 trivial))) ?_
    refine r_aloadN_n hc dX8_members_9 rfl ?_
    refine r_ifnull_n (tgt := 21) hc dX8_members_10 (by decide) ?_
    refine r_ldc (v := (-2000000002)) hc dX8_members_21 oX8_members_63 ?_
    exact e_i hc hr hlk h dX8_members_23
  | some k3 =>
    replace h := h.2 k3 rfl
    refine r_astore_n hc dX8_members_8 rfl (by decide) (ss (ss (s1 trivial))) ?_
    refine r_aload_n hc dX8_members_9 rfl ?_
    refine r_ifnull_r hc dX8_members_10 ?_
    refine r_aload_n hc dX8_members_13 rfl ?_
    refine r_iload_n hc dX8_members_14 rfl ?_
    have hd4 := h.1
    replace h := h.2
    refine r_callVi hc (zX1_hasLevel (Nat.le_trans (by decide) hn) hd4 σ1 x2) h (dm_lt0 hd4 (Nat.le_trans (by decide) hn)) (dm_T hd4) (dm_L hd4) rfl (cwV 1 hc.2.2.2.2.1 gX8_members_X1_hasLevel rfl rfl rfl qX1_hasLevel ⟨Nat.le_of_ble_eq_true rfl, Nat.le_of_ble_eq_true rfl⟩) rfl rfl (Nat.le_of_ble_eq_true rfl) dX8_members_15 (fun r6 σ5 h => ?_)
    refine r_if_ne (tgt := 24) hc dX8_members_18 (by decide) (fun hq9 => ?_) (fun hq9 => ?_)
    · replace h := h.1 hq9
      refine r_ldc (v := (-2000000002)) hc dX8_members_21 oX8_members_63 ?_
      exact e_i hc hr hlk h dX8_members_23
    · replace h := h.2 hq9
      refine r_aload_n hc dX8_members_24 rfl ?_
      refine r_iload_n hc dX8_members_25 rfl ?_
      refine r_callVi hc (zX1_widthOf (Nat.le_trans (by decide) hn) hd4 σ5 x2) h (dm_lt0 hd4 (Nat.le_trans (by decide) hn)) (dm_T hd4) (dm_L hd4) rfl (cwV 1 hc.2.2.2.2.1 gX8_members_X1_widthOf rfl rfl rfl qX1_widthOf ⟨Nat.le_of_ble_eq_true rfl, Nat.le_of_ble_eq_true rfl⟩) rfl rfl (Nat.le_of_ble_eq_true rfl) dX8_members_26 (fun r8 σ7 h => ?_)
      exact e_i hc hr hlk h dX8_members_29
theorem oX8_out_176 : Jvm.Cond.constant RX8 176 (-2000000001) ∈ wsX8_out := by decide +kernel
theorem iX8_out_X8 : ∀ w ∈ u_ws RX8 TX8 8, w ∈ wsX8_out := by decide +kernel
theorem fX8_out_51 : Cond.fieldLink RX8 51 (TX8 5).1 (TX8 5).2.1 (TX8 5).2.2.1 ∈ wsX8_out := by decide +kernel
theorem iX8_out_X5 : ∀ w ∈ u_ws RX5 TX5 2, w ∈ wsX8_out := by decide +kernel
theorem fX8_out_211 : (RX8, 211, (TX5 1).1, (TX5 1).2.1, (TX5 1).2.2.1, "CubeDesk") ∈ nestF := by decide +kernel
set_option maxHeartbeats 4000000 in
set_option maxRecDepth 100000 in
theorem zX8_out {cy : Nat → ClassId} {ad : Nat → Nat} {n : Nat} {D : va_G} {A : Nat → Prop} {l : Launch} (hn : 49 ≤ n) (σ : St) (x1 : Int32) : Ci TC cy ad n D A l yX8_out wsX8_out rmX8_out σ [.ref (ad 48), .int x1] (fun Q => vX8_out Q σ x1) := by
  intro Q h
  refine startW (cc := cX8_out) (nL := 2) (own := RX8) (lo := [some (.ref (ad 48)), some (.int x1)]) (by decide) rfl rfl (lo_start (av := [.ref (ad 48), .int x1]) (k := 0) (allc1_ok (l := [.ref (ad 48), .int x1]) trivial)) (Nat.le_of_ble_eq_true rfl) (fun p e s m args below meth c hc hr hlk => ?_)
  unfold vX8_out at h
  refine r_iload_n hc dX8_out_0 rfl ?_
  refine r_if_lt (tgt := 15) hc dX8_out_1 (by decide) (fun hq4 => ?_) (fun hq4 => ?_)
  · replace h := h.1 hq4
    refine r_ldc (v := (-2000000001)) hc dX8_out_15 oX8_out_176 ?_
    refine r_goto (tgt := 28) hc dX8_out_17 (by decide) ?_
    exact e_i hc hr hlk h dX8_out_28
  · replace h := h.2 hq4
    refine r_iload_n hc dX8_out_4 rfl ?_
    refine r_aload_n hc dX8_out_5 rfl ?_
    refine r_get (v := .ref (ad 45)) hc iX8_out_X8 (Nat.lt_of_lt_of_le (by decide) hn) rfl rfl rfl 5 (by decide) fX8_out_51 rfl dX8_out_6 ?_
    refine r_getN (v := .int (rd σ 45 1)) hc iX8_out_X5 (Nat.lt_of_lt_of_le (by decide) hn) rfl rfl rfl 1 (by decide) fX8_out_211 rfl dX8_out_9 ?_
    refine r_icmp_lt (tgt := 20) hc dX8_out_12 (by decide) (fun hq3 => ?_) (fun hq3 => ?_)
    · replace h := h.1 hq3
      refine r_aload_n hc dX8_out_20 rfl ?_
      refine r_get (v := .ref (ad 45)) hc iX8_out_X8 (Nat.lt_of_lt_of_le (by decide) hn) rfl rfl rfl 5 (by decide) fX8_out_51 rfl dX8_out_21 ?_
      refine r_iload_n hc dX8_out_24 rfl ?_
      refine r_callVi hc (zX5_byteAt hn σ x1) h (Nat.lt_of_lt_of_le (by decide) hn) rfl rfl rfl (cwV 1 hc.2.2.2.2.1 gX8_out_X5_byteAt rfl rfl rfl qX5_byteAt ⟨Nat.le_of_ble_eq_true rfl, Nat.le_of_ble_eq_true rfl⟩) rfl rfl (Nat.le_of_ble_eq_true rfl) dX8_out_25 (fun r2 σ1 h => ?_)
      exact e_i hc hr hlk h dX8_out_28
    · replace h := h.2 hq3
      refine r_ldc (v := (-2000000001)) hc dX8_out_15 oX8_out_176 ?_
      refine r_goto (tgt := 28) hc dX8_out_17 (by decide) ?_
      exact e_i hc hr hlk h dX8_out_28
theorem iX8_parent_X8 : ∀ w ∈ u_ws RX8 TX8 8, w ∈ wsX8_parent := by decide +kernel
theorem fX8_parent_12 : Cond.fieldLink RX8 12 (TX8 0).1 (TX8 0).2.1 (TX8 0).2.2.1 ∈ wsX8_parent := by decide +kernel
theorem oX8_parent_63 : Jvm.Cond.constant RX8 63 (-2000000002) ∈ wsX8_parent := by decide +kernel
theorem iX8_parent_X1 : ∀ w ∈ u_ws RX1 TX1 6, w ∈ wsX8_parent := by decide +kernel
theorem fX8_parent_83 : (RX8, 83, (TX1 3).1, (TX1 3).2.1, (TX1 3).2.2.1, "CubeDesk") ∈ nestF := by decide +kernel
theorem fX8_parent_28 : Cond.fieldLink RX8 28 (TX8 2).1 (TX8 2).2.1 (TX8 2).2.2.1 ∈ wsX8_parent := by decide +kernel
set_option maxHeartbeats 4000000 in
set_option maxRecDepth 100000 in
theorem zX8_parent {cy : Nat → ClassId} {ad : Nat → Nat} {n : Nat} {D : va_G} {A : Nat → Prop} {l : Launch} (hn : 49 ≤ n) (σ : St) (x1 : Int32) (x2 : Int32) (x3 : Int32) (x4 : Int32) : Ci TC cy ad n D A l yX8_parent wsX8_parent rmX8_parent σ [.ref (ad 48), .int x1, .int x2, .int x3, .int x4] (fun Q => vX8_parent Q σ x1 x2 x3 x4) := by
  intro Q h
  refine startW (cc := cX8_parent) (nL := 7) (own := RX8) (lo := [some (.ref (ad 48)), some (.int x1), some (.int x2), some (.int x3), some (.int x4), none, none]) (by decide) rfl rfl (lo_start (av := [.ref (ad 48), .int x1, .int x2, .int x3, .int x4]) (k := 2) (allc1_ok (l := [.ref (ad 48), .int x1, .int x2, .int x3, .int x4]) trivial)) (Nat.le_of_ble_eq_true rfl) (fun p e s m args below meth c hc hr hlk => ?_)
  unfold vX8_parent at h
  refine r_aload_n hc dX8_parent_0 rfl ?_
  refine r_get (v := .ref (ad 0)) hc iX8_parent_X8 (Nat.lt_of_lt_of_le (by decide) hn) rfl rfl rfl 0 (by decide) fX8_parent_12 rfl dX8_parent_1 ?_
  refine r_iload_n hc dX8_parent_4 rfl ?_
  refine r_callVo hc (zX6_find (Nat.le_trans (by decide) hn) σ x1) h (Nat.lt_of_lt_of_le (by decide) hn) rfl rfl rfl (cwV 1 hc.2.2.2.2.1 gX8_parent_X6_find rfl rfl rfl qX6_find ⟨Nat.le_of_ble_eq_true rfl, Nat.le_of_ble_eq_true rfl⟩) rfl rfl (Nat.le_of_ble_eq_true rfl) dX8_parent_5 (fun r2 σ1 h => ?_)
  cases r2 with
  | none =>
    replace h := h.1 rfl
    refine r_astoreN hc dX8_parent_8 (by decide) (ss (ss (ss (ss (s1 trivial))))) ?_
    refine r_aloadN hc dX8_parent_10 rfl ?_
    refine r_ifnull_n (tgt := 30) hc dX8_parent_12 (by decide) ?_
    refine r_ldc (v := (-2000000002)) hc dX8_parent_30 oX8_parent_63 ?_
    exact e_i hc hr hlk h dX8_parent_32
  | some k3 =>
    replace h := h.2 k3 rfl
    refine r_astore hc dX8_parent_8 (by decide) (ss (ss (ss (ss (s1 trivial))))) ?_
    refine r_aload hc dX8_parent_10 rfl ?_
    refine r_ifnull_r hc dX8_parent_12 ?_
    refine r_iload_n hc dX8_parent_15 rfl ?_
    refine r_if_lt (tgt := 30) hc dX8_parent_16 (by decide) (fun hq15 => ?_) (fun hq15 => ?_)
    · replace h := h.1 hq15
      refine r_ldc (v := (-2000000002)) hc dX8_parent_30 oX8_parent_63 ?_
      exact e_i hc hr hlk h dX8_parent_32
    · replace h := h.2 hq15
      refine r_iload_n hc dX8_parent_19 rfl ?_
      refine r_aload hc dX8_parent_20 rfl ?_
      have hd4 := h.1
      replace h := h.2
      refine r_getN (v := .int (rd σ1 k3 3)) hc iX8_parent_X1 (dm_lt0 hd4 (Nat.le_trans (by decide) hn)) (dm_T hd4) (dm_L hd4) rfl 3 (by decide) fX8_parent_83 rfl dX8_parent_22 ?_
      refine r_iconst (v := 1) hc dX8_parent_25 (by decide) ?_
      refine r_isub hc dX8_parent_26 ?_
      refine r_icmp_lt (tgt := 33) hc dX8_parent_27 (by decide) (fun hq14 => ?_) (fun hq14 => ?_)
      · replace h := h.1 hq14
        refine r_aload hc dX8_parent_33 rfl ?_
        refine r_iload_n hc dX8_parent_35 rfl ?_
        refine r_iload_n hc dX8_parent_36 rfl ?_
        refine r_callVi hc (zX1_hasMember (Nat.le_trans (by decide) hn) hd4 σ1 x2 x3) h (dm_lt0 hd4 (Nat.le_trans (by decide) hn)) (dm_T hd4) (dm_L hd4) rfl (cwV 2 hc.2.2.2.2.1 gX8_parent_X1_hasMember rfl rfl rfl qX1_hasMember ⟨Nat.le_of_ble_eq_true rfl, Nat.le_of_ble_eq_true rfl⟩) rfl rfl (Nat.le_of_ble_eq_true rfl) dX8_parent_37 (fun r6 σ5 h => ?_)
        refine r_if_eq (tgt := 56) hc dX8_parent_40 (by decide) (fun hq13 => ?_) (fun hq13 => ?_)
        · replace h := h.1 hq13
          refine r_ldc (v := (-2000000002)) hc dX8_parent_56 oX8_parent_63 ?_
          exact e_i hc hr hlk h dX8_parent_58
        · replace h := h.2 hq13
          refine r_aload hc dX8_parent_43 rfl ?_
          refine r_iload_n hc dX8_parent_45 rfl ?_
          refine r_iconst (v := 1) hc dX8_parent_46 (by decide) ?_
          refine r_iadd hc dX8_parent_47 ?_
          refine r_iload hc dX8_parent_48 rfl ?_
          refine r_callVi hc (zX1_hasMember (Nat.le_trans (by decide) hn) hd4 σ5 (x2 + 1) x4) h (dm_lt0 hd4 (Nat.le_trans (by decide) hn)) (dm_T hd4) (dm_L hd4) rfl (cwV 2 hc.2.2.2.2.1 gX8_parent_X1_hasMember rfl rfl rfl qX1_hasMember ⟨Nat.le_of_ble_eq_true rfl, Nat.le_of_ble_eq_true rfl⟩) rfl rfl (Nat.le_of_ble_eq_true rfl) dX8_parent_50 (fun r8 σ7 h => ?_)
          refine r_if_ne (tgt := 59) hc dX8_parent_53 (by decide) (fun hq12 => ?_) (fun hq12 => ?_)
          · replace h := h.1 hq12
            refine r_ldc (v := (-2000000002)) hc dX8_parent_56 oX8_parent_63 ?_
            exact e_i hc hr hlk h dX8_parent_58
          · replace h := h.2 hq12
            refine r_aload hc dX8_parent_59 rfl ?_
            refine r_iload_n hc dX8_parent_61 rfl ?_
            refine r_iload_n hc dX8_parent_62 rfl ?_
            refine r_iload hc dX8_parent_63 rfl ?_
            refine r_callVi hc (zX1_hang (Nat.le_trans (by decide) hn) hd4 σ7 x2 x3 x4) h (dm_lt0 hd4 (Nat.le_trans (by decide) hn)) (dm_T hd4) (dm_L hd4) rfl (cwV 3 hc.2.2.2.2.1 gX8_parent_X1_hang rfl rfl rfl qX1_hang ⟨Nat.le_of_ble_eq_true rfl, Nat.le_of_ble_eq_true rfl⟩) rfl rfl (Nat.le_of_ble_eq_true rfl) dX8_parent_65 (fun r10 σ9 h => ?_)
            refine r_istore hc dX8_parent_68 (by decide) (ss (ss (ss (ss (ss (s1 trivial)))))) ?_
            refine r_aload_n hc dX8_parent_70 rfl ?_
            refine r_get (v := .ref (ad 22)) hc iX8_parent_X8 (Nat.lt_of_lt_of_le (by decide) hn) rfl rfl rfl 2 (by decide) fX8_parent_28 rfl dX8_parent_71 ?_
            refine r_callVv hc (zX4_forgetSizes (Nat.le_trans (by decide) hn) σ9) h (Nat.lt_of_lt_of_le (by decide) hn) rfl rfl rfl (cwV 0 hc.2.2.2.2.1 gX8_parent_X4_forgetSizes rfl rfl rfl qX4_forgetSizes ⟨Nat.le_of_ble_eq_true rfl, Nat.le_of_ble_eq_true rfl⟩) rfl rfl (Nat.le_of_ble_eq_true rfl) dX8_parent_74 (fun σ11 h => ?_)
            refine r_iload hc dX8_parent_77 rfl ?_
            exact e_i hc hr hlk h dX8_parent_79
      · replace h := h.2 hq14
        refine r_ldc (v := (-2000000002)) hc dX8_parent_30 oX8_parent_63 ?_
        exact e_i hc hr hlk h dX8_parent_32
theorem oX8_pick_63 : Jvm.Cond.constant RX8 63 (-2000000002) ∈ wsX8_pick := by decide +kernel
theorem iX8_pick_X8 : ∀ w ∈ u_ws RX8 TX8 8, w ∈ wsX8_pick := by decide +kernel
theorem fX8_pick_55 : Cond.fieldLink RX8 55 (TX8 6).1 (TX8 6).2.1 (TX8 6).2.2.1 ∈ wsX8_pick := by decide +kernel
set_option maxHeartbeats 4000000 in
set_option maxRecDepth 100000 in
theorem zX8_pick {cy : Nat → ClassId} {ad : Nat → Nat} {n : Nat} {D : va_G} {A : Nat → Prop} {l : Launch} (hn : 49 ≤ n) (σ : St) (x1 : Int32) (x2 : Int32) : Ci TC cy ad n D A l yX8_pick wsX8_pick rmX8_pick σ [.ref (ad 48), .int x1, .int x2] (fun Q => vX8_pick Q σ x1 x2) := by
  intro Q h
  refine startW (cc := cX8_pick) (nL := 4) (own := RX8) (lo := [some (.ref (ad 48)), some (.int x1), some (.int x2), none]) (by decide) rfl rfl (lo_start (av := [.ref (ad 48), .int x1, .int x2]) (k := 1) (allc1_ok (l := [.ref (ad 48), .int x1, .int x2]) trivial)) (Nat.le_of_ble_eq_true rfl) (fun p e s m args below meth c hc hr hlk => ?_)
  unfold vX8_pick at h
  refine r_iload_n hc dX8_pick_0 rfl ?_
  refine r_if_lt (tgt := 19) hc dX8_pick_1 (by decide) (fun hq4 => ?_) (fun hq4 => ?_)
  · replace h := h.1 hq4
    refine r_ldc (v := (-2000000002)) hc dX8_pick_19 oX8_pick_63 ?_
    exact e_i hc hr hlk h dX8_pick_21
  · replace h := h.2 hq4
    refine r_iload_n hc dX8_pick_4 rfl ?_
    refine r_iconst (v := 4) hc dX8_pick_5 (by decide) ?_
    refine r_icmp_ge (tgt := 19) hc dX8_pick_6 (by decide) (fun hq3 => ?_) (fun hq3 => ?_)
    · replace h := h.1 hq3
      refine r_ldc (v := (-2000000002)) hc dX8_pick_19 oX8_pick_63 ?_
      exact e_i hc hr hlk h dX8_pick_21
    · replace h := h.2 hq3
      refine r_iload_n hc dX8_pick_9 rfl ?_
      refine r_if_lt (tgt := 19) hc dX8_pick_10 (by decide) (fun hq2 => ?_) (fun hq2 => ?_)
      · replace h := h.1 hq2
        refine r_ldc (v := (-2000000002)) hc dX8_pick_19 oX8_pick_63 ?_
        exact e_i hc hr hlk h dX8_pick_21
      · replace h := h.2 hq2
        refine r_iload_n hc dX8_pick_13 rfl ?_
        refine r_bipush (v := 8) hc dX8_pick_14 (by decide) ?_
        refine r_icmp_lt (tgt := 22) hc dX8_pick_16 (by decide) (fun hq1 => ?_) (fun hq1 => ?_)
        · replace h := h.1 hq1
          refine r_aload_n hc dX8_pick_22 rfl ?_
          refine r_get (v := .ref (ad 47)) hc iX8_pick_X8 (Nat.lt_of_lt_of_le (by decide) hn) rfl rfl rfl 6 (by decide) fX8_pick_55 rfl dX8_pick_23 ?_
          refine r_iload_n hc dX8_pick_26 rfl ?_
          refine r_iald hc (Nat.lt_of_lt_of_le (by decide) hn) rfl rfl h.1 dX8_pick_27 ?_
          replace h := h.2
          refine r_istore_n hc dX8_pick_28 rfl (by decide) (ss (ss (s1 trivial))) ?_
          refine r_aload_n hc dX8_pick_29 rfl ?_
          refine r_get (v := .ref (ad 47)) hc iX8_pick_X8 (Nat.lt_of_lt_of_le (by decide) hn) rfl rfl rfl 6 (by decide) fX8_pick_55 rfl dX8_pick_30 ?_
          refine r_iload_n hc dX8_pick_33 rfl ?_
          refine r_iload_n hc dX8_pick_34 rfl ?_
          refine r_iast hc (Nat.lt_of_lt_of_le (by decide) hn) rfl rfl h.1 dX8_pick_35 ?_
          replace h := h.2
          refine r_iload_n hc dX8_pick_36 rfl ?_
          exact e_i hc hr hlk h dX8_pick_37
        · replace h := h.2 hq1
          refine r_ldc (v := (-2000000002)) hc dX8_pick_19 oX8_pick_63 ?_
          exact e_i hc hr hlk h dX8_pick_21
theorem iX8_read_X8 : ∀ w ∈ u_ws RX8 TX8 8, w ∈ wsX8_read := by decide +kernel
theorem fX8_read_59 : Cond.fieldLink RX8 59 (TX8 7).1 (TX8 7).2.1 (TX8 7).2.2.1 ∈ wsX8_read := by decide +kernel
set_option maxHeartbeats 4000000 in
set_option maxRecDepth 100000 in
theorem zX8_read {cy : Nat → ClassId} {ad : Nat → Nat} {n : Nat} {D : va_G} {A : Nat → Prop} {l : Launch} (hn : 49 ≤ n) (σ : St) : Ci TC cy ad n D A l yX8_read wsX8_read rmX8_read σ [.ref (ad 48)] (fun Q => vX8_read Q σ ) := by
  intro Q h
  refine startW (cc := cX8_read) (nL := 1) (own := RX8) (lo := [some (.ref (ad 48))]) (by decide) rfl rfl (lo_start (av := [.ref (ad 48)]) (k := 0) (allc1_ok (l := [.ref (ad 48)]) trivial)) (Nat.le_of_ble_eq_true rfl) (fun p e s m args below meth c hc hr hlk => ?_)
  unfold vX8_read at h
  refine r_aload_n hc dX8_read_0 rfl ?_
  refine r_get (v := .int (rd σ 48 7)) hc iX8_read_X8 (Nat.lt_of_lt_of_le (by decide) hn) rfl rfl rfl 7 (by decide) fX8_read_59 rfl dX8_read_1 ?_
  exact e_i hc hr hlk h dX8_read_4
theorem iX8_server_X8 : ∀ w ∈ u_ws RX8 TX8 8, w ∈ wsX8_server := by decide +kernel
theorem fX8_server_28 : Cond.fieldLink RX8 28 (TX8 2).1 (TX8 2).2.1 (TX8 2).2.2.1 ∈ wsX8_server := by decide +kernel
theorem oX8_server_63 : Jvm.Cond.constant RX8 63 (-2000000002) ∈ wsX8_server := by decide +kernel
set_option maxHeartbeats 4000000 in
set_option maxRecDepth 100000 in
theorem zX8_server {cy : Nat → ClassId} {ad : Nat → Nat} {n : Nat} {D : va_G} {A : Nat → Prop} {l : Launch} (hn : 49 ≤ n) (σ : St) (x1 : Int32) : Ci TC cy ad n D A l yX8_server wsX8_server rmX8_server σ [.ref (ad 48), .int x1] (fun Q => vX8_server Q σ x1) := by
  intro Q h
  refine startW (cc := cX8_server) (nL := 2) (own := RX8) (lo := [some (.ref (ad 48)), some (.int x1)]) (by decide) rfl rfl (lo_start (av := [.ref (ad 48), .int x1]) (k := 0) (allc1_ok (l := [.ref (ad 48), .int x1]) trivial)) (Nat.le_of_ble_eq_true rfl) (fun p e s m args below meth c hc hr hlk => ?_)
  unfold vX8_server at h
  refine r_aload_n hc dX8_server_0 rfl ?_
  refine r_get (v := .ref (ad 22)) hc iX8_server_X8 (Nat.lt_of_lt_of_le (by decide) hn) rfl rfl rfl 2 (by decide) fX8_server_28 rfl dX8_server_1 ?_
  refine r_iload_n hc dX8_server_4 rfl ?_
  refine r_callVi hc (zX4_has hn σ x1) h (Nat.lt_of_lt_of_le (by decide) hn) rfl rfl rfl (cwV 1 hc.2.2.2.2.1 gX8_server_X4_has rfl rfl rfl qX4_has ⟨Nat.le_of_ble_eq_true rfl, Nat.le_of_ble_eq_true rfl⟩) rfl rfl (Nat.le_of_ble_eq_true rfl) dX8_server_5 (fun r2 σ1 h => ?_)
  refine r_if_eq (tgt := 22) hc dX8_server_8 (by decide) (fun hq5 => ?_) (fun hq5 => ?_)
  · replace h := h.1 hq5
    refine r_ldc (v := (-2000000002)) hc dX8_server_22 oX8_server_63 ?_
    exact e_i hc hr hlk h dX8_server_24
  · replace h := h.2 hq5
    refine r_aload_n hc dX8_server_11 rfl ?_
    refine r_get (v := .ref (ad 22)) hc iX8_server_X8 (Nat.lt_of_lt_of_le (by decide) hn) rfl rfl rfl 2 (by decide) fX8_server_28 rfl dX8_server_12 ?_
    refine r_iload_n hc dX8_server_15 rfl ?_
    refine r_callVi hc (zX4_serverOf hn σ1 x1) h (Nat.lt_of_lt_of_le (by decide) hn) rfl rfl rfl (cwV 1 hc.2.2.2.2.1 gX8_server_X4_serverOf rfl rfl rfl qX4_serverOf ⟨Nat.le_of_ble_eq_true rfl, Nat.le_of_ble_eq_true rfl⟩) rfl rfl (Nat.le_of_ble_eq_true rfl) dX8_server_16 (fun r4 σ3 h => ?_)
    refine r_goto (tgt := 24) hc dX8_server_19 (by decide) ?_
    exact e_i hc hr hlk h dX8_server_24
theorem iX8_serves_X8 : ∀ w ∈ u_ws RX8 TX8 8, w ∈ wsX8_serves := by decide +kernel
theorem fX8_serves_28 : Cond.fieldLink RX8 28 (TX8 2).1 (TX8 2).2.1 (TX8 2).2.2.1 ∈ wsX8_serves := by decide +kernel
theorem oX8_serves_63 : Jvm.Cond.constant RX8 63 (-2000000002) ∈ wsX8_serves := by decide +kernel
set_option maxHeartbeats 4000000 in
set_option maxRecDepth 100000 in
theorem zX8_serves {cy : Nat → ClassId} {ad : Nat → Nat} {n : Nat} {D : va_G} {A : Nat → Prop} {l : Launch} (hn : 49 ≤ n) (σ : St) (x1 : Int32) (x2 : Int32) : Ci TC cy ad n D A l yX8_serves wsX8_serves rmX8_serves σ [.ref (ad 48), .int x1, .int x2] (fun Q => vX8_serves Q σ x1 x2) := by
  intro Q h
  refine startW (cc := cX8_serves) (nL := 3) (own := RX8) (lo := [some (.ref (ad 48)), some (.int x1), some (.int x2)]) (by decide) rfl rfl (lo_start (av := [.ref (ad 48), .int x1, .int x2]) (k := 0) (allc1_ok (l := [.ref (ad 48), .int x1, .int x2]) trivial)) (Nat.le_of_ble_eq_true rfl) (fun p e s m args below meth c hc hr hlk => ?_)
  unfold vX8_serves at h
  refine r_aload_n hc dX8_serves_0 rfl ?_
  refine r_get (v := .ref (ad 22)) hc iX8_serves_X8 (Nat.lt_of_lt_of_le (by decide) hn) rfl rfl rfl 2 (by decide) fX8_serves_28 rfl dX8_serves_1 ?_
  refine r_iload_n hc dX8_serves_4 rfl ?_
  refine r_callVi hc (zX4_has hn σ x1) h (Nat.lt_of_lt_of_le (by decide) hn) rfl rfl rfl (cwV 1 hc.2.2.2.2.1 gX8_serves_X4_has rfl rfl rfl qX4_has ⟨Nat.le_of_ble_eq_true rfl, Nat.le_of_ble_eq_true rfl⟩) rfl rfl (Nat.le_of_ble_eq_true rfl) dX8_serves_5 (fun r2 σ1 h => ?_)
  refine r_if_eq (tgt := 22) hc dX8_serves_8 (by decide) (fun hq9 => ?_) (fun hq9 => ?_)
  · replace h := h.1 hq9
    refine r_ldc (v := (-2000000002)) hc dX8_serves_22 oX8_serves_63 ?_
    exact e_i hc hr hlk h dX8_serves_24
  · replace h := h.2 hq9
    refine r_aload_n hc dX8_serves_11 rfl ?_
    refine r_get (v := .ref (ad 22)) hc iX8_serves_X8 (Nat.lt_of_lt_of_le (by decide) hn) rfl rfl rfl 2 (by decide) fX8_serves_28 rfl dX8_serves_12 ?_
    refine r_iload_n hc dX8_serves_15 rfl ?_
    refine r_callVi hc (zX4_has hn σ1 x2) h (Nat.lt_of_lt_of_le (by decide) hn) rfl rfl rfl (cwV 1 hc.2.2.2.2.1 gX8_serves_X4_has rfl rfl rfl qX4_has ⟨Nat.le_of_ble_eq_true rfl, Nat.le_of_ble_eq_true rfl⟩) rfl rfl (Nat.le_of_ble_eq_true rfl) dX8_serves_16 (fun r4 σ3 h => ?_)
    refine r_if_ne (tgt := 25) hc dX8_serves_19 (by decide) (fun hq8 => ?_) (fun hq8 => ?_)
    · replace h := h.1 hq8
      refine r_ldc (v := (-2000000002)) hc dX8_serves_22 oX8_serves_63 ?_
      exact e_i hc hr hlk h dX8_serves_24
    · replace h := h.2 hq8
      refine r_aload_n hc dX8_serves_25 rfl ?_
      refine r_get (v := .ref (ad 22)) hc iX8_serves_X8 (Nat.lt_of_lt_of_le (by decide) hn) rfl rfl rfl 2 (by decide) fX8_serves_28 rfl dX8_serves_26 ?_
      refine r_iload_n hc dX8_serves_29 rfl ?_
      refine r_iload_n hc dX8_serves_30 rfl ?_
      refine r_callVi hc (zX4_canServe hn σ3 x1 x2) h (Nat.lt_of_lt_of_le (by decide) hn) rfl rfl rfl (cwV 2 hc.2.2.2.2.1 gX8_serves_X4_canServe rfl rfl rfl qX4_canServe ⟨Nat.le_of_ble_eq_true rfl, Nat.le_of_ble_eq_true rfl⟩) rfl rfl (Nat.le_of_ble_eq_true rfl) dX8_serves_31 (fun r6 σ5 h => ?_)
      refine r_if_eq (tgt := 41) hc dX8_serves_34 (by decide) (fun hq7 => ?_) (fun hq7 => ?_)
      · replace h := h.1 hq7
        refine r_iconst (v := 0) hc dX8_serves_41 (by decide) ?_
        exact e_i hc hr hlk h dX8_serves_42
      · replace h := h.2 hq7
        refine r_iconst (v := 1) hc dX8_serves_37 (by decide) ?_
        refine r_goto (tgt := 42) hc dX8_serves_38 (by decide) ?_
        exact e_i hc hr hlk h dX8_serves_42
theorem iX8_sideOf_X8 : ∀ w ∈ u_ws RX8 TX8 8, w ∈ wsX8_sideOf := by decide +kernel
theorem fX8_sideOf_12 : Cond.fieldLink RX8 12 (TX8 0).1 (TX8 0).2.1 (TX8 0).2.2.1 ∈ wsX8_sideOf := by decide +kernel
set_option maxHeartbeats 4000000 in
set_option maxRecDepth 100000 in
theorem zX8_sideOf {cy : Nat → ClassId} {ad : Nat → Nat} {n : Nat} {D : va_G} {A : Nat → Prop} {l : Launch} (hn : 49 ≤ n) (σ : St) (x1 : Int32) : Co TC cy ad n D A l yX8_sideOf wsX8_sideOf rmX8_sideOf σ [.ref (ad 48), .int x1] (fun Q => vX8_sideOf Q σ x1) := by
  intro Q h
  refine startW (cc := cX8_sideOf) (nL := 3) (own := RX8) (lo := [some (.ref (ad 48)), some (.int x1), none]) (by decide) rfl rfl (lo_start (av := [.ref (ad 48), .int x1]) (k := 1) (allc1_ok (l := [.ref (ad 48), .int x1]) trivial)) (Nat.le_of_ble_eq_true rfl) (fun p e s m args below meth c hc hr hlk => ?_)
  unfold vX8_sideOf at h
  refine r_iload_n hc dX8_sideOf_0 rfl ?_
  refine r_if_ge (tgt := 6) hc dX8_sideOf_1 (by decide) (fun hq8 => ?_) (fun hq8 => ?_)
  · replace h := h.1 hq8
    refine r_aload_n hc dX8_sideOf_6 rfl ?_
    refine r_get (v := .ref (ad 0)) hc iX8_sideOf_X8 (Nat.lt_of_lt_of_le (by decide) hn) rfl rfl rfl 0 (by decide) fX8_sideOf_12 rfl dX8_sideOf_7 ?_
    refine r_iload_n hc dX8_sideOf_10 rfl ?_
    refine r_bipush (v := 10) hc dX8_sideOf_11 (by decide) ?_
    refine r_idiv hc dX8_sideOf_13 (by decide) ?_
    refine r_callVo hc (zX6_find (Nat.le_trans (by decide) hn) σ (x1 / 10)) h (Nat.lt_of_lt_of_le (by decide) hn) rfl rfl rfl (cwV 1 hc.2.2.2.2.1 gX8_sideOf_X6_find rfl rfl rfl qX6_find ⟨Nat.le_of_ble_eq_true rfl, Nat.le_of_ble_eq_true rfl⟩) rfl rfl (Nat.le_of_ble_eq_true rfl) dX8_sideOf_14 (fun r2 σ1 h => ?_)
    cases r2 with
    | none =>
      replace h := h.1 rfl
      refine r_astoreN_n hc dX8_sideOf_17 rfl (by decide) (ss (s1 trivial)) ?_
      refine r_aloadN_n hc dX8_sideOf_18 rfl ?_
      refine r_ifnull_n (tgt := 37) hc dX8_sideOf_19 (by decide) ?_
      refine r_null hc dX8_sideOf_37 ?_
      exact e_o (r := none) hc hr ⟨_, rfl⟩ hlk h dX8_sideOf_38
    | some k3 =>
      replace h := h.2 k3 rfl
      refine r_astore_n hc dX8_sideOf_17 rfl (by decide) (ss (s1 trivial)) ?_
      refine r_aload_n hc dX8_sideOf_18 rfl ?_
      refine r_ifnull_r hc dX8_sideOf_19 ?_
      refine r_aload_n hc dX8_sideOf_22 rfl ?_
      refine r_iload_n hc dX8_sideOf_23 rfl ?_
      refine r_bipush (v := 10) hc dX8_sideOf_24 (by decide) ?_
      refine r_irem hc dX8_sideOf_26 (by decide) ?_
      have hd4 := h.1
      replace h := h.2
      refine r_callVi hc (zX1_hasLevel (Nat.le_trans (by decide) hn) hd4 σ1 (x1 - x1 / 10 * 10)) h (dm_lt0 hd4 (Nat.le_trans (by decide) hn)) (dm_T hd4) (dm_L hd4) rfl (cwV 1 hc.2.2.2.2.1 gX8_sideOf_X1_hasLevel rfl rfl rfl qX1_hasLevel ⟨Nat.le_of_ble_eq_true rfl, Nat.le_of_ble_eq_true rfl⟩) rfl rfl (Nat.le_of_ble_eq_true rfl) dX8_sideOf_27 (fun r6 σ5 h => ?_)
      refine r_if_eq (tgt := 37) hc dX8_sideOf_30 (by decide) (fun hq7 => ?_) (fun hq7 => ?_)
      · replace h := h.1 hq7
        refine r_null hc dX8_sideOf_37 ?_
        exact e_o (r := none) hc hr ⟨_, rfl⟩ hlk h dX8_sideOf_38
      · replace h := h.2 hq7
        refine r_aload_n hc dX8_sideOf_33 rfl ?_
        refine r_goto (tgt := 38) hc dX8_sideOf_34 (by decide) ?_
        exact e_o (r := (some k3)) hc hr ⟨_, rfl⟩ hlk h dX8_sideOf_38
  · replace h := h.2 hq8
    refine r_null hc dX8_sideOf_4 ?_
    exact e_o (r := none) hc hr ⟨_, rfl⟩ hlk h dX8_sideOf_5
theorem iX8_size_X8 : ∀ w ∈ u_ws RX8 TX8 8, w ∈ wsX8_size := by decide +kernel
theorem fX8_size_28 : Cond.fieldLink RX8 28 (TX8 2).1 (TX8 2).2.1 (TX8 2).2.2.1 ∈ wsX8_size := by decide +kernel
theorem oX8_size_63 : Jvm.Cond.constant RX8 63 (-2000000002) ∈ wsX8_size := by decide +kernel
set_option maxHeartbeats 4000000 in
set_option maxRecDepth 100000 in
theorem zX8_size {cy : Nat → ClassId} {ad : Nat → Nat} {n : Nat} {D : va_G} {A : Nat → Prop} {l : Launch} (hn : 49 ≤ n) (σ : St) (x1 : Int32) : Ci TC cy ad n D A l yX8_size wsX8_size rmX8_size σ [.ref (ad 48), .int x1] (fun Q => vX8_size Q σ x1) := by
  intro Q h
  refine startW (cc := cX8_size) (nL := 2) (own := RX8) (lo := [some (.ref (ad 48)), some (.int x1)]) (by decide) rfl rfl (lo_start (av := [.ref (ad 48), .int x1]) (k := 0) (allc1_ok (l := [.ref (ad 48), .int x1]) trivial)) (Nat.le_of_ble_eq_true rfl) (fun p e s m args below meth c hc hr hlk => ?_)
  unfold vX8_size at h
  refine r_aload_n hc dX8_size_0 rfl ?_
  refine r_get (v := .ref (ad 22)) hc iX8_size_X8 (Nat.lt_of_lt_of_le (by decide) hn) rfl rfl rfl 2 (by decide) fX8_size_28 rfl dX8_size_1 ?_
  refine r_iload_n hc dX8_size_4 rfl ?_
  refine r_callVi hc (zX4_has hn σ x1) h (Nat.lt_of_lt_of_le (by decide) hn) rfl rfl rfl (cwV 1 hc.2.2.2.2.1 gX8_size_X4_has rfl rfl rfl qX4_has ⟨Nat.le_of_ble_eq_true rfl, Nat.le_of_ble_eq_true rfl⟩) rfl rfl (Nat.le_of_ble_eq_true rfl) dX8_size_5 (fun r2 σ1 h => ?_)
  refine r_if_eq (tgt := 22) hc dX8_size_8 (by decide) (fun hq5 => ?_) (fun hq5 => ?_)
  · replace h := h.1 hq5
    refine r_ldc (v := (-2000000002)) hc dX8_size_22 oX8_size_63 ?_
    exact e_i hc hr hlk h dX8_size_24
  · replace h := h.2 hq5
    refine r_aload_n hc dX8_size_11 rfl ?_
    refine r_get (v := .ref (ad 22)) hc iX8_size_X8 (Nat.lt_of_lt_of_le (by decide) hn) rfl rfl rfl 2 (by decide) fX8_size_28 rfl dX8_size_12 ?_
    refine r_iload_n hc dX8_size_15 rfl ?_
    refine r_callVi hc (zX4_sizeOf hn σ1 x1) h (Nat.lt_of_lt_of_le (by decide) hn) rfl rfl rfl (cwV 1 hc.2.2.2.2.1 gX8_size_X4_sizeOf rfl rfl rfl qX4_sizeOf ⟨Nat.le_of_ble_eq_true rfl, Nat.le_of_ble_eq_true rfl⟩) rfl rfl (Nat.le_of_ble_eq_true rfl) dX8_size_16 (fun r4 σ3 h => ?_)
    refine r_goto (tgt := 24) hc dX8_size_19 (by decide) ?_
    exact e_i hc hr hlk h dX8_size_24

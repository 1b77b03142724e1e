theorem iX4_serverOf_X4 : ∀ w ∈ u_ws RX4 TX4 8, w ∈ wsX4_serverOf := by decide +kernel
theorem fX4_serverOf_55 : Cond.fieldLink RX4 55 (TX4 7).1 (TX4 7).2.1 (TX4 7).2.2.1 ∈ wsX4_serverOf := by decide +kernel
theorem fX4_serverOf_18 : Cond.fieldLink RX4 18 (TX4 4).1 (TX4 4).2.1 (TX4 4).2.2.1 ∈ wsX4_serverOf := by decide +kernel
set_option maxHeartbeats 4000000 in
set_option maxRecDepth 100000 in
theorem tvX4_serverOf_L4 {cy : Nat → ClassId} {ad : Nat → Nat} {n : Nat} {D : va_G} {A : Nat → Prop} {l : Launch} {p : Program} {e : Env} {s : State} {m : MethodId} {args : Array Value} {below : List Frame} {meth : Method} {c : Code} {Q : Int32 → St → Prop} (hn : 49 ≤ n) (hc : CX p s m args c D cy cX4_serverOf 4 RX4 wsX4_serverOf) (hr : meth.sig.returnType = some .int) (hlk : meth.locks = false) : ∀ (q4 : Nat) (σ : St) (x1 : Int32) (x2 : Int32) (x3 : Int32), vX4_serverOf_L4 Q q4 σ x1 x2 x3 → WV TC cy ad n D A p l e rmX4_serverOf s m args below meth c 4 (MQ below (va_Qi Q (Bw TC cy ad n D) A) args s 0 0 A) σ [some (.ref (ad 22)), some (.int x1), some (.int x2), some (.int x3)] [] 4 := by
  intro q4
  induction q4 with
  | zero =>
    intro σ x1 x2 x3 h
    exact h.elim
  | succ q4 ih =>
    intro σ x1 x2 x3 h
    unfold vX4_serverOf_L4 at h
    refine r_iload_n hc dX4_serverOf_4 rfl ?_
    refine r_aload_n hc dX4_serverOf_5 rfl ?_
    refine r_get (v := .int (rd σ 22 7)) hc iX4_serverOf_X4 (Nat.lt_of_lt_of_le (by decide) hn) rfl rfl rfl 7 (by decide) fX4_serverOf_55 rfl dX4_serverOf_6 ?_
    refine r_icmp_ge (tgt := 51) hc dX4_serverOf_9 (by decide) (fun hq10 => ?_) (fun hq10 => ?_)
    · replace h := h.1 hq10
      refine r_iload_n hc dX4_serverOf_51 rfl ?_
      exact e_i hc hr hlk h dX4_serverOf_52
    · replace h := h.2 hq10
      refine r_aload_n hc dX4_serverOf_12 rfl ?_
      refine r_get (v := .ref (ad 25)) hc iX4_serverOf_X4 (Nat.lt_of_lt_of_le (by decide) hn) rfl rfl rfl 4 (by decide) fX4_serverOf_18 rfl dX4_serverOf_13 ?_
      refine r_iload_n hc dX4_serverOf_16 rfl ?_
      refine r_zald hc (Nat.lt_of_lt_of_le (by decide) hn) rfl rfl h.1 dX4_serverOf_17 ?_
      replace h := h.2
      refine r_if_eq (tgt := 45) hc dX4_serverOf_18 (by decide) (fun hq9 => ?_) (fun hq9 => ?_)
      · replace h := h.1 hq9
        refine r_iinc (v := x3 + 1) hc dX4_serverOf_45 rfl rfl (by decide) (ss (ss (s1 trivial))) ?_
        refine r_goto (tgt := 4) hc dX4_serverOf_48 (by decide) ?_
        exact r_weak (wk (wk (wk (wk w0)))) (ih _ _ _ _ h)
      · replace h := h.2 hq9
        refine r_aload_n hc dX4_serverOf_21 rfl ?_
        refine r_iload_n hc dX4_serverOf_22 rfl ?_
        refine r_iload_n hc dX4_serverOf_23 rfl ?_
        refine r_callVi hc (zX4_canServe hn σ x3 x1) h (Nat.lt_of_lt_of_le (by decide) hn) rfl rfl rfl (cwV 2 hc.2.2.2.2.1 gX4_serverOf_X4_canServe rfl rfl rfl qX4_canServe ⟨Nat.le_of_ble_eq_true rfl, Nat.le_of_ble_eq_true rfl⟩) rfl rfl (Nat.le_of_ble_eq_true rfl) dX4_serverOf_24 (fun r2 σ1 h => ?_)
        refine r_if_eq (tgt := 45) hc dX4_serverOf_27 (by decide) (fun hq8 => ?_) (fun hq8 => ?_)
        · replace h := h.1 hq8
          refine r_iinc (v := x3 + 1) hc dX4_serverOf_45 rfl rfl (by decide) (ss (ss (s1 trivial))) ?_
          refine r_goto (tgt := 4) hc dX4_serverOf_48 (by decide) ?_
          exact r_weak (wk (wk (wk (wk w0)))) (ih _ _ _ _ h)
        · replace h := h.2 hq8
          refine r_aload_n hc dX4_serverOf_30 rfl ?_
          refine r_iload_n hc dX4_serverOf_31 rfl ?_
          refine r_callVi hc (zX4_sizeOf hn σ1 x3) h (Nat.lt_of_lt_of_le (by decide) hn) rfl rfl rfl (cwV 1 hc.2.2.2.2.1 gX4_serverOf_X4_sizeOf rfl rfl rfl qX4_sizeOf ⟨Nat.le_of_ble_eq_true rfl, Nat.le_of_ble_eq_true rfl⟩) rfl rfl (Nat.le_of_ble_eq_true rfl) dX4_serverOf_32 (fun r4 σ3 h => ?_)
          refine r_aload_n hc dX4_serverOf_35 rfl ?_
          refine r_iload_n hc dX4_serverOf_36 rfl ?_
          refine r_callVi hc (zX4_sizeOf hn σ3 x2) h (Nat.lt_of_lt_of_le (by decide) hn) rfl rfl rfl (cwV 1 hc.2.2.2.2.1 gX4_serverOf_X4_sizeOf rfl rfl rfl qX4_sizeOf ⟨Nat.le_of_ble_eq_true rfl, Nat.le_of_ble_eq_true rfl⟩) rfl rfl (Nat.le_of_ble_eq_true rfl) dX4_serverOf_37 (fun r6 σ5 h => ?_)
          refine r_icmp_ge (tgt := 45) hc dX4_serverOf_40 (by decide) (fun hq7 => ?_) (fun hq7 => ?_)
          · replace h := h.1 hq7
            refine r_iinc (v := x3 + 1) hc dX4_serverOf_45 rfl rfl (by decide) (ss (ss (s1 trivial))) ?_
            refine r_goto (tgt := 4) hc dX4_serverOf_48 (by decide) ?_
            exact r_weak (wk (wk (wk (wk w0)))) (ih _ _ _ _ h)
          · replace h := h.2 hq7
            refine r_iload_n hc dX4_serverOf_43 rfl ?_
            refine r_istore_n hc dX4_serverOf_44 rfl (by decide) (ss (s1 trivial)) ?_
            refine r_iinc (v := x3 + 1) hc dX4_serverOf_45 rfl rfl (by decide) (ss (ss (s1 trivial))) ?_
            refine r_goto (tgt := 4) hc dX4_serverOf_48 (by decide) ?_
            exact r_weak (wk (wk (wk (wk w0)))) (ih _ _ _ _ h)
set_option maxHeartbeats 4000000 in
set_option maxRecDepth 100000 in
theorem zX4_serverOf {cy : Nat → ClassId} {ad : Nat → Nat} {n : Nat} {D : va_G} {A : Nat → Prop} {l : Launch} (hn : 49 ≤ n) (σ : St) (x1 : Int32) : Ci TC cy ad n D A l yX4_serverOf wsX4_serverOf rmX4_serverOf σ [.ref (ad 22), .int x1] (fun Q => vX4_serverOf Q σ x1) := by
  intro Q h
  refine startW (cc := cX4_serverOf) (nL := 4) (own := RX4) (lo := [some (.ref (ad 22)), some (.int x1), none, none]) (by decide) rfl rfl (lo_start (av := [.ref (ad 22), .int x1]) (k := 2) (allc1_ok (l := [.ref (ad 22), .int x1]) trivial)) (Nat.le_of_ble_eq_true rfl) (fun p e s m args below meth c hc hr hlk => ?_)
  unfold vX4_serverOf at h
  refine r_iconst (v := 0) hc dX4_serverOf_0 (by decide) ?_
  refine r_istore_n hc dX4_serverOf_1 rfl (by decide) (ss (s1 trivial)) ?_
  refine r_iconst (v := 1) hc dX4_serverOf_2 (by decide) ?_
  refine r_istore_n hc dX4_serverOf_3 rfl (by decide) (ss (ss (s1 trivial))) ?_
  obtain ⟨e4, h⟩ := h
  exact r_weak (wk (wk (wk (wk w0)))) (tvX4_serverOf_L4 hn hc hr hlk e4 _ _ _ _ h)
set_option maxHeartbeats 4000000 in
set_option maxRecDepth 100000 in
theorem zX4_costOf {cy : Nat → ClassId} {ad : Nat → Nat} {n : Nat} {D : va_G} {A : Nat → Prop} {l : Launch} (hn : 49 ≤ n) (σ : St) (x1 : Int32) : Ci TC cy ad n D A l yX4_costOf wsX4_costOf rmX4_costOf σ [.ref (ad 22), .int x1] (fun Q => vX4_costOf Q σ x1) := by
  intro Q h
  refine startW (cc := cX4_costOf) (nL := 2) (own := RX4) (lo := [some (.ref (ad 22)), some (.int x1)]) (by decide) rfl rfl (lo_start (av := [.ref (ad 22), .int x1]) (k := 0) (allc1_ok (l := [.ref (ad 22), .int x1]) trivial)) (Nat.le_of_ble_eq_true rfl) (fun p e s m args below meth c hc hr hlk => ?_)
  unfold vX4_costOf at h
  refine r_aload_n hc dX4_costOf_0 rfl ?_
  refine r_aload_n hc dX4_costOf_1 rfl ?_
  refine r_iload_n hc dX4_costOf_2 rfl ?_
  refine r_callVi hc (zX4_serverOf hn σ x1) h (Nat.lt_of_lt_of_le (by decide) hn) rfl rfl rfl (cwV 1 hc.2.2.2.2.1 gX4_costOf_X4_serverOf rfl rfl rfl qX4_serverOf ⟨Nat.le_of_ble_eq_true rfl, Nat.le_of_ble_eq_true rfl⟩) rfl rfl (Nat.le_of_ble_eq_true rfl) dX4_costOf_3 (fun r2 σ1 h => ?_)
  refine r_callVi hc (zX4_sizeOf hn σ1 r2) h (Nat.lt_of_lt_of_le (by decide) hn) rfl rfl rfl (cwV 1 hc.2.2.2.2.1 gX4_costOf_X4_sizeOf rfl rfl rfl qX4_sizeOf ⟨Nat.le_of_ble_eq_true rfl, Nat.le_of_ble_eq_true rfl⟩) rfl rfl (Nat.le_of_ble_eq_true rfl) dX4_costOf_6 (fun r4 σ3 h => ?_)
  exact e_i hc hr hlk h dX4_costOf_9
theorem iX4_forgetSizes_X4 : ∀ w ∈ u_ws RX4 TX4 8, w ∈ wsX4_forgetSizes := by decide +kernel
theorem fX4_forgetSizes_15 : Cond.fieldLink RX4 15 (TX4 3).1 (TX4 3).2.1 (TX4 3).2.2.1 ∈ wsX4_forgetSizes := by decide +kernel
set_option maxHeartbeats 4000000 in
set_option maxRecDepth 100000 in
theorem zX4_forgetSizes {cy : Nat → ClassId} {ad : Nat → Nat} {n : Nat} {D : va_G} {A : Nat → Prop} {l : Launch} (hn : 29 ≤ n) (σ : St) : Cv TC cy ad n D A l yX4_forgetSizes wsX4_forgetSizes rmX4_forgetSizes σ [.ref (ad 22)] (fun Q => vX4_forgetSizes Q σ ) := by
  intro Q h
  refine startW (cc := cX4_forgetSizes) (nL := 1) (own := RX4) (lo := [some (.ref (ad 22))]) (by decide) rfl rfl (lo_start (av := [.ref (ad 22)]) (k := 0) (allc1_ok (l := [.ref (ad 22)]) trivial)) (Nat.le_of_ble_eq_true rfl) (fun p e s m args below meth c hc hr hlk => ?_)
  unfold vX4_forgetSizes at h
  refine r_aload_n hc dX4_forgetSizes_0 rfl ?_
  refine r_get (v := .ref (ad 24)) hc iX4_forgetSizes_X4 (Nat.lt_of_lt_of_le (by decide) hn) rfl rfl rfl 3 (by decide) fX4_forgetSizes_15 rfl dX4_forgetSizes_1 ?_
  refine r_iconst (v := (-1)) hc dX4_forgetSizes_4 (by decide) ?_
  refine r_callSv hc (zJ7_fill_53178 (b := 29) hn σ 24 ((-1))) h (va_cwS 2 hc.2.2.2.2.1 gX4_forgetSizes_J7_fill_53178 rfl rfl rfl qJ7_fill_53178 ⟨Nat.le_of_ble_eq_true rfl, Nat.le_of_ble_eq_true rfl⟩) rfl rfl (Nat.le_of_ble_eq_true rfl) dX4_forgetSizes_5 (fun σ1 h => ?_)
  exact e_v hc hr hlk h dX4_forgetSizes_8
theorem iX4_isKept_X4 : ∀ w ∈ u_ws RX4 TX4 8, w ∈ wsX4_isKept := by decide +kernel
theorem fX4_isKept_18 : Cond.fieldLink RX4 18 (TX4 4).1 (TX4 4).2.1 (TX4 4).2.2.1 ∈ wsX4_isKept := by decide +kernel
set_option maxHeartbeats 4000000 in
set_option maxRecDepth 100000 in
theorem zX4_isKept {cy : Nat → ClassId} {ad : Nat → Nat} {n : Nat} {D : va_G} {A : Nat → Prop} {l : Launch} (hn : 49 ≤ n) (σ : St) (x1 : Int32) : Ci TC cy ad n D A l yX4_isKept wsX4_isKept rmX4_isKept σ [.ref (ad 22), .int x1] (fun Q => vX4_isKept Q σ x1) := by
  intro Q h
  refine startW (cc := cX4_isKept) (nL := 2) (own := RX4) (lo := [some (.ref (ad 22)), some (.int x1)]) (by decide) rfl rfl (lo_start (av := [.ref (ad 22), .int x1]) (k := 0) (allc1_ok (l := [.ref (ad 22), .int x1]) trivial)) (Nat.le_of_ble_eq_true rfl) (fun p e s m args below meth c hc hr hlk => ?_)
  unfold vX4_isKept at h
  refine r_aload_n hc dX4_isKept_0 rfl ?_
  refine r_iload_n hc dX4_isKept_1 rfl ?_
  refine r_callVi hc (zX4_has hn σ x1) h (Nat.lt_of_lt_of_le (by decide) hn) rfl rfl rfl (cwV 1 hc.2.2.2.2.1 gX4_isKept_X4_has rfl rfl rfl qX4_has ⟨Nat.le_of_ble_eq_true rfl, Nat.le_of_ble_eq_true rfl⟩) rfl rfl (Nat.le_of_ble_eq_true rfl) dX4_isKept_2 (fun r2 σ1 h => ?_)
  refine r_if_eq (tgt := 21) hc dX4_isKept_5 (by decide) (fun hq4 => ?_) (fun hq4 => ?_)
  · replace h := h.1 hq4
    refine r_iconst (v := 0) hc dX4_isKept_21 (by decide) ?_
    exact e_z hc hr hlk (by decide) h dX4_isKept_22
  · replace h := h.2 hq4
    refine r_aload_n hc dX4_isKept_8 rfl ?_
    refine r_get (v := .ref (ad 25)) hc iX4_isKept_X4 (Nat.lt_of_lt_of_le (by decide) hn) rfl rfl rfl 4 (by decide) fX4_isKept_18 rfl dX4_isKept_9 ?_
    refine r_iload_n hc dX4_isKept_12 rfl ?_
    refine r_zald hc (Nat.lt_of_lt_of_le (by decide) hn) rfl rfl h.1 dX4_isKept_13 ?_
    replace h := h.2
    refine r_if_eq (tgt := 21) hc dX4_isKept_14 (by decide) (fun hq3 => ?_) (fun hq3 => ?_)
    · replace h := h.1 hq3
      refine r_iconst (v := 0) hc dX4_isKept_21 (by decide) ?_
      exact e_z hc hr hlk (by decide) h dX4_isKept_22
    · replace h := h.2 hq3
      refine r_iconst (v := 1) hc dX4_isKept_17 (by decide) ?_
      refine r_goto (tgt := 22) hc dX4_isKept_18 (by decide) ?_
      exact e_z hc hr hlk (by decide) h dX4_isKept_22
theorem iX4_gainOf_X4 : ∀ w ∈ u_ws RX4 TX4 8, w ∈ wsX4_gainOf := by decide +kernel
theorem fX4_gainOf_22 : Cond.fieldLink RX4 22 (TX4 5).1 (TX4 5).2.1 (TX4 5).2.2.1 ∈ wsX4_gainOf := by decide +kernel
theorem fX4_gainOf_55 : Cond.fieldLink RX4 55 (TX4 7).1 (TX4 7).2.1 (TX4 7).2.2.1 ∈ wsX4_gainOf := by decide +kernel
theorem fX4_gainOf_18 : Cond.fieldLink RX4 18 (TX4 4).1 (TX4 4).2.1 (TX4 4).2.2.1 ∈ wsX4_gainOf := by decide +kernel
set_option maxHeartbeats 4000000 in
set_option maxRecDepth 100000 in
theorem tvX4_gainOf_L20 {cy : Nat → ClassId} {ad : Nat → Nat} {n : Nat} {D : va_G} {A : Nat → Prop} {l : Launch} {p : Program} {e : Env} {s : State} {m : MethodId} {args : Array Value} {below : List Frame} {meth : Method} {c : Code} {Q : Int32 → St → Prop} (hn : 49 ≤ n) (hc : CX p s m args c D cy cX4_gainOf 3 RX4 wsX4_gainOf) (hr : meth.sig.returnType = some .int) (hlk : meth.locks = false) : ∀ (q20 : Nat) (σ : St) (x1 : Int32) (x2 : Int32), vX4_gainOf_L20 Q q20 σ x1 x2 → WV TC cy ad n D A p l e rmX4_gainOf s m args below meth c 3 (MQ below (va_Qi Q (Bw TC cy ad n D) A) args s 0 0 A) σ [some (.ref (ad 22)), some (.int x1), some (.int x2)] [] 20 := by
  intro q20
  induction q20 with
  | zero =>
    intro σ x1 x2 h
    exact h.elim
  | succ q20 ih =>
    intro σ x1 x2 h
    unfold vX4_gainOf_L20 at h
    refine r_iload_n hc dX4_gainOf_20 rfl ?_
    refine r_aload_n hc dX4_gainOf_21 rfl ?_
    refine r_get (v := .int (rd σ 22 7)) hc iX4_gainOf_X4 (Nat.lt_of_lt_of_le (by decide) hn) rfl rfl rfl 7 (by decide) fX4_gainOf_55 rfl dX4_gainOf_22 ?_
    refine r_icmp_ge (tgt := 56) hc dX4_gainOf_25 (by decide) (fun hq9 => ?_) (fun hq9 => ?_)
    · replace h := h.1 hq9
      refine r_aload_n hc dX4_gainOf_56 rfl ?_
      refine r_iload_n hc dX4_gainOf_57 rfl ?_
      refine r_aload_n hc dX4_gainOf_58 rfl ?_
      refine r_get (v := .ref (ad 26)) hc iX4_gainOf_X4 (Nat.lt_of_lt_of_le (by decide) hn) rfl rfl rfl 5 (by decide) fX4_gainOf_22 rfl dX4_gainOf_59 ?_
      refine r_callVi hc (zX4_sparedBy hn σ 26 x1) h (Nat.lt_of_lt_of_le (by decide) hn) rfl rfl rfl (cwV 2 hc.2.2.2.2.1 gX4_gainOf_X4_sparedBy rfl rfl rfl qX4_sparedBy ⟨Nat.le_of_ble_eq_true rfl, Nat.le_of_ble_eq_true rfl⟩) rfl rfl (Nat.le_of_ble_eq_true rfl) dX4_gainOf_62 (fun r6 σ5 h => ?_)
      exact e_i hc hr hlk h dX4_gainOf_65
    · replace h := h.2 hq9
      refine r_aload_n hc dX4_gainOf_28 rfl ?_
      refine r_get (v := .ref (ad 25)) hc iX4_gainOf_X4 (Nat.lt_of_lt_of_le (by decide) hn) rfl rfl rfl 4 (by decide) fX4_gainOf_18 rfl dX4_gainOf_29 ?_
      refine r_iload_n hc dX4_gainOf_32 rfl ?_
      refine r_zald hc (Nat.lt_of_lt_of_le (by decide) hn) rfl rfl h.1 dX4_gainOf_33 ?_
      replace h := h.2
      refine r_if_eq (tgt := 50) hc dX4_gainOf_34 (by decide) (fun hq8 => ?_) (fun hq8 => ?_)
      · replace h := h.1 hq8
        refine r_iinc (v := x2 + 1) hc dX4_gainOf_50 rfl rfl (by decide) (ss (s1 trivial)) ?_
        refine r_goto (tgt := 20) hc dX4_gainOf_53 (by decide) ?_
        exact r_weak (wk (wk (wk w0))) (ih _ _ _ h)
      · replace h := h.2 hq8
        refine r_aload_n hc dX4_gainOf_37 rfl ?_
        refine r_aload_n hc dX4_gainOf_38 rfl ?_
        refine r_get (v := .ref (ad 26)) hc iX4_gainOf_X4 (Nat.lt_of_lt_of_le (by decide) hn) rfl rfl rfl 5 (by decide) fX4_gainOf_22 rfl dX4_gainOf_39 ?_
        refine r_aload_n hc dX4_gainOf_42 rfl ?_
        refine r_get (v := .ref (ad 26)) hc iX4_gainOf_X4 (Nat.lt_of_lt_of_le (by decide) hn) rfl rfl rfl 5 (by decide) fX4_gainOf_22 rfl dX4_gainOf_43 ?_
        refine r_iload_n hc dX4_gainOf_46 rfl ?_
        refine r_callVv hc (zX4_lower hn σ 26 26 x2) h (Nat.lt_of_lt_of_le (by decide) hn) rfl rfl rfl (cwV 3 hc.2.2.2.2.1 gX4_gainOf_X4_lower rfl rfl rfl qX4_lower ⟨Nat.le_of_ble_eq_true rfl, Nat.le_of_ble_eq_true rfl⟩) rfl rfl (Nat.le_of_ble_eq_true rfl) dX4_gainOf_47 (fun σ7 h => ?_)
        refine r_iinc (v := x2 + 1) hc dX4_gainOf_50 rfl rfl (by decide) (ss (s1 trivial)) ?_
        refine r_goto (tgt := 20) hc dX4_gainOf_53 (by decide) ?_
        exact r_weak (wk (wk (wk w0))) (ih _ _ _ h)
set_option maxHeartbeats 4000000 in
set_option maxRecDepth 100000 in
theorem zX4_gainOf {cy : Nat → ClassId} {ad : Nat → Nat} {n : Nat} {D : va_G} {A : Nat → Prop} {l : Launch} (hn : 49 ≤ n) (σ : St) (x1 : Int32) : Ci TC cy ad n D A l yX4_gainOf wsX4_gainOf rmX4_gainOf σ [.ref (ad 22), .int x1] (fun Q => vX4_gainOf Q σ x1) := by
  intro Q h
  refine startW (cc := cX4_gainOf) (nL := 3) (own := RX4) (lo := [some (.ref (ad 22)), some (.int x1), none]) (by decide) rfl rfl (lo_start (av := [.ref (ad 22), .int x1]) (k := 1) (allc1_ok (l := [.ref (ad 22), .int x1]) trivial)) (Nat.le_of_ble_eq_true rfl) (fun p e s m args below meth c hc hr hlk => ?_)
  unfold vX4_gainOf at h
  refine r_aload_n hc dX4_gainOf_0 rfl ?_
  refine r_iload_n hc dX4_gainOf_1 rfl ?_
  refine r_callVi hc (zX4_isKept hn σ x1) h (Nat.lt_of_lt_of_le (by decide) hn) rfl rfl rfl (cwV 1 hc.2.2.2.2.1 gX4_gainOf_X4_isKept rfl rfl rfl qX4_isKept ⟨Nat.le_of_ble_eq_true rfl, Nat.le_of_ble_eq_true rfl⟩) rfl rfl (Nat.le_of_ble_eq_true rfl) dX4_gainOf_2 (fun r2 σ1 h => ?_)
  refine r_if_eq (tgt := 10) hc dX4_gainOf_5 (by decide) (fun hq4 => ?_) (fun hq4 => ?_)
  · replace h := h.1 hq4
    refine r_aload_n hc dX4_gainOf_10 rfl ?_
    refine r_aload_n hc dX4_gainOf_11 rfl ?_
    refine r_get (v := .ref (ad 26)) hc iX4_gainOf_X4 (Nat.lt_of_lt_of_le (by decide) hn) rfl rfl rfl 5 (by decide) fX4_gainOf_22 rfl dX4_gainOf_12 ?_
    refine r_callVv hc (zX4_fillBare hn σ1 26) h (Nat.lt_of_lt_of_le (by decide) hn) rfl rfl rfl (cwV 1 hc.2.2.2.2.1 gX4_gainOf_X4_fillBare rfl rfl rfl qX4_fillBare ⟨Nat.le_of_ble_eq_true rfl, Nat.le_of_ble_eq_true rfl⟩) rfl rfl (Nat.le_of_ble_eq_true rfl) dX4_gainOf_15 (fun σ3 h => ?_)
    refine r_iconst (v := 1) hc dX4_gainOf_18 (by decide) ?_
    refine r_istore_n hc dX4_gainOf_19 rfl (by decide) (ss (s1 trivial)) ?_
    obtain ⟨e20, h⟩ := h
    exact r_weak (wk (wk (wk w0))) (tvX4_gainOf_L20 hn hc hr hlk e20 _ _ _ h)
  · replace h := h.2 hq4
    refine r_iconst (v := 0) hc dX4_gainOf_8 (by decide) ?_
    exact e_i hc hr hlk h dX4_gainOf_9
theorem iX4_groupAt_X4 : ∀ w ∈ u_ws RX4 TX4 8, w ∈ wsX4_groupAt := by decide +kernel
theorem fX4_groupAt_28 : Cond.fieldLink RX4 28 (TX4 6).1 (TX4 6).2.1 (TX4 6).2.2.1 ∈ wsX4_groupAt := by decide +kernel
set_option maxHeartbeats 4000000 in
set_option maxRecDepth 100000 in
theorem zX4_groupAt {cy : Nat → ClassId} {ad : Nat → Nat} {n : Nat} {D : va_G} {A : Nat → Prop} {l : Launch} (hn : 49 ≤ n) (σ : St) (x1 : Int32) (x2 : Int32) : Ci TC cy ad n D A l yX4_groupAt wsX4_groupAt rmX4_groupAt σ [.ref (ad 22), .int x1, .int x2] (fun Q => vX4_groupAt Q σ x1 x2) := by
  intro Q h
  refine startW (cc := cX4_groupAt) (nL := 3) (own := RX4) (lo := [some (.ref (ad 22)), some (.int x1), some (.int x2)]) (by decide) rfl rfl (lo_start (av := [.ref (ad 22), .int x1, .int x2]) (k := 0) (allc1_ok (l := [.ref (ad 22), .int x1, .int x2]) trivial)) (Nat.le_of_ble_eq_true rfl) (fun p e s m args below meth c hc hr hlk => ?_)
  unfold vX4_groupAt at h
  refine r_aload_n hc dX4_groupAt_0 rfl ?_
  refine r_iload_n hc dX4_groupAt_1 rfl ?_
  refine r_callVv hc (zX4_collectGroups hn σ x1) h (Nat.lt_of_lt_of_le (by decide) hn) rfl rfl rfl (cwV 1 hc.2.2.2.2.1 gX4_groupAt_X4_collectGroups rfl rfl rfl qX4_collectGroups ⟨Nat.le_of_ble_eq_true rfl, Nat.le_of_ble_eq_true rfl⟩) rfl rfl (Nat.le_of_ble_eq_true rfl) dX4_groupAt_2 (fun σ1 h => ?_)
  refine r_aload_n hc dX4_groupAt_5 rfl ?_
  refine r_get (v := .ref (ad 27)) hc iX4_groupAt_X4 (Nat.lt_of_lt_of_le (by decide) hn) rfl rfl rfl 6 (by decide) fX4_groupAt_28 rfl dX4_groupAt_6 ?_
  refine r_iload_n hc dX4_groupAt_9 rfl ?_
  refine r_callVi hc (zX3_at (Nat.le_trans (by decide) hn) σ1 x2) h (Nat.lt_of_lt_of_le (by decide) hn) rfl rfl rfl (cwV 1 hc.2.2.2.2.1 gX4_groupAt_X3_at rfl rfl rfl qX3_at ⟨Nat.le_of_ble_eq_true rfl, Nat.le_of_ble_eq_true rfl⟩) rfl rfl (Nat.le_of_ble_eq_true rfl) dX4_groupAt_10 (fun r3 σ2 h => ?_)
  exact e_i hc hr hlk h dX4_groupAt_13
theorem iX4_keptCount_X4 : ∀ w ∈ u_ws RX4 TX4 8, w ∈ wsX4_keptCount := by decide +kernel
theorem fX4_keptCount_55 : Cond.fieldLink RX4 55 (TX4 7).1 (TX4 7).2.1 (TX4 7).2.2.1 ∈ wsX4_keptCount := by decide +kernel
theorem fX4_keptCount_18 : Cond.fieldLink RX4 18 (TX4 4).1 (TX4 4).2.1 (TX4 4).2.2.1 ∈ wsX4_keptCount := by decide +kernel
set_option maxHeartbeats 4000000 in
set_option maxRecDepth 100000 in
theorem tvX4_keptCount_L4 {cy : Nat → ClassId} {ad : Nat → Nat} {n : Nat} {D : va_G} {A : Nat → Prop} {l : Launch} {p : Program} {e : Env} {s : State} {m : MethodId} {args : Array Value} {below : List Frame} {meth : Method} {c : Code} {Q : Int32 → St → Prop} (hn : 49 ≤ n) (hc : CX p s m args c D cy cX4_keptCount 3 RX4 wsX4_keptCount) (hr : meth.sig.returnType = some .int) (hlk : meth.locks = false) : ∀ (q4 : Nat) (σ : St) (x1 : Int32) (x2 : Int32), vX4_keptCount_L4 Q q4 σ x1 x2 → WV TC cy ad n D A p l e rmX4_keptCount s m args below meth c 3 (MQ below (va_Qi Q (Bw TC cy ad n D) A) args s 0 0 A) σ [some (.ref (ad 22)), some (.int x1), some (.int x2)] [] 4 := by
  intro q4
  induction q4 with
  | zero =>
    intro σ x1 x2 h
    exact h.elim
  | succ q4 ih =>
    intro σ x1 x2 h
    unfold vX4_keptCount_L4 at h
    refine r_iload_n hc dX4_keptCount_4 rfl ?_
    refine r_aload_n hc dX4_keptCount_5 rfl ?_
    refine r_get (v := .int (rd σ 22 7)) hc iX4_keptCount_X4 (Nat.lt_of_lt_of_le (by decide) hn) rfl rfl rfl 7 (by decide) fX4_keptCount_55 rfl dX4_keptCount_6 ?_
    refine r_icmp_ge (tgt := 35) hc dX4_keptCount_9 (by decide) (fun hq2 => ?_) (fun hq2 => ?_)
    · replace h := h.1 hq2
      refine r_iload_n hc dX4_keptCount_35 rfl ?_
      exact e_i hc hr hlk h dX4_keptCount_36
    · replace h := h.2 hq2
      refine r_iload_n hc dX4_keptCount_12 rfl ?_
      refine r_aload_n hc dX4_keptCount_13 rfl ?_
      refine r_get (v := .ref (ad 25)) hc iX4_keptCount_X4 (Nat.lt_of_lt_of_le (by decide) hn) rfl rfl rfl 4 (by decide) fX4_keptCount_18 rfl dX4_keptCount_14 ?_
      refine r_iload_n hc dX4_keptCount_17 rfl ?_
      refine r_zald hc (Nat.lt_of_lt_of_le (by decide) hn) rfl rfl h.1 dX4_keptCount_18 ?_
      replace h := h.2
      refine r_if_eq (tgt := 26) hc dX4_keptCount_19 (by decide) (fun hq1 => ?_) (fun hq1 => ?_)
      · replace h := h.1 hq1
        refine r_iconst (v := 0) hc dX4_keptCount_26 (by decide) ?_
        refine r_iadd hc dX4_keptCount_27 ?_
        refine r_istore_n hc dX4_keptCount_28 rfl (by decide) (s1 trivial) ?_
        refine r_iinc (v := x2 + 1) hc dX4_keptCount_29 rfl rfl (by decide) (ss (s1 trivial)) ?_
        refine r_goto (tgt := 4) hc dX4_keptCount_32 (by decide) ?_
        exact r_weak (wk (wk (wk w0))) (ih _ _ _ h)
      · replace h := h.2 hq1
        refine r_iconst (v := 1) hc dX4_keptCount_22 (by decide) ?_
        refine r_goto (tgt := 27) hc dX4_keptCount_23 (by decide) ?_
        refine r_iadd hc dX4_keptCount_27 ?_
        refine r_istore_n hc dX4_keptCount_28 rfl (by decide) (s1 trivial) ?_
        refine r_iinc (v := x2 + 1) hc dX4_keptCount_29 rfl rfl (by decide) (ss (s1 trivial)) ?_
        refine r_goto (tgt := 4) hc dX4_keptCount_32 (by decide) ?_
        exact r_weak (wk (wk (wk w0))) (ih _ _ _ h)
set_option maxHeartbeats 4000000 in
set_option maxRecDepth 100000 in
theorem zX4_keptCount {cy : Nat → ClassId} {ad : Nat → Nat} {n : Nat} {D : va_G} {A : Nat → Prop} {l : Launch} (hn : 49 ≤ n) (σ : St) : Ci TC cy ad n D A l yX4_keptCount wsX4_keptCount rmX4_keptCount σ [.ref (ad 22)] (fun Q => vX4_keptCount Q σ ) := by
  intro Q h
  refine startW (cc := cX4_keptCount) (nL := 3) (own := RX4) (lo := [some (.ref (ad 22)), none, none]) (by decide) rfl rfl (lo_start (av := [.ref (ad 22)]) (k := 2) (allc1_ok (l := [.ref (ad 22)]) trivial)) (Nat.le_of_ble_eq_true rfl) (fun p e s m args below meth c hc hr hlk => ?_)
  unfold vX4_keptCount at h
  refine r_iconst (v := 0) hc dX4_keptCount_0 (by decide) ?_
  refine r_istore_n hc dX4_keptCount_1 rfl (by decide) (s1 trivial) ?_
  refine r_iconst (v := 0) hc dX4_keptCount_2 (by decide) ?_
  refine r_istore_n hc dX4_keptCount_3 rfl (by decide) (ss (s1 trivial)) ?_
  obtain ⟨e4, h⟩ := h
  exact r_weak (wk (wk (wk w0))) (tvX4_keptCount_L4 hn hc hr hlk e4 _ _ _ h)
theorem iX4_keptGroups_X4 : ∀ w ∈ u_ws RX4 TX4 8, w ∈ wsX4_keptGroups := by decide +kernel
theorem fX4_keptGroups_55 : Cond.fieldLink RX4 55 (TX4 7).1 (TX4 7).2.1 (TX4 7).2.2.1 ∈ wsX4_keptGroups := by decide +kernel
theorem fX4_keptGroups_18 : Cond.fieldLink RX4 18 (TX4 4).1 (TX4 4).2.1 (TX4 4).2.2.1 ∈ wsX4_keptGroups := by decide +kernel
set_option maxHeartbeats 4000000 in
set_option maxRecDepth 100000 in
theorem tvX4_keptGroups_L4 {cy : Nat → ClassId} {ad : Nat → Nat} {n : Nat} {D : va_G} {A : Nat → Prop} {l : Launch} {p : Program} {e : Env} {s : State} {m : MethodId} {args : Array Value} {below : List Frame} {meth : Method} {c : Code} {Q : Int32 → St → Prop} (hn : 49 ≤ n) (hc : CX p s m args c D cy cX4_keptGroups 3 RX4 wsX4_keptGroups) (hr : meth.sig.returnType = some .int) (hlk : meth.locks = false) : ∀ (q4 : Nat) (σ : St) (x1 : Int32) (x2 : Int32), vX4_keptGroups_L4 Q q4 σ x1 x2 → WV TC cy ad n D A p l e rmX4_keptGroups s m args below meth c 3 (MQ below (va_Qi Q (Bw TC cy ad n D) A) args s 0 0 A) σ [some (.ref (ad 22)), some (.int x1), some (.int x2)] [] 4 := by
  intro q4
  induction q4 with
  | zero =>
    intro σ x1 x2 h
    exact h.elim
  | succ q4 ih =>
    intro σ x1 x2 h
    unfold vX4_keptGroups_L4 at h
    refine r_iload_n hc dX4_keptGroups_4 rfl ?_
    refine r_aload_n hc dX4_keptGroups_5 rfl ?_
    refine r_get (v := .int (rd σ 22 7)) hc iX4_keptGroups_X4 (Nat.lt_of_lt_of_le (by decide) hn) rfl rfl rfl 7 (by decide) fX4_keptGroups_55 rfl dX4_keptGroups_6 ?_
    refine r_icmp_ge (tgt := 39) hc dX4_keptGroups_9 (by decide) (fun hq4 => ?_) (fun hq4 => ?_)
    · replace h := h.1 hq4
      refine r_iload_n hc dX4_keptGroups_39 rfl ?_
      exact e_i hc hr hlk h dX4_keptGroups_40
    · replace h := h.2 hq4
      refine r_iload_n hc dX4_keptGroups_12 rfl ?_
      refine r_aload_n hc dX4_keptGroups_13 rfl ?_
      refine r_get (v := .ref (ad 25)) hc iX4_keptGroups_X4 (Nat.lt_of_lt_of_le (by decide) hn) rfl rfl rfl 4 (by decide) fX4_keptGroups_18 rfl dX4_keptGroups_14 ?_
      refine r_iload_n hc dX4_keptGroups_17 rfl ?_
      refine r_zald hc (Nat.lt_of_lt_of_le (by decide) hn) rfl rfl h.1 dX4_keptGroups_18 ?_
      replace h := h.2
      refine r_if_eq (tgt := 30) hc dX4_keptGroups_19 (by decide) (fun hq3 => ?_) (fun hq3 => ?_)
      · replace h := h.1 hq3
        refine r_iconst (v := 0) hc dX4_keptGroups_30 (by decide) ?_
        refine r_iadd hc dX4_keptGroups_31 ?_
        refine r_istore_n hc dX4_keptGroups_32 rfl (by decide) (s1 trivial) ?_
        refine r_iinc (v := x2 + 1) hc dX4_keptGroups_33 rfl rfl (by decide) (ss (s1 trivial)) ?_
        refine r_goto (tgt := 4) hc dX4_keptGroups_36 (by decide) ?_
        exact r_weak (wk (wk (wk w0))) (ih _ _ _ h)
      · replace h := h.2 hq3
        refine r_aload_n hc dX4_keptGroups_22 rfl ?_
        refine r_iload_n hc dX4_keptGroups_23 rfl ?_
        refine r_callVi hc (zX4_sizeOf hn σ x2) h (Nat.lt_of_lt_of_le (by decide) hn) rfl rfl rfl (cwV 1 hc.2.2.2.2.1 gX4_keptGroups_X4_sizeOf rfl rfl rfl qX4_sizeOf ⟨Nat.le_of_ble_eq_true rfl, Nat.le_of_ble_eq_true rfl⟩) rfl rfl (Nat.le_of_ble_eq_true rfl) dX4_keptGroups_24 (fun r2 σ1 h => ?_)
        refine r_goto (tgt := 31) hc dX4_keptGroups_27 (by decide) ?_
        refine r_iadd hc dX4_keptGroups_31 ?_
        refine r_istore_n hc dX4_keptGroups_32 rfl (by decide) (s1 trivial) ?_
        refine r_iinc (v := x2 + 1) hc dX4_keptGroups_33 rfl rfl (by decide) (ss (s1 trivial)) ?_
        refine r_goto (tgt := 4) hc dX4_keptGroups_36 (by decide) ?_
        exact r_weak (wk (wk (wk w0))) (ih _ _ _ h)
set_option maxHeartbeats 4000000 in
set_option maxRecDepth 100000 in
theorem zX4_keptGroups {cy : Nat → ClassId} {ad : Nat → Nat} {n : Nat} {D : va_G} {A : Nat → Prop} {l : Launch} (hn : 49 ≤ n) (σ : St) : Ci TC cy ad n D A l yX4_keptGroups wsX4_keptGroups rmX4_keptGroups σ [.ref (ad 22)] (fun Q => vX4_keptGroups Q σ ) := by
  intro Q h
  refine startW (cc := cX4_keptGroups) (nL := 3) (own := RX4) (lo := [some (.ref (ad 22)), none, none]) (by decide) rfl rfl (lo_start (av := [.ref (ad 22)]) (k := 2) (allc1_ok (l := [.ref (ad 22)]) trivial)) (Nat.le_of_ble_eq_true rfl) (fun p e s m args below meth c hc hr hlk => ?_)
  unfold vX4_keptGroups at h
  refine r_iconst (v := 0) hc dX4_keptGroups_0 (by decide) ?_
  refine r_istore_n hc dX4_keptGroups_1 rfl (by decide) (s1 trivial) ?_
  refine r_iconst (v := 0) hc dX4_keptGroups_2 (by decide) ?_
  refine r_istore_n hc dX4_keptGroups_3 rfl (by decide) (ss (s1 trivial)) ?_
  obtain ⟨e4, h⟩ := h
  exact r_weak (wk (wk (wk w0))) (tvX4_keptGroups_L4 hn hc hr hlk e4 _ _ _ h)
theorem iX6_cuboidCount_X6 : ∀ w ∈ u_ws RX6 TX6 2, w ∈ wsX6_cuboidCount := by decide +kernel
theorem fX6_cuboidCount_18 : Cond.fieldLink RX6 18 (TX6 1).1 (TX6 1).2.1 (TX6 1).2.2.1 ∈ wsX6_cuboidCount := by decide +kernel
theorem fX6_cuboidCount_11 : Cond.fieldLink RX6 11 (TX6 0).1 (TX6 0).2.1 (TX6 0).2.2.1 ∈ wsX6_cuboidCount := by decide +kernel
theorem iX6_cuboidCount_X1 : ∀ w ∈ u_ws RX1 TX1 6, w ∈ wsX6_cuboidCount := by decide +kernel
theorem fX6_cuboidCount_26 : (RX6, 26, (TX1 3).1, (TX1 3).2.1, (TX1 3).2.2.1, "CubeDesk") ∈ nestF := by decide +kernel
set_option maxHeartbeats 4000000 in
set_option maxRecDepth 100000 in
theorem tvX6_cuboidCount_L4 {cy : Nat → ClassId} {ad : Nat → Nat} {n : Nat} {D : va_G} {A : Nat → Prop} {l : Launch} {p : Program} {e : Env} {s : State} {m : MethodId} {args : Array Value} {below : List Frame} {meth : Method} {c : Code} {Q : Int32 → St → Prop} (hn : 29 ≤ n) (hc : CX p s m args c D cy cX6_cuboidCount 3 RX6 wsX6_cuboidCount) (hr : meth.sig.returnType = some .int) (hlk : meth.locks = false) : ∀ (q4 : Nat) (σ : St) (x1 : Int32) (x2 : Int32), vX6_cuboidCount_L4 Q q4 σ x1 x2 → WV TC cy ad n D A p l e rmX6_cuboidCount s m args below meth c 3 (MQ below (va_Qi Q (Bw TC cy ad n D) A) args s 0 0 A) σ [some (.ref (ad 0)), some (.int x1), some (.int x2)] [] 4 := by
  intro q4
  induction q4 with
  | zero =>
    intro σ x1 x2 h
    exact h.elim
  | succ q4 ih =>
    intro σ x1 x2 h
    unfold vX6_cuboidCount_L4 at h
    refine r_iload_n hc dX6_cuboidCount_4 rfl ?_
    refine r_aload_n hc dX6_cuboidCount_5 rfl ?_
    refine r_get (v := .int (rd σ 0 1)) hc iX6_cuboidCount_X6 (Nat.lt_of_lt_of_le (by decide) hn) rfl rfl rfl 1 (by decide) fX6_cuboidCount_18 rfl dX6_cuboidCount_6 ?_
    refine r_icmp_ge (tgt := 32) hc dX6_cuboidCount_9 (by decide) (fun hq2 => ?_) (fun hq2 => ?_)
    · replace h := h.1 hq2
      refine r_iload_n hc dX6_cuboidCount_32 rfl ?_
      exact e_i hc hr hlk h dX6_cuboidCount_33
    · replace h := h.2 hq2
      refine r_iload_n hc dX6_cuboidCount_12 rfl ?_
      refine r_aload_n hc dX6_cuboidCount_13 rfl ?_
      refine r_get (v := .ref (ad 1)) hc iX6_cuboidCount_X6 (Nat.lt_of_lt_of_le (by decide) hn) rfl rfl rfl 0 (by decide) fX6_cuboidCount_11 rfl dX6_cuboidCount_14 ?_
      refine r_iload_n hc dX6_cuboidCount_17 rfl ?_
      refine r_aald5 (q := 2 + 4 * x2.toNatClampNeg) hc (Nat.lt_of_lt_of_le (by decide) hn) rfl rfl h.1 rfl dX6_cuboidCount_18 ?_
      replace h := h.2
      have hd1 := h.1
      replace h := h.2
      refine r_getN (v := .int (rd σ (2 + 4 * x2.toNatClampNeg) 3)) hc iX6_cuboidCount_X1 (dm_lt0 hd1 hn) (dm_T hd1) (dm_L hd1) rfl 3 (by decide) fX6_cuboidCount_26 rfl dX6_cuboidCount_19 ?_
      refine r_iconst (v := 1) hc dX6_cuboidCount_22 (by decide) ?_
      refine r_iadd hc dX6_cuboidCount_23 ?_
      refine r_imul hc dX6_cuboidCount_24 ?_
      refine r_istore_n hc dX6_cuboidCount_25 rfl (by decide) (s1 trivial) ?_
      refine r_iinc (v := x2 + 1) hc dX6_cuboidCount_26 rfl rfl (by decide) (ss (s1 trivial)) ?_
      refine r_goto (tgt := 4) hc dX6_cuboidCount_29 (by decide) ?_
      exact r_weak (wk (wk (wk w0))) (ih _ _ _ h)
set_option maxHeartbeats 4000000 in
set_option maxRecDepth 100000 in
theorem zX6_cuboidCount {cy : Nat → ClassId} {ad : Nat → Nat} {n : Nat} {D : va_G} {A : Nat → Prop} {l : Launch} (hn : 29 ≤ n) (σ : St) : Ci TC cy ad n D A l yX6_cuboidCount wsX6_cuboidCount rmX6_cuboidCount σ [.ref (ad 0)] (fun Q => vX6_cuboidCount Q σ ) := by
  intro Q h
  refine startW (cc := cX6_cuboidCount) (nL := 3) (own := RX6) (lo := [some (.ref (ad 0)), none, none]) (by decide) rfl rfl (lo_start (av := [.ref (ad 0)]) (k := 2) (allc1_ok (l := [.ref (ad 0)]) trivial)) (Nat.le_of_ble_eq_true rfl) (fun p e s m args below meth c hc hr hlk => ?_)
  unfold vX6_cuboidCount at h
  refine r_iconst (v := 1) hc dX6_cuboidCount_0 (by decide) ?_
  refine r_istore_n hc dX6_cuboidCount_1 rfl (by decide) (s1 trivial) ?_
  refine r_iconst (v := 0) hc dX6_cuboidCount_2 (by decide) ?_
  refine r_istore_n hc dX6_cuboidCount_3 rfl (by decide) (ss (s1 trivial)) ?_
  obtain ⟨e4, h⟩ := h
  exact r_weak (wk (wk (wk w0))) (tvX6_cuboidCount_L4 hn hc hr hlk e4 _ _ _ h)
theorem iX6_levelsAfter_X6 : ∀ w ∈ u_ws RX6 TX6 2, w ∈ wsX6_levelsAfter := by decide +kernel
theorem fX6_levelsAfter_18 : Cond.fieldLink RX6 18 (TX6 1).1 (TX6 1).2.1 (TX6 1).2.2.1 ∈ wsX6_levelsAfter := by decide +kernel
theorem fX6_levelsAfter_11 : Cond.fieldLink RX6 11 (TX6 0).1 (TX6 0).2.1 (TX6 0).2.2.1 ∈ wsX6_levelsAfter := by decide +kernel
theorem iX6_levelsAfter_X1 : ∀ w ∈ u_ws RX1 TX1 6, w ∈ wsX6_levelsAfter := by decide +kernel
theorem fX6_levelsAfter_26 : (RX6, 26, (TX1 3).1, (TX1 3).2.1, (TX1 3).2.2.1, "CubeDesk") ∈ nestF := by decide +kernel
set_option maxHeartbeats 4000000 in
set_option maxRecDepth 100000 in
theorem tvX6_levelsAfter_L9 {cy : Nat → ClassId} {ad : Nat → Nat} {n : Nat} {D : va_G} {A : Nat → Prop} {l : Launch} {p : Program} {e : Env} {s : State} {m : MethodId} {args : Array Value} {below : List Frame} {meth : Method} {c : Code} {Q : Int32 → St → Prop} (hn : 29 ≤ n) (hc : CX p s m args c D cy cX6_levelsAfter 4 RX6 wsX6_levelsAfter) (hr : meth.sig.returnType = some .int) (hlk : meth.locks = false) : ∀ (q9 : Nat) (σ : St) (x1 : Int32) (x2 : Int32) (x3 : Int32), vX6_levelsAfter_L9 Q q9 σ x1 x2 x3 → WV TC cy ad n D A p l e rmX6_levelsAfter s m args below meth c 4 (MQ below (va_Qi Q (Bw TC cy ad n D) A) args s 0 0 A) σ [some (.ref (ad 0)), some (.int x1), some (.int x2), some (.int x3)] [] 9 := by
  intro q9
  induction q9 with
  | zero =>
    intro σ x1 x2 x3 h
    exact h.elim
  | succ q9 ih =>
    intro σ x1 x2 x3 h
    unfold vX6_levelsAfter_L9 at h
    refine r_iload_n hc dX6_levelsAfter_9 rfl ?_
    refine r_if_lt (tgt := 55) hc dX6_levelsAfter_10 (by decide) (fun hq5 => ?_) (fun hq5 => ?_)
    · replace h := h.1 hq5
      refine r_iload_n hc dX6_levelsAfter_55 rfl ?_
      exact e_i hc hr hlk h dX6_levelsAfter_56
    · replace h := h.2 hq5
      refine r_iload_n hc dX6_levelsAfter_13 rfl ?_
      refine r_iload_n hc dX6_levelsAfter_14 rfl ?_
      refine r_callSi hc (zX6_levelIn hn σ x1 x3) h (va_cwS 2 hc.2.2.2.2.1 gX6_levelsAfter_X6_levelIn rfl rfl rfl qX6_levelIn ⟨Nat.le_of_ble_eq_true rfl, Nat.le_of_ble_eq_true rfl⟩) rfl rfl (Nat.le_of_ble_eq_true rfl) dX6_levelsAfter_15 (fun r2 σ1 h => ?_)
      refine r_aload_n hc dX6_levelsAfter_18 rfl ?_
      refine r_get (v := .ref (ad 1)) hc iX6_levelsAfter_X6 (Nat.lt_of_lt_of_le (by decide) hn) rfl rfl rfl 0 (by decide) fX6_levelsAfter_11 rfl dX6_levelsAfter_19 ?_
      refine r_iload_n hc dX6_levelsAfter_22 rfl ?_
      refine r_aald5 (q := 2 + 4 * x3.toNatClampNeg) hc (Nat.lt_of_lt_of_le (by decide) hn) rfl rfl h.1 rfl dX6_levelsAfter_23 ?_
      replace h := h.2
      have hd3 := h.1
      replace h := h.2
      refine r_getN (v := .int (rd σ1 (2 + 4 * x3.toNatClampNeg) 3)) hc iX6_levelsAfter_X1 (dm_lt0 hd3 hn) (dm_T hd3) (dm_L hd3) rfl 3 (by decide) fX6_levelsAfter_26 rfl dX6_levelsAfter_24 ?_
      refine r_icmp_ge (tgt := 38) hc dX6_levelsAfter_27 (by decide) (fun hq4 => ?_) (fun hq4 => ?_)
      · replace h := h.1 hq4
        refine r_iload_n hc dX6_levelsAfter_38 rfl ?_
        refine r_bipush (v := 15) hc dX6_levelsAfter_39 (by decide) ?_
        refine r_iconst (v := 4) hc dX6_levelsAfter_41 (by decide) ?_
        refine r_iload_n hc dX6_levelsAfter_42 rfl ?_
        refine r_imul hc dX6_levelsAfter_43 ?_
        refine r_ishl hc dX6_levelsAfter_44 ?_
        refine r_iconst (v := (-1)) hc dX6_levelsAfter_45 (by decide) ?_
        refine r_ixor hc dX6_levelsAfter_46 ?_
        refine r_iand hc dX6_levelsAfter_47 ?_
        refine r_istore_n hc dX6_levelsAfter_48 rfl (by decide) (ss (s1 trivial)) ?_
        refine r_iinc (v := x3 + (-1)) hc dX6_levelsAfter_49 rfl rfl (by decide) (ss (ss (s1 trivial))) ?_
        refine r_goto (tgt := 9) hc dX6_levelsAfter_52 (by decide) ?_
        exact r_weak (wk (wk (wk (wk w0)))) (ih _ _ _ _ h)
      · replace h := h.2 hq4
        refine r_iload_n hc dX6_levelsAfter_30 rfl ?_
        refine r_iconst (v := 1) hc dX6_levelsAfter_31 (by decide) ?_
        refine r_iconst (v := 4) hc dX6_levelsAfter_32 (by decide) ?_
        refine r_iload_n hc dX6_levelsAfter_33 rfl ?_
        refine r_imul hc dX6_levelsAfter_34 ?_
        refine r_ishl hc dX6_levelsAfter_35 ?_
        refine r_iadd hc dX6_levelsAfter_36 ?_
        exact e_i hc hr hlk h dX6_levelsAfter_37
set_option maxHeartbeats 4000000 in
set_option maxRecDepth 100000 in
theorem zX6_levelsAfter {cy : Nat → ClassId} {ad : Nat → Nat} {n : Nat} {D : va_G} {A : Nat → Prop} {l : Launch} (hn : 29 ≤ n) (σ : St) (x1 : Int32) : Ci TC cy ad n D A l yX6_levelsAfter wsX6_levelsAfter rmX6_levelsAfter σ [.ref (ad 0), .int x1] (fun Q => vX6_levelsAfter Q σ x1) := by
  intro Q h
  refine startW (cc := cX6_levelsAfter) (nL := 4) (own := RX6) (lo := [some (.ref (ad 0)), some (.int x1), none, none]) (by decide) rfl rfl (lo_start (av := [.ref (ad 0), .int x1]) (k := 2) (allc1_ok (l := [.ref (ad 0), .int x1]) trivial)) (Nat.le_of_ble_eq_true rfl) (fun p e s m args below meth c hc hr hlk => ?_)
  unfold vX6_levelsAfter at h
  refine r_iload_n hc dX6_levelsAfter_0 rfl ?_
  refine r_istore_n hc dX6_levelsAfter_1 rfl (by decide) (ss (s1 trivial)) ?_
  refine r_aload_n hc dX6_levelsAfter_2 rfl ?_
  refine r_get (v := .int (rd σ 0 1)) hc iX6_levelsAfter_X6 (Nat.lt_of_lt_of_le (by decide) hn) rfl rfl rfl 1 (by decide) fX6_levelsAfter_18 rfl dX6_levelsAfter_3 ?_
  refine r_iconst (v := 1) hc dX6_levelsAfter_6 (by decide) ?_
  refine r_isub hc dX6_levelsAfter_7 ?_
  refine r_istore_n hc dX6_levelsAfter_8 rfl (by decide) (ss (ss (s1 trivial))) ?_
  obtain ⟨e9, h⟩ := h
  exact r_weak (wk (wk (wk (wk w0)))) (tvX6_levelsAfter_L9 hn hc hr hlk e9 _ _ _ _ h)
theorem iX4_rebuild_X4 : ∀ w ∈ u_ws RX4 TX4 8, w ∈ wsX4_rebuild := by decide +kernel
theorem fX4_rebuild_32 : Cond.fieldLink RX4 32 (TX4 0).1 (TX4 0).2.1 (TX4 0).2.2.1 ∈ wsX4_rebuild := by decide +kernel
theorem mX4_rebuild_49 : Cond.methodLink RX4 49 Lib.Math.min.name ∈ wsX4_rebuild ∧ Cond.static Lib.Math.min.name ∈ wsX4_rebuild ∧ Cond.initialized "java/lang/Math" ∈ wsX4_rebuild ∧ Cond.code Lib.Math.min.name Lib.Math.min.code 2 (some .int) ∈ wsX4_rebuild := ⟨by decide +kernel, by decide +kernel, by decide +kernel, by decide +kernel⟩
theorem fX4_rebuild_55 : Cond.fieldLink RX4 55 (TX4 7).1 (TX4 7).2.1 (TX4 7).2.2.1 ∈ wsX4_rebuild := by decide +kernel
theorem fX4_rebuild_9 : Cond.fieldLink RX4 9 (TX4 2).1 (TX4 2).2.1 (TX4 2).2.2.1 ∈ wsX4_rebuild := by decide +kernel
set_option maxHeartbeats 4000000 in
set_option maxRecDepth 100000 in
theorem tvX4_rebuild_L21 {cy : Nat → ClassId} {ad : Nat → Nat} {n : Nat} {D : va_G} {A : Nat → Prop} {l : Launch} {p : Program} {e : Env} {s : State} {m : MethodId} {args : Array Value} {below : List Frame} {meth : Method} {c : Code} {Q : St → Prop} (hn : 29 ≤ n) (hc : CX p s m args c D cy cX4_rebuild 3 RX4 wsX4_rebuild) (hr : meth.sig.returnType = none) (hlk : meth.locks = false) : ∀ (q21 : Nat) (σ : St) (x1 : Int32) (x2 : Int32), vX4_rebuild_L21 Q q21 σ x1 x2 → WV TC cy ad n D A p l e rmX4_rebuild s m args below meth c 3 (MQ below (va_Qv Q (Bw TC cy ad n D) A) args s 0 0 A) σ [some (.ref (ad 22)), some (.int x1), some (.int x2)] [] 21 := by
  intro q21
  induction q21 with
  | zero =>
    intro σ x1 x2 h
    exact h.elim
  | succ q21 ih =>
    intro σ x1 x2 h
    unfold vX4_rebuild_L21 at h
    refine r_iload_n hc dX4_rebuild_21 rfl ?_
    refine r_aload_n hc dX4_rebuild_22 rfl ?_
    refine r_get (v := .int (rd σ 22 7)) hc iX4_rebuild_X4 (Nat.lt_of_lt_of_le (by decide) hn) rfl rfl rfl 7 (by decide) fX4_rebuild_55 rfl dX4_rebuild_23 ?_
    refine r_icmp_ge (tgt := 51) hc dX4_rebuild_26 (by decide) (fun hq7 => ?_) (fun hq7 => ?_)
    · replace h := h.1 hq7
      refine r_aload_n hc dX4_rebuild_51 rfl ?_
      refine r_callVv hc (zX4_keepOnlyFirst hn σ) h (Nat.lt_of_lt_of_le (by decide) hn) rfl rfl rfl (cwV 0 hc.2.2.2.2.1 gX4_rebuild_X4_keepOnlyFirst rfl rfl rfl qX4_keepOnlyFirst ⟨Nat.le_of_ble_eq_true rfl, Nat.le_of_ble_eq_true rfl⟩) rfl rfl (Nat.le_of_ble_eq_true rfl) dX4_rebuild_52 (fun σ3 h => ?_)
      refine r_aload_n hc dX4_rebuild_55 rfl ?_
      refine r_callVv hc (zX4_forgetSizes hn σ3) h (Nat.lt_of_lt_of_le (by decide) hn) rfl rfl rfl (cwV 0 hc.2.2.2.2.1 gX4_rebuild_X4_forgetSizes rfl rfl rfl qX4_forgetSizes ⟨Nat.le_of_ble_eq_true rfl, Nat.le_of_ble_eq_true rfl⟩) rfl rfl (Nat.le_of_ble_eq_true rfl) dX4_rebuild_56 (fun σ4 h => ?_)
      exact e_v hc hr hlk h dX4_rebuild_59
    · replace h := h.2 hq7
      refine r_aload_n hc dX4_rebuild_29 rfl ?_
      refine r_get (v := .ref (ad 23)) hc iX4_rebuild_X4 (Nat.lt_of_lt_of_le (by decide) hn) rfl rfl rfl 2 (by decide) fX4_rebuild_9 rfl dX4_rebuild_30 ?_
      refine r_iload_n hc dX4_rebuild_33 rfl ?_
      refine r_iload_n hc dX4_rebuild_34 rfl ?_
      refine r_iast hc (Nat.lt_of_lt_of_le (by decide) hn) rfl rfl h.1 dX4_rebuild_35 ?_
      replace h := h.2
      refine r_aload_n hc dX4_rebuild_36 rfl ?_
      refine r_get (v := .ref (ad 0)) hc iX4_rebuild_X4 (Nat.lt_of_lt_of_le (by decide) hn) rfl rfl rfl 0 (by decide) fX4_rebuild_32 rfl dX4_rebuild_37 ?_
      refine r_iload_n hc dX4_rebuild_40 rfl ?_
      refine r_callVi hc (zX6_levelsAfter hn (wr σ 23 x2.toNatClampNeg x1) x1) h (Nat.lt_of_lt_of_le (by decide) hn) rfl rfl rfl (cwV 1 hc.2.2.2.2.1 gX4_rebuild_X6_levelsAfter rfl rfl rfl qX6_levelsAfter ⟨Nat.le_of_ble_eq_true rfl, Nat.le_of_ble_eq_true rfl⟩) rfl rfl (Nat.le_of_ble_eq_true rfl) dX4_rebuild_41 (fun r6 σ5 h => ?_)
      refine r_istore_n hc dX4_rebuild_44 rfl (by decide) (s1 trivial) ?_
      refine r_iinc (v := x2 + 1) hc dX4_rebuild_45 rfl rfl (by decide) (ss (s1 trivial)) ?_
      refine r_goto (tgt := 21) hc dX4_rebuild_48 (by decide) ?_
      exact r_weak (wk (wk (wk w0))) (ih _ _ _ h)
set_option maxHeartbeats 4000000 in
set_option maxRecDepth 100000 in
theorem zX4_rebuild {cy : Nat → ClassId} {ad : Nat → Nat} {n : Nat} {D : va_G} {A : Nat → Prop} {l : Launch} (hn : 29 ≤ n) (σ : St) : Cv TC cy ad n D A l yX4_rebuild wsX4_rebuild rmX4_rebuild σ [.ref (ad 22)] (fun Q => vX4_rebuild Q σ ) := by
  intro Q h
  refine startW (cc := cX4_rebuild) (nL := 3) (own := RX4) (lo := [some (.ref (ad 22)), none, none]) (by decide) rfl rfl (lo_start (av := [.ref (ad 22)]) (k := 2) (allc1_ok (l := [.ref (ad 22)]) trivial)) (Nat.le_of_ble_eq_true rfl) (fun p e s m args below meth c hc hr hlk => ?_)
  unfold vX4_rebuild at h
  refine r_aload_n hc dX4_rebuild_0 rfl ?_
  refine r_aload_n hc dX4_rebuild_1 rfl ?_
  refine r_get (v := .ref (ad 0)) hc iX4_rebuild_X4 (Nat.lt_of_lt_of_le (by decide) hn) rfl rfl rfl 0 (by decide) fX4_rebuild_32 rfl dX4_rebuild_2 ?_
  refine r_callVi hc (zX6_cuboidCount hn σ) h (Nat.lt_of_lt_of_le (by decide) hn) rfl rfl rfl (cwV 0 hc.2.2.2.2.1 gX4_rebuild_X6_cuboidCount rfl rfl rfl qX6_cuboidCount ⟨Nat.le_of_ble_eq_true rfl, Nat.le_of_ble_eq_true rfl⟩) rfl rfl (Nat.le_of_ble_eq_true rfl) dX4_rebuild_5 (fun r2 σ1 h => ?_)
  refine r_sipush (v := 256) hc dX4_rebuild_8 (by decide) ?_
  refine r_mmin hc mX4_rebuild_49.1 mX4_rebuild_49.2.1 mX4_rebuild_49.2.2.1 mX4_rebuild_49.2.2.2 (Nat.le_of_ble_eq_true rfl) (Nat.le_of_ble_eq_true rfl) dX4_rebuild_11 ?_
  refine r_put hc iX4_rebuild_X4 tyX4_ok nmX4 (Nat.lt_of_lt_of_le (by decide) hn) rfl rfl rfl 7 (by decide) (Nat.le_of_ble_eq_true rfl) fX4_rebuild_55 rfl (by decide +kernel) rfl dX4_rebuild_14 ?_
  refine r_iconst (v := 0) hc dX4_rebuild_17 (by decide) ?_
  refine r_istore_n hc dX4_rebuild_18 rfl (by decide) (s1 trivial) ?_
  refine r_iconst (v := 0) hc dX4_rebuild_19 (by decide) ?_
  refine r_istore_n hc dX4_rebuild_20 rfl (by decide) (ss (s1 trivial)) ?_
  obtain ⟨e21, h⟩ := h
  exact r_weak (wk (wk (wk w0))) (tvX4_rebuild_L21 hn hc hr hlk e21 _ _ _ h)
theorem iX5_byteAt_X5 : ∀ w ∈ u_ws RX5 TX5 2, w ∈ wsX5_byteAt := by decide +kernel
theorem fX5_byteAt_13 : Cond.fieldLink RX5 13 (TX5 1).1 (TX5 1).2.1 (TX5 1).2.2.1 ∈ wsX5_byteAt := by decide +kernel
theorem fX5_byteAt_9 : Cond.fieldLink RX5 9 (TX5 0).1 (TX5 0).2.1 (TX5 0).2.2.1 ∈ wsX5_byteAt := by decide +kernel
set_option maxHeartbeats 4000000 in
set_option maxRecDepth 100000 in
theorem zX5_byteAt {cy : Nat → ClassId} {ad : Nat → Nat} {n : Nat} {D : va_G} {A : Nat → Prop} {l : Launch} (hn : 49 ≤ n) (σ : St) (x1 : Int32) : Ci TC cy ad n D A l yX5_byteAt wsX5_byteAt rmX5_byteAt σ [.ref (ad 45), .int x1] (fun Q => vX5_byteAt Q σ x1) := by
  intro Q h
  refine startW (cc := cX5_byteAt) (nL := 2) (own := RX5) (lo := [some (.ref (ad 45)), some (.int x1)]) (by decide) rfl rfl (lo_start (av := [.ref (ad 45), .int x1]) (k := 0) (allc1_ok (l := [.ref (ad 45), .int x1]) trivial)) (Nat.le_of_ble_eq_true rfl) (fun p e s m args below meth c hc hr hlk => ?_)
  unfold vX5_byteAt at h
  refine r_iload_n hc dX5_byteAt_0 rfl ?_
  refine r_if_lt (tgt := 21) hc dX5_byteAt_1 (by decide) (fun hq2 => ?_) (fun hq2 => ?_)
  · replace h := h.1 hq2
    refine r_iconst (v := 0) hc dX5_byteAt_21 (by decide) ?_
    exact e_i hc hr hlk h dX5_byteAt_22
  · replace h := h.2 hq2
    refine r_iload_n hc dX5_byteAt_4 rfl ?_
    refine r_aload_n hc dX5_byteAt_5 rfl ?_
    refine r_get (v := .int (rd σ 45 1)) hc iX5_byteAt_X5 (Nat.lt_of_lt_of_le (by decide) hn) rfl rfl rfl 1 (by decide) fX5_byteAt_13 rfl dX5_byteAt_6 ?_
    refine r_icmp_ge (tgt := 21) hc dX5_byteAt_9 (by decide) (fun hq1 => ?_) (fun hq1 => ?_)
    · replace h := h.1 hq1
      refine r_iconst (v := 0) hc dX5_byteAt_21 (by decide) ?_
      exact e_i hc hr hlk h dX5_byteAt_22
    · replace h := h.2 hq1
      refine r_aload_n hc dX5_byteAt_12 rfl ?_
      refine r_get (v := .ref (ad 46)) hc iX5_byteAt_X5 (Nat.lt_of_lt_of_le (by decide) hn) rfl rfl rfl 0 (by decide) fX5_byteAt_9 rfl dX5_byteAt_13 ?_
      refine r_iload_n hc dX5_byteAt_16 rfl ?_
      refine r_bald hc (Nat.lt_of_lt_of_le (by decide) hn) rfl rfl h.1 dX5_byteAt_17 ?_
      replace h := h.2
      refine r_goto (tgt := 22) hc dX5_byteAt_18 (by decide) ?_
      exact e_i hc hr hlk h dX5_byteAt_22
theorem iX5_clear_X5 : ∀ w ∈ u_ws RX5 TX5 2, w ∈ wsX5_clear := by decide +kernel
theorem fX5_clear_13 : Cond.fieldLink RX5 13 (TX5 1).1 (TX5 1).2.1 (TX5 1).2.2.1 ∈ wsX5_clear := by decide +kernel
set_option maxHeartbeats 4000000 in
set_option maxRecDepth 100000 in
theorem zX5_clear {cy : Nat → ClassId} {ad : Nat → Nat} {n : Nat} {D : va_G} {A : Nat → Prop} {l : Launch} (hn : 49 ≤ n) (σ : St) : Cv TC cy ad n D A l yX5_clear wsX5_clear rmX5_clear σ [.ref (ad 45)] (fun Q => vX5_clear Q σ ) := by
  intro Q h
  refine startW (cc := cX5_clear) (nL := 1) (own := RX5) (lo := [some (.ref (ad 45))]) (by decide) rfl rfl (lo_start (av := [.ref (ad 45)]) (k := 0) (allc1_ok (l := [.ref (ad 45)]) trivial)) (Nat.le_of_ble_eq_true rfl) (fun p e s m args below meth c hc hr hlk => ?_)
  unfold vX5_clear at h
  refine r_aload_n hc dX5_clear_0 rfl ?_
  refine r_iconst (v := 0) hc dX5_clear_1 (by decide) ?_
  refine r_put hc iX5_clear_X5 tyX5_ok nmX5 (Nat.lt_of_lt_of_le (by decide) hn) rfl rfl rfl 1 (by decide) (Nat.le_of_ble_eq_true rfl) fX5_clear_13 rfl (by decide +kernel) rfl dX5_clear_2 ?_
  exact e_v hc hr hlk h dX5_clear_5
theorem iX5_put_X5 : ∀ w ∈ u_ws RX5 TX5 2, w ∈ wsX5_put := by decide +kernel
theorem fX5_put_13 : Cond.fieldLink RX5 13 (TX5 1).1 (TX5 1).2.1 (TX5 1).2.2.1 ∈ wsX5_put := by decide +kernel
theorem fX5_put_9 : Cond.fieldLink RX5 9 (TX5 0).1 (TX5 0).2.1 (TX5 0).2.2.1 ∈ wsX5_put := by decide +kernel
set_option maxHeartbeats 4000000 in
set_option maxRecDepth 100000 in
theorem zX5_put {cy : Nat → ClassId} {ad : Nat → Nat} {n : Nat} {D : va_G} {A : Nat → Prop} {l : Launch} (hn : 49 ≤ n) (σ : St) (x1 : Int32) : Cv TC cy ad n D A l yX5_put wsX5_put rmX5_put σ [.ref (ad 45), .int x1] (fun Q => vX5_put Q σ x1) := by
  intro Q h
  refine startW (cc := cX5_put) (nL := 2) (own := RX5) (lo := [some (.ref (ad 45)), some (.int x1)]) (by decide) rfl rfl (lo_start (av := [.ref (ad 45), .int x1]) (k := 0) (allc1_ok (l := [.ref (ad 45), .int x1]) trivial)) (Nat.le_of_ble_eq_true rfl) (fun p e s m args below meth c hc hr hlk => ?_)
  unfold vX5_put at h
  refine r_aload_n hc dX5_put_0 rfl ?_
  refine r_get (v := .int (rd σ 45 1)) hc iX5_put_X5 (Nat.lt_of_lt_of_le (by decide) hn) rfl rfl rfl 1 (by decide) fX5_put_13 rfl dX5_put_1 ?_
  refine r_sipush (v := 648) hc dX5_put_4 (by decide) ?_
  refine r_icmp_ge (tgt := 31) hc dX5_put_7 (by decide) (fun hq1 => ?_) (fun hq1 => ?_)
  · replace h := h.1 hq1
    exact e_v hc hr hlk h dX5_put_31
  · replace h := h.2 hq1
    refine r_aload_n hc dX5_put_10 rfl ?_
    refine r_get (v := .ref (ad 46)) hc iX5_put_X5 (Nat.lt_of_lt_of_le (by decide) hn) rfl rfl rfl 0 (by decide) fX5_put_9 rfl dX5_put_11 ?_
    refine r_aload_n hc dX5_put_14 rfl ?_
    refine r_get (v := .int (rd σ 45 1)) hc iX5_put_X5 (Nat.lt_of_lt_of_le (by decide) hn) rfl rfl rfl 1 (by decide) fX5_put_13 rfl dX5_put_15 ?_
    refine r_iload_n hc dX5_put_18 rfl ?_
    refine r_i2b hc dX5_put_19 ?_
    refine r_bast hc (Nat.lt_of_lt_of_le (by decide) hn) rfl rfl h.1 dX5_put_20 ?_
    replace h := h.2
    refine r_aload_n hc dX5_put_21 rfl ?_
    refine r_dup hc dX5_put_22 rfl ?_
    refine r_get (v := .int (rd (wr σ 46 (rd σ 45 1).toNatClampNeg (vp_nar .byte x1.toInt8.toInt32)) 45 1)) hc iX5_put_X5 (Nat.lt_of_lt_of_le (by decide) hn) rfl rfl rfl 1 (by decide) fX5_put_13 rfl dX5_put_23 ?_
    refine r_iconst (v := 1) hc dX5_put_26 (by decide) ?_
    refine r_iadd hc dX5_put_27 ?_
    refine r_put hc iX5_put_X5 tyX5_ok nmX5 (Nat.lt_of_lt_of_le (by decide) hn) rfl rfl rfl 1 (by decide) (Nat.le_of_ble_eq_true rfl) fX5_put_13 rfl (by decide +kernel) rfl dX5_put_28 ?_
    exact e_v hc hr hlk h dX5_put_31
theorem mX5_putNumber_17 : Cond.methodLink RX5 17 Lib.Math.abs.name ∈ wsX5_putNumber ∧ Cond.static Lib.Math.abs.name ∈ wsX5_putNumber ∧ Cond.initialized "java/lang/Math" ∈ wsX5_putNumber ∧ Cond.code Lib.Math.abs.name Lib.Math.abs.code 1 (some .int) ∈ wsX5_putNumber := ⟨by decide +kernel, by decide +kernel, by decide +kernel, by decide +kernel⟩
theorem oX5_putNumber_27 : Jvm.Cond.constant RX5 27 (1000000) ∈ wsX5_putNumber := by decide +kernel
set_option maxHeartbeats 4000000 in
set_option maxRecDepth 100000 in
theorem tvX5_putNumber_J55 {cy : Nat → ClassId} {ad : Nat → Nat} {n : Nat} {D : va_G} {A : Nat → Prop} {l : Launch} {p : Program} {e : Env} {s : State} {m : MethodId} {args : Array Value} {below : List Frame} {meth : Method} {c : Code} {Q : St → Prop} {K21 : St → Int32 → Int32 → Int32 → Prop} (hn : 49 ≤ n) (hc : CX p s m args c D cy cX5_putNumber 6 RX5 wsX5_putNumber) (hr : meth.sig.returnType = none) (hlk : meth.locks = false) (hK21 : ∀ (σ : St) (x2 : Int32) (x3 : Int32) (x4 : Int32), K21 σ x2 x3 x4 → WV TC cy ad n D A p l e rmX5_putNumber s m args below meth c 6 (MQ below (va_Qv Q (Bw TC cy ad n D) A) args s 0 0 A) σ [some (.ref (ad 45)), none, some (.int x2), some (.int x3), some (.int x4), none] [] 21) : ∀ (σ : St) (x2 : Int32) (x4 : Int32) (x5 : Int32) (y0 : Int32), vX5_putNumber_J55 Q K21 σ x2 x4 x5 y0 → WV TC cy ad n D A p l e rmX5_putNumber s m args below meth c 6 (MQ below (va_Qv Q (Bw TC cy ad n D) A) args s 0 0 A) σ [some (.ref (ad 45)), none, some (.int x2), none, some (.int x4), some (.int x5)] [.int y0] 55 := by
  intro σ x2 x4 x5 y0 h
  unfold vX5_putNumber_J55 at h
  refine r_istore_n hc dX5_putNumber_55 rfl (by decide) (ss (ss (s1 trivial))) ?_
  refine r_iload_n hc dX5_putNumber_56 rfl ?_
  refine r_if_eq (tgt := 69) hc dX5_putNumber_57 (by decide) (fun hq8 => ?_) (fun hq8 => ?_)
  · replace h := h.1 hq8
    refine r_iload hc dX5_putNumber_69 rfl ?_
    refine r_bipush (v := 10) hc dX5_putNumber_71 (by decide) ?_
    refine r_idiv hc dX5_putNumber_73 (by decide) ?_
    refine r_istore hc dX5_putNumber_74 (by decide) (ss (ss (ss (s1 trivial)))) ?_
    refine r_goto (tgt := 21) hc dX5_putNumber_76 (by decide) ?_
    exact r_weak (wk (wn (wk (wk (wk (wn w0)))))) (hK21 _ _ _ _ h)
  · replace h := h.2 hq8
    refine r_aload_n hc dX5_putNumber_60 rfl ?_
    refine r_bipush (v := 48) hc dX5_putNumber_61 (by decide) ?_
    refine r_iload hc dX5_putNumber_63 rfl ?_
    refine r_iadd hc dX5_putNumber_65 ?_
    refine r_callVv hc (zX5_put hn σ (48 + x5)) h (Nat.lt_of_lt_of_le (by decide) hn) rfl rfl rfl (cwV 1 hc.2.2.2.2.1 gX5_putNumber_X5_put rfl rfl rfl qX5_put ⟨Nat.le_of_ble_eq_true rfl, Nat.le_of_ble_eq_true rfl⟩) rfl rfl (Nat.le_of_ble_eq_true rfl) dX5_putNumber_66 (fun σ7 h => ?_)
    refine r_iload hc dX5_putNumber_69 rfl ?_
    refine r_bipush (v := 10) hc dX5_putNumber_71 (by decide) ?_
    refine r_idiv hc dX5_putNumber_73 (by decide) ?_
    refine r_istore hc dX5_putNumber_74 (by decide) (ss (ss (ss (s1 trivial)))) ?_
    refine r_goto (tgt := 21) hc dX5_putNumber_76 (by decide) ?_
    exact r_weak (wk (wn (wk (wk (wk (wn w0)))))) (hK21 _ _ _ _ h)
set_option maxHeartbeats 4000000 in
set_option maxRecDepth 100000 in
theorem tvX5_putNumber_L21 {cy : Nat → ClassId} {ad : Nat → Nat} {n : Nat} {D : va_G} {A : Nat → Prop} {l : Launch} {p : Program} {e : Env} {s : State} {m : MethodId} {args : Array Value} {below : List Frame} {meth : Method} {c : Code} {Q : St → Prop} (hn : 49 ≤ n) (hc : CX p s m args c D cy cX5_putNumber 6 RX5 wsX5_putNumber) (hr : meth.sig.returnType = none) (hlk : meth.locks = false) : ∀ (q21 : Nat) (σ : St) (x2 : Int32) (x3 : Int32) (x4 : Int32), vX5_putNumber_L21 Q q21 σ x2 x3 x4 → WV TC cy ad n D A p l e rmX5_putNumber s m args below meth c 6 (MQ below (va_Qv Q (Bw TC cy ad n D) A) args s 0 0 A) σ [some (.ref (ad 45)), none, some (.int x2), some (.int x3), some (.int x4), none] [] 21 := by
  intro q21
  induction q21 with
  | zero =>
    intro σ x2 x3 x4 h
    exact h.elim
  | succ q21 ih =>
    intro σ x2 x3 x4 h
    unfold vX5_putNumber_L21 at h
    refine r_iload hc dX5_putNumber_21 rfl ?_
    refine r_if_le (tgt := 79) hc dX5_putNumber_23 (by decide) (fun hq6 => ?_) (fun hq6 => ?_)
    · replace h := h.1 hq6
      exact e_v hc hr hlk h dX5_putNumber_79
    · replace h := h.2 hq6
      refine r_iload_n hc dX5_putNumber_26 rfl ?_
      refine r_iload hc dX5_putNumber_27 rfl ?_
      refine r_idiv hc dX5_putNumber_29 h.1 ?_
      replace h := h.2
      refine r_bipush (v := 10) hc dX5_putNumber_30 (by decide) ?_
      refine r_irem hc dX5_putNumber_32 (by decide) ?_
      refine r_istore hc dX5_putNumber_33 (by decide) (ss (ss (ss (ss (s1 trivial))))) ?_
      refine r_iload_n hc dX5_putNumber_35 rfl ?_
      refine r_if_ne (tgt := 50) hc dX5_putNumber_36 (by decide) (fun hq5 => ?_) (fun hq5 => ?_)
      · replace h := h.1 hq5
        refine r_iload hc dX5_putNumber_39 rfl ?_
        refine r_if_gt (tgt := 50) hc dX5_putNumber_41 (by decide) (fun hq4 => ?_) (fun hq4 => ?_)
        · replace h := h.1 hq4
          refine r_iconst (v := 1) hc dX5_putNumber_50 (by decide) ?_
          refine r_goto (tgt := 55) hc dX5_putNumber_51 (by decide) ?_
          exact r_weak (wk (wn (wk (wn (wk (wk w0)))))) (tvX5_putNumber_J55 hn hc hr hlk ih _ _ _ _ _ h)
        · replace h := h.2 hq4
          refine r_iload hc dX5_putNumber_44 rfl ?_
          refine r_iconst (v := 1) hc dX5_putNumber_46 (by decide) ?_
          refine r_icmp_ne (tgt := 54) hc dX5_putNumber_47 (by decide) (fun hq3 => ?_) (fun hq3 => ?_)
          · replace h := h.1 hq3
            refine r_iconst (v := 1) hc dX5_putNumber_50 (by decide) ?_
            refine r_goto (tgt := 55) hc dX5_putNumber_51 (by decide) ?_
            exact r_weak (wk (wn (wk (wn (wk (wk w0)))))) (tvX5_putNumber_J55 hn hc hr hlk ih _ _ _ _ _ h)
          · replace h := h.2 hq3
            refine r_iconst (v := 0) hc dX5_putNumber_54 (by decide) ?_
            exact r_weak (wk (wn (wk (wn (wk (wk w0)))))) (tvX5_putNumber_J55 hn hc hr hlk ih _ _ _ _ _ h)
      · replace h := h.2 hq5
        refine r_iconst (v := 1) hc dX5_putNumber_50 (by decide) ?_
        refine r_goto (tgt := 55) hc dX5_putNumber_51 (by decide) ?_
        exact r_weak (wk (wn (wk (wn (wk (wk w0)))))) (tvX5_putNumber_J55 hn hc hr hlk ih _ _ _ _ _ h)
set_option maxHeartbeats 4000000 in
set_option maxRecDepth 100000 in
theorem zX5_putNumber {cy : Nat → ClassId} {ad : Nat → Nat} {n : Nat} {D : va_G} {A : Nat → Prop} {l : Launch} (hn : 49 ≤ n) (σ : St) (x1 : Int32) : Cv TC cy ad n D A l yX5_putNumber wsX5_putNumber rmX5_putNumber σ [.ref (ad 45), .int x1] (fun Q => vX5_putNumber Q σ x1) := by
  intro Q h
  refine startW (cc := cX5_putNumber) (nL := 6) (own := RX5) (lo := [some (.ref (ad 45)), some (.int x1), none, none, none, none]) (by decide) rfl rfl (lo_start (av := [.ref (ad 45), .int x1]) (k := 4) (allc1_ok (l := [.ref (ad 45), .int x1]) trivial)) (Nat.le_of_ble_eq_true rfl) (fun p e s m args below meth c hc hr hlk => ?_)
  unfold vX5_putNumber at h
  refine r_iload_n hc dX5_putNumber_0 rfl ?_
  refine r_mabs hc mX5_putNumber_17.1 mX5_putNumber_17.2.1 mX5_putNumber_17.2.2.1 mX5_putNumber_17.2.2.2 (Nat.le_of_ble_eq_true rfl) (Nat.le_of_ble_eq_true rfl) dX5_putNumber_1 ?_
  refine r_istore_n hc dX5_putNumber_4 rfl (by decide) (ss (s1 trivial)) ?_
  refine r_iload_n hc dX5_putNumber_5 rfl ?_
  refine r_if_ge (tgt := 15) hc dX5_putNumber_6 (by decide) (fun hq2 => ?_) (fun hq2 => ?_)
  · replace h := h.1 hq2
    refine r_iconst (v := 0) hc dX5_putNumber_15 (by decide) ?_
    refine r_istore_n hc dX5_putNumber_16 rfl (by decide) (ss (ss (s1 trivial))) ?_
    refine r_ldc (v := 1000000) hc dX5_putNumber_17 oX5_putNumber_27 ?_
    refine r_istore hc dX5_putNumber_19 (by decide) (ss (ss (ss (s1 trivial)))) ?_
    obtain ⟨e21, h⟩ := h
    exact r_weak (wk (wn (wk (wk (wk (wn w0)))))) (tvX5_putNumber_L21 hn hc hr hlk e21 _ _ _ _ h)
  · replace h := h.2 hq2
    refine r_aload_n hc dX5_putNumber_9 rfl ?_
    refine r_bipush (v := 45) hc dX5_putNumber_10 (by decide) ?_
    refine r_callVv hc (zX5_put hn σ 45) h (Nat.lt_of_lt_of_le (by decide) hn) rfl rfl rfl (cwV 1 hc.2.2.2.2.1 gX5_putNumber_X5_put rfl rfl rfl qX5_put ⟨Nat.le_of_ble_eq_true rfl, Nat.le_of_ble_eq_true rfl⟩) rfl rfl (Nat.le_of_ble_eq_true rfl) dX5_putNumber_12 (fun σ1 h => ?_)
    refine r_iconst (v := 0) hc dX5_putNumber_15 (by decide) ?_
    refine r_istore_n hc dX5_putNumber_16 rfl (by decide) (ss (ss (s1 trivial))) ?_
    refine r_ldc (v := 1000000) hc dX5_putNumber_17 oX5_putNumber_27 ?_
    refine r_istore hc dX5_putNumber_19 (by decide) (ss (ss (ss (s1 trivial)))) ?_
    obtain ⟨e21, h⟩ := h
    exact r_weak (wk (wn (wk (wk (wk (wn w0)))))) (tvX5_putNumber_L21 hn hc hr hlk e21 _ _ _ _ h)
theorem iX6_find_X6 : ∀ w ∈ u_ws RX6 TX6 2, w ∈ wsX6_find := by decide +kernel
theorem fX6_find_18 : Cond.fieldLink RX6 18 (TX6 1).1 (TX6 1).2.1 (TX6 1).2.2.1 ∈ wsX6_find := by decide +kernel
theorem fX6_find_11 : Cond.fieldLink RX6 11 (TX6 0).1 (TX6 0).2.1 (TX6 0).2.2.1 ∈ wsX6_find := by decide +kernel
set_option maxHeartbeats 4000000 in
set_option maxRecDepth 100000 in
theorem zX6_find {cy : Nat → ClassId} {ad : Nat → Nat} {n : Nat} {D : va_G} {A : Nat → Prop} {l : Launch} (hn : 29 ≤ n) (σ : St) (x1 : Int32) : Co TC cy ad n D A l yX6_find wsX6_find rmX6_find σ [.ref (ad 0), .int x1] (fun Q => vX6_find Q σ x1) := by
  intro Q h
  refine startW (cc := cX6_find) (nL := 2) (own := RX6) (lo := [some (.ref (ad 0)), some (.int x1)]) (by decide) rfl rfl (lo_start (av := [.ref (ad 0), .int x1]) (k := 0) (allc1_ok (l := [.ref (ad 0), .int x1]) trivial)) (Nat.le_of_ble_eq_true rfl) (fun p e s m args below meth c hc hr hlk => ?_)
  unfold vX6_find at h
  refine r_iload_n hc dX6_find_0 rfl ?_
  refine r_if_lt (tgt := 12) hc dX6_find_1 (by decide) (fun hq2 => ?_) (fun hq2 => ?_)
  · replace h := h.1 hq2
    refine r_null hc dX6_find_12 ?_
    refine r_goto (tgt := 22) hc dX6_find_13 (by decide) ?_
    exact e_o (r := none) hc hr ⟨_, rfl⟩ hlk h dX6_find_22
  · replace h := h.2 hq2
    refine r_iload_n hc dX6_find_4 rfl ?_
    refine r_aload_n hc dX6_find_5 rfl ?_
    refine r_get (v := .int (rd σ 0 1)) hc iX6_find_X6 (Nat.lt_of_lt_of_le (by decide) hn) rfl rfl rfl 1 (by decide) fX6_find_18 rfl dX6_find_6 ?_
    refine r_icmp_lt (tgt := 16) hc dX6_find_9 (by decide) (fun hq1 => ?_) (fun hq1 => ?_)
    · replace h := h.1 hq1
      refine r_aload_n hc dX6_find_16 rfl ?_
      refine r_get (v := .ref (ad 1)) hc iX6_find_X6 (Nat.lt_of_lt_of_le (by decide) hn) rfl rfl rfl 0 (by decide) fX6_find_11 rfl dX6_find_17 ?_
      refine r_iload_n hc dX6_find_20 rfl ?_
      refine r_aald5 (q := 2 + 4 * x1.toNatClampNeg) hc (Nat.lt_of_lt_of_le (by decide) hn) rfl rfl h.1 rfl dX6_find_21 ?_
      replace h := h.2
      exact e_o (r := (some (2 + 4 * x1.toNatClampNeg))) hc hr ⟨_, rfl⟩ hlk h dX6_find_22
    · replace h := h.2 hq1
      refine r_null hc dX6_find_12 ?_
      refine r_goto (tgt := 22) hc dX6_find_13 (by decide) ?_
      exact e_o (r := none) hc hr ⟨_, rfl⟩ hlk h dX6_find_22
set_option maxHeartbeats 4000000 in
set_option maxRecDepth 100000 in
theorem zX6_homeIn {cy : Nat → ClassId} {ad : Nat → Nat} {n : Nat} {D : va_G} {A : Nat → Prop} {l : Launch} (hn : 29 ≤ n) (σ : St) (x1 : Int32) (x2 : Int32) (x3 : Int32) : Ci TC cy ad n D A l yX6_homeIn wsX6_homeIn rmX6_homeIn σ [.ref (ad 0), .int x1, .int x2, .int x3] (fun Q => vX6_homeIn Q σ x1 x2 x3) := by
  intro Q h
  refine startW (cc := cX6_homeIn) (nL := 5) (own := RX6) (lo := [some (.ref (ad 0)), some (.int x1), some (.int x2), some (.int x3), none]) (by decide) rfl rfl (lo_start (av := [.ref (ad 0), .int x1, .int x2, .int x3]) (k := 1) (allc1_ok (l := [.ref (ad 0), .int x1, .int x2, .int x3]) trivial)) (Nat.le_of_ble_eq_true rfl) (fun p e s m args below meth c hc hr hlk => ?_)
  unfold vX6_homeIn at h
  refine r_aload_n hc dX6_homeIn_0 rfl ?_
  refine r_iload_n hc dX6_homeIn_1 rfl ?_
  refine r_callVo hc (zX6_find hn σ x2) h (Nat.lt_of_lt_of_le (by decide) hn) rfl rfl rfl (cwV 1 hc.2.2.2.2.1 gX6_homeIn_X6_find rfl rfl rfl qX6_find ⟨Nat.le_of_ble_eq_true rfl, Nat.le_of_ble_eq_true rfl⟩) rfl rfl (Nat.le_of_ble_eq_true rfl) dX6_homeIn_2 (fun r2 σ1 h => ?_)
  cases r2 with
  | none =>
    replace h := h.1 rfl
    refine r_astoreN hc dX6_homeIn_5 (by decide) (ss (ss (ss (s1 trivial)))) ?_
    refine r_aloadN hc dX6_homeIn_7 rfl ?_
    refine r_ifnonnull_n hc dX6_homeIn_9 ?_
    refine r_iconst (v := 0) hc dX6_homeIn_12 (by decide) ?_
    refine r_goto (tgt := 28) hc dX6_homeIn_13 (by decide) ?_
    exact e_i hc hr hlk h dX6_homeIn_28
  | some k3 =>
    replace h := h.2 k3 rfl
    refine r_astore hc dX6_homeIn_5 (by decide) (ss (ss (ss (s1 trivial)))) ?_
    refine r_aload hc dX6_homeIn_7 rfl ?_
    refine r_ifnonnull_r (tgt := 16) hc dX6_homeIn_9 (by decide) ?_
    refine r_aload hc dX6_homeIn_16 rfl ?_
    refine r_aload_n hc dX6_homeIn_18 rfl ?_
    refine r_iload_n hc dX6_homeIn_19 rfl ?_
    refine r_iload_n hc dX6_homeIn_20 rfl ?_
    refine r_callVi hc (zX6_memberIn hn σ1 x1 x2) h (Nat.lt_of_lt_of_le (by decide) hn) rfl rfl rfl (cwV 2 hc.2.2.2.2.1 gX6_homeIn_X6_memberIn rfl rfl rfl qX6_memberIn ⟨Nat.le_of_ble_eq_true rfl, Nat.le_of_ble_eq_true rfl⟩) rfl rfl (Nat.le_of_ble_eq_true rfl) dX6_homeIn_21 (fun r5 σ4 h => ?_)
    refine r_iload_n hc dX6_homeIn_24 rfl ?_
    have hd6 := h.1
    replace h := h.2
    refine r_callVi hc (zX1_homeOf hn hd6 σ4 r5 x3) h (dm_lt0 hd6 hn) (dm_T hd6) (dm_L hd6) rfl (cwV 2 hc.2.2.2.2.1 gX6_homeIn_X1_homeOf rfl rfl rfl qX1_homeOf ⟨Nat.le_of_ble_eq_true rfl, Nat.le_of_ble_eq_true rfl⟩) rfl rfl (Nat.le_of_ble_eq_true rfl) dX6_homeIn_25 (fun r8 σ7 h => ?_)
    exact e_i hc hr hlk h dX6_homeIn_28
theorem iX6_inDecimals_X6 : ∀ w ∈ u_ws RX6 TX6 2, w ∈ wsX6_inDecimals := by decide +kernel
theorem fX6_inDecimals_18 : Cond.fieldLink RX6 18 (TX6 1).1 (TX6 1).2.1 (TX6 1).2.2.1 ∈ wsX6_inDecimals := by decide +kernel
set_option maxHeartbeats 4000000 in
set_option maxRecDepth 100000 in
theorem tvX6_inDecimals_L4 {cy : Nat → ClassId} {ad : Nat → Nat} {n : Nat} {D : va_G} {A : Nat → Prop} {l : Launch} {p : Program} {e : Env} {s : State} {m : MethodId} {args : Array Value} {below : List Frame} {meth : Method} {c : Code} {Q : Int32 → St → Prop} (hn : 29 ≤ n) (hc : CX p s m args c D cy cX6_inDecimals 4 RX6 wsX6_inDecimals) (hr : meth.sig.returnType = some .int) (hlk : meth.locks = false) : ∀ (q4 : Nat) (σ : St) (x1 : Int32) (x2 : Int32) (x3 : Int32), vX6_inDecimals_L4 Q q4 σ x1 x2 x3 → WV TC cy ad n D A p l e rmX6_inDecimals s m args below meth c 4 (MQ below (va_Qi Q (Bw TC cy ad n D) A) args s 0 0 A) σ [some (.ref (ad 0)), some (.int x1), some (.int x2), some (.int x3)] [] 4 := by
  intro q4
  induction q4 with
  | zero =>
    intro σ x1 x2 x3 h
    exact h.elim
  | succ q4 ih =>
    intro σ x1 x2 x3 h
    unfold vX6_inDecimals_L4 at h
    refine r_iload_n hc dX6_inDecimals_4 rfl ?_
    refine r_aload_n hc dX6_inDecimals_5 rfl ?_
    refine r_get (v := .int (rd σ 0 1)) hc iX6_inDecimals_X6 (Nat.lt_of_lt_of_le (by decide) hn) rfl rfl rfl 1 (by decide) fX6_inDecimals_18 rfl dX6_inDecimals_6 ?_
    refine r_icmp_ge (tgt := 30) hc dX6_inDecimals_9 (by decide) (fun hq3 => ?_) (fun hq3 => ?_)
    · replace h := h.1 hq3
      refine r_iload_n hc dX6_inDecimals_30 rfl ?_
      exact e_i hc hr hlk h dX6_inDecimals_31
    · replace h := h.2 hq3
      refine r_iload_n hc dX6_inDecimals_12 rfl ?_
      refine r_bipush (v := 10) hc dX6_inDecimals_13 (by decide) ?_
      refine r_imul hc dX6_inDecimals_15 ?_
      refine r_aload_n hc dX6_inDecimals_16 rfl ?_
      refine r_iload_n hc dX6_inDecimals_17 rfl ?_
      refine r_iload_n hc dX6_inDecimals_18 rfl ?_
      refine r_callVi hc (zX6_memberIn hn σ x1 x3) h (Nat.lt_of_lt_of_le (by decide) hn) rfl rfl rfl (cwV 2 hc.2.2.2.2.1 gX6_inDecimals_X6_memberIn rfl rfl rfl qX6_memberIn ⟨Nat.le_of_ble_eq_true rfl, Nat.le_of_ble_eq_true rfl⟩) rfl rfl (Nat.le_of_ble_eq_true rfl) dX6_inDecimals_19 (fun r2 σ1 h => ?_)
      refine r_iadd hc dX6_inDecimals_22 ?_
      refine r_istore_n hc dX6_inDecimals_23 rfl (by decide) (ss (s1 trivial)) ?_
      refine r_iinc (v := x3 + 1) hc dX6_inDecimals_24 rfl rfl (by decide) (ss (ss (s1 trivial))) ?_
      refine r_goto (tgt := 4) hc dX6_inDecimals_27 (by decide) ?_
      exact r_weak (wk (wk (wk (wk w0)))) (ih _ _ _ _ h)
set_option maxHeartbeats 4000000 in
set_option maxRecDepth 100000 in
theorem zX6_inDecimals {cy : Nat → ClassId} {ad : Nat → Nat} {n : Nat} {D : va_G} {A : Nat → Prop} {l : Launch} (hn : 29 ≤ n) (σ : St) (x1 : Int32) : Ci TC cy ad n D A l yX6_inDecimals wsX6_inDecimals rmX6_inDecimals σ [.ref (ad 0), .int x1] (fun Q => vX6_inDecimals Q σ x1) := by
  intro Q h
  refine startW (cc := cX6_inDecimals) (nL := 4) (own := RX6) (lo := [some (.ref (ad 0)), some (.int x1), none, none]) (by decide) rfl rfl (lo_start (av := [.ref (ad 0), .int x1]) (k := 2) (allc1_ok (l := [.ref (ad 0), .int x1]) trivial)) (Nat.le_of_ble_eq_true rfl) (fun p e s m args below meth c hc hr hlk => ?_)
  unfold vX6_inDecimals at h
  refine r_iconst (v := 0) hc dX6_inDecimals_0 (by decide) ?_
  refine r_istore_n hc dX6_inDecimals_1 rfl (by decide) (ss (s1 trivial)) ?_
  refine r_iconst (v := 0) hc dX6_inDecimals_2 (by decide) ?_
  refine r_istore_n hc dX6_inDecimals_3 rfl (by decide) (ss (ss (s1 trivial))) ?_
  obtain ⟨e4, h⟩ := h
  exact r_weak (wk (wk (wk (wk w0)))) (tvX6_inDecimals_L4 hn hc hr hlk e4 _ _ _ _ h)
theorem iX6_open_X6 : ∀ w ∈ u_ws RX6 TX6 2, w ∈ wsX6_open := by decide +kernel
theorem fX6_open_18 : Cond.fieldLink RX6 18 (TX6 1).1 (TX6 1).2.1 (TX6 1).2.2.1 ∈ wsX6_open := by decide +kernel
theorem fX6_open_11 : Cond.fieldLink RX6 11 (TX6 0).1 (TX6 0).2.1 (TX6 0).2.2.1 ∈ wsX6_open := by decide +kernel
set_option maxHeartbeats 4000000 in
set_option maxRecDepth 100000 in
theorem zX6_open {cy : Nat → ClassId} {ad : Nat → Nat} {n : Nat} {D : va_G} {A : Nat → Prop} {l : Launch} (hn : 29 ≤ n) (σ : St) (x1 : Int32) : Ci TC cy ad n D A l yX6_open wsX6_open rmX6_open σ [.ref (ad 0), .int x1] (fun Q => vX6_open Q σ x1) := by
  intro Q h
  refine startW (cc := cX6_open) (nL := 3) (own := RX6) (lo := [some (.ref (ad 0)), some (.int x1), none]) (by decide) rfl rfl (lo_start (av := [.ref (ad 0), .int x1]) (k := 1) (allc1_ok (l := [.ref (ad 0), .int x1]) trivial)) (Nat.le_of_ble_eq_true rfl) (fun p e s m args below meth c hc hr hlk => ?_)
  unfold vX6_open at h
  refine r_aload_n hc dX6_open_0 rfl ?_
  refine r_get (v := .int (rd σ 0 1)) hc iX6_open_X6 (Nat.lt_of_lt_of_le (by decide) hn) rfl rfl rfl 1 (by decide) fX6_open_18 rfl dX6_open_1 ?_
  refine r_istore_n hc dX6_open_4 rfl (by decide) (ss (s1 trivial)) ?_
  refine r_iload_n hc dX6_open_5 rfl ?_
  refine r_iconst (v := 4) hc dX6_open_6 (by decide) ?_
  refine r_icmp_ge (tgt := 27) hc dX6_open_7 (by decide) (fun hq3 => ?_) (fun hq3 => ?_)
  · replace h := h.1 hq3
    refine r_iload_n hc dX6_open_27 rfl ?_
    exact e_i hc hr hlk h dX6_open_28
  · replace h := h.2 hq3
    refine r_aload_n hc dX6_open_10 rfl ?_
    refine r_get (v := .ref (ad 1)) hc iX6_open_X6 (Nat.lt_of_lt_of_le (by decide) hn) rfl rfl rfl 0 (by decide) fX6_open_11 rfl dX6_open_11 ?_
    refine r_iload_n hc dX6_open_14 rfl ?_
    refine r_aald5 (q := 2 + 4 * (rd σ 0 1).toNatClampNeg) hc (Nat.lt_of_lt_of_le (by decide) hn) rfl rfl h.1 rfl dX6_open_15 ?_
    replace h := h.2
    refine r_iload_n hc dX6_open_16 rfl ?_
    have hd1 := h.1
    replace h := h.2
    refine r_callVv hc (zX1_open hn hd1 σ x1) h (dm_lt0 hd1 hn) (dm_T hd1) (dm_L hd1) rfl (cwV 1 hc.2.2.2.2.1 gX6_open_X1_open rfl rfl rfl qX1_open ⟨Nat.le_of_ble_eq_true rfl, Nat.le_of_ble_eq_true rfl⟩) rfl rfl (Nat.le_of_ble_eq_true rfl) dX6_open_17 (fun σ2 h => ?_)
    refine r_aload_n hc dX6_open_20 rfl ?_
    refine r_iload_n hc dX6_open_21 rfl ?_
    refine r_iconst (v := 1) hc dX6_open_22 (by decide) ?_
    refine r_iadd hc dX6_open_23 ?_
    refine r_put hc iX6_open_X6 tyX6_ok nmX6 (Nat.lt_of_lt_of_le (by decide) hn) rfl rfl rfl 1 (by decide) (Nat.le_of_ble_eq_true rfl) fX6_open_18 rfl (by decide +kernel) rfl dX6_open_24 ?_
    refine r_iload_n hc dX6_open_27 rfl ?_
    exact e_i hc hr hlk h dX6_open_28
theorem iX6_pack_X6 : ∀ w ∈ u_ws RX6 TX6 2, w ∈ wsX6_pack := by decide +kernel
theorem fX6_pack_18 : Cond.fieldLink RX6 18 (TX6 1).1 (TX6 1).2.1 (TX6 1).2.2.1 ∈ wsX6_pack := by decide +kernel
theorem fX6_pack_11 : Cond.fieldLink RX6 11 (TX6 0).1 (TX6 0).2.1 (TX6 0).2.2.1 ∈ wsX6_pack := by decide +kernel
set_option maxHeartbeats 4000000 in
set_option maxRecDepth 100000 in
theorem tvX6_pack_L5 {cy : Nat → ClassId} {ad : Nat → Nat} {n : Nat} {D : va_G} {A : Nat → Prop} {l : Launch} {p : Program} {e : Env} {s : State} {m : MethodId} {args : Array Value} {below : List Frame} {meth : Method} {c : Code} {a1 : Nat} {Q : Int32 → St → Prop} (hn : 49 ≤ n) (hc : CX p s m args c D cy cX6_pack 5 RX6 wsX6_pack) (hr : meth.sig.returnType = some .int) (hlk : meth.locks = false) : ∀ (q5 : Nat) (σ : St) (x2 : Int32) (x3 : Int32) (x4 : Int32), vX6_pack_L5 a1 Q q5 σ x2 x3 x4 → WV TC cy ad n D A p l e rmX6_pack s m args below meth c 5 (MQ below (va_Qi Q (Bw TC cy ad n D) A) args s 0 0 A) σ [some (.ref (ad 0)), some (.ref (ad a1)), some (.int x2), some (.int x3), some (.int x4)] [] 5 := by
  intro q5
  induction q5 with
  | zero =>
    intro σ x2 x3 x4 h
    exact h.elim
  | succ q5 ih =>
    intro σ x2 x3 x4 h
    unfold vX6_pack_L5 at h
    refine r_iload hc dX6_pack_5 rfl ?_
    refine r_aload_n hc dX6_pack_7 rfl ?_
    refine r_get (v := .int (rd σ 0 1)) hc iX6_pack_X6 (Nat.lt_of_lt_of_le (by decide) hn) rfl rfl rfl 1 (by decide) fX6_pack_18 rfl dX6_pack_8 ?_
    refine r_icmp_ge (tgt := 54) hc dX6_pack_11 (by decide) (fun hq7 => ?_) (fun hq7 => ?_)
    · replace h := h.1 hq7
      refine r_iload_n hc dX6_pack_54 rfl ?_
      exact e_i hc hr hlk h dX6_pack_55
    · replace h := h.2 hq7
      refine r_aload_n hc dX6_pack_14 rfl ?_
      refine r_get (v := .ref (ad 1)) hc iX6_pack_X6 (Nat.lt_of_lt_of_le (by decide) hn) rfl rfl rfl 0 (by decide) fX6_pack_11 rfl dX6_pack_15 ?_
      refine r_iload hc dX6_pack_18 rfl ?_
      refine r_aald5 (q := 2 + 4 * x4.toNatClampNeg) hc (Nat.lt_of_lt_of_le (by decide) hn) rfl rfl h.1 rfl dX6_pack_20 ?_
      replace h := h.2
      refine r_iload_n hc dX6_pack_21 rfl ?_
      refine r_iload hc dX6_pack_22 rfl ?_
      refine r_callSi hc (zX6_levelIn (Nat.le_trans (by decide) hn) σ x2 x4) h (va_cwS 2 hc.2.2.2.2.1 gX6_pack_X6_levelIn rfl rfl rfl qX6_levelIn ⟨Nat.le_of_ble_eq_true rfl, Nat.le_of_ble_eq_true rfl⟩) rfl rfl (Nat.le_of_ble_eq_true rfl) dX6_pack_24 (fun r2 σ1 h => ?_)
      refine r_aload_n hc dX6_pack_27 rfl ?_
      refine r_iload hc dX6_pack_28 rfl ?_
      refine r_iald hc (Nat.lt_of_lt_of_le h.1.2 hn) h.1.1 rfl h.2.1 dX6_pack_30 ?_
      replace h := h.2.2
      have hd3 := h.1
      replace h := h.2
      refine r_callVi hc (zX1_hasMember (Nat.le_trans (by decide) hn) hd3 σ1 r2 (rd σ1 a1 x4.toNatClampNeg)) h (dm_lt0 hd3 (Nat.le_trans (by decide) hn)) (dm_T hd3) (dm_L hd3) rfl (cwV 2 hc.2.2.2.2.1 gX6_pack_X1_hasMember rfl rfl rfl qX1_hasMember ⟨Nat.le_of_ble_eq_true rfl, Nat.le_of_ble_eq_true rfl⟩) rfl rfl (Nat.le_of_ble_eq_true rfl) dX6_pack_31 (fun r5 σ4 h => ?_)
      refine r_if_ne (tgt := 39) hc dX6_pack_34 (by decide) (fun hq6 => ?_) (fun hq6 => ?_)
      · replace h := h.1 hq6
        refine r_iconst (v := (-1)) hc dX6_pack_37 (by decide) ?_
        exact e_i hc hr hlk h dX6_pack_38
      · replace h := h.2 hq6
        refine r_iload_n hc dX6_pack_39 rfl ?_
        refine r_iconst (v := 3) hc dX6_pack_40 (by decide) ?_
        refine r_ishl hc dX6_pack_41 ?_
        refine r_aload_n hc dX6_pack_42 rfl ?_
        refine r_iload hc dX6_pack_43 rfl ?_
        refine r_iald hc (Nat.lt_of_lt_of_le h.1.2 hn) h.1.1 rfl h.2.1 dX6_pack_45 ?_
        replace h := h.2.2
        refine r_ior hc dX6_pack_46 ?_
        refine r_istore_n hc dX6_pack_47 rfl (by decide) (ss (ss (s1 trivial))) ?_
        refine r_iinc (v := x4 + 1) hc dX6_pack_48 rfl rfl (by decide) (ss (ss (ss (s1 trivial)))) ?_
        refine r_goto (tgt := 5) hc dX6_pack_51 (by decide) ?_
        exact r_weak (wk (wk (wk (wk (wk w0))))) (ih _ _ _ _ h)
set_option maxHeartbeats 4000000 in
set_option maxRecDepth 100000 in
theorem zX6_pack {cy : Nat → ClassId} {ad : Nat → Nat} {n : Nat} {D : va_G} {A : Nat → Prop} {l : Launch} (hn : 49 ≤ n) (σ : St) (a1 : Nat) (x2 : Int32) : Ci TC cy ad n D A l yX6_pack wsX6_pack rmX6_pack σ [.ref (ad 0), .ref (ad a1), .int x2] (fun Q => vX6_pack a1 Q σ x2) := by
  intro Q h
  refine startW (cc := cX6_pack) (nL := 5) (own := RX6) (lo := [some (.ref (ad 0)), some (.ref (ad a1)), some (.int x2), none, none]) (by decide) rfl rfl (lo_start (av := [.ref (ad 0), .ref (ad a1), .int x2]) (k := 2) (allc1_ok (l := [.ref (ad 0), .ref (ad a1), .int x2]) trivial)) (Nat.le_of_ble_eq_true rfl) (fun p e s m args below meth c hc hr hlk => ?_)
  unfold vX6_pack at h
  refine r_iconst (v := 0) hc dX6_pack_0 (by decide) ?_
  refine r_istore_n hc dX6_pack_1 rfl (by decide) (ss (ss (s1 trivial))) ?_
  refine r_iconst (v := 0) hc dX6_pack_2 (by decide) ?_
  refine r_istore hc dX6_pack_3 (by decide) (ss (ss (ss (s1 trivial)))) ?_
  obtain ⟨e5, h⟩ := h
  exact r_weak (wk (wk (wk (wk (wk w0))))) (tvX6_pack_L5 (a1 := a1) hn hc hr hlk e5 _ _ _ _ h)

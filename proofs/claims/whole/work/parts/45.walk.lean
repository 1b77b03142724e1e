theorem iX8_tallyTable_X8 : ∀ w ∈ u_ws RX8 TX8 8, w ∈ wsX8_tallyTable := by decide +kernel
theorem fX8_tallyTable_44 : Cond.fieldLink RX8 44 (TX8 4).1 (TX8 4).2.1 (TX8 4).2.2.1 ∈ wsX8_tallyTable := by decide +kernel
theorem fX8_tallyTable_19 : Cond.fieldLink RX8 19 (TX8 1).1 (TX8 1).2.1 (TX8 1).2.2.1 ∈ wsX8_tallyTable := by decide +kernel
theorem iX8_tallyTable_X2 : ∀ w ∈ u_ws RX2 TX2 5, w ∈ wsX8_tallyTable := by decide +kernel
theorem fX8_tallyTable_64 : (RX8, 64, (TX2 3).1, (TX2 3).2.1, (TX2 3).2.2.1, "CubeDesk") ∈ nestF := by decide +kernel
set_option maxHeartbeats 4000000 in
set_option maxRecDepth 100000 in
theorem tvX8_tallyTable_L9 {cy : Nat → ClassId} {ad : Nat → Nat} {n : Nat} {D : va_G} {A : Nat → Prop} {l : Launch} {p : Program} {e : Env} {s : State} {m : MethodId} {args : Array Value} {below : List Frame} {meth : Method} {c : Code} {Q : St → Prop} (hn : 49 ≤ n) (hc : CX p s m args c D cy cX8_tallyTable 6 RX8 wsX8_tallyTable) (hr : meth.sig.returnType = none) (hlk : meth.locks = false) : ∀ (q9 : Nat) (σ : St) (x1 : Int32) (x2 : Int32) (x3 : Int32), vX8_tallyTable_L9 Q q9 σ x1 x2 x3 → WV TC cy ad n D A p l e rmX8_tallyTable s m args below meth c 6 (MQ below (va_Qv Q (Bw TC cy ad n D) A) args s 0 0 A) σ [some (.ref (ad 48)), some (.int x1), some (.int x2), some (.int x3), none, none] [] 9 := by
  intro q9
  induction q9 with
  | zero =>
    intro σ x1 x2 x3 h
    exact h.elim
  | succ q9 ih =>
    intro σ x1 x2 x3 h
    unfold vX8_tallyTable_L9 at h
    refine r_iload_n hc dX8_tallyTable_9 rfl ?_
    refine r_aload_n hc dX8_tallyTable_10 rfl ?_
    refine r_get (v := .ref (ad 18)) hc iX8_tallyTable_X8 (Nat.lt_of_lt_of_le (by decide) hn) rfl rfl rfl 1 (by decide) fX8_tallyTable_19 rfl dX8_tallyTable_11 ?_
    refine r_getN (v := .int (rd σ 18 3)) hc iX8_tallyTable_X2 (Nat.lt_of_lt_of_le (by decide) hn) rfl rfl rfl 3 (by decide) fX8_tallyTable_64 rfl dX8_tallyTable_14 ?_
    refine r_icmp_ge (tgt := 69) hc dX8_tallyTable_17 (by decide) (fun hq12 => ?_) (fun hq12 => ?_)
    · replace h := h.1 hq12
      exact e_v hc hr hlk h dX8_tallyTable_69
    · replace h := h.2 hq12
      refine r_aload_n hc dX8_tallyTable_20 rfl ?_
      refine r_iload_n hc dX8_tallyTable_21 rfl ?_
      refine r_callVi hc (zX8_isInSight hn σ x3) h (Nat.lt_of_lt_of_le (by decide) hn) rfl rfl rfl (cwV 1 hc.2.2.2.2.1 gX8_tallyTable_X8_isInSight rfl rfl rfl qX8_isInSight ⟨Nat.le_of_ble_eq_true rfl, Nat.le_of_ble_eq_true rfl⟩) rfl rfl (Nat.le_of_ble_eq_true rfl) dX8_tallyTable_22 (fun r3 σ2 h => ?_)
      refine r_if_eq (tgt := 63) hc dX8_tallyTable_25 (by decide) (fun hq11 => ?_) (fun hq11 => ?_)
      · replace h := h.1 hq11
        refine r_iinc (v := x3 + 1) hc dX8_tallyTable_63 rfl rfl (by decide) (ss (ss (s1 trivial))) ?_
        refine r_goto (tgt := 9) hc dX8_tallyTable_66 (by decide) ?_
        exact r_weak (wk (wk (wk (wk (wn (wn w0)))))) (ih _ _ _ _ h)
      · replace h := h.2 hq11
        refine r_aload_n hc dX8_tallyTable_28 rfl ?_
        refine r_iload_n hc dX8_tallyTable_29 rfl ?_
        refine r_iload_n hc dX8_tallyTable_30 rfl ?_
        refine r_callVi hc (zX8_homeOnSide hn σ2 x3 x1) h (Nat.lt_of_lt_of_le (by decide) hn) rfl rfl rfl (cwV 2 hc.2.2.2.2.1 gX8_tallyTable_X8_homeOnSide rfl rfl rfl qX8_homeOnSide ⟨Nat.le_of_ble_eq_true rfl, Nat.le_of_ble_eq_true rfl⟩) rfl rfl (Nat.le_of_ble_eq_true rfl) dX8_tallyTable_31 (fun r5 σ4 h => ?_)
        refine r_istore hc dX8_tallyTable_34 (by decide) (ss (ss (ss (s1 trivial)))) ?_
        refine r_aload_n hc dX8_tallyTable_36 rfl ?_
        refine r_iload_n hc dX8_tallyTable_37 rfl ?_
        refine r_iload_n hc dX8_tallyTable_38 rfl ?_
        refine r_callVi hc (zX8_homeOnSide hn σ4 x3 x2) h (Nat.lt_of_lt_of_le (by decide) hn) rfl rfl rfl (cwV 2 hc.2.2.2.2.1 gX8_tallyTable_X8_homeOnSide rfl rfl rfl qX8_homeOnSide ⟨Nat.le_of_ble_eq_true rfl, Nat.le_of_ble_eq_true rfl⟩) rfl rfl (Nat.le_of_ble_eq_true rfl) dX8_tallyTable_39 (fun r7 σ6 h => ?_)
        refine r_istore hc dX8_tallyTable_42 (by decide) (ss (ss (ss (ss (s1 trivial))))) ?_
        refine r_aload_n hc dX8_tallyTable_44 rfl ?_
        refine r_get (v := .ref (ad 40)) hc iX8_tallyTable_X8 (Nat.lt_of_lt_of_le (by decide) hn) rfl rfl rfl 4 (by decide) fX8_tallyTable_44 rfl dX8_tallyTable_45 ?_
        refine r_iload hc dX8_tallyTable_48 rfl ?_
        refine r_iload hc dX8_tallyTable_50 rfl ?_
        refine r_aload_n hc dX8_tallyTable_52 rfl ?_
        refine r_get (v := .ref (ad 18)) hc iX8_tallyTable_X8 (Nat.lt_of_lt_of_le (by decide) hn) rfl rfl rfl 1 (by decide) fX8_tallyTable_19 rfl dX8_tallyTable_53 ?_
        refine r_iload_n hc dX8_tallyTable_56 rfl ?_
        refine r_callVi hc (zX2_measureOf (Nat.le_trans (by decide) hn) σ6 x3) h (Nat.lt_of_lt_of_le (by decide) hn) rfl rfl rfl (cwV 1 hc.2.2.2.2.1 gX8_tallyTable_X2_measureOf rfl rfl rfl qX2_measureOf ⟨Nat.le_of_ble_eq_true rfl, Nat.le_of_ble_eq_true rfl⟩) rfl rfl (Nat.le_of_ble_eq_true rfl) dX8_tallyTable_57 (fun r9 σ8 h => ?_)
        refine r_callVv hc (zX7_addToCross hn σ8 r5 r7 r9) h (Nat.lt_of_lt_of_le (by decide) hn) rfl rfl rfl (cwV 3 hc.2.2.2.2.1 gX8_tallyTable_X7_addToCross rfl rfl rfl qX7_addToCross ⟨Nat.le_of_ble_eq_true rfl, Nat.le_of_ble_eq_true rfl⟩) rfl rfl (Nat.le_of_ble_eq_true rfl) dX8_tallyTable_60 (fun σ10 h => ?_)
        refine r_iinc (v := x3 + 1) hc dX8_tallyTable_63 rfl rfl (by decide) (ss (ss (s1 trivial))) ?_
        refine r_goto (tgt := 9) hc dX8_tallyTable_66 (by decide) ?_
        exact r_weak (wk (wk (wk (wk (wn (wn w0)))))) (ih _ _ _ _ h)
set_option maxHeartbeats 4000000 in
set_option maxRecDepth 100000 in
theorem zX8_tallyTable {cy : Nat → ClassId} {ad : Nat → Nat} {n : Nat} {D : va_G} {A : Nat → Prop} {l : Launch} (hn : 49 ≤ n) (σ : St) (x1 : Int32) (x2 : Int32) : Cv TC cy ad n D A l yX8_tallyTable wsX8_tallyTable rmX8_tallyTable σ [.ref (ad 48), .int x1, .int x2] (fun Q => vX8_tallyTable Q σ x1 x2) := by
  intro Q h
  refine startW (cc := cX8_tallyTable) (nL := 6) (own := RX8) (lo := [some (.ref (ad 48)), some (.int x1), some (.int x2), none, none, none]) (by decide) rfl rfl (lo_start (av := [.ref (ad 48), .int x1, .int x2]) (k := 3) (allc1_ok (l := [.ref (ad 48), .int x1, .int x2]) trivial)) (Nat.le_of_ble_eq_true rfl) (fun p e s m args below meth c hc hr hlk => ?_)
  unfold vX8_tallyTable at h
  refine r_aload_n hc dX8_tallyTable_0 rfl ?_
  refine r_get (v := .ref (ad 40)) hc iX8_tallyTable_X8 (Nat.lt_of_lt_of_le (by decide) hn) rfl rfl rfl 4 (by decide) fX8_tallyTable_44 rfl dX8_tallyTable_1 ?_
  refine r_callVv hc (zX7_clear hn σ) h (Nat.lt_of_lt_of_le (by decide) hn) rfl rfl rfl (cwV 0 hc.2.2.2.2.1 gX8_tallyTable_X7_clear rfl rfl rfl qX7_clear ⟨Nat.le_of_ble_eq_true rfl, Nat.le_of_ble_eq_true rfl⟩) rfl rfl (Nat.le_of_ble_eq_true rfl) dX8_tallyTable_4 (fun σ1 h => ?_)
  refine r_iconst (v := 0) hc dX8_tallyTable_7 (by decide) ?_
  refine r_istore_n hc dX8_tallyTable_8 rfl (by decide) (ss (ss (s1 trivial))) ?_
  obtain ⟨e9, h⟩ := h
  exact r_weak (wk (wk (wk (wk (wn (wn w0)))))) (tvX8_tallyTable_L9 hn hc hr hlk e9 _ _ _ _ h)
theorem iX8_writeCell_X8 : ∀ w ∈ u_ws RX8 TX8 8, w ∈ wsX8_writeCell := by decide +kernel
theorem fX8_writeCell_44 : Cond.fieldLink RX8 44 (TX8 4).1 (TX8 4).2.1 (TX8 4).2.2.1 ∈ wsX8_writeCell := by decide +kernel
theorem fX8_writeCell_51 : Cond.fieldLink RX8 51 (TX8 5).1 (TX8 5).2.1 (TX8 5).2.2.1 ∈ wsX8_writeCell := by decide +kernel
set_option maxHeartbeats 4000000 in
set_option maxRecDepth 100000 in
theorem zX8_writeCell {cy : Nat → ClassId} {ad : Nat → Nat} {n : Nat} {D : va_G} {A : Nat → Prop} {l : Launch} (hn : 49 ≤ n) (σ : St) (x1 : Int32) (x2 : Int32) : Cv TC cy ad n D A l yX8_writeCell wsX8_writeCell rmX8_writeCell σ [.ref (ad 48), .int x1, .int x2] (fun Q => vX8_writeCell Q σ x1 x2) := by
  intro Q h
  refine startW (cc := cX8_writeCell) (nL := 3) (own := RX8) (lo := [some (.ref (ad 48)), some (.int x1), some (.int x2)]) (by decide) rfl rfl (lo_start (av := [.ref (ad 48), .int x1, .int x2]) (k := 0) (allc1_ok (l := [.ref (ad 48), .int x1, .int x2]) trivial)) (Nat.le_of_ble_eq_true rfl) (fun p e s m args below meth c hc hr hlk => ?_)
  unfold vX8_writeCell at h
  refine r_aload_n hc dX8_writeCell_0 rfl ?_
  refine r_get (v := .ref (ad 40)) hc iX8_writeCell_X8 (Nat.lt_of_lt_of_le (by decide) hn) rfl rfl rfl 4 (by decide) fX8_writeCell_44 rfl dX8_writeCell_1 ?_
  refine r_iload_n hc dX8_writeCell_4 rfl ?_
  refine r_callVi hc (zX7_isEmpty hn σ x1) h (Nat.lt_of_lt_of_le (by decide) hn) rfl rfl rfl (cwV 1 hc.2.2.2.2.1 gX8_writeCell_X7_isEmpty rfl rfl rfl qX7_isEmpty ⟨Nat.le_of_ble_eq_true rfl, Nat.le_of_ble_eq_true rfl⟩) rfl rfl (Nat.le_of_ble_eq_true rfl) dX8_writeCell_5 (fun r2 σ1 h => ?_)
  refine r_if_eq (tgt := 23) hc dX8_writeCell_8 (by decide) (fun hq7 => ?_) (fun hq7 => ?_)
  · replace h := h.1 hq7
    refine r_aload_n hc dX8_writeCell_23 rfl ?_
    refine r_get (v := .ref (ad 45)) hc iX8_writeCell_X8 (Nat.lt_of_lt_of_le (by decide) hn) rfl rfl rfl 5 (by decide) fX8_writeCell_51 rfl dX8_writeCell_24 ?_
    refine r_aload_n hc dX8_writeCell_27 rfl ?_
    refine r_get (v := .ref (ad 40)) hc iX8_writeCell_X8 (Nat.lt_of_lt_of_le (by decide) hn) rfl rfl rfl 4 (by decide) fX8_writeCell_44 rfl dX8_writeCell_28 ?_
    refine r_iload_n hc dX8_writeCell_31 rfl ?_
    refine r_iload_n hc dX8_writeCell_32 rfl ?_
    refine r_callVi hc (zX7_valueOf hn σ1 x1 x2) h (Nat.lt_of_lt_of_le (by decide) hn) rfl rfl rfl (cwV 2 hc.2.2.2.2.1 gX8_writeCell_X7_valueOf rfl rfl rfl qX7_valueOf ⟨Nat.le_of_ble_eq_true rfl, Nat.le_of_ble_eq_true rfl⟩) rfl rfl (Nat.le_of_ble_eq_true rfl) dX8_writeCell_33 (fun r4 σ3 h => ?_)
    refine r_callVv hc (zX5_putNumber hn σ3 r4) h (Nat.lt_of_lt_of_le (by decide) hn) rfl rfl rfl (cwV 1 hc.2.2.2.2.1 gX8_writeCell_X5_putNumber rfl rfl rfl qX5_putNumber ⟨Nat.le_of_ble_eq_true rfl, Nat.le_of_ble_eq_true rfl⟩) rfl rfl (Nat.le_of_ble_eq_true rfl) dX8_writeCell_36 (fun σ5 h => ?_)
    exact e_v hc hr hlk h dX8_writeCell_39
  · replace h := h.2 hq7
    refine r_aload_n hc dX8_writeCell_11 rfl ?_
    refine r_get (v := .ref (ad 45)) hc iX8_writeCell_X8 (Nat.lt_of_lt_of_le (by decide) hn) rfl rfl rfl 5 (by decide) fX8_writeCell_51 rfl dX8_writeCell_12 ?_
    refine r_bipush (v := 46) hc dX8_writeCell_15 (by decide) ?_
    refine r_callVv hc (zX5_put hn σ1 46) h (Nat.lt_of_lt_of_le (by decide) hn) rfl rfl rfl (cwV 1 hc.2.2.2.2.1 gX8_writeCell_X5_put rfl rfl rfl qX5_put ⟨Nat.le_of_ble_eq_true rfl, Nat.le_of_ble_eq_true rfl⟩) rfl rfl (Nat.le_of_ble_eq_true rfl) dX8_writeCell_17 (fun σ6 h => ?_)
    refine r_goto (tgt := 39) hc dX8_writeCell_20 (by decide) ?_
    exact e_v hc hr hlk h dX8_writeCell_39
theorem iX8_writeTable_X8 : ∀ w ∈ u_ws RX8 TX8 8, w ∈ wsX8_writeTable := by decide +kernel
theorem fX8_writeTable_51 : Cond.fieldLink RX8 51 (TX8 5).1 (TX8 5).2.1 (TX8 5).2.2.1 ∈ wsX8_writeTable := by decide +kernel
set_option maxHeartbeats 4000000 in
set_option maxRecDepth 100000 in
theorem tvX8_writeTable_L34 {cy : Nat → ClassId} {ad : Nat → Nat} {n : Nat} {D : va_G} {A : Nat → Prop} {l : Launch} {p : Program} {e : Env} {s : State} {m : MethodId} {args : Array Value} {below : List Frame} {meth : Method} {c : Code} {Q : St → Prop} {K10 : St → Int32 → Int32 → Int32 → Int32 → Prop} (hn : 49 ≤ n) (hc : CX p s m args c D cy cX8_writeTable 7 RX8 wsX8_writeTable) (hr : meth.sig.returnType = none) (hlk : meth.locks = false) (hK10 : ∀ (σ : St) (x1 : Int32) (x2 : Int32) (x3 : Int32) (x4 : Int32), K10 σ x1 x2 x3 x4 → WV TC cy ad n D A p l e rmX8_writeTable s m args below meth c 7 (MQ below (va_Qv Q (Bw TC cy ad n D) A) args s 0 0 A) σ [some (.ref (ad 48)), some (.int x1), some (.int x2), some (.int x3), some (.int x4), none, none] [] 10) : ∀ (q34 : Nat) (σ : St) (x1 : Int32) (x2 : Int32) (x3 : Int32) (x4 : Int32) (x5 : Int32) (x6 : Int32), vX8_writeTable_L34 Q K10 q34 σ x1 x2 x3 x4 x5 x6 → WV TC cy ad n D A p l e rmX8_writeTable s m args below meth c 7 (MQ below (va_Qv Q (Bw TC cy ad n D) A) args s 0 0 A) σ [some (.ref (ad 48)), some (.int x1), some (.int x2), some (.int x3), some (.int x4), some (.int x5), some (.int x6)] [] 34 := by
  intro q34
  induction q34 with
  | zero =>
    intro σ x1 x2 x3 x4 x5 x6 h
    exact h.elim
  | succ q34 ih =>
    intro σ x1 x2 x3 x4 x5 x6 h
    unfold vX8_writeTable_L34 at h
    refine r_iload hc dX8_writeTable_34 rfl ?_
    refine r_iload_n hc dX8_writeTable_36 rfl ?_
    refine r_icmp_ge (tgt := 67) hc dX8_writeTable_37 (by decide) (fun hq12 => ?_) (fun hq12 => ?_)
    · replace h := h.1 hq12
      refine r_aload_n hc dX8_writeTable_67 rfl ?_
      refine r_iload hc dX8_writeTable_68 rfl ?_
      refine r_bipush (v := 8) hc dX8_writeTable_70 (by decide) ?_
      refine r_callSi hc (zX7_placeOf hn σ x5 8) h (va_cwS 2 hc.2.2.2.2.1 gX8_writeTable_X7_placeOf rfl rfl rfl qX7_placeOf ⟨Nat.le_of_ble_eq_true rfl, Nat.le_of_ble_eq_true rfl⟩) rfl rfl (Nat.le_of_ble_eq_true rfl) dX8_writeTable_72 (fun r5 σ4 h => ?_)
      refine r_iload_n hc dX8_writeTable_75 rfl ?_
      refine r_callVv hc (zX8_writeCell hn σ4 r5 x3) h (Nat.lt_of_lt_of_le (by decide) hn) rfl rfl rfl (cwV 2 hc.2.2.2.2.1 gX8_writeTable_X8_writeCell rfl rfl rfl qX8_writeCell ⟨Nat.le_of_ble_eq_true rfl, Nat.le_of_ble_eq_true rfl⟩) rfl rfl (Nat.le_of_ble_eq_true rfl) dX8_writeTable_76 (fun σ6 h => ?_)
      refine r_aload_n hc dX8_writeTable_79 rfl ?_
      refine r_get (v := .ref (ad 45)) hc iX8_writeTable_X8 (Nat.lt_of_lt_of_le (by decide) hn) rfl rfl rfl 5 (by decide) fX8_writeTable_51 rfl dX8_writeTable_80 ?_
      refine r_bipush (v := 10) hc dX8_writeTable_83 (by decide) ?_
      refine r_callVv hc (zX5_put hn σ6 10) h (Nat.lt_of_lt_of_le (by decide) hn) rfl rfl rfl (cwV 1 hc.2.2.2.2.1 gX8_writeTable_X5_put rfl rfl rfl qX5_put ⟨Nat.le_of_ble_eq_true rfl, Nat.le_of_ble_eq_true rfl⟩) rfl rfl (Nat.le_of_ble_eq_true rfl) dX8_writeTable_85 (fun σ7 h => ?_)
      refine r_iinc (v := x4 + 1) hc dX8_writeTable_88 rfl rfl (by decide) (ss (ss (ss (s1 trivial)))) ?_
      refine r_goto (tgt := 10) hc dX8_writeTable_91 (by decide) ?_
      exact r_weak (wk (wk (wk (wk (wk (wn (wn w0))))))) (hK10 _ _ _ _ _ h)
    · replace h := h.2 hq12
      refine r_aload_n hc dX8_writeTable_40 rfl ?_
      refine r_iload hc dX8_writeTable_41 rfl ?_
      refine r_iload hc dX8_writeTable_43 rfl ?_
      refine r_callSi hc (zX7_placeOf hn σ x5 x6) h (va_cwS 2 hc.2.2.2.2.1 gX8_writeTable_X7_placeOf rfl rfl rfl qX7_placeOf ⟨Nat.le_of_ble_eq_true rfl, Nat.le_of_ble_eq_true rfl⟩) rfl rfl (Nat.le_of_ble_eq_true rfl) dX8_writeTable_45 (fun r9 σ8 h => ?_)
      refine r_iload_n hc dX8_writeTable_48 rfl ?_
      refine r_callVv hc (zX8_writeCell hn σ8 r9 x3) h (Nat.lt_of_lt_of_le (by decide) hn) rfl rfl rfl (cwV 2 hc.2.2.2.2.1 gX8_writeTable_X8_writeCell rfl rfl rfl qX8_writeCell ⟨Nat.le_of_ble_eq_true rfl, Nat.le_of_ble_eq_true rfl⟩) rfl rfl (Nat.le_of_ble_eq_true rfl) dX8_writeTable_49 (fun σ10 h => ?_)
      refine r_aload_n hc dX8_writeTable_52 rfl ?_
      refine r_get (v := .ref (ad 45)) hc iX8_writeTable_X8 (Nat.lt_of_lt_of_le (by decide) hn) rfl rfl rfl 5 (by decide) fX8_writeTable_51 rfl dX8_writeTable_53 ?_
      refine r_bipush (v := 32) hc dX8_writeTable_56 (by decide) ?_
      refine r_callVv hc (zX5_put hn σ10 32) h (Nat.lt_of_lt_of_le (by decide) hn) rfl rfl rfl (cwV 1 hc.2.2.2.2.1 gX8_writeTable_X5_put rfl rfl rfl qX5_put ⟨Nat.le_of_ble_eq_true rfl, Nat.le_of_ble_eq_true rfl⟩) rfl rfl (Nat.le_of_ble_eq_true rfl) dX8_writeTable_58 (fun σ11 h => ?_)
      refine r_iinc (v := x6 + 1) hc dX8_writeTable_61 rfl rfl (by decide) (ss (ss (ss (ss (ss (s1 trivial)))))) ?_
      refine r_goto (tgt := 34) hc dX8_writeTable_64 (by decide) ?_
      exact r_weak (wk (wk (wk (wk (wk (wk (wk w0))))))) (ih _ _ _ _ _ _ _ h)
set_option maxHeartbeats 4000000 in
set_option maxRecDepth 100000 in
theorem tvX8_writeTable_L10 {cy : Nat → ClassId} {ad : Nat → Nat} {n : Nat} {D : va_G} {A : Nat → Prop} {l : Launch} {p : Program} {e : Env} {s : State} {m : MethodId} {args : Array Value} {below : List Frame} {meth : Method} {c : Code} {Q : St → Prop} (hn : 49 ≤ n) (hc : CX p s m args c D cy cX8_writeTable 7 RX8 wsX8_writeTable) (hr : meth.sig.returnType = none) (hlk : meth.locks = false) : ∀ (q10 : Nat) (σ : St) (x1 : Int32) (x2 : Int32) (x3 : Int32) (x4 : Int32), vX8_writeTable_L10 Q q10 σ x1 x2 x3 x4 → WV TC cy ad n D A p l e rmX8_writeTable s m args below meth c 7 (MQ below (va_Qv Q (Bw TC cy ad n D) A) args s 0 0 A) σ [some (.ref (ad 48)), some (.int x1), some (.int x2), some (.int x3), some (.int x4), none, none] [] 10 := by
  intro q10
  induction q10 with
  | zero =>
    intro σ x1 x2 x3 x4 h
    exact h.elim
  | succ q10 ih =>
    intro σ x1 x2 x3 x4 h
    unfold vX8_writeTable_L10 at h
    refine r_iload hc dX8_writeTable_10 rfl ?_
    refine r_iload_n hc dX8_writeTable_12 rfl ?_
    refine r_icmp_gt (tgt := 94) hc dX8_writeTable_13 (by decide) (fun hq3 => ?_) (fun hq3 => ?_)
    · replace h := h.1 hq3
      exact e_v hc hr hlk h dX8_writeTable_94
    · replace h := h.2 hq3
      refine r_iload hc dX8_writeTable_16 rfl ?_
      refine r_iload_n hc dX8_writeTable_18 rfl ?_
      refine r_icmp_ge (tgt := 27) hc dX8_writeTable_19 (by decide) (fun hq2 => ?_) (fun hq2 => ?_)
      · replace h := h.1 hq2
        refine r_bipush (v := 8) hc dX8_writeTable_27 (by decide) ?_
        refine r_istore hc dX8_writeTable_29 (by decide) (ss (ss (ss (ss (s1 trivial))))) ?_
        refine r_iconst (v := 0) hc dX8_writeTable_31 (by decide) ?_
        refine r_istore hc dX8_writeTable_32 (by decide) (ss (ss (ss (ss (ss (s1 trivial)))))) ?_
        obtain ⟨e34, h⟩ := h
        exact r_weak (wk (wk (wk (wk (wk (wk (wk w0))))))) (tvX8_writeTable_L34 hn hc hr hlk ih e34 _ _ _ _ _ _ _ h)
      · replace h := h.2 hq2
        refine r_iload hc dX8_writeTable_22 rfl ?_
        refine r_goto (tgt := 29) hc dX8_writeTable_24 (by decide) ?_
        refine r_istore hc dX8_writeTable_29 (by decide) (ss (ss (ss (ss (s1 trivial))))) ?_
        refine r_iconst (v := 0) hc dX8_writeTable_31 (by decide) ?_
        refine r_istore hc dX8_writeTable_32 (by decide) (ss (ss (ss (ss (ss (s1 trivial)))))) ?_
        obtain ⟨e34, h⟩ := h
        exact r_weak (wk (wk (wk (wk (wk (wk (wk w0))))))) (tvX8_writeTable_L34 hn hc hr hlk ih e34 _ _ _ _ _ _ _ h)
set_option maxHeartbeats 4000000 in
set_option maxRecDepth 100000 in
theorem zX8_writeTable {cy : Nat → ClassId} {ad : Nat → Nat} {n : Nat} {D : va_G} {A : Nat → Prop} {l : Launch} (hn : 49 ≤ n) (σ : St) (x1 : Int32) (x2 : Int32) (x3 : Int32) : Cv TC cy ad n D A l yX8_writeTable wsX8_writeTable rmX8_writeTable σ [.ref (ad 48), .int x1, .int x2, .int x3] (fun Q => vX8_writeTable Q σ x1 x2 x3) := by
  intro Q h
  refine startW (cc := cX8_writeTable) (nL := 7) (own := RX8) (lo := [some (.ref (ad 48)), some (.int x1), some (.int x2), some (.int x3), none, none, none]) (by decide) rfl rfl (lo_start (av := [.ref (ad 48), .int x1, .int x2, .int x3]) (k := 3) (allc1_ok (l := [.ref (ad 48), .int x1, .int x2, .int x3]) trivial)) (Nat.le_of_ble_eq_true rfl) (fun p e s m args below meth c hc hr hlk => ?_)
  unfold vX8_writeTable at h
  refine r_aload_n hc dX8_writeTable_0 rfl ?_
  refine r_get (v := .ref (ad 45)) hc iX8_writeTable_X8 (Nat.lt_of_lt_of_le (by decide) hn) rfl rfl rfl 5 (by decide) fX8_writeTable_51 rfl dX8_writeTable_1 ?_
  refine r_callVv hc (zX5_clear hn σ) h (Nat.lt_of_lt_of_le (by decide) hn) rfl rfl rfl (cwV 0 hc.2.2.2.2.1 gX8_writeTable_X5_clear rfl rfl rfl qX5_clear ⟨Nat.le_of_ble_eq_true rfl, Nat.le_of_ble_eq_true rfl⟩) rfl rfl (Nat.le_of_ble_eq_true rfl) dX8_writeTable_4 (fun σ1 h => ?_)
  refine r_iconst (v := 0) hc dX8_writeTable_7 (by decide) ?_
  refine r_istore hc dX8_writeTable_8 (by decide) (ss (ss (ss (s1 trivial)))) ?_
  obtain ⟨e10, h⟩ := h
  exact r_weak (wk (wk (wk (wk (wk (wn (wn w0))))))) (tvX8_writeTable_L10 hn hc hr hlk e10 _ _ _ _ _ h)
theorem oX8_table_63 : Jvm.Cond.constant RX8 63 (-2000000002) ∈ wsX8_table := by decide +kernel
theorem iX8_table_X8 : ∀ w ∈ u_ws RX8 TX8 8, w ∈ wsX8_table := by decide +kernel
theorem fX8_table_51 : Cond.fieldLink RX8 51 (TX8 5).1 (TX8 5).2.1 (TX8 5).2.2.1 ∈ wsX8_table := by decide +kernel
theorem iX8_table_X5 : ∀ w ∈ u_ws RX5 TX5 2, w ∈ wsX8_table := by decide +kernel
theorem fX8_table_211 : (RX8, 211, (TX5 1).1, (TX5 1).2.1, (TX5 1).2.2.1, "CubeDesk") ∈ nestF := by decide +kernel
set_option maxHeartbeats 4000000 in
set_option maxRecDepth 100000 in
theorem zX8_table {cy : Nat → ClassId} {ad : Nat → Nat} {n : Nat} {D : va_G} {A : Nat → Prop} {l : Launch} (hn : 49 ≤ n) (σ : St) (x1 : Int32) (x2 : Int32) (x3 : Int32) : Ci TC cy ad n D A l yX8_table wsX8_table rmX8_table σ [.ref (ad 48), .int x1, .int x2, .int x3] (fun Q => vX8_table Q σ x1 x2 x3) := by
  intro Q h
  refine startW (cc := cX8_table) (nL := 6) (own := RX8) (lo := [some (.ref (ad 48)), some (.int x1), some (.int x2), some (.int x3), none, none]) (by decide) rfl rfl (lo_start (av := [.ref (ad 48), .int x1, .int x2, .int x3]) (k := 2) (allc1_ok (l := [.ref (ad 48), .int x1, .int x2, .int x3]) trivial)) (Nat.le_of_ble_eq_true rfl) (fun p e s m args below meth c hc hr hlk => ?_)
  unfold vX8_table at h
  refine r_aload_n hc dX8_table_0 rfl ?_
  refine r_iload_n hc dX8_table_1 rfl ?_
  refine r_callVo hc (zX8_sideOf hn σ x1) h (Nat.lt_of_lt_of_le (by decide) hn) rfl rfl rfl (cwV 1 hc.2.2.2.2.1 gX8_table_X8_sideOf rfl rfl rfl qX8_sideOf ⟨Nat.le_of_ble_eq_true rfl, Nat.le_of_ble_eq_true rfl⟩) rfl rfl (Nat.le_of_ble_eq_true rfl) dX8_table_2 (fun r2 σ1 h => ?_)
  cases r2 with
  | none =>
    replace h := h.1 rfl
    refine r_astoreN hc dX8_table_5 (by decide) (ss (ss (ss (s1 trivial)))) ?_
    refine r_aload_n hc dX8_table_7 rfl ?_
    refine r_iload_n hc dX8_table_8 rfl ?_
    refine r_callVo hc (zX8_sideOf hn σ1 x2) h (Nat.lt_of_lt_of_le (by decide) hn) rfl rfl rfl (cwV 1 hc.2.2.2.2.1 gX8_table_X8_sideOf rfl rfl rfl qX8_sideOf ⟨Nat.le_of_ble_eq_true rfl, Nat.le_of_ble_eq_true rfl⟩) rfl rfl (Nat.le_of_ble_eq_true rfl) dX8_table_9 (fun r5 σ4 h => ?_)
    cases r5 with
    | none =>
      replace h := h.1 rfl
      refine r_astoreN hc dX8_table_12 (by decide) (ss (ss (ss (ss (s1 trivial))))) ?_
      refine r_aloadN hc dX8_table_14 rfl ?_
      refine r_ifnull_n (tgt := 31) hc dX8_table_16 (by decide) ?_
      refine r_ldc (v := (-2000000002)) hc dX8_table_31 oX8_table_63 ?_
      exact e_i hc hr hlk h dX8_table_33
    | some k6 =>
      replace h := h.2 k6 rfl
      refine r_astore hc dX8_table_12 (by decide) (ss (ss (ss (ss (s1 trivial))))) ?_
      refine r_aloadN hc dX8_table_14 rfl ?_
      refine r_ifnull_n (tgt := 31) hc dX8_table_16 (by decide) ?_
      refine r_ldc (v := (-2000000002)) hc dX8_table_31 oX8_table_63 ?_
      exact e_i hc hr hlk h dX8_table_33
  | some k3 =>
    replace h := h.2 k3 rfl
    refine r_astore hc dX8_table_5 (by decide) (ss (ss (ss (s1 trivial)))) ?_
    refine r_aload_n hc dX8_table_7 rfl ?_
    refine r_iload_n hc dX8_table_8 rfl ?_
    refine r_callVo hc (zX8_sideOf hn σ1 x2) h (Nat.lt_of_lt_of_le (by decide) hn) rfl rfl rfl (cwV 1 hc.2.2.2.2.1 gX8_table_X8_sideOf rfl rfl rfl qX8_sideOf ⟨Nat.le_of_ble_eq_true rfl, Nat.le_of_ble_eq_true rfl⟩) rfl rfl (Nat.le_of_ble_eq_true rfl) dX8_table_9 (fun r8 σ7 h => ?_)
    cases r8 with
    | none =>
      replace h := h.1 rfl
      refine r_astoreN hc dX8_table_12 (by decide) (ss (ss (ss (ss (s1 trivial))))) ?_
      refine r_aload hc dX8_table_14 rfl ?_
      refine r_ifnull_r hc dX8_table_16 ?_
      refine r_aloadN hc dX8_table_19 rfl ?_
      refine r_ifnull_n (tgt := 31) hc dX8_table_21 (by decide) ?_
      refine r_ldc (v := (-2000000002)) hc dX8_table_31 oX8_table_63 ?_
      exact e_i hc hr hlk h dX8_table_33
    | some k9 =>
      replace h := h.2 k9 rfl
      refine r_astore hc dX8_table_12 (by decide) (ss (ss (ss (ss (s1 trivial))))) ?_
      refine r_aload hc dX8_table_14 rfl ?_
      refine r_ifnull_r hc dX8_table_16 ?_
      refine r_aload hc dX8_table_19 rfl ?_
      refine r_ifnull_r hc dX8_table_21 ?_
      refine r_iload_n hc dX8_table_24 rfl ?_
      refine r_callSi hc (zX8_isValue hn σ7 x3) h (va_cwS 1 hc.2.2.2.2.1 gX8_table_X8_isValue rfl rfl rfl qX8_isValue ⟨Nat.le_of_ble_eq_true rfl, Nat.le_of_ble_eq_true rfl⟩) rfl rfl (Nat.le_of_ble_eq_true rfl) dX8_table_25 (fun r11 σ10 h => ?_)
      refine r_if_ne (tgt := 34) hc dX8_table_28 (by decide) (fun hq20 => ?_) (fun hq20 => ?_)
      · replace h := h.1 hq20
        refine r_ldc (v := (-2000000002)) hc dX8_table_31 oX8_table_63 ?_
        exact e_i hc hr hlk h dX8_table_33
      · replace h := h.2 hq20
        refine r_aload_n hc dX8_table_34 rfl ?_
        refine r_iload_n hc dX8_table_35 rfl ?_
        refine r_iload_n hc dX8_table_36 rfl ?_
        refine r_callVv hc (zX8_tallyTable hn σ10 x1 x2) h (Nat.lt_of_lt_of_le (by decide) hn) rfl rfl rfl (cwV 2 hc.2.2.2.2.1 gX8_table_X8_tallyTable rfl rfl rfl qX8_tallyTable ⟨Nat.le_of_ble_eq_true rfl, Nat.le_of_ble_eq_true rfl⟩) rfl rfl (Nat.le_of_ble_eq_true rfl) dX8_table_37 (fun σ12 h => ?_)
        refine r_aload_n hc dX8_table_40 rfl ?_
        refine r_aload hc dX8_table_41 rfl ?_
        refine r_iload_n hc dX8_table_43 rfl ?_
        refine r_bipush (v := 10) hc dX8_table_44 (by decide) ?_
        refine r_irem hc dX8_table_46 (by decide) ?_
        have hd13 := h.1
        replace h := h.2
        refine r_callVi hc (zX1_widthOf (Nat.le_trans (by decide) hn) hd13 σ12 (x1 - x1 / 10 * 10)) h (dm_lt0 hd13 (Nat.le_trans (by decide) hn)) (dm_T hd13) (dm_L hd13) rfl (cwV 1 hc.2.2.2.2.1 gX8_table_X1_widthOf rfl rfl rfl qX1_widthOf ⟨Nat.le_of_ble_eq_true rfl, Nat.le_of_ble_eq_true rfl⟩) rfl rfl (Nat.le_of_ble_eq_true rfl) dX8_table_47 (fun r15 σ14 h => ?_)
        refine r_aload hc dX8_table_50 rfl ?_
        refine r_iload_n hc dX8_table_52 rfl ?_
        refine r_bipush (v := 10) hc dX8_table_53 (by decide) ?_
        refine r_irem hc dX8_table_55 (by decide) ?_
        have hd16 := h.1
        replace h := h.2
        refine r_callVi hc (zX1_widthOf (Nat.le_trans (by decide) hn) hd16 σ14 (x2 - x2 / 10 * 10)) h (dm_lt0 hd16 (Nat.le_trans (by decide) hn)) (dm_T hd16) (dm_L hd16) rfl (cwV 1 hc.2.2.2.2.1 gX8_table_X1_widthOf rfl rfl rfl qX1_widthOf ⟨Nat.le_of_ble_eq_true rfl, Nat.le_of_ble_eq_true rfl⟩) rfl rfl (Nat.le_of_ble_eq_true rfl) dX8_table_56 (fun r18 σ17 h => ?_)
        refine r_iload_n hc dX8_table_59 rfl ?_
        refine r_callVv hc (zX8_writeTable hn σ17 r15 r18 x3) h (Nat.lt_of_lt_of_le (by decide) hn) rfl rfl rfl (cwV 3 hc.2.2.2.2.1 gX8_table_X8_writeTable rfl rfl rfl qX8_writeTable ⟨Nat.le_of_ble_eq_true rfl, Nat.le_of_ble_eq_true rfl⟩) rfl rfl (Nat.le_of_ble_eq_true rfl) dX8_table_60 (fun σ19 h => ?_)
        refine r_aload_n hc dX8_table_63 rfl ?_
        refine r_get (v := .ref (ad 45)) hc iX8_table_X8 (Nat.lt_of_lt_of_le (by decide) hn) rfl rfl rfl 5 (by decide) fX8_table_51 rfl dX8_table_64 ?_
        refine r_getN (v := .int (rd σ19 45 1)) hc iX8_table_X5 (Nat.lt_of_lt_of_le (by decide) hn) rfl rfl rfl 1 (by decide) fX8_table_211 rfl dX8_table_67 ?_
        exact e_i hc hr hlk h dX8_table_70
theorem oX8_total_63 : Jvm.Cond.constant RX8 63 (-2000000002) ∈ wsX8_total := by decide +kernel
theorem iX8_total_X8 : ∀ w ∈ u_ws RX8 TX8 8, w ∈ wsX8_total := by decide +kernel
theorem fX8_total_44 : Cond.fieldLink RX8 44 (TX8 4).1 (TX8 4).2.1 (TX8 4).2.2.1 ∈ wsX8_total := by decide +kernel
theorem fX8_total_19 : Cond.fieldLink RX8 19 (TX8 1).1 (TX8 1).2.1 (TX8 1).2.2.1 ∈ wsX8_total := by decide +kernel
theorem iX8_total_X2 : ∀ w ∈ u_ws RX2 TX2 5, w ∈ wsX8_total := by decide +kernel
theorem fX8_total_64 : (RX8, 64, (TX2 3).1, (TX2 3).2.1, (TX2 3).2.2.1, "CubeDesk") ∈ nestF := by decide +kernel
theorem oX8_total_176 : Jvm.Cond.constant RX8 176 (-2000000001) ∈ wsX8_total := by decide +kernel
set_option maxHeartbeats 4000000 in
set_option maxRecDepth 100000 in
theorem tvX8_total_L19 {cy : Nat → ClassId} {ad : Nat → Nat} {n : Nat} {D : va_G} {A : Nat → Prop} {l : Launch} {p : Program} {e : Env} {s : State} {m : MethodId} {args : Array Value} {below : List Frame} {meth : Method} {c : Code} {Q : Int32 → St → Prop} (hn : 49 ≤ n) (hc : CX p s m args c D cy cX8_total 3 RX8 wsX8_total) (hr : meth.sig.returnType = some .int) (hlk : meth.locks = false) : ∀ (q19 : Nat) (σ : St) (x1 : Int32) (x2 : Int32), vX8_total_L19 Q q19 σ x1 x2 → WV TC cy ad n D A p l e rmX8_total s m args below meth c 3 (MQ below (va_Qi Q (Bw TC cy ad n D) A) args s 0 0 A) σ [some (.ref (ad 48)), some (.int x1), some (.int x2)] [] 19 := by
  intro q19
  induction q19 with
  | zero =>
    intro σ x1 x2 h
    exact h.elim
  | succ q19 ih =>
    intro σ x1 x2 h
    unfold vX8_total_L19 at h
    refine r_iload_n hc dX8_total_19 rfl ?_
    refine r_aload_n hc dX8_total_20 rfl ?_
    refine r_get (v := .ref (ad 18)) hc iX8_total_X8 (Nat.lt_of_lt_of_le (by decide) hn) rfl rfl rfl 1 (by decide) fX8_total_19 rfl dX8_total_21 ?_
    refine r_getN (v := .int (rd σ 18 3)) hc iX8_total_X2 (Nat.lt_of_lt_of_le (by decide) hn) rfl rfl rfl 3 (by decide) fX8_total_64 rfl dX8_total_24 ?_
    refine r_icmp_ge (tgt := 60) hc dX8_total_27 (by decide) (fun hq17 => ?_) (fun hq17 => ?_)
    · replace h := h.1 hq17
      refine r_aload_n hc dX8_total_60 rfl ?_
      refine r_get (v := .ref (ad 40)) hc iX8_total_X8 (Nat.lt_of_lt_of_le (by decide) hn) rfl rfl rfl 4 (by decide) fX8_total_44 rfl dX8_total_61 ?_
      refine r_iconst (v := 0) hc dX8_total_64 (by decide) ?_
      refine r_callVi hc (zX7_isEmpty hn σ 0) h (Nat.lt_of_lt_of_le (by decide) hn) rfl rfl rfl (cwV 1 hc.2.2.2.2.1 gX8_total_X7_isEmpty rfl rfl rfl qX7_isEmpty ⟨Nat.le_of_ble_eq_true rfl, Nat.le_of_ble_eq_true rfl⟩) rfl rfl (Nat.le_of_ble_eq_true rfl) dX8_total_65 (fun r6 σ5 h => ?_)
      refine r_if_eq (tgt := 83) hc dX8_total_68 (by decide) (fun hq10 => ?_) (fun hq10 => ?_)
      · replace h := h.1 hq10
        refine r_aload_n hc dX8_total_83 rfl ?_
        refine r_get (v := .ref (ad 40)) hc iX8_total_X8 (Nat.lt_of_lt_of_le (by decide) hn) rfl rfl rfl 4 (by decide) fX8_total_44 rfl dX8_total_84 ?_
        refine r_iconst (v := 0) hc dX8_total_87 (by decide) ?_
        refine r_iload_n hc dX8_total_88 rfl ?_
        refine r_callVi hc (zX7_valueOf hn σ5 0 x1) h (Nat.lt_of_lt_of_le (by decide) hn) rfl rfl rfl (cwV 2 hc.2.2.2.2.1 gX8_total_X7_valueOf rfl rfl rfl qX7_valueOf ⟨Nat.le_of_ble_eq_true rfl, Nat.le_of_ble_eq_true rfl⟩) rfl rfl (Nat.le_of_ble_eq_true rfl) dX8_total_89 (fun r8 σ7 h => ?_)
        exact e_i hc hr hlk h dX8_total_92
      · replace h := h.2 hq10
        refine r_iload_n hc dX8_total_71 rfl ?_
        refine r_iconst (v := 1) hc dX8_total_72 (by decide) ?_
        refine r_icmp_gt (tgt := 80) hc dX8_total_73 (by decide) (fun hq9 => ?_) (fun hq9 => ?_)
        · replace h := h.1 hq9
          refine r_ldc (v := (-2000000001)) hc dX8_total_80 oX8_total_176 ?_
          exact e_i hc hr hlk h dX8_total_82
        · replace h := h.2 hq9
          refine r_iconst (v := 0) hc dX8_total_76 (by decide) ?_
          refine r_goto (tgt := 82) hc dX8_total_77 (by decide) ?_
          exact e_i hc hr hlk h dX8_total_82
    · replace h := h.2 hq17
      refine r_aload_n hc dX8_total_30 rfl ?_
      refine r_iload_n hc dX8_total_31 rfl ?_
      refine r_callVi hc (zX8_isInSight hn σ x2) h (Nat.lt_of_lt_of_le (by decide) hn) rfl rfl rfl (cwV 1 hc.2.2.2.2.1 gX8_total_X8_isInSight rfl rfl rfl qX8_isInSight ⟨Nat.le_of_ble_eq_true rfl, Nat.le_of_ble_eq_true rfl⟩) rfl rfl (Nat.le_of_ble_eq_true rfl) dX8_total_32 (fun r12 σ11 h => ?_)
      refine r_if_eq (tgt := 54) hc dX8_total_35 (by decide) (fun hq16 => ?_) (fun hq16 => ?_)
      · replace h := h.1 hq16
        refine r_iinc (v := x2 + 1) hc dX8_total_54 rfl rfl (by decide) (ss (s1 trivial)) ?_
        refine r_goto (tgt := 19) hc dX8_total_57 (by decide) ?_
        exact r_weak (wk (wk (wk w0))) (ih _ _ _ h)
      · replace h := h.2 hq16
        refine r_aload_n hc dX8_total_38 rfl ?_
        refine r_get (v := .ref (ad 40)) hc iX8_total_X8 (Nat.lt_of_lt_of_le (by decide) hn) rfl rfl rfl 4 (by decide) fX8_total_44 rfl dX8_total_39 ?_
        refine r_iconst (v := 0) hc dX8_total_42 (by decide) ?_
        refine r_aload_n hc dX8_total_43 rfl ?_
        refine r_get (v := .ref (ad 18)) hc iX8_total_X8 (Nat.lt_of_lt_of_le (by decide) hn) rfl rfl rfl 1 (by decide) fX8_total_19 rfl dX8_total_44 ?_
        refine r_iload_n hc dX8_total_47 rfl ?_
        refine r_callVi hc (zX2_measureOf (Nat.le_trans (by decide) hn) σ11 x2) h (Nat.lt_of_lt_of_le (by decide) hn) rfl rfl rfl (cwV 1 hc.2.2.2.2.1 gX8_total_X2_measureOf rfl rfl rfl qX2_measureOf ⟨Nat.le_of_ble_eq_true rfl, Nat.le_of_ble_eq_true rfl⟩) rfl rfl (Nat.le_of_ble_eq_true rfl) dX8_total_48 (fun r14 σ13 h => ?_)
        refine r_callVv hc (zX7_add hn σ13 0 r14) h (Nat.lt_of_lt_of_le (by decide) hn) rfl rfl rfl (cwV 2 hc.2.2.2.2.1 gX8_total_X7_add rfl rfl rfl qX7_add ⟨Nat.le_of_ble_eq_true rfl, Nat.le_of_ble_eq_true rfl⟩) rfl rfl (Nat.le_of_ble_eq_true rfl) dX8_total_51 (fun σ15 h => ?_)
        refine r_iinc (v := x2 + 1) hc dX8_total_54 rfl rfl (by decide) (ss (s1 trivial)) ?_
        refine r_goto (tgt := 19) hc dX8_total_57 (by decide) ?_
        exact r_weak (wk (wk (wk w0))) (ih _ _ _ h)
set_option maxHeartbeats 4000000 in
set_option maxRecDepth 100000 in
theorem zX8_total {cy : Nat → ClassId} {ad : Nat → Nat} {n : Nat} {D : va_G} {A : Nat → Prop} {l : Launch} (hn : 49 ≤ n) (σ : St) (x1 : Int32) : Ci TC cy ad n D A l yX8_total wsX8_total rmX8_total σ [.ref (ad 48), .int x1] (fun Q => vX8_total Q σ x1) := by
  intro Q h
  refine startW (cc := cX8_total) (nL := 3) (own := RX8) (lo := [some (.ref (ad 48)), some (.int x1), none]) (by decide) rfl rfl (lo_start (av := [.ref (ad 48), .int x1]) (k := 1) (allc1_ok (l := [.ref (ad 48), .int x1]) trivial)) (Nat.le_of_ble_eq_true rfl) (fun p e s m args below meth c hc hr hlk => ?_)
  unfold vX8_total at h
  refine r_iload_n hc dX8_total_0 rfl ?_
  refine r_callSi hc (zX8_isValue hn σ x1) h (va_cwS 1 hc.2.2.2.2.1 gX8_total_X8_isValue rfl rfl rfl qX8_isValue ⟨Nat.le_of_ble_eq_true rfl, Nat.le_of_ble_eq_true rfl⟩) rfl rfl (Nat.le_of_ble_eq_true rfl) dX8_total_1 (fun r2 σ1 h => ?_)
  refine r_if_ne (tgt := 10) hc dX8_total_4 (by decide) (fun hq4 => ?_) (fun hq4 => ?_)
  · replace h := h.1 hq4
    refine r_ldc (v := (-2000000002)) hc dX8_total_7 oX8_total_63 ?_
    exact e_i hc hr hlk h dX8_total_9
  · replace h := h.2 hq4
    refine r_aload_n hc dX8_total_10 rfl ?_
    refine r_get (v := .ref (ad 40)) hc iX8_total_X8 (Nat.lt_of_lt_of_le (by decide) hn) rfl rfl rfl 4 (by decide) fX8_total_44 rfl dX8_total_11 ?_
    refine r_callVv hc (zX7_clear hn σ1) h (Nat.lt_of_lt_of_le (by decide) hn) rfl rfl rfl (cwV 0 hc.2.2.2.2.1 gX8_total_X7_clear rfl rfl rfl qX7_clear ⟨Nat.le_of_ble_eq_true rfl, Nat.le_of_ble_eq_true rfl⟩) rfl rfl (Nat.le_of_ble_eq_true rfl) dX8_total_14 (fun σ3 h => ?_)
    refine r_iconst (v := 0) hc dX8_total_17 (by decide) ?_
    refine r_istore_n hc dX8_total_18 rfl (by decide) (ss (s1 trivial)) ?_
    obtain ⟨e19, h⟩ := h
    exact r_weak (wk (wk (wk w0))) (tvX8_total_L19 hn hc hr hlk e19 _ _ _ h)
theorem iX9_add_X9 : ∀ w ∈ u_ws RX9 TX9 25, w ∈ wsX9_add := by decide +kernel
theorem fX9_add_22 : Cond.fieldLink RX9 22 (TX9 7).1 (TX9 7).2.1 (TX9 7).2.2.1 ∈ wsX9_add := by decide +kernel
theorem fX9_add_129 : Cond.fieldLink RX9 129 (TX9 21).1 (TX9 21).2.1 (TX9 21).2.2.1 ∈ wsX9_add := by decide +kernel
theorem fX9_add_135 : Cond.fieldLink RX9 135 (TX9 23).1 (TX9 23).2.1 (TX9 23).2.2.1 ∈ wsX9_add := by decide +kernel
theorem fX9_add_138 : Cond.fieldLink RX9 138 (TX9 24).1 (TX9 24).2.1 (TX9 24).2.2.1 ∈ wsX9_add := by decide +kernel
theorem fX9_add_132 : Cond.fieldLink RX9 132 (TX9 22).1 (TX9 22).2.1 (TX9 22).2.2.1 ∈ wsX9_add := by decide +kernel
set_option maxHeartbeats 4000000 in
set_option maxRecDepth 100000 in
theorem tvX9_add_J50 {cy : Nat → ClassId} {ad : Nat → Nat} {n : Nat} {D : va_G} {A : Nat → Prop} {l : Launch} {p : Program} {e : Env} {s : State} {m : MethodId} {args : Array Value} {below : List Frame} {meth : Method} {c : Code} {Q : St → Prop} (hn : 17 ≤ n) (hc : CX p s m args c D cy cX9_add 3 RX9 wsX9_add) (hr : meth.sig.returnType = none) (hlk : meth.locks = false) : ∀ (σ : St) (x2 : Int32), vX9_add_J50 Q σ x2 → WV TR cy ad n D A p l e rmX9_add s m args below meth c 3 (MQ below (va_Qv Q (Bw TR cy ad n D) A) args s 0 0 A) σ [some (.ref (ad 0)), none, some (.int x2)] [.ref (ad 0)] 50 := by
  intro σ x2 h
  unfold vX9_add_J50 at h
  refine r_iload_n hc dX9_add_50 rfl ?_
  refine r_goto (tgt := 58) hc dX9_add_51 (by decide) ?_
  refine r_put hc iX9_add_X9 tyX9_ok nmX9 (Nat.lt_of_lt_of_le (by decide) hn) rfl rfl rfl 24 (by decide) (Nat.le_of_ble_eq_true rfl) fX9_add_138 rfl (by decide +kernel) rfl dX9_add_58 ?_
  refine r_aload_n hc dX9_add_61 rfl ?_
  refine r_dup hc dX9_add_62 rfl ?_
  refine r_get (v := .int (rd (wr σ 0 24 x2) 0 21)) hc iX9_add_X9 (Nat.lt_of_lt_of_le (by decide) hn) rfl rfl rfl 21 (by decide) fX9_add_129 rfl dX9_add_63 ?_
  refine r_iconst (v := 1) hc dX9_add_66 (by decide) ?_
  refine r_iadd hc dX9_add_67 ?_
  refine r_put hc iX9_add_X9 tyX9_ok nmX9 (Nat.lt_of_lt_of_le (by decide) hn) rfl rfl rfl 21 (by decide) (Nat.le_of_ble_eq_true rfl) fX9_add_129 rfl (by decide +kernel) rfl dX9_add_68 ?_
  refine r_aload_n hc dX9_add_71 rfl ?_
  refine r_dup hc dX9_add_72 rfl ?_
  refine r_get (v := .int (rd (wr (wr σ 0 24 x2) 0 21 ((rd (wr σ 0 24 x2) 0 21) + 1)) 0 22)) hc iX9_add_X9 (Nat.lt_of_lt_of_le (by decide) hn) rfl rfl rfl 22 (by decide) fX9_add_132 rfl dX9_add_73 ?_
  refine r_iload_n hc dX9_add_76 rfl ?_
  refine r_iadd hc dX9_add_77 ?_
  refine r_put hc iX9_add_X9 tyX9_ok nmX9 (Nat.lt_of_lt_of_le (by decide) hn) rfl rfl rfl 22 (by decide) (Nat.le_of_ble_eq_true rfl) fX9_add_132 rfl (by decide +kernel) rfl dX9_add_78 ?_
  exact e_v hc hr hlk h dX9_add_81
set_option maxHeartbeats 4000000 in
set_option maxRecDepth 100000 in
theorem tvX9_add_J31 {cy : Nat → ClassId} {ad : Nat → Nat} {n : Nat} {D : va_G} {A : Nat → Prop} {l : Launch} {p : Program} {e : Env} {s : State} {m : MethodId} {args : Array Value} {below : List Frame} {meth : Method} {c : Code} {Q : St → Prop} (hn : 17 ≤ n) (hc : CX p s m args c D cy cX9_add 3 RX9 wsX9_add) (hr : meth.sig.returnType = none) (hlk : meth.locks = false) : ∀ (σ : St) (x2 : Int32) (y0 : Int32), vX9_add_J31 Q σ x2 y0 → WV TR cy ad n D A p l e rmX9_add s m args below meth c 3 (MQ below (va_Qv Q (Bw TR cy ad n D) A) args s 0 0 A) σ [some (.ref (ad 0)), none, some (.int x2)] [.int y0, .ref (ad 0)] 31 := by
  intro σ x2 y0 h
  unfold vX9_add_J31 at h
  refine r_put hc iX9_add_X9 tyX9_ok nmX9 (Nat.lt_of_lt_of_le (by decide) hn) rfl rfl rfl 23 (by decide) (Nat.le_of_ble_eq_true rfl) fX9_add_135 rfl (by decide +kernel) rfl dX9_add_31 ?_
  refine r_aload_n hc dX9_add_34 rfl ?_
  refine r_aload_n hc dX9_add_35 rfl ?_
  refine r_get (v := .int (rd (wr σ 0 23 y0) 0 21)) hc iX9_add_X9 (Nat.lt_of_lt_of_le (by decide) hn) rfl rfl rfl 21 (by decide) fX9_add_129 rfl dX9_add_36 ?_
  refine r_if_eq (tgt := 50) hc dX9_add_39 (by decide) (fun hq4 => ?_) (fun hq4 => ?_)
  · replace h := h.1 hq4
    exact r_weak (wk (wn (wk w0))) (tvX9_add_J50 hn hc hr hlk _ _ h)
  · replace h := h.2 hq4
    refine r_iload_n hc dX9_add_42 rfl ?_
    refine r_aload_n hc dX9_add_43 rfl ?_
    refine r_get (v := .int (rd (wr σ 0 23 y0) 0 24)) hc iX9_add_X9 (Nat.lt_of_lt_of_le (by decide) hn) rfl rfl rfl 24 (by decide) fX9_add_138 rfl dX9_add_44 ?_
    refine r_icmp_le (tgt := 54) hc dX9_add_47 (by decide) (fun hq3 => ?_) (fun hq3 => ?_)
    · replace h := h.1 hq3
      refine r_aload_n hc dX9_add_54 rfl ?_
      refine r_get (v := .int (rd (wr σ 0 23 y0) 0 24)) hc iX9_add_X9 (Nat.lt_of_lt_of_le (by decide) hn) rfl rfl rfl 24 (by decide) fX9_add_138 rfl dX9_add_55 ?_
      refine r_put hc iX9_add_X9 tyX9_ok nmX9 (Nat.lt_of_lt_of_le (by decide) hn) rfl rfl rfl 24 (by decide) (Nat.le_of_ble_eq_true rfl) fX9_add_138 rfl (by decide +kernel) rfl dX9_add_58 ?_
      refine r_aload_n hc dX9_add_61 rfl ?_
      refine r_dup hc dX9_add_62 rfl ?_
      refine r_get (v := .int (rd (wr (wr σ 0 23 y0) 0 24 (rd (wr σ 0 23 y0) 0 24)) 0 21)) hc iX9_add_X9 (Nat.lt_of_lt_of_le (by decide) hn) rfl rfl rfl 21 (by decide) fX9_add_129 rfl dX9_add_63 ?_
      refine r_iconst (v := 1) hc dX9_add_66 (by decide) ?_
      refine r_iadd hc dX9_add_67 ?_
      refine r_put hc iX9_add_X9 tyX9_ok nmX9 (Nat.lt_of_lt_of_le (by decide) hn) rfl rfl rfl 21 (by decide) (Nat.le_of_ble_eq_true rfl) fX9_add_129 rfl (by decide +kernel) rfl dX9_add_68 ?_
      refine r_aload_n hc dX9_add_71 rfl ?_
      refine r_dup hc dX9_add_72 rfl ?_
      refine r_get (v := .int (rd (wr (wr (wr σ 0 23 y0) 0 24 (rd (wr σ 0 23 y0) 0 24)) 0 21 ((rd (wr (wr σ 0 23 y0) 0 24 (rd (wr σ 0 23 y0) 0 24)) 0 21) + 1)) 0 22)) hc iX9_add_X9 (Nat.lt_of_lt_of_le (by decide) hn) rfl rfl rfl 22 (by decide) fX9_add_132 rfl dX9_add_73 ?_
      refine r_iload_n hc dX9_add_76 rfl ?_
      refine r_iadd hc dX9_add_77 ?_
      refine r_put hc iX9_add_X9 tyX9_ok nmX9 (Nat.lt_of_lt_of_le (by decide) hn) rfl rfl rfl 22 (by decide) (Nat.le_of_ble_eq_true rfl) fX9_add_132 rfl (by decide +kernel) rfl dX9_add_78 ?_
      exact e_v hc hr hlk h dX9_add_81
    · replace h := h.2 hq3
      exact r_weak (wk (wn (wk w0))) (tvX9_add_J50 hn hc hr hlk _ _ h)
set_option maxHeartbeats 4000000 in
set_option maxRecDepth 100000 in
theorem zX9_add {cy : Nat → ClassId} {ad : Nat → Nat} {n : Nat} {D : va_G} {A : Nat → Prop} {l : Launch} (hn : 17 ≤ n) (σ : St) (x1 : Int32) : Cv TR cy ad n D A l yX9_add wsX9_add rmX9_add σ [.ref (ad 0), .int x1] (fun Q => vX9_add Q σ x1) := by
  intro Q h
  refine startW (cc := cX9_add) (nL := 3) (own := RX9) (lo := [some (.ref (ad 0)), some (.int x1), none]) (by decide) rfl rfl (lo_start (av := [.ref (ad 0), .int x1]) (k := 1) (allc1_ok (l := [.ref (ad 0), .int x1]) trivial)) (Nat.le_of_ble_eq_true rfl) (fun p e s m args below meth c hc hr hlk => ?_)
  unfold vX9_add at h
  refine r_aload_n hc dX9_add_0 rfl ?_
  refine r_get (v := .ref (ad 5)) hc iX9_add_X9 (Nat.lt_of_lt_of_le (by decide) hn) rfl rfl rfl 7 (by decide) fX9_add_22 rfl dX9_add_1 ?_
  refine r_iload_n hc dX9_add_4 rfl ?_
  refine r_iald hc (Nat.lt_of_lt_of_le (by decide) hn) rfl rfl h.1 dX9_add_5 ?_
  replace h := h.2
  refine r_istore_n hc dX9_add_6 rfl (by decide) (ss (s1 trivial)) ?_
  refine r_aload_n hc dX9_add_7 rfl ?_
  refine r_aload_n hc dX9_add_8 rfl ?_
  refine r_get (v := .int (rd σ 0 21)) hc iX9_add_X9 (Nat.lt_of_lt_of_le (by decide) hn) rfl rfl rfl 21 (by decide) fX9_add_129 rfl dX9_add_9 ?_
  refine r_if_eq (tgt := 23) hc dX9_add_12 (by decide) (fun hq2 => ?_) (fun hq2 => ?_)
  · replace h := h.1 hq2
    refine r_iload_n hc dX9_add_23 rfl ?_
    refine r_goto (tgt := 31) hc dX9_add_24 (by decide) ?_
    exact r_weak (wk (wn (wk w0))) (tvX9_add_J31 hn hc hr hlk _ _ _ h)
  · replace h := h.2 hq2
    refine r_iload_n hc dX9_add_15 rfl ?_
    refine r_aload_n hc dX9_add_16 rfl ?_
    refine r_get (v := .int (rd σ 0 23)) hc iX9_add_X9 (Nat.lt_of_lt_of_le (by decide) hn) rfl rfl rfl 23 (by decide) fX9_add_135 rfl dX9_add_17 ?_
    refine r_icmp_ge (tgt := 27) hc dX9_add_20 (by decide) (fun hq1 => ?_) (fun hq1 => ?_)
    · replace h := h.1 hq1
      refine r_aload_n hc dX9_add_27 rfl ?_
      refine r_get (v := .int (rd σ 0 23)) hc iX9_add_X9 (Nat.lt_of_lt_of_le (by decide) hn) rfl rfl rfl 23 (by decide) fX9_add_135 rfl dX9_add_28 ?_
      exact r_weak (wk (wn (wk w0))) (tvX9_add_J31 hn hc hr hlk _ _ _ h)
    · replace h := h.2 hq1
      refine r_iload_n hc dX9_add_23 rfl ?_
      refine r_goto (tgt := 31) hc dX9_add_24 (by decide) ?_
      exact r_weak (wk (wn (wk w0))) (tvX9_add_J31 hn hc hr hlk _ _ _ h)
theorem iX9_all_X9 : ∀ w ∈ u_ws RX9 TX9 25, w ∈ wsX9_all := by decide +kernel
theorem fX9_all_64 : Cond.fieldLink RX9 64 (TX9 1).1 (TX9 1).2.1 (TX9 1).2.2.1 ∈ wsX9_all := by decide +kernel
theorem fX9_all_7 : Cond.fieldLink RX9 7 (TX9 2).1 (TX9 2).2.1 (TX9 2).2.2.1 ∈ wsX9_all := by decide +kernel
set_option maxHeartbeats 4000000 in
set_option maxRecDepth 100000 in
theorem tvX9_all_L4 {cy : Nat → ClassId} {ad : Nat → Nat} {n : Nat} {D : va_G} {A : Nat → Prop} {l : Launch} {p : Program} {e : Env} {s : State} {m : MethodId} {args : Array Value} {below : List Frame} {meth : Method} {c : Code} {Q : Int32 → St → Prop} (hn : 17 ≤ n) (hc : CX p s m args c D cy cX9_all 3 RX9 wsX9_all) (hr : meth.sig.returnType = some .int) (hlk : meth.locks = false) : ∀ (q4 : Nat) (σ : St) (x1 : Int32) (x2 : Int32), vX9_all_L4 Q q4 σ x1 x2 → WV TR cy ad n D A p l e rmX9_all s m args below meth c 3 (MQ below (va_Qi Q (Bw TR cy ad n D) A) args s 0 0 A) σ [some (.ref (ad 0)), some (.int x1), some (.int x2)] [] 4 := by
  intro q4
  induction q4 with
  | zero =>
    intro σ x1 x2 h
    exact h.elim
  | succ q4 ih =>
    intro σ x1 x2 h
    unfold vX9_all_L4 at h
    refine r_iload_n hc dX9_all_4 rfl ?_
    refine r_aload_n hc dX9_all_5 rfl ?_
    refine r_get (v := .int (rd σ 0 1)) hc iX9_all_X9 (Nat.lt_of_lt_of_le (by decide) hn) rfl rfl rfl 1 (by decide) fX9_all_64 rfl dX9_all_6 ?_
    refine r_icmp_ge (tgt := 29) hc dX9_all_9 (by decide) (fun hq1 => ?_) (fun hq1 => ?_)
    · replace h := h.1 hq1
      refine r_iload_n hc dX9_all_29 rfl ?_
      exact e_i hc hr hlk h dX9_all_30
    · replace h := h.2 hq1
      refine r_iload_n hc dX9_all_12 rfl ?_
      refine r_aload_n hc dX9_all_13 rfl ?_
      refine r_get (v := .ref (ad 1)) hc iX9_all_X9 (Nat.lt_of_lt_of_le (by decide) hn) rfl rfl rfl 2 (by decide) fX9_all_7 rfl dX9_all_14 ?_
      refine r_iload_n hc dX9_all_17 rfl ?_
      refine r_iald hc (Nat.lt_of_lt_of_le (by decide) hn) rfl rfl h.1 dX9_all_18 ?_
      replace h := h.2
      refine r_iconst (v := 1) hc dX9_all_19 (by decide) ?_
      refine r_iadd hc dX9_all_20 ?_
      refine r_imul hc dX9_all_21 ?_
      refine r_istore_n hc dX9_all_22 rfl (by decide) (s1 trivial) ?_
      refine r_iinc (v := x2 + 1) hc dX9_all_23 rfl rfl (by decide) (ss (s1 trivial)) ?_
      refine r_goto (tgt := 4) hc dX9_all_26 (by decide) ?_
      exact r_weak (wk (wk (wk w0))) (ih _ _ _ h)
set_option maxHeartbeats 4000000 in
set_option maxRecDepth 100000 in
theorem zX9_all {cy : Nat → ClassId} {ad : Nat → Nat} {n : Nat} {D : va_G} {A : Nat → Prop} {l : Launch} (hn : 17 ≤ n) (σ : St) : Ci TR cy ad n D A l yX9_all wsX9_all rmX9_all σ [.ref (ad 0)] (fun Q => vX9_all Q σ ) := by
  intro Q h
  refine startW (cc := cX9_all) (nL := 3) (own := RX9) (lo := [some (.ref (ad 0)), none, none]) (by decide) rfl rfl (lo_start (av := [.ref (ad 0)]) (k := 2) (allc1_ok (l := [.ref (ad 0)]) trivial)) (Nat.le_of_ble_eq_true rfl) (fun p e s m args below meth c hc hr hlk => ?_)
  unfold vX9_all at h
  refine r_iconst (v := 1) hc dX9_all_0 (by decide) ?_
  refine r_istore_n hc dX9_all_1 rfl (by decide) (s1 trivial) ?_
  refine r_iconst (v := 0) hc dX9_all_2 (by decide) ?_
  refine r_istore_n hc dX9_all_3 rfl (by decide) (ss (s1 trivial)) ?_
  obtain ⟨e4, h⟩ := h
  exact r_weak (wk (wk (wk w0))) (tvX9_all_L4 hn hc hr hlk e4 _ _ _ h)
theorem iX9_begin_X9 : ∀ w ∈ u_ws RX9 TX9 25, w ∈ wsX9_begin := by decide +kernel
theorem fX9_begin_129 : Cond.fieldLink RX9 129 (TX9 21).1 (TX9 21).2.1 (TX9 21).2.2.1 ∈ wsX9_begin := by decide +kernel
theorem fX9_begin_132 : Cond.fieldLink RX9 132 (TX9 22).1 (TX9 22).2.1 (TX9 22).2.2.1 ∈ wsX9_begin := by decide +kernel
theorem fX9_begin_135 : Cond.fieldLink RX9 135 (TX9 23).1 (TX9 23).2.1 (TX9 23).2.2.1 ∈ wsX9_begin := by decide +kernel
theorem fX9_begin_138 : Cond.fieldLink RX9 138 (TX9 24).1 (TX9 24).2.1 (TX9 24).2.2.1 ∈ wsX9_begin := by decide +kernel
set_option maxHeartbeats 4000000 in
set_option maxRecDepth 100000 in
theorem zX9_begin {cy : Nat → ClassId} {ad : Nat → Nat} {n : Nat} {D : va_G} {A : Nat → Prop} {l : Launch} (hn : 17 ≤ n) (σ : St) : Cv TR cy ad n D A l yX9_begin wsX9_begin rmX9_begin σ [.ref (ad 0)] (fun Q => vX9_begin Q σ ) := by
  intro Q h
  refine startW (cc := cX9_begin) (nL := 1) (own := RX9) (lo := [some (.ref (ad 0))]) (by decide) rfl rfl (lo_start (av := [.ref (ad 0)]) (k := 0) (allc1_ok (l := [.ref (ad 0)]) trivial)) (Nat.le_of_ble_eq_true rfl) (fun p e s m args below meth c hc hr hlk => ?_)
  unfold vX9_begin at h
  refine r_aload_n hc dX9_begin_0 rfl ?_
  refine r_iconst (v := 0) hc dX9_begin_1 (by decide) ?_
  refine r_put hc iX9_begin_X9 tyX9_ok nmX9 (Nat.lt_of_lt_of_le (by decide) hn) rfl rfl rfl 21 (by decide) (Nat.le_of_ble_eq_true rfl) fX9_begin_129 rfl (by decide +kernel) rfl dX9_begin_2 ?_
  refine r_aload_n hc dX9_begin_5 rfl ?_
  refine r_iconst (v := 0) hc dX9_begin_6 (by decide) ?_
  refine r_put hc iX9_begin_X9 tyX9_ok nmX9 (Nat.lt_of_lt_of_le (by decide) hn) rfl rfl rfl 22 (by decide) (Nat.le_of_ble_eq_true rfl) fX9_begin_132 rfl (by decide +kernel) rfl dX9_begin_7 ?_
  refine r_aload_n hc dX9_begin_10 rfl ?_
  refine r_iconst (v := 0) hc dX9_begin_11 (by decide) ?_
  refine r_put hc iX9_begin_X9 tyX9_ok nmX9 (Nat.lt_of_lt_of_le (by decide) hn) rfl rfl rfl 23 (by decide) (Nat.le_of_ble_eq_true rfl) fX9_begin_135 rfl (by decide +kernel) rfl dX9_begin_12 ?_
  refine r_aload_n hc dX9_begin_15 rfl ?_
  refine r_iconst (v := 0) hc dX9_begin_16 (by decide) ?_
  refine r_put hc iX9_begin_X9 tyX9_ok nmX9 (Nat.lt_of_lt_of_le (by decide) hn) rfl rfl rfl 24 (by decide) (Nat.le_of_ble_eq_true rfl) fX9_begin_138 rfl (by decide +kernel) rfl dX9_begin_17 ?_
  exact e_v hc hr hlk h dX9_begin_20
set_option maxHeartbeats 4000000 in
set_option maxRecDepth 100000 in
theorem zX9_in {cy : Nat → ClassId} {ad : Nat → Nat} {n : Nat} {D : va_G} {A : Nat → Prop} {l : Launch} (hn : 17 ≤ n) (σ : St) (x0 : Int32) (x1 : Int32) (x2 : Int32) : Ci TR cy ad n D A l yX9_in wsX9_in rmX9_in σ [.int x0, .int x1, .int x2] (fun Q => vX9_in Q σ x0 x1 x2) := by
  intro Q h
  refine startW (cc := cX9_in) (nL := 3) (own := RX9) (lo := [some (.int x0), some (.int x1), some (.int x2)]) (by decide) rfl rfl (lo_start (av := [.int x0, .int x1, .int x2]) (k := 0) (allc1_ok (l := [.int x0, .int x1, .int x2]) trivial)) (Nat.le_of_ble_eq_true rfl) (fun p e s m args below meth c hc hr hlk => ?_)
  unfold vX9_in at h
  refine r_iload_n hc dX9_in_0 rfl ?_
  refine r_iload_n hc dX9_in_1 rfl ?_
  refine r_icmp_lt (tgt := 14) hc dX9_in_2 (by decide) (fun hq2 => ?_) (fun hq2 => ?_)
  · replace h := h.1 hq2
    refine r_iconst (v := 0) hc dX9_in_14 (by decide) ?_
    exact e_z hc hr hlk (by decide) h dX9_in_15
  · replace h := h.2 hq2
    refine r_iload_n hc dX9_in_5 rfl ?_
    refine r_iload_n hc dX9_in_6 rfl ?_
    refine r_icmp_gt (tgt := 14) hc dX9_in_7 (by decide) (fun hq1 => ?_) (fun hq1 => ?_)
    · replace h := h.1 hq1
      refine r_iconst (v := 0) hc dX9_in_14 (by decide) ?_
      exact e_z hc hr hlk (by decide) h dX9_in_15
    · replace h := h.2 hq1
      refine r_iconst (v := 1) hc dX9_in_10 (by decide) ?_
      refine r_goto (tgt := 15) hc dX9_in_11 (by decide) ?_
      exact e_z hc hr hlk (by decide) h dX9_in_15
set_option maxHeartbeats 4000000 in
set_option maxRecDepth 100000 in
theorem zX9_isCuboid {cy : Nat → ClassId} {ad : Nat → Nat} {n : Nat} {D : va_G} {A : Nat → Prop} {l : Launch} (hn : 17 ≤ n) (σ : St) (x1 : Int32) : Ci TR cy ad n D A l yX9_isCuboid wsX9_isCuboid rmX9_isCuboid σ [.ref (ad 0), .int x1] (fun Q => vX9_isCuboid Q σ x1) := by
  intro Q h
  refine startW (cc := cX9_isCuboid) (nL := 2) (own := RX9) (lo := [some (.ref (ad 0)), some (.int x1)]) (by decide) rfl rfl (lo_start (av := [.ref (ad 0), .int x1]) (k := 0) (allc1_ok (l := [.ref (ad 0), .int x1]) trivial)) (Nat.le_of_ble_eq_true rfl) (fun p e s m args below meth c hc hr hlk => ?_)
  unfold vX9_isCuboid at h
  refine r_iload_n hc dX9_isCuboid_0 rfl ?_
  refine r_iconst (v := 0) hc dX9_isCuboid_1 (by decide) ?_
  refine r_aload_n hc dX9_isCuboid_2 rfl ?_
  refine r_callVi hc (zX9_all hn σ) h (Nat.lt_of_lt_of_le (by decide) hn) rfl rfl rfl (cwV 0 hc.2.2.2.2.1 gX9_isCuboid_X9_all rfl rfl rfl qX9_all ⟨Nat.le_of_ble_eq_true rfl, Nat.le_of_ble_eq_true rfl⟩) rfl rfl (Nat.le_of_ble_eq_true rfl) dX9_isCuboid_3 (fun r2 σ1 h => ?_)
  refine r_iconst (v := 1) hc dX9_isCuboid_6 (by decide) ?_
  refine r_isub hc dX9_isCuboid_7 ?_
  refine r_callSi hc (zX9_in hn σ1 x1 0 (r2 - 1)) h (va_cwS 3 hc.2.2.2.2.1 gX9_isCuboid_X9_in rfl rfl rfl qX9_in ⟨Nat.le_of_ble_eq_true rfl, Nat.le_of_ble_eq_true rfl⟩) rfl rfl (Nat.le_of_ble_eq_true rfl) dX9_isCuboid_8 (fun r4 σ3 h => ?_)
  exact e_z hc hr hlk h.1 h.2 dX9_isCuboid_11
theorem iX9_levelIn_X9 : ∀ w ∈ u_ws RX9 TX9 25, w ∈ wsX9_levelIn := by decide +kernel
theorem fX9_levelIn_64 : Cond.fieldLink RX9 64 (TX9 1).1 (TX9 1).2.1 (TX9 1).2.2.1 ∈ wsX9_levelIn := by decide +kernel
theorem fX9_levelIn_7 : Cond.fieldLink RX9 7 (TX9 2).1 (TX9 2).2.1 (TX9 2).2.2.1 ∈ wsX9_levelIn := by decide +kernel
set_option maxHeartbeats 4000000 in
set_option maxRecDepth 100000 in
theorem tvX9_levelIn_L10 {cy : Nat → ClassId} {ad : Nat → Nat} {n : Nat} {D : va_G} {A : Nat → Prop} {l : Launch} {p : Program} {e : Env} {s : State} {m : MethodId} {args : Array Value} {below : List Frame} {meth : Method} {c : Code} {Q : Int32 → St → Prop} (hn : 17 ≤ n) (hc : CX p s m args c D cy cX9_levelIn 5 RX9 wsX9_levelIn) (hr : meth.sig.returnType = some .int) (hlk : meth.locks = false) : ∀ (q10 : Nat) (σ : St) (x2 : Int32) (x3 : Int32) (x4 : Int32), vX9_levelIn_L10 Q q10 σ x2 x3 x4 → WV TR cy ad n D A p l e rmX9_levelIn s m args below meth c 5 (MQ below (va_Qi Q (Bw TR cy ad n D) A) args s 0 0 A) σ [some (.ref (ad 0)), none, some (.int x2), some (.int x3), some (.int x4)] [] 10 := by
  intro q10
  induction q10 with
  | zero =>
    intro σ x2 x3 x4 h
    exact h.elim
  | succ q10 ih =>
    intro σ x2 x3 x4 h
    unfold vX9_levelIn_L10 at h
    refine r_iload hc dX9_levelIn_10 rfl ?_
    refine r_iload_n hc dX9_levelIn_12 rfl ?_
    refine r_icmp_le (tgt := 34) hc dX9_levelIn_13 (by decide) (fun hq1 => ?_) (fun hq1 => ?_)
    · replace h := h.1 hq1
      refine r_iload_n hc dX9_levelIn_34 rfl ?_
      refine r_aload_n hc dX9_levelIn_35 rfl ?_
      refine r_get (v := .ref (ad 1)) hc iX9_levelIn_X9 (Nat.lt_of_lt_of_le (by decide) hn) rfl rfl rfl 2 (by decide) fX9_levelIn_7 rfl dX9_levelIn_36 ?_
      refine r_iload_n hc dX9_levelIn_39 rfl ?_
      refine r_iald hc (Nat.lt_of_lt_of_le (by decide) hn) rfl rfl h.1 dX9_levelIn_40 ?_
      replace h := h.2
      refine r_iconst (v := 1) hc dX9_levelIn_41 (by decide) ?_
      refine r_iadd hc dX9_levelIn_42 ?_
      refine r_irem hc dX9_levelIn_43 h.1 ?_
      replace h := h.2
      exact e_i hc hr hlk h dX9_levelIn_44
    · replace h := h.2 hq1
      refine r_iload_n hc dX9_levelIn_16 rfl ?_
      refine r_aload_n hc dX9_levelIn_17 rfl ?_
      refine r_get (v := .ref (ad 1)) hc iX9_levelIn_X9 (Nat.lt_of_lt_of_le (by decide) hn) rfl rfl rfl 2 (by decide) fX9_levelIn_7 rfl dX9_levelIn_18 ?_
      refine r_iload hc dX9_levelIn_21 rfl ?_
      refine r_iald hc (Nat.lt_of_lt_of_le (by decide) hn) rfl rfl h.1 dX9_levelIn_23 ?_
      replace h := h.2
      refine r_iconst (v := 1) hc dX9_levelIn_24 (by decide) ?_
      refine r_iadd hc dX9_levelIn_25 ?_
      refine r_idiv hc dX9_levelIn_26 h.1 ?_
      replace h := h.2
      refine r_istore_n hc dX9_levelIn_27 rfl (by decide) (ss (ss (s1 trivial))) ?_
      refine r_iinc (v := x4 + (-1)) hc dX9_levelIn_28 rfl rfl (by decide) (ss (ss (ss (s1 trivial)))) ?_
      refine r_goto (tgt := 10) hc dX9_levelIn_31 (by decide) ?_
      exact r_weak (wk (wn (wk (wk (wk w0))))) (ih _ _ _ _ h)
set_option maxHeartbeats 4000000 in
set_option maxRecDepth 100000 in
theorem zX9_levelIn {cy : Nat → ClassId} {ad : Nat → Nat} {n : Nat} {D : va_G} {A : Nat → Prop} {l : Launch} (hn : 17 ≤ n) (σ : St) (x1 : Int32) (x2 : Int32) : Ci TR cy ad n D A l yX9_levelIn wsX9_levelIn rmX9_levelIn σ [.ref (ad 0), .int x1, .int x2] (fun Q => vX9_levelIn Q σ x1 x2) := by
  intro Q h
  refine startW (cc := cX9_levelIn) (nL := 5) (own := RX9) (lo := [some (.ref (ad 0)), some (.int x1), some (.int x2), none, none]) (by decide) rfl rfl (lo_start (av := [.ref (ad 0), .int x1, .int x2]) (k := 2) (allc1_ok (l := [.ref (ad 0), .int x1, .int x2]) trivial)) (Nat.le_of_ble_eq_true rfl) (fun p e s m args below meth c hc hr hlk => ?_)
  unfold vX9_levelIn at h
  refine r_iload_n hc dX9_levelIn_0 rfl ?_
  refine r_istore_n hc dX9_levelIn_1 rfl (by decide) (ss (ss (s1 trivial))) ?_
  refine r_aload_n hc dX9_levelIn_2 rfl ?_
  refine r_get (v := .int (rd σ 0 1)) hc iX9_levelIn_X9 (Nat.lt_of_lt_of_le (by decide) hn) rfl rfl rfl 1 (by decide) fX9_levelIn_64 rfl dX9_levelIn_3 ?_
  refine r_iconst (v := 1) hc dX9_levelIn_6 (by decide) ?_
  refine r_isub hc dX9_levelIn_7 ?_
  refine r_istore hc dX9_levelIn_8 (by decide) (ss (ss (ss (s1 trivial)))) ?_
  obtain ⟨e10, h⟩ := h
  exact r_weak (wk (wn (wk (wk (wk w0))))) (tvX9_levelIn_L10 hn hc hr hlk e10 _ _ _ _ h)
theorem iX9_liesIn_X9 : ∀ w ∈ u_ws RX9 TX9 25, w ∈ wsX9_liesIn := by decide +kernel
theorem fX9_liesIn_7 : Cond.fieldLink RX9 7 (TX9 2).1 (TX9 2).2.1 (TX9 2).2.2.1 ∈ wsX9_liesIn := by decide +kernel
theorem fX9_liesIn_16 : Cond.fieldLink RX9 16 (TX9 4).1 (TX9 4).2.1 (TX9 4).2.2.1 ∈ wsX9_liesIn := by decide +kernel
set_option maxHeartbeats 4000000 in
set_option maxRecDepth 100000 in
theorem tvX9_liesIn_L18 {cy : Nat → ClassId} {ad : Nat → Nat} {n : Nat} {D : va_G} {A : Nat → Prop} {l : Launch} {p : Program} {e : Env} {s : State} {m : MethodId} {args : Array Value} {below : List Frame} {meth : Method} {c : Code} {Q : Int32 → St → Prop} (hn : 17 ≤ n) (hc : CX p s m args c D cy cX9_liesIn 6 RX9 wsX9_liesIn) (hr : meth.sig.returnType = some .int) (hlk : meth.locks = false) : ∀ (q18 : Nat) (σ : St) (x1 : Int32) (x3 : Int32) (x4 : Int32) (x5 : Int32), vX9_liesIn_L18 Q q18 σ x1 x3 x4 x5 → WV TR cy ad n D A p l e rmX9_liesIn s m args below meth c 6 (MQ below (va_Qi Q (Bw TR cy ad n D) A) args s 0 0 A) σ [some (.ref (ad 0)), some (.int x1), none, some (.int x3), some (.int x4), some (.int x5)] [] 18 := by
  intro q18
  induction q18 with
  | zero =>
    intro σ x1 x3 x4 x5 h
    exact h.elim
  | succ q18 ih =>
    intro σ x1 x3 x4 x5 h
    unfold vX9_liesIn_L18 at h
    refine r_iload hc dX9_liesIn_18 rfl ?_
    refine r_iload_n hc dX9_liesIn_20 rfl ?_
    refine r_icmp_ge (tgt := 50) hc dX9_liesIn_21 (by decide) (fun hq2 => ?_) (fun hq2 => ?_)
    · replace h := h.1 hq2
      refine r_iload hc dX9_liesIn_50 rfl ?_
      exact e_i hc hr hlk h dX9_liesIn_52
    · replace h := h.2 hq2
      refine r_aload_n hc dX9_liesIn_24 rfl ?_
      refine r_get (v := .ref (ad 3)) hc iX9_liesIn_X9 (Nat.lt_of_lt_of_le (by decide) hn) rfl rfl rfl 4 (by decide) fX9_liesIn_16 rfl dX9_liesIn_25 ?_
      refine r_bipush (v := 24) hc dX9_liesIn_28 (by decide) ?_
      refine r_iload_n hc dX9_liesIn_30 rfl ?_
      refine r_imul hc dX9_liesIn_31 ?_
      refine r_bipush (v := 8) hc dX9_liesIn_32 (by decide) ?_
      refine r_iload hc dX9_liesIn_34 rfl ?_
      refine r_imul hc dX9_liesIn_36 ?_
      refine r_iadd hc dX9_liesIn_37 ?_
      refine r_iload hc dX9_liesIn_38 rfl ?_
      refine r_iadd hc dX9_liesIn_40 ?_
      refine r_iald hc (Nat.lt_of_lt_of_le (by decide) hn) rfl rfl h.1 dX9_liesIn_41 ?_
      replace h := h.2
      refine r_istore hc dX9_liesIn_42 (by decide) (ss (ss (ss (s1 trivial)))) ?_
      refine r_iinc (v := x5 + 1) hc dX9_liesIn_44 rfl rfl (by decide) (ss (ss (ss (ss (s1 trivial))))) ?_
      refine r_goto (tgt := 18) hc dX9_liesIn_47 (by decide) ?_
      exact r_weak (wk (wk (wn (wk (wk (wk w0)))))) (ih _ _ _ _ _ h)
set_option maxHeartbeats 4000000 in
set_option maxRecDepth 100000 in
theorem zX9_liesIn {cy : Nat → ClassId} {ad : Nat → Nat} {n : Nat} {D : va_G} {A : Nat → Prop} {l : Launch} (hn : 17 ≤ n) (σ : St) (x1 : Int32) (x2 : Int32) (x3 : Int32) : Ci TR cy ad n D A l yX9_liesIn wsX9_liesIn rmX9_liesIn σ [.ref (ad 0), .int x1, .int x2, .int x3] (fun Q => vX9_liesIn Q σ x1 x2 x3) := by
  intro Q h
  refine startW (cc := cX9_liesIn) (nL := 6) (own := RX9) (lo := [some (.ref (ad 0)), some (.int x1), some (.int x2), some (.int x3), none, none]) (by decide) rfl rfl (lo_start (av := [.ref (ad 0), .int x1, .int x2, .int x3]) (k := 2) (allc1_ok (l := [.ref (ad 0), .int x1, .int x2, .int x3]) trivial)) (Nat.le_of_ble_eq_true rfl) (fun p e s m args below meth c hc hr hlk => ?_)
  unfold vX9_liesIn at h
  refine r_iload_n hc dX9_liesIn_0 rfl ?_
  refine r_aload_n hc dX9_liesIn_1 rfl ?_
  refine r_get (v := .ref (ad 1)) hc iX9_liesIn_X9 (Nat.lt_of_lt_of_le (by decide) hn) rfl rfl rfl 2 (by decide) fX9_liesIn_7 rfl dX9_liesIn_2 ?_
  refine r_iload_n hc dX9_liesIn_5 rfl ?_
  refine r_iald hc (Nat.lt_of_lt_of_le (by decide) hn) rfl rfl h.1 dX9_liesIn_6 ?_
  replace h := h.2
  refine r_icmp_ne (tgt := 12) hc dX9_liesIn_7 (by decide) (fun hq1 => ?_) (fun hq1 => ?_)
  · replace h := h.1 hq1
    refine r_iconst (v := 0) hc dX9_liesIn_10 (by decide) ?_
    exact e_i hc hr hlk h dX9_liesIn_11
  · replace h := h.2 hq1
    refine r_iload_n hc dX9_liesIn_12 rfl ?_
    refine r_istore hc dX9_liesIn_13 (by decide) (ss (ss (ss (s1 trivial)))) ?_
    refine r_iconst (v := 0) hc dX9_liesIn_15 (by decide) ?_
    refine r_istore hc dX9_liesIn_16 (by decide) (ss (ss (ss (ss (s1 trivial))))) ?_
    obtain ⟨e18, h⟩ := h
    exact r_weak (wk (wk (wn (wk (wk (wk w0)))))) (tvX9_liesIn_L18 hn hc hr hlk e18 _ _ _ _ _ h)
theorem iX9_many_X9 : ∀ w ∈ u_ws RX9 TX9 25, w ∈ wsX9_many := by decide +kernel
theorem fX9_many_7 : Cond.fieldLink RX9 7 (TX9 2).1 (TX9 2).2.1 (TX9 2).2.2.1 ∈ wsX9_many := by decide +kernel
theorem fX9_many_13 : Cond.fieldLink RX9 13 (TX9 3).1 (TX9 3).2.1 (TX9 3).2.2.1 ∈ wsX9_many := by decide +kernel
set_option maxHeartbeats 4000000 in
set_option maxRecDepth 100000 in
theorem zX9_many {cy : Nat → ClassId} {ad : Nat → Nat} {n : Nat} {D : va_G} {A : Nat → Prop} {l : Launch} (hn : 17 ≤ n) (σ : St) (x1 : Int32) (x2 : Int32) : Ci TR cy ad n D A l yX9_many wsX9_many rmX9_many σ [.ref (ad 0), .int x1, .int x2] (fun Q => vX9_many Q σ x1 x2) := by
  intro Q h
  refine startW (cc := cX9_many) (nL := 3) (own := RX9) (lo := [some (.ref (ad 0)), some (.int x1), some (.int x2)]) (by decide) rfl rfl (lo_start (av := [.ref (ad 0), .int x1, .int x2]) (k := 0) (allc1_ok (l := [.ref (ad 0), .int x1, .int x2]) trivial)) (Nat.le_of_ble_eq_true rfl) (fun p e s m args below meth c hc hr hlk => ?_)
  unfold vX9_many at h
  refine r_iload_n hc dX9_many_0 rfl ?_
  refine r_if_lt (tgt := 14) hc dX9_many_1 (by decide) (fun hq3 => ?_) (fun hq3 => ?_)
  · replace h := h.1 hq3
    refine r_iconst (v := 0) hc dX9_many_14 (by decide) ?_
    refine r_goto (tgt := 42) hc dX9_many_15 (by decide) ?_
    exact e_i hc hr hlk h dX9_many_42
  · replace h := h.2 hq3
    refine r_iload_n hc dX9_many_4 rfl ?_
    refine r_aload_n hc dX9_many_5 rfl ?_
    refine r_get (v := .ref (ad 1)) hc iX9_many_X9 (Nat.lt_of_lt_of_le (by decide) hn) rfl rfl rfl 2 (by decide) fX9_many_7 rfl dX9_many_6 ?_
    refine r_iload_n hc dX9_many_9 rfl ?_
    refine r_iald hc (Nat.lt_of_lt_of_le (by decide) hn) rfl rfl h.1 dX9_many_10 ?_
    replace h := h.2
    refine r_icmp_le (tgt := 18) hc dX9_many_11 (by decide) (fun hq2 => ?_) (fun hq2 => ?_)
    · replace h := h.1 hq2
      refine r_iload_n hc dX9_many_18 rfl ?_
      refine r_aload_n hc dX9_many_19 rfl ?_
      refine r_get (v := .ref (ad 1)) hc iX9_many_X9 (Nat.lt_of_lt_of_le (by decide) hn) rfl rfl rfl 2 (by decide) fX9_many_7 rfl dX9_many_20 ?_
      refine r_iload_n hc dX9_many_23 rfl ?_
      refine r_iald hc (Nat.lt_of_lt_of_le (by decide) hn) rfl rfl h.1 dX9_many_24 ?_
      replace h := h.2
      refine r_icmp_ne (tgt := 32) hc dX9_many_25 (by decide) (fun hq1 => ?_) (fun hq1 => ?_)
      · replace h := h.1 hq1
        refine r_iconst (v := 1) hc dX9_many_28 (by decide) ?_
        refine r_goto (tgt := 42) hc dX9_many_29 (by decide) ?_
        exact e_i hc hr hlk h dX9_many_42
      · replace h := h.2 hq1
        refine r_aload_n hc dX9_many_32 rfl ?_
        refine r_get (v := .ref (ad 2)) hc iX9_many_X9 (Nat.lt_of_lt_of_le (by decide) hn) rfl rfl rfl 3 (by decide) fX9_many_13 rfl dX9_many_33 ?_
        refine r_iconst (v := 3) hc dX9_many_36 (by decide) ?_
        refine r_iload_n hc dX9_many_37 rfl ?_
        refine r_imul hc dX9_many_38 ?_
        refine r_iload_n hc dX9_many_39 rfl ?_
        refine r_iadd hc dX9_many_40 ?_
        refine r_iald hc (Nat.lt_of_lt_of_le (by decide) hn) rfl rfl h.1 dX9_many_41 ?_
        replace h := h.2
        exact e_i hc hr hlk h dX9_many_42
    · replace h := h.2 hq2
      refine r_iconst (v := 0) hc dX9_many_14 (by decide) ?_
      refine r_goto (tgt := 42) hc dX9_many_15 (by decide) ?_
      exact e_i hc hr hlk h dX9_many_42
theorem iX9_servesIt_X9 : ∀ w ∈ u_ws RX9 TX9 25, w ∈ wsX9_servesIt := by decide +kernel
theorem fX9_servesIt_64 : Cond.fieldLink RX9 64 (TX9 1).1 (TX9 1).2.1 (TX9 1).2.2.1 ∈ wsX9_servesIt := by decide +kernel
set_option maxHeartbeats 4000000 in
set_option maxRecDepth 100000 in
theorem tvX9_servesIt_L5 {cy : Nat → ClassId} {ad : Nat → Nat} {n : Nat} {D : va_G} {A : Nat → Prop} {l : Launch} {p : Program} {e : Env} {s : State} {m : MethodId} {args : Array Value} {below : List Frame} {meth : Method} {c : Code} {Q : Int32 → St → Prop} (hn : 17 ≤ n) (hc : CX p s m args c D cy cX9_servesIt 5 RX9 wsX9_servesIt) (hr : meth.sig.returnType = some .boolean) (hlk : meth.locks = false) : ∀ (q5 : Nat) (σ : St) (x1 : Int32) (x2 : Int32) (x3 : Int32) (x4 : Int32), vX9_servesIt_L5 Q q5 σ x1 x2 x3 x4 → WV TR cy ad n D A p l e rmX9_servesIt s m args below meth c 5 (MQ below (va_Qi Q (Bw TR cy ad n D) A) args s 0 0 A) σ [some (.ref (ad 0)), some (.int x1), some (.int x2), some (.int x3), some (.int x4)] [] 5 := by
  intro q5
  induction q5 with
  | zero =>
    intro σ x1 x2 x3 x4 h
    exact h.elim
  | succ q5 ih =>
    intro σ x1 x2 x3 x4 h
    unfold vX9_servesIt_L5 at h
    refine r_iload hc dX9_servesIt_5 rfl ?_
    refine r_aload_n hc dX9_servesIt_7 rfl ?_
    refine r_get (v := .int (rd σ 0 1)) hc iX9_servesIt_X9 (Nat.lt_of_lt_of_le (by decide) hn) rfl rfl rfl 1 (by decide) fX9_servesIt_64 rfl dX9_servesIt_8 ?_
    refine r_icmp_ge (tgt := 47) hc dX9_servesIt_11 (by decide) (fun hq7 => ?_) (fun hq7 => ?_)
    · replace h := h.1 hq7
      refine r_iload_n hc dX9_servesIt_47 rfl ?_
      exact e_z hc hr hlk h.1 h.2 dX9_servesIt_48
    · replace h := h.2 hq7
      refine r_iload_n hc dX9_servesIt_14 rfl ?_
      refine r_if_eq (tgt := 39) hc dX9_servesIt_15 (by decide) (fun hq6 => ?_) (fun hq6 => ?_)
      · replace h := h.1 hq6
        refine r_iconst (v := 0) hc dX9_servesIt_39 (by decide) ?_
        refine r_istore_n hc dX9_servesIt_40 rfl (by decide) (ss (ss (s1 trivial))) ?_
        refine r_iinc (v := x4 + 1) hc dX9_servesIt_41 rfl rfl (by decide) (ss (ss (ss (s1 trivial)))) ?_
        refine r_goto (tgt := 5) hc dX9_servesIt_44 (by decide) ?_
        exact r_weak (wk (wk (wk (wk (wk w0))))) (ih _ _ _ _ _ h)
      · replace h := h.2 hq6
        refine r_aload_n hc dX9_servesIt_18 rfl ?_
        refine r_iload_n hc dX9_servesIt_19 rfl ?_
        refine r_iload hc dX9_servesIt_20 rfl ?_
        refine r_callVi hc (zX9_levelIn hn σ x1 x4) h (Nat.lt_of_lt_of_le (by decide) hn) rfl rfl rfl (cwV 2 hc.2.2.2.2.1 gX9_servesIt_X9_levelIn rfl rfl rfl qX9_levelIn ⟨Nat.le_of_ble_eq_true rfl, Nat.le_of_ble_eq_true rfl⟩) rfl rfl (Nat.le_of_ble_eq_true rfl) dX9_servesIt_22 (fun r2 σ1 h => ?_)
        refine r_aload_n hc dX9_servesIt_25 rfl ?_
        refine r_iload_n hc dX9_servesIt_26 rfl ?_
        refine r_iload hc dX9_servesIt_27 rfl ?_
        refine r_callVi hc (zX9_levelIn hn σ1 x2 x4) h (Nat.lt_of_lt_of_le (by decide) hn) rfl rfl rfl (cwV 2 hc.2.2.2.2.1 gX9_servesIt_X9_levelIn rfl rfl rfl qX9_levelIn ⟨Nat.le_of_ble_eq_true rfl, Nat.le_of_ble_eq_true rfl⟩) rfl rfl (Nat.le_of_ble_eq_true rfl) dX9_servesIt_29 (fun r4 σ3 h => ?_)
        refine r_icmp_gt (tgt := 39) hc dX9_servesIt_32 (by decide) (fun hq5 => ?_) (fun hq5 => ?_)
        · replace h := h.1 hq5
          refine r_iconst (v := 0) hc dX9_servesIt_39 (by decide) ?_
          refine r_istore_n hc dX9_servesIt_40 rfl (by decide) (ss (ss (s1 trivial))) ?_
          refine r_iinc (v := x4 + 1) hc dX9_servesIt_41 rfl rfl (by decide) (ss (ss (ss (s1 trivial)))) ?_
          refine r_goto (tgt := 5) hc dX9_servesIt_44 (by decide) ?_
          exact r_weak (wk (wk (wk (wk (wk w0))))) (ih _ _ _ _ _ h)
        · replace h := h.2 hq5
          refine r_iconst (v := 1) hc dX9_servesIt_35 (by decide) ?_
          refine r_goto (tgt := 40) hc dX9_servesIt_36 (by decide) ?_
          refine r_istore_n hc dX9_servesIt_40 rfl (by decide) (ss (ss (s1 trivial))) ?_
          refine r_iinc (v := x4 + 1) hc dX9_servesIt_41 rfl rfl (by decide) (ss (ss (ss (s1 trivial)))) ?_
          refine r_goto (tgt := 5) hc dX9_servesIt_44 (by decide) ?_
          exact r_weak (wk (wk (wk (wk (wk w0))))) (ih _ _ _ _ _ h)
set_option maxHeartbeats 4000000 in
set_option maxRecDepth 100000 in
theorem zX9_servesIt {cy : Nat → ClassId} {ad : Nat → Nat} {n : Nat} {D : va_G} {A : Nat → Prop} {l : Launch} (hn : 17 ≤ n) (σ : St) (x1 : Int32) (x2 : Int32) : Ci TR cy ad n D A l yX9_servesIt wsX9_servesIt rmX9_servesIt σ [.ref (ad 0), .int x1, .int x2] (fun Q => vX9_servesIt Q σ x1 x2) := by
  intro Q h
  refine startW (cc := cX9_servesIt) (nL := 5) (own := RX9) (lo := [some (.ref (ad 0)), some (.int x1), some (.int x2), none, none]) (by decide) rfl rfl (lo_start (av := [.ref (ad 0), .int x1, .int x2]) (k := 2) (allc1_ok (l := [.ref (ad 0), .int x1, .int x2]) trivial)) (Nat.le_of_ble_eq_true rfl) (fun p e s m args below meth c hc hr hlk => ?_)
  unfold vX9_servesIt at h
  refine r_iconst (v := 1) hc dX9_servesIt_0 (by decide) ?_
  refine r_istore_n hc dX9_servesIt_1 rfl (by decide) (ss (ss (s1 trivial))) ?_
  refine r_iconst (v := 0) hc dX9_servesIt_2 (by decide) ?_
  refine r_istore hc dX9_servesIt_3 (by decide) (ss (ss (ss (s1 trivial)))) ?_
  obtain ⟨e5, h⟩ := h
  exact r_weak (wk (wk (wk (wk (wk w0))))) (tvX9_servesIt_L5 hn hc hr hlk e5 _ _ _ _ _ h)

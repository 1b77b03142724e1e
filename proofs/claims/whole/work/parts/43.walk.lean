theorem iX6_passes_X6 : ∀ w ∈ u_ws RX6 TX6 2, w ∈ wsX6_passes := by decide +kernel
theorem fX6_passes_18 : Cond.fieldLink RX6 18 (TX6 1).1 (TX6 1).2.1 (TX6 1).2.2.1 ∈ wsX6_passes := by decide +kernel
theorem fX6_passes_11 : Cond.fieldLink RX6 11 (TX6 0).1 (TX6 0).2.1 (TX6 0).2.2.1 ∈ wsX6_passes := by decide +kernel
set_option maxHeartbeats 4000000 in
set_option maxRecDepth 100000 in
theorem tvX6_passes_L2 {cy : Nat → ClassId} {ad : Nat → Nat} {n : Nat} {D : va_G} {A : Nat → Prop} {l : Launch} {p : Program} {e : Env} {s : State} {m : MethodId} {args : Array Value} {below : List Frame} {meth : Method} {c : Code} {Q : Int32 → St → Prop} (hn : 29 ≤ n) (hc : CX p s m args c D cy cX6_passes 3 RX6 wsX6_passes) (hr : meth.sig.returnType = some .boolean) (hlk : meth.locks = false) : ∀ (q2 : Nat) (σ : St) (x1 : Int32) (x2 : Int32), vX6_passes_L2 Q q2 σ x1 x2 → WV TC cy ad n D A p l e rmX6_passes s m args below meth c 3 (MQ below (va_Qi Q (Bw TC cy ad n D) A) args s 0 0 A) σ [some (.ref (ad 0)), some (.int x1), some (.int x2)] [] 2 := by
  intro q2
  induction q2 with
  | zero =>
    intro σ x1 x2 h
    exact h.elim
  | succ q2 ih =>
    intro σ x1 x2 h
    unfold vX6_passes_L2 at h
    refine r_iload_n hc dX6_passes_2 rfl ?_
    refine r_aload_n hc dX6_passes_3 rfl ?_
    refine r_get (v := .int (rd σ 0 1)) hc iX6_passes_X6 (Nat.lt_of_lt_of_le (by decide) hn) rfl rfl rfl 1 (by decide) fX6_passes_18 rfl dX6_passes_4 ?_
    refine r_icmp_ge (tgt := 36) hc dX6_passes_7 (by decide) (fun hq7 => ?_) (fun hq7 => ?_)
    · replace h := h.1 hq7
      refine r_iconst (v := 1) hc dX6_passes_36 (by decide) ?_
      exact e_z hc hr hlk (by decide) h dX6_passes_37
    · replace h := h.2 hq7
      refine r_aload_n hc dX6_passes_10 rfl ?_
      refine r_get (v := .ref (ad 1)) hc iX6_passes_X6 (Nat.lt_of_lt_of_le (by decide) hn) rfl rfl rfl 0 (by decide) fX6_passes_11 rfl dX6_passes_11 ?_
      refine r_iload_n hc dX6_passes_14 rfl ?_
      refine r_aald5 (q := 2 + 4 * x2.toNatClampNeg) hc (Nat.lt_of_lt_of_le (by decide) hn) rfl rfl h.1 rfl dX6_passes_15 ?_
      replace h := h.2
      refine r_aload_n hc dX6_passes_16 rfl ?_
      refine r_iload_n hc dX6_passes_17 rfl ?_
      refine r_iload_n hc dX6_passes_18 rfl ?_
      refine r_callVi hc (zX6_memberIn hn σ x1 x2) h (Nat.lt_of_lt_of_le (by decide) hn) rfl rfl rfl (cwV 2 hc.2.2.2.2.1 gX6_passes_X6_memberIn rfl rfl rfl qX6_memberIn ⟨Nat.le_of_ble_eq_true rfl, Nat.le_of_ble_eq_true rfl⟩) rfl rfl (Nat.le_of_ble_eq_true rfl) dX6_passes_19 (fun r2 σ1 h => ?_)
      have hd3 := h.1
      replace h := h.2
      refine r_callVi hc (zX1_passes hn hd3 σ1 r2) h (dm_lt0 hd3 hn) (dm_T hd3) (dm_L hd3) rfl (cwV 1 hc.2.2.2.2.1 gX6_passes_X1_passes rfl rfl rfl qX1_passes ⟨Nat.le_of_ble_eq_true rfl, Nat.le_of_ble_eq_true rfl⟩) rfl rfl (Nat.le_of_ble_eq_true rfl) dX6_passes_22 (fun r5 σ4 h => ?_)
      refine r_if_ne (tgt := 30) hc dX6_passes_25 (by decide) (fun hq6 => ?_) (fun hq6 => ?_)
      · replace h := h.1 hq6
        refine r_iconst (v := 0) hc dX6_passes_28 (by decide) ?_
        exact e_z hc hr hlk (by decide) h dX6_passes_29
      · replace h := h.2 hq6
        refine r_iinc (v := x2 + 1) hc dX6_passes_30 rfl rfl (by decide) (ss (s1 trivial)) ?_
        refine r_goto (tgt := 2) hc dX6_passes_33 (by decide) ?_
        exact r_weak (wk (wk (wk w0))) (ih _ _ _ h)
set_option maxHeartbeats 4000000 in
set_option maxRecDepth 100000 in
theorem zX6_passes {cy : Nat → ClassId} {ad : Nat → Nat} {n : Nat} {D : va_G} {A : Nat → Prop} {l : Launch} (hn : 29 ≤ n) (σ : St) (x1 : Int32) : Ci TC cy ad n D A l yX6_passes wsX6_passes rmX6_passes σ [.ref (ad 0), .int x1] (fun Q => vX6_passes Q σ x1) := by
  intro Q h
  refine startW (cc := cX6_passes) (nL := 3) (own := RX6) (lo := [some (.ref (ad 0)), some (.int x1), none]) (by decide) rfl rfl (lo_start (av := [.ref (ad 0), .int x1]) (k := 1) (allc1_ok (l := [.ref (ad 0), .int x1]) trivial)) (Nat.le_of_ble_eq_true rfl) (fun p e s m args below meth c hc hr hlk => ?_)
  unfold vX6_passes at h
  refine r_iconst (v := 0) hc dX6_passes_0 (by decide) ?_
  refine r_istore_n hc dX6_passes_1 rfl (by decide) (ss (s1 trivial)) ?_
  obtain ⟨e2, h⟩ := h
  exact r_weak (wk (wk (wk w0))) (tvX6_passes_L2 hn hc hr hlk e2 _ _ _ h)
set_option maxHeartbeats 4000000 in
set_option maxRecDepth 100000 in
theorem zX7_isPlace {cy : Nat → ClassId} {ad : Nat → Nat} {n : Nat} {D : va_G} {A : Nat → Prop} {l : Launch} (hn : 49 ≤ n) (σ : St) (x0 : Int32) : Ci TC cy ad n D A l yX7_isPlace wsX7_isPlace rmX7_isPlace σ [.int x0] (fun Q => vX7_isPlace Q σ x0) := by
  intro Q h
  refine startW (cc := cX7_isPlace) (nL := 1) (own := RX7) (lo := [some (.int x0)]) (by decide) rfl rfl (lo_start (av := [.int x0]) (k := 0) (allc1_ok (l := [.int x0]) trivial)) (Nat.le_of_ble_eq_true rfl) (fun p e s m args below meth c hc hr hlk => ?_)
  unfold vX7_isPlace at h
  refine r_iload_n hc dX7_isPlace_0 rfl ?_
  refine r_if_lt (tgt := 14) hc dX7_isPlace_1 (by decide) (fun hq2 => ?_) (fun hq2 => ?_)
  · replace h := h.1 hq2
    refine r_iconst (v := 0) hc dX7_isPlace_14 (by decide) ?_
    exact e_z hc hr hlk (by decide) h dX7_isPlace_15
  · replace h := h.2 hq2
    refine r_iload_n hc dX7_isPlace_4 rfl ?_
    refine r_bipush (v := 81) hc dX7_isPlace_5 (by decide) ?_
    refine r_icmp_ge (tgt := 14) hc dX7_isPlace_7 (by decide) (fun hq1 => ?_) (fun hq1 => ?_)
    · replace h := h.1 hq1
      refine r_iconst (v := 0) hc dX7_isPlace_14 (by decide) ?_
      exact e_z hc hr hlk (by decide) h dX7_isPlace_15
    · replace h := h.2 hq1
      refine r_iconst (v := 1) hc dX7_isPlace_10 (by decide) ?_
      refine r_goto (tgt := 15) hc dX7_isPlace_11 (by decide) ?_
      exact e_z hc hr hlk (by decide) h dX7_isPlace_15
theorem iX7_add_X7 : ∀ w ∈ u_ws RX7 TX7 4, w ∈ wsX7_add := by decide +kernel
theorem fX7_add_11 : Cond.fieldLink RX7 11 (TX7 0).1 (TX7 0).2.1 (TX7 0).2.2.1 ∈ wsX7_add := by decide +kernel
theorem fX7_add_15 : Cond.fieldLink RX7 15 (TX7 1).1 (TX7 1).2.1 (TX7 1).2.2.1 ∈ wsX7_add := by decide +kernel
theorem fX7_add_18 : Cond.fieldLink RX7 18 (TX7 2).1 (TX7 2).2.1 (TX7 2).2.2.1 ∈ wsX7_add := by decide +kernel
theorem mX7_add_34 : Cond.methodLink RX7 34 Lib.Math.min.name ∈ wsX7_add ∧ Cond.static Lib.Math.min.name ∈ wsX7_add ∧ Cond.initialized "java/lang/Math" ∈ wsX7_add ∧ Cond.code Lib.Math.min.name Lib.Math.min.code 2 (some .int) ∈ wsX7_add := ⟨by decide +kernel, by decide +kernel, by decide +kernel, by decide +kernel⟩
theorem fX7_add_21 : Cond.fieldLink RX7 21 (TX7 3).1 (TX7 3).2.1 (TX7 3).2.2.1 ∈ wsX7_add := by decide +kernel
theorem mX7_add_40 : Cond.methodLink RX7 40 Lib.Math.max.name ∈ wsX7_add ∧ Cond.static Lib.Math.max.name ∈ wsX7_add ∧ Cond.initialized "java/lang/Math" ∈ wsX7_add ∧ Cond.code Lib.Math.max.name Lib.Math.max.code 2 (some .int) ∈ wsX7_add := ⟨by decide +kernel, by decide +kernel, by decide +kernel, by decide +kernel⟩
set_option maxHeartbeats 4000000 in
set_option maxRecDepth 100000 in
theorem tvX7_add_J78 {cy : Nat → ClassId} {ad : Nat → Nat} {n : Nat} {D : va_G} {A : Nat → Prop} {l : Launch} {p : Program} {e : Env} {s : State} {m : MethodId} {args : Array Value} {below : List Frame} {meth : Method} {c : Code} {Q : St → Prop} (hn : 49 ≤ n) (hc : CX p s m args c D cy cX7_add 4 RX7 wsX7_add) (hr : meth.sig.returnType = none) (hlk : meth.locks = false) : ∀ (σ : St) (x1 : Int32) (x2 : Int32) (x3 : Int32) (y0 : Int32) (y1 : Int32), vX7_add_J78 Q σ x1 x2 x3 y0 y1 → WV TC cy ad n D A p l e rmX7_add s m args below meth c 4 (MQ below (va_Qv Q (Bw TC cy ad n D) A) args s 0 0 A) σ [some (.ref (ad 40)), some (.int x1), some (.int x2), some (.int x3)] [.int y0, .int y1, .ref (ad 43)] 78 := by
  intro σ x1 x2 x3 y0 y1 h
  unfold vX7_add_J78 at h
  refine r_iast hc (Nat.lt_of_lt_of_le (by decide) hn) rfl rfl h.1 dX7_add_78 ?_
  replace h := h.2
  refine r_aload_n hc dX7_add_79 rfl ?_
  refine r_get (v := .ref (ad 44)) hc iX7_add_X7 (Nat.lt_of_lt_of_le (by decide) hn) rfl rfl rfl 3 (by decide) fX7_add_21 rfl dX7_add_80 ?_
  refine r_iload_n hc dX7_add_83 rfl ?_
  refine r_iload_n hc dX7_add_84 rfl ?_
  refine r_if_eq (tgt := 92) hc dX7_add_85 (by decide) (fun hq8 => ?_) (fun hq8 => ?_)
  · replace h := h.1 hq8
    refine r_aload_n hc dX7_add_92 rfl ?_
    refine r_get (v := .ref (ad 44)) hc iX7_add_X7 (Nat.lt_of_lt_of_le (by decide) hn) rfl rfl rfl 3 (by decide) fX7_add_21 rfl dX7_add_93 ?_
    refine r_iload_n hc dX7_add_96 rfl ?_
    refine r_iald hc (Nat.lt_of_lt_of_le (by decide) hn) rfl rfl h.1 dX7_add_97 ?_
    replace h := h.2
    refine r_iload_n hc dX7_add_98 rfl ?_
    refine r_mmax hc mX7_add_40.1 mX7_add_40.2.1 mX7_add_40.2.2.1 mX7_add_40.2.2.2 (Nat.le_of_ble_eq_true rfl) (Nat.le_of_ble_eq_true rfl) dX7_add_99 ?_
    refine r_iast hc (Nat.lt_of_lt_of_le (by decide) hn) rfl rfl h.1 dX7_add_102 ?_
    replace h := h.2
    exact e_v hc hr hlk h dX7_add_103
  · replace h := h.2 hq8
    refine r_iload_n hc dX7_add_88 rfl ?_
    refine r_goto (tgt := 102) hc dX7_add_89 (by decide) ?_
    refine r_iast hc (Nat.lt_of_lt_of_le (by decide) hn) rfl rfl h.1 dX7_add_102 ?_
    replace h := h.2
    exact e_v hc hr hlk h dX7_add_103
set_option maxHeartbeats 4000000 in
set_option maxRecDepth 100000 in
theorem tvX7_add_J22 {cy : Nat → ClassId} {ad : Nat → Nat} {n : Nat} {D : va_G} {A : Nat → Prop} {l : Launch} {p : Program} {e : Env} {s : State} {m : MethodId} {args : Array Value} {below : List Frame} {meth : Method} {c : Code} {Q : St → Prop} (hn : 49 ≤ n) (hc : CX p s m args c D cy cX7_add 4 RX7 wsX7_add) (hr : meth.sig.returnType = none) (hlk : meth.locks = false) : ∀ (σ : St) (x1 : Int32) (x2 : Int32) (y0 : Int32), vX7_add_J22 Q σ x1 x2 y0 → WV TC cy ad n D A p l e rmX7_add s m args below meth c 4 (MQ below (va_Qv Q (Bw TC cy ad n D) A) args s 0 0 A) σ [some (.ref (ad 40)), some (.int x1), some (.int x2), none] [.int y0] 22 := by
  intro σ x1 x2 y0 h
  unfold vX7_add_J22 at h
  refine r_istore_n hc dX7_add_22 rfl (by decide) (ss (ss (s1 trivial))) ?_
  refine r_aload_n hc dX7_add_23 rfl ?_
  refine r_get (v := .ref (ad 41)) hc iX7_add_X7 (Nat.lt_of_lt_of_le (by decide) hn) rfl rfl rfl 0 (by decide) fX7_add_11 rfl dX7_add_24 ?_
  refine r_iload_n hc dX7_add_27 rfl ?_
  refine r_dup2 hc dX7_add_28 rfl rfl ?_
  refine r_iald hc (Nat.lt_of_lt_of_le (by decide) hn) rfl rfl h.1 dX7_add_29 ?_
  replace h := h.2
  refine r_iconst (v := 1) hc dX7_add_30 (by decide) ?_
  refine r_iadd hc dX7_add_31 ?_
  refine r_iast hc (Nat.lt_of_lt_of_le (by decide) hn) rfl rfl h.1 dX7_add_32 ?_
  replace h := h.2
  refine r_aload_n hc dX7_add_33 rfl ?_
  refine r_get (v := .ref (ad 42)) hc iX7_add_X7 (Nat.lt_of_lt_of_le (by decide) hn) rfl rfl rfl 1 (by decide) fX7_add_15 rfl dX7_add_34 ?_
  refine r_iload_n hc dX7_add_37 rfl ?_
  refine r_iload_n hc dX7_add_38 rfl ?_
  refine r_if_eq (tgt := 46) hc dX7_add_39 (by decide) (fun hq7 => ?_) (fun hq7 => ?_)
  · replace h := h.1 hq7
    refine r_aload_n hc dX7_add_46 rfl ?_
    refine r_get (v := .ref (ad 42)) hc iX7_add_X7 (Nat.lt_of_lt_of_le (by decide) hn) rfl rfl rfl 1 (by decide) fX7_add_15 rfl dX7_add_47 ?_
    refine r_iload_n hc dX7_add_50 rfl ?_
    refine r_iald hc (Nat.lt_of_lt_of_le (by decide) hn) rfl rfl h.1 dX7_add_51 ?_
    replace h := h.2
    refine r_iload_n hc dX7_add_52 rfl ?_
    refine r_iadd hc dX7_add_53 ?_
    refine r_iast hc (Nat.lt_of_lt_of_le (by decide) hn) rfl rfl h.1 dX7_add_54 ?_
    replace h := h.2
    refine r_aload_n hc dX7_add_55 rfl ?_
    refine r_get (v := .ref (ad 43)) hc iX7_add_X7 (Nat.lt_of_lt_of_le (by decide) hn) rfl rfl rfl 2 (by decide) fX7_add_18 rfl dX7_add_56 ?_
    refine r_iload_n hc dX7_add_59 rfl ?_
    refine r_iload_n hc dX7_add_60 rfl ?_
    refine r_if_eq (tgt := 68) hc dX7_add_61 (by decide) (fun hq5 => ?_) (fun hq5 => ?_)
    · replace h := h.1 hq5
      refine r_aload_n hc dX7_add_68 rfl ?_
      refine r_get (v := .ref (ad 43)) hc iX7_add_X7 (Nat.lt_of_lt_of_le (by decide) hn) rfl rfl rfl 2 (by decide) fX7_add_18 rfl dX7_add_69 ?_
      refine r_iload_n hc dX7_add_72 rfl ?_
      refine r_iald hc (Nat.lt_of_lt_of_le (by decide) hn) rfl rfl h.1 dX7_add_73 ?_
      replace h := h.2
      refine r_iload_n hc dX7_add_74 rfl ?_
      refine r_mmin hc mX7_add_34.1 mX7_add_34.2.1 mX7_add_34.2.2.1 mX7_add_34.2.2.2 (Nat.le_of_ble_eq_true rfl) (Nat.le_of_ble_eq_true rfl) dX7_add_75 ?_
      exact r_weak (wk (wk (wk (wk w0)))) (tvX7_add_J78 hn hc hr hlk _ _ _ _ _ _ h)
    · replace h := h.2 hq5
      refine r_iload_n hc dX7_add_64 rfl ?_
      refine r_goto (tgt := 78) hc dX7_add_65 (by decide) ?_
      exact r_weak (wk (wk (wk (wk w0)))) (tvX7_add_J78 hn hc hr hlk _ _ _ _ _ _ h)
  · replace h := h.2 hq7
    refine r_iload_n hc dX7_add_42 rfl ?_
    refine r_goto (tgt := 54) hc dX7_add_43 (by decide) ?_
    refine r_iast hc (Nat.lt_of_lt_of_le (by decide) hn) rfl rfl h.1 dX7_add_54 ?_
    replace h := h.2
    refine r_aload_n hc dX7_add_55 rfl ?_
    refine r_get (v := .ref (ad 43)) hc iX7_add_X7 (Nat.lt_of_lt_of_le (by decide) hn) rfl rfl rfl 2 (by decide) fX7_add_18 rfl dX7_add_56 ?_
    refine r_iload_n hc dX7_add_59 rfl ?_
    refine r_iload_n hc dX7_add_60 rfl ?_
    refine r_if_eq (tgt := 68) hc dX7_add_61 (by decide) (fun hq6 => ?_) (fun hq6 => ?_)
    · replace h := h.1 hq6
      refine r_aload_n hc dX7_add_68 rfl ?_
      refine r_get (v := .ref (ad 43)) hc iX7_add_X7 (Nat.lt_of_lt_of_le (by decide) hn) rfl rfl rfl 2 (by decide) fX7_add_18 rfl dX7_add_69 ?_
      refine r_iload_n hc dX7_add_72 rfl ?_
      refine r_iald hc (Nat.lt_of_lt_of_le (by decide) hn) rfl rfl h.1 dX7_add_73 ?_
      replace h := h.2
      refine r_iload_n hc dX7_add_74 rfl ?_
      refine r_mmin hc mX7_add_34.1 mX7_add_34.2.1 mX7_add_34.2.2.1 mX7_add_34.2.2.2 (Nat.le_of_ble_eq_true rfl) (Nat.le_of_ble_eq_true rfl) dX7_add_75 ?_
      exact r_weak (wk (wk (wk (wk w0)))) (tvX7_add_J78 hn hc hr hlk _ _ _ _ _ _ h)
    · replace h := h.2 hq6
      refine r_iload_n hc dX7_add_64 rfl ?_
      refine r_goto (tgt := 78) hc dX7_add_65 (by decide) ?_
      exact r_weak (wk (wk (wk (wk w0)))) (tvX7_add_J78 hn hc hr hlk _ _ _ _ _ _ h)
set_option maxHeartbeats 4000000 in
set_option maxRecDepth 100000 in
theorem zX7_add {cy : Nat → ClassId} {ad : Nat → Nat} {n : Nat} {D : va_G} {A : Nat → Prop} {l : Launch} (hn : 49 ≤ n) (σ : St) (x1 : Int32) (x2 : Int32) : Cv TC cy ad n D A l yX7_add wsX7_add rmX7_add σ [.ref (ad 40), .int x1, .int x2] (fun Q => vX7_add Q σ x1 x2) := by
  intro Q h
  refine startW (cc := cX7_add) (nL := 4) (own := RX7) (lo := [some (.ref (ad 40)), some (.int x1), some (.int x2), none]) (by decide) rfl rfl (lo_start (av := [.ref (ad 40), .int x1, .int x2]) (k := 1) (allc1_ok (l := [.ref (ad 40), .int x1, .int x2]) trivial)) (Nat.le_of_ble_eq_true rfl) (fun p e s m args below meth c hc hr hlk => ?_)
  unfold vX7_add at h
  refine r_iload_n hc dX7_add_0 rfl ?_
  refine r_callSi hc (zX7_isPlace hn σ x1) h (va_cwS 1 hc.2.2.2.2.1 gX7_add_X7_isPlace rfl rfl rfl qX7_isPlace ⟨Nat.le_of_ble_eq_true rfl, Nat.le_of_ble_eq_true rfl⟩) rfl rfl (Nat.le_of_ble_eq_true rfl) dX7_add_1 (fun r2 σ1 h => ?_)
  refine r_if_ne (tgt := 8) hc dX7_add_4 (by decide) (fun hq4 => ?_) (fun hq4 => ?_)
  · replace h := h.1 hq4
    exact e_v hc hr hlk h dX7_add_7
  · replace h := h.2 hq4
    refine r_aload_n hc dX7_add_8 rfl ?_
    refine r_get (v := .ref (ad 41)) hc iX7_add_X7 (Nat.lt_of_lt_of_le (by decide) hn) rfl rfl rfl 0 (by decide) fX7_add_11 rfl dX7_add_9 ?_
    refine r_iload_n hc dX7_add_12 rfl ?_
    refine r_iald hc (Nat.lt_of_lt_of_le (by decide) hn) rfl rfl h.1 dX7_add_13 ?_
    replace h := h.2
    refine r_if_ne (tgt := 21) hc dX7_add_14 (by decide) (fun hq3 => ?_) (fun hq3 => ?_)
    · replace h := h.1 hq3
      refine r_iconst (v := 1) hc dX7_add_17 (by decide) ?_
      refine r_goto (tgt := 22) hc dX7_add_18 (by decide) ?_
      exact r_weak (wk (wk (wk (wn w0)))) (tvX7_add_J22 hn hc hr hlk _ _ _ _ h)
    · replace h := h.2 hq3
      refine r_iconst (v := 0) hc dX7_add_21 (by decide) ?_
      exact r_weak (wk (wk (wk (wn w0)))) (tvX7_add_J22 hn hc hr hlk _ _ _ _ h)
set_option maxHeartbeats 4000000 in
set_option maxRecDepth 100000 in
theorem zX7_placeOf {cy : Nat → ClassId} {ad : Nat → Nat} {n : Nat} {D : va_G} {A : Nat → Prop} {l : Launch} (hn : 49 ≤ n) (σ : St) (x0 : Int32) (x1 : Int32) : Ci TC cy ad n D A l yX7_placeOf wsX7_placeOf rmX7_placeOf σ [.int x0, .int x1] (fun Q => vX7_placeOf Q σ x0 x1) := by
  intro Q h
  refine startW (cc := cX7_placeOf) (nL := 2) (own := RX7) (lo := [some (.int x0), some (.int x1)]) (by decide) rfl rfl (lo_start (av := [.int x0, .int x1]) (k := 0) (allc1_ok (l := [.int x0, .int x1]) trivial)) (Nat.le_of_ble_eq_true rfl) (fun p e s m args below meth c hc hr hlk => ?_)
  unfold vX7_placeOf at h
  refine r_iload_n hc dX7_placeOf_0 rfl ?_
  refine r_bipush (v := 9) hc dX7_placeOf_1 (by decide) ?_
  refine r_imul hc dX7_placeOf_3 ?_
  refine r_iload_n hc dX7_placeOf_4 rfl ?_
  refine r_iadd hc dX7_placeOf_5 ?_
  exact e_i hc hr hlk h dX7_placeOf_6
set_option maxHeartbeats 4000000 in
set_option maxRecDepth 100000 in
theorem zX7_addToCross {cy : Nat → ClassId} {ad : Nat → Nat} {n : Nat} {D : va_G} {A : Nat → Prop} {l : Launch} (hn : 49 ≤ n) (σ : St) (x1 : Int32) (x2 : Int32) (x3 : Int32) : Cv TC cy ad n D A l yX7_addToCross wsX7_addToCross rmX7_addToCross σ [.ref (ad 40), .int x1, .int x2, .int x3] (fun Q => vX7_addToCross Q σ x1 x2 x3) := by
  intro Q h
  refine startW (cc := cX7_addToCross) (nL := 4) (own := RX7) (lo := [some (.ref (ad 40)), some (.int x1), some (.int x2), some (.int x3)]) (by decide) rfl rfl (lo_start (av := [.ref (ad 40), .int x1, .int x2, .int x3]) (k := 0) (allc1_ok (l := [.ref (ad 40), .int x1, .int x2, .int x3]) trivial)) (Nat.le_of_ble_eq_true rfl) (fun p e s m args below meth c hc hr hlk => ?_)
  unfold vX7_addToCross at h
  refine r_aload_n hc dX7_addToCross_0 rfl ?_
  refine r_iload_n hc dX7_addToCross_1 rfl ?_
  refine r_iload_n hc dX7_addToCross_2 rfl ?_
  refine r_callSi hc (zX7_placeOf hn σ x1 x2) h (va_cwS 2 hc.2.2.2.2.1 gX7_addToCross_X7_placeOf rfl rfl rfl qX7_placeOf ⟨Nat.le_of_ble_eq_true rfl, Nat.le_of_ble_eq_true rfl⟩) rfl rfl (Nat.le_of_ble_eq_true rfl) dX7_addToCross_3 (fun r2 σ1 h => ?_)
  refine r_iload_n hc dX7_addToCross_6 rfl ?_
  refine r_callVv hc (zX7_add hn σ1 r2 x3) h (Nat.lt_of_lt_of_le (by decide) hn) rfl rfl rfl (cwV 2 hc.2.2.2.2.1 gX7_addToCross_X7_add rfl rfl rfl qX7_add ⟨Nat.le_of_ble_eq_true rfl, Nat.le_of_ble_eq_true rfl⟩) rfl rfl (Nat.le_of_ble_eq_true rfl) dX7_addToCross_7 (fun σ3 h => ?_)
  refine r_aload_n hc dX7_addToCross_10 rfl ?_
  refine r_iload_n hc dX7_addToCross_11 rfl ?_
  refine r_bipush (v := 8) hc dX7_addToCross_12 (by decide) ?_
  refine r_callSi hc (zX7_placeOf hn σ3 x1 8) h (va_cwS 2 hc.2.2.2.2.1 gX7_addToCross_X7_placeOf rfl rfl rfl qX7_placeOf ⟨Nat.le_of_ble_eq_true rfl, Nat.le_of_ble_eq_true rfl⟩) rfl rfl (Nat.le_of_ble_eq_true rfl) dX7_addToCross_14 (fun r5 σ4 h => ?_)
  refine r_iload_n hc dX7_addToCross_17 rfl ?_
  refine r_callVv hc (zX7_add hn σ4 r5 x3) h (Nat.lt_of_lt_of_le (by decide) hn) rfl rfl rfl (cwV 2 hc.2.2.2.2.1 gX7_addToCross_X7_add rfl rfl rfl qX7_add ⟨Nat.le_of_ble_eq_true rfl, Nat.le_of_ble_eq_true rfl⟩) rfl rfl (Nat.le_of_ble_eq_true rfl) dX7_addToCross_18 (fun σ6 h => ?_)
  refine r_aload_n hc dX7_addToCross_21 rfl ?_
  refine r_bipush (v := 8) hc dX7_addToCross_22 (by decide) ?_
  refine r_iload_n hc dX7_addToCross_24 rfl ?_
  refine r_callSi hc (zX7_placeOf hn σ6 8 x2) h (va_cwS 2 hc.2.2.2.2.1 gX7_addToCross_X7_placeOf rfl rfl rfl qX7_placeOf ⟨Nat.le_of_ble_eq_true rfl, Nat.le_of_ble_eq_true rfl⟩) rfl rfl (Nat.le_of_ble_eq_true rfl) dX7_addToCross_25 (fun r8 σ7 h => ?_)
  refine r_iload_n hc dX7_addToCross_28 rfl ?_
  refine r_callVv hc (zX7_add hn σ7 r8 x3) h (Nat.lt_of_lt_of_le (by decide) hn) rfl rfl rfl (cwV 2 hc.2.2.2.2.1 gX7_addToCross_X7_add rfl rfl rfl qX7_add ⟨Nat.le_of_ble_eq_true rfl, Nat.le_of_ble_eq_true rfl⟩) rfl rfl (Nat.le_of_ble_eq_true rfl) dX7_addToCross_29 (fun σ9 h => ?_)
  refine r_aload_n hc dX7_addToCross_32 rfl ?_
  refine r_bipush (v := 8) hc dX7_addToCross_33 (by decide) ?_
  refine r_bipush (v := 8) hc dX7_addToCross_35 (by decide) ?_
  refine r_callSi hc (zX7_placeOf hn σ9 8 8) h (va_cwS 2 hc.2.2.2.2.1 gX7_addToCross_X7_placeOf rfl rfl rfl qX7_placeOf ⟨Nat.le_of_ble_eq_true rfl, Nat.le_of_ble_eq_true rfl⟩) rfl rfl (Nat.le_of_ble_eq_true rfl) dX7_addToCross_37 (fun r11 σ10 h => ?_)
  refine r_iload_n hc dX7_addToCross_40 rfl ?_
  refine r_callVv hc (zX7_add hn σ10 r11 x3) h (Nat.lt_of_lt_of_le (by decide) hn) rfl rfl rfl (cwV 2 hc.2.2.2.2.1 gX7_addToCross_X7_add rfl rfl rfl qX7_add ⟨Nat.le_of_ble_eq_true rfl, Nat.le_of_ble_eq_true rfl⟩) rfl rfl (Nat.le_of_ble_eq_true rfl) dX7_addToCross_41 (fun σ12 h => ?_)
  exact e_v hc hr hlk h dX7_addToCross_44
theorem iX7_clear_X7 : ∀ w ∈ u_ws RX7 TX7 4, w ∈ wsX7_clear := by decide +kernel
theorem fX7_clear_11 : Cond.fieldLink RX7 11 (TX7 0).1 (TX7 0).2.1 (TX7 0).2.2.1 ∈ wsX7_clear := by decide +kernel
set_option maxHeartbeats 4000000 in
set_option maxRecDepth 100000 in
theorem zX7_clear {cy : Nat → ClassId} {ad : Nat → Nat} {n : Nat} {D : va_G} {A : Nat → Prop} {l : Launch} (hn : 49 ≤ n) (σ : St) : Cv TC cy ad n D A l yX7_clear wsX7_clear rmX7_clear σ [.ref (ad 40)] (fun Q => vX7_clear Q σ ) := by
  intro Q h
  refine startW (cc := cX7_clear) (nL := 1) (own := RX7) (lo := [some (.ref (ad 40))]) (by decide) rfl rfl (lo_start (av := [.ref (ad 40)]) (k := 0) (allc1_ok (l := [.ref (ad 40)]) trivial)) (Nat.le_of_ble_eq_true rfl) (fun p e s m args below meth c hc hr hlk => ?_)
  unfold vX7_clear at h
  refine r_aload_n hc dX7_clear_0 rfl ?_
  refine r_get (v := .ref (ad 41)) hc iX7_clear_X7 (Nat.lt_of_lt_of_le (by decide) hn) rfl rfl rfl 0 (by decide) fX7_clear_11 rfl dX7_clear_1 ?_
  refine r_iconst (v := 0) hc dX7_clear_4 (by decide) ?_
  refine r_callSv hc (zJ7_fill_53178 (b := 49) hn σ 41 0) h (va_cwS 2 hc.2.2.2.2.1 gX7_clear_J7_fill_53178 rfl rfl rfl qJ7_fill_53178 ⟨Nat.le_of_ble_eq_true rfl, Nat.le_of_ble_eq_true rfl⟩) rfl rfl (Nat.le_of_ble_eq_true rfl) dX7_clear_5 (fun σ1 h => ?_)
  exact e_v hc hr hlk h dX7_clear_8
theorem iX7_isEmpty_X7 : ∀ w ∈ u_ws RX7 TX7 4, w ∈ wsX7_isEmpty := by decide +kernel
theorem fX7_isEmpty_11 : Cond.fieldLink RX7 11 (TX7 0).1 (TX7 0).2.1 (TX7 0).2.2.1 ∈ wsX7_isEmpty := by decide +kernel
set_option maxHeartbeats 4000000 in
set_option maxRecDepth 100000 in
theorem zX7_isEmpty {cy : Nat → ClassId} {ad : Nat → Nat} {n : Nat} {D : va_G} {A : Nat → Prop} {l : Launch} (hn : 49 ≤ n) (σ : St) (x1 : Int32) : Ci TC cy ad n D A l yX7_isEmpty wsX7_isEmpty rmX7_isEmpty σ [.ref (ad 40), .int x1] (fun Q => vX7_isEmpty Q σ x1) := by
  intro Q h
  refine startW (cc := cX7_isEmpty) (nL := 2) (own := RX7) (lo := [some (.ref (ad 40)), some (.int x1)]) (by decide) rfl rfl (lo_start (av := [.ref (ad 40), .int x1]) (k := 0) (allc1_ok (l := [.ref (ad 40), .int x1]) trivial)) (Nat.le_of_ble_eq_true rfl) (fun p e s m args below meth c hc hr hlk => ?_)
  unfold vX7_isEmpty at h
  refine r_iload_n hc dX7_isEmpty_0 rfl ?_
  refine r_callSi hc (zX7_isPlace hn σ x1) h (va_cwS 1 hc.2.2.2.2.1 gX7_isEmpty_X7_isPlace rfl rfl rfl qX7_isPlace ⟨Nat.le_of_ble_eq_true rfl, Nat.le_of_ble_eq_true rfl⟩) rfl rfl (Nat.le_of_ble_eq_true rfl) dX7_isEmpty_1 (fun r2 σ1 h => ?_)
  refine r_if_eq (tgt := 16) hc dX7_isEmpty_4 (by decide) (fun hq4 => ?_) (fun hq4 => ?_)
  · replace h := h.1 hq4
    refine r_iconst (v := 1) hc dX7_isEmpty_16 (by decide) ?_
    refine r_goto (tgt := 21) hc dX7_isEmpty_17 (by decide) ?_
    exact e_z hc hr hlk (by decide) h dX7_isEmpty_21
  · replace h := h.2 hq4
    refine r_aload_n hc dX7_isEmpty_7 rfl ?_
    refine r_get (v := .ref (ad 41)) hc iX7_isEmpty_X7 (Nat.lt_of_lt_of_le (by decide) hn) rfl rfl rfl 0 (by decide) fX7_isEmpty_11 rfl dX7_isEmpty_8 ?_
    refine r_iload_n hc dX7_isEmpty_11 rfl ?_
    refine r_iald hc (Nat.lt_of_lt_of_le (by decide) hn) rfl rfl h.1 dX7_isEmpty_12 ?_
    replace h := h.2
    refine r_if_ne (tgt := 20) hc dX7_isEmpty_13 (by decide) (fun hq3 => ?_) (fun hq3 => ?_)
    · replace h := h.1 hq3
      refine r_iconst (v := 1) hc dX7_isEmpty_16 (by decide) ?_
      refine r_goto (tgt := 21) hc dX7_isEmpty_17 (by decide) ?_
      exact e_z hc hr hlk (by decide) h dX7_isEmpty_21
    · replace h := h.2 hq3
      refine r_iconst (v := 0) hc dX7_isEmpty_20 (by decide) ?_
      exact e_z hc hr hlk (by decide) h dX7_isEmpty_21
theorem iX7_valueOf_X7 : ∀ w ∈ u_ws RX7 TX7 4, w ∈ wsX7_valueOf := by decide +kernel
theorem fX7_valueOf_11 : Cond.fieldLink RX7 11 (TX7 0).1 (TX7 0).2.1 (TX7 0).2.2.1 ∈ wsX7_valueOf := by decide +kernel
theorem fX7_valueOf_15 : Cond.fieldLink RX7 15 (TX7 1).1 (TX7 1).2.1 (TX7 1).2.2.1 ∈ wsX7_valueOf := by decide +kernel
theorem fX7_valueOf_18 : Cond.fieldLink RX7 18 (TX7 2).1 (TX7 2).2.1 (TX7 2).2.2.1 ∈ wsX7_valueOf := by decide +kernel
theorem fX7_valueOf_21 : Cond.fieldLink RX7 21 (TX7 3).1 (TX7 3).2.1 (TX7 3).2.2.1 ∈ wsX7_valueOf := by decide +kernel
set_option maxHeartbeats 4000000 in
set_option maxRecDepth 100000 in
theorem zX7_valueOf {cy : Nat → ClassId} {ad : Nat → Nat} {n : Nat} {D : va_G} {A : Nat → Prop} {l : Launch} (hn : 49 ≤ n) (σ : St) (x1 : Int32) (x2 : Int32) : Ci TC cy ad n D A l yX7_valueOf wsX7_valueOf rmX7_valueOf σ [.ref (ad 40), .int x1, .int x2] (fun Q => vX7_valueOf Q σ x1 x2) := by
  intro Q h
  refine startW (cc := cX7_valueOf) (nL := 3) (own := RX7) (lo := [some (.ref (ad 40)), some (.int x1), some (.int x2)]) (by decide) rfl rfl (lo_start (av := [.ref (ad 40), .int x1, .int x2]) (k := 0) (allc1_ok (l := [.ref (ad 40), .int x1, .int x2]) trivial)) (Nat.le_of_ble_eq_true rfl) (fun p e s m args below meth c hc hr hlk => ?_)
  unfold vX7_valueOf at h
  refine r_iload_n hc dX7_valueOf_0 rfl ?_
  refine r_callSi hc (zX7_isPlace hn σ x1) h (va_cwS 1 hc.2.2.2.2.1 gX7_valueOf_X7_isPlace rfl rfl rfl qX7_isPlace ⟨Nat.le_of_ble_eq_true rfl, Nat.le_of_ble_eq_true rfl⟩) rfl rfl (Nat.le_of_ble_eq_true rfl) dX7_valueOf_1 (fun r2 σ1 h => ?_)
  refine r_if_ne (tgt := 9) hc dX7_valueOf_4 (by decide) (fun hq6 => ?_) (fun hq6 => ?_)
  · replace h := h.1 hq6
    refine r_iconst (v := 0) hc dX7_valueOf_7 (by decide) ?_
    exact e_i hc hr hlk h dX7_valueOf_8
  · replace h := h.2 hq6
    refine r_iload_n hc dX7_valueOf_9 rfl ?_
    by_cases hq3 : x2 = 0
    · replace h := h.1 hq3
      refine r_tabIn (tgt := 36) hc dX7_valueOf_10 (by rw [hq3]; decide) (by rw [hq3]; decide) (by rw [hq3]; rfl) (by decide) ?_
      refine r_aload_n hc dX7_valueOf_36 rfl ?_
      refine r_get (v := .ref (ad 41)) hc iX7_valueOf_X7 (Nat.lt_of_lt_of_le (by decide) hn) rfl rfl rfl 0 (by decide) fX7_valueOf_11 rfl dX7_valueOf_37 ?_
      refine r_iload_n hc dX7_valueOf_40 rfl ?_
      refine r_iald hc (Nat.lt_of_lt_of_le (by decide) hn) rfl rfl h.1 dX7_valueOf_41 ?_
      replace h := h.2
      exact e_i hc hr hlk h dX7_valueOf_42
    · replace h := h.2 hq3
      by_cases hq4 : x2 = 1
      · replace h := h.1 hq4
        refine r_tabIn (tgt := 43) hc dX7_valueOf_10 (by rw [hq4]; decide) (by rw [hq4]; decide) (by rw [hq4]; rfl) (by decide) ?_
        refine r_aload_n hc dX7_valueOf_43 rfl ?_
        refine r_get (v := .ref (ad 42)) hc iX7_valueOf_X7 (Nat.lt_of_lt_of_le (by decide) hn) rfl rfl rfl 1 (by decide) fX7_valueOf_15 rfl dX7_valueOf_44 ?_
        refine r_iload_n hc dX7_valueOf_47 rfl ?_
        refine r_iald hc (Nat.lt_of_lt_of_le (by decide) hn) rfl rfl h.1 dX7_valueOf_48 ?_
        replace h := h.2
        exact e_i hc hr hlk h dX7_valueOf_49
      · replace h := h.2 hq4
        by_cases hq5 : x2 = 2
        · replace h := h.1 hq5
          refine r_tabIn (tgt := 50) hc dX7_valueOf_10 (by rw [hq5]; decide) (by rw [hq5]; decide) (by rw [hq5]; rfl) (by decide) ?_
          refine r_aload_n hc dX7_valueOf_50 rfl ?_
          refine r_get (v := .ref (ad 43)) hc iX7_valueOf_X7 (Nat.lt_of_lt_of_le (by decide) hn) rfl rfl rfl 2 (by decide) fX7_valueOf_18 rfl dX7_valueOf_51 ?_
          refine r_iload_n hc dX7_valueOf_54 rfl ?_
          refine r_iald hc (Nat.lt_of_lt_of_le (by decide) hn) rfl rfl h.1 dX7_valueOf_55 ?_
          replace h := h.2
          exact e_i hc hr hlk h dX7_valueOf_56
        · replace h := h.2 hq5
          replace hq3 := i32ne hq3
          replace hq4 := i32ne hq4
          replace hq5 := i32ne hq5
          refine r_tabOut (tgt := 57) hc dX7_valueOf_10 (by rw [show (((0 : Int32)).toInt) = 0 by decide] at hq3; rw [show (((1 : Int32)).toInt) = 1 by decide] at hq4; rw [show (((2 : Int32)).toInt) = 2 by decide] at hq5; omega) (by decide) ?_
          refine r_aload_n hc dX7_valueOf_57 rfl ?_
          refine r_get (v := .ref (ad 44)) hc iX7_valueOf_X7 (Nat.lt_of_lt_of_le (by decide) hn) rfl rfl rfl 3 (by decide) fX7_valueOf_21 rfl dX7_valueOf_58 ?_
          refine r_iload_n hc dX7_valueOf_61 rfl ?_
          refine r_iald hc (Nat.lt_of_lt_of_le (by decide) hn) rfl rfl h.1 dX7_valueOf_62 ?_
          replace h := h.2
          exact e_i hc hr hlk h dX7_valueOf_63
set_option maxHeartbeats 4000000 in
set_option maxRecDepth 100000 in
theorem zX8_isValue {cy : Nat → ClassId} {ad : Nat → Nat} {n : Nat} {D : va_G} {A : Nat → Prop} {l : Launch} (hn : 49 ≤ n) (σ : St) (x0 : Int32) : Ci TC cy ad n D A l yX8_isValue wsX8_isValue rmX8_isValue σ [.int x0] (fun Q => vX8_isValue Q σ x0) := by
  intro Q h
  refine startW (cc := cX8_isValue) (nL := 1) (own := RX8) (lo := [some (.int x0)]) (by decide) rfl rfl (lo_start (av := [.int x0]) (k := 0) (allc1_ok (l := [.int x0]) trivial)) (Nat.le_of_ble_eq_true rfl) (fun p e s m args below meth c hc hr hlk => ?_)
  unfold vX8_isValue at h
  refine r_iload_n hc dX8_isValue_0 rfl ?_
  refine r_if_lt (tgt := 13) hc dX8_isValue_1 (by decide) (fun hq2 => ?_) (fun hq2 => ?_)
  · replace h := h.1 hq2
    refine r_iconst (v := 0) hc dX8_isValue_13 (by decide) ?_
    exact e_z hc hr hlk (by decide) h dX8_isValue_14
  · replace h := h.2 hq2
    refine r_iload_n hc dX8_isValue_4 rfl ?_
    refine r_iconst (v := 3) hc dX8_isValue_5 (by decide) ?_
    refine r_icmp_gt (tgt := 13) hc dX8_isValue_6 (by decide) (fun hq1 => ?_) (fun hq1 => ?_)
    · replace h := h.1 hq1
      refine r_iconst (v := 0) hc dX8_isValue_13 (by decide) ?_
      exact e_z hc hr hlk (by decide) h dX8_isValue_14
    · replace h := h.2 hq1
      refine r_iconst (v := 1) hc dX8_isValue_9 (by decide) ?_
      refine r_goto (tgt := 14) hc dX8_isValue_10 (by decide) ?_
      exact e_z hc hr hlk (by decide) h dX8_isValue_14
theorem iX8_tallyGroup_X8 : ∀ w ∈ u_ws RX8 TX8 8, w ∈ wsX8_tallyGroup := by decide +kernel
theorem fX8_tallyGroup_44 : Cond.fieldLink RX8 44 (TX8 4).1 (TX8 4).2.1 (TX8 4).2.2.1 ∈ wsX8_tallyGroup := by decide +kernel
theorem fX8_tallyGroup_19 : Cond.fieldLink RX8 19 (TX8 1).1 (TX8 1).2.1 (TX8 1).2.2.1 ∈ wsX8_tallyGroup := by decide +kernel
theorem iX8_tallyGroup_X2 : ∀ w ∈ u_ws RX2 TX2 5, w ∈ wsX8_tallyGroup := by decide +kernel
theorem fX8_tallyGroup_64 : (RX8, 64, (TX2 3).1, (TX2 3).2.1, (TX2 3).2.2.1, "CubeDesk") ∈ nestF := by decide +kernel
theorem fX8_tallyGroup_12 : Cond.fieldLink RX8 12 (TX8 0).1 (TX8 0).2.1 (TX8 0).2.2.1 ∈ wsX8_tallyGroup := by decide +kernel
set_option maxHeartbeats 4000000 in
set_option maxRecDepth 100000 in
theorem tvX8_tallyGroup_L9 {cy : Nat → ClassId} {ad : Nat → Nat} {n : Nat} {D : va_G} {A : Nat → Prop} {l : Launch} {p : Program} {e : Env} {s : State} {m : MethodId} {args : Array Value} {below : List Frame} {meth : Method} {c : Code} {Q : St → Prop} (hn : 49 ≤ n) (hc : CX p s m args c D cy cX8_tallyGroup 4 RX8 wsX8_tallyGroup) (hr : meth.sig.returnType = none) (hlk : meth.locks = false) : ∀ (q9 : Nat) (σ : St) (x1 : Int32) (x2 : Int32) (x3 : Int32), vX8_tallyGroup_L9 Q q9 σ x1 x2 x3 → WV TC cy ad n D A p l e rmX8_tallyGroup s m args below meth c 4 (MQ below (va_Qv Q (Bw TC cy ad n D) A) args s 0 0 A) σ [some (.ref (ad 48)), some (.int x1), some (.int x2), some (.int x3)] [] 9 := by
  intro q9
  induction q9 with
  | zero =>
    intro σ x1 x2 x3 h
    exact h.elim
  | succ q9 ih =>
    intro σ x1 x2 x3 h
    unfold vX8_tallyGroup_L9 at h
    refine r_iload_n hc dX8_tallyGroup_9 rfl ?_
    refine r_aload_n hc dX8_tallyGroup_10 rfl ?_
    refine r_get (v := .ref (ad 18)) hc iX8_tallyGroup_X8 (Nat.lt_of_lt_of_le (by decide) hn) rfl rfl rfl 1 (by decide) fX8_tallyGroup_19 rfl dX8_tallyGroup_11 ?_
    refine r_getN (v := .int (rd σ 18 3)) hc iX8_tallyGroup_X2 (Nat.lt_of_lt_of_le (by decide) hn) rfl rfl rfl 3 (by decide) fX8_tallyGroup_64 rfl dX8_tallyGroup_14 ?_
    refine r_icmp_ge (tgt := 73) hc dX8_tallyGroup_17 (by decide) (fun hq13 => ?_) (fun hq13 => ?_)
    · replace h := h.1 hq13
      exact e_v hc hr hlk h dX8_tallyGroup_73
    · replace h := h.2 hq13
      refine r_aload_n hc dX8_tallyGroup_20 rfl ?_
      refine r_get (v := .ref (ad 18)) hc iX8_tallyGroup_X8 (Nat.lt_of_lt_of_le (by decide) hn) rfl rfl rfl 1 (by decide) fX8_tallyGroup_19 rfl dX8_tallyGroup_21 ?_
      refine r_iload_n hc dX8_tallyGroup_24 rfl ?_
      refine r_callVi hc (zX2_isThere (Nat.le_trans (by decide) hn) σ x3) h (Nat.lt_of_lt_of_le (by decide) hn) rfl rfl rfl (cwV 1 hc.2.2.2.2.1 gX8_tallyGroup_X2_isThere rfl rfl rfl qX2_isThere ⟨Nat.le_of_ble_eq_true rfl, Nat.le_of_ble_eq_true rfl⟩) rfl rfl (Nat.le_of_ble_eq_true rfl) dX8_tallyGroup_25 (fun r3 σ2 h => ?_)
      refine r_if_eq (tgt := 67) hc dX8_tallyGroup_28 (by decide) (fun hq12 => ?_) (fun hq12 => ?_)
      · replace h := h.1 hq12
        refine r_iinc (v := x3 + 1) hc dX8_tallyGroup_67 rfl rfl (by decide) (ss (ss (s1 trivial))) ?_
        refine r_goto (tgt := 9) hc dX8_tallyGroup_70 (by decide) ?_
        exact r_weak (wk (wk (wk (wk w0)))) (ih _ _ _ _ h)
      · replace h := h.2 hq12
        refine r_aload_n hc dX8_tallyGroup_31 rfl ?_
        refine r_get (v := .ref (ad 0)) hc iX8_tallyGroup_X8 (Nat.lt_of_lt_of_le (by decide) hn) rfl rfl rfl 0 (by decide) fX8_tallyGroup_12 rfl dX8_tallyGroup_32 ?_
        refine r_aload_n hc dX8_tallyGroup_35 rfl ?_
        refine r_get (v := .ref (ad 18)) hc iX8_tallyGroup_X8 (Nat.lt_of_lt_of_le (by decide) hn) rfl rfl rfl 1 (by decide) fX8_tallyGroup_19 rfl dX8_tallyGroup_36 ?_
        refine r_iload_n hc dX8_tallyGroup_39 rfl ?_
        refine r_callVi hc (zX2_cellOf (Nat.le_trans (by decide) hn) σ2 x3) h (Nat.lt_of_lt_of_le (by decide) hn) rfl rfl rfl (cwV 1 hc.2.2.2.2.1 gX8_tallyGroup_X2_cellOf rfl rfl rfl qX2_cellOf ⟨Nat.le_of_ble_eq_true rfl, Nat.le_of_ble_eq_true rfl⟩) rfl rfl (Nat.le_of_ble_eq_true rfl) dX8_tallyGroup_40 (fun r5 σ4 h => ?_)
        refine r_iload_n hc dX8_tallyGroup_43 rfl ?_
        refine r_callVi hc (zX6_groupOf (Nat.le_trans (by decide) hn) σ4 r5 x1) h (Nat.lt_of_lt_of_le (by decide) hn) rfl rfl rfl (cwV 2 hc.2.2.2.2.1 gX8_tallyGroup_X6_groupOf rfl rfl rfl qX6_groupOf ⟨Nat.le_of_ble_eq_true rfl, Nat.le_of_ble_eq_true rfl⟩) rfl rfl (Nat.le_of_ble_eq_true rfl) dX8_tallyGroup_44 (fun r7 σ6 h => ?_)
        refine r_iload_n hc dX8_tallyGroup_47 rfl ?_
        refine r_icmp_ne (tgt := 67) hc dX8_tallyGroup_48 (by decide) (fun hq11 => ?_) (fun hq11 => ?_)
        · replace h := h.1 hq11
          refine r_aload_n hc dX8_tallyGroup_51 rfl ?_
          refine r_get (v := .ref (ad 40)) hc iX8_tallyGroup_X8 (Nat.lt_of_lt_of_le (by decide) hn) rfl rfl rfl 4 (by decide) fX8_tallyGroup_44 rfl dX8_tallyGroup_52 ?_
          refine r_iconst (v := 0) hc dX8_tallyGroup_55 (by decide) ?_
          refine r_aload_n hc dX8_tallyGroup_56 rfl ?_
          refine r_get (v := .ref (ad 18)) hc iX8_tallyGroup_X8 (Nat.lt_of_lt_of_le (by decide) hn) rfl rfl rfl 1 (by decide) fX8_tallyGroup_19 rfl dX8_tallyGroup_57 ?_
          refine r_iload_n hc dX8_tallyGroup_60 rfl ?_
          refine r_callVi hc (zX2_measureOf (Nat.le_trans (by decide) hn) σ6 x3) h (Nat.lt_of_lt_of_le (by decide) hn) rfl rfl rfl (cwV 1 hc.2.2.2.2.1 gX8_tallyGroup_X2_measureOf rfl rfl rfl qX2_measureOf ⟨Nat.le_of_ble_eq_true rfl, Nat.le_of_ble_eq_true rfl⟩) rfl rfl (Nat.le_of_ble_eq_true rfl) dX8_tallyGroup_61 (fun r9 σ8 h => ?_)
          refine r_callVv hc (zX7_add hn σ8 0 r9) h (Nat.lt_of_lt_of_le (by decide) hn) rfl rfl rfl (cwV 2 hc.2.2.2.2.1 gX8_tallyGroup_X7_add rfl rfl rfl qX7_add ⟨Nat.le_of_ble_eq_true rfl, Nat.le_of_ble_eq_true rfl⟩) rfl rfl (Nat.le_of_ble_eq_true rfl) dX8_tallyGroup_64 (fun σ10 h => ?_)
          refine r_iinc (v := x3 + 1) hc dX8_tallyGroup_67 rfl rfl (by decide) (ss (ss (s1 trivial))) ?_
          refine r_goto (tgt := 9) hc dX8_tallyGroup_70 (by decide) ?_
          exact r_weak (wk (wk (wk (wk w0)))) (ih _ _ _ _ h)
        · replace h := h.2 hq11
          refine r_iinc (v := x3 + 1) hc dX8_tallyGroup_67 rfl rfl (by decide) (ss (ss (s1 trivial))) ?_
          refine r_goto (tgt := 9) hc dX8_tallyGroup_70 (by decide) ?_
          exact r_weak (wk (wk (wk (wk w0)))) (ih _ _ _ _ h)
set_option maxHeartbeats 4000000 in
set_option maxRecDepth 100000 in
theorem zX8_tallyGroup {cy : Nat → ClassId} {ad : Nat → Nat} {n : Nat} {D : va_G} {A : Nat → Prop} {l : Launch} (hn : 49 ≤ n) (σ : St) (x1 : Int32) (x2 : Int32) : Cv TC cy ad n D A l yX8_tallyGroup wsX8_tallyGroup rmX8_tallyGroup σ [.ref (ad 48), .int x1, .int x2] (fun Q => vX8_tallyGroup Q σ x1 x2) := by
  intro Q h
  refine startW (cc := cX8_tallyGroup) (nL := 4) (own := RX8) (lo := [some (.ref (ad 48)), some (.int x1), some (.int x2), none]) (by decide) rfl rfl (lo_start (av := [.ref (ad 48), .int x1, .int x2]) (k := 1) (allc1_ok (l := [.ref (ad 48), .int x1, .int x2]) trivial)) (Nat.le_of_ble_eq_true rfl) (fun p e s m args below meth c hc hr hlk => ?_)
  unfold vX8_tallyGroup at h
  refine r_aload_n hc dX8_tallyGroup_0 rfl ?_
  refine r_get (v := .ref (ad 40)) hc iX8_tallyGroup_X8 (Nat.lt_of_lt_of_le (by decide) hn) rfl rfl rfl 4 (by decide) fX8_tallyGroup_44 rfl dX8_tallyGroup_1 ?_
  refine r_callVv hc (zX7_clear hn σ) h (Nat.lt_of_lt_of_le (by decide) hn) rfl rfl rfl (cwV 0 hc.2.2.2.2.1 gX8_tallyGroup_X7_clear rfl rfl rfl qX7_clear ⟨Nat.le_of_ble_eq_true rfl, Nat.le_of_ble_eq_true rfl⟩) rfl rfl (Nat.le_of_ble_eq_true rfl) dX8_tallyGroup_4 (fun σ1 h => ?_)
  refine r_iconst (v := 0) hc dX8_tallyGroup_7 (by decide) ?_
  refine r_istore_n hc dX8_tallyGroup_8 rfl (by decide) (ss (ss (s1 trivial))) ?_
  obtain ⟨e9, h⟩ := h
  exact r_weak (wk (wk (wk (wk w0)))) (tvX8_tallyGroup_L9 hn hc hr hlk e9 _ _ _ _ h)
theorem iX8_ask_X8 : ∀ w ∈ u_ws RX8 TX8 8, w ∈ wsX8_ask := by decide +kernel
theorem fX8_ask_28 : Cond.fieldLink RX8 28 (TX8 2).1 (TX8 2).2.1 (TX8 2).2.2.1 ∈ wsX8_ask := by decide +kernel
theorem oX8_ask_63 : Jvm.Cond.constant RX8 63 (-2000000002) ∈ wsX8_ask := by decide +kernel
theorem fX8_ask_12 : Cond.fieldLink RX8 12 (TX8 0).1 (TX8 0).2.1 (TX8 0).2.2.1 ∈ wsX8_ask := by decide +kernel
theorem fX8_ask_55 : Cond.fieldLink RX8 55 (TX8 6).1 (TX8 6).2.1 (TX8 6).2.2.1 ∈ wsX8_ask := by decide +kernel
theorem fX8_ask_59 : Cond.fieldLink RX8 59 (TX8 7).1 (TX8 7).2.1 (TX8 7).2.2.1 ∈ wsX8_ask := by decide +kernel
theorem fX8_ask_44 : Cond.fieldLink RX8 44 (TX8 4).1 (TX8 4).2.1 (TX8 4).2.2.1 ∈ wsX8_ask := by decide +kernel
theorem oX8_ask_176 : Jvm.Cond.constant RX8 176 (-2000000001) ∈ wsX8_ask := by decide +kernel
set_option maxHeartbeats 4000000 in
set_option maxRecDepth 100000 in
theorem zX8_ask {cy : Nat → ClassId} {ad : Nat → Nat} {n : Nat} {D : va_G} {A : Nat → Prop} {l : Launch} (hn : 49 ≤ n) (σ : St) (x1 : Int32) (x2 : Int32) : Ci TC cy ad n D A l yX8_ask wsX8_ask rmX8_ask σ [.ref (ad 48), .int x1, .int x2] (fun Q => vX8_ask Q σ x1 x2) := by
  intro Q h
  refine startW (cc := cX8_ask) (nL := 5) (own := RX8) (lo := [some (.ref (ad 48)), some (.int x1), some (.int x2), none, none]) (by decide) rfl rfl (lo_start (av := [.ref (ad 48), .int x1, .int x2]) (k := 2) (allc1_ok (l := [.ref (ad 48), .int x1, .int x2]) trivial)) (Nat.le_of_ble_eq_true rfl) (fun p e s m args below meth c hc hr hlk => ?_)
  unfold vX8_ask at h
  refine r_aload_n hc dX8_ask_0 rfl ?_
  refine r_get (v := .ref (ad 22)) hc iX8_ask_X8 (Nat.lt_of_lt_of_le (by decide) hn) rfl rfl rfl 2 (by decide) fX8_ask_28 rfl dX8_ask_1 ?_
  refine r_iload_n hc dX8_ask_4 rfl ?_
  refine r_callVi hc (zX4_has hn σ x1) h (Nat.lt_of_lt_of_le (by decide) hn) rfl rfl rfl (cwV 1 hc.2.2.2.2.1 gX8_ask_X4_has rfl rfl rfl qX4_has ⟨Nat.le_of_ble_eq_true rfl, Nat.le_of_ble_eq_true rfl⟩) rfl rfl (Nat.le_of_ble_eq_true rfl) dX8_ask_5 (fun r2 σ1 h => ?_)
  refine r_if_eq (tgt := 18) hc dX8_ask_8 (by decide) (fun hq19 => ?_) (fun hq19 => ?_)
  · replace h := h.1 hq19
    refine r_ldc (v := (-2000000002)) hc dX8_ask_18 oX8_ask_63 ?_
    exact e_i hc hr hlk h dX8_ask_20
  · replace h := h.2 hq19
    refine r_iload_n hc dX8_ask_11 rfl ?_
    refine r_callSi hc (zX8_isValue hn σ1 x2) h (va_cwS 1 hc.2.2.2.2.1 gX8_ask_X8_isValue rfl rfl rfl qX8_isValue ⟨Nat.le_of_ble_eq_true rfl, Nat.le_of_ble_eq_true rfl⟩) rfl rfl (Nat.le_of_ble_eq_true rfl) dX8_ask_12 (fun r4 σ3 h => ?_)
    refine r_if_ne (tgt := 21) hc dX8_ask_15 (by decide) (fun hq18 => ?_) (fun hq18 => ?_)
    · replace h := h.1 hq18
      refine r_ldc (v := (-2000000002)) hc dX8_ask_18 oX8_ask_63 ?_
      exact e_i hc hr hlk h dX8_ask_20
    · replace h := h.2 hq18
      refine r_aload_n hc dX8_ask_21 rfl ?_
      refine r_get (v := .ref (ad 22)) hc iX8_ask_X8 (Nat.lt_of_lt_of_le (by decide) hn) rfl rfl rfl 2 (by decide) fX8_ask_28 rfl dX8_ask_22 ?_
      refine r_iload_n hc dX8_ask_25 rfl ?_
      refine r_callVi hc (zX4_levelsOf hn σ3 x1) h (Nat.lt_of_lt_of_le (by decide) hn) rfl rfl rfl (cwV 1 hc.2.2.2.2.1 gX8_ask_X4_levelsOf rfl rfl rfl qX4_levelsOf ⟨Nat.le_of_ble_eq_true rfl, Nat.le_of_ble_eq_true rfl⟩) rfl rfl (Nat.le_of_ble_eq_true rfl) dX8_ask_26 (fun r6 σ5 h => ?_)
      refine r_istore_n hc dX8_ask_29 rfl (by decide) (ss (ss (s1 trivial))) ?_
      refine r_aload_n hc dX8_ask_30 rfl ?_
      refine r_get (v := .ref (ad 0)) hc iX8_ask_X8 (Nat.lt_of_lt_of_le (by decide) hn) rfl rfl rfl 0 (by decide) fX8_ask_12 rfl dX8_ask_31 ?_
      refine r_aload_n hc dX8_ask_34 rfl ?_
      refine r_get (v := .ref (ad 47)) hc iX8_ask_X8 (Nat.lt_of_lt_of_le (by decide) hn) rfl rfl rfl 6 (by decide) fX8_ask_55 rfl dX8_ask_35 ?_
      refine r_iload_n hc dX8_ask_38 rfl ?_
      refine r_callVi hc (zX6_pack hn σ5 47 r6) h (Nat.lt_of_lt_of_le (by decide) hn) rfl rfl rfl (cwV 2 hc.2.2.2.2.1 gX8_ask_X6_pack rfl rfl rfl qX6_pack ⟨Nat.le_of_ble_eq_true rfl, Nat.le_of_ble_eq_true rfl⟩) rfl rfl (Nat.le_of_ble_eq_true rfl) dX8_ask_39 (fun r8 σ7 h => ?_)
      refine r_istore hc dX8_ask_42 (by decide) (ss (ss (ss (s1 trivial)))) ?_
      refine r_iload hc dX8_ask_44 rfl ?_
      refine r_if_ge (tgt := 52) hc dX8_ask_46 (by decide) (fun hq17 => ?_) (fun hq17 => ?_)
      · replace h := h.1 hq17
        refine r_aload_n hc dX8_ask_52 rfl ?_
        refine r_dup hc dX8_ask_53 rfl ?_
        refine r_get (v := .int (rd σ7 48 7)) hc iX8_ask_X8 (Nat.lt_of_lt_of_le (by decide) hn) rfl rfl rfl 7 (by decide) fX8_ask_59 rfl dX8_ask_54 ?_
        refine r_aload_n hc dX8_ask_57 rfl ?_
        refine r_get (v := .ref (ad 22)) hc iX8_ask_X8 (Nat.lt_of_lt_of_le (by decide) hn) rfl rfl rfl 2 (by decide) fX8_ask_28 rfl dX8_ask_58 ?_
        refine r_iload_n hc dX8_ask_61 rfl ?_
        refine r_callVi hc (zX4_costOf hn σ7 x1) h (Nat.lt_of_lt_of_le (by decide) hn) rfl rfl rfl (cwV 1 hc.2.2.2.2.1 gX8_ask_X4_costOf rfl rfl rfl qX4_costOf ⟨Nat.le_of_ble_eq_true rfl, Nat.le_of_ble_eq_true rfl⟩) rfl rfl (Nat.le_of_ble_eq_true rfl) dX8_ask_62 (fun r10 σ9 h => ?_)
        refine r_iadd hc dX8_ask_65 ?_
        refine r_put hc iX8_ask_X8 tyX8_ok nmX8 (Nat.lt_of_lt_of_le (by decide) hn) rfl rfl rfl 7 (by decide) (Nat.le_of_ble_eq_true rfl) fX8_ask_59 rfl (by decide +kernel) rfl dX8_ask_66 ?_
        refine r_aload_n hc dX8_ask_69 rfl ?_
        refine r_iload_n hc dX8_ask_70 rfl ?_
        refine r_iload hc dX8_ask_71 rfl ?_
        refine r_callVv hc (zX8_tallyGroup hn (wr σ9 48 7 ((rd σ7 48 7) + r10)) r6 r8) h (Nat.lt_of_lt_of_le (by decide) hn) rfl rfl rfl (cwV 2 hc.2.2.2.2.1 gX8_ask_X8_tallyGroup rfl rfl rfl qX8_tallyGroup ⟨Nat.le_of_ble_eq_true rfl, Nat.le_of_ble_eq_true rfl⟩) rfl rfl (Nat.le_of_ble_eq_true rfl) dX8_ask_73 (fun σ11 h => ?_)
        refine r_aload_n hc dX8_ask_76 rfl ?_
        refine r_get (v := .ref (ad 40)) hc iX8_ask_X8 (Nat.lt_of_lt_of_le (by decide) hn) rfl rfl rfl 4 (by decide) fX8_ask_44 rfl dX8_ask_77 ?_
        refine r_iconst (v := 0) hc dX8_ask_80 (by decide) ?_
        refine r_callVi hc (zX7_isEmpty hn σ11 0) h (Nat.lt_of_lt_of_le (by decide) hn) rfl rfl rfl (cwV 1 hc.2.2.2.2.1 gX8_ask_X7_isEmpty rfl rfl rfl qX7_isEmpty ⟨Nat.le_of_ble_eq_true rfl, Nat.le_of_ble_eq_true rfl⟩) rfl rfl (Nat.le_of_ble_eq_true rfl) dX8_ask_81 (fun r13 σ12 h => ?_)
        refine r_if_eq (tgt := 92) hc dX8_ask_84 (by decide) (fun hq16 => ?_) (fun hq16 => ?_)
        · replace h := h.1 hq16
          refine r_aload_n hc dX8_ask_92 rfl ?_
          refine r_get (v := .ref (ad 40)) hc iX8_ask_X8 (Nat.lt_of_lt_of_le (by decide) hn) rfl rfl rfl 4 (by decide) fX8_ask_44 rfl dX8_ask_93 ?_
          refine r_iconst (v := 0) hc dX8_ask_96 (by decide) ?_
          refine r_iload_n hc dX8_ask_97 rfl ?_
          refine r_callVi hc (zX7_valueOf hn σ12 0 x2) h (Nat.lt_of_lt_of_le (by decide) hn) rfl rfl rfl (cwV 2 hc.2.2.2.2.1 gX8_ask_X7_valueOf rfl rfl rfl qX7_valueOf ⟨Nat.le_of_ble_eq_true rfl, Nat.le_of_ble_eq_true rfl⟩) rfl rfl (Nat.le_of_ble_eq_true rfl) dX8_ask_98 (fun r15 σ14 h => ?_)
          exact e_i hc hr hlk h dX8_ask_101
        · replace h := h.2 hq16
          refine r_ldc (v := (-2000000001)) hc dX8_ask_87 oX8_ask_176 ?_
          refine r_goto (tgt := 101) hc dX8_ask_89 (by decide) ?_
          exact e_i hc hr hlk h dX8_ask_101
      · replace h := h.2 hq17
        refine r_ldc (v := (-2000000002)) hc dX8_ask_49 oX8_ask_63 ?_
        exact e_i hc hr hlk h dX8_ask_51
theorem oX8_best_63 : Jvm.Cond.constant RX8 63 (-2000000002) ∈ wsX8_best := by decide +kernel
theorem iX8_best_X8 : ∀ w ∈ u_ws RX8 TX8 8, w ∈ wsX8_best := by decide +kernel
theorem fX8_best_28 : Cond.fieldLink RX8 28 (TX8 2).1 (TX8 2).2.1 (TX8 2).2.2.1 ∈ wsX8_best := by decide +kernel
theorem iX8_best_X4 : ∀ w ∈ u_ws RX4 TX4 8, w ∈ wsX8_best := by decide +kernel
theorem fX8_best_126 : (RX8, 126, (TX4 7).1, (TX4 7).2.1, (TX4 7).2.2.1, "CubeDesk") ∈ nestF := by decide +kernel
theorem fX8_best_37 : Cond.fieldLink RX8 37 (TX8 3).1 (TX8 3).2.1 (TX8 3).2.2.1 ∈ wsX8_best := by decide +kernel
theorem oX8_best_67 : Jvm.Cond.constant RX8 67 (-2000000003) ∈ wsX8_best := by decide +kernel
set_option maxHeartbeats 4000000 in
set_option maxRecDepth 100000 in
theorem zX8_best {cy : Nat → ClassId} {ad : Nat → Nat} {n : Nat} {D : va_G} {A : Nat → Prop} {l : Launch} (hn : 49 ≤ n) (σ : St) (x1 : Int32) : Ci TC cy ad n D A l yX8_best wsX8_best rmX8_best σ [.ref (ad 48), .int x1] (fun Q => vX8_best Q σ x1) := by
  intro Q h
  refine startW (cc := cX8_best) (nL := 2) (own := RX8) (lo := [some (.ref (ad 48)), some (.int x1)]) (by decide) rfl rfl (lo_start (av := [.ref (ad 48), .int x1]) (k := 0) (allc1_ok (l := [.ref (ad 48), .int x1]) trivial)) (Nat.le_of_ble_eq_true rfl) (fun p e s m args below meth c hc hr hlk => ?_)
  unfold vX8_best at h
  refine r_iload_n hc dX8_best_0 rfl ?_
  refine r_if_lt (tgt := 9) hc dX8_best_1 (by decide) (fun hq5 => ?_) (fun hq5 => ?_)
  · replace h := h.1 hq5
    refine r_ldc (v := (-2000000002)) hc dX8_best_9 oX8_best_63 ?_
    exact e_i hc hr hlk h dX8_best_11
  · replace h := h.2 hq5
    refine r_iload_n hc dX8_best_4 rfl ?_
    refine r_iconst (v := 3) hc dX8_best_5 (by decide) ?_
    refine r_icmp_le (tgt := 12) hc dX8_best_6 (by decide) (fun hq4 => ?_) (fun hq4 => ?_)
    · replace h := h.1 hq4
      refine r_aload_n hc dX8_best_12 rfl ?_
      refine r_get (v := .ref (ad 22)) hc iX8_best_X8 (Nat.lt_of_lt_of_le (by decide) hn) rfl rfl rfl 2 (by decide) fX8_best_28 rfl dX8_best_13 ?_
      refine r_getN (v := .int (rd σ 22 7)) hc iX8_best_X4 (Nat.lt_of_lt_of_le (by decide) hn) rfl rfl rfl 7 (by decide) fX8_best_126 rfl dX8_best_16 ?_
      refine r_bipush (v := 64) hc dX8_best_19 (by decide) ?_
      refine r_icmp_le (tgt := 27) hc dX8_best_21 (by decide) (fun hq3 => ?_) (fun hq3 => ?_)
      · replace h := h.1 hq3
        refine r_aload_n hc dX8_best_27 rfl ?_
        refine r_get (v := .ref (ad 29)) hc iX8_best_X8 (Nat.lt_of_lt_of_le (by decide) hn) rfl rfl rfl 3 (by decide) fX8_best_37 rfl dX8_best_28 ?_
        refine r_iload_n hc dX8_best_31 rfl ?_
        refine r_callVi hc (zX0_greatestGain hn σ x1) h (Nat.lt_of_lt_of_le (by decide) hn) rfl rfl rfl (cwV 1 hc.2.2.2.2.1 gX8_best_X0_greatestGain rfl rfl rfl qX0_greatestGain ⟨Nat.le_of_ble_eq_true rfl, Nat.le_of_ble_eq_true rfl⟩) rfl rfl (Nat.le_of_ble_eq_true rfl) dX8_best_32 (fun r2 σ1 h => ?_)
        exact e_i hc hr hlk h dX8_best_35
      · replace h := h.2 hq3
        refine r_ldc (v := (-2000000003)) hc dX8_best_24 oX8_best_67 ?_
        exact e_i hc hr hlk h dX8_best_26
    · replace h := h.2 hq4
      refine r_ldc (v := (-2000000002)) hc dX8_best_9 oX8_best_63 ?_
      exact e_i hc hr hlk h dX8_best_11
theorem oX8_choose_63 : Jvm.Cond.constant RX8 63 (-2000000002) ∈ wsX8_choose := by decide +kernel
theorem iX8_choose_X8 : ∀ w ∈ u_ws RX8 TX8 8, w ∈ wsX8_choose := by decide +kernel
theorem fX8_choose_28 : Cond.fieldLink RX8 28 (TX8 2).1 (TX8 2).2.1 (TX8 2).2.2.1 ∈ wsX8_choose := by decide +kernel
set_option maxHeartbeats 4000000 in
set_option maxRecDepth 100000 in
theorem zX8_choose {cy : Nat → ClassId} {ad : Nat → Nat} {n : Nat} {D : va_G} {A : Nat → Prop} {l : Launch} (hn : 49 ≤ n) (σ : St) (x1 : Int32) : Ci TC cy ad n D A l yX8_choose wsX8_choose rmX8_choose σ [.ref (ad 48), .int x1] (fun Q => vX8_choose Q σ x1) := by
  intro Q h
  refine startW (cc := cX8_choose) (nL := 2) (own := RX8) (lo := [some (.ref (ad 48)), some (.int x1)]) (by decide) rfl rfl (lo_start (av := [.ref (ad 48), .int x1]) (k := 0) (allc1_ok (l := [.ref (ad 48), .int x1]) trivial)) (Nat.le_of_ble_eq_true rfl) (fun p e s m args below meth c hc hr hlk => ?_)
  unfold vX8_choose at h
  refine r_iload_n hc dX8_choose_0 rfl ?_
  refine r_if_lt (tgt := 10) hc dX8_choose_1 (by decide) (fun hq4 => ?_) (fun hq4 => ?_)
  · replace h := h.1 hq4
    refine r_ldc (v := (-2000000002)) hc dX8_choose_10 oX8_choose_63 ?_
    exact e_i hc hr hlk h dX8_choose_12
  · replace h := h.2 hq4
    refine r_iload_n hc dX8_choose_4 rfl ?_
    refine r_bipush (v := 8) hc dX8_choose_5 (by decide) ?_
    refine r_icmp_le (tgt := 13) hc dX8_choose_7 (by decide) (fun hq3 => ?_) (fun hq3 => ?_)
    · replace h := h.1 hq3
      refine r_aload_n hc dX8_choose_13 rfl ?_
      refine r_get (v := .ref (ad 22)) hc iX8_choose_X8 (Nat.lt_of_lt_of_le (by decide) hn) rfl rfl rfl 2 (by decide) fX8_choose_28 rfl dX8_choose_14 ?_
      refine r_iload_n hc dX8_choose_17 rfl ?_
      refine r_callVi hc (zX4_chooseGreedily hn σ x1) h (Nat.lt_of_lt_of_le (by decide) hn) rfl rfl rfl (cwV 1 hc.2.2.2.2.1 gX8_choose_X4_chooseGreedily rfl rfl rfl qX4_chooseGreedily ⟨Nat.le_of_ble_eq_true rfl, Nat.le_of_ble_eq_true rfl⟩) rfl rfl (Nat.le_of_ble_eq_true rfl) dX8_choose_18 (fun r2 σ1 h => ?_)
      exact e_i hc hr hlk h dX8_choose_21
    · replace h := h.2 hq3
      refine r_ldc (v := (-2000000002)) hc dX8_choose_10 oX8_choose_63 ?_
      exact e_i hc hr hlk h dX8_choose_12
theorem iX8_cost_X8 : ∀ w ∈ u_ws RX8 TX8 8, w ∈ wsX8_cost := by decide +kernel
theorem fX8_cost_28 : Cond.fieldLink RX8 28 (TX8 2).1 (TX8 2).2.1 (TX8 2).2.2.1 ∈ wsX8_cost := by decide +kernel
theorem oX8_cost_63 : Jvm.Cond.constant RX8 63 (-2000000002) ∈ wsX8_cost := by decide +kernel
set_option maxHeartbeats 4000000 in
set_option maxRecDepth 100000 in
theorem zX8_cost {cy : Nat → ClassId} {ad : Nat → Nat} {n : Nat} {D : va_G} {A : Nat → Prop} {l : Launch} (hn : 49 ≤ n) (σ : St) (x1 : Int32) : Ci TC cy ad n D A l yX8_cost wsX8_cost rmX8_cost σ [.ref (ad 48), .int x1] (fun Q => vX8_cost Q σ x1) := by
  intro Q h
  refine startW (cc := cX8_cost) (nL := 2) (own := RX8) (lo := [some (.ref (ad 48)), some (.int x1)]) (by decide) rfl rfl (lo_start (av := [.ref (ad 48), .int x1]) (k := 0) (allc1_ok (l := [.ref (ad 48), .int x1]) trivial)) (Nat.le_of_ble_eq_true rfl) (fun p e s m args below meth c hc hr hlk => ?_)
  unfold vX8_cost at h
  refine r_aload_n hc dX8_cost_0 rfl ?_
  refine r_get (v := .ref (ad 22)) hc iX8_cost_X8 (Nat.lt_of_lt_of_le (by decide) hn) rfl rfl rfl 2 (by decide) fX8_cost_28 rfl dX8_cost_1 ?_
  refine r_iload_n hc dX8_cost_4 rfl ?_
  refine r_callVi hc (zX4_has hn σ x1) h (Nat.lt_of_lt_of_le (by decide) hn) rfl rfl rfl (cwV 1 hc.2.2.2.2.1 gX8_cost_X4_has rfl rfl rfl qX4_has ⟨Nat.le_of_ble_eq_true rfl, Nat.le_of_ble_eq_true rfl⟩) rfl rfl (Nat.le_of_ble_eq_true rfl) dX8_cost_5 (fun r2 σ1 h => ?_)
  refine r_if_eq (tgt := 22) hc dX8_cost_8 (by decide) (fun hq5 => ?_) (fun hq5 => ?_)
  · replace h := h.1 hq5
    refine r_ldc (v := (-2000000002)) hc dX8_cost_22 oX8_cost_63 ?_
    exact e_i hc hr hlk h dX8_cost_24
  · replace h := h.2 hq5
    refine r_aload_n hc dX8_cost_11 rfl ?_
    refine r_get (v := .ref (ad 22)) hc iX8_cost_X8 (Nat.lt_of_lt_of_le (by decide) hn) rfl rfl rfl 2 (by decide) fX8_cost_28 rfl dX8_cost_12 ?_
    refine r_iload_n hc dX8_cost_15 rfl ?_
    refine r_callVi hc (zX4_costOf hn σ1 x1) h (Nat.lt_of_lt_of_le (by decide) hn) rfl rfl rfl (cwV 1 hc.2.2.2.2.1 gX8_cost_X4_costOf rfl rfl rfl qX4_costOf ⟨Nat.le_of_ble_eq_true rfl, Nat.le_of_ble_eq_true rfl⟩) rfl rfl (Nat.le_of_ble_eq_true rfl) dX8_cost_16 (fun r4 σ3 h => ?_)
    refine r_goto (tgt := 24) hc dX8_cost_19 (by decide) ?_
    exact e_i hc hr hlk h dX8_cost_24
theorem iX8_count_X8 : ∀ w ∈ u_ws RX8 TX8 8, w ∈ wsX8_count := by decide +kernel
theorem fX8_count_12 : Cond.fieldLink RX8 12 (TX8 0).1 (TX8 0).2.1 (TX8 0).2.2.1 ∈ wsX8_count := by decide +kernel
theorem iX8_count_X6 : ∀ w ∈ u_ws RX6 TX6 2, w ∈ wsX8_count := by decide +kernel
theorem fX8_count_68 : (RX8, 68, (TX6 1).1, (TX6 1).2.1, (TX6 1).2.2.1, "CubeDesk") ∈ nestF := by decide +kernel
theorem fX8_count_19 : Cond.fieldLink RX8 19 (TX8 1).1 (TX8 1).2.1 (TX8 1).2.2.1 ∈ wsX8_count := by decide +kernel
theorem iX8_count_X2 : ∀ w ∈ u_ws RX2 TX2 5, w ∈ wsX8_count := by decide +kernel
theorem fX8_count_64 : (RX8, 64, (TX2 3).1, (TX2 3).2.1, (TX2 3).2.2.1, "CubeDesk") ∈ nestF := by decide +kernel
theorem fX8_count_217 : (RX8, 217, (TX2 4).1, (TX2 4).2.1, (TX2 4).2.2.1, "CubeDesk") ∈ nestF := by decide +kernel
theorem fX8_count_28 : Cond.fieldLink RX8 28 (TX8 2).1 (TX8 2).2.1 (TX8 2).2.2.1 ∈ wsX8_count := by decide +kernel
theorem fX8_count_51 : Cond.fieldLink RX8 51 (TX8 5).1 (TX8 5).2.1 (TX8 5).2.2.1 ∈ wsX8_count := by decide +kernel
theorem iX8_count_X5 : ∀ w ∈ u_ws RX5 TX5 2, w ∈ wsX8_count := by decide +kernel
theorem fX8_count_211 : (RX8, 211, (TX5 1).1, (TX5 1).2.1, (TX5 1).2.2.1, "CubeDesk") ∈ nestF := by decide +kernel
theorem oX8_count_63 : Jvm.Cond.constant RX8 63 (-2000000002) ∈ wsX8_count := by decide +kernel
set_option maxHeartbeats 4000000 in
set_option maxRecDepth 100000 in
theorem zX8_count {cy : Nat → ClassId} {ad : Nat → Nat} {n : Nat} {D : va_G} {A : Nat → Prop} {l : Launch} (hn : 49 ≤ n) (σ : St) (x1 : Int32) : Ci TC cy ad n D A l yX8_count wsX8_count rmX8_count σ [.ref (ad 48), .int x1] (fun Q => vX8_count Q σ x1) := by
  intro Q h
  refine startW (cc := cX8_count) (nL := 2) (own := RX8) (lo := [some (.ref (ad 48)), some (.int x1)]) (by decide) rfl rfl (lo_start (av := [.ref (ad 48), .int x1]) (k := 0) (allc1_ok (l := [.ref (ad 48), .int x1]) trivial)) (Nat.le_of_ble_eq_true rfl) (fun p e s m args below meth c hc hr hlk => ?_)
  unfold vX8_count at h
  refine r_iload_n hc dX8_count_0 rfl ?_
  by_cases hq1 : x1 = 0
  · replace h := h.1 hq1
    refine r_tabIn (tgt := 40) hc dX8_count_1 (by rw [hq1]; decide) (by rw [hq1]; decide) (by rw [hq1]; rfl) (by decide) ?_
    refine r_aload_n hc dX8_count_40 rfl ?_
    refine r_get (v := .ref (ad 0)) hc iX8_count_X8 (Nat.lt_of_lt_of_le (by decide) hn) rfl rfl rfl 0 (by decide) fX8_count_12 rfl dX8_count_41 ?_
    refine r_getN (v := .int (rd σ 0 1)) hc iX8_count_X6 (Nat.lt_of_lt_of_le (by decide) hn) rfl rfl rfl 1 (by decide) fX8_count_68 rfl dX8_count_44 ?_
    exact e_i hc hr hlk h dX8_count_47
  · replace h := h.2 hq1
    by_cases hq2 : x1 = 1
    · replace h := h.1 hq2
      refine r_tabIn (tgt := 48) hc dX8_count_1 (by rw [hq2]; decide) (by rw [hq2]; decide) (by rw [hq2]; rfl) (by decide) ?_
      refine r_aload_n hc dX8_count_48 rfl ?_
      refine r_get (v := .ref (ad 18)) hc iX8_count_X8 (Nat.lt_of_lt_of_le (by decide) hn) rfl rfl rfl 1 (by decide) fX8_count_19 rfl dX8_count_49 ?_
      refine r_getN (v := .int (rd σ 18 3)) hc iX8_count_X2 (Nat.lt_of_lt_of_le (by decide) hn) rfl rfl rfl 3 (by decide) fX8_count_64 rfl dX8_count_52 ?_
      exact e_i hc hr hlk h dX8_count_55
    · replace h := h.2 hq2
      by_cases hq3 : x1 = 2
      · replace h := h.1 hq3
        refine r_tabIn (tgt := 56) hc dX8_count_1 (by rw [hq3]; decide) (by rw [hq3]; decide) (by rw [hq3]; rfl) (by decide) ?_
        refine r_aload_n hc dX8_count_56 rfl ?_
        refine r_get (v := .ref (ad 18)) hc iX8_count_X8 (Nat.lt_of_lt_of_le (by decide) hn) rfl rfl rfl 1 (by decide) fX8_count_19 rfl dX8_count_57 ?_
        refine r_getN (v := .int (rd σ 18 4)) hc iX8_count_X2 (Nat.lt_of_lt_of_le (by decide) hn) rfl rfl rfl 4 (by decide) fX8_count_217 rfl dX8_count_60 ?_
        exact e_i hc hr hlk h dX8_count_63
      · replace h := h.2 hq3
        by_cases hq6 : x1 = 3
        · replace h := h.1 hq6
          refine r_tabIn (tgt := 64) hc dX8_count_1 (by rw [hq6]; decide) (by rw [hq6]; decide) (by rw [hq6]; rfl) (by decide) ?_
          refine r_aload_n hc dX8_count_64 rfl ?_
          refine r_get (v := .ref (ad 22)) hc iX8_count_X8 (Nat.lt_of_lt_of_le (by decide) hn) rfl rfl rfl 2 (by decide) fX8_count_28 rfl dX8_count_65 ?_
          refine r_callVi hc (zX4_keptCount hn σ) h (Nat.lt_of_lt_of_le (by decide) hn) rfl rfl rfl (cwV 0 hc.2.2.2.2.1 gX8_count_X4_keptCount rfl rfl rfl qX4_keptCount ⟨Nat.le_of_ble_eq_true rfl, Nat.le_of_ble_eq_true rfl⟩) rfl rfl (Nat.le_of_ble_eq_true rfl) dX8_count_68 (fun r5 σ4 h => ?_)
          exact e_i hc hr hlk h dX8_count_71
        · replace h := h.2 hq6
          by_cases hq7 : x1 = 4
          · replace h := h.1 hq7
            refine r_tabIn (tgt := 72) hc dX8_count_1 (by rw [hq7]; decide) (by rw [hq7]; decide) (by rw [hq7]; rfl) (by decide) ?_
            refine r_aload_n hc dX8_count_72 rfl ?_
            refine r_get (v := .ref (ad 45)) hc iX8_count_X8 (Nat.lt_of_lt_of_le (by decide) hn) rfl rfl rfl 5 (by decide) fX8_count_51 rfl dX8_count_73 ?_
            refine r_getN (v := .int (rd σ 45 1)) hc iX8_count_X5 (Nat.lt_of_lt_of_le (by decide) hn) rfl rfl rfl 1 (by decide) fX8_count_211 rfl dX8_count_76 ?_
            exact e_i hc hr hlk h dX8_count_79
          · replace h := h.2 hq7
            by_cases hq10 : x1 = 5
            · replace h := h.1 hq10
              refine r_tabIn (tgt := 80) hc dX8_count_1 (by rw [hq10]; decide) (by rw [hq10]; decide) (by rw [hq10]; rfl) (by decide) ?_
              refine r_aload_n hc dX8_count_80 rfl ?_
              refine r_get (v := .ref (ad 22)) hc iX8_count_X8 (Nat.lt_of_lt_of_le (by decide) hn) rfl rfl rfl 2 (by decide) fX8_count_28 rfl dX8_count_81 ?_
              refine r_callVi hc (zX4_keptGroups hn σ) h (Nat.lt_of_lt_of_le (by decide) hn) rfl rfl rfl (cwV 0 hc.2.2.2.2.1 gX8_count_X4_keptGroups rfl rfl rfl qX4_keptGroups ⟨Nat.le_of_ble_eq_true rfl, Nat.le_of_ble_eq_true rfl⟩) rfl rfl (Nat.le_of_ble_eq_true rfl) dX8_count_84 (fun r9 σ8 h => ?_)
              exact e_i hc hr hlk h dX8_count_87
            · replace h := h.2 hq10
              replace hq1 := i32ne hq1
              replace hq2 := i32ne hq2
              replace hq3 := i32ne hq3
              replace hq6 := i32ne hq6
              replace hq7 := i32ne hq7
              replace hq10 := i32ne hq10
              refine r_tabOut (tgt := 88) hc dX8_count_1 (by rw [show (((0 : Int32)).toInt) = 0 by decide] at hq1; rw [show (((1 : Int32)).toInt) = 1 by decide] at hq2; rw [show (((2 : Int32)).toInt) = 2 by decide] at hq3; rw [show (((3 : Int32)).toInt) = 3 by decide] at hq6; rw [show (((4 : Int32)).toInt) = 4 by decide] at hq7; rw [show (((5 : Int32)).toInt) = 5 by decide] at hq10; omega) (by decide) ?_
              refine r_ldc (v := (-2000000002)) hc dX8_count_88 oX8_count_63 ?_
              exact e_i hc hr hlk h dX8_count_90
theorem iX8_cuboids_X8 : ∀ w ∈ u_ws RX8 TX8 8, w ∈ wsX8_cuboids := by decide +kernel
theorem fX8_cuboids_28 : Cond.fieldLink RX8 28 (TX8 2).1 (TX8 2).2.1 (TX8 2).2.2.1 ∈ wsX8_cuboids := by decide +kernel
theorem iX8_cuboids_X4 : ∀ w ∈ u_ws RX4 TX4 8, w ∈ wsX8_cuboids := by decide +kernel
theorem fX8_cuboids_126 : (RX8, 126, (TX4 7).1, (TX4 7).2.1, (TX4 7).2.2.1, "CubeDesk") ∈ nestF := by decide +kernel
set_option maxHeartbeats 4000000 in
set_option maxRecDepth 100000 in
theorem zX8_cuboids {cy : Nat → ClassId} {ad : Nat → Nat} {n : Nat} {D : va_G} {A : Nat → Prop} {l : Launch} (hn : 49 ≤ n) (σ : St) : Ci TC cy ad n D A l yX8_cuboids wsX8_cuboids rmX8_cuboids σ [.ref (ad 48)] (fun Q => vX8_cuboids Q σ ) := by
  intro Q h
  refine startW (cc := cX8_cuboids) (nL := 1) (own := RX8) (lo := [some (.ref (ad 48))]) (by decide) rfl rfl (lo_start (av := [.ref (ad 48)]) (k := 0) (allc1_ok (l := [.ref (ad 48)]) trivial)) (Nat.le_of_ble_eq_true rfl) (fun p e s m args below meth c hc hr hlk => ?_)
  unfold vX8_cuboids at h
  refine r_aload_n hc dX8_cuboids_0 rfl ?_
  refine r_get (v := .ref (ad 22)) hc iX8_cuboids_X8 (Nat.lt_of_lt_of_le (by decide) hn) rfl rfl rfl 2 (by decide) fX8_cuboids_28 rfl dX8_cuboids_1 ?_
  refine r_getN (v := .int (rd σ 22 7)) hc iX8_cuboids_X4 (Nat.lt_of_lt_of_le (by decide) hn) rfl rfl rfl 7 (by decide) fX8_cuboids_126 rfl dX8_cuboids_4 ?_
  exact e_i hc hr hlk h dX8_cuboids_7
theorem oX8_dimension_63 : Jvm.Cond.constant RX8 63 (-2000000002) ∈ wsX8_dimension := by decide +kernel
theorem iX8_dimension_X8 : ∀ w ∈ u_ws RX8 TX8 8, w ∈ wsX8_dimension := by decide +kernel
theorem fX8_dimension_19 : Cond.fieldLink RX8 19 (TX8 1).1 (TX8 1).2.1 (TX8 1).2.2.1 ∈ wsX8_dimension := by decide +kernel
theorem iX8_dimension_X2 : ∀ w ∈ u_ws RX2 TX2 5, w ∈ wsX8_dimension := by decide +kernel
theorem fX8_dimension_64 : (RX8, 64, (TX2 3).1, (TX2 3).2.1, (TX2 3).2.2.1, "CubeDesk") ∈ nestF := by decide +kernel
theorem fX8_dimension_12 : Cond.fieldLink RX8 12 (TX8 0).1 (TX8 0).2.1 (TX8 0).2.2.1 ∈ wsX8_dimension := by decide +kernel
theorem iX8_dimension_X6 : ∀ w ∈ u_ws RX6 TX6 2, w ∈ wsX8_dimension := by decide +kernel
theorem fX8_dimension_68 : (RX8, 68, (TX6 1).1, (TX6 1).2.1, (TX6 1).2.2.1, "CubeDesk") ∈ nestF := by decide +kernel
theorem fX8_dimension_28 : Cond.fieldLink RX8 28 (TX8 2).1 (TX8 2).2.1 (TX8 2).2.2.1 ∈ wsX8_dimension := by decide +kernel
theorem oX8_dimension_71 : Jvm.Cond.constant RX8 71 (-2000000004) ∈ wsX8_dimension := by decide +kernel
theorem oX8_dimension_67 : Jvm.Cond.constant RX8 67 (-2000000003) ∈ wsX8_dimension := by decide +kernel
set_option maxHeartbeats 4000000 in
set_option maxRecDepth 100000 in
theorem zX8_dimension {cy : Nat → ClassId} {ad : Nat → Nat} {n : Nat} {D : va_G} {A : Nat → Prop} {l : Launch} (hn : 49 ≤ n) (σ : St) (x1 : Int32) : Ci TC cy ad n D A l yX8_dimension wsX8_dimension rmX8_dimension σ [.ref (ad 48), .int x1] (fun Q => vX8_dimension Q σ x1) := by
  intro Q h
  refine startW (cc := cX8_dimension) (nL := 3) (own := RX8) (lo := [some (.ref (ad 48)), some (.int x1), none]) (by decide) rfl rfl (lo_start (av := [.ref (ad 48), .int x1]) (k := 1) (allc1_ok (l := [.ref (ad 48), .int x1]) trivial)) (Nat.le_of_ble_eq_true rfl) (fun p e s m args below meth c hc hr hlk => ?_)
  unfold vX8_dimension at h
  refine r_iload_n hc dX8_dimension_0 rfl ?_
  refine r_iconst (v := 1) hc dX8_dimension_1 (by decide) ?_
  refine r_icmp_lt (tgt := 11) hc dX8_dimension_2 (by decide) (fun hq7 => ?_) (fun hq7 => ?_)
  · replace h := h.1 hq7
    refine r_ldc (v := (-2000000002)) hc dX8_dimension_11 oX8_dimension_63 ?_
    exact e_i hc hr hlk h dX8_dimension_13
  · replace h := h.2 hq7
    refine r_iload_n hc dX8_dimension_5 rfl ?_
    refine r_bipush (v := 8) hc dX8_dimension_6 (by decide) ?_
    refine r_icmp_le (tgt := 14) hc dX8_dimension_8 (by decide) (fun hq6 => ?_) (fun hq6 => ?_)
    · replace h := h.1 hq6
      refine r_aload_n hc dX8_dimension_14 rfl ?_
      refine r_get (v := .ref (ad 18)) hc iX8_dimension_X8 (Nat.lt_of_lt_of_le (by decide) hn) rfl rfl rfl 1 (by decide) fX8_dimension_19 rfl dX8_dimension_15 ?_
      refine r_getN (v := .int (rd σ 18 3)) hc iX8_dimension_X2 (Nat.lt_of_lt_of_le (by decide) hn) rfl rfl rfl 3 (by decide) fX8_dimension_64 rfl dX8_dimension_18 ?_
      refine r_if_le (tgt := 27) hc dX8_dimension_21 (by decide) (fun hq5 => ?_) (fun hq5 => ?_)
      · replace h := h.1 hq5
        refine r_aload_n hc dX8_dimension_27 rfl ?_
        refine r_get (v := .ref (ad 0)) hc iX8_dimension_X8 (Nat.lt_of_lt_of_le (by decide) hn) rfl rfl rfl 0 (by decide) fX8_dimension_12 rfl dX8_dimension_28 ?_
        refine r_getN (v := .int (rd σ 0 1)) hc iX8_dimension_X6 (Nat.lt_of_lt_of_le (by decide) hn) rfl rfl rfl 1 (by decide) fX8_dimension_68 rfl dX8_dimension_31 ?_
        refine r_iconst (v := 4) hc dX8_dimension_34 (by decide) ?_
        refine r_icmp_lt (tgt := 41) hc dX8_dimension_35 (by decide) (fun hq4 => ?_) (fun hq4 => ?_)
        · replace h := h.1 hq4
          refine r_aload_n hc dX8_dimension_41 rfl ?_
          refine r_get (v := .ref (ad 0)) hc iX8_dimension_X8 (Nat.lt_of_lt_of_le (by decide) hn) rfl rfl rfl 0 (by decide) fX8_dimension_12 rfl dX8_dimension_42 ?_
          refine r_iload_n hc dX8_dimension_45 rfl ?_
          refine r_callVi hc (zX6_open (Nat.le_trans (by decide) hn) σ x1) h (Nat.lt_of_lt_of_le (by decide) hn) rfl rfl rfl (cwV 1 hc.2.2.2.2.1 gX8_dimension_X6_open rfl rfl rfl qX6_open ⟨Nat.le_of_ble_eq_true rfl, Nat.le_of_ble_eq_true rfl⟩) rfl rfl (Nat.le_of_ble_eq_true rfl) dX8_dimension_46 (fun r2 σ1 h => ?_)
          refine r_istore_n hc dX8_dimension_49 rfl (by decide) (ss (s1 trivial)) ?_
          refine r_aload_n hc dX8_dimension_50 rfl ?_
          refine r_get (v := .ref (ad 22)) hc iX8_dimension_X8 (Nat.lt_of_lt_of_le (by decide) hn) rfl rfl rfl 2 (by decide) fX8_dimension_28 rfl dX8_dimension_51 ?_
          refine r_callVv hc (zX4_rebuild (Nat.le_trans (by decide) hn) σ1) h (Nat.lt_of_lt_of_le (by decide) hn) rfl rfl rfl (cwV 0 hc.2.2.2.2.1 gX8_dimension_X4_rebuild rfl rfl rfl qX4_rebuild ⟨Nat.le_of_ble_eq_true rfl, Nat.le_of_ble_eq_true rfl⟩) rfl rfl (Nat.le_of_ble_eq_true rfl) dX8_dimension_54 (fun σ3 h => ?_)
          refine r_iload_n hc dX8_dimension_57 rfl ?_
          exact e_i hc hr hlk h dX8_dimension_58
        · replace h := h.2 hq4
          refine r_ldc (v := (-2000000004)) hc dX8_dimension_38 oX8_dimension_71 ?_
          exact e_i hc hr hlk h dX8_dimension_40
      · replace h := h.2 hq5
        refine r_ldc (v := (-2000000003)) hc dX8_dimension_24 oX8_dimension_67 ?_
        exact e_i hc hr hlk h dX8_dimension_26
    · replace h := h.2 hq6
      refine r_ldc (v := (-2000000002)) hc dX8_dimension_11 oX8_dimension_63 ?_
      exact e_i hc hr hlk h dX8_dimension_13
theorem oX8_drop_63 : Jvm.Cond.constant RX8 63 (-2000000002) ∈ wsX8_drop := by decide +kernel
theorem iX8_drop_X8 : ∀ w ∈ u_ws RX8 TX8 8, w ∈ wsX8_drop := by decide +kernel
theorem fX8_drop_19 : Cond.fieldLink RX8 19 (TX8 1).1 (TX8 1).2.1 (TX8 1).2.2.1 ∈ wsX8_drop := by decide +kernel
theorem iX8_drop_X2 : ∀ w ∈ u_ws RX2 TX2 5, w ∈ wsX8_drop := by decide +kernel
theorem fX8_drop_64 : (RX8, 64, (TX2 3).1, (TX2 3).2.1, (TX2 3).2.2.1, "CubeDesk") ∈ nestF := by decide +kernel
theorem oX8_drop_67 : Jvm.Cond.constant RX8 67 (-2000000003) ∈ wsX8_drop := by decide +kernel
theorem fX8_drop_28 : Cond.fieldLink RX8 28 (TX8 2).1 (TX8 2).2.1 (TX8 2).2.2.1 ∈ wsX8_drop := by decide +kernel
set_option maxHeartbeats 4000000 in
set_option maxRecDepth 100000 in
theorem zX8_drop {cy : Nat → ClassId} {ad : Nat → Nat} {n : Nat} {D : va_G} {A : Nat → Prop} {l : Launch} (hn : 49 ≤ n) (σ : St) (x1 : Int32) : Ci TC cy ad n D A l yX8_drop wsX8_drop rmX8_drop σ [.ref (ad 48), .int x1] (fun Q => vX8_drop Q σ x1) := by
  intro Q h
  refine startW (cc := cX8_drop) (nL := 2) (own := RX8) (lo := [some (.ref (ad 48)), some (.int x1)]) (by decide) rfl rfl (lo_start (av := [.ref (ad 48), .int x1]) (k := 0) (allc1_ok (l := [.ref (ad 48), .int x1]) trivial)) (Nat.le_of_ble_eq_true rfl) (fun p e s m args below meth c hc hr hlk => ?_)
  unfold vX8_drop at h
  refine r_iload_n hc dX8_drop_0 rfl ?_
  refine r_if_lt (tgt := 15) hc dX8_drop_1 (by decide) (fun hq8 => ?_) (fun hq8 => ?_)
  · replace h := h.1 hq8
    refine r_ldc (v := (-2000000002)) hc dX8_drop_15 oX8_drop_63 ?_
    exact e_i hc hr hlk h dX8_drop_17
  · replace h := h.2 hq8
    refine r_iload_n hc dX8_drop_4 rfl ?_
    refine r_aload_n hc dX8_drop_5 rfl ?_
    refine r_get (v := .ref (ad 18)) hc iX8_drop_X8 (Nat.lt_of_lt_of_le (by decide) hn) rfl rfl rfl 1 (by decide) fX8_drop_19 rfl dX8_drop_6 ?_
    refine r_getN (v := .int (rd σ 18 3)) hc iX8_drop_X2 (Nat.lt_of_lt_of_le (by decide) hn) rfl rfl rfl 3 (by decide) fX8_drop_64 rfl dX8_drop_9 ?_
    refine r_icmp_lt (tgt := 18) hc dX8_drop_12 (by decide) (fun hq7 => ?_) (fun hq7 => ?_)
    · replace h := h.1 hq7
      refine r_aload_n hc dX8_drop_18 rfl ?_
      refine r_get (v := .ref (ad 18)) hc iX8_drop_X8 (Nat.lt_of_lt_of_le (by decide) hn) rfl rfl rfl 1 (by decide) fX8_drop_19 rfl dX8_drop_19 ?_
      refine r_iload_n hc dX8_drop_22 rfl ?_
      refine r_callVi hc (zX2_isThere (Nat.le_trans (by decide) hn) σ x1) h (Nat.lt_of_lt_of_le (by decide) hn) rfl rfl rfl (cwV 1 hc.2.2.2.2.1 gX8_drop_X2_isThere rfl rfl rfl qX2_isThere ⟨Nat.le_of_ble_eq_true rfl, Nat.le_of_ble_eq_true rfl⟩) rfl rfl (Nat.le_of_ble_eq_true rfl) dX8_drop_23 (fun r2 σ1 h => ?_)
      refine r_if_ne (tgt := 32) hc dX8_drop_26 (by decide) (fun hq6 => ?_) (fun hq6 => ?_)
      · replace h := h.1 hq6
        refine r_ldc (v := (-2000000003)) hc dX8_drop_29 oX8_drop_67 ?_
        exact e_i hc hr hlk h dX8_drop_31
      · replace h := h.2 hq6
        refine r_aload_n hc dX8_drop_32 rfl ?_
        refine r_get (v := .ref (ad 22)) hc iX8_drop_X8 (Nat.lt_of_lt_of_le (by decide) hn) rfl rfl rfl 2 (by decide) fX8_drop_28 rfl dX8_drop_33 ?_
        refine r_callVv hc (zX4_forgetSizes (Nat.le_trans (by decide) hn) σ1) h (Nat.lt_of_lt_of_le (by decide) hn) rfl rfl rfl (cwV 0 hc.2.2.2.2.1 gX8_drop_X4_forgetSizes rfl rfl rfl qX4_forgetSizes ⟨Nat.le_of_ble_eq_true rfl, Nat.le_of_ble_eq_true rfl⟩) rfl rfl (Nat.le_of_ble_eq_true rfl) dX8_drop_36 (fun σ3 h => ?_)
        refine r_aload_n hc dX8_drop_39 rfl ?_
        refine r_get (v := .ref (ad 18)) hc iX8_drop_X8 (Nat.lt_of_lt_of_le (by decide) hn) rfl rfl rfl 1 (by decide) fX8_drop_19 rfl dX8_drop_40 ?_
        refine r_iload_n hc dX8_drop_43 rfl ?_
        refine r_callVi hc (zX2_strike (Nat.le_trans (by decide) hn) σ3 x1) h (Nat.lt_of_lt_of_le (by decide) hn) rfl rfl rfl (cwV 1 hc.2.2.2.2.1 gX8_drop_X2_strike rfl rfl rfl qX2_strike ⟨Nat.le_of_ble_eq_true rfl, Nat.le_of_ble_eq_true rfl⟩) rfl rfl (Nat.le_of_ble_eq_true rfl) dX8_drop_44 (fun r5 σ4 h => ?_)
        exact e_i hc hr hlk h dX8_drop_47
    · replace h := h.2 hq7
      refine r_ldc (v := (-2000000002)) hc dX8_drop_15 oX8_drop_63 ?_
      exact e_i hc hr hlk h dX8_drop_17

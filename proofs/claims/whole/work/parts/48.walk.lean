theorem iX9_choose_X9 : ∀ w ∈ u_ws RX9 TX9 25, w ∈ wsX9_choose := by decide +kernel
theorem fX9_choose_60 : Cond.fieldLink RX9 60 (TX9 0).1 (TX9 0).2.1 (TX9 0).2.2.1 ∈ wsX9_choose := by decide +kernel
theorem oX9_choose_74 : Jvm.Cond.constant RX9 74 (-2000000002) ∈ wsX9_choose := by decide +kernel
theorem fX9_choose_38 : Cond.fieldLink RX9 38 (TX9 12).1 (TX9 12).2.1 (TX9 12).2.2.1 ∈ wsX9_choose := by decide +kernel
theorem fX9_choose_50 : Cond.fieldLink RX9 50 (TX9 18).1 (TX9 18).2.1 (TX9 18).2.2.1 ∈ wsX9_choose := by decide +kernel
theorem fX9_choose_57 : Cond.fieldLink RX9 57 (TX9 20).1 (TX9 20).2.1 (TX9 20).2.2.1 ∈ wsX9_choose := by decide +kernel
set_option maxHeartbeats 4000000 in
set_option maxRecDepth 100000 in
theorem tvX9_choose_L119 {cy : Nat → ClassId} {ad : Nat → Nat} {n : Nat} {D : va_G} {A : Nat → Prop} {l : Launch} {p : Program} {e : Env} {s : State} {m : MethodId} {args : Array Value} {below : List Frame} {meth : Method} {c : Code} {Q : Int32 → St → Prop} (hn : 17 ≤ n) (hc : CX p s m args c D cy cX9_choose 7 RX9 wsX9_choose) (hr : meth.sig.returnType = some .int) (hlk : meth.locks = false) : ∀ (q119 : Nat) (σ : St) (x2 : Int32) (x3 : Int32), vX9_choose_L119 Q q119 σ x2 x3 → WV TR cy ad n D A p l e rmX9_choose s m args below meth c 7 (MQ below (va_Qi Q (Bw TR cy ad n D) A) args s 0 0 A) σ [some (.ref (ad 0)), none, some (.int x2), some (.int x3), none, none, none] [] 119 := by
  intro q119
  induction q119 with
  | zero =>
    intro σ x2 x3 h
    exact h.elim
  | succ q119 ih =>
    intro σ x2 x3 h
    unfold vX9_choose_L119 at h
    refine r_iload_n hc dX9_choose_119 rfl ?_
    refine r_aload_n hc dX9_choose_120 rfl ?_
    refine r_callVi hc (zX9_all hn σ) h (Nat.lt_of_lt_of_le (by decide) hn) rfl rfl rfl (cwV 0 hc.2.2.2.2.1 gX9_choose_X9_all rfl rfl rfl qX9_all ⟨Nat.le_of_ble_eq_true rfl, Nat.le_of_ble_eq_true rfl⟩) rfl rfl (Nat.le_of_ble_eq_true rfl) dX9_choose_121 (fun r18 σ17 h => ?_)
    refine r_icmp_ge (tgt := 149) hc dX9_choose_124 (by decide) (fun hq19 => ?_) (fun hq19 => ?_)
    · replace h := h.1 hq19
      refine r_iload_n hc dX9_choose_149 rfl ?_
      exact e_i hc hr hlk h dX9_choose_150
    · replace h := h.2 hq19
      refine r_iload_n hc dX9_choose_127 rfl ?_
      refine r_aload_n hc dX9_choose_128 rfl ?_
      refine r_get (v := .ref (ad 14)) hc iX9_choose_X9 (Nat.lt_of_lt_of_le (by decide) hn) rfl rfl rfl 18 (by decide) fX9_choose_50 rfl dX9_choose_129 ?_
      refine r_iconst (v := 0) hc dX9_choose_132 (by decide) ?_
      refine r_iald hc (Nat.lt_of_lt_of_le (by decide) hn) rfl rfl h.1 dX9_choose_133 ?_
      replace h := h.2
      refine r_aload_n hc dX9_choose_134 rfl ?_
      refine r_get (v := .ref (ad 16)) hc iX9_choose_X9 (Nat.lt_of_lt_of_le (by decide) hn) rfl rfl rfl 20 (by decide) fX9_choose_57 rfl dX9_choose_135 ?_
      refine r_iload_n hc dX9_choose_138 rfl ?_
      refine r_iald hc (Nat.lt_of_lt_of_le (by decide) hn) rfl rfl h.1 dX9_choose_139 ?_
      replace h := h.2
      refine r_isub hc dX9_choose_140 ?_
      refine r_iadd hc dX9_choose_141 ?_
      refine r_istore_n hc dX9_choose_142 rfl (by decide) (ss (s1 trivial)) ?_
      refine r_iinc (v := x3 + 1) hc dX9_choose_143 rfl rfl (by decide) (ss (ss (s1 trivial))) ?_
      refine r_goto (tgt := 119) hc dX9_choose_146 (by decide) ?_
      exact r_weak (wk (wn (wk (wk (wn (wn (wn w0))))))) (ih _ _ _ h)
set_option maxHeartbeats 4000000 in
set_option maxRecDepth 100000 in
theorem tvX9_choose_L45 {cy : Nat → ClassId} {ad : Nat → Nat} {n : Nat} {D : va_G} {A : Nat → Prop} {l : Launch} {p : Program} {e : Env} {s : State} {m : MethodId} {args : Array Value} {below : List Frame} {meth : Method} {c : Code} {Q : Int32 → St → Prop} {K28 : St → Int32 → Int32 → Prop} (hn : 17 ≤ n) (hc : CX p s m args c D cy cX9_choose 7 RX9 wsX9_choose) (hr : meth.sig.returnType = some .int) (hlk : meth.locks = false) (hK28 : ∀ (σ : St) (x1 : Int32) (x2 : Int32), K28 σ x1 x2 → WV TR cy ad n D A p l e rmX9_choose s m args below meth c 7 (MQ below (va_Qi Q (Bw TR cy ad n D) A) args s 0 0 A) σ [some (.ref (ad 0)), some (.int x1), some (.int x2), none, none, none, none] [] 28) : ∀ (q45 : Nat) (σ : St) (x1 : Int32) (x2 : Int32) (x3 : Int32) (x4 : Int32) (x5 : Int32), vX9_choose_L45 Q K28 q45 σ x1 x2 x3 x4 x5 → WV TR cy ad n D A p l e rmX9_choose s m args below meth c 7 (MQ below (va_Qi Q (Bw TR cy ad n D) A) args s 0 0 A) σ [some (.ref (ad 0)), some (.int x1), some (.int x2), some (.int x3), some (.int x4), some (.int x5), none] [] 45 := by
  intro q45
  induction q45 with
  | zero =>
    intro σ x1 x2 x3 x4 x5 h
    exact h.elim
  | succ q45 ih =>
    intro σ x1 x2 x3 x4 x5 h
    unfold vX9_choose_L45 at h
    refine r_iload hc dX9_choose_45 rfl ?_
    refine r_aload_n hc dX9_choose_47 rfl ?_
    refine r_callVi hc (zX9_all hn σ) h (Nat.lt_of_lt_of_le (by decide) hn) rfl rfl rfl (cwV 0 hc.2.2.2.2.1 gX9_choose_X9_all rfl rfl rfl qX9_all ⟨Nat.le_of_ble_eq_true rfl, Nat.le_of_ble_eq_true rfl⟩) rfl rfl (Nat.le_of_ble_eq_true rfl) dX9_choose_48 (fun r10 σ9 h => ?_)
    refine r_icmp_ge (tgt := 98) hc dX9_choose_51 (by decide) (fun hq16 => ?_) (fun hq16 => ?_)
    · replace h := h.1 hq16
      refine r_aload_n hc dX9_choose_98 rfl ?_
      refine r_get (v := .ref (ad 10)) hc iX9_choose_X9 (Nat.lt_of_lt_of_le (by decide) hn) rfl rfl rfl 12 (by decide) fX9_choose_38 rfl dX9_choose_99 ?_
      refine r_iload_n hc dX9_choose_102 rfl ?_
      refine r_iconst (v := 1) hc dX9_choose_103 (by decide) ?_
      refine r_zast hc (Nat.lt_of_lt_of_le (by decide) hn) rfl rfl h.1 dX9_choose_104 ?_
      replace h := h.2
      refine r_iinc (v := x2 + 1) hc dX9_choose_105 rfl rfl (by decide) (ss (s1 trivial)) ?_
      refine r_goto (tgt := 28) hc dX9_choose_108 (by decide) ?_
      exact r_weak (wk (wk (wk (wn (wn (wn (wn w0))))))) (hK28 _ _ _ h)
    · replace h := h.2 hq16
      refine r_aload_n hc dX9_choose_54 rfl ?_
      refine r_iload hc dX9_choose_55 rfl ?_
      refine r_callVi hc (zX9_gainOf hn σ9 x5) h (Nat.lt_of_lt_of_le (by decide) hn) rfl rfl rfl (cwV 1 hc.2.2.2.2.1 gX9_choose_X9_gainOf rfl rfl rfl qX9_gainOf ⟨Nat.le_of_ble_eq_true rfl, Nat.le_of_ble_eq_true rfl⟩) rfl rfl (Nat.le_of_ble_eq_true rfl) dX9_choose_57 (fun r12 σ11 h => ?_)
      refine r_istore hc dX9_choose_60 (by decide) (ss (ss (ss (ss (ss (s1 trivial)))))) ?_
      refine r_iload hc dX9_choose_62 rfl ?_
      refine r_iload hc dX9_choose_64 rfl ?_
      refine r_icmp_le (tgt := 74) hc dX9_choose_66 (by decide) (fun hq15 => ?_) (fun hq15 => ?_)
      · replace h := h.1 hq15
        refine r_iload_n hc dX9_choose_74 rfl ?_
        refine r_istore_n hc dX9_choose_75 rfl (by decide) (ss (ss (s1 trivial))) ?_
        refine r_iload hc dX9_choose_76 rfl ?_
        refine r_iload hc dX9_choose_78 rfl ?_
        refine r_icmp_le (tgt := 88) hc dX9_choose_80 (by decide) (fun hq13 => ?_) (fun hq13 => ?_)
        · replace h := h.1 hq13
          refine r_iload hc dX9_choose_88 rfl ?_
          refine r_istore hc dX9_choose_90 (by decide) (ss (ss (ss (s1 trivial)))) ?_
          refine r_iinc (v := x5 + 1) hc dX9_choose_92 rfl rfl (by decide) (ss (ss (ss (ss (s1 trivial))))) ?_
          refine r_goto (tgt := 45) hc dX9_choose_95 (by decide) ?_
          exact r_weak (wk (wk (wk (wk (wk (wk (wn w0))))))) (ih _ _ _ _ _ _ h)
        · replace h := h.2 hq13
          refine r_iload hc dX9_choose_83 rfl ?_
          refine r_goto (tgt := 90) hc dX9_choose_85 (by decide) ?_
          refine r_istore hc dX9_choose_90 (by decide) (ss (ss (ss (s1 trivial)))) ?_
          refine r_iinc (v := x5 + 1) hc dX9_choose_92 rfl rfl (by decide) (ss (ss (ss (ss (s1 trivial))))) ?_
          refine r_goto (tgt := 45) hc dX9_choose_95 (by decide) ?_
          exact r_weak (wk (wk (wk (wk (wk (wk (wn w0))))))) (ih _ _ _ _ _ _ h)
      · replace h := h.2 hq15
        refine r_iload hc dX9_choose_69 rfl ?_
        refine r_goto (tgt := 75) hc dX9_choose_71 (by decide) ?_
        refine r_istore_n hc dX9_choose_75 rfl (by decide) (ss (ss (s1 trivial))) ?_
        refine r_iload hc dX9_choose_76 rfl ?_
        refine r_iload hc dX9_choose_78 rfl ?_
        refine r_icmp_le (tgt := 88) hc dX9_choose_80 (by decide) (fun hq14 => ?_) (fun hq14 => ?_)
        · replace h := h.1 hq14
          refine r_iload hc dX9_choose_88 rfl ?_
          refine r_istore hc dX9_choose_90 (by decide) (ss (ss (ss (s1 trivial)))) ?_
          refine r_iinc (v := x5 + 1) hc dX9_choose_92 rfl rfl (by decide) (ss (ss (ss (ss (s1 trivial))))) ?_
          refine r_goto (tgt := 45) hc dX9_choose_95 (by decide) ?_
          exact r_weak (wk (wk (wk (wk (wk (wk (wn w0))))))) (ih _ _ _ _ _ _ h)
        · replace h := h.2 hq14
          refine r_iload hc dX9_choose_83 rfl ?_
          refine r_goto (tgt := 90) hc dX9_choose_85 (by decide) ?_
          refine r_istore hc dX9_choose_90 (by decide) (ss (ss (ss (s1 trivial)))) ?_
          refine r_iinc (v := x5 + 1) hc dX9_choose_92 rfl rfl (by decide) (ss (ss (ss (ss (s1 trivial))))) ?_
          refine r_goto (tgt := 45) hc dX9_choose_95 (by decide) ?_
          exact r_weak (wk (wk (wk (wk (wk (wk (wn w0))))))) (ih _ _ _ _ _ _ h)
set_option maxHeartbeats 4000000 in
set_option maxRecDepth 100000 in
theorem tvX9_choose_L28 {cy : Nat → ClassId} {ad : Nat → Nat} {n : Nat} {D : va_G} {A : Nat → Prop} {l : Launch} {p : Program} {e : Env} {s : State} {m : MethodId} {args : Array Value} {below : List Frame} {meth : Method} {c : Code} {Q : Int32 → St → Prop} (hn : 17 ≤ n) (hc : CX p s m args c D cy cX9_choose 7 RX9 wsX9_choose) (hr : meth.sig.returnType = some .int) (hlk : meth.locks = false) : ∀ (q28 : Nat) (σ : St) (x1 : Int32) (x2 : Int32), vX9_choose_L28 Q q28 σ x1 x2 → WV TR cy ad n D A p l e rmX9_choose s m args below meth c 7 (MQ below (va_Qi Q (Bw TR cy ad n D) A) args s 0 0 A) σ [some (.ref (ad 0)), some (.int x1), some (.int x2), none, none, none, none] [] 28 := by
  intro q28
  induction q28 with
  | zero =>
    intro σ x1 x2 h
    exact h.elim
  | succ q28 ih =>
    intro σ x1 x2 h
    unfold vX9_choose_L28 at h
    refine r_iload_n hc dX9_choose_28 rfl ?_
    refine r_iload_n hc dX9_choose_29 rfl ?_
    refine r_icmp_ge (tgt := 111) hc dX9_choose_30 (by decide) (fun hq8 => ?_) (fun hq8 => ?_)
    · replace h := h.1 hq8
      refine r_aload_n hc dX9_choose_111 rfl ?_
      refine r_callVv hc (zX9_findCosts hn σ) h (Nat.lt_of_lt_of_le (by decide) hn) rfl rfl rfl (cwV 0 hc.2.2.2.2.1 gX9_choose_X9_findCosts rfl rfl rfl qX9_findCosts ⟨Nat.le_of_ble_eq_true rfl, Nat.le_of_ble_eq_true rfl⟩) rfl rfl (Nat.le_of_ble_eq_true rfl) dX9_choose_112 (fun σ6 h => ?_)
      refine r_iconst (v := 0) hc dX9_choose_115 (by decide) ?_
      refine r_istore_n hc dX9_choose_116 rfl (by decide) (ss (s1 trivial)) ?_
      refine r_iconst (v := 0) hc dX9_choose_117 (by decide) ?_
      refine r_istore_n hc dX9_choose_118 rfl (by decide) (ss (ss (s1 trivial))) ?_
      obtain ⟨e119, h⟩ := h
      exact r_weak (wk (wn (wk (wk (wn (wn (wn w0))))))) (tvX9_choose_L119 hn hc hr hlk e119 _ _ _ h)
    · replace h := h.2 hq8
      refine r_aload_n hc dX9_choose_33 rfl ?_
      refine r_callVv hc (zX9_findCosts hn σ) h (Nat.lt_of_lt_of_le (by decide) hn) rfl rfl rfl (cwV 0 hc.2.2.2.2.1 gX9_choose_X9_findCosts rfl rfl rfl qX9_findCosts ⟨Nat.le_of_ble_eq_true rfl, Nat.le_of_ble_eq_true rfl⟩) rfl rfl (Nat.le_of_ble_eq_true rfl) dX9_choose_34 (fun σ7 h => ?_)
      refine r_iconst (v := 0) hc dX9_choose_37 (by decide) ?_
      refine r_istore_n hc dX9_choose_38 rfl (by decide) (ss (ss (s1 trivial))) ?_
      refine r_iconst (v := 0) hc dX9_choose_39 (by decide) ?_
      refine r_istore hc dX9_choose_40 (by decide) (ss (ss (ss (s1 trivial)))) ?_
      refine r_iconst (v := 1) hc dX9_choose_42 (by decide) ?_
      refine r_istore hc dX9_choose_43 (by decide) (ss (ss (ss (ss (s1 trivial))))) ?_
      obtain ⟨e45, h⟩ := h
      exact r_weak (wk (wk (wk (wk (wk (wk (wn w0))))))) (tvX9_choose_L45 hn hc hr hlk ih e45 _ _ _ _ _ _ h)
set_option maxHeartbeats 4000000 in
set_option maxRecDepth 100000 in
theorem zX9_choose {cy : Nat → ClassId} {ad : Nat → Nat} {n : Nat} {D : va_G} {A : Nat → Prop} {l : Launch} (hn : 17 ≤ n) (σ : St) (x1 : Int32) : Ci TR cy ad n D A l yX9_choose wsX9_choose rmX9_choose σ [.ref (ad 0), .int x1] (fun Q => vX9_choose Q σ x1) := by
  intro Q h
  refine startW (cc := cX9_choose) (nL := 7) (own := RX9) (lo := [some (.ref (ad 0)), some (.int x1), none, none, none, none, none]) (by decide) rfl rfl (lo_start (av := [.ref (ad 0), .int x1]) (k := 5) (allc1_ok (l := [.ref (ad 0), .int x1]) trivial)) (Nat.le_of_ble_eq_true rfl) (fun p e s m args below meth c hc hr hlk => ?_)
  unfold vX9_choose at h
  refine r_aload_n hc dX9_choose_0 rfl ?_
  refine r_iconst (v := 0) hc dX9_choose_1 (by decide) ?_
  refine r_put hc iX9_choose_X9 tyX9_ok nmX9 (Nat.lt_of_lt_of_le (by decide) hn) rfl rfl rfl 0 (by decide) (Nat.le_of_ble_eq_true rfl) fX9_choose_60 rfl (by decide +kernel) rfl dX9_choose_2 ?_
  refine r_iload_n hc dX9_choose_5 rfl ?_
  refine r_iconst (v := 0) hc dX9_choose_6 (by decide) ?_
  refine r_bipush (v := 8) hc dX9_choose_7 (by decide) ?_
  refine r_callSi hc (zX9_in hn (wr σ 0 0 0) x1 0 8) h (va_cwS 3 hc.2.2.2.2.1 gX9_choose_X9_in rfl rfl rfl qX9_in ⟨Nat.le_of_ble_eq_true rfl, Nat.le_of_ble_eq_true rfl⟩) rfl rfl (Nat.le_of_ble_eq_true rfl) dX9_choose_9 (fun r2 σ1 h => ?_)
  refine r_if_ne (tgt := 18) hc dX9_choose_12 (by decide) (fun hq5 => ?_) (fun hq5 => ?_)
  · replace h := h.1 hq5
    refine r_ldc (v := (-2000000002)) hc dX9_choose_15 oX9_choose_74 ?_
    exact e_i hc hr hlk h dX9_choose_17
  · replace h := h.2 hq5
    refine r_aload_n hc dX9_choose_18 rfl ?_
    refine r_callVv hc (zX9_keepNone hn σ1) h (Nat.lt_of_lt_of_le (by decide) hn) rfl rfl rfl (cwV 0 hc.2.2.2.2.1 gX9_choose_X9_keepNone rfl rfl rfl qX9_keepNone ⟨Nat.le_of_ble_eq_true rfl, Nat.le_of_ble_eq_true rfl⟩) rfl rfl (Nat.le_of_ble_eq_true rfl) dX9_choose_19 (fun σ3 h => ?_)
    refine r_aload_n hc dX9_choose_22 rfl ?_
    refine r_callVv hc (zX9_measure hn σ3) h (Nat.lt_of_lt_of_le (by decide) hn) rfl rfl rfl (cwV 0 hc.2.2.2.2.1 gX9_choose_X9_measure rfl rfl rfl qX9_measure ⟨Nat.le_of_ble_eq_true rfl, Nat.le_of_ble_eq_true rfl⟩) rfl rfl (Nat.le_of_ble_eq_true rfl) dX9_choose_23 (fun σ4 h => ?_)
    refine r_iconst (v := 0) hc dX9_choose_26 (by decide) ?_
    refine r_istore_n hc dX9_choose_27 rfl (by decide) (ss (s1 trivial)) ?_
    obtain ⟨e28, h⟩ := h
    exact r_weak (wk (wk (wk (wn (wn (wn (wn w0))))))) (tvX9_choose_L28 hn hc hr hlk e28 _ _ _ h)
theorem iX9_cost_X9 : ∀ w ∈ u_ws RX9 TX9 25, w ∈ wsX9_cost := by decide +kernel
theorem fX9_cost_60 : Cond.fieldLink RX9 60 (TX9 0).1 (TX9 0).2.1 (TX9 0).2.2.1 ∈ wsX9_cost := by decide +kernel
theorem oX9_cost_74 : Jvm.Cond.constant RX9 74 (-2000000002) ∈ wsX9_cost := by decide +kernel
theorem fX9_cost_50 : Cond.fieldLink RX9 50 (TX9 18).1 (TX9 18).2.1 (TX9 18).2.2.1 ∈ wsX9_cost := by decide +kernel
set_option maxHeartbeats 4000000 in
set_option maxRecDepth 100000 in
theorem zX9_cost {cy : Nat → ClassId} {ad : Nat → Nat} {n : Nat} {D : va_G} {A : Nat → Prop} {l : Launch} (hn : 17 ≤ n) (σ : St) (x1 : Int32) : Ci TR cy ad n D A l yX9_cost wsX9_cost rmX9_cost σ [.ref (ad 0), .int x1] (fun Q => vX9_cost Q σ x1) := by
  intro Q h
  refine startW (cc := cX9_cost) (nL := 2) (own := RX9) (lo := [some (.ref (ad 0)), some (.int x1)]) (by decide) rfl rfl (lo_start (av := [.ref (ad 0), .int x1]) (k := 0) (allc1_ok (l := [.ref (ad 0), .int x1]) trivial)) (Nat.le_of_ble_eq_true rfl) (fun p e s m args below meth c hc hr hlk => ?_)
  unfold vX9_cost at h
  refine r_aload_n hc dX9_cost_0 rfl ?_
  refine r_iconst (v := 0) hc dX9_cost_1 (by decide) ?_
  refine r_put hc iX9_cost_X9 tyX9_ok nmX9 (Nat.lt_of_lt_of_le (by decide) hn) rfl rfl rfl 0 (by decide) (Nat.le_of_ble_eq_true rfl) fX9_cost_60 rfl (by decide +kernel) rfl dX9_cost_2 ?_
  refine r_aload_n hc dX9_cost_5 rfl ?_
  refine r_iload_n hc dX9_cost_6 rfl ?_
  refine r_callVi hc (zX9_isCuboid hn (wr σ 0 0 0) x1) h (Nat.lt_of_lt_of_le (by decide) hn) rfl rfl rfl (cwV 1 hc.2.2.2.2.1 gX9_cost_X9_isCuboid rfl rfl rfl qX9_isCuboid ⟨Nat.le_of_ble_eq_true rfl, Nat.le_of_ble_eq_true rfl⟩) rfl rfl (Nat.le_of_ble_eq_true rfl) dX9_cost_7 (fun r2 σ1 h => ?_)
  refine r_if_ne (tgt := 16) hc dX9_cost_10 (by decide) (fun hq6 => ?_) (fun hq6 => ?_)
  · replace h := h.1 hq6
    refine r_ldc (v := (-2000000002)) hc dX9_cost_13 oX9_cost_74 ?_
    exact e_i hc hr hlk h dX9_cost_15
  · replace h := h.2 hq6
    refine r_aload_n hc dX9_cost_16 rfl ?_
    refine r_callVv hc (zX9_measure hn σ1) h (Nat.lt_of_lt_of_le (by decide) hn) rfl rfl rfl (cwV 0 hc.2.2.2.2.1 gX9_cost_X9_measure rfl rfl rfl qX9_measure ⟨Nat.le_of_ble_eq_true rfl, Nat.le_of_ble_eq_true rfl⟩) rfl rfl (Nat.le_of_ble_eq_true rfl) dX9_cost_17 (fun σ3 h => ?_)
    refine r_aload_n hc dX9_cost_20 rfl ?_
    refine r_get (v := .ref (ad 14)) hc iX9_cost_X9 (Nat.lt_of_lt_of_le (by decide) hn) rfl rfl rfl 18 (by decide) fX9_cost_50 rfl dX9_cost_21 ?_
    refine r_aload_n hc dX9_cost_24 rfl ?_
    refine r_iload_n hc dX9_cost_25 rfl ?_
    refine r_callVi hc (zX9_serverOf hn σ3 x1) h (Nat.lt_of_lt_of_le (by decide) hn) rfl rfl rfl (cwV 1 hc.2.2.2.2.1 gX9_cost_X9_serverOf rfl rfl rfl qX9_serverOf ⟨Nat.le_of_ble_eq_true rfl, Nat.le_of_ble_eq_true rfl⟩) rfl rfl (Nat.le_of_ble_eq_true rfl) dX9_cost_26 (fun r5 σ4 h => ?_)
    refine r_iald hc (Nat.lt_of_lt_of_le (by decide) hn) rfl rfl h.1 dX9_cost_29 ?_
    replace h := h.2
    exact e_i hc hr hlk h dX9_cost_30
theorem iX9_thereMany_X9 : ∀ w ∈ u_ws RX9 TX9 25, w ∈ wsX9_thereMany := by decide +kernel
theorem fX9_thereMany_71 : Cond.fieldLink RX9 71 (TX9 5).1 (TX9 5).2.1 (TX9 5).2.2.1 ∈ wsX9_thereMany := by decide +kernel
theorem fX9_thereMany_25 : Cond.fieldLink RX9 25 (TX9 8).1 (TX9 8).2.1 (TX9 8).2.2.1 ∈ wsX9_thereMany := by decide +kernel
set_option maxHeartbeats 4000000 in
set_option maxRecDepth 100000 in
theorem tvX9_thereMany_L4 {cy : Nat → ClassId} {ad : Nat → Nat} {n : Nat} {D : va_G} {A : Nat → Prop} {l : Launch} {p : Program} {e : Env} {s : State} {m : MethodId} {args : Array Value} {below : List Frame} {meth : Method} {c : Code} {Q : Int32 → St → Prop} (hn : 17 ≤ n) (hc : CX p s m args c D cy cX9_thereMany 3 RX9 wsX9_thereMany) (hr : meth.sig.returnType = some .int) (hlk : meth.locks = false) : ∀ (q4 : Nat) (σ : St) (x1 : Int32) (x2 : Int32), vX9_thereMany_L4 Q q4 σ x1 x2 → WV TR cy ad n D A p l e rmX9_thereMany s m args below meth c 3 (MQ below (va_Qi Q (Bw TR cy ad n D) A) args s 0 0 A) σ [some (.ref (ad 0)), some (.int x1), some (.int x2)] [] 4 := by
  intro q4
  induction q4 with
  | zero =>
    intro σ x1 x2 h
    exact h.elim
  | succ q4 ih =>
    intro σ x1 x2 h
    unfold vX9_thereMany_L4 at h
    refine r_iload_n hc dX9_thereMany_4 rfl ?_
    refine r_aload_n hc dX9_thereMany_5 rfl ?_
    refine r_get (v := .int (rd σ 0 5)) hc iX9_thereMany_X9 (Nat.lt_of_lt_of_le (by decide) hn) rfl rfl rfl 5 (by decide) fX9_thereMany_71 rfl dX9_thereMany_6 ?_
    refine r_icmp_ge (tgt := 35) hc dX9_thereMany_9 (by decide) (fun hq2 => ?_) (fun hq2 => ?_)
    · replace h := h.1 hq2
      refine r_iload_n hc dX9_thereMany_35 rfl ?_
      exact e_i hc hr hlk h dX9_thereMany_36
    · replace h := h.2 hq2
      refine r_iload_n hc dX9_thereMany_12 rfl ?_
      refine r_aload_n hc dX9_thereMany_13 rfl ?_
      refine r_get (v := .ref (ad 6)) hc iX9_thereMany_X9 (Nat.lt_of_lt_of_le (by decide) hn) rfl rfl rfl 8 (by decide) fX9_thereMany_25 rfl dX9_thereMany_14 ?_
      refine r_iload_n hc dX9_thereMany_17 rfl ?_
      refine r_zald hc (Nat.lt_of_lt_of_le (by decide) hn) rfl rfl h.1 dX9_thereMany_18 ?_
      replace h := h.2
      refine r_if_eq (tgt := 26) hc dX9_thereMany_19 (by decide) (fun hq1 => ?_) (fun hq1 => ?_)
      · replace h := h.1 hq1
        refine r_iconst (v := 0) hc dX9_thereMany_26 (by decide) ?_
        refine r_iadd hc dX9_thereMany_27 ?_
        refine r_istore_n hc dX9_thereMany_28 rfl (by decide) (s1 trivial) ?_
        refine r_iinc (v := x2 + 1) hc dX9_thereMany_29 rfl rfl (by decide) (ss (s1 trivial)) ?_
        refine r_goto (tgt := 4) hc dX9_thereMany_32 (by decide) ?_
        exact r_weak (wk (wk (wk w0))) (ih _ _ _ h)
      · replace h := h.2 hq1
        refine r_iconst (v := 1) hc dX9_thereMany_22 (by decide) ?_
        refine r_goto (tgt := 27) hc dX9_thereMany_23 (by decide) ?_
        refine r_iadd hc dX9_thereMany_27 ?_
        refine r_istore_n hc dX9_thereMany_28 rfl (by decide) (s1 trivial) ?_
        refine r_iinc (v := x2 + 1) hc dX9_thereMany_29 rfl rfl (by decide) (ss (s1 trivial)) ?_
        refine r_goto (tgt := 4) hc dX9_thereMany_32 (by decide) ?_
        exact r_weak (wk (wk (wk w0))) (ih _ _ _ h)
set_option maxHeartbeats 4000000 in
set_option maxRecDepth 100000 in
theorem zX9_thereMany {cy : Nat → ClassId} {ad : Nat → Nat} {n : Nat} {D : va_G} {A : Nat → Prop} {l : Launch} (hn : 17 ≤ n) (σ : St) : Ci TR cy ad n D A l yX9_thereMany wsX9_thereMany rmX9_thereMany σ [.ref (ad 0)] (fun Q => vX9_thereMany Q σ ) := by
  intro Q h
  refine startW (cc := cX9_thereMany) (nL := 3) (own := RX9) (lo := [some (.ref (ad 0)), none, none]) (by decide) rfl rfl (lo_start (av := [.ref (ad 0)]) (k := 2) (allc1_ok (l := [.ref (ad 0)]) trivial)) (Nat.le_of_ble_eq_true rfl) (fun p e s m args below meth c hc hr hlk => ?_)
  unfold vX9_thereMany at h
  refine r_iconst (v := 0) hc dX9_thereMany_0 (by decide) ?_
  refine r_istore_n hc dX9_thereMany_1 rfl (by decide) (s1 trivial) ?_
  refine r_iconst (v := 0) hc dX9_thereMany_2 (by decide) ?_
  refine r_istore_n hc dX9_thereMany_3 rfl (by decide) (ss (s1 trivial)) ?_
  obtain ⟨e4, h⟩ := h
  exact r_weak (wk (wk (wk w0))) (tvX9_thereMany_L4 hn hc hr hlk e4 _ _ _ h)
theorem iX9_count_X9 : ∀ w ∈ u_ws RX9 TX9 25, w ∈ wsX9_count := by decide +kernel
theorem fX9_count_60 : Cond.fieldLink RX9 60 (TX9 0).1 (TX9 0).2.1 (TX9 0).2.2.1 ∈ wsX9_count := by decide +kernel
theorem fX9_count_64 : Cond.fieldLink RX9 64 (TX9 1).1 (TX9 1).2.1 (TX9 1).2.2.1 ∈ wsX9_count := by decide +kernel
theorem fX9_count_71 : Cond.fieldLink RX9 71 (TX9 5).1 (TX9 5).2.1 (TX9 5).2.2.1 ∈ wsX9_count := by decide +kernel
theorem fX9_count_157 : Cond.fieldLink RX9 157 (TX9 15).1 (TX9 15).2.1 (TX9 15).2.2.1 ∈ wsX9_count := by decide +kernel
theorem oX9_count_74 : Jvm.Cond.constant RX9 74 (-2000000002) ∈ wsX9_count := by decide +kernel
theorem fX9_count_38 : Cond.fieldLink RX9 38 (TX9 12).1 (TX9 12).2.1 (TX9 12).2.2.1 ∈ wsX9_count := by decide +kernel
set_option maxHeartbeats 4000000 in
set_option maxRecDepth 100000 in
theorem tvX9_count_L105 {cy : Nat → ClassId} {ad : Nat → Nat} {n : Nat} {D : va_G} {A : Nat → Prop} {l : Launch} {p : Program} {e : Env} {s : State} {m : MethodId} {args : Array Value} {below : List Frame} {meth : Method} {c : Code} {Q : Int32 → St → Prop} (hn : 17 ≤ n) (hc : CX p s m args c D cy cX9_count 4 RX9 wsX9_count) (hr : meth.sig.returnType = some .int) (hlk : meth.locks = false) : ∀ (q105 : Nat) (σ : St) (x2 : Int32) (x3 : Int32), vX9_count_L105 Q q105 σ x2 x3 → WV TR cy ad n D A p l e rmX9_count s m args below meth c 4 (MQ below (va_Qi Q (Bw TR cy ad n D) A) args s 0 0 A) σ [some (.ref (ad 0)), none, some (.int x2), some (.int x3)] [] 105 := by
  intro q105
  induction q105 with
  | zero =>
    intro σ x2 x3 h
    exact h.elim
  | succ q105 ih =>
    intro σ x2 x3 h
    unfold vX9_count_L105 at h
    refine r_iload_n hc dX9_count_105 rfl ?_
    refine r_aload_n hc dX9_count_106 rfl ?_
    refine r_callVi hc (zX9_all hn σ) h (Nat.lt_of_lt_of_le (by decide) hn) rfl rfl rfl (cwV 0 hc.2.2.2.2.1 gX9_count_X9_all rfl rfl rfl qX9_all ⟨Nat.le_of_ble_eq_true rfl, Nat.le_of_ble_eq_true rfl⟩) rfl rfl (Nat.le_of_ble_eq_true rfl) dX9_count_107 (fun r10 σ9 h => ?_)
    refine r_icmp_ge (tgt := 140) hc dX9_count_110 (by decide) (fun hq14 => ?_) (fun hq14 => ?_)
    · replace h := h.1 hq14
      refine r_iload_n hc dX9_count_140 rfl ?_
      exact e_i hc hr hlk h dX9_count_141
    · replace h := h.2 hq14
      refine r_iload_n hc dX9_count_113 rfl ?_
      refine r_aload_n hc dX9_count_114 rfl ?_
      refine r_get (v := .ref (ad 10)) hc iX9_count_X9 (Nat.lt_of_lt_of_le (by decide) hn) rfl rfl rfl 12 (by decide) fX9_count_38 rfl dX9_count_115 ?_
      refine r_iload_n hc dX9_count_118 rfl ?_
      refine r_zald hc (Nat.lt_of_lt_of_le (by decide) hn) rfl rfl h.1 dX9_count_119 ?_
      replace h := h.2
      refine r_if_eq (tgt := 131) hc dX9_count_120 (by decide) (fun hq13 => ?_) (fun hq13 => ?_)
      · replace h := h.1 hq13
        refine r_iconst (v := 0) hc dX9_count_131 (by decide) ?_
        refine r_iadd hc dX9_count_132 ?_
        refine r_istore_n hc dX9_count_133 rfl (by decide) (ss (s1 trivial)) ?_
        refine r_iinc (v := x3 + 1) hc dX9_count_134 rfl rfl (by decide) (ss (ss (s1 trivial))) ?_
        refine r_goto (tgt := 105) hc dX9_count_137 (by decide) ?_
        exact r_weak (wk (wn (wk (wk w0)))) (ih _ _ _ h)
      · replace h := h.2 hq13
        refine r_aload_n hc dX9_count_123 rfl ?_
        refine r_iload_n hc dX9_count_124 rfl ?_
        refine r_callVi hc (zX9_sizeOf hn σ9 x3) h (Nat.lt_of_lt_of_le (by decide) hn) rfl rfl rfl (cwV 1 hc.2.2.2.2.1 gX9_count_X9_sizeOf rfl rfl rfl qX9_sizeOf ⟨Nat.le_of_ble_eq_true rfl, Nat.le_of_ble_eq_true rfl⟩) rfl rfl (Nat.le_of_ble_eq_true rfl) dX9_count_125 (fun r12 σ11 h => ?_)
        refine r_goto (tgt := 132) hc dX9_count_128 (by decide) ?_
        refine r_iadd hc dX9_count_132 ?_
        refine r_istore_n hc dX9_count_133 rfl (by decide) (ss (s1 trivial)) ?_
        refine r_iinc (v := x3 + 1) hc dX9_count_134 rfl rfl (by decide) (ss (ss (s1 trivial))) ?_
        refine r_goto (tgt := 105) hc dX9_count_137 (by decide) ?_
        exact r_weak (wk (wn (wk (wk w0)))) (ih _ _ _ h)
set_option maxHeartbeats 4000000 in
set_option maxRecDepth 100000 in
theorem tvX9_count_L65 {cy : Nat → ClassId} {ad : Nat → Nat} {n : Nat} {D : va_G} {A : Nat → Prop} {l : Launch} {p : Program} {e : Env} {s : State} {m : MethodId} {args : Array Value} {below : List Frame} {meth : Method} {c : Code} {Q : Int32 → St → Prop} (hn : 17 ≤ n) (hc : CX p s m args c D cy cX9_count 4 RX9 wsX9_count) (hr : meth.sig.returnType = some .int) (hlk : meth.locks = false) : ∀ (q65 : Nat) (σ : St) (x2 : Int32) (x3 : Int32), vX9_count_L65 Q q65 σ x2 x3 → WV TR cy ad n D A p l e rmX9_count s m args below meth c 4 (MQ below (va_Qi Q (Bw TR cy ad n D) A) args s 0 0 A) σ [some (.ref (ad 0)), none, some (.int x2), some (.int x3)] [] 65 := by
  intro q65
  induction q65 with
  | zero =>
    intro σ x2 x3 h
    exact h.elim
  | succ q65 ih =>
    intro σ x2 x3 h
    unfold vX9_count_L65 at h
    refine r_iload_n hc dX9_count_65 rfl ?_
    refine r_aload_n hc dX9_count_66 rfl ?_
    refine r_callVi hc (zX9_all hn σ) h (Nat.lt_of_lt_of_le (by decide) hn) rfl rfl rfl (cwV 0 hc.2.2.2.2.1 gX9_count_X9_all rfl rfl rfl qX9_all ⟨Nat.le_of_ble_eq_true rfl, Nat.le_of_ble_eq_true rfl⟩) rfl rfl (Nat.le_of_ble_eq_true rfl) dX9_count_67 (fun r16 σ15 h => ?_)
    refine r_icmp_ge (tgt := 96) hc dX9_count_70 (by decide) (fun hq18 => ?_) (fun hq18 => ?_)
    · replace h := h.1 hq18
      refine r_iload_n hc dX9_count_96 rfl ?_
      exact e_i hc hr hlk h dX9_count_97
    · replace h := h.2 hq18
      refine r_iload_n hc dX9_count_73 rfl ?_
      refine r_aload_n hc dX9_count_74 rfl ?_
      refine r_get (v := .ref (ad 10)) hc iX9_count_X9 (Nat.lt_of_lt_of_le (by decide) hn) rfl rfl rfl 12 (by decide) fX9_count_38 rfl dX9_count_75 ?_
      refine r_iload_n hc dX9_count_78 rfl ?_
      refine r_zald hc (Nat.lt_of_lt_of_le (by decide) hn) rfl rfl h.1 dX9_count_79 ?_
      replace h := h.2
      refine r_if_eq (tgt := 87) hc dX9_count_80 (by decide) (fun hq17 => ?_) (fun hq17 => ?_)
      · replace h := h.1 hq17
        refine r_iconst (v := 0) hc dX9_count_87 (by decide) ?_
        refine r_iadd hc dX9_count_88 ?_
        refine r_istore_n hc dX9_count_89 rfl (by decide) (ss (s1 trivial)) ?_
        refine r_iinc (v := x3 + 1) hc dX9_count_90 rfl rfl (by decide) (ss (ss (s1 trivial))) ?_
        refine r_goto (tgt := 65) hc dX9_count_93 (by decide) ?_
        exact r_weak (wk (wn (wk (wk w0)))) (ih _ _ _ h)
      · replace h := h.2 hq17
        refine r_iconst (v := 1) hc dX9_count_83 (by decide) ?_
        refine r_goto (tgt := 88) hc dX9_count_84 (by decide) ?_
        refine r_iadd hc dX9_count_88 ?_
        refine r_istore_n hc dX9_count_89 rfl (by decide) (ss (s1 trivial)) ?_
        refine r_iinc (v := x3 + 1) hc dX9_count_90 rfl rfl (by decide) (ss (ss (s1 trivial))) ?_
        refine r_goto (tgt := 65) hc dX9_count_93 (by decide) ?_
        exact r_weak (wk (wn (wk (wk w0)))) (ih _ _ _ h)
set_option maxHeartbeats 4000000 in
set_option maxRecDepth 100000 in
theorem zX9_count {cy : Nat → ClassId} {ad : Nat → Nat} {n : Nat} {D : va_G} {A : Nat → Prop} {l : Launch} (hn : 17 ≤ n) (σ : St) (x1 : Int32) : Ci TR cy ad n D A l yX9_count wsX9_count rmX9_count σ [.ref (ad 0), .int x1] (fun Q => vX9_count Q σ x1) := by
  intro Q h
  refine startW (cc := cX9_count) (nL := 4) (own := RX9) (lo := [some (.ref (ad 0)), some (.int x1), none, none]) (by decide) rfl rfl (lo_start (av := [.ref (ad 0), .int x1]) (k := 2) (allc1_ok (l := [.ref (ad 0), .int x1]) trivial)) (Nat.le_of_ble_eq_true rfl) (fun p e s m args below meth c hc hr hlk => ?_)
  unfold vX9_count at h
  refine r_aload_n hc dX9_count_0 rfl ?_
  refine r_iconst (v := 0) hc dX9_count_1 (by decide) ?_
  refine r_put hc iX9_count_X9 tyX9_ok nmX9 (Nat.lt_of_lt_of_le (by decide) hn) rfl rfl rfl 0 (by decide) (Nat.le_of_ble_eq_true rfl) fX9_count_60 rfl (by decide +kernel) rfl dX9_count_2 ?_
  refine r_iconst (v := 0) hc dX9_count_5 (by decide) ?_
  refine r_istore_n hc dX9_count_6 rfl (by decide) (ss (s1 trivial)) ?_
  refine r_iload_n hc dX9_count_7 rfl ?_
  by_cases hq1 : x1 = 0
  · replace h := h.1 hq1
    refine r_tabIn (tgt := 48) hc dX9_count_8 (by rw [hq1]; decide) (by rw [hq1]; decide) (by rw [hq1]; rfl) (by decide) ?_
    refine r_aload_n hc dX9_count_48 rfl ?_
    refine r_get (v := .int (rd (wr σ 0 0 0) 0 1)) hc iX9_count_X9 (Nat.lt_of_lt_of_le (by decide) hn) rfl rfl rfl 1 (by decide) fX9_count_64 rfl dX9_count_49 ?_
    exact e_i hc hr hlk h dX9_count_52
  · replace h := h.2 hq1
    by_cases hq2 : x1 = 1
    · replace h := h.1 hq2
      refine r_tabIn (tgt := 53) hc dX9_count_8 (by rw [hq2]; decide) (by rw [hq2]; decide) (by rw [hq2]; rfl) (by decide) ?_
      refine r_aload_n hc dX9_count_53 rfl ?_
      refine r_get (v := .int (rd (wr σ 0 0 0) 0 5)) hc iX9_count_X9 (Nat.lt_of_lt_of_le (by decide) hn) rfl rfl rfl 5 (by decide) fX9_count_71 rfl dX9_count_54 ?_
      exact e_i hc hr hlk h dX9_count_57
    · replace h := h.2 hq2
      by_cases hq5 : x1 = 2
      · replace h := h.1 hq5
        refine r_tabIn (tgt := 58) hc dX9_count_8 (by rw [hq5]; decide) (by rw [hq5]; decide) (by rw [hq5]; rfl) (by decide) ?_
        refine r_aload_n hc dX9_count_58 rfl ?_
        refine r_callVi hc (zX9_thereMany hn (wr σ 0 0 0)) h (Nat.lt_of_lt_of_le (by decide) hn) rfl rfl rfl (cwV 0 hc.2.2.2.2.1 gX9_count_X9_thereMany rfl rfl rfl qX9_thereMany ⟨Nat.le_of_ble_eq_true rfl, Nat.le_of_ble_eq_true rfl⟩) rfl rfl (Nat.le_of_ble_eq_true rfl) dX9_count_59 (fun r4 σ3 h => ?_)
        exact e_i hc hr hlk h dX9_count_62
      · replace h := h.2 hq5
        by_cases hq6 : x1 = 3
        · replace h := h.1 hq6
          refine r_tabIn (tgt := 63) hc dX9_count_8 (by rw [hq6]; decide) (by rw [hq6]; decide) (by rw [hq6]; rfl) (by decide) ?_
          refine r_iconst (v := 0) hc dX9_count_63 (by decide) ?_
          refine r_istore_n hc dX9_count_64 rfl (by decide) (ss (ss (s1 trivial))) ?_
          obtain ⟨e65, h⟩ := h
          exact r_weak (wk (wn (wk (wk w0)))) (tvX9_count_L65 hn hc hr hlk e65 _ _ _ h)
        · replace h := h.2 hq6
          by_cases hq7 : x1 = 4
          · replace h := h.1 hq7
            refine r_tabIn (tgt := 98) hc dX9_count_8 (by rw [hq7]; decide) (by rw [hq7]; decide) (by rw [hq7]; rfl) (by decide) ?_
            refine r_aload_n hc dX9_count_98 rfl ?_
            refine r_get (v := .int (rd (wr σ 0 0 0) 0 15)) hc iX9_count_X9 (Nat.lt_of_lt_of_le (by decide) hn) rfl rfl rfl 15 (by decide) fX9_count_157 rfl dX9_count_99 ?_
            exact e_i hc hr hlk h dX9_count_102
          · replace h := h.2 hq7
            by_cases hq8 : x1 = 5
            · replace h := h.1 hq8
              refine r_tabIn (tgt := 103) hc dX9_count_8 (by rw [hq8]; decide) (by rw [hq8]; decide) (by rw [hq8]; rfl) (by decide) ?_
              refine r_iconst (v := 0) hc dX9_count_103 (by decide) ?_
              refine r_istore_n hc dX9_count_104 rfl (by decide) (ss (ss (s1 trivial))) ?_
              obtain ⟨e105, h⟩ := h
              exact r_weak (wk (wn (wk (wk w0)))) (tvX9_count_L105 hn hc hr hlk e105 _ _ _ h)
            · replace h := h.2 hq8
              replace hq1 := i32ne hq1
              replace hq2 := i32ne hq2
              replace hq5 := i32ne hq5
              replace hq6 := i32ne hq6
              replace hq7 := i32ne hq7
              replace hq8 := i32ne hq8
              refine r_tabOut (tgt := 142) hc dX9_count_8 (by rw [show (((0 : Int32)).toInt) = 0 by decide] at hq1; rw [show (((1 : Int32)).toInt) = 1 by decide] at hq2; rw [show (((2 : Int32)).toInt) = 2 by decide] at hq5; rw [show (((3 : Int32)).toInt) = 3 by decide] at hq6; rw [show (((4 : Int32)).toInt) = 4 by decide] at hq7; rw [show (((5 : Int32)).toInt) = 5 by decide] at hq8; omega) (by decide) ?_
              refine r_ldc (v := (-2000000002)) hc dX9_count_142 oX9_count_74 ?_
              exact e_i hc hr hlk h dX9_count_144
theorem iX9_cuboids_X9 : ∀ w ∈ u_ws RX9 TX9 25, w ∈ wsX9_cuboids := by decide +kernel
theorem fX9_cuboids_60 : Cond.fieldLink RX9 60 (TX9 0).1 (TX9 0).2.1 (TX9 0).2.2.1 ∈ wsX9_cuboids := by decide +kernel
set_option maxHeartbeats 4000000 in
set_option maxRecDepth 100000 in
theorem zX9_cuboids {cy : Nat → ClassId} {ad : Nat → Nat} {n : Nat} {D : va_G} {A : Nat → Prop} {l : Launch} (hn : 17 ≤ n) (σ : St) : Ci TR cy ad n D A l yX9_cuboids wsX9_cuboids rmX9_cuboids σ [.ref (ad 0)] (fun Q => vX9_cuboids Q σ ) := by
  intro Q h
  refine startW (cc := cX9_cuboids) (nL := 1) (own := RX9) (lo := [some (.ref (ad 0))]) (by decide) rfl rfl (lo_start (av := [.ref (ad 0)]) (k := 0) (allc1_ok (l := [.ref (ad 0)]) trivial)) (Nat.le_of_ble_eq_true rfl) (fun p e s m args below meth c hc hr hlk => ?_)
  unfold vX9_cuboids at h
  refine r_aload_n hc dX9_cuboids_0 rfl ?_
  refine r_iconst (v := 0) hc dX9_cuboids_1 (by decide) ?_
  refine r_put hc iX9_cuboids_X9 tyX9_ok nmX9 (Nat.lt_of_lt_of_le (by decide) hn) rfl rfl rfl 0 (by decide) (Nat.le_of_ble_eq_true rfl) fX9_cuboids_60 rfl (by decide +kernel) rfl dX9_cuboids_2 ?_
  refine r_aload_n hc dX9_cuboids_5 rfl ?_
  refine r_callVi hc (zX9_all hn (wr σ 0 0 0)) h (Nat.lt_of_lt_of_le (by decide) hn) rfl rfl rfl (cwV 0 hc.2.2.2.2.1 gX9_cuboids_X9_all rfl rfl rfl qX9_all ⟨Nat.le_of_ble_eq_true rfl, Nat.le_of_ble_eq_true rfl⟩) rfl rfl (Nat.le_of_ble_eq_true rfl) dX9_cuboids_6 (fun r2 σ1 h => ?_)
  exact e_i hc hr hlk h dX9_cuboids_9
theorem iX9_dimension_X9 : ∀ w ∈ u_ws RX9 TX9 25, w ∈ wsX9_dimension := by decide +kernel
theorem fX9_dimension_60 : Cond.fieldLink RX9 60 (TX9 0).1 (TX9 0).2.1 (TX9 0).2.2.1 ∈ wsX9_dimension := by decide +kernel
theorem oX9_dimension_74 : Jvm.Cond.constant RX9 74 (-2000000002) ∈ wsX9_dimension := by decide +kernel
theorem fX9_dimension_71 : Cond.fieldLink RX9 71 (TX9 5).1 (TX9 5).2.1 (TX9 5).2.2.1 ∈ wsX9_dimension := by decide +kernel
theorem fX9_dimension_64 : Cond.fieldLink RX9 64 (TX9 1).1 (TX9 1).2.1 (TX9 1).2.2.1 ∈ wsX9_dimension := by decide +kernel
theorem oX9_dimension_76 : Jvm.Cond.constant RX9 76 (-2000000004) ∈ wsX9_dimension := by decide +kernel
theorem fX9_dimension_7 : Cond.fieldLink RX9 7 (TX9 2).1 (TX9 2).2.1 (TX9 2).2.2.1 ∈ wsX9_dimension := by decide +kernel
theorem fX9_dimension_13 : Cond.fieldLink RX9 13 (TX9 3).1 (TX9 3).2.1 (TX9 3).2.2.1 ∈ wsX9_dimension := by decide +kernel
theorem fX9_dimension_32 : Cond.fieldLink RX9 32 (TX9 10).1 (TX9 10).2.1 (TX9 10).2.2.1 ∈ wsX9_dimension := by decide +kernel
theorem fX9_dimension_35 : Cond.fieldLink RX9 35 (TX9 11).1 (TX9 11).2.1 (TX9 11).2.2.1 ∈ wsX9_dimension := by decide +kernel
theorem oX9_dimension_75 : Jvm.Cond.constant RX9 75 (-2000000003) ∈ wsX9_dimension := by decide +kernel
set_option maxHeartbeats 4000000 in
set_option maxRecDepth 100000 in
theorem zX9_dimension {cy : Nat → ClassId} {ad : Nat → Nat} {n : Nat} {D : va_G} {A : Nat → Prop} {l : Launch} (hn : 17 ≤ n) (σ : St) (x1 : Int32) : Ci TR cy ad n D A l yX9_dimension wsX9_dimension rmX9_dimension σ [.ref (ad 0), .int x1] (fun Q => vX9_dimension Q σ x1) := by
  intro Q h
  refine startW (cc := cX9_dimension) (nL := 2) (own := RX9) (lo := [some (.ref (ad 0)), some (.int x1)]) (by decide) rfl rfl (lo_start (av := [.ref (ad 0), .int x1]) (k := 0) (allc1_ok (l := [.ref (ad 0), .int x1]) trivial)) (Nat.le_of_ble_eq_true rfl) (fun p e s m args below meth c hc hr hlk => ?_)
  unfold vX9_dimension at h
  refine r_aload_n hc dX9_dimension_0 rfl ?_
  refine r_iconst (v := 0) hc dX9_dimension_1 (by decide) ?_
  refine r_put hc iX9_dimension_X9 tyX9_ok nmX9 (Nat.lt_of_lt_of_le (by decide) hn) rfl rfl rfl 0 (by decide) (Nat.le_of_ble_eq_true rfl) fX9_dimension_60 rfl (by decide +kernel) rfl dX9_dimension_2 ?_
  refine r_iload_n hc dX9_dimension_5 rfl ?_
  refine r_iconst (v := 1) hc dX9_dimension_6 (by decide) ?_
  refine r_bipush (v := 8) hc dX9_dimension_7 (by decide) ?_
  refine r_callSi hc (zX9_in hn (wr σ 0 0 0) x1 1 8) h (va_cwS 3 hc.2.2.2.2.1 gX9_dimension_X9_in rfl rfl rfl qX9_in ⟨Nat.le_of_ble_eq_true rfl, Nat.le_of_ble_eq_true rfl⟩) rfl rfl (Nat.le_of_ble_eq_true rfl) dX9_dimension_9 (fun r2 σ1 h => ?_)
  refine r_if_ne (tgt := 18) hc dX9_dimension_12 (by decide) (fun hq6 => ?_) (fun hq6 => ?_)
  · replace h := h.1 hq6
    refine r_ldc (v := (-2000000002)) hc dX9_dimension_15 oX9_dimension_74 ?_
    exact e_i hc hr hlk h dX9_dimension_17
  · replace h := h.2 hq6
    refine r_aload_n hc dX9_dimension_18 rfl ?_
    refine r_get (v := .int (rd σ1 0 5)) hc iX9_dimension_X9 (Nat.lt_of_lt_of_le (by decide) hn) rfl rfl rfl 5 (by decide) fX9_dimension_71 rfl dX9_dimension_19 ?_
    refine r_if_le (tgt := 28) hc dX9_dimension_22 (by decide) (fun hq5 => ?_) (fun hq5 => ?_)
    · replace h := h.1 hq5
      refine r_aload_n hc dX9_dimension_28 rfl ?_
      refine r_get (v := .int (rd σ1 0 1)) hc iX9_dimension_X9 (Nat.lt_of_lt_of_le (by decide) hn) rfl rfl rfl 1 (by decide) fX9_dimension_64 rfl dX9_dimension_29 ?_
      refine r_iconst (v := 4) hc dX9_dimension_32 (by decide) ?_
      refine r_icmp_ne (tgt := 39) hc dX9_dimension_33 (by decide) (fun hq4 => ?_) (fun hq4 => ?_)
      · replace h := h.1 hq4
        refine r_ldc (v := (-2000000004)) hc dX9_dimension_36 oX9_dimension_76 ?_
        exact e_i hc hr hlk h dX9_dimension_38
      · replace h := h.2 hq4
        refine r_aload_n hc dX9_dimension_39 rfl ?_
        refine r_get (v := .ref (ad 1)) hc iX9_dimension_X9 (Nat.lt_of_lt_of_le (by decide) hn) rfl rfl rfl 2 (by decide) fX9_dimension_7 rfl dX9_dimension_40 ?_
        refine r_aload_n hc dX9_dimension_43 rfl ?_
        refine r_get (v := .int (rd σ1 0 1)) hc iX9_dimension_X9 (Nat.lt_of_lt_of_le (by decide) hn) rfl rfl rfl 1 (by decide) fX9_dimension_64 rfl dX9_dimension_44 ?_
        refine r_iconst (v := 1) hc dX9_dimension_47 (by decide) ?_
        refine r_iast hc (Nat.lt_of_lt_of_le (by decide) hn) rfl rfl h.1 dX9_dimension_48 ?_
        replace h := h.2
        refine r_aload_n hc dX9_dimension_49 rfl ?_
        refine r_get (v := .ref (ad 2)) hc iX9_dimension_X9 (Nat.lt_of_lt_of_le (by decide) hn) rfl rfl rfl 3 (by decide) fX9_dimension_13 rfl dX9_dimension_50 ?_
        refine r_iconst (v := 3) hc dX9_dimension_53 (by decide) ?_
        refine r_aload_n hc dX9_dimension_54 rfl ?_
        refine r_get (v := .int (rd (wr σ1 1 (rd σ1 0 1).toNatClampNeg 1) 0 1)) hc iX9_dimension_X9 (Nat.lt_of_lt_of_le (by decide) hn) rfl rfl rfl 1 (by decide) fX9_dimension_64 rfl dX9_dimension_55 ?_
        refine r_imul hc dX9_dimension_58 ?_
        refine r_iload_n hc dX9_dimension_59 rfl ?_
        refine r_iast hc (Nat.lt_of_lt_of_le (by decide) hn) rfl rfl h.1 dX9_dimension_60 ?_
        replace h := h.2
        refine r_aload_n hc dX9_dimension_61 rfl ?_
        refine r_get (v := .ref (ad 8)) hc iX9_dimension_X9 (Nat.lt_of_lt_of_le (by decide) hn) rfl rfl rfl 10 (by decide) fX9_dimension_32 rfl dX9_dimension_62 ?_
        refine r_aload_n hc dX9_dimension_65 rfl ?_
        refine r_get (v := .int (rd (wr (wr σ1 1 (rd σ1 0 1).toNatClampNeg 1) 2 (3 * (rd (wr σ1 1 (rd σ1 0 1).toNatClampNeg 1) 0 1)).toNatClampNeg x1) 0 1)) hc iX9_dimension_X9 (Nat.lt_of_lt_of_le (by decide) hn) rfl rfl rfl 1 (by decide) fX9_dimension_64 rfl dX9_dimension_66 ?_
        refine r_iconst (v := 1) hc dX9_dimension_69 (by decide) ?_
        refine r_iast hc (Nat.lt_of_lt_of_le (by decide) hn) rfl rfl h.1 dX9_dimension_70 ?_
        replace h := h.2
        refine r_aload_n hc dX9_dimension_71 rfl ?_
        refine r_get (v := .ref (ad 9)) hc iX9_dimension_X9 (Nat.lt_of_lt_of_le (by decide) hn) rfl rfl rfl 11 (by decide) fX9_dimension_35 rfl dX9_dimension_72 ?_
        refine r_aload_n hc dX9_dimension_75 rfl ?_
        refine r_get (v := .int (rd (wr (wr (wr σ1 1 (rd σ1 0 1).toNatClampNeg 1) 2 (3 * (rd (wr σ1 1 (rd σ1 0 1).toNatClampNeg 1) 0 1)).toNatClampNeg x1) 8 (rd (wr (wr σ1 1 (rd σ1 0 1).toNatClampNeg 1) 2 (3 * (rd (wr σ1 1 (rd σ1 0 1).toNatClampNeg 1) 0 1)).toNatClampNeg x1) 0 1).toNatClampNeg 1) 0 1)) hc iX9_dimension_X9 (Nat.lt_of_lt_of_le (by decide) hn) rfl rfl rfl 1 (by decide) fX9_dimension_64 rfl dX9_dimension_76 ?_
        refine r_iconst (v := 0) hc dX9_dimension_79 (by decide) ?_
        refine r_iast hc (Nat.lt_of_lt_of_le (by decide) hn) rfl rfl h.1 dX9_dimension_80 ?_
        replace h := h.2
        refine r_aload_n hc dX9_dimension_81 rfl ?_
        refine r_dup hc dX9_dimension_82 rfl ?_
        refine r_get (v := .int (rd (wr (wr (wr (wr σ1 1 (rd σ1 0 1).toNatClampNeg 1) 2 (3 * (rd (wr σ1 1 (rd σ1 0 1).toNatClampNeg 1) 0 1)).toNatClampNeg x1) 8 (rd (wr (wr σ1 1 (rd σ1 0 1).toNatClampNeg 1) 2 (3 * (rd (wr σ1 1 (rd σ1 0 1).toNatClampNeg 1) 0 1)).toNatClampNeg x1) 0 1).toNatClampNeg 1) 9 (rd (wr (wr (wr σ1 1 (rd σ1 0 1).toNatClampNeg 1) 2 (3 * (rd (wr σ1 1 (rd σ1 0 1).toNatClampNeg 1) 0 1)).toNatClampNeg x1) 8 (rd (wr (wr σ1 1 (rd σ1 0 1).toNatClampNeg 1) 2 (3 * (rd (wr σ1 1 (rd σ1 0 1).toNatClampNeg 1) 0 1)).toNatClampNeg x1) 0 1).toNatClampNeg 1) 0 1).toNatClampNeg 0) 0 1)) hc iX9_dimension_X9 (Nat.lt_of_lt_of_le (by decide) hn) rfl rfl rfl 1 (by decide) fX9_dimension_64 rfl dX9_dimension_83 ?_
        refine r_iconst (v := 1) hc dX9_dimension_86 (by decide) ?_
        refine r_iadd hc dX9_dimension_87 ?_
        refine r_put hc iX9_dimension_X9 tyX9_ok nmX9 (Nat.lt_of_lt_of_le (by decide) hn) rfl rfl rfl 1 (by decide) (Nat.le_of_ble_eq_true rfl) fX9_dimension_64 rfl (by decide +kernel) rfl dX9_dimension_88 ?_
        refine r_aload_n hc dX9_dimension_91 rfl ?_
        refine r_callVv hc (zX9_keepNone hn (wr (wr (wr (wr (wr σ1 1 (rd σ1 0 1).toNatClampNeg 1) 2 (3 * (rd (wr σ1 1 (rd σ1 0 1).toNatClampNeg 1) 0 1)).toNatClampNeg x1) 8 (rd (wr (wr σ1 1 (rd σ1 0 1).toNatClampNeg 1) 2 (3 * (rd (wr σ1 1 (rd σ1 0 1).toNatClampNeg 1) 0 1)).toNatClampNeg x1) 0 1).toNatClampNeg 1) 9 (rd (wr (wr (wr σ1 1 (rd σ1 0 1).toNatClampNeg 1) 2 (3 * (rd (wr σ1 1 (rd σ1 0 1).toNatClampNeg 1) 0 1)).toNatClampNeg x1) 8 (rd (wr (wr σ1 1 (rd σ1 0 1).toNatClampNeg 1) 2 (3 * (rd (wr σ1 1 (rd σ1 0 1).toNatClampNeg 1) 0 1)).toNatClampNeg x1) 0 1).toNatClampNeg 1) 0 1).toNatClampNeg 0) 0 1 ((rd (wr (wr (wr (wr σ1 1 (rd σ1 0 1).toNatClampNeg 1) 2 (3 * (rd (wr σ1 1 (rd σ1 0 1).toNatClampNeg 1) 0 1)).toNatClampNeg x1) 8 (rd (wr (wr σ1 1 (rd σ1 0 1).toNatClampNeg 1) 2 (3 * (rd (wr σ1 1 (rd σ1 0 1).toNatClampNeg 1) 0 1)).toNatClampNeg x1) 0 1).toNatClampNeg 1) 9 (rd (wr (wr (wr σ1 1 (rd σ1 0 1).toNatClampNeg 1) 2 (3 * (rd (wr σ1 1 (rd σ1 0 1).toNatClampNeg 1) 0 1)).toNatClampNeg x1) 8 (rd (wr (wr σ1 1 (rd σ1 0 1).toNatClampNeg 1) 2 (3 * (rd (wr σ1 1 (rd σ1 0 1).toNatClampNeg 1) 0 1)).toNatClampNeg x1) 0 1).toNatClampNeg 1) 0 1).toNatClampNeg 0) 0 1) + 1))) h (Nat.lt_of_lt_of_le (by decide) hn) rfl rfl rfl (cwV 0 hc.2.2.2.2.1 gX9_dimension_X9_keepNone rfl rfl rfl qX9_keepNone ⟨Nat.le_of_ble_eq_true rfl, Nat.le_of_ble_eq_true rfl⟩) rfl rfl (Nat.le_of_ble_eq_true rfl) dX9_dimension_92 (fun σ3 h => ?_)
        refine r_aload_n hc dX9_dimension_95 rfl ?_
        refine r_get (v := .int (rd σ3 0 1)) hc iX9_dimension_X9 (Nat.lt_of_lt_of_le (by decide) hn) rfl rfl rfl 1 (by decide) fX9_dimension_64 rfl dX9_dimension_96 ?_
        refine r_iconst (v := 1) hc dX9_dimension_99 (by decide) ?_
        refine r_isub hc dX9_dimension_100 ?_
        exact e_i hc hr hlk h dX9_dimension_101
    · replace h := h.2 hq5
      refine r_ldc (v := (-2000000003)) hc dX9_dimension_25 oX9_dimension_75 ?_
      exact e_i hc hr hlk h dX9_dimension_27
theorem iX9_drop_X9 : ∀ w ∈ u_ws RX9 TX9 25, w ∈ wsX9_drop := by decide +kernel
theorem fX9_drop_60 : Cond.fieldLink RX9 60 (TX9 0).1 (TX9 0).2.1 (TX9 0).2.2.1 ∈ wsX9_drop := by decide +kernel
theorem fX9_drop_71 : Cond.fieldLink RX9 71 (TX9 5).1 (TX9 5).2.1 (TX9 5).2.2.1 ∈ wsX9_drop := by decide +kernel
theorem oX9_drop_74 : Jvm.Cond.constant RX9 74 (-2000000002) ∈ wsX9_drop := by decide +kernel
theorem fX9_drop_25 : Cond.fieldLink RX9 25 (TX9 8).1 (TX9 8).2.1 (TX9 8).2.2.1 ∈ wsX9_drop := by decide +kernel
theorem oX9_drop_75 : Jvm.Cond.constant RX9 75 (-2000000003) ∈ wsX9_drop := by decide +kernel
theorem fX9_drop_22 : Cond.fieldLink RX9 22 (TX9 7).1 (TX9 7).2.1 (TX9 7).2.2.1 ∈ wsX9_drop := by decide +kernel
set_option maxHeartbeats 4000000 in
set_option maxRecDepth 100000 in
theorem zX9_drop {cy : Nat → ClassId} {ad : Nat → Nat} {n : Nat} {D : va_G} {A : Nat → Prop} {l : Launch} (hn : 17 ≤ n) (σ : St) (x1 : Int32) : Ci TR cy ad n D A l yX9_drop wsX9_drop rmX9_drop σ [.ref (ad 0), .int x1] (fun Q => vX9_drop Q σ x1) := by
  intro Q h
  refine startW (cc := cX9_drop) (nL := 2) (own := RX9) (lo := [some (.ref (ad 0)), some (.int x1)]) (by decide) rfl rfl (lo_start (av := [.ref (ad 0), .int x1]) (k := 0) (allc1_ok (l := [.ref (ad 0), .int x1]) trivial)) (Nat.le_of_ble_eq_true rfl) (fun p e s m args below meth c hc hr hlk => ?_)
  unfold vX9_drop at h
  refine r_aload_n hc dX9_drop_0 rfl ?_
  refine r_iconst (v := 0) hc dX9_drop_1 (by decide) ?_
  refine r_put hc iX9_drop_X9 tyX9_ok nmX9 (Nat.lt_of_lt_of_le (by decide) hn) rfl rfl rfl 0 (by decide) (Nat.le_of_ble_eq_true rfl) fX9_drop_60 rfl (by decide +kernel) rfl dX9_drop_2 ?_
  refine r_iload_n hc dX9_drop_5 rfl ?_
  refine r_iconst (v := 0) hc dX9_drop_6 (by decide) ?_
  refine r_aload_n hc dX9_drop_7 rfl ?_
  refine r_get (v := .int (rd (wr σ 0 0 0) 0 5)) hc iX9_drop_X9 (Nat.lt_of_lt_of_le (by decide) hn) rfl rfl rfl 5 (by decide) fX9_drop_71 rfl dX9_drop_8 ?_
  refine r_iconst (v := 1) hc dX9_drop_11 (by decide) ?_
  refine r_isub hc dX9_drop_12 ?_
  refine r_callSi hc (zX9_in hn (wr σ 0 0 0) x1 0 ((rd (wr σ 0 0 0) 0 5) - 1)) h (va_cwS 3 hc.2.2.2.2.1 gX9_drop_X9_in rfl rfl rfl qX9_in ⟨Nat.le_of_ble_eq_true rfl, Nat.le_of_ble_eq_true rfl⟩) rfl rfl (Nat.le_of_ble_eq_true rfl) dX9_drop_13 (fun r2 σ1 h => ?_)
  refine r_if_ne (tgt := 22) hc dX9_drop_16 (by decide) (fun hq4 => ?_) (fun hq4 => ?_)
  · replace h := h.1 hq4
    refine r_ldc (v := (-2000000002)) hc dX9_drop_19 oX9_drop_74 ?_
    exact e_i hc hr hlk h dX9_drop_21
  · replace h := h.2 hq4
    refine r_aload_n hc dX9_drop_22 rfl ?_
    refine r_get (v := .ref (ad 6)) hc iX9_drop_X9 (Nat.lt_of_lt_of_le (by decide) hn) rfl rfl rfl 8 (by decide) fX9_drop_25 rfl dX9_drop_23 ?_
    refine r_iload_n hc dX9_drop_26 rfl ?_
    refine r_zald hc (Nat.lt_of_lt_of_le (by decide) hn) rfl rfl h.1 dX9_drop_27 ?_
    replace h := h.2
    refine r_if_ne (tgt := 34) hc dX9_drop_28 (by decide) (fun hq3 => ?_) (fun hq3 => ?_)
    · replace h := h.1 hq3
      refine r_ldc (v := (-2000000003)) hc dX9_drop_31 oX9_drop_75 ?_
      exact e_i hc hr hlk h dX9_drop_33
    · replace h := h.2 hq3
      refine r_aload_n hc dX9_drop_34 rfl ?_
      refine r_get (v := .ref (ad 6)) hc iX9_drop_X9 (Nat.lt_of_lt_of_le (by decide) hn) rfl rfl rfl 8 (by decide) fX9_drop_25 rfl dX9_drop_35 ?_
      refine r_iload_n hc dX9_drop_38 rfl ?_
      refine r_iconst (v := 0) hc dX9_drop_39 (by decide) ?_
      refine r_zast hc (Nat.lt_of_lt_of_le (by decide) hn) rfl rfl h.1 dX9_drop_40 ?_
      replace h := h.2
      refine r_aload_n hc dX9_drop_41 rfl ?_
      refine r_get (v := .ref (ad 5)) hc iX9_drop_X9 (Nat.lt_of_lt_of_le (by decide) hn) rfl rfl rfl 7 (by decide) fX9_drop_22 rfl dX9_drop_42 ?_
      refine r_iload_n hc dX9_drop_45 rfl ?_
      refine r_iald hc (Nat.lt_of_lt_of_le (by decide) hn) rfl rfl h.1 dX9_drop_46 ?_
      replace h := h.2
      exact e_i hc hr hlk h dX9_drop_47
theorem iX9_fact_X9 : ∀ w ∈ u_ws RX9 TX9 25, w ∈ wsX9_fact := by decide +kernel
theorem fX9_fact_60 : Cond.fieldLink RX9 60 (TX9 0).1 (TX9 0).2.1 (TX9 0).2.2.1 ∈ wsX9_fact := by decide +kernel
theorem fX9_fact_64 : Cond.fieldLink RX9 64 (TX9 1).1 (TX9 1).2.1 (TX9 1).2.2.1 ∈ wsX9_fact := by decide +kernel
theorem oX9_fact_74 : Jvm.Cond.constant RX9 74 (-2000000002) ∈ wsX9_fact := by decide +kernel
theorem fX9_fact_71 : Cond.fieldLink RX9 71 (TX9 5).1 (TX9 5).2.1 (TX9 5).2.2.1 ∈ wsX9_fact := by decide +kernel
theorem oX9_fact_76 : Jvm.Cond.constant RX9 76 (-2000000004) ∈ wsX9_fact := by decide +kernel
theorem fX9_fact_29 : Cond.fieldLink RX9 29 (TX9 9).1 (TX9 9).2.1 (TX9 9).2.2.1 ∈ wsX9_fact := by decide +kernel
theorem fX9_fact_22 : Cond.fieldLink RX9 22 (TX9 7).1 (TX9 7).2.1 (TX9 7).2.2.1 ∈ wsX9_fact := by decide +kernel
theorem fX9_fact_25 : Cond.fieldLink RX9 25 (TX9 8).1 (TX9 8).2.1 (TX9 8).2.2.1 ∈ wsX9_fact := by decide +kernel
theorem fX9_fact_19 : Cond.fieldLink RX9 19 (TX9 6).1 (TX9 6).2.1 (TX9 6).2.2.1 ∈ wsX9_fact := by decide +kernel
set_option maxHeartbeats 4000000 in
set_option maxRecDepth 100000 in
theorem tvX9_fact_L70 {cy : Nat → ClassId} {ad : Nat → Nat} {n : Nat} {D : va_G} {A : Nat → Prop} {l : Launch} {p : Program} {e : Env} {s : State} {m : MethodId} {args : Array Value} {below : List Frame} {meth : Method} {c : Code} {Q : Int32 → St → Prop} (hn : 17 ≤ n) (hc : CX p s m args c D cy cX9_fact 3 RX9 wsX9_fact) (hr : meth.sig.returnType = some .int) (hlk : meth.locks = false) : ∀ (q70 : Nat) (σ : St) (x1 : Int32) (x2 : Int32), vX9_fact_L70 Q q70 σ x1 x2 → WV TR cy ad n D A p l e rmX9_fact s m args below meth c 3 (MQ below (va_Qi Q (Bw TR cy ad n D) A) args s 0 0 A) σ [some (.ref (ad 0)), some (.int x1), some (.int x2)] [] 70 := by
  intro q70
  induction q70 with
  | zero =>
    intro σ x1 x2 h
    exact h.elim
  | succ q70 ih =>
    intro σ x1 x2 h
    unfold vX9_fact_L70 at h
    refine r_iload_n hc dX9_fact_70 rfl ?_
    refine r_aload_n hc dX9_fact_71 rfl ?_
    refine r_get (v := .int (rd σ 0 1)) hc iX9_fact_X9 (Nat.lt_of_lt_of_le (by decide) hn) rfl rfl rfl 1 (by decide) fX9_fact_64 rfl dX9_fact_72 ?_
    refine r_icmp_ge (tgt := 103) hc dX9_fact_75 (by decide) (fun hq9 => ?_) (fun hq9 => ?_)
    · replace h := h.1 hq9
      refine r_aload_n hc dX9_fact_103 rfl ?_
      refine r_get (v := .ref (ad 5)) hc iX9_fact_X9 (Nat.lt_of_lt_of_le (by decide) hn) rfl rfl rfl 7 (by decide) fX9_fact_22 rfl dX9_fact_104 ?_
      refine r_aload_n hc dX9_fact_107 rfl ?_
      refine r_get (v := .int (rd σ 0 5)) hc iX9_fact_X9 (Nat.lt_of_lt_of_le (by decide) hn) rfl rfl rfl 5 (by decide) fX9_fact_71 rfl dX9_fact_108 ?_
      refine r_iload_n hc dX9_fact_111 rfl ?_
      refine r_iast hc (Nat.lt_of_lt_of_le (by decide) hn) rfl rfl h.1 dX9_fact_112 ?_
      replace h := h.2
      refine r_aload_n hc dX9_fact_113 rfl ?_
      refine r_get (v := .ref (ad 6)) hc iX9_fact_X9 (Nat.lt_of_lt_of_le (by decide) hn) rfl rfl rfl 8 (by decide) fX9_fact_25 rfl dX9_fact_114 ?_
      refine r_aload_n hc dX9_fact_117 rfl ?_
      refine r_get (v := .int (rd (wr σ 5 (rd σ 0 5).toNatClampNeg x1) 0 5)) hc iX9_fact_X9 (Nat.lt_of_lt_of_le (by decide) hn) rfl rfl rfl 5 (by decide) fX9_fact_71 rfl dX9_fact_118 ?_
      refine r_iconst (v := 1) hc dX9_fact_121 (by decide) ?_
      refine r_zast hc (Nat.lt_of_lt_of_le (by decide) hn) rfl rfl h.1 dX9_fact_122 ?_
      replace h := h.2
      refine r_aload_n hc dX9_fact_123 rfl ?_
      refine r_dup hc dX9_fact_124 rfl ?_
      refine r_get (v := .int (rd (wr (wr σ 5 (rd σ 0 5).toNatClampNeg x1) 6 (rd (wr σ 5 (rd σ 0 5).toNatClampNeg x1) 0 5).toNatClampNeg (vp_nar .boolean 1)) 0 5)) hc iX9_fact_X9 (Nat.lt_of_lt_of_le (by decide) hn) rfl rfl rfl 5 (by decide) fX9_fact_71 rfl dX9_fact_125 ?_
      refine r_iconst (v := 1) hc dX9_fact_128 (by decide) ?_
      refine r_iadd hc dX9_fact_129 ?_
      refine r_put hc iX9_fact_X9 tyX9_ok nmX9 (Nat.lt_of_lt_of_le (by decide) hn) rfl rfl rfl 5 (by decide) (Nat.le_of_ble_eq_true rfl) fX9_fact_71 rfl (by decide +kernel) rfl dX9_fact_130 ?_
      refine r_aload_n hc dX9_fact_133 rfl ?_
      refine r_get (v := .int (rd (wr (wr (wr σ 5 (rd σ 0 5).toNatClampNeg x1) 6 (rd (wr σ 5 (rd σ 0 5).toNatClampNeg x1) 0 5).toNatClampNeg (vp_nar .boolean 1)) 0 5 ((rd (wr (wr σ 5 (rd σ 0 5).toNatClampNeg x1) 6 (rd (wr σ 5 (rd σ 0 5).toNatClampNeg x1) 0 5).toNatClampNeg (vp_nar .boolean 1)) 0 5) + 1)) 0 5)) hc iX9_fact_X9 (Nat.lt_of_lt_of_le (by decide) hn) rfl rfl rfl 5 (by decide) fX9_fact_71 rfl dX9_fact_134 ?_
      refine r_iconst (v := 1) hc dX9_fact_137 (by decide) ?_
      refine r_isub hc dX9_fact_138 ?_
      exact e_i hc hr hlk h dX9_fact_139
    · replace h := h.2 hq9
      refine r_aload_n hc dX9_fact_78 rfl ?_
      refine r_get (v := .ref (ad 4)) hc iX9_fact_X9 (Nat.lt_of_lt_of_le (by decide) hn) rfl rfl rfl 6 (by decide) fX9_fact_19 rfl dX9_fact_79 ?_
      refine r_iconst (v := 4) hc dX9_fact_82 (by decide) ?_
      refine r_aload_n hc dX9_fact_83 rfl ?_
      refine r_get (v := .int (rd σ 0 5)) hc iX9_fact_X9 (Nat.lt_of_lt_of_le (by decide) hn) rfl rfl rfl 5 (by decide) fX9_fact_71 rfl dX9_fact_84 ?_
      refine r_imul hc dX9_fact_87 ?_
      refine r_iload_n hc dX9_fact_88 rfl ?_
      refine r_iadd hc dX9_fact_89 ?_
      refine r_aload_n hc dX9_fact_90 rfl ?_
      refine r_get (v := .ref (ad 7)) hc iX9_fact_X9 (Nat.lt_of_lt_of_le (by decide) hn) rfl rfl rfl 9 (by decide) fX9_fact_29 rfl dX9_fact_91 ?_
      refine r_iload_n hc dX9_fact_94 rfl ?_
      refine r_iald hc (Nat.lt_of_lt_of_le (by decide) hn) rfl rfl h.1 dX9_fact_95 ?_
      replace h := h.2
      refine r_iast hc (Nat.lt_of_lt_of_le (by decide) hn) rfl rfl h.1 dX9_fact_96 ?_
      replace h := h.2
      refine r_iinc (v := x2 + 1) hc dX9_fact_97 rfl rfl (by decide) (ss (s1 trivial)) ?_
      refine r_goto (tgt := 70) hc dX9_fact_100 (by decide) ?_
      exact r_weak (wk (wk (wk w0))) (ih _ _ _ h)
set_option maxHeartbeats 4000000 in
set_option maxRecDepth 100000 in
theorem tvX9_fact_L7 {cy : Nat → ClassId} {ad : Nat → Nat} {n : Nat} {D : va_G} {A : Nat → Prop} {l : Launch} {p : Program} {e : Env} {s : State} {m : MethodId} {args : Array Value} {below : List Frame} {meth : Method} {c : Code} {Q : Int32 → St → Prop} (hn : 17 ≤ n) (hc : CX p s m args c D cy cX9_fact 3 RX9 wsX9_fact) (hr : meth.sig.returnType = some .int) (hlk : meth.locks = false) : ∀ (q7 : Nat) (σ : St) (x1 : Int32) (x2 : Int32), vX9_fact_L7 Q q7 σ x1 x2 → WV TR cy ad n D A p l e rmX9_fact s m args below meth c 3 (MQ below (va_Qi Q (Bw TR cy ad n D) A) args s 0 0 A) σ [some (.ref (ad 0)), some (.int x1), some (.int x2)] [] 7 := by
  intro q7
  induction q7 with
  | zero =>
    intro σ x1 x2 h
    exact h.elim
  | succ q7 ih =>
    intro σ x1 x2 h
    unfold vX9_fact_L7 at h
    refine r_iload_n hc dX9_fact_7 rfl ?_
    refine r_aload_n hc dX9_fact_8 rfl ?_
    refine r_get (v := .int (rd σ 0 1)) hc iX9_fact_X9 (Nat.lt_of_lt_of_le (by decide) hn) rfl rfl rfl 1 (by decide) fX9_fact_64 rfl dX9_fact_9 ?_
    refine r_icmp_ge (tgt := 39) hc dX9_fact_12 (by decide) (fun hq8 => ?_) (fun hq8 => ?_)
    · replace h := h.1 hq8
      refine r_iload_n hc dX9_fact_39 rfl ?_
      refine r_sipush (v := (-1000)) hc dX9_fact_40 (by decide) ?_
      refine r_sipush (v := 1000) hc dX9_fact_43 (by decide) ?_
      refine r_callSi hc (zX9_in hn σ x1 ((-1000)) 1000) h (va_cwS 3 hc.2.2.2.2.1 gX9_fact_X9_in rfl rfl rfl qX9_in ⟨Nat.le_of_ble_eq_true rfl, Nat.le_of_ble_eq_true rfl⟩) rfl rfl (Nat.le_of_ble_eq_true rfl) dX9_fact_46 (fun r2 σ1 h => ?_)
      refine r_if_ne (tgt := 55) hc dX9_fact_49 (by decide) (fun hq4 => ?_) (fun hq4 => ?_)
      · replace h := h.1 hq4
        refine r_ldc (v := (-2000000002)) hc dX9_fact_52 oX9_fact_74 ?_
        exact e_i hc hr hlk h dX9_fact_54
      · replace h := h.2 hq4
        refine r_aload_n hc dX9_fact_55 rfl ?_
        refine r_get (v := .int (rd σ1 0 5)) hc iX9_fact_X9 (Nat.lt_of_lt_of_le (by decide) hn) rfl rfl rfl 5 (by decide) fX9_fact_71 rfl dX9_fact_56 ?_
        refine r_sipush (v := 300) hc dX9_fact_59 (by decide) ?_
        refine r_icmp_ne (tgt := 68) hc dX9_fact_62 (by decide) (fun hq3 => ?_) (fun hq3 => ?_)
        · replace h := h.1 hq3
          refine r_ldc (v := (-2000000004)) hc dX9_fact_65 oX9_fact_76 ?_
          exact e_i hc hr hlk h dX9_fact_67
        · replace h := h.2 hq3
          refine r_iconst (v := 0) hc dX9_fact_68 (by decide) ?_
          refine r_istore_n hc dX9_fact_69 rfl (by decide) (ss (s1 trivial)) ?_
          obtain ⟨e70, h⟩ := h
          exact r_weak (wk (wk (wk w0))) (tvX9_fact_L70 hn hc hr hlk e70 _ _ _ h)
    · replace h := h.2 hq8
      refine r_aload_n hc dX9_fact_15 rfl ?_
      refine r_get (v := .ref (ad 7)) hc iX9_fact_X9 (Nat.lt_of_lt_of_le (by decide) hn) rfl rfl rfl 9 (by decide) fX9_fact_29 rfl dX9_fact_16 ?_
      refine r_iload_n hc dX9_fact_19 rfl ?_
      refine r_iald hc (Nat.lt_of_lt_of_le (by decide) hn) rfl rfl h.1 dX9_fact_20 ?_
      replace h := h.2
      refine r_aload_n hc dX9_fact_21 rfl ?_
      refine r_iload_n hc dX9_fact_22 rfl ?_
      refine r_iconst (v := 0) hc dX9_fact_23 (by decide) ?_
      refine r_callVi hc (zX9_many hn σ x2 0) h (Nat.lt_of_lt_of_le (by decide) hn) rfl rfl rfl (cwV 2 hc.2.2.2.2.1 gX9_fact_X9_many rfl rfl rfl qX9_many ⟨Nat.le_of_ble_eq_true rfl, Nat.le_of_ble_eq_true rfl⟩) rfl rfl (Nat.le_of_ble_eq_true rfl) dX9_fact_24 (fun r6 σ5 h => ?_)
      refine r_icmp_lt (tgt := 33) hc dX9_fact_27 (by decide) (fun hq7 => ?_) (fun hq7 => ?_)
      · replace h := h.1 hq7
        refine r_iinc (v := x2 + 1) hc dX9_fact_33 rfl rfl (by decide) (ss (s1 trivial)) ?_
        refine r_goto (tgt := 7) hc dX9_fact_36 (by decide) ?_
        exact r_weak (wk (wk (wk w0))) (ih _ _ _ h)
      · replace h := h.2 hq7
        refine r_ldc (v := (-2000000002)) hc dX9_fact_30 oX9_fact_74 ?_
        exact e_i hc hr hlk h dX9_fact_32
set_option maxHeartbeats 4000000 in
set_option maxRecDepth 100000 in
theorem zX9_fact {cy : Nat → ClassId} {ad : Nat → Nat} {n : Nat} {D : va_G} {A : Nat → Prop} {l : Launch} (hn : 17 ≤ n) (σ : St) (x1 : Int32) : Ci TR cy ad n D A l yX9_fact wsX9_fact rmX9_fact σ [.ref (ad 0), .int x1] (fun Q => vX9_fact Q σ x1) := by
  intro Q h
  refine startW (cc := cX9_fact) (nL := 3) (own := RX9) (lo := [some (.ref (ad 0)), some (.int x1), none]) (by decide) rfl rfl (lo_start (av := [.ref (ad 0), .int x1]) (k := 1) (allc1_ok (l := [.ref (ad 0), .int x1]) trivial)) (Nat.le_of_ble_eq_true rfl) (fun p e s m args below meth c hc hr hlk => ?_)
  unfold vX9_fact at h
  refine r_aload_n hc dX9_fact_0 rfl ?_
  refine r_iconst (v := 0) hc dX9_fact_1 (by decide) ?_
  refine r_put hc iX9_fact_X9 tyX9_ok nmX9 (Nat.lt_of_lt_of_le (by decide) hn) rfl rfl rfl 0 (by decide) (Nat.le_of_ble_eq_true rfl) fX9_fact_60 rfl (by decide +kernel) rfl dX9_fact_2 ?_
  refine r_iconst (v := 0) hc dX9_fact_5 (by decide) ?_
  refine r_istore_n hc dX9_fact_6 rfl (by decide) (ss (s1 trivial)) ?_
  obtain ⟨e7, h⟩ := h
  exact r_weak (wk (wk (wk w0))) (tvX9_fact_L7 hn hc hr hlk e7 _ _ _ h)
theorem iX9_isDimension_X9 : ∀ w ∈ u_ws RX9 TX9 25, w ∈ wsX9_isDimension := by decide +kernel
theorem fX9_isDimension_64 : Cond.fieldLink RX9 64 (TX9 1).1 (TX9 1).2.1 (TX9 1).2.2.1 ∈ wsX9_isDimension := by decide +kernel
set_option maxHeartbeats 4000000 in
set_option maxRecDepth 100000 in
theorem zX9_isDimension {cy : Nat → ClassId} {ad : Nat → Nat} {n : Nat} {D : va_G} {A : Nat → Prop} {l : Launch} (hn : 17 ≤ n) (σ : St) (x1 : Int32) : Ci TR cy ad n D A l yX9_isDimension wsX9_isDimension rmX9_isDimension σ [.ref (ad 0), .int x1] (fun Q => vX9_isDimension Q σ x1) := by
  intro Q h
  refine startW (cc := cX9_isDimension) (nL := 2) (own := RX9) (lo := [some (.ref (ad 0)), some (.int x1)]) (by decide) rfl rfl (lo_start (av := [.ref (ad 0), .int x1]) (k := 0) (allc1_ok (l := [.ref (ad 0), .int x1]) trivial)) (Nat.le_of_ble_eq_true rfl) (fun p e s m args below meth c hc hr hlk => ?_)
  unfold vX9_isDimension at h
  refine r_iload_n hc dX9_isDimension_0 rfl ?_
  refine r_iconst (v := 0) hc dX9_isDimension_1 (by decide) ?_
  refine r_aload_n hc dX9_isDimension_2 rfl ?_
  refine r_get (v := .int (rd σ 0 1)) hc iX9_isDimension_X9 (Nat.lt_of_lt_of_le (by decide) hn) rfl rfl rfl 1 (by decide) fX9_isDimension_64 rfl dX9_isDimension_3 ?_
  refine r_iconst (v := 1) hc dX9_isDimension_6 (by decide) ?_
  refine r_isub hc dX9_isDimension_7 ?_
  refine r_callSi hc (zX9_in hn σ x1 0 ((rd σ 0 1) - 1)) h (va_cwS 3 hc.2.2.2.2.1 gX9_isDimension_X9_in rfl rfl rfl qX9_in ⟨Nat.le_of_ble_eq_true rfl, Nat.le_of_ble_eq_true rfl⟩) rfl rfl (Nat.le_of_ble_eq_true rfl) dX9_isDimension_8 (fun r2 σ1 h => ?_)
  exact e_z hc hr hlk h.1 h.2 dX9_isDimension_11
theorem iX9_filter_X9 : ∀ w ∈ u_ws RX9 TX9 25, w ∈ wsX9_filter := by decide +kernel
theorem fX9_filter_60 : Cond.fieldLink RX9 60 (TX9 0).1 (TX9 0).2.1 (TX9 0).2.2.1 ∈ wsX9_filter := by decide +kernel
theorem oX9_filter_74 : Jvm.Cond.constant RX9 74 (-2000000002) ∈ wsX9_filter := by decide +kernel
theorem fX9_filter_32 : Cond.fieldLink RX9 32 (TX9 10).1 (TX9 10).2.1 (TX9 10).2.2.1 ∈ wsX9_filter := by decide +kernel
theorem fX9_filter_35 : Cond.fieldLink RX9 35 (TX9 11).1 (TX9 11).2.1 (TX9 11).2.2.1 ∈ wsX9_filter := by decide +kernel
set_option maxHeartbeats 4000000 in
set_option maxRecDepth 100000 in
theorem zX9_filter {cy : Nat → ClassId} {ad : Nat → Nat} {n : Nat} {D : va_G} {A : Nat → Prop} {l : Launch} (hn : 17 ≤ n) (σ : St) (x1 : Int32) (x2 : Int32) (x3 : Int32) : Ci TR cy ad n D A l yX9_filter wsX9_filter rmX9_filter σ [.ref (ad 0), .int x1, .int x2, .int x3] (fun Q => vX9_filter Q σ x1 x2 x3) := by
  intro Q h
  refine startW (cc := cX9_filter) (nL := 4) (own := RX9) (lo := [some (.ref (ad 0)), some (.int x1), some (.int x2), some (.int x3)]) (by decide) rfl rfl (lo_start (av := [.ref (ad 0), .int x1, .int x2, .int x3]) (k := 0) (allc1_ok (l := [.ref (ad 0), .int x1, .int x2, .int x3]) trivial)) (Nat.le_of_ble_eq_true rfl) (fun p e s m args below meth c hc hr hlk => ?_)
  unfold vX9_filter at h
  refine r_aload_n hc dX9_filter_0 rfl ?_
  refine r_iconst (v := 0) hc dX9_filter_1 (by decide) ?_
  refine r_put hc iX9_filter_X9 tyX9_ok nmX9 (Nat.lt_of_lt_of_le (by decide) hn) rfl rfl rfl 0 (by decide) (Nat.le_of_ble_eq_true rfl) fX9_filter_60 rfl (by decide +kernel) rfl dX9_filter_2 ?_
  refine r_aload_n hc dX9_filter_5 rfl ?_
  refine r_iload_n hc dX9_filter_6 rfl ?_
  refine r_callVi hc (zX9_isDimension hn (wr σ 0 0 0) x1) h (Nat.lt_of_lt_of_le (by decide) hn) rfl rfl rfl (cwV 1 hc.2.2.2.2.1 gX9_filter_X9_isDimension rfl rfl rfl qX9_isDimension ⟨Nat.le_of_ble_eq_true rfl, Nat.le_of_ble_eq_true rfl⟩) rfl rfl (Nat.le_of_ble_eq_true rfl) dX9_filter_7 (fun r2 σ1 h => ?_)
  refine r_if_eq (tgt := 29) hc dX9_filter_10 (by decide) (fun hq8 => ?_) (fun hq8 => ?_)
  · replace h := h.1 hq8
    refine r_ldc (v := (-2000000002)) hc dX9_filter_29 oX9_filter_74 ?_
    exact e_i hc hr hlk h dX9_filter_31
  · replace h := h.2 hq8
    refine r_iload_n hc dX9_filter_13 rfl ?_
    refine r_iconst (v := 0) hc dX9_filter_14 (by decide) ?_
    refine r_aload_n hc dX9_filter_15 rfl ?_
    refine r_iload_n hc dX9_filter_16 rfl ?_
    refine r_iload_n hc dX9_filter_17 rfl ?_
    refine r_callVi hc (zX9_many hn σ1 x1 x2) h (Nat.lt_of_lt_of_le (by decide) hn) rfl rfl rfl (cwV 2 hc.2.2.2.2.1 gX9_filter_X9_many rfl rfl rfl qX9_many ⟨Nat.le_of_ble_eq_true rfl, Nat.le_of_ble_eq_true rfl⟩) rfl rfl (Nat.le_of_ble_eq_true rfl) dX9_filter_18 (fun r4 σ3 h => ?_)
    refine r_iconst (v := 1) hc dX9_filter_21 (by decide) ?_
    refine r_isub hc dX9_filter_22 ?_
    refine r_callSi hc (zX9_in hn σ3 x3 0 (r4 - 1)) h (va_cwS 3 hc.2.2.2.2.1 gX9_filter_X9_in rfl rfl rfl qX9_in ⟨Nat.le_of_ble_eq_true rfl, Nat.le_of_ble_eq_true rfl⟩) rfl rfl (Nat.le_of_ble_eq_true rfl) dX9_filter_23 (fun r6 σ5 h => ?_)
    refine r_if_ne (tgt := 32) hc dX9_filter_26 (by decide) (fun hq7 => ?_) (fun hq7 => ?_)
    · replace h := h.1 hq7
      refine r_ldc (v := (-2000000002)) hc dX9_filter_29 oX9_filter_74 ?_
      exact e_i hc hr hlk h dX9_filter_31
    · replace h := h.2 hq7
      refine r_aload_n hc dX9_filter_32 rfl ?_
      refine r_get (v := .ref (ad 8)) hc iX9_filter_X9 (Nat.lt_of_lt_of_le (by decide) hn) rfl rfl rfl 10 (by decide) fX9_filter_32 rfl dX9_filter_33 ?_
      refine r_iload_n hc dX9_filter_36 rfl ?_
      refine r_iload_n hc dX9_filter_37 rfl ?_
      refine r_iast hc (Nat.lt_of_lt_of_le (by decide) hn) rfl rfl h.1 dX9_filter_38 ?_
      replace h := h.2
      refine r_aload_n hc dX9_filter_39 rfl ?_
      refine r_get (v := .ref (ad 9)) hc iX9_filter_X9 (Nat.lt_of_lt_of_le (by decide) hn) rfl rfl rfl 11 (by decide) fX9_filter_35 rfl dX9_filter_40 ?_
      refine r_iload_n hc dX9_filter_43 rfl ?_
      refine r_iload_n hc dX9_filter_44 rfl ?_
      refine r_iast hc (Nat.lt_of_lt_of_le (by decide) hn) rfl rfl h.1 dX9_filter_45 ?_
      replace h := h.2
      refine r_iconst (v := 0) hc dX9_filter_46 (by decide) ?_
      exact e_i hc hr hlk h dX9_filter_47
theorem iX9_gain_X9 : ∀ w ∈ u_ws RX9 TX9 25, w ∈ wsX9_gain := by decide +kernel
theorem fX9_gain_60 : Cond.fieldLink RX9 60 (TX9 0).1 (TX9 0).2.1 (TX9 0).2.2.1 ∈ wsX9_gain := by decide +kernel
theorem oX9_gain_74 : Jvm.Cond.constant RX9 74 (-2000000002) ∈ wsX9_gain := by decide +kernel
set_option maxHeartbeats 4000000 in
set_option maxRecDepth 100000 in
theorem zX9_gain {cy : Nat → ClassId} {ad : Nat → Nat} {n : Nat} {D : va_G} {A : Nat → Prop} {l : Launch} (hn : 17 ≤ n) (σ : St) (x1 : Int32) : Ci TR cy ad n D A l yX9_gain wsX9_gain rmX9_gain σ [.ref (ad 0), .int x1] (fun Q => vX9_gain Q σ x1) := by
  intro Q h
  refine startW (cc := cX9_gain) (nL := 2) (own := RX9) (lo := [some (.ref (ad 0)), some (.int x1)]) (by decide) rfl rfl (lo_start (av := [.ref (ad 0), .int x1]) (k := 0) (allc1_ok (l := [.ref (ad 0), .int x1]) trivial)) (Nat.le_of_ble_eq_true rfl) (fun p e s m args below meth c hc hr hlk => ?_)
  unfold vX9_gain at h
  refine r_aload_n hc dX9_gain_0 rfl ?_
  refine r_iconst (v := 0) hc dX9_gain_1 (by decide) ?_
  refine r_put hc iX9_gain_X9 tyX9_ok nmX9 (Nat.lt_of_lt_of_le (by decide) hn) rfl rfl rfl 0 (by decide) (Nat.le_of_ble_eq_true rfl) fX9_gain_60 rfl (by decide +kernel) rfl dX9_gain_2 ?_
  refine r_aload_n hc dX9_gain_5 rfl ?_
  refine r_iload_n hc dX9_gain_6 rfl ?_
  refine r_callVi hc (zX9_isCuboid hn (wr σ 0 0 0) x1) h (Nat.lt_of_lt_of_le (by decide) hn) rfl rfl rfl (cwV 1 hc.2.2.2.2.1 gX9_gain_X9_isCuboid rfl rfl rfl qX9_isCuboid ⟨Nat.le_of_ble_eq_true rfl, Nat.le_of_ble_eq_true rfl⟩) rfl rfl (Nat.le_of_ble_eq_true rfl) dX9_gain_7 (fun r2 σ1 h => ?_)
  refine r_if_ne (tgt := 16) hc dX9_gain_10 (by decide) (fun hq7 => ?_) (fun hq7 => ?_)
  · replace h := h.1 hq7
    refine r_ldc (v := (-2000000002)) hc dX9_gain_13 oX9_gain_74 ?_
    exact e_i hc hr hlk h dX9_gain_15
  · replace h := h.2 hq7
    refine r_aload_n hc dX9_gain_16 rfl ?_
    refine r_callVv hc (zX9_measure hn σ1) h (Nat.lt_of_lt_of_le (by decide) hn) rfl rfl rfl (cwV 0 hc.2.2.2.2.1 gX9_gain_X9_measure rfl rfl rfl qX9_measure ⟨Nat.le_of_ble_eq_true rfl, Nat.le_of_ble_eq_true rfl⟩) rfl rfl (Nat.le_of_ble_eq_true rfl) dX9_gain_17 (fun σ3 h => ?_)
    refine r_aload_n hc dX9_gain_20 rfl ?_
    refine r_callVv hc (zX9_findCosts hn σ3) h (Nat.lt_of_lt_of_le (by decide) hn) rfl rfl rfl (cwV 0 hc.2.2.2.2.1 gX9_gain_X9_findCosts rfl rfl rfl qX9_findCosts ⟨Nat.le_of_ble_eq_true rfl, Nat.le_of_ble_eq_true rfl⟩) rfl rfl (Nat.le_of_ble_eq_true rfl) dX9_gain_21 (fun σ4 h => ?_)
    refine r_aload_n hc dX9_gain_24 rfl ?_
    refine r_iload_n hc dX9_gain_25 rfl ?_
    refine r_callVi hc (zX9_gainOf hn σ4 x1) h (Nat.lt_of_lt_of_le (by decide) hn) rfl rfl rfl (cwV 1 hc.2.2.2.2.1 gX9_gain_X9_gainOf rfl rfl rfl qX9_gainOf ⟨Nat.le_of_ble_eq_true rfl, Nat.le_of_ble_eq_true rfl⟩) rfl rfl (Nat.le_of_ble_eq_true rfl) dX9_gain_26 (fun r6 σ5 h => ?_)
    exact e_i hc hr hlk h dX9_gain_29
theorem iX9_group_X9 : ∀ w ∈ u_ws RX9 TX9 25, w ∈ wsX9_group := by decide +kernel
theorem fX9_group_60 : Cond.fieldLink RX9 60 (TX9 0).1 (TX9 0).2.1 (TX9 0).2.2.1 ∈ wsX9_group := by decide +kernel
theorem oX9_group_74 : Jvm.Cond.constant RX9 74 (-2000000002) ∈ wsX9_group := by decide +kernel
theorem oX9_group_150 : Jvm.Cond.constant RX9 150 (-2000000001) ∈ wsX9_group := by decide +kernel
theorem fX9_group_44 : Cond.fieldLink RX9 44 (TX9 16).1 (TX9 16).2.1 (TX9 16).2.2.1 ∈ wsX9_group := by decide +kernel
set_option maxHeartbeats 4000000 in
set_option maxRecDepth 100000 in
theorem tvX9_group_L30 {cy : Nat → ClassId} {ad : Nat → Nat} {n : Nat} {D : va_G} {A : Nat → Prop} {l : Launch} {p : Program} {e : Env} {s : State} {m : MethodId} {args : Array Value} {below : List Frame} {meth : Method} {c : Code} {Q : Int32 → St → Prop} (hn : 17 ≤ n) (hc : CX p s m args c D cy cX9_group 5 RX9 wsX9_group) (hr : meth.sig.returnType = some .int) (hlk : meth.locks = false) : ∀ (q30 : Nat) (σ : St) (x2 : Int32) (x3 : Int32) (x4 : Int32), vX9_group_L30 Q q30 σ x2 x3 x4 → WV TR cy ad n D A p l e rmX9_group s m args below meth c 5 (MQ below (va_Qi Q (Bw TR cy ad n D) A) args s 0 0 A) σ [some (.ref (ad 0)), none, some (.int x2), some (.int x3), some (.int x4)] [] 30 := by
  intro q30
  induction q30 with
  | zero =>
    intro σ x2 x3 x4 h
    exact h.elim
  | succ q30 ih =>
    intro σ x2 x3 x4 h
    unfold vX9_group_L30 at h
    refine r_iload hc dX9_group_30 rfl ?_
    refine r_sipush (v := 10000) hc dX9_group_32 (by decide) ?_
    refine r_icmp_ge (tgt := 65) hc dX9_group_35 (by decide) (fun hq8 => ?_) (fun hq8 => ?_)
    · replace h := h.1 hq8
      refine r_ldc (v := (-2000000001)) hc dX9_group_65 oX9_group_150 ?_
      exact e_i hc hr hlk h dX9_group_67
    · replace h := h.2 hq8
      refine r_aload_n hc dX9_group_38 rfl ?_
      refine r_get (v := .ref (ad 12)) hc iX9_group_X9 (Nat.lt_of_lt_of_le (by decide) hn) rfl rfl rfl 16 (by decide) fX9_group_44 rfl dX9_group_39 ?_
      refine r_iload hc dX9_group_42 rfl ?_
      refine r_zald hc (Nat.lt_of_lt_of_le (by decide) hn) rfl rfl h.1 dX9_group_44 ?_
      replace h := h.2
      refine r_if_eq (tgt := 59) hc dX9_group_45 (by decide) (fun hq7 => ?_) (fun hq7 => ?_)
      · replace h := h.1 hq7
        refine r_iinc (v := x4 + 1) hc dX9_group_59 rfl rfl (by decide) (ss (ss (ss (s1 trivial)))) ?_
        refine r_goto (tgt := 30) hc dX9_group_62 (by decide) ?_
        exact r_weak (wk (wn (wk (wk (wk w0))))) (ih _ _ _ _ h)
      · replace h := h.2 hq7
        refine r_iload_n hc dX9_group_48 rfl ?_
        refine r_iload_n hc dX9_group_49 rfl ?_
        refine r_icmp_ne (tgt := 56) hc dX9_group_50 (by decide) (fun hq6 => ?_) (fun hq6 => ?_)
        · replace h := h.1 hq6
          refine r_iload hc dX9_group_53 rfl ?_
          exact e_i hc hr hlk h dX9_group_55
        · replace h := h.2 hq6
          refine r_iinc (v := x3 + 1) hc dX9_group_56 rfl rfl (by decide) (ss (ss (s1 trivial))) ?_
          refine r_iinc (v := x4 + 1) hc dX9_group_59 rfl rfl (by decide) (ss (ss (ss (s1 trivial)))) ?_
          refine r_goto (tgt := 30) hc dX9_group_62 (by decide) ?_
          exact r_weak (wk (wn (wk (wk (wk w0))))) (ih _ _ _ _ h)
set_option maxHeartbeats 4000000 in
set_option maxRecDepth 100000 in
theorem zX9_group {cy : Nat → ClassId} {ad : Nat → Nat} {n : Nat} {D : va_G} {A : Nat → Prop} {l : Launch} (hn : 17 ≤ n) (σ : St) (x1 : Int32) (x2 : Int32) : Ci TR cy ad n D A l yX9_group wsX9_group rmX9_group σ [.ref (ad 0), .int x1, .int x2] (fun Q => vX9_group Q σ x1 x2) := by
  intro Q h
  refine startW (cc := cX9_group) (nL := 5) (own := RX9) (lo := [some (.ref (ad 0)), some (.int x1), some (.int x2), none, none]) (by decide) rfl rfl (lo_start (av := [.ref (ad 0), .int x1, .int x2]) (k := 2) (allc1_ok (l := [.ref (ad 0), .int x1, .int x2]) trivial)) (Nat.le_of_ble_eq_true rfl) (fun p e s m args below meth c hc hr hlk => ?_)
  unfold vX9_group at h
  refine r_aload_n hc dX9_group_0 rfl ?_
  refine r_iconst (v := 0) hc dX9_group_1 (by decide) ?_
  refine r_put hc iX9_group_X9 tyX9_ok nmX9 (Nat.lt_of_lt_of_le (by decide) hn) rfl rfl rfl 0 (by decide) (Nat.le_of_ble_eq_true rfl) fX9_group_60 rfl (by decide +kernel) rfl dX9_group_2 ?_
  refine r_aload_n hc dX9_group_5 rfl ?_
  refine r_iload_n hc dX9_group_6 rfl ?_
  refine r_callVi hc (zX9_isCuboid hn (wr σ 0 0 0) x1) h (Nat.lt_of_lt_of_le (by decide) hn) rfl rfl rfl (cwV 1 hc.2.2.2.2.1 gX9_group_X9_isCuboid rfl rfl rfl qX9_isCuboid ⟨Nat.le_of_ble_eq_true rfl, Nat.le_of_ble_eq_true rfl⟩) rfl rfl (Nat.le_of_ble_eq_true rfl) dX9_group_7 (fun r2 σ1 h => ?_)
  refine r_if_eq (tgt := 17) hc dX9_group_10 (by decide) (fun hq5 => ?_) (fun hq5 => ?_)
  · replace h := h.1 hq5
    refine r_ldc (v := (-2000000002)) hc dX9_group_17 oX9_group_74 ?_
    exact e_i hc hr hlk h dX9_group_19
  · replace h := h.2 hq5
    refine r_iload_n hc dX9_group_13 rfl ?_
    refine r_if_ge (tgt := 20) hc dX9_group_14 (by decide) (fun hq4 => ?_) (fun hq4 => ?_)
    · replace h := h.1 hq4
      refine r_aload_n hc dX9_group_20 rfl ?_
      refine r_iload_n hc dX9_group_21 rfl ?_
      refine r_callVv hc (zX9_findGroups hn σ1 x1) h (Nat.lt_of_lt_of_le (by decide) hn) rfl rfl rfl (cwV 1 hc.2.2.2.2.1 gX9_group_X9_findGroups rfl rfl rfl qX9_findGroups ⟨Nat.le_of_ble_eq_true rfl, Nat.le_of_ble_eq_true rfl⟩) rfl rfl (Nat.le_of_ble_eq_true rfl) dX9_group_22 (fun σ3 h => ?_)
      refine r_iconst (v := 0) hc dX9_group_25 (by decide) ?_
      refine r_istore_n hc dX9_group_26 rfl (by decide) (ss (ss (s1 trivial))) ?_
      refine r_iconst (v := 0) hc dX9_group_27 (by decide) ?_
      refine r_istore hc dX9_group_28 (by decide) (ss (ss (ss (s1 trivial)))) ?_
      obtain ⟨e30, h⟩ := h
      exact r_weak (wk (wn (wk (wk (wk w0))))) (tvX9_group_L30 hn hc hr hlk e30 _ _ _ _ h)
    · replace h := h.2 hq4
      refine r_ldc (v := (-2000000002)) hc dX9_group_17 oX9_group_74 ?_
      exact e_i hc hr hlk h dX9_group_19

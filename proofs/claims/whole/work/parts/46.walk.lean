theorem iX9_findGroups_X9 : ∀ w ∈ u_ws RX9 TX9 25, w ∈ wsX9_findGroups := by decide +kernel
theorem fX9_findGroups_44 : Cond.fieldLink RX9 44 (TX9 16).1 (TX9 16).2.1 (TX9 16).2.2.1 ∈ wsX9_findGroups := by decide +kernel
theorem fX9_findGroups_64 : Cond.fieldLink RX9 64 (TX9 1).1 (TX9 1).2.1 (TX9 1).2.2.1 ∈ wsX9_findGroups := by decide +kernel
theorem fX9_findGroups_47 : Cond.fieldLink RX9 47 (TX9 17).1 (TX9 17).2.1 (TX9 17).2.2.1 ∈ wsX9_findGroups := by decide +kernel
theorem fX9_findGroups_71 : Cond.fieldLink RX9 71 (TX9 5).1 (TX9 5).2.1 (TX9 5).2.2.1 ∈ wsX9_findGroups := by decide +kernel
theorem fX9_findGroups_25 : Cond.fieldLink RX9 25 (TX9 8).1 (TX9 8).2.1 (TX9 8).2.2.1 ∈ wsX9_findGroups := by decide +kernel
theorem fX9_findGroups_19 : Cond.fieldLink RX9 19 (TX9 6).1 (TX9 6).2.1 (TX9 6).2.2.1 ∈ wsX9_findGroups := by decide +kernel
set_option maxHeartbeats 4000000 in
set_option maxRecDepth 100000 in
theorem tvX9_findGroups_L65 {cy : Nat → ClassId} {ad : Nat → Nat} {n : Nat} {D : va_G} {A : Nat → Prop} {l : Launch} {p : Program} {e : Env} {s : State} {m : MethodId} {args : Array Value} {below : List Frame} {meth : Method} {c : Code} {Q : St → Prop} {K52 : St → Int32 → Prop} (hn : 17 ≤ n) (hc : CX p s m args c D cy cX9_findGroups 5 RX9 wsX9_findGroups) (hr : meth.sig.returnType = none) (hlk : meth.locks = false) (hK52 : ∀ (σ : St) (x2 : Int32), K52 σ x2 → WV TR cy ad n D A p l e rmX9_findGroups s m args below meth c 5 (MQ below (va_Qv Q (Bw TR cy ad n D) A) args s 0 0 A) σ [some (.ref (ad 0)), none, some (.int x2), none, none] [] 52) : ∀ (q65 : Nat) (σ : St) (x2 : Int32) (x3 : Int32) (x4 : Int32), vX9_findGroups_L65 Q K52 q65 σ x2 x3 x4 → WV TR cy ad n D A p l e rmX9_findGroups s m args below meth c 5 (MQ below (va_Qv Q (Bw TR cy ad n D) A) args s 0 0 A) σ [some (.ref (ad 0)), none, some (.int x2), some (.int x3), some (.int x4)] [] 65 := by
  intro q65
  induction q65 with
  | zero =>
    intro σ x2 x3 x4 h
    exact h.elim
  | succ q65 ih =>
    intro σ x2 x3 x4 h
    unfold vX9_findGroups_L65 at h
    refine r_iload hc dX9_findGroups_65 rfl ?_
    refine r_aload_n hc dX9_findGroups_67 rfl ?_
    refine r_get (v := .int (rd σ 0 1)) hc iX9_findGroups_X9 (Nat.lt_of_lt_of_le (by decide) hn) rfl rfl rfl 1 (by decide) fX9_findGroups_64 rfl dX9_findGroups_68 ?_
    refine r_icmp_ge (tgt := 110) hc dX9_findGroups_71 (by decide) (fun hq10 => ?_) (fun hq10 => ?_)
    · replace h := h.1 hq10
      refine r_aload_n hc dX9_findGroups_110 rfl ?_
      refine r_get (v := .ref (ad 12)) hc iX9_findGroups_X9 (Nat.lt_of_lt_of_le (by decide) hn) rfl rfl rfl 16 (by decide) fX9_findGroups_44 rfl dX9_findGroups_111 ?_
      refine r_iload_n hc dX9_findGroups_114 rfl ?_
      refine r_aload_n hc dX9_findGroups_115 rfl ?_
      refine r_get (v := .ref (ad 12)) hc iX9_findGroups_X9 (Nat.lt_of_lt_of_le (by decide) hn) rfl rfl rfl 16 (by decide) fX9_findGroups_44 rfl dX9_findGroups_116 ?_
      refine r_iload_n hc dX9_findGroups_119 rfl ?_
      refine r_zald hc (Nat.lt_of_lt_of_le (by decide) hn) rfl rfl h.1 dX9_findGroups_120 ?_
      replace h := h.2
      refine r_if_ne (tgt := 133) hc dX9_findGroups_121 (by decide) (fun hq7 => ?_) (fun hq7 => ?_)
      · replace h := h.1 hq7
        refine r_aload_n hc dX9_findGroups_124 rfl ?_
        refine r_get (v := .ref (ad 6)) hc iX9_findGroups_X9 (Nat.lt_of_lt_of_le (by decide) hn) rfl rfl rfl 8 (by decide) fX9_findGroups_25 rfl dX9_findGroups_125 ?_
        refine r_iload_n hc dX9_findGroups_128 rfl ?_
        refine r_zald hc (Nat.lt_of_lt_of_le (by decide) hn) rfl rfl h.1 dX9_findGroups_129 ?_
        replace h := h.2
        refine r_if_eq (tgt := 137) hc dX9_findGroups_130 (by decide) (fun hq6 => ?_) (fun hq6 => ?_)
        · replace h := h.1 hq6
          refine r_iconst (v := 0) hc dX9_findGroups_137 (by decide) ?_
          refine r_zast hc (Nat.lt_of_lt_of_le (by decide) hn) rfl rfl h.1 dX9_findGroups_138 ?_
          replace h := h.2
          refine r_iinc (v := x2 + 1) hc dX9_findGroups_139 rfl rfl (by decide) (ss (s1 trivial)) ?_
          refine r_goto (tgt := 52) hc dX9_findGroups_142 (by decide) ?_
          exact r_weak (wk (wn (wk (wn (wn w0))))) (hK52 _ _ h)
        · replace h := h.2 hq6
          refine r_iconst (v := 1) hc dX9_findGroups_133 (by decide) ?_
          refine r_goto (tgt := 138) hc dX9_findGroups_134 (by decide) ?_
          refine r_zast hc (Nat.lt_of_lt_of_le (by decide) hn) rfl rfl h.1 dX9_findGroups_138 ?_
          replace h := h.2
          refine r_iinc (v := x2 + 1) hc dX9_findGroups_139 rfl rfl (by decide) (ss (s1 trivial)) ?_
          refine r_goto (tgt := 52) hc dX9_findGroups_142 (by decide) ?_
          exact r_weak (wk (wn (wk (wn (wn w0))))) (hK52 _ _ h)
      · replace h := h.2 hq7
        refine r_iconst (v := 1) hc dX9_findGroups_133 (by decide) ?_
        refine r_goto (tgt := 138) hc dX9_findGroups_134 (by decide) ?_
        refine r_zast hc (Nat.lt_of_lt_of_le (by decide) hn) rfl rfl h.1 dX9_findGroups_138 ?_
        replace h := h.2
        refine r_iinc (v := x2 + 1) hc dX9_findGroups_139 rfl rfl (by decide) (ss (s1 trivial)) ?_
        refine r_goto (tgt := 52) hc dX9_findGroups_142 (by decide) ?_
        exact r_weak (wk (wn (wk (wn (wn w0))))) (hK52 _ _ h)
    · replace h := h.2 hq10
      refine r_bipush (v := 10) hc dX9_findGroups_74 (by decide) ?_
      refine r_iload_n hc dX9_findGroups_76 rfl ?_
      refine r_imul hc dX9_findGroups_77 ?_
      refine r_aload_n hc dX9_findGroups_78 rfl ?_
      refine r_iload hc dX9_findGroups_79 rfl ?_
      refine r_aload_n hc dX9_findGroups_81 rfl ?_
      refine r_get (v := .ref (ad 4)) hc iX9_findGroups_X9 (Nat.lt_of_lt_of_le (by decide) hn) rfl rfl rfl 6 (by decide) fX9_findGroups_19 rfl dX9_findGroups_82 ?_
      refine r_iconst (v := 4) hc dX9_findGroups_85 (by decide) ?_
      refine r_iload_n hc dX9_findGroups_86 rfl ?_
      refine r_imul hc dX9_findGroups_87 ?_
      refine r_iload hc dX9_findGroups_88 rfl ?_
      refine r_iadd hc dX9_findGroups_90 ?_
      refine r_iald hc (Nat.lt_of_lt_of_le (by decide) hn) rfl rfl h.1 dX9_findGroups_91 ?_
      replace h := h.2
      refine r_aload_n hc dX9_findGroups_92 rfl ?_
      refine r_get (v := .ref (ad 13)) hc iX9_findGroups_X9 (Nat.lt_of_lt_of_le (by decide) hn) rfl rfl rfl 17 (by decide) fX9_findGroups_47 rfl dX9_findGroups_93 ?_
      refine r_iload hc dX9_findGroups_96 rfl ?_
      refine r_iald hc (Nat.lt_of_lt_of_le (by decide) hn) rfl rfl h.1 dX9_findGroups_98 ?_
      replace h := h.2
      refine r_callVi hc (zX9_liesIn hn σ x4 (rd σ 4 ((4 * x2) + x4).toNatClampNeg) (rd σ 13 x4.toNatClampNeg)) h (Nat.lt_of_lt_of_le (by decide) hn) rfl rfl rfl (cwV 3 hc.2.2.2.2.1 gX9_findGroups_X9_liesIn rfl rfl rfl qX9_liesIn ⟨Nat.le_of_ble_eq_true rfl, Nat.le_of_ble_eq_true rfl⟩) rfl rfl (Nat.le_of_ble_eq_true rfl) dX9_findGroups_99 (fun r9 σ8 h => ?_)
      refine r_iadd hc dX9_findGroups_102 ?_
      refine r_istore_n hc dX9_findGroups_103 rfl (by decide) (ss (ss (s1 trivial))) ?_
      refine r_iinc (v := x4 + 1) hc dX9_findGroups_104 rfl rfl (by decide) (ss (ss (ss (s1 trivial)))) ?_
      refine r_goto (tgt := 65) hc dX9_findGroups_107 (by decide) ?_
      exact r_weak (wk (wn (wk (wk (wk w0))))) (ih _ _ _ _ h)
set_option maxHeartbeats 4000000 in
set_option maxRecDepth 100000 in
theorem tvX9_findGroups_L52 {cy : Nat → ClassId} {ad : Nat → Nat} {n : Nat} {D : va_G} {A : Nat → Prop} {l : Launch} {p : Program} {e : Env} {s : State} {m : MethodId} {args : Array Value} {below : List Frame} {meth : Method} {c : Code} {Q : St → Prop} (hn : 17 ≤ n) (hc : CX p s m args c D cy cX9_findGroups 5 RX9 wsX9_findGroups) (hr : meth.sig.returnType = none) (hlk : meth.locks = false) : ∀ (q52 : Nat) (σ : St) (x2 : Int32), vX9_findGroups_L52 Q q52 σ x2 → WV TR cy ad n D A p l e rmX9_findGroups s m args below meth c 5 (MQ below (va_Qv Q (Bw TR cy ad n D) A) args s 0 0 A) σ [some (.ref (ad 0)), none, some (.int x2), none, none] [] 52 := by
  intro q52
  induction q52 with
  | zero =>
    intro σ x2 h
    exact h.elim
  | succ q52 ih =>
    intro σ x2 h
    unfold vX9_findGroups_L52 at h
    refine r_iload_n hc dX9_findGroups_52 rfl ?_
    refine r_aload_n hc dX9_findGroups_53 rfl ?_
    refine r_get (v := .int (rd σ 0 5)) hc iX9_findGroups_X9 (Nat.lt_of_lt_of_le (by decide) hn) rfl rfl rfl 5 (by decide) fX9_findGroups_71 rfl dX9_findGroups_54 ?_
    refine r_icmp_ge (tgt := 145) hc dX9_findGroups_57 (by decide) (fun hq5 => ?_) (fun hq5 => ?_)
    · replace h := h.1 hq5
      exact e_v hc hr hlk h dX9_findGroups_145
    · replace h := h.2 hq5
      refine r_iconst (v := 0) hc dX9_findGroups_60 (by decide) ?_
      refine r_istore_n hc dX9_findGroups_61 rfl (by decide) (ss (ss (s1 trivial))) ?_
      refine r_iconst (v := 0) hc dX9_findGroups_62 (by decide) ?_
      refine r_istore hc dX9_findGroups_63 (by decide) (ss (ss (ss (s1 trivial)))) ?_
      obtain ⟨e65, h⟩ := h
      exact r_weak (wk (wn (wk (wk (wk w0))))) (tvX9_findGroups_L65 hn hc hr hlk ih e65 _ _ _ _ h)
set_option maxHeartbeats 4000000 in
set_option maxRecDepth 100000 in
theorem tvX9_findGroups_L24 {cy : Nat → ClassId} {ad : Nat → Nat} {n : Nat} {D : va_G} {A : Nat → Prop} {l : Launch} {p : Program} {e : Env} {s : State} {m : MethodId} {args : Array Value} {below : List Frame} {meth : Method} {c : Code} {Q : St → Prop} (hn : 17 ≤ n) (hc : CX p s m args c D cy cX9_findGroups 5 RX9 wsX9_findGroups) (hr : meth.sig.returnType = none) (hlk : meth.locks = false) : ∀ (q24 : Nat) (σ : St) (x1 : Int32) (x2 : Int32), vX9_findGroups_L24 Q q24 σ x1 x2 → WV TR cy ad n D A p l e rmX9_findGroups s m args below meth c 5 (MQ below (va_Qv Q (Bw TR cy ad n D) A) args s 0 0 A) σ [some (.ref (ad 0)), some (.int x1), some (.int x2), none, none] [] 24 := by
  intro q24
  induction q24 with
  | zero =>
    intro σ x1 x2 h
    exact h.elim
  | succ q24 ih =>
    intro σ x1 x2 h
    unfold vX9_findGroups_L24 at h
    refine r_iload_n hc dX9_findGroups_24 rfl ?_
    refine r_aload_n hc dX9_findGroups_25 rfl ?_
    refine r_get (v := .int (rd σ 0 1)) hc iX9_findGroups_X9 (Nat.lt_of_lt_of_le (by decide) hn) rfl rfl rfl 1 (by decide) fX9_findGroups_64 rfl dX9_findGroups_26 ?_
    refine r_icmp_ge (tgt := 50) hc dX9_findGroups_29 (by decide) (fun hq4 => ?_) (fun hq4 => ?_)
    · replace h := h.1 hq4
      refine r_iconst (v := 0) hc dX9_findGroups_50 (by decide) ?_
      refine r_istore_n hc dX9_findGroups_51 rfl (by decide) (ss (s1 trivial)) ?_
      obtain ⟨e52, h⟩ := h
      exact r_weak (wk (wn (wk (wn (wn w0))))) (tvX9_findGroups_L52 hn hc hr hlk e52 _ _ h)
    · replace h := h.2 hq4
      refine r_aload_n hc dX9_findGroups_32 rfl ?_
      refine r_get (v := .ref (ad 13)) hc iX9_findGroups_X9 (Nat.lt_of_lt_of_le (by decide) hn) rfl rfl rfl 17 (by decide) fX9_findGroups_47 rfl dX9_findGroups_33 ?_
      refine r_iload_n hc dX9_findGroups_36 rfl ?_
      refine r_aload_n hc dX9_findGroups_37 rfl ?_
      refine r_iload_n hc dX9_findGroups_38 rfl ?_
      refine r_iload_n hc dX9_findGroups_39 rfl ?_
      refine r_callVi hc (zX9_levelIn hn σ x1 x2) h (Nat.lt_of_lt_of_le (by decide) hn) rfl rfl rfl (cwV 2 hc.2.2.2.2.1 gX9_findGroups_X9_levelIn rfl rfl rfl qX9_levelIn ⟨Nat.le_of_ble_eq_true rfl, Nat.le_of_ble_eq_true rfl⟩) rfl rfl (Nat.le_of_ble_eq_true rfl) dX9_findGroups_40 (fun r3 σ2 h => ?_)
      refine r_iast hc (Nat.lt_of_lt_of_le (by decide) hn) rfl rfl h.1 dX9_findGroups_43 ?_
      replace h := h.2
      refine r_iinc (v := x2 + 1) hc dX9_findGroups_44 rfl rfl (by decide) (ss (s1 trivial)) ?_
      refine r_goto (tgt := 24) hc dX9_findGroups_47 (by decide) ?_
      exact r_weak (wk (wk (wk (wn (wn w0))))) (ih _ _ _ h)
set_option maxHeartbeats 4000000 in
set_option maxRecDepth 100000 in
theorem tvX9_findGroups_L2 {cy : Nat → ClassId} {ad : Nat → Nat} {n : Nat} {D : va_G} {A : Nat → Prop} {l : Launch} {p : Program} {e : Env} {s : State} {m : MethodId} {args : Array Value} {below : List Frame} {meth : Method} {c : Code} {Q : St → Prop} (hn : 17 ≤ n) (hc : CX p s m args c D cy cX9_findGroups 5 RX9 wsX9_findGroups) (hr : meth.sig.returnType = none) (hlk : meth.locks = false) : ∀ (q2 : Nat) (σ : St) (x1 : Int32) (x2 : Int32), vX9_findGroups_L2 Q q2 σ x1 x2 → WV TR cy ad n D A p l e rmX9_findGroups s m args below meth c 5 (MQ below (va_Qv Q (Bw TR cy ad n D) A) args s 0 0 A) σ [some (.ref (ad 0)), some (.int x1), some (.int x2), none, none] [] 2 := by
  intro q2
  induction q2 with
  | zero =>
    intro σ x1 x2 h
    exact h.elim
  | succ q2 ih =>
    intro σ x1 x2 h
    unfold vX9_findGroups_L2 at h
    refine r_iload_n hc dX9_findGroups_2 rfl ?_
    refine r_sipush (v := 10000) hc dX9_findGroups_3 (by decide) ?_
    refine r_icmp_ge (tgt := 22) hc dX9_findGroups_6 (by decide) (fun hq1 => ?_) (fun hq1 => ?_)
    · replace h := h.1 hq1
      refine r_iconst (v := 0) hc dX9_findGroups_22 (by decide) ?_
      refine r_istore_n hc dX9_findGroups_23 rfl (by decide) (ss (s1 trivial)) ?_
      obtain ⟨e24, h⟩ := h
      exact r_weak (wk (wk (wk (wn (wn w0))))) (tvX9_findGroups_L24 hn hc hr hlk e24 _ _ _ h)
    · replace h := h.2 hq1
      refine r_aload_n hc dX9_findGroups_9 rfl ?_
      refine r_get (v := .ref (ad 12)) hc iX9_findGroups_X9 (Nat.lt_of_lt_of_le (by decide) hn) rfl rfl rfl 16 (by decide) fX9_findGroups_44 rfl dX9_findGroups_10 ?_
      refine r_iload_n hc dX9_findGroups_13 rfl ?_
      refine r_iconst (v := 0) hc dX9_findGroups_14 (by decide) ?_
      refine r_zast hc (Nat.lt_of_lt_of_le (by decide) hn) rfl rfl h.1 dX9_findGroups_15 ?_
      replace h := h.2
      refine r_iinc (v := x2 + 1) hc dX9_findGroups_16 rfl rfl (by decide) (ss (s1 trivial)) ?_
      refine r_goto (tgt := 2) hc dX9_findGroups_19 (by decide) ?_
      exact r_weak (wk (wk (wk (wn (wn w0))))) (ih _ _ _ h)
set_option maxHeartbeats 4000000 in
set_option maxRecDepth 100000 in
theorem zX9_findGroups {cy : Nat → ClassId} {ad : Nat → Nat} {n : Nat} {D : va_G} {A : Nat → Prop} {l : Launch} (hn : 17 ≤ n) (σ : St) (x1 : Int32) : Cv TR cy ad n D A l yX9_findGroups wsX9_findGroups rmX9_findGroups σ [.ref (ad 0), .int x1] (fun Q => vX9_findGroups Q σ x1) := by
  intro Q h
  refine startW (cc := cX9_findGroups) (nL := 5) (own := RX9) (lo := [some (.ref (ad 0)), some (.int x1), none, none, none]) (by decide) rfl rfl (lo_start (av := [.ref (ad 0), .int x1]) (k := 3) (allc1_ok (l := [.ref (ad 0), .int x1]) trivial)) (Nat.le_of_ble_eq_true rfl) (fun p e s m args below meth c hc hr hlk => ?_)
  unfold vX9_findGroups at h
  refine r_iconst (v := 0) hc dX9_findGroups_0 (by decide) ?_
  refine r_istore_n hc dX9_findGroups_1 rfl (by decide) (ss (s1 trivial)) ?_
  obtain ⟨e2, h⟩ := h
  exact r_weak (wk (wk (wk (wn (wn w0))))) (tvX9_findGroups_L2 hn hc hr hlk e2 _ _ _ h)
theorem iX9_sizeOf_X9 : ∀ w ∈ u_ws RX9 TX9 25, w ∈ wsX9_sizeOf := by decide +kernel
theorem fX9_sizeOf_44 : Cond.fieldLink RX9 44 (TX9 16).1 (TX9 16).2.1 (TX9 16).2.2.1 ∈ wsX9_sizeOf := by decide +kernel
set_option maxHeartbeats 4000000 in
set_option maxRecDepth 100000 in
theorem tvX9_sizeOf_L9 {cy : Nat → ClassId} {ad : Nat → Nat} {n : Nat} {D : va_G} {A : Nat → Prop} {l : Launch} {p : Program} {e : Env} {s : State} {m : MethodId} {args : Array Value} {below : List Frame} {meth : Method} {c : Code} {Q : Int32 → St → Prop} (hn : 17 ≤ n) (hc : CX p s m args c D cy cX9_sizeOf 4 RX9 wsX9_sizeOf) (hr : meth.sig.returnType = some .int) (hlk : meth.locks = false) : ∀ (q9 : Nat) (σ : St) (x2 : Int32) (x3 : Int32), vX9_sizeOf_L9 Q q9 σ x2 x3 → WV TR cy ad n D A p l e rmX9_sizeOf s m args below meth c 4 (MQ below (va_Qi Q (Bw TR cy ad n D) A) args s 0 0 A) σ [some (.ref (ad 0)), none, some (.int x2), some (.int x3)] [] 9 := by
  intro q9
  induction q9 with
  | zero =>
    intro σ x2 x3 h
    exact h.elim
  | succ q9 ih =>
    intro σ x2 x3 h
    unfold vX9_sizeOf_L9 at h
    refine r_iload_n hc dX9_sizeOf_9 rfl ?_
    refine r_sipush (v := 10000) hc dX9_sizeOf_10 (by decide) ?_
    refine r_icmp_ge (tgt := 39) hc dX9_sizeOf_13 (by decide) (fun hq3 => ?_) (fun hq3 => ?_)
    · replace h := h.1 hq3
      refine r_iload_n hc dX9_sizeOf_39 rfl ?_
      exact e_i hc hr hlk h dX9_sizeOf_40
    · replace h := h.2 hq3
      refine r_iload_n hc dX9_sizeOf_16 rfl ?_
      refine r_aload_n hc dX9_sizeOf_17 rfl ?_
      refine r_get (v := .ref (ad 12)) hc iX9_sizeOf_X9 (Nat.lt_of_lt_of_le (by decide) hn) rfl rfl rfl 16 (by decide) fX9_sizeOf_44 rfl dX9_sizeOf_18 ?_
      refine r_iload_n hc dX9_sizeOf_21 rfl ?_
      refine r_zald hc (Nat.lt_of_lt_of_le (by decide) hn) rfl rfl h.1 dX9_sizeOf_22 ?_
      replace h := h.2
      refine r_if_eq (tgt := 30) hc dX9_sizeOf_23 (by decide) (fun hq2 => ?_) (fun hq2 => ?_)
      · replace h := h.1 hq2
        refine r_iconst (v := 0) hc dX9_sizeOf_30 (by decide) ?_
        refine r_iadd hc dX9_sizeOf_31 ?_
        refine r_istore_n hc dX9_sizeOf_32 rfl (by decide) (ss (s1 trivial)) ?_
        refine r_iinc (v := x3 + 1) hc dX9_sizeOf_33 rfl rfl (by decide) (ss (ss (s1 trivial))) ?_
        refine r_goto (tgt := 9) hc dX9_sizeOf_36 (by decide) ?_
        exact r_weak (wk (wn (wk (wk w0)))) (ih _ _ _ h)
      · replace h := h.2 hq2
        refine r_iconst (v := 1) hc dX9_sizeOf_26 (by decide) ?_
        refine r_goto (tgt := 31) hc dX9_sizeOf_27 (by decide) ?_
        refine r_iadd hc dX9_sizeOf_31 ?_
        refine r_istore_n hc dX9_sizeOf_32 rfl (by decide) (ss (s1 trivial)) ?_
        refine r_iinc (v := x3 + 1) hc dX9_sizeOf_33 rfl rfl (by decide) (ss (ss (s1 trivial))) ?_
        refine r_goto (tgt := 9) hc dX9_sizeOf_36 (by decide) ?_
        exact r_weak (wk (wn (wk (wk w0)))) (ih _ _ _ h)
set_option maxHeartbeats 4000000 in
set_option maxRecDepth 100000 in
theorem zX9_sizeOf {cy : Nat → ClassId} {ad : Nat → Nat} {n : Nat} {D : va_G} {A : Nat → Prop} {l : Launch} (hn : 17 ≤ n) (σ : St) (x1 : Int32) : Ci TR cy ad n D A l yX9_sizeOf wsX9_sizeOf rmX9_sizeOf σ [.ref (ad 0), .int x1] (fun Q => vX9_sizeOf Q σ x1) := by
  intro Q h
  refine startW (cc := cX9_sizeOf) (nL := 4) (own := RX9) (lo := [some (.ref (ad 0)), some (.int x1), none, none]) (by decide) rfl rfl (lo_start (av := [.ref (ad 0), .int x1]) (k := 2) (allc1_ok (l := [.ref (ad 0), .int x1]) trivial)) (Nat.le_of_ble_eq_true rfl) (fun p e s m args below meth c hc hr hlk => ?_)
  unfold vX9_sizeOf at h
  refine r_aload_n hc dX9_sizeOf_0 rfl ?_
  refine r_iload_n hc dX9_sizeOf_1 rfl ?_
  refine r_callVv hc (zX9_findGroups hn σ x1) h (Nat.lt_of_lt_of_le (by decide) hn) rfl rfl rfl (cwV 1 hc.2.2.2.2.1 gX9_sizeOf_X9_findGroups rfl rfl rfl qX9_findGroups ⟨Nat.le_of_ble_eq_true rfl, Nat.le_of_ble_eq_true rfl⟩) rfl rfl (Nat.le_of_ble_eq_true rfl) dX9_sizeOf_2 (fun σ1 h => ?_)
  refine r_iconst (v := 0) hc dX9_sizeOf_5 (by decide) ?_
  refine r_istore_n hc dX9_sizeOf_6 rfl (by decide) (ss (s1 trivial)) ?_
  refine r_iconst (v := 0) hc dX9_sizeOf_7 (by decide) ?_
  refine r_istore_n hc dX9_sizeOf_8 rfl (by decide) (ss (ss (s1 trivial))) ?_
  obtain ⟨e9, h⟩ := h
  exact r_weak (wk (wn (wk (wk w0)))) (tvX9_sizeOf_L9 hn hc hr hlk e9 _ _ _ h)
theorem iX9_measure_X9 : ∀ w ∈ u_ws RX9 TX9 25, w ∈ wsX9_measure := by decide +kernel
theorem fX9_measure_50 : Cond.fieldLink RX9 50 (TX9 18).1 (TX9 18).2.1 (TX9 18).2.2.1 ∈ wsX9_measure := by decide +kernel
theorem fX9_measure_54 : Cond.fieldLink RX9 54 (TX9 19).1 (TX9 19).2.1 (TX9 19).2.2.1 ∈ wsX9_measure := by decide +kernel
set_option maxHeartbeats 4000000 in
set_option maxRecDepth 100000 in
theorem tvX9_measure_L25 {cy : Nat → ClassId} {ad : Nat → Nat} {n : Nat} {D : va_G} {A : Nat → Prop} {l : Launch} {p : Program} {e : Env} {s : State} {m : MethodId} {args : Array Value} {below : List Frame} {meth : Method} {c : Code} {Q : St → Prop} {K7 : St → Int32 → Int32 → Prop} (hn : 17 ≤ n) (hc : CX p s m args c D cy cX9_measure 4 RX9 wsX9_measure) (hr : meth.sig.returnType = none) (hlk : meth.locks = false) (hK7 : ∀ (σ : St) (x1 : Int32) (x2 : Int32), K7 σ x1 x2 → WV TR cy ad n D A p l e rmX9_measure s m args below meth c 4 (MQ below (va_Qv Q (Bw TR cy ad n D) A) args s 0 0 A) σ [some (.ref (ad 0)), some (.int x1), some (.int x2), none] [] 7) : ∀ (q25 : Nat) (σ : St) (x1 : Int32) (x2 : Int32) (x3 : Int32), vX9_measure_L25 Q K7 q25 σ x1 x2 x3 → WV TR cy ad n D A p l e rmX9_measure s m args below meth c 4 (MQ below (va_Qv Q (Bw TR cy ad n D) A) args s 0 0 A) σ [some (.ref (ad 0)), some (.int x1), some (.int x2), some (.int x3)] [] 25 := by
  intro q25
  induction q25 with
  | zero =>
    intro σ x1 x2 x3 h
    exact h.elim
  | succ q25 ih =>
    intro σ x1 x2 x3 h
    unfold vX9_measure_L25 at h
    refine r_iload_n hc dX9_measure_25 rfl ?_
    refine r_iload_n hc dX9_measure_26 rfl ?_
    refine r_icmp_ge (tgt := 54) hc dX9_measure_27 (by decide) (fun hq8 => ?_) (fun hq8 => ?_)
    · replace h := h.1 hq8
      refine r_iinc (v := x2 + 1) hc dX9_measure_54 rfl rfl (by decide) (ss (s1 trivial)) ?_
      refine r_goto (tgt := 7) hc dX9_measure_57 (by decide) ?_
      exact r_weak (wk (wk (wk (wn w0)))) (hK7 _ _ _ h)
    · replace h := h.2 hq8
      refine r_aload_n hc dX9_measure_30 rfl ?_
      refine r_get (v := .ref (ad 15)) hc iX9_measure_X9 (Nat.lt_of_lt_of_le (by decide) hn) rfl rfl rfl 19 (by decide) fX9_measure_54 rfl dX9_measure_31 ?_
      refine r_sipush (v := 256) hc dX9_measure_34 (by decide) ?_
      refine r_iload_n hc dX9_measure_37 rfl ?_
      refine r_imul hc dX9_measure_38 ?_
      refine r_iload_n hc dX9_measure_39 rfl ?_
      refine r_iadd hc dX9_measure_40 ?_
      refine r_aload_n hc dX9_measure_41 rfl ?_
      refine r_iload_n hc dX9_measure_42 rfl ?_
      refine r_iload_n hc dX9_measure_43 rfl ?_
      refine r_callVi hc (zX9_servesIt hn σ x2 x3) h (Nat.lt_of_lt_of_le (by decide) hn) rfl rfl rfl (cwV 2 hc.2.2.2.2.1 gX9_measure_X9_servesIt rfl rfl rfl qX9_servesIt ⟨Nat.le_of_ble_eq_true rfl, Nat.le_of_ble_eq_true rfl⟩) rfl rfl (Nat.le_of_ble_eq_true rfl) dX9_measure_44 (fun r7 σ6 h => ?_)
      refine r_zast hc (Nat.lt_of_lt_of_le (by decide) hn) rfl rfl h.1 dX9_measure_47 ?_
      replace h := h.2
      refine r_iinc (v := x3 + 1) hc dX9_measure_48 rfl rfl (by decide) (ss (ss (s1 trivial))) ?_
      refine r_goto (tgt := 25) hc dX9_measure_51 (by decide) ?_
      exact r_weak (wk (wk (wk (wk w0)))) (ih _ _ _ _ h)
set_option maxHeartbeats 4000000 in
set_option maxRecDepth 100000 in
theorem tvX9_measure_L7 {cy : Nat → ClassId} {ad : Nat → Nat} {n : Nat} {D : va_G} {A : Nat → Prop} {l : Launch} {p : Program} {e : Env} {s : State} {m : MethodId} {args : Array Value} {below : List Frame} {meth : Method} {c : Code} {Q : St → Prop} (hn : 17 ≤ n) (hc : CX p s m args c D cy cX9_measure 4 RX9 wsX9_measure) (hr : meth.sig.returnType = none) (hlk : meth.locks = false) : ∀ (q7 : Nat) (σ : St) (x1 : Int32) (x2 : Int32), vX9_measure_L7 Q q7 σ x1 x2 → WV TR cy ad n D A p l e rmX9_measure s m args below meth c 4 (MQ below (va_Qv Q (Bw TR cy ad n D) A) args s 0 0 A) σ [some (.ref (ad 0)), some (.int x1), some (.int x2), none] [] 7 := by
  intro q7
  induction q7 with
  | zero =>
    intro σ x1 x2 h
    exact h.elim
  | succ q7 ih =>
    intro σ x1 x2 h
    unfold vX9_measure_L7 at h
    refine r_iload_n hc dX9_measure_7 rfl ?_
    refine r_iload_n hc dX9_measure_8 rfl ?_
    refine r_icmp_ge (tgt := 60) hc dX9_measure_9 (by decide) (fun hq5 => ?_) (fun hq5 => ?_)
    · replace h := h.1 hq5
      exact e_v hc hr hlk h dX9_measure_60
    · replace h := h.2 hq5
      refine r_aload_n hc dX9_measure_12 rfl ?_
      refine r_get (v := .ref (ad 14)) hc iX9_measure_X9 (Nat.lt_of_lt_of_le (by decide) hn) rfl rfl rfl 18 (by decide) fX9_measure_50 rfl dX9_measure_13 ?_
      refine r_iload_n hc dX9_measure_16 rfl ?_
      refine r_aload_n hc dX9_measure_17 rfl ?_
      refine r_iload_n hc dX9_measure_18 rfl ?_
      refine r_callVi hc (zX9_sizeOf hn σ x2) h (Nat.lt_of_lt_of_le (by decide) hn) rfl rfl rfl (cwV 1 hc.2.2.2.2.1 gX9_measure_X9_sizeOf rfl rfl rfl qX9_sizeOf ⟨Nat.le_of_ble_eq_true rfl, Nat.le_of_ble_eq_true rfl⟩) rfl rfl (Nat.le_of_ble_eq_true rfl) dX9_measure_19 (fun r4 σ3 h => ?_)
      refine r_iast hc (Nat.lt_of_lt_of_le (by decide) hn) rfl rfl h.1 dX9_measure_22 ?_
      replace h := h.2
      refine r_iconst (v := 0) hc dX9_measure_23 (by decide) ?_
      refine r_istore_n hc dX9_measure_24 rfl (by decide) (ss (ss (s1 trivial))) ?_
      obtain ⟨e25, h⟩ := h
      exact r_weak (wk (wk (wk (wk w0)))) (tvX9_measure_L25 hn hc hr hlk ih e25 _ _ _ _ h)
set_option maxHeartbeats 4000000 in
set_option maxRecDepth 100000 in
theorem zX9_measure {cy : Nat → ClassId} {ad : Nat → Nat} {n : Nat} {D : va_G} {A : Nat → Prop} {l : Launch} (hn : 17 ≤ n) (σ : St) : Cv TR cy ad n D A l yX9_measure wsX9_measure rmX9_measure σ [.ref (ad 0)] (fun Q => vX9_measure Q σ ) := by
  intro Q h
  refine startW (cc := cX9_measure) (nL := 4) (own := RX9) (lo := [some (.ref (ad 0)), none, none, none]) (by decide) rfl rfl (lo_start (av := [.ref (ad 0)]) (k := 3) (allc1_ok (l := [.ref (ad 0)]) trivial)) (Nat.le_of_ble_eq_true rfl) (fun p e s m args below meth c hc hr hlk => ?_)
  unfold vX9_measure at h
  refine r_aload_n hc dX9_measure_0 rfl ?_
  refine r_callVi hc (zX9_all hn σ) h (Nat.lt_of_lt_of_le (by decide) hn) rfl rfl rfl (cwV 0 hc.2.2.2.2.1 gX9_measure_X9_all rfl rfl rfl qX9_all ⟨Nat.le_of_ble_eq_true rfl, Nat.le_of_ble_eq_true rfl⟩) rfl rfl (Nat.le_of_ble_eq_true rfl) dX9_measure_1 (fun r2 σ1 h => ?_)
  refine r_istore_n hc dX9_measure_4 rfl (by decide) (s1 trivial) ?_
  refine r_iconst (v := 0) hc dX9_measure_5 (by decide) ?_
  refine r_istore_n hc dX9_measure_6 rfl (by decide) (ss (s1 trivial)) ?_
  obtain ⟨e7, h⟩ := h
  exact r_weak (wk (wk (wk (wn w0)))) (tvX9_measure_L7 hn hc hr hlk e7 _ _ _ h)
theorem iX9_serverOf_X9 : ∀ w ∈ u_ws RX9 TX9 25, w ∈ wsX9_serverOf := by decide +kernel
theorem fX9_serverOf_38 : Cond.fieldLink RX9 38 (TX9 12).1 (TX9 12).2.1 (TX9 12).2.2.1 ∈ wsX9_serverOf := by decide +kernel
theorem fX9_serverOf_54 : Cond.fieldLink RX9 54 (TX9 19).1 (TX9 19).2.1 (TX9 19).2.2.1 ∈ wsX9_serverOf := by decide +kernel
theorem fX9_serverOf_50 : Cond.fieldLink RX9 50 (TX9 18).1 (TX9 18).2.1 (TX9 18).2.2.1 ∈ wsX9_serverOf := by decide +kernel
set_option maxHeartbeats 4000000 in
set_option maxRecDepth 100000 in
theorem tvX9_serverOf_L4 {cy : Nat → ClassId} {ad : Nat → Nat} {n : Nat} {D : va_G} {A : Nat → Prop} {l : Launch} {p : Program} {e : Env} {s : State} {m : MethodId} {args : Array Value} {below : List Frame} {meth : Method} {c : Code} {Q : Int32 → St → Prop} (hn : 17 ≤ n) (hc : CX p s m args c D cy cX9_serverOf 4 RX9 wsX9_serverOf) (hr : meth.sig.returnType = some .int) (hlk : meth.locks = false) : ∀ (q4 : Nat) (σ : St) (x1 : Int32) (x2 : Int32) (x3 : Int32), vX9_serverOf_L4 Q q4 σ x1 x2 x3 → WV TR cy ad n D A p l e rmX9_serverOf s m args below meth c 4 (MQ below (va_Qi Q (Bw TR cy ad n D) A) args s 0 0 A) σ [some (.ref (ad 0)), some (.int x1), some (.int x2), some (.int x3)] [] 4 := by
  intro q4
  induction q4 with
  | zero =>
    intro σ x1 x2 x3 h
    exact h.elim
  | succ q4 ih =>
    intro σ x1 x2 x3 h
    unfold vX9_serverOf_L4 at h
    refine r_iload_n hc dX9_serverOf_4 rfl ?_
    refine r_aload_n hc dX9_serverOf_5 rfl ?_
    refine r_callVi hc (zX9_all hn σ) h (Nat.lt_of_lt_of_le (by decide) hn) rfl rfl rfl (cwV 0 hc.2.2.2.2.1 gX9_serverOf_X9_all rfl rfl rfl qX9_all ⟨Nat.le_of_ble_eq_true rfl, Nat.le_of_ble_eq_true rfl⟩) rfl rfl (Nat.le_of_ble_eq_true rfl) dX9_serverOf_6 (fun r2 σ1 h => ?_)
    refine r_icmp_ge (tgt := 63) hc dX9_serverOf_9 (by decide) (fun hq6 => ?_) (fun hq6 => ?_)
    · replace h := h.1 hq6
      refine r_iload_n hc dX9_serverOf_63 rfl ?_
      exact e_i hc hr hlk h dX9_serverOf_64
    · replace h := h.2 hq6
      refine r_aload_n hc dX9_serverOf_12 rfl ?_
      refine r_get (v := .ref (ad 10)) hc iX9_serverOf_X9 (Nat.lt_of_lt_of_le (by decide) hn) rfl rfl rfl 12 (by decide) fX9_serverOf_38 rfl dX9_serverOf_13 ?_
      refine r_iload_n hc dX9_serverOf_16 rfl ?_
      refine r_zald hc (Nat.lt_of_lt_of_le (by decide) hn) rfl rfl h.1 dX9_serverOf_17 ?_
      replace h := h.2
      refine r_if_eq (tgt := 55) hc dX9_serverOf_18 (by decide) (fun hq5 => ?_) (fun hq5 => ?_)
      · replace h := h.1 hq5
        refine r_iload_n hc dX9_serverOf_55 rfl ?_
        refine r_istore_n hc dX9_serverOf_56 rfl (by decide) (ss (s1 trivial)) ?_
        refine r_iinc (v := x3 + 1) hc dX9_serverOf_57 rfl rfl (by decide) (ss (ss (s1 trivial))) ?_
        refine r_goto (tgt := 4) hc dX9_serverOf_60 (by decide) ?_
        exact r_weak (wk (wk (wk (wk w0)))) (ih _ _ _ _ h)
      · replace h := h.2 hq5
        refine r_aload_n hc dX9_serverOf_21 rfl ?_
        refine r_get (v := .ref (ad 15)) hc iX9_serverOf_X9 (Nat.lt_of_lt_of_le (by decide) hn) rfl rfl rfl 19 (by decide) fX9_serverOf_54 rfl dX9_serverOf_22 ?_
        refine r_sipush (v := 256) hc dX9_serverOf_25 (by decide) ?_
        refine r_iload_n hc dX9_serverOf_28 rfl ?_
        refine r_imul hc dX9_serverOf_29 ?_
        refine r_iload_n hc dX9_serverOf_30 rfl ?_
        refine r_iadd hc dX9_serverOf_31 ?_
        refine r_zald hc (Nat.lt_of_lt_of_le (by decide) hn) rfl rfl h.1 dX9_serverOf_32 ?_
        replace h := h.2
        refine r_if_eq (tgt := 55) hc dX9_serverOf_33 (by decide) (fun hq4 => ?_) (fun hq4 => ?_)
        · replace h := h.1 hq4
          refine r_iload_n hc dX9_serverOf_55 rfl ?_
          refine r_istore_n hc dX9_serverOf_56 rfl (by decide) (ss (s1 trivial)) ?_
          refine r_iinc (v := x3 + 1) hc dX9_serverOf_57 rfl rfl (by decide) (ss (ss (s1 trivial))) ?_
          refine r_goto (tgt := 4) hc dX9_serverOf_60 (by decide) ?_
          exact r_weak (wk (wk (wk (wk w0)))) (ih _ _ _ _ h)
        · replace h := h.2 hq4
          refine r_aload_n hc dX9_serverOf_36 rfl ?_
          refine r_get (v := .ref (ad 14)) hc iX9_serverOf_X9 (Nat.lt_of_lt_of_le (by decide) hn) rfl rfl rfl 18 (by decide) fX9_serverOf_50 rfl dX9_serverOf_37 ?_
          refine r_iload_n hc dX9_serverOf_40 rfl ?_
          refine r_iald hc (Nat.lt_of_lt_of_le (by decide) hn) rfl rfl h.1 dX9_serverOf_41 ?_
          replace h := h.2
          refine r_aload_n hc dX9_serverOf_42 rfl ?_
          refine r_get (v := .ref (ad 14)) hc iX9_serverOf_X9 (Nat.lt_of_lt_of_le (by decide) hn) rfl rfl rfl 18 (by decide) fX9_serverOf_50 rfl dX9_serverOf_43 ?_
          refine r_iload_n hc dX9_serverOf_46 rfl ?_
          refine r_iald hc (Nat.lt_of_lt_of_le (by decide) hn) rfl rfl h.1 dX9_serverOf_47 ?_
          replace h := h.2
          refine r_icmp_ge (tgt := 55) hc dX9_serverOf_48 (by decide) (fun hq3 => ?_) (fun hq3 => ?_)
          · replace h := h.1 hq3
            refine r_iload_n hc dX9_serverOf_55 rfl ?_
            refine r_istore_n hc dX9_serverOf_56 rfl (by decide) (ss (s1 trivial)) ?_
            refine r_iinc (v := x3 + 1) hc dX9_serverOf_57 rfl rfl (by decide) (ss (ss (s1 trivial))) ?_
            refine r_goto (tgt := 4) hc dX9_serverOf_60 (by decide) ?_
            exact r_weak (wk (wk (wk (wk w0)))) (ih _ _ _ _ h)
          · replace h := h.2 hq3
            refine r_iload_n hc dX9_serverOf_51 rfl ?_
            refine r_goto (tgt := 56) hc dX9_serverOf_52 (by decide) ?_
            refine r_istore_n hc dX9_serverOf_56 rfl (by decide) (ss (s1 trivial)) ?_
            refine r_iinc (v := x3 + 1) hc dX9_serverOf_57 rfl rfl (by decide) (ss (ss (s1 trivial))) ?_
            refine r_goto (tgt := 4) hc dX9_serverOf_60 (by decide) ?_
            exact r_weak (wk (wk (wk (wk w0)))) (ih _ _ _ _ h)
set_option maxHeartbeats 4000000 in
set_option maxRecDepth 100000 in
theorem zX9_serverOf {cy : Nat → ClassId} {ad : Nat → Nat} {n : Nat} {D : va_G} {A : Nat → Prop} {l : Launch} (hn : 17 ≤ n) (σ : St) (x1 : Int32) : Ci TR cy ad n D A l yX9_serverOf wsX9_serverOf rmX9_serverOf σ [.ref (ad 0), .int x1] (fun Q => vX9_serverOf Q σ x1) := by
  intro Q h
  refine startW (cc := cX9_serverOf) (nL := 4) (own := RX9) (lo := [some (.ref (ad 0)), some (.int x1), none, none]) (by decide) rfl rfl (lo_start (av := [.ref (ad 0), .int x1]) (k := 2) (allc1_ok (l := [.ref (ad 0), .int x1]) trivial)) (Nat.le_of_ble_eq_true rfl) (fun p e s m args below meth c hc hr hlk => ?_)
  unfold vX9_serverOf at h
  refine r_iconst (v := 0) hc dX9_serverOf_0 (by decide) ?_
  refine r_istore_n hc dX9_serverOf_1 rfl (by decide) (ss (s1 trivial)) ?_
  refine r_iconst (v := 1) hc dX9_serverOf_2 (by decide) ?_
  refine r_istore_n hc dX9_serverOf_3 rfl (by decide) (ss (ss (s1 trivial))) ?_
  obtain ⟨e4, h⟩ := h
  exact r_weak (wk (wk (wk (wk w0)))) (tvX9_serverOf_L4 hn hc hr hlk e4 _ _ _ _ h)
theorem iX9_value_X9 : ∀ w ∈ u_ws RX9 TX9 25, w ∈ wsX9_value := by decide +kernel
theorem fX9_value_129 : Cond.fieldLink RX9 129 (TX9 21).1 (TX9 21).2.1 (TX9 21).2.2.1 ∈ wsX9_value := by decide +kernel
theorem fX9_value_132 : Cond.fieldLink RX9 132 (TX9 22).1 (TX9 22).2.1 (TX9 22).2.2.1 ∈ wsX9_value := by decide +kernel
theorem fX9_value_135 : Cond.fieldLink RX9 135 (TX9 23).1 (TX9 23).2.1 (TX9 23).2.2.1 ∈ wsX9_value := by decide +kernel
theorem fX9_value_138 : Cond.fieldLink RX9 138 (TX9 24).1 (TX9 24).2.1 (TX9 24).2.2.1 ∈ wsX9_value := by decide +kernel
set_option maxHeartbeats 4000000 in
set_option maxRecDepth 100000 in
theorem zX9_value {cy : Nat → ClassId} {ad : Nat → Nat} {n : Nat} {D : va_G} {A : Nat → Prop} {l : Launch} (hn : 17 ≤ n) (σ : St) (x1 : Int32) : Ci TR cy ad n D A l yX9_value wsX9_value rmX9_value σ [.ref (ad 0), .int x1] (fun Q => vX9_value Q σ x1) := by
  intro Q h
  refine startW (cc := cX9_value) (nL := 2) (own := RX9) (lo := [some (.ref (ad 0)), some (.int x1)]) (by decide) rfl rfl (lo_start (av := [.ref (ad 0), .int x1]) (k := 0) (allc1_ok (l := [.ref (ad 0), .int x1]) trivial)) (Nat.le_of_ble_eq_true rfl) (fun p e s m args below meth c hc hr hlk => ?_)
  unfold vX9_value at h
  refine r_iload_n hc dX9_value_0 rfl ?_
  refine r_if_ne (tgt := 11) hc dX9_value_1 (by decide) (fun hq3 => ?_) (fun hq3 => ?_)
  · replace h := h.1 hq3
    refine r_aload_n hc dX9_value_4 rfl ?_
    refine r_get (v := .int (rd σ 0 21)) hc iX9_value_X9 (Nat.lt_of_lt_of_le (by decide) hn) rfl rfl rfl 21 (by decide) fX9_value_129 rfl dX9_value_5 ?_
    refine r_goto (tgt := 39) hc dX9_value_8 (by decide) ?_
    exact e_i hc hr hlk h dX9_value_39
  · replace h := h.2 hq3
    refine r_iload_n hc dX9_value_11 rfl ?_
    refine r_iconst (v := 1) hc dX9_value_12 (by decide) ?_
    refine r_icmp_ne (tgt := 23) hc dX9_value_13 (by decide) (fun hq2 => ?_) (fun hq2 => ?_)
    · replace h := h.1 hq2
      refine r_aload_n hc dX9_value_16 rfl ?_
      refine r_get (v := .int (rd σ 0 22)) hc iX9_value_X9 (Nat.lt_of_lt_of_le (by decide) hn) rfl rfl rfl 22 (by decide) fX9_value_132 rfl dX9_value_17 ?_
      refine r_goto (tgt := 39) hc dX9_value_20 (by decide) ?_
      exact e_i hc hr hlk h dX9_value_39
    · replace h := h.2 hq2
      refine r_iload_n hc dX9_value_23 rfl ?_
      refine r_iconst (v := 2) hc dX9_value_24 (by decide) ?_
      refine r_icmp_ne (tgt := 35) hc dX9_value_25 (by decide) (fun hq1 => ?_) (fun hq1 => ?_)
      · replace h := h.1 hq1
        refine r_aload_n hc dX9_value_28 rfl ?_
        refine r_get (v := .int (rd σ 0 23)) hc iX9_value_X9 (Nat.lt_of_lt_of_le (by decide) hn) rfl rfl rfl 23 (by decide) fX9_value_135 rfl dX9_value_29 ?_
        refine r_goto (tgt := 39) hc dX9_value_32 (by decide) ?_
        exact e_i hc hr hlk h dX9_value_39
      · replace h := h.2 hq1
        refine r_aload_n hc dX9_value_35 rfl ?_
        refine r_get (v := .int (rd σ 0 24)) hc iX9_value_X9 (Nat.lt_of_lt_of_le (by decide) hn) rfl rfl rfl 24 (by decide) fX9_value_138 rfl dX9_value_36 ?_
        exact e_i hc hr hlk h dX9_value_39
theorem iX9_ask_X9 : ∀ w ∈ u_ws RX9 TX9 25, w ∈ wsX9_ask := by decide +kernel
theorem fX9_ask_60 : Cond.fieldLink RX9 60 (TX9 0).1 (TX9 0).2.1 (TX9 0).2.2.1 ∈ wsX9_ask := by decide +kernel
theorem oX9_ask_74 : Jvm.Cond.constant RX9 74 (-2000000002) ∈ wsX9_ask := by decide +kernel
theorem fX9_ask_64 : Cond.fieldLink RX9 64 (TX9 1).1 (TX9 1).2.1 (TX9 1).2.2.1 ∈ wsX9_ask := by decide +kernel
theorem fX9_ask_141 : Cond.fieldLink RX9 141 (TX9 13).1 (TX9 13).2.1 (TX9 13).2.2.1 ∈ wsX9_ask := by decide +kernel
theorem fX9_ask_50 : Cond.fieldLink RX9 50 (TX9 18).1 (TX9 18).2.1 (TX9 18).2.2.1 ∈ wsX9_ask := by decide +kernel
theorem fX9_ask_29 : Cond.fieldLink RX9 29 (TX9 9).1 (TX9 9).2.1 (TX9 9).2.2.1 ∈ wsX9_ask := by decide +kernel
theorem fX9_ask_71 : Cond.fieldLink RX9 71 (TX9 5).1 (TX9 5).2.1 (TX9 5).2.2.1 ∈ wsX9_ask := by decide +kernel
theorem fX9_ask_129 : Cond.fieldLink RX9 129 (TX9 21).1 (TX9 21).2.1 (TX9 21).2.2.1 ∈ wsX9_ask := by decide +kernel
theorem oX9_ask_150 : Jvm.Cond.constant RX9 150 (-2000000001) ∈ wsX9_ask := by decide +kernel
theorem fX9_ask_25 : Cond.fieldLink RX9 25 (TX9 8).1 (TX9 8).2.1 (TX9 8).2.2.1 ∈ wsX9_ask := by decide +kernel
theorem fX9_ask_19 : Cond.fieldLink RX9 19 (TX9 6).1 (TX9 6).2.1 (TX9 6).2.2.1 ∈ wsX9_ask := by decide +kernel
set_option maxHeartbeats 4000000 in
set_option maxRecDepth 100000 in
theorem tvX9_ask_L112 {cy : Nat → ClassId} {ad : Nat → Nat} {n : Nat} {D : va_G} {A : Nat → Prop} {l : Launch} {p : Program} {e : Env} {s : State} {m : MethodId} {args : Array Value} {below : List Frame} {meth : Method} {c : Code} {Q : Int32 → St → Prop} {K93 : St → Int32 → Int32 → Int32 → Prop} (hn : 17 ≤ n) (hc : CX p s m args c D cy cX9_ask 6 RX9 wsX9_ask) (hr : meth.sig.returnType = some .int) (hlk : meth.locks = false) (hK93 : ∀ (σ : St) (x1 : Int32) (x2 : Int32) (x3 : Int32), K93 σ x1 x2 x3 → WV TR cy ad n D A p l e rmX9_ask s m args below meth c 6 (MQ below (va_Qi Q (Bw TR cy ad n D) A) args s 0 0 A) σ [some (.ref (ad 0)), some (.int x1), some (.int x2), some (.int x3), none, none] [] 93) : ∀ (q112 : Nat) (σ : St) (x1 : Int32) (x2 : Int32) (x3 : Int32) (x4 : Int32) (x5 : Int32), vX9_ask_L112 Q K93 q112 σ x1 x2 x3 x4 x5 → WV TR cy ad n D A p l e rmX9_ask s m args below meth c 6 (MQ below (va_Qi Q (Bw TR cy ad n D) A) args s 0 0 A) σ [some (.ref (ad 0)), some (.int x1), some (.int x2), some (.int x3), some (.int x4), some (.int x5)] [] 112 := by
  intro q112
  induction q112 with
  | zero =>
    intro σ x1 x2 x3 x4 x5 h
    exact h.elim
  | succ q112 ih =>
    intro σ x1 x2 x3 x4 x5 h
    unfold vX9_ask_L112 at h
    refine r_iload hc dX9_ask_112 rfl ?_
    refine r_aload_n hc dX9_ask_114 rfl ?_
    refine r_get (v := .int (rd σ 0 1)) hc iX9_ask_X9 (Nat.lt_of_lt_of_le (by decide) hn) rfl rfl rfl 1 (by decide) fX9_ask_64 rfl dX9_ask_115 ?_
    refine r_icmp_ge (tgt := 173) hc dX9_ask_118 (by decide) (fun hq31 => ?_) (fun hq31 => ?_)
    · replace h := h.1 hq31
      refine r_iload hc dX9_ask_173 rfl ?_
      refine r_if_eq (tgt := 183) hc dX9_ask_175 (by decide) (fun hq22 => ?_) (fun hq22 => ?_)
      · replace h := h.1 hq22
        refine r_iinc (v := x3 + 1) hc dX9_ask_183 rfl rfl (by decide) (ss (ss (s1 trivial))) ?_
        refine r_goto (tgt := 93) hc dX9_ask_186 (by decide) ?_
        exact r_weak (wk (wk (wk (wk (wn (wn w0)))))) (hK93 _ _ _ _ h)
      · replace h := h.2 hq22
        refine r_aload_n hc dX9_ask_178 rfl ?_
        refine r_iload_n hc dX9_ask_179 rfl ?_
        refine r_callVv hc (zX9_add hn σ x3) h (Nat.lt_of_lt_of_le (by decide) hn) rfl rfl rfl (cwV 1 hc.2.2.2.2.1 gX9_ask_X9_add rfl rfl rfl qX9_add ⟨Nat.le_of_ble_eq_true rfl, Nat.le_of_ble_eq_true rfl⟩) rfl rfl (Nat.le_of_ble_eq_true rfl) dX9_ask_180 (fun σ21 h => ?_)
        refine r_iinc (v := x3 + 1) hc dX9_ask_183 rfl rfl (by decide) (ss (ss (s1 trivial))) ?_
        refine r_goto (tgt := 93) hc dX9_ask_186 (by decide) ?_
        exact r_weak (wk (wk (wk (wk (wn (wn w0)))))) (hK93 _ _ _ _ h)
    · replace h := h.2 hq31
      refine r_iload hc dX9_ask_121 rfl ?_
      refine r_if_eq (tgt := 173) hc dX9_ask_123 (by decide) (fun hq30 => ?_) (fun hq30 => ?_)
      · replace h := h.1 hq30
        refine r_iload hc dX9_ask_173 rfl ?_
        refine r_if_eq (tgt := 183) hc dX9_ask_175 (by decide) (fun hq24 => ?_) (fun hq24 => ?_)
        · replace h := h.1 hq24
          refine r_iinc (v := x3 + 1) hc dX9_ask_183 rfl rfl (by decide) (ss (ss (s1 trivial))) ?_
          refine r_goto (tgt := 93) hc dX9_ask_186 (by decide) ?_
          exact r_weak (wk (wk (wk (wk (wn (wn w0)))))) (hK93 _ _ _ _ h)
        · replace h := h.2 hq24
          refine r_aload_n hc dX9_ask_178 rfl ?_
          refine r_iload_n hc dX9_ask_179 rfl ?_
          refine r_callVv hc (zX9_add hn σ x3) h (Nat.lt_of_lt_of_le (by decide) hn) rfl rfl rfl (cwV 1 hc.2.2.2.2.1 gX9_ask_X9_add rfl rfl rfl qX9_add ⟨Nat.le_of_ble_eq_true rfl, Nat.le_of_ble_eq_true rfl⟩) rfl rfl (Nat.le_of_ble_eq_true rfl) dX9_ask_180 (fun σ23 h => ?_)
          refine r_iinc (v := x3 + 1) hc dX9_ask_183 rfl rfl (by decide) (ss (ss (s1 trivial))) ?_
          refine r_goto (tgt := 93) hc dX9_ask_186 (by decide) ?_
          exact r_weak (wk (wk (wk (wk (wn (wn w0)))))) (hK93 _ _ _ _ h)
      · replace h := h.2 hq30
        refine r_aload_n hc dX9_ask_126 rfl ?_
        refine r_iload hc dX9_ask_127 rfl ?_
        refine r_aload_n hc dX9_ask_129 rfl ?_
        refine r_get (v := .ref (ad 4)) hc iX9_ask_X9 (Nat.lt_of_lt_of_le (by decide) hn) rfl rfl rfl 6 (by decide) fX9_ask_19 rfl dX9_ask_130 ?_
        refine r_iconst (v := 4) hc dX9_ask_133 (by decide) ?_
        refine r_iload_n hc dX9_ask_134 rfl ?_
        refine r_imul hc dX9_ask_135 ?_
        refine r_iload hc dX9_ask_136 rfl ?_
        refine r_iadd hc dX9_ask_138 ?_
        refine r_iald hc (Nat.lt_of_lt_of_le (by decide) hn) rfl rfl h.1 dX9_ask_139 ?_
        replace h := h.2
        refine r_aload_n hc dX9_ask_140 rfl ?_
        refine r_iload_n hc dX9_ask_141 rfl ?_
        refine r_iload hc dX9_ask_142 rfl ?_
        refine r_callVi hc (zX9_levelIn hn σ x1 x5) h (Nat.lt_of_lt_of_le (by decide) hn) rfl rfl rfl (cwV 2 hc.2.2.2.2.1 gX9_ask_X9_levelIn rfl rfl rfl qX9_levelIn ⟨Nat.le_of_ble_eq_true rfl, Nat.le_of_ble_eq_true rfl⟩) rfl rfl (Nat.le_of_ble_eq_true rfl) dX9_ask_144 (fun r26 σ25 h => ?_)
        refine r_callVi hc (zX9_liesIn hn σ25 x5 (rd σ 4 ((4 * x3) + x5).toNatClampNeg) r26) h (Nat.lt_of_lt_of_le (by decide) hn) rfl rfl rfl (cwV 3 hc.2.2.2.2.1 gX9_ask_X9_liesIn rfl rfl rfl qX9_liesIn ⟨Nat.le_of_ble_eq_true rfl, Nat.le_of_ble_eq_true rfl⟩) rfl rfl (Nat.le_of_ble_eq_true rfl) dX9_ask_147 (fun r28 σ27 h => ?_)
        refine r_aload_n hc dX9_ask_150 rfl ?_
        refine r_get (v := .ref (ad 7)) hc iX9_ask_X9 (Nat.lt_of_lt_of_le (by decide) hn) rfl rfl rfl 9 (by decide) fX9_ask_29 rfl dX9_ask_151 ?_
        refine r_iload hc dX9_ask_154 rfl ?_
        refine r_iald hc (Nat.lt_of_lt_of_le (by decide) hn) rfl rfl h.1 dX9_ask_156 ?_
        replace h := h.2
        refine r_icmp_ne (tgt := 164) hc dX9_ask_157 (by decide) (fun hq29 => ?_) (fun hq29 => ?_)
        · replace h := h.1 hq29
          refine r_iconst (v := 1) hc dX9_ask_160 (by decide) ?_
          refine r_goto (tgt := 165) hc dX9_ask_161 (by decide) ?_
          refine r_istore hc dX9_ask_165 (by decide) (ss (ss (ss (s1 trivial)))) ?_
          refine r_iinc (v := x5 + 1) hc dX9_ask_167 rfl rfl (by decide) (ss (ss (ss (ss (s1 trivial))))) ?_
          refine r_goto (tgt := 112) hc dX9_ask_170 (by decide) ?_
          exact r_weak (wk (wk (wk (wk (wk (wk w0)))))) (ih _ _ _ _ _ _ h)
        · replace h := h.2 hq29
          refine r_iconst (v := 0) hc dX9_ask_164 (by decide) ?_
          refine r_istore hc dX9_ask_165 (by decide) (ss (ss (ss (s1 trivial)))) ?_
          refine r_iinc (v := x5 + 1) hc dX9_ask_167 rfl rfl (by decide) (ss (ss (ss (ss (s1 trivial))))) ?_
          refine r_goto (tgt := 112) hc dX9_ask_170 (by decide) ?_
          exact r_weak (wk (wk (wk (wk (wk (wk w0)))))) (ih _ _ _ _ _ _ h)
set_option maxHeartbeats 4000000 in
set_option maxRecDepth 100000 in
theorem tvX9_ask_L93 {cy : Nat → ClassId} {ad : Nat → Nat} {n : Nat} {D : va_G} {A : Nat → Prop} {l : Launch} {p : Program} {e : Env} {s : State} {m : MethodId} {args : Array Value} {below : List Frame} {meth : Method} {c : Code} {Q : Int32 → St → Prop} (hn : 17 ≤ n) (hc : CX p s m args c D cy cX9_ask 6 RX9 wsX9_ask) (hr : meth.sig.returnType = some .int) (hlk : meth.locks = false) : ∀ (q93 : Nat) (σ : St) (x1 : Int32) (x2 : Int32) (x3 : Int32), vX9_ask_L93 Q q93 σ x1 x2 x3 → WV TR cy ad n D A p l e rmX9_ask s m args below meth c 6 (MQ below (va_Qi Q (Bw TR cy ad n D) A) args s 0 0 A) σ [some (.ref (ad 0)), some (.int x1), some (.int x2), some (.int x3), none, none] [] 93 := by
  intro q93
  induction q93 with
  | zero =>
    intro σ x1 x2 x3 h
    exact h.elim
  | succ q93 ih =>
    intro σ x1 x2 x3 h
    unfold vX9_ask_L93 at h
    refine r_iload_n hc dX9_ask_93 rfl ?_
    refine r_aload_n hc dX9_ask_94 rfl ?_
    refine r_get (v := .int (rd σ 0 5)) hc iX9_ask_X9 (Nat.lt_of_lt_of_le (by decide) hn) rfl rfl rfl 5 (by decide) fX9_ask_71 rfl dX9_ask_95 ?_
    refine r_icmp_ge (tgt := 189) hc dX9_ask_98 (by decide) (fun hq20 => ?_) (fun hq20 => ?_)
    · replace h := h.1 hq20
      refine r_aload_n hc dX9_ask_189 rfl ?_
      refine r_get (v := .int (rd σ 0 21)) hc iX9_ask_X9 (Nat.lt_of_lt_of_le (by decide) hn) rfl rfl rfl 21 (by decide) fX9_ask_129 rfl dX9_ask_190 ?_
      refine r_if_ne (tgt := 201) hc dX9_ask_193 (by decide) (fun hq19 => ?_) (fun hq19 => ?_)
      · replace h := h.1 hq19
        refine r_ldc (v := (-2000000001)) hc dX9_ask_196 oX9_ask_150 ?_
        refine r_goto (tgt := 206) hc dX9_ask_198 (by decide) ?_
        exact e_i hc hr hlk h dX9_ask_206
      · replace h := h.2 hq19
        refine r_aload_n hc dX9_ask_201 rfl ?_
        refine r_iload_n hc dX9_ask_202 rfl ?_
        refine r_callVi hc (zX9_value hn σ x2) h (Nat.lt_of_lt_of_le (by decide) hn) rfl rfl rfl (cwV 1 hc.2.2.2.2.1 gX9_ask_X9_value rfl rfl rfl qX9_value ⟨Nat.le_of_ble_eq_true rfl, Nat.le_of_ble_eq_true rfl⟩) rfl rfl (Nat.le_of_ble_eq_true rfl) dX9_ask_203 (fun r18 σ17 h => ?_)
        exact e_i hc hr hlk h dX9_ask_206
    · replace h := h.2 hq20
      refine r_aload_n hc dX9_ask_101 rfl ?_
      refine r_get (v := .ref (ad 6)) hc iX9_ask_X9 (Nat.lt_of_lt_of_le (by decide) hn) rfl rfl rfl 8 (by decide) fX9_ask_25 rfl dX9_ask_102 ?_
      refine r_iload_n hc dX9_ask_105 rfl ?_
      refine r_zald hc (Nat.lt_of_lt_of_le (by decide) hn) rfl rfl h.1 dX9_ask_106 ?_
      replace h := h.2
      refine r_istore hc dX9_ask_107 (by decide) (ss (ss (ss (s1 trivial)))) ?_
      refine r_iconst (v := 0) hc dX9_ask_109 (by decide) ?_
      refine r_istore hc dX9_ask_110 (by decide) (ss (ss (ss (ss (s1 trivial))))) ?_
      obtain ⟨e112, h⟩ := h
      exact r_weak (wk (wk (wk (wk (wk (wk w0)))))) (tvX9_ask_L112 hn hc hr hlk ih e112 _ _ _ _ _ _ h)
set_option maxHeartbeats 4000000 in
set_option maxRecDepth 100000 in
theorem tvX9_ask_L27 {cy : Nat → ClassId} {ad : Nat → Nat} {n : Nat} {D : va_G} {A : Nat → Prop} {l : Launch} {p : Program} {e : Env} {s : State} {m : MethodId} {args : Array Value} {below : List Frame} {meth : Method} {c : Code} {Q : Int32 → St → Prop} (hn : 17 ≤ n) (hc : CX p s m args c D cy cX9_ask 6 RX9 wsX9_ask) (hr : meth.sig.returnType = some .int) (hlk : meth.locks = false) : ∀ (q27 : Nat) (σ : St) (x1 : Int32) (x2 : Int32) (x3 : Int32), vX9_ask_L27 Q q27 σ x1 x2 x3 → WV TR cy ad n D A p l e rmX9_ask s m args below meth c 6 (MQ below (va_Qi Q (Bw TR cy ad n D) A) args s 0 0 A) σ [some (.ref (ad 0)), some (.int x1), some (.int x2), some (.int x3), none, none] [] 27 := by
  intro q27
  induction q27 with
  | zero =>
    intro σ x1 x2 x3 h
    exact h.elim
  | succ q27 ih =>
    intro σ x1 x2 x3 h
    unfold vX9_ask_L27 at h
    refine r_iload_n hc dX9_ask_27 rfl ?_
    refine r_aload_n hc dX9_ask_28 rfl ?_
    refine r_get (v := .int (rd σ 0 1)) hc iX9_ask_X9 (Nat.lt_of_lt_of_le (by decide) hn) rfl rfl rfl 1 (by decide) fX9_ask_64 rfl dX9_ask_29 ?_
    refine r_icmp_ge (tgt := 64) hc dX9_ask_32 (by decide) (fun hq16 => ?_) (fun hq16 => ?_)
    · replace h := h.1 hq16
      refine r_aload_n hc dX9_ask_64 rfl ?_
      refine r_callVv hc (zX9_measure hn σ) h (Nat.lt_of_lt_of_le (by decide) hn) rfl rfl rfl (cwV 0 hc.2.2.2.2.1 gX9_ask_X9_measure rfl rfl rfl qX9_measure ⟨Nat.le_of_ble_eq_true rfl, Nat.le_of_ble_eq_true rfl⟩) rfl rfl (Nat.le_of_ble_eq_true rfl) dX9_ask_65 (fun σ7 h => ?_)
      refine r_aload_n hc dX9_ask_68 rfl ?_
      refine r_dup hc dX9_ask_69 rfl ?_
      refine r_get (v := .int (rd σ7 0 13)) hc iX9_ask_X9 (Nat.lt_of_lt_of_le (by decide) hn) rfl rfl rfl 13 (by decide) fX9_ask_141 rfl dX9_ask_70 ?_
      refine r_aload_n hc dX9_ask_73 rfl ?_
      refine r_get (v := .ref (ad 14)) hc iX9_ask_X9 (Nat.lt_of_lt_of_le (by decide) hn) rfl rfl rfl 18 (by decide) fX9_ask_50 rfl dX9_ask_74 ?_
      refine r_aload_n hc dX9_ask_77 rfl ?_
      refine r_iload_n hc dX9_ask_78 rfl ?_
      refine r_callVi hc (zX9_serverOf hn σ7 x1) h (Nat.lt_of_lt_of_le (by decide) hn) rfl rfl rfl (cwV 1 hc.2.2.2.2.1 gX9_ask_X9_serverOf rfl rfl rfl qX9_serverOf ⟨Nat.le_of_ble_eq_true rfl, Nat.le_of_ble_eq_true rfl⟩) rfl rfl (Nat.le_of_ble_eq_true rfl) dX9_ask_79 (fun r9 σ8 h => ?_)
      refine r_iald hc (Nat.lt_of_lt_of_le (by decide) hn) rfl rfl h.1 dX9_ask_82 ?_
      replace h := h.2
      refine r_iadd hc dX9_ask_83 ?_
      refine r_put hc iX9_ask_X9 tyX9_ok nmX9 (Nat.lt_of_lt_of_le (by decide) hn) rfl rfl rfl 13 (by decide) (Nat.le_of_ble_eq_true rfl) fX9_ask_141 rfl (by decide +kernel) rfl dX9_ask_84 ?_
      refine r_aload_n hc dX9_ask_87 rfl ?_
      refine r_callVv hc (zX9_begin hn (wr σ8 0 13 ((rd σ7 0 13) + (rd σ8 14 r9.toNatClampNeg)))) h (Nat.lt_of_lt_of_le (by decide) hn) rfl rfl rfl (cwV 0 hc.2.2.2.2.1 gX9_ask_X9_begin rfl rfl rfl qX9_begin ⟨Nat.le_of_ble_eq_true rfl, Nat.le_of_ble_eq_true rfl⟩) rfl rfl (Nat.le_of_ble_eq_true rfl) dX9_ask_88 (fun σ10 h => ?_)
      refine r_iconst (v := 0) hc dX9_ask_91 (by decide) ?_
      refine r_istore_n hc dX9_ask_92 rfl (by decide) (ss (ss (s1 trivial))) ?_
      obtain ⟨e93, h⟩ := h
      exact r_weak (wk (wk (wk (wk (wn (wn w0)))))) (tvX9_ask_L93 hn hc hr hlk e93 _ _ _ _ h)
    · replace h := h.2 hq16
      refine r_aload_n hc dX9_ask_35 rfl ?_
      refine r_get (v := .ref (ad 7)) hc iX9_ask_X9 (Nat.lt_of_lt_of_le (by decide) hn) rfl rfl rfl 9 (by decide) fX9_ask_29 rfl dX9_ask_36 ?_
      refine r_iload_n hc dX9_ask_39 rfl ?_
      refine r_iald hc (Nat.lt_of_lt_of_le (by decide) hn) rfl rfl h.1 dX9_ask_40 ?_
      replace h := h.2
      refine r_aload_n hc dX9_ask_41 rfl ?_
      refine r_iload_n hc dX9_ask_42 rfl ?_
      refine r_aload_n hc dX9_ask_43 rfl ?_
      refine r_iload_n hc dX9_ask_44 rfl ?_
      refine r_iload_n hc dX9_ask_45 rfl ?_
      refine r_callVi hc (zX9_levelIn hn σ x1 x3) h (Nat.lt_of_lt_of_le (by decide) hn) rfl rfl rfl (cwV 2 hc.2.2.2.2.1 gX9_ask_X9_levelIn rfl rfl rfl qX9_levelIn ⟨Nat.le_of_ble_eq_true rfl, Nat.le_of_ble_eq_true rfl⟩) rfl rfl (Nat.le_of_ble_eq_true rfl) dX9_ask_46 (fun r12 σ11 h => ?_)
      refine r_callVi hc (zX9_many hn σ11 x3 r12) h (Nat.lt_of_lt_of_le (by decide) hn) rfl rfl rfl (cwV 2 hc.2.2.2.2.1 gX9_ask_X9_many rfl rfl rfl qX9_many ⟨Nat.le_of_ble_eq_true rfl, Nat.le_of_ble_eq_true rfl⟩) rfl rfl (Nat.le_of_ble_eq_true rfl) dX9_ask_49 (fun r14 σ13 h => ?_)
      refine r_icmp_lt (tgt := 58) hc dX9_ask_52 (by decide) (fun hq15 => ?_) (fun hq15 => ?_)
      · replace h := h.1 hq15
        refine r_iinc (v := x3 + 1) hc dX9_ask_58 rfl rfl (by decide) (ss (ss (s1 trivial))) ?_
        refine r_goto (tgt := 27) hc dX9_ask_61 (by decide) ?_
        exact r_weak (wk (wk (wk (wk (wn (wn w0)))))) (ih _ _ _ _ h)
      · replace h := h.2 hq15
        refine r_ldc (v := (-2000000002)) hc dX9_ask_55 oX9_ask_74 ?_
        exact e_i hc hr hlk h dX9_ask_57
set_option maxHeartbeats 4000000 in
set_option maxRecDepth 100000 in
theorem zX9_ask {cy : Nat → ClassId} {ad : Nat → Nat} {n : Nat} {D : va_G} {A : Nat → Prop} {l : Launch} (hn : 17 ≤ n) (σ : St) (x1 : Int32) (x2 : Int32) : Ci TR cy ad n D A l yX9_ask wsX9_ask rmX9_ask σ [.ref (ad 0), .int x1, .int x2] (fun Q => vX9_ask Q σ x1 x2) := by
  intro Q h
  refine startW (cc := cX9_ask) (nL := 6) (own := RX9) (lo := [some (.ref (ad 0)), some (.int x1), some (.int x2), none, none, none]) (by decide) rfl rfl (lo_start (av := [.ref (ad 0), .int x1, .int x2]) (k := 3) (allc1_ok (l := [.ref (ad 0), .int x1, .int x2]) trivial)) (Nat.le_of_ble_eq_true rfl) (fun p e s m args below meth c hc hr hlk => ?_)
  unfold vX9_ask at h
  refine r_aload_n hc dX9_ask_0 rfl ?_
  refine r_iconst (v := 0) hc dX9_ask_1 (by decide) ?_
  refine r_put hc iX9_ask_X9 tyX9_ok nmX9 (Nat.lt_of_lt_of_le (by decide) hn) rfl rfl rfl 0 (by decide) (Nat.le_of_ble_eq_true rfl) fX9_ask_60 rfl (by decide +kernel) rfl dX9_ask_2 ?_
  refine r_aload_n hc dX9_ask_5 rfl ?_
  refine r_iload_n hc dX9_ask_6 rfl ?_
  refine r_callVi hc (zX9_isCuboid hn (wr σ 0 0 0) x1) h (Nat.lt_of_lt_of_le (by decide) hn) rfl rfl rfl (cwV 1 hc.2.2.2.2.1 gX9_ask_X9_isCuboid rfl rfl rfl qX9_isCuboid ⟨Nat.le_of_ble_eq_true rfl, Nat.le_of_ble_eq_true rfl⟩) rfl rfl (Nat.le_of_ble_eq_true rfl) dX9_ask_7 (fun r2 σ1 h => ?_)
  refine r_if_eq (tgt := 22) hc dX9_ask_10 (by decide) (fun hq6 => ?_) (fun hq6 => ?_)
  · replace h := h.1 hq6
    refine r_ldc (v := (-2000000002)) hc dX9_ask_22 oX9_ask_74 ?_
    exact e_i hc hr hlk h dX9_ask_24
  · replace h := h.2 hq6
    refine r_iload_n hc dX9_ask_13 rfl ?_
    refine r_iconst (v := 0) hc dX9_ask_14 (by decide) ?_
    refine r_iconst (v := 3) hc dX9_ask_15 (by decide) ?_
    refine r_callSi hc (zX9_in hn σ1 x2 0 3) h (va_cwS 3 hc.2.2.2.2.1 gX9_ask_X9_in rfl rfl rfl qX9_in ⟨Nat.le_of_ble_eq_true rfl, Nat.le_of_ble_eq_true rfl⟩) rfl rfl (Nat.le_of_ble_eq_true rfl) dX9_ask_16 (fun r4 σ3 h => ?_)
    refine r_if_ne (tgt := 25) hc dX9_ask_19 (by decide) (fun hq5 => ?_) (fun hq5 => ?_)
    · replace h := h.1 hq5
      refine r_ldc (v := (-2000000002)) hc dX9_ask_22 oX9_ask_74 ?_
      exact e_i hc hr hlk h dX9_ask_24
    · replace h := h.2 hq5
      refine r_iconst (v := 0) hc dX9_ask_25 (by decide) ?_
      refine r_istore_n hc dX9_ask_26 rfl (by decide) (ss (ss (s1 trivial))) ?_
      obtain ⟨e27, h⟩ := h
      exact r_weak (wk (wk (wk (wk (wn (wn w0)))))) (tvX9_ask_L27 hn hc hr hlk e27 _ _ _ _ h)
theorem iX9_together_X9 : ∀ w ∈ u_ws RX9 TX9 25, w ∈ wsX9_together := by decide +kernel
theorem fX9_together_50 : Cond.fieldLink RX9 50 (TX9 18).1 (TX9 18).2.1 (TX9 18).2.2.1 ∈ wsX9_together := by decide +kernel
theorem fX9_together_54 : Cond.fieldLink RX9 54 (TX9 19).1 (TX9 19).2.1 (TX9 19).2.2.1 ∈ wsX9_together := by decide +kernel
set_option maxHeartbeats 4000000 in
set_option maxRecDepth 100000 in
theorem tvX9_together_J101 {cy : Nat → ClassId} {ad : Nat → Nat} {n : Nat} {D : va_G} {A : Nat → Prop} {l : Launch} {p : Program} {e : Env} {s : State} {m : MethodId} {args : Array Value} {below : List Frame} {meth : Method} {c : Code} {Q : Int32 → St → Prop} {K6 : St → Int32 → Int32 → Int32 → Int32 → Int32 → Prop} (hn : 17 ≤ n) (hc : CX p s m args c D cy cX9_together 7 RX9 wsX9_together) (hr : meth.sig.returnType = some .int) (hlk : meth.locks = false) (hK6 : ∀ (σ : St) (x1 : Int32) (x2 : Int32) (x3 : Int32) (x4 : Int32) (x5 : Int32), K6 σ x1 x2 x3 x4 x5 → WV TR cy ad n D A p l e rmX9_together s m args below meth c 7 (MQ below (va_Qi Q (Bw TR cy ad n D) A) args s 0 0 A) σ [some (.ref (ad 0)), some (.int x1), some (.int x2), some (.int x3), some (.int x4), some (.int x5), none] [] 6) : ∀ (σ : St) (x1 : Int32) (x2 : Int32) (x3 : Int32) (x4 : Int32) (x5 : Int32) (y0 : Int32), vX9_together_J101 Q K6 σ x1 x2 x3 x4 x5 y0 → WV TR cy ad n D A p l e rmX9_together s m args below meth c 7 (MQ below (va_Qi Q (Bw TR cy ad n D) A) args s 0 0 A) σ [some (.ref (ad 0)), some (.int x1), some (.int x2), some (.int x3), some (.int x4), some (.int x5), none] [.int y0] 101 := by
  intro σ x1 x2 x3 x4 x5 y0 h
  unfold vX9_together_J101 at h
  refine r_istore hc dX9_together_101 (by decide) (ss (ss (ss (ss (ss (s1 trivial)))))) ?_
  refine r_aload_n hc dX9_together_103 rfl ?_
  refine r_get (v := .ref (ad 15)) hc iX9_together_X9 (Nat.lt_of_lt_of_le (by decide) hn) rfl rfl rfl 19 (by decide) fX9_together_54 rfl dX9_together_104 ?_
  refine r_sipush (v := 256) hc dX9_together_107 (by decide) ?_
  refine r_iload_n hc dX9_together_110 rfl ?_
  refine r_imul hc dX9_together_111 ?_
  refine r_iload hc dX9_together_112 rfl ?_
  refine r_iadd hc dX9_together_114 ?_
  refine r_zald hc (Nat.lt_of_lt_of_le (by decide) hn) rfl rfl h.1 dX9_together_115 ?_
  replace h := h.2
  refine r_if_eq (tgt := 139) hc dX9_together_116 (by decide) (fun hq9 => ?_) (fun hq9 => ?_)
  · replace h := h.1 hq9
    refine r_iload hc dX9_together_139 rfl ?_
    refine r_istore hc dX9_together_141 (by decide) (ss (ss (ss (ss (ss (s1 trivial)))))) ?_
    refine r_iload hc dX9_together_143 rfl ?_
    refine r_aload_n hc dX9_together_145 rfl ?_
    refine r_get (v := .ref (ad 14)) hc iX9_together_X9 (Nat.lt_of_lt_of_le (by decide) hn) rfl rfl rfl 18 (by decide) fX9_together_50 rfl dX9_together_146 ?_
    refine r_iconst (v := 0) hc dX9_together_149 (by decide) ?_
    refine r_iald hc (Nat.lt_of_lt_of_le (by decide) hn) rfl rfl h.1 dX9_together_150 ?_
    replace h := h.2
    refine r_iload hc dX9_together_151 rfl ?_
    refine r_isub hc dX9_together_153 ?_
    refine r_iadd hc dX9_together_154 ?_
    refine r_istore hc dX9_together_155 (by decide) (ss (ss (ss (s1 trivial)))) ?_
    refine r_iinc (v := x5 + 1) hc dX9_together_157 rfl rfl (by decide) (ss (ss (ss (ss (s1 trivial))))) ?_
    refine r_goto (tgt := 6) hc dX9_together_160 (by decide) ?_
    exact r_weak (wk (wk (wk (wk (wk (wk (wn w0))))))) (hK6 _ _ _ _ _ _ h)
  · replace h := h.2 hq9
    refine r_aload_n hc dX9_together_119 rfl ?_
    refine r_get (v := .ref (ad 14)) hc iX9_together_X9 (Nat.lt_of_lt_of_le (by decide) hn) rfl rfl rfl 18 (by decide) fX9_together_50 rfl dX9_together_120 ?_
    refine r_iload_n hc dX9_together_123 rfl ?_
    refine r_iald hc (Nat.lt_of_lt_of_le (by decide) hn) rfl rfl h.1 dX9_together_124 ?_
    replace h := h.2
    refine r_iload hc dX9_together_125 rfl ?_
    refine r_icmp_ge (tgt := 139) hc dX9_together_127 (by decide) (fun hq8 => ?_) (fun hq8 => ?_)
    · replace h := h.1 hq8
      refine r_iload hc dX9_together_139 rfl ?_
      refine r_istore hc dX9_together_141 (by decide) (ss (ss (ss (ss (ss (s1 trivial)))))) ?_
      refine r_iload hc dX9_together_143 rfl ?_
      refine r_aload_n hc dX9_together_145 rfl ?_
      refine r_get (v := .ref (ad 14)) hc iX9_together_X9 (Nat.lt_of_lt_of_le (by decide) hn) rfl rfl rfl 18 (by decide) fX9_together_50 rfl dX9_together_146 ?_
      refine r_iconst (v := 0) hc dX9_together_149 (by decide) ?_
      refine r_iald hc (Nat.lt_of_lt_of_le (by decide) hn) rfl rfl h.1 dX9_together_150 ?_
      replace h := h.2
      refine r_iload hc dX9_together_151 rfl ?_
      refine r_isub hc dX9_together_153 ?_
      refine r_iadd hc dX9_together_154 ?_
      refine r_istore hc dX9_together_155 (by decide) (ss (ss (ss (s1 trivial)))) ?_
      refine r_iinc (v := x5 + 1) hc dX9_together_157 rfl rfl (by decide) (ss (ss (ss (ss (s1 trivial))))) ?_
      refine r_goto (tgt := 6) hc dX9_together_160 (by decide) ?_
      exact r_weak (wk (wk (wk (wk (wk (wk (wn w0))))))) (hK6 _ _ _ _ _ _ h)
    · replace h := h.2 hq8
      refine r_aload_n hc dX9_together_130 rfl ?_
      refine r_get (v := .ref (ad 14)) hc iX9_together_X9 (Nat.lt_of_lt_of_le (by decide) hn) rfl rfl rfl 18 (by decide) fX9_together_50 rfl dX9_together_131 ?_
      refine r_iload_n hc dX9_together_134 rfl ?_
      refine r_iald hc (Nat.lt_of_lt_of_le (by decide) hn) rfl rfl h.1 dX9_together_135 ?_
      replace h := h.2
      refine r_goto (tgt := 141) hc dX9_together_136 (by decide) ?_
      refine r_istore hc dX9_together_141 (by decide) (ss (ss (ss (ss (ss (s1 trivial)))))) ?_
      refine r_iload hc dX9_together_143 rfl ?_
      refine r_aload_n hc dX9_together_145 rfl ?_
      refine r_get (v := .ref (ad 14)) hc iX9_together_X9 (Nat.lt_of_lt_of_le (by decide) hn) rfl rfl rfl 18 (by decide) fX9_together_50 rfl dX9_together_146 ?_
      refine r_iconst (v := 0) hc dX9_together_149 (by decide) ?_
      refine r_iald hc (Nat.lt_of_lt_of_le (by decide) hn) rfl rfl h.1 dX9_together_150 ?_
      replace h := h.2
      refine r_iload hc dX9_together_151 rfl ?_
      refine r_isub hc dX9_together_153 ?_
      refine r_iadd hc dX9_together_154 ?_
      refine r_istore hc dX9_together_155 (by decide) (ss (ss (ss (s1 trivial)))) ?_
      refine r_iinc (v := x5 + 1) hc dX9_together_157 rfl rfl (by decide) (ss (ss (ss (ss (s1 trivial))))) ?_
      refine r_goto (tgt := 6) hc dX9_together_160 (by decide) ?_
      exact r_weak (wk (wk (wk (wk (wk (wk (wn w0))))))) (hK6 _ _ _ _ _ _ h)
set_option maxHeartbeats 4000000 in
set_option maxRecDepth 100000 in
theorem tvX9_together_J61 {cy : Nat → ClassId} {ad : Nat → Nat} {n : Nat} {D : va_G} {A : Nat → Prop} {l : Launch} {p : Program} {e : Env} {s : State} {m : MethodId} {args : Array Value} {below : List Frame} {meth : Method} {c : Code} {Q : Int32 → St → Prop} {K6 : St → Int32 → Int32 → Int32 → Int32 → Int32 → Prop} (hn : 17 ≤ n) (hc : CX p s m args c D cy cX9_together 7 RX9 wsX9_together) (hr : meth.sig.returnType = some .int) (hlk : meth.locks = false) (hK6 : ∀ (σ : St) (x1 : Int32) (x2 : Int32) (x3 : Int32) (x4 : Int32) (x5 : Int32), K6 σ x1 x2 x3 x4 x5 → WV TR cy ad n D A p l e rmX9_together s m args below meth c 7 (MQ below (va_Qi Q (Bw TR cy ad n D) A) args s 0 0 A) σ [some (.ref (ad 0)), some (.int x1), some (.int x2), some (.int x3), some (.int x4), some (.int x5), none] [] 6) : ∀ (σ : St) (x1 : Int32) (x2 : Int32) (x3 : Int32) (x4 : Int32) (x5 : Int32) (y0 : Int32), vX9_together_J61 Q K6 σ x1 x2 x3 x4 x5 y0 → WV TR cy ad n D A p l e rmX9_together s m args below meth c 7 (MQ below (va_Qi Q (Bw TR cy ad n D) A) args s 0 0 A) σ [some (.ref (ad 0)), some (.int x1), some (.int x2), some (.int x3), some (.int x4), some (.int x5), none] [.int y0] 61 := by
  intro σ x1 x2 x3 x4 x5 y0 h
  unfold vX9_together_J61 at h
  refine r_istore hc dX9_together_61 (by decide) (ss (ss (ss (ss (ss (s1 trivial)))))) ?_
  refine r_aload_n hc dX9_together_63 rfl ?_
  refine r_get (v := .ref (ad 15)) hc iX9_together_X9 (Nat.lt_of_lt_of_le (by decide) hn) rfl rfl rfl 19 (by decide) fX9_together_54 rfl dX9_together_64 ?_
  refine r_sipush (v := 256) hc dX9_together_67 (by decide) ?_
  refine r_iload_n hc dX9_together_70 rfl ?_
  refine r_imul hc dX9_together_71 ?_
  refine r_iload hc dX9_together_72 rfl ?_
  refine r_iadd hc dX9_together_74 ?_
  refine r_zald hc (Nat.lt_of_lt_of_le (by decide) hn) rfl rfl h.1 dX9_together_75 ?_
  replace h := h.2
  refine r_if_eq (tgt := 99) hc dX9_together_76 (by decide) (fun hq7 => ?_) (fun hq7 => ?_)
  · replace h := h.1 hq7
    refine r_iload hc dX9_together_99 rfl ?_
    exact r_weak (wk (wk (wk (wk (wk (wk (wn w0))))))) (tvX9_together_J101 hn hc hr hlk hK6 _ _ _ _ _ _ _ h)
  · replace h := h.2 hq7
    refine r_aload_n hc dX9_together_79 rfl ?_
    refine r_get (v := .ref (ad 14)) hc iX9_together_X9 (Nat.lt_of_lt_of_le (by decide) hn) rfl rfl rfl 18 (by decide) fX9_together_50 rfl dX9_together_80 ?_
    refine r_iload_n hc dX9_together_83 rfl ?_
    refine r_iald hc (Nat.lt_of_lt_of_le (by decide) hn) rfl rfl h.1 dX9_together_84 ?_
    replace h := h.2
    refine r_iload hc dX9_together_85 rfl ?_
    refine r_icmp_ge (tgt := 99) hc dX9_together_87 (by decide) (fun hq6 => ?_) (fun hq6 => ?_)
    · replace h := h.1 hq6
      refine r_iload hc dX9_together_99 rfl ?_
      exact r_weak (wk (wk (wk (wk (wk (wk (wn w0))))))) (tvX9_together_J101 hn hc hr hlk hK6 _ _ _ _ _ _ _ h)
    · replace h := h.2 hq6
      refine r_aload_n hc dX9_together_90 rfl ?_
      refine r_get (v := .ref (ad 14)) hc iX9_together_X9 (Nat.lt_of_lt_of_le (by decide) hn) rfl rfl rfl 18 (by decide) fX9_together_50 rfl dX9_together_91 ?_
      refine r_iload_n hc dX9_together_94 rfl ?_
      refine r_iald hc (Nat.lt_of_lt_of_le (by decide) hn) rfl rfl h.1 dX9_together_95 ?_
      replace h := h.2
      refine r_goto (tgt := 101) hc dX9_together_96 (by decide) ?_
      exact r_weak (wk (wk (wk (wk (wk (wk (wn w0))))))) (tvX9_together_J101 hn hc hr hlk hK6 _ _ _ _ _ _ _ h)
set_option maxHeartbeats 4000000 in
set_option maxRecDepth 100000 in
theorem tvX9_together_L6 {cy : Nat → ClassId} {ad : Nat → Nat} {n : Nat} {D : va_G} {A : Nat → Prop} {l : Launch} {p : Program} {e : Env} {s : State} {m : MethodId} {args : Array Value} {below : List Frame} {meth : Method} {c : Code} {Q : Int32 → St → Prop} (hn : 17 ≤ n) (hc : CX p s m args c D cy cX9_together 7 RX9 wsX9_together) (hr : meth.sig.returnType = some .int) (hlk : meth.locks = false) : ∀ (q6 : Nat) (σ : St) (x1 : Int32) (x2 : Int32) (x3 : Int32) (x4 : Int32) (x5 : Int32), vX9_together_L6 Q q6 σ x1 x2 x3 x4 x5 → WV TR cy ad n D A p l e rmX9_together s m args below meth c 7 (MQ below (va_Qi Q (Bw TR cy ad n D) A) args s 0 0 A) σ [some (.ref (ad 0)), some (.int x1), some (.int x2), some (.int x3), some (.int x4), some (.int x5), none] [] 6 := by
  intro q6
  induction q6 with
  | zero =>
    intro σ x1 x2 x3 x4 x5 h
    exact h.elim
  | succ q6 ih =>
    intro σ x1 x2 x3 x4 x5 h
    unfold vX9_together_L6 at h
    refine r_iload hc dX9_together_6 rfl ?_
    refine r_aload_n hc dX9_together_8 rfl ?_
    refine r_callVi hc (zX9_all hn σ) h (Nat.lt_of_lt_of_le (by decide) hn) rfl rfl rfl (cwV 0 hc.2.2.2.2.1 gX9_together_X9_all rfl rfl rfl qX9_all ⟨Nat.le_of_ble_eq_true rfl, Nat.le_of_ble_eq_true rfl⟩) rfl rfl (Nat.le_of_ble_eq_true rfl) dX9_together_9 (fun r2 σ1 h => ?_)
    refine r_icmp_ge (tgt := 163) hc dX9_together_12 (by decide) (fun hq5 => ?_) (fun hq5 => ?_)
    · replace h := h.1 hq5
      refine r_iload hc dX9_together_163 rfl ?_
      exact e_i hc hr hlk h dX9_together_165
    · replace h := h.2 hq5
      refine r_aload_n hc dX9_together_15 rfl ?_
      refine r_get (v := .ref (ad 14)) hc iX9_together_X9 (Nat.lt_of_lt_of_le (by decide) hn) rfl rfl rfl 18 (by decide) fX9_together_50 rfl dX9_together_16 ?_
      refine r_iconst (v := 0) hc dX9_together_19 (by decide) ?_
      refine r_iald hc (Nat.lt_of_lt_of_le (by decide) hn) rfl rfl h.1 dX9_together_20 ?_
      replace h := h.2
      refine r_istore hc dX9_together_21 (by decide) (ss (ss (ss (ss (ss (s1 trivial)))))) ?_
      refine r_aload_n hc dX9_together_23 rfl ?_
      refine r_get (v := .ref (ad 15)) hc iX9_together_X9 (Nat.lt_of_lt_of_le (by decide) hn) rfl rfl rfl 19 (by decide) fX9_together_54 rfl dX9_together_24 ?_
      refine r_sipush (v := 256) hc dX9_together_27 (by decide) ?_
      refine r_iload_n hc dX9_together_30 rfl ?_
      refine r_imul hc dX9_together_31 ?_
      refine r_iload hc dX9_together_32 rfl ?_
      refine r_iadd hc dX9_together_34 ?_
      refine r_zald hc (Nat.lt_of_lt_of_le (by decide) hn) rfl rfl h.1 dX9_together_35 ?_
      replace h := h.2
      refine r_if_eq (tgt := 59) hc dX9_together_36 (by decide) (fun hq4 => ?_) (fun hq4 => ?_)
      · replace h := h.1 hq4
        refine r_iload hc dX9_together_59 rfl ?_
        exact r_weak (wk (wk (wk (wk (wk (wk (wn w0))))))) (tvX9_together_J61 hn hc hr hlk ih _ _ _ _ _ _ _ h)
      · replace h := h.2 hq4
        refine r_aload_n hc dX9_together_39 rfl ?_
        refine r_get (v := .ref (ad 14)) hc iX9_together_X9 (Nat.lt_of_lt_of_le (by decide) hn) rfl rfl rfl 18 (by decide) fX9_together_50 rfl dX9_together_40 ?_
        refine r_iload_n hc dX9_together_43 rfl ?_
        refine r_iald hc (Nat.lt_of_lt_of_le (by decide) hn) rfl rfl h.1 dX9_together_44 ?_
        replace h := h.2
        refine r_iload hc dX9_together_45 rfl ?_
        refine r_icmp_ge (tgt := 59) hc dX9_together_47 (by decide) (fun hq3 => ?_) (fun hq3 => ?_)
        · replace h := h.1 hq3
          refine r_iload hc dX9_together_59 rfl ?_
          exact r_weak (wk (wk (wk (wk (wk (wk (wn w0))))))) (tvX9_together_J61 hn hc hr hlk ih _ _ _ _ _ _ _ h)
        · replace h := h.2 hq3
          refine r_aload_n hc dX9_together_50 rfl ?_
          refine r_get (v := .ref (ad 14)) hc iX9_together_X9 (Nat.lt_of_lt_of_le (by decide) hn) rfl rfl rfl 18 (by decide) fX9_together_50 rfl dX9_together_51 ?_
          refine r_iload_n hc dX9_together_54 rfl ?_
          refine r_iald hc (Nat.lt_of_lt_of_le (by decide) hn) rfl rfl h.1 dX9_together_55 ?_
          replace h := h.2
          refine r_goto (tgt := 61) hc dX9_together_56 (by decide) ?_
          exact r_weak (wk (wk (wk (wk (wk (wk (wn w0))))))) (tvX9_together_J61 hn hc hr hlk ih _ _ _ _ _ _ _ h)
set_option maxHeartbeats 4000000 in
set_option maxRecDepth 100000 in
theorem zX9_together {cy : Nat → ClassId} {ad : Nat → Nat} {n : Nat} {D : va_G} {A : Nat → Prop} {l : Launch} (hn : 17 ≤ n) (σ : St) (x1 : Int32) (x2 : Int32) (x3 : Int32) : Ci TR cy ad n D A l yX9_together wsX9_together rmX9_together σ [.ref (ad 0), .int x1, .int x2, .int x3] (fun Q => vX9_together Q σ x1 x2 x3) := by
  intro Q h
  refine startW (cc := cX9_together) (nL := 7) (own := RX9) (lo := [some (.ref (ad 0)), some (.int x1), some (.int x2), some (.int x3), none, none, none]) (by decide) rfl rfl (lo_start (av := [.ref (ad 0), .int x1, .int x2, .int x3]) (k := 3) (allc1_ok (l := [.ref (ad 0), .int x1, .int x2, .int x3]) trivial)) (Nat.le_of_ble_eq_true rfl) (fun p e s m args below meth c hc hr hlk => ?_)
  unfold vX9_together at h
  refine r_iconst (v := 0) hc dX9_together_0 (by decide) ?_
  refine r_istore hc dX9_together_1 (by decide) (ss (ss (ss (s1 trivial)))) ?_
  refine r_iconst (v := 0) hc dX9_together_3 (by decide) ?_
  refine r_istore hc dX9_together_4 (by decide) (ss (ss (ss (ss (s1 trivial))))) ?_
  obtain ⟨e6, h⟩ := h
  exact r_weak (wk (wk (wk (wk (wk (wk (wn w0))))))) (tvX9_together_L6 hn hc hr hlk e6 _ _ _ _ _ _ h)

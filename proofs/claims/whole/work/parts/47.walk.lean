theorem iX9_best_X9 : ∀ w ∈ u_ws RX9 TX9 25, w ∈ wsX9_best := by decide +kernel
theorem fX9_best_60 : Cond.fieldLink RX9 60 (TX9 0).1 (TX9 0).2.1 (TX9 0).2.2.1 ∈ wsX9_best := by decide +kernel
theorem oX9_best_74 : Jvm.Cond.constant RX9 74 (-2000000002) ∈ wsX9_best := by decide +kernel
theorem oX9_best_75 : Jvm.Cond.constant RX9 75 (-2000000003) ∈ wsX9_best := by decide +kernel
set_option maxHeartbeats 4000000 in
set_option maxRecDepth 100000 in
theorem tvX9_best_J93 {cy : Nat → ClassId} {ad : Nat → Nat} {n : Nat} {D : va_G} {A : Nat → Prop} {l : Launch} {p : Program} {e : Env} {s : State} {m : MethodId} {args : Array Value} {below : List Frame} {meth : Method} {c : Code} {Q : Int32 → St → Prop} {K40 : St → Int32 → Int32 → Int32 → Int32 → Prop} {K57 : St → Int32 → Int32 → Int32 → Int32 → Int32 → Prop} {K78 : St → Int32 → Int32 → Int32 → Int32 → Int32 → Int32 → Prop} (hn : 17 ≤ n) (hc : CX p s m args c D cy cX9_best 8 RX9 wsX9_best) (hr : meth.sig.returnType = some .int) (hlk : meth.locks = false) (hK40 : ∀ (σ : St) (x1 : Int32) (x2 : Int32) (x3 : Int32) (x4 : Int32), K40 σ x1 x2 x3 x4 → WV TR cy ad n D A p l e rmX9_best s m args below meth c 8 (MQ below (va_Qi Q (Bw TR cy ad n D) A) args s 0 0 A) σ [some (.ref (ad 0)), some (.int x1), some (.int x2), some (.int x3), some (.int x4), none, none, none] [] 40) (hK57 : ∀ (σ : St) (x1 : Int32) (x2 : Int32) (x3 : Int32) (x4 : Int32) (x5 : Int32), K57 σ x1 x2 x3 x4 x5 → WV TR cy ad n D A p l e rmX9_best s m args below meth c 8 (MQ below (va_Qi Q (Bw TR cy ad n D) A) args s 0 0 A) σ [some (.ref (ad 0)), some (.int x1), some (.int x2), some (.int x3), some (.int x4), some (.int x5), none, none] [] 57) (hK78 : ∀ (σ : St) (x1 : Int32) (x2 : Int32) (x3 : Int32) (x4 : Int32) (x5 : Int32) (x6 : Int32), K78 σ x1 x2 x3 x4 x5 x6 → WV TR cy ad n D A p l e rmX9_best s m args below meth c 8 (MQ below (va_Qi Q (Bw TR cy ad n D) A) args s 0 0 A) σ [some (.ref (ad 0)), some (.int x1), some (.int x2), some (.int x3), some (.int x4), some (.int x5), some (.int x6), none] [] 78) : ∀ (σ : St) (x1 : Int32) (x2 : Int32) (x3 : Int32) (x4 : Int32) (x5 : Int32) (x6 : Int32) (y0 : Int32) (y1 : Int32), vX9_best_J93 Q K40 K57 K78 σ x1 x2 x3 x4 x5 x6 y0 y1 → WV TR cy ad n D A p l e rmX9_best s m args below meth c 8 (MQ below (va_Qi Q (Bw TR cy ad n D) A) args s 0 0 A) σ [some (.ref (ad 0)), some (.int x1), some (.int x2), some (.int x3), some (.int x4), some (.int x5), some (.int x6), none] [.int y0, .int y1] 93 := by
  intro σ x1 x2 x3 x4 x5 x6 y0 y1 h
  unfold vX9_best_J93 at h
  refine r_icmp_ge (tgt := 127) hc dX9_best_93 (by decide) (fun hq18 => ?_) (fun hq18 => ?_)
  · replace h := h.1 hq18
    refine r_iinc (v := x5 + 1) hc dX9_best_127 rfl rfl (by decide) (ss (ss (ss (ss (s1 trivial))))) ?_
    refine r_goto (tgt := 57) hc dX9_best_130 (by decide) ?_
    exact r_weak (wk (wk (wk (wk (wk (wk (wn (wn w0)))))))) (hK57 _ _ _ _ _ _ h)
  · replace h := h.2 hq18
    refine r_aload_n hc dX9_best_96 rfl ?_
    refine r_iload hc dX9_best_97 rfl ?_
    refine r_iload hc dX9_best_99 rfl ?_
    refine r_iload hc dX9_best_101 rfl ?_
    refine r_callVi hc (zX9_together hn σ x4 x5 x6) h (Nat.lt_of_lt_of_le (by decide) hn) rfl rfl rfl (cwV 3 hc.2.2.2.2.1 gX9_best_X9_together rfl rfl rfl qX9_together ⟨Nat.le_of_ble_eq_true rfl, Nat.le_of_ble_eq_true rfl⟩) rfl rfl (Nat.le_of_ble_eq_true rfl) dX9_best_103 (fun r16 σ15 h => ?_)
    refine r_istore hc dX9_best_106 (by decide) (ss (ss (ss (ss (ss (ss (s1 trivial))))))) ?_
    refine r_iload hc dX9_best_108 rfl ?_
    refine r_iload_n hc dX9_best_110 rfl ?_
    refine r_icmp_le (tgt := 119) hc dX9_best_111 (by decide) (fun hq17 => ?_) (fun hq17 => ?_)
    · replace h := h.1 hq17
      refine r_iload_n hc dX9_best_119 rfl ?_
      refine r_istore_n hc dX9_best_120 rfl (by decide) (ss (ss (s1 trivial))) ?_
      refine r_iinc (v := x6 + 1) hc dX9_best_121 rfl rfl (by decide) (ss (ss (ss (ss (ss (s1 trivial)))))) ?_
      refine r_goto (tgt := 78) hc dX9_best_124 (by decide) ?_
      exact r_weak (wk (wk (wk (wk (wk (wk (wk (wn w0)))))))) (hK78 _ _ _ _ _ _ _ h)
    · replace h := h.2 hq17
      refine r_iload hc dX9_best_114 rfl ?_
      refine r_goto (tgt := 120) hc dX9_best_116 (by decide) ?_
      refine r_istore_n hc dX9_best_120 rfl (by decide) (ss (ss (s1 trivial))) ?_
      refine r_iinc (v := x6 + 1) hc dX9_best_121 rfl rfl (by decide) (ss (ss (ss (ss (ss (s1 trivial)))))) ?_
      refine r_goto (tgt := 78) hc dX9_best_124 (by decide) ?_
      exact r_weak (wk (wk (wk (wk (wk (wk (wk (wn w0)))))))) (hK78 _ _ _ _ _ _ _ h)
set_option maxHeartbeats 4000000 in
set_option maxRecDepth 100000 in
theorem tvX9_best_L78 {cy : Nat → ClassId} {ad : Nat → Nat} {n : Nat} {D : va_G} {A : Nat → Prop} {l : Launch} {p : Program} {e : Env} {s : State} {m : MethodId} {args : Array Value} {below : List Frame} {meth : Method} {c : Code} {Q : Int32 → St → Prop} {K40 : St → Int32 → Int32 → Int32 → Int32 → Prop} {K57 : St → Int32 → Int32 → Int32 → Int32 → Int32 → Prop} (hn : 17 ≤ n) (hc : CX p s m args c D cy cX9_best 8 RX9 wsX9_best) (hr : meth.sig.returnType = some .int) (hlk : meth.locks = false) (hK40 : ∀ (σ : St) (x1 : Int32) (x2 : Int32) (x3 : Int32) (x4 : Int32), K40 σ x1 x2 x3 x4 → WV TR cy ad n D A p l e rmX9_best s m args below meth c 8 (MQ below (va_Qi Q (Bw TR cy ad n D) A) args s 0 0 A) σ [some (.ref (ad 0)), some (.int x1), some (.int x2), some (.int x3), some (.int x4), none, none, none] [] 40) (hK57 : ∀ (σ : St) (x1 : Int32) (x2 : Int32) (x3 : Int32) (x4 : Int32) (x5 : Int32), K57 σ x1 x2 x3 x4 x5 → WV TR cy ad n D A p l e rmX9_best s m args below meth c 8 (MQ below (va_Qi Q (Bw TR cy ad n D) A) args s 0 0 A) σ [some (.ref (ad 0)), some (.int x1), some (.int x2), some (.int x3), some (.int x4), some (.int x5), none, none] [] 57) : ∀ (q78 : Nat) (σ : St) (x1 : Int32) (x2 : Int32) (x3 : Int32) (x4 : Int32) (x5 : Int32) (x6 : Int32), vX9_best_L78 Q K40 K57 q78 σ x1 x2 x3 x4 x5 x6 → WV TR cy ad n D A p l e rmX9_best s m args below meth c 8 (MQ below (va_Qi Q (Bw TR cy ad n D) A) args s 0 0 A) σ [some (.ref (ad 0)), some (.int x1), some (.int x2), some (.int x3), some (.int x4), some (.int x5), some (.int x6), none] [] 78 := by
  intro q78
  induction q78 with
  | zero =>
    intro σ x1 x2 x3 x4 x5 x6 h
    exact h.elim
  | succ q78 ih =>
    intro σ x1 x2 x3 x4 x5 x6 h
    unfold vX9_best_L78 at h
    refine r_iload hc dX9_best_78 rfl ?_
    refine r_iload_n hc dX9_best_80 rfl ?_
    refine r_iconst (v := 2) hc dX9_best_81 (by decide) ?_
    refine r_icmp_le (tgt := 92) hc dX9_best_82 (by decide) (fun hq14 => ?_) (fun hq14 => ?_)
    · replace h := h.1 hq14
      refine r_iconst (v := 1) hc dX9_best_92 (by decide) ?_
      exact r_weak (wk (wk (wk (wk (wk (wk (wk (wn w0)))))))) (tvX9_best_J93 hn hc hr hlk hK40 hK57 ih _ _ _ _ _ _ _ _ _ h)
    · replace h := h.2 hq14
      refine r_iload hc dX9_best_85 rfl ?_
      refine r_iconst (v := 1) hc dX9_best_87 (by decide) ?_
      refine r_iadd hc dX9_best_88 ?_
      refine r_goto (tgt := 93) hc dX9_best_89 (by decide) ?_
      exact r_weak (wk (wk (wk (wk (wk (wk (wk (wn w0)))))))) (tvX9_best_J93 hn hc hr hlk hK40 hK57 ih _ _ _ _ _ _ _ _ _ h)
set_option maxHeartbeats 4000000 in
set_option maxRecDepth 100000 in
theorem tvX9_best_L57 {cy : Nat → ClassId} {ad : Nat → Nat} {n : Nat} {D : va_G} {A : Nat → Prop} {l : Launch} {p : Program} {e : Env} {s : State} {m : MethodId} {args : Array Value} {below : List Frame} {meth : Method} {c : Code} {Q : Int32 → St → Prop} {K40 : St → Int32 → Int32 → Int32 → Int32 → Prop} (hn : 17 ≤ n) (hc : CX p s m args c D cy cX9_best 8 RX9 wsX9_best) (hr : meth.sig.returnType = some .int) (hlk : meth.locks = false) (hK40 : ∀ (σ : St) (x1 : Int32) (x2 : Int32) (x3 : Int32) (x4 : Int32), K40 σ x1 x2 x3 x4 → WV TR cy ad n D A p l e rmX9_best s m args below meth c 8 (MQ below (va_Qi Q (Bw TR cy ad n D) A) args s 0 0 A) σ [some (.ref (ad 0)), some (.int x1), some (.int x2), some (.int x3), some (.int x4), none, none, none] [] 40) : ∀ (q57 : Nat) (σ : St) (x1 : Int32) (x2 : Int32) (x3 : Int32) (x4 : Int32) (x5 : Int32), vX9_best_L57 Q K40 q57 σ x1 x2 x3 x4 x5 → WV TR cy ad n D A p l e rmX9_best s m args below meth c 8 (MQ below (va_Qi Q (Bw TR cy ad n D) A) args s 0 0 A) σ [some (.ref (ad 0)), some (.int x1), some (.int x2), some (.int x3), some (.int x4), some (.int x5), none, none] [] 57 := by
  intro q57
  induction q57 with
  | zero =>
    intro σ x1 x2 x3 x4 x5 h
    exact h.elim
  | succ q57 ih =>
    intro σ x1 x2 x3 x4 x5 h
    unfold vX9_best_L57 at h
    refine r_iload hc dX9_best_57 rfl ?_
    refine r_iload_n hc dX9_best_59 rfl ?_
    refine r_iconst (v := 1) hc dX9_best_60 (by decide) ?_
    refine r_icmp_le (tgt := 71) hc dX9_best_61 (by decide) (fun hq13 => ?_) (fun hq13 => ?_)
    · replace h := h.1 hq13
      refine r_iconst (v := 1) hc dX9_best_71 (by decide) ?_
      refine r_icmp_ge (tgt := 133) hc dX9_best_72 (by decide) (fun hq11 => ?_) (fun hq11 => ?_)
      · replace h := h.1 hq11
        refine r_iinc (v := x4 + 1) hc dX9_best_133 rfl rfl (by decide) (ss (ss (ss (s1 trivial)))) ?_
        refine r_goto (tgt := 40) hc dX9_best_136 (by decide) ?_
        exact r_weak (wk (wk (wk (wk (wk (wn (wn (wn w0)))))))) (hK40 _ _ _ _ _ h)
      · replace h := h.2 hq11
        refine r_iconst (v := 0) hc dX9_best_75 (by decide) ?_
        refine r_istore hc dX9_best_76 (by decide) (ss (ss (ss (ss (ss (s1 trivial)))))) ?_
        obtain ⟨e78, h⟩ := h
        exact r_weak (wk (wk (wk (wk (wk (wk (wk (wn w0)))))))) (tvX9_best_L78 hn hc hr hlk hK40 ih e78 _ _ _ _ _ _ _ h)
    · replace h := h.2 hq13
      refine r_iload hc dX9_best_64 rfl ?_
      refine r_iconst (v := 1) hc dX9_best_66 (by decide) ?_
      refine r_iadd hc dX9_best_67 ?_
      refine r_goto (tgt := 72) hc dX9_best_68 (by decide) ?_
      refine r_icmp_ge (tgt := 133) hc dX9_best_72 (by decide) (fun hq12 => ?_) (fun hq12 => ?_)
      · replace h := h.1 hq12
        refine r_iinc (v := x4 + 1) hc dX9_best_133 rfl rfl (by decide) (ss (ss (ss (s1 trivial)))) ?_
        refine r_goto (tgt := 40) hc dX9_best_136 (by decide) ?_
        exact r_weak (wk (wk (wk (wk (wk (wn (wn (wn w0)))))))) (hK40 _ _ _ _ _ h)
      · replace h := h.2 hq12
        refine r_iconst (v := 0) hc dX9_best_75 (by decide) ?_
        refine r_istore hc dX9_best_76 (by decide) (ss (ss (ss (ss (ss (s1 trivial)))))) ?_
        obtain ⟨e78, h⟩ := h
        exact r_weak (wk (wk (wk (wk (wk (wk (wk (wn w0)))))))) (tvX9_best_L78 hn hc hr hlk hK40 ih e78 _ _ _ _ _ _ _ h)
set_option maxHeartbeats 4000000 in
set_option maxRecDepth 100000 in
theorem tvX9_best_L40 {cy : Nat → ClassId} {ad : Nat → Nat} {n : Nat} {D : va_G} {A : Nat → Prop} {l : Launch} {p : Program} {e : Env} {s : State} {m : MethodId} {args : Array Value} {below : List Frame} {meth : Method} {c : Code} {Q : Int32 → St → Prop} (hn : 17 ≤ n) (hc : CX p s m args c D cy cX9_best 8 RX9 wsX9_best) (hr : meth.sig.returnType = some .int) (hlk : meth.locks = false) : ∀ (q40 : Nat) (σ : St) (x1 : Int32) (x2 : Int32) (x3 : Int32) (x4 : Int32), vX9_best_L40 Q q40 σ x1 x2 x3 x4 → WV TR cy ad n D A p l e rmX9_best s m args below meth c 8 (MQ below (va_Qi Q (Bw TR cy ad n D) A) args s 0 0 A) σ [some (.ref (ad 0)), some (.int x1), some (.int x2), some (.int x3), some (.int x4), none, none, none] [] 40 := by
  intro q40
  induction q40 with
  | zero =>
    intro σ x1 x2 x3 x4 h
    exact h.elim
  | succ q40 ih =>
    intro σ x1 x2 x3 x4 h
    unfold vX9_best_L40 at h
    refine r_iload hc dX9_best_40 rfl ?_
    refine r_iload_n hc dX9_best_42 rfl ?_
    refine r_if_le (tgt := 50) hc dX9_best_43 (by decide) (fun hq10 => ?_) (fun hq10 => ?_)
    · replace h := h.1 hq10
      refine r_iconst (v := 1) hc dX9_best_50 (by decide) ?_
      refine r_icmp_ge (tgt := 139) hc dX9_best_51 (by decide) (fun hq8 => ?_) (fun hq8 => ?_)
      · replace h := h.1 hq8
        refine r_iload_n hc dX9_best_139 rfl ?_
        exact e_i hc hr hlk h dX9_best_140
      · replace h := h.2 hq8
        refine r_iconst (v := 0) hc dX9_best_54 (by decide) ?_
        refine r_istore hc dX9_best_55 (by decide) (ss (ss (ss (ss (s1 trivial))))) ?_
        obtain ⟨e57, h⟩ := h
        exact r_weak (wk (wk (wk (wk (wk (wk (wn (wn w0)))))))) (tvX9_best_L57 hn hc hr hlk ih e57 _ _ _ _ _ _ h)
    · replace h := h.2 hq10
      refine r_iload_n hc dX9_best_46 rfl ?_
      refine r_goto (tgt := 51) hc dX9_best_47 (by decide) ?_
      refine r_icmp_ge (tgt := 139) hc dX9_best_51 (by decide) (fun hq9 => ?_) (fun hq9 => ?_)
      · replace h := h.1 hq9
        refine r_iload_n hc dX9_best_139 rfl ?_
        exact e_i hc hr hlk h dX9_best_140
      · replace h := h.2 hq9
        refine r_iconst (v := 0) hc dX9_best_54 (by decide) ?_
        refine r_istore hc dX9_best_55 (by decide) (ss (ss (ss (ss (s1 trivial))))) ?_
        obtain ⟨e57, h⟩ := h
        exact r_weak (wk (wk (wk (wk (wk (wk (wn (wn w0)))))))) (tvX9_best_L57 hn hc hr hlk ih e57 _ _ _ _ _ _ h)
set_option maxHeartbeats 4000000 in
set_option maxRecDepth 100000 in
theorem zX9_best {cy : Nat → ClassId} {ad : Nat → Nat} {n : Nat} {D : va_G} {A : Nat → Prop} {l : Launch} (hn : 17 ≤ n) (σ : St) (x1 : Int32) : Ci TR cy ad n D A l yX9_best wsX9_best rmX9_best σ [.ref (ad 0), .int x1] (fun Q => vX9_best Q σ x1) := by
  intro Q h
  refine startW (cc := cX9_best) (nL := 8) (own := RX9) (lo := [some (.ref (ad 0)), some (.int x1), none, none, none, none, none, none]) (by decide) rfl rfl (lo_start (av := [.ref (ad 0), .int x1]) (k := 6) (allc1_ok (l := [.ref (ad 0), .int x1]) trivial)) (Nat.le_of_ble_eq_true rfl) (fun p e s m args below meth c hc hr hlk => ?_)
  unfold vX9_best at h
  refine r_aload_n hc dX9_best_0 rfl ?_
  refine r_iconst (v := 0) hc dX9_best_1 (by decide) ?_
  refine r_put hc iX9_best_X9 tyX9_ok nmX9 (Nat.lt_of_lt_of_le (by decide) hn) rfl rfl rfl 0 (by decide) (Nat.le_of_ble_eq_true rfl) fX9_best_60 rfl (by decide +kernel) rfl dX9_best_2 ?_
  refine r_iload_n hc dX9_best_5 rfl ?_
  refine r_iconst (v := 0) hc dX9_best_6 (by decide) ?_
  refine r_iconst (v := 3) hc dX9_best_7 (by decide) ?_
  refine r_callSi hc (zX9_in hn (wr σ 0 0 0) x1 0 3) h (va_cwS 3 hc.2.2.2.2.1 gX9_best_X9_in rfl rfl rfl qX9_in ⟨Nat.le_of_ble_eq_true rfl, Nat.le_of_ble_eq_true rfl⟩) rfl rfl (Nat.le_of_ble_eq_true rfl) dX9_best_8 (fun r2 σ1 h => ?_)
  refine r_if_ne (tgt := 17) hc dX9_best_11 (by decide) (fun hq7 => ?_) (fun hq7 => ?_)
  · replace h := h.1 hq7
    refine r_ldc (v := (-2000000002)) hc dX9_best_14 oX9_best_74 ?_
    exact e_i hc hr hlk h dX9_best_16
  · replace h := h.2 hq7
    refine r_aload_n hc dX9_best_17 rfl ?_
    refine r_callVi hc (zX9_all hn σ1) h (Nat.lt_of_lt_of_le (by decide) hn) rfl rfl rfl (cwV 0 hc.2.2.2.2.1 gX9_best_X9_all rfl rfl rfl qX9_all ⟨Nat.le_of_ble_eq_true rfl, Nat.le_of_ble_eq_true rfl⟩) rfl rfl (Nat.le_of_ble_eq_true rfl) dX9_best_18 (fun r4 σ3 h => ?_)
    refine r_istore_n hc dX9_best_21 rfl (by decide) (ss (s1 trivial)) ?_
    refine r_iload_n hc dX9_best_22 rfl ?_
    refine r_bipush (v := 64) hc dX9_best_23 (by decide) ?_
    refine r_icmp_le (tgt := 31) hc dX9_best_25 (by decide) (fun hq6 => ?_) (fun hq6 => ?_)
    · replace h := h.1 hq6
      refine r_aload_n hc dX9_best_31 rfl ?_
      refine r_callVv hc (zX9_measure hn σ3) h (Nat.lt_of_lt_of_le (by decide) hn) rfl rfl rfl (cwV 0 hc.2.2.2.2.1 gX9_best_X9_measure rfl rfl rfl qX9_measure ⟨Nat.le_of_ble_eq_true rfl, Nat.le_of_ble_eq_true rfl⟩) rfl rfl (Nat.le_of_ble_eq_true rfl) dX9_best_32 (fun σ5 h => ?_)
      refine r_iconst (v := 0) hc dX9_best_35 (by decide) ?_
      refine r_istore_n hc dX9_best_36 rfl (by decide) (ss (ss (s1 trivial))) ?_
      refine r_iconst (v := 0) hc dX9_best_37 (by decide) ?_
      refine r_istore hc dX9_best_38 (by decide) (ss (ss (ss (s1 trivial)))) ?_
      obtain ⟨e40, h⟩ := h
      exact r_weak (wk (wk (wk (wk (wk (wn (wn (wn w0)))))))) (tvX9_best_L40 hn hc hr hlk e40 _ _ _ _ _ h)
    · replace h := h.2 hq6
      refine r_ldc (v := (-2000000003)) hc dX9_best_28 oX9_best_75 ?_
      exact e_i hc hr hlk h dX9_best_30
theorem iX9_passes_X9 : ∀ w ∈ u_ws RX9 TX9 25, w ∈ wsX9_passes := by decide +kernel
theorem fX9_passes_25 : Cond.fieldLink RX9 25 (TX9 8).1 (TX9 8).2.1 (TX9 8).2.2.1 ∈ wsX9_passes := by decide +kernel
theorem fX9_passes_64 : Cond.fieldLink RX9 64 (TX9 1).1 (TX9 1).2.1 (TX9 1).2.2.1 ∈ wsX9_passes := by decide +kernel
theorem fX9_passes_19 : Cond.fieldLink RX9 19 (TX9 6).1 (TX9 6).2.1 (TX9 6).2.2.1 ∈ wsX9_passes := by decide +kernel
theorem fX9_passes_32 : Cond.fieldLink RX9 32 (TX9 10).1 (TX9 10).2.1 (TX9 10).2.2.1 ∈ wsX9_passes := by decide +kernel
theorem fX9_passes_35 : Cond.fieldLink RX9 35 (TX9 11).1 (TX9 11).2.1 (TX9 11).2.2.1 ∈ wsX9_passes := by decide +kernel
set_option maxHeartbeats 4000000 in
set_option maxRecDepth 100000 in
theorem tvX9_passes_L9 {cy : Nat → ClassId} {ad : Nat → Nat} {n : Nat} {D : va_G} {A : Nat → Prop} {l : Launch} {p : Program} {e : Env} {s : State} {m : MethodId} {args : Array Value} {below : List Frame} {meth : Method} {c : Code} {Q : Int32 → St → Prop} (hn : 17 ≤ n) (hc : CX p s m args c D cy cX9_passes 4 RX9 wsX9_passes) (hr : meth.sig.returnType = some .boolean) (hlk : meth.locks = false) : ∀ (q9 : Nat) (σ : St) (x1 : Int32) (x2 : Int32) (x3 : Int32), vX9_passes_L9 Q q9 σ x1 x2 x3 → WV TR cy ad n D A p l e rmX9_passes s m args below meth c 4 (MQ below (va_Qi Q (Bw TR cy ad n D) A) args s 0 0 A) σ [some (.ref (ad 0)), some (.int x1), some (.int x2), some (.int x3)] [] 9 := by
  intro q9
  induction q9 with
  | zero =>
    intro σ x1 x2 x3 h
    exact h.elim
  | succ q9 ih =>
    intro σ x1 x2 x3 h
    unfold vX9_passes_L9 at h
    refine r_iload_n hc dX9_passes_9 rfl ?_
    refine r_aload_n hc dX9_passes_10 rfl ?_
    refine r_get (v := .int (rd σ 0 1)) hc iX9_passes_X9 (Nat.lt_of_lt_of_le (by decide) hn) rfl rfl rfl 1 (by decide) fX9_passes_64 rfl dX9_passes_11 ?_
    refine r_icmp_ge (tgt := 63) hc dX9_passes_14 (by decide) (fun hq5 => ?_) (fun hq5 => ?_)
    · replace h := h.1 hq5
      refine r_iload_n hc dX9_passes_63 rfl ?_
      exact e_z hc hr hlk h.1 h.2 dX9_passes_64
    · replace h := h.2 hq5
      refine r_iload_n hc dX9_passes_17 rfl ?_
      refine r_if_eq (tgt := 63) hc dX9_passes_18 (by decide) (fun hq4 => ?_) (fun hq4 => ?_)
      · replace h := h.1 hq4
        refine r_iload_n hc dX9_passes_63 rfl ?_
        exact e_z hc hr hlk h.1 h.2 dX9_passes_64
      · replace h := h.2 hq4
        refine r_aload_n hc dX9_passes_21 rfl ?_
        refine r_iload_n hc dX9_passes_22 rfl ?_
        refine r_aload_n hc dX9_passes_23 rfl ?_
        refine r_get (v := .ref (ad 4)) hc iX9_passes_X9 (Nat.lt_of_lt_of_le (by decide) hn) rfl rfl rfl 6 (by decide) fX9_passes_19 rfl dX9_passes_24 ?_
        refine r_iconst (v := 4) hc dX9_passes_27 (by decide) ?_
        refine r_iload_n hc dX9_passes_28 rfl ?_
        refine r_imul hc dX9_passes_29 ?_
        refine r_iload_n hc dX9_passes_30 rfl ?_
        refine r_iadd hc dX9_passes_31 ?_
        refine r_iald hc (Nat.lt_of_lt_of_le (by decide) hn) rfl rfl h.1 dX9_passes_32 ?_
        replace h := h.2
        refine r_aload_n hc dX9_passes_33 rfl ?_
        refine r_get (v := .ref (ad 8)) hc iX9_passes_X9 (Nat.lt_of_lt_of_le (by decide) hn) rfl rfl rfl 10 (by decide) fX9_passes_32 rfl dX9_passes_34 ?_
        refine r_iload_n hc dX9_passes_37 rfl ?_
        refine r_iald hc (Nat.lt_of_lt_of_le (by decide) hn) rfl rfl h.1 dX9_passes_38 ?_
        replace h := h.2
        refine r_callVi hc (zX9_liesIn hn σ x3 (rd σ 4 ((4 * x1) + x3).toNatClampNeg) (rd σ 8 x3.toNatClampNeg)) h (Nat.lt_of_lt_of_le (by decide) hn) rfl rfl rfl (cwV 3 hc.2.2.2.2.1 gX9_passes_X9_liesIn rfl rfl rfl qX9_liesIn ⟨Nat.le_of_ble_eq_true rfl, Nat.le_of_ble_eq_true rfl⟩) rfl rfl (Nat.le_of_ble_eq_true rfl) dX9_passes_39 (fun r2 σ1 h => ?_)
        refine r_aload_n hc dX9_passes_42 rfl ?_
        refine r_get (v := .ref (ad 9)) hc iX9_passes_X9 (Nat.lt_of_lt_of_le (by decide) hn) rfl rfl rfl 11 (by decide) fX9_passes_35 rfl dX9_passes_43 ?_
        refine r_iload_n hc dX9_passes_46 rfl ?_
        refine r_iald hc (Nat.lt_of_lt_of_le (by decide) hn) rfl rfl h.1 dX9_passes_47 ?_
        replace h := h.2
        refine r_icmp_ne (tgt := 55) hc dX9_passes_48 (by decide) (fun hq3 => ?_) (fun hq3 => ?_)
        · replace h := h.1 hq3
          refine r_iconst (v := 1) hc dX9_passes_51 (by decide) ?_
          refine r_goto (tgt := 56) hc dX9_passes_52 (by decide) ?_
          refine r_istore_n hc dX9_passes_56 rfl (by decide) (ss (s1 trivial)) ?_
          refine r_iinc (v := x3 + 1) hc dX9_passes_57 rfl rfl (by decide) (ss (ss (s1 trivial))) ?_
          refine r_goto (tgt := 9) hc dX9_passes_60 (by decide) ?_
          exact r_weak (wk (wk (wk (wk w0)))) (ih _ _ _ _ h)
        · replace h := h.2 hq3
          refine r_iconst (v := 0) hc dX9_passes_55 (by decide) ?_
          refine r_istore_n hc dX9_passes_56 rfl (by decide) (ss (s1 trivial)) ?_
          refine r_iinc (v := x3 + 1) hc dX9_passes_57 rfl rfl (by decide) (ss (ss (s1 trivial))) ?_
          refine r_goto (tgt := 9) hc dX9_passes_60 (by decide) ?_
          exact r_weak (wk (wk (wk (wk w0)))) (ih _ _ _ _ h)
set_option maxHeartbeats 4000000 in
set_option maxRecDepth 100000 in
theorem zX9_passes {cy : Nat → ClassId} {ad : Nat → Nat} {n : Nat} {D : va_G} {A : Nat → Prop} {l : Launch} (hn : 17 ≤ n) (σ : St) (x1 : Int32) : Ci TR cy ad n D A l yX9_passes wsX9_passes rmX9_passes σ [.ref (ad 0), .int x1] (fun Q => vX9_passes Q σ x1) := by
  intro Q h
  refine startW (cc := cX9_passes) (nL := 4) (own := RX9) (lo := [some (.ref (ad 0)), some (.int x1), none, none]) (by decide) rfl rfl (lo_start (av := [.ref (ad 0), .int x1]) (k := 2) (allc1_ok (l := [.ref (ad 0), .int x1]) trivial)) (Nat.le_of_ble_eq_true rfl) (fun p e s m args below meth c hc hr hlk => ?_)
  unfold vX9_passes at h
  refine r_aload_n hc dX9_passes_0 rfl ?_
  refine r_get (v := .ref (ad 6)) hc iX9_passes_X9 (Nat.lt_of_lt_of_le (by decide) hn) rfl rfl rfl 8 (by decide) fX9_passes_25 rfl dX9_passes_1 ?_
  refine r_iload_n hc dX9_passes_4 rfl ?_
  refine r_zald hc (Nat.lt_of_lt_of_le (by decide) hn) rfl rfl h.1 dX9_passes_5 ?_
  replace h := h.2
  refine r_istore_n hc dX9_passes_6 rfl (by decide) (ss (s1 trivial)) ?_
  refine r_iconst (v := 0) hc dX9_passes_7 (by decide) ?_
  refine r_istore_n hc dX9_passes_8 rfl (by decide) (ss (ss (s1 trivial))) ?_
  obtain ⟨e9, h⟩ := h
  exact r_weak (wk (wk (wk (wk w0)))) (tvX9_passes_L9 hn hc hr hlk e9 _ _ _ _ h)
theorem iX9_say_X9 : ∀ w ∈ u_ws RX9 TX9 25, w ∈ wsX9_say := by decide +kernel
theorem fX9_say_41 : Cond.fieldLink RX9 41 (TX9 14).1 (TX9 14).2.1 (TX9 14).2.2.1 ∈ wsX9_say := by decide +kernel
theorem fX9_say_157 : Cond.fieldLink RX9 157 (TX9 15).1 (TX9 15).2.1 (TX9 15).2.2.1 ∈ wsX9_say := by decide +kernel
set_option maxHeartbeats 4000000 in
set_option maxRecDepth 100000 in
theorem zX9_say {cy : Nat → ClassId} {ad : Nat → Nat} {n : Nat} {D : va_G} {A : Nat → Prop} {l : Launch} (hn : 17 ≤ n) (σ : St) (x1 : Int32) : Cv TR cy ad n D A l yX9_say wsX9_say rmX9_say σ [.ref (ad 0), .int x1] (fun Q => vX9_say Q σ x1) := by
  intro Q h
  refine startW (cc := cX9_say) (nL := 2) (own := RX9) (lo := [some (.ref (ad 0)), some (.int x1)]) (by decide) rfl rfl (lo_start (av := [.ref (ad 0), .int x1]) (k := 0) (allc1_ok (l := [.ref (ad 0), .int x1]) trivial)) (Nat.le_of_ble_eq_true rfl) (fun p e s m args below meth c hc hr hlk => ?_)
  unfold vX9_say at h
  refine r_aload_n hc dX9_say_0 rfl ?_
  refine r_get (v := .ref (ad 11)) hc iX9_say_X9 (Nat.lt_of_lt_of_le (by decide) hn) rfl rfl rfl 14 (by decide) fX9_say_41 rfl dX9_say_1 ?_
  refine r_aload_n hc dX9_say_4 rfl ?_
  refine r_get (v := .int (rd σ 0 15)) hc iX9_say_X9 (Nat.lt_of_lt_of_le (by decide) hn) rfl rfl rfl 15 (by decide) fX9_say_157 rfl dX9_say_5 ?_
  refine r_iload_n hc dX9_say_8 rfl ?_
  refine r_iast hc (Nat.lt_of_lt_of_le (by decide) hn) rfl rfl h.1 dX9_say_9 ?_
  replace h := h.2
  refine r_aload_n hc dX9_say_10 rfl ?_
  refine r_dup hc dX9_say_11 rfl ?_
  refine r_get (v := .int (rd (wr σ 11 (rd σ 0 15).toNatClampNeg x1) 0 15)) hc iX9_say_X9 (Nat.lt_of_lt_of_le (by decide) hn) rfl rfl rfl 15 (by decide) fX9_say_157 rfl dX9_say_12 ?_
  refine r_iconst (v := 1) hc dX9_say_15 (by decide) ?_
  refine r_iadd hc dX9_say_16 ?_
  refine r_put hc iX9_say_X9 tyX9_ok nmX9 (Nat.lt_of_lt_of_le (by decide) hn) rfl rfl rfl 15 (by decide) (Nat.le_of_ble_eq_true rfl) fX9_say_157 rfl (by decide +kernel) rfl dX9_say_17 ?_
  exact e_v hc hr hlk h dX9_say_20
set_option maxHeartbeats 4000000 in
set_option maxRecDepth 100000 in
theorem tvX9_sayNumber_L42 {cy : Nat → ClassId} {ad : Nat → Nat} {n : Nat} {D : va_G} {A : Nat → Prop} {l : Launch} {p : Program} {e : Env} {s : State} {m : MethodId} {args : Array Value} {below : List Frame} {meth : Method} {c : Code} {Q : St → Prop} (hn : 17 ≤ n) (hc : CX p s m args c D cy cX9_sayNumber 5 RX9 wsX9_sayNumber) (hr : meth.sig.returnType = none) (hlk : meth.locks = false) : ∀ (q42 : Nat) (σ : St) (x2 : Int32) (x4 : Int32), vX9_sayNumber_L42 Q q42 σ x2 x4 → WV TR cy ad n D A p l e rmX9_sayNumber s m args below meth c 5 (MQ below (va_Qv Q (Bw TR cy ad n D) A) args s 0 0 A) σ [some (.ref (ad 0)), none, some (.int x2), none, some (.int x4)] [] 42 := by
  intro q42
  induction q42 with
  | zero =>
    intro σ x2 x4 h
    exact h.elim
  | succ q42 ih =>
    intro σ x2 x4 h
    unfold vX9_sayNumber_L42 at h
    refine r_iload hc dX9_sayNumber_42 rfl ?_
    refine r_if_le (tgt := 71) hc dX9_sayNumber_44 (by decide) (fun hq7 => ?_) (fun hq7 => ?_)
    · replace h := h.1 hq7
      exact e_v hc hr hlk h dX9_sayNumber_71
    · replace h := h.2 hq7
      refine r_aload_n hc dX9_sayNumber_47 rfl ?_
      refine r_bipush (v := 48) hc dX9_sayNumber_48 (by decide) ?_
      refine r_iload_n hc dX9_sayNumber_50 rfl ?_
      refine r_iload hc dX9_sayNumber_51 rfl ?_
      refine r_idiv hc dX9_sayNumber_53 h.1 ?_
      replace h := h.2
      refine r_bipush (v := 10) hc dX9_sayNumber_54 (by decide) ?_
      refine r_irem hc dX9_sayNumber_56 (by decide) ?_
      refine r_iadd hc dX9_sayNumber_57 ?_
      refine r_callVv hc (zX9_say hn σ (48 + ((x2 / x4) - (x2 / x4) / 10 * 10))) h (Nat.lt_of_lt_of_le (by decide) hn) rfl rfl rfl (cwV 1 hc.2.2.2.2.1 gX9_sayNumber_X9_say rfl rfl rfl qX9_say ⟨Nat.le_of_ble_eq_true rfl, Nat.le_of_ble_eq_true rfl⟩) rfl rfl (Nat.le_of_ble_eq_true rfl) dX9_sayNumber_58 (fun σ6 h => ?_)
      refine r_iload hc dX9_sayNumber_61 rfl ?_
      refine r_bipush (v := 10) hc dX9_sayNumber_63 (by decide) ?_
      refine r_idiv hc dX9_sayNumber_65 (by decide) ?_
      refine r_istore hc dX9_sayNumber_66 (by decide) (ss (ss (ss (s1 trivial)))) ?_
      refine r_goto (tgt := 42) hc dX9_sayNumber_68 (by decide) ?_
      exact r_weak (wk (wn (wk (wn (wk w0))))) (ih _ _ _ h)
set_option maxHeartbeats 4000000 in
set_option maxRecDepth 100000 in
theorem tvX9_sayNumber_L23 {cy : Nat → ClassId} {ad : Nat → Nat} {n : Nat} {D : va_G} {A : Nat → Prop} {l : Launch} {p : Program} {e : Env} {s : State} {m : MethodId} {args : Array Value} {below : List Frame} {meth : Method} {c : Code} {Q : St → Prop} (hn : 17 ≤ n) (hc : CX p s m args c D cy cX9_sayNumber 5 RX9 wsX9_sayNumber) (hr : meth.sig.returnType = none) (hlk : meth.locks = false) : ∀ (q23 : Nat) (σ : St) (x2 : Int32) (x3 : Int32), vX9_sayNumber_L23 Q q23 σ x2 x3 → WV TR cy ad n D A p l e rmX9_sayNumber s m args below meth c 5 (MQ below (va_Qv Q (Bw TR cy ad n D) A) args s 0 0 A) σ [some (.ref (ad 0)), none, some (.int x2), some (.int x3), none] [] 23 := by
  intro q23
  induction q23 with
  | zero =>
    intro σ x2 x3 h
    exact h.elim
  | succ q23 ih =>
    intro σ x2 x3 h
    unfold vX9_sayNumber_L23 at h
    refine r_iload_n hc dX9_sayNumber_23 rfl ?_
    refine r_iload_n hc dX9_sayNumber_24 rfl ?_
    refine r_idiv hc dX9_sayNumber_25 h.1 ?_
    replace h := h.2
    refine r_bipush (v := 10) hc dX9_sayNumber_26 (by decide) ?_
    refine r_icmp_lt (tgt := 39) hc dX9_sayNumber_28 (by decide) (fun hq5 => ?_) (fun hq5 => ?_)
    · replace h := h.1 hq5
      refine r_iload_n hc dX9_sayNumber_39 rfl ?_
      refine r_istore hc dX9_sayNumber_40 (by decide) (ss (ss (ss (s1 trivial)))) ?_
      obtain ⟨e42, h⟩ := h
      exact r_weak (wk (wn (wk (wn (wk w0))))) (tvX9_sayNumber_L42 hn hc hr hlk e42 _ _ _ h)
    · replace h := h.2 hq5
      refine r_iload_n hc dX9_sayNumber_31 rfl ?_
      refine r_bipush (v := 10) hc dX9_sayNumber_32 (by decide) ?_
      refine r_imul hc dX9_sayNumber_34 ?_
      refine r_istore_n hc dX9_sayNumber_35 rfl (by decide) (ss (ss (s1 trivial))) ?_
      refine r_goto (tgt := 23) hc dX9_sayNumber_36 (by decide) ?_
      exact r_weak (wk (wn (wk (wk (wn w0))))) (ih _ _ _ h)
set_option maxHeartbeats 4000000 in
set_option maxRecDepth 100000 in
theorem zX9_sayNumber {cy : Nat → ClassId} {ad : Nat → Nat} {n : Nat} {D : va_G} {A : Nat → Prop} {l : Launch} (hn : 17 ≤ n) (σ : St) (x1 : Int32) : Cv TR cy ad n D A l yX9_sayNumber wsX9_sayNumber rmX9_sayNumber σ [.ref (ad 0), .int x1] (fun Q => vX9_sayNumber Q σ x1) := by
  intro Q h
  refine startW (cc := cX9_sayNumber) (nL := 5) (own := RX9) (lo := [some (.ref (ad 0)), some (.int x1), none, none, none]) (by decide) rfl rfl (lo_start (av := [.ref (ad 0), .int x1]) (k := 3) (allc1_ok (l := [.ref (ad 0), .int x1]) trivial)) (Nat.le_of_ble_eq_true rfl) (fun p e s m args below meth c hc hr hlk => ?_)
  unfold vX9_sayNumber at h
  refine r_iload_n hc dX9_sayNumber_0 rfl ?_
  refine r_if_ge (tgt := 10) hc dX9_sayNumber_1 (by decide) (fun hq4 => ?_) (fun hq4 => ?_)
  · replace h := h.1 hq4
    refine r_iload_n hc dX9_sayNumber_10 rfl ?_
    refine r_if_ge (tgt := 19) hc dX9_sayNumber_11 (by decide) (fun hq1 => ?_) (fun hq1 => ?_)
    · replace h := h.1 hq1
      refine r_iload_n hc dX9_sayNumber_19 rfl ?_
      refine r_istore_n hc dX9_sayNumber_20 rfl (by decide) (ss (s1 trivial)) ?_
      refine r_iconst (v := 1) hc dX9_sayNumber_21 (by decide) ?_
      refine r_istore_n hc dX9_sayNumber_22 rfl (by decide) (ss (ss (s1 trivial))) ?_
      obtain ⟨e23, h⟩ := h
      exact r_weak (wk (wn (wk (wk (wn w0))))) (tvX9_sayNumber_L23 hn hc hr hlk e23 _ _ _ h)
    · replace h := h.2 hq1
      refine r_iload_n hc dX9_sayNumber_14 rfl ?_
      refine r_ineg hc dX9_sayNumber_15 ?_
      refine r_goto (tgt := 20) hc dX9_sayNumber_16 (by decide) ?_
      refine r_istore_n hc dX9_sayNumber_20 rfl (by decide) (ss (s1 trivial)) ?_
      refine r_iconst (v := 1) hc dX9_sayNumber_21 (by decide) ?_
      refine r_istore_n hc dX9_sayNumber_22 rfl (by decide) (ss (ss (s1 trivial))) ?_
      obtain ⟨e23, h⟩ := h
      exact r_weak (wk (wn (wk (wk (wn w0))))) (tvX9_sayNumber_L23 hn hc hr hlk e23 _ _ _ h)
  · replace h := h.2 hq4
    refine r_aload_n hc dX9_sayNumber_4 rfl ?_
    refine r_bipush (v := 45) hc dX9_sayNumber_5 (by decide) ?_
    refine r_callVv hc (zX9_say hn σ 45) h (Nat.lt_of_lt_of_le (by decide) hn) rfl rfl rfl (cwV 1 hc.2.2.2.2.1 gX9_sayNumber_X9_say rfl rfl rfl qX9_say ⟨Nat.le_of_ble_eq_true rfl, Nat.le_of_ble_eq_true rfl⟩) rfl rfl (Nat.le_of_ble_eq_true rfl) dX9_sayNumber_7 (fun σ2 h => ?_)
    refine r_iload_n hc dX9_sayNumber_10 rfl ?_
    refine r_if_ge (tgt := 19) hc dX9_sayNumber_11 (by decide) (fun hq3 => ?_) (fun hq3 => ?_)
    · replace h := h.1 hq3
      refine r_iload_n hc dX9_sayNumber_19 rfl ?_
      refine r_istore_n hc dX9_sayNumber_20 rfl (by decide) (ss (s1 trivial)) ?_
      refine r_iconst (v := 1) hc dX9_sayNumber_21 (by decide) ?_
      refine r_istore_n hc dX9_sayNumber_22 rfl (by decide) (ss (ss (s1 trivial))) ?_
      obtain ⟨e23, h⟩ := h
      exact r_weak (wk (wn (wk (wk (wn w0))))) (tvX9_sayNumber_L23 hn hc hr hlk e23 _ _ _ h)
    · replace h := h.2 hq3
      refine r_iload_n hc dX9_sayNumber_14 rfl ?_
      refine r_ineg hc dX9_sayNumber_15 ?_
      refine r_goto (tgt := 20) hc dX9_sayNumber_16 (by decide) ?_
      refine r_istore_n hc dX9_sayNumber_20 rfl (by decide) (ss (s1 trivial)) ?_
      refine r_iconst (v := 1) hc dX9_sayNumber_21 (by decide) ?_
      refine r_istore_n hc dX9_sayNumber_22 rfl (by decide) (ss (ss (s1 trivial))) ?_
      obtain ⟨e23, h⟩ := h
      exact r_weak (wk (wn (wk (wk (wn w0))))) (tvX9_sayNumber_L23 hn hc hr hlk e23 _ _ _ h)
theorem iX9_cell_X9 : ∀ w ∈ u_ws RX9 TX9 25, w ∈ wsX9_cell := by decide +kernel
theorem fX9_cell_71 : Cond.fieldLink RX9 71 (TX9 5).1 (TX9 5).2.1 (TX9 5).2.2.1 ∈ wsX9_cell := by decide +kernel
theorem fX9_cell_129 : Cond.fieldLink RX9 129 (TX9 21).1 (TX9 21).2.1 (TX9 21).2.2.1 ∈ wsX9_cell := by decide +kernel
theorem fX9_cell_19 : Cond.fieldLink RX9 19 (TX9 6).1 (TX9 6).2.1 (TX9 6).2.2.1 ∈ wsX9_cell := by decide +kernel
set_option maxHeartbeats 4000000 in
set_option maxRecDepth 100000 in
theorem tvX9_cell_J50 {cy : Nat → ClassId} {ad : Nat → Nat} {n : Nat} {D : va_G} {A : Nat → Prop} {l : Launch} {p : Program} {e : Env} {s : State} {m : MethodId} {args : Array Value} {below : List Frame} {meth : Method} {c : Code} {Q : St → Prop} {K7 : St → Int32 → Int32 → Int32 → Int32 → Int32 → Int32 → Int32 → Int32 → Prop} (hn : 17 ≤ n) (hc : CX p s m args c D cy cX9_cell 10 RX9 wsX9_cell) (hr : meth.sig.returnType = none) (hlk : meth.locks = false) (hK7 : ∀ (σ : St) (x1 : Int32) (x2 : Int32) (x3 : Int32) (x4 : Int32) (x5 : Int32) (x6 : Int32) (x7 : Int32) (x8 : Int32), K7 σ x1 x2 x3 x4 x5 x6 x7 x8 → WV TR cy ad n D A p l e rmX9_cell s m args below meth c 10 (MQ below (va_Qv Q (Bw TR cy ad n D) A) args s 0 0 A) σ [some (.ref (ad 0)), some (.int x1), some (.int x2), some (.int x3), some (.int x4), some (.int x5), some (.int x6), some (.int x7), some (.int x8), none] [] 7) : ∀ (σ : St) (x1 : Int32) (x2 : Int32) (x3 : Int32) (x4 : Int32) (x5 : Int32) (x6 : Int32) (x7 : Int32) (x8 : Int32), vX9_cell_J50 Q K7 σ x1 x2 x3 x4 x5 x6 x7 x8 → WV TR cy ad n D A p l e rmX9_cell s m args below meth c 10 (MQ below (va_Qv Q (Bw TR cy ad n D) A) args s 0 0 A) σ [some (.ref (ad 0)), some (.int x1), some (.int x2), some (.int x3), some (.int x4), some (.int x5), some (.int x6), some (.int x7), some (.int x8), none] [] 50 := by
  intro σ x1 x2 x3 x4 x5 x6 x7 x8 h
  unfold vX9_cell_J50 at h
  refine r_iload hc dX9_cell_50 rfl ?_
  refine r_if_lt (tgt := 80) hc dX9_cell_52 (by decide) (fun hq25 => ?_) (fun hq25 => ?_)
  · replace h := h.1 hq25
    refine r_iconst (v := 1) hc dX9_cell_80 (by decide) ?_
    refine r_goto (tgt := 85) hc dX9_cell_81 (by decide) ?_
    refine r_istore hc dX9_cell_85 (by decide) (ss (ss (ss (ss (ss (ss (ss (ss (s1 trivial))))))))) ?_
    refine r_iload hc dX9_cell_87 rfl ?_
    refine r_if_eq (tgt := 98) hc dX9_cell_89 (by decide) (fun hq17 => ?_) (fun hq17 => ?_)
    · exact absurd hq17 (by decide)
    · refine r_aload_n hc dX9_cell_92 rfl ?_
      refine r_iload hc dX9_cell_93 rfl ?_
      refine r_callVv hc (zX9_add hn σ x8) h (Nat.lt_of_lt_of_le (by decide) hn) rfl rfl rfl (cwV 1 hc.2.2.2.2.1 gX9_cell_X9_add rfl rfl rfl qX9_add ⟨Nat.le_of_ble_eq_true rfl, Nat.le_of_ble_eq_true rfl⟩) rfl rfl (Nat.le_of_ble_eq_true rfl) dX9_cell_95 (fun σ18 h => ?_)
      refine r_iinc (v := x8 + 1) hc dX9_cell_98 rfl rfl (by decide) (ss (ss (ss (ss (ss (ss (ss (s1 trivial)))))))) ?_
      refine r_goto (tgt := 7) hc dX9_cell_101 (by decide) ?_
      exact r_weak (wk (wk (wk (wk (wk (wk (wk (wk (wk (wn w0)))))))))) (hK7 _ _ _ _ _ _ _ _ _ h)
  · replace h := h.2 hq25
    refine r_aload_n hc dX9_cell_55 rfl ?_
    refine r_iload hc dX9_cell_56 rfl ?_
    refine r_aload_n hc dX9_cell_58 rfl ?_
    refine r_get (v := .ref (ad 4)) hc iX9_cell_X9 (Nat.lt_of_lt_of_le (by decide) hn) rfl rfl rfl 6 (by decide) fX9_cell_19 rfl dX9_cell_59 ?_
    refine r_iconst (v := 4) hc dX9_cell_62 (by decide) ?_
    refine r_iload hc dX9_cell_63 rfl ?_
    refine r_imul hc dX9_cell_65 ?_
    refine r_iload hc dX9_cell_66 rfl ?_
    refine r_iadd hc dX9_cell_68 ?_
    refine r_iald hc (Nat.lt_of_lt_of_le (by decide) hn) rfl rfl h.1 dX9_cell_69 ?_
    replace h := h.2
    refine r_iload hc dX9_cell_70 rfl ?_
    refine r_callVi hc (zX9_liesIn hn σ x4 (rd σ 4 ((4 * x8) + x4).toNatClampNeg) x5) h (Nat.lt_of_lt_of_le (by decide) hn) rfl rfl rfl (cwV 3 hc.2.2.2.2.1 gX9_cell_X9_liesIn rfl rfl rfl qX9_liesIn ⟨Nat.le_of_ble_eq_true rfl, Nat.le_of_ble_eq_true rfl⟩) rfl rfl (Nat.le_of_ble_eq_true rfl) dX9_cell_72 (fun r20 σ19 h => ?_)
    refine r_iload hc dX9_cell_75 rfl ?_
    refine r_icmp_ne (tgt := 84) hc dX9_cell_77 (by decide) (fun hq24 => ?_) (fun hq24 => ?_)
    · replace h := h.1 hq24
      refine r_iconst (v := 1) hc dX9_cell_80 (by decide) ?_
      refine r_goto (tgt := 85) hc dX9_cell_81 (by decide) ?_
      refine r_istore hc dX9_cell_85 (by decide) (ss (ss (ss (ss (ss (ss (ss (ss (s1 trivial))))))))) ?_
      refine r_iload hc dX9_cell_87 rfl ?_
      refine r_if_eq (tgt := 98) hc dX9_cell_89 (by decide) (fun hq21 => ?_) (fun hq21 => ?_)
      · exact absurd hq21 (by decide)
      · refine r_aload_n hc dX9_cell_92 rfl ?_
        refine r_iload hc dX9_cell_93 rfl ?_
        refine r_callVv hc (zX9_add hn σ19 x8) h (Nat.lt_of_lt_of_le (by decide) hn) rfl rfl rfl (cwV 1 hc.2.2.2.2.1 gX9_cell_X9_add rfl rfl rfl qX9_add ⟨Nat.le_of_ble_eq_true rfl, Nat.le_of_ble_eq_true rfl⟩) rfl rfl (Nat.le_of_ble_eq_true rfl) dX9_cell_95 (fun σ22 h => ?_)
        refine r_iinc (v := x8 + 1) hc dX9_cell_98 rfl rfl (by decide) (ss (ss (ss (ss (ss (ss (ss (s1 trivial)))))))) ?_
        refine r_goto (tgt := 7) hc dX9_cell_101 (by decide) ?_
        exact r_weak (wk (wk (wk (wk (wk (wk (wk (wk (wk (wn w0)))))))))) (hK7 _ _ _ _ _ _ _ _ _ h)
    · replace h := h.2 hq24
      refine r_iconst (v := 0) hc dX9_cell_84 (by decide) ?_
      refine r_istore hc dX9_cell_85 (by decide) (ss (ss (ss (ss (ss (ss (ss (ss (s1 trivial))))))))) ?_
      refine r_iload hc dX9_cell_87 rfl ?_
      refine r_if_eq (tgt := 98) hc dX9_cell_89 (by decide) (fun hq23 => ?_) (fun hq23 => ?_)
      · refine r_iinc (v := x8 + 1) hc dX9_cell_98 rfl rfl (by decide) (ss (ss (ss (ss (ss (ss (ss (s1 trivial)))))))) ?_
        refine r_goto (tgt := 7) hc dX9_cell_101 (by decide) ?_
        exact r_weak (wk (wk (wk (wk (wk (wk (wk (wk (wk (wn w0)))))))))) (hK7 _ _ _ _ _ _ _ _ _ h)
      · exact absurd hq23 (by decide)
set_option maxHeartbeats 4000000 in
set_option maxRecDepth 100000 in
theorem tvX9_cell_L7 {cy : Nat → ClassId} {ad : Nat → Nat} {n : Nat} {D : va_G} {A : Nat → Prop} {l : Launch} {p : Program} {e : Env} {s : State} {m : MethodId} {args : Array Value} {below : List Frame} {meth : Method} {c : Code} {Q : St → Prop} (hn : 17 ≤ n) (hc : CX p s m args c D cy cX9_cell 10 RX9 wsX9_cell) (hr : meth.sig.returnType = none) (hlk : meth.locks = false) : ∀ (q7 : Nat) (σ : St) (x1 : Int32) (x2 : Int32) (x3 : Int32) (x4 : Int32) (x5 : Int32) (x6 : Int32) (x7 : Int32) (x8 : Int32), vX9_cell_L7 Q q7 σ x1 x2 x3 x4 x5 x6 x7 x8 → WV TR cy ad n D A p l e rmX9_cell s m args below meth c 10 (MQ below (va_Qv Q (Bw TR cy ad n D) A) args s 0 0 A) σ [some (.ref (ad 0)), some (.int x1), some (.int x2), some (.int x3), some (.int x4), some (.int x5), some (.int x6), some (.int x7), some (.int x8), none] [] 7 := by
  intro q7
  induction q7 with
  | zero =>
    intro σ x1 x2 x3 x4 x5 x6 x7 x8 h
    exact h.elim
  | succ q7 ih =>
    intro σ x1 x2 x3 x4 x5 x6 x7 x8 h
    unfold vX9_cell_L7 at h
    refine r_iload hc dX9_cell_7 rfl ?_
    refine r_aload_n hc dX9_cell_9 rfl ?_
    refine r_get (v := .int (rd σ 0 5)) hc iX9_cell_X9 (Nat.lt_of_lt_of_le (by decide) hn) rfl rfl rfl 5 (by decide) fX9_cell_71 rfl dX9_cell_10 ?_
    refine r_icmp_ge (tgt := 104) hc dX9_cell_13 (by decide) (fun hq16 => ?_) (fun hq16 => ?_)
    · replace h := h.1 hq16
      refine r_aload_n hc dX9_cell_104 rfl ?_
      refine r_get (v := .int (rd σ 0 21)) hc iX9_cell_X9 (Nat.lt_of_lt_of_le (by decide) hn) rfl rfl rfl 21 (by decide) fX9_cell_129 rfl dX9_cell_105 ?_
      refine r_if_ne (tgt := 120) hc dX9_cell_108 (by decide) (fun hq6 => ?_) (fun hq6 => ?_)
      · replace h := h.1 hq6
        refine r_aload_n hc dX9_cell_111 rfl ?_
        refine r_bipush (v := 46) hc dX9_cell_112 (by decide) ?_
        refine r_callVv hc (zX9_say hn σ 46) h (Nat.lt_of_lt_of_le (by decide) hn) rfl rfl rfl (cwV 1 hc.2.2.2.2.1 gX9_cell_X9_say rfl rfl rfl qX9_say ⟨Nat.le_of_ble_eq_true rfl, Nat.le_of_ble_eq_true rfl⟩) rfl rfl (Nat.le_of_ble_eq_true rfl) dX9_cell_114 (fun σ2 h => ?_)
        refine r_goto (tgt := 130) hc dX9_cell_117 (by decide) ?_
        exact e_v hc hr hlk h dX9_cell_130
      · replace h := h.2 hq6
        refine r_aload_n hc dX9_cell_120 rfl ?_
        refine r_aload_n hc dX9_cell_121 rfl ?_
        refine r_iload hc dX9_cell_122 rfl ?_
        refine r_callVi hc (zX9_value hn σ x7) h (Nat.lt_of_lt_of_le (by decide) hn) rfl rfl rfl (cwV 1 hc.2.2.2.2.1 gX9_cell_X9_value rfl rfl rfl qX9_value ⟨Nat.le_of_ble_eq_true rfl, Nat.le_of_ble_eq_true rfl⟩) rfl rfl (Nat.le_of_ble_eq_true rfl) dX9_cell_124 (fun r4 σ3 h => ?_)
        refine r_callVv hc (zX9_sayNumber hn σ3 r4) h (Nat.lt_of_lt_of_le (by decide) hn) rfl rfl rfl (cwV 1 hc.2.2.2.2.1 gX9_cell_X9_sayNumber rfl rfl rfl qX9_sayNumber ⟨Nat.le_of_ble_eq_true rfl, Nat.le_of_ble_eq_true rfl⟩) rfl rfl (Nat.le_of_ble_eq_true rfl) dX9_cell_127 (fun σ5 h => ?_)
        exact e_v hc hr hlk h dX9_cell_130
    · replace h := h.2 hq16
      refine r_aload_n hc dX9_cell_16 rfl ?_
      refine r_iload hc dX9_cell_17 rfl ?_
      refine r_callVi hc (zX9_passes hn σ x8) h (Nat.lt_of_lt_of_le (by decide) hn) rfl rfl rfl (cwV 1 hc.2.2.2.2.1 gX9_cell_X9_passes rfl rfl rfl qX9_passes ⟨Nat.le_of_ble_eq_true rfl, Nat.le_of_ble_eq_true rfl⟩) rfl rfl (Nat.le_of_ble_eq_true rfl) dX9_cell_19 (fun r8 σ7 h => ?_)
      refine r_if_eq (tgt := 84) hc dX9_cell_22 (by decide) (fun hq15 => ?_) (fun hq15 => ?_)
      · replace h := h.1 hq15
        refine r_iconst (v := 0) hc dX9_cell_84 (by decide) ?_
        refine r_istore hc dX9_cell_85 (by decide) (ss (ss (ss (ss (ss (ss (ss (ss (s1 trivial))))))))) ?_
        refine r_iload hc dX9_cell_87 rfl ?_
        refine r_if_eq (tgt := 98) hc dX9_cell_89 (by decide) (fun hq9 => ?_) (fun hq9 => ?_)
        · refine r_iinc (v := x8 + 1) hc dX9_cell_98 rfl rfl (by decide) (ss (ss (ss (ss (ss (ss (ss (s1 trivial)))))))) ?_
          refine r_goto (tgt := 7) hc dX9_cell_101 (by decide) ?_
          exact r_weak (wk (wk (wk (wk (wk (wk (wk (wk (wk (wn w0)))))))))) (ih _ _ _ _ _ _ _ _ _ h)
        · exact absurd hq9 (by decide)
      · replace h := h.2 hq15
        refine r_iload_n hc dX9_cell_25 rfl ?_
        refine r_if_lt (tgt := 50) hc dX9_cell_26 (by decide) (fun hq14 => ?_) (fun hq14 => ?_)
        · replace h := h.1 hq14
          exact r_weak (wk (wk (wk (wk (wk (wk (wk (wk (wk (wn w0)))))))))) (tvX9_cell_J50 hn hc hr hlk ih _ _ _ _ _ _ _ _ _ h)
        · replace h := h.2 hq14
          refine r_aload_n hc dX9_cell_29 rfl ?_
          refine r_iload_n hc dX9_cell_30 rfl ?_
          refine r_aload_n hc dX9_cell_31 rfl ?_
          refine r_get (v := .ref (ad 4)) hc iX9_cell_X9 (Nat.lt_of_lt_of_le (by decide) hn) rfl rfl rfl 6 (by decide) fX9_cell_19 rfl dX9_cell_32 ?_
          refine r_iconst (v := 4) hc dX9_cell_35 (by decide) ?_
          refine r_iload hc dX9_cell_36 rfl ?_
          refine r_imul hc dX9_cell_38 ?_
          refine r_iload_n hc dX9_cell_39 rfl ?_
          refine r_iadd hc dX9_cell_40 ?_
          refine r_iald hc (Nat.lt_of_lt_of_le (by decide) hn) rfl rfl h.1 dX9_cell_41 ?_
          replace h := h.2
          refine r_iload_n hc dX9_cell_42 rfl ?_
          refine r_callVi hc (zX9_liesIn hn σ7 x1 (rd σ7 4 ((4 * x8) + x1).toNatClampNeg) x2) h (Nat.lt_of_lt_of_le (by decide) hn) rfl rfl rfl (cwV 3 hc.2.2.2.2.1 gX9_cell_X9_liesIn rfl rfl rfl qX9_liesIn ⟨Nat.le_of_ble_eq_true rfl, Nat.le_of_ble_eq_true rfl⟩) rfl rfl (Nat.le_of_ble_eq_true rfl) dX9_cell_43 (fun r11 σ10 h => ?_)
          refine r_iload_n hc dX9_cell_46 rfl ?_
          refine r_icmp_ne (tgt := 84) hc dX9_cell_47 (by decide) (fun hq13 => ?_) (fun hq13 => ?_)
          · replace h := h.1 hq13
            exact r_weak (wk (wk (wk (wk (wk (wk (wk (wk (wk (wn w0)))))))))) (tvX9_cell_J50 hn hc hr hlk ih _ _ _ _ _ _ _ _ _ h)
          · replace h := h.2 hq13
            refine r_iconst (v := 0) hc dX9_cell_84 (by decide) ?_
            refine r_istore hc dX9_cell_85 (by decide) (ss (ss (ss (ss (ss (ss (ss (ss (s1 trivial))))))))) ?_
            refine r_iload hc dX9_cell_87 rfl ?_
            refine r_if_eq (tgt := 98) hc dX9_cell_89 (by decide) (fun hq12 => ?_) (fun hq12 => ?_)
            · refine r_iinc (v := x8 + 1) hc dX9_cell_98 rfl rfl (by decide) (ss (ss (ss (ss (ss (ss (ss (s1 trivial)))))))) ?_
              refine r_goto (tgt := 7) hc dX9_cell_101 (by decide) ?_
              exact r_weak (wk (wk (wk (wk (wk (wk (wk (wk (wk (wn w0)))))))))) (ih _ _ _ _ _ _ _ _ _ h)
            · exact absurd hq12 (by decide)
set_option maxHeartbeats 4000000 in
set_option maxRecDepth 100000 in
theorem zX9_cell {cy : Nat → ClassId} {ad : Nat → Nat} {n : Nat} {D : va_G} {A : Nat → Prop} {l : Launch} (hn : 17 ≤ n) (σ : St) (x1 : Int32) (x2 : Int32) (x3 : Int32) (x4 : Int32) (x5 : Int32) (x6 : Int32) (x7 : Int32) : Cv TR cy ad n D A l yX9_cell wsX9_cell rmX9_cell σ [.ref (ad 0), .int x1, .int x2, .int x3, .int x4, .int x5, .int x6, .int x7] (fun Q => vX9_cell Q σ x1 x2 x3 x4 x5 x6 x7) := by
  intro Q h
  refine startW (cc := cX9_cell) (nL := 10) (own := RX9) (lo := [some (.ref (ad 0)), some (.int x1), some (.int x2), some (.int x3), some (.int x4), some (.int x5), some (.int x6), some (.int x7), none, none]) (by decide) rfl rfl (lo_start (av := [.ref (ad 0), .int x1, .int x2, .int x3, .int x4, .int x5, .int x6, .int x7]) (k := 2) (allc1_ok (l := [.ref (ad 0), .int x1, .int x2, .int x3, .int x4, .int x5, .int x6, .int x7]) trivial)) (Nat.le_of_ble_eq_true rfl) (fun p e s m args below meth c hc hr hlk => ?_)
  unfold vX9_cell at h
  refine r_aload_n hc dX9_cell_0 rfl ?_
  refine r_callVv hc (zX9_begin hn σ) h (Nat.lt_of_lt_of_le (by decide) hn) rfl rfl rfl (cwV 0 hc.2.2.2.2.1 gX9_cell_X9_begin rfl rfl rfl qX9_begin ⟨Nat.le_of_ble_eq_true rfl, Nat.le_of_ble_eq_true rfl⟩) rfl rfl (Nat.le_of_ble_eq_true rfl) dX9_cell_1 (fun σ1 h => ?_)
  refine r_iconst (v := 0) hc dX9_cell_4 (by decide) ?_
  refine r_istore hc dX9_cell_5 (by decide) (ss (ss (ss (ss (ss (ss (ss (s1 trivial)))))))) ?_
  obtain ⟨e7, h⟩ := h
  exact r_weak (wk (wk (wk (wk (wk (wk (wk (wk (wk (wn w0)))))))))) (tvX9_cell_L7 hn hc hr hlk e7 _ _ _ _ _ _ _ _ _ h)
theorem iX9_findCosts_X9 : ∀ w ∈ u_ws RX9 TX9 25, w ∈ wsX9_findCosts := by decide +kernel
theorem fX9_findCosts_57 : Cond.fieldLink RX9 57 (TX9 20).1 (TX9 20).2.1 (TX9 20).2.2.1 ∈ wsX9_findCosts := by decide +kernel
theorem fX9_findCosts_50 : Cond.fieldLink RX9 50 (TX9 18).1 (TX9 18).2.1 (TX9 18).2.2.1 ∈ wsX9_findCosts := by decide +kernel
set_option maxHeartbeats 4000000 in
set_option maxRecDepth 100000 in
theorem tvX9_findCosts_L2 {cy : Nat → ClassId} {ad : Nat → Nat} {n : Nat} {D : va_G} {A : Nat → Prop} {l : Launch} {p : Program} {e : Env} {s : State} {m : MethodId} {args : Array Value} {below : List Frame} {meth : Method} {c : Code} {Q : St → Prop} (hn : 17 ≤ n) (hc : CX p s m args c D cy cX9_findCosts 2 RX9 wsX9_findCosts) (hr : meth.sig.returnType = none) (hlk : meth.locks = false) : ∀ (q2 : Nat) (σ : St) (x1 : Int32), vX9_findCosts_L2 Q q2 σ x1 → WV TR cy ad n D A p l e rmX9_findCosts s m args below meth c 2 (MQ below (va_Qv Q (Bw TR cy ad n D) A) args s 0 0 A) σ [some (.ref (ad 0)), some (.int x1)] [] 2 := by
  intro q2
  induction q2 with
  | zero =>
    intro σ x1 h
    exact h.elim
  | succ q2 ih =>
    intro σ x1 h
    unfold vX9_findCosts_L2 at h
    refine r_iload_n hc dX9_findCosts_2 rfl ?_
    refine r_aload_n hc dX9_findCosts_3 rfl ?_
    refine r_callVi hc (zX9_all hn σ) h (Nat.lt_of_lt_of_le (by decide) hn) rfl rfl rfl (cwV 0 hc.2.2.2.2.1 gX9_findCosts_X9_all rfl rfl rfl qX9_all ⟨Nat.le_of_ble_eq_true rfl, Nat.le_of_ble_eq_true rfl⟩) rfl rfl (Nat.le_of_ble_eq_true rfl) dX9_findCosts_4 (fun r2 σ1 h => ?_)
    refine r_icmp_ge (tgt := 32) hc dX9_findCosts_7 (by decide) (fun hq5 => ?_) (fun hq5 => ?_)
    · replace h := h.1 hq5
      exact e_v hc hr hlk h dX9_findCosts_32
    · replace h := h.2 hq5
      refine r_aload_n hc dX9_findCosts_10 rfl ?_
      refine r_get (v := .ref (ad 16)) hc iX9_findCosts_X9 (Nat.lt_of_lt_of_le (by decide) hn) rfl rfl rfl 20 (by decide) fX9_findCosts_57 rfl dX9_findCosts_11 ?_
      refine r_iload_n hc dX9_findCosts_14 rfl ?_
      refine r_aload_n hc dX9_findCosts_15 rfl ?_
      refine r_get (v := .ref (ad 14)) hc iX9_findCosts_X9 (Nat.lt_of_lt_of_le (by decide) hn) rfl rfl rfl 18 (by decide) fX9_findCosts_50 rfl dX9_findCosts_16 ?_
      refine r_aload_n hc dX9_findCosts_19 rfl ?_
      refine r_iload_n hc dX9_findCosts_20 rfl ?_
      refine r_callVi hc (zX9_serverOf hn σ1 x1) h (Nat.lt_of_lt_of_le (by decide) hn) rfl rfl rfl (cwV 1 hc.2.2.2.2.1 gX9_findCosts_X9_serverOf rfl rfl rfl qX9_serverOf ⟨Nat.le_of_ble_eq_true rfl, Nat.le_of_ble_eq_true rfl⟩) rfl rfl (Nat.le_of_ble_eq_true rfl) dX9_findCosts_21 (fun r4 σ3 h => ?_)
      refine r_iald hc (Nat.lt_of_lt_of_le (by decide) hn) rfl rfl h.1 dX9_findCosts_24 ?_
      replace h := h.2
      refine r_iast hc (Nat.lt_of_lt_of_le (by decide) hn) rfl rfl h.1 dX9_findCosts_25 ?_
      replace h := h.2
      refine r_iinc (v := x1 + 1) hc dX9_findCosts_26 rfl rfl (by decide) (s1 trivial) ?_
      refine r_goto (tgt := 2) hc dX9_findCosts_29 (by decide) ?_
      exact r_weak (wk (wk w0)) (ih _ _ h)
set_option maxHeartbeats 4000000 in
set_option maxRecDepth 100000 in
theorem zX9_findCosts {cy : Nat → ClassId} {ad : Nat → Nat} {n : Nat} {D : va_G} {A : Nat → Prop} {l : Launch} (hn : 17 ≤ n) (σ : St) : Cv TR cy ad n D A l yX9_findCosts wsX9_findCosts rmX9_findCosts σ [.ref (ad 0)] (fun Q => vX9_findCosts Q σ ) := by
  intro Q h
  refine startW (cc := cX9_findCosts) (nL := 2) (own := RX9) (lo := [some (.ref (ad 0)), none]) (by decide) rfl rfl (lo_start (av := [.ref (ad 0)]) (k := 1) (allc1_ok (l := [.ref (ad 0)]) trivial)) (Nat.le_of_ble_eq_true rfl) (fun p e s m args below meth c hc hr hlk => ?_)
  unfold vX9_findCosts at h
  refine r_iconst (v := 0) hc dX9_findCosts_0 (by decide) ?_
  refine r_istore_n hc dX9_findCosts_1 rfl (by decide) (s1 trivial) ?_
  obtain ⟨e2, h⟩ := h
  exact r_weak (wk (wk w0)) (tvX9_findCosts_L2 hn hc hr hlk e2 _ _ h)
theorem iX9_gainOf_X9 : ∀ w ∈ u_ws RX9 TX9 25, w ∈ wsX9_gainOf := by decide +kernel
theorem fX9_gainOf_38 : Cond.fieldLink RX9 38 (TX9 12).1 (TX9 12).2.1 (TX9 12).2.2.1 ∈ wsX9_gainOf := by decide +kernel
theorem fX9_gainOf_54 : Cond.fieldLink RX9 54 (TX9 19).1 (TX9 19).2.1 (TX9 19).2.2.1 ∈ wsX9_gainOf := by decide +kernel
theorem fX9_gainOf_57 : Cond.fieldLink RX9 57 (TX9 20).1 (TX9 20).2.1 (TX9 20).2.2.1 ∈ wsX9_gainOf := by decide +kernel
theorem fX9_gainOf_50 : Cond.fieldLink RX9 50 (TX9 18).1 (TX9 18).2.1 (TX9 18).2.2.1 ∈ wsX9_gainOf := by decide +kernel
set_option maxHeartbeats 4000000 in
set_option maxRecDepth 100000 in
theorem tvX9_gainOf_J44 {cy : Nat → ClassId} {ad : Nat → Nat} {n : Nat} {D : va_G} {A : Nat → Prop} {l : Launch} {p : Program} {e : Env} {s : State} {m : MethodId} {args : Array Value} {below : List Frame} {meth : Method} {c : Code} {Q : Int32 → St → Prop} {K4 : St → Int32 → Int32 → Int32 → Prop} (hn : 17 ≤ n) (hc : CX p s m args c D cy cX9_gainOf 5 RX9 wsX9_gainOf) (hr : meth.sig.returnType = some .int) (hlk : meth.locks = false) (hK4 : ∀ (σ : St) (x1 : Int32) (x2 : Int32) (x3 : Int32), K4 σ x1 x2 x3 → WV TR cy ad n D A p l e rmX9_gainOf s m args below meth c 5 (MQ below (va_Qi Q (Bw TR cy ad n D) A) args s 0 0 A) σ [some (.ref (ad 0)), some (.int x1), some (.int x2), some (.int x3), none] [] 4) : ∀ (σ : St) (x1 : Int32) (x2 : Int32) (x3 : Int32) (y0 : Int32), vX9_gainOf_J44 Q K4 σ x1 x2 x3 y0 → WV TR cy ad n D A p l e rmX9_gainOf s m args below meth c 5 (MQ below (va_Qi Q (Bw TR cy ad n D) A) args s 0 0 A) σ [some (.ref (ad 0)), some (.int x1), some (.int x2), some (.int x3), none] [.int y0] 44 := by
  intro σ x1 x2 x3 y0 h
  unfold vX9_gainOf_J44 at h
  refine r_istore hc dX9_gainOf_44 (by decide) (ss (ss (ss (s1 trivial)))) ?_
  refine r_iload_n hc dX9_gainOf_46 rfl ?_
  refine r_iload hc dX9_gainOf_47 rfl ?_
  refine r_if_le (tgt := 57) hc dX9_gainOf_49 (by decide) (fun hq6 => ?_) (fun hq6 => ?_)
  · replace h := h.1 hq6
    refine r_iconst (v := 0) hc dX9_gainOf_57 (by decide) ?_
    refine r_iadd hc dX9_gainOf_58 ?_
    refine r_istore_n hc dX9_gainOf_59 rfl (by decide) (ss (s1 trivial)) ?_
    refine r_iinc (v := x3 + 1) hc dX9_gainOf_60 rfl rfl (by decide) (ss (ss (s1 trivial))) ?_
    refine r_goto (tgt := 4) hc dX9_gainOf_63 (by decide) ?_
    exact r_weak (wk (wk (wk (wk (wn w0))))) (hK4 _ _ _ _ h)
  · replace h := h.2 hq6
    refine r_iload hc dX9_gainOf_52 rfl ?_
    refine r_goto (tgt := 58) hc dX9_gainOf_54 (by decide) ?_
    refine r_iadd hc dX9_gainOf_58 ?_
    refine r_istore_n hc dX9_gainOf_59 rfl (by decide) (ss (s1 trivial)) ?_
    refine r_iinc (v := x3 + 1) hc dX9_gainOf_60 rfl rfl (by decide) (ss (ss (s1 trivial))) ?_
    refine r_goto (tgt := 4) hc dX9_gainOf_63 (by decide) ?_
    exact r_weak (wk (wk (wk (wk (wn w0))))) (hK4 _ _ _ _ h)
set_option maxHeartbeats 4000000 in
set_option maxRecDepth 100000 in
theorem tvX9_gainOf_L4 {cy : Nat → ClassId} {ad : Nat → Nat} {n : Nat} {D : va_G} {A : Nat → Prop} {l : Launch} {p : Program} {e : Env} {s : State} {m : MethodId} {args : Array Value} {below : List Frame} {meth : Method} {c : Code} {Q : Int32 → St → Prop} (hn : 17 ≤ n) (hc : CX p s m args c D cy cX9_gainOf 5 RX9 wsX9_gainOf) (hr : meth.sig.returnType = some .int) (hlk : meth.locks = false) : ∀ (q4 : Nat) (σ : St) (x1 : Int32) (x2 : Int32) (x3 : Int32), vX9_gainOf_L4 Q q4 σ x1 x2 x3 → WV TR cy ad n D A p l e rmX9_gainOf s m args below meth c 5 (MQ below (va_Qi Q (Bw TR cy ad n D) A) args s 0 0 A) σ [some (.ref (ad 0)), some (.int x1), some (.int x2), some (.int x3), none] [] 4 := by
  intro q4
  induction q4 with
  | zero =>
    intro σ x1 x2 x3 h
    exact h.elim
  | succ q4 ih =>
    intro σ x1 x2 x3 h
    unfold vX9_gainOf_L4 at h
    refine r_iload_n hc dX9_gainOf_4 rfl ?_
    refine r_aload_n hc dX9_gainOf_5 rfl ?_
    refine r_callVi hc (zX9_all hn σ) h (Nat.lt_of_lt_of_le (by decide) hn) rfl rfl rfl (cwV 0 hc.2.2.2.2.1 gX9_gainOf_X9_all rfl rfl rfl qX9_all ⟨Nat.le_of_ble_eq_true rfl, Nat.le_of_ble_eq_true rfl⟩) rfl rfl (Nat.le_of_ble_eq_true rfl) dX9_gainOf_6 (fun r2 σ1 h => ?_)
    refine r_icmp_ge (tgt := 66) hc dX9_gainOf_9 (by decide) (fun hq5 => ?_) (fun hq5 => ?_)
    · replace h := h.1 hq5
      refine r_aload_n hc dX9_gainOf_66 rfl ?_
      refine r_get (v := .ref (ad 10)) hc iX9_gainOf_X9 (Nat.lt_of_lt_of_le (by decide) hn) rfl rfl rfl 12 (by decide) fX9_gainOf_38 rfl dX9_gainOf_67 ?_
      refine r_iload_n hc dX9_gainOf_70 rfl ?_
      refine r_zald hc (Nat.lt_of_lt_of_le (by decide) hn) rfl rfl h.1 dX9_gainOf_71 ?_
      replace h := h.2
      refine r_if_eq (tgt := 79) hc dX9_gainOf_72 (by decide) (fun hq3 => ?_) (fun hq3 => ?_)
      · replace h := h.1 hq3
        refine r_iload_n hc dX9_gainOf_79 rfl ?_
        exact e_i hc hr hlk h dX9_gainOf_80
      · replace h := h.2 hq3
        refine r_iconst (v := 0) hc dX9_gainOf_75 (by decide) ?_
        refine r_goto (tgt := 80) hc dX9_gainOf_76 (by decide) ?_
        exact e_i hc hr hlk h dX9_gainOf_80
    · replace h := h.2 hq5
      refine r_aload_n hc dX9_gainOf_12 rfl ?_
      refine r_get (v := .ref (ad 15)) hc iX9_gainOf_X9 (Nat.lt_of_lt_of_le (by decide) hn) rfl rfl rfl 19 (by decide) fX9_gainOf_54 rfl dX9_gainOf_13 ?_
      refine r_sipush (v := 256) hc dX9_gainOf_16 (by decide) ?_
      refine r_iload_n hc dX9_gainOf_19 rfl ?_
      refine r_imul hc dX9_gainOf_20 ?_
      refine r_iload_n hc dX9_gainOf_21 rfl ?_
      refine r_iadd hc dX9_gainOf_22 ?_
      refine r_zald hc (Nat.lt_of_lt_of_le (by decide) hn) rfl rfl h.1 dX9_gainOf_23 ?_
      replace h := h.2
      refine r_if_eq (tgt := 43) hc dX9_gainOf_24 (by decide) (fun hq4 => ?_) (fun hq4 => ?_)
      · replace h := h.1 hq4
        refine r_iconst (v := 0) hc dX9_gainOf_43 (by decide) ?_
        exact r_weak (wk (wk (wk (wk (wn w0))))) (tvX9_gainOf_J44 hn hc hr hlk ih _ _ _ _ _ h)
      · replace h := h.2 hq4
        refine r_aload_n hc dX9_gainOf_27 rfl ?_
        refine r_get (v := .ref (ad 16)) hc iX9_gainOf_X9 (Nat.lt_of_lt_of_le (by decide) hn) rfl rfl rfl 20 (by decide) fX9_gainOf_57 rfl dX9_gainOf_28 ?_
        refine r_iload_n hc dX9_gainOf_31 rfl ?_
        refine r_iald hc (Nat.lt_of_lt_of_le (by decide) hn) rfl rfl h.1 dX9_gainOf_32 ?_
        replace h := h.2
        refine r_aload_n hc dX9_gainOf_33 rfl ?_
        refine r_get (v := .ref (ad 14)) hc iX9_gainOf_X9 (Nat.lt_of_lt_of_le (by decide) hn) rfl rfl rfl 18 (by decide) fX9_gainOf_50 rfl dX9_gainOf_34 ?_
        refine r_iload_n hc dX9_gainOf_37 rfl ?_
        refine r_iald hc (Nat.lt_of_lt_of_le (by decide) hn) rfl rfl h.1 dX9_gainOf_38 ?_
        replace h := h.2
        refine r_isub hc dX9_gainOf_39 ?_
        refine r_goto (tgt := 44) hc dX9_gainOf_40 (by decide) ?_
        exact r_weak (wk (wk (wk (wk (wn w0))))) (tvX9_gainOf_J44 hn hc hr hlk ih _ _ _ _ _ h)
set_option maxHeartbeats 4000000 in
set_option maxRecDepth 100000 in
theorem zX9_gainOf {cy : Nat → ClassId} {ad : Nat → Nat} {n : Nat} {D : va_G} {A : Nat → Prop} {l : Launch} (hn : 17 ≤ n) (σ : St) (x1 : Int32) : Ci TR cy ad n D A l yX9_gainOf wsX9_gainOf rmX9_gainOf σ [.ref (ad 0), .int x1] (fun Q => vX9_gainOf Q σ x1) := by
  intro Q h
  refine startW (cc := cX9_gainOf) (nL := 5) (own := RX9) (lo := [some (.ref (ad 0)), some (.int x1), none, none, none]) (by decide) rfl rfl (lo_start (av := [.ref (ad 0), .int x1]) (k := 3) (allc1_ok (l := [.ref (ad 0), .int x1]) trivial)) (Nat.le_of_ble_eq_true rfl) (fun p e s m args below meth c hc hr hlk => ?_)
  unfold vX9_gainOf at h
  refine r_iconst (v := 0) hc dX9_gainOf_0 (by decide) ?_
  refine r_istore_n hc dX9_gainOf_1 rfl (by decide) (ss (s1 trivial)) ?_
  refine r_iconst (v := 0) hc dX9_gainOf_2 (by decide) ?_
  refine r_istore_n hc dX9_gainOf_3 rfl (by decide) (ss (ss (s1 trivial))) ?_
  obtain ⟨e4, h⟩ := h
  exact r_weak (wk (wk (wk (wk (wn w0))))) (tvX9_gainOf_L4 hn hc hr hlk e4 _ _ _ _ h)
theorem iX9_keepNone_X9 : ∀ w ∈ u_ws RX9 TX9 25, w ∈ wsX9_keepNone := by decide +kernel
theorem fX9_keepNone_38 : Cond.fieldLink RX9 38 (TX9 12).1 (TX9 12).2.1 (TX9 12).2.2.1 ∈ wsX9_keepNone := by decide +kernel
set_option maxHeartbeats 4000000 in
set_option maxRecDepth 100000 in
theorem tvX9_keepNone_L2 {cy : Nat → ClassId} {ad : Nat → Nat} {n : Nat} {D : va_G} {A : Nat → Prop} {l : Launch} {p : Program} {e : Env} {s : State} {m : MethodId} {args : Array Value} {below : List Frame} {meth : Method} {c : Code} {Q : St → Prop} (hn : 17 ≤ n) (hc : CX p s m args c D cy cX9_keepNone 2 RX9 wsX9_keepNone) (hr : meth.sig.returnType = none) (hlk : meth.locks = false) : ∀ (q2 : Nat) (σ : St) (x1 : Int32), vX9_keepNone_L2 Q q2 σ x1 → WV TR cy ad n D A p l e rmX9_keepNone s m args below meth c 2 (MQ below (va_Qv Q (Bw TR cy ad n D) A) args s 0 0 A) σ [some (.ref (ad 0)), some (.int x1)] [] 2 := by
  intro q2
  induction q2 with
  | zero =>
    intro σ x1 h
    exact h.elim
  | succ q2 ih =>
    intro σ x1 h
    unfold vX9_keepNone_L2 at h
    refine r_iload_n hc dX9_keepNone_2 rfl ?_
    refine r_sipush (v := 256) hc dX9_keepNone_3 (by decide) ?_
    refine r_icmp_ge (tgt := 30) hc dX9_keepNone_6 (by decide) (fun hq2 => ?_) (fun hq2 => ?_)
    · replace h := h.1 hq2
      exact e_v hc hr hlk h dX9_keepNone_30
    · replace h := h.2 hq2
      refine r_aload_n hc dX9_keepNone_9 rfl ?_
      refine r_get (v := .ref (ad 10)) hc iX9_keepNone_X9 (Nat.lt_of_lt_of_le (by decide) hn) rfl rfl rfl 12 (by decide) fX9_keepNone_38 rfl dX9_keepNone_10 ?_
      refine r_iload_n hc dX9_keepNone_13 rfl ?_
      refine r_iload_n hc dX9_keepNone_14 rfl ?_
      refine r_if_ne (tgt := 22) hc dX9_keepNone_15 (by decide) (fun hq1 => ?_) (fun hq1 => ?_)
      · replace h := h.1 hq1
        refine r_iconst (v := 1) hc dX9_keepNone_18 (by decide) ?_
        refine r_goto (tgt := 23) hc dX9_keepNone_19 (by decide) ?_
        refine r_zast hc (Nat.lt_of_lt_of_le (by decide) hn) rfl rfl h.1 dX9_keepNone_23 ?_
        replace h := h.2
        refine r_iinc (v := x1 + 1) hc dX9_keepNone_24 rfl rfl (by decide) (s1 trivial) ?_
        refine r_goto (tgt := 2) hc dX9_keepNone_27 (by decide) ?_
        exact r_weak (wk (wk w0)) (ih _ _ h)
      · replace h := h.2 hq1
        refine r_iconst (v := 0) hc dX9_keepNone_22 (by decide) ?_
        refine r_zast hc (Nat.lt_of_lt_of_le (by decide) hn) rfl rfl h.1 dX9_keepNone_23 ?_
        replace h := h.2
        refine r_iinc (v := x1 + 1) hc dX9_keepNone_24 rfl rfl (by decide) (s1 trivial) ?_
        refine r_goto (tgt := 2) hc dX9_keepNone_27 (by decide) ?_
        exact r_weak (wk (wk w0)) (ih _ _ h)
set_option maxHeartbeats 4000000 in
set_option maxRecDepth 100000 in
theorem zX9_keepNone {cy : Nat → ClassId} {ad : Nat → Nat} {n : Nat} {D : va_G} {A : Nat → Prop} {l : Launch} (hn : 17 ≤ n) (σ : St) : Cv TR cy ad n D A l yX9_keepNone wsX9_keepNone rmX9_keepNone σ [.ref (ad 0)] (fun Q => vX9_keepNone Q σ ) := by
  intro Q h
  refine startW (cc := cX9_keepNone) (nL := 2) (own := RX9) (lo := [some (.ref (ad 0)), none]) (by decide) rfl rfl (lo_start (av := [.ref (ad 0)]) (k := 1) (allc1_ok (l := [.ref (ad 0)]) trivial)) (Nat.le_of_ble_eq_true rfl) (fun p e s m args below meth c hc hr hlk => ?_)
  unfold vX9_keepNone at h
  refine r_iconst (v := 0) hc dX9_keepNone_0 (by decide) ?_
  refine r_istore_n hc dX9_keepNone_1 rfl (by decide) (s1 trivial) ?_
  obtain ⟨e2, h⟩ := h
  exact r_weak (wk (wk w0)) (tvX9_keepNone_L2 hn hc hr hlk e2 _ _ h)

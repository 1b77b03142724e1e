set_option maxHeartbeats 4000000 in
set_option maxRecDepth 100000 in
theorem tvJ7_fill_53178_L5 {cy : Nat → ClassId} {ad : Nat → Nat} {n : Nat} {D : va_G} {A : Nat → Prop} {l : Launch} {p : Program} {e : Env} {s : State} {m : MethodId} {args : Array Value} {below : List Frame} {meth : Method} {c : Code} {b : Nat} {a0 : Nat} {Q : St → Prop} (hn : b ≤ n) (hc : CX p s m args c D cy cJ7_fill_53178 4 RJ7 wsJ7_fill_53178) (hr : meth.sig.returnType = none) (hlk : meth.locks = false) : ∀ (q5 : Nat) (σ : St) (x1 : Int32) (x2 : Int32) (x3 : Int32), vJ7_fill_53178_L5 b a0 Q q5 σ x1 x2 x3 → WV TC cy ad n D A p l e rmJ7_fill_53178 s m args below meth c 4 (MQ below (va_Qv Q (Bw TC cy ad n D) A) args s 0 0 A) σ [some (.ref (ad a0)), some (.int x1), some (.int x2), some (.int x3)] [] 5 := by
  intro q5
  induction q5 with
  | zero =>
    intro σ x1 x2 x3 h
    exact h.elim
  | succ q5 ih =>
    intro σ x1 x2 x3 h
    unfold vJ7_fill_53178_L5 at h
    refine r_iload_n hc dJ7_fill_53178_5 rfl ?_
    refine r_iload_n hc dJ7_fill_53178_6 rfl ?_
    refine r_icmp_ge (tgt := 20) hc dJ7_fill_53178_7 (by decide) (fun hq1 => ?_) (fun hq1 => ?_)
    · replace h := h.1 hq1
      exact e_v hc hr hlk h dJ7_fill_53178_20
    · replace h := h.2 hq1
      refine r_aload_n hc dJ7_fill_53178_10 rfl ?_
      refine r_iload_n hc dJ7_fill_53178_11 rfl ?_
      refine r_iload_n hc dJ7_fill_53178_12 rfl ?_
      refine r_iast hc (Nat.lt_of_lt_of_le h.1.2 hn) h.1.1 rfl h.2.1 dJ7_fill_53178_13 ?_
      replace h := h.2.2
      refine r_iinc (v := x2 + 1) hc dJ7_fill_53178_14 rfl rfl (by decide) (ss (s1 trivial)) ?_
      refine r_goto (tgt := 5) hc dJ7_fill_53178_17 (by decide) ?_
      exact r_weak (wk (wk (wk (wk w0)))) (ih _ _ _ _ h)
set_option maxHeartbeats 4000000 in
set_option maxRecDepth 100000 in
theorem zJ7_fill_53178 {cy : Nat → ClassId} {ad : Nat → Nat} {n : Nat} {D : va_G} {A : Nat → Prop} {l : Launch} {b : Nat} (hn : b ≤ n) (σ : St) (a0 : Nat) (x1 : Int32) : Cv TC cy ad n D A l yJ7_fill_53178 wsJ7_fill_53178 rmJ7_fill_53178 σ [.ref (ad a0), .int x1] (fun Q => vJ7_fill_53178 b a0 Q σ x1) := by
  intro Q h
  refine startW (cc := cJ7_fill_53178) (nL := 4) (own := RJ7) (lo := [some (.ref (ad a0)), some (.int x1), none, none]) (by decide) rfl rfl (lo_start (av := [.ref (ad a0), .int x1]) (k := 2) (allc1_ok (l := [.ref (ad a0), .int x1]) trivial)) (Nat.le_of_ble_eq_true rfl) (fun p e s m args below meth c hc hr hlk => ?_)
  unfold vJ7_fill_53178 at h
  refine r_iconst (v := 0) hc dJ7_fill_53178_0 (by decide) ?_
  refine r_istore_n hc dJ7_fill_53178_1 rfl (by decide) (ss (s1 trivial)) ?_
  refine r_aload_n hc dJ7_fill_53178_2 rfl ?_
  refine r_alen hc (Nat.lt_of_lt_of_le h.1.2 hn) h.1.1 rfl dJ7_fill_53178_3 ?_
  replace h := h.2
  refine r_istore_n hc dJ7_fill_53178_4 rfl (by decide) (ss (ss (s1 trivial))) ?_
  obtain ⟨e5, h⟩ := h
  exact r_weak (wk (wk (wk (wk w0)))) (tvJ7_fill_53178_L5 (b := b) (a0 := a0) hn hc hr hlk e5 _ _ _ _ h)
set_option maxHeartbeats 4000000 in
set_option maxRecDepth 100000 in
theorem tvJ7_fill_d0a16_L6 {cy : Nat → ClassId} {ad : Nat → Nat} {n : Nat} {D : va_G} {A : Nat → Prop} {l : Launch} {p : Program} {e : Env} {s : State} {m : MethodId} {args : Array Value} {below : List Frame} {meth : Method} {c : Code} {b : Nat} {a0 : Nat} {Q : St → Prop} (hn : b ≤ n) (hc : CX p s m args c D cy cJ7_fill_d0a16 5 RJ7 wsJ7_fill_d0a16) (hr : meth.sig.returnType = none) (hlk : meth.locks = false) : ∀ (q6 : Nat) (σ : St) (x1 : Int64) (x3 : Int32) (x4 : Int32), vJ7_fill_d0a16_L6 b a0 Q q6 σ x1 x3 x4 → WV TC cy ad n D A p l e rmJ7_fill_d0a16 s m args below meth c 5 (MQ below (va_Qv Q (Bw TC cy ad n D) A) args s 0 0 A) σ [some (.ref (ad a0)), some (.long x1), none, some (.int x3), some (.int x4)] [] 6 := by
  intro q6
  induction q6 with
  | zero =>
    intro σ x1 x3 x4 h
    exact h.elim
  | succ q6 ih =>
    intro σ x1 x3 x4 h
    unfold vJ7_fill_d0a16_L6 at h
    refine r_iload_n hc dJ7_fill_d0a16_6 rfl ?_
    refine r_iload hc dJ7_fill_d0a16_7 rfl ?_
    refine r_icmp_ge (tgt := 22) hc dJ7_fill_d0a16_9 (by decide) (fun hq1 => ?_) (fun hq1 => ?_)
    · replace h := h.1 hq1
      exact e_v hc hr hlk h dJ7_fill_d0a16_22
    · replace h := h.2 hq1
      refine r_aload_n hc dJ7_fill_d0a16_12 rfl ?_
      refine r_iload_n hc dJ7_fill_d0a16_13 rfl ?_
      refine r_lload_n hc dJ7_fill_d0a16_14 rfl ?_
      refine r_last hc (Nat.lt_of_lt_of_le h.1.2 hn) h.1.1 rfl h.2.1 dJ7_fill_d0a16_15 ?_
      replace h := h.2.2
      refine r_iinc (v := x3 + 1) hc dJ7_fill_d0a16_16 rfl rfl (by decide) (ss (ss (s1 trivial))) ?_
      refine r_goto (tgt := 6) hc dJ7_fill_d0a16_19 (by decide) ?_
      exact r_weak (wk (wk (wn (wk (wk w0))))) (ih _ _ _ _ h)
set_option maxHeartbeats 4000000 in
set_option maxRecDepth 100000 in
theorem zJ7_fill_d0a16 {cy : Nat → ClassId} {ad : Nat → Nat} {n : Nat} {D : va_G} {A : Nat → Prop} {l : Launch} {b : Nat} (hn : b ≤ n) (σ : St) (a0 : Nat) (x1 : Int64) : Cv TC cy ad n D A l yJ7_fill_d0a16 wsJ7_fill_d0a16 rmJ7_fill_d0a16 σ [.ref (ad a0), .long x1] (fun Q => vJ7_fill_d0a16 b a0 Q σ x1) := by
  intro Q h
  refine startW (cc := cJ7_fill_d0a16) (nL := 5) (own := RJ7) (lo := [some (.ref (ad a0)), some (.long x1), none, none, none]) (by decide) rfl rfl (by intro i v h; rcases i with _ | _ | _ | _ | _ | i <;> simp at h <;> subst h <;> simp [lv_args, Value.category]) (Nat.le_of_ble_eq_true rfl) (fun p e s m args below meth c hc hr hlk => ?_)
  unfold vJ7_fill_d0a16 at h
  refine r_iconst (v := 0) hc dJ7_fill_d0a16_0 (by decide) ?_
  refine r_istore_n hc dJ7_fill_d0a16_1 rfl (by decide) (ss (ss (s1 trivial))) ?_
  refine r_aload_n hc dJ7_fill_d0a16_2 rfl ?_
  refine r_alenJ hc (Nat.lt_of_lt_of_le h.1.2 hn) h.1.1 rfl dJ7_fill_d0a16_3 ?_
  replace h := h.2
  refine r_istore hc dJ7_fill_d0a16_4 (by decide) (ss (ss (ss (s1 trivial)))) ?_
  obtain ⟨e6, h⟩ := h
  exact r_weak (wk (wk (wn (wk (wk w0))))) (tvJ7_fill_d0a16_L6 (b := b) (a0 := a0) hn hc hr hlk e6 _ _ _ _ h)
theorem iX4_has_X4 : ∀ w ∈ u_ws RX4 TX4 8, w ∈ wsX4_has := by decide +kernel
theorem fX4_has_55 : Cond.fieldLink RX4 55 (TX4 7).1 (TX4 7).2.1 (TX4 7).2.2.1 ∈ wsX4_has := by decide +kernel
set_option maxHeartbeats 4000000 in
set_option maxRecDepth 100000 in
theorem zX4_has {cy : Nat → ClassId} {ad : Nat → Nat} {n : Nat} {D : va_G} {A : Nat → Prop} {l : Launch} (hn : 49 ≤ n) (σ : St) (x1 : Int32) : Ci TC cy ad n D A l yX4_has wsX4_has rmX4_has σ [.ref (ad 22), .int x1] (fun Q => vX4_has Q σ x1) := by
  intro Q h
  refine startW (cc := cX4_has) (nL := 2) (own := RX4) (lo := [some (.ref (ad 22)), some (.int x1)]) (by decide) rfl rfl (lo_start (av := [.ref (ad 22), .int x1]) (k := 0) (allc1_ok (l := [.ref (ad 22), .int x1]) trivial)) (Nat.le_of_ble_eq_true rfl) (fun p e s m args below meth c hc hr hlk => ?_)
  unfold vX4_has at h
  refine r_iload_n hc dX4_has_0 rfl ?_
  refine r_if_lt (tgt := 16) hc dX4_has_1 (by decide) (fun hq2 => ?_) (fun hq2 => ?_)
  · replace h := h.1 hq2
    refine r_iconst (v := 0) hc dX4_has_16 (by decide) ?_
    exact e_z hc hr hlk (by decide) h dX4_has_17
  · replace h := h.2 hq2
    refine r_iload_n hc dX4_has_4 rfl ?_
    refine r_aload_n hc dX4_has_5 rfl ?_
    refine r_get (v := .int (rd σ 22 7)) hc iX4_has_X4 (Nat.lt_of_lt_of_le (by decide) hn) rfl rfl rfl 7 (by decide) fX4_has_55 rfl dX4_has_6 ?_
    refine r_icmp_ge (tgt := 16) hc dX4_has_9 (by decide) (fun hq1 => ?_) (fun hq1 => ?_)
    · replace h := h.1 hq1
      refine r_iconst (v := 0) hc dX4_has_16 (by decide) ?_
      exact e_z hc hr hlk (by decide) h dX4_has_17
    · replace h := h.2 hq1
      refine r_iconst (v := 1) hc dX4_has_12 (by decide) ?_
      refine r_goto (tgt := 17) hc dX4_has_13 (by decide) ?_
      exact e_z hc hr hlk (by decide) h dX4_has_17
theorem oX6_isNowhereAbove_33 : Jvm.Cond.constant RX6 33 (34952) ∈ wsX6_isNowhereAbove := by decide +kernel
set_option maxHeartbeats 4000000 in
set_option maxRecDepth 100000 in
theorem zX6_isNowhereAbove {cy : Nat → ClassId} {ad : Nat → Nat} {n : Nat} {D : va_G} {A : Nat → Prop} {l : Launch} (hn : 29 ≤ n) (σ : St) (x0 : Int32) (x1 : Int32) : Ci TC cy ad n D A l yX6_isNowhereAbove wsX6_isNowhereAbove rmX6_isNowhereAbove σ [.int x0, .int x1] (fun Q => vX6_isNowhereAbove Q σ x0 x1) := by
  intro Q h
  refine startW (cc := cX6_isNowhereAbove) (nL := 2) (own := RX6) (lo := [some (.int x0), some (.int x1)]) (by decide) rfl rfl (lo_start (av := [.int x0, .int x1]) (k := 0) (allc1_ok (l := [.int x0, .int x1]) trivial)) (Nat.le_of_ble_eq_true rfl) (fun p e s m args below meth c hc hr hlk => ?_)
  unfold vX6_isNowhereAbove at h
  refine r_iload_n hc dX6_isNowhereAbove_0 rfl ?_
  refine r_ldc (v := 34952) hc dX6_isNowhereAbove_1 oX6_isNowhereAbove_33 ?_
  refine r_ior hc dX6_isNowhereAbove_3 ?_
  refine r_iload_n hc dX6_isNowhereAbove_4 rfl ?_
  refine r_isub hc dX6_isNowhereAbove_5 ?_
  refine r_ldc (v := 34952) hc dX6_isNowhereAbove_6 oX6_isNowhereAbove_33 ?_
  refine r_iand hc dX6_isNowhereAbove_8 ?_
  refine r_ldc (v := 34952) hc dX6_isNowhereAbove_9 oX6_isNowhereAbove_33 ?_
  refine r_icmp_ne (tgt := 18) hc dX6_isNowhereAbove_11 (by decide) (fun hq1 => ?_) (fun hq1 => ?_)
  · replace h := h.1 hq1
    refine r_iconst (v := 1) hc dX6_isNowhereAbove_14 (by decide) ?_
    refine r_goto (tgt := 19) hc dX6_isNowhereAbove_15 (by decide) ?_
    exact e_z hc hr hlk (by decide) h dX6_isNowhereAbove_19
  · replace h := h.2 hq1
    refine r_iconst (v := 0) hc dX6_isNowhereAbove_18 (by decide) ?_
    exact e_z hc hr hlk (by decide) h dX6_isNowhereAbove_19
theorem iX4_lower_X4 : ∀ w ∈ u_ws RX4 TX4 8, w ∈ wsX4_lower := by decide +kernel
theorem fX4_lower_55 : Cond.fieldLink RX4 55 (TX4 7).1 (TX4 7).2.1 (TX4 7).2.2.1 ∈ wsX4_lower := by decide +kernel
theorem fX4_lower_9 : Cond.fieldLink RX4 9 (TX4 2).1 (TX4 2).2.1 (TX4 2).2.2.1 ∈ wsX4_lower := by decide +kernel
theorem fX4_lower_15 : Cond.fieldLink RX4 15 (TX4 3).1 (TX4 3).2.1 (TX4 3).2.2.1 ∈ wsX4_lower := by decide +kernel
theorem mX4_lower_49 : Cond.methodLink RX4 49 Lib.Math.min.name ∈ wsX4_lower ∧ Cond.static Lib.Math.min.name ∈ wsX4_lower ∧ Cond.initialized "java/lang/Math" ∈ wsX4_lower ∧ Cond.code Lib.Math.min.name Lib.Math.min.code 2 (some .int) ∈ wsX4_lower := ⟨by decide +kernel, by decide +kernel, by decide +kernel, by decide +kernel⟩
set_option maxHeartbeats 4000000 in
set_option maxRecDepth 100000 in
theorem tvX4_lower_L12 {cy : Nat → ClassId} {ad : Nat → Nat} {n : Nat} {D : va_G} {A : Nat → Prop} {l : Launch} {p : Program} {e : Env} {s : State} {m : MethodId} {args : Array Value} {below : List Frame} {meth : Method} {c : Code} {a1 : Nat} {a2 : Nat} {Q : St → Prop} (hn : 49 ≤ n) (hc : CX p s m args c D cy cX4_lower 6 RX4 wsX4_lower) (hr : meth.sig.returnType = none) (hlk : meth.locks = false) : ∀ (q12 : Nat) (σ : St) (x3 : Int32) (x4 : Int32), vX4_lower_L12 a1 a2 Q q12 σ x3 x4 → WV TC cy ad n D A p l e rmX4_lower s m args below meth c 6 (MQ below (va_Qv Q (Bw TC cy ad n D) A) args s 0 0 A) σ [some (.ref (ad 22)), some (.ref (ad a1)), some (.ref (ad a2)), some (.int x3), some (.int x4), none] [] 12 := by
  intro q12
  induction q12 with
  | zero =>
    intro σ x3 x4 h
    exact h.elim
  | succ q12 ih =>
    intro σ x3 x4 h
    unfold vX4_lower_L12 at h
    refine r_iload hc dX4_lower_12 rfl ?_
    refine r_aload_n hc dX4_lower_14 rfl ?_
    refine r_get (v := .int (rd σ 22 7)) hc iX4_lower_X4 (Nat.lt_of_lt_of_le (by decide) hn) rfl rfl rfl 7 (by decide) fX4_lower_55 rfl dX4_lower_15 ?_
    refine r_icmp_ge (tgt := 88) hc dX4_lower_18 (by decide) (fun hq9 => ?_) (fun hq9 => ?_)
    · replace h := h.1 hq9
      exact e_v hc hr hlk h dX4_lower_88
    · replace h := h.2 hq9
      refine r_iload hc dX4_lower_21 rfl ?_
      refine r_aload_n hc dX4_lower_23 rfl ?_
      refine r_alen hc (Nat.lt_of_lt_of_le h.1.2 hn) h.1.1 rfl dX4_lower_24 ?_
      replace h := h.2
      refine r_icmp_ge (tgt := 88) hc dX4_lower_25 (by decide) (fun hq8 => ?_) (fun hq8 => ?_)
      · replace h := h.1 hq8
        exact e_v hc hr hlk h dX4_lower_88
      · replace h := h.2 hq8
        refine r_iload hc dX4_lower_28 rfl ?_
        refine r_aload_n hc dX4_lower_30 rfl ?_
        refine r_alen hc (Nat.lt_of_lt_of_le h.1.2 hn) h.1.1 rfl dX4_lower_31 ?_
        replace h := h.2
        refine r_icmp_ge (tgt := 88) hc dX4_lower_32 (by decide) (fun hq7 => ?_) (fun hq7 => ?_)
        · replace h := h.1 hq7
          exact e_v hc hr hlk h dX4_lower_88
        · replace h := h.2 hq7
          refine r_aload_n hc dX4_lower_35 rfl ?_
          refine r_get (v := .ref (ad 23)) hc iX4_lower_X4 (Nat.lt_of_lt_of_le (by decide) hn) rfl rfl rfl 2 (by decide) fX4_lower_9 rfl dX4_lower_36 ?_
          refine r_iload_n hc dX4_lower_39 rfl ?_
          refine r_iald hc (Nat.lt_of_lt_of_le (by decide) hn) rfl rfl h.1 dX4_lower_40 ?_
          replace h := h.2
          refine r_aload_n hc dX4_lower_41 rfl ?_
          refine r_get (v := .ref (ad 23)) hc iX4_lower_X4 (Nat.lt_of_lt_of_le (by decide) hn) rfl rfl rfl 2 (by decide) fX4_lower_9 rfl dX4_lower_42 ?_
          refine r_iload hc dX4_lower_45 rfl ?_
          refine r_iald hc (Nat.lt_of_lt_of_le (by decide) hn) rfl rfl h.1 dX4_lower_47 ?_
          replace h := h.2
          refine r_callSi hc (zX6_isNowhereAbove (Nat.le_trans (by decide) hn) σ (rd σ 23 x3.toNatClampNeg) (rd σ 23 x4.toNatClampNeg)) h (va_cwS 2 hc.2.2.2.2.1 gX4_lower_X6_isNowhereAbove rfl rfl rfl qX6_isNowhereAbove ⟨Nat.le_of_ble_eq_true rfl, Nat.le_of_ble_eq_true rfl⟩) rfl rfl (Nat.le_of_ble_eq_true rfl) dX4_lower_48 (fun r5 σ4 h => ?_)
          refine r_istore hc dX4_lower_51 (by decide) (ss (ss (ss (ss (s1 trivial))))) ?_
          refine r_aload_n hc dX4_lower_53 rfl ?_
          refine r_iload hc dX4_lower_54 rfl ?_
          refine r_iload hc dX4_lower_56 rfl ?_
          refine r_if_eq (tgt := 77) hc dX4_lower_58 (by decide) (fun hq6 => ?_) (fun hq6 => ?_)
          · replace h := h.1 hq6
            refine r_aload_n hc dX4_lower_77 rfl ?_
            refine r_iload hc dX4_lower_78 rfl ?_
            refine r_iald hc (Nat.lt_of_lt_of_le h.1.2 hn) h.1.1 rfl h.2.1 dX4_lower_80 ?_
            replace h := h.2.2
            refine r_iast hc (Nat.lt_of_lt_of_le h.1.2 hn) h.1.1 rfl h.2.1 dX4_lower_81 ?_
            replace h := h.2.2
            refine r_iinc (v := x4 + 1) hc dX4_lower_82 rfl rfl (by decide) (ss (ss (ss (s1 trivial)))) ?_
            refine r_goto (tgt := 12) hc dX4_lower_85 (by decide) ?_
            exact r_weak (wk (wk (wk (wk (wk (wn w0)))))) (ih _ _ _ h)
          · replace h := h.2 hq6
            refine r_aload_n hc dX4_lower_61 rfl ?_
            refine r_iload hc dX4_lower_62 rfl ?_
            refine r_iald hc (Nat.lt_of_lt_of_le h.1.2 hn) h.1.1 rfl h.2.1 dX4_lower_64 ?_
            replace h := h.2.2
            refine r_aload_n hc dX4_lower_65 rfl ?_
            refine r_get (v := .ref (ad 24)) hc iX4_lower_X4 (Nat.lt_of_lt_of_le (by decide) hn) rfl rfl rfl 3 (by decide) fX4_lower_15 rfl dX4_lower_66 ?_
            refine r_iload_n hc dX4_lower_69 rfl ?_
            refine r_iald hc (Nat.lt_of_lt_of_le (by decide) hn) rfl rfl h.1 dX4_lower_70 ?_
            replace h := h.2
            refine r_mmin hc mX4_lower_49.1 mX4_lower_49.2.1 mX4_lower_49.2.2.1 mX4_lower_49.2.2.2 (Nat.le_of_ble_eq_true rfl) (Nat.le_of_ble_eq_true rfl) dX4_lower_71 ?_
            refine r_goto (tgt := 81) hc dX4_lower_74 (by decide) ?_
            refine r_iast hc (Nat.lt_of_lt_of_le h.1.2 hn) h.1.1 rfl h.2.1 dX4_lower_81 ?_
            replace h := h.2.2
            refine r_iinc (v := x4 + 1) hc dX4_lower_82 rfl rfl (by decide) (ss (ss (ss (s1 trivial)))) ?_
            refine r_goto (tgt := 12) hc dX4_lower_85 (by decide) ?_
            exact r_weak (wk (wk (wk (wk (wk (wn w0)))))) (ih _ _ _ h)
set_option maxHeartbeats 4000000 in
set_option maxRecDepth 100000 in
theorem zX4_lower {cy : Nat → ClassId} {ad : Nat → Nat} {n : Nat} {D : va_G} {A : Nat → Prop} {l : Launch} (hn : 49 ≤ n) (σ : St) (a1 : Nat) (a2 : Nat) (x3 : Int32) : Cv TC cy ad n D A l yX4_lower wsX4_lower rmX4_lower σ [.ref (ad 22), .ref (ad a1), .ref (ad a2), .int x3] (fun Q => vX4_lower a1 a2 Q σ x3) := by
  intro Q h
  refine startW (cc := cX4_lower) (nL := 6) (own := RX4) (lo := [some (.ref (ad 22)), some (.ref (ad a1)), some (.ref (ad a2)), some (.int x3), none, none]) (by decide) rfl rfl (lo_start (av := [.ref (ad 22), .ref (ad a1), .ref (ad a2), .int x3]) (k := 2) (allc1_ok (l := [.ref (ad 22), .ref (ad a1), .ref (ad a2), .int x3]) trivial)) (Nat.le_of_ble_eq_true rfl) (fun p e s m args below meth c hc hr hlk => ?_)
  unfold vX4_lower at h
  refine r_aload_n hc dX4_lower_0 rfl ?_
  refine r_iload_n hc dX4_lower_1 rfl ?_
  refine r_callVi hc (zX4_has hn σ x3) h (Nat.lt_of_lt_of_le (by decide) hn) rfl rfl rfl (cwV 1 hc.2.2.2.2.1 gX4_lower_X4_has rfl rfl rfl qX4_has ⟨Nat.le_of_ble_eq_true rfl, Nat.le_of_ble_eq_true rfl⟩) rfl rfl (Nat.le_of_ble_eq_true rfl) dX4_lower_2 (fun r2 σ1 h => ?_)
  refine r_if_ne (tgt := 9) hc dX4_lower_5 (by decide) (fun hq3 => ?_) (fun hq3 => ?_)
  · replace h := h.1 hq3
    exact e_v hc hr hlk h dX4_lower_8
  · replace h := h.2 hq3
    refine r_iconst (v := 0) hc dX4_lower_9 (by decide) ?_
    refine r_istore hc dX4_lower_10 (by decide) (ss (ss (ss (s1 trivial)))) ?_
    obtain ⟨e12, h⟩ := h
    exact r_weak (wk (wk (wk (wk (wk (wn w0)))))) (tvX4_lower_L12 (a1 := a1) (a2 := a2) hn hc hr hlk e12 _ _ _ h)
theorem iX4_sparedBy_X4 : ∀ w ∈ u_ws RX4 TX4 8, w ∈ wsX4_sparedBy := by decide +kernel
theorem fX4_sparedBy_55 : Cond.fieldLink RX4 55 (TX4 7).1 (TX4 7).2.1 (TX4 7).2.2.1 ∈ wsX4_sparedBy := by decide +kernel
theorem fX4_sparedBy_15 : Cond.fieldLink RX4 15 (TX4 3).1 (TX4 3).2.1 (TX4 3).2.2.1 ∈ wsX4_sparedBy := by decide +kernel
theorem fX4_sparedBy_9 : Cond.fieldLink RX4 9 (TX4 2).1 (TX4 2).2.1 (TX4 2).2.2.1 ∈ wsX4_sparedBy := by decide +kernel
set_option maxHeartbeats 4000000 in
set_option maxRecDepth 100000 in
theorem tvX4_sparedBy_L15 {cy : Nat → ClassId} {ad : Nat → Nat} {n : Nat} {D : va_G} {A : Nat → Prop} {l : Launch} {p : Program} {e : Env} {s : State} {m : MethodId} {args : Array Value} {below : List Frame} {meth : Method} {c : Code} {a2 : Nat} {Q : Int32 → St → Prop} (hn : 49 ≤ n) (hc : CX p s m args c D cy cX4_sparedBy 5 RX4 wsX4_sparedBy) (hr : meth.sig.returnType = some .int) (hlk : meth.locks = false) : ∀ (q15 : Nat) (σ : St) (x1 : Int32) (x3 : Int32) (x4 : Int32), vX4_sparedBy_L15 a2 Q q15 σ x1 x3 x4 → WV TC cy ad n D A p l e rmX4_sparedBy s m args below meth c 5 (MQ below (va_Qi Q (Bw TC cy ad n D) A) args s 0 0 A) σ [some (.ref (ad 22)), some (.int x1), some (.ref (ad a2)), some (.int x3), some (.int x4)] [] 15 := by
  intro q15
  induction q15 with
  | zero =>
    intro σ x1 x3 x4 h
    exact h.elim
  | succ q15 ih =>
    intro σ x1 x3 x4 h
    unfold vX4_sparedBy_L15 at h
    refine r_iload hc dX4_sparedBy_15 rfl ?_
    refine r_aload_n hc dX4_sparedBy_17 rfl ?_
    refine r_get (v := .int (rd σ 22 7)) hc iX4_sparedBy_X4 (Nat.lt_of_lt_of_le (by decide) hn) rfl rfl rfl 7 (by decide) fX4_sparedBy_55 rfl dX4_sparedBy_18 ?_
    refine r_icmp_ge (tgt := 83) hc dX4_sparedBy_21 (by decide) (fun hq9 => ?_) (fun hq9 => ?_)
    · replace h := h.1 hq9
      refine r_iload_n hc dX4_sparedBy_83 rfl ?_
      exact e_i hc hr hlk h dX4_sparedBy_84
    · replace h := h.2 hq9
      refine r_iload hc dX4_sparedBy_24 rfl ?_
      refine r_aload_n hc dX4_sparedBy_26 rfl ?_
      refine r_alen hc (Nat.lt_of_lt_of_le h.1.2 hn) h.1.1 rfl dX4_sparedBy_27 ?_
      replace h := h.2
      refine r_icmp_ge (tgt := 83) hc dX4_sparedBy_28 (by decide) (fun hq8 => ?_) (fun hq8 => ?_)
      · replace h := h.1 hq8
        refine r_iload_n hc dX4_sparedBy_83 rfl ?_
        exact e_i hc hr hlk h dX4_sparedBy_84
      · replace h := h.2 hq8
        refine r_aload_n hc dX4_sparedBy_31 rfl ?_
        refine r_iload hc dX4_sparedBy_32 rfl ?_
        refine r_iald hc (Nat.lt_of_lt_of_le h.1.2 hn) h.1.1 rfl h.2.1 dX4_sparedBy_34 ?_
        replace h := h.2.2
        refine r_aload_n hc dX4_sparedBy_35 rfl ?_
        refine r_get (v := .ref (ad 24)) hc iX4_sparedBy_X4 (Nat.lt_of_lt_of_le (by decide) hn) rfl rfl rfl 3 (by decide) fX4_sparedBy_15 rfl dX4_sparedBy_36 ?_
        refine r_iload_n hc dX4_sparedBy_39 rfl ?_
        refine r_iald hc (Nat.lt_of_lt_of_le (by decide) hn) rfl rfl h.1 dX4_sparedBy_40 ?_
        replace h := h.2
        refine r_icmp_le (tgt := 77) hc dX4_sparedBy_41 (by decide) (fun hq7 => ?_) (fun hq7 => ?_)
        · replace h := h.1 hq7
          refine r_iinc (v := x4 + 1) hc dX4_sparedBy_77 rfl rfl (by decide) (ss (ss (ss (s1 trivial)))) ?_
          refine r_goto (tgt := 15) hc dX4_sparedBy_80 (by decide) ?_
          exact r_weak (wk (wk (wk (wk (wk w0))))) (ih _ _ _ _ h)
        · replace h := h.2 hq7
          refine r_aload_n hc dX4_sparedBy_44 rfl ?_
          refine r_get (v := .ref (ad 23)) hc iX4_sparedBy_X4 (Nat.lt_of_lt_of_le (by decide) hn) rfl rfl rfl 2 (by decide) fX4_sparedBy_9 rfl dX4_sparedBy_45 ?_
          refine r_iload_n hc dX4_sparedBy_48 rfl ?_
          refine r_iald hc (Nat.lt_of_lt_of_le (by decide) hn) rfl rfl h.1 dX4_sparedBy_49 ?_
          replace h := h.2
          refine r_aload_n hc dX4_sparedBy_50 rfl ?_
          refine r_get (v := .ref (ad 23)) hc iX4_sparedBy_X4 (Nat.lt_of_lt_of_le (by decide) hn) rfl rfl rfl 2 (by decide) fX4_sparedBy_9 rfl dX4_sparedBy_51 ?_
          refine r_iload hc dX4_sparedBy_54 rfl ?_
          refine r_iald hc (Nat.lt_of_lt_of_le (by decide) hn) rfl rfl h.1 dX4_sparedBy_56 ?_
          replace h := h.2
          refine r_callSi hc (zX6_isNowhereAbove (Nat.le_trans (by decide) hn) σ (rd σ 23 x1.toNatClampNeg) (rd σ 23 x4.toNatClampNeg)) h (va_cwS 2 hc.2.2.2.2.1 gX4_sparedBy_X6_isNowhereAbove rfl rfl rfl qX6_isNowhereAbove ⟨Nat.le_of_ble_eq_true rfl, Nat.le_of_ble_eq_true rfl⟩) rfl rfl (Nat.le_of_ble_eq_true rfl) dX4_sparedBy_57 (fun r5 σ4 h => ?_)
          refine r_if_eq (tgt := 77) hc dX4_sparedBy_60 (by decide) (fun hq6 => ?_) (fun hq6 => ?_)
          · replace h := h.1 hq6
            refine r_iinc (v := x4 + 1) hc dX4_sparedBy_77 rfl rfl (by decide) (ss (ss (ss (s1 trivial)))) ?_
            refine r_goto (tgt := 15) hc dX4_sparedBy_80 (by decide) ?_
            exact r_weak (wk (wk (wk (wk (wk w0))))) (ih _ _ _ _ h)
          · replace h := h.2 hq6
            refine r_iload_n hc dX4_sparedBy_63 rfl ?_
            refine r_aload_n hc dX4_sparedBy_64 rfl ?_
            refine r_iload hc dX4_sparedBy_65 rfl ?_
            refine r_iald hc (Nat.lt_of_lt_of_le h.1.2 hn) h.1.1 rfl h.2.1 dX4_sparedBy_67 ?_
            replace h := h.2.2
            refine r_aload_n hc dX4_sparedBy_68 rfl ?_
            refine r_get (v := .ref (ad 24)) hc iX4_sparedBy_X4 (Nat.lt_of_lt_of_le (by decide) hn) rfl rfl rfl 3 (by decide) fX4_sparedBy_15 rfl dX4_sparedBy_69 ?_
            refine r_iload_n hc dX4_sparedBy_72 rfl ?_
            refine r_iald hc (Nat.lt_of_lt_of_le (by decide) hn) rfl rfl h.1 dX4_sparedBy_73 ?_
            replace h := h.2
            refine r_isub hc dX4_sparedBy_74 ?_
            refine r_iadd hc dX4_sparedBy_75 ?_
            refine r_istore_n hc dX4_sparedBy_76 rfl (by decide) (ss (ss (s1 trivial))) ?_
            refine r_iinc (v := x4 + 1) hc dX4_sparedBy_77 rfl rfl (by decide) (ss (ss (ss (s1 trivial)))) ?_
            refine r_goto (tgt := 15) hc dX4_sparedBy_80 (by decide) ?_
            exact r_weak (wk (wk (wk (wk (wk w0))))) (ih _ _ _ _ h)
set_option maxHeartbeats 4000000 in
set_option maxRecDepth 100000 in
theorem zX4_sparedBy {cy : Nat → ClassId} {ad : Nat → Nat} {n : Nat} {D : va_G} {A : Nat → Prop} {l : Launch} (hn : 49 ≤ n) (σ : St) (a2 : Nat) (x1 : Int32) : Ci TC cy ad n D A l yX4_sparedBy wsX4_sparedBy rmX4_sparedBy σ [.ref (ad 22), .int x1, .ref (ad a2)] (fun Q => vX4_sparedBy a2 Q σ x1) := by
  intro Q h
  refine startW (cc := cX4_sparedBy) (nL := 5) (own := RX4) (lo := [some (.ref (ad 22)), some (.int x1), some (.ref (ad a2)), none, none]) (by decide) rfl rfl (lo_start (av := [.ref (ad 22), .int x1, .ref (ad a2)]) (k := 2) (allc1_ok (l := [.ref (ad 22), .int x1, .ref (ad a2)]) trivial)) (Nat.le_of_ble_eq_true rfl) (fun p e s m args below meth c hc hr hlk => ?_)
  unfold vX4_sparedBy at h
  refine r_aload_n hc dX4_sparedBy_0 rfl ?_
  refine r_iload_n hc dX4_sparedBy_1 rfl ?_
  refine r_callVi hc (zX4_has hn σ x1) h (Nat.lt_of_lt_of_le (by decide) hn) rfl rfl rfl (cwV 1 hc.2.2.2.2.1 gX4_sparedBy_X4_has rfl rfl rfl qX4_has ⟨Nat.le_of_ble_eq_true rfl, Nat.le_of_ble_eq_true rfl⟩) rfl rfl (Nat.le_of_ble_eq_true rfl) dX4_sparedBy_2 (fun r2 σ1 h => ?_)
  refine r_if_ne (tgt := 10) hc dX4_sparedBy_5 (by decide) (fun hq3 => ?_) (fun hq3 => ?_)
  · replace h := h.1 hq3
    refine r_iconst (v := 0) hc dX4_sparedBy_8 (by decide) ?_
    exact e_i hc hr hlk h dX4_sparedBy_9
  · replace h := h.2 hq3
    refine r_iconst (v := 0) hc dX4_sparedBy_10 (by decide) ?_
    refine r_istore_n hc dX4_sparedBy_11 rfl (by decide) (ss (ss (s1 trivial))) ?_
    refine r_iload_n hc dX4_sparedBy_12 rfl ?_
    refine r_istore hc dX4_sparedBy_13 (by decide) (ss (ss (ss (s1 trivial)))) ?_
    obtain ⟨e15, h⟩ := h
    exact r_weak (wk (wk (wk (wk (wk w0))))) (tvX4_sparedBy_L15 (a2 := a2) hn hc hr hlk e15 _ _ _ _ h)
theorem iX0_extend_X0 : ∀ w ∈ u_ws RX0 TX0 3, w ∈ wsX0_extend := by decide +kernel
theorem fX0_extend_16 : Cond.fieldLink RX0 16 (TX0 2).1 (TX0 2).2.1 (TX0 2).2.2.1 ∈ wsX0_extend := by decide +kernel
theorem fX0_extend_19 : Cond.fieldLink RX0 19 (TX0 0).1 (TX0 0).2.1 (TX0 0).2.2.1 ∈ wsX0_extend := by decide +kernel
theorem iX0_extend_X4 : ∀ w ∈ u_ws RX4 TX4 8, w ∈ wsX0_extend := by decide +kernel
theorem fX0_extend_33 : (RX0, 33, (TX4 7).1, (TX4 7).2.1, (TX4 7).2.2.1, "CubeDesk") ∈ nestF := by decide +kernel
theorem mX0_extend_37 : Cond.methodLink RX0 37 Lib.Math.min.name ∈ wsX0_extend ∧ Cond.static Lib.Math.min.name ∈ wsX0_extend ∧ Cond.initialized "java/lang/Math" ∈ wsX0_extend ∧ Cond.code Lib.Math.min.name Lib.Math.min.code 2 (some .int) ∈ wsX0_extend := ⟨by decide +kernel, by decide +kernel, by decide +kernel, by decide +kernel⟩
theorem mX0_extend_47 : Cond.methodLink RX0 47 Lib.Math.max.name ∈ wsX0_extend ∧ Cond.static Lib.Math.max.name ∈ wsX0_extend ∧ Cond.initialized "java/lang/Math" ∈ wsX0_extend ∧ Cond.code Lib.Math.max.name Lib.Math.max.code 2 (some .int) ∈ wsX0_extend := ⟨by decide +kernel, by decide +kernel, by decide +kernel, by decide +kernel⟩
theorem fX0_extend_11 : Cond.fieldLink RX0 11 (TX0 1).1 (TX0 1).2.1 (TX0 1).2.2.1 ∈ wsX0_extend := by decide +kernel
set_option maxHeartbeats 4000000 in
set_option maxRecDepth 100000 in
theorem tvX0_extend_L101 {cy : Nat → ClassId} {ad : Nat → Nat} {n : Nat} {D : va_G} {A : Nat → Prop} {l : Launch} {p : Program} {e : Env} {s : State} {m : MethodId} {args : Array Value} {below : List Frame} {meth : Method} {c : Code} {Q : Int32 → St → Prop} (hn : 49 ≤ n) {rm rmE : Room} {E : (Int32 → St → Prop) → St → Int32 → Int32 → Int32 → Int32 → Prop} (hrE : rmE.cells = 0 ∧ rmE.slots = 0 ∧ rmE.frames + 1 ≤ rm.frames ∧ 8 + (11 + 11) + rmE.locals ≤ rm.locals) (hrF : rmX0_extend.frames ≤ rm.frames ∧ rmX0_extend.locals ≤ rm.locals) (hE : ∀ (σ : St) (x1 : Int32) (x2 : Int32) (x3 : Int32) (x4 : Int32), Ci TC cy ad n D A l yX0_extend wsX0_extend rmE σ [.ref (ad 29), .int x1, .int x2, .int x3, .int x4] (fun Q => E Q σ x1 x2 x3 x4)) (hc : CX p s m args c D cy cX0_extend 11 RX0 wsX0_extend) (hr : meth.sig.returnType = some .int) (hlk : meth.locks = false) : ∀ (q101 : Nat) (σ : St) (x1 : Int32) (x3 : Int32) (a5 : Nat) (x6 : Int32) (x7 : Int32) (x8 : Int32) (x9 : Int32), vX0_extend_L101 E Q q101 σ x1 x3 a5 x6 x7 x8 x9 → WV TC cy ad n D A p l e rm s m args below meth c 11 (MQ below (va_Qi Q (Bw TC cy ad n D) A) args s 0 0 A) σ [some (.ref (ad 29)), some (.int x1), none, some (.int x3), none, some (.ref (ad a5)), some (.int x6), some (.int x7), some (.int x8), some (.int x9), none] [] 101 := by
  intro q101
  induction q101 with
  | zero =>
    intro σ x1 x3 a5 x6 x7 x8 x9 h
    exact h.elim
  | succ q101 ih =>
    intro σ x1 x3 a5 x6 x7 x8 x9 h
    unfold vX0_extend_L101 at h
    refine r_iload_n hc dX0_extend_101 rfl ?_
    refine r_iconst (v := 1) hc dX0_extend_102 (by decide) ?_
    refine r_icmp_le (tgt := 182) hc dX0_extend_103 (by decide) (fun hq11 => ?_) (fun hq11 => ?_)
    · replace h := h.1 hq11
      refine r_iload hc dX0_extend_182 rfl ?_
      exact e_i hc hr hlk h dX0_extend_184
    · replace h := h.2 hq11
      refine r_iload hc dX0_extend_106 rfl ?_
      refine r_iload hc dX0_extend_108 rfl ?_
      refine r_icmp_ge (tgt := 182) hc dX0_extend_110 (by decide) (fun hq10 => ?_) (fun hq10 => ?_)
      · replace h := h.1 hq10
        refine r_iload hc dX0_extend_182 rfl ?_
        exact e_i hc hr hlk h dX0_extend_184
      · replace h := h.2 hq10
        refine r_iload_n hc dX0_extend_113 rfl ?_
        refine r_aload hc dX0_extend_114 rfl ?_
        refine r_iload hc dX0_extend_116 rfl ?_
        refine r_iald hc (Nat.lt_of_lt_of_le h.1.2 hn) h.1.1 rfl h.2.1 dX0_extend_118 ?_
        replace h := h.2.2
        refine r_iadd hc dX0_extend_119 ?_
        refine r_istore hc dX0_extend_120 (by decide) (ss (ss (ss (ss (ss (ss (ss (ss (ss (s1 trivial)))))))))) ?_
        refine r_iload hc dX0_extend_122 rfl ?_
        refine r_iload_n hc dX0_extend_124 rfl ?_
        refine r_iconst (v := 1) hc dX0_extend_125 (by decide) ?_
        refine r_isub hc dX0_extend_126 ?_
        refine r_iload hc dX0_extend_127 rfl ?_
        refine r_imul hc dX0_extend_129 ?_
        refine r_iadd hc dX0_extend_130 ?_
        refine r_iload hc dX0_extend_131 rfl ?_
        refine r_icmp_le (tgt := 176) hc dX0_extend_133 (by decide) (fun hq9 => ?_) (fun hq9 => ?_)
        · replace h := h.1 hq9
          refine r_iinc (v := x9 + 1) hc dX0_extend_176 rfl rfl (by decide) (ss (ss (ss (ss (ss (ss (ss (ss (s1 trivial))))))))) ?_
          refine r_goto (tgt := 101) hc dX0_extend_179 (by decide) ?_
          exact r_weak (wk (wk (wn (wk (wn (wk (wk (wk (wk (wk (wn w0))))))))))) (ih _ _ _ _ _ _ _ _ h)
        · replace h := h.2 hq9
          refine r_aload_n hc dX0_extend_136 rfl ?_
          refine r_get (v := .ref (ad 22)) hc iX0_extend_X0 (Nat.lt_of_lt_of_le (by decide) hn) rfl rfl rfl 0 (by decide) fX0_extend_19 rfl dX0_extend_137 ?_
          refine r_aload_n hc dX0_extend_140 rfl ?_
          refine r_get (v := .ref (ad 30)) hc iX0_extend_X0 (Nat.lt_of_lt_of_le (by decide) hn) rfl rfl rfl 1 (by decide) fX0_extend_11 rfl dX0_extend_141 ?_
          refine r_iload_n hc dX0_extend_144 rfl ?_
          refine r_aald6 (q := 31 + x1.toNatClampNeg) hc (Nat.lt_of_lt_of_le (by decide) hn) rfl rfl h.1 rfl dX0_extend_145 ?_
          replace h := h.2
          refine r_aload_n hc dX0_extend_146 rfl ?_
          refine r_get (v := .ref (ad 30)) hc iX0_extend_X0 (Nat.lt_of_lt_of_le (by decide) hn) rfl rfl rfl 1 (by decide) fX0_extend_11 rfl dX0_extend_147 ?_
          refine r_iload_n hc dX0_extend_150 rfl ?_
          refine r_iconst (v := 1) hc dX0_extend_151 (by decide) ?_
          refine r_isub hc dX0_extend_152 ?_
          refine r_aald6 (q := 31 + (x1 - 1).toNatClampNeg) hc (Nat.lt_of_lt_of_le (by decide) hn) rfl rfl h.1 rfl dX0_extend_153 ?_
          replace h := h.2
          refine r_iload hc dX0_extend_154 rfl ?_
          refine r_callVv hc (zX4_lower hn σ (31 + x1.toNatClampNeg) (31 + (x1 - 1).toNatClampNeg) x9) h (Nat.lt_of_lt_of_le (by decide) hn) rfl rfl rfl (cwV 3 hc.2.2.2.2.1 gX0_extend_X4_lower rfl rfl rfl qX4_lower ⟨Nat.le_trans (Nat.le_of_ble_eq_true rfl) hrF.1, Nat.le_trans (Nat.le_of_ble_eq_true rfl) hrF.2⟩) rfl rfl (Nat.le_of_ble_eq_true rfl) dX0_extend_156 (fun σ6 h => ?_)
          refine r_aload_n hc dX0_extend_159 rfl ?_
          refine r_iload_n hc dX0_extend_160 rfl ?_
          refine r_iconst (v := 1) hc dX0_extend_161 (by decide) ?_
          refine r_isub hc dX0_extend_162 ?_
          refine r_iload hc dX0_extend_163 rfl ?_
          refine r_iconst (v := 1) hc dX0_extend_165 (by decide) ?_
          refine r_iadd hc dX0_extend_166 ?_
          refine r_iload hc dX0_extend_167 rfl ?_
          refine r_iload hc dX0_extend_169 rfl ?_
          refine r_callSi hc (hE σ6 (x1 - 1) (x9 + 1) (x3 + (rd σ a5 x9.toNatClampNeg)) x8) h (va_cwS 5 hc.2.2.2.2.1 gX0_extend_X0_extend rfl hrE.1 hrE.2.1 qX0_extend hrE.2.2) rfl rfl (Nat.le_of_ble_eq_true rfl) dX0_extend_171 (fun r8 σ7 h => ?_)
          refine r_istore hc dX0_extend_174 (by decide) (ss (ss (ss (ss (ss (ss (ss (s1 trivial)))))))) ?_
          refine r_iinc (v := x9 + 1) hc dX0_extend_176 rfl rfl (by decide) (ss (ss (ss (ss (ss (ss (ss (ss (s1 trivial))))))))) ?_
          refine r_goto (tgt := 101) hc dX0_extend_179 (by decide) ?_
          exact r_weak (wk (wk (wn (wk (wn (wk (wk (wk (wk (wk (wn w0))))))))))) (ih _ _ _ _ _ _ _ _ h)
set_option maxHeartbeats 4000000 in
set_option maxRecDepth 100000 in
theorem tvX0_extend_L42 {cy : Nat → ClassId} {ad : Nat → Nat} {n : Nat} {D : va_G} {A : Nat → Prop} {l : Launch} {p : Program} {e : Env} {s : State} {m : MethodId} {args : Array Value} {below : List Frame} {meth : Method} {c : Code} {Q : Int32 → St → Prop} (hn : 49 ≤ n) {rm rmE : Room} {E : (Int32 → St → Prop) → St → Int32 → Int32 → Int32 → Int32 → Prop} (hrE : rmE.cells = 0 ∧ rmE.slots = 0 ∧ rmE.frames + 1 ≤ rm.frames ∧ 8 + (11 + 11) + rmE.locals ≤ rm.locals) (hrF : rmX0_extend.frames ≤ rm.frames ∧ rmX0_extend.locals ≤ rm.locals) (hE : ∀ (σ : St) (x1 : Int32) (x2 : Int32) (x3 : Int32) (x4 : Int32), Ci TC cy ad n D A l yX0_extend wsX0_extend rmE σ [.ref (ad 29), .int x1, .int x2, .int x3, .int x4] (fun Q => E Q σ x1 x2 x3 x4)) (hc : CX p s m args c D cy cX0_extend 11 RX0 wsX0_extend) (hr : meth.sig.returnType = some .int) (hlk : meth.locks = false) : ∀ (q42 : Nat) (σ : St) (x1 : Int32) (x2 : Int32) (x3 : Int32) (x4 : Int32) (a5 : Nat) (x6 : Int32) (x7 : Int32) (x8 : Int32), vX0_extend_L42 E Q q42 σ x1 x2 x3 x4 a5 x6 x7 x8 → WV TC cy ad n D A p l e rm s m args below meth c 11 (MQ below (va_Qi Q (Bw TC cy ad n D) A) args s 0 0 A) σ [some (.ref (ad 29)), some (.int x1), some (.int x2), some (.int x3), some (.int x4), some (.ref (ad a5)), some (.int x6), some (.int x7), some (.int x8), none, none] [] 42 := by
  intro q42
  induction q42 with
  | zero =>
    intro σ x1 x2 x3 x4 a5 x6 x7 x8 h
    exact h.elim
  | succ q42 ih =>
    intro σ x1 x2 x3 x4 a5 x6 x7 x8 h
    unfold vX0_extend_L42 at h
    refine r_iload hc dX0_extend_42 rfl ?_
    refine r_iload hc dX0_extend_44 rfl ?_
    refine r_icmp_ge (tgt := 87) hc dX0_extend_46 (by decide) (fun hq5 => ?_) (fun hq5 => ?_)
    · replace h := h.1 hq5
      refine r_iload hc dX0_extend_87 rfl ?_
      refine r_iload_n hc dX0_extend_89 rfl ?_
      refine r_iload hc dX0_extend_90 rfl ?_
      refine r_iadd hc dX0_extend_92 ?_
      refine r_mmax hc mX0_extend_47.1 mX0_extend_47.2.1 mX0_extend_47.2.2.1 mX0_extend_47.2.2.2 (Nat.le_trans (Nat.le_of_ble_eq_true rfl) hrF.1) (Nat.le_trans (Nat.le_of_ble_eq_true rfl) hrF.2) dX0_extend_93 ?_
      refine r_istore hc dX0_extend_96 (by decide) (ss (ss (ss (ss (ss (ss (ss (s1 trivial)))))))) ?_
      refine r_iload_n hc dX0_extend_98 rfl ?_
      refine r_istore hc dX0_extend_99 (by decide) (ss (ss (ss (ss (ss (ss (ss (ss (s1 trivial))))))))) ?_
      obtain ⟨e101, h⟩ := h
      exact r_weak (wk (wk (wn (wk (wn (wk (wk (wk (wk (wk (wn w0))))))))))) (tvX0_extend_L101 hn hrE hrF hE hc hr hlk e101 _ _ _ _ _ _ _ _ h)
    · replace h := h.2 hq5
      refine r_aload hc dX0_extend_49 rfl ?_
      refine r_iload hc dX0_extend_51 rfl ?_
      refine r_aload_n hc dX0_extend_53 rfl ?_
      refine r_get (v := .ref (ad 22)) hc iX0_extend_X0 (Nat.lt_of_lt_of_le (by decide) hn) rfl rfl rfl 0 (by decide) fX0_extend_19 rfl dX0_extend_54 ?_
      refine r_iload hc dX0_extend_57 rfl ?_
      refine r_aload_n hc dX0_extend_59 rfl ?_
      refine r_get (v := .ref (ad 30)) hc iX0_extend_X0 (Nat.lt_of_lt_of_le (by decide) hn) rfl rfl rfl 1 (by decide) fX0_extend_11 rfl dX0_extend_60 ?_
      refine r_iload_n hc dX0_extend_63 rfl ?_
      refine r_aald6 (q := 31 + x1.toNatClampNeg) hc (Nat.lt_of_lt_of_le (by decide) hn) rfl rfl h.1 rfl dX0_extend_64 ?_
      replace h := h.2
      refine r_callVi hc (zX4_sparedBy hn σ (31 + x1.toNatClampNeg) x8) h (Nat.lt_of_lt_of_le (by decide) hn) rfl rfl rfl (cwV 2 hc.2.2.2.2.1 gX0_extend_X4_sparedBy rfl rfl rfl qX4_sparedBy ⟨Nat.le_trans (Nat.le_of_ble_eq_true rfl) hrF.1, Nat.le_trans (Nat.le_of_ble_eq_true rfl) hrF.2⟩) rfl rfl (Nat.le_of_ble_eq_true rfl) dX0_extend_65 (fun r4 σ3 h => ?_)
      refine r_iast hc (Nat.lt_of_lt_of_le h.1.2 hn) h.1.1 rfl h.2.1 dX0_extend_68 ?_
      replace h := h.2.2
      refine r_iload hc dX0_extend_69 rfl ?_
      refine r_aload hc dX0_extend_71 rfl ?_
      refine r_iload hc dX0_extend_73 rfl ?_
      refine r_iald hc (Nat.lt_of_lt_of_le h.1.2 hn) h.1.1 rfl h.2.1 dX0_extend_75 ?_
      replace h := h.2.2
      refine r_mmax hc mX0_extend_47.1 mX0_extend_47.2.1 mX0_extend_47.2.2.1 mX0_extend_47.2.2.2 (Nat.le_trans (Nat.le_of_ble_eq_true rfl) hrF.1) (Nat.le_trans (Nat.le_of_ble_eq_true rfl) hrF.2) dX0_extend_76 ?_
      refine r_istore hc dX0_extend_79 (by decide) (ss (ss (ss (ss (ss (ss (s1 trivial))))))) ?_
      refine r_iinc (v := x8 + 1) hc dX0_extend_81 rfl rfl (by decide) (ss (ss (ss (ss (ss (ss (ss (s1 trivial)))))))) ?_
      refine r_goto (tgt := 42) hc dX0_extend_84 (by decide) ?_
      exact r_weak (wk (wk (wk (wk (wk (wk (wk (wk (wk (wn (wn w0))))))))))) (ih _ _ _ _ _ _ _ _ _ h)
set_option maxHeartbeats 4000000 in
set_option maxRecDepth 100000 in
theorem zX0_extend {cy : Nat → ClassId} {ad : Nat → Nat} {n : Nat} {D : va_G} {A : Nat → Prop} {l : Launch} (hn : 49 ≤ n) {rm rmE : Room} {E : (Int32 → St → Prop) → St → Int32 → Int32 → Int32 → Int32 → Prop} (hrE : rmE.cells = 0 ∧ rmE.slots = 0 ∧ rmE.frames + 1 ≤ rm.frames ∧ 8 + (11 + 11) + rmE.locals ≤ rm.locals) (hrF : rmX0_extend.frames ≤ rm.frames ∧ rmX0_extend.locals ≤ rm.locals) (hE : ∀ (σ : St) (x1 : Int32) (x2 : Int32) (x3 : Int32) (x4 : Int32), Ci TC cy ad n D A l yX0_extend wsX0_extend rmE σ [.ref (ad 29), .int x1, .int x2, .int x3, .int x4] (fun Q => E Q σ x1 x2 x3 x4)) (σ : St) (x1 : Int32) (x2 : Int32) (x3 : Int32) (x4 : Int32) : Ci TC cy ad n D A l yX0_extend wsX0_extend rm σ [.ref (ad 29), .int x1, .int x2, .int x3, .int x4] (fun Q => vX0_extend E Q σ x1 x2 x3 x4) := by
  intro Q h
  refine startW (cc := cX0_extend) (nL := 11) (own := RX0) (lo := [some (.ref (ad 29)), some (.int x1), some (.int x2), some (.int x3), some (.int x4), none, none, none, none, none, none]) (by decide) rfl rfl (lo_start (av := [.ref (ad 29), .int x1, .int x2, .int x3, .int x4]) (k := 6) (allc1_ok (l := [.ref (ad 29), .int x1, .int x2, .int x3, .int x4]) trivial)) (Nat.le_of_ble_eq_true rfl) (fun p e s m args below meth c hc hr hlk => ?_)
  unfold vX0_extend at h
  refine r_iload_n hc dX0_extend_0 rfl ?_
  refine r_iconst (v := 1) hc dX0_extend_1 (by decide) ?_
  refine r_icmp_lt (tgt := 10) hc dX0_extend_2 (by decide) (fun hq2 => ?_) (fun hq2 => ?_)
  · replace h := h.1 hq2
    refine r_iload hc dX0_extend_10 rfl ?_
    exact e_i hc hr hlk h dX0_extend_12
  · replace h := h.2 hq2
    refine r_iload_n hc dX0_extend_5 rfl ?_
    refine r_iconst (v := 3) hc dX0_extend_6 (by decide) ?_
    refine r_icmp_le (tgt := 13) hc dX0_extend_7 (by decide) (fun hq1 => ?_) (fun hq1 => ?_)
    · replace h := h.1 hq1
      refine r_aload_n hc dX0_extend_13 rfl ?_
      refine r_get (v := .ref (ad 35)) hc iX0_extend_X0 (Nat.lt_of_lt_of_le (by decide) hn) rfl rfl rfl 2 (by decide) fX0_extend_16 rfl dX0_extend_14 ?_
      refine r_iload_n hc dX0_extend_17 rfl ?_
      refine r_aald6 (q := 36 + x1.toNatClampNeg) hc (Nat.lt_of_lt_of_le (by decide) hn) rfl rfl h.1 rfl dX0_extend_18 ?_
      replace h := h.2
      refine r_astore hc dX0_extend_19 (by decide) (ss (ss (ss (ss (s1 trivial))))) ?_
      refine r_aload_n hc dX0_extend_21 rfl ?_
      refine r_get (v := .ref (ad 22)) hc iX0_extend_X0 (Nat.lt_of_lt_of_le (by decide) hn) rfl rfl rfl 0 (by decide) fX0_extend_19 rfl dX0_extend_22 ?_
      refine r_getN (v := .int (rd σ 22 7)) hc iX0_extend_X4 (Nat.lt_of_lt_of_le (by decide) hn) rfl rfl rfl 7 (by decide) fX0_extend_33 rfl dX0_extend_25 ?_
      refine r_aload hc dX0_extend_28 rfl ?_
      refine r_alen hc (Nat.lt_of_lt_of_le h.1.2 hn) h.1.1 rfl dX0_extend_30 ?_
      replace h := h.2
      refine r_mmin hc mX0_extend_37.1 mX0_extend_37.2.1 mX0_extend_37.2.2.1 mX0_extend_37.2.2.2 (Nat.le_trans (Nat.le_of_ble_eq_true rfl) hrF.1) (Nat.le_trans (Nat.le_of_ble_eq_true rfl) hrF.2) dX0_extend_31 ?_
      refine r_istore hc dX0_extend_34 (by decide) (ss (ss (ss (ss (ss (s1 trivial)))))) ?_
      refine r_iconst (v := 0) hc dX0_extend_36 (by decide) ?_
      refine r_istore hc dX0_extend_37 (by decide) (ss (ss (ss (ss (ss (ss (s1 trivial))))))) ?_
      refine r_iload_n hc dX0_extend_39 rfl ?_
      refine r_istore hc dX0_extend_40 (by decide) (ss (ss (ss (ss (ss (ss (ss (s1 trivial)))))))) ?_
      obtain ⟨e42, h⟩ := h
      exact r_weak (wk (wk (wk (wk (wk (wk (wk (wk (wk (wn (wn w0))))))))))) (tvX0_extend_L42 hn hrE hrF hE hc hr hlk e42 _ _ _ _ _ _ _ _ _ h)
    · replace h := h.2 hq1
      refine r_iload hc dX0_extend_10 rfl ?_
      exact e_i hc hr hlk h dX0_extend_12
theorem zX0_extend0 {cy : Nat → ClassId} {ad : Nat → Nat} {n : Nat} {D : va_G} {A : Nat → Prop} {l : Launch} (rm : Room) (σ : St) (x1 : Int32) (x2 : Int32) (x3 : Int32) (x4 : Int32) : Ci TC cy ad n D A l yX0_extend wsX0_extend rm σ [.ref (ad 29), .int x1, .int x2, .int x3, .int x4] (fun Q => vX0_extend0 Q σ x1 x2 x3 x4) := fun Q h => h.elim
theorem zX0_extend1 {cy : Nat → ClassId} {ad : Nat → Nat} {n : Nat} {D : va_G} {A : Nat → Prop} {l : Launch} (hn : 49 ≤ n) (σ : St) (x1 : Int32) (x2 : Int32) (x3 : Int32) (x4 : Int32) : Ci TC cy ad n D A l yX0_extend wsX0_extend ({ frames := 3, cells := 0, slots := 0, locals := 79 }) σ [.ref (ad 29), .int x1, .int x2, .int x3, .int x4] (fun Q => vX0_extend1 Q σ x1 x2 x3 x4) := zX0_extend hn (rm := { frames := 3, cells := 0, slots := 0, locals := 79 }) (rmE := { frames := 2, cells := 0, slots := 0, locals := 49 }) ⟨rfl, rfl, Nat.le_of_ble_eq_true rfl, Nat.le_of_ble_eq_true rfl⟩ ⟨Nat.le_of_ble_eq_true rfl, Nat.le_of_ble_eq_true rfl⟩ (fun σ x1 x2 x3 x4 => zX0_extend0 ({ frames := 2, cells := 0, slots := 0, locals := 49 }) σ x1 x2 x3 x4) σ x1 x2 x3 x4
theorem zX0_extend2 {cy : Nat → ClassId} {ad : Nat → Nat} {n : Nat} {D : va_G} {A : Nat → Prop} {l : Launch} (hn : 49 ≤ n) (σ : St) (x1 : Int32) (x2 : Int32) (x3 : Int32) (x4 : Int32) : Ci TC cy ad n D A l yX0_extend wsX0_extend ({ frames := 4, cells := 0, slots := 0, locals := 109 }) σ [.ref (ad 29), .int x1, .int x2, .int x3, .int x4] (fun Q => vX0_extend2 Q σ x1 x2 x3 x4) := zX0_extend hn (rm := { frames := 4, cells := 0, slots := 0, locals := 109 }) (rmE := { frames := 3, cells := 0, slots := 0, locals := 79 }) ⟨rfl, rfl, Nat.le_of_ble_eq_true rfl, Nat.le_of_ble_eq_true rfl⟩ ⟨Nat.le_of_ble_eq_true rfl, Nat.le_of_ble_eq_true rfl⟩ (fun σ x1 x2 x3 x4 => zX0_extend1 hn σ x1 x2 x3 x4) σ x1 x2 x3 x4
theorem zX0_extendR {cy : Nat → ClassId} {ad : Nat → Nat} {n : Nat} {D : va_G} {A : Nat → Prop} {l : Launch} (hn : 49 ≤ n) (σ : St) (x1 : Int32) (x2 : Int32) (x3 : Int32) (x4 : Int32) : Ci TC cy ad n D A l yX0_extend wsX0_extend ({ frames := 5, cells := 0, slots := 0, locals := 139 }) σ [.ref (ad 29), .int x1, .int x2, .int x3, .int x4] (fun Q => vX0_extendR Q σ x1 x2 x3 x4) := zX0_extend hn (rm := { frames := 5, cells := 0, slots := 0, locals := 139 }) (rmE := { frames := 4, cells := 0, slots := 0, locals := 109 }) ⟨rfl, rfl, Nat.le_of_ble_eq_true rfl, Nat.le_of_ble_eq_true rfl⟩ ⟨Nat.le_of_ble_eq_true rfl, Nat.le_of_ble_eq_true rfl⟩ (fun σ x1 x2 x3 x4 => zX0_extend2 hn σ x1 x2 x3 x4) σ x1 x2 x3 x4
theorem iX2_has_X2 : ∀ w ∈ u_ws RX2 TX2 5, w ∈ wsX2_has := by decide +kernel
theorem fX2_has_22 : Cond.fieldLink RX2 22 (TX2 3).1 (TX2 3).2.1 (TX2 3).2.2.1 ∈ wsX2_has := by decide +kernel
set_option maxHeartbeats 4000000 in
set_option maxRecDepth 100000 in
theorem zX2_has {cy : Nat → ClassId} {ad : Nat → Nat} {n : Nat} {D : va_G} {A : Nat → Prop} {l : Launch} (hn : 29 ≤ n) (σ : St) (x1 : Int32) : Ci TC cy ad n D A l yX2_has wsX2_has rmX2_has σ [.ref (ad 18), .int x1] (fun Q => vX2_has Q σ x1) := by
  intro Q h
  refine startW (cc := cX2_has) (nL := 2) (own := RX2) (lo := [some (.ref (ad 18)), some (.int x1)]) (by decide) rfl rfl (lo_start (av := [.ref (ad 18), .int x1]) (k := 0) (allc1_ok (l := [.ref (ad 18), .int x1]) trivial)) (Nat.le_of_ble_eq_true rfl) (fun p e s m args below meth c hc hr hlk => ?_)
  unfold vX2_has at h
  refine r_iload_n hc dX2_has_0 rfl ?_
  refine r_if_lt (tgt := 16) hc dX2_has_1 (by decide) (fun hq2 => ?_) (fun hq2 => ?_)
  · replace h := h.1 hq2
    refine r_iconst (v := 0) hc dX2_has_16 (by decide) ?_
    exact e_z hc hr hlk (by decide) h dX2_has_17
  · replace h := h.2 hq2
    refine r_iload_n hc dX2_has_4 rfl ?_
    refine r_aload_n hc dX2_has_5 rfl ?_
    refine r_get (v := .int (rd σ 18 3)) hc iX2_has_X2 (Nat.lt_of_lt_of_le (by decide) hn) rfl rfl rfl 3 (by decide) fX2_has_22 rfl dX2_has_6 ?_
    refine r_icmp_ge (tgt := 16) hc dX2_has_9 (by decide) (fun hq1 => ?_) (fun hq1 => ?_)
    · replace h := h.1 hq1
      refine r_iconst (v := 0) hc dX2_has_16 (by decide) ?_
      exact e_z hc hr hlk (by decide) h dX2_has_17
    · replace h := h.2 hq1
      refine r_iconst (v := 1) hc dX2_has_12 (by decide) ?_
      refine r_goto (tgt := 17) hc dX2_has_13 (by decide) ?_
      exact e_z hc hr hlk (by decide) h dX2_has_17
theorem iX2_cellOf_X2 : ∀ w ∈ u_ws RX2 TX2 5, w ∈ wsX2_cellOf := by decide +kernel
theorem fX2_cellOf_9 : Cond.fieldLink RX2 9 (TX2 0).1 (TX2 0).2.1 (TX2 0).2.2.1 ∈ wsX2_cellOf := by decide +kernel
set_option maxHeartbeats 4000000 in
set_option maxRecDepth 100000 in
theorem zX2_cellOf {cy : Nat → ClassId} {ad : Nat → Nat} {n : Nat} {D : va_G} {A : Nat → Prop} {l : Launch} (hn : 29 ≤ n) (σ : St) (x1 : Int32) : Ci TC cy ad n D A l yX2_cellOf wsX2_cellOf rmX2_cellOf σ [.ref (ad 18), .int x1] (fun Q => vX2_cellOf Q σ x1) := by
  intro Q h
  refine startW (cc := cX2_cellOf) (nL := 2) (own := RX2) (lo := [some (.ref (ad 18)), some (.int x1)]) (by decide) rfl rfl (lo_start (av := [.ref (ad 18), .int x1]) (k := 0) (allc1_ok (l := [.ref (ad 18), .int x1]) trivial)) (Nat.le_of_ble_eq_true rfl) (fun p e s m args below meth c hc hr hlk => ?_)
  unfold vX2_cellOf at h
  refine r_aload_n hc dX2_cellOf_0 rfl ?_
  refine r_iload_n hc dX2_cellOf_1 rfl ?_
  refine r_callVi hc (zX2_has hn σ x1) h (Nat.lt_of_lt_of_le (by decide) hn) rfl rfl rfl (cwV 1 hc.2.2.2.2.1 gX2_cellOf_X2_has rfl rfl rfl qX2_has ⟨Nat.le_of_ble_eq_true rfl, Nat.le_of_ble_eq_true rfl⟩) rfl rfl (Nat.le_of_ble_eq_true rfl) dX2_cellOf_2 (fun r2 σ1 h => ?_)
  refine r_if_eq (tgt := 17) hc dX2_cellOf_5 (by decide) (fun hq3 => ?_) (fun hq3 => ?_)
  · replace h := h.1 hq3
    refine r_iconst (v := 0) hc dX2_cellOf_17 (by decide) ?_
    exact e_i hc hr hlk h dX2_cellOf_18
  · replace h := h.2 hq3
    refine r_aload_n hc dX2_cellOf_8 rfl ?_
    refine r_get (v := .ref (ad 19)) hc iX2_cellOf_X2 (Nat.lt_of_lt_of_le (by decide) hn) rfl rfl rfl 0 (by decide) fX2_cellOf_9 rfl dX2_cellOf_9 ?_
    refine r_iload_n hc dX2_cellOf_12 rfl ?_
    refine r_iald hc (Nat.lt_of_lt_of_le (by decide) hn) rfl rfl h.1 dX2_cellOf_13 ?_
    replace h := h.2
    refine r_goto (tgt := 18) hc dX2_cellOf_14 (by decide) ?_
    exact e_i hc hr hlk h dX2_cellOf_18
theorem iX2_isThere_X2 : ∀ w ∈ u_ws RX2 TX2 5, w ∈ wsX2_isThere := by decide +kernel
theorem fX2_isThere_18 : Cond.fieldLink RX2 18 (TX2 2).1 (TX2 2).2.1 (TX2 2).2.2.1 ∈ wsX2_isThere := by decide +kernel
set_option maxHeartbeats 4000000 in
set_option maxRecDepth 100000 in
theorem zX2_isThere {cy : Nat → ClassId} {ad : Nat → Nat} {n : Nat} {D : va_G} {A : Nat → Prop} {l : Launch} (hn : 29 ≤ n) (σ : St) (x1 : Int32) : Ci TC cy ad n D A l yX2_isThere wsX2_isThere rmX2_isThere σ [.ref (ad 18), .int x1] (fun Q => vX2_isThere Q σ x1) := by
  intro Q h
  refine startW (cc := cX2_isThere) (nL := 2) (own := RX2) (lo := [some (.ref (ad 18)), some (.int x1)]) (by decide) rfl rfl (lo_start (av := [.ref (ad 18), .int x1]) (k := 0) (allc1_ok (l := [.ref (ad 18), .int x1]) trivial)) (Nat.le_of_ble_eq_true rfl) (fun p e s m args below meth c hc hr hlk => ?_)
  unfold vX2_isThere at h
  refine r_aload_n hc dX2_isThere_0 rfl ?_
  refine r_iload_n hc dX2_isThere_1 rfl ?_
  refine r_callVi hc (zX2_has hn σ x1) h (Nat.lt_of_lt_of_le (by decide) hn) rfl rfl rfl (cwV 1 hc.2.2.2.2.1 gX2_isThere_X2_has rfl rfl rfl qX2_has ⟨Nat.le_of_ble_eq_true rfl, Nat.le_of_ble_eq_true rfl⟩) rfl rfl (Nat.le_of_ble_eq_true rfl) dX2_isThere_2 (fun r2 σ1 h => ?_)
  refine r_if_eq (tgt := 21) hc dX2_isThere_5 (by decide) (fun hq4 => ?_) (fun hq4 => ?_)
  · replace h := h.1 hq4
    refine r_iconst (v := 0) hc dX2_isThere_21 (by decide) ?_
    exact e_z hc hr hlk (by decide) h dX2_isThere_22
  · replace h := h.2 hq4
    refine r_aload_n hc dX2_isThere_8 rfl ?_
    refine r_get (v := .ref (ad 21)) hc iX2_isThere_X2 (Nat.lt_of_lt_of_le (by decide) hn) rfl rfl rfl 2 (by decide) fX2_isThere_18 rfl dX2_isThere_9 ?_
    refine r_iload_n hc dX2_isThere_12 rfl ?_
    refine r_zald hc (Nat.lt_of_lt_of_le (by decide) hn) rfl rfl h.1 dX2_isThere_13 ?_
    replace h := h.2
    refine r_if_ne (tgt := 21) hc dX2_isThere_14 (by decide) (fun hq3 => ?_) (fun hq3 => ?_)
    · replace h := h.1 hq3
      refine r_iconst (v := 1) hc dX2_isThere_17 (by decide) ?_
      refine r_goto (tgt := 22) hc dX2_isThere_18 (by decide) ?_
      exact e_z hc hr hlk (by decide) h dX2_isThere_22
    · replace h := h.2 hq3
      refine r_iconst (v := 0) hc dX2_isThere_21 (by decide) ?_
      exact e_z hc hr hlk (by decide) h dX2_isThere_22
theorem iX3_add_X3 : ∀ w ∈ u_ws RX3 TX3 2, w ∈ wsX3_add := by decide +kernel
theorem fX3_add_9 : Cond.fieldLink RX3 9 (TX3 0).1 (TX3 0).2.1 (TX3 0).2.2.1 ∈ wsX3_add := by decide +kernel
theorem fX3_add_19 : Cond.fieldLink RX3 19 (TX3 1).1 (TX3 1).2.1 (TX3 1).2.2.1 ∈ wsX3_add := by decide +kernel
set_option maxHeartbeats 4000000 in
set_option maxRecDepth 100000 in
theorem zX3_add {cy : Nat → ClassId} {ad : Nat → Nat} {n : Nat} {D : va_G} {A : Nat → Prop} {l : Launch} (hn : 29 ≤ n) (σ : St) (x1 : Int32) : Cv TC cy ad n D A l yX3_add wsX3_add rmX3_add σ [.ref (ad 27), .int x1] (fun Q => vX3_add Q σ x1) := by
  intro Q h
  refine startW (cc := cX3_add) (nL := 4) (own := RX3) (lo := [some (.ref (ad 27)), some (.int x1), none, none]) (by decide) rfl rfl (lo_start (av := [.ref (ad 27), .int x1]) (k := 2) (allc1_ok (l := [.ref (ad 27), .int x1]) trivial)) (Nat.le_of_ble_eq_true rfl) (fun p e s m args below meth c hc hr hlk => ?_)
  unfold vX3_add at h
  refine r_iload_n hc dX3_add_0 rfl ?_
  refine r_if_lt (tgt := 11) hc dX3_add_1 (by decide) (fun hq3 => ?_) (fun hq3 => ?_)
  · replace h := h.1 hq3
    exact e_v hc hr hlk h dX3_add_11
  · replace h := h.2 hq3
    refine r_iload_n hc dX3_add_4 rfl ?_
    refine r_sipush (v := 4096) hc dX3_add_5 (by decide) ?_
    refine r_icmp_lt (tgt := 12) hc dX3_add_8 (by decide) (fun hq2 => ?_) (fun hq2 => ?_)
    · replace h := h.1 hq2
      refine r_lconst (v := 1) hc dX3_add_12 (by decide) ?_
      refine r_iload_n hc dX3_add_13 rfl ?_
      refine r_lshl hc dX3_add_14 ?_
      refine r_lstore_n hc dX3_add_15 rfl (by decide) (s2l trivial) ?_
      refine r_aload_n hc dX3_add_16 rfl ?_
      refine r_get (v := .ref (ad 28)) hc iX3_add_X3 (Nat.lt_of_lt_of_le (by decide) hn) rfl rfl rfl 0 (by decide) fX3_add_9 rfl dX3_add_17 ?_
      refine r_iload_n hc dX3_add_20 rfl ?_
      refine r_bipush (v := 6) hc dX3_add_21 (by decide) ?_
      refine r_ishr hc dX3_add_23 ?_
      refine r_lald hc (Nat.lt_of_lt_of_le (by decide) hn) rfl rfl h.1 dX3_add_24 ?_
      replace h := h.2
      refine r_lload_n hc dX3_add_25 rfl ?_
      refine r_land hc dX3_add_26 ?_
      refine r_lconst (v := 0) hc dX3_add_27 (by decide) ?_
      refine r_lcmp hc dX3_add_28 ?_
      refine r_if_ne (tgt := 55) hc dX3_add_29 (by decide) (fun hq1 => ?_) (fun hq1 => ?_)
      · replace h := h.1 hq1
        refine r_aload_n hc dX3_add_32 rfl ?_
        refine r_get (v := .ref (ad 28)) hc iX3_add_X3 (Nat.lt_of_lt_of_le (by decide) hn) rfl rfl rfl 0 (by decide) fX3_add_9 rfl dX3_add_33 ?_
        refine r_iload_n hc dX3_add_36 rfl ?_
        refine r_bipush (v := 6) hc dX3_add_37 (by decide) ?_
        refine r_ishr hc dX3_add_39 ?_
        refine r_dup2 hc dX3_add_40 rfl rfl ?_
        refine r_lald hc (Nat.lt_of_lt_of_le (by decide) hn) rfl rfl h.1 dX3_add_41 ?_
        replace h := h.2
        refine r_lload_n hc dX3_add_42 rfl ?_
        refine r_lor hc dX3_add_43 ?_
        refine r_last hc (Nat.lt_of_lt_of_le (by decide) hn) rfl rfl h.1 dX3_add_44 ?_
        replace h := h.2
        refine r_aload_n hc dX3_add_45 rfl ?_
        refine r_dup hc dX3_add_46 rfl ?_
        refine r_get (v := .int (rd (wl σ 28 (x1 >>> (6 &&& 31)).toNatClampNeg ((rl σ 28 (x1 >>> (6 &&& 31)).toNatClampNeg) ||| (1 <<< (x1.toInt64 &&& 63)))) 27 1)) hc iX3_add_X3 (Nat.lt_of_lt_of_le (by decide) hn) rfl rfl rfl 1 (by decide) fX3_add_19 rfl dX3_add_47 ?_
        refine r_iconst (v := 1) hc dX3_add_50 (by decide) ?_
        refine r_iadd hc dX3_add_51 ?_
        refine r_put hc iX3_add_X3 tyX3_ok nmX3 (Nat.lt_of_lt_of_le (by decide) hn) rfl rfl rfl 1 (by decide) (Nat.le_of_ble_eq_true rfl) fX3_add_19 rfl (by decide +kernel) rfl dX3_add_52 ?_
        exact e_v hc hr hlk h dX3_add_55
      · replace h := h.2 hq1
        exact e_v hc hr hlk h dX3_add_55
    · replace h := h.2 hq2
      exact e_v hc hr hlk h dX3_add_11
theorem iX3_clear_X3 : ∀ w ∈ u_ws RX3 TX3 2, w ∈ wsX3_clear := by decide +kernel
theorem fX3_clear_9 : Cond.fieldLink RX3 9 (TX3 0).1 (TX3 0).2.1 (TX3 0).2.2.1 ∈ wsX3_clear := by decide +kernel
theorem fX3_clear_19 : Cond.fieldLink RX3 19 (TX3 1).1 (TX3 1).2.1 (TX3 1).2.2.1 ∈ wsX3_clear := by decide +kernel
set_option maxHeartbeats 4000000 in
set_option maxRecDepth 100000 in
theorem zX3_clear {cy : Nat → ClassId} {ad : Nat → Nat} {n : Nat} {D : va_G} {A : Nat → Prop} {l : Launch} (hn : 29 ≤ n) (σ : St) : Cv TC cy ad n D A l yX3_clear wsX3_clear rmX3_clear σ [.ref (ad 27)] (fun Q => vX3_clear Q σ ) := by
  intro Q h
  refine startW (cc := cX3_clear) (nL := 1) (own := RX3) (lo := [some (.ref (ad 27))]) (by decide) rfl rfl (lo_start (av := [.ref (ad 27)]) (k := 0) (allc1_ok (l := [.ref (ad 27)]) trivial)) (Nat.le_of_ble_eq_true rfl) (fun p e s m args below meth c hc hr hlk => ?_)
  unfold vX3_clear at h
  refine r_aload_n hc dX3_clear_0 rfl ?_
  refine r_get (v := .ref (ad 28)) hc iX3_clear_X3 (Nat.lt_of_lt_of_le (by decide) hn) rfl rfl rfl 0 (by decide) fX3_clear_9 rfl dX3_clear_1 ?_
  refine r_lconst (v := 0) hc dX3_clear_4 (by decide) ?_
  refine r_callSv hc (zJ7_fill_d0a16 (b := 29) hn σ 28 0) h (va_cwS 2 hc.2.2.2.2.1 gX3_clear_J7_fill_d0a16 rfl rfl rfl qJ7_fill_d0a16 ⟨Nat.le_of_ble_eq_true rfl, Nat.le_of_ble_eq_true rfl⟩) rfl rfl (Nat.le_of_ble_eq_true rfl) dX3_clear_5 (fun σ1 h => ?_)
  refine r_aload_n hc dX3_clear_8 rfl ?_
  refine r_iconst (v := 0) hc dX3_clear_9 (by decide) ?_
  refine r_put hc iX3_clear_X3 tyX3_ok nmX3 (Nat.lt_of_lt_of_le (by decide) hn) rfl rfl rfl 1 (by decide) (Nat.le_of_ble_eq_true rfl) fX3_clear_19 rfl (by decide +kernel) rfl dX3_clear_10 ?_
  exact e_v hc hr hlk h dX3_clear_13
theorem iX4_levelsOf_X4 : ∀ w ∈ u_ws RX4 TX4 8, w ∈ wsX4_levelsOf := by decide +kernel
theorem fX4_levelsOf_9 : Cond.fieldLink RX4 9 (TX4 2).1 (TX4 2).2.1 (TX4 2).2.2.1 ∈ wsX4_levelsOf := by decide +kernel
set_option maxHeartbeats 4000000 in
set_option maxRecDepth 100000 in
theorem zX4_levelsOf {cy : Nat → ClassId} {ad : Nat → Nat} {n : Nat} {D : va_G} {A : Nat → Prop} {l : Launch} (hn : 49 ≤ n) (σ : St) (x1 : Int32) : Ci TC cy ad n D A l yX4_levelsOf wsX4_levelsOf rmX4_levelsOf σ [.ref (ad 22), .int x1] (fun Q => vX4_levelsOf Q σ x1) := by
  intro Q h
  refine startW (cc := cX4_levelsOf) (nL := 2) (own := RX4) (lo := [some (.ref (ad 22)), some (.int x1)]) (by decide) rfl rfl (lo_start (av := [.ref (ad 22), .int x1]) (k := 0) (allc1_ok (l := [.ref (ad 22), .int x1]) trivial)) (Nat.le_of_ble_eq_true rfl) (fun p e s m args below meth c hc hr hlk => ?_)
  unfold vX4_levelsOf at h
  refine r_aload_n hc dX4_levelsOf_0 rfl ?_
  refine r_iload_n hc dX4_levelsOf_1 rfl ?_
  refine r_callVi hc (zX4_has hn σ x1) h (Nat.lt_of_lt_of_le (by decide) hn) rfl rfl rfl (cwV 1 hc.2.2.2.2.1 gX4_levelsOf_X4_has rfl rfl rfl qX4_has ⟨Nat.le_of_ble_eq_true rfl, Nat.le_of_ble_eq_true rfl⟩) rfl rfl (Nat.le_of_ble_eq_true rfl) dX4_levelsOf_2 (fun r2 σ1 h => ?_)
  refine r_if_eq (tgt := 17) hc dX4_levelsOf_5 (by decide) (fun hq3 => ?_) (fun hq3 => ?_)
  · replace h := h.1 hq3
    refine r_iconst (v := 0) hc dX4_levelsOf_17 (by decide) ?_
    exact e_i hc hr hlk h dX4_levelsOf_18
  · replace h := h.2 hq3
    refine r_aload_n hc dX4_levelsOf_8 rfl ?_
    refine r_get (v := .ref (ad 23)) hc iX4_levelsOf_X4 (Nat.lt_of_lt_of_le (by decide) hn) rfl rfl rfl 2 (by decide) fX4_levelsOf_9 rfl dX4_levelsOf_9 ?_
    refine r_iload_n hc dX4_levelsOf_12 rfl ?_
    refine r_iald hc (Nat.lt_of_lt_of_le (by decide) hn) rfl rfl h.1 dX4_levelsOf_13 ?_
    replace h := h.2
    refine r_goto (tgt := 18) hc dX4_levelsOf_14 (by decide) ?_
    exact e_i hc hr hlk h dX4_levelsOf_18
set_option maxHeartbeats 4000000 in
set_option maxRecDepth 100000 in
theorem zX1_placeOf {cy : Nat → ClassId} {ad : Nat → Nat} {n : Nat} {D : va_G} {A : Nat → Prop} {l : Launch} (hn : 29 ≤ n) (σ : St) (x0 : Int32) (x1 : Int32) : Ci TC cy ad n D A l yX1_placeOf wsX1_placeOf rmX1_placeOf σ [.int x0, .int x1] (fun Q => vX1_placeOf Q σ x0 x1) := by
  intro Q h
  refine startW (cc := cX1_placeOf) (nL := 2) (own := RX1) (lo := [some (.int x0), some (.int x1)]) (by decide) rfl rfl (lo_start (av := [.int x0, .int x1]) (k := 0) (allc1_ok (l := [.int x0, .int x1]) trivial)) (Nat.le_of_ble_eq_true rfl) (fun p e s m args below meth c hc hr hlk => ?_)
  unfold vX1_placeOf at h
  refine r_iload_n hc dX1_placeOf_0 rfl ?_
  refine r_iconst (v := 3) hc dX1_placeOf_1 (by decide) ?_
  refine r_iand hc dX1_placeOf_2 ?_
  refine r_bipush (v := 8) hc dX1_placeOf_3 (by decide) ?_
  refine r_imul hc dX1_placeOf_5 ?_
  refine r_iload_n hc dX1_placeOf_6 rfl ?_
  refine r_bipush (v := 7) hc dX1_placeOf_7 (by decide) ?_
  refine r_iand hc dX1_placeOf_9 ?_
  refine r_iadd hc dX1_placeOf_10 ?_
  exact e_i hc hr hlk h dX1_placeOf_11
set_option maxHeartbeats 4000000 in
set_option maxRecDepth 100000 in
theorem zX6_levelIn {cy : Nat → ClassId} {ad : Nat → Nat} {n : Nat} {D : va_G} {A : Nat → Prop} {l : Launch} (hn : 29 ≤ n) (σ : St) (x0 : Int32) (x1 : Int32) : Ci TC cy ad n D A l yX6_levelIn wsX6_levelIn rmX6_levelIn σ [.int x0, .int x1] (fun Q => vX6_levelIn Q σ x0 x1) := by
  intro Q h
  refine startW (cc := cX6_levelIn) (nL := 2) (own := RX6) (lo := [some (.int x0), some (.int x1)]) (by decide) rfl rfl (lo_start (av := [.int x0, .int x1]) (k := 0) (allc1_ok (l := [.int x0, .int x1]) trivial)) (Nat.le_of_ble_eq_true rfl) (fun p e s m args below meth c hc hr hlk => ?_)
  unfold vX6_levelIn at h
  refine r_iload_n hc dX6_levelIn_0 rfl ?_
  refine r_iconst (v := 4) hc dX6_levelIn_1 (by decide) ?_
  refine r_iload_n hc dX6_levelIn_2 rfl ?_
  refine r_imul hc dX6_levelIn_3 ?_
  refine r_ishr hc dX6_levelIn_4 ?_
  refine r_bipush (v := 15) hc dX6_levelIn_5 (by decide) ?_
  refine r_iand hc dX6_levelIn_7 ?_
  exact e_i hc hr hlk h dX6_levelIn_8
theorem iX6_memberIn_X6 : ∀ w ∈ u_ws RX6 TX6 2, w ∈ wsX6_memberIn := by decide +kernel
theorem fX6_memberIn_18 : Cond.fieldLink RX6 18 (TX6 1).1 (TX6 1).2.1 (TX6 1).2.2.1 ∈ wsX6_memberIn := by decide +kernel
set_option maxHeartbeats 4000000 in
set_option maxRecDepth 100000 in
theorem zX6_memberIn {cy : Nat → ClassId} {ad : Nat → Nat} {n : Nat} {D : va_G} {A : Nat → Prop} {l : Launch} (hn : 29 ≤ n) (σ : St) (x1 : Int32) (x2 : Int32) : Ci TC cy ad n D A l yX6_memberIn wsX6_memberIn rmX6_memberIn σ [.ref (ad 0), .int x1, .int x2] (fun Q => vX6_memberIn Q σ x1 x2) := by
  intro Q h
  refine startW (cc := cX6_memberIn) (nL := 3) (own := RX6) (lo := [some (.ref (ad 0)), some (.int x1), some (.int x2)]) (by decide) rfl rfl (lo_start (av := [.ref (ad 0), .int x1, .int x2]) (k := 0) (allc1_ok (l := [.ref (ad 0), .int x1, .int x2]) trivial)) (Nat.le_of_ble_eq_true rfl) (fun p e s m args below meth c hc hr hlk => ?_)
  unfold vX6_memberIn at h
  refine r_iload_n hc dX6_memberIn_0 rfl ?_
  refine r_iconst (v := 3) hc dX6_memberIn_1 (by decide) ?_
  refine r_aload_n hc dX6_memberIn_2 rfl ?_
  refine r_get (v := .int (rd σ 0 1)) hc iX6_memberIn_X6 (Nat.lt_of_lt_of_le (by decide) hn) rfl rfl rfl 1 (by decide) fX6_memberIn_18 rfl dX6_memberIn_3 ?_
  refine r_iconst (v := 1) hc dX6_memberIn_6 (by decide) ?_
  refine r_isub hc dX6_memberIn_7 ?_
  refine r_iload_n hc dX6_memberIn_8 rfl ?_
  refine r_isub hc dX6_memberIn_9 ?_
  refine r_imul hc dX6_memberIn_10 ?_
  refine r_ishr hc dX6_memberIn_11 ?_
  refine r_bipush (v := 7) hc dX6_memberIn_12 (by decide) ?_
  refine r_iand hc dX6_memberIn_14 ?_
  exact e_i hc hr hlk h dX6_memberIn_15
theorem iX6_groupOf_X6 : ∀ w ∈ u_ws RX6 TX6 2, w ∈ wsX6_groupOf := by decide +kernel
theorem fX6_groupOf_18 : Cond.fieldLink RX6 18 (TX6 1).1 (TX6 1).2.1 (TX6 1).2.2.1 ∈ wsX6_groupOf := by decide +kernel
theorem fX6_groupOf_11 : Cond.fieldLink RX6 11 (TX6 0).1 (TX6 0).2.1 (TX6 0).2.2.1 ∈ wsX6_groupOf := by decide +kernel
theorem iX6_groupOf_X1 : ∀ w ∈ u_ws RX1 TX1 6, w ∈ wsX6_groupOf := by decide +kernel
theorem fX6_groupOf_47 : (RX6, 47, (TX1 2).1, (TX1 2).2.1, (TX1 2).2.2.1, "CubeDesk") ∈ nestF := by decide +kernel
set_option maxHeartbeats 4000000 in
set_option maxRecDepth 100000 in
theorem tvX6_groupOf_L5 {cy : Nat → ClassId} {ad : Nat → Nat} {n : Nat} {D : va_G} {A : Nat → Prop} {l : Launch} {p : Program} {e : Env} {s : State} {m : MethodId} {args : Array Value} {below : List Frame} {meth : Method} {c : Code} {Q : Int32 → St → Prop} (hn : 29 ≤ n) (hc : CX p s m args c D cy cX6_groupOf 6 RX6 wsX6_groupOf) (hr : meth.sig.returnType = some .int) (hlk : meth.locks = false) : ∀ (q5 : Nat) (σ : St) (x1 : Int32) (x2 : Int32) (x3 : Int32) (x4 : Int32), vX6_groupOf_L5 Q q5 σ x1 x2 x3 x4 → WV TC cy ad n D A p l e rmX6_groupOf s m args below meth c 6 (MQ below (va_Qi Q (Bw TC cy ad n D) A) args s 0 0 A) σ [some (.ref (ad 0)), some (.int x1), some (.int x2), some (.int x3), some (.int x4), none] [] 5 := by
  intro q5
  induction q5 with
  | zero =>
    intro σ x1 x2 x3 x4 h
    exact h.elim
  | succ q5 ih =>
    intro σ x1 x2 x3 x4 h
    unfold vX6_groupOf_L5 at h
    refine r_iload hc dX6_groupOf_5 rfl ?_
    refine r_aload_n hc dX6_groupOf_7 rfl ?_
    refine r_get (v := .int (rd σ 0 1)) hc iX6_groupOf_X6 (Nat.lt_of_lt_of_le (by decide) hn) rfl rfl rfl 1 (by decide) fX6_groupOf_18 rfl dX6_groupOf_8 ?_
    refine r_icmp_ge (tgt := 56) hc dX6_groupOf_11 (by decide) (fun hq8 => ?_) (fun hq8 => ?_)
    · replace h := h.1 hq8
      refine r_iload_n hc dX6_groupOf_56 rfl ?_
      exact e_i hc hr hlk h dX6_groupOf_57
    · replace h := h.2 hq8
      refine r_iload_n hc dX6_groupOf_14 rfl ?_
      refine r_iload hc dX6_groupOf_15 rfl ?_
      refine r_callSi hc (zX6_levelIn hn σ x2 x4) h (va_cwS 2 hc.2.2.2.2.1 gX6_groupOf_X6_levelIn rfl rfl rfl qX6_levelIn ⟨Nat.le_of_ble_eq_true rfl, Nat.le_of_ble_eq_true rfl⟩) rfl rfl (Nat.le_of_ble_eq_true rfl) dX6_groupOf_17 (fun r2 σ1 h => ?_)
      refine r_aload_n hc dX6_groupOf_20 rfl ?_
      refine r_iload_n hc dX6_groupOf_21 rfl ?_
      refine r_iload hc dX6_groupOf_22 rfl ?_
      refine r_callVi hc (zX6_memberIn hn σ1 x1 x4) h (Nat.lt_of_lt_of_le (by decide) hn) rfl rfl rfl (cwV 2 hc.2.2.2.2.1 gX6_groupOf_X6_memberIn rfl rfl rfl qX6_memberIn ⟨Nat.le_of_ble_eq_true rfl, Nat.le_of_ble_eq_true rfl⟩) rfl rfl (Nat.le_of_ble_eq_true rfl) dX6_groupOf_24 (fun r4 σ3 h => ?_)
      refine r_callSNi hc (zX1_placeOf hn σ3 r2 r4) h gX6_groupOf_X1_placeOf_n44 rfl rfl rfl (by decide +kernel) (by decide +kernel) (by decide +kernel) qX1_placeOf ⟨Nat.le_of_ble_eq_true rfl, Nat.le_of_ble_eq_true rfl⟩ rfl rfl (Nat.le_of_ble_eq_true rfl) dX6_groupOf_27 (fun r6 σ5 h => ?_)
      refine r_istore hc dX6_groupOf_30 (by decide) (ss (ss (ss (ss (s1 trivial))))) ?_
      refine r_iload_n hc dX6_groupOf_32 rfl ?_
      refine r_iconst (v := 3) hc dX6_groupOf_33 (by decide) ?_
      refine r_ishl hc dX6_groupOf_34 ?_
      refine r_aload_n hc dX6_groupOf_35 rfl ?_
      refine r_get (v := .ref (ad 1)) hc iX6_groupOf_X6 (Nat.lt_of_lt_of_le (by decide) hn) rfl rfl rfl 0 (by decide) fX6_groupOf_11 rfl dX6_groupOf_36 ?_
      refine r_iload hc dX6_groupOf_39 rfl ?_
      refine r_aald5 (q := 2 + 4 * x4.toNatClampNeg) hc (Nat.lt_of_lt_of_le (by decide) hn) rfl rfl h.1 rfl dX6_groupOf_41 ?_
      replace h := h.2
      have hd7 := h.1
      replace h := h.2
      refine r_getN (v := .ref (ad (2 + 4 * x4.toNatClampNeg + 3))) hc iX6_groupOf_X1 (dm_lt0 hd7 hn) (dm_T hd7) (dm_L hd7) rfl 2 (by decide) fX6_groupOf_47 rfl dX6_groupOf_42 ?_
      refine r_iload hc dX6_groupOf_45 rfl ?_
      refine r_iald hc (dm_lt hd7 hn 3 (by decide)) (dm_T3 hd7) (dm_N3 hd7) h.1 dX6_groupOf_47 ?_
      replace h := h.2
      refine r_ior hc dX6_groupOf_48 ?_
      refine r_istore_n hc dX6_groupOf_49 rfl (by decide) (ss (ss (s1 trivial))) ?_
      refine r_iinc (v := x4 + 1) hc dX6_groupOf_50 rfl rfl (by decide) (ss (ss (ss (s1 trivial)))) ?_
      refine r_goto (tgt := 5) hc dX6_groupOf_53 (by decide) ?_
      exact r_weak (wk (wk (wk (wk (wk (wn w0)))))) (ih _ _ _ _ _ h)
set_option maxHeartbeats 4000000 in
set_option maxRecDepth 100000 in
theorem zX6_groupOf {cy : Nat → ClassId} {ad : Nat → Nat} {n : Nat} {D : va_G} {A : Nat → Prop} {l : Launch} (hn : 29 ≤ n) (σ : St) (x1 : Int32) (x2 : Int32) : Ci TC cy ad n D A l yX6_groupOf wsX6_groupOf rmX6_groupOf σ [.ref (ad 0), .int x1, .int x2] (fun Q => vX6_groupOf Q σ x1 x2) := by
  intro Q h
  refine startW (cc := cX6_groupOf) (nL := 6) (own := RX6) (lo := [some (.ref (ad 0)), some (.int x1), some (.int x2), none, none, none]) (by decide) rfl rfl (lo_start (av := [.ref (ad 0), .int x1, .int x2]) (k := 3) (allc1_ok (l := [.ref (ad 0), .int x1, .int x2]) trivial)) (Nat.le_of_ble_eq_true rfl) (fun p e s m args below meth c hc hr hlk => ?_)
  unfold vX6_groupOf at h
  refine r_iconst (v := 0) hc dX6_groupOf_0 (by decide) ?_
  refine r_istore_n hc dX6_groupOf_1 rfl (by decide) (ss (ss (s1 trivial))) ?_
  refine r_iconst (v := 0) hc dX6_groupOf_2 (by decide) ?_
  refine r_istore hc dX6_groupOf_3 (by decide) (ss (ss (ss (s1 trivial)))) ?_
  obtain ⟨e5, h⟩ := h
  exact r_weak (wk (wk (wk (wk (wk (wn w0)))))) (tvX6_groupOf_L5 hn hc hr hlk e5 _ _ _ _ _ h)
theorem iX4_collectGroups_X4 : ∀ w ∈ u_ws RX4 TX4 8, w ∈ wsX4_collectGroups := by decide +kernel
theorem fX4_collectGroups_28 : Cond.fieldLink RX4 28 (TX4 6).1 (TX4 6).2.1 (TX4 6).2.2.1 ∈ wsX4_collectGroups := by decide +kernel
theorem fX4_collectGroups_36 : Cond.fieldLink RX4 36 (TX4 1).1 (TX4 1).2.1 (TX4 1).2.2.1 ∈ wsX4_collectGroups := by decide +kernel
theorem iX4_collectGroups_X2 : ∀ w ∈ u_ws RX2 TX2 5, w ∈ wsX4_collectGroups := by decide +kernel
theorem fX4_collectGroups_96 : (RX4, 96, (TX2 3).1, (TX2 3).2.1, (TX2 3).2.2.1, "CubeDesk") ∈ nestF := by decide +kernel
theorem fX4_collectGroups_32 : Cond.fieldLink RX4 32 (TX4 0).1 (TX4 0).2.1 (TX4 0).2.2.1 ∈ wsX4_collectGroups := by decide +kernel
set_option maxHeartbeats 4000000 in
set_option maxRecDepth 100000 in
theorem tvX4_collectGroups_L15 {cy : Nat → ClassId} {ad : Nat → Nat} {n : Nat} {D : va_G} {A : Nat → Prop} {l : Launch} {p : Program} {e : Env} {s : State} {m : MethodId} {args : Array Value} {below : List Frame} {meth : Method} {c : Code} {Q : St → Prop} (hn : 49 ≤ n) (hc : CX p s m args c D cy cX4_collectGroups 4 RX4 wsX4_collectGroups) (hr : meth.sig.returnType = none) (hlk : meth.locks = false) : ∀ (q15 : Nat) (σ : St) (x2 : Int32) (x3 : Int32), vX4_collectGroups_L15 Q q15 σ x2 x3 → WV TC cy ad n D A p l e rmX4_collectGroups s m args below meth c 4 (MQ below (va_Qv Q (Bw TC cy ad n D) A) args s 0 0 A) σ [some (.ref (ad 22)), none, some (.int x2), some (.int x3)] [] 15 := by
  intro q15
  induction q15 with
  | zero =>
    intro σ x2 x3 h
    exact h.elim
  | succ q15 ih =>
    intro σ x2 x3 h
    unfold vX4_collectGroups_L15 at h
    refine r_iload_n hc dX4_collectGroups_15 rfl ?_
    refine r_aload_n hc dX4_collectGroups_16 rfl ?_
    refine r_get (v := .ref (ad 18)) hc iX4_collectGroups_X4 (Nat.lt_of_lt_of_le (by decide) hn) rfl rfl rfl 1 (by decide) fX4_collectGroups_36 rfl dX4_collectGroups_17 ?_
    refine r_getN (v := .int (rd σ 18 3)) hc iX4_collectGroups_X2 (Nat.lt_of_lt_of_le (by decide) hn) rfl rfl rfl 3 (by decide) fX4_collectGroups_96 rfl dX4_collectGroups_20 ?_
    refine r_icmp_ge (tgt := 66) hc dX4_collectGroups_23 (by decide) (fun hq12 => ?_) (fun hq12 => ?_)
    · replace h := h.1 hq12
      exact e_v hc hr hlk h dX4_collectGroups_66
    · replace h := h.2 hq12
      refine r_aload_n hc dX4_collectGroups_26 rfl ?_
      refine r_get (v := .ref (ad 18)) hc iX4_collectGroups_X4 (Nat.lt_of_lt_of_le (by decide) hn) rfl rfl rfl 1 (by decide) fX4_collectGroups_36 rfl dX4_collectGroups_27 ?_
      refine r_iload_n hc dX4_collectGroups_30 rfl ?_
      refine r_callVi hc (zX2_isThere (Nat.le_trans (by decide) hn) σ x3) h (Nat.lt_of_lt_of_le (by decide) hn) rfl rfl rfl (cwV 1 hc.2.2.2.2.1 gX4_collectGroups_X2_isThere rfl rfl rfl qX2_isThere ⟨Nat.le_of_ble_eq_true rfl, Nat.le_of_ble_eq_true rfl⟩) rfl rfl (Nat.le_of_ble_eq_true rfl) dX4_collectGroups_31 (fun r5 σ4 h => ?_)
      refine r_if_eq (tgt := 60) hc dX4_collectGroups_34 (by decide) (fun hq11 => ?_) (fun hq11 => ?_)
      · replace h := h.1 hq11
        refine r_iinc (v := x3 + 1) hc dX4_collectGroups_60 rfl rfl (by decide) (ss (ss (s1 trivial))) ?_
        refine r_goto (tgt := 15) hc dX4_collectGroups_63 (by decide) ?_
        exact r_weak (wk (wn (wk (wk w0)))) (ih _ _ _ h)
      · replace h := h.2 hq11
        refine r_aload_n hc dX4_collectGroups_37 rfl ?_
        refine r_get (v := .ref (ad 27)) hc iX4_collectGroups_X4 (Nat.lt_of_lt_of_le (by decide) hn) rfl rfl rfl 6 (by decide) fX4_collectGroups_28 rfl dX4_collectGroups_38 ?_
        refine r_aload_n hc dX4_collectGroups_41 rfl ?_
        refine r_get (v := .ref (ad 0)) hc iX4_collectGroups_X4 (Nat.lt_of_lt_of_le (by decide) hn) rfl rfl rfl 0 (by decide) fX4_collectGroups_32 rfl dX4_collectGroups_42 ?_
        refine r_aload_n hc dX4_collectGroups_45 rfl ?_
        refine r_get (v := .ref (ad 18)) hc iX4_collectGroups_X4 (Nat.lt_of_lt_of_le (by decide) hn) rfl rfl rfl 1 (by decide) fX4_collectGroups_36 rfl dX4_collectGroups_46 ?_
        refine r_iload_n hc dX4_collectGroups_49 rfl ?_
        refine r_callVi hc (zX2_cellOf (Nat.le_trans (by decide) hn) σ4 x3) h (Nat.lt_of_lt_of_le (by decide) hn) rfl rfl rfl (cwV 1 hc.2.2.2.2.1 gX4_collectGroups_X2_cellOf rfl rfl rfl qX2_cellOf ⟨Nat.le_of_ble_eq_true rfl, Nat.le_of_ble_eq_true rfl⟩) rfl rfl (Nat.le_of_ble_eq_true rfl) dX4_collectGroups_50 (fun r7 σ6 h => ?_)
        refine r_iload_n hc dX4_collectGroups_53 rfl ?_
        refine r_callVi hc (zX6_groupOf (Nat.le_trans (by decide) hn) σ6 r7 x2) h (Nat.lt_of_lt_of_le (by decide) hn) rfl rfl rfl (cwV 2 hc.2.2.2.2.1 gX4_collectGroups_X6_groupOf rfl rfl rfl qX6_groupOf ⟨Nat.le_of_ble_eq_true rfl, Nat.le_of_ble_eq_true rfl⟩) rfl rfl (Nat.le_of_ble_eq_true rfl) dX4_collectGroups_54 (fun r9 σ8 h => ?_)
        refine r_callVv hc (zX3_add (Nat.le_trans (by decide) hn) σ8 r9) h (Nat.lt_of_lt_of_le (by decide) hn) rfl rfl rfl (cwV 1 hc.2.2.2.2.1 gX4_collectGroups_X3_add rfl rfl rfl qX3_add ⟨Nat.le_of_ble_eq_true rfl, Nat.le_of_ble_eq_true rfl⟩) rfl rfl (Nat.le_of_ble_eq_true rfl) dX4_collectGroups_57 (fun σ10 h => ?_)
        refine r_iinc (v := x3 + 1) hc dX4_collectGroups_60 rfl rfl (by decide) (ss (ss (s1 trivial))) ?_
        refine r_goto (tgt := 15) hc dX4_collectGroups_63 (by decide) ?_
        exact r_weak (wk (wn (wk (wk w0)))) (ih _ _ _ h)
set_option maxHeartbeats 4000000 in
set_option maxRecDepth 100000 in
theorem zX4_collectGroups {cy : Nat → ClassId} {ad : Nat → Nat} {n : Nat} {D : va_G} {A : Nat → Prop} {l : Launch} (hn : 49 ≤ n) (σ : St) (x1 : Int32) : Cv TC cy ad n D A l yX4_collectGroups wsX4_collectGroups rmX4_collectGroups σ [.ref (ad 22), .int x1] (fun Q => vX4_collectGroups Q σ x1) := by
  intro Q h
  refine startW (cc := cX4_collectGroups) (nL := 4) (own := RX4) (lo := [some (.ref (ad 22)), some (.int x1), none, none]) (by decide) rfl rfl (lo_start (av := [.ref (ad 22), .int x1]) (k := 2) (allc1_ok (l := [.ref (ad 22), .int x1]) trivial)) (Nat.le_of_ble_eq_true rfl) (fun p e s m args below meth c hc hr hlk => ?_)
  unfold vX4_collectGroups at h
  refine r_aload_n hc dX4_collectGroups_0 rfl ?_
  refine r_iload_n hc dX4_collectGroups_1 rfl ?_
  refine r_callVi hc (zX4_levelsOf hn σ x1) h (Nat.lt_of_lt_of_le (by decide) hn) rfl rfl rfl (cwV 1 hc.2.2.2.2.1 gX4_collectGroups_X4_levelsOf rfl rfl rfl qX4_levelsOf ⟨Nat.le_of_ble_eq_true rfl, Nat.le_of_ble_eq_true rfl⟩) rfl rfl (Nat.le_of_ble_eq_true rfl) dX4_collectGroups_2 (fun r2 σ1 h => ?_)
  refine r_istore_n hc dX4_collectGroups_5 rfl (by decide) (ss (s1 trivial)) ?_
  refine r_aload_n hc dX4_collectGroups_6 rfl ?_
  refine r_get (v := .ref (ad 27)) hc iX4_collectGroups_X4 (Nat.lt_of_lt_of_le (by decide) hn) rfl rfl rfl 6 (by decide) fX4_collectGroups_28 rfl dX4_collectGroups_7 ?_
  refine r_callVv hc (zX3_clear (Nat.le_trans (by decide) hn) σ1) h (Nat.lt_of_lt_of_le (by decide) hn) rfl rfl rfl (cwV 0 hc.2.2.2.2.1 gX4_collectGroups_X3_clear rfl rfl rfl qX3_clear ⟨Nat.le_of_ble_eq_true rfl, Nat.le_of_ble_eq_true rfl⟩) rfl rfl (Nat.le_of_ble_eq_true rfl) dX4_collectGroups_10 (fun σ3 h => ?_)
  refine r_iconst (v := 0) hc dX4_collectGroups_13 (by decide) ?_
  refine r_istore_n hc dX4_collectGroups_14 rfl (by decide) (ss (ss (s1 trivial))) ?_
  obtain ⟨e15, h⟩ := h
  exact r_weak (wk (wn (wk (wk w0)))) (tvX4_collectGroups_L15 hn hc hr hlk e15 _ _ _ h)

theorem iX9_total_X9 : ∀ w ∈ u_ws RX9 TX9 25, w ∈ wsX9_total := by decide +kernel
theorem fX9_total_60 : Cond.fieldLink RX9 60 (TX9 0).1 (TX9 0).2.1 (TX9 0).2.2.1 ∈ wsX9_total := by decide +kernel
theorem oX9_total_74 : Jvm.Cond.constant RX9 74 (-2000000002) ∈ wsX9_total := by decide +kernel
theorem fX9_total_71 : Cond.fieldLink RX9 71 (TX9 5).1 (TX9 5).2.1 (TX9 5).2.2.1 ∈ wsX9_total := by decide +kernel
theorem fX9_total_129 : Cond.fieldLink RX9 129 (TX9 21).1 (TX9 21).2.1 (TX9 21).2.2.1 ∈ wsX9_total := by decide +kernel
theorem oX9_total_150 : Jvm.Cond.constant RX9 150 (-2000000001) ∈ wsX9_total := by decide +kernel
set_option maxHeartbeats 4000000 in
set_option maxRecDepth 100000 in
theorem tvX9_total_L23 {cy : Nat → ClassId} {ad : Nat → Nat} {n : Nat} {D : va_G} {A : Nat → Prop} {l : Launch} {p : Program} {e : Env} {s : State} {m : MethodId} {args : Array Value} {below : List Frame} {meth : Method} {c : Code} {Q : Int32 → St → Prop} (hn : 17 ≤ n) (hc : CX p s m args c D cy cX9_total 3 RX9 wsX9_total) (hr : meth.sig.returnType = some .int) (hlk : meth.locks = false) : ∀ (q23 : Nat) (σ : St) (x1 : Int32) (x2 : Int32), vX9_total_L23 Q q23 σ x1 x2 → WV TR cy ad n D A p l e rmX9_total s m args below meth c 3 (MQ below (va_Qi Q (Bw TR cy ad n D) A) args s 0 0 A) σ [some (.ref (ad 0)), some (.int x1), some (.int x2)] [] 23 := by
  intro q23
  induction q23 with
  | zero =>
    intro σ x1 x2 h
    exact h.elim
  | succ q23 ih =>
    intro σ x1 x2 h
    unfold vX9_total_L23 at h
    refine r_iload_n hc dX9_total_23 rfl ?_
    refine r_aload_n hc dX9_total_24 rfl ?_
    refine r_get (v := .int (rd σ 0 5)) hc iX9_total_X9 (Nat.lt_of_lt_of_le (by decide) hn) rfl rfl rfl 5 (by decide) fX9_total_71 rfl dX9_total_25 ?_
    refine r_icmp_ge (tgt := 50) hc dX9_total_28 (by decide) (fun hq15 => ?_) (fun hq15 => ?_)
    · replace h := h.1 hq15
      refine r_aload_n hc dX9_total_50 rfl ?_
      refine r_get (v := .int (rd σ 0 21)) hc iX9_total_X9 (Nat.lt_of_lt_of_le (by decide) hn) rfl rfl rfl 21 (by decide) fX9_total_129 rfl dX9_total_51 ?_
      refine r_if_ne (tgt := 67) hc dX9_total_54 (by decide) (fun hq10 => ?_) (fun hq10 => ?_)
      · replace h := h.1 hq10
        refine r_iload_n hc dX9_total_57 rfl ?_
        refine r_iconst (v := 1) hc dX9_total_58 (by decide) ?_
        refine r_icmp_le (tgt := 67) hc dX9_total_59 (by decide) (fun hq7 => ?_) (fun hq7 => ?_)
        · replace h := h.1 hq7
          refine r_aload_n hc dX9_total_67 rfl ?_
          refine r_iload_n hc dX9_total_68 rfl ?_
          refine r_callVi hc (zX9_value hn σ x1) h (Nat.lt_of_lt_of_le (by decide) hn) rfl rfl rfl (cwV 1 hc.2.2.2.2.1 gX9_total_X9_value rfl rfl rfl qX9_value ⟨Nat.le_of_ble_eq_true rfl, Nat.le_of_ble_eq_true rfl⟩) rfl rfl (Nat.le_of_ble_eq_true rfl) dX9_total_69 (fun r6 σ5 h => ?_)
          exact e_i hc hr hlk h dX9_total_72
        · replace h := h.2 hq7
          refine r_ldc (v := (-2000000001)) hc dX9_total_62 oX9_total_150 ?_
          refine r_goto (tgt := 72) hc dX9_total_64 (by decide) ?_
          exact e_i hc hr hlk h dX9_total_72
      · replace h := h.2 hq10
        refine r_aload_n hc dX9_total_67 rfl ?_
        refine r_iload_n hc dX9_total_68 rfl ?_
        refine r_callVi hc (zX9_value hn σ x1) h (Nat.lt_of_lt_of_le (by decide) hn) rfl rfl rfl (cwV 1 hc.2.2.2.2.1 gX9_total_X9_value rfl rfl rfl qX9_value ⟨Nat.le_of_ble_eq_true rfl, Nat.le_of_ble_eq_true rfl⟩) rfl rfl (Nat.le_of_ble_eq_true rfl) dX9_total_69 (fun r9 σ8 h => ?_)
        exact e_i hc hr hlk h dX9_total_72
    · replace h := h.2 hq15
      refine r_aload_n hc dX9_total_31 rfl ?_
      refine r_iload_n hc dX9_total_32 rfl ?_
      refine r_callVi hc (zX9_passes hn σ x2) h (Nat.lt_of_lt_of_le (by decide) hn) rfl rfl rfl (cwV 1 hc.2.2.2.2.1 gX9_total_X9_passes rfl rfl rfl qX9_passes ⟨Nat.le_of_ble_eq_true rfl, Nat.le_of_ble_eq_true rfl⟩) rfl rfl (Nat.le_of_ble_eq_true rfl) dX9_total_33 (fun r12 σ11 h => ?_)
      refine r_if_eq (tgt := 44) hc dX9_total_36 (by decide) (fun hq14 => ?_) (fun hq14 => ?_)
      · replace h := h.1 hq14
        refine r_iinc (v := x2 + 1) hc dX9_total_44 rfl rfl (by decide) (ss (s1 trivial)) ?_
        refine r_goto (tgt := 23) hc dX9_total_47 (by decide) ?_
        exact r_weak (wk (wk (wk w0))) (ih _ _ _ h)
      · replace h := h.2 hq14
        refine r_aload_n hc dX9_total_39 rfl ?_
        refine r_iload_n hc dX9_total_40 rfl ?_
        refine r_callVv hc (zX9_add hn σ11 x2) h (Nat.lt_of_lt_of_le (by decide) hn) rfl rfl rfl (cwV 1 hc.2.2.2.2.1 gX9_total_X9_add rfl rfl rfl qX9_add ⟨Nat.le_of_ble_eq_true rfl, Nat.le_of_ble_eq_true rfl⟩) rfl rfl (Nat.le_of_ble_eq_true rfl) dX9_total_41 (fun σ13 h => ?_)
        refine r_iinc (v := x2 + 1) hc dX9_total_44 rfl rfl (by decide) (ss (s1 trivial)) ?_
        refine r_goto (tgt := 23) hc dX9_total_47 (by decide) ?_
        exact r_weak (wk (wk (wk w0))) (ih _ _ _ h)
set_option maxHeartbeats 4000000 in
set_option maxRecDepth 100000 in
theorem zX9_total {cy : Nat → ClassId} {ad : Nat → Nat} {n : Nat} {D : va_G} {A : Nat → Prop} {l : Launch} (hn : 17 ≤ n) (σ : St) (x1 : Int32) : Ci TR cy ad n D A l yX9_total wsX9_total rmX9_total σ [.ref (ad 0), .int x1] (fun Q => vX9_total Q σ x1) := by
  intro Q h
  refine startW (cc := cX9_total) (nL := 3) (own := RX9) (lo := [some (.ref (ad 0)), some (.int x1), none]) (by decide) rfl rfl (lo_start (av := [.ref (ad 0), .int x1]) (k := 1) (allc1_ok (l := [.ref (ad 0), .int x1]) trivial)) (Nat.le_of_ble_eq_true rfl) (fun p e s m args below meth c hc hr hlk => ?_)
  unfold vX9_total at h
  refine r_aload_n hc dX9_total_0 rfl ?_
  refine r_iconst (v := 0) hc dX9_total_1 (by decide) ?_
  refine r_put hc iX9_total_X9 tyX9_ok nmX9 (Nat.lt_of_lt_of_le (by decide) hn) rfl rfl rfl 0 (by decide) (Nat.le_of_ble_eq_true rfl) fX9_total_60 rfl (by decide +kernel) rfl dX9_total_2 ?_
  refine r_iload_n hc dX9_total_5 rfl ?_
  refine r_iconst (v := 0) hc dX9_total_6 (by decide) ?_
  refine r_iconst (v := 3) hc dX9_total_7 (by decide) ?_
  refine r_callSi hc (zX9_in hn (wr σ 0 0 0) x1 0 3) h (va_cwS 3 hc.2.2.2.2.1 gX9_total_X9_in rfl rfl rfl qX9_in ⟨Nat.le_of_ble_eq_true rfl, Nat.le_of_ble_eq_true rfl⟩) rfl rfl (Nat.le_of_ble_eq_true rfl) dX9_total_8 (fun r2 σ1 h => ?_)
  refine r_if_ne (tgt := 17) hc dX9_total_11 (by decide) (fun hq4 => ?_) (fun hq4 => ?_)
  · replace h := h.1 hq4
    refine r_ldc (v := (-2000000002)) hc dX9_total_14 oX9_total_74 ?_
    exact e_i hc hr hlk h dX9_total_16
  · replace h := h.2 hq4
    refine r_aload_n hc dX9_total_17 rfl ?_
    refine r_callVv hc (zX9_begin hn σ1) h (Nat.lt_of_lt_of_le (by decide) hn) rfl rfl rfl (cwV 0 hc.2.2.2.2.1 gX9_total_X9_begin rfl rfl rfl qX9_begin ⟨Nat.le_of_ble_eq_true rfl, Nat.le_of_ble_eq_true rfl⟩) rfl rfl (Nat.le_of_ble_eq_true rfl) dX9_total_18 (fun σ3 h => ?_)
    refine r_iconst (v := 0) hc dX9_total_21 (by decide) ?_
    refine r_istore_n hc dX9_total_22 rfl (by decide) (ss (s1 trivial)) ?_
    obtain ⟨e23, h⟩ := h
    exact r_weak (wk (wk (wk w0))) (tvX9_total_L23 hn hc hr hlk e23 _ _ _ h)

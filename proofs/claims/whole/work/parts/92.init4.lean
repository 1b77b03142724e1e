/-! ===== the state at the start ===== -/
def M0 : Mo := ((0, fun _ => 0, fun _ _ => 0, fun _ _ _ => 0), (0, fun _ _ => 0, fun _ => 0, fun _ => false), (fun _ => 0, fun _ => 0, fun _ => 0), only0, 0, (0, fun _ => 0))
theorem WF0 : WF M0 := ⟨Nat.zero_le _, fun d hd => absurd hd (Nat.not_lt_zero d), fun d l hd => absurd hd (Nat.not_lt_zero d), fun d l q hd => absurd hd (Nat.not_lt_zero d), fun _ _ _ _ => rfl, Nat.zero_le _, fun f d hf => absurd hf (Nat.not_lt_zero f), fun f hf => absurd hf (Nat.not_lt_zero f), fun _ _ => (show 0 < 8 by decide), fun d hd => absurd hd (Nat.not_lt_zero d), rfl, Nat.zero_le _, fun i hi => absurd hi (Nat.not_lt_zero i)⟩
theorem RI0 : RI ts0 M0 := by
  refine ⟨WF0, rfl, rfl, rfl, rfl, fun d hd => absurd hd (Nat.not_lt_zero d), fun _ _ => rfl, fun d l hd => absurd hd (Nat.not_lt_zero d), fun _ _ _ _ _ _ => rfl, fun f d hf => absurd hf (Nat.not_lt_zero f), fun f hf => absurd hf (Nat.not_lt_zero f), fun c _ => ?_, fun i hi => absurd hi (Nat.not_lt_zero i)⟩
  show (if c = 0 then (1 : Int32) else 0) = (if (c == 0) = true then 1 else 0)
  by_cases h : c = 0 <;> simp [h]
/-- what stands behind the first rebuild -/
def RB (σ : St) : Prop := (∀ j i, (j < 22 ∨ 26 ≤ j) → rd σ j i = 0) ∧ rd σ 22 7 = nI (tot M0) ∧ (∀ c, c < tot M0 → rd σ 23 c = nI (lcod M0 c)) ∧ (∀ c, c < 256 → rd σ 24 c = -1) ∧ (∀ c, c < 256 → rd σ 25 c = b2i (only0 c))
theorem RB0 {Q : St → Prop} (h : ∀ τ, RB τ → Q τ) : vX4_rebuild Q zs := d_rebuild (M := M0) ⟨WF0, rfl, fun d hd => absurd hd (Nat.not_lt_zero d)⟩ (fun τ h1 h2 h3 h4 h5 => h τ ⟨fun j i hj => h1 j i hj, h2, h3, h4, h5⟩)
def s49 (σ : St) : St := (fun k => if k < 29 then σ.1 k else fun _ => 0, σ.2)
theorem CI0 {σ : St} (h : RB σ) : CI (s49 σ) M0 := by
  obtain ⟨h1, h2, h3, h4, h5⟩ := h
  have z : ∀ j i, (j < 22 ∨ 26 ≤ j) → rd (s49 σ) j i = 0 := fun j i hj => by
    show (if j < 29 then σ.1 j else fun _ => 0) i = 0
    by_cases hl : j < 29
    · rw [if_pos hl]; exact h1 j i hj
    · rw [if_neg hl]
  refine ⟨WF0, z _ _ (by omega), fun d hd => absurd hd (Nat.not_lt_zero d), fun d l hd => absurd hd (Nat.not_lt_zero d), fun d l q hd hl hq => z _ _ (by omega), fun d l q hd => absurd hd (Nat.not_lt_zero d), z _ _ (by omega), z _ _ (by omega), fun f hf => absurd hf (Nat.not_lt_zero f), fun f _ _ => z _ _ (by omega), h2, h3, fun c hc => Or.inl (h4 c ?_), h5, fun d hd => z _ _ (by omega), z _ _ (by omega), z _ _ (by omega), fun i hi => absurd hi (Nat.not_lt_zero i)⟩
  have : tot M0 = 1 := rfl
  omega
theorem cl18 : closedT TC 18 := ⟨by decide, by decide⟩
theorem cl22 : closedT TC 22 := ⟨by decide, by decide⟩
theorem cl29 : closedT TC 29 := ⟨by decide, by decide⟩
theorem iX4_init_X4 : ∀ w ∈ u_ws RX4 TX4 8, w ∈ wsX4_init := by decide +kernel
theorem iX4_init_X3 : ∀ w ∈ u_ws RX3 TX3 2, w ∈ wsX4_init := by decide +kernel
abbrev rmX4_init : Room := { frames := 3, cells := 6, slots := 1090, locals := 66 }
set_option maxHeartbeats 4000000 in
set_option maxRecDepth 100000 in
theorem kX4_init {l : Launch} {D : va_G} {cy : Nat → ClassId} (h : Nat) (ad : Nat → Nat) : IM l yX4_init wsX4_init rmX4_init D cy [.ref h, .ref (ad 0), .ref (ad 18)] ((h, .inr (4, [.null, .null, .null, .null, .null, .null, .null, .int 0])) :: wws TC cy ad 22 zs) (fun w => ∃ (q1 q2 q3 q4 g gw : Nat) (σ1 : St), w = wws TC cy (adx ad 22 [h, q1, q2, q3, q4, g, gw]) 29 σ1 ∧ RB σ1) 6 1090 := by
  refine IM.of (cc := cX4_init) (nL := 3) (own := RX4) (lo := [some (.ref h), some (.ref (ad 0)), some (.ref (ad 18))]) (by decide) rfl rfl rfl (lo_start (av := [.ref h, .ref (ad 0), .ref (ad 18)]) (k := 0) (allc1_ok (l := [.ref h, .ref (ad 0), .ref (ad 18)]) trivial)) (Nat.le_of_ble_eq_true rfl) (fun p e s m args below meth c A hc hnam hr hlk hA hO hOA => ?_)
  refine i_aload_n hc dX4_init_0 rfl ?_
  refine i_objInit hc (by decide +kernel) (by decide +kernel) (List.mem_of_getElem? (i := 3) rfl) (Nat.le_of_ble_eq_true rfl) (Nat.le_of_ble_eq_true rfl) dX4_init_1 ?_
  refine i_aload_n hc dX4_init_4 rfl ?_
  refine i_sipush (v := 256) hc dX4_init_5 (by decide) ?_
  refine i_newa (ty := .int) (k := 1) (t0 := 0) (a0 := (256, .inl (fun _ => 0))) (N' := 256) hc hA (by decide +kernel) rfl rfl (fun _ => rfl) (by decide) (by decide) (by decide) (Nat.le_of_ble_eq_true rfl) (Nat.le_of_ble_eq_true rfl) dX4_init_8 (fun q1 => ?_)
  refine i_putF (ci := 4) (C0 := RX4) (T0 := TX4) (N := 8) (ty := .array .int) (ws' := ((q1, .inl (cy 1, 256, .inl (fun _ => 0))) :: (h, .inr (4, [.null, .null, .ref q1, .null, .null, .null, .null, .int 0])) :: wws TC cy ad 22 zs)) hc hnam tyX4 iX4_init_X4 tyX4_ok nmX4 rfl 1 rfl 2 (by decide) (by decide +kernel) rfl rfl (by decide +kernel) rfl rfl (Nat.le_of_ble_eq_true rfl) dX4_init_10 rfl ?_
  refine i_aload_n hc dX4_init_13 rfl ?_
  refine i_sipush (v := 256) hc dX4_init_14 (by decide) ?_
  refine i_newa (ty := .int) (k := 1) (t0 := 0) (a0 := (256, .inl (fun _ => 0))) (N' := 256) hc hA (by decide +kernel) rfl rfl (fun _ => rfl) (by decide) (by decide) (by decide) (Nat.le_of_ble_eq_true rfl) (Nat.le_of_ble_eq_true rfl) dX4_init_17 (fun q2 => ?_)
  refine i_putF (ci := 4) (C0 := RX4) (T0 := TX4) (N := 8) (ty := .array .int) (ws' := ((q2, .inl (cy 1, 256, .inl (fun _ => 0))) :: (q1, .inl (cy 1, 256, .inl (fun _ => 0))) :: (h, .inr (4, [.null, .null, .ref q1, .ref q2, .null, .null, .null, .int 0])) :: wws TC cy ad 22 zs)) hc hnam tyX4 iX4_init_X4 tyX4_ok nmX4 rfl 2 rfl 3 (by decide) (by decide +kernel) rfl rfl (by decide +kernel) rfl rfl (Nat.le_of_ble_eq_true rfl) dX4_init_19 rfl ?_
  refine i_aload_n hc dX4_init_22 rfl ?_
  refine i_sipush (v := 256) hc dX4_init_23 (by decide) ?_
  refine i_newa (ty := .boolean) (k := 2) (t0 := 1) (a0 := (256, .inl (fun _ => 0))) (N' := 256) hc hA (by decide +kernel) rfl rfl (fun _ => rfl) (by decide) (by decide) (by decide) (Nat.le_of_ble_eq_true rfl) (Nat.le_of_ble_eq_true rfl) dX4_init_26 (fun q3 => ?_)
  refine i_putF (ci := 4) (C0 := RX4) (T0 := TX4) (N := 8) (ty := .array .boolean) (ws' := ((q3, .inl (cy 2, 256, .inl (fun _ => 0))) :: (q2, .inl (cy 1, 256, .inl (fun _ => 0))) :: (q1, .inl (cy 1, 256, .inl (fun _ => 0))) :: (h, .inr (4, [.null, .null, .ref q1, .ref q2, .ref q3, .null, .null, .int 0])) :: wws TC cy ad 22 zs)) hc hnam tyX4 iX4_init_X4 tyX4_ok nmX4 rfl 3 rfl 4 (by decide) (by decide +kernel) rfl rfl (by decide +kernel) rfl rfl (Nat.le_of_ble_eq_true rfl) dX4_init_28 rfl ?_
  refine i_aload_n hc dX4_init_31 rfl ?_
  refine i_sipush (v := 256) hc dX4_init_32 (by decide) ?_
  refine i_newa (ty := .int) (k := 1) (t0 := 0) (a0 := (256, .inl (fun _ => 0))) (N' := 256) hc hA (by decide +kernel) rfl rfl (fun _ => rfl) (by decide) (by decide) (by decide) (Nat.le_of_ble_eq_true rfl) (Nat.le_of_ble_eq_true rfl) dX4_init_35 (fun q4 => ?_)
  refine i_putF (ci := 4) (C0 := RX4) (T0 := TX4) (N := 8) (ty := .array .int) (ws' := ((q4, .inl (cy 1, 256, .inl (fun _ => 0))) :: (q3, .inl (cy 2, 256, .inl (fun _ => 0))) :: (q2, .inl (cy 1, 256, .inl (fun _ => 0))) :: (q1, .inl (cy 1, 256, .inl (fun _ => 0))) :: (h, .inr (4, [.null, .null, .ref q1, .ref q2, .ref q3, .ref q4, .null, .int 0])) :: wws TC cy ad 22 zs)) hc hnam tyX4 iX4_init_X4 tyX4_ok nmX4 rfl 4 rfl 5 (by decide) (by decide +kernel) rfl rfl (by decide +kernel) rfl rfl (Nat.le_of_ble_eq_true rfl) dX4_init_37 rfl ?_
  refine i_aload_n hc dX4_init_40 rfl ?_
  refine i_new (ci := 3) (C0 := RX3) (T0 := TX3) (N := 2) (fs := [.null, .int 0]) hc hA tyX3 iX4_init_X3 tyX3_ok (by decide +kernel) (by decide +kernel) (by decide +kernel) rfl (fun j hj => by rcases (show j = 0 ∨ j = 1 by omega) with rfl | rfl <;> rfl) (Nat.le_of_ble_eq_true rfl) (Nat.le_of_ble_eq_true rfl) dX4_init_41 (fun g => ?_)
  refine i_dup hc dX4_init_44 rfl ?_
  refine i_callIN (pre := [(g, .inr (3, [.null, .int 0]))]) (wr := ((q4, .inl (cy 1, 256, .inl (fun _ => 0))) :: (q3, .inl (cy 2, 256, .inl (fun _ => 0))) :: (q2, .inl (cy 1, 256, .inl (fun _ => 0))) :: (q1, .inl (cy 1, 256, .inl (fun _ => 0))) :: (h, .inr (4, [.null, .null, .ref q1, .ref q2, .ref q3, .ref q4, .null, .int 0])) :: wws TC cy ad 22 zs)) (As := []) hc hA hO hOA (kX3_init g) gX4_init_X3_init_n27 rfl rfl rfl (List.mem_of_getElem? (i := 2) rfl) (by decide +kernel) (by decide +kernel) ⟨(Nat.le_of_ble_eq_true rfl), (Nat.le_of_ble_eq_true rfl)⟩ rfl (by decide +kernel) rfl rfl (Nat.le_of_ble_eq_true rfl) dX4_init_45 ⟨(Nat.le_of_ble_eq_true rfl), (Nat.le_of_ble_eq_true rfl)⟩ (fun w9 h9 => ?_)
  obtain ⟨gw, rfl⟩ := h9
  refine WI.as (ws' := ((q4, .inl (cy 1, 256, .inl (fun _ => 0))) :: (q3, .inl (cy 2, 256, .inl (fun _ => 0))) :: (q2, .inl (cy 1, 256, .inl (fun _ => 0))) :: (q1, .inl (cy 1, 256, .inl (fun _ => 0))) :: (h, .inr (4, [.null, .null, .ref q1, .ref q2, .ref q3, .ref q4, .null, .int 0])) :: (wws TC cy ad 22 zs ++ ([(g, .inr (3, [.ref gw, .int 0])), (gw, .inl (cy 4, 64, .inr (.inl (fun _ => 0))))] : va_W)))) rfl ?_
  refine i_putF (ci := 4) (C0 := RX4) (T0 := TX4) (N := 8) (ty := .object "CubeDesk$GroupSet") (ws' := ((q4, .inl (cy 1, 256, .inl (fun _ => 0))) :: (q3, .inl (cy 2, 256, .inl (fun _ => 0))) :: (q2, .inl (cy 1, 256, .inl (fun _ => 0))) :: (q1, .inl (cy 1, 256, .inl (fun _ => 0))) :: (h, .inr (4, [.null, .null, .ref q1, .ref q2, .ref q3, .ref q4, .ref g, .int 0])) :: (wws TC cy ad 22 zs ++ ([(g, .inr (3, [.ref gw, .int 0])), (gw, .inl (cy 4, 64, .inr (.inl (fun _ => 0))))] : va_W)))) hc hnam tyX4 iX4_init_X4 tyX4_ok nmX4 rfl 4 rfl 6 (by decide) (by decide +kernel) rfl rfl (by decide +kernel) rfl rfl (Nat.le_of_ble_eq_true rfl) dX4_init_48 rfl ?_
  refine i_aload_n hc dX4_init_51 rfl ?_
  refine i_aload_n hc dX4_init_52 rfl ?_
  refine i_putF (ci := 4) (C0 := RX4) (T0 := TX4) (N := 8) (ty := .object "CubeDesk$Space") (ws' := ((q4, .inl (cy 1, 256, .inl (fun _ => 0))) :: (q3, .inl (cy 2, 256, .inl (fun _ => 0))) :: (q2, .inl (cy 1, 256, .inl (fun _ => 0))) :: (q1, .inl (cy 1, 256, .inl (fun _ => 0))) :: (h, .inr (4, [.ref (ad 0), .null, .ref q1, .ref q2, .ref q3, .ref q4, .ref g, .int 0])) :: (wws TC cy ad 22 zs ++ ([(g, .inr (3, [.ref gw, .int 0])), (gw, .inl (cy 4, 64, .inr (.inl (fun _ => 0))))] : va_W)))) hc hnam tyX4 iX4_init_X4 tyX4_ok nmX4 rfl 4 rfl 0 (by decide) (by decide +kernel) rfl rfl (by decide +kernel) rfl rfl (Nat.le_of_ble_eq_true rfl) dX4_init_53 rfl ?_
  refine i_aload_n hc dX4_init_56 rfl ?_
  refine i_aload_n hc dX4_init_57 rfl ?_
  refine i_putF (ci := 4) (C0 := RX4) (T0 := TX4) (N := 8) (ty := .object "CubeDesk$FactBook") (ws' := ((q4, .inl (cy 1, 256, .inl (fun _ => 0))) :: (q3, .inl (cy 2, 256, .inl (fun _ => 0))) :: (q2, .inl (cy 1, 256, .inl (fun _ => 0))) :: (q1, .inl (cy 1, 256, .inl (fun _ => 0))) :: (h, .inr (4, [.ref (ad 0), .ref (ad 18), .ref q1, .ref q2, .ref q3, .ref q4, .ref g, .int 0])) :: (wws TC cy ad 22 zs ++ ([(g, .inr (3, [.ref gw, .int 0])), (gw, .inl (cy 4, 64, .inr (.inl (fun _ => 0))))] : va_W)))) hc hnam tyX4 iX4_init_X4 tyX4_ok nmX4 rfl 4 rfl 1 (by decide) (by decide +kernel) rfl rfl (by decide +kernel) rfl rfl (Nat.le_of_ble_eq_true rfl) dX4_init_58 rfl ?_
  refine WI.perm (ws' := [] ++ (wws TC cy ad 22 zs ++ ([(h, .inr (4, [.ref (ad 0), .ref (ad 18), .ref q1, .ref q2, .ref q3, .ref q4, .ref g, .int 0])), (q1, .inl (cy 1, 256, .inl (fun _ => 0))), (q2, .inl (cy 1, 256, .inl (fun _ => 0))), (q3, .inl (cy 2, 256, .inl (fun _ => 0))), (q4, .inl (cy 1, 256, .inl (fun _ => 0))), (g, .inr (3, [.ref gw, .int 0])), (gw, .inl (cy 4, 64, .inr (.inl (fun _ => 0))))] : va_W))) (List.Perm.trans (List.Perm.append_right (wws TC cy ad 22 zs ++ ([(g, .inr (3, [.ref gw, .int 0])), (gw, .inl (cy 4, 64, .inr (.inl (fun _ => 0))))] : va_W)) (List.reverse_perm ([(h, .inr (4, [.ref (ad 0), .ref (ad 18), .ref q1, .ref q2, .ref q3, .ref q4, .ref g, .int 0])), (q1, .inl (cy 1, 256, .inl (fun _ => 0))), (q2, .inl (cy 1, 256, .inl (fun _ => 0))), (q3, .inl (cy 2, 256, .inl (fun _ => 0))), (q4, .inl (cy 1, 256, .inl (fun _ => 0)))] : va_W))) (List.perm_append_comm_assoc ([(h, .inr (4, [.ref (ad 0), .ref (ad 18), .ref q1, .ref q2, .ref q3, .ref q4, .ref g, .int 0])), (q1, .inl (cy 1, 256, .inl (fun _ => 0))), (q2, .inl (cy 1, 256, .inl (fun _ => 0))), (q3, .inl (cy 2, 256, .inl (fun _ => 0))), (q4, .inl (cy 1, 256, .inl (fun _ => 0)))] : va_W) (wws TC cy ad 22 zs) ([(g, .inr (3, [.ref gw, .int 0])), (gw, .inl (cy 4, 64, .inr (.inl (fun _ => 0))))] : va_W))) ?_
  refine WI.grow (n' := 29) (d := 7) (ad' := adx ad 22 [h, q1, q2, q3, q4, g, gw]) (σ' := zs) rfl cl22 (fun k hk => adx_lt k hk) (fun _ _ => ⟨rfl, rfl⟩) ⟨Or.inl rfl, Or.inl rfl, Or.inl rfl, Or.inl rfl, Or.inl rfl, Or.inl rfl, Or.inl rfl, trivial⟩ ?_
  refine WI.as (ws' := wws TC cy (adx ad 22 [h, q1, q2, q3, q4, g, gw]) 29 zs ++ []) (List.append_nil _).symm ?_
  refine i_aload_n hc dX4_init_61 rfl ?_
  refine i_callWv (T := TC) (ad := adx ad 22 [h, q1, q2, q3, q4, g, gw]) (n := 29) (kr := 22) (ci := 4) (C0 := RX4) (T0 := TX4) (N := 8) (As := []) hc (zX4_rebuild (Nat.le_refl 29) zs) (RB0 (fun τ h => h)) (by decide) rfl rfl rfl (cwV 0 hc.2.2.2.2.1 gX4_init_X4_rebuild rfl rfl rfl qX4_rebuild ⟨(Nat.le_of_ble_eq_true rfl), (Nat.le_of_ble_eq_true rfl)⟩) rfl rfl (Nat.le_of_ble_eq_true rfl) dX4_init_62 ⟨(Nat.le_of_ble_eq_true rfl), (Nat.le_of_ble_eq_true rfl)⟩ (fun σ1 h1 => ?_)
  exact i_ret hc hr hlk ⟨q1, q2, q3, q4, g, gw, σ1, rfl, h1⟩ rfl rfl dX4_init_65

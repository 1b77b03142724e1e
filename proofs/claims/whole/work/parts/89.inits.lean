section MyWorldCalls
variable {cy : Nat → ClassId} {D : va_G} {A : Nat → Prop} {p : Program} {l : Launch} {e : Env} {R : Room} {s : State} {m : MethodId} {args : Array Value} {below : List Frame} {meth : Method} {c : Code} {nL : Nat} {Q : State → Prop} {ce sl : Nat} {lo : List (Option Value)} {st st0 : List Value} {pc : Nat} {cc : ByteArray} {own : String} {Ts : List Cond} {T : Wt} {ad : Nat → Nat} {n : Nat} {σ : St} {wr : va_W}
theorem wws_part {H : Heap} (hP : va_P D vwCl (wws T cy ad n σ ++ wr) H) : va_P D vwCl (wws T cy ad n σ) H := vP_mem.mpr fun q hq => vP_mem.mp hP q (List.mem_append_left _ hq)
theorem wws_partD (hD : va_D A (wws T cy ad n σ ++ wr)) : va_D (fun q => q ∈ (List.range n).map ad) (wws T cy ad n σ) := by
  have h := (vD_mem.mp hD).1
  rw [List.map_append, List.nodup_append] at h
  exact vD_mem.mpr ⟨h.1, fun q hq => by rw [← wws_fst (T := T) (cy := cy) (σ := σ)]; exact List.mem_map.mpr ⟨q, hq, rfl⟩⟩
theorem wws_partA (hD : va_D A (wws T cy ad n σ ++ wr)) : ∀ q, q ∈ (List.range n).map ad → A q := fun q hq => by
  rw [← wws_fst (T := T) (cy := cy) (σ := σ)] at hq
  obtain ⟨x, hx, rfl⟩ := List.mem_map.mp hq
  exact (vD_mem.mp hD).2 x (List.mem_append_left _ hx)
theorem i_callWi (hc : CX p s m args c D cy cc nL own Ts) {y : MethodName} {bytes : ByteArray} {maxL na index kr ci N : Nat} {ret : Option FieldType} {wsL : List Cond} {rm : Room} {C0 : String} {T0 : u_T} {L : List (Option Nat)} {As : List Value} {vc : (Int32 → St → Prop) → Prop} {post : Int32 → St → Prop} (hM : Ci T cy ad n D (fun q => q ∈ (List.range n).map ad) l y wsL rm σ (.ref (ad kr) :: As) vc) (h : vc post) (hk : kr < n) (hT : T.1 kr = 0) (hL : T.2.2.1 kr = (ci, L)) (hcl : vwCl[ci]? = some (C0, T0, N)) (cw : CallW R s args own C0 index y bytes maxL ret wsL rm 0 0 na) (hn : As.length = na) (hst : st0 = As.reverse ++ .ref (ad kr) :: st) (hW : (st.map fun v => v.category).sum ≤ 8) (hd : decode cc pc = .ok (.invokevirtual index, 3)) (hce : ce ≤ R.cells ∧ sl ≤ R.slots) (kk : ∀ (r : Int32) (u : St), post r u → WI D A p l e R s m args below meth c nL Q ce sl (wr ++ wws T cy ad n u) lo (.int r :: st) (pc + 3)) : WI D A p l e R s m args below meth c nL Q ce sl (wws T cy ad n σ ++ wr) lo st0 pc := fun H locs ls hP hD hS hl => by
  have h0 := wws_at (T := T) (cy := cy) (ad := ad) (σ := σ) hk
  have h1 : wshape T cy ad kr (σ.1 kr) (σ.2 kr) = .inr (ci, wflds ad (σ.1 kr) 0 L) := by unfold wshape; rw [hT, hL]; rfl
  rw [h1] at h0
  have hP0 := wws_part hP
  have hD0 := wws_partD hD
  have hF := wws_partA hD
  refine va_calli (va_runV (As := As) (rest := st) (b := ad kr) (C := C0) ⟨hc.1, hc.2.1, hc.2.2.1, hc.2.2.2.1, hc.2.2.2.2.1⟩ (hM post h) cw ⟨Pw_blind, va_recv hc.2.2.2.2.2.1 hP0 hcl h0, fun U hU hW => ⟨rfl, by rw [hU]; exact hP0, va_K.moved hW.alike hc.2.2.2.2.2.1, hD0, NW.warm hW hc.2.2.2.2.2.2⟩⟩ rfl hn hl.1 hst (lv_room hW) hd hce) hS (fun q _ h => hF q h) hF (fun r u t H1 locs1 ht hvm hp hB hz hk1 hS1 => ?_)
  have hB : va_P D vwCl (wws T cy ad n u) H1 := by rw [← ht]; exact hB
  obtain ⟨g1, g2⟩ := vJoin hP hD (fun q _ h => by rw [wws_fst]; exact h) hk1 hF hB (wws_D hD0)
  exact kk r u hp H1 locs1 ls g1 g2 hS1 hl
theorem i_callWv (hc : CX p s m args c D cy cc nL own Ts) {y : MethodName} {bytes : ByteArray} {maxL na index kr ci N : Nat} {ret : Option FieldType} {wsL : List Cond} {rm : Room} {C0 : String} {T0 : u_T} {L : List (Option Nat)} {As : List Value} {vc : (St → Prop) → Prop} {post : St → Prop} (hM : Cv T cy ad n D (fun q => q ∈ (List.range n).map ad) l y wsL rm σ (.ref (ad kr) :: As) vc) (h : vc post) (hk : kr < n) (hT : T.1 kr = 0) (hL : T.2.2.1 kr = (ci, L)) (hcl : vwCl[ci]? = some (C0, T0, N)) (cw : CallW R s args own C0 index y bytes maxL ret wsL rm 0 0 na) (hn : As.length = na) (hst : st0 = As.reverse ++ .ref (ad kr) :: st) (hW : (st.map fun v => v.category).sum ≤ 8) (hd : decode cc pc = .ok (.invokevirtual index, 3)) (hce : ce ≤ R.cells ∧ sl ≤ R.slots) (kk : ∀ (u : St), post u → WI D A p l e R s m args below meth c nL Q ce sl (wr ++ wws T cy ad n u) lo st (pc + 3)) : WI D A p l e R s m args below meth c nL Q ce sl (wws T cy ad n σ ++ wr) lo st0 pc := fun H locs ls hP hD hS hl => by
  have h0 := wws_at (T := T) (cy := cy) (ad := ad) (σ := σ) hk
  have h1 : wshape T cy ad kr (σ.1 kr) (σ.2 kr) = .inr (ci, wflds ad (σ.1 kr) 0 L) := by unfold wshape; rw [hT, hL]; rfl
  rw [h1] at h0
  have hP0 := wws_part hP
  have hD0 := wws_partD hD
  have hF := wws_partA hD
  refine va_callv (va_runV (As := As) (rest := st) (b := ad kr) (C := C0) ⟨hc.1, hc.2.1, hc.2.2.1, hc.2.2.2.1, hc.2.2.2.2.1⟩ (hM post h) cw ⟨Pw_blind, va_recv hc.2.2.2.2.2.1 hP0 hcl h0, fun U hU hW => ⟨rfl, by rw [hU]; exact hP0, va_K.moved hW.alike hc.2.2.2.2.2.1, hD0, NW.warm hW hc.2.2.2.2.2.2⟩⟩ rfl hn hl.1 hst (lv_room hW) hd hce) hS (fun q _ h => hF q h) hF (fun u t H1 locs1 ht hvm hp hB hz hk1 hS1 => ?_)
  have hB : va_P D vwCl (wws T cy ad n u) H1 := by rw [← ht]; exact hB
  obtain ⟨g1, g2⟩ := vJoin hP hD (fun q _ h => by rw [wws_fst]; exact h) hk1 hF hB (wws_D hD0)
  exact kk u hp H1 locs1 ls g1 g2 hS1 hl
end MyWorldCalls

theorem iX1_init_X1 : ∀ w ∈ u_ws RX1 TX1 6, w ∈ wsX1_init := by decide +kernel
abbrev rmX1_init : Room := { frames := 1, cells := 3, slots := 68, locals := 12 }
set_option maxHeartbeats 4000000 in
set_option maxRecDepth 100000 in
theorem kX1_init {l : Launch} {D : va_G} {cy : Nat → ClassId} (h : Nat) : IM l yX1_init wsX1_init rmX1_init D cy [.ref h] [(h, .inr (1, [.null, .null, .null, .int 0, .int 0, .int 0]))] (fun w => ∃ q1 q2 q3 : Nat, w = ([(h, .inr (1, [.ref q1, .ref q2, .ref q3, .int 0, .int 0, .int 0])), (q1, .inl (cy 1, 4, .inl (fun _ => 0))), (q2, .inl (cy 1, 32, .inl (fun _ => 0))), (q3, .inl (cy 1, 32, .inl (fun _ => 0)))] : va_W)) 3 68 := by
  refine IM.of (cc := cX1_init) (nL := 1) (own := RX1) (lo := [some (.ref h)]) (by decide) rfl rfl rfl (lo_start (av := [.ref h]) (k := 0) (allc1_ok (l := [.ref h]) trivial)) (Nat.le_of_ble_eq_true rfl) (fun p e s m args below meth c A hc hnam hr hlk hA hO hOA => ?_)
  refine i_aload_n hc dX1_init_0 rfl ?_
  refine i_objInit hc (by decide +kernel) (by decide +kernel) (List.mem_of_getElem? (i := 3) rfl) (Nat.le_of_ble_eq_true rfl) (Nat.le_of_ble_eq_true rfl) dX1_init_1 ?_
  refine i_aload_n hc dX1_init_4 rfl ?_
  refine i_iconst (v := 4) hc dX1_init_5 (by decide) ?_
  refine i_newa (ty := .int) (k := 1) (t0 := 0) (a0 := (4, .inl (fun _ => 0))) (N' := 4) hc hA (by decide +kernel) rfl rfl (fun _ => rfl) (by decide) (by decide) (by decide) (Nat.le_of_ble_eq_true rfl) (Nat.le_of_ble_eq_true rfl) dX1_init_6 (fun q1 => ?_)
  refine i_putF (ci := 1) (C0 := RX1) (T0 := TX1) (N := 6) (ty := .array .int) (ws' := ((q1, .inl (cy 1, 4, .inl (fun _ => 0))) :: (h, .inr (1, [.ref q1, .null, .null, .int 0, .int 0, .int 0])) :: [])) hc hnam tyX1 iX1_init_X1 tyX1_ok nmX1 rfl 1 rfl 0 (by decide) (by decide +kernel) rfl rfl (by decide +kernel) rfl rfl (Nat.le_of_ble_eq_true rfl) dX1_init_8 rfl ?_
  refine i_aload_n hc dX1_init_11 rfl ?_
  refine i_bipush (v := 32) hc dX1_init_12 (by decide) ?_
  refine i_newa (ty := .int) (k := 1) (t0 := 0) (a0 := (32, .inl (fun _ => 0))) (N' := 32) hc hA (by decide +kernel) rfl rfl (fun _ => rfl) (by decide) (by decide) (by decide) (Nat.le_of_ble_eq_true rfl) (Nat.le_of_ble_eq_true rfl) dX1_init_14 (fun q2 => ?_)
  refine i_putF (ci := 1) (C0 := RX1) (T0 := TX1) (N := 6) (ty := .array .int) (ws' := ((q2, .inl (cy 1, 32, .inl (fun _ => 0))) :: (q1, .inl (cy 1, 4, .inl (fun _ => 0))) :: (h, .inr (1, [.ref q1, .ref q2, .null, .int 0, .int 0, .int 0])) :: [])) hc hnam tyX1 iX1_init_X1 tyX1_ok nmX1 rfl 2 rfl 1 (by decide) (by decide +kernel) rfl rfl (by decide +kernel) rfl rfl (Nat.le_of_ble_eq_true rfl) dX1_init_16 rfl ?_
  refine i_aload_n hc dX1_init_19 rfl ?_
  refine i_bipush (v := 32) hc dX1_init_20 (by decide) ?_
  refine i_newa (ty := .int) (k := 1) (t0 := 0) (a0 := (32, .inl (fun _ => 0))) (N' := 32) hc hA (by decide +kernel) rfl rfl (fun _ => rfl) (by decide) (by decide) (by decide) (Nat.le_of_ble_eq_true rfl) (Nat.le_of_ble_eq_true rfl) dX1_init_22 (fun q3 => ?_)
  refine i_putF (ci := 1) (C0 := RX1) (T0 := TX1) (N := 6) (ty := .array .int) (ws' := ((q3, .inl (cy 1, 32, .inl (fun _ => 0))) :: (q2, .inl (cy 1, 32, .inl (fun _ => 0))) :: (q1, .inl (cy 1, 4, .inl (fun _ => 0))) :: (h, .inr (1, [.ref q1, .ref q2, .ref q3, .int 0, .int 0, .int 0])) :: [])) hc hnam tyX1 iX1_init_X1 tyX1_ok nmX1 rfl 3 rfl 2 (by decide) (by decide +kernel) rfl rfl (by decide +kernel) rfl rfl (Nat.le_of_ble_eq_true rfl) dX1_init_24 rfl ?_
  refine WI.perm (ws' := ([(h, .inr (1, [.ref q1, .ref q2, .ref q3, .int 0, .int 0, .int 0])), (q1, .inl (cy 1, 4, .inl (fun _ => 0))), (q2, .inl (cy 1, 32, .inl (fun _ => 0))), (q3, .inl (cy 1, 32, .inl (fun _ => 0)))] : va_W)) (List.reverse_perm ([(h, .inr (1, [.ref q1, .ref q2, .ref q3, .int 0, .int 0, .int 0])), (q1, .inl (cy 1, 4, .inl (fun _ => 0))), (q2, .inl (cy 1, 32, .inl (fun _ => 0))), (q3, .inl (cy 1, 32, .inl (fun _ => 0)))] : va_W)) ?_
  exact i_ret hc hr hlk ⟨q1, q2, q3, rfl⟩ rfl rfl dX1_init_27
theorem iX2_init_X2 : ∀ w ∈ u_ws RX2 TX2 5, w ∈ wsX2_init := by decide +kernel
abbrev rmX2_init : Room := { frames := 1, cells := 3, slots := 900, locals := 12 }
set_option maxHeartbeats 4000000 in
set_option maxRecDepth 100000 in
theorem kX2_init {l : Launch} {D : va_G} {cy : Nat → ClassId} (h : Nat) : IM l yX2_init wsX2_init rmX2_init D cy [.ref h] [(h, .inr (2, [.null, .null, .null, .int 0, .int 0]))] (fun w => ∃ q1 q2 q3 : Nat, w = ([(h, .inr (2, [.ref q1, .ref q2, .ref q3, .int 0, .int 0])), (q1, .inl (cy 1, 300, .inl (fun _ => 0))), (q2, .inl (cy 1, 300, .inl (fun _ => 0))), (q3, .inl (cy 2, 300, .inl (fun _ => 0)))] : va_W)) 3 900 := by
  refine IM.of (cc := cX2_init) (nL := 1) (own := RX2) (lo := [some (.ref h)]) (by decide) rfl rfl rfl (lo_start (av := [.ref h]) (k := 0) (allc1_ok (l := [.ref h]) trivial)) (Nat.le_of_ble_eq_true rfl) (fun p e s m args below meth c A hc hnam hr hlk hA hO hOA => ?_)
  refine i_aload_n hc dX2_init_0 rfl ?_
  refine i_objInit hc (by decide +kernel) (by decide +kernel) (List.mem_of_getElem? (i := 3) rfl) (Nat.le_of_ble_eq_true rfl) (Nat.le_of_ble_eq_true rfl) dX2_init_1 ?_
  refine i_aload_n hc dX2_init_4 rfl ?_
  refine i_sipush (v := 300) hc dX2_init_5 (by decide) ?_
  refine i_newa (ty := .int) (k := 1) (t0 := 0) (a0 := (300, .inl (fun _ => 0))) (N' := 300) hc hA (by decide +kernel) rfl rfl (fun _ => rfl) (by decide) (by decide) (by decide) (Nat.le_of_ble_eq_true rfl) (Nat.le_of_ble_eq_true rfl) dX2_init_8 (fun q1 => ?_)
  refine i_putF (ci := 2) (C0 := RX2) (T0 := TX2) (N := 5) (ty := .array .int) (ws' := ((q1, .inl (cy 1, 300, .inl (fun _ => 0))) :: (h, .inr (2, [.ref q1, .null, .null, .int 0, .int 0])) :: [])) hc hnam tyX2 iX2_init_X2 tyX2_ok nmX2 rfl 1 rfl 0 (by decide) (by decide +kernel) rfl rfl (by decide +kernel) rfl rfl (Nat.le_of_ble_eq_true rfl) dX2_init_10 rfl ?_
  refine i_aload_n hc dX2_init_13 rfl ?_
  refine i_sipush (v := 300) hc dX2_init_14 (by decide) ?_
  refine i_newa (ty := .int) (k := 1) (t0 := 0) (a0 := (300, .inl (fun _ => 0))) (N' := 300) hc hA (by decide +kernel) rfl rfl (fun _ => rfl) (by decide) (by decide) (by decide) (Nat.le_of_ble_eq_true rfl) (Nat.le_of_ble_eq_true rfl) dX2_init_17 (fun q2 => ?_)
  refine i_putF (ci := 2) (C0 := RX2) (T0 := TX2) (N := 5) (ty := .array .int) (ws' := ((q2, .inl (cy 1, 300, .inl (fun _ => 0))) :: (q1, .inl (cy 1, 300, .inl (fun _ => 0))) :: (h, .inr (2, [.ref q1, .ref q2, .null, .int 0, .int 0])) :: [])) hc hnam tyX2 iX2_init_X2 tyX2_ok nmX2 rfl 2 rfl 1 (by decide) (by decide +kernel) rfl rfl (by decide +kernel) rfl rfl (Nat.le_of_ble_eq_true rfl) dX2_init_19 rfl ?_
  refine i_aload_n hc dX2_init_22 rfl ?_
  refine i_sipush (v := 300) hc dX2_init_23 (by decide) ?_
  refine i_newa (ty := .boolean) (k := 2) (t0 := 1) (a0 := (300, .inl (fun _ => 0))) (N' := 300) hc hA (by decide +kernel) rfl rfl (fun _ => rfl) (by decide) (by decide) (by decide) (Nat.le_of_ble_eq_true rfl) (Nat.le_of_ble_eq_true rfl) dX2_init_26 (fun q3 => ?_)
  refine i_putF (ci := 2) (C0 := RX2) (T0 := TX2) (N := 5) (ty := .array .boolean) (ws' := ((q3, .inl (cy 2, 300, .inl (fun _ => 0))) :: (q2, .inl (cy 1, 300, .inl (fun _ => 0))) :: (q1, .inl (cy 1, 300, .inl (fun _ => 0))) :: (h, .inr (2, [.ref q1, .ref q2, .ref q3, .int 0, .int 0])) :: [])) hc hnam tyX2 iX2_init_X2 tyX2_ok nmX2 rfl 3 rfl 2 (by decide) (by decide +kernel) rfl rfl (by decide +kernel) rfl rfl (Nat.le_of_ble_eq_true rfl) dX2_init_28 rfl ?_
  refine WI.perm (ws' := ([(h, .inr (2, [.ref q1, .ref q2, .ref q3, .int 0, .int 0])), (q1, .inl (cy 1, 300, .inl (fun _ => 0))), (q2, .inl (cy 1, 300, .inl (fun _ => 0))), (q3, .inl (cy 2, 300, .inl (fun _ => 0)))] : va_W)) (List.reverse_perm ([(h, .inr (2, [.ref q1, .ref q2, .ref q3, .int 0, .int 0])), (q1, .inl (cy 1, 300, .inl (fun _ => 0))), (q2, .inl (cy 1, 300, .inl (fun _ => 0))), (q3, .inl (cy 2, 300, .inl (fun _ => 0)))] : va_W)) ?_
  exact i_ret hc hr hlk ⟨q1, q2, q3, rfl⟩ rfl rfl dX2_init_31
theorem iX3_init_X3 : ∀ w ∈ u_ws RX3 TX3 2, w ∈ wsX3_init := by decide +kernel
abbrev rmX3_init : Room := { frames := 1, cells := 1, slots := 64, locals := 12 }
set_option maxHeartbeats 4000000 in
set_option maxRecDepth 100000 in
theorem kX3_init {l : Launch} {D : va_G} {cy : Nat → ClassId} (h : Nat) : IM l yX3_init wsX3_init rmX3_init D cy [.ref h] [(h, .inr (3, [.null, .int 0]))] (fun w => ∃ q1 : Nat, w = ([(h, .inr (3, [.ref q1, .int 0])), (q1, .inl (cy 4, 64, .inr (.inl (fun _ => 0))))] : va_W)) 1 64 := by
  refine IM.of (cc := cX3_init) (nL := 1) (own := RX3) (lo := [some (.ref h)]) (by decide) rfl rfl rfl (lo_start (av := [.ref h]) (k := 0) (allc1_ok (l := [.ref h]) trivial)) (Nat.le_of_ble_eq_true rfl) (fun p e s m args below meth c A hc hnam hr hlk hA hO hOA => ?_)
  refine i_aload_n hc dX3_init_0 rfl ?_
  refine i_objInit hc (by decide +kernel) (by decide +kernel) (List.mem_of_getElem? (i := 3) rfl) (Nat.le_of_ble_eq_true rfl) (Nat.le_of_ble_eq_true rfl) dX3_init_1 ?_
  refine i_aload_n hc dX3_init_4 rfl ?_
  refine i_bipush (v := 64) hc dX3_init_5 (by decide) ?_
  refine i_newa (ty := .long) (k := 4) (t0 := 3) (a0 := (64, .inr (.inl (fun _ => 0)))) (N' := 64) hc hA (by decide +kernel) rfl rfl (fun _ => rfl) (by decide) (by decide) (by decide) (Nat.le_of_ble_eq_true rfl) (Nat.le_of_ble_eq_true rfl) dX3_init_7 (fun q1 => ?_)
  refine i_putF (ci := 3) (C0 := RX3) (T0 := TX3) (N := 2) (ty := .array .long) (ws' := ((q1, .inl (cy 4, 64, .inr (.inl (fun _ => 0)))) :: (h, .inr (3, [.ref q1, .int 0])) :: [])) hc hnam tyX3 iX3_init_X3 tyX3_ok nmX3 rfl 1 rfl 0 (by decide) (by decide +kernel) rfl rfl (by decide +kernel) rfl rfl (Nat.le_of_ble_eq_true rfl) dX3_init_9 rfl ?_
  refine WI.perm (ws' := ([(h, .inr (3, [.ref q1, .int 0])), (q1, .inl (cy 4, 64, .inr (.inl (fun _ => 0))))] : va_W)) (List.reverse_perm ([(h, .inr (3, [.ref q1, .int 0])), (q1, .inl (cy 4, 64, .inr (.inl (fun _ => 0))))] : va_W)) ?_
  exact i_ret hc hr hlk ⟨q1, rfl⟩ rfl rfl dX3_init_12
theorem iX5_init_X5 : ∀ w ∈ u_ws RX5 TX5 2, w ∈ wsX5_init := by decide +kernel
abbrev rmX5_init : Room := { frames := 1, cells := 1, slots := 648, locals := 12 }
set_option maxHeartbeats 4000000 in
set_option maxRecDepth 100000 in
theorem kX5_init {l : Launch} {D : va_G} {cy : Nat → ClassId} (h : Nat) : IM l yX5_init wsX5_init rmX5_init D cy [.ref h] [(h, .inr (5, [.null, .int 0]))] (fun w => ∃ q1 : Nat, w = ([(h, .inr (5, [.ref q1, .int 0])), (q1, .inl (cy 3, 648, .inl (fun _ => 0)))] : va_W)) 1 648 := by
  refine IM.of (cc := cX5_init) (nL := 1) (own := RX5) (lo := [some (.ref h)]) (by decide) rfl rfl rfl (lo_start (av := [.ref h]) (k := 0) (allc1_ok (l := [.ref h]) trivial)) (Nat.le_of_ble_eq_true rfl) (fun p e s m args below meth c A hc hnam hr hlk hA hO hOA => ?_)
  refine i_aload_n hc dX5_init_0 rfl ?_
  refine i_objInit hc (by decide +kernel) (by decide +kernel) (List.mem_of_getElem? (i := 3) rfl) (Nat.le_of_ble_eq_true rfl) (Nat.le_of_ble_eq_true rfl) dX5_init_1 ?_
  refine i_aload_n hc dX5_init_4 rfl ?_
  refine i_sipush (v := 648) hc dX5_init_5 (by decide) ?_
  refine i_newa (ty := .byte) (k := 3) (t0 := 2) (a0 := (648, .inl (fun _ => 0))) (N' := 648) hc hA (by decide +kernel) rfl rfl (fun _ => rfl) (by decide) (by decide) (by decide) (Nat.le_of_ble_eq_true rfl) (Nat.le_of_ble_eq_true rfl) dX5_init_8 (fun q1 => ?_)
  refine i_putF (ci := 5) (C0 := RX5) (T0 := TX5) (N := 2) (ty := .array .byte) (ws' := ((q1, .inl (cy 3, 648, .inl (fun _ => 0))) :: (h, .inr (5, [.ref q1, .int 0])) :: [])) hc hnam tyX5 iX5_init_X5 tyX5_ok nmX5 rfl 1 rfl 0 (by decide) (by decide +kernel) rfl rfl (by decide +kernel) rfl rfl (Nat.le_of_ble_eq_true rfl) dX5_init_10 rfl ?_
  refine WI.perm (ws' := ([(h, .inr (5, [.ref q1, .int 0])), (q1, .inl (cy 3, 648, .inl (fun _ => 0)))] : va_W)) (List.reverse_perm ([(h, .inr (5, [.ref q1, .int 0])), (q1, .inl (cy 3, 648, .inl (fun _ => 0)))] : va_W)) ?_
  exact i_ret hc hr hlk ⟨q1, rfl⟩ rfl rfl dX5_init_13
theorem iX7_init_X7 : ∀ w ∈ u_ws RX7 TX7 4, w ∈ wsX7_init := by decide +kernel
abbrev rmX7_init : Room := { frames := 1, cells := 4, slots := 324, locals := 12 }
set_option maxHeartbeats 4000000 in
set_option maxRecDepth 100000 in
theorem kX7_init {l : Launch} {D : va_G} {cy : Nat → ClassId} (h : Nat) : IM l yX7_init wsX7_init rmX7_init D cy [.ref h] [(h, .inr (7, [.null, .null, .null, .null]))] (fun w => ∃ q1 q2 q3 q4 : Nat, w = ([(h, .inr (7, [.ref q1, .ref q2, .ref q3, .ref q4])), (q1, .inl (cy 1, 81, .inl (fun _ => 0))), (q2, .inl (cy 1, 81, .inl (fun _ => 0))), (q3, .inl (cy 1, 81, .inl (fun _ => 0))), (q4, .inl (cy 1, 81, .inl (fun _ => 0)))] : va_W)) 4 324 := by
  refine IM.of (cc := cX7_init) (nL := 1) (own := RX7) (lo := [some (.ref h)]) (by decide) rfl rfl rfl (lo_start (av := [.ref h]) (k := 0) (allc1_ok (l := [.ref h]) trivial)) (Nat.le_of_ble_eq_true rfl) (fun p e s m args below meth c A hc hnam hr hlk hA hO hOA => ?_)
  refine i_aload_n hc dX7_init_0 rfl ?_
  refine i_objInit hc (by decide +kernel) (by decide +kernel) (List.mem_of_getElem? (i := 3) rfl) (Nat.le_of_ble_eq_true rfl) (Nat.le_of_ble_eq_true rfl) dX7_init_1 ?_
  refine i_aload_n hc dX7_init_4 rfl ?_
  refine i_bipush (v := 81) hc dX7_init_5 (by decide) ?_
  refine i_newa (ty := .int) (k := 1) (t0 := 0) (a0 := (81, .inl (fun _ => 0))) (N' := 81) hc hA (by decide +kernel) rfl rfl (fun _ => rfl) (by decide) (by decide) (by decide) (Nat.le_of_ble_eq_true rfl) (Nat.le_of_ble_eq_true rfl) dX7_init_7 (fun q1 => ?_)
  refine i_putF (ci := 7) (C0 := RX7) (T0 := TX7) (N := 4) (ty := .array .int) (ws' := ((q1, .inl (cy 1, 81, .inl (fun _ => 0))) :: (h, .inr (7, [.ref q1, .null, .null, .null])) :: [])) hc hnam tyX7 iX7_init_X7 tyX7_ok nmX7 rfl 1 rfl 0 (by decide) (by decide +kernel) rfl rfl (by decide +kernel) rfl rfl (Nat.le_of_ble_eq_true rfl) dX7_init_9 rfl ?_
  refine i_aload_n hc dX7_init_12 rfl ?_
  refine i_bipush (v := 81) hc dX7_init_13 (by decide) ?_
  refine i_newa (ty := .int) (k := 1) (t0 := 0) (a0 := (81, .inl (fun _ => 0))) (N' := 81) hc hA (by decide +kernel) rfl rfl (fun _ => rfl) (by decide) (by decide) (by decide) (Nat.le_of_ble_eq_true rfl) (Nat.le_of_ble_eq_true rfl) dX7_init_15 (fun q2 => ?_)
  refine i_putF (ci := 7) (C0 := RX7) (T0 := TX7) (N := 4) (ty := .array .int) (ws' := ((q2, .inl (cy 1, 81, .inl (fun _ => 0))) :: (q1, .inl (cy 1, 81, .inl (fun _ => 0))) :: (h, .inr (7, [.ref q1, .ref q2, .null, .null])) :: [])) hc hnam tyX7 iX7_init_X7 tyX7_ok nmX7 rfl 2 rfl 1 (by decide) (by decide +kernel) rfl rfl (by decide +kernel) rfl rfl (Nat.le_of_ble_eq_true rfl) dX7_init_17 rfl ?_
  refine i_aload_n hc dX7_init_20 rfl ?_
  refine i_bipush (v := 81) hc dX7_init_21 (by decide) ?_
  refine i_newa (ty := .int) (k := 1) (t0 := 0) (a0 := (81, .inl (fun _ => 0))) (N' := 81) hc hA (by decide +kernel) rfl rfl (fun _ => rfl) (by decide) (by decide) (by decide) (Nat.le_of_ble_eq_true rfl) (Nat.le_of_ble_eq_true rfl) dX7_init_23 (fun q3 => ?_)
  refine i_putF (ci := 7) (C0 := RX7) (T0 := TX7) (N := 4) (ty := .array .int) (ws' := ((q3, .inl (cy 1, 81, .inl (fun _ => 0))) :: (q2, .inl (cy 1, 81, .inl (fun _ => 0))) :: (q1, .inl (cy 1, 81, .inl (fun _ => 0))) :: (h, .inr (7, [.ref q1, .ref q2, .ref q3, .null])) :: [])) hc hnam tyX7 iX7_init_X7 tyX7_ok nmX7 rfl 3 rfl 2 (by decide) (by decide +kernel) rfl rfl (by decide +kernel) rfl rfl (Nat.le_of_ble_eq_true rfl) dX7_init_25 rfl ?_
  refine i_aload_n hc dX7_init_28 rfl ?_
  refine i_bipush (v := 81) hc dX7_init_29 (by decide) ?_
  refine i_newa (ty := .int) (k := 1) (t0 := 0) (a0 := (81, .inl (fun _ => 0))) (N' := 81) hc hA (by decide +kernel) rfl rfl (fun _ => rfl) (by decide) (by decide) (by decide) (Nat.le_of_ble_eq_true rfl) (Nat.le_of_ble_eq_true rfl) dX7_init_31 (fun q4 => ?_)
  refine i_putF (ci := 7) (C0 := RX7) (T0 := TX7) (N := 4) (ty := .array .int) (ws' := ((q4, .inl (cy 1, 81, .inl (fun _ => 0))) :: (q3, .inl (cy 1, 81, .inl (fun _ => 0))) :: (q2, .inl (cy 1, 81, .inl (fun _ => 0))) :: (q1, .inl (cy 1, 81, .inl (fun _ => 0))) :: (h, .inr (7, [.ref q1, .ref q2, .ref q3, .ref q4])) :: [])) hc hnam tyX7 iX7_init_X7 tyX7_ok nmX7 rfl 4 rfl 3 (by decide) (by decide +kernel) rfl rfl (by decide +kernel) rfl rfl (Nat.le_of_ble_eq_true rfl) dX7_init_33 rfl ?_
  refine WI.perm (ws' := ([(h, .inr (7, [.ref q1, .ref q2, .ref q3, .ref q4])), (q1, .inl (cy 1, 81, .inl (fun _ => 0))), (q2, .inl (cy 1, 81, .inl (fun _ => 0))), (q3, .inl (cy 1, 81, .inl (fun _ => 0))), (q4, .inl (cy 1, 81, .inl (fun _ => 0)))] : va_W)) (List.reverse_perm ([(h, .inr (7, [.ref q1, .ref q2, .ref q3, .ref q4])), (q1, .inl (cy 1, 81, .inl (fun _ => 0))), (q2, .inl (cy 1, 81, .inl (fun _ => 0))), (q3, .inl (cy 1, 81, .inl (fun _ => 0))), (q4, .inl (cy 1, 81, .inl (fun _ => 0)))] : va_W)) ?_
  exact i_ret hc hr hlk ⟨q1, q2, q3, q4, rfl⟩ rfl rfl dX7_init_36
theorem iX0_init_X0 : ∀ w ∈ u_ws RX0 TX0 3, w ∈ wsX0_init := by decide +kernel
abbrev rmX0_init : Room := { frames := 1, cells := 10, slots := 520, locals := 12 }
set_option maxHeartbeats 4000000 in
set_option maxRecDepth 100000 in
theorem kX0_init {l : Launch} {D : va_G} {cy : Nat → ClassId} (h : Nat) (g : Nat) : IM l yX0_init wsX0_init rmX0_init D cy [.ref h, .ref g] [(h, .inr (0, [.null, .null, .null]))] (fun w => ∃ q1 r10 r11 r12 r13 q2 r20 r21 r22 r23 : Nat, w = ([(h, .inr (0, [.ref g, .ref q1, .ref q2])), (q1, .inl (cy 6, 4, .inr (.inr (.inr (.inr (fun i => [r10, r11, r12, r13][i]?)))))), (r10, .inl (cy 1, 64, .inl (fun _ => 0))), (r11, .inl (cy 1, 64, .inl (fun _ => 0))), (r12, .inl (cy 1, 64, .inl (fun _ => 0))), (r13, .inl (cy 1, 64, .inl (fun _ => 0))), (q2, .inl (cy 6, 4, .inr (.inr (.inr (.inr (fun i => [r20, r21, r22, r23][i]?)))))), (r20, .inl (cy 1, 64, .inl (fun _ => 0))), (r21, .inl (cy 1, 64, .inl (fun _ => 0))), (r22, .inl (cy 1, 64, .inl (fun _ => 0))), (r23, .inl (cy 1, 64, .inl (fun _ => 0)))] : va_W)) 10 520 := by
  refine IM.of (cc := cX0_init) (nL := 2) (own := RX0) (lo := [some (.ref h), some (.ref g)]) (by decide) rfl rfl rfl (lo_start (av := [.ref h, .ref g]) (k := 0) (allc1_ok (l := [.ref h, .ref g]) trivial)) (Nat.le_of_ble_eq_true rfl) (fun p e s m args below meth c A hc hnam hr hlk hA hO hOA => ?_)
  refine i_aload_n hc dX0_init_0 rfl ?_
  refine i_objInit hc (by decide +kernel) (by decide +kernel) (List.mem_of_getElem? (i := 3) rfl) (Nat.le_of_ble_eq_true rfl) (Nat.le_of_ble_eq_true rfl) dX0_init_1 ?_
  refine i_aload_n hc dX0_init_4 rfl ?_
  refine i_iconst (v := 4) hc dX0_init_5 (by decide) ?_
  refine i_bipush (v := 64) hc dX0_init_6 (by decide) ?_
  refine i_mna hc hA hOA (by decide +kernel) (by decide +kernel) (Nat.le_of_ble_eq_true rfl) (Nat.le_of_ble_eq_true rfl) dX0_init_8 (fun q1 r10 r11 r12 r13 => ?_)
  refine i_putF (ci := 0) (C0 := RX0) (T0 := TX0) (N := 3) (ty := .array (.array .int)) (ws' := ((q1, .inl (cy 6, 4, .inr (.inr (.inr (.inr (fun i => [r10, r11, r12, r13][i]?)))))) :: (r10, .inl (cy 1, 64, .inl (fun _ => 0))) :: (r11, .inl (cy 1, 64, .inl (fun _ => 0))) :: (r12, .inl (cy 1, 64, .inl (fun _ => 0))) :: (r13, .inl (cy 1, 64, .inl (fun _ => 0))) :: (h, .inr (0, [.null, .ref q1, .null])) :: [])) hc hnam tyX0 iX0_init_X0 tyX0_ok nmX0 rfl 5 rfl 1 (by decide) (by decide +kernel) rfl rfl (by decide +kernel) rfl rfl (Nat.le_of_ble_eq_true rfl) dX0_init_12 rfl ?_
  refine i_aload_n hc dX0_init_15 rfl ?_
  refine i_iconst (v := 4) hc dX0_init_16 (by decide) ?_
  refine i_bipush (v := 64) hc dX0_init_17 (by decide) ?_
  refine i_mna hc hA hOA (by decide +kernel) (by decide +kernel) (Nat.le_of_ble_eq_true rfl) (Nat.le_of_ble_eq_true rfl) dX0_init_19 (fun q2 r20 r21 r22 r23 => ?_)
  refine i_putF (ci := 0) (C0 := RX0) (T0 := TX0) (N := 3) (ty := .array (.array .int)) (ws' := ((q2, .inl (cy 6, 4, .inr (.inr (.inr (.inr (fun i => [r20, r21, r22, r23][i]?)))))) :: (r20, .inl (cy 1, 64, .inl (fun _ => 0))) :: (r21, .inl (cy 1, 64, .inl (fun _ => 0))) :: (r22, .inl (cy 1, 64, .inl (fun _ => 0))) :: (r23, .inl (cy 1, 64, .inl (fun _ => 0))) :: (q1, .inl (cy 6, 4, .inr (.inr (.inr (.inr (fun i => [r10, r11, r12, r13][i]?)))))) :: (r10, .inl (cy 1, 64, .inl (fun _ => 0))) :: (r11, .inl (cy 1, 64, .inl (fun _ => 0))) :: (r12, .inl (cy 1, 64, .inl (fun _ => 0))) :: (r13, .inl (cy 1, 64, .inl (fun _ => 0))) :: (h, .inr (0, [.null, .ref q1, .ref q2])) :: [])) hc hnam tyX0 iX0_init_X0 tyX0_ok nmX0 rfl 10 rfl 2 (by decide) (by decide +kernel) rfl rfl (by decide +kernel) rfl rfl (Nat.le_of_ble_eq_true rfl) dX0_init_23 rfl ?_
  refine i_aload_n hc dX0_init_26 rfl ?_
  refine i_aload_n hc dX0_init_27 rfl ?_
  refine i_putF (ci := 0) (C0 := RX0) (T0 := TX0) (N := 3) (ty := .object "CubeDesk$Lattice") (ws' := ((q2, .inl (cy 6, 4, .inr (.inr (.inr (.inr (fun i => [r20, r21, r22, r23][i]?)))))) :: (r20, .inl (cy 1, 64, .inl (fun _ => 0))) :: (r21, .inl (cy 1, 64, .inl (fun _ => 0))) :: (r22, .inl (cy 1, 64, .inl (fun _ => 0))) :: (r23, .inl (cy 1, 64, .inl (fun _ => 0))) :: (q1, .inl (cy 6, 4, .inr (.inr (.inr (.inr (fun i => [r10, r11, r12, r13][i]?)))))) :: (r10, .inl (cy 1, 64, .inl (fun _ => 0))) :: (r11, .inl (cy 1, 64, .inl (fun _ => 0))) :: (r12, .inl (cy 1, 64, .inl (fun _ => 0))) :: (r13, .inl (cy 1, 64, .inl (fun _ => 0))) :: (h, .inr (0, [.ref g, .ref q1, .ref q2])) :: [])) hc hnam tyX0 iX0_init_X0 tyX0_ok nmX0 rfl 10 rfl 0 (by decide) (by decide +kernel) rfl rfl (by decide +kernel) rfl rfl (Nat.le_of_ble_eq_true rfl) dX0_init_28 rfl ?_
  refine WI.perm (ws' := ([(h, .inr (0, [.ref g, .ref q1, .ref q2])), (q1, .inl (cy 6, 4, .inr (.inr (.inr (.inr (fun i => [r10, r11, r12, r13][i]?)))))), (r10, .inl (cy 1, 64, .inl (fun _ => 0))), (r11, .inl (cy 1, 64, .inl (fun _ => 0))), (r12, .inl (cy 1, 64, .inl (fun _ => 0))), (r13, .inl (cy 1, 64, .inl (fun _ => 0))), (q2, .inl (cy 6, 4, .inr (.inr (.inr (.inr (fun i => [r20, r21, r22, r23][i]?)))))), (r20, .inl (cy 1, 64, .inl (fun _ => 0))), (r21, .inl (cy 1, 64, .inl (fun _ => 0))), (r22, .inl (cy 1, 64, .inl (fun _ => 0))), (r23, .inl (cy 1, 64, .inl (fun _ => 0)))] : va_W)) (List.Perm.trans (List.perm_append_comm (l₁ := ([(q2, .inl (cy 6, 4, .inr (.inr (.inr (.inr (fun i => [r20, r21, r22, r23][i]?)))))), (r20, .inl (cy 1, 64, .inl (fun _ => 0))), (r21, .inl (cy 1, 64, .inl (fun _ => 0))), (r22, .inl (cy 1, 64, .inl (fun _ => 0))), (r23, .inl (cy 1, 64, .inl (fun _ => 0)))] : va_W)) (l₂ := ([(q1, .inl (cy 6, 4, .inr (.inr (.inr (.inr (fun i => [r10, r11, r12, r13][i]?)))))), (r10, .inl (cy 1, 64, .inl (fun _ => 0))), (r11, .inl (cy 1, 64, .inl (fun _ => 0))), (r12, .inl (cy 1, 64, .inl (fun _ => 0))), (r13, .inl (cy 1, 64, .inl (fun _ => 0))), (h, .inr (0, [.ref g, .ref q1, .ref q2]))] : va_W))) (List.Perm.append_right ([(q2, .inl (cy 6, 4, .inr (.inr (.inr (.inr (fun i => [r20, r21, r22, r23][i]?)))))), (r20, .inl (cy 1, 64, .inl (fun _ => 0))), (r21, .inl (cy 1, 64, .inl (fun _ => 0))), (r22, .inl (cy 1, 64, .inl (fun _ => 0))), (r23, .inl (cy 1, 64, .inl (fun _ => 0)))] : va_W) (List.perm_append_comm (l₁ := ([(q1, .inl (cy 6, 4, .inr (.inr (.inr (.inr (fun i => [r10, r11, r12, r13][i]?)))))), (r10, .inl (cy 1, 64, .inl (fun _ => 0))), (r11, .inl (cy 1, 64, .inl (fun _ => 0))), (r12, .inl (cy 1, 64, .inl (fun _ => 0))), (r13, .inl (cy 1, 64, .inl (fun _ => 0)))] : va_W)) (l₂ := ([(h, .inr (0, [.ref g, .ref q1, .ref q2]))] : va_W))))) ?_
  exact i_ret hc hr hlk ⟨q1, r10, r11, r12, r13, q2, r20, r21, r22, r23, rfl⟩ rfl rfl dX0_init_31

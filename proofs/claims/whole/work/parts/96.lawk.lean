/-! ===== what the tables say at the law's start ===== -/
theorem nestF_in : ∀ q ∈ nestF, Cond.fieldLinkNest q.1 q.2.1 q.2.2.1 q.2.2.2.1 q.2.2.2.2.1 q.2.2.2.2.2 ∈ lw_tbl := by decide +kernel
theorem nestM_in : ∀ q ∈ nestM, Cond.methodLinkNest q.1 q.2.1 q.2.2.1 q.2.2.2 ∈ lw_tbl := by decide +kernel
theorem instX0 : Cond.instantiable RX0 3 ∈ lw_tbl := by decide +kernel
theorem instX1 : Cond.instantiable RX1 6 ∈ lw_tbl := by decide +kernel
theorem instX2 : Cond.instantiable RX2 5 ∈ lw_tbl := by decide +kernel
theorem instX3 : Cond.instantiable RX3 2 ∈ lw_tbl := by decide +kernel
theorem instX4 : Cond.instantiable RX4 8 ∈ lw_tbl := by decide +kernel
theorem instX5 : Cond.instantiable RX5 2 ∈ lw_tbl := by decide +kernel
theorem instX6 : Cond.instantiable RX6 2 ∈ lw_tbl := by decide +kernel
theorem instX7 : Cond.instantiable RX7 4 ∈ lw_tbl := by decide +kernel
theorem instX8 : Cond.instantiable RX8 8 ∈ lw_tbl := by decide +kernel
theorem instX9 : Cond.instantiable RX9 25 ∈ lw_tbl := by decide +kernel
theorem arrI_in : Cond.arrayClass .int ∈ lw_tbl := by decide +kernel
theorem arrZ_in : Cond.arrayClass .boolean ∈ lw_tbl := by decide +kernel
theorem arrB_in : Cond.arrayClass .byte ∈ lw_tbl := by decide +kernel
theorem arrJ_in : Cond.arrayClass .long ∈ lw_tbl := by decide +kernel
theorem arrD_in : Cond.arrayOver (.object "CubeDesk$Dimension") ∈ lw_tbl := by decide +kernel
theorem arrII_in : Cond.arrayOver (.array .int) ∈ lw_tbl := by decide +kernel
theorem law_K {s : State} {args : Array Value} (hts : ∀ w ∈ lw_tbl, w.before args s = true) : ∃ (D : va_G) (cy : Nat → ClassId), va_K D vwCl (tysW cy) s ∧ NW s ∧ va_AO "CubeDesk$Dimension" s ∧ va_AOA .int s := by
  obtain ⟨c0, i0, k0⟩ := u_known (C := RX0) (T := TX0) (N := 3) hts inX0 (hts _ instX0)
  obtain ⟨c1, i1, k1⟩ := u_known (C := RX1) (T := TX1) (N := 6) hts inX1 (hts _ instX1)
  obtain ⟨c2, i2, k2⟩ := u_known (C := RX2) (T := TX2) (N := 5) hts inX2 (hts _ instX2)
  obtain ⟨c3, i3, k3⟩ := u_known (C := RX3) (T := TX3) (N := 2) hts inX3 (hts _ instX3)
  obtain ⟨c4, i4, k4⟩ := u_known (C := RX4) (T := TX4) (N := 8) hts inX4 (hts _ instX4)
  obtain ⟨c5, i5, k5⟩ := u_known (C := RX5) (T := TX5) (N := 2) hts inX5 (hts _ instX5)
  obtain ⟨c6, i6, k6⟩ := u_known (C := RX6) (T := TX6) (N := 2) hts inX6 (hts _ instX6)
  obtain ⟨c7, i7, k7⟩ := u_known (C := RX7) (T := TX7) (N := 4) hts inX7 (hts _ instX7)
  obtain ⟨c8, i8, k8⟩ := u_known (C := RX8) (T := TX8) (N := 8) hts inX8 (hts _ instX8)
  obtain ⟨c9, i9, k9⟩ := u_known (C := RX9) (T := TX9) (N := 25) hts inX9 (hts _ instX9)
  obtain ⟨a1, x1, m1, f1, g1, h1⟩ := Cond.arrayClass_spec (hts _ arrI_in)
  obtain ⟨a2, x2, m2, f2, g2, h2⟩ := Cond.arrayClass_spec (hts _ arrZ_in)
  obtain ⟨a3, x3, m3, f3, g3, h3⟩ := Cond.arrayClass_spec (hts _ arrB_in)
  obtain ⟨a4, x4, m4, f4, g4, h4⟩ := Cond.arrayClass_spec (hts _ arrJ_in)
  have hO : va_AO "CubeDesk$Dimension" s := va_AO.of (hts _ arrD_in)
  have hOA : va_AOA .int s := va_AOA.of (hts _ arrII_in)
  obtain ⟨m5, a5, x5, p5, -, g5, h5, f5⟩ := Cond.arrayOver_spec (hts _ arrD_in)
  obtain ⟨m6, a6, x6, p6, -, g6, h6, f6⟩ := aoa_spec (hts _ arrII_in)
  refine ⟨(fun k => match k with | 0 => c0 | 1 => c1 | 2 => c2 | 3 => c3 | 4 => c4 | 5 => c5 | 6 => c6 | 7 => c7 | 8 => c8 | _ => c9, fun k => match k with | 0 => i0 | 1 => i1 | 2 => i2 | 3 => i3 | 4 => i4 | 5 => i5 | 6 => i6 | 7 => i7 | 8 => i8 | _ => i9), (fun k => match k with | 1 => a1 | 2 => a2 | 3 => a3 | 4 => a4 | 5 => a5 | _ => a6), ⟨fun c q hq => ?_, fun k q hk => ?_⟩, ⟨fun q hq => va_Nw.of rfl (hts _ (nestF_in q hq)), fun q hq => va_Nw.of rfl (hts _ (nestM_in q hq))⟩, hO, hOA⟩
  · match c, hq with
    | 0, hq => cases hq; exact k0
    | 1, hq => cases hq; exact k1
    | 2, hq => cases hq; exact k2
    | 3, hq => cases hq; exact k3
    | 4, hq => cases hq; exact k4
    | 5, hq => cases hq; exact k5
    | 6, hq => cases hq; exact k6
    | 7, hq => cases hq; exact k7
    | 8, hq => cases hq; exact k8
    | 9, hq => cases hq; exact k9
    | c + 10, hq => cases hq
  · match k, hk with
    | 0, hk => cases hk; exact ⟨fun N z => ⟨(fun k h => by cases h), x1, g1, m1, h1⟩, f1⟩
    | 1, hk => cases hk; exact ⟨fun N z => ⟨(fun k h => by cases h), x2, g2, m2, h2⟩, f2⟩
    | 2, hk => cases hk; exact ⟨fun N z => ⟨(fun k h => by cases h), x3, g3, m3, h3⟩, f3⟩
    | 3, hk => cases hk; exact ⟨fun N z => ⟨(fun k h => by cases h), x4, g4, m4, h4⟩, f4⟩
    | 4, hk => cases hk; exact ⟨fun N z => ⟨(fun k h => by cases h), x5, g5, m5, h5⟩, x5, m5, g5, h5, p5, f5⟩
    | 5, hk => cases hk; exact ⟨fun N z => ⟨(fun k h => by cases h), x6, g6, m6, h6⟩, f6⟩
    | k + 6, hk => cases hk
section MyScript
variable {cy : Nat → ClassId} {D : va_G} {p : Program} {l : Launch} {e : Env} {R : Room} {s : State} {m : MethodId} {args : Array Value} {below : List Frame} {meth : Method} {c : Code} {nL : Nat} {Q : State → Prop} {ce sl : Nat} {ws : va_W} {lo : List (Option Value)} {st : List Value} {pc : Nat} {cc : ByteArray} {own : String} {Ts : List Cond} {b L : Nat} {xs : Nat → Int32}
theorem i_slen (hc : CX p s m args c D cy cc nL own Ts) (hX : va_X b L xs s s.heap) (hbl : b < s.heap.size) (hd : decode cc pc = .ok (.arraylength, 1)) (k : WI D (fun q : Nat => s.heap.size ≤ q) p l e R s m args below meth c nL Q ce sl ws lo (.int (nI L) :: st) (pc + 1)) : WI D (fun q : Nat => s.heap.size ≤ q) p l e R s m args below meth c nL Q ce sl ws lo (.ref b :: st) pc := fun H locs ls hP hD hS hl =>
  va_slen hc.1 hc.2.1 hX hbl (Nat.not_le.mpr hbl) hS hd (k H locs ls hP hD hS hl)
theorem i_sld (hc : CX p s m args c D cy cc nL own Ts) (hX : va_X b L xs s s.heap) (hbl : b < s.heap.size) (hL : L ≤ 2560) {i : Nat} (hi : i < L) (hd : decode cc pc = .ok (.iaload, 1)) (k : WI D (fun q : Nat => s.heap.size ≤ q) p l e R s m args below meth c nL Q ce sl ws lo (.int (xs i) :: st) (pc + 1)) : WI D (fun q : Nat => s.heap.size ≤ q) p l e R s m args below meth c nL Q ce sl ws lo (.int (nI i) :: .ref b :: st) pc := fun H locs ls hP hD hS hl =>
  va_sld hc.1 hc.2.1 hX hbl (Nat.not_le.mpr hbl) hS (vp_in_nI hi (by omega)) hd (by rw [nI_clamp (by omega)]; exact k H locs ls hP hD hS hl)
theorem i_rd (hc : CX p s m args c D cy cc nL own Ts) (hX : va_X b L xs s s.heap) (hbl : b < s.heap.size) (hL : L ≤ 2560) (i j : Nat) {z : Int} (hi : i + j < L) (h0 : lo[0]? = some (some (.ref b))) (h3 : lo[3]? = some (some (.int (nI i)))) (d0 : decode cc pc = .ok (.aload_n 0, 1)) (d1 : decode cc (pc + 1) = .ok (.iload_n 3, 1)) (d2 : decode cc (pc + 1 + 1) = .ok (.iconst z, 1)) (hz : Int32.ofInt z = nI j) (d3 : decode cc (pc + 1 + 1 + 1) = .ok (.iadd, 1)) (d4 : decode cc (pc + 1 + 1 + 1 + 1) = .ok (.iaload, 1)) (k : WI D (fun q : Nat => s.heap.size ≤ q) p l e R s m args below meth c nL Q ce sl ws lo (.int (xs (i + j)) :: st) (pc + 5)) : WI D (fun q : Nat => s.heap.size ≤ q) p l e R s m args below meth c nL Q ce sl ws lo st pc := by
  refine i_aload_n hc d0 h0 ?_
  refine i_iload_n hc d1 h3 ?_
  refine i_iconst (v := nI j) hc d2 hz ?_
  refine i_iadd hc d3 ?_
  rw [nI_add]
  exact i_sld hc hX hbl hL hi d4 k
end MyScript

/-! ===== worlds as lists: what counts is which cells stand in them ===== -/
theorem vP_mem {D : va_G} {cl : List vw_C} {ws : va_W} {H : Heap} : va_P D cl ws H ↔ ∀ q ∈ ws, va_at D cl q H :=
  ⟨fun h q hq => by obtain ⟨i, hi⟩ := List.getElem?_of_mem hq; exact h i q hi, fun h k q hq => h q (List.mem_of_getElem? hq)⟩
theorem vD_mem {A : Nat → Prop} {ws : va_W} : va_D A ws ↔ (ws.map Prod.fst).Nodup ∧ ∀ q ∈ ws, A q.1 := by
  constructor
  · rintro ⟨h1, h2⟩
    refine ⟨List.pairwise_iff_getElem.mpr fun i j hi hj hij e => ?_, fun q hq => by obtain ⟨i, hi⟩ := List.getElem?_of_mem hq; exact h2 i q hi⟩
    rw [List.length_map] at hi hj
    rw [List.getElem_map, List.getElem_map] at e
    have := h1 i j _ _ (List.getElem?_eq_getElem hi) (List.getElem?_eq_getElem hj) e
    omega
  · rintro ⟨h1, h2⟩
    refine ⟨fun i j p q hp hq e => ?_, fun k q hq => h2 q (List.mem_of_getElem? hq)⟩
    obtain ⟨hi, ei⟩ := List.getElem?_eq_some_iff.mp hp
    obtain ⟨hj, ej⟩ := List.getElem?_eq_some_iff.mp hq
    have h3 := List.pairwise_iff_getElem.mp h1
    rcases Nat.lt_trichotomy i j with h | h | h
    · exact absurd (by rw [List.getElem_map, List.getElem_map, ei, ej]; exact e) (h3 i j (by simpa using hi) (by simpa using hj) h)
    · exact h
    · exact absurd (by rw [List.getElem_map, List.getElem_map, ei, ej]; exact e.symm) (h3 j i (by simpa using hj) (by simpa using hi) h)
theorem vP_perm {D : va_G} {cl : List vw_C} {ws ws' : va_W} {H : Heap} (h : ws.Perm ws') (hP : va_P D cl ws H) : va_P D cl ws' H := vP_mem.mpr fun q hq => vP_mem.mp hP q (h.mem_iff.mpr hq)
theorem vD_perm {A : Nat → Prop} {ws ws' : va_W} (h : ws.Perm ws') (hD : va_D A ws) : va_D A ws' := by
  obtain ⟨h1, h2⟩ := vD_mem.mp hD
  exact vD_mem.mpr ⟨(h.map Prod.fst).nodup_iff.mp h1, fun q hq => h2 q (h.mem_iff.mpr hq)⟩
/-- behind a call: the cells that the callee had are its own again, the others stayed -/
theorem vJoin {A A1 : Nat → Prop} {D : va_G} {cl : List vw_C} {pre wr w1 : va_W} {H H1 : Heap} (hP : va_P D cl (pre ++ wr) H) (hD : va_D A (pre ++ wr)) (hap : ∀ q, q < H.size → A1 q → q ∈ pre.map Prod.fst) (hk : ∀ q : Nat, q < H.size → ¬ A1 q → H1[q]? = H[q]?) (hF : ∀ q, A1 q → A q) (hP1 : va_P D cl w1 H1) (hD1 : va_D A1 w1) : va_P D cl (wr ++ w1) H1 ∧ va_D A (wr ++ w1) := by
  obtain ⟨h1, h2⟩ := vD_mem.mp hD
  obtain ⟨h3, h4⟩ := vD_mem.mp hD1
  rw [List.map_append, List.nodup_append] at h1
  have hw := fun q hq => vP_mem.mp hP q (List.mem_append_right pre hq)
  have apart : ∀ q ∈ wr, q.1 < H.size ∧ ¬ A1 q.1 := fun q hq => ⟨(hw q hq).lt, fun h => h1.2.2 _ (hap _ (hw q hq).lt h) _ (List.mem_map.mpr ⟨q, hq, rfl⟩) rfl⟩
  refine ⟨vP_mem.mpr fun q hq => ?_, vD_mem.mpr ⟨?_, fun q hq => ?_⟩⟩
  · rcases List.mem_append.mp hq with h | h
    · exact (hw q h).kept (hk q.1 (apart q h).1 (apart q h).2)
    · exact vP_mem.mp hP1 q h
  · rw [List.map_append, List.nodup_append]
    refine ⟨h1.2.1, h3, fun a ha b hb e => ?_⟩
    obtain ⟨x, hx, rfl⟩ := List.mem_map.mp ha
    obtain ⟨y, hy, rfl⟩ := List.mem_map.mp hb
    exact (apart x hx).2 (by rw [e]; exact h4 y hy)
  · rcases List.mem_append.mp hq with h | h
    · exact h2 q (List.mem_append_right pre h)
    · exact hF _ (h4 q h)
/-! ===== what the tables say of an array of arrays, at like tables ===== -/
theorem aoa_spec {args : Array Value} {first s : State} {o : Option Outcome} {idx : List Nat} {t : FieldType} (h : (Cond.arrayOver (.array t)).holds args first o s idx = true) :
    ∃ comp c k, s.vm.findClass (FieldType.array t).toString = some comp ∧ (s.vm.classes.findIdx? fun x => match x.kind with | .array component _ => component == comp | _ => false) = some c ∧ s.vm.classes[c]? = some k ∧ k.kind = .array comp (.array t) ∧
      s.vm.findClass ("[" ++ (FieldType.array t).toString) = some c := by
  simp only [Cond.holds, Cond.value, beq_iff_eq] at h
  cases hc : s.vm.findClass (FieldType.array t).toString with
  | none => simp [hc] at h
  | some comp =>
    simp only [hc, Option.bind_some, Option.bind_eq_some_iff, Option.map_eq_some_iff] at h
    obtain ⟨c, hi, k, hk, hb⟩ := h
    obtain ⟨hlt, hp, -⟩ := Array.findIdx?_eq_some_iff_getElem.mp hi
    have hkk : s.vm.classes[c] = k := (Array.getElem?_eq_some_iff.mp hk).2
    rw [hkk] at hp
    cases hkind : k.kind with
    | array component ty =>
      rw [hkind] at hb hp
      simp at hb hp
      exact ⟨comp, c, k, rfl, hi, hk, by rw [hkind, hp, hb.1], hb.2⟩
    | _ => rw [hkind] at hb; simp at hb
theorem va_AOA.moved {t : FieldType} {u U : State} (hvm : u.vm.Alike U.vm) (h : va_AOA t u) : va_AOA t U := by
  obtain ⟨comp, c, k, h1, h2, h3, h4, h5⟩ := aoa_spec h
  obtain ⟨k', hk', he⟩ := hvm.2.2 _ _ h3
  have hi : (U.vm.classes.findIdx? fun (x : Class) => match x.kind with | .array component _ => component == comp | _ => false) = some c := by
    refine Eq.trans (va_idx_bare U.vm comp).symm ?_
    first | rw [hvm.bare_eq] | rw [← hvm.bare_eq]
    exact (va_idx_bare u.vm comp).trans h2
  have hkind : k'.kind = .array comp (.array t) := by rw [he]; exact h4
  have f1 : U.vm.findClass (FieldType.array t).toString = some comp := by rw [hvm.findClass]; exact h1
  have f2 : U.vm.findClass ("[" ++ (FieldType.array t).toString) = some c := by rw [hvm.findClass]; exact h5
  unfold va_AOA Cond.before Cond.holds
  simp only [Cond.value]
  rw [f1, Option.bind_some]
  refine (congrArg (fun o : Option Nat => (o.bind (fun c => (U.vm.classes[c]?).map fun (k : Class) => match k.kind with | .array _ ty => decide (ty = FieldType.array t) && decide (U.vm.findClass ("[" ++ (FieldType.array t).toString) = some c) | _ => false) == some true)) hi).trans ?_
  simp [hk', hkind, f2]
/-! ===== the judgement over any world; rows ===== -/
def WI (D : va_G) (A : Nat → Prop) (p : Program) (l : Launch) (e : Env) (R : Room) (s : State) (m : MethodId) (args : Array Value) (below : List Frame) (meth : Method) (c : Code) (nL : Nat) (Q : State → Prop) (ce sl : Nat) (ws : va_W) (lo : List (Option Value)) (st : List Value) (pc : Nat) : Prop :=
  ∀ (H : Heap) (locs : List Loc) (ls : Array Slot), va_P D vwCl ws H → va_D A ws → va_S A s.heap H locs → lhas ls nL lo → W p l e R s m args below meth c H locs ce sl Q (F0 m pc ls st)
section MyInitRows
variable {cy : Nat → ClassId} {D : va_G} {A : Nat → Prop} {p : Program} {l : Launch} {e : Env} {R : Room} {s : State} {m : MethodId} {args : Array Value} {below : List Frame} {meth : Method} {c : Code} {nL : Nat} {Q : State → Prop} {ce sl ce' sl' : Nat} {ws ws' : va_W} {lo lo' : List (Option Value)} {st : List Value} {pc : Nat} {cc : ByteArray} {own : String} {Ts : List Cond}

theorem i_iconst (hc : CX p s m args c D cy cc nL own Ts) {z : Int} {v : Int32} (hd : decode cc pc = .ok (.iconst z, 1)) (hv : Int32.ofInt z = v) (k : WI D A p l e R s m args below meth c nL Q ce sl ws lo (.int v :: st) (pc + 1)) : WI D A p l e R s m args below meth c nL Q ce sl ws lo (st) pc := fun H locs ls hP hD hS hl => lv_iconst hc.1 hc.2.1 hd hv (k H locs ls hP hD hS hl)
theorem i_bipush (hc : CX p s m args c D cy cc nL own Ts) {z : Int} {v : Int32} (hd : decode cc pc = .ok (.bipush z, 2)) (hv : (Int8.ofInt z).toInt32 = v) (k : WI D A p l e R s m args below meth c nL Q ce sl ws lo (.int v :: st) (pc + 2)) : WI D A p l e R s m args below meth c nL Q ce sl ws lo (st) pc := fun H locs ls hP hD hS hl => lv_bipush hc.1 hc.2.1 hd hv (k H locs ls hP hD hS hl)
theorem i_sipush (hc : CX p s m args c D cy cc nL own Ts) {z : Int} {v : Int32} (hd : decode cc pc = .ok (.sipush z, 3)) (hv : (Int16.ofInt z).toInt32 = v) (k : WI D A p l e R s m args below meth c nL Q ce sl ws lo (.int v :: st) (pc + 3)) : WI D A p l e R s m args below meth c nL Q ce sl ws lo (st) pc := fun H locs ls hP hD hS hl => lv_sipush hc.1 hc.2.1 hd hv (k H locs ls hP hD hS hl)
theorem i_ldc (hc : CX p s m args c D cy cc nL own Ts) {index : Nat} {v : Int32} (hd : decode cc pc = .ok (.ldc index, 2)) (hw : Jvm.Cond.constant own index v ∈ Ts) (k : WI D A p l e R s m args below meth c nL Q ce sl ws lo (.int v :: st) (pc + 2)) : WI D A p l e R s m args below meth c nL Q ce sl ws lo (st) pc := fun H locs ls hP hD hS hl => lv_ldc hc.1 hc.2.1 hc.2.2.2.1 (hc.2.2.2.2.1 _ hw) hd (k H locs ls hP hD hS hl)
theorem i_iload_n (hc : CX p s m args c D cy cc nL own Ts) {z : Fin 4} {x : Int32} (hd : decode cc pc = .ok (.iload_n z, 1)) (hx : lo[(z : Nat)]? = some (some (.int x))) (k : WI D A p l e R s m args below meth c nL Q ce sl ws lo (.int x :: st) (pc + 1)) : WI D A p l e R s m args below meth c nL Q ce sl ws lo (st) pc := fun H locs ls hP hD hS hl => lv_iload_n hc.1 hc.2.1 hd rfl (hl.2.2 _ _ hx) (k H locs ls hP hD hS hl)
theorem i_aload_n (hc : CX p s m args c D cy cc nL own Ts) {z : Fin 4} {x : Nat} (hd : decode cc pc = .ok (.aload_n z, 1)) (hx : lo[(z : Nat)]? = some (some (.ref x))) (k : WI D A p l e R s m args below meth c nL Q ce sl ws lo (.ref x :: st) (pc + 1)) : WI D A p l e R s m args below meth c nL Q ce sl ws lo (st) pc := fun H locs ls hP hD hS hl => lv_aload_n hc.1 hc.2.1 hd rfl (hl.2.2 _ _ hx) (k H locs ls hP hD hS hl)
theorem i_istore_n (hc : CX p s m args c D cy cc nL own Ts) {z : Fin 4} {i : Nat} {x : Int32} (hd : decode cc pc = .ok (.istore_n z, 1)) (hi : (z : Nat) = i) (hn : i < nL) (hs : setIs lo i (.int x) lo') (k : WI D A p l e R s m args below meth c nL Q ce sl ws lo' st (pc + 1)) : WI D A p l e R s m args below meth c nL Q ce sl ws lo (.int x :: st) pc := fun H locs ls hP hD hS hl => lv_istore_n hc.1 hc.2.1 hd hi (lhas_iff.mp hl) hn rfl (fun ls h => k H locs ls hP hD hS (lhas_st1 hs h))
theorem i_astore_n (hc : CX p s m args c D cy cc nL own Ts) {z : Fin 4} {i : Nat} {x : Nat} (hd : decode cc pc = .ok (.astore_n z, 1)) (hi : (z : Nat) = i) (hn : i < nL) (hs : setIs lo i (.ref x) lo') (k : WI D A p l e R s m args below meth c nL Q ce sl ws lo' st (pc + 1)) : WI D A p l e R s m args below meth c nL Q ce sl ws lo (.ref x :: st) pc := fun H locs ls hP hD hS hl => lv_astore_n hc.1 hc.2.1 hd hi (lhas_iff.mp hl) hn rfl (fun ls h => k H locs ls hP hD hS (lhas_st1 hs h))
theorem i_iinc (hc : CX p s m args c D cy cc nL own Ts) {i : Nat} {z : Int} {x v : Int32} (hd : decode cc pc = .ok (.iinc i z, 3)) (hx : lo[i]? = some (some (.int x))) (hv : x + Int32.ofInt z = v) (hn : i < nL) (hs : setIs lo i (.int v) lo') (k : WI D A p l e R s m args below meth c nL Q ce sl ws lo' st (pc + 3)) : WI D A p l e R s m args below meth c nL Q ce sl ws lo st pc := fun H locs ls hP hD hS hl => by
  obtain ⟨q, hq⟩ := lprs_at hx
  exact lv_iinc hc.1 hc.2.1 hd (lhas_iff.mp hl) hq hv hn rfl (fun ls h => k H locs ls hP hD hS (lhas_st1 hs h))
theorem i_iadd (hc : CX p s m args c D cy cc nL own Ts) {x y : Int32} (hd : decode cc pc = .ok (.iadd, 1)) (k : WI D A p l e R s m args below meth c nL Q ce sl ws lo (.int (x + y) :: st) (pc + 1)) : WI D A p l e R s m args below meth c nL Q ce sl ws lo (.int y :: .int x :: st) pc := fun H locs ls hP hD hS hl => lv_iadd hc.1 hc.2.1 hd (k H locs ls hP hD hS hl)
theorem i_isub (hc : CX p s m args c D cy cc nL own Ts) {x y : Int32} (hd : decode cc pc = .ok (.isub, 1)) (k : WI D A p l e R s m args below meth c nL Q ce sl ws lo (.int (x - y) :: st) (pc + 1)) : WI D A p l e R s m args below meth c nL Q ce sl ws lo (.int y :: .int x :: st) pc := fun H locs ls hP hD hS hl => lv_isub hc.1 hc.2.1 hd (k H locs ls hP hD hS hl)
theorem i_iand (hc : CX p s m args c D cy cc nL own Ts) {x y : Int32} (hd : decode cc pc = .ok (.iand, 1)) (k : WI D A p l e R s m args below meth c nL Q ce sl ws lo (.int (x &&& y) :: st) (pc + 1)) : WI D A p l e R s m args below meth c nL Q ce sl ws lo (.int y :: .int x :: st) pc := fun H locs ls hP hD hS hl => lv_iand hc.1 hc.2.1 hd (k H locs ls hP hD hS hl)
theorem i_dup (hc : CX p s m args c D cy cc nL own Ts) {a : Value} (hd : decode cc pc = .ok (.dup, 1)) (h1 : a.category = 1) (k : WI D A p l e R s m args below meth c nL Q ce sl ws lo (a :: a :: st) (pc + 1)) : WI D A p l e R s m args below meth c nL Q ce sl ws lo (a :: st) pc := fun H locs ls hP hD hS hl => lv_dup hc.1 hc.2.1 hd h1 (k H locs ls hP hD hS hl)
theorem i_goto (hc : CX p s m args c D cy cc nL own Ts) {off : Int} {tgt : Nat} (hd : decode cc pc = .ok (.goto off, 3)) (ht : (pc : Int) + off = (tgt : Int)) (k : WI D A p l e R s m args below meth c nL Q ce sl ws lo st tgt) : WI D A p l e R s m args below meth c nL Q ce sl ws lo st pc := fun H locs ls hP hD hS hl => lv_goto hc.1 hc.2.1 hd ht (k H locs ls hP hD hS hl)
theorem i_icmp_eq (hc : CX p s m args c D cy cc nL own Ts) {x y : Int32} {off : Int} {tgt : Nat} (hd : decode cc pc = .ok (.if_icmp .eq off, 3)) (ht : (pc : Int) + off = (tgt : Int)) (kt : x = y → WI D A p l e R s m args below meth c nL Q ce sl ws lo st tgt) (kf : ¬ x = y → WI D A p l e R s m args below meth c nL Q ce sl ws lo st (pc + 3)) : WI D A p l e R s m args below meth c nL Q ce sl ws lo (.int y :: .int x :: st) pc := fun H locs ls hP hD hS hl => lv_icmp_eq hc.1 hc.2.1 hd ht (fun q => kt q H locs ls hP hD hS hl) (fun q => kf q H locs ls hP hD hS hl)
theorem i_icmp_ge (hc : CX p s m args c D cy cc nL own Ts) {x y : Int32} {off : Int} {tgt : Nat} (hd : decode cc pc = .ok (.if_icmp .ge off, 3)) (ht : (pc : Int) + off = (tgt : Int)) (kt : y ≤ x → WI D A p l e R s m args below meth c nL Q ce sl ws lo st tgt) (kf : ¬ y ≤ x → WI D A p l e R s m args below meth c nL Q ce sl ws lo st (pc + 3)) : WI D A p l e R s m args below meth c nL Q ce sl ws lo (.int y :: .int x :: st) pc := fun H locs ls hP hD hS hl => lv_icmp_ge hc.1 hc.2.1 hd ht (fun q => kt q H locs ls hP hD hS hl) (fun q => kf q H locs ls hP hD hS hl)
theorem i_icmp_gt (hc : CX p s m args c D cy cc nL own Ts) {x y : Int32} {off : Int} {tgt : Nat} (hd : decode cc pc = .ok (.if_icmp .gt off, 3)) (ht : (pc : Int) + off = (tgt : Int)) (kt : y < x → WI D A p l e R s m args below meth c nL Q ce sl ws lo st tgt) (kf : ¬ y < x → WI D A p l e R s m args below meth c nL Q ce sl ws lo st (pc + 3)) : WI D A p l e R s m args below meth c nL Q ce sl ws lo (.int y :: .int x :: st) pc := fun H locs ls hP hD hS hl => lv_icmp_gt hc.1 hc.2.1 hd ht (fun q => kt q H locs ls hP hD hS hl) (fun q => kf q H locs ls hP hD hS hl)
theorem i_if_eq (hc : CX p s m args c D cy cc nL own Ts) {x : Int32} {off : Int} {tgt : Nat} (hd : decode cc pc = .ok (.ifCond .eq off, 3)) (ht : (pc : Int) + off = (tgt : Int)) (kt : x = 0 → WI D A p l e R s m args below meth c nL Q ce sl ws lo st tgt) (kf : ¬ x = 0 → WI D A p l e R s m args below meth c nL Q ce sl ws lo st (pc + 3)) : WI D A p l e R s m args below meth c nL Q ce sl ws lo (.int x :: st) pc := fun H locs ls hP hD hS hl => lv_if_eq hc.1 hc.2.1 hd ht (fun q => kt q H locs ls hP hD hS hl) (fun q => kf q H locs ls hP hD hS hl)
theorem i_if_ne (hc : CX p s m args c D cy cc nL own Ts) {x : Int32} {off : Int} {tgt : Nat} (hd : decode cc pc = .ok (.ifCond .ne off, 3)) (ht : (pc : Int) + off = (tgt : Int)) (kf : x = 0 → WI D A p l e R s m args below meth c nL Q ce sl ws lo st (pc + 3)) (kt : ¬ x = 0 → WI D A p l e R s m args below meth c nL Q ce sl ws lo st tgt) : WI D A p l e R s m args below meth c nL Q ce sl ws lo (.int x :: st) pc := fun H locs ls hP hD hS hl => lv_if_ne hc.1 hc.2.1 hd ht (fun q => kt q H locs ls hP hD hS hl) (fun q => kf q H locs ls hP hD hS hl)
theorem i_tabIn (hc : CX p s m args c D cy cc nL own Ts) {dflt lw hi : Int} {offs : Array Int} {len : Nat} {x : Int32} {off : Int} {tgt : Nat} (hd : decode cc pc = .ok (.tableswitch dflt lw hi offs, len)) (h1 : ¬ x.toInt < lw) (h2 : ¬ hi < x.toInt) (ho : offs[(x.toInt - lw).toNat]? = some off) (ht : (pc : Int) + off = (tgt : Int)) (k : WI D A p l e R s m args below meth c nL Q ce sl ws lo st tgt) : WI D A p l e R s m args below meth c nL Q ce sl ws lo (.int x :: st) pc := fun H locs ls hP hD hS hl => lv_tableIn hc.1 hc.2.1 hd h1 h2 ho ht (k H locs ls hP hD hS hl)
theorem i_tabOut (hc : CX p s m args c D cy cc nL own Ts) {dflt lw hi : Int} {offs : Array Int} {len : Nat} {x : Int32} {tgt : Nat} (hd : decode cc pc = .ok (.tableswitch dflt lw hi offs, len)) (h : x.toInt < lw ∨ hi < x.toInt) (ht : (pc : Int) + dflt = (tgt : Int)) (k : WI D A p l e R s m args below meth c nL Q ce sl ws lo st tgt) : WI D A p l e R s m args below meth c nL Q ce sl ws lo (.int x :: st) pc := fun H locs ls hP hD hS hl => lv_tableOut hc.1 hc.2.1 hd h ht (k H locs ls hP hD hS hl)
theorem WI.as (h : ws = ws') (k : WI D A p l e R s m args below meth c nL Q ce sl ws' lo st pc) : WI D A p l e R s m args below meth c nL Q ce sl ws lo st pc := by rw [h]; exact k
theorem WI.perm (h : ws.Perm ws') (k : WI D A p l e R s m args below meth c nL Q ce sl ws' lo st pc) : WI D A p l e R s m args below meth c nL Q ce sl ws lo st pc := fun H locs ls hP hD hS hl => k H locs ls (vP_perm h hP) (vD_perm h hD) hS hl
theorem WI.wide (h1 : ce ≤ ce') (h2 : sl ≤ sl') (k : WI D A p l e R s m args below meth c nL Q ce' sl' ws lo st pc) : WI D A p l e R s m args below meth c nL Q ce sl ws lo st pc := fun H locs ls hP hD hS hl => W.widen h1 h2 (k H locs ls hP hD hS hl)
theorem i_objInit (hc : CX p s m args c D cy cc nL own Ts) {idx a : Nat} (h1 : Cond.methodLink own idx objectInit ∈ Ts) (h2 : Cond.instanceMethod objectInit ∈ Ts) (h3 : Cond.code objectInit ⟨#[0xb1]⟩ 1 none ∈ Ts) (hf : 1 ≤ R.frames) (hlc : (st.map fun v => v.category).sum + 12 ≤ R.locals) (hd : decode cc pc = .ok (.invokespecial idx, 3)) (k : WI D A p l e R s m args below meth c nL Q ce sl ws lo st (pc + 3)) : WI D A p l e R s m args below meth c nL Q ce sl ws lo (.ref a :: st) pc := fun H locs ls hP hD hS hl =>
  W.objInit hc.1 hc.2.1 hc.2.2.2.1 (hc.2.2.2.2.1 _ h1) (hc.2.2.2.2.1 _ h2) (hc.2.2.2.2.1 _ h3) rfl (by rw [hc.2.2.1]; exact hl.1) rfl hd hf (by show 2 * 0 + _ + 12 ≤ _; omega) (W.eq (g2 := F0 m (pc + 3) ls st) rfl (k H locs ls hP hD hS hl))
theorem i_newa (hc : CX p s m args c D cy cc nL own Ts) (hA : ∀ q, s.heap.size ≤ q → A q) {atype : ArrayType} {ty : FieldType} {k t0 : Nat} (hw : Cond.arrayClass ty ∈ Ts) (hty : newarray.typeOf atype = ty) (ht : (tysW cy)[t0]? = some (cy k, ty)) {n : Int32} {N' : Nat} {a0 : vp_A} (ha : ∀ cA : ClassId, vp_cell cA a0 = arrV cA N' (fun _ => defaultValue ty)) (hn : ¬ n < 0) (hN : n.toNatClampNeg = N') (hb : N' * componentBytes ty ≤ 536870912) (hce : ce + 1 ≤ R.cells) (hsl : sl + N' ≤ R.slots) (hd : decode cc pc = .ok (.newarray atype, 2))
    (kk : ∀ q : Nat, WI D A p l e R s m args below meth c nL Q (ce + 1) (sl + N') ((q, .inl (cy k, a0)) :: ws) lo (.ref q :: st) (pc + 2)) : WI D A p l e R s m args below meth c nL Q ce sl ws lo (.int n :: st) pc := fun H locs ls hP hD hS hl => by
  subst hty
  refine va_newa hc.1 hc.2.1 (hc.2.2.2.2.1 _ hw) rfl hc.2.2.2.2.2.1 hP hD hS hA ha hn hN hb hce hsl hd (fun q cA H1 hK1 hP1 hD1 hS1 => ?_)
  have h1 := (hc.2.2.2.2.2.1.2 t0 _ ht).2
  have h2 := (hK1.2 6 (cA, newarray.typeOf atype) rfl).2
  have e : cA = cy k := by cases atype <;> exact Option.some.inj (h2.symm.trans h1)
  rw [e] at hP1 hD1
  exact kk q H1 locs ls (vP_perm (List.perm_append_singleton _ _) hP1) (vD_perm (List.perm_append_singleton _ _) hD1) hS1 hl
theorem i_newq (hc : CX p s m args c D cy cc nL own Ts) (hA : ∀ q, s.heap.size ≤ q → A q) (hO : va_AO "CubeDesk$Dimension" s) {index : Nat} (hw : Cond.classLink own index "CubeDesk$Dimension" ∈ Ts) {n : Int32} {N' : Nat} (hn : ¬ n < 0) (hN : n.toNatClampNeg = N') (hb : N' * 4 ≤ 536870912) (hce : ce + 1 ≤ R.cells) (hsl : sl + N' ≤ R.slots) (hd : decode cc pc = .ok (.anewarray index, 3))
    (kk : ∀ q : Nat, WI D A p l e R s m args below meth c nL Q (ce + 1) (sl + N') ((q, .inl (cy 5, N', .inr (.inr (.inr (.inr (fun _ => none)))))) :: ws) lo (.ref q :: st) (pc + 3)) : WI D A p l e R s m args below meth c nL Q ce sl ws lo (.int n :: st) pc := fun H locs ls hP hD hS hl => by
  refine va_newq hc.1 hc.2.1 hc.2.2.2.1 (hc.2.2.2.2.1 _ hw) hO hc.2.2.2.2.2.1 hP hD hS hA hn hN hb hce hsl hd (fun q cA H1 hK1 hP1 hD1 hS1 => ?_)
  obtain ⟨_, _, _, _, _, h1⟩ := (hc.2.2.2.2.2.1.2 4 _ rfl).2
  obtain ⟨_, _, _, _, _, h2⟩ := (hK1.2 6 (cA, .object "CubeDesk$Dimension") rfl).2
  have e : cA = cy 5 := Option.some.inj (h2.symm.trans h1)
  rw [e] at hP1 hD1
  exact kk q H1 locs ls (vP_perm (List.perm_append_singleton _ _) hP1) (vD_perm (List.perm_append_singleton _ _) hD1) hS1 hl
theorem i_new (hc : CX p s m args c D cy cc nL own Ts) (hA : ∀ q, s.heap.size ≤ q → A q) {C0 : String} {T0 : u_T} {N ci index : Nat} (ty0 : Nat → FieldType) (hin : ∀ w ∈ u_ws C0 T0 N, w ∈ Ts) (hty : ∀ k, k < N → parseFieldDescriptor (T0 k).2.2.1 = some (ty0 k)) (h1 : Cond.classLink own index C0 ∈ Ts) (h2 : Cond.instantiable C0 N ∈ Ts) (h3 : Cond.initialized C0 ∈ Ts) (hcl : vwCl[ci]? = some (C0, T0, N)) {fs : List Value} (hfs : ∀ j, j < N → defaultValue (ty0 j) = vp_V fs j) (hce : ce + 1 ≤ R.cells) (hsl : sl + N ≤ R.slots) (hd : decode cc pc = .ok (.new index, 3))
    (kk : ∀ q : Nat, WI D A p l e R s m args below meth c nL Q (ce + 1) (sl + N) ((q, .inr (ci, fs)) :: ws) lo (.ref q :: st) (pc + 3)) : WI D A p l e R s m args below meth c nL Q ce sl ws lo st pc := fun H locs ls hP hD hS hl =>
  va_new (ci := ci) (fs := fs) hc.1 hc.2.1 hc.2.2.2.2.1 hin ty0 hty hc.2.2.2.1 (hc.2.2.2.2.1 _ h1) (hc.2.2.2.2.1 _ h2) (hc.2.2.2.2.1 _ h3) hc.2.2.2.2.2.1 hP hD hS hA hcl hfs hce hsl hd (fun q H1 hP1 hD1 hS1 => kk q H1 locs ls (vP_perm (List.perm_append_singleton _ _) hP1) (vD_perm (List.perm_append_singleton _ _) hD1) hS1 hl)
theorem i_putF (hc : CX p s m args c D cy cc nL own Ts) (hnam : meth.name = "<init>") {C0 : String} {T0 : u_T} {N ci index a : Nat} (ty0 : Nat → FieldType) (hin : ∀ w ∈ u_ws C0 T0 N, w ∈ Ts) (hty : ∀ k, k < N → parseFieldDescriptor (T0 k).2.2.1 = some (ty0 k)) (hnm : ∀ a, a < N → ∀ b, b < N → a ≠ b → (T0 a).2.1 ≠ (T0 b).2.1) (hcl : vwCl[ci]? = some (C0, T0, N)) (q0 : Nat) {fs : List Value} (he : ws[q0]? = some (a, .inr (ci, fs))) (k : Nat) (hk : k < N) (hw : Cond.fieldLink own index (T0 k).1 (T0 k).2.1 (T0 k).2.2.1 ∈ Ts) (hfin : (T0 k).2.2.2 = true) (hdecl : (T0 k).1 = own) {ty : FieldType} {v : Value} (hpd : parseFieldDescriptor (T0 k).2.2.1 = some ty) (hn : narrow ty v = v) (hfit : fits ty v = true) (hl0 : k < fs.length) (hd : decode cc pc = .ok (.putfield index, 3)) (hws : ws.set q0 (a, .inr (ci, fs.set k v)) = ws')
    (kk : WI D A p l e R s m args below meth c nL Q ce sl ws' lo st (pc + 3)) : WI D A p l e R s m args below meth c nL Q ce sl ws lo (v :: .ref a :: st) pc := fun H locs ls hP hD hS hl =>
  va_putF (D := D) (ci := ci) (v := v) (ty := ty) hc.1 hc.2.1 hc.2.2.2.2.1 hin ty0 hty hnm hc.2.2.2.1 hc.2.2.2.2.2.1 hP hD hS q0 he hcl k hk (hc.2.2.2.2.1 _ hw) (fun _ h => h) hfin hnam hdecl hpd hn hfit hl0 hd (fun H1 locs1 hP1 hD1 hS1 => kk H1 locs1 ls (by rw [← hws]; exact hP1) (by rw [← hws]; exact hD1) hS1 hl)
theorem i_put (hc : CX p s m args c D cy cc nL own Ts) {C0 : String} {T0 : u_T} {N ci index a : Nat} (ty0 : Nat → FieldType) (hin : ∀ w ∈ u_ws C0 T0 N, w ∈ Ts) (hty : ∀ k, k < N → parseFieldDescriptor (T0 k).2.2.1 = some (ty0 k)) (hnm : ∀ a, a < N → ∀ b, b < N → a ≠ b → (T0 a).2.1 ≠ (T0 b).2.1) (hcl : vwCl[ci]? = some (C0, T0, N)) (q0 : Nat) {fs : List Value} (he : ws[q0]? = some (a, .inr (ci, fs))) (k : Nat) (hk : k < N) (hw : Cond.fieldLink own index (T0 k).1 (T0 k).2.1 (T0 k).2.2.1 ∈ Ts) (hfin : (T0 k).2.2.2 = false) {ty : FieldType} {v : Value} (hpd : parseFieldDescriptor (T0 k).2.2.1 = some ty) (hn : narrow ty v = v) (hfit : fits ty v = true) (hl0 : k < fs.length) (hd : decode cc pc = .ok (.putfield index, 3)) (hws : ws.set q0 (a, .inr (ci, fs.set k v)) = ws')
    (kk : WI D A p l e R s m args below meth c nL Q ce sl ws' lo st (pc + 3)) : WI D A p l e R s m args below meth c nL Q ce sl ws lo (v :: .ref a :: st) pc := fun H locs ls hP hD hS hl =>
  va_put (D := D) (ci := ci) (v := v) (ty := ty) hc.1 hc.2.1 hc.2.2.2.2.1 hin ty0 hty hnm hc.2.2.2.1 hc.2.2.2.2.2.1 hP hD hS q0 he hcl k hk (hc.2.2.2.2.1 _ hw) (fun _ h => h) hfin hpd hn hfit hl0 hd (fun H1 locs1 hP1 hD1 hS1 => kk H1 locs1 ls (by rw [← hws]; exact hP1) (by rw [← hws]; exact hD1) hS1 hl)
theorem i_get (hc : CX p s m args c D cy cc nL own Ts) {C0 : String} {T0 : u_T} {N ci index a : Nat} (hin : ∀ w ∈ u_ws C0 T0 N, w ∈ Ts) (hcl : vwCl[ci]? = some (C0, T0, N)) (q0 : Nat) {fs : List Value} (he : ws[q0]? = some (a, .inr (ci, fs))) (k : Nat) (hk : k < N) (hw : Cond.fieldLink own index (T0 k).1 (T0 k).2.1 (T0 k).2.2.1 ∈ Ts) {v : Value} (hv : fs[k]? = some v) (hd : decode cc pc = .ok (.getfield index, 3)) (kk : WI D A p l e R s m args below meth c nL Q ce sl ws lo (v :: st) (pc + 3)) : WI D A p l e R s m args below meth c nL Q ce sl ws lo (.ref a :: st) pc := fun H locs ls hP hD hS hl =>
  va_get (D := D) (ci := ci) (v := v) hc.1 hc.2.1 hc.2.2.2.2.1 hin hc.2.2.2.1 hc.2.2.2.2.2.1 hP q0 he hcl k hk (hc.2.2.2.2.1 _ hw) (fun _ h => h) hv hd (kk H locs ls hP hD hS hl)
theorem i_zast (hc : CX p s m args c D cy cc nL own Ts) (q0 : Nat) {n a : Nat} {f : Nat → Int32} (ha : ws[q0]? = some (a, .inl (cy 2, n, .inl f))) {i x : Int32} (hin : vp_in i n) (hd : decode cc pc = .ok (.bastore, 1)) (hws : ws.set q0 (a, .inl (cy 2, n, .inl (upd f i.toNatClampNeg (vp_nar .boolean x)))) = ws') (kk : WI D A p l e R s m args below meth c nL Q ce sl ws' lo st (pc + 1)) : WI D A p l e R s m args below meth c nL Q ce sl ws lo (.int x :: .int i :: .ref a :: st) pc := fun H locs ls hP hD hS hl =>
  va_zast hc.1 hc.2.1 hc.2.2.2.2.2.1 hP hD hS q0 1 ha rfl hin hd (fun H1 locs1 hP1 hD1 hS1 => kk H1 locs1 ls (by rw [← hws]; exact hP1) (by rw [← hws]; exact hD1) hS1 hl)
theorem i_astq (hc : CX p s m args c D cy cc nL own Ts) (q0 qk : Nat) {n v a : Nat} {vs : List Value} {f : Nat → Option Nat} (ha : ws[q0]? = some (a, .inl (cy 5, n, .inr (.inr (.inr (.inr f)))))) (hv : ws[qk]? = some (v, .inr (1, vs))) {i : Int32} (hin : vp_in i n) (hd : decode cc pc = .ok (.aastore, 1)) (hws : ws.set q0 (a, .inl (cy 5, n, .inr (.inr (.inr (.inr (va_up f i.toNatClampNeg (some v))))))) = ws') (kk : WI D A p l e R s m args below meth c nL Q ce sl ws' lo st (pc + 1)) : WI D A p l e R s m args below meth c nL Q ce sl ws lo (.ref v :: .int i :: .ref a :: st) pc := fun H locs ls hP hD hS hl =>
  va_astq (r := (RX1, TX1, 6)) hc.1 hc.2.1 hc.2.2.2.2.2.1 hP hD hS q0 4 qk 1 ha rfl hv rfl hin hd (fun H1 locs1 hP1 hD1 hS1 => kk H1 locs1 ls (by rw [← hws]; exact hP1) (by rw [← hws]; exact hD1) hS1 hl)
theorem i_mna (hc : CX p s m args c D cy cc nL own Ts) (hA : ∀ q, s.heap.size ≤ q → A q) (hO : va_AOA .int s) {index : Nat} (hw : Cond.classLink own index "[[I" ∈ Ts) (hw2 : Cond.arrayClass .int ∈ Ts) (hce : ce + 5 ≤ R.cells) (hsl : sl + 260 ≤ R.slots) (hd : decode cc pc = .ok (.multianewarray index 2, 4))
    (kk : ∀ (q r0 r1 r2 r3 : Nat), WI D A p l e R s m args below meth c nL Q (ce + 5) (sl + 260) ((q, .inl (cy 6, 4, .inr (.inr (.inr (.inr (fun i => [r0, r1, r2, r3][i]?)))))) :: (r0, .inl (cy 1, 64, .inl (fun _ => 0))) :: (r1, .inl (cy 1, 64, .inl (fun _ => 0))) :: (r2, .inl (cy 1, 64, .inl (fun _ => 0))) :: (r3, .inl (cy 1, 64, .inl (fun _ => 0))) :: ws) lo (.ref q :: st) (pc + 4)) : WI D A p l e R s m args below meth c nL Q ce sl ws lo (.int 64 :: .int 4 :: st) pc := fun H locs ls hP hD hS hl => by
  have h1 : s.vm.findClass (FieldType.array .int).toString = some (cy 1) := (hc.2.2.2.2.2.1.2 0 _ rfl).2
  have h6 : s.vm.findClass ("[" ++ (FieldType.array .int).toString) = some (cy 6) := (hc.2.2.2.2.2.1.2 5 _ rfl).2
  have hcl : (Cond.classLink own index ("[" ++ (FieldType.array .int).toString)).before args s = true := hc.2.2.2.2.1 _ hw
  refine va_mna (X := ws) (L := []) (f := fun _ => .inl (cy 1, 64, .inl (fun _ => 0))) (z := (64, .inl (fun _ => 0))) (ty := .int) (cy := cy 1) (N' := 4) (K' := 64) hc.1 hc.2.1 hc.2.2.2.1 hcl hO (hc.2.2.2.2.1 _ hw2) h1 hc.2.2.2.2.2.1 (by rw [show ws ++ va_pl [] _ = ws from List.append_nil ws]; exact hP) (by rw [show ws ++ va_pl [] _ = ws from List.append_nil ws]; exact hD) hS hA (by decide) (by decide) rfl rfl (by decide) (by decide) (by decide) rfl rfl (by omega) (by omega) (fun c => ?_) hd (fun q r cA H1 hinj hnl hK1 hP1 hD1 hS1 => ?_)
  · show _ = arrV c 64 (fun _ => .int 0)
    exact arrV_new c 64 (.int 0)
  · have e : cA = cy 6 := Option.some.inj (((hK1.2 6 (cA, .array .int) rfl).2 : s.vm.findClass ("[" ++ (FieldType.array .int).toString) = some cA).symm.trans h6)
    subst e
    have hr : va_pl ([] ++ (List.range 4).map r) (vr_up (fun _ => Sum.inl (cy 1, 64, .inl (fun _ => 0))) ((List.range 4).map r) (.inl (cy 1, 64, .inl (fun _ => 0)))) = [(r 0, .inl (cy 1, 64, .inl (fun _ => 0))), (r 1, .inl (cy 1, 64, .inl (fun _ => 0))), (r 2, .inl (cy 1, 64, .inl (fun _ => 0))), (r 3, .inl (cy 1, 64, .inl (fun _ => 0)))] := by
      have hv : vr_up (fun _ : Nat => (Sum.inl (cy 1, 64, .inl (fun _ => 0)) : va_E)) ((List.range 4).map r) (.inl (cy 1, 64, .inl (fun _ => 0))) = fun _ => .inl (cy 1, 64, .inl (fun _ => 0)) := by
        funext a
        unfold vr_up
        split <;> rfl
      rw [hv]
      rfl
    have hf : (fun i => if i < 4 then some (r i) else none) = fun i => [r 0, r 1, r 2, r 3][i]? := by
      funext i
      match i with
      | 0 => rfl
      | 1 => rfl
      | 2 => rfl
      | 3 => rfl
      | i + 4 => rfl
    rw [hr, hf] at hP1 hD1
    have hp : ∀ (x : Nat × va_E) (z : va_W), ((ws ++ [x]) ++ z).Perm (x :: (z ++ ws)) := fun x z => by
      rw [List.append_assoc]
      exact List.perm_append_comm
    exact kk q (r 0) (r 1) (r 2) (r 3) H1 locs ls (vP_perm (hp _ _) hP1) (vD_perm (hp _ _) hD1) hS1 hl
end MyInitRows
/-! ===== contracts of constructors ===== -/
def IP (D : va_G) (cy : Nat → ClassId) (sz : Nat) (pre : va_W) (U : State) : Prop := U.heap.size = sz ∧ va_P D vwCl pre U.heap ∧ va_K D vwCl (tysW cy) U ∧ va_D (fun _ => True) pre ∧ NW U ∧ va_AO "CubeDesk$Dimension" U ∧ va_AOA .int U
theorem IP_blind {D : va_G} {cy : Nat → ClassId} {sz : Nat} {pre : va_W} {av : List Value} : FrameBlind (va_Pc av (IP D cy sz pre)) := fun a U g mk q => by
  obtain ⟨q0, q1, qP, qK, qD, qN, qO, qA⟩ := q
  exact ⟨q0, q1, qP, va_K.moved (u := U) (U := U.calling g mk a) (Vm.Alike.refl U.vm) qK, qD, NW.same (U := U.calling g mk a) rfl qN, va_AO.moved (u := U) (U := U.calling g mk a) (Vm.Alike.refl U.vm) qO, va_AOA.moved (u := U) (U := U.calling g mk a) (Vm.Alike.refl U.vm) qA⟩
def IM (l : Launch) (y : MethodName) (wsL : List Cond) (rm : Room) (D : va_G) (cy : Nat → ClassId) (av : List Value) (pre : va_W) (post : va_W → Prop) (mc ms : Nat) : Prop := ∀ sz : Nat, Met l y wsL rm (va_Pc av (IP D cy sz pre)) (va_Qv post (fun w t => va_P D vwCl w t.heap ∧ va_D (va_A pre sz) w) (va_A pre sz)) mc ms (va_A pre sz)
theorem IM.of {l : Launch} {y : MethodName} {wsL ws' : List Cond} {rm : Room} {D : va_G} {cy : Nat → ClassId} {av : List Value} {pre : va_W} {post : va_W → Prop} {mc ms nL : Nat} {cc : ByteArray} {own : String} {lo : List (Option Value)} (hy : plainName y.cls = true) (hw : wsL = Cond.code y cc nL none :: ws') (hown : y.cls = own) (hnam : y.name = "<init>") (hlo : ∀ (i : Nat) (v : Value), lo[i]? = some (some v) → (i, v) ∈ lv_args 0 av) (hlen : (lg_sl av).length ≤ nL)
    (body : ∀ (p : Program) (e : Env) (s : State) (m : MethodId) (args : Array Value) (below : List Frame) (meth : Method) (c : Code) (A : Nat → Prop), CX p s m args c D cy cc nL own wsL → meth.name = "<init>" → meth.sig.returnType = none → meth.locks = false → (∀ q, s.heap.size ≤ q → A q) → va_AO "CubeDesk$Dimension" s → va_AOA .int s → WI D A p l e rm s m args below meth c nL (MQ below (va_Qv post (fun w t => va_P D vwCl w t.heap ∧ va_D A w) A) args s mc ms A) 0 0 pre lo [] 0) : IM l y wsL rm D cy av pre post mc ms := fun sz => by
  refine Met.ofW (cc := cc) (maxL := nL) (ret := none) hy hw ?_
  intro p e s m args below meth c s₁ B hml hv
  obtain ⟨rfl, rfl, hP, hK, hD, hN, hO, hOA⟩ := hv
  have hc : CX p s m av.toArray c D cy cc nL own wsL := ⟨B.exec, B.bytes, hml, by rw [← hown]; exact findClass_of_methodNamed B.named, atoms_spec (ws := wsL) B.pre, hK, hN⟩
  have hl := lv_entry av (n := nL) hlen
  rw [lg_entry_eq]
  exact body p e s m _ below meth c (va_A pre s.heap.size) hc (by rw [(name_of_methodNamed B.named B.method).1]; exact hnam) B.returns B.notSynchronized (fun q h => Or.inr h) hO hOA s.heap [] _ hP (hD.self (sz := s.heap.size)) va_S.rf ⟨hl.1, hl.2.1, fun i v h => hl.2.2 (i, v) (hlo i v h)⟩
section MyInitCalls
variable {cy : Nat → ClassId} {D : va_G} {A : Nat → Prop} {p : Program} {l : Launch} {e : Env} {R : Room} {s : State} {m : MethodId} {args : Array Value} {below : List Frame} {meth : Method} {c : Code} {nL : Nat} {Q : State → Prop} {ce sl ce' sl' : Nat} {ws ws' : va_W} {lo lo' : List (Option Value)} {st st0 : List Value} {pc : Nat} {cc : ByteArray} {own : String} {Ts : List Cond}
theorem i_ret {mc ms : Nat} {post : va_W → Prop} (hc : CX p s m args c D cy cc nL own Ts) (hr : meth.sig.returnType = none) (hlk : meth.locks = false) (h : post ws) (h1 : ce = mc) (h2 : sl = ms) (hd : decode cc pc = .ok (.return_, 1)) : WI D A p l e R s m args below meth c nL (MQ below (va_Qv post (fun w t => va_P D vwCl w t.heap ∧ va_D A w) A) args s mc ms A) ce sl ws lo [] pc := fun H locs ls hP hD hS hl => by
  subst h1
  subst h2
  exact W.vret hc.1 hc.2.1 hr (fun t ht hW => ⟨⟨ws, rfl, h, by rw [ht]; exact hP, hD⟩, hS.F ht⟩) hS.2.2 hd hlk
theorem IP_at {H : Heap} {pre wr : va_W} (hc : CX p s m args c D cy cc nL own Ts) (hO : va_AO "CubeDesk$Dimension" s) (hOA : va_AOA .int s) (hP : va_P D vwCl (pre ++ wr) H) (hD : va_D A (pre ++ wr)) {av : List Value} {U : State} (hU : U.heap = H) (hW : s.WarmedH U.vm) : va_Pc av (IP D cy H.size pre) av.toArray U := by
  refine ⟨rfl, by rw [hU], by rw [hU]; exact vP_mem.mpr fun q hq => vP_mem.mp hP q (List.mem_append_left _ hq), va_K.moved hW.alike hc.2.2.2.2.2.1, vD_mem.mpr ⟨?_, fun _ _ => trivial⟩, NW.warm hW hc.2.2.2.2.2.2, hO.moved hW.alike, hOA.moved hW.alike⟩
  have h := (vD_mem.mp hD).1
  rw [List.map_append, List.nodup_append] at h
  exact h.1
theorem i_callI (hc : CX p s m args c D cy cc nL own Ts) (hA : ∀ q, s.heap.size ≤ q → A q) (hO : va_AO "CubeDesk$Dimension" s) (hOA : va_AOA .int s) {y : MethodName} {bytes : ByteArray} {maxL na index mc ms b : Nat} {wsL : List Cond} {rm : Room} {As : List Value} {pre wr : va_W} {post : va_W → Prop} (hM : IM l y wsL rm D cy (.ref b :: As) pre post mc ms) (cw : CallB R s args own index y bytes maxL none wsL rm mc ms na ∧ y.name = "<init>" ∧ (Cond.instanceMethod y).before args s = true) (hn : As.length = na) (hst : st0 = As.reverse ++ .ref b :: st) (hW : (st.map fun v => v.category).sum ≤ 8) (hd : decode cc pc = .ok (.invokespecial index, 3)) (hce : ce + mc ≤ R.cells ∧ sl + ms ≤ R.slots)
    (kk : ∀ w : va_W, post w → WI D A p l e R s m args below meth c nL Q (ce + mc) (sl + ms) (wr ++ w) lo st (pc + 3)) : WI D A p l e R s m args below meth c nL Q ce sl (pre ++ wr) lo st0 pc := fun H locs ls hP hD hS hl => by
  have hF : ∀ q, va_A pre H.size q → A q := fun q h => by
    rcases h with ⟨k, e, h⟩ | h
    · exact (vD_mem.mp hD).2 (q, e) (List.mem_append_left _ (List.mem_of_getElem? h))
    · exact hA q (Nat.le_trans hS.1 h)
  have hap : ∀ q, q < H.size → va_A pre H.size q → q ∈ pre.map Prod.fst := fun q hq h => by
    rcases h with ⟨k, e, h⟩ | h
    · exact List.mem_map.mpr ⟨(q, e), List.mem_of_getElem? h, rfl⟩
    · omega
  refine va_callv (va_runI (As := As) (rest := st) ⟨hc.1, hc.2.1, hc.2.2.1, hc.2.2.2.1, hc.2.2.2.2.1⟩ (hM H.size) cw ⟨IP_blind, fun U hU hW => IP_at hc hO hOA hP hD hU hW⟩ rfl hn hl.1 hst (lv_room hW) hd hce) hS (fun q _ h => hF q h) hF (fun w t H1 locs1 ht hvm hp hB hz hk hS1 => ?_)
  rw [ht] at hB
  obtain ⟨h1, h2⟩ := vJoin hP hD hap hk hF hB.1 hB.2
  exact kk w hp H1 locs1 ls h1 h2 hS1 hl
theorem i_callIN (hc : CX p s m args c D cy cc nL own Ts) (hA : ∀ q, s.heap.size ≤ q → A q) (hO : va_AO "CubeDesk$Dimension" s) (hOA : va_AOA .int s) {y : MethodName} {bytes : ByteArray} {maxL na index mc ms b : Nat} {wsL ws'' : List Cond} {rm : Room} {As : List Value} {pre wr : va_W} {post : va_W → Prop} (hM : IM l y wsL rm D cy (.ref b :: As) pre post mc ms) (hG : GoodIn Ts wsL) (hw : wsL = Cond.code y bytes maxL none :: ws'') (hrc : rm.cells = mc) (hrs : rm.slots = ms) (hnl : (own, index, y, "CubeDesk") ∈ nestM) (hini : Cond.initialized y.cls ∈ Ts) (hdd : y.cls ≠ "java/lang/invoke/MethodHandle" ∧ y.cls ≠ "java/lang/invoke/VarHandle" ∧ (parseMethodDescriptor y.desc).map (fun d => d.parameters.length) = some na) (hR : rm.frames + 1 ≤ R.frames ∧ 8 + (maxL + 11) + rm.locals ≤ R.locals) (hnam : y.name = "<init>") (hinst : Cond.instanceMethod y ∈ Ts) (hn : As.length = na) (hst : st0 = As.reverse ++ .ref b :: st) (hW : (st.map fun v => v.category).sum ≤ 8) (hd : decode cc pc = .ok (.invokespecial index, 3)) (hce : ce + mc ≤ R.cells ∧ sl + ms ≤ R.slots)
    (kk : ∀ w : va_W, post w → WI D A p l e R s m args below meth c nL Q (ce + mc) (sl + ms) (wr ++ w) lo st (pc + 3)) : WI D A p l e R s m args below meth c nL Q ce sl (pre ++ wr) lo st0 pc := fun H locs ls hP hD hS hl => by
  have hF : ∀ q, va_A pre H.size q → A q := fun q h => by
    rcases h with ⟨k, e, h⟩ | h
    · exact (vD_mem.mp hD).2 (q, e) (List.mem_append_left _ (List.mem_of_getElem? h))
    · exact hA q (Nat.le_trans hS.1 h)
  have hap : ∀ q, q < H.size → va_A pre H.size q → q ∈ pre.map Prod.fst := fun q hq h => by
    rcases h with ⟨k, e, h⟩ | h
    · exact List.mem_map.mpr ⟨(q, e), List.mem_of_getElem? h, rfl⟩
    · omega
  refine va_callv (va_runIN (As := As) (rest := st) ⟨hc.1, hc.2.1, hc.2.2.1, hc.2.2.2.1, hc.2.2.2.2.1⟩ (hM H.size) ⟨va_cnB na hc.2.2.2.2.1 hG hw hrc hrs (hc.2.2.2.2.2.2.2 _ hnl) (hc.2.2.2.2.1 _ hini) hdd hR, hnam, hc.2.2.2.2.1 _ hinst⟩ ⟨IP_blind, fun U hU hW => IP_at hc hO hOA hP hD hU hW⟩ rfl hn hl.1 hst (lv_room hW) hd hce) hS (fun q _ h => hF q h) hF (fun w t H1 locs1 ht hvm hp hB hz hk hS1 => ?_)
  rw [ht] at hB
  obtain ⟨h1, h2⟩ := vJoin hP hD hap hk hF hB.1 hB.2
  exact kk w hp H1 locs1 ls h1 h2 hS1 hl

end MyInitCalls
/-! ===== a world that grows ===== -/
def closedT (T : Wt) (n : Nat) : Prop := (∀ k, k < n → ∀ x ∈ (T.2.2.1 k).2, ∀ j, x = some j → j < n) ∧ (∀ k, k < n → (T.1 k = 5 ∨ T.1 k = 6) → ∀ i, i < T.2.1 k → ∀ j, T.2.2.2 k i = some j → j < n)
/-- two cells that are the same on the heap: rows of references may differ behind their ends -/
def ceq (x y : Nat × va_E) : Prop := x = y ∨ ∃ (a : Nat) (cA : ClassId) (n : Nat) (f g : Nat → Option Nat), x = (a, .inl (cA, n, .inr (.inr (.inr (.inr f))))) ∧ y = (a, .inl (cA, n, .inr (.inr (.inr (.inr g))))) ∧ ∀ i, i < n → f i = g i
theorem arrV_same {cA : ClassId} {n : Nat} {f g : Nat → Value} (h : ∀ i, i < n → f i = g i) : arrV cA n f = arrV cA n g := by
  unfold arrV
  congr 1
  apply Array.ext
  · simp
  · intro i h1 h2
    simp at h1
    simp [h i h1]
theorem ceq.at {D : va_G} {cl : List vw_C} {x y : Nat × va_E} {H : Heap} (h : ceq x y) (hx : va_at D cl x H) : va_at D cl y H := by
  rcases h with rfl | ⟨a, cA, n, f, g, rfl, rfl, h⟩
  · exact hx
  · have hx : H[a]? = some (vp_cell cA (n, .inr (.inr (.inr (.inr f))))) := hx
    show H[a]? = some (vp_cell cA (n, .inr (.inr (.inr (.inr g)))))
    rw [hx, vp_cell_q, vp_cell_q, arrV_same (fun i hi => by rw [h i hi])]
theorem ceq.fst {x y : Nat × va_E} (h : ceq x y) : x.1 = y.1 := by
  rcases h with rfl | ⟨a, cA, n, f, g, rfl, rfl, h⟩ <;> rfl
def ceqs : va_W → va_W → Prop
  | [], [] => True
  | x :: xs, y :: ys => ceq x y ∧ ceqs xs ys
  | _, _ => False
theorem ceqs.at {D : va_G} {cl : List vw_C} {H : Heap} : ∀ {xs ys : va_W}, ceqs xs ys → (∀ q ∈ xs, va_at D cl q H) → ∀ q ∈ ys, va_at D cl q H
  | [], [], _, _, q, hq => by cases hq
  | x :: xs, y :: ys, h, hx, q, hq => by
    rcases List.mem_cons.mp hq with rfl | hq
    · exact h.1.at (hx x List.mem_cons_self)
    · exact ceqs.at h.2 (fun q hq => hx q (List.mem_cons_of_mem _ hq)) q hq
  | [], _ :: _, h, _, _, _ => h.elim
  | _ :: _, [], h, _, _, _ => h.elim
theorem ceqs.fst : ∀ {xs ys : va_W}, ceqs xs ys → xs.map Prod.fst = ys.map Prod.fst
  | [], [], _ => rfl
  | x :: xs, y :: ys, h => by rw [List.map_cons, List.map_cons, h.1.fst, ceqs.fst h.2]
  | [], _ :: _, h => h.elim
  | _ :: _, [], h => h.elim
theorem ceqs.rfl : ∀ {xs : va_W}, ceqs xs xs
  | [] => trivial
  | _ :: _ => ⟨Or.inl (Eq.refl _), ceqs.rfl⟩
theorem wflds_ad {ad ad' : Nat → Nat} {f : Nat → Int32} : ∀ (i : Nat) (L : List (Option Nat)), (∀ x ∈ L, ∀ j, x = some j → ad j = ad' j) → wflds ad f i L = wflds ad' f i L
  | _, [], _ => rfl
  | i, none :: t, h => by
    show _ :: _ = _ :: _
    rw [wflds_ad (i + 1) t (fun x hx => h x (List.mem_cons_of_mem _ hx))]
  | i, some j :: t, h => by
    show _ :: _ = _ :: _
    rw [wflds_ad (i + 1) t (fun x hx => h x (List.mem_cons_of_mem _ hx)), h _ List.mem_cons_self j rfl]
theorem wshape_ad {T : Wt} {cy : Nat → ClassId} {ad ad' : Nat → Nat} {n k : Nat} {f : Nat → Int32} {g : Nat → Int64} (hcl : closedT T n) (h : ∀ k, k < n → ad' k = ad k) (hk : k < n) : ceq (ad k, wshape T cy ad k f g) (ad' k, wshape T cy ad' k f g) := by
  rw [h k hk]
  unfold wshape
  split
  · exact Or.inl (by rw [wflds_ad 0 _ (fun x hx j hj => (h j (hcl.1 k hk x hx j hj)).symm)])
  · exact Or.inl rfl
  · rename_i h5
    refine Or.inr ⟨_, _, _, _, _, rfl, rfl, fun i hi => ?_⟩
    cases hj : T.2.2.2 k i with
    | none => rfl
    | some j => show some _ = some _; rw [h j (hcl.2 k hk (Or.inl h5) i hi j hj)]
  · rename_i h5
    refine Or.inr ⟨_, _, _, _, _, rfl, rfl, fun i hi => ?_⟩
    cases hj : T.2.2.2 k i with
    | none => rfl
    | some j => show some _ = some _; rw [h j (hcl.2 k hk (Or.inr h5) i hi j hj)]
  · exact Or.inl rfl
theorem wws_fst {T : Wt} {cy : Nat → ClassId} {ad : Nat → Nat} {n : Nat} {σ : St} : (wws T cy ad n σ).map Prod.fst = (List.range n).map ad := by
  unfold wws
  rw [List.map_map]
  rfl
theorem wws_mem {T : Wt} {cy : Nat → ClassId} {ad : Nat → Nat} {n : Nat} {σ : St} {q : Nat × va_E} : q ∈ wws T cy ad n σ ↔ ∃ k, k < n ∧ (ad k, wshape T cy ad k (σ.1 k) (σ.2 k)) = q := by
  unfold wws
  rw [List.mem_map]
  constructor
  · rintro ⟨k, h1, h2⟩
    exact ⟨k, List.mem_range.mp h1, h2⟩
  · rintro ⟨k, h1, h2⟩
    exact ⟨k, List.mem_range.mpr h1, h2⟩
def wseg (T : Wt) (cy : Nat → ClassId) (ad : Nat → Nat) (n d : Nat) (σ : St) : va_W := (List.range d).map (fun j => (ad (n + j), wshape T cy ad (n + j) (σ.1 (n + j)) (σ.2 (n + j))))
theorem wgrow {T : Wt} {cy : Nat → ClassId} {ad ad' : Nat → Nat} {n n' d : Nat} {σ σ' : St} {wf w2 : va_W} {D : va_G} {cl : List vw_C} {A : Nat → Prop} {H : Heap} (hn : n' = n + d) (hcl : closedT T n) (had : ∀ k, k < n → ad' k = ad k) (hσ : ∀ k, k < n → σ'.1 k = σ.1 k ∧ σ'.2 k = σ.2 k) (hw : ceqs w2 (wseg T cy ad' n d σ')) (hP : va_P D cl (wf ++ (wws T cy ad n σ ++ w2)) H) (hD : va_D A (wf ++ (wws T cy ad n σ ++ w2))) : va_P D cl (wf ++ wws T cy ad' n' σ') H ∧ va_D A (wf ++ wws T cy ad' n' σ') := by
  subst hn
  have hp := vP_mem.mp hP
  obtain ⟨hd1, hd2⟩ := vD_mem.mp hD
  have hf : (wf ++ (wws T cy ad n σ ++ w2)).map Prod.fst = (wf ++ wws T cy ad' (n + d) σ').map Prod.fst := by
    rw [List.map_append, List.map_append, List.map_append, wws_fst, wws_fst, hw.fst, List.range_add, List.map_append]
    unfold wseg
    rw [List.map_map, List.map_map]
    congr 2
    exact List.map_congr_left fun k hk => (had k (List.mem_range.mp hk)).symm
  refine ⟨vP_mem.mpr fun q hq => ?_, vD_mem.mpr ⟨by rw [← hf]; exact hd1, fun q hq => ?_⟩⟩
  · rcases List.mem_append.mp hq with h | h
    · exact hp q (List.mem_append_left _ h)
    · obtain ⟨k, hk, rfl⟩ := wws_mem.mp h
      by_cases hkn : k < n
      · rw [(hσ k hkn).1, (hσ k hkn).2]
        exact (wshape_ad hcl had hkn).at (hp _ (List.mem_append_right _ (List.mem_append_left _ (wws_mem.mpr ⟨k, hkn, rfl⟩))))
      · refine hw.at (fun q hq => hp q (List.mem_append_right _ (List.mem_append_right _ hq))) _ ?_
        unfold wseg
        rw [List.mem_map]
        exact ⟨k - n, List.mem_range.mpr (by omega), by rw [show n + (k - n) = k by omega]⟩
  · have hm : q.1 ∈ (wf ++ (wws T cy ad n σ ++ w2)).map Prod.fst := by rw [hf]; exact List.mem_map.mpr ⟨q, hq, rfl⟩
    obtain ⟨q', hq', he⟩ := List.mem_map.mp hm
    rw [← he]
    exact hd2 q' hq'
theorem WI.grow {D : va_G} {A : Nat → Prop} {p : Program} {l : Launch} {e : Env} {R : Room} {s : State} {m : MethodId} {args : Array Value} {below : List Frame} {meth : Method} {c : Code} {nL : Nat} {Q : State → Prop} {ce sl : Nat} {lo : List (Option Value)} {st : List Value} {pc : Nat} {T : Wt} {cy : Nat → ClassId} {ad ad' : Nat → Nat} {n n' d : Nat} {σ σ' : St} {wf w2 : va_W} (hn : n' = n + d) (hcl : closedT T n) (had : ∀ k, k < n → ad' k = ad k) (hσ : ∀ k, k < n → σ'.1 k = σ.1 k ∧ σ'.2 k = σ.2 k) (hw : ceqs w2 (wseg T cy ad' n d σ')) (k : WI D A p l e R s m args below meth c nL Q ce sl (wf ++ wws T cy ad' n' σ') lo st pc) : WI D A p l e R s m args below meth c nL Q ce sl (wf ++ (wws T cy ad n σ ++ w2)) lo st pc := fun H locs ls hP hD hS hl =>
  k H locs ls (wgrow hn hcl had hσ hw hP hD).1 (wgrow hn hcl had hσ hw hP hD).2 hS hl
def adx (ad : Nat → Nat) (n : Nat) (L : List Nat) : Nat → Nat := fun k => if k < n then ad k else L.getD (k - n) 0
theorem adx_lt {ad : Nat → Nat} {n : Nat} {L : List Nat} (k : Nat) (h : k < n) : adx ad n L k = ad k := if_pos h
def zs : St := (fun _ _ => 0, fun _ _ => 0)

/-! THE CLAIM OUT OF ONE WALK OF THE LAW'S BODY. Your part is whole_start (and what it stands on); all else here is the same for every law, but numbers. -/
def R_law : String := "CubeDeskLaw"
def lw_P (b : Addr) (xs : List Int32) (args : Array Value) (s : State) : Prop := args = #[.ref b] ∧ s.IntsAt b xs ∧ xs.length ≤ 2560 ∧ (Jvm.Cond.and given_1 narrow_1).before args s = true
def lw_Q (_ : Array Value) (s : State) (o : Outcome) (t : State) : Prop := o = .returned (some (.int 1)) ∧ Framed s o t [] 600000 7302250
def lw_Z (below : List Frame) (a : Array Value) (s : State) : State → Prop := fun t => ∃ o, t.status = .running ∧ Ended t below o ∧ lw_Q a s o t
/-- the law's own end, with 1 on the stack, nothing written that was there before, its room as the claim has it -/
theorem lw_ret {p : Program} {l : Launch} {e : Env} {s : State} {m : MethodId} {below : List Frame} {meth : Method} {c : Code} {b : Nat} (hx : p.tables.exec = Jvm.exec) (hb : c.code = code) (hr : meth.sig.returnType = ret) (hlocks : meth.locks = false) {pc : Nat} {H : Heap} {ls : Array Slot} (hdg : decode code pc = .ok (.ireturn, 1)) : W p l e room_1 s m #[Value.ref b] below meth c H [] 600000 7302250 (lw_Z below #[Value.ref b] s) (F0 m pc ls [.int 1]) := by
  intro T hT X
  obtain ⟨fs, hret, hrun, hended, hW, hframe⟩ := X.leave (v := some (.int 1)) (hlocks := hlocks) (fun h => by rw [hr] at h; cases h)
  have hmeth' : T.vm.method? m = some meth := X.method'
  refine ⟨T.setFrames fs, ?_, .returned (some (.int 1)), hrun, hended, rfl, ⟨_, rfl⟩, hW, hframe⟩
  jvm_step X.here [X.here.top, hx, hb, hdg, hmeth', hr, ret, narrow_b1]
  (try refine ⟨rfl, ?_⟩); (try refine ⟨rfl, ?_⟩)
  first | (intro acts; rw [hret _ acts rfl rfl rfl]) | rw [hret _ _ rfl rfl rfl]
  exact Steps.refl _
/-- what holds at the law's entry: the machine, the code, the tables' words (any of lw_tbl by 'hts w (by decide +kernel)'), the script of L ints xs at the cell b, what the Statement gives of the start (any of its parts by flat_of_before) -/
def lw_At (p : Program) (s : State) (m : MethodId) (meth : Method) (c : Code) (b L : Nat) (xs : Nat → Int32) : Prop :=
  p.tables.exec = Jvm.exec ∧ c.code = code ∧ meth.sig.returnType = ret ∧ c.maxLocals = 4 ∧ s.vm.findClass R_law = some m.cls ∧ (∀ w ∈ lw_tbl, w.before #[Value.ref b] s = true) ∧ va_X b L xs s s.heap ∧ b < s.heap.size ∧ meth.locks = false ∧ (Jvm.Cond.and given_1 narrow_1).before #[Value.ref b] s = true
section MyLaw
variable {cy : Nat → ClassId} {D : va_G} {p : Program} {l : Launch} {e : Env} {s : State} {m : MethodId} {below : List Frame} {meth : Method} {c : Code} {b L : Nat} {xs : Nat → Int32} {adC adR : Nat → Nat}
theorem law_head (hc : CX p s m #[Value.ref b] c D cy cL_law 4 RL wsL_law) (hX : va_X b L xs s s.heap) (hbl : b < s.heap.size) (hL : L ≤ 2560) (hr : meth.sig.returnType = ret) (hlk : meth.locks = false) {i : Nat} (hi : i ≤ 2565) {σ τ : St} (kb : i + 5 ≤ L → WI D (fun q : Nat => s.heap.size ≤ q) p l e room_1 s m #[Value.ref b] below meth c 4 (lw_Z below #[Value.ref b] s) 66 84075 (wws TC cy adC 49 σ ++ wws TR cy adR 17 τ) [some (.ref b), some (.ref (adC 48)), some (.ref (adR 0)), some (.int (nI i))] [] 26) : WI D (fun q : Nat => s.heap.size ≤ q) p l e room_1 s m #[Value.ref b] below meth c 4 (lw_Z below #[Value.ref b] s) 66 84075 (wws TC cy adC 49 σ ++ wws TR cy adR 17 τ) [some (.ref b), some (.ref (adC 48)), some (.ref (adR 0)), some (.int (nI i))] [] 18 := by
  refine i_iload_n hc dL_law_18 rfl ?_
  refine i_aload_n hc dL_law_19 rfl ?_
  refine i_slen hc hX hbl dL_law_20 ?_
  refine i_iconst (v := 5) hc dL_law_21 (by decide) ?_
  refine i_isub hc dL_law_22 ?_
  refine i_icmp_gt (tgt := 949) hc dL_law_23 (by decide) (fun _ => ?_) (fun q => kb (Nat.not_lt.mp fun h => q ?_))
  · refine i_iconst (v := 1) hc dL_law_949 (by decide) ?_
    exact fun H locs ls hP hD hS hl => va_forget (fun q hq => hS.2.2 q hq) (W.widen (Nat.le_of_ble_eq_true rfl) (Nat.le_of_ble_eq_true rfl) (lw_ret hc.1 hc.2.1 hr hlk dL_law_950))
  · rw [Int32.lt_iff_toInt_lt, show (5 : Int32) = nI 5 from rfl, pk_sub_toInt (by omega) (by omega), nI_toInt (by omega)]
    omega
theorem law_body (hc : CX p s m #[Value.ref b] c D cy cL_law 4 RL wsL_law) (hX : va_X b L xs s s.heap) (hbl : b < s.heap.size) (hL : L ≤ 2560) {Q : State → Prop} {i : Nat} (hi : i + 5 ≤ L) {σ τ : St} {M : Mo} (hC : CI σ M) (hR : RI τ M) (kk : ∀ (M' : Mo) (σ' τ' : St), CI σ' M' → RI τ' M' → WI D (fun q : Nat => s.heap.size ≤ q) p l e room_1 s m #[Value.ref b] below meth c 4 Q 66 84075 (wws TC cy adC 49 σ' ++ wws TR cy adR 17 τ') [some (.ref b), some (.ref (adC 48)), some (.ref (adR 0)), some (.int (nI i))] [] 943) : WI D (fun q : Nat => s.heap.size ≤ q) p l e room_1 s m #[Value.ref b] below meth c 4 Q 66 84075 (wws TC cy adC 49 σ ++ wws TR cy adR 17 τ) [some (.ref b), some (.ref (adC 48)), some (.ref (adR 0)), some (.int (nI i))] [] 26 := by
  refine i_aload_n hc dL_law_26 rfl ?_
  refine i_iload_n hc dL_law_27 rfl ?_
  refine i_sld hc hX hbl hL (i := i) (by omega) dL_law_28 ?_
  refine i_bipush (v := 31) hc dL_law_29 (by decide) ?_
  refine i_iand hc dL_law_31 ?_
  obtain ⟨j, hj, e⟩ := pk_andE (xs i) (m := 31) 5 (by decide)
  rw [e]
  have hj : j < 32 := hj
  by_cases h26 : 26 < j
  · exact i_tabOut (tgt := 943) hc dL_law_32 (Or.inr (by rw [nI_toInt (by omega)]; omega)) (by decide) (kk M σ τ hC hR)
  · rcases (show j = 0 ∨ j = 1 ∨ j = 2 ∨ j = 3 ∨ j = 4 ∨ j = 5 ∨ j = 6 ∨ j = 7 ∨ j = 8 ∨ j = 9 ∨ j = 10 ∨ j = 11 ∨ j = 12 ∨ j = 13 ∨ j = 14 ∨ j = 15 ∨ j = 16 ∨ j = 17 ∨ j = 18 ∨ j = 19 ∨ j = 20 ∨ j = 21 ∨ j = 22 ∨ j = 23 ∨ j = 24 ∨ j = 25 ∨ j = 26 by omega) with rfl | rfl | rfl | rfl | rfl | rfl | rfl | rfl | rfl | rfl | rfl | rfl | rfl | rfl | rfl | rfl | rfl | rfl | rfl | rfl | rfl | rfl | rfl | rfl | rfl | rfl | rfl
    · exact i_tabIn (tgt := 156) hc dL_law_32 (by decide) (by decide) rfl (by decide) (lc_dimension hc hX hbl hL hi hC hR kk)
    · exact i_tabIn (tgt := 179) hc dL_law_32 (by decide) (by decide) rfl (by decide) (lc_level hc hX hbl hL hi hC hR kk)
    · exact i_tabIn (tgt := 212) hc dL_law_32 (by decide) (by decide) rfl (by decide) (lc_parent hc hX hbl hL hi hC hR kk)
    · exact i_tabIn (tgt := 265) hc dL_law_32 (by decide) (by decide) rfl (by decide) (lc_lies hc hX hbl hL hi hC hR kk)
    · exact i_tabIn (tgt := 308) hc dL_law_32 (by decide) (by decide) rfl (by decide) (lc_members hc hX hbl hL hi hC hR kk)
    · exact i_tabIn (tgt := 341) hc dL_law_32 (by decide) (by decide) rfl (by decide) (lc_fact hc hX hbl hL hi hC hR kk)
    · exact i_tabIn (tgt := 364) hc dL_law_32 (by decide) (by decide) rfl (by decide) (lc_drop hc hX hbl hL hi hC hR kk)
    · exact i_tabIn (tgt := 387) hc dL_law_32 (by decide) (by decide) rfl (by decide) (lc_pick hc hX hbl hL hi hC hR kk)
    · exact i_tabIn (tgt := 420) hc dL_law_32 (by decide) (by decide) rfl (by decide) (lc_cuboids hc hX hbl hL hi hC hR kk)
    · exact i_tabIn (tgt := 433) hc dL_law_32 (by decide) (by decide) rfl (by decide) (lc_levelOf hc hX hbl hL hi hC hR kk)
    · exact i_tabIn (tgt := 466) hc dL_law_32 (by decide) (by decide) rfl (by decide) (lc_size hc hX hbl hL hi hC hR kk)
    · exact i_tabIn (tgt := 489) hc dL_law_32 (by decide) (by decide) rfl (by decide) (lc_serves hc hX hbl hL hi hC hR kk)
    · exact i_tabIn (tgt := 522) hc dL_law_32 (by decide) (by decide) rfl (by decide) (lc_keep hc hX hbl hL hi hC hR kk)
    · exact i_tabIn (tgt := 571) hc dL_law_32 (by decide) (by decide) rfl (by decide) (lc_kept hc hX hbl hL hi hC hR kk)
    · exact i_tabIn (tgt := 594) hc dL_law_32 (by decide) (by decide) rfl (by decide) (lc_cost hc hX hbl hL hi hC hR kk)
    · exact i_tabIn (tgt := 617) hc dL_law_32 (by decide) (by decide) rfl (by decide) (lc_server hc hX hbl hL hi hC hR kk)
    · exact i_tabIn (tgt := 640) hc dL_law_32 (by decide) (by decide) rfl (by decide) (lc_gain hc hX hbl hL hi hC hR kk)
    · exact i_tabIn (tgt := 663) hc dL_law_32 (by decide) (by decide) rfl (by decide) (lc_choose hc hX hbl hL hi hC hR kk)
    · exact i_tabIn (tgt := 686) hc dL_law_32 (by decide) (by decide) rfl (by decide) (lc_best hc hX hbl hL hi hC hR kk)
    · exact i_tabIn (tgt := 709) hc dL_law_32 (by decide) (by decide) rfl (by decide) (lc_ask hc hX hbl hL hi hC hR kk)
    · exact i_tabIn (tgt := 742) hc dL_law_32 (by decide) (by decide) rfl (by decide) (lc_group hc hX hbl hL hi hC hR kk)
    · exact i_tabIn (tgt := 775) hc dL_law_32 (by decide) (by decide) rfl (by decide) (lc_read hc hX hbl hL hi hC hR kk)
    · exact i_tabIn (tgt := 788) hc dL_law_32 (by decide) (by decide) rfl (by decide) (lc_filter hc hX hbl hL hi hC hR kk)
    · exact i_tabIn (tgt := 831) hc dL_law_32 (by decide) (by decide) rfl (by decide) (lc_total hc hX hbl hL hi hC hR kk)
    · exact i_tabIn (tgt := 854) hc dL_law_32 (by decide) (by decide) rfl (by decide) (lc_table hc hX hbl hL hi hC hR kk)
    · exact i_tabIn (tgt := 897) hc dL_law_32 (by decide) (by decide) rfl (by decide) (lc_out hc hX hbl hL hi hC hR kk)
    · exact i_tabIn (tgt := 920) hc dL_law_32 (by decide) (by decide) rfl (by decide) (lc_count hc hX hbl hL hi hC hR kk)
theorem law_loop (hc : CX p s m #[Value.ref b] c D cy cL_law 4 RL wsL_law) (hX : va_X b L xs s s.heap) (hbl : b < s.heap.size) (hL : L ≤ 2560) (hr : meth.sig.returnType = ret) (hlk : meth.locks = false) : ∀ (n i : Nat) (M : Mo) (σ τ : St), i ≤ 2565 → L < i + n → CI σ M → RI τ M → WI D (fun q : Nat => s.heap.size ≤ q) p l e room_1 s m #[Value.ref b] below meth c 4 (lw_Z below #[Value.ref b] s) 66 84075 (wws TC cy adC 49 σ ++ wws TR cy adR 17 τ) [some (.ref b), some (.ref (adC 48)), some (.ref (adR 0)), some (.int (nI i))] [] 18 := by
  intro n
  induction n with
  | zero => exact fun i M σ τ hi hn hC hR => law_head hc hX hbl hL hr hlk hi (fun h => by omega)
  | succ n ih =>
    exact fun i M σ τ hi hn hC hR => law_head hc hX hbl hL hr hlk hi (fun h => law_body hc hX hbl hL h hC hR (fun M' σ' τ' h1 h2 => i_iinc (v := nI (i + 5)) hc dL_law_943 rfl (nI_add i 5) (by decide) (ss (ss (s1 trivial))) (i_goto (tgt := 18) hc dL_law_946 (by decide) (ih (i + 5) M' σ' τ' (by omega) (by omega) h1 h2))))
end MyLaw
theorem iL_X8 : ∀ w ∈ u_ws RX8 TX8 8, w ∈ wsL_law := inlX8
theorem iL_X9 : ∀ w ∈ u_ws RX9 TX9 25, w ∈ wsL_law := inlX9
set_option maxHeartbeats 4000000 in
set_option maxRecDepth 100000 in
theorem whole_start {p : Program} {e : Env} {s : State} {m : MethodId} {below : List Frame} {meth : Method} {c : Code} (l : Launch) {b L : Nat} {xs : Nat → Int32} (hL : L ≤ 2560) (C0 : lw_At p s m meth c b L xs) : W p l e room_1 s m #[Value.ref b] below meth c s.heap [] 0 0 (lw_Z below #[Value.ref b] s) (entryFrame m ([Value.ref b] : List Value).toArray 4) := by
  obtain ⟨hx, hb, hr, hml, hown, hts, hX, hbl, hlk, hgv⟩ := C0
  obtain ⟨D, cy, hK, hN, hO, hOA⟩ := law_K hts
  have hc : CX p s m #[Value.ref b] c D cy cL_law 4 RL wsL_law := ⟨hx, hb, hml, hown, fun w h => hts w (wsL_law_in w h), hK, hN⟩
  have hA : ∀ q, s.heap.size ≤ q → (fun q : Nat => s.heap.size ≤ q) q := fun q h => h
  have key : WI D (fun q : Nat => s.heap.size ≤ q) p l e room_1 s m #[Value.ref b] below meth c 4 (lw_Z below #[Value.ref b] s) 0 0 [] [some (.ref b), none, none, none] [] 0 := by
    refine i_new (ci := 8) (C0 := RX8) (T0 := TX8) (N := 8) (fs := [.null, .null, .null, .null, .null, .null, .null, .int 0]) hc hA tyX8 iL_X8 tyX8_ok (by decide +kernel) (by decide +kernel) (by decide +kernel) rfl (fun j hj => by rcases (show j = 0 ∨ j = 1 ∨ j = 2 ∨ j = 3 ∨ j = 4 ∨ j = 5 ∨ j = 6 ∨ j = 7 by omega) with rfl | rfl | rfl | rfl | rfl | rfl | rfl | rfl <;> rfl) (Nat.le_of_ble_eq_true rfl) (Nat.le_of_ble_eq_true rfl) dL_law_0 (fun q8 => ?_)
    refine i_dup hc dL_law_3 rfl ?_
    refine i_callI (pre := [(q8, .inr (8, [.null, .null, .null, .null, .null, .null, .null, .int 0]))]) (wr := []) (As := []) hc hA hO hOA (kX8_init q8) (cwI 0 hc.2.2.2.2.1 gL_law_X8_init rfl rfl rfl (hc.2.2.2.2.1 (.initialized RX8) (by decide +kernel)) (hc.2.2.2.2.1 (.methodLink RL 9 yX8_init) (by decide +kernel)) (hc.2.2.2.2.1 (.instanceMethod yX8_init) (by decide +kernel)) rfl (by decide +kernel) ⟨(Nat.le_of_ble_eq_true rfl), (Nat.le_of_ble_eq_true rfl)⟩) rfl rfl (Nat.le_of_ble_eq_true rfl) dL_law_4 ⟨(Nat.le_of_ble_eq_true rfl), (Nat.le_of_ble_eq_true rfl)⟩ (fun w9 h9 => ?_)
    obtain ⟨adC, σ, rfl, rfl, hC⟩ := h9
    refine i_astore_n hc dL_law_7 rfl (by decide) (s1 trivial) ?_
    refine i_new (ci := 9) (C0 := RX9) (T0 := TX9) (N := 25) (fs := [.int 0, .int 0, .null, .null, .null, .int 0, .null, .null, .null, .null, .null, .null, .null, .int 0, .null, .int 0, .null, .null, .null, .null, .null, .int 0, .int 0, .int 0, .int 0]) hc hA tyX9 iL_X9 tyX9_ok (by decide +kernel) (by decide +kernel) (by decide +kernel) rfl (fun j hj => by rcases (show j = 0 ∨ j = 1 ∨ j = 2 ∨ j = 3 ∨ j = 4 ∨ j = 5 ∨ j = 6 ∨ j = 7 ∨ j = 8 ∨ j = 9 ∨ j = 10 ∨ j = 11 ∨ j = 12 ∨ j = 13 ∨ j = 14 ∨ j = 15 ∨ j = 16 ∨ j = 17 ∨ j = 18 ∨ j = 19 ∨ j = 20 ∨ j = 21 ∨ j = 22 ∨ j = 23 ∨ j = 24 by omega) with rfl | rfl | rfl | rfl | rfl | rfl | rfl | rfl | rfl | rfl | rfl | rfl | rfl | rfl | rfl | rfl | rfl | rfl | rfl | rfl | rfl | rfl | rfl | rfl | rfl <;> rfl) (Nat.le_of_ble_eq_true rfl) (Nat.le_of_ble_eq_true rfl) dL_law_8 (fun q9 => ?_)
    refine i_dup hc dL_law_11 rfl ?_
    refine i_callI (pre := [(q9, .inr (9, [.int 0, .int 0, .null, .null, .null, .int 0, .null, .null, .null, .null, .null, .null, .null, .int 0, .null, .int 0, .null, .null, .null, .null, .null, .int 0, .int 0, .int 0, .int 0]))]) (wr := wws TC cy adC 49 σ) (As := []) hc hA hO hOA (kX9_init q9) (cwI 0 hc.2.2.2.2.1 gL_law_X9_init rfl rfl rfl (hc.2.2.2.2.1 (.initialized RX9) (by decide +kernel)) (hc.2.2.2.2.1 (.methodLink RL 12 yX9_init) (by decide +kernel)) (hc.2.2.2.2.1 (.instanceMethod yX9_init) (by decide +kernel)) rfl (by decide +kernel) ⟨(Nat.le_of_ble_eq_true rfl), (Nat.le_of_ble_eq_true rfl)⟩) rfl rfl (Nat.le_of_ble_eq_true rfl) dL_law_12 ⟨(Nat.le_of_ble_eq_true rfl), (Nat.le_of_ble_eq_true rfl)⟩ (fun w9 h9 => ?_)
    obtain ⟨adR, rfl, rfl⟩ := h9
    refine i_astore_n hc dL_law_15 rfl (by decide) (ss (s1 trivial)) ?_
    refine i_iconst (v := 0) hc dL_law_16 (by decide) ?_
    refine i_istore_n hc dL_law_17 rfl (by decide) (ss (ss (s1 trivial))) ?_
    exact law_loop hc hX hbl hL hr hlk (L + 1) 0 M0 σ ts0 (by omega) (by omega) hC RI0
  have hl := lv_entry [Value.ref b] (n := 4) (Nat.le_of_ble_eq_true rfl)
  rw [lg_entry_eq]
  exact key s.heap [] _ (fun k q hq => by cases hq) ⟨(fun i j x y hx => by cases hx), (fun k q hq => by cases hq)⟩ va_S.rf ⟨hl.1, hl.2.1, fun i v h => hl.2.2 (i, v) (lo_start (av := [Value.ref b]) (k := 3) (allc1_ok (l := [Value.ref b]) trivial) i v h)⟩

set_option maxHeartbeats 4000000 in
theorem lw_walk (l : Launch) (b : Addr) (xs : List Int32) : MetFree l x (headSpec (Jvm.Cond.code x code maxLocals ret :: tables_1) room_1) (lw_P b xs) (fun _ _ _ _ _ => True) lw_Q := by
  refine MetFree.of_bodyS (code := code) (maxLocals := maxLocals) (ret := ret) (by decide) ?_ ?_
  · intro args s m h hn
    obtain ⟨meth, c, h1, h2, h3, h4, h5, h6, -, -⟩ := Cond.code_spec hn (atoms_spec (ws := Jvm.Cond.code x code maxLocals ret :: tables_1) h _ List.mem_cons_self)
    exact ⟨meth, c, h1, h2, h3, h4, h5, h6⟩
  · intro p e s m args below meth c s₁ B hml0 hP _
    obtain ⟨rfl, hx, hbd, hgv⟩ := hP
    obtain ⟨scr, harrAt, hlist, hof, hsmall⟩ := hx
    obtain ⟨hcb, hkn, -, -⟩ := State.arrayAt?_spec harrAt
    have hown : s.vm.findClass R_law = some m.cls := findClass_of_methodNamed B.named
    have hts0 : ∀ c ∈ (Jvm.Cond.code x code maxLocals ret :: tables_1), c.before #[Value.ref b] s = true := atoms_spec (ws := Jvm.Cond.code x code maxLocals ret :: tables_1) B.pre
    have hts : ∀ w ∈ lw_tbl, w.before #[Value.ref b] s = true := k2_hts_sels lw_privs (fun w hw => hts0 w (List.mem_cons_of_mem _ hw)) lw_privs_ok
    have hml : c.maxLocals = 4 := B.maxLocals_eq (hts0 _ List.mem_cons_self)
    have X₀ : Stand p l e room_1 s m #[Value.ref b] below meth c s₁ [] 0 0 := Stand.of_body B
    have hh0 : s₁.heap = s.heap := by rw [B.state]; rfl
    have hsz : scr.slots.size = xs.length := by rw [← Array.length_toList, hlist, List.length_map]
    have hval : ∀ j : Nat, j < xs.length → scr.slots[j]? = some (.int (xs.getD j 0)) := fun j hj => by
      rw [← Array.getElem?_toList, hlist]
      simp [hj]
    have hbl : b < s.heap.size := (Array.getElem?_eq_some_iff.mp hcb).1
    have hX : va_X b xs.length (fun j => xs.getD j 0) s s.heap := ⟨scr, hcb, hof, hkn, hsz, hval⟩
    have K : W p l e room_1 s m #[Value.ref b] below meth c s₁.heap [] 0 0 (lw_Z below #[Value.ref b] s) (entryFrame m ([Value.ref b] : List Value).toArray 4) := by
      rw [hh0]
      exact whole_start l hbd ⟨B.exec, B.bytes, B.returns, hml, hown, hts, hX, hbl, B.notSynchronized, hgv⟩
    obtain ⟨t, a1, o, b1, b2, b3⟩ := K s₁ rfl X₀
    exact ⟨t, o, a1, b1, b2, b3⟩
theorem lw_pre_spec {args : Array Value} {s : State} (h : (Jvm.Cond.and given_1 narrow_1).before args s = true) (hr : rest_1_c.before args s = true) : ∃ (b : Addr) (xs : List Int32), lw_P b xs args s := by
  have hs := flat_of_before _ h
  have hq := flat_of_before _ hr
  have hc : (Cond.count 1).before args s = true := hs _ (by decide +kernel)
  have harr : (Cond.arrayOf (.arg 0) .int).before args s = true := hs _ (by decide +kernel)
  have hle : (Cond.le (.length (.arg 0)) (.int 2560)).before args s = true := hs _ (by decide +kernel)
  have hlen : (Cond.isInt (.length (.arg 0))).before args s = true := hq _ (by decide +kernel)
  have hall : (Cond.all (.arg 0) (.isInt (.elem (.arg 0) (.index 0)))).before args s = true := hq _ (by decide +kernel)
  obtain ⟨b, xs, hb, hx⟩ := State.ints_of_pre rfl harr hlen hall
  have hsm : xs.length < 2 ^ 31 := hx.choose_spec.2.2.2
  have hev : (Term.length (.arg 0)).eval args s none [] s = some (.int xs.length.toInt32) := hx.length_eval hb
  have hv := Cond.le_ints hev (show (Term.int 2560).eval args s none [] s = some (.int 2560) from rfl)
  have hd : xs.length.toInt32 ≤ 2560 := by
    simpa [Cond.before, Cond.holds, hv] using hle
  have hN : xs.length ≤ 2560 := (Int32.ofNat_le_ofNat hsm (by decide)).mp (show Int32.ofNat xs.length ≤ Int32.ofNat 2560 from hd)
  exact ⟨b, xs, Cond.one_arg hc (show args[0]? = some (.ref b) from hb), hx, hN, h⟩
theorem lw_comes (l : Launch) : Comes l x (Jvm.Cond.code x code maxLocals ret :: tables_1) room_1 (fun tb e args s => Calls_1 tb e args s ∧ rest_1 tb e args s ∧ Pre_1 tb e args s)
    (fun _ _ args s o t => lw_Q args s o t) := by
  intro p e ha hc hk s m args below hf hfit hheap happ hpre
  obtain ⟨b, xs, hP⟩ := lw_pre_spec hpre.2.2 hpre.2.1
  obtain ⟨k, o, h1, h2, h3, hQ⟩ := lw_walk l b xs p e ha hc hk s m args below hf ((Spec.applies_iff_loose hf).mp happ).1 hP trivial
  exact ⟨k, o, h1, h2, h3, hQ⟩
theorem lw_frame {s t : State} {o : Outcome} {args : Array Value} (h : Framed s o t [] 600000 7302250) :
    Framed s o t (fieldLocs frame_1_writes args s ++ arrayLocs frame_1_arrays args s ++ staticLocs frame_1_statics s) 600000 7302250 := h
theorem lw_limb (L : Cond) (hL : ∀ (args : Array Value) (s t : State), L.after args s (.returned (some (.int 1))) t = true) :
    ArmFor flags0 classFile x code maxLocals ret World_1 tables_1 room_1 Calls_1 rest_1 Pre_1
      (fun tb e a s o t => postC L tb e a s o t ∧ Framed s o t (fieldLocs frame_1_writes a s ++ arrayLocs frame_1_arrays a s ++ staticLocs frame_1_statics s) 600000 7302250) := by
  intro l _ _ _ p e ha hc hk s m args below hf hfit hheap happ hpre
  obtain ⟨k, o, h1, h2, h3, rfl, hF⟩ := lw_comes l p e ha hc hk s m args below hf hfit hheap happ hpre
  exact ⟨k, _, h1, h2, h3, hL args s _, lw_frame hF⟩
theorem i_vc : Claimed_1_1 ∧ Claimed_1_2 := ⟨lw_limb limb_1_1 (fun args s t => by simp [limb_1_1, Cond.after, Cond.holds, Cond.value]), lw_limb limb_1_2 (fun args s t => Cond.after_iff.mpr (by
  first | (rw [show limb_1_2 = Cond.eq .result (.int 1) from rfl, Cond.eq_ints (x := 1) (y := 1) rfl rfl]; simp; done) | (simp [limb_1_2, Cond.value, Term.eval]; done)))⟩

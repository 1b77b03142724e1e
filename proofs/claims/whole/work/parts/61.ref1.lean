/-! ===== the reference: its leaves ===== -/
theorem leI {a b : Nat} (ha : a < 2147483648) (hb : b < 2147483648) : nI a ≤ nI b ↔ a ≤ b := nI_leI (by omega) (by omega)
theorem ltI {a b : Nat} (ha : a < 2147483648) (hb : b < 2147483648) : nI a < nI b ↔ a < b := nI_ltI (by omega) (by omega)
theorem eqI {a b : Nat} (ha : a < 2147483648) (hb : b < 2147483648) : nI a = nI b ↔ a = b := nI_eq (by omega) (by omega)
theorem prodF_cons (f : Nat → Nat) (d : Nat) : ∀ k, prodF f d (k + 1) = f d * prodF f (d + 1) k
  | 0 => by simp [prodF]
  | k + 1 => by
    show prodF f d (k + 1) * f (d + (k + 1)) = f d * (prodF f (d + 1) k * f (d + 1 + k))
    rw [prodF_cons f d k, Nat.mul_assoc, show d + (k + 1) = d + 1 + k by omega]
theorem prodF_le {f : Nat → Nat} {b : Nat} : ∀ (k d : Nat), (∀ j, j < k → f (d + j) ≤ b) → prodF f d k ≤ b ^ k
  | 0, _, _ => by simp [prodF]
  | k + 1, d, h => by
    show prodF f d k * f (d + k) ≤ b ^ k * b
    exact Nat.mul_le_mul (prodF_le k d (fun j hj => h j (by omega))) (h k (by omega))
theorem prodF_pos {f : Nat → Nat} : ∀ (k d : Nat), (∀ j, j < k → 0 < f (d + j)) → 0 < prodF f d k
  | 0, _, _ => by simp [prodF]
  | k + 1, d, h => Nat.mul_pos (prodF_pos k d (fun j hj => h j (by omega))) (h k (by omega))
theorem pow4 {k : Nat} (h : k ≤ 4) : 4 ^ k ≤ 256 := by
  have : k = 0 ∨ k = 1 ∨ k = 2 ∨ k = 3 ∨ k = 4 := by omega
  rcases this with rfl | rfl | rfl | rfl | rfl <;> decide
theorem tot_le {M : Mo} (h : WF M) : tot M ≤ 256 :=
  Nat.le_trans (prodF_le (nd M) 0 (fun j hj => by have := h.2.1 j hj; simp; omega)) (pow4 h.1)
theorem tot_pos {M : Mo} : 0 < tot M := prodF_pos (nd M) 0 (fun j _ => Nat.succ_pos _)
theorem k9_inT {Q : Int32 → St → Prop} {σ : St} {x0 x1 x2 : Int32} (h1 : x1.toInt ≤ x0.toInt) (h2 : x0.toInt ≤ x2.toInt) (h : Q 1 σ) : vX9_in Q σ x0 x1 x2 := by
  unfold vX9_in
  refine ⟨fun a => ?_, fun a => ⟨fun b => ?_, fun b => h⟩⟩
  · have := i_lt.mp a; omega
  · have := i_lt.mp b; omega
theorem k9_inF {Q : Int32 → St → Prop} {σ : St} {x0 x1 x2 : Int32} (h1 : x0.toInt < x1.toInt ∨ x2.toInt < x0.toInt) (h : Q 0 σ) : vX9_in Q σ x0 x1 x2 := by
  unfold vX9_in
  refine ⟨fun a => h, fun a => ⟨fun b => h, fun b => ?_⟩⟩
  have a' : ¬ x0.toInt < x1.toInt := fun q => a (i_lt.mpr q)
  have b' : ¬ x2.toInt < x0.toInt := fun q => b (i_lt.mpr q)
  omega
theorem n1T {n : Nat} (h : n < 1073741824) : (nI n - 1).toInt = (n : Int) - 1 := pk_sub_toInt (a := n) (b := 1) (by omega) (by omega)
theorem k9_dimT {Q : Int32 → St → Prop} {σ : St} {M : Mo} (hI : RI σ M) {d : Nat} (hd : d < nd M) (h : Q 1 σ) : vX9_isDimension Q σ (nI d) := by
  have h4 := hI.1.1
  unfold vX9_isDimension
  rw [hI.2.1]
  refine k9_inT (by rw [c0, nT (by omega)]; omega) (by rw [nT (by omega), n1T (by omega)]; omega) ⟨zb1, h⟩
theorem k9_dimF {Q : Int32 → St → Prop} {σ : St} {M : Mo} (hI : RI σ M) {x : Int32} (hx : x.toInt < 0 ∨ (nd M : Int) ≤ x.toInt) (h : Q 0 σ) : vX9_isDimension Q σ x := by
  have h4 := hI.1.1
  unfold vX9_isDimension
  rw [hI.2.1]
  refine k9_inF (by rw [c0, n1T (by omega)]; omega) ⟨zb0, h⟩
theorem k9_manyT {Q : Int32 → St → Prop} {σ : St} {M : Mo} (hI : RI σ M) {d l : Nat} (hd : d < nd M) (hl : l ≤ tl M d) (h : Q (nI (wid M d l)) σ) : vX9_many Q σ (nI d) (nI l) := by
  have h4 := hI.1.1
  have ht := (hI.1.2.1 d hd).2
  have hr := (hI.2.2.2.2.2.1 d hd).1
  have hv : vp_in (nI d) 4 := vin (by omega) (by decide)
  unfold vX9_many
  rw [nC (show d < 2147483648 by omega), hr, l3, pk_mul, nI_add, nC (show 3 * d + l < 2147483648 by omega)]
  refine ⟨fun a => ?_, fun _ => ⟨hv, fun _ => ⟨hv, fun b => ?_, fun b => ?_⟩, fun b => ?_⟩⟩
  · have := i_lt.mp a; rw [c0, nT (by omega)] at this; omega
  · have e := (eqI (by omega) (by omega)).mp b
    unfold wid at h
    rw [if_neg (by omega), if_pos e] at h
    exact h
  · have e : ¬ l = tl M d := fun q => b (by rw [q])
    refine ⟨vin (by omega) (by decide), ?_⟩
    unfold wid at h
    rw [if_neg (by omega), if_neg e] at h
    rw [hI.2.2.2.2.2.2.2.1 d l hd (by omega)]
    exact h
  · exact absurd ((leI (by omega) (by omega)).mpr hl) b
theorem k9_manyF {Q : Int32 → St → Prop} {σ : St} {M : Mo} (hI : RI σ M) {d : Nat} {x : Int32} (hd : d < nd M) (hx : x.toInt < 0 ∨ (tl M d : Int) < x.toInt) (h : Q 0 σ) : vX9_many Q σ (nI d) x := by
  have h4 := hI.1.1
  have ht := (hI.1.2.1 d hd).2
  have hr := (hI.2.2.2.2.2.1 d hd).1
  have hv : vp_in (nI d) 4 := vin (by omega) (by decide)
  unfold vX9_many
  rw [nC (show d < 2147483648 by omega), hr]
  refine ⟨fun a => h, fun a => ⟨hv, fun b => ?_, fun b => h⟩⟩
  have b' := i_le.mp b
  have a' : ¬ x.toInt < 0 := fun q => a (i_lt.mpr (by rw [c0]; exact q))
  rw [nT (by omega)] at b'
  omega
theorem up_lt {M : Mo} (h : WF M) {d m : Nat} (hd : d < nd M) (hm : m < mb M d 0) : ∀ i, i < tl M d → upM (pa M d) m i < mb M d i
  | 0, _ => hm
  | i + 1, hi => h.2.2.2.1 d i _ hd hi
theorem lies_lt {M : Mo} (h : WF M) {d m l : Nat} (hd : d < nd M) (hm : m < mb M d 0) (hl : l ≤ tl M d) : liesM M d m l < 8 := by
  unfold liesM
  by_cases e : l = tl M d
  · rw [if_pos e]; decide
  · rw [if_neg e]
    exact Nat.lt_of_lt_of_le (up_lt h hd hm l (by omega)) (h.2.2.1 d l hd (by omega)).2
theorem k9_lies_loop {Q : Int32 → St → Prop} {σ : St} {M : Mo} (hI : RI σ M) {d m l : Nat} (hd : d < nd M) (hm : m < mb M d 0) (hl : l < tl M d) (hQ : Q (nI (upM (pa M d) m l)) σ) : ∀ q i, i ≤ l → l - i < q → vX9_liesIn_L18 Q q σ (nI d) (nI l) (nI (upM (pa M d) m i)) (nI i) := by
  intro q
  have h4 := hI.1.1
  have ht := (hI.1.2.1 d hd).2
  induction q with
  | zero => intro i _ h; omega
  | succ q ih =>
    intro i hi hq
    have hu := up_lt hI.1 hd hm i (by omega)
    have hm8 := (hI.1.2.2.1 d i hd (by omega)).2
    simp only [vX9_liesIn_L18]
    refine ⟨fun a => ?_, fun a => ?_⟩
    · have : l ≤ i := (leI (by omega) (by omega)).mp a
      have e : i = l := by omega
      rw [e]; exact hQ
    · have hlt : i < l := by
        rcases Nat.lt_or_ge i l with h | h
        · exact h
        · exact absurd ((leI (by omega) (by omega)).mpr h) a
      rw [l24, l8, pk_mul, pk_mul, nI_add, nI_add, nC (by omega), hI.2.2.2.2.2.2.2.2.1 d i _ (by omega) (by omega) (by omega), nsucc]
      exact ⟨vin (by omega) (by decide), ih (i + 1) (by omega) (by omega)⟩
theorem k9_liesIn {Q : Int32 → St → Prop} {σ : St} {M : Mo} (hI : RI σ M) {d m l : Nat} (hd : d < nd M) (hm : m < mb M d 0) (hl : l ≤ tl M d) (h : Q (nI (liesM M d m l)) σ) : vX9_liesIn Q σ (nI d) (nI m) (nI l) := by
  have h4 := hI.1.1
  have ht := (hI.1.2.1 d hd).2
  unfold vX9_liesIn
  rw [nC (by omega), (hI.2.2.2.2.2.1 d hd).1]
  refine ⟨vin (by omega) (by decide), fun a => ?_, fun a => ?_⟩
  · have e : l = tl M d := (eqI (by omega) (by omega)).mp a
    unfold liesM at h
    rw [if_pos e] at h
    exact h
  · have e : ¬ l = tl M d := fun q => a (by rw [q])
    unfold liesM at h
    rw [if_neg e] at h
    exact ⟨l + 1, k9_lies_loop hI hd hm (by omega) h (l + 1) 0 (by omega) (by omega)⟩
theorem k9_all {Q : Int32 → St → Prop} {σ : St} {M : Mo} (hI : RI σ M) (hQ : Q (nI (tot M)) σ) : vX9_all Q σ := by
  have h4 := hI.1.1
  have key : ∀ q i, i ≤ nd M → nd M - i < q → vX9_all_L4 Q q σ (nI (prodF (fun d => tl M d + 1) 0 i)) (nI i) := by
    intro q
    induction q with
    | zero => intro i _ h; omega
    | succ q ih =>
      intro i hi hq
      simp only [vX9_all_L4]
      rw [hI.2.1]
      refine ⟨fun a => ?_, fun a => ?_⟩
      · have : nd M ≤ i := (leI (by omega) (by omega)).mp a
        have e : i = nd M := by omega
        rw [e]; exact hQ
      · have hlt : i < nd M := by
          rcases Nat.lt_or_ge i (nd M) with h | h
          · exact h
          · exact absurd ((leI (by omega) (by omega)).mpr h) a
        have e : prodF (fun d => tl M d + 1) 0 (i + 1) = prodF (fun d => tl M d + 1) 0 i * (tl M i + 1) := by simp [prodF]
        rw [nC (by omega), (hI.2.2.2.2.2.1 i hlt).1, nsucc, nsucc, pk_mul, ← e]
        exact ⟨vin (by omega) (by decide), ih (i + 1) (by omega) (by omega)⟩
  exact ⟨nd M + 1, key (nd M + 1) 0 (by omega) (by omega)⟩
theorem k9_cubT {Q : Int32 → St → Prop} {σ : St} {M : Mo} (hI : RI σ M) {c : Nat} (hc : c < tot M) (h : Q 1 σ) : vX9_isCuboid Q σ (nI c) := by
  have ht := tot_le hI.1
  unfold vX9_isCuboid
  refine k9_all hI (k9_inT (by rw [c0, nT (by omega)]; omega) (by rw [nT (by omega), n1T (by omega)]; omega) ⟨zb1, h⟩)
theorem k9_cubF {Q : Int32 → St → Prop} {σ : St} {M : Mo} (hI : RI σ M) {x : Int32} (hx : x.toInt < 0 ∨ (tot M : Int) ≤ x.toInt) (h : Q 0 σ) : vX9_isCuboid Q σ x := by
  have ht := tot_le hI.1
  unfold vX9_isCuboid
  refine k9_all hI (k9_inF (by rw [c0, n1T (by omega)]; omega) ⟨zb0, h⟩)
theorem lev_lt {M : Mo} {c d : Nat} : levM M c d < tl M d + 1 := Nat.mod_lt _ (Nat.succ_pos _)
theorem k9_levelIn {Q : Int32 → St → Prop} {σ : St} {M : Mo} (hI : RI σ M) {c d : Nat} (hc : c < 1073741824) (hd : d < nd M) (hQ : Q (nI (levM M c d)) σ) : vX9_levelIn Q σ (nI c) (nI d) := by
  have h4 := hI.1.1
  have ht := (hI.1.2.1 d hd).2
  have key : ∀ q j, d ≤ j → j < nd M → j - d < q → vX9_levelIn_L10 Q q σ (nI d) (nI (c / prodF (fun d => tl M d + 1) (j + 1) (nd M - 1 - j))) (nI j) := by
    intro q
    induction q with
    | zero => intro i _ _ h; omega
    | succ q ih =>
      intro j hj hjn hq
      have hb : c / prodF (fun d => tl M d + 1) (j + 1) (nd M - 1 - j) ≤ c := Nat.div_le_self _ _
      simp only [vX9_levelIn_L10]
      rw [nC (show d < 2147483648 by omega), nC (show j < 2147483648 by omega), (hI.2.2.2.2.2.1 d hd).1, (hI.2.2.2.2.2.1 j hjn).1, nsucc, nsucc]
      refine ⟨fun a => ?_, fun a => ?_⟩
      · have : j ≤ d := (leI (by omega) (by omega)).mp a
        have e : j = d := by omega
        subst e
        refine ⟨vin (by omega) (by decide), fun z => ?_, ?_⟩
        · have := (eqI (a := tl M j + 1) (b := 0) (by omega) (by omega)).mp z
          omega
        · rw [pk_rem (by omega) (Nat.succ_pos _) (by omega)]
          exact hQ
      · have hlt : d < j := by
          rcases Nat.lt_or_ge d j with h | h
          · exact h
          · exact absurd ((leI (by omega) (by omega)).mpr h) a
        have htj := (hI.1.2.1 j hjn).2
        refine ⟨vin (by omega) (by decide), fun z => ?_, ?_⟩
        · have := (eqI (a := tl M j + 1) (b := 0) (by omega) (by omega)).mp z
          omega
        · rw [pk_div (by omega) (Nat.succ_pos _) (by omega), npred (by omega), Nat.div_div_eq_div_mul]
          have e : prodF (fun d => tl M d + 1) (j + 1) (nd M - 1 - j) * (tl M j + 1) = prodF (fun d => tl M d + 1) (j - 1 + 1) (nd M - 1 - (j - 1)) := by
            rw [show nd M - 1 - (j - 1) = (nd M - 1 - j) + 1 by omega, show j - 1 + 1 = j by omega, prodF_cons, Nat.mul_comm]
          rw [e]
          exact ih (j - 1) (by omega) (by omega) (by omega)
  unfold vX9_levelIn
  rw [hI.2.1, nsub1 (by omega)]
  refine ⟨nd M + 1, ?_⟩
  have := key (nd M + 1) (nd M - 1) (by omega) (by omega) (by omega)
  rw [show nd M - 1 - (nd M - 1) = 0 by omega] at this
  simpa [prodF] using this
theorem all_range_succ (p : Nat → Bool) (i : Nat) : (List.range (i + 1)).all p = ((List.range i).all p && p i) := by
  rw [List.range_succ, List.all_append]; simp
theorem k9_servesIt {Q : Int32 → St → Prop} {σ : St} {M : Mo} (hI : RI σ M) {c w : Nat} (hc : c < 1073741824) (hw : w < 1073741824) (hQ : Q (b2i (srvM M c w)) σ) : vX9_servesIt Q σ (nI c) (nI w) := by
  have h4 := hI.1.1
  have key : ∀ q i, i ≤ nd M → nd M - i < q → vX9_servesIt_L5 Q q σ (nI c) (nI w) (b2i ((List.range i).all (fun d => decide (levM M c d ≤ levM M w d)))) (nI i) := by
    intro q
    induction q with
    | zero => intro i _ h; omega
    | succ q ih =>
      intro i hi hq
      simp only [vX9_servesIt_L5]
      rw [hI.2.1, nsucc]
      refine ⟨fun a => ?_, fun a => ?_⟩
      · have : nd M ≤ i := (leI (by omega) (by omega)).mp a
        have e : i = nd M := by omega
        rw [e]; exact ⟨zbb _, hQ⟩
      · have hlt : i < nd M := by
          rcases Nat.lt_or_ge i (nd M) with h | h
          · exact h
          · exact absurd ((leI (by omega) (by omega)).mpr h) a
        have ht := (hI.1.2.1 i hlt).2
        have hs := ih (i + 1) (by omega) (by omega)
        rw [all_range_succ] at hs
        refine ⟨fun b => ?_, fun b => ?_⟩
        · rw [b2i_0.mp b] at hs
          exact hs
        · have bt : ((List.range i).all (fun d => decide (levM M c d ≤ levM M w d))) = true := by
            cases hh : (List.range i).all (fun d => decide (levM M c d ≤ levM M w d)) with
            | true => rfl
            | false => rw [hh] at b; exact absurd rfl b
          rw [bt, Bool.true_and] at hs
          have l1 := lev_lt (M := M) (c := c) (d := i)
          have l2 := lev_lt (M := M) (c := w) (d := i)
          refine k9_levelIn hI hc hlt (k9_levelIn hI hw hlt ⟨fun z => ?_, fun z => ?_⟩)
          · have := (ltI (by omega) (by omega)).mp z
            rw [decide_eq_false (by omega)] at hs
            exact hs
          · have : ¬ levM M w i < levM M c i := fun y => z ((ltI (by omega) (by omega)).mpr y)
            rw [decide_eq_true (by omega)] at hs
            exact hs
  exact ⟨nd M + 1, key (nd M + 1) 0 (by omega) (by omega)⟩
theorem k9_thereMany {Q : Int32 → St → Prop} {σ : St} {M : Mo} (hI : RI σ M) (hQ : Q (nI (cntF (th M) (nf M))) σ) : vX9_thereMany Q σ := by
  have h4 := hI.1.2.2.2.2.2.1
  have key : ∀ q i, i ≤ nf M → nf M - i < q → vX9_thereMany_L4 Q q σ (nI (cntF (th M) i)) (nI i) := by
    intro q
    induction q with
    | zero => intro i _ h; omega
    | succ q ih =>
      intro i hi hq
      simp only [vX9_thereMany_L4]
      rw [hI.2.2.1, nsucc, nC (by omega), l0, nI_add, nsucc]
      refine ⟨fun a => ?_, fun a => ?_⟩
      · have : nf M ≤ i := (leI (by omega) (by omega)).mp a
        have e : i = nf M := by omega
        rw [e]; exact hQ
      · have hlt : i < nf M := by
          rcases Nat.lt_or_ge i (nf M) with h | h
          · exact h
          · exact absurd ((leI (by omega) (by omega)).mpr h) a
        rw [(hI.2.2.2.2.2.2.2.2.2.2.1 i hlt).2]
        have hs := ih (i + 1) (by omega) (by omega)
        refine ⟨vin (by omega) (by decide), fun b => ?_, fun b => ?_⟩
        · have e := b2i_0.mp b
          simp only [cntF, e] at hs
          exact hs
        · have e : th M i = true := by
            cases hh : th M i with
            | true => rfl
            | false => rw [hh] at b; exact absurd rfl b
          simp only [cntF, e] at hs
          exact hs
  exact ⟨nf M + 1, key (nf M + 1) 0 (by omega) (by omega)⟩

/-! ===== the desk: homes, levels of cuboids ===== -/
theorem up8 {p : Nat → Nat → Nat} {T m : Nat} (hp : ∀ l m, l < T → m < 8 → p l m < 8) (hm : m < 8) : ∀ l, l ≤ T → upM p m l < 8
  | 0, _ => hm
  | l + 1, h => hp l _ (by omega) (up8 hp hm l (by omega))
theorem d_settle {Q : St → Prop} {σ : St} {k T W : Nat} {p : Nat → Nat → Nat} (hT : T ≤ 3) (hW : W ≤ 8) (h3 : rd σ k 3 = nI T) (h1 : rd σ (k + 1) 0 = nI W) (hp : ∀ l m, l < T → m < 8 → rd σ (k + 2) (8 * l + m) = nI (p l m)) (hp8 : ∀ l m, l < T → m < 8 → p l m < 8)
    (hQ : ∀ τ, (∀ j i, j ≠ k + 3 → rd τ j i = rd σ j i) → (∀ l m, l ≤ T → m < W → rd τ (k + 3) (8 * l + m) = nI (upM p m l)) → Q τ) : vX1_settle k Q σ := by
  have inner : ∀ (K : St → Int32 → Prop) (m : Nat), m < W → (∀ τ, (∀ j i, j ≠ k + 3 → rd τ j i = rd σ j i) → (∀ l m', l ≤ T → m' < m + 1 → rd τ (k + 3) (8 * l + m') = nI (upM p m' l)) → K τ (nI (m + 1))) →
      ∀ q l τ, 0 < l → l ≤ T + 1 → T + 1 - l < q → (∀ j i, j ≠ k + 3 → rd τ j i = rd σ j i) → (∀ l' m', l' ≤ T → m' < m → rd τ (k + 3) (8 * l' + m') = nI (upM p m' l')) → (∀ l', l' < l → rd τ (k + 3) (8 * l' + m) = nI (upM p m l')) → vX1_settle_L27 k Q K q τ (nI m) (nI (upM p m (l - 1))) (nI l) := by
    intro K m hm hK q
    induction q with
    | zero => intro l τ _ _ h; omega
    | succ q ih =>
      intro l τ h0 hl hq hF hd hr
      simp only [vX1_settle_L27]
      rw [hF k 3 (by omega), h3, nsucc]
      refine ⟨fun z => ?_, fun z => ?_⟩
      · have e : T < l := (ltI (by omega) (by omega)).mp z
        refine hK τ hF (fun l' m' hl' hm' => ?_)
        by_cases em : m' = m
        · subst em; exact hr l' (by omega)
        · exact hd l' m' hl' (by omega)
      · have hle : ¬ T < l := fun q => z ((ltI (by omega) (by omega)).mpr q)
        have hu := up8 hp8 (show m < 8 by omega) (l - 1) (by omega)
        rw [nsub1 h0]
        refine d_placeOf (by omega) hu ⟨vin (by omega) (by decide), d_placeOf (by omega) (by omega) ⟨vin (by omega) (by decide), ?_⟩⟩
        rw [nC (show 8 * l + m < 2147483648 by omega), nC (show 8 * (l - 1) + upM p m (l - 1) < 2147483648 by omega), hF (k + 2) _ (by omega), hp (l - 1) _ (by omega) hu, nsucc]
        have e : p (l - 1) (upM p m (l - 1)) = upM p m l := by
          rw [show l = (l - 1) + 1 by omega]
          rfl
        rw [e]
        have hn := ih (l + 1) (wr τ (k + 3) (8 * l + m) (nI (upM p m l))) (by omega) (by omega) (by omega) (fun j i hj => by rw [rd_ne hj]; exact hF j i hj) (fun l' m' hl' hm' => by rw [rd_nej (by omega)]; exact hd l' m' hl' hm') (fun l' hl' => by
          by_cases el : l' = l
          · subst el; exact rd_eq
          · rw [rd_nej (by omega)]; exact hr l' (by omega))
        rw [show l + 1 - 1 = l by omega] at hn
        exact hn
  have outer : ∀ q m τ, m ≤ W → W - m < q → (∀ j i, j ≠ k + 3 → rd τ j i = rd σ j i) → (∀ l m', l ≤ T → m' < m → rd τ (k + 3) (8 * l + m') = nI (upM p m' l)) → vX1_settle_L2 k Q q τ (nI m) := by
    intro q
    induction q with
    | zero => intro m τ _ h; omega
    | succ q ih =>
      intro m τ hm hq hF hd
      simp only [vX1_settle_L2]
      have e0 : rd τ (k + 1) (0 : Int32).toNatClampNeg = nI W := by rw [hF (k + 1) _ (by omega)]; exact h1
      rw [e0]
      refine ⟨vin (i := 0) (by omega) (by decide), fun z => ?_, fun z => ?_⟩
      · have e : m = W := by
          have : W ≤ m := (leI (by omega) (by omega)).mp z
          omega
        rw [e] at hd
        exact hQ τ hF hd
      · have hlt : m < W := lt_of_nle (by omega) (by omega) z
        refine d_placeOf (l := 0) (by omega) (by omega) ⟨vin (by omega) (by decide), T + 2, ?_⟩
        rw [nC (by omega)]
        exact inner (fun σ x1 => vX1_settle_L2 k Q q σ x1) m hlt (fun τ2 F2 hd2 => ih (m + 1) τ2 (by omega) (by omega) F2 hd2) (T + 2) 1 _ (by omega) (by omega) (by omega) (fun j i hj => by rw [rd_ne hj]; exact hF j i hj) (fun l' m' hl' hm' => by rw [rd_nej (by omega)]; exact hd l' m' hl' hm') (fun l' hl' => by
          have : l' = 0 := by omega
          subst this
          exact rd_eq)
  exact ⟨W + 1, outer _ 0 σ (by omega) (by omega) (fun _ _ _ => rfl) (fun l m _ hm => absurd hm (by omega))⟩
theorem lies_up {M : Mo} (h : WF M) {d m l : Nat} (hd : d < nd M) (hl : l ≤ tl M d) : liesM M d m l = upM (pa M d) m l := by
  unfold liesM
  by_cases e : l = tl M d
  · rw [if_pos e]
    have ht := (h.2.1 d hd).1
    have := h.2.2.2.2.1 d (tl M d - 1) (upM (pa M d) m (tl M d - 1)) (Or.inr (by omega))
    rw [e, show tl M d = (tl M d - 1) + 1 by omega]
    exact this.symm
  · rw [if_neg e]
/-! next levels -/
theorem prodF_split (f : Nat → Nat) (d a : Nat) : ∀ b, prodF f d (a + b) = prodF f d a * prodF f (d + a) b
  | 0 => by simp [prodF]
  | b + 1 => by
    show prodF f d (a + b) * f (d + (a + b)) = prodF f d a * (prodF f (d + a) b * f (d + a + b))
    rw [prodF_split f d a b, Nat.mul_assoc, Nat.add_assoc]
/-- what comes of one more, where no carry leaves the dimensions behind j -/
def carry (M : Mo) (c j : Nat) : Prop := (c + 1) / prodF (fun d => tl M d + 1) j (nd M - j) = c / prodF (fun d => tl M d + 1) j (nd M - j) + 1 ∧ ∀ e, j ≤ e → e < nd M → levM M (c + 1) e = 0
theorem carry_end {M : Mo} {c : Nat} : carry M c (nd M) := by
  refine ⟨?_, fun e h1 h2 => by omega⟩
  rw [Nat.sub_self]
  simp [prodF]
theorem lev_q {M : Mo} {c j : Nat} (hj : j < nd M) : levM M c j = c / prodF (fun d => tl M d + 1) (j + 1) (nd M - (j + 1)) % (tl M j + 1) := by
  unfold levM
  rw [show nd M - 1 - j = nd M - (j + 1) by omega]
theorem q_down {M : Mo} {c j : Nat} (hj : j < nd M) : c / prodF (fun d => tl M d + 1) j (nd M - j) = c / prodF (fun d => tl M d + 1) (j + 1) (nd M - (j + 1)) / (tl M j + 1) := by
  rw [show nd M - j = (nd M - (j + 1)) + 1 by omega, prodF_cons, Nat.mul_comm, Nat.div_div_eq_div_mul]
theorem carry_on {M : Mo} {c j : Nat} (hj : j < nd M) (h : carry M c (j + 1)) (hm : tl M j ≤ levM M c j) : carry M c j := by
  have hl := lev_lt (M := M) (c := c) (d := j)
  have hq := lev_q (M := M) (c := c) hj
  have hq1 := lev_q (M := M) (c := c + 1) hj
  generalize hx : c / prodF (fun d => tl M d + 1) (j + 1) (nd M - (j + 1)) = x at hq
  have h1 : (c + 1) / prodF (fun d => tl M d + 1) (j + 1) (nd M - (j + 1)) = x + 1 := by rw [h.1, hx]
  rw [h1] at hq1
  have hmod : x % (tl M j + 1) = tl M j := by omega
  have hdm := Nat.div_add_mod x (tl M j + 1)
  have e2 : x + 1 = (x / (tl M j + 1) + 1) * (tl M j + 1) := by
    rw [Nat.add_mul, Nat.mul_comm]
    omega
  refine ⟨?_, fun e he1 he2 => ?_⟩
  · rw [q_down hj, q_down hj, h1, hx, e2, Nat.mul_div_cancel _ (Nat.succ_pos _)]
  · by_cases ee : e = j
    · subst ee
      rw [hq1, e2, Nat.mul_mod_left]
    · exact h.2 e (by omega) he2
theorem carry_stop {M : Mo} {c j : Nat} (hj : j < nd M) (h : carry M c (j + 1)) (hm : levM M c j < tl M j) : levM M (c + 1) j = levM M c j + 1 ∧ ∀ e, e < j → levM M (c + 1) e = levM M c e := by
  have hq := lev_q (M := M) (c := c) hj
  have hq1 := lev_q (M := M) (c := c + 1) hj
  generalize hx : c / prodF (fun d => tl M d + 1) (j + 1) (nd M - (j + 1)) = x at hq
  have h1 : (c + 1) / prodF (fun d => tl M d + 1) (j + 1) (nd M - (j + 1)) = x + 1 := by rw [h.1, hx]
  rw [h1] at hq1
  have hdm := Nat.div_add_mod x (tl M j + 1)
  have e2 : x + 1 = (tl M j + 1) * (x / (tl M j + 1)) + (levM M c j + 1) := by omega
  have hdiv : (x + 1) / (tl M j + 1) = x / (tl M j + 1) := by
    rw [e2, Nat.mul_add_div (Nat.succ_pos _), Nat.div_eq_of_lt (show levM M c j + 1 < tl M j + 1 by omega)]
    rfl
  refine ⟨?_, fun e he => ?_⟩
  · rw [hq1, e2, Nat.mul_add_mod, Nat.mod_eq_of_lt (show levM M c j + 1 < tl M j + 1 by omega)]
  · have hP : prodF (fun d => tl M d + 1) (e + 1) (nd M - 1 - e) = prodF (fun d => tl M d + 1) (e + 1) (j - (e + 1)) * prodF (fun d => tl M d + 1) j (nd M - j) := by
      have := prodF_split (fun d => tl M d + 1) (e + 1) (j - (e + 1)) (nd M - j)
      rw [show e + 1 + (j - (e + 1)) = j by omega, show j - (e + 1) + (nd M - j) = nd M - 1 - e by omega] at this
      exact this
    unfold levM
    rw [hP, Nat.mul_comm (prodF _ _ _) (prodF _ j _), ← Nat.div_div_eq_div_mul, ← Nat.div_div_eq_div_mul, q_down hj, q_down hj, h1, hx, hdiv]
theorem clr_key : ∀ a0, a0 < 4 → ∀ a1, a1 < 4 → ∀ a2, a2 < 4 → ∀ a3, a3 < 4 → (nI (a0 + 16 * a1 + 256 * a2 + 4096 * a3) &&& ((15 <<< ((4 * nI 0) &&& 31)) ^^^ (-1))) = nI (16 * a1 + 256 * a2 + 4096 * a3) ∧ (nI (a0 + 16 * a1 + 256 * a2 + 4096 * a3) &&& ((15 <<< ((4 * nI 1) &&& 31)) ^^^ (-1))) = nI (a0 + 256 * a2 + 4096 * a3) ∧ (nI (a0 + 16 * a1 + 256 * a2 + 4096 * a3) &&& ((15 <<< ((4 * nI 2) &&& 31)) ^^^ (-1))) = nI (a0 + 16 * a1 + 4096 * a3) ∧ (nI (a0 + 16 * a1 + 256 * a2 + 4096 * a3) &&& ((15 <<< ((4 * nI 3) &&& 31)) ^^^ (-1))) = nI (a0 + 16 * a1 + 256 * a2) := by decide +kernel
theorem clr {w : Nat → Nat} {n j : Nat} (hn : n ≤ 4) (hj : j < n) (hw : ∀ e, e < n → w e < 4) : (nI (lc16 w n) &&& ((15 <<< ((4 * nI j) &&& 31)) ^^^ (-1))) = nI (lc16 (fun e => if e = j then 0 else w e) n) := by
  have dg : ∀ d, (if d < n then w d else 0) < 4 := fun d => by
    split
    · exact hw d (by assumption)
    · decide
  have k := clr_key _ (dg 0) _ (dg 1) _ (dg 2) _ (dg 3)
  rw [lc16_4 hn, lc16_4 hn]
  have : j = 0 ∨ j = 1 ∨ j = 2 ∨ j = 3 := by omega
  rcases this with rfl | rfl | rfl | rfl
  · rw [k.1]; congr 1; simp
  · rw [k.2.1]; congr 1; simp
  · rw [k.2.2.1]; congr 1; simp
  · rw [k.2.2.2]; congr 1; simp
theorem lc16_congr {w v : Nat → Nat} : ∀ n, (∀ e, e < n → w e = v e) → lc16 w n = lc16 v n
  | 0, _ => rfl
  | n + 1, h => by simp only [lc16]; rw [lc16_congr n (fun e he => h e (by omega)), h n (by omega)]
theorem lc16_up {w : Nat → Nat} {j : Nat} : ∀ n, j < n → lc16 w n + 16 ^ j = lc16 (fun e => if e = j then w e + 1 else w e) n
  | 0, h => by omega
  | n + 1, h => by
    simp only [lc16]
    by_cases e : n = j
    · subst e
      rw [if_pos rfl, Nat.add_mul, Nat.one_mul, lc16_congr (v := fun e => if e = n then w e + 1 else w e) n (fun e he => by
        have : ¬ e = n := by omega
        simp only [if_neg this])]
      omega
    · have ih := lc16_up (w := w) (j := j) n (by omega)
      rw [if_neg e, ← ih]
      omega
/-- the dimensions as the store has them: how many, and their levels -/
def dimsAt (σ : St) (M : Mo) : Prop := WF M ∧ rd σ 0 1 = nI (nd M) ∧ ∀ d, d < nd M → rd σ (2 + 4 * d) 3 = nI (tl M d)
theorem d_after {Q : Int32 → St → Prop} {σ : St} {M : Mo} (hI : dimsAt σ M) {c : Nat} (hQ : ∀ v, (c + 1 < tot M → v = lcod M (c + 1)) → Q (nI v) σ) : vX6_levelsAfter Q σ (nI (lcod M c)) := by
  have hW := hI.1
  have h4 := hW.1
  have hll := lcod_lt hW c
  have key : ∀ q (j : Nat), j ≤ nd M → j < q → carry M c j → vX6_levelsAfter_L9 Q q σ (nI (lcod M c)) (nI (lc16 (fun e => if e < j then levM M c e else 0) (nd M))) (nI j - 1) := by
    intro q
    induction q with
    | zero => intro j _ h; omega
    | succ q ih =>
      intro j hj hq hc
      simp only [vX6_levelsAfter_L9]
      cases j with
      | zero =>
        refine ⟨fun _ => ?_, fun z => absurd (by decide) z⟩
        refine hQ _ (fun hlt => ?_)
        have h0 := hc.1
        have e1 : (c + 1) / prodF (fun d => tl M d + 1) 0 (nd M - 0) = 0 := Nat.div_eq_of_lt hlt
        rw [e1] at h0
        exact absurd h0.symm (Nat.succ_ne_zero _)
      | succ j =>
        have hjn : j < nd M := by omega
        have ht := hW.2.1 j hjn
        have hl := lev_lt (M := M) (c := c) (d := j)
        rw [nI_pred]
        refine ⟨fun z => ?_, fun z => ?_⟩
        · have := i_lt.mp z; rw [c0, nT (by omega)] at this; omega
        · refine d_levelIn hll (by omega) ?_
          rw [lcod_digit hW hjn, nC (by omega), hI.2.2 j hjn]
          refine ⟨vin (by omega) (by decide), dimk_of (by omega), fun y => ?_, fun y => ?_⟩
          · have hle : tl M j ≤ levM M c j := (leI (by omega) (by omega)).mp y
            rw [clr h4 hjn (fun e he => by
              split
              · have := lev3 hW (c := c) he; omega
              · decide)]
            have hn := ih j (by omega) (by omega) (carry_on hjn hc hle)
            have e : lc16 (fun e => if e = j then 0 else if e < j + 1 then levM M c e else 0) (nd M) = lc16 (fun e => if e < j then levM M c e else 0) (nd M) := lc16_congr (nd M) (fun e _ => by
              by_cases h1 : e = j
              · subst h1
                rw [if_pos rfl, if_neg (Nat.lt_irrefl _)]
              · by_cases h2 : e < j
                · rw [if_neg h1, if_pos (by omega), if_pos h2]
                · rw [if_neg h1, if_neg (by omega), if_neg h2])
            rw [e]
            have e1 : nI j + (-1) = nI j - 1 := by
              cases j with
              | zero => decide
              | succ j => rw [npred (by omega), nI_pred]; rfl
            rw [e1]
            exact hn
          · have hlt : levM M c j < tl M j := by
              have : ¬ tl M j ≤ levM M c j := fun q => y ((leI (by omega) (by omega)).mpr q)
              omega
            obtain ⟨s1, s2⟩ := carry_stop hjn hc hlt
            have hcod : lc16 (fun e => if e < j + 1 then levM M c e else 0) (nd M) < 65536 := Nat.lt_of_lt_of_le (lc16_lt (nd M) (fun d hd => by
              split
              · have := lev3 hW (c := c) hd; omega
              · decide)) (p16 h4)
            have hpj : 16 ^ j ≤ 65536 := p16 (by omega)
            rw [l4, pk_mul, l1, shlN (by omega) (by rw [Nat.one_mul, Nat.pow_mul]; show 16 ^ j < _; omega), Nat.one_mul, Nat.pow_mul, show (2 : Nat) ^ 4 = 16 from rfl, nI_add, lc16_up (nd M) hjn]
            refine hQ _ (fun _ => ?_)
            unfold lcod
            refine lc16_congr (nd M) (fun e he => ?_)
            by_cases h1 : e = j
            · subst h1
              rw [if_pos rfl, if_pos (by omega)]
              exact s1.symm
            · by_cases h2 : e < j
              · rw [if_neg h1, if_pos (by omega)]
                exact (s2 e h2).symm
              · rw [if_neg h1, if_neg (by omega)]
                exact (hc.2 e (by omega) he).symm
  unfold vX6_levelsAfter
  rw [hI.2.1]
  refine ⟨nd M + 1, ?_⟩
  have h1 := key (nd M + 1) (nd M) (Nat.le_refl _) (by omega) carry_end
  have e : lc16 (fun e => if e < nd M then levM M c e else 0) (nd M) = lcod M c := lc16_congr (nd M) (fun e he => by rw [if_pos he])
  rw [e] at h1
  exact h1
theorem d_cuboidCount {Q : Int32 → St → Prop} {σ : St} {M : Mo} (hI : dimsAt σ M) (hQ : Q (nI (tot M)) σ) : vX6_cuboidCount Q σ := by
  have h4 := hI.1.1
  have key : ∀ q i, i ≤ nd M → nd M - i < q → vX6_cuboidCount_L4 Q q σ (nI (prodF (fun d => tl M d + 1) 0 i)) (nI i) := by
    intro q
    induction q with
    | zero => intro i _ h; omega
    | succ q ih =>
      intro i hi hq
      simp only [vX6_cuboidCount_L4]
      rw [hI.2.1]
      refine ⟨fun a => ?_, fun a => ?_⟩
      · have e : i = nd M := by
          have : nd M ≤ i := (leI (by omega) (by omega)).mp a
          omega
        rw [e]; exact hQ
      · have hlt : i < nd M := lt_of_nle (by omega) (by omega) a
        have e : prodF (fun d => tl M d + 1) 0 (i + 1) = prodF (fun d => tl M d + 1) 0 i * (tl M i + 1) := by simp [prodF]
        rw [nC (by omega), hI.2.2 i hlt, nsucc, nsucc, pk_mul, ← e]
        exact ⟨vin (by omega) (by decide), dimk_of (by omega), ih (i + 1) (by omega) (by omega)⟩
  exact ⟨nd M + 1, key _ 0 (by omega) (by omega)⟩
theorem d_forget {Q : St → Prop} {σ : St} (hQ : ∀ τ, (∀ j i, j ≠ 24 → rd τ j i = rd σ j i) → (∀ c, c < 256 → rd τ 24 c = -1) → Q τ) : vX4_forgetSizes Q σ := by
  unfold vX4_forgetSizes
  exact d_fill ⟨rfl, by decide⟩ (fun τ h1 h2 => hQ τ h1 h2)
theorem dimsAt.same {σ τ : St} {M : Mo} (h : dimsAt σ M) (e : ∀ j i, j < 18 → rd τ j i = rd σ j i) : dimsAt τ M := ⟨h.1, by rw [e 0 1 (by decide)]; exact h.2.1, fun d hd => by rw [e _ _ (by have := h.1.1; omega)]; exact h.2.2 d hd⟩
theorem lcod_0 {M : Mo} : lcod M 0 = 0 := by
  unfold lcod
  have : ∀ n, lc16 (levM M 0) n = 0 := fun n => by
    induction n with
    | zero => rfl
    | succ n ih => simp only [lc16]; rw [ih, lev0, Nat.zero_mul]
  exact this _
theorem d_rebuild {Q : St → Prop} {σ : St} {M : Mo} (hI0 : dimsAt σ M) (hQ : ∀ τ, (∀ j i, (j < 22 ∨ 26 ≤ j) → rd τ j i = rd σ j i) → rd τ 22 7 = nI (tot M) → (∀ c, c < tot M → rd τ 23 c = nI (lcod M c)) → (∀ c, c < 256 → rd τ 24 c = -1) → (∀ c, c < 256 → rd τ 25 c = b2i (only0 c)) → Q τ) : vX4_rebuild Q σ := by
  have ht := tot_le hI0.1
  have h0 := tot_pos (M := M)
  have key : ∀ q c v τ, c ≤ tot M → tot M - c < q → (c < tot M → v = lcod M c) → (∀ j i, (j < 22 ∨ 24 ≤ j) → rd τ j i = rd σ j i) → rd τ 22 7 = nI (tot M) → (∀ x, x < c → rd τ 23 x = nI (lcod M x)) → vX4_rebuild_L21 Q q τ (nI v) (nI c) := by
    intro q
    induction q with
    | zero => intro c v τ _ h; omega
    | succ q ih =>
      intro c v τ hc hq hv hF h22 h23
      simp only [vX4_rebuild_L21]
      rw [h22]
      refine ⟨fun z => ?_, fun z => ?_⟩
      · have e : c = tot M := by
          have : tot M ≤ c := (leI (by omega) (by omega)).mp z
          omega
        rw [e] at h23
        refine d_keepOnly (fun τ2 hz F2 => d_forget (fun τ3 F3 h24 => ?_))
        refine hQ τ3 (fun j i hj => ?_) ?_ (fun x hx => ?_) h24 (fun x hx => ?_)
        · rw [F3 j i (by omega), F2 j i (by omega)]; exact hF j i (by omega)
        · rw [F3 22 7 (by decide), F2 22 7 (by decide)]; exact h22
        · rw [F3 23 x (by decide), F2 23 x (by decide)]; exact h23 x hx
        · rw [F3 25 x (by decide)]; exact hz x hx
      · have hlt : c < tot M := lt_of_nle (by omega) (by omega) z
        rw [nC (by omega), hv hlt, nsucc]
        refine ⟨vin (by omega) (by decide), ?_⟩
        have hI2 : dimsAt (wr τ 23 c (nI (lcod M c))) M := hI0.same (fun j i hj => by rw [rd_ne (by omega)]; exact hF j i (by omega))
        refine d_after hI2 (fun v2 hv2 => ih (c + 1) v2 _ (by omega) (by omega) hv2 (fun j i hj => by rw [rd_ne (by omega)]; exact hF j i hj) (by rw [rd_ne (by decide)]; exact h22) (fun x hx => ?_))
        by_cases e : x = c
        · subst e; exact rd_eq
        · rw [rd_nej e]; exact h23 x (by omega)
  unfold vX4_rebuild
  refine d_cuboidCount hI0 ⟨tot M + 1, ?_⟩
  have e : (if (256 : Int32) < nI (tot M) then 256 else nI (tot M)) = nI (tot M) := by
    rw [if_neg (fun q => by
      have := (ltI (a := 256) (b := tot M) (by omega) (by omega)).mp q
      omega)]
  rw [e]
  exact key (tot M + 1) 0 0 _ (by omega) (by omega) (fun _ => lcod_0.symm) (fun j i hj => rd_ne (by omega)) rd_eq (fun x hx => absurd hx (by omega))

/-! ===== groups: codes, counts ===== -/
/-- digits w in base b, the first one highest -/
def cod (b : Nat) (w : Nat → Nat) : Nat → Nat
  | 0 => 0
  | n + 1 => b * cod b w n + w n
theorem cod_lt {b : Nat} {w : Nat → Nat} : ∀ n, (∀ d, d < n → w d < b) → cod b w n < b ^ n
  | 0, _ => by simp [cod]
  | n + 1, h => by
    have h1 := cod_lt n (fun d hd => h d (by omega))
    have h2 := h n (by omega)
    show b * cod b w n + w n < b ^ n * b
    have h3 : b * (cod b w n + 1) ≤ b * b ^ n := Nat.mul_le_mul (Nat.le_refl _) h1
    rw [Nat.mul_add, Nat.mul_comm b (b ^ n)] at h3
    omega
theorem cod_inj {b : Nat} {w v : Nat → Nat} : ∀ n, (∀ d, d < n → w d < b) → (∀ d, d < n → v d < b) → (cod b w n = cod b v n ↔ ∀ d, d < n → w d = v d)
  | 0, _, _ => by simp [cod]
  | n + 1, h, g => by
    have ih := cod_inj n (fun d hd => h d (by omega)) (fun d hd => g d (by omega))
    have hb : 0 < b := by have := h n (by omega); omega
    show b * cod b w n + w n = b * cod b v n + v n ↔ _
    constructor
    · intro e d hd
      have e1 : cod b w n = cod b v n := by
        have a1 : (b * cod b w n + w n) / b = cod b w n := by rw [Nat.mul_add_div hb, Nat.div_eq_of_lt (h n (by omega))]; rfl
        have a2 : (b * cod b v n + v n) / b = cod b v n := by rw [Nat.mul_add_div hb, Nat.div_eq_of_lt (g n (by omega))]; rfl
        rw [← a1, ← a2, e]
      by_cases hn : d = n
      · subst hn
        rw [e1] at e
        omega
      · exact ih.mp e1 d (by omega)
    · intro e
      rw [ih.mpr (fun d hd => e d (by omega)), e n (by omega)]
/-- whether one of the first n facts that are there has code g -/
def hasC (t : Nat → Bool) (c : Nat → Nat) (g : Nat) : Nat → Bool
  | 0 => false
  | n + 1 => hasC t c g n || (t n && c n == g)
theorem hasC_iff {t : Nat → Bool} {c : Nat → Nat} {g : Nat} : ∀ n, hasC t c g n = true ↔ ∃ f, f < n ∧ t f = true ∧ c f = g
  | 0 => by simp [hasC]
  | n + 1 => by
    show (hasC t c g n || (t n && c n == g)) = true ↔ _
    rw [Bool.or_eq_true, hasC_iff n, Bool.and_eq_true, beq_iff_eq]
    constructor
    · rintro (⟨f, h1, h2⟩ | ⟨h1, h2⟩)
      · exact ⟨f, by omega, h2⟩
      · exact ⟨n, by omega, h1, h2⟩
    · rintro ⟨f, h1, h2, h3⟩
      by_cases e : f = n
      · subst e; exact Or.inr ⟨h2, h3⟩
      · exact Or.inl ⟨f, by omega, h2, h3⟩
theorem cntF_congr {p q : Nat → Bool} : ∀ n, (∀ i, i < n → p i = q i) → cntF p n = cntF q n
  | 0, _ => rfl
  | n + 1, h => by
    show cntF p n + _ = cntF q n + _
    rw [cntF_congr n (fun i hi => h i (by omega)), h n (by omega)]
theorem cntF_le {p : Nat → Bool} : ∀ n, cntF p n ≤ n
  | 0 => Nat.le_refl _
  | n + 1 => by
    have := cntF_le (p := p) n
    show cntF p n + (if p n then 1 else 0) ≤ n + 1
    split <;> omega
theorem cntF_or {p : Nat → Bool} {a : Nat} : ∀ N, cntF (fun g => p g || a == g) N = cntF p N + (if a < N ∧ p a = false then 1 else 0)
  | 0 => by simp [cntF]
  | N + 1 => by
    have ih := cntF_or (p := p) (a := a) N
    show cntF (fun g => p g || a == g) N + (if (p N || a == N) then 1 else 0) = cntF p N + (if p N then 1 else 0) + _
    rw [ih]
    by_cases e : a = N
    · subst e
      rw [if_neg (fun q => by omega)]
      cases h : p a with
      | true => simp
      | false => simp
    · have e2 : (a == N) = false := by simpa using e
      have e3 : (a < N ∧ p a = false ↔ a < N + 1 ∧ p a = false) := by
        constructor
        · rintro ⟨h1, h2⟩
          exact ⟨by omega, h2⟩
        · rintro ⟨h1, h2⟩
          exact ⟨by omega, h2⟩
      rw [e2, Bool.or_false]
      simp only [e3]
      omega
theorem cnt_hasC {t : Nat → Bool} {c : Nat → Nat} {N : Nat} {nw : Nat → Bool} (hN : ∀ f, t f = true → c f < N) : ∀ n, (∀ f, f < n → nw f = (t f && !hasC t c (c f) f)) → cntF (fun g => hasC t c g n) N = cntF nw n
  | 0, _ => by
    have : ∀ N, cntF (fun g => hasC t c g 0) N = 0 := fun N => by
      induction N with
      | zero => rfl
      | succ N ih => simp only [cntF, hasC] at ih ⊢; rw [ih]; rfl
    rw [this]; rfl
  | n + 1, h => by
    have ih := cnt_hasC hN n (fun f hf => h f (by omega))
    show cntF (fun g => hasC t c g n || (t n && c n == g)) N = cntF nw n + (if nw n then 1 else 0)
    rw [h n (by omega), ← ih]
    cases ht : t n with
    | false =>
      rw [cntF_congr (q := fun g => hasC t c g n) N (fun i _ => by simp)]
      simp
    | true =>
      rw [cntF_congr (q := fun g => hasC t c g n || c n == g) N (fun i _ => by simp), cntF_or (p := fun g => hasC t c g n)]
      cases hc : hasC t c (c n) n with
      | true => simp
      | false => simp [hN n ht]
theorem newG_iff {M : Mo} {c f : Nat} {b : Nat} (hb : ∀ g d, g ≤ f → d < nd M → grpM M c g d < b) : newG M c f = (th M f && !hasC (th M) (fun g => cod b (grpM M c g) (nd M)) (cod b (grpM M c f) (nd M)) f) := by
  unfold newG
  congr 1
  rw [Bool.eq_iff_iff, List.all_eq_true, Bool.not_eq_true', ← Bool.not_eq_true, hasC_iff]
  constructor
  · rintro h ⟨g, h1, h2, h3⟩
    have := h g (List.mem_range.mpr h1)
    rw [Bool.not_eq_true', ← Bool.not_eq_true, Bool.and_eq_true, List.all_eq_true] at this
    refine this ⟨h2, fun d hd => ?_⟩
    have e := (cod_inj (nd M) (fun d hd => hb g d (by omega) hd) (fun d hd => hb f d (by omega) hd)).mp h3
    rw [beq_iff_eq]
    exact e d (List.mem_range.mp hd)
  · intro h g hg
    rw [Bool.not_eq_true', ← Bool.not_eq_true, Bool.and_eq_true, List.all_eq_true]
    rintro ⟨h2, h3⟩
    exact h ⟨g, List.mem_range.mp hg, h2, (cod_inj (nd M) (fun d hd => hb g d (by have := List.mem_range.mp hg; omega) hd) (fun d hd => hb f d (by omega) hd)).mpr (fun d hd => by simpa using h3 d (List.mem_range.mpr hd))⟩
theorem grp_lt {M : Mo} (h : WF M) {c f d : Nat} (hf : f < nf M) (hd : d < nd M) : grpM M c f d < 8 := by
  unfold grpM
  refine lies_lt h hd (h.2.2.2.2.2.2.1 f d hf hd) ?_
  have := lev_lt (M := M) (c := c) (d := d)
  omega
/-- how many groups are there, by codes in any base that parts them -/
theorem sz_codes {M : Mo} (h : WF M) {c b N : Nat} (hb : 8 ≤ b) (hN : b ^ nd M ≤ N) : cntF (fun g => hasC (fun f => decide (f < nf M) && th M f) (fun f => cod b (grpM M c f) (nd M)) g (nf M)) N = szM M c := by
  unfold szM
  refine cnt_hasC (fun f hf => ?_) (nf M) (fun f hf => ?_)
  · have hf2 : f < nf M := by
      by_cases q : f < nf M
      · exact q
      · simp [q] at hf
    exact Nat.lt_of_lt_of_le (cod_lt (nd M) (fun d hd => Nat.lt_of_lt_of_le (grp_lt h hf2 hd) hb)) hN
  · rw [newG_iff (b := b) (fun g d hg hd => Nat.lt_of_lt_of_le (grp_lt h (by omega) hd) hb)]
    have e : ∀ n, n ≤ nf M → ∀ g, hasC (th M) (fun g => cod b (grpM M c g) (nd M)) g n = hasC (fun f => decide (f < nf M) && th M f) (fun f => cod b (grpM M c f) (nd M)) g n := by
      intro n
      induction n with
      | zero => intro _ g; rfl
      | succ n ih =>
        intro hn g
        simp only [hasC]
        rw [ih (by omega) g, decide_eq_true (show n < nf M by omega), Bool.true_and]
    rw [e f (by omega), decide_eq_true hf, Bool.true_and]
theorem sz_le {M : Mo} (c : Nat) : szM M c ≤ nf M := cntF_le _
def hasG (M : Mo) (c : Nat) (g n : Nat) : Bool := hasC (fun f => decide (f < nf M) && th M f) (fun f => cod 10 (grpM M c f) (nd M)) g n
theorem pow10 {k : Nat} (h : k ≤ 4) : 10 ^ k ≤ 10000 := by
  have : k = 0 ∨ k = 1 ∨ k = 2 ∨ k = 3 ∨ k = 4 := by omega
  rcases this with rfl | rfl | rfl | rfl | rfl <;> decide
theorem cod10_lt {M : Mo} (h : WF M) {c f : Nat} (hf : f < nf M) {i : Nat} (hi : i ≤ nd M) : cod 10 (grpM M c f) i < 10000 :=
  Nat.lt_of_lt_of_le (cod_lt i (fun d hd => Nat.lt_of_lt_of_le (grp_lt h hf (by omega)) (by decide))) (pow10 (by have := h.1; omega))
/-- where findGroups has worked out the groups of cuboid c -/
def grpsAt (τ : St) (M : Mo) (c n : Nat) : Prop := ∀ g, g < 10000 → rd τ 12 g = b2i (hasG M c g n)
def levsAt (τ : St) (M : Mo) (c n : Nat) : Prop := ∀ d, d < n → rd τ 13 d = nI (levM M c d)
/-- only groups and levels differ -/
def FrG (σ τ : St) : Prop := sameR σ τ ∧ ∀ k j, 14 ≤ k → rd τ k j = rd σ k j
theorem FrG.rf {σ : St} : FrG σ σ := ⟨sameR.rf, fun _ _ _ => rfl⟩
theorem FrG.w12 {σ τ : St} (h : FrG σ τ) {j : Nat} {v : Int32} : FrG σ (wr τ 12 j v) := ⟨h.1.tr (sameR.wrS (by decide)), fun k j hk => by rw [rd_ne (by omega)]; exact h.2 k j hk⟩
theorem FrG.w13 {σ τ : St} (h : FrG σ τ) {j : Nat} {v : Int32} : FrG σ (wr τ 13 j v) := ⟨h.1.tr (sameR.wrS (by decide)), fun k j hk => by rw [rd_ne (by omega)]; exact h.2 k j hk⟩
theorem lt_of_nle {a b : Nat} (ha : a < 2147483648) (hb : b < 2147483648) (h : ¬ nI b ≤ nI a) : a < b := by
  rcases Nat.lt_or_ge a b with q | q
  · exact q
  · exact absurd ((leI hb ha).mpr q) h
theorem b2i_n0 {b : Bool} (h : ¬ b2i b = 0) : b = true := by
  cases b with
  | true => rfl
  | false => exact absurd rfl h
theorem k9_fg_in {Q : St → Prop} {K : St → Int32 → Prop} {σ : St} {M : Mo} {c f : Nat} (hI0 : RI σ M) (hf : f < nf M) (hK : ∀ τ, FrG σ τ → levsAt τ M c (nd M) → grpsAt τ M c (f + 1) → K τ (nI (f + 1))) :
    ∀ q i τ, i ≤ nd M → nd M - i < q → FrG σ τ → levsAt τ M c (nd M) → grpsAt τ M c f → vX9_findGroups_L65 Q K q τ (nI f) (nI (cod 10 (grpM M c f) i)) (nI i) := by
  intro q
  induction q with
  | zero => intro i τ _ h; omega
  | succ q ih =>
    intro i τ hi hq hF hL hG
    have hI := hI0.same hF.1
    have h4 := hI.1.1
    have h3 := hI.1.2.2.2.2.2.1
    have hcl := cod10_lt hI.1 (c := c) hf hi
    simp only [vX9_findGroups_L65]
    rw [hI.2.1, nsucc, nsucc, nC (show f < 2147483648 by omega), nC (show i < 2147483648 by omega), nC (show cod 10 (grpM M c f) i < 2147483648 by omega), l4, pk_mul, nI_add, nC (show 4 * f + i < 2147483648 by omega)]
    refine ⟨fun a => ?_, fun a => ?_⟩
    · have e : i = nd M := by
        have : nd M ≤ i := (leI (by omega) (by omega)).mp a
        omega
      have hv : vp_in (nI (cod 10 (grpM M c f) i)) 10000 := vin hcl (by decide)
      have step : ∀ v : Bool, (v = (hasG M c (cod 10 (grpM M c f) i) f || th M f)) → K (wr τ 12 (cod 10 (grpM M c f) i) (b2i v)) (nI (f + 1)) := by
        intro v hv2
        refine hK _ hF.w12 (fun d hd => by rw [rd_ne (by decide)]; exact hL d hd) (fun g hg => ?_)
        rw [rd_wr]
        have hd : decide (f < nf M) = true := decide_eq_true hf
        show _ = b2i (hasC (fun f => decide (f < nf M) && th M f) (fun f => cod 10 (grpM M c f) (nd M)) g f || ((decide (f < nf M) && th M f) && cod 10 (grpM M c f) (nd M) == g))
        by_cases hgc : g = cod 10 (grpM M c f) i
        · rw [if_pos ⟨rfl, hgc⟩, hv2, hd, Bool.true_and, hgc, e]
          have : (cod 10 (grpM M c f) (nd M) == cod 10 (grpM M c f) (nd M)) = true := by simp
          rw [this, Bool.and_true]
          rfl
        · rw [if_neg (fun q => hgc q.2), hG g hg]
          have : (cod 10 (grpM M c f) (nd M) == g) = false := by
            rw [← e]
            simpa using fun q => hgc q.symm
          rw [this, Bool.and_false, Bool.or_false]
          rfl
      refine ⟨hv, ?_⟩
      rw [hG _ hcl, (hI.2.2.2.2.2.2.2.2.2.2.1 f hf).2, nar0, nar1]
      refine ⟨fun b => ⟨vin (by omega) (by decide), fun d => ⟨hv, ?_⟩, fun d => ⟨hv, ?_⟩⟩, fun b => ⟨hv, ?_⟩⟩
      · exact step false (by rw [b2i_0.mp b, b2i_0.mp d]; rfl)
      · exact step true (by rw [b2i_n0 d, Bool.or_true])
      · exact step true (by rw [b2i_n0 b, Bool.true_or])
    · have hlt : i < nd M := lt_of_nle (by omega) (by omega) a
      have hl := lev_lt (M := M) (c := c) (d := i)
      refine ⟨vin (by omega) (by decide), vin (by omega) (by decide), ?_⟩
      rw [hI.2.2.2.2.2.2.2.2.2.1 f i hf hlt, hL i hlt]
      refine k9_liesIn hI hlt (hI.1.2.2.2.2.2.2.1 f i hf hlt) (by omega) ?_
      rw [l10, pk_mul, nI_add]
      exact ih (i + 1) τ (by omega) (by omega) hF hL hG
theorem k9_fg_facts {Q : St → Prop} {σ : St} {M : Mo} {c : Nat} (hI0 : RI σ M) (hQ : ∀ τ, FrG σ τ → grpsAt τ M c (nf M) → Q τ) :
    ∀ q f τ, f ≤ nf M → nf M - f < q → FrG σ τ → levsAt τ M c (nd M) → grpsAt τ M c f → vX9_findGroups_L52 Q q τ (nI f) := by
  intro q
  induction q with
  | zero => intro i τ _ h; omega
  | succ q ih =>
    intro f τ hf hq hF hL hG
    have hI := hI0.same hF.1
    have h3 := hI.1.2.2.2.2.2.1
    simp only [vX9_findGroups_L52]
    rw [hI.2.2.1]
    refine ⟨fun a => ?_, fun a => ?_⟩
    · have e : f = nf M := by
        have : nf M ≤ f := (leI (by omega) (by omega)).mp a
        omega
      rw [e] at hG
      exact hQ τ hF hG
    · have hlt : f < nf M := lt_of_nle (by omega) (by omega) a
      refine ⟨nd M + 1, ?_⟩
      exact k9_fg_in (Q := Q) (K := fun σ x2 => vX9_findGroups_L52 Q q σ x2) hI0 hlt (fun τ h1 h2 h3 => ih (f + 1) τ (by omega) (by omega) h1 h2 h3) (nd M + 1) 0 τ (by omega) (by omega) hF hL hG
theorem hasG_0 {M : Mo} {c g : Nat} : hasG M c g 0 = false := rfl
theorem k9_fg_levs {Q : St → Prop} {σ : St} {M : Mo} {c : Nat} (hc : c < 1073741824) (hI0 : RI σ M) (hQ : ∀ τ, FrG σ τ → grpsAt τ M c (nf M) → Q τ) :
    ∀ q d τ, d ≤ nd M → nd M - d < q → FrG σ τ → levsAt τ M c d → grpsAt τ M c 0 → vX9_findGroups_L24 Q q τ (nI c) (nI d) := by
  intro q
  induction q with
  | zero => intro i τ _ h; omega
  | succ q ih =>
    intro d τ hd hq hF hL hG
    have hI := hI0.same hF.1
    have h4 := hI.1.1
    simp only [vX9_findGroups_L24]
    rw [hI.2.1]
    refine ⟨fun a => ?_, fun a => ?_⟩
    · have e : d = nd M := by
        have : nd M ≤ d := (leI (by omega) (by omega)).mp a
        omega
      rw [e] at hL
      exact ⟨nf M + 1, k9_fg_facts hI0 hQ (nf M + 1) 0 τ (by omega) (by omega) hF hL hG⟩
    · have hlt : d < nd M := lt_of_nle (by omega) (by omega) a
      refine k9_levelIn hI hc hlt ⟨vin (by omega) (by decide), ?_⟩
      rw [nC (by omega), nsucc]
      refine ih (d + 1) _ (by omega) (by omega) hF.w13 (fun e he => ?_) (fun g hg => by rw [rd_ne (by decide)]; exact hG g hg)
      by_cases ed : e = d
      · subst ed; exact rd_eq
      · rw [rd_nej ed]; exact hL e (by omega)
theorem k9_fg_clear {Q : St → Prop} {σ : St} {M : Mo} {c : Nat} (hc : c < 1073741824) (hI0 : RI σ M) (hQ : ∀ τ, FrG σ τ → grpsAt τ M c (nf M) → Q τ) :
    ∀ q g τ, g ≤ 10000 → 10000 - g < q → FrG σ τ → (∀ j, j < g → rd τ 12 j = 0) → vX9_findGroups_L2 Q q τ (nI c) (nI g) := by
  intro q
  induction q with
  | zero => intro i τ _ h; omega
  | succ q ih =>
    intro g τ hg hq hF hG
    simp only [vX9_findGroups_L2]
    rw [l10000]
    refine ⟨fun a => ?_, fun a => ?_⟩
    · have e : g = 10000 := by
        have : 10000 ≤ g := (leI (by omega) (by omega)).mp a
        omega
      rw [e] at hG
      exact ⟨nd M + 1, k9_fg_levs hc hI0 hQ (nd M + 1) 0 τ (by omega) (by omega) hF (fun d hd => absurd hd (by omega)) (fun g hg => by rw [hasG_0]; exact hG g hg)⟩
    · have hlt : g < 10000 := lt_of_nle (by omega) (by omega) a
      rw [nC (by omega), nsucc, nar0]
      refine ⟨vin (by omega) (by decide), ih (g + 1) _ (by omega) (by omega) hF.w12 (fun j hj => ?_)⟩
      by_cases ed : j = g
      · subst ed; exact rd_eq
      · rw [rd_nej ed]; exact hG j (by omega)
theorem k9_findGroups {Q : St → Prop} {σ : St} {M : Mo} (hI : RI σ M) {c : Nat} (hc : c < 1073741824) (hQ : ∀ τ, FrG σ τ → grpsAt τ M c (nf M) → Q τ) : vX9_findGroups Q σ (nI c) := by
  unfold vX9_findGroups
  exact ⟨10001, k9_fg_clear hc hI hQ 10001 0 σ (by omega) (by omega) FrG.rf (fun j hj => absurd hj (by omega))⟩
theorem k9_sizeOf {Q : Int32 → St → Prop} {σ : St} {M : Mo} (hI : RI σ M) {c : Nat} (hc : c < 1073741824) (hQ : ∀ τ, FrG σ τ → Q (nI (szM M c)) τ) : vX9_sizeOf Q σ (nI c) := by
  unfold vX9_sizeOf
  refine k9_findGroups hI hc (fun τ hF hG => ?_)
  have hs : cntF (fun g => hasG M c g (nf M)) 10000 = szM M c := sz_codes hI.1 (by decide) (pow10 hI.1.1)
  have key : ∀ q g, g ≤ 10000 → 10000 - g < q → vX9_sizeOf_L9 Q q τ (nI (cntF (fun g => hasG M c g (nf M)) g)) (nI g) := by
    intro q
    induction q with
    | zero => intro i _ h; omega
    | succ q ih =>
      intro g hg hq
      simp only [vX9_sizeOf_L9]
      rw [l10000, nsucc, l0, nI_add, nsucc, Nat.add_zero]
      refine ⟨fun a => ?_, fun a => ?_⟩
      · have e : g = 10000 := by
          have : 10000 ≤ g := (leI (by omega) (by omega)).mp a
          omega
        rw [e, hs]
        exact hQ τ hF
      · have hlt : g < 10000 := lt_of_nle (by omega) (by omega) a
        have hn := ih (g + 1) (by omega) (by omega)
        rw [nC (by omega), hG g hlt]
        refine ⟨vin (by omega) (by decide), fun b => ?_, fun b => ?_⟩
        · simp only [cntF, b2i_0.mp b] at hn
          exact hn
        · simp only [cntF, b2i_n0 b] at hn
          exact hn
  exact ⟨10001, key 10001 0 (by omega) (by omega)⟩

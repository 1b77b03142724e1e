/-! ===== group: the k-th of those that are there ===== -/
theorem cnt_mono {p : Nat → Bool} {a : Nat} : ∀ b, a ≤ b → cntF p a ≤ cntF p b
  | 0, h => by
    have : a = 0 := by omega
    subst this; exact Nat.le_refl _
  | b + 1, h => by
    by_cases e : a = b + 1
    · subst e; exact Nat.le_refl _
    · have := cnt_mono (p := p) (a := a) b (by omega)
      simp only [cntF]
      omega
theorem cnt_lt {p : Nat → Bool} {a b : Nat} (h : a < b) (hp : p a = true) : cntF p a < cntF p b := by
  have := cnt_mono (p := p) (a := a + 1) b (by omega)
  simp only [cntF, hp, if_true] at this
  omega
theorem cnt_inj {p : Nat → Bool} {a b : Nat} (ha : p a = true) (hb : p b = true) (h : cntF p a = cntF p b) : a = b := by
  rcases Nat.lt_trichotomy a b with q | q | q
  · have := cnt_lt q ha; omega
  · exact q
  · have := cnt_lt q hb; omega
theorem cnt_ex {p : Nat → Bool} {k : Nat} : ∀ n, k < cntF p n → ∃ g, g < n ∧ p g = true ∧ cntF p g = k
  | 0, h => by simp [cntF] at h
  | n + 1, h => by
    by_cases q : k < cntF p n
    · obtain ⟨g, h1, h2⟩ := cnt_ex n q
      exact ⟨g, by omega, h2⟩
    · simp only [cntF] at h
      cases hp : p n with
      | true => rw [hp] at h; exact ⟨n, by omega, hp, by simp at h; omega⟩
      | false => rw [hp] at h; simp at h; omega
/-- octal digits read as decimal ones -/
def dec8 : Nat → Nat → Nat
  | 0, _ => 0
  | n + 1, g => 10 * dec8 n (g / 8) + g % 8
theorem dec8_cod {w : Nat → Nat} : ∀ n, (∀ d, d < n → w d < 8) → dec8 n (cod 8 w n) = cod 10 w n
  | 0, _ => rfl
  | n + 1, h => by
    have hn := h n (by omega)
    show 10 * dec8 n ((8 * cod 8 w n + w n) / 8) + (8 * cod 8 w n + w n) % 8 = 10 * cod 10 w n + w n
    rw [show (8 * cod 8 w n + w n) / 8 = cod 8 w n by omega, show (8 * cod 8 w n + w n) % 8 = w n by omega, dec8_cod n (fun d hd => h d (by omega))]
theorem dec8_mono : ∀ n g h, g < 8 ^ n → h < 8 ^ n → g < h → dec8 n g < dec8 n h
  | 0, g, h, h1, h2, h3 => by simp at h1 h2; omega
  | n + 1, g, h, h1, h2, h3 => by
    show 10 * dec8 n (g / 8) + g % 8 < 10 * dec8 n (h / 8) + h % 8
    have p1 : g / 8 < 8 ^ n := by rw [Nat.pow_succ] at h1; omega
    have p2 : h / 8 < 8 ^ n := by rw [Nat.pow_succ] at h2; omega
    by_cases e : g / 8 = h / 8
    · rw [e]; omega
    · have := dec8_mono n (g / 8) (h / 8) p1 p2 (by omega)
      omega
theorem dec8_lt : ∀ n g, dec8 n g < 10 ^ n
  | 0, _ => by simp [dec8]
  | n + 1, g => by
    have := dec8_lt n (g / 8)
    show 10 * dec8 n (g / 8) + g % 8 < 10 ^ n * 10
    omega
theorem dec8_0 : ∀ n, dec8 n 0 = 0
  | 0 => rfl
  | n + 1 => by
    show 10 * dec8 n (0 / 8) + 0 % 8 = 0
    rw [Nat.zero_div, dec8_0 n]
/-- counts on both sides are the same, in the order of the groups -/
theorem cnt_dec {n : Nat} {S T : Nat → Bool} (h1 : ∀ h, T h = true → ∃ g, g < 8 ^ n ∧ h = dec8 n g) (h2 : ∀ g, g < 8 ^ n → T (dec8 n g) = S g) : ∀ g, g < 8 ^ n → cntF T (dec8 n g) = cntF S g
  | 0, _ => by rw [dec8_0]; rfl
  | g + 1, hg => by
    have ih := cnt_dec h1 h2 g (by omega)
    have hm := dec8_mono n g (g + 1) (by omega) hg (by omega)
    have gap : ∀ k, k ≤ dec8 n (g + 1) - (dec8 n g + 1) → cntF T (dec8 n g + 1 + k) = cntF T (dec8 n g + 1) := by
      intro k
      induction k with
      | zero => intro _; rfl
      | succ k ihk =>
        intro hk
        have e : T (dec8 n g + 1 + k) = false := by
          cases q : T (dec8 n g + 1 + k) with
          | false => rfl
          | true =>
            obtain ⟨g', hg', e'⟩ := h1 _ q
            rcases Nat.lt_trichotomy g' (g + 1) with z | z | z
            · rcases Nat.lt_or_ge g' g with y | y
              · have := dec8_mono n g' g hg' (by omega) y; omega
              · have : g' = g := by omega
                subst this; omega
            · subst z; omega
            · have := dec8_mono n (g + 1) g' hg hg' z; omega
        show cntF T (dec8 n g + 1 + k) + (if T (dec8 n g + 1 + k) then 1 else 0) = _
        rw [e, ihk (by omega)]
        rfl
    have := gap (dec8 n (g + 1) - (dec8 n g + 1)) (Nat.le_refl _)
    rw [show dec8 n g + 1 + (dec8 n (g + 1) - (dec8 n g + 1)) = dec8 n (g + 1) by omega] at this
    rw [this]
    show cntF T (dec8 n g) + (if T (dec8 n g) then 1 else 0) = cntF S g + (if S g then 1 else 0)
    rw [ih, h2 g (by omega)]
theorem d_at {Q : Int32 → St → Prop} {σ : St} {S : Nat → Bool} (hS : gsAt σ S) {k : Nat} (hk : k < 2147483648) (hT : ∀ g, g < 4096 → S g = true → cntF S g = k → Q (nI g) σ) (hF : cntF S 4096 ≤ k → Q (-1) σ) : vX3_at Q σ (nI k) := by
  have hc := cntF_le (p := S) 4096
  have key : ∀ q g, g ≤ 4096 → 4096 - g < q → cntF S g ≤ k → vX3_at_L4 Q q σ (nI k) (nI (cntF S g)) (nI g) := by
    intro q
    induction q with
    | zero => intro g _ h; omega
    | succ q ih =>
      intro g hg hq hle
      have hcg := cntF_le (p := S) g
      simp only [vX3_at_L4]
      rw [hS.2]
      refine ⟨fun z => ?_, fun z => ⟨fun y => ?_, fun y => ?_⟩⟩
      · have e : g = 4096 := by
          have : 4096 ≤ g := (leI (a := 4096) (by omega) (by omega)).mp z
          omega
        rw [e] at hle; exact hF hle
      · have := (leI (by omega) (by omega)).mp y
        exact hF (by omega)
      · have hlt : g < 4096 := lt_of_nle (b := 4096) (by omega) (by omega) z
        have hd : g / 64 < 64 := by omega
        have hm : g % 64 < 64 := Nat.mod_lt _ (by decide)
        rw [sh6 hlt, nC (by omega), nsucc, nsucc]
        refine ⟨vin hd (by decide), fun b => ?_, fun b => ⟨fun a => ?_, fun a => ?_⟩⟩
        · have hb : S g = false := by
            rw [← hS.1 g hlt]
            exact (land0 (lbit g hlt) hm).mp (lcmp0.mp b)
          have hn := ih (g + 1) (by omega) (by omega) (by simp only [cntF, hb]; exact hle)
          simp only [cntF, hb] at hn
          exact hn
        · have hb : S g = true := by
            cases e : S g with
            | true => rfl
            | false =>
              rw [← hS.1 g hlt] at e
              exact absurd (lcmp0.mpr ((land0 (lbit g hlt) hm).mpr e)) b
          exact hT g hlt hb ((eqI (by omega) (by omega)).mp a)
        · have hb : S g = true := by
            cases e : S g with
            | true => rfl
            | false =>
              rw [← hS.1 g hlt] at e
              exact absurd (lcmp0.mpr ((land0 (lbit g hlt) hm).mpr e)) b
          have hne : ¬ cntF S g = k := fun q => a (by rw [q])
          have hn := ih (g + 1) (by omega) (by omega) (by simp only [cntF, hb, if_true]; omega)
          simp only [cntF, hb, if_true] at hn
          exact hn
  exact ⟨4097, key 4097 0 (by omega) (by omega) (Nat.zero_le _)⟩
theorem k9_kth {Q : Int32 → St → Prop} {σ : St} {S : Nat → Bool} (hS : ∀ g, g < 10000 → rd σ 12 g = b2i (S g)) {k : Nat} (hk : k < 2147483648) (hT : ∀ g, g < 10000 → S g = true → cntF S g = k → Q (nI g) σ) (hF : cntF S 10000 ≤ k → Q (-2000000001) σ) : ∃ e, vX9_group_L30 Q e σ (nI k) 0 0 := by
  have key : ∀ q g, g ≤ 10000 → 10000 - g < q → cntF S g ≤ k → vX9_group_L30 Q q σ (nI k) (nI (cntF S g)) (nI g) := by
    intro q
    induction q with
    | zero => intro g _ h; omega
    | succ q ih =>
      intro g hg hq hle
      have hcg := cntF_le (p := S) g
      simp only [vX9_group_L30]
      rw [l10000]
      refine ⟨fun z => ?_, fun z => ?_⟩
      · have e : g = 10000 := by
          have : 10000 ≤ g := (leI (by omega) (by omega)).mp z
          omega
        rw [e] at hle; exact hF hle
      · have hlt : g < 10000 := lt_of_nle (by omega) (by omega) z
        rw [nC (by omega), hS g hlt, nsucc, nsucc]
        refine ⟨vin hlt (by decide), fun b => ?_, fun b => ⟨fun a => ?_, fun a => ?_⟩⟩
        · have hb := b2i_0.mp b
          have hn := ih (g + 1) (by omega) (by omega) (by simp only [cntF, hb]; exact hle)
          simp only [cntF, hb] at hn
          exact hn
        · exact hT g hlt (b2i_n0 b) ((eqI (by omega) (by omega)).mp a)
        · have hb := b2i_n0 b
          have hne : ¬ cntF S g = k := fun q => a (by rw [q])
          have hn := ih (g + 1) (by omega) (by omega) (by simp only [cntF, hb, if_true]; omega)
          simp only [cntF, hb, if_true] at hn
          exact hn
  exact ⟨10001, key 10001 0 (by omega) (by omega) (Nat.zero_le _)⟩
theorem d_inDec {Q : Int32 → St → Prop} {σ : St} {M : Mo} (hI : CI σ M) {g : Nat} (hg : g < 4096) (hQ : Q (nI (dec8 (nd M) g)) σ) : vX6_inDecimals Q σ (nI g) := by
  have h4 := hI.1.1
  have key : ∀ q i, i ≤ nd M → nd M - i < q → vX6_inDecimals_L4 Q q σ (nI g) (nI (dec8 i (g / 8 ^ (nd M - i)))) (nI i) := by
    intro q
    induction q with
    | zero => intro i _ h; omega
    | succ q ih =>
      intro i hi hq
      simp only [vX6_inDecimals_L4]
      rw [hI.n]
      refine ⟨fun a => ?_, fun a => ?_⟩
      · have e : i = nd M := by
          have : nd M ≤ i := (leI (by omega) (by omega)).mp a
          omega
        rw [e, Nat.sub_self, Nat.pow_zero, Nat.div_one]; exact hQ
      · have hlt : i < nd M := lt_of_nle (by omega) (by omega) a
        refine d_memberIn hI hg hlt ?_
        rw [l10, pk_mul, nI_add, nsucc]
        have hn := ih (i + 1) (by omega) (by omega)
        have e : dec8 (i + 1) (g / 8 ^ (nd M - (i + 1))) = dec8 i (g / 8 ^ (nd M - i)) * 10 + g / 8 ^ (nd M - 1 - i) % 8 := by
          show 10 * dec8 i (g / 8 ^ (nd M - (i + 1)) / 8) + g / 8 ^ (nd M - (i + 1)) % 8 = _
          rw [Nat.div_div_eq_div_mul, ← Nat.pow_succ, show (nd M - (i + 1)).succ = nd M - i by omega, show nd M - (i + 1) = nd M - 1 - i by omega, Nat.mul_comm]
        rw [e] at hn
        exact hn
  have h0 := key (nd M + 1) 0 (by omega) (by omega)
  exact ⟨_, h0⟩
theorem c2m : (-2000000002 : Int32).toInt = -2000000002 := by decide
theorem st_group {M : Mo} (hW : WF M) (x y : Int32) : BSt M (fun Q σ => vX8_group Q σ x y) (fun Q σ => vX9_group Q σ x y) := by
  have ht := tot_le hW
  have h4 := hW.1
  rcases inOr x (tot M) (by omega) with ⟨c, hc, rfl⟩ | hx
  · by_cases hy : 0 ≤ y
    · obtain ⟨k, hk, rfl⟩ : ∃ k : Nat, k < 2 ^ 31 ∧ y = nI k := nI_of (fun q => by
        have := i_lt.mp q
        have := i_le.mp hy
        omega)
      have hk' : k < 2147483648 := by omega
      have s8 : cntF (fun g => hasG8 M c g (nf M)) 4096 = szM M c := sz_codes hW (Nat.le_refl _) (p8 h4)
      have s10 : cntF (fun g => hasG M c g (nf M)) 10000 = szM M c := sz_codes hW (by decide) (pow10 h4)
      have i10 : ∀ h, hasG M c h (nf M) = true → ∃ g, g < 8 ^ nd M ∧ h = dec8 (nd M) g := fun h q => by
        obtain ⟨f, hf, _, e⟩ := (hasC_iff (nf M)).mp q
        exact ⟨cod 8 (grpM M c f) (nd M), cod_lt (nd M) (fun d hd => grp_lt hW hf hd), by rw [dec8_cod (nd M) (fun d hd => grp_lt hW hf hd)]; exact e.symm⟩
      have e10 : ∀ g, g < 8 ^ nd M → hasG M c (dec8 (nd M) g) (nf M) = hasG8 M c g (nf M) := fun g hg => by
        rw [Bool.eq_iff_iff]
        constructor
        · intro q
          obtain ⟨f, hf, h1, e⟩ := (hasC_iff (nf M)).mp q
          refine (hasC_iff (nf M)).mpr ⟨f, hf, h1, ?_⟩
          have e2 : dec8 (nd M) (cod 8 (grpM M c f) (nd M)) = dec8 (nd M) g := by rw [dec8_cod (nd M) (fun d hd => grp_lt hW hf hd)]; exact e
          have hl : cod 8 (grpM M c f) (nd M) < 8 ^ nd M := cod_lt (nd M) (fun d hd => grp_lt hW (c := c) hf hd)
          rcases Nat.lt_trichotomy (cod 8 (grpM M c f) (nd M)) g with z | z | z
          · have := dec8_mono (nd M) _ _ hl hg z; omega
          · exact z
          · have := dec8_mono (nd M) _ _ hg hl z; omega
        · intro q
          obtain ⟨f, hf, h1, e⟩ := (hasC_iff (nf M)).mp q
          refine (hasC_iff (nf M)).mpr ⟨f, hf, h1, ?_⟩
          show cod 10 (grpM M c f) (nd M) = dec8 (nd M) g
          rw [← dec8_cod (nd M) (fun d hd => grp_lt hW hf hd)]
          have e' : cod 8 (grpM M c f) (nd M) = g := e
          rw [e']
      have lt8 : ∀ g, hasG8 M c g (nf M) = true → g < 8 ^ nd M := fun g q => by
        obtain ⟨f, hf, _, e⟩ := (hasC_iff (nf M)).mp q
        have e' : cod 8 (grpM M c f) (nd M) = g := e
        rw [← e']
        exact cod_lt (nd M) (fun d hd => grp_lt hW hf hd)
      have wayC : ∀ σ Q, CI σ M → (∀ τ, CI τ M → (∀ g, g < 4096 → hasG8 M c g (nf M) = true → cntF (fun g => hasG8 M c g (nf M)) g = k → Q (nI (dec8 (nd M) g)) τ) ∧ (szM M c ≤ k → Q (-2000000001) τ)) → vX8_group Q σ (nI c) (nI k) := fun σ Q h g => by
        unfold vX8_group vX4_groupAt
        refine d_hasT h hc (t1 ⟨fun _ => d_collect h hc (fun τ hG hF => ?_), fun a => absurd hy a⟩)
        have hI2 := same27 h hF
        refine d_at hG hk' (fun g0 hg0 h1 h2 => ?_) (fun h1 => ?_)
        · refine ⟨fun _ => d_inDec hI2 hg0 ((g τ hI2).1 g0 hg0 h1 h2), fun a => absurd (i_le.mpr (by rw [c0, nT (by omega)]; omega)) a⟩
        · rw [s8] at h1
          exact ⟨fun a => absurd a (by decide), fun _ => (g τ hI2).2 h1⟩
      have wayR : ∀ σ Q, RI σ M → (∀ τ, RI τ M → (∀ g, g < 10000 → hasG M c g (nf M) = true → cntF (fun g => hasG M c g (nf M)) g = k → Q (nI g) τ) ∧ (szM M c ≤ k → Q (-2000000001) τ)) → vX9_group Q σ (nI c) (nI k) := fun σ Q h g => by
        unfold vX9_group
        refine k9_cubT h.w0 hc (t1 ⟨fun _ => k9_findGroups h.w0 (by omega) (fun τ hF hG => ?_), fun a => absurd hy a⟩)
        have hI2 := h.w0.same hF.1
        exact k9_kth hG hk' (g τ hI2).1 (fun h1 => (g τ hI2).2 (by rw [s10] at h1; exact h1))
      by_cases hle : szM M c ≤ k
      · refine ⟨(-2000000001), M, fun σ Q h hq => wayC σ Q h (fun τ hI => ⟨fun g hg h1 h2 => ?_, fun _ => hq τ hI⟩), fun σ Q h hq => wayR σ Q h (fun τ hI => ⟨fun g hg h1 h2 => ?_, fun _ => hq τ hI⟩)⟩
        · have := cnt_lt (p := fun g => hasG8 M c g (nf M)) hg h1
          omega
        · have := cnt_lt (p := fun g => hasG M c g (nf M)) hg h1
          omega
      · obtain ⟨g0, hg0, h1, h2⟩ := cnt_ex (p := fun g => hasG8 M c g (nf M)) (k := k) 4096 (by omega)
        have hl0 := lt8 g0 h1
        refine ⟨nI (dec8 (nd M) g0), M, fun σ Q h hq => wayC σ Q h (fun τ hI => ⟨fun g hg h3 h5 => ?_, fun z => absurd z hle⟩), fun σ Q h hq => wayR σ Q h (fun τ hI => ⟨fun g hg h3 h5 => ?_, fun z => absurd z hle⟩)⟩
        · have : g = g0 := cnt_inj (p := fun g => hasG8 M c g (nf M)) h3 h1 (by omega)
          rw [this]; exact hq τ hI
        · have e1 : hasG M c (dec8 (nd M) g0) (nf M) = true := by rw [e10 g0 hl0]; exact h1
          have e2 := cnt_dec (S := fun g => hasG8 M c g (nf M)) (T := fun g => hasG M c g (nf M)) i10 e10 g0 hl0
          have : g = dec8 (nd M) g0 := cnt_inj (p := fun g => hasG M c g (nf M)) h3 e1 (by omega)
          rw [this]; exact hq τ hI
    · refine ⟨(-2000000002), M, fun σ Q h hq => ?_, fun σ Q h hq => ?_⟩
      · show vX8_group Q σ (nI c) y
        unfold vX8_group
        exact d_hasT h hc (t1 ⟨fun a => absurd a hy, fun _ => hq σ h⟩)
      · show vX9_group Q σ (nI c) y
        unfold vX9_group
        exact k9_cubT h.w0 hc (t1 ⟨fun a => absurd a hy, fun _ => hq _ h.w0⟩)
  · refine ⟨(-2000000002), M, fun σ Q h hq => ?_, fun σ Q h hq => ?_⟩
    · show vX8_group Q σ x y
      unfold vX8_group
      exact d_hasF' h hx (t0 (hq σ h))
    · show vX9_group Q σ x y
      unfold vX9_group
      exact k9_cubF h.w0 hx (t0 (hq _ h.w0))

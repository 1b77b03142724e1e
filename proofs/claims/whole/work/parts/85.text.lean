/-! ===== table: texts ===== -/
def oM (M : Mo) (L : List Nat) : Mo := setOu M L.length (fun i => L.getD i 0)
theorem getD_snoc {L : List Nat} {b i : Nat} (h : i ≤ L.length) : (L ++ [b]).getD i 0 = if i = L.length then b else L.getD i 0 := by
  simp only [List.getD_eq_getElem?_getD]
  by_cases e : i = L.length
  · subst e; simp
  · rw [if_neg e, List.getElem?_append_left (by omega)]
theorem len_snoc {L : List Nat} {b : Nat} : (L ++ [b]).length = L.length + 1 := by simp

theorem WF.snoc {M : Mo} {L : List Nat} {b : Nat} (hW : WF (oM M L)) (hl : L.length < 648) (hb : b < 128) : WF (oM M (L ++ [b])) := ⟨hW.1, hW.2.1, hW.2.2.1, hW.2.2.2.1, hW.2.2.2.2.1, hW.2.2.2.2.2.1, hW.2.2.2.2.2.2.1, hW.2.2.2.2.2.2.2.1, hW.2.2.2.2.2.2.2.2.1, hW.2.2.2.2.2.2.2.2.2.1, hW.2.2.2.2.2.2.2.2.2.2.1, (by show (L ++ [b]).length ≤ 648; rw [len_snoc]; omega), fun i hi => (by
  show (L ++ [b]).getD i 0 < 128
  have hi2 : i < (L ++ [b]).length := hi
  rw [len_snoc] at hi2
  rw [getD_snoc (by omega)]
  split
  · exact hb
  · exact hW.2.2.2.2.2.2.2.2.2.2.2.2 i (by show i < L.length; omega))⟩
theorem WF.clr {M : Mo} (hW : WF M) : WF (oM M []) := ⟨hW.1, hW.2.1, hW.2.2.1, hW.2.2.2.1, hW.2.2.2.2.1, hW.2.2.2.2.2.1, hW.2.2.2.2.2.2.1, hW.2.2.2.2.2.2.2.1, hW.2.2.2.2.2.2.2.2.1, hW.2.2.2.2.2.2.2.2.2.1, hW.2.2.2.2.2.2.2.2.2.2.1, (by show 0 ≤ 648; decide), fun i hi => absurd hi (Nat.not_lt_zero i)⟩
theorem CI.clr {σ : St} {M : Mo} (h : CI σ M) : CI (wr σ 45 1 0) (oM M []) := by
  have h4 := h.1.1
  have e : ∀ j i, j ≠ 45 → rd (wr σ 45 1 0) j i = rd σ j i := fun j i hj => rd_ne hj
  refine ⟨h.1.clr, ?_, ?_, ?_, ?_, ?_, ?_, ?_, ?_, ?_, ?_, ?_, ?_, ?_, ?_, ?_, ?_, ?_⟩
  · rw [e _ _ (by omega)]
    exact h.n
  · intro d hd
    have hd1 : d < nd M := hd
    rw [e _ _ (by omega), e _ _ (by omega), e _ _ (by omega)]
    exact h.dm hd1
  · intro d l hd hl
    have hd1 : d < nd M := hd
    rw [e _ _ (by omega)]
    exact h.wd hd1 hl
  · intro d l m hd hl hm
    rw [e _ _ (by omega)]
    exact h.pr hd hl hm
  · intro d l m hd hl hm
    have hd1 : d < nd M := hd
    rw [e _ _ (by omega)]
    exact h.hm hd1 hl hm
  · rw [e _ _ (by omega)]
    exact h.f
  · rw [e _ _ (by omega)]
    exact h.fp
  · intro f hf
    rw [e _ _ (by omega), e _ _ (by omega), e _ _ (by omega)]
    exact h.fa hf
  · intro f hf h3
    rw [e _ _ (by omega)]
    exact h.fg hf h3
  · rw [e _ _ (by omega)]
    exact h.t
  · intro c hc
    rw [e _ _ (by omega)]
    exact h.lv hc
  · intro c hc
    rw [e _ _ (by omega)]
    exact h.sz hc
  · intro c hc
    rw [e _ _ (by omega)]
    exact h.kk hc
  · intro d hd
    rw [e _ _ (by omega)]
    exact h.pp hd
  · rw [e _ _ (by omega)]
    exact h.rr
  · rw [rd_eq]
    rfl
  · intro i hi
    exact absurd hi (Nat.not_lt_zero i)
theorem RI.clr {σ : St} {M : Mo} (h : RI σ M) : RI (wr σ 0 15 0) (oM M []) := by
  have h4 := h.1.1
  have e : ∀ j i, ¬ (j = 0 ∧ i = 15) → rd (wr σ 0 15 0) j i = rd σ j i := fun j i hj => by rw [rd_wr, if_neg hj]
  refine ⟨h.1.clr, ?_, ?_, ?_, ?_, ?_, ?_, ?_, ?_, ?_, ?_, ?_, ?_⟩
  · rw [e _ _ (by omega)]
    exact h.2.1
  · rw [e _ _ (by omega)]
    exact h.2.2.1
  · rw [e _ _ (by omega)]
    exact h.2.2.2.1
  · rw [rd_eq]
    rfl
  · intro d hd
    rw [e _ _ (by omega), e _ _ (by omega), e _ _ (by omega)]
    exact h.2.2.2.2.2.1 d hd
  · intro d hd
    rw [e _ _ (by omega)]
    exact h.2.2.2.2.2.2.1 d hd
  · intro d l hd hl
    rw [e _ _ (by omega)]
    exact h.2.2.2.2.2.2.2.1 d l hd hl
  · intro d l m hd hl hm
    rw [e _ _ (by omega)]
    exact h.2.2.2.2.2.2.2.2.1 d l m hd hl hm
  · intro f d hf hd
    rw [e _ _ (by omega)]
    exact h.2.2.2.2.2.2.2.2.2.1 f d hf hd
  · intro f hf
    rw [e _ _ (by omega), e _ _ (by omega)]
    exact h.2.2.2.2.2.2.2.2.2.2.1 f hf
  · intro c hc
    rw [e _ _ (by omega)]
    exact h.2.2.2.2.2.2.2.2.2.2.2.1 c hc
  · intro i hi
    exact absurd hi (Nat.not_lt_zero i)
theorem CI.snoc {σ : St} {M : Mo} {L : List Nat} {b : Nat} (h : CI σ (oM M L)) (hl : L.length < 648) (hb : b < 128) : CI (wr (wr σ 46 L.length (nI b)) 45 1 (nI (L.length + 1))) (oM M (L ++ [b])) := by
  have h4 : nd M ≤ 4 := h.1.1
  have e : ∀ j i, j ≠ 45 ∧ j ≠ 46 → rd (wr (wr σ 46 L.length (nI b)) 45 1 (nI (L.length + 1))) j i = rd σ j i := fun j i hj => by rw [rd_ne hj.1, rd_ne hj.2]
  refine ⟨h.1.snoc hl hb, ?_, ?_, ?_, ?_, ?_, ?_, ?_, ?_, ?_, ?_, ?_, ?_, ?_, ?_, ?_, ?_, ?_⟩
  · rw [e _ _ (by omega)]
    exact h.n
  · intro d hd
    have hd1 : d < nd M := hd
    rw [e _ _ (by omega), e _ _ (by omega), e _ _ (by omega)]
    exact h.dm hd
  · intro d l hd hl
    have hd1 : d < nd M := hd
    rw [e _ _ (by omega)]
    exact h.wd hd hl
  · intro d l m hd hl hm
    rw [e _ _ (by omega)]
    exact h.pr hd hl hm
  · intro d l m hd hl hm
    have hd1 : d < nd M := hd
    rw [e _ _ (by omega)]
    exact h.hm hd hl hm
  · rw [e _ _ (by omega)]
    exact h.f
  · rw [e _ _ (by omega)]
    exact h.fp
  · intro f hf
    rw [e _ _ (by omega), e _ _ (by omega), e _ _ (by omega)]
    exact h.fa hf
  · intro f hf h3
    rw [e _ _ (by omega)]
    exact h.fg hf h3
  · rw [e _ _ (by omega)]
    exact h.t
  · intro c hc
    rw [e _ _ (by omega)]
    exact h.lv hc
  · intro c hc
    rw [e _ _ (by omega)]
    exact h.sz hc
  · intro c hc
    rw [e _ _ (by omega)]
    exact h.kk hc
  · intro d hd
    rw [e _ _ (by omega)]
    exact h.pp hd
  · rw [e _ _ (by omega)]
    exact h.rr
  · rw [rd_eq]
    show _ = nI (L ++ [b]).length
    rw [len_snoc]
  · intro i hi
    have hi2 : i < (L ++ [b]).length := hi
    rw [len_snoc] at hi2
    show _ = nI ((L ++ [b]).getD i 0)
    rw [getD_snoc (by omega), rd_ne (by decide)]
    by_cases q : i = L.length
    · rw [if_pos q, q, rd_eq]
    · rw [if_neg q, rd_nej q]
      exact h.ou (i := i) (show i < L.length by omega)
theorem RI.snoc {σ : St} {M : Mo} {L : List Nat} {b : Nat} (h : RI σ (oM M L)) (hl : L.length < 648) (hb : b < 128) : RI (wr (wr σ 11 L.length (nI b)) 0 15 (nI (L.length + 1))) (oM M (L ++ [b])) := by
  have h4 : nd M ≤ 4 := h.1.1
  have e : ∀ j i, j ≠ 11 ∧ ¬ (j = 0 ∧ i = 15) → rd (wr (wr σ 11 L.length (nI b)) 0 15 (nI (L.length + 1))) j i = rd σ j i := fun j i hj => by rw [rd_wr, if_neg hj.2, rd_ne hj.1]
  refine ⟨h.1.snoc hl hb, ?_, ?_, ?_, ?_, ?_, ?_, ?_, ?_, ?_, ?_, ?_, ?_⟩
  · rw [e _ _ (by omega)]
    exact h.2.1
  · rw [e _ _ (by omega)]
    exact h.2.2.1
  · rw [e _ _ (by omega)]
    exact h.2.2.2.1
  · rw [rd_eq]
    show _ = nI (L ++ [b]).length
    rw [len_snoc]
  · intro d hd
    rw [e _ _ (by omega), e _ _ (by omega), e _ _ (by omega)]
    exact h.2.2.2.2.2.1 d hd
  · intro d hd
    rw [e _ _ (by omega)]
    exact h.2.2.2.2.2.2.1 d hd
  · intro d l hd hl
    rw [e _ _ (by omega)]
    exact h.2.2.2.2.2.2.2.1 d l hd hl
  · intro d l m hd hl hm
    rw [e _ _ (by omega)]
    exact h.2.2.2.2.2.2.2.2.1 d l m hd hl hm
  · intro f d hf hd
    rw [e _ _ (by omega)]
    exact h.2.2.2.2.2.2.2.2.2.1 f d hf hd
  · intro f hf
    rw [e _ _ (by omega), e _ _ (by omega)]
    exact h.2.2.2.2.2.2.2.2.2.2.1 f hf
  · intro c hc
    rw [e _ _ (by omega)]
    exact h.2.2.2.2.2.2.2.2.2.2.2.1 c hc
  · intro i hi
    have hi2 : i < (L ++ [b]).length := hi
    rw [len_snoc] at hi2
    show _ = nI ((L ++ [b]).getD i 0)
    rw [getD_snoc (by omega), rd_ne (by decide)]
    by_cases q : i = L.length
    · rw [if_pos q, q, rd_eq]
    · rw [if_neg q, rd_nej q]
      exact h.2.2.2.2.2.2.2.2.2.2.2.2 i (show i < L.length by omega)
theorem nbyte : ∀ b, b < 128 → vp_nar .byte (nI b).toInt8.toInt32 = nI b := by decide +kernel
theorem d_put {Q : St → Prop} {σ : St} {M : Mo} {L : List Nat} {b : Nat} (h : CI σ (oM M L)) (hl : L.length < 648) (hb : b < 128) (hQ : ∀ τ, CI τ (oM M (L ++ [b])) → (∀ k j, k < 45 → rd τ k j = rd σ k j) → Q τ) : vX5_put Q σ (nI b) := by
  have e : rd σ 45 1 = nI L.length := h.oo
  unfold vX5_put
  rw [nbyte b hb, rd_ne (by decide), e, nC (by omega), nsucc]
  refine ⟨fun a => ?_, fun _ => ⟨vin hl (by decide), hQ _ (h.snoc hl hb) (fun k j hk => by rw [rd_ne (by omega), rd_ne (by omega)])⟩⟩
  have := (leI (a := 648) (b := L.length) (by omega) (by omega)).mp a
  omega
theorem k9_say {Q : St → Prop} {σ : St} {M : Mo} {L : List Nat} {b : Nat} (h : RI σ (oM M L)) (hl : L.length < 648) (hb : b < 128) (hQ : ∀ τ, RI τ (oM M (L ++ [b])) → Q τ) : vX9_say Q σ (nI b) := by
  have e : rd σ 0 15 = nI L.length := h.2.2.2.2.1
  unfold vX9_say
  rw [rd_ne (by decide), e, nC (by omega), nsucc]
  exact ⟨vin (by omega) (by decide), hQ _ (h.snoc hl hb)⟩
/-! numbers as digits -/
def dgs (a : Nat) : Nat → List Nat
  | 0 => []
  | k + 1 => (48 + a / 10 ^ k % 10) :: dgs a k
def sk (a : Nat) : Nat → List Nat
  | 0 => []
  | k + 1 => if 0 < a / 10 ^ k % 10 ∨ k = 0 then dgs a (k + 1) else sk a k
theorem dgs_len {a : Nat} : ∀ n, (dgs a n).length = n
  | 0 => rfl
  | n + 1 => by simp only [dgs, List.length_cons, dgs_len n]
theorem sk_len {a : Nat} : ∀ n, (sk a n).length ≤ n
  | 0 => Nat.le_refl _
  | n + 1 => by
    have := sk_len (a := a) n
    simp only [sk]
    split
    · rw [dgs_len]; exact Nat.le_refl _
    · omega
theorem sk_dgs {a k : Nat} (h1 : a / 10 ^ k < 10) (h2 : k = 0 ∨ 10 ≤ a / 10 ^ (k - 1)) : ∀ n, k < n → sk a n = dgs a (k + 1)
  | 0, h => absurd h (Nat.not_lt_zero _)
  | n + 1, h => by
    by_cases e : k = n
    · subst e
      have : 0 < a / 10 ^ k % 10 ∨ k = 0 := by
        rcases h2 with q | q
        · exact Or.inr q
        · left
          by_cases k0 : k = 0
          · subst k0; simp only [Nat.pow_zero, Nat.div_one] at h1 q ⊢; simp at q; omega
          · have e2 : a / 10 ^ k = a / 10 ^ (k - 1) / 10 := by
              rw [Nat.div_div_eq_div_mul, ← Nat.pow_succ, show (k - 1).succ = k by omega]
            omega
      simp only [sk]
      rw [if_pos this]
    · have ih := sk_dgs h1 h2 n (by omega)
      have hp : 0 < 10 ^ k := Nat.pow_pos (by decide)
      have hlt : a < 10 ^ n := by
        have h3 : a < 10 * 10 ^ k := (Nat.div_lt_iff_lt_mul hp).mp h1
        have h5 : 10 ^ (k + 1) ≤ 10 ^ n := Nat.pow_le_pow_right (by decide) (by omega)
        rw [Nat.pow_succ] at h5
        omega
      simp only [sk]
      rw [if_neg (by rw [Nat.div_eq_of_lt hlt]; omega)]
      exact ih
def un : Nat → Nat
  | 0 => 0
  | k + 1 => 10 ^ k
theorem un_le : ∀ n, n ≤ 7 → un n ≤ 1000000
  | 0, _ => by decide
  | n + 1, h => by
    show 10 ^ n ≤ 10 ^ 6
    exact Nat.pow_le_pow_right (by decide) (by omega)
theorem un_div (n : Nat) : un (n + 1) / 10 = un n := by
  cases n with
  | zero => rfl
  | succ n =>
    show 10 ^ (n + 1) / 10 = 10 ^ n
    rw [Nat.pow_succ]; omega
theorem dig_e {a n : Nat} (ha : a < 2147483648) (hn : n < 7) : (nI a / nI (un (n + 1))) - (nI a / nI (un (n + 1))) / 10 * 10 = nI (a / 10 ^ n % 10) := by
  have h1 := un_le (n + 1) (by omega)
  have h0 : 0 < un (n + 1) := Nat.pow_pos (by decide)
  rw [pk_div (by omega) h0 (by omega), l10, pk_rem (Nat.lt_of_le_of_lt (Nat.div_le_self _ _) (by omega)) (by decide) (by decide)]
  rfl
theorem un_e {n : Nat} (hn : n < 7) : nI (un (n + 1)) / 10 = nI (un n) := by
  have h1 := un_le (n + 1) (by omega)
  rw [l10, pk_div (by omega) (by decide) (by decide), un_div]
theorem un_n0 {n : Nat} (hn : n < 7) : ¬ nI (un (n + 1)) ≤ 0 := le0n (Nat.pow_pos (by decide)) (by have := un_le (n + 1) (by omega); omega)
theorem un_n0' {n : Nat} (hn : n < 7) : ¬ nI (un (n + 1)) = 0 := ne0n (Nat.pow_pos (by decide)) (by have := un_le (n + 1) (by omega); omega)
theorem z48 {d : Nat} : (48 : Int32) + nI d = nI (48 + d) := nI_add 48 d
theorem d_dgs {Q : St → Prop} {M : Mo} {a : Nat} (ha : a < 2147483648) : ∀ n q σ L, n < q → n ≤ 7 → CI σ (oM M L) → L.length + n ≤ 648 → (∀ τ, CI τ (oM M (L ++ dgs a n)) → (∀ k j, k < 45 → rd τ k j = rd σ k j) → Q τ) → vX5_putNumber_L21 Q q σ (nI a) 1 (nI (un n)) := by
  intro n
  induction n with
  | zero =>
    intro q σ L hq _ h hl hQ
    cases q with
    | zero => omega
    | succ q =>
      simp only [vX5_putNumber_L21]
      refine ⟨fun _ => hQ σ (by simpa [dgs] using h) (fun _ _ _ => rfl), fun z => absurd (by decide) z⟩
  | succ n ih =>
    intro q σ L hq hn h hl hQ
    cases q with
    | zero => omega
    | succ q =>
      have hd : a / 10 ^ n % 10 < 10 := Nat.mod_lt _ (by decide)
      simp only [vX5_putNumber_L21, vX5_putNumber_J55]
      rw [dig_e ha (by omega), un_e (by omega), z48]
      refine ⟨fun z => absurd z (un_n0 (by omega)), fun _ => ⟨un_n0' (by omega), fun z => absurd z n10, fun _ => ⟨fun z => absurd z n10, fun _ => d_put h (by omega) (by omega) (fun τ h2 hF => ?_)⟩⟩⟩
      refine ih q τ (L ++ [48 + a / 10 ^ n % 10]) (by omega) (by omega) h2 (by rw [len_snoc]; omega) (fun ρ h3 hF3 => hQ ρ ?_ (fun k j hk => (hF3 k j hk).trans (hF k j hk)))
      rw [List.append_assoc] at h3
      exact h3
theorem d_sk {Q : St → Prop} {M : Mo} {a : Nat} (ha : a < 2147483648) : ∀ n q σ L, n + 1 < q → n < 7 → CI σ (oM M L) → L.length + (sk a (n + 1)).length ≤ 648 → (∀ τ, CI τ (oM M (L ++ sk a (n + 1))) → (∀ k j, k < 45 → rd τ k j = rd σ k j) → Q τ) → vX5_putNumber_L21 Q q σ (nI a) 0 (nI (un (n + 1))) := by
  intro n
  induction n with
  | zero =>
    intro q σ L hq hn h hl hQ
    cases q with
    | zero => omega
    | succ q =>
      have hd : a / 10 ^ 0 % 10 < 10 := Nat.mod_lt _ (by decide)
      have es : sk a (0 + 1) = dgs a 1 := by
        show (if _ then _ else _) = _
        rw [if_pos (Or.inr rfl)]
      rw [es] at hl hQ
      rw [dgs_len] at hl
      have step : vX5_put (fun σ7 => vX5_putNumber_L21 Q q σ7 (nI a) 1 (nI (un 0))) σ (nI (48 + a / 10 ^ 0 % 10)) := d_put h (by omega) (by omega) (fun τ h2 hF => by
        refine d_dgs ha 0 q τ (L ++ [48 + a / 10 ^ 0 % 10]) (by omega) (by omega) h2 (by rw [len_snoc]; omega) (fun ρ h3 hF3 => hQ ρ ?_ (fun k j hk => (hF3 k j hk).trans (hF k j hk)))
        rw [List.append_assoc] at h3
        exact h3)
      simp only [vX5_putNumber_L21, vX5_putNumber_J55]
      rw [dig_e ha (by omega), un_e (by omega), z48]
      refine ⟨fun z => absurd z (un_n0 (by omega)), fun _ => ⟨un_n0' (by omega), fun _ => ⟨fun _ => ⟨fun z => absurd z n10, fun _ => step⟩, fun _ => ⟨fun _ => ⟨fun z => absurd z n10, fun _ => step⟩, fun z => absurd (by trivial) z⟩⟩, fun z => absurd (by trivial) z⟩⟩
  | succ n ih =>
    intro q σ L hq hn h hl hQ
    cases q with
    | zero => omega
    | succ q =>
      have hd : a / 10 ^ (n + 1) % 10 < 10 := Nat.mod_lt _ (by decide)
      have h1 : ¬ nI (un (n + 1 + 1)) = 1 := fun z => by
        have := (eqI (a := un (n + 1 + 1)) (b := 1) (by have := un_le (n + 1 + 1) (by omega); omega) (by decide)).mp z
        have h10 : 10 ^ 1 ≤ 10 ^ (n + 1) := Nat.pow_le_pow_right (by decide) (by omega)
        have : 10 ^ (n + 1) = 1 := this
        omega
      simp only [vX5_putNumber_L21, vX5_putNumber_J55]
      rw [dig_e ha (by omega), un_e (by omega), z48]
      by_cases hz : 0 < a / 10 ^ (n + 1) % 10
      · have es : sk a (n + 1 + 1) = dgs a (n + 1 + 1) := by
          show (if _ then _ else _) = _
          rw [if_pos (Or.inl hz)]
        rw [es] at hl hQ
        rw [dgs_len] at hl
        have step : vX5_put (fun σ7 => vX5_putNumber_L21 Q q σ7 (nI a) 1 (nI (un (n + 1)))) σ (nI (48 + a / 10 ^ (n + 1) % 10)) := d_put h (by omega) (by omega) (fun τ h2 hF => by
          refine d_dgs ha (n + 1) q τ (L ++ [48 + a / 10 ^ (n + 1) % 10]) (by omega) (by omega) h2 (by rw [len_snoc]; omega) (fun ρ h3 hF3 => hQ ρ ?_ (fun k j hk => (hF3 k j hk).trans (hF k j hk)))
          rw [List.append_assoc] at h3
          exact h3)
        have hp : (0 : Int32) < nI (a / 10 ^ (n + 1) % 10) := (ltI (a := 0) (by decide) (by omega)).mpr hz
        exact ⟨fun z => absurd z (un_n0 (by omega)), fun _ => ⟨un_n0' (by omega), fun _ => ⟨fun _ => ⟨fun z => absurd z n10, fun _ => step⟩, fun z => absurd hp z⟩, fun z => absurd (by trivial) z⟩⟩
      · have es : sk a (n + 1 + 1) = sk a (n + 1) := by
          show (if _ then _ else _) = _
          rw [if_neg (by omega)]
        rw [es] at hl hQ
        have hp : ¬ (0 : Int32) < nI (a / 10 ^ (n + 1) % 10) := fun z => hz ((ltI (a := 0) (by decide) (by omega)).mp z)
        exact ⟨fun z => absurd z (un_n0 (by omega)), fun _ => ⟨un_n0' (by omega), fun _ => ⟨fun z => absurd z hp, fun _ => ⟨fun z => absurd z h1, fun _ => ⟨fun _ => ih q σ L (by omega) (by omega) h hl hQ, fun z => absurd (by trivial) z⟩⟩⟩, fun z => absurd (by trivial) z⟩⟩
theorem k9_dgs {Q : St → Prop} {M : Mo} {a : Nat} (ha : a < 2147483648) : ∀ n q σ L, n < q → n ≤ 7 → RI σ (oM M L) → L.length + n ≤ 648 → (∀ τ, RI τ (oM M (L ++ dgs a n)) → Q τ) → vX9_sayNumber_L42 Q q σ (nI a) (nI (un n)) := by
  intro n
  induction n with
  | zero =>
    intro q σ L hq _ h hl hQ
    cases q with
    | zero => omega
    | succ q =>
      simp only [vX9_sayNumber_L42]
      refine ⟨fun _ => hQ σ (by simpa [dgs] using h), fun z => absurd (by decide) z⟩
  | succ n ih =>
    intro q σ L hq hn h hl hQ
    cases q with
    | zero => omega
    | succ q =>
      have hd : a / 10 ^ n % 10 < 10 := Nat.mod_lt _ (by decide)
      simp only [vX9_sayNumber_L42]
      rw [dig_e ha (by omega), un_e (by omega), z48]
      refine ⟨fun z => absurd z (un_n0 (by omega)), fun _ => ⟨un_n0' (by omega), k9_say h (by omega) (by omega) (fun τ h2 => ?_)⟩⟩
      refine ih q τ (L ++ [48 + a / 10 ^ n % 10]) (by omega) (by omega) h2 (by rw [len_snoc]; omega) (fun ρ h3 => hQ ρ ?_)
      rw [List.append_assoc] at h3
      exact h3
theorem k9_sk {Q : St → Prop} {M : Mo} {a : Nat} (ha : a < 1000000) {σ : St} {L : List Nat} (h : RI σ (oM M L)) (hl : L.length + (sk a 7).length ≤ 648) (hQ : ∀ τ, RI τ (oM M (L ++ sk a 7)) → Q τ) : ∃ e, vX9_sayNumber_L23 Q e σ (nI a) 1 := by
  have key : ∀ q i, i ≤ 6 → 6 - i < q → (i = 0 ∨ 10 ≤ a / 10 ^ (i - 1)) → vX9_sayNumber_L23 Q q σ (nI a) (nI (un (i + 1))) := by
    intro q
    induction q with
    | zero => intro i _ h; omega
    | succ q ih =>
      intro i hi hq hb
      have h1 := un_le (i + 1) (by omega)
      have h0 : 0 < un (i + 1) := Nat.pow_pos (by decide)
      have hdl : a / un (i + 1) ≤ a := Nat.div_le_self _ _
      simp only [vX9_sayNumber_L23]
      rw [pk_div (by omega) h0 (by omega), l10, pk_mul]
      refine ⟨un_n0' (by omega), fun b => ?_, fun b => ?_⟩
      · have hlt : a / 10 ^ i < 10 := (ltI (a := a / un (i + 1)) (by omega) (by decide)).mp b
        have es := sk_dgs hlt hb 7 (by omega)
        rw [es] at hl hQ
        rw [dgs_len] at hl
        exact ⟨i + 2, k9_dgs (by omega) (i + 1) (i + 2) σ L (by omega) (by omega) h hl hQ⟩
      · have hge : 10 ≤ a / 10 ^ i := by
          rcases Nat.lt_or_ge (a / 10 ^ i) 10 with z | z
          · exact absurd ((ltI (a := a / un (i + 1)) (b := 10) (by omega) (by decide)).mpr z) b
          · exact z
        have hne : i ≠ 6 := fun z => by
          subst z
          have : a / 10 ^ 6 = 0 := Nat.div_eq_of_lt (by omega)
          omega
        have e : un (i + 1) * 10 = un (i + 1 + 1) := by
          show 10 ^ i * 10 = 10 ^ (i + 1)
          rw [Nat.pow_succ]
        rw [e]
        exact ih (i + 1) (by omega) (by omega) (Or.inr hge)
  exact ⟨7, key 7 0 (by omega) (by omega) (Or.inl rfl)⟩
def numS (x : Int32) : List Nat := if 0 ≤ x then sk x.toInt.toNat 7 else 45 :: sk (-x.toInt).toNat 7
theorem nonneg_e {x : Int32} (h : 0 ≤ x) : x = nI x.toInt.toNat := by
  obtain ⟨k, hk, rfl⟩ := nI_of (x := x) (fun q => by
    have := i_lt.mp q
    have := i_le.mp h
    omega)
  rw [nT (by omega)]
  rfl
theorem neg_e {x : Int32} (h : ¬ 0 ≤ x) (hb : -1000000 < x.toInt) : -x = nI (-x.toInt).toNat := by
  have h1 : x.toInt < 0 := by
    rcases Int.lt_or_le x.toInt 0 with q | q
    · exact q
    · exact absurd (i_le.mpr (by rw [c0]; exact q)) h
  apply i_eq.mpr
  rw [nT (by omega), Int32.toInt_neg, Int.bmod_eq_of_le (by omega) (by omega)]
  omega
theorem sub_e {x : Int32} : 0 - x = -x := Int32.zero_sub x
theorem sk6 {a : Nat} (ha : a < 1000000) : (sk a 7).length ≤ 6 := by
  have : sk a 7 = sk a 6 := by
    have e0 : a / 10 ^ 6 = 0 := Nat.div_eq_of_lt (by omega)
    have hz : ¬ (0 < a / 10 ^ 6 % 10 ∨ 6 = 0) := by rw [e0]; decide
    exact if_neg hz
  rw [this]
  exact sk_len 6
theorem num_len {x : Int32} (h1 : -1000000 < x.toInt) (h2 : x.toInt < 1000000) : (numS x).length ≤ 7 := by
  unfold numS
  split
  · have := sk6 (a := x.toInt.toNat) (by omega); omega
  · have := sk6 (a := (-x.toInt).toNat) (by omega)
    simp only [List.length_cons]; omega
theorem l45 : (45 : Int32) = nI 45 := rfl
theorem l46 : (46 : Int32) = nI 46 := rfl
theorem l32 : (32 : Int32) = nI 32 := rfl
theorem lMil : (1000000 : Int32) = nI (un (6 + 1)) := rfl
theorem d_num {Q : St → Prop} {M : Mo} {x : Int32} {σ : St} {L : List Nat} (h1 : -1000000 < x.toInt) (h2 : x.toInt < 1000000) (h : CI σ (oM M L)) (hl : L.length + (numS x).length ≤ 648) (hQ : ∀ τ, CI τ (oM M (L ++ numS x)) → (∀ k j, k < 45 → rd τ k j = rd σ k j) → Q τ) : vX5_putNumber Q σ x := by
  unfold vX5_putNumber
  unfold numS at hl hQ
  refine ⟨fun a => ?_, fun a => ?_⟩
  · rw [if_pos a] at hl hQ ⊢
    have e := nonneg_e a
    rw [lMil, e]
    rw [← e]
    exact ⟨9, by
      have := d_sk (Q := Q) (M := M) (a := x.toInt.toNat) (by omega) 6 9 σ L (by decide) (by decide) h hl hQ
      rw [← e] at this; exact this⟩
  · rw [if_neg a] at hl hQ ⊢
    rw [sub_e, neg_e a h1, lMil, l45]
    simp only [List.length_cons] at hl
    refine d_put h (by omega) (by decide) (fun τ h3 hF => ⟨9, d_sk (by omega) 6 9 τ (L ++ [45]) (by decide) (by decide) h3 (by rw [len_snoc]; show _ + (sk (-x.toInt).toNat 7).length ≤ 648; omega) (fun ρ h5 hF5 => hQ ρ ?_ (fun k j hk => (hF5 k j hk).trans (hF k j hk)))⟩)
    rw [List.append_assoc] at h5
    exact h5
theorem k9_num {Q : St → Prop} {M : Mo} {x : Int32} {σ : St} {L : List Nat} (h1 : -1000000 < x.toInt) (h2 : x.toInt < 1000000) (h : RI σ (oM M L)) (hl : L.length + (numS x).length ≤ 648) (hQ : ∀ τ, RI τ (oM M (L ++ numS x)) → Q τ) : vX9_sayNumber Q σ x := by
  unfold vX9_sayNumber
  unfold numS at hl hQ
  refine ⟨fun a => ⟨fun _ => ?_, fun z => absurd a z⟩, fun a => ?_⟩
  · rw [if_pos a] at hl hQ
    have := k9_sk (Q := Q) (M := M) (a := x.toInt.toNat) (by omega) h hl hQ
    rw [← nonneg_e a] at this; exact this
  · rw [if_neg a] at hl hQ
    rw [l45]
    simp only [List.length_cons] at hl
    refine k9_say h (by omega) (by decide) (fun τ h3 => ⟨fun z => absurd z a, fun _ => ?_⟩)
    rw [neg_e a h1]
    refine k9_sk (by omega) h3 (by rw [len_snoc]; omega) (fun ρ h5 => hQ ρ ?_)
    rw [List.append_assoc] at h5
    exact h5
theorem add_e {x y : Int32} (h1 : -2000000 < x.toInt + y.toInt) (h2 : x.toInt + y.toInt < 2000000) : (x + y).toInt = x.toInt + y.toInt := by
  rw [Int32.toInt_add, Int.bmod_eq_of_le (by omega) (by omega)]
theorem vals_bd {p : Nat → Bool} {m : Nat → Int32} : ∀ n, n ≤ 300 → (∀ f, f < n → -1000 ≤ (m f).toInt ∧ (m f).toInt ≤ 1000) → -1000 * (n : Int) ≤ (vals p m n).2.1.toInt ∧ (vals p m n).2.1.toInt ≤ 1000 * (n : Int) ∧ -1000 ≤ (vals p m n).2.2.1.toInt ∧ (vals p m n).2.2.1.toInt ≤ 1000 ∧ -1000 ≤ (vals p m n).2.2.2.toInt ∧ (vals p m n).2.2.2.toInt ≤ 1000
  | 0, _, _ => by
    have : (0 : Int32).toInt = 0 := by decide
    simp only [vals, this]
    decide
  | n + 1, hn, hm => by
    obtain ⟨i1, i2, i3, i4, i5, i6⟩ := vals_bd (p := p) (m := m) n (by omega) (fun f hf => hm f (by omega))
    have hx := hm n (by omega)
    cases h : p n with
    | false => rw [vals_f h]; omega
    | true =>
      rw [vals_t h]
      have e : ((vals p m n).2.1 + m n).toInt = (vals p m n).2.1.toInt + (m n).toInt := add_e (by omega) (by omega)
      unfold addV
      refine ⟨?_, ?_, ?_, ?_, ?_, ?_⟩
      · show _ ≤ ((vals p m n).2.1 + m n).toInt; rw [e]; omega
      · show ((vals p m n).2.1 + m n).toInt ≤ _; rw [e]; omega
      · dsimp only; split
        · omega
        · split <;> omega
      · dsimp only; split
        · omega
        · split <;> omega
      · dsimp only; split
        · omega
        · split <;> omega
      · dsimp only; split
        · omega
        · split <;> omega
theorem vV_bd {M : Mo} (hW : WF M) {p : Nat → Bool} {y : Nat} : -1000000 < (vV (vals p (ms M) (nf M)) y).toInt ∧ (vV (vals p (ms M) (nf M)) y).toInt < 1000000 := by
  have h3 := hW.2.2.2.2.2.1
  obtain ⟨i1, i2, i3, i4, i5, i6⟩ := vals_bd (p := p) (m := ms M) (nf M) h3 hW.2.2.2.2.2.2.2.1
  have h0 := vals_le (p := p) (m := ms M) (nf M)
  unfold vV
  split
  · rw [nT (by omega)]; omega
  · split
    · omega
    · split <;> omega
def cS (v : Va) (y : Nat) : List Nat := if v.1 = 0 then [46] else numS (vV v y)
theorem cS_len {M : Mo} (hW : WF M) {p : Nat → Bool} {y : Nat} : (cS (vals p (ms M) (nf M)) y).length ≤ 7 := by
  unfold cS
  split
  · simp
  · exact num_len (vV_bd hW).1 (vV_bd hW).2

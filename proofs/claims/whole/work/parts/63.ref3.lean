/-! ===== the reference: sizes, costs, gains ===== -/
/-- the least of the kept ones that serve, of several the first -/
def bestS (k : Nat → Bool) (S : Nat → Nat) (v : Nat → Bool) : Nat → Nat
  | 0 => 0
  | n + 1 => if k n && (v n && decide (S n < S (bestS k S v n))) then n else bestS k S v n
theorem bestS_lt (k : Nat → Bool) (S : Nat → Nat) (v : Nat → Bool) : ∀ n, 0 < n → bestS k S v n < n
  | 0, h => by omega
  | 1, _ => by simp [bestS]
  | n + 2, _ => by
    have := bestS_lt k S v (n + 1) (by omega)
    rw [bestS]
    split
    · omega
    · omega
theorem bestS_1 (k : Nat → Bool) (S : Nat → Nat) (v : Nat → Bool) : bestS k S v 1 = 0 := by simp [bestS]
def serverM (M : Mo) (w : Nat) : Nat := bestS (kp M) (szM M) (fun c => srvM M c w) (tot M)
def costM (M : Mo) (w : Nat) : Nat := szM M (serverM M w)
/-- a sum of the first n -/
def sumF (f : Nat → Nat) : Nat → Nat
  | 0 => 0
  | n + 1 => sumF f n + f n
theorem sumF_congr {f g : Nat → Nat} : ∀ n, (∀ i, i < n → f i = g i) → sumF f n = sumF g n
  | 0, _ => rfl
  | n + 1, h => by
    show sumF f n + f n = sumF g n + g n
    rw [sumF_congr n (fun i hi => h i (by omega)), h n (by omega)]
theorem sumF_le {f : Nat → Nat} {b : Nat} : ∀ n, (∀ i, i < n → f i ≤ b) → sumF f n ≤ n * b
  | 0, _ => by simp [sumF]
  | n + 1, h => by
    have h1 := sumF_le n (fun i hi => h i (by omega))
    have h2 := h n (by omega)
    show sumF f n + f n ≤ (n + 1) * b
    rw [Nat.add_mul]; omega
theorem sumF_mono {f g : Nat → Nat} : ∀ n, (∀ i, i < n → f i ≤ g i) → sumF f n ≤ sumF g n
  | 0, _ => Nat.le_refl _
  | n + 1, h => Nat.add_le_add (sumF_mono n (fun i hi => h i (by omega))) (h n (by omega))
theorem sumF_add {f g : Nat → Nat} : ∀ n, sumF (fun i => f i + g i) n = sumF f n + sumF g n
  | 0 => rfl
  | n + 1 => by
    show sumF (fun i => f i + g i) n + (f n + g n) = sumF f n + f n + (sumF g n + g n)
    rw [sumF_add n]; omega
/-- what cuboid c takes off a row of costs -/
def spare (M : Mo) (c : Nat) (row : Nat → Nat) : Nat := sumF (fun w => if srvM M c w then row w - szM M c else 0) (tot M)
def gainM (M : Mo) (c : Nat) : Nat := if kp M c then 0 else spare M c (costM M)
/-- sizes and who serves whom are worked out -/
def measAt (τ : St) (M : Mo) : Prop := (∀ c, c < tot M → rd τ 14 c = nI (szM M c)) ∧ ∀ c w, c < tot M → w < tot M → rd τ 15 (256 * c + w) = b2i (srvM M c w)
def costAt (τ : St) (M : Mo) (n : Nat) : Prop := ∀ w, w < n → rd τ 16 w = nI (costM M w)
theorem k9_meas_in {Q : St → Prop} {K : St → Int32 → Int32 → Prop} {σ : St} {M : Mo} {c : Nat} (hI0 : RI σ M) (hc : c < tot M)
    (hK : ∀ τ, sameR σ τ → (∀ k, k < c + 1 → rd τ 14 k = nI (szM M k)) → (∀ k w, k < c + 1 → w < tot M → rd τ 15 (256 * k + w) = b2i (srvM M k w)) → K τ (nI (tot M)) (nI (c + 1))) :
    ∀ q w τ, w ≤ tot M → tot M - w < q → sameR σ τ → (∀ k, k < c + 1 → rd τ 14 k = nI (szM M k)) → (∀ k u, k < c → u < tot M → rd τ 15 (256 * k + u) = b2i (srvM M k u)) → (∀ u, u < w → rd τ 15 (256 * c + u) = b2i (srvM M c u)) → vX9_measure_L25 Q K q τ (nI (tot M)) (nI c) (nI w) := by
  intro q
  have ht := tot_le hI0.1
  induction q with
  | zero => intro i τ _ h; omega
  | succ q ih =>
    intro w τ hw hq hF h14 h15 hrow
    have hI := hI0.same hF
    simp only [vX9_measure_L25]
    refine ⟨fun a => ?_, fun a => ?_⟩
    · have e : w = tot M := by
        have : tot M ≤ w := (leI (by omega) (by omega)).mp a
        omega
      rw [nsucc]
      refine hK τ hF h14 (fun k u hk hu => ?_)
      by_cases ek : k = c
      · subst ek; exact hrow u (by omega)
      · exact h15 k u (by omega) hu
    · have hlt : w < tot M := lt_of_nle (by omega) (by omega) a
      refine k9_servesIt hI (by omega) (by omega) ?_
      rw [l256, pk_mul, nI_add, nC (by omega), nsucc, narb]
      refine ⟨vin (by omega) (by decide), ih (w + 1) _ (by omega) (by omega) (hF.tr (sameR.wrS (by decide))) (fun k hk => by rw [rd_ne (by decide)]; exact h14 k hk) (fun k u hk hu => ?_) (fun u hu => ?_)⟩
      · rw [rd_nej (by omega)]; exact h15 k u hk hu
      · by_cases eu : u = w
        · subst eu; exact rd_eq
        · rw [rd_nej (by omega)]; exact hrow u (by omega)
theorem k9_measure {Q : St → Prop} {σ : St} {M : Mo} (hI0 : RI σ M) (hQ : ∀ τ, sameR σ τ → measAt τ M → Q τ) : vX9_measure Q σ := by
  have ht := tot_le hI0.1
  have key : ∀ q c τ, c ≤ tot M → tot M - c < q → sameR σ τ → (∀ k, k < c → rd τ 14 k = nI (szM M k)) → (∀ k w, k < c → w < tot M → rd τ 15 (256 * k + w) = b2i (srvM M k w)) → vX9_measure_L7 Q q τ (nI (tot M)) (nI c) := by
    intro q
    induction q with
    | zero => intro i τ _ h; omega
    | succ q ih =>
      intro c τ hc hq hF h14 h15
      have hI := hI0.same hF
      simp only [vX9_measure_L7]
      refine ⟨fun a => ?_, fun a => ?_⟩
      · have e : c = tot M := by
          have : tot M ≤ c := (leI (by omega) (by omega)).mp a
          omega
        rw [e] at h14 h15
        exact hQ τ hF ⟨h14, h15⟩
      · have hlt : c < tot M := lt_of_nle (by omega) (by omega) a
        refine k9_sizeOf hI (by omega) (fun τ' hG => ⟨vin (by omega) (by decide), tot M + 1, ?_⟩)
        rw [nC (by omega)]
        refine k9_meas_in (σ := σ) hI0 hlt (fun τ2 f1 f2 f3 => ih (c + 1) τ2 (by omega) (by omega) f1 f2 f3) (tot M + 1) 0 _ (by omega) (by omega) ((hF.tr hG.1).tr (sameR.wrS (by decide))) (fun k hk => ?_) (fun k u hk hu => ?_) (fun u hu => absurd hu (by omega))
        · by_cases ek : k = c
          · subst ek; exact rd_eq
          · rw [rd_nej ek, hG.2 14 k (by decide)]; exact h14 k (by omega)
        · rw [rd_ne (by decide), hG.2 15 _ (by decide)]; exact h15 k u hk hu
  unfold vX9_measure
  exact k9_all hI0 ⟨tot M + 1, key (tot M + 1) 0 σ (by omega) (by omega) sameR.rf (fun k hk => absurd hk (by omega)) (fun k w hk => absurd hk (by omega))⟩
theorem sz300 {M : Mo} (h : WF M) (c : Nat) : szM M c ≤ 300 := Nat.le_trans (sz_le c) h.2.2.2.2.2.1
theorem k9_serverOf {Q : Int32 → St → Prop} {σ : St} {M : Mo} (hI : RI σ M) (hm : measAt σ M) {w : Nat} (hw : w < tot M) (hQ : Q (nI (serverM M w)) σ) : vX9_serverOf Q σ (nI w) := by
  have ht := tot_le hI.1
  have key : ∀ q c, 0 < c → c ≤ tot M → tot M - c < q → vX9_serverOf_L4 Q q σ (nI w) (nI (bestS (kp M) (szM M) (fun c => srvM M c w) c)) (nI c) := by
    intro q
    induction q with
    | zero => intro c _ _ h; omega
    | succ q ih =>
      intro c h0 hc hq
      have hb := bestS_lt (kp M) (szM M) (fun c => srvM M c w) c h0
      have s1 := sz300 hI.1 c
      have s2 := sz300 hI.1 (bestS (kp M) (szM M) (fun c => srvM M c w) c)
      simp only [vX9_serverOf_L4]
      refine k9_all hI ⟨fun a => ?_, fun a => ?_⟩
      · have e : c = tot M := by
          have : tot M ≤ c := (leI (by omega) (by omega)).mp a
          omega
        rw [e]; exact hQ
      · have hlt : c < tot M := lt_of_nle (by omega) (by omega) a
        have hn := ih (c + 1) (by omega) (by omega) (by omega)
        simp only [bestS] at hn
        rw [nC (show c < 2147483648 by omega), nC (show bestS (kp M) (szM M) (fun c => srvM M c w) c < 2147483648 by omega), l256, pk_mul, nI_add, nC (show 256 * c + w < 2147483648 by omega), hI.2.2.2.2.2.2.2.2.2.2.2.1 c (by omega), hm.2 c w hlt hw, hm.1 c hlt, hm.1 _ (by omega), nsucc]
        refine ⟨vin (by omega) (by decide), fun b => ?_, fun b => ⟨vin (by omega) (by decide), fun d => ?_, fun d => ⟨vin (by omega) (by decide), vin (by omega) (by decide), fun z => ?_, fun z => ?_⟩⟩⟩
        · simp only [b2i_0.mp b, Bool.false_and, Bool.false_eq_true, if_false] at hn
          exact hn
        · simp only [b2i_0.mp d, Bool.false_and, Bool.and_false, Bool.false_eq_true, if_false] at hn
          exact hn
        · have := (leI (by omega) (by omega)).mp z
          simp only [decide_eq_false (show ¬ szM M c < szM M (bestS (kp M) (szM M) (fun c => srvM M c w) c) by omega), Bool.and_false, Bool.false_eq_true, if_false] at hn
          exact hn
        · have : ¬ szM M (bestS (kp M) (szM M) (fun c => srvM M c w) c) ≤ szM M c := fun y => z ((leI (by omega) (by omega)).mpr y)
          simp only [decide_eq_true (show szM M c < szM M (bestS (kp M) (szM M) (fun c => srvM M c w) c) by omega), b2i_n0 b, b2i_n0 d, Bool.and_true, if_true] at hn
          exact hn
  have h1 := key (tot M + 1) 1 (by omega) tot_pos (by omega)
  rw [bestS_1] at h1
  exact ⟨tot M + 1, h1⟩
theorem measAt.same {σ τ : St} {M : Mo} (h : measAt σ M) (h14 : ∀ j, rd τ 14 j = rd σ 14 j) (h15 : ∀ j, rd τ 15 j = rd σ 15 j) : measAt τ M := ⟨fun c hc => by rw [h14]; exact h.1 c hc, fun c w hc hw => by rw [h15]; exact h.2 c w hc hw⟩
theorem server_lt {M : Mo} {w : Nat} : serverM M w < tot M := bestS_lt _ _ _ _ tot_pos
theorem k9_findCosts {Q : St → Prop} {σ : St} {M : Mo} (hI0 : RI σ M) (hm0 : measAt σ M) (hQ : ∀ τ, sameR σ τ → measAt τ M → costAt τ M (tot M) → Q τ) : vX9_findCosts Q σ := by
  have ht := tot_le hI0.1
  have key : ∀ q w τ, w ≤ tot M → tot M - w < q → sameR σ τ → measAt τ M → costAt τ M w → vX9_findCosts_L2 Q q τ (nI w) := by
    intro q
    induction q with
    | zero => intro c _ _ h; omega
    | succ q ih =>
      intro w τ hw hq hF hm hC
      have hI := hI0.same hF
      simp only [vX9_findCosts_L2]
      refine k9_all hI ⟨fun a => ?_, fun a => ?_⟩
      · have e : w = tot M := by
          have : tot M ≤ w := (leI (by omega) (by omega)).mp a
          omega
        rw [e] at hC; exact hQ τ hF hm hC
      · have hlt : w < tot M := lt_of_nle (by omega) (by omega) a
        have hs := server_lt (M := M) (w := w)
        refine k9_serverOf hI hm hlt ⟨vin (by omega) (by decide), vin (by omega) (by decide), ?_⟩
        rw [nC (by omega), nC (by omega), hm.1 _ hs, nsucc]
        refine ih (w + 1) _ (by omega) (by omega) (hF.tr (sameR.wrS (by decide))) (hm.same (fun j => rd_ne (by decide)) (fun j => rd_ne (by decide))) (fun u hu => ?_)
        by_cases eu : u = w
        · subst eu; exact rd_eq
        · rw [rd_nej eu]; exact hC u (by omega)
  exact ⟨tot M + 1, key (tot M + 1) 0 σ (by omega) (by omega) sameR.rf hm0 (fun u hu => absurd hu (by omega))⟩
theorem cost300 {M : Mo} (h : WF M) (w : Nat) : costM M w ≤ 300 := sz300 h _
theorem k9_gainOf {Q : Int32 → St → Prop} {σ : St} {M : Mo} (hI : RI σ M) (hm : measAt σ M) (hC : costAt σ M (tot M)) {c : Nat} (hc : c < tot M) (hQ : Q (nI (gainM M c)) σ) : vX9_gainOf Q σ (nI c) := by
  have ht := tot_le hI.1
  have key : ∀ q w, w ≤ tot M → tot M - w < q → vX9_gainOf_L4 Q q σ (nI c) (nI (sumF (fun w => if srvM M c w then costM M w - szM M c else 0) w)) (nI w) := by
    intro q
    induction q with
    | zero => intro c _ h; omega
    | succ q ih =>
      intro w hw hq
      simp only [vX9_gainOf_L4]
      refine k9_all hI ⟨fun a => ⟨vin (by omega) (by decide), ?_⟩, fun a => ?_⟩
      · have e : w = tot M := by
          have : tot M ≤ w := (leI (by omega) (by omega)).mp a
          omega
        rw [nC (by omega), hI.2.2.2.2.2.2.2.2.2.2.2.1 c (by omega), e]
        unfold gainM at hQ
        refine ⟨fun b => ?_, fun b => ?_⟩
        · rw [b2i_0.mp b] at hQ
          exact hQ
        · rw [b2i_n0 b] at hQ
          exact hQ
      · have hlt : w < tot M := lt_of_nle (by omega) (by omega) a
        have hn := ih (w + 1) (by omega) (by omega)
        simp only [sumF] at hn
        have s1 := sz300 hI.1 c
        have s2 := cost300 hI.1 w
        rw [l256, pk_mul, nI_add, nC (show 256 * c + w < 2147483648 by omega), hm.2 c w hc hlt, nC (show w < 2147483648 by omega), nC (show c < 2147483648 by omega), hC w hlt, hm.1 c hc]
        unfold vX9_gainOf_J44
        refine ⟨vin (by omega) (by decide), fun b => ⟨fun z => ?_, fun z => ?_⟩, fun b => ⟨vin (by omega) (by decide), vin (by omega) (by decide), fun z => ?_, fun z => ?_⟩⟩
        · rw [b2i_0.mp b] at hn
          rw [nsucc, l0, nI_add]
          exact hn
        · exact absurd (i_le.mpr (by decide)) z
        · have z1 := i_le.mp z
          rw [pk_sub_toInt (by omega) (by omega), c0] at z1
          rw [b2i_n0 b, if_pos rfl, show costM M w - szM M c = 0 by omega] at hn
          rw [nsucc, l0, nI_add]
          exact hn
        · have z1 : ¬ (nI (costM M w) - nI (szM M c)).toInt ≤ (0 : Int32).toInt := fun y => z (i_le.mpr y)
          rw [pk_sub_toInt (by omega) (by omega), c0] at z1
          rw [b2i_n0 b, if_pos rfl] at hn
          rw [nsub (by omega), nsucc, nI_add]
          exact hn
  exact ⟨tot M + 1, key (tot M + 1) 0 (by omega) (by omega)⟩

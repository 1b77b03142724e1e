/-! ===== choose, on both sides ===== -/
def setKp (M : Mo) (k : Nat → Bool) : Mo := (M.1, M.2.1, M.2.2.1, k, M.2.2.2.2)
theorem setKp_self {M : Mo} : setKp M (kp M) = M := rfl
theorem setKp_set {M : Mo} {k k' : Nat → Bool} : setKp (setKp M k) k' = setKp M k' := rfl
theorem tot_set {M : Mo} {k : Nat → Bool} : tot (setKp M k) = tot M := rfl
theorem sz_set {M : Mo} {k : Nat → Bool} : szM (setKp M k) = szM M := rfl
theorem srv_set {M : Mo} {k : Nat → Bool} : srvM (setKp M k) = srvM M := rfl
theorem WF.set {M : Mo} (h : WF M) {k : Nat → Bool} (h0 : k 0 = true) : WF (setKp M k) := ⟨h.1, h.2.1, h.2.2.1, h.2.2.2.1, h.2.2.2.2.1, h.2.2.2.2.2.1, h.2.2.2.2.2.2.1, h.2.2.2.2.2.2.2.1, h.2.2.2.2.2.2.2.2.1, h.2.2.2.2.2.2.2.2.2.1, h0, h.2.2.2.2.2.2.2.2.2.2.2⟩
theorem lowK_set {M : Mo} {k j : Nat → Bool} : ∀ n w, lowK (setKp M k) j n w = lowK M j n w
  | 0, _ => rfl
  | n + 1, w => by simp only [lowK]; rw [lowK_set n w]; rfl
theorem costK_set {M : Mo} {k j : Nat → Bool} (w : Nat) : costK (setKp M k) j w = costK M j w := lowK_set _ _
theorem cost_set {M : Mo} {k : Nat → Bool} (w : Nat) : costM (setKp M k) w = costK M k w := by rw [cost_costK]; exact costK_set w
theorem spare_set {M : Mo} {k : Nat → Bool} (c : Nat) (row : Nat → Nat) : spare (setKp M k) c row = spare M c row := rfl
theorem spare_congr {M : Mo} {c : Nat} {r s : Nat → Nat} (h : ∀ w, w < tot M → r w = s w) : spare M c r = spare M c s := sumF_congr (tot M) (fun w hw => by rw [h w hw])
theorem gain_set {M : Mo} {k : Nat → Bool} (c : Nat) : gainM (setKp M k) c = gainK M k c := by
  unfold gainM gainK
  rw [spare_set, spare_congr (fun w _ => cost_set w)]
  rfl
theorem RI.kept {σ τ : St} {M : Mo} (h : RI σ M) {k : Nat → Bool} (h0 : k 0 = true) (hk : ∀ c, c < 256 → rd τ 10 c = b2i (k c)) (s1 : ∀ j i, j < 12 → j ≠ 0 → j ≠ 10 → rd τ j i = rd σ j i) (s2 : ∀ i, i ≠ 0 → i < 21 → rd τ 0 i = rd σ 0 i) : RI τ (setKp M k) := by
  obtain ⟨g0, h1, h2, h3, h4, h5, h6, h7, h8, h9, h10, h11, h12⟩ := h
  refine ⟨g0.set h0, ?_, ?_, ?_, ?_, ?_, ?_, ?_, ?_, ?_, ?_, ?_, ?_⟩
  · rw [s2 1 (by decide) (by decide)]; exact h1
  · rw [s2 5 (by decide) (by decide)]; exact h2
  · rw [s2 13 (by decide) (by decide)]; exact h3
  · rw [s2 15 (by decide) (by decide)]; exact h4
  · intro d hd
    rw [s1 1 d (by decide) (by decide) (by decide), s1 8 d (by decide) (by decide) (by decide), s1 9 d (by decide) (by decide) (by decide)]; exact h5 d hd
  · intro d hd; rw [s1 7 d (by decide) (by decide) (by decide)]; exact h6 d hd
  · intro d l hd hl; rw [s1 2 _ (by decide) (by decide) (by decide)]; exact h7 d l hd hl
  · intro d l m hd hl hm; rw [s1 3 _ (by decide) (by decide) (by decide)]; exact h8 d l m hd hl hm
  · intro f d hf hd; rw [s1 4 _ (by decide) (by decide) (by decide)]; exact h9 f d hf hd
  · intro f hf; rw [s1 5 _ (by decide) (by decide) (by decide), s1 6 _ (by decide) (by decide) (by decide)]; exact h10 f hf
  · intro c hc; exact hk c hc
  · intro i hi; rw [s1 11 _ (by decide) (by decide) (by decide)]; exact h12 i hi
theorem CI.kept {σ τ : St} {M : Mo} (h : CI σ M) {k : Nat → Bool} (h0 : k 0 = true) (hk : ∀ c, c < 256 → rd τ 25 c = b2i (k c)) (e : ∀ j i, j ≠ 25 → rd τ j i = rd σ j i) : CI τ (setKp M k) := by
  have h4 := h.1.1
  refine ⟨h.1.set h0, ?_, ?_, ?_, ?_, ?_, ?_, ?_, ?_, ?_, ?_, ?_, ?_, ?_, ?_, ?_, ?_, ?_⟩
  · rw [e _ _ (by decide)]; exact h.n
  · intro d hd; rw [e _ _ (by omega), e _ _ (by omega), e _ _ (by omega)]; exact h.dm hd
  · intro d l hd hl
    have hd' : d < nd M := hd
    rw [e _ _ (by omega)]; exact h.wd hd hl
  · intro d l m hd hl hm; rw [e _ _ (by omega)]; exact h.pr hd hl hm
  · intro d l m hd hl hm
    have hd' : d < nd M := hd
    rw [e _ _ (by omega)]; exact h.hm hd hl hm
  · rw [e _ _ (by decide)]; exact h.f
  · rw [e _ _ (by decide)]; exact h.fp
  · intro f hf; rw [e _ _ (by decide), e _ _ (by decide), e _ _ (by decide)]; exact h.fa hf
  · intro f hf h3; rw [e _ _ (by decide)]; exact h.fg hf h3
  · rw [e _ _ (by decide)]; exact h.t
  · intro c hc; rw [e _ _ (by decide)]; exact h.lv hc
  · intro c hc; rw [e _ _ (by decide)]; exact h.sz hc
  · intro c hc; exact hk c hc
  · intro d hd; rw [e _ _ (by decide)]; exact h.pp hd
  · rw [e _ _ (by decide)]; exact h.rr
  · rw [e _ _ (by decide)]; exact h.oo
  · intro i hi; rw [e _ _ (by decide)]; exact h.ou hi
theorem k9_keepNone {Q : St → Prop} {σ : St} (hQ : ∀ τ, (∀ c, c < 256 → rd τ 10 c = b2i (only0 c)) → (∀ j i, j ≠ 10 → rd τ j i = rd σ j i) → Q τ) : vX9_keepNone Q σ := by
  have key : ∀ q c τ, c ≤ 256 → 256 - c < q → (∀ x, x < c → rd τ 10 x = b2i (only0 x)) → (∀ j i, j ≠ 10 → rd τ j i = rd σ j i) → vX9_keepNone_L2 Q q τ (nI c) := by
    intro q
    induction q with
    | zero => intro c τ _ h; omega
    | succ q ih =>
      intro c τ hc hq hz hF
      simp only [vX9_keepNone_L2]
      rw [l256]
      refine ⟨fun z => ?_, fun z => ?_⟩
      · have e : c = 256 := by
          have : 256 ≤ c := (leI (by omega) (by omega)).mp z
          omega
        rw [e] at hz; exact hQ τ hz hF
      · have hlt : c < 256 := lt_of_nle (by omega) (by omega) z
        rw [nC (by omega), nsucc, nar0, nar1]
        have step : ∀ v, v = b2i (only0 c) → vX9_keepNone_L2 Q q (wr τ 10 c v) (nI (c + 1)) := fun v hv => by
          refine ih (c + 1) _ (by omega) (by omega) (fun x hx => ?_) (fun j i hj => by rw [rd_ne hj]; exact hF j i hj)
          by_cases ex : x = c
          · subst ex; rw [rd_eq, hv]
          · rw [rd_nej ex]; exact hz x (by omega)
        refine ⟨fun b => ⟨vin hlt (by decide), step 1 ?_⟩, fun b => ⟨vin hlt (by decide), step 0 ?_⟩⟩
        · have : c = 0 := (eqI (by omega) (by omega)).mp b
          subst this; rfl
        · have : ¬ c = 0 := fun q => b (by rw [q]; rfl)
          unfold only0
          have e : (c == 0) = false := by simpa using this
          rw [e]; rfl
  exact ⟨257, key 257 0 σ (by omega) (by omega) (fun x hx => absurd hx (by omega)) (fun _ _ _ => rfl)⟩
theorem d_keepOnly {Q : St → Prop} {σ : St} (hQ : ∀ τ, (∀ c, c < 256 → rd τ 25 c = b2i (only0 c)) → (∀ j i, j ≠ 25 → rd τ j i = rd σ j i) → Q τ) : vX4_keepOnlyFirst Q σ := by
  have key : ∀ q c τ, c ≤ 256 → 256 - c < q → (∀ x, x < c → rd τ 25 x = b2i (only0 x)) → (∀ j i, j ≠ 25 → rd τ j i = rd σ j i) → vX4_keepOnlyFirst_L2 Q q τ (nI c) := by
    intro q
    induction q with
    | zero => intro c τ _ h; omega
    | succ q ih =>
      intro c τ hc hq hz hF
      simp only [vX4_keepOnlyFirst_L2]
      rw [l256]
      refine ⟨fun z => ?_, fun z => ?_⟩
      · have e : c = 256 := by
          have : 256 ≤ c := (leI (by omega) (by omega)).mp z
          omega
        rw [e] at hz; exact hQ τ hz hF
      · have hlt : c < 256 := lt_of_nle (by omega) (by omega) z
        rw [nC (by omega), nsucc, nar0, nar1]
        have step : ∀ v, v = b2i (only0 c) → vX4_keepOnlyFirst_L2 Q q (wr τ 25 c v) (nI (c + 1)) := fun v hv => by
          refine ih (c + 1) _ (by omega) (by omega) (fun x hx => ?_) (fun j i hj => by rw [rd_ne hj]; exact hF j i hj)
          by_cases ex : x = c
          · subst ex; rw [rd_eq, hv]
          · rw [rd_nej ex]; exact hz x (by omega)
        refine ⟨fun b => ⟨vin hlt (by decide), step 1 ?_⟩, fun b => ⟨vin hlt (by decide), step 0 ?_⟩⟩
        · have : c = 0 := (eqI (by omega) (by omega)).mp b
          subst this; rfl
        · have : ¬ c = 0 := fun q => b (by rw [q]; rfl)
          unfold only0
          have e : (c == 0) = false := by simpa using this
          rw [e]; rfl
  exact ⟨257, key 257 0 σ (by omega) (by omega) (fun x hx => absurd hx (by omega)) (fun _ _ _ => rfl)⟩
theorem spare_lt {M : Mo} (h : WF M) {c : Nat} {row : Nat → Nat} (hb : ∀ w, w < tot M → row w < 1000) : spare M c row ≤ 256000 := by
  have ht := tot_le h
  have := sumF_le (f := fun w => if srvM M c w then row w - szM M c else 0) (b := 1000) (tot M) (fun w hw => by
    have := hb w hw
    split <;> omega)
  unfold spare
  have h2 : tot M * 1000 ≤ 256 * 1000 := Nat.mul_le_mul ht (Nat.le_refl _)
  omega
theorem costK_lt {M : Mo} (h : WF M) {k : Nat → Bool} (w : Nat) : costK M k w < 1000 := row_lt h _ w
theorem gainK_le {M : Mo} (h : WF M) {k : Nat → Bool} (c : Nat) : gainK M k c ≤ 256000 := by
  unfold gainK
  split
  · omega
  · exact spare_lt h (fun w _ => costK_lt h w)
theorem amx_le {g : Nat → Nat} {b : Nat} (h : ∀ i, g i ≤ b) : ∀ n, (amx g n).2 ≤ b
  | 0 => Nat.zero_le _
  | n + 1 => by
    rw [amx]
    split
    · exact h n
    · exact amx_le h n
theorem amx_1 {g : Nat → Nat} (h : g 0 = 0) : amx g 1 = (0, 0) := by
  rw [amx]
  show (if 0 < g 0 then (0, g 0) else (0, 0)) = (0, 0)
  rw [if_neg (by omega)]
theorem gainK_0 {M : Mo} {k : Nat → Bool} (h : k 0 = true) : gainK M k 0 = 0 := by unfold gainK; rw [if_pos h]
/-- together: what a set of kept ones spares -/
def sparedK (M : Mo) (k : Nat → Bool) : Nat := sumF (fun w => szM M 0 - costK M k w) (tot M)
theorem k9_ch_sum {Q : Int32 → St → Prop} {σ : St} {M : Mo} {k : Nat → Bool} (hI : RI σ (setKp M k)) (hm : measAt σ M) (hC : costAt σ (setKp M k) (tot M)) (hQ : Q (nI (sparedK M k)) σ) : ∃ e, vX9_choose_L119 Q e σ 0 0 := by
  have hW : WF (setKp M k) := hI.1
  have ht : tot M ≤ 256 := tot_le (M := setKp M k) hW
  have h0 := tot_pos (M := M)
  have s0 : szM M 0 ≤ 300 := sz300 (M := setKp M k) hW 0
  have key : ∀ q w, w ≤ tot M → tot M - w < q → vX9_choose_L119 Q q σ (nI (sumF (fun w => szM M 0 - costK M k w) w)) (nI w) := by
    intro q
    induction q with
    | zero => intro w _ h; omega
    | succ q ih =>
      intro w hw hq
      simp only [vX9_choose_L119]
      refine k9_all hI ⟨fun z => ?_, fun z => ?_⟩
      · have e : w = tot M := by
          have : tot M ≤ w := (leI (show tot M < 2147483648 by omega) (by omega)).mp z
          omega
        rw [e]; exact hQ
      · have hlt : w < tot M := lt_of_nle (by omega) (show tot M < 2147483648 by omega) z
        have hle := lowK_le0 (M := M) (k := k) (w := w) (tot M)
        have hle2 : costK M k w ≤ szM M 0 := hle
        refine ⟨vin (i := 0) (by omega) (by decide), vin (by omega) (by decide), ?_⟩
        have e0 : rd σ 14 (0 : Int32).toNatClampNeg = nI (szM M 0) := hm.1 0 h0
        rw [e0, nC (by omega), hC w hlt, cost_set, nsub hle2, nI_add, nsucc]
        exact ih (w + 1) (by omega) (by omega)
  exact ⟨tot M + 1, key _ 0 (by omega) (by omega)⟩
theorem k9_ch_in {Q : Int32 → St → Prop} {K : St → Int32 → Int32 → Prop} {σ : St} {M : Mo} {k : Nat → Bool} {x1 x2 : Int32} (hW : WF M) (hI : RI σ (setKp M k)) (hk0 : k 0 = true) (hm : measAt σ M) (hC : costAt σ (setKp M k) (tot M)) (hK : K (wr σ 10 (amx (gainK M k) (tot M)).1 1) x1 (x2 + 1)) :
    ∃ e, vX9_choose_L45 Q K e σ x1 x2 0 0 1 := by
  have ht : tot M ≤ 256 := tot_le hW
  have h0 := tot_pos (M := M)
  have key : ∀ q c, 0 < c → c ≤ tot M → tot M - c < q → vX9_choose_L45 Q K q σ x1 x2 (nI (amx (gainK M k) c).1) (nI (amx (gainK M k) c).2) (nI c) := by
    intro q
    induction q with
    | zero => intro w _ _ h; omega
    | succ q ih =>
      intro c h1 hc hq
      have hg := gainK_le hW (k := k) c
      have ha := amx_le (g := gainK M k) (gainK_le hW (k := k)) c
      have hl := amx_lt (g := gainK M k) c h1
      simp only [vX9_choose_L45]
      refine k9_all hI ⟨fun z => ?_, fun z => ?_⟩
      · have e : c = tot M := by
          have : tot M ≤ c := (leI (show tot M < 2147483648 by omega) (by omega)).mp z
          omega
        rw [nar1, nC (by omega), e]
        refine ⟨vin (by rw [e] at hl; omega) (by decide), hK⟩
      · have hlt : c < tot M := lt_of_nle (by omega) (show tot M < 2147483648 by omega) z
        have hn := ih (c + 1) (by omega) (by omega) (by omega)
        rw [amx] at hn
        refine k9_gainOf hI hm hC hlt ?_
        rw [gain_set, nsucc]
        refine ⟨fun a => ⟨fun _ => ?_, fun b => absurd a b⟩, fun a => ⟨fun b => absurd b a, fun _ => ?_⟩⟩
        · have := (leI (by omega) (by omega)).mp a
          rw [if_neg (by omega)] at hn
          exact hn
        · have : ¬ gainK M k c ≤ (amx (gainK M k) c).2 := fun y => a ((leI (by omega) (by omega)).mpr y)
          rw [if_pos (by omega)] at hn
          exact hn
  have h1 := key (tot M + 1) 1 (by decide) h0 (by omega)
  rw [amx_1 (gainK_0 hk0)] at h1
  exact ⟨tot M + 1, h1⟩
theorem costAt.set {σ : St} {M : Mo} {k : Nat → Bool} {n : Nat} (h : costAt σ (setKp M k) n) : rowAt σ 16 (costK M k) n := fun w hw => by rw [h w hw, cost_set]
theorem grd_kept0 {M : Mo} : ∀ i k, k 0 = true → grd M i k 0 = true
  | 0, _, h => h
  | i + 1, k, h => grd_kept0 i _ (by show (k 0 || _) = true; rw [h]; rfl)
theorem k9_choose {Q : Int32 → St → Prop} {σ : St} {M : Mo} (hI0 : RI σ M) {n : Nat} (hn : n ≤ 8) (hQ : ∀ τ, RI τ (setKp M (grd M n only0)) → Q (nI (sparedK M (grd M n only0))) τ) : vX9_choose Q σ (nI n) := by
  have hW := hI0.1
  have ht : tot M ≤ 256 := tot_le hW
  have key : ∀ q i k τ, i ≤ n → n - i < q → k 0 = true → grd M (n - i) k = grd M n only0 → RI τ (setKp M k) → measAt τ M → vX9_choose_L28 Q q τ (nI n) (nI i) := by
    intro q
    induction q with
    | zero => intro i k τ _ h; omega
    | succ q ih =>
      intro i k τ hi hq hk0 hg hI hm
      have hmk : measAt τ (setKp M k) := hm
      simp only [vX9_choose_L28]
      refine ⟨fun z => ?_, fun z => ?_⟩
      · have e : i = n := by
          have : n ≤ i := (leI (by omega) (by omega)).mp z
          omega
        rw [e, Nat.sub_self] at hg
        have hg2 : k = grd M n only0 := hg
        refine k9_findCosts hI hmk (fun τ2 F2 hm2 hC2 => k9_ch_sum (hI.same F2) hm2 hC2 ?_)
        rw [hg2] at hI ⊢
        exact hQ τ2 (hI.same F2)
      · have hlt : i < n := lt_of_nle (by omega) (by omega) z
        refine k9_findCosts hI hmk (fun τ2 F2 hm2 hC2 => k9_ch_in hW (hI.same F2) hk0 hm2 hC2 ?_)
        have hl := amx_lt (g := gainK M k) (tot M) tot_pos
        have hI2 := hI.same F2
        rw [nsucc]
        refine ih (i + 1) (fun x => k x || x == (amx (gainK M k) (tot M)).1) _ (by omega) (by omega) (by rw [hk0]; rfl) ?_ ?_ ?_
        · rw [← hg, show n - i = (n - (i + 1)) + 1 by omega]
          rfl
        · have := hI2.kept (k := fun x => k x || x == (amx (gainK M k) (tot M)).1) (τ := wr τ2 10 (amx (gainK M k) (tot M)).1 1) (by rw [hk0]; rfl) (fun c hc => ?_) (fun j i _ _ hj => rd_ne hj) (fun i _ _ => rd_ne (by decide))
          · rw [setKp_set] at this; exact this
          · by_cases e : c = (amx (gainK M k) (tot M)).1
            · rw [e, rd_eq]; simp [b2i]
            · rw [rd_nej e, hI2.2.2.2.2.2.2.2.2.2.2.2.1 c hc]
              have : (c == (amx (gainK M k) (tot M)).1) = false := by simpa using e
              rw [this, Bool.or_false]
              rfl
        · have hm2' : measAt τ2 M := hm2
          exact hm2'.same (fun j => rd_ne (by decide)) (fun j => rd_ne (by decide))
  unfold vX9_choose
  have h8 : (8 : Int32).toInt = 8 := by decide
  refine k9_inT (by rw [c0, nT (by omega)]; omega) (by rw [nT (by omega), h8]; omega) ⟨fun a => absurd a n10, fun _ => k9_keepNone (fun τ hz hF => ?_)⟩
  have hI1 : RI (wr σ 0 0 0) M := hI0.same sameR.wr0
  have hI2 := hI1.kept (k := only0) (τ := τ) rfl hz (fun j i _ _ hj => hF j i hj) (fun i _ _ => hF 0 i (by decide))
  refine k9_measure hI2 (fun τ2 F2 hm2 => ⟨n + 1, key (n + 1) 0 only0 τ2 (by omega) (by omega) rfl rfl (hI2.same F2) hm2⟩)
theorem low_only0 {M : Mo} (w : Nat) : ∀ n, lowK M only0 n w = szM M 0
  | 0 => rfl
  | n + 1 => by
    simp only [lowK]
    rw [low_only0 w n]
    by_cases e : n = 0
    · subst e; split <;> omega
    · have : only0 n = false := by unfold only0; simpa using e
      rw [this]; simp
theorem d_worth {Q : Int32 → St → Prop} {σ : St} {M : Mo} {row : Nat → Nat} (hI : CI σ M) (hA : allSz σ M) (hr : rowAt σ 26 row (tot M)) (hb : ∀ w, w < tot M → row w < 1000) (hQ : Q (nI (amx (fun c => spare M c row) (tot M)).1) σ) : vX4_worthMost Q σ := by
  have ht : tot M ≤ 256 := tot_le hI.1
  have key : ∀ q c, c ≤ tot M → tot M - c < q → vX4_worthMost_L6 Q q σ (nI (amx (fun c => spare M c row) c).1) (nI (amx (fun c => spare M c row) c).2) (nI c) := by
    intro q
    induction q with
    | zero => intro w _ h; omega
    | succ q ih =>
      intro c hc hq
      have hg := spare_lt hI.1 (c := c) hb
      have ha := amx_le (g := fun c => spare M c row) (fun c => spare_lt hI.1 (c := c) hb) c
      simp only [vX4_worthMost_L6]
      rw [hI.t]
      refine ⟨fun z => ?_, fun z => ?_⟩
      · have e : c = tot M := by
          have : tot M ≤ c := (leI (by omega) (by omega)).mp z
          omega
        rw [e]; exact hQ
      · have hlt : c < tot M := lt_of_nle (by omega) (by omega) z
        have hn := ih (c + 1) (by omega) (by omega)
        rw [amx] at hn
        refine d_spared hI hA (Or.inl rfl) (len26 hI.1) hr hb hlt ?_
        rw [nsucc]
        refine ⟨fun a => ?_, fun a => ?_⟩
        · have := (leI (by omega) (by omega)).mp a
          rw [if_neg (by omega)] at hn
          exact hn
        · have : ¬ spare M c row ≤ (amx (fun c => spare M c row) c).2 := fun y => a ((leI (by omega) (by omega)).mpr y)
          rw [if_pos (by omega)] at hn
          exact hn
  exact ⟨tot M + 1, key _ 0 (by omega) (by omega)⟩
theorem amx_spare {M : Mo} {k : Nat → Bool} : amx (fun c => spare M c (costK M k)) (tot M) = amx (gainK M k) (tot M) := amx_congr (tot M) (fun c hc => (gainK_spare hc).symm)
theorem d_choose {Q : Int32 → St → Prop} {σ : St} {M : Mo} (hI0 : CI σ M) {n : Nat} (hn : n ≤ 8) (hQ : ∀ τ, CI τ (setKp M (grd M n only0)) → Q (nI (sparedK M (grd M n only0))) τ) : vX4_chooseGreedily Q σ (nI n) := by
  have hW := hI0.1
  have ht : tot M ≤ 256 := tot_le hW
  have h26 : cRow 26 := Or.inl rfl
  have hl := len26 hW
  have key : ∀ q i k τ, i ≤ n → n - i < q → k 0 = true → grd M (n - i) k = grd M n only0 → CI τ (setKp M k) → allSz τ M → rowAt τ 26 (costK M k) (tot M) → vX4_chooseGreedily_L16 Q q τ (nI n) (nI (sparedK M k)) (nI i) := by
    intro q
    induction q with
    | zero => intro i k τ _ h; omega
    | succ q ih =>
      intro i k τ hi hq hk0 hg hI hA hR
      have hA' : allSz τ (setKp M k) := hA
      have hR' : rowAt τ 26 (costK M k) (tot (setKp M k)) := hR
      have hb : ∀ w, w < tot (setKp M k) → costK M k w < 1000 := fun w _ => costK_lt hW w
      simp only [vX4_chooseGreedily_L16]
      refine ⟨fun z => ?_, fun z => ?_⟩
      · have e : i = n := by
          have : n ≤ i := (leI (by omega) (by omega)).mp z
          omega
        rw [e, Nat.sub_self] at hg
        have hg2 : k = grd M n only0 := hg
        rw [hg2] at hI ⊢
        exact hQ τ hI
      · have hlt : i < n := lt_of_nle (by omega) (by omega) z
        have hcl := amx_lt (g := gainK M k) (tot M) tot_pos
        refine d_worth hI hA' hR' hb ?_
        have ea : amx (fun c => spare (setKp M k) c (costK M k)) (tot (setKp M k)) = amx (gainK M k) (tot M) := amx_spare (M := M) (k := k)
        rw [ea]
        have hsp : spare M (amx (gainK M k) (tot M)).1 (costK M k) = (amx (gainK M k) (tot M)).2 := by
          rw [← gainK_spare hcl]
          rcases amx_val (g := gainK M k) (tot M) with e | ⟨e1, e2⟩
          · exact e.symm
          · rw [e1, e2, gainK_0 hk0]
        have hsl := amx_le (g := gainK M k) (gainK_le hW (k := k)) (tot M)
        refine d_spared hI hA' h26 hl hR' hb hcl ?_
        rw [spare_set, hsp]
        refine ⟨fun z => ?_, fun z => ?_⟩
        · have hpos : 0 < (amx (gainK M k) (tot M)).2 := by
            have := i_lt.mp z
            rw [c0, nT (by omega)] at this
            omega
          have hnk : k (amx (gainK M k) (tot M)).1 = false := by
            cases e : k (amx (gainK M k) (tot M)).1 with
            | false => rfl
            | true => rw [spare_kept hcl e] at hsp; omega
          unfold vX4_mark
          refine d_hasT hI hcl ⟨fun a => absurd a n10, fun _ => ⟨vin (by omega) (by decide), ?_⟩⟩
          rw [nC (by omega), hI.kk (by omega)]
          have ek : kp (setKp M k) (amx (gainK M k) (tot M)).1 = false := hnk
          rw [ek, nar1]
          refine ⟨fun b => absurd b (by decide), fun _ => ⟨vin (by omega) (by decide), ?_⟩⟩
          have hI2 := hI.kept (k := fun x => k x || x == (amx (gainK M k) (tot M)).1) (τ := wr τ 25 (amx (gainK M k) (tot M)).1 1) (by rw [hk0]; rfl) (fun c hc => by
            by_cases e : c = (amx (gainK M k) (tot M)).1
            · rw [e, rd_eq]; simp [b2i]
            · rw [rd_nej e, hI.kk hc]
              have : (c == (amx (gainK M k) (tot M)).1) = false := by simpa using e
              rw [this, Bool.or_false]
              rfl) (fun j i hj => rd_ne hj)
          rw [setKp_set] at hI2
          have hA2 : allSz (wr τ 25 (amx (gainK M k) (tot M)).1 1) M := fun c hc => by rw [rd_ne (by decide)]; exact hA c hc
          have hR2 : rowAt (wr τ 25 (amx (gainK M k) (tot M)).1 1) 26 (costK M k) (tot M) := fun w hw => by rw [rd_ne (by decide)]; exact hR w hw
          refine d_lower hI2 hA2 h26 h26 hl hl hR2 hb hcl (fun τ2 hR3 F2 => ?_)
          rw [nI_add, nsucc]
          have hsum : sparedK M k + (amx (gainK M k) (tot M)).2 = sparedK M (fun x => k x || x == (amx (gainK M k) (tot M)).1) := by
            rw [← hsp]
            unfold sparedK spare
            rw [← sumF_add]
            refine sumF_congr (tot M) (fun w _ => ?_)
            rw [costK_add hcl]
            have := lowK_le0 (M := M) (k := k) (w := w) (tot M)
            have h0 : costK M k w ≤ szM M 0 := this
            unfold lowerR
            split <;> omega
          rw [hsum]
          refine ih (i + 1) (fun x => k x || x == (amx (gainK M k) (tot M)).1) τ2 (by omega) (by omega) (by rw [hk0]; rfl) ?_ (hI2.same (fun k j hk => F2 k j (fun q => hk (by rw [q]; unfold scr; omega)))) (fun c hc => by rw [F2 24 c (by decide)]; exact hA2 c hc) (hR3.congr (fun w _ => (costK_add hcl w).symm))
          rw [← hg, show n - i = (n - (i + 1)) + 1 by omega]
          rfl
        · have hz : (amx (gainK M k) (tot M)).2 = 0 := by
            have : ¬ (0 : Int32).toInt < (nI (amx (gainK M k) (tot M)).2).toInt := fun y => z (i_lt.mpr y)
            rw [c0, nT (by omega)] at this
            omega
          rw [grd_0 hk0 hz] at hg
          rw [hg] at hI ⊢
          exact hQ τ hI
  unfold vX4_chooseGreedily
  refine d_keepOnly (fun τ hz hF => ?_)
  have hI1 := hI0.kept (k := only0) (τ := τ) rfl hz hF
  refine d_fillBare hI1 h26 hl (fun τ2 hI2 hA2 hR2 _ => ⟨n + 1, ?_⟩)
  have e0 : sparedK M only0 = 0 := by
    unfold sparedK
    have : sumF (fun w => szM M 0 - costK M only0 w) (tot M) = sumF (fun _ => 0) (tot M) := sumF_congr (tot M) (fun w _ => by unfold costK; rw [low_only0]; omega)
    rw [this]
    have z : ∀ n, sumF (fun _ => 0) n = 0 := fun n => by
      induction n with
      | zero => rfl
      | succ n ih => simp [sumF, ih]
    exact z _
  have := key (n + 1) 0 only0 τ2 (by omega) (by omega) rfl rfl hI2 hA2 (fun w hw => by rw [hR2 w hw]; unfold costK; rw [low_only0]; rfl)
  rw [e0] at this
  exact this

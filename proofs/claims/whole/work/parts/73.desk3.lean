/-! ===== the desk: servers, rows of costs ===== -/
theorem d_canServe {Q : Int32 → St → Prop} {σ : St} {M : Mo} (hI : CI σ M) {c w : Nat} (hc : c < tot M) (hw : w < tot M) (h : Q (b2i (srvM M c w)) σ) : vX4_canServe Q σ (nI c) (nI w) := by
  unfold vX4_canServe
  exact d_levelsOf hI hc (d_levelsOf hI hw (d_nowhere hI.1 ⟨zbb _, h⟩))
theorem d_serverOf {Q : Int32 → St → Prop} {σ : St} {M : Mo} (hI0 : CI σ M) {w : Nat} (hw : w < tot M) (hQ : ∀ τ, FrS M σ τ → Q (nI (serverM M w)) τ) : vX4_serverOf Q σ (nI w) := by
  have ht := tot_le hI0.1
  have key : ∀ q c τ, 0 < c → c ≤ tot M → tot M - c < q → FrS M σ τ → vX4_serverOf_L4 Q q τ (nI w) (nI (bestS (kp M) (szM M) (fun c => srvM M c w) c)) (nI c) := by
    intro q
    induction q with
    | zero => intro c τ _ _ h; omega
    | succ q ih =>
      intro c τ h0 hc hq hF
      have hI := hF.CI hI0
      have hb := bestS_lt (kp M) (szM M) (fun c => srvM M c w) c h0
      have s1 := sz300 hI.1 c
      have s2 := sz300 hI.1 (bestS (kp M) (szM M) (fun c => srvM M c w) c)
      simp only [vX4_serverOf_L4]
      rw [hI.t, nsucc]
      refine ⟨fun a => ?_, fun a => ?_⟩
      · have e : c = tot M := by
          have : tot M ≤ c := (leI (by omega) (by omega)).mp a
          omega
        rw [e]; exact hQ τ hF
      · have hlt : c < tot M := lt_of_nle (by omega) (by omega) a
        have hn := fun τ hF => ih (c + 1) τ (by omega) (by omega) (by omega) hF
        simp only [bestS] at hn
        rw [nC (show c < 2147483648 by omega), hI.kk (show c < 256 by omega)]
        refine ⟨vin (by omega) (by decide), fun b => ?_, fun b => d_canServe hI hlt hw ⟨fun d => ?_, fun d => d_sizeOf hI hlt (fun τ1 F1 _ => d_sizeOf (F1.CI hI) (by omega) (fun τ2 F2 _ => ⟨fun z => ?_, fun z => ?_⟩))⟩⟩
        · simp only [b2i_0.mp b, Bool.false_and, Bool.false_eq_true, if_false] at hn
          exact hn τ hF
        · simp only [b2i_0.mp d, Bool.false_and, Bool.and_false, Bool.false_eq_true, if_false] at hn
          exact hn τ hF
        · have := (leI (by omega) (by omega)).mp z
          simp only [decide_eq_false (show ¬ szM M c < szM M (bestS (kp M) (szM M) (fun c => srvM M c w) c) by omega), Bool.and_false, Bool.false_eq_true, if_false] at hn
          exact hn τ2 ((hF.tr F1).tr F2)
        · have : ¬ szM M (bestS (kp M) (szM M) (fun c => srvM M c w) c) ≤ szM M c := fun y => z ((leI (by omega) (by omega)).mpr y)
          simp only [decide_eq_true (show szM M c < szM M (bestS (kp M) (szM M) (fun c => srvM M c w) c) by omega), b2i_n0 b, b2i_n0 d, Bool.and_true, if_true] at hn
          exact hn τ2 ((hF.tr F1).tr F2)
  have h1 := key (tot M + 1) 1 σ (by omega) tot_pos (by omega) FrS.rf
  rw [bestS_1] at h1
  exact ⟨tot M + 1, h1⟩
theorem d_costOf {Q : Int32 → St → Prop} {σ : St} {M : Mo} (hI : CI σ M) {w : Nat} (hw : w < tot M) (hQ : ∀ τ, FrS M σ τ → Q (nI (costM M w)) τ) : vX4_costOf Q σ (nI w) := by
  unfold vX4_costOf
  exact d_serverOf hI hw (fun τ F => d_sizeOf (F.CI hI) server_lt (fun τ2 F2 _ => hQ τ2 (F.tr F2)))
theorem tcn_le (k : Nat) : TC.2.1 k ≤ 648 := by
  show TCn.getD k 0 ≤ 648
  by_cases h : k < TCn.length
  · rw [List.getD_eq_getElem?_getD, List.getElem?_eq_getElem h]
    have : ∀ x, x ∈ TCn → x ≤ 648 := by decide
    exact this _ (List.getElem_mem h)
  · rw [List.getD_eq_getElem?_getD, List.getElem?_eq_none (by omega)]
    decide
theorem d_fill {Q : St → Prop} {σ : St} {b a : Nat} {x : Int32} (ha : isI b a) (hQ : ∀ τ, (∀ k j, k ≠ a → rd τ k j = rd σ k j) → (∀ j, j < TC.2.1 a → rd τ a j = x) → Q τ) : vJ7_fill_53178 b a Q σ x := by
  have hN := tcn_le a
  unfold vJ7_fill_53178
  have key : ∀ q i τ, i ≤ TC.2.1 a → TC.2.1 a - i < q → (∀ k j, k ≠ a → rd τ k j = rd σ k j) → (∀ j, j < i → rd τ a j = x) → vJ7_fill_53178_L5 b a Q q τ x (nI i) (nI (TC.2.1 a)) := by
    intro q
    induction q with
    | zero => intro i τ _ h; omega
    | succ q ih =>
      intro i τ hi hq hF hz
      simp only [vJ7_fill_53178_L5]
      refine ⟨fun z => ?_, fun z => ?_⟩
      · have e : i = TC.2.1 a := by
          have : TC.2.1 a ≤ i := (leI (by omega) (by omega)).mp z
          omega
        rw [e] at hz
        exact hQ τ hF hz
      · have hlt : i < TC.2.1 a := lt_of_nle (by omega) (by omega) z
        rw [nC (by omega), nsucc]
        refine ⟨ha, vin hlt (by omega), ih (i + 1) _ (by omega) (by omega) (fun k j hk => by rw [rd_ne hk]; exact hF k j hk) (fun j hj => ?_)⟩
        by_cases ej : j = i
        · subst ej; exact rd_eq
        · rw [rd_nej ej]; exact hz j (by omega)
  exact ⟨ha, TC.2.1 a + 1, key _ 0 σ (by omega) (by omega) (fun _ _ _ => rfl) (fun j hj => absurd hj (by omega))⟩
/-- a row of costs that the desk works on: its own (26), or one of the search's (31 to 34) -/
def cRow (a : Nat) : Prop := a = 26 ∨ (31 ≤ a ∧ a ≤ 34)
theorem cRow.I {a : Nat} (h : cRow a) : isI 49 a := by
  have : a = 26 ∨ a = 31 ∨ a = 32 ∨ a = 33 ∨ a = 34 := by unfold cRow at h; omega
  rcases this with rfl | rfl | rfl | rfl | rfl <;> exact ⟨rfl, by decide⟩
theorem cRow.len {a : Nat} (h : cRow a) : 64 ≤ TC.2.1 a := by
  have : a = 26 ∨ a = 31 ∨ a = 32 ∨ a = 33 ∨ a = 34 := by unfold cRow at h; omega
  rcases this with rfl | rfl | rfl | rfl | rfl <;> decide
def allSz (τ : St) (M : Mo) : Prop := ∀ c, c < tot M → rd τ 24 c = nI (szM M c)
def rowAt (τ : St) (a : Nat) (row : Nat → Nat) (n : Nat) : Prop := ∀ w, w < n → rd τ a w = nI (row w)
theorem FrS.all {M : Mo} {σ τ : St} (h : FrS M σ τ) (g : allSz σ M) : allSz τ M := fun c hc => by
  rcases h.2 c hc with e | e
  · rw [e]; exact g c hc
  · exact e
theorem d_fillBare {Q : St → Prop} {σ : St} {M : Mo} {a : Nat} (hI0 : CI σ M) (ha : cRow a) (hl : tot M ≤ TC.2.1 a) (hQ : ∀ τ, CI τ M → allSz τ M → rowAt τ a (fun _ => szM M 0) (tot M) → (∀ k j, k ≠ 24 → k ≠ 27 → k ≠ a → rd τ k j = rd σ k j) → Q τ) : vX4_fillBare a Q σ := by
  have ht := tot_le hI0.1
  have h0 := tot_pos (M := M)
  have hsa : scr a := by unfold scr; unfold cRow at ha; omega
  have key : ∀ q c τ, c ≤ tot M → tot M - c < q → FrS M σ τ → (∀ x, x < c → rd τ 24 x = nI (szM M x)) → vX4_fillBare_L2 a Q q τ (nI c) := by
    intro q
    induction q with
    | zero => intro c τ _ h; omega
    | succ q ih =>
      intro c τ hc hq hF hz
      have hI := hF.CI hI0
      simp only [vX4_fillBare_L2]
      rw [hI.t, nsucc]
      refine ⟨fun z => ⟨vin (i := 0) (by omega) (by decide), ?_⟩, fun z => ?_⟩
      · have e : c = tot M := by
          have : tot M ≤ c := (leI (by omega) (by omega)).mp z
          omega
        rw [e] at hz
        refine d_fill ha.I (fun τ2 F2 hr => ?_)
        have e0 : rd τ 24 (0 : Int32).toNatClampNeg = nI (szM M 0) := hz 0 h0
        rw [e0] at hr
        have hne : ∀ k, k = 24 ∨ k = 27 → k ≠ a := fun k hk => by unfold cRow at ha; omega
        refine hQ τ2 (hI.same (fun k j hk => F2 k j (fun q => hk (by rw [q]; exact hsa)))) (fun x hx => by rw [F2 24 x (hne 24 (Or.inl rfl))]; exact hz x hx) (fun w hw => hr w (by omega)) (fun k j h1 h2 h3 => (F2 k j h3).trans (hF.1 k j h2 h1))
      · have hlt : c < tot M := lt_of_nle (by omega) (by omega) z
        refine d_sizeOf hI hlt (fun τ2 F2 e2 => ih (c + 1) τ2 (by omega) (by omega) (hF.tr F2) (fun x hx => ?_))
        by_cases ex : x = c
        · subst ex; exact e2
        · rcases F2.2 x (by omega) with q | q
          · rw [q]; exact hz x (by omega)
          · exact q
  exact ⟨tot M + 1, key _ 0 σ (by omega) (by omega) FrS.rf (fun x hx => absurd hx (by omega))⟩
theorem sz_small {M : Mo} (h : WF M) (c : Nat) : szM M c < 1000 := by have := sz300 h c; omega
theorem d_lower {Q : St → Prop} {σ : St} {M : Mo} {a1 a2 : Nat} {row : Nat → Nat} (hI0 : CI σ M) (hA : allSz σ M) (h1 : cRow a1) (h2 : cRow a2) (hl1 : tot M ≤ TC.2.1 a1) (hl2 : tot M ≤ TC.2.1 a2) (hr : rowAt σ a1 row (tot M)) (hb : ∀ w, w < tot M → row w < 1000) {c : Nat} (hc : c < tot M)
    (hQ : ∀ τ, rowAt τ a2 (lowerR M c row) (tot M) → (∀ k j, k ≠ a2 → rd τ k j = rd σ k j) → Q τ) : vX4_lower a1 a2 Q σ (nI c) := by
  have ht := tot_le hI0.1
  have hN1 := tcn_le a1
  have hN2 := tcn_le a2
  have hs2 : scr a2 := by unfold scr; unfold cRow at h2; omega
  have hsc := sz_small hI0.1 c
  have key : ∀ q w τ, w ≤ tot M → tot M - w < q → (∀ k j, k ≠ a2 → rd τ k j = rd σ k j) → (∀ u, u < w → rd τ a2 u = nI (lowerR M c row u)) → (∀ u, w ≤ u → u < tot M → rd τ a1 u = nI (row u)) → vX4_lower_L12 a1 a2 Q q τ (nI c) (nI w) := by
    intro q
    induction q with
    | zero => intro c τ _ h; omega
    | succ q ih =>
      intro w τ hw hq hF hd hu
      have hI : CI τ M := hI0.same (fun k j hk => hF k j (fun q => hk (by rw [q]; exact hs2)))
      have e24 : rd τ 24 c = nI (szM M c) := by rw [hF 24 c (by unfold cRow at h2; omega)]; exact hA c hc
      simp only [vX4_lower_L12]
      rw [hI.t, nsucc]
      refine ⟨fun z => ?_, fun z => ?_⟩
      · have e : w = tot M := by
          have : tot M ≤ w := (leI (by omega) (by omega)).mp z
          omega
        rw [e] at hd
        exact hQ τ hd hF
      · have hlt : w < tot M := lt_of_nle (by omega) (by omega) z
        have hbw := hb w hlt
        refine ⟨h1.I, fun z => absurd ((leI (by omega) (by omega)).mp z) (by omega), fun _ => ⟨h2.I, fun z => absurd ((leI (by omega) (by omega)).mp z) (by omega), fun _ => ⟨vin (by omega) (by decide), vin (by omega) (by decide), ?_⟩⟩⟩
        rw [nC (show c < 2147483648 by omega), nC (show w < 2147483648 by omega), hI.lv hc, hI.lv hlt]
        refine d_nowhere hI.1 ⟨fun b => ⟨h1.I, vin (by omega) (by omega), h2.I, vin (by omega) (by omega), ?_⟩, fun b => ⟨h1.I, vin (by omega) (by omega), vin (by omega) (by decide), h2.I, vin (by omega) (by omega), ?_⟩⟩
        · refine ih (w + 1) _ (by omega) (by omega) (fun k j hk => by rw [rd_ne hk]; exact hF k j hk) (fun u hu2 => ?_) (fun u hu1 hu2 => by rw [rd_nej (by omega)]; exact hu u (by omega) hu2)
          by_cases eu : u = w
          · subst eu
            rw [rd_eq, hu u (by omega) hlt]
            unfold lowerR
            rw [b2i_0.mp b]
            rfl
          · rw [rd_nej eu]; exact hd u (by omega)
        · refine ih (w + 1) _ (by omega) (by omega) (fun k j hk => by rw [rd_ne hk]; exact hF k j hk) (fun u hu2 => ?_) (fun u hu1 hu2 => by rw [rd_nej (by omega)]; exact hu u (by omega) hu2)
          by_cases eu : u = w
          · subst eu
            rw [rd_eq, hu u (by omega) hlt, e24]
            unfold lowerR
            rw [b2i_n0 b, if_pos rfl]
            by_cases hm : szM M c < row u
            · rw [if_pos ((ltI (by omega) (by omega)).mpr hm), Nat.min_eq_right (by omega)]
            · rw [if_neg (fun q => hm ((ltI (by omega) (by omega)).mp q)), Nat.min_eq_left (by omega)]
          · rw [rd_nej eu]; exact hd u (by omega)
  unfold vX4_lower
  exact d_hasT hI0 hc ⟨fun a => absurd a n10, fun _ => ⟨tot M + 1, key _ 0 σ (by omega) (by omega) (fun _ _ _ => rfl) (fun u hu => absurd hu (by omega)) (fun u _ hu => hr u hu)⟩⟩
theorem d_spared {Q : Int32 → St → Prop} {σ : St} {M : Mo} {a : Nat} {row : Nat → Nat} (hI : CI σ M) (hA : allSz σ M) (h1 : cRow a) (hl1 : tot M ≤ TC.2.1 a) (hr : rowAt σ a row (tot M)) (hb : ∀ w, w < tot M → row w < 1000) {c : Nat} (hc : c < tot M) (hQ : Q (nI (spare M c row)) σ) : vX4_sparedBy a Q σ (nI c) := by
  have ht := tot_le hI.1
  have hN1 := tcn_le a
  have hsc := sz_small hI.1 c
  have z0 : ∀ n, n ≤ c → sumF (fun w => if srvM M c w then row w - szM M c else 0) n = 0 := by
    intro n
    induction n with
    | zero => intro _; rfl
    | succ n ih =>
      intro hn
      simp only [sumF]
      rw [ih (by omega)]
      have : ¬ srvM M c n = true := fun q => by have := srv_le hc q; omega
      rw [if_neg this]
  have key : ∀ q w, c ≤ w → w ≤ tot M → tot M - w < q → vX4_sparedBy_L15 a Q q σ (nI c) (nI (sumF (fun w => if srvM M c w then row w - szM M c else 0) w)) (nI w) := by
    intro q
    induction q with
    | zero => intro w _ _ h; omega
    | succ q ih =>
      intro w hcw hw hq
      simp only [vX4_sparedBy_L15]
      rw [hI.t, nsucc]
      refine ⟨fun z => ?_, fun z => ?_⟩
      · have e : w = tot M := by
          have : tot M ≤ w := (leI (by omega) (by omega)).mp z
          omega
        rw [e]; exact hQ
      · have hlt : w < tot M := lt_of_nle (by omega) (by omega) z
        have hbw := hb w hlt
        have hn := ih (w + 1) (by omega) (by omega) (by omega)
        simp only [sumF] at hn
        rw [nC (show c < 2147483648 by omega), nC (show w < 2147483648 by omega), hI.lv hc, hI.lv hlt, hr w hlt, hA c hc]
        refine ⟨h1.I, fun z => absurd ((leI (by omega) (by omega)).mp z) (by omega), fun _ => ⟨h1.I, vin (by omega) (by omega), vin (by omega) (by decide), fun z => ?_, fun z => ⟨vin (by omega) (by decide), vin (by omega) (by decide), d_nowhere hI.1 ⟨fun b => ?_, fun b => ⟨h1.I, vin (by omega) (by omega), vin (by omega) (by decide), ?_⟩⟩⟩⟩⟩
        · have := (leI (by omega) (by omega)).mp z
          rw [show row w - szM M c = 0 by omega, ite_self] at hn
          exact hn
        · rw [b2i_0.mp b] at hn
          exact hn
        · have : ¬ row w ≤ szM M c := fun y => z ((leI (by omega) (by omega)).mpr y)
          rw [b2i_n0 b, if_pos rfl] at hn
          rw [hr w hlt, hA c hc, nsub (by omega), nI_add]
          exact hn
  unfold vX4_sparedBy
  refine d_hasT hI hc ⟨fun a => absurd a n10, fun _ => ⟨tot M + 1, ?_⟩⟩
  have := key (tot M + 1) c (Nat.le_refl _) (by omega) (by omega)
  rw [z0 c (Nat.le_refl _)] at this
  exact this
theorem row_lt {M : Mo} (h : WF M) {k : Nat → Bool} (n w : Nat) : lowK M k n w < 1000 := by
  have := lowK_le0 (M := M) (k := k) (w := w) n
  have := sz300 h 0
  omega
theorem rowAt.congr {τ : St} {a : Nat} {r s : Nat → Nat} {n : Nat} (h : rowAt τ a r n) (e : ∀ w, w < n → r w = s w) : rowAt τ a s n := fun w hw => by rw [h w hw, e w hw]
theorem len26 {M : Mo} (h : WF M) : tot M ≤ TC.2.1 26 := tot_le h
theorem d_gainOf {Q : Int32 → St → Prop} {σ : St} {M : Mo} (hI0 : CI σ M) {c : Nat} (hc : c < tot M) (hQ : ∀ τ, CI τ M → Q (nI (gainM M c)) τ) : vX4_gainOf Q σ (nI c) := by
  have ht := tot_le hI0.1
  have hr26 : cRow 26 := Or.inl rfl
  have hl := len26 hI0.1
  have key : ∀ q x τ, 0 < x → x ≤ tot M → tot M - x < q → kp M c = false → CI τ M → allSz τ M → rowAt τ 26 (lowK M (kp M) x) (tot M) → vX4_gainOf_L20 Q q τ (nI c) (nI x) := by
    intro q
    induction q with
    | zero => intro x τ _ _ h; omega
    | succ q ih =>
      intro x τ h0 hx hq hk hI hA hR
      simp only [vX4_gainOf_L20]
      rw [hI.t, nsucc]
      refine ⟨fun z => ?_, fun z => ?_⟩
      · have e : x = tot M := by
          have : tot M ≤ x := (leI (by omega) (by omega)).mp z
          omega
        rw [e] at hR
        refine d_spared hI hA hr26 hl hR (fun w _ => row_lt hI.1 _ w) hc ?_
        have := hQ τ hI
        unfold gainM at this
        rw [hk, if_neg (by decide)] at this
        have e2 : spare M c (costM M) = spare M c (lowK M (kp M) (tot M)) := by
          unfold spare
          exact sumF_congr (tot M) (fun w _ => by rw [cost_costK]; rfl)
        rw [e2] at this
        exact this
      · have hlt : x < tot M := lt_of_nle (by omega) (by omega) z
        rw [nC (show x < 2147483648 by omega), hI.kk (show x < 256 by omega)]
        refine ⟨vin (by omega) (by decide), fun b => ?_, fun b => ?_⟩
        · refine ih (x + 1) τ (by omega) (by omega) (by omega) hk hI hA (hR.congr (fun w _ => ?_))
          simp only [lowK]
          rw [b2i_0.mp b, Bool.false_and]
          rfl
        · refine d_lower hI hA hr26 hr26 hl hl hR (fun w _ => row_lt hI.1 _ w) hlt (fun τ2 hR2 F2 => ?_)
          refine ih (x + 1) τ2 (by omega) (by omega) (by omega) hk (hI.same (fun k j hk => F2 k j (fun q => hk (by rw [q]; unfold scr; omega)))) (fun y hy => by rw [F2 24 y (by decide)]; exact hA y hy) (hR2.congr (fun w _ => ?_))
          simp only [lowK, lowerR]
          rw [b2i_n0 b, Bool.true_and]
  unfold vX4_gainOf vX4_isKept
  refine d_hasT hI0 hc ⟨fun a => absurd a n10, fun _ => ⟨vin (by omega) (by decide), ?_⟩⟩
  rw [nC (by omega), hI0.kk (by omega)]
  refine ⟨fun b => ⟨fun _ => ?_, fun a => absurd rfl a⟩, fun b => ⟨fun a => absurd a n10, fun _ => ?_⟩⟩
  · refine d_fillBare hI0 hr26 hl (fun τ hI hA hR _ => ⟨tot M + 1, key _ 1 τ (by omega) tot_pos (by omega) (b2i_0.mp b) hI hA (hR.congr (fun w _ => (lowK_1 w).symm))⟩)
  · have := hQ σ hI0
    unfold gainM at this
    rw [b2i_n0 b, if_pos rfl] at this
    exact this

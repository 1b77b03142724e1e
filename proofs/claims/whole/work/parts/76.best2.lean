/-! ===== best: the reference's loops, the desk's search ===== -/
theorem k9_j101 {Q : Int32 → St → Prop} {K : St → Int32 → Int32 → Int32 → Int32 → Int32 → Prop} {σ : St} {M : Mo} (hI : RI σ M) (hm : measAt σ M) {a b c w s y : Nat} (hc : c < tot M) (hw : w < tot M) (hy : y ≤ szM M 0)
    (hK : K σ (nI a) (nI b) (nI c) (nI (s + (szM M 0 - (if srvM M c w then min y (szM M c) else y)))) (nI (w + 1))) : vX9_together_J101 Q K σ (nI a) (nI b) (nI c) (nI s) (nI w) (nI y) := by
  have ht := tot_le hI.1
  have s0 := sz300 hI.1 0
  have sc := sz300 hI.1 c
  have h0 := tot_pos (M := M)
  have e0 : rd σ 14 (0 : Int32).toNatClampNeg = nI (szM M 0) := hm.1 0 h0
  have v0 : vp_in (0 : Int32) 256 := vin (i := 0) (by omega) (by decide)
  unfold vX9_together_J101
  rw [l256, pk_mul, nI_add, nC (show 256 * c + w < 2147483648 by omega), hm.2 c w hc hw, e0, nC (show c < 2147483648 by omega), hm.1 c hc, nsucc]
  refine ⟨vin (by omega) (by decide), fun z => ⟨v0, ?_⟩, fun z => ⟨vin (by omega) (by decide), fun x => ⟨v0, ?_⟩, fun x => ⟨vin (by omega) (by decide), v0, ?_⟩⟩⟩
  · rw [b2i_0.mp z, if_neg (by decide)] at hK
    rw [nsub (by omega), nI_add]
    exact hK
  · have := (leI (by omega) (by omega)).mp x
    rw [b2i_n0 z, if_pos rfl, Nat.min_eq_left (by omega)] at hK
    rw [nsub (by omega), nI_add]
    exact hK
  · have : ¬ y ≤ szM M c := fun q => x ((leI (by omega) (by omega)).mpr q)
    rw [b2i_n0 z, if_pos rfl, Nat.min_eq_right (by omega)] at hK
    rw [nsub (by omega), nI_add]
    exact hK
theorem k9_j61 {Q : Int32 → St → Prop} {K : St → Int32 → Int32 → Int32 → Int32 → Int32 → Prop} {σ : St} {M : Mo} (hI : RI σ M) (hm : measAt σ M) {a b c w s y : Nat} (hb : b < tot M) (hc : c < tot M) (hw : w < tot M) (hy : y ≤ szM M 0)
    (hK : K σ (nI a) (nI b) (nI c) (nI (s + (szM M 0 - (if srvM M c w then min (if srvM M b w then min y (szM M b) else y) (szM M c) else (if srvM M b w then min y (szM M b) else y))))) (nI (w + 1))) : vX9_together_J61 Q K σ (nI a) (nI b) (nI c) (nI s) (nI w) (nI y) := by
  have ht := tot_le hI.1
  have s0 := sz300 hI.1 0
  have sc := sz300 hI.1 b
  unfold vX9_together_J61
  rw [l256, pk_mul, nI_add, nC (show 256 * b + w < 2147483648 by omega), hm.2 b w hb hw, nC (show b < 2147483648 by omega), hm.1 b hb]
  refine ⟨vin (by omega) (by decide), fun z => ?_, fun z => ⟨vin (by omega) (by decide), fun x => ?_, fun x => ⟨vin (by omega) (by decide), ?_⟩⟩⟩
  · simp only [b2i_0.mp z, Bool.false_eq_true, if_false] at hK
    exact k9_j101 hI hm hc hw hy hK
  · have := (leI (by omega) (by omega)).mp x
    simp only [b2i_n0 z, if_true, Nat.min_eq_left this] at hK
    exact k9_j101 hI hm hc hw hy hK
  · have : ¬ y ≤ szM M b := fun q => x ((leI (by omega) (by omega)).mpr q)
    simp only [b2i_n0 z, if_true, Nat.min_eq_right (show szM M b ≤ y by omega)] at hK
    exact k9_j101 hI hm hc hw (by omega) hK
theorem k9_together {Q : Int32 → St → Prop} {σ : St} {M : Mo} (hI : RI σ M) (hm : measAt σ M) {a b c : Nat} (ha : a < tot M) (hb : b < tot M) (hc : c < tot M) (hQ : Q (nI (gain3 M c b a)) σ) : vX9_together Q σ (nI a) (nI b) (nI c) := by
  have ht := tot_le hI.1
  have s0 := sz300 hI.1 0
  have sa := sz300 hI.1 a
  have h0 := tot_pos (M := M)
  have e0 : rd σ 14 (0 : Int32).toNatClampNeg = nI (szM M 0) := hm.1 0 h0
  have v0 : vp_in (0 : Int32) 256 := vin (i := 0) (by omega) (by decide)
  have key : ∀ q w, w ≤ tot M → tot M - w < q → vX9_together_L6 Q q σ (nI a) (nI b) (nI c) (nI (sumF (fun w => szM M 0 - lowerR M c (lowerR M b (lowerR M a (row0 M))) w) w)) (nI w) := by
    intro q
    induction q with
    | zero => intro w _ h; omega
    | succ q ih =>
      intro w hw hq
      simp only [vX9_together_L6]
      refine k9_all hI ⟨fun z => ?_, fun z => ?_⟩
      · have e : w = tot M := by
          have : tot M ≤ w := (leI (by omega) (by omega)).mp z
          omega
        rw [e, gain3_sum]; exact hQ
      · have hlt : w < tot M := lt_of_nle (by omega) (by omega) z
        have hn := ih (w + 1) (by omega) (by omega)
        simp only [sumF] at hn
        generalize sumF (fun w => szM M 0 - lowerR M c (lowerR M b (lowerR M a (row0 M))) w) w = S at hn ⊢
        rw [e0, l256, pk_mul, nI_add, nC (show 256 * a + w < 2147483648 by omega), hm.2 a w ha hlt, nC (show a < 2147483648 by omega), hm.1 a ha]
        refine ⟨v0, vin (by omega) (by decide), fun y => ?_, fun y => ⟨vin (by omega) (by decide), fun x => ?_, fun x => ⟨vin (by omega) (by decide), ?_⟩⟩⟩
        · refine k9_j61 hI hm hb hc hlt (Nat.le_refl _) ?_
          simp only [lowerR, row0, b2i_0.mp y, Bool.false_eq_true, if_false] at hn
          exact hn
        · refine k9_j61 hI hm hb hc hlt (Nat.le_refl _) ?_
          have := (leI (by omega) (by omega)).mp x
          simp only [lowerR, row0, b2i_n0 y, if_true, Nat.min_eq_left this] at hn
          exact hn
        · have : ¬ szM M 0 ≤ szM M a := fun q => x ((leI (by omega) (by omega)).mpr q)
          refine k9_j61 hI hm hb hc hlt (by omega) ?_
          simp only [lowerR, row0, b2i_n0 y, if_true, Nat.min_eq_right (show szM M a ≤ szM M 0 by omega)] at hn
          exact hn
  exact ⟨tot M + 1, key _ 0 (by omega) (by omega)⟩
theorem gain3_lt {M : Mo} (h : WF M) {a b c : Nat} : gain3 M c b a ≤ 768000 := by
  have s0 := sz_small h 0
  have h1 := spare_lt h (c := c) (row := row0 M) (fun w _ => s0)
  have h2 := spare_lt h (c := b) (row := lowerR M c (row0 M)) (fun w _ => Nat.lt_of_le_of_lt (rl_le r0_le w) s0)
  have h3 := spare_lt h (c := a) (row := lowerR M b (lowerR M c (row0 M))) (fun w _ => Nat.lt_of_le_of_lt (rl_le (rl_le r0_le) w) s0)
  unfold gain3
  omega
theorem mxC_le {M : Mo} (h : WF M) {a b n : Nat} : mxC M b a n ≤ 768000 := mxF_le n (fun _ _ => gain3_lt h)
theorem mxB_le {M : Mo} (h : WF M) {k a n : Nat} : mxB M k a n ≤ 768000 := mxF_le n (fun _ _ => mxC_le h)
theorem mxA_le {M : Mo} (h : WF M) {k n : Nat} : mxA M k n ≤ 768000 := mxF_le n (fun _ _ => mxB_le h)
theorem k9_b78 {Q : Int32 → St → Prop} {K40 : St → Int32 → Int32 → Int32 → Int32 → Prop} {K57 : St → Int32 → Int32 → Int32 → Int32 → Int32 → Prop} {σ : St} {M : Mo} {k a b X : Nat} {n : Int32} (hI : RI σ M) (hm : measAt σ M) (hk : k ≤ 3) (ha : a < tot M) (hb : b < tot M) (hX : X ≤ 768000)
    (hK : K57 σ (nI k) n (nI (max X (mxC M b a (Cq k b)))) (nI a) (nI (b + 1))) : ∃ e, vX9_best_L78 Q K40 K57 e σ (nI k) n (nI X) (nI a) (nI b) 0 := by
  have ht := tot_le hI.1
  have h0 := tot_pos (M := M)
  have hC : Cq k b ≤ tot M := by unfold Cq; split <;> omega
  have key : ∀ q c, c ≤ Cq k b → Cq k b - c < q → vX9_best_L78 Q K40 K57 q σ (nI k) n (nI (max X (mxC M b a c))) (nI a) (nI b) (nI c) := by
    intro q
    induction q with
    | zero => intro c _ h; omega
    | succ q ih =>
      intro c hc hq
      have hmc := mxC_le hI.1 (a := a) (b := b) (n := c)
      have hg := gain3_lt hI.1 (a := a) (b := b) (c := c)
      have body : ∀ y : Nat, y = Cq k b → vX9_best_J93 Q K40 K57 (fun σ x1 x2 x3 x4 x5 x6 => vX9_best_L78 Q K40 K57 q σ x1 x2 x3 x4 x5 x6) σ (nI k) n (nI (max X (mxC M b a c))) (nI a) (nI b) (nI c) (nI y) (nI c) := by
        intro y hy
        unfold vX9_best_J93
        refine ⟨fun z => ?_, fun z => ?_⟩
        · have e : c = Cq k b := by
            have : y ≤ c := (leI (by omega) (by omega)).mp z
            omega
          rw [e, nsucc]; exact hK
        · have hlt : c < y := lt_of_nle (by omega) (by omega) z
          refine k9_together hI hm ha hb (by omega) ?_
          have hn := ih (c + 1) (by omega) (by omega)
          have em : max X (mxC M b a (c + 1)) = max (max X (mxC M b a c)) (gain3 M c b a) := by
            show max X (max (mxC M b a c) (gain3 M c b a)) = _
            omega
          rw [em] at hn
          rw [nsucc]
          refine ⟨fun x => ?_, fun x => ?_⟩
          · have := (leI (by omega) (by omega)).mp x
            rw [Nat.max_eq_left this] at hn
            exact hn
          · have : ¬ gain3 M c b a ≤ max X (mxC M b a c) := fun q => x ((leI (by omega) (by omega)).mpr q)
            rw [Nat.max_eq_right (by omega)] at hn
            exact hn
      simp only [vX9_best_L78]
      refine ⟨fun z => ?_, fun z => ?_⟩
      · have : k ≤ 2 := (leI (by omega) (by omega)).mp z
        exact body 1 (by unfold Cq; rw [if_pos this])
      · have : ¬ k ≤ 2 := fun q => z ((leI (a := k) (b := 2) (by omega) (by omega)).mpr q)
        rw [nsucc]
        exact body (b + 1) (by unfold Cq; rw [if_neg this])
  have h1 := key (Cq k b + 1) 0 (by omega) (by omega)
  have e0 : max X (mxC M b a 0) = X := Nat.max_zero _
  rw [e0] at h1
  exact ⟨_, h1⟩
theorem k9_b57 {Q : Int32 → St → Prop} {K40 : St → Int32 → Int32 → Int32 → Int32 → Prop} {σ : St} {M : Mo} {k a X : Nat} {n : Int32} (hI : RI σ M) (hm : measAt σ M) (hk : k ≤ 3) (ha : a < tot M) (hX : X ≤ 768000)
    (hK : K40 σ (nI k) n (nI (max X (mxB M k a (Bq k a)))) (nI (a + 1))) : ∃ e, vX9_best_L57 Q K40 e σ (nI k) n (nI X) (nI a) 0 := by
  have ht := tot_le hI.1
  have h0 := tot_pos (M := M)
  have hC : Bq k a ≤ tot M := by unfold Bq; split <;> omega
  have key : ∀ q b, b ≤ Bq k a → Bq k a - b < q → vX9_best_L57 Q K40 q σ (nI k) n (nI (max X (mxB M k a b))) (nI a) (nI b) := by
    intro q
    induction q with
    | zero => intro c _ h; omega
    | succ q ih =>
      intro b hb hq
      have hmb := mxB_le hI.1 (k := k) (a := a) (n := b)
      have stop : b = Bq k a → K40 σ (nI k) n (nI (max X (mxB M k a b))) (nI (a + 1)) := fun e => by rw [e]; exact hK
      have go : b < Bq k a → ∃ e, vX9_best_L78 Q K40 (fun σ x1 x2 x3 x4 x5 => vX9_best_L57 Q K40 q σ x1 x2 x3 x4 x5) e σ (nI k) n (nI (max X (mxB M k a b))) (nI a) (nI b) 0 := fun hlt => by
        refine k9_b78 hI hm hk ha (by omega) (by omega) ?_
        have hn := ih (b + 1) (by omega) (by omega)
        have em : max X (mxB M k a (b + 1)) = max (max X (mxB M k a b)) (mxC M b a (Cq k b)) := by
          show max X (max (mxB M k a b) (mxC M b a (Cq k b))) = _
          omega
        rw [em] at hn
        exact hn
      simp only [vX9_best_L57]
      rw [nsucc]
      refine ⟨fun z => ⟨fun y => ?_, fun y => ?_⟩, fun z => ⟨fun y => ?_, fun y => ?_⟩⟩
      · have h1 : k ≤ 1 := (leI (by omega) (by omega)).mp z
        have h2 : 1 ≤ b := (leI (by omega) (by omega)).mp y
        exact stop (by unfold Bq at hb ⊢; rw [if_pos h1] at hb ⊢; omega)
      · have h1 : k ≤ 1 := (leI (by omega) (by omega)).mp z
        have h2 : ¬ 1 ≤ b := fun q => y ((leI (a := 1) (b := b) (by omega) (by omega)).mpr q)
        exact go (by unfold Bq; rw [if_pos h1]; omega)
      · have h1 : ¬ k ≤ 1 := fun q => z ((leI (a := k) (b := 1) (by omega) (by omega)).mpr q)
        have h2 : a + 1 ≤ b := (leI (by omega) (by omega)).mp y
        exact stop (by unfold Bq at hb ⊢; rw [if_neg h1] at hb ⊢; omega)
      · have h1 : ¬ k ≤ 1 := fun q => z ((leI (a := k) (b := 1) (by omega) (by omega)).mpr q)
        have h2 : ¬ a + 1 ≤ b := fun q => y ((leI (by omega) (by omega)).mpr q)
        exact go (by unfold Bq; rw [if_neg h1]; omega)
  have h1 := key (Bq k a + 1) 0 (by omega) (by omega)
  have e0 : max X (mxB M k a 0) = X := Nat.max_zero _
  rw [e0] at h1
  exact ⟨_, h1⟩
theorem k9_b40 {Q : Int32 → St → Prop} {σ : St} {M : Mo} {k : Nat} (hI : RI σ M) (hm : measAt σ M) (hk : k ≤ 3) (hQ : Q (nI (bestR M k)) σ) : ∃ e, vX9_best_L40 Q e σ (nI k) (nI (tot M)) 0 0 := by
  have ht := tot_le hI.1
  have h0 := tot_pos (M := M)
  have hC : Aq M k ≤ tot M := by unfold Aq; split <;> omega
  have key : ∀ q a, a ≤ Aq M k → Aq M k - a < q → vX9_best_L40 Q q σ (nI k) (nI (tot M)) (nI (mxA M k a)) (nI a) := by
    intro q
    induction q with
    | zero => intro c _ h; omega
    | succ q ih =>
      intro a ha hq
      have hma := mxA_le hI.1 (k := k) (n := a)
      have stop : a = Aq M k → Q (nI (mxA M k a)) σ := fun e => by rw [e]; exact hQ
      have go : a < Aq M k → ∃ e, vX9_best_L57 Q (fun σ x1 x2 x3 x4 => vX9_best_L40 Q q σ x1 x2 x3 x4) e σ (nI k) (nI (tot M)) (nI (mxA M k a)) (nI a) 0 := fun hlt => by
        refine k9_b57 hI hm hk (by omega) hma ?_
        exact ih (a + 1) (by omega) (by omega)
      simp only [vX9_best_L40]
      refine ⟨fun z => ⟨fun y => ?_, fun y => ?_⟩, fun z => ⟨fun y => ?_, fun y => ?_⟩⟩
      · have h1 : k ≤ 0 := (leI (b := 0) (by omega) (by omega)).mp z
        have h2 : 1 ≤ a := (leI (by omega) (by omega)).mp y
        exact stop (by unfold Aq at ha ⊢; rw [if_pos h1] at ha ⊢; omega)
      · have h1 : k ≤ 0 := (leI (b := 0) (by omega) (by omega)).mp z
        have h2 : ¬ 1 ≤ a := fun q => y ((leI (a := 1) (b := a) (by omega) (by omega)).mpr q)
        exact go (by unfold Aq; rw [if_pos h1]; omega)
      · have h1 : ¬ k ≤ 0 := fun q => z ((leI (b := 0) (by omega) (by omega)).mpr q)
        have h2 : tot M ≤ a := (leI (by omega) (by omega)).mp y
        exact stop (by unfold Aq at ha ⊢; rw [if_neg h1] at ha ⊢; omega)
      · have h1 : ¬ k ≤ 0 := fun q => z ((leI (b := 0) (by omega) (by omega)).mpr q)
        have h2 : ¬ tot M ≤ a := fun q => y ((leI (by omega) (by omega)).mpr q)
        exact go (by unfold Aq; rw [if_neg h1]; omega)
  exact ⟨_, key (Aq M k + 1) 0 (by omega) (by omega)⟩
/-! the desk's search -/
def frX (l : Nat) (σ τ : St) : Prop := ∀ k j, (k < 31 ∨ (31 + l ≤ k ∧ k < 36) ∨ 36 + l < k) → rd τ k j = rd σ k j
def EXs (M : Mo) (l : Nat) (E : (Int32 → St → Prop) → St → Int32 → Int32 → Int32 → Int32 → Prop) : Prop := ∀ (Q : Int32 → St → Prop) (σ : St) (s g f : Nat) (row : Nat → Nat), CI σ M → allSz σ M → rowAt σ (31 + l) row (tot M) → (∀ w, row w ≤ szM M 0) → g + l * 256000 ≤ 768000 → f ≤ 10000000 → s ≤ tot M → (∀ τ, frX l σ τ → Q (nI (max f (g + bestF M l s row))) τ) → E Q σ (nI l) (nI s) (nI g) (nI f)
theorem bestF_le {M : Mo} (h : WF M) (l s : Nat) (row : Nat → Nat) (hr : ∀ w, row w ≤ szM M 0) : bestF M l s row ≤ l * 256000 := by
  have s0 := sz_small h 0
  exact bestF_bound l s row (fun c _ _ => spare_lt h (fun w _ => Nat.lt_of_le_of_lt (hr w) s0))
theorem ext_ok {M : Mo} {l : Nat} {E : (Int32 → St → Prop) → St → Int32 → Int32 → Int32 → Int32 → Prop} (h64 : tot M ≤ 64) (hl1 : 1 ≤ l) (hl3 : l ≤ 3) (hE : 1 < l → EXs M (l - 1) E) : EXs M l (vX0_extend E) := by
  intro Q σ s g f row hI0 hA0 hR0 hrow hg hf hs hQ
  have hW := hI0.1
  have s0 := sz_small hW 0
  have hb : ∀ w, w < tot M → row w < 1000 := fun w _ => Nat.lt_of_le_of_lt (hrow w) s0
  have hcr : cRow (31 + l) := Or.inr (by omega)
  have hlen := hcr.len
  have hI36 : isI 49 (36 + l) := by
    have : l = 1 ∨ l = 2 ∨ l = 3 := by omega
    rcases this with rfl | rfl | rfl <;> exact ⟨rfl, by decide⟩
  have hN36 : TC.2.1 (36 + l) = 64 := by
    have : l = 1 ∨ l = 2 ∨ l = 3 := by omega
    rcases this with rfl | rfl | rfl <;> rfl
  -- the most that one spares
  have hmost : ∀ n, mxF (fun c => if s ≤ c then spare M c row else 0) n ≤ 256000 := fun n => mxF_le n (fun c _ => by
    split
    · exact spare_lt hW hb
    · exact Nat.zero_le _)
  -- the second loop
  have loop2 : ∀ q c τ, 1 < l → s ≤ c → c ≤ tot M → tot M - c < q → frX l σ τ → (∀ x, s ≤ x → x < tot M → rd τ (36 + l) x = nI (spare M x row)) →
      vX0_extend_L101 E Q q τ (nI l) (nI g) (36 + l) (nI (tot M)) (nI (mxF (fun c => if s ≤ c then spare M c row else 0) (tot M))) (nI (max f (max (g + mxF (fun c => if s ≤ c then spare M c row else 0) (tot M)) (g + mxF (fun c => if s ≤ c then spare M c row + bestF M (l - 1) (c + 1) (lowerR M c row) else 0) c)))) (nI c) := by
    intro q
    induction q with
    | zero => intro c τ _ _ _ h; omega
    | succ q ih =>
      intro c τ hl hsc hc hq hF hX
      have hI : CI τ M := hI0.same (fun k j hk => hF k j (by unfold scr at hk; omega))
      have hA : allSz τ M := fun x hx => by rw [hF 24 x (by omega)]; exact hA0 x hx
      have hR : rowAt τ (31 + l) row (tot M) := fun w hw => by rw [hF (31 + l) w (by omega)]; exact hR0 w hw
      have hm := hmost (tot M)
      have hTb : ∀ n, mxF (fun c => if s ≤ c then spare M c row + bestF M (l - 1) (c + 1) (lowerR M c row) else 0) n ≤ 768000 := fun n => mxF_le n (fun c _ => by
        split
        · have h1 := spare_lt hW (c := c) hb
          have h2 := bestF_le hW (l - 1) (c + 1) (lowerR M c row) (rl_le hrow)
          have h3 : (l - 1) * 256000 ≤ 2 * 256000 := Nat.mul_le_mul (by omega) (Nat.le_refl _)
          omega
        · exact Nat.zero_le _)
      have hT := hTb c
      have hT2 := hTb (tot M)
      simp only [vX0_extend_L101]
      refine ⟨fun z => ?_, fun _ => ⟨fun z => ?_, fun z => ?_⟩⟩
      · have : l ≤ 1 := (leI (by omega) (by omega)).mp z
        omega
      · have e : c = tot M := by
          have : tot M ≤ c := (leI (by omega) (by omega)).mp z
          omega
        rw [e]
        have hge : mxF (fun c => if s ≤ c then spare M c row else 0) (tot M) ≤ mxF (fun c => if s ≤ c then spare M c row + bestF M (l - 1) (c + 1) (lowerR M c row) else 0) (tot M) := mxF_le _ (fun c hc => by
          refine Nat.le_trans ?_ (mxF_ge (f := fun c => if s ≤ c then spare M c row + bestF M (l - 1) (c + 1) (lowerR M c row) else 0) _ c hc)
          by_cases h : s ≤ c
          · simp only [if_pos h]; omega
          · simp only [if_neg h]; exact Nat.le_refl _)
        have eb : mxF (fun c => if s ≤ c then spare M c row + bestF M (l - 1) (c + 1) (lowerR M c row) else 0) (tot M) = bestF M l s row := by
          rw [show l = (l - 1) + 1 by omega]
          rfl
        rw [eb] at hge ⊢
        rw [Nat.max_eq_right (show g + mxF (fun c => if s ≤ c then spare M c row else 0) (tot M) ≤ g + bestF M l s row by omega)]
        exact hQ τ hF
      · have hlt : c < tot M := lt_of_nle (by omega) (by omega) z
        have hsp := spare_lt hW (c := c) hb
        have hn := fun τ hF hX => ih (c + 1) τ hl (by omega) (by omega) (by omega) hF hX
        have hmc : mxF (fun c => if s ≤ c then spare M c row + bestF M (l - 1) (c + 1) (lowerR M c row) else 0) (c + 1) = max (mxF (fun c => if s ≤ c then spare M c row + bestF M (l - 1) (c + 1) (lowerR M c row) else 0) c) (spare M c row + bestF M (l - 1) (c + 1) (lowerR M c row)) := by
          show max _ (if s ≤ c then _ else 0) = _
          rw [if_pos hsc]
        have hbf := bestF_le hW (l - 1) (c + 1) (lowerR M c row) (rl_le hrow)
        have hbf3 : (l - 1) * 256000 ≤ 2 * 256000 := Nat.mul_le_mul (by omega) (Nat.le_refl _)
        have hlm : (l - 1) * mxF (fun c => if s ≤ c then spare M c row else 0) (tot M) ≤ 2 * 256000 := Nat.mul_le_mul (by omega) hm
        have hnew : bestF M (l - 1) (c + 1) (lowerR M c row) ≤ (l - 1) * mxF (fun c => if s ≤ c then spare M c row else 0) (tot M) := bestF_bound (l - 1) (c + 1) (lowerR M c row) (fun x hx hx2 => by
          refine Nat.le_trans (spare_mono lower_le) ?_
          have := mxF_ge (f := fun c => if s ≤ c then spare M c row else 0) (tot M) x hx2
          simp only [if_pos (show s ≤ x by omega)] at this
          exact this)
        rw [hmc] at hn
        generalize mxF (fun c => if s ≤ c then spare M c row else 0) (tot M) = mm at *
        generalize mxF (fun c => if s ≤ c then spare M c row + bestF M (l - 1) (c + 1) (lowerR M c row) else 0) c = tt at *
        rw [hN36, nC (show c < 2147483648 by omega), hX c hsc hlt, nI_add, nsub1 (by omega), pk_mul, nI_add, nsucc, nC (show l < 2147483648 by omega), nC (show l - 1 < 2147483648 by omega)]
        refine ⟨hI36, vin (by omega) (by decide), fun y => ?_, fun y => ⟨vin (by omega) (by decide), vin (by omega) (by decide), ?_⟩⟩
        · have hle := (leI (by omega) (by omega)).mp y
          have em : max f (max (g + mm) (g + max tt (spare M c row + bestF M (l - 1) (c + 1) (lowerR M c row)))) = max f (max (g + mm) (g + tt)) := by omega
          rw [em] at hn
          exact hn τ hF hX
        · have hcr2 : cRow (31 + (l - 1)) := Or.inr (by omega)
          have hlen2 := hcr2.len
          refine d_lower hI hA hcr hcr2 (by omega) (by omega) hR hb hlt (fun τ2 hR2 F2 => ?_)
          have hI2 : CI τ2 M := hI.same (fun k j hk => F2 k j (fun e => hk (by rw [e]; unfold scr; omega)))
          have hA2 : allSz τ2 M := fun x hx => by rw [F2 24 x (by omega)]; exact hA x hx
          refine hE hl _ τ2 (c + 1) (g + spare M c row) (max f (max (g + mm) (g + tt))) (lowerR M c row) hI2 hA2 hR2 (rl_le hrow) (by
            have : l * 256000 = (l - 1) * 256000 + 256000 := by
              rw [← Nat.succ_mul]
              congr 1
              omega
            omega) (by omega) (by omega) (fun τ3 F3 => ?_)
          have em : max (max f (max (g + mm) (g + tt))) (g + spare M c row + bestF M (l - 1) (c + 1) (lowerR M c row)) = max f (max (g + mm) (g + max tt (spare M c row + bestF M (l - 1) (c + 1) (lowerR M c row)))) := by omega
          rw [em]
          refine hn τ3 (fun k j hk => ?_) (fun x hx hx2 => ?_)
          · rw [F3 k j (by omega), F2 k j (by omega)]; exact hF k j hk
          · rw [F3 (36 + l) x (by omega), F2 (36 + l) x (by omega)]; exact hX x hx hx2
  have loop1 : ∀ q c τ, s ≤ c → c ≤ tot M → tot M - c < q → frX l σ τ → (∀ x, s ≤ x → x < c → rd τ (36 + l) x = nI (spare M x row)) →
      vX0_extend_L42 E Q q τ (nI l) (nI s) (nI g) (nI f) (36 + l) (nI (tot M)) (nI (mxF (fun c => if s ≤ c then spare M c row else 0) c)) (nI c) := by
    intro q
    induction q with
    | zero => intro c τ _ _ h; omega
    | succ q ih =>
      intro c τ hsc hc hq hF hX
      have hI : CI τ M := hI0.same (fun k j hk => hF k j (by unfold scr at hk; omega))
      have hA : allSz τ M := fun x hx => by rw [hF 24 x (by omega)]; exact hA0 x hx
      have hR : rowAt τ (31 + l) row (tot M) := fun w hw => by rw [hF (31 + l) w (by omega)]; exact hR0 w hw
      have hm := hmost (tot M)
      have hmc := hmost c
      simp only [vX0_extend_L42]
      refine ⟨fun z => ?_, fun z => ?_⟩
      · have e : c = tot M := by
          have : tot M ≤ c := (leI (by omega) (by omega)).mp z
          omega
        subst e
        rw [nI_add]
        have eg : (if nI f < nI (g + mxF (fun c => if s ≤ c then spare M c row else 0) (tot M)) then nI (g + mxF (fun c => if s ≤ c then spare M c row else 0) (tot M)) else nI f) = nI (max f (g + mxF (fun c => if s ≤ c then spare M c row else 0) (tot M))) := by
          by_cases hh : f < g + mxF (fun c => if s ≤ c then spare M c row else 0) (tot M)
          · rw [if_pos ((ltI (by omega) (by omega)).mpr hh), Nat.max_eq_right (by omega)]
          · rw [if_neg (fun q => hh ((ltI (by omega) (by omega)).mp q)), Nat.max_eq_left (by omega)]
        rw [eg]
        by_cases hl : 1 < l
        · refine ⟨tot M + 1, ?_⟩
          have h2 := loop2 (tot M + 1) s τ hl (Nat.le_refl _) hs (by omega) hF hX
          have e0 : mxF (fun c => if s ≤ c then spare M c row + bestF M (l - 1) (c + 1) (lowerR M c row) else 0) s = 0 := by
            have : mxF (fun c => if s ≤ c then spare M c row + bestF M (l - 1) (c + 1) (lowerR M c row) else 0) s ≤ 0 := mxF_le s (fun c hc => by
              simp only [if_neg (show ¬ s ≤ c by omega)]
              exact Nat.le_refl _)
            omega
          rw [e0, Nat.max_eq_left (show g + 0 ≤ g + mxF (fun c => if s ≤ c then spare M c row else 0) (tot M) by omega)] at h2
          exact h2
        · have el : l = 1 := by omega
          refine ⟨1, ?_⟩
          simp only [vX0_extend_L101]
          refine ⟨fun _ => ?_, fun y => absurd ((leI (a := l) (b := 1) (by omega) (by omega)).mpr (by omega)) y⟩
          have eb : bestF M l s row = mxF (fun c => if s ≤ c then spare M c row else 0) (tot M) := by
            rw [el]
            rfl
          have := hQ τ hF
          rw [eb] at this
          exact this
      · have hlt : c < tot M := lt_of_nle (by omega) (by omega) z
        have hsp := spare_lt hW (c := c) hb
        rw [nC (show l < 2147483648 by omega)]
        refine ⟨vin (by omega) (by decide), ?_⟩
        refine d_spared hI hA hcr (by omega) hR hb hlt ?_
        rw [hN36, nC (show c < 2147483648 by omega), rd_eq, nsucc]
        refine ⟨hI36, vin (by omega) (by decide), hI36, vin (by omega) (by decide), ?_⟩
        have hn := ih (c + 1) (wr τ (36 + l) c (nI (spare M c row))) (by omega) (by omega) (by omega) (fun k j hk => by rw [rd_ne (by omega)]; exact hF k j hk) (fun x hx hx2 => by
          by_cases e : x = c
          · subst e; exact rd_eq
          · rw [rd_nej e]; exact hX x hx (by omega))
        have em : mxF (fun c => if s ≤ c then spare M c row else 0) (c + 1) = max (mxF (fun c => if s ≤ c then spare M c row else 0) c) (spare M c row) := by
          show max _ (if s ≤ c then _ else 0) = _
          rw [if_pos hsc]
        rw [em] at hn
        have eg : (if nI (mxF (fun c => if s ≤ c then spare M c row else 0) c) < nI (spare M c row) then nI (spare M c row) else nI (mxF (fun c => if s ≤ c then spare M c row else 0) c)) = nI (max (mxF (fun c => if s ≤ c then spare M c row else 0) c) (spare M c row)) := by
          by_cases hh : mxF (fun c => if s ≤ c then spare M c row else 0) c < spare M c row
          · rw [if_pos ((ltI (by omega) (by omega)).mpr hh), Nat.max_eq_right (by omega)]
          · rw [if_neg (fun q => hh ((ltI (by omega) (by omega)).mp q)), Nat.max_eq_left (by omega)]
        rw [eg]
        exact hn
  unfold vX0_extend
  rw [nC (show l < 2147483648 by omega), hN36, hI0.t]
  refine ⟨fun z => ?_, fun _ => ⟨fun _ => ⟨vin (by omega) (by decide), hI36, ?_⟩, fun z => ?_⟩⟩
  · have := (ltI (a := l) (b := 1) (by omega) (by omega)).mp z
    omega
  · have e64 : (if nI 64 < nI (tot M) then nI 64 else nI (tot M)) = nI (tot M) := by
      rw [if_neg (fun q => by have := (ltI (by omega) (by omega)).mp q; omega)]
    rw [e64]
    refine ⟨tot M + 1, ?_⟩
    have h1 := loop1 (tot M + 1) s σ (Nat.le_refl _) hs (by omega) (fun _ _ _ => rfl) (fun x hx hx2 => absurd hx2 (by omega))
    have e0 : mxF (fun c => if s ≤ c then spare M c row else 0) s = 0 := by
      have : mxF (fun c => if s ≤ c then spare M c row else 0) s ≤ 0 := mxF_le s (fun c hc => by
        simp only [if_neg (show ¬ s ≤ c by omega)]
        exact Nat.le_refl _)
      omega
    rw [e0] at h1
    exact h1
  · exact absurd ((leI (a := l) (b := 3) (by omega) (by omega)).mpr hl3) z
theorem d_greatest {Q : Int32 → St → Prop} {σ : St} {M : Mo} (hI : CI σ M) (h64 : tot M ≤ 64) {k : Nat} (hk : k ≤ 3) (hQ : ∀ τ, CI τ M → Q (nI (bestF M k 0 (row0 M))) τ) : vX0_greatestGain Q σ (nI k) := by
  have e1 : EXs M 1 vX0_extend1 := ext_ok h64 (by decide) (by decide) (fun h => absurd h (by decide))
  have e1' : EXs M 1 vX0_extend2 := ext_ok h64 (by decide) (by decide) (fun h => absurd h (by decide))
  have e2 : EXs M 2 vX0_extend2 := ext_ok h64 (by decide) (by decide) (fun _ => e1)
  have eR1 : EXs M 1 vX0_extendR := ext_ok h64 (by decide) (by decide) (fun h => absurd h (by decide))
  have eR2 : EXs M 2 vX0_extendR := ext_ok h64 (by decide) (by decide) (fun _ => e1')
  have eR3 : EXs M 3 vX0_extendR := ext_ok h64 (by decide) (by decide) (fun _ => e2)
  have eR : 1 ≤ k → EXs M k vX0_extendR := fun h => by
    have : k = 1 ∨ k = 2 ∨ k = 3 := by omega
    rcases this with rfl | rfl | rfl
    · exact eR1
    · exact eR2
    · exact eR3
  unfold vX0_greatestGain
  refine ⟨fun z => ?_, fun z => ⟨fun _ => ⟨vin (by omega) (by decide), ?_⟩, fun z => ?_⟩⟩
  · have : k < 1 := (ltI (a := k) (b := 1) (by omega) (by omega)).mp z
    have e : k = 0 := by omega
    subst e
    exact hQ σ hI
  · have h1 : 1 ≤ k := by
      have : ¬ k < 1 := fun q => z ((ltI (a := k) (b := 1) (by omega) (by omega)).mpr q)
      omega
    rw [nC (by omega)]
    have hcr : cRow (31 + k) := Or.inr (by omega)
    have hlen := hcr.len
    refine d_fillBare hI hcr (by omega) (fun τ hI2 hA2 hR2 _ => ?_)
    refine eR h1 _ τ 0 0 0 (row0 M) hI2 hA2 hR2 (fun w => Nat.le_refl _) (by omega) (by omega) (Nat.zero_le _) (fun τ2 F2 => ?_)
    rw [Nat.zero_add, Nat.max_eq_right (Nat.zero_le _)]
    exact hQ τ2 (hI2.same (fun k j hk => F2 k j (by unfold scr at hk; omega)))
  · exact absurd ((leI (a := k) (b := 3) (by omega) (by omega)).mpr hk) z

/-! ===== best: the reference tries all, the desk leaves out branches ===== -/
def mxF (f : Nat → Nat) : Nat → Nat
  | 0 => 0
  | n + 1 => max (mxF f n) (f n)
theorem mxF_ge {f : Nat → Nat} : ∀ n i, i < n → f i ≤ mxF f n
  | 0, i, h => by omega
  | n + 1, i, h => by
    show f i ≤ max (mxF f n) (f n)
    by_cases e : i = n
    · subst e; omega
    · have := mxF_ge (f := f) n i (by omega); omega
theorem mxF_le {f : Nat → Nat} {b : Nat} : ∀ n, (∀ i, i < n → f i ≤ b) → mxF f n ≤ b
  | 0, _ => Nat.zero_le _
  | n + 1, h => by
    have h1 := mxF_le n (fun i hi => h i (by omega))
    have h2 := h n (by omega)
    show max (mxF f n) (f n) ≤ b
    omega
theorem mxF_att {f : Nat → Nat} : ∀ n, mxF f n = 0 ∨ ∃ i, i < n ∧ mxF f n = f i
  | 0 => Or.inl rfl
  | n + 1 => by
    show max (mxF f n) (f n) = 0 ∨ ∃ i, i < n + 1 ∧ max (mxF f n) (f n) = f i
    by_cases h : mxF f n ≤ f n
    · right; exact ⟨n, by omega, by omega⟩
    · rcases mxF_att (f := f) n with e | ⟨i, h1, h2⟩
      · omega
      · right; exact ⟨i, by omega, by omega⟩
def row0 (M : Mo) : Nat → Nat := fun _ => szM M 0
theorem lower_le {M : Mo} {c : Nat} {row : Nat → Nat} (w : Nat) : lowerR M c row w ≤ row w := by
  unfold lowerR
  split <;> omega
theorem spare_mono {M : Mo} {c : Nat} {r s : Nat → Nat} (h : ∀ w, r w ≤ s w) : spare M c r ≤ spare M c s := sumF_mono (tot M) (fun w _ => by
  have := h w
  split <;> omega)
theorem lower_comm {M : Mo} {a b : Nat} {row : Nat → Nat} : lowerR M a (lowerR M b row) = lowerR M b (lowerR M a row) := by
  funext w
  unfold lowerR
  by_cases h1 : srvM M a w = true
  · by_cases h2 : srvM M b w = true
    · rw [if_pos h1, if_pos h2, if_pos h1]; rw [if_pos h2]; omega
    · rw [if_pos h1, if_neg h2, if_neg h2]; rw [if_pos h1]
  · by_cases h2 : srvM M b w = true
    · rw [if_neg h1, if_pos h2, if_pos h2]; rw [if_neg h1]
    · rw [if_neg h1, if_neg h2, if_neg h2]; rw [if_neg h1]
theorem lower_idem {M : Mo} {a : Nat} {row : Nat → Nat} : lowerR M a (lowerR M a row) = lowerR M a row := by
  funext w
  unfold lowerR
  by_cases h1 : srvM M a w = true
  · simp only [if_pos h1]; omega
  · simp only [if_neg h1]
theorem spare_own {M : Mo} {a : Nat} {row : Nat → Nat} : spare M a (lowerR M a row) = 0 := by
  have := spare_row (M := M) (c := a) (row := lowerR M a row)
  rw [lower_idem] at this
  omega
theorem lower0 {M : Mo} {row : Nat → Nat} (h : ∀ w, row w ≤ szM M 0) : lowerR M 0 row = row := by
  funext w
  unfold lowerR
  rw [if_pos srv0]
  have := h w
  omega
theorem spare0 {M : Mo} {row : Nat → Nat} (h : ∀ w, row w ≤ szM M 0) : spare M 0 row = 0 := by
  have := spare_row (M := M) (c := 0) (row := row)
  rw [lower0 h] at this
  omega
/-- the most that up to l more cuboids from s on spare -/
def bestF (M : Mo) : Nat → Nat → (Nat → Nat) → Nat
  | 0, _, _ => 0
  | l + 1, s, row => mxF (fun c => if s ≤ c then spare M c row + bestF M l (c + 1) (lowerR M c row) else 0) (tot M)
theorem bestF_pick {M : Mo} {l s c X : Nat} {row : Nat → Nat} (hs : s ≤ c) (hc : c < tot M) (hX : X ≤ bestF M l (c + 1) (lowerR M c row)) : spare M c row + X ≤ bestF M (l + 1) s row := by
  have := mxF_ge (f := fun c => if s ≤ c then spare M c row + bestF M l (c + 1) (lowerR M c row) else 0) (tot M) c hc
  simp only [if_pos hs] at this
  show _ ≤ mxF _ _
  omega
theorem bestF_bound {M : Mo} {m : Nat} : ∀ l s (row : Nat → Nat), (∀ c, s ≤ c → c < tot M → spare M c row ≤ m) → bestF M l s row ≤ l * m
  | 0, _, _, _ => Nat.zero_le _
  | l + 1, s, row, h => by
    refine mxF_le (tot M) (fun c hc => ?_)
    by_cases hs : s ≤ c
    · simp only [if_pos hs]
      have h1 := h c hs hc
      have h2 := bestF_bound (m := m) l (c + 1) (lowerR M c row) (fun x hx hx2 => Nat.le_trans (spare_mono lower_le) (h x (by omega) hx2))
      rw [Nat.add_mul]
      omega
    · simp only [if_neg hs]; exact Nat.zero_le _
/-- what three together spare, in the order in which they are taken -/
def gain3 (M : Mo) (c b a : Nat) : Nat := spare M c (row0 M) + spare M b (lowerR M c (row0 M)) + spare M a (lowerR M b (lowerR M c (row0 M)))
theorem r0_le {M : Mo} (w : Nat) : row0 M w ≤ szM M 0 := Nat.le_refl _
theorem rl_le {M : Mo} {c : Nat} {row : Nat → Nat} (h : ∀ w, row w ≤ szM M 0) (w : Nat) : lowerR M c row w ≤ szM M 0 := Nat.le_trans (lower_le w) (h w)
/-- gain3 as the reference works it out -/
theorem gain3_sum {M : Mo} {a b c : Nat} : sumF (fun w => szM M 0 - lowerR M c (lowerR M b (lowerR M a (row0 M))) w) (tot M) = gain3 M c b a := by
  have e : lowerR M c (lowerR M b (lowerR M a (row0 M))) = lowerR M a (lowerR M b (lowerR M c (row0 M))) := by
    rw [lower_comm (a := b) (b := a), lower_comm (a := c) (b := a), lower_comm (a := c) (b := b)]
  rw [e]
  have h1 := spare_row (M := M) (c := c) (row := row0 M)
  have h2 := spare_row (M := M) (c := b) (row := lowerR M c (row0 M))
  have h3 := spare_row (M := M) (c := a) (row := lowerR M b (lowerR M c (row0 M)))
  have h4 := sumF_add (f := fun w => szM M 0 - lowerR M a (lowerR M b (lowerR M c (row0 M))) w) (g := lowerR M a (lowerR M b (lowerR M c (row0 M)))) (tot M)
  have h5 : sumF (fun i => (szM M 0 - lowerR M a (lowerR M b (lowerR M c (row0 M))) i) + lowerR M a (lowerR M b (lowerR M c (row0 M))) i) (tot M) = sumF (row0 M) (tot M) := sumF_congr (tot M) (fun w _ => by
    have := rl_le (c := a) (rl_le (c := b) (rl_le (c := c) (r0_le (M := M)))) w
    show _ = szM M 0
    omega)
  unfold gain3
  omega
def Aq (M : Mo) (k : Nat) : Nat := if k ≤ 0 then 1 else tot M
def Bq (k a : Nat) : Nat := if k ≤ 1 then 1 else a + 1
def Cq (k b : Nat) : Nat := if k ≤ 2 then 1 else b + 1
def mxC (M : Mo) (b a : Nat) : Nat → Nat := mxF (fun c => gain3 M c b a)
def mxB (M : Mo) (k a : Nat) : Nat → Nat := mxF (fun b => mxC M b a (Cq k b))
def mxA (M : Mo) (k : Nat) : Nat → Nat := mxF (fun a => mxB M k a (Bq k a))
def bestR (M : Mo) (k : Nat) : Nat := mxA M k (Aq M k)
theorem bestF_1 {M : Mo} {l s c : Nat} {row : Nat → Nat} (hs : s ≤ c) (hc : c < tot M) : spare M c row ≤ bestF M (l + 1) s row := by
  have := bestF_pick (M := M) (l := l) (s := s) (c := c) (X := 0) (row := row) hs hc (Nat.zero_le _)
  omega
theorem g3_le1 {M : Mo} {a : Nat} (ha : a < tot M) (l : Nat) : gain3 M 0 0 a ≤ bestF M (l + 1) 0 (row0 M) := by
  unfold gain3
  rw [spare0 r0_le, lower0 r0_le, spare0 r0_le, lower0 r0_le]
  have := bestF_1 (M := M) (l := l) (s := 0) (c := a) (row := row0 M) (Nat.zero_le _) ha
  omega
theorem g2_le {M : Mo} {a b l s : Nat} {row : Nat → Nat} (hs : s ≤ b) (hba : b ≤ a) (ha : a < tot M) : spare M b row + spare M a (lowerR M b row) ≤ bestF M (l + 1 + 1) s row := by
  by_cases e : b = a
  · subst e
    rw [spare_own]
    have := bestF_1 (M := M) (l := l + 1) (s := s) (c := b) (row := row) hs ha
    omega
  · exact bestF_pick hs (by omega) (bestF_1 (by omega) ha)
theorem g3_le2 {M : Mo} {a b : Nat} (hba : b ≤ a) (ha : a < tot M) (l : Nat) : gain3 M 0 b a ≤ bestF M (l + 1 + 1) 0 (row0 M) := by
  unfold gain3
  rw [spare0 r0_le, lower0 r0_le]
  have := g2_le (M := M) (l := l) (s := 0) (row := row0 M) (Nat.zero_le b) hba ha
  omega
theorem g3_le3 {M : Mo} {a b c : Nat} (hcb : c ≤ b) (hba : b ≤ a) (ha : a < tot M) : gain3 M c b a ≤ bestF M 3 0 (row0 M) := by
  unfold gain3
  by_cases e : c = b
  · subst e
    rw [spare_own, lower_idem]
    have := g2_le (M := M) (l := 1) (s := 0) (row := row0 M) (Nat.zero_le c) hba ha
    omega
  · have h1 := g2_le (M := M) (l := 0) (s := c + 1) (row := lowerR M c (row0 M)) (b := b) (a := a) (by omega) hba ha
    have := bestF_pick (M := M) (l := 2) (s := 0) (c := c) (row := row0 M) (Nat.zero_le _) (by omega) h1
    show _ ≤ bestF M (2 + 1) 0 (row0 M)
    omega
theorem bestR_le {M : Mo} {k : Nat} (hk : k ≤ 3) : bestR M k ≤ bestF M k 0 (row0 M) := by
  have hp := tot_pos (M := M)
  refine mxF_le _ (fun a ha => mxF_le _ (fun b hb => mxF_le _ (fun c hc => ?_)))
  unfold Aq at ha
  unfold Bq at hb
  unfold Cq at hc
  have : k = 0 ∨ k = 1 ∨ k = 2 ∨ k = 3 := by omega
  rcases this with rfl | rfl | rfl | rfl
  · simp at ha hb hc
    subst ha; subst hb; subst hc
    unfold gain3
    rw [spare0 r0_le, lower0 r0_le, spare0 r0_le, lower0 r0_le, spare0 r0_le]
    exact Nat.zero_le _
  · simp at ha hb hc
    subst hb; subst hc
    exact g3_le1 ha 0
  · simp at ha hb hc
    subst hc
    exact g3_le2 (by omega) ha 0
  · simp at ha hb hc
    exact g3_le3 (by omega) (by omega) ha
theorem bestR_ge {M : Mo} {k a b c : Nat} (ha : a < Aq M k) (hb : b < Bq k a) (hc : c < Cq k b) : gain3 M c b a ≤ bestR M k := by
  refine Nat.le_trans ?_ (mxF_ge (f := fun a => mxB M k a (Bq k a)) _ a ha)
  refine Nat.le_trans ?_ (mxF_ge (f := fun b => mxC M b a (Cq k b)) _ b hb)
  exact mxF_ge (f := fun c => gain3 M c b a) _ c hc
theorem g1_ge {M : Mo} {k a : Nat} (hk : 1 ≤ k) (ha : a < tot M) : spare M a (row0 M) ≤ bestR M k := by
  have h := bestR_ge (M := M) (k := k) (a := a) (b := 0) (c := 0) (by unfold Aq; rw [if_neg (by omega)]; exact ha) (by unfold Bq; split <;> omega) (by unfold Cq; split <;> omega)
  unfold gain3 at h
  rw [spare0 r0_le, lower0 r0_le, spare0 r0_le, lower0 r0_le] at h
  omega
theorem g2_ge {M : Mo} {k a b : Nat} (hk : 2 ≤ k) (hba : b ≤ a) (ha : a < tot M) : spare M b (row0 M) + spare M a (lowerR M b (row0 M)) ≤ bestR M k := by
  have h := bestR_ge (M := M) (k := k) (a := a) (b := b) (c := 0) (by unfold Aq; rw [if_neg (by omega)]; exact ha) (by unfold Bq; rw [if_neg (by omega)]; omega) (by unfold Cq; split <;> omega)
  unfold gain3 at h
  rw [spare0 r0_le, lower0 r0_le] at h
  omega
theorem best_eq {M : Mo} {k : Nat} (hk : k ≤ 3) : bestR M k = bestF M k 0 (row0 M) := by
  refine Nat.le_antisymm (bestR_le hk) ?_
  have : k = 0 ∨ k = 1 ∨ k = 2 ∨ k = 3 := by omega
  rcases this with rfl | rfl | rfl | rfl
  · exact Nat.zero_le _
  · refine mxF_le _ (fun c hc => ?_)
    simp only [Nat.zero_le, if_true]
    exact g1_ge (Nat.le_refl _) hc
  · refine mxF_le _ (fun c hc => ?_)
    simp only [Nat.zero_le, if_true]
    rcases mxF_att (f := fun x => if c + 1 ≤ x then spare M x (lowerR M c (row0 M)) + bestF M 0 (x + 1) (lowerR M x (lowerR M c (row0 M))) else 0) (tot M) with e | ⟨b, hb, e⟩
    · show _ + mxF _ _ ≤ _
      rw [e]
      exact g1_ge (by decide) hc
    · show _ + mxF _ _ ≤ _
      rw [e]
      by_cases h : c + 1 ≤ b
      · simp only [if_pos h]
        exact g2_ge (Nat.le_refl _) (by omega) hb
      · simp only [if_neg h]
        exact g1_ge (by decide) hc
  · refine mxF_le _ (fun c hc => ?_)
    simp only [Nat.zero_le, if_true]
    rcases mxF_att (f := fun x => if c + 1 ≤ x then spare M x (lowerR M c (row0 M)) + bestF M 1 (x + 1) (lowerR M x (lowerR M c (row0 M))) else 0) (tot M) with e | ⟨b, hb, e⟩
    · show _ + mxF _ _ ≤ _
      rw [e]
      exact g1_ge (by decide) hc
    · show _ + mxF _ _ ≤ _
      rw [e]
      by_cases h : c + 1 ≤ b
      · simp only [if_pos h]
        rcases mxF_att (f := fun x => if b + 1 ≤ x then spare M x (lowerR M b (lowerR M c (row0 M))) + bestF M 0 (x + 1) (lowerR M x (lowerR M b (lowerR M c (row0 M)))) else 0) (tot M) with e2 | ⟨a, ha, e2⟩
        · show _ + (_ + mxF _ _) ≤ _
          rw [e2]
          have := g2_ge (M := M) (k := 3) (a := b) (b := c) (by decide) (by omega) hb
          omega
        · show _ + (_ + mxF _ _) ≤ _
          rw [e2]
          by_cases h2 : b + 1 ≤ a
          · simp only [if_pos h2]
            have h3 := bestR_ge (M := M) (k := 3) (a := a) (b := b) (c := c) (by unfold Aq; rw [if_neg (by decide)]; exact ha) (by unfold Bq; rw [if_neg (by decide)]; omega) (by unfold Cq; rw [if_neg (by decide)]; omega)
            unfold gain3 at h3
            show _ + (_ + (_ + 0)) ≤ _
            omega
          · simp only [if_neg h2]
            have := g2_ge (M := M) (k := 3) (a := b) (b := c) (by decide) (by omega) hb
            omega
      · simp only [if_neg h]
        exact g1_ge (by decide) hc

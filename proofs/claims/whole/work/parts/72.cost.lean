/-! ===== costs, pure ===== -/
/-- costs where k are kept, of the first n cuboids -/
def lowK (M : Mo) (k : Nat → Bool) : Nat → Nat → Nat
  | 0, _ => szM M 0
  | n + 1, w => if k n && srvM M n w then min (lowK M k n w) (szM M n) else lowK M k n w
def costK (M : Mo) (k : Nat → Bool) (w : Nat) : Nat := lowK M k (tot M) w
def lowerR (M : Mo) (c : Nat) (row : Nat → Nat) (w : Nat) : Nat := if srvM M c w then min (row w) (szM M c) else row w
theorem best_low {M : Mo} {k : Nat → Bool} {w : Nat} : ∀ n, szM M (bestS k (szM M) (fun c => srvM M c w) n) = lowK M k n w
  | 0 => rfl
  | n + 1 => by
    have ih := best_low (M := M) (k := k) (w := w) n
    simp only [bestS, lowK]
    rw [← ih]
    by_cases hk : k n = true
    · by_cases hv : srvM M n w = true
      · by_cases h : szM M n < szM M (bestS k (szM M) (fun c => srvM M c w) n)
        · simp only [hk, hv, h, decide_true, Bool.and_self, if_true]; omega
        · simp only [hk, hv, h, decide_false, Bool.and_false, Bool.and_self, Bool.false_eq_true, if_false, if_true]; omega
      · simp [hk, hv]
    · simp [hk]
theorem cost_costK {M : Mo} (w : Nat) : costM M w = costK M (kp M) w := best_low (tot M)
theorem lowK_le0 {M : Mo} {k : Nat → Bool} {w : Nat} : ∀ n, lowK M k n w ≤ szM M 0
  | 0 => Nat.le_refl _
  | n + 1 => by
    have := lowK_le0 (M := M) (k := k) (w := w) n
    simp only [lowK]
    split <;> omega
theorem lowK_le {M : Mo} {k : Nat → Bool} {w c : Nat} (hk : k c = true) (hs : srvM M c w = true) : ∀ n, c < n → lowK M k n w ≤ szM M c
  | 0, h => by omega
  | n + 1, h => by
    simp only [lowK]
    by_cases e : c = n
    · subst e; simp only [hk, hs, Bool.and_self, if_true]; omega
    · have := lowK_le hk hs n (by omega)
      split <;> omega
theorem lowK_add {M : Mo} {k : Nat → Bool} {w c : Nat} : ∀ n, lowK M (fun x => k x || x == c) n w = if c < n ∧ srvM M c w = true then min (lowK M k n w) (szM M c) else lowK M k n w
  | 0 => by simp [lowK]
  | n + 1 => by
    have ih := lowK_add (M := M) (k := k) (w := w) (c := c) n
    simp only [lowK]
    rw [ih]
    by_cases e : n = c
    · subst e
      have e1 : (n == n) = true := by simp
      have e2 : ¬ (n < n ∧ srvM M n w = true) := fun q => absurd q.1 (Nat.lt_irrefl _)
      rw [if_neg e2]
      by_cases hs : srvM M n w = true
      · have e3 : n < n + 1 ∧ srvM M n w = true := ⟨by omega, hs⟩
        rw [if_pos e3]
        by_cases hk : k n = true
        · simp only [hs, hk, Bool.true_or, Bool.and_self, if_true]; omega
        · simp only [hs, hk, e1, Bool.or_true, Bool.and_self, if_true, Bool.and_true, Bool.false_eq_true, if_false]
      · have e3 : ¬ (n < n + 1 ∧ srvM M n w = true) := fun q => hs q.2
        rw [if_neg e3]
        simp [hs]
    · have e0 : (n == c) = false := by simpa using e
      have e3 : (c < n ∧ srvM M c w = true) ↔ (c < n + 1 ∧ srvM M c w = true) := by
        constructor
        · rintro ⟨h1, h2⟩
          exact ⟨by omega, h2⟩
        · rintro ⟨h1, h2⟩
          exact ⟨by omega, h2⟩
      simp only [e0, Bool.or_false, ← e3]
      by_cases h1 : c < n ∧ srvM M c w = true
      · by_cases h2 : (k n && srvM M n w) = true
        · simp only [if_pos h1, if_pos h2]; omega
        · simp only [if_pos h1, if_neg h2]
      · by_cases h2 : (k n && srvM M n w) = true
        · simp only [if_neg h1, if_pos h2]
        · simp only [if_neg h1, if_neg h2]
theorem costK_add {M : Mo} {k : Nat → Bool} {c : Nat} (hc : c < tot M) (w : Nat) : costK M (fun x => k x || x == c) w = lowerR M c (costK M k) w := by
  unfold costK lowerR
  rw [lowK_add]
  by_cases h : srvM M c w = true
  · rw [if_pos ⟨hc, h⟩, if_pos h]
  · rw [if_neg (fun q => h q.2), if_neg h]
theorem spare_row {M : Mo} {c : Nat} {row : Nat → Nat} : spare M c row + sumF (lowerR M c row) (tot M) = sumF row (tot M) := by
  unfold spare
  rw [← sumF_add]
  refine sumF_congr (tot M) (fun w _ => ?_)
  unfold lowerR
  split <;> omega
theorem spare_kept {M : Mo} {k : Nat → Bool} {c : Nat} (hc : c < tot M) (hk : k c = true) : spare M c (costK M k) = 0 := by
  unfold spare
  have : sumF (fun w => if srvM M c w then costK M k w - szM M c else 0) (tot M) = sumF (fun _ => 0) (tot M) := by
    refine sumF_congr (tot M) (fun w _ => ?_)
    by_cases h : srvM M c w = true
    · rw [if_pos h]
      have := lowK_le (M := M) hk h (tot M) hc
      unfold costK; omega
    · rw [if_neg h]
  rw [this]
  have z : ∀ n, sumF (fun _ => 0) n = 0 := fun n => by
    induction n with
    | zero => rfl
    | succ n ih => simp [sumF, ih]
  exact z _
def gainK (M : Mo) (k : Nat → Bool) (c : Nat) : Nat := if k c then 0 else spare M c (costK M k)
theorem gainK_spare {M : Mo} {k : Nat → Bool} {c : Nat} (hc : c < tot M) : gainK M k c = spare M c (costK M k) := by
  unfold gainK
  by_cases h : k c = true
  · rw [if_pos h, spare_kept hc h]
  · rw [if_neg h]
/-- the first one with the most, and how much; (0, 0) where none has any -/
def amx (g : Nat → Nat) : Nat → Nat × Nat
  | 0 => (0, 0)
  | n + 1 => if (amx g n).2 < g n then (n, g n) else amx g n
theorem amx_congr {g h : Nat → Nat} : ∀ n, (∀ i, i < n → g i = h i) → amx g n = amx h n
  | 0, _ => rfl
  | n + 1, e => by simp only [amx]; rw [amx_congr n (fun i hi => e i (by omega)), e n (by omega)]
theorem amx_lt {g : Nat → Nat} : ∀ n, 0 < n → (amx g n).1 < n
  | 0, h => by omega
  | 1, _ => by
    rw [amx]
    split
    · exact Nat.one_pos
    · exact Nat.one_pos
  | n + 2, _ => by
    have := amx_lt (g := g) (n + 1) (by omega)
    rw [amx]
    split
    · show n + 1 < n + 2; omega
    · omega
theorem amx_val {g : Nat → Nat} : ∀ n, (amx g n).2 = g (amx g n).1 ∨ ((amx g n).2 = 0 ∧ (amx g n).1 = 0)
  | 0 => Or.inr ⟨rfl, rfl⟩
  | n + 1 => by
    rw [amx]
    split
    · exact Or.inl rfl
    · exact amx_val n
theorem amx_0 {g : Nat → Nat} : ∀ n, (amx g n).2 = 0 → (amx g n).1 = 0
  | 0, _ => rfl
  | n + 1, h => by
    rw [amx] at h ⊢
    split at h
    · have h' : g n = 0 := h
      omega
    · rw [if_neg (by assumption)]; exact amx_0 n h
/-- greedy: i more -/
def grd (M : Mo) : Nat → (Nat → Bool) → (Nat → Bool)
  | 0, k => k
  | i + 1, k => grd M i (fun x => k x || x == (amx (gainK M k) (tot M)).1)
def only0 : Nat → Bool := fun c => c == 0
theorem or_kept {k : Nat → Bool} {c : Nat} (h : k c = true) : (fun x => k x || x == c) = k := by
  funext x
  by_cases e : x = c
  · subst e; simp [h]
  · simp [e]
theorem grd_0 {M : Mo} {k : Nat → Bool} (h0 : k 0 = true) (hz : (amx (gainK M k) (tot M)).2 = 0) : ∀ i, grd M i k = k
  | 0 => rfl
  | i + 1 => by
    show grd M i (fun x => k x || x == (amx (gainK M k) (tot M)).1) = k
    rw [amx_0 _ hz, or_kept h0]
    exact grd_0 h0 hz i
/-- a cuboid that serves another one has no greater number -/
theorem q_step {M : Mo} {c d : Nat} (hd : d < nd M) : c / prodF (fun d => tl M d + 1) (d + 1) (nd M - 1 - d) = c / prodF (fun d => tl M d + 1) d (nd M - d) * (tl M d + 1) + levM M c d := by
  have e : prodF (fun d => tl M d + 1) d (nd M - d) = (tl M d + 1) * prodF (fun d => tl M d + 1) (d + 1) (nd M - 1 - d) := by
    rw [show nd M - d = (nd M - 1 - d) + 1 by omega, prodF_cons]
  rw [e, Nat.mul_comm (tl M d + 1) (prodF _ _ _), ← Nat.div_div_eq_div_mul]
  unfold levM
  rw [Nat.mul_comm]
  exact (Nat.div_add_mod _ _).symm
theorem srv_le {M : Mo} {c w : Nat} (hc : c < tot M) (hs : srvM M c w = true) : c ≤ w := by
  have hl := srv_iff.mp hs
  have key : ∀ d, d ≤ nd M → c / prodF (fun d => tl M d + 1) d (nd M - d) ≤ w / prodF (fun d => tl M d + 1) d (nd M - d) := by
    intro d
    induction d with
    | zero =>
      intro _
      have : c / prodF (fun d => tl M d + 1) 0 (nd M - 0) = 0 := Nat.div_eq_of_lt hc
      rw [this]; exact Nat.zero_le _
    | succ d ih =>
      intro hd
      have h1 := q_step (M := M) (c := c) (d := d) (by omega)
      have h2 := q_step (M := M) (c := w) (d := d) (by omega)
      have h3 := ih (by omega)
      have h4 := hl d (by omega)
      rw [show nd M - (d + 1) = nd M - 1 - d by omega, h1, h2]
      exact Nat.add_le_add (Nat.mul_le_mul h3 (Nat.le_refl _)) h4
  have := key (nd M) (Nat.le_refl _)
  rw [Nat.sub_self] at this
  simpa [prodF] using this
theorem lev0 {M : Mo} {d : Nat} : levM M 0 d = 0 := by
  unfold levM
  rw [Nat.zero_div, Nat.zero_mod]
theorem srv0 {M : Mo} {w : Nat} : srvM M 0 w = true := srv_iff.mpr (fun d _ => by rw [lev0]; exact Nat.zero_le _)
theorem lowK_1 {M : Mo} {k : Nat → Bool} (w : Nat) : lowK M k 1 w = szM M 0 := by
  simp only [lowK]
  split <;> omega

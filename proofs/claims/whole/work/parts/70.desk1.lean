/-! ===== the desk: bits, packed numbers ===== -/
theorem sh_amt : ∀ j, j < 32 → ((nI j &&& 31).toBitVec.smod 32).toNat = j := by decide +kernel
theorem shrN {n j : Nat} (h : n < 2147483648) (hj : j < 32) : nI n >>> (nI j &&& 31) = nI (n / 2 ^ j) := pk_shrN (by omega) _ j (sh_amt j hj)
theorem shlN {n j : Nat} (hj : j < 32) (h : n * 2 ^ j < 4294967296) : nI n <<< (nI j &&& 31) = nI (n * 2 ^ j) := pk_shlN _ j (sh_amt j hj) (by omega)
theorem and3 {n : Nat} (h : n < 2147483648) : nI n &&& 3 = nI (n % 4) := pk_andN (by omega) 2 (by decide)
theorem and7 {n : Nat} (h : n < 2147483648) : nI n &&& 7 = nI (n % 8) := pk_andN (by omega) 3 (by decide)
theorem and15 {n : Nat} (h : n < 2147483648) : nI n &&& 15 = nI (n % 16) := pk_andN (by omega) 4 (by decide)
theorem nI_or (a b : Nat) : nI a ||| nI b = nI (a ||| b) := by
  apply Int32.toBitVec_inj.mp
  show (Int32.ofNat a ||| Int32.ofNat b).toBitVec = (Int32.ofNat (a ||| b)).toBitVec
  rw [Int32.toBitVec_or]
  simp only [Int32.toBitVec_ofNat']
  exact BitVec.ofNat_or.symm
theorem or8 {g h : Nat} (hh : h < 8) : nI (g * 8) ||| nI h = nI (8 * g + h) := by
  rw [nI_or, Nat.mul_comm]
  have := Nat.two_pow_add_eq_or_of_lt (i := 3) (b := h) (by omega) g
  rw [show (2 : Nat) ^ 3 = 8 from rfl] at this
  rw [← this]
/-- a digit of a packed cell -/
theorem cod8_digit {w : Nat → Nat} : ∀ n d, (∀ e, e < n → w e < 8) → d < n → cod 8 w n / 8 ^ (n - 1 - d) % 8 = w d
  | 0, d, _, h => by omega
  | n + 1, d, hw, hd => by
    show (8 * cod 8 w n + w n) / 8 ^ (n + 1 - 1 - d) % 8 = w d
    have hn := hw n (by omega)
    by_cases e : d = n
    · subst e
      rw [show d + 1 - 1 - d = 0 by omega, Nat.pow_zero, Nat.div_one]
      omega
    · have ih := cod8_digit n d (fun e he => hw e (by omega)) (by omega)
      rw [show n + 1 - 1 - d = (n - 1 - d) + 1 by omega, Nat.pow_succ, Nat.mul_comm (8 ^ (n - 1 - d)) 8, ← Nat.div_div_eq_div_mul, show (8 * cod 8 w n + w n) / 8 = cod 8 w n by omega]
      exact ih
/-- levels, four bits a dimension, the first one lowest -/
def lc16 (w : Nat → Nat) : Nat → Nat
  | 0 => 0
  | n + 1 => lc16 w n + w n * 16 ^ n
theorem lc16_lt {w : Nat → Nat} : ∀ n, (∀ d, d < n → w d < 16) → lc16 w n < 16 ^ n
  | 0, _ => by simp [lc16]
  | n + 1, h => by
    have h1 := lc16_lt n (fun d hd => h d (by omega))
    have h2 := h n (by omega)
    show lc16 w n + w n * 16 ^ n < 16 ^ n * 16
    have : (w n + 1) * 16 ^ n ≤ 16 * 16 ^ n := Nat.mul_le_mul (by omega) (Nat.le_refl _)
    rw [Nat.add_mul] at this
    omega
theorem lc16_digit {w : Nat → Nat} : ∀ n d, (∀ e, e < n → w e < 16) → d < n → lc16 w n / 16 ^ d % 16 = w d
  | 0, d, _, h => by omega
  | n + 1, d, hw, hd => by
    have hl := lc16_lt n (fun e he => hw e (by omega))
    show (lc16 w n + w n * 16 ^ n) / 16 ^ d % 16 = w d
    by_cases e : d = n
    · subst e
      rw [Nat.add_mul_div_right _ _ (Nat.pow_pos (by decide)), Nat.div_eq_of_lt hl, Nat.zero_add]
      exact Nat.mod_eq_of_lt (hw d (by omega))
    · have ih := lc16_digit n d (fun e he => hw e (by omega)) (by omega)
      have e1 : 16 ^ n = 16 ^ (n - d - 1) * 16 * 16 ^ d := by
        rw [Nat.mul_assoc, Nat.mul_comm 16 (16 ^ d), ← Nat.pow_succ, ← Nat.pow_add]
        congr 1; omega
      rw [e1, ← Nat.mul_assoc, Nat.add_mul_div_right _ _ (Nat.pow_pos (by decide)), ← Nat.mul_assoc, Nat.add_mul_mod_self_right]
      exact ih
def lcod (M : Mo) (c : Nat) : Nat := lc16 (levM M c) (nd M)
theorem lev3 {M : Mo} (h : WF M) {c d : Nat} (hd : d < nd M) : levM M c d ≤ 3 := by
  have := lev_lt (M := M) (c := c) (d := d)
  have := (h.2.1 d hd).2
  omega
theorem p16 {k : Nat} (h : k ≤ 4) : 16 ^ k ≤ 65536 := by
  have : k = 0 ∨ k = 1 ∨ k = 2 ∨ k = 3 ∨ k = 4 := by omega
  rcases this with rfl | rfl | rfl | rfl | rfl <;> decide
theorem p8 {k : Nat} (h : k ≤ 4) : 8 ^ k ≤ 4096 := by
  have : k = 0 ∨ k = 1 ∨ k = 2 ∨ k = 3 ∨ k = 4 := by omega
  rcases this with rfl | rfl | rfl | rfl | rfl <;> decide
theorem lcod_lt {M : Mo} (h : WF M) (c : Nat) : lcod M c < 65536 := Nat.lt_of_lt_of_le (lc16_lt (nd M) (fun d hd => by have := lev3 h (c := c) hd; omega)) (p16 h.1)
theorem lcod_digit {M : Mo} (h : WF M) {c d : Nat} (hd : d < nd M) : lcod M c / 16 ^ d % 16 = levM M c d := lc16_digit (nd M) d (fun e he => by have := lev3 h (c := c) he; omega) hd
theorem wh8 {M : Mo} (h : WF M) {f d : Nat} (hf : f < nf M) (hd : d < nd M) : wh M f d < 8 := by
  have := h.2.2.2.2.2.2.1 f d hf hd
  have t := (h.2.1 d hd).1
  have := (h.2.2.1 d 0 hd (by omega)).2
  omega
theorem cell_lt {M : Mo} (h : WF M) {f : Nat} (hf : f < nf M) : cod 8 (wh M f) (nd M) < 4096 := Nat.lt_of_lt_of_le (cod_lt (nd M) (fun d hd => wh8 h hf hd)) (p8 h.1)
/-- the desk's store holds M -/
def CI (σ : St) (M : Mo) : Prop := WF M ∧ rd σ 0 1 = nI (nd M) ∧
  (∀ d, d < nd M → rd σ (2 + 4 * d) 3 = nI (tl M d) ∧ rd σ (2 + 4 * d) 4 = nI (fl M d) ∧ rd σ (2 + 4 * d) 5 = nI (fm M d)) ∧
  (∀ d l, d < nd M → l ≤ tl M d → rd σ (2 + 4 * d + 1) l = nI (wid M d l)) ∧
  (∀ d l m, d < 4 → l < 4 → m < 8 → rd σ (2 + 4 * d + 2) (8 * l + m) = nI (pa M d l m)) ∧
  (∀ d l m, d < nd M → l ≤ tl M d → m < mb M d 0 → rd σ (2 + 4 * d + 3) (8 * l + m) = nI (liesM M d m l)) ∧
  rd σ 18 3 = nI (nf M) ∧ rd σ 18 4 = nI (cntF (th M) (nf M)) ∧
  (∀ f, f < nf M → rd σ 19 f = nI (cod 8 (wh M f) (nd M)) ∧ rd σ 20 f = ms M f ∧ rd σ 21 f = b2i (!th M f)) ∧ (∀ f, nf M ≤ f → f < 300 → rd σ 21 f = 0) ∧
  rd σ 22 7 = nI (tot M) ∧ (∀ c, c < tot M → rd σ 23 c = nI (lcod M c)) ∧ (∀ c, c < tot M → rd σ 24 c = -1 ∨ rd σ 24 c = nI (szM M c)) ∧ (∀ c, c < 256 → rd σ 25 c = b2i (kp M c)) ∧
  (∀ d, d < 4 → rd σ 47 d = nI (pk M d)) ∧ rd σ 48 7 = re M ∧ rd σ 45 1 = nI (ol M) ∧ (∀ i, i < ol M → rd σ 46 i = nI (ou M i))
theorem CI.w {σ : St} {M : Mo} (h : CI σ M) : WF M := h.1
theorem CI.n {σ : St} {M : Mo} (h : CI σ M) : rd σ 0 1 = nI (nd M) := h.2.1
theorem CI.dm {σ : St} {M : Mo} (h : CI σ M) {d : Nat} (hd : d < nd M) : rd σ (2 + 4 * d) 3 = nI (tl M d) ∧ rd σ (2 + 4 * d) 4 = nI (fl M d) ∧ rd σ (2 + 4 * d) 5 = nI (fm M d) := h.2.2.1 d hd
theorem CI.wd {σ : St} {M : Mo} (h : CI σ M) {d l : Nat} (hd : d < nd M) (hl : l ≤ tl M d) : rd σ (2 + 4 * d + 1) l = nI (wid M d l) := h.2.2.2.1 d l hd hl
theorem CI.pr {σ : St} {M : Mo} (h : CI σ M) {d l m : Nat} (hd : d < 4) (hl : l < 4) (hm : m < 8) : rd σ (2 + 4 * d + 2) (8 * l + m) = nI (pa M d l m) := h.2.2.2.2.1 d l m hd hl hm
theorem CI.hm {σ : St} {M : Mo} (h : CI σ M) {d l m : Nat} (hd : d < nd M) (hl : l ≤ tl M d) (hm : m < mb M d 0) : rd σ (2 + 4 * d + 3) (8 * l + m) = nI (liesM M d m l) := h.2.2.2.2.2.1 d l m hd hl hm
theorem CI.f {σ : St} {M : Mo} (h : CI σ M) : rd σ 18 3 = nI (nf M) := h.2.2.2.2.2.2.1
theorem CI.fp {σ : St} {M : Mo} (h : CI σ M) : rd σ 18 4 = nI (cntF (th M) (nf M)) := h.2.2.2.2.2.2.2.1
theorem CI.fa {σ : St} {M : Mo} (h : CI σ M) {f : Nat} (hf : f < nf M) : rd σ 19 f = nI (cod 8 (wh M f) (nd M)) ∧ rd σ 20 f = ms M f ∧ rd σ 21 f = b2i (!th M f) := h.2.2.2.2.2.2.2.2.1 f hf
theorem CI.fg {σ : St} {M : Mo} (h : CI σ M) {f : Nat} (hf : nf M ≤ f) (h3 : f < 300) : rd σ 21 f = 0 := h.2.2.2.2.2.2.2.2.2.1 f hf h3
theorem CI.t {σ : St} {M : Mo} (h : CI σ M) : rd σ 22 7 = nI (tot M) := h.2.2.2.2.2.2.2.2.2.2.1
theorem CI.lv {σ : St} {M : Mo} (h : CI σ M) {c : Nat} (hc : c < tot M) : rd σ 23 c = nI (lcod M c) := h.2.2.2.2.2.2.2.2.2.2.2.1 c hc
theorem CI.sz {σ : St} {M : Mo} (h : CI σ M) {c : Nat} (hc : c < tot M) : rd σ 24 c = -1 ∨ rd σ 24 c = nI (szM M c) := h.2.2.2.2.2.2.2.2.2.2.2.2.1 c hc
theorem CI.kk {σ : St} {M : Mo} (h : CI σ M) {c : Nat} (hc : c < 256) : rd σ 25 c = b2i (kp M c) := h.2.2.2.2.2.2.2.2.2.2.2.2.2.1 c hc
theorem CI.pp {σ : St} {M : Mo} (h : CI σ M) {d : Nat} (hd : d < 4) : rd σ 47 d = nI (pk M d) := h.2.2.2.2.2.2.2.2.2.2.2.2.2.2.1 d hd
theorem CI.rr {σ : St} {M : Mo} (h : CI σ M) : rd σ 48 7 = re M := h.2.2.2.2.2.2.2.2.2.2.2.2.2.2.2.1
theorem CI.oo {σ : St} {M : Mo} (h : CI σ M) : rd σ 45 1 = nI (ol M) := h.2.2.2.2.2.2.2.2.2.2.2.2.2.2.2.2.1
theorem CI.ou {σ : St} {M : Mo} (h : CI σ M) {i : Nat} (hi : i < ol M) : rd σ 46 i = nI (ou M i) := h.2.2.2.2.2.2.2.2.2.2.2.2.2.2.2.2.2 i hi
/-- only what is worked out on the way differs: costs, groups, the search's and the tallies' rows -/
def scr (k : Nat) : Prop := (26 ≤ k ∧ k ≤ 44)
def sameC (σ τ : St) : Prop := ∀ k j, ¬ scr k → rd τ k j = rd σ k j
theorem sameC.rf {σ : St} : sameC σ σ := fun _ _ _ => rfl
theorem sameC.tr {a b c : St} (h : sameC a b) (g : sameC b c) : sameC a c := fun k j hk => (g k j hk).trans (h k j hk)
theorem sameC.ww {σ : St} {k j : Nat} {v : Int32} (hk : scr k) : sameC σ (wr σ k j v) := fun a b ha => rd_ne (fun e => ha (by rw [e]; exact hk))
theorem sameC.wwl {σ : St} {k j : Nat} {v : Int64} : sameC σ (wl σ k j v) := fun _ _ _ => rfl
theorem CI.same {σ τ : St} {M : Mo} (h : CI σ M) (s : sameC σ τ) : CI τ M := by
  have e : ∀ k j, (k < 26 ∨ 44 < k) → rd τ k j = rd σ k j := fun k j hk => s k j (fun q => by unfold scr at q; omega)
  have h4 := h.1.1
  refine ⟨h.1, ?_, ?_, ?_, ?_, ?_, ?_, ?_, ?_, ?_, ?_, ?_, ?_, ?_, ?_, ?_, ?_, ?_⟩
  · rw [e _ _ (by omega)]; exact h.n
  · intro d hd; rw [e _ _ (by omega), e _ _ (by omega), e _ _ (by omega)]; exact h.dm hd
  · intro d l hd hl; rw [e _ _ (by omega)]; exact h.wd hd hl
  · intro d l m hd hl hm; rw [e _ _ (by omega)]; exact h.pr hd hl hm
  · intro d l m hd hl hm; rw [e _ _ (by omega)]; exact h.hm hd hl hm
  · rw [e _ _ (by omega)]; exact h.f
  · rw [e _ _ (by omega)]; exact h.fp
  · intro f hf; rw [e _ _ (by omega), e _ _ (by omega), e _ _ (by omega)]; exact h.fa hf
  · intro f hf h3; rw [e _ _ (by omega)]; exact h.fg hf h3
  · rw [e _ _ (by omega)]; exact h.t
  · intro c hc; rw [e _ _ (by omega)]; exact h.lv hc
  · intro c hc; rw [e _ _ (by omega)]; exact h.sz hc
  · intro c hc; rw [e _ _ (by omega)]; exact h.kk hc
  · intro d hd; rw [e _ _ (by omega)]; exact h.pp hd
  · rw [e _ _ (by omega)]; exact h.rr
  · rw [e _ _ (by omega)]; exact h.oo
  · intro i hi; rw [e _ _ (by omega)]; exact h.ou hi
/-! ===== leaves of the desk ===== -/
theorem dimk_of {d : Nat} (h : d < 4) : dimk (2 + 4 * d) := by
  unfold dimk
  omega
theorem d_placeOf {Q : Int32 → St → Prop} {σ : St} {l m : Nat} (hl : l < 4) (hm : m < 8) (h : Q (nI (8 * l + m)) σ) : vX1_placeOf Q σ (nI l) (nI m) := by
  unfold vX1_placeOf
  rw [and3 (by omega), and7 (by omega), l8, pk_mul, nI_add, show l % 4 * 8 + m % 8 = 8 * l + m by omega]
  exact h
theorem d_levelIn {Q : Int32 → St → Prop} {σ : St} {L d : Nat} (hL : L < 65536) (hd : d < 4) (h : Q (nI (L / 16 ^ d % 16)) σ) : vX6_levelIn Q σ (nI L) (nI d) := by
  unfold vX6_levelIn
  rw [l4, pk_mul, shrN (by omega) (by omega), and15 (Nat.lt_of_le_of_lt (Nat.div_le_self _ _) (by omega)), Nat.pow_mul, show (2 : Nat) ^ 4 = 16 from rfl]
  exact h
theorem d_memberIn {Q : Int32 → St → Prop} {σ : St} {M : Mo} (hI : CI σ M) {C d : Nat} (hC : C < 4096) (hd : d < nd M) (h : Q (nI (C / 8 ^ (nd M - 1 - d) % 8)) σ) : vX6_memberIn Q σ (nI C) (nI d) := by
  have h4 := hI.1.1
  unfold vX6_memberIn
  rw [hI.n, nsub1 (by omega), nsub (by omega), l3, pk_mul, shrN (by omega) (by omega), and7 (Nat.lt_of_le_of_lt (Nat.div_le_self _ _) (by omega)), Nat.pow_mul, show (2 : Nat) ^ 3 = 8 from rfl]
  exact h
theorem d_hasLevelT {Q : Int32 → St → Prop} {σ : St} {M : Mo} (hI : CI σ M) {d l : Nat} (hd : d < nd M) (hl : l ≤ tl M d) (h : Q 1 σ) : vX1_hasLevel (2 + 4 * d) Q σ (nI l) := by
  have ht := (hI.1.2.1 d hd).2
  unfold vX1_hasLevel
  rw [(hI.dm hd).1]
  refine ⟨fun a => ?_, fun a => ⟨fun b => ?_, fun b => h⟩⟩
  · have := i_lt.mp a; rw [c0, nT (by omega)] at this; omega
  · have := (ltI (by omega) (by omega)).mp b; omega
theorem d_hasLevelF {Q : Int32 → St → Prop} {σ : St} {M : Mo} (hI : CI σ M) {d : Nat} {x : Int32} (hd : d < nd M) (hx : x.toInt < 0 ∨ (tl M d : Int) < x.toInt) (h : Q 0 σ) : vX1_hasLevel (2 + 4 * d) Q σ x := by
  have ht := (hI.1.2.1 d hd).2
  unfold vX1_hasLevel
  rw [(hI.dm hd).1]
  refine ⟨fun a => h, fun a => ⟨fun b => h, fun b => ?_⟩⟩
  have a' : ¬ x.toInt < 0 := fun q => a (i_lt.mpr (by rw [c0]; exact q))
  have b' : ¬ (tl M d : Int) < x.toInt := fun q => b (i_lt.mpr (by rw [nT (by omega)]; exact q))
  omega
theorem n10 : ¬ (1 : Int32) = 0 := by decide
theorem d_widthOfT {Q : Int32 → St → Prop} {σ : St} {M : Mo} (hI : CI σ M) {d l : Nat} (hd : d < nd M) (hl : l ≤ tl M d) (h : Q (nI (wid M d l)) σ) : vX1_widthOf (2 + 4 * d) Q σ (nI l) := by
  have ht := (hI.1.2.1 d hd).2
  unfold vX1_widthOf
  refine d_hasLevelT hI hd hl ⟨fun a => absurd a n10, fun _ => ⟨vin (by omega) (by decide), ?_⟩⟩
  rw [nC (by omega), hI.wd hd hl]
  exact h
theorem d_widthOfF {Q : Int32 → St → Prop} {σ : St} {M : Mo} (hI : CI σ M) {d : Nat} {x : Int32} (hd : d < nd M) (hx : x.toInt < 0 ∨ (tl M d : Int) < x.toInt) (h : Q 0 σ) : vX1_widthOf (2 + 4 * d) Q σ x := by
  unfold vX1_widthOf
  exact d_hasLevelF hI hd hx ⟨fun _ => h, fun a => absurd rfl a⟩
theorem wid8 {M : Mo} (h : WF M) {d l : Nat} (hd : d < nd M) : wid M d l ≤ 8 := by
  unfold wid
  split
  · omega
  · split
    · omega
    · exact (h.2.2.1 d l hd (by omega)).2
theorem d_hasMemberT {Q : Int32 → St → Prop} {σ : St} {M : Mo} (hI : CI σ M) {d l m : Nat} (hd : d < nd M) (hl : l ≤ tl M d) (hm : m < wid M d l) (h : Q 1 σ) : vX1_hasMember (2 + 4 * d) Q σ (nI l) (nI m) := by
  have hw := wid8 hI.1 hd (l := l)
  unfold vX1_hasMember
  refine ⟨fun a => ?_, fun a => d_widthOfT hI hd hl ⟨fun b => ?_, fun b => h⟩⟩
  · have := i_lt.mp a; rw [c0, nT (by omega)] at this; omega
  · have := (leI (by omega) (by omega)).mp b; omega
theorem d_hasMemberF {Q : Int32 → St → Prop} {σ : St} {M : Mo} (hI : CI σ M) {d l : Nat} {x : Int32} (hd : d < nd M) (hl : l ≤ tl M d) (hx : x.toInt < 0 ∨ (wid M d l : Int) ≤ x.toInt) (h : Q 0 σ) : vX1_hasMember (2 + 4 * d) Q σ (nI l) x := by
  have hw := wid8 hI.1 hd (l := l)
  unfold vX1_hasMember
  refine ⟨fun a => h, fun a => d_widthOfT hI hd hl ⟨fun b => h, fun b => ?_⟩⟩
  have a' : ¬ x.toInt < 0 := fun q => a (i_lt.mpr (by rw [c0]; exact q))
  have b' : ¬ (wid M d l : Int) ≤ x.toInt := fun q => b (i_le.mpr (by rw [nT (by omega)]; exact q))
  omega
theorem d_hasMemberL {Q : Int32 → St → Prop} {σ : St} {M : Mo} (hI : CI σ M) {d : Nat} {x y : Int32} (hd : d < nd M) (hx : x.toInt < 0 ∨ (tl M d : Int) < x.toInt) (h : Q 0 σ) : vX1_hasMember (2 + 4 * d) Q σ x y := by
  unfold vX1_hasMember
  refine ⟨fun a => h, fun a => d_widthOfF hI hd hx ⟨fun b => h, fun b => ?_⟩⟩
  have a' : ¬ y.toInt < 0 := fun q => a (i_lt.mpr (by rw [c0]; exact q))
  exact absurd (i_le.mpr (by rw [c0]; omega)) b
theorem d_homeOf {Q : Int32 → St → Prop} {σ : St} {M : Mo} (hI : CI σ M) {d l m : Nat} (hd : d < nd M) (hl : l ≤ tl M d) (hm : m < mb M d 0) (h : Q (nI (liesM M d m l)) σ) : vX1_homeOf (2 + 4 * d) Q σ (nI m) (nI l) := by
  have ht := (hI.1.2.1 d hd)
  have hm8 := (hI.1.2.2.1 d 0 hd (by omega)).2
  unfold vX1_homeOf
  refine d_placeOf (by omega) (by omega) ⟨vin (by omega) (by decide), ?_⟩
  rw [nC (by omega), hI.hm hd hl hm]
  exact h
theorem d_findT {Q : Option Nat → St → Prop} {σ : St} {M : Mo} (hI : CI σ M) {d : Nat} (hd : d < nd M) (h : Q (some (2 + 4 * d)) σ) : vX6_find Q σ (nI d) := by
  have h4 := hI.1.1
  unfold vX6_find
  rw [hI.n, nC (by omega)]
  refine ⟨fun a => ?_, fun _ => ⟨fun _ => ⟨vin (by omega) (by decide), h⟩, fun b => ?_⟩⟩
  · have := i_lt.mp a; rw [c0, nT (by omega)] at this; omega
  · exact absurd ((ltI (by omega) (by omega)).mpr hd) b
theorem d_findF {Q : Option Nat → St → Prop} {σ : St} {M : Mo} (hI : CI σ M) {x : Int32} (hx : x.toInt < 0 ∨ (nd M : Int) ≤ x.toInt) (h : Q none σ) : vX6_find Q σ x := by
  have h4 := hI.1.1
  unfold vX6_find
  rw [hI.n]
  refine ⟨fun a => h, fun a => ⟨fun b => ?_, fun b => h⟩⟩
  have a' : ¬ x.toInt < 0 := fun q => a (i_lt.mpr (by rw [c0]; exact q))
  have b' := i_lt.mp b
  rw [nT (by omega)] at b'
  omega
theorem d_hasF {Q : Int32 → St → Prop} {σ : St} {M : Mo} (hI : CI σ M) {f : Nat} (hf : f < nf M) (h : Q 1 σ) : vX2_has Q σ (nI f) := by
  have h3 := hI.1.2.2.2.2.2.1
  unfold vX2_has
  rw [hI.f]
  refine ⟨fun a => ?_, fun _ => ⟨fun b => ?_, fun _ => h⟩⟩
  · have := i_lt.mp a; rw [c0, nT (by omega)] at this; omega
  · have := (leI (by omega) (by omega)).mp b; omega
theorem d_cellOf {Q : Int32 → St → Prop} {σ : St} {M : Mo} (hI : CI σ M) {f : Nat} (hf : f < nf M) (h : Q (nI (cod 8 (wh M f) (nd M))) σ) : vX2_cellOf Q σ (nI f) := by
  have h3 := hI.1.2.2.2.2.2.1
  unfold vX2_cellOf
  refine d_hasF hI hf ⟨fun a => absurd a n10, fun _ => ⟨vin (by omega) (by decide), ?_⟩⟩
  rw [nC (by omega), (hI.fa hf).1]
  exact h
theorem d_measureOf {Q : Int32 → St → Prop} {σ : St} {M : Mo} (hI : CI σ M) {f : Nat} (hf : f < nf M) (h : Q (ms M f) σ) : vX2_measureOf Q σ (nI f) := by
  have h3 := hI.1.2.2.2.2.2.1
  unfold vX2_measureOf
  refine d_hasF hI hf ⟨fun a => absurd a n10, fun _ => ⟨vin (by omega) (by decide), ?_⟩⟩
  rw [nC (by omega), (hI.fa hf).2.1]
  exact h
theorem d_isThere {Q : Int32 → St → Prop} {σ : St} {M : Mo} (hI : CI σ M) {f : Nat} (hf : f < nf M) (h : Q (b2i (th M f)) σ) : vX2_isThere Q σ (nI f) := by
  have h3 := hI.1.2.2.2.2.2.1
  unfold vX2_isThere
  refine d_hasF hI hf ⟨fun a => absurd a n10, fun _ => ⟨vin (by omega) (by decide), ?_⟩⟩
  rw [nC (by omega), (hI.fa hf).2.2]
  cases e : th M f with
  | true => rw [e] at h; exact ⟨fun _ => h, fun b => absurd rfl b⟩
  | false => rw [e] at h; exact ⟨fun b => absurd b n10, fun _ => h⟩

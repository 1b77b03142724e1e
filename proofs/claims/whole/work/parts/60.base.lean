/-! ===== numbers and stores ===== -/
theorem rd_wr (σ : St) (k j : Nat) (v : Int32) (a b : Nat) : rd (wr σ k j v) a b = if a = k ∧ b = j then v else rd σ a b := by
  unfold rd wr
  by_cases h : a = k
  · subst h
    by_cases hb : b = j
    · subst hb
      simp [upd]
    · simp [hb, upd]
  · simp [h]
theorem rd_wl (σ : St) (k j : Nat) (v : Int64) (a b : Nat) : rd (wl σ k j v) a b = rd σ a b := rfl
theorem rl_wr (σ : St) (k j : Nat) (v : Int32) (a b : Nat) : rl (wr σ k j v) a b = rl σ a b := rfl
theorem rl_wl (σ : St) (k j : Nat) (v : Int64) (a b : Nat) : rl (wl σ k j v) a b = if a = k ∧ b = j then v else rl σ a b := by
  unfold rl wl
  by_cases h : a = k
  · subst h
    by_cases hb : b = j
    · subst hb
      simp [vp_updL]
    · simp [hb, vp_updL]
  · simp [h]
theorem rd_ne {σ : St} {k j : Nat} {v : Int32} {a b : Nat} (h : a ≠ k) : rd (wr σ k j v) a b = rd σ a b := by rw [rd_wr, if_neg (fun q => h q.1)]
theorem rd_nej {σ : St} {k j : Nat} {v : Int32} {a b : Nat} (h : b ≠ j) : rd (wr σ k j v) a b = rd σ a b := by rw [rd_wr, if_neg (fun q => h q.2)]
theorem rd_eq {σ : St} {k j : Nat} {v : Int32} : rd (wr σ k j v) k j = v := by rw [rd_wr, if_pos ⟨rfl, rfl⟩]
theorem i_lt {x y : Int32} : x < y ↔ x.toInt < y.toInt := Int32.lt_iff_toInt_lt
theorem i_le {x y : Int32} : x ≤ y ↔ x.toInt ≤ y.toInt := Int32.le_iff_toInt_le
theorem i_eq {x y : Int32} : x = y ↔ x.toInt = y.toInt := ⟨fun h => by rw [h], fun h => Int32.toInt_inj.mp h⟩
theorem nT {n : Nat} (h : n < 2147483648) : (nI n).toInt = (n : Int) := nI_toInt (by omega)
theorem nC {n : Nat} (h : n < 2147483648) : (nI n).toNatClampNeg = n := nI_clamp (by omega)
theorem vin {i N : Nat} (h : i < N) (hN : N < 2147483648) : vp_in (nI i) N := vp_in_nI h (by omega)
/-- an int is a number below N, or it isn't -/
theorem inOr (x : Int32) (N : Nat) (hN : N < 2147483648) : (∃ j : Nat, j < N ∧ x = nI j) ∨ (x.toInt < 0 ∨ (N : Int) ≤ x.toInt) := by
  rcases pk_ix x (n := N) (by omega) with h | h | h
  · right; left
    have := i_lt.mp h
    have e : (0 : Int32).toInt = 0 := by decide
    omega
  · right; right
    have := i_le.mp h
    rw [nT hN] at this
    exact this
  · left; exact h
theorem c0 : (0 : Int32).toInt = 0 := by decide
theorem c1 : (1 : Int32).toInt = 1 := by decide
theorem nsub {a b : Nat} (h : b ≤ a) : nI a - nI b = nI (a - b) := pk_sub h
theorem l0 : (0 : Int32) = nI 0 := rfl
theorem l1 : (1 : Int32) = nI 1 := rfl
theorem l2 : (2 : Int32) = nI 2 := rfl
theorem l3 : (3 : Int32) = nI 3 := rfl
theorem l4 : (4 : Int32) = nI 4 := rfl
theorem l6 : (6 : Int32) = nI 6 := rfl
theorem l7 : (7 : Int32) = nI 7 := rfl
theorem l8 : (8 : Int32) = nI 8 := rfl
theorem l9 : (9 : Int32) = nI 9 := rfl
theorem l10 : (10 : Int32) = nI 10 := rfl
theorem l15 : (15 : Int32) = nI 15 := rfl
theorem l24 : (24 : Int32) = nI 24 := rfl
theorem l64 : (64 : Int32) = nI 64 := rfl
theorem l256 : (256 : Int32) = nI 256 := rfl
theorem l300 : (300 : Int32) = nI 300 := rfl
theorem l10000 : (10000 : Int32) = nI 10000 := rfl
theorem nsucc (n : Nat) : nI n + 1 = nI (n + 1) := nI_1 n
theorem npred {n : Nat} (h : 0 < n) : nI n + (-1) = nI (n - 1) := sb_m1 h
theorem nsub1 {n : Nat} (h : 0 < n) : nI n - 1 = nI (n - 1) := by rw [l1]; exact nsub h
/-- truth as an int -/
def b2i (b : Bool) : Int32 := if b then 1 else 0
theorem b2i_t : b2i true = 1 := rfl
theorem b2i_f : b2i false = 0 := rfl
theorem b2i_0 {b : Bool} : b2i b = 0 ↔ b = false := by cases b <;> decide
theorem nar1 : vp_nar .boolean 1 = 1 := by decide +kernel
theorem nar0 : vp_nar .boolean 0 = 0 := by decide +kernel
theorem narb (b : Bool) : vp_nar .boolean (b2i b) = b2i b := by cases b <;> decide +kernel
theorem zb1 : zb 1 := by unfold zb; decide +kernel
theorem zb0 : zb 0 := by unfold zb; decide +kernel
theorem zbb (b : Bool) : zb (b2i b) := by cases b; exact zb0; exact zb1
/-! ===== the state that both sides hold ===== -/
abbrev Mo : Type := (Nat × (Nat → Nat) × (Nat → Nat → Nat) × (Nat → Nat → Nat → Nat)) × (Nat × (Nat → Nat → Nat) × (Nat → Int32) × (Nat → Bool)) × ((Nat → Nat) × (Nat → Nat) × (Nat → Nat)) × (Nat → Bool) × Int32 × (Nat × (Nat → Nat))
def nd (M : Mo) : Nat := M.1.1
def tl (M : Mo) : Nat → Nat := M.1.2.1
def mb (M : Mo) : Nat → Nat → Nat := M.1.2.2.1
def pa (M : Mo) : Nat → Nat → Nat → Nat := M.1.2.2.2
def nf (M : Mo) : Nat := M.2.1.1
def wh (M : Mo) : Nat → Nat → Nat := M.2.1.2.1
def ms (M : Mo) : Nat → Int32 := M.2.1.2.2.1
def th (M : Mo) : Nat → Bool := M.2.1.2.2.2
def pk (M : Mo) : Nat → Nat := M.2.2.1.1
def fl (M : Mo) : Nat → Nat := M.2.2.1.2.1
def fm (M : Mo) : Nat → Nat := M.2.2.1.2.2
def kp (M : Mo) : Nat → Bool := M.2.2.2.1
def re (M : Mo) : Int32 := M.2.2.2.2.1
def ol (M : Mo) : Nat := M.2.2.2.2.2.1
def ou (M : Mo) : Nat → Nat := M.2.2.2.2.2.2
/-- how many members a level has; 0 where there is no such level -/
def wid (M : Mo) (d l : Nat) : Nat := if tl M d < l then 0 else if l = tl M d then 1 else mb M d l
/-- up from a member, by parents -/
def upM (p : Nat → Nat → Nat) (m : Nat) : Nat → Nat
  | 0 => m
  | l + 1 => p l (upM p m l)
def liesM (M : Mo) (d m l : Nat) : Nat := if l = tl M d then 0 else upM (pa M d) m l
/-- a product of f from d on, k factors -/
def prodF (f : Nat → Nat) (d : Nat) : Nat → Nat
  | 0 => 1
  | k + 1 => prodF f d k * f (d + k)
def tot (M : Mo) : Nat := prodF (fun d => tl M d + 1) 0 (nd M)
/-- the level of cuboid c in dimension d -/
def levM (M : Mo) (c d : Nat) : Nat := c / prodF (fun d => tl M d + 1) (d + 1) (nd M - 1 - d) % (tl M d + 1)
/-- what fact f lies in, in cuboid c -/
def grpM (M : Mo) (c f d : Nat) : Nat := liesM M d (wh M f d) (levM M c d)
/-- how many of the first n numbers have p -/
def cntF (p : Nat → Bool) : Nat → Nat
  | 0 => 0
  | n + 1 => cntF p n + (if p n then 1 else 0)
/-- a fact that is there and whose group no earlier one has -/
def newG (M : Mo) (c f : Nat) : Bool := th M f && (List.range f).all (fun g => !(th M g && (List.range (nd M)).all (fun d => grpM M c g d == grpM M c f d)))
def szM (M : Mo) (c : Nat) : Nat := cntF (newG M c) (nf M)
def srvM (M : Mo) (c w : Nat) : Bool := (List.range (nd M)).all (fun d => decide (levM M c d ≤ levM M w d))
def WF (M : Mo) : Prop := nd M ≤ 4 ∧ (∀ d, d < nd M → 1 ≤ tl M d ∧ tl M d ≤ 3) ∧ (∀ d l, d < nd M → l < tl M d → 1 ≤ mb M d l ∧ mb M d l ≤ 8) ∧
  (∀ d l m, d < nd M → l + 1 < tl M d → pa M d l m < mb M d (l + 1)) ∧ (∀ d l m, (nd M ≤ d ∨ tl M d ≤ l + 1) → pa M d l m = 0) ∧
  nf M ≤ 300 ∧ (∀ f d, f < nf M → d < nd M → wh M f d < mb M d 0) ∧ (∀ f, f < nf M → -1000 ≤ (ms M f).toInt ∧ (ms M f).toInt ≤ 1000) ∧
  (∀ d, d < 4 → pk M d < 8) ∧ (∀ d, d < nd M → fl M d ≤ tl M d ∧ fm M d < wid M d (fl M d)) ∧ kp M 0 = true ∧ ol M ≤ 648 ∧ (∀ i, i < ol M → ou M i < 128)
/-- the reference's store holds M -/
def RI (τ : St) (M : Mo) : Prop := WF M ∧ rd τ 0 1 = nI (nd M) ∧ rd τ 0 5 = nI (nf M) ∧ rd τ 0 13 = re M ∧ rd τ 0 15 = nI (ol M) ∧
  (∀ d, d < nd M → rd τ 1 d = nI (tl M d) ∧ rd τ 8 d = nI (fl M d) ∧ rd τ 9 d = nI (fm M d)) ∧ (∀ d, d < 4 → rd τ 7 d = nI (pk M d)) ∧
  (∀ d l, d < nd M → l < tl M d → rd τ 2 (3 * d + l) = nI (mb M d l)) ∧ (∀ d l m, d < 4 → l < 3 → m < 8 → rd τ 3 (24 * d + 8 * l + m) = nI (pa M d l m)) ∧
  (∀ f d, f < nf M → d < nd M → rd τ 4 (4 * f + d) = nI (wh M f d)) ∧ (∀ f, f < nf M → rd τ 5 f = ms M f ∧ rd τ 6 f = b2i (th M f)) ∧
  (∀ c, c < 256 → rd τ 10 c = b2i (kp M c)) ∧ (∀ i, i < ol M → rd τ 11 i = nI (ou M i))
/-- the same state: only what is worked out on the way may differ (the reference) -/
def sameR (τ τ' : St) : Prop := (∀ k j, k < 12 → k ≠ 0 → rd τ' k j = rd τ k j) ∧ (∀ j, j ≠ 0 → j < 21 → rd τ' 0 j = rd τ 0 j)
theorem RI.same {τ τ' : St} {M : Mo} (h : RI τ M) (hs : sameR τ τ') : RI τ' M := by
  obtain ⟨h0, h1, h2, h3, h4, h5, h6, h7, h8, h9, h10, h11, h12⟩ := h
  obtain ⟨s1, s2⟩ := hs
  refine ⟨h0, ?_, ?_, ?_, ?_, ?_, ?_, ?_, ?_, ?_, ?_, ?_, ?_⟩
  · rw [s2 1 (by decide) (by decide)]; exact h1
  · rw [s2 5 (by decide) (by decide)]; exact h2
  · rw [s2 13 (by decide) (by decide)]; exact h3
  · rw [s2 15 (by decide) (by decide)]; exact h4
  · intro d hd
    rw [s1 1 d (by decide) (by decide), s1 8 d (by decide) (by decide), s1 9 d (by decide) (by decide)]; exact h5 d hd
  · intro d hd; rw [s1 7 d (by decide) (by decide)]; exact h6 d hd
  · intro d l hd hl; rw [s1 2 _ (by decide) (by decide)]; exact h7 d l hd hl
  · intro d l m hd hl hm; rw [s1 3 _ (by decide) (by decide)]; exact h8 d l m hd hl hm
  · intro f d hf hd; rw [s1 4 _ (by decide) (by decide)]; exact h9 f d hf hd
  · intro f hf; rw [s1 5 _ (by decide) (by decide), s1 6 _ (by decide) (by decide)]; exact h10 f hf
  · intro c hc; rw [s1 10 _ (by decide) (by decide)]; exact h11 c hc
  · intro i hi; rw [s1 11 _ (by decide) (by decide)]; exact h12 i hi
theorem sameR.rf {τ : St} : sameR τ τ := ⟨fun _ _ _ _ => rfl, fun _ _ _ => rfl⟩
theorem sameR.tr {a b c : St} (h : sameR a b) (g : sameR b c) : sameR a c := ⟨fun k j h1 h2 => (g.1 k j h1 h2).trans (h.1 k j h1 h2), fun j h1 h2 => (g.2 j h1 h2).trans (h.2 j h1 h2)⟩
theorem sameR.wr0 {τ : St} {v : Int32} : sameR τ (wr τ 0 0 v) := ⟨fun k j _ h => rd_ne h, fun j h _ => rd_nej h⟩
theorem sameR.wrS {τ : St} {k j : Nat} {v : Int32} (hk : 12 ≤ k) : sameR τ (wr τ k j v) := ⟨fun a b h _ => rd_ne (by omega), fun b _ _ => rd_ne (by omega)⟩
theorem sameR.wrV {τ : St} {j : Nat} {v : Int32} (hj : 21 ≤ j) : sameR τ (wr τ 0 j v) := ⟨fun a b _ h => rd_ne h, fun b _ h => rd_nej (by omega)⟩

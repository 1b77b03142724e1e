/-! ===== values of facts: ask, total ===== -/
abbrev Va : Type := Nat × Int32 × Int32 × Int32
def addV (v : Va) (x : Int32) : Va := (v.1 + 1, v.2.1 + x, (if v.1 = 0 then x else if v.2.2.1 ≤ x then v.2.2.1 else x), (if v.1 = 0 then x else if x ≤ v.2.2.2 then v.2.2.2 else x))
/-- count, sum, least, greatest of the measures of those of the first n that have p -/
def vals (p : Nat → Bool) (m : Nat → Int32) : Nat → Va
  | 0 => (0, 0, 0, 0)
  | n + 1 => if p n then addV (vals p m n) (m n) else vals p m n
theorem vals_t {p : Nat → Bool} {m : Nat → Int32} {n : Nat} (h : p n = true) : vals p m (n + 1) = addV (vals p m n) (m n) := by simp only [vals, h, if_true]
theorem vals_f {p : Nat → Bool} {m : Nat → Int32} {n : Nat} (h : p n = false) : vals p m (n + 1) = vals p m n := by simp [vals, h]
theorem vals_le {p : Nat → Bool} {m : Nat → Int32} : ∀ n, (vals p m n).1 ≤ n
  | 0 => Nat.le_refl _
  | n + 1 => by
    have := vals_le (p := p) (m := m) n
    cases h : p n with
    | true => rw [vals_t h]; show _ + 1 ≤ _; omega
    | false => rw [vals_f h]; omega
theorem vals_0 {p : Nat → Bool} {m : Nat → Int32} : ∀ n, (vals p m n).1 = 0 → vals p m n = (0, 0, 0, 0)
  | 0, _ => rfl
  | n + 1, q => by
    cases h : p n with
    | true => rw [vals_t h] at q; exact absurd q (Nat.succ_ne_zero _)
    | false => rw [vals_f h] at q ⊢; exact vals_0 n q
def vV (v : Va) (y : Nat) : Int32 := if y = 0 then nI v.1 else if y = 1 then v.2.1 else if y = 2 then v.2.2.1 else v.2.2.2
/-! the reference's value in hand -/
def vAt (τ : St) (v : Va) : Prop := rd τ 0 21 = nI v.1 ∧ rd τ 0 22 = v.2.1 ∧ rd τ 0 23 = v.2.2.1 ∧ rd τ 0 24 = v.2.2.2
def FrV (σ τ : St) : Prop := ∀ k j, ¬ (k = 0 ∧ 21 ≤ j) → rd τ k j = rd σ k j
theorem FrV.rf {σ : St} : FrV σ σ := fun _ _ _ => rfl
theorem FrV.tr {a b c : St} (h : FrV a b) (g : FrV b c) : FrV a c := fun k j q => (g k j q).trans (h k j q)
theorem FrV.w {σ τ : St} (h : FrV σ τ) {j : Nat} {x : Int32} (hj : 21 ≤ j) : FrV σ (wr τ 0 j x) := fun k i q => by
  rw [rd_wr, if_neg (fun z => q ⟨z.1, by omega⟩)]; exact h k i q
theorem FrV.R {σ τ : St} (h : FrV σ τ) : sameR σ τ := ⟨fun k j _ hk => h k j (fun q => hk q.1), fun j _ hj => h 0 j (fun q => by omega)⟩
theorem k9_begin {Q : St → Prop} {σ : St} (hQ : ∀ τ, FrV σ τ → vAt τ (0, 0, 0, 0) → Q τ) : vX9_begin Q σ := by
  unfold vX9_begin
  refine hQ _ ((((FrV.rf.w (by decide)).w (by decide)).w (by decide)).w (by decide)) ⟨?_, ?_, ?_, ?_⟩
  · rw [rd_nej (by decide), rd_nej (by decide), rd_nej (by decide), rd_eq]; rfl
  · rw [rd_nej (by decide), rd_nej (by decide), rd_eq]
  · rw [rd_nej (by decide), rd_eq]
  · rw [rd_eq]
theorem k9_addfin {Q : St → Prop} {σ : St} {v : Va} {x l g : Int32} (h1 : rd σ 0 21 = nI v.1) (h2 : rd σ 0 22 = v.2.1) (hQ : ∀ τ, FrV σ τ → vAt τ (v.1 + 1, v.2.1 + x, l, g) → Q τ) :
    Q (wr (wr (wr (wr σ 0 23 l) 0 24 g) 0 21 ((rd (wr (wr σ 0 23 l) 0 24 g) 0 21) + 1)) 0 22 ((rd (wr (wr (wr σ 0 23 l) 0 24 g) 0 21 ((rd (wr (wr σ 0 23 l) 0 24 g) 0 21) + 1)) 0 22) + x)) := by
  refine hQ _ ((((FrV.rf.w (by decide)).w (by decide)).w (by decide)).w (by decide)) ⟨?_, ?_, ?_, ?_⟩
  · rw [rd_nej (by decide), rd_eq, rd_nej (by decide), rd_nej (by decide), h1, nsucc]
  · rw [rd_eq, rd_nej (by decide), rd_nej (by decide), rd_nej (by decide), h2]
  · rw [rd_nej (by decide), rd_nej (by decide), rd_nej (by decide), rd_eq]
  · rw [rd_nej (by decide), rd_nej (by decide), rd_eq]
theorem k9_add {Q : St → Prop} {σ : St} {v : Va} {f : Nat} {x : Int32} (hf : f < 300) (hm : rd σ 5 f = x) (hv : vAt σ v) (hb : v.1 < 1000) (hQ : ∀ τ, FrV σ τ → vAt τ (addV v x) → Q τ) : vX9_add Q σ (nI f) := by
  obtain ⟨v1, v2, v3, v4⟩ := hv
  unfold vX9_add
  rw [nC (by omega), hm, v1, v3]
  have J : ∀ l, (v.1 = 0 → l = x) → (¬ v.1 = 0 → l = if v.2.2.1 ≤ x then v.2.2.1 else x) → vX9_add_J31 Q σ x l := fun l e1 e2 => by
    unfold vX9_add_J31 vX9_add_J50
    have g21 : rd (wr σ 0 23 l) 0 21 = nI v.1 := by rw [rd_nej (by decide), v1]
    have g24 : rd (wr σ 0 23 l) 0 24 = v.2.2.2 := by rw [rd_nej (by decide), v4]
    rw [g21, g24]
    have el : l = if v.1 = 0 then x else if v.2.2.1 ≤ x then v.2.2.1 else x := by
      by_cases q : v.1 = 0
      · rw [if_pos q]; exact e1 q
      · rw [if_neg q]; exact e2 q
    refine ⟨fun a => ?_, fun a => ⟨fun b => ?_, fun b => ?_⟩⟩
    · have q : v.1 = 0 := (eqI (a := v.1) (b := 0) (by omega) (by omega)).mp a
      refine k9_addfin v1 v2 (fun τ F h => hQ τ F ?_)
      unfold addV; rw [← el, if_pos q]; exact h
    · have q : ¬ v.1 = 0 := fun z => a (by rw [z]; rfl)
      refine k9_addfin v1 v2 (fun τ F h => hQ τ F ?_)
      unfold addV; rw [← el, if_neg q, if_pos b]; exact h
    · have q : ¬ v.1 = 0 := fun z => a (by rw [z]; rfl)
      refine k9_addfin v1 v2 (fun τ F h => hQ τ F ?_)
      unfold addV; rw [← el, if_neg q, if_neg b]; exact h
  refine ⟨vin hf (by decide), fun a => J x (fun _ => rfl) (fun q => ?_), fun a => ⟨fun b => J _ (fun q => ?_) (fun _ => by rw [if_pos b]), fun b => J _ (fun _ => rfl) (fun _ => by rw [if_neg b])⟩⟩
  · exact absurd ((eqI (a := v.1) (b := 0) (by omega) (by omega)).mp a) q
  · exact absurd (by rw [q]; rfl) a
theorem y_ne {y k : Nat} (hy : y < 4) (hk : k < 4) (h : ¬ y = k) : ¬ nI y = nI k := fun q => h ((eqI (by omega) (by omega)).mp q)
theorem k9_value {Q : Int32 → St → Prop} {σ : St} {v : Va} {y : Nat} (hy : y < 4) (hv : vAt σ v) (hQ : Q (vV v y) σ) : vX9_value Q σ (nI y) := by
  obtain ⟨v1, v2, v3, v4⟩ := hv
  unfold vX9_value
  rw [v1, v2, v3, v4]
  unfold vV at hQ
  refine ⟨fun a => ?_, fun a => ⟨fun b => ?_, fun b => ⟨fun c => ?_, fun c => ?_⟩⟩⟩
  · rw [if_pos ((eqI (a := y) (b := 0) (by omega) (by omega)).mp a)] at hQ; exact hQ
  · rw [if_neg (fun q => a (by rw [q]; rfl)), if_pos ((eqI (a := y) (b := 1) (by omega) (by omega)).mp b)] at hQ; exact hQ
  · rw [if_neg (fun q => a (by rw [q]; rfl)), if_neg (fun q => b (by rw [q]; rfl)), if_pos ((eqI (a := y) (b := 2) (by omega) (by omega)).mp c)] at hQ; exact hQ
  · rw [if_neg (fun q => a (by rw [q]; rfl)), if_neg (fun q => b (by rw [q]; rfl)), if_neg (fun q => c (by rw [q]; rfl))] at hQ; exact hQ
/-! the desk's tallies -/
def tAt (τ : St) (p : Nat) (v : Va) : Prop := rd τ 41 p = nI v.1 ∧ (¬ v.1 = 0 → rd τ 42 p = v.2.1 ∧ rd τ 43 p = v.2.2.1 ∧ rd τ 44 p = v.2.2.2)
def FrT (p : Nat) (σ τ : St) : Prop := ∀ k j, ¬ (41 ≤ k ∧ k ≤ 44 ∧ j = p) → rd τ k j = rd σ k j
theorem FrT.rf {p : Nat} {σ : St} : FrT p σ σ := fun _ _ _ => rfl
theorem FrT.w {p : Nat} {σ τ : St} (h : FrT p σ τ) {k : Nat} {x : Int32} (h1 : 41 ≤ k) (h2 : k ≤ 44) : FrT p σ (wr τ k p x) := fun a b q => by
  rw [rd_wr, if_neg (fun z => q ⟨by omega, by omega, z.2⟩)]; exact h a b q
theorem d_isPlace {Q : Int32 → St → Prop} {σ : St} {p : Nat} (hp : p < 81) (h : Q 1 σ) : vX7_isPlace Q σ (nI p) := by
  unfold vX7_isPlace
  refine ⟨fun a => ?_, fun _ => ⟨fun a => ?_, fun _ => h⟩⟩
  · have := i_lt.mp a; rw [c0, nT (by omega)] at this; omega
  · have := (leI (a := 81) (b := p) (by omega) (by omega)).mp a; omega
theorem d_tadd {Q : St → Prop} {σ : St} {p : Nat} {v : Va} {x : Int32} (hp : p < 81) (ht : tAt σ p v) (hb : v.1 < 1000) (h0 : v.1 = 0 → v.2.1 = 0) (hQ : ∀ τ, FrT p σ τ → tAt τ p (addV v x) → Q τ) : vX7_add Q σ (nI p) x := by
  have hv : vp_in (nI p) 81 := vin hp (by decide)
  obtain ⟨t1, t2⟩ := ht
  unfold vX7_add
  refine d_isPlace hp ⟨fun a => absurd a n10, fun _ => ⟨hv, ?_⟩⟩
  unfold vX7_add_J22 vX7_add_J78
  rw [nC (by omega), t1]
  have F : ∀ (s l g : Int32), FrT p σ (wr (wr (wr (wr σ 41 p (nI v.1 + 1)) 42 p s) 43 p l) 44 p g) := fun s l g => (((FrT.rf.w (by decide) (by decide)).w (by decide) (by decide)).w (by decide) (by decide)).w (by decide) (by decide)
  have T : ∀ (s l g : Int32), s = v.2.1 + x → l = (if v.1 = 0 then x else if v.2.2.1 ≤ x then v.2.2.1 else x) → g = (if v.1 = 0 then x else if x ≤ v.2.2.2 then v.2.2.2 else x) → tAt (wr (wr (wr (wr σ 41 p (nI v.1 + 1)) 42 p s) 43 p l) 44 p g) p (addV v x) := fun s l g e1 e2 e3 => by
    refine ⟨?_, fun _ => ⟨?_, ?_, ?_⟩⟩
    · rw [rd_ne (by decide), rd_ne (by decide), rd_ne (by decide), rd_eq, nsucc]; rfl
    · rw [rd_ne (by decide), rd_ne (by decide), rd_eq]; exact e1
    · rw [rd_ne (by decide), rd_eq]; exact e2
    · rw [rd_eq]; exact e3
  refine ⟨fun a => ⟨hv, hv, fun b => absurd b n10, fun _ => ⟨hv, fun b => absurd b n10, fun _ => ⟨hv, fun b => absurd b n10, fun _ => ⟨hv, ?_⟩⟩⟩⟩, fun a => ⟨hv, hv, fun _ => ⟨hv, hv, fun _ => ⟨hv, hv, fun _ => ⟨hv, hv, ?_⟩, fun b => absurd rfl b⟩, fun b => absurd rfl b⟩, fun b => absurd rfl b⟩⟩
  · have q : v.1 = 0 := (eqI (a := v.1) (b := 0) (by omega) (by omega)).mp a
    refine hQ _ (F _ _ _) (T _ _ _ ?_ ?_ ?_)
    · rw [h0 q, Int32.zero_add]
    · rw [if_pos q]
    · rw [if_pos q]
  · have q : ¬ v.1 = 0 := fun z => a (by rw [z]; rfl)
    obtain ⟨u1, u2, u3⟩ := t2 q
    have g43 : ∀ s, rd (wr (wr σ 41 p (nI v.1 + 1)) 42 p s) 43 p = v.2.2.1 := fun s => by rw [rd_ne (by decide), rd_ne (by decide), u2]
    have g44 : ∀ s l, rd (wr (wr (wr σ 41 p (nI v.1 + 1)) 42 p s) 43 p l) 44 p = v.2.2.2 := fun s l => by rw [rd_ne (by decide), rd_ne (by decide), rd_ne (by decide), u3]
    rw [g44, g43]
    refine hQ _ (F _ _ _) (T _ _ _ ?_ ?_ ?_)
    · rw [rd_ne (by decide), u1]
    · rw [if_neg q]
      by_cases z : x < v.2.2.1
      · rw [if_pos z, if_neg (fun w => by have := i_lt.mp z; have := i_le.mp w; omega)]
      · rw [if_neg z, if_pos (i_le.mpr (by have : ¬ x.toInt < v.2.2.1.toInt := fun w => z (i_lt.mpr w); omega))]
    · rw [if_neg q]
      by_cases z : v.2.2.2 < x
      · rw [if_pos z, if_neg (fun w => by have := i_lt.mp z; have := i_le.mp w; omega)]
      · rw [if_neg z, if_pos (i_le.mpr (by have : ¬ v.2.2.2.toInt < x.toInt := fun w => z (i_lt.mpr w); omega))]
theorem isI41 : isI 49 41 := ⟨rfl, by decide⟩
theorem d_tclear {Q : St → Prop} {σ : St} (hQ : ∀ τ, (∀ k j, k ≠ 41 → rd τ k j = rd σ k j) → (∀ j, j < 81 → rd τ 41 j = 0) → Q τ) : vX7_clear Q σ := by
  unfold vX7_clear
  exact d_fill isI41 (fun τ h1 h2 => hQ τ h1 (fun j hj => h2 j hj))
theorem d_isEmpty {Q : Int32 → St → Prop} {σ : St} {p : Nat} {v : Va} (hp : p < 81) (hb : v.1 < 1000) (ht : tAt σ p v) (hQ : Q (b2i (v.1 == 0)) σ) : vX7_isEmpty Q σ (nI p) := by
  unfold vX7_isEmpty
  refine d_isPlace hp ⟨fun a => absurd a n10, fun _ => ⟨vin hp (by decide), ?_⟩⟩
  rw [nC (by omega), ht.1]
  refine ⟨fun a => ?_, fun a => ?_⟩
  · have q : v.1 = 0 := (eqI (a := v.1) (b := 0) (by omega) (by omega)).mp a
    rw [q] at hQ; exact hQ
  · have q : ¬ v.1 = 0 := fun z => a (by rw [z]; rfl)
    rw [show (v.1 == 0) = false by simpa using q] at hQ; exact hQ
theorem d_valueOf {Q : Int32 → St → Prop} {σ : St} {p y : Nat} {v : Va} (hp : p < 81) (hy : y < 4) (h1 : ¬ v.1 = 0) (ht : tAt σ p v) (hQ : Q (vV v y) σ) : vX7_valueOf Q σ (nI p) (nI y) := by
  obtain ⟨u1, u2, u3⟩ := ht.2 h1
  have hv : vp_in (nI p) 81 := vin hp (by decide)
  unfold vX7_valueOf
  refine d_isPlace hp ⟨fun a => absurd a n10, fun _ => ?_⟩
  rw [nC (by omega), ht.1, u1, u2, u3]
  unfold vV at hQ
  refine ⟨fun a => ⟨hv, ?_⟩, fun a => ⟨fun b => ⟨hv, ?_⟩, fun b => ⟨fun c => ⟨hv, ?_⟩, fun c => ⟨hv, ?_⟩⟩⟩⟩
  · rw [if_pos ((eqI (a := y) (b := 0) (by omega) (by omega)).mp a)] at hQ; exact hQ
  · rw [if_neg (fun q => a (by rw [q]; rfl)), if_pos ((eqI (a := y) (b := 1) (by omega) (by omega)).mp b)] at hQ; exact hQ
  · rw [if_neg (fun q => a (by rw [q]; rfl)), if_neg (fun q => b (by rw [q]; rfl)), if_pos ((eqI (a := y) (b := 2) (by omega) (by omega)).mp c)] at hQ; exact hQ
  · rw [if_neg (fun q => a (by rw [q]; rfl)), if_neg (fun q => b (by rw [q]; rfl)), if_neg (fun q => c (by rw [q]; rfl))] at hQ; exact hQ
/-! which facts are asked for -/
def inGr (M : Mo) (c f : Nat) : Bool := th M f && (List.range (nd M)).all (fun d => grpM M c f d == pk M d)
def insi (M : Mo) (f : Nat) : Bool := th M f && (List.range (nd M)).all (fun d => liesM M d (wh M f d) (fl M d) == fm M d)
theorem all_no {p : Nat → Bool} {n i : Nat} (hi : i < n) (h : p i = false) : (List.range n).all p = false := by
  cases e : (List.range n).all p with
  | false => rfl
  | true => rw [List.all_eq_true] at e; rw [e i (List.mem_range.mpr hi)] at h; exact absurd h (by decide)
theorem fl8 {M : Mo} (h : WF M) {d : Nat} (hd : d < nd M) : fm M d < 8 := by
  have := (h.2.2.2.2.2.2.2.2.2.1 d hd).2
  have := wid8 h hd (l := fl M d)
  omega
theorem d_passes {Q : Int32 → St → Prop} {σ : St} {M : Mo} (hI : CI σ M) {f : Nat} (hf : f < nf M) (hQ : Q (b2i ((List.range (nd M)).all (fun d => liesM M d (wh M f d) (fl M d) == fm M d))) σ) : vX6_passes Q σ (nI (cod 8 (wh M f) (nd M))) := by
  have h4 := hI.1.1
  have key : ∀ q i, i ≤ nd M → nd M - i < q → (List.range i).all (fun d => liesM M d (wh M f d) (fl M d) == fm M d) = true → vX6_passes_L2 Q q σ (nI (cod 8 (wh M f) (nd M))) (nI i) := by
    intro q
    induction q with
    | zero => intro i _ h; omega
    | succ q ih =>
      intro i hi hq hok
      simp only [vX6_passes_L2]
      rw [hI.n]
      refine ⟨fun a => ?_, fun a => ?_⟩
      · have e : i = nd M := by
          have : nd M ≤ i := (leI (by omega) (by omega)).mp a
          omega
        rw [e] at hok
        rw [hok] at hQ; exact hQ
      · have hlt : i < nd M := lt_of_nle (by omega) (by omega) a
        have hfl := (hI.1.2.2.2.2.2.2.2.2.2.1 i hlt).1
        refine ⟨vin (by omega) (by decide), d_memberIn hI (cell_lt hI.1 hf) hlt ?_⟩
        rw [cod8_digit (nd M) i (fun e he => wh8 hI.1 hf he) hlt, nC (by omega)]
        refine ⟨dimk_of (by omega), ?_⟩
        unfold vX1_passes
        rw [(hI.dm hlt).2.1]
        have hwm := hI.1.2.2.2.2.2.2.1 f i hf hlt
        have hl8 := lies_lt hI.1 hlt hwm hfl
        have hf8 := fl8 hI.1 hlt
        refine d_homeOf hI hlt hfl hwm ?_
        rw [(hI.dm hlt).2.2, nsucc]
        refine ⟨fun b => ⟨fun z => absurd z n10, fun _ => ?_⟩, fun b => ⟨fun _ => ?_, fun z => absurd rfl z⟩⟩
        · have e := (eqI (by omega) (by omega)).mp b
          exact ih (i + 1) (by omega) (by omega) (by rw [all_range_succ, hok, e]; simp)
        · have e : ¬ liesM M i (wh M f i) (fl M i) = fm M i := fun z => b (by rw [z])
          rw [all_no hlt (by simpa using e)] at hQ
          exact hQ
  exact ⟨nd M + 1, key (nd M + 1) 0 (by omega) (by omega) rfl⟩
theorem d_insight {Q : Int32 → St → Prop} {σ : St} {M : Mo} (hI : CI σ M) {f : Nat} (hf : f < nf M) (hQ : Q (b2i (insi M f)) σ) : vX8_isInSight Q σ (nI f) := by
  unfold vX8_isInSight
  refine d_isThere hI hf ⟨fun a => ?_, fun a => d_cellOf hI hf (d_passes hI hf ?_)⟩
  · unfold insi at hQ; rw [b2i_0.mp a] at hQ; exact hQ
  · unfold insi at hQ; rw [b2i_n0 a, Bool.true_and] at hQ; exact tb hQ
theorem k9_passes {Q : Int32 → St → Prop} {σ : St} {M : Mo} (hI : RI σ M) {f : Nat} (hf : f < nf M) (hQ : Q (b2i (insi M f)) σ) : vX9_passes Q σ (nI f) := by
  have h4 := hI.1.1
  have h3 := hI.1.2.2.2.2.2.1
  have key : ∀ q i b, i ≤ nd M → nd M - i < q → b = (th M f && (List.range i).all (fun d => liesM M d (wh M f d) (fl M d) == fm M d)) → vX9_passes_L9 Q q σ (nI f) (b2i b) (nI i) := by
    intro q
    induction q with
    | zero => intro i b _ h; omega
    | succ q ih =>
      intro i b hi hq hok
      simp only [vX9_passes_L9]
      rw [hI.2.1]
      refine ⟨fun a => ?_, fun a => ⟨fun z => ?_, fun z => ?_⟩⟩
      · have e : i = nd M := by
          have : nd M ≤ i := (leI (by omega) (by omega)).mp a
          omega
        rw [e] at hok
        rw [hok]; exact ⟨zbb _, hQ⟩
      · have hlt : i < nd M := lt_of_nle (by omega) (by omega) a
        have hb := b2i_0.mp z
        rw [hb] at hok ⊢
        have : insi M f = false := by
          unfold insi
          cases e : th M f with
          | false => rfl
          | true =>
            rw [e, Bool.true_and] at hok
            rw [Bool.true_and]
            cases e2 : (List.range (nd M)).all (fun d => liesM M d (wh M f d) (fl M d) == fm M d) with
            | false => rfl
            | true =>
              rw [List.all_eq_true] at e2
              have : (List.range i).all (fun d => liesM M d (wh M f d) (fl M d) == fm M d) = true := List.all_eq_true.mpr (fun d hd => e2 d (List.mem_range.mpr (by have := List.mem_range.mp hd; omega)))
              rw [this] at hok; exact absurd hok (by decide)
        rw [this] at hQ
        exact ⟨zb0, hQ⟩
      · have hlt : i < nd M := lt_of_nle (by omega) (by omega) a
        have hb := b2i_n0 z
        rw [hb] at hok
        have hfl := (hI.1.2.2.2.2.2.2.2.2.2.1 i hlt).1
        have hwm := hI.1.2.2.2.2.2.2.1 f i hf hlt
        have hl8 := lies_lt hI.1 hlt hwm hfl
        have hf8 := fl8 hI.1 hlt
        rw [l4, pk_mul, nI_add, nC (show 4 * f + i < 2147483648 by omega), nC (show i < 2147483648 by omega), hI.2.2.2.2.2.2.2.2.2.1 f i hf hlt, (hI.2.2.2.2.2.1 i hlt).2.1]
        refine ⟨vin (by omega) (by decide), vin (by omega) (by decide), k9_liesIn hI hlt hwm hfl ?_⟩
        rw [(hI.2.2.2.2.2.1 i hlt).2.2, nsucc]
        refine ⟨vin (by omega) (by decide), fun y => ?_, fun y => ?_⟩
        · have e := (eqI (by omega) (by omega)).mp y
          exact ih (i + 1) true (by omega) (by omega) (by rw [all_range_succ, ← Bool.and_assoc, ← hok, e]; simp)
        · have e : ¬ liesM M i (wh M f i) (fl M i) = fm M i := fun w => y (by rw [w])
          exact ih (i + 1) false (by omega) (by omega) (by rw [all_range_succ, ← Bool.and_assoc, ← hok]; simp [e])
  unfold vX9_passes
  rw [nC (by omega), (hI.2.2.2.2.2.2.2.2.2.2.1 f hf).2]
  exact ⟨vin (by omega) (by decide), nd M + 1, key (nd M + 1) 0 _ (by omega) (by omega) (by simp)⟩
theorem same41 {σ τ : St} {M : Mo} (hI : CI σ M) (h : ∀ k j, ¬ (41 ≤ k ∧ k ≤ 44) → rd τ k j = rd σ k j) : CI τ M := hI.same (fun k j hk => h k j (fun e => hk (by unfold scr; omega)))
/-- value 0 of total: what an empty one answers -/
def totV (v : Va) (y : Nat) : Int32 := if v.1 = 0 then (if y ≤ 1 then 0 else -2000000001) else vV v y
theorem st_total {M : Mo} (hW : WF M) (x : Int32) : BSt M (fun Q σ => vX8_total Q σ x) (fun Q σ => vX9_total Q σ x) := by
  have e3 : (3 : Int32).toInt = 3 := by decide
  have h3 := hW.2.2.2.2.2.1
  rcases inOr x 4 (by decide) with ⟨y, hy, rfl⟩ | hx
  · refine ⟨totV (vals (insi M) (ms M) (nf M)) y, M, fun σ Q h hq => ?_, fun σ Q h hq => ?_⟩
    · show vX8_total Q σ (nI y)
      unfold vX8_total vX8_isValue
      refine ⟨fun a => ?_, fun _ => ⟨fun a => ?_, fun _ => t1 (d_tclear (fun τ hF hz => ?_))⟩⟩
      · have := i_lt.mp a; rw [c0, nT (by omega)] at this; omega
      · have := i_lt.mp a; rw [e3, nT (by omega)] at this; omega
      have key : ∀ q f ρ, f ≤ nf M → nf M - f < q → (∀ k j, ¬ (41 ≤ k ∧ k ≤ 44) → rd ρ k j = rd σ k j) → tAt ρ 0 (vals (insi M) (ms M) f) → vX8_total_L19 Q q ρ (nI y) (nI f) := by
        intro q
        induction q with
        | zero => intro f ρ _ h; omega
        | succ q ih =>
          intro f ρ hf hq2 hG ht
          have hI := same41 h hG
          have hv := vals_le (p := insi M) (m := ms M) f
          simp only [vX8_total_L19]
          rw [hI.f, nsucc]
          refine ⟨fun a => ?_, fun a => ?_⟩
          · have e : f = nf M := by
              have : nf M ≤ f := (leI (by omega) (by omega)).mp a
              omega
            rw [e] at ht hv
            refine d_isEmpty (p := 0) (by decide) (by omega) ht ⟨fun b => ?_, fun b => ?_⟩
            · have q : ¬ (vals (insi M) (ms M) (nf M)).1 = 0 := by simpa using b2i_0.mp b
              refine d_valueOf (p := 0) (by decide) hy q ht ?_
              have := hq ρ hI
              unfold totV at this; rw [if_neg q] at this; exact this
            · have q : (vals (insi M) (ms M) (nf M)).1 = 0 := by simpa using b2i_n0 b
              have := hq ρ hI
              unfold totV at this; rw [if_pos q] at this
              refine ⟨fun z => ?_, fun z => ?_⟩
              · have := (ltI (a := 1) (b := y) (by omega) (by omega)).mp z
                rw [if_neg (by omega)] at *; assumption
              · have hle : y ≤ 1 := by
                  rcases Nat.lt_or_ge 1 y with w | w
                  · exact absurd ((ltI (a := 1) (b := y) (by omega) (by omega)).mpr w) z
                  · exact w
                rw [if_pos hle] at this; exact this
          · have hlt : f < nf M := lt_of_nle (by omega) (by omega) a
            refine d_insight hI hlt ⟨fun b => ?_, fun b => d_measureOf hI hlt (d_tadd (p := 0) (by decide) ht (by omega) (fun z => by rw [vals_0 f z]) (fun ρ' hF' ht' => ?_))⟩
            · exact ih (f + 1) ρ (by omega) (by omega) hG (by rw [vals_f (b2i_0.mp b)]; exact ht)
            · exact ih (f + 1) ρ' (by omega) (by omega) (fun k j hk => (hF' k j (fun z => hk ⟨z.1, z.2.1⟩)).trans (hG k j hk)) (by rw [vals_t (b2i_n0 b)]; exact ht')
      exact ⟨nf M + 1, key (nf M + 1) 0 τ (by omega) (by omega) (fun k j hk => hF k j (fun e => hk (by omega))) ⟨hz 0 (by decide), fun z => absurd rfl z⟩⟩
    · show vX9_total Q σ (nI y)
      unfold vX9_total
      refine k9_inT (by rw [c0, nT (by omega)]; omega) (by rw [nT (by omega), e3]; omega) (t1 (k9_begin (fun τ hF hz => ?_)))
      have key : ∀ q f ρ, f ≤ nf M → nf M - f < q → FrV (wr σ 0 0 0) ρ → vAt ρ (vals (insi M) (ms M) f) → vX9_total_L23 Q q ρ (nI y) (nI f) := by
        intro q
        induction q with
        | zero => intro f ρ _ h; omega
        | succ q ih =>
          intro f ρ hf hq2 hG ht
          have hI := h.w0.same hG.R
          have hv := vals_le (p := insi M) (m := ms M) f
          simp only [vX9_total_L23]
          rw [hI.2.2.1, nsucc, ht.1]
          refine ⟨fun a => ?_, fun a => ?_⟩
          · have e : f = nf M := by
              have : nf M ≤ f := (leI (by omega) (by omega)).mp a
              omega
            rw [e] at ht hv ⊢
            have hqq := hq ρ hI
            unfold totV at hqq
            refine ⟨fun b => ?_, fun b => ?_⟩
            · have q : (vals (insi M) (ms M) (nf M)).1 = 0 := (eqI (a := (vals (insi M) (ms M) (nf M)).1) (b := 0) (by omega) (by omega)).mp b
              rw [if_pos q] at hqq
              refine ⟨fun z => k9_value hy ht ?_, fun z => ?_⟩
              · have hle : y ≤ 1 := (leI (a := y) (b := 1) (by omega) (by omega)).mp z
                rw [if_pos hle] at hqq
                rw [vals_0 (nf M) q]
                have : vV (0, 0, 0, 0) y = 0 := by
                  unfold vV
                  rcases (show y = 0 ∨ y = 1 by omega) with rfl | rfl
                  · rfl
                  · rfl
                rw [this]; exact hqq
              · have hle : ¬ y ≤ 1 := fun w => z ((leI (a := y) (b := 1) (by omega) (by omega)).mpr w)
                rw [if_neg hle] at hqq; exact hqq
            · have q : ¬ (vals (insi M) (ms M) (nf M)).1 = 0 := fun z => b (by rw [z]; rfl)
              rw [if_neg q] at hqq
              exact k9_value hy ht hqq
          · have hlt : f < nf M := lt_of_nle (by omega) (by omega) a
            refine k9_passes hI hlt ⟨fun b => ?_, fun b => k9_add (by omega) ((hI.2.2.2.2.2.2.2.2.2.2.1 f hlt).1) ht (by omega) (fun ρ' hF' ht' => ?_)⟩
            · exact ih (f + 1) ρ (by omega) (by omega) hG (by rw [vals_f (b2i_0.mp b)]; exact ht)
            · exact ih (f + 1) ρ' (by omega) (by omega) (hG.tr hF') (by rw [vals_t (b2i_n0 b)]; exact ht')
      exact ⟨nf M + 1, key (nf M + 1) 0 τ (by omega) (by omega) hF hz⟩
  · refine ⟨(-2000000002), M, fun σ Q h hq => ?_, fun σ Q h hq => ?_⟩
    · show vX8_total Q σ x
      unfold vX8_total vX8_isValue
      refine ⟨fun _ => t0 (hq σ h), fun a => ⟨fun _ => t0 (hq σ h), fun b => ?_⟩⟩
      have a' : ¬ x.toInt < 0 := fun q => a (i_lt.mpr (by rw [c0]; exact q))
      have b' : ¬ (3 : Int32).toInt < x.toInt := fun q => b (i_lt.mpr q)
      rw [e3] at b'
      omega
    · show vX9_total Q σ x
      unfold vX9_total
      exact k9_inF (by rw [c0, e3]; omega) (t0 (hq _ h.w0))
theorem WF.re {M : Mo} (hW : WF M) {r : Int32} : WF (setRe M r) := ⟨hW.1, hW.2.1, hW.2.2.1, hW.2.2.2.1, hW.2.2.2.2.1, hW.2.2.2.2.2.1, hW.2.2.2.2.2.2.1, hW.2.2.2.2.2.2.2.1, hW.2.2.2.2.2.2.2.2.1, hW.2.2.2.2.2.2.2.2.2.1, hW.2.2.2.2.2.2.2.2.2.2.1, hW.2.2.2.2.2.2.2.2.2.2.2.1, hW.2.2.2.2.2.2.2.2.2.2.2.2⟩
theorem CI.re {σ : St} {M : Mo} (h : CI σ M) {r : Int32} : CI (wr σ 48 7 r) (setRe M r) := by
  have h4 := h.1.1
  have e : ∀ j i, j ≠ 48 → rd (wr σ 48 7 r) j i = rd σ j i := fun j i hj => rd_ne hj
  refine ⟨h.1.re, ?_, ?_, ?_, ?_, ?_, ?_, ?_, ?_, ?_, ?_, ?_, ?_, ?_, ?_, ?_, ?_, ?_⟩
  · rw [e _ _ (by omega)]
    exact h.n
  · intro d hd
    have hd1 : d < nd M := hd
    rw [e _ _ (by omega), e _ _ (by omega), e _ _ (by omega)]
    exact h.dm hd1
  · intro d l hd hl
    have hd1 : d < nd M := hd
    rw [e _ _ (by omega)]
    exact h.wd hd1 hl
  · intro d l m hd hl hm
    rw [e _ _ (by omega)]
    exact h.pr hd hl hm
  · intro d l m hd hl hm
    have hd1 : d < nd M := hd
    rw [e _ _ (by omega)]
    exact h.hm hd1 hl hm
  · rw [e _ _ (by omega)]
    exact h.f
  · rw [e _ _ (by omega)]
    exact h.fp
  · intro f hf
    rw [e _ _ (by omega), e _ _ (by omega), e _ _ (by omega)]
    exact h.fa hf
  · intro f hf h3
    rw [e _ _ (by omega)]
    exact h.fg hf h3
  · rw [e _ _ (by omega)]
    exact h.t
  · intro c hc
    rw [e _ _ (by omega)]
    exact h.lv hc
  · intro c hc
    rw [e _ _ (by omega)]
    exact h.sz hc
  · intro c hc
    rw [e _ _ (by omega)]
    exact h.kk hc
  · intro d hd
    rw [e _ _ (by omega)]
    exact h.pp hd
  · rw [rd_eq]
    rfl
  · rw [e _ _ (by omega)]
    exact h.oo
  · intro i hi
    rw [e _ _ (by omega)]
    exact h.ou hi
theorem RI.re {σ : St} {M : Mo} (h : RI σ M) {r : Int32} : RI (wr σ 0 13 r) (setRe M r) := by
  have h4 := h.1.1
  have e : ∀ j i, ¬ (j = 0 ∧ i = 13) → rd (wr σ 0 13 r) j i = rd σ j i := fun j i hj => by rw [rd_wr, if_neg hj]
  refine ⟨h.1.re, ?_, ?_, ?_, ?_, ?_, ?_, ?_, ?_, ?_, ?_, ?_, ?_⟩
  · rw [e _ _ (by omega)]
    exact h.2.1
  · rw [e _ _ (by omega)]
    exact h.2.2.1
  · rw [rd_eq]
    rfl
  · rw [e _ _ (by omega)]
    exact h.2.2.2.2.1
  · intro d hd
    rw [e _ _ (by omega), e _ _ (by omega), e _ _ (by omega)]
    exact h.2.2.2.2.2.1 d hd
  · intro d hd
    rw [e _ _ (by omega)]
    exact h.2.2.2.2.2.2.1 d hd
  · intro d l hd hl
    rw [e _ _ (by omega)]
    exact h.2.2.2.2.2.2.2.1 d l hd hl
  · intro d l m hd hl hm
    rw [e _ _ (by omega)]
    exact h.2.2.2.2.2.2.2.2.1 d l m hd hl hm
  · intro f d hf hd
    rw [e _ _ (by omega)]
    exact h.2.2.2.2.2.2.2.2.2.1 f d hf hd
  · intro f hf
    rw [e _ _ (by omega), e _ _ (by omega)]
    exact h.2.2.2.2.2.2.2.2.2.2.1 f hf
  · intro c hc
    rw [e _ _ (by omega)]
    exact h.2.2.2.2.2.2.2.2.2.2.2.1 c hc
  · intro i hi
    rw [e _ _ (by omega)]
    exact h.2.2.2.2.2.2.2.2.2.2.2.2 i hi
theorem d_tgroup {Q : St → Prop} {σ : St} {M : Mo} (h : CI σ M) {c : Nat} (hp : pksOk M c (nd M) = true) (hQ : ∀ τ, CI τ M → tAt τ 0 (vals (inGr M c) (ms M) (nf M)) → Q τ) : vX8_tallyGroup Q σ (nI (lcod M c)) (nI (cod 8 (pk M) (nd M))) := by
  have hW := h.1
  have h3 := hW.2.2.2.2.2.1
  have h4 := hW.1
  have hpk : ∀ d, d < nd M → pk M d < 8 := fun d hd => hW.2.2.2.2.2.2.2.2.1 d (by omega)
  unfold vX8_tallyGroup
  refine d_tclear (fun τ hF hz => ?_)
  have key : ∀ q f ρ, f ≤ nf M → nf M - f < q → (∀ k j, ¬ (41 ≤ k ∧ k ≤ 44) → rd ρ k j = rd σ k j) → tAt ρ 0 (vals (inGr M c) (ms M) f) → vX8_tallyGroup_L9 Q q ρ (nI (lcod M c)) (nI (cod 8 (pk M) (nd M))) (nI f) := by
    intro q
    induction q with
    | zero => intro f ρ _ h; omega
    | succ q ih =>
      intro f ρ hf hq2 hG ht
      have hI := same41 h hG
      have hv := vals_le (p := inGr M c) (m := ms M) f
      simp only [vX8_tallyGroup_L9]
      rw [hI.f, nsucc]
      refine ⟨fun a => ?_, fun a => ?_⟩
      · have e : f = nf M := by
          have : nf M ≤ f := (leI (by omega) (by omega)).mp a
          omega
        rw [e] at ht
        exact hQ ρ hI ht
      · have hlt : f < nf M := lt_of_nle (by omega) (by omega) a
        have b8 : cod 8 (grpM M c f) (nd M) < 4096 := Nat.lt_of_lt_of_le (cod_lt (nd M) (fun d hd => grp_lt hW hlt hd)) (p8 h4)
        have p8' : cod 8 (pk M) (nd M) < 4096 := Nat.lt_of_lt_of_le (cod_lt (nd M) hpk) (p8 h4)
        have hin := cod_inj (b := 8) (w := grpM M c f) (v := pk M) (nd M) (fun d hd => grp_lt hW hlt hd) hpk
        refine d_isThere hI hlt ⟨fun b => ?_, fun b => d_cellOf hI hlt (d_groupOf hI hlt ⟨fun z => d_measureOf hI hlt (d_tadd (p := 0) (by decide) ht (by omega) (fun z => by rw [vals_0 f z]) (fun ρ' hF' ht' => ?_)), fun z => ?_⟩)⟩
        · exact ih (f + 1) ρ (by omega) (by omega) hG (by rw [vals_f (by unfold inGr; rw [b2i_0.mp b]; rfl)]; exact ht)
        · have e := hin.mp ((eqI (by omega) (by omega)).mp z)
          have : inGr M c f = true := by
            unfold inGr
            rw [b2i_n0 b, Bool.true_and, List.all_eq_true]
            exact fun d hd => by simpa using e d (List.mem_range.mp hd)
          exact ih (f + 1) ρ' (by omega) (by omega) (fun k j hk => (hF' k j (fun z => hk ⟨z.1, z.2.1⟩)).trans (hG k j hk)) (by rw [vals_t this]; exact ht')
        · have : inGr M c f = false := by
            cases e : inGr M c f with
            | false => rfl
            | true =>
              unfold inGr at e
              rw [b2i_n0 b, Bool.true_and, List.all_eq_true] at e
              exact absurd (by rw [hin.mpr (fun d hd => by simpa using e d (List.mem_range.mpr hd))]) z
          exact ih (f + 1) ρ (by omega) (by omega) hG (by rw [vals_f this]; exact ht)
  exact ⟨nf M + 1, key (nf M + 1) 0 τ (by omega) (by omega) (fun k j hk => hF k j (fun e => hk (by omega))) ⟨hz 0 (by decide), fun z => absurd rfl z⟩⟩
def askV (v : Va) (y : Nat) : Int32 := if v.1 = 0 then -2000000001 else vV v y
theorem k9_ask_in {Q : Int32 → St → Prop} {K : St → Int32 → Int32 → Int32 → Prop} {σ : St} {M : Mo} (hI : RI σ M) {c f : Nat} (hc : c < tot M) (hf : f < nf M) {X2 : Int32} {v : Va} (hv : vAt σ v) (hb : v.1 < 1000) (hT : inGr M c f = true → ∀ τ, FrV σ τ → vAt τ (addV v (ms M f)) → K τ (nI c) X2 (nI (f + 1))) (hN : inGr M c f = false → K σ (nI c) X2 (nI (f + 1))) :
    ∃ e, vX9_ask_L112 Q K e σ (nI c) X2 (nI f) (b2i (th M f)) 0 := by
  have h4 := hI.1.1
  have h3 := hI.1.2.2.2.2.2.1
  have ht := tot_le hI.1
  have fin : ∀ b, b = inGr M c f → ((b2i b = 0 → K σ (nI c) X2 (nI f + 1)) ∧ (¬ b2i b = 0 → vX9_add (fun σ21 => K σ21 (nI c) X2 (nI f + 1)) σ (nI f))) := fun b e => by
    rw [nsucc]
    refine ⟨fun a => hN ?_, fun a => k9_add (by omega) ((hI.2.2.2.2.2.2.2.2.2.2.1 f hf).1) hv hb (hT ?_)⟩
    · rw [← e]; exact b2i_0.mp a
    · rw [← e]; exact b2i_n0 a
  have key : ∀ q i b, i ≤ nd M → nd M - i < q → b = (th M f && (List.range i).all (fun d => grpM M c f d == pk M d)) → vX9_ask_L112 Q K q σ (nI c) X2 (nI f) (b2i b) (nI i) := by
    intro q
    induction q with
    | zero => intro i b _ h; omega
    | succ q ih =>
      intro i b hi hq hok
      simp only [vX9_ask_L112]
      rw [hI.2.1]
      refine ⟨fun a => ?_, fun a => ⟨fun z => ?_, fun z => ?_⟩⟩
      · have e : i = nd M := by
          have : nd M ≤ i := (leI (by omega) (by omega)).mp a
          omega
        rw [e] at hok
        exact fin b hok
      · have hlt : i < nd M := lt_of_nle (by omega) (by omega) a
        have hb := b2i_0.mp z
        refine fin b ?_
        rw [hb] at hok ⊢
        unfold inGr
        cases e : th M f with
        | false => rfl
        | true =>
          rw [e, Bool.true_and] at hok
          rw [Bool.true_and]
          cases e2 : (List.range (nd M)).all (fun d => grpM M c f d == pk M d) with
          | false => rfl
          | true =>
            rw [List.all_eq_true] at e2
            have : (List.range i).all (fun d => grpM M c f d == pk M d) = true := List.all_eq_true.mpr (fun d hd => e2 d (List.mem_range.mpr (by have := List.mem_range.mp hd; omega)))
            rw [this] at hok; exact absurd hok (by decide)
      · have hlt : i < nd M := lt_of_nle (by omega) (by omega) a
        have hb := b2i_n0 z
        rw [hb] at hok
        have hlv := lev_lt (M := M) (c := c) (d := i)
        have hwm := hI.1.2.2.2.2.2.2.1 f i hf hlt
        have hl8 : grpM M c f i < 8 := lies_lt hI.1 hlt hwm (show levM M c i ≤ tl M i by omega)
        have hp8 := hI.1.2.2.2.2.2.2.2.2.1 i (by omega)
        rw [l4, pk_mul, nI_add, nC (show 4 * f + i < 2147483648 by omega), nC (show i < 2147483648 by omega), hI.2.2.2.2.2.2.2.2.2.1 f i hf hlt]
        refine ⟨vin (by omega) (by decide), k9_levelIn hI (by omega) hlt (k9_liesIn hI hlt hwm (by omega) ?_)⟩
        rw [hI.2.2.2.2.2.2.1 i (by omega), nsucc]
        refine ⟨vin (by omega) (by decide), fun y => ?_, fun y => ?_⟩
        · have e : grpM M c f i = pk M i := (eqI (by omega) (by omega)).mp y
          exact ih (i + 1) true (by omega) (by omega) (by rw [all_range_succ, ← Bool.and_assoc, ← hok, e]; simp)
        · have e : ¬ grpM M c f i = pk M i := fun w => y (by unfold grpM at w; rw [w])
          exact ih (i + 1) false (by omega) (by omega) (by rw [all_range_succ, ← Bool.and_assoc, ← hok]; simp [e])
  exact ⟨nd M + 1, key (nd M + 1) 0 _ (by omega) (by omega) (by simp)⟩
theorem k9_ask_facts {Q : Int32 → St → Prop} {σ : St} {M : Mo} (h : RI σ M) {c y : Nat} (hc : c < tot M) (hy : y < 4) (hv0 : vAt σ (0, 0, 0, 0)) (hQ : ∀ τ, RI τ M → Q (askV (vals (inGr M c) (ms M) (nf M)) y) τ) : ∃ e, vX9_ask_L93 Q e σ (nI c) (nI y) 0 := by
  have h3 := h.1.2.2.2.2.2.1
  have key : ∀ q f ρ, f ≤ nf M → nf M - f < q → FrV σ ρ → vAt ρ (vals (inGr M c) (ms M) f) → vX9_ask_L93 Q q ρ (nI c) (nI y) (nI f) := by
    intro q
    induction q with
    | zero => intro f ρ _ h; omega
    | succ q ih =>
      intro f ρ hf hq2 hG ht
      have hI := h.same hG.R
      have hv := vals_le (p := inGr M c) (m := ms M) f
      simp only [vX9_ask_L93]
      rw [hI.2.2.1, ht.1]
      refine ⟨fun a => ?_, fun a => ?_⟩
      · have e : f = nf M := by
          have : nf M ≤ f := (leI (by omega) (by omega)).mp a
          omega
        rw [e] at ht hv ⊢
        have hqq := hQ ρ hI
        unfold askV at hqq
        refine ⟨fun b => ?_, fun b => ?_⟩
        · have q : (vals (inGr M c) (ms M) (nf M)).1 = 0 := (eqI (a := (vals (inGr M c) (ms M) (nf M)).1) (b := 0) (by omega) (by omega)).mp b
          rw [if_pos q] at hqq; exact hqq
        · have q : ¬ (vals (inGr M c) (ms M) (nf M)).1 = 0 := fun z => b (by rw [z]; rfl)
          rw [if_neg q] at hqq
          exact k9_value hy ht hqq
      · have hlt : f < nf M := lt_of_nle (by omega) (by omega) a
        rw [nC (by omega), (hI.2.2.2.2.2.2.2.2.2.2.1 f hlt).2]
        refine ⟨vin (by omega) (by decide), k9_ask_in hI hc hlt ht (by omega) (fun b ρ' hF' ht' => ?_) (fun b => ?_)⟩
        · exact ih (f + 1) ρ' (by omega) (by omega) (hG.tr hF') (by rw [vals_t b]; exact ht')
        · exact ih (f + 1) ρ (by omega) (by omega) hG (by rw [vals_f b]; exact ht)
  exact ⟨nf M + 1, key (nf M + 1) 0 σ (by omega) (by omega) FrV.rf hv0⟩
theorem st_ask {M : Mo} (hW : WF M) (x y : Int32) : BSt M (fun Q σ => vX8_ask Q σ x y) (fun Q σ => vX9_ask Q σ x y) := by
  have e3 : (3 : Int32).toInt = 3 := by decide
  have h3 := hW.2.2.2.2.2.1
  have h4 := hW.1
  have ht := tot_le hW
  rcases inOr x (tot M) (by omega) with ⟨c, hc, rfl⟩ | hx
  · rcases inOr y 4 (by decide) with ⟨w, hw, rfl⟩ | hy
    · have wayC : ∀ σ Q, CI σ M → ((pksOk M c (nd M) = true → ∀ τ, CI τ (setRe M (re M + nI (costM M c))) → tAt τ 0 (vals (inGr M c) (ms M) (nf M)) → Q (askV (vals (inGr M c) (ms M) (nf M)) w) τ) ∧ (pksOk M c (nd M) = false → Q (-2000000002) σ)) → vX8_ask Q σ (nI c) (nI w) := fun σ Q h g => by
        unfold vX8_ask vX8_isValue
        refine d_hasT h hc (t1 ⟨fun a => ?_, fun _ => ⟨fun a => ?_, fun _ => t1 (d_levelsOf h hc (d_pack h ?_))⟩⟩)
        · have := i_lt.mp a; rw [c0, nT (by omega)] at this; omega
        · have := i_lt.mp a; rw [e3, nT (by omega)] at this; omega
        cases hp : pksOk M c (nd M) with
        | false =>
          rw [if_neg (by decide)]
          exact ⟨fun a => absurd a (by decide), fun _ => g.2 hp⟩
        | true =>
          have p8' : cod 8 (pk M) (nd M) < 4096 := Nat.lt_of_lt_of_le (cod_lt (nd M) (fun d hd => hW.2.2.2.2.2.2.2.2.1 d (by omega))) (p8 h4)
          rw [if_pos rfl]
          refine ⟨fun _ => d_costOf h hc (fun τ F => ?_), fun a => absurd (i_le.mpr (by rw [c0, nT (by omega)]; omega)) a⟩
          have hI := F.CI h
          rw [h.rr]
          have hI2 := hI.re (r := re M + nI (costM M c))
          refine d_tgroup (M := setRe M (re M + nI (costM M c))) hI2 hp (fun ρ hI3 ht3 => ?_)
          have hvl : (vals (inGr M c) (ms M) (nf M)).1 ≤ nf M := vals_le (nf M)
          have gq := g.1 hp ρ hI3 ht3
          refine d_isEmpty (p := 0) (by decide) (by omega) (v := vals (inGr M c) (ms M) (nf M)) ht3 ⟨fun b => ?_, fun b => ?_⟩
          · have q : ¬ (vals (inGr M c) (ms M) (nf M)).1 = 0 := by simpa using b2i_0.mp b
            refine d_valueOf (p := 0) (by decide) hw q ht3 ?_
            unfold askV at gq; rw [if_neg q] at gq; exact gq
          · have q : (vals (inGr M c) (ms M) (nf M)).1 = 0 := by simpa using b2i_n0 b
            unfold askV at gq; rw [if_pos q] at gq; exact gq
      have wayR : ∀ σ Q, RI σ M → ((pksOk M c (nd M) = true → ∀ τ, RI τ (setRe M (re M + nI (costM M c))) → Q (askV (vals (inGr M c) (ms M) (nf M)) w) τ) ∧ (pksOk M c (nd M) = false → Q (-2000000002) (wr σ 0 0 0))) → vX9_ask Q σ (nI c) (nI w) := fun σ Q h g => by
        unfold vX9_ask
        refine k9_cubT h.w0 hc (t1 (k9_inT (by rw [c0, nT (by omega)]; omega) (by rw [nT (by omega), e3]; omega) (t1 ?_)))
        have hI := h.w0
        generalize wr σ 0 0 0 = ρ at *
        have key : ∀ q i, i ≤ nd M → nd M - i < q → pksOk M c i = true → vX9_ask_L27 Q q ρ (nI c) (nI w) (nI i) := by
          intro q
          induction q with
          | zero => intro i _ h; omega
          | succ q ih =>
            intro i hi hq hok
            simp only [vX9_ask_L27]
            rw [hI.2.1, nsucc]
            refine ⟨fun a => ?_, fun a => ?_⟩
            · have e : i = nd M := by
                have : nd M ≤ i := (leI (by omega) (by omega)).mp a
                omega
              rw [e] at hok
              refine k9_measure hI (fun τ F hm => k9_serverOf (hI.same F) hm hc ?_)
              have hs := server_lt (M := M) (w := c)
              rw [nC (by omega), hm.1 _ hs, (hI.same F).2.2.2.1]
              refine ⟨vin (by omega) (by decide), k9_begin (fun τ2 F2 hv2 => ?_)⟩
              have hI2 := ((hI.same F).re (r := re M + nI (costM M c))).same F2.R
              exact k9_ask_facts (M := setRe M (re M + nI (costM M c))) hI2 hc hw hv2 (fun τ3 h3 => g.1 hok τ3 h3)
            · have hlt : i < nd M := lt_of_nle (by omega) (by omega) a
              have hlv := lev_lt (M := M) (c := c) (d := i)
              have hw8 := wid8 hW hlt (l := levM M c i)
              have hp8 := hW.2.2.2.2.2.2.2.2.1 i (by omega)
              rw [nC (by omega), hI.2.2.2.2.2.2.1 i (by omega)]
              refine ⟨vin (by omega) (by decide), k9_levelIn hI (by omega) hlt (k9_manyT hI hlt (by omega) ⟨fun b => ?_, fun b => ?_⟩)⟩
              · have hlt2 := (ltI (by omega) (by omega)).mp b
                exact ih (i + 1) (by omega) (by omega) (by rw [pksOk_s, hok, decide_eq_true hlt2]; rfl)
              · refine g.2 ?_
                cases e : pksOk M c (nd M) with
                | false => rfl
                | true => exact absurd ((ltI (by omega) (by omega)).mpr (pksOk_iff.mp e i hlt)) b
        exact ⟨nd M + 1, key (nd M + 1) 0 (by omega) (by omega) rfl⟩
      cases hp : pksOk M c (nd M) with
      | true => exact ⟨askV (vals (inGr M c) (ms M) (nf M)) w, setRe M (re M + nI (costM M c)), fun σ Q h hq => wayC σ Q h ⟨fun _ τ h1 _ => hq τ h1, fun z => absurd (hp.symm.trans z) (by decide)⟩, fun σ Q h hq => wayR σ Q h ⟨fun _ τ h1 => hq τ h1, fun z => absurd (hp.symm.trans z) (by decide)⟩⟩
      | false => exact ⟨(-2000000002), M, fun σ Q h hq => wayC σ Q h ⟨fun z => absurd (hp.symm.trans z) (by decide), fun _ => hq σ h⟩, fun σ Q h hq => wayR σ Q h ⟨fun z => absurd (hp.symm.trans z) (by decide), fun _ => hq _ h.w0⟩⟩
    · refine ⟨(-2000000002), M, fun σ Q h hq => ?_, fun σ Q h hq => ?_⟩
      · show vX8_ask Q σ (nI c) y
        unfold vX8_ask vX8_isValue
        refine d_hasT h hc (t1 ⟨fun _ => t0 (hq σ h), fun a => ⟨fun _ => t0 (hq σ h), fun b => ?_⟩⟩)
        have a' : ¬ y.toInt < 0 := fun q => a (i_lt.mpr (by rw [c0]; exact q))
        have b' : ¬ (3 : Int32).toInt < y.toInt := fun q => b (i_lt.mpr q)
        rw [e3] at b'
        omega
      · show vX9_ask Q σ (nI c) y
        unfold vX9_ask
        exact k9_cubT h.w0 hc (t1 (k9_inF (by rw [c0, e3]; omega) (t0 (hq _ h.w0))))
  · refine ⟨(-2000000002), M, fun σ Q h hq => ?_, fun σ Q h hq => ?_⟩
    · show vX8_ask Q σ x y
      unfold vX8_ask
      exact d_hasF' h hx (t0 (hq σ h))
    · show vX9_ask Q σ x y
      unfold vX9_ask
      exact k9_cubF h.w0 hx (t0 (hq _ h.w0))

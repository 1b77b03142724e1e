/-! ===== table ===== -/
/-- the fact is in the cell of row r and column c; 8: the whole line, the whole column -/
def cp (M : Mo) (dd dl r ad al c f : Nat) : Bool := insi M f && ((r == 8 || liesM M dd (wh M f dd) dl == r) && (c == 8 || liesM M ad (wh M f ad) al == c))
def cv (M : Mo) (dd dl r ad al c : Nat) : Va := vals (cp M dd dl r ad al c) (ms M) (nf M)
def rI (r : Nat) : Int32 := if r = 8 then -1 else nI r
theorem rI8 : rI 8 < 0 := by decide
theorem rIn {r : Nat} (h : r < 8) : rI r = nI r ∧ ¬ rI r < 0 := by
  have e : rI r = nI r := if_neg (by omega)
  refine ⟨e, fun q => ?_⟩
  rw [e] at q
  have := i_lt.mp q; rw [c0, nT (by omega)] at this; omega
theorem r8 {r : Nat} (h : r < 8) : (r == 8) = false := by simpa using (by omega : ¬ r = 8)
/-! the reference's cell -/
theorem k9_cellJ {Q : St → Prop} {K : St → Int32 → Int32 → Int32 → Int32 → Int32 → Int32 → Int32 → Int32 → Prop} {σ : St} {M : Mo} {X1 X2 X3 X7 : Int32} {ad al c f : Nat} (h : RI σ M) (ha : ad < nd M) (hl : al ≤ tl M ad) (hc : c ≤ 8) (hf : f < nf M) {v : Va} (hv : vAt σ v) (hb : v.1 < 1000)
    (hT : (c == 8 || liesM M ad (wh M f ad) al == c) = true → ∀ τ, FrV σ τ → vAt τ (addV v (ms M f)) → K τ X1 X2 X3 (nI ad) (nI al) (rI c) X7 (nI (f + 1)))
    (hN : (c == 8 || liesM M ad (wh M f ad) al == c) = false → K σ X1 X2 X3 (nI ad) (nI al) (rI c) X7 (nI (f + 1))) : vX9_cell_J50 Q K σ X1 X2 X3 (nI ad) (nI al) (rI c) X7 (nI f) := by
  have h3 := h.1.2.2.2.2.2.1
  have h4 := h.1.1
  have hm := (h.2.2.2.2.2.2.2.2.2.2.1 f hf).1
  have hwm := h.1.2.2.2.2.2.2.1 f ad hf ha
  have hl8 := lies_lt h.1 ha hwm hl
  unfold vX9_cell_J50
  rw [nsucc]
  by_cases e8 : c = 8
  · subst e8
    exact ⟨fun _ => k9_add (by omega) hm hv hb (hT rfl), fun z => absurd rI8 z⟩
  · have hc8 : c < 8 := by omega
    refine ⟨fun z => absurd z (rIn hc8).2, fun _ => ?_⟩
    rw [l4, pk_mul, nI_add, nC (show 4 * f + ad < 2147483648 by omega), h.2.2.2.2.2.2.2.2.2.1 f ad hf ha]
    refine ⟨vin (by omega) (by decide), k9_liesIn h ha hwm hl ⟨fun z => ?_, fun z => ?_⟩⟩
    · rw [(rIn hc8).1] at z
      have e := (eqI (by omega) (by omega)).mp z
      exact k9_add (by omega) hm hv hb (hT (by rw [e]; simp))
    · rw [(rIn hc8).1] at z
      have e : ¬ liesM M ad (wh M f ad) al = c := fun w => z (by rw [w])
      exact hN (by rw [r8 hc8]; simp [e])
theorem k9_cellL {Q : St → Prop} {σ : St} {M : Mo} {dd dl r ad al c y : Nat} (h : RI σ M) (hd : dd < nd M) (hdl : dl ≤ tl M dd) (hr : r ≤ 8) (ha : ad < nd M) (hl : al ≤ tl M ad) (hc : c ≤ 8) (hv0 : vAt σ (0, 0, 0, 0))
    (hQ : ∀ τ, RI τ M → vAt τ (cv M dd dl r ad al c) → ((nI (cv M dd dl r ad al c).1 = 0 → vX9_say (fun σ2 => Q σ2) τ 46) ∧ (¬ nI (cv M dd dl r ad al c).1 = 0 → vX9_value (fun r4 σ3 => vX9_sayNumber (fun σ5 => Q σ5) σ3 r4) τ (nI y)))) :
    ∃ e, vX9_cell_L7 Q e σ (nI dd) (nI dl) (rI r) (nI ad) (nI al) (rI c) (nI y) 0 := by
  have h3 := h.1.2.2.2.2.2.1
  have h4 := h.1.1
  have key : ∀ q f ρ, f ≤ nf M → nf M - f < q → FrV σ ρ → vAt ρ (vals (cp M dd dl r ad al c) (ms M) f) → vX9_cell_L7 Q q ρ (nI dd) (nI dl) (rI r) (nI ad) (nI al) (rI c) (nI y) (nI f) := by
    intro q
    induction q with
    | zero => intro f ρ _ h; omega
    | succ q ih =>
      intro f ρ hf hq2 hG ht
      have hI := h.same hG.R
      have hv := vals_le (p := cp M dd dl r ad al c) (m := ms M) f
      simp only [vX9_cell_L7]
      rw [hI.2.2.1, ht.1]
      refine ⟨fun a => ?_, fun a => ?_⟩
      · have e : f = nf M := by
          have : nf M ≤ f := (leI (by omega) (by omega)).mp a
          omega
        rw [e] at ht ⊢
        exact hQ ρ hI ht
      · have hlt : f < nf M := lt_of_nle (by omega) (by omega) a
        have hwm := hI.1.2.2.2.2.2.2.1 f dd hlt hd
        have hl8 := lies_lt hI.1 hd hwm hdl
        have no : cp M dd dl r ad al c f = false → vX9_cell_L7 Q q ρ (nI dd) (nI dl) (rI r) (nI ad) (nI al) (rI c) (nI y) (nI (f + 1)) := fun b => ih (f + 1) ρ (by omega) (by omega) hG (by rw [vals_f b]; exact ht)
        refine k9_passes hI hlt ⟨fun b => ?_, fun b => ?_⟩
        · rw [nsucc]
          exact no (by unfold cp; rw [b2i_0.mp b]; rfl)
        · have hb := b2i_n0 b
          have J : (r == 8 || liesM M dd (wh M f dd) dl == r) = true → vX9_cell_J50 Q (fun σ x1 x2 x3 x4 x5 x6 x7 x8 => vX9_cell_L7 Q q σ x1 x2 x3 x4 x5 x6 x7 x8) ρ (nI dd) (nI dl) (rI r) (nI ad) (nI al) (rI c) (nI y) (nI f) := fun z => by
            refine k9_cellJ hI ha hl hc hlt ht (by omega) (fun w ρ' hF' ht' => ?_) (fun w => ?_)
            · exact ih (f + 1) ρ' (by omega) (by omega) (hG.tr hF') (by rw [vals_t (by unfold cp; rw [hb, z, w]; rfl)]; exact ht')
            · exact no (by unfold cp; rw [hb, z, w]; rfl)
          by_cases e8 : r = 8
          · subst e8
            exact ⟨fun _ => J rfl, fun z => absurd rI8 z⟩
          · have hr8 : r < 8 := by omega
            refine ⟨fun z => absurd z (rIn hr8).2, fun _ => ?_⟩
            rw [l4, pk_mul, nI_add, nC (show 4 * f + dd < 2147483648 by omega), hI.2.2.2.2.2.2.2.2.2.1 f dd hlt hd]
            refine ⟨vin (by omega) (by decide), k9_liesIn hI hd hwm hdl ⟨fun z => ?_, fun z => ?_⟩⟩
            · rw [(rIn hr8).1] at z
              have e := (eqI (by omega) (by omega)).mp z
              exact J (by rw [e]; simp)
            · rw [(rIn hr8).1] at z
              have e : ¬ liesM M dd (wh M f dd) dl = r := fun w => z (by rw [w])
              rw [nsucc]
              exact no (by unfold cp; rw [r8 hr8]; simp [e])
  exact ⟨nf M + 1, key (nf M + 1) 0 σ (by omega) (by omega) FrV.rf hv0⟩
theorem k9_cell {Q : St → Prop} {σ : St} {M : Mo} {L : List Nat} {dd dl r ad al c y : Nat} (hW : WF M) (h : RI σ (oM M L)) (hd : dd < nd M) (hdl : dl ≤ tl M dd) (hr : r ≤ 8) (ha : ad < nd M) (hl : al ≤ tl M ad) (hc : c ≤ 8) (hy : y < 4) (hlen : L.length + 7 ≤ 648)
    (hQ : ∀ τ, RI τ (oM M (L ++ cS (cv M dd dl r ad al c) y)) → Q τ) : vX9_cell Q σ (nI dd) (nI dl) (rI r) (nI ad) (nI al) (rI c) (nI y) := by
  have h3 := hW.2.2.2.2.2.1
  have hvl : (cv M dd dl r ad al c).1 ≤ nf M := vals_le (nf M)
  have hcl : (cS (cv M dd dl r ad al c) y).length ≤ 7 := cS_len hW
  have hbd : -1000000 < (vV (cv M dd dl r ad al c) y).toInt ∧ (vV (cv M dd dl r ad al c) y).toInt < 1000000 := vV_bd hW
  unfold vX9_cell
  refine k9_begin (fun τ hF hv => ?_)
  have hI : RI τ (oM M L) := h.same hF.R
  refine k9_cellL (M := oM M L) hI hd hdl hr ha hl hc hv (fun ρ hI2 hv2 => ?_)
  have hv3 : vAt ρ (cv M dd dl r ad al c) := hv2
  show (nI (cv M dd dl r ad al c).1 = 0 → _) ∧ (¬ nI (cv M dd dl r ad al c).1 = 0 → _)
  unfold cS at hQ hcl
  refine ⟨fun a => ?_, fun a => ?_⟩
  · have q : (cv M dd dl r ad al c).1 = 0 := (eqI (b := 0) (by omega) (by decide)).mp a
    rw [if_pos q] at hQ
    rw [l46]
    exact k9_say hI2 (by omega) (by decide) hQ
  · have q : ¬ (cv M dd dl r ad al c).1 = 0 := fun z => a (by rw [z]; rfl)
    rw [if_neg q] at hQ hcl
    exact k9_value hy hv3 (k9_num hbd.1 hbd.2 hI2 (by omega) hQ)
/-! the text of a table -/
def linS (cs : Nat → List Nat) : Nat → List Nat
  | 0 => []
  | c + 1 => linS cs c ++ (cs c ++ [32])
def lnOf (rows i : Nat) : Nat := if i < rows then i else 8
def tabS (cs : Nat → Nat → List Nat) (rows cols : Nat) : Nat → List Nat
  | 0 => []
  | i + 1 => tabS cs rows cols i ++ (linS (cs (lnOf rows i)) cols ++ (cs (lnOf rows i) 8 ++ [10]))
theorem lin_len {cs : Nat → List Nat} (h : ∀ c, (cs c).length ≤ 7) : ∀ n, (linS cs n).length ≤ 8 * n
  | 0 => Nat.le_refl _
  | n + 1 => by
    have := lin_len h n
    have := h n
    simp only [linS, List.length_append, List.length_cons, List.length_nil]
    omega
theorem tab_len {cs : Nat → Nat → List Nat} {rows cols : Nat} (h : ∀ r c, (cs r c).length ≤ 7) (hc : cols ≤ 8) : ∀ n, (tabS cs rows cols n).length ≤ 72 * n
  | 0 => Nat.le_refl _
  | n + 1 => by
    have := tab_len (rows := rows) h hc n
    have := lin_len (cs := cs (lnOf rows n)) (h _) cols
    have := h (lnOf rows n) 8
    simp only [tabS, List.length_append, List.length_cons, List.length_nil]
    omega
theorem ln8 {rows i : Nat} (h : rows ≤ 8) : lnOf rows i ≤ 8 := by unfold lnOf; split <;> omega
def ctx (M : Mo) (dd dl ad al y : Nat) : Nat → Nat → List Nat := fun r c => cS (cv M dd dl r ad al c) y
theorem ctx_len {M : Mo} (hW : WF M) {dd dl ad al y : Nat} : ∀ r c, (ctx M dd dl ad al y r c).length ≤ 7 := fun _ _ => cS_len hW
theorem side_e {s : Nat} (hs : s < 2147483648) : nI s / 10 = nI (s / 10) ∧ nI s - nI s / 10 * 10 = nI (s % 10) := ⟨by rw [l10]; exact pk_div (by omega) (by decide) (by decide), by rw [l10]; exact pk_rem (by omega) (by decide) (by decide)⟩
theorem k9_row {Q : Int32 → St → Prop} {K : St → Int32 → Int32 → Int32 → Int32 → Int32 → Int32 → Prop} {M : Mo} {s t y rows cols i : Nat} (hW : WF M) (hs : s < 2147483648) (ht : t < 2147483648) (hd : s / 10 < nd M) (hdl : s % 10 ≤ tl M (s / 10)) (ha : t / 10 < nd M) (hl : t % 10 ≤ tl M (t / 10)) (hy : y < 4) (hrow : rows ≤ 8) (hcol : cols ≤ 8) (hi : i ≤ rows)
    {σ : St} {L : List Nat} (h : RI σ (oM M L)) (hlen : L.length + 8 * (cols + 1) ≤ 648) (hQ : ∀ τ, RI τ (oM M (L ++ (linS (ctx M (s / 10) (s % 10) (t / 10) (t % 10) y (lnOf rows i)) cols ++ (ctx M (s / 10) (s % 10) (t / 10) (t % 10) y (lnOf rows i) 8 ++ [10])))) → K τ (nI s) (nI t) (nI y) (nI rows) (nI cols) (nI (i + 1))) :
    ∃ e, vX9_table_L79 Q K e σ (nI s) (nI t) (nI y) (nI rows) (nI cols) (nI i) 0 := by
  have eR : (nI i = nI rows → rI (lnOf rows i) = -1) ∧ (¬ nI i = nI rows → rI (lnOf rows i) = nI i) := ⟨fun q => by
    have e := (eqI (by omega) (by omega)).mp q
    have : lnOf rows i = 8 := if_neg (by omega)
    rw [this]; rfl, fun q => by
    have e : ¬ i = rows := fun w => q (by rw [w])
    have : lnOf rows i = i := if_pos (by omega)
    rw [this]; exact if_neg (by omega)⟩
  have hR8 := ln8 (rows := rows) (i := i) hrow
  have cl := ctx_len hW (dd := s / 10) (dl := s % 10) (ad := t / 10) (al := t % 10) (y := y)
  have key : ∀ q j σ, j ≤ cols → cols + 1 - j < q → RI σ (oM M (L ++ linS (ctx M (s / 10) (s % 10) (t / 10) (t % 10) y (lnOf rows i)) j)) → vX9_table_L79 Q K q σ (nI s) (nI t) (nI y) (nI rows) (nI cols) (nI i) (nI j) := by
    intro q
    induction q with
    | zero => intro j σ _ h; omega
    | succ q ih =>
      intro j σ hj hq hI
      have ll := lin_len (cs := ctx M (s / 10) (s % 10) (t / 10) (t % 10) y (lnOf rows i)) (cl _) j
      have hlenj : (L ++ linS (ctx M (s / 10) (s % 10) (t / 10) (t % 10) y (lnOf rows i)) j).length + 8 ≤ 648 := by rw [List.length_append]; omega
      have njc : ¬ nI cols < nI j := fun z => by have := (ltI (by omega) (by omega)).mp z; omega
      simp only [vX9_table_L79, vX9_table_J129]
      rw [(side_e hs).2, (side_e ht).2, (side_e hs).1, (side_e ht).1, nsucc, nsucc]
      by_cases ej : j = cols
      · have l8 := cl (lnOf rows i) 8
        have stp : vX9_cell (fun σ19 => ((nI j = nI cols → vX9_say (fun σ20 => vX9_table_L79 Q K q σ20 (nI s) (nI t) (nI y) (nI rows) (nI cols) (nI i) (nI (j + 1))) σ19 10) ∧ (¬ nI j = nI cols → vX9_say (fun σ21 => vX9_table_L79 Q K q σ21 (nI s) (nI t) (nI y) (nI rows) (nI cols) (nI i) (nI (j + 1))) σ19 32))) σ (nI (s / 10)) (nI (s % 10)) (rI (lnOf rows i)) (nI (t / 10)) (nI (t % 10)) (rI 8) (nI y) := by
          refine k9_cell hW hI hd hdl hR8 ha hl (Nat.le_refl _) hy (by omega) (fun τ hI2 => ⟨fun _ => ?_, fun z => absurd (by rw [ej]) z⟩)
          rw [l10]
          refine k9_say hI2 ?_ (by decide) (fun ρ hI3 => ?_)
          · rw [List.length_append]
            show _ + (ctx M (s / 10) (s % 10) (t / 10) (t % 10) y (lnOf rows i) 8).length < 648
            omega
          · cases q with
            | zero => omega
            | succ q =>
              simp only [vX9_table_L79]
              refine ⟨fun _ => ?_, fun z => absurd ((ltI (a := cols) (b := j + 1) (by omega) (by omega)).mpr (by omega)) z⟩
              rw [nsucc]
              refine hQ ρ ?_
              rw [ej] at hI3
              simp only [List.append_assoc] at hI3
              exact hI3
        refine ⟨fun z => absurd z njc, fun _ => ⟨fun z => ⟨fun _ => ?_, fun w => absurd (by rw [ej]) w⟩, fun z => ⟨fun _ => ?_, fun w => absurd (by rw [ej]) w⟩⟩⟩
        · rw [eR.1 z] at stp; exact stp
        · rw [eR.2 z] at stp; exact stp
      · have hjc : j < cols := by omega
        have nj : ¬ nI j = nI cols := fun z => ej ((eqI (by omega) (by omega)).mp z)
        have lj := cl (lnOf rows i) j
        have stp : vX9_cell (fun σ19 => ((nI j = nI cols → vX9_say (fun σ20 => vX9_table_L79 Q K q σ20 (nI s) (nI t) (nI y) (nI rows) (nI cols) (nI i) (nI (j + 1))) σ19 10) ∧ (¬ nI j = nI cols → vX9_say (fun σ21 => vX9_table_L79 Q K q σ21 (nI s) (nI t) (nI y) (nI rows) (nI cols) (nI i) (nI (j + 1))) σ19 32))) σ (nI (s / 10)) (nI (s % 10)) (rI (lnOf rows i)) (nI (t / 10)) (nI (t % 10)) (rI j) (nI y) := by
          refine k9_cell hW hI hd hdl hR8 ha hl (by omega) hy (by omega) (fun τ hI2 => ⟨fun z => absurd z nj, fun _ => ?_⟩)
          rw [l32]
          refine k9_say hI2 ?_ (by decide) (fun ρ hI3 => ih (j + 1) ρ (by omega) (by omega) ?_)
          · rw [List.length_append]
            show _ + (ctx M (s / 10) (s % 10) (t / 10) (t % 10) y (lnOf rows i) j).length < 648
            omega
          · simp only [List.append_assoc] at hI3
            exact hI3
        have ec : rI j = nI j := (rIn (by omega)).1
        rw [ec] at stp
        refine ⟨fun z => absurd z njc, fun _ => ⟨fun z => ⟨fun w => absurd w nj, fun _ => ?_⟩, fun z => ⟨fun w => absurd w nj, fun _ => ?_⟩⟩⟩
        · rw [eR.1 z] at stp; exact stp
        · rw [eR.2 z] at stp; exact stp
  exact ⟨cols + 2, key (cols + 2) 0 σ (by omega) (by omega) (by simpa [linS] using h)⟩
theorem k9_tab {Q : Int32 → St → Prop} {M : Mo} {s t y rows cols : Nat} (hW : WF M) (hs : s < 2147483648) (ht : t < 2147483648) (hd : s / 10 < nd M) (hdl : s % 10 ≤ tl M (s / 10)) (ha : t / 10 < nd M) (hl : t % 10 ≤ tl M (t / 10)) (hy : y < 4) (hrow : rows ≤ 8) (hcol : cols ≤ 8)
    {σ : St} (h : RI σ (oM M [])) (hQ : ∀ τ, RI τ (oM M (tabS (ctx M (s / 10) (s % 10) (t / 10) (t % 10) y) rows cols (rows + 1))) → Q (nI (tabS (ctx M (s / 10) (s % 10) (t / 10) (t % 10) y) rows cols (rows + 1)).length) τ) :
    ∃ e, vX9_table_L69 Q e σ (nI s) (nI t) (nI y) (nI rows) (nI cols) 0 := by
  have cl := ctx_len hW (dd := s / 10) (dl := s % 10) (ad := t / 10) (al := t % 10) (y := y)
  have key : ∀ q i σ, i ≤ rows + 1 → rows + 1 - i < q → RI σ (oM M (tabS (ctx M (s / 10) (s % 10) (t / 10) (t % 10) y) rows cols i)) → vX9_table_L69 Q q σ (nI s) (nI t) (nI y) (nI rows) (nI cols) (nI i) := by
    intro q
    induction q with
    | zero => intro i σ _ h; omega
    | succ q ih =>
      intro i σ hi hq hI
      have tlen := tab_len (rows := rows) (cols := cols) cl hcol i
      simp only [vX9_table_L69]
      refine ⟨fun a => ?_, fun a => ?_⟩
      · have e : i = rows + 1 := by
          have := (ltI (a := rows) (b := i) (by omega) (by omega)).mp a
          omega
        subst e
        rw [hI.2.2.2.2.1]
        exact hQ σ hI
      · have hle : i ≤ rows := by
          rcases Nat.lt_or_ge rows i with z | z
          · exact absurd ((ltI (by omega) (by omega)).mpr z) a
          · exact z
        exact k9_row hW hs ht hd hdl ha hl hy hrow hcol hle hI (by omega) (fun τ hI2 => ih (i + 1) τ (by omega) (by omega) hI2)
  exact ⟨rows + 2, key (rows + 2) 0 σ (by omega) (by omega) h⟩
/-! the desk's side -/
theorem d_homeOn {Q : Int32 → St → Prop} {σ : St} {M : Mo} (h : CI σ M) {s f : Nat} (hs : s < 2147483648) (hd : s / 10 < nd M) (hdl : s % 10 ≤ tl M (s / 10)) (hf : f < nf M) (hQ : Q (nI (liesM M (s / 10) (wh M f (s / 10)) (s % 10))) σ) : vX8_homeOnSide Q σ (nI f) (nI s) := by
  have h4 := h.1.1
  unfold vX8_homeOnSide vX6_homeIn
  rw [(side_e hs).2, (side_e hs).1]
  refine d_cellOf h hf (d_findT h hd (cm_some (d_memberIn h (cell_lt h.1 hf) hd ?_)))
  rw [cod8_digit (nd M) (s / 10) (fun e he => wh8 h.1 hf he) hd]
  exact ⟨dimk_of (by omega), d_homeOf h hd hdl (h.1.2.2.2.2.2.2.1 f _ hf hd) hQ⟩
def tAll (σ : St) (T : Nat → Va) : Prop := ∀ p, p < 81 → tAt σ p (T p)
def tOk (T : Nat → Va) : Prop := ∀ p, p < 81 → (T p).1 < 999 ∧ ((T p).1 = 0 → (T p).2.1 = 0)
def upT (T : Nat → Va) (p : Nat) (x : Int32) : Nat → Va := fun q => if q = p then addV (T q) x else T q
theorem d_tadd' {Q : St → Prop} {σ : St} {T : Nat → Va} {p : Nat} {x : Int32} (hp : p < 81) (hT : tAll σ T) (hb : (T p).1 < 1000) (h0 : (T p).1 = 0 → (T p).2.1 = 0) (hQ : ∀ τ, (∀ k j, ¬ (41 ≤ k ∧ k ≤ 44) → rd τ k j = rd σ k j) → tAll τ (upT T p x) → Q τ) : vX7_add Q σ (nI p) x := by
  refine d_tadd hp (hT p hp) hb h0 (fun τ hF ht => hQ τ (fun k j hk => hF k j (fun z => hk ⟨z.1, z.2.1⟩)) (fun q hq => ?_))
  unfold upT
  by_cases e : q = p
  · rw [if_pos e, e]; exact ht
  · rw [if_neg e]
    have g := hT q hq
    have f : ∀ k, rd τ k q = rd σ k q := fun k => hF k q (fun z => e z.2.2)
    refine ⟨by rw [f]; exact g.1, fun z => ?_⟩
    rw [f, f, f]; exact g.2 z
theorem pl_e {r c : Nat} : nI r * 9 + nI c = nI (9 * r + c) := by
  rw [l9, pk_mul, nI_add, Nat.mul_comm]
theorem l8' : (8 : Int32) = nI 8 := rfl
def crT (T : Nat → Va) (r c : Nat) (x : Int32) : Nat → Va := upT (upT (upT (upT T (9 * r + c) x) (9 * r + 8) x) (72 + c) x) 80 x
theorem crT_at {T : Nat → Va} {r c : Nat} {x : Int32} (hr : r < 8) (hc : c < 8) {a b : Nat} (ha : a ≤ 8) (hb : b ≤ 8) : crT T r c x (9 * a + b) = if (a = 8 ∨ r = a) ∧ (b = 8 ∨ c = b) then addV (T (9 * a + b)) x else T (9 * a + b) := by
  unfold crT upT
  by_cases e1 : a = 8
  · by_cases e2 : b = 8
    · subst e1; subst e2
      rw [if_pos (by omega), if_neg (by omega), if_neg (by omega), if_neg (by omega), if_pos ⟨Or.inl rfl, Or.inl rfl⟩]
    · by_cases e3 : c = b
      · subst e1; subst e3
        rw [if_neg (by omega), if_pos (by omega), if_neg (by omega), if_neg (by omega), if_pos ⟨Or.inl rfl, Or.inr rfl⟩]
      · subst e1
        rw [if_neg (by omega), if_neg (by omega), if_neg (by omega), if_neg (by omega), if_neg (by omega)]
  · by_cases e3 : r = a
    · by_cases e2 : b = 8
      · subst e2; subst e3
        rw [if_neg (by omega), if_neg (by omega), if_pos (by omega), if_neg (by omega), if_pos ⟨Or.inr rfl, Or.inl rfl⟩]
      · by_cases e4 : c = b
        · subst e3; subst e4
          rw [if_neg (by omega), if_neg (by omega), if_neg (by omega), if_pos (by omega), if_pos ⟨Or.inr rfl, Or.inr rfl⟩]
        · subst e3
          rw [if_neg (by omega), if_neg (by omega), if_neg (by omega), if_neg (by omega), if_neg (by omega)]
    · rw [if_neg (by omega), if_neg (by omega), if_neg (by omega), if_neg (by omega), if_neg (by omega)]
theorem d_cross {Q : St → Prop} {σ : St} {T : Nat → Va} {r c : Nat} {x : Int32} (hr : r < 8) (hc : c < 8) (hT : tAll σ T) (hk : tOk T) (hQ : ∀ τ, (∀ k j, ¬ (41 ≤ k ∧ k ≤ 44) → rd τ k j = rd σ k j) → tAll τ (crT T r c x) → Q τ) : vX7_addToCross Q σ (nI r) (nI c) x := by
  unfold vX7_addToCross vX7_placeOf
  rw [l8', pl_e (r := r) (c := c), pl_e (r := r) (c := 8), pl_e (r := 8) (c := c), pl_e (r := 8) (c := 8), show 9 * 8 + c = 72 + c from rfl, show 9 * 8 + 8 = 80 from rfl]
  refine d_tadd' (by omega) hT (by have := (hk (9 * r + c) (by omega)).1; omega) (hk _ (by omega)).2 (fun τ1 F1 T1 => ?_)
  have e2 : upT T (9 * r + c) x (9 * r + 8) = T (9 * r + 8) := if_neg (by omega)
  refine d_tadd' (by omega) T1 (by rw [e2]; have := (hk (9 * r + 8) (by omega)).1; omega) (by rw [e2]; exact (hk _ (by omega)).2) (fun τ2 F2 T2 => ?_)
  have e3 : upT (upT T (9 * r + c) x) (9 * r + 8) x (72 + c) = T (72 + c) := by
    unfold upT
    rw [if_neg (by omega), if_neg (by omega)]
  refine d_tadd' (by omega) T2 (by rw [e3]; have := (hk (72 + c) (by omega)).1; omega) (by rw [e3]; exact (hk _ (by omega)).2) (fun τ3 F3 T3 => ?_)
  have e4 : upT (upT (upT T (9 * r + c) x) (9 * r + 8) x) (72 + c) x 80 = T 80 := by
    unfold upT
    rw [if_neg (by omega), if_neg (by omega), if_neg (by omega)]
  exact d_tadd' (by omega) T3 (by rw [e4]; have := (hk 80 (by omega)).1; omega) (by rw [e4]; exact (hk _ (by omega)).2) (fun τ4 F4 T4 => hQ τ4 (fun k j hk => ((F4 k j hk).trans (F3 k j hk)).trans ((F2 k j hk).trans (F1 k j hk))) T4)
def cT (M : Mo) (dd dl ad al n : Nat) : Nat → Va := fun p => vals (cp M dd dl (p / 9) ad al (p % 9)) (ms M) n
theorem cT_ok {M : Mo} {dd dl ad al n : Nat} (h : n ≤ 300) : tOk (cT M dd dl ad al n) := fun p _ => ⟨by
  have : (cT M dd dl ad al n p).1 ≤ n := vals_le n
  omega, fun z => by
  have : cT M dd dl ad al n p = (0, 0, 0, 0) := vals_0 n z
  rw [this]⟩
theorem d_tallyT {Q : St → Prop} {σ : St} {M : Mo} (h : CI σ M) {s t : Nat} (hs : s < 2147483648) (ht : t < 2147483648) (hd : s / 10 < nd M) (hdl : s % 10 ≤ tl M (s / 10)) (ha : t / 10 < nd M) (hl : t % 10 ≤ tl M (t / 10))
    (hQ : ∀ τ, CI τ M → tAll τ (cT M (s / 10) (s % 10) (t / 10) (t % 10) (nf M)) → Q τ) : vX8_tallyTable Q σ (nI s) (nI t) := by
  have hW := h.1
  have h3 := hW.2.2.2.2.2.1
  have h4 := hW.1
  unfold vX8_tallyTable
  refine d_tclear (fun τ hF hz => ?_)
  have key : ∀ q f ρ, f ≤ nf M → nf M - f < q → (∀ k j, ¬ (41 ≤ k ∧ k ≤ 44) → rd ρ k j = rd σ k j) → tAll ρ (cT M (s / 10) (s % 10) (t / 10) (t % 10) f) → vX8_tallyTable_L9 Q q ρ (nI s) (nI t) (nI f) := by
    intro q
    induction q with
    | zero => intro f ρ _ h; omega
    | succ q ih =>
      intro f ρ hf hq2 hG hT
      have hI := same41 h hG
      simp only [vX8_tallyTable_L9]
      rw [hI.f, nsucc]
      refine ⟨fun a => ?_, fun a => ?_⟩
      · have e : f = nf M := by
          have : nf M ≤ f := (leI (by omega) (by omega)).mp a
          omega
        rw [e] at hT
        exact hQ ρ hI hT
      · have hlt : f < nf M := lt_of_nle (by omega) (by omega) a
        have r8' := lies_lt hW hd (hW.2.2.2.2.2.2.1 f _ hlt hd) hdl
        have c8' := lies_lt hW ha (hW.2.2.2.2.2.2.1 f _ hlt ha) hl
        refine d_insight hI hlt ⟨fun b => ?_, fun b => d_homeOn hI hs hd hdl hlt (d_homeOn hI ht ha hl hlt (d_measureOf hI hlt (d_cross r8' c8' hT (cT_ok (by omega)) (fun ρ' hF' hT' => ?_))))⟩
        · refine ih (f + 1) ρ (by omega) (by omega) hG (fun p hp => ?_)
          have : cT M (s / 10) (s % 10) (t / 10) (t % 10) (f + 1) p = cT M (s / 10) (s % 10) (t / 10) (t % 10) f p := vals_f (by unfold cp; rw [b2i_0.mp b]; rfl)
          rw [this]; exact hT p hp
        · refine ih (f + 1) ρ' (by omega) (by omega) (fun k j hk => (hF' k j hk).trans (hG k j hk)) (fun p hp => ?_)
          have g := hT' p hp
          have ep : 9 * (p / 9) + p % 9 = p := by omega
          have c := crT_at (T := cT M (s / 10) (s % 10) (t / 10) (t % 10) f) (x := ms M f) r8' c8' (a := p / 9) (b := p % 9) (by omega) (by omega)
          rw [ep] at c
          rw [c] at g
          by_cases z : (p / 9 = 8 ∨ liesM M (s / 10) (wh M f (s / 10)) (s % 10) = p / 9) ∧ (p % 9 = 8 ∨ liesM M (t / 10) (wh M f (t / 10)) (t % 10) = p % 9)
          · rw [if_pos z] at g
            have : cT M (s / 10) (s % 10) (t / 10) (t % 10) (f + 1) p = addV (cT M (s / 10) (s % 10) (t / 10) (t % 10) f p) (ms M f) := vals_t (by unfold cp; rw [b2i_n0 b]; simpa using z)
            rw [this]; exact g
          · rw [if_neg z] at g
            have : cT M (s / 10) (s % 10) (t / 10) (t % 10) (f + 1) p = cT M (s / 10) (s % 10) (t / 10) (t % 10) f p := vals_f (by
              cases e : cp M (s / 10) (s % 10) (p / 9) (t / 10) (t % 10) (p % 9) f with
              | false => rfl
              | true => unfold cp at e; rw [b2i_n0 b] at e; exact absurd (by simpa using e) z)
            rw [this]; exact g
  refine ⟨nf M + 1, key (nf M + 1) 0 τ (by omega) (by omega) (fun k j hk => hF k j (fun e => hk (by omega))) (fun p hp => ⟨hz p hp, fun z => absurd rfl z⟩)⟩
theorem d_wcell {Q : St → Prop} {σ : St} {M : Mo} {L : List Nat} {p y : Nat} {T : Nat → Va} (h : CI σ (oM M L)) (hT : tAll σ T) (hp : p < 81) (hy : y < 4) (hb : (T p).1 < 1000) (hbd : -1000000 < (vV (T p) y).toInt ∧ (vV (T p) y).toInt < 1000000) (hlen : L.length + 7 ≤ 648) (hcl : (cS (T p) y).length ≤ 7)
    (hQ : ∀ τ, CI τ (oM M (L ++ cS (T p) y)) → tAll τ T → Q τ) : vX8_writeCell Q σ (nI p) (nI y) := by
  have keep : ∀ τ : St, (∀ k j, k < 45 → rd τ k j = rd σ k j) → tAll τ T := fun τ hF q hq => by
    have g := hT q hq
    refine ⟨by rw [hF _ _ (by decide)]; exact g.1, fun z => ?_⟩
    rw [hF _ _ (by decide), hF _ _ (by decide), hF _ _ (by decide)]; exact g.2 z
  unfold vX8_writeCell
  unfold cS at hQ hcl
  refine d_isEmpty hp hb (hT p hp) ⟨fun a => ?_, fun a => ?_⟩
  · have q : ¬ (T p).1 = 0 := by simpa using b2i_0.mp a
    rw [if_neg q] at hQ hcl
    exact d_valueOf hp hy q (hT p hp) (d_num hbd.1 hbd.2 h (by omega) (fun τ h2 hF => hQ τ h2 (keep τ hF)))
  · have q : (T p).1 = 0 := by simpa using b2i_n0 a
    rw [if_pos q] at hQ
    rw [l46]
    exact d_put h (by omega) (by decide) (fun τ h2 hF => hQ τ h2 (keep τ hF))
theorem tkeep {σ τ : St} {T : Nat → Va} (hT : tAll σ T) (hF : ∀ k j, k < 45 → rd τ k j = rd σ k j) : tAll τ T := fun q hq => by
  have g := hT q hq
  refine ⟨by rw [hF _ _ (by decide)]; exact g.1, fun z => ?_⟩
  rw [hF _ _ (by decide), hF _ _ (by decide), hF _ _ (by decide)]; exact g.2 z
theorem cT_at {M : Mo} {dd dl ad al r c : Nat} (hc : c ≤ 8) : cT M dd dl ad al (nf M) (9 * r + c) = cv M dd dl r ad al c := by
  unfold cT cv
  rw [show (9 * r + c) / 9 = r by omega, show (9 * r + c) % 9 = c by omega]
theorem d_row {Q : St → Prop} {K : St → Int32 → Int32 → Int32 → Int32 → Prop} {M : Mo} {dd dl ad al y rows cols i : Nat} (hW : WF M) (hy : y < 4) (hrow : rows ≤ 8) (hcol : cols ≤ 8) (hi : i ≤ rows)
    {σ : St} {L : List Nat} (h : CI σ (oM M L)) (hT : tAll σ (cT M dd dl ad al (nf M))) (hlen : L.length + 8 * (cols + 1) ≤ 648) (hQ : ∀ τ, CI τ (oM M (L ++ (linS (ctx M dd dl ad al y (lnOf rows i)) cols ++ (ctx M dd dl ad al y (lnOf rows i) 8 ++ [10])))) → tAll τ (cT M dd dl ad al (nf M)) → K τ (nI rows) (nI cols) (nI y) (nI (i + 1))) :
    ∃ e, vX8_writeTable_L34 Q K e σ (nI rows) (nI cols) (nI y) (nI i) (nI (lnOf rows i)) 0 := by
  have h3 := hW.2.2.2.2.2.1
  have hR8 := ln8 (rows := rows) (i := i) hrow
  have cl := ctx_len hW (dd := dd) (dl := dl) (ad := ad) (al := al) (y := y)
  have key : ∀ q j σ, j ≤ cols → cols - j < q → CI σ (oM M (L ++ linS (ctx M dd dl ad al y (lnOf rows i)) j)) → tAll σ (cT M dd dl ad al (nf M)) → vX8_writeTable_L34 Q K q σ (nI rows) (nI cols) (nI y) (nI i) (nI (lnOf rows i)) (nI j) := by
    intro q
    induction q with
    | zero => intro j σ _ h; omega
    | succ q ih =>
      intro j σ hj hq hI hT
      have ll := lin_len (cs := ctx M dd dl ad al y (lnOf rows i)) (cl _) j
      have hlenj : (L ++ linS (ctx M dd dl ad al y (lnOf rows i)) j).length + 8 ≤ 648 := by rw [List.length_append]; omega
      have cell : ∀ c, c ≤ 8 → ∀ Q', (∀ τ, CI τ (oM M ((L ++ linS (ctx M dd dl ad al y (lnOf rows i)) j) ++ ctx M dd dl ad al y (lnOf rows i) c)) → tAll τ (cT M dd dl ad al (nf M)) → Q' τ) → vX8_writeCell Q' σ (nI (9 * lnOf rows i + c)) (nI y) := fun c hc Q' hq' => by
        have e := cT_at (M := M) (dd := dd) (dl := dl) (ad := ad) (al := al) (r := lnOf rows i) hc
        have hvl : (cv M dd dl (lnOf rows i) ad al c).1 ≤ nf M := vals_le (nf M)
        have hbd : -1000000 < (vV (cv M dd dl (lnOf rows i) ad al c) y).toInt ∧ (vV (cv M dd dl (lnOf rows i) ad al c) y).toInt < 1000000 := vV_bd hW
        refine d_wcell hI hT (by omega) hy (by rw [e]; omega) (by rw [e]; exact hbd) (by omega) (by rw [e]; exact cl _ _) (fun τ h1 h2 => hq' τ ?_ h2)
        rw [e] at h1; exact h1
      simp only [vX8_writeTable_L34, vX7_placeOf]
      rw [l8', pl_e, pl_e, nsucc, nsucc]
      refine ⟨fun a => ?_, fun a => ?_⟩
      · have e : j = cols := by
          have : cols ≤ j := (leI (by omega) (by omega)).mp a
          omega
        have l8 := cl (lnOf rows i) 8
        refine cell 8 (Nat.le_refl _) _ (fun τ h1 h2 => ?_)
        rw [l10]
        refine d_put h1 (by rw [List.length_append]; omega) (by decide) (fun ρ h5 hF => hQ ρ ?_ (tkeep h2 hF))
        rw [e] at h5
        simp only [List.append_assoc] at h5
        exact h5
      · have hjc : j < cols := lt_of_nle (by omega) (by omega) a
        have lj := cl (lnOf rows i) j
        refine cell j (by omega) _ (fun τ h1 h2 => ?_)
        rw [l32]
        refine d_put h1 (by rw [List.length_append]; omega) (by decide) (fun ρ h5 hF => ih (j + 1) ρ (by omega) (by omega) ?_ (tkeep h2 hF))
        simp only [List.append_assoc] at h5
        exact h5
  exact ⟨cols + 1, key (cols + 1) 0 σ (by omega) (by omega) (by simpa [linS] using h) hT⟩
theorem d_tab {Q : St → Prop} {M : Mo} {dd dl ad al y rows cols : Nat} (hW : WF M) (hy : y < 4) (hrow : rows ≤ 8) (hcol : cols ≤ 8)
    {σ : St} (h0 : CI σ M) (hT0 : tAll σ (cT M dd dl ad al (nf M))) (hQ : ∀ τ, CI τ (oM M (tabS (ctx M dd dl ad al y) rows cols (rows + 1))) → Q τ) : vX8_writeTable Q σ (nI rows) (nI cols) (nI y) := by
  have cl := ctx_len hW (dd := dd) (dl := dl) (ad := ad) (al := al) (y := y)
  have key : ∀ q i σ, i ≤ rows + 1 → rows + 1 - i < q → CI σ (oM M (tabS (ctx M dd dl ad al y) rows cols i)) → tAll σ (cT M dd dl ad al (nf M)) → vX8_writeTable_L10 Q q σ (nI rows) (nI cols) (nI y) (nI i) := by
    intro q
    induction q with
    | zero => intro i σ _ h; omega
    | succ q ih =>
      intro i σ hi hq hI hT
      have tlen := tab_len (rows := rows) (cols := cols) cl hcol i
      simp only [vX8_writeTable_L10]
      refine ⟨fun a => ?_, fun a => ?_⟩
      · have e : i = rows + 1 := by
          have := (ltI (a := rows) (b := i) (by omega) (by omega)).mp a
          omega
        subst e
        exact hQ σ hI
      · have hle : i ≤ rows := by
          rcases Nat.lt_or_ge rows i with z | z
          · exact absurd ((ltI (by omega) (by omega)).mpr z) a
          · exact z
        have R : ∃ e34, vX8_writeTable_L34 Q (fun σ x1 x2 x3 x4 => vX8_writeTable_L10 Q q σ x1 x2 x3 x4) e34 σ (nI rows) (nI cols) (nI y) (nI i) (nI (lnOf rows i)) 0 := d_row (dd := dd) (dl := dl) (ad := ad) (al := al) hW hy hrow hcol hle hI hT (by omega) (fun τ h1 h2 => ih (i + 1) τ (by omega) (by omega) h1 h2)
        refine ⟨fun z => ?_, fun z => ?_⟩
        · have : lnOf rows i = 8 := if_neg (by have := (leI (a := rows) (b := i) (by omega) (by omega)).mp z; omega)
          rw [this] at R; exact R
        · have : lnOf rows i = i := if_pos (lt_of_nle (by omega) (by omega) z)
          rw [this] at R; exact R
  unfold vX8_writeTable vX5_clear
  exact ⟨rows + 2, key (rows + 2) 0 _ (by omega) (by omega) h0.clr (tkeep hT0 (fun k j hk => rd_ne (by omega)))⟩
/-! sides -/
def sdOk (M : Mo) (s : Nat) : Prop := s / 10 < nd M ∧ s % 10 ≤ tl M (s / 10)
theorem d_sideT {Q : Option Nat → St → Prop} {σ : St} {M : Mo} (h : CI σ M) {s : Nat} (hs : s < 2147483648) (hk : sdOk M s) (hQ : Q (some (2 + 4 * (s / 10))) σ) : vX8_sideOf Q σ (nI s) := by
  have h4 := h.1.1
  unfold vX8_sideOf
  rw [(side_e hs).2, (side_e hs).1]
  have hd := hk.1
  exact ⟨fun _ => d_findT h hk.1 (cm_some ⟨dimk_of (by omega), d_hasLevelT h hk.1 hk.2 (t1 hQ)⟩), fun z => absurd (i_le.mpr (by rw [c0, nT hs]; omega)) z⟩
theorem d_sideF {Q : Option Nat → St → Prop} {σ : St} {M : Mo} (h : CI σ M) {x : Int32} (hx : ∀ s : Nat, s < 2147483648 → x = nI s → ¬ sdOk M s) (hQ : Q none σ) : vX8_sideOf Q σ x := by
  have h4 := h.1.1
  unfold vX8_sideOf
  refine ⟨fun a => ?_, fun _ => hQ⟩
  obtain ⟨s, hs, rfl⟩ := nI_of (x := x) (fun q => by
    have := i_lt.mp q
    have := i_le.mp a
    omega)
  have hs' : s < 2147483648 := by omega
  rw [(side_e hs').2, (side_e hs').1]
  by_cases hd : s / 10 < nd M
  · have : ¬ s % 10 ≤ tl M (s / 10) := fun z => hx s hs' rfl ⟨hd, z⟩
    exact d_findT h hd (cm_some ⟨dimk_of (by omega), d_hasLevelF h hd (by rw [nT (by omega)]; omega) (t0 hQ)⟩)
  · exact d_findF h (by rw [nT (by omega)]; omega) (cm_none hQ)
theorem d_sideA {Q : Option Nat → St → Prop} {σ : St} {M : Mo} (h : CI σ M) {x : Int32} (hQ : ∀ r, Q r σ) : vX8_sideOf Q σ x := by
  by_cases hx : ∃ s : Nat, s < 2147483648 ∧ x = nI s ∧ sdOk M s
  · obtain ⟨s, hs, rfl, hk⟩ := hx
    exact d_sideT h hs hk (hQ _)
  · exact d_sideF h (fun s hs e hk => hx ⟨s, hs, e, hk⟩) (hQ _)
theorem k9_sideT {Q : Int32 → St → Prop} {σ : St} {M : Mo} (h : RI σ M) {s : Nat} (hs : s < 2147483648) (hk : sdOk M s) (hQ : Q 1 σ) : vX9_isSide Q σ (nI s) := by
  have h4 := h.1.1
  have hd := hk.1
  have hw := wid_pos h.1 hk.1 hk.2
  have hw8 := wid8 h.1 hk.1 (l := s % 10)
  unfold vX9_isSide
  rw [(side_e hs).2, (side_e hs).1]
  refine ⟨fun z => ?_, fun _ => k9_dimT h hk.1 (t1 (k9_manyT h hk.1 hk.2 ⟨fun z => absurd z (le0n hw (by omega)), fun _ => hQ⟩))⟩
  have := i_lt.mp z; rw [c0, nT hs] at this; omega
theorem k9_sideF {Q : Int32 → St → Prop} {σ : St} {M : Mo} (h : RI σ M) {x : Int32} (hx : ∀ s : Nat, s < 2147483648 → x = nI s → ¬ sdOk M s) (hQ : Q 0 σ) : vX9_isSide Q σ x := by
  have h4 := h.1.1
  unfold vX9_isSide
  refine ⟨fun _ => hQ, fun a => ?_⟩
  obtain ⟨s, hs, rfl⟩ := nI_of a
  have hs' : s < 2147483648 := by omega
  rw [(side_e hs').2, (side_e hs').1]
  by_cases hd : s / 10 < nd M
  · have : ¬ s % 10 ≤ tl M (s / 10) := fun z => hx s hs' rfl ⟨hd, z⟩
    exact k9_dimT h hd (t1 (k9_manyF h hd (by rw [nT (by omega)]; omega) ⟨fun _ => hQ, fun z => absurd (by decide) z⟩))
  · exact k9_dimF h (by rw [nT (by omega)]; omega) (t0 hQ)
theorem st_table {M : Mo} (hW : WF M) (x y z : Int32) : BSt M (fun Q σ => vX8_table Q σ x y z) (fun Q σ => vX9_table Q σ x y z) := by
  have e3 : (3 : Int32).toInt = 3 := by decide
  have h4 := hW.1
  by_cases hx : ∃ s : Nat, s < 2147483648 ∧ x = nI s ∧ sdOk M s
  · obtain ⟨s, hs, rfl, hk⟩ := hx
    by_cases hy : ∃ t : Nat, t < 2147483648 ∧ y = nI t ∧ sdOk M t
    · obtain ⟨t, ht, rfl, hj⟩ := hy
      have hd := hk.1
      have ha := hj.1
      have hr8 := wid8 hW hk.1 (l := s % 10)
      have hc8 := wid8 hW hj.1 (l := t % 10)
      rcases inOr z 4 (by decide) with ⟨w, hw, rfl⟩ | hz
      · refine ⟨nI (tabS (ctx M (s / 10) (s % 10) (t / 10) (t % 10) w) (wid M (s / 10) (s % 10)) (wid M (t / 10) (t % 10)) (wid M (s / 10) (s % 10) + 1)).length, oM M (tabS (ctx M (s / 10) (s % 10) (t / 10) (t % 10) w) (wid M (s / 10) (s % 10)) (wid M (t / 10) (t % 10)) (wid M (s / 10) (s % 10) + 1)), fun σ Q h hq => ?_, fun σ Q h hq => ?_⟩
        · show vX8_table Q σ (nI s) (nI t) (nI w)
          unfold vX8_table vX8_isValue
          refine d_sideT h hs hk (cm_some (d_sideT h ht hj (cm_some ⟨fun a => ?_, fun _ => ⟨fun a => ?_, fun _ => t1 (d_tallyT h hs ht hk.1 hk.2 hj.1 hj.2 (fun τ hI hT => ⟨dimk_of (by omega), ?_⟩))⟩⟩)))
          · have := i_lt.mp a; rw [c0, nT (by omega)] at this; omega
          · have := i_lt.mp a; rw [e3, nT (by omega)] at this; omega
          rw [(side_e hs).2, (side_e ht).2]
          refine d_widthOfT hI hk.1 hk.2 ⟨dimk_of (by omega), d_widthOfT hI hj.1 hj.2 (d_tab hW hw hr8 hc8 hI hT (fun ρ h1 => ?_))⟩
          rw [h1.oo]
          exact hq ρ h1
        · show vX9_table Q σ (nI s) (nI t) (nI w)
          unfold vX9_table
          refine k9_sideT h.w0 hs hk (t1 (k9_sideT h.w0 ht hj (t1 (k9_inT (by rw [c0, nT (by omega)]; omega) (by rw [nT (by omega), e3]; omega) (t1 ?_)))))
          rw [(side_e hs).2, (side_e hs).1]
          have hI := h.w0.clr
          refine k9_manyT (M := oM M []) hI hk.1 hk.2 ?_
          rw [(side_e ht).2, (side_e ht).1]
          refine k9_manyT (M := oM M []) hI hj.1 hj.2 ?_
          exact k9_tab hW hs ht hk.1 hk.2 hj.1 hj.2 hw hr8 hc8 hI hq
      · refine ⟨(-2000000002), M, fun σ Q h hq => ?_, fun σ Q h hq => ?_⟩
        · show vX8_table Q σ (nI s) (nI t) z
          unfold vX8_table vX8_isValue
          refine d_sideT h hs hk (cm_some (d_sideT h ht hj (cm_some ⟨fun _ => t0 (hq σ h), fun a => ⟨fun _ => t0 (hq σ h), fun b => ?_⟩⟩)))
          have a' : ¬ z.toInt < 0 := fun q => a (i_lt.mpr (by rw [c0]; exact q))
          have b' : ¬ (3 : Int32).toInt < z.toInt := fun q => b (i_lt.mpr q)
          rw [e3] at b'
          omega
        · show vX9_table Q σ (nI s) (nI t) z
          unfold vX9_table
          exact k9_sideT h.w0 hs hk (t1 (k9_sideT h.w0 ht hj (t1 (k9_inF (by rw [c0, e3]; omega) (t0 (hq _ h.w0))))))
    · have hy' : ∀ t : Nat, t < 2147483648 → y = nI t → ¬ sdOk M t := fun t ht e hj => hy ⟨t, ht, e, hj⟩
      refine ⟨(-2000000002), M, fun σ Q h hq => ?_, fun σ Q h hq => ?_⟩
      · show vX8_table Q σ (nI s) y z
        unfold vX8_table
        exact d_sideT h hs hk (cm_some (d_sideF h hy' (cm_none (hq σ h))))
      · show vX9_table Q σ (nI s) y z
        unfold vX9_table
        exact k9_sideT h.w0 hs hk (t1 (k9_sideF h.w0 hy' (t0 (hq _ h.w0))))
  · have hx' : ∀ t : Nat, t < 2147483648 → x = nI t → ¬ sdOk M t := fun t ht e hj => hx ⟨t, ht, e, hj⟩
    refine ⟨(-2000000002), M, fun σ Q h hq => ?_, fun σ Q h hq => ?_⟩
    · show vX8_table Q σ x y z
      unfold vX8_table
      exact d_sideF h hx' (cm_none (d_sideA h (fun r => ⟨fun _ => hq σ h, fun _ _ => hq σ h⟩)))
    · show vX9_table Q σ x y z
      unfold vX9_table
      exact k9_sideF h.w0 hx' (t0 (hq _ h.w0))

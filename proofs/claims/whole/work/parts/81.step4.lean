/-! ===== parent, dimension, level ===== -/
def paM (M : Mo) (d l m q : Nat) : Mo := setPa M (fun a b c => if a = d ∧ b = l ∧ c = m then q else pa M a b c)
theorem paM_o {M : Mo} {d l m q e : Nat} (h : e ≠ d) : pa (paM M d l m q) e = pa M e := by
  funext b c
  show (if e = d ∧ b = l ∧ c = m then q else pa M e b c) = pa M e b c
  rw [if_neg (fun z => h z.1)]

theorem WF.par {M : Mo} (hW : WF M) {d l m q : Nat} (hd : d < nd M) (hl : l + 1 < tl M d) (hq : q < mb M d (l + 1)) : WF (paM M d l m q) := ⟨hW.1, hW.2.1, hW.2.2.1, fun a b c ha hb => (by
  show (if a = d ∧ b = l ∧ c = m then q else pa M a b c) < mb M a (b + 1)
  by_cases z : a = d ∧ b = l ∧ c = m
  · rw [if_pos z, z.1, z.2.1]; exact hq
  · rw [if_neg z]; exact hW.2.2.2.1 a b c ha hb), fun a b c hab => (by
  show (if a = d ∧ b = l ∧ c = m then q else pa M a b c) = 0
  have hab1 : nd M ≤ a ∨ tl M a ≤ b + 1 := hab
  by_cases z : a = d ∧ b = l ∧ c = m
  · obtain ⟨z1, z2, _⟩ := z
    subst z1; subst z2
    omega
  · rw [if_neg z]; exact hW.2.2.2.2.1 a b c hab), hW.2.2.2.2.2.1, hW.2.2.2.2.2.2.1, hW.2.2.2.2.2.2.2.1, hW.2.2.2.2.2.2.2.2.1, hW.2.2.2.2.2.2.2.2.2.1, hW.2.2.2.2.2.2.2.2.2.2.1, hW.2.2.2.2.2.2.2.2.2.2.2.1, hW.2.2.2.2.2.2.2.2.2.2.2.2⟩
theorem CI.par {σ τ : St} {M : Mo} (h : CI σ M) {d0 l0 m0 q0 : Nat} (hd0 : d0 < nd M) (hl0 : l0 + 1 < tl M d0) (hm0 : m0 < 8) (hq0 : q0 < mb M d0 (l0 + 1)) (hs : setSz τ) (e : ∀ j i, (j ≠ 24 ∧ j ≠ 2 + 4 * d0 + 2 ∧ j ≠ 2 + 4 * d0 + 3) → rd τ j i = rd σ j i) (e1 : ∀ i, rd τ (2 + 4 * d0 + 2) i = if i = 8 * l0 + m0 then nI q0 else rd σ (2 + 4 * d0 + 2) i) (e2 : ∀ l m, l ≤ tl M d0 → m < mb M d0 0 → rd τ (2 + 4 * d0 + 3) (8 * l + m) = nI (upM (pa (paM M d0 l0 m0 q0) d0) m l)) : CI τ (paM M d0 l0 m0 q0) := by
  have h4 := h.1.1
  have hW' := h.1.par (m := m0) hd0 hl0 hq0
  refine ⟨hW', ?_, ?_, ?_, ?_, ?_, ?_, ?_, ?_, ?_, ?_, ?_, ?_, ?_, ?_, ?_, ?_, ?_⟩
  · rw [e _ _ (by omega)]
    exact h.n
  · intro d hd
    have hd1 : d < nd M := hd
    rw [e _ _ (by omega), e _ _ (by omega), e _ _ (by omega)]
    exact h.dm hd1
  · intro d l hd hl
    have hd1 : d < nd M := hd
    rw [e _ _ (by omega)]
    exact h.wd hd1 hl
  · intro d l m hd hl hm
    show _ = nI (if d = d0 ∧ l = l0 ∧ m = m0 then q0 else pa M d l m)
    by_cases z : d = d0
    · subst z
      rw [e1]
      by_cases y : l = l0 ∧ m = m0
      · rw [if_pos (by omega), if_pos ⟨rfl, y⟩]
      · rw [if_neg (by omega), if_neg (fun w => y w.2)]
        exact h.pr hd hl hm
    · rw [e _ _ (by omega), if_neg (fun w => z w.1)]
      exact h.pr hd hl hm
  · intro d l m hd hl hm
    have hd1 : d < nd M := hd
    rw [lies_up hW' hd hl]
    by_cases z : d = d0
    · subst z
      exact e2 l m hl hm
    · rw [e _ _ (by omega), paM_o z, ← lies_up h.1 hd1 hl]
      exact h.hm hd1 hl hm
  · rw [e _ _ (by omega)]
    exact h.f
  · rw [e _ _ (by omega)]
    exact h.fp
  · intro f hf
    rw [e _ _ (by omega), e _ _ (by omega), e _ _ (by omega)]
    exact h.fa hf
  · intro f hf h3
    rw [e _ _ (by omega)]
    exact h.fg hf h3
  · rw [e _ _ (by omega)]
    exact h.t
  · intro c hc
    rw [e _ _ (by omega)]
    exact h.lv hc
  · intro c hc
    have h1 : c < tot M := hc
    have h2 := tot_le h.1
    exact Or.inl (hs c (by omega))
  · intro c hc
    rw [e _ _ (by omega)]
    exact h.kk hc
  · intro d hd
    rw [e _ _ (by omega)]
    exact h.pp hd
  · rw [e _ _ (by omega)]
    exact h.rr
  · rw [e _ _ (by omega)]
    exact h.oo
  · intro i hi
    rw [e _ _ (by omega)]
    exact h.ou hi
theorem RI.par {σ : St} {M : Mo} (h : RI σ M) {d0 l0 m0 q0 : Nat} (hd0 : d0 < nd M) (hl0 : l0 + 1 < tl M d0) (hm0 : m0 < 8) (hq0 : q0 < mb M d0 (l0 + 1)) : RI (wr σ 3 (24 * d0 + 8 * l0 + m0) (nI q0)) (paM M d0 l0 m0 q0) := by
  have h4 := h.1.1
  have ht := (h.1.2.1 d0 hd0).2
  have e : ∀ j i, j ≠ 3 → rd (wr σ 3 (24 * d0 + 8 * l0 + m0) (nI q0)) j i = rd σ j i := fun j i hj => rd_ne hj
  refine ⟨h.1.par hd0 hl0 hq0, ?_, ?_, ?_, ?_, ?_, ?_, ?_, ?_, ?_, ?_, ?_, ?_⟩
  · rw [e _ _ (by omega)]
    exact h.2.1
  · rw [e _ _ (by omega)]
    exact h.2.2.1
  · rw [e _ _ (by omega)]
    exact h.2.2.2.1
  · rw [e _ _ (by omega)]
    exact h.2.2.2.2.1
  · intro d hd
    rw [e _ _ (by omega), e _ _ (by omega), e _ _ (by omega)]
    exact h.2.2.2.2.2.1 d hd
  · intro d hd
    rw [e _ _ (by omega)]
    exact h.2.2.2.2.2.2.1 d hd
  · intro d l hd hl
    rw [e _ _ (by omega)]
    exact h.2.2.2.2.2.2.2.1 d l hd hl
  · intro d l m hd hl hm
    show _ = nI (if d = d0 ∧ l = l0 ∧ m = m0 then q0 else pa M d l m)
    by_cases z : d = d0 ∧ l = l0 ∧ m = m0
    · obtain ⟨z1, z2, z3⟩ := z
      subst z1; subst z2; subst z3
      rw [if_pos ⟨rfl, rfl, rfl⟩, rd_eq]
    · rw [if_neg z, rd_nej (by omega)]
      exact h.2.2.2.2.2.2.2.2.1 d l m hd hl hm
  · intro f d hf hd
    rw [e _ _ (by omega)]
    exact h.2.2.2.2.2.2.2.2.2.1 f d hf hd
  · intro f hf
    rw [e _ _ (by omega), e _ _ (by omega)]
    exact h.2.2.2.2.2.2.2.2.2.2.1 f hf
  · intro c hc
    rw [e _ _ (by omega)]
    exact h.2.2.2.2.2.2.2.2.2.2.2.1 c hc
  · intro i hi
    rw [e _ _ (by omega)]
    exact h.2.2.2.2.2.2.2.2.2.2.2.2 i hi
theorem wid_in {M : Mo} {d l : Nat} (h : l < tl M d) : wid M d l = mb M d l := by
  unfold wid
  rw [if_neg (by omega), if_neg (by omega)]
theorem pa8 {M : Mo} (hW : WF M) {d l m : Nat} (hd : d < nd M) : pa M d l m < 8 := by
  by_cases h : l + 1 < tl M d
  · have h1 := hW.2.2.2.1 d l m hd h
    have h2 := (hW.2.2.1 d (l + 1) hd h).2
    omega
  · rw [hW.2.2.2.2.1 d l m (Or.inr (by omega))]
    decide
theorem n2T {n : Nat} (h : n < 1073741824) : (nI n - 2).toInt = (n : Int) - 2 := pk_sub_toInt (a := n) (b := 2) (by omega) (by omega)
theorem st_parent {M : Mo} (hW : WF M) (x y z w : Int32) : BSt M (fun Q σ => vX8_parent Q σ x y z w) (fun Q σ => vX9_parent Q σ x y z w) := by
  have h4 := hW.1
  rcases inOr x (nd M) (by omega) with ⟨d, hd, rfl⟩ | hx
  · have ht := hW.2.1 d hd
    rcases inOr y (tl M d - 1) (by omega) with ⟨l, hl, rfl⟩ | hy
    · have hm8 := hW.2.2.1 d l hd (by omega)
      have hq8 := hW.2.2.1 d (l + 1) hd (by omega)
      have hw1 := wid_in (M := M) (d := d) (l := l) (by omega)
      have hw2 := wid_in (M := M) (d := d) (l := l + 1) (by omega)
      -- the ways in of both sides
      have wayC : ∀ σ Q, CI σ M → vX1_hasMember (2 + 4 * d) (fun r6 σ5 => ((r6 = 0 → Q ((-2000000002)) σ5) ∧ (¬ r6 = 0 → vX1_hasMember (2 + 4 * d) (fun r8 σ7 => ((r8 = 0 → Q ((-2000000002)) σ7) ∧ (¬ r8 = 0 → vX1_hang (2 + 4 * d) (fun r10 σ9 => vX4_forgetSizes (fun σ11 => Q r10 σ11) σ9) σ7 (nI l) z w))) σ5 (nI l + 1) w))) σ (nI l) z → vX8_parent Q σ (nI d) (nI l) z w := fun σ Q h g => by
        unfold vX8_parent
        refine d_findT h hd (cm_some ⟨fun a => ?_, fun _ => ⟨dimk_of (by omega), ?_⟩⟩)
        · have := i_lt.mp a; rw [c0, nT (by omega)] at this; omega
        · rw [(h.dm hd).1, nsub1 (by omega)]
          exact ⟨fun _ => g, fun a => absurd ((ltI (by omega) (by omega)).mpr hl) a⟩
      have wayR : ∀ σ Q, RI σ M → vX9_many (fun r6 σ5 => vX9_in (fun r8 σ7 => ((r8 = 0 → Q ((-2000000002)) σ7) ∧ (¬ r8 = 0 → vX9_many (fun r10 σ9 => vX9_in (fun r12 σ11 => ((r12 = 0 → Q ((-2000000002)) σ11) ∧ (¬ r12 = 0 → vp_in (((24 * nI d) + (8 * nI l)) + z) 96 ∧ vp_in (((24 * nI d) + (8 * nI l)) + z) 96 ∧ Q (rd σ11 3 (((24 * nI d) + (8 * nI l)) + z).toNatClampNeg) (wr σ11 3 (((24 * nI d) + (8 * nI l)) + z).toNatClampNeg w)))) σ9 w 0 (r10 - 1)) σ7 (nI d) (nI l + 1)))) σ5 z 0 (r6 - 1)) (wr σ 0 0 0) (nI d) (nI l) → vX9_parent Q σ (nI d) (nI l) z w := fun σ Q h g => by
        unfold vX9_parent
        refine k9_dimT h.w0 hd (t1 ⟨vin (by omega) (by decide), ?_⟩)
        rw [nC (by omega), (h.w0.2.2.2.2.2.1 d hd).1]
        exact k9_inT (by rw [c0, nT (by omega)]; omega) (by rw [n2T (by omega), nT (by omega)]; omega) (t1 g)
      rcases inOr z (mb M d l) (by omega) with ⟨m, hm, rfl⟩ | hz
      · rcases inOr w (mb M d (l + 1)) (by omega) with ⟨q, hq0, rfl⟩ | hw
        · refine ⟨nI (pa M d l m), paM M d l m q, fun σ Q h hq => wayC σ Q h ?_, fun σ Q h hq => wayR σ Q h ?_⟩
          · refine d_hasMemberT h hd (by omega) (by omega) (t1 ?_)
            rw [nsucc]
            refine d_hasMemberT h hd (by omega) (by omega) (t1 ?_)
            have hWn := hW.par (m := m) hd (show l + 1 < tl M d by omega) hq0
            unfold vX1_hang
            refine d_placeOf (by omega) (by omega) ⟨vin (by omega) (by decide), vin (by omega) (by decide), ?_⟩
            rw [nC (by omega), h.pr (by omega) (by omega) (by omega)]
            refine d_settle (T := tl M d) (W := mb M d 0) (p := pa (paM M d l m q) d) ht.2 (hW.2.2.1 d 0 hd (by omega)).2 ?_ ?_ (fun a b ha hb => ?_) (fun a b _ _ => pa8 (M := paM M d l m q) hWn hd) (fun τ F hh => d_forget (fun τ2 F2 hs => ?_))
            · rw [rd_ne (by omega)]; exact (h.dm hd).1
            · rw [rd_ne (by omega), h.wd hd (by omega), wid0 hW hd]
            · show _ = nI (if d = d ∧ a = l ∧ b = m then q else pa M d a b)
              by_cases y : a = l ∧ b = m
              · rw [y.1, y.2, rd_eq, if_pos ⟨rfl, rfl, rfl⟩]
              · rw [rd_nej (by omega), if_neg (fun c => y c.2)]
                exact h.pr (by omega) (by omega) hb
            · refine hq τ2 (h.par hd (by omega) (by omega) hq0 hs (fun j i hj => ?_) (fun i => ?_) (fun a b ha hb => ?_))
              · rw [F2 j i (by omega), F j i (by omega), rd_ne (by omega)]
              · rw [F2 _ i (by omega), F _ i (by omega), rd_wr]
                by_cases y : i = 8 * l + m
                · rw [if_pos ⟨rfl, y⟩, if_pos y]
                · rw [if_neg (fun c => y c.2), if_neg y]
              · rw [F2 _ _ (by omega)]; exact hh a b ha hb
          · refine k9_manyT h.w0 hd (by omega) ?_
            rw [hw1]
            refine k9_inT (by rw [c0, nT (by omega)]; omega) (by rw [n1T (by omega), nT (by omega)]; omega) (t1 ?_)
            rw [nsucc]
            refine k9_manyT h.w0 hd (by omega) ?_
            rw [hw2]
            refine k9_inT (by rw [c0, nT (by omega)]; omega) (by rw [n1T (by omega), nT (by omega)]; omega) (t1 ?_)
            rw [l24, l8, pk_mul, pk_mul, nI_add, nI_add, nC (by omega), h.w0.2.2.2.2.2.2.2.2.1 d l m (by omega) (by omega) (by omega)]
            exact ⟨vin (by omega) (by decide), vin (by omega) (by decide), hq _ (h.w0.par hd (by omega) (by omega) hq0)⟩
        · refine ⟨(-2000000002), M, fun σ Q h hq => wayC σ Q h ?_, fun σ Q h hq => wayR σ Q h ?_⟩
          · refine d_hasMemberT h hd (by omega) (by omega) (t1 ?_)
            rw [nsucc]
            exact d_hasMemberF h hd (by omega) (by rw [hw2]; exact hw) (t0 (hq σ h))
          · refine k9_manyT h.w0 hd (by omega) ?_
            rw [hw1]
            refine k9_inT (by rw [c0, nT (by omega)]; omega) (by rw [n1T (by omega), nT (by omega)]; omega) (t1 ?_)
            rw [nsucc]
            refine k9_manyT h.w0 hd (by omega) ?_
            rw [hw2]
            exact k9_inF (by rw [c0, n1T (by omega)]; omega) (t0 (hq _ h.w0))
      · refine ⟨(-2000000002), M, fun σ Q h hq => wayC σ Q h ?_, fun σ Q h hq => wayR σ Q h ?_⟩
        · exact d_hasMemberF h hd (by omega) (by rw [hw1]; exact hz) (t0 (hq σ h))
        · refine k9_manyT h.w0 hd (by omega) ?_
          rw [hw1]
          exact k9_inF (by rw [c0, n1T (by omega)]; omega) (t0 (hq _ h.w0))
    · refine ⟨(-2000000002), M, fun σ Q h hq => ?_, fun σ Q h hq => ?_⟩
      · show vX8_parent Q σ (nI d) y z w
        unfold vX8_parent
        refine d_findT h hd (cm_some ⟨fun _ => hq σ h, fun a => ⟨dimk_of (by omega), fun b => ?_, fun _ => hq σ h⟩⟩)
        have a' : ¬ y.toInt < 0 := fun q => a (i_lt.mpr (by rw [c0]; exact q))
        have b' := i_lt.mp b
        rw [(h.dm hd).1, n1T (by omega)] at b'
        omega
      · show vX9_parent Q σ (nI d) y z w
        unfold vX9_parent
        refine k9_dimT h.w0 hd (t1 ⟨vin (by omega) (by decide), ?_⟩)
        rw [nC (by omega), (h.w0.2.2.2.2.2.1 d hd).1]
        exact k9_inF (by rw [c0, n2T (by omega)]; omega) (t0 (hq _ h.w0))
  · refine ⟨(-2000000002), M, fun σ Q h hq => ?_, fun σ Q h hq => ?_⟩
    · show vX8_parent Q σ x y z w
      unfold vX8_parent
      exact d_findF h hx (cm_none (hq σ h))
    · show vX9_parent Q σ x y z w
      unfold vX9_parent
      exact k9_dimF h.w0 hx (t0 (hq _ h.w0))
/-! dimensions and levels come -/
/-- what the store says of the dimensions, all of it -/
def dimsAll (σ : St) (M : Mo) : Prop := rd σ 0 1 = nI (nd M) ∧
  (∀ d, d < nd M → rd σ (2 + 4 * d) 3 = nI (tl M d) ∧ rd σ (2 + 4 * d) 4 = nI (fl M d) ∧ rd σ (2 + 4 * d) 5 = nI (fm M d)) ∧
  (∀ d l, d < nd M → l ≤ tl M d → rd σ (2 + 4 * d + 1) l = nI (wid M d l)) ∧
  (∀ d l m, d < 4 → l < 4 → m < 8 → rd σ (2 + 4 * d + 2) (8 * l + m) = nI (pa M d l m)) ∧
  (∀ d l m, d < nd M → l ≤ tl M d → m < mb M d 0 → rd σ (2 + 4 * d + 3) (8 * l + m) = nI (liesM M d m l))
theorem d_reb {Q : St → Prop} {σ τ : St} {M M' : Mo} (h : CI σ M) (hW' : WF M') (h0 : nf M = 0) (hD : dimsAll τ M') (e : ∀ j i, 18 ≤ j → rd τ j i = rd σ j i) (s1 : M'.2.1 = M.2.1) (s2 : pk M' = pk M) (s3 : kp M' = only0) (s4 : M'.2.2.2.2 = M.2.2.2.2) (hQ : ∀ ρ, CI ρ M' → Q ρ) : vX4_rebuild Q τ := by
  have h4 := hW'.1
  have ht := tot_le hW'
  have sn : nf M' = nf M := congrArg (fun z => z.1) s1
  have sr : re M' = re M := congrArg (fun z => z.1) s4
  have so : ol M' = ol M := congrArg (fun z => z.2.1) s4
  have su : ou M' = ou M := congrArg (fun z => z.2.2) s4
  refine d_rebuild ⟨hW', hD.1, fun d hd => (hD.2.1 d hd).1⟩ (fun ρ F r1 r2 r3 r4 => hQ ρ ?_)
  have g : ∀ j i, j < 18 → rd ρ j i = rd τ j i := fun j i hj => F j i (by omega)
  have g2 : ∀ j i, (18 ≤ j ∧ (j < 22 ∨ 26 ≤ j)) → rd ρ j i = rd σ j i := fun j i hj => (F j i hj.2).trans (e j i hj.1)
  refine ⟨hW', ?_, ?_, ?_, ?_, ?_, ?_, ?_, ?_, ?_, r1, r2, ?_, ?_, ?_, ?_, ?_, ?_⟩
  · rw [g _ _ (by omega)]; exact hD.1
  · intro d hd; rw [g _ _ (by omega), g _ _ (by omega), g _ _ (by omega)]; exact hD.2.1 d hd
  · intro d l hd hl; rw [g _ _ (by omega)]; exact hD.2.2.1 d l hd hl
  · intro d l m hd hl hm; rw [g _ _ (by omega)]; exact hD.2.2.2.1 d l m hd hl hm
  · intro d l m hd hl hm; rw [g _ _ (by omega)]; exact hD.2.2.2.2 d l m hd hl hm
  · rw [g2 _ _ (by omega), sn]; exact h.f
  · rw [g2 _ _ (by omega), sn, h.fp, h0]; rfl
  · intro f hf; rw [sn, h0] at hf; omega
  · intro f hf h3; rw [g2 _ _ (by omega)]; exact h.fg (by omega) h3
  · intro c hc; exact Or.inl (r3 c (by omega))
  · intro c hc; rw [s3]; exact r4 c hc
  · intro d hd; rw [g2 _ _ (by omega), s2]; exact h.pp hd
  · rw [g2 _ _ (by omega), sr]; exact h.rr
  · rw [g2 _ _ (by omega), so]; exact h.oo
  · intro i hi
    rw [so] at hi
    rw [g2 _ _ (by omega), su]
    exact h.ou hi
theorem d_topAt {Q : St → Prop} {σ : St} {k T W : Nat} {p : Nat → Nat → Nat} (h1 : 1 ≤ T) (hT : T ≤ 3) (hW : W ≤ 8) (hw : rd σ (k + 1) 0 = nI W) (hp : ∀ l m, l < T → m < 8 → rd σ (k + 2) (8 * l + m) = nI (p l m)) (hp8 : ∀ l m, l < T → m < 8 → p l m < 8)
    (hQ : ∀ τ, (∀ j i, (j ≠ k + 3 ∧ ¬ (j = k ∧ (i = 3 ∨ i = 4 ∨ i = 5)) ∧ ¬ (j = k + 1 ∧ i = T)) → rd τ j i = rd σ j i) → rd τ k 3 = nI T → rd τ k 4 = nI T → rd τ k 5 = 0 → rd τ (k + 1) T = 1 → (∀ l m, l ≤ T → m < W → rd τ (k + 3) (8 * l + m) = nI (upM p m l)) → Q τ) : vX1_topAt k Q σ (nI T) := by
  unfold vX1_topAt vX1_setFilter
  rw [nC (by omega)]
  refine ⟨vin (by omega) (by decide), d_settle (T := T) (W := W) (p := p) hT hW ?_ ?_ (fun l m hl hm => ?_) hp8 (fun τ F hh => hQ τ (fun j i hj => ?_) ?_ ?_ ?_ ?_ hh)⟩
  · rw [rd_nej (by decide), rd_nej (by decide), rd_ne (by omega), rd_eq]
  · rw [rd_ne (by omega), rd_ne (by omega), rd_nej (by omega), rd_ne (by omega)]; exact hw
  · rw [rd_ne (by omega), rd_ne (by omega), rd_ne (by omega), rd_ne (by omega)]; exact hp l m hl hm
  · rw [F j i (by omega), rd_wr, rd_wr, rd_wr, rd_wr, if_neg (by omega), if_neg (by omega), if_neg (by omega), if_neg (by omega)]
  · rw [F _ _ (by omega), rd_nej (by decide), rd_nej (by decide), rd_ne (by omega), rd_eq]
  · rw [F _ _ (by omega), rd_nej (by decide), rd_eq]
  · rw [F _ _ (by omega), rd_eq]
  · rw [F _ _ (by omega), rd_ne (by omega), rd_ne (by omega), rd_eq]
def dimM (M : Mo) (n : Nat) : Mo := ((nd M + 1, up1 (tl M) (nd M) 1, (fun d l => if d = nd M ∧ l = 0 then n else mb M d l), pa M), M.2.1, (pk M, up1 (fl M) (nd M) 1, up1 (fm M) (nd M) 0), only0, M.2.2.2.2)
theorem dimM_tl {M : Mo} {n d : Nat} (h : d ≠ nd M) : tl (dimM M n) d = tl M d := up1_n h
theorem dimM_tn {M : Mo} {n : Nat} : tl (dimM M n) (nd M) = 1 := up1_s
theorem dimM_mb {M : Mo} {n d l : Nat} (h : d ≠ nd M) : mb (dimM M n) d l = mb M d l := if_neg (fun q => h q.1)
theorem dimM_mn {M : Mo} {n : Nat} : mb (dimM M n) (nd M) 0 = n := if_pos ⟨rfl, rfl⟩
theorem dimM_wid {M : Mo} {n d l : Nat} (h : d ≠ nd M) : wid (dimM M n) d l = wid M d l := by unfold wid; rw [dimM_tl h, dimM_mb h]
theorem dimM_w0 {M : Mo} {n : Nat} : wid (dimM M n) (nd M) 0 = n := by
  unfold wid
  rw [dimM_tn, if_neg (by decide), if_neg (by decide), dimM_mn]
theorem dimM_w1 {M : Mo} {n : Nat} : wid (dimM M n) (nd M) 1 = 1 := by
  unfold wid
  rw [dimM_tn, if_neg (by decide), if_pos rfl]
theorem WF.dim {M : Mo} (hW : WF M) {n : Nat} (h4 : nd M < 4) (h1 : 1 ≤ n) (h8 : n ≤ 8) (h0 : nf M = 0) : WF (dimM M n) := by
  refine ⟨h4, fun d hd => ?_, fun d l hd hl => ?_, fun d l m hd hl => ?_, fun d l m hdl => ?_, hW.2.2.2.2.2.1, fun f d hf => ?_, hW.2.2.2.2.2.2.2.1, hW.2.2.2.2.2.2.2.2.1, fun d hd => ?_, rfl, hW.2.2.2.2.2.2.2.2.2.2.2.1, hW.2.2.2.2.2.2.2.2.2.2.2.2⟩
  · have hd1 : d < nd M + 1 := hd
    by_cases q : d = nd M
    · rw [q, dimM_tn]; decide
    · rw [dimM_tl q]; exact hW.2.1 d (by omega)
  · have hd1 : d < nd M + 1 := hd
    by_cases q : d = nd M
    · subst q
      rw [dimM_tn] at hl
      have : l = 0 := by omega
      subst this
      rw [dimM_mn]; exact ⟨h1, h8⟩
    · rw [dimM_tl q] at hl
      rw [dimM_mb q]; exact hW.2.2.1 d l (by omega) hl
  · have hd1 : d < nd M + 1 := hd
    by_cases q : d = nd M
    · subst q
      rw [dimM_tn] at hl
      omega
    · rw [dimM_tl q] at hl
      rw [dimM_mb q]; exact hW.2.2.2.1 d l m (by omega) hl
  · have hdl1 : nd M + 1 ≤ d ∨ tl (dimM M n) d ≤ l + 1 := hdl
    by_cases q : nd M ≤ d
    · exact hW.2.2.2.2.1 d l m (Or.inl q)
    · rw [dimM_tl (by omega)] at hdl1
      exact hW.2.2.2.2.1 d l m (Or.inr (by omega))
  · have hf1 : f < nf M := hf
    omega
  · have hd1 : d < nd M + 1 := hd
    show up1 (fl M) (nd M) 1 d ≤ tl (dimM M n) d ∧ up1 (fm M) (nd M) 0 d < wid (dimM M n) d (up1 (fl M) (nd M) 1 d)
    by_cases q : d = nd M
    · rw [q, up1_s, up1_s, dimM_tn, dimM_w1]; decide
    · rw [up1_n q, up1_n q, dimM_tl q, dimM_wid q]; exact hW.2.2.2.2.2.2.2.2.2.1 d (by omega)
theorem liesM_o {M M' : Mo} {d : Nat} (h1 : tl M' d = tl M d) (h2 : pa M' d = pa M d) (m l : Nat) : liesM M' d m l = liesM M d m l := by unfold liesM; rw [h1, h2]
theorem st_dimension {M : Mo} (hW : WF M) (x : Int32) : BSt M (fun Q σ => vX8_dimension Q σ x) (fun Q σ => vX9_dimension Q σ x) := by
  have h4 := hW.1
  have h33 := hW.2.2.2.2.2.1
  have e8 : (8 : Int32).toInt = 8 := by decide
  by_cases hx : 1 ≤ x.toInt ∧ x.toInt ≤ 8
  · obtain ⟨n, hn, rfl⟩ : ∃ n : Nat, n < 9 ∧ x = nI n := by
      rcases inOr x 9 (by decide) with q | q
      · exact q
      · omega
    rw [nT (by omega)] at hx
    have n1 : ¬ nI n < 1 := fun a => by
      have := i_lt.mp a; rw [c1, nT (by omega)] at this; omega
    have n8 : nI n ≤ 8 := i_le.mpr (by rw [e8, nT (by omega)]; omega)
    have wayR : ∀ σ Q, RI σ M → ((rd (wr σ 0 0 0) 0 5 ≤ 0 → (((rd (wr σ 0 0 0) 0 1) = 4 → Q ((-2000000004)) (wr σ 0 0 0)) ∧ (¬ (rd (wr σ 0 0 0) 0 1) = 4 → ∀ ρ, RI ρ (dimM M n) → Q (nI (nd M)) ρ))) ∧ (¬ rd (wr σ 0 0 0) 0 5 ≤ 0 → Q ((-2000000003)) (wr σ 0 0 0))) → vX9_dimension Q σ (nI n) := fun σ Q h g => by
      unfold vX9_dimension
      refine k9_inT (by rw [c1, nT (by omega)]; omega) (by rw [e8, nT (by omega)]; omega) (t1 ⟨fun a => ⟨(g.1 a).1, fun b => ?_⟩, g.2⟩)
      have gq := (g.1 a).2 b
      have h0 := h.w0
      generalize wr σ 0 0 0 = ρ at *
      have n5 : rd ρ 0 1 = nI (nd M) := h0.2.1
      have hf0 : nf M = 0 := by
        rw [h0.2.2.1] at a
        have := i_le.mp a
        rw [c0, nT (by omega)] at this
        omega
      have hd4 : nd M < 4 := by
        rcases Nat.lt_or_ge (nd M) 4 with q | q
        · exact q
        · exact absurd (by rw [n5]; exact (eqI (a := nd M) (b := 4) (by omega) (by omega)).mpr (by omega)) b
      have a1 : rd (wr ρ 1 (nd M) 1) 0 1 = nI (nd M) := by rw [rd_ne (by decide)]; exact n5
      rw [n5, nC (by omega), a1, l3, pk_mul, nC (by omega)]
      have a2 : rd (wr (wr ρ 1 (nd M) 1) 2 (3 * nd M) (nI n)) 0 1 = nI (nd M) := by rw [rd_ne (by decide)]; exact a1
      rw [a2, nC (by omega)]
      have a3 : rd (wr (wr (wr ρ 1 (nd M) 1) 2 (3 * nd M) (nI n)) 8 (nd M) 1) 0 1 = nI (nd M) := by rw [rd_ne (by decide)]; exact a2
      rw [a3, nC (by omega)]
      have a4 : rd (wr (wr (wr (wr ρ 1 (nd M) 1) 2 (3 * nd M) (nI n)) 8 (nd M) 1) 9 (nd M) 0) 0 1 = nI (nd M) := by rw [rd_ne (by decide)]; exact a3
      rw [a4, nsucc]
      refine ⟨vin hd4 (by decide), vin (by omega) (by decide), vin hd4 (by decide), vin hd4 (by decide), k9_keepNone (fun τ hz hF => ?_)⟩
      have e : ∀ j i, (j ≠ 10 ∧ ¬ (j = 1 ∧ i = nd M) ∧ ¬ (j = 2 ∧ i = 3 * nd M) ∧ ¬ (j = 8 ∧ i = nd M) ∧ ¬ (j = 9 ∧ i = nd M) ∧ ¬ (j = 0 ∧ i = 1)) → rd τ j i = rd ρ j i := fun j i hj => by
        rw [hF j i hj.1, rd_wr, rd_wr, rd_wr, rd_wr, rd_wr, if_neg (by omega), if_neg (by omega), if_neg (by omega), if_neg (by omega), if_neg (by omega)]
      have b1 : rd τ 0 1 = nI (nd M + 1) := by rw [hF _ _ (by decide), rd_eq]
      rw [b1, nsub1 (by omega), Nat.add_sub_cancel]
      refine gq τ ?_
      have h := h0
      refine ⟨hW.dim hd4 (by omega) (by omega) hf0, ?_, ?_, ?_, ?_, ?_, ?_, ?_, ?_, ?_, ?_, ?_, ?_⟩
      · exact b1
      · rw [e _ _ (by omega)]
        exact h.2.2.1
      · rw [e _ _ (by omega)]
        exact h.2.2.2.1
      · rw [e _ _ (by omega)]
        exact h.2.2.2.2.1
      · intro d hd
        have hd1 : d < nd M + 1 := hd
        show rd τ 1 d = nI (tl (dimM M n) d) ∧ rd τ 8 d = nI (up1 (fl M) (nd M) 1 d) ∧ rd τ 9 d = nI (up1 (fm M) (nd M) 0 d)
        by_cases q : d = nd M
        · subst q
          rw [dimM_tn, up1_s, up1_s, hF _ _ (by decide), hF _ _ (by decide), hF _ _ (by decide)]
          refine ⟨?_, ?_, ?_⟩
          · rw [rd_ne (by decide), rd_ne (by decide), rd_ne (by decide), rd_ne (by decide), rd_eq]; rfl
          · rw [rd_ne (by decide), rd_ne (by decide), rd_eq]; rfl
          · rw [rd_ne (by decide), rd_eq]; rfl
        · rw [dimM_tl q, up1_n q, up1_n q, e _ _ (by omega), e _ _ (by omega), e _ _ (by omega)]
          exact h.2.2.2.2.2.1 d (by omega)
      · intro d hd
        rw [e _ _ (by omega)]
        exact h.2.2.2.2.2.2.1 d hd
      · intro d l hd hl
        have hd1 : d < nd M + 1 := hd
        by_cases q : d = nd M
        · subst q
          rw [dimM_tn] at hl
          have : l = 0 := by omega
          subst this
          rw [dimM_mn, hF _ _ (by decide), rd_ne (by decide), rd_ne (by decide), rd_ne (by decide), Nat.add_zero, rd_eq]
        · rw [dimM_tl q] at hl
          have := (hW.2.1 d (by omega)).2
          rw [dimM_mb q, e _ _ (by omega)]
          exact h.2.2.2.2.2.2.2.1 d l (by omega) hl
      · intro d l m hd hl hm
        rw [e _ _ (by omega)]
        exact h.2.2.2.2.2.2.2.2.1 d l m hd hl hm
      · intro f d hf
        have hf1 : f < nf M := hf
        omega
      · intro f hf
        have hf1 : f < nf M := hf
        omega
      · intro c hc
        exact hz c hc
      · intro i hi
        rw [e _ _ (by omega)]
        exact h.2.2.2.2.2.2.2.2.2.2.2.2 i hi
    by_cases h0 : nf M = 0
    · by_cases hd4 : nd M < 4
      · refine ⟨nI (nd M), dimM M n, fun σ Q h hq => ?_, fun σ Q h hq => wayR σ Q h ⟨fun _ => ⟨fun b => ?_, fun _ => hq⟩, fun a => ?_⟩⟩
        · show vX8_dimension Q σ (nI n)
          unfold vX8_dimension
          rw [h.f, h.n, h0]
          refine ⟨fun a => absurd a n1, fun _ => ⟨fun _ => ⟨fun _ => ⟨fun _ => ?_, fun a => absurd ((ltI (a := nd M) (b := 4) (by omega) (by omega)).mpr hd4) a⟩, fun a => absurd (by decide) a⟩, fun a => absurd n8 a⟩⟩
          unfold vX6_open
          rw [h.n]
          refine ⟨fun a => absurd ((leI (a := 4) (b := nd M) (by omega) (by omega)).mp a) (by omega), fun _ => ⟨vin hd4 (by decide), ?_⟩⟩
          rw [nC (by omega)]
          refine ⟨dimk_of hd4, ?_⟩
          unfold vX1_open
          have z0 : (0 : Int32).toNatClampNeg = 0 := by decide
          rw [z0]
          refine ⟨vin (i := 0) (by omega) (by decide), ?_⟩
          have hWn := hW.dim (n := n) hd4 (by omega) (by omega) h0
          refine d_topAt (T := 1) (W := n) (p := pa M (nd M)) (by omega) (by omega) (by omega) rd_eq (fun l m hl hm => by rw [rd_ne (by omega)]; exact h.pr (by omega) (by omega) hm) (fun l m _ _ => by rw [hW.2.2.2.2.1 _ l m (Or.inl (Nat.le_refl _))]; decide) (fun τ F f3 f4 f5 f1 hh => ?_)
          rw [nsucc]
          have e : ∀ j i, (¬ (j = 0 ∧ i = 1) ∧ (j < 2 + 4 * nd M ∨ 2 + 4 * nd M + 4 ≤ j ∨ j = 2 + 4 * nd M + 2)) → rd (wr τ 0 1 (nI (nd M + 1))) j i = rd σ j i := fun j i hj => by
            rw [rd_wr, if_neg hj.1, F j i (by omega), rd_ne (by omega)]
          refine d_reb h hWn h0 ⟨rd_eq, fun d hd => ?_, fun d l hd hl => ?_, fun d l m hd hl hm => ?_, fun d l m hd hl hm => ?_⟩ (fun j i hj => e j i (by omega)) rfl rfl rfl rfl (fun ρ hρ => hq ρ hρ)
          · have hd1 : d < nd M + 1 := hd
            show _ = nI (tl (dimM M n) d) ∧ _ = nI (up1 (fl M) (nd M) 1 d) ∧ _ = nI (up1 (fm M) (nd M) 0 d)
            by_cases q : d = nd M
            · subst q
              rw [dimM_tn, up1_s, up1_s, rd_ne (by omega), rd_ne (by omega), rd_ne (by omega)]
              exact ⟨f3, f4, f5⟩
            · rw [dimM_tl q, up1_n q, up1_n q, e _ _ (by omega), e _ _ (by omega), e _ _ (by omega)]
              exact h.dm (by omega)
          · have hd1 : d < nd M + 1 := hd
            by_cases q : d = nd M
            · subst q
              rw [dimM_tn] at hl
              have : l = 0 ∨ l = 1 := by omega
              rcases this with rfl | rfl
              · rw [dimM_w0, rd_ne (by omega), F _ _ (by omega), rd_eq]
              · rw [dimM_w1, rd_ne (by omega)]; exact f1
            · rw [dimM_tl q] at hl
              rw [dimM_wid q, e _ _ (by omega)]
              exact h.wd (by omega) hl
          · rw [rd_ne (by omega), F _ _ (by omega), rd_ne (by omega)]
            exact h.pr hd hl hm
          · have hd1 : d < nd M + 1 := hd
            by_cases q : d = nd M
            · subst q
              rw [lies_up hWn hd hl]
              rw [dimM_tn] at hl
              rw [dimM_mn] at hm
              rw [rd_ne (by omega)]
              exact hh l m hl hm
            · rw [dimM_tl q] at hl
              rw [dimM_mb q] at hm
              rw [liesM_o (M := M) (dimM_tl q) rfl, e _ _ (by omega)]
              exact h.hm (by omega) hl hm
        · exact absurd (by rw [h.w0.2.1] at b; exact (eqI (a := nd M) (b := 4) (by omega) (by omega)).mp b) (by omega)
        · exact absurd (by rw [h.w0.2.2.1, h0]; decide) a
      · refine ⟨(-2000000004), M, fun σ Q h hq => ?_, fun σ Q h hq => wayR σ Q h ⟨fun _ => ⟨fun b => hq _ h.w0, fun b => ?_⟩, fun a => ?_⟩⟩
        · show vX8_dimension Q σ (nI n)
          unfold vX8_dimension
          rw [h.f, h.n, h0]
          exact ⟨fun a => absurd a n1, fun _ => ⟨fun _ => ⟨fun _ => ⟨fun a => absurd ((ltI (a := nd M) (b := 4) (by omega) (by omega)).mp a) hd4, fun _ => hq σ h⟩, fun a => absurd (by decide) a⟩, fun a => absurd n8 a⟩⟩
        · exact absurd (by rw [h.w0.2.1]; exact (eqI (a := nd M) (b := 4) (by omega) (by omega)).mpr (by omega)) b
        · exact absurd (by rw [h.w0.2.2.1, h0]; decide) a
    · have np : ¬ nI (nf M) ≤ 0 := le0n (by omega) (by omega)
      refine ⟨(-2000000003), M, fun σ Q h hq => ?_, fun σ Q h hq => wayR σ Q h ⟨fun a => ?_, fun _ => hq _ h.w0⟩⟩
      · show vX8_dimension Q σ (nI n)
        unfold vX8_dimension
        rw [h.f]
        exact ⟨fun a => absurd a n1, fun _ => ⟨fun _ => ⟨fun a => absurd a np, fun _ => hq σ h⟩, fun a => absurd n8 a⟩⟩
      · rw [h.w0.2.2.1] at a
        exact absurd a np
  · refine ⟨(-2000000002), M, fun σ Q h hq => ?_, fun σ Q h hq => ?_⟩
    · show vX8_dimension Q σ x
      unfold vX8_dimension
      refine ⟨fun _ => hq σ h, fun a => ⟨fun b => ?_, fun _ => hq σ h⟩⟩
      have a' : ¬ x.toInt < 1 := fun q => a (i_lt.mpr (by rw [c1]; exact q))
      have b' := i_le.mp b
      rw [e8] at b'
      exact absurd ⟨by omega, b'⟩ hx
    · show vX9_dimension Q σ x
      unfold vX9_dimension
      exact k9_inF (by rw [c1, e8]; omega) (t0 (hq _ h.w0))

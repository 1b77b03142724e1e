/-! ===== level, count, out ===== -/
def lvM (M : Mo) (d n : Nat) : Mo := ((nd M, up1 (tl M) d (tl M d + 1), (fun a l => if a = d ∧ l = tl M d then n else mb M a l), pa M), M.2.1, (pk M, up1 (fl M) d (tl M d + 1), up1 (fm M) d 0), only0, M.2.2.2.2)
theorem lvM_tl {M : Mo} {d n e : Nat} (h : e ≠ d) : tl (lvM M d n) e = tl M e := up1_n h
theorem lvM_tn {M : Mo} {d n : Nat} : tl (lvM M d n) d = tl M d + 1 := up1_s
theorem lvM_mb {M : Mo} {d n e l : Nat} (h : e ≠ d ∨ l ≠ tl M d) : mb (lvM M d n) e l = mb M e l := if_neg (fun q => by omega)
theorem lvM_mn {M : Mo} {d n : Nat} : mb (lvM M d n) d (tl M d) = n := if_pos ⟨rfl, rfl⟩
theorem lvM_wid {M : Mo} {d n e l : Nat} (h : e ≠ d) : wid (lvM M d n) e l = wid M e l := by unfold wid; rw [lvM_tl h, lvM_mb (Or.inl h)]
theorem lvM_wlo {M : Mo} {d n l : Nat} (h : l < tl M d) : wid (lvM M d n) d l = mb M d l := by
  unfold wid
  rw [lvM_tn, if_neg (by omega), if_neg (by omega), lvM_mb (Or.inr (by omega))]
theorem lvM_wn {M : Mo} {d n : Nat} : wid (lvM M d n) d (tl M d) = n := by
  unfold wid
  rw [lvM_tn, if_neg (by omega), if_neg (by omega), lvM_mn]
theorem lvM_w1 {M : Mo} {d n : Nat} : wid (lvM M d n) d (tl M d + 1) = 1 := by
  unfold wid
  rw [lvM_tn, if_neg (by omega), if_pos rfl]
theorem WF.lv {M : Mo} (hW : WF M) {d0 n : Nat} (hd0 : d0 < nd M) (h3 : tl M d0 < 3) (h1 : 1 ≤ n) (h8 : n ≤ 8) (h0 : nf M = 0) : WF (lvM M d0 n) := by
  refine ⟨hW.1, fun d hd => ?_, fun d l hd hl => ?_, fun d l m hd hl => ?_, fun d l m hdl => ?_, hW.2.2.2.2.2.1, fun f d hf => ?_, hW.2.2.2.2.2.2.2.1, hW.2.2.2.2.2.2.2.2.1, fun d hd => ?_, rfl, hW.2.2.2.2.2.2.2.2.2.2.2.1, hW.2.2.2.2.2.2.2.2.2.2.2.2⟩
  · have hd1 : d < nd M := hd
    by_cases q : d = d0
    · rw [q, lvM_tn]; omega
    · rw [lvM_tl q]; exact hW.2.1 d hd1
  · have hd1 : d < nd M := hd
    by_cases q : d = d0
    · subst q
      rw [lvM_tn] at hl
      by_cases z : l = tl M d
      · subst z; rw [lvM_mn]; exact ⟨h1, h8⟩
      · rw [lvM_mb (Or.inr z)]; exact hW.2.2.1 d l hd1 (by omega)
    · rw [lvM_tl q] at hl
      rw [lvM_mb (Or.inl q)]; exact hW.2.2.1 d l hd1 hl
  · have hd1 : d < nd M := hd
    by_cases q : d = d0
    · subst q
      rw [lvM_tn] at hl
      by_cases z : l + 1 = tl M d
      · have e0 := hW.2.2.2.2.1 d l m (Or.inr (by omega))
        show pa M d l m < mb (lvM M d n) d (l + 1)
        rw [z, lvM_mn, e0]; omega
      · rw [lvM_mb (Or.inr z)]; exact hW.2.2.2.1 d l m hd1 (by omega)
    · rw [lvM_tl q] at hl
      rw [lvM_mb (Or.inl q)]; exact hW.2.2.2.1 d l m hd1 hl
  · have hdl1 : nd M ≤ d ∨ tl (lvM M d0 n) d ≤ l + 1 := hdl
    by_cases q : d = d0
    · subst q
      rw [lvM_tn] at hdl1
      exact hW.2.2.2.2.1 d l m (by omega)
    · rw [lvM_tl q] at hdl1
      exact hW.2.2.2.2.1 d l m hdl1
  · have hf1 : f < nf M := hf
    omega
  · have hd1 : d < nd M := hd
    show up1 (fl M) d0 (tl M d0 + 1) d ≤ tl (lvM M d0 n) d ∧ up1 (fm M) d0 0 d < wid (lvM M d0 n) d (up1 (fl M) d0 (tl M d0 + 1) d)
    by_cases q : d = d0
    · rw [q, up1_s, up1_s, lvM_tn, lvM_w1]; exact ⟨Nat.le_refl _, by decide⟩
    · rw [up1_n q, up1_n q, lvM_tl q, lvM_wid q]; exact hW.2.2.2.2.2.2.2.2.2.1 d hd1
theorem st_level {M : Mo} (hW : WF M) (x y : Int32) : BSt M (fun Q σ => vX8_level Q σ x y) (fun Q σ => vX9_level Q σ x y) := by
  have h4 := hW.1
  have h33 := hW.2.2.2.2.2.1
  rcases inOr x (nd M) (by omega) with ⟨d, hd, rfl⟩ | hx
  · have ht := hW.2.1 d hd
    have hm8 := hW.2.2.1 d (tl M d - 1) hd (by omega)
    have hwi := wid_in (M := M) (d := d) (l := tl M d - 1) (by omega)
    by_cases hy : 1 ≤ y.toInt ∧ y.toInt ≤ (mb M d (tl M d - 1) : Int)
    · obtain ⟨n, hn, rfl⟩ : ∃ n : Nat, n < 9 ∧ y = nI n := by
        rcases inOr y 9 (by decide) with q | q
        · exact q
        · omega
      rw [nT (by omega)] at hy
      have n1 : ¬ nI n < 1 := fun a => by
        have := i_lt.mp a; rw [c1, nT (by omega)] at this; omega
      have wayC : ∀ σ Q, CI σ M → ((nI (nf M) ≤ 0 → ((nI (tl M d) < 3 → vX1_raise (2 + 4 * d) (fun r8 σ7 => vX4_rebuild (fun σ9 => Q r8 σ9) σ7) σ (nI n)) ∧ (¬ nI (tl M d) < 3 → Q ((-2000000004)) σ))) ∧ (¬ nI (nf M) ≤ 0 → Q ((-2000000003)) σ)) → vX8_level Q σ (nI d) (nI n) := fun σ Q h g => by
        unfold vX8_level
        refine d_findT h hd (cm_some ⟨fun a => absurd a n1, fun _ => ⟨dimk_of (by omega), ?_⟩⟩)
        rw [(h.dm hd).1, nsub1 (by omega)]
        refine d_widthOfT h hd (by omega) ?_
        rw [hwi, h.f, (h.dm hd).1]
        exact ⟨fun _ => g, fun a => absurd ((leI (by omega) (by omega)).mpr (by omega)) a⟩
      have wayR : ∀ σ Q, RI σ M → ((nI (nf M) ≤ 0 → ((nI (tl M d) = 3 → Q ((-2000000004)) (wr σ 0 0 0)) ∧ (¬ nI (tl M d) = 3 → ∀ ρ, RI ρ (lvM M d n) → Q (nI (tl M d)) ρ))) ∧ (¬ nI (nf M) ≤ 0 → Q ((-2000000003)) (wr σ 0 0 0))) → vX9_level Q σ (nI d) (nI n) := fun σ Q h g => by
        unfold vX9_level
        refine k9_dimT h.w0 hd (t1 ?_)
        have h0 := h.w0
        generalize wr σ 0 0 0 = ρ at *
        have eT : rd ρ 1 d = nI (tl M d) := (h0.2.2.2.2.2.1 d hd).1
        rw [nC (show d < 2147483648 by omega), eT, l3, pk_mul, nI_add, nsub1 (by omega), nC (show 3 * d + tl M d - 1 < 2147483648 by omega), show 3 * d + tl M d - 1 = 3 * d + (tl M d - 1) by omega, h0.2.2.2.2.2.2.2.1 d (tl M d - 1) hd (by omega)]
        have v4 : vp_in (nI d) 4 := vin (by omega) (by decide)
        refine ⟨v4, vin (by omega) (by decide), k9_inT (by rw [c1, nT (by omega)]; omega) (by rw [nT (by omega), nT (by omega)]; omega) (t1 ?_)⟩
        rw [h0.2.2.1, eT, nI_add, nC (show 3 * d + tl M d < 2147483648 by omega)]
        refine ⟨fun a => ⟨v4, fun b => (g.1 a).1 b, fun b => ?_⟩, g.2⟩
        have gq := (g.1 a).2 b
        have hf0 : nf M = 0 := by
          have := i_le.mp a
          rw [c0, nT (by omega)] at this
          omega
        have ht3 : tl M d < 3 := by
          rcases Nat.lt_or_ge (tl M d) 3 with q | q
          · exact q
          · exact absurd ((eqI (a := tl M d) (b := 3) (by omega) (by omega)).mpr (by omega)) b
        have a1 : rd (wr ρ 2 (3 * d + tl M d) (nI n)) 1 d = nI (tl M d) := by rw [rd_ne (by decide)]; exact eT
        rw [a1, nsucc]
        have a2 : rd (wr (wr ρ 2 (3 * d + tl M d) (nI n)) 1 d (nI (tl M d + 1))) 1 d = nI (tl M d + 1) := rd_eq
        rw [a2]
        refine ⟨v4, vin (by omega) (by decide), v4, v4, v4, v4, v4, k9_keepNone (fun τ hz hF => ?_)⟩
        have e : ∀ j i, (j ≠ 10 ∧ ¬ (j = 2 ∧ i = 3 * d + tl M d) ∧ ¬ (j = 1 ∧ i = d) ∧ ¬ (j = 8 ∧ i = d) ∧ ¬ (j = 9 ∧ i = d)) → rd τ j i = rd ρ j i := fun j i hj => by
          rw [hF j i hj.1, rd_wr, rd_wr, rd_wr, rd_wr, if_neg (by omega), if_neg (by omega), if_neg (by omega), if_neg (by omega)]
        have b1 : rd τ 1 d = nI (tl M d + 1) := by rw [hF _ _ (by decide), rd_ne (by decide), rd_ne (by decide), rd_eq]
        rw [b1, nsub1 (by omega), Nat.add_sub_cancel]
        refine ⟨v4, gq τ ?_⟩
        have h := h0
        refine ⟨hW.lv hd ht3 (by omega) (by omega) hf0, ?_, ?_, ?_, ?_, ?_, ?_, ?_, ?_, ?_, ?_, ?_, ?_⟩
        · rw [e _ _ (by omega)]
          exact h.2.1
        · rw [e _ _ (by omega)]
          exact h.2.2.1
        · rw [e _ _ (by omega)]
          exact h.2.2.2.1
        · rw [e _ _ (by omega)]
          exact h.2.2.2.2.1
        · intro e0 hd0
          have hd1 : e0 < nd M := hd0
          show rd τ 1 e0 = nI (tl (lvM M d n) e0) ∧ rd τ 8 e0 = nI (up1 (fl M) d (tl M d + 1) e0) ∧ rd τ 9 e0 = nI (up1 (fm M) d 0 e0)
          by_cases q : e0 = d
          · rw [q, lvM_tn, up1_s, up1_s, b1, hF _ _ (by decide), hF _ _ (by decide)]
            refine ⟨rfl, ?_, ?_⟩
            · rw [rd_ne (by decide), rd_eq]
            · rw [rd_eq]; rfl
          · rw [lvM_tl q, up1_n q, up1_n q, e _ _ (by omega), e _ _ (by omega), e _ _ (by omega)]
            exact h.2.2.2.2.2.1 e0 hd1
        · intro d hd
          rw [e _ _ (by omega)]
          exact h.2.2.2.2.2.2.1 d hd
        · intro e0 l hd0 hl
          have hd1 : e0 < nd M := hd0
          by_cases q : e0 = d
          · subst q
            rw [lvM_tn] at hl
            by_cases z : l = tl M e0
            · subst z
              rw [lvM_mn, hF _ _ (by decide), rd_ne (by decide), rd_ne (by decide), rd_ne (by decide), rd_eq]
            · rw [lvM_mb (Or.inr z), e _ _ (by omega)]
              exact h.2.2.2.2.2.2.2.1 e0 l hd1 (by omega)
          · rw [lvM_tl q] at hl
            have := (hW.2.1 e0 hd1).2
            rw [lvM_mb (Or.inl q), e _ _ (by omega)]
            exact h.2.2.2.2.2.2.2.1 e0 l hd1 hl
        · intro d l m hd hl hm
          rw [e _ _ (by omega)]
          exact h.2.2.2.2.2.2.2.2.1 d l m hd hl hm
        · intro f e0 hf
          have hf1 : f < nf M := hf
          omega
        · intro f hf
          have hf1 : f < nf M := hf
          omega
        · intro c hc
          exact hz c hc
        · intro i hi
          rw [e _ _ (by omega)]
          exact h.2.2.2.2.2.2.2.2.2.2.2.2 i hi
      by_cases h0 : nf M = 0
      · by_cases h3 : tl M d < 3
        · refine ⟨nI (tl M d), lvM M d n, fun σ Q h hq => wayC σ Q h ⟨fun _ => ⟨fun _ => ?_, fun a => absurd ((ltI (a := tl M d) (b := 3) (by omega) (by omega)).mpr h3) a⟩, fun a => absurd (by rw [h0]; decide) a⟩, fun σ Q h hq => wayR σ Q h ⟨fun _ => ⟨fun b => absurd ((eqI (a := tl M d) (b := 3) (by omega) (by omega)).mp b) (by omega), fun _ => hq⟩, fun a => absurd (by rw [h0]; decide) a⟩⟩
          have hWn := hW.lv (n := n) hd h3 (by omega) (by omega) h0
          have hw00 := (hW.2.2.1 d 0 hd (by omega)).2
          unfold vX1_raise
          rw [(h.dm hd).1, nC (by omega), nsucc]
          refine ⟨fun a => absurd ((leI (a := 3) (b := tl M d) (by omega) (by omega)).mp a) (by omega), fun _ => ⟨vin (by omega) (by decide), ?_⟩⟩
          refine d_topAt (T := tl M d + 1) (W := mb M d 0) (p := pa M d) (by omega) (by omega) hw00 (by rw [rd_nej (by omega), h.wd hd (by omega), wid0 hW hd]) (fun l m hl hm => by rw [rd_ne (by omega)]; exact h.pr (by omega) (by omega) hm) (fun l m _ _ => pa8 hW hd) (fun τ F f3 f4 f5 f1 hh => ?_)
          have e : ∀ j i, (j < 2 + 4 * d ∨ 2 + 4 * d + 4 ≤ j ∨ j = 2 + 4 * d + 2) → rd τ j i = rd σ j i := fun j i hj => by
            rw [F j i (by omega), rd_ne (by omega)]
          refine d_reb h hWn h0 ⟨by rw [e _ _ (by omega)]; exact h.n, fun e0 he => ?_, fun e0 l he hl => ?_, fun e0 l m he hl hm => ?_, fun e0 l m he hl hm => ?_⟩ (fun j i hj => e j i (by omega)) rfl rfl rfl rfl (fun ρ hρ => hq ρ hρ)
          · have hd1 : e0 < nd M := he
            show _ = nI (tl (lvM M d n) e0) ∧ _ = nI (up1 (fl M) d (tl M d + 1) e0) ∧ _ = nI (up1 (fm M) d 0 e0)
            by_cases q : e0 = d
            · rw [q, lvM_tn, up1_s, up1_s]
              exact ⟨f3, f4, f5⟩
            · rw [lvM_tl q, up1_n q, up1_n q, e _ _ (by omega), e _ _ (by omega), e _ _ (by omega)]
              exact h.dm hd1
          · have hd1 : e0 < nd M := he
            by_cases q : e0 = d
            · subst q
              rw [lvM_tn] at hl
              by_cases z : l = tl M e0 + 1
              · rw [z, lvM_w1]; exact f1
              · by_cases z2 : l = tl M e0
                · rw [z2, lvM_wn, F _ _ (by omega), rd_eq]
                · rw [lvM_wlo (by omega), F _ _ (by omega), rd_nej (by omega), h.wd hd1 (by omega), wid_in (by omega)]
            · rw [lvM_tl q] at hl
              rw [lvM_wid q, e _ _ (by omega)]
              exact h.wd hd1 hl
          · by_cases q : e0 = d
            · rw [e _ _ (by omega)]; exact h.pr he hl hm
            · rw [e _ _ (by omega)]; exact h.pr he hl hm
          · have hd1 : e0 < nd M := he
            by_cases q : e0 = d
            · subst q
              rw [lies_up hWn he hl]
              rw [lvM_tn] at hl
              rw [lvM_mb (Or.inr (by omega))] at hm
              exact hh l m hl hm
            · rw [lvM_tl q] at hl
              rw [lvM_mb (Or.inl q)] at hm
              rw [liesM_o (M := M) (lvM_tl q) rfl, e _ _ (by omega)]
              exact h.hm hd1 hl hm
        · refine ⟨(-2000000004), M, fun σ Q h hq => wayC σ Q h ⟨fun _ => ⟨fun a => absurd ((ltI (a := tl M d) (b := 3) (by omega) (by omega)).mp a) h3, fun _ => hq σ h⟩, fun a => absurd (by rw [h0]; decide) a⟩, fun σ Q h hq => wayR σ Q h ⟨fun _ => ⟨fun _ => hq _ h.w0, fun b => absurd ((eqI (a := tl M d) (b := 3) (by omega) (by omega)).mpr (by omega)) b⟩, fun a => absurd (by rw [h0]; decide) a⟩⟩
      · have np : ¬ nI (nf M) ≤ 0 := le0n (by omega) (by omega)
        exact ⟨(-2000000003), M, fun σ Q h hq => wayC σ Q h ⟨fun a => absurd a np, fun _ => hq σ h⟩, fun σ Q h hq => wayR σ Q h ⟨fun a => absurd a np, fun _ => hq _ h.w0⟩⟩
    · refine ⟨(-2000000002), M, fun σ Q h hq => ?_, fun σ Q h hq => ?_⟩
      · show vX8_level Q σ (nI d) y
        unfold vX8_level
        refine d_findT h hd (cm_some ⟨fun _ => hq σ h, fun a => ⟨dimk_of (by omega), ?_⟩⟩)
        rw [(h.dm hd).1, nsub1 (by omega)]
        refine d_widthOfT h hd (by omega) ?_
        rw [hwi]
        refine ⟨fun b => ?_, fun _ => hq σ h⟩
        have a' : ¬ y.toInt < 1 := fun q => a (i_lt.mpr (by rw [c1]; exact q))
        have b' := i_le.mp b
        rw [nT (by omega)] at b'
        exact absurd ⟨by omega, b'⟩ hy
      · show vX9_level Q σ (nI d) y
        unfold vX9_level
        refine k9_dimT h.w0 hd (t1 ?_)
        have h0 := h.w0
        generalize wr σ 0 0 0 = ρ at *
        have eT : rd ρ 1 d = nI (tl M d) := (h0.2.2.2.2.2.1 d hd).1
        rw [nC (show d < 2147483648 by omega), eT, l3, pk_mul, nI_add, nsub1 (by omega), nC (show 3 * d + tl M d - 1 < 2147483648 by omega), show 3 * d + tl M d - 1 = 3 * d + (tl M d - 1) by omega, h0.2.2.2.2.2.2.2.1 d (tl M d - 1) hd (by omega)]
        refine ⟨vin (by omega) (by decide), vin (by omega) (by decide), k9_inF (by rw [c1, nT (by omega)]; omega) (t0 (hq _ h0))⟩
  · refine ⟨(-2000000002), M, fun σ Q h hq => ?_, fun σ Q h hq => ?_⟩
    · show vX8_level Q σ x y
      unfold vX8_level
      exact d_findF h hx (cm_none (hq σ h))
    · show vX9_level Q σ x y
      unfold vX9_level
      exact k9_dimF h.w0 hx (t0 (hq _ h.w0))
/-! counts -/
theorem kpc {M : Mo} (h : WF M) {c : Nat} : cntF (kp M) c ≤ c := cntF_le c
def sumKp (M : Mo) (n : Nat) : Nat := sumF (fun c => if kp M c then szM M c else 0) n
theorem sumKp_le {M : Mo} (h : WF M) (n : Nat) (hn : n ≤ 256) : sumKp M n ≤ 256000 := by
  have := sumF_le (f := fun c => if kp M c then szM M c else 0) (b := 1000) n (fun c _ => by
    have := sz_small h c
    split <;> omega)
  have h2 : n * 1000 ≤ 256 * 1000 := Nat.mul_le_mul hn (Nat.le_refl _)
  unfold sumKp
  omega
theorem st_count {M : Mo} (hW : WF M) (x : Int32) : BSt M (fun Q σ => vX8_count Q σ x) (fun Q σ => vX9_count Q σ x) := by
  have ht := tot_le hW
  have h33 := hW.2.2.2.2.2.1
  by_cases h0 : x = 0
  · refine ⟨nI (nd M), M, fun σ Q h hq => ?_, fun σ Q h hq => ?_⟩
    · show vX8_count Q σ x
      unfold vX8_count
      rw [h.n]
      exact ⟨fun _ => hq σ h, fun a => absurd h0 a⟩
    · show vX9_count Q σ x
      unfold vX9_count
      rw [h.w0.2.1]
      exact ⟨fun _ => hq _ h.w0, fun a => absurd h0 a⟩
  by_cases h1 : x = 1
  · refine ⟨nI (nf M), M, fun σ Q h hq => ?_, fun σ Q h hq => ?_⟩
    · show vX8_count Q σ x
      unfold vX8_count
      rw [h.f]
      exact ⟨fun a => absurd a h0, fun _ => ⟨fun _ => hq σ h, fun a => absurd h1 a⟩⟩
    · show vX9_count Q σ x
      unfold vX9_count
      rw [h.w0.2.2.1]
      exact ⟨fun a => absurd a h0, fun _ => ⟨fun _ => hq _ h.w0, fun a => absurd h1 a⟩⟩
  by_cases h2 : x = 2
  · refine ⟨nI (cntF (th M) (nf M)), M, fun σ Q h hq => ?_, fun σ Q h hq => ?_⟩
    · show vX8_count Q σ x
      unfold vX8_count
      rw [h.fp]
      exact ⟨fun a => absurd a h0, fun _ => ⟨fun a => absurd a h1, fun _ => ⟨fun _ => hq σ h, fun a => absurd h2 a⟩⟩⟩
    · show vX9_count Q σ x
      unfold vX9_count
      exact ⟨fun a => absurd a h0, fun _ => ⟨fun a => absurd a h1, fun _ => ⟨fun _ => k9_thereMany h.w0 (hq _ h.w0), fun a => absurd h2 a⟩⟩⟩
  by_cases h3 : x = 3
  · refine ⟨nI (cntF (kp M) (tot M)), M, fun σ Q h hq => ?_, fun σ Q h hq => ?_⟩
    · show vX8_count Q σ x
      unfold vX8_count
      refine ⟨fun a => absurd a h0, fun _ => ⟨fun a => absurd a h1, fun _ => ⟨fun a => absurd a h2, fun _ => ⟨fun _ => ?_, fun a => absurd h3 a⟩⟩⟩⟩
      have key : ∀ q c, c ≤ tot M → tot M - c < q → vX4_keptCount_L4 (fun r5 σ4 => Q r5 σ4) q σ (nI (cntF (kp M) c)) (nI c) := by
        intro q
        induction q with
        | zero => intro c _ h; omega
        | succ q ih =>
          intro c hc hq2
          simp only [vX4_keptCount_L4]
          rw [h.t, nsucc, nsucc, l0, nI_add, Nat.add_zero]
          refine ⟨fun z => ?_, fun z => ?_⟩
          · have e : c = tot M := by
              have : tot M ≤ c := (leI (by omega) (by omega)).mp z
              omega
            rw [e]; exact hq σ h
          · have hlt : c < tot M := lt_of_nle (by omega) (by omega) z
            have hn := ih (c + 1) (by omega) (by omega)
            rw [nC (by omega), h.kk (by omega)]
            refine ⟨vin (by omega) (by decide), fun b => ?_, fun b => ?_⟩
            · simp only [cntF, b2i_0.mp b] at hn
              exact hn
            · simp only [cntF, b2i_n0 b] at hn
              exact hn
      exact ⟨_, key (tot M + 1) 0 (by omega) (by omega)⟩
    · show vX9_count Q σ x
      unfold vX9_count
      refine ⟨fun a => absurd a h0, fun _ => ⟨fun a => absurd a h1, fun _ => ⟨fun a => absurd a h2, fun _ => ⟨fun _ => ?_, fun a => absurd h3 a⟩⟩⟩⟩
      have h0' := h.w0
      generalize wr σ 0 0 0 = ρ at *
      have key : ∀ q c, c ≤ tot M → tot M - c < q → vX9_count_L65 Q q ρ (nI (cntF (kp M) c)) (nI c) := by
        intro q
        induction q with
        | zero => intro c _ h; omega
        | succ q ih =>
          intro c hc hq2
          simp only [vX9_count_L65]
          refine k9_all h0' ⟨fun z => ?_, fun z => ?_⟩
          · have e : c = tot M := by
              have : tot M ≤ c := (leI (by omega) (by omega)).mp z
              omega
            rw [e]; exact hq ρ h0'
          · have hlt : c < tot M := lt_of_nle (by omega) (by omega) z
            have hn := ih (c + 1) (by omega) (by omega)
            rw [nsucc, nsucc, l0, nI_add, Nat.add_zero, nC (by omega), h0'.2.2.2.2.2.2.2.2.2.2.2.1 c (by omega)]
            refine ⟨vin (by omega) (by decide), fun b => ?_, fun b => ?_⟩
            · simp only [cntF, b2i_0.mp b] at hn
              exact hn
            · simp only [cntF, b2i_n0 b] at hn
              exact hn
      exact ⟨_, key (tot M + 1) 0 (by omega) (by omega)⟩
  by_cases h4 : x = 4
  · refine ⟨nI (ol M), M, fun σ Q h hq => ?_, fun σ Q h hq => ?_⟩
    · show vX8_count Q σ x
      unfold vX8_count
      rw [h.oo]
      exact ⟨fun a => absurd a h0, fun _ => ⟨fun a => absurd a h1, fun _ => ⟨fun a => absurd a h2, fun _ => ⟨fun a => absurd a h3, fun _ => ⟨fun _ => hq σ h, fun a => absurd h4 a⟩⟩⟩⟩⟩
    · show vX9_count Q σ x
      unfold vX9_count
      rw [h.w0.2.2.2.2.1]
      exact ⟨fun a => absurd a h0, fun _ => ⟨fun a => absurd a h1, fun _ => ⟨fun a => absurd a h2, fun _ => ⟨fun a => absurd a h3, fun _ => ⟨fun _ => hq _ h.w0, fun a => absurd h4 a⟩⟩⟩⟩⟩
  by_cases h5 : x = 5
  · refine ⟨nI (sumKp M (tot M)), M, fun σ Q h hq => ?_, fun σ Q h hq => ?_⟩
    · show vX8_count Q σ x
      unfold vX8_count
      refine ⟨fun a => absurd a h0, fun _ => ⟨fun a => absurd a h1, fun _ => ⟨fun a => absurd a h2, fun _ => ⟨fun a => absurd a h3, fun _ => ⟨fun a => absurd a h4, fun _ => ⟨fun _ => ?_, fun a => absurd h5 a⟩⟩⟩⟩⟩⟩
      have key : ∀ q c τ, c ≤ tot M → tot M - c < q → CI τ M → vX4_keptGroups_L4 (fun r9 σ8 => Q r9 σ8) q τ (nI (sumKp M c)) (nI c) := by
        intro q
        induction q with
        | zero => intro c τ _ h; omega
        | succ q ih =>
          intro c τ hc hq2 hI
          simp only [vX4_keptGroups_L4]
          rw [hI.t, nsucc, l0, nI_add, Nat.add_zero]
          refine ⟨fun z => ?_, fun z => ?_⟩
          · have e : c = tot M := by
              have : tot M ≤ c := (leI (by omega) (by omega)).mp z
              omega
            rw [e]; exact hq τ hI
          · have hlt : c < tot M := lt_of_nle (by omega) (by omega) z
            have hn := fun τ hI => ih (c + 1) τ (by omega) (by omega) hI
            rw [nC (by omega), hI.kk (by omega)]
            refine ⟨vin (by omega) (by decide), fun b => ?_, fun b => d_sizeOf hI hlt (fun τ2 F2 _ => ?_)⟩
            · have e : sumKp M (c + 1) = sumKp M c := by
                show sumKp M c + (if kp M c then szM M c else 0) = _
                rw [b2i_0.mp b]; rfl
              rw [e] at hn
              exact hn τ hI
            · have e : sumKp M (c + 1) = sumKp M c + szM M c := by
                show sumKp M c + (if kp M c then szM M c else 0) = _
                rw [b2i_n0 b]; rfl
              rw [e] at hn
              rw [nI_add]
              exact hn τ2 (F2.CI hI)
      exact ⟨_, key (tot M + 1) 0 σ (by omega) (by omega) h⟩
    · show vX9_count Q σ x
      unfold vX9_count
      refine ⟨fun a => absurd a h0, fun _ => ⟨fun a => absurd a h1, fun _ => ⟨fun a => absurd a h2, fun _ => ⟨fun a => absurd a h3, fun _ => ⟨fun a => absurd a h4, fun _ => ⟨fun _ => ?_, fun a => absurd h5 a⟩⟩⟩⟩⟩⟩
      have key : ∀ q c τ, c ≤ tot M → tot M - c < q → RI τ M → vX9_count_L105 Q q τ (nI (sumKp M c)) (nI c) := by
        intro q
        induction q with
        | zero => intro c τ _ h; omega
        | succ q ih =>
          intro c τ hc hq2 hI
          simp only [vX9_count_L105]
          refine k9_all hI ⟨fun z => ?_, fun z => ?_⟩
          · have e : c = tot M := by
              have : tot M ≤ c := (leI (by omega) (by omega)).mp z
              omega
            rw [e]; exact hq τ hI
          · have hlt : c < tot M := lt_of_nle (by omega) (by omega) z
            have hn := fun τ hI => ih (c + 1) τ (by omega) (by omega) hI
            rw [nsucc, l0, nI_add, Nat.add_zero, nC (by omega), hI.2.2.2.2.2.2.2.2.2.2.2.1 c (by omega)]
            refine ⟨vin (by omega) (by decide), fun b => ?_, fun b => k9_sizeOf hI (by omega) (fun τ2 F2 => ?_)⟩
            · have e : sumKp M (c + 1) = sumKp M c := by
                show sumKp M c + (if kp M c then szM M c else 0) = _
                rw [b2i_0.mp b]; rfl
              rw [e] at hn
              exact hn τ hI
            · have e : sumKp M (c + 1) = sumKp M c + szM M c := by
                show sumKp M c + (if kp M c then szM M c else 0) = _
                rw [b2i_n0 b]; rfl
              rw [e] at hn
              rw [nI_add]
              exact hn τ2 (hI.same F2.1)
      exact ⟨_, key (tot M + 1) 0 _ (by omega) (by omega) h.w0⟩
  refine ⟨(-2000000002), M, fun σ Q h hq => ?_, fun σ Q h hq => ?_⟩
  · show vX8_count Q σ x
    unfold vX8_count
    exact ⟨fun a => absurd a h0, fun _ => ⟨fun a => absurd a h1, fun _ => ⟨fun a => absurd a h2, fun _ => ⟨fun a => absurd a h3, fun _ => ⟨fun a => absurd a h4, fun _ => ⟨fun a => absurd a h5, fun _ => hq σ h⟩⟩⟩⟩⟩⟩
  · show vX9_count Q σ x
    unfold vX9_count
    exact ⟨fun a => absurd a h0, fun _ => ⟨fun a => absurd a h1, fun _ => ⟨fun a => absurd a h2, fun _ => ⟨fun a => absurd a h3, fun _ => ⟨fun a => absurd a h4, fun _ => ⟨fun a => absurd a h5, fun _ => hq _ h.w0⟩⟩⟩⟩⟩⟩
theorem st_out {M : Mo} (hW : WF M) (x : Int32) : BSt M (fun Q σ => vX8_out Q σ x) (fun Q σ => vX9_out Q σ x) := by
  have ho := hW.2.2.2.2.2.2.2.2.2.2.2.1
  rcases inOr x (ol M) (by omega) with ⟨i, hi, rfl⟩ | hx
  · refine ⟨nI (ou M i), M, fun σ Q h hq => ?_, fun σ Q h hq => ?_⟩
    · show vX8_out Q σ (nI i)
      unfold vX8_out vX5_byteAt
      rw [h.oo, nC (by omega), h.ou hi]
      have n0 : ¬ nI i < 0 := fun a => by
        have := i_lt.mp a; rw [c0, nT (by omega)] at this; omega
      have lt := (ltI (a := i) (b := ol M) (by omega) (by omega)).mpr hi
      have nle : ¬ nI (ol M) ≤ nI i := fun a => absurd ((leI (a := ol M) (b := i) (by omega) (by omega)).mp a) (by omega)
      exact ⟨fun a => absurd a n0, fun _ => ⟨fun _ => ⟨fun a => absurd a n0, fun _ => ⟨fun a => absurd a nle, fun _ => ⟨vin (by omega) (by decide), hq σ h⟩⟩⟩, fun a => absurd lt a⟩⟩
    · show vX9_out Q σ (nI i)
      unfold vX9_out
      rw [h.w0.2.2.2.2.1]
      refine k9_inT (by rw [c0, nT (by omega)]; omega) (by rw [n1T (by omega), nT (by omega)]; omega) (t1 ?_)
      rw [nC (by omega), h.w0.2.2.2.2.2.2.2.2.2.2.2.2 i hi]
      exact ⟨vin (by omega) (by decide), hq _ h.w0⟩
  · refine ⟨(-2000000001), M, fun σ Q h hq => ?_, fun σ Q h hq => ?_⟩
    · show vX8_out Q σ x
      unfold vX8_out
      rw [h.oo]
      refine ⟨fun _ => hq σ h, fun a => ⟨fun b => ?_, fun _ => hq σ h⟩⟩
      have a' : ¬ x.toInt < 0 := fun q => a (i_lt.mpr (by rw [c0]; exact q))
      have b' := i_lt.mp b
      rw [nT (by omega)] at b'
      omega
    · show vX9_out Q σ x
      unfold vX9_out
      rw [h.w0.2.2.2.2.1]
      exact k9_inF (by rw [c0, n1T (by omega)]; omega) (t0 (hq _ h.w0))

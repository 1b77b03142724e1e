/-! ===== both sides answer alike: the calls that only ask ===== -/
def BSt (M : Mo) (vC vR : (Int32 → St → Prop) → St → Prop) : Prop := ∃ (r : Int32) (M' : Mo), (∀ σ Q, CI σ M → (∀ τ, CI τ M' → Q r τ) → vC Q σ) ∧ (∀ σ Q, RI σ M → (∀ τ, RI τ M' → Q r τ) → vR Q σ)
theorem RI.w0 {σ : St} {M : Mo} (h : RI σ M) : RI (wr σ 0 0 0) M := h.same sameR.wr0
theorem t0 {A B : Prop} (h : A) : ((0 : Int32) = 0 → A) ∧ (¬ (0 : Int32) = 0 → B) := ⟨fun _ => h, fun q => absurd rfl q⟩
theorem t1 {A B : Prop} (h : B) : ((1 : Int32) = 0 → A) ∧ (¬ (1 : Int32) = 0 → B) := ⟨fun q => absurd q n10, fun _ => h⟩
theorem tb {Q : Int32 → St → Prop} {b : Bool} {σ : St} (h : Q (b2i b) σ) : (b2i b = 0 → Q 0 σ) ∧ (¬ b2i b = 0 → Q 1 σ) := by
  cases b with
  | false => exact ⟨fun _ => h, fun q => absurd rfl q⟩
  | true => exact ⟨fun q => absurd q n10, fun _ => h⟩
theorem st_cuboids {M : Mo} : BSt M (fun Q σ => vX8_cuboids Q σ) (fun Q σ => vX9_cuboids Q σ) := ⟨nI (tot M), M, fun σ Q h hq => by
  show vX8_cuboids Q σ
  unfold vX8_cuboids
  rw [h.t]
  exact hq σ h, fun σ Q h hq => by
  show vX9_cuboids Q σ
  unfold vX9_cuboids
  exact k9_all h.w0 (hq _ h.w0)⟩
theorem st_read {M : Mo} : BSt M (fun Q σ => vX8_read Q σ) (fun Q σ => vX9_read Q σ) := ⟨re M, M, fun σ Q h hq => by
  show vX8_read Q σ
  unfold vX8_read
  rw [h.rr]
  exact hq σ h, fun σ Q h hq => by
  show vX9_read Q σ
  unfold vX9_read
  rw [h.w0.2.2.2.1]
  exact hq _ h.w0⟩
theorem cubs {M : Mo} (hW : WF M) : tot M < 2147483648 := by have := tot_le hW; omega
theorem st_size {M : Mo} (hW : WF M) (x : Int32) : BSt M (fun Q σ => vX8_size Q σ x) (fun Q σ => vX9_size Q σ x) := by
  have ht := tot_le hW
  rcases inOr x (tot M) (by omega) with ⟨c, hc, rfl⟩ | hx
  · refine ⟨nI (szM M c), M, fun σ Q h hq => ?_, fun σ Q h hq => ?_⟩
    · show vX8_size Q σ (nI c)
      unfold vX8_size
      exact d_hasT h hc (t1 (d_sizeOf h hc (fun τ F _ => hq τ (F.CI h))))
    · show vX9_size Q σ (nI c)
      unfold vX9_size
      exact k9_cubT h.w0 hc (t1 (k9_sizeOf h.w0 (by omega) (fun τ F => hq τ (h.w0.same F.1))))
  · refine ⟨(-2000000002), M, fun σ Q h hq => ?_, fun σ Q h hq => ?_⟩
    · show vX8_size Q σ x
      unfold vX8_size
      exact d_hasF' h hx (t0 (hq σ h))
    · show vX9_size Q σ x
      unfold vX9_size
      exact k9_cubF h.w0 hx (t0 (hq _ h.w0))
theorem st_cost {M : Mo} (hW : WF M) (x : Int32) : BSt M (fun Q σ => vX8_cost Q σ x) (fun Q σ => vX9_cost Q σ x) := by
  have ht := tot_le hW
  rcases inOr x (tot M) (by omega) with ⟨c, hc, rfl⟩ | hx
  · refine ⟨nI (costM M c), M, fun σ Q h hq => ?_, fun σ Q h hq => ?_⟩
    · show vX8_cost Q σ (nI c)
      unfold vX8_cost
      exact d_hasT h hc (t1 (d_costOf h hc (fun τ F => hq τ (F.CI h))))
    · show vX9_cost Q σ (nI c)
      unfold vX9_cost
      refine k9_cubT h.w0 hc (t1 (k9_measure h.w0 (fun τ F hm => k9_serverOf (h.w0.same F) hm hc ?_)))
      have hs := server_lt (M := M) (w := c)
      rw [nC (by omega), hm.1 _ hs]
      exact ⟨vin (by omega) (by decide), hq τ (h.w0.same F)⟩
  · refine ⟨(-2000000002), M, fun σ Q h hq => ?_, fun σ Q h hq => ?_⟩
    · show vX8_cost Q σ x
      unfold vX8_cost
      exact d_hasF' h hx (t0 (hq σ h))
    · show vX9_cost Q σ x
      unfold vX9_cost
      exact k9_cubF h.w0 hx (t0 (hq _ h.w0))
theorem st_server {M : Mo} (hW : WF M) (x : Int32) : BSt M (fun Q σ => vX8_server Q σ x) (fun Q σ => vX9_server Q σ x) := by
  have ht := tot_le hW
  rcases inOr x (tot M) (by omega) with ⟨c, hc, rfl⟩ | hx
  · refine ⟨nI (serverM M c), M, fun σ Q h hq => ?_, fun σ Q h hq => ?_⟩
    · show vX8_server Q σ (nI c)
      unfold vX8_server
      exact d_hasT h hc (t1 (d_serverOf h hc (fun τ F => hq τ (F.CI h))))
    · show vX9_server Q σ (nI c)
      unfold vX9_server
      exact k9_cubT h.w0 hc (t1 (k9_measure h.w0 (fun τ F hm => k9_serverOf (h.w0.same F) hm hc (hq τ (h.w0.same F)))))
  · refine ⟨(-2000000002), M, fun σ Q h hq => ?_, fun σ Q h hq => ?_⟩
    · show vX8_server Q σ x
      unfold vX8_server
      exact d_hasF' h hx (t0 (hq σ h))
    · show vX9_server Q σ x
      unfold vX9_server
      exact k9_cubF h.w0 hx (t0 (hq _ h.w0))
theorem st_gain {M : Mo} (hW : WF M) (x : Int32) : BSt M (fun Q σ => vX8_gain Q σ x) (fun Q σ => vX9_gain Q σ x) := by
  have ht := tot_le hW
  rcases inOr x (tot M) (by omega) with ⟨c, hc, rfl⟩ | hx
  · refine ⟨nI (gainM M c), M, fun σ Q h hq => ?_, fun σ Q h hq => ?_⟩
    · show vX8_gain Q σ (nI c)
      unfold vX8_gain
      exact d_hasT h hc (t1 (d_gainOf h hc (fun τ h2 => hq τ h2)))
    · show vX9_gain Q σ (nI c)
      unfold vX9_gain
      exact k9_cubT h.w0 hc (t1 (k9_measure h.w0 (fun τ F hm => k9_findCosts (h.w0.same F) hm (fun τ2 F2 hm2 hC2 => k9_gainOf ((h.w0.same F).same F2) hm2 hC2 hc (hq τ2 ((h.w0.same F).same F2))))))
  · refine ⟨(-2000000002), M, fun σ Q h hq => ?_, fun σ Q h hq => ?_⟩
    · show vX8_gain Q σ x
      unfold vX8_gain
      exact d_hasF' h hx (t0 (hq σ h))
    · show vX9_gain Q σ x
      unfold vX9_gain
      exact k9_cubF h.w0 hx (t0 (hq _ h.w0))
theorem st_serves {M : Mo} (hW : WF M) (x y : Int32) : BSt M (fun Q σ => vX8_serves Q σ x y) (fun Q σ => vX9_serves Q σ x y) := by
  have ht := tot_le hW
  rcases inOr x (tot M) (by omega) with ⟨c, hc, rfl⟩ | hx
  · rcases inOr y (tot M) (by omega) with ⟨w, hw, rfl⟩ | hy
    · refine ⟨b2i (srvM M c w), M, fun σ Q h hq => ?_, fun σ Q h hq => ?_⟩
      · show vX8_serves Q σ (nI c) (nI w)
        unfold vX8_serves
        exact d_hasT h hc (t1 (d_hasT h hw (t1 (d_canServe h hc hw (tb (hq σ h))))))
      · show vX9_serves Q σ (nI c) (nI w)
        unfold vX9_serves
        exact k9_cubT h.w0 hc (t1 (k9_cubT h.w0 hw (t1 (k9_servesIt h.w0 (by omega) (by omega) (tb (hq _ h.w0))))))
    · refine ⟨(-2000000002), M, fun σ Q h hq => ?_, fun σ Q h hq => ?_⟩
      · show vX8_serves Q σ (nI c) y
        unfold vX8_serves
        exact d_hasT h hc (t1 (d_hasF' h hy (t0 (hq σ h))))
      · show vX9_serves Q σ (nI c) y
        unfold vX9_serves
        exact k9_cubT h.w0 hc (t1 (k9_cubF h.w0 hy (t0 (hq _ h.w0))))
  · refine ⟨(-2000000002), M, fun σ Q h hq => ?_, fun σ Q h hq => ?_⟩
    · show vX8_serves Q σ x y
      unfold vX8_serves
      exact d_hasF' h hx (t0 (hq σ h))
    · show vX9_serves Q σ x y
      unfold vX9_serves
      exact k9_cubF h.w0 hx (t0 (hq _ h.w0))
theorem st_kept {M : Mo} (hW : WF M) (x : Int32) : BSt M (fun Q σ => vX8_kept Q σ x) (fun Q σ => vX9_kept Q σ x) := by
  have ht := tot_le hW
  rcases inOr x (tot M) (by omega) with ⟨c, hc, rfl⟩ | hx
  · refine ⟨b2i (kp M c), M, fun σ Q h hq => ?_, fun σ Q h hq => ?_⟩
    · show vX8_kept Q σ (nI c)
      unfold vX8_kept vX4_isKept
      refine d_hasT h hc (t1 (d_hasT h hc (t1 ⟨vin (by omega) (by decide), ?_⟩)))
      rw [nC (by omega), h.kk (by omega)]
      have := tb (hq σ h)
      exact ⟨fun q => t0 (this.1 q), fun q => t1 (this.2 q)⟩
    · show vX9_kept Q σ (nI c)
      unfold vX9_kept
      refine k9_cubT h.w0 hc (t1 ⟨vin (by omega) (by decide), ?_⟩)
      rw [nC (by omega), h.w0.2.2.2.2.2.2.2.2.2.2.2.1 c (by omega)]
      exact tb (hq _ h.w0)
  · refine ⟨(-2000000002), M, fun σ Q h hq => ?_, fun σ Q h hq => ?_⟩
    · show vX8_kept Q σ x
      unfold vX8_kept
      exact d_hasF' h hx (t0 (hq σ h))
    · show vX9_kept Q σ x
      unfold vX9_kept
      exact k9_cubF h.w0 hx (t0 (hq _ h.w0))
theorem st_levelOf {M : Mo} (hW : WF M) (x y : Int32) : BSt M (fun Q σ => vX8_levelOf Q σ x y) (fun Q σ => vX9_levelOf Q σ x y) := by
  have ht := tot_le hW
  have h4 := hW.1
  rcases inOr x (tot M) (by omega) with ⟨c, hc, rfl⟩ | hx
  · rcases inOr y (nd M) (by omega) with ⟨d, hd, rfl⟩ | hy
    · refine ⟨nI (levM M c d), M, fun σ Q h hq => ?_, fun σ Q h hq => ?_⟩
      · show vX8_levelOf Q σ (nI c) (nI d)
        unfold vX8_levelOf
        refine d_hasT h hc (t1 (d_findT h hd (cm_some (d_levelsOf h hc (d_levelIn (lcod_lt hW c) (by omega) ?_)))))
        rw [lcod_digit hW hd]
        exact hq σ h
      · show vX9_levelOf Q σ (nI c) (nI d)
        unfold vX9_levelOf
        exact k9_cubT h.w0 hc (t1 (k9_dimT h.w0 hd (t1 (k9_levelIn h.w0 (by omega) hd (hq _ h.w0)))))
    · refine ⟨(-2000000002), M, fun σ Q h hq => ?_, fun σ Q h hq => ?_⟩
      · show vX8_levelOf Q σ (nI c) y
        unfold vX8_levelOf
        exact d_hasT h hc (t1 (d_findF h hy (cm_none (hq σ h))))
      · show vX9_levelOf Q σ (nI c) y
        unfold vX9_levelOf
        exact k9_cubT h.w0 hc (t1 (k9_dimF h.w0 hy (t0 (hq _ h.w0))))
  · refine ⟨(-2000000002), M, fun σ Q h hq => ?_, fun σ Q h hq => ?_⟩
    · show vX8_levelOf Q σ x y
      unfold vX8_levelOf
      exact d_hasF' h hx (t0 (hq σ h))
    · show vX9_levelOf Q σ x y
      unfold vX9_levelOf
      exact k9_cubF h.w0 hx (t0 (hq _ h.w0))
theorem wid_pos {M : Mo} (h : WF M) {d l : Nat} (hd : d < nd M) (hl : l ≤ tl M d) : 1 ≤ wid M d l := by
  unfold wid
  rw [if_neg (by omega)]
  split
  · exact Nat.le_refl _
  · exact (h.2.2.1 d l hd (by omega)).1
theorem wid0 {M : Mo} (h : WF M) {d : Nat} (hd : d < nd M) : wid M d 0 = mb M d 0 := by
  have := (h.2.1 d hd).1
  unfold wid
  rw [if_neg (by omega), if_neg (by omega)]
theorem le0n {n : Nat} (h1 : 1 ≤ n) (h2 : n < 2147483648) : ¬ nI n ≤ 0 := fun q => by
  have := i_le.mp q
  rw [c0, nT h2] at this
  omega
theorem ne0n {n : Nat} (h1 : 1 ≤ n) (h2 : n < 2147483648) : ¬ nI n = 0 := fun q => by
  have := i_eq.mp q
  rw [c0, nT h2] at this
  omega
theorem st_members {M : Mo} (hW : WF M) (x y : Int32) : BSt M (fun Q σ => vX8_members Q σ x y) (fun Q σ => vX9_members Q σ x y) := by
  have h4 := hW.1
  rcases inOr x (nd M) (by omega) with ⟨d, hd, rfl⟩ | hx
  · have ht := hW.2.1 d hd
    rcases inOr y (tl M d + 1) (by omega) with ⟨l, hl, rfl⟩ | hy
    · have hw := wid_pos hW hd (show l ≤ tl M d by omega)
      have hw8 := wid8 hW hd (l := l)
      refine ⟨nI (wid M d l), M, fun σ Q h hq => ?_, fun σ Q h hq => ?_⟩
      · show vX8_members Q σ (nI d) (nI l)
        unfold vX8_members
        exact d_findT h hd (cm_some ⟨dimk_of (by omega), d_hasLevelT h hd (by omega) (t1 (d_widthOfT h hd (by omega) (hq σ h)))⟩)
      · show vX9_members Q σ (nI d) (nI l)
        unfold vX9_members
        exact k9_dimT h.w0 hd (t1 (k9_manyT h.w0 hd (by omega) ⟨fun q => absurd q (le0n hw (by omega)), fun _ => k9_manyT h.w0 hd (by omega) (hq _ h.w0)⟩))
    · refine ⟨(-2000000002), M, fun σ Q h hq => ?_, fun σ Q h hq => ?_⟩
      · show vX8_members Q σ (nI d) y
        unfold vX8_members
        exact d_findT h hd (cm_some ⟨dimk_of (by omega), d_hasLevelF h hd (by omega) (t0 (hq σ h))⟩)
      · show vX9_members Q σ (nI d) y
        unfold vX9_members
        exact k9_dimT h.w0 hd (t1 (k9_manyF h.w0 hd (by omega) ⟨fun _ => hq _ h.w0, fun q => absurd (by decide) q⟩))
  · refine ⟨(-2000000002), M, fun σ Q h hq => ?_, fun σ Q h hq => ?_⟩
    · show vX8_members Q σ x y
      unfold vX8_members
      exact d_findF h hx (cm_none (hq σ h))
    · show vX9_members Q σ x y
      unfold vX9_members
      exact k9_dimF h.w0 hx (t0 (hq _ h.w0))
theorem st_lies {M : Mo} (hW : WF M) (x y z : Int32) : BSt M (fun Q σ => vX8_lies Q σ x y z) (fun Q σ => vX9_lies Q σ x y z) := by
  have h4 := hW.1
  rcases inOr x (nd M) (by omega) with ⟨d, hd, rfl⟩ | hx
  · have ht := hW.2.1 d hd
    have hm8 := hW.2.2.1 d 0 hd (by omega)
    have hw0 := wid0 hW hd
    have el0 : (0 : Int32) = nI 0 := rfl
    rcases inOr y (mb M d 0) (by omega) with ⟨m, hm, rfl⟩ | hy
    · rcases inOr z (tl M d + 1) (by omega) with ⟨l, hl, rfl⟩ | hz
      · have hw := wid_pos hW hd (show l ≤ tl M d by omega)
        have hw8 := wid8 hW hd (l := l)
        refine ⟨nI (liesM M d m l), M, fun σ Q h hq => ?_, fun σ Q h hq => ?_⟩
        · show vX8_lies Q σ (nI d) (nI m) (nI l)
          unfold vX8_lies
          refine d_findT h hd (cm_some ⟨dimk_of (by omega), d_hasMemberT (l := 0) h hd (by omega) (by omega) (t1 (d_hasLevelT h hd (by omega) (t1 (d_homeOf h hd (by omega) hm (hq σ h)))))⟩)
        · show vX9_lies Q σ (nI d) (nI m) (nI l)
          unfold vX9_lies
          refine k9_dimT h.w0 hd (t1 (k9_manyT (l := 0) h.w0 hd (by omega) ?_))
          rw [hw0]
          exact k9_inT (by rw [c0, nT (by omega)]; omega) (by rw [n1T (by omega), nT (by omega)]; omega) (t1 (k9_manyT h.w0 hd (by omega) ⟨fun q => absurd q (ne0n hw (by omega)), fun _ => k9_liesIn h.w0 hd hm (by omega) (hq _ h.w0)⟩))
      · refine ⟨(-2000000002), M, fun σ Q h hq => ?_, fun σ Q h hq => ?_⟩
        · show vX8_lies Q σ (nI d) (nI m) z
          unfold vX8_lies
          refine d_findT h hd (cm_some ⟨dimk_of (by omega), d_hasMemberT (l := 0) h hd (by omega) (by omega) (t1 (d_hasLevelF h hd (by omega) (t0 (hq σ h))))⟩)
        · show vX9_lies Q σ (nI d) (nI m) z
          unfold vX9_lies
          refine k9_dimT h.w0 hd (t1 (k9_manyT (l := 0) h.w0 hd (by omega) ?_))
          rw [hw0]
          exact k9_inT (by rw [c0, nT (by omega)]; omega) (by rw [n1T (by omega), nT (by omega)]; omega) (t1 (k9_manyF h.w0 hd (by omega) (t0 (hq _ h.w0))))
    · refine ⟨(-2000000002), M, fun σ Q h hq => ?_, fun σ Q h hq => ?_⟩
      · show vX8_lies Q σ (nI d) y z
        unfold vX8_lies
        refine d_findT h hd (cm_some ⟨dimk_of (by omega), d_hasMemberF (l := 0) h hd (by omega) (by rw [hw0]; exact hy) (t0 (hq σ h))⟩)
      · show vX9_lies Q σ (nI d) y z
        unfold vX9_lies
        refine k9_dimT h.w0 hd (t1 (k9_manyT (l := 0) h.w0 hd (by omega) ?_))
        rw [hw0]
        exact k9_inF (by rw [c0, n1T (by omega)]; omega) (t0 (hq _ h.w0))
  · refine ⟨(-2000000002), M, fun σ Q h hq => ?_, fun σ Q h hq => ?_⟩
    · show vX8_lies Q σ x y z
      unfold vX8_lies
      exact d_findF h hx (cm_none (hq σ h))
    · show vX9_lies Q σ x y z
      unfold vX9_lies
      exact k9_dimF h.w0 hx (t0 (hq _ h.w0))
theorem st_choose {M : Mo} (hW : WF M) (x : Int32) : BSt M (fun Q σ => vX8_choose Q σ x) (fun Q σ => vX9_choose Q σ x) := by
  have e8 : (8 : Int32).toInt = 8 := by decide
  rcases inOr x 9 (by decide) with ⟨n, hn, rfl⟩ | hx
  · refine ⟨nI (sparedK M (grd M n only0)), setKp M (grd M n only0), fun σ Q h hq => ?_, fun σ Q h hq => k9_choose h (by omega) hq⟩
    show vX8_choose Q σ (nI n)
    unfold vX8_choose
    refine ⟨fun a => ?_, fun _ => ⟨fun _ => d_choose h (by omega) hq, fun a => ?_⟩⟩
    · have := i_lt.mp a; rw [c0, nT (by omega)] at this; omega
    · exact absurd ((leI (a := n) (b := 8) (by omega) (by omega)).mpr (by omega)) a
  · refine ⟨(-2000000002), M, fun σ Q h hq => ?_, fun σ Q h hq => ?_⟩
    · show vX8_choose Q σ x
      unfold vX8_choose
      refine ⟨fun _ => hq σ h, fun a => ⟨fun b => ?_, fun _ => hq σ h⟩⟩
      have a' : ¬ x.toInt < 0 := fun q => a (i_lt.mpr (by rw [c0]; exact q))
      have b' := i_le.mp b
      rw [e8] at b'
      omega
    · show vX9_choose Q σ x
      unfold vX9_choose
      exact k9_inF (by rw [c0, e8]; omega) (t0 (hq _ h.w0))
theorem st_best {M : Mo} (hW : WF M) (x : Int32) : BSt M (fun Q σ => vX8_best Q σ x) (fun Q σ => vX9_best Q σ x) := by
  have ht := tot_le hW
  have e3 : (3 : Int32).toInt = 3 := by decide
  rcases inOr x 4 (by decide) with ⟨n, hn, rfl⟩ | hx
  · by_cases h64 : tot M ≤ 64
    · refine ⟨nI (bestF M n 0 (row0 M)), M, fun σ Q h hq => ?_, fun σ Q h hq => ?_⟩
      · show vX8_best Q σ (nI n)
        unfold vX8_best
        rw [h.t]
        refine ⟨fun a => ?_, fun _ => ⟨fun _ => ⟨fun _ => d_greatest h h64 (by omega) hq, fun a => ?_⟩, fun a => ?_⟩⟩
        · have := i_lt.mp a; rw [c0, nT (by omega)] at this; omega
        · exact absurd ((leI (a := tot M) (b := 64) (by omega) (by omega)).mpr h64) a
        · exact absurd ((leI (a := n) (b := 3) (by omega) (by omega)).mpr (by omega)) a
      · show vX9_best Q σ (nI n)
        unfold vX9_best
        refine k9_inT (by rw [c0, nT (by omega)]; omega) (by rw [nT (by omega), e3]; omega) (t1 (k9_all h.w0 ⟨fun _ => k9_measure h.w0 (fun τ F hm => k9_b40 (h.w0.same F) hm (by omega) ?_), fun a => ?_⟩))
        · rw [best_eq (by omega)]
          exact hq τ (h.w0.same F)
        · exact absurd ((leI (a := tot M) (b := 64) (by omega) (by omega)).mpr h64) a
    · refine ⟨(-2000000003), M, fun σ Q h hq => ?_, fun σ Q h hq => ?_⟩
      · show vX8_best Q σ (nI n)
        unfold vX8_best
        rw [h.t]
        refine ⟨fun a => ?_, fun _ => ⟨fun _ => ⟨fun a => ?_, fun _ => hq σ h⟩, fun a => ?_⟩⟩
        · have := i_lt.mp a; rw [c0, nT (by omega)] at this; omega
        · exact absurd ((leI (a := tot M) (b := 64) (by omega) (by omega)).mp a) h64
        · exact absurd ((leI (a := n) (b := 3) (by omega) (by omega)).mpr (by omega)) a
      · show vX9_best Q σ (nI n)
        unfold vX9_best
        refine k9_inT (by rw [c0, nT (by omega)]; omega) (by rw [nT (by omega), e3]; omega) (t1 (k9_all h.w0 ⟨fun a => ?_, fun _ => hq _ h.w0⟩))
        exact absurd ((leI (a := tot M) (b := 64) (by omega) (by omega)).mp a) h64
  · refine ⟨(-2000000002), M, fun σ Q h hq => ?_, fun σ Q h hq => ?_⟩
    · show vX8_best Q σ x
      unfold vX8_best
      refine ⟨fun _ => hq σ h, fun a => ⟨fun b => ?_, fun _ => hq σ h⟩⟩
      have a' : ¬ x.toInt < 0 := fun q => a (i_lt.mpr (by rw [c0]; exact q))
      have b' := i_le.mp b
      rw [e3] at b'
      omega
    · show vX9_best Q σ x
      unfold vX9_best
      exact k9_inF (by rw [c0, e3]; omega) (t0 (hq _ h.w0))

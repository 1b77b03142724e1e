/-! ===== both sides answer alike: the calls that change the state (the frames' rows by program, wip/whole/step2.py) ===== -/
def setPk (M : Mo) (f : Nat → Nat) : Mo := (M.1, M.2.1, (f, M.2.2.1.2), M.2.2.2)
def setFi (M : Mo) (f g : Nat → Nat) : Mo := (M.1, M.2.1, (M.2.2.1.1, f, g), M.2.2.2)
def setFa (M : Mo) (n : Nat) (w : Nat → Nat → Nat) (m : Nat → Int32) (t : Nat → Bool) : Mo := (M.1, (n, w, m, t), M.2.2)
def setPa (M : Mo) (q : Nat → Nat → Nat → Nat) : Mo := ((M.1.1, M.1.2.1, M.1.2.2.1, q), M.2)
def setRe (M : Mo) (r : Int32) : Mo := (M.1, M.2.1, M.2.2.1, M.2.2.2.1, r, M.2.2.2.2.2)
def setOu (M : Mo) (n : Nat) (o : Nat → Nat) : Mo := (M.1, M.2.1, M.2.2.1, M.2.2.2.1, M.2.2.2.2.1, (n, o))
def up1 (f : Nat → Nat) (k v : Nat) : Nat → Nat := fun j => if j = k then v else f j
theorem up1_s {f : Nat → Nat} {k v : Nat} : up1 f k v k = v := if_pos rfl
theorem up1_n {f : Nat → Nat} {k v j : Nat} (h : j ≠ k) : up1 f k v j = f j := if_neg h

theorem WF.pick {M : Mo} (hW : WF M) {d m : Nat} (hm : m < 8) : WF (setPk M (up1 (pk M) d m)) := ⟨hW.1, hW.2.1, hW.2.2.1, hW.2.2.2.1, hW.2.2.2.2.1, hW.2.2.2.2.2.1, hW.2.2.2.2.2.2.1, hW.2.2.2.2.2.2.2.1, fun e he => (by
  show up1 (pk M) d m e < 8
  unfold up1
  split
  · exact hm
  · exact hW.2.2.2.2.2.2.2.2.1 e he), hW.2.2.2.2.2.2.2.2.2.1, hW.2.2.2.2.2.2.2.2.2.2.1, hW.2.2.2.2.2.2.2.2.2.2.2.1, hW.2.2.2.2.2.2.2.2.2.2.2.2⟩
theorem CI.pick {σ : St} {M : Mo} (h : CI σ M) {d0 m0 : Nat} (hm : m0 < 8) : CI (wr σ 47 d0 (nI m0)) (setPk M (up1 (pk M) d0 m0)) := by
  have h4 := h.1.1
  have e : ∀ j i, j ≠ 47 → rd (wr σ 47 d0 (nI m0)) j i = rd σ j i := fun j i hj => rd_ne hj
  refine ⟨h.1.pick hm, ?_, ?_, ?_, ?_, ?_, ?_, ?_, ?_, ?_, ?_, ?_, ?_, ?_, ?_, ?_, ?_, ?_⟩
  · rw [e _ _ (by omega)]
    exact h.n
  · intro d hd
    have hd1 : d < nd M := hd
    rw [e _ _ (by omega), e _ _ (by omega), e _ _ (by omega)]
    exact h.dm hd1
  · intro d l hd hl
    have hd1 : d < nd M := hd
    rw [e _ _ (by omega)]
    exact h.wd hd1 hl
  · intro d l m hd hl hm
    rw [e _ _ (by omega)]
    exact h.pr hd hl hm
  · intro d l m hd hl hm
    have hd1 : d < nd M := hd
    rw [e _ _ (by omega)]
    exact h.hm hd1 hl hm
  · rw [e _ _ (by omega)]
    exact h.f
  · rw [e _ _ (by omega)]
    exact h.fp
  · intro f hf
    rw [e _ _ (by omega), e _ _ (by omega), e _ _ (by omega)]
    exact h.fa hf
  · intro f hf h3
    rw [e _ _ (by omega)]
    exact h.fg hf h3
  · rw [e _ _ (by omega)]
    exact h.t
  · intro c hc
    rw [e _ _ (by omega)]
    exact h.lv hc
  · intro c hc
    rw [e _ _ (by omega)]
    exact h.sz hc
  · intro c hc
    rw [e _ _ (by omega)]
    exact h.kk hc
  · intro d hd
    show _ = nI (up1 (pk M) d0 m0 d)
    by_cases q : d = d0
    · rw [q, rd_eq, up1_s]
    · rw [rd_nej q, up1_n q]; exact h.pp hd
  · rw [e _ _ (by omega)]
    exact h.rr
  · rw [e _ _ (by omega)]
    exact h.oo
  · intro i hi
    rw [e _ _ (by omega)]
    exact h.ou hi
theorem RI.pick {σ : St} {M : Mo} (h : RI σ M) {d0 m0 : Nat} (hm : m0 < 8) : RI (wr σ 7 d0 (nI m0)) (setPk M (up1 (pk M) d0 m0)) := by
  have h4 := h.1.1
  have e : ∀ j i, j ≠ 7 → rd (wr σ 7 d0 (nI m0)) j i = rd σ j i := fun j i hj => rd_ne hj
  refine ⟨h.1.pick hm, ?_, ?_, ?_, ?_, ?_, ?_, ?_, ?_, ?_, ?_, ?_, ?_⟩
  · rw [e _ _ (by omega)]
    exact h.2.1
  · rw [e _ _ (by omega)]
    exact h.2.2.1
  · rw [e _ _ (by omega)]
    exact h.2.2.2.1
  · rw [e _ _ (by omega)]
    exact h.2.2.2.2.1
  · intro d hd
    rw [e _ _ (by omega), e _ _ (by omega), e _ _ (by omega)]
    exact h.2.2.2.2.2.1 d hd
  · intro d hd
    show _ = nI (up1 (pk M) d0 m0 d)
    by_cases q : d = d0
    · rw [q, rd_eq, up1_s]
    · rw [rd_nej q, up1_n q]; exact h.2.2.2.2.2.2.1 d hd
  · intro d l hd hl
    rw [e _ _ (by omega)]
    exact h.2.2.2.2.2.2.2.1 d l hd hl
  · intro d l m hd hl hm
    rw [e _ _ (by omega)]
    exact h.2.2.2.2.2.2.2.2.1 d l m hd hl hm
  · intro f d hf hd
    rw [e _ _ (by omega)]
    exact h.2.2.2.2.2.2.2.2.2.1 f d hf hd
  · intro f hf
    rw [e _ _ (by omega), e _ _ (by omega)]
    exact h.2.2.2.2.2.2.2.2.2.2.1 f hf
  · intro c hc
    rw [e _ _ (by omega)]
    exact h.2.2.2.2.2.2.2.2.2.2.2.1 c hc
  · intro i hi
    rw [e _ _ (by omega)]
    exact h.2.2.2.2.2.2.2.2.2.2.2.2 i hi
theorem st_pick {M : Mo} (hW : WF M) (x y : Int32) : BSt M (fun Q σ => vX8_pick Q σ x y) (fun Q σ => vX9_pick Q σ x y) := by
  have e3 : (3 : Int32).toInt = 3 := by decide
  have e7 : (7 : Int32).toInt = 7 := by decide
  have e4 : (4 : Int32).toInt = 4 := by decide
  have e8 : (8 : Int32).toInt = 8 := by decide
  rcases inOr x 4 (by decide) with ⟨d, hd, rfl⟩ | hx
  · rcases inOr y 8 (by decide) with ⟨m, hm, rfl⟩ | hy
    · refine ⟨nI (pk M d), setPk M (up1 (pk M) d m), fun σ Q h hq => ?_, fun σ Q h hq => ?_⟩
      · show vX8_pick Q σ (nI d) (nI m)
        unfold vX8_pick
        rw [nC (by omega), h.pp hd]
        refine ⟨fun a => ?_, fun _ => ⟨fun a => ?_, fun _ => ⟨fun a => ?_, fun _ => ⟨fun _ => ⟨vin hd (by decide), vin hd (by decide), hq _ (h.pick hm)⟩, fun a => ?_⟩⟩⟩⟩
        · have := i_lt.mp a; rw [c0, nT (by omega)] at this; omega
        · have := i_le.mp a; rw [e4, nT (by omega)] at this; omega
        · have := i_lt.mp a; rw [c0, nT (by omega)] at this; omega
        · exact absurd (i_lt.mpr (by rw [e8, nT (by omega)]; omega)) a
      · show vX9_pick Q σ (nI d) (nI m)
        unfold vX9_pick
        refine k9_inT (by rw [c0, nT (by omega)]; omega) (by rw [nT (by omega), e3]; omega) (t1 (k9_inT (by rw [c0, nT (by omega)]; omega) (by rw [nT (by omega), e7]; omega) (t1 ?_)))
        rw [nC (by omega), h.w0.2.2.2.2.2.2.1 d hd]
        exact ⟨vin hd (by decide), vin hd (by decide), hq _ (h.w0.pick hm)⟩
    · refine ⟨(-2000000002), M, fun σ Q h hq => ?_, fun σ Q h hq => ?_⟩
      · show vX8_pick Q σ (nI d) y
        unfold vX8_pick
        refine ⟨fun a => hq σ h, fun _ => ⟨fun a => hq σ h, fun _ => ⟨fun a => hq σ h, fun a => ⟨fun b => ?_, fun _ => hq σ h⟩⟩⟩⟩
        have a' : ¬ y.toInt < 0 := fun q => a (i_lt.mpr (by rw [c0]; exact q))
        have b' := i_lt.mp b
        rw [e8] at b'
        omega
      · show vX9_pick Q σ (nI d) y
        unfold vX9_pick
        exact k9_inT (by rw [c0, nT (by omega)]; omega) (by rw [nT (by omega), e3]; omega) (t1 (k9_inF (by rw [c0, e7]; omega) (t0 (hq _ h.w0))))
  · refine ⟨(-2000000002), M, fun σ Q h hq => ?_, fun σ Q h hq => ?_⟩
    · show vX8_pick Q σ x y
      unfold vX8_pick
      refine ⟨fun a => hq σ h, fun a => ⟨fun _ => hq σ h, fun b => ?_⟩⟩
      have a' : ¬ x.toInt < 0 := fun q => a (i_lt.mpr (by rw [c0]; exact q))
      have b' : ¬ (4 : Int32).toInt ≤ x.toInt := fun q => b (i_le.mpr q)
      rw [e4] at b'
      omega
    · show vX9_pick Q σ x y
      unfold vX9_pick
      exact k9_inF (by rw [c0, e3]; omega) (t0 (hq _ h.w0))
theorem WF.filter {M : Mo} (hW : WF M) {d l m : Nat} (hd : d < nd M) (hl : l ≤ tl M d) (hm : m < wid M d l) : WF (setFi M (up1 (fl M) d l) (up1 (fm M) d m)) := ⟨hW.1, hW.2.1, hW.2.2.1, hW.2.2.2.1, hW.2.2.2.2.1, hW.2.2.2.2.2.1, hW.2.2.2.2.2.2.1, hW.2.2.2.2.2.2.2.1, hW.2.2.2.2.2.2.2.2.1, fun e he => (by
  show up1 (fl M) d l e ≤ tl M e ∧ up1 (fm M) d m e < wid M e (up1 (fl M) d l e)
  by_cases q : e = d
  · rw [q, up1_s, up1_s]; exact ⟨hl, hm⟩
  · rw [up1_n q, up1_n q]; exact hW.2.2.2.2.2.2.2.2.2.1 e he), hW.2.2.2.2.2.2.2.2.2.2.1, hW.2.2.2.2.2.2.2.2.2.2.2.1, hW.2.2.2.2.2.2.2.2.2.2.2.2⟩
theorem CI.filter {σ : St} {M : Mo} (h : CI σ M) {d0 l0 m0 : Nat} (hd0 : d0 < nd M) (hl0 : l0 ≤ tl M d0) (hm0 : m0 < wid M d0 l0) : CI (wr (wr σ (2 + 4 * d0) 4 (nI l0)) (2 + 4 * d0) 5 (nI m0)) (setFi M (up1 (fl M) d0 l0) (up1 (fm M) d0 m0)) := by
  have h4 := h.1.1
  have e : ∀ j i, (j ≠ 2 + 4 * d0 ∨ (i ≠ 4 ∧ i ≠ 5)) → rd (wr (wr σ (2 + 4 * d0) 4 (nI l0)) (2 + 4 * d0) 5 (nI m0)) j i = rd σ j i := fun j i hj => by
    rw [rd_wr, rd_wr, if_neg (by omega), if_neg (by omega)]
  refine ⟨h.1.filter hd0 hl0 hm0, ?_, ?_, ?_, ?_, ?_, ?_, ?_, ?_, ?_, ?_, ?_, ?_, ?_, ?_, ?_, ?_, ?_⟩
  · rw [e _ _ (by omega)]
    exact h.n
  · intro d hd
    have hd1 : d < nd M := hd
    show rd _ _ 3 = nI (tl M d) ∧ rd _ _ 4 = nI (up1 (fl M) d0 l0 d) ∧ rd _ _ 5 = nI (up1 (fm M) d0 m0 d)
    by_cases q : d = d0
    · rw [q, up1_s, up1_s, e _ 3 (by omega), rd_eq, rd_nej (by decide), rd_eq]
      exact ⟨(h.dm hd0).1, rfl, rfl⟩
    · rw [up1_n q, up1_n q, e _ _ (by omega), e _ _ (by omega), e _ _ (by omega)]
      exact h.dm hd1
  · intro d l hd hl
    have hd1 : d < nd M := hd
    rw [e _ _ (by omega)]
    exact h.wd hd1 hl
  · intro d l m hd hl hm
    rw [e _ _ (by omega)]
    exact h.pr hd hl hm
  · intro d l m hd hl hm
    have hd1 : d < nd M := hd
    rw [e _ _ (by omega)]
    exact h.hm hd1 hl hm
  · rw [e _ _ (by omega)]
    exact h.f
  · rw [e _ _ (by omega)]
    exact h.fp
  · intro f hf
    rw [e _ _ (by omega), e _ _ (by omega), e _ _ (by omega)]
    exact h.fa hf
  · intro f hf h3
    rw [e _ _ (by omega)]
    exact h.fg hf h3
  · rw [e _ _ (by omega)]
    exact h.t
  · intro c hc
    rw [e _ _ (by omega)]
    exact h.lv hc
  · intro c hc
    rw [e _ _ (by omega)]
    exact h.sz hc
  · intro c hc
    rw [e _ _ (by omega)]
    exact h.kk hc
  · intro d hd
    rw [e _ _ (by omega)]
    exact h.pp hd
  · rw [e _ _ (by omega)]
    exact h.rr
  · rw [e _ _ (by omega)]
    exact h.oo
  · intro i hi
    rw [e _ _ (by omega)]
    exact h.ou hi
theorem RI.filter {σ : St} {M : Mo} (h : RI σ M) {d0 l0 m0 : Nat} (hd0 : d0 < nd M) (hl0 : l0 ≤ tl M d0) (hm0 : m0 < wid M d0 l0) : RI (wr (wr σ 8 d0 (nI l0)) 9 d0 (nI m0)) (setFi M (up1 (fl M) d0 l0) (up1 (fm M) d0 m0)) := by
  have h4 := h.1.1
  have e : ∀ j i, j ≠ 8 ∧ j ≠ 9 → rd (wr (wr σ 8 d0 (nI l0)) 9 d0 (nI m0)) j i = rd σ j i := fun j i hj => by
    rw [rd_wr, rd_wr, if_neg (by omega), if_neg (by omega)]
  refine ⟨h.1.filter hd0 hl0 hm0, ?_, ?_, ?_, ?_, ?_, ?_, ?_, ?_, ?_, ?_, ?_, ?_⟩
  · rw [e _ _ (by omega)]
    exact h.2.1
  · rw [e _ _ (by omega)]
    exact h.2.2.1
  · rw [e _ _ (by omega)]
    exact h.2.2.2.1
  · rw [e _ _ (by omega)]
    exact h.2.2.2.2.1
  · intro d hd
    have hd1 : d < nd M := hd
    show rd _ 1 d = nI (tl M d) ∧ rd _ 8 d = nI (up1 (fl M) d0 l0 d) ∧ rd _ 9 d = nI (up1 (fm M) d0 m0 d)
    by_cases q : d = d0
    · rw [q, up1_s, up1_s, e _ _ (by omega), rd_eq, rd_ne (by decide), rd_eq]
      exact ⟨(h.2.2.2.2.2.1 d0 hd0).1, rfl, rfl⟩
    · rw [up1_n q, up1_n q, e _ _ (by omega), rd_ne (by decide), rd_nej q, rd_nej q, rd_ne (by decide)]
      exact h.2.2.2.2.2.1 d hd1
  · intro d hd
    rw [e _ _ (by omega)]
    exact h.2.2.2.2.2.2.1 d hd
  · intro d l hd hl
    rw [e _ _ (by omega)]
    exact h.2.2.2.2.2.2.2.1 d l hd hl
  · intro d l m hd hl hm
    rw [e _ _ (by omega)]
    exact h.2.2.2.2.2.2.2.2.1 d l m hd hl hm
  · intro f d hf hd
    rw [e _ _ (by omega)]
    exact h.2.2.2.2.2.2.2.2.2.1 f d hf hd
  · intro f hf
    rw [e _ _ (by omega), e _ _ (by omega)]
    exact h.2.2.2.2.2.2.2.2.2.2.1 f hf
  · intro c hc
    rw [e _ _ (by omega)]
    exact h.2.2.2.2.2.2.2.2.2.2.2.1 c hc
  · intro i hi
    rw [e _ _ (by omega)]
    exact h.2.2.2.2.2.2.2.2.2.2.2.2 i hi
theorem st_filter {M : Mo} (hW : WF M) (x y z : Int32) : BSt M (fun Q σ => vX8_filter Q σ x y z) (fun Q σ => vX9_filter Q σ x y z) := by
  have h4 := hW.1
  rcases inOr x (nd M) (by omega) with ⟨d, hd, rfl⟩ | hx
  · have ht := hW.2.1 d hd
    rcases inOr y (tl M d + 1) (by omega) with ⟨l, hl, rfl⟩ | hy
    · have hw := wid_pos hW hd (show l ≤ tl M d by omega)
      have hw8 := wid8 hW hd (l := l)
      rcases inOr z (wid M d l) (by omega) with ⟨m, hm, rfl⟩ | hz
      · refine ⟨0, setFi M (up1 (fl M) d l) (up1 (fm M) d m), fun σ Q h hq => ?_, fun σ Q h hq => ?_⟩
        · show vX8_filter Q σ (nI d) (nI l) (nI m)
          unfold vX8_filter vX1_setFilter
          exact d_findT h hd (cm_some ⟨dimk_of (by omega), d_hasMemberT h hd (by omega) hm (t1 (hq _ (h.filter hd (by omega) hm)))⟩)
        · show vX9_filter Q σ (nI d) (nI l) (nI m)
          unfold vX9_filter
          refine k9_dimT h.w0 hd (t1 (k9_manyT h.w0 hd (by omega) (k9_inT (by rw [c0, nT (by omega)]; omega) (by rw [n1T (by omega), nT (by omega)]; omega) (t1 ?_))))
          rw [nC (by omega)]
          exact ⟨vin (by omega) (by decide), vin (by omega) (by decide), hq _ (h.w0.filter hd (by omega) hm)⟩
      · refine ⟨(-2000000002), M, fun σ Q h hq => ?_, fun σ Q h hq => ?_⟩
        · show vX8_filter Q σ (nI d) (nI l) z
          unfold vX8_filter
          exact d_findT h hd (cm_some ⟨dimk_of (by omega), d_hasMemberF h hd (by omega) hz (t0 (hq σ h))⟩)
        · show vX9_filter Q σ (nI d) (nI l) z
          unfold vX9_filter
          exact k9_dimT h.w0 hd (t1 (k9_manyT h.w0 hd (by omega) (k9_inF (by rw [c0, n1T (by omega)]; omega) (t0 (hq _ h.w0)))))
    · refine ⟨(-2000000002), M, fun σ Q h hq => ?_, fun σ Q h hq => ?_⟩
      · show vX8_filter Q σ (nI d) y z
        unfold vX8_filter
        exact d_findT h hd (cm_some ⟨dimk_of (by omega), d_hasMemberL h hd (by omega) (t0 (hq σ h))⟩)
      · show vX9_filter Q σ (nI d) y z
        unfold vX9_filter
        refine k9_dimT h.w0 hd (t1 (k9_manyF h.w0 hd (by omega) (k9_inF ?_ (t0 (hq _ h.w0)))))
        have e : ((0 : Int32) - 1).toInt = -1 := by decide
        rw [e, c0]
        omega
  · refine ⟨(-2000000002), M, fun σ Q h hq => ?_, fun σ Q h hq => ?_⟩
    · show vX8_filter Q σ x y z
      unfold vX8_filter
      exact d_findF h hx (cm_none (hq σ h))
    · show vX9_filter Q σ x y z
      unfold vX9_filter
      exact k9_dimF h.w0 hx (t0 (hq _ h.w0))
theorem st_keep {M : Mo} (hW : WF M) (x : Int32) (on : Bool) : BSt M (fun Q σ => vX8_keep Q σ x (b2i on)) (fun Q σ => vX9_keep Q σ x (b2i on)) := by
  have ht := tot_le hW
  rcases inOr x (tot M) (by omega) with ⟨c, hc, rfl⟩ | hx
  · by_cases hs : c = 0 ∧ on = false
    · obtain ⟨rfl, rfl⟩ := hs
      refine ⟨(-2000000003), M, fun σ Q h hq => ?_, fun σ Q h hq => ?_⟩
      · show vX8_keep Q σ (nI 0) (b2i false)
        unfold vX8_keep
        exact d_hasT h hc (t1 ⟨fun _ => ⟨fun _ => hq σ h, fun a => absurd rfl a⟩, fun a => absurd rfl a⟩)
      · show vX9_keep Q σ (nI 0) (b2i false)
        unfold vX9_keep
        exact k9_cubT h.w0 hc (t1 ⟨fun _ => ⟨fun _ => hq _ h.w0, fun a => absurd rfl a⟩, fun a => absurd rfl a⟩)
    · have hk0 : (fun x => if x = c then on else kp M x) 0 = true := by
        show (if 0 = c then on else kp M 0) = true
        by_cases q : 0 = c
        · rw [if_pos q]
          cases on with
          | true => rfl
          | false => exact absurd ⟨q.symm, rfl⟩ hs
        · rw [if_neg q]; exact hW.2.2.2.2.2.2.2.2.2.2.1
      have hCI : ∀ σ, CI σ M → CI (wr σ 25 c (b2i on)) (setKp M (fun x => if x = c then on else kp M x)) := fun σ h => h.kept hk0 (fun a ha => by
        show _ = b2i (if a = c then on else kp M a)
        by_cases q : a = c
        · rw [q, rd_eq, if_pos rfl]
        · rw [rd_nej q, if_neg q]; exact h.kk ha) (fun j i hj => rd_ne hj)
      have hRI : ∀ σ, RI σ M → RI (wr σ 10 c (b2i on)) (setKp M (fun x => if x = c then on else kp M x)) := fun σ h => h.kept hk0 (fun a ha => by
        show _ = b2i (if a = c then on else kp M a)
        by_cases q : a = c
        · rw [q, rd_eq, if_pos rfl]
        · rw [rd_nej q, if_neg q]; exact h.2.2.2.2.2.2.2.2.2.2.2.1 a ha) (fun j i _ _ hj => rd_ne hj) (fun i _ _ => rd_ne (by decide))
      have same : kp M c = on → setKp M (fun x => if x = c then on else kp M x) = M := fun q => by
        have : (fun x => if x = c then on else kp M x) = kp M := by
          funext a
          by_cases qa : a = c
          · rw [if_pos qa, qa, q]
          · rw [if_neg qa]
        rw [this]; exact setKp_self
      have heq : b2i (kp M c) = b2i on ↔ kp M c = on := by
        cases kp M c <;> cases on <;> decide
      refine ⟨if kp M c = on then 0 else 1, setKp M (fun x => if x = c then on else kp M x), fun σ Q h hq => ?_, fun σ Q h hq => ?_⟩
      · have hmk : vX4_mark (fun r4 σ3 => ((r4 = 0 → Q 0 σ3) ∧ (¬ r4 = 0 → Q 1 σ3))) σ (nI c) (b2i on) := by
          unfold vX4_mark
          refine d_hasT h hc (t1 ⟨vin (by omega) (by decide), ?_⟩)
          rw [nC (by omega), h.kk (by omega), narb]
          refine ⟨fun a => t0 ?_, fun a => ⟨vin (by omega) (by decide), t1 ?_⟩⟩
          · have q := heq.mp a
            rw [if_pos q, same q] at hq
            exact hq σ h
          · rw [if_neg (fun q => a (heq.mpr q))] at hq
            exact hq _ (hCI σ h)
        show vX8_keep Q σ (nI c) (b2i on)
        unfold vX8_keep
        refine d_hasT h hc (t1 ⟨fun a => ⟨fun b => ?_, fun _ => hmk⟩, fun _ => hmk⟩)
        have : c = 0 := (eqI (a := c) (b := 0) (by omega) (by omega)).mp a
        exact absurd ⟨this, b2i_0.mp b⟩ hs
      · have hmk : vX9_keep_J27 Q (wr σ 0 0 0) (nI c) (b2i on) := by
          unfold vX9_keep_J27
          rw [nC (by omega), h.w0.2.2.2.2.2.2.2.2.2.2.2.1 c (by omega), narb]
          refine ⟨vin (by omega) (by decide), vin (by omega) (by decide), fun a => ?_, fun a => ?_⟩
          · rw [if_pos (heq.mp a)] at hq
            exact hq _ (hRI _ h.w0)
          · rw [if_neg (fun q => a (heq.mpr q))] at hq
            exact hq _ (hRI _ h.w0)
        show vX9_keep Q σ (nI c) (b2i on)
        unfold vX9_keep
        refine k9_cubT h.w0 hc (t1 ⟨fun a => ⟨fun b => ?_, fun _ => hmk⟩, fun _ => hmk⟩)
        have : c = 0 := (eqI (a := c) (b := 0) (by omega) (by omega)).mp a
        exact absurd ⟨this, b2i_0.mp b⟩ hs
  · refine ⟨(-2000000002), M, fun σ Q h hq => ?_, fun σ Q h hq => ?_⟩
    · show vX8_keep Q σ x (b2i on)
      unfold vX8_keep
      exact d_hasF' h hx (t0 (hq σ h))
    · show vX9_keep Q σ x (b2i on)
      unfold vX9_keep
      exact k9_cubF h.w0 hx (t0 (hq _ h.w0))

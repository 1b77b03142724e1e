/-! ===== drop, fact, parent ===== -/
theorem cntF_drop {q : Nat → Bool} {f : Nat} (hf : q f = true) : ∀ n, f < n → cntF (fun g => if g = f then false else q g) n + 1 = cntF q n
  | 0, h => by omega
  | n + 1, h => by
    by_cases e : n = f
    · subst e
      have e1 := cntF_congr (p := fun g => if g = n then false else q g) (q := q) n (fun i hi => if_neg (by omega))
      show cntF (fun g => if g = n then false else q g) n + (if (if n = n then false else q n) then 1 else 0) + 1 = cntF q n + (if q n then 1 else 0)
      rw [e1]
      simp [hf]
    · have ih := cntF_drop (q := q) hf n (by omega)
      simp only [cntF, if_neg e]
      omega
def setSz (τ : St) : Prop := ∀ c, c < 256 → rd τ 24 c = -1

theorem WF.drop {M : Mo} (hW : WF M) {t : Nat → Bool} : WF (setFa M (nf M) (wh M) (ms M) t) := ⟨hW.1, hW.2.1, hW.2.2.1, hW.2.2.2.1, hW.2.2.2.2.1, hW.2.2.2.2.2.1, hW.2.2.2.2.2.2.1, hW.2.2.2.2.2.2.2.1, hW.2.2.2.2.2.2.2.2.1, hW.2.2.2.2.2.2.2.2.2.1, hW.2.2.2.2.2.2.2.2.2.2.1, hW.2.2.2.2.2.2.2.2.2.2.2.1, hW.2.2.2.2.2.2.2.2.2.2.2.2⟩
theorem CI.drop {σ τ : St} {M : Mo} (h : CI σ M) {f0 : Nat} (hf0 : f0 < nf M) (ht : th M f0 = true) (hs : setSz τ) (e : ∀ j i, (j ≠ 24 ∧ ¬ (j = 21 ∧ i = f0) ∧ ¬ (j = 18 ∧ i = 4)) → rd τ j i = rd σ j i) (e1 : rd τ 21 f0 = 1) (e2 : rd τ 18 4 = nI (cntF (th M) (nf M)) - 1) : CI τ (setFa M (nf M) (wh M) (ms M) (fun g => if g = f0 then false else th M g)) := by
  have h4 := h.1.1
  have hc := cntF_drop ht (nf M) hf0
  refine ⟨h.1.drop, ?_, ?_, ?_, ?_, ?_, ?_, ?_, ?_, ?_, ?_, ?_, ?_, ?_, ?_, ?_, ?_, ?_⟩
  · rw [e _ _ (by omega)]
    exact h.n
  · intro d hd
    have hd1 : d < nd M := hd
    rw [e _ _ (by omega), e _ _ (by omega), e _ _ (by omega)]
    exact h.dm hd1
  · intro d l hd hl
    have hd1 : d < nd M := hd
    rw [e _ _ (by omega)]
    exact h.wd hd1 hl
  · intro d l m hd hl hm
    rw [e _ _ (by omega)]
    exact h.pr hd hl hm
  · intro d l m hd hl hm
    have hd1 : d < nd M := hd
    rw [e _ _ (by omega)]
    exact h.hm hd1 hl hm
  · rw [e _ _ (by omega)]
    exact h.f
  · show rd τ 18 4 = nI (cntF (fun g => if g = f0 then false else th M g) (nf M))
    rw [e2, ← hc, nsub1 (by omega), Nat.add_sub_cancel]
  · intro f hf
    have hf1 : f < nf M := hf
    show rd τ 19 f = nI (cod 8 (wh M f) (nd M)) ∧ rd τ 20 f = ms M f ∧ rd τ 21 f = b2i (!(if f = f0 then false else th M f))
    rw [e 19 f (by omega), e 20 f (by omega)]
    refine ⟨(h.fa hf1).1, (h.fa hf1).2.1, ?_⟩
    by_cases q : f = f0
    · rw [q, e1, if_pos rfl]; rfl
    · rw [e 21 f (by omega), if_neg q]; exact (h.fa hf1).2.2
  · intro f hf h3
    have hf1 : nf M ≤ f := hf
    rw [e _ _ (by omega)]
    exact h.fg hf1 h3
  · rw [e _ _ (by omega)]
    exact h.t
  · intro c hc
    rw [e _ _ (by omega)]
    exact h.lv hc
  · intro c hc2
    have h1 : c < tot M := hc2
    have h2 := tot_le h.1
    exact Or.inl (hs c (by omega))
  · intro c hc
    rw [e _ _ (by omega)]
    exact h.kk hc
  · intro d hd
    rw [e _ _ (by omega)]
    exact h.pp hd
  · rw [e _ _ (by omega)]
    exact h.rr
  · rw [e _ _ (by omega)]
    exact h.oo
  · intro i hi
    rw [e _ _ (by omega)]
    exact h.ou hi
theorem RI.drop {σ : St} {M : Mo} (h : RI σ M) {f0 : Nat} : RI (wr σ 6 f0 0) (setFa M (nf M) (wh M) (ms M) (fun g => if g = f0 then false else th M g)) := by
  have e : ∀ j i, j ≠ 6 → rd (wr σ 6 f0 0) j i = rd σ j i := fun j i hj => rd_ne hj
  refine ⟨h.1.drop, ?_, ?_, ?_, ?_, ?_, ?_, ?_, ?_, ?_, ?_, ?_, ?_⟩
  · rw [e _ _ (by omega)]
    exact h.2.1
  · rw [e _ _ (by omega)]
    exact h.2.2.1
  · rw [e _ _ (by omega)]
    exact h.2.2.2.1
  · rw [e _ _ (by omega)]
    exact h.2.2.2.2.1
  · intro d hd
    rw [e _ _ (by omega), e _ _ (by omega), e _ _ (by omega)]
    exact h.2.2.2.2.2.1 d hd
  · intro d hd
    rw [e _ _ (by omega)]
    exact h.2.2.2.2.2.2.1 d hd
  · intro d l hd hl
    rw [e _ _ (by omega)]
    exact h.2.2.2.2.2.2.2.1 d l hd hl
  · intro d l m hd hl hm
    rw [e _ _ (by omega)]
    exact h.2.2.2.2.2.2.2.2.1 d l m hd hl hm
  · intro f d hf hd
    rw [e _ _ (by omega)]
    exact h.2.2.2.2.2.2.2.2.2.1 f d hf hd
  · intro f hf
    have hf1 : f < nf M := hf
    show rd _ 5 f = ms M f ∧ rd _ 6 f = b2i (if f = f0 then false else th M f)
    rw [e 5 f (by decide)]
    refine ⟨(h.2.2.2.2.2.2.2.2.2.2.1 f hf1).1, ?_⟩
    by_cases q : f = f0
    · rw [q, rd_eq, if_pos rfl]; rfl
    · rw [rd_nej q, if_neg q]; exact (h.2.2.2.2.2.2.2.2.2.2.1 f hf1).2
  · intro c hc
    rw [e _ _ (by omega)]
    exact h.2.2.2.2.2.2.2.2.2.2.2.1 c hc
  · intro i hi
    rw [e _ _ (by omega)]
    exact h.2.2.2.2.2.2.2.2.2.2.2.2 i hi
theorem CI.forget {σ τ : St} {M : Mo} (h : CI σ M) (e : ∀ j i, j ≠ 24 → rd τ j i = rd σ j i) (hs : setSz τ) : CI τ M := by
  have h4 := h.1.1
  refine ⟨h.1, ?_, ?_, ?_, ?_, ?_, ?_, ?_, ?_, ?_, ?_, ?_, ?_, ?_, ?_, ?_, ?_, ?_⟩
  · rw [e _ _ (by omega)]
    exact h.n
  · intro d hd
    have hd1 : d < nd M := hd
    rw [e _ _ (by omega), e _ _ (by omega), e _ _ (by omega)]
    exact h.dm hd1
  · intro d l hd hl
    have hd1 : d < nd M := hd
    rw [e _ _ (by omega)]
    exact h.wd hd1 hl
  · intro d l m hd hl hm
    rw [e _ _ (by omega)]
    exact h.pr hd hl hm
  · intro d l m hd hl hm
    have hd1 : d < nd M := hd
    rw [e _ _ (by omega)]
    exact h.hm hd1 hl hm
  · rw [e _ _ (by omega)]
    exact h.f
  · rw [e _ _ (by omega)]
    exact h.fp
  · intro f hf
    rw [e _ _ (by omega), e _ _ (by omega), e _ _ (by omega)]
    exact h.fa hf
  · intro f hf h3
    rw [e _ _ (by omega)]
    exact h.fg hf h3
  · rw [e _ _ (by omega)]
    exact h.t
  · intro c hc
    rw [e _ _ (by omega)]
    exact h.lv hc
  · intro c hc
    have h2 := tot_le h.1
    exact Or.inl (hs c (by omega))
  · intro c hc
    rw [e _ _ (by omega)]
    exact h.kk hc
  · intro d hd
    rw [e _ _ (by omega)]
    exact h.pp hd
  · rw [e _ _ (by omega)]
    exact h.rr
  · rw [e _ _ (by omega)]
    exact h.oo
  · intro i hi
    rw [e _ _ (by omega)]
    exact h.ou hi
theorem st_drop {M : Mo} (hW : WF M) (x : Int32) : BSt M (fun Q σ => vX8_drop Q σ x) (fun Q σ => vX9_drop Q σ x) := by
  have h3 := hW.2.2.2.2.2.1
  rcases inOr x (nf M) (by omega) with ⟨f, hf, rfl⟩ | hx
  · cases ht : th M f with
    | false =>
      refine ⟨(-2000000003), M, fun σ Q h hq => ?_, fun σ Q h hq => ?_⟩
      · show vX8_drop Q σ (nI f)
        unfold vX8_drop
        rw [h.f]
        refine ⟨fun a => ?_, fun _ => ⟨fun _ => d_isThere h hf ?_, fun a => ?_⟩⟩
        · have := i_lt.mp a; rw [c0, nT (by omega)] at this; omega
        · rw [ht]; exact t0 (hq σ h)
        · exact absurd ((ltI (by omega) (by omega)).mpr hf) a
      · show vX9_drop Q σ (nI f)
        unfold vX9_drop
        rw [h.w0.2.2.1]
        refine k9_inT (by rw [c0, nT (by omega)]; omega) (by rw [n1T (by omega), nT (by omega)]; omega) (t1 ?_)
        rw [nC (by omega), (h.w0.2.2.2.2.2.2.2.2.2.2.1 f hf).2, ht]
        exact ⟨vin (by omega) (by decide), fun _ => hq _ h.w0, fun a => absurd rfl a⟩
    | true =>
      refine ⟨ms M f, setFa M (nf M) (wh M) (ms M) (fun g => if g = f then false else th M g), fun σ Q h hq => ?_, fun σ Q h hq => ?_⟩
      · show vX8_drop Q σ (nI f)
        unfold vX8_drop
        rw [h.f]
        refine ⟨fun a => ?_, fun _ => ⟨fun _ => d_isThere h hf ?_, fun a => ?_⟩⟩
        · have := i_lt.mp a; rw [c0, nT (by omega)] at this; omega
        · rw [ht]
          refine t1 (d_forget (fun τ F hs => ?_))
          have h2 := h.forget F hs
          unfold vX2_strike
          refine d_isThere h2 hf ?_
          rw [ht, nC (by omega), nar1]
          refine t1 ⟨vin (by omega) (by decide), ?_⟩
          rw [rd_ne (by decide), h2.fp]
          have hCI : CI (wr (wr τ 21 f 1) 18 4 (nI (cntF (th M) (nf M)) - 1)) (setFa M (nf M) (wh M) (ms M) (fun g => if g = f then false else th M g)) := by
            refine h2.drop hf ht (fun c hc => by rw [rd_ne (by decide), rd_ne (by decide)]; exact hs c hc) (fun j i hj => by rw [rd_wr, rd_wr, if_neg (by omega), if_neg (by omega)]) (by rw [rd_ne (by decide), rd_eq]) rd_eq
          exact d_measureOf hCI hf (hq _ hCI)
        · exact absurd ((ltI (by omega) (by omega)).mpr hf) a
      · show vX9_drop Q σ (nI f)
        unfold vX9_drop
        rw [h.w0.2.2.1]
        refine k9_inT (by rw [c0, nT (by omega)]; omega) (by rw [n1T (by omega), nT (by omega)]; omega) (t1 ?_)
        rw [nC (by omega), (h.w0.2.2.2.2.2.2.2.2.2.2.1 f hf).2, ht, nar0, rd_ne (by decide), (h.w0.2.2.2.2.2.2.2.2.2.2.1 f hf).1]
        exact ⟨vin (by omega) (by decide), fun a => absurd a n10, fun _ => ⟨vin (by omega) (by decide), vin (by omega) (by decide), hq _ h.w0.drop⟩⟩
  · refine ⟨(-2000000002), M, fun σ Q h hq => ?_, fun σ Q h hq => ?_⟩
    · show vX8_drop Q σ x
      unfold vX8_drop
      rw [h.f]
      refine ⟨fun _ => hq σ h, fun a => ⟨fun b => ?_, fun _ => hq σ h⟩⟩
      have a' : ¬ x.toInt < 0 := fun q => a (i_lt.mpr (by rw [c0]; exact q))
      have b' := i_lt.mp b
      rw [nT (by omega)] at b'
      omega
    · show vX9_drop Q σ x
      unfold vX9_drop
      rw [h.w0.2.2.1]
      exact k9_inF (by rw [c0, n1T (by omega)]; omega) (t0 (hq _ h.w0))
/-! picks as a group -/
def pksOk (M : Mo) (c : Nat) (n : Nat) : Bool := (List.range n).all (fun d => decide (pk M d < wid M d (levM M c d)))
theorem pksOk_s {M : Mo} {c n : Nat} : pksOk M c (n + 1) = (pksOk M c n && decide (pk M n < wid M n (levM M c n))) := all_range_succ _ _
theorem pksOk_iff {M : Mo} {c n : Nat} : pksOk M c n = true ↔ ∀ d, d < n → pk M d < wid M d (levM M c d) := by
  unfold pksOk
  rw [List.all_eq_true]
  exact ⟨fun h d hd => by simpa using h d (List.mem_range.mpr hd), fun h d hd => by simpa using h d (List.mem_range.mp hd)⟩
theorem d_pack {Q : Int32 → St → Prop} {σ : St} {M : Mo} (hI : CI σ M) {c : Nat} (hQ : Q (if pksOk M c (nd M) then nI (cod 8 (pk M) (nd M)) else -1) σ) : vX6_pack 47 Q σ (nI (lcod M c)) := by
  have h4 := hI.1.1
  have hll := lcod_lt hI.1 c
  have h47 : isI 49 47 := ⟨rfl, by decide⟩
  have eN : TC.2.1 47 = 4 := rfl
  have key : ∀ q i, i ≤ nd M → nd M - i < q → pksOk M c i = true → vX6_pack_L5 47 Q q σ (nI (lcod M c)) (nI (cod 8 (pk M) i)) (nI i) := by
    intro q
    induction q with
    | zero => intro i _ h; omega
    | succ q ih =>
      intro i hi hq hok
      simp only [vX6_pack_L5]
      rw [hI.n, eN]
      refine ⟨fun a => ?_, fun a => ?_⟩
      · have e : i = nd M := by
          have : nd M ≤ i := (leI (by omega) (by omega)).mp a
          omega
        subst e
        rw [hok] at hQ
        exact hQ
      · have hlt : i < nd M := lt_of_nle (by omega) (by omega) a
        have ht := hI.1.2.1 i hlt
        have hl := lev_lt (M := M) (c := c) (d := i)
        have hp8 := hI.1.2.2.2.2.2.2.2.2.1 i (by omega)
        have hcod : cod 8 (pk M) i < 4096 := Nat.lt_of_lt_of_le (cod_lt i (fun d hd => hI.1.2.2.2.2.2.2.2.2.1 d (by omega))) (p8 (by omega))
        refine ⟨vin (by omega) (by decide), d_levelIn hll (by omega) ?_⟩
        rw [lcod_digit hI.1 hlt, nC (by omega), hI.pp (by omega)]
        refine ⟨h47, vin (by omega) (by decide), dimk_of (by omega), ?_⟩
        by_cases hw : pk M i < wid M i (levM M c i)
        · refine d_hasMemberT hI hlt (by omega) hw (t1 ⟨h47, vin (by omega) (by decide), ?_⟩)
          rw [hI.pp (by omega), l3, shlN (by decide) (by omega), nsucc]
          show vX6_pack_L5 47 Q q σ _ (nI (cod 8 (pk M) i * 8) ||| nI (pk M i)) _
          rw [or8 hp8]
          exact ih (i + 1) (by omega) (by omega) (by rw [pksOk_s, hok, decide_eq_true hw]; rfl)
        · have hno : ¬ pksOk M c (nd M) = true := fun q => hw (pksOk_iff.mp q i hlt)
          refine d_hasMemberF hI hlt (by omega) (by rw [nT (by omega)]; omega) (t0 ?_)
          rw [if_neg hno] at hQ
          exact hQ
  exact ⟨nd M + 1, key _ 0 (by omega) (by omega) rfl⟩

theorem d_pack0 {Q : Int32 → St → Prop} {σ : St} {M : Mo} (hI : CI σ M) (hQ : Q (if pksOk M 0 (nd M) then nI (cod 8 (pk M) (nd M)) else -1) σ) : vX6_pack 47 Q σ 0 := by
  have e0 : (0 : Int32) = nI (lcod M 0) := by rw [lcod_0]; rfl
  rw [e0]
  exact d_pack hI hQ
def facM (M : Mo) (x : Int32) : Mo := setFa M (nf M + 1) (fun g => if g = nf M then pk M else wh M g) (fun g => if g = nf M then x else ms M g) (fun g => if g = nf M then true else th M g)
theorem lev00 {M : Mo} {d : Nat} : levM M 0 d = 0 := lev0
theorem pks0 {M : Mo} (hW : WF M) : pksOk M 0 (nd M) = true ↔ ∀ d, d < nd M → pk M d < mb M d 0 := by
  rw [pksOk_iff]
  constructor
  · intro h d hd
    have := h d hd
    rw [lev0, wid0 hW hd] at this
    exact this
  · intro h d hd
    rw [lev0, wid0 hW hd]
    exact h d hd
theorem WF.fact {M : Mo} (hW : WF M) {x : Int32} (h3 : nf M < 300) (hp : ∀ d, d < nd M → pk M d < mb M d 0) (hx : -1000 ≤ x.toInt ∧ x.toInt ≤ 1000) : WF (facM M x) := ⟨hW.1, hW.2.1, hW.2.2.1, hW.2.2.2.1, hW.2.2.2.2.1, h3, fun f d hf hd => (by
  show (if f = nf M then pk M else wh M f) d < mb M d 0
  have hf1 : f < nf M + 1 := hf
  by_cases q : f = nf M
  · rw [if_pos q]; exact hp d hd
  · rw [if_neg q]; exact hW.2.2.2.2.2.2.1 f d (by omega) hd), fun f hf => (by
  show -1000 ≤ (if f = nf M then x else ms M f).toInt ∧ (if f = nf M then x else ms M f).toInt ≤ 1000
  have hf1 : f < nf M + 1 := hf
  by_cases q : f = nf M
  · rw [if_pos q]; exact hx
  · rw [if_neg q]; exact hW.2.2.2.2.2.2.2.1 f (by omega)), hW.2.2.2.2.2.2.2.2.1, hW.2.2.2.2.2.2.2.2.2.1, hW.2.2.2.2.2.2.2.2.2.2.1, hW.2.2.2.2.2.2.2.2.2.2.2.1, hW.2.2.2.2.2.2.2.2.2.2.2.2⟩
theorem cnt_new {q : Nat → Bool} (n : Nat) : cntF (fun g => if g = n then true else q g) (n + 1) = cntF q n + 1 := by
  have e1 := cntF_congr (p := fun g => if g = n then true else q g) (q := q) n (fun i hi => if_neg (by omega))
  show cntF (fun g => if g = n then true else q g) n + (if (if n = n then true else q n) then 1 else 0) = cntF q n + 1
  rw [e1]
  simp
theorem CI.fact {σ τ : St} {M : Mo} (h : CI σ M) {x : Int32} (h3 : nf M < 300) (hp : ∀ d, d < nd M → pk M d < mb M d 0) (hx : -1000 ≤ x.toInt ∧ x.toInt ≤ 1000) (hs : setSz τ) (e : ∀ j i, (j ≠ 24 ∧ ¬ (j = 18 ∧ (i = 3 ∨ i = 4)) ∧ ¬ ((j = 19 ∨ j = 20) ∧ i = nf M)) → rd τ j i = rd σ j i) (e1 : rd τ 18 3 = nI (nf M + 1)) (e2 : rd τ 18 4 = nI (cntF (th M) (nf M) + 1)) (e3 : rd τ 19 (nf M) = nI (cod 8 (pk M) (nd M))) (e4 : rd τ 20 (nf M) = x) : CI τ (facM M x) := by
  have h4 := h.1.1
  refine ⟨h.1.fact h3 hp hx, ?_, ?_, ?_, ?_, ?_, ?_, ?_, ?_, ?_, ?_, ?_, ?_, ?_, ?_, ?_, ?_, ?_⟩
  · rw [e _ _ (by omega)]
    exact h.n
  · intro d hd
    have hd1 : d < nd M := hd
    rw [e _ _ (by omega), e _ _ (by omega), e _ _ (by omega)]
    exact h.dm hd1
  · intro d l hd hl
    have hd1 : d < nd M := hd
    rw [e _ _ (by omega)]
    exact h.wd hd1 hl
  · intro d l m hd hl hm
    rw [e _ _ (by omega)]
    exact h.pr hd hl hm
  · intro d l m hd hl hm
    have hd1 : d < nd M := hd
    rw [e _ _ (by omega)]
    exact h.hm hd1 hl hm
  · exact e1
  · show rd τ 18 4 = nI (cntF (fun g => if g = nf M then true else th M g) (nf M + 1))
    rw [e2, cnt_new]
  · intro f hf
    have hf1 : f < nf M + 1 := hf
    show rd τ 19 f = nI (cod 8 (if f = nf M then pk M else wh M f) (nd M)) ∧ rd τ 20 f = (if f = nf M then x else ms M f) ∧ rd τ 21 f = b2i (!(if f = nf M then true else th M f))
    by_cases q : f = nf M
    · subst q
      rw [if_pos rfl, if_pos rfl, if_pos rfl, e 21 _ (by omega)]
      exact ⟨e3, e4, h.fg (Nat.le_refl _) h3⟩
    · rw [if_neg q, if_neg q, if_neg q, e 19 f (by omega), e 20 f (by omega), e 21 f (by omega)]
      exact h.fa (by omega)
  · intro f hf h33
    have hf1 : nf M + 1 ≤ f := hf
    rw [e _ _ (by omega)]
    exact h.fg (by omega) h33
  · rw [e _ _ (by omega)]
    exact h.t
  · intro c hc
    rw [e _ _ (by omega)]
    exact h.lv hc
  · intro c hc
    have h1 : c < tot M := hc
    have h2 := tot_le h.1
    exact Or.inl (hs c (by omega))
  · intro c hc
    rw [e _ _ (by omega)]
    exact h.kk hc
  · intro d hd
    rw [e _ _ (by omega)]
    exact h.pp hd
  · rw [e _ _ (by omega)]
    exact h.rr
  · rw [e _ _ (by omega)]
    exact h.oo
  · intro i hi
    rw [e _ _ (by omega)]
    exact h.ou hi
theorem RI.fact {σ τ : St} {M : Mo} (h : RI σ M) {x : Int32} (h3 : nf M < 300) (hp : ∀ d, d < nd M → pk M d < mb M d 0) (hx : -1000 ≤ x.toInt ∧ x.toInt ≤ 1000) (e : ∀ j i, (¬ (j = 0 ∧ i = 5) ∧ j ≠ 4 ∧ j ≠ 5 ∧ j ≠ 6) → rd τ j i = rd σ j i) (e1 : rd τ 0 5 = nI (nf M + 1)) (e2 : ∀ f d, f < nf M → d < nd M → rd τ 4 (4 * f + d) = rd σ 4 (4 * f + d)) (e3 : ∀ d, d < nd M → rd τ 4 (4 * nf M + d) = nI (pk M d)) (e4 : ∀ f, f < nf M → rd τ 5 f = rd σ 5 f ∧ rd τ 6 f = rd σ 6 f) (e5 : rd τ 5 (nf M) = x ∧ rd τ 6 (nf M) = 1) : RI τ (facM M x) := by
  have h4 := h.1.1
  refine ⟨h.1.fact h3 hp hx, ?_, ?_, ?_, ?_, ?_, ?_, ?_, ?_, ?_, ?_, ?_, ?_⟩
  · rw [e _ _ (by omega)]
    exact h.2.1
  · exact e1
  · rw [e _ _ (by omega)]
    exact h.2.2.2.1
  · rw [e _ _ (by omega)]
    exact h.2.2.2.2.1
  · intro d hd
    rw [e _ _ (by omega), e _ _ (by omega), e _ _ (by omega)]
    exact h.2.2.2.2.2.1 d hd
  · intro d hd
    rw [e _ _ (by omega)]
    exact h.2.2.2.2.2.2.1 d hd
  · intro d l hd hl
    rw [e _ _ (by omega)]
    exact h.2.2.2.2.2.2.2.1 d l hd hl
  · intro d l m hd hl hm
    rw [e _ _ (by omega)]
    exact h.2.2.2.2.2.2.2.2.1 d l m hd hl hm
  · intro f d hf hd
    have hf1 : f < nf M + 1 := hf
    show rd τ 4 (4 * f + d) = nI ((if f = nf M then pk M else wh M f) d)
    by_cases q : f = nf M
    · rw [if_pos q, q]; exact e3 d hd
    · rw [if_neg q, e2 f d (by omega) hd]; exact h.2.2.2.2.2.2.2.2.2.1 f d (by omega) hd
  · intro f hf
    have hf1 : f < nf M + 1 := hf
    show rd τ 5 f = (if f = nf M then x else ms M f) ∧ rd τ 6 f = b2i (if f = nf M then true else th M f)
    by_cases q : f = nf M
    · rw [if_pos q, if_pos q, q]; exact e5
    · rw [if_neg q, if_neg q, (e4 f (by omega)).1, (e4 f (by omega)).2]; exact h.2.2.2.2.2.2.2.2.2.2.1 f (by omega)
  · intro c hc
    rw [e _ _ (by omega)]
    exact h.2.2.2.2.2.2.2.2.2.2.2.1 c hc
  · intro i hi
    rw [e _ _ (by omega)]
    exact h.2.2.2.2.2.2.2.2.2.2.2.2 i hi
theorem cm1000 : (-1000 : Int32).toInt = -1000 := by decide
theorem c1000 : (1000 : Int32).toInt = 1000 := by decide
theorem c300 : (300 : Int32).toInt = 300 := by decide
/-- the reference's loop over the picks -/
theorem k9_fact_pks {Q : Int32 → St → Prop} {σ : St} {M : Mo} (hI : RI σ M) {x : Int32} (hT : (∀ d, d < nd M → pk M d < mb M d 0) → vX9_in (fun r2 σ1 => ((r2 = 0 → Q ((-2000000002)) σ1) ∧ (¬ r2 = 0 → (((rd σ1 0 5) = 300 → Q ((-2000000004)) σ1) ∧ (¬ (rd σ1 0 5) = 300 → ∃ e70, vX9_fact_L70 Q e70 σ1 x 0))))) σ x ((-1000)) 1000) (hF : ¬ (∀ d, d < nd M → pk M d < mb M d 0) → Q (-2000000002) σ) : ∃ e, vX9_fact_L7 Q e σ x 0 := by
  have h4 := hI.1.1
  have key : ∀ q i, i ≤ nd M → nd M - i < q → (∀ d, d < i → pk M d < mb M d 0) → vX9_fact_L7 Q q σ x (nI i) := by
    intro q
    induction q with
    | zero => intro i _ h; omega
    | succ q ih =>
      intro i hi hq hok
      simp only [vX9_fact_L7]
      rw [hI.2.1]
      refine ⟨fun a => ?_, fun a => ?_⟩
      · have e : i = nd M := by
          have : nd M ≤ i := (leI (by omega) (by omega)).mp a
          omega
        subst e
        exact hT hok
      · have hlt : i < nd M := lt_of_nle (by omega) (by omega) a
        have ht := hI.1.2.1 i hlt
        have hm8 := (hI.1.2.2.1 i 0 hlt (by omega)).2
        have hp8 := hI.1.2.2.2.2.2.2.2.2.1 i (by omega)
        refine ⟨vin (by omega) (by decide), k9_manyT (l := 0) hI hlt (by omega) ?_⟩
        rw [wid0 hI.1 hlt, nC (by omega), hI.2.2.2.2.2.2.1 i (by omega), nsucc]
        refine ⟨fun z => ?_, fun z => ?_⟩
        · have := (ltI (by omega) (by omega)).mp z
          refine ih (i + 1) (by omega) (by omega) (fun d hd => ?_)
          by_cases q : d = i
          · rw [q]; exact this
          · exact hok d (by omega)
        · exact hF (fun q => z ((ltI (by omega) (by omega)).mpr (q i hlt)))
  exact ⟨nd M + 1, key _ 0 (by omega) (by omega) (fun d hd => absurd hd (by omega))⟩
theorem k9_fact_end {Q : Int32 → St → Prop} {σ : St} {M : Mo} (hI : RI σ M) {x : Int32} (h3 : nf M < 300) (hp : ∀ d, d < nd M → pk M d < mb M d 0) (hx : -1000 ≤ x.toInt ∧ x.toInt ≤ 1000) (hQ : ∀ τ, RI τ (facM M x) → Q (nI (nf M)) τ) : ∃ e, vX9_fact_L70 Q e σ x 0 := by
  have h4 := hI.1.1
  have key : ∀ q i τ, i ≤ nd M → nd M - i < q → (∀ j k, j ≠ 4 → rd τ j k = rd σ j k) → (∀ k, k < 4 * nf M → rd τ 4 k = rd σ 4 k) → (∀ d, d < i → rd τ 4 (4 * nf M + d) = nI (pk M d)) → vX9_fact_L70 Q q τ x (nI i) := by
    intro q
    induction q with
    | zero => intro i τ _ h; omega
    | succ q ih =>
      intro i τ hi hq e1 e2 e3
      have f5 : rd τ 0 5 = nI (nf M) := by rw [e1 0 5 (by decide)]; exact hI.2.2.1
      simp only [vX9_fact_L70]
      rw [e1 0 1 (by decide), hI.2.1]
      refine ⟨fun a => ?_, fun a => ?_⟩
      · have e : i = nd M := by
          have : nd M ≤ i := (leI (by omega) (by omega)).mp a
          omega
        subst e
        have g5 : rd (wr τ 5 (nf M) x) 0 5 = nI (nf M) := by rw [rd_ne (by decide)]; exact f5
        have g6 : rd (wr (wr τ 5 (nf M) x) 6 (nf M) 1) 0 5 = nI (nf M) := by rw [rd_ne (by decide)]; exact g5
        rw [f5, nC (by omega), g5, nC (by omega), nar1, g6, nsucc, rd_eq, nsub1 (by omega), Nat.add_sub_cancel]
        refine ⟨vin h3 (by decide), vin h3 (by decide), hQ _ (hI.fact h3 hp hx (fun j k hj => ?_) rd_eq (fun f d hf hd => ?_) (fun d hd => ?_) (fun f hf => ?_) ?_)⟩
        · rw [rd_wr, rd_wr, rd_wr, if_neg (by omega), if_neg (by omega), if_neg (by omega)]; exact e1 j k (by omega)
        · rw [rd_ne (by decide), rd_ne (by decide), rd_ne (by decide)]; exact e2 _ (by omega)
        · rw [rd_ne (by decide), rd_ne (by decide), rd_ne (by decide)]; exact e3 d hd
        · rw [rd_ne (by decide), rd_ne (by decide), rd_nej (by omega), rd_ne (by decide), rd_nej (by omega), rd_ne (by decide)]; exact ⟨e1 5 f (by decide), e1 6 f (by decide)⟩
        · rw [rd_ne (by decide), rd_ne (by decide), rd_eq, rd_ne (by decide), rd_eq]; exact ⟨rfl, rfl⟩
      · have hlt : i < nd M := lt_of_nle (by omega) (by omega) a
        rw [f5, l4, pk_mul, nI_add, nC (show 4 * nf M + i < 2147483648 by omega), nC (show i < 2147483648 by omega), e1 7 i (by decide), hI.2.2.2.2.2.2.1 i (by omega), nsucc]
        refine ⟨vin (by omega) (by decide), vin (by omega) (by decide), ih (i + 1) _ (by omega) (by omega) (fun j k hj => by rw [rd_ne hj]; exact e1 j k hj) (fun k hk => by rw [rd_nej (by omega)]; exact e2 k hk) (fun d hd => ?_)⟩
        by_cases q : d = i
        · rw [q]; exact rd_eq
        · rw [rd_nej (by omega)]; exact e3 d (by omega)
  exact ⟨nd M + 1, key _ 0 σ (by omega) (by omega) (fun _ _ _ => rfl) (fun _ _ => rfl) (fun d hd => absurd hd (by omega))⟩
theorem st_fact {M : Mo} (hW : WF M) (x : Int32) : BSt M (fun Q σ => vX8_fact Q σ x) (fun Q σ => vX9_fact Q σ x) := by
  have h33 := hW.2.2.2.2.2.1
  have h4 := hW.1
  have e0 : (0 : Int32) = nI (lcod M 0) := by rw [lcod_0]; rfl
  have hcod : cod 8 (pk M) (nd M) < 4096 := Nat.lt_of_lt_of_le (cod_lt (nd M) (fun d hd => hW.2.2.2.2.2.2.2.2.1 d (by omega))) (p8 h4)
  by_cases hp : ∀ d, d < nd M → pk M d < mb M d 0
  · have hok := (pks0 hW).mpr hp
    have hpk : ∀ σ Q, CI σ M → Q (nI (cod 8 (pk M) (nd M))) σ → vX6_pack 47 Q σ 0 := fun σ Q h hq => by
      rw [e0]
      refine d_pack h ?_
      rw [hok, if_pos rfl]
      exact hq
    have nlt : ¬ nI (cod 8 (pk M) (nd M)) < 0 := fun a => by
      have := i_lt.mp a; rw [c0, nT (by omega)] at this; omega
    by_cases hx : -1000 ≤ x.toInt ∧ x.toInt ≤ 1000
    · have na : ¬ x < ((-1000)) := fun a => by
        have := i_lt.mp a; rw [cm1000] at this; omega
      have nb : x ≤ 1000 := i_le.mpr (by rw [c1000]; exact hx.2)
      by_cases h3 : nf M < 300
      · refine ⟨nI (nf M), facM M x, fun σ Q h hq => ?_, fun σ Q h hq => ?_⟩
        · show vX8_fact Q σ x
          unfold vX8_fact
          refine hpk σ _ h ⟨fun a => absurd a nlt, fun _ => ⟨fun a => absurd a na, fun _ => ⟨fun _ => ?_, fun a => absurd nb a⟩⟩⟩
          rw [h.f]
          refine ⟨fun _ => d_forget (fun τ F hs => ?_), fun a => absurd ((ltI (a := nf M) (b := 300) (by omega) (by omega)).mpr h3) a⟩
          have h2 := h.forget F hs
          unfold vX2_enter
          rw [h2.f, nC (by omega)]
          refine ⟨fun a => absurd ((leI (a := 300) (b := nf M) (by omega) (by omega)).mp a) (by omega), fun _ => ⟨vin h3 (by decide), vin h3 (by decide), ?_⟩⟩
          have g1 : rd (wr (wr τ 19 (nf M) (nI (cod 8 (pk M) (nd M)))) 20 (nf M) x) 18 3 = nI (nf M) := by rw [rd_ne (by decide), rd_ne (by decide)]; exact h2.f
          rw [g1, nsucc]
          have g2 : rd (wr (wr (wr τ 19 (nf M) (nI (cod 8 (pk M) (nd M)))) 20 (nf M) x) 18 3 (nI (nf M + 1))) 18 4 = nI (cntF (th M) (nf M)) := by rw [rd_nej (by decide), rd_ne (by decide), rd_ne (by decide)]; exact h2.fp
          rw [g2, nsucc]
          refine hq _ (h2.fact h3 hp hx (fun c hc => ?_) (fun j i hj => ?_) ?_ rd_eq ?_ ?_)
          · rw [rd_ne (by decide), rd_ne (by decide), rd_ne (by decide), rd_ne (by decide)]; exact hs c hc
          · rw [rd_wr, rd_wr, rd_wr, rd_wr, if_neg (by omega), if_neg (by omega), if_neg (by omega), if_neg (by omega)]
          · rw [rd_nej (by decide), rd_eq]
          · rw [rd_ne (by decide), rd_ne (by decide), rd_ne (by decide), rd_eq]
          · rw [rd_ne (by decide), rd_ne (by decide), rd_eq]
        · show vX9_fact Q σ x
          unfold vX9_fact
          refine k9_fact_pks h.w0 (fun _ => k9_inT (by rw [cm1000]; exact hx.1) (by rw [c1000]; exact hx.2) (t1 ?_)) (fun q => absurd hp q)
          rw [h.w0.2.2.1]
          refine ⟨fun a => absurd ((eqI (a := nf M) (b := 300) (by omega) (by omega)).mp a) (by omega), fun _ => k9_fact_end h.w0 h3 hp hx hq⟩
      · refine ⟨(-2000000004), M, fun σ Q h hq => ?_, fun σ Q h hq => ?_⟩
        · show vX8_fact Q σ x
          unfold vX8_fact
          refine hpk σ _ h ⟨fun a => absurd a nlt, fun _ => ⟨fun a => absurd a na, fun _ => ⟨fun _ => ?_, fun a => absurd nb a⟩⟩⟩
          rw [h.f]
          exact ⟨fun a => absurd ((ltI (a := nf M) (b := 300) (by omega) (by omega)).mp a) h3, fun _ => hq σ h⟩
        · show vX9_fact Q σ x
          unfold vX9_fact
          refine k9_fact_pks h.w0 (fun _ => k9_inT (by rw [cm1000]; exact hx.1) (by rw [c1000]; exact hx.2) (t1 ?_)) (fun q => absurd hp q)
          rw [h.w0.2.2.1]
          exact ⟨fun _ => hq _ h.w0, fun a => absurd ((eqI (a := nf M) (b := 300) (by omega) (by omega)).mpr (by omega)) a⟩
    · refine ⟨(-2000000002), M, fun σ Q h hq => ?_, fun σ Q h hq => ?_⟩
      · show vX8_fact Q σ x
        unfold vX8_fact
        refine hpk σ _ h ⟨fun a => absurd a nlt, fun _ => ⟨fun a => hq σ h, fun a => ⟨fun b => ?_, fun _ => hq σ h⟩⟩⟩
        have a' : ¬ x.toInt < -1000 := fun q => a (i_lt.mpr (by rw [cm1000]; exact q))
        have b' := i_le.mp b
        rw [c1000] at b'
        exact absurd ⟨by omega, b'⟩ hx
      · show vX9_fact Q σ x
        unfold vX9_fact
        refine k9_fact_pks h.w0 (fun _ => k9_inF (by rw [cm1000, c1000]; omega) (t0 (hq _ h.w0))) (fun q => absurd hp q)
  · refine ⟨(-2000000002), M, fun σ Q h hq => ?_, fun σ Q h hq => ?_⟩
    · show vX8_fact Q σ x
      unfold vX8_fact
      refine d_pack0 h ?_
      have hno : ¬ pksOk M 0 (nd M) = true := fun q => hp ((pks0 hW).mp q)
      rw [if_neg hno]
      exact ⟨fun _ => hq σ h, fun a => absurd (by decide) a⟩
    · show vX9_fact Q σ x
      unfold vX9_fact
      exact k9_fact_pks h.w0 (fun q => absurd q hp) (fun _ => hq _ h.w0)

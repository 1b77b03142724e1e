/-! ===== the desk: groups of a cuboid, sizes ===== -/
theorem nI_and (a b : Nat) : nI a &&& nI b = nI (a &&& b) := by
  apply Int32.toBitVec_inj.mp
  show (Int32.ofNat a &&& Int32.ofNat b).toBitVec = (Int32.ofNat (a &&& b)).toBitVec
  rw [Int32.toBitVec_and]
  simp only [Int32.toBitVec_ofNat']
  exact BitVec.ofNat_and.symm
theorem na_or : ∀ b0, b0 < 4 → ∀ b1, b1 < 4 → ∀ b2, b2 < 4 → ∀ b3, b3 < 4 → (b0 + 16 * b1 + 256 * b2 + 4096 * b3) ||| 34952 = b0 + 16 * b1 + 256 * b2 + 4096 * b3 + 34952 := by decide +kernel
theorem na_and : ∀ e0, e0 < 7 → ∀ e1, e1 < 7 → ∀ e2, e2 < 7 → ∀ e3, e3 < 7 → (((((5 + e0) + 16 * (5 + e1) + 256 * (5 + e2) + 4096 * (5 + e3)) &&& 34952) == 34952) = (decide (3 ≤ e0) && (decide (3 ≤ e1) && (decide (3 ≤ e2) && decide (3 ≤ e3))))) := by decide +kernel
theorem na_key {a0 a1 a2 a3 b0 b1 b2 b3 : Nat} (ha0 : a0 < 4) (ha1 : a1 < 4) (ha2 : a2 < 4) (ha3 : a3 < 4) (hb0 : b0 < 4) (hb1 : b1 < 4) (hb2 : b2 < 4) (hb3 : b3 < 4) :
    (((nI (b0 + 16 * b1 + 256 * b2 + 4096 * b3) ||| 34952) - nI (a0 + 16 * a1 + 256 * a2 + 4096 * a3)) &&& 34952) = 34952 ↔ (a0 ≤ b0 ∧ a1 ≤ b1 ∧ a2 ≤ b2 ∧ a3 ≤ b3) := by
  have e : (34952 : Int32) = nI 34952 := rfl
  have k := na_and (3 + b0 - a0) (by omega) (3 + b1 - a1) (by omega) (3 + b2 - a2) (by omega) (3 + b3 - a3) (by omega)
  rw [show (5 + (3 + b0 - a0)) + 16 * (5 + (3 + b1 - a1)) + 256 * (5 + (3 + b2 - a2)) + 4096 * (5 + (3 + b3 - a3)) = b0 + 16 * b1 + 256 * b2 + 4096 * b3 + 34952 - (a0 + 16 * a1 + 256 * a2 + 4096 * a3) by omega] at k
  rw [e, nI_or, na_or b0 hb0 b1 hb1 b2 hb2 b3 hb3, nsub (by omega), nI_and, eqI (Nat.lt_of_le_of_lt Nat.and_le_right (by decide)) (by decide), ← beq_iff_eq, k]
  simp only [Bool.and_eq_true, decide_eq_true_eq]
  omega
theorem lc16_4 {w : Nat → Nat} {n : Nat} (h : n ≤ 4) : lc16 w n = (if 0 < n then w 0 else 0) + 16 * (if 1 < n then w 1 else 0) + 256 * (if 2 < n then w 2 else 0) + 4096 * (if 3 < n then w 3 else 0) := by
  have : n = 0 ∨ n = 1 ∨ n = 2 ∨ n = 3 ∨ n = 4 := by omega
  rcases this with rfl | rfl | rfl | rfl | rfl <;> simp [lc16] <;> omega
theorem srv_iff {M : Mo} {c w : Nat} : srvM M c w = true ↔ ∀ d, d < nd M → levM M c d ≤ levM M w d := by
  unfold srvM
  rw [List.all_eq_true]
  exact ⟨fun h d hd => by simpa using h d (List.mem_range.mpr hd), fun h d hd => by simpa using h d (List.mem_range.mp hd)⟩
theorem d_nowhere {Q : Int32 → St → Prop} {σ : St} {M : Mo} (hW : WF M) {c w : Nat} (h : Q (b2i (srvM M c w)) σ) : vX6_isNowhereAbove Q σ (nI (lcod M c)) (nI (lcod M w)) := by
  have h4 := hW.1
  have dig : ∀ (c d : Nat), (if d < nd M then levM M c d else 0) < 4 := fun c d => by
    split
    · have := lev3 hW (c := c) (by assumption); omega
    · decide
  have key : ((((nI (lcod M w) ||| 34952) - nI (lcod M c)) &&& 34952) = 34952) ↔ srvM M c w = true := by
    unfold lcod
    rw [lc16_4 h4, lc16_4 h4, na_key (dig c 0) (dig c 1) (dig c 2) (dig c 3) (dig w 0) (dig w 1) (dig w 2) (dig w 3), srv_iff]
    constructor
    · rintro ⟨q0, q1, q2, q3⟩ d hd
      have : d = 0 ∨ d = 1 ∨ d = 2 ∨ d = 3 := by omega
      rcases this with rfl | rfl | rfl | rfl
      · simpa [hd] using q0
      · simpa [hd] using q1
      · simpa [hd] using q2
      · simpa [hd] using q3
    · intro q
      refine ⟨?_, ?_, ?_, ?_⟩ <;> split <;> first | exact q _ (by assumption) | exact Nat.le_refl _
  unfold vX6_isNowhereAbove
  refine ⟨fun a => ?_, fun a => ?_⟩
  · rw [key.mp a] at h; exact h
  · have : srvM M c w = false := by
      cases e : srvM M c w with
      | true => exact absurd (key.mpr e) a
      | false => rfl
    rw [this] at h; exact h
theorem d_groupOf {Q : Int32 → St → Prop} {σ : St} {M : Mo} (hI : CI σ M) {c f : Nat} (hf : f < nf M) (h : Q (nI (cod 8 (grpM M c f) (nd M))) σ) : vX6_groupOf Q σ (nI (cod 8 (wh M f) (nd M))) (nI (lcod M c)) := by
  have h4 := hI.1.1
  have hcl := cell_lt hI.1 hf
  have hll := lcod_lt hI.1 c
  have key : ∀ q i, i ≤ nd M → nd M - i < q → vX6_groupOf_L5 Q q σ (nI (cod 8 (wh M f) (nd M))) (nI (lcod M c)) (nI (cod 8 (grpM M c f) i)) (nI i) := by
    intro q
    induction q with
    | zero => intro i _ h; omega
    | succ q ih =>
      intro i hi hq
      simp only [vX6_groupOf_L5]
      rw [hI.n]
      refine ⟨fun a => ?_, fun a => ?_⟩
      · have e : i = nd M := by
          have : nd M ≤ i := (leI (by omega) (by omega)).mp a
          omega
        rw [e]; exact h
      · have hlt : i < nd M := lt_of_nle (by omega) (by omega) a
        have ht := hI.1.2.1 i hlt
        have hl := lev_lt (M := M) (c := c) (d := i)
        have hw8 := wh8 hI.1 hf hlt
        have hg8 := grp_lt hI.1 (c := c) hf hlt
        have hcod : cod 8 (grpM M c f) i < 4096 := Nat.lt_of_lt_of_le (cod_lt i (fun d hd => grp_lt hI.1 hf (by omega))) (p8 (by omega))
        refine d_levelIn hll (by omega) ?_
        rw [lcod_digit hI.1 hlt]
        refine d_memberIn hI hcl hlt ?_
        rw [cod8_digit (nd M) i (fun e he => wh8 hI.1 hf he) hlt]
        refine d_placeOf (by omega) hw8 ⟨vin (by omega) (by decide), ?_⟩
        rw [nC (show i < 2147483648 by omega), nC (show 8 * levM M c i + wh M f i < 2147483648 by omega)]
        refine ⟨dimk_of (by omega), vin (by omega) (by decide), ?_⟩
        rw [hI.hm hlt (by omega) (hI.1.2.2.2.2.2.2.1 f i hf hlt), l3, shlN (by decide) (by omega), nsucc]
        show vX6_groupOf_L5 Q q σ _ _ (nI (cod 8 (grpM M c f) i * 8) ||| nI (grpM M c f i)) _
        rw [or8 hg8]
        exact ih (i + 1) (by omega) (by omega)
  exact ⟨nd M + 1, key (nd M + 1) 0 (by omega) (by omega)⟩
/-! groups as bits of longs -/
theorem lbit0 : ∀ a, a < 64 → ∀ b, b < 64 → ((1 : Int64) <<< ((nI (64 * a + b)).toInt64 &&& 63)).toBitVec = BitVec.twoPow 64 b := by decide +kernel
theorem lbit (g : Nat) (h : g < 4096) : ((1 : Int64) <<< ((nI g).toInt64 &&& 63)).toBitVec = BitVec.twoPow 64 (g % 64) := by
  have := lbit0 (g / 64) (by omega) (g % 64) (Nat.mod_lt _ (by decide))
  rw [show 64 * (g / 64) + g % 64 = g by omega] at this
  exact this
theorem lcmp0 {x : Int64} : lg_cmp x 0 = 0 ↔ x = 0 := by
  unfold lg_cmp
  constructor
  · intro h
    split at h
    · exact absurd h (by decide)
    · split at h
      · assumption
      · exact absurd h (by decide)
  · intro h
    subst h
    decide
theorem land0 {w m : Int64} {j : Nat} (hm : m.toBitVec = BitVec.twoPow 64 j) (hj : j < 64) : w &&& m = 0 ↔ w.toBitVec.getLsbD j = false := by
  rw [← Int64.toBitVec_inj, Int64.toBitVec_and, hm, BitVec.and_twoPow]
  constructor
  · intro h
    cases e : w.toBitVec.getLsbD j with
    | false => rfl
    | true =>
      rw [e, if_pos rfl] at h
      have : (BitVec.twoPow 64 j).getLsbD j = false := by rw [h]; simp
      rw [BitVec.getLsbD_twoPow] at this
      simp [hj] at this
  · intro h
    rw [h]
    rfl
def gsAt (σ : St) (S : Nat → Bool) : Prop := (∀ g, g < 4096 → (rl σ 28 (g / 64)).toBitVec.getLsbD (g % 64) = S g) ∧ rd σ 27 1 = nI (cntF S 4096)
theorem sh6 {g : Nat} (h : g < 4096) : nI g >>> (6 &&& 31) = nI (g / 64) := by
  rw [l6, shrN (by omega) (by decide)]
theorem d_gadd {Q : St → Prop} {σ : St} {S : Nat → Bool} (hS : gsAt σ S) {g : Nat} (hg : g < 4096) (hQ : ∀ τ, gsAt τ (fun h => S h || g == h) → (∀ k j, k ≠ 27 → rd τ k j = rd σ k j) → Q τ) : vX3_add Q σ (nI g) := by
  have hd : g / 64 < 64 := by omega
  have hm : g % 64 < 64 := Nat.mod_lt _ (by decide)
  unfold vX3_add
  rw [sh6 hg, nC (by omega)]
  have hv : vp_in (nI (g / 64)) 64 := vin hd (by decide)
  have hcn := cntF_or (p := S) (a := g) 4096
  refine ⟨fun a => ?_, fun _ => ⟨fun _ => ⟨hv, fun b => ⟨hv, hv, ?_⟩, fun b => ?_⟩, fun b => ?_⟩⟩
  · have := i_lt.mp a; rw [c0, nT (by omega)] at this; omega
  · have hb : S g = false := by
      rw [← hS.1 g hg]
      exact (land0 (lbit g hg) hm).mp (lcmp0.mp b)
    rw [if_pos ⟨hg, hb⟩] at hcn
    refine hQ _ ⟨fun h hh => ?_, ?_⟩ (fun k j hk => by rw [rd_ne hk]; rfl)
    · rw [rl_wr, rl_wl]
      by_cases e : h / 64 = g / 64
      · rw [if_pos ⟨rfl, e⟩, Int64.toBitVec_or, BitVec.getLsbD_or, lbit g hg, BitVec.getLsbD_twoPow, ← e, hS.1 h hh]
        congr 1
        have hm2 : h % 64 < 64 := Nat.mod_lt _ (by decide)
        by_cases e2 : g % 64 = h % 64
        · have : g = h := by omega
          subst this
          simp [hm]
        · have : ¬ g = h := fun q => e2 (by rw [q])
          simp [this, e2]
      · rw [if_neg (fun q => e q.2), hS.1 h hh]
        have : (g == h) = false := by simpa using fun q => e (by rw [q])
        show S h = (S h || g == h)
        rw [this, Bool.or_false]
    · rw [rd_eq, rd_wl, hS.2, nsucc, hcn]
  · have hb : S g = true := by
      cases e : S g with
      | true => rfl
      | false =>
        rw [← hS.1 g hg] at e
        exact absurd (lcmp0.mpr ((land0 (lbit g hg) hm).mpr e)) b
    rw [if_neg (fun q => by rw [hb] at q; exact absurd q.2 (by decide))] at hcn
    have e : (fun h => S h || g == h) = S := by
      funext h
      by_cases q : g = h
      · subst q; simp [hb]
      · simp [q]
    refine hQ σ ?_ (fun _ _ _ => rfl)
    rw [e]
    exact hS
  · exact absurd ((show (4096 : Int32) = nI 4096 from rfl) ▸ (ltI (by omega) (by omega)).mpr hg) b
theorem d_gclear {Q : St → Prop} {σ : St} (hQ : ∀ τ, gsAt τ (fun _ => false) → (∀ k j, k ≠ 27 → rd τ k j = rd σ k j) → Q τ) : vX3_clear Q σ := by
  have hJ : isJ 29 28 := ⟨rfl, by decide⟩
  unfold vX3_clear vJ7_fill_d0a16
  have e64 : TC.2.1 28 = 64 := rfl
  have key : ∀ q i τ, i ≤ 64 → 64 - i < q → (∀ k j, rd τ k j = rd σ k j) → (∀ j, j < i → rl τ 28 j = 0) → vJ7_fill_d0a16_L6 29 28 (fun σ1 => Q (wr σ1 27 1 0)) q τ 0 (nI i) (nI (TC.2.1 28)) := by
    intro q
    induction q with
    | zero => intro i τ _ h; omega
    | succ q ih =>
      intro i τ hi hq hF hz
      simp only [vJ7_fill_d0a16_L6]
      rw [e64]
      refine ⟨fun a => ?_, fun a => ?_⟩
      · have e : i = 64 := by
          have : 64 ≤ i := (leI (by omega) (by omega)).mp a
          omega
        refine hQ _ ⟨fun g hg => ?_, ?_⟩ (fun k j hk => by rw [rd_ne hk]; exact hF k j)
        · rw [rl_wr, hz _ (by omega)]
          simp
        · have hc0 : ∀ n, cntF (fun _ => false) n = 0 := fun n => by
            induction n with
            | zero => rfl
            | succ n ih => simp [cntF, ih]
          rw [rd_eq, hc0]; rfl
      · have hlt : i < 64 := lt_of_nle (by omega) (by omega) a
        rw [nC (by omega), nsucc]
        refine ⟨hJ, vin hlt (by decide), ?_⟩
        have := ih (i + 1) (wl τ 28 i 0) (by omega) (by omega) (fun k j => by rw [rd_wl]; exact hF k j) (fun j hj => ?_)
        · rw [e64] at this; exact this
        · rw [rl_wl]
          by_cases ej : j = i
          · rw [if_pos ⟨rfl, ej⟩]
          · rw [if_neg (fun q => ej q.2)]; exact hz j (by omega)
  exact ⟨hJ, 65, key 65 0 σ (by omega) (by omega) (fun _ _ => rfl) (fun j hj => absurd hj (by omega))⟩
theorem d_hasT {Q : Int32 → St → Prop} {σ : St} {M : Mo} (hI : CI σ M) {c : Nat} (hc : c < tot M) (h : Q 1 σ) : vX4_has Q σ (nI c) := by
  have ht := tot_le hI.1
  unfold vX4_has
  rw [hI.t]
  refine ⟨fun a => ?_, fun _ => ⟨fun b => ?_, fun _ => h⟩⟩
  · have := i_lt.mp a; rw [c0, nT (by omega)] at this; omega
  · have := (leI (by omega) (by omega)).mp b; omega
theorem d_hasF' {Q : Int32 → St → Prop} {σ : St} {M : Mo} (hI : CI σ M) {x : Int32} (hx : x.toInt < 0 ∨ (tot M : Int) ≤ x.toInt) (h : Q 0 σ) : vX4_has Q σ x := by
  have ht := tot_le hI.1
  unfold vX4_has
  rw [hI.t]
  refine ⟨fun a => h, fun a => ⟨fun b => h, fun b => ?_⟩⟩
  have a' : ¬ x.toInt < 0 := fun q => a (i_lt.mpr (by rw [c0]; exact q))
  have b' : ¬ (tot M : Int) ≤ x.toInt := fun q => b (i_le.mpr (by rw [nT (by omega)]; exact q))
  omega
theorem d_levelsOf {Q : Int32 → St → Prop} {σ : St} {M : Mo} (hI : CI σ M) {c : Nat} (hc : c < tot M) (h : Q (nI (lcod M c)) σ) : vX4_levelsOf Q σ (nI c) := by
  have ht := tot_le hI.1
  unfold vX4_levelsOf
  refine d_hasT hI hc ⟨fun a => absurd a n10, fun _ => ⟨vin (by omega) (by decide), ?_⟩⟩
  rw [nC (by omega), hI.lv hc]
  exact h
def hasG8 (M : Mo) (c : Nat) (g n : Nat) : Bool := hasC (fun f => decide (f < nf M) && th M f) (fun f => cod 8 (grpM M c f) (nd M)) g n
theorem gsAt.congr {σ : St} {S S' : Nat → Bool} (h : gsAt σ S) (e : ∀ g, S g = S' g) : gsAt σ S' := by
  have : S = S' := funext e
  rw [← this]; exact h
theorem same27 {σ τ : St} {M : Mo} (hI : CI σ M) (h : ∀ k j, k ≠ 27 → rd τ k j = rd σ k j) : CI τ M := hI.same (fun k j hk => h k j (fun e => hk (by rw [e]; unfold scr; omega)))
theorem d_collect {Q : St → Prop} {σ : St} {M : Mo} (hI0 : CI σ M) {c : Nat} (hc : c < tot M) (hQ : ∀ τ, gsAt τ (fun g => hasG8 M c g (nf M)) → (∀ k j, k ≠ 27 → rd τ k j = rd σ k j) → Q τ) : vX4_collectGroups Q σ (nI c) := by
  have h3 := hI0.1.2.2.2.2.2.1
  have key : ∀ q f τ, f ≤ nf M → nf M - f < q → (∀ k j, k ≠ 27 → rd τ k j = rd σ k j) → gsAt τ (fun g => hasG8 M c g f) → vX4_collectGroups_L15 Q q τ (nI (lcod M c)) (nI f) := by
    intro q
    induction q with
    | zero => intro i τ _ h; omega
    | succ q ih =>
      intro f τ hf hq hF hG
      have hI := same27 hI0 hF
      simp only [vX4_collectGroups_L15]
      rw [hI.f, nsucc]
      refine ⟨fun a => ?_, fun a => ?_⟩
      · have e : f = nf M := by
          have : nf M ≤ f := (leI (by omega) (by omega)).mp a
          omega
        rw [e] at hG
        exact hQ τ hG hF
      · have hlt : f < nf M := lt_of_nle (by omega) (by omega) a
        have hd : decide (f < nf M) = true := decide_eq_true hlt
        refine d_isThere hI hlt ⟨fun b => ?_, fun b => ?_⟩
        · refine ih (f + 1) τ (by omega) (by omega) hF (hG.congr (fun g => ?_))
          show _ = (hasG8 M c g f || ((decide (f < nf M) && th M f) && _))
          rw [b2i_0.mp b]
          simp
        · have hcd : cod 8 (grpM M c f) (nd M) < 4096 := Nat.lt_of_lt_of_le (cod_lt (nd M) (fun d hd => grp_lt hI.1 hlt hd)) (p8 hI.1.1)
          refine d_cellOf hI hlt (d_groupOf hI hlt (d_gadd hG hcd (fun τ' hG' hF' => ?_)))
          refine ih (f + 1) τ' (by omega) (by omega) (fun k j hk => (hF' k j hk).trans (hF k j hk)) (hG'.congr (fun g => ?_))
          show _ = (hasG8 M c g f || ((decide (f < nf M) && th M f) && cod 8 (grpM M c f) (nd M) == g))
          rw [b2i_n0 b, hd]
          rfl
  unfold vX4_collectGroups
  exact d_levelsOf hI0 hc (d_gclear (fun τ hG hF => ⟨nf M + 1, key (nf M + 1) 0 τ (by omega) (by omega) hF (hG.congr (fun g => rfl))⟩))
/-- sizes may have been worked out, groups too; nothing else differs -/
def FrS (M : Mo) (σ τ : St) : Prop := (∀ k j, k ≠ 27 → k ≠ 24 → rd τ k j = rd σ k j) ∧ ∀ c, c < tot M → rd τ 24 c = rd σ 24 c ∨ rd τ 24 c = nI (szM M c)
theorem FrS.rf {M : Mo} {σ : St} : FrS M σ σ := ⟨fun _ _ _ _ => rfl, fun _ _ => Or.inl rfl⟩
theorem FrS.tr {M : Mo} {a b c : St} (h : FrS M a b) (g : FrS M b c) : FrS M a c := ⟨fun k j h1 h2 => (g.1 k j h1 h2).trans (h.1 k j h1 h2), fun x hx => by
  rcases g.2 x hx with e | e
  · rw [e]; exact h.2 x hx
  · exact Or.inr e⟩
theorem FrS.CI {M : Mo} {σ τ : St} (h : FrS M σ τ) (hI : CI σ M) : CI τ M := by
  have e : ∀ k j, (k ≠ 27 ∧ k ≠ 24) → rd τ k j = rd σ k j := fun k j hk => h.1 k j hk.1 hk.2
  have h4 := hI.1.1
  refine ⟨hI.1, ?_, ?_, ?_, ?_, ?_, ?_, ?_, ?_, ?_, ?_, ?_, ?_, ?_, ?_, ?_, ?_, ?_⟩
  · rw [e _ _ (by omega)]; exact hI.n
  · intro d hd; rw [e _ _ (by omega), e _ _ (by omega), e _ _ (by omega)]; exact hI.dm hd
  · intro d l hd hl; rw [e _ _ (by omega)]; exact hI.wd hd hl
  · intro d l m hd hl hm; rw [e _ _ (by omega)]; exact hI.pr hd hl hm
  · intro d l m hd hl hm; rw [e _ _ (by omega)]; exact hI.hm hd hl hm
  · rw [e _ _ (by omega)]; exact hI.f
  · rw [e _ _ (by omega)]; exact hI.fp
  · intro f hf; rw [e _ _ (by omega), e _ _ (by omega), e _ _ (by omega)]; exact hI.fa hf
  · intro f hf h3; rw [e _ _ (by omega)]; exact hI.fg hf h3
  · rw [e _ _ (by omega)]; exact hI.t
  · intro c hc; rw [e _ _ (by omega)]; exact hI.lv hc
  · intro c hc
    rcases h.2 c hc with q | q
    · rw [q]; exact hI.sz hc
    · exact Or.inr q
  · intro c hc; rw [e _ _ (by omega)]; exact hI.kk hc
  · intro d hd; rw [e _ _ (by omega)]; exact hI.pp hd
  · rw [e _ _ (by omega)]; exact hI.rr
  · rw [e _ _ (by omega)]; exact hI.oo
  · intro i hi; rw [e _ _ (by omega)]; exact hI.ou hi
theorem nm1 {n : Nat} (h : n < 2147483648) : ¬ nI n = -1 := fun q => by
  have := i_eq.mp q
  rw [nT h] at this
  have e : (-1 : Int32).toInt = -1 := by decide
  omega
theorem d_sizeOf {Q : Int32 → St → Prop} {σ : St} {M : Mo} (hI : CI σ M) {c : Nat} (hc : c < tot M) (hQ : ∀ τ, FrS M σ τ → rd τ 24 c = nI (szM M c) → Q (nI (szM M c)) τ) : vX4_sizeOf Q σ (nI c) := by
  have ht := tot_le hI.1
  have hs := Nat.le_trans (sz_le (M := M) c) hI.1.2.2.2.2.2.1
  unfold vX4_sizeOf
  refine d_hasT hI hc ⟨fun a => absurd a n10, fun _ => ⟨vin (by omega) (by decide), fun a => ?_, fun a => ⟨vin (by omega) (by decide), ?_⟩⟩⟩
  · refine d_collect hI hc (fun τ hG hF => ⟨vin (by omega) (by decide), vin (by omega) (by decide), ?_⟩)
    have hsz : cntF (fun g => hasG8 M c g (nf M)) 4096 = szM M c := sz_codes hI.1 (Nat.le_refl _) (p8 hI.1.1)
    rw [nC (by omega), hG.2, hsz, rd_eq]
    refine hQ _ ⟨fun k j h1 h2 => by rw [rd_ne h2]; exact hF k j h1, fun x hx => ?_⟩ rd_eq
    by_cases e : x = c
    · subst e; exact Or.inr rd_eq
    · left; rw [rd_nej e]; exact hF 24 x (by decide)
  · rw [nC (by omega)] at a ⊢
    rcases hI.sz hc with q | q
    · exact absurd q a
    · rw [q]
      exact hQ σ FrS.rf q

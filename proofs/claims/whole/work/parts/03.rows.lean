/-! ===== stores: what the cells of a world hold, by the cell's number ===== -/
abbrev St : Type := (Nat → Nat → Int32) × (Nat → Nat → Int64)
def rd (σ : St) (k j : Nat) : Int32 := σ.1 k j
def wr (σ : St) (k j : Nat) (v : Int32) : St := (fun a => if a = k then upd (σ.1 k) j v else σ.1 a, σ.2)
def rl (σ : St) (k j : Nat) : Int64 := σ.2 k j
def wl (σ : St) (k j : Nat) (v : Int64) : St := (σ.1, fun a => if a = k then vp_updL (σ.2 k) j v else σ.2 a)
/-- a world's table: the kind of each cell (0 an object, 1 ints, 2 booleans, 3 bytes, 4 longs, 5 and 6 rows of references), lengths, objects (number of the type, fields: some j a reference to cell j, none an int), references -/
abbrev Wt : Type := (Nat → Nat) × (Nat → Nat) × (Nat → Nat × List (Option Nat)) × (Nat → Nat → Option Nat)
def wflds (ad : Nat → Nat) (f : Nat → Int32) : Nat → List (Option Nat) → List Value
  | _, [] => []
  | i, some j :: t => .ref (ad j) :: wflds ad f (i + 1) t
  | i, none :: t => .int (f i) :: wflds ad f (i + 1) t
def wshape (T : Wt) (cy : Nat → ClassId) (ad : Nat → Nat) (k : Nat) (f : Nat → Int32) (g : Nat → Int64) : va_E :=
  match T.1 k with
  | 0 => .inr ((T.2.2.1 k).1, wflds ad f 0 (T.2.2.1 k).2)
  | 4 => .inl (cy 4, T.2.1 k, .inr (.inl g))
  | 5 => .inl (cy 5, T.2.1 k, .inr (.inr (.inr (.inr (fun i => (T.2.2.2 k i).map ad)))))
  | 6 => .inl (cy 6, T.2.1 k, .inr (.inr (.inr (.inr (fun i => (T.2.2.2 k i).map ad)))))
  | q => .inl (cy q, T.2.1 k, .inl f)
def wws (T : Wt) (cy : Nat → ClassId) (ad : Nat → Nat) (n : Nat) (σ : St) : va_W := (List.range n).map (fun k => (ad k, wshape T cy ad k (σ.1 k) (σ.2 k)))
abbrev tysW (cy : Nat → ClassId) : List (ClassId × FieldType) := [(cy 1, .int), (cy 2, .boolean), (cy 3, .byte), (cy 4, .long), (cy 5, .object "CubeDesk$Dimension"), (cy 6, .array .int)]
theorem wws_at {T : Wt} {cy : Nat → ClassId} {ad : Nat → Nat} {n : Nat} {σ : St} {k : Nat} (h : k < n) : (wws T cy ad n σ)[k]? = some (ad k, wshape T cy ad k (σ.1 k) (σ.2 k)) := by
  simp [wws, h]
theorem wws_set {T : Wt} {cy : Nat → ClassId} {ad : Nat → Nat} {n : Nat} {σ σ' : St} {k : Nat} {e : va_E} (he : e = wshape T cy ad k (σ'.1 k) (σ'.2 k)) (ho : ∀ j, j ≠ k → σ'.1 j = σ.1 j ∧ σ'.2 j = σ.2 j) : (wws T cy ad n σ).set k (ad k, e) = wws T cy ad n σ' := by
  apply List.ext_getElem?
  intro i
  rw [List.getElem?_set]
  by_cases hi : i < n
  · rw [wws_at hi, wws_at hi]
    by_cases hk : k = i
    · subst hk
      rw [if_pos rfl, if_pos (by simp [wws, hi]), he]
    · rw [if_neg hk, (ho i (fun q => hk q.symm)).1, (ho i (fun q => hk q.symm)).2]
  · have h1 : ∀ τ : St, (wws T cy ad n τ)[i]? = none := fun τ => List.getElem?_eq_none (by simp [wws]; omega)
    rw [h1, h1]
    by_cases hk : k = i
    · rw [if_pos hk, if_neg (by simp [wws]; omega)]
    · rw [if_neg hk]
theorem wws_D {T : Wt} {cy : Nat → ClassId} {ad : Nat → Nat} {n : Nat} {σ σ' : St} {A : Nat → Prop} (h : va_D A (wws T cy ad n σ)) : va_D A (wws T cy ad n σ') := by
  have key : ∀ (i : Nat) (x : Nat × va_E), (wws T cy ad n σ')[i]? = some x → ∃ y, (wws T cy ad n σ)[i]? = some y ∧ y.1 = x.1 := by
    intro i x hx
    by_cases hi : i < n
    · rw [wws_at hi] at hx
      cases hx
      exact ⟨_, wws_at hi, rfl⟩
    · rw [List.getElem?_eq_none (by simp [wws]; omega)] at hx
      cases hx
  refine ⟨fun i j x y hx hy hxy => ?_, fun k x hx => ?_⟩
  · obtain ⟨x', h1, h2⟩ := key i x hx
    obtain ⟨y', h3, h4⟩ := key j y hy
    exact h.1 i j x' y' h1 h3 (by rw [h2, h4, hxy])
  · obtain ⟨x', h1, h2⟩ := key k x hx
    rw [← h2]
    exact h.2 k x' h1
theorem wflds_set (ad : Nat → Nat) (f : Nat → Int32) (v : Int32) : ∀ (L : List (Option Nat)) (i j : Nat), L[j]? = some none → (wflds ad f i L).set j (.int v) = wflds ad (upd f (i + j) v) i L
  | [], i, j, h => by simp at h
  | a :: t, i, 0, h => by
    have ha : a = none := by simpa using h
    subst ha
    have key : ∀ (L : List (Option Nat)) (i k : Nat), k < i → wflds ad (upd f k v) i L = wflds ad f i L := by
      intro L
      induction L with
      | nil => intro i k _; rfl
      | cons b L ih =>
        intro i k hk
        cases b with
        | none =>
          show Value.int (upd f k v i) :: _ = Value.int (f i) :: _
          rw [ih (i + 1) k (by omega), pk_un (by omega)]
        | some q =>
          show Value.ref (ad q) :: _ = Value.ref (ad q) :: _
          rw [ih (i + 1) k (by omega)]
    show Value.int v :: wflds ad f (i + 1) t = Value.int (upd f (i + 0) v i) :: wflds ad (upd f (i + 0) v) (i + 1) t
    have e0 : upd f (i + 0) v i = v := by simp [upd]
    rw [key t (i + 1) (i + 0) (by omega), e0]
  | a :: t, i, j + 1, h => by
    have h2 : t[j]? = some none := by simpa using h
    have ih := wflds_set ad f v t (i + 1) j h2
    cases a with
    | none =>
      show Value.int (f i) :: (wflds ad f (i + 1) t).set j (.int v) = Value.int (upd f (i + (j + 1)) v i) :: wflds ad (upd f (i + (j + 1)) v) (i + 1) t
      rw [ih, pk_un (by omega), show i + 1 + j = i + (j + 1) by omega]
    | some q =>
      show Value.ref (ad q) :: (wflds ad f (i + 1) t).set j (.int v) = Value.ref (ad q) :: wflds ad (upd f (i + (j + 1)) v) (i + 1) t
      rw [ih, show i + 1 + j = i + (j + 1) by omega]
theorem wws_wr {T : Wt} {cy : Nat → ClassId} {ad : Nat → Nat} {n : Nat} {σ : St} {k j : Nat} {v : Int32} {e : va_E} (he : e = wshape T cy ad k (upd (σ.1 k) j v) (σ.2 k)) : (wws T cy ad n σ).set k (ad k, e) = wws T cy ad n (wr σ k j v) := by
  refine wws_set ?_ ?_
  · rw [he]; simp [wr]
  · intro i hi
    simp [wr, hi]
theorem wws_wl {T : Wt} {cy : Nat → ClassId} {ad : Nat → Nat} {n : Nat} {σ : St} {k j : Nat} {v : Int64} {e : va_E} (he : e = wshape T cy ad k (σ.1 k) (vp_updL (σ.2 k) j v)) : (wws T cy ad n σ).set k (ad k, e) = wws T cy ad n (wl σ k j v) := by
  refine wws_set ?_ ?_
  · rw [he]; simp [wl]
  · intro i hi
    simp [wl, hi]
/-! ===== locals: a place each, none where nothing is known ===== -/
def lhas (ls : Array Slot) (nL : Nat) (lo : List (Option Value)) : Prop := ls.size = nL ∧ lv_wf ls ∧ ∀ (i : Nat) (v : Value), lo[i]? = some (some v) → ls[i]? = some (.val v)
def lprs : Nat → List (Option Value) → List (Nat × Value)
  | _, [] => []
  | i, none :: t => lprs (i + 1) t
  | i, some v :: t => (i, v) :: lprs (i + 1) t
theorem lprs_mem : ∀ (lo : List (Option Value)) (i j : Nat) (v : Value), (j, v) ∈ lprs i lo ↔ ∃ k, j = i + k ∧ lo[k]? = some (some v)
  | [], i, j, v => by simp [lprs]
  | none :: t, i, j, v => by
    show (j, v) ∈ lprs (i + 1) t ↔ _
    rw [lprs_mem t (i + 1) j v]
    constructor
    · rintro ⟨k, h1, h2⟩
      exact ⟨k + 1, by omega, by simpa using h2⟩
    · rintro ⟨k, h1, h2⟩
      cases k with
      | zero => simp at h2
      | succ k => exact ⟨k, by omega, by simpa using h2⟩
  | some w :: t, i, j, v => by
    show (j, v) ∈ (i, w) :: lprs (i + 1) t ↔ _
    rw [List.mem_cons, lprs_mem t (i + 1) j v]
    constructor
    · rintro (h | ⟨k, h1, h2⟩)
      · cases h
        exact ⟨0, by omega, by simp⟩
      · exact ⟨k + 1, by omega, by simpa using h2⟩
    · rintro ⟨k, h1, h2⟩
      cases k with
      | zero =>
        left
        have : w = v := by simpa using h2
        rw [h1, this]; rfl
      | succ k => exact Or.inr ⟨k, by omega, by simpa using h2⟩
theorem lhas_iff {ls : Array Slot} {nL : Nat} {lo : List (Option Value)} : lhas ls nL lo ↔ lv_has ls nL (lprs 0 lo) := by
  constructor
  · rintro ⟨h1, h2, h3⟩
    refine ⟨h1, h2, ?_⟩
    rintro ⟨j, v⟩ hq
    obtain ⟨k, h4, h5⟩ := (lprs_mem lo 0 j v).mp hq
    have : j = k := by omega
    subst this
    exact h3 j v h5
  · rintro ⟨h1, h2, h3⟩
    exact ⟨h1, h2, fun i v h => h3 (i, v) ((lprs_mem lo 0 i v).mpr ⟨i, by omega, h⟩)⟩
/-- a store of one word at place i: the place before it holds no long -/
def setIs (lo : List (Option Value)) (i : Nat) (v : Value) (lo' : List (Option Value)) : Prop := lo' = lo.set i (some v) ∧ ∀ w, ∀ j, j + 1 = i → lo[j]? = some (some w) → w.category = 1
def okp : Option Value → Prop
  | some (.long _) => False
  | some (.double _) => False
  | _ => True
theorem okp_cat {w : Value} (h : okp (some w)) : w.category = 1 := by
  cases w <;> first | rfl | exact h.elim
theorem s0 {a : Option Value} {t : List (Option Value)} {v : Value} : setIs (a :: t) 0 v (some v :: t) := ⟨rfl, fun w j h => by omega⟩
theorem s1 {a b : Option Value} {t : List (Option Value)} {v : Value} (h : okp a) : setIs (a :: b :: t) 1 v (a :: some v :: t) := ⟨rfl, fun w j hj hw => by
  have : j = 0 := by omega
  subst this
  have : a = some w := by simpa using hw
  subst this
  exact okp_cat h⟩
theorem ss {a : Option Value} {t t' : List (Option Value)} {i : Nat} {v : Value} (h : setIs t (i + 1) v t') : setIs (a :: t) (i + 1 + 1) v (a :: t') := ⟨by rw [h.1]; rfl, fun w j hj hw => by
  cases j with
  | zero => omega
  | succ j => exact h.2 w j (by omega) (by simpa using hw)⟩
/-- a store of two words at place i -/
def setIs2 (lo : List (Option Value)) (i : Nat) (v : Value) (lo' : List (Option Value)) : Prop := lo' = (lo.set i (some v)).set (i + 1) none ∧ ∀ w, ∀ j, j + 1 = i → lo[j]? = some (some w) → w.category = 1
theorem s2l {a b c d : Option Value} {t : List (Option Value)} {v : Value} (h : okp b) : setIs2 (a :: b :: c :: d :: t) 2 v (a :: b :: some v :: none :: t) := ⟨rfl, fun w j hj hw => by
  have : j = 1 := by omega
  subst this
  have : b = some w := by simpa using hw
  subst this
  exact okp_cat h⟩
/-- fewer places known -/
def lle (lo' lo : List (Option Value)) : Prop := ∀ (i : Nat) (v : Value), lo'[i]? = some (some v) → lo[i]? = some (some v)
theorem w0 {lo : List (Option Value)} : lle [] lo := fun i v h => by simp at h
theorem wk {a : Option Value} {t t' : List (Option Value)} (h : lle t' t) : lle (a :: t') (a :: t) := fun i v hv => by
  cases i with
  | zero => simpa using hv
  | succ i => simpa using h i v (by simpa using hv)
theorem wn {a : Option Value} {t t' : List (Option Value)} (h : lle t' t) : lle (none :: t') (a :: t) := fun i v hv => by
  cases i with
  | zero => simp at hv
  | succ i => simpa using h i v (by simpa using hv)
theorem lhas_sub {ls : Array Slot} {nL : Nat} {lo lo' : List (Option Value)} (h : lhas ls nL lo) (hl : lle lo' lo) : lhas ls nL lo' := ⟨h.1, h.2.1, fun i v q => h.2.2 i v (hl i v q)⟩
theorem lhas_st1 {ls : Array Slot} {nL i : Nat} {lo lo' : List (Option Value)} {v : Value} (hs : setIs lo i v lo') (h : lv_has ls nL ((i, v) :: (lprs 0 lo).filter (fun q => !(q.1 == i) && !(q.1 + 1 == i && q.2.category == 2)))) : lhas ls nL lo' := by
  refine ⟨h.1, h.2.1, fun j w hw => ?_⟩
  rw [hs.1, List.getElem?_set] at hw
  by_cases hj : i = j
  · subst hj
    rw [if_pos rfl] at hw
    have : v = w := by
      by_cases hl : i < lo.length
      · rw [if_pos hl] at hw; simpa using hw
      · rw [if_neg hl] at hw; cases hw
    subst this
    exact h.2.2 (i, v) List.mem_cons_self
  · rw [if_neg hj] at hw
    refine h.2.2 (j, w) (List.mem_cons_of_mem _ (List.mem_filter.mpr ⟨(lprs_mem lo 0 j w).mpr ⟨j, by omega, hw⟩, ?_⟩))
    have h1 : ¬ j = i := fun q => hj q.symm
    by_cases h2 : j + 1 = i
    · have := hs.2 w j h2 hw
      simp [h1, h2, this]
    · simp [h1, h2]
theorem lhas_st2 {ls : Array Slot} {nL i : Nat} {lo lo' : List (Option Value)} {v : Value} (hs : setIs2 lo i v lo') (h : lv_has ls nL ((i, v) :: (lprs 0 lo).filter (fun q => !(q.1 == i) && (!(q.1 == i + 1) && !(q.1 + 1 == i && q.2.category == 2))))) : lhas ls nL lo' := by
  refine ⟨h.1, h.2.1, fun j w hw => ?_⟩
  rw [hs.1, List.getElem?_set] at hw
  by_cases h0 : i + 1 = j
  · rw [if_pos h0] at hw
    split at hw <;> simp at hw
  · rw [if_neg h0, List.getElem?_set] at hw
    by_cases hj : i = j
    · subst hj
      rw [if_pos rfl] at hw
      have : v = w := by
        by_cases hl : i < lo.length
        · rw [if_pos hl] at hw; simpa using hw
        · rw [if_neg hl] at hw; cases hw
      subst this
      exact h.2.2 (i, v) List.mem_cons_self
    · rw [if_neg hj] at hw
      refine h.2.2 (j, w) (List.mem_cons_of_mem _ (List.mem_filter.mpr ⟨(lprs_mem lo 0 j w).mpr ⟨j, by omega, hw⟩, ?_⟩))
      have h1 : ¬ j = i := fun q => hj q.symm
      have h3 : ¬ j = i + 1 := fun q => h0 q.symm
      by_cases h2 : j + 1 = i
      · have := hs.2 w j h2 hw
        simp [h1, h2, h3, this]
      · simp [h1, h2, h3]
/-! ===== links between nest mates: they are no words of a method, so they go with the state ===== -/
def nestF : List (String × Nat × String × String × String × String) := [("CubeDesk$Space", 47, "CubeDesk$Dimension", "homes", "[I", "CubeDesk"), ("CubeDesk", 83, "CubeDesk$Dimension", "all", "I", "CubeDesk"), ("CubeDesk$Space", 26, "CubeDesk$Dimension", "all", "I", "CubeDesk"), ("CubeDesk", 68, "CubeDesk$Space", "count", "I", "CubeDesk"), ("CubeDesk", 64, "CubeDesk$FactBook", "came", "I", "CubeDesk"), ("CubeDesk$Lattice", 96, "CubeDesk$FactBook", "came", "I", "CubeDesk"), ("CubeDesk", 217, "CubeDesk$FactBook", "present", "I", "CubeDesk"), ("CubeDesk$Lattice", 90, "CubeDesk$GroupSet", "held", "I", "CubeDesk"), ("CubeDesk$BestSearch", 33, "CubeDesk$Lattice", "total", "I", "CubeDesk"), ("CubeDesk", 126, "CubeDesk$Lattice", "total", "I", "CubeDesk"), ("CubeDesk", 211, "CubeDesk$Sheet", "length", "I", "CubeDesk")]
def nestM : List (String × Nat × MethodName × String) := [("CubeDesk$Space", 17, ⟨"CubeDesk$Dimension", "<init>", "()V"⟩, "CubeDesk"), ("CubeDesk", 18, ⟨"CubeDesk$FactBook", "<init>", "()V"⟩, "CubeDesk"), ("CubeDesk$Lattice", 27, ⟨"CubeDesk$GroupSet", "<init>", "()V"⟩, "CubeDesk"), ("CubeDesk", 43, ⟨"CubeDesk$Tallies", "<init>", "()V"⟩, "CubeDesk"), ("CubeDesk", 50, ⟨"CubeDesk$Sheet", "<init>", "()V"⟩, "CubeDesk"), ("CubeDesk$Space", 44, ⟨"CubeDesk$Dimension", "placeOf", "(II)I"⟩, "CubeDesk")]
def NW (U : State) : Prop := (∀ q ∈ nestF, va_Nw (.fieldLinkNest q.1 q.2.1 q.2.2.1 q.2.2.2.1 q.2.2.2.2.1 q.2.2.2.2.2) U) ∧ (∀ q ∈ nestM, va_Nw (.methodLinkNest q.1 q.2.1 q.2.2.1 q.2.2.2) U)
theorem NW.warm {s U : State} (hW : s.WarmedH U.vm) (h : NW s) : NW U := ⟨fun q hq => va_Nw.warmF hW (h.1 q hq), fun q hq => va_Nw.warmM hW (h.2 q hq)⟩
theorem NW.same {s U : State} (e : s.vm = U.vm) (h : NW s) : NW U := ⟨fun q hq => va_Nw.same rfl e (h.1 q hq), fun q hq => va_Nw.same rfl e (h.2 q hq)⟩
/-! ===== the judgement over a whole world ===== -/
def CX (p : Program) (s : State) (m : MethodId) (args : Array Value) (c : Code) (D : va_G) (cy : Nat → ClassId) (cc : ByteArray) (nL : Nat) (own : String) (Ts : List Cond) : Prop :=
  p.tables.exec = Jvm.exec ∧ c.code = cc ∧ c.maxLocals = nL ∧ s.vm.findClass own = some m.cls ∧ (∀ w ∈ Ts, w.before args s = true) ∧ va_K D vwCl (tysW cy) s ∧ NW s
def WV (T : Wt) (cy : Nat → ClassId) (ad : Nat → Nat) (n : Nat) (D : va_G) (A : Nat → Prop) (p : Program) (l : Launch) (e : Env) (R : Room) (s : State) (m : MethodId) (args : Array Value) (below : List Frame) (meth : Method) (c : Code) (nL : Nat) (Q : State → Prop) (σ : St) (lo : List (Option Value)) (st : List Value) (pc : Nat) : Prop :=
  ∀ (H : Heap) (locs : List Loc) (ls : Array Slot), va_P D vwCl (wws T cy ad n σ) H → va_D A (wws T cy ad n σ) → va_S A s.heap H locs → lhas ls nL lo → W p l e R s m args below meth c H locs 0 0 Q (F0 m pc ls st)
/-- a cell or none -/
def rfv (ad : Nat → Nat) : Option Nat → Value
  | none => .null
  | some k => .ref (ad k)

section MyRows
variable {T : Wt} {cy : Nat → ClassId} {ad : Nat → Nat} {n : Nat} {D : va_G} {A : Nat → Prop} {p : Program} {l : Launch} {e : Env} {R : Room} {s : State} {m : MethodId} {args : Array Value} {below : List Frame} {meth : Method} {c : Code} {nL : Nat} {Q : State → Prop} {σ : St} {lo lo' : List (Option Value)} {st : List Value} {pc : Nat} {cc : ByteArray} {own : String} {Ts : List Cond}

theorem r_iconst (hc : CX p s m args c D cy cc nL own Ts) {z : Int} {v : Int32} (hd : decode cc pc = .ok (.iconst z, 1)) (hv : Int32.ofInt z = v) (k : WV T cy ad n D A p l e R s m args below meth c nL Q σ lo (.int v :: st) (pc + 1)) : WV T cy ad n D A p l e R s m args below meth c nL Q σ lo (st) pc := fun H locs ls hP hD hS hl => lv_iconst hc.1 hc.2.1 hd hv (k H locs ls hP hD hS hl)
theorem r_bipush (hc : CX p s m args c D cy cc nL own Ts) {z : Int} {v : Int32} (hd : decode cc pc = .ok (.bipush z, 2)) (hv : (Int8.ofInt z).toInt32 = v) (k : WV T cy ad n D A p l e R s m args below meth c nL Q σ lo (.int v :: st) (pc + 2)) : WV T cy ad n D A p l e R s m args below meth c nL Q σ lo (st) pc := fun H locs ls hP hD hS hl => lv_bipush hc.1 hc.2.1 hd hv (k H locs ls hP hD hS hl)
theorem r_sipush (hc : CX p s m args c D cy cc nL own Ts) {z : Int} {v : Int32} (hd : decode cc pc = .ok (.sipush z, 3)) (hv : (Int16.ofInt z).toInt32 = v) (k : WV T cy ad n D A p l e R s m args below meth c nL Q σ lo (.int v :: st) (pc + 3)) : WV T cy ad n D A p l e R s m args below meth c nL Q σ lo (st) pc := fun H locs ls hP hD hS hl => lv_sipush hc.1 hc.2.1 hd hv (k H locs ls hP hD hS hl)
theorem r_lconst (hc : CX p s m args c D cy cc nL own Ts) {z : Fin 2} {v : Int64} (hd : decode cc pc = .ok (.lconst z, 1)) (hv : Int64.ofNat (z : Nat) = v) (k : WV T cy ad n D A p l e R s m args below meth c nL Q σ lo (.long v :: st) (pc + 1)) : WV T cy ad n D A p l e R s m args below meth c nL Q σ lo (st) pc := fun H locs ls hP hD hS hl => lv_lconst hc.1 hc.2.1 hd hv (k H locs ls hP hD hS hl)
theorem r_ldc (hc : CX p s m args c D cy cc nL own Ts) {index : Nat} {v : Int32} (hd : decode cc pc = .ok (.ldc index, 2)) (hw : Jvm.Cond.constant own index v ∈ Ts) (k : WV T cy ad n D A p l e R s m args below meth c nL Q σ lo (.int v :: st) (pc + 2)) : WV T cy ad n D A p l e R s m args below meth c nL Q σ lo (st) pc := fun H locs ls hP hD hS hl => lv_ldc hc.1 hc.2.1 hc.2.2.2.1 (hc.2.2.2.2.1 _ hw) hd (k H locs ls hP hD hS hl)
theorem r_null (hc : CX p s m args c D cy cc nL own Ts) (hd : decode cc pc = .ok (.aconst_null, 1)) (k : WV T cy ad n D A p l e R s m args below meth c nL Q σ lo (.null :: st) (pc + 1)) : WV T cy ad n D A p l e R s m args below meth c nL Q σ lo (st) pc := fun H locs ls hP hD hS hl => lv_null hc.1 hc.2.1 hd (k H locs ls hP hD hS hl)
theorem r_iload_n (hc : CX p s m args c D cy cc nL own Ts) {z : Fin 4} {x : Int32} (hd : decode cc pc = .ok (.iload_n z, 1)) (hx : lo[(z : Nat)]? = some (some (.int x))) (k : WV T cy ad n D A p l e R s m args below meth c nL Q σ lo (.int x :: st) (pc + 1)) : WV T cy ad n D A p l e R s m args below meth c nL Q σ lo (st) pc := fun H locs ls hP hD hS hl => lv_iload_n hc.1 hc.2.1 hd rfl (hl.2.2 _ _ hx) (k H locs ls hP hD hS hl)
theorem r_iload (hc : CX p s m args c D cy cc nL own Ts) {i : Nat} {x : Int32} (hd : decode cc pc = .ok (.iload i, 2)) (hx : lo[i]? = some (some (.int x))) (k : WV T cy ad n D A p l e R s m args below meth c nL Q σ lo (.int x :: st) (pc + 2)) : WV T cy ad n D A p l e R s m args below meth c nL Q σ lo (st) pc := fun H locs ls hP hD hS hl => lv_iload hc.1 hc.2.1 hd (hl.2.2 _ _ hx) (k H locs ls hP hD hS hl)
theorem r_lload_n (hc : CX p s m args c D cy cc nL own Ts) {z : Fin 4} {x : Int64} (hd : decode cc pc = .ok (.lload_n z, 1)) (hx : lo[(z : Nat)]? = some (some (.long x))) (k : WV T cy ad n D A p l e R s m args below meth c nL Q σ lo (.long x :: st) (pc + 1)) : WV T cy ad n D A p l e R s m args below meth c nL Q σ lo (st) pc := fun H locs ls hP hD hS hl => lv_lload_n hc.1 hc.2.1 hd rfl (hl.2.2 _ _ hx) (k H locs ls hP hD hS hl)
theorem r_aload_n (hc : CX p s m args c D cy cc nL own Ts) {z : Fin 4} {x : Nat} (hd : decode cc pc = .ok (.aload_n z, 1)) (hx : lo[(z : Nat)]? = some (some (.ref x))) (k : WV T cy ad n D A p l e R s m args below meth c nL Q σ lo (.ref x :: st) (pc + 1)) : WV T cy ad n D A p l e R s m args below meth c nL Q σ lo (st) pc := fun H locs ls hP hD hS hl => lv_aload_n hc.1 hc.2.1 hd rfl (hl.2.2 _ _ hx) (k H locs ls hP hD hS hl)
theorem r_aload (hc : CX p s m args c D cy cc nL own Ts) {i : Nat} {x : Nat} (hd : decode cc pc = .ok (.aload i, 2)) (hx : lo[i]? = some (some (.ref x))) (k : WV T cy ad n D A p l e R s m args below meth c nL Q σ lo (.ref x :: st) (pc + 2)) : WV T cy ad n D A p l e R s m args below meth c nL Q σ lo (st) pc := fun H locs ls hP hD hS hl => lv_aload hc.1 hc.2.1 hd (hl.2.2 _ _ hx) (k H locs ls hP hD hS hl)
theorem r_istore_n (hc : CX p s m args c D cy cc nL own Ts) {z : Fin 4} {i : Nat} {x : Int32} (hd : decode cc pc = .ok (.istore_n z, 1)) (hi : (z : Nat) = i) (hn : i < nL) (hs : setIs lo i (.int x) lo') (k : WV T cy ad n D A p l e R s m args below meth c nL Q σ lo' st (pc + 1)) : WV T cy ad n D A p l e R s m args below meth c nL Q σ lo (.int x :: st) pc := fun H locs ls hP hD hS hl => lv_istore_n hc.1 hc.2.1 hd hi (lhas_iff.mp hl) hn rfl (fun ls h => k H locs ls hP hD hS (lhas_st1 hs h))
theorem r_istore (hc : CX p s m args c D cy cc nL own Ts) {i : Nat} {x : Int32} (hd : decode cc pc = .ok (.istore i, 2)) (hn : i < nL) (hs : setIs lo i (.int x) lo') (k : WV T cy ad n D A p l e R s m args below meth c nL Q σ lo' st (pc + 2)) : WV T cy ad n D A p l e R s m args below meth c nL Q σ lo (.int x :: st) pc := fun H locs ls hP hD hS hl => lv_istore hc.1 hc.2.1 hd (lhas_iff.mp hl) hn rfl (fun ls h => k H locs ls hP hD hS (lhas_st1 hs h))
theorem r_astore_n (hc : CX p s m args c D cy cc nL own Ts) {z : Fin 4} {i : Nat} {x : Nat} (hd : decode cc pc = .ok (.astore_n z, 1)) (hi : (z : Nat) = i) (hn : i < nL) (hs : setIs lo i (.ref x) lo') (k : WV T cy ad n D A p l e R s m args below meth c nL Q σ lo' st (pc + 1)) : WV T cy ad n D A p l e R s m args below meth c nL Q σ lo (.ref x :: st) pc := fun H locs ls hP hD hS hl => lv_astore_n hc.1 hc.2.1 hd hi (lhas_iff.mp hl) hn rfl (fun ls h => k H locs ls hP hD hS (lhas_st1 hs h))
theorem r_astore (hc : CX p s m args c D cy cc nL own Ts) {i : Nat} {x : Nat} (hd : decode cc pc = .ok (.astore i, 2)) (hn : i < nL) (hs : setIs lo i (.ref x) lo') (k : WV T cy ad n D A p l e R s m args below meth c nL Q σ lo' st (pc + 2)) : WV T cy ad n D A p l e R s m args below meth c nL Q σ lo (.ref x :: st) pc := fun H locs ls hP hD hS hl => lv_astore hc.1 hc.2.1 hd (lhas_iff.mp hl) hn rfl (fun ls h => k H locs ls hP hD hS (lhas_st1 hs h))
theorem r_lstore_n (hc : CX p s m args c D cy cc nL own Ts) {z : Fin 4} {i : Nat} {x : Int64} (hd : decode cc pc = .ok (.lstore_n z, 1)) (hi : (z : Nat) = i) (hn : i + 1 < nL) (hs : setIs2 lo i (.long x) lo') (k : WV T cy ad n D A p l e R s m args below meth c nL Q σ lo' st (pc + 1)) : WV T cy ad n D A p l e R s m args below meth c nL Q σ lo (.long x :: st) pc := fun H locs ls hP hD hS hl => lv_lstore_n hc.1 hc.2.1 hd hi (lhas_iff.mp hl) hn rfl (fun ls h => k H locs ls hP hD hS (lhas_st2 hs h))
theorem lprs_at {lo : List (Option Value)} {i : Nat} {v : Value} (h : lo[i]? = some (some v)) : ∃ q : Nat, (lprs 0 lo)[q]? = some (i, v) := by
  obtain ⟨q, hq, he⟩ := List.getElem_of_mem ((lprs_mem lo 0 i v).mpr ⟨i, by omega, h⟩)
  exact ⟨q, by rw [List.getElem?_eq_getElem hq, he]⟩
theorem r_iinc (hc : CX p s m args c D cy cc nL own Ts) {i : Nat} {z : Int} {x v : Int32} (hd : decode cc pc = .ok (.iinc i z, 3)) (hx : lo[i]? = some (some (.int x))) (hv : x + Int32.ofInt z = v) (hn : i < nL) (hs : setIs lo i (.int v) lo') (k : WV T cy ad n D A p l e R s m args below meth c nL Q σ lo' st (pc + 3)) : WV T cy ad n D A p l e R s m args below meth c nL Q σ lo st pc := fun H locs ls hP hD hS hl => by
  obtain ⟨q, hq⟩ := lprs_at hx
  exact lv_iinc hc.1 hc.2.1 hd (lhas_iff.mp hl) hq hv hn rfl (fun ls h => k H locs ls hP hD hS (lhas_st1 hs h))
theorem r_iadd (hc : CX p s m args c D cy cc nL own Ts) {x y : Int32} (hd : decode cc pc = .ok (.iadd, 1)) (k : WV T cy ad n D A p l e R s m args below meth c nL Q σ lo (.int (x + y) :: st) (pc + 1)) : WV T cy ad n D A p l e R s m args below meth c nL Q σ lo (.int y :: .int x :: st) pc := fun H locs ls hP hD hS hl => lv_iadd hc.1 hc.2.1 hd (k H locs ls hP hD hS hl)
theorem r_isub (hc : CX p s m args c D cy cc nL own Ts) {x y : Int32} (hd : decode cc pc = .ok (.isub, 1)) (k : WV T cy ad n D A p l e R s m args below meth c nL Q σ lo (.int (x - y) :: st) (pc + 1)) : WV T cy ad n D A p l e R s m args below meth c nL Q σ lo (.int y :: .int x :: st) pc := fun H locs ls hP hD hS hl => lv_isub hc.1 hc.2.1 hd (k H locs ls hP hD hS hl)
theorem r_imul (hc : CX p s m args c D cy cc nL own Ts) {x y : Int32} (hd : decode cc pc = .ok (.imul, 1)) (k : WV T cy ad n D A p l e R s m args below meth c nL Q σ lo (.int (x * y) :: st) (pc + 1)) : WV T cy ad n D A p l e R s m args below meth c nL Q σ lo (.int y :: .int x :: st) pc := fun H locs ls hP hD hS hl => lv_imul hc.1 hc.2.1 hd (k H locs ls hP hD hS hl)
theorem r_iand (hc : CX p s m args c D cy cc nL own Ts) {x y : Int32} (hd : decode cc pc = .ok (.iand, 1)) (k : WV T cy ad n D A p l e R s m args below meth c nL Q σ lo (.int (x &&& y) :: st) (pc + 1)) : WV T cy ad n D A p l e R s m args below meth c nL Q σ lo (.int y :: .int x :: st) pc := fun H locs ls hP hD hS hl => lv_iand hc.1 hc.2.1 hd (k H locs ls hP hD hS hl)
theorem r_ior (hc : CX p s m args c D cy cc nL own Ts) {x y : Int32} (hd : decode cc pc = .ok (.ior, 1)) (k : WV T cy ad n D A p l e R s m args below meth c nL Q σ lo (.int (x ||| y) :: st) (pc + 1)) : WV T cy ad n D A p l e R s m args below meth c nL Q σ lo (.int y :: .int x :: st) pc := fun H locs ls hP hD hS hl => lv_ior hc.1 hc.2.1 hd (k H locs ls hP hD hS hl)
theorem r_ixor (hc : CX p s m args c D cy cc nL own Ts) {x y : Int32} (hd : decode cc pc = .ok (.ixor, 1)) (k : WV T cy ad n D A p l e R s m args below meth c nL Q σ lo (.int (x ^^^ y) :: st) (pc + 1)) : WV T cy ad n D A p l e R s m args below meth c nL Q σ lo (.int y :: .int x :: st) pc := fun H locs ls hP hD hS hl => lv_ixor hc.1 hc.2.1 hd (k H locs ls hP hD hS hl)
theorem r_ishl (hc : CX p s m args c D cy cc nL own Ts) {x y : Int32} (hd : decode cc pc = .ok (.ishl, 1)) (k : WV T cy ad n D A p l e R s m args below meth c nL Q σ lo (.int (x <<< (y &&& 31)) :: st) (pc + 1)) : WV T cy ad n D A p l e R s m args below meth c nL Q σ lo (.int y :: .int x :: st) pc := fun H locs ls hP hD hS hl => lv_ishl hc.1 hc.2.1 hd (k H locs ls hP hD hS hl)
theorem r_ishr (hc : CX p s m args c D cy cc nL own Ts) {x y : Int32} (hd : decode cc pc = .ok (.ishr, 1)) (k : WV T cy ad n D A p l e R s m args below meth c nL Q σ lo (.int (x >>> (y &&& 31)) :: st) (pc + 1)) : WV T cy ad n D A p l e R s m args below meth c nL Q σ lo (.int y :: .int x :: st) pc := fun H locs ls hP hD hS hl => lv_ishr hc.1 hc.2.1 hd (k H locs ls hP hD hS hl)
theorem r_idiv (hc : CX p s m args c D cy cc nL own Ts) {x y : Int32} (hd : decode cc pc = .ok (.idiv, 1)) (hne : ¬ y = 0) (k : WV T cy ad n D A p l e R s m args below meth c nL Q σ lo (.int (x / y) :: st) (pc + 1)) : WV T cy ad n D A p l e R s m args below meth c nL Q σ lo (.int y :: .int x :: st) pc := fun H locs ls hP hD hS hl => lv_idiv hc.1 hc.2.1 hd hne (k H locs ls hP hD hS hl)
theorem r_irem (hc : CX p s m args c D cy cc nL own Ts) {x y : Int32} (hd : decode cc pc = .ok (.irem, 1)) (hne : ¬ y = 0) (k : WV T cy ad n D A p l e R s m args below meth c nL Q σ lo (.int (x - x / y * y) :: st) (pc + 1)) : WV T cy ad n D A p l e R s m args below meth c nL Q σ lo (.int y :: .int x :: st) pc := fun H locs ls hP hD hS hl => lv_irem hc.1 hc.2.1 hd hne (k H locs ls hP hD hS hl)
theorem r_ineg (hc : CX p s m args c D cy cc nL own Ts) {x : Int32} (hd : decode cc pc = .ok (.ineg, 1)) (k : WV T cy ad n D A p l e R s m args below meth c nL Q σ lo (.int (-x) :: st) (pc + 1)) : WV T cy ad n D A p l e R s m args below meth c nL Q σ lo (.int x :: st) pc := fun H locs ls hP hD hS hl => lv_ineg hc.1 hc.2.1 hd (k H locs ls hP hD hS hl)
theorem r_i2b (hc : CX p s m args c D cy cc nL own Ts) {x : Int32} (hd : decode cc pc = .ok (.i2b, 1)) (k : WV T cy ad n D A p l e R s m args below meth c nL Q σ lo (.int x.toInt8.toInt32 :: st) (pc + 1)) : WV T cy ad n D A p l e R s m args below meth c nL Q σ lo (.int x :: st) pc := fun H locs ls hP hD hS hl => lv_i2b hc.1 hc.2.1 hd rfl (k H locs ls hP hD hS hl)
theorem r_land (hc : CX p s m args c D cy cc nL own Ts) {x y : Int64} (hd : decode cc pc = .ok (.land, 1)) (k : WV T cy ad n D A p l e R s m args below meth c nL Q σ lo (.long (x &&& y) :: st) (pc + 1)) : WV T cy ad n D A p l e R s m args below meth c nL Q σ lo (.long y :: .long x :: st) pc := fun H locs ls hP hD hS hl => lv_land hc.1 hc.2.1 hd (k H locs ls hP hD hS hl)
theorem r_lor (hc : CX p s m args c D cy cc nL own Ts) {x y : Int64} (hd : decode cc pc = .ok (.lor, 1)) (k : WV T cy ad n D A p l e R s m args below meth c nL Q σ lo (.long (x ||| y) :: st) (pc + 1)) : WV T cy ad n D A p l e R s m args below meth c nL Q σ lo (.long y :: .long x :: st) pc := fun H locs ls hP hD hS hl => lv_lor hc.1 hc.2.1 hd (k H locs ls hP hD hS hl)
theorem r_lshl (hc : CX p s m args c D cy cc nL own Ts) {x : Int64} {y : Int32} (hd : decode cc pc = .ok (.lshl, 1)) (k : WV T cy ad n D A p l e R s m args below meth c nL Q σ lo (.long (x <<< (y.toInt64 &&& 63)) :: st) (pc + 1)) : WV T cy ad n D A p l e R s m args below meth c nL Q σ lo (.int y :: .long x :: st) pc := fun H locs ls hP hD hS hl => lv_lshl hc.1 hc.2.1 hd rfl (k H locs ls hP hD hS hl)
theorem r_lcmp (hc : CX p s m args c D cy cc nL own Ts) {x y : Int64} (hd : decode cc pc = .ok (.lcmp, 1)) (k : WV T cy ad n D A p l e R s m args below meth c nL Q σ lo (.int (lg_cmp x y) :: st) (pc + 1)) : WV T cy ad n D A p l e R s m args below meth c nL Q σ lo (.long y :: .long x :: st) pc := fun H locs ls hP hD hS hl => W.lcmp hc.1 hc.2.1 hd (k H locs ls hP hD hS hl)
theorem r_dup (hc : CX p s m args c D cy cc nL own Ts) {a : Value} (hd : decode cc pc = .ok (.dup, 1)) (h1 : a.category = 1) (k : WV T cy ad n D A p l e R s m args below meth c nL Q σ lo (a :: a :: st) (pc + 1)) : WV T cy ad n D A p l e R s m args below meth c nL Q σ lo (a :: st) pc := fun H locs ls hP hD hS hl => lv_dup hc.1 hc.2.1 hd h1 (k H locs ls hP hD hS hl)
theorem r_pop (hc : CX p s m args c D cy cc nL own Ts) {a : Value} (hd : decode cc pc = .ok (.pop, 1)) (h1 : a.category = 1) (k : WV T cy ad n D A p l e R s m args below meth c nL Q σ lo (st) (pc + 1)) : WV T cy ad n D A p l e R s m args below meth c nL Q σ lo (a :: st) pc := fun H locs ls hP hD hS hl => lv_pop hc.1 hc.2.1 hd h1 (k H locs ls hP hD hS hl)
theorem r_dup2 (hc : CX p s m args c D cy cc nL own Ts) {a b : Value} (hd : decode cc pc = .ok (.dup2, 1)) (h1 : a.category = 1) (h2 : b.category = 1) (k : WV T cy ad n D A p l e R s m args below meth c nL Q σ lo (a :: b :: a :: b :: st) (pc + 1)) : WV T cy ad n D A p l e R s m args below meth c nL Q σ lo (a :: b :: st) pc := fun H locs ls hP hD hS hl => lv_dup2_11 hc.1 hc.2.1 hd h1 h2 (k H locs ls hP hD hS hl)
theorem r_goto (hc : CX p s m args c D cy cc nL own Ts) {off : Int} {tgt : Nat} (hd : decode cc pc = .ok (.goto off, 3)) (ht : (pc : Int) + off = (tgt : Int)) (k : WV T cy ad n D A p l e R s m args below meth c nL Q σ lo st tgt) : WV T cy ad n D A p l e R s m args below meth c nL Q σ lo st pc := fun H locs ls hP hD hS hl => lv_goto hc.1 hc.2.1 hd ht (k H locs ls hP hD hS hl)
theorem r_if_eq (hc : CX p s m args c D cy cc nL own Ts) {x : Int32} {off : Int} {tgt : Nat} (hd : decode cc pc = .ok (.ifCond .eq off, 3)) (ht : (pc : Int) + off = (tgt : Int)) (kt : x = 0 → WV T cy ad n D A p l e R s m args below meth c nL Q σ lo st tgt) (kf : ¬ x = 0 → WV T cy ad n D A p l e R s m args below meth c nL Q σ lo st (pc + 3)) : WV T cy ad n D A p l e R s m args below meth c nL Q σ lo (.int x :: st) pc := fun H locs ls hP hD hS hl => lv_if_eq hc.1 hc.2.1 hd ht (fun q => kt q H locs ls hP hD hS hl) (fun q => kf q H locs ls hP hD hS hl)
theorem r_icmp_eq (hc : CX p s m args c D cy cc nL own Ts) {x y : Int32} {off : Int} {tgt : Nat} (hd : decode cc pc = .ok (.if_icmp .eq off, 3)) (ht : (pc : Int) + off = (tgt : Int)) (kt : x = y → WV T cy ad n D A p l e R s m args below meth c nL Q σ lo st tgt) (kf : ¬ x = y → WV T cy ad n D A p l e R s m args below meth c nL Q σ lo st (pc + 3)) : WV T cy ad n D A p l e R s m args below meth c nL Q σ lo (.int y :: .int x :: st) pc := fun H locs ls hP hD hS hl => lv_icmp_eq hc.1 hc.2.1 hd ht (fun q => kt q H locs ls hP hD hS hl) (fun q => kf q H locs ls hP hD hS hl)
theorem r_if_lt (hc : CX p s m args c D cy cc nL own Ts) {x : Int32} {off : Int} {tgt : Nat} (hd : decode cc pc = .ok (.ifCond .lt off, 3)) (ht : (pc : Int) + off = (tgt : Int)) (kt : x < 0 → WV T cy ad n D A p l e R s m args below meth c nL Q σ lo st tgt) (kf : ¬ x < 0 → WV T cy ad n D A p l e R s m args below meth c nL Q σ lo st (pc + 3)) : WV T cy ad n D A p l e R s m args below meth c nL Q σ lo (.int x :: st) pc := fun H locs ls hP hD hS hl => lv_if_lt hc.1 hc.2.1 hd ht (fun q => kt q H locs ls hP hD hS hl) (fun q => kf q H locs ls hP hD hS hl)
theorem r_icmp_lt (hc : CX p s m args c D cy cc nL own Ts) {x y : Int32} {off : Int} {tgt : Nat} (hd : decode cc pc = .ok (.if_icmp .lt off, 3)) (ht : (pc : Int) + off = (tgt : Int)) (kt : x < y → WV T cy ad n D A p l e R s m args below meth c nL Q σ lo st tgt) (kf : ¬ x < y → WV T cy ad n D A p l e R s m args below meth c nL Q σ lo st (pc + 3)) : WV T cy ad n D A p l e R s m args below meth c nL Q σ lo (.int y :: .int x :: st) pc := fun H locs ls hP hD hS hl => lv_icmp_lt hc.1 hc.2.1 hd ht (fun q => kt q H locs ls hP hD hS hl) (fun q => kf q H locs ls hP hD hS hl)
theorem r_if_ge (hc : CX p s m args c D cy cc nL own Ts) {x : Int32} {off : Int} {tgt : Nat} (hd : decode cc pc = .ok (.ifCond .ge off, 3)) (ht : (pc : Int) + off = (tgt : Int)) (kt : 0 ≤ x → WV T cy ad n D A p l e R s m args below meth c nL Q σ lo st tgt) (kf : ¬ 0 ≤ x → WV T cy ad n D A p l e R s m args below meth c nL Q σ lo st (pc + 3)) : WV T cy ad n D A p l e R s m args below meth c nL Q σ lo (.int x :: st) pc := fun H locs ls hP hD hS hl => lv_if_ge hc.1 hc.2.1 hd ht (fun q => kt q H locs ls hP hD hS hl) (fun q => kf q H locs ls hP hD hS hl)
theorem r_icmp_ge (hc : CX p s m args c D cy cc nL own Ts) {x y : Int32} {off : Int} {tgt : Nat} (hd : decode cc pc = .ok (.if_icmp .ge off, 3)) (ht : (pc : Int) + off = (tgt : Int)) (kt : y ≤ x → WV T cy ad n D A p l e R s m args below meth c nL Q σ lo st tgt) (kf : ¬ y ≤ x → WV T cy ad n D A p l e R s m args below meth c nL Q σ lo st (pc + 3)) : WV T cy ad n D A p l e R s m args below meth c nL Q σ lo (.int y :: .int x :: st) pc := fun H locs ls hP hD hS hl => lv_icmp_ge hc.1 hc.2.1 hd ht (fun q => kt q H locs ls hP hD hS hl) (fun q => kf q H locs ls hP hD hS hl)
theorem r_if_gt (hc : CX p s m args c D cy cc nL own Ts) {x : Int32} {off : Int} {tgt : Nat} (hd : decode cc pc = .ok (.ifCond .gt off, 3)) (ht : (pc : Int) + off = (tgt : Int)) (kt : 0 < x → WV T cy ad n D A p l e R s m args below meth c nL Q σ lo st tgt) (kf : ¬ 0 < x → WV T cy ad n D A p l e R s m args below meth c nL Q σ lo st (pc + 3)) : WV T cy ad n D A p l e R s m args below meth c nL Q σ lo (.int x :: st) pc := fun H locs ls hP hD hS hl => lv_if_gt hc.1 hc.2.1 hd ht (fun q => kt q H locs ls hP hD hS hl) (fun q => kf q H locs ls hP hD hS hl)
theorem r_icmp_gt (hc : CX p s m args c D cy cc nL own Ts) {x y : Int32} {off : Int} {tgt : Nat} (hd : decode cc pc = .ok (.if_icmp .gt off, 3)) (ht : (pc : Int) + off = (tgt : Int)) (kt : y < x → WV T cy ad n D A p l e R s m args below meth c nL Q σ lo st tgt) (kf : ¬ y < x → WV T cy ad n D A p l e R s m args below meth c nL Q σ lo st (pc + 3)) : WV T cy ad n D A p l e R s m args below meth c nL Q σ lo (.int y :: .int x :: st) pc := fun H locs ls hP hD hS hl => lv_icmp_gt hc.1 hc.2.1 hd ht (fun q => kt q H locs ls hP hD hS hl) (fun q => kf q H locs ls hP hD hS hl)
theorem r_if_le (hc : CX p s m args c D cy cc nL own Ts) {x : Int32} {off : Int} {tgt : Nat} (hd : decode cc pc = .ok (.ifCond .le off, 3)) (ht : (pc : Int) + off = (tgt : Int)) (kt : x ≤ 0 → WV T cy ad n D A p l e R s m args below meth c nL Q σ lo st tgt) (kf : ¬ x ≤ 0 → WV T cy ad n D A p l e R s m args below meth c nL Q σ lo st (pc + 3)) : WV T cy ad n D A p l e R s m args below meth c nL Q σ lo (.int x :: st) pc := fun H locs ls hP hD hS hl => lv_if_le hc.1 hc.2.1 hd ht (fun q => kt q H locs ls hP hD hS hl) (fun q => kf q H locs ls hP hD hS hl)
theorem r_icmp_le (hc : CX p s m args c D cy cc nL own Ts) {x y : Int32} {off : Int} {tgt : Nat} (hd : decode cc pc = .ok (.if_icmp .le off, 3)) (ht : (pc : Int) + off = (tgt : Int)) (kt : x ≤ y → WV T cy ad n D A p l e R s m args below meth c nL Q σ lo st tgt) (kf : ¬ x ≤ y → WV T cy ad n D A p l e R s m args below meth c nL Q σ lo st (pc + 3)) : WV T cy ad n D A p l e R s m args below meth c nL Q σ lo (.int y :: .int x :: st) pc := fun H locs ls hP hD hS hl => lv_icmp_le hc.1 hc.2.1 hd ht (fun q => kt q H locs ls hP hD hS hl) (fun q => kf q H locs ls hP hD hS hl)
theorem r_if_ne (hc : CX p s m args c D cy cc nL own Ts) {x : Int32} {off : Int} {tgt : Nat} (hd : decode cc pc = .ok (.ifCond .ne off, 3)) (ht : (pc : Int) + off = (tgt : Int)) (kf : x = 0 → WV T cy ad n D A p l e R s m args below meth c nL Q σ lo st (pc + 3)) (kt : ¬ x = 0 → WV T cy ad n D A p l e R s m args below meth c nL Q σ lo st tgt) : WV T cy ad n D A p l e R s m args below meth c nL Q σ lo (.int x :: st) pc := fun H locs ls hP hD hS hl => lv_if_ne hc.1 hc.2.1 hd ht (fun q => kt q H locs ls hP hD hS hl) (fun q => kf q H locs ls hP hD hS hl)
theorem r_icmp_ne (hc : CX p s m args c D cy cc nL own Ts) {x y : Int32} {off : Int} {tgt : Nat} (hd : decode cc pc = .ok (.if_icmp .ne off, 3)) (ht : (pc : Int) + off = (tgt : Int)) (kf : x = y → WV T cy ad n D A p l e R s m args below meth c nL Q σ lo st (pc + 3)) (kt : ¬ x = y → WV T cy ad n D A p l e R s m args below meth c nL Q σ lo st tgt) : WV T cy ad n D A p l e R s m args below meth c nL Q σ lo (.int y :: .int x :: st) pc := fun H locs ls hP hD hS hl => lv_icmp_ne hc.1 hc.2.1 hd ht (fun q => kt q H locs ls hP hD hS hl) (fun q => kf q H locs ls hP hD hS hl)
theorem r_tabIn (hc : CX p s m args c D cy cc nL own Ts) {dflt lw hi : Int} {offs : Array Int} {len : Nat} {x : Int32} {off : Int} {tgt : Nat} (hd : decode cc pc = .ok (.tableswitch dflt lw hi offs, len)) (h1 : ¬ x.toInt < lw) (h2 : ¬ hi < x.toInt) (ho : offs[(x.toInt - lw).toNat]? = some off) (ht : (pc : Int) + off = (tgt : Int)) (k : WV T cy ad n D A p l e R s m args below meth c nL Q σ lo st tgt) : WV T cy ad n D A p l e R s m args below meth c nL Q σ lo (.int x :: st) pc := fun H locs ls hP hD hS hl => lv_tableIn hc.1 hc.2.1 hd h1 h2 ho ht (k H locs ls hP hD hS hl)
theorem r_tabOut (hc : CX p s m args c D cy cc nL own Ts) {dflt lw hi : Int} {offs : Array Int} {len : Nat} {x : Int32} {tgt : Nat} (hd : decode cc pc = .ok (.tableswitch dflt lw hi offs, len)) (h : x.toInt < lw ∨ hi < x.toInt) (ht : (pc : Int) + dflt = (tgt : Int)) (k : WV T cy ad n D A p l e R s m args below meth c nL Q σ lo st tgt) : WV T cy ad n D A p l e R s m args below meth c nL Q σ lo (.int x :: st) pc := fun H locs ls hP hD hS hl => lv_tableOut hc.1 hc.2.1 hd h ht (k H locs ls hP hD hS hl)
theorem r_ifnull_r (hc : CX p s m args c D cy cc nL own Ts) {a : Nat} {off : Int} (hd : decode cc pc = .ok (.ifnull off, 3)) (k : WV T cy ad n D A p l e R s m args below meth c nL Q σ lo st (pc + 3)) : WV T cy ad n D A p l e R s m args below meth c nL Q σ lo (.ref a :: st) pc := fun H locs ls hP hD hS hl => lv_ifnull hc.1 hc.2.1 hd (k H locs ls hP hD hS hl)
theorem r_ifnonnull_r (hc : CX p s m args c D cy cc nL own Ts) {a : Nat} {off : Int} {tgt : Nat} (hd : decode cc pc = .ok (.ifnonnull off, 3)) (ht : (pc : Int) + off = (tgt : Int)) (k : WV T cy ad n D A p l e R s m args below meth c nL Q σ lo st tgt) : WV T cy ad n D A p l e R s m args below meth c nL Q σ lo (.ref a :: st) pc := fun H locs ls hP hD hS hl => lv_ifnonnull hc.1 hc.2.1 hd ht (k H locs ls hP hD hS hl)
theorem r_ifnull_n (hc : CX p s m args c D cy cc nL own Ts) {off : Int} {tgt : Nat} (hd : decode cc pc = .ok (.ifnull off, 3)) (ht : (pc : Int) + off = (tgt : Int)) (k : WV T cy ad n D A p l e R s m args below meth c nL Q σ lo st tgt) : WV T cy ad n D A p l e R s m args below meth c nL Q σ lo (.null :: st) pc := fun H locs ls hP hD hS hl => by
  intro T' hT X
  obtain ⟨t, a, b⟩ := k H locs ls hP hD hS hl T' hT X
  refine ⟨t, ?_, b⟩
  have hx := hc.1
  have hb := hc.2.1
  jvm_step X.here [X.here.top, hx, hb, hd, ht, Value.isRef]
  exact a
theorem r_ifnonnull_n (hc : CX p s m args c D cy cc nL own Ts) {off : Int} (hd : decode cc pc = .ok (.ifnonnull off, 3)) (k : WV T cy ad n D A p l e R s m args below meth c nL Q σ lo st (pc + 3)) : WV T cy ad n D A p l e R s m args below meth c nL Q σ lo (.null :: st) pc := fun H locs ls hP hD hS hl => by
  intro T' hT X
  obtain ⟨t, a, b⟩ := k H locs ls hP hD hS hl T' hT X
  refine ⟨t, ?_, b⟩
  have hx := hc.1
  have hb := hc.2.1
  jvm_step X.here [X.here.top, hx, hb, hd, Value.isRef]
  exact a
theorem r_get (hc : CX p s m args c D cy cc nL own Ts) {C0 : String} {T0 : u_T} {N ci index k : Nat} {L : List (Option Nat)} (hin : ∀ w ∈ u_ws C0 T0 N, w ∈ Ts) (hk : k < n) (hT : T.1 k = 0) (hL : T.2.2.1 k = (ci, L)) (hcl : vwCl[ci]? = some (C0, T0, N)) (j : Nat) (hj : j < N) (hw : Cond.fieldLink own index (T0 j).1 (T0 j).2.1 (T0 j).2.2.1 ∈ Ts) {v : Value} (hv : (wflds ad (σ.1 k) 0 L)[j]? = some v) (hd : decode cc pc = .ok (.getfield index, 3)) (kk : WV T cy ad n D A p l e R s m args below meth c nL Q σ lo (v :: st) (pc + 3)) : WV T cy ad n D A p l e R s m args below meth c nL Q σ lo (.ref (ad k) :: st) pc := fun H locs ls hP hD hS hl => by
  have h0 := wws_at (T := T) (cy := cy) (ad := ad) (σ := σ) hk
  have h1 : wshape T cy ad k (σ.1 k) (σ.2 k) = .inr (ci, wflds ad (σ.1 k) 0 L) := by unfold wshape; rw [hT, hL]; rfl
  rw [h1] at h0
  exact va_get (D := D) (ci := ci) (v := v) hc.1 hc.2.1 hc.2.2.2.2.1 hin hc.2.2.2.1 hc.2.2.2.2.2.1 hP k h0 hcl j hj (hc.2.2.2.2.1 _ hw) (fun _ h => h) hv hd (kk H locs ls hP hD hS hl)
theorem r_getN (hc : CX p s m args c D cy cc nL own Ts) {C0 : String} {T0 : u_T} {N ci index k : Nat} {L : List (Option Nat)} (hin : ∀ w ∈ u_ws C0 T0 N, w ∈ Ts) (hk : k < n) (hT : T.1 k = 0) (hL : T.2.2.1 k = (ci, L)) (hcl : vwCl[ci]? = some (C0, T0, N)) (j : Nat) (hj : j < N) (hw : (own, index, (T0 j).1, (T0 j).2.1, (T0 j).2.2.1, "CubeDesk") ∈ nestF) {v : Value} (hv : (wflds ad (σ.1 k) 0 L)[j]? = some v) (hd : decode cc pc = .ok (.getfield index, 3)) (kk : WV T cy ad n D A p l e R s m args below meth c nL Q σ lo (v :: st) (pc + 3)) : WV T cy ad n D A p l e R s m args below meth c nL Q σ lo (.ref (ad k) :: st) pc := fun H locs ls hP hD hS hl => by
  have h0 := wws_at (T := T) (cy := cy) (ad := ad) (σ := σ) hk
  have h1 : wshape T cy ad k (σ.1 k) (σ.2 k) = .inr (ci, wflds ad (σ.1 k) 0 L) := by unfold wshape; rw [hT, hL]; rfl
  rw [h1] at h0
  exact va_getN (D := D) (ci := ci) (v := v) hc.1 hc.2.1 hc.2.2.2.2.1 hin hc.2.2.2.1 hc.2.2.2.2.2.1 hP k h0 hcl j hj (va_Nw.use rfl (hc.2.2.2.2.2.2.1 _ hw)) (fun _ h => h) hv hd (kk H locs ls hP hD hS hl)
theorem r_put (hc : CX p s m args c D cy cc nL own Ts) {C0 : String} {T0 : u_T} {ty0 : Nat → FieldType} {N ci index k : Nat} {L : List (Option Nat)} (hin : ∀ w ∈ u_ws C0 T0 N, w ∈ Ts) (hty : ∀ k, k < N → parseFieldDescriptor (T0 k).2.2.1 = some (ty0 k)) (hnm : ∀ a, a < N → ∀ b, b < N → a ≠ b → (T0 a).2.1 ≠ (T0 b).2.1) (hk : k < n) (hT : T.1 k = 0) (hL : T.2.2.1 k = (ci, L)) (hcl : vwCl[ci]? = some (C0, T0, N)) (j : Nat) (hj : j < N) (hjl : j < L.length) (hw : Cond.fieldLink own index (T0 j).1 (T0 j).2.1 (T0 j).2.2.1 ∈ Ts) (hfin : (T0 j).2.2.2 = false) (hdesc : parseFieldDescriptor (T0 j).2.2.1 = some .int) (hLj : L[j]? = some none) {x : Int32} (hd : decode cc pc = .ok (.putfield index, 3)) (kk : WV T cy ad n D A p l e R s m args below meth c nL Q (wr σ k j x) lo st (pc + 3)) : WV T cy ad n D A p l e R s m args below meth c nL Q σ lo (.int x :: .ref (ad k) :: st) pc := fun H locs ls hP hD hS hl => by
  have h0 := wws_at (T := T) (cy := cy) (ad := ad) (σ := σ) hk
  have h1 : wshape T cy ad k (σ.1 k) (σ.2 k) = .inr (ci, wflds ad (σ.1 k) 0 L) := by unfold wshape; rw [hT, hL]; rfl
  rw [h1] at h0
  have hlen : ∀ (L : List (Option Nat)) (i : Nat), (wflds ad (σ.1 k) i L).length = L.length := by
    intro L
    induction L with
    | nil => intro i; rfl
    | cons a L ih => intro i; cases a <;> simp [wflds, ih]
  refine va_put (D := D) (ci := ci) (v := .int x) (ty := .int) hc.1 hc.2.1 hc.2.2.2.2.1 hin ty0 hty hnm hc.2.2.2.1 hc.2.2.2.2.2.1 hP hD hS k h0 hcl j hj (hc.2.2.2.2.1 _ hw) (fun _ h => h) hfin hdesc rfl rfl (by rw [hlen]; exact hjl) hd (fun H1 locs1 hP1 hD1 hS1 => ?_)
  have e : (wws T cy ad n σ).set k (ad k, .inr (ci, (wflds ad (σ.1 k) 0 L).set j (.int x))) = wws T cy ad n (wr σ k j x) := by
    refine wws_wr ?_
    rw [wflds_set ad (σ.1 k) x L 0 j hLj, Nat.zero_add]
    unfold wshape
    rw [hT, hL]
    rfl
  rw [e] at hP1 hD1
  exact kk H1 locs1 ls hP1 hD1 hS1 hl
theorem r_iald (hc : CX p s m args c D cy cc nL own Ts) {k N : Nat} (hk : k < n) (hT : T.1 k = 1) (hN : T.2.1 k = N) {i : Int32} (hi : vp_in i N) (hd : decode cc pc = .ok (.iaload, 1)) (kk : WV T cy ad n D A p l e R s m args below meth c nL Q σ lo (.int (rd σ k i.toNatClampNeg) :: st) (pc + 1)) : WV T cy ad n D A p l e R s m args below meth c nL Q σ lo (.int i :: .ref (ad k) :: st) pc := fun H locs ls hP hD hS hl => by
  have h0 := wws_at (T := T) (cy := cy) (ad := ad) (σ := σ) hk
  have h1 : wshape T cy ad k (σ.1 k) (σ.2 k) = .inl (cy 1, N, .inl (σ.1 k)) := by unfold wshape; rw [hT, ← hN]; rfl
  rw [h1] at h0
  exact va_iald (D := D) hc.1 hc.2.1 hc.2.2.2.2.2.1 hP k 0 h0 rfl hi hd (kk H locs ls hP hD hS hl)
theorem r_zald (hc : CX p s m args c D cy cc nL own Ts) {k N : Nat} (hk : k < n) (hT : T.1 k = 2) (hN : T.2.1 k = N) {i : Int32} (hi : vp_in i N) (hd : decode cc pc = .ok (.baload, 1)) (kk : WV T cy ad n D A p l e R s m args below meth c nL Q σ lo (.int (rd σ k i.toNatClampNeg) :: st) (pc + 1)) : WV T cy ad n D A p l e R s m args below meth c nL Q σ lo (.int i :: .ref (ad k) :: st) pc := fun H locs ls hP hD hS hl => by
  have h0 := wws_at (T := T) (cy := cy) (ad := ad) (σ := σ) hk
  have h1 : wshape T cy ad k (σ.1 k) (σ.2 k) = .inl (cy 2, N, .inl (σ.1 k)) := by unfold wshape; rw [hT, ← hN]; rfl
  rw [h1] at h0
  exact va_zald (D := D) hc.1 hc.2.1 hc.2.2.2.2.2.1 hP k 1 h0 rfl hi hd (kk H locs ls hP hD hS hl)
theorem r_bald (hc : CX p s m args c D cy cc nL own Ts) {k N : Nat} (hk : k < n) (hT : T.1 k = 3) (hN : T.2.1 k = N) {i : Int32} (hi : vp_in i N) (hd : decode cc pc = .ok (.baload, 1)) (kk : WV T cy ad n D A p l e R s m args below meth c nL Q σ lo (.int (rd σ k i.toNatClampNeg) :: st) (pc + 1)) : WV T cy ad n D A p l e R s m args below meth c nL Q σ lo (.int i :: .ref (ad k) :: st) pc := fun H locs ls hP hD hS hl => by
  have h0 := wws_at (T := T) (cy := cy) (ad := ad) (σ := σ) hk
  have h1 : wshape T cy ad k (σ.1 k) (σ.2 k) = .inl (cy 3, N, .inl (σ.1 k)) := by unfold wshape; rw [hT, ← hN]; rfl
  rw [h1] at h0
  exact va_bald (D := D) hc.1 hc.2.1 hc.2.2.2.2.2.1 hP k 2 h0 rfl hi hd (kk H locs ls hP hD hS hl)
theorem r_iast (hc : CX p s m args c D cy cc nL own Ts) {k N : Nat} (hk : k < n) (hT : T.1 k = 1) (hN : T.2.1 k = N) {i x : Int32} (hi : vp_in i N) (hd : decode cc pc = .ok (.iastore, 1)) (kk : WV T cy ad n D A p l e R s m args below meth c nL Q (wr σ k i.toNatClampNeg (x)) lo st (pc + 1)) : WV T cy ad n D A p l e R s m args below meth c nL Q σ lo (.int x :: .int i :: .ref (ad k) :: st) pc := fun H locs ls hP hD hS hl => by
  have h0 := wws_at (T := T) (cy := cy) (ad := ad) (σ := σ) hk
  have h1 : ∀ f, wshape T cy ad k f (σ.2 k) = .inl (cy 1, N, .inl f) := fun f => by unfold wshape; rw [hT, ← hN]; rfl
  rw [h1] at h0
  refine va_iast (D := D) hc.1 hc.2.1 hc.2.2.2.2.2.1 hP hD hS k 0 h0 rfl hi hd (fun H1 locs1 hP1 hD1 hS1 => ?_)
  rw [wws_wr (σ := σ) (j := i.toNatClampNeg) (v := x) (by rw [h1])] at hP1 hD1
  exact kk H1 locs1 ls hP1 hD1 hS1 hl
theorem r_zast (hc : CX p s m args c D cy cc nL own Ts) {k N : Nat} (hk : k < n) (hT : T.1 k = 2) (hN : T.2.1 k = N) {i x : Int32} (hi : vp_in i N) (hd : decode cc pc = .ok (.bastore, 1)) (kk : WV T cy ad n D A p l e R s m args below meth c nL Q (wr σ k i.toNatClampNeg (vp_nar .boolean x)) lo st (pc + 1)) : WV T cy ad n D A p l e R s m args below meth c nL Q σ lo (.int x :: .int i :: .ref (ad k) :: st) pc := fun H locs ls hP hD hS hl => by
  have h0 := wws_at (T := T) (cy := cy) (ad := ad) (σ := σ) hk
  have h1 : ∀ f, wshape T cy ad k f (σ.2 k) = .inl (cy 2, N, .inl f) := fun f => by unfold wshape; rw [hT, ← hN]; rfl
  rw [h1] at h0
  refine va_zast (D := D) hc.1 hc.2.1 hc.2.2.2.2.2.1 hP hD hS k 1 h0 rfl hi hd (fun H1 locs1 hP1 hD1 hS1 => ?_)
  rw [wws_wr (σ := σ) (j := i.toNatClampNeg) (v := vp_nar .boolean x) (by rw [h1])] at hP1 hD1
  exact kk H1 locs1 ls hP1 hD1 hS1 hl
theorem r_bast (hc : CX p s m args c D cy cc nL own Ts) {k N : Nat} (hk : k < n) (hT : T.1 k = 3) (hN : T.2.1 k = N) {i x : Int32} (hi : vp_in i N) (hd : decode cc pc = .ok (.bastore, 1)) (kk : WV T cy ad n D A p l e R s m args below meth c nL Q (wr σ k i.toNatClampNeg (vp_nar .byte x)) lo st (pc + 1)) : WV T cy ad n D A p l e R s m args below meth c nL Q σ lo (.int x :: .int i :: .ref (ad k) :: st) pc := fun H locs ls hP hD hS hl => by
  have h0 := wws_at (T := T) (cy := cy) (ad := ad) (σ := σ) hk
  have h1 : ∀ f, wshape T cy ad k f (σ.2 k) = .inl (cy 3, N, .inl f) := fun f => by unfold wshape; rw [hT, ← hN]; rfl
  rw [h1] at h0
  refine va_bast (D := D) hc.1 hc.2.1 hc.2.2.2.2.2.1 hP hD hS k 2 h0 rfl hi hd (fun H1 locs1 hP1 hD1 hS1 => ?_)
  rw [wws_wr (σ := σ) (j := i.toNatClampNeg) (v := vp_nar .byte x) (by rw [h1])] at hP1 hD1
  exact kk H1 locs1 ls hP1 hD1 hS1 hl
theorem r_lald (hc : CX p s m args c D cy cc nL own Ts) {k N : Nat} (hk : k < n) (hT : T.1 k = 4) (hN : T.2.1 k = N) {i : Int32} (hi : vp_in i N) (hd : decode cc pc = .ok (.laload, 1)) (kk : WV T cy ad n D A p l e R s m args below meth c nL Q σ lo (.long (rl σ k i.toNatClampNeg) :: st) (pc + 1)) : WV T cy ad n D A p l e R s m args below meth c nL Q σ lo (.int i :: .ref (ad k) :: st) pc := fun H locs ls hP hD hS hl => by
  have h0 := wws_at (T := T) (cy := cy) (ad := ad) (σ := σ) hk
  have h1 : wshape T cy ad k (σ.1 k) (σ.2 k) = .inl (cy 4, N, .inr (.inl (σ.2 k))) := by unfold wshape; rw [hT, ← hN]; rfl
  rw [h1] at h0
  exact va_lald (D := D) hc.1 hc.2.1 hc.2.2.2.2.2.1 hP k 3 h0 rfl hi hd (kk H locs ls hP hD hS hl)
theorem r_last (hc : CX p s m args c D cy cc nL own Ts) {k N : Nat} (hk : k < n) (hT : T.1 k = 4) (hN : T.2.1 k = N) {i : Int32} {x : Int64} (hi : vp_in i N) (hd : decode cc pc = .ok (.lastore, 1)) (kk : WV T cy ad n D A p l e R s m args below meth c nL Q (wl σ k i.toNatClampNeg x) lo st (pc + 1)) : WV T cy ad n D A p l e R s m args below meth c nL Q σ lo (.long x :: .int i :: .ref (ad k) :: st) pc := fun H locs ls hP hD hS hl => by
  have h0 := wws_at (T := T) (cy := cy) (ad := ad) (σ := σ) hk
  have h1 : ∀ g, wshape T cy ad k (σ.1 k) g = .inl (cy 4, N, .inr (.inl g)) := fun g => by unfold wshape; rw [hT, ← hN]; rfl
  rw [h1] at h0
  refine va_last (D := D) hc.1 hc.2.1 hc.2.2.2.2.2.1 hP hD hS k 3 h0 rfl hi hd (fun H1 locs1 hP1 hD1 hS1 => ?_)
  rw [wws_wl (σ := σ) (j := i.toNatClampNeg) (v := x) (by rw [h1])] at hP1 hD1
  exact kk H1 locs1 ls hP1 hD1 hS1 hl
theorem r_alen (hc : CX p s m args c D cy cc nL own Ts) {k N : Nat} (hk : k < n) (hT : T.1 k = 1) (hN : T.2.1 k = N) (hd : decode cc pc = .ok (.arraylength, 1)) (kk : WV T cy ad n D A p l e R s m args below meth c nL Q σ lo (.int (nI N) :: st) (pc + 1)) : WV T cy ad n D A p l e R s m args below meth c nL Q σ lo (.ref (ad k) :: st) pc := fun H locs ls hP hD hS hl => by
  have h0 := wws_at (T := T) (cy := cy) (ad := ad) (σ := σ) hk
  have h1 : wshape T cy ad k (σ.1 k) (σ.2 k) = .inl (cy 1, N, .inl (σ.1 k)) := by unfold wshape; rw [hT, ← hN]; rfl
  rw [h1] at h0
  exact va_alen (D := D) hc.1 hc.2.1 hc.2.2.2.2.2.1 hP k 0 h0 rfl rfl hd (kk H locs ls hP hD hS hl)
theorem r_alenJ (hc : CX p s m args c D cy cc nL own Ts) {k N : Nat} (hk : k < n) (hT : T.1 k = 4) (hN : T.2.1 k = N) (hd : decode cc pc = .ok (.arraylength, 1)) (kk : WV T cy ad n D A p l e R s m args below meth c nL Q σ lo (.int (nI N) :: st) (pc + 1)) : WV T cy ad n D A p l e R s m args below meth c nL Q σ lo (.ref (ad k) :: st) pc := fun H locs ls hP hD hS hl => by
  have h0 := wws_at (T := T) (cy := cy) (ad := ad) (σ := σ) hk
  have h1 : wshape T cy ad k (σ.1 k) (σ.2 k) = .inl (cy 4, N, .inr (.inl (σ.2 k))) := by unfold wshape; rw [hT, ← hN]; rfl
  rw [h1] at h0
  exact va_alen (D := D) hc.1 hc.2.1 hc.2.2.2.2.2.1 hP k 3 h0 rfl rfl hd (kk H locs ls hP hD hS hl)
theorem r_aald5 (hc : CX p s m args c D cy cc nL own Ts) {k N q : Nat} (hk : k < n) (hT : T.1 k = 5) (hN : T.2.1 k = N) {i : Int32} (hi : vp_in i N) (hq : T.2.2.2 k i.toNatClampNeg = some q) (hd : decode cc pc = .ok (.aaload, 1)) (kk : WV T cy ad n D A p l e R s m args below meth c nL Q σ lo (.ref (ad q) :: st) (pc + 1)) : WV T cy ad n D A p l e R s m args below meth c nL Q σ lo (.int i :: .ref (ad k) :: st) pc := fun H locs ls hP hD hS hl => by
  have h0 := wws_at (T := T) (cy := cy) (ad := ad) (σ := σ) hk
  have h1 : wshape T cy ad k (σ.1 k) (σ.2 k) = .inl (cy 5, N, .inr (.inr (.inr (.inr (fun i => (T.2.2.2 k i).map ad))))) := by unfold wshape; rw [hT, ← hN]; rfl
  rw [h1] at h0
  have hlt : i.toNatClampNeg < N := Nat.not_le.mp fun q => hi (Or.inr q)
  have hv : Value.ref (ad q) = va_rf ((fun i => (T.2.2.2 k i).map ad) i.toNatClampNeg) := by
    show _ = va_rf ((T.2.2.2 k i.toNatClampNeg).map ad)
    rw [hq]; rfl
  have kq := kk H locs ls hP hD hS hl
  rw [hv] at kq
  exact W.aald (v := va_rf ((fun i => (T.2.2.2 k i).map ad) i.toNatClampNeg)) (ty := .object "CubeDesk$Dimension") hc.1 hc.2.1 (hP k _ h0) ((hc.2.2.2.2.2.1.2 4 _ rfl).1 N (fun j => va_rf ((T.2.2.2 k j).map ad))) rfl (fun q => by cases q) (by show ¬ (i < 0 ∨ (arrV _ _ _).slots.size ≤ _); rw [arrV_size]; exact hi) (by show (arrV _ _ _).slots[_]? = _; rw [arrV_read _ _ hlt]) rfl rfl hd kq
theorem r_aald6 (hc : CX p s m args c D cy cc nL own Ts) {k N q : Nat} (hk : k < n) (hT : T.1 k = 6) (hN : T.2.1 k = N) {i : Int32} (hi : vp_in i N) (hq : T.2.2.2 k i.toNatClampNeg = some q) (hd : decode cc pc = .ok (.aaload, 1)) (kk : WV T cy ad n D A p l e R s m args below meth c nL Q σ lo (.ref (ad q) :: st) (pc + 1)) : WV T cy ad n D A p l e R s m args below meth c nL Q σ lo (.int i :: .ref (ad k) :: st) pc := fun H locs ls hP hD hS hl => by
  have h0 := wws_at (T := T) (cy := cy) (ad := ad) (σ := σ) hk
  have h1 : wshape T cy ad k (σ.1 k) (σ.2 k) = .inl (cy 6, N, .inr (.inr (.inr (.inr (fun i => (T.2.2.2 k i).map ad))))) := by unfold wshape; rw [hT, ← hN]; rfl
  rw [h1] at h0
  have hlt : i.toNatClampNeg < N := Nat.not_le.mp fun q => hi (Or.inr q)
  have hv : Value.ref (ad q) = va_rf ((fun i => (T.2.2.2 k i).map ad) i.toNatClampNeg) := by
    show _ = va_rf ((T.2.2.2 k i.toNatClampNeg).map ad)
    rw [hq]; rfl
  have kq := kk H locs ls hP hD hS hl
  rw [hv] at kq
  exact W.aald (v := va_rf ((fun i => (T.2.2.2 k i).map ad) i.toNatClampNeg)) (ty := .array .int) hc.1 hc.2.1 (hP k _ h0) ((hc.2.2.2.2.2.1.2 5 _ rfl).1 N (fun j => va_rf ((T.2.2.2 k j).map ad))) rfl (fun q => by cases q) (by show ¬ (i < 0 ∨ (arrV _ _ _).slots.size ≤ _); rw [arrV_size]; exact hi) (by show (arrV _ _ _).slots[_]? = _; rw [arrV_read _ _ hlt]) rfl rfl hd kq
theorem r_weak (hw : lle lo' lo) (k : WV T cy ad n D A p l e R s m args below meth c nL Q σ lo' st pc) : WV T cy ad n D A p l e R s m args below meth c nL Q σ lo st pc := fun H locs ls hP hD hS hl => k H locs ls hP hD hS (lhas_sub hl hw)
theorem r_astoreN_n (hc : CX p s m args c D cy cc nL own Ts) {z : Fin 4} {i : Nat} (hd : decode cc pc = .ok (.astore_n z, 1)) (hi : (z : Nat) = i) (hn : i < nL) (hs : setIs lo i (.null) lo') (k : WV T cy ad n D A p l e R s m args below meth c nL Q σ lo' st (pc + 1)) : WV T cy ad n D A p l e R s m args below meth c nL Q σ lo (.null :: st) pc := fun H locs ls hP hD hS hl => by
  subst hi
  obtain ⟨ls', e1, e2⟩ := lv_store1 (v := Value.null) (lhas_iff.mp hl) hn rfl
  intro T' hT X
  obtain ⟨t, a, b⟩ := k H locs ls' hP hD hS (lhas_st1 hs e2) T' hT X
  refine ⟨t, ?_, b⟩
  have hx := hc.1
  have hb := hc.2.1
  jvm_step X.here [X.here.top, hx, hb, hd, e1, Value.isRef]
  exact a
theorem r_astoreN (hc : CX p s m args c D cy cc nL own Ts) {i : Nat} (hd : decode cc pc = .ok (.astore i, 2)) (hn : i < nL) (hs : setIs lo i (.null) lo') (k : WV T cy ad n D A p l e R s m args below meth c nL Q σ lo' st (pc + 2)) : WV T cy ad n D A p l e R s m args below meth c nL Q σ lo (.null :: st) pc := fun H locs ls hP hD hS hl => by
  obtain ⟨ls', e1, e2⟩ := lv_store1 (v := Value.null) (lhas_iff.mp hl) hn rfl
  intro T' hT X
  obtain ⟨t, a, b⟩ := k H locs ls' hP hD hS (lhas_st1 hs e2) T' hT X
  refine ⟨t, ?_, b⟩
  have hx := hc.1
  have hb := hc.2.1
  jvm_step X.here [X.here.top, hx, hb, hd, e1, Value.isRef]
  exact a
theorem r_aloadN_n (hc : CX p s m args c D cy cc nL own Ts) {z : Fin 4} (hd : decode cc pc = .ok (.aload_n z, 1)) (hx : lo[(z : Nat)]? = some (some .null)) (k : WV T cy ad n D A p l e R s m args below meth c nL Q σ lo (.null :: st) (pc + 1)) : WV T cy ad n D A p l e R s m args below meth c nL Q σ lo st pc := fun H locs ls hP hD hS hl => by
  intro T' hT X
  obtain ⟨t, a, b⟩ := k H locs ls hP hD hS hl T' hT X
  refine ⟨t, ?_, b⟩
  have hx1 := hc.1
  have hb := hc.2.1
  have hl1 := hl.2.2 _ _ hx
  jvm_step X.here [X.here.top, hx1, hb, hd, hl1, Value.isRef]
  exact a
theorem r_aloadN (hc : CX p s m args c D cy cc nL own Ts) {i : Nat} (hd : decode cc pc = .ok (.aload i, 2)) (hx : lo[i]? = some (some .null)) (k : WV T cy ad n D A p l e R s m args below meth c nL Q σ lo (.null :: st) (pc + 2)) : WV T cy ad n D A p l e R s m args below meth c nL Q σ lo st pc := fun H locs ls hP hD hS hl => by
  intro T' hT X
  obtain ⟨t, a, b⟩ := k H locs ls hP hD hS hl T' hT X
  refine ⟨t, ?_, b⟩
  have hx1 := hc.1
  have hb := hc.2.1
  have hl1 := hl.2.2 _ _ hx
  jvm_step X.here [X.here.top, hx1, hb, hd, hl1, Value.isRef]
  exact a
end MyRows

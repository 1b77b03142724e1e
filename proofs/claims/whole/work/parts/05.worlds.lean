/-! ===== the two worlds: the desk's cells (49; the first 29 stand when its lattice is made), the reference's (17) ===== -/
def TCk : List Nat := [0, 5, 0, 1, 1, 1, 0, 1, 1, 1, 0, 1, 1, 1, 0, 1, 1, 1, 0, 1, 1, 2, 0, 1, 1, 2, 1, 0, 4, 0, 6, 1, 1, 1, 1, 6, 1, 1, 1, 1, 0, 1, 1, 1, 1, 0, 3, 1, 0]
def TCn : List Nat := [0, 4, 0, 4, 32, 32, 0, 4, 32, 32, 0, 4, 32, 32, 0, 4, 32, 32, 0, 300, 300, 300, 0, 256, 256, 256, 256, 0, 64, 0, 4, 64, 64, 64, 64, 4, 64, 64, 64, 64, 0, 81, 81, 81, 81, 0, 648, 4, 0]
def TCl : List (Nat × List (Option Nat)) := [(6, [some 1, none]), (0, []), (1, [some 3, some 4, some 5, none, none, none]), (0, []), (0, []), (0, []), (1, [some 7, some 8, some 9, none, none, none]), (0, []), (0, []), (0, []), (1, [some 11, some 12, some 13, none, none, none]), (0, []), (0, []), (0, []), (1, [some 15, some 16, some 17, none, none, none]), (0, []), (0, []), (0, []), (2, [some 19, some 20, some 21, none, none]), (0, []), (0, []), (0, []), (4, [some 0, some 18, some 23, some 24, some 25, some 26, some 27, none]), (0, []), (0, []), (0, []), (0, []), (3, [some 28, none]), (0, []), (0, [some 22, some 30, some 35]), (0, []), (0, []), (0, []), (0, []), (0, []), (0, []), (0, []), (0, []), (0, []), (0, []), (7, [some 41, some 42, some 43, some 44]), (0, []), (0, []), (0, []), (0, []), (5, [some 46, none]), (0, []), (0, []), (8, [some 0, some 18, some 22, some 29, some 40, some 45, some 47, none])]
def TC : Wt := (fun k => TCk.getD k 9, fun k => TCn.getD k 0, fun k => TCl.getD k (0, []), fun k i => match k with | 1 => some (2 + 4 * i) | 30 => some (31 + i) | _ => some (36 + i))
def TRk : List Nat := [0, 1, 1, 1, 1, 1, 2, 1, 1, 1, 2, 1, 2, 1, 1, 2, 1]
def TRn : List Nat := [0, 4, 12, 96, 1200, 300, 300, 4, 4, 4, 256, 2000, 10000, 4, 256, 65536, 256]
def TRl : List (Nat × List (Option Nat)) := [(9, [none, none, some 1, some 2, some 3, none, some 4, some 5, some 6, some 7, some 8, some 9, some 10, none, some 11, none, some 12, some 13, some 14, some 15, some 16, none, none, none, none]), (0, []), (0, []), (0, []), (0, []), (0, []), (0, []), (0, []), (0, []), (0, []), (0, []), (0, []), (0, []), (0, []), (0, []), (0, []), (0, [])]
def TR : Wt := (fun k => TRk.getD k 9, fun k => TRn.getD k 0, fun k => TRl.getD k (0, []), fun k i => none)
/-- a cell that is a dimension -/
def dimk (k : Nat) : Prop := k = 2 ∨ k = 6 ∨ k = 10 ∨ k = 14
theorem dm_lt {k n : Nat} (h : dimk k) (hn : 29 ≤ n) (j : Nat) (hj : j < 4) : k + j < n := by rcases h with rfl | rfl | rfl | rfl <;> omega
theorem dm_lt0 {k n : Nat} (h : dimk k) (hn : 29 ≤ n) : k < n := dm_lt h hn 0 (by decide)
theorem dm_T {k : Nat} (h : dimk k) : TC.1 k = 0 := by rcases h with rfl | rfl | rfl | rfl <;> rfl
theorem dm_L {k : Nat} (h : dimk k) : TC.2.2.1 k = (1, [some (k + 1), some (k + 2), some (k + 3), none, none, none]) := by rcases h with rfl | rfl | rfl | rfl <;> rfl
theorem dm_T1 {k : Nat} (h : dimk k) : TC.1 (k + 1) = 1 := by rcases h with rfl | rfl | rfl | rfl <;> rfl
theorem dm_T2 {k : Nat} (h : dimk k) : TC.1 (k + 2) = 1 := by rcases h with rfl | rfl | rfl | rfl <;> rfl
theorem dm_T3 {k : Nat} (h : dimk k) : TC.1 (k + 3) = 1 := by rcases h with rfl | rfl | rfl | rfl <;> rfl
theorem dm_N1 {k : Nat} (h : dimk k) : TC.2.1 (k + 1) = 4 := by rcases h with rfl | rfl | rfl | rfl <;> rfl
theorem dm_N2 {k : Nat} (h : dimk k) : TC.2.1 (k + 2) = 32 := by rcases h with rfl | rfl | rfl | rfl <;> rfl
theorem dm_N3 {k : Nat} (h : dimk k) : TC.2.1 (k + 3) = 32 := by rcases h with rfl | rfl | rfl | rfl <;> rfl
/-- a row of ints among the first b cells of the desk's world -/
def isI (b q : Nat) : Prop := TC.1 q = 1 ∧ q < b
def isJ (b q : Nat) : Prop := TC.1 q = 4 ∧ q < b
def zb (v : Int32) : Prop := narrow .boolean (.int v) = .int v
def allc1 : List Value → Prop
  | [] => True
  | .int _ :: t => allc1 t
  | .ref _ :: t => allc1 t
  | .null :: t => allc1 t
  | _ => False
theorem allc1_ok : ∀ {l : List Value}, allc1 l → ∀ v ∈ l, v.category = 1
  | [], _, v, h => by cases h
  | .int _ :: t, h, v, hv => by rcases List.mem_cons.mp hv with rfl | hv; rfl; exact allc1_ok (l := t) h v hv
  | .ref _ :: t, h, v, hv => by rcases List.mem_cons.mp hv with rfl | hv; rfl; exact allc1_ok (l := t) h v hv
  | .null :: t, h, v, hv => by rcases List.mem_cons.mp hv with rfl | hv; rfl; exact allc1_ok (l := t) h v hv
theorem i32ne {x z : Int32} (h : ¬ x = z) : ¬ x.toInt = z.toInt := fun q => h (Int32.toInt_inj.mp q)


abbrev rmJ7_fill_53178 : Room := { frames := 0, cells := 0, slots := 0, locals := 0 }
theorem qJ7_fill_53178 : yJ7_fill_53178.cls ≠ "java/lang/invoke/MethodHandle" ∧ yJ7_fill_53178.cls ≠ "java/lang/invoke/VarHandle" ∧ (parseMethodDescriptor yJ7_fill_53178.desc).map (fun d => d.parameters.length) = some 2 := by decide +kernel
abbrev rmJ7_fill_d0a16 : Room := { frames := 0, cells := 0, slots := 0, locals := 0 }
theorem qJ7_fill_d0a16 : yJ7_fill_d0a16.cls ≠ "java/lang/invoke/MethodHandle" ∧ yJ7_fill_d0a16.cls ≠ "java/lang/invoke/VarHandle" ∧ (parseMethodDescriptor yJ7_fill_d0a16.desc).map (fun d => d.parameters.length) = some 2 := by decide +kernel
abbrev rmX4_has : Room := { frames := 0, cells := 0, slots := 0, locals := 0 }
theorem qX4_has : yX4_has.cls = RX4 ∧ yX4_has.cls ≠ "java/lang/invoke/MethodHandle" ∧ yX4_has.cls ≠ "java/lang/invoke/VarHandle" ∧ (parseMethodDescriptor yX4_has.desc).map (fun d => d.parameters.length) = some 1 := by decide +kernel
abbrev rmX6_isNowhereAbove : Room := { frames := 0, cells := 0, slots := 0, locals := 0 }
theorem qX6_isNowhereAbove : yX6_isNowhereAbove.cls ≠ "java/lang/invoke/MethodHandle" ∧ yX6_isNowhereAbove.cls ≠ "java/lang/invoke/VarHandle" ∧ (parseMethodDescriptor yX6_isNowhereAbove.desc).map (fun d => d.parameters.length) = some 2 := by decide +kernel
abbrev rmX4_lower : Room := { frames := 1, cells := 0, slots := 0, locals := 24 }
theorem qX4_lower : yX4_lower.cls = RX4 ∧ yX4_lower.cls ≠ "java/lang/invoke/MethodHandle" ∧ yX4_lower.cls ≠ "java/lang/invoke/VarHandle" ∧ (parseMethodDescriptor yX4_lower.desc).map (fun d => d.parameters.length) = some 3 := by decide +kernel
abbrev rmX4_sparedBy : Room := { frames := 1, cells := 0, slots := 0, locals := 21 }
theorem qX4_sparedBy : yX4_sparedBy.cls = RX4 ∧ yX4_sparedBy.cls ≠ "java/lang/invoke/MethodHandle" ∧ yX4_sparedBy.cls ≠ "java/lang/invoke/VarHandle" ∧ (parseMethodDescriptor yX4_sparedBy.desc).map (fun d => d.parameters.length) = some 2 := by decide +kernel
abbrev rmX0_extend : Room := { frames := 2, cells := 0, slots := 0, locals := 49 }
abbrev rmX0_extendR : Room := { frames := 5, cells := 0, slots := 0, locals := 139 }
theorem qX0_extend : yX0_extend.cls ≠ "java/lang/invoke/MethodHandle" ∧ yX0_extend.cls ≠ "java/lang/invoke/VarHandle" ∧ (parseMethodDescriptor yX0_extend.desc).map (fun d => d.parameters.length) = some 5 := by decide +kernel
theorem qX0_extendR : yX0_extend.cls ≠ "java/lang/invoke/MethodHandle" ∧ yX0_extend.cls ≠ "java/lang/invoke/VarHandle" ∧ (parseMethodDescriptor yX0_extend.desc).map (fun d => d.parameters.length) = some 5 := by decide +kernel
abbrev rmX2_has : Room := { frames := 0, cells := 0, slots := 0, locals := 0 }
theorem qX2_has : yX2_has.cls = RX2 ∧ yX2_has.cls ≠ "java/lang/invoke/MethodHandle" ∧ yX2_has.cls ≠ "java/lang/invoke/VarHandle" ∧ (parseMethodDescriptor yX2_has.desc).map (fun d => d.parameters.length) = some 1 := by decide +kernel
abbrev rmX2_cellOf : Room := { frames := 1, cells := 0, slots := 0, locals := 21 }
theorem qX2_cellOf : yX2_cellOf.cls = RX2 ∧ yX2_cellOf.cls ≠ "java/lang/invoke/MethodHandle" ∧ yX2_cellOf.cls ≠ "java/lang/invoke/VarHandle" ∧ (parseMethodDescriptor yX2_cellOf.desc).map (fun d => d.parameters.length) = some 1 := by decide +kernel
abbrev rmX2_isThere : Room := { frames := 1, cells := 0, slots := 0, locals := 21 }
theorem qX2_isThere : yX2_isThere.cls = RX2 ∧ yX2_isThere.cls ≠ "java/lang/invoke/MethodHandle" ∧ yX2_isThere.cls ≠ "java/lang/invoke/VarHandle" ∧ (parseMethodDescriptor yX2_isThere.desc).map (fun d => d.parameters.length) = some 1 := by decide +kernel
abbrev rmX3_add : Room := { frames := 0, cells := 0, slots := 0, locals := 0 }
theorem qX3_add : yX3_add.cls = RX3 ∧ yX3_add.cls ≠ "java/lang/invoke/MethodHandle" ∧ yX3_add.cls ≠ "java/lang/invoke/VarHandle" ∧ (parseMethodDescriptor yX3_add.desc).map (fun d => d.parameters.length) = some 1 := by decide +kernel
abbrev rmX3_clear : Room := { frames := 1, cells := 0, slots := 0, locals := 24 }
theorem qX3_clear : yX3_clear.cls = RX3 ∧ yX3_clear.cls ≠ "java/lang/invoke/MethodHandle" ∧ yX3_clear.cls ≠ "java/lang/invoke/VarHandle" ∧ (parseMethodDescriptor yX3_clear.desc).map (fun d => d.parameters.length) = some 0 := by decide +kernel
abbrev rmX4_levelsOf : Room := { frames := 1, cells := 0, slots := 0, locals := 21 }
theorem qX4_levelsOf : yX4_levelsOf.cls = RX4 ∧ yX4_levelsOf.cls ≠ "java/lang/invoke/MethodHandle" ∧ yX4_levelsOf.cls ≠ "java/lang/invoke/VarHandle" ∧ (parseMethodDescriptor yX4_levelsOf.desc).map (fun d => d.parameters.length) = some 1 := by decide +kernel
abbrev rmX1_placeOf : Room := { frames := 0, cells := 0, slots := 0, locals := 0 }
theorem qX1_placeOf : yX1_placeOf.cls ≠ "java/lang/invoke/MethodHandle" ∧ yX1_placeOf.cls ≠ "java/lang/invoke/VarHandle" ∧ (parseMethodDescriptor yX1_placeOf.desc).map (fun d => d.parameters.length) = some 2 := by decide +kernel
abbrev rmX6_levelIn : Room := { frames := 0, cells := 0, slots := 0, locals := 0 }
theorem qX6_levelIn : yX6_levelIn.cls ≠ "java/lang/invoke/MethodHandle" ∧ yX6_levelIn.cls ≠ "java/lang/invoke/VarHandle" ∧ (parseMethodDescriptor yX6_levelIn.desc).map (fun d => d.parameters.length) = some 2 := by decide +kernel
abbrev rmX6_memberIn : Room := { frames := 0, cells := 0, slots := 0, locals := 0 }
theorem qX6_memberIn : yX6_memberIn.cls = RX6 ∧ yX6_memberIn.cls ≠ "java/lang/invoke/MethodHandle" ∧ yX6_memberIn.cls ≠ "java/lang/invoke/VarHandle" ∧ (parseMethodDescriptor yX6_memberIn.desc).map (fun d => d.parameters.length) = some 2 := by decide +kernel
abbrev rmX6_groupOf : Room := { frames := 1, cells := 0, slots := 0, locals := 22 }
theorem qX6_groupOf : yX6_groupOf.cls = RX6 ∧ yX6_groupOf.cls ≠ "java/lang/invoke/MethodHandle" ∧ yX6_groupOf.cls ≠ "java/lang/invoke/VarHandle" ∧ (parseMethodDescriptor yX6_groupOf.desc).map (fun d => d.parameters.length) = some 2 := by decide +kernel
abbrev rmX4_collectGroups : Room := { frames := 2, cells := 0, slots := 0, locals := 47 }
theorem qX4_collectGroups : yX4_collectGroups.cls = RX4 ∧ yX4_collectGroups.cls ≠ "java/lang/invoke/MethodHandle" ∧ yX4_collectGroups.cls ≠ "java/lang/invoke/VarHandle" ∧ (parseMethodDescriptor yX4_collectGroups.desc).map (fun d => d.parameters.length) = some 1 := by decide +kernel
abbrev rmX4_sizeOf : Room := { frames := 3, cells := 0, slots := 0, locals := 70 }
theorem qX4_sizeOf : yX4_sizeOf.cls = RX4 ∧ yX4_sizeOf.cls ≠ "java/lang/invoke/MethodHandle" ∧ yX4_sizeOf.cls ≠ "java/lang/invoke/VarHandle" ∧ (parseMethodDescriptor yX4_sizeOf.desc).map (fun d => d.parameters.length) = some 1 := by decide +kernel
abbrev rmX4_fillBare : Room := { frames := 4, cells := 0, slots := 0, locals := 91 }
theorem qX4_fillBare : yX4_fillBare.cls = RX4 ∧ yX4_fillBare.cls ≠ "java/lang/invoke/MethodHandle" ∧ yX4_fillBare.cls ≠ "java/lang/invoke/VarHandle" ∧ (parseMethodDescriptor yX4_fillBare.desc).map (fun d => d.parameters.length) = some 1 := by decide +kernel
abbrev rmX0_greatestGain : Room := { frames := 6, cells := 0, slots := 0, locals := 169 }
theorem qX0_greatestGain : yX0_greatestGain.cls = RX0 ∧ yX0_greatestGain.cls ≠ "java/lang/invoke/MethodHandle" ∧ yX0_greatestGain.cls ≠ "java/lang/invoke/VarHandle" ∧ (parseMethodDescriptor yX0_greatestGain.desc).map (fun d => d.parameters.length) = some 1 := by decide +kernel
abbrev rmX1_settle : Room := { frames := 1, cells := 0, slots := 0, locals := 21 }
theorem qX1_settle : yX1_settle.cls = RX1 ∧ yX1_settle.cls ≠ "java/lang/invoke/MethodHandle" ∧ yX1_settle.cls ≠ "java/lang/invoke/VarHandle" ∧ (parseMethodDescriptor yX1_settle.desc).map (fun d => d.parameters.length) = some 0 := by decide +kernel
abbrev rmX1_hang : Room := { frames := 2, cells := 0, slots := 0, locals := 44 }
theorem qX1_hang : yX1_hang.cls = RX1 ∧ yX1_hang.cls ≠ "java/lang/invoke/MethodHandle" ∧ yX1_hang.cls ≠ "java/lang/invoke/VarHandle" ∧ (parseMethodDescriptor yX1_hang.desc).map (fun d => d.parameters.length) = some 3 := by decide +kernel
abbrev rmX1_hasLevel : Room := { frames := 0, cells := 0, slots := 0, locals := 0 }
theorem qX1_hasLevel : yX1_hasLevel.cls = RX1 ∧ yX1_hasLevel.cls ≠ "java/lang/invoke/MethodHandle" ∧ yX1_hasLevel.cls ≠ "java/lang/invoke/VarHandle" ∧ (parseMethodDescriptor yX1_hasLevel.desc).map (fun d => d.parameters.length) = some 1 := by decide +kernel
abbrev rmX1_widthOf : Room := { frames := 1, cells := 0, slots := 0, locals := 21 }
theorem qX1_widthOf : yX1_widthOf.cls = RX1 ∧ yX1_widthOf.cls ≠ "java/lang/invoke/MethodHandle" ∧ yX1_widthOf.cls ≠ "java/lang/invoke/VarHandle" ∧ (parseMethodDescriptor yX1_widthOf.desc).map (fun d => d.parameters.length) = some 1 := by decide +kernel
abbrev rmX1_hasMember : Room := { frames := 2, cells := 0, slots := 0, locals := 42 }
theorem qX1_hasMember : yX1_hasMember.cls = RX1 ∧ yX1_hasMember.cls ≠ "java/lang/invoke/MethodHandle" ∧ yX1_hasMember.cls ≠ "java/lang/invoke/VarHandle" ∧ (parseMethodDescriptor yX1_hasMember.desc).map (fun d => d.parameters.length) = some 2 := by decide +kernel
abbrev rmX1_homeOf : Room := { frames := 1, cells := 0, slots := 0, locals := 21 }
theorem qX1_homeOf : yX1_homeOf.cls = RX1 ∧ yX1_homeOf.cls ≠ "java/lang/invoke/MethodHandle" ∧ yX1_homeOf.cls ≠ "java/lang/invoke/VarHandle" ∧ (parseMethodDescriptor yX1_homeOf.desc).map (fun d => d.parameters.length) = some 2 := by decide +kernel
abbrev rmX1_setFilter : Room := { frames := 0, cells := 0, slots := 0, locals := 0 }
theorem qX1_setFilter : yX1_setFilter.cls = RX1 ∧ yX1_setFilter.cls ≠ "java/lang/invoke/MethodHandle" ∧ yX1_setFilter.cls ≠ "java/lang/invoke/VarHandle" ∧ (parseMethodDescriptor yX1_setFilter.desc).map (fun d => d.parameters.length) = some 2 := by decide +kernel
abbrev rmX1_topAt : Room := { frames := 2, cells := 0, slots := 0, locals := 44 }
theorem qX1_topAt : yX1_topAt.cls = RX1 ∧ yX1_topAt.cls ≠ "java/lang/invoke/MethodHandle" ∧ yX1_topAt.cls ≠ "java/lang/invoke/VarHandle" ∧ (parseMethodDescriptor yX1_topAt.desc).map (fun d => d.parameters.length) = some 1 := by decide +kernel
abbrev rmX1_open : Room := { frames := 3, cells := 0, slots := 0, locals := 65 }
theorem qX1_open : yX1_open.cls = RX1 ∧ yX1_open.cls ≠ "java/lang/invoke/MethodHandle" ∧ yX1_open.cls ≠ "java/lang/invoke/VarHandle" ∧ (parseMethodDescriptor yX1_open.desc).map (fun d => d.parameters.length) = some 1 := by decide +kernel
abbrev rmX1_passes : Room := { frames := 2, cells := 0, slots := 0, locals := 43 }
theorem qX1_passes : yX1_passes.cls = RX1 ∧ yX1_passes.cls ≠ "java/lang/invoke/MethodHandle" ∧ yX1_passes.cls ≠ "java/lang/invoke/VarHandle" ∧ (parseMethodDescriptor yX1_passes.desc).map (fun d => d.parameters.length) = some 1 := by decide +kernel
abbrev rmX1_raise : Room := { frames := 3, cells := 0, slots := 0, locals := 65 }
theorem qX1_raise : yX1_raise.cls = RX1 ∧ yX1_raise.cls ≠ "java/lang/invoke/MethodHandle" ∧ yX1_raise.cls ≠ "java/lang/invoke/VarHandle" ∧ (parseMethodDescriptor yX1_raise.desc).map (fun d => d.parameters.length) = some 1 := by decide +kernel
abbrev rmX2_enter : Room := { frames := 0, cells := 0, slots := 0, locals := 0 }
theorem qX2_enter : yX2_enter.cls = RX2 ∧ yX2_enter.cls ≠ "java/lang/invoke/MethodHandle" ∧ yX2_enter.cls ≠ "java/lang/invoke/VarHandle" ∧ (parseMethodDescriptor yX2_enter.desc).map (fun d => d.parameters.length) = some 2 := by decide +kernel
abbrev rmX2_measureOf : Room := { frames := 1, cells := 0, slots := 0, locals := 21 }
theorem qX2_measureOf : yX2_measureOf.cls = RX2 ∧ yX2_measureOf.cls ≠ "java/lang/invoke/MethodHandle" ∧ yX2_measureOf.cls ≠ "java/lang/invoke/VarHandle" ∧ (parseMethodDescriptor yX2_measureOf.desc).map (fun d => d.parameters.length) = some 1 := by decide +kernel
abbrev rmX2_strike : Room := { frames := 2, cells := 0, slots := 0, locals := 42 }
theorem qX2_strike : yX2_strike.cls = RX2 ∧ yX2_strike.cls ≠ "java/lang/invoke/MethodHandle" ∧ yX2_strike.cls ≠ "java/lang/invoke/VarHandle" ∧ (parseMethodDescriptor yX2_strike.desc).map (fun d => d.parameters.length) = some 1 := by decide +kernel
abbrev rmX3_at : Room := { frames := 0, cells := 0, slots := 0, locals := 0 }
theorem qX3_at : yX3_at.cls = RX3 ∧ yX3_at.cls ≠ "java/lang/invoke/MethodHandle" ∧ yX3_at.cls ≠ "java/lang/invoke/VarHandle" ∧ (parseMethodDescriptor yX3_at.desc).map (fun d => d.parameters.length) = some 1 := by decide +kernel
abbrev rmX4_canServe : Room := { frames := 2, cells := 0, slots := 0, locals := 42 }
theorem qX4_canServe : yX4_canServe.cls = RX4 ∧ yX4_canServe.cls ≠ "java/lang/invoke/MethodHandle" ∧ yX4_canServe.cls ≠ "java/lang/invoke/VarHandle" ∧ (parseMethodDescriptor yX4_canServe.desc).map (fun d => d.parameters.length) = some 2 := by decide +kernel
abbrev rmX4_keepOnlyFirst : Room := { frames := 0, cells := 0, slots := 0, locals := 0 }
theorem qX4_keepOnlyFirst : yX4_keepOnlyFirst.cls = RX4 ∧ yX4_keepOnlyFirst.cls ≠ "java/lang/invoke/MethodHandle" ∧ yX4_keepOnlyFirst.cls ≠ "java/lang/invoke/VarHandle" ∧ (parseMethodDescriptor yX4_keepOnlyFirst.desc).map (fun d => d.parameters.length) = some 0 := by decide +kernel
abbrev rmX4_mark : Room := { frames := 1, cells := 0, slots := 0, locals := 21 }
theorem qX4_mark : yX4_mark.cls = RX4 ∧ yX4_mark.cls ≠ "java/lang/invoke/MethodHandle" ∧ yX4_mark.cls ≠ "java/lang/invoke/VarHandle" ∧ (parseMethodDescriptor yX4_mark.desc).map (fun d => d.parameters.length) = some 2 := by decide +kernel
abbrev rmX4_worthMost : Room := { frames := 2, cells := 0, slots := 0, locals := 45 }
theorem qX4_worthMost : yX4_worthMost.cls = RX4 ∧ yX4_worthMost.cls ≠ "java/lang/invoke/MethodHandle" ∧ yX4_worthMost.cls ≠ "java/lang/invoke/VarHandle" ∧ (parseMethodDescriptor yX4_worthMost.desc).map (fun d => d.parameters.length) = some 0 := by decide +kernel
abbrev rmX4_chooseGreedily : Room := { frames := 5, cells := 0, slots := 0, locals := 113 }
theorem qX4_chooseGreedily : yX4_chooseGreedily.cls = RX4 ∧ yX4_chooseGreedily.cls ≠ "java/lang/invoke/MethodHandle" ∧ yX4_chooseGreedily.cls ≠ "java/lang/invoke/VarHandle" ∧ (parseMethodDescriptor yX4_chooseGreedily.desc).map (fun d => d.parameters.length) = some 1 := by decide +kernel
abbrev rmX4_serverOf : Room := { frames := 4, cells := 0, slots := 0, locals := 91 }
theorem qX4_serverOf : yX4_serverOf.cls = RX4 ∧ yX4_serverOf.cls ≠ "java/lang/invoke/MethodHandle" ∧ yX4_serverOf.cls ≠ "java/lang/invoke/VarHandle" ∧ (parseMethodDescriptor yX4_serverOf.desc).map (fun d => d.parameters.length) = some 1 := by decide +kernel
abbrev rmX4_costOf : Room := { frames := 5, cells := 0, slots := 0, locals := 114 }
theorem qX4_costOf : yX4_costOf.cls = RX4 ∧ yX4_costOf.cls ≠ "java/lang/invoke/MethodHandle" ∧ yX4_costOf.cls ≠ "java/lang/invoke/VarHandle" ∧ (parseMethodDescriptor yX4_costOf.desc).map (fun d => d.parameters.length) = some 1 := by decide +kernel
abbrev rmX4_forgetSizes : Room := { frames := 1, cells := 0, slots := 0, locals := 23 }
theorem qX4_forgetSizes : yX4_forgetSizes.cls = RX4 ∧ yX4_forgetSizes.cls ≠ "java/lang/invoke/MethodHandle" ∧ yX4_forgetSizes.cls ≠ "java/lang/invoke/VarHandle" ∧ (parseMethodDescriptor yX4_forgetSizes.desc).map (fun d => d.parameters.length) = some 0 := by decide +kernel
abbrev rmX4_isKept : Room := { frames := 1, cells := 0, slots := 0, locals := 21 }
theorem qX4_isKept : yX4_isKept.cls = RX4 ∧ yX4_isKept.cls ≠ "java/lang/invoke/MethodHandle" ∧ yX4_isKept.cls ≠ "java/lang/invoke/VarHandle" ∧ (parseMethodDescriptor yX4_isKept.desc).map (fun d => d.parameters.length) = some 1 := by decide +kernel
abbrev rmX4_gainOf : Room := { frames := 5, cells := 0, slots := 0, locals := 113 }
theorem qX4_gainOf : yX4_gainOf.cls = RX4 ∧ yX4_gainOf.cls ≠ "java/lang/invoke/MethodHandle" ∧ yX4_gainOf.cls ≠ "java/lang/invoke/VarHandle" ∧ (parseMethodDescriptor yX4_gainOf.desc).map (fun d => d.parameters.length) = some 1 := by decide +kernel
abbrev rmX4_groupAt : Room := { frames := 3, cells := 0, slots := 0, locals := 70 }
theorem qX4_groupAt : yX4_groupAt.cls = RX4 ∧ yX4_groupAt.cls ≠ "java/lang/invoke/MethodHandle" ∧ yX4_groupAt.cls ≠ "java/lang/invoke/VarHandle" ∧ (parseMethodDescriptor yX4_groupAt.desc).map (fun d => d.parameters.length) = some 2 := by decide +kernel
abbrev rmX4_keptCount : Room := { frames := 0, cells := 0, slots := 0, locals := 0 }
theorem qX4_keptCount : yX4_keptCount.cls = RX4 ∧ yX4_keptCount.cls ≠ "java/lang/invoke/MethodHandle" ∧ yX4_keptCount.cls ≠ "java/lang/invoke/VarHandle" ∧ (parseMethodDescriptor yX4_keptCount.desc).map (fun d => d.parameters.length) = some 0 := by decide +kernel
abbrev rmX4_keptGroups : Room := { frames := 4, cells := 0, slots := 0, locals := 91 }
theorem qX4_keptGroups : yX4_keptGroups.cls = RX4 ∧ yX4_keptGroups.cls ≠ "java/lang/invoke/MethodHandle" ∧ yX4_keptGroups.cls ≠ "java/lang/invoke/VarHandle" ∧ (parseMethodDescriptor yX4_keptGroups.desc).map (fun d => d.parameters.length) = some 0 := by decide +kernel
abbrev rmX6_cuboidCount : Room := { frames := 0, cells := 0, slots := 0, locals := 0 }
theorem qX6_cuboidCount : yX6_cuboidCount.cls = RX6 ∧ yX6_cuboidCount.cls ≠ "java/lang/invoke/MethodHandle" ∧ yX6_cuboidCount.cls ≠ "java/lang/invoke/VarHandle" ∧ (parseMethodDescriptor yX6_cuboidCount.desc).map (fun d => d.parameters.length) = some 0 := by decide +kernel
abbrev rmX6_levelsAfter : Room := { frames := 1, cells := 0, slots := 0, locals := 21 }
theorem qX6_levelsAfter : yX6_levelsAfter.cls = RX6 ∧ yX6_levelsAfter.cls ≠ "java/lang/invoke/MethodHandle" ∧ yX6_levelsAfter.cls ≠ "java/lang/invoke/VarHandle" ∧ (parseMethodDescriptor yX6_levelsAfter.desc).map (fun d => d.parameters.length) = some 1 := by decide +kernel
abbrev rmX4_rebuild : Room := { frames := 2, cells := 0, slots := 0, locals := 44 }
theorem qX4_rebuild : yX4_rebuild.cls = RX4 ∧ yX4_rebuild.cls ≠ "java/lang/invoke/MethodHandle" ∧ yX4_rebuild.cls ≠ "java/lang/invoke/VarHandle" ∧ (parseMethodDescriptor yX4_rebuild.desc).map (fun d => d.parameters.length) = some 0 := by decide +kernel
abbrev rmX5_byteAt : Room := { frames := 0, cells := 0, slots := 0, locals := 0 }
theorem qX5_byteAt : yX5_byteAt.cls = RX5 ∧ yX5_byteAt.cls ≠ "java/lang/invoke/MethodHandle" ∧ yX5_byteAt.cls ≠ "java/lang/invoke/VarHandle" ∧ (parseMethodDescriptor yX5_byteAt.desc).map (fun d => d.parameters.length) = some 1 := by decide +kernel
abbrev rmX5_clear : Room := { frames := 0, cells := 0, slots := 0, locals := 0 }
theorem qX5_clear : yX5_clear.cls = RX5 ∧ yX5_clear.cls ≠ "java/lang/invoke/MethodHandle" ∧ yX5_clear.cls ≠ "java/lang/invoke/VarHandle" ∧ (parseMethodDescriptor yX5_clear.desc).map (fun d => d.parameters.length) = some 0 := by decide +kernel
abbrev rmX5_put : Room := { frames := 0, cells := 0, slots := 0, locals := 0 }
theorem qX5_put : yX5_put.cls = RX5 ∧ yX5_put.cls ≠ "java/lang/invoke/MethodHandle" ∧ yX5_put.cls ≠ "java/lang/invoke/VarHandle" ∧ (parseMethodDescriptor yX5_put.desc).map (fun d => d.parameters.length) = some 1 := by decide +kernel
abbrev rmX5_putNumber : Room := { frames := 1, cells := 0, slots := 0, locals := 24 }
theorem qX5_putNumber : yX5_putNumber.cls = RX5 ∧ yX5_putNumber.cls ≠ "java/lang/invoke/MethodHandle" ∧ yX5_putNumber.cls ≠ "java/lang/invoke/VarHandle" ∧ (parseMethodDescriptor yX5_putNumber.desc).map (fun d => d.parameters.length) = some 1 := by decide +kernel
abbrev rmX6_find : Room := { frames := 0, cells := 0, slots := 0, locals := 0 }
theorem qX6_find : yX6_find.cls = RX6 ∧ yX6_find.cls ≠ "java/lang/invoke/MethodHandle" ∧ yX6_find.cls ≠ "java/lang/invoke/VarHandle" ∧ (parseMethodDescriptor yX6_find.desc).map (fun d => d.parameters.length) = some 1 := by decide +kernel
abbrev rmX6_homeIn : Room := { frames := 2, cells := 0, slots := 0, locals := 43 }
theorem qX6_homeIn : yX6_homeIn.cls = RX6 ∧ yX6_homeIn.cls ≠ "java/lang/invoke/MethodHandle" ∧ yX6_homeIn.cls ≠ "java/lang/invoke/VarHandle" ∧ (parseMethodDescriptor yX6_homeIn.desc).map (fun d => d.parameters.length) = some 3 := by decide +kernel
abbrev rmX6_inDecimals : Room := { frames := 1, cells := 0, slots := 0, locals := 22 }
theorem qX6_inDecimals : yX6_inDecimals.cls = RX6 ∧ yX6_inDecimals.cls ≠ "java/lang/invoke/MethodHandle" ∧ yX6_inDecimals.cls ≠ "java/lang/invoke/VarHandle" ∧ (parseMethodDescriptor yX6_inDecimals.desc).map (fun d => d.parameters.length) = some 1 := by decide +kernel
abbrev rmX6_open : Room := { frames := 4, cells := 0, slots := 0, locals := 86 }
theorem qX6_open : yX6_open.cls = RX6 ∧ yX6_open.cls ≠ "java/lang/invoke/MethodHandle" ∧ yX6_open.cls ≠ "java/lang/invoke/VarHandle" ∧ (parseMethodDescriptor yX6_open.desc).map (fun d => d.parameters.length) = some 1 := by decide +kernel
abbrev rmX6_pack : Room := { frames := 3, cells := 0, slots := 0, locals := 64 }
theorem qX6_pack : yX6_pack.cls = RX6 ∧ yX6_pack.cls ≠ "java/lang/invoke/MethodHandle" ∧ yX6_pack.cls ≠ "java/lang/invoke/VarHandle" ∧ (parseMethodDescriptor yX6_pack.desc).map (fun d => d.parameters.length) = some 2 := by decide +kernel
abbrev rmX6_passes : Room := { frames := 3, cells := 0, slots := 0, locals := 64 }
theorem qX6_passes : yX6_passes.cls = RX6 ∧ yX6_passes.cls ≠ "java/lang/invoke/MethodHandle" ∧ yX6_passes.cls ≠ "java/lang/invoke/VarHandle" ∧ (parseMethodDescriptor yX6_passes.desc).map (fun d => d.parameters.length) = some 1 := by decide +kernel
abbrev rmX7_isPlace : Room := { frames := 0, cells := 0, slots := 0, locals := 0 }
theorem qX7_isPlace : yX7_isPlace.cls ≠ "java/lang/invoke/MethodHandle" ∧ yX7_isPlace.cls ≠ "java/lang/invoke/VarHandle" ∧ (parseMethodDescriptor yX7_isPlace.desc).map (fun d => d.parameters.length) = some 1 := by decide +kernel
abbrev rmX7_add : Room := { frames := 1, cells := 0, slots := 0, locals := 24 }
theorem qX7_add : yX7_add.cls = RX7 ∧ yX7_add.cls ≠ "java/lang/invoke/MethodHandle" ∧ yX7_add.cls ≠ "java/lang/invoke/VarHandle" ∧ (parseMethodDescriptor yX7_add.desc).map (fun d => d.parameters.length) = some 2 := by decide +kernel
abbrev rmX7_placeOf : Room := { frames := 0, cells := 0, slots := 0, locals := 0 }
theorem qX7_placeOf : yX7_placeOf.cls ≠ "java/lang/invoke/MethodHandle" ∧ yX7_placeOf.cls ≠ "java/lang/invoke/VarHandle" ∧ (parseMethodDescriptor yX7_placeOf.desc).map (fun d => d.parameters.length) = some 2 := by decide +kernel
abbrev rmX7_addToCross : Room := { frames := 2, cells := 0, slots := 0, locals := 47 }
theorem qX7_addToCross : yX7_addToCross.cls = RX7 ∧ yX7_addToCross.cls ≠ "java/lang/invoke/MethodHandle" ∧ yX7_addToCross.cls ≠ "java/lang/invoke/VarHandle" ∧ (parseMethodDescriptor yX7_addToCross.desc).map (fun d => d.parameters.length) = some 3 := by decide +kernel
abbrev rmX7_clear : Room := { frames := 1, cells := 0, slots := 0, locals := 23 }
theorem qX7_clear : yX7_clear.cls = RX7 ∧ yX7_clear.cls ≠ "java/lang/invoke/MethodHandle" ∧ yX7_clear.cls ≠ "java/lang/invoke/VarHandle" ∧ (parseMethodDescriptor yX7_clear.desc).map (fun d => d.parameters.length) = some 0 := by decide +kernel
abbrev rmX7_isEmpty : Room := { frames := 1, cells := 0, slots := 0, locals := 20 }
theorem qX7_isEmpty : yX7_isEmpty.cls = RX7 ∧ yX7_isEmpty.cls ≠ "java/lang/invoke/MethodHandle" ∧ yX7_isEmpty.cls ≠ "java/lang/invoke/VarHandle" ∧ (parseMethodDescriptor yX7_isEmpty.desc).map (fun d => d.parameters.length) = some 1 := by decide +kernel
abbrev rmX7_valueOf : Room := { frames := 1, cells := 0, slots := 0, locals := 20 }
theorem qX7_valueOf : yX7_valueOf.cls = RX7 ∧ yX7_valueOf.cls ≠ "java/lang/invoke/MethodHandle" ∧ yX7_valueOf.cls ≠ "java/lang/invoke/VarHandle" ∧ (parseMethodDescriptor yX7_valueOf.desc).map (fun d => d.parameters.length) = some 2 := by decide +kernel
abbrev rmX8_isValue : Room := { frames := 0, cells := 0, slots := 0, locals := 0 }
theorem qX8_isValue : yX8_isValue.cls ≠ "java/lang/invoke/MethodHandle" ∧ yX8_isValue.cls ≠ "java/lang/invoke/VarHandle" ∧ (parseMethodDescriptor yX8_isValue.desc).map (fun d => d.parameters.length) = some 1 := by decide +kernel
abbrev rmX8_tallyGroup : Room := { frames := 2, cells := 0, slots := 0, locals := 47 }
theorem qX8_tallyGroup : yX8_tallyGroup.cls = RX8 ∧ yX8_tallyGroup.cls ≠ "java/lang/invoke/MethodHandle" ∧ yX8_tallyGroup.cls ≠ "java/lang/invoke/VarHandle" ∧ (parseMethodDescriptor yX8_tallyGroup.desc).map (fun d => d.parameters.length) = some 2 := by decide +kernel
abbrev rmX8_ask : Room := { frames := 6, cells := 0, slots := 0, locals := 135 }
theorem qX8_ask : yX8_ask.cls = RX8 ∧ yX8_ask.cls ≠ "java/lang/invoke/MethodHandle" ∧ yX8_ask.cls ≠ "java/lang/invoke/VarHandle" ∧ (parseMethodDescriptor yX8_ask.desc).map (fun d => d.parameters.length) = some 2 := by decide +kernel
abbrev rmX8_best : Room := { frames := 7, cells := 0, slots := 0, locals := 190 }
theorem qX8_best : yX8_best.cls = RX8 ∧ yX8_best.cls ≠ "java/lang/invoke/MethodHandle" ∧ yX8_best.cls ≠ "java/lang/invoke/VarHandle" ∧ (parseMethodDescriptor yX8_best.desc).map (fun d => d.parameters.length) = some 1 := by decide +kernel
abbrev rmX8_choose : Room := { frames := 6, cells := 0, slots := 0, locals := 138 }
theorem qX8_choose : yX8_choose.cls = RX8 ∧ yX8_choose.cls ≠ "java/lang/invoke/MethodHandle" ∧ yX8_choose.cls ≠ "java/lang/invoke/VarHandle" ∧ (parseMethodDescriptor yX8_choose.desc).map (fun d => d.parameters.length) = some 1 := by decide +kernel
abbrev rmX8_cost : Room := { frames := 6, cells := 0, slots := 0, locals := 135 }
theorem qX8_cost : yX8_cost.cls = RX8 ∧ yX8_cost.cls ≠ "java/lang/invoke/MethodHandle" ∧ yX8_cost.cls ≠ "java/lang/invoke/VarHandle" ∧ (parseMethodDescriptor yX8_cost.desc).map (fun d => d.parameters.length) = some 1 := by decide +kernel
abbrev rmX8_count : Room := { frames := 5, cells := 0, slots := 0, locals := 113 }
theorem qX8_count : yX8_count.cls = RX8 ∧ yX8_count.cls ≠ "java/lang/invoke/MethodHandle" ∧ yX8_count.cls ≠ "java/lang/invoke/VarHandle" ∧ (parseMethodDescriptor yX8_count.desc).map (fun d => d.parameters.length) = some 1 := by decide +kernel
abbrev rmX8_cuboids : Room := { frames := 0, cells := 0, slots := 0, locals := 0 }
theorem qX8_cuboids : yX8_cuboids.cls = RX8 ∧ yX8_cuboids.cls ≠ "java/lang/invoke/MethodHandle" ∧ yX8_cuboids.cls ≠ "java/lang/invoke/VarHandle" ∧ (parseMethodDescriptor yX8_cuboids.desc).map (fun d => d.parameters.length) = some 0 := by decide +kernel
abbrev rmX8_dimension : Room := { frames := 5, cells := 0, slots := 0, locals := 108 }
theorem qX8_dimension : yX8_dimension.cls = RX8 ∧ yX8_dimension.cls ≠ "java/lang/invoke/MethodHandle" ∧ yX8_dimension.cls ≠ "java/lang/invoke/VarHandle" ∧ (parseMethodDescriptor yX8_dimension.desc).map (fun d => d.parameters.length) = some 1 := by decide +kernel
abbrev rmX8_drop : Room := { frames := 3, cells := 0, slots := 0, locals := 63 }
theorem qX8_drop : yX8_drop.cls = RX8 ∧ yX8_drop.cls ≠ "java/lang/invoke/MethodHandle" ∧ yX8_drop.cls ≠ "java/lang/invoke/VarHandle" ∧ (parseMethodDescriptor yX8_drop.desc).map (fun d => d.parameters.length) = some 1 := by decide +kernel
abbrev rmX8_fact : Room := { frames := 4, cells := 0, slots := 0, locals := 88 }
theorem qX8_fact : yX8_fact.cls = RX8 ∧ yX8_fact.cls ≠ "java/lang/invoke/MethodHandle" ∧ yX8_fact.cls ≠ "java/lang/invoke/VarHandle" ∧ (parseMethodDescriptor yX8_fact.desc).map (fun d => d.parameters.length) = some 1 := by decide +kernel
abbrev rmX8_filter : Room := { frames := 3, cells := 0, slots := 0, locals := 64 }
theorem qX8_filter : yX8_filter.cls = RX8 ∧ yX8_filter.cls ≠ "java/lang/invoke/MethodHandle" ∧ yX8_filter.cls ≠ "java/lang/invoke/VarHandle" ∧ (parseMethodDescriptor yX8_filter.desc).map (fun d => d.parameters.length) = some 3 := by decide +kernel
abbrev rmX8_gain : Room := { frames := 6, cells := 0, slots := 0, locals := 135 }
theorem qX8_gain : yX8_gain.cls = RX8 ∧ yX8_gain.cls ≠ "java/lang/invoke/MethodHandle" ∧ yX8_gain.cls ≠ "java/lang/invoke/VarHandle" ∧ (parseMethodDescriptor yX8_gain.desc).map (fun d => d.parameters.length) = some 1 := by decide +kernel
abbrev rmX8_group : Room := { frames := 4, cells := 0, slots := 0, locals := 92 }
theorem qX8_group : yX8_group.cls = RX8 ∧ yX8_group.cls ≠ "java/lang/invoke/MethodHandle" ∧ yX8_group.cls ≠ "java/lang/invoke/VarHandle" ∧ (parseMethodDescriptor yX8_group.desc).map (fun d => d.parameters.length) = some 2 := by decide +kernel
abbrev rmX8_homeOnSide : Room := { frames := 3, cells := 0, slots := 0, locals := 67 }
theorem qX8_homeOnSide : yX8_homeOnSide.cls = RX8 ∧ yX8_homeOnSide.cls ≠ "java/lang/invoke/MethodHandle" ∧ yX8_homeOnSide.cls ≠ "java/lang/invoke/VarHandle" ∧ (parseMethodDescriptor yX8_homeOnSide.desc).map (fun d => d.parameters.length) = some 2 := by decide +kernel
abbrev rmX8_isInSight : Room := { frames := 4, cells := 0, slots := 0, locals := 86 }
theorem qX8_isInSight : yX8_isInSight.cls = RX8 ∧ yX8_isInSight.cls ≠ "java/lang/invoke/MethodHandle" ∧ yX8_isInSight.cls ≠ "java/lang/invoke/VarHandle" ∧ (parseMethodDescriptor yX8_isInSight.desc).map (fun d => d.parameters.length) = some 1 := by decide +kernel
abbrev rmX8_keep : Room := { frames := 2, cells := 0, slots := 0, locals := 43 }
theorem qX8_keep : yX8_keep.cls = RX8 ∧ yX8_keep.cls ≠ "java/lang/invoke/MethodHandle" ∧ yX8_keep.cls ≠ "java/lang/invoke/VarHandle" ∧ (parseMethodDescriptor yX8_keep.desc).map (fun d => d.parameters.length) = some 2 := by decide +kernel
abbrev rmX8_kept : Room := { frames := 2, cells := 0, slots := 0, locals := 42 }
theorem qX8_kept : yX8_kept.cls = RX8 ∧ yX8_kept.cls ≠ "java/lang/invoke/MethodHandle" ∧ yX8_kept.cls ≠ "java/lang/invoke/VarHandle" ∧ (parseMethodDescriptor yX8_kept.desc).map (fun d => d.parameters.length) = some 1 := by decide +kernel
abbrev rmX8_level : Room := { frames := 4, cells := 0, slots := 0, locals := 87 }
theorem qX8_level : yX8_level.cls = RX8 ∧ yX8_level.cls ≠ "java/lang/invoke/MethodHandle" ∧ yX8_level.cls ≠ "java/lang/invoke/VarHandle" ∧ (parseMethodDescriptor yX8_level.desc).map (fun d => d.parameters.length) = some 2 := by decide +kernel
abbrev rmX8_levelOf : Room := { frames := 2, cells := 0, slots := 0, locals := 42 }
theorem qX8_levelOf : yX8_levelOf.cls = RX8 ∧ yX8_levelOf.cls ≠ "java/lang/invoke/MethodHandle" ∧ yX8_levelOf.cls ≠ "java/lang/invoke/VarHandle" ∧ (parseMethodDescriptor yX8_levelOf.desc).map (fun d => d.parameters.length) = some 2 := by decide +kernel
abbrev rmX8_lies : Room := { frames := 3, cells := 0, slots := 0, locals := 64 }
theorem qX8_lies : yX8_lies.cls = RX8 ∧ yX8_lies.cls ≠ "java/lang/invoke/MethodHandle" ∧ yX8_lies.cls ≠ "java/lang/invoke/VarHandle" ∧ (parseMethodDescriptor yX8_lies.desc).map (fun d => d.parameters.length) = some 3 := by decide +kernel
abbrev rmX8_members : Room := { frames := 2, cells := 0, slots := 0, locals := 42 }
theorem qX8_members : yX8_members.cls = RX8 ∧ yX8_members.cls ≠ "java/lang/invoke/MethodHandle" ∧ yX8_members.cls ≠ "java/lang/invoke/VarHandle" ∧ (parseMethodDescriptor yX8_members.desc).map (fun d => d.parameters.length) = some 2 := by decide +kernel
abbrev rmX8_out : Room := { frames := 1, cells := 0, slots := 0, locals := 21 }
theorem qX8_out : yX8_out.cls = RX8 ∧ yX8_out.cls ≠ "java/lang/invoke/MethodHandle" ∧ yX8_out.cls ≠ "java/lang/invoke/VarHandle" ∧ (parseMethodDescriptor yX8_out.desc).map (fun d => d.parameters.length) = some 1 := by decide +kernel
abbrev rmX8_parent : Room := { frames := 3, cells := 0, slots := 0, locals := 69 }
theorem qX8_parent : yX8_parent.cls = RX8 ∧ yX8_parent.cls ≠ "java/lang/invoke/MethodHandle" ∧ yX8_parent.cls ≠ "java/lang/invoke/VarHandle" ∧ (parseMethodDescriptor yX8_parent.desc).map (fun d => d.parameters.length) = some 4 := by decide +kernel
abbrev rmX8_pick : Room := { frames := 0, cells := 0, slots := 0, locals := 0 }
theorem qX8_pick : yX8_pick.cls = RX8 ∧ yX8_pick.cls ≠ "java/lang/invoke/MethodHandle" ∧ yX8_pick.cls ≠ "java/lang/invoke/VarHandle" ∧ (parseMethodDescriptor yX8_pick.desc).map (fun d => d.parameters.length) = some 2 := by decide +kernel
abbrev rmX8_read : Room := { frames := 0, cells := 0, slots := 0, locals := 0 }
theorem qX8_read : yX8_read.cls = RX8 ∧ yX8_read.cls ≠ "java/lang/invoke/MethodHandle" ∧ yX8_read.cls ≠ "java/lang/invoke/VarHandle" ∧ (parseMethodDescriptor yX8_read.desc).map (fun d => d.parameters.length) = some 0 := by decide +kernel
abbrev rmX8_server : Room := { frames := 5, cells := 0, slots := 0, locals := 114 }
theorem qX8_server : yX8_server.cls = RX8 ∧ yX8_server.cls ≠ "java/lang/invoke/MethodHandle" ∧ yX8_server.cls ≠ "java/lang/invoke/VarHandle" ∧ (parseMethodDescriptor yX8_server.desc).map (fun d => d.parameters.length) = some 1 := by decide +kernel
abbrev rmX8_serves : Room := { frames := 3, cells := 0, slots := 0, locals := 64 }
theorem qX8_serves : yX8_serves.cls = RX8 ∧ yX8_serves.cls ≠ "java/lang/invoke/MethodHandle" ∧ yX8_serves.cls ≠ "java/lang/invoke/VarHandle" ∧ (parseMethodDescriptor yX8_serves.desc).map (fun d => d.parameters.length) = some 2 := by decide +kernel
abbrev rmX8_sideOf : Room := { frames := 1, cells := 0, slots := 0, locals := 21 }
theorem qX8_sideOf : yX8_sideOf.cls = RX8 ∧ yX8_sideOf.cls ≠ "java/lang/invoke/MethodHandle" ∧ yX8_sideOf.cls ≠ "java/lang/invoke/VarHandle" ∧ (parseMethodDescriptor yX8_sideOf.desc).map (fun d => d.parameters.length) = some 1 := by decide +kernel
abbrev rmX8_size : Room := { frames := 4, cells := 0, slots := 0, locals := 91 }
theorem qX8_size : yX8_size.cls = RX8 ∧ yX8_size.cls ≠ "java/lang/invoke/MethodHandle" ∧ yX8_size.cls ≠ "java/lang/invoke/VarHandle" ∧ (parseMethodDescriptor yX8_size.desc).map (fun d => d.parameters.length) = some 1 := by decide +kernel
abbrev rmX8_tallyTable : Room := { frames := 5, cells := 0, slots := 0, locals := 107 }
theorem qX8_tallyTable : yX8_tallyTable.cls = RX8 ∧ yX8_tallyTable.cls ≠ "java/lang/invoke/MethodHandle" ∧ yX8_tallyTable.cls ≠ "java/lang/invoke/VarHandle" ∧ (parseMethodDescriptor yX8_tallyTable.desc).map (fun d => d.parameters.length) = some 2 := by decide +kernel
abbrev rmX8_writeCell : Room := { frames := 2, cells := 0, slots := 0, locals := 49 }
theorem qX8_writeCell : yX8_writeCell.cls = RX8 ∧ yX8_writeCell.cls ≠ "java/lang/invoke/MethodHandle" ∧ yX8_writeCell.cls ≠ "java/lang/invoke/VarHandle" ∧ (parseMethodDescriptor yX8_writeCell.desc).map (fun d => d.parameters.length) = some 2 := by decide +kernel
abbrev rmX8_writeTable : Room := { frames := 3, cells := 0, slots := 0, locals := 71 }
theorem qX8_writeTable : yX8_writeTable.cls = RX8 ∧ yX8_writeTable.cls ≠ "java/lang/invoke/MethodHandle" ∧ yX8_writeTable.cls ≠ "java/lang/invoke/VarHandle" ∧ (parseMethodDescriptor yX8_writeTable.desc).map (fun d => d.parameters.length) = some 3 := by decide +kernel
abbrev rmX8_table : Room := { frames := 6, cells := 0, slots := 0, locals := 132 }
theorem qX8_table : yX8_table.cls = RX8 ∧ yX8_table.cls ≠ "java/lang/invoke/MethodHandle" ∧ yX8_table.cls ≠ "java/lang/invoke/VarHandle" ∧ (parseMethodDescriptor yX8_table.desc).map (fun d => d.parameters.length) = some 3 := by decide +kernel
abbrev rmX8_total : Room := { frames := 5, cells := 0, slots := 0, locals := 107 }
theorem qX8_total : yX8_total.cls = RX8 ∧ yX8_total.cls ≠ "java/lang/invoke/MethodHandle" ∧ yX8_total.cls ≠ "java/lang/invoke/VarHandle" ∧ (parseMethodDescriptor yX8_total.desc).map (fun d => d.parameters.length) = some 1 := by decide +kernel
abbrev rmX9_add : Room := { frames := 0, cells := 0, slots := 0, locals := 0 }
theorem qX9_add : yX9_add.cls = RX9 ∧ yX9_add.cls ≠ "java/lang/invoke/MethodHandle" ∧ yX9_add.cls ≠ "java/lang/invoke/VarHandle" ∧ (parseMethodDescriptor yX9_add.desc).map (fun d => d.parameters.length) = some 1 := by decide +kernel
abbrev rmX9_all : Room := { frames := 0, cells := 0, slots := 0, locals := 0 }
theorem qX9_all : yX9_all.cls = RX9 ∧ yX9_all.cls ≠ "java/lang/invoke/MethodHandle" ∧ yX9_all.cls ≠ "java/lang/invoke/VarHandle" ∧ (parseMethodDescriptor yX9_all.desc).map (fun d => d.parameters.length) = some 0 := by decide +kernel
abbrev rmX9_begin : Room := { frames := 0, cells := 0, slots := 0, locals := 0 }
theorem qX9_begin : yX9_begin.cls = RX9 ∧ yX9_begin.cls ≠ "java/lang/invoke/MethodHandle" ∧ yX9_begin.cls ≠ "java/lang/invoke/VarHandle" ∧ (parseMethodDescriptor yX9_begin.desc).map (fun d => d.parameters.length) = some 0 := by decide +kernel
abbrev rmX9_in : Room := { frames := 0, cells := 0, slots := 0, locals := 0 }
theorem qX9_in : yX9_in.cls ≠ "java/lang/invoke/MethodHandle" ∧ yX9_in.cls ≠ "java/lang/invoke/VarHandle" ∧ (parseMethodDescriptor yX9_in.desc).map (fun d => d.parameters.length) = some 3 := by decide +kernel
abbrev rmX9_isCuboid : Room := { frames := 1, cells := 0, slots := 0, locals := 22 }
theorem qX9_isCuboid : yX9_isCuboid.cls = RX9 ∧ yX9_isCuboid.cls ≠ "java/lang/invoke/MethodHandle" ∧ yX9_isCuboid.cls ≠ "java/lang/invoke/VarHandle" ∧ (parseMethodDescriptor yX9_isCuboid.desc).map (fun d => d.parameters.length) = some 1 := by decide +kernel
abbrev rmX9_levelIn : Room := { frames := 0, cells := 0, slots := 0, locals := 0 }
theorem qX9_levelIn : yX9_levelIn.cls = RX9 ∧ yX9_levelIn.cls ≠ "java/lang/invoke/MethodHandle" ∧ yX9_levelIn.cls ≠ "java/lang/invoke/VarHandle" ∧ (parseMethodDescriptor yX9_levelIn.desc).map (fun d => d.parameters.length) = some 2 := by decide +kernel
abbrev rmX9_liesIn : Room := { frames := 0, cells := 0, slots := 0, locals := 0 }
theorem qX9_liesIn : yX9_liesIn.cls = RX9 ∧ yX9_liesIn.cls ≠ "java/lang/invoke/MethodHandle" ∧ yX9_liesIn.cls ≠ "java/lang/invoke/VarHandle" ∧ (parseMethodDescriptor yX9_liesIn.desc).map (fun d => d.parameters.length) = some 3 := by decide +kernel
abbrev rmX9_many : Room := { frames := 0, cells := 0, slots := 0, locals := 0 }
theorem qX9_many : yX9_many.cls = RX9 ∧ yX9_many.cls ≠ "java/lang/invoke/MethodHandle" ∧ yX9_many.cls ≠ "java/lang/invoke/VarHandle" ∧ (parseMethodDescriptor yX9_many.desc).map (fun d => d.parameters.length) = some 2 := by decide +kernel
abbrev rmX9_servesIt : Room := { frames := 1, cells := 0, slots := 0, locals := 24 }
theorem qX9_servesIt : yX9_servesIt.cls = RX9 ∧ yX9_servesIt.cls ≠ "java/lang/invoke/MethodHandle" ∧ yX9_servesIt.cls ≠ "java/lang/invoke/VarHandle" ∧ (parseMethodDescriptor yX9_servesIt.desc).map (fun d => d.parameters.length) = some 2 := by decide +kernel
abbrev rmX9_findGroups : Room := { frames := 1, cells := 0, slots := 0, locals := 25 }
theorem qX9_findGroups : yX9_findGroups.cls = RX9 ∧ yX9_findGroups.cls ≠ "java/lang/invoke/MethodHandle" ∧ yX9_findGroups.cls ≠ "java/lang/invoke/VarHandle" ∧ (parseMethodDescriptor yX9_findGroups.desc).map (fun d => d.parameters.length) = some 1 := by decide +kernel
abbrev rmX9_sizeOf : Room := { frames := 2, cells := 0, slots := 0, locals := 49 }
theorem qX9_sizeOf : yX9_sizeOf.cls = RX9 ∧ yX9_sizeOf.cls ≠ "java/lang/invoke/MethodHandle" ∧ yX9_sizeOf.cls ≠ "java/lang/invoke/VarHandle" ∧ (parseMethodDescriptor yX9_sizeOf.desc).map (fun d => d.parameters.length) = some 1 := by decide +kernel
abbrev rmX9_measure : Room := { frames := 3, cells := 0, slots := 0, locals := 72 }
theorem qX9_measure : yX9_measure.cls = RX9 ∧ yX9_measure.cls ≠ "java/lang/invoke/MethodHandle" ∧ yX9_measure.cls ≠ "java/lang/invoke/VarHandle" ∧ (parseMethodDescriptor yX9_measure.desc).map (fun d => d.parameters.length) = some 0 := by decide +kernel
abbrev rmX9_serverOf : Room := { frames := 1, cells := 0, slots := 0, locals := 22 }
theorem qX9_serverOf : yX9_serverOf.cls = RX9 ∧ yX9_serverOf.cls ≠ "java/lang/invoke/MethodHandle" ∧ yX9_serverOf.cls ≠ "java/lang/invoke/VarHandle" ∧ (parseMethodDescriptor yX9_serverOf.desc).map (fun d => d.parameters.length) = some 1 := by decide +kernel
abbrev rmX9_value : Room := { frames := 0, cells := 0, slots := 0, locals := 0 }
theorem qX9_value : yX9_value.cls = RX9 ∧ yX9_value.cls ≠ "java/lang/invoke/MethodHandle" ∧ yX9_value.cls ≠ "java/lang/invoke/VarHandle" ∧ (parseMethodDescriptor yX9_value.desc).map (fun d => d.parameters.length) = some 1 := by decide +kernel
abbrev rmX9_ask : Room := { frames := 4, cells := 0, slots := 0, locals := 95 }
theorem qX9_ask : yX9_ask.cls = RX9 ∧ yX9_ask.cls ≠ "java/lang/invoke/MethodHandle" ∧ yX9_ask.cls ≠ "java/lang/invoke/VarHandle" ∧ (parseMethodDescriptor yX9_ask.desc).map (fun d => d.parameters.length) = some 2 := by decide +kernel
abbrev rmX9_together : Room := { frames := 1, cells := 0, slots := 0, locals := 22 }
theorem qX9_together : yX9_together.cls = RX9 ∧ yX9_together.cls ≠ "java/lang/invoke/MethodHandle" ∧ yX9_together.cls ≠ "java/lang/invoke/VarHandle" ∧ (parseMethodDescriptor yX9_together.desc).map (fun d => d.parameters.length) = some 3 := by decide +kernel
abbrev rmX9_best : Room := { frames := 4, cells := 0, slots := 0, locals := 95 }
theorem qX9_best : yX9_best.cls = RX9 ∧ yX9_best.cls ≠ "java/lang/invoke/MethodHandle" ∧ yX9_best.cls ≠ "java/lang/invoke/VarHandle" ∧ (parseMethodDescriptor yX9_best.desc).map (fun d => d.parameters.length) = some 1 := by decide +kernel
abbrev rmX9_passes : Room := { frames := 1, cells := 0, slots := 0, locals := 25 }
theorem qX9_passes : yX9_passes.cls = RX9 ∧ yX9_passes.cls ≠ "java/lang/invoke/MethodHandle" ∧ yX9_passes.cls ≠ "java/lang/invoke/VarHandle" ∧ (parseMethodDescriptor yX9_passes.desc).map (fun d => d.parameters.length) = some 1 := by decide +kernel
abbrev rmX9_say : Room := { frames := 0, cells := 0, slots := 0, locals := 0 }
theorem qX9_say : yX9_say.cls = RX9 ∧ yX9_say.cls ≠ "java/lang/invoke/MethodHandle" ∧ yX9_say.cls ≠ "java/lang/invoke/VarHandle" ∧ (parseMethodDescriptor yX9_say.desc).map (fun d => d.parameters.length) = some 1 := by decide +kernel
abbrev rmX9_sayNumber : Room := { frames := 1, cells := 0, slots := 0, locals := 21 }
theorem qX9_sayNumber : yX9_sayNumber.cls = RX9 ∧ yX9_sayNumber.cls ≠ "java/lang/invoke/MethodHandle" ∧ yX9_sayNumber.cls ≠ "java/lang/invoke/VarHandle" ∧ (parseMethodDescriptor yX9_sayNumber.desc).map (fun d => d.parameters.length) = some 1 := by decide +kernel
abbrev rmX9_cell : Room := { frames := 2, cells := 0, slots := 0, locals := 48 }
theorem qX9_cell : yX9_cell.cls = RX9 ∧ yX9_cell.cls ≠ "java/lang/invoke/MethodHandle" ∧ yX9_cell.cls ≠ "java/lang/invoke/VarHandle" ∧ (parseMethodDescriptor yX9_cell.desc).map (fun d => d.parameters.length) = some 7 := by decide +kernel
abbrev rmX9_findCosts : Room := { frames := 2, cells := 0, slots := 0, locals := 45 }
theorem qX9_findCosts : yX9_findCosts.cls = RX9 ∧ yX9_findCosts.cls ≠ "java/lang/invoke/MethodHandle" ∧ yX9_findCosts.cls ≠ "java/lang/invoke/VarHandle" ∧ (parseMethodDescriptor yX9_findCosts.desc).map (fun d => d.parameters.length) = some 0 := by decide +kernel
abbrev rmX9_gainOf : Room := { frames := 1, cells := 0, slots := 0, locals := 22 }
theorem qX9_gainOf : yX9_gainOf.cls = RX9 ∧ yX9_gainOf.cls ≠ "java/lang/invoke/MethodHandle" ∧ yX9_gainOf.cls ≠ "java/lang/invoke/VarHandle" ∧ (parseMethodDescriptor yX9_gainOf.desc).map (fun d => d.parameters.length) = some 1 := by decide +kernel
abbrev rmX9_keepNone : Room := { frames := 0, cells := 0, slots := 0, locals := 0 }
theorem qX9_keepNone : yX9_keepNone.cls = RX9 ∧ yX9_keepNone.cls ≠ "java/lang/invoke/MethodHandle" ∧ yX9_keepNone.cls ≠ "java/lang/invoke/VarHandle" ∧ (parseMethodDescriptor yX9_keepNone.desc).map (fun d => d.parameters.length) = some 0 := by decide +kernel
abbrev rmX9_choose : Room := { frames := 4, cells := 0, slots := 0, locals := 95 }
theorem qX9_choose : yX9_choose.cls = RX9 ∧ yX9_choose.cls ≠ "java/lang/invoke/MethodHandle" ∧ yX9_choose.cls ≠ "java/lang/invoke/VarHandle" ∧ (parseMethodDescriptor yX9_choose.desc).map (fun d => d.parameters.length) = some 1 := by decide +kernel
abbrev rmX9_cost : Room := { frames := 4, cells := 0, slots := 0, locals := 95 }
theorem qX9_cost : yX9_cost.cls = RX9 ∧ yX9_cost.cls ≠ "java/lang/invoke/MethodHandle" ∧ yX9_cost.cls ≠ "java/lang/invoke/VarHandle" ∧ (parseMethodDescriptor yX9_cost.desc).map (fun d => d.parameters.length) = some 1 := by decide +kernel
abbrev rmX9_thereMany : Room := { frames := 0, cells := 0, slots := 0, locals := 0 }
theorem qX9_thereMany : yX9_thereMany.cls = RX9 ∧ yX9_thereMany.cls ≠ "java/lang/invoke/MethodHandle" ∧ yX9_thereMany.cls ≠ "java/lang/invoke/VarHandle" ∧ (parseMethodDescriptor yX9_thereMany.desc).map (fun d => d.parameters.length) = some 0 := by decide +kernel
abbrev rmX9_count : Room := { frames := 3, cells := 0, slots := 0, locals := 72 }
theorem qX9_count : yX9_count.cls = RX9 ∧ yX9_count.cls ≠ "java/lang/invoke/MethodHandle" ∧ yX9_count.cls ≠ "java/lang/invoke/VarHandle" ∧ (parseMethodDescriptor yX9_count.desc).map (fun d => d.parameters.length) = some 1 := by decide +kernel
abbrev rmX9_cuboids : Room := { frames := 1, cells := 0, slots := 0, locals := 22 }
theorem qX9_cuboids : yX9_cuboids.cls = RX9 ∧ yX9_cuboids.cls ≠ "java/lang/invoke/MethodHandle" ∧ yX9_cuboids.cls ≠ "java/lang/invoke/VarHandle" ∧ (parseMethodDescriptor yX9_cuboids.desc).map (fun d => d.parameters.length) = some 0 := by decide +kernel
abbrev rmX9_dimension : Room := { frames := 1, cells := 0, slots := 0, locals := 22 }
theorem qX9_dimension : yX9_dimension.cls = RX9 ∧ yX9_dimension.cls ≠ "java/lang/invoke/MethodHandle" ∧ yX9_dimension.cls ≠ "java/lang/invoke/VarHandle" ∧ (parseMethodDescriptor yX9_dimension.desc).map (fun d => d.parameters.length) = some 1 := by decide +kernel
abbrev rmX9_drop : Room := { frames := 1, cells := 0, slots := 0, locals := 22 }
theorem qX9_drop : yX9_drop.cls = RX9 ∧ yX9_drop.cls ≠ "java/lang/invoke/MethodHandle" ∧ yX9_drop.cls ≠ "java/lang/invoke/VarHandle" ∧ (parseMethodDescriptor yX9_drop.desc).map (fun d => d.parameters.length) = some 1 := by decide +kernel
abbrev rmX9_fact : Room := { frames := 1, cells := 0, slots := 0, locals := 22 }
theorem qX9_fact : yX9_fact.cls = RX9 ∧ yX9_fact.cls ≠ "java/lang/invoke/MethodHandle" ∧ yX9_fact.cls ≠ "java/lang/invoke/VarHandle" ∧ (parseMethodDescriptor yX9_fact.desc).map (fun d => d.parameters.length) = some 1 := by decide +kernel
abbrev rmX9_isDimension : Room := { frames := 1, cells := 0, slots := 0, locals := 22 }
theorem qX9_isDimension : yX9_isDimension.cls = RX9 ∧ yX9_isDimension.cls ≠ "java/lang/invoke/MethodHandle" ∧ yX9_isDimension.cls ≠ "java/lang/invoke/VarHandle" ∧ (parseMethodDescriptor yX9_isDimension.desc).map (fun d => d.parameters.length) = some 1 := by decide +kernel
abbrev rmX9_filter : Room := { frames := 2, cells := 0, slots := 0, locals := 43 }
theorem qX9_filter : yX9_filter.cls = RX9 ∧ yX9_filter.cls ≠ "java/lang/invoke/MethodHandle" ∧ yX9_filter.cls ≠ "java/lang/invoke/VarHandle" ∧ (parseMethodDescriptor yX9_filter.desc).map (fun d => d.parameters.length) = some 3 := by decide +kernel
abbrev rmX9_gain : Room := { frames := 4, cells := 0, slots := 0, locals := 95 }
theorem qX9_gain : yX9_gain.cls = RX9 ∧ yX9_gain.cls ≠ "java/lang/invoke/MethodHandle" ∧ yX9_gain.cls ≠ "java/lang/invoke/VarHandle" ∧ (parseMethodDescriptor yX9_gain.desc).map (fun d => d.parameters.length) = some 1 := by decide +kernel
abbrev rmX9_group : Room := { frames := 2, cells := 0, slots := 0, locals := 49 }
theorem qX9_group : yX9_group.cls = RX9 ∧ yX9_group.cls ≠ "java/lang/invoke/MethodHandle" ∧ yX9_group.cls ≠ "java/lang/invoke/VarHandle" ∧ (parseMethodDescriptor yX9_group.desc).map (fun d => d.parameters.length) = some 2 := by decide +kernel
abbrev rmX9_isSide : Room := { frames := 2, cells := 0, slots := 0, locals := 43 }
theorem qX9_isSide : yX9_isSide.cls = RX9 ∧ yX9_isSide.cls ≠ "java/lang/invoke/MethodHandle" ∧ yX9_isSide.cls ≠ "java/lang/invoke/VarHandle" ∧ (parseMethodDescriptor yX9_isSide.desc).map (fun d => d.parameters.length) = some 1 := by decide +kernel
abbrev rmX9_keep : Room := { frames := 2, cells := 0, slots := 0, locals := 43 }
theorem qX9_keep : yX9_keep.cls = RX9 ∧ yX9_keep.cls ≠ "java/lang/invoke/MethodHandle" ∧ yX9_keep.cls ≠ "java/lang/invoke/VarHandle" ∧ (parseMethodDescriptor yX9_keep.desc).map (fun d => d.parameters.length) = some 2 := by decide +kernel
abbrev rmX9_kept : Room := { frames := 2, cells := 0, slots := 0, locals := 43 }
theorem qX9_kept : yX9_kept.cls = RX9 ∧ yX9_kept.cls ≠ "java/lang/invoke/MethodHandle" ∧ yX9_kept.cls ≠ "java/lang/invoke/VarHandle" ∧ (parseMethodDescriptor yX9_kept.desc).map (fun d => d.parameters.length) = some 1 := by decide +kernel
abbrev rmX9_level : Room := { frames := 2, cells := 0, slots := 0, locals := 43 }
theorem qX9_level : yX9_level.cls = RX9 ∧ yX9_level.cls ≠ "java/lang/invoke/MethodHandle" ∧ yX9_level.cls ≠ "java/lang/invoke/VarHandle" ∧ (parseMethodDescriptor yX9_level.desc).map (fun d => d.parameters.length) = some 2 := by decide +kernel
abbrev rmX9_levelOf : Room := { frames := 2, cells := 0, slots := 0, locals := 43 }
theorem qX9_levelOf : yX9_levelOf.cls = RX9 ∧ yX9_levelOf.cls ≠ "java/lang/invoke/MethodHandle" ∧ yX9_levelOf.cls ≠ "java/lang/invoke/VarHandle" ∧ (parseMethodDescriptor yX9_levelOf.desc).map (fun d => d.parameters.length) = some 2 := by decide +kernel
abbrev rmX9_lies : Room := { frames := 2, cells := 0, slots := 0, locals := 43 }
theorem qX9_lies : yX9_lies.cls = RX9 ∧ yX9_lies.cls ≠ "java/lang/invoke/MethodHandle" ∧ yX9_lies.cls ≠ "java/lang/invoke/VarHandle" ∧ (parseMethodDescriptor yX9_lies.desc).map (fun d => d.parameters.length) = some 3 := by decide +kernel
abbrev rmX9_members : Room := { frames := 2, cells := 0, slots := 0, locals := 43 }
theorem qX9_members : yX9_members.cls = RX9 ∧ yX9_members.cls ≠ "java/lang/invoke/MethodHandle" ∧ yX9_members.cls ≠ "java/lang/invoke/VarHandle" ∧ (parseMethodDescriptor yX9_members.desc).map (fun d => d.parameters.length) = some 2 := by decide +kernel
abbrev rmX9_out : Room := { frames := 1, cells := 0, slots := 0, locals := 22 }
theorem qX9_out : yX9_out.cls = RX9 ∧ yX9_out.cls ≠ "java/lang/invoke/MethodHandle" ∧ yX9_out.cls ≠ "java/lang/invoke/VarHandle" ∧ (parseMethodDescriptor yX9_out.desc).map (fun d => d.parameters.length) = some 1 := by decide +kernel
abbrev rmX9_parent : Room := { frames := 2, cells := 0, slots := 0, locals := 43 }
theorem qX9_parent : yX9_parent.cls = RX9 ∧ yX9_parent.cls ≠ "java/lang/invoke/MethodHandle" ∧ yX9_parent.cls ≠ "java/lang/invoke/VarHandle" ∧ (parseMethodDescriptor yX9_parent.desc).map (fun d => d.parameters.length) = some 4 := by decide +kernel
abbrev rmX9_pick : Room := { frames := 1, cells := 0, slots := 0, locals := 22 }
theorem qX9_pick : yX9_pick.cls = RX9 ∧ yX9_pick.cls ≠ "java/lang/invoke/MethodHandle" ∧ yX9_pick.cls ≠ "java/lang/invoke/VarHandle" ∧ (parseMethodDescriptor yX9_pick.desc).map (fun d => d.parameters.length) = some 2 := by decide +kernel
abbrev rmX9_read : Room := { frames := 0, cells := 0, slots := 0, locals := 0 }
theorem qX9_read : yX9_read.cls = RX9 ∧ yX9_read.cls ≠ "java/lang/invoke/MethodHandle" ∧ yX9_read.cls ≠ "java/lang/invoke/VarHandle" ∧ (parseMethodDescriptor yX9_read.desc).map (fun d => d.parameters.length) = some 0 := by decide +kernel
abbrev rmX9_server : Room := { frames := 4, cells := 0, slots := 0, locals := 95 }
theorem qX9_server : yX9_server.cls = RX9 ∧ yX9_server.cls ≠ "java/lang/invoke/MethodHandle" ∧ yX9_server.cls ≠ "java/lang/invoke/VarHandle" ∧ (parseMethodDescriptor yX9_server.desc).map (fun d => d.parameters.length) = some 1 := by decide +kernel
abbrev rmX9_serves : Room := { frames := 2, cells := 0, slots := 0, locals := 48 }
theorem qX9_serves : yX9_serves.cls = RX9 ∧ yX9_serves.cls ≠ "java/lang/invoke/MethodHandle" ∧ yX9_serves.cls ≠ "java/lang/invoke/VarHandle" ∧ (parseMethodDescriptor yX9_serves.desc).map (fun d => d.parameters.length) = some 2 := by decide +kernel
abbrev rmX9_size : Room := { frames := 3, cells := 0, slots := 0, locals := 72 }
theorem qX9_size : yX9_size.cls = RX9 ∧ yX9_size.cls ≠ "java/lang/invoke/MethodHandle" ∧ yX9_size.cls ≠ "java/lang/invoke/VarHandle" ∧ (parseMethodDescriptor yX9_size.desc).map (fun d => d.parameters.length) = some 1 := by decide +kernel
abbrev rmX9_table : Room := { frames := 3, cells := 0, slots := 0, locals := 77 }
theorem qX9_table : yX9_table.cls = RX9 ∧ yX9_table.cls ≠ "java/lang/invoke/MethodHandle" ∧ yX9_table.cls ≠ "java/lang/invoke/VarHandle" ∧ (parseMethodDescriptor yX9_table.desc).map (fun d => d.parameters.length) = some 3 := by decide +kernel
abbrev rmX9_total : Room := { frames := 2, cells := 0, slots := 0, locals := 48 }
theorem qX9_total : yX9_total.cls = RX9 ∧ yX9_total.cls ≠ "java/lang/invoke/MethodHandle" ∧ yX9_total.cls ≠ "java/lang/invoke/VarHandle" ∧ (parseMethodDescriptor yX9_total.desc).map (fun d => d.parameters.length) = some 1 := by decide +kernel

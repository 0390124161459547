/-! the same of the law, in pieces -/
set_option maxRecDepth 100000 in
theorem kL_0 : ((List.range 50).all fun pc => chk 8 false 4 code (0 + pc) (mkT 1121 tL_law (0 + pc))) = true := by decide +kernel
set_option maxRecDepth 100000 in
theorem kL_1 : ((List.range 50).all fun pc => chk 8 false 4 code (50 + pc) (mkT 1121 tL_law (50 + pc))) = true := by decide +kernel
set_option maxRecDepth 100000 in
theorem kL_2 : ((List.range 50).all fun pc => chk 8 false 4 code (100 + pc) (mkT 1121 tL_law (100 + pc))) = true := by decide +kernel
set_option maxRecDepth 100000 in
theorem kL_3 : ((List.range 50).all fun pc => chk 8 false 4 code (150 + pc) (mkT 1121 tL_law (150 + pc))) = true := by decide +kernel
set_option maxRecDepth 100000 in
theorem kL_4 : ((List.range 50).all fun pc => chk 8 false 4 code (200 + pc) (mkT 1121 tL_law (200 + pc))) = true := by decide +kernel
set_option maxRecDepth 100000 in
theorem kL_5 : ((List.range 50).all fun pc => chk 8 false 4 code (250 + pc) (mkT 1121 tL_law (250 + pc))) = true := by decide +kernel
set_option maxRecDepth 100000 in
theorem kL_6 : ((List.range 50).all fun pc => chk 8 false 4 code (300 + pc) (mkT 1121 tL_law (300 + pc))) = true := by decide +kernel
set_option maxRecDepth 100000 in
theorem kL_7 : ((List.range 50).all fun pc => chk 8 false 4 code (350 + pc) (mkT 1121 tL_law (350 + pc))) = true := by decide +kernel
set_option maxRecDepth 100000 in
theorem kL_8 : ((List.range 50).all fun pc => chk 8 false 4 code (400 + pc) (mkT 1121 tL_law (400 + pc))) = true := by decide +kernel
set_option maxRecDepth 100000 in
theorem kL_9 : ((List.range 50).all fun pc => chk 8 false 4 code (450 + pc) (mkT 1121 tL_law (450 + pc))) = true := by decide +kernel
set_option maxRecDepth 100000 in
theorem kL_10 : ((List.range 50).all fun pc => chk 8 false 4 code (500 + pc) (mkT 1121 tL_law (500 + pc))) = true := by decide +kernel
set_option maxRecDepth 100000 in
theorem kL_11 : ((List.range 50).all fun pc => chk 8 false 4 code (550 + pc) (mkT 1121 tL_law (550 + pc))) = true := by decide +kernel
set_option maxRecDepth 100000 in
theorem kL_12 : ((List.range 50).all fun pc => chk 8 false 4 code (600 + pc) (mkT 1121 tL_law (600 + pc))) = true := by decide +kernel
set_option maxRecDepth 100000 in
theorem kL_13 : ((List.range 50).all fun pc => chk 8 false 4 code (650 + pc) (mkT 1121 tL_law (650 + pc))) = true := by decide +kernel
set_option maxRecDepth 100000 in
theorem kL_14 : ((List.range 50).all fun pc => chk 8 false 4 code (700 + pc) (mkT 1121 tL_law (700 + pc))) = true := by decide +kernel
set_option maxRecDepth 100000 in
theorem kL_15 : ((List.range 50).all fun pc => chk 8 false 4 code (750 + pc) (mkT 1121 tL_law (750 + pc))) = true := by decide +kernel
set_option maxRecDepth 100000 in
theorem kL_16 : ((List.range 50).all fun pc => chk 8 false 4 code (800 + pc) (mkT 1121 tL_law (800 + pc))) = true := by decide +kernel
set_option maxRecDepth 100000 in
theorem kL_17 : ((List.range 50).all fun pc => chk 8 false 4 code (850 + pc) (mkT 1121 tL_law (850 + pc))) = true := by decide +kernel
set_option maxRecDepth 100000 in
theorem kL_18 : ((List.range 50).all fun pc => chk 8 false 4 code (900 + pc) (mkT 1121 tL_law (900 + pc))) = true := by decide +kernel
set_option maxRecDepth 100000 in
theorem kL_19 : ((List.range 50).all fun pc => chk 8 false 4 code (950 + pc) (mkT 1121 tL_law (950 + pc))) = true := by decide +kernel
set_option maxRecDepth 100000 in
theorem kL_20 : ((List.range 50).all fun pc => chk 8 false 4 code (1000 + pc) (mkT 1121 tL_law (1000 + pc))) = true := by decide +kernel
set_option maxRecDepth 100000 in
theorem kL_21 : ((List.range 50).all fun pc => chk 8 false 4 code (1050 + pc) (mkT 1121 tL_law (1050 + pc))) = true := by decide +kernel
set_option maxRecDepth 100000 in
theorem kL_22 : ((List.range 50).all fun pc => chk 8 false 4 code (1100 + pc) (mkT 1121 tL_law (1100 + pc))) = true := by decide +kernel
theorem kL_at (pc : Nat) : chk 8 false 4 code pc (mkT 1121 tL_law pc) = true := by
  by_cases hb : 1121 ≤ pc
  · unfold mkT
    rw [Nat.ble_eq_true_of_le hb]
    rfl
  · have hm : pc % 50 < 50 := Nat.mod_lt _ (by decide)
    have hq : pc / 50 < 23 := by omega
    have e : pc = 50 * (pc / 50) + pc % 50 := (Nat.div_add_mod pc 50).symm
    generalize pc / 50 = a at hq e
    generalize pc % 50 = b at hm e
    subst e
    match a, hq with
    | 0, _ => exact List.all_eq_true.mp kL_0 b (List.mem_range.mpr hm)
    | 1, _ => exact List.all_eq_true.mp kL_1 b (List.mem_range.mpr hm)
    | 2, _ => exact List.all_eq_true.mp kL_2 b (List.mem_range.mpr hm)
    | 3, _ => exact List.all_eq_true.mp kL_3 b (List.mem_range.mpr hm)
    | 4, _ => exact List.all_eq_true.mp kL_4 b (List.mem_range.mpr hm)
    | 5, _ => exact List.all_eq_true.mp kL_5 b (List.mem_range.mpr hm)
    | 6, _ => exact List.all_eq_true.mp kL_6 b (List.mem_range.mpr hm)
    | 7, _ => exact List.all_eq_true.mp kL_7 b (List.mem_range.mpr hm)
    | 8, _ => exact List.all_eq_true.mp kL_8 b (List.mem_range.mpr hm)
    | 9, _ => exact List.all_eq_true.mp kL_9 b (List.mem_range.mpr hm)
    | 10, _ => exact List.all_eq_true.mp kL_10 b (List.mem_range.mpr hm)
    | 11, _ => exact List.all_eq_true.mp kL_11 b (List.mem_range.mpr hm)
    | 12, _ => exact List.all_eq_true.mp kL_12 b (List.mem_range.mpr hm)
    | 13, _ => exact List.all_eq_true.mp kL_13 b (List.mem_range.mpr hm)
    | 14, _ => exact List.all_eq_true.mp kL_14 b (List.mem_range.mpr hm)
    | 15, _ => exact List.all_eq_true.mp kL_15 b (List.mem_range.mpr hm)
    | 16, _ => exact List.all_eq_true.mp kL_16 b (List.mem_range.mpr hm)
    | 17, _ => exact List.all_eq_true.mp kL_17 b (List.mem_range.mpr hm)
    | 18, _ => exact List.all_eq_true.mp kL_18 b (List.mem_range.mpr hm)
    | 19, _ => exact List.all_eq_true.mp kL_19 b (List.mem_range.mpr hm)
    | 20, _ => exact List.all_eq_true.mp kL_20 b (List.mem_range.mpr hm)
    | 21, _ => exact List.all_eq_true.mp kL_21 b (List.mem_range.mpr hm)
    | 22, _ => exact List.all_eq_true.mp kL_22 b (List.mem_range.mpr hm)
    | a + 23, h => omega

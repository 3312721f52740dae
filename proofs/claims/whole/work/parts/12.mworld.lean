/-! ===== the model: its world ===== -/
def fsM (E : Ev) (M : Mem) : List Value := [.ref (em E 1), .ref (em E 2), .ref (em E 3), .ref (em E 4), .ref (em E 5), .int (M.1 9 5), .int (M.1 9 6), .int (M.1 9 7), .int (M.1 9 8), .long (M.2 2 9), .int (M.1 9 10), .int (M.1 9 11), .ref (em E 6), .ref (em E 7), .ref (em E 8), .ref (em E 9), .ref (em E 10), .ref (em E 11), .int (M.1 9 18)]
def Wm (E : Ev) (M : Mem) : va_W := [(em E 0, .inr (12, fsM E M)), (em E 1, .inl (eA E 0, 48, .inl (M.1 0))), (em E 2, .inl (eA E 0, 7, .inl (M.1 1))), (em E 3, .inl (eA E 0, 48, .inl (M.1 2))), (em E 4, .inl (eA E 0, 48, .inl (M.1 3))), (em E 5, .inl (eA E 0, 120, .inl (M.1 4))), (em E 6, .inl (eA E 0, 4, .inl (M.1 5))), (em E 7, .inl (eA E 0, 4, .inl (M.1 6))), (em E 8, .inl (eA E 1, 160, .inr (.inl (M.2 0)))), (em E 9, .inl (eA E 1, 40, .inr (.inl (M.2 1)))), (em E 10, .inl (eA E 0, 48, .inl (M.1 7))), (em E 11, .inl (eA E 0, 48, .inl (M.1 8)))]
theorem wmp_5 (E : Ev) (M : Mem) (v : Int32) : (Wm E M).set 0 (em E 0, .inr (12, (fsM E M).set 5 (.int v))) = Wm E (sI M 9 5 v) := rfl
theorem wmp_6 (E : Ev) (M : Mem) (v : Int32) : (Wm E M).set 0 (em E 0, .inr (12, (fsM E M).set 6 (.int v))) = Wm E (sI M 9 6 v) := rfl
theorem wmp_7 (E : Ev) (M : Mem) (v : Int32) : (Wm E M).set 0 (em E 0, .inr (12, (fsM E M).set 7 (.int v))) = Wm E (sI M 9 7 v) := rfl
theorem wmp_8 (E : Ev) (M : Mem) (v : Int32) : (Wm E M).set 0 (em E 0, .inr (12, (fsM E M).set 8 (.int v))) = Wm E (sI M 9 8 v) := rfl
theorem wmp_10 (E : Ev) (M : Mem) (v : Int32) : (Wm E M).set 0 (em E 0, .inr (12, (fsM E M).set 10 (.int v))) = Wm E (sI M 9 10 v) := rfl
theorem wmp_11 (E : Ev) (M : Mem) (v : Int32) : (Wm E M).set 0 (em E 0, .inr (12, (fsM E M).set 11 (.int v))) = Wm E (sI M 9 11 v) := rfl
theorem wmp_18 (E : Ev) (M : Mem) (v : Int32) : (Wm E M).set 0 (em E 0, .inr (12, (fsM E M).set 18 (.int v))) = Wm E (sI M 9 18 v) := rfl
theorem wmp_9 (E : Ev) (M : Mem) (v : Int64) : (Wm E M).set 0 (em E 0, .inr (12, (fsM E M).set 9 (.long v))) = Wm E (sJ M 2 9 v) := rfl
theorem wma_0 (E : Ev) (M : Mem) (i : Nat) (v : Int32) : (Wm E M).set 1 (em E 1, .inl (eA E 0, 48, .inl (upd (M.1 0) i v))) = Wm E (sI M 0 i v) := rfl
theorem wma_1 (E : Ev) (M : Mem) (i : Nat) (v : Int32) : (Wm E M).set 2 (em E 2, .inl (eA E 0, 7, .inl (upd (M.1 1) i v))) = Wm E (sI M 1 i v) := rfl
theorem wma_2 (E : Ev) (M : Mem) (i : Nat) (v : Int32) : (Wm E M).set 3 (em E 3, .inl (eA E 0, 48, .inl (upd (M.1 2) i v))) = Wm E (sI M 2 i v) := rfl
theorem wma_3 (E : Ev) (M : Mem) (i : Nat) (v : Int32) : (Wm E M).set 4 (em E 4, .inl (eA E 0, 48, .inl (upd (M.1 3) i v))) = Wm E (sI M 3 i v) := rfl
theorem wma_4 (E : Ev) (M : Mem) (i : Nat) (v : Int32) : (Wm E M).set 5 (em E 5, .inl (eA E 0, 120, .inl (upd (M.1 4) i v))) = Wm E (sI M 4 i v) := rfl
theorem wma_5 (E : Ev) (M : Mem) (i : Nat) (v : Int32) : (Wm E M).set 6 (em E 6, .inl (eA E 0, 4, .inl (upd (M.1 5) i v))) = Wm E (sI M 5 i v) := rfl
theorem wma_6 (E : Ev) (M : Mem) (i : Nat) (v : Int32) : (Wm E M).set 7 (em E 7, .inl (eA E 0, 4, .inl (upd (M.1 6) i v))) = Wm E (sI M 6 i v) := rfl
theorem wml_0 (E : Ev) (M : Mem) (i : Nat) (v : Int64) : (Wm E M).set 8 (em E 8, .inl (eA E 1, 160, .inr (.inl (vp_updL (M.2 0) i v)))) = Wm E (sJ M 0 i v) := rfl
theorem wml_1 (E : Ev) (M : Mem) (i : Nat) (v : Int64) : (Wm E M).set 9 (em E 9, .inl (eA E 1, 40, .inr (.inl (vp_updL (M.2 1) i v)))) = Wm E (sJ M 1 i v) := rfl
theorem wma_7 (E : Ev) (M : Mem) (i : Nat) (v : Int32) : (Wm E M).set 10 (em E 10, .inl (eA E 0, 48, .inl (upd (M.1 7) i v))) = Wm E (sI M 7 i v) := rfl
theorem wma_8 (E : Ev) (M : Mem) (i : Nat) (v : Int32) : (Wm E M).set 11 (em E 11, .inl (eA E 0, 48, .inl (upd (M.1 8) i v))) = Wm E (sI M 8 i v) := rfl
theorem ic_0 : Int32.ofInt (0) = (0 : Int32) := by decide
theorem ic_1 : Int32.ofInt (1) = (1 : Int32) := by decide
theorem bp_6 : (Int8.ofInt (6)).toInt32 = (6 : Int32) := by decide
theorem bp_7 : (Int8.ofInt (7)).toInt32 = (7 : Int32) := by decide
theorem ic_5 : Int32.ofInt (5) = (5 : Int32) := by decide
theorem vi_5_48 : vp_in (5 : Int32) 48 := by unfold vp_in; decide
theorem cl_5 : ((5 : Int32)).toNatClampNeg = 5 := by decide
theorem bp_9 : (Int8.ofInt (9)).toInt32 = (9 : Int32) := by decide
theorem ii_1 (x : Int32) : x + Int32.ofInt (1) = x + (1 : Int32) := by rw [show Int32.ofInt (1) = (1 : Int32) by decide]
theorem vi_0_48 : vp_in (0 : Int32) 48 := by unfold vp_in; decide
theorem cl_0 : ((0 : Int32)).toNatClampNeg = 0 := by decide
theorem bp_12 : (Int8.ofInt (12)).toInt32 = (12 : Int32) := by decide
theorem ic_3 : Int32.ofInt (3) = (3 : Int32) := by decide
theorem vi_3_48 : vp_in (3 : Int32) 48 := by unfold vp_in; decide
theorem cl_3 : ((3 : Int32)).toNatClampNeg = 3 := by decide
theorem bp_10 : (Int8.ofInt (10)).toInt32 = (10 : Int32) := by decide
theorem vi_1_48 : vp_in (1 : Int32) 48 := by unfold vp_in; decide
theorem cl_1 : ((1 : Int32)).toNatClampNeg = 1 := by decide
theorem ic_2 : Int32.ofInt (2) = (2 : Int32) := by decide
theorem vi_2_48 : vp_in (2 : Int32) 48 := by unfold vp_in; decide
theorem cl_2 : ((2 : Int32)).toNatClampNeg = 2 := by decide
theorem bp_19 : (Int8.ofInt (19)).toInt32 = (19 : Int32) := by decide
theorem sp_4095 : (Int16.ofInt (4095)).toInt32 = (4095 : Int32) := by decide
theorem ic_4 : Int32.ofInt (4) = (4 : Int32) := by decide
theorem vi_4_48 : vp_in (4 : Int32) 48 := by unfold vp_in; decide
theorem cl_4 : ((4 : Int32)).toNatClampNeg = 4 := by decide
theorem ic_m1 : Int32.ofInt (-1) = (-1 : Int32) := by decide
theorem bp_99 : (Int8.ofInt (99)).toInt32 = (99 : Int32) := by decide
theorem bp_11 : (Int8.ofInt (11)).toInt32 = (11 : Int32) := by decide
theorem bp_100 : (Int8.ofInt (100)).toInt32 = (100 : Int32) := by decide
theorem sp_9999 : (Int16.ofInt (9999)).toInt32 = (9999 : Int32) := by decide
theorem bp_20 : (Int8.ofInt (20)).toInt32 = (20 : Int32) := by decide
theorem ii_m1 (x : Int32) : x + Int32.ofInt (-1) = x + (-1 : Int32) := by rw [show Int32.ofInt (-1) = (-1 : Int32) by decide]
theorem bp_48 : (Int8.ofInt (48)).toInt32 = (48 : Int32) := by decide
theorem bp_101 : (Int8.ofInt (101)).toInt32 = (101 : Int32) := by decide
theorem bp_60 : (Int8.ofInt (60)).toInt32 = (60 : Int32) := by decide
theorem bp_40 : (Int8.ofInt (40)).toInt32 = (40 : Int32) := by decide
theorem sp_200 : (Int16.ofInt (200)).toInt32 = (200 : Int32) := by decide
theorem bp_120 : (Int8.ofInt (120)).toInt32 = (120 : Int32) := by decide
theorem bp_8 : (Int8.ofInt (8)).toInt32 = (8 : Int32) := by decide
theorem sp_255 : (Int16.ofInt (255)).toInt32 = (255 : Int32) := by decide
theorem bp_97 : (Int8.ofInt (97)).toInt32 = (97 : Int32) := by decide
theorem bp_122 : (Int8.ofInt (122)).toInt32 = (122 : Int32) := by decide
theorem bp_57 : (Int8.ofInt (57)).toInt32 = (57 : Int32) := by decide
theorem bp_32 : (Int8.ofInt (32)).toInt32 = (32 : Int32) := by decide
theorem sp_999 : (Int16.ofInt (999)).toInt32 = (999 : Int32) := by decide
theorem sp_10000 : (Int16.ofInt (10000)).toInt32 = (10000 : Int32) := by decide
theorem bp_59 : (Int8.ofInt (59)).toInt32 = (59 : Int32) := by decide
theorem bp_16 : (Int8.ofInt (16)).toInt32 = (16 : Int32) := by decide
theorem bp_56 : (Int8.ofInt (56)).toInt32 = (56 : Int32) := by decide
theorem bp_64 : (Int8.ofInt (64)).toInt32 = (64 : Int32) := by decide
theorem vi_0_7 : vp_in (0 : Int32) 7 := by unfold vp_in; decide
theorem fX12_13 : FLd RX12 13 12 RX12 TX12 19 1 := ⟨rfl, ig12, by decide, gw_of 928 (by decide +kernel) (by decide +kernel)⟩
theorem oX12_44 : Cond.constant RX12 44 (-1000000001 : Int32) ∈ gw := gw_of 995 (by decide +kernel) (by decide +kernel)
theorem fX12_7 : FLd RX12 7 12 RX12 TX12 19 0 := ⟨rfl, ig12, by decide, gw_of 927 (by decide +kernel) (by decide +kernel)⟩
theorem kX12_in : KS yX12_in cX12_in 3 (some .boolean) 3 := ⟨gw_of 990 (by decide +kernel) (by decide +kernel), gw_of 74 (by decide +kernel) (by decide +kernel), gw_of 991 (by decide +kernel) (by decide +kernel), by decide, by decide, by decide +kernel⟩
theorem lX12_45 : Cond.methodLink RX12 45 yX12_in ∈ gw := gw_of 989 (by decide +kernel) (by decide +kernel)
theorem kX12_finds : KV yX12_finds cX12_finds 2 (some .int) 1 := ⟨gw_of 998 (by decide +kernel) (by decide +kernel), gw_of 21 (by decide +kernel) (by decide +kernel), gw_of 74 (by decide +kernel) (by decide +kernel), gw_of 999 (by decide +kernel) (by decide +kernel), by decide, by decide, by decide +kernel⟩
theorem lX12_53 : Cond.methodLink RX12 53 yX12_finds ∈ gw := gw_of 996 (by decide +kernel) (by decide +kernel)
theorem kX12_isRow : KS yX12_isRow cX12_isRow 1 (some .boolean) 1 := ⟨gw_of 993 (by decide +kernel) (by decide +kernel), gw_of 74 (by decide +kernel) (by decide +kernel), gw_of 994 (by decide +kernel) (by decide +kernel), by decide, by decide, by decide +kernel⟩
theorem lX12_49 : Cond.methodLink RX12 49 yX12_isRow ∈ gw := gw_of 992 (by decide +kernel) (by decide +kernel)
theorem kX12_place : KV yX12_place cX12_place 1 (some .int) 0 := ⟨gw_of 1002 (by decide +kernel) (by decide +kernel), gw_of 22 (by decide +kernel) (by decide +kernel), gw_of 74 (by decide +kernel) (by decide +kernel), gw_of 1003 (by decide +kernel) (by decide +kernel), by decide, by decide, by decide +kernel⟩
theorem lX12_57 : Cond.methodLink RX12 57 yX12_place ∈ gw := gw_of 1000 (by decide +kernel) (by decide +kernel)
theorem kX12_stands : KV yX12_stands cX12_stands 2 none 1 := ⟨gw_of 1006 (by decide +kernel) (by decide +kernel), gw_of 23 (by decide +kernel) (by decide +kernel), gw_of 74 (by decide +kernel) (by decide +kernel), gw_of 1007 (by decide +kernel) (by decide +kernel), by decide, by decide, by decide +kernel⟩
theorem lX12_61 : Cond.methodLink RX12 61 yX12_stands ∈ gw := gw_of 1004 (by decide +kernel) (by decide +kernel)
theorem kX12_becomes : KV yX12_becomes cX12_becomes 4 (some .int) 2 := ⟨gw_of 1014 (by decide +kernel) (by decide +kernel), gw_of 24 (by decide +kernel) (by decide +kernel), gw_of 74 (by decide +kernel) (by decide +kernel), gw_of 1015 (by decide +kernel) (by decide +kernel), by decide, by decide, by decide +kernel⟩
theorem lX12_65 : Cond.methodLink RX12 65 yX12_becomes ∈ gw := gw_of 1012 (by decide +kernel) (by decide +kernel)
theorem kX12_its : KV yX12_its cX12_its 3 (some .int) 2 := ⟨gw_of 1038 (by decide +kernel) (by decide +kernel), gw_of 28 (by decide +kernel) (by decide +kernel), gw_of 74 (by decide +kernel) (by decide +kernel), gw_of 1039 (by decide +kernel) (by decide +kernel), by decide, by decide, by decide +kernel⟩
theorem lX12_69 : Cond.methodLink RX12 69 yX12_its ∈ gw := gw_of 1036 (by decide +kernel) (by decide +kernel)
theorem kX12_isNight : KV yX12_isNight cX12_isNight 1 (some .boolean) 0 := ⟨gw_of 1026 (by decide +kernel) (by decide +kernel), gw_of 25 (by decide +kernel) (by decide +kernel), gw_of 74 (by decide +kernel) (by decide +kernel), gw_of 1027 (by decide +kernel) (by decide +kernel), by decide, by decide, by decide +kernel⟩
theorem lX12_72 : Cond.methodLink RX12 72 yX12_isNight ∈ gw := gw_of 1024 (by decide +kernel) (by decide +kernel)
theorem kX12_isBurning : KV yX12_isBurning cX12_isBurning 1 (some .boolean) 0 := ⟨gw_of 1030 (by decide +kernel) (by decide +kernel), gw_of 26 (by decide +kernel) (by decide +kernel), gw_of 74 (by decide +kernel) (by decide +kernel), gw_of 1031 (by decide +kernel) (by decide +kernel), by decide, by decide, by decide +kernel⟩
theorem lX12_76 : Cond.methodLink RX12 76 yX12_isBurning ∈ gw := gw_of 1028 (by decide +kernel) (by decide +kernel)
theorem kX12_setOf : KV yX12_setOf cX12_setOf 4 (some .int) 1 := ⟨gw_of 1034 (by decide +kernel) (by decide +kernel), gw_of 27 (by decide +kernel) (by decide +kernel), gw_of 74 (by decide +kernel) (by decide +kernel), gw_of 1035 (by decide +kernel) (by decide +kernel), by decide, by decide, by decide +kernel⟩
theorem lX12_79 : Cond.methodLink RX12 79 yX12_setOf ∈ gw := gw_of 1032 (by decide +kernel) (by decide +kernel)
theorem kX12_apart : KS yX12_apart cX12_apart 2 (some .int) 2 := ⟨gw_of 1069 (by decide +kernel) (by decide +kernel), gw_of 74 (by decide +kernel) (by decide +kernel), gw_of 1070 (by decide +kernel) (by decide +kernel), by decide, by decide, by decide +kernel⟩
theorem lX12_82 : Cond.methodLink RX12 82 yX12_apart ∈ gw := gw_of 1068 (by decide +kernel) (by decide +kernel)
theorem kX12_distance : KV yX12_distance cX12_distance 4 (some .int) 1 := ⟨gw_of 1066 (by decide +kernel) (by decide +kernel), gw_of 32 (by decide +kernel) (by decide +kernel), gw_of 74 (by decide +kernel) (by decide +kernel), gw_of 1067 (by decide +kernel) (by decide +kernel), by decide, by decide, by decide +kernel⟩
theorem lX12_85 : Cond.methodLink RX12 85 yX12_distance ∈ gw := gw_of 1064 (by decide +kernel) (by decide +kernel)
theorem kX12_puts : KV yX12_puts cX12_puts 4 none 3 := ⟨gw_of 1054 (by decide +kernel) (by decide +kernel), gw_of 30 (by decide +kernel) (by decide +kernel), gw_of 74 (by decide +kernel) (by decide +kernel), gw_of 1055 (by decide +kernel) (by decide +kernel), by decide, by decide, by decide +kernel⟩
theorem lX12_88 : Cond.methodLink RX12 88 yX12_puts ∈ gw := gw_of 1052 (by decide +kernel) (by decide +kernel)
theorem kX12_isKind : KS yX12_isKind cX12_isKind 1 (some .boolean) 1 := ⟨gw_of 1045 (by decide +kernel) (by decide +kernel), gw_of 74 (by decide +kernel) (by decide +kernel), gw_of 1046 (by decide +kernel) (by decide +kernel), by decide, by decide, by decide +kernel⟩
theorem lX12_92 : Cond.methodLink RX12 92 yX12_isKind ∈ gw := gw_of 1044 (by decide +kernel) (by decide +kernel)
theorem kX12_adds : KV yX12_adds cX12_adds 5 none 3 := ⟨gw_of 1050 (by decide +kernel) (by decide +kernel), gw_of 29 (by decide +kernel) (by decide +kernel), gw_of 74 (by decide +kernel) (by decide +kernel), gw_of 1051 (by decide +kernel) (by decide +kernel), by decide, by decide, by decide +kernel⟩
theorem lX12_96 : Cond.methodLink RX12 96 yX12_adds ∈ gw := gw_of 1048 (by decide +kernel) (by decide +kernel)
theorem oX12_95 : Cond.constant RX12 95 (-1000000002 : Int32) ∈ gw := gw_of 1047 (by decide +kernel) (by decide +kernel)
theorem kX12_isOne : KV yX12_isOne cX12_isOne 2 (some .boolean) 1 := ⟨gw_of 1062 (by decide +kernel) (by decide +kernel), gw_of 31 (by decide +kernel) (by decide +kernel), gw_of 74 (by decide +kernel) (by decide +kernel), gw_of 1063 (by decide +kernel) (by decide +kernel), by decide, by decide, by decide +kernel⟩
theorem lX12_99 : Cond.methodLink RX12 99 yX12_isOne ∈ gw := gw_of 1060 (by decide +kernel) (by decide +kernel)
theorem kX12_isSeeing : KV yX12_isSeeing cX12_isSeeing 5 (some .boolean) 1 := ⟨gw_of 1073 (by decide +kernel) (by decide +kernel), gw_of 33 (by decide +kernel) (by decide +kernel), gw_of 74 (by decide +kernel) (by decide +kernel), gw_of 1074 (by decide +kernel) (by decide +kernel), by decide, by decide, by decide +kernel⟩
theorem lX12_102 : Cond.methodLink RX12 102 yX12_isSeeing ∈ gw := gw_of 1071 (by decide +kernel) (by decide +kernel)
theorem kX12_speed : KV yX12_speed cX12_speed 2 (some .int) 1 := ⟨gw_of 1077 (by decide +kernel) (by decide +kernel), gw_of 34 (by decide +kernel) (by decide +kernel), gw_of 74 (by decide +kernel) (by decide +kernel), gw_of 1078 (by decide +kernel) (by decide +kernel), by decide, by decide, by decide +kernel⟩
theorem lX12_105 : Cond.methodLink RX12 105 yX12_speed ∈ gw := gw_of 1075 (by decide +kernel) (by decide +kernel)
theorem kX12_keepsOff : KV yX12_keepsOff cX12_keepsOff 2 (some .int) 1 := ⟨gw_of 1081 (by decide +kernel) (by decide +kernel), gw_of 35 (by decide +kernel) (by decide +kernel), gw_of 74 (by decide +kernel) (by decide +kernel), gw_of 1082 (by decide +kernel) (by decide +kernel), by decide, by decide, by decide +kernel⟩
theorem lX12_108 : Cond.methodLink RX12 108 yX12_keepsOff ∈ gw := gw_of 1079 (by decide +kernel) (by decide +kernel)
theorem kX12_isStanding : KV yX12_isStanding cX12_isStanding 4 (some .boolean) 1 := ⟨gw_of 1085 (by decide +kernel) (by decide +kernel), gw_of 36 (by decide +kernel) (by decide +kernel), gw_of 74 (by decide +kernel) (by decide +kernel), gw_of 1086 (by decide +kernel) (by decide +kernel), by decide, by decide, by decide +kernel⟩
theorem lX12_111 : Cond.methodLink RX12 111 yX12_isStanding ∈ gw := gw_of 1083 (by decide +kernel) (by decide +kernel)
theorem kX12_isPart : KS yX12_isPart cX12_isPart 2 (some .boolean) 2 := ⟨gw_of 1092 (by decide +kernel) (by decide +kernel), gw_of 74 (by decide +kernel) (by decide +kernel), gw_of 1093 (by decide +kernel) (by decide +kernel), by decide, by decide, by decide +kernel⟩
theorem lX12_114 : Cond.methodLink RX12 114 yX12_isPart ∈ gw := gw_of 1091 (by decide +kernel) (by decide +kernel)
theorem oX12_118 : Cond.constant RX12 118 (-1000000003 : Int32) ∈ gw := gw_of 1102 (by decide +kernel) (by decide +kernel)
theorem kX12_held : KS yX12_held cX12_held 3 (some .int) 3 := ⟨gw_of 1126 (by decide +kernel) (by decide +kernel), gw_of 74 (by decide +kernel) (by decide +kernel), gw_of 1127 (by decide +kernel) (by decide +kernel), by decide, by decide, by decide +kernel⟩
theorem lX12_119 : Cond.methodLink RX12 119 yX12_held ∈ gw := gw_of 1125 (by decide +kernel) (by decide +kernel)
theorem kX12_costs : KV yX12_costs cX12_costs 2 none 1 := ⟨gw_of 1123 (by decide +kernel) (by decide +kernel), gw_of 40 (by decide +kernel) (by decide +kernel), gw_of 74 (by decide +kernel) (by decide +kernel), gw_of 1124 (by decide +kernel) (by decide +kernel), by decide, by decide, by decide +kernel⟩
theorem lX12_123 : Cond.methodLink RX12 123 yX12_costs ∈ gw := gw_of 1121 (by decide +kernel) (by decide +kernel)
theorem kX12_goesOn : KV yX12_goesOn cX12_goesOn 4 none 1 := ⟨gw_of 1134 (by decide +kernel) (by decide +kernel), gw_of 42 (by decide +kernel) (by decide +kernel), gw_of 74 (by decide +kernel) (by decide +kernel), gw_of 1135 (by decide +kernel) (by decide +kernel), by decide, by decide, by decide +kernel⟩
theorem lX12_129 : Cond.methodLink RX12 129 yX12_goesOn ∈ gw := gw_of 1132 (by decide +kernel) (by decide +kernel)
theorem kX12_turnsOff : KV yX12_turnsOff cX12_turnsOff 5 none 1 := ⟨gw_of 1130 (by decide +kernel) (by decide +kernel), gw_of 41 (by decide +kernel) (by decide +kernel), gw_of 74 (by decide +kernel) (by decide +kernel), gw_of 1131 (by decide +kernel) (by decide +kernel), by decide, by decide, by decide +kernel⟩
theorem lX12_126 : Cond.methodLink RX12 126 yX12_turnsOff ∈ gw := gw_of 1128 (by decide +kernel) (by decide +kernel)
theorem kX12_sails : KV yX12_sails cX12_sails 3 none 1 := ⟨gw_of 1119 (by decide +kernel) (by decide +kernel), gw_of 39 (by decide +kernel) (by decide +kernel), gw_of 74 (by decide +kernel) (by decide +kernel), gw_of 1120 (by decide +kernel) (by decide +kernel), by decide, by decide, by decide +kernel⟩
theorem lX12_132 : Cond.methodLink RX12 132 yX12_sails ∈ gw := gw_of 1117 (by decide +kernel) (by decide +kernel)
theorem kX12_oneHour : KV yX12_oneHour cX12_oneHour 2 none 0 := ⟨gw_of 1115 (by decide +kernel) (by decide +kernel), gw_of 38 (by decide +kernel) (by decide +kernel), gw_of 74 (by decide +kernel) (by decide +kernel), gw_of 1116 (by decide +kernel) (by decide +kernel), by decide, by decide, by decide +kernel⟩
theorem lX12_135 : Cond.methodLink RX12 135 yX12_oneHour ∈ gw := gw_of 1113 (by decide +kernel) (by decide +kernel)
theorem oX12_138 : Cond.constant RX12 138 (99999 : Int32) ∈ gw := gw_of 1107 (by decide +kernel) (by decide +kernel)
theorem kX12_passes : KV yX12_passes cX12_passes 3 none 1 := ⟨gw_of 1111 (by decide +kernel) (by decide +kernel), gw_of 37 (by decide +kernel) (by decide +kernel), gw_of 74 (by decide +kernel) (by decide +kernel), gw_of 1112 (by decide +kernel) (by decide +kernel), by decide, by decide, by decide +kernel⟩
theorem lX12_140 : Cond.methodLink RX12 140 yX12_passes ∈ gw := gw_of 1109 (by decide +kernel) (by decide +kernel)
theorem oX12_139 : Cond.constant RX12 139 (-1000000005 : Int32) ∈ gw := gw_of 1108 (by decide +kernel) (by decide +kernel)
theorem fX12_16 : FLd RX12 16 12 RX12 TX12 19 2 := ⟨rfl, ig12, by decide, gw_of 929 (by decide +kernel) (by decide +kernel)⟩
theorem kX12_moveAll : KV yX12_moveAll cX12_moveAll 4 none 2 := ⟨gw_of 1142 (by decide +kernel) (by decide +kernel), gw_of 43 (by decide +kernel) (by decide +kernel), gw_of 74 (by decide +kernel) (by decide +kernel), gw_of 1143 (by decide +kernel) (by decide +kernel), by decide, by decide, by decide +kernel⟩
theorem lX12_143 : Cond.methodLink RX12 143 yX12_moveAll ∈ gw := gw_of 1140 (by decide +kernel) (by decide +kernel)
theorem kX12_soonest : KV yX12_soonest cX12_soonest 4 (some .int) 2 := ⟨gw_of 1158 (by decide +kernel) (by decide +kernel), gw_of 45 (by decide +kernel) (by decide +kernel), gw_of 74 (by decide +kernel) (by decide +kernel), gw_of 1159 (by decide +kernel) (by decide +kernel), by decide, by decide, by decide +kernel⟩
theorem lX12_147 : Cond.methodLink RX12 147 yX12_soonest ∈ gw := gw_of 1156 (by decide +kernel) (by decide +kernel)
theorem oX12_150 : Cond.constant RX12 150 (-1000000004 : Int32) ∈ gw := gw_of 1160 (by decide +kernel) (by decide +kernel)
theorem kX12_whenFirst : KV yX12_whenFirst cX12_whenFirst 4 (some .int) 2 := ⟨gw_of 1154 (by decide +kernel) (by decide +kernel), gw_of 44 (by decide +kernel) (by decide +kernel), gw_of 74 (by decide +kernel) (by decide +kernel), gw_of 1155 (by decide +kernel) (by decide +kernel), by decide, by decide, by decide +kernel⟩
theorem lX12_151 : Cond.methodLink RX12 151 yX12_whenFirst ∈ gw := gw_of 1152 (by decide +kernel) (by decide +kernel)
theorem kX12_bestOf : KV yX12_bestOf cX12_bestOf 8 (some .int) 3 := ⟨gw_of 1171 (by decide +kernel) (by decide +kernel), gw_of 46 (by decide +kernel) (by decide +kernel), gw_of 74 (by decide +kernel) (by decide +kernel), gw_of 1172 (by decide +kernel) (by decide +kernel), by decide, by decide, by decide +kernel⟩
theorem lX12_154 : Cond.methodLink RX12 154 yX12_bestOf ∈ gw := gw_of 1169 (by decide +kernel) (by decide +kernel)
theorem kX12_bits : KS yX12_bits cX12_bits 3 (some .int) 1 := ⟨gw_of 1182 (by decide +kernel) (by decide +kernel), gw_of 74 (by decide +kernel) (by decide +kernel), gw_of 1183 (by decide +kernel) (by decide +kernel), by decide, by decide, by decide +kernel⟩
theorem lX12_157 : Cond.methodLink RX12 157 yX12_bits ∈ gw := gw_of 1181 (by decide +kernel) (by decide +kernel)
theorem kX12_costOfAll : KV yX12_costOfAll cX12_costOfAll 3 (some .int) 0 := ⟨gw_of 1190 (by decide +kernel) (by decide +kernel), gw_of 47 (by decide +kernel) (by decide +kernel), gw_of 74 (by decide +kernel) (by decide +kernel), gw_of 1191 (by decide +kernel) (by decide +kernel), by decide, by decide, by decide +kernel⟩
theorem lX12_160 : Cond.methodLink RX12 160 yX12_costOfAll ∈ gw := gw_of 1188 (by decide +kernel) (by decide +kernel)
theorem oX12_163 : Cond.constant RX12 163 (100000 : Int32) ∈ gw := gw_of 1196 (by decide +kernel) (by decide +kernel)
theorem fX12_164 : FLd RX12 164 12 RX12 TX12 19 5 := ⟨rfl, ig12, by decide, gw_of 932 (by decide +kernel) (by decide +kernel)⟩
theorem fX12_22 : FLd RX12 22 12 RX12 TX12 19 4 := ⟨rfl, ig12, by decide, gw_of 931 (by decide +kernel) (by decide +kernel)⟩
theorem pX12_164 : PFd RX12 164 12 RX12 TX12 19 5 .int := ⟨fX12_164, by decide +kernel, by decide +kernel, ⟨tyX12, tyX12_ok⟩, nmX12⟩
theorem fX12_168 : FLd RX12 168 12 RX12 TX12 19 8 := ⟨rfl, ig12, by decide, gw_of 935 (by decide +kernel) (by decide +kernel)⟩
theorem fX12_171 : FLd RX12 171 12 RX12 TX12 19 7 := ⟨rfl, ig12, by decide, gw_of 934 (by decide +kernel) (by decide +kernel)⟩
theorem pX12_171 : PFd RX12 171 12 RX12 TX12 19 7 .int := ⟨fX12_171, by decide +kernel, by decide +kernel, ⟨tyX12, tyX12_ok⟩, nmX12⟩
theorem kX12_byteAt : KV yX12_byteAt cX12_byteAt 2 (some .int) 1 := ⟨gw_of 1219 (by decide +kernel) (by decide +kernel), gw_of 49 (by decide +kernel) (by decide +kernel), gw_of 74 (by decide +kernel) (by decide +kernel), gw_of 1220 (by decide +kernel) (by decide +kernel), by decide, by decide, by decide +kernel⟩
theorem lX12_174 : Cond.methodLink RX12 174 yX12_byteAt ∈ gw := gw_of 1217 (by decide +kernel) (by decide +kernel)
theorem pX12_168 : PFd RX12 168 12 RX12 TX12 19 8 .int := ⟨fX12_168, by decide +kernel, by decide +kernel, ⟨tyX12, tyX12_ok⟩, nmX12⟩
theorem kX12_isLetter : KS yX12_isLetter cX12_isLetter 1 (some .boolean) 1 := ⟨gw_of 1222 (by decide +kernel) (by decide +kernel), gw_of 74 (by decide +kernel) (by decide +kernel), gw_of 1223 (by decide +kernel) (by decide +kernel), by decide, by decide, by decide +kernel⟩
theorem lX12_177 : Cond.methodLink RX12 177 yX12_isLetter ∈ gw := gw_of 1221 (by decide +kernel) (by decide +kernel)
theorem kX12_isDigit : KS yX12_isDigit cX12_isDigit 1 (some .boolean) 1 := ⟨gw_of 1225 (by decide +kernel) (by decide +kernel), gw_of 74 (by decide +kernel) (by decide +kernel), gw_of 1226 (by decide +kernel) (by decide +kernel), by decide, by decide, by decide +kernel⟩
theorem lX12_180 : Cond.methodLink RX12 180 yX12_isDigit ∈ gw := gw_of 1224 (by decide +kernel) (by decide +kernel)
theorem fX12_183 : FLd RX12 183 12 RX12 TX12 19 6 := ⟨rfl, ig12, by decide, gw_of 933 (by decide +kernel) (by decide +kernel)⟩
theorem pX12_183 : PFd RX12 183 12 RX12 TX12 19 6 .int := ⟨fX12_183, by decide +kernel, by decide +kernel, ⟨tyX12, tyX12_ok⟩, nmX12⟩
theorem fX12_186 : FLd RX12 186 12 RX12 TX12 19 9 := ⟨rfl, ig12, by decide, gw_of 936 (by decide +kernel) (by decide +kernel)⟩
theorem pX12_186 : PFd RX12 186 12 RX12 TX12 19 9 .long := ⟨fX12_186, by decide +kernel, by decide +kernel, ⟨tyX12, tyX12_ok⟩, nmX12⟩
theorem fX12_190 : FLd RX12 190 12 RX12 TX12 19 10 := ⟨rfl, ig12, by decide, gw_of 937 (by decide +kernel) (by decide +kernel)⟩
theorem pX12_190 : PFd RX12 190 12 RX12 TX12 19 10 .int := ⟨fX12_190, by decide +kernel, by decide +kernel, ⟨tyX12, tyX12_ok⟩, nmX12⟩
theorem oX12_197 : Cond.constantLong RX12 197 (-1 : Int64) ∈ gw := gw_of 1229 (by decide +kernel) (by decide +kernel)
theorem oX12_193 : Cond.constantLong RX12 193 (27 : Int64) ∈ gw := gw_of 1227 (by decide +kernel) (by decide +kernel)
theorem oX12_195 : Cond.constantLong RX12 195 (96 : Int64) ∈ gw := gw_of 1228 (by decide +kernel) (by decide +kernel)
theorem oX12_199 : Cond.constantLong RX12 199 (380068 : Int64) ∈ gw := gw_of 1238 (by decide +kernel) (by decide +kernel)
theorem kX12_isWord : KV yX12_isWord cX12_isWord 3 (some .boolean) 1 := ⟨gw_of 1241 (by decide +kernel) (by decide +kernel), gw_of 52 (by decide +kernel) (by decide +kernel), gw_of 74 (by decide +kernel) (by decide +kernel), gw_of 1242 (by decide +kernel) (by decide +kernel), by decide, by decide, by decide +kernel⟩
theorem lX12_201 : Cond.methodLink RX12 201 yX12_isWord ∈ gw := gw_of 1239 (by decide +kernel) (by decide +kernel)
theorem oX12_205 : Cond.constantLong RX12 205 (7650653949 : Int64) ∈ gw := gw_of 1243 (by decide +kernel) (by decide +kernel)
theorem oX12_207 : Cond.constantLong RX12 207 (50348 : Int64) ∈ gw := gw_of 1244 (by decide +kernel) (by decide +kernel)
theorem oX12_209 : Cond.constantLong RX12 209 (1812878082 : Int64) ∈ gw := gw_of 1245 (by decide +kernel) (by decide +kernel)
theorem oX12_211 : Cond.constantLong RX12 211 (256863 : Int64) ∈ gw := gw_of 1246 (by decide +kernel) (by decide +kernel)
theorem oX12_213 : Cond.constantLong RX12 213 (5353 : Int64) ∈ gw := gw_of 1247 (by decide +kernel) (by decide +kernel)
theorem fX12_215 : FLd RX12 215 12 RX12 TX12 19 11 := ⟨rfl, ig12, by decide, gw_of 938 (by decide +kernel) (by decide +kernel)⟩
theorem pX12_215 : PFd RX12 215 12 RX12 TX12 19 11 .boolean := ⟨fX12_215, by decide +kernel, by decide +kernel, ⟨tyX12, tyX12_ok⟩, nmX12⟩
theorem kX12_advance : KV yX12_advance cX12_advance 2 none 0 := ⟨gw_of 1215 (by decide +kernel) (by decide +kernel), gw_of 48 (by decide +kernel) (by decide +kernel), gw_of 74 (by decide +kernel) (by decide +kernel), gw_of 1216 (by decide +kernel) (by decide +kernel), by decide, by decide, by decide +kernel⟩
theorem lX12_219 : Cond.methodLink RX12 219 yX12_advance ∈ gw := gw_of 1213 (by decide +kernel) (by decide +kernel)
theorem kX12_wantNumber : KV yX12_wantNumber cX12_wantNumber 4 (some .int) 2 := ⟨gw_of 1254 (by decide +kernel) (by decide +kernel), gw_of 54 (by decide +kernel) (by decide +kernel), gw_of 74 (by decide +kernel) (by decide +kernel), gw_of 1255 (by decide +kernel) (by decide +kernel), by decide, by decide, by decide +kernel⟩
theorem lX12_222 : Cond.methodLink RX12 222 yX12_wantNumber ∈ gw := gw_of 1252 (by decide +kernel) (by decide +kernel)
theorem oX12_225 : Cond.constantLong RX12 225 (47 : Int64) ∈ gw := gw_of 1256 (by decide +kernel) (by decide +kernel)
theorem kX12_mayWant : KV yX12_mayWant cX12_mayWant 6 (some .int) 4 := ⟨gw_of 1259 (by decide +kernel) (by decide +kernel), gw_of 55 (by decide +kernel) (by decide +kernel), gw_of 74 (by decide +kernel) (by decide +kernel), gw_of 1260 (by decide +kernel) (by decide +kernel), by decide, by decide, by decide +kernel⟩
theorem lX12_227 : Cond.methodLink RX12 227 yX12_mayWant ∈ gw := gw_of 1257 (by decide +kernel) (by decide +kernel)
theorem kX12_kindHere : KV yX12_kindHere cX12_kindHere 1 (some .int) 0 := ⟨gw_of 1236 (by decide +kernel) (by decide +kernel), gw_of 51 (by decide +kernel) (by decide +kernel), gw_of 74 (by decide +kernel) (by decide +kernel), gw_of 1237 (by decide +kernel) (by decide +kernel), by decide, by decide, by decide +kernel⟩
theorem lX12_231 : Cond.methodLink RX12 231 yX12_kindHere ∈ gw := gw_of 1234 (by decide +kernel) (by decide +kernel)
theorem oX12_237 : Cond.constantLong RX12 237 (10940985 : Int64) ∈ gw := gw_of 1261 (by decide +kernel) (by decide +kernel)
theorem oX12_242 : Cond.constantLong RX12 242 (1489744 : Int64) ∈ gw := gw_of 1266 (by decide +kernel) (by decide +kernel)
theorem oX12_247 : Cond.constantLong RX12 247 (79958 : Int64) ∈ gw := gw_of 1271 (by decide +kernel) (by decide +kernel)
theorem oX12_249 : Cond.constantLong RX12 249 (9665171 : Int64) ∈ gw := gw_of 1272 (by decide +kernel) (by decide +kernel)
theorem kX12_wantLamp : KV yX12_wantLamp cX12_wantLamp 3 none 1 := ⟨gw_of 1269 (by decide +kernel) (by decide +kernel), gw_of 57 (by decide +kernel) (by decide +kernel), gw_of 74 (by decide +kernel) (by decide +kernel), gw_of 1270 (by decide +kernel) (by decide +kernel), by decide, by decide, by decide +kernel⟩
theorem lX12_244 : Cond.methodLink RX12 244 yX12_wantLamp ∈ gw := gw_of 1267 (by decide +kernel) (by decide +kernel)
theorem kX12_wantTower : KV yX12_wantTower cX12_wantTower 3 none 0 := ⟨gw_of 1264 (by decide +kernel) (by decide +kernel), gw_of 56 (by decide +kernel) (by decide +kernel), gw_of 74 (by decide +kernel) (by decide +kernel), gw_of 1265 (by decide +kernel) (by decide +kernel), by decide, by decide, by decide +kernel⟩
theorem lX12_239 : Cond.methodLink RX12 239 yX12_wantTower ∈ gw := gw_of 1262 (by decide +kernel) (by decide +kernel)
theorem kX12_wantOne : KV yX12_wantOne cX12_wantOne 4 none 1 := ⟨gw_of 1250 (by decide +kernel) (by decide +kernel), gw_of 53 (by decide +kernel) (by decide +kernel), gw_of 74 (by decide +kernel) (by decide +kernel), gw_of 1251 (by decide +kernel) (by decide +kernel), by decide, by decide, by decide +kernel⟩
theorem lX12_234 : Cond.methodLink RX12 234 yX12_wantOne ∈ gw := gw_of 1248 (by decide +kernel) (by decide +kernel)
theorem fX12_41 : FLd RX12 41 12 RX12 TX12 19 17 := ⟨rfl, ig12, by decide, gw_of 944 (by decide +kernel) (by decide +kernel)⟩
theorem kX12_wantItem : KV yX12_wantItem cX12_wantItem 2 none 0 := ⟨gw_of 1232 (by decide +kernel) (by decide +kernel), gw_of 50 (by decide +kernel) (by decide +kernel), gw_of 74 (by decide +kernel) (by decide +kernel), gw_of 1233 (by decide +kernel) (by decide +kernel), by decide, by decide, by decide +kernel⟩
theorem lX12_251 : Cond.methodLink RX12 251 yX12_wantItem ∈ gw := gw_of 1230 (by decide +kernel) (by decide +kernel)
theorem kX12_isSheet : KS yX12_isSheet cX12_isSheet 1 (some .boolean) 1 := ⟨gw_of 1278 (by decide +kernel) (by decide +kernel), gw_of 74 (by decide +kernel) (by decide +kernel), gw_of 1279 (by decide +kernel) (by decide +kernel), by decide, by decide, by decide +kernel⟩
theorem lX12_254 : Cond.methodLink RX12 254 yX12_isSheet ∈ gw := gw_of 1277 (by decide +kernel) (by decide +kernel)
theorem fX12_25 : FLd RX12 25 12 RX12 TX12 19 12 := ⟨rfl, ig12, by decide, gw_of 939 (by decide +kernel) (by decide +kernel)⟩
theorem fX12_28 : FLd RX12 28 12 RX12 TX12 19 13 := ⟨rfl, ig12, by decide, gw_of 940 (by decide +kernel) (by decide +kernel)⟩
theorem fX12_31 : FLd RX12 31 12 RX12 TX12 19 14 := ⟨rfl, ig12, by decide, gw_of 941 (by decide +kernel) (by decide +kernel)⟩
theorem oX12_257 : Cond.constant RX12 257 (-1000000007 : Int32) ∈ gw := gw_of 1280 (by decide +kernel) (by decide +kernel)
theorem kX12_narrow : KS yX12_narrow cX12_narrow 3 (some .long) 2 := ⟨gw_of 1287 (by decide +kernel) (by decide +kernel), gw_of 74 (by decide +kernel) (by decide +kernel), gw_of 1288 (by decide +kernel) (by decide +kernel), by decide, by decide, by decide +kernel⟩
theorem lX12_259 : Cond.methodLink RX12 259 yX12_narrow ∈ gw := gw_of 1286 (by decide +kernel) (by decide +kernel)
theorem oX12_258 : Cond.constant RX12 258 (-1000000006 : Int32) ∈ gw := gw_of 1285 (by decide +kernel) (by decide +kernel)
theorem kX12_isPart_ : KV yX12_isPart_ cX12_isPart_ 4 (some .boolean) 3 := ⟨gw_of 1295 (by decide +kernel) (by decide +kernel), gw_of 58 (by decide +kernel) (by decide +kernel), gw_of 74 (by decide +kernel) (by decide +kernel), gw_of 1296 (by decide +kernel) (by decide +kernel), by decide, by decide, by decide +kernel⟩
theorem lX12_263 : Cond.methodLink RX12 263 yX12_isPart_ ∈ gw := gw_of 1293 (by decide +kernel) (by decide +kernel)
theorem fX12_35 : FLd RX12 35 12 RX12 TX12 19 15 := ⟨rfl, ig12, by decide, gw_of 942 (by decide +kernel) (by decide +kernel)⟩
theorem kX12_badSheet : KV yX12_badSheet cX12_badSheet 2 (some .int) 1 := ⟨gw_of 1303 (by decide +kernel) (by decide +kernel), gw_of 59 (by decide +kernel) (by decide +kernel), gw_of 74 (by decide +kernel) (by decide +kernel), gw_of 1304 (by decide +kernel) (by decide +kernel), by decide, by decide, by decide +kernel⟩
theorem lX12_265 : Cond.methodLink RX12 265 yX12_badSheet ∈ gw := gw_of 1301 (by decide +kernel) (by decide +kernel)
theorem oX12_268 : Cond.constantLong RX12 268 (10 : Int64) ∈ gw := gw_of 1305 (by decide +kernel) (by decide +kernel)
theorem fX12_19 : FLd RX12 19 12 RX12 TX12 19 3 := ⟨rfl, ig12, by decide, gw_of 930 (by decide +kernel) (by decide +kernel)⟩
theorem kX12_isSo : KV yX12_isSo cX12_isSo 5 (some .boolean) 2 := ⟨gw_of 1316 (by decide +kernel) (by decide +kernel), gw_of 60 (by decide +kernel) (by decide +kernel), gw_of 74 (by decide +kernel) (by decide +kernel), gw_of 1317 (by decide +kernel) (by decide +kernel), by decide, by decide, by decide +kernel⟩
theorem lX12_270 : Cond.methodLink RX12 270 yX12_isSo ∈ gw := gw_of 1314 (by decide +kernel) (by decide +kernel)
theorem fX12_38 : FLd RX12 38 12 RX12 TX12 19 16 := ⟨rfl, ig12, by decide, gw_of 943 (by decide +kernel) (by decide +kernel)⟩
theorem fX12_273 : FLd RX12 273 12 RX12 TX12 19 18 := ⟨rfl, ig12, by decide, gw_of 945 (by decide +kernel) (by decide +kernel)⟩
theorem pX12_273 : PFd RX12 273 12 RX12 TX12 19 18 .boolean := ⟨fX12_273, by decide +kernel, by decide +kernel, ⟨tyX12, tyX12_ok⟩, nmX12⟩

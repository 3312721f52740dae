/-! ===== constructors ===== -/
abbrev cO (q ci : Nat) (fs : List Value) : Nat × va_E := (q, .inr (ci, fs))
abbrev cI (q : Nat) (cA : ClassId) (n : Nat) (f : Nat → Int32) : Nat × va_E := (q, .inl (cA, n, .inl f))
abbrev cL (q : Nat) (cA : ClassId) (n : Nat) (f : Nat → Int64) : Nat × va_E := (q, .inl (cA, n, .inr (.inl f)))
abbrev cR (q : Nat) (cA : ClassId) (n : Nat) (f : Nat → Option Nat) : Nat × va_E := (q, .inl (cA, n, .inr (.inr (.inr (.inr f)))))
theorem wO_i : Cond.instanceMethod Lib.objectInit ∈ gw := gw_of 88 (by decide +kernel) (by decide +kernel)
theorem wO_c : Cond.code Lib.objectInit ⟨#[0xb1]⟩ 1 none ∈ gw := gw_of 89 (by decide +kernel) (by decide +kernel)
theorem wob_7 : Cond.methodLink RX7 1 Lib.objectInit ∈ gw := gw_of 96 (by decide +kernel) (by decide +kernel)
theorem kiX7 : KI yX7_init cX7_init 1 0 := ⟨gw_of 94 (by decide +kernel) (by decide +kernel), gw_of 63 (by decide +kernel) (by decide +kernel), gw_of 95 (by decide +kernel) (by decide +kernel), ⟨by decide, by decide, by decide +kernel⟩, rfl⟩
theorem kiX8 : KI yX8_init cX8_init 1 0 := ⟨gw_of 101 (by decide +kernel) (by decide +kernel), gw_of 64 (by decide +kernel) (by decide +kernel), gw_of 102 (by decide +kernel) (by decide +kernel), ⟨by decide, by decide, by decide +kernel⟩, rfl⟩
theorem kiX0 : KI yX0_init cX0_init 1 0 := ⟨gw_of 108 (by decide +kernel) (by decide +kernel), gw_of 65 (by decide +kernel) (by decide +kernel), gw_of 109 (by decide +kernel) (by decide +kernel), ⟨by decide, by decide, by decide +kernel⟩, rfl⟩
theorem kiX1 : KI yX1_init cX1_init 1 0 := ⟨gw_of 115 (by decide +kernel) (by decide +kernel), gw_of 66 (by decide +kernel) (by decide +kernel), gw_of 116 (by decide +kernel) (by decide +kernel), ⟨by decide, by decide, by decide +kernel⟩, rfl⟩
theorem kiX3 : KI yX3_init cX3_init 1 0 := ⟨gw_of 122 (by decide +kernel) (by decide +kernel), gw_of 67 (by decide +kernel) (by decide +kernel), gw_of 123 (by decide +kernel) (by decide +kernel), ⟨by decide, by decide, by decide +kernel⟩, rfl⟩
theorem kiX2 : KI yX2_init cX2_init 1 0 := ⟨gw_of 129 (by decide +kernel) (by decide +kernel), gw_of 68 (by decide +kernel) (by decide +kernel), gw_of 130 (by decide +kernel) (by decide +kernel), ⟨by decide, by decide, by decide +kernel⟩, rfl⟩
theorem wob_10 : Cond.methodLink RX10 3 Lib.objectInit ∈ gw := gw_of 145 (by decide +kernel) (by decide +kernel)
theorem kiX10 : KI yX10_init cX10_init 2 1 := ⟨gw_of 143 (by decide +kernel) (by decide +kernel), gw_of 70 (by decide +kernel) (by decide +kernel), gw_of 144 (by decide +kernel) (by decide +kernel), ⟨by decide, by decide, by decide +kernel⟩, rfl⟩
theorem wob_4 : Cond.methodLink RX4 3 Lib.objectInit ∈ gw := gw_of 138 (by decide +kernel) (by decide +kernel)
theorem wcl_4_30 : Cond.classLink RX4 30 RX10 ∈ gw := gw_of 139 (by decide +kernel) (by decide +kernel)
theorem qX4_32 : QFd RX4 32 4 RX4 TX4 7 5 (.array (.object "TowerWarns$Vessel")) := ⟨fX4_32, by decide +kernel, by decide +kernel, by decide +kernel, ⟨tyX4, tyX4_ok⟩, nmX4⟩
theorem dfX10 : ∀ j, j < 7 → defaultValue (tyX10 j) = vp_V [.null, .int 0, .int 0, .int 0, .int 0, .int 0, .int 0] j := fun j hj => by
  match j, hj with
  | 0, _ => rfl
  | 1, _ => rfl
  | 2, _ => rfl
  | 3, _ => rfl
  | 4, _ => rfl
  | 5, _ => rfl
  | 6, _ => rfl
  | j + 7, hj => exact absurd hj (by omega)
theorem wis_10 : Cond.instantiable RX10 7 ∈ gw := gw_of 141 (by decide +kernel) (by decide +kernel)
theorem win_10 : Cond.initialized RX10 ∈ gw := gw_of 70 (by decide +kernel) (by decide +kernel)
theorem wml_4_36 : Cond.methodLink RX4 36 yX10_init ∈ gw := gw_of 142 (by decide +kernel) (by decide +kernel)
theorem kiX4 : KI yX4_init cX4_init 3 1 := ⟨gw_of 136 (by decide +kernel) (by decide +kernel), gw_of 69 (by decide +kernel) (by decide +kernel), gw_of 137 (by decide +kernel) (by decide +kernel), ⟨by decide, by decide, by decide +kernel⟩, rfl⟩
theorem wob_9 : Cond.methodLink RX9 3 Lib.objectInit ∈ gw := gw_of 218 (by decide +kernel) (by decide +kernel)
theorem war_byte : Cond.arrayClass .byte ∈ gw := gw_of 228 (by decide +kernel) (by decide +kernel)
theorem qX9_9 : QFd RX9 9 9 RX9 TX9 2 0 (.array .byte) := ⟨fX9_9, by decide +kernel, by decide +kernel, by decide +kernel, ⟨tyX9, tyX9_ok⟩, nmX9⟩
theorem kiX9 : KI yX9_init cX9_init 1 0 := ⟨gw_of 216 (by decide +kernel) (by decide +kernel), gw_of 71 (by decide +kernel) (by decide +kernel), gw_of 217 (by decide +kernel) (by decide +kernel), ⟨by decide, by decide, by decide +kernel⟩, rfl⟩
theorem wob_5 : Cond.methodLink RX5 3 Lib.objectInit ∈ gw := gw_of 234 (by decide +kernel) (by decide +kernel)
theorem qX5_9 : QFd RX5 9 5 RX5 TX5 7 0 (.object "TowerWarns$Tape") := ⟨fX5_9, by decide +kernel, by decide +kernel, by decide +kernel, ⟨tyX5, tyX5_ok⟩, nmX5⟩
theorem qX5_15 : QFd RX5 15 5 RX5 TX5 7 1 (.array (.object "TowerWarns$Ship")) := ⟨fX5_15, by decide +kernel, by decide +kernel, by decide +kernel, ⟨tyX5, tyX5_ok⟩, nmX5⟩
theorem kiX5 : KI yX5_init cX5_init 3 2 := ⟨gw_of 232 (by decide +kernel) (by decide +kernel), gw_of 72 (by decide +kernel) (by decide +kernel), gw_of 233 (by decide +kernel) (by decide +kernel), ⟨by decide, by decide, by decide +kernel⟩, rfl⟩
theorem wob_6 : Cond.methodLink RX6 3 Lib.objectInit ∈ gw := gw_of 263 (by decide +kernel) (by decide +kernel)
theorem war_long : Cond.arrayClass .long ∈ gw := gw_of 277 (by decide +kernel) (by decide +kernel)
theorem qX6_18 : QFd RX6 18 6 RX6 TX6 3 2 (.array .long) := ⟨fX6_18, by decide +kernel, by decide +kernel, by decide +kernel, ⟨tyX6, tyX6_ok⟩, nmX6⟩
theorem kiX6 : KI yX6_init cX6_init 1 0 := ⟨gw_of 261 (by decide +kernel) (by decide +kernel), gw_of 73 (by decide +kernel) (by decide +kernel), gw_of 262 (by decide +kernel) (by decide +kernel), ⟨by decide, by decide, by decide +kernel⟩, rfl⟩
theorem wob_12 : Cond.methodLink RX12 1 Lib.objectInit ∈ gw := gw_of 926 (by decide +kernel) (by decide +kernel)
theorem war_int : Cond.arrayClass .int ∈ gw := gw_of 306 (by decide +kernel) (by decide +kernel)
theorem qX12_7 : QFd RX12 7 12 RX12 TX12 19 0 (.array .int) := ⟨fX12_7, by decide +kernel, by decide +kernel, by decide +kernel, ⟨tyX12, tyX12_ok⟩, nmX12⟩
theorem qX12_13 : QFd RX12 13 12 RX12 TX12 19 1 (.array .int) := ⟨fX12_13, by decide +kernel, by decide +kernel, by decide +kernel, ⟨tyX12, tyX12_ok⟩, nmX12⟩
theorem qX12_16 : QFd RX12 16 12 RX12 TX12 19 2 (.array .int) := ⟨fX12_16, by decide +kernel, by decide +kernel, by decide +kernel, ⟨tyX12, tyX12_ok⟩, nmX12⟩
theorem qX12_19 : QFd RX12 19 12 RX12 TX12 19 3 (.array .int) := ⟨fX12_19, by decide +kernel, by decide +kernel, by decide +kernel, ⟨tyX12, tyX12_ok⟩, nmX12⟩
theorem qX12_22 : QFd RX12 22 12 RX12 TX12 19 4 (.array .int) := ⟨fX12_22, by decide +kernel, by decide +kernel, by decide +kernel, ⟨tyX12, tyX12_ok⟩, nmX12⟩
theorem qX12_25 : QFd RX12 25 12 RX12 TX12 19 12 (.array .int) := ⟨fX12_25, by decide +kernel, by decide +kernel, by decide +kernel, ⟨tyX12, tyX12_ok⟩, nmX12⟩
theorem qX12_28 : QFd RX12 28 12 RX12 TX12 19 13 (.array .int) := ⟨fX12_28, by decide +kernel, by decide +kernel, by decide +kernel, ⟨tyX12, tyX12_ok⟩, nmX12⟩
theorem qX12_31 : QFd RX12 31 12 RX12 TX12 19 14 (.array .long) := ⟨fX12_31, by decide +kernel, by decide +kernel, by decide +kernel, ⟨tyX12, tyX12_ok⟩, nmX12⟩
theorem qX12_35 : QFd RX12 35 12 RX12 TX12 19 15 (.array .long) := ⟨fX12_35, by decide +kernel, by decide +kernel, by decide +kernel, ⟨tyX12, tyX12_ok⟩, nmX12⟩
theorem qX12_38 : QFd RX12 38 12 RX12 TX12 19 16 (.array .int) := ⟨fX12_38, by decide +kernel, by decide +kernel, by decide +kernel, ⟨tyX12, tyX12_ok⟩, nmX12⟩
theorem qX12_41 : QFd RX12 41 12 RX12 TX12 19 17 (.array .int) := ⟨fX12_41, by decide +kernel, by decide +kernel, by decide +kernel, ⟨tyX12, tyX12_ok⟩, nmX12⟩
theorem kiX12 : KI yX12_init cX12_init 1 0 := ⟨gw_of 924 (by decide +kernel) (by decide +kernel), gw_of 74 (by decide +kernel) (by decide +kernel), gw_of 925 (by decide +kernel) (by decide +kernel), ⟨by decide, by decide, by decide +kernel⟩, rfl⟩
theorem wob_11 : Cond.methodLink RX11 3 Lib.objectInit ∈ gw := gw_of 87 (by decide +kernel) (by decide +kernel)
theorem wcl_11_9 : Cond.classLink RX11 9 RX7 ∈ gw := gw_of 90 (by decide +kernel) (by decide +kernel)
theorem dfX7 : ∀ j, j < 0 → defaultValue (tyX7 j) = vp_V [] j := fun j hj => absurd hj (Nat.not_lt_zero j)
theorem wis_7 : Cond.instantiable RX7 0 ∈ gw := gw_of 92 (by decide +kernel) (by decide +kernel)
theorem win_7 : Cond.initialized RX7 ∈ gw := gw_of 63 (by decide +kernel) (by decide +kernel)
theorem dfX8 : ∀ j, j < 0 → defaultValue (tyX8 j) = vp_V [] j := fun j hj => absurd hj (Nat.not_lt_zero j)
theorem wcl_11_12 : Cond.classLink RX11 12 RX8 ∈ gw := gw_of 98 (by decide +kernel) (by decide +kernel)
theorem wis_8 : Cond.instantiable RX8 0 ∈ gw := gw_of 99 (by decide +kernel) (by decide +kernel)
theorem win_8 : Cond.initialized RX8 ∈ gw := gw_of 64 (by decide +kernel) (by decide +kernel)
theorem dfX0 : ∀ j, j < 0 → defaultValue (tyX0 j) = vp_V [] j := fun j hj => absurd hj (Nat.not_lt_zero j)
theorem wcl_11_15 : Cond.classLink RX11 15 RX0 ∈ gw := gw_of 105 (by decide +kernel) (by decide +kernel)
theorem wis_0 : Cond.instantiable RX0 0 ∈ gw := gw_of 106 (by decide +kernel) (by decide +kernel)
theorem win_0 : Cond.initialized RX0 ∈ gw := gw_of 65 (by decide +kernel) (by decide +kernel)
theorem dfX1 : ∀ j, j < 0 → defaultValue (tyX1 j) = vp_V [] j := fun j hj => absurd hj (Nat.not_lt_zero j)
theorem wcl_11_18 : Cond.classLink RX11 18 RX1 ∈ gw := gw_of 112 (by decide +kernel) (by decide +kernel)
theorem wis_1 : Cond.instantiable RX1 0 ∈ gw := gw_of 113 (by decide +kernel) (by decide +kernel)
theorem win_1 : Cond.initialized RX1 ∈ gw := gw_of 66 (by decide +kernel) (by decide +kernel)
theorem dfX3 : ∀ j, j < 0 → defaultValue (tyX3 j) = vp_V [] j := fun j hj => absurd hj (Nat.not_lt_zero j)
theorem wcl_11_21 : Cond.classLink RX11 21 RX3 ∈ gw := gw_of 119 (by decide +kernel) (by decide +kernel)
theorem wis_3 : Cond.instantiable RX3 0 ∈ gw := gw_of 120 (by decide +kernel) (by decide +kernel)
theorem win_3 : Cond.initialized RX3 ∈ gw := gw_of 67 (by decide +kernel) (by decide +kernel)
theorem dfX2 : ∀ j, j < 0 → defaultValue (tyX2 j) = vp_V [] j := fun j hj => absurd hj (Nat.not_lt_zero j)
theorem wcl_11_24 : Cond.classLink RX11 24 RX2 ∈ gw := gw_of 126 (by decide +kernel) (by decide +kernel)
theorem wis_2 : Cond.instantiable RX2 0 ∈ gw := gw_of 127 (by decide +kernel) (by decide +kernel)
theorem win_2 : Cond.initialized RX2 ∈ gw := gw_of 68 (by decide +kernel) (by decide +kernel)
theorem qX11_27 : QFd RX11 27 11 RX11 TX11 9 0 (.array (.object "TowerWarns$Ship")) := ⟨fX11_27, by decide +kernel, by decide +kernel, by decide +kernel, ⟨tyX11, tyX11_ok⟩, nmX11⟩
theorem dfX4 : ∀ j, j < 7 → defaultValue (tyX4 j) = vp_V [.int 0, .int 0, .int 0, .int 0, .int 0, .null, .int 0] j := fun j hj => by
  match j, hj with
  | 0, _ => rfl
  | 1, _ => rfl
  | 2, _ => rfl
  | 3, _ => rfl
  | 4, _ => rfl
  | 5, _ => rfl
  | 6, _ => rfl
  | j + 7, hj => exact absurd hj (by omega)
theorem wcl_11_31 : Cond.classLink RX11 31 RX4 ∈ gw := gw_of 133 (by decide +kernel) (by decide +kernel)
theorem wis_4 : Cond.instantiable RX4 7 ∈ gw := gw_of 134 (by decide +kernel) (by decide +kernel)
theorem win_4 : Cond.initialized RX4 ∈ gw := gw_of 69 (by decide +kernel) (by decide +kernel)
theorem wml_11_33 : Cond.methodLink RX11 33 yX4_init ∈ gw := gw_of 135 (by decide +kernel) (by decide +kernel)
theorem qX11_36 : QFd RX11 36 11 RX11 TX11 9 1 (.object "TowerWarns$Sea") := ⟨fX11_36, by decide +kernel, by decide +kernel, by decide +kernel, ⟨tyX11, tyX11_ok⟩, nmX11⟩
theorem qX11_40 : QFd RX11 40 11 RX11 TX11 9 2 (.object "TowerWarns$Sea") := ⟨fX11_40, by decide +kernel, by decide +kernel, by decide +kernel, ⟨tyX11, tyX11_ok⟩, nmX11⟩
theorem qX11_43 : QFd RX11 43 11 RX11 TX11 9 3 (.object "TowerWarns$Sea") := ⟨fX11_43, by decide +kernel, by decide +kernel, by decide +kernel, ⟨tyX11, tyX11_ok⟩, nmX11⟩
theorem dfX9 : ∀ j, j < 2 → defaultValue (tyX9 j) = vp_V [.null, .int 0] j := fun j hj => by
  match j, hj with
  | 0, _ => rfl
  | 1, _ => rfl
  | j + 2, hj => exact absurd hj (by omega)
theorem wcl_11_50 : Cond.classLink RX11 50 RX9 ∈ gw := gw_of 213 (by decide +kernel) (by decide +kernel)
theorem wis_9 : Cond.instantiable RX9 2 ∈ gw := gw_of 214 (by decide +kernel) (by decide +kernel)
theorem win_9 : Cond.initialized RX9 ∈ gw := gw_of 71 (by decide +kernel) (by decide +kernel)
theorem wml_11_52 : Cond.methodLink RX11 52 yX9_init ∈ gw := gw_of 215 (by decide +kernel) (by decide +kernel)
theorem qX11_53 : QFd RX11 53 11 RX11 TX11 9 5 (.object "TowerWarns$Tape") := ⟨fX11_53, by decide +kernel, by decide +kernel, by decide +kernel, ⟨tyX11, tyX11_ok⟩, nmX11⟩
theorem dfX5 : ∀ j, j < 7 → defaultValue (tyX5 j) = vp_V [.null, .null, .int 0, .int 0, .int 0, .int 0, .int 0] j := fun j hj => by
  match j, hj with
  | 0, _ => rfl
  | 1, _ => rfl
  | 2, _ => rfl
  | 3, _ => rfl
  | 4, _ => rfl
  | 5, _ => rfl
  | 6, _ => rfl
  | j + 7, hj => exact absurd hj (by omega)
theorem wcl_11_57 : Cond.classLink RX11 57 RX5 ∈ gw := gw_of 229 (by decide +kernel) (by decide +kernel)
theorem wis_5 : Cond.instantiable RX5 7 ∈ gw := gw_of 230 (by decide +kernel) (by decide +kernel)
theorem win_5 : Cond.initialized RX5 ∈ gw := gw_of 72 (by decide +kernel) (by decide +kernel)
theorem wml_11_59 : Cond.methodLink RX11 59 yX5_init ∈ gw := gw_of 231 (by decide +kernel) (by decide +kernel)
theorem qX11_62 : QFd RX11 62 11 RX11 TX11 9 6 (.object "TowerWarns$SeaText") := ⟨fX11_62, by decide +kernel, by decide +kernel, by decide +kernel, ⟨tyX11, tyX11_ok⟩, nmX11⟩
theorem wcl_11_66 : Cond.classLink RX11 66 RX6 ∈ gw := gw_of 257 (by decide +kernel) (by decide +kernel)
theorem dfX6 : ∀ j, j < 3 → defaultValue (tyX6 j) = vp_V [.int 0, .int 0, .null] j := fun j hj => by
  match j, hj with
  | 0, _ => rfl
  | 1, _ => rfl
  | 2, _ => rfl
  | j + 3, hj => exact absurd hj (by omega)
theorem wis_6 : Cond.instantiable RX6 3 ∈ gw := gw_of 259 (by decide +kernel) (by decide +kernel)
theorem win_6 : Cond.initialized RX6 ∈ gw := gw_of 73 (by decide +kernel) (by decide +kernel)
theorem wml_11_68 : Cond.methodLink RX11 68 yX6_init ∈ gw := gw_of 260 (by decide +kernel) (by decide +kernel)
theorem qX11_69 : QFd RX11 69 11 RX11 TX11 9 7 (.array (.object "TowerWarns$Sheet")) := ⟨fX11_69, by decide +kernel, by decide +kernel, by decide +kernel, ⟨tyX11, tyX11_ok⟩, nmX11⟩
theorem qX11_73 : QFd RX11 73 11 RX11 TX11 9 8 (.array .int) := ⟨fX11_73, by decide +kernel, by decide +kernel, by decide +kernel, ⟨tyX11, tyX11_ok⟩, nmX11⟩
theorem kiX11 : KI yX11_init cX11_init 1 0 := ⟨gw_of 85 (by decide +kernel) (by decide +kernel), gw_of 62 (by decide +kernel) (by decide +kernel), gw_of 86 (by decide +kernel) (by decide +kernel), ⟨by decide, by decide, by decide +kernel⟩, rfl⟩
theorem dfX11 : ∀ j, j < 9 → defaultValue (tyX11 j) = vp_V [.null, .null, .null, .null, .int 0, .null, .null, .null, .null] j := fun j hj => by
  match j, hj with
  | 0, _ => rfl
  | 1, _ => rfl
  | 2, _ => rfl
  | 3, _ => rfl
  | 4, _ => rfl
  | 5, _ => rfl
  | 6, _ => rfl
  | 7, _ => rfl
  | 8, _ => rfl
  | j + 9, hj => exact absurd hj (by omega)
theorem wis_11 : Cond.instantiable RX11 9 ∈ gw := gw_of 83 (by decide +kernel) (by decide +kernel)
theorem win_11 : Cond.initialized RX11 ∈ gw := gw_of 62 (by decide +kernel) (by decide +kernel)
theorem dfX12 : ∀ j, j < 19 → defaultValue (tyX12 j) = vp_V [.null, .null, .null, .null, .null, .int 0, .int 0, .int 0, .int 0, .long 0, .int 0, .int 0, .null, .null, .null, .null, .null, .null, .int 0] j := fun j hj => by
  match j, hj with
  | 0, _ => rfl
  | 1, _ => rfl
  | 2, _ => rfl
  | 3, _ => rfl
  | 4, _ => rfl
  | 5, _ => rfl
  | 6, _ => rfl
  | 7, _ => rfl
  | 8, _ => rfl
  | 9, _ => rfl
  | 10, _ => rfl
  | 11, _ => rfl
  | 12, _ => rfl
  | 13, _ => rfl
  | 14, _ => rfl
  | 15, _ => rfl
  | 16, _ => rfl
  | 17, _ => rfl
  | 18, _ => rfl
  | j + 19, hj => exact absurd hj (by omega)
theorem wis_12 : Cond.instantiable RX12 19 ∈ gw := gw_of 922 (by decide +kernel) (by decide +kernel)
theorem win_12 : Cond.initialized RX12 ∈ gw := gw_of 74 (by decide +kernel) (by decide +kernel)
theorem wcl_L_7 : Cond.classLink RL 7 RX11 ∈ gw := gw_of 82 (by decide +kernel) (by decide +kernel)
theorem wcl_L_10 : Cond.classLink RL 10 RX12 ∈ gw := gw_of 921 (by decide +kernel) (by decide +kernel)
theorem wml_L_9 : Cond.methodLink RL 9 yX11_init ∈ gw := gw_of 84 (by decide +kernel) (by decide +kernel)
theorem wml_L_12 : Cond.methodLink RL 12 yX12_init ∈ gw := gw_of 923 (by decide +kernel) (by decide +kernel)
set_option maxRecDepth 100000 in
set_option maxHeartbeats 4000000 in
theorem iX7 (b : Nat) (ws0 : va_W) (l : Launch) (E : Ev) : CtN l E yX7_init cX7_init 1 1 0 0 20 [.ref b] (ws0) (fun u => ws0) := by
  refine ctN_of (lv := [(0, .ref b)]) (ws := fun E => ws0) (out := fun E u => ws0) (by decide) rfl rfl (Nat.le_of_ble_eq_true rfl) (fun X F hn Rt => ?_) l E
  have F : FI X cX7_init RX7 (Rk 1 0 0 20) := F
  refine n_aload_n F.1 dX7_init_0 rfl 0 rfl ?_
  refine n_obj F.1 wob_7 wO_i wO_c ⟨Nat.le_of_ble_eq_true rfl, Nat.le_of_ble_eq_true rfl⟩ (by decide) dX7_init_1 ?_
  exact n_ret F Rt (fun _ => 0) rfl dX7_init_4
set_option maxRecDepth 100000 in
set_option maxHeartbeats 4000000 in
theorem iX8 (b : Nat) (ws0 : va_W) (l : Launch) (E : Ev) : CtN l E yX8_init cX8_init 1 2 0 0 40 [.ref b] (ws0) (fun u => ws0) := by
  refine ctN_of (lv := [(0, .ref b)]) (ws := fun E => ws0) (out := fun E u => ws0) (by decide) rfl rfl (Nat.le_of_ble_eq_true rfl) (fun X F hn Rt => ?_) l E
  have F : FI X cX8_init RX8 (Rk 2 0 0 40) := F
  refine n_aload_n F.1 dX8_init_0 rfl 0 rfl ?_
  refine n_initN (As := []) (rest := []) F.1 F.2.1 (iX7 b _ (xl X) (xE X)) kiX7 (List.mem_of_getElem? (i := 10) rfl) rfl rfl ⟨Nat.le_of_ble_eq_true rfl, Nat.le_of_ble_eq_true rfl⟩ ⟨Nat.le_of_ble_eq_true rfl, Nat.le_of_ble_eq_true rfl⟩ (by decide) dX8_init_1 (fun _ => ?_)
  exact n_ret F Rt (fun _ => 0) rfl dX8_init_4
set_option maxRecDepth 100000 in
set_option maxHeartbeats 4000000 in
theorem iX0 (b : Nat) (ws0 : va_W) (l : Launch) (E : Ev) : CtN l E yX0_init cX0_init 1 2 0 0 40 [.ref b] (ws0) (fun u => ws0) := by
  refine ctN_of (lv := [(0, .ref b)]) (ws := fun E => ws0) (out := fun E u => ws0) (by decide) rfl rfl (Nat.le_of_ble_eq_true rfl) (fun X F hn Rt => ?_) l E
  have F : FI X cX0_init RX0 (Rk 2 0 0 40) := F
  refine n_aload_n F.1 dX0_init_0 rfl 0 rfl ?_
  refine n_initN (As := []) (rest := []) F.1 F.2.1 (iX7 b _ (xl X) (xE X)) kiX7 (List.mem_of_getElem? (i := 6) rfl) rfl rfl ⟨Nat.le_of_ble_eq_true rfl, Nat.le_of_ble_eq_true rfl⟩ ⟨Nat.le_of_ble_eq_true rfl, Nat.le_of_ble_eq_true rfl⟩ (by decide) dX0_init_1 (fun _ => ?_)
  exact n_ret F Rt (fun _ => 0) rfl dX0_init_4
set_option maxRecDepth 100000 in
set_option maxHeartbeats 4000000 in
theorem iX1 (b : Nat) (ws0 : va_W) (l : Launch) (E : Ev) : CtN l E yX1_init cX1_init 1 2 0 0 40 [.ref b] (ws0) (fun u => ws0) := by
  refine ctN_of (lv := [(0, .ref b)]) (ws := fun E => ws0) (out := fun E u => ws0) (by decide) rfl rfl (Nat.le_of_ble_eq_true rfl) (fun X F hn Rt => ?_) l E
  have F : FI X cX1_init RX1 (Rk 2 0 0 40) := F
  refine n_aload_n F.1 dX1_init_0 rfl 0 rfl ?_
  refine n_initN (As := []) (rest := []) F.1 F.2.1 (iX7 b _ (xl X) (xE X)) kiX7 (List.mem_of_getElem? (i := 7) rfl) rfl rfl ⟨Nat.le_of_ble_eq_true rfl, Nat.le_of_ble_eq_true rfl⟩ ⟨Nat.le_of_ble_eq_true rfl, Nat.le_of_ble_eq_true rfl⟩ (by decide) dX1_init_1 (fun _ => ?_)
  exact n_ret F Rt (fun _ => 0) rfl dX1_init_4
set_option maxRecDepth 100000 in
set_option maxHeartbeats 4000000 in
theorem iX3 (b : Nat) (ws0 : va_W) (l : Launch) (E : Ev) : CtN l E yX3_init cX3_init 1 3 0 0 60 [.ref b] (ws0) (fun u => ws0) := by
  refine ctN_of (lv := [(0, .ref b)]) (ws := fun E => ws0) (out := fun E u => ws0) (by decide) rfl rfl (Nat.le_of_ble_eq_true rfl) (fun X F hn Rt => ?_) l E
  have F : FI X cX3_init RX3 (Rk 3 0 0 60) := F
  refine n_aload_n F.1 dX3_init_0 rfl 0 rfl ?_
  refine n_initN (As := []) (rest := []) F.1 F.2.1 (iX8 b _ (xl X) (xE X)) kiX8 (List.mem_of_getElem? (i := 9) rfl) rfl rfl ⟨Nat.le_of_ble_eq_true rfl, Nat.le_of_ble_eq_true rfl⟩ ⟨Nat.le_of_ble_eq_true rfl, Nat.le_of_ble_eq_true rfl⟩ (by decide) dX3_init_1 (fun _ => ?_)
  exact n_ret F Rt (fun _ => 0) rfl dX3_init_4
set_option maxRecDepth 100000 in
set_option maxHeartbeats 4000000 in
theorem iX2 (b : Nat) (ws0 : va_W) (l : Launch) (E : Ev) : CtN l E yX2_init cX2_init 1 3 0 0 60 [.ref b] (ws0) (fun u => ws0) := by
  refine ctN_of (lv := [(0, .ref b)]) (ws := fun E => ws0) (out := fun E u => ws0) (by decide) rfl rfl (Nat.le_of_ble_eq_true rfl) (fun X F hn Rt => ?_) l E
  have F : FI X cX2_init RX2 (Rk 3 0 0 60) := F
  refine n_aload_n F.1 dX2_init_0 rfl 0 rfl ?_
  refine n_initN (As := []) (rest := []) F.1 F.2.1 (iX0 b _ (xl X) (xE X)) kiX0 (List.mem_of_getElem? (i := 8) rfl) rfl rfl ⟨Nat.le_of_ble_eq_true rfl, Nat.le_of_ble_eq_true rfl⟩ ⟨Nat.le_of_ble_eq_true rfl, Nat.le_of_ble_eq_true rfl⟩ (by decide) dX2_init_1 (fun _ => ?_)
  exact n_ret F Rt (fun _ => 0) rfl dX2_init_4
set_option maxRecDepth 100000 in
set_option maxHeartbeats 4000000 in
theorem iX10 (b k : Nat) (ws0 : va_W) (l : Launch) (E : Ev) : CtN l E yX10_init cX10_init 2 1 0 0 20 [.ref b, .ref k] (cO b 10 [.null, .int 0, .int 0, .int 0, .int 0, .int 0, .int 0] :: ws0) (fun u => cO b 10 [.ref k, .int 0, .int 0, .int 0, .int 0, .int 0, .int 0] :: ws0) := by
  refine ctN_of (lv := [(0, .ref b), (1, .ref k)]) (ws := fun E => cO b 10 [.null, .int 0, .int 0, .int 0, .int 0, .int 0, .int 0] :: ws0) (out := fun E u => cO b 10 [.ref k, .int 0, .int 0, .int 0, .int 0, .int 0, .int 0] :: ws0) (by decide) rfl rfl (Nat.le_of_ble_eq_true rfl) (fun X F hn Rt => ?_) l E
  have F : FI X cX10_init RX10 (Rk 1 0 0 20) := F
  refine n_aload_n F.1 dX10_init_0 rfl 0 rfl ?_
  refine n_obj F.1 wob_10 wO_i wO_c ⟨Nat.le_of_ble_eq_true rfl, Nat.le_of_ble_eq_true rfl⟩ (by decide) dX10_init_1 ?_
  refine n_aload_n F.1 dX10_init_4 rfl 0 rfl ?_
  refine n_aload_n F.1 dX10_init_5 rfl 1 rfl ?_
  refine n_put (ws2 := cO b 10 [.ref k, .int 0, .int 0, .int 0, .int 0, .int 0, .int 0] :: ws0) F.1 pX10_9 0 rfl rfl rfl (Nat.le_of_ble_eq_true rfl) rfl dX10_init_6 ?_
  exact n_ret F Rt (fun _ => 0) rfl dX10_init_9
set_option maxRecDepth 100000 in
set_option maxHeartbeats 4000000 in
theorem iX4 (b k : Nat) (ws0 : va_W) (l : Launch) (E : Ev) : CtN l E yX4_init cX4_init 3 2 7 48 41 [.ref b, .ref k] (cO b 4 [.int 0, .int 0, .int 0, .int 0, .int 0, .null, .int 0] :: ws0) (fun u => cO (u 6) 10 [.ref k, .int 0, .int 0, .int 0, .int 0, .int 0, .int 0] :: cO (u 5) 10 [.ref k, .int 0, .int 0, .int 0, .int 0, .int 0, .int 0] :: cO (u 4) 10 [.ref k, .int 0, .int 0, .int 0, .int 0, .int 0, .int 0] :: cO (u 3) 10 [.ref k, .int 0, .int 0, .int 0, .int 0, .int 0, .int 0] :: cO (u 2) 10 [.ref k, .int 0, .int 0, .int 0, .int 0, .int 0, .int 0] :: cO (u 1) 10 [.ref k, .int 0, .int 0, .int 0, .int 0, .int 0, .int 0] :: cR (u 0) (eA E 3) 6 (va_up (va_up (va_up (va_up (va_up (va_up (fun _ => none) 0 (some (u 1))) 1 (some (u 2))) 2 (some (u 3))) 3 (some (u 4))) 4 (some (u 5))) 5 (some (u 6))) :: cO b 4 [.int 0, .int 10, .int 5, .int 4032, .int 4, .ref (u 0), .int 0] :: ws0) := by
  refine ctN_of (lv := [(0, .ref b), (1, .ref k)]) (ws := fun E => cO b 4 [.int 0, .int 0, .int 0, .int 0, .int 0, .null, .int 0] :: ws0) (out := fun E u => cO (u 6) 10 [.ref k, .int 0, .int 0, .int 0, .int 0, .int 0, .int 0] :: cO (u 5) 10 [.ref k, .int 0, .int 0, .int 0, .int 0, .int 0, .int 0] :: cO (u 4) 10 [.ref k, .int 0, .int 0, .int 0, .int 0, .int 0, .int 0] :: cO (u 3) 10 [.ref k, .int 0, .int 0, .int 0, .int 0, .int 0, .int 0] :: cO (u 2) 10 [.ref k, .int 0, .int 0, .int 0, .int 0, .int 0, .int 0] :: cO (u 1) 10 [.ref k, .int 0, .int 0, .int 0, .int 0, .int 0, .int 0] :: cR (u 0) (eA E 3) 6 (va_up (va_up (va_up (va_up (va_up (va_up (fun _ => none) 0 (some (u 1))) 1 (some (u 2))) 2 (some (u 3))) 3 (some (u 4))) 4 (some (u 5))) 5 (some (u 6))) :: cO b 4 [.int 0, .int 10, .int 5, .int 4032, .int 4, .ref (u 0), .int 0] :: ws0) (by decide) rfl rfl (Nat.le_of_ble_eq_true rfl) (fun X F hn Rt => ?_) l E
  have F : FI X cX4_init RX4 (Rk 2 7 48 41) := F
  refine n_aload_n F.1 dX4_init_0 rfl 0 rfl ?_
  refine n_obj F.1 wob_4 wO_i wO_c ⟨Nat.le_of_ble_eq_true rfl, Nat.le_of_ble_eq_true rfl⟩ (by decide) dX4_init_1 ?_
  refine n_aload_n F.1 dX4_init_4 rfl 0 rfl ?_
  refine n_iconst (v := 0) F.1 dX4_init_5 (by decide) ?_
  refine n_put (ws2 := cO b 4 [.int 0, .int 0, .int 0, .int 0, .int 0, .null, .int 0] :: ws0) F.1 pX4_9 0 rfl rfl rfl (Nat.le_of_ble_eq_true rfl) rfl dX4_init_6 ?_
  refine n_aload_n F.1 dX4_init_9 rfl 0 rfl ?_
  refine n_bipush (v := 10) F.1 dX4_init_10 (by decide) ?_
  refine n_put (ws2 := cO b 4 [.int 0, .int 10, .int 0, .int 0, .int 0, .null, .int 0] :: ws0) F.1 pX4_15 0 rfl rfl rfl (Nat.le_of_ble_eq_true rfl) rfl dX4_init_12 ?_
  refine n_aload_n F.1 dX4_init_15 rfl 0 rfl ?_
  refine n_iconst (v := 5) F.1 dX4_init_16 (by decide) ?_
  refine n_put (ws2 := cO b 4 [.int 0, .int 10, .int 5, .int 0, .int 0, .null, .int 0] :: ws0) F.1 pX4_18 0 rfl rfl rfl (Nat.le_of_ble_eq_true rfl) rfl dX4_init_17 ?_
  refine n_aload_n F.1 dX4_init_20 rfl 0 rfl ?_
  refine n_sipush (v := 4032) F.1 dX4_init_21 (by decide) ?_
  refine n_put (ws2 := cO b 4 [.int 0, .int 10, .int 5, .int 4032, .int 0, .null, .int 0] :: ws0) F.1 pX4_21 0 rfl rfl rfl (Nat.le_of_ble_eq_true rfl) rfl dX4_init_24 ?_
  refine n_aload_n F.1 dX4_init_27 rfl 0 rfl ?_
  refine n_iconst (v := 4) F.1 dX4_init_28 (by decide) ?_
  refine n_put (ws2 := cO b 4 [.int 0, .int 10, .int 5, .int 4032, .int 4, .null, .int 0] :: ws0) F.1 pX4_24 0 rfl rfl rfl (Nat.le_of_ble_eq_true rfl) rfl dX4_init_29 ?_
  refine n_aload_n F.1 dX4_init_32 rfl 0 rfl ?_
  refine n_iconst (v := 0) F.1 dX4_init_33 (by decide) ?_
  refine n_put (ws2 := cO b 4 [.int 0, .int 10, .int 5, .int 4032, .int 4, .null, .int 0] :: ws0) F.1 pX4_27 0 rfl rfl rfl (Nat.le_of_ble_eq_true rfl) rfl dX4_init_34 ?_
  refine n_aload_n F.1 dX4_init_37 rfl 0 rfl ?_
  refine n_bipush (v := 6) F.1 dX4_init_38 (by decide) ?_
  refine n_newq (C := RX10) (N := 6) F.1 3 rfl wcl_4_30 F.2.1.2.1.1 (by decide) (by decide) (Nat.le_of_ble_eq_true rfl) ⟨Nat.le_of_ble_eq_true rfl, Nat.le_of_ble_eq_true rfl⟩ dX4_init_40 (fun v1 => ?_)
  refine n_putF (ws2 := cR v1 (eA (xE X) 3) 6 (fun _ => none) :: cO b 4 [.int 0, .int 10, .int 5, .int 4032, .int 4, .ref v1, .int 0] :: ws0) F.1 F.2.2 qX4_32 1 rfl rfl rfl (Nat.le_of_ble_eq_true rfl) rfl dX4_init_43 ?_
  refine n_iconst (v := 0) F.1 dX4_init_46 (by decide) ?_
  refine n_istore_n (lv2 := [(0, .ref b), (1, .ref k), (2, .int 0)]) F.1 dX4_init_47 rfl (by rw [hn]; decide) [1, 2, 0] rfl ?_
  refine n_iload_n F.1 dX4_init_48 rfl 2 rfl ?_
  refine n_bipush (v := 6) F.1 dX4_init_49 (by decide) ?_
  refine n_icmp_ge (tgt := 74) F.1 dX4_init_51 (by decide) (fun c => absurd c (by decide)) (fun _ => ?_)
  refine n_aload_n F.1 dX4_init_54 rfl 0 rfl ?_
  refine n_get F.1 fX4_32 1 rfl rfl dX4_init_55 ?_
  refine n_iload_n F.1 dX4_init_58 rfl 2 rfl ?_
  refine n_new (ci := 10) F.1 tyX10 tyX10_ok ig10 wcl_4_30 wis_10 win_10 rfl dfX10 ⟨Nat.le_of_ble_eq_true rfl, Nat.le_of_ble_eq_true rfl⟩ dX4_init_59 (fun v2 => ?_)
  refine n_dup F.1 dX4_init_62 rfl ?_
  refine n_aload_n F.1 dX4_init_63 rfl 1 rfl ?_
  refine n_init (As := [.ref k]) (rest := [.ref v2, .int 0, .ref v1]) F.1 F.2.1 (iX10 v2 k _ (xl X) (xE X)) kiX10 wml_4_36 rfl rfl ⟨Nat.le_of_ble_eq_true rfl, Nat.le_of_ble_eq_true rfl⟩ ⟨Nat.le_of_ble_eq_true rfl, Nat.le_of_ble_eq_true rfl⟩ (Nat.le_of_ble_eq_true rfl) dX4_init_64 (fun u3 => ?_)
  refine n_aast (ws2 := cO v2 10 [.ref k, .int 0, .int 0, .int 0, .int 0, .int 0, .int 0] :: cR v1 (eA (xE X) 3) 6 (va_up (fun _ => none) 0 (some v2)) :: cO b 4 [.int 0, .int 10, .int 5, .int 4032, .int 4, .ref v1, .int 0] :: ws0) (r := (RX10, TX10, 7)) (j := 0) F.1 1 3 0 rfl rfl rfl rfl (by unfold vp_in; decide) (by decide) rfl dX4_init_67 ?_
  refine n_iinc (v := 1) (lv2 := [(0, .ref b), (1, .ref k), (2, .int 1)]) F.1 dX4_init_68 2 rfl (by decide) (by rw [hn]; decide) [1, 2, 0] rfl ?_
  refine n_goto (tgt := 48) F.1 dX4_init_71 (by decide) ?_
  refine n_iload_n F.1 dX4_init_48 rfl 2 rfl ?_
  refine n_bipush (v := 6) F.1 dX4_init_49 (by decide) ?_
  refine n_icmp_ge (tgt := 74) F.1 dX4_init_51 (by decide) (fun c => absurd c (by decide)) (fun _ => ?_)
  refine n_aload_n F.1 dX4_init_54 rfl 0 rfl ?_
  refine n_get F.1 fX4_32 2 rfl rfl dX4_init_55 ?_
  refine n_iload_n F.1 dX4_init_58 rfl 2 rfl ?_
  refine n_new (ci := 10) F.1 tyX10 tyX10_ok ig10 wcl_4_30 wis_10 win_10 rfl dfX10 ⟨Nat.le_of_ble_eq_true rfl, Nat.le_of_ble_eq_true rfl⟩ dX4_init_59 (fun v4 => ?_)
  refine n_dup F.1 dX4_init_62 rfl ?_
  refine n_aload_n F.1 dX4_init_63 rfl 1 rfl ?_
  refine n_init (As := [.ref k]) (rest := [.ref v4, .int 1, .ref v1]) F.1 F.2.1 (iX10 v4 k _ (xl X) (xE X)) kiX10 wml_4_36 rfl rfl ⟨Nat.le_of_ble_eq_true rfl, Nat.le_of_ble_eq_true rfl⟩ ⟨Nat.le_of_ble_eq_true rfl, Nat.le_of_ble_eq_true rfl⟩ (Nat.le_of_ble_eq_true rfl) dX4_init_64 (fun u5 => ?_)
  refine n_aast (ws2 := cO v4 10 [.ref k, .int 0, .int 0, .int 0, .int 0, .int 0, .int 0] :: cO v2 10 [.ref k, .int 0, .int 0, .int 0, .int 0, .int 0, .int 0] :: cR v1 (eA (xE X) 3) 6 (va_up (va_up (fun _ => none) 0 (some v2)) 1 (some v4)) :: cO b 4 [.int 0, .int 10, .int 5, .int 4032, .int 4, .ref v1, .int 0] :: ws0) (r := (RX10, TX10, 7)) (j := 1) F.1 2 3 0 rfl rfl rfl rfl (by unfold vp_in; decide) (by decide) rfl dX4_init_67 ?_
  refine n_iinc (v := 2) (lv2 := [(0, .ref b), (1, .ref k), (2, .int 2)]) F.1 dX4_init_68 2 rfl (by decide) (by rw [hn]; decide) [1, 2, 0] rfl ?_
  refine n_goto (tgt := 48) F.1 dX4_init_71 (by decide) ?_
  refine n_iload_n F.1 dX4_init_48 rfl 2 rfl ?_
  refine n_bipush (v := 6) F.1 dX4_init_49 (by decide) ?_
  refine n_icmp_ge (tgt := 74) F.1 dX4_init_51 (by decide) (fun c => absurd c (by decide)) (fun _ => ?_)
  refine n_aload_n F.1 dX4_init_54 rfl 0 rfl ?_
  refine n_get F.1 fX4_32 3 rfl rfl dX4_init_55 ?_
  refine n_iload_n F.1 dX4_init_58 rfl 2 rfl ?_
  refine n_new (ci := 10) F.1 tyX10 tyX10_ok ig10 wcl_4_30 wis_10 win_10 rfl dfX10 ⟨Nat.le_of_ble_eq_true rfl, Nat.le_of_ble_eq_true rfl⟩ dX4_init_59 (fun v6 => ?_)
  refine n_dup F.1 dX4_init_62 rfl ?_
  refine n_aload_n F.1 dX4_init_63 rfl 1 rfl ?_
  refine n_init (As := [.ref k]) (rest := [.ref v6, .int 2, .ref v1]) F.1 F.2.1 (iX10 v6 k _ (xl X) (xE X)) kiX10 wml_4_36 rfl rfl ⟨Nat.le_of_ble_eq_true rfl, Nat.le_of_ble_eq_true rfl⟩ ⟨Nat.le_of_ble_eq_true rfl, Nat.le_of_ble_eq_true rfl⟩ (Nat.le_of_ble_eq_true rfl) dX4_init_64 (fun u7 => ?_)
  refine n_aast (ws2 := cO v6 10 [.ref k, .int 0, .int 0, .int 0, .int 0, .int 0, .int 0] :: cO v4 10 [.ref k, .int 0, .int 0, .int 0, .int 0, .int 0, .int 0] :: cO v2 10 [.ref k, .int 0, .int 0, .int 0, .int 0, .int 0, .int 0] :: cR v1 (eA (xE X) 3) 6 (va_up (va_up (va_up (fun _ => none) 0 (some v2)) 1 (some v4)) 2 (some v6)) :: cO b 4 [.int 0, .int 10, .int 5, .int 4032, .int 4, .ref v1, .int 0] :: ws0) (r := (RX10, TX10, 7)) (j := 2) F.1 3 3 0 rfl rfl rfl rfl (by unfold vp_in; decide) (by decide) rfl dX4_init_67 ?_
  refine n_iinc (v := 3) (lv2 := [(0, .ref b), (1, .ref k), (2, .int 3)]) F.1 dX4_init_68 2 rfl (by decide) (by rw [hn]; decide) [1, 2, 0] rfl ?_
  refine n_goto (tgt := 48) F.1 dX4_init_71 (by decide) ?_
  refine n_iload_n F.1 dX4_init_48 rfl 2 rfl ?_
  refine n_bipush (v := 6) F.1 dX4_init_49 (by decide) ?_
  refine n_icmp_ge (tgt := 74) F.1 dX4_init_51 (by decide) (fun c => absurd c (by decide)) (fun _ => ?_)
  refine n_aload_n F.1 dX4_init_54 rfl 0 rfl ?_
  refine n_get F.1 fX4_32 4 rfl rfl dX4_init_55 ?_
  refine n_iload_n F.1 dX4_init_58 rfl 2 rfl ?_
  refine n_new (ci := 10) F.1 tyX10 tyX10_ok ig10 wcl_4_30 wis_10 win_10 rfl dfX10 ⟨Nat.le_of_ble_eq_true rfl, Nat.le_of_ble_eq_true rfl⟩ dX4_init_59 (fun v8 => ?_)
  refine n_dup F.1 dX4_init_62 rfl ?_
  refine n_aload_n F.1 dX4_init_63 rfl 1 rfl ?_
  refine n_init (As := [.ref k]) (rest := [.ref v8, .int 3, .ref v1]) F.1 F.2.1 (iX10 v8 k _ (xl X) (xE X)) kiX10 wml_4_36 rfl rfl ⟨Nat.le_of_ble_eq_true rfl, Nat.le_of_ble_eq_true rfl⟩ ⟨Nat.le_of_ble_eq_true rfl, Nat.le_of_ble_eq_true rfl⟩ (Nat.le_of_ble_eq_true rfl) dX4_init_64 (fun u9 => ?_)
  refine n_aast (ws2 := cO v8 10 [.ref k, .int 0, .int 0, .int 0, .int 0, .int 0, .int 0] :: cO v6 10 [.ref k, .int 0, .int 0, .int 0, .int 0, .int 0, .int 0] :: cO v4 10 [.ref k, .int 0, .int 0, .int 0, .int 0, .int 0, .int 0] :: cO v2 10 [.ref k, .int 0, .int 0, .int 0, .int 0, .int 0, .int 0] :: cR v1 (eA (xE X) 3) 6 (va_up (va_up (va_up (va_up (fun _ => none) 0 (some v2)) 1 (some v4)) 2 (some v6)) 3 (some v8)) :: cO b 4 [.int 0, .int 10, .int 5, .int 4032, .int 4, .ref v1, .int 0] :: ws0) (r := (RX10, TX10, 7)) (j := 3) F.1 4 3 0 rfl rfl rfl rfl (by unfold vp_in; decide) (by decide) rfl dX4_init_67 ?_
  refine n_iinc (v := 4) (lv2 := [(0, .ref b), (1, .ref k), (2, .int 4)]) F.1 dX4_init_68 2 rfl (by decide) (by rw [hn]; decide) [1, 2, 0] rfl ?_
  refine n_goto (tgt := 48) F.1 dX4_init_71 (by decide) ?_
  refine n_iload_n F.1 dX4_init_48 rfl 2 rfl ?_
  refine n_bipush (v := 6) F.1 dX4_init_49 (by decide) ?_
  refine n_icmp_ge (tgt := 74) F.1 dX4_init_51 (by decide) (fun c => absurd c (by decide)) (fun _ => ?_)
  refine n_aload_n F.1 dX4_init_54 rfl 0 rfl ?_
  refine n_get F.1 fX4_32 5 rfl rfl dX4_init_55 ?_
  refine n_iload_n F.1 dX4_init_58 rfl 2 rfl ?_
  refine n_new (ci := 10) F.1 tyX10 tyX10_ok ig10 wcl_4_30 wis_10 win_10 rfl dfX10 ⟨Nat.le_of_ble_eq_true rfl, Nat.le_of_ble_eq_true rfl⟩ dX4_init_59 (fun v10 => ?_)
  refine n_dup F.1 dX4_init_62 rfl ?_
  refine n_aload_n F.1 dX4_init_63 rfl 1 rfl ?_
  refine n_init (As := [.ref k]) (rest := [.ref v10, .int 4, .ref v1]) F.1 F.2.1 (iX10 v10 k _ (xl X) (xE X)) kiX10 wml_4_36 rfl rfl ⟨Nat.le_of_ble_eq_true rfl, Nat.le_of_ble_eq_true rfl⟩ ⟨Nat.le_of_ble_eq_true rfl, Nat.le_of_ble_eq_true rfl⟩ (Nat.le_of_ble_eq_true rfl) dX4_init_64 (fun u11 => ?_)
  refine n_aast (ws2 := cO v10 10 [.ref k, .int 0, .int 0, .int 0, .int 0, .int 0, .int 0] :: cO v8 10 [.ref k, .int 0, .int 0, .int 0, .int 0, .int 0, .int 0] :: cO v6 10 [.ref k, .int 0, .int 0, .int 0, .int 0, .int 0, .int 0] :: cO v4 10 [.ref k, .int 0, .int 0, .int 0, .int 0, .int 0, .int 0] :: cO v2 10 [.ref k, .int 0, .int 0, .int 0, .int 0, .int 0, .int 0] :: cR v1 (eA (xE X) 3) 6 (va_up (va_up (va_up (va_up (va_up (fun _ => none) 0 (some v2)) 1 (some v4)) 2 (some v6)) 3 (some v8)) 4 (some v10)) :: cO b 4 [.int 0, .int 10, .int 5, .int 4032, .int 4, .ref v1, .int 0] :: ws0) (r := (RX10, TX10, 7)) (j := 4) F.1 5 3 0 rfl rfl rfl rfl (by unfold vp_in; decide) (by decide) rfl dX4_init_67 ?_
  refine n_iinc (v := 5) (lv2 := [(0, .ref b), (1, .ref k), (2, .int 5)]) F.1 dX4_init_68 2 rfl (by decide) (by rw [hn]; decide) [1, 2, 0] rfl ?_
  refine n_goto (tgt := 48) F.1 dX4_init_71 (by decide) ?_
  refine n_iload_n F.1 dX4_init_48 rfl 2 rfl ?_
  refine n_bipush (v := 6) F.1 dX4_init_49 (by decide) ?_
  refine n_icmp_ge (tgt := 74) F.1 dX4_init_51 (by decide) (fun c => absurd c (by decide)) (fun _ => ?_)
  refine n_aload_n F.1 dX4_init_54 rfl 0 rfl ?_
  refine n_get F.1 fX4_32 6 rfl rfl dX4_init_55 ?_
  refine n_iload_n F.1 dX4_init_58 rfl 2 rfl ?_
  refine n_new (ci := 10) F.1 tyX10 tyX10_ok ig10 wcl_4_30 wis_10 win_10 rfl dfX10 ⟨Nat.le_of_ble_eq_true rfl, Nat.le_of_ble_eq_true rfl⟩ dX4_init_59 (fun v12 => ?_)
  refine n_dup F.1 dX4_init_62 rfl ?_
  refine n_aload_n F.1 dX4_init_63 rfl 1 rfl ?_
  refine n_init (As := [.ref k]) (rest := [.ref v12, .int 5, .ref v1]) F.1 F.2.1 (iX10 v12 k _ (xl X) (xE X)) kiX10 wml_4_36 rfl rfl ⟨Nat.le_of_ble_eq_true rfl, Nat.le_of_ble_eq_true rfl⟩ ⟨Nat.le_of_ble_eq_true rfl, Nat.le_of_ble_eq_true rfl⟩ (Nat.le_of_ble_eq_true rfl) dX4_init_64 (fun u13 => ?_)
  refine n_aast (ws2 := cO v12 10 [.ref k, .int 0, .int 0, .int 0, .int 0, .int 0, .int 0] :: cO v10 10 [.ref k, .int 0, .int 0, .int 0, .int 0, .int 0, .int 0] :: cO v8 10 [.ref k, .int 0, .int 0, .int 0, .int 0, .int 0, .int 0] :: cO v6 10 [.ref k, .int 0, .int 0, .int 0, .int 0, .int 0, .int 0] :: cO v4 10 [.ref k, .int 0, .int 0, .int 0, .int 0, .int 0, .int 0] :: cO v2 10 [.ref k, .int 0, .int 0, .int 0, .int 0, .int 0, .int 0] :: cR v1 (eA (xE X) 3) 6 (va_up (va_up (va_up (va_up (va_up (va_up (fun _ => none) 0 (some v2)) 1 (some v4)) 2 (some v6)) 3 (some v8)) 4 (some v10)) 5 (some v12)) :: cO b 4 [.int 0, .int 10, .int 5, .int 4032, .int 4, .ref v1, .int 0] :: ws0) (r := (RX10, TX10, 7)) (j := 5) F.1 6 3 0 rfl rfl rfl rfl (by unfold vp_in; decide) (by decide) rfl dX4_init_67 ?_
  refine n_iinc (v := 6) (lv2 := [(0, .ref b), (1, .ref k), (2, .int 6)]) F.1 dX4_init_68 2 rfl (by decide) (by rw [hn]; decide) [1, 2, 0] rfl ?_
  refine n_goto (tgt := 48) F.1 dX4_init_71 (by decide) ?_
  refine n_iload_n F.1 dX4_init_48 rfl 2 rfl ?_
  refine n_bipush (v := 6) F.1 dX4_init_49 (by decide) ?_
  refine n_icmp_ge (tgt := 74) F.1 dX4_init_51 (by decide) (fun _ => ?_) (fun c => absurd (by decide) c)
  exact n_ret F Rt (fun i => [v1, v2, v4, v6, v8, v10, v12].getD i 0) rfl dX4_init_74
set_option maxRecDepth 100000 in
set_option maxHeartbeats 4000000 in
theorem iX9 (b : Nat) (ws0 : va_W) (l : Launch) (E : Ev) : CtN l E yX9_init cX9_init 1 1 1 120 20 [.ref b] (cO b 9 [.null, .int 0] :: ws0) (fun u => cI (u 0) (eA E 2) 120 (fun _ => 0) :: cO b 9 [.ref (u 0), .int 0] :: ws0) := by
  refine ctN_of (lv := [(0, .ref b)]) (ws := fun E => cO b 9 [.null, .int 0] :: ws0) (out := fun E u => cI (u 0) (eA E 2) 120 (fun _ => 0) :: cO b 9 [.ref (u 0), .int 0] :: ws0) (by decide) rfl rfl (Nat.le_of_ble_eq_true rfl) (fun X F hn Rt => ?_) l E
  have F : FI X cX9_init RX9 (Rk 1 1 120 20) := F
  refine n_aload_n F.1 dX9_init_0 rfl 0 rfl ?_
  refine n_obj F.1 wob_9 wO_i wO_c ⟨Nat.le_of_ble_eq_true rfl, Nat.le_of_ble_eq_true rfl⟩ (by decide) dX9_init_1 ?_
  refine n_aload_n F.1 dX9_init_4 rfl 0 rfl ?_
  refine n_bipush (v := 120) F.1 dX9_init_5 (by decide) ?_
  refine n_newa (atype := .byte) (a0 := (120, (.inl (fun _ => 0)))) F.1 2 rfl war_byte rfl (fun _ => rfl) (by decide) (by decide) (Nat.le_of_ble_eq_true rfl) ⟨Nat.le_of_ble_eq_true rfl, Nat.le_of_ble_eq_true rfl⟩ dX9_init_7 (fun v1 => ?_)
  refine n_putF (ws2 := cI v1 (eA (xE X) 2) 120 (fun _ => 0) :: cO b 9 [.ref v1, .int 0] :: ws0) F.1 F.2.2 qX9_9 1 rfl rfl rfl (Nat.le_of_ble_eq_true rfl) rfl dX9_init_9 ?_
  refine n_aload_n F.1 dX9_init_12 rfl 0 rfl ?_
  refine n_iconst (v := 0) F.1 dX9_init_13 (by decide) ?_
  refine n_put (ws2 := cI v1 (eA (xE X) 2) 120 (fun _ => 0) :: cO b 9 [.ref v1, .int 0] :: ws0) F.1 pX9_15 1 rfl rfl rfl (Nat.le_of_ble_eq_true rfl) rfl dX9_init_14 ?_
  exact n_ret F Rt (fun _ => v1) rfl dX9_init_17
set_option maxRecDepth 100000 in
set_option maxHeartbeats 4000000 in
theorem iX5 (b k m : Nat) (ws0 : va_W) (l : Launch) (E : Ev) : CtN l E yX5_init cX5_init 3 1 0 0 20 [.ref b, .ref k, .ref m] (cO b 5 [.null, .null, .int 0, .int 0, .int 0, .int 0, .int 0] :: ws0) (fun u => cO b 5 [.ref k, .ref m, .int 0, .int 0, .int 0, .int 0, .int 0] :: ws0) := by
  refine ctN_of (lv := [(0, .ref b), (1, .ref k), (2, .ref m)]) (ws := fun E => cO b 5 [.null, .null, .int 0, .int 0, .int 0, .int 0, .int 0] :: ws0) (out := fun E u => cO b 5 [.ref k, .ref m, .int 0, .int 0, .int 0, .int 0, .int 0] :: ws0) (by decide) rfl rfl (Nat.le_of_ble_eq_true rfl) (fun X F hn Rt => ?_) l E
  have F : FI X cX5_init RX5 (Rk 1 0 0 20) := F
  refine n_aload_n F.1 dX5_init_0 rfl 0 rfl ?_
  refine n_obj F.1 wob_5 wO_i wO_c ⟨Nat.le_of_ble_eq_true rfl, Nat.le_of_ble_eq_true rfl⟩ (by decide) dX5_init_1 ?_
  refine n_aload_n F.1 dX5_init_4 rfl 0 rfl ?_
  refine n_aload_n F.1 dX5_init_5 rfl 1 rfl ?_
  refine n_putF (ws2 := cO b 5 [.ref k, .null, .int 0, .int 0, .int 0, .int 0, .int 0] :: ws0) F.1 F.2.2 qX5_9 0 rfl rfl rfl (Nat.le_of_ble_eq_true rfl) rfl dX5_init_6 ?_
  refine n_aload_n F.1 dX5_init_9 rfl 0 rfl ?_
  refine n_aload_n F.1 dX5_init_10 rfl 2 rfl ?_
  refine n_putF (ws2 := cO b 5 [.ref k, .ref m, .int 0, .int 0, .int 0, .int 0, .int 0] :: ws0) F.1 F.2.2 qX5_15 0 rfl rfl rfl (Nat.le_of_ble_eq_true rfl) rfl dX5_init_11 ?_
  exact n_ret F Rt (fun _ => 0) rfl dX5_init_14
set_option maxRecDepth 100000 in
set_option maxHeartbeats 4000000 in
theorem iX6 (b : Nat) (ws0 : va_W) (l : Launch) (E : Ev) : CtN l E yX6_init cX6_init 1 1 1 40 20 [.ref b] (cO b 6 [.int 0, .int 0, .null] :: ws0) (fun u => cL (u 0) (eA E 1) 40 (fun _ => 0) :: cO b 6 [.int 0, .int 0, .ref (u 0)] :: ws0) := by
  refine ctN_of (lv := [(0, .ref b)]) (ws := fun E => cO b 6 [.int 0, .int 0, .null] :: ws0) (out := fun E u => cL (u 0) (eA E 1) 40 (fun _ => 0) :: cO b 6 [.int 0, .int 0, .ref (u 0)] :: ws0) (by decide) rfl rfl (Nat.le_of_ble_eq_true rfl) (fun X F hn Rt => ?_) l E
  have F : FI X cX6_init RX6 (Rk 1 1 40 20) := F
  refine n_aload_n F.1 dX6_init_0 rfl 0 rfl ?_
  refine n_obj F.1 wob_6 wO_i wO_c ⟨Nat.le_of_ble_eq_true rfl, Nat.le_of_ble_eq_true rfl⟩ (by decide) dX6_init_1 ?_
  refine n_aload_n F.1 dX6_init_4 rfl 0 rfl ?_
  refine n_iconst (v := 0) F.1 dX6_init_5 (by decide) ?_
  refine n_put (ws2 := cO b 6 [.int 0, .int 0, .null] :: ws0) F.1 pX6_9 0 rfl rfl rfl (Nat.le_of_ble_eq_true rfl) rfl dX6_init_6 ?_
  refine n_aload_n F.1 dX6_init_9 rfl 0 rfl ?_
  refine n_iconst (v := 0) F.1 dX6_init_10 (by decide) ?_
  refine n_put (ws2 := cO b 6 [.int 0, .int 0, .null] :: ws0) F.1 pX6_15 0 rfl rfl rfl (Nat.le_of_ble_eq_true rfl) rfl dX6_init_11 ?_
  refine n_aload_n F.1 dX6_init_14 rfl 0 rfl ?_
  refine n_bipush (v := 40) F.1 dX6_init_15 (by decide) ?_
  refine n_newa (atype := .long) (a0 := (40, (.inr (.inl (fun _ => 0))))) F.1 1 rfl war_long rfl (fun _ => rfl) (by decide) (by decide) (Nat.le_of_ble_eq_true rfl) ⟨Nat.le_of_ble_eq_true rfl, Nat.le_of_ble_eq_true rfl⟩ dX6_init_17 (fun v1 => ?_)
  refine n_putF (ws2 := cL v1 (eA (xE X) 1) 40 (fun _ => 0) :: cO b 6 [.int 0, .int 0, .ref v1] :: ws0) F.1 F.2.2 qX6_18 1 rfl rfl rfl (Nat.le_of_ble_eq_true rfl) rfl dX6_init_19 ?_
  exact n_ret F Rt (fun _ => v1) rfl dX6_init_22
set_option maxRecDepth 100000 in
set_option maxHeartbeats 4000000 in
theorem iX12 (b : Nat) (ws0 : va_W) (l : Launch) (E : Ev) : CtN l E yX12_init cX12_init 1 1 11 575 20 [.ref b] (cO b 12 [.null, .null, .null, .null, .null, .int 0, .int 0, .int 0, .int 0, .long 0, .int 0, .int 0, .null, .null, .null, .null, .null, .null, .int 0] :: ws0) (fun u => cI (u 11) (eA E 0) 48 (fun _ => 0) :: cI (u 10) (eA E 0) 48 (fun _ => 0) :: cL (u 9) (eA E 1) 40 (fun _ => 0) :: cL (u 8) (eA E 1) 160 (fun _ => 0) :: cI (u 7) (eA E 0) 4 (fun _ => 0) :: cI (u 6) (eA E 0) 4 (fun _ => 0) :: cI (u 5) (eA E 0) 120 (fun _ => 0) :: cI (u 4) (eA E 0) 48 (fun _ => 0) :: cI (u 3) (eA E 0) 48 (fun _ => 0) :: cI (u 2) (eA E 0) 7 (fun _ => 0) :: cI (u 1) (eA E 0) 48 (upd (upd (upd (upd (fun _ => 0) 1 10) 2 5) 3 4032) 4 4) :: cO b 12 [.ref (u 1), .ref (u 2), .ref (u 3), .ref (u 4), .ref (u 5), .int 0, .int 0, .int 0, .int 0, .long 0, .int 0, .int 0, .ref (u 6), .ref (u 7), .ref (u 8), .ref (u 9), .ref (u 10), .ref (u 11), .int 0] :: ws0) := by
  refine ctN_of (lv := [(0, .ref b)]) (ws := fun E => cO b 12 [.null, .null, .null, .null, .null, .int 0, .int 0, .int 0, .int 0, .long 0, .int 0, .int 0, .null, .null, .null, .null, .null, .null, .int 0] :: ws0) (out := fun E u => cI (u 11) (eA E 0) 48 (fun _ => 0) :: cI (u 10) (eA E 0) 48 (fun _ => 0) :: cL (u 9) (eA E 1) 40 (fun _ => 0) :: cL (u 8) (eA E 1) 160 (fun _ => 0) :: cI (u 7) (eA E 0) 4 (fun _ => 0) :: cI (u 6) (eA E 0) 4 (fun _ => 0) :: cI (u 5) (eA E 0) 120 (fun _ => 0) :: cI (u 4) (eA E 0) 48 (fun _ => 0) :: cI (u 3) (eA E 0) 48 (fun _ => 0) :: cI (u 2) (eA E 0) 7 (fun _ => 0) :: cI (u 1) (eA E 0) 48 (upd (upd (upd (upd (fun _ => 0) 1 10) 2 5) 3 4032) 4 4) :: cO b 12 [.ref (u 1), .ref (u 2), .ref (u 3), .ref (u 4), .ref (u 5), .int 0, .int 0, .int 0, .int 0, .long 0, .int 0, .int 0, .ref (u 6), .ref (u 7), .ref (u 8), .ref (u 9), .ref (u 10), .ref (u 11), .int 0] :: ws0) (by decide) rfl rfl (Nat.le_of_ble_eq_true rfl) (fun X F hn Rt => ?_) l E
  have F : FI X cX12_init RX12 (Rk 1 11 575 20) := F
  refine n_aload_n F.1 dX12_init_0 rfl 0 rfl ?_
  refine n_obj F.1 wob_12 wO_i wO_c ⟨Nat.le_of_ble_eq_true rfl, Nat.le_of_ble_eq_true rfl⟩ (by decide) dX12_init_1 ?_
  refine n_aload_n F.1 dX12_init_4 rfl 0 rfl ?_
  refine n_bipush (v := 48) F.1 dX12_init_5 (by decide) ?_
  refine n_newa (atype := .int) (a0 := (48, (.inl (fun _ => 0)))) F.1 0 rfl war_int rfl (fun _ => rfl) (by decide) (by decide) (Nat.le_of_ble_eq_true rfl) ⟨Nat.le_of_ble_eq_true rfl, Nat.le_of_ble_eq_true rfl⟩ dX12_init_7 (fun v1 => ?_)
  refine n_putF (ws2 := cI v1 (eA (xE X) 0) 48 (fun _ => 0) :: cO b 12 [.ref v1, .null, .null, .null, .null, .int 0, .int 0, .int 0, .int 0, .long 0, .int 0, .int 0, .null, .null, .null, .null, .null, .null, .int 0] :: ws0) F.1 F.2.2 qX12_7 1 rfl rfl rfl (Nat.le_of_ble_eq_true rfl) rfl dX12_init_9 ?_
  refine n_aload_n F.1 dX12_init_12 rfl 0 rfl ?_
  refine n_bipush (v := 7) F.1 dX12_init_13 (by decide) ?_
  refine n_newa (atype := .int) (a0 := (7, (.inl (fun _ => 0)))) F.1 0 rfl war_int rfl (fun _ => rfl) (by decide) (by decide) (Nat.le_of_ble_eq_true rfl) ⟨Nat.le_of_ble_eq_true rfl, Nat.le_of_ble_eq_true rfl⟩ dX12_init_15 (fun v2 => ?_)
  refine n_putF (ws2 := cI v2 (eA (xE X) 0) 7 (fun _ => 0) :: cI v1 (eA (xE X) 0) 48 (fun _ => 0) :: cO b 12 [.ref v1, .ref v2, .null, .null, .null, .int 0, .int 0, .int 0, .int 0, .long 0, .int 0, .int 0, .null, .null, .null, .null, .null, .null, .int 0] :: ws0) F.1 F.2.2 qX12_13 2 rfl rfl rfl (Nat.le_of_ble_eq_true rfl) rfl dX12_init_17 ?_
  refine n_aload_n F.1 dX12_init_20 rfl 0 rfl ?_
  refine n_bipush (v := 48) F.1 dX12_init_21 (by decide) ?_
  refine n_newa (atype := .int) (a0 := (48, (.inl (fun _ => 0)))) F.1 0 rfl war_int rfl (fun _ => rfl) (by decide) (by decide) (Nat.le_of_ble_eq_true rfl) ⟨Nat.le_of_ble_eq_true rfl, Nat.le_of_ble_eq_true rfl⟩ dX12_init_23 (fun v3 => ?_)
  refine n_putF (ws2 := cI v3 (eA (xE X) 0) 48 (fun _ => 0) :: cI v2 (eA (xE X) 0) 7 (fun _ => 0) :: cI v1 (eA (xE X) 0) 48 (fun _ => 0) :: cO b 12 [.ref v1, .ref v2, .ref v3, .null, .null, .int 0, .int 0, .int 0, .int 0, .long 0, .int 0, .int 0, .null, .null, .null, .null, .null, .null, .int 0] :: ws0) F.1 F.2.2 qX12_16 3 rfl rfl rfl (Nat.le_of_ble_eq_true rfl) rfl dX12_init_25 ?_
  refine n_aload_n F.1 dX12_init_28 rfl 0 rfl ?_
  refine n_bipush (v := 48) F.1 dX12_init_29 (by decide) ?_
  refine n_newa (atype := .int) (a0 := (48, (.inl (fun _ => 0)))) F.1 0 rfl war_int rfl (fun _ => rfl) (by decide) (by decide) (Nat.le_of_ble_eq_true rfl) ⟨Nat.le_of_ble_eq_true rfl, Nat.le_of_ble_eq_true rfl⟩ dX12_init_31 (fun v4 => ?_)
  refine n_putF (ws2 := cI v4 (eA (xE X) 0) 48 (fun _ => 0) :: cI v3 (eA (xE X) 0) 48 (fun _ => 0) :: cI v2 (eA (xE X) 0) 7 (fun _ => 0) :: cI v1 (eA (xE X) 0) 48 (fun _ => 0) :: cO b 12 [.ref v1, .ref v2, .ref v3, .ref v4, .null, .int 0, .int 0, .int 0, .int 0, .long 0, .int 0, .int 0, .null, .null, .null, .null, .null, .null, .int 0] :: ws0) F.1 F.2.2 qX12_19 4 rfl rfl rfl (Nat.le_of_ble_eq_true rfl) rfl dX12_init_33 ?_
  refine n_aload_n F.1 dX12_init_36 rfl 0 rfl ?_
  refine n_bipush (v := 120) F.1 dX12_init_37 (by decide) ?_
  refine n_newa (atype := .int) (a0 := (120, (.inl (fun _ => 0)))) F.1 0 rfl war_int rfl (fun _ => rfl) (by decide) (by decide) (Nat.le_of_ble_eq_true rfl) ⟨Nat.le_of_ble_eq_true rfl, Nat.le_of_ble_eq_true rfl⟩ dX12_init_39 (fun v5 => ?_)
  refine n_putF (ws2 := cI v5 (eA (xE X) 0) 120 (fun _ => 0) :: cI v4 (eA (xE X) 0) 48 (fun _ => 0) :: cI v3 (eA (xE X) 0) 48 (fun _ => 0) :: cI v2 (eA (xE X) 0) 7 (fun _ => 0) :: cI v1 (eA (xE X) 0) 48 (fun _ => 0) :: cO b 12 [.ref v1, .ref v2, .ref v3, .ref v4, .ref v5, .int 0, .int 0, .int 0, .int 0, .long 0, .int 0, .int 0, .null, .null, .null, .null, .null, .null, .int 0] :: ws0) F.1 F.2.2 qX12_22 5 rfl rfl rfl (Nat.le_of_ble_eq_true rfl) rfl dX12_init_41 ?_
  refine n_aload_n F.1 dX12_init_44 rfl 0 rfl ?_
  refine n_iconst (v := 4) F.1 dX12_init_45 (by decide) ?_
  refine n_newa (atype := .int) (a0 := (4, (.inl (fun _ => 0)))) F.1 0 rfl war_int rfl (fun _ => rfl) (by decide) (by decide) (Nat.le_of_ble_eq_true rfl) ⟨Nat.le_of_ble_eq_true rfl, Nat.le_of_ble_eq_true rfl⟩ dX12_init_46 (fun v6 => ?_)
  refine n_putF (ws2 := cI v6 (eA (xE X) 0) 4 (fun _ => 0) :: cI v5 (eA (xE X) 0) 120 (fun _ => 0) :: cI v4 (eA (xE X) 0) 48 (fun _ => 0) :: cI v3 (eA (xE X) 0) 48 (fun _ => 0) :: cI v2 (eA (xE X) 0) 7 (fun _ => 0) :: cI v1 (eA (xE X) 0) 48 (fun _ => 0) :: cO b 12 [.ref v1, .ref v2, .ref v3, .ref v4, .ref v5, .int 0, .int 0, .int 0, .int 0, .long 0, .int 0, .int 0, .ref v6, .null, .null, .null, .null, .null, .int 0] :: ws0) F.1 F.2.2 qX12_25 6 rfl rfl rfl (Nat.le_of_ble_eq_true rfl) rfl dX12_init_48 ?_
  refine n_aload_n F.1 dX12_init_51 rfl 0 rfl ?_
  refine n_iconst (v := 4) F.1 dX12_init_52 (by decide) ?_
  refine n_newa (atype := .int) (a0 := (4, (.inl (fun _ => 0)))) F.1 0 rfl war_int rfl (fun _ => rfl) (by decide) (by decide) (Nat.le_of_ble_eq_true rfl) ⟨Nat.le_of_ble_eq_true rfl, Nat.le_of_ble_eq_true rfl⟩ dX12_init_53 (fun v7 => ?_)
  refine n_putF (ws2 := cI v7 (eA (xE X) 0) 4 (fun _ => 0) :: cI v6 (eA (xE X) 0) 4 (fun _ => 0) :: cI v5 (eA (xE X) 0) 120 (fun _ => 0) :: cI v4 (eA (xE X) 0) 48 (fun _ => 0) :: cI v3 (eA (xE X) 0) 48 (fun _ => 0) :: cI v2 (eA (xE X) 0) 7 (fun _ => 0) :: cI v1 (eA (xE X) 0) 48 (fun _ => 0) :: cO b 12 [.ref v1, .ref v2, .ref v3, .ref v4, .ref v5, .int 0, .int 0, .int 0, .int 0, .long 0, .int 0, .int 0, .ref v6, .ref v7, .null, .null, .null, .null, .int 0] :: ws0) F.1 F.2.2 qX12_28 7 rfl rfl rfl (Nat.le_of_ble_eq_true rfl) rfl dX12_init_55 ?_
  refine n_aload_n F.1 dX12_init_58 rfl 0 rfl ?_
  refine n_sipush (v := 160) F.1 dX12_init_59 (by decide) ?_
  refine n_newa (atype := .long) (a0 := (160, (.inr (.inl (fun _ => 0))))) F.1 1 rfl war_long rfl (fun _ => rfl) (by decide) (by decide) (Nat.le_of_ble_eq_true rfl) ⟨Nat.le_of_ble_eq_true rfl, Nat.le_of_ble_eq_true rfl⟩ dX12_init_62 (fun v8 => ?_)
  refine n_putF (ws2 := cL v8 (eA (xE X) 1) 160 (fun _ => 0) :: cI v7 (eA (xE X) 0) 4 (fun _ => 0) :: cI v6 (eA (xE X) 0) 4 (fun _ => 0) :: cI v5 (eA (xE X) 0) 120 (fun _ => 0) :: cI v4 (eA (xE X) 0) 48 (fun _ => 0) :: cI v3 (eA (xE X) 0) 48 (fun _ => 0) :: cI v2 (eA (xE X) 0) 7 (fun _ => 0) :: cI v1 (eA (xE X) 0) 48 (fun _ => 0) :: cO b 12 [.ref v1, .ref v2, .ref v3, .ref v4, .ref v5, .int 0, .int 0, .int 0, .int 0, .long 0, .int 0, .int 0, .ref v6, .ref v7, .ref v8, .null, .null, .null, .int 0] :: ws0) F.1 F.2.2 qX12_31 8 rfl rfl rfl (Nat.le_of_ble_eq_true rfl) rfl dX12_init_64 ?_
  refine n_aload_n F.1 dX12_init_67 rfl 0 rfl ?_
  refine n_bipush (v := 40) F.1 dX12_init_68 (by decide) ?_
  refine n_newa (atype := .long) (a0 := (40, (.inr (.inl (fun _ => 0))))) F.1 1 rfl war_long rfl (fun _ => rfl) (by decide) (by decide) (Nat.le_of_ble_eq_true rfl) ⟨Nat.le_of_ble_eq_true rfl, Nat.le_of_ble_eq_true rfl⟩ dX12_init_70 (fun v9 => ?_)
  refine n_putF (ws2 := cL v9 (eA (xE X) 1) 40 (fun _ => 0) :: cL v8 (eA (xE X) 1) 160 (fun _ => 0) :: cI v7 (eA (xE X) 0) 4 (fun _ => 0) :: cI v6 (eA (xE X) 0) 4 (fun _ => 0) :: cI v5 (eA (xE X) 0) 120 (fun _ => 0) :: cI v4 (eA (xE X) 0) 48 (fun _ => 0) :: cI v3 (eA (xE X) 0) 48 (fun _ => 0) :: cI v2 (eA (xE X) 0) 7 (fun _ => 0) :: cI v1 (eA (xE X) 0) 48 (fun _ => 0) :: cO b 12 [.ref v1, .ref v2, .ref v3, .ref v4, .ref v5, .int 0, .int 0, .int 0, .int 0, .long 0, .int 0, .int 0, .ref v6, .ref v7, .ref v8, .ref v9, .null, .null, .int 0] :: ws0) F.1 F.2.2 qX12_35 9 rfl rfl rfl (Nat.le_of_ble_eq_true rfl) rfl dX12_init_72 ?_
  refine n_aload_n F.1 dX12_init_75 rfl 0 rfl ?_
  refine n_bipush (v := 48) F.1 dX12_init_76 (by decide) ?_
  refine n_newa (atype := .int) (a0 := (48, (.inl (fun _ => 0)))) F.1 0 rfl war_int rfl (fun _ => rfl) (by decide) (by decide) (Nat.le_of_ble_eq_true rfl) ⟨Nat.le_of_ble_eq_true rfl, Nat.le_of_ble_eq_true rfl⟩ dX12_init_78 (fun v10 => ?_)
  refine n_putF (ws2 := cI v10 (eA (xE X) 0) 48 (fun _ => 0) :: cL v9 (eA (xE X) 1) 40 (fun _ => 0) :: cL v8 (eA (xE X) 1) 160 (fun _ => 0) :: cI v7 (eA (xE X) 0) 4 (fun _ => 0) :: cI v6 (eA (xE X) 0) 4 (fun _ => 0) :: cI v5 (eA (xE X) 0) 120 (fun _ => 0) :: cI v4 (eA (xE X) 0) 48 (fun _ => 0) :: cI v3 (eA (xE X) 0) 48 (fun _ => 0) :: cI v2 (eA (xE X) 0) 7 (fun _ => 0) :: cI v1 (eA (xE X) 0) 48 (fun _ => 0) :: cO b 12 [.ref v1, .ref v2, .ref v3, .ref v4, .ref v5, .int 0, .int 0, .int 0, .int 0, .long 0, .int 0, .int 0, .ref v6, .ref v7, .ref v8, .ref v9, .ref v10, .null, .int 0] :: ws0) F.1 F.2.2 qX12_38 10 rfl rfl rfl (Nat.le_of_ble_eq_true rfl) rfl dX12_init_80 ?_
  refine n_aload_n F.1 dX12_init_83 rfl 0 rfl ?_
  refine n_bipush (v := 48) F.1 dX12_init_84 (by decide) ?_
  refine n_newa (atype := .int) (a0 := (48, (.inl (fun _ => 0)))) F.1 0 rfl war_int rfl (fun _ => rfl) (by decide) (by decide) (Nat.le_of_ble_eq_true rfl) ⟨Nat.le_of_ble_eq_true rfl, Nat.le_of_ble_eq_true rfl⟩ dX12_init_86 (fun v11 => ?_)
  refine n_putF (ws2 := cI v11 (eA (xE X) 0) 48 (fun _ => 0) :: cI v10 (eA (xE X) 0) 48 (fun _ => 0) :: cL v9 (eA (xE X) 1) 40 (fun _ => 0) :: cL v8 (eA (xE X) 1) 160 (fun _ => 0) :: cI v7 (eA (xE X) 0) 4 (fun _ => 0) :: cI v6 (eA (xE X) 0) 4 (fun _ => 0) :: cI v5 (eA (xE X) 0) 120 (fun _ => 0) :: cI v4 (eA (xE X) 0) 48 (fun _ => 0) :: cI v3 (eA (xE X) 0) 48 (fun _ => 0) :: cI v2 (eA (xE X) 0) 7 (fun _ => 0) :: cI v1 (eA (xE X) 0) 48 (fun _ => 0) :: cO b 12 [.ref v1, .ref v2, .ref v3, .ref v4, .ref v5, .int 0, .int 0, .int 0, .int 0, .long 0, .int 0, .int 0, .ref v6, .ref v7, .ref v8, .ref v9, .ref v10, .ref v11, .int 0] :: ws0) F.1 F.2.2 qX12_41 11 rfl rfl rfl (Nat.le_of_ble_eq_true rfl) rfl dX12_init_88 ?_
  refine n_aload_n F.1 dX12_init_91 rfl 0 rfl ?_
  refine n_get F.1 fX12_7 11 rfl rfl dX12_init_92 ?_
  refine n_iconst (v := 1) F.1 dX12_init_95 (by decide) ?_
  refine n_bipush (v := 10) F.1 dX12_init_96 (by decide) ?_
  refine n_iast (ws2 := cI v11 (eA (xE X) 0) 48 (fun _ => 0) :: cI v10 (eA (xE X) 0) 48 (fun _ => 0) :: cL v9 (eA (xE X) 1) 40 (fun _ => 0) :: cL v8 (eA (xE X) 1) 160 (fun _ => 0) :: cI v7 (eA (xE X) 0) 4 (fun _ => 0) :: cI v6 (eA (xE X) 0) 4 (fun _ => 0) :: cI v5 (eA (xE X) 0) 120 (fun _ => 0) :: cI v4 (eA (xE X) 0) 48 (fun _ => 0) :: cI v3 (eA (xE X) 0) 48 (fun _ => 0) :: cI v2 (eA (xE X) 0) 7 (fun _ => 0) :: cI v1 (eA (xE X) 0) 48 (upd (fun _ => 0) 1 10) :: cO b 12 [.ref v1, .ref v2, .ref v3, .ref v4, .ref v5, .int 0, .int 0, .int 0, .int 0, .long 0, .int 0, .int 0, .ref v6, .ref v7, .ref v8, .ref v9, .ref v10, .ref v11, .int 0] :: ws0) (j := 1) F.1 10 0 rfl rfl (by unfold vp_in; decide) (by decide) rfl dX12_init_98 ?_
  refine n_aload_n F.1 dX12_init_99 rfl 0 rfl ?_
  refine n_get F.1 fX12_7 11 rfl rfl dX12_init_100 ?_
  refine n_iconst (v := 2) F.1 dX12_init_103 (by decide) ?_
  refine n_iconst (v := 5) F.1 dX12_init_104 (by decide) ?_
  refine n_iast (ws2 := cI v11 (eA (xE X) 0) 48 (fun _ => 0) :: cI v10 (eA (xE X) 0) 48 (fun _ => 0) :: cL v9 (eA (xE X) 1) 40 (fun _ => 0) :: cL v8 (eA (xE X) 1) 160 (fun _ => 0) :: cI v7 (eA (xE X) 0) 4 (fun _ => 0) :: cI v6 (eA (xE X) 0) 4 (fun _ => 0) :: cI v5 (eA (xE X) 0) 120 (fun _ => 0) :: cI v4 (eA (xE X) 0) 48 (fun _ => 0) :: cI v3 (eA (xE X) 0) 48 (fun _ => 0) :: cI v2 (eA (xE X) 0) 7 (fun _ => 0) :: cI v1 (eA (xE X) 0) 48 (upd (upd (fun _ => 0) 1 10) 2 5) :: cO b 12 [.ref v1, .ref v2, .ref v3, .ref v4, .ref v5, .int 0, .int 0, .int 0, .int 0, .long 0, .int 0, .int 0, .ref v6, .ref v7, .ref v8, .ref v9, .ref v10, .ref v11, .int 0] :: ws0) (j := 2) F.1 10 0 rfl rfl (by unfold vp_in; decide) (by decide) rfl dX12_init_105 ?_
  refine n_aload_n F.1 dX12_init_106 rfl 0 rfl ?_
  refine n_get F.1 fX12_7 11 rfl rfl dX12_init_107 ?_
  refine n_iconst (v := 3) F.1 dX12_init_110 (by decide) ?_
  refine n_sipush (v := 4032) F.1 dX12_init_111 (by decide) ?_
  refine n_iast (ws2 := cI v11 (eA (xE X) 0) 48 (fun _ => 0) :: cI v10 (eA (xE X) 0) 48 (fun _ => 0) :: cL v9 (eA (xE X) 1) 40 (fun _ => 0) :: cL v8 (eA (xE X) 1) 160 (fun _ => 0) :: cI v7 (eA (xE X) 0) 4 (fun _ => 0) :: cI v6 (eA (xE X) 0) 4 (fun _ => 0) :: cI v5 (eA (xE X) 0) 120 (fun _ => 0) :: cI v4 (eA (xE X) 0) 48 (fun _ => 0) :: cI v3 (eA (xE X) 0) 48 (fun _ => 0) :: cI v2 (eA (xE X) 0) 7 (fun _ => 0) :: cI v1 (eA (xE X) 0) 48 (upd (upd (upd (fun _ => 0) 1 10) 2 5) 3 4032) :: cO b 12 [.ref v1, .ref v2, .ref v3, .ref v4, .ref v5, .int 0, .int 0, .int 0, .int 0, .long 0, .int 0, .int 0, .ref v6, .ref v7, .ref v8, .ref v9, .ref v10, .ref v11, .int 0] :: ws0) (j := 3) F.1 10 0 rfl rfl (by unfold vp_in; decide) (by decide) rfl dX12_init_114 ?_
  refine n_aload_n F.1 dX12_init_115 rfl 0 rfl ?_
  refine n_get F.1 fX12_7 11 rfl rfl dX12_init_116 ?_
  refine n_iconst (v := 4) F.1 dX12_init_119 (by decide) ?_
  refine n_iconst (v := 4) F.1 dX12_init_120 (by decide) ?_
  refine n_iast (ws2 := cI v11 (eA (xE X) 0) 48 (fun _ => 0) :: cI v10 (eA (xE X) 0) 48 (fun _ => 0) :: cL v9 (eA (xE X) 1) 40 (fun _ => 0) :: cL v8 (eA (xE X) 1) 160 (fun _ => 0) :: cI v7 (eA (xE X) 0) 4 (fun _ => 0) :: cI v6 (eA (xE X) 0) 4 (fun _ => 0) :: cI v5 (eA (xE X) 0) 120 (fun _ => 0) :: cI v4 (eA (xE X) 0) 48 (fun _ => 0) :: cI v3 (eA (xE X) 0) 48 (fun _ => 0) :: cI v2 (eA (xE X) 0) 7 (fun _ => 0) :: cI v1 (eA (xE X) 0) 48 (upd (upd (upd (upd (fun _ => 0) 1 10) 2 5) 3 4032) 4 4) :: cO b 12 [.ref v1, .ref v2, .ref v3, .ref v4, .ref v5, .int 0, .int 0, .int 0, .int 0, .long 0, .int 0, .int 0, .ref v6, .ref v7, .ref v8, .ref v9, .ref v10, .ref v11, .int 0] :: ws0) (j := 4) F.1 10 0 rfl rfl (by unfold vp_in; decide) (by decide) rfl dX12_init_121 ?_
  exact n_ret F Rt (fun i => [0, v1, v2, v3, v4, v5, v6, v7, v8, v9, v10, v11].getD i 0) rfl dX12_init_122

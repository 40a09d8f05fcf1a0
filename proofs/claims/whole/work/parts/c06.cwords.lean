/-! written by wip/gen/ctor.py: the words that the constructors use -/
theorem cw_0 : Cond.methodLink RX5 3 Lib.objectInit ∈ sd_W := sd_in (i := 116) (by decide +kernel) rfl
theorem cw_1 : Cond.instanceMethod Lib.objectInit ∈ sd_W := sd_in (i := 109) (by decide +kernel) rfl
theorem cw_2 : Cond.code Lib.objectInit ⟨#[0xb1]⟩ 1 none ∈ sd_W := sd_in (i := 110) (by decide +kernel) rfl
theorem cw_3 : Cond.methodLink RX7 3 Lib.objectInit ∈ sd_W := sd_in (i := 176) (by decide +kernel) rfl
theorem cw_4 : Cond.methodLink RX8 3 Lib.objectInit ∈ sd_W := sd_in (i := 193) (by decide +kernel) rfl
theorem cw_5 : Cond.methodLink RX6 3 Lib.objectInit ∈ sd_W := sd_in (i := 224) (by decide +kernel) rfl
theorem cw_6 : Cond.methodLink RX4 3 Lib.objectInit ∈ sd_W := sd_in (i := 241) (by decide +kernel) rfl
theorem cw_7 : Cond.methodLink RX3 3 Lib.objectInit ∈ sd_W := sd_in (i := 279) (by decide +kernel) rfl
theorem cw_8 : Cond.methodLink RX2 3 Lib.objectInit ∈ sd_W := sd_in (i := 307) (by decide +kernel) rfl
theorem cw_9 : Cond.methodLink RX0 3 Lib.objectInit ∈ sd_W := sd_in (i := 329) (by decide +kernel) rfl
theorem cw_10 : Cond.methodLink RX1 3 Lib.objectInit ∈ sd_W := sd_in (i := 379) (by decide +kernel) rfl
theorem cw_11 : Cond.methodLink RX10 1 Lib.objectInit ∈ sd_W := sd_in (i := 1039) (by decide +kernel) rfl
theorem cw_12 : Cond.methodLink RX9 1 Lib.objectInit ∈ sd_W := sd_in (i := 108) (by decide +kernel) rfl
theorem cw_13 : Cond.classLink RX9 7 RX5 ∈ sd_W := sd_in (i := 111) (by decide +kernel) rfl
theorem cw_14 : Cond.instantiable RX5 10 ∈ sd_W := sd_in (i := 112) (by decide +kernel) rfl
theorem cw_15 : Cond.initialized RX5 ∈ sd_W := sd_in (i := 87) (by decide +kernel) rfl
theorem cw_16 : Cond.code yX5_init cX5_init 1 none ∈ sd_W := sd_in (i := 115) (by decide +kernel) rfl
theorem cw_17 : Cond.instanceMethod yX5_init ∈ sd_W := sd_in (i := 114) (by decide +kernel) rfl
theorem cw_18 : Cond.classLink RX9 16 RX7 ∈ sd_W := sd_in (i := 171) (by decide +kernel) rfl
theorem cw_19 : Cond.instantiable RX7 3 ∈ sd_W := sd_in (i := 172) (by decide +kernel) rfl
theorem cw_20 : Cond.initialized RX7 ∈ sd_W := sd_in (i := 88) (by decide +kernel) rfl
theorem cw_21 : Cond.methodLink RX9 18 yX7_init ∈ sd_W := sd_in (i := 173) (by decide +kernel) rfl
theorem cw_22 : Cond.code yX7_init cX7_init 2 none ∈ sd_W := sd_in (i := 175) (by decide +kernel) rfl
theorem cw_23 : Cond.instanceMethod yX7_init ∈ sd_W := sd_in (i := 174) (by decide +kernel) rfl
theorem cw_24 : Cond.classLink RX9 25 RX8 ∈ sd_W := sd_in (i := 188) (by decide +kernel) rfl
theorem cw_25 : Cond.instantiable RX8 8 ∈ sd_W := sd_in (i := 189) (by decide +kernel) rfl
theorem cw_26 : Cond.initialized RX8 ∈ sd_W := sd_in (i := 89) (by decide +kernel) rfl
theorem cw_27 : Cond.methodLink RX9 27 yX8_init ∈ sd_W := sd_in (i := 190) (by decide +kernel) rfl
theorem cw_28 : Cond.code yX8_init cX8_init 2 none ∈ sd_W := sd_in (i := 192) (by decide +kernel) rfl
theorem cw_29 : Cond.instanceMethod yX8_init ∈ sd_W := sd_in (i := 191) (by decide +kernel) rfl
theorem cw_30 : Cond.classLink RX9 28 RX6 ∈ sd_W := sd_in (i := 219) (by decide +kernel) rfl
theorem cw_31 : Cond.instantiable RX6 3 ∈ sd_W := sd_in (i := 220) (by decide +kernel) rfl
theorem cw_32 : Cond.initialized RX6 ∈ sd_W := sd_in (i := 90) (by decide +kernel) rfl
theorem cw_33 : Cond.code yX6_init cX6_init 1 none ∈ sd_W := sd_in (i := 223) (by decide +kernel) rfl
theorem cw_34 : Cond.instanceMethod yX6_init ∈ sd_W := sd_in (i := 222) (by decide +kernel) rfl
theorem cw_35 : Cond.classLink RX9 31 RX4 ∈ sd_W := sd_in (i := 235) (by decide +kernel) rfl
theorem cw_36 : Cond.instantiable RX4 9 ∈ sd_W := sd_in (i := 237) (by decide +kernel) rfl
theorem cw_37 : Cond.initialized RX4 ∈ sd_W := sd_in (i := 91) (by decide +kernel) rfl
theorem cw_38 : Cond.methodLink RX9 37 yX4_init ∈ sd_W := sd_in (i := 238) (by decide +kernel) rfl
theorem cw_39 : Cond.code yX4_init cX4_init 5 none ∈ sd_W := sd_in (i := 240) (by decide +kernel) rfl
theorem cw_40 : Cond.instanceMethod yX4_init ∈ sd_W := sd_in (i := 239) (by decide +kernel) rfl
theorem cw_41 : Cond.classLink RX9 40 RX3 ∈ sd_W := sd_in (i := 274) (by decide +kernel) rfl
theorem cw_42 : Cond.instantiable RX3 5 ∈ sd_W := sd_in (i := 275) (by decide +kernel) rfl
theorem cw_43 : Cond.initialized RX3 ∈ sd_W := sd_in (i := 92) (by decide +kernel) rfl
theorem cw_44 : Cond.methodLink RX9 42 yX3_init ∈ sd_W := sd_in (i := 276) (by decide +kernel) rfl
theorem cw_45 : Cond.code yX3_init cX3_init 2 none ∈ sd_W := sd_in (i := 278) (by decide +kernel) rfl
theorem cw_46 : Cond.instanceMethod yX3_init ∈ sd_W := sd_in (i := 277) (by decide +kernel) rfl
theorem cw_47 : Cond.classLink RX9 47 RX2 ∈ sd_W := sd_in (i := 302) (by decide +kernel) rfl
theorem cw_48 : Cond.instantiable RX2 5 ∈ sd_W := sd_in (i := 303) (by decide +kernel) rfl
theorem cw_49 : Cond.initialized RX2 ∈ sd_W := sd_in (i := 93) (by decide +kernel) rfl
theorem cw_50 : Cond.methodLink RX9 49 yX2_init ∈ sd_W := sd_in (i := 304) (by decide +kernel) rfl
theorem cw_51 : Cond.code yX2_init cX2_init 3 none ∈ sd_W := sd_in (i := 306) (by decide +kernel) rfl
theorem cw_52 : Cond.instanceMethod yX2_init ∈ sd_W := sd_in (i := 305) (by decide +kernel) rfl
theorem cw_53 : Cond.classLink RX9 56 RX0 ∈ sd_W := sd_in (i := 324) (by decide +kernel) rfl
theorem cw_54 : Cond.instantiable RX0 11 ∈ sd_W := sd_in (i := 325) (by decide +kernel) rfl
theorem cw_55 : Cond.initialized RX0 ∈ sd_W := sd_in (i := 94) (by decide +kernel) rfl
theorem cw_56 : Cond.methodLink RX9 58 yX0_init ∈ sd_W := sd_in (i := 326) (by decide +kernel) rfl
theorem cw_57 : Cond.code yX0_init cX0_init 3 none ∈ sd_W := sd_in (i := 328) (by decide +kernel) rfl
theorem cw_58 : Cond.instanceMethod yX0_init ∈ sd_W := sd_in (i := 327) (by decide +kernel) rfl
theorem cw_59 : Cond.classLink RX9 63 RX1 ∈ sd_W := sd_in (i := 374) (by decide +kernel) rfl
theorem cw_60 : Cond.instantiable RX1 8 ∈ sd_W := sd_in (i := 375) (by decide +kernel) rfl
theorem cw_61 : Cond.initialized RX1 ∈ sd_W := sd_in (i := 95) (by decide +kernel) rfl
theorem cw_62 : Cond.methodLink RX9 65 yX1_init ∈ sd_W := sd_in (i := 376) (by decide +kernel) rfl
theorem cw_63 : Cond.code yX1_init cX1_init 2 none ∈ sd_W := sd_in (i := 378) (by decide +kernel) rfl
theorem cw_64 : Cond.instanceMethod yX1_init ∈ sd_W := sd_in (i := 377) (by decide +kernel) rfl
theorem cw_65 : Cond.classLink RL 8 RX9 ∈ sd_W := sd_in (i := 103) (by decide +kernel) rfl
theorem cw_66 : Cond.instantiable RX9 9 ∈ sd_W := sd_in (i := 104) (by decide +kernel) rfl
theorem cw_67 : Cond.initialized RX9 ∈ sd_W := sd_in (i := 86) (by decide +kernel) rfl
theorem cw_68 : Cond.methodLink RL 15 yX9_init ∈ sd_W := sd_in (i := 105) (by decide +kernel) rfl
theorem cw_69 : Cond.code yX9_init cX9_init 4 none ∈ sd_W := sd_in (i := 107) (by decide +kernel) rfl
theorem cw_70 : Cond.instanceMethod yX9_init ∈ sd_W := sd_in (i := 106) (by decide +kernel) rfl
theorem cw_71 : Cond.classLink RL 16 RX10 ∈ sd_W := sd_in (i := 1034) (by decide +kernel) rfl
theorem cw_72 : Cond.instantiable RX10 45 ∈ sd_W := sd_in (i := 1035) (by decide +kernel) rfl
theorem cw_73 : Cond.initialized RX10 ∈ sd_W := sd_in (i := 96) (by decide +kernel) rfl
theorem cw_74 : Cond.methodLink RL 18 yX10_init ∈ sd_W := sd_in (i := 1036) (by decide +kernel) rfl
theorem cw_75 : Cond.code yX10_init cX10_init 1 none ∈ sd_W := sd_in (i := 1038) (by decide +kernel) rfl
theorem cw_76 : Cond.instanceMethod yX10_init ∈ sd_W := sd_in (i := 1037) (by decide +kernel) rfl
theorem ci_wI : Cond.arrayClass .int ∈ sd_W := sd_in (i := 169) (by decide +kernel) rfl
theorem ci_wL : Cond.arrayClass .long ∈ sd_W := sd_in (i := 170) (by decide +kernel) rfl
theorem ci_wZ : Cond.arrayClass .boolean ∈ sd_W := sd_in (i := 1176) (by decide +kernel) rfl
theorem cf_5 : ∀ j, j < 10 → defaultValue (tyX5 j) = vp_V [.null, .null, .null, .null, .null, .long 0, .long 0, .long 0, .long 0, .int 0] j := by decide +kernel
theorem cf_7 : ∀ j, j < 3 → defaultValue (tyX7 j) = vp_V [.null, .null, .long 0] j := by decide +kernel
theorem cf_8 : ∀ j, j < 8 → defaultValue (tyX8 j) = vp_V [.null, .null, .null, .null, .long 0, .long 0, .long 0, .int 0] j := by decide +kernel
theorem cf_6 : ∀ j, j < 3 → defaultValue (tyX6 j) = vp_V [.null, .null, .int 0] j := by decide +kernel
theorem cf_4 : ∀ j, j < 9 → defaultValue (tyX4 j) = vp_V [.null, .null, .null, .int 0, .null, .null, .null, .null, .int 0] j := by decide +kernel
theorem cf_3 : ∀ j, j < 5 → defaultValue (tyX3 j) = vp_V [.null, .null, .null, .null, .long 0] j := by decide +kernel
theorem cf_2 : ∀ j, j < 5 → defaultValue (tyX2 j) = vp_V [.null, .null, .null, .null, .long 0] j := by decide +kernel
theorem cf_0 : ∀ j, j < 11 → defaultValue (tyX0 j) = vp_V [.null, .null, .null, .null, .null, .null, .null, .null, .long 0, .int 0, .int 0] j := by decide +kernel
theorem cf_1 : ∀ j, j < 8 → defaultValue (tyX1 j) = vp_V [.null, .null, .int 0, .int 0, .int 0, .long 0, .long 0, .long 0] j := by decide +kernel
theorem cf_10 : ∀ j, j < 45 → defaultValue (tyX10 j) = vp_V [.int 0, .int 0, .null, .null, .null, .null, .long 0, .int 0, .int 0, .int 0, .null, .null, .null, .null, .null, .null, .null, .int 0, .null, .null, .null, .int 0, .null, .null, .null, .long 0, .null, .null, .null, .null, .null, .null, .null, .null, .null, .null, .int 0, .int 0, .int 0, .null, .null, .null, .null, .null, .int 0] j := by decide +kernel
theorem cf_9 : ∀ j, j < 9 → defaultValue (tyX9 j) = vp_V [.null, .null, .null, .null, .null, .null, .null, .int 0, .int 0] j := by decide +kernel

theorem kc_J6_265 : Cond.constant RJ6 265 1431655765 ∈ zT := zw_of _ 1046 (by decide +kernel) (by decide +kernel)
theorem kc_J6_266 : Cond.constant RJ6 266 858993459 ∈ zT := zw_of _ 1047 (by decide +kernel) (by decide +kernel)
theorem kc_J6_267 : Cond.constant RJ6 267 252645135 ∈ zT := zw_of _ 1048 (by decide +kernel) (by decide +kernel)
theorem fl_X0_24 : Cond.fieldLink RX0 24 (TX0 4).1 (TX0 4).2.1 (TX0 4).2.2.1 ∈ zT := zw_of _ 487 (by decide +kernel) (by decide +kernel)
theorem fl_X0_9 : Cond.fieldLink RX0 9 (TX0 0).1 (TX0 0).2.1 (TX0 0).2.2.1 ∈ zT := zw_of _ 483 (by decide +kernel) (by decide +kernel)
theorem ml_X0_31 : Cond.methodLink RX0 31 arraycopyName ∈ zT := zw_of _ 929 (by decide +kernel) (by decide +kernel)
theorem wn_copy : Cond.native arraycopyName ∈ zT := zw_of _ 931 (by decide +kernel) (by decide +kernel)
theorem wt_copy : Cond.static arraycopyName ∈ zT := zw_of _ 930 (by decide +kernel) (by decide +kernel)
theorem wi_System : Cond.initialized "java/lang/System" ∈ zT := zw_of _ 142 (by decide +kernel) (by decide +kernel)
theorem fl_X0_15 : Cond.fieldLink RX0 15 (TX0 1).1 (TX0 1).2.1 (TX0 1).2.2.1 ∈ zT := zw_of _ 484 (by decide +kernel) (by decide +kernel)
theorem fl_X0_18 : Cond.fieldLink RX0 18 (TX0 2).1 (TX0 2).2.1 (TX0 2).2.2.1 ∈ zT := zw_of _ 485 (by decide +kernel) (by decide +kernel)
theorem fl_X0_21 : Cond.fieldLink RX0 21 (TX0 3).1 (TX0 3).2.1 (TX0 3).2.2.1 ∈ zT := zw_of _ 486 (by decide +kernel) (by decide +kernel)
theorem ml_X0_28 : Cond.methodLink RX0 28 yX0_dropFirst ∈ zT := zw_of _ 925 (by decide +kernel) (by decide +kernel)
theorem ni_X0 : Cond.initialized RX0 ∈ zT := zw_of _ 132 (by decide +kernel) (by decide +kernel)
theorem cd_X0_dropFirst : Cond.code yX0_dropFirst cX0_dropFirst 1 none ∈ zT := zw_of _ 928 (by decide +kernel) (by decide +kernel)
theorem cw_X0_28 : zCw RX0 28 yX0_dropFirst cX0_dropFirst 1 none 0 := ⟨ml_X0_28, ni_X0, cd_X0_dropFirst, by decide, by decide, by decide +kernel⟩
theorem wi_X0_dropFirst : Cond.instanceMethod yX0_dropFirst ∈ zT := zw_of _ 927 (by decide +kernel) (by decide +kernel)
theorem ws_X0_dropFirst : Cond.selects RX0 yX0_dropFirst yX0_dropFirst ∈ zT := zw_of _ 34 (by decide +kernel) (by decide +kernel)
theorem fl_X0_37 : Cond.fieldLink RX0 37 (TX5 0).1 (TX5 0).2.1 (TX5 0).2.2.1 ∈ zT := zw_of _ 403 (by decide +kernel) (by decide +kernel)
theorem fl_X0_42 : Cond.fieldLink RX0 42 (TX5 1).1 (TX5 1).2.1 (TX5 1).2.2.1 ∈ zT := zw_of _ 406 (by decide +kernel) (by decide +kernel)
theorem fl_X0_45 : Cond.fieldLink RX0 45 (TX5 5).1 (TX5 5).2.1 (TX5 5).2.2.1 ∈ zT := zw_of _ 418 (by decide +kernel) (by decide +kernel)
theorem fl_X0_48 : Cond.fieldLink RX0 48 (TX5 4).1 (TX5 4).2.1 (TX5 4).2.2.1 ∈ zT := zw_of _ 414 (by decide +kernel) (by decide +kernel)
theorem fl_X0_51 : Cond.fieldLink RX0 51 (TX5 6).1 (TX5 6).2.1 (TX5 6).2.2.1 ∈ zT := zw_of _ 421 (by decide +kernel) (by decide +kernel)
theorem fl_X0_54 : Cond.fieldLink RX0 54 (TX5 7).1 (TX5 7).2.1 (TX5 7).2.2.1 ∈ zT := zw_of _ 424 (by decide +kernel) (by decide +kernel)
theorem fl_X0_57 : Cond.fieldLink RX0 57 (TX5 12).1 (TX5 12).2.1 (TX5 12).2.2.1 ∈ zT := zw_of _ 437 (by decide +kernel) (by decide +kernel)
theorem fl_X3_28 : Cond.fieldLink RX3 28 (TX3 5).1 (TX3 5).2.1 (TX3 5).2.2.1 ∈ zT := zw_of _ 511 (by decide +kernel) (by decide +kernel)
theorem fl_X3_25 : Cond.fieldLink RX3 25 (TX3 4).1 (TX3 4).2.1 (TX3 4).2.2.1 ∈ zT := zw_of _ 510 (by decide +kernel) (by decide +kernel)
theorem fl_X3_35 : Cond.fieldLink RX3 35 (TX3 7).1 (TX3 7).2.1 (TX3 7).2.2.1 ∈ zT := zw_of _ 514 (by decide +kernel) (by decide +kernel)
theorem fl_X3_31 : Cond.fieldLink RX3 31 (TX3 6).1 (TX3 6).2.1 (TX3 6).2.2.1 ∈ zT := zw_of _ 512 (by decide +kernel) (by decide +kernel)
theorem fl_X5_27 : Cond.fieldLink RX5 27 (TX5 5).1 (TX5 5).2.1 (TX5 5).2.2.1 ∈ zT := zw_of _ 416 (by decide +kernel) (by decide +kernel)
theorem fl_X5_50 : Cond.fieldLink RX5 50 (TX5 14).1 (TX5 14).2.1 (TX5 14).2.2.1 ∈ zT := zw_of _ 441 (by decide +kernel) (by decide +kernel)
theorem fl_X5_90 : Cond.fieldLink RX5 90 (TX6 14).1 (TX6 14).2.1 (TX6 14).2.2.1 ∈ zT := zw_of _ 244 (by decide +kernel) (by decide +kernel)
theorem ml_X5_93 : Cond.methodLink RX5 93 yX5_isUp ∈ zT := zw_of _ 822 (by decide +kernel) (by decide +kernel)
theorem ni_X5 : Cond.initialized RX5 ∈ zT := zw_of _ 131 (by decide +kernel) (by decide +kernel)
theorem cd_X5_isUp : Cond.code yX5_isUp cX5_isUp 2 (some .boolean) ∈ zT := zw_of _ 825 (by decide +kernel) (by decide +kernel)
theorem cw_X5_93 : zCw RX5 93 yX5_isUp cX5_isUp 2 (some .boolean) 1 := ⟨ml_X5_93, ni_X5, cd_X5_isUp, by decide, by decide, by decide +kernel⟩
theorem wi_X5_isUp : Cond.instanceMethod yX5_isUp ∈ zT := zw_of _ 823 (by decide +kernel) (by decide +kernel)
theorem ws_X5_isUp : Cond.selects RX5 yX5_isUp yX5_isUp ∈ zT := zw_of _ 824 (by decide +kernel) (by decide +kernel)
theorem fl_X5_9 : Cond.fieldLink RX5 9 (TX5 0).1 (TX5 0).2.1 (TX5 0).2.2.1 ∈ zT := zw_of _ 402 (by decide +kernel) (by decide +kernel)
theorem fl_X5_15 : Cond.fieldLink RX5 15 (TX5 1).1 (TX5 1).2.1 (TX5 1).2.2.1 ∈ zT := zw_of _ 405 (by decide +kernel) (by decide +kernel)
theorem ml_X3_42 : Cond.methodLink RX3 42 yX3_readable ∈ zT := zw_of _ 1187 (by decide +kernel) (by decide +kernel)
theorem ni_X3 : Cond.initialized RX3 ∈ zT := zw_of _ 133 (by decide +kernel) (by decide +kernel)
theorem cd_X3_readable : Cond.code yX3_readable cX3_readable 1 (some .int) ∈ zT := zw_of _ 1190 (by decide +kernel) (by decide +kernel)
theorem cw_X3_42 : zCw RX3 42 yX3_readable cX3_readable 1 (some .int) 0 := ⟨ml_X3_42, ni_X3, cd_X3_readable, by decide, by decide, by decide +kernel⟩
theorem wi_X3_readable : Cond.instanceMethod yX3_readable ∈ zT := zw_of _ 1188 (by decide +kernel) (by decide +kernel)
theorem ws_X3_readable : Cond.selects RX3 yX3_readable yX3_readable ∈ zT := zw_of _ 1189 (by decide +kernel) (by decide +kernel)
theorem ml_X3_46 : Cond.methodLink RX3 46 yX3_counts ∈ zT := zw_of _ 1200 (by decide +kernel) (by decide +kernel)
theorem cd_X3_counts : Cond.code yX3_counts cX3_counts 2 (some .boolean) ∈ zT := zw_of _ 1203 (by decide +kernel) (by decide +kernel)
theorem cw_X3_46 : zCw RX3 46 yX3_counts cX3_counts 2 (some .boolean) 1 := ⟨ml_X3_46, ni_X3, cd_X3_counts, by decide, by decide, by decide +kernel⟩
theorem wi_X3_counts : Cond.instanceMethod yX3_counts ∈ zT := zw_of _ 1202 (by decide +kernel) (by decide +kernel)
theorem ws_X3_counts : Cond.selects RX3 yX3_counts yX3_counts ∈ zT := zw_of _ 47 (by decide +kernel) (by decide +kernel)
theorem fl_X3_9 : Cond.fieldLink RX3 9 (TX3 0).1 (TX3 0).2.1 (TX3 0).2.2.1 ∈ zT := zw_of _ 506 (by decide +kernel) (by decide +kernel)
theorem fl_X3_56 : Cond.fieldLink RX3 56 (TX5 11).1 (TX5 11).2.1 (TX5 11).2.2.1 ∈ zT := zw_of _ 434 (by decide +kernel) (by decide +kernel)
theorem fl_X3_21 : Cond.fieldLink RX3 21 (TX3 3).1 (TX3 3).2.1 (TX3 3).2.2.1 ∈ zT := zw_of _ 509 (by decide +kernel) (by decide +kernel)
theorem fl_X3_15 : Cond.fieldLink RX3 15 (TX3 1).1 (TX3 1).2.1 (TX3 1).2.2.1 ∈ zT := zw_of _ 507 (by decide +kernel) (by decide +kernel)
theorem fl_X3_18 : Cond.fieldLink RX3 18 (TX3 2).1 (TX3 2).2.1 (TX3 2).2.2.1 ∈ zT := zw_of _ 508 (by decide +kernel) (by decide +kernel)
theorem ml_X3_61 : Cond.methodLink RX3 61 yX5_cloudsAt ∈ zT := zw_of _ 1209 (by decide +kernel) (by decide +kernel)
theorem cd_X5_cloudsAt : Cond.code yX5_cloudsAt cX5_cloudsAt 5 (some .int) ∈ zT := zw_of _ 871 (by decide +kernel) (by decide +kernel)
theorem cw_X3_61 : zCw RX3 61 yX5_cloudsAt cX5_cloudsAt 5 (some .int) 2 := ⟨ml_X3_61, ni_X5, cd_X5_cloudsAt, by decide, by decide, by decide +kernel⟩
theorem wi_X5_cloudsAt : Cond.instanceMethod yX5_cloudsAt ∈ zT := zw_of _ 869 (by decide +kernel) (by decide +kernel)
theorem ws_X5_cloudsAt : Cond.selects RX5 yX5_cloudsAt yX5_cloudsAt ∈ zT := zw_of _ 870 (by decide +kernel) (by decide +kernel)
theorem ml_X3_50 : Cond.methodLink RX3 50 Lib.Math.max.name ∈ zT := zw_of _ 1204 (by decide +kernel) (by decide +kernel)
theorem fl_X5_180 : Cond.fieldLink RX5 180 (TX6 7).1 (TX6 7).2.1 (TX6 7).2.2.1 ∈ zT := zw_of _ 219 (by decide +kernel) (by decide +kernel)
theorem fl_X5_58 : Cond.fieldLink RX5 58 (TX5 11).1 (TX5 11).2.1 (TX5 11).2.2.1 ∈ zT := zw_of _ 433 (by decide +kernel) (by decide +kernel)
theorem ni_X7 : Cond.initialized RX7 ∈ zT := zw_of _ 123 (by decide +kernel) (by decide +kernel)
theorem cd_X7_isCell : Cond.code yX7_isCell cX7_isCell 2 (some .boolean) ∈ zT := zw_of _ 844 (by decide +kernel) (by decide +kernel)
theorem cn_X5_134 : zCn RX5 134 yX7_isCell cX7_isCell 2 (some .boolean) 2 := ⟨fun _ q => q.2.2.2.2.2.2.2.1, ni_X7, cd_X7_isCell, by decide, by decide, by decide +kernel⟩
theorem wt_X7_isCell : Cond.static yX7_isCell ∈ zT := zw_of _ 843 (by decide +kernel) (by decide +kernel)
theorem ml_X5_130 : Cond.methodLink RX5 130 yX5_moveCloud ∈ zT := zw_of _ 969 (by decide +kernel) (by decide +kernel)
theorem cd_X5_moveCloud : Cond.code yX5_moveCloud cX5_moveCloud 5 none ∈ zT := zw_of _ 935 (by decide +kernel) (by decide +kernel)
theorem cw_X5_130 : zCw RX5 130 yX5_moveCloud cX5_moveCloud 5 none 2 := ⟨ml_X5_130, ni_X5, cd_X5_moveCloud, by decide, by decide, by decide +kernel⟩
theorem wi_X5_moveCloud : Cond.instanceMethod yX5_moveCloud ∈ zT := zw_of _ 933 (by decide +kernel) (by decide +kernel)
theorem ws_X5_moveCloud : Cond.selects RX5 yX5_moveCloud yX5_moveCloud ∈ zT := zw_of _ 934 (by decide +kernel) (by decide +kernel)
abbrev M_J6_bitCount_0f7a4 : zMt := (RJ6, cJ6_bitCount_0f7a4, 1, 1, 60, (some .int), "bitCount", 0, 0)
theorem d_J6_bitCount_0f7a4_0 : zDc M_J6_bitCount_0f7a4 0 (.iload_n 0) 1 1 := ⟨by decide +kernel, rfl⟩
theorem d_J6_bitCount_0f7a4_1 : zDc M_J6_bitCount_0f7a4 1 (.iload_n 0) 1 2 := ⟨by decide +kernel, rfl⟩
theorem d_J6_bitCount_0f7a4_2 : zDc M_J6_bitCount_0f7a4 2 (.iconst 1) 1 3 := ⟨by decide +kernel, rfl⟩
theorem d_J6_bitCount_0f7a4_3 : zDc M_J6_bitCount_0f7a4 3 (.iushr) 1 4 := ⟨by decide +kernel, rfl⟩
theorem d_J6_bitCount_0f7a4_4 : zDc M_J6_bitCount_0f7a4 4 (.ldc_w 265) 3 7 := ⟨by decide +kernel, rfl⟩
theorem d_J6_bitCount_0f7a4_7 : zDc M_J6_bitCount_0f7a4 7 (.iand) 1 8 := ⟨by decide +kernel, rfl⟩
theorem d_J6_bitCount_0f7a4_8 : zDc M_J6_bitCount_0f7a4 8 (.isub) 1 9 := ⟨by decide +kernel, rfl⟩
theorem d_J6_bitCount_0f7a4_9 : zDc M_J6_bitCount_0f7a4 9 (.istore_n 0) 1 10 := ⟨by decide +kernel, rfl⟩
theorem d_J6_bitCount_0f7a4_10 : zDc M_J6_bitCount_0f7a4 10 (.iload_n 0) 1 11 := ⟨by decide +kernel, rfl⟩
theorem d_J6_bitCount_0f7a4_11 : zDc M_J6_bitCount_0f7a4 11 (.ldc_w 266) 3 14 := ⟨by decide +kernel, rfl⟩
theorem d_J6_bitCount_0f7a4_14 : zDc M_J6_bitCount_0f7a4 14 (.iand) 1 15 := ⟨by decide +kernel, rfl⟩
theorem d_J6_bitCount_0f7a4_15 : zDc M_J6_bitCount_0f7a4 15 (.iload_n 0) 1 16 := ⟨by decide +kernel, rfl⟩
theorem d_J6_bitCount_0f7a4_16 : zDc M_J6_bitCount_0f7a4 16 (.iconst 2) 1 17 := ⟨by decide +kernel, rfl⟩
theorem d_J6_bitCount_0f7a4_17 : zDc M_J6_bitCount_0f7a4 17 (.iushr) 1 18 := ⟨by decide +kernel, rfl⟩
theorem d_J6_bitCount_0f7a4_18 : zDc M_J6_bitCount_0f7a4 18 (.ldc_w 266) 3 21 := ⟨by decide +kernel, rfl⟩
theorem d_J6_bitCount_0f7a4_21 : zDc M_J6_bitCount_0f7a4 21 (.iand) 1 22 := ⟨by decide +kernel, rfl⟩
theorem d_J6_bitCount_0f7a4_22 : zDc M_J6_bitCount_0f7a4 22 (.iadd) 1 23 := ⟨by decide +kernel, rfl⟩
theorem d_J6_bitCount_0f7a4_23 : zDc M_J6_bitCount_0f7a4 23 (.istore_n 0) 1 24 := ⟨by decide +kernel, rfl⟩
theorem d_J6_bitCount_0f7a4_24 : zDc M_J6_bitCount_0f7a4 24 (.iload_n 0) 1 25 := ⟨by decide +kernel, rfl⟩
theorem d_J6_bitCount_0f7a4_25 : zDc M_J6_bitCount_0f7a4 25 (.iload_n 0) 1 26 := ⟨by decide +kernel, rfl⟩
theorem d_J6_bitCount_0f7a4_26 : zDc M_J6_bitCount_0f7a4 26 (.iconst 4) 1 27 := ⟨by decide +kernel, rfl⟩
theorem d_J6_bitCount_0f7a4_27 : zDc M_J6_bitCount_0f7a4 27 (.iushr) 1 28 := ⟨by decide +kernel, rfl⟩
theorem d_J6_bitCount_0f7a4_28 : zDc M_J6_bitCount_0f7a4 28 (.iadd) 1 29 := ⟨by decide +kernel, rfl⟩
theorem d_J6_bitCount_0f7a4_29 : zDc M_J6_bitCount_0f7a4 29 (.ldc_w 267) 3 32 := ⟨by decide +kernel, rfl⟩
theorem d_J6_bitCount_0f7a4_32 : zDc M_J6_bitCount_0f7a4 32 (.iand) 1 33 := ⟨by decide +kernel, rfl⟩
theorem d_J6_bitCount_0f7a4_33 : zDc M_J6_bitCount_0f7a4 33 (.istore_n 0) 1 34 := ⟨by decide +kernel, rfl⟩
theorem d_J6_bitCount_0f7a4_34 : zDc M_J6_bitCount_0f7a4 34 (.iload_n 0) 1 35 := ⟨by decide +kernel, rfl⟩
theorem d_J6_bitCount_0f7a4_35 : zDc M_J6_bitCount_0f7a4 35 (.iload_n 0) 1 36 := ⟨by decide +kernel, rfl⟩
theorem d_J6_bitCount_0f7a4_36 : zDc M_J6_bitCount_0f7a4 36 (.bipush 8) 2 38 := ⟨by decide +kernel, rfl⟩
theorem d_J6_bitCount_0f7a4_38 : zDc M_J6_bitCount_0f7a4 38 (.iushr) 1 39 := ⟨by decide +kernel, rfl⟩
theorem d_J6_bitCount_0f7a4_39 : zDc M_J6_bitCount_0f7a4 39 (.iadd) 1 40 := ⟨by decide +kernel, rfl⟩
theorem d_J6_bitCount_0f7a4_40 : zDc M_J6_bitCount_0f7a4 40 (.istore_n 0) 1 41 := ⟨by decide +kernel, rfl⟩
theorem d_J6_bitCount_0f7a4_41 : zDc M_J6_bitCount_0f7a4 41 (.iload_n 0) 1 42 := ⟨by decide +kernel, rfl⟩
theorem d_J6_bitCount_0f7a4_42 : zDc M_J6_bitCount_0f7a4 42 (.iload_n 0) 1 43 := ⟨by decide +kernel, rfl⟩
theorem d_J6_bitCount_0f7a4_43 : zDc M_J6_bitCount_0f7a4 43 (.bipush 16) 2 45 := ⟨by decide +kernel, rfl⟩
theorem d_J6_bitCount_0f7a4_45 : zDc M_J6_bitCount_0f7a4 45 (.iushr) 1 46 := ⟨by decide +kernel, rfl⟩
theorem d_J6_bitCount_0f7a4_46 : zDc M_J6_bitCount_0f7a4 46 (.iadd) 1 47 := ⟨by decide +kernel, rfl⟩
theorem d_J6_bitCount_0f7a4_47 : zDc M_J6_bitCount_0f7a4 47 (.istore_n 0) 1 48 := ⟨by decide +kernel, rfl⟩
theorem d_J6_bitCount_0f7a4_48 : zDc M_J6_bitCount_0f7a4 48 (.iload_n 0) 1 49 := ⟨by decide +kernel, rfl⟩
theorem d_J6_bitCount_0f7a4_49 : zDc M_J6_bitCount_0f7a4 49 (.bipush 63) 2 51 := ⟨by decide +kernel, rfl⟩
theorem d_J6_bitCount_0f7a4_51 : zDc M_J6_bitCount_0f7a4 51 (.iand) 1 52 := ⟨by decide +kernel, rfl⟩
theorem d_J6_bitCount_0f7a4_52 : zDc M_J6_bitCount_0f7a4 52 (.ireturn) 1 53 := ⟨by decide +kernel, rfl⟩
def f_J6_bitCount_0f7a4 (a0 : Int32) (h0 : zHp) : Option (Int32 × zHp) :=
  some (((((((((a0 - (((Int32.toUInt32 a0) >>> ((Int32.toUInt32 1) &&& Int32.toUInt32 31)).toInt32 &&& 1431655765)) &&& 858993459) + (((Int32.toUInt32 (a0 - (((Int32.toUInt32 a0) >>> ((Int32.toUInt32 1) &&& Int32.toUInt32 31)).toInt32 &&& 1431655765))) >>> ((Int32.toUInt32 2) &&& Int32.toUInt32 31)).toInt32 &&& 858993459)) + ((Int32.toUInt32 (((a0 - (((Int32.toUInt32 a0) >>> ((Int32.toUInt32 1) &&& Int32.toUInt32 31)).toInt32 &&& 1431655765)) &&& 858993459) + (((Int32.toUInt32 (a0 - (((Int32.toUInt32 a0) >>> ((Int32.toUInt32 1) &&& Int32.toUInt32 31)).toInt32 &&& 1431655765))) >>> ((Int32.toUInt32 2) &&& Int32.toUInt32 31)).toInt32 &&& 858993459))) >>> ((Int32.toUInt32 4) &&& Int32.toUInt32 31)).toInt32) &&& 252645135) + ((Int32.toUInt32 (((((a0 - (((Int32.toUInt32 a0) >>> ((Int32.toUInt32 1) &&& Int32.toUInt32 31)).toInt32 &&& 1431655765)) &&& 858993459) + (((Int32.toUInt32 (a0 - (((Int32.toUInt32 a0) >>> ((Int32.toUInt32 1) &&& Int32.toUInt32 31)).toInt32 &&& 1431655765))) >>> ((Int32.toUInt32 2) &&& Int32.toUInt32 31)).toInt32 &&& 858993459)) + ((Int32.toUInt32 (((a0 - (((Int32.toUInt32 a0) >>> ((Int32.toUInt32 1) &&& Int32.toUInt32 31)).toInt32 &&& 1431655765)) &&& 858993459) + (((Int32.toUInt32 (a0 - (((Int32.toUInt32 a0) >>> ((Int32.toUInt32 1) &&& Int32.toUInt32 31)).toInt32 &&& 1431655765))) >>> ((Int32.toUInt32 2) &&& Int32.toUInt32 31)).toInt32 &&& 858993459))) >>> ((Int32.toUInt32 4) &&& Int32.toUInt32 31)).toInt32) &&& 252645135)) >>> ((Int32.toUInt32 8) &&& Int32.toUInt32 31)).toInt32) + ((Int32.toUInt32 ((((((a0 - (((Int32.toUInt32 a0) >>> ((Int32.toUInt32 1) &&& Int32.toUInt32 31)).toInt32 &&& 1431655765)) &&& 858993459) + (((Int32.toUInt32 (a0 - (((Int32.toUInt32 a0) >>> ((Int32.toUInt32 1) &&& Int32.toUInt32 31)).toInt32 &&& 1431655765))) >>> ((Int32.toUInt32 2) &&& Int32.toUInt32 31)).toInt32 &&& 858993459)) + ((Int32.toUInt32 (((a0 - (((Int32.toUInt32 a0) >>> ((Int32.toUInt32 1) &&& Int32.toUInt32 31)).toInt32 &&& 1431655765)) &&& 858993459) + (((Int32.toUInt32 (a0 - (((Int32.toUInt32 a0) >>> ((Int32.toUInt32 1) &&& Int32.toUInt32 31)).toInt32 &&& 1431655765))) >>> ((Int32.toUInt32 2) &&& Int32.toUInt32 31)).toInt32 &&& 858993459))) >>> ((Int32.toUInt32 4) &&& Int32.toUInt32 31)).toInt32) &&& 252645135) + ((Int32.toUInt32 (((((a0 - (((Int32.toUInt32 a0) >>> ((Int32.toUInt32 1) &&& Int32.toUInt32 31)).toInt32 &&& 1431655765)) &&& 858993459) + (((Int32.toUInt32 (a0 - (((Int32.toUInt32 a0) >>> ((Int32.toUInt32 1) &&& Int32.toUInt32 31)).toInt32 &&& 1431655765))) >>> ((Int32.toUInt32 2) &&& Int32.toUInt32 31)).toInt32 &&& 858993459)) + ((Int32.toUInt32 (((a0 - (((Int32.toUInt32 a0) >>> ((Int32.toUInt32 1) &&& Int32.toUInt32 31)).toInt32 &&& 1431655765)) &&& 858993459) + (((Int32.toUInt32 (a0 - (((Int32.toUInt32 a0) >>> ((Int32.toUInt32 1) &&& Int32.toUInt32 31)).toInt32 &&& 1431655765))) >>> ((Int32.toUInt32 2) &&& Int32.toUInt32 31)).toInt32 &&& 858993459))) >>> ((Int32.toUInt32 4) &&& Int32.toUInt32 31)).toInt32) &&& 252645135)) >>> ((Int32.toUInt32 8) &&& Int32.toUInt32 31)).toInt32)) >>> ((Int32.toUInt32 16) &&& Int32.toUInt32 31)).toInt32) &&& 63), h0)
set_option maxRecDepth 100000 in
set_option maxHeartbeats 4000000 in
theorem t_J6_bitCount_0f7a4 (a0 : Int32) (h0 : zHp) : ∀ (r : Int32) (h' : zHp), f_J6_bitCount_0f7a4 a0 h0 = some (r, h') → zCt yJ6_bitCount_0f7a4 (.code yJ6_bitCount_0f7a4 cJ6_bitCount_0f7a4 1 (some .int)) 1 60 0 0 [.int a0] h0 (some (.int r)) h' := by
  refine zct_of M_J6_bitCount_0f7a4 yJ6_bitCount_0f7a4 (by decide) rfl rfl [.int a0] h0 (Nat.le_of_ble_eq_true rfl) (fun r => some (.int r)) (fun X => ?_)
  show zG X M_J6_bitCount_0f7a4 (0, 0) 0 [(0, .int a0)] [] h0 (f_J6_bitCount_0f7a4 a0 h0) (fun (r : Int32) h' => zKe X (some (.int r)) h')
  unfold f_J6_bitCount_0f7a4
  refine zg_iload_n 0 rfl d_J6_bitCount_0f7a4_0 ?_
  refine zg_iload_n 0 rfl d_J6_bitCount_0f7a4_1 ?_
  refine zg_iconst 1 rfl d_J6_bitCount_0f7a4_2 ?_
  refine zg_iushr d_J6_bitCount_0f7a4_3 ?_
  refine zg_ldcw kc_J6_265 d_J6_bitCount_0f7a4_4 ?_
  refine zg_iand d_J6_bitCount_0f7a4_7 ?_
  refine zg_isub d_J6_bitCount_0f7a4_8 ?_
  refine zg_istore_n [(0, .int (a0 - (((Int32.toUInt32 a0) >>> ((Int32.toUInt32 1) &&& Int32.toUInt32 31)).toInt32 &&& 1431655765)))] d_J6_bitCount_0f7a4_9 rfl (by decide) rfl ?_
  refine zg_iload_n 0 rfl d_J6_bitCount_0f7a4_10 ?_
  refine zg_ldcw kc_J6_266 d_J6_bitCount_0f7a4_11 ?_
  refine zg_iand d_J6_bitCount_0f7a4_14 ?_
  refine zg_iload_n 0 rfl d_J6_bitCount_0f7a4_15 ?_
  refine zg_iconst 2 rfl d_J6_bitCount_0f7a4_16 ?_
  refine zg_iushr d_J6_bitCount_0f7a4_17 ?_
  refine zg_ldcw kc_J6_266 d_J6_bitCount_0f7a4_18 ?_
  refine zg_iand d_J6_bitCount_0f7a4_21 ?_
  refine zg_iadd d_J6_bitCount_0f7a4_22 ?_
  refine zg_istore_n [(0, .int (((a0 - (((Int32.toUInt32 a0) >>> ((Int32.toUInt32 1) &&& Int32.toUInt32 31)).toInt32 &&& 1431655765)) &&& 858993459) + (((Int32.toUInt32 (a0 - (((Int32.toUInt32 a0) >>> ((Int32.toUInt32 1) &&& Int32.toUInt32 31)).toInt32 &&& 1431655765))) >>> ((Int32.toUInt32 2) &&& Int32.toUInt32 31)).toInt32 &&& 858993459)))] d_J6_bitCount_0f7a4_23 rfl (by decide) rfl ?_
  refine zg_iload_n 0 rfl d_J6_bitCount_0f7a4_24 ?_
  refine zg_iload_n 0 rfl d_J6_bitCount_0f7a4_25 ?_
  refine zg_iconst 4 rfl d_J6_bitCount_0f7a4_26 ?_
  refine zg_iushr d_J6_bitCount_0f7a4_27 ?_
  refine zg_iadd d_J6_bitCount_0f7a4_28 ?_
  refine zg_ldcw kc_J6_267 d_J6_bitCount_0f7a4_29 ?_
  refine zg_iand d_J6_bitCount_0f7a4_32 ?_
  refine zg_istore_n [(0, .int (((((a0 - (((Int32.toUInt32 a0) >>> ((Int32.toUInt32 1) &&& Int32.toUInt32 31)).toInt32 &&& 1431655765)) &&& 858993459) + (((Int32.toUInt32 (a0 - (((Int32.toUInt32 a0) >>> ((Int32.toUInt32 1) &&& Int32.toUInt32 31)).toInt32 &&& 1431655765))) >>> ((Int32.toUInt32 2) &&& Int32.toUInt32 31)).toInt32 &&& 858993459)) + ((Int32.toUInt32 (((a0 - (((Int32.toUInt32 a0) >>> ((Int32.toUInt32 1) &&& Int32.toUInt32 31)).toInt32 &&& 1431655765)) &&& 858993459) + (((Int32.toUInt32 (a0 - (((Int32.toUInt32 a0) >>> ((Int32.toUInt32 1) &&& Int32.toUInt32 31)).toInt32 &&& 1431655765))) >>> ((Int32.toUInt32 2) &&& Int32.toUInt32 31)).toInt32 &&& 858993459))) >>> ((Int32.toUInt32 4) &&& Int32.toUInt32 31)).toInt32) &&& 252645135))] d_J6_bitCount_0f7a4_33 rfl (by decide) rfl ?_
  refine zg_iload_n 0 rfl d_J6_bitCount_0f7a4_34 ?_
  refine zg_iload_n 0 rfl d_J6_bitCount_0f7a4_35 ?_
  refine zg_bipush 8 rfl d_J6_bitCount_0f7a4_36 ?_
  refine zg_iushr d_J6_bitCount_0f7a4_38 ?_
  refine zg_iadd d_J6_bitCount_0f7a4_39 ?_
  refine zg_istore_n [(0, .int ((((((a0 - (((Int32.toUInt32 a0) >>> ((Int32.toUInt32 1) &&& Int32.toUInt32 31)).toInt32 &&& 1431655765)) &&& 858993459) + (((Int32.toUInt32 (a0 - (((Int32.toUInt32 a0) >>> ((Int32.toUInt32 1) &&& Int32.toUInt32 31)).toInt32 &&& 1431655765))) >>> ((Int32.toUInt32 2) &&& Int32.toUInt32 31)).toInt32 &&& 858993459)) + ((Int32.toUInt32 (((a0 - (((Int32.toUInt32 a0) >>> ((Int32.toUInt32 1) &&& Int32.toUInt32 31)).toInt32 &&& 1431655765)) &&& 858993459) + (((Int32.toUInt32 (a0 - (((Int32.toUInt32 a0) >>> ((Int32.toUInt32 1) &&& Int32.toUInt32 31)).toInt32 &&& 1431655765))) >>> ((Int32.toUInt32 2) &&& Int32.toUInt32 31)).toInt32 &&& 858993459))) >>> ((Int32.toUInt32 4) &&& Int32.toUInt32 31)).toInt32) &&& 252645135) + ((Int32.toUInt32 (((((a0 - (((Int32.toUInt32 a0) >>> ((Int32.toUInt32 1) &&& Int32.toUInt32 31)).toInt32 &&& 1431655765)) &&& 858993459) + (((Int32.toUInt32 (a0 - (((Int32.toUInt32 a0) >>> ((Int32.toUInt32 1) &&& Int32.toUInt32 31)).toInt32 &&& 1431655765))) >>> ((Int32.toUInt32 2) &&& Int32.toUInt32 31)).toInt32 &&& 858993459)) + ((Int32.toUInt32 (((a0 - (((Int32.toUInt32 a0) >>> ((Int32.toUInt32 1) &&& Int32.toUInt32 31)).toInt32 &&& 1431655765)) &&& 858993459) + (((Int32.toUInt32 (a0 - (((Int32.toUInt32 a0) >>> ((Int32.toUInt32 1) &&& Int32.toUInt32 31)).toInt32 &&& 1431655765))) >>> ((Int32.toUInt32 2) &&& Int32.toUInt32 31)).toInt32 &&& 858993459))) >>> ((Int32.toUInt32 4) &&& Int32.toUInt32 31)).toInt32) &&& 252645135)) >>> ((Int32.toUInt32 8) &&& Int32.toUInt32 31)).toInt32))] d_J6_bitCount_0f7a4_40 rfl (by decide) rfl ?_
  refine zg_iload_n 0 rfl d_J6_bitCount_0f7a4_41 ?_
  refine zg_iload_n 0 rfl d_J6_bitCount_0f7a4_42 ?_
  refine zg_bipush 16 rfl d_J6_bitCount_0f7a4_43 ?_
  refine zg_iushr d_J6_bitCount_0f7a4_45 ?_
  refine zg_iadd d_J6_bitCount_0f7a4_46 ?_
  refine zg_istore_n [(0, .int (((((((a0 - (((Int32.toUInt32 a0) >>> ((Int32.toUInt32 1) &&& Int32.toUInt32 31)).toInt32 &&& 1431655765)) &&& 858993459) + (((Int32.toUInt32 (a0 - (((Int32.toUInt32 a0) >>> ((Int32.toUInt32 1) &&& Int32.toUInt32 31)).toInt32 &&& 1431655765))) >>> ((Int32.toUInt32 2) &&& Int32.toUInt32 31)).toInt32 &&& 858993459)) + ((Int32.toUInt32 (((a0 - (((Int32.toUInt32 a0) >>> ((Int32.toUInt32 1) &&& Int32.toUInt32 31)).toInt32 &&& 1431655765)) &&& 858993459) + (((Int32.toUInt32 (a0 - (((Int32.toUInt32 a0) >>> ((Int32.toUInt32 1) &&& Int32.toUInt32 31)).toInt32 &&& 1431655765))) >>> ((Int32.toUInt32 2) &&& Int32.toUInt32 31)).toInt32 &&& 858993459))) >>> ((Int32.toUInt32 4) &&& Int32.toUInt32 31)).toInt32) &&& 252645135) + ((Int32.toUInt32 (((((a0 - (((Int32.toUInt32 a0) >>> ((Int32.toUInt32 1) &&& Int32.toUInt32 31)).toInt32 &&& 1431655765)) &&& 858993459) + (((Int32.toUInt32 (a0 - (((Int32.toUInt32 a0) >>> ((Int32.toUInt32 1) &&& Int32.toUInt32 31)).toInt32 &&& 1431655765))) >>> ((Int32.toUInt32 2) &&& Int32.toUInt32 31)).toInt32 &&& 858993459)) + ((Int32.toUInt32 (((a0 - (((Int32.toUInt32 a0) >>> ((Int32.toUInt32 1) &&& Int32.toUInt32 31)).toInt32 &&& 1431655765)) &&& 858993459) + (((Int32.toUInt32 (a0 - (((Int32.toUInt32 a0) >>> ((Int32.toUInt32 1) &&& Int32.toUInt32 31)).toInt32 &&& 1431655765))) >>> ((Int32.toUInt32 2) &&& Int32.toUInt32 31)).toInt32 &&& 858993459))) >>> ((Int32.toUInt32 4) &&& Int32.toUInt32 31)).toInt32) &&& 252645135)) >>> ((Int32.toUInt32 8) &&& Int32.toUInt32 31)).toInt32) + ((Int32.toUInt32 ((((((a0 - (((Int32.toUInt32 a0) >>> ((Int32.toUInt32 1) &&& Int32.toUInt32 31)).toInt32 &&& 1431655765)) &&& 858993459) + (((Int32.toUInt32 (a0 - (((Int32.toUInt32 a0) >>> ((Int32.toUInt32 1) &&& Int32.toUInt32 31)).toInt32 &&& 1431655765))) >>> ((Int32.toUInt32 2) &&& Int32.toUInt32 31)).toInt32 &&& 858993459)) + ((Int32.toUInt32 (((a0 - (((Int32.toUInt32 a0) >>> ((Int32.toUInt32 1) &&& Int32.toUInt32 31)).toInt32 &&& 1431655765)) &&& 858993459) + (((Int32.toUInt32 (a0 - (((Int32.toUInt32 a0) >>> ((Int32.toUInt32 1) &&& Int32.toUInt32 31)).toInt32 &&& 1431655765))) >>> ((Int32.toUInt32 2) &&& Int32.toUInt32 31)).toInt32 &&& 858993459))) >>> ((Int32.toUInt32 4) &&& Int32.toUInt32 31)).toInt32) &&& 252645135) + ((Int32.toUInt32 (((((a0 - (((Int32.toUInt32 a0) >>> ((Int32.toUInt32 1) &&& Int32.toUInt32 31)).toInt32 &&& 1431655765)) &&& 858993459) + (((Int32.toUInt32 (a0 - (((Int32.toUInt32 a0) >>> ((Int32.toUInt32 1) &&& Int32.toUInt32 31)).toInt32 &&& 1431655765))) >>> ((Int32.toUInt32 2) &&& Int32.toUInt32 31)).toInt32 &&& 858993459)) + ((Int32.toUInt32 (((a0 - (((Int32.toUInt32 a0) >>> ((Int32.toUInt32 1) &&& Int32.toUInt32 31)).toInt32 &&& 1431655765)) &&& 858993459) + (((Int32.toUInt32 (a0 - (((Int32.toUInt32 a0) >>> ((Int32.toUInt32 1) &&& Int32.toUInt32 31)).toInt32 &&& 1431655765))) >>> ((Int32.toUInt32 2) &&& Int32.toUInt32 31)).toInt32 &&& 858993459))) >>> ((Int32.toUInt32 4) &&& Int32.toUInt32 31)).toInt32) &&& 252645135)) >>> ((Int32.toUInt32 8) &&& Int32.toUInt32 31)).toInt32)) >>> ((Int32.toUInt32 16) &&& Int32.toUInt32 31)).toInt32))] d_J6_bitCount_0f7a4_47 rfl (by decide) rfl ?_
  refine zg_iload_n 0 rfl d_J6_bitCount_0f7a4_48 ?_
  refine zg_bipush 63 rfl d_J6_bitCount_0f7a4_49 ?_
  refine zg_iand d_J6_bitCount_0f7a4_51 ?_
  exact zg_iretK d_J6_bitCount_0f7a4_52 rfl ⟨Nat.le_of_ble_eq_true rfl, Nat.le_of_ble_eq_true rfl⟩ (fun q => q)
abbrev M_X0_dropFirst : zMt := (RX0, cX0_dropFirst, 1, 1, 60, none, "dropFirst", 0, 0)
theorem d_X0_dropFirst_0 : zDc M_X0_dropFirst 0 (.aload_n 0) 1 1 := ⟨by decide +kernel, rfl⟩
theorem d_X0_dropFirst_1 : zDc M_X0_dropFirst 1 (.bipush 19) 2 3 := ⟨by decide +kernel, rfl⟩
theorem d_X0_dropFirst_3 : zDc M_X0_dropFirst 3 (.putfield 24) 3 6 := ⟨by decide +kernel, rfl⟩
theorem d_X0_dropFirst_6 : zDc M_X0_dropFirst 6 (.aload_n 0) 1 7 := ⟨by decide +kernel, rfl⟩
theorem d_X0_dropFirst_7 : zDc M_X0_dropFirst 7 (.getfield 9) 3 10 := ⟨by decide +kernel, rfl⟩
theorem d_X0_dropFirst_10 : zDc M_X0_dropFirst 10 (.iconst 1) 1 11 := ⟨by decide +kernel, rfl⟩
theorem d_X0_dropFirst_11 : zDc M_X0_dropFirst 11 (.aload_n 0) 1 12 := ⟨by decide +kernel, rfl⟩
theorem d_X0_dropFirst_12 : zDc M_X0_dropFirst 12 (.getfield 9) 3 15 := ⟨by decide +kernel, rfl⟩
theorem d_X0_dropFirst_15 : zDc M_X0_dropFirst 15 (.iconst 0) 1 16 := ⟨by decide +kernel, rfl⟩
theorem d_X0_dropFirst_16 : zDc M_X0_dropFirst 16 (.aload_n 0) 1 17 := ⟨by decide +kernel, rfl⟩
theorem d_X0_dropFirst_17 : zDc M_X0_dropFirst 17 (.getfield 24) 3 20 := ⟨by decide +kernel, rfl⟩
theorem d_X0_dropFirst_20 : zDc M_X0_dropFirst 20 (.invokestatic 31) 3 23 := ⟨by decide +kernel, rfl⟩
theorem d_X0_dropFirst_23 : zDc M_X0_dropFirst 23 (.aload_n 0) 1 24 := ⟨by decide +kernel, rfl⟩
theorem d_X0_dropFirst_24 : zDc M_X0_dropFirst 24 (.getfield 15) 3 27 := ⟨by decide +kernel, rfl⟩
theorem d_X0_dropFirst_27 : zDc M_X0_dropFirst 27 (.iconst 1) 1 28 := ⟨by decide +kernel, rfl⟩
theorem d_X0_dropFirst_28 : zDc M_X0_dropFirst 28 (.aload_n 0) 1 29 := ⟨by decide +kernel, rfl⟩
theorem d_X0_dropFirst_29 : zDc M_X0_dropFirst 29 (.getfield 15) 3 32 := ⟨by decide +kernel, rfl⟩
theorem d_X0_dropFirst_32 : zDc M_X0_dropFirst 32 (.iconst 0) 1 33 := ⟨by decide +kernel, rfl⟩
theorem d_X0_dropFirst_33 : zDc M_X0_dropFirst 33 (.aload_n 0) 1 34 := ⟨by decide +kernel, rfl⟩
theorem d_X0_dropFirst_34 : zDc M_X0_dropFirst 34 (.getfield 24) 3 37 := ⟨by decide +kernel, rfl⟩
theorem d_X0_dropFirst_37 : zDc M_X0_dropFirst 37 (.invokestatic 31) 3 40 := ⟨by decide +kernel, rfl⟩
theorem d_X0_dropFirst_40 : zDc M_X0_dropFirst 40 (.aload_n 0) 1 41 := ⟨by decide +kernel, rfl⟩
theorem d_X0_dropFirst_41 : zDc M_X0_dropFirst 41 (.getfield 18) 3 44 := ⟨by decide +kernel, rfl⟩
theorem d_X0_dropFirst_44 : zDc M_X0_dropFirst 44 (.iconst 1) 1 45 := ⟨by decide +kernel, rfl⟩
theorem d_X0_dropFirst_45 : zDc M_X0_dropFirst 45 (.aload_n 0) 1 46 := ⟨by decide +kernel, rfl⟩
theorem d_X0_dropFirst_46 : zDc M_X0_dropFirst 46 (.getfield 18) 3 49 := ⟨by decide +kernel, rfl⟩
theorem d_X0_dropFirst_49 : zDc M_X0_dropFirst 49 (.iconst 0) 1 50 := ⟨by decide +kernel, rfl⟩
theorem d_X0_dropFirst_50 : zDc M_X0_dropFirst 50 (.aload_n 0) 1 51 := ⟨by decide +kernel, rfl⟩
theorem d_X0_dropFirst_51 : zDc M_X0_dropFirst 51 (.getfield 24) 3 54 := ⟨by decide +kernel, rfl⟩
theorem d_X0_dropFirst_54 : zDc M_X0_dropFirst 54 (.invokestatic 31) 3 57 := ⟨by decide +kernel, rfl⟩
theorem d_X0_dropFirst_57 : zDc M_X0_dropFirst 57 (.aload_n 0) 1 58 := ⟨by decide +kernel, rfl⟩
theorem d_X0_dropFirst_58 : zDc M_X0_dropFirst 58 (.getfield 21) 3 61 := ⟨by decide +kernel, rfl⟩
theorem d_X0_dropFirst_61 : zDc M_X0_dropFirst 61 (.iconst 1) 1 62 := ⟨by decide +kernel, rfl⟩
theorem d_X0_dropFirst_62 : zDc M_X0_dropFirst 62 (.aload_n 0) 1 63 := ⟨by decide +kernel, rfl⟩
theorem d_X0_dropFirst_63 : zDc M_X0_dropFirst 63 (.getfield 21) 3 66 := ⟨by decide +kernel, rfl⟩
theorem d_X0_dropFirst_66 : zDc M_X0_dropFirst 66 (.iconst 0) 1 67 := ⟨by decide +kernel, rfl⟩
theorem d_X0_dropFirst_67 : zDc M_X0_dropFirst 67 (.aload_n 0) 1 68 := ⟨by decide +kernel, rfl⟩
theorem d_X0_dropFirst_68 : zDc M_X0_dropFirst 68 (.getfield 24) 3 71 := ⟨by decide +kernel, rfl⟩
theorem d_X0_dropFirst_71 : zDc M_X0_dropFirst 71 (.invokestatic 31) 3 74 := ⟨by decide +kernel, rfl⟩
theorem d_X0_dropFirst_74 : zDc M_X0_dropFirst 74 (.return_) 1 75 := ⟨by decide +kernel, rfl⟩
def f_X0_dropFirst (a0 : Nat) (h0 : zHp) : Option (Unit × zHp) :=
  zob (zpV h0 a0 0 4 (.int 19)) (fun h1 =>
  zob (zgR h1 a0 0 0) (fun v2 =>
  zob (zgR h1 a0 0 0) (fun v3 =>
  zob (zgI h1 a0 0 4) (fun v4 =>
  zob (zcp h1 v2 1 v3 0 v4) (fun h5 =>
  zob (zgR h5 a0 0 1) (fun v6 =>
  zob (zgR h5 a0 0 1) (fun v7 =>
  zob (zgI h5 a0 0 4) (fun v8 =>
  zob (zcp h5 v6 1 v7 0 v8) (fun h9 =>
  zob (zgR h9 a0 0 2) (fun v10 =>
  zob (zgR h9 a0 0 2) (fun v11 =>
  zob (zgI h9 a0 0 4) (fun v12 =>
  zob (zcp h9 v10 1 v11 0 v12) (fun h13 =>
  zob (zgR h13 a0 0 3) (fun v14 =>
  zob (zgR h13 a0 0 3) (fun v15 =>
  zob (zgI h13 a0 0 4) (fun v16 =>
  zob (zcp h13 v14 1 v15 0 v16) (fun h17 =>
  some ((), h17))))))))))))))))))
set_option maxRecDepth 100000 in
set_option maxHeartbeats 4000000 in
theorem t_X0_dropFirst (a0 : Nat) (h0 : zHp) : ∀ (r : Unit) (h' : zHp), f_X0_dropFirst a0 h0 = some (r, h') → zCt yX0_dropFirst (.code yX0_dropFirst cX0_dropFirst 1 none) 1 60 0 0 [.ref a0] h0 (none) h' := by
  refine zct_of M_X0_dropFirst yX0_dropFirst (by decide) rfl rfl [.ref a0] h0 (Nat.le_of_ble_eq_true rfl) (fun _ => none) (fun X => ?_)
  show zG X M_X0_dropFirst (0, 0) 0 [(0, .ref a0)] [] h0 (f_X0_dropFirst a0 h0) (fun (_ : Unit) h' => zKe X (none) h')
  unfold f_X0_dropFirst
  refine zg_aload_n 0 rfl d_X0_dropFirst_0 ?_
  refine zg_bipush 19 rfl d_X0_dropFirst_1 ?_
  refine zg_putV d_X0_dropFirst_3 zc_0 (by decide) fl_X0_24 rfl rfl rfl (fun h1 => ?_)
  refine zg_aload_n 0 rfl d_X0_dropFirst_6 ?_
  refine zg_getR d_X0_dropFirst_7 zc_0 (by decide) fl_X0_9 (fun v2 => ?_)
  refine zg_iconst 1 rfl d_X0_dropFirst_10 ?_
  refine zg_aload_n 0 rfl d_X0_dropFirst_11 ?_
  refine zg_getR d_X0_dropFirst_12 zc_0 (by decide) fl_X0_9 (fun v3 => ?_)
  refine zg_iconst 0 rfl d_X0_dropFirst_15 ?_
  refine zg_aload_n 0 rfl d_X0_dropFirst_16 ?_
  refine zg_getI d_X0_dropFirst_17 zc_0 (by decide) fl_X0_24 (fun v4 => ?_)
  refine zg_copy d_X0_dropFirst_20 ml_X0_31 wn_copy wt_copy wi_System (by decide) (Nat.le_of_ble_eq_true rfl) (fun h5 => ?_)
  refine zg_aload_n 0 rfl d_X0_dropFirst_23 ?_
  refine zg_getR d_X0_dropFirst_24 zc_0 (by decide) fl_X0_15 (fun v6 => ?_)
  refine zg_iconst 1 rfl d_X0_dropFirst_27 ?_
  refine zg_aload_n 0 rfl d_X0_dropFirst_28 ?_
  refine zg_getR d_X0_dropFirst_29 zc_0 (by decide) fl_X0_15 (fun v7 => ?_)
  refine zg_iconst 0 rfl d_X0_dropFirst_32 ?_
  refine zg_aload_n 0 rfl d_X0_dropFirst_33 ?_
  refine zg_getI d_X0_dropFirst_34 zc_0 (by decide) fl_X0_24 (fun v8 => ?_)
  refine zg_copy d_X0_dropFirst_37 ml_X0_31 wn_copy wt_copy wi_System (by decide) (Nat.le_of_ble_eq_true rfl) (fun h9 => ?_)
  refine zg_aload_n 0 rfl d_X0_dropFirst_40 ?_
  refine zg_getR d_X0_dropFirst_41 zc_0 (by decide) fl_X0_18 (fun v10 => ?_)
  refine zg_iconst 1 rfl d_X0_dropFirst_44 ?_
  refine zg_aload_n 0 rfl d_X0_dropFirst_45 ?_
  refine zg_getR d_X0_dropFirst_46 zc_0 (by decide) fl_X0_18 (fun v11 => ?_)
  refine zg_iconst 0 rfl d_X0_dropFirst_49 ?_
  refine zg_aload_n 0 rfl d_X0_dropFirst_50 ?_
  refine zg_getI d_X0_dropFirst_51 zc_0 (by decide) fl_X0_24 (fun v12 => ?_)
  refine zg_copy d_X0_dropFirst_54 ml_X0_31 wn_copy wt_copy wi_System (by decide) (Nat.le_of_ble_eq_true rfl) (fun h13 => ?_)
  refine zg_aload_n 0 rfl d_X0_dropFirst_57 ?_
  refine zg_getR d_X0_dropFirst_58 zc_0 (by decide) fl_X0_21 (fun v14 => ?_)
  refine zg_iconst 1 rfl d_X0_dropFirst_61 ?_
  refine zg_aload_n 0 rfl d_X0_dropFirst_62 ?_
  refine zg_getR d_X0_dropFirst_63 zc_0 (by decide) fl_X0_21 (fun v15 => ?_)
  refine zg_iconst 0 rfl d_X0_dropFirst_66 ?_
  refine zg_aload_n 0 rfl d_X0_dropFirst_67 ?_
  refine zg_getI d_X0_dropFirst_68 zc_0 (by decide) fl_X0_24 (fun v16 => ?_)
  refine zg_copy d_X0_dropFirst_71 ml_X0_31 wn_copy wt_copy wi_System (by decide) (Nat.le_of_ble_eq_true rfl) (fun h17 => ?_)
  exact zg_vretK d_X0_dropFirst_74 rfl ⟨Nat.le_of_ble_eq_true rfl, Nat.le_of_ble_eq_true rfl⟩ (fun q => q)
abbrev M_X0_forget : zMt := (RX0, cX0_forget, 1, 1, 60, none, "forget", 0, 0)
theorem d_X0_forget_0 : zDc M_X0_forget 0 (.aload_n 0) 1 1 := ⟨by decide +kernel, rfl⟩
theorem d_X0_forget_1 : zDc M_X0_forget 1 (.iconst 0) 1 2 := ⟨by decide +kernel, rfl⟩
theorem d_X0_forget_2 : zDc M_X0_forget 2 (.putfield 24) 3 5 := ⟨by decide +kernel, rfl⟩
theorem d_X0_forget_5 : zDc M_X0_forget 5 (.return_) 1 6 := ⟨by decide +kernel, rfl⟩
def f_X0_forget (a0 : Nat) (h0 : zHp) : Option (Unit × zHp) :=
  zob (zpV h0 a0 0 4 (.int 0)) (fun h1 =>
  some ((), h1))
set_option maxRecDepth 100000 in
set_option maxHeartbeats 4000000 in
theorem t_X0_forget (a0 : Nat) (h0 : zHp) : ∀ (r : Unit) (h' : zHp), f_X0_forget a0 h0 = some (r, h') → zCt yX0_forget (.code yX0_forget cX0_forget 1 none) 1 60 0 0 [.ref a0] h0 (none) h' := by
  refine zct_of M_X0_forget yX0_forget (by decide) rfl rfl [.ref a0] h0 (Nat.le_of_ble_eq_true rfl) (fun _ => none) (fun X => ?_)
  show zG X M_X0_forget (0, 0) 0 [(0, .ref a0)] [] h0 (f_X0_forget a0 h0) (fun (_ : Unit) h' => zKe X (none) h')
  unfold f_X0_forget
  refine zg_aload_n 0 rfl d_X0_forget_0 ?_
  refine zg_iconst 0 rfl d_X0_forget_1 ?_
  refine zg_putV d_X0_forget_2 zc_0 (by decide) fl_X0_24 rfl rfl rfl (fun h1 => ?_)
  exact zg_vretK d_X0_forget_5 rfl ⟨Nat.le_of_ble_eq_true rfl, Nat.le_of_ble_eq_true rfl⟩ (fun q => q)
abbrev M_X0_remember : zMt := (RX0, cX0_remember, 5, 2, 80, none, "remember", 0, 0)
theorem d_X0_remember_0 : zDc M_X0_remember 0 (.aload_n 0) 1 1 := ⟨by decide +kernel, rfl⟩
theorem d_X0_remember_1 : zDc M_X0_remember 1 (.getfield 24) 3 4 := ⟨by decide +kernel, rfl⟩
theorem d_X0_remember_4 : zDc M_X0_remember 4 (.bipush 20) 2 6 := ⟨by decide +kernel, rfl⟩
theorem d_X0_remember_6 : zDj M_X0_remember 6 (.if_icmp .lt 7) 7 9 13 := ⟨by decide +kernel, rfl, by decide⟩
theorem d_X0_remember_9 : zDc M_X0_remember 9 (.aload_n 0) 1 10 := ⟨by decide +kernel, rfl⟩
theorem d_X0_remember_10 : zDc M_X0_remember 10 (.invokevirtual 28) 3 13 := ⟨by decide +kernel, rfl⟩
theorem d_X0_remember_13 : zDc M_X0_remember 13 (.aload_n 0) 1 14 := ⟨by decide +kernel, rfl⟩
theorem d_X0_remember_14 : zDc M_X0_remember 14 (.getfield 9) 3 17 := ⟨by decide +kernel, rfl⟩
theorem d_X0_remember_17 : zDc M_X0_remember 17 (.aload_n 0) 1 18 := ⟨by decide +kernel, rfl⟩
theorem d_X0_remember_18 : zDc M_X0_remember 18 (.getfield 24) 3 21 := ⟨by decide +kernel, rfl⟩
theorem d_X0_remember_21 : zDc M_X0_remember 21 (.iload_n 1) 1 22 := ⟨by decide +kernel, rfl⟩
theorem d_X0_remember_22 : zDc M_X0_remember 22 (.iastore) 1 23 := ⟨by decide +kernel, rfl⟩
theorem d_X0_remember_23 : zDc M_X0_remember 23 (.aload_n 0) 1 24 := ⟨by decide +kernel, rfl⟩
theorem d_X0_remember_24 : zDc M_X0_remember 24 (.getfield 15) 3 27 := ⟨by decide +kernel, rfl⟩
theorem d_X0_remember_27 : zDc M_X0_remember 27 (.aload_n 0) 1 28 := ⟨by decide +kernel, rfl⟩
theorem d_X0_remember_28 : zDc M_X0_remember 28 (.getfield 24) 3 31 := ⟨by decide +kernel, rfl⟩
theorem d_X0_remember_31 : zDc M_X0_remember 31 (.iload_n 2) 1 32 := ⟨by decide +kernel, rfl⟩
theorem d_X0_remember_32 : zDc M_X0_remember 32 (.iastore) 1 33 := ⟨by decide +kernel, rfl⟩
theorem d_X0_remember_33 : zDc M_X0_remember 33 (.aload_n 0) 1 34 := ⟨by decide +kernel, rfl⟩
theorem d_X0_remember_34 : zDc M_X0_remember 34 (.getfield 18) 3 37 := ⟨by decide +kernel, rfl⟩
theorem d_X0_remember_37 : zDc M_X0_remember 37 (.aload_n 0) 1 38 := ⟨by decide +kernel, rfl⟩
theorem d_X0_remember_38 : zDc M_X0_remember 38 (.getfield 24) 3 41 := ⟨by decide +kernel, rfl⟩
theorem d_X0_remember_41 : zDc M_X0_remember 41 (.iload_n 3) 1 42 := ⟨by decide +kernel, rfl⟩
theorem d_X0_remember_42 : zDc M_X0_remember 42 (.iastore) 1 43 := ⟨by decide +kernel, rfl⟩
theorem d_X0_remember_43 : zDc M_X0_remember 43 (.aload_n 0) 1 44 := ⟨by decide +kernel, rfl⟩
theorem d_X0_remember_44 : zDc M_X0_remember 44 (.getfield 21) 3 47 := ⟨by decide +kernel, rfl⟩
theorem d_X0_remember_47 : zDc M_X0_remember 47 (.aload_n 0) 1 48 := ⟨by decide +kernel, rfl⟩
theorem d_X0_remember_48 : zDc M_X0_remember 48 (.getfield 24) 3 51 := ⟨by decide +kernel, rfl⟩
theorem d_X0_remember_51 : zDc M_X0_remember 51 (.iload 4) 2 53 := ⟨by decide +kernel, rfl⟩
theorem d_X0_remember_53 : zDc M_X0_remember 53 (.iastore) 1 54 := ⟨by decide +kernel, rfl⟩
theorem d_X0_remember_54 : zDc M_X0_remember 54 (.aload_n 0) 1 55 := ⟨by decide +kernel, rfl⟩
theorem d_X0_remember_55 : zDc M_X0_remember 55 (.dup) 1 56 := ⟨by decide +kernel, rfl⟩
theorem d_X0_remember_56 : zDc M_X0_remember 56 (.getfield 24) 3 59 := ⟨by decide +kernel, rfl⟩
theorem d_X0_remember_59 : zDc M_X0_remember 59 (.iconst 1) 1 60 := ⟨by decide +kernel, rfl⟩
theorem d_X0_remember_60 : zDc M_X0_remember 60 (.iadd) 1 61 := ⟨by decide +kernel, rfl⟩
theorem d_X0_remember_61 : zDc M_X0_remember 61 (.putfield 24) 3 64 := ⟨by decide +kernel, rfl⟩
theorem d_X0_remember_64 : zDc M_X0_remember 64 (.return_) 1 65 := ⟨by decide +kernel, rfl⟩
def f_X0_remember (a0 : Nat) (a1 : Int32) (a2 : Int32) (a3 : Int32) (a4 : Int32) (h0 : zHp) : Option (Unit × zHp) :=
  zob (zgI h0 a0 0 4) (fun v1 =>
  zbd (α := Unit) (
  if v1 < 20 then
  some ((), h0)
  else
  zbd (zcv 0 a0 h0 (f_X0_dropFirst a0 h0)) (fun v3 h2 =>
  some ((), h2))) (fun e4 h5 =>
  zob (zgR h5 a0 0 0) (fun v6 =>
  zob (zgI h5 a0 0 4) (fun v7 =>
  zob (zsI 0 h5 v6 v7 a1) (fun h8 =>
  zob (zgR h8 a0 0 1) (fun v9 =>
  zob (zgI h8 a0 0 4) (fun v10 =>
  zob (zsI 0 h8 v9 v10 a2) (fun h11 =>
  zob (zgR h11 a0 0 2) (fun v12 =>
  zob (zgI h11 a0 0 4) (fun v13 =>
  zob (zsI 0 h11 v12 v13 a3) (fun h14 =>
  zob (zgR h14 a0 0 3) (fun v15 =>
  zob (zgI h14 a0 0 4) (fun v16 =>
  zob (zsI 0 h14 v15 v16 a4) (fun h17 =>
  zob (zgI h17 a0 0 4) (fun v18 =>
  zob (zpV h17 a0 0 4 (.int (v18 + 1))) (fun h19 =>
  some ((), h19)))))))))))))))))
set_option maxRecDepth 100000 in
set_option maxHeartbeats 4000000 in
theorem t_X0_remember (a0 : Nat) (a1 : Int32) (a2 : Int32) (a3 : Int32) (a4 : Int32) (h0 : zHp) : ∀ (r : Unit) (h' : zHp), f_X0_remember a0 a1 a2 a3 a4 h0 = some (r, h') → zCt yX0_remember (.code yX0_remember cX0_remember 5 none) 2 80 0 0 [.ref a0, .int a1, .int a2, .int a3, .int a4] h0 (none) h' := by
  refine zct_of M_X0_remember yX0_remember (by decide) rfl rfl [.ref a0, .int a1, .int a2, .int a3, .int a4] h0 (Nat.le_of_ble_eq_true rfl) (fun _ => none) (fun X => ?_)
  show zG X M_X0_remember (0, 0) 0 [(0, .ref a0), (1, .int a1), (2, .int a2), (3, .int a3), (4, .int a4)] [] h0 (f_X0_remember a0 a1 a2 a3 a4 h0) (fun (_ : Unit) h' => zKe X (none) h')
  unfold f_X0_remember
  refine zg_aload_n 0 rfl d_X0_remember_0 ?_
  refine zg_getI d_X0_remember_1 zc_0 (by decide) fl_X0_24 (fun v1 => ?_)
  refine zg_bipush 20 rfl d_X0_remember_4 ?_
  refine zg_bd (E := 13) (el := (fun (e4 : Unit) => [(0, .ref a0), (1, .int a1), (2, .int a2), (3, .int a3), (4, .int a4)])) (es := (fun (e4 : Unit) => [])) ?_ (fun e4 h5 => ?_)
  · refine zg_icmp_lt d_X0_remember_6 ?_ ?_
    · exact zg_finK (E := 0) [0, 1, 2, 3, 4] rfl rfl (fun q => q)
    · refine zg_aload_n 0 rfl d_X0_remember_9 ?_
      refine zg_cVv (b := a0) (As := []) (rest := []) (0, 0) d_X0_remember_10 zc_0 rfl cw_X0_28 wi_X0_dropFirst ws_X0_dropFirst rfl rfl (Nat.le_of_ble_eq_true rfl) (by decide) (by decide) ⟨by decide, by decide⟩ rfl (t_X0_dropFirst a0 h0) (fun v3 h2 => ?_)
      exact zg_finK (E := 0) [0, 1, 2, 3, 4] rfl rfl (fun q => q)
  · refine zg_aload_n 0 rfl d_X0_remember_13 ?_
    refine zg_getR d_X0_remember_14 zc_0 (by decide) fl_X0_9 (fun v6 => ?_)
    refine zg_aload_n 0 rfl d_X0_remember_17 ?_
    refine zg_getI d_X0_remember_18 zc_0 (by decide) fl_X0_24 (fun v7 => ?_)
    refine zg_iload_n 1 rfl d_X0_remember_21 ?_
    refine zg_ast0 d_X0_remember_22 (fun h8 => ?_)
    refine zg_aload_n 0 rfl d_X0_remember_23 ?_
    refine zg_getR d_X0_remember_24 zc_0 (by decide) fl_X0_15 (fun v9 => ?_)
    refine zg_aload_n 0 rfl d_X0_remember_27 ?_
    refine zg_getI d_X0_remember_28 zc_0 (by decide) fl_X0_24 (fun v10 => ?_)
    refine zg_iload_n 2 rfl d_X0_remember_31 ?_
    refine zg_ast0 d_X0_remember_32 (fun h11 => ?_)
    refine zg_aload_n 0 rfl d_X0_remember_33 ?_
    refine zg_getR d_X0_remember_34 zc_0 (by decide) fl_X0_18 (fun v12 => ?_)
    refine zg_aload_n 0 rfl d_X0_remember_37 ?_
    refine zg_getI d_X0_remember_38 zc_0 (by decide) fl_X0_24 (fun v13 => ?_)
    refine zg_iload_n 3 rfl d_X0_remember_41 ?_
    refine zg_ast0 d_X0_remember_42 (fun h14 => ?_)
    refine zg_aload_n 0 rfl d_X0_remember_43 ?_
    refine zg_getR d_X0_remember_44 zc_0 (by decide) fl_X0_21 (fun v15 => ?_)
    refine zg_aload_n 0 rfl d_X0_remember_47 ?_
    refine zg_getI d_X0_remember_48 zc_0 (by decide) fl_X0_24 (fun v16 => ?_)
    refine zg_iload 4 rfl d_X0_remember_51 ?_
    refine zg_ast0 d_X0_remember_53 (fun h17 => ?_)
    refine zg_aload_n 0 rfl d_X0_remember_54 ?_
    refine zg_dup rfl d_X0_remember_55 ?_
    refine zg_getI d_X0_remember_56 zc_0 (by decide) fl_X0_24 (fun v18 => ?_)
    refine zg_iconst 1 rfl d_X0_remember_59 ?_
    refine zg_iadd d_X0_remember_60 ?_
    refine zg_putV d_X0_remember_61 zc_0 (by decide) fl_X0_24 rfl rfl rfl (fun h19 => ?_)
    exact zg_vretK d_X0_remember_64 rfl ⟨Nat.le_of_ble_eq_true rfl, Nat.le_of_ble_eq_true rfl⟩ (fun q => q)
abbrev M_X0_undoLatest : zMt := (RX0, cX0_undoLatest, 3, 1, 60, none, "undoLatest", 0, 0)
theorem d_X0_undoLatest_0 : zDc M_X0_undoLatest 0 (.aload_n 0) 1 1 := ⟨by decide +kernel, rfl⟩
theorem d_X0_undoLatest_1 : zDc M_X0_undoLatest 1 (.getfield 24) 3 4 := ⟨by decide +kernel, rfl⟩
theorem d_X0_undoLatest_4 : zDc M_X0_undoLatest 4 (.iconst 1) 1 5 := ⟨by decide +kernel, rfl⟩
theorem d_X0_undoLatest_5 : zDj M_X0_undoLatest 5 (.if_icmp .ge 4) 4 8 9 := ⟨by decide +kernel, rfl, by decide⟩
theorem d_X0_undoLatest_8 : zDc M_X0_undoLatest 8 (.return_) 1 9 := ⟨by decide +kernel, rfl⟩
theorem d_X0_undoLatest_9 : zDc M_X0_undoLatest 9 (.aload_n 0) 1 10 := ⟨by decide +kernel, rfl⟩
theorem d_X0_undoLatest_10 : zDc M_X0_undoLatest 10 (.dup) 1 11 := ⟨by decide +kernel, rfl⟩
theorem d_X0_undoLatest_11 : zDc M_X0_undoLatest 11 (.getfield 24) 3 14 := ⟨by decide +kernel, rfl⟩
theorem d_X0_undoLatest_14 : zDc M_X0_undoLatest 14 (.iconst 1) 1 15 := ⟨by decide +kernel, rfl⟩
theorem d_X0_undoLatest_15 : zDc M_X0_undoLatest 15 (.isub) 1 16 := ⟨by decide +kernel, rfl⟩
theorem d_X0_undoLatest_16 : zDc M_X0_undoLatest 16 (.putfield 24) 3 19 := ⟨by decide +kernel, rfl⟩
theorem d_X0_undoLatest_19 : zDc M_X0_undoLatest 19 (.aload_n 0) 1 20 := ⟨by decide +kernel, rfl⟩
theorem d_X0_undoLatest_20 : zDc M_X0_undoLatest 20 (.getfield 15) 3 23 := ⟨by decide +kernel, rfl⟩
theorem d_X0_undoLatest_23 : zDc M_X0_undoLatest 23 (.aload_n 0) 1 24 := ⟨by decide +kernel, rfl⟩
theorem d_X0_undoLatest_24 : zDc M_X0_undoLatest 24 (.getfield 24) 3 27 := ⟨by decide +kernel, rfl⟩
theorem d_X0_undoLatest_27 : zDc M_X0_undoLatest 27 (.iaload) 1 28 := ⟨by decide +kernel, rfl⟩
theorem d_X0_undoLatest_28 : zDc M_X0_undoLatest 28 (.istore_n 2) 1 29 := ⟨by decide +kernel, rfl⟩
theorem d_X0_undoLatest_29 : zDc M_X0_undoLatest 29 (.aload_n 0) 1 30 := ⟨by decide +kernel, rfl⟩
theorem d_X0_undoLatest_30 : zDc M_X0_undoLatest 30 (.getfield 9) 3 33 := ⟨by decide +kernel, rfl⟩
theorem d_X0_undoLatest_33 : zDc M_X0_undoLatest 33 (.aload_n 0) 1 34 := ⟨by decide +kernel, rfl⟩
theorem d_X0_undoLatest_34 : zDc M_X0_undoLatest 34 (.getfield 24) 3 37 := ⟨by decide +kernel, rfl⟩
theorem d_X0_undoLatest_37 : zDc M_X0_undoLatest 37 (.iaload) 1 38 := ⟨by decide +kernel, rfl⟩
theorem d_X0_undoLatest_38 : decode M_X0_undoLatest.2.1 38 = .ok (.tableswitch 117 0 2 #[26, 66, 84], 26) := by decide +kernel
theorem d_X0_undoLatest_64 : zDc M_X0_undoLatest 64 (.aload_n 1) 1 65 := ⟨by decide +kernel, rfl⟩
theorem d_X0_undoLatest_65 : zDc M_X0_undoLatest 65 (.getfield 37) 3 68 := ⟨by decide +kernel, rfl⟩
theorem d_X0_undoLatest_68 : zDc M_X0_undoLatest 68 (.iload_n 2) 1 69 := ⟨by decide +kernel, rfl⟩
theorem d_X0_undoLatest_69 : zDc M_X0_undoLatest 69 (.aload_n 0) 1 70 := ⟨by decide +kernel, rfl⟩
theorem d_X0_undoLatest_70 : zDc M_X0_undoLatest 70 (.getfield 18) 3 73 := ⟨by decide +kernel, rfl⟩
theorem d_X0_undoLatest_73 : zDc M_X0_undoLatest 73 (.aload_n 0) 1 74 := ⟨by decide +kernel, rfl⟩
theorem d_X0_undoLatest_74 : zDc M_X0_undoLatest 74 (.getfield 24) 3 77 := ⟨by decide +kernel, rfl⟩
theorem d_X0_undoLatest_77 : zDc M_X0_undoLatest 77 (.iaload) 1 78 := ⟨by decide +kernel, rfl⟩
theorem d_X0_undoLatest_78 : zDc M_X0_undoLatest 78 (.iastore) 1 79 := ⟨by decide +kernel, rfl⟩
theorem d_X0_undoLatest_79 : zDc M_X0_undoLatest 79 (.aload_n 1) 1 80 := ⟨by decide +kernel, rfl⟩
theorem d_X0_undoLatest_80 : zDc M_X0_undoLatest 80 (.getfield 42) 3 83 := ⟨by decide +kernel, rfl⟩
theorem d_X0_undoLatest_83 : zDc M_X0_undoLatest 83 (.iload_n 2) 1 84 := ⟨by decide +kernel, rfl⟩
theorem d_X0_undoLatest_84 : zDc M_X0_undoLatest 84 (.aload_n 0) 1 85 := ⟨by decide +kernel, rfl⟩
theorem d_X0_undoLatest_85 : zDc M_X0_undoLatest 85 (.getfield 21) 3 88 := ⟨by decide +kernel, rfl⟩
theorem d_X0_undoLatest_88 : zDc M_X0_undoLatest 88 (.aload_n 0) 1 89 := ⟨by decide +kernel, rfl⟩
theorem d_X0_undoLatest_89 : zDc M_X0_undoLatest 89 (.getfield 24) 3 92 := ⟨by decide +kernel, rfl⟩
theorem d_X0_undoLatest_92 : zDc M_X0_undoLatest 92 (.iaload) 1 93 := ⟨by decide +kernel, rfl⟩
theorem d_X0_undoLatest_93 : zDc M_X0_undoLatest 93 (.iastore) 1 94 := ⟨by decide +kernel, rfl⟩
theorem d_X0_undoLatest_94 : zDc M_X0_undoLatest 94 (.aload_n 1) 1 95 := ⟨by decide +kernel, rfl⟩
theorem d_X0_undoLatest_95 : zDc M_X0_undoLatest 95 (.getfield 45) 3 98 := ⟨by decide +kernel, rfl⟩
theorem d_X0_undoLatest_98 : zDc M_X0_undoLatest 98 (.iload_n 2) 1 99 := ⟨by decide +kernel, rfl⟩
theorem d_X0_undoLatest_99 : zDc M_X0_undoLatest 99 (.iconst 1) 1 100 := ⟨by decide +kernel, rfl⟩
theorem d_X0_undoLatest_100 : zDc M_X0_undoLatest 100 (.iastore) 1 101 := ⟨by decide +kernel, rfl⟩
theorem d_X0_undoLatest_101 : zDj M_X0_undoLatest 101 (.goto 67) 67 104 168 := ⟨by decide +kernel, rfl, by decide⟩
theorem d_X0_undoLatest_104 : zDc M_X0_undoLatest 104 (.aload_n 1) 1 105 := ⟨by decide +kernel, rfl⟩
theorem d_X0_undoLatest_105 : zDc M_X0_undoLatest 105 (.getfield 48) 3 108 := ⟨by decide +kernel, rfl⟩
theorem d_X0_undoLatest_108 : zDc M_X0_undoLatest 108 (.iload_n 2) 1 109 := ⟨by decide +kernel, rfl⟩
theorem d_X0_undoLatest_109 : zDc M_X0_undoLatest 109 (.aload_n 0) 1 110 := ⟨by decide +kernel, rfl⟩
theorem d_X0_undoLatest_110 : zDc M_X0_undoLatest 110 (.getfield 18) 3 113 := ⟨by decide +kernel, rfl⟩
theorem d_X0_undoLatest_113 : zDc M_X0_undoLatest 113 (.aload_n 0) 1 114 := ⟨by decide +kernel, rfl⟩
theorem d_X0_undoLatest_114 : zDc M_X0_undoLatest 114 (.getfield 24) 3 117 := ⟨by decide +kernel, rfl⟩
theorem d_X0_undoLatest_117 : zDc M_X0_undoLatest 117 (.iaload) 1 118 := ⟨by decide +kernel, rfl⟩
theorem d_X0_undoLatest_118 : zDc M_X0_undoLatest 118 (.iastore) 1 119 := ⟨by decide +kernel, rfl⟩
theorem d_X0_undoLatest_119 : zDj M_X0_undoLatest 119 (.goto 49) 49 122 168 := ⟨by decide +kernel, rfl, by decide⟩
theorem d_X0_undoLatest_122 : zDc M_X0_undoLatest 122 (.aload_n 1) 1 123 := ⟨by decide +kernel, rfl⟩
theorem d_X0_undoLatest_123 : zDc M_X0_undoLatest 123 (.getfield 51) 3 126 := ⟨by decide +kernel, rfl⟩
theorem d_X0_undoLatest_126 : zDc M_X0_undoLatest 126 (.iload_n 2) 1 127 := ⟨by decide +kernel, rfl⟩
theorem d_X0_undoLatest_127 : zDc M_X0_undoLatest 127 (.aload_n 0) 1 128 := ⟨by decide +kernel, rfl⟩
theorem d_X0_undoLatest_128 : zDc M_X0_undoLatest 128 (.getfield 18) 3 131 := ⟨by decide +kernel, rfl⟩
theorem d_X0_undoLatest_131 : zDc M_X0_undoLatest 131 (.aload_n 0) 1 132 := ⟨by decide +kernel, rfl⟩
theorem d_X0_undoLatest_132 : zDc M_X0_undoLatest 132 (.getfield 24) 3 135 := ⟨by decide +kernel, rfl⟩
theorem d_X0_undoLatest_135 : zDc M_X0_undoLatest 135 (.iaload) 1 136 := ⟨by decide +kernel, rfl⟩
theorem d_X0_undoLatest_136 : zDc M_X0_undoLatest 136 (.iastore) 1 137 := ⟨by decide +kernel, rfl⟩
theorem d_X0_undoLatest_137 : zDc M_X0_undoLatest 137 (.aload_n 1) 1 138 := ⟨by decide +kernel, rfl⟩
theorem d_X0_undoLatest_138 : zDc M_X0_undoLatest 138 (.getfield 54) 3 141 := ⟨by decide +kernel, rfl⟩
theorem d_X0_undoLatest_141 : zDc M_X0_undoLatest 141 (.iload_n 2) 1 142 := ⟨by decide +kernel, rfl⟩
theorem d_X0_undoLatest_142 : zDc M_X0_undoLatest 142 (.aload_n 0) 1 143 := ⟨by decide +kernel, rfl⟩
theorem d_X0_undoLatest_143 : zDc M_X0_undoLatest 143 (.getfield 21) 3 146 := ⟨by decide +kernel, rfl⟩
theorem d_X0_undoLatest_146 : zDc M_X0_undoLatest 146 (.aload_n 0) 1 147 := ⟨by decide +kernel, rfl⟩
theorem d_X0_undoLatest_147 : zDc M_X0_undoLatest 147 (.getfield 24) 3 150 := ⟨by decide +kernel, rfl⟩
theorem d_X0_undoLatest_150 : zDc M_X0_undoLatest 150 (.iaload) 1 151 := ⟨by decide +kernel, rfl⟩
theorem d_X0_undoLatest_151 : zDc M_X0_undoLatest 151 (.iastore) 1 152 := ⟨by decide +kernel, rfl⟩
theorem d_X0_undoLatest_152 : zDj M_X0_undoLatest 152 (.goto 16) 16 155 168 := ⟨by decide +kernel, rfl, by decide⟩
theorem d_X0_undoLatest_155 : zDc M_X0_undoLatest 155 (.aload_n 1) 1 156 := ⟨by decide +kernel, rfl⟩
theorem d_X0_undoLatest_156 : zDc M_X0_undoLatest 156 (.aload_n 0) 1 157 := ⟨by decide +kernel, rfl⟩
theorem d_X0_undoLatest_157 : zDc M_X0_undoLatest 157 (.getfield 18) 3 160 := ⟨by decide +kernel, rfl⟩
theorem d_X0_undoLatest_160 : zDc M_X0_undoLatest 160 (.aload_n 0) 1 161 := ⟨by decide +kernel, rfl⟩
theorem d_X0_undoLatest_161 : zDc M_X0_undoLatest 161 (.getfield 24) 3 164 := ⟨by decide +kernel, rfl⟩
theorem d_X0_undoLatest_164 : zDc M_X0_undoLatest 164 (.iaload) 1 165 := ⟨by decide +kernel, rfl⟩
theorem d_X0_undoLatest_165 : zDc M_X0_undoLatest 165 (.putfield 57) 3 168 := ⟨by decide +kernel, rfl⟩
theorem d_X0_undoLatest_168 : zDc M_X0_undoLatest 168 (.return_) 1 169 := ⟨by decide +kernel, rfl⟩
def f_X0_undoLatest (a0 : Nat) (a1 : Nat) (h0 : zHp) : Option (Unit × zHp) :=
  zob (zgI h0 a0 0 4) (fun v1 =>
  if 1 ≤ v1 then
  zob (zgI h0 a0 0 4) (fun v2 =>
  zob (zpV h0 a0 0 4 (.int (v2 - 1))) (fun h3 =>
  zob (zgR h3 a0 0 1) (fun v4 =>
  zob (zgI h3 a0 0 4) (fun v5 =>
  zob (zaI 0 h3 v4 v5) (fun v6 =>
  zob (zgR h3 a0 0 0) (fun v7 =>
  zob (zgI h3 a0 0 4) (fun v8 =>
  zob (zaI 0 h3 v7 v8) (fun v9 =>
  if v9 = 0 then
  zob (zgR h3 a1 5 0) (fun v10 =>
  zob (zgR h3 a0 0 2) (fun v11 =>
  zob (zgI h3 a0 0 4) (fun v12 =>
  zob (zaI 0 h3 v11 v12) (fun v13 =>
  zob (zsI 0 h3 v10 v6 v13) (fun h14 =>
  zob (zgR h14 a1 5 1) (fun v15 =>
  zob (zgR h14 a0 0 3) (fun v16 =>
  zob (zgI h14 a0 0 4) (fun v17 =>
  zob (zaI 0 h14 v16 v17) (fun v18 =>
  zob (zsI 0 h14 v15 v6 v18) (fun h19 =>
  zob (zgR h19 a1 5 5) (fun v20 =>
  zob (zsI 0 h19 v20 v6 1) (fun h21 =>
  some ((), h21)))))))))))))
  else if v9 = 1 then
  zob (zgR h3 a1 5 4) (fun v22 =>
  zob (zgR h3 a0 0 2) (fun v23 =>
  zob (zgI h3 a0 0 4) (fun v24 =>
  zob (zaI 0 h3 v23 v24) (fun v25 =>
  zob (zsI 0 h3 v22 v6 v25) (fun h26 =>
  some ((), h26))))))
  else if v9 = 2 then
  zob (zgR h3 a1 5 6) (fun v27 =>
  zob (zgR h3 a0 0 2) (fun v28 =>
  zob (zgI h3 a0 0 4) (fun v29 =>
  zob (zaI 0 h3 v28 v29) (fun v30 =>
  zob (zsI 0 h3 v27 v6 v30) (fun h31 =>
  zob (zgR h31 a1 5 7) (fun v32 =>
  zob (zgR h31 a0 0 3) (fun v33 =>
  zob (zgI h31 a0 0 4) (fun v34 =>
  zob (zaI 0 h31 v33 v34) (fun v35 =>
  zob (zsI 0 h31 v32 v6 v35) (fun h36 =>
  some ((), h36)))))))))))
  else 
  zob (zgR h3 a0 0 2) (fun v37 =>
  zob (zgI h3 a0 0 4) (fun v38 =>
  zob (zaI 0 h3 v37 v38) (fun v39 =>
  zob (zpV h3 a1 5 12 (.int v39)) (fun h40 =>
  some ((), h40)))))))))))))
  else
  some ((), h0))
set_option maxRecDepth 100000 in
set_option maxHeartbeats 4000000 in
theorem t_X0_undoLatest (a0 : Nat) (a1 : Nat) (h0 : zHp) : ∀ (r : Unit) (h' : zHp), f_X0_undoLatest a0 a1 h0 = some (r, h') → zCt yX0_undoLatest (.code yX0_undoLatest cX0_undoLatest 3 none) 1 60 0 0 [.ref a0, .ref a1] h0 (none) h' := by
  refine zct_of M_X0_undoLatest yX0_undoLatest (by decide) rfl rfl [.ref a0, .ref a1] h0 (Nat.le_of_ble_eq_true rfl) (fun _ => none) (fun X => ?_)
  show zG X M_X0_undoLatest (0, 0) 0 [(0, .ref a0), (1, .ref a1)] [] h0 (f_X0_undoLatest a0 a1 h0) (fun (_ : Unit) h' => zKe X (none) h')
  unfold f_X0_undoLatest
  refine zg_aload_n 0 rfl d_X0_undoLatest_0 ?_
  refine zg_getI d_X0_undoLatest_1 zc_0 (by decide) fl_X0_24 (fun v1 => ?_)
  refine zg_iconst 1 rfl d_X0_undoLatest_4 ?_
  refine zg_icmp_ge d_X0_undoLatest_5 ?_ ?_
  · refine zg_aload_n 0 rfl d_X0_undoLatest_9 ?_
    refine zg_dup rfl d_X0_undoLatest_10 ?_
    refine zg_getI d_X0_undoLatest_11 zc_0 (by decide) fl_X0_24 (fun v2 => ?_)
    refine zg_iconst 1 rfl d_X0_undoLatest_14 ?_
    refine zg_isub d_X0_undoLatest_15 ?_
    refine zg_putV d_X0_undoLatest_16 zc_0 (by decide) fl_X0_24 rfl rfl rfl (fun h3 => ?_)
    refine zg_aload_n 0 rfl d_X0_undoLatest_19 ?_
    refine zg_getR d_X0_undoLatest_20 zc_0 (by decide) fl_X0_15 (fun v4 => ?_)
    refine zg_aload_n 0 rfl d_X0_undoLatest_23 ?_
    refine zg_getI d_X0_undoLatest_24 zc_0 (by decide) fl_X0_24 (fun v5 => ?_)
    refine zg_ald0 d_X0_undoLatest_27 (fun v6 => ?_)
    refine zg_istore_n [(2, .int v6), (0, .ref a0), (1, .ref a1)] d_X0_undoLatest_28 rfl (by decide) rfl ?_
    refine zg_aload_n 1 rfl d_X0_undoLatest_29 ?_
    refine zg_getR d_X0_undoLatest_30 zc_0 (by decide) fl_X0_9 (fun v7 => ?_)
    refine zg_aload_n 1 rfl d_X0_undoLatest_33 ?_
    refine zg_getI d_X0_undoLatest_34 zc_0 (by decide) fl_X0_24 (fun v8 => ?_)
    refine zg_ald0 d_X0_undoLatest_37 (fun v9 => ?_)
    refine zg_if (fun n41 => ?_) (fun n41 => ?_)
    · refine zg_tabE n41 d_X0_undoLatest_38 (by decide) (by decide) (off := 26) rfl (tgt := 64) (by decide) ?_
      refine zg_aload_n 2 rfl d_X0_undoLatest_64 ?_
      refine zg_getR d_X0_undoLatest_65 zc_5 (by decide) fl_X0_37 (fun v10 => ?_)
      refine zg_iload_n 0 rfl d_X0_undoLatest_68 ?_
      refine zg_aload_n 1 rfl d_X0_undoLatest_69 ?_
      refine zg_getR d_X0_undoLatest_70 zc_0 (by decide) fl_X0_18 (fun v11 => ?_)
      refine zg_aload_n 1 rfl d_X0_undoLatest_73 ?_
      refine zg_getI d_X0_undoLatest_74 zc_0 (by decide) fl_X0_24 (fun v12 => ?_)
      refine zg_ald0 d_X0_undoLatest_77 (fun v13 => ?_)
      refine zg_ast0 d_X0_undoLatest_78 (fun h14 => ?_)
      refine zg_aload_n 2 rfl d_X0_undoLatest_79 ?_
      refine zg_getR d_X0_undoLatest_80 zc_5 (by decide) fl_X0_42 (fun v15 => ?_)
      refine zg_iload_n 0 rfl d_X0_undoLatest_83 ?_
      refine zg_aload_n 1 rfl d_X0_undoLatest_84 ?_
      refine zg_getR d_X0_undoLatest_85 zc_0 (by decide) fl_X0_21 (fun v16 => ?_)
      refine zg_aload_n 1 rfl d_X0_undoLatest_88 ?_
      refine zg_getI d_X0_undoLatest_89 zc_0 (by decide) fl_X0_24 (fun v17 => ?_)
      refine zg_ald0 d_X0_undoLatest_92 (fun v18 => ?_)
      refine zg_ast0 d_X0_undoLatest_93 (fun h19 => ?_)
      refine zg_aload_n 2 rfl d_X0_undoLatest_94 ?_
      refine zg_getR d_X0_undoLatest_95 zc_5 (by decide) fl_X0_45 (fun v20 => ?_)
      refine zg_iload_n 0 rfl d_X0_undoLatest_98 ?_
      refine zg_iconst 1 rfl d_X0_undoLatest_99 ?_
      refine zg_ast0 d_X0_undoLatest_100 (fun h21 => ?_)
      refine zg_goto d_X0_undoLatest_101 ?_
      exact zg_vretK d_X0_undoLatest_168 rfl ⟨Nat.le_of_ble_eq_true rfl, Nat.le_of_ble_eq_true rfl⟩ (fun q => q)
    refine zg_if (fun n42 => ?_) (fun n42 => ?_)
    · refine zg_tabE n42 d_X0_undoLatest_38 (by decide) (by decide) (off := 66) rfl (tgt := 104) (by decide) ?_
      refine zg_aload_n 2 rfl d_X0_undoLatest_104 ?_
      refine zg_getR d_X0_undoLatest_105 zc_5 (by decide) fl_X0_48 (fun v22 => ?_)
      refine zg_iload_n 0 rfl d_X0_undoLatest_108 ?_
      refine zg_aload_n 1 rfl d_X0_undoLatest_109 ?_
      refine zg_getR d_X0_undoLatest_110 zc_0 (by decide) fl_X0_18 (fun v23 => ?_)
      refine zg_aload_n 1 rfl d_X0_undoLatest_113 ?_
      refine zg_getI d_X0_undoLatest_114 zc_0 (by decide) fl_X0_24 (fun v24 => ?_)
      refine zg_ald0 d_X0_undoLatest_117 (fun v25 => ?_)
      refine zg_ast0 d_X0_undoLatest_118 (fun h26 => ?_)
      refine zg_goto d_X0_undoLatest_119 ?_
      exact zg_vretK d_X0_undoLatest_168 rfl ⟨Nat.le_of_ble_eq_true rfl, Nat.le_of_ble_eq_true rfl⟩ (fun q => q)
    refine zg_if (fun n43 => ?_) (fun n43 => ?_)
    · refine zg_tabE n43 d_X0_undoLatest_38 (by decide) (by decide) (off := 84) rfl (tgt := 122) (by decide) ?_
      refine zg_aload_n 2 rfl d_X0_undoLatest_122 ?_
      refine zg_getR d_X0_undoLatest_123 zc_5 (by decide) fl_X0_51 (fun v27 => ?_)
      refine zg_iload_n 0 rfl d_X0_undoLatest_126 ?_
      refine zg_aload_n 1 rfl d_X0_undoLatest_127 ?_
      refine zg_getR d_X0_undoLatest_128 zc_0 (by decide) fl_X0_18 (fun v28 => ?_)
      refine zg_aload_n 1 rfl d_X0_undoLatest_131 ?_
      refine zg_getI d_X0_undoLatest_132 zc_0 (by decide) fl_X0_24 (fun v29 => ?_)
      refine zg_ald0 d_X0_undoLatest_135 (fun v30 => ?_)
      refine zg_ast0 d_X0_undoLatest_136 (fun h31 => ?_)
      refine zg_aload_n 2 rfl d_X0_undoLatest_137 ?_
      refine zg_getR d_X0_undoLatest_138 zc_5 (by decide) fl_X0_54 (fun v32 => ?_)
      refine zg_iload_n 0 rfl d_X0_undoLatest_141 ?_
      refine zg_aload_n 1 rfl d_X0_undoLatest_142 ?_
      refine zg_getR d_X0_undoLatest_143 zc_0 (by decide) fl_X0_21 (fun v33 => ?_)
      refine zg_aload_n 1 rfl d_X0_undoLatest_146 ?_
      refine zg_getI d_X0_undoLatest_147 zc_0 (by decide) fl_X0_24 (fun v34 => ?_)
      refine zg_ald0 d_X0_undoLatest_150 (fun v35 => ?_)
      refine zg_ast0 d_X0_undoLatest_151 (fun h36 => ?_)
      refine zg_goto d_X0_undoLatest_152 ?_
      exact zg_vretK d_X0_undoLatest_168 rfl ⟨Nat.le_of_ble_eq_true rfl, Nat.le_of_ble_eq_true rfl⟩ (fun q => q)
    refine zg_tabO d_X0_undoLatest_38 (by have q0 := lv_neT n41 (a := 0) rfl; have q1 := lv_neT n42 (a := 1) rfl; have q2 := lv_neT n43 (a := 2) rfl; omega) (tgt := 155) (by decide) ?_
    refine zg_aload_n 2 rfl d_X0_undoLatest_155 ?_
    refine zg_aload_n 1 rfl d_X0_undoLatest_156 ?_
    refine zg_getR d_X0_undoLatest_157 zc_0 (by decide) fl_X0_18 (fun v37 => ?_)
    refine zg_aload_n 1 rfl d_X0_undoLatest_160 ?_
    refine zg_getI d_X0_undoLatest_161 zc_0 (by decide) fl_X0_24 (fun v38 => ?_)
    refine zg_ald0 d_X0_undoLatest_164 (fun v39 => ?_)
    refine zg_putV d_X0_undoLatest_165 zc_5 (by decide) fl_X0_57 rfl rfl rfl (fun h40 => ?_)
    exact zg_vretK d_X0_undoLatest_168 rfl ⟨Nat.le_of_ble_eq_true rfl, Nat.le_of_ble_eq_true rfl⟩ (fun q => q)
  · exact zg_vretK d_X0_undoLatest_8 rfl ⟨Nat.le_of_ble_eq_true rfl, Nat.le_of_ble_eq_true rfl⟩ (fun q => q)
abbrev M_X3_counts : zMt := (RX3, cX3_counts, 2, 1, 60, (some .boolean), "counts", 0, 0)
theorem d_X3_counts_0 : zDc M_X3_counts 0 (.aload_n 0) 1 1 := ⟨by decide +kernel, rfl⟩
theorem d_X3_counts_1 : zDc M_X3_counts 1 (.getfield 28) 3 4 := ⟨by decide +kernel, rfl⟩
theorem d_X3_counts_4 : zDc M_X3_counts 4 (.iload_n 1) 1 5 := ⟨by decide +kernel, rfl⟩
theorem d_X3_counts_5 : zDc M_X3_counts 5 (.baload) 1 6 := ⟨by decide +kernel, rfl⟩
theorem d_X3_counts_6 : zDj M_X3_counts 6 (.ifCond .ne 17) 17 9 23 := ⟨by decide +kernel, rfl, by decide⟩
theorem d_X3_counts_9 : zDc M_X3_counts 9 (.aload_n 0) 1 10 := ⟨by decide +kernel, rfl⟩
theorem d_X3_counts_10 : zDc M_X3_counts 10 (.getfield 25) 3 13 := ⟨by decide +kernel, rfl⟩
theorem d_X3_counts_13 : zDc M_X3_counts 13 (.iload_n 1) 1 14 := ⟨by decide +kernel, rfl⟩
theorem d_X3_counts_14 : zDc M_X3_counts 14 (.iaload) 1 15 := ⟨by decide +kernel, rfl⟩
theorem d_X3_counts_15 : zDc M_X3_counts 15 (.iconst (-1)) 1 16 := ⟨by decide +kernel, rfl⟩
theorem d_X3_counts_16 : zDj M_X3_counts 16 (.if_icmp .ne 7) 7 19 23 := ⟨by decide +kernel, rfl, by decide⟩
theorem d_X3_counts_19 : zDc M_X3_counts 19 (.iconst 1) 1 20 := ⟨by decide +kernel, rfl⟩
theorem d_X3_counts_20 : zDj M_X3_counts 20 (.goto 4) 4 23 24 := ⟨by decide +kernel, rfl, by decide⟩
theorem d_X3_counts_23 : zDc M_X3_counts 23 (.iconst 0) 1 24 := ⟨by decide +kernel, rfl⟩
theorem d_X3_counts_24 : zDc M_X3_counts 24 (.ireturn) 1 25 := ⟨by decide +kernel, rfl⟩
def f_X3_counts (a0 : Nat) (a1 : Int32) (h0 : zHp) : Option (Int32 × zHp) :=
  zob (zgR h0 a0 3 5) (fun v1 =>
  zob (zaI 2 h0 v1 a1) (fun v2 =>
  if v2 = 0 then
  zob (zgR h0 a0 3 4) (fun v3 =>
  zob (zaI 0 h0 v3 a1) (fun v4 =>
  if v4 = (-1) then
  some (1, h0)
  else
  some (0, h0)))
  else
  some (0, h0)))
set_option maxRecDepth 100000 in
set_option maxHeartbeats 4000000 in
theorem t_X3_counts (a0 : Nat) (a1 : Int32) (h0 : zHp) : ∀ (r : Int32) (h' : zHp), f_X3_counts a0 a1 h0 = some (r, h') → zCt yX3_counts (.code yX3_counts cX3_counts 2 (some .boolean)) 1 60 0 0 [.ref a0, .int a1] h0 (some (.int r)) h' := by
  refine zct_of M_X3_counts yX3_counts (by decide) rfl rfl [.ref a0, .int a1] h0 (Nat.le_of_ble_eq_true rfl) (fun r => some (.int r)) (fun X => ?_)
  show zG X M_X3_counts (0, 0) 0 [(0, .ref a0), (1, .int a1)] [] h0 (f_X3_counts a0 a1 h0) (fun (r : Int32) h' => zKe X (some (.int r)) h')
  unfold f_X3_counts
  refine zg_aload_n 0 rfl d_X3_counts_0 ?_
  refine zg_getR d_X3_counts_1 zc_3 (by decide) fl_X3_28 (fun v1 => ?_)
  refine zg_iload_n 1 rfl d_X3_counts_4 ?_
  refine zg_ald2 d_X3_counts_5 (fun v2 => ?_)
  refine zg_if_ne d_X3_counts_6 ?_ ?_
  · refine zg_aload_n 0 rfl d_X3_counts_9 ?_
    refine zg_getR d_X3_counts_10 zc_3 (by decide) fl_X3_25 (fun v3 => ?_)
    refine zg_iload_n 1 rfl d_X3_counts_13 ?_
    refine zg_ald0 d_X3_counts_14 (fun v4 => ?_)
    refine zg_iconst (-1) rfl d_X3_counts_15 ?_
    refine zg_icmp_ne d_X3_counts_16 ?_ ?_
    · refine zg_iconst 1 rfl d_X3_counts_19 ?_
      refine zg_goto d_X3_counts_20 ?_
      exact zg_zretK d_X3_counts_24 rfl ⟨Nat.le_of_ble_eq_true rfl, Nat.le_of_ble_eq_true rfl⟩ (Or.inr rfl) (fun q => q)
    · refine zg_iconst 0 rfl d_X3_counts_23 ?_
      exact zg_zretK d_X3_counts_24 rfl ⟨Nat.le_of_ble_eq_true rfl, Nat.le_of_ble_eq_true rfl⟩ (Or.inl rfl) (fun q => q)
  · refine zg_iconst 0 rfl d_X3_counts_23 ?_
    exact zg_zretK d_X3_counts_24 rfl ⟨Nat.le_of_ble_eq_true rfl, Nat.le_of_ble_eq_true rfl⟩ (Or.inl rfl) (fun q => q)
abbrev M_X3_readable : zMt := (RX3, cX3_readable, 1, 1, 60, (some .int), "readable", 0, 0)
theorem d_X3_readable_0 : zDc M_X3_readable 0 (.aload_n 0) 1 1 := ⟨by decide +kernel, rfl⟩
theorem d_X3_readable_1 : zDc M_X3_readable 1 (.getfield 35) 3 4 := ⟨by decide +kernel, rfl⟩
theorem d_X3_readable_4 : zDc M_X3_readable 4 (.iconst (-1)) 1 5 := ⟨by decide +kernel, rfl⟩
theorem d_X3_readable_5 : zDj M_X3_readable 5 (.if_icmp .ne 10) 10 8 15 := ⟨by decide +kernel, rfl, by decide⟩
theorem d_X3_readable_8 : zDc M_X3_readable 8 (.aload_n 0) 1 9 := ⟨by decide +kernel, rfl⟩
theorem d_X3_readable_9 : zDc M_X3_readable 9 (.getfield 31) 3 12 := ⟨by decide +kernel, rfl⟩
theorem d_X3_readable_12 : zDj M_X3_readable 12 (.goto 7) 7 15 19 := ⟨by decide +kernel, rfl, by decide⟩
theorem d_X3_readable_15 : zDc M_X3_readable 15 (.aload_n 0) 1 16 := ⟨by decide +kernel, rfl⟩
theorem d_X3_readable_16 : zDc M_X3_readable 16 (.getfield 35) 3 19 := ⟨by decide +kernel, rfl⟩
theorem d_X3_readable_19 : zDc M_X3_readable 19 (.ireturn) 1 20 := ⟨by decide +kernel, rfl⟩
def f_X3_readable (a0 : Nat) (h0 : zHp) : Option (Int32 × zHp) :=
  zob (zgI h0 a0 3 7) (fun v1 =>
  if v1 = (-1) then
  zob (zgI h0 a0 3 6) (fun v2 =>
  some (v2, h0))
  else
  zob (zgI h0 a0 3 7) (fun v3 =>
  some (v3, h0)))
set_option maxRecDepth 100000 in
set_option maxHeartbeats 4000000 in
theorem t_X3_readable (a0 : Nat) (h0 : zHp) : ∀ (r : Int32) (h' : zHp), f_X3_readable a0 h0 = some (r, h') → zCt yX3_readable (.code yX3_readable cX3_readable 1 (some .int)) 1 60 0 0 [.ref a0] h0 (some (.int r)) h' := by
  refine zct_of M_X3_readable yX3_readable (by decide) rfl rfl [.ref a0] h0 (Nat.le_of_ble_eq_true rfl) (fun r => some (.int r)) (fun X => ?_)
  show zG X M_X3_readable (0, 0) 0 [(0, .ref a0)] [] h0 (f_X3_readable a0 h0) (fun (r : Int32) h' => zKe X (some (.int r)) h')
  unfold f_X3_readable
  refine zg_aload_n 0 rfl d_X3_readable_0 ?_
  refine zg_getI d_X3_readable_1 zc_3 (by decide) fl_X3_35 (fun v1 => ?_)
  refine zg_iconst (-1) rfl d_X3_readable_4 ?_
  refine zg_icmp_ne d_X3_readable_5 ?_ ?_
  · refine zg_aload_n 0 rfl d_X3_readable_8 ?_
    refine zg_getI d_X3_readable_9 zc_3 (by decide) fl_X3_31 (fun v2 => ?_)
    refine zg_goto d_X3_readable_12 ?_
    exact zg_iretK d_X3_readable_19 rfl ⟨Nat.le_of_ble_eq_true rfl, Nat.le_of_ble_eq_true rfl⟩ (fun q => q)
  · refine zg_aload_n 0 rfl d_X3_readable_15 ?_
    refine zg_getI d_X3_readable_16 zc_3 (by decide) fl_X3_35 (fun v3 => ?_)
    exact zg_iretK d_X3_readable_19 rfl ⟨Nat.le_of_ble_eq_true rfl, Nat.le_of_ble_eq_true rfl⟩ (fun q => q)
abbrev M_X5_isUp : zMt := (RX5, cX5_isUp, 2, 1, 60, (some .boolean), "isUp", 0, 0)
theorem d_X5_isUp_0 : zDc M_X5_isUp 0 (.aload_n 0) 1 1 := ⟨by decide +kernel, rfl⟩
theorem d_X5_isUp_1 : zDc M_X5_isUp 1 (.getfield 27) 3 4 := ⟨by decide +kernel, rfl⟩
theorem d_X5_isUp_4 : zDc M_X5_isUp 4 (.iload_n 1) 1 5 := ⟨by decide +kernel, rfl⟩
theorem d_X5_isUp_5 : zDc M_X5_isUp 5 (.iaload) 1 6 := ⟨by decide +kernel, rfl⟩
theorem d_X5_isUp_6 : zDc M_X5_isUp 6 (.iconst 1) 1 7 := ⟨by decide +kernel, rfl⟩
theorem d_X5_isUp_7 : zDj M_X5_isUp 7 (.if_icmp .ne 7) 7 10 14 := ⟨by decide +kernel, rfl, by decide⟩
theorem d_X5_isUp_10 : zDc M_X5_isUp 10 (.iconst 1) 1 11 := ⟨by decide +kernel, rfl⟩
theorem d_X5_isUp_11 : zDj M_X5_isUp 11 (.goto 4) 4 14 15 := ⟨by decide +kernel, rfl, by decide⟩
theorem d_X5_isUp_14 : zDc M_X5_isUp 14 (.iconst 0) 1 15 := ⟨by decide +kernel, rfl⟩
theorem d_X5_isUp_15 : zDc M_X5_isUp 15 (.ireturn) 1 16 := ⟨by decide +kernel, rfl⟩
def f_X5_isUp (a0 : Nat) (a1 : Int32) (h0 : zHp) : Option (Int32 × zHp) :=
  zob (zgR h0 a0 5 5) (fun v1 =>
  zob (zaI 0 h0 v1 a1) (fun v2 =>
  if v2 = 1 then
  some (1, h0)
  else
  some (0, h0)))
set_option maxRecDepth 100000 in
set_option maxHeartbeats 4000000 in
theorem t_X5_isUp (a0 : Nat) (a1 : Int32) (h0 : zHp) : ∀ (r : Int32) (h' : zHp), f_X5_isUp a0 a1 h0 = some (r, h') → zCt yX5_isUp (.code yX5_isUp cX5_isUp 2 (some .boolean)) 1 60 0 0 [.ref a0, .int a1] h0 (some (.int r)) h' := by
  refine zct_of M_X5_isUp yX5_isUp (by decide) rfl rfl [.ref a0, .int a1] h0 (Nat.le_of_ble_eq_true rfl) (fun r => some (.int r)) (fun X => ?_)
  show zG X M_X5_isUp (0, 0) 0 [(0, .ref a0), (1, .int a1)] [] h0 (f_X5_isUp a0 a1 h0) (fun (r : Int32) h' => zKe X (some (.int r)) h')
  unfold f_X5_isUp
  refine zg_aload_n 0 rfl d_X5_isUp_0 ?_
  refine zg_getR d_X5_isUp_1 zc_5 (by decide) fl_X5_27 (fun v1 => ?_)
  refine zg_iload_n 1 rfl d_X5_isUp_4 ?_
  refine zg_ald0 d_X5_isUp_5 (fun v2 => ?_)
  refine zg_iconst 1 rfl d_X5_isUp_6 ?_
  refine zg_icmp_ne d_X5_isUp_7 ?_ ?_
  · refine zg_iconst 1 rfl d_X5_isUp_10 ?_
    refine zg_goto d_X5_isUp_11 ?_
    exact zg_zretK d_X5_isUp_15 rfl ⟨Nat.le_of_ble_eq_true rfl, Nat.le_of_ble_eq_true rfl⟩ (Or.inr rfl) (fun q => q)
  · refine zg_iconst 0 rfl d_X5_isUp_14 ?_
    exact zg_zretK d_X5_isUp_15 rfl ⟨Nat.le_of_ble_eq_true rfl, Nat.le_of_ble_eq_true rfl⟩ (Or.inl rfl) (fun q => q)
abbrev M_X5_cloudsAt : zMt := (RX5, cX5_cloudsAt, 5, 2, 81, (some .int), "cloudsAt", 0, 0)
theorem d_X5_cloudsAt_0 : zDc M_X5_cloudsAt 0 (.iconst 0) 1 1 := ⟨by decide +kernel, rfl⟩
theorem d_X5_cloudsAt_1 : zDc M_X5_cloudsAt 1 (.istore_n 3) 1 2 := ⟨by decide +kernel, rfl⟩
theorem d_X5_cloudsAt_2 : zDc M_X5_cloudsAt 2 (.iconst 0) 1 3 := ⟨by decide +kernel, rfl⟩
theorem d_X5_cloudsAt_3 : zDc M_X5_cloudsAt 3 (.istore 4) 2 5 := ⟨by decide +kernel, rfl⟩
theorem d_X5_cloudsAt_5 : zDc M_X5_cloudsAt 5 (.iload 4) 2 7 := ⟨by decide +kernel, rfl⟩
theorem d_X5_cloudsAt_7 : zDc M_X5_cloudsAt 7 (.aload_n 0) 1 8 := ⟨by decide +kernel, rfl⟩
theorem d_X5_cloudsAt_8 : zDc M_X5_cloudsAt 8 (.getfield 50) 3 11 := ⟨by decide +kernel, rfl⟩
theorem d_X5_cloudsAt_11 : zDc M_X5_cloudsAt 11 (.getfield 90) 3 14 := ⟨by decide +kernel, rfl⟩
theorem d_X5_cloudsAt_14 : zDj M_X5_cloudsAt 14 (.if_icmp .ge 47) 47 17 61 := ⟨by decide +kernel, rfl, by decide⟩
theorem d_X5_cloudsAt_17 : zDc M_X5_cloudsAt 17 (.aload_n 0) 1 18 := ⟨by decide +kernel, rfl⟩
theorem d_X5_cloudsAt_18 : zDc M_X5_cloudsAt 18 (.iload 4) 2 20 := ⟨by decide +kernel, rfl⟩
theorem d_X5_cloudsAt_20 : zDc M_X5_cloudsAt 20 (.invokevirtual 93) 3 23 := ⟨by decide +kernel, rfl⟩
theorem d_X5_cloudsAt_23 : zDj M_X5_cloudsAt 23 (.ifCond .eq 32) 32 26 55 := ⟨by decide +kernel, rfl, by decide⟩
theorem d_X5_cloudsAt_26 : zDc M_X5_cloudsAt 26 (.aload_n 0) 1 27 := ⟨by decide +kernel, rfl⟩
theorem d_X5_cloudsAt_27 : zDc M_X5_cloudsAt 27 (.getfield 9) 3 30 := ⟨by decide +kernel, rfl⟩
theorem d_X5_cloudsAt_30 : zDc M_X5_cloudsAt 30 (.iload 4) 2 32 := ⟨by decide +kernel, rfl⟩
theorem d_X5_cloudsAt_32 : zDc M_X5_cloudsAt 32 (.iaload) 1 33 := ⟨by decide +kernel, rfl⟩
theorem d_X5_cloudsAt_33 : zDc M_X5_cloudsAt 33 (.iload_n 1) 1 34 := ⟨by decide +kernel, rfl⟩
theorem d_X5_cloudsAt_34 : zDj M_X5_cloudsAt 34 (.if_icmp .ne 21) 21 37 55 := ⟨by decide +kernel, rfl, by decide⟩
theorem d_X5_cloudsAt_37 : zDc M_X5_cloudsAt 37 (.aload_n 0) 1 38 := ⟨by decide +kernel, rfl⟩
theorem d_X5_cloudsAt_38 : zDc M_X5_cloudsAt 38 (.getfield 15) 3 41 := ⟨by decide +kernel, rfl⟩
theorem d_X5_cloudsAt_41 : zDc M_X5_cloudsAt 41 (.iload 4) 2 43 := ⟨by decide +kernel, rfl⟩
theorem d_X5_cloudsAt_43 : zDc M_X5_cloudsAt 43 (.iaload) 1 44 := ⟨by decide +kernel, rfl⟩
theorem d_X5_cloudsAt_44 : zDc M_X5_cloudsAt 44 (.iload_n 2) 1 45 := ⟨by decide +kernel, rfl⟩
theorem d_X5_cloudsAt_45 : zDj M_X5_cloudsAt 45 (.if_icmp .ne 10) 10 48 55 := ⟨by decide +kernel, rfl, by decide⟩
theorem d_X5_cloudsAt_48 : zDc M_X5_cloudsAt 48 (.iload_n 3) 1 49 := ⟨by decide +kernel, rfl⟩
theorem d_X5_cloudsAt_49 : zDc M_X5_cloudsAt 49 (.iconst 1) 1 50 := ⟨by decide +kernel, rfl⟩
theorem d_X5_cloudsAt_50 : zDc M_X5_cloudsAt 50 (.iload 4) 2 52 := ⟨by decide +kernel, rfl⟩
theorem d_X5_cloudsAt_52 : zDc M_X5_cloudsAt 52 (.ishl) 1 53 := ⟨by decide +kernel, rfl⟩
theorem d_X5_cloudsAt_53 : zDc M_X5_cloudsAt 53 (.ior) 1 54 := ⟨by decide +kernel, rfl⟩
theorem d_X5_cloudsAt_54 : zDc M_X5_cloudsAt 54 (.istore_n 3) 1 55 := ⟨by decide +kernel, rfl⟩
theorem d_X5_cloudsAt_55 : zDc M_X5_cloudsAt 55 (.iinc 4 1) 3 58 := ⟨by decide +kernel, rfl⟩
theorem d_X5_cloudsAt_58 : zDj M_X5_cloudsAt 58 (.goto (-53)) (-53) 61 5 := ⟨by decide +kernel, rfl, by decide⟩
theorem d_X5_cloudsAt_61 : zDc M_X5_cloudsAt 61 (.iload_n 3) 1 62 := ⟨by decide +kernel, rfl⟩
theorem d_X5_cloudsAt_62 : zDc M_X5_cloudsAt 62 (.ireturn) 1 63 := ⟨by decide +kernel, rfl⟩
def f_X5_cloudsAt (a0 : Nat) (a1 : Int32) (a2 : Int32) (h0 : zHp) : Option (Int32 × zHp) :=
  zbd (
  zlp (σ := (Int32 × Int32)) (β := (Int32 × Int32)) zLF (fun s1 h2 =>
  zob (zgR h2 a0 5 14) (fun v5 =>
  zob (zgI h2 v5 6 14) (fun v6 =>
  if v6 ≤ s1.2 then
  some ((.inr (s1.1, s1.2)), h2)
  else
  zbd (zcv 5 a0 h2 (f_X5_isUp a0 s1.2 h2)) (fun v8 h7 =>
  if v8 = 0 then
  some ((.inl (s1.1, (s1.2 + 1))), h7)
  else
  zob (zgR h7 a0 5 0) (fun v9 =>
  zob (zaI 0 h7 v9 s1.2) (fun v10 =>
  if v10 = a1 then
  zob (zgR h7 a0 5 1) (fun v11 =>
  zob (zaI 0 h7 v11 s1.2) (fun v12 =>
  if v12 = a2 then
  some ((.inl ((s1.1 ||| (1 <<< (s1.2 &&& 31))), (s1.2 + 1))), h7)
  else
  some ((.inl (s1.1, (s1.2 + 1))), h7)))
  else
  some ((.inl (s1.1, (s1.2 + 1))), h7))))))) (0, 0) h0) (fun e3 h4 =>
  some (e3.1, h4))
set_option maxRecDepth 100000 in
set_option maxHeartbeats 4000000 in
theorem t_X5_cloudsAt (a0 : Nat) (a1 : Int32) (a2 : Int32) (h0 : zHp) : ∀ (r : Int32) (h' : zHp), f_X5_cloudsAt a0 a1 a2 h0 = some (r, h') → zCt yX5_cloudsAt (.code yX5_cloudsAt cX5_cloudsAt 5 (some .int)) 2 81 0 0 [.ref a0, .int a1, .int a2] h0 (some (.int r)) h' := by
  refine zct_of M_X5_cloudsAt yX5_cloudsAt (by decide) rfl rfl [.ref a0, .int a1, .int a2] h0 (Nat.le_of_ble_eq_true rfl) (fun r => some (.int r)) (fun X => ?_)
  show zG X M_X5_cloudsAt (0, 0) 0 [(0, .ref a0), (1, .int a1), (2, .int a2)] [] h0 (f_X5_cloudsAt a0 a1 a2 h0) (fun (r : Int32) h' => zKe X (some (.int r)) h')
  unfold f_X5_cloudsAt
  refine zg_iconst 0 rfl d_X5_cloudsAt_0 ?_
  refine zg_istore_n [(3, .int 0), (0, .ref a0), (1, .int a1), (2, .int a2)] d_X5_cloudsAt_1 rfl (by decide) rfl ?_
  refine zg_iconst 0 rfl d_X5_cloudsAt_2 ?_
  refine zg_istore [(4, .int 0), (3, .int 0), (0, .ref a0), (1, .int a1), (2, .int a2)] d_X5_cloudsAt_3 (by decide) rfl ?_
  refine zg_bd (E := 61) (el := (fun (e3 : (Int32 × Int32)) => [(0, .ref a0), (1, .int a1), (2, .int a2), (3, .int e3.1), (4, .int e3.2)])) (es := fun _ => []) (zg_sub [2, 3, 4, 1, 0] rfl (zg_lp (el := (fun (s1 : (Int32 × Int32)) => [(0, .ref a0), (1, .int a1), (2, .int a2), (3, .int s1.1), (4, .int s1.2)])) (fun s1 h2 => ?_) (0, 0) h0)) (fun e3 h4 => ?_)
  · refine zg_iload 4 rfl d_X5_cloudsAt_5 ?_
    refine zg_aload_n 0 rfl d_X5_cloudsAt_7 ?_
    refine zg_getR d_X5_cloudsAt_8 zc_5 (by decide) fl_X5_50 (fun v5 => ?_)
    refine zg_getI d_X5_cloudsAt_11 zc_6 (by decide) fl_X5_90 (fun v6 => ?_)
    refine zg_icmp_ge d_X5_cloudsAt_14 ?_ ?_
    · exact zg_finK (E := 0) [0, 1, 2, 3, 4] rfl rfl (fun q => q)
    · refine zg_aload_n 0 rfl d_X5_cloudsAt_17 ?_
      refine zg_iload 4 rfl d_X5_cloudsAt_18 ?_
      refine zg_cVi (b := a0) (As := [.int s1.2]) (rest := []) (0, 0) d_X5_cloudsAt_20 zc_5 rfl cw_X5_93 wi_X5_isUp ws_X5_isUp rfl rfl (Nat.le_of_ble_eq_true rfl) (by decide) (by decide) ⟨by decide, by decide⟩ rfl (t_X5_isUp a0 s1.2 h2) (fun v8 h7 => ?_)
      refine zg_if_eq d_X5_cloudsAt_23 ?_ ?_
      · refine zg_iinc 4 (s1.2 + 1) [(4, .int (s1.2 + 1)), (0, .ref a0), (1, .int a1), (2, .int a2), (3, .int s1.1)] d_X5_cloudsAt_55 rfl rfl (by decide) rfl ?_
        refine zg_goto d_X5_cloudsAt_58 ?_
        exact zg_finK (E := 0) [1, 2, 3, 4, 0] rfl rfl (fun q => q)
      · refine zg_aload_n 0 rfl d_X5_cloudsAt_26 ?_
        refine zg_getR d_X5_cloudsAt_27 zc_5 (by decide) fl_X5_9 (fun v9 => ?_)
        refine zg_iload 4 rfl d_X5_cloudsAt_30 ?_
        refine zg_ald0 d_X5_cloudsAt_32 (fun v10 => ?_)
        refine zg_iload_n 1 rfl d_X5_cloudsAt_33 ?_
        refine zg_icmp_ne d_X5_cloudsAt_34 ?_ ?_
        · refine zg_aload_n 0 rfl d_X5_cloudsAt_37 ?_
          refine zg_getR d_X5_cloudsAt_38 zc_5 (by decide) fl_X5_15 (fun v11 => ?_)
          refine zg_iload 4 rfl d_X5_cloudsAt_41 ?_
          refine zg_ald0 d_X5_cloudsAt_43 (fun v12 => ?_)
          refine zg_iload_n 2 rfl d_X5_cloudsAt_44 ?_
          refine zg_icmp_ne d_X5_cloudsAt_45 ?_ ?_
          · refine zg_iload_n 3 rfl d_X5_cloudsAt_48 ?_
            refine zg_iconst 1 rfl d_X5_cloudsAt_49 ?_
            refine zg_iload 4 rfl d_X5_cloudsAt_50 ?_
            refine zg_ishl d_X5_cloudsAt_52 ?_
            refine zg_ior d_X5_cloudsAt_53 ?_
            refine zg_istore_n [(3, .int (s1.1 ||| (1 <<< (s1.2 &&& 31)))), (0, .ref a0), (1, .int a1), (2, .int a2), (4, .int s1.2)] d_X5_cloudsAt_54 rfl (by decide) rfl ?_
            refine zg_iinc 4 (s1.2 + 1) [(4, .int (s1.2 + 1)), (3, .int (s1.1 ||| (1 <<< (s1.2 &&& 31)))), (0, .ref a0), (1, .int a1), (2, .int a2)] d_X5_cloudsAt_55 rfl rfl (by decide) rfl ?_
            refine zg_goto d_X5_cloudsAt_58 ?_
            exact zg_finK (E := 0) [2, 3, 4, 1, 0] rfl rfl (fun q => q)
          · refine zg_iinc 4 (s1.2 + 1) [(4, .int (s1.2 + 1)), (0, .ref a0), (1, .int a1), (2, .int a2), (3, .int s1.1)] d_X5_cloudsAt_55 rfl rfl (by decide) rfl ?_
            refine zg_goto d_X5_cloudsAt_58 ?_
            exact zg_finK (E := 0) [1, 2, 3, 4, 0] rfl rfl (fun q => q)
        · refine zg_iinc 4 (s1.2 + 1) [(4, .int (s1.2 + 1)), (0, .ref a0), (1, .int a1), (2, .int a2), (3, .int s1.1)] d_X5_cloudsAt_55 rfl rfl (by decide) rfl ?_
          refine zg_goto d_X5_cloudsAt_58 ?_
          exact zg_finK (E := 0) [1, 2, 3, 4, 0] rfl rfl (fun q => q)
  · refine zg_iload_n 3 rfl d_X5_cloudsAt_61 ?_
    exact zg_iretK d_X5_cloudsAt_62 rfl ⟨Nat.le_of_ble_eq_true rfl, Nat.le_of_ble_eq_true rfl⟩ (fun q => q)
abbrev M_X3_fits : zMt := (RX3, cX3_fits, 3, 3, 105, (some .boolean), "fits", 0, 0)
theorem d_X3_fits_0 : zDc M_X3_fits 0 (.iconst 0) 1 1 := ⟨by decide +kernel, rfl⟩
theorem d_X3_fits_1 : zDc M_X3_fits 1 (.istore_n 2) 1 2 := ⟨by decide +kernel, rfl⟩
theorem d_X3_fits_2 : zDc M_X3_fits 2 (.iload_n 2) 1 3 := ⟨by decide +kernel, rfl⟩
theorem d_X3_fits_3 : zDc M_X3_fits 3 (.aload_n 0) 1 4 := ⟨by decide +kernel, rfl⟩
theorem d_X3_fits_4 : zDc M_X3_fits 4 (.invokevirtual 42) 3 7 := ⟨by decide +kernel, rfl⟩
theorem d_X3_fits_7 : zDj M_X3_fits 7 (.if_icmp .ge 65) 65 10 72 := ⟨by decide +kernel, rfl, by decide⟩
theorem d_X3_fits_10 : zDc M_X3_fits 10 (.aload_n 0) 1 11 := ⟨by decide +kernel, rfl⟩
theorem d_X3_fits_11 : zDc M_X3_fits 11 (.iload_n 2) 1 12 := ⟨by decide +kernel, rfl⟩
theorem d_X3_fits_12 : zDc M_X3_fits 12 (.invokevirtual 46) 3 15 := ⟨by decide +kernel, rfl⟩
theorem d_X3_fits_15 : zDj M_X3_fits 15 (.ifCond .eq 51) 51 18 66 := ⟨by decide +kernel, rfl, by decide⟩
theorem d_X3_fits_18 : zDc M_X3_fits 18 (.aload_n 0) 1 19 := ⟨by decide +kernel, rfl⟩
theorem d_X3_fits_19 : zDc M_X3_fits 19 (.getfield 9) 3 22 := ⟨by decide +kernel, rfl⟩
theorem d_X3_fits_22 : zDc M_X3_fits 22 (.iload_n 2) 1 23 := ⟨by decide +kernel, rfl⟩
theorem d_X3_fits_23 : zDc M_X3_fits 23 (.iaload) 1 24 := ⟨by decide +kernel, rfl⟩
theorem d_X3_fits_24 : zDc M_X3_fits 24 (.aload_n 1) 1 25 := ⟨by decide +kernel, rfl⟩
theorem d_X3_fits_25 : zDc M_X3_fits 25 (.getfield 56) 3 28 := ⟨by decide +kernel, rfl⟩
theorem d_X3_fits_28 : zDj M_X3_fits 28 (.if_icmp .ne 38) 38 31 66 := ⟨by decide +kernel, rfl, by decide⟩
theorem d_X3_fits_31 : zDc M_X3_fits 31 (.aload_n 0) 1 32 := ⟨by decide +kernel, rfl⟩
theorem d_X3_fits_32 : zDc M_X3_fits 32 (.getfield 21) 3 35 := ⟨by decide +kernel, rfl⟩
theorem d_X3_fits_35 : zDc M_X3_fits 35 (.iload_n 2) 1 36 := ⟨by decide +kernel, rfl⟩
theorem d_X3_fits_36 : zDc M_X3_fits 36 (.baload) 1 37 := ⟨by decide +kernel, rfl⟩
theorem d_X3_fits_37 : zDc M_X3_fits 37 (.aload_n 1) 1 38 := ⟨by decide +kernel, rfl⟩
theorem d_X3_fits_38 : zDc M_X3_fits 38 (.aload_n 0) 1 39 := ⟨by decide +kernel, rfl⟩
theorem d_X3_fits_39 : zDc M_X3_fits 39 (.getfield 15) 3 42 := ⟨by decide +kernel, rfl⟩
theorem d_X3_fits_42 : zDc M_X3_fits 42 (.iload_n 2) 1 43 := ⟨by decide +kernel, rfl⟩
theorem d_X3_fits_43 : zDc M_X3_fits 43 (.iaload) 1 44 := ⟨by decide +kernel, rfl⟩
theorem d_X3_fits_44 : zDc M_X3_fits 44 (.aload_n 0) 1 45 := ⟨by decide +kernel, rfl⟩
theorem d_X3_fits_45 : zDc M_X3_fits 45 (.getfield 18) 3 48 := ⟨by decide +kernel, rfl⟩
theorem d_X3_fits_48 : zDc M_X3_fits 48 (.iload_n 2) 1 49 := ⟨by decide +kernel, rfl⟩
theorem d_X3_fits_49 : zDc M_X3_fits 49 (.iaload) 1 50 := ⟨by decide +kernel, rfl⟩
theorem d_X3_fits_50 : zDc M_X3_fits 50 (.invokevirtual 61) 3 53 := ⟨by decide +kernel, rfl⟩
theorem d_X3_fits_53 : zDj M_X3_fits 53 (.ifCond .eq 7) 7 56 60 := ⟨by decide +kernel, rfl, by decide⟩
theorem d_X3_fits_56 : zDc M_X3_fits 56 (.iconst 1) 1 57 := ⟨by decide +kernel, rfl⟩
theorem d_X3_fits_57 : zDj M_X3_fits 57 (.goto 4) 4 60 61 := ⟨by decide +kernel, rfl, by decide⟩
theorem d_X3_fits_60 : zDc M_X3_fits 60 (.iconst 0) 1 61 := ⟨by decide +kernel, rfl⟩
theorem d_X3_fits_61 : zDj M_X3_fits 61 (.if_icmp .eq 5) 5 64 66 := ⟨by decide +kernel, rfl, by decide⟩
theorem d_X3_fits_64 : zDc M_X3_fits 64 (.iconst 0) 1 65 := ⟨by decide +kernel, rfl⟩
theorem d_X3_fits_65 : zDc M_X3_fits 65 (.ireturn) 1 66 := ⟨by decide +kernel, rfl⟩
theorem d_X3_fits_66 : zDc M_X3_fits 66 (.iinc 2 1) 3 69 := ⟨by decide +kernel, rfl⟩
theorem d_X3_fits_69 : zDj M_X3_fits 69 (.goto (-67)) (-67) 72 2 := ⟨by decide +kernel, rfl, by decide⟩
theorem d_X3_fits_72 : zDc M_X3_fits 72 (.iconst 1) 1 73 := ⟨by decide +kernel, rfl⟩
theorem d_X3_fits_73 : zDc M_X3_fits 73 (.ireturn) 1 74 := ⟨by decide +kernel, rfl⟩
def f_X3_fits (a0 : Nat) (a1 : Nat) (h0 : zHp) : Option (Int32 × zHp) :=
  zbd (
  zlp (σ := Int32) (β := (Int32 ⊕ Int32)) zLF (fun s1 h2 =>
  zbd (zcv 3 a0 h2 (f_X3_readable a0 h2)) (fun v6 h5 =>
  if v6 ≤ s1 then
  some ((.inr (.inl s1)), h5)
  else
  zbd (zcv 3 a0 h5 (f_X3_counts a0 s1 h5)) (fun v8 h7 =>
  if v8 = 0 then
  some ((.inl (s1 + 1)), h7)
  else
  zob (zgR h7 a0 3 0) (fun v9 =>
  zob (zaI 0 h7 v9 s1) (fun v10 =>
  zob (zgI h7 a1 5 11) (fun v11 =>
  if v10 = v11 then
  zob (zgR h7 a0 3 3) (fun v12 =>
  zob (zaI 2 h7 v12 s1) (fun v13 =>
  zob (zgR h7 a0 3 1) (fun v14 =>
  zob (zaI 0 h7 v14 s1) (fun v15 =>
  zob (zgR h7 a0 3 2) (fun v16 =>
  zob (zaI 0 h7 v16 s1) (fun v17 =>
  zbd (zcv 5 a1 h7 (f_X5_cloudsAt a1 v15 v17 h7)) (fun v19 h18 =>
  zbd (α := Int32) (
  if v19 = 0 then
  some (0, h18)
  else
  some (1, h18)) (fun e20 h21 =>
  if v13 = e20 then
  some ((.inl (s1 + 1)), h21)
  else
  some ((.inr (.inr 0)), h21)))))))))
  else
  some ((.inl (s1 + 1)), h7))))))) 0 h0) (fun b22 h4 => zsl b22 (fun e3 =>
  some (1, h4)) (fun r => some (r, h4)))
set_option maxRecDepth 100000 in
set_option maxHeartbeats 4000000 in
theorem t_X3_fits (a0 : Nat) (a1 : Nat) (h0 : zHp) : ∀ (r : Int32) (h' : zHp), f_X3_fits a0 a1 h0 = some (r, h') → zCt yX3_fits (.code yX3_fits cX3_fits 3 (some .boolean)) 3 105 0 0 [.ref a0, .ref a1] h0 (some (.int r)) h' := by
  refine zct_of M_X3_fits yX3_fits (by decide) rfl rfl [.ref a0, .ref a1] h0 (Nat.le_of_ble_eq_true rfl) (fun r => some (.int r)) (fun X => ?_)
  show zG X M_X3_fits (0, 0) 0 [(0, .ref a0), (1, .ref a1)] [] h0 (f_X3_fits a0 a1 h0) (fun (r : Int32) h' => zKe X (some (.int r)) h')
  unfold f_X3_fits
  refine zg_iconst 0 rfl d_X3_fits_0 ?_
  refine zg_istore_n [(2, .int 0), (0, .ref a0), (1, .ref a1)] d_X3_fits_1 rfl (by decide) rfl ?_
  refine zg_bdr (E := 72) (el := (fun (e3 : Int32) => [(0, .ref a0), (1, .ref a1), (2, .int e3)])) (es := fun _ => []) (zg_sub [1, 2, 0] rfl (zg_lp (el := (fun (s1 : Int32) => [(0, .ref a0), (1, .ref a1), (2, .int s1)])) (fun s1 h2 => ?_) 0 h0)) (fun e3 h4 => ?_)
  · refine zg_iload_n 2 rfl d_X3_fits_2 ?_
    refine zg_aload_n 0 rfl d_X3_fits_3 ?_
    refine zg_cVi (b := a0) (As := []) (rest := [.int s1]) (0, 0) d_X3_fits_4 zc_3 rfl cw_X3_42 wi_X3_readable ws_X3_readable rfl rfl (Nat.le_of_ble_eq_true rfl) (by decide) (by decide) ⟨by decide, by decide⟩ rfl (t_X3_readable a0 h2) (fun v6 h5 => ?_)
    refine zg_icmp_ge d_X3_fits_7 ?_ ?_
    · exact zg_finK (E := 0) [0, 1, 2] rfl rfl (fun q => q)
    · refine zg_aload_n 0 rfl d_X3_fits_10 ?_
      refine zg_iload_n 2 rfl d_X3_fits_11 ?_
      refine zg_cVi (b := a0) (As := [.int s1]) (rest := []) (0, 0) d_X3_fits_12 zc_3 rfl cw_X3_46 wi_X3_counts ws_X3_counts rfl rfl (Nat.le_of_ble_eq_true rfl) (by decide) (by decide) ⟨by decide, by decide⟩ rfl (t_X3_counts a0 s1 h5) (fun v8 h7 => ?_)
      refine zg_if_eq d_X3_fits_15 ?_ ?_
      · refine zg_iinc 2 (s1 + 1) [(2, .int (s1 + 1)), (0, .ref a0), (1, .ref a1)] d_X3_fits_66 rfl rfl (by decide) rfl ?_
        refine zg_goto d_X3_fits_69 ?_
        exact zg_finK (E := 0) [1, 2, 0] rfl rfl (fun q => q)
      · refine zg_aload_n 0 rfl d_X3_fits_18 ?_
        refine zg_getR d_X3_fits_19 zc_3 (by decide) fl_X3_9 (fun v9 => ?_)
        refine zg_iload_n 2 rfl d_X3_fits_22 ?_
        refine zg_ald0 d_X3_fits_23 (fun v10 => ?_)
        refine zg_aload_n 1 rfl d_X3_fits_24 ?_
        refine zg_getI d_X3_fits_25 zc_5 (by decide) fl_X3_56 (fun v11 => ?_)
        refine zg_icmp_ne d_X3_fits_28 ?_ ?_
        · refine zg_aload_n 0 rfl d_X3_fits_31 ?_
          refine zg_getR d_X3_fits_32 zc_3 (by decide) fl_X3_21 (fun v12 => ?_)
          refine zg_iload_n 2 rfl d_X3_fits_35 ?_
          refine zg_ald2 d_X3_fits_36 (fun v13 => ?_)
          refine zg_aload_n 1 rfl d_X3_fits_37 ?_
          refine zg_aload_n 0 rfl d_X3_fits_38 ?_
          refine zg_getR d_X3_fits_39 zc_3 (by decide) fl_X3_15 (fun v14 => ?_)
          refine zg_iload_n 2 rfl d_X3_fits_42 ?_
          refine zg_ald0 d_X3_fits_43 (fun v15 => ?_)
          refine zg_aload_n 0 rfl d_X3_fits_44 ?_
          refine zg_getR d_X3_fits_45 zc_3 (by decide) fl_X3_18 (fun v16 => ?_)
          refine zg_iload_n 2 rfl d_X3_fits_48 ?_
          refine zg_ald0 d_X3_fits_49 (fun v17 => ?_)
          refine zg_cVi (b := a1) (As := [.int v15, .int v17]) (rest := [.int v13]) (0, 0) d_X3_fits_50 zc_5 rfl cw_X3_61 wi_X5_cloudsAt ws_X5_cloudsAt rfl rfl (Nat.le_of_ble_eq_true rfl) (by decide) (by decide) ⟨by decide, by decide⟩ rfl (t_X5_cloudsAt a1 v15 v17 h7) (fun v19 h18 => ?_)
          refine zg_bd (E := 61) (el := (fun (e20 : Int32) => [(0, .ref a0), (1, .ref a1), (2, .int s1)])) (es := (fun (e20 : Int32) => [.int e20, .int v13])) ?_ (fun e20 h21 => ?_)
          · refine zg_if_eq d_X3_fits_53 ?_ ?_
            · refine zg_iconst 0 rfl d_X3_fits_60 ?_
              exact zg_finK (E := 0) [0, 1, 2] rfl rfl (fun q => q)
            · refine zg_iconst 1 rfl d_X3_fits_56 ?_
              refine zg_goto d_X3_fits_57 ?_
              exact zg_finK (E := 0) [0, 1, 2] rfl rfl (fun q => q)
          · refine zg_icmp_eq d_X3_fits_61 ?_ ?_
            · refine zg_iinc 2 (s1 + 1) [(2, .int (s1 + 1)), (0, .ref a0), (1, .ref a1)] d_X3_fits_66 rfl rfl (by decide) rfl ?_
              refine zg_goto d_X3_fits_69 ?_
              exact zg_finK (E := 0) [1, 2, 0] rfl rfl (fun q => q)
            · refine zg_iconst 0 rfl d_X3_fits_64 ?_
              exact zg_zretK d_X3_fits_65 rfl ⟨Nat.le_of_ble_eq_true rfl, Nat.le_of_ble_eq_true rfl⟩ (Or.inl rfl) (fun q => q)
        · refine zg_iinc 2 (s1 + 1) [(2, .int (s1 + 1)), (0, .ref a0), (1, .ref a1)] d_X3_fits_66 rfl rfl (by decide) rfl ?_
          refine zg_goto d_X3_fits_69 ?_
          exact zg_finK (E := 0) [1, 2, 0] rfl rfl (fun q => q)
  · refine zg_iconst 1 rfl d_X3_fits_72 ?_
    exact zg_zretK d_X3_fits_73 rfl ⟨Nat.le_of_ble_eq_true rfl, Nat.le_of_ble_eq_true rfl⟩ (Or.inr rfl) (fun q => q)
abbrev M_X3_lastHour : zMt := (RX3, cX3_lastHour, 3, 2, 81, (some .int), "lastHour", 0, 0)
theorem d_X3_lastHour_0 : zDc M_X3_lastHour 0 (.iconst 0) 1 1 := ⟨by decide +kernel, rfl⟩
theorem d_X3_lastHour_1 : zDc M_X3_lastHour 1 (.istore_n 1) 1 2 := ⟨by decide +kernel, rfl⟩
theorem d_X3_lastHour_2 : zDc M_X3_lastHour 2 (.iconst 0) 1 3 := ⟨by decide +kernel, rfl⟩
theorem d_X3_lastHour_3 : zDc M_X3_lastHour 3 (.istore_n 2) 1 4 := ⟨by decide +kernel, rfl⟩
theorem d_X3_lastHour_4 : zDc M_X3_lastHour 4 (.iload_n 2) 1 5 := ⟨by decide +kernel, rfl⟩
theorem d_X3_lastHour_5 : zDc M_X3_lastHour 5 (.aload_n 0) 1 6 := ⟨by decide +kernel, rfl⟩
theorem d_X3_lastHour_6 : zDc M_X3_lastHour 6 (.invokevirtual 42) 3 9 := ⟨by decide +kernel, rfl⟩
theorem d_X3_lastHour_9 : zDj M_X3_lastHour 9 (.if_icmp .ge 28) 28 12 37 := ⟨by decide +kernel, rfl, by decide⟩
theorem d_X3_lastHour_12 : zDc M_X3_lastHour 12 (.aload_n 0) 1 13 := ⟨by decide +kernel, rfl⟩
theorem d_X3_lastHour_13 : zDc M_X3_lastHour 13 (.iload_n 2) 1 14 := ⟨by decide +kernel, rfl⟩
theorem d_X3_lastHour_14 : zDc M_X3_lastHour 14 (.invokevirtual 46) 3 17 := ⟨by decide +kernel, rfl⟩
theorem d_X3_lastHour_17 : zDj M_X3_lastHour 17 (.ifCond .eq 14) 14 20 31 := ⟨by decide +kernel, rfl, by decide⟩
theorem d_X3_lastHour_20 : zDc M_X3_lastHour 20 (.iload_n 1) 1 21 := ⟨by decide +kernel, rfl⟩
theorem d_X3_lastHour_21 : zDc M_X3_lastHour 21 (.aload_n 0) 1 22 := ⟨by decide +kernel, rfl⟩
theorem d_X3_lastHour_22 : zDc M_X3_lastHour 22 (.getfield 9) 3 25 := ⟨by decide +kernel, rfl⟩
theorem d_X3_lastHour_25 : zDc M_X3_lastHour 25 (.iload_n 2) 1 26 := ⟨by decide +kernel, rfl⟩
theorem d_X3_lastHour_26 : zDc M_X3_lastHour 26 (.iaload) 1 27 := ⟨by decide +kernel, rfl⟩
theorem d_X3_lastHour_27 : zDc M_X3_lastHour 27 (.invokestatic 50) 3 30 := ⟨by decide +kernel, rfl⟩
theorem d_X3_lastHour_30 : zDc M_X3_lastHour 30 (.istore_n 1) 1 31 := ⟨by decide +kernel, rfl⟩
theorem d_X3_lastHour_31 : zDc M_X3_lastHour 31 (.iinc 2 1) 3 34 := ⟨by decide +kernel, rfl⟩
theorem d_X3_lastHour_34 : zDj M_X3_lastHour 34 (.goto (-30)) (-30) 37 4 := ⟨by decide +kernel, rfl, by decide⟩
theorem d_X3_lastHour_37 : zDc M_X3_lastHour 37 (.iload_n 1) 1 38 := ⟨by decide +kernel, rfl⟩
theorem d_X3_lastHour_38 : zDc M_X3_lastHour 38 (.ireturn) 1 39 := ⟨by decide +kernel, rfl⟩
def f_X3_lastHour (a0 : Nat) (h0 : zHp) : Option (Int32 × zHp) :=
  zbd (
  zlp (σ := (Int32 × Int32)) (β := (Int32 × Int32)) zLF (fun s1 h2 =>
  zbd (zcv 3 a0 h2 (f_X3_readable a0 h2)) (fun v6 h5 =>
  if v6 ≤ s1.2 then
  some ((.inr (s1.1, s1.2)), h5)
  else
  zbd (zcv 3 a0 h5 (f_X3_counts a0 s1.2 h5)) (fun v8 h7 =>
  if v8 = 0 then
  some ((.inl (s1.1, (s1.2 + 1))), h7)
  else
  zob (zgR h7 a0 3 0) (fun v9 =>
  zob (zaI 0 h7 v9 s1.2) (fun v10 =>
  some ((.inl ((zmx s1.1 v10), (s1.2 + 1))), h7)))))) (0, 0) h0) (fun e3 h4 =>
  some (e3.1, h4))
set_option maxRecDepth 100000 in
set_option maxHeartbeats 4000000 in
theorem t_X3_lastHour (a0 : Nat) (h0 : zHp) : ∀ (r : Int32) (h' : zHp), f_X3_lastHour a0 h0 = some (r, h') → zCt yX3_lastHour (.code yX3_lastHour cX3_lastHour 3 (some .int)) 2 81 0 0 [.ref a0] h0 (some (.int r)) h' := by
  refine zct_of M_X3_lastHour yX3_lastHour (by decide) rfl rfl [.ref a0] h0 (Nat.le_of_ble_eq_true rfl) (fun r => some (.int r)) (fun X => ?_)
  show zG X M_X3_lastHour (0, 0) 0 [(0, .ref a0)] [] h0 (f_X3_lastHour a0 h0) (fun (r : Int32) h' => zKe X (some (.int r)) h')
  unfold f_X3_lastHour
  refine zg_iconst 0 rfl d_X3_lastHour_0 ?_
  refine zg_istore_n [(1, .int 0), (0, .ref a0)] d_X3_lastHour_1 rfl (by decide) rfl ?_
  refine zg_iconst 0 rfl d_X3_lastHour_2 ?_
  refine zg_istore_n [(2, .int 0), (1, .int 0), (0, .ref a0)] d_X3_lastHour_3 rfl (by decide) rfl ?_
  refine zg_bd (E := 37) (el := (fun (e3 : (Int32 × Int32)) => [(0, .ref a0), (1, .int e3.1), (2, .int e3.2)])) (es := fun _ => []) (zg_sub [2, 1, 0] rfl (zg_lp (el := (fun (s1 : (Int32 × Int32)) => [(0, .ref a0), (1, .int s1.1), (2, .int s1.2)])) (fun s1 h2 => ?_) (0, 0) h0)) (fun e3 h4 => ?_)
  · refine zg_iload_n 2 rfl d_X3_lastHour_4 ?_
    refine zg_aload_n 0 rfl d_X3_lastHour_5 ?_
    refine zg_cVi (b := a0) (As := []) (rest := [.int s1.2]) (0, 0) d_X3_lastHour_6 zc_3 rfl cw_X3_42 wi_X3_readable ws_X3_readable rfl rfl (Nat.le_of_ble_eq_true rfl) (by decide) (by decide) ⟨by decide, by decide⟩ rfl (t_X3_readable a0 h2) (fun v6 h5 => ?_)
    refine zg_icmp_ge d_X3_lastHour_9 ?_ ?_
    · exact zg_finK (E := 0) [0, 1, 2] rfl rfl (fun q => q)
    · refine zg_aload_n 0 rfl d_X3_lastHour_12 ?_
      refine zg_iload_n 2 rfl d_X3_lastHour_13 ?_
      refine zg_cVi (b := a0) (As := [.int s1.2]) (rest := []) (0, 0) d_X3_lastHour_14 zc_3 rfl cw_X3_46 wi_X3_counts ws_X3_counts rfl rfl (Nat.le_of_ble_eq_true rfl) (by decide) (by decide) ⟨by decide, by decide⟩ rfl (t_X3_counts a0 s1.2 h5) (fun v8 h7 => ?_)
      refine zg_if_eq d_X3_lastHour_17 ?_ ?_
      · refine zg_iinc 2 (s1.2 + 1) [(2, .int (s1.2 + 1)), (0, .ref a0), (1, .int s1.1)] d_X3_lastHour_31 rfl rfl (by decide) rfl ?_
        refine zg_goto d_X3_lastHour_34 ?_
        exact zg_finK (E := 0) [1, 2, 0] rfl rfl (fun q => q)
      · refine zg_iload_n 1 rfl d_X3_lastHour_20 ?_
        refine zg_aload_n 0 rfl d_X3_lastHour_21 ?_
        refine zg_getR d_X3_lastHour_22 zc_3 (by decide) fl_X3_9 (fun v9 => ?_)
        refine zg_iload_n 2 rfl d_X3_lastHour_25 ?_
        refine zg_ald0 d_X3_lastHour_26 (fun v10 => ?_)
        refine zg_mmax d_X3_lastHour_27 ml_X3_50 (by decide) (Nat.le_of_ble_eq_true rfl) ⟨Nat.le_of_ble_eq_true rfl, Nat.le_of_ble_eq_true rfl⟩ ?_
        refine zg_istore_n [(1, .int (zmx s1.1 v10)), (0, .ref a0), (2, .int s1.2)] d_X3_lastHour_30 rfl (by decide) rfl ?_
        refine zg_iinc 2 (s1.2 + 1) [(2, .int (s1.2 + 1)), (1, .int (zmx s1.1 v10)), (0, .ref a0)] d_X3_lastHour_31 rfl rfl (by decide) rfl ?_
        refine zg_goto d_X3_lastHour_34 ?_
        exact zg_finK (E := 0) [2, 1, 0] rfl rfl (fun q => q)
  · refine zg_iload_n 1 rfl d_X3_lastHour_37 ?_
    exact zg_iretK d_X3_lastHour_38 rfl ⟨Nat.le_of_ble_eq_true rfl, Nat.le_of_ble_eq_true rfl⟩ (fun q => q)
abbrev M_X5_bearClouds : zMt := (RX5, cX5_bearClouds, 2, 1, 60, none, "bearClouds", 0, 0)
theorem d_X5_bearClouds_0 : zDc M_X5_bearClouds 0 (.iconst 0) 1 1 := ⟨by decide +kernel, rfl⟩
theorem d_X5_bearClouds_1 : zDc M_X5_bearClouds 1 (.istore_n 1) 1 2 := ⟨by decide +kernel, rfl⟩
theorem d_X5_bearClouds_2 : zDc M_X5_bearClouds 2 (.iload_n 1) 1 3 := ⟨by decide +kernel, rfl⟩
theorem d_X5_bearClouds_3 : zDc M_X5_bearClouds 3 (.aload_n 0) 1 4 := ⟨by decide +kernel, rfl⟩
theorem d_X5_bearClouds_4 : zDc M_X5_bearClouds 4 (.getfield 50) 3 7 := ⟨by decide +kernel, rfl⟩
theorem d_X5_bearClouds_7 : zDc M_X5_bearClouds 7 (.getfield 90) 3 10 := ⟨by decide +kernel, rfl⟩
theorem d_X5_bearClouds_10 : zDj M_X5_bearClouds 10 (.if_icmp .ge 41) 41 13 51 := ⟨by decide +kernel, rfl, by decide⟩
theorem d_X5_bearClouds_13 : zDc M_X5_bearClouds 13 (.aload_n 0) 1 14 := ⟨by decide +kernel, rfl⟩
theorem d_X5_bearClouds_14 : zDc M_X5_bearClouds 14 (.getfield 27) 3 17 := ⟨by decide +kernel, rfl⟩
theorem d_X5_bearClouds_17 : zDc M_X5_bearClouds 17 (.iload_n 1) 1 18 := ⟨by decide +kernel, rfl⟩
theorem d_X5_bearClouds_18 : zDc M_X5_bearClouds 18 (.iaload) 1 19 := ⟨by decide +kernel, rfl⟩
theorem d_X5_bearClouds_19 : zDj M_X5_bearClouds 19 (.ifCond .ne 26) 26 22 45 := ⟨by decide +kernel, rfl, by decide⟩
theorem d_X5_bearClouds_22 : zDc M_X5_bearClouds 22 (.aload_n 0) 1 23 := ⟨by decide +kernel, rfl⟩
theorem d_X5_bearClouds_23 : zDc M_X5_bearClouds 23 (.getfield 50) 3 26 := ⟨by decide +kernel, rfl⟩
theorem d_X5_bearClouds_26 : zDc M_X5_bearClouds 26 (.getfield 180) 3 29 := ⟨by decide +kernel, rfl⟩
theorem d_X5_bearClouds_29 : zDc M_X5_bearClouds 29 (.iload_n 1) 1 30 := ⟨by decide +kernel, rfl⟩
theorem d_X5_bearClouds_30 : zDc M_X5_bearClouds 30 (.iaload) 1 31 := ⟨by decide +kernel, rfl⟩
theorem d_X5_bearClouds_31 : zDc M_X5_bearClouds 31 (.aload_n 0) 1 32 := ⟨by decide +kernel, rfl⟩
theorem d_X5_bearClouds_32 : zDc M_X5_bearClouds 32 (.getfield 58) 3 35 := ⟨by decide +kernel, rfl⟩
theorem d_X5_bearClouds_35 : zDj M_X5_bearClouds 35 (.if_icmp .ne 10) 10 38 45 := ⟨by decide +kernel, rfl, by decide⟩
theorem d_X5_bearClouds_38 : zDc M_X5_bearClouds 38 (.aload_n 0) 1 39 := ⟨by decide +kernel, rfl⟩
theorem d_X5_bearClouds_39 : zDc M_X5_bearClouds 39 (.getfield 27) 3 42 := ⟨by decide +kernel, rfl⟩
theorem d_X5_bearClouds_42 : zDc M_X5_bearClouds 42 (.iload_n 1) 1 43 := ⟨by decide +kernel, rfl⟩
theorem d_X5_bearClouds_43 : zDc M_X5_bearClouds 43 (.iconst 1) 1 44 := ⟨by decide +kernel, rfl⟩
theorem d_X5_bearClouds_44 : zDc M_X5_bearClouds 44 (.iastore) 1 45 := ⟨by decide +kernel, rfl⟩
theorem d_X5_bearClouds_45 : zDc M_X5_bearClouds 45 (.iinc 1 1) 3 48 := ⟨by decide +kernel, rfl⟩
theorem d_X5_bearClouds_48 : zDj M_X5_bearClouds 48 (.goto (-46)) (-46) 51 2 := ⟨by decide +kernel, rfl, by decide⟩
theorem d_X5_bearClouds_51 : zDc M_X5_bearClouds 51 (.return_) 1 52 := ⟨by decide +kernel, rfl⟩
def f_X5_bearClouds (a0 : Nat) (h0 : zHp) : Option (Unit × zHp) :=
  zbd (
  zlp (σ := Int32) (β := Int32) zLF (fun s1 h2 =>
  zob (zgR h2 a0 5 14) (fun v5 =>
  zob (zgI h2 v5 6 14) (fun v6 =>
  if v6 ≤ s1 then
  some ((.inr s1), h2)
  else
  zob (zgR h2 a0 5 5) (fun v7 =>
  zob (zaI 0 h2 v7 s1) (fun v8 =>
  if v8 = 0 then
  zob (zgR h2 a0 5 14) (fun v9 =>
  zob (zgR h2 v9 6 7) (fun v10 =>
  zob (zaI 0 h2 v10 s1) (fun v11 =>
  zob (zgI h2 a0 5 11) (fun v12 =>
  if v11 = v12 then
  zob (zgR h2 a0 5 5) (fun v13 =>
  zob (zsI 0 h2 v13 s1 1) (fun h14 =>
  some ((.inl (s1 + 1)), h14)))
  else
  some ((.inl (s1 + 1)), h2)))))
  else
  some ((.inl (s1 + 1)), h2)))))) 0 h0) (fun e3 h4 =>
  some ((), h4))
set_option maxRecDepth 100000 in
set_option maxHeartbeats 4000000 in
theorem t_X5_bearClouds (a0 : Nat) (h0 : zHp) : ∀ (r : Unit) (h' : zHp), f_X5_bearClouds a0 h0 = some (r, h') → zCt yX5_bearClouds (.code yX5_bearClouds cX5_bearClouds 2 none) 1 60 0 0 [.ref a0] h0 (none) h' := by
  refine zct_of M_X5_bearClouds yX5_bearClouds (by decide) rfl rfl [.ref a0] h0 (Nat.le_of_ble_eq_true rfl) (fun _ => none) (fun X => ?_)
  show zG X M_X5_bearClouds (0, 0) 0 [(0, .ref a0)] [] h0 (f_X5_bearClouds a0 h0) (fun (_ : Unit) h' => zKe X (none) h')
  unfold f_X5_bearClouds
  refine zg_iconst 0 rfl d_X5_bearClouds_0 ?_
  refine zg_istore_n [(1, .int 0), (0, .ref a0)] d_X5_bearClouds_1 rfl (by decide) rfl ?_
  refine zg_bd (E := 51) (el := (fun (e3 : Int32) => [(0, .ref a0), (1, .int e3)])) (es := fun _ => []) (zg_sub [1, 0] rfl (zg_lp (el := (fun (s1 : Int32) => [(0, .ref a0), (1, .int s1)])) (fun s1 h2 => ?_) 0 h0)) (fun e3 h4 => ?_)
  · refine zg_iload_n 1 rfl d_X5_bearClouds_2 ?_
    refine zg_aload_n 0 rfl d_X5_bearClouds_3 ?_
    refine zg_getR d_X5_bearClouds_4 zc_5 (by decide) fl_X5_50 (fun v5 => ?_)
    refine zg_getI d_X5_bearClouds_7 zc_6 (by decide) fl_X5_90 (fun v6 => ?_)
    refine zg_icmp_ge d_X5_bearClouds_10 ?_ ?_
    · exact zg_finK (E := 0) [0, 1] rfl rfl (fun q => q)
    · refine zg_aload_n 0 rfl d_X5_bearClouds_13 ?_
      refine zg_getR d_X5_bearClouds_14 zc_5 (by decide) fl_X5_27 (fun v7 => ?_)
      refine zg_iload_n 1 rfl d_X5_bearClouds_17 ?_
      refine zg_ald0 d_X5_bearClouds_18 (fun v8 => ?_)
      refine zg_if_ne d_X5_bearClouds_19 ?_ ?_
      · refine zg_aload_n 0 rfl d_X5_bearClouds_22 ?_
        refine zg_getR d_X5_bearClouds_23 zc_5 (by decide) fl_X5_50 (fun v9 => ?_)
        refine zg_getR d_X5_bearClouds_26 zc_6 (by decide) fl_X5_180 (fun v10 => ?_)
        refine zg_iload_n 1 rfl d_X5_bearClouds_29 ?_
        refine zg_ald0 d_X5_bearClouds_30 (fun v11 => ?_)
        refine zg_aload_n 0 rfl d_X5_bearClouds_31 ?_
        refine zg_getI d_X5_bearClouds_32 zc_5 (by decide) fl_X5_58 (fun v12 => ?_)
        refine zg_icmp_ne d_X5_bearClouds_35 ?_ ?_
        · refine zg_aload_n 0 rfl d_X5_bearClouds_38 ?_
          refine zg_getR d_X5_bearClouds_39 zc_5 (by decide) fl_X5_27 (fun v13 => ?_)
          refine zg_iload_n 1 rfl d_X5_bearClouds_42 ?_
          refine zg_iconst 1 rfl d_X5_bearClouds_43 ?_
          refine zg_ast0 d_X5_bearClouds_44 (fun h14 => ?_)
          refine zg_iinc 1 (s1 + 1) [(1, .int (s1 + 1)), (0, .ref a0)] d_X5_bearClouds_45 rfl rfl (by decide) rfl ?_
          refine zg_goto d_X5_bearClouds_48 ?_
          exact zg_finK (E := 0) [1, 0] rfl rfl (fun q => q)
        · refine zg_iinc 1 (s1 + 1) [(1, .int (s1 + 1)), (0, .ref a0)] d_X5_bearClouds_45 rfl rfl (by decide) rfl ?_
          refine zg_goto d_X5_bearClouds_48 ?_
          exact zg_finK (E := 0) [1, 0] rfl rfl (fun q => q)
      · refine zg_iinc 1 (s1 + 1) [(1, .int (s1 + 1)), (0, .ref a0)] d_X5_bearClouds_45 rfl rfl (by decide) rfl ?_
        refine zg_goto d_X5_bearClouds_48 ?_
        exact zg_finK (E := 0) [1, 0] rfl rfl (fun q => q)
  · exact zg_vretK d_X5_bearClouds_51 rfl ⟨Nat.le_of_ble_eq_true rfl, Nat.le_of_ble_eq_true rfl⟩ (fun q => q)
abbrev M_X7_isCell : zMt := (RX7, cX7_isCell, 2, 1, 60, (some .boolean), "isCell", 0, 0)
theorem d_X7_isCell_0 : zDc M_X7_isCell 0 (.iload_n 0) 1 1 := ⟨by decide +kernel, rfl⟩
theorem d_X7_isCell_1 : zDj M_X7_isCell 1 (.ifCond .lt 22) 22 4 23 := ⟨by decide +kernel, rfl, by decide⟩
theorem d_X7_isCell_4 : zDc M_X7_isCell 4 (.iload_n 0) 1 5 := ⟨by decide +kernel, rfl⟩
theorem d_X7_isCell_5 : zDc M_X7_isCell 5 (.bipush 6) 2 7 := ⟨by decide +kernel, rfl⟩
theorem d_X7_isCell_7 : zDj M_X7_isCell 7 (.if_icmp .ge 16) 16 10 23 := ⟨by decide +kernel, rfl, by decide⟩
theorem d_X7_isCell_10 : zDc M_X7_isCell 10 (.iload_n 1) 1 11 := ⟨by decide +kernel, rfl⟩
theorem d_X7_isCell_11 : zDj M_X7_isCell 11 (.ifCond .lt 12) 12 14 23 := ⟨by decide +kernel, rfl, by decide⟩
theorem d_X7_isCell_14 : zDc M_X7_isCell 14 (.iload_n 1) 1 15 := ⟨by decide +kernel, rfl⟩
theorem d_X7_isCell_15 : zDc M_X7_isCell 15 (.iconst 4) 1 16 := ⟨by decide +kernel, rfl⟩
theorem d_X7_isCell_16 : zDj M_X7_isCell 16 (.if_icmp .ge 7) 7 19 23 := ⟨by decide +kernel, rfl, by decide⟩
theorem d_X7_isCell_19 : zDc M_X7_isCell 19 (.iconst 1) 1 20 := ⟨by decide +kernel, rfl⟩
theorem d_X7_isCell_20 : zDj M_X7_isCell 20 (.goto 4) 4 23 24 := ⟨by decide +kernel, rfl, by decide⟩
theorem d_X7_isCell_23 : zDc M_X7_isCell 23 (.iconst 0) 1 24 := ⟨by decide +kernel, rfl⟩
theorem d_X7_isCell_24 : zDc M_X7_isCell 24 (.ireturn) 1 25 := ⟨by decide +kernel, rfl⟩
def f_X7_isCell (a0 : Int32) (a1 : Int32) (h0 : zHp) : Option (Int32 × zHp) :=
  if a0 < 0 then
  some (0, h0)
  else
  if 6 ≤ a0 then
  some (0, h0)
  else
  if a1 < 0 then
  some (0, h0)
  else
  if 4 ≤ a1 then
  some (0, h0)
  else
  some (1, h0)
set_option maxRecDepth 100000 in
set_option maxHeartbeats 4000000 in
theorem t_X7_isCell (a0 : Int32) (a1 : Int32) (h0 : zHp) : ∀ (r : Int32) (h' : zHp), f_X7_isCell a0 a1 h0 = some (r, h') → zCt yX7_isCell (.code yX7_isCell cX7_isCell 2 (some .boolean)) 1 60 0 0 [.int a0, .int a1] h0 (some (.int r)) h' := by
  refine zct_of M_X7_isCell yX7_isCell (by decide) rfl rfl [.int a0, .int a1] h0 (Nat.le_of_ble_eq_true rfl) (fun r => some (.int r)) (fun X => ?_)
  show zG X M_X7_isCell (0, 0) 0 [(0, .int a0), (1, .int a1)] [] h0 (f_X7_isCell a0 a1 h0) (fun (r : Int32) h' => zKe X (some (.int r)) h')
  unfold f_X7_isCell
  refine zg_iload_n 0 rfl d_X7_isCell_0 ?_
  refine zg_if_lt d_X7_isCell_1 ?_ ?_
  · refine zg_iconst 0 rfl d_X7_isCell_23 ?_
    exact zg_zretK d_X7_isCell_24 rfl ⟨Nat.le_of_ble_eq_true rfl, Nat.le_of_ble_eq_true rfl⟩ (Or.inl rfl) (fun q => q)
  · refine zg_iload_n 0 rfl d_X7_isCell_4 ?_
    refine zg_bipush 6 rfl d_X7_isCell_5 ?_
    refine zg_icmp_ge d_X7_isCell_7 ?_ ?_
    · refine zg_iconst 0 rfl d_X7_isCell_23 ?_
      exact zg_zretK d_X7_isCell_24 rfl ⟨Nat.le_of_ble_eq_true rfl, Nat.le_of_ble_eq_true rfl⟩ (Or.inl rfl) (fun q => q)
    · refine zg_iload_n 1 rfl d_X7_isCell_10 ?_
      refine zg_if_lt d_X7_isCell_11 ?_ ?_
      · refine zg_iconst 0 rfl d_X7_isCell_23 ?_
        exact zg_zretK d_X7_isCell_24 rfl ⟨Nat.le_of_ble_eq_true rfl, Nat.le_of_ble_eq_true rfl⟩ (Or.inl rfl) (fun q => q)
      · refine zg_iload_n 1 rfl d_X7_isCell_14 ?_
        refine zg_iconst 4 rfl d_X7_isCell_15 ?_
        refine zg_icmp_ge d_X7_isCell_16 ?_ ?_
        · refine zg_iconst 0 rfl d_X7_isCell_23 ?_
          exact zg_zretK d_X7_isCell_24 rfl ⟨Nat.le_of_ble_eq_true rfl, Nat.le_of_ble_eq_true rfl⟩ (Or.inl rfl) (fun q => q)
        · refine zg_iconst 1 rfl d_X7_isCell_19 ?_
          refine zg_goto d_X7_isCell_20 ?_
          exact zg_zretK d_X7_isCell_24 rfl ⟨Nat.le_of_ble_eq_true rfl, Nat.le_of_ble_eq_true rfl⟩ (Or.inr rfl) (fun q => q)
abbrev M_X5_moveCloud : zMt := (RX5, cX5_moveCloud, 5, 2, 81, none, "moveCloud", 0, 0)
theorem d_X5_moveCloud_0 : zDc M_X5_moveCloud 0 (.aload_n 0) 1 1 := ⟨by decide +kernel, rfl⟩
theorem d_X5_moveCloud_1 : zDc M_X5_moveCloud 1 (.getfield 9) 3 4 := ⟨by decide +kernel, rfl⟩
theorem d_X5_moveCloud_4 : zDc M_X5_moveCloud 4 (.iload_n 1) 1 5 := ⟨by decide +kernel, rfl⟩
theorem d_X5_moveCloud_5 : zDc M_X5_moveCloud 5 (.iaload) 1 6 := ⟨by decide +kernel, rfl⟩
theorem d_X5_moveCloud_6 : zDc M_X5_moveCloud 6 (.iload_n 2) 1 7 := ⟨by decide +kernel, rfl⟩
theorem d_X5_moveCloud_7 : zDc M_X5_moveCloud 7 (.iconst 1) 1 8 := ⟨by decide +kernel, rfl⟩
theorem d_X5_moveCloud_8 : zDj M_X5_moveCloud 8 (.if_icmp .ne 7) 7 11 15 := ⟨by decide +kernel, rfl, by decide⟩
theorem d_X5_moveCloud_11 : zDc M_X5_moveCloud 11 (.iconst 1) 1 12 := ⟨by decide +kernel, rfl⟩
theorem d_X5_moveCloud_12 : zDj M_X5_moveCloud 12 (.goto 13) 13 15 25 := ⟨by decide +kernel, rfl, by decide⟩
theorem d_X5_moveCloud_15 : zDc M_X5_moveCloud 15 (.iload_n 2) 1 16 := ⟨by decide +kernel, rfl⟩
theorem d_X5_moveCloud_16 : zDc M_X5_moveCloud 16 (.iconst 3) 1 17 := ⟨by decide +kernel, rfl⟩
theorem d_X5_moveCloud_17 : zDj M_X5_moveCloud 17 (.if_icmp .ne 7) 7 20 24 := ⟨by decide +kernel, rfl, by decide⟩
theorem d_X5_moveCloud_20 : zDc M_X5_moveCloud 20 (.iconst (-1)) 1 21 := ⟨by decide +kernel, rfl⟩
theorem d_X5_moveCloud_21 : zDj M_X5_moveCloud 21 (.goto 4) 4 24 25 := ⟨by decide +kernel, rfl, by decide⟩
theorem d_X5_moveCloud_24 : zDc M_X5_moveCloud 24 (.iconst 0) 1 25 := ⟨by decide +kernel, rfl⟩
theorem d_X5_moveCloud_25 : zDc M_X5_moveCloud 25 (.iadd) 1 26 := ⟨by decide +kernel, rfl⟩
theorem d_X5_moveCloud_26 : zDc M_X5_moveCloud 26 (.istore_n 3) 1 27 := ⟨by decide +kernel, rfl⟩
theorem d_X5_moveCloud_27 : zDc M_X5_moveCloud 27 (.aload_n 0) 1 28 := ⟨by decide +kernel, rfl⟩
theorem d_X5_moveCloud_28 : zDc M_X5_moveCloud 28 (.getfield 15) 3 31 := ⟨by decide +kernel, rfl⟩
theorem d_X5_moveCloud_31 : zDc M_X5_moveCloud 31 (.iload_n 1) 1 32 := ⟨by decide +kernel, rfl⟩
theorem d_X5_moveCloud_32 : zDc M_X5_moveCloud 32 (.iaload) 1 33 := ⟨by decide +kernel, rfl⟩
theorem d_X5_moveCloud_33 : zDc M_X5_moveCloud 33 (.iload_n 2) 1 34 := ⟨by decide +kernel, rfl⟩
theorem d_X5_moveCloud_34 : zDc M_X5_moveCloud 34 (.iconst 2) 1 35 := ⟨by decide +kernel, rfl⟩
theorem d_X5_moveCloud_35 : zDj M_X5_moveCloud 35 (.if_icmp .ne 7) 7 38 42 := ⟨by decide +kernel, rfl, by decide⟩
theorem d_X5_moveCloud_38 : zDc M_X5_moveCloud 38 (.iconst 1) 1 39 := ⟨by decide +kernel, rfl⟩
theorem d_X5_moveCloud_39 : zDj M_X5_moveCloud 39 (.goto 13) 13 42 52 := ⟨by decide +kernel, rfl, by decide⟩
theorem d_X5_moveCloud_42 : zDc M_X5_moveCloud 42 (.iload_n 2) 1 43 := ⟨by decide +kernel, rfl⟩
theorem d_X5_moveCloud_43 : zDc M_X5_moveCloud 43 (.iconst 4) 1 44 := ⟨by decide +kernel, rfl⟩
theorem d_X5_moveCloud_44 : zDj M_X5_moveCloud 44 (.if_icmp .ne 7) 7 47 51 := ⟨by decide +kernel, rfl, by decide⟩
theorem d_X5_moveCloud_47 : zDc M_X5_moveCloud 47 (.iconst (-1)) 1 48 := ⟨by decide +kernel, rfl⟩
theorem d_X5_moveCloud_48 : zDj M_X5_moveCloud 48 (.goto 4) 4 51 52 := ⟨by decide +kernel, rfl, by decide⟩
theorem d_X5_moveCloud_51 : zDc M_X5_moveCloud 51 (.iconst 0) 1 52 := ⟨by decide +kernel, rfl⟩
theorem d_X5_moveCloud_52 : zDc M_X5_moveCloud 52 (.iadd) 1 53 := ⟨by decide +kernel, rfl⟩
theorem d_X5_moveCloud_53 : zDc M_X5_moveCloud 53 (.istore 4) 2 55 := ⟨by decide +kernel, rfl⟩
theorem d_X5_moveCloud_55 : zDc M_X5_moveCloud 55 (.iload_n 3) 1 56 := ⟨by decide +kernel, rfl⟩
theorem d_X5_moveCloud_56 : zDc M_X5_moveCloud 56 (.iload 4) 2 58 := ⟨by decide +kernel, rfl⟩
theorem d_X5_moveCloud_58 : zDc M_X5_moveCloud 58 (.invokestatic 134) 3 61 := ⟨by decide +kernel, rfl⟩
theorem d_X5_moveCloud_61 : zDj M_X5_moveCloud 61 (.ifCond .eq 21) 21 64 82 := ⟨by decide +kernel, rfl, by decide⟩
theorem d_X5_moveCloud_64 : zDc M_X5_moveCloud 64 (.aload_n 0) 1 65 := ⟨by decide +kernel, rfl⟩
theorem d_X5_moveCloud_65 : zDc M_X5_moveCloud 65 (.getfield 9) 3 68 := ⟨by decide +kernel, rfl⟩
theorem d_X5_moveCloud_68 : zDc M_X5_moveCloud 68 (.iload_n 1) 1 69 := ⟨by decide +kernel, rfl⟩
theorem d_X5_moveCloud_69 : zDc M_X5_moveCloud 69 (.iload_n 3) 1 70 := ⟨by decide +kernel, rfl⟩
theorem d_X5_moveCloud_70 : zDc M_X5_moveCloud 70 (.iastore) 1 71 := ⟨by decide +kernel, rfl⟩
theorem d_X5_moveCloud_71 : zDc M_X5_moveCloud 71 (.aload_n 0) 1 72 := ⟨by decide +kernel, rfl⟩
theorem d_X5_moveCloud_72 : zDc M_X5_moveCloud 72 (.getfield 15) 3 75 := ⟨by decide +kernel, rfl⟩
theorem d_X5_moveCloud_75 : zDc M_X5_moveCloud 75 (.iload_n 1) 1 76 := ⟨by decide +kernel, rfl⟩
theorem d_X5_moveCloud_76 : zDc M_X5_moveCloud 76 (.iload 4) 2 78 := ⟨by decide +kernel, rfl⟩
theorem d_X5_moveCloud_78 : zDc M_X5_moveCloud 78 (.iastore) 1 79 := ⟨by decide +kernel, rfl⟩
theorem d_X5_moveCloud_79 : zDj M_X5_moveCloud 79 (.goto 10) 10 82 89 := ⟨by decide +kernel, rfl, by decide⟩
theorem d_X5_moveCloud_82 : zDc M_X5_moveCloud 82 (.aload_n 0) 1 83 := ⟨by decide +kernel, rfl⟩
theorem d_X5_moveCloud_83 : zDc M_X5_moveCloud 83 (.getfield 27) 3 86 := ⟨by decide +kernel, rfl⟩
theorem d_X5_moveCloud_86 : zDc M_X5_moveCloud 86 (.iload_n 1) 1 87 := ⟨by decide +kernel, rfl⟩
theorem d_X5_moveCloud_87 : zDc M_X5_moveCloud 87 (.iconst 2) 1 88 := ⟨by decide +kernel, rfl⟩
theorem d_X5_moveCloud_88 : zDc M_X5_moveCloud 88 (.iastore) 1 89 := ⟨by decide +kernel, rfl⟩
theorem d_X5_moveCloud_89 : zDc M_X5_moveCloud 89 (.return_) 1 90 := ⟨by decide +kernel, rfl⟩
def f_X5_moveCloud (a0 : Nat) (a1 : Int32) (a2 : Int32) (h0 : zHp) : Option (Unit × zHp) :=
  zob (zgR h0 a0 5 0) (fun v1 =>
  zob (zaI 0 h0 v1 a1) (fun v2 =>
  zbd (α := Int32) (
  if a2 = 1 then
  some (1, h0)
  else
  if a2 = 3 then
  some ((-1), h0)
  else
  some (0, h0)) (fun e3 h4 =>
  zob (zgR h4 a0 5 1) (fun v5 =>
  zob (zaI 0 h4 v5 a1) (fun v6 =>
  zbd (α := Int32) (
  if a2 = 2 then
  some (1, h4)
  else
  if a2 = 4 then
  some ((-1), h4)
  else
  some (0, h4)) (fun e7 h8 =>
  zbd ((f_X7_isCell (v2 + e3) (v6 + e7) h8)) (fun v10 h9 =>
  if v10 = 0 then
  zob (zgR h9 a0 5 5) (fun v11 =>
  zob (zsI 0 h9 v11 a1 2) (fun h12 =>
  some ((), h12)))
  else
  zob (zgR h9 a0 5 0) (fun v13 =>
  zob (zsI 0 h9 v13 a1 (v2 + e3)) (fun h14 =>
  zob (zgR h14 a0 5 1) (fun v15 =>
  zob (zsI 0 h14 v15 a1 (v6 + e7)) (fun h16 =>
  some ((), h16))))))))))))
set_option maxRecDepth 100000 in
set_option maxHeartbeats 4000000 in
theorem t_X5_moveCloud (a0 : Nat) (a1 : Int32) (a2 : Int32) (h0 : zHp) : ∀ (r : Unit) (h' : zHp), f_X5_moveCloud a0 a1 a2 h0 = some (r, h') → zCt yX5_moveCloud (.code yX5_moveCloud cX5_moveCloud 5 none) 2 81 0 0 [.ref a0, .int a1, .int a2] h0 (none) h' := by
  refine zct_of M_X5_moveCloud yX5_moveCloud (by decide) rfl rfl [.ref a0, .int a1, .int a2] h0 (Nat.le_of_ble_eq_true rfl) (fun _ => none) (fun X => ?_)
  show zG X M_X5_moveCloud (0, 0) 0 [(0, .ref a0), (1, .int a1), (2, .int a2)] [] h0 (f_X5_moveCloud a0 a1 a2 h0) (fun (_ : Unit) h' => zKe X (none) h')
  unfold f_X5_moveCloud
  refine zg_aload_n 0 rfl d_X5_moveCloud_0 ?_
  refine zg_getR d_X5_moveCloud_1 zc_5 (by decide) fl_X5_9 (fun v1 => ?_)
  refine zg_iload_n 1 rfl d_X5_moveCloud_4 ?_
  refine zg_ald0 d_X5_moveCloud_5 (fun v2 => ?_)
  refine zg_iload_n 2 rfl d_X5_moveCloud_6 ?_
  refine zg_iconst 1 rfl d_X5_moveCloud_7 ?_
  refine zg_bd (E := 25) (el := (fun (e3 : Int32) => [(0, .ref a0), (1, .int a1), (2, .int a2)])) (es := (fun (e3 : Int32) => [.int e3, .int v2])) ?_ (fun e3 h4 => ?_)
  · refine zg_icmp_ne d_X5_moveCloud_8 ?_ ?_
    · refine zg_iconst 1 rfl d_X5_moveCloud_11 ?_
      refine zg_goto d_X5_moveCloud_12 ?_
      exact zg_finK (E := 0) [0, 1, 2] rfl rfl (fun q => q)
    · refine zg_iload_n 2 rfl d_X5_moveCloud_15 ?_
      refine zg_iconst 3 rfl d_X5_moveCloud_16 ?_
      refine zg_icmp_ne d_X5_moveCloud_17 ?_ ?_
      · refine zg_iconst (-1) rfl d_X5_moveCloud_20 ?_
        refine zg_goto d_X5_moveCloud_21 ?_
        exact zg_finK (E := 0) [0, 1, 2] rfl rfl (fun q => q)
      · refine zg_iconst 0 rfl d_X5_moveCloud_24 ?_
        exact zg_finK (E := 0) [0, 1, 2] rfl rfl (fun q => q)
  · refine zg_iadd d_X5_moveCloud_25 ?_
    refine zg_istore_n [(3, .int (v2 + e3)), (0, .ref a0), (1, .int a1), (2, .int a2)] d_X5_moveCloud_26 rfl (by decide) rfl ?_
    refine zg_aload_n 1 rfl d_X5_moveCloud_27 ?_
    refine zg_getR d_X5_moveCloud_28 zc_5 (by decide) fl_X5_15 (fun v5 => ?_)
    refine zg_iload_n 2 rfl d_X5_moveCloud_31 ?_
    refine zg_ald0 d_X5_moveCloud_32 (fun v6 => ?_)
    refine zg_iload_n 3 rfl d_X5_moveCloud_33 ?_
    refine zg_iconst 2 rfl d_X5_moveCloud_34 ?_
    refine zg_bd (E := 52) (el := (fun (e7 : Int32) => [(0, .ref a0), (1, .int a1), (2, .int a2), (3, .int (v2 + e3))])) (es := (fun (e7 : Int32) => [.int e7, .int v6])) ?_ (fun e7 h8 => ?_)
    · refine zg_icmp_ne d_X5_moveCloud_35 ?_ ?_
      · refine zg_iconst 1 rfl d_X5_moveCloud_38 ?_
        refine zg_goto d_X5_moveCloud_39 ?_
        exact zg_finK (E := 0) [1, 2, 3, 0] rfl rfl (fun q => q)
      · refine zg_iload_n 3 rfl d_X5_moveCloud_42 ?_
        refine zg_iconst 4 rfl d_X5_moveCloud_43 ?_
        refine zg_icmp_ne d_X5_moveCloud_44 ?_ ?_
        · refine zg_iconst (-1) rfl d_X5_moveCloud_47 ?_
          refine zg_goto d_X5_moveCloud_48 ?_
          exact zg_finK (E := 0) [1, 2, 3, 0] rfl rfl (fun q => q)
        · refine zg_iconst 0 rfl d_X5_moveCloud_51 ?_
          exact zg_finK (E := 0) [1, 2, 3, 0] rfl rfl (fun q => q)
    · refine zg_iadd d_X5_moveCloud_52 ?_
      refine zg_istore [(4, .int (v6 + e7)), (0, .ref a0), (1, .int a1), (2, .int a2), (3, .int (v2 + e3))] d_X5_moveCloud_53 (by decide) rfl ?_
      refine zg_iload_n 4 rfl d_X5_moveCloud_55 ?_
      refine zg_iload 0 rfl d_X5_moveCloud_56 ?_
      refine zg_cSNi (As := [.int (v2 + e3), .int (v6 + e7)]) (rest := []) (0, 0) d_X5_moveCloud_58 cn_X5_134 wt_X7_isCell rfl rfl (Nat.le_of_ble_eq_true rfl) (by decide) (by decide) ⟨by decide, by decide⟩ rfl (t_X7_isCell (v2 + e3) (v6 + e7) h8) (fun v10 h9 => ?_)
      refine zg_if_eq d_X5_moveCloud_61 ?_ ?_
      · refine zg_aload_n 1 rfl d_X5_moveCloud_82 ?_
        refine zg_getR d_X5_moveCloud_83 zc_5 (by decide) fl_X5_27 (fun v11 => ?_)
        refine zg_iload_n 2 rfl d_X5_moveCloud_86 ?_
        refine zg_iconst 2 rfl d_X5_moveCloud_87 ?_
        refine zg_ast0 d_X5_moveCloud_88 (fun h12 => ?_)
        exact zg_vretK d_X5_moveCloud_89 rfl ⟨Nat.le_of_ble_eq_true rfl, Nat.le_of_ble_eq_true rfl⟩ (fun q => q)
      · refine zg_aload_n 1 rfl d_X5_moveCloud_64 ?_
        refine zg_getR d_X5_moveCloud_65 zc_5 (by decide) fl_X5_9 (fun v13 => ?_)
        refine zg_iload_n 2 rfl d_X5_moveCloud_68 ?_
        refine zg_iload_n 4 rfl d_X5_moveCloud_69 ?_
        refine zg_ast0 d_X5_moveCloud_70 (fun h14 => ?_)
        refine zg_aload_n 1 rfl d_X5_moveCloud_71 ?_
        refine zg_getR d_X5_moveCloud_72 zc_5 (by decide) fl_X5_15 (fun v15 => ?_)
        refine zg_iload_n 2 rfl d_X5_moveCloud_75 ?_
        refine zg_iload 0 rfl d_X5_moveCloud_76 ?_
        refine zg_ast0 d_X5_moveCloud_78 (fun h16 => ?_)
        refine zg_goto d_X5_moveCloud_79 ?_
        exact zg_vretK d_X5_moveCloud_89 rfl ⟨Nat.le_of_ble_eq_true rfl, Nat.le_of_ble_eq_true rfl⟩ (fun q => q)
abbrev M_X5_drift : zMt := (RX5, cX5_drift, 3, 3, 105, none, "drift", 0, 0)
theorem d_X5_drift_0 : zDc M_X5_drift 0 (.iconst 0) 1 1 := ⟨by decide +kernel, rfl⟩
theorem d_X5_drift_1 : zDc M_X5_drift 1 (.istore_n 2) 1 2 := ⟨by decide +kernel, rfl⟩
theorem d_X5_drift_2 : zDc M_X5_drift 2 (.iload_n 2) 1 3 := ⟨by decide +kernel, rfl⟩
theorem d_X5_drift_3 : zDc M_X5_drift 3 (.aload_n 0) 1 4 := ⟨by decide +kernel, rfl⟩
theorem d_X5_drift_4 : zDc M_X5_drift 4 (.getfield 50) 3 7 := ⟨by decide +kernel, rfl⟩
theorem d_X5_drift_7 : zDc M_X5_drift 7 (.getfield 90) 3 10 := ⟨by decide +kernel, rfl⟩
theorem d_X5_drift_10 : zDj M_X5_drift 10 (.if_icmp .ge 23) 23 13 33 := ⟨by decide +kernel, rfl, by decide⟩
theorem d_X5_drift_13 : zDc M_X5_drift 13 (.aload_n 0) 1 14 := ⟨by decide +kernel, rfl⟩
theorem d_X5_drift_14 : zDc M_X5_drift 14 (.iload_n 2) 1 15 := ⟨by decide +kernel, rfl⟩
theorem d_X5_drift_15 : zDc M_X5_drift 15 (.invokevirtual 93) 3 18 := ⟨by decide +kernel, rfl⟩
theorem d_X5_drift_18 : zDj M_X5_drift 18 (.ifCond .eq 9) 9 21 27 := ⟨by decide +kernel, rfl, by decide⟩
theorem d_X5_drift_21 : zDc M_X5_drift 21 (.aload_n 0) 1 22 := ⟨by decide +kernel, rfl⟩
theorem d_X5_drift_22 : zDc M_X5_drift 22 (.iload_n 2) 1 23 := ⟨by decide +kernel, rfl⟩
theorem d_X5_drift_23 : zDc M_X5_drift 23 (.iload_n 1) 1 24 := ⟨by decide +kernel, rfl⟩
theorem d_X5_drift_24 : zDc M_X5_drift 24 (.invokevirtual 130) 3 27 := ⟨by decide +kernel, rfl⟩
theorem d_X5_drift_27 : zDc M_X5_drift 27 (.iinc 2 1) 3 30 := ⟨by decide +kernel, rfl⟩
theorem d_X5_drift_30 : zDj M_X5_drift 30 (.goto (-28)) (-28) 33 2 := ⟨by decide +kernel, rfl, by decide⟩
theorem d_X5_drift_33 : zDc M_X5_drift 33 (.return_) 1 34 := ⟨by decide +kernel, rfl⟩
def f_X5_drift (a0 : Nat) (a1 : Int32) (h0 : zHp) : Option (Unit × zHp) :=
  zbd (
  zlp (σ := Int32) (β := Int32) zLF (fun s1 h2 =>
  zob (zgR h2 a0 5 14) (fun v5 =>
  zob (zgI h2 v5 6 14) (fun v6 =>
  if v6 ≤ s1 then
  some ((.inr s1), h2)
  else
  zbd (zcv 5 a0 h2 (f_X5_isUp a0 s1 h2)) (fun v8 h7 =>
  if v8 = 0 then
  some ((.inl (s1 + 1)), h7)
  else
  zbd (zcv 5 a0 h7 (f_X5_moveCloud a0 s1 a1 h7)) (fun v10 h9 =>
  some ((.inl (s1 + 1)), h9)))))) 0 h0) (fun e3 h4 =>
  some ((), h4))
set_option maxRecDepth 100000 in
set_option maxHeartbeats 4000000 in
theorem t_X5_drift (a0 : Nat) (a1 : Int32) (h0 : zHp) : ∀ (r : Unit) (h' : zHp), f_X5_drift a0 a1 h0 = some (r, h') → zCt yX5_drift (.code yX5_drift cX5_drift 3 none) 3 105 0 0 [.ref a0, .int a1] h0 (none) h' := by
  refine zct_of M_X5_drift yX5_drift (by decide) rfl rfl [.ref a0, .int a1] h0 (Nat.le_of_ble_eq_true rfl) (fun _ => none) (fun X => ?_)
  show zG X M_X5_drift (0, 0) 0 [(0, .ref a0), (1, .int a1)] [] h0 (f_X5_drift a0 a1 h0) (fun (_ : Unit) h' => zKe X (none) h')
  unfold f_X5_drift
  refine zg_iconst 0 rfl d_X5_drift_0 ?_
  refine zg_istore_n [(2, .int 0), (0, .ref a0), (1, .int a1)] d_X5_drift_1 rfl (by decide) rfl ?_
  refine zg_bd (E := 33) (el := (fun (e3 : Int32) => [(0, .ref a0), (1, .int a1), (2, .int e3)])) (es := fun _ => []) (zg_sub [1, 2, 0] rfl (zg_lp (el := (fun (s1 : Int32) => [(0, .ref a0), (1, .int a1), (2, .int s1)])) (fun s1 h2 => ?_) 0 h0)) (fun e3 h4 => ?_)
  · refine zg_iload_n 2 rfl d_X5_drift_2 ?_
    refine zg_aload_n 0 rfl d_X5_drift_3 ?_
    refine zg_getR d_X5_drift_4 zc_5 (by decide) fl_X5_50 (fun v5 => ?_)
    refine zg_getI d_X5_drift_7 zc_6 (by decide) fl_X5_90 (fun v6 => ?_)
    refine zg_icmp_ge d_X5_drift_10 ?_ ?_
    · exact zg_finK (E := 0) [0, 1, 2] rfl rfl (fun q => q)
    · refine zg_aload_n 0 rfl d_X5_drift_13 ?_
      refine zg_iload_n 2 rfl d_X5_drift_14 ?_
      refine zg_cVi (b := a0) (As := [.int s1]) (rest := []) (0, 0) d_X5_drift_15 zc_5 rfl cw_X5_93 wi_X5_isUp ws_X5_isUp rfl rfl (Nat.le_of_ble_eq_true rfl) (by decide) (by decide) ⟨by decide, by decide⟩ rfl (t_X5_isUp a0 s1 h2) (fun v8 h7 => ?_)
      refine zg_if_eq d_X5_drift_18 ?_ ?_
      · refine zg_iinc 2 (s1 + 1) [(2, .int (s1 + 1)), (0, .ref a0), (1, .int a1)] d_X5_drift_27 rfl rfl (by decide) rfl ?_
        refine zg_goto d_X5_drift_30 ?_
        exact zg_finK (E := 0) [1, 2, 0] rfl rfl (fun q => q)
      · refine zg_aload_n 0 rfl d_X5_drift_21 ?_
        refine zg_iload_n 2 rfl d_X5_drift_22 ?_
        refine zg_iload_n 1 rfl d_X5_drift_23 ?_
        refine zg_cVv (b := a0) (As := [.int s1, .int a1]) (rest := []) (0, 0) d_X5_drift_24 zc_5 rfl cw_X5_130 wi_X5_moveCloud ws_X5_moveCloud rfl rfl (Nat.le_of_ble_eq_true rfl) (by decide) (by decide) ⟨by decide, by decide⟩ rfl (t_X5_moveCloud a0 s1 a1 h7) (fun v10 h9 => ?_)
        refine zg_iinc 2 (s1 + 1) [(2, .int (s1 + 1)), (0, .ref a0), (1, .int a1)] d_X5_drift_27 rfl rfl (by decide) rfl ?_
        refine zg_goto d_X5_drift_30 ?_
        exact zg_finK (E := 0) [1, 2, 0] rfl rfl (fun q => q)
  · exact zg_vretK d_X5_drift_33 rfl ⟨Nat.le_of_ble_eq_true rfl, Nat.le_of_ble_eq_true rfl⟩ (fun q => q)

theorem fl_X7_115 : Cond.fieldLink RX7 115 (TX6 15).1 (TX6 15).2.1 (TX6 15).2.2.1 ∈ zT := zw_of _ 247 (by decide +kernel) (by decide +kernel)
theorem ml_X7_146 : Cond.methodLink RX7 146 yX7_isChild ∈ zT := zw_of _ 814 (by decide +kernel) (by decide +kernel)
theorem cd_X7_isChild : Cond.code yX7_isChild cX7_isChild 2 (some .boolean) ∈ zT := zw_of _ 817 (by decide +kernel) (by decide +kernel)
theorem cw_X7_146 : zCw RX7 146 yX7_isChild cX7_isChild 2 (some .boolean) 1 := ⟨ml_X7_146, ni_X7, cd_X7_isChild, by decide, by decide, by decide +kernel⟩
theorem wi_X7_isChild : Cond.instanceMethod yX7_isChild ∈ zT := zw_of _ 816 (by decide +kernel) (by decide +kernel)
theorem ws_X7_isChild : Cond.selects RX7 yX7_isChild yX7_isChild ∈ zT := zw_of _ 31 (by decide +kernel) (by decide +kernel)
theorem fl_X7_149 : Cond.fieldLink RX7 149 (TX5 6).1 (TX5 6).2.1 (TX5 6).2.2.1 ∈ zT := zw_of _ 422 (by decide +kernel) (by decide +kernel)
theorem fl_X7_152 : Cond.fieldLink RX7 152 (TX5 7).1 (TX5 7).2.1 (TX5 7).2.2.1 ∈ zT := zw_of _ 425 (by decide +kernel) (by decide +kernel)
theorem fl_X7_155 : Cond.fieldLink RX7 155 (TX6 10).1 (TX6 10).2.1 (TX6 10).2.2.1 ∈ zT := zw_of _ 229 (by decide +kernel) (by decide +kernel)
theorem fl_X7_158 : Cond.fieldLink RX7 158 (TX5 8).1 (TX5 8).2.1 (TX5 8).2.2.1 ∈ zT := zw_of _ 427 (by decide +kernel) (by decide +kernel)
theorem ml_X7_161 : Cond.methodLink RX7 161 yX5_ownInSky ∈ zT := zw_of _ 818 (by decide +kernel) (by decide +kernel)
theorem cw_X7_161 : zCw RX7 161 yX5_ownInSky cX5_ownInSky 4 (some .int) 1 := ⟨ml_X7_161, ni_X5, cd_X5_ownInSky, by decide, by decide, by decide +kernel⟩
theorem ml_X7_165 : Cond.methodLink RX7 165 yX5_rainOfOwn ∈ zT := zw_of _ 826 (by decide +kernel) (by decide +kernel)
theorem cw_X7_165 : zCw RX7 165 yX5_rainOfOwn cX5_rainOfOwn 4 (some .int) 1 := ⟨ml_X7_165, ni_X5, cd_X5_rainOfOwn, by decide, by decide, by decide +kernel⟩
theorem fl_X7_109 : Cond.fieldLink RX7 109 (TX6 14).1 (TX6 14).2.1 (TX6 14).2.2.1 ∈ zT := zw_of _ 243 (by decide +kernel) (by decide +kernel)
theorem ml_X7_188 : Cond.methodLink RX7 188 yX5_seenBy ∈ zT := zw_of _ 853 (by decide +kernel) (by decide +kernel)
theorem cd_X5_seenBy : Cond.code yX5_seenBy cX5_seenBy 2 (some .int) ∈ zT := zw_of _ 856 (by decide +kernel) (by decide +kernel)
theorem cw_X7_188 : zCw RX7 188 yX5_seenBy cX5_seenBy 2 (some .int) 1 := ⟨ml_X7_188, ni_X5, cd_X5_seenBy, by decide, by decide, by decide +kernel⟩
theorem wi_X5_seenBy : Cond.instanceMethod yX5_seenBy ∈ zT := zw_of _ 854 (by decide +kernel) (by decide +kernel)
theorem ws_X5_seenBy : Cond.selects RX5 yX5_seenBy yX5_seenBy ∈ zT := zw_of _ 855 (by decide +kernel) (by decide +kernel)
theorem fl_X7_241 : Cond.fieldLink RX7 241 (TX6 18).1 (TX6 18).2.1 (TX6 18).2.2.1 ∈ zT := zw_of _ 259 (by decide +kernel) (by decide +kernel)
theorem ml_X7_244 : Cond.methodLink RX7 244 yJ6_bitCount_0f7a4 ∈ zT := zw_of _ 1043 (by decide +kernel) (by decide +kernel)
theorem cw_X7_244 : zCw RX7 244 yJ6_bitCount_0f7a4 cJ6_bitCount_0f7a4 1 (some .int) 1 := ⟨ml_X7_244, ni_J6, cd_J6_bitCount_0f7a4, by decide, by decide, by decide +kernel⟩
theorem ml_X7_249 : Cond.methodLink RX7 249 Lib.Math.min.name ∈ zT := zw_of _ 1049 (by decide +kernel) (by decide +kernel)
theorem fl_X7_331 : Cond.fieldLink RX7 331 (TX6 16).1 (TX6 16).2.1 (TX6 16).2.2.1 ∈ zT := zw_of _ 253 (by decide +kernel) (by decide +kernel)
theorem fl_X7_334 : Cond.fieldLink RX7 334 (TX6 12).1 (TX6 12).2.1 (TX6 12).2.2.1 ∈ zT := zw_of _ 237 (by decide +kernel) (by decide +kernel)
theorem fl_X7_338 : Cond.fieldLink RX7 338 (TX2 5).1 (TX2 5).2.1 (TX2 5).2.2.1 ∈ zT := zw_of _ 177 (by decide +kernel) (by decide +kernel)
theorem ml_X7_221 : Cond.methodLink RX7 221 yX5_windNow ∈ zT := zw_of _ 953 (by decide +kernel) (by decide +kernel)
theorem cw_X7_221 : zCw RX7 221 yX5_windNow cX5_windNow 1 (some .int) 0 := ⟨ml_X7_221, ni_X5, cd_X5_windNow, by decide, by decide, by decide +kernel⟩
theorem fl_X7_59 : Cond.fieldLink RX7 59 (TX7 8).1 (TX7 8).2.1 (TX7 8).2.2.1 ∈ zT := zw_of _ 579 (by decide +kernel) (by decide +kernel)
theorem fl_X7_299 : Cond.fieldLink RX7 299 (TX3 6).1 (TX3 6).2.1 (TX3 6).2.2.1 ∈ zT := zw_of _ 513 (by decide +kernel) (by decide +kernel)
theorem ml_X7_343 : Cond.methodLink RX7 343 yX3_readable ∈ zT := zw_of _ 1254 (by decide +kernel) (by decide +kernel)
theorem cw_X7_343 : zCw RX7 343 yX3_readable cX3_readable 1 (some .int) 0 := ⟨ml_X7_343, ni_X3, cd_X3_readable, by decide, by decide, by decide +kernel⟩
theorem fl_X7_321 : Cond.fieldLink RX7 321 (TX0 4).1 (TX0 4).2.1 (TX0 4).2.2.1 ∈ zT := zw_of _ 488 (by decide +kernel) (by decide +kernel)
theorem ml_X7_264 : Cond.methodLink RX7 264 yX1_hoursUntilEnough ∈ zT := zw_of _ 1076 (by decide +kernel) (by decide +kernel)
theorem cd_X1_hoursUntilEnough : Cond.code yX1_hoursUntilEnough cX1_hoursUntilEnough 4 (some .int) ∈ zT := zw_of _ 1079 (by decide +kernel) (by decide +kernel)
theorem cw_X7_264 : zCw RX7 264 yX1_hoursUntilEnough cX1_hoursUntilEnough 4 (some .int) 2 := ⟨ml_X7_264, ni_X1, cd_X1_hoursUntilEnough, by decide, by decide, by decide +kernel⟩
theorem wi_X1_hoursUntilEnough : Cond.instanceMethod yX1_hoursUntilEnough ∈ zT := zw_of _ 1077 (by decide +kernel) (by decide +kernel)
theorem ws_X1_hoursUntilEnough : Cond.selects RX1 yX1_hoursUntilEnough yX1_hoursUntilEnough ∈ zT := zw_of _ 1078 (by decide +kernel) (by decide +kernel)
theorem fl_X7_22 : Cond.fieldLink RX7 22 (TX7 2).1 (TX7 2).2.1 (TX7 2).2.2.1 ∈ zT := zw_of _ 573 (by decide +kernel) (by decide +kernel)
theorem fl_X7_89 : Cond.fieldLink RX7 89 (TX4 14).1 (TX4 14).2.1 (TX4 14).2.2.1 ∈ zT := zw_of _ 356 (by decide +kernel) (by decide +kernel)
theorem fl_X7_92 : Cond.fieldLink RX7 92 (TX4 15).1 (TX4 15).2.1 (TX4 15).2.2.1 ∈ zT := zw_of _ 358 (by decide +kernel) (by decide +kernel)
theorem fl_X7_15 : Cond.fieldLink RX7 15 (TX7 1).1 (TX7 1).2.1 (TX7 1).2.2.1 ∈ zT := zw_of _ 572 (by decide +kernel) (by decide +kernel)
theorem fl_X7_11 : Cond.fieldLink RX7 11 (TX7 0).1 (TX7 0).2.1 (TX7 0).2.2.1 ∈ zT := zw_of _ 571 (by decide +kernel) (by decide +kernel)
theorem ml_X7_70 : Cond.methodLink RX7 70 yX7_putFour ∈ zT := zw_of _ 606 (by decide +kernel) (by decide +kernel)
theorem cd_X7_putFour : Cond.code yX7_putFour cX7_putFour 3 none ∈ zT := zw_of _ 609 (by decide +kernel) (by decide +kernel)
theorem cw_X7_70 : zCw RX7 70 yX7_putFour cX7_putFour 3 none 1 := ⟨ml_X7_70, ni_X7, cd_X7_putFour, by decide, by decide, by decide +kernel⟩
theorem wi_X7_putFour : Cond.instanceMethod yX7_putFour ∈ zT := zw_of _ 608 (by decide +kernel) (by decide +kernel)
theorem ws_X7_putFour : Cond.selects RX7 yX7_putFour yX7_putFour ∈ zT := zw_of _ 0 (by decide +kernel) (by decide +kernel)
theorem fl_X7_171 : Cond.fieldLink RX7 171 (TX6 2).1 (TX6 2).2.1 (TX6 2).2.2.1 ∈ zT := zw_of _ 201 (by decide +kernel) (by decide +kernel)
theorem fl_X7_174 : Cond.fieldLink RX7 174 (TX6 3).1 (TX6 3).2.1 (TX6 3).2.2.1 ∈ zT := zw_of _ 205 (by decide +kernel) (by decide +kernel)
theorem fl_X7_177 : Cond.fieldLink RX7 177 (TX5 9).1 (TX5 9).2.1 (TX5 9).2.2.1 ∈ zT := zw_of _ 430 (by decide +kernel) (by decide +kernel)
theorem ml_X7_118 : Cond.methodLink RX7 118 yX7_isCloud ∈ zT := zw_of _ 879 (by decide +kernel) (by decide +kernel)
theorem cd_X7_isCloud : Cond.code yX7_isCloud cX7_isCloud 2 (some .boolean) ∈ zT := zw_of _ 882 (by decide +kernel) (by decide +kernel)
theorem cw_X7_118 : zCw RX7 118 yX7_isCloud cX7_isCloud 2 (some .boolean) 1 := ⟨ml_X7_118, ni_X7, cd_X7_isCloud, by decide, by decide, by decide +kernel⟩
theorem wi_X7_isCloud : Cond.instanceMethod yX7_isCloud ∈ zT := zw_of _ 881 (by decide +kernel) (by decide +kernel)
theorem ws_X7_isCloud : Cond.selects RX7 yX7_isCloud yX7_isCloud ∈ zT := zw_of _ 33 (by decide +kernel) (by decide +kernel)
theorem fl_X7_140 : Cond.fieldLink RX7 140 (TX5 5).1 (TX5 5).2.1 (TX5 5).2.2.1 ∈ zT := zw_of _ 419 (by decide +kernel) (by decide +kernel)
theorem fl_X7_137 : Cond.fieldLink RX7 137 (TX5 4).1 (TX5 4).2.1 (TX5 4).2.2.1 ∈ zT := zw_of _ 415 (by decide +kernel) (by decide +kernel)
theorem ml_X7_225 : Cond.methodLink RX7 225 yX5_passHour ∈ zT := zw_of _ 957 (by decide +kernel) (by decide +kernel)
theorem cw_X7_225 : zCw RX7 225 yX5_passHour cX5_passHour 3 none 1 := ⟨ml_X7_225, ni_X5, cd_X5_passHour, by decide, by decide, by decide +kernel⟩
theorem ml_X7_180 : Cond.methodLink RX7 180 yX7_isCell ∈ zT := zw_of _ 842 (by decide +kernel) (by decide +kernel)
theorem cw_X7_180 : zCw RX7 180 yX7_isCell cX7_isCell 2 (some .boolean) 2 := ⟨ml_X7_180, ni_X7, cd_X7_isCell, by decide, by decide, by decide +kernel⟩
theorem ml_X7_184 : Cond.methodLink RX7 184 yX5_groundAt ∈ zT := zw_of _ 845 (by decide +kernel) (by decide +kernel)
theorem cw_X7_184 : zCw RX7 184 yX5_groundAt cX5_groundAt 5 (some .int) 2 := ⟨ml_X7_184, ni_X5, cd_X5_groundAt, by decide, by decide, by decide +kernel⟩
theorem ml_X7_191 : Cond.methodLink RX7 191 yX5_cloudsAt ∈ zT := zw_of _ 868 (by decide +kernel) (by decide +kernel)
theorem cw_X7_191 : zCw RX7 191 yX5_cloudsAt cX5_cloudsAt 5 (some .int) 2 := ⟨ml_X7_191, ni_X5, cd_X5_cloudsAt, by decide, by decide, by decide +kernel⟩
theorem fl_X7_305 : Cond.fieldLink RX7 305 (TX3 7).1 (TX3 7).2.1 (TX3 7).2.2.1 ∈ zT := zw_of _ 515 (by decide +kernel) (by decide +kernel)
theorem ml_X7_261 : Cond.methodLink RX7 261 yX5_lacksRain ∈ zT := zw_of _ 1068 (by decide +kernel) (by decide +kernel)
theorem cw_X7_261 : zCw RX7 261 yX5_lacksRain cX5_lacksRain 2 (some .boolean) 1 := ⟨ml_X7_261, ni_X5, cd_X5_lacksRain, by decide, by decide, by decide +kernel⟩
theorem kl_X7_198 : Cond.constantLong RX7 198 (-9223372036854775808) ∈ zT := zw_of _ 883 (by decide +kernel) (by decide +kernel)
theorem ml_X7_200 : Cond.methodLink RX7 200 yX5_worthOf ∈ zT := zw_of _ 884 (by decide +kernel) (by decide +kernel)
theorem cw_X7_200 : zCw RX7 200 yX5_worthOf cX5_worthOf 4 (some .long) 2 := ⟨ml_X7_200, ni_X5, cd_X5_worthOf, by decide, by decide, by decide +kernel⟩
abbrev M_X7_isChild : zMt := (RX7, cX7_isChild, 2, 1, 60, (some .boolean), "isChild", 0, 0)
theorem d_X7_isChild_0 : zDc M_X7_isChild 0 (.iload_n 1) 1 1 := ⟨by decide +kernel, rfl⟩
theorem d_X7_isChild_1 : zDj M_X7_isChild 1 (.ifCond .lt 18) 18 4 19 := ⟨by decide +kernel, rfl, by decide⟩
theorem d_X7_isChild_4 : zDc M_X7_isChild 4 (.iload_n 1) 1 5 := ⟨by decide +kernel, rfl⟩
theorem d_X7_isChild_5 : zDc M_X7_isChild 5 (.aload_n 0) 1 6 := ⟨by decide +kernel, rfl⟩
theorem d_X7_isChild_6 : zDc M_X7_isChild 6 (.getfield 29) 3 9 := ⟨by decide +kernel, rfl⟩
theorem d_X7_isChild_9 : zDc M_X7_isChild 9 (.getfield 115) 3 12 := ⟨by decide +kernel, rfl⟩
theorem d_X7_isChild_12 : zDj M_X7_isChild 12 (.if_icmp .ge 7) 7 15 19 := ⟨by decide +kernel, rfl, by decide⟩
theorem d_X7_isChild_15 : zDc M_X7_isChild 15 (.iconst 1) 1 16 := ⟨by decide +kernel, rfl⟩
theorem d_X7_isChild_16 : zDj M_X7_isChild 16 (.goto 4) 4 19 20 := ⟨by decide +kernel, rfl, by decide⟩
theorem d_X7_isChild_19 : zDc M_X7_isChild 19 (.iconst 0) 1 20 := ⟨by decide +kernel, rfl⟩
theorem d_X7_isChild_20 : zDc M_X7_isChild 20 (.ireturn) 1 21 := ⟨by decide +kernel, rfl⟩
def f_X7_isChild (a0 : Nat) (a1 : Int32) (h0 : zHp) : Option (Int32 × zHp) :=
  if a1 < 0 then
  some (0, h0)
  else
  zob (zgR h0 a0 7 3) (fun v1 =>
  zob (zgI h0 v1 6 15) (fun v2 =>
  if v2 ≤ a1 then
  some (0, h0)
  else
  some (1, h0)))
set_option maxRecDepth 100000 in
set_option maxHeartbeats 4000000 in
theorem t_X7_isChild (a0 : Nat) (a1 : Int32) (h0 : zHp) : ∀ (r : Int32) (h' : zHp), f_X7_isChild a0 a1 h0 = some (r, h') → zCt yX7_isChild (.code yX7_isChild cX7_isChild 2 (some .boolean)) 1 60 0 0 [.ref a0, .int a1] h0 (some (.int r)) h' := by
  refine zct_of M_X7_isChild yX7_isChild (by decide) rfl rfl [.ref a0, .int a1] h0 (Nat.le_of_ble_eq_true rfl) (fun r => some (.int r)) (fun X => ?_)
  show zG X M_X7_isChild (0, 0) 0 [(0, .ref a0), (1, .int a1)] [] h0 (f_X7_isChild a0 a1 h0) (fun (r : Int32) h' => zKe X (some (.int r)) h')
  unfold f_X7_isChild
  refine zg_iload_n 1 rfl d_X7_isChild_0 ?_
  refine zg_if_lt d_X7_isChild_1 ?_ ?_
  · refine zg_iconst 0 rfl d_X7_isChild_19 ?_
    exact zg_zretK d_X7_isChild_20 rfl ⟨Nat.le_of_ble_eq_true rfl, Nat.le_of_ble_eq_true rfl⟩ (Or.inl rfl) (fun q => q)
  · refine zg_iload_n 1 rfl d_X7_isChild_4 ?_
    refine zg_aload_n 0 rfl d_X7_isChild_5 ?_
    refine zg_getR d_X7_isChild_6 zc_7 (by decide) fl_X7_29 (fun v1 => ?_)
    refine zg_getI d_X7_isChild_9 zc_6 (by decide) fl_X7_115 (fun v2 => ?_)
    refine zg_icmp_ge d_X7_isChild_12 ?_ ?_
    · refine zg_iconst 0 rfl d_X7_isChild_19 ?_
      exact zg_zretK d_X7_isChild_20 rfl ⟨Nat.le_of_ble_eq_true rfl, Nat.le_of_ble_eq_true rfl⟩ (Or.inl rfl) (fun q => q)
    · refine zg_iconst 1 rfl d_X7_isChild_15 ?_
      refine zg_goto d_X7_isChild_16 ?_
      exact zg_zretK d_X7_isChild_20 rfl ⟨Nat.le_of_ble_eq_true rfl, Nat.le_of_ble_eq_true rfl⟩ (Or.inr rfl) (fun q => q)
abbrev M_X7_child : zMt := (RX7, cX7_child, 3, 3, 104, (some .int), "child", 0, 0)
theorem d_X7_child_0 : zDc M_X7_child 0 (.aload_n 0) 1 1 := ⟨by decide +kernel, rfl⟩
theorem d_X7_child_1 : zDc M_X7_child 1 (.iload_n 1) 1 2 := ⟨by decide +kernel, rfl⟩
theorem d_X7_child_2 : zDc M_X7_child 2 (.invokevirtual 146) 3 5 := ⟨by decide +kernel, rfl⟩
theorem d_X7_child_5 : zDj M_X7_child 5 (.ifCond .ne 5) 5 8 10 := ⟨by decide +kernel, rfl, by decide⟩
theorem d_X7_child_8 : zDc M_X7_child 8 (.iconst (-1)) 1 9 := ⟨by decide +kernel, rfl⟩
theorem d_X7_child_9 : zDc M_X7_child 9 (.ireturn) 1 10 := ⟨by decide +kernel, rfl⟩
theorem d_X7_child_10 : zDc M_X7_child 10 (.iload_n 2) 1 11 := ⟨by decide +kernel, rfl⟩
theorem d_X7_child_11 : decode M_X7_child.2.1 11 = .ok (.tableswitch 95 0 5 #[37, 47, 57, 67, 77, 86], 37) := by decide +kernel
theorem d_X7_child_48 : zDc M_X7_child 48 (.aload_n 0) 1 49 := ⟨by decide +kernel, rfl⟩
theorem d_X7_child_49 : zDc M_X7_child 49 (.getfield 38) 3 52 := ⟨by decide +kernel, rfl⟩
theorem d_X7_child_52 : zDc M_X7_child 52 (.getfield 149) 3 55 := ⟨by decide +kernel, rfl⟩
theorem d_X7_child_55 : zDc M_X7_child 55 (.iload_n 1) 1 56 := ⟨by decide +kernel, rfl⟩
theorem d_X7_child_56 : zDc M_X7_child 56 (.iaload) 1 57 := ⟨by decide +kernel, rfl⟩
theorem d_X7_child_57 : zDc M_X7_child 57 (.ireturn) 1 58 := ⟨by decide +kernel, rfl⟩
theorem d_X7_child_58 : zDc M_X7_child 58 (.aload_n 0) 1 59 := ⟨by decide +kernel, rfl⟩
theorem d_X7_child_59 : zDc M_X7_child 59 (.getfield 38) 3 62 := ⟨by decide +kernel, rfl⟩
theorem d_X7_child_62 : zDc M_X7_child 62 (.getfield 152) 3 65 := ⟨by decide +kernel, rfl⟩
theorem d_X7_child_65 : zDc M_X7_child 65 (.iload_n 1) 1 66 := ⟨by decide +kernel, rfl⟩
theorem d_X7_child_66 : zDc M_X7_child 66 (.iaload) 1 67 := ⟨by decide +kernel, rfl⟩
theorem d_X7_child_67 : zDc M_X7_child 67 (.ireturn) 1 68 := ⟨by decide +kernel, rfl⟩
theorem d_X7_child_68 : zDc M_X7_child 68 (.aload_n 0) 1 69 := ⟨by decide +kernel, rfl⟩
theorem d_X7_child_69 : zDc M_X7_child 69 (.getfield 29) 3 72 := ⟨by decide +kernel, rfl⟩
theorem d_X7_child_72 : zDc M_X7_child 72 (.getfield 155) 3 75 := ⟨by decide +kernel, rfl⟩
theorem d_X7_child_75 : zDc M_X7_child 75 (.iload_n 1) 1 76 := ⟨by decide +kernel, rfl⟩
theorem d_X7_child_76 : zDc M_X7_child 76 (.iaload) 1 77 := ⟨by decide +kernel, rfl⟩
theorem d_X7_child_77 : zDc M_X7_child 77 (.ireturn) 1 78 := ⟨by decide +kernel, rfl⟩
theorem d_X7_child_78 : zDc M_X7_child 78 (.aload_n 0) 1 79 := ⟨by decide +kernel, rfl⟩
theorem d_X7_child_79 : zDc M_X7_child 79 (.getfield 38) 3 82 := ⟨by decide +kernel, rfl⟩
theorem d_X7_child_82 : zDc M_X7_child 82 (.getfield 158) 3 85 := ⟨by decide +kernel, rfl⟩
theorem d_X7_child_85 : zDc M_X7_child 85 (.iload_n 1) 1 86 := ⟨by decide +kernel, rfl⟩
theorem d_X7_child_86 : zDc M_X7_child 86 (.iaload) 1 87 := ⟨by decide +kernel, rfl⟩
theorem d_X7_child_87 : zDc M_X7_child 87 (.ireturn) 1 88 := ⟨by decide +kernel, rfl⟩
theorem d_X7_child_88 : zDc M_X7_child 88 (.aload_n 0) 1 89 := ⟨by decide +kernel, rfl⟩
theorem d_X7_child_89 : zDc M_X7_child 89 (.getfield 38) 3 92 := ⟨by decide +kernel, rfl⟩
theorem d_X7_child_92 : zDc M_X7_child 92 (.iload_n 1) 1 93 := ⟨by decide +kernel, rfl⟩
theorem d_X7_child_93 : zDc M_X7_child 93 (.invokevirtual 161) 3 96 := ⟨by decide +kernel, rfl⟩
theorem d_X7_child_96 : zDc M_X7_child 96 (.ireturn) 1 97 := ⟨by decide +kernel, rfl⟩
theorem d_X7_child_97 : zDc M_X7_child 97 (.aload_n 0) 1 98 := ⟨by decide +kernel, rfl⟩
theorem d_X7_child_98 : zDc M_X7_child 98 (.getfield 38) 3 101 := ⟨by decide +kernel, rfl⟩
theorem d_X7_child_101 : zDc M_X7_child 101 (.iload_n 1) 1 102 := ⟨by decide +kernel, rfl⟩
theorem d_X7_child_102 : zDc M_X7_child 102 (.invokevirtual 165) 3 105 := ⟨by decide +kernel, rfl⟩
theorem d_X7_child_105 : zDc M_X7_child 105 (.ireturn) 1 106 := ⟨by decide +kernel, rfl⟩
theorem d_X7_child_106 : zDc M_X7_child 106 (.iconst (-1)) 1 107 := ⟨by decide +kernel, rfl⟩
theorem d_X7_child_107 : zDc M_X7_child 107 (.ireturn) 1 108 := ⟨by decide +kernel, rfl⟩
def f_X7_child (a0 : Nat) (a1 : Int32) (a2 : Int32) (h0 : zHp) : Option (Int32 × zHp) :=
  zbd (zcv 7 a0 h0 (f_X7_isChild a0 a1 h0)) (fun v2 h1 =>
  if v2 = 0 then
  some ((-1), h1)
  else
  if a2 = 0 then
  zob (zgR h1 a0 7 4) (fun v3 =>
  zob (zgR h1 v3 5 6) (fun v4 =>
  zob (zaI 0 h1 v4 a1) (fun v5 =>
  some (v5, h1))))
  else if a2 = 1 then
  zob (zgR h1 a0 7 4) (fun v6 =>
  zob (zgR h1 v6 5 7) (fun v7 =>
  zob (zaI 0 h1 v7 a1) (fun v8 =>
  some (v8, h1))))
  else if a2 = 2 then
  zob (zgR h1 a0 7 3) (fun v9 =>
  zob (zgR h1 v9 6 10) (fun v10 =>
  zob (zaI 0 h1 v10 a1) (fun v11 =>
  some (v11, h1))))
  else if a2 = 3 then
  zob (zgR h1 a0 7 4) (fun v12 =>
  zob (zgR h1 v12 5 8) (fun v13 =>
  zob (zaI 0 h1 v13 a1) (fun v14 =>
  some (v14, h1))))
  else if a2 = 4 then
  zob (zgR h1 a0 7 4) (fun v15 =>
  zbd (zcv 5 v15 h1 (f_X5_ownInSky v15 a1 h1)) (fun v17 h16 =>
  some (v17, h16)))
  else if a2 = 5 then
  zob (zgR h1 a0 7 4) (fun v18 =>
  zbd (zcv 5 v18 h1 (f_X5_rainOfOwn v18 a1 h1)) (fun v20 h19 =>
  some (v20, h19)))
  else 
  some ((-1), h1))
set_option maxRecDepth 100000 in
set_option maxHeartbeats 4000000 in
theorem t_X7_child (a0 : Nat) (a1 : Int32) (a2 : Int32) (h0 : zHp) : ∀ (r : Int32) (h' : zHp), f_X7_child a0 a1 a2 h0 = some (r, h') → zCt yX7_child (.code yX7_child cX7_child 3 (some .int)) 3 104 0 0 [.ref a0, .int a1, .int a2] h0 (some (.int r)) h' := by
  refine zct_of M_X7_child yX7_child (by decide) rfl rfl [.ref a0, .int a1, .int a2] h0 (Nat.le_of_ble_eq_true rfl) (fun r => some (.int r)) (fun X => ?_)
  show zG X M_X7_child (0, 0) 0 [(0, .ref a0), (1, .int a1), (2, .int a2)] [] h0 (f_X7_child a0 a1 a2 h0) (fun (r : Int32) h' => zKe X (some (.int r)) h')
  unfold f_X7_child
  refine zg_aload_n 0 rfl d_X7_child_0 ?_
  refine zg_iload_n 1 rfl d_X7_child_1 ?_
  refine zg_cVi (b := a0) (As := [.int a1]) (rest := []) (0, 0) d_X7_child_2 zc_7 rfl cw_X7_146 wi_X7_isChild ws_X7_isChild rfl rfl (Nat.le_of_ble_eq_true rfl) (by decide) (by decide) ⟨by decide, by decide⟩ rfl (t_X7_isChild a0 a1 h0) (fun v2 h1 => ?_)
  refine zg_if_ne d_X7_child_5 ?_ ?_
  · refine zg_iconst (-1) rfl d_X7_child_8 ?_
    exact zg_iretK d_X7_child_9 rfl ⟨Nat.le_of_ble_eq_true rfl, Nat.le_of_ble_eq_true rfl⟩ (fun q => q)
  · refine zg_iload_n 2 rfl d_X7_child_10 ?_
    refine zg_if (fun n21 => ?_) (fun n21 => ?_)
    · refine zg_tabE n21 d_X7_child_11 (by decide) (by decide) (off := 37) rfl (tgt := 48) (by decide) ?_
      refine zg_aload_n 0 rfl d_X7_child_48 ?_
      refine zg_getR d_X7_child_49 zc_7 (by decide) fl_X7_38 (fun v3 => ?_)
      refine zg_getR d_X7_child_52 zc_5 (by decide) fl_X7_149 (fun v4 => ?_)
      refine zg_iload_n 1 rfl d_X7_child_55 ?_
      refine zg_ald0 d_X7_child_56 (fun v5 => ?_)
      exact zg_iretK d_X7_child_57 rfl ⟨Nat.le_of_ble_eq_true rfl, Nat.le_of_ble_eq_true rfl⟩ (fun q => q)
    refine zg_if (fun n22 => ?_) (fun n22 => ?_)
    · refine zg_tabE n22 d_X7_child_11 (by decide) (by decide) (off := 47) rfl (tgt := 58) (by decide) ?_
      refine zg_aload_n 0 rfl d_X7_child_58 ?_
      refine zg_getR d_X7_child_59 zc_7 (by decide) fl_X7_38 (fun v6 => ?_)
      refine zg_getR d_X7_child_62 zc_5 (by decide) fl_X7_152 (fun v7 => ?_)
      refine zg_iload_n 1 rfl d_X7_child_65 ?_
      refine zg_ald0 d_X7_child_66 (fun v8 => ?_)
      exact zg_iretK d_X7_child_67 rfl ⟨Nat.le_of_ble_eq_true rfl, Nat.le_of_ble_eq_true rfl⟩ (fun q => q)
    refine zg_if (fun n23 => ?_) (fun n23 => ?_)
    · refine zg_tabE n23 d_X7_child_11 (by decide) (by decide) (off := 57) rfl (tgt := 68) (by decide) ?_
      refine zg_aload_n 0 rfl d_X7_child_68 ?_
      refine zg_getR d_X7_child_69 zc_7 (by decide) fl_X7_29 (fun v9 => ?_)
      refine zg_getR d_X7_child_72 zc_6 (by decide) fl_X7_155 (fun v10 => ?_)
      refine zg_iload_n 1 rfl d_X7_child_75 ?_
      refine zg_ald0 d_X7_child_76 (fun v11 => ?_)
      exact zg_iretK d_X7_child_77 rfl ⟨Nat.le_of_ble_eq_true rfl, Nat.le_of_ble_eq_true rfl⟩ (fun q => q)
    refine zg_if (fun n24 => ?_) (fun n24 => ?_)
    · refine zg_tabE n24 d_X7_child_11 (by decide) (by decide) (off := 67) rfl (tgt := 78) (by decide) ?_
      refine zg_aload_n 0 rfl d_X7_child_78 ?_
      refine zg_getR d_X7_child_79 zc_7 (by decide) fl_X7_38 (fun v12 => ?_)
      refine zg_getR d_X7_child_82 zc_5 (by decide) fl_X7_158 (fun v13 => ?_)
      refine zg_iload_n 1 rfl d_X7_child_85 ?_
      refine zg_ald0 d_X7_child_86 (fun v14 => ?_)
      exact zg_iretK d_X7_child_87 rfl ⟨Nat.le_of_ble_eq_true rfl, Nat.le_of_ble_eq_true rfl⟩ (fun q => q)
    refine zg_if (fun n25 => ?_) (fun n25 => ?_)
    · refine zg_tabE n25 d_X7_child_11 (by decide) (by decide) (off := 77) rfl (tgt := 88) (by decide) ?_
      refine zg_aload_n 0 rfl d_X7_child_88 ?_
      refine zg_getR d_X7_child_89 zc_7 (by decide) fl_X7_38 (fun v15 => ?_)
      refine zg_iload_n 1 rfl d_X7_child_92 ?_
      refine zg_cVi (b := v15) (As := [.int a1]) (rest := []) (0, 0) d_X7_child_93 zc_5 rfl cw_X7_161 wi_X5_ownInSky ws_X5_ownInSky rfl rfl (Nat.le_of_ble_eq_true rfl) (by decide) (by decide) ⟨by decide, by decide⟩ rfl (t_X5_ownInSky v15 a1 h1) (fun v17 h16 => ?_)
      exact zg_iretK d_X7_child_96 rfl ⟨Nat.le_of_ble_eq_true rfl, Nat.le_of_ble_eq_true rfl⟩ (fun q => q)
    refine zg_if (fun n26 => ?_) (fun n26 => ?_)
    · refine zg_tabE n26 d_X7_child_11 (by decide) (by decide) (off := 86) rfl (tgt := 97) (by decide) ?_
      refine zg_aload_n 0 rfl d_X7_child_97 ?_
      refine zg_getR d_X7_child_98 zc_7 (by decide) fl_X7_38 (fun v18 => ?_)
      refine zg_iload_n 1 rfl d_X7_child_101 ?_
      refine zg_cVi (b := v18) (As := [.int a1]) (rest := []) (0, 0) d_X7_child_102 zc_5 rfl cw_X7_165 wi_X5_rainOfOwn ws_X5_rainOfOwn rfl rfl (Nat.le_of_ble_eq_true rfl) (by decide) (by decide) ⟨by decide, by decide⟩ rfl (t_X5_rainOfOwn v18 a1 h1) (fun v20 h19 => ?_)
      exact zg_iretK d_X7_child_105 rfl ⟨Nat.le_of_ble_eq_true rfl, Nat.le_of_ble_eq_true rfl⟩ (fun q => q)
    refine zg_tabO d_X7_child_11 (by have q0 := lv_neT n21 (a := 0) rfl; have q1 := lv_neT n22 (a := 1) rfl; have q2 := lv_neT n23 (a := 2) rfl; have q3 := lv_neT n24 (a := 3) rfl; have q4 := lv_neT n25 (a := 4) rfl; have q5 := lv_neT n26 (a := 5) rfl; omega) (tgt := 106) (by decide) ?_
    refine zg_iconst (-1) rfl d_X7_child_106 ?_
    exact zg_iretK d_X7_child_107 rfl ⟨Nat.le_of_ble_eq_true rfl, Nat.le_of_ble_eq_true rfl⟩ (fun q => q)
abbrev M_X7_isCloud : zMt := (RX7, cX7_isCloud, 2, 1, 60, (some .boolean), "isCloud", 0, 0)
theorem d_X7_isCloud_0 : zDc M_X7_isCloud 0 (.iload_n 1) 1 1 := ⟨by decide +kernel, rfl⟩
theorem d_X7_isCloud_1 : zDj M_X7_isCloud 1 (.ifCond .lt 18) 18 4 19 := ⟨by decide +kernel, rfl, by decide⟩
theorem d_X7_isCloud_4 : zDc M_X7_isCloud 4 (.iload_n 1) 1 5 := ⟨by decide +kernel, rfl⟩
theorem d_X7_isCloud_5 : zDc M_X7_isCloud 5 (.aload_n 0) 1 6 := ⟨by decide +kernel, rfl⟩
theorem d_X7_isCloud_6 : zDc M_X7_isCloud 6 (.getfield 29) 3 9 := ⟨by decide +kernel, rfl⟩
theorem d_X7_isCloud_9 : zDc M_X7_isCloud 9 (.getfield 109) 3 12 := ⟨by decide +kernel, rfl⟩
theorem d_X7_isCloud_12 : zDj M_X7_isCloud 12 (.if_icmp .ge 7) 7 15 19 := ⟨by decide +kernel, rfl, by decide⟩
theorem d_X7_isCloud_15 : zDc M_X7_isCloud 15 (.iconst 1) 1 16 := ⟨by decide +kernel, rfl⟩
theorem d_X7_isCloud_16 : zDj M_X7_isCloud 16 (.goto 4) 4 19 20 := ⟨by decide +kernel, rfl, by decide⟩
theorem d_X7_isCloud_19 : zDc M_X7_isCloud 19 (.iconst 0) 1 20 := ⟨by decide +kernel, rfl⟩
theorem d_X7_isCloud_20 : zDc M_X7_isCloud 20 (.ireturn) 1 21 := ⟨by decide +kernel, rfl⟩
def f_X7_isCloud (a0 : Nat) (a1 : Int32) (h0 : zHp) : Option (Int32 × zHp) :=
  if a1 < 0 then
  some (0, h0)
  else
  zob (zgR h0 a0 7 3) (fun v1 =>
  zob (zgI h0 v1 6 14) (fun v2 =>
  if v2 ≤ a1 then
  some (0, h0)
  else
  some (1, h0)))
set_option maxRecDepth 100000 in
set_option maxHeartbeats 4000000 in
theorem t_X7_isCloud (a0 : Nat) (a1 : Int32) (h0 : zHp) : ∀ (r : Int32) (h' : zHp), f_X7_isCloud a0 a1 h0 = some (r, h') → zCt yX7_isCloud (.code yX7_isCloud cX7_isCloud 2 (some .boolean)) 1 60 0 0 [.ref a0, .int a1] h0 (some (.int r)) h' := by
  refine zct_of M_X7_isCloud yX7_isCloud (by decide) rfl rfl [.ref a0, .int a1] h0 (Nat.le_of_ble_eq_true rfl) (fun r => some (.int r)) (fun X => ?_)
  show zG X M_X7_isCloud (0, 0) 0 [(0, .ref a0), (1, .int a1)] [] h0 (f_X7_isCloud a0 a1 h0) (fun (r : Int32) h' => zKe X (some (.int r)) h')
  unfold f_X7_isCloud
  refine zg_iload_n 1 rfl d_X7_isCloud_0 ?_
  refine zg_if_lt d_X7_isCloud_1 ?_ ?_
  · refine zg_iconst 0 rfl d_X7_isCloud_19 ?_
    exact zg_zretK d_X7_isCloud_20 rfl ⟨Nat.le_of_ble_eq_true rfl, Nat.le_of_ble_eq_true rfl⟩ (Or.inl rfl) (fun q => q)
  · refine zg_iload_n 1 rfl d_X7_isCloud_4 ?_
    refine zg_aload_n 0 rfl d_X7_isCloud_5 ?_
    refine zg_getR d_X7_isCloud_6 zc_7 (by decide) fl_X7_29 (fun v1 => ?_)
    refine zg_getI d_X7_isCloud_9 zc_6 (by decide) fl_X7_109 (fun v2 => ?_)
    refine zg_icmp_ge d_X7_isCloud_12 ?_ ?_
    · refine zg_iconst 0 rfl d_X7_isCloud_19 ?_
      exact zg_zretK d_X7_isCloud_20 rfl ⟨Nat.le_of_ble_eq_true rfl, Nat.le_of_ble_eq_true rfl⟩ (Or.inl rfl) (fun q => q)
    · refine zg_iconst 1 rfl d_X7_isCloud_15 ?_
      refine zg_goto d_X7_isCloud_16 ?_
      exact zg_zretK d_X7_isCloud_20 rfl ⟨Nat.le_of_ble_eq_true rfl, Nat.le_of_ble_eq_true rfl⟩ (Or.inr rfl) (fun q => q)
abbrev M_X7_could : zMt := (RX7, cX7_could, 5, 4, 127, (some .int), "could", 0, 0)
theorem d_X7_could_0 : zDc M_X7_could 0 (.bipush 8) 2 2 := ⟨by decide +kernel, rfl⟩
theorem d_X7_could_2 : zDc M_X7_could 2 (.istore_n 1) 1 3 := ⟨by decide +kernel, rfl⟩
theorem d_X7_could_3 : zDc M_X7_could 3 (.iconst 0) 1 4 := ⟨by decide +kernel, rfl⟩
theorem d_X7_could_4 : zDc M_X7_could 4 (.istore_n 2) 1 5 := ⟨by decide +kernel, rfl⟩
theorem d_X7_could_5 : zDc M_X7_could 5 (.iload_n 2) 1 6 := ⟨by decide +kernel, rfl⟩
theorem d_X7_could_6 : zDc M_X7_could 6 (.iconst 1) 1 7 := ⟨by decide +kernel, rfl⟩
theorem d_X7_could_7 : zDc M_X7_could 7 (.aload_n 0) 1 8 := ⟨by decide +kernel, rfl⟩
theorem d_X7_could_8 : zDc M_X7_could 8 (.getfield 29) 3 11 := ⟨by decide +kernel, rfl⟩
theorem d_X7_could_11 : zDc M_X7_could 11 (.getfield 115) 3 14 := ⟨by decide +kernel, rfl⟩
theorem d_X7_could_14 : zDc M_X7_could 14 (.ishl) 1 15 := ⟨by decide +kernel, rfl⟩
theorem d_X7_could_15 : zDj M_X7_could 15 (.if_icmp .ge 75) 75 18 90 := ⟨by decide +kernel, rfl, by decide⟩
theorem d_X7_could_18 : zDc M_X7_could 18 (.iconst 0) 1 19 := ⟨by decide +kernel, rfl⟩
theorem d_X7_could_19 : zDc M_X7_could 19 (.istore_n 3) 1 20 := ⟨by decide +kernel, rfl⟩
theorem d_X7_could_20 : zDc M_X7_could 20 (.iconst 0) 1 21 := ⟨by decide +kernel, rfl⟩
theorem d_X7_could_21 : zDc M_X7_could 21 (.istore 4) 2 23 := ⟨by decide +kernel, rfl⟩
theorem d_X7_could_23 : zDc M_X7_could 23 (.iload 4) 2 25 := ⟨by decide +kernel, rfl⟩
theorem d_X7_could_25 : zDc M_X7_could 25 (.aload_n 0) 1 26 := ⟨by decide +kernel, rfl⟩
theorem d_X7_could_26 : zDc M_X7_could 26 (.getfield 29) 3 29 := ⟨by decide +kernel, rfl⟩
theorem d_X7_could_29 : zDc M_X7_could 29 (.getfield 115) 3 32 := ⟨by decide +kernel, rfl⟩
theorem d_X7_could_32 : zDj M_X7_could 32 (.if_icmp .ge 30) 30 35 62 := ⟨by decide +kernel, rfl, by decide⟩
theorem d_X7_could_35 : zDc M_X7_could 35 (.iload_n 2) 1 36 := ⟨by decide +kernel, rfl⟩
theorem d_X7_could_36 : zDc M_X7_could 36 (.iload 4) 2 38 := ⟨by decide +kernel, rfl⟩
theorem d_X7_could_38 : zDc M_X7_could 38 (.ishr) 1 39 := ⟨by decide +kernel, rfl⟩
theorem d_X7_could_39 : zDc M_X7_could 39 (.iconst 1) 1 40 := ⟨by decide +kernel, rfl⟩
theorem d_X7_could_40 : zDc M_X7_could 40 (.iand) 1 41 := ⟨by decide +kernel, rfl⟩
theorem d_X7_could_41 : zDj M_X7_could 41 (.ifCond .ne 15) 15 44 56 := ⟨by decide +kernel, rfl, by decide⟩
theorem d_X7_could_44 : zDc M_X7_could 44 (.iload_n 3) 1 45 := ⟨by decide +kernel, rfl⟩
theorem d_X7_could_45 : zDc M_X7_could 45 (.aload_n 0) 1 46 := ⟨by decide +kernel, rfl⟩
theorem d_X7_could_46 : zDc M_X7_could 46 (.getfield 38) 3 49 := ⟨by decide +kernel, rfl⟩
theorem d_X7_could_49 : zDc M_X7_could 49 (.iload 4) 2 51 := ⟨by decide +kernel, rfl⟩
theorem d_X7_could_51 : zDc M_X7_could 51 (.invokevirtual 188) 3 54 := ⟨by decide +kernel, rfl⟩
theorem d_X7_could_54 : zDc M_X7_could 54 (.ior) 1 55 := ⟨by decide +kernel, rfl⟩
theorem d_X7_could_55 : zDc M_X7_could 55 (.istore_n 3) 1 56 := ⟨by decide +kernel, rfl⟩
theorem d_X7_could_56 : zDc M_X7_could 56 (.iinc 4 1) 3 59 := ⟨by decide +kernel, rfl⟩
theorem d_X7_could_59 : zDj M_X7_could 59 (.goto (-36)) (-36) 62 23 := ⟨by decide +kernel, rfl, by decide⟩
theorem d_X7_could_62 : zDc M_X7_could 62 (.iload_n 1) 1 63 := ⟨by decide +kernel, rfl⟩
theorem d_X7_could_63 : zDc M_X7_could 63 (.aload_n 0) 1 64 := ⟨by decide +kernel, rfl⟩
theorem d_X7_could_64 : zDc M_X7_could 64 (.getfield 29) 3 67 := ⟨by decide +kernel, rfl⟩
theorem d_X7_could_67 : zDc M_X7_could 67 (.getfield 241) 3 70 := ⟨by decide +kernel, rfl⟩
theorem d_X7_could_70 : zDc M_X7_could 70 (.iload_n 2) 1 71 := ⟨by decide +kernel, rfl⟩
theorem d_X7_could_71 : zDc M_X7_could 71 (.invokestatic 244) 3 74 := ⟨by decide +kernel, rfl⟩
theorem d_X7_could_74 : zDc M_X7_could 74 (.imul) 1 75 := ⟨by decide +kernel, rfl⟩
theorem d_X7_could_75 : zDc M_X7_could 75 (.iload_n 3) 1 76 := ⟨by decide +kernel, rfl⟩
theorem d_X7_could_76 : zDc M_X7_could 76 (.invokestatic 244) 3 79 := ⟨by decide +kernel, rfl⟩
theorem d_X7_could_79 : zDc M_X7_could 79 (.iadd) 1 80 := ⟨by decide +kernel, rfl⟩
theorem d_X7_could_80 : zDc M_X7_could 80 (.invokestatic 249) 3 83 := ⟨by decide +kernel, rfl⟩
theorem d_X7_could_83 : zDc M_X7_could 83 (.istore_n 1) 1 84 := ⟨by decide +kernel, rfl⟩
theorem d_X7_could_84 : zDc M_X7_could 84 (.iinc 2 1) 3 87 := ⟨by decide +kernel, rfl⟩
theorem d_X7_could_87 : zDj M_X7_could 87 (.goto (-82)) (-82) 90 5 := ⟨by decide +kernel, rfl, by decide⟩
theorem d_X7_could_90 : zDc M_X7_could 90 (.iload_n 1) 1 91 := ⟨by decide +kernel, rfl⟩
theorem d_X7_could_91 : zDc M_X7_could 91 (.ireturn) 1 92 := ⟨by decide +kernel, rfl⟩
def f_X7_could (a0 : Nat) (h0 : zHp) : Option (Int32 × zHp) :=
  zbd (
  zlp (σ := (Int32 × Int32)) (β := (Int32 × Int32)) zLF (fun s1 h2 =>
  zob (zgR h2 a0 7 3) (fun v5 =>
  zob (zgI h2 v5 6 15) (fun v6 =>
  if (1 <<< (v6 &&& 31)) ≤ s1.2 then
  some ((.inr (s1.1, s1.2)), h2)
  else
  zbd (
  zlp (σ := (Int32 × Int32)) (β := (Int32 × Int32)) zLF (fun s7 h8 =>
  zob (zgR h8 a0 7 3) (fun v11 =>
  zob (zgI h8 v11 6 15) (fun v12 =>
  if v12 ≤ s7.2 then
  some ((.inr (s7.1, s7.2)), h8)
  else
  if ((s1.2 >>> (s7.2 &&& 31)) &&& 1) = 0 then
  zob (zgR h8 a0 7 4) (fun v13 =>
  zbd (zcv 5 v13 h8 (f_X5_seenBy v13 s7.2 h8)) (fun v15 h14 =>
  some ((.inl ((s7.1 ||| v15), (s7.2 + 1))), h14)))
  else
  some ((.inl (s7.1, (s7.2 + 1))), h8)))) (0, 0) h2) (fun e9 h10 =>
  zob (zgR h10 a0 7 3) (fun v16 =>
  zob (zgI h10 v16 6 18) (fun v17 =>
  zbd ((f_J6_bitCount_0f7a4 s1.2 h10)) (fun v19 h18 =>
  zbd ((f_J6_bitCount_0f7a4 e9.1 h18)) (fun v21 h20 =>
  some ((.inl ((zmn s1.1 ((v17 * v19) + v21)), (s1.2 + 1))), h20))))))))) (8, 0) h0) (fun e3 h4 =>
  some (e3.1, h4))
set_option maxRecDepth 100000 in
set_option maxHeartbeats 4000000 in
theorem t_X7_could (a0 : Nat) (h0 : zHp) : ∀ (r : Int32) (h' : zHp), f_X7_could a0 h0 = some (r, h') → zCt yX7_could (.code yX7_could cX7_could 5 (some .int)) 4 127 0 0 [.ref a0] h0 (some (.int r)) h' := by
  refine zct_of M_X7_could yX7_could (by decide) rfl rfl [.ref a0] h0 (Nat.le_of_ble_eq_true rfl) (fun r => some (.int r)) (fun X => ?_)
  show zG X M_X7_could (0, 0) 0 [(0, .ref a0)] [] h0 (f_X7_could a0 h0) (fun (r : Int32) h' => zKe X (some (.int r)) h')
  unfold f_X7_could
  refine zg_bipush 8 rfl d_X7_could_0 ?_
  refine zg_istore_n [(1, .int 8), (0, .ref a0)] d_X7_could_2 rfl (by decide) rfl ?_
  refine zg_iconst 0 rfl d_X7_could_3 ?_
  refine zg_istore_n [(2, .int 0), (1, .int 8), (0, .ref a0)] d_X7_could_4 rfl (by decide) rfl ?_
  refine zg_bd (E := 90) (el := (fun (e3 : (Int32 × Int32)) => [(0, .ref a0), (1, .int e3.1), (2, .int e3.2)])) (es := fun _ => []) (zg_sub [2, 1, 0] rfl (zg_lp (el := (fun (s1 : (Int32 × Int32)) => [(0, .ref a0), (1, .int s1.1), (2, .int s1.2)])) (fun s1 h2 => ?_) (8, 0) h0)) (fun e3 h4 => ?_)
  · refine zg_iload_n 2 rfl d_X7_could_5 ?_
    refine zg_iconst 1 rfl d_X7_could_6 ?_
    refine zg_aload_n 0 rfl d_X7_could_7 ?_
    refine zg_getR d_X7_could_8 zc_7 (by decide) fl_X7_29 (fun v5 => ?_)
    refine zg_getI d_X7_could_11 zc_6 (by decide) fl_X7_115 (fun v6 => ?_)
    refine zg_ishl d_X7_could_14 ?_
    refine zg_icmp_ge d_X7_could_15 ?_ ?_
    · exact zg_finK (E := 0) [0, 1, 2] rfl rfl (fun q => q)
    · refine zg_iconst 0 rfl d_X7_could_18 ?_
      refine zg_istore_n [(3, .int 0), (0, .ref a0), (1, .int s1.1), (2, .int s1.2)] d_X7_could_19 rfl (by decide) rfl ?_
      refine zg_iconst 0 rfl d_X7_could_20 ?_
      refine zg_istore [(4, .int 0), (3, .int 0), (0, .ref a0), (1, .int s1.1), (2, .int s1.2)] d_X7_could_21 (by decide) rfl ?_
      refine zg_bd (E := 62) (el := (fun (e9 : (Int32 × Int32)) => [(0, .ref a0), (1, .int s1.1), (2, .int s1.2), (3, .int e9.1), (4, .int e9.2)])) (es := fun _ => []) (zg_sub [2, 3, 4, 1, 0] rfl (zg_lp (el := (fun (s7 : (Int32 × Int32)) => [(0, .ref a0), (1, .int s1.1), (2, .int s1.2), (3, .int s7.1), (4, .int s7.2)])) (fun s7 h8 => ?_) (0, 0) h2)) (fun e9 h10 => ?_)
      · refine zg_iload 4 rfl d_X7_could_23 ?_
        refine zg_aload_n 0 rfl d_X7_could_25 ?_
        refine zg_getR d_X7_could_26 zc_7 (by decide) fl_X7_29 (fun v11 => ?_)
        refine zg_getI d_X7_could_29 zc_6 (by decide) fl_X7_115 (fun v12 => ?_)
        refine zg_icmp_ge d_X7_could_32 ?_ ?_
        · exact zg_finK (E := 0) [0, 1, 2, 3, 4] rfl rfl (fun q => q)
        · refine zg_iload_n 2 rfl d_X7_could_35 ?_
          refine zg_iload 4 rfl d_X7_could_36 ?_
          refine zg_ishr d_X7_could_38 ?_
          refine zg_iconst 1 rfl d_X7_could_39 ?_
          refine zg_iand d_X7_could_40 ?_
          refine zg_if_ne d_X7_could_41 ?_ ?_
          · refine zg_iload_n 3 rfl d_X7_could_44 ?_
            refine zg_aload_n 0 rfl d_X7_could_45 ?_
            refine zg_getR d_X7_could_46 zc_7 (by decide) fl_X7_38 (fun v13 => ?_)
            refine zg_iload 4 rfl d_X7_could_49 ?_
            refine zg_cVi (b := v13) (As := [.int s7.2]) (rest := [.int s7.1]) (0, 0) d_X7_could_51 zc_5 rfl cw_X7_188 wi_X5_seenBy ws_X5_seenBy rfl rfl (Nat.le_of_ble_eq_true rfl) (by decide) (by decide) ⟨by decide, by decide⟩ rfl (t_X5_seenBy v13 s7.2 h8) (fun v15 h14 => ?_)
            refine zg_ior d_X7_could_54 ?_
            refine zg_istore_n [(3, .int (s7.1 ||| v15)), (0, .ref a0), (1, .int s1.1), (2, .int s1.2), (4, .int s7.2)] d_X7_could_55 rfl (by decide) rfl ?_
            refine zg_iinc 4 (s7.2 + 1) [(4, .int (s7.2 + 1)), (3, .int (s7.1 ||| v15)), (0, .ref a0), (1, .int s1.1), (2, .int s1.2)] d_X7_could_56 rfl rfl (by decide) rfl ?_
            refine zg_goto d_X7_could_59 ?_
            exact zg_finK (E := 0) [2, 3, 4, 1, 0] rfl rfl (fun q => q)
          · refine zg_iinc 4 (s7.2 + 1) [(4, .int (s7.2 + 1)), (0, .ref a0), (1, .int s1.1), (2, .int s1.2), (3, .int s7.1)] d_X7_could_56 rfl rfl (by decide) rfl ?_
            refine zg_goto d_X7_could_59 ?_
            exact zg_finK (E := 0) [1, 2, 3, 4, 0] rfl rfl (fun q => q)
      · refine zg_iload_n 1 rfl d_X7_could_62 ?_
        refine zg_aload_n 0 rfl d_X7_could_63 ?_
        refine zg_getR d_X7_could_64 zc_7 (by decide) fl_X7_29 (fun v16 => ?_)
        refine zg_getI d_X7_could_67 zc_6 (by decide) fl_X7_241 (fun v17 => ?_)
        refine zg_iload_n 2 rfl d_X7_could_70 ?_
        refine zg_cSi (As := [.int s1.2]) (rest := [.int v17, .int s1.1]) (0, 0) d_X7_could_71 cw_X7_244 wt_J6_bitCount_0f7a4 rfl rfl (Nat.le_of_ble_eq_true rfl) (by decide) (by decide) ⟨by decide, by decide⟩ rfl (t_J6_bitCount_0f7a4 s1.2 h10) (fun v19 h18 => ?_)
        refine zg_imul d_X7_could_74 ?_
        refine zg_iload_n 3 rfl d_X7_could_75 ?_
        refine zg_cSi (As := [.int e9.1]) (rest := [.int (v17 * v19), .int s1.1]) (0, 0) d_X7_could_76 cw_X7_244 wt_J6_bitCount_0f7a4 rfl rfl (Nat.le_of_ble_eq_true rfl) (by decide) (by decide) ⟨by decide, by decide⟩ rfl (t_J6_bitCount_0f7a4 e9.1 h18) (fun v21 h20 => ?_)
        refine zg_iadd d_X7_could_79 ?_
        refine zg_mmin d_X7_could_80 ml_X7_249 (by decide) (Nat.le_of_ble_eq_true rfl) ⟨Nat.le_of_ble_eq_true rfl, Nat.le_of_ble_eq_true rfl⟩ ?_
        refine zg_istore_n [(1, .int (zmn s1.1 ((v17 * v19) + v21))), (0, .ref a0), (2, .int s1.2), (3, .int e9.1), (4, .int e9.2)] d_X7_could_83 rfl (by decide) rfl ?_
        refine zg_iinc 2 (s1.2 + 1) [(2, .int (s1.2 + 1)), (1, .int (zmn s1.1 ((v17 * v19) + v21))), (0, .ref a0), (3, .int e9.1), (4, .int e9.2)] d_X7_could_84 rfl rfl (by decide) rfl ?_
        refine zg_goto d_X7_could_87 ?_
        exact zg_finK (E := 0) [2, 1, 0] rfl rfl (fun q => q)
  · refine zg_iload_n 1 rfl d_X7_could_90 ?_
    exact zg_iretK d_X7_could_91 rfl ⟨Nat.le_of_ble_eq_true rfl, Nat.le_of_ble_eq_true rfl⟩ (fun q => q)
abbrev M_X7_count : zMt := (RX7, cX7_count, 2, 2, 83, (some .int), "count", 0, 0)
theorem d_X7_count_0 : zDc M_X7_count 0 (.iload_n 1) 1 1 := ⟨by decide +kernel, rfl⟩
theorem d_X7_count_1 : decode M_X7_count.2.1 1 = .ok (.tableswitch 201 0 14 #[75, 83, 91, 99, 107, 118, 126, 134, 143, 152, 161, 169, 177, 185, 193], 75) := by decide +kernel
theorem d_X7_count_76 : zDc M_X7_count 76 (.aload_n 0) 1 77 := ⟨by decide +kernel, rfl⟩
theorem d_X7_count_77 : zDc M_X7_count 77 (.getfield 29) 3 80 := ⟨by decide +kernel, rfl⟩
theorem d_X7_count_80 : zDc M_X7_count 80 (.getfield 99) 3 83 := ⟨by decide +kernel, rfl⟩
theorem d_X7_count_83 : zDc M_X7_count 83 (.ireturn) 1 84 := ⟨by decide +kernel, rfl⟩
theorem d_X7_count_84 : zDc M_X7_count 84 (.aload_n 0) 1 85 := ⟨by decide +kernel, rfl⟩
theorem d_X7_count_85 : zDc M_X7_count 85 (.getfield 29) 3 88 := ⟨by decide +kernel, rfl⟩
theorem d_X7_count_88 : zDc M_X7_count 88 (.getfield 109) 3 91 := ⟨by decide +kernel, rfl⟩
theorem d_X7_count_91 : zDc M_X7_count 91 (.ireturn) 1 92 := ⟨by decide +kernel, rfl⟩
theorem d_X7_count_92 : zDc M_X7_count 92 (.aload_n 0) 1 93 := ⟨by decide +kernel, rfl⟩
theorem d_X7_count_93 : zDc M_X7_count 93 (.getfield 29) 3 96 := ⟨by decide +kernel, rfl⟩
theorem d_X7_count_96 : zDc M_X7_count 96 (.getfield 115) 3 99 := ⟨by decide +kernel, rfl⟩
theorem d_X7_count_99 : zDc M_X7_count 99 (.ireturn) 1 100 := ⟨by decide +kernel, rfl⟩
theorem d_X7_count_100 : zDc M_X7_count 100 (.aload_n 0) 1 101 := ⟨by decide +kernel, rfl⟩
theorem d_X7_count_101 : zDc M_X7_count 101 (.getfield 29) 3 104 := ⟨by decide +kernel, rfl⟩
theorem d_X7_count_104 : zDc M_X7_count 104 (.getfield 331) 3 107 := ⟨by decide +kernel, rfl⟩
theorem d_X7_count_107 : zDc M_X7_count 107 (.ireturn) 1 108 := ⟨by decide +kernel, rfl⟩
theorem d_X7_count_108 : zDc M_X7_count 108 (.aload_n 0) 1 109 := ⟨by decide +kernel, rfl⟩
theorem d_X7_count_109 : zDc M_X7_count 109 (.getfield 29) 3 112 := ⟨by decide +kernel, rfl⟩
theorem d_X7_count_112 : zDc M_X7_count 112 (.getfield 334) 3 115 := ⟨by decide +kernel, rfl⟩
theorem d_X7_count_115 : zDc M_X7_count 115 (.getfield 338) 3 118 := ⟨by decide +kernel, rfl⟩
theorem d_X7_count_118 : zDc M_X7_count 118 (.ireturn) 1 119 := ⟨by decide +kernel, rfl⟩
theorem d_X7_count_119 : zDc M_X7_count 119 (.aload_n 0) 1 120 := ⟨by decide +kernel, rfl⟩
theorem d_X7_count_120 : zDc M_X7_count 120 (.getfield 38) 3 123 := ⟨by decide +kernel, rfl⟩
theorem d_X7_count_123 : zDc M_X7_count 123 (.getfield 218) 3 126 := ⟨by decide +kernel, rfl⟩
theorem d_X7_count_126 : zDc M_X7_count 126 (.ireturn) 1 127 := ⟨by decide +kernel, rfl⟩
theorem d_X7_count_127 : zDc M_X7_count 127 (.aload_n 0) 1 128 := ⟨by decide +kernel, rfl⟩
theorem d_X7_count_128 : zDc M_X7_count 128 (.getfield 38) 3 131 := ⟨by decide +kernel, rfl⟩
theorem d_X7_count_131 : zDc M_X7_count 131 (.invokevirtual 221) 3 134 := ⟨by decide +kernel, rfl⟩
theorem d_X7_count_134 : zDc M_X7_count 134 (.ireturn) 1 135 := ⟨by decide +kernel, rfl⟩
theorem d_X7_count_135 : zDc M_X7_count 135 (.aload_n 0) 1 136 := ⟨by decide +kernel, rfl⟩
theorem d_X7_count_136 : zDc M_X7_count 136 (.getfield 38) 3 139 := ⟨by decide +kernel, rfl⟩
theorem d_X7_count_139 : zDc M_X7_count 139 (.iconst 1) 1 140 := ⟨by decide +kernel, rfl⟩
theorem d_X7_count_140 : zDc M_X7_count 140 (.invokevirtual 235) 3 143 := ⟨by decide +kernel, rfl⟩
theorem d_X7_count_143 : zDc M_X7_count 143 (.ireturn) 1 144 := ⟨by decide +kernel, rfl⟩
theorem d_X7_count_144 : zDc M_X7_count 144 (.aload_n 0) 1 145 := ⟨by decide +kernel, rfl⟩
theorem d_X7_count_145 : zDc M_X7_count 145 (.getfield 38) 3 148 := ⟨by decide +kernel, rfl⟩
theorem d_X7_count_148 : zDc M_X7_count 148 (.iconst 0) 1 149 := ⟨by decide +kernel, rfl⟩
theorem d_X7_count_149 : zDc M_X7_count 149 (.invokevirtual 235) 3 152 := ⟨by decide +kernel, rfl⟩
theorem d_X7_count_152 : zDc M_X7_count 152 (.ireturn) 1 153 := ⟨by decide +kernel, rfl⟩
theorem d_X7_count_153 : zDc M_X7_count 153 (.aload_n 0) 1 154 := ⟨by decide +kernel, rfl⟩
theorem d_X7_count_154 : zDc M_X7_count 154 (.getfield 38) 3 157 := ⟨by decide +kernel, rfl⟩
theorem d_X7_count_157 : zDc M_X7_count 157 (.iconst 2) 1 158 := ⟨by decide +kernel, rfl⟩
theorem d_X7_count_158 : zDc M_X7_count 158 (.invokevirtual 235) 3 161 := ⟨by decide +kernel, rfl⟩
theorem d_X7_count_161 : zDc M_X7_count 161 (.ireturn) 1 162 := ⟨by decide +kernel, rfl⟩
theorem d_X7_count_162 : zDc M_X7_count 162 (.aload_n 0) 1 163 := ⟨by decide +kernel, rfl⟩
theorem d_X7_count_163 : zDc M_X7_count 163 (.getfield 38) 3 166 := ⟨by decide +kernel, rfl⟩
theorem d_X7_count_166 : zDc M_X7_count 166 (.invokevirtual 232) 3 169 := ⟨by decide +kernel, rfl⟩
theorem d_X7_count_169 : zDc M_X7_count 169 (.ireturn) 1 170 := ⟨by decide +kernel, rfl⟩
theorem d_X7_count_170 : zDc M_X7_count 170 (.aload_n 0) 1 171 := ⟨by decide +kernel, rfl⟩
theorem d_X7_count_171 : zDc M_X7_count 171 (.getfield 38) 3 174 := ⟨by decide +kernel, rfl⟩
theorem d_X7_count_174 : zDc M_X7_count 174 (.invokevirtual 238) 3 177 := ⟨by decide +kernel, rfl⟩
theorem d_X7_count_177 : zDc M_X7_count 177 (.ireturn) 1 178 := ⟨by decide +kernel, rfl⟩
theorem d_X7_count_178 : zDc M_X7_count 178 (.aload_n 0) 1 179 := ⟨by decide +kernel, rfl⟩
theorem d_X7_count_179 : zDc M_X7_count 179 (.getfield 59) 3 182 := ⟨by decide +kernel, rfl⟩
theorem d_X7_count_182 : zDc M_X7_count 182 (.getfield 299) 3 185 := ⟨by decide +kernel, rfl⟩
theorem d_X7_count_185 : zDc M_X7_count 185 (.ireturn) 1 186 := ⟨by decide +kernel, rfl⟩
theorem d_X7_count_186 : zDc M_X7_count 186 (.aload_n 0) 1 187 := ⟨by decide +kernel, rfl⟩
theorem d_X7_count_187 : zDc M_X7_count 187 (.getfield 59) 3 190 := ⟨by decide +kernel, rfl⟩
theorem d_X7_count_190 : zDc M_X7_count 190 (.invokevirtual 343) 3 193 := ⟨by decide +kernel, rfl⟩
theorem d_X7_count_193 : zDc M_X7_count 193 (.ireturn) 1 194 := ⟨by decide +kernel, rfl⟩
theorem d_X7_count_194 : zDc M_X7_count 194 (.aload_n 0) 1 195 := ⟨by decide +kernel, rfl⟩
theorem d_X7_count_195 : zDc M_X7_count 195 (.getfield 52) 3 198 := ⟨by decide +kernel, rfl⟩
theorem d_X7_count_198 : zDc M_X7_count 198 (.getfield 321) 3 201 := ⟨by decide +kernel, rfl⟩
theorem d_X7_count_201 : zDc M_X7_count 201 (.ireturn) 1 202 := ⟨by decide +kernel, rfl⟩
theorem d_X7_count_202 : zDc M_X7_count 202 (.iconst (-1)) 1 203 := ⟨by decide +kernel, rfl⟩
theorem d_X7_count_203 : zDc M_X7_count 203 (.ireturn) 1 204 := ⟨by decide +kernel, rfl⟩
def f_X7_count (a0 : Nat) (a1 : Int32) (h0 : zHp) : Option (Int32 × zHp) :=
  if a1 = 0 then
  zob (zgR h0 a0 7 3) (fun v1 =>
  zob (zgI h0 v1 6 13) (fun v2 =>
  some (v2, h0)))
  else if a1 = 1 then
  zob (zgR h0 a0 7 3) (fun v3 =>
  zob (zgI h0 v3 6 14) (fun v4 =>
  some (v4, h0)))
  else if a1 = 2 then
  zob (zgR h0 a0 7 3) (fun v5 =>
  zob (zgI h0 v5 6 15) (fun v6 =>
  some (v6, h0)))
  else if a1 = 3 then
  zob (zgR h0 a0 7 3) (fun v7 =>
  zob (zgI h0 v7 6 16) (fun v8 =>
  some (v8, h0)))
  else if a1 = 4 then
  zob (zgR h0 a0 7 3) (fun v9 =>
  zob (zgR h0 v9 6 12) (fun v10 =>
  zob (zgI h0 v10 2 5) (fun v11 =>
  some (v11, h0))))
  else if a1 = 5 then
  zob (zgR h0 a0 7 4) (fun v12 =>
  zob (zgI h0 v12 5 11) (fun v13 =>
  some (v13, h0)))
  else if a1 = 6 then
  zob (zgR h0 a0 7 4) (fun v14 =>
  zbd (zcv 5 v14 h0 (f_X5_windNow v14 h0)) (fun v16 h15 =>
  some (v16, h15)))
  else if a1 = 7 then
  zob (zgR h0 a0 7 4) (fun v17 =>
  zbd (zcv 5 v17 h0 (f_X5_howManyAre v17 1 h0)) (fun v19 h18 =>
  some (v19, h18)))
  else if a1 = 8 then
  zob (zgR h0 a0 7 4) (fun v20 =>
  zbd (zcv 5 v20 h0 (f_X5_howManyAre v20 0 h0)) (fun v22 h21 =>
  some (v22, h21)))
  else if a1 = 9 then
  zob (zgR h0 a0 7 4) (fun v23 =>
  zbd (zcv 5 v23 h0 (f_X5_howManyAre v23 2 h0)) (fun v25 h24 =>
  some (v25, h24)))
  else if a1 = 10 then
  zob (zgR h0 a0 7 4) (fun v26 =>
  zbd (zcv 5 v26 h0 (f_X5_rainInAll v26 h0)) (fun v28 h27 =>
  some (v28, h27)))
  else if a1 = 11 then
  zob (zgR h0 a0 7 4) (fun v29 =>
  zbd (zcv 5 v29 h0 (f_X5_marksInAll v29 h0)) (fun v31 h30 =>
  some (v31, h30)))
  else if a1 = 12 then
  zob (zgR h0 a0 7 8) (fun v32 =>
  zob (zgI h0 v32 3 6) (fun v33 =>
  some (v33, h0)))
  else if a1 = 13 then
  zob (zgR h0 a0 7 8) (fun v34 =>
  zbd (zcv 3 v34 h0 (f_X3_readable v34 h0)) (fun v36 h35 =>
  some (v36, h35)))
  else if a1 = 14 then
  zob (zgR h0 a0 7 7) (fun v37 =>
  zob (zgI h0 v37 0 4) (fun v38 =>
  some (v38, h0)))
  else 
  some ((-1), h0)
set_option maxRecDepth 100000 in
set_option maxHeartbeats 4000000 in
theorem t_X7_count (a0 : Nat) (a1 : Int32) (h0 : zHp) : ∀ (r : Int32) (h' : zHp), f_X7_count a0 a1 h0 = some (r, h') → zCt yX7_count (.code yX7_count cX7_count 2 (some .int)) 2 83 0 0 [.ref a0, .int a1] h0 (some (.int r)) h' := by
  refine zct_of M_X7_count yX7_count (by decide) rfl rfl [.ref a0, .int a1] h0 (Nat.le_of_ble_eq_true rfl) (fun r => some (.int r)) (fun X => ?_)
  show zG X M_X7_count (0, 0) 0 [(0, .ref a0), (1, .int a1)] [] h0 (f_X7_count a0 a1 h0) (fun (r : Int32) h' => zKe X (some (.int r)) h')
  unfold f_X7_count
  refine zg_iload_n 1 rfl d_X7_count_0 ?_
  refine zg_if (fun n39 => ?_) (fun n39 => ?_)
  · refine zg_tabE n39 d_X7_count_1 (by decide) (by decide) (off := 75) rfl (tgt := 76) (by decide) ?_
    refine zg_aload_n 0 rfl d_X7_count_76 ?_
    refine zg_getR d_X7_count_77 zc_7 (by decide) fl_X7_29 (fun v1 => ?_)
    refine zg_getI d_X7_count_80 zc_6 (by decide) fl_X7_99 (fun v2 => ?_)
    exact zg_iretK d_X7_count_83 rfl ⟨Nat.le_of_ble_eq_true rfl, Nat.le_of_ble_eq_true rfl⟩ (fun q => q)
  refine zg_if (fun n40 => ?_) (fun n40 => ?_)
  · refine zg_tabE n40 d_X7_count_1 (by decide) (by decide) (off := 83) rfl (tgt := 84) (by decide) ?_
    refine zg_aload_n 0 rfl d_X7_count_84 ?_
    refine zg_getR d_X7_count_85 zc_7 (by decide) fl_X7_29 (fun v3 => ?_)
    refine zg_getI d_X7_count_88 zc_6 (by decide) fl_X7_109 (fun v4 => ?_)
    exact zg_iretK d_X7_count_91 rfl ⟨Nat.le_of_ble_eq_true rfl, Nat.le_of_ble_eq_true rfl⟩ (fun q => q)
  refine zg_if (fun n41 => ?_) (fun n41 => ?_)
  · refine zg_tabE n41 d_X7_count_1 (by decide) (by decide) (off := 91) rfl (tgt := 92) (by decide) ?_
    refine zg_aload_n 0 rfl d_X7_count_92 ?_
    refine zg_getR d_X7_count_93 zc_7 (by decide) fl_X7_29 (fun v5 => ?_)
    refine zg_getI d_X7_count_96 zc_6 (by decide) fl_X7_115 (fun v6 => ?_)
    exact zg_iretK d_X7_count_99 rfl ⟨Nat.le_of_ble_eq_true rfl, Nat.le_of_ble_eq_true rfl⟩ (fun q => q)
  refine zg_if (fun n42 => ?_) (fun n42 => ?_)
  · refine zg_tabE n42 d_X7_count_1 (by decide) (by decide) (off := 99) rfl (tgt := 100) (by decide) ?_
    refine zg_aload_n 0 rfl d_X7_count_100 ?_
    refine zg_getR d_X7_count_101 zc_7 (by decide) fl_X7_29 (fun v7 => ?_)
    refine zg_getI d_X7_count_104 zc_6 (by decide) fl_X7_331 (fun v8 => ?_)
    exact zg_iretK d_X7_count_107 rfl ⟨Nat.le_of_ble_eq_true rfl, Nat.le_of_ble_eq_true rfl⟩ (fun q => q)
  refine zg_if (fun n43 => ?_) (fun n43 => ?_)
  · refine zg_tabE n43 d_X7_count_1 (by decide) (by decide) (off := 107) rfl (tgt := 108) (by decide) ?_
    refine zg_aload_n 0 rfl d_X7_count_108 ?_
    refine zg_getR d_X7_count_109 zc_7 (by decide) fl_X7_29 (fun v9 => ?_)
    refine zg_getR d_X7_count_112 zc_6 (by decide) fl_X7_334 (fun v10 => ?_)
    refine zg_getI d_X7_count_115 zc_2 (by decide) fl_X7_338 (fun v11 => ?_)
    exact zg_iretK d_X7_count_118 rfl ⟨Nat.le_of_ble_eq_true rfl, Nat.le_of_ble_eq_true rfl⟩ (fun q => q)
  refine zg_if (fun n44 => ?_) (fun n44 => ?_)
  · refine zg_tabE n44 d_X7_count_1 (by decide) (by decide) (off := 118) rfl (tgt := 119) (by decide) ?_
    refine zg_aload_n 0 rfl d_X7_count_119 ?_
    refine zg_getR d_X7_count_120 zc_7 (by decide) fl_X7_38 (fun v12 => ?_)
    refine zg_getI d_X7_count_123 zc_5 (by decide) fl_X7_218 (fun v13 => ?_)
    exact zg_iretK d_X7_count_126 rfl ⟨Nat.le_of_ble_eq_true rfl, Nat.le_of_ble_eq_true rfl⟩ (fun q => q)
  refine zg_if (fun n45 => ?_) (fun n45 => ?_)
  · refine zg_tabE n45 d_X7_count_1 (by decide) (by decide) (off := 126) rfl (tgt := 127) (by decide) ?_
    refine zg_aload_n 0 rfl d_X7_count_127 ?_
    refine zg_getR d_X7_count_128 zc_7 (by decide) fl_X7_38 (fun v14 => ?_)
    refine zg_cVi (b := v14) (As := []) (rest := []) (0, 0) d_X7_count_131 zc_5 rfl cw_X7_221 wi_X5_windNow ws_X5_windNow rfl rfl (Nat.le_of_ble_eq_true rfl) (by decide) (by decide) ⟨by decide, by decide⟩ rfl (t_X5_windNow v14 h0) (fun v16 h15 => ?_)
    exact zg_iretK d_X7_count_134 rfl ⟨Nat.le_of_ble_eq_true rfl, Nat.le_of_ble_eq_true rfl⟩ (fun q => q)
  refine zg_if (fun n46 => ?_) (fun n46 => ?_)
  · refine zg_tabE n46 d_X7_count_1 (by decide) (by decide) (off := 134) rfl (tgt := 135) (by decide) ?_
    refine zg_aload_n 0 rfl d_X7_count_135 ?_
    refine zg_getR d_X7_count_136 zc_7 (by decide) fl_X7_38 (fun v17 => ?_)
    refine zg_iconst 1 rfl d_X7_count_139 ?_
    refine zg_cVi (b := v17) (As := [.int 1]) (rest := []) (0, 0) d_X7_count_140 zc_5 rfl cw_X7_235 wi_X5_howManyAre ws_X5_howManyAre rfl rfl (Nat.le_of_ble_eq_true rfl) (by decide) (by decide) ⟨by decide, by decide⟩ rfl (t_X5_howManyAre v17 1 h0) (fun v19 h18 => ?_)
    exact zg_iretK d_X7_count_143 rfl ⟨Nat.le_of_ble_eq_true rfl, Nat.le_of_ble_eq_true rfl⟩ (fun q => q)
  refine zg_if (fun n47 => ?_) (fun n47 => ?_)
  · refine zg_tabE n47 d_X7_count_1 (by decide) (by decide) (off := 143) rfl (tgt := 144) (by decide) ?_
    refine zg_aload_n 0 rfl d_X7_count_144 ?_
    refine zg_getR d_X7_count_145 zc_7 (by decide) fl_X7_38 (fun v20 => ?_)
    refine zg_iconst 0 rfl d_X7_count_148 ?_
    refine zg_cVi (b := v20) (As := [.int 0]) (rest := []) (0, 0) d_X7_count_149 zc_5 rfl cw_X7_235 wi_X5_howManyAre ws_X5_howManyAre rfl rfl (Nat.le_of_ble_eq_true rfl) (by decide) (by decide) ⟨by decide, by decide⟩ rfl (t_X5_howManyAre v20 0 h0) (fun v22 h21 => ?_)
    exact zg_iretK d_X7_count_152 rfl ⟨Nat.le_of_ble_eq_true rfl, Nat.le_of_ble_eq_true rfl⟩ (fun q => q)
  refine zg_if (fun n48 => ?_) (fun n48 => ?_)
  · refine zg_tabE n48 d_X7_count_1 (by decide) (by decide) (off := 152) rfl (tgt := 153) (by decide) ?_
    refine zg_aload_n 0 rfl d_X7_count_153 ?_
    refine zg_getR d_X7_count_154 zc_7 (by decide) fl_X7_38 (fun v23 => ?_)
    refine zg_iconst 2 rfl d_X7_count_157 ?_
    refine zg_cVi (b := v23) (As := [.int 2]) (rest := []) (0, 0) d_X7_count_158 zc_5 rfl cw_X7_235 wi_X5_howManyAre ws_X5_howManyAre rfl rfl (Nat.le_of_ble_eq_true rfl) (by decide) (by decide) ⟨by decide, by decide⟩ rfl (t_X5_howManyAre v23 2 h0) (fun v25 h24 => ?_)
    exact zg_iretK d_X7_count_161 rfl ⟨Nat.le_of_ble_eq_true rfl, Nat.le_of_ble_eq_true rfl⟩ (fun q => q)
  refine zg_if (fun n49 => ?_) (fun n49 => ?_)
  · refine zg_tabE n49 d_X7_count_1 (by decide) (by decide) (off := 161) rfl (tgt := 162) (by decide) ?_
    refine zg_aload_n 0 rfl d_X7_count_162 ?_
    refine zg_getR d_X7_count_163 zc_7 (by decide) fl_X7_38 (fun v26 => ?_)
    refine zg_cVi (b := v26) (As := []) (rest := []) (0, 0) d_X7_count_166 zc_5 rfl cw_X7_232 wi_X5_rainInAll ws_X5_rainInAll rfl rfl (Nat.le_of_ble_eq_true rfl) (by decide) (by decide) ⟨by decide, by decide⟩ rfl (t_X5_rainInAll v26 h0) (fun v28 h27 => ?_)
    exact zg_iretK d_X7_count_169 rfl ⟨Nat.le_of_ble_eq_true rfl, Nat.le_of_ble_eq_true rfl⟩ (fun q => q)
  refine zg_if (fun n50 => ?_) (fun n50 => ?_)
  · refine zg_tabE n50 d_X7_count_1 (by decide) (by decide) (off := 169) rfl (tgt := 170) (by decide) ?_
    refine zg_aload_n 0 rfl d_X7_count_170 ?_
    refine zg_getR d_X7_count_171 zc_7 (by decide) fl_X7_38 (fun v29 => ?_)
    refine zg_cVi (b := v29) (As := []) (rest := []) (0, 0) d_X7_count_174 zc_5 rfl cw_X7_238 wi_X5_marksInAll ws_X5_marksInAll rfl rfl (Nat.le_of_ble_eq_true rfl) (by decide) (by decide) ⟨by decide, by decide⟩ rfl (t_X5_marksInAll v29 h0) (fun v31 h30 => ?_)
    exact zg_iretK d_X7_count_177 rfl ⟨Nat.le_of_ble_eq_true rfl, Nat.le_of_ble_eq_true rfl⟩ (fun q => q)
  refine zg_if (fun n51 => ?_) (fun n51 => ?_)
  · refine zg_tabE n51 d_X7_count_1 (by decide) (by decide) (off := 177) rfl (tgt := 178) (by decide) ?_
    refine zg_aload_n 0 rfl d_X7_count_178 ?_
    refine zg_getR d_X7_count_179 zc_7 (by decide) fl_X7_59 (fun v32 => ?_)
    refine zg_getI d_X7_count_182 zc_3 (by decide) fl_X7_299 (fun v33 => ?_)
    exact zg_iretK d_X7_count_185 rfl ⟨Nat.le_of_ble_eq_true rfl, Nat.le_of_ble_eq_true rfl⟩ (fun q => q)
  refine zg_if (fun n52 => ?_) (fun n52 => ?_)
  · refine zg_tabE n52 d_X7_count_1 (by decide) (by decide) (off := 185) rfl (tgt := 186) (by decide) ?_
    refine zg_aload_n 0 rfl d_X7_count_186 ?_
    refine zg_getR d_X7_count_187 zc_7 (by decide) fl_X7_59 (fun v34 => ?_)
    refine zg_cVi (b := v34) (As := []) (rest := []) (0, 0) d_X7_count_190 zc_3 rfl cw_X7_343 wi_X3_readable ws_X3_readable rfl rfl (Nat.le_of_ble_eq_true rfl) (by decide) (by decide) ⟨by decide, by decide⟩ rfl (t_X3_readable v34 h0) (fun v36 h35 => ?_)
    exact zg_iretK d_X7_count_193 rfl ⟨Nat.le_of_ble_eq_true rfl, Nat.le_of_ble_eq_true rfl⟩ (fun q => q)
  refine zg_if (fun n53 => ?_) (fun n53 => ?_)
  · refine zg_tabE n53 d_X7_count_1 (by decide) (by decide) (off := 193) rfl (tgt := 194) (by decide) ?_
    refine zg_aload_n 0 rfl d_X7_count_194 ?_
    refine zg_getR d_X7_count_195 zc_7 (by decide) fl_X7_52 (fun v37 => ?_)
    refine zg_getI d_X7_count_198 zc_0 (by decide) fl_X7_321 (fun v38 => ?_)
    exact zg_iretK d_X7_count_201 rfl ⟨Nat.le_of_ble_eq_true rfl, Nat.le_of_ble_eq_true rfl⟩ (fun q => q)
  refine zg_tabO d_X7_count_1 (by have q0 := lv_neT n39 (a := 0) rfl; have q1 := lv_neT n40 (a := 1) rfl; have q2 := lv_neT n41 (a := 2) rfl; have q3 := lv_neT n42 (a := 3) rfl; have q4 := lv_neT n43 (a := 4) rfl; have q5 := lv_neT n44 (a := 5) rfl; have q6 := lv_neT n45 (a := 6) rfl; have q7 := lv_neT n46 (a := 7) rfl; have q8 := lv_neT n47 (a := 8) rfl; have q9 := lv_neT n48 (a := 9) rfl; have q10 := lv_neT n49 (a := 10) rfl; have q11 := lv_neT n50 (a := 11) rfl; have q12 := lv_neT n51 (a := 12) rfl; have q13 := lv_neT n52 (a := 13) rfl; have q14 := lv_neT n53 (a := 14) rfl; omega) (tgt := 202) (by decide) ?_
  refine zg_iconst (-1) rfl d_X7_count_202 ?_
  exact zg_iretK d_X7_count_203 rfl ⟨Nat.le_of_ble_eq_true rfl, Nat.le_of_ble_eq_true rfl⟩ (fun q => q)
abbrev M_X7_enough : zMt := (RX7, cX7_enough, 2, 7, 206, (some .int), "enough", 0, 0)
theorem d_X7_enough_0 : zDc M_X7_enough 0 (.aload_n 0) 1 1 := ⟨by decide +kernel, rfl⟩
theorem d_X7_enough_1 : zDc M_X7_enough 1 (.iload_n 1) 1 2 := ⟨by decide +kernel, rfl⟩
theorem d_X7_enough_2 : zDc M_X7_enough 2 (.invokevirtual 168) 3 5 := ⟨by decide +kernel, rfl⟩
theorem d_X7_enough_5 : zDj M_X7_enough 5 (.ifCond .eq 18) 18 8 23 := ⟨by decide +kernel, rfl, by decide⟩
theorem d_X7_enough_8 : zDc M_X7_enough 8 (.aload_n 0) 1 9 := ⟨by decide +kernel, rfl⟩
theorem d_X7_enough_9 : zDc M_X7_enough 9 (.getfield 66) 3 12 := ⟨by decide +kernel, rfl⟩
theorem d_X7_enough_12 : zDc M_X7_enough 12 (.aload_n 0) 1 13 := ⟨by decide +kernel, rfl⟩
theorem d_X7_enough_13 : zDc M_X7_enough 13 (.getfield 38) 3 16 := ⟨by decide +kernel, rfl⟩
theorem d_X7_enough_16 : zDc M_X7_enough 16 (.iload_n 1) 1 17 := ⟨by decide +kernel, rfl⟩
theorem d_X7_enough_17 : zDc M_X7_enough 17 (.invokevirtual 264) 3 20 := ⟨by decide +kernel, rfl⟩
theorem d_X7_enough_20 : zDj M_X7_enough 20 (.goto 4) 4 23 24 := ⟨by decide +kernel, rfl, by decide⟩
theorem d_X7_enough_23 : zDc M_X7_enough 23 (.iconst (-1)) 1 24 := ⟨by decide +kernel, rfl⟩
theorem d_X7_enough_24 : zDc M_X7_enough 24 (.ireturn) 1 25 := ⟨by decide +kernel, rfl⟩
def f_X7_enough (a0 : Nat) (a1 : Int32) (h0 : zHp) : Option (Int32 × zHp) :=
  zbd (zcv 7 a0 h0 (f_X7_isField a0 a1 h0)) (fun v2 h1 =>
  if v2 = 0 then
  some ((-1), h1)
  else
  zob (zgR h1 a0 7 9) (fun v3 =>
  zob (zgR h1 a0 7 4) (fun v4 =>
  zbd (zcv 1 v3 h1 (f_X1_hoursUntilEnough v3 v4 a1 h1)) (fun v6 h5 =>
  some (v6, h5)))))
set_option maxRecDepth 100000 in
set_option maxHeartbeats 4000000 in
theorem t_X7_enough (a0 : Nat) (a1 : Int32) (h0 : zHp) : ∀ (r : Int32) (h' : zHp), f_X7_enough a0 a1 h0 = some (r, h') → zCt yX7_enough (.code yX7_enough cX7_enough 2 (some .int)) 7 206 0 0 [.ref a0, .int a1] h0 (some (.int r)) h' := by
  refine zct_of M_X7_enough yX7_enough (by decide) rfl rfl [.ref a0, .int a1] h0 (Nat.le_of_ble_eq_true rfl) (fun r => some (.int r)) (fun X => ?_)
  show zG X M_X7_enough (0, 0) 0 [(0, .ref a0), (1, .int a1)] [] h0 (f_X7_enough a0 a1 h0) (fun (r : Int32) h' => zKe X (some (.int r)) h')
  unfold f_X7_enough
  refine zg_aload_n 0 rfl d_X7_enough_0 ?_
  refine zg_iload_n 1 rfl d_X7_enough_1 ?_
  refine zg_cVi (b := a0) (As := [.int a1]) (rest := []) (0, 0) d_X7_enough_2 zc_7 rfl cw_X7_168 wi_X7_isField ws_X7_isField rfl rfl (Nat.le_of_ble_eq_true rfl) (by decide) (by decide) ⟨by decide, by decide⟩ rfl (t_X7_isField a0 a1 h0) (fun v2 h1 => ?_)
  refine zg_if_eq d_X7_enough_5 ?_ ?_
  · refine zg_iconst (-1) rfl d_X7_enough_23 ?_
    exact zg_iretK d_X7_enough_24 rfl ⟨Nat.le_of_ble_eq_true rfl, Nat.le_of_ble_eq_true rfl⟩ (fun q => q)
  · refine zg_aload_n 0 rfl d_X7_enough_8 ?_
    refine zg_getR d_X7_enough_9 zc_7 (by decide) fl_X7_66 (fun v3 => ?_)
    refine zg_aload_n 0 rfl d_X7_enough_12 ?_
    refine zg_getR d_X7_enough_13 zc_7 (by decide) fl_X7_38 (fun v4 => ?_)
    refine zg_iload_n 1 rfl d_X7_enough_16 ?_
    refine zg_cVi (b := v3) (As := [.ref v4, .int a1]) (rest := []) (0, 0) d_X7_enough_17 zc_1 rfl cw_X7_264 wi_X1_hoursUntilEnough ws_X1_hoursUntilEnough rfl rfl (Nat.le_of_ble_eq_true rfl) (by decide) (by decide) ⟨by decide, by decide⟩ rfl (t_X1_hoursUntilEnough v3 v4 a1 h1) (fun v6 h5 => ?_)
    refine zg_goto d_X7_enough_20 ?_
    exact zg_iretK d_X7_enough_24 rfl ⟨Nat.le_of_ble_eq_true rfl, Nat.le_of_ble_eq_true rfl⟩ (fun q => q)
abbrev M_X7_fault : zMt := (RX7, cX7_fault, 2, 1, 60, (some .int), "fault", 0, 0)
theorem d_X7_fault_0 : zDc M_X7_fault 0 (.iload_n 1) 1 1 := ⟨by decide +kernel, rfl⟩
theorem d_X7_fault_1 : zDj M_X7_fault 1 (.ifCond .ne 11) 11 4 12 := ⟨by decide +kernel, rfl, by decide⟩
theorem d_X7_fault_4 : zDc M_X7_fault 4 (.aload_n 0) 1 5 := ⟨by decide +kernel, rfl⟩
theorem d_X7_fault_5 : zDc M_X7_fault 5 (.getfield 22) 3 8 := ⟨by decide +kernel, rfl⟩
theorem d_X7_fault_8 : zDc M_X7_fault 8 (.getfield 89) 3 11 := ⟨by decide +kernel, rfl⟩
theorem d_X7_fault_11 : zDc M_X7_fault 11 (.ireturn) 1 12 := ⟨by decide +kernel, rfl⟩
theorem d_X7_fault_12 : zDc M_X7_fault 12 (.iload_n 1) 1 13 := ⟨by decide +kernel, rfl⟩
theorem d_X7_fault_13 : zDc M_X7_fault 13 (.iconst 1) 1 14 := ⟨by decide +kernel, rfl⟩
theorem d_X7_fault_14 : zDj M_X7_fault 14 (.if_icmp .ne 13) 13 17 27 := ⟨by decide +kernel, rfl, by decide⟩
theorem d_X7_fault_17 : zDc M_X7_fault 17 (.aload_n 0) 1 18 := ⟨by decide +kernel, rfl⟩
theorem d_X7_fault_18 : zDc M_X7_fault 18 (.getfield 22) 3 21 := ⟨by decide +kernel, rfl⟩
theorem d_X7_fault_21 : zDc M_X7_fault 21 (.getfield 92) 3 24 := ⟨by decide +kernel, rfl⟩
theorem d_X7_fault_24 : zDj M_X7_fault 24 (.goto 4) 4 27 28 := ⟨by decide +kernel, rfl, by decide⟩
theorem d_X7_fault_27 : zDc M_X7_fault 27 (.iconst (-1)) 1 28 := ⟨by decide +kernel, rfl⟩
theorem d_X7_fault_28 : zDc M_X7_fault 28 (.ireturn) 1 29 := ⟨by decide +kernel, rfl⟩
def f_X7_fault (a0 : Nat) (a1 : Int32) (h0 : zHp) : Option (Int32 × zHp) :=
  if a1 = 0 then
  zob (zgR h0 a0 7 2) (fun v1 =>
  zob (zgI h0 v1 4 14) (fun v2 =>
  some (v2, h0)))
  else
  if a1 = 1 then
  zob (zgR h0 a0 7 2) (fun v3 =>
  zob (zgI h0 v3 4 15) (fun v4 =>
  some (v4, h0)))
  else
  some ((-1), h0)
set_option maxRecDepth 100000 in
set_option maxHeartbeats 4000000 in
theorem t_X7_fault (a0 : Nat) (a1 : Int32) (h0 : zHp) : ∀ (r : Int32) (h' : zHp), f_X7_fault a0 a1 h0 = some (r, h') → zCt yX7_fault (.code yX7_fault cX7_fault 2 (some .int)) 1 60 0 0 [.ref a0, .int a1] h0 (some (.int r)) h' := by
  refine zct_of M_X7_fault yX7_fault (by decide) rfl rfl [.ref a0, .int a1] h0 (Nat.le_of_ble_eq_true rfl) (fun r => some (.int r)) (fun X => ?_)
  show zG X M_X7_fault (0, 0) 0 [(0, .ref a0), (1, .int a1)] [] h0 (f_X7_fault a0 a1 h0) (fun (r : Int32) h' => zKe X (some (.int r)) h')
  unfold f_X7_fault
  refine zg_iload_n 1 rfl d_X7_fault_0 ?_
  refine zg_if_ne d_X7_fault_1 ?_ ?_
  · refine zg_aload_n 0 rfl d_X7_fault_4 ?_
    refine zg_getR d_X7_fault_5 zc_7 (by decide) fl_X7_22 (fun v1 => ?_)
    refine zg_getI d_X7_fault_8 zc_4 (by decide) fl_X7_89 (fun v2 => ?_)
    exact zg_iretK d_X7_fault_11 rfl ⟨Nat.le_of_ble_eq_true rfl, Nat.le_of_ble_eq_true rfl⟩ (fun q => q)
  · refine zg_iload_n 1 rfl d_X7_fault_12 ?_
    refine zg_iconst 1 rfl d_X7_fault_13 ?_
    refine zg_icmp_ne d_X7_fault_14 ?_ ?_
    · refine zg_aload_n 0 rfl d_X7_fault_17 ?_
      refine zg_getR d_X7_fault_18 zc_7 (by decide) fl_X7_22 (fun v3 => ?_)
      refine zg_getI d_X7_fault_21 zc_4 (by decide) fl_X7_92 (fun v4 => ?_)
      refine zg_goto d_X7_fault_24 ?_
      exact zg_iretK d_X7_fault_28 rfl ⟨Nat.le_of_ble_eq_true rfl, Nat.le_of_ble_eq_true rfl⟩ (fun q => q)
    · refine zg_iconst (-1) rfl d_X7_fault_27 ?_
      exact zg_iretK d_X7_fault_28 rfl ⟨Nat.le_of_ble_eq_true rfl, Nat.le_of_ble_eq_true rfl⟩ (fun q => q)
abbrev M_X7_putFour : zMt := (RX7, cX7_putFour, 3, 1, 60, none, "putFour", 0, 0)
theorem d_X7_putFour_0 : zDc M_X7_putFour 0 (.bipush 24) 2 2 := ⟨by decide +kernel, rfl⟩
theorem d_X7_putFour_2 : zDc M_X7_putFour 2 (.istore_n 2) 1 3 := ⟨by decide +kernel, rfl⟩
theorem d_X7_putFour_3 : zDc M_X7_putFour 3 (.iload_n 2) 1 4 := ⟨by decide +kernel, rfl⟩
theorem d_X7_putFour_4 : zDj M_X7_putFour 4 (.ifCond .lt 42) 42 7 46 := ⟨by decide +kernel, rfl, by decide⟩
theorem d_X7_putFour_7 : zDc M_X7_putFour 7 (.aload_n 0) 1 8 := ⟨by decide +kernel, rfl⟩
theorem d_X7_putFour_8 : zDc M_X7_putFour 8 (.getfield 15) 3 11 := ⟨by decide +kernel, rfl⟩
theorem d_X7_putFour_11 : zDc M_X7_putFour 11 (.sipush 700) 3 14 := ⟨by decide +kernel, rfl⟩
theorem d_X7_putFour_14 : zDj M_X7_putFour 14 (.if_icmp .ge 32) 32 17 46 := ⟨by decide +kernel, rfl, by decide⟩
theorem d_X7_putFour_17 : zDc M_X7_putFour 17 (.aload_n 0) 1 18 := ⟨by decide +kernel, rfl⟩
theorem d_X7_putFour_18 : zDc M_X7_putFour 18 (.getfield 11) 3 21 := ⟨by decide +kernel, rfl⟩
theorem d_X7_putFour_21 : zDc M_X7_putFour 21 (.aload_n 0) 1 22 := ⟨by decide +kernel, rfl⟩
theorem d_X7_putFour_22 : zDc M_X7_putFour 22 (.getfield 15) 3 25 := ⟨by decide +kernel, rfl⟩
theorem d_X7_putFour_25 : zDc M_X7_putFour 25 (.iload_n 1) 1 26 := ⟨by decide +kernel, rfl⟩
theorem d_X7_putFour_26 : zDc M_X7_putFour 26 (.iload_n 2) 1 27 := ⟨by decide +kernel, rfl⟩
theorem d_X7_putFour_27 : zDc M_X7_putFour 27 (.ishr) 1 28 := ⟨by decide +kernel, rfl⟩
theorem d_X7_putFour_28 : zDc M_X7_putFour 28 (.i2b) 1 29 := ⟨by decide +kernel, rfl⟩
theorem d_X7_putFour_29 : zDc M_X7_putFour 29 (.bastore) 1 30 := ⟨by decide +kernel, rfl⟩
theorem d_X7_putFour_30 : zDc M_X7_putFour 30 (.aload_n 0) 1 31 := ⟨by decide +kernel, rfl⟩
theorem d_X7_putFour_31 : zDc M_X7_putFour 31 (.dup) 1 32 := ⟨by decide +kernel, rfl⟩
theorem d_X7_putFour_32 : zDc M_X7_putFour 32 (.getfield 15) 3 35 := ⟨by decide +kernel, rfl⟩
theorem d_X7_putFour_35 : zDc M_X7_putFour 35 (.iconst 1) 1 36 := ⟨by decide +kernel, rfl⟩
theorem d_X7_putFour_36 : zDc M_X7_putFour 36 (.iadd) 1 37 := ⟨by decide +kernel, rfl⟩
theorem d_X7_putFour_37 : zDc M_X7_putFour 37 (.putfield 15) 3 40 := ⟨by decide +kernel, rfl⟩
theorem d_X7_putFour_40 : zDc M_X7_putFour 40 (.iinc 2 (-8)) 3 43 := ⟨by decide +kernel, rfl⟩
theorem d_X7_putFour_43 : zDj M_X7_putFour 43 (.goto (-40)) (-40) 46 3 := ⟨by decide +kernel, rfl, by decide⟩
theorem d_X7_putFour_46 : zDc M_X7_putFour 46 (.return_) 1 47 := ⟨by decide +kernel, rfl⟩
def f_X7_putFour (a0 : Nat) (a1 : Int32) (h0 : zHp) : Option (Unit × zHp) :=
  zbd (
  zlp (σ := Int32) (β := Int32) zLF (fun s1 h2 =>
  if s1 < 0 then
  some ((.inr s1), h2)
  else
  zob (zgI h2 a0 7 1) (fun v5 =>
  if 700 ≤ v5 then
  some ((.inr s1), h2)
  else
  zob (zgR h2 a0 7 0) (fun v6 =>
  zob (zgI h2 a0 7 1) (fun v7 =>
  zob (zsI 1 h2 v6 v7 (Int8.toInt32 (Int32.toInt8 (a1 >>> (s1 &&& 31))))) (fun h8 =>
  zob (zgI h8 a0 7 1) (fun v9 =>
  zob (zpV h8 a0 7 1 (.int (v9 + 1))) (fun h10 =>
  some ((.inl (s1 + (-8))), h10)))))))) 24 h0) (fun e3 h4 =>
  some ((), h4))
set_option maxRecDepth 100000 in
set_option maxHeartbeats 4000000 in
theorem t_X7_putFour (a0 : Nat) (a1 : Int32) (h0 : zHp) : ∀ (r : Unit) (h' : zHp), f_X7_putFour a0 a1 h0 = some (r, h') → zCt yX7_putFour (.code yX7_putFour cX7_putFour 3 none) 1 60 0 0 [.ref a0, .int a1] h0 (none) h' := by
  refine zct_of M_X7_putFour yX7_putFour (by decide) rfl rfl [.ref a0, .int a1] h0 (Nat.le_of_ble_eq_true rfl) (fun _ => none) (fun X => ?_)
  show zG X M_X7_putFour (0, 0) 0 [(0, .ref a0), (1, .int a1)] [] h0 (f_X7_putFour a0 a1 h0) (fun (_ : Unit) h' => zKe X (none) h')
  unfold f_X7_putFour
  refine zg_bipush 24 rfl d_X7_putFour_0 ?_
  refine zg_istore_n [(2, .int 24), (0, .ref a0), (1, .int a1)] d_X7_putFour_2 rfl (by decide) rfl ?_
  refine zg_bd (E := 46) (el := (fun (e3 : Int32) => [(0, .ref a0), (1, .int a1), (2, .int e3)])) (es := fun _ => []) (zg_sub [1, 2, 0] rfl (zg_lp (el := (fun (s1 : Int32) => [(0, .ref a0), (1, .int a1), (2, .int s1)])) (fun s1 h2 => ?_) 24 h0)) (fun e3 h4 => ?_)
  · refine zg_iload_n 2 rfl d_X7_putFour_3 ?_
    refine zg_if_lt d_X7_putFour_4 ?_ ?_
    · exact zg_finK (E := 0) [0, 1, 2] rfl rfl (fun q => q)
    · refine zg_aload_n 0 rfl d_X7_putFour_7 ?_
      refine zg_getI d_X7_putFour_8 zc_7 (by decide) fl_X7_15 (fun v5 => ?_)
      refine zg_sipush 700 rfl d_X7_putFour_11 ?_
      refine zg_icmp_ge d_X7_putFour_14 ?_ ?_
      · exact zg_finK (E := 0) [0, 1, 2] rfl rfl (fun q => q)
      · refine zg_aload_n 0 rfl d_X7_putFour_17 ?_
        refine zg_getR d_X7_putFour_18 zc_7 (by decide) fl_X7_11 (fun v6 => ?_)
        refine zg_aload_n 0 rfl d_X7_putFour_21 ?_
        refine zg_getI d_X7_putFour_22 zc_7 (by decide) fl_X7_15 (fun v7 => ?_)
        refine zg_iload_n 1 rfl d_X7_putFour_25 ?_
        refine zg_iload_n 2 rfl d_X7_putFour_26 ?_
        refine zg_ishr d_X7_putFour_27 ?_
        refine zg_i2b d_X7_putFour_28 ?_
        refine zg_ast1 d_X7_putFour_29 (fun h8 => ?_)
        refine zg_aload_n 0 rfl d_X7_putFour_30 ?_
        refine zg_dup rfl d_X7_putFour_31 ?_
        refine zg_getI d_X7_putFour_32 zc_7 (by decide) fl_X7_15 (fun v9 => ?_)
        refine zg_iconst 1 rfl d_X7_putFour_35 ?_
        refine zg_iadd d_X7_putFour_36 ?_
        refine zg_putV d_X7_putFour_37 zc_7 (by decide) fl_X7_15 rfl rfl rfl (fun h10 => ?_)
        refine zg_iinc 2 (s1 + (-8)) [(2, .int (s1 + (-8))), (0, .ref a0), (1, .int a1)] d_X7_putFour_40 rfl rfl (by decide) rfl ?_
        refine zg_goto d_X7_putFour_43 ?_
        exact zg_finK (E := 0) [1, 2, 0] rfl rfl (fun q => q)
  · exact zg_vretK d_X7_putFour_46 rfl ⟨Nat.le_of_ble_eq_true rfl, Nat.le_of_ble_eq_true rfl⟩ (fun q => q)
abbrev M_X7_feed : zMt := (RX7, cX7_feed, 6, 2, 82, (some .int), "feed", 0, 0)
theorem d_X7_feed_0 : zDc M_X7_feed 0 (.aload_n 0) 1 1 := ⟨by decide +kernel, rfl⟩
theorem d_X7_feed_1 : zDc M_X7_feed 1 (.getfield 15) 3 4 := ⟨by decide +kernel, rfl⟩
theorem d_X7_feed_4 : zDc M_X7_feed 4 (.bipush 20) 2 6 := ⟨by decide +kernel, rfl⟩
theorem d_X7_feed_6 : zDc M_X7_feed 6 (.iadd) 1 7 := ⟨by decide +kernel, rfl⟩
theorem d_X7_feed_7 : zDc M_X7_feed 7 (.sipush 700) 3 10 := ⟨by decide +kernel, rfl⟩
theorem d_X7_feed_10 : zDj M_X7_feed 10 (.if_icmp .le 5) 5 13 15 := ⟨by decide +kernel, rfl, by decide⟩
theorem d_X7_feed_13 : zDc M_X7_feed 13 (.iconst (-1)) 1 14 := ⟨by decide +kernel, rfl⟩
theorem d_X7_feed_14 : zDc M_X7_feed 14 (.ireturn) 1 15 := ⟨by decide +kernel, rfl⟩
theorem d_X7_feed_15 : zDc M_X7_feed 15 (.aload_n 0) 1 16 := ⟨by decide +kernel, rfl⟩
theorem d_X7_feed_16 : zDc M_X7_feed 16 (.iload_n 1) 1 17 := ⟨by decide +kernel, rfl⟩
theorem d_X7_feed_17 : zDc M_X7_feed 17 (.invokevirtual 70) 3 20 := ⟨by decide +kernel, rfl⟩
theorem d_X7_feed_20 : zDc M_X7_feed 20 (.aload_n 0) 1 21 := ⟨by decide +kernel, rfl⟩
theorem d_X7_feed_21 : zDc M_X7_feed 21 (.iload_n 2) 1 22 := ⟨by decide +kernel, rfl⟩
theorem d_X7_feed_22 : zDc M_X7_feed 22 (.invokevirtual 70) 3 25 := ⟨by decide +kernel, rfl⟩
theorem d_X7_feed_25 : zDc M_X7_feed 25 (.aload_n 0) 1 26 := ⟨by decide +kernel, rfl⟩
theorem d_X7_feed_26 : zDc M_X7_feed 26 (.iload_n 3) 1 27 := ⟨by decide +kernel, rfl⟩
theorem d_X7_feed_27 : zDc M_X7_feed 27 (.invokevirtual 70) 3 30 := ⟨by decide +kernel, rfl⟩
theorem d_X7_feed_30 : zDc M_X7_feed 30 (.aload_n 0) 1 31 := ⟨by decide +kernel, rfl⟩
theorem d_X7_feed_31 : zDc M_X7_feed 31 (.iload 4) 2 33 := ⟨by decide +kernel, rfl⟩
theorem d_X7_feed_33 : zDc M_X7_feed 33 (.invokevirtual 70) 3 36 := ⟨by decide +kernel, rfl⟩
theorem d_X7_feed_36 : zDc M_X7_feed 36 (.aload_n 0) 1 37 := ⟨by decide +kernel, rfl⟩
theorem d_X7_feed_37 : zDc M_X7_feed 37 (.iload 5) 2 39 := ⟨by decide +kernel, rfl⟩
theorem d_X7_feed_39 : zDc M_X7_feed 39 (.invokevirtual 70) 3 42 := ⟨by decide +kernel, rfl⟩
theorem d_X7_feed_42 : zDc M_X7_feed 42 (.aload_n 0) 1 43 := ⟨by decide +kernel, rfl⟩
theorem d_X7_feed_43 : zDc M_X7_feed 43 (.getfield 15) 3 46 := ⟨by decide +kernel, rfl⟩
theorem d_X7_feed_46 : zDc M_X7_feed 46 (.ireturn) 1 47 := ⟨by decide +kernel, rfl⟩
def f_X7_feed (a0 : Nat) (a1 : Int32) (a2 : Int32) (a3 : Int32) (a4 : Int32) (a5 : Int32) (h0 : zHp) : Option (Int32 × zHp) :=
  zob (zgI h0 a0 7 1) (fun v1 =>
  if (v1 + 20) ≤ 700 then
  zbd (zcv 7 a0 h0 (f_X7_putFour a0 a1 h0)) (fun v3 h2 =>
  zbd (zcv 7 a0 h2 (f_X7_putFour a0 a2 h2)) (fun v5 h4 =>
  zbd (zcv 7 a0 h4 (f_X7_putFour a0 a3 h4)) (fun v7 h6 =>
  zbd (zcv 7 a0 h6 (f_X7_putFour a0 a4 h6)) (fun v9 h8 =>
  zbd (zcv 7 a0 h8 (f_X7_putFour a0 a5 h8)) (fun v11 h10 =>
  zob (zgI h10 a0 7 1) (fun v12 =>
  some (v12, h10)))))))
  else
  some ((-1), h0))
set_option maxRecDepth 100000 in
set_option maxHeartbeats 4000000 in
theorem t_X7_feed (a0 : Nat) (a1 : Int32) (a2 : Int32) (a3 : Int32) (a4 : Int32) (a5 : Int32) (h0 : zHp) : ∀ (r : Int32) (h' : zHp), f_X7_feed a0 a1 a2 a3 a4 a5 h0 = some (r, h') → zCt yX7_feed (.code yX7_feed cX7_feed 6 (some .int)) 2 82 0 0 [.ref a0, .int a1, .int a2, .int a3, .int a4, .int a5] h0 (some (.int r)) h' := by
  refine zct_of M_X7_feed yX7_feed (by decide) rfl rfl [.ref a0, .int a1, .int a2, .int a3, .int a4, .int a5] h0 (Nat.le_of_ble_eq_true rfl) (fun r => some (.int r)) (fun X => ?_)
  show zG X M_X7_feed (0, 0) 0 [(0, .ref a0), (1, .int a1), (2, .int a2), (3, .int a3), (4, .int a4), (5, .int a5)] [] h0 (f_X7_feed a0 a1 a2 a3 a4 a5 h0) (fun (r : Int32) h' => zKe X (some (.int r)) h')
  unfold f_X7_feed
  refine zg_aload_n 0 rfl d_X7_feed_0 ?_
  refine zg_getI d_X7_feed_1 zc_7 (by decide) fl_X7_15 (fun v1 => ?_)
  refine zg_bipush 20 rfl d_X7_feed_4 ?_
  refine zg_iadd d_X7_feed_6 ?_
  refine zg_sipush 700 rfl d_X7_feed_7 ?_
  refine zg_icmp_le d_X7_feed_10 ?_ ?_
  · refine zg_aload_n 0 rfl d_X7_feed_15 ?_
    refine zg_iload_n 1 rfl d_X7_feed_16 ?_
    refine zg_cVv (b := a0) (As := [.int a1]) (rest := []) (0, 0) d_X7_feed_17 zc_7 rfl cw_X7_70 wi_X7_putFour ws_X7_putFour rfl rfl (Nat.le_of_ble_eq_true rfl) (by decide) (by decide) ⟨by decide, by decide⟩ rfl (t_X7_putFour a0 a1 h0) (fun v3 h2 => ?_)
    refine zg_aload_n 0 rfl d_X7_feed_20 ?_
    refine zg_iload_n 2 rfl d_X7_feed_21 ?_
    refine zg_cVv (b := a0) (As := [.int a2]) (rest := []) (0, 0) d_X7_feed_22 zc_7 rfl cw_X7_70 wi_X7_putFour ws_X7_putFour rfl rfl (Nat.le_of_ble_eq_true rfl) (by decide) (by decide) ⟨by decide, by decide⟩ rfl (t_X7_putFour a0 a2 h2) (fun v5 h4 => ?_)
    refine zg_aload_n 0 rfl d_X7_feed_25 ?_
    refine zg_iload_n 3 rfl d_X7_feed_26 ?_
    refine zg_cVv (b := a0) (As := [.int a3]) (rest := []) (0, 0) d_X7_feed_27 zc_7 rfl cw_X7_70 wi_X7_putFour ws_X7_putFour rfl rfl (Nat.le_of_ble_eq_true rfl) (by decide) (by decide) ⟨by decide, by decide⟩ rfl (t_X7_putFour a0 a3 h4) (fun v7 h6 => ?_)
    refine zg_aload_n 0 rfl d_X7_feed_30 ?_
    refine zg_iload 4 rfl d_X7_feed_31 ?_
    refine zg_cVv (b := a0) (As := [.int a4]) (rest := []) (0, 0) d_X7_feed_33 zc_7 rfl cw_X7_70 wi_X7_putFour ws_X7_putFour rfl rfl (Nat.le_of_ble_eq_true rfl) (by decide) (by decide) ⟨by decide, by decide⟩ rfl (t_X7_putFour a0 a4 h6) (fun v9 h8 => ?_)
    refine zg_aload_n 0 rfl d_X7_feed_36 ?_
    refine zg_iload 5 rfl d_X7_feed_37 ?_
    refine zg_cVv (b := a0) (As := [.int a5]) (rest := []) (0, 0) d_X7_feed_39 zc_7 rfl cw_X7_70 wi_X7_putFour ws_X7_putFour rfl rfl (Nat.le_of_ble_eq_true rfl) (by decide) (by decide) ⟨by decide, by decide⟩ rfl (t_X7_putFour a0 a5 h8) (fun v11 h10 => ?_)
    refine zg_aload_n 0 rfl d_X7_feed_42 ?_
    refine zg_getI d_X7_feed_43 zc_7 (by decide) fl_X7_15 (fun v12 => ?_)
    exact zg_iretK d_X7_feed_46 rfl ⟨Nat.le_of_ble_eq_true rfl, Nat.le_of_ble_eq_true rfl⟩ (fun q => q)
  · refine zg_iconst (-1) rfl d_X7_feed_13 ?_
    exact zg_iretK d_X7_feed_14 rfl ⟨Nat.le_of_ble_eq_true rfl, Nat.le_of_ble_eq_true rfl⟩ (fun q => q)
abbrev M_X7_field : zMt := (RX7, cX7_field, 3, 2, 81, (some .int), "field", 0, 0)
theorem d_X7_field_0 : zDc M_X7_field 0 (.aload_n 0) 1 1 := ⟨by decide +kernel, rfl⟩
theorem d_X7_field_1 : zDc M_X7_field 1 (.iload_n 1) 1 2 := ⟨by decide +kernel, rfl⟩
theorem d_X7_field_2 : zDc M_X7_field 2 (.invokevirtual 168) 3 5 := ⟨by decide +kernel, rfl⟩
theorem d_X7_field_5 : zDj M_X7_field 5 (.ifCond .ne 5) 5 8 10 := ⟨by decide +kernel, rfl, by decide⟩
theorem d_X7_field_8 : zDc M_X7_field 8 (.iconst (-1)) 1 9 := ⟨by decide +kernel, rfl⟩
theorem d_X7_field_9 : zDc M_X7_field 9 (.ireturn) 1 10 := ⟨by decide +kernel, rfl⟩
theorem d_X7_field_10 : zDc M_X7_field 10 (.iload_n 2) 1 11 := ⟨by decide +kernel, rfl⟩
theorem d_X7_field_11 : decode M_X7_field.2.1 11 = .ok (.tableswitch 75 0 3 #[29, 42, 55, 65], 29) := by decide +kernel
theorem d_X7_field_40 : zDc M_X7_field 40 (.aload_n 0) 1 41 := ⟨by decide +kernel, rfl⟩
theorem d_X7_field_41 : zDc M_X7_field 41 (.getfield 29) 3 44 := ⟨by decide +kernel, rfl⟩
theorem d_X7_field_44 : zDc M_X7_field 44 (.getfield 171) 3 47 := ⟨by decide +kernel, rfl⟩
theorem d_X7_field_47 : zDc M_X7_field 47 (.iload_n 1) 1 48 := ⟨by decide +kernel, rfl⟩
theorem d_X7_field_48 : zDc M_X7_field 48 (.iaload) 1 49 := ⟨by decide +kernel, rfl⟩
theorem d_X7_field_49 : zDc M_X7_field 49 (.bipush 6) 2 51 := ⟨by decide +kernel, rfl⟩
theorem d_X7_field_51 : zDc M_X7_field 51 (.irem) 1 52 := ⟨by decide +kernel, rfl⟩
theorem d_X7_field_52 : zDc M_X7_field 52 (.ireturn) 1 53 := ⟨by decide +kernel, rfl⟩
theorem d_X7_field_53 : zDc M_X7_field 53 (.aload_n 0) 1 54 := ⟨by decide +kernel, rfl⟩
theorem d_X7_field_54 : zDc M_X7_field 54 (.getfield 29) 3 57 := ⟨by decide +kernel, rfl⟩
theorem d_X7_field_57 : zDc M_X7_field 57 (.getfield 171) 3 60 := ⟨by decide +kernel, rfl⟩
theorem d_X7_field_60 : zDc M_X7_field 60 (.iload_n 1) 1 61 := ⟨by decide +kernel, rfl⟩
theorem d_X7_field_61 : zDc M_X7_field 61 (.iaload) 1 62 := ⟨by decide +kernel, rfl⟩
theorem d_X7_field_62 : zDc M_X7_field 62 (.bipush 6) 2 64 := ⟨by decide +kernel, rfl⟩
theorem d_X7_field_64 : zDc M_X7_field 64 (.idiv) 1 65 := ⟨by decide +kernel, rfl⟩
theorem d_X7_field_65 : zDc M_X7_field 65 (.ireturn) 1 66 := ⟨by decide +kernel, rfl⟩
theorem d_X7_field_66 : zDc M_X7_field 66 (.aload_n 0) 1 67 := ⟨by decide +kernel, rfl⟩
theorem d_X7_field_67 : zDc M_X7_field 67 (.getfield 29) 3 70 := ⟨by decide +kernel, rfl⟩
theorem d_X7_field_70 : zDc M_X7_field 70 (.getfield 174) 3 73 := ⟨by decide +kernel, rfl⟩
theorem d_X7_field_73 : zDc M_X7_field 73 (.iload_n 1) 1 74 := ⟨by decide +kernel, rfl⟩
theorem d_X7_field_74 : zDc M_X7_field 74 (.iaload) 1 75 := ⟨by decide +kernel, rfl⟩
theorem d_X7_field_75 : zDc M_X7_field 75 (.ireturn) 1 76 := ⟨by decide +kernel, rfl⟩
theorem d_X7_field_76 : zDc M_X7_field 76 (.aload_n 0) 1 77 := ⟨by decide +kernel, rfl⟩
theorem d_X7_field_77 : zDc M_X7_field 77 (.getfield 38) 3 80 := ⟨by decide +kernel, rfl⟩
theorem d_X7_field_80 : zDc M_X7_field 80 (.getfield 177) 3 83 := ⟨by decide +kernel, rfl⟩
theorem d_X7_field_83 : zDc M_X7_field 83 (.iload_n 1) 1 84 := ⟨by decide +kernel, rfl⟩
theorem d_X7_field_84 : zDc M_X7_field 84 (.iaload) 1 85 := ⟨by decide +kernel, rfl⟩
theorem d_X7_field_85 : zDc M_X7_field 85 (.ireturn) 1 86 := ⟨by decide +kernel, rfl⟩
theorem d_X7_field_86 : zDc M_X7_field 86 (.iconst (-1)) 1 87 := ⟨by decide +kernel, rfl⟩
theorem d_X7_field_87 : zDc M_X7_field 87 (.ireturn) 1 88 := ⟨by decide +kernel, rfl⟩
def f_X7_field (a0 : Nat) (a1 : Int32) (a2 : Int32) (h0 : zHp) : Option (Int32 × zHp) :=
  zbd (zcv 7 a0 h0 (f_X7_isField a0 a1 h0)) (fun v2 h1 =>
  if v2 = 0 then
  some ((-1), h1)
  else
  if a2 = 0 then
  zob (zgR h1 a0 7 3) (fun v3 =>
  zob (zgR h1 v3 6 2) (fun v4 =>
  zob (zaI 0 h1 v4 a1) (fun v5 =>
  some ((zrm v5 6), h1))))
  else if a2 = 1 then
  zob (zgR h1 a0 7 3) (fun v6 =>
  zob (zgR h1 v6 6 2) (fun v7 =>
  zob (zaI 0 h1 v7 a1) (fun v8 =>
  some ((v8 / 6), h1))))
  else if a2 = 2 then
  zob (zgR h1 a0 7 3) (fun v9 =>
  zob (zgR h1 v9 6 3) (fun v10 =>
  zob (zaI 0 h1 v10 a1) (fun v11 =>
  some (v11, h1))))
  else if a2 = 3 then
  zob (zgR h1 a0 7 4) (fun v12 =>
  zob (zgR h1 v12 5 9) (fun v13 =>
  zob (zaI 0 h1 v13 a1) (fun v14 =>
  some (v14, h1))))
  else 
  some ((-1), h1))
set_option maxRecDepth 100000 in
set_option maxHeartbeats 4000000 in
theorem t_X7_field (a0 : Nat) (a1 : Int32) (a2 : Int32) (h0 : zHp) : ∀ (r : Int32) (h' : zHp), f_X7_field a0 a1 a2 h0 = some (r, h') → zCt yX7_field (.code yX7_field cX7_field 3 (some .int)) 2 81 0 0 [.ref a0, .int a1, .int a2] h0 (some (.int r)) h' := by
  refine zct_of M_X7_field yX7_field (by decide) rfl rfl [.ref a0, .int a1, .int a2] h0 (Nat.le_of_ble_eq_true rfl) (fun r => some (.int r)) (fun X => ?_)
  show zG X M_X7_field (0, 0) 0 [(0, .ref a0), (1, .int a1), (2, .int a2)] [] h0 (f_X7_field a0 a1 a2 h0) (fun (r : Int32) h' => zKe X (some (.int r)) h')
  unfold f_X7_field
  refine zg_aload_n 0 rfl d_X7_field_0 ?_
  refine zg_iload_n 1 rfl d_X7_field_1 ?_
  refine zg_cVi (b := a0) (As := [.int a1]) (rest := []) (0, 0) d_X7_field_2 zc_7 rfl cw_X7_168 wi_X7_isField ws_X7_isField rfl rfl (Nat.le_of_ble_eq_true rfl) (by decide) (by decide) ⟨by decide, by decide⟩ rfl (t_X7_isField a0 a1 h0) (fun v2 h1 => ?_)
  refine zg_if_ne d_X7_field_5 ?_ ?_
  · refine zg_iconst (-1) rfl d_X7_field_8 ?_
    exact zg_iretK d_X7_field_9 rfl ⟨Nat.le_of_ble_eq_true rfl, Nat.le_of_ble_eq_true rfl⟩ (fun q => q)
  · refine zg_iload_n 2 rfl d_X7_field_10 ?_
    refine zg_if (fun n15 => ?_) (fun n15 => ?_)
    · refine zg_tabE n15 d_X7_field_11 (by decide) (by decide) (off := 29) rfl (tgt := 40) (by decide) ?_
      refine zg_aload_n 0 rfl d_X7_field_40 ?_
      refine zg_getR d_X7_field_41 zc_7 (by decide) fl_X7_29 (fun v3 => ?_)
      refine zg_getR d_X7_field_44 zc_6 (by decide) fl_X7_171 (fun v4 => ?_)
      refine zg_iload_n 1 rfl d_X7_field_47 ?_
      refine zg_ald0 d_X7_field_48 (fun v5 => ?_)
      refine zg_bipush 6 rfl d_X7_field_49 ?_
      refine zg_irem (by decide) d_X7_field_51 ?_
      exact zg_iretK d_X7_field_52 rfl ⟨Nat.le_of_ble_eq_true rfl, Nat.le_of_ble_eq_true rfl⟩ (fun q => q)
    refine zg_if (fun n16 => ?_) (fun n16 => ?_)
    · refine zg_tabE n16 d_X7_field_11 (by decide) (by decide) (off := 42) rfl (tgt := 53) (by decide) ?_
      refine zg_aload_n 0 rfl d_X7_field_53 ?_
      refine zg_getR d_X7_field_54 zc_7 (by decide) fl_X7_29 (fun v6 => ?_)
      refine zg_getR d_X7_field_57 zc_6 (by decide) fl_X7_171 (fun v7 => ?_)
      refine zg_iload_n 1 rfl d_X7_field_60 ?_
      refine zg_ald0 d_X7_field_61 (fun v8 => ?_)
      refine zg_bipush 6 rfl d_X7_field_62 ?_
      refine zg_idiv (by decide) d_X7_field_64 ?_
      exact zg_iretK d_X7_field_65 rfl ⟨Nat.le_of_ble_eq_true rfl, Nat.le_of_ble_eq_true rfl⟩ (fun q => q)
    refine zg_if (fun n17 => ?_) (fun n17 => ?_)
    · refine zg_tabE n17 d_X7_field_11 (by decide) (by decide) (off := 55) rfl (tgt := 66) (by decide) ?_
      refine zg_aload_n 0 rfl d_X7_field_66 ?_
      refine zg_getR d_X7_field_67 zc_7 (by decide) fl_X7_29 (fun v9 => ?_)
      refine zg_getR d_X7_field_70 zc_6 (by decide) fl_X7_174 (fun v10 => ?_)
      refine zg_iload_n 1 rfl d_X7_field_73 ?_
      refine zg_ald0 d_X7_field_74 (fun v11 => ?_)
      exact zg_iretK d_X7_field_75 rfl ⟨Nat.le_of_ble_eq_true rfl, Nat.le_of_ble_eq_true rfl⟩ (fun q => q)
    refine zg_if (fun n18 => ?_) (fun n18 => ?_)
    · refine zg_tabE n18 d_X7_field_11 (by decide) (by decide) (off := 65) rfl (tgt := 76) (by decide) ?_
      refine zg_aload_n 0 rfl d_X7_field_76 ?_
      refine zg_getR d_X7_field_77 zc_7 (by decide) fl_X7_38 (fun v12 => ?_)
      refine zg_getR d_X7_field_80 zc_5 (by decide) fl_X7_177 (fun v13 => ?_)
      refine zg_iload_n 1 rfl d_X7_field_83 ?_
      refine zg_ald0 d_X7_field_84 (fun v14 => ?_)
      exact zg_iretK d_X7_field_85 rfl ⟨Nat.le_of_ble_eq_true rfl, Nat.le_of_ble_eq_true rfl⟩ (fun q => q)
    refine zg_tabO d_X7_field_11 (by have q0 := lv_neT n15 (a := 0) rfl; have q1 := lv_neT n16 (a := 1) rfl; have q2 := lv_neT n17 (a := 2) rfl; have q3 := lv_neT n18 (a := 3) rfl; omega) (tgt := 86) (by decide) ?_
    refine zg_iconst (-1) rfl d_X7_field_86 ?_
    exact zg_iretK d_X7_field_87 rfl ⟨Nat.le_of_ble_eq_true rfl, Nat.le_of_ble_eq_true rfl⟩ (fun q => q)
abbrev M_X7_give : zMt := (RX7, cX7_give, 3, 3, 104, (some .boolean), "give", 0, 0)
theorem d_X7_give_0 : zDc M_X7_give 0 (.aload_n 0) 1 1 := ⟨by decide +kernel, rfl⟩
theorem d_X7_give_1 : zDc M_X7_give 1 (.iload_n 1) 1 2 := ⟨by decide +kernel, rfl⟩
theorem d_X7_give_2 : zDc M_X7_give 2 (.invokevirtual 118) 3 5 := ⟨by decide +kernel, rfl⟩
theorem d_X7_give_5 : zDj M_X7_give 5 (.ifCond .eq 29) 29 8 34 := ⟨by decide +kernel, rfl, by decide⟩
theorem d_X7_give_8 : zDc M_X7_give 8 (.aload_n 0) 1 9 := ⟨by decide +kernel, rfl⟩
theorem d_X7_give_9 : zDc M_X7_give 9 (.getfield 38) 3 12 := ⟨by decide +kernel, rfl⟩
theorem d_X7_give_12 : zDc M_X7_give 12 (.getfield 140) 3 15 := ⟨by decide +kernel, rfl⟩
theorem d_X7_give_15 : zDc M_X7_give 15 (.iload_n 1) 1 16 := ⟨by decide +kernel, rfl⟩
theorem d_X7_give_16 : zDc M_X7_give 16 (.iaload) 1 17 := ⟨by decide +kernel, rfl⟩
theorem d_X7_give_17 : zDc M_X7_give 17 (.iconst 1) 1 18 := ⟨by decide +kernel, rfl⟩
theorem d_X7_give_18 : zDj M_X7_give 18 (.if_icmp .ne 16) 16 21 34 := ⟨by decide +kernel, rfl, by decide⟩
theorem d_X7_give_21 : zDc M_X7_give 21 (.iload_n 2) 1 22 := ⟨by decide +kernel, rfl⟩
theorem d_X7_give_22 : zDc M_X7_give 22 (.iconst (-1)) 1 23 := ⟨by decide +kernel, rfl⟩
theorem d_X7_give_23 : zDj M_X7_give 23 (.if_icmp .eq 13) 13 26 36 := ⟨by decide +kernel, rfl, by decide⟩
theorem d_X7_give_26 : zDc M_X7_give 26 (.aload_n 0) 1 27 := ⟨by decide +kernel, rfl⟩
theorem d_X7_give_27 : zDc M_X7_give 27 (.iload_n 2) 1 28 := ⟨by decide +kernel, rfl⟩
theorem d_X7_give_28 : zDc M_X7_give 28 (.invokevirtual 146) 3 31 := ⟨by decide +kernel, rfl⟩
theorem d_X7_give_31 : zDj M_X7_give 31 (.ifCond .ne 5) 5 34 36 := ⟨by decide +kernel, rfl, by decide⟩
theorem d_X7_give_34 : zDc M_X7_give 34 (.iconst 0) 1 35 := ⟨by decide +kernel, rfl⟩
theorem d_X7_give_35 : zDc M_X7_give 35 (.ireturn) 1 36 := ⟨by decide +kernel, rfl⟩
theorem d_X7_give_36 : zDc M_X7_give 36 (.aload_n 0) 1 37 := ⟨by decide +kernel, rfl⟩
theorem d_X7_give_37 : zDc M_X7_give 37 (.getfield 38) 3 40 := ⟨by decide +kernel, rfl⟩
theorem d_X7_give_40 : zDc M_X7_give 40 (.getfield 137) 3 43 := ⟨by decide +kernel, rfl⟩
theorem d_X7_give_43 : zDc M_X7_give 43 (.iload_n 1) 1 44 := ⟨by decide +kernel, rfl⟩
theorem d_X7_give_44 : zDc M_X7_give 44 (.iaload) 1 45 := ⟨by decide +kernel, rfl⟩
theorem d_X7_give_45 : zDc M_X7_give 45 (.iload_n 2) 1 46 := ⟨by decide +kernel, rfl⟩
theorem d_X7_give_46 : zDj M_X7_give 46 (.if_icmp .ne 5) 5 49 51 := ⟨by decide +kernel, rfl, by decide⟩
theorem d_X7_give_49 : zDc M_X7_give 49 (.iconst 0) 1 50 := ⟨by decide +kernel, rfl⟩
theorem d_X7_give_50 : zDc M_X7_give 50 (.ireturn) 1 51 := ⟨by decide +kernel, rfl⟩
theorem d_X7_give_51 : zDc M_X7_give 51 (.aload_n 0) 1 52 := ⟨by decide +kernel, rfl⟩
theorem d_X7_give_52 : zDc M_X7_give 52 (.getfield 52) 3 55 := ⟨by decide +kernel, rfl⟩
theorem d_X7_give_55 : zDc M_X7_give 55 (.iconst 1) 1 56 := ⟨by decide +kernel, rfl⟩
theorem d_X7_give_56 : zDc M_X7_give 56 (.iload_n 1) 1 57 := ⟨by decide +kernel, rfl⟩
theorem d_X7_give_57 : zDc M_X7_give 57 (.aload_n 0) 1 58 := ⟨by decide +kernel, rfl⟩
theorem d_X7_give_58 : zDc M_X7_give 58 (.getfield 38) 3 61 := ⟨by decide +kernel, rfl⟩
theorem d_X7_give_61 : zDc M_X7_give 61 (.getfield 137) 3 64 := ⟨by decide +kernel, rfl⟩
theorem d_X7_give_64 : zDc M_X7_give 64 (.iload_n 1) 1 65 := ⟨by decide +kernel, rfl⟩
theorem d_X7_give_65 : zDc M_X7_give 65 (.iaload) 1 66 := ⟨by decide +kernel, rfl⟩
theorem d_X7_give_66 : zDc M_X7_give 66 (.iconst 0) 1 67 := ⟨by decide +kernel, rfl⟩
theorem d_X7_give_67 : zDc M_X7_give 67 (.invokevirtual 207) 3 70 := ⟨by decide +kernel, rfl⟩
theorem d_X7_give_70 : zDc M_X7_give 70 (.aload_n 0) 1 71 := ⟨by decide +kernel, rfl⟩
theorem d_X7_give_71 : zDc M_X7_give 71 (.getfield 38) 3 74 := ⟨by decide +kernel, rfl⟩
theorem d_X7_give_74 : zDc M_X7_give 74 (.getfield 137) 3 77 := ⟨by decide +kernel, rfl⟩
theorem d_X7_give_77 : zDc M_X7_give 77 (.iload_n 1) 1 78 := ⟨by decide +kernel, rfl⟩
theorem d_X7_give_78 : zDc M_X7_give 78 (.iload_n 2) 1 79 := ⟨by decide +kernel, rfl⟩
theorem d_X7_give_79 : zDc M_X7_give 79 (.iastore) 1 80 := ⟨by decide +kernel, rfl⟩
theorem d_X7_give_80 : zDc M_X7_give 80 (.iconst 1) 1 81 := ⟨by decide +kernel, rfl⟩
theorem d_X7_give_81 : zDc M_X7_give 81 (.ireturn) 1 82 := ⟨by decide +kernel, rfl⟩
def f_X7_give (a0 : Nat) (a1 : Int32) (a2 : Int32) (h0 : zHp) : Option (Int32 × zHp) :=
  zbd (zcv 7 a0 h0 (f_X7_isCloud a0 a1 h0)) (fun v2 h1 =>
  if v2 = 0 then
  some (0, h1)
  else
  zob (zgR h1 a0 7 4) (fun v3 =>
  zob (zgR h1 v3 5 5) (fun v4 =>
  zob (zaI 0 h1 v4 a1) (fun v5 =>
  if v5 = 1 then
  zbd (α := (Unit ⊕ Int32)) (
  if a2 = (-1) then
  some ((.inl ()), h1)
  else
  zbd (zcv 7 a0 h1 (f_X7_isChild a0 a2 h1)) (fun v7 h6 =>
  if v7 = 0 then
  some ((.inr 0), h6)
  else
  some ((.inl ()), h6))) (fun b22 h9 => zsl b22 (fun e8 =>
  zob (zgR h9 a0 7 4) (fun v10 =>
  zob (zgR h9 v10 5 4) (fun v11 =>
  zob (zaI 0 h9 v11 a1) (fun v12 =>
  if v12 = a2 then
  some (0, h9)
  else
  zob (zgR h9 a0 7 7) (fun v13 =>
  zob (zgR h9 a0 7 4) (fun v14 =>
  zob (zgR h9 v14 5 4) (fun v15 =>
  zob (zaI 0 h9 v15 a1) (fun v16 =>
  zbd (zcv 0 v13 h9 (f_X0_remember v13 1 a1 v16 0 h9)) (fun v18 h17 =>
  zob (zgR h17 a0 7 4) (fun v19 =>
  zob (zgR h17 v19 5 4) (fun v20 =>
  zob (zsI 0 h17 v20 a1 a2) (fun h21 =>
  some (1, h21))))))))))))) (fun r => some (r, h9)))
  else
  some (0, h1)))))
set_option maxRecDepth 100000 in
set_option maxHeartbeats 4000000 in
theorem t_X7_give (a0 : Nat) (a1 : Int32) (a2 : Int32) (h0 : zHp) : ∀ (r : Int32) (h' : zHp), f_X7_give a0 a1 a2 h0 = some (r, h') → zCt yX7_give (.code yX7_give cX7_give 3 (some .boolean)) 3 104 0 0 [.ref a0, .int a1, .int a2] h0 (some (.int r)) h' := by
  refine zct_of M_X7_give yX7_give (by decide) rfl rfl [.ref a0, .int a1, .int a2] h0 (Nat.le_of_ble_eq_true rfl) (fun r => some (.int r)) (fun X => ?_)
  show zG X M_X7_give (0, 0) 0 [(0, .ref a0), (1, .int a1), (2, .int a2)] [] h0 (f_X7_give a0 a1 a2 h0) (fun (r : Int32) h' => zKe X (some (.int r)) h')
  unfold f_X7_give
  refine zg_aload_n 0 rfl d_X7_give_0 ?_
  refine zg_iload_n 1 rfl d_X7_give_1 ?_
  refine zg_cVi (b := a0) (As := [.int a1]) (rest := []) (0, 0) d_X7_give_2 zc_7 rfl cw_X7_118 wi_X7_isCloud ws_X7_isCloud rfl rfl (Nat.le_of_ble_eq_true rfl) (by decide) (by decide) ⟨by decide, by decide⟩ rfl (t_X7_isCloud a0 a1 h0) (fun v2 h1 => ?_)
  refine zg_if_eq d_X7_give_5 ?_ ?_
  · refine zg_iconst 0 rfl d_X7_give_34 ?_
    exact zg_zretK d_X7_give_35 rfl ⟨Nat.le_of_ble_eq_true rfl, Nat.le_of_ble_eq_true rfl⟩ (Or.inl rfl) (fun q => q)
  · refine zg_aload_n 0 rfl d_X7_give_8 ?_
    refine zg_getR d_X7_give_9 zc_7 (by decide) fl_X7_38 (fun v3 => ?_)
    refine zg_getR d_X7_give_12 zc_5 (by decide) fl_X7_140 (fun v4 => ?_)
    refine zg_iload_n 1 rfl d_X7_give_15 ?_
    refine zg_ald0 d_X7_give_16 (fun v5 => ?_)
    refine zg_iconst 1 rfl d_X7_give_17 ?_
    refine zg_icmp_ne d_X7_give_18 ?_ ?_
    · refine zg_iload_n 2 rfl d_X7_give_21 ?_
      refine zg_iconst (-1) rfl d_X7_give_22 ?_
      refine zg_bdr (E := 36) (el := (fun (e8 : Unit) => [(0, .ref a0), (1, .int a1), (2, .int a2)])) (es := (fun (e8 : Unit) => [])) ?_ (fun e8 h9 => ?_)
      · refine zg_icmp_eq d_X7_give_23 ?_ ?_
        · exact zg_finK (E := 0) [0, 1, 2] rfl rfl (fun q => q)
        · refine zg_aload_n 0 rfl d_X7_give_26 ?_
          refine zg_iload_n 2 rfl d_X7_give_27 ?_
          refine zg_cVi (b := a0) (As := [.int a2]) (rest := []) (0, 0) d_X7_give_28 zc_7 rfl cw_X7_146 wi_X7_isChild ws_X7_isChild rfl rfl (Nat.le_of_ble_eq_true rfl) (by decide) (by decide) ⟨by decide, by decide⟩ rfl (t_X7_isChild a0 a2 h1) (fun v7 h6 => ?_)
          refine zg_if_ne d_X7_give_31 ?_ ?_
          · refine zg_iconst 0 rfl d_X7_give_34 ?_
            exact zg_zretK d_X7_give_35 rfl ⟨Nat.le_of_ble_eq_true rfl, Nat.le_of_ble_eq_true rfl⟩ (Or.inl rfl) (fun q => q)
          · exact zg_finK (E := 0) [0, 1, 2] rfl rfl (fun q => q)
      · refine zg_aload_n 0 rfl d_X7_give_36 ?_
        refine zg_getR d_X7_give_37 zc_7 (by decide) fl_X7_38 (fun v10 => ?_)
        refine zg_getR d_X7_give_40 zc_5 (by decide) fl_X7_137 (fun v11 => ?_)
        refine zg_iload_n 1 rfl d_X7_give_43 ?_
        refine zg_ald0 d_X7_give_44 (fun v12 => ?_)
        refine zg_iload_n 2 rfl d_X7_give_45 ?_
        refine zg_icmp_ne d_X7_give_46 ?_ ?_
        · refine zg_iconst 0 rfl d_X7_give_49 ?_
          exact zg_zretK d_X7_give_50 rfl ⟨Nat.le_of_ble_eq_true rfl, Nat.le_of_ble_eq_true rfl⟩ (Or.inl rfl) (fun q => q)
        · refine zg_aload_n 0 rfl d_X7_give_51 ?_
          refine zg_getR d_X7_give_52 zc_7 (by decide) fl_X7_52 (fun v13 => ?_)
          refine zg_iconst 1 rfl d_X7_give_55 ?_
          refine zg_iload_n 1 rfl d_X7_give_56 ?_
          refine zg_aload_n 0 rfl d_X7_give_57 ?_
          refine zg_getR d_X7_give_58 zc_7 (by decide) fl_X7_38 (fun v14 => ?_)
          refine zg_getR d_X7_give_61 zc_5 (by decide) fl_X7_137 (fun v15 => ?_)
          refine zg_iload_n 1 rfl d_X7_give_64 ?_
          refine zg_ald0 d_X7_give_65 (fun v16 => ?_)
          refine zg_iconst 0 rfl d_X7_give_66 ?_
          refine zg_cVv (b := v13) (As := [.int 1, .int a1, .int v16, .int 0]) (rest := []) (0, 0) d_X7_give_67 zc_0 rfl cw_X7_207 wi_X0_remember ws_X0_remember rfl rfl (Nat.le_of_ble_eq_true rfl) (by decide) (by decide) ⟨by decide, by decide⟩ rfl (t_X0_remember v13 1 a1 v16 0 h9) (fun v18 h17 => ?_)
          refine zg_aload_n 0 rfl d_X7_give_70 ?_
          refine zg_getR d_X7_give_71 zc_7 (by decide) fl_X7_38 (fun v19 => ?_)
          refine zg_getR d_X7_give_74 zc_5 (by decide) fl_X7_137 (fun v20 => ?_)
          refine zg_iload_n 1 rfl d_X7_give_77 ?_
          refine zg_iload_n 2 rfl d_X7_give_78 ?_
          refine zg_ast0 d_X7_give_79 (fun h21 => ?_)
          refine zg_iconst 1 rfl d_X7_give_80 ?_
          exact zg_zretK d_X7_give_81 rfl ⟨Nat.le_of_ble_eq_true rfl, Nat.le_of_ble_eq_true rfl⟩ (Or.inr rfl) (fun q => q)
    · refine zg_iconst 0 rfl d_X7_give_34 ?_
      exact zg_zretK d_X7_give_35 rfl ⟨Nat.le_of_ble_eq_true rfl, Nat.le_of_ble_eq_true rfl⟩ (Or.inl rfl) (fun q => q)
abbrev M_X7_go : zMt := (RX7, cX7_go, 3, 6, 183, (some .int), "go", 0, 0)
theorem d_X7_go_0 : zDc M_X7_go 0 (.iconst 0) 1 1 := ⟨by decide +kernel, rfl⟩
theorem d_X7_go_1 : zDc M_X7_go 1 (.iload_n 1) 1 2 := ⟨by decide +kernel, rfl⟩
theorem d_X7_go_2 : zDc M_X7_go 2 (.bipush 99) 2 4 := ⟨by decide +kernel, rfl⟩
theorem d_X7_go_4 : zDc M_X7_go 4 (.invokestatic 194) 3 7 := ⟨by decide +kernel, rfl⟩
theorem d_X7_go_7 : zDj M_X7_go 7 (.ifCond .eq 18) 18 10 25 := ⟨by decide +kernel, rfl, by decide⟩
theorem d_X7_go_10 : zDc M_X7_go 10 (.aload_n 0) 1 11 := ⟨by decide +kernel, rfl⟩
theorem d_X7_go_11 : zDc M_X7_go 11 (.getfield 38) 3 14 := ⟨by decide +kernel, rfl⟩
theorem d_X7_go_14 : zDc M_X7_go 14 (.getfield 218) 3 17 := ⟨by decide +kernel, rfl⟩
theorem d_X7_go_17 : zDc M_X7_go 17 (.iload_n 1) 1 18 := ⟨by decide +kernel, rfl⟩
theorem d_X7_go_18 : zDc M_X7_go 18 (.iadd) 1 19 := ⟨by decide +kernel, rfl⟩
theorem d_X7_go_19 : zDc M_X7_go 19 (.sipush 999) 3 22 := ⟨by decide +kernel, rfl⟩
theorem d_X7_go_22 : zDj M_X7_go 22 (.if_icmp .le 5) 5 25 27 := ⟨by decide +kernel, rfl, by decide⟩
theorem d_X7_go_25 : zDc M_X7_go 25 (.iconst (-1)) 1 26 := ⟨by decide +kernel, rfl⟩
theorem d_X7_go_26 : zDc M_X7_go 26 (.ireturn) 1 27 := ⟨by decide +kernel, rfl⟩
theorem d_X7_go_27 : zDc M_X7_go 27 (.iload_n 1) 1 28 := ⟨by decide +kernel, rfl⟩
theorem d_X7_go_28 : zDj M_X7_go 28 (.ifCond .le 10) 10 31 38 := ⟨by decide +kernel, rfl, by decide⟩
theorem d_X7_go_31 : zDc M_X7_go 31 (.aload_n 0) 1 32 := ⟨by decide +kernel, rfl⟩
theorem d_X7_go_32 : zDc M_X7_go 32 (.getfield 52) 3 35 := ⟨by decide +kernel, rfl⟩
theorem d_X7_go_35 : zDc M_X7_go 35 (.invokevirtual 88) 3 38 := ⟨by decide +kernel, rfl⟩
theorem d_X7_go_38 : zDc M_X7_go 38 (.iconst 0) 1 39 := ⟨by decide +kernel, rfl⟩
theorem d_X7_go_39 : zDc M_X7_go 39 (.istore_n 2) 1 40 := ⟨by decide +kernel, rfl⟩
theorem d_X7_go_40 : zDc M_X7_go 40 (.iload_n 2) 1 41 := ⟨by decide +kernel, rfl⟩
theorem d_X7_go_41 : zDc M_X7_go 41 (.iload_n 1) 1 42 := ⟨by decide +kernel, rfl⟩
theorem d_X7_go_42 : zDj M_X7_go 42 (.if_icmp .ge 23) 23 45 65 := ⟨by decide +kernel, rfl, by decide⟩
theorem d_X7_go_45 : zDc M_X7_go 45 (.aload_n 0) 1 46 := ⟨by decide +kernel, rfl⟩
theorem d_X7_go_46 : zDc M_X7_go 46 (.getfield 38) 3 49 := ⟨by decide +kernel, rfl⟩
theorem d_X7_go_49 : zDc M_X7_go 49 (.aload_n 0) 1 50 := ⟨by decide +kernel, rfl⟩
theorem d_X7_go_50 : zDc M_X7_go 50 (.getfield 38) 3 53 := ⟨by decide +kernel, rfl⟩
theorem d_X7_go_53 : zDc M_X7_go 53 (.invokevirtual 221) 3 56 := ⟨by decide +kernel, rfl⟩
theorem d_X7_go_56 : zDc M_X7_go 56 (.invokevirtual 225) 3 59 := ⟨by decide +kernel, rfl⟩
theorem d_X7_go_59 : zDc M_X7_go 59 (.iinc 2 1) 3 62 := ⟨by decide +kernel, rfl⟩
theorem d_X7_go_62 : zDj M_X7_go 62 (.goto (-22)) (-22) 65 40 := ⟨by decide +kernel, rfl, by decide⟩
theorem d_X7_go_65 : zDc M_X7_go 65 (.aload_n 0) 1 66 := ⟨by decide +kernel, rfl⟩
theorem d_X7_go_66 : zDc M_X7_go 66 (.getfield 38) 3 69 := ⟨by decide +kernel, rfl⟩
theorem d_X7_go_69 : zDc M_X7_go 69 (.getfield 218) 3 72 := ⟨by decide +kernel, rfl⟩
theorem d_X7_go_72 : zDc M_X7_go 72 (.ireturn) 1 73 := ⟨by decide +kernel, rfl⟩
def f_X7_go (a0 : Nat) (a1 : Int32) (h0 : zHp) : Option (Int32 × zHp) :=
  zbd ((f_X7_isFrom 0 a1 99 h0)) (fun v2 h1 =>
  if v2 = 0 then
  some ((-1), h1)
  else
  zob (zgR h1 a0 7 4) (fun v3 =>
  zob (zgI h1 v3 5 11) (fun v4 =>
  if (v4 + a1) ≤ 999 then
  zbd (α := Unit) (
  if a1 ≤ 0 then
  some ((), h1)
  else
  zob (zgR h1 a0 7 7) (fun v5 =>
  zbd (zcv 0 v5 h1 (f_X0_forget v5 h1)) (fun v7 h6 =>
  some ((), h6)))) (fun e8 h9 =>
  zbd (
  zlp (σ := Int32) (β := Int32) zLF (fun s10 h11 =>
  if a1 ≤ s10 then
  some ((.inr s10), h11)
  else
  zob (zgR h11 a0 7 4) (fun v14 =>
  zob (zgR h11 a0 7 4) (fun v15 =>
  zbd (zcv 5 v15 h11 (f_X5_windNow v15 h11)) (fun v17 h16 =>
  zbd (zcv 5 v14 h16 (f_X5_passHour v14 v17 h16)) (fun v19 h18 =>
  some ((.inl (s10 + 1)), h18)))))) 0 h9) (fun e12 h13 =>
  zob (zgR h13 a0 7 4) (fun v20 =>
  zob (zgI h13 v20 5 11) (fun v21 =>
  some (v21, h13)))))
  else
  some ((-1), h1))))
set_option maxRecDepth 100000 in
set_option maxHeartbeats 4000000 in
theorem t_X7_go (a0 : Nat) (a1 : Int32) (h0 : zHp) : ∀ (r : Int32) (h' : zHp), f_X7_go a0 a1 h0 = some (r, h') → zCt yX7_go (.code yX7_go cX7_go 3 (some .int)) 6 183 0 0 [.ref a0, .int a1] h0 (some (.int r)) h' := by
  refine zct_of M_X7_go yX7_go (by decide) rfl rfl [.ref a0, .int a1] h0 (Nat.le_of_ble_eq_true rfl) (fun r => some (.int r)) (fun X => ?_)
  show zG X M_X7_go (0, 0) 0 [(0, .ref a0), (1, .int a1)] [] h0 (f_X7_go a0 a1 h0) (fun (r : Int32) h' => zKe X (some (.int r)) h')
  unfold f_X7_go
  refine zg_iconst 0 rfl d_X7_go_0 ?_
  refine zg_iload_n 1 rfl d_X7_go_1 ?_
  refine zg_bipush 99 rfl d_X7_go_2 ?_
  refine zg_cSi (As := [.int 0, .int a1, .int 99]) (rest := []) (0, 0) d_X7_go_4 cw_X7_194 wt_X7_isFrom rfl rfl (Nat.le_of_ble_eq_true rfl) (by decide) (by decide) ⟨by decide, by decide⟩ rfl (t_X7_isFrom 0 a1 99 h0) (fun v2 h1 => ?_)
  refine zg_if_eq d_X7_go_7 ?_ ?_
  · refine zg_iconst (-1) rfl d_X7_go_25 ?_
    exact zg_iretK d_X7_go_26 rfl ⟨Nat.le_of_ble_eq_true rfl, Nat.le_of_ble_eq_true rfl⟩ (fun q => q)
  · refine zg_aload_n 0 rfl d_X7_go_10 ?_
    refine zg_getR d_X7_go_11 zc_7 (by decide) fl_X7_38 (fun v3 => ?_)
    refine zg_getI d_X7_go_14 zc_5 (by decide) fl_X7_218 (fun v4 => ?_)
    refine zg_iload_n 1 rfl d_X7_go_17 ?_
    refine zg_iadd d_X7_go_18 ?_
    refine zg_sipush 999 rfl d_X7_go_19 ?_
    refine zg_icmp_le d_X7_go_22 ?_ ?_
    · refine zg_iload_n 1 rfl d_X7_go_27 ?_
      refine zg_bd (E := 38) (el := (fun (e8 : Unit) => [(0, .ref a0), (1, .int a1)])) (es := (fun (e8 : Unit) => [])) ?_ (fun e8 h9 => ?_)
      · refine zg_if_le d_X7_go_28 ?_ ?_
        · exact zg_finK (E := 0) [0, 1] rfl rfl (fun q => q)
        · refine zg_aload_n 0 rfl d_X7_go_31 ?_
          refine zg_getR d_X7_go_32 zc_7 (by decide) fl_X7_52 (fun v5 => ?_)
          refine zg_cVv (b := v5) (As := []) (rest := []) (0, 0) d_X7_go_35 zc_0 rfl cw_X7_88 wi_X0_forget ws_X0_forget rfl rfl (Nat.le_of_ble_eq_true rfl) (by decide) (by decide) ⟨by decide, by decide⟩ rfl (t_X0_forget v5 h1) (fun v7 h6 => ?_)
          exact zg_finK (E := 0) [0, 1] rfl rfl (fun q => q)
      · refine zg_iconst 0 rfl d_X7_go_38 ?_
        refine zg_istore_n [(2, .int 0), (0, .ref a0), (1, .int a1)] d_X7_go_39 rfl (by decide) rfl ?_
        refine zg_bd (E := 65) (el := (fun (e12 : Int32) => [(0, .ref a0), (1, .int a1), (2, .int e12)])) (es := fun _ => []) (zg_sub [1, 2, 0] rfl (zg_lp (el := (fun (s10 : Int32) => [(0, .ref a0), (1, .int a1), (2, .int s10)])) (fun s10 h11 => ?_) 0 h9)) (fun e12 h13 => ?_)
        · refine zg_iload_n 2 rfl d_X7_go_40 ?_
          refine zg_iload_n 1 rfl d_X7_go_41 ?_
          refine zg_icmp_ge d_X7_go_42 ?_ ?_
          · exact zg_finK (E := 0) [0, 1, 2] rfl rfl (fun q => q)
          · refine zg_aload_n 0 rfl d_X7_go_45 ?_
            refine zg_getR d_X7_go_46 zc_7 (by decide) fl_X7_38 (fun v14 => ?_)
            refine zg_aload_n 0 rfl d_X7_go_49 ?_
            refine zg_getR d_X7_go_50 zc_7 (by decide) fl_X7_38 (fun v15 => ?_)
            refine zg_cVi (b := v15) (As := []) (rest := [.ref v14]) (0, 0) d_X7_go_53 zc_5 rfl cw_X7_221 wi_X5_windNow ws_X5_windNow rfl rfl (Nat.le_of_ble_eq_true rfl) (by decide) (by decide) ⟨by decide, by decide⟩ rfl (t_X5_windNow v15 h11) (fun v17 h16 => ?_)
            refine zg_cVv (b := v14) (As := [.int v17]) (rest := []) (0, 0) d_X7_go_56 zc_5 rfl cw_X7_225 wi_X5_passHour ws_X5_passHour rfl rfl (Nat.le_of_ble_eq_true rfl) (by decide) (by decide) ⟨by decide, by decide⟩ rfl (t_X5_passHour v14 v17 h16) (fun v19 h18 => ?_)
            refine zg_iinc 2 (s10 + 1) [(2, .int (s10 + 1)), (0, .ref a0), (1, .int a1)] d_X7_go_59 rfl rfl (by decide) rfl ?_
            refine zg_goto d_X7_go_62 ?_
            exact zg_finK (E := 0) [1, 2, 0] rfl rfl (fun q => q)
        · refine zg_aload_n 0 rfl d_X7_go_65 ?_
          refine zg_getR d_X7_go_66 zc_7 (by decide) fl_X7_38 (fun v20 => ?_)
          refine zg_getI d_X7_go_69 zc_5 (by decide) fl_X7_218 (fun v21 => ?_)
          exact zg_iretK d_X7_go_72 rfl ⟨Nat.le_of_ble_eq_true rfl, Nat.le_of_ble_eq_true rfl⟩ (fun q => q)
    · refine zg_iconst (-1) rfl d_X7_go_25 ?_
      exact zg_iretK d_X7_go_26 rfl ⟨Nat.le_of_ble_eq_true rfl, Nat.le_of_ble_eq_true rfl⟩ (fun q => q)
abbrev M_X7_ground : zMt := (RX7, cX7_ground, 3, 2, 84, (some .int), "ground", 0, 0)
theorem d_X7_ground_0 : zDc M_X7_ground 0 (.iload_n 1) 1 1 := ⟨by decide +kernel, rfl⟩
theorem d_X7_ground_1 : zDc M_X7_ground 1 (.iload_n 2) 1 2 := ⟨by decide +kernel, rfl⟩
theorem d_X7_ground_2 : zDc M_X7_ground 2 (.invokestatic 180) 3 5 := ⟨by decide +kernel, rfl⟩
theorem d_X7_ground_5 : zDj M_X7_ground 5 (.ifCond .eq 15) 15 8 20 := ⟨by decide +kernel, rfl, by decide⟩
theorem d_X7_ground_8 : zDc M_X7_ground 8 (.aload_n 0) 1 9 := ⟨by decide +kernel, rfl⟩
theorem d_X7_ground_9 : zDc M_X7_ground 9 (.getfield 38) 3 12 := ⟨by decide +kernel, rfl⟩
theorem d_X7_ground_12 : zDc M_X7_ground 12 (.iload_n 1) 1 13 := ⟨by decide +kernel, rfl⟩
theorem d_X7_ground_13 : zDc M_X7_ground 13 (.iload_n 2) 1 14 := ⟨by decide +kernel, rfl⟩
theorem d_X7_ground_14 : zDc M_X7_ground 14 (.invokevirtual 184) 3 17 := ⟨by decide +kernel, rfl⟩
theorem d_X7_ground_17 : zDj M_X7_ground 17 (.goto 4) 4 20 21 := ⟨by decide +kernel, rfl, by decide⟩
theorem d_X7_ground_20 : zDc M_X7_ground 20 (.iconst (-1)) 1 21 := ⟨by decide +kernel, rfl⟩
theorem d_X7_ground_21 : zDc M_X7_ground 21 (.ireturn) 1 22 := ⟨by decide +kernel, rfl⟩
def f_X7_ground (a0 : Nat) (a1 : Int32) (a2 : Int32) (h0 : zHp) : Option (Int32 × zHp) :=
  zbd ((f_X7_isCell a1 a2 h0)) (fun v2 h1 =>
  if v2 = 0 then
  some ((-1), h1)
  else
  zob (zgR h1 a0 7 4) (fun v3 =>
  zbd (zcv 5 v3 h1 (f_X5_groundAt v3 a1 a2 h1)) (fun v5 h4 =>
  some (v5, h4))))
set_option maxRecDepth 100000 in
set_option maxHeartbeats 4000000 in
theorem t_X7_ground (a0 : Nat) (a1 : Int32) (a2 : Int32) (h0 : zHp) : ∀ (r : Int32) (h' : zHp), f_X7_ground a0 a1 a2 h0 = some (r, h') → zCt yX7_ground (.code yX7_ground cX7_ground 3 (some .int)) 2 84 0 0 [.ref a0, .int a1, .int a2] h0 (some (.int r)) h' := by
  refine zct_of M_X7_ground yX7_ground (by decide) rfl rfl [.ref a0, .int a1, .int a2] h0 (Nat.le_of_ble_eq_true rfl) (fun r => some (.int r)) (fun X => ?_)
  show zG X M_X7_ground (0, 0) 0 [(0, .ref a0), (1, .int a1), (2, .int a2)] [] h0 (f_X7_ground a0 a1 a2 h0) (fun (r : Int32) h' => zKe X (some (.int r)) h')
  unfold f_X7_ground
  refine zg_iload_n 1 rfl d_X7_ground_0 ?_
  refine zg_iload_n 2 rfl d_X7_ground_1 ?_
  refine zg_cSi (As := [.int a1, .int a2]) (rest := []) (0, 0) d_X7_ground_2 cw_X7_180 wt_X7_isCell rfl rfl (Nat.le_of_ble_eq_true rfl) (by decide) (by decide) ⟨by decide, by decide⟩ rfl (t_X7_isCell a1 a2 h0) (fun v2 h1 => ?_)
  refine zg_if_eq d_X7_ground_5 ?_ ?_
  · refine zg_iconst (-1) rfl d_X7_ground_20 ?_
    exact zg_iretK d_X7_ground_21 rfl ⟨Nat.le_of_ble_eq_true rfl, Nat.le_of_ble_eq_true rfl⟩ (fun q => q)
  · refine zg_aload_n 0 rfl d_X7_ground_8 ?_
    refine zg_getR d_X7_ground_9 zc_7 (by decide) fl_X7_38 (fun v3 => ?_)
    refine zg_iload_n 1 rfl d_X7_ground_12 ?_
    refine zg_iload_n 2 rfl d_X7_ground_13 ?_
    refine zg_cVi (b := v3) (As := [.int a1, .int a2]) (rest := []) (0, 0) d_X7_ground_14 zc_5 rfl cw_X7_184 wi_X5_groundAt ws_X5_groundAt rfl rfl (Nat.le_of_ble_eq_true rfl) (by decide) (by decide) ⟨by decide, by decide⟩ rfl (t_X5_groundAt v3 a1 a2 h1) (fun v5 h4 => ?_)
    refine zg_goto d_X7_ground_17 ?_
    exact zg_iretK d_X7_ground_21 rfl ⟨Nat.le_of_ble_eq_true rfl, Nat.le_of_ble_eq_true rfl⟩ (fun q => q)
abbrev M_X7_in : zMt := (RX7, cX7_in, 3, 3, 105, (some .int), "in", 0, 0)
theorem d_X7_in_0 : zDc M_X7_in 0 (.iload_n 1) 1 1 := ⟨by decide +kernel, rfl⟩
theorem d_X7_in_1 : zDc M_X7_in 1 (.iload_n 2) 1 2 := ⟨by decide +kernel, rfl⟩
theorem d_X7_in_2 : zDc M_X7_in 2 (.invokestatic 180) 3 5 := ⟨by decide +kernel, rfl⟩
theorem d_X7_in_5 : zDj M_X7_in 5 (.ifCond .eq 15) 15 8 20 := ⟨by decide +kernel, rfl, by decide⟩
theorem d_X7_in_8 : zDc M_X7_in 8 (.aload_n 0) 1 9 := ⟨by decide +kernel, rfl⟩
theorem d_X7_in_9 : zDc M_X7_in 9 (.getfield 38) 3 12 := ⟨by decide +kernel, rfl⟩
theorem d_X7_in_12 : zDc M_X7_in 12 (.iload_n 1) 1 13 := ⟨by decide +kernel, rfl⟩
theorem d_X7_in_13 : zDc M_X7_in 13 (.iload_n 2) 1 14 := ⟨by decide +kernel, rfl⟩
theorem d_X7_in_14 : zDc M_X7_in 14 (.invokevirtual 191) 3 17 := ⟨by decide +kernel, rfl⟩
theorem d_X7_in_17 : zDj M_X7_in 17 (.goto 4) 4 20 21 := ⟨by decide +kernel, rfl, by decide⟩
theorem d_X7_in_20 : zDc M_X7_in 20 (.iconst (-1)) 1 21 := ⟨by decide +kernel, rfl⟩
theorem d_X7_in_21 : zDc M_X7_in 21 (.ireturn) 1 22 := ⟨by decide +kernel, rfl⟩
def f_X7_in (a0 : Nat) (a1 : Int32) (a2 : Int32) (h0 : zHp) : Option (Int32 × zHp) :=
  zbd ((f_X7_isCell a1 a2 h0)) (fun v2 h1 =>
  if v2 = 0 then
  some ((-1), h1)
  else
  zob (zgR h1 a0 7 4) (fun v3 =>
  zbd (zcv 5 v3 h1 (f_X5_cloudsAt v3 a1 a2 h1)) (fun v5 h4 =>
  some (v5, h4))))
set_option maxRecDepth 100000 in
set_option maxHeartbeats 4000000 in
theorem t_X7_in (a0 : Nat) (a1 : Int32) (a2 : Int32) (h0 : zHp) : ∀ (r : Int32) (h' : zHp), f_X7_in a0 a1 a2 h0 = some (r, h') → zCt yX7_in (.code yX7_in cX7_in 3 (some .int)) 3 105 0 0 [.ref a0, .int a1, .int a2] h0 (some (.int r)) h' := by
  refine zct_of M_X7_in yX7_in (by decide) rfl rfl [.ref a0, .int a1, .int a2] h0 (Nat.le_of_ble_eq_true rfl) (fun r => some (.int r)) (fun X => ?_)
  show zG X M_X7_in (0, 0) 0 [(0, .ref a0), (1, .int a1), (2, .int a2)] [] h0 (f_X7_in a0 a1 a2 h0) (fun (r : Int32) h' => zKe X (some (.int r)) h')
  unfold f_X7_in
  refine zg_iload_n 1 rfl d_X7_in_0 ?_
  refine zg_iload_n 2 rfl d_X7_in_1 ?_
  refine zg_cSi (As := [.int a1, .int a2]) (rest := []) (0, 0) d_X7_in_2 cw_X7_180 wt_X7_isCell rfl rfl (Nat.le_of_ble_eq_true rfl) (by decide) (by decide) ⟨by decide, by decide⟩ rfl (t_X7_isCell a1 a2 h0) (fun v2 h1 => ?_)
  refine zg_if_eq d_X7_in_5 ?_ ?_
  · refine zg_iconst (-1) rfl d_X7_in_20 ?_
    exact zg_iretK d_X7_in_21 rfl ⟨Nat.le_of_ble_eq_true rfl, Nat.le_of_ble_eq_true rfl⟩ (fun q => q)
  · refine zg_aload_n 0 rfl d_X7_in_8 ?_
    refine zg_getR d_X7_in_9 zc_7 (by decide) fl_X7_38 (fun v3 => ?_)
    refine zg_iload_n 1 rfl d_X7_in_12 ?_
    refine zg_iload_n 2 rfl d_X7_in_13 ?_
    refine zg_cVi (b := v3) (As := [.int a1, .int a2]) (rest := []) (0, 0) d_X7_in_14 zc_5 rfl cw_X7_191 wi_X5_cloudsAt ws_X5_cloudsAt rfl rfl (Nat.le_of_ble_eq_true rfl) (by decide) (by decide) ⟨by decide, by decide⟩ rfl (t_X5_cloudsAt v3 a1 a2 h1) (fun v5 h4 => ?_)
    refine zg_goto d_X7_in_17 ?_
    exact zg_iretK d_X7_in_21 rfl ⟨Nat.le_of_ble_eq_true rfl, Nat.le_of_ble_eq_true rfl⟩ (fun q => q)
abbrev M_X7_keep : zMt := (RX7, cX7_keep, 1, 2, 82, (some .int), "keep", 0, 0)
theorem d_X7_keep_0 : zDc M_X7_keep 0 (.aload_n 0) 1 1 := ⟨by decide +kernel, rfl⟩
theorem d_X7_keep_1 : zDc M_X7_keep 1 (.getfield 42) 3 4 := ⟨by decide +kernel, rfl⟩
theorem d_X7_keep_4 : zDc M_X7_keep 4 (.aload_n 0) 1 5 := ⟨by decide +kernel, rfl⟩
theorem d_X7_keep_5 : zDc M_X7_keep 5 (.getfield 38) 3 8 := ⟨by decide +kernel, rfl⟩
theorem d_X7_keep_8 : zDc M_X7_keep 8 (.invokevirtual 328) 3 11 := ⟨by decide +kernel, rfl⟩
theorem d_X7_keep_11 : zDc M_X7_keep 11 (.aload_n 0) 1 12 := ⟨by decide +kernel, rfl⟩
theorem d_X7_keep_12 : zDc M_X7_keep 12 (.iconst 1) 1 13 := ⟨by decide +kernel, rfl⟩
theorem d_X7_keep_13 : zDc M_X7_keep 13 (.putfield 45) 3 16 := ⟨by decide +kernel, rfl⟩
theorem d_X7_keep_16 : zDc M_X7_keep 16 (.aload_n 0) 1 17 := ⟨by decide +kernel, rfl⟩
theorem d_X7_keep_17 : zDc M_X7_keep 17 (.getfield 38) 3 20 := ⟨by decide +kernel, rfl⟩
theorem d_X7_keep_20 : zDc M_X7_keep 20 (.getfield 218) 3 23 := ⟨by decide +kernel, rfl⟩
theorem d_X7_keep_23 : zDc M_X7_keep 23 (.ireturn) 1 24 := ⟨by decide +kernel, rfl⟩
def f_X7_keep (a0 : Nat) (h0 : zHp) : Option (Int32 × zHp) :=
  zob (zgR h0 a0 7 5) (fun v1 =>
  zob (zgR h0 a0 7 4) (fun v2 =>
  zbd (zcv 5 v1 h0 (f_X5_copyFrom v1 v2 h0)) (fun v4 h3 =>
  zob (zpV h3 a0 7 6 (.int 1)) (fun h5 =>
  zob (zgR h5 a0 7 4) (fun v6 =>
  zob (zgI h5 v6 5 11) (fun v7 =>
  some (v7, h5)))))))
set_option maxRecDepth 100000 in
set_option maxHeartbeats 4000000 in
theorem t_X7_keep (a0 : Nat) (h0 : zHp) : ∀ (r : Int32) (h' : zHp), f_X7_keep a0 h0 = some (r, h') → zCt yX7_keep (.code yX7_keep cX7_keep 1 (some .int)) 2 82 0 0 [.ref a0] h0 (some (.int r)) h' := by
  refine zct_of M_X7_keep yX7_keep (by decide) rfl rfl [.ref a0] h0 (Nat.le_of_ble_eq_true rfl) (fun r => some (.int r)) (fun X => ?_)
  show zG X M_X7_keep (0, 0) 0 [(0, .ref a0)] [] h0 (f_X7_keep a0 h0) (fun (r : Int32) h' => zKe X (some (.int r)) h')
  unfold f_X7_keep
  refine zg_aload_n 0 rfl d_X7_keep_0 ?_
  refine zg_getR d_X7_keep_1 zc_7 (by decide) fl_X7_42 (fun v1 => ?_)
  refine zg_aload_n 0 rfl d_X7_keep_4 ?_
  refine zg_getR d_X7_keep_5 zc_7 (by decide) fl_X7_38 (fun v2 => ?_)
  refine zg_cVv (b := v1) (As := [.ref v2]) (rest := []) (0, 0) d_X7_keep_8 zc_5 rfl cw_X7_328 wi_X5_copyFrom ws_X5_copyFrom rfl rfl (Nat.le_of_ble_eq_true rfl) (by decide) (by decide) ⟨by decide, by decide⟩ rfl (t_X5_copyFrom v1 v2 h0) (fun v4 h3 => ?_)
  refine zg_aload_n 0 rfl d_X7_keep_11 ?_
  refine zg_iconst 1 rfl d_X7_keep_12 ?_
  refine zg_putV d_X7_keep_13 zc_7 (by decide) fl_X7_45 rfl rfl rfl (fun h5 => ?_)
  refine zg_aload_n 0 rfl d_X7_keep_16 ?_
  refine zg_getR d_X7_keep_17 zc_7 (by decide) fl_X7_38 (fun v6 => ?_)
  refine zg_getI d_X7_keep_20 zc_5 (by decide) fl_X7_218 (fun v7 => ?_)
  exact zg_iretK d_X7_keep_23 rfl ⟨Nat.le_of_ble_eq_true rfl, Nat.le_of_ble_eq_true rfl⟩ (fun q => q)
abbrev M_X7_known : zMt := (RX7, cX7_known, 2, 2, 82, (some .boolean), "known", 0, 0)
theorem d_X7_known_0 : zDc M_X7_known 0 (.iconst (-1)) 1 1 := ⟨by decide +kernel, rfl⟩
theorem d_X7_known_1 : zDc M_X7_known 1 (.iload_n 1) 1 2 := ⟨by decide +kernel, rfl⟩
theorem d_X7_known_2 : zDc M_X7_known 2 (.aload_n 0) 1 3 := ⟨by decide +kernel, rfl⟩
theorem d_X7_known_3 : zDc M_X7_known 3 (.getfield 59) 3 6 := ⟨by decide +kernel, rfl⟩
theorem d_X7_known_6 : zDc M_X7_known 6 (.getfield 299) 3 9 := ⟨by decide +kernel, rfl⟩
theorem d_X7_known_9 : zDc M_X7_known 9 (.invokestatic 194) 3 12 := ⟨by decide +kernel, rfl⟩
theorem d_X7_known_12 : zDj M_X7_known 12 (.ifCond .ne 5) 5 15 17 := ⟨by decide +kernel, rfl, by decide⟩
theorem d_X7_known_15 : zDc M_X7_known 15 (.iconst 0) 1 16 := ⟨by decide +kernel, rfl⟩
theorem d_X7_known_16 : zDc M_X7_known 16 (.ireturn) 1 17 := ⟨by decide +kernel, rfl⟩
theorem d_X7_known_17 : zDc M_X7_known 17 (.aload_n 0) 1 18 := ⟨by decide +kernel, rfl⟩
theorem d_X7_known_18 : zDc M_X7_known 18 (.getfield 59) 3 21 := ⟨by decide +kernel, rfl⟩
theorem d_X7_known_21 : zDc M_X7_known 21 (.iload_n 1) 1 22 := ⟨by decide +kernel, rfl⟩
theorem d_X7_known_22 : zDc M_X7_known 22 (.putfield 305) 3 25 := ⟨by decide +kernel, rfl⟩
theorem d_X7_known_25 : zDc M_X7_known 25 (.iconst 1) 1 26 := ⟨by decide +kernel, rfl⟩
theorem d_X7_known_26 : zDc M_X7_known 26 (.ireturn) 1 27 := ⟨by decide +kernel, rfl⟩
def f_X7_known (a0 : Nat) (a1 : Int32) (h0 : zHp) : Option (Int32 × zHp) :=
  zob (zgR h0 a0 7 8) (fun v1 =>
  zob (zgI h0 v1 3 6) (fun v2 =>
  zbd ((f_X7_isFrom (-1) a1 v2 h0)) (fun v4 h3 =>
  if v4 = 0 then
  some (0, h3)
  else
  zob (zgR h3 a0 7 8) (fun v5 =>
  zob (zpV h3 v5 3 7 (.int a1)) (fun h6 =>
  some (1, h6))))))
set_option maxRecDepth 100000 in
set_option maxHeartbeats 4000000 in
theorem t_X7_known (a0 : Nat) (a1 : Int32) (h0 : zHp) : ∀ (r : Int32) (h' : zHp), f_X7_known a0 a1 h0 = some (r, h') → zCt yX7_known (.code yX7_known cX7_known 2 (some .boolean)) 2 82 0 0 [.ref a0, .int a1] h0 (some (.int r)) h' := by
  refine zct_of M_X7_known yX7_known (by decide) rfl rfl [.ref a0, .int a1] h0 (Nat.le_of_ble_eq_true rfl) (fun r => some (.int r)) (fun X => ?_)
  show zG X M_X7_known (0, 0) 0 [(0, .ref a0), (1, .int a1)] [] h0 (f_X7_known a0 a1 h0) (fun (r : Int32) h' => zKe X (some (.int r)) h')
  unfold f_X7_known
  refine zg_iconst (-1) rfl d_X7_known_0 ?_
  refine zg_iload_n 1 rfl d_X7_known_1 ?_
  refine zg_aload_n 0 rfl d_X7_known_2 ?_
  refine zg_getR d_X7_known_3 zc_7 (by decide) fl_X7_59 (fun v1 => ?_)
  refine zg_getI d_X7_known_6 zc_3 (by decide) fl_X7_299 (fun v2 => ?_)
  refine zg_cSi (As := [.int (-1), .int a1, .int v2]) (rest := []) (0, 0) d_X7_known_9 cw_X7_194 wt_X7_isFrom rfl rfl (Nat.le_of_ble_eq_true rfl) (by decide) (by decide) ⟨by decide, by decide⟩ rfl (t_X7_isFrom (-1) a1 v2 h0) (fun v4 h3 => ?_)
  refine zg_if_ne d_X7_known_12 ?_ ?_
  · refine zg_iconst 0 rfl d_X7_known_15 ?_
    exact zg_zretK d_X7_known_16 rfl ⟨Nat.le_of_ble_eq_true rfl, Nat.le_of_ble_eq_true rfl⟩ (Or.inl rfl) (fun q => q)
  · refine zg_aload_n 0 rfl d_X7_known_17 ?_
    refine zg_getR d_X7_known_18 zc_7 (by decide) fl_X7_59 (fun v5 => ?_)
    refine zg_iload_n 1 rfl d_X7_known_21 ?_
    refine zg_putV d_X7_known_22 zc_3 (by decide) fl_X7_305 rfl rfl rfl (fun h6 => ?_)
    refine zg_iconst 1 rfl d_X7_known_25 ?_
    exact zg_zretK d_X7_known_26 rfl ⟨Nat.le_of_ble_eq_true rfl, Nat.le_of_ble_eq_true rfl⟩ (Or.inr rfl) (fun q => q)
abbrev M_X7_lacks : zMt := (RX7, cX7_lacks, 3, 2, 81, (some .int), "lacks", 0, 0)
theorem d_X7_lacks_0 : zDc M_X7_lacks 0 (.iconst 0) 1 1 := ⟨by decide +kernel, rfl⟩
theorem d_X7_lacks_1 : zDc M_X7_lacks 1 (.istore_n 1) 1 2 := ⟨by decide +kernel, rfl⟩
theorem d_X7_lacks_2 : zDc M_X7_lacks 2 (.iconst 0) 1 3 := ⟨by decide +kernel, rfl⟩
theorem d_X7_lacks_3 : zDc M_X7_lacks 3 (.istore_n 2) 1 4 := ⟨by decide +kernel, rfl⟩
theorem d_X7_lacks_4 : zDc M_X7_lacks 4 (.iload_n 2) 1 5 := ⟨by decide +kernel, rfl⟩
theorem d_X7_lacks_5 : zDc M_X7_lacks 5 (.aload_n 0) 1 6 := ⟨by decide +kernel, rfl⟩
theorem d_X7_lacks_6 : zDc M_X7_lacks 6 (.getfield 29) 3 9 := ⟨by decide +kernel, rfl⟩
theorem d_X7_lacks_9 : zDc M_X7_lacks 9 (.getfield 99) 3 12 := ⟨by decide +kernel, rfl⟩
theorem d_X7_lacks_12 : zDj M_X7_lacks 12 (.if_icmp .ge 26) 26 15 38 := ⟨by decide +kernel, rfl, by decide⟩
theorem d_X7_lacks_15 : zDc M_X7_lacks 15 (.aload_n 0) 1 16 := ⟨by decide +kernel, rfl⟩
theorem d_X7_lacks_16 : zDc M_X7_lacks 16 (.getfield 38) 3 19 := ⟨by decide +kernel, rfl⟩
theorem d_X7_lacks_19 : zDc M_X7_lacks 19 (.iload_n 2) 1 20 := ⟨by decide +kernel, rfl⟩
theorem d_X7_lacks_20 : zDc M_X7_lacks 20 (.invokevirtual 261) 3 23 := ⟨by decide +kernel, rfl⟩
theorem d_X7_lacks_23 : zDj M_X7_lacks 23 (.ifCond .eq 9) 9 26 32 := ⟨by decide +kernel, rfl, by decide⟩
theorem d_X7_lacks_26 : zDc M_X7_lacks 26 (.iload_n 1) 1 27 := ⟨by decide +kernel, rfl⟩
theorem d_X7_lacks_27 : zDc M_X7_lacks 27 (.iconst 1) 1 28 := ⟨by decide +kernel, rfl⟩
theorem d_X7_lacks_28 : zDc M_X7_lacks 28 (.iload_n 2) 1 29 := ⟨by decide +kernel, rfl⟩
theorem d_X7_lacks_29 : zDc M_X7_lacks 29 (.ishl) 1 30 := ⟨by decide +kernel, rfl⟩
theorem d_X7_lacks_30 : zDc M_X7_lacks 30 (.ior) 1 31 := ⟨by decide +kernel, rfl⟩
theorem d_X7_lacks_31 : zDc M_X7_lacks 31 (.istore_n 1) 1 32 := ⟨by decide +kernel, rfl⟩
theorem d_X7_lacks_32 : zDc M_X7_lacks 32 (.iinc 2 1) 3 35 := ⟨by decide +kernel, rfl⟩
theorem d_X7_lacks_35 : zDj M_X7_lacks 35 (.goto (-31)) (-31) 38 4 := ⟨by decide +kernel, rfl, by decide⟩
theorem d_X7_lacks_38 : zDc M_X7_lacks 38 (.iload_n 1) 1 39 := ⟨by decide +kernel, rfl⟩
theorem d_X7_lacks_39 : zDc M_X7_lacks 39 (.ireturn) 1 40 := ⟨by decide +kernel, rfl⟩
def f_X7_lacks (a0 : Nat) (h0 : zHp) : Option (Int32 × zHp) :=
  zbd (
  zlp (σ := (Int32 × Int32)) (β := (Int32 × Int32)) zLF (fun s1 h2 =>
  zob (zgR h2 a0 7 3) (fun v5 =>
  zob (zgI h2 v5 6 13) (fun v6 =>
  if v6 ≤ s1.2 then
  some ((.inr (s1.1, s1.2)), h2)
  else
  zob (zgR h2 a0 7 4) (fun v7 =>
  zbd (zcv 5 v7 h2 (f_X5_lacksRain v7 s1.2 h2)) (fun v9 h8 =>
  if v9 = 0 then
  some ((.inl (s1.1, (s1.2 + 1))), h8)
  else
  some ((.inl ((s1.1 ||| (1 <<< (s1.2 &&& 31))), (s1.2 + 1))), h8)))))) (0, 0) h0) (fun e3 h4 =>
  some (e3.1, h4))
set_option maxRecDepth 100000 in
set_option maxHeartbeats 4000000 in
theorem t_X7_lacks (a0 : Nat) (h0 : zHp) : ∀ (r : Int32) (h' : zHp), f_X7_lacks a0 h0 = some (r, h') → zCt yX7_lacks (.code yX7_lacks cX7_lacks 3 (some .int)) 2 81 0 0 [.ref a0] h0 (some (.int r)) h' := by
  refine zct_of M_X7_lacks yX7_lacks (by decide) rfl rfl [.ref a0] h0 (Nat.le_of_ble_eq_true rfl) (fun r => some (.int r)) (fun X => ?_)
  show zG X M_X7_lacks (0, 0) 0 [(0, .ref a0)] [] h0 (f_X7_lacks a0 h0) (fun (r : Int32) h' => zKe X (some (.int r)) h')
  unfold f_X7_lacks
  refine zg_iconst 0 rfl d_X7_lacks_0 ?_
  refine zg_istore_n [(1, .int 0), (0, .ref a0)] d_X7_lacks_1 rfl (by decide) rfl ?_
  refine zg_iconst 0 rfl d_X7_lacks_2 ?_
  refine zg_istore_n [(2, .int 0), (1, .int 0), (0, .ref a0)] d_X7_lacks_3 rfl (by decide) rfl ?_
  refine zg_bd (E := 38) (el := (fun (e3 : (Int32 × Int32)) => [(0, .ref a0), (1, .int e3.1), (2, .int e3.2)])) (es := fun _ => []) (zg_sub [2, 1, 0] rfl (zg_lp (el := (fun (s1 : (Int32 × Int32)) => [(0, .ref a0), (1, .int s1.1), (2, .int s1.2)])) (fun s1 h2 => ?_) (0, 0) h0)) (fun e3 h4 => ?_)
  · refine zg_iload_n 2 rfl d_X7_lacks_4 ?_
    refine zg_aload_n 0 rfl d_X7_lacks_5 ?_
    refine zg_getR d_X7_lacks_6 zc_7 (by decide) fl_X7_29 (fun v5 => ?_)
    refine zg_getI d_X7_lacks_9 zc_6 (by decide) fl_X7_99 (fun v6 => ?_)
    refine zg_icmp_ge d_X7_lacks_12 ?_ ?_
    · exact zg_finK (E := 0) [0, 1, 2] rfl rfl (fun q => q)
    · refine zg_aload_n 0 rfl d_X7_lacks_15 ?_
      refine zg_getR d_X7_lacks_16 zc_7 (by decide) fl_X7_38 (fun v7 => ?_)
      refine zg_iload_n 2 rfl d_X7_lacks_19 ?_
      refine zg_cVi (b := v7) (As := [.int s1.2]) (rest := []) (0, 0) d_X7_lacks_20 zc_5 rfl cw_X7_261 wi_X5_lacksRain ws_X5_lacksRain rfl rfl (Nat.le_of_ble_eq_true rfl) (by decide) (by decide) ⟨by decide, by decide⟩ rfl (t_X5_lacksRain v7 s1.2 h2) (fun v9 h8 => ?_)
      refine zg_if_eq d_X7_lacks_23 ?_ ?_
      · refine zg_iinc 2 (s1.2 + 1) [(2, .int (s1.2 + 1)), (0, .ref a0), (1, .int s1.1)] d_X7_lacks_32 rfl rfl (by decide) rfl ?_
        refine zg_goto d_X7_lacks_35 ?_
        exact zg_finK (E := 0) [1, 2, 0] rfl rfl (fun q => q)
      · refine zg_iload_n 1 rfl d_X7_lacks_26 ?_
        refine zg_iconst 1 rfl d_X7_lacks_27 ?_
        refine zg_iload_n 2 rfl d_X7_lacks_28 ?_
        refine zg_ishl d_X7_lacks_29 ?_
        refine zg_ior d_X7_lacks_30 ?_
        refine zg_istore_n [(1, .int (s1.1 ||| (1 <<< (s1.2 &&& 31)))), (0, .ref a0), (2, .int s1.2)] d_X7_lacks_31 rfl (by decide) rfl ?_
        refine zg_iinc 2 (s1.2 + 1) [(2, .int (s1.2 + 1)), (1, .int (s1.1 ||| (1 <<< (s1.2 &&& 31)))), (0, .ref a0)] d_X7_lacks_32 rfl rfl (by decide) rfl ?_
        refine zg_goto d_X7_lacks_35 ?_
        exact zg_finK (E := 0) [2, 1, 0] rfl rfl (fun q => q)
  · refine zg_iload_n 1 rfl d_X7_lacks_38 ?_
    exact zg_iretK d_X7_lacks_39 rfl ⟨Nat.le_of_ble_eq_true rfl, Nat.le_of_ble_eq_true rfl⟩ (fun q => q)
abbrev M_X7_law : zMt := (RX7, cX7_law, 3, 4, 138, (some .long), "law", 0, 0)
theorem d_X7_law_0 : zDc M_X7_law 0 (.iconst 0) 1 1 := ⟨by decide +kernel, rfl⟩
theorem d_X7_law_1 : zDc M_X7_law 1 (.iload_n 1) 1 2 := ⟨by decide +kernel, rfl⟩
theorem d_X7_law_2 : zDc M_X7_law 2 (.iconst 2) 1 3 := ⟨by decide +kernel, rfl⟩
theorem d_X7_law_3 : zDc M_X7_law 3 (.invokestatic 194) 3 6 := ⟨by decide +kernel, rfl⟩
theorem d_X7_law_6 : zDj M_X7_law 6 (.ifCond .eq 24) 24 9 30 := ⟨by decide +kernel, rfl, by decide⟩
theorem d_X7_law_9 : zDc M_X7_law 9 (.aload_n 0) 1 10 := ⟨by decide +kernel, rfl⟩
theorem d_X7_law_10 : zDc M_X7_law 10 (.iload_n 2) 1 11 := ⟨by decide +kernel, rfl⟩
theorem d_X7_law_11 : zDc M_X7_law 11 (.invokevirtual 118) 3 14 := ⟨by decide +kernel, rfl⟩
theorem d_X7_law_14 : zDj M_X7_law 14 (.ifCond .eq 16) 16 17 30 := ⟨by decide +kernel, rfl, by decide⟩
theorem d_X7_law_17 : zDc M_X7_law 17 (.aload_n 0) 1 18 := ⟨by decide +kernel, rfl⟩
theorem d_X7_law_18 : zDc M_X7_law 18 (.getfield 38) 3 21 := ⟨by decide +kernel, rfl⟩
theorem d_X7_law_21 : zDc M_X7_law 21 (.getfield 140) 3 24 := ⟨by decide +kernel, rfl⟩
theorem d_X7_law_24 : zDc M_X7_law 24 (.iload_n 2) 1 25 := ⟨by decide +kernel, rfl⟩
theorem d_X7_law_25 : zDc M_X7_law 25 (.iaload) 1 26 := ⟨by decide +kernel, rfl⟩
theorem d_X7_law_26 : zDc M_X7_law 26 (.iconst 1) 1 27 := ⟨by decide +kernel, rfl⟩
theorem d_X7_law_27 : zDj M_X7_law 27 (.if_icmp .eq 7) 7 30 34 := ⟨by decide +kernel, rfl, by decide⟩
theorem d_X7_law_30 : zDc M_X7_law 30 (.ldc2_w 198) 3 33 := ⟨by decide +kernel, rfl⟩
theorem d_X7_law_33 : zDc M_X7_law 33 (.lreturn) 1 34 := ⟨by decide +kernel, rfl⟩
theorem d_X7_law_34 : zDc M_X7_law 34 (.aload_n 0) 1 35 := ⟨by decide +kernel, rfl⟩
theorem d_X7_law_35 : zDc M_X7_law 35 (.getfield 38) 3 38 := ⟨by decide +kernel, rfl⟩
theorem d_X7_law_38 : zDc M_X7_law 38 (.iload_n 1) 1 39 := ⟨by decide +kernel, rfl⟩
theorem d_X7_law_39 : zDc M_X7_law 39 (.iload_n 2) 1 40 := ⟨by decide +kernel, rfl⟩
theorem d_X7_law_40 : zDc M_X7_law 40 (.invokevirtual 200) 3 43 := ⟨by decide +kernel, rfl⟩
theorem d_X7_law_43 : zDc M_X7_law 43 (.lreturn) 1 44 := ⟨by decide +kernel, rfl⟩
def f_X7_law (a0 : Nat) (a1 : Int32) (a2 : Int32) (h0 : zHp) : Option (Int64 × zHp) :=
  zbd ((f_X7_isFrom 0 a1 2 h0)) (fun v2 h1 =>
  if v2 = 0 then
  some ((-9223372036854775808), h1)
  else
  zbd (zcv 7 a0 h1 (f_X7_isCloud a0 a2 h1)) (fun v4 h3 =>
  if v4 = 0 then
  some ((-9223372036854775808), h3)
  else
  zob (zgR h3 a0 7 4) (fun v5 =>
  zob (zgR h3 v5 5 5) (fun v6 =>
  zob (zaI 0 h3 v6 a2) (fun v7 =>
  if v7 = 1 then
  zob (zgR h3 a0 7 4) (fun v8 =>
  zbd (zcv 5 v8 h3 (f_X5_worthOf v8 a1 a2 h3)) (fun v10 h9 =>
  some (v10, h9)))
  else
  some ((-9223372036854775808), h3))))))
set_option maxRecDepth 100000 in
set_option maxHeartbeats 4000000 in
theorem t_X7_law (a0 : Nat) (a1 : Int32) (a2 : Int32) (h0 : zHp) : ∀ (r : Int64) (h' : zHp), f_X7_law a0 a1 a2 h0 = some (r, h') → zCt yX7_law (.code yX7_law cX7_law 3 (some .long)) 4 138 0 0 [.ref a0, .int a1, .int a2] h0 (some (.long r)) h' := by
  refine zct_of M_X7_law yX7_law (by decide) rfl rfl [.ref a0, .int a1, .int a2] h0 (Nat.le_of_ble_eq_true rfl) (fun r => some (.long r)) (fun X => ?_)
  show zG X M_X7_law (0, 0) 0 [(0, .ref a0), (1, .int a1), (2, .int a2)] [] h0 (f_X7_law a0 a1 a2 h0) (fun (r : Int64) h' => zKe X (some (.long r)) h')
  unfold f_X7_law
  refine zg_iconst 0 rfl d_X7_law_0 ?_
  refine zg_iload_n 1 rfl d_X7_law_1 ?_
  refine zg_iconst 2 rfl d_X7_law_2 ?_
  refine zg_cSi (As := [.int 0, .int a1, .int 2]) (rest := []) (0, 0) d_X7_law_3 cw_X7_194 wt_X7_isFrom rfl rfl (Nat.le_of_ble_eq_true rfl) (by decide) (by decide) ⟨by decide, by decide⟩ rfl (t_X7_isFrom 0 a1 2 h0) (fun v2 h1 => ?_)
  refine zg_if_eq d_X7_law_6 ?_ ?_
  · refine zg_ldc2 kl_X7_198 d_X7_law_30 ?_
    exact zg_lretK d_X7_law_33 rfl ⟨Nat.le_of_ble_eq_true rfl, Nat.le_of_ble_eq_true rfl⟩ (fun q => q)
  · refine zg_aload_n 0 rfl d_X7_law_9 ?_
    refine zg_iload_n 2 rfl d_X7_law_10 ?_
    refine zg_cVi (b := a0) (As := [.int a2]) (rest := []) (0, 0) d_X7_law_11 zc_7 rfl cw_X7_118 wi_X7_isCloud ws_X7_isCloud rfl rfl (Nat.le_of_ble_eq_true rfl) (by decide) (by decide) ⟨by decide, by decide⟩ rfl (t_X7_isCloud a0 a2 h1) (fun v4 h3 => ?_)
    refine zg_if_eq d_X7_law_14 ?_ ?_
    · refine zg_ldc2 kl_X7_198 d_X7_law_30 ?_
      exact zg_lretK d_X7_law_33 rfl ⟨Nat.le_of_ble_eq_true rfl, Nat.le_of_ble_eq_true rfl⟩ (fun q => q)
    · refine zg_aload_n 0 rfl d_X7_law_17 ?_
      refine zg_getR d_X7_law_18 zc_7 (by decide) fl_X7_38 (fun v5 => ?_)
      refine zg_getR d_X7_law_21 zc_5 (by decide) fl_X7_140 (fun v6 => ?_)
      refine zg_iload_n 2 rfl d_X7_law_24 ?_
      refine zg_ald0 d_X7_law_25 (fun v7 => ?_)
      refine zg_iconst 1 rfl d_X7_law_26 ?_
      refine zg_icmp_eq d_X7_law_27 ?_ ?_
      · refine zg_aload_n 0 rfl d_X7_law_34 ?_
        refine zg_getR d_X7_law_35 zc_7 (by decide) fl_X7_38 (fun v8 => ?_)
        refine zg_iload_n 1 rfl d_X7_law_38 ?_
        refine zg_iload_n 2 rfl d_X7_law_39 ?_
        refine zg_cVl (b := v8) (As := [.int a1, .int a2]) (rest := []) (0, 0) d_X7_law_40 zc_5 rfl cw_X7_200 wi_X5_worthOf ws_X5_worthOf rfl rfl (Nat.le_of_ble_eq_true rfl) (by decide) (by decide) ⟨by decide, by decide⟩ rfl (t_X5_worthOf v8 a1 a2 h3) (fun v10 h9 => ?_)
        exact zg_lretK d_X7_law_43 rfl ⟨Nat.le_of_ble_eq_true rfl, Nat.le_of_ble_eq_true rfl⟩ (fun q => q)
      · refine zg_ldc2 kl_X7_198 d_X7_law_30 ?_
        exact zg_lretK d_X7_law_33 rfl ⟨Nat.le_of_ble_eq_true rfl, Nat.le_of_ble_eq_true rfl⟩ (fun q => q)

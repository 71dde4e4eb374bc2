theorem ml_X7_264 : Cond.methodLink RX7 264 yX1_hoursUntilEnough ∈ zT := zw_of _ 1079 (by decide +kernel) (by decide +kernel)
theorem cd_X1_hoursUntilEnough : Cond.code yX1_hoursUntilEnough cX1_hoursUntilEnough 4 (some .int) ∈ zT := zw_of _ 1082 (by decide +kernel) (by decide +kernel)
theorem cw_X7_264 : zCw RX7 264 yX1_hoursUntilEnough cX1_hoursUntilEnough 4 (some .int) 2 := ⟨ml_X7_264, ni_X1, cd_X1_hoursUntilEnough, by decide, by decide, by decide +kernel⟩
theorem wi_X1_hoursUntilEnough : Cond.instanceMethod yX1_hoursUntilEnough ∈ zT := zw_of _ 1080 (by decide +kernel) (by decide +kernel)
theorem ws_X1_hoursUntilEnough : Cond.selects RX1 yX1_hoursUntilEnough yX1_hoursUntilEnough ∈ zT := zw_of _ 1081 (by decide +kernel) (by decide +kernel)
theorem fl_X7_22 : Cond.fieldLink RX7 22 (TX7 2).1 (TX7 2).2.1 (TX7 2).2.2.1 ∈ zT := zw_of _ 573 (by decide +kernel) (by decide +kernel)
theorem fl_X7_89 : Cond.fieldLink RX7 89 (TX4 14).1 (TX4 14).2.1 (TX4 14).2.2.1 ∈ zT := zw_of _ 356 (by decide +kernel) (by decide +kernel)
theorem fl_X7_92 : Cond.fieldLink RX7 92 (TX4 15).1 (TX4 15).2.1 (TX4 15).2.2.1 ∈ zT := zw_of _ 358 (by decide +kernel) (by decide +kernel)
theorem fl_X7_15 : Cond.fieldLink RX7 15 (TX7 1).1 (TX7 1).2.1 (TX7 1).2.2.1 ∈ zT := zw_of _ 572 (by decide +kernel) (by decide +kernel)
theorem fl_X7_11 : Cond.fieldLink RX7 11 (TX7 0).1 (TX7 0).2.1 (TX7 0).2.2.1 ∈ zT := zw_of _ 571 (by decide +kernel) (by decide +kernel)
theorem ml_X7_70 : Cond.methodLink RX7 70 yX7_putFour ∈ zT := zw_of _ 606 (by decide +kernel) (by decide +kernel)
theorem cd_X7_putFour : Cond.code yX7_putFour cX7_putFour 3 none ∈ zT := zw_of _ 609 (by decide +kernel) (by decide +kernel)
theorem cw_X7_70 : zCw RX7 70 yX7_putFour cX7_putFour 3 none 1 := ⟨ml_X7_70, ni_X7, cd_X7_putFour, by decide, by decide, by decide +kernel⟩
theorem wi_X7_putFour : Cond.instanceMethod yX7_putFour ∈ zT := zw_of _ 608 (by decide +kernel) (by decide +kernel)
theorem ws_X7_putFour : Cond.selects RX7 yX7_putFour yX7_putFour ∈ zT := zw_of _ 0 (by decide +kernel) (by decide +kernel)
theorem fl_X7_171 : Cond.fieldLink RX7 171 (TX6 2).1 (TX6 2).2.1 (TX6 2).2.2.1 ∈ zT := zw_of _ 201 (by decide +kernel) (by decide +kernel)
theorem fl_X7_174 : Cond.fieldLink RX7 174 (TX6 3).1 (TX6 3).2.1 (TX6 3).2.2.1 ∈ zT := zw_of _ 205 (by decide +kernel) (by decide +kernel)
theorem fl_X7_177 : Cond.fieldLink RX7 177 (TX5 9).1 (TX5 9).2.1 (TX5 9).2.2.1 ∈ zT := zw_of _ 430 (by decide +kernel) (by decide +kernel)
theorem ml_X7_118 : Cond.methodLink RX7 118 yX7_isCloud ∈ zT := zw_of _ 879 (by decide +kernel) (by decide +kernel)
theorem cd_X7_isCloud : Cond.code yX7_isCloud cX7_isCloud 2 (some .boolean) ∈ zT := zw_of _ 882 (by decide +kernel) (by decide +kernel)
theorem cw_X7_118 : zCw RX7 118 yX7_isCloud cX7_isCloud 2 (some .boolean) 1 := ⟨ml_X7_118, ni_X7, cd_X7_isCloud, by decide, by decide, by decide +kernel⟩
theorem wi_X7_isCloud : Cond.instanceMethod yX7_isCloud ∈ zT := zw_of _ 881 (by decide +kernel) (by decide +kernel)
theorem ws_X7_isCloud : Cond.selects RX7 yX7_isCloud yX7_isCloud ∈ zT := zw_of _ 33 (by decide +kernel) (by decide +kernel)
theorem fl_X7_140 : Cond.fieldLink RX7 140 (TX5 5).1 (TX5 5).2.1 (TX5 5).2.2.1 ∈ zT := zw_of _ 419 (by decide +kernel) (by decide +kernel)
theorem fl_X7_137 : Cond.fieldLink RX7 137 (TX5 4).1 (TX5 4).2.1 (TX5 4).2.2.1 ∈ zT := zw_of _ 415 (by decide +kernel) (by decide +kernel)
theorem ml_X7_225 : Cond.methodLink RX7 225 yX5_passHour ∈ zT := zw_of _ 961 (by decide +kernel) (by decide +kernel)
theorem cw_X7_225 : zCw RX7 225 yX5_passHour cX5_passHour 3 none 1 := ⟨ml_X7_225, ni_X5, cd_X5_passHour, by decide, by decide, by decide +kernel⟩
theorem ml_X7_180 : Cond.methodLink RX7 180 yX7_isCell ∈ zT := zw_of _ 842 (by decide +kernel) (by decide +kernel)
theorem cw_X7_180 : zCw RX7 180 yX7_isCell cX7_isCell 2 (some .boolean) 2 := ⟨ml_X7_180, ni_X7, cd_X7_isCell, by decide, by decide, by decide +kernel⟩
theorem ml_X7_184 : Cond.methodLink RX7 184 yX5_groundAt ∈ zT := zw_of _ 845 (by decide +kernel) (by decide +kernel)
theorem cw_X7_184 : zCw RX7 184 yX5_groundAt cX5_groundAt 5 (some .int) 2 := ⟨ml_X7_184, ni_X5, cd_X5_groundAt, by decide, by decide, by decide +kernel⟩
theorem ml_X7_191 : Cond.methodLink RX7 191 yX5_cloudsAt ∈ zT := zw_of _ 868 (by decide +kernel) (by decide +kernel)
theorem cw_X7_191 : zCw RX7 191 yX5_cloudsAt cX5_cloudsAt 5 (some .int) 2 := ⟨ml_X7_191, ni_X5, cd_X5_cloudsAt, by decide, by decide, by decide +kernel⟩
theorem fl_X7_305 : Cond.fieldLink RX7 305 (TX3 7).1 (TX3 7).2.1 (TX3 7).2.2.1 ∈ zT := zw_of _ 515 (by decide +kernel) (by decide +kernel)
theorem ml_X7_261 : Cond.methodLink RX7 261 yX5_lacksRain ∈ zT := zw_of _ 1071 (by decide +kernel) (by decide +kernel)
theorem cw_X7_261 : zCw RX7 261 yX5_lacksRain cX5_lacksRain 2 (some .boolean) 1 := ⟨ml_X7_261, ni_X5, cd_X5_lacksRain, by decide, by decide, by decide +kernel⟩
theorem kl_X7_198 : Cond.constantLong RX7 198 (-9223372036854775808) ∈ zT := zw_of _ 883 (by decide +kernel) (by decide +kernel)
theorem ml_X7_200 : Cond.methodLink RX7 200 yX5_worthOf ∈ zT := zw_of _ 884 (by decide +kernel) (by decide +kernel)
theorem cw_X7_200 : zCw RX7 200 yX5_worthOf cX5_worthOf 4 (some .long) 2 := ⟨ml_X7_200, ni_X5, cd_X5_worthOf, by decide, by decide, by decide +kernel⟩
theorem fl_X7_95 : Cond.fieldLink RX7 95 (TX6 1).1 (TX6 1).2.1 (TX6 1).2.2.1 ∈ zT := zw_of _ 198 (by decide +kernel) (by decide +kernel)
theorem ml_X7_102 : Cond.methodLink RX7 102 yX7_numberOf ∈ zT := zw_of _ 809 (by decide +kernel) (by decide +kernel)
theorem cw_X7_102 : zCw RX7 102 yX7_numberOf cX7_numberOf 4 (some .int) 3 := ⟨ml_X7_102, ni_X7, cd_X7_numberOf, by decide, by decide, by decide +kernel⟩
theorem fl_X7_106 : Cond.fieldLink RX7 106 (TX6 4).1 (TX6 4).2.1 (TX6 4).2.2.1 ∈ zT := zw_of _ 209 (by decide +kernel) (by decide +kernel)
theorem fl_X7_112 : Cond.fieldLink RX7 112 (TX6 8).1 (TX6 8).2.1 (TX6 8).2.2.1 ∈ zT := zw_of _ 221 (by decide +kernel) (by decide +kernel)
theorem ml_X7_295 : Cond.methodLink RX7 295 yX3_add ∈ zT := zw_of _ 1165 (by decide +kernel) (by decide +kernel)
theorem cw_X7_295 : zCw RX7 295 yX3_add cX3_add 5 (some .int) 4 := ⟨ml_X7_295, ni_X3, cd_X3_add, by decide, by decide, by decide +kernel⟩
theorem ml_X7_302 : Cond.methodLink RX7 302 yX3_addStrike ∈ zT := zw_of _ 1173 (by decide +kernel) (by decide +kernel)
theorem cd_X3_addStrike : Cond.code yX3_addStrike cX3_addStrike 3 (some .int) ∈ zT := zw_of _ 1176 (by decide +kernel) (by decide +kernel)
theorem cw_X7_302 : zCw RX7 302 yX3_addStrike cX3_addStrike 3 (some .int) 1 := ⟨ml_X7_302, ni_X3, cd_X3_addStrike, by decide, by decide, by decide +kernel⟩
theorem wi_X3_addStrike : Cond.instanceMethod yX3_addStrike ∈ zT := zw_of _ 1174 (by decide +kernel) (by decide +kernel)
theorem ws_X3_addStrike : Cond.selects RX3 yX3_addStrike yX3_addStrike ∈ zT := zw_of _ 1175 (by decide +kernel) (by decide +kernel)
theorem ml_X7_204 : Cond.methodLink RX7 204 yX5_firstToPush ∈ zT := zw_of _ 917 (by decide +kernel) (by decide +kernel)
theorem cw_X7_204 : zCw RX7 204 yX5_firstToPush cX5_firstToPush 3 (some .int) 1 := ⟨ml_X7_204, ni_X5, cd_X5_firstToPush, by decide, by decide, by decide +kernel⟩
theorem fl_X7_125 : Cond.fieldLink RX7 125 (TX5 0).1 (TX5 0).2.1 (TX5 0).2.2.1 ∈ zT := zw_of _ 404 (by decide +kernel) (by decide +kernel)
theorem fl_X7_128 : Cond.fieldLink RX7 128 (TX5 1).1 (TX5 1).2.1 (TX5 1).2.2.1 ∈ zT := zw_of _ 407 (by decide +kernel) (by decide +kernel)
theorem ml_X7_211 : Cond.methodLink RX7 211 yX5_moveCloud ∈ zT := zw_of _ 936 (by decide +kernel) (by decide +kernel)
theorem cw_X7_211 : zCw RX7 211 yX5_moveCloud cX5_moveCloud 5 none 2 := ⟨ml_X7_211, ni_X5, cd_X5_moveCloud, by decide, by decide, by decide +kernel⟩
theorem ml_X7_288 : Cond.methodLink RX7 288 yX1_tryBoth ∈ zT := zw_of _ 1148 (by decide +kernel) (by decide +kernel)
theorem cd_X1_tryBoth : Cond.code yX1_tryBoth cX1_tryBoth 5 none ∈ zT := zw_of _ 1151 (by decide +kernel) (by decide +kernel)
theorem cw_X7_288 : zCw RX7 288 yX1_tryBoth cX1_tryBoth 5 none 3 := ⟨ml_X7_288, ni_X1, cd_X1_tryBoth, by decide, by decide, by decide +kernel⟩
theorem wi_X1_tryBoth : Cond.instanceMethod yX1_tryBoth ∈ zT := zw_of _ 1149 (by decide +kernel) (by decide +kernel)
theorem ws_X1_tryBoth : Cond.selects RX1 yX1_tryBoth yX1_tryBoth ∈ zT := zw_of _ 1150 (by decide +kernel) (by decide +kernel)
theorem ml_X7_292 : Cond.methodLink RX7 292 yX1_isRest ∈ zT := zw_of _ 1153 (by decide +kernel) (by decide +kernel)
theorem cd_X1_isRest : Cond.code yX1_isRest cX1_isRest 5 (some .boolean) ∈ zT := zw_of _ 1156 (by decide +kernel) (by decide +kernel)
theorem cw_X7_292 : zCw RX7 292 yX1_isRest cX1_isRest 5 (some .boolean) 1 := ⟨ml_X7_292, ni_X1, cd_X1_isRest, by decide, by decide, by decide +kernel⟩
theorem wi_X1_isRest : Cond.instanceMethod yX1_isRest ∈ zT := zw_of _ 1154 (by decide +kernel) (by decide +kernel)
theorem ws_X1_isRest : Cond.selects RX1 yX1_isRest yX1_isRest ∈ zT := zw_of _ 1155 (by decide +kernel) (by decide +kernel)
abbrev M_X7_enough : zMt := (RX7, cX7_enough, 2, 7, 202, (some .int), "enough", 0, 0)
theorem d_X7_enough_0 : zDc M_X7_enough 0 (.aload_n 0) 1 1 := ⟨by decide +kernel, rfl⟩
theorem d_X7_enough_1 : zDc M_X7_enough 1 (.iload_n 1) 1 2 := ⟨by decide +kernel, rfl⟩
theorem d_X7_enough_2 : zDc M_X7_enough 2 (.invokevirtual 168) 3 5 := ⟨by decide +kernel, rfl⟩
theorem d_X7_enough_5 : zDj M_X7_enough 5 (.ifCond .eq 18) 18 8 23 := ⟨by decide +kernel, rfl, by decide⟩
theorem d_X7_enough_8 : zDc M_X7_enough 8 (.aload_n 0) 1 9 := ⟨by decide +kernel, rfl⟩
theorem d_X7_enough_9 : zDc M_X7_enough 9 (.getfield 66) 3 12 := ⟨by decide +kernel, rfl⟩
theorem d_X7_enough_12 : zDc M_X7_enough 12 (.aload_n 0) 1 13 := ⟨by decide +kernel, rfl⟩
theorem d_X7_enough_13 : zDc M_X7_enough 13 (.getfield 38) 3 16 := ⟨by decide +kernel, rfl⟩
theorem d_X7_enough_16 : zDc M_X7_enough 16 (.iload_n 1) 1 17 := ⟨by decide +kernel, rfl⟩
theorem d_X7_enough_17 : zDc M_X7_enough 17 (.invokevirtual 264) 3 20 := ⟨by decide +kernel, rfl⟩
theorem d_X7_enough_20 : zDj M_X7_enough 20 (.goto 4) 4 23 24 := ⟨by decide +kernel, rfl, by decide⟩
theorem d_X7_enough_23 : zDc M_X7_enough 23 (.iconst (-1)) 1 24 := ⟨by decide +kernel, rfl⟩
theorem d_X7_enough_24 : zDc M_X7_enough 24 (.ireturn) 1 25 := ⟨by decide +kernel, rfl⟩
def f_X7_enough (a0 : Nat) (a1 : Int32) (h0 : zHp) : Option (Int32 × zHp) :=
  zbd (zcv 7 a0 h0 (f_X7_isField a0 a1 h0)) (fun v2 h1 =>
  if v2 = 0 then
  some ((-1), h1)
  else
  zob (zgR h1 a0 7 9) (fun v3 =>
  zob (zgR h1 a0 7 4) (fun v4 =>
  zbd (zcv 1 v3 h1 (f_X1_hoursUntilEnough v3 v4 a1 h1)) (fun v6 h5 =>
  some (v6, h5)))))
set_option maxRecDepth 100000 in
set_option maxHeartbeats 4000000 in
theorem t_X7_enough (a0 : Nat) (a1 : Int32) (h0 : zHp) : ∀ (r : Int32) (h' : zHp), f_X7_enough a0 a1 h0 = some (r, h') → zCt yX7_enough (.code yX7_enough cX7_enough 2 (some .int)) 7 202 0 0 [.ref a0, .int a1] h0 (some (.int r)) h' := by
  refine zct_of M_X7_enough yX7_enough (by decide) rfl rfl [.ref a0, .int a1] h0 (Nat.le_of_ble_eq_true rfl) (fun r => some (.int r)) (fun X => ?_)
  show zG X M_X7_enough (0, 0) 0 [(0, .ref a0), (1, .int a1)] [] h0 (f_X7_enough a0 a1 h0) (fun (r : Int32) h' => zKe X (some (.int r)) h')
  unfold f_X7_enough
  refine zg_aload_n 0 rfl d_X7_enough_0 ?_
  refine zg_iload_n 1 rfl d_X7_enough_1 ?_
  refine zg_cVi (b := a0) (As := [.int a1]) (rest := []) (0, 0) d_X7_enough_2 zc_7 rfl cw_X7_168 wi_X7_isField ws_X7_isField rfl rfl (Nat.le_of_ble_eq_true rfl) (by decide) (by decide) ⟨by decide, by decide⟩ rfl (t_X7_isField a0 a1 h0) (fun v2 h1 => ?_)
  refine zg_if_eq d_X7_enough_5 ?_ ?_
  · refine zg_iconst (-1) rfl d_X7_enough_23 ?_
    exact zg_iretK d_X7_enough_24 rfl ⟨Nat.le_of_ble_eq_true rfl, Nat.le_of_ble_eq_true rfl⟩ (fun q => q)
  · refine zg_aload_n 0 rfl d_X7_enough_8 ?_
    refine zg_getR d_X7_enough_9 zc_7 (by decide) fl_X7_66 (fun v3 => ?_)
    refine zg_aload_n 0 rfl d_X7_enough_12 ?_
    refine zg_getR d_X7_enough_13 zc_7 (by decide) fl_X7_38 (fun v4 => ?_)
    refine zg_iload_n 1 rfl d_X7_enough_16 ?_
    refine zg_cVi (b := v3) (As := [.ref v4, .int a1]) (rest := []) (0, 0) d_X7_enough_17 zc_1 rfl cw_X7_264 wi_X1_hoursUntilEnough ws_X1_hoursUntilEnough rfl rfl (Nat.le_of_ble_eq_true rfl) (by decide) (by decide) ⟨by decide, by decide⟩ rfl (t_X1_hoursUntilEnough v3 v4 a1 h1) (fun v6 h5 => ?_)
    refine zg_goto d_X7_enough_20 ?_
    exact zg_iretK d_X7_enough_24 rfl ⟨Nat.le_of_ble_eq_true rfl, Nat.le_of_ble_eq_true rfl⟩ (fun q => q)
abbrev M_X7_fault : zMt := (RX7, cX7_fault, 2, 1, 60, (some .int), "fault", 0, 0)
theorem d_X7_fault_0 : zDc M_X7_fault 0 (.iload_n 1) 1 1 := ⟨by decide +kernel, rfl⟩
theorem d_X7_fault_1 : zDj M_X7_fault 1 (.ifCond .ne 11) 11 4 12 := ⟨by decide +kernel, rfl, by decide⟩
theorem d_X7_fault_4 : zDc M_X7_fault 4 (.aload_n 0) 1 5 := ⟨by decide +kernel, rfl⟩
theorem d_X7_fault_5 : zDc M_X7_fault 5 (.getfield 22) 3 8 := ⟨by decide +kernel, rfl⟩
theorem d_X7_fault_8 : zDc M_X7_fault 8 (.getfield 89) 3 11 := ⟨by decide +kernel, rfl⟩
theorem d_X7_fault_11 : zDc M_X7_fault 11 (.ireturn) 1 12 := ⟨by decide +kernel, rfl⟩
theorem d_X7_fault_12 : zDc M_X7_fault 12 (.iload_n 1) 1 13 := ⟨by decide +kernel, rfl⟩
theorem d_X7_fault_13 : zDc M_X7_fault 13 (.iconst 1) 1 14 := ⟨by decide +kernel, rfl⟩
theorem d_X7_fault_14 : zDj M_X7_fault 14 (.if_icmp .ne 13) 13 17 27 := ⟨by decide +kernel, rfl, by decide⟩
theorem d_X7_fault_17 : zDc M_X7_fault 17 (.aload_n 0) 1 18 := ⟨by decide +kernel, rfl⟩
theorem d_X7_fault_18 : zDc M_X7_fault 18 (.getfield 22) 3 21 := ⟨by decide +kernel, rfl⟩
theorem d_X7_fault_21 : zDc M_X7_fault 21 (.getfield 92) 3 24 := ⟨by decide +kernel, rfl⟩
theorem d_X7_fault_24 : zDj M_X7_fault 24 (.goto 4) 4 27 28 := ⟨by decide +kernel, rfl, by decide⟩
theorem d_X7_fault_27 : zDc M_X7_fault 27 (.iconst (-1)) 1 28 := ⟨by decide +kernel, rfl⟩
theorem d_X7_fault_28 : zDc M_X7_fault 28 (.ireturn) 1 29 := ⟨by decide +kernel, rfl⟩
def f_X7_fault (a0 : Nat) (a1 : Int32) (h0 : zHp) : Option (Int32 × zHp) :=
  if a1 = 0 then
  zob (zgR h0 a0 7 2) (fun v1 =>
  zob (zgI h0 v1 4 14) (fun v2 =>
  some (v2, h0)))
  else
  if a1 = 1 then
  zob (zgR h0 a0 7 2) (fun v3 =>
  zob (zgI h0 v3 4 15) (fun v4 =>
  some (v4, h0)))
  else
  some ((-1), h0)
set_option maxRecDepth 100000 in
set_option maxHeartbeats 4000000 in
theorem t_X7_fault (a0 : Nat) (a1 : Int32) (h0 : zHp) : ∀ (r : Int32) (h' : zHp), f_X7_fault a0 a1 h0 = some (r, h') → zCt yX7_fault (.code yX7_fault cX7_fault 2 (some .int)) 1 60 0 0 [.ref a0, .int a1] h0 (some (.int r)) h' := by
  refine zct_of M_X7_fault yX7_fault (by decide) rfl rfl [.ref a0, .int a1] h0 (Nat.le_of_ble_eq_true rfl) (fun r => some (.int r)) (fun X => ?_)
  show zG X M_X7_fault (0, 0) 0 [(0, .ref a0), (1, .int a1)] [] h0 (f_X7_fault a0 a1 h0) (fun (r : Int32) h' => zKe X (some (.int r)) h')
  unfold f_X7_fault
  refine zg_iload_n 1 rfl d_X7_fault_0 ?_
  refine zg_if_ne d_X7_fault_1 ?_ ?_
  · refine zg_aload_n 0 rfl d_X7_fault_4 ?_
    refine zg_getR d_X7_fault_5 zc_7 (by decide) fl_X7_22 (fun v1 => ?_)
    refine zg_getI d_X7_fault_8 zc_4 (by decide) fl_X7_89 (fun v2 => ?_)
    exact zg_iretK d_X7_fault_11 rfl ⟨Nat.le_of_ble_eq_true rfl, Nat.le_of_ble_eq_true rfl⟩ (fun q => q)
  · refine zg_iload_n 1 rfl d_X7_fault_12 ?_
    refine zg_iconst 1 rfl d_X7_fault_13 ?_
    refine zg_icmp_ne d_X7_fault_14 ?_ ?_
    · refine zg_aload_n 0 rfl d_X7_fault_17 ?_
      refine zg_getR d_X7_fault_18 zc_7 (by decide) fl_X7_22 (fun v3 => ?_)
      refine zg_getI d_X7_fault_21 zc_4 (by decide) fl_X7_92 (fun v4 => ?_)
      refine zg_goto d_X7_fault_24 ?_
      exact zg_iretK d_X7_fault_28 rfl ⟨Nat.le_of_ble_eq_true rfl, Nat.le_of_ble_eq_true rfl⟩ (fun q => q)
    · refine zg_iconst (-1) rfl d_X7_fault_27 ?_
      exact zg_iretK d_X7_fault_28 rfl ⟨Nat.le_of_ble_eq_true rfl, Nat.le_of_ble_eq_true rfl⟩ (fun q => q)
abbrev M_X7_putFour : zMt := (RX7, cX7_putFour, 3, 1, 60, none, "putFour", 0, 0)
theorem d_X7_putFour_0 : zDc M_X7_putFour 0 (.bipush 24) 2 2 := ⟨by decide +kernel, rfl⟩
theorem d_X7_putFour_2 : zDc M_X7_putFour 2 (.istore_n 2) 1 3 := ⟨by decide +kernel, rfl⟩
theorem d_X7_putFour_3 : zDc M_X7_putFour 3 (.iload_n 2) 1 4 := ⟨by decide +kernel, rfl⟩
theorem d_X7_putFour_4 : zDj M_X7_putFour 4 (.ifCond .lt 42) 42 7 46 := ⟨by decide +kernel, rfl, by decide⟩
theorem d_X7_putFour_7 : zDc M_X7_putFour 7 (.aload_n 0) 1 8 := ⟨by decide +kernel, rfl⟩
theorem d_X7_putFour_8 : zDc M_X7_putFour 8 (.getfield 15) 3 11 := ⟨by decide +kernel, rfl⟩
theorem d_X7_putFour_11 : zDc M_X7_putFour 11 (.sipush 700) 3 14 := ⟨by decide +kernel, rfl⟩
theorem d_X7_putFour_14 : zDj M_X7_putFour 14 (.if_icmp .ge 32) 32 17 46 := ⟨by decide +kernel, rfl, by decide⟩
theorem d_X7_putFour_17 : zDc M_X7_putFour 17 (.aload_n 0) 1 18 := ⟨by decide +kernel, rfl⟩
theorem d_X7_putFour_18 : zDc M_X7_putFour 18 (.getfield 11) 3 21 := ⟨by decide +kernel, rfl⟩
theorem d_X7_putFour_21 : zDc M_X7_putFour 21 (.aload_n 0) 1 22 := ⟨by decide +kernel, rfl⟩
theorem d_X7_putFour_22 : zDc M_X7_putFour 22 (.getfield 15) 3 25 := ⟨by decide +kernel, rfl⟩
theorem d_X7_putFour_25 : zDc M_X7_putFour 25 (.iload_n 1) 1 26 := ⟨by decide +kernel, rfl⟩
theorem d_X7_putFour_26 : zDc M_X7_putFour 26 (.iload_n 2) 1 27 := ⟨by decide +kernel, rfl⟩
theorem d_X7_putFour_27 : zDc M_X7_putFour 27 (.ishr) 1 28 := ⟨by decide +kernel, rfl⟩
theorem d_X7_putFour_28 : zDc M_X7_putFour 28 (.i2b) 1 29 := ⟨by decide +kernel, rfl⟩
theorem d_X7_putFour_29 : zDc M_X7_putFour 29 (.bastore) 1 30 := ⟨by decide +kernel, rfl⟩
theorem d_X7_putFour_30 : zDc M_X7_putFour 30 (.aload_n 0) 1 31 := ⟨by decide +kernel, rfl⟩
theorem d_X7_putFour_31 : zDc M_X7_putFour 31 (.dup) 1 32 := ⟨by decide +kernel, rfl⟩
theorem d_X7_putFour_32 : zDc M_X7_putFour 32 (.getfield 15) 3 35 := ⟨by decide +kernel, rfl⟩
theorem d_X7_putFour_35 : zDc M_X7_putFour 35 (.iconst 1) 1 36 := ⟨by decide +kernel, rfl⟩
theorem d_X7_putFour_36 : zDc M_X7_putFour 36 (.iadd) 1 37 := ⟨by decide +kernel, rfl⟩
theorem d_X7_putFour_37 : zDc M_X7_putFour 37 (.putfield 15) 3 40 := ⟨by decide +kernel, rfl⟩
theorem d_X7_putFour_40 : zDc M_X7_putFour 40 (.iinc 2 (-8)) 3 43 := ⟨by decide +kernel, rfl⟩
theorem d_X7_putFour_43 : zDj M_X7_putFour 43 (.goto (-40)) (-40) 46 3 := ⟨by decide +kernel, rfl, by decide⟩
theorem d_X7_putFour_46 : zDc M_X7_putFour 46 (.return_) 1 47 := ⟨by decide +kernel, rfl⟩
def f_X7_putFour (a0 : Nat) (a1 : Int32) (h0 : zHp) : Option (Unit × zHp) :=
  zbd (
  zlp (σ := Int32) (β := Int32) zLF (fun s1 h2 =>
  if s1 < 0 then
  some ((.inr s1), h2)
  else
  zob (zgI h2 a0 7 1) (fun v5 =>
  if 700 ≤ v5 then
  some ((.inr s1), h2)
  else
  zob (zgR h2 a0 7 0) (fun v6 =>
  zob (zgI h2 a0 7 1) (fun v7 =>
  zob (zsI 1 h2 v6 v7 (Int8.toInt32 (Int32.toInt8 (a1 >>> (s1 &&& 31))))) (fun h8 =>
  zob (zgI h8 a0 7 1) (fun v9 =>
  zob (zpV h8 a0 7 1 (.int (v9 + 1))) (fun h10 =>
  some ((.inl (s1 + (-8))), h10)))))))) 24 h0) (fun e3 h4 =>
  some ((), h4))
set_option maxRecDepth 100000 in
set_option maxHeartbeats 4000000 in
theorem t_X7_putFour (a0 : Nat) (a1 : Int32) (h0 : zHp) : ∀ (r : Unit) (h' : zHp), f_X7_putFour a0 a1 h0 = some (r, h') → zCt yX7_putFour (.code yX7_putFour cX7_putFour 3 none) 1 60 0 0 [.ref a0, .int a1] h0 (none) h' := by
  refine zct_of M_X7_putFour yX7_putFour (by decide) rfl rfl [.ref a0, .int a1] h0 (Nat.le_of_ble_eq_true rfl) (fun _ => none) (fun X => ?_)
  show zG X M_X7_putFour (0, 0) 0 [(0, .ref a0), (1, .int a1)] [] h0 (f_X7_putFour a0 a1 h0) (fun (_ : Unit) h' => zKe X (none) h')
  unfold f_X7_putFour
  refine zg_bipush 24 rfl d_X7_putFour_0 ?_
  refine zg_istore_n [(2, .int 24), (0, .ref a0), (1, .int a1)] d_X7_putFour_2 rfl (by decide) rfl ?_
  refine zg_bd (E := 46) (el := (fun (e3 : Int32) => [(0, .ref a0), (1, .int a1), (2, .int e3)])) (es := fun _ => []) (zg_sub [1, 2, 0] rfl (zg_lp (el := (fun (s1 : Int32) => [(0, .ref a0), (1, .int a1), (2, .int s1)])) (fun s1 h2 => ?_) 24 h0)) (fun e3 h4 => ?_)
  · refine zg_iload_n 2 rfl d_X7_putFour_3 ?_
    refine zg_if_lt d_X7_putFour_4 ?_ ?_
    · exact zg_finK (E := 0) [0, 1, 2] rfl rfl (fun q => q)
    · refine zg_aload_n 0 rfl d_X7_putFour_7 ?_
      refine zg_getI d_X7_putFour_8 zc_7 (by decide) fl_X7_15 (fun v5 => ?_)
      refine zg_sipush 700 rfl d_X7_putFour_11 ?_
      refine zg_icmp_ge d_X7_putFour_14 ?_ ?_
      · exact zg_finK (E := 0) [0, 1, 2] rfl rfl (fun q => q)
      · refine zg_aload_n 0 rfl d_X7_putFour_17 ?_
        refine zg_getR d_X7_putFour_18 zc_7 (by decide) fl_X7_11 (fun v6 => ?_)
        refine zg_aload_n 0 rfl d_X7_putFour_21 ?_
        refine zg_getI d_X7_putFour_22 zc_7 (by decide) fl_X7_15 (fun v7 => ?_)
        refine zg_iload_n 1 rfl d_X7_putFour_25 ?_
        refine zg_iload_n 2 rfl d_X7_putFour_26 ?_
        refine zg_ishr d_X7_putFour_27 ?_
        refine zg_i2b d_X7_putFour_28 ?_
        refine zg_ast1 d_X7_putFour_29 (fun h8 => ?_)
        refine zg_aload_n 0 rfl d_X7_putFour_30 ?_
        refine zg_dup rfl d_X7_putFour_31 ?_
        refine zg_getI d_X7_putFour_32 zc_7 (by decide) fl_X7_15 (fun v9 => ?_)
        refine zg_iconst 1 rfl d_X7_putFour_35 ?_
        refine zg_iadd d_X7_putFour_36 ?_
        refine zg_putV d_X7_putFour_37 zc_7 (by decide) fl_X7_15 rfl rfl rfl (fun h10 => ?_)
        refine zg_iinc 2 (s1 + (-8)) [(2, .int (s1 + (-8))), (0, .ref a0), (1, .int a1)] d_X7_putFour_40 rfl rfl (by decide) rfl ?_
        refine zg_goto d_X7_putFour_43 ?_
        exact zg_finK (E := 0) [1, 2, 0] rfl rfl (fun q => q)
  · exact zg_vretK d_X7_putFour_46 rfl ⟨Nat.le_of_ble_eq_true rfl, Nat.le_of_ble_eq_true rfl⟩ (fun q => q)
abbrev M_X7_feed : zMt := (RX7, cX7_feed, 6, 2, 82, (some .int), "feed", 0, 0)
theorem d_X7_feed_0 : zDc M_X7_feed 0 (.aload_n 0) 1 1 := ⟨by decide +kernel, rfl⟩
theorem d_X7_feed_1 : zDc M_X7_feed 1 (.getfield 15) 3 4 := ⟨by decide +kernel, rfl⟩
theorem d_X7_feed_4 : zDc M_X7_feed 4 (.bipush 20) 2 6 := ⟨by decide +kernel, rfl⟩
theorem d_X7_feed_6 : zDc M_X7_feed 6 (.iadd) 1 7 := ⟨by decide +kernel, rfl⟩
theorem d_X7_feed_7 : zDc M_X7_feed 7 (.sipush 700) 3 10 := ⟨by decide +kernel, rfl⟩
theorem d_X7_feed_10 : zDj M_X7_feed 10 (.if_icmp .le 5) 5 13 15 := ⟨by decide +kernel, rfl, by decide⟩
theorem d_X7_feed_13 : zDc M_X7_feed 13 (.iconst (-1)) 1 14 := ⟨by decide +kernel, rfl⟩
theorem d_X7_feed_14 : zDc M_X7_feed 14 (.ireturn) 1 15 := ⟨by decide +kernel, rfl⟩
theorem d_X7_feed_15 : zDc M_X7_feed 15 (.aload_n 0) 1 16 := ⟨by decide +kernel, rfl⟩
theorem d_X7_feed_16 : zDc M_X7_feed 16 (.iload_n 1) 1 17 := ⟨by decide +kernel, rfl⟩
theorem d_X7_feed_17 : zDc M_X7_feed 17 (.invokevirtual 70) 3 20 := ⟨by decide +kernel, rfl⟩
theorem d_X7_feed_20 : zDc M_X7_feed 20 (.aload_n 0) 1 21 := ⟨by decide +kernel, rfl⟩
theorem d_X7_feed_21 : zDc M_X7_feed 21 (.iload_n 2) 1 22 := ⟨by decide +kernel, rfl⟩
theorem d_X7_feed_22 : zDc M_X7_feed 22 (.invokevirtual 70) 3 25 := ⟨by decide +kernel, rfl⟩
theorem d_X7_feed_25 : zDc M_X7_feed 25 (.aload_n 0) 1 26 := ⟨by decide +kernel, rfl⟩
theorem d_X7_feed_26 : zDc M_X7_feed 26 (.iload_n 3) 1 27 := ⟨by decide +kernel, rfl⟩
theorem d_X7_feed_27 : zDc M_X7_feed 27 (.invokevirtual 70) 3 30 := ⟨by decide +kernel, rfl⟩
theorem d_X7_feed_30 : zDc M_X7_feed 30 (.aload_n 0) 1 31 := ⟨by decide +kernel, rfl⟩
theorem d_X7_feed_31 : zDc M_X7_feed 31 (.iload 4) 2 33 := ⟨by decide +kernel, rfl⟩
theorem d_X7_feed_33 : zDc M_X7_feed 33 (.invokevirtual 70) 3 36 := ⟨by decide +kernel, rfl⟩
theorem d_X7_feed_36 : zDc M_X7_feed 36 (.aload_n 0) 1 37 := ⟨by decide +kernel, rfl⟩
theorem d_X7_feed_37 : zDc M_X7_feed 37 (.iload 5) 2 39 := ⟨by decide +kernel, rfl⟩
theorem d_X7_feed_39 : zDc M_X7_feed 39 (.invokevirtual 70) 3 42 := ⟨by decide +kernel, rfl⟩
theorem d_X7_feed_42 : zDc M_X7_feed 42 (.aload_n 0) 1 43 := ⟨by decide +kernel, rfl⟩
theorem d_X7_feed_43 : zDc M_X7_feed 43 (.getfield 15) 3 46 := ⟨by decide +kernel, rfl⟩
theorem d_X7_feed_46 : zDc M_X7_feed 46 (.ireturn) 1 47 := ⟨by decide +kernel, rfl⟩
def f_X7_feed (a0 : Nat) (a1 : Int32) (a2 : Int32) (a3 : Int32) (a4 : Int32) (a5 : Int32) (h0 : zHp) : Option (Int32 × zHp) :=
  zob (zgI h0 a0 7 1) (fun v1 =>
  if (v1 + 20) ≤ 700 then
  zbd (zcv 7 a0 h0 (f_X7_putFour a0 a1 h0)) (fun v3 h2 =>
  zbd (zcv 7 a0 h2 (f_X7_putFour a0 a2 h2)) (fun v5 h4 =>
  zbd (zcv 7 a0 h4 (f_X7_putFour a0 a3 h4)) (fun v7 h6 =>
  zbd (zcv 7 a0 h6 (f_X7_putFour a0 a4 h6)) (fun v9 h8 =>
  zbd (zcv 7 a0 h8 (f_X7_putFour a0 a5 h8)) (fun v11 h10 =>
  zob (zgI h10 a0 7 1) (fun v12 =>
  some (v12, h10)))))))
  else
  some ((-1), h0))
set_option maxRecDepth 100000 in
set_option maxHeartbeats 4000000 in
theorem t_X7_feed (a0 : Nat) (a1 : Int32) (a2 : Int32) (a3 : Int32) (a4 : Int32) (a5 : Int32) (h0 : zHp) : ∀ (r : Int32) (h' : zHp), f_X7_feed a0 a1 a2 a3 a4 a5 h0 = some (r, h') → zCt yX7_feed (.code yX7_feed cX7_feed 6 (some .int)) 2 82 0 0 [.ref a0, .int a1, .int a2, .int a3, .int a4, .int a5] h0 (some (.int r)) h' := by
  refine zct_of M_X7_feed yX7_feed (by decide) rfl rfl [.ref a0, .int a1, .int a2, .int a3, .int a4, .int a5] h0 (Nat.le_of_ble_eq_true rfl) (fun r => some (.int r)) (fun X => ?_)
  show zG X M_X7_feed (0, 0) 0 [(0, .ref a0), (1, .int a1), (2, .int a2), (3, .int a3), (4, .int a4), (5, .int a5)] [] h0 (f_X7_feed a0 a1 a2 a3 a4 a5 h0) (fun (r : Int32) h' => zKe X (some (.int r)) h')
  unfold f_X7_feed
  refine zg_aload_n 0 rfl d_X7_feed_0 ?_
  refine zg_getI d_X7_feed_1 zc_7 (by decide) fl_X7_15 (fun v1 => ?_)
  refine zg_bipush 20 rfl d_X7_feed_4 ?_
  refine zg_iadd d_X7_feed_6 ?_
  refine zg_sipush 700 rfl d_X7_feed_7 ?_
  refine zg_icmp_le d_X7_feed_10 ?_ ?_
  · refine zg_aload_n 0 rfl d_X7_feed_15 ?_
    refine zg_iload_n 1 rfl d_X7_feed_16 ?_
    refine zg_cVv (b := a0) (As := [.int a1]) (rest := []) (0, 0) d_X7_feed_17 zc_7 rfl cw_X7_70 wi_X7_putFour ws_X7_putFour rfl rfl (Nat.le_of_ble_eq_true rfl) (by decide) (by decide) ⟨by decide, by decide⟩ rfl (t_X7_putFour a0 a1 h0) (fun v3 h2 => ?_)
    refine zg_aload_n 0 rfl d_X7_feed_20 ?_
    refine zg_iload_n 2 rfl d_X7_feed_21 ?_
    refine zg_cVv (b := a0) (As := [.int a2]) (rest := []) (0, 0) d_X7_feed_22 zc_7 rfl cw_X7_70 wi_X7_putFour ws_X7_putFour rfl rfl (Nat.le_of_ble_eq_true rfl) (by decide) (by decide) ⟨by decide, by decide⟩ rfl (t_X7_putFour a0 a2 h2) (fun v5 h4 => ?_)
    refine zg_aload_n 0 rfl d_X7_feed_25 ?_
    refine zg_iload_n 3 rfl d_X7_feed_26 ?_
    refine zg_cVv (b := a0) (As := [.int a3]) (rest := []) (0, 0) d_X7_feed_27 zc_7 rfl cw_X7_70 wi_X7_putFour ws_X7_putFour rfl rfl (Nat.le_of_ble_eq_true rfl) (by decide) (by decide) ⟨by decide, by decide⟩ rfl (t_X7_putFour a0 a3 h4) (fun v7 h6 => ?_)
    refine zg_aload_n 0 rfl d_X7_feed_30 ?_
    refine zg_iload 4 rfl d_X7_feed_31 ?_
    refine zg_cVv (b := a0) (As := [.int a4]) (rest := []) (0, 0) d_X7_feed_33 zc_7 rfl cw_X7_70 wi_X7_putFour ws_X7_putFour rfl rfl (Nat.le_of_ble_eq_true rfl) (by decide) (by decide) ⟨by decide, by decide⟩ rfl (t_X7_putFour a0 a4 h6) (fun v9 h8 => ?_)
    refine zg_aload_n 0 rfl d_X7_feed_36 ?_
    refine zg_iload 5 rfl d_X7_feed_37 ?_
    refine zg_cVv (b := a0) (As := [.int a5]) (rest := []) (0, 0) d_X7_feed_39 zc_7 rfl cw_X7_70 wi_X7_putFour ws_X7_putFour rfl rfl (Nat.le_of_ble_eq_true rfl) (by decide) (by decide) ⟨by decide, by decide⟩ rfl (t_X7_putFour a0 a5 h8) (fun v11 h10 => ?_)
    refine zg_aload_n 0 rfl d_X7_feed_42 ?_
    refine zg_getI d_X7_feed_43 zc_7 (by decide) fl_X7_15 (fun v12 => ?_)
    exact zg_iretK d_X7_feed_46 rfl ⟨Nat.le_of_ble_eq_true rfl, Nat.le_of_ble_eq_true rfl⟩ (fun q => q)
  · refine zg_iconst (-1) rfl d_X7_feed_13 ?_
    exact zg_iretK d_X7_feed_14 rfl ⟨Nat.le_of_ble_eq_true rfl, Nat.le_of_ble_eq_true rfl⟩ (fun q => q)
abbrev M_X7_field : zMt := (RX7, cX7_field, 3, 2, 81, (some .int), "field", 0, 0)
theorem d_X7_field_0 : zDc M_X7_field 0 (.aload_n 0) 1 1 := ⟨by decide +kernel, rfl⟩
theorem d_X7_field_1 : zDc M_X7_field 1 (.iload_n 1) 1 2 := ⟨by decide +kernel, rfl⟩
theorem d_X7_field_2 : zDc M_X7_field 2 (.invokevirtual 168) 3 5 := ⟨by decide +kernel, rfl⟩
theorem d_X7_field_5 : zDj M_X7_field 5 (.ifCond .ne 5) 5 8 10 := ⟨by decide +kernel, rfl, by decide⟩
theorem d_X7_field_8 : zDc M_X7_field 8 (.iconst (-1)) 1 9 := ⟨by decide +kernel, rfl⟩
theorem d_X7_field_9 : zDc M_X7_field 9 (.ireturn) 1 10 := ⟨by decide +kernel, rfl⟩
theorem d_X7_field_10 : zDc M_X7_field 10 (.iload_n 2) 1 11 := ⟨by decide +kernel, rfl⟩
theorem d_X7_field_11 : decode M_X7_field.2.1 11 = .ok (.tableswitch 75 0 3 #[29, 42, 55, 65], 29) := by decide +kernel
theorem d_X7_field_40 : zDc M_X7_field 40 (.aload_n 0) 1 41 := ⟨by decide +kernel, rfl⟩
theorem d_X7_field_41 : zDc M_X7_field 41 (.getfield 29) 3 44 := ⟨by decide +kernel, rfl⟩
theorem d_X7_field_44 : zDc M_X7_field 44 (.getfield 171) 3 47 := ⟨by decide +kernel, rfl⟩
theorem d_X7_field_47 : zDc M_X7_field 47 (.iload_n 1) 1 48 := ⟨by decide +kernel, rfl⟩
theorem d_X7_field_48 : zDc M_X7_field 48 (.iaload) 1 49 := ⟨by decide +kernel, rfl⟩
theorem d_X7_field_49 : zDc M_X7_field 49 (.bipush 6) 2 51 := ⟨by decide +kernel, rfl⟩
theorem d_X7_field_51 : zDc M_X7_field 51 (.irem) 1 52 := ⟨by decide +kernel, rfl⟩
theorem d_X7_field_52 : zDc M_X7_field 52 (.ireturn) 1 53 := ⟨by decide +kernel, rfl⟩
theorem d_X7_field_53 : zDc M_X7_field 53 (.aload_n 0) 1 54 := ⟨by decide +kernel, rfl⟩
theorem d_X7_field_54 : zDc M_X7_field 54 (.getfield 29) 3 57 := ⟨by decide +kernel, rfl⟩
theorem d_X7_field_57 : zDc M_X7_field 57 (.getfield 171) 3 60 := ⟨by decide +kernel, rfl⟩
theorem d_X7_field_60 : zDc M_X7_field 60 (.iload_n 1) 1 61 := ⟨by decide +kernel, rfl⟩
theorem d_X7_field_61 : zDc M_X7_field 61 (.iaload) 1 62 := ⟨by decide +kernel, rfl⟩
theorem d_X7_field_62 : zDc M_X7_field 62 (.bipush 6) 2 64 := ⟨by decide +kernel, rfl⟩
theorem d_X7_field_64 : zDc M_X7_field 64 (.idiv) 1 65 := ⟨by decide +kernel, rfl⟩
theorem d_X7_field_65 : zDc M_X7_field 65 (.ireturn) 1 66 := ⟨by decide +kernel, rfl⟩
theorem d_X7_field_66 : zDc M_X7_field 66 (.aload_n 0) 1 67 := ⟨by decide +kernel, rfl⟩
theorem d_X7_field_67 : zDc M_X7_field 67 (.getfield 29) 3 70 := ⟨by decide +kernel, rfl⟩
theorem d_X7_field_70 : zDc M_X7_field 70 (.getfield 174) 3 73 := ⟨by decide +kernel, rfl⟩
theorem d_X7_field_73 : zDc M_X7_field 73 (.iload_n 1) 1 74 := ⟨by decide +kernel, rfl⟩
theorem d_X7_field_74 : zDc M_X7_field 74 (.iaload) 1 75 := ⟨by decide +kernel, rfl⟩
theorem d_X7_field_75 : zDc M_X7_field 75 (.ireturn) 1 76 := ⟨by decide +kernel, rfl⟩
theorem d_X7_field_76 : zDc M_X7_field 76 (.aload_n 0) 1 77 := ⟨by decide +kernel, rfl⟩
theorem d_X7_field_77 : zDc M_X7_field 77 (.getfield 38) 3 80 := ⟨by decide +kernel, rfl⟩
theorem d_X7_field_80 : zDc M_X7_field 80 (.getfield 177) 3 83 := ⟨by decide +kernel, rfl⟩
theorem d_X7_field_83 : zDc M_X7_field 83 (.iload_n 1) 1 84 := ⟨by decide +kernel, rfl⟩
theorem d_X7_field_84 : zDc M_X7_field 84 (.iaload) 1 85 := ⟨by decide +kernel, rfl⟩
theorem d_X7_field_85 : zDc M_X7_field 85 (.ireturn) 1 86 := ⟨by decide +kernel, rfl⟩
theorem d_X7_field_86 : zDc M_X7_field 86 (.iconst (-1)) 1 87 := ⟨by decide +kernel, rfl⟩
theorem d_X7_field_87 : zDc M_X7_field 87 (.ireturn) 1 88 := ⟨by decide +kernel, rfl⟩
def f_X7_field (a0 : Nat) (a1 : Int32) (a2 : Int32) (h0 : zHp) : Option (Int32 × zHp) :=
  zbd (zcv 7 a0 h0 (f_X7_isField a0 a1 h0)) (fun v2 h1 =>
  if v2 = 0 then
  some ((-1), h1)
  else
  if a2 = 0 then
  zob (zgR h1 a0 7 3) (fun v3 =>
  zob (zgR h1 v3 6 2) (fun v4 =>
  zob (zaI 0 h1 v4 a1) (fun v5 =>
  some ((zrm v5 6), h1))))
  else if a2 = 1 then
  zob (zgR h1 a0 7 3) (fun v6 =>
  zob (zgR h1 v6 6 2) (fun v7 =>
  zob (zaI 0 h1 v7 a1) (fun v8 =>
  some ((v8 / 6), h1))))
  else if a2 = 2 then
  zob (zgR h1 a0 7 3) (fun v9 =>
  zob (zgR h1 v9 6 3) (fun v10 =>
  zob (zaI 0 h1 v10 a1) (fun v11 =>
  some (v11, h1))))
  else if a2 = 3 then
  zob (zgR h1 a0 7 4) (fun v12 =>
  zob (zgR h1 v12 5 9) (fun v13 =>
  zob (zaI 0 h1 v13 a1) (fun v14 =>
  some (v14, h1))))
  else 
  some ((-1), h1))
set_option maxRecDepth 100000 in
set_option maxHeartbeats 4000000 in
theorem t_X7_field (a0 : Nat) (a1 : Int32) (a2 : Int32) (h0 : zHp) : ∀ (r : Int32) (h' : zHp), f_X7_field a0 a1 a2 h0 = some (r, h') → zCt yX7_field (.code yX7_field cX7_field 3 (some .int)) 2 81 0 0 [.ref a0, .int a1, .int a2] h0 (some (.int r)) h' := by
  refine zct_of M_X7_field yX7_field (by decide) rfl rfl [.ref a0, .int a1, .int a2] h0 (Nat.le_of_ble_eq_true rfl) (fun r => some (.int r)) (fun X => ?_)
  show zG X M_X7_field (0, 0) 0 [(0, .ref a0), (1, .int a1), (2, .int a2)] [] h0 (f_X7_field a0 a1 a2 h0) (fun (r : Int32) h' => zKe X (some (.int r)) h')
  unfold f_X7_field
  refine zg_aload_n 0 rfl d_X7_field_0 ?_
  refine zg_iload_n 1 rfl d_X7_field_1 ?_
  refine zg_cVi (b := a0) (As := [.int a1]) (rest := []) (0, 0) d_X7_field_2 zc_7 rfl cw_X7_168 wi_X7_isField ws_X7_isField rfl rfl (Nat.le_of_ble_eq_true rfl) (by decide) (by decide) ⟨by decide, by decide⟩ rfl (t_X7_isField a0 a1 h0) (fun v2 h1 => ?_)
  refine zg_if_ne d_X7_field_5 ?_ ?_
  · refine zg_iconst (-1) rfl d_X7_field_8 ?_
    exact zg_iretK d_X7_field_9 rfl ⟨Nat.le_of_ble_eq_true rfl, Nat.le_of_ble_eq_true rfl⟩ (fun q => q)
  · refine zg_iload_n 2 rfl d_X7_field_10 ?_
    refine zg_if (fun n15 => ?_) (fun n15 => ?_)
    · refine zg_tabE n15 d_X7_field_11 (by decide) (by decide) (off := 29) rfl (tgt := 40) (by decide) ?_
      refine zg_aload_n 0 rfl d_X7_field_40 ?_
      refine zg_getR d_X7_field_41 zc_7 (by decide) fl_X7_29 (fun v3 => ?_)
      refine zg_getR d_X7_field_44 zc_6 (by decide) fl_X7_171 (fun v4 => ?_)
      refine zg_iload_n 1 rfl d_X7_field_47 ?_
      refine zg_ald0 d_X7_field_48 (fun v5 => ?_)
      refine zg_bipush 6 rfl d_X7_field_49 ?_
      refine zg_irem (by decide) d_X7_field_51 ?_
      exact zg_iretK d_X7_field_52 rfl ⟨Nat.le_of_ble_eq_true rfl, Nat.le_of_ble_eq_true rfl⟩ (fun q => q)
    refine zg_if (fun n16 => ?_) (fun n16 => ?_)
    · refine zg_tabE n16 d_X7_field_11 (by decide) (by decide) (off := 42) rfl (tgt := 53) (by decide) ?_
      refine zg_aload_n 0 rfl d_X7_field_53 ?_
      refine zg_getR d_X7_field_54 zc_7 (by decide) fl_X7_29 (fun v6 => ?_)
      refine zg_getR d_X7_field_57 zc_6 (by decide) fl_X7_171 (fun v7 => ?_)
      refine zg_iload_n 1 rfl d_X7_field_60 ?_
      refine zg_ald0 d_X7_field_61 (fun v8 => ?_)
      refine zg_bipush 6 rfl d_X7_field_62 ?_
      refine zg_idiv (by decide) d_X7_field_64 ?_
      exact zg_iretK d_X7_field_65 rfl ⟨Nat.le_of_ble_eq_true rfl, Nat.le_of_ble_eq_true rfl⟩ (fun q => q)
    refine zg_if (fun n17 => ?_) (fun n17 => ?_)
    · refine zg_tabE n17 d_X7_field_11 (by decide) (by decide) (off := 55) rfl (tgt := 66) (by decide) ?_
      refine zg_aload_n 0 rfl d_X7_field_66 ?_
      refine zg_getR d_X7_field_67 zc_7 (by decide) fl_X7_29 (fun v9 => ?_)
      refine zg_getR d_X7_field_70 zc_6 (by decide) fl_X7_174 (fun v10 => ?_)
      refine zg_iload_n 1 rfl d_X7_field_73 ?_
      refine zg_ald0 d_X7_field_74 (fun v11 => ?_)
      exact zg_iretK d_X7_field_75 rfl ⟨Nat.le_of_ble_eq_true rfl, Nat.le_of_ble_eq_true rfl⟩ (fun q => q)
    refine zg_if (fun n18 => ?_) (fun n18 => ?_)
    · refine zg_tabE n18 d_X7_field_11 (by decide) (by decide) (off := 65) rfl (tgt := 76) (by decide) ?_
      refine zg_aload_n 0 rfl d_X7_field_76 ?_
      refine zg_getR d_X7_field_77 zc_7 (by decide) fl_X7_38 (fun v12 => ?_)
      refine zg_getR d_X7_field_80 zc_5 (by decide) fl_X7_177 (fun v13 => ?_)
      refine zg_iload_n 1 rfl d_X7_field_83 ?_
      refine zg_ald0 d_X7_field_84 (fun v14 => ?_)
      exact zg_iretK d_X7_field_85 rfl ⟨Nat.le_of_ble_eq_true rfl, Nat.le_of_ble_eq_true rfl⟩ (fun q => q)
    refine zg_tabO d_X7_field_11 (by have q0 := lv_neT n15 (a := 0) rfl; have q1 := lv_neT n16 (a := 1) rfl; have q2 := lv_neT n17 (a := 2) rfl; have q3 := lv_neT n18 (a := 3) rfl; omega) (tgt := 86) (by decide) ?_
    refine zg_iconst (-1) rfl d_X7_field_86 ?_
    exact zg_iretK d_X7_field_87 rfl ⟨Nat.le_of_ble_eq_true rfl, Nat.le_of_ble_eq_true rfl⟩ (fun q => q)
abbrev M_X7_give : zMt := (RX7, cX7_give, 3, 3, 104, (some .boolean), "give", 0, 0)
theorem d_X7_give_0 : zDc M_X7_give 0 (.aload_n 0) 1 1 := ⟨by decide +kernel, rfl⟩
theorem d_X7_give_1 : zDc M_X7_give 1 (.iload_n 1) 1 2 := ⟨by decide +kernel, rfl⟩
theorem d_X7_give_2 : zDc M_X7_give 2 (.invokevirtual 118) 3 5 := ⟨by decide +kernel, rfl⟩
theorem d_X7_give_5 : zDj M_X7_give 5 (.ifCond .eq 29) 29 8 34 := ⟨by decide +kernel, rfl, by decide⟩
theorem d_X7_give_8 : zDc M_X7_give 8 (.aload_n 0) 1 9 := ⟨by decide +kernel, rfl⟩
theorem d_X7_give_9 : zDc M_X7_give 9 (.getfield 38) 3 12 := ⟨by decide +kernel, rfl⟩
theorem d_X7_give_12 : zDc M_X7_give 12 (.getfield 140) 3 15 := ⟨by decide +kernel, rfl⟩
theorem d_X7_give_15 : zDc M_X7_give 15 (.iload_n 1) 1 16 := ⟨by decide +kernel, rfl⟩
theorem d_X7_give_16 : zDc M_X7_give 16 (.iaload) 1 17 := ⟨by decide +kernel, rfl⟩
theorem d_X7_give_17 : zDc M_X7_give 17 (.iconst 1) 1 18 := ⟨by decide +kernel, rfl⟩
theorem d_X7_give_18 : zDj M_X7_give 18 (.if_icmp .ne 16) 16 21 34 := ⟨by decide +kernel, rfl, by decide⟩
theorem d_X7_give_21 : zDc M_X7_give 21 (.iload_n 2) 1 22 := ⟨by decide +kernel, rfl⟩
theorem d_X7_give_22 : zDc M_X7_give 22 (.iconst (-1)) 1 23 := ⟨by decide +kernel, rfl⟩
theorem d_X7_give_23 : zDj M_X7_give 23 (.if_icmp .eq 13) 13 26 36 := ⟨by decide +kernel, rfl, by decide⟩
theorem d_X7_give_26 : zDc M_X7_give 26 (.aload_n 0) 1 27 := ⟨by decide +kernel, rfl⟩
theorem d_X7_give_27 : zDc M_X7_give 27 (.iload_n 2) 1 28 := ⟨by decide +kernel, rfl⟩
theorem d_X7_give_28 : zDc M_X7_give 28 (.invokevirtual 146) 3 31 := ⟨by decide +kernel, rfl⟩
theorem d_X7_give_31 : zDj M_X7_give 31 (.ifCond .ne 5) 5 34 36 := ⟨by decide +kernel, rfl, by decide⟩
theorem d_X7_give_34 : zDc M_X7_give 34 (.iconst 0) 1 35 := ⟨by decide +kernel, rfl⟩
theorem d_X7_give_35 : zDc M_X7_give 35 (.ireturn) 1 36 := ⟨by decide +kernel, rfl⟩
theorem d_X7_give_36 : zDc M_X7_give 36 (.aload_n 0) 1 37 := ⟨by decide +kernel, rfl⟩
theorem d_X7_give_37 : zDc M_X7_give 37 (.getfield 38) 3 40 := ⟨by decide +kernel, rfl⟩
theorem d_X7_give_40 : zDc M_X7_give 40 (.getfield 137) 3 43 := ⟨by decide +kernel, rfl⟩
theorem d_X7_give_43 : zDc M_X7_give 43 (.iload_n 1) 1 44 := ⟨by decide +kernel, rfl⟩
theorem d_X7_give_44 : zDc M_X7_give 44 (.iaload) 1 45 := ⟨by decide +kernel, rfl⟩
theorem d_X7_give_45 : zDc M_X7_give 45 (.iload_n 2) 1 46 := ⟨by decide +kernel, rfl⟩
theorem d_X7_give_46 : zDj M_X7_give 46 (.if_icmp .ne 5) 5 49 51 := ⟨by decide +kernel, rfl, by decide⟩
theorem d_X7_give_49 : zDc M_X7_give 49 (.iconst 0) 1 50 := ⟨by decide +kernel, rfl⟩
theorem d_X7_give_50 : zDc M_X7_give 50 (.ireturn) 1 51 := ⟨by decide +kernel, rfl⟩
theorem d_X7_give_51 : zDc M_X7_give 51 (.aload_n 0) 1 52 := ⟨by decide +kernel, rfl⟩
theorem d_X7_give_52 : zDc M_X7_give 52 (.getfield 52) 3 55 := ⟨by decide +kernel, rfl⟩
theorem d_X7_give_55 : zDc M_X7_give 55 (.iconst 1) 1 56 := ⟨by decide +kernel, rfl⟩
theorem d_X7_give_56 : zDc M_X7_give 56 (.iload_n 1) 1 57 := ⟨by decide +kernel, rfl⟩
theorem d_X7_give_57 : zDc M_X7_give 57 (.aload_n 0) 1 58 := ⟨by decide +kernel, rfl⟩
theorem d_X7_give_58 : zDc M_X7_give 58 (.getfield 38) 3 61 := ⟨by decide +kernel, rfl⟩
theorem d_X7_give_61 : zDc M_X7_give 61 (.getfield 137) 3 64 := ⟨by decide +kernel, rfl⟩
theorem d_X7_give_64 : zDc M_X7_give 64 (.iload_n 1) 1 65 := ⟨by decide +kernel, rfl⟩
theorem d_X7_give_65 : zDc M_X7_give 65 (.iaload) 1 66 := ⟨by decide +kernel, rfl⟩
theorem d_X7_give_66 : zDc M_X7_give 66 (.iconst 0) 1 67 := ⟨by decide +kernel, rfl⟩
theorem d_X7_give_67 : zDc M_X7_give 67 (.invokevirtual 207) 3 70 := ⟨by decide +kernel, rfl⟩
theorem d_X7_give_70 : zDc M_X7_give 70 (.aload_n 0) 1 71 := ⟨by decide +kernel, rfl⟩
theorem d_X7_give_71 : zDc M_X7_give 71 (.getfield 38) 3 74 := ⟨by decide +kernel, rfl⟩
theorem d_X7_give_74 : zDc M_X7_give 74 (.getfield 137) 3 77 := ⟨by decide +kernel, rfl⟩
theorem d_X7_give_77 : zDc M_X7_give 77 (.iload_n 1) 1 78 := ⟨by decide +kernel, rfl⟩
theorem d_X7_give_78 : zDc M_X7_give 78 (.iload_n 2) 1 79 := ⟨by decide +kernel, rfl⟩
theorem d_X7_give_79 : zDc M_X7_give 79 (.iastore) 1 80 := ⟨by decide +kernel, rfl⟩
theorem d_X7_give_80 : zDc M_X7_give 80 (.iconst 1) 1 81 := ⟨by decide +kernel, rfl⟩
theorem d_X7_give_81 : zDc M_X7_give 81 (.ireturn) 1 82 := ⟨by decide +kernel, rfl⟩
def f_X7_give (a0 : Nat) (a1 : Int32) (a2 : Int32) (h0 : zHp) : Option (Int32 × zHp) :=
  zbd (zcv 7 a0 h0 (f_X7_isCloud a0 a1 h0)) (fun v2 h1 =>
  if v2 = 0 then
  some (0, h1)
  else
  zob (zgR h1 a0 7 4) (fun v3 =>
  zob (zgR h1 v3 5 5) (fun v4 =>
  zob (zaI 0 h1 v4 a1) (fun v5 =>
  if v5 = 1 then
  zbd (α := (Unit ⊕ Int32)) (
  if a2 = (-1) then
  some ((.inl ()), h1)
  else
  zbd (zcv 7 a0 h1 (f_X7_isChild a0 a2 h1)) (fun v7 h6 =>
  if v7 = 0 then
  some ((.inr 0), h6)
  else
  some ((.inl ()), h6))) (fun b22 h9 => zsl b22 (fun e8 =>
  zob (zgR h9 a0 7 4) (fun v10 =>
  zob (zgR h9 v10 5 4) (fun v11 =>
  zob (zaI 0 h9 v11 a1) (fun v12 =>
  if v12 = a2 then
  some (0, h9)
  else
  zob (zgR h9 a0 7 7) (fun v13 =>
  zob (zgR h9 a0 7 4) (fun v14 =>
  zob (zgR h9 v14 5 4) (fun v15 =>
  zob (zaI 0 h9 v15 a1) (fun v16 =>
  zbd (zcv 0 v13 h9 (f_X0_remember v13 1 a1 v16 0 h9)) (fun v18 h17 =>
  zob (zgR h17 a0 7 4) (fun v19 =>
  zob (zgR h17 v19 5 4) (fun v20 =>
  zob (zsI 0 h17 v20 a1 a2) (fun h21 =>
  some (1, h21))))))))))))) (fun r => some (r, h9)))
  else
  some (0, h1)))))
set_option maxRecDepth 100000 in
set_option maxHeartbeats 4000000 in
theorem t_X7_give (a0 : Nat) (a1 : Int32) (a2 : Int32) (h0 : zHp) : ∀ (r : Int32) (h' : zHp), f_X7_give a0 a1 a2 h0 = some (r, h') → zCt yX7_give (.code yX7_give cX7_give 3 (some .boolean)) 3 104 0 0 [.ref a0, .int a1, .int a2] h0 (some (.int r)) h' := by
  refine zct_of M_X7_give yX7_give (by decide) rfl rfl [.ref a0, .int a1, .int a2] h0 (Nat.le_of_ble_eq_true rfl) (fun r => some (.int r)) (fun X => ?_)
  show zG X M_X7_give (0, 0) 0 [(0, .ref a0), (1, .int a1), (2, .int a2)] [] h0 (f_X7_give a0 a1 a2 h0) (fun (r : Int32) h' => zKe X (some (.int r)) h')
  unfold f_X7_give
  refine zg_aload_n 0 rfl d_X7_give_0 ?_
  refine zg_iload_n 1 rfl d_X7_give_1 ?_
  refine zg_cVi (b := a0) (As := [.int a1]) (rest := []) (0, 0) d_X7_give_2 zc_7 rfl cw_X7_118 wi_X7_isCloud ws_X7_isCloud rfl rfl (Nat.le_of_ble_eq_true rfl) (by decide) (by decide) ⟨by decide, by decide⟩ rfl (t_X7_isCloud a0 a1 h0) (fun v2 h1 => ?_)
  refine zg_if_eq d_X7_give_5 ?_ ?_
  · refine zg_iconst 0 rfl d_X7_give_34 ?_
    exact zg_zretK d_X7_give_35 rfl ⟨Nat.le_of_ble_eq_true rfl, Nat.le_of_ble_eq_true rfl⟩ (Or.inl rfl) (fun q => q)
  · refine zg_aload_n 0 rfl d_X7_give_8 ?_
    refine zg_getR d_X7_give_9 zc_7 (by decide) fl_X7_38 (fun v3 => ?_)
    refine zg_getR d_X7_give_12 zc_5 (by decide) fl_X7_140 (fun v4 => ?_)
    refine zg_iload_n 1 rfl d_X7_give_15 ?_
    refine zg_ald0 d_X7_give_16 (fun v5 => ?_)
    refine zg_iconst 1 rfl d_X7_give_17 ?_
    refine zg_icmp_ne d_X7_give_18 ?_ ?_
    · refine zg_iload_n 2 rfl d_X7_give_21 ?_
      refine zg_iconst (-1) rfl d_X7_give_22 ?_
      refine zg_bdr (E := 36) (el := (fun (e8 : Unit) => [(0, .ref a0), (1, .int a1), (2, .int a2)])) (es := (fun (e8 : Unit) => [])) ?_ (fun e8 h9 => ?_)
      · refine zg_icmp_eq d_X7_give_23 ?_ ?_
        · exact zg_finK (E := 0) [0, 1, 2] rfl rfl (fun q => q)
        · refine zg_aload_n 0 rfl d_X7_give_26 ?_
          refine zg_iload_n 2 rfl d_X7_give_27 ?_
          refine zg_cVi (b := a0) (As := [.int a2]) (rest := []) (0, 0) d_X7_give_28 zc_7 rfl cw_X7_146 wi_X7_isChild ws_X7_isChild rfl rfl (Nat.le_of_ble_eq_true rfl) (by decide) (by decide) ⟨by decide, by decide⟩ rfl (t_X7_isChild a0 a2 h1) (fun v7 h6 => ?_)
          refine zg_if_ne d_X7_give_31 ?_ ?_
          · refine zg_iconst 0 rfl d_X7_give_34 ?_
            exact zg_zretK d_X7_give_35 rfl ⟨Nat.le_of_ble_eq_true rfl, Nat.le_of_ble_eq_true rfl⟩ (Or.inl rfl) (fun q => q)
          · exact zg_finK (E := 0) [0, 1, 2] rfl rfl (fun q => q)
      · refine zg_aload_n 0 rfl d_X7_give_36 ?_
        refine zg_getR d_X7_give_37 zc_7 (by decide) fl_X7_38 (fun v10 => ?_)
        refine zg_getR d_X7_give_40 zc_5 (by decide) fl_X7_137 (fun v11 => ?_)
        refine zg_iload_n 1 rfl d_X7_give_43 ?_
        refine zg_ald0 d_X7_give_44 (fun v12 => ?_)
        refine zg_iload_n 2 rfl d_X7_give_45 ?_
        refine zg_icmp_ne d_X7_give_46 ?_ ?_
        · refine zg_iconst 0 rfl d_X7_give_49 ?_
          exact zg_zretK d_X7_give_50 rfl ⟨Nat.le_of_ble_eq_true rfl, Nat.le_of_ble_eq_true rfl⟩ (Or.inl rfl) (fun q => q)
        · refine zg_aload_n 0 rfl d_X7_give_51 ?_
          refine zg_getR d_X7_give_52 zc_7 (by decide) fl_X7_52 (fun v13 => ?_)
          refine zg_iconst 1 rfl d_X7_give_55 ?_
          refine zg_iload_n 1 rfl d_X7_give_56 ?_
          refine zg_aload_n 0 rfl d_X7_give_57 ?_
          refine zg_getR d_X7_give_58 zc_7 (by decide) fl_X7_38 (fun v14 => ?_)
          refine zg_getR d_X7_give_61 zc_5 (by decide) fl_X7_137 (fun v15 => ?_)
          refine zg_iload_n 1 rfl d_X7_give_64 ?_
          refine zg_ald0 d_X7_give_65 (fun v16 => ?_)
          refine zg_iconst 0 rfl d_X7_give_66 ?_
          refine zg_cVv (b := v13) (As := [.int 1, .int a1, .int v16, .int 0]) (rest := []) (0, 0) d_X7_give_67 zc_0 rfl cw_X7_207 wi_X0_remember ws_X0_remember rfl rfl (Nat.le_of_ble_eq_true rfl) (by decide) (by decide) ⟨by decide, by decide⟩ rfl (t_X0_remember v13 1 a1 v16 0 h9) (fun v18 h17 => ?_)
          refine zg_aload_n 0 rfl d_X7_give_70 ?_
          refine zg_getR d_X7_give_71 zc_7 (by decide) fl_X7_38 (fun v19 => ?_)
          refine zg_getR d_X7_give_74 zc_5 (by decide) fl_X7_137 (fun v20 => ?_)
          refine zg_iload_n 1 rfl d_X7_give_77 ?_
          refine zg_iload_n 2 rfl d_X7_give_78 ?_
          refine zg_ast0 d_X7_give_79 (fun h21 => ?_)
          refine zg_iconst 1 rfl d_X7_give_80 ?_
          exact zg_zretK d_X7_give_81 rfl ⟨Nat.le_of_ble_eq_true rfl, Nat.le_of_ble_eq_true rfl⟩ (Or.inr rfl) (fun q => q)
    · refine zg_iconst 0 rfl d_X7_give_34 ?_
      exact zg_zretK d_X7_give_35 rfl ⟨Nat.le_of_ble_eq_true rfl, Nat.le_of_ble_eq_true rfl⟩ (Or.inl rfl) (fun q => q)
abbrev M_X7_go : zMt := (RX7, cX7_go, 3, 6, 179, (some .int), "go", 0, 0)
theorem d_X7_go_0 : zDc M_X7_go 0 (.iconst 0) 1 1 := ⟨by decide +kernel, rfl⟩
theorem d_X7_go_1 : zDc M_X7_go 1 (.iload_n 1) 1 2 := ⟨by decide +kernel, rfl⟩
theorem d_X7_go_2 : zDc M_X7_go 2 (.bipush 99) 2 4 := ⟨by decide +kernel, rfl⟩
theorem d_X7_go_4 : zDc M_X7_go 4 (.invokestatic 194) 3 7 := ⟨by decide +kernel, rfl⟩
theorem d_X7_go_7 : zDj M_X7_go 7 (.ifCond .eq 18) 18 10 25 := ⟨by decide +kernel, rfl, by decide⟩
theorem d_X7_go_10 : zDc M_X7_go 10 (.aload_n 0) 1 11 := ⟨by decide +kernel, rfl⟩
theorem d_X7_go_11 : zDc M_X7_go 11 (.getfield 38) 3 14 := ⟨by decide +kernel, rfl⟩
theorem d_X7_go_14 : zDc M_X7_go 14 (.getfield 218) 3 17 := ⟨by decide +kernel, rfl⟩
theorem d_X7_go_17 : zDc M_X7_go 17 (.iload_n 1) 1 18 := ⟨by decide +kernel, rfl⟩
theorem d_X7_go_18 : zDc M_X7_go 18 (.iadd) 1 19 := ⟨by decide +kernel, rfl⟩
theorem d_X7_go_19 : zDc M_X7_go 19 (.sipush 999) 3 22 := ⟨by decide +kernel, rfl⟩
theorem d_X7_go_22 : zDj M_X7_go 22 (.if_icmp .le 5) 5 25 27 := ⟨by decide +kernel, rfl, by decide⟩
theorem d_X7_go_25 : zDc M_X7_go 25 (.iconst (-1)) 1 26 := ⟨by decide +kernel, rfl⟩
theorem d_X7_go_26 : zDc M_X7_go 26 (.ireturn) 1 27 := ⟨by decide +kernel, rfl⟩
theorem d_X7_go_27 : zDc M_X7_go 27 (.iload_n 1) 1 28 := ⟨by decide +kernel, rfl⟩
theorem d_X7_go_28 : zDj M_X7_go 28 (.ifCond .le 10) 10 31 38 := ⟨by decide +kernel, rfl, by decide⟩
theorem d_X7_go_31 : zDc M_X7_go 31 (.aload_n 0) 1 32 := ⟨by decide +kernel, rfl⟩
theorem d_X7_go_32 : zDc M_X7_go 32 (.getfield 52) 3 35 := ⟨by decide +kernel, rfl⟩
theorem d_X7_go_35 : zDc M_X7_go 35 (.invokevirtual 88) 3 38 := ⟨by decide +kernel, rfl⟩
theorem d_X7_go_38 : zDc M_X7_go 38 (.iconst 0) 1 39 := ⟨by decide +kernel, rfl⟩
theorem d_X7_go_39 : zDc M_X7_go 39 (.istore_n 2) 1 40 := ⟨by decide +kernel, rfl⟩
theorem d_X7_go_40 : zDc M_X7_go 40 (.iload_n 2) 1 41 := ⟨by decide +kernel, rfl⟩
theorem d_X7_go_41 : zDc M_X7_go 41 (.iload_n 1) 1 42 := ⟨by decide +kernel, rfl⟩
theorem d_X7_go_42 : zDj M_X7_go 42 (.if_icmp .ge 23) 23 45 65 := ⟨by decide +kernel, rfl, by decide⟩
theorem d_X7_go_45 : zDc M_X7_go 45 (.aload_n 0) 1 46 := ⟨by decide +kernel, rfl⟩
theorem d_X7_go_46 : zDc M_X7_go 46 (.getfield 38) 3 49 := ⟨by decide +kernel, rfl⟩
theorem d_X7_go_49 : zDc M_X7_go 49 (.aload_n 0) 1 50 := ⟨by decide +kernel, rfl⟩
theorem d_X7_go_50 : zDc M_X7_go 50 (.getfield 38) 3 53 := ⟨by decide +kernel, rfl⟩
theorem d_X7_go_53 : zDc M_X7_go 53 (.invokevirtual 221) 3 56 := ⟨by decide +kernel, rfl⟩
theorem d_X7_go_56 : zDc M_X7_go 56 (.invokevirtual 225) 3 59 := ⟨by decide +kernel, rfl⟩
theorem d_X7_go_59 : zDc M_X7_go 59 (.iinc 2 1) 3 62 := ⟨by decide +kernel, rfl⟩
theorem d_X7_go_62 : zDj M_X7_go 62 (.goto (-22)) (-22) 65 40 := ⟨by decide +kernel, rfl, by decide⟩
theorem d_X7_go_65 : zDc M_X7_go 65 (.aload_n 0) 1 66 := ⟨by decide +kernel, rfl⟩
theorem d_X7_go_66 : zDc M_X7_go 66 (.getfield 38) 3 69 := ⟨by decide +kernel, rfl⟩
theorem d_X7_go_69 : zDc M_X7_go 69 (.getfield 218) 3 72 := ⟨by decide +kernel, rfl⟩
theorem d_X7_go_72 : zDc M_X7_go 72 (.ireturn) 1 73 := ⟨by decide +kernel, rfl⟩
def f_X7_go (a0 : Nat) (a1 : Int32) (h0 : zHp) : Option (Int32 × zHp) :=
  zbd ((f_X7_isFrom 0 a1 99 h0)) (fun v2 h1 =>
  if v2 = 0 then
  some ((-1), h1)
  else
  zob (zgR h1 a0 7 4) (fun v3 =>
  zob (zgI h1 v3 5 11) (fun v4 =>
  if (v4 + a1) ≤ 999 then
  zbd (α := Unit) (
  if a1 ≤ 0 then
  some ((), h1)
  else
  zob (zgR h1 a0 7 7) (fun v5 =>
  zbd (zcv 0 v5 h1 (f_X0_forget v5 h1)) (fun v7 h6 =>
  some ((), h6)))) (fun e8 h9 =>
  zbd (
  zlp (σ := Int32) (β := Int32) zLF (fun s10 h11 =>
  if a1 ≤ s10 then
  some ((.inr s10), h11)
  else
  zob (zgR h11 a0 7 4) (fun v14 =>
  zob (zgR h11 a0 7 4) (fun v15 =>
  zbd (zcv 5 v15 h11 (f_X5_windNow v15 h11)) (fun v17 h16 =>
  zbd (zcv 5 v14 h16 (f_X5_passHour v14 v17 h16)) (fun v19 h18 =>
  some ((.inl (s10 + 1)), h18)))))) 0 h9) (fun e12 h13 =>
  zob (zgR h13 a0 7 4) (fun v20 =>
  zob (zgI h13 v20 5 11) (fun v21 =>
  some (v21, h13)))))
  else
  some ((-1), h1))))
set_option maxRecDepth 100000 in
set_option maxHeartbeats 4000000 in
theorem t_X7_go (a0 : Nat) (a1 : Int32) (h0 : zHp) : ∀ (r : Int32) (h' : zHp), f_X7_go a0 a1 h0 = some (r, h') → zCt yX7_go (.code yX7_go cX7_go 3 (some .int)) 6 179 0 0 [.ref a0, .int a1] h0 (some (.int r)) h' := by
  refine zct_of M_X7_go yX7_go (by decide) rfl rfl [.ref a0, .int a1] h0 (Nat.le_of_ble_eq_true rfl) (fun r => some (.int r)) (fun X => ?_)
  show zG X M_X7_go (0, 0) 0 [(0, .ref a0), (1, .int a1)] [] h0 (f_X7_go a0 a1 h0) (fun (r : Int32) h' => zKe X (some (.int r)) h')
  unfold f_X7_go
  refine zg_iconst 0 rfl d_X7_go_0 ?_
  refine zg_iload_n 1 rfl d_X7_go_1 ?_
  refine zg_bipush 99 rfl d_X7_go_2 ?_
  refine zg_cSi (As := [.int 0, .int a1, .int 99]) (rest := []) (0, 0) d_X7_go_4 cw_X7_194 wt_X7_isFrom rfl rfl (Nat.le_of_ble_eq_true rfl) (by decide) (by decide) ⟨by decide, by decide⟩ rfl (t_X7_isFrom 0 a1 99 h0) (fun v2 h1 => ?_)
  refine zg_if_eq d_X7_go_7 ?_ ?_
  · refine zg_iconst (-1) rfl d_X7_go_25 ?_
    exact zg_iretK d_X7_go_26 rfl ⟨Nat.le_of_ble_eq_true rfl, Nat.le_of_ble_eq_true rfl⟩ (fun q => q)
  · refine zg_aload_n 0 rfl d_X7_go_10 ?_
    refine zg_getR d_X7_go_11 zc_7 (by decide) fl_X7_38 (fun v3 => ?_)
    refine zg_getI d_X7_go_14 zc_5 (by decide) fl_X7_218 (fun v4 => ?_)
    refine zg_iload_n 1 rfl d_X7_go_17 ?_
    refine zg_iadd d_X7_go_18 ?_
    refine zg_sipush 999 rfl d_X7_go_19 ?_
    refine zg_icmp_le d_X7_go_22 ?_ ?_
    · refine zg_iload_n 1 rfl d_X7_go_27 ?_
      refine zg_bd (E := 38) (el := (fun (e8 : Unit) => [(0, .ref a0), (1, .int a1)])) (es := (fun (e8 : Unit) => [])) ?_ (fun e8 h9 => ?_)
      · refine zg_if_le d_X7_go_28 ?_ ?_
        · exact zg_finK (E := 0) [0, 1] rfl rfl (fun q => q)
        · refine zg_aload_n 0 rfl d_X7_go_31 ?_
          refine zg_getR d_X7_go_32 zc_7 (by decide) fl_X7_52 (fun v5 => ?_)
          refine zg_cVv (b := v5) (As := []) (rest := []) (0, 0) d_X7_go_35 zc_0 rfl cw_X7_88 wi_X0_forget ws_X0_forget rfl rfl (Nat.le_of_ble_eq_true rfl) (by decide) (by decide) ⟨by decide, by decide⟩ rfl (t_X0_forget v5 h1) (fun v7 h6 => ?_)
          exact zg_finK (E := 0) [0, 1] rfl rfl (fun q => q)
      · refine zg_iconst 0 rfl d_X7_go_38 ?_
        refine zg_istore_n [(2, .int 0), (0, .ref a0), (1, .int a1)] d_X7_go_39 rfl (by decide) rfl ?_
        refine zg_bd (E := 65) (el := (fun (e12 : Int32) => [(0, .ref a0), (1, .int a1), (2, .int e12)])) (es := fun _ => []) (zg_sub [1, 2, 0] rfl (zg_lp (el := (fun (s10 : Int32) => [(0, .ref a0), (1, .int a1), (2, .int s10)])) (fun s10 h11 => ?_) 0 h9)) (fun e12 h13 => ?_)
        · refine zg_iload_n 2 rfl d_X7_go_40 ?_
          refine zg_iload_n 1 rfl d_X7_go_41 ?_
          refine zg_icmp_ge d_X7_go_42 ?_ ?_
          · exact zg_finK (E := 0) [0, 1, 2] rfl rfl (fun q => q)
          · refine zg_aload_n 0 rfl d_X7_go_45 ?_
            refine zg_getR d_X7_go_46 zc_7 (by decide) fl_X7_38 (fun v14 => ?_)
            refine zg_aload_n 0 rfl d_X7_go_49 ?_
            refine zg_getR d_X7_go_50 zc_7 (by decide) fl_X7_38 (fun v15 => ?_)
            refine zg_cVi (b := v15) (As := []) (rest := [.ref v14]) (0, 0) d_X7_go_53 zc_5 rfl cw_X7_221 wi_X5_windNow ws_X5_windNow rfl rfl (Nat.le_of_ble_eq_true rfl) (by decide) (by decide) ⟨by decide, by decide⟩ rfl (t_X5_windNow v15 h11) (fun v17 h16 => ?_)
            refine zg_cVv (b := v14) (As := [.int v17]) (rest := []) (0, 0) d_X7_go_56 zc_5 rfl cw_X7_225 wi_X5_passHour ws_X5_passHour rfl rfl (Nat.le_of_ble_eq_true rfl) (by decide) (by decide) ⟨by decide, by decide⟩ rfl (t_X5_passHour v14 v17 h16) (fun v19 h18 => ?_)
            refine zg_iinc 2 (s10 + 1) [(2, .int (s10 + 1)), (0, .ref a0), (1, .int a1)] d_X7_go_59 rfl rfl (by decide) rfl ?_
            refine zg_goto d_X7_go_62 ?_
            exact zg_finK (E := 0) [1, 2, 0] rfl rfl (fun q => q)
        · refine zg_aload_n 0 rfl d_X7_go_65 ?_
          refine zg_getR d_X7_go_66 zc_7 (by decide) fl_X7_38 (fun v20 => ?_)
          refine zg_getI d_X7_go_69 zc_5 (by decide) fl_X7_218 (fun v21 => ?_)
          exact zg_iretK d_X7_go_72 rfl ⟨Nat.le_of_ble_eq_true rfl, Nat.le_of_ble_eq_true rfl⟩ (fun q => q)
    · refine zg_iconst (-1) rfl d_X7_go_25 ?_
      exact zg_iretK d_X7_go_26 rfl ⟨Nat.le_of_ble_eq_true rfl, Nat.le_of_ble_eq_true rfl⟩ (fun q => q)
abbrev M_X7_ground : zMt := (RX7, cX7_ground, 3, 2, 84, (some .int), "ground", 0, 0)
theorem d_X7_ground_0 : zDc M_X7_ground 0 (.iload_n 1) 1 1 := ⟨by decide +kernel, rfl⟩
theorem d_X7_ground_1 : zDc M_X7_ground 1 (.iload_n 2) 1 2 := ⟨by decide +kernel, rfl⟩
theorem d_X7_ground_2 : zDc M_X7_ground 2 (.invokestatic 180) 3 5 := ⟨by decide +kernel, rfl⟩
theorem d_X7_ground_5 : zDj M_X7_ground 5 (.ifCond .eq 15) 15 8 20 := ⟨by decide +kernel, rfl, by decide⟩
theorem d_X7_ground_8 : zDc M_X7_ground 8 (.aload_n 0) 1 9 := ⟨by decide +kernel, rfl⟩
theorem d_X7_ground_9 : zDc M_X7_ground 9 (.getfield 38) 3 12 := ⟨by decide +kernel, rfl⟩
theorem d_X7_ground_12 : zDc M_X7_ground 12 (.iload_n 1) 1 13 := ⟨by decide +kernel, rfl⟩
theorem d_X7_ground_13 : zDc M_X7_ground 13 (.iload_n 2) 1 14 := ⟨by decide +kernel, rfl⟩
theorem d_X7_ground_14 : zDc M_X7_ground 14 (.invokevirtual 184) 3 17 := ⟨by decide +kernel, rfl⟩
theorem d_X7_ground_17 : zDj M_X7_ground 17 (.goto 4) 4 20 21 := ⟨by decide +kernel, rfl, by decide⟩
theorem d_X7_ground_20 : zDc M_X7_ground 20 (.iconst (-1)) 1 21 := ⟨by decide +kernel, rfl⟩
theorem d_X7_ground_21 : zDc M_X7_ground 21 (.ireturn) 1 22 := ⟨by decide +kernel, rfl⟩
def f_X7_ground (a0 : Nat) (a1 : Int32) (a2 : Int32) (h0 : zHp) : Option (Int32 × zHp) :=
  zbd ((f_X7_isCell a1 a2 h0)) (fun v2 h1 =>
  if v2 = 0 then
  some ((-1), h1)
  else
  zob (zgR h1 a0 7 4) (fun v3 =>
  zbd (zcv 5 v3 h1 (f_X5_groundAt v3 a1 a2 h1)) (fun v5 h4 =>
  some (v5, h4))))
set_option maxRecDepth 100000 in
set_option maxHeartbeats 4000000 in
theorem t_X7_ground (a0 : Nat) (a1 : Int32) (a2 : Int32) (h0 : zHp) : ∀ (r : Int32) (h' : zHp), f_X7_ground a0 a1 a2 h0 = some (r, h') → zCt yX7_ground (.code yX7_ground cX7_ground 3 (some .int)) 2 84 0 0 [.ref a0, .int a1, .int a2] h0 (some (.int r)) h' := by
  refine zct_of M_X7_ground yX7_ground (by decide) rfl rfl [.ref a0, .int a1, .int a2] h0 (Nat.le_of_ble_eq_true rfl) (fun r => some (.int r)) (fun X => ?_)
  show zG X M_X7_ground (0, 0) 0 [(0, .ref a0), (1, .int a1), (2, .int a2)] [] h0 (f_X7_ground a0 a1 a2 h0) (fun (r : Int32) h' => zKe X (some (.int r)) h')
  unfold f_X7_ground
  refine zg_iload_n 1 rfl d_X7_ground_0 ?_
  refine zg_iload_n 2 rfl d_X7_ground_1 ?_
  refine zg_cSi (As := [.int a1, .int a2]) (rest := []) (0, 0) d_X7_ground_2 cw_X7_180 wt_X7_isCell rfl rfl (Nat.le_of_ble_eq_true rfl) (by decide) (by decide) ⟨by decide, by decide⟩ rfl (t_X7_isCell a1 a2 h0) (fun v2 h1 => ?_)
  refine zg_if_eq d_X7_ground_5 ?_ ?_
  · refine zg_iconst (-1) rfl d_X7_ground_20 ?_
    exact zg_iretK d_X7_ground_21 rfl ⟨Nat.le_of_ble_eq_true rfl, Nat.le_of_ble_eq_true rfl⟩ (fun q => q)
  · refine zg_aload_n 0 rfl d_X7_ground_8 ?_
    refine zg_getR d_X7_ground_9 zc_7 (by decide) fl_X7_38 (fun v3 => ?_)
    refine zg_iload_n 1 rfl d_X7_ground_12 ?_
    refine zg_iload_n 2 rfl d_X7_ground_13 ?_
    refine zg_cVi (b := v3) (As := [.int a1, .int a2]) (rest := []) (0, 0) d_X7_ground_14 zc_5 rfl cw_X7_184 wi_X5_groundAt ws_X5_groundAt rfl rfl (Nat.le_of_ble_eq_true rfl) (by decide) (by decide) ⟨by decide, by decide⟩ rfl (t_X5_groundAt v3 a1 a2 h1) (fun v5 h4 => ?_)
    refine zg_goto d_X7_ground_17 ?_
    exact zg_iretK d_X7_ground_21 rfl ⟨Nat.le_of_ble_eq_true rfl, Nat.le_of_ble_eq_true rfl⟩ (fun q => q)
abbrev M_X7_in : zMt := (RX7, cX7_in, 3, 3, 105, (some .int), "in", 0, 0)
theorem d_X7_in_0 : zDc M_X7_in 0 (.iload_n 1) 1 1 := ⟨by decide +kernel, rfl⟩
theorem d_X7_in_1 : zDc M_X7_in 1 (.iload_n 2) 1 2 := ⟨by decide +kernel, rfl⟩
theorem d_X7_in_2 : zDc M_X7_in 2 (.invokestatic 180) 3 5 := ⟨by decide +kernel, rfl⟩
theorem d_X7_in_5 : zDj M_X7_in 5 (.ifCond .eq 15) 15 8 20 := ⟨by decide +kernel, rfl, by decide⟩
theorem d_X7_in_8 : zDc M_X7_in 8 (.aload_n 0) 1 9 := ⟨by decide +kernel, rfl⟩
theorem d_X7_in_9 : zDc M_X7_in 9 (.getfield 38) 3 12 := ⟨by decide +kernel, rfl⟩
theorem d_X7_in_12 : zDc M_X7_in 12 (.iload_n 1) 1 13 := ⟨by decide +kernel, rfl⟩
theorem d_X7_in_13 : zDc M_X7_in 13 (.iload_n 2) 1 14 := ⟨by decide +kernel, rfl⟩
theorem d_X7_in_14 : zDc M_X7_in 14 (.invokevirtual 191) 3 17 := ⟨by decide +kernel, rfl⟩
theorem d_X7_in_17 : zDj M_X7_in 17 (.goto 4) 4 20 21 := ⟨by decide +kernel, rfl, by decide⟩
theorem d_X7_in_20 : zDc M_X7_in 20 (.iconst (-1)) 1 21 := ⟨by decide +kernel, rfl⟩
theorem d_X7_in_21 : zDc M_X7_in 21 (.ireturn) 1 22 := ⟨by decide +kernel, rfl⟩
def f_X7_in (a0 : Nat) (a1 : Int32) (a2 : Int32) (h0 : zHp) : Option (Int32 × zHp) :=
  zbd ((f_X7_isCell a1 a2 h0)) (fun v2 h1 =>
  if v2 = 0 then
  some ((-1), h1)
  else
  zob (zgR h1 a0 7 4) (fun v3 =>
  zbd (zcv 5 v3 h1 (f_X5_cloudsAt v3 a1 a2 h1)) (fun v5 h4 =>
  some (v5, h4))))
set_option maxRecDepth 100000 in
set_option maxHeartbeats 4000000 in
theorem t_X7_in (a0 : Nat) (a1 : Int32) (a2 : Int32) (h0 : zHp) : ∀ (r : Int32) (h' : zHp), f_X7_in a0 a1 a2 h0 = some (r, h') → zCt yX7_in (.code yX7_in cX7_in 3 (some .int)) 3 105 0 0 [.ref a0, .int a1, .int a2] h0 (some (.int r)) h' := by
  refine zct_of M_X7_in yX7_in (by decide) rfl rfl [.ref a0, .int a1, .int a2] h0 (Nat.le_of_ble_eq_true rfl) (fun r => some (.int r)) (fun X => ?_)
  show zG X M_X7_in (0, 0) 0 [(0, .ref a0), (1, .int a1), (2, .int a2)] [] h0 (f_X7_in a0 a1 a2 h0) (fun (r : Int32) h' => zKe X (some (.int r)) h')
  unfold f_X7_in
  refine zg_iload_n 1 rfl d_X7_in_0 ?_
  refine zg_iload_n 2 rfl d_X7_in_1 ?_
  refine zg_cSi (As := [.int a1, .int a2]) (rest := []) (0, 0) d_X7_in_2 cw_X7_180 wt_X7_isCell rfl rfl (Nat.le_of_ble_eq_true rfl) (by decide) (by decide) ⟨by decide, by decide⟩ rfl (t_X7_isCell a1 a2 h0) (fun v2 h1 => ?_)
  refine zg_if_eq d_X7_in_5 ?_ ?_
  · refine zg_iconst (-1) rfl d_X7_in_20 ?_
    exact zg_iretK d_X7_in_21 rfl ⟨Nat.le_of_ble_eq_true rfl, Nat.le_of_ble_eq_true rfl⟩ (fun q => q)
  · refine zg_aload_n 0 rfl d_X7_in_8 ?_
    refine zg_getR d_X7_in_9 zc_7 (by decide) fl_X7_38 (fun v3 => ?_)
    refine zg_iload_n 1 rfl d_X7_in_12 ?_
    refine zg_iload_n 2 rfl d_X7_in_13 ?_
    refine zg_cVi (b := v3) (As := [.int a1, .int a2]) (rest := []) (0, 0) d_X7_in_14 zc_5 rfl cw_X7_191 wi_X5_cloudsAt ws_X5_cloudsAt rfl rfl (Nat.le_of_ble_eq_true rfl) (by decide) (by decide) ⟨by decide, by decide⟩ rfl (t_X5_cloudsAt v3 a1 a2 h1) (fun v5 h4 => ?_)
    refine zg_goto d_X7_in_17 ?_
    exact zg_iretK d_X7_in_21 rfl ⟨Nat.le_of_ble_eq_true rfl, Nat.le_of_ble_eq_true rfl⟩ (fun q => q)
abbrev M_X7_keep : zMt := (RX7, cX7_keep, 1, 2, 82, (some .int), "keep", 0, 0)
theorem d_X7_keep_0 : zDc M_X7_keep 0 (.aload_n 0) 1 1 := ⟨by decide +kernel, rfl⟩
theorem d_X7_keep_1 : zDc M_X7_keep 1 (.getfield 42) 3 4 := ⟨by decide +kernel, rfl⟩
theorem d_X7_keep_4 : zDc M_X7_keep 4 (.aload_n 0) 1 5 := ⟨by decide +kernel, rfl⟩
theorem d_X7_keep_5 : zDc M_X7_keep 5 (.getfield 38) 3 8 := ⟨by decide +kernel, rfl⟩
theorem d_X7_keep_8 : zDc M_X7_keep 8 (.invokevirtual 328) 3 11 := ⟨by decide +kernel, rfl⟩
theorem d_X7_keep_11 : zDc M_X7_keep 11 (.aload_n 0) 1 12 := ⟨by decide +kernel, rfl⟩
theorem d_X7_keep_12 : zDc M_X7_keep 12 (.iconst 1) 1 13 := ⟨by decide +kernel, rfl⟩
theorem d_X7_keep_13 : zDc M_X7_keep 13 (.putfield 45) 3 16 := ⟨by decide +kernel, rfl⟩
theorem d_X7_keep_16 : zDc M_X7_keep 16 (.aload_n 0) 1 17 := ⟨by decide +kernel, rfl⟩
theorem d_X7_keep_17 : zDc M_X7_keep 17 (.getfield 38) 3 20 := ⟨by decide +kernel, rfl⟩
theorem d_X7_keep_20 : zDc M_X7_keep 20 (.getfield 218) 3 23 := ⟨by decide +kernel, rfl⟩
theorem d_X7_keep_23 : zDc M_X7_keep 23 (.ireturn) 1 24 := ⟨by decide +kernel, rfl⟩
def f_X7_keep (a0 : Nat) (h0 : zHp) : Option (Int32 × zHp) :=
  zob (zgR h0 a0 7 5) (fun v1 =>
  zob (zgR h0 a0 7 4) (fun v2 =>
  zbd (zcv 5 v1 h0 (f_X5_copyFrom v1 v2 h0)) (fun v4 h3 =>
  zob (zpV h3 a0 7 6 (.int 1)) (fun h5 =>
  zob (zgR h5 a0 7 4) (fun v6 =>
  zob (zgI h5 v6 5 11) (fun v7 =>
  some (v7, h5)))))))
set_option maxRecDepth 100000 in
set_option maxHeartbeats 4000000 in
theorem t_X7_keep (a0 : Nat) (h0 : zHp) : ∀ (r : Int32) (h' : zHp), f_X7_keep a0 h0 = some (r, h') → zCt yX7_keep (.code yX7_keep cX7_keep 1 (some .int)) 2 82 0 0 [.ref a0] h0 (some (.int r)) h' := by
  refine zct_of M_X7_keep yX7_keep (by decide) rfl rfl [.ref a0] h0 (Nat.le_of_ble_eq_true rfl) (fun r => some (.int r)) (fun X => ?_)
  show zG X M_X7_keep (0, 0) 0 [(0, .ref a0)] [] h0 (f_X7_keep a0 h0) (fun (r : Int32) h' => zKe X (some (.int r)) h')
  unfold f_X7_keep
  refine zg_aload_n 0 rfl d_X7_keep_0 ?_
  refine zg_getR d_X7_keep_1 zc_7 (by decide) fl_X7_42 (fun v1 => ?_)
  refine zg_aload_n 0 rfl d_X7_keep_4 ?_
  refine zg_getR d_X7_keep_5 zc_7 (by decide) fl_X7_38 (fun v2 => ?_)
  refine zg_cVv (b := v1) (As := [.ref v2]) (rest := []) (0, 0) d_X7_keep_8 zc_5 rfl cw_X7_328 wi_X5_copyFrom ws_X5_copyFrom rfl rfl (Nat.le_of_ble_eq_true rfl) (by decide) (by decide) ⟨by decide, by decide⟩ rfl (t_X5_copyFrom v1 v2 h0) (fun v4 h3 => ?_)
  refine zg_aload_n 0 rfl d_X7_keep_11 ?_
  refine zg_iconst 1 rfl d_X7_keep_12 ?_
  refine zg_putV d_X7_keep_13 zc_7 (by decide) fl_X7_45 rfl rfl rfl (fun h5 => ?_)
  refine zg_aload_n 0 rfl d_X7_keep_16 ?_
  refine zg_getR d_X7_keep_17 zc_7 (by decide) fl_X7_38 (fun v6 => ?_)
  refine zg_getI d_X7_keep_20 zc_5 (by decide) fl_X7_218 (fun v7 => ?_)
  exact zg_iretK d_X7_keep_23 rfl ⟨Nat.le_of_ble_eq_true rfl, Nat.le_of_ble_eq_true rfl⟩ (fun q => q)
abbrev M_X7_known : zMt := (RX7, cX7_known, 2, 2, 82, (some .boolean), "known", 0, 0)
theorem d_X7_known_0 : zDc M_X7_known 0 (.iconst (-1)) 1 1 := ⟨by decide +kernel, rfl⟩
theorem d_X7_known_1 : zDc M_X7_known 1 (.iload_n 1) 1 2 := ⟨by decide +kernel, rfl⟩
theorem d_X7_known_2 : zDc M_X7_known 2 (.aload_n 0) 1 3 := ⟨by decide +kernel, rfl⟩
theorem d_X7_known_3 : zDc M_X7_known 3 (.getfield 59) 3 6 := ⟨by decide +kernel, rfl⟩
theorem d_X7_known_6 : zDc M_X7_known 6 (.getfield 299) 3 9 := ⟨by decide +kernel, rfl⟩
theorem d_X7_known_9 : zDc M_X7_known 9 (.invokestatic 194) 3 12 := ⟨by decide +kernel, rfl⟩
theorem d_X7_known_12 : zDj M_X7_known 12 (.ifCond .ne 5) 5 15 17 := ⟨by decide +kernel, rfl, by decide⟩
theorem d_X7_known_15 : zDc M_X7_known 15 (.iconst 0) 1 16 := ⟨by decide +kernel, rfl⟩
theorem d_X7_known_16 : zDc M_X7_known 16 (.ireturn) 1 17 := ⟨by decide +kernel, rfl⟩
theorem d_X7_known_17 : zDc M_X7_known 17 (.aload_n 0) 1 18 := ⟨by decide +kernel, rfl⟩
theorem d_X7_known_18 : zDc M_X7_known 18 (.getfield 59) 3 21 := ⟨by decide +kernel, rfl⟩
theorem d_X7_known_21 : zDc M_X7_known 21 (.iload_n 1) 1 22 := ⟨by decide +kernel, rfl⟩
theorem d_X7_known_22 : zDc M_X7_known 22 (.putfield 305) 3 25 := ⟨by decide +kernel, rfl⟩
theorem d_X7_known_25 : zDc M_X7_known 25 (.iconst 1) 1 26 := ⟨by decide +kernel, rfl⟩
theorem d_X7_known_26 : zDc M_X7_known 26 (.ireturn) 1 27 := ⟨by decide +kernel, rfl⟩
def f_X7_known (a0 : Nat) (a1 : Int32) (h0 : zHp) : Option (Int32 × zHp) :=
  zob (zgR h0 a0 7 8) (fun v1 =>
  zob (zgI h0 v1 3 6) (fun v2 =>
  zbd ((f_X7_isFrom (-1) a1 v2 h0)) (fun v4 h3 =>
  if v4 = 0 then
  some (0, h3)
  else
  zob (zgR h3 a0 7 8) (fun v5 =>
  zob (zpV h3 v5 3 7 (.int a1)) (fun h6 =>
  some (1, h6))))))
set_option maxRecDepth 100000 in
set_option maxHeartbeats 4000000 in
theorem t_X7_known (a0 : Nat) (a1 : Int32) (h0 : zHp) : ∀ (r : Int32) (h' : zHp), f_X7_known a0 a1 h0 = some (r, h') → zCt yX7_known (.code yX7_known cX7_known 2 (some .boolean)) 2 82 0 0 [.ref a0, .int a1] h0 (some (.int r)) h' := by
  refine zct_of M_X7_known yX7_known (by decide) rfl rfl [.ref a0, .int a1] h0 (Nat.le_of_ble_eq_true rfl) (fun r => some (.int r)) (fun X => ?_)
  show zG X M_X7_known (0, 0) 0 [(0, .ref a0), (1, .int a1)] [] h0 (f_X7_known a0 a1 h0) (fun (r : Int32) h' => zKe X (some (.int r)) h')
  unfold f_X7_known
  refine zg_iconst (-1) rfl d_X7_known_0 ?_
  refine zg_iload_n 1 rfl d_X7_known_1 ?_
  refine zg_aload_n 0 rfl d_X7_known_2 ?_
  refine zg_getR d_X7_known_3 zc_7 (by decide) fl_X7_59 (fun v1 => ?_)
  refine zg_getI d_X7_known_6 zc_3 (by decide) fl_X7_299 (fun v2 => ?_)
  refine zg_cSi (As := [.int (-1), .int a1, .int v2]) (rest := []) (0, 0) d_X7_known_9 cw_X7_194 wt_X7_isFrom rfl rfl (Nat.le_of_ble_eq_true rfl) (by decide) (by decide) ⟨by decide, by decide⟩ rfl (t_X7_isFrom (-1) a1 v2 h0) (fun v4 h3 => ?_)
  refine zg_if_ne d_X7_known_12 ?_ ?_
  · refine zg_iconst 0 rfl d_X7_known_15 ?_
    exact zg_zretK d_X7_known_16 rfl ⟨Nat.le_of_ble_eq_true rfl, Nat.le_of_ble_eq_true rfl⟩ (Or.inl rfl) (fun q => q)
  · refine zg_aload_n 0 rfl d_X7_known_17 ?_
    refine zg_getR d_X7_known_18 zc_7 (by decide) fl_X7_59 (fun v5 => ?_)
    refine zg_iload_n 1 rfl d_X7_known_21 ?_
    refine zg_putV d_X7_known_22 zc_3 (by decide) fl_X7_305 rfl rfl rfl (fun h6 => ?_)
    refine zg_iconst 1 rfl d_X7_known_25 ?_
    exact zg_zretK d_X7_known_26 rfl ⟨Nat.le_of_ble_eq_true rfl, Nat.le_of_ble_eq_true rfl⟩ (Or.inr rfl) (fun q => q)
abbrev M_X7_lacks : zMt := (RX7, cX7_lacks, 3, 2, 81, (some .int), "lacks", 0, 0)
theorem d_X7_lacks_0 : zDc M_X7_lacks 0 (.iconst 0) 1 1 := ⟨by decide +kernel, rfl⟩
theorem d_X7_lacks_1 : zDc M_X7_lacks 1 (.istore_n 1) 1 2 := ⟨by decide +kernel, rfl⟩
theorem d_X7_lacks_2 : zDc M_X7_lacks 2 (.iconst 0) 1 3 := ⟨by decide +kernel, rfl⟩
theorem d_X7_lacks_3 : zDc M_X7_lacks 3 (.istore_n 2) 1 4 := ⟨by decide +kernel, rfl⟩
theorem d_X7_lacks_4 : zDc M_X7_lacks 4 (.iload_n 2) 1 5 := ⟨by decide +kernel, rfl⟩
theorem d_X7_lacks_5 : zDc M_X7_lacks 5 (.aload_n 0) 1 6 := ⟨by decide +kernel, rfl⟩
theorem d_X7_lacks_6 : zDc M_X7_lacks 6 (.getfield 29) 3 9 := ⟨by decide +kernel, rfl⟩
theorem d_X7_lacks_9 : zDc M_X7_lacks 9 (.getfield 99) 3 12 := ⟨by decide +kernel, rfl⟩
theorem d_X7_lacks_12 : zDj M_X7_lacks 12 (.if_icmp .ge 26) 26 15 38 := ⟨by decide +kernel, rfl, by decide⟩
theorem d_X7_lacks_15 : zDc M_X7_lacks 15 (.aload_n 0) 1 16 := ⟨by decide +kernel, rfl⟩
theorem d_X7_lacks_16 : zDc M_X7_lacks 16 (.getfield 38) 3 19 := ⟨by decide +kernel, rfl⟩
theorem d_X7_lacks_19 : zDc M_X7_lacks 19 (.iload_n 2) 1 20 := ⟨by decide +kernel, rfl⟩
theorem d_X7_lacks_20 : zDc M_X7_lacks 20 (.invokevirtual 261) 3 23 := ⟨by decide +kernel, rfl⟩
theorem d_X7_lacks_23 : zDj M_X7_lacks 23 (.ifCond .eq 9) 9 26 32 := ⟨by decide +kernel, rfl, by decide⟩
theorem d_X7_lacks_26 : zDc M_X7_lacks 26 (.iload_n 1) 1 27 := ⟨by decide +kernel, rfl⟩
theorem d_X7_lacks_27 : zDc M_X7_lacks 27 (.iconst 1) 1 28 := ⟨by decide +kernel, rfl⟩
theorem d_X7_lacks_28 : zDc M_X7_lacks 28 (.iload_n 2) 1 29 := ⟨by decide +kernel, rfl⟩
theorem d_X7_lacks_29 : zDc M_X7_lacks 29 (.ishl) 1 30 := ⟨by decide +kernel, rfl⟩
theorem d_X7_lacks_30 : zDc M_X7_lacks 30 (.ior) 1 31 := ⟨by decide +kernel, rfl⟩
theorem d_X7_lacks_31 : zDc M_X7_lacks 31 (.istore_n 1) 1 32 := ⟨by decide +kernel, rfl⟩
theorem d_X7_lacks_32 : zDc M_X7_lacks 32 (.iinc 2 1) 3 35 := ⟨by decide +kernel, rfl⟩
theorem d_X7_lacks_35 : zDj M_X7_lacks 35 (.goto (-31)) (-31) 38 4 := ⟨by decide +kernel, rfl, by decide⟩
theorem d_X7_lacks_38 : zDc M_X7_lacks 38 (.iload_n 1) 1 39 := ⟨by decide +kernel, rfl⟩
theorem d_X7_lacks_39 : zDc M_X7_lacks 39 (.ireturn) 1 40 := ⟨by decide +kernel, rfl⟩
def f_X7_lacks (a0 : Nat) (h0 : zHp) : Option (Int32 × zHp) :=
  zbd (
  zlp (σ := (Int32 × Int32)) (β := (Int32 × Int32)) zLF (fun s1 h2 =>
  zob (zgR h2 a0 7 3) (fun v5 =>
  zob (zgI h2 v5 6 13) (fun v6 =>
  if v6 ≤ s1.2 then
  some ((.inr (s1.1, s1.2)), h2)
  else
  zob (zgR h2 a0 7 4) (fun v7 =>
  zbd (zcv 5 v7 h2 (f_X5_lacksRain v7 s1.2 h2)) (fun v9 h8 =>
  if v9 = 0 then
  some ((.inl (s1.1, (s1.2 + 1))), h8)
  else
  some ((.inl ((s1.1 ||| (1 <<< (s1.2 &&& 31))), (s1.2 + 1))), h8)))))) (0, 0) h0) (fun e3 h4 =>
  some (e3.1, h4))
set_option maxRecDepth 100000 in
set_option maxHeartbeats 4000000 in
theorem t_X7_lacks (a0 : Nat) (h0 : zHp) : ∀ (r : Int32) (h' : zHp), f_X7_lacks a0 h0 = some (r, h') → zCt yX7_lacks (.code yX7_lacks cX7_lacks 3 (some .int)) 2 81 0 0 [.ref a0] h0 (some (.int r)) h' := by
  refine zct_of M_X7_lacks yX7_lacks (by decide) rfl rfl [.ref a0] h0 (Nat.le_of_ble_eq_true rfl) (fun r => some (.int r)) (fun X => ?_)
  show zG X M_X7_lacks (0, 0) 0 [(0, .ref a0)] [] h0 (f_X7_lacks a0 h0) (fun (r : Int32) h' => zKe X (some (.int r)) h')
  unfold f_X7_lacks
  refine zg_iconst 0 rfl d_X7_lacks_0 ?_
  refine zg_istore_n [(1, .int 0), (0, .ref a0)] d_X7_lacks_1 rfl (by decide) rfl ?_
  refine zg_iconst 0 rfl d_X7_lacks_2 ?_
  refine zg_istore_n [(2, .int 0), (1, .int 0), (0, .ref a0)] d_X7_lacks_3 rfl (by decide) rfl ?_
  refine zg_bd (E := 38) (el := (fun (e3 : (Int32 × Int32)) => [(0, .ref a0), (1, .int e3.1), (2, .int e3.2)])) (es := fun _ => []) (zg_sub [2, 1, 0] rfl (zg_lp (el := (fun (s1 : (Int32 × Int32)) => [(0, .ref a0), (1, .int s1.1), (2, .int s1.2)])) (fun s1 h2 => ?_) (0, 0) h0)) (fun e3 h4 => ?_)
  · refine zg_iload_n 2 rfl d_X7_lacks_4 ?_
    refine zg_aload_n 0 rfl d_X7_lacks_5 ?_
    refine zg_getR d_X7_lacks_6 zc_7 (by decide) fl_X7_29 (fun v5 => ?_)
    refine zg_getI d_X7_lacks_9 zc_6 (by decide) fl_X7_99 (fun v6 => ?_)
    refine zg_icmp_ge d_X7_lacks_12 ?_ ?_
    · exact zg_finK (E := 0) [0, 1, 2] rfl rfl (fun q => q)
    · refine zg_aload_n 0 rfl d_X7_lacks_15 ?_
      refine zg_getR d_X7_lacks_16 zc_7 (by decide) fl_X7_38 (fun v7 => ?_)
      refine zg_iload_n 2 rfl d_X7_lacks_19 ?_
      refine zg_cVi (b := v7) (As := [.int s1.2]) (rest := []) (0, 0) d_X7_lacks_20 zc_5 rfl cw_X7_261 wi_X5_lacksRain ws_X5_lacksRain rfl rfl (Nat.le_of_ble_eq_true rfl) (by decide) (by decide) ⟨by decide, by decide⟩ rfl (t_X5_lacksRain v7 s1.2 h2) (fun v9 h8 => ?_)
      refine zg_if_eq d_X7_lacks_23 ?_ ?_
      · refine zg_iinc 2 (s1.2 + 1) [(2, .int (s1.2 + 1)), (0, .ref a0), (1, .int s1.1)] d_X7_lacks_32 rfl rfl (by decide) rfl ?_
        refine zg_goto d_X7_lacks_35 ?_
        exact zg_finK (E := 0) [1, 2, 0] rfl rfl (fun q => q)
      · refine zg_iload_n 1 rfl d_X7_lacks_26 ?_
        refine zg_iconst 1 rfl d_X7_lacks_27 ?_
        refine zg_iload_n 2 rfl d_X7_lacks_28 ?_
        refine zg_ishl d_X7_lacks_29 ?_
        refine zg_ior d_X7_lacks_30 ?_
        refine zg_istore_n [(1, .int (s1.1 ||| (1 <<< (s1.2 &&& 31)))), (0, .ref a0), (2, .int s1.2)] d_X7_lacks_31 rfl (by decide) rfl ?_
        refine zg_iinc 2 (s1.2 + 1) [(2, .int (s1.2 + 1)), (1, .int (s1.1 ||| (1 <<< (s1.2 &&& 31)))), (0, .ref a0)] d_X7_lacks_32 rfl rfl (by decide) rfl ?_
        refine zg_goto d_X7_lacks_35 ?_
        exact zg_finK (E := 0) [2, 1, 0] rfl rfl (fun q => q)
  · refine zg_iload_n 1 rfl d_X7_lacks_38 ?_
    exact zg_iretK d_X7_lacks_39 rfl ⟨Nat.le_of_ble_eq_true rfl, Nat.le_of_ble_eq_true rfl⟩ (fun q => q)
abbrev M_X7_law : zMt := (RX7, cX7_law, 3, 4, 134, (some .long), "law", 0, 0)
theorem d_X7_law_0 : zDc M_X7_law 0 (.iconst 0) 1 1 := ⟨by decide +kernel, rfl⟩
theorem d_X7_law_1 : zDc M_X7_law 1 (.iload_n 1) 1 2 := ⟨by decide +kernel, rfl⟩
theorem d_X7_law_2 : zDc M_X7_law 2 (.iconst 2) 1 3 := ⟨by decide +kernel, rfl⟩
theorem d_X7_law_3 : zDc M_X7_law 3 (.invokestatic 194) 3 6 := ⟨by decide +kernel, rfl⟩
theorem d_X7_law_6 : zDj M_X7_law 6 (.ifCond .eq 24) 24 9 30 := ⟨by decide +kernel, rfl, by decide⟩
theorem d_X7_law_9 : zDc M_X7_law 9 (.aload_n 0) 1 10 := ⟨by decide +kernel, rfl⟩
theorem d_X7_law_10 : zDc M_X7_law 10 (.iload_n 2) 1 11 := ⟨by decide +kernel, rfl⟩
theorem d_X7_law_11 : zDc M_X7_law 11 (.invokevirtual 118) 3 14 := ⟨by decide +kernel, rfl⟩
theorem d_X7_law_14 : zDj M_X7_law 14 (.ifCond .eq 16) 16 17 30 := ⟨by decide +kernel, rfl, by decide⟩
theorem d_X7_law_17 : zDc M_X7_law 17 (.aload_n 0) 1 18 := ⟨by decide +kernel, rfl⟩
theorem d_X7_law_18 : zDc M_X7_law 18 (.getfield 38) 3 21 := ⟨by decide +kernel, rfl⟩
theorem d_X7_law_21 : zDc M_X7_law 21 (.getfield 140) 3 24 := ⟨by decide +kernel, rfl⟩
theorem d_X7_law_24 : zDc M_X7_law 24 (.iload_n 2) 1 25 := ⟨by decide +kernel, rfl⟩
theorem d_X7_law_25 : zDc M_X7_law 25 (.iaload) 1 26 := ⟨by decide +kernel, rfl⟩
theorem d_X7_law_26 : zDc M_X7_law 26 (.iconst 1) 1 27 := ⟨by decide +kernel, rfl⟩
theorem d_X7_law_27 : zDj M_X7_law 27 (.if_icmp .eq 7) 7 30 34 := ⟨by decide +kernel, rfl, by decide⟩
theorem d_X7_law_30 : zDc M_X7_law 30 (.ldc2_w 198) 3 33 := ⟨by decide +kernel, rfl⟩
theorem d_X7_law_33 : zDc M_X7_law 33 (.lreturn) 1 34 := ⟨by decide +kernel, rfl⟩
theorem d_X7_law_34 : zDc M_X7_law 34 (.aload_n 0) 1 35 := ⟨by decide +kernel, rfl⟩
theorem d_X7_law_35 : zDc M_X7_law 35 (.getfield 38) 3 38 := ⟨by decide +kernel, rfl⟩
theorem d_X7_law_38 : zDc M_X7_law 38 (.iload_n 1) 1 39 := ⟨by decide +kernel, rfl⟩
theorem d_X7_law_39 : zDc M_X7_law 39 (.iload_n 2) 1 40 := ⟨by decide +kernel, rfl⟩
theorem d_X7_law_40 : zDc M_X7_law 40 (.invokevirtual 200) 3 43 := ⟨by decide +kernel, rfl⟩
theorem d_X7_law_43 : zDc M_X7_law 43 (.lreturn) 1 44 := ⟨by decide +kernel, rfl⟩
def f_X7_law (a0 : Nat) (a1 : Int32) (a2 : Int32) (h0 : zHp) : Option (Int64 × zHp) :=
  zbd ((f_X7_isFrom 0 a1 2 h0)) (fun v2 h1 =>
  if v2 = 0 then
  some ((-9223372036854775808), h1)
  else
  zbd (zcv 7 a0 h1 (f_X7_isCloud a0 a2 h1)) (fun v4 h3 =>
  if v4 = 0 then
  some ((-9223372036854775808), h3)
  else
  zob (zgR h3 a0 7 4) (fun v5 =>
  zob (zgR h3 v5 5 5) (fun v6 =>
  zob (zaI 0 h3 v6 a2) (fun v7 =>
  if v7 = 1 then
  zob (zgR h3 a0 7 4) (fun v8 =>
  zbd (zcv 5 v8 h3 (f_X5_worthOf v8 a1 a2 h3)) (fun v10 h9 =>
  some (v10, h9)))
  else
  some ((-9223372036854775808), h3))))))
set_option maxRecDepth 100000 in
set_option maxHeartbeats 4000000 in
theorem t_X7_law (a0 : Nat) (a1 : Int32) (a2 : Int32) (h0 : zHp) : ∀ (r : Int64) (h' : zHp), f_X7_law a0 a1 a2 h0 = some (r, h') → zCt yX7_law (.code yX7_law cX7_law 3 (some .long)) 4 134 0 0 [.ref a0, .int a1, .int a2] h0 (some (.long r)) h' := by
  refine zct_of M_X7_law yX7_law (by decide) rfl rfl [.ref a0, .int a1, .int a2] h0 (Nat.le_of_ble_eq_true rfl) (fun r => some (.long r)) (fun X => ?_)
  show zG X M_X7_law (0, 0) 0 [(0, .ref a0), (1, .int a1), (2, .int a2)] [] h0 (f_X7_law a0 a1 a2 h0) (fun (r : Int64) h' => zKe X (some (.long r)) h')
  unfold f_X7_law
  refine zg_iconst 0 rfl d_X7_law_0 ?_
  refine zg_iload_n 1 rfl d_X7_law_1 ?_
  refine zg_iconst 2 rfl d_X7_law_2 ?_
  refine zg_cSi (As := [.int 0, .int a1, .int 2]) (rest := []) (0, 0) d_X7_law_3 cw_X7_194 wt_X7_isFrom rfl rfl (Nat.le_of_ble_eq_true rfl) (by decide) (by decide) ⟨by decide, by decide⟩ rfl (t_X7_isFrom 0 a1 2 h0) (fun v2 h1 => ?_)
  refine zg_if_eq d_X7_law_6 ?_ ?_
  · refine zg_ldc2 kl_X7_198 d_X7_law_30 ?_
    exact zg_lretK d_X7_law_33 rfl ⟨Nat.le_of_ble_eq_true rfl, Nat.le_of_ble_eq_true rfl⟩ (fun q => q)
  · refine zg_aload_n 0 rfl d_X7_law_9 ?_
    refine zg_iload_n 2 rfl d_X7_law_10 ?_
    refine zg_cVi (b := a0) (As := [.int a2]) (rest := []) (0, 0) d_X7_law_11 zc_7 rfl cw_X7_118 wi_X7_isCloud ws_X7_isCloud rfl rfl (Nat.le_of_ble_eq_true rfl) (by decide) (by decide) ⟨by decide, by decide⟩ rfl (t_X7_isCloud a0 a2 h1) (fun v4 h3 => ?_)
    refine zg_if_eq d_X7_law_14 ?_ ?_
    · refine zg_ldc2 kl_X7_198 d_X7_law_30 ?_
      exact zg_lretK d_X7_law_33 rfl ⟨Nat.le_of_ble_eq_true rfl, Nat.le_of_ble_eq_true rfl⟩ (fun q => q)
    · refine zg_aload_n 0 rfl d_X7_law_17 ?_
      refine zg_getR d_X7_law_18 zc_7 (by decide) fl_X7_38 (fun v5 => ?_)
      refine zg_getR d_X7_law_21 zc_5 (by decide) fl_X7_140 (fun v6 => ?_)
      refine zg_iload_n 2 rfl d_X7_law_24 ?_
      refine zg_ald0 d_X7_law_25 (fun v7 => ?_)
      refine zg_iconst 1 rfl d_X7_law_26 ?_
      refine zg_icmp_eq d_X7_law_27 ?_ ?_
      · refine zg_aload_n 0 rfl d_X7_law_34 ?_
        refine zg_getR d_X7_law_35 zc_7 (by decide) fl_X7_38 (fun v8 => ?_)
        refine zg_iload_n 1 rfl d_X7_law_38 ?_
        refine zg_iload_n 2 rfl d_X7_law_39 ?_
        refine zg_cVl (b := v8) (As := [.int a1, .int a2]) (rest := []) (0, 0) d_X7_law_40 zc_5 rfl cw_X7_200 wi_X5_worthOf ws_X5_worthOf rfl rfl (Nat.le_of_ble_eq_true rfl) (by decide) (by decide) ⟨by decide, by decide⟩ rfl (t_X5_worthOf v8 a1 a2 h3) (fun v10 h9 => ?_)
        exact zg_lretK d_X7_law_43 rfl ⟨Nat.le_of_ble_eq_true rfl, Nat.le_of_ble_eq_true rfl⟩ (fun q => q)
      · refine zg_ldc2 kl_X7_198 d_X7_law_30 ?_
        exact zg_lretK d_X7_law_33 rfl ⟨Nat.le_of_ble_eq_true rfl, Nat.le_of_ble_eq_true rfl⟩ (fun q => q)
abbrev M_X7_named : zMt := (RX7, cX7_named, 3, 2, 83, (some .int), "named", 0, 0)
theorem d_X7_named_0 : zDc M_X7_named 0 (.iload_n 1) 1 1 := ⟨by decide +kernel, rfl⟩
theorem d_X7_named_1 : zDj M_X7_named 1 (.ifCond .ne 22) 22 4 23 := ⟨by decide +kernel, rfl, by decide⟩
theorem d_X7_named_4 : zDc M_X7_named 4 (.aload_n 0) 1 5 := ⟨by decide +kernel, rfl⟩
theorem d_X7_named_5 : zDc M_X7_named 5 (.getfield 29) 3 8 := ⟨by decide +kernel, rfl⟩
theorem d_X7_named_8 : zDc M_X7_named 8 (.getfield 95) 3 11 := ⟨by decide +kernel, rfl⟩
theorem d_X7_named_11 : zDc M_X7_named 11 (.aload_n 0) 1 12 := ⟨by decide +kernel, rfl⟩
theorem d_X7_named_12 : zDc M_X7_named 12 (.getfield 29) 3 15 := ⟨by decide +kernel, rfl⟩
theorem d_X7_named_15 : zDc M_X7_named 15 (.getfield 99) 3 18 := ⟨by decide +kernel, rfl⟩
theorem d_X7_named_18 : zDc M_X7_named 18 (.iload_n 2) 1 19 := ⟨by decide +kernel, rfl⟩
theorem d_X7_named_19 : zDc M_X7_named 19 (.invokestatic 102) 3 22 := ⟨by decide +kernel, rfl⟩
theorem d_X7_named_22 : zDc M_X7_named 22 (.ireturn) 1 23 := ⟨by decide +kernel, rfl⟩
theorem d_X7_named_23 : zDc M_X7_named 23 (.iload_n 1) 1 24 := ⟨by decide +kernel, rfl⟩
theorem d_X7_named_24 : zDc M_X7_named 24 (.iconst 1) 1 25 := ⟨by decide +kernel, rfl⟩
theorem d_X7_named_25 : zDj M_X7_named 25 (.if_icmp .ne 22) 22 28 47 := ⟨by decide +kernel, rfl, by decide⟩
theorem d_X7_named_28 : zDc M_X7_named 28 (.aload_n 0) 1 29 := ⟨by decide +kernel, rfl⟩
theorem d_X7_named_29 : zDc M_X7_named 29 (.getfield 29) 3 32 := ⟨by decide +kernel, rfl⟩
theorem d_X7_named_32 : zDc M_X7_named 32 (.getfield 106) 3 35 := ⟨by decide +kernel, rfl⟩
theorem d_X7_named_35 : zDc M_X7_named 35 (.aload_n 0) 1 36 := ⟨by decide +kernel, rfl⟩
theorem d_X7_named_36 : zDc M_X7_named 36 (.getfield 29) 3 39 := ⟨by decide +kernel, rfl⟩
theorem d_X7_named_39 : zDc M_X7_named 39 (.getfield 109) 3 42 := ⟨by decide +kernel, rfl⟩
theorem d_X7_named_42 : zDc M_X7_named 42 (.iload_n 2) 1 43 := ⟨by decide +kernel, rfl⟩
theorem d_X7_named_43 : zDc M_X7_named 43 (.invokestatic 102) 3 46 := ⟨by decide +kernel, rfl⟩
theorem d_X7_named_46 : zDc M_X7_named 46 (.ireturn) 1 47 := ⟨by decide +kernel, rfl⟩
theorem d_X7_named_47 : zDc M_X7_named 47 (.iload_n 1) 1 48 := ⟨by decide +kernel, rfl⟩
theorem d_X7_named_48 : zDc M_X7_named 48 (.iconst 2) 1 49 := ⟨by decide +kernel, rfl⟩
theorem d_X7_named_49 : zDj M_X7_named 49 (.if_icmp .ne 24) 24 52 73 := ⟨by decide +kernel, rfl, by decide⟩
theorem d_X7_named_52 : zDc M_X7_named 52 (.aload_n 0) 1 53 := ⟨by decide +kernel, rfl⟩
theorem d_X7_named_53 : zDc M_X7_named 53 (.getfield 29) 3 56 := ⟨by decide +kernel, rfl⟩
theorem d_X7_named_56 : zDc M_X7_named 56 (.getfield 112) 3 59 := ⟨by decide +kernel, rfl⟩
theorem d_X7_named_59 : zDc M_X7_named 59 (.aload_n 0) 1 60 := ⟨by decide +kernel, rfl⟩
theorem d_X7_named_60 : zDc M_X7_named 60 (.getfield 29) 3 63 := ⟨by decide +kernel, rfl⟩
theorem d_X7_named_63 : zDc M_X7_named 63 (.getfield 115) 3 66 := ⟨by decide +kernel, rfl⟩
theorem d_X7_named_66 : zDc M_X7_named 66 (.iload_n 2) 1 67 := ⟨by decide +kernel, rfl⟩
theorem d_X7_named_67 : zDc M_X7_named 67 (.invokestatic 102) 3 70 := ⟨by decide +kernel, rfl⟩
theorem d_X7_named_70 : zDj M_X7_named 70 (.goto 4) 4 73 74 := ⟨by decide +kernel, rfl, by decide⟩
theorem d_X7_named_73 : zDc M_X7_named 73 (.iconst (-1)) 1 74 := ⟨by decide +kernel, rfl⟩
theorem d_X7_named_74 : zDc M_X7_named 74 (.ireturn) 1 75 := ⟨by decide +kernel, rfl⟩
def f_X7_named (a0 : Nat) (a1 : Int32) (a2 : Int32) (h0 : zHp) : Option (Int32 × zHp) :=
  if a1 = 0 then
  zob (zgR h0 a0 7 3) (fun v1 =>
  zob (zgR h0 v1 6 1) (fun v2 =>
  zob (zgR h0 a0 7 3) (fun v3 =>
  zob (zgI h0 v3 6 13) (fun v4 =>
  zbd ((f_X7_numberOf v2 v4 a2 h0)) (fun v6 h5 =>
  some (v6, h5))))))
  else
  if a1 = 1 then
  zob (zgR h0 a0 7 3) (fun v7 =>
  zob (zgR h0 v7 6 4) (fun v8 =>
  zob (zgR h0 a0 7 3) (fun v9 =>
  zob (zgI h0 v9 6 14) (fun v10 =>
  zbd ((f_X7_numberOf v8 v10 a2 h0)) (fun v12 h11 =>
  some (v12, h11))))))
  else
  if a1 = 2 then
  zob (zgR h0 a0 7 3) (fun v13 =>
  zob (zgR h0 v13 6 8) (fun v14 =>
  zob (zgR h0 a0 7 3) (fun v15 =>
  zob (zgI h0 v15 6 15) (fun v16 =>
  zbd ((f_X7_numberOf v14 v16 a2 h0)) (fun v18 h17 =>
  some (v18, h17))))))
  else
  some ((-1), h0)
set_option maxRecDepth 100000 in
set_option maxHeartbeats 4000000 in
theorem t_X7_named (a0 : Nat) (a1 : Int32) (a2 : Int32) (h0 : zHp) : ∀ (r : Int32) (h' : zHp), f_X7_named a0 a1 a2 h0 = some (r, h') → zCt yX7_named (.code yX7_named cX7_named 3 (some .int)) 2 83 0 0 [.ref a0, .int a1, .int a2] h0 (some (.int r)) h' := by
  refine zct_of M_X7_named yX7_named (by decide) rfl rfl [.ref a0, .int a1, .int a2] h0 (Nat.le_of_ble_eq_true rfl) (fun r => some (.int r)) (fun X => ?_)
  show zG X M_X7_named (0, 0) 0 [(0, .ref a0), (1, .int a1), (2, .int a2)] [] h0 (f_X7_named a0 a1 a2 h0) (fun (r : Int32) h' => zKe X (some (.int r)) h')
  unfold f_X7_named
  refine zg_iload_n 1 rfl d_X7_named_0 ?_
  refine zg_if_ne d_X7_named_1 ?_ ?_
  · refine zg_aload_n 0 rfl d_X7_named_4 ?_
    refine zg_getR d_X7_named_5 zc_7 (by decide) fl_X7_29 (fun v1 => ?_)
    refine zg_getR d_X7_named_8 zc_6 (by decide) fl_X7_95 (fun v2 => ?_)
    refine zg_aload_n 0 rfl d_X7_named_11 ?_
    refine zg_getR d_X7_named_12 zc_7 (by decide) fl_X7_29 (fun v3 => ?_)
    refine zg_getI d_X7_named_15 zc_6 (by decide) fl_X7_99 (fun v4 => ?_)
    refine zg_iload_n 2 rfl d_X7_named_18 ?_
    refine zg_cSi (As := [.ref v2, .int v4, .int a2]) (rest := []) (0, 0) d_X7_named_19 cw_X7_102 wt_X7_numberOf rfl rfl (Nat.le_of_ble_eq_true rfl) (by decide) (by decide) ⟨by decide, by decide⟩ rfl (t_X7_numberOf v2 v4 a2 h0) (fun v6 h5 => ?_)
    exact zg_iretK d_X7_named_22 rfl ⟨Nat.le_of_ble_eq_true rfl, Nat.le_of_ble_eq_true rfl⟩ (fun q => q)
  · refine zg_iload_n 1 rfl d_X7_named_23 ?_
    refine zg_iconst 1 rfl d_X7_named_24 ?_
    refine zg_icmp_ne d_X7_named_25 ?_ ?_
    · refine zg_aload_n 0 rfl d_X7_named_28 ?_
      refine zg_getR d_X7_named_29 zc_7 (by decide) fl_X7_29 (fun v7 => ?_)
      refine zg_getR d_X7_named_32 zc_6 (by decide) fl_X7_106 (fun v8 => ?_)
      refine zg_aload_n 0 rfl d_X7_named_35 ?_
      refine zg_getR d_X7_named_36 zc_7 (by decide) fl_X7_29 (fun v9 => ?_)
      refine zg_getI d_X7_named_39 zc_6 (by decide) fl_X7_109 (fun v10 => ?_)
      refine zg_iload_n 2 rfl d_X7_named_42 ?_
      refine zg_cSi (As := [.ref v8, .int v10, .int a2]) (rest := []) (0, 0) d_X7_named_43 cw_X7_102 wt_X7_numberOf rfl rfl (Nat.le_of_ble_eq_true rfl) (by decide) (by decide) ⟨by decide, by decide⟩ rfl (t_X7_numberOf v8 v10 a2 h0) (fun v12 h11 => ?_)
      exact zg_iretK d_X7_named_46 rfl ⟨Nat.le_of_ble_eq_true rfl, Nat.le_of_ble_eq_true rfl⟩ (fun q => q)
    · refine zg_iload_n 1 rfl d_X7_named_47 ?_
      refine zg_iconst 2 rfl d_X7_named_48 ?_
      refine zg_icmp_ne d_X7_named_49 ?_ ?_
      · refine zg_aload_n 0 rfl d_X7_named_52 ?_
        refine zg_getR d_X7_named_53 zc_7 (by decide) fl_X7_29 (fun v13 => ?_)
        refine zg_getR d_X7_named_56 zc_6 (by decide) fl_X7_112 (fun v14 => ?_)
        refine zg_aload_n 0 rfl d_X7_named_59 ?_
        refine zg_getR d_X7_named_60 zc_7 (by decide) fl_X7_29 (fun v15 => ?_)
        refine zg_getI d_X7_named_63 zc_6 (by decide) fl_X7_115 (fun v16 => ?_)
        refine zg_iload_n 2 rfl d_X7_named_66 ?_
        refine zg_cSi (As := [.ref v14, .int v16, .int a2]) (rest := []) (0, 0) d_X7_named_67 cw_X7_102 wt_X7_numberOf rfl rfl (Nat.le_of_ble_eq_true rfl) (by decide) (by decide) ⟨by decide, by decide⟩ rfl (t_X7_numberOf v14 v16 a2 h0) (fun v18 h17 => ?_)
        refine zg_goto d_X7_named_70 ?_
        exact zg_iretK d_X7_named_74 rfl ⟨Nat.le_of_ble_eq_true rfl, Nat.le_of_ble_eq_true rfl⟩ (fun q => q)
      · refine zg_iconst (-1) rfl d_X7_named_73 ?_
        exact zg_iretK d_X7_named_74 rfl ⟨Nat.le_of_ble_eq_true rfl, Nat.le_of_ble_eq_true rfl⟩ (fun q => q)
abbrev M_X7_note : zMt := (RX7, cX7_note, 5, 2, 84, (some .int), "note", 0, 0)
theorem d_X7_note_0 : zDc M_X7_note 0 (.iconst 1) 1 1 := ⟨by decide +kernel, rfl⟩
theorem d_X7_note_1 : zDc M_X7_note 1 (.iload_n 1) 1 2 := ⟨by decide +kernel, rfl⟩
theorem d_X7_note_2 : zDc M_X7_note 2 (.bipush 40) 2 4 := ⟨by decide +kernel, rfl⟩
theorem d_X7_note_4 : zDc M_X7_note 4 (.invokestatic 194) 3 7 := ⟨by decide +kernel, rfl⟩
theorem d_X7_note_7 : zDj M_X7_note 7 (.ifCond .eq 11) 11 10 18 := ⟨by decide +kernel, rfl, by decide⟩
theorem d_X7_note_10 : zDc M_X7_note 10 (.iload_n 2) 1 11 := ⟨by decide +kernel, rfl⟩
theorem d_X7_note_11 : zDc M_X7_note 11 (.iload_n 3) 1 12 := ⟨by decide +kernel, rfl⟩
theorem d_X7_note_12 : zDc M_X7_note 12 (.invokestatic 180) 3 15 := ⟨by decide +kernel, rfl⟩
theorem d_X7_note_15 : zDj M_X7_note 15 (.ifCond .ne 5) 5 18 20 := ⟨by decide +kernel, rfl, by decide⟩
theorem d_X7_note_18 : zDc M_X7_note 18 (.iconst (-1)) 1 19 := ⟨by decide +kernel, rfl⟩
theorem d_X7_note_19 : zDc M_X7_note 19 (.ireturn) 1 20 := ⟨by decide +kernel, rfl⟩
theorem d_X7_note_20 : zDc M_X7_note 20 (.aload_n 0) 1 21 := ⟨by decide +kernel, rfl⟩
theorem d_X7_note_21 : zDc M_X7_note 21 (.getfield 59) 3 24 := ⟨by decide +kernel, rfl⟩
theorem d_X7_note_24 : zDc M_X7_note 24 (.iload_n 1) 1 25 := ⟨by decide +kernel, rfl⟩
theorem d_X7_note_25 : zDc M_X7_note 25 (.iload_n 2) 1 26 := ⟨by decide +kernel, rfl⟩
theorem d_X7_note_26 : zDc M_X7_note 26 (.iload_n 3) 1 27 := ⟨by decide +kernel, rfl⟩
theorem d_X7_note_27 : zDc M_X7_note 27 (.iload 4) 2 29 := ⟨by decide +kernel, rfl⟩
theorem d_X7_note_29 : zDc M_X7_note 29 (.invokevirtual 295) 3 32 := ⟨by decide +kernel, rfl⟩
theorem d_X7_note_32 : zDc M_X7_note 32 (.ireturn) 1 33 := ⟨by decide +kernel, rfl⟩
def f_X7_note (a0 : Nat) (a1 : Int32) (a2 : Int32) (a3 : Int32) (a4 : Int32) (h0 : zHp) : Option (Int32 × zHp) :=
  zbd ((f_X7_isFrom 1 a1 40 h0)) (fun v2 h1 =>
  if v2 = 0 then
  some ((-1), h1)
  else
  zbd ((f_X7_isCell a2 a3 h1)) (fun v4 h3 =>
  if v4 = 0 then
  some ((-1), h3)
  else
  zob (zgR h3 a0 7 8) (fun v5 =>
  zbd (zcv 3 v5 h3 (f_X3_add v5 a1 a2 a3 a4 h3)) (fun v7 h6 =>
  some (v7, h6)))))
set_option maxRecDepth 100000 in
set_option maxHeartbeats 4000000 in
theorem t_X7_note (a0 : Nat) (a1 : Int32) (a2 : Int32) (a3 : Int32) (a4 : Int32) (h0 : zHp) : ∀ (r : Int32) (h' : zHp), f_X7_note a0 a1 a2 a3 a4 h0 = some (r, h') → zCt yX7_note (.code yX7_note cX7_note 5 (some .int)) 2 84 0 0 [.ref a0, .int a1, .int a2, .int a3, .int a4] h0 (some (.int r)) h' := by
  refine zct_of M_X7_note yX7_note (by decide) rfl rfl [.ref a0, .int a1, .int a2, .int a3, .int a4] h0 (Nat.le_of_ble_eq_true rfl) (fun r => some (.int r)) (fun X => ?_)
  show zG X M_X7_note (0, 0) 0 [(0, .ref a0), (1, .int a1), (2, .int a2), (3, .int a3), (4, .int a4)] [] h0 (f_X7_note a0 a1 a2 a3 a4 h0) (fun (r : Int32) h' => zKe X (some (.int r)) h')
  unfold f_X7_note
  refine zg_iconst 1 rfl d_X7_note_0 ?_
  refine zg_iload_n 1 rfl d_X7_note_1 ?_
  refine zg_bipush 40 rfl d_X7_note_2 ?_
  refine zg_cSi (As := [.int 1, .int a1, .int 40]) (rest := []) (0, 0) d_X7_note_4 cw_X7_194 wt_X7_isFrom rfl rfl (Nat.le_of_ble_eq_true rfl) (by decide) (by decide) ⟨by decide, by decide⟩ rfl (t_X7_isFrom 1 a1 40 h0) (fun v2 h1 => ?_)
  refine zg_if_eq d_X7_note_7 ?_ ?_
  · refine zg_iconst (-1) rfl d_X7_note_18 ?_
    exact zg_iretK d_X7_note_19 rfl ⟨Nat.le_of_ble_eq_true rfl, Nat.le_of_ble_eq_true rfl⟩ (fun q => q)
  · refine zg_iload_n 2 rfl d_X7_note_10 ?_
    refine zg_iload_n 3 rfl d_X7_note_11 ?_
    refine zg_cSi (As := [.int a2, .int a3]) (rest := []) (0, 0) d_X7_note_12 cw_X7_180 wt_X7_isCell rfl rfl (Nat.le_of_ble_eq_true rfl) (by decide) (by decide) ⟨by decide, by decide⟩ rfl (t_X7_isCell a2 a3 h1) (fun v4 h3 => ?_)
    refine zg_if_ne d_X7_note_15 ?_ ?_
    · refine zg_iconst (-1) rfl d_X7_note_18 ?_
      exact zg_iretK d_X7_note_19 rfl ⟨Nat.le_of_ble_eq_true rfl, Nat.le_of_ble_eq_true rfl⟩ (fun q => q)
    · refine zg_aload_n 0 rfl d_X7_note_20 ?_
      refine zg_getR d_X7_note_21 zc_7 (by decide) fl_X7_59 (fun v5 => ?_)
      refine zg_iload_n 1 rfl d_X7_note_24 ?_
      refine zg_iload_n 2 rfl d_X7_note_25 ?_
      refine zg_iload_n 3 rfl d_X7_note_26 ?_
      refine zg_iload 4 rfl d_X7_note_27 ?_
      refine zg_cVi (b := v5) (As := [.int a1, .int a2, .int a3, .int a4]) (rest := []) (0, 0) d_X7_note_29 zc_3 rfl cw_X7_295 wi_X3_add ws_X3_add rfl rfl (Nat.le_of_ble_eq_true rfl) (by decide) (by decide) ⟨by decide, by decide⟩ rfl (t_X3_add v5 a1 a2 a3 a4 h3) (fun v7 h6 => ?_)
      exact zg_iretK d_X7_note_32 rfl ⟨Nat.le_of_ble_eq_true rfl, Nat.le_of_ble_eq_true rfl⟩ (fun q => q)
abbrev M_X7_out : zMt := (RX7, cX7_out, 2, 3, 106, (some .int), "out", 0, 0)
theorem d_X7_out_0 : zDc M_X7_out 0 (.iconst 0) 1 1 := ⟨by decide +kernel, rfl⟩
theorem d_X7_out_1 : zDc M_X7_out 1 (.iload_n 1) 1 2 := ⟨by decide +kernel, rfl⟩
theorem d_X7_out_2 : zDc M_X7_out 2 (.aload_n 0) 1 3 := ⟨by decide +kernel, rfl⟩
theorem d_X7_out_3 : zDc M_X7_out 3 (.getfield 59) 3 6 := ⟨by decide +kernel, rfl⟩
theorem d_X7_out_6 : zDc M_X7_out 6 (.getfield 299) 3 9 := ⟨by decide +kernel, rfl⟩
theorem d_X7_out_9 : zDc M_X7_out 9 (.iconst 1) 1 10 := ⟨by decide +kernel, rfl⟩
theorem d_X7_out_10 : zDc M_X7_out 10 (.isub) 1 11 := ⟨by decide +kernel, rfl⟩
theorem d_X7_out_11 : zDc M_X7_out 11 (.invokestatic 194) 3 14 := ⟨by decide +kernel, rfl⟩
theorem d_X7_out_14 : zDj M_X7_out 14 (.ifCond .eq 14) 14 17 28 := ⟨by decide +kernel, rfl, by decide⟩
theorem d_X7_out_17 : zDc M_X7_out 17 (.aload_n 0) 1 18 := ⟨by decide +kernel, rfl⟩
theorem d_X7_out_18 : zDc M_X7_out 18 (.getfield 59) 3 21 := ⟨by decide +kernel, rfl⟩
theorem d_X7_out_21 : zDc M_X7_out 21 (.iload_n 1) 1 22 := ⟨by decide +kernel, rfl⟩
theorem d_X7_out_22 : zDc M_X7_out 22 (.invokevirtual 302) 3 25 := ⟨by decide +kernel, rfl⟩
theorem d_X7_out_25 : zDj M_X7_out 25 (.goto 4) 4 28 29 := ⟨by decide +kernel, rfl, by decide⟩
theorem d_X7_out_28 : zDc M_X7_out 28 (.iconst (-1)) 1 29 := ⟨by decide +kernel, rfl⟩
theorem d_X7_out_29 : zDc M_X7_out 29 (.ireturn) 1 30 := ⟨by decide +kernel, rfl⟩
def f_X7_out (a0 : Nat) (a1 : Int32) (h0 : zHp) : Option (Int32 × zHp) :=
  zob (zgR h0 a0 7 8) (fun v1 =>
  zob (zgI h0 v1 3 6) (fun v2 =>
  zbd ((f_X7_isFrom 0 a1 (v2 - 1) h0)) (fun v4 h3 =>
  if v4 = 0 then
  some ((-1), h3)
  else
  zob (zgR h3 a0 7 8) (fun v5 =>
  zbd (zcv 3 v5 h3 (f_X3_addStrike v5 a1 h3)) (fun v7 h6 =>
  some (v7, h6))))))
set_option maxRecDepth 100000 in
set_option maxHeartbeats 4000000 in
theorem t_X7_out (a0 : Nat) (a1 : Int32) (h0 : zHp) : ∀ (r : Int32) (h' : zHp), f_X7_out a0 a1 h0 = some (r, h') → zCt yX7_out (.code yX7_out cX7_out 2 (some .int)) 3 106 0 0 [.ref a0, .int a1] h0 (some (.int r)) h' := by
  refine zct_of M_X7_out yX7_out (by decide) rfl rfl [.ref a0, .int a1] h0 (Nat.le_of_ble_eq_true rfl) (fun r => some (.int r)) (fun X => ?_)
  show zG X M_X7_out (0, 0) 0 [(0, .ref a0), (1, .int a1)] [] h0 (f_X7_out a0 a1 h0) (fun (r : Int32) h' => zKe X (some (.int r)) h')
  unfold f_X7_out
  refine zg_iconst 0 rfl d_X7_out_0 ?_
  refine zg_iload_n 1 rfl d_X7_out_1 ?_
  refine zg_aload_n 0 rfl d_X7_out_2 ?_
  refine zg_getR d_X7_out_3 zc_7 (by decide) fl_X7_59 (fun v1 => ?_)
  refine zg_getI d_X7_out_6 zc_3 (by decide) fl_X7_299 (fun v2 => ?_)
  refine zg_iconst 1 rfl d_X7_out_9 ?_
  refine zg_isub d_X7_out_10 ?_
  refine zg_cSi (As := [.int 0, .int a1, .int (v2 - 1)]) (rest := []) (0, 0) d_X7_out_11 cw_X7_194 wt_X7_isFrom rfl rfl (Nat.le_of_ble_eq_true rfl) (by decide) (by decide) ⟨by decide, by decide⟩ rfl (t_X7_isFrom 0 a1 (v2 - 1) h0) (fun v4 h3 => ?_)
  refine zg_if_eq d_X7_out_14 ?_ ?_
  · refine zg_iconst (-1) rfl d_X7_out_28 ?_
    exact zg_iretK d_X7_out_29 rfl ⟨Nat.le_of_ble_eq_true rfl, Nat.le_of_ble_eq_true rfl⟩ (fun q => q)
  · refine zg_aload_n 0 rfl d_X7_out_17 ?_
    refine zg_getR d_X7_out_18 zc_7 (by decide) fl_X7_59 (fun v5 => ?_)
    refine zg_iload_n 1 rfl d_X7_out_21 ?_
    refine zg_cVi (b := v5) (As := [.int a1]) (rest := []) (0, 0) d_X7_out_22 zc_3 rfl cw_X7_302 wi_X3_addStrike ws_X3_addStrike rfl rfl (Nat.le_of_ble_eq_true rfl) (by decide) (by decide) ⟨by decide, by decide⟩ rfl (t_X3_addStrike v5 a1 h3) (fun v7 h6 => ?_)
    refine zg_goto d_X7_out_25 ?_
    exact zg_iretK d_X7_out_29 rfl ⟨Nat.le_of_ble_eq_true rfl, Nat.le_of_ble_eq_true rfl⟩ (fun q => q)
abbrev M_X7_push : zMt := (RX7, cX7_push, 4, 4, 126, (some .int), "push", 0, 0)
theorem d_X7_push_0 : zDc M_X7_push 0 (.aload_n 0) 1 1 := ⟨by decide +kernel, rfl⟩
theorem d_X7_push_1 : zDc M_X7_push 1 (.iload_n 1) 1 2 := ⟨by decide +kernel, rfl⟩
theorem d_X7_push_2 : zDc M_X7_push 2 (.invokevirtual 146) 3 5 := ⟨by decide +kernel, rfl⟩
theorem d_X7_push_5 : zDj M_X7_push 5 (.ifCond .eq 12) 12 8 17 := ⟨by decide +kernel, rfl, by decide⟩
theorem d_X7_push_8 : zDc M_X7_push 8 (.iconst 1) 1 9 := ⟨by decide +kernel, rfl⟩
theorem d_X7_push_9 : zDc M_X7_push 9 (.iload_n 2) 1 10 := ⟨by decide +kernel, rfl⟩
theorem d_X7_push_10 : zDc M_X7_push 10 (.iconst 4) 1 11 := ⟨by decide +kernel, rfl⟩
theorem d_X7_push_11 : zDc M_X7_push 11 (.invokestatic 194) 3 14 := ⟨by decide +kernel, rfl⟩
theorem d_X7_push_14 : zDj M_X7_push 14 (.ifCond .ne 5) 5 17 19 := ⟨by decide +kernel, rfl, by decide⟩
theorem d_X7_push_17 : zDc M_X7_push 17 (.iconst (-1)) 1 18 := ⟨by decide +kernel, rfl⟩
theorem d_X7_push_18 : zDc M_X7_push 18 (.ireturn) 1 19 := ⟨by decide +kernel, rfl⟩
theorem d_X7_push_19 : zDc M_X7_push 19 (.aload_n 0) 1 20 := ⟨by decide +kernel, rfl⟩
theorem d_X7_push_20 : zDc M_X7_push 20 (.getfield 38) 3 23 := ⟨by decide +kernel, rfl⟩
theorem d_X7_push_23 : zDc M_X7_push 23 (.iload_n 1) 1 24 := ⟨by decide +kernel, rfl⟩
theorem d_X7_push_24 : zDc M_X7_push 24 (.invokevirtual 204) 3 27 := ⟨by decide +kernel, rfl⟩
theorem d_X7_push_27 : zDc M_X7_push 27 (.istore_n 3) 1 28 := ⟨by decide +kernel, rfl⟩
theorem d_X7_push_28 : zDc M_X7_push 28 (.iload_n 3) 1 29 := ⟨by decide +kernel, rfl⟩
theorem d_X7_push_29 : zDc M_X7_push 29 (.iconst (-1)) 1 30 := ⟨by decide +kernel, rfl⟩
theorem d_X7_push_30 : zDj M_X7_push 30 (.if_icmp .ne 6) 6 33 36 := ⟨by decide +kernel, rfl, by decide⟩
theorem d_X7_push_33 : zDc M_X7_push 33 (.bipush (-2)) 2 35 := ⟨by decide +kernel, rfl⟩
theorem d_X7_push_35 : zDc M_X7_push 35 (.ireturn) 1 36 := ⟨by decide +kernel, rfl⟩
theorem d_X7_push_36 : zDc M_X7_push 36 (.aload_n 0) 1 37 := ⟨by decide +kernel, rfl⟩
theorem d_X7_push_37 : zDc M_X7_push 37 (.getfield 52) 3 40 := ⟨by decide +kernel, rfl⟩
theorem d_X7_push_40 : zDc M_X7_push 40 (.iconst 0) 1 41 := ⟨by decide +kernel, rfl⟩
theorem d_X7_push_41 : zDc M_X7_push 41 (.iload_n 3) 1 42 := ⟨by decide +kernel, rfl⟩
theorem d_X7_push_42 : zDc M_X7_push 42 (.aload_n 0) 1 43 := ⟨by decide +kernel, rfl⟩
theorem d_X7_push_43 : zDc M_X7_push 43 (.getfield 38) 3 46 := ⟨by decide +kernel, rfl⟩
theorem d_X7_push_46 : zDc M_X7_push 46 (.getfield 125) 3 49 := ⟨by decide +kernel, rfl⟩
theorem d_X7_push_49 : zDc M_X7_push 49 (.iload_n 3) 1 50 := ⟨by decide +kernel, rfl⟩
theorem d_X7_push_50 : zDc M_X7_push 50 (.iaload) 1 51 := ⟨by decide +kernel, rfl⟩
theorem d_X7_push_51 : zDc M_X7_push 51 (.aload_n 0) 1 52 := ⟨by decide +kernel, rfl⟩
theorem d_X7_push_52 : zDc M_X7_push 52 (.getfield 38) 3 55 := ⟨by decide +kernel, rfl⟩
theorem d_X7_push_55 : zDc M_X7_push 55 (.getfield 128) 3 58 := ⟨by decide +kernel, rfl⟩
theorem d_X7_push_58 : zDc M_X7_push 58 (.iload_n 3) 1 59 := ⟨by decide +kernel, rfl⟩
theorem d_X7_push_59 : zDc M_X7_push 59 (.iaload) 1 60 := ⟨by decide +kernel, rfl⟩
theorem d_X7_push_60 : zDc M_X7_push 60 (.invokevirtual 207) 3 63 := ⟨by decide +kernel, rfl⟩
theorem d_X7_push_63 : zDc M_X7_push 63 (.aload_n 0) 1 64 := ⟨by decide +kernel, rfl⟩
theorem d_X7_push_64 : zDc M_X7_push 64 (.getfield 38) 3 67 := ⟨by decide +kernel, rfl⟩
theorem d_X7_push_67 : zDc M_X7_push 67 (.iload_n 3) 1 68 := ⟨by decide +kernel, rfl⟩
theorem d_X7_push_68 : zDc M_X7_push 68 (.iload_n 2) 1 69 := ⟨by decide +kernel, rfl⟩
theorem d_X7_push_69 : zDc M_X7_push 69 (.invokevirtual 211) 3 72 := ⟨by decide +kernel, rfl⟩
theorem d_X7_push_72 : zDc M_X7_push 72 (.iload_n 3) 1 73 := ⟨by decide +kernel, rfl⟩
theorem d_X7_push_73 : zDc M_X7_push 73 (.ireturn) 1 74 := ⟨by decide +kernel, rfl⟩
def f_X7_push (a0 : Nat) (a1 : Int32) (a2 : Int32) (h0 : zHp) : Option (Int32 × zHp) :=
  zbd (zcv 7 a0 h0 (f_X7_isChild a0 a1 h0)) (fun v2 h1 =>
  if v2 = 0 then
  some ((-1), h1)
  else
  zbd ((f_X7_isFrom 1 a2 4 h1)) (fun v4 h3 =>
  if v4 = 0 then
  some ((-1), h3)
  else
  zob (zgR h3 a0 7 4) (fun v5 =>
  zbd (zcv 5 v5 h3 (f_X5_firstToPush v5 a1 h3)) (fun v7 h6 =>
  if v7 = (-1) then
  some ((-2), h6)
  else
  zob (zgR h6 a0 7 7) (fun v8 =>
  zob (zgR h6 a0 7 4) (fun v9 =>
  zob (zgR h6 v9 5 0) (fun v10 =>
  zob (zaI 0 h6 v10 v7) (fun v11 =>
  zob (zgR h6 a0 7 4) (fun v12 =>
  zob (zgR h6 v12 5 1) (fun v13 =>
  zob (zaI 0 h6 v13 v7) (fun v14 =>
  zbd (zcv 0 v8 h6 (f_X0_remember v8 0 v7 v11 v14 h6)) (fun v16 h15 =>
  zob (zgR h15 a0 7 4) (fun v17 =>
  zbd (zcv 5 v17 h15 (f_X5_moveCloud v17 v7 a2 h15)) (fun v19 h18 =>
  some (v7, h18)))))))))))))))
set_option maxRecDepth 100000 in
set_option maxHeartbeats 4000000 in
theorem t_X7_push (a0 : Nat) (a1 : Int32) (a2 : Int32) (h0 : zHp) : ∀ (r : Int32) (h' : zHp), f_X7_push a0 a1 a2 h0 = some (r, h') → zCt yX7_push (.code yX7_push cX7_push 4 (some .int)) 4 126 0 0 [.ref a0, .int a1, .int a2] h0 (some (.int r)) h' := by
  refine zct_of M_X7_push yX7_push (by decide) rfl rfl [.ref a0, .int a1, .int a2] h0 (Nat.le_of_ble_eq_true rfl) (fun r => some (.int r)) (fun X => ?_)
  show zG X M_X7_push (0, 0) 0 [(0, .ref a0), (1, .int a1), (2, .int a2)] [] h0 (f_X7_push a0 a1 a2 h0) (fun (r : Int32) h' => zKe X (some (.int r)) h')
  unfold f_X7_push
  refine zg_aload_n 0 rfl d_X7_push_0 ?_
  refine zg_iload_n 1 rfl d_X7_push_1 ?_
  refine zg_cVi (b := a0) (As := [.int a1]) (rest := []) (0, 0) d_X7_push_2 zc_7 rfl cw_X7_146 wi_X7_isChild ws_X7_isChild rfl rfl (Nat.le_of_ble_eq_true rfl) (by decide) (by decide) ⟨by decide, by decide⟩ rfl (t_X7_isChild a0 a1 h0) (fun v2 h1 => ?_)
  refine zg_if_eq d_X7_push_5 ?_ ?_
  · refine zg_iconst (-1) rfl d_X7_push_17 ?_
    exact zg_iretK d_X7_push_18 rfl ⟨Nat.le_of_ble_eq_true rfl, Nat.le_of_ble_eq_true rfl⟩ (fun q => q)
  · refine zg_iconst 1 rfl d_X7_push_8 ?_
    refine zg_iload_n 2 rfl d_X7_push_9 ?_
    refine zg_iconst 4 rfl d_X7_push_10 ?_
    refine zg_cSi (As := [.int 1, .int a2, .int 4]) (rest := []) (0, 0) d_X7_push_11 cw_X7_194 wt_X7_isFrom rfl rfl (Nat.le_of_ble_eq_true rfl) (by decide) (by decide) ⟨by decide, by decide⟩ rfl (t_X7_isFrom 1 a2 4 h1) (fun v4 h3 => ?_)
    refine zg_if_ne d_X7_push_14 ?_ ?_
    · refine zg_iconst (-1) rfl d_X7_push_17 ?_
      exact zg_iretK d_X7_push_18 rfl ⟨Nat.le_of_ble_eq_true rfl, Nat.le_of_ble_eq_true rfl⟩ (fun q => q)
    · refine zg_aload_n 0 rfl d_X7_push_19 ?_
      refine zg_getR d_X7_push_20 zc_7 (by decide) fl_X7_38 (fun v5 => ?_)
      refine zg_iload_n 1 rfl d_X7_push_23 ?_
      refine zg_cVi (b := v5) (As := [.int a1]) (rest := []) (0, 0) d_X7_push_24 zc_5 rfl cw_X7_204 wi_X5_firstToPush ws_X5_firstToPush rfl rfl (Nat.le_of_ble_eq_true rfl) (by decide) (by decide) ⟨by decide, by decide⟩ rfl (t_X5_firstToPush v5 a1 h3) (fun v7 h6 => ?_)
      refine zg_istore_n [(3, .int v7), (0, .ref a0), (1, .int a1), (2, .int a2)] d_X7_push_27 rfl (by decide) rfl ?_
      refine zg_iload_n 0 rfl d_X7_push_28 ?_
      refine zg_iconst (-1) rfl d_X7_push_29 ?_
      refine zg_icmp_ne d_X7_push_30 ?_ ?_
      · refine zg_bipush (-2) rfl d_X7_push_33 ?_
        exact zg_iretK d_X7_push_35 rfl ⟨Nat.le_of_ble_eq_true rfl, Nat.le_of_ble_eq_true rfl⟩ (fun q => q)
      · refine zg_aload_n 1 rfl d_X7_push_36 ?_
        refine zg_getR d_X7_push_37 zc_7 (by decide) fl_X7_52 (fun v8 => ?_)
        refine zg_iconst 0 rfl d_X7_push_40 ?_
        refine zg_iload_n 0 rfl d_X7_push_41 ?_
        refine zg_aload_n 1 rfl d_X7_push_42 ?_
        refine zg_getR d_X7_push_43 zc_7 (by decide) fl_X7_38 (fun v9 => ?_)
        refine zg_getR d_X7_push_46 zc_5 (by decide) fl_X7_125 (fun v10 => ?_)
        refine zg_iload_n 0 rfl d_X7_push_49 ?_
        refine zg_ald0 d_X7_push_50 (fun v11 => ?_)
        refine zg_aload_n 1 rfl d_X7_push_51 ?_
        refine zg_getR d_X7_push_52 zc_7 (by decide) fl_X7_38 (fun v12 => ?_)
        refine zg_getR d_X7_push_55 zc_5 (by decide) fl_X7_128 (fun v13 => ?_)
        refine zg_iload_n 0 rfl d_X7_push_58 ?_
        refine zg_ald0 d_X7_push_59 (fun v14 => ?_)
        refine zg_cVv (b := v8) (As := [.int 0, .int v7, .int v11, .int v14]) (rest := []) (0, 0) d_X7_push_60 zc_0 rfl cw_X7_207 wi_X0_remember ws_X0_remember rfl rfl (Nat.le_of_ble_eq_true rfl) (by decide) (by decide) ⟨by decide, by decide⟩ rfl (t_X0_remember v8 0 v7 v11 v14 h6) (fun v16 h15 => ?_)
        refine zg_aload_n 1 rfl d_X7_push_63 ?_
        refine zg_getR d_X7_push_64 zc_7 (by decide) fl_X7_38 (fun v17 => ?_)
        refine zg_iload_n 0 rfl d_X7_push_67 ?_
        refine zg_iload_n 3 rfl d_X7_push_68 ?_
        refine zg_cVv (b := v17) (As := [.int v7, .int a2]) (rest := []) (0, 0) d_X7_push_69 zc_5 rfl cw_X7_211 wi_X5_moveCloud ws_X5_moveCloud rfl rfl (Nat.le_of_ble_eq_true rfl) (by decide) (by decide) ⟨by decide, by decide⟩ rfl (t_X5_moveCloud v17 v7 a2 h15) (fun v19 h18 => ?_)
        refine zg_iload_n 0 rfl d_X7_push_72 ?_
        exact zg_iretK d_X7_push_73 rfl ⟨Nat.le_of_ble_eq_true rfl, Nat.le_of_ble_eq_true rfl⟩ (fun q => q)
abbrev M_X7_rest : zMt := (RX7, cX7_rest, 6, 7, 203, (some .int), "rest", 0, 0)
theorem d_X7_rest_0 : zDc M_X7_rest 0 (.aload_n 0) 1 1 := ⟨by decide +kernel, rfl⟩
theorem d_X7_rest_1 : zDc M_X7_rest 1 (.iload_n 1) 1 2 := ⟨by decide +kernel, rfl⟩
theorem d_X7_rest_2 : zDc M_X7_rest 2 (.invokevirtual 146) 3 5 := ⟨by decide +kernel, rfl⟩
theorem d_X7_rest_5 : zDj M_X7_rest 5 (.ifCond .eq 20) 20 8 25 := ⟨by decide +kernel, rfl, by decide⟩
theorem d_X7_rest_8 : zDc M_X7_rest 8 (.aload_n 0) 1 9 := ⟨by decide +kernel, rfl⟩
theorem d_X7_rest_9 : zDc M_X7_rest 9 (.iload_n 2) 1 10 := ⟨by decide +kernel, rfl⟩
theorem d_X7_rest_10 : zDc M_X7_rest 10 (.invokevirtual 146) 3 13 := ⟨by decide +kernel, rfl⟩
theorem d_X7_rest_13 : zDj M_X7_rest 13 (.ifCond .eq 12) 12 16 25 := ⟨by decide +kernel, rfl, by decide⟩
theorem d_X7_rest_16 : zDc M_X7_rest 16 (.iload_n 1) 1 17 := ⟨by decide +kernel, rfl⟩
theorem d_X7_rest_17 : zDc M_X7_rest 17 (.iload_n 2) 1 18 := ⟨by decide +kernel, rfl⟩
theorem d_X7_rest_18 : zDj M_X7_rest 18 (.if_icmp .eq 7) 7 21 25 := ⟨by decide +kernel, rfl, by decide⟩
theorem d_X7_rest_21 : zDc M_X7_rest 21 (.iload_n 3) 1 22 := ⟨by decide +kernel, rfl⟩
theorem d_X7_rest_22 : zDj M_X7_rest 22 (.ifCond .ge 5) 5 25 27 := ⟨by decide +kernel, rfl, by decide⟩
theorem d_X7_rest_25 : zDc M_X7_rest 25 (.iconst (-1)) 1 26 := ⟨by decide +kernel, rfl⟩
theorem d_X7_rest_26 : zDc M_X7_rest 26 (.ireturn) 1 27 := ⟨by decide +kernel, rfl⟩
theorem d_X7_rest_27 : zDc M_X7_rest 27 (.aload_n 0) 1 28 := ⟨by decide +kernel, rfl⟩
theorem d_X7_rest_28 : zDc M_X7_rest 28 (.getfield 66) 3 31 := ⟨by decide +kernel, rfl⟩
theorem d_X7_rest_31 : zDc M_X7_rest 31 (.aload_n 0) 1 32 := ⟨by decide +kernel, rfl⟩
theorem d_X7_rest_32 : zDc M_X7_rest 32 (.getfield 38) 3 35 := ⟨by decide +kernel, rfl⟩
theorem d_X7_rest_35 : zDc M_X7_rest 35 (.iload_n 1) 1 36 := ⟨by decide +kernel, rfl⟩
theorem d_X7_rest_36 : zDc M_X7_rest 36 (.iload_n 2) 1 37 := ⟨by decide +kernel, rfl⟩
theorem d_X7_rest_37 : zDc M_X7_rest 37 (.invokevirtual 288) 3 40 := ⟨by decide +kernel, rfl⟩
theorem d_X7_rest_40 : zDc M_X7_rest 40 (.iload_n 3) 1 41 := ⟨by decide +kernel, rfl⟩
theorem d_X7_rest_41 : zDc M_X7_rest 41 (.istore 4) 2 43 := ⟨by decide +kernel, rfl⟩
theorem d_X7_rest_43 : zDc M_X7_rest 43 (.iconst 0) 1 44 := ⟨by decide +kernel, rfl⟩
theorem d_X7_rest_44 : zDc M_X7_rest 44 (.istore 5) 2 46 := ⟨by decide +kernel, rfl⟩
theorem d_X7_rest_46 : zDc M_X7_rest 46 (.iload 5) 2 48 := ⟨by decide +kernel, rfl⟩
theorem d_X7_rest_48 : zDc M_X7_rest 48 (.bipush 25) 2 50 := ⟨by decide +kernel, rfl⟩
theorem d_X7_rest_50 : zDj M_X7_rest 50 (.if_icmp .ge 42) 42 53 92 := ⟨by decide +kernel, rfl, by decide⟩
theorem d_X7_rest_53 : zDc M_X7_rest 53 (.aload_n 0) 1 54 := ⟨by decide +kernel, rfl⟩
theorem d_X7_rest_54 : zDc M_X7_rest 54 (.getfield 66) 3 57 := ⟨by decide +kernel, rfl⟩
theorem d_X7_rest_57 : zDc M_X7_rest 57 (.iload 5) 2 59 := ⟨by decide +kernel, rfl⟩
theorem d_X7_rest_59 : zDc M_X7_rest 59 (.invokevirtual 292) 3 62 := ⟨by decide +kernel, rfl⟩
theorem d_X7_rest_62 : zDj M_X7_rest 62 (.ifCond .eq 24) 24 65 86 := ⟨by decide +kernel, rfl, by decide⟩
theorem d_X7_rest_65 : zDc M_X7_rest 65 (.iload 4) 2 67 := ⟨by decide +kernel, rfl⟩
theorem d_X7_rest_67 : zDj M_X7_rest 67 (.ifCond .ne 16) 16 70 83 := ⟨by decide +kernel, rfl, by decide⟩
theorem d_X7_rest_70 : zDc M_X7_rest 70 (.bipush 10) 2 72 := ⟨by decide +kernel, rfl⟩
theorem d_X7_rest_72 : zDc M_X7_rest 72 (.iload 5) 2 74 := ⟨by decide +kernel, rfl⟩
theorem d_X7_rest_74 : zDc M_X7_rest 74 (.iconst 5) 1 75 := ⟨by decide +kernel, rfl⟩
theorem d_X7_rest_75 : zDc M_X7_rest 75 (.idiv) 1 76 := ⟨by decide +kernel, rfl⟩
theorem d_X7_rest_76 : zDc M_X7_rest 76 (.imul) 1 77 := ⟨by decide +kernel, rfl⟩
theorem d_X7_rest_77 : zDc M_X7_rest 77 (.iload 5) 2 79 := ⟨by decide +kernel, rfl⟩
theorem d_X7_rest_79 : zDc M_X7_rest 79 (.iconst 5) 1 80 := ⟨by decide +kernel, rfl⟩
theorem d_X7_rest_80 : zDc M_X7_rest 80 (.irem) 1 81 := ⟨by decide +kernel, rfl⟩
theorem d_X7_rest_81 : zDc M_X7_rest 81 (.iadd) 1 82 := ⟨by decide +kernel, rfl⟩
theorem d_X7_rest_82 : zDc M_X7_rest 82 (.ireturn) 1 83 := ⟨by decide +kernel, rfl⟩
theorem d_X7_rest_83 : zDc M_X7_rest 83 (.iinc 4 (-1)) 3 86 := ⟨by decide +kernel, rfl⟩
theorem d_X7_rest_86 : zDc M_X7_rest 86 (.iinc 5 1) 3 89 := ⟨by decide +kernel, rfl⟩
theorem d_X7_rest_89 : zDj M_X7_rest 89 (.goto (-43)) (-43) 92 46 := ⟨by decide +kernel, rfl, by decide⟩
theorem d_X7_rest_92 : zDc M_X7_rest 92 (.bipush (-2)) 2 94 := ⟨by decide +kernel, rfl⟩
theorem d_X7_rest_94 : zDc M_X7_rest 94 (.ireturn) 1 95 := ⟨by decide +kernel, rfl⟩
def f_X7_rest (a0 : Nat) (a1 : Int32) (a2 : Int32) (a3 : Int32) (h0 : zHp) : Option (Int32 × zHp) :=
  zbd (zcv 7 a0 h0 (f_X7_isChild a0 a1 h0)) (fun v2 h1 =>
  if v2 = 0 then
  some ((-1), h1)
  else
  zbd (zcv 7 a0 h1 (f_X7_isChild a0 a2 h1)) (fun v4 h3 =>
  if v4 = 0 then
  some ((-1), h3)
  else
  if a1 = a2 then
  some ((-1), h3)
  else
  if 0 ≤ a3 then
  zob (zgR h3 a0 7 9) (fun v5 =>
  zob (zgR h3 a0 7 4) (fun v6 =>
  zbd (zcv 1 v5 h3 (f_X1_tryBoth v5 v6 a1 a2 h3)) (fun v8 h7 =>
  zbd (
  zlp (σ := (Int32 × Int32)) (β := ((Int32 × Int32) ⊕ Int32)) zLF (fun s9 h10 =>
  if 25 ≤ s9.2 then
  some ((.inr (.inl (s9.1, s9.2))), h10)
  else
  zob (zgR h10 a0 7 9) (fun v13 =>
  zbd (zcv 1 v13 h10 (f_X1_isRest v13 s9.2 h10)) (fun v15 h14 =>
  if v15 = 0 then
  some ((.inl (s9.1, (s9.2 + 1))), h14)
  else
  if s9.1 = 0 then
  some ((.inr (.inr ((10 * (s9.2 / 5)) + (zrm s9.2 5)))), h14)
  else
  some ((.inl ((s9.1 + (-1)), (s9.2 + 1))), h14)))) (a3, 0) h7) (fun b16 h12 => zsl b16 (fun e11 =>
  some ((-2), h12)) (fun r => some (r, h12))))))
  else
  some ((-1), h3)))
set_option maxRecDepth 100000 in
set_option maxHeartbeats 4000000 in
theorem t_X7_rest (a0 : Nat) (a1 : Int32) (a2 : Int32) (a3 : Int32) (h0 : zHp) : ∀ (r : Int32) (h' : zHp), f_X7_rest a0 a1 a2 a3 h0 = some (r, h') → zCt yX7_rest (.code yX7_rest cX7_rest 6 (some .int)) 7 203 0 0 [.ref a0, .int a1, .int a2, .int a3] h0 (some (.int r)) h' := by
  refine zct_of M_X7_rest yX7_rest (by decide) rfl rfl [.ref a0, .int a1, .int a2, .int a3] h0 (Nat.le_of_ble_eq_true rfl) (fun r => some (.int r)) (fun X => ?_)
  show zG X M_X7_rest (0, 0) 0 [(0, .ref a0), (1, .int a1), (2, .int a2), (3, .int a3)] [] h0 (f_X7_rest a0 a1 a2 a3 h0) (fun (r : Int32) h' => zKe X (some (.int r)) h')
  unfold f_X7_rest
  refine zg_aload_n 0 rfl d_X7_rest_0 ?_
  refine zg_iload_n 1 rfl d_X7_rest_1 ?_
  refine zg_cVi (b := a0) (As := [.int a1]) (rest := []) (0, 0) d_X7_rest_2 zc_7 rfl cw_X7_146 wi_X7_isChild ws_X7_isChild rfl rfl (Nat.le_of_ble_eq_true rfl) (by decide) (by decide) ⟨by decide, by decide⟩ rfl (t_X7_isChild a0 a1 h0) (fun v2 h1 => ?_)
  refine zg_if_eq d_X7_rest_5 ?_ ?_
  · refine zg_iconst (-1) rfl d_X7_rest_25 ?_
    exact zg_iretK d_X7_rest_26 rfl ⟨Nat.le_of_ble_eq_true rfl, Nat.le_of_ble_eq_true rfl⟩ (fun q => q)
  · refine zg_aload_n 0 rfl d_X7_rest_8 ?_
    refine zg_iload_n 2 rfl d_X7_rest_9 ?_
    refine zg_cVi (b := a0) (As := [.int a2]) (rest := []) (0, 0) d_X7_rest_10 zc_7 rfl cw_X7_146 wi_X7_isChild ws_X7_isChild rfl rfl (Nat.le_of_ble_eq_true rfl) (by decide) (by decide) ⟨by decide, by decide⟩ rfl (t_X7_isChild a0 a2 h1) (fun v4 h3 => ?_)
    refine zg_if_eq d_X7_rest_13 ?_ ?_
    · refine zg_iconst (-1) rfl d_X7_rest_25 ?_
      exact zg_iretK d_X7_rest_26 rfl ⟨Nat.le_of_ble_eq_true rfl, Nat.le_of_ble_eq_true rfl⟩ (fun q => q)
    · refine zg_iload_n 1 rfl d_X7_rest_16 ?_
      refine zg_iload_n 2 rfl d_X7_rest_17 ?_
      refine zg_icmp_eq d_X7_rest_18 ?_ ?_
      · refine zg_iconst (-1) rfl d_X7_rest_25 ?_
        exact zg_iretK d_X7_rest_26 rfl ⟨Nat.le_of_ble_eq_true rfl, Nat.le_of_ble_eq_true rfl⟩ (fun q => q)
      · refine zg_iload_n 3 rfl d_X7_rest_21 ?_
        refine zg_if_ge d_X7_rest_22 ?_ ?_
        · refine zg_aload_n 0 rfl d_X7_rest_27 ?_
          refine zg_getR d_X7_rest_28 zc_7 (by decide) fl_X7_66 (fun v5 => ?_)
          refine zg_aload_n 0 rfl d_X7_rest_31 ?_
          refine zg_getR d_X7_rest_32 zc_7 (by decide) fl_X7_38 (fun v6 => ?_)
          refine zg_iload_n 1 rfl d_X7_rest_35 ?_
          refine zg_iload_n 2 rfl d_X7_rest_36 ?_
          refine zg_cVv (b := v5) (As := [.ref v6, .int a1, .int a2]) (rest := []) (0, 0) d_X7_rest_37 zc_1 rfl cw_X7_288 wi_X1_tryBoth ws_X1_tryBoth rfl rfl (Nat.le_of_ble_eq_true rfl) (by decide) (by decide) ⟨by decide, by decide⟩ rfl (t_X1_tryBoth v5 v6 a1 a2 h3) (fun v8 h7 => ?_)
          refine zg_iload_n 3 rfl d_X7_rest_40 ?_
          refine zg_istore [(4, .int a3), (0, .ref a0), (1, .int a1), (2, .int a2), (3, .int a3)] d_X7_rest_41 (by decide) rfl ?_
          refine zg_iconst 0 rfl d_X7_rest_43 ?_
          refine zg_istore [(5, .int 0), (4, .int a3), (0, .ref a0), (1, .int a1), (2, .int a2), (3, .int a3)] d_X7_rest_44 (by decide) rfl ?_
          refine zg_bdr (E := 92) (el := (fun (e11 : (Int32 × Int32)) => [(0, .ref a0), (1, .int a1), (2, .int a2), (3, .int a3), (4, .int e11.1), (5, .int e11.2)])) (es := fun _ => []) (zg_sub [2, 3, 4, 5, 1, 0] rfl (zg_lp (el := (fun (s9 : (Int32 × Int32)) => [(0, .ref a0), (1, .int a1), (2, .int a2), (3, .int a3), (4, .int s9.1), (5, .int s9.2)])) (fun s9 h10 => ?_) (a3, 0) h7)) (fun e11 h12 => ?_)
          · refine zg_iload 5 rfl d_X7_rest_46 ?_
            refine zg_bipush 25 rfl d_X7_rest_48 ?_
            refine zg_icmp_ge d_X7_rest_50 ?_ ?_
            · exact zg_finK (E := 0) [0, 1, 2, 3, 4, 5] rfl rfl (fun q => q)
            · refine zg_aload_n 0 rfl d_X7_rest_53 ?_
              refine zg_getR d_X7_rest_54 zc_7 (by decide) fl_X7_66 (fun v13 => ?_)
              refine zg_iload 5 rfl d_X7_rest_57 ?_
              refine zg_cVi (b := v13) (As := [.int s9.2]) (rest := []) (0, 0) d_X7_rest_59 zc_1 rfl cw_X7_292 wi_X1_isRest ws_X1_isRest rfl rfl (Nat.le_of_ble_eq_true rfl) (by decide) (by decide) ⟨by decide, by decide⟩ rfl (t_X1_isRest v13 s9.2 h10) (fun v15 h14 => ?_)
              refine zg_if_eq d_X7_rest_62 ?_ ?_
              · refine zg_iinc 5 (s9.2 + 1) [(5, .int (s9.2 + 1)), (0, .ref a0), (1, .int a1), (2, .int a2), (3, .int a3), (4, .int s9.1)] d_X7_rest_86 rfl rfl (by decide) rfl ?_
                refine zg_goto d_X7_rest_89 ?_
                exact zg_finK (E := 0) [1, 2, 3, 4, 5, 0] rfl rfl (fun q => q)
              · refine zg_iload 4 rfl d_X7_rest_65 ?_
                refine zg_if_ne d_X7_rest_67 ?_ ?_
                · refine zg_bipush 10 rfl d_X7_rest_70 ?_
                  refine zg_iload 5 rfl d_X7_rest_72 ?_
                  refine zg_iconst 5 rfl d_X7_rest_74 ?_
                  refine zg_idiv (by decide) d_X7_rest_75 ?_
                  refine zg_imul d_X7_rest_76 ?_
                  refine zg_iload 5 rfl d_X7_rest_77 ?_
                  refine zg_iconst 5 rfl d_X7_rest_79 ?_
                  refine zg_irem (by decide) d_X7_rest_80 ?_
                  refine zg_iadd d_X7_rest_81 ?_
                  exact zg_iretK d_X7_rest_82 rfl ⟨Nat.le_of_ble_eq_true rfl, Nat.le_of_ble_eq_true rfl⟩ (fun q => q)
                · refine zg_iinc 4 (s9.1 + (-1)) [(4, .int (s9.1 + (-1))), (0, .ref a0), (1, .int a1), (2, .int a2), (3, .int a3), (5, .int s9.2)] d_X7_rest_83 rfl rfl (by decide) rfl ?_
                  refine zg_iinc 5 (s9.2 + 1) [(5, .int (s9.2 + 1)), (4, .int (s9.1 + (-1))), (0, .ref a0), (1, .int a1), (2, .int a2), (3, .int a3)] d_X7_rest_86 rfl rfl (by decide) rfl ?_
                  refine zg_goto d_X7_rest_89 ?_
                  exact zg_finK (E := 0) [2, 3, 4, 5, 1, 0] rfl rfl (fun q => q)
          · refine zg_bipush (-2) rfl d_X7_rest_92 ?_
            exact zg_iretK d_X7_rest_94 rfl ⟨Nat.le_of_ble_eq_true rfl, Nat.le_of_ble_eq_true rfl⟩ (fun q => q)
        · refine zg_iconst (-1) rfl d_X7_rest_25 ?_
          exact zg_iretK d_X7_rest_26 rfl ⟨Nat.le_of_ble_eq_true rfl, Nat.le_of_ble_eq_true rfl⟩ (fun q => q)
abbrev M_X7_rests : zMt := (RX7, cX7_rests, 5, 7, 203, (some .int), "rests", 0, 0)
theorem d_X7_rests_0 : zDc M_X7_rests 0 (.aload_n 0) 1 1 := ⟨by decide +kernel, rfl⟩
theorem d_X7_rests_1 : zDc M_X7_rests 1 (.iload_n 1) 1 2 := ⟨by decide +kernel, rfl⟩
theorem d_X7_rests_2 : zDc M_X7_rests 2 (.invokevirtual 146) 3 5 := ⟨by decide +kernel, rfl⟩
theorem d_X7_rests_5 : zDj M_X7_rests 5 (.ifCond .eq 16) 16 8 21 := ⟨by decide +kernel, rfl, by decide⟩
theorem d_X7_rests_8 : zDc M_X7_rests 8 (.aload_n 0) 1 9 := ⟨by decide +kernel, rfl⟩
theorem d_X7_rests_9 : zDc M_X7_rests 9 (.iload_n 2) 1 10 := ⟨by decide +kernel, rfl⟩
theorem d_X7_rests_10 : zDc M_X7_rests 10 (.invokevirtual 146) 3 13 := ⟨by decide +kernel, rfl⟩
theorem d_X7_rests_13 : zDj M_X7_rests 13 (.ifCond .eq 8) 8 16 21 := ⟨by decide +kernel, rfl, by decide⟩
theorem d_X7_rests_16 : zDc M_X7_rests 16 (.iload_n 1) 1 17 := ⟨by decide +kernel, rfl⟩
theorem d_X7_rests_17 : zDc M_X7_rests 17 (.iload_n 2) 1 18 := ⟨by decide +kernel, rfl⟩
theorem d_X7_rests_18 : zDj M_X7_rests 18 (.if_icmp .ne 5) 5 21 23 := ⟨by decide +kernel, rfl, by decide⟩
theorem d_X7_rests_21 : zDc M_X7_rests 21 (.iconst (-1)) 1 22 := ⟨by decide +kernel, rfl⟩
theorem d_X7_rests_22 : zDc M_X7_rests 22 (.ireturn) 1 23 := ⟨by decide +kernel, rfl⟩
theorem d_X7_rests_23 : zDc M_X7_rests 23 (.aload_n 0) 1 24 := ⟨by decide +kernel, rfl⟩
theorem d_X7_rests_24 : zDc M_X7_rests 24 (.getfield 66) 3 27 := ⟨by decide +kernel, rfl⟩
theorem d_X7_rests_27 : zDc M_X7_rests 27 (.aload_n 0) 1 28 := ⟨by decide +kernel, rfl⟩
theorem d_X7_rests_28 : zDc M_X7_rests 28 (.getfield 38) 3 31 := ⟨by decide +kernel, rfl⟩
theorem d_X7_rests_31 : zDc M_X7_rests 31 (.iload_n 1) 1 32 := ⟨by decide +kernel, rfl⟩
theorem d_X7_rests_32 : zDc M_X7_rests 32 (.iload_n 2) 1 33 := ⟨by decide +kernel, rfl⟩
theorem d_X7_rests_33 : zDc M_X7_rests 33 (.invokevirtual 288) 3 36 := ⟨by decide +kernel, rfl⟩
theorem d_X7_rests_36 : zDc M_X7_rests 36 (.iconst 0) 1 37 := ⟨by decide +kernel, rfl⟩
theorem d_X7_rests_37 : zDc M_X7_rests 37 (.istore_n 3) 1 38 := ⟨by decide +kernel, rfl⟩
theorem d_X7_rests_38 : zDc M_X7_rests 38 (.iconst 0) 1 39 := ⟨by decide +kernel, rfl⟩
theorem d_X7_rests_39 : zDc M_X7_rests 39 (.istore 4) 2 41 := ⟨by decide +kernel, rfl⟩
theorem d_X7_rests_41 : zDc M_X7_rests 41 (.iload 4) 2 43 := ⟨by decide +kernel, rfl⟩
theorem d_X7_rests_43 : zDc M_X7_rests 43 (.bipush 25) 2 45 := ⟨by decide +kernel, rfl⟩
theorem d_X7_rests_45 : zDj M_X7_rests 45 (.if_icmp .ge 24) 24 48 69 := ⟨by decide +kernel, rfl, by decide⟩
theorem d_X7_rests_48 : zDc M_X7_rests 48 (.aload_n 0) 1 49 := ⟨by decide +kernel, rfl⟩
theorem d_X7_rests_49 : zDc M_X7_rests 49 (.getfield 66) 3 52 := ⟨by decide +kernel, rfl⟩
theorem d_X7_rests_52 : zDc M_X7_rests 52 (.iload 4) 2 54 := ⟨by decide +kernel, rfl⟩
theorem d_X7_rests_54 : zDc M_X7_rests 54 (.invokevirtual 292) 3 57 := ⟨by decide +kernel, rfl⟩
theorem d_X7_rests_57 : zDj M_X7_rests 57 (.ifCond .eq 6) 6 60 63 := ⟨by decide +kernel, rfl, by decide⟩
theorem d_X7_rests_60 : zDc M_X7_rests 60 (.iinc 3 1) 3 63 := ⟨by decide +kernel, rfl⟩
theorem d_X7_rests_63 : zDc M_X7_rests 63 (.iinc 4 1) 3 66 := ⟨by decide +kernel, rfl⟩
theorem d_X7_rests_66 : zDj M_X7_rests 66 (.goto (-25)) (-25) 69 41 := ⟨by decide +kernel, rfl, by decide⟩
theorem d_X7_rests_69 : zDc M_X7_rests 69 (.iload_n 3) 1 70 := ⟨by decide +kernel, rfl⟩
theorem d_X7_rests_70 : zDc M_X7_rests 70 (.ireturn) 1 71 := ⟨by decide +kernel, rfl⟩
def f_X7_rests (a0 : Nat) (a1 : Int32) (a2 : Int32) (h0 : zHp) : Option (Int32 × zHp) :=
  zbd (zcv 7 a0 h0 (f_X7_isChild a0 a1 h0)) (fun v2 h1 =>
  if v2 = 0 then
  some ((-1), h1)
  else
  zbd (zcv 7 a0 h1 (f_X7_isChild a0 a2 h1)) (fun v4 h3 =>
  if v4 = 0 then
  some ((-1), h3)
  else
  if a1 = a2 then
  some ((-1), h3)
  else
  zob (zgR h3 a0 7 9) (fun v5 =>
  zob (zgR h3 a0 7 4) (fun v6 =>
  zbd (zcv 1 v5 h3 (f_X1_tryBoth v5 v6 a1 a2 h3)) (fun v8 h7 =>
  zbd (
  zlp (σ := (Int32 × Int32)) (β := (Int32 × Int32)) zLF (fun s9 h10 =>
  if 25 ≤ s9.2 then
  some ((.inr (s9.1, s9.2)), h10)
  else
  zob (zgR h10 a0 7 9) (fun v13 =>
  zbd (zcv 1 v13 h10 (f_X1_isRest v13 s9.2 h10)) (fun v15 h14 =>
  if v15 = 0 then
  some ((.inl (s9.1, (s9.2 + 1))), h14)
  else
  some ((.inl ((s9.1 + 1), (s9.2 + 1))), h14)))) (0, 0) h7) (fun e11 h12 =>
  some (e11.1, h12)))))))
set_option maxRecDepth 100000 in
set_option maxHeartbeats 4000000 in
theorem t_X7_rests (a0 : Nat) (a1 : Int32) (a2 : Int32) (h0 : zHp) : ∀ (r : Int32) (h' : zHp), f_X7_rests a0 a1 a2 h0 = some (r, h') → zCt yX7_rests (.code yX7_rests cX7_rests 5 (some .int)) 7 203 0 0 [.ref a0, .int a1, .int a2] h0 (some (.int r)) h' := by
  refine zct_of M_X7_rests yX7_rests (by decide) rfl rfl [.ref a0, .int a1, .int a2] h0 (Nat.le_of_ble_eq_true rfl) (fun r => some (.int r)) (fun X => ?_)
  show zG X M_X7_rests (0, 0) 0 [(0, .ref a0), (1, .int a1), (2, .int a2)] [] h0 (f_X7_rests a0 a1 a2 h0) (fun (r : Int32) h' => zKe X (some (.int r)) h')
  unfold f_X7_rests
  refine zg_aload_n 0 rfl d_X7_rests_0 ?_
  refine zg_iload_n 1 rfl d_X7_rests_1 ?_
  refine zg_cVi (b := a0) (As := [.int a1]) (rest := []) (0, 0) d_X7_rests_2 zc_7 rfl cw_X7_146 wi_X7_isChild ws_X7_isChild rfl rfl (Nat.le_of_ble_eq_true rfl) (by decide) (by decide) ⟨by decide, by decide⟩ rfl (t_X7_isChild a0 a1 h0) (fun v2 h1 => ?_)
  refine zg_if_eq d_X7_rests_5 ?_ ?_
  · refine zg_iconst (-1) rfl d_X7_rests_21 ?_
    exact zg_iretK d_X7_rests_22 rfl ⟨Nat.le_of_ble_eq_true rfl, Nat.le_of_ble_eq_true rfl⟩ (fun q => q)
  · refine zg_aload_n 0 rfl d_X7_rests_8 ?_
    refine zg_iload_n 2 rfl d_X7_rests_9 ?_
    refine zg_cVi (b := a0) (As := [.int a2]) (rest := []) (0, 0) d_X7_rests_10 zc_7 rfl cw_X7_146 wi_X7_isChild ws_X7_isChild rfl rfl (Nat.le_of_ble_eq_true rfl) (by decide) (by decide) ⟨by decide, by decide⟩ rfl (t_X7_isChild a0 a2 h1) (fun v4 h3 => ?_)
    refine zg_if_eq d_X7_rests_13 ?_ ?_
    · refine zg_iconst (-1) rfl d_X7_rests_21 ?_
      exact zg_iretK d_X7_rests_22 rfl ⟨Nat.le_of_ble_eq_true rfl, Nat.le_of_ble_eq_true rfl⟩ (fun q => q)
    · refine zg_iload_n 1 rfl d_X7_rests_16 ?_
      refine zg_iload_n 2 rfl d_X7_rests_17 ?_
      refine zg_icmp_ne d_X7_rests_18 ?_ ?_
      · refine zg_iconst (-1) rfl d_X7_rests_21 ?_
        exact zg_iretK d_X7_rests_22 rfl ⟨Nat.le_of_ble_eq_true rfl, Nat.le_of_ble_eq_true rfl⟩ (fun q => q)
      · refine zg_aload_n 0 rfl d_X7_rests_23 ?_
        refine zg_getR d_X7_rests_24 zc_7 (by decide) fl_X7_66 (fun v5 => ?_)
        refine zg_aload_n 0 rfl d_X7_rests_27 ?_
        refine zg_getR d_X7_rests_28 zc_7 (by decide) fl_X7_38 (fun v6 => ?_)
        refine zg_iload_n 1 rfl d_X7_rests_31 ?_
        refine zg_iload_n 2 rfl d_X7_rests_32 ?_
        refine zg_cVv (b := v5) (As := [.ref v6, .int a1, .int a2]) (rest := []) (0, 0) d_X7_rests_33 zc_1 rfl cw_X7_288 wi_X1_tryBoth ws_X1_tryBoth rfl rfl (Nat.le_of_ble_eq_true rfl) (by decide) (by decide) ⟨by decide, by decide⟩ rfl (t_X1_tryBoth v5 v6 a1 a2 h3) (fun v8 h7 => ?_)
        refine zg_iconst 0 rfl d_X7_rests_36 ?_
        refine zg_istore_n [(3, .int 0), (0, .ref a0), (1, .int a1), (2, .int a2)] d_X7_rests_37 rfl (by decide) rfl ?_
        refine zg_iconst 0 rfl d_X7_rests_38 ?_
        refine zg_istore [(4, .int 0), (3, .int 0), (0, .ref a0), (1, .int a1), (2, .int a2)] d_X7_rests_39 (by decide) rfl ?_
        refine zg_bd (E := 69) (el := (fun (e11 : (Int32 × Int32)) => [(0, .ref a0), (1, .int a1), (2, .int a2), (3, .int e11.1), (4, .int e11.2)])) (es := fun _ => []) (zg_sub [2, 3, 4, 1, 0] rfl (zg_lp (el := (fun (s9 : (Int32 × Int32)) => [(0, .ref a0), (1, .int a1), (2, .int a2), (3, .int s9.1), (4, .int s9.2)])) (fun s9 h10 => ?_) (0, 0) h7)) (fun e11 h12 => ?_)
        · refine zg_iload 4 rfl d_X7_rests_41 ?_
          refine zg_bipush 25 rfl d_X7_rests_43 ?_
          refine zg_icmp_ge d_X7_rests_45 ?_ ?_
          · exact zg_finK (E := 0) [0, 1, 2, 3, 4] rfl rfl (fun q => q)
          · refine zg_aload_n 0 rfl d_X7_rests_48 ?_
            refine zg_getR d_X7_rests_49 zc_7 (by decide) fl_X7_66 (fun v13 => ?_)
            refine zg_iload 4 rfl d_X7_rests_52 ?_
            refine zg_cVi (b := v13) (As := [.int s9.2]) (rest := []) (0, 0) d_X7_rests_54 zc_1 rfl cw_X7_292 wi_X1_isRest ws_X1_isRest rfl rfl (Nat.le_of_ble_eq_true rfl) (by decide) (by decide) ⟨by decide, by decide⟩ rfl (t_X1_isRest v13 s9.2 h10) (fun v15 h14 => ?_)
            refine zg_if_eq d_X7_rests_57 ?_ ?_
            · refine zg_iinc 4 (s9.2 + 1) [(4, .int (s9.2 + 1)), (0, .ref a0), (1, .int a1), (2, .int a2), (3, .int s9.1)] d_X7_rests_63 rfl rfl (by decide) rfl ?_
              refine zg_goto d_X7_rests_66 ?_
              exact zg_finK (E := 0) [1, 2, 3, 4, 0] rfl rfl (fun q => q)
            · refine zg_iinc 3 (s9.1 + 1) [(3, .int (s9.1 + 1)), (0, .ref a0), (1, .int a1), (2, .int a2), (4, .int s9.2)] d_X7_rests_60 rfl rfl (by decide) rfl ?_
              refine zg_iinc 4 (s9.2 + 1) [(4, .int (s9.2 + 1)), (3, .int (s9.1 + 1)), (0, .ref a0), (1, .int a1), (2, .int a2)] d_X7_rests_63 rfl rfl (by decide) rfl ?_
              refine zg_goto d_X7_rests_66 ?_
              exact zg_finK (E := 0) [2, 3, 4, 1, 0] rfl rfl (fun q => q)
        · refine zg_iload_n 3 rfl d_X7_rests_69 ?_
          exact zg_iretK d_X7_rests_70 rfl ⟨Nat.le_of_ble_eq_true rfl, Nat.le_of_ble_eq_true rfl⟩ (fun q => q)

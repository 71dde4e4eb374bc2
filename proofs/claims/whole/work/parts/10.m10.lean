theorem fl_X7_95 : Cond.fieldLink RX7 95 (TX6 1).1 (TX6 1).2.1 (TX6 1).2.2.1 ∈ zT := zw_of _ 198 (by decide +kernel) (by decide +kernel)
theorem ml_X7_102 : Cond.methodLink RX7 102 yX7_numberOf ∈ zT := zw_of _ 809 (by decide +kernel) (by decide +kernel)
theorem cw_X7_102 : zCw RX7 102 yX7_numberOf cX7_numberOf 4 (some .int) 3 := ⟨ml_X7_102, ni_X7, cd_X7_numberOf, by decide, by decide, by decide +kernel⟩
theorem fl_X7_106 : Cond.fieldLink RX7 106 (TX6 4).1 (TX6 4).2.1 (TX6 4).2.2.1 ∈ zT := zw_of _ 209 (by decide +kernel) (by decide +kernel)
theorem fl_X7_112 : Cond.fieldLink RX7 112 (TX6 8).1 (TX6 8).2.1 (TX6 8).2.2.1 ∈ zT := zw_of _ 221 (by decide +kernel) (by decide +kernel)
theorem ml_X7_295 : Cond.methodLink RX7 295 yX3_add ∈ zT := zw_of _ 1162 (by decide +kernel) (by decide +kernel)
theorem cw_X7_295 : zCw RX7 295 yX3_add cX3_add 5 (some .int) 4 := ⟨ml_X7_295, ni_X3, cd_X3_add, by decide, by decide, by decide +kernel⟩
theorem ml_X7_302 : Cond.methodLink RX7 302 yX3_addStrike ∈ zT := zw_of _ 1170 (by decide +kernel) (by decide +kernel)
theorem cd_X3_addStrike : Cond.code yX3_addStrike cX3_addStrike 3 (some .int) ∈ zT := zw_of _ 1173 (by decide +kernel) (by decide +kernel)
theorem cw_X7_302 : zCw RX7 302 yX3_addStrike cX3_addStrike 3 (some .int) 1 := ⟨ml_X7_302, ni_X3, cd_X3_addStrike, by decide, by decide, by decide +kernel⟩
theorem wi_X3_addStrike : Cond.instanceMethod yX3_addStrike ∈ zT := zw_of _ 1171 (by decide +kernel) (by decide +kernel)
theorem ws_X3_addStrike : Cond.selects RX3 yX3_addStrike yX3_addStrike ∈ zT := zw_of _ 1172 (by decide +kernel) (by decide +kernel)
theorem ml_X7_204 : Cond.methodLink RX7 204 yX5_firstToPush ∈ zT := zw_of _ 913 (by decide +kernel) (by decide +kernel)
theorem cw_X7_204 : zCw RX7 204 yX5_firstToPush cX5_firstToPush 3 (some .int) 1 := ⟨ml_X7_204, ni_X5, cd_X5_firstToPush, by decide, by decide, by decide +kernel⟩
theorem fl_X7_125 : Cond.fieldLink RX7 125 (TX5 0).1 (TX5 0).2.1 (TX5 0).2.2.1 ∈ zT := zw_of _ 404 (by decide +kernel) (by decide +kernel)
theorem fl_X7_128 : Cond.fieldLink RX7 128 (TX5 1).1 (TX5 1).2.1 (TX5 1).2.2.1 ∈ zT := zw_of _ 407 (by decide +kernel) (by decide +kernel)
theorem ml_X7_211 : Cond.methodLink RX7 211 yX5_moveCloud ∈ zT := zw_of _ 932 (by decide +kernel) (by decide +kernel)
theorem cw_X7_211 : zCw RX7 211 yX5_moveCloud cX5_moveCloud 5 none 2 := ⟨ml_X7_211, ni_X5, cd_X5_moveCloud, by decide, by decide, by decide +kernel⟩
theorem ml_X7_288 : Cond.methodLink RX7 288 yX1_tryBoth ∈ zT := zw_of _ 1145 (by decide +kernel) (by decide +kernel)
theorem cd_X1_tryBoth : Cond.code yX1_tryBoth cX1_tryBoth 5 none ∈ zT := zw_of _ 1148 (by decide +kernel) (by decide +kernel)
theorem cw_X7_288 : zCw RX7 288 yX1_tryBoth cX1_tryBoth 5 none 3 := ⟨ml_X7_288, ni_X1, cd_X1_tryBoth, by decide, by decide, by decide +kernel⟩
theorem wi_X1_tryBoth : Cond.instanceMethod yX1_tryBoth ∈ zT := zw_of _ 1146 (by decide +kernel) (by decide +kernel)
theorem ws_X1_tryBoth : Cond.selects RX1 yX1_tryBoth yX1_tryBoth ∈ zT := zw_of _ 1147 (by decide +kernel) (by decide +kernel)
theorem ml_X7_292 : Cond.methodLink RX7 292 yX1_isRest ∈ zT := zw_of _ 1150 (by decide +kernel) (by decide +kernel)
theorem cd_X1_isRest : Cond.code yX1_isRest cX1_isRest 5 (some .boolean) ∈ zT := zw_of _ 1153 (by decide +kernel) (by decide +kernel)
theorem cw_X7_292 : zCw RX7 292 yX1_isRest cX1_isRest 5 (some .boolean) 1 := ⟨ml_X7_292, ni_X1, cd_X1_isRest, by decide, by decide, by decide +kernel⟩
theorem wi_X1_isRest : Cond.instanceMethod yX1_isRest ∈ zT := zw_of _ 1151 (by decide +kernel) (by decide +kernel)
theorem ws_X1_isRest : Cond.selects RX1 yX1_isRest yX1_isRest ∈ zT := zw_of _ 1152 (by decide +kernel) (by decide +kernel)
theorem ml_X7_308 : Cond.methodLink RX7 308 yX3_strikeOut ∈ zT := zw_of _ 1183 (by decide +kernel) (by decide +kernel)
theorem cd_X3_strikeOut : Cond.code yX3_strikeOut cX3_strikeOut 2 none ∈ zT := zw_of _ 1186 (by decide +kernel) (by decide +kernel)
theorem cw_X7_308 : zCw RX7 308 yX3_strikeOut cX3_strikeOut 2 none 0 := ⟨ml_X7_308, ni_X3, cd_X3_strikeOut, by decide, by decide, by decide +kernel⟩
theorem wi_X3_strikeOut : Cond.instanceMethod yX3_strikeOut ∈ zT := zw_of _ 1184 (by decide +kernel) (by decide +kernel)
theorem ws_X3_strikeOut : Cond.selects RX3 yX3_strikeOut yX3_strikeOut ∈ zT := zw_of _ 1185 (by decide +kernel) (by decide +kernel)
theorem ml_X7_311 : Cond.methodLink RX7 311 yX1_agrees ∈ zT := zw_of _ 1191 (by decide +kernel) (by decide +kernel)
theorem cd_X1_agrees : Cond.code yX1_agrees cX1_agrees 7 (some .boolean) ∈ zT := zw_of _ 1194 (by decide +kernel) (by decide +kernel)
theorem cw_X7_311 : zCw RX7 311 yX1_agrees cX1_agrees 7 (some .boolean) 4 := ⟨ml_X7_311, ni_X1, cd_X1_agrees, by decide, by decide, by decide +kernel⟩
theorem wi_X1_agrees : Cond.instanceMethod yX1_agrees ∈ zT := zw_of _ 1192 (by decide +kernel) (by decide +kernel)
theorem ws_X1_agrees : Cond.selects RX1 yX1_agrees yX1_agrees ∈ zT := zw_of _ 1193 (by decide +kernel) (by decide +kernel)
theorem ml_X7_254 : Cond.methodLink RX7 254 yX1_stationOf ∈ zT := zw_of _ 1054 (by decide +kernel) (by decide +kernel)
theorem cd_X1_stationOf : Cond.code yX1_stationOf cX1_stationOf 7 (some .int) ∈ zT := zw_of _ 1057 (by decide +kernel) (by decide +kernel)
theorem cw_X7_254 : zCw RX7 254 yX1_stationOf cX1_stationOf 7 (some .int) 3 := ⟨ml_X7_254, ni_X1, cd_X1_stationOf, by decide, by decide, by decide +kernel⟩
theorem wi_X1_stationOf : Cond.instanceMethod yX1_stationOf ∈ zT := zw_of _ 1055 (by decide +kernel) (by decide +kernel)
theorem ws_X1_stationOf : Cond.selects RX1 yX1_stationOf yX1_stationOf ∈ zT := zw_of _ 1056 (by decide +kernel) (by decide +kernel)
theorem ml_X7_258 : Cond.methodLink RX7 258 yX1_seenFrom ∈ zT := zw_of _ 1060 (by decide +kernel) (by decide +kernel)
theorem cd_X1_seenFrom : Cond.code yX1_seenFrom cX1_seenFrom 2 (some .int) ∈ zT := zw_of _ 1063 (by decide +kernel) (by decide +kernel)
theorem cw_X7_258 : zCw RX7 258 yX1_seenFrom cX1_seenFrom 2 (some .int) 1 := ⟨ml_X7_258, ni_X1, cd_X1_seenFrom, by decide, by decide, by decide +kernel⟩
theorem wi_X1_seenFrom : Cond.instanceMethod yX1_seenFrom ∈ zT := zw_of _ 1061 (by decide +kernel) (by decide +kernel)
theorem ws_X1_seenFrom : Cond.selects RX1 yX1_seenFrom yX1_seenFrom ∈ zT := zw_of _ 1062 (by decide +kernel) (by decide +kernel)
theorem ml_X7_272 : Cond.methodLink RX7 272 yX5_wouldSwap ∈ zT := zw_of _ 1089 (by decide +kernel) (by decide +kernel)
theorem cd_X5_wouldSwap : Cond.code yX5_wouldSwap cX5_wouldSwap 5 (some .boolean) ∈ zT := zw_of _ 1092 (by decide +kernel) (by decide +kernel)
theorem cw_X7_272 : zCw RX7 272 yX5_wouldSwap cX5_wouldSwap 5 (some .boolean) 2 := ⟨ml_X7_272, ni_X5, cd_X5_wouldSwap, by decide, by decide, by decide +kernel⟩
theorem wi_X5_wouldSwap : Cond.instanceMethod yX5_wouldSwap ∈ zT := zw_of _ 1090 (by decide +kernel) (by decide +kernel)
theorem ws_X5_wouldSwap : Cond.selects RX5 yX5_wouldSwap yX5_wouldSwap ∈ zT := zw_of _ 1091 (by decide +kernel) (by decide +kernel)
theorem ml_X7_74 : Cond.methodLink RX7 74 yX4_readText ∈ zT := zw_of _ 614 (by decide +kernel) (by decide +kernel)
theorem cd_X4_readText : Cond.code yX4_readText cX4_readText 5 (some .int) ∈ zT := zw_of _ 617 (by decide +kernel) (by decide +kernel)
theorem cw_X7_74 : zCw RX7 74 yX4_readText cX4_readText 5 (some .int) 2 := ⟨ml_X7_74, ni_X4, cd_X4_readText, by decide, by decide, by decide +kernel⟩
theorem wi_X4_readText : Cond.instanceMethod yX4_readText ∈ zT := zw_of _ 615 (by decide +kernel) (by decide +kernel)
theorem ws_X4_readText : Cond.selects RX4 yX4_readText yX4_readText ∈ zT := zw_of _ 616 (by decide +kernel) (by decide +kernel)
theorem ml_X7_78 : Cond.methodLink RX7 78 yX4_takeTold ∈ zT := zw_of _ 785 (by decide +kernel) (by decide +kernel)
theorem cd_X4_takeTold : Cond.code yX4_takeTold cX4_takeTold 3 (some (.object "CloudSchool$Told")) ∈ zT := zw_of _ 788 (by decide +kernel) (by decide +kernel)
theorem cw_X7_78 : zCw RX7 78 yX4_takeTold cX4_takeTold 3 (some (.object "CloudSchool$Told")) 1 := ⟨ml_X7_78, ni_X4, cd_X4_takeTold, by decide, by decide, by decide +kernel⟩
theorem wi_X4_takeTold : Cond.instanceMethod yX4_takeTold ∈ zT := zw_of _ 786 (by decide +kernel) (by decide +kernel)
theorem ws_X4_takeTold : Cond.selects RX4 yX4_takeTold yX4_takeTold ∈ zT := zw_of _ 787 (by decide +kernel) (by decide +kernel)
theorem ml_X7_82 : Cond.methodLink RX7 82 yX5_startOf ∈ zT := zw_of _ 789 (by decide +kernel) (by decide +kernel)
theorem cw_X7_82 : zCw RX7 82 yX5_startOf cX5_startOf 4 none 1 := ⟨ml_X7_82, ni_X5, cd_X5_startOf, by decide, by decide, by decide +kernel⟩
theorem ml_X7_85 : Cond.methodLink RX7 85 yX3_forget ∈ zT := zw_of _ 793 (by decide +kernel) (by decide +kernel)
theorem cd_X3_forget : Cond.code yX3_forget cX3_forget 1 none ∈ zT := zw_of _ 796 (by decide +kernel) (by decide +kernel)
theorem cw_X7_85 : zCw RX7 85 yX3_forget cX3_forget 1 none 0 := ⟨ml_X7_85, ni_X3, cd_X3_forget, by decide, by decide, by decide +kernel⟩
theorem wi_X3_forget : Cond.instanceMethod yX3_forget ∈ zT := zw_of _ 794 (by decide +kernel) (by decide +kernel)
theorem ws_X3_forget : Cond.selects RX3 yX3_forget yX3_forget ∈ zT := zw_of _ 795 (by decide +kernel) (by decide +kernel)
abbrev M_X7_named : zMt := (RX7, cX7_named, 3, 2, 83, (some .int), "named", 0, 0)
theorem d_X7_named_0 : zDc M_X7_named 0 (.iload_n 1) 1 1 := ⟨by decide +kernel, rfl⟩
theorem d_X7_named_1 : zDj M_X7_named 1 (.ifCond .ne 22) 22 4 23 := ⟨by decide +kernel, rfl, by decide⟩
theorem d_X7_named_4 : zDc M_X7_named 4 (.aload_n 0) 1 5 := ⟨by decide +kernel, rfl⟩
theorem d_X7_named_5 : zDc M_X7_named 5 (.getfield 29) 3 8 := ⟨by decide +kernel, rfl⟩
theorem d_X7_named_8 : zDc M_X7_named 8 (.getfield 95) 3 11 := ⟨by decide +kernel, rfl⟩
theorem d_X7_named_11 : zDc M_X7_named 11 (.aload_n 0) 1 12 := ⟨by decide +kernel, rfl⟩
theorem d_X7_named_12 : zDc M_X7_named 12 (.getfield 29) 3 15 := ⟨by decide +kernel, rfl⟩
theorem d_X7_named_15 : zDc M_X7_named 15 (.getfield 99) 3 18 := ⟨by decide +kernel, rfl⟩
theorem d_X7_named_18 : zDc M_X7_named 18 (.iload_n 2) 1 19 := ⟨by decide +kernel, rfl⟩
theorem d_X7_named_19 : zDc M_X7_named 19 (.invokestatic 102) 3 22 := ⟨by decide +kernel, rfl⟩
theorem d_X7_named_22 : zDc M_X7_named 22 (.ireturn) 1 23 := ⟨by decide +kernel, rfl⟩
theorem d_X7_named_23 : zDc M_X7_named 23 (.iload_n 1) 1 24 := ⟨by decide +kernel, rfl⟩
theorem d_X7_named_24 : zDc M_X7_named 24 (.iconst 1) 1 25 := ⟨by decide +kernel, rfl⟩
theorem d_X7_named_25 : zDj M_X7_named 25 (.if_icmp .ne 22) 22 28 47 := ⟨by decide +kernel, rfl, by decide⟩
theorem d_X7_named_28 : zDc M_X7_named 28 (.aload_n 0) 1 29 := ⟨by decide +kernel, rfl⟩
theorem d_X7_named_29 : zDc M_X7_named 29 (.getfield 29) 3 32 := ⟨by decide +kernel, rfl⟩
theorem d_X7_named_32 : zDc M_X7_named 32 (.getfield 106) 3 35 := ⟨by decide +kernel, rfl⟩
theorem d_X7_named_35 : zDc M_X7_named 35 (.aload_n 0) 1 36 := ⟨by decide +kernel, rfl⟩
theorem d_X7_named_36 : zDc M_X7_named 36 (.getfield 29) 3 39 := ⟨by decide +kernel, rfl⟩
theorem d_X7_named_39 : zDc M_X7_named 39 (.getfield 109) 3 42 := ⟨by decide +kernel, rfl⟩
theorem d_X7_named_42 : zDc M_X7_named 42 (.iload_n 2) 1 43 := ⟨by decide +kernel, rfl⟩
theorem d_X7_named_43 : zDc M_X7_named 43 (.invokestatic 102) 3 46 := ⟨by decide +kernel, rfl⟩
theorem d_X7_named_46 : zDc M_X7_named 46 (.ireturn) 1 47 := ⟨by decide +kernel, rfl⟩
theorem d_X7_named_47 : zDc M_X7_named 47 (.iload_n 1) 1 48 := ⟨by decide +kernel, rfl⟩
theorem d_X7_named_48 : zDc M_X7_named 48 (.iconst 2) 1 49 := ⟨by decide +kernel, rfl⟩
theorem d_X7_named_49 : zDj M_X7_named 49 (.if_icmp .ne 24) 24 52 73 := ⟨by decide +kernel, rfl, by decide⟩
theorem d_X7_named_52 : zDc M_X7_named 52 (.aload_n 0) 1 53 := ⟨by decide +kernel, rfl⟩
theorem d_X7_named_53 : zDc M_X7_named 53 (.getfield 29) 3 56 := ⟨by decide +kernel, rfl⟩
theorem d_X7_named_56 : zDc M_X7_named 56 (.getfield 112) 3 59 := ⟨by decide +kernel, rfl⟩
theorem d_X7_named_59 : zDc M_X7_named 59 (.aload_n 0) 1 60 := ⟨by decide +kernel, rfl⟩
theorem d_X7_named_60 : zDc M_X7_named 60 (.getfield 29) 3 63 := ⟨by decide +kernel, rfl⟩
theorem d_X7_named_63 : zDc M_X7_named 63 (.getfield 115) 3 66 := ⟨by decide +kernel, rfl⟩
theorem d_X7_named_66 : zDc M_X7_named 66 (.iload_n 2) 1 67 := ⟨by decide +kernel, rfl⟩
theorem d_X7_named_67 : zDc M_X7_named 67 (.invokestatic 102) 3 70 := ⟨by decide +kernel, rfl⟩
theorem d_X7_named_70 : zDj M_X7_named 70 (.goto 4) 4 73 74 := ⟨by decide +kernel, rfl, by decide⟩
theorem d_X7_named_73 : zDc M_X7_named 73 (.iconst (-1)) 1 74 := ⟨by decide +kernel, rfl⟩
theorem d_X7_named_74 : zDc M_X7_named 74 (.ireturn) 1 75 := ⟨by decide +kernel, rfl⟩
def f_X7_named (a0 : Nat) (a1 : Int32) (a2 : Int32) (h0 : zHp) : Option (Int32 × zHp) :=
  if a1 = 0 then
  zob (zgR h0 a0 7 3) (fun v1 =>
  zob (zgR h0 v1 6 1) (fun v2 =>
  zob (zgR h0 a0 7 3) (fun v3 =>
  zob (zgI h0 v3 6 13) (fun v4 =>
  zbd ((f_X7_numberOf v2 v4 a2 h0)) (fun v6 h5 =>
  some (v6, h5))))))
  else
  if a1 = 1 then
  zob (zgR h0 a0 7 3) (fun v7 =>
  zob (zgR h0 v7 6 4) (fun v8 =>
  zob (zgR h0 a0 7 3) (fun v9 =>
  zob (zgI h0 v9 6 14) (fun v10 =>
  zbd ((f_X7_numberOf v8 v10 a2 h0)) (fun v12 h11 =>
  some (v12, h11))))))
  else
  if a1 = 2 then
  zob (zgR h0 a0 7 3) (fun v13 =>
  zob (zgR h0 v13 6 8) (fun v14 =>
  zob (zgR h0 a0 7 3) (fun v15 =>
  zob (zgI h0 v15 6 15) (fun v16 =>
  zbd ((f_X7_numberOf v14 v16 a2 h0)) (fun v18 h17 =>
  some (v18, h17))))))
  else
  some ((-1), h0)
set_option maxRecDepth 100000 in
set_option maxHeartbeats 4000000 in
theorem t_X7_named (a0 : Nat) (a1 : Int32) (a2 : Int32) (h0 : zHp) : ∀ (r : Int32) (h' : zHp), f_X7_named a0 a1 a2 h0 = some (r, h') → zCt yX7_named (.code yX7_named cX7_named 3 (some .int)) 2 83 0 0 [.ref a0, .int a1, .int a2] h0 (some (.int r)) h' := by
  refine zct_of M_X7_named yX7_named (by decide) rfl rfl [.ref a0, .int a1, .int a2] h0 (Nat.le_of_ble_eq_true rfl) (fun r => some (.int r)) (fun X => ?_)
  show zG X M_X7_named (0, 0) 0 [(0, .ref a0), (1, .int a1), (2, .int a2)] [] h0 (f_X7_named a0 a1 a2 h0) (fun (r : Int32) h' => zKe X (some (.int r)) h')
  unfold f_X7_named
  refine zg_iload_n 1 rfl d_X7_named_0 ?_
  refine zg_if_ne d_X7_named_1 ?_ ?_
  · refine zg_aload_n 0 rfl d_X7_named_4 ?_
    refine zg_getR d_X7_named_5 zc_7 (by decide) fl_X7_29 (fun v1 => ?_)
    refine zg_getR d_X7_named_8 zc_6 (by decide) fl_X7_95 (fun v2 => ?_)
    refine zg_aload_n 0 rfl d_X7_named_11 ?_
    refine zg_getR d_X7_named_12 zc_7 (by decide) fl_X7_29 (fun v3 => ?_)
    refine zg_getI d_X7_named_15 zc_6 (by decide) fl_X7_99 (fun v4 => ?_)
    refine zg_iload_n 2 rfl d_X7_named_18 ?_
    refine zg_cSi (As := [.ref v2, .int v4, .int a2]) (rest := []) (0, 0) d_X7_named_19 cw_X7_102 wt_X7_numberOf rfl rfl (Nat.le_of_ble_eq_true rfl) (by decide) (by decide) ⟨by decide, by decide⟩ rfl (t_X7_numberOf v2 v4 a2 h0) (fun v6 h5 => ?_)
    exact zg_iretK d_X7_named_22 rfl ⟨Nat.le_of_ble_eq_true rfl, Nat.le_of_ble_eq_true rfl⟩ (fun q => q)
  · refine zg_iload_n 1 rfl d_X7_named_23 ?_
    refine zg_iconst 1 rfl d_X7_named_24 ?_
    refine zg_icmp_ne d_X7_named_25 ?_ ?_
    · refine zg_aload_n 0 rfl d_X7_named_28 ?_
      refine zg_getR d_X7_named_29 zc_7 (by decide) fl_X7_29 (fun v7 => ?_)
      refine zg_getR d_X7_named_32 zc_6 (by decide) fl_X7_106 (fun v8 => ?_)
      refine zg_aload_n 0 rfl d_X7_named_35 ?_
      refine zg_getR d_X7_named_36 zc_7 (by decide) fl_X7_29 (fun v9 => ?_)
      refine zg_getI d_X7_named_39 zc_6 (by decide) fl_X7_109 (fun v10 => ?_)
      refine zg_iload_n 2 rfl d_X7_named_42 ?_
      refine zg_cSi (As := [.ref v8, .int v10, .int a2]) (rest := []) (0, 0) d_X7_named_43 cw_X7_102 wt_X7_numberOf rfl rfl (Nat.le_of_ble_eq_true rfl) (by decide) (by decide) ⟨by decide, by decide⟩ rfl (t_X7_numberOf v8 v10 a2 h0) (fun v12 h11 => ?_)
      exact zg_iretK d_X7_named_46 rfl ⟨Nat.le_of_ble_eq_true rfl, Nat.le_of_ble_eq_true rfl⟩ (fun q => q)
    · refine zg_iload_n 1 rfl d_X7_named_47 ?_
      refine zg_iconst 2 rfl d_X7_named_48 ?_
      refine zg_icmp_ne d_X7_named_49 ?_ ?_
      · refine zg_aload_n 0 rfl d_X7_named_52 ?_
        refine zg_getR d_X7_named_53 zc_7 (by decide) fl_X7_29 (fun v13 => ?_)
        refine zg_getR d_X7_named_56 zc_6 (by decide) fl_X7_112 (fun v14 => ?_)
        refine zg_aload_n 0 rfl d_X7_named_59 ?_
        refine zg_getR d_X7_named_60 zc_7 (by decide) fl_X7_29 (fun v15 => ?_)
        refine zg_getI d_X7_named_63 zc_6 (by decide) fl_X7_115 (fun v16 => ?_)
        refine zg_iload_n 2 rfl d_X7_named_66 ?_
        refine zg_cSi (As := [.ref v14, .int v16, .int a2]) (rest := []) (0, 0) d_X7_named_67 cw_X7_102 wt_X7_numberOf rfl rfl (Nat.le_of_ble_eq_true rfl) (by decide) (by decide) ⟨by decide, by decide⟩ rfl (t_X7_numberOf v14 v16 a2 h0) (fun v18 h17 => ?_)
        refine zg_goto d_X7_named_70 ?_
        exact zg_iretK d_X7_named_74 rfl ⟨Nat.le_of_ble_eq_true rfl, Nat.le_of_ble_eq_true rfl⟩ (fun q => q)
      · refine zg_iconst (-1) rfl d_X7_named_73 ?_
        exact zg_iretK d_X7_named_74 rfl ⟨Nat.le_of_ble_eq_true rfl, Nat.le_of_ble_eq_true rfl⟩ (fun q => q)
abbrev M_X7_note : zMt := (RX7, cX7_note, 5, 2, 84, (some .int), "note", 0, 0)
theorem d_X7_note_0 : zDc M_X7_note 0 (.iconst 1) 1 1 := ⟨by decide +kernel, rfl⟩
theorem d_X7_note_1 : zDc M_X7_note 1 (.iload_n 1) 1 2 := ⟨by decide +kernel, rfl⟩
theorem d_X7_note_2 : zDc M_X7_note 2 (.bipush 40) 2 4 := ⟨by decide +kernel, rfl⟩
theorem d_X7_note_4 : zDc M_X7_note 4 (.invokestatic 194) 3 7 := ⟨by decide +kernel, rfl⟩
theorem d_X7_note_7 : zDj M_X7_note 7 (.ifCond .eq 11) 11 10 18 := ⟨by decide +kernel, rfl, by decide⟩
theorem d_X7_note_10 : zDc M_X7_note 10 (.iload_n 2) 1 11 := ⟨by decide +kernel, rfl⟩
theorem d_X7_note_11 : zDc M_X7_note 11 (.iload_n 3) 1 12 := ⟨by decide +kernel, rfl⟩
theorem d_X7_note_12 : zDc M_X7_note 12 (.invokestatic 180) 3 15 := ⟨by decide +kernel, rfl⟩
theorem d_X7_note_15 : zDj M_X7_note 15 (.ifCond .ne 5) 5 18 20 := ⟨by decide +kernel, rfl, by decide⟩
theorem d_X7_note_18 : zDc M_X7_note 18 (.iconst (-1)) 1 19 := ⟨by decide +kernel, rfl⟩
theorem d_X7_note_19 : zDc M_X7_note 19 (.ireturn) 1 20 := ⟨by decide +kernel, rfl⟩
theorem d_X7_note_20 : zDc M_X7_note 20 (.aload_n 0) 1 21 := ⟨by decide +kernel, rfl⟩
theorem d_X7_note_21 : zDc M_X7_note 21 (.getfield 59) 3 24 := ⟨by decide +kernel, rfl⟩
theorem d_X7_note_24 : zDc M_X7_note 24 (.iload_n 1) 1 25 := ⟨by decide +kernel, rfl⟩
theorem d_X7_note_25 : zDc M_X7_note 25 (.iload_n 2) 1 26 := ⟨by decide +kernel, rfl⟩
theorem d_X7_note_26 : zDc M_X7_note 26 (.iload_n 3) 1 27 := ⟨by decide +kernel, rfl⟩
theorem d_X7_note_27 : zDc M_X7_note 27 (.iload 4) 2 29 := ⟨by decide +kernel, rfl⟩
theorem d_X7_note_29 : zDc M_X7_note 29 (.invokevirtual 295) 3 32 := ⟨by decide +kernel, rfl⟩
theorem d_X7_note_32 : zDc M_X7_note 32 (.ireturn) 1 33 := ⟨by decide +kernel, rfl⟩
def f_X7_note (a0 : Nat) (a1 : Int32) (a2 : Int32) (a3 : Int32) (a4 : Int32) (h0 : zHp) : Option (Int32 × zHp) :=
  zbd ((f_X7_isFrom 1 a1 40 h0)) (fun v2 h1 =>
  if v2 = 0 then
  some ((-1), h1)
  else
  zbd ((f_X7_isCell a2 a3 h1)) (fun v4 h3 =>
  if v4 = 0 then
  some ((-1), h3)
  else
  zob (zgR h3 a0 7 8) (fun v5 =>
  zbd (zcv 3 v5 h3 (f_X3_add v5 a1 a2 a3 a4 h3)) (fun v7 h6 =>
  some (v7, h6)))))
set_option maxRecDepth 100000 in
set_option maxHeartbeats 4000000 in
theorem t_X7_note (a0 : Nat) (a1 : Int32) (a2 : Int32) (a3 : Int32) (a4 : Int32) (h0 : zHp) : ∀ (r : Int32) (h' : zHp), f_X7_note a0 a1 a2 a3 a4 h0 = some (r, h') → zCt yX7_note (.code yX7_note cX7_note 5 (some .int)) 2 84 0 0 [.ref a0, .int a1, .int a2, .int a3, .int a4] h0 (some (.int r)) h' := by
  refine zct_of M_X7_note yX7_note (by decide) rfl rfl [.ref a0, .int a1, .int a2, .int a3, .int a4] h0 (Nat.le_of_ble_eq_true rfl) (fun r => some (.int r)) (fun X => ?_)
  show zG X M_X7_note (0, 0) 0 [(0, .ref a0), (1, .int a1), (2, .int a2), (3, .int a3), (4, .int a4)] [] h0 (f_X7_note a0 a1 a2 a3 a4 h0) (fun (r : Int32) h' => zKe X (some (.int r)) h')
  unfold f_X7_note
  refine zg_iconst 1 rfl d_X7_note_0 ?_
  refine zg_iload_n 1 rfl d_X7_note_1 ?_
  refine zg_bipush 40 rfl d_X7_note_2 ?_
  refine zg_cSi (As := [.int 1, .int a1, .int 40]) (rest := []) (0, 0) d_X7_note_4 cw_X7_194 wt_X7_isFrom rfl rfl (Nat.le_of_ble_eq_true rfl) (by decide) (by decide) ⟨by decide, by decide⟩ rfl (t_X7_isFrom 1 a1 40 h0) (fun v2 h1 => ?_)
  refine zg_if_eq d_X7_note_7 ?_ ?_
  · refine zg_iconst (-1) rfl d_X7_note_18 ?_
    exact zg_iretK d_X7_note_19 rfl ⟨Nat.le_of_ble_eq_true rfl, Nat.le_of_ble_eq_true rfl⟩ (fun q => q)
  · refine zg_iload_n 2 rfl d_X7_note_10 ?_
    refine zg_iload_n 3 rfl d_X7_note_11 ?_
    refine zg_cSi (As := [.int a2, .int a3]) (rest := []) (0, 0) d_X7_note_12 cw_X7_180 wt_X7_isCell rfl rfl (Nat.le_of_ble_eq_true rfl) (by decide) (by decide) ⟨by decide, by decide⟩ rfl (t_X7_isCell a2 a3 h1) (fun v4 h3 => ?_)
    refine zg_if_ne d_X7_note_15 ?_ ?_
    · refine zg_iconst (-1) rfl d_X7_note_18 ?_
      exact zg_iretK d_X7_note_19 rfl ⟨Nat.le_of_ble_eq_true rfl, Nat.le_of_ble_eq_true rfl⟩ (fun q => q)
    · refine zg_aload_n 0 rfl d_X7_note_20 ?_
      refine zg_getR d_X7_note_21 zc_7 (by decide) fl_X7_59 (fun v5 => ?_)
      refine zg_iload_n 1 rfl d_X7_note_24 ?_
      refine zg_iload_n 2 rfl d_X7_note_25 ?_
      refine zg_iload_n 3 rfl d_X7_note_26 ?_
      refine zg_iload 4 rfl d_X7_note_27 ?_
      refine zg_cVi (b := v5) (As := [.int a1, .int a2, .int a3, .int a4]) (rest := []) (0, 0) d_X7_note_29 zc_3 rfl cw_X7_295 wi_X3_add ws_X3_add rfl rfl (Nat.le_of_ble_eq_true rfl) (by decide) (by decide) ⟨by decide, by decide⟩ rfl (t_X3_add v5 a1 a2 a3 a4 h3) (fun v7 h6 => ?_)
      exact zg_iretK d_X7_note_32 rfl ⟨Nat.le_of_ble_eq_true rfl, Nat.le_of_ble_eq_true rfl⟩ (fun q => q)
abbrev M_X7_out : zMt := (RX7, cX7_out, 2, 3, 106, (some .int), "out", 0, 0)
theorem d_X7_out_0 : zDc M_X7_out 0 (.iconst 0) 1 1 := ⟨by decide +kernel, rfl⟩
theorem d_X7_out_1 : zDc M_X7_out 1 (.iload_n 1) 1 2 := ⟨by decide +kernel, rfl⟩
theorem d_X7_out_2 : zDc M_X7_out 2 (.aload_n 0) 1 3 := ⟨by decide +kernel, rfl⟩
theorem d_X7_out_3 : zDc M_X7_out 3 (.getfield 59) 3 6 := ⟨by decide +kernel, rfl⟩
theorem d_X7_out_6 : zDc M_X7_out 6 (.getfield 299) 3 9 := ⟨by decide +kernel, rfl⟩
theorem d_X7_out_9 : zDc M_X7_out 9 (.iconst 1) 1 10 := ⟨by decide +kernel, rfl⟩
theorem d_X7_out_10 : zDc M_X7_out 10 (.isub) 1 11 := ⟨by decide +kernel, rfl⟩
theorem d_X7_out_11 : zDc M_X7_out 11 (.invokestatic 194) 3 14 := ⟨by decide +kernel, rfl⟩
theorem d_X7_out_14 : zDj M_X7_out 14 (.ifCond .eq 14) 14 17 28 := ⟨by decide +kernel, rfl, by decide⟩
theorem d_X7_out_17 : zDc M_X7_out 17 (.aload_n 0) 1 18 := ⟨by decide +kernel, rfl⟩
theorem d_X7_out_18 : zDc M_X7_out 18 (.getfield 59) 3 21 := ⟨by decide +kernel, rfl⟩
theorem d_X7_out_21 : zDc M_X7_out 21 (.iload_n 1) 1 22 := ⟨by decide +kernel, rfl⟩
theorem d_X7_out_22 : zDc M_X7_out 22 (.invokevirtual 302) 3 25 := ⟨by decide +kernel, rfl⟩
theorem d_X7_out_25 : zDj M_X7_out 25 (.goto 4) 4 28 29 := ⟨by decide +kernel, rfl, by decide⟩
theorem d_X7_out_28 : zDc M_X7_out 28 (.iconst (-1)) 1 29 := ⟨by decide +kernel, rfl⟩
theorem d_X7_out_29 : zDc M_X7_out 29 (.ireturn) 1 30 := ⟨by decide +kernel, rfl⟩
def f_X7_out (a0 : Nat) (a1 : Int32) (h0 : zHp) : Option (Int32 × zHp) :=
  zob (zgR h0 a0 7 8) (fun v1 =>
  zob (zgI h0 v1 3 6) (fun v2 =>
  zbd ((f_X7_isFrom 0 a1 (v2 - 1) h0)) (fun v4 h3 =>
  if v4 = 0 then
  some ((-1), h3)
  else
  zob (zgR h3 a0 7 8) (fun v5 =>
  zbd (zcv 3 v5 h3 (f_X3_addStrike v5 a1 h3)) (fun v7 h6 =>
  some (v7, h6))))))
set_option maxRecDepth 100000 in
set_option maxHeartbeats 4000000 in
theorem t_X7_out (a0 : Nat) (a1 : Int32) (h0 : zHp) : ∀ (r : Int32) (h' : zHp), f_X7_out a0 a1 h0 = some (r, h') → zCt yX7_out (.code yX7_out cX7_out 2 (some .int)) 3 106 0 0 [.ref a0, .int a1] h0 (some (.int r)) h' := by
  refine zct_of M_X7_out yX7_out (by decide) rfl rfl [.ref a0, .int a1] h0 (Nat.le_of_ble_eq_true rfl) (fun r => some (.int r)) (fun X => ?_)
  show zG X M_X7_out (0, 0) 0 [(0, .ref a0), (1, .int a1)] [] h0 (f_X7_out a0 a1 h0) (fun (r : Int32) h' => zKe X (some (.int r)) h')
  unfold f_X7_out
  refine zg_iconst 0 rfl d_X7_out_0 ?_
  refine zg_iload_n 1 rfl d_X7_out_1 ?_
  refine zg_aload_n 0 rfl d_X7_out_2 ?_
  refine zg_getR d_X7_out_3 zc_7 (by decide) fl_X7_59 (fun v1 => ?_)
  refine zg_getI d_X7_out_6 zc_3 (by decide) fl_X7_299 (fun v2 => ?_)
  refine zg_iconst 1 rfl d_X7_out_9 ?_
  refine zg_isub d_X7_out_10 ?_
  refine zg_cSi (As := [.int 0, .int a1, .int (v2 - 1)]) (rest := []) (0, 0) d_X7_out_11 cw_X7_194 wt_X7_isFrom rfl rfl (Nat.le_of_ble_eq_true rfl) (by decide) (by decide) ⟨by decide, by decide⟩ rfl (t_X7_isFrom 0 a1 (v2 - 1) h0) (fun v4 h3 => ?_)
  refine zg_if_eq d_X7_out_14 ?_ ?_
  · refine zg_iconst (-1) rfl d_X7_out_28 ?_
    exact zg_iretK d_X7_out_29 rfl ⟨Nat.le_of_ble_eq_true rfl, Nat.le_of_ble_eq_true rfl⟩ (fun q => q)
  · refine zg_aload_n 0 rfl d_X7_out_17 ?_
    refine zg_getR d_X7_out_18 zc_7 (by decide) fl_X7_59 (fun v5 => ?_)
    refine zg_iload_n 1 rfl d_X7_out_21 ?_
    refine zg_cVi (b := v5) (As := [.int a1]) (rest := []) (0, 0) d_X7_out_22 zc_3 rfl cw_X7_302 wi_X3_addStrike ws_X3_addStrike rfl rfl (Nat.le_of_ble_eq_true rfl) (by decide) (by decide) ⟨by decide, by decide⟩ rfl (t_X3_addStrike v5 a1 h3) (fun v7 h6 => ?_)
    refine zg_goto d_X7_out_25 ?_
    exact zg_iretK d_X7_out_29 rfl ⟨Nat.le_of_ble_eq_true rfl, Nat.le_of_ble_eq_true rfl⟩ (fun q => q)
abbrev M_X7_push : zMt := (RX7, cX7_push, 4, 4, 128, (some .int), "push", 0, 0)
theorem d_X7_push_0 : zDc M_X7_push 0 (.aload_n 0) 1 1 := ⟨by decide +kernel, rfl⟩
theorem d_X7_push_1 : zDc M_X7_push 1 (.iload_n 1) 1 2 := ⟨by decide +kernel, rfl⟩
theorem d_X7_push_2 : zDc M_X7_push 2 (.invokevirtual 146) 3 5 := ⟨by decide +kernel, rfl⟩
theorem d_X7_push_5 : zDj M_X7_push 5 (.ifCond .eq 12) 12 8 17 := ⟨by decide +kernel, rfl, by decide⟩
theorem d_X7_push_8 : zDc M_X7_push 8 (.iconst 1) 1 9 := ⟨by decide +kernel, rfl⟩
theorem d_X7_push_9 : zDc M_X7_push 9 (.iload_n 2) 1 10 := ⟨by decide +kernel, rfl⟩
theorem d_X7_push_10 : zDc M_X7_push 10 (.iconst 4) 1 11 := ⟨by decide +kernel, rfl⟩
theorem d_X7_push_11 : zDc M_X7_push 11 (.invokestatic 194) 3 14 := ⟨by decide +kernel, rfl⟩
theorem d_X7_push_14 : zDj M_X7_push 14 (.ifCond .ne 5) 5 17 19 := ⟨by decide +kernel, rfl, by decide⟩
theorem d_X7_push_17 : zDc M_X7_push 17 (.iconst (-1)) 1 18 := ⟨by decide +kernel, rfl⟩
theorem d_X7_push_18 : zDc M_X7_push 18 (.ireturn) 1 19 := ⟨by decide +kernel, rfl⟩
theorem d_X7_push_19 : zDc M_X7_push 19 (.aload_n 0) 1 20 := ⟨by decide +kernel, rfl⟩
theorem d_X7_push_20 : zDc M_X7_push 20 (.getfield 38) 3 23 := ⟨by decide +kernel, rfl⟩
theorem d_X7_push_23 : zDc M_X7_push 23 (.iload_n 1) 1 24 := ⟨by decide +kernel, rfl⟩
theorem d_X7_push_24 : zDc M_X7_push 24 (.invokevirtual 204) 3 27 := ⟨by decide +kernel, rfl⟩
theorem d_X7_push_27 : zDc M_X7_push 27 (.istore_n 3) 1 28 := ⟨by decide +kernel, rfl⟩
theorem d_X7_push_28 : zDc M_X7_push 28 (.iload_n 3) 1 29 := ⟨by decide +kernel, rfl⟩
theorem d_X7_push_29 : zDc M_X7_push 29 (.iconst (-1)) 1 30 := ⟨by decide +kernel, rfl⟩
theorem d_X7_push_30 : zDj M_X7_push 30 (.if_icmp .ne 6) 6 33 36 := ⟨by decide +kernel, rfl, by decide⟩
theorem d_X7_push_33 : zDc M_X7_push 33 (.bipush (-2)) 2 35 := ⟨by decide +kernel, rfl⟩
theorem d_X7_push_35 : zDc M_X7_push 35 (.ireturn) 1 36 := ⟨by decide +kernel, rfl⟩
theorem d_X7_push_36 : zDc M_X7_push 36 (.aload_n 0) 1 37 := ⟨by decide +kernel, rfl⟩
theorem d_X7_push_37 : zDc M_X7_push 37 (.getfield 52) 3 40 := ⟨by decide +kernel, rfl⟩
theorem d_X7_push_40 : zDc M_X7_push 40 (.iconst 0) 1 41 := ⟨by decide +kernel, rfl⟩
theorem d_X7_push_41 : zDc M_X7_push 41 (.iload_n 3) 1 42 := ⟨by decide +kernel, rfl⟩
theorem d_X7_push_42 : zDc M_X7_push 42 (.aload_n 0) 1 43 := ⟨by decide +kernel, rfl⟩
theorem d_X7_push_43 : zDc M_X7_push 43 (.getfield 38) 3 46 := ⟨by decide +kernel, rfl⟩
theorem d_X7_push_46 : zDc M_X7_push 46 (.getfield 125) 3 49 := ⟨by decide +kernel, rfl⟩
theorem d_X7_push_49 : zDc M_X7_push 49 (.iload_n 3) 1 50 := ⟨by decide +kernel, rfl⟩
theorem d_X7_push_50 : zDc M_X7_push 50 (.iaload) 1 51 := ⟨by decide +kernel, rfl⟩
theorem d_X7_push_51 : zDc M_X7_push 51 (.aload_n 0) 1 52 := ⟨by decide +kernel, rfl⟩
theorem d_X7_push_52 : zDc M_X7_push 52 (.getfield 38) 3 55 := ⟨by decide +kernel, rfl⟩
theorem d_X7_push_55 : zDc M_X7_push 55 (.getfield 128) 3 58 := ⟨by decide +kernel, rfl⟩
theorem d_X7_push_58 : zDc M_X7_push 58 (.iload_n 3) 1 59 := ⟨by decide +kernel, rfl⟩
theorem d_X7_push_59 : zDc M_X7_push 59 (.iaload) 1 60 := ⟨by decide +kernel, rfl⟩
theorem d_X7_push_60 : zDc M_X7_push 60 (.invokevirtual 207) 3 63 := ⟨by decide +kernel, rfl⟩
theorem d_X7_push_63 : zDc M_X7_push 63 (.aload_n 0) 1 64 := ⟨by decide +kernel, rfl⟩
theorem d_X7_push_64 : zDc M_X7_push 64 (.getfield 38) 3 67 := ⟨by decide +kernel, rfl⟩
theorem d_X7_push_67 : zDc M_X7_push 67 (.iload_n 3) 1 68 := ⟨by decide +kernel, rfl⟩
theorem d_X7_push_68 : zDc M_X7_push 68 (.iload_n 2) 1 69 := ⟨by decide +kernel, rfl⟩
theorem d_X7_push_69 : zDc M_X7_push 69 (.invokevirtual 211) 3 72 := ⟨by decide +kernel, rfl⟩
theorem d_X7_push_72 : zDc M_X7_push 72 (.iload_n 3) 1 73 := ⟨by decide +kernel, rfl⟩
theorem d_X7_push_73 : zDc M_X7_push 73 (.ireturn) 1 74 := ⟨by decide +kernel, rfl⟩
def f_X7_push (a0 : Nat) (a1 : Int32) (a2 : Int32) (h0 : zHp) : Option (Int32 × zHp) :=
  zbd (zcv 7 a0 h0 (f_X7_isChild a0 a1 h0)) (fun v2 h1 =>
  if v2 = 0 then
  some ((-1), h1)
  else
  zbd ((f_X7_isFrom 1 a2 4 h1)) (fun v4 h3 =>
  if v4 = 0 then
  some ((-1), h3)
  else
  zob (zgR h3 a0 7 4) (fun v5 =>
  zbd (zcv 5 v5 h3 (f_X5_firstToPush v5 a1 h3)) (fun v7 h6 =>
  if v7 = (-1) then
  some ((-2), h6)
  else
  zob (zgR h6 a0 7 7) (fun v8 =>
  zob (zgR h6 a0 7 4) (fun v9 =>
  zob (zgR h6 v9 5 0) (fun v10 =>
  zob (zaI 0 h6 v10 v7) (fun v11 =>
  zob (zgR h6 a0 7 4) (fun v12 =>
  zob (zgR h6 v12 5 1) (fun v13 =>
  zob (zaI 0 h6 v13 v7) (fun v14 =>
  zbd (zcv 0 v8 h6 (f_X0_remember v8 0 v7 v11 v14 h6)) (fun v16 h15 =>
  zob (zgR h15 a0 7 4) (fun v17 =>
  zbd (zcv 5 v17 h15 (f_X5_moveCloud v17 v7 a2 h15)) (fun v19 h18 =>
  some (v7, h18)))))))))))))))
set_option maxRecDepth 100000 in
set_option maxHeartbeats 4000000 in
theorem t_X7_push (a0 : Nat) (a1 : Int32) (a2 : Int32) (h0 : zHp) : ∀ (r : Int32) (h' : zHp), f_X7_push a0 a1 a2 h0 = some (r, h') → zCt yX7_push (.code yX7_push cX7_push 4 (some .int)) 4 128 0 0 [.ref a0, .int a1, .int a2] h0 (some (.int r)) h' := by
  refine zct_of M_X7_push yX7_push (by decide) rfl rfl [.ref a0, .int a1, .int a2] h0 (Nat.le_of_ble_eq_true rfl) (fun r => some (.int r)) (fun X => ?_)
  show zG X M_X7_push (0, 0) 0 [(0, .ref a0), (1, .int a1), (2, .int a2)] [] h0 (f_X7_push a0 a1 a2 h0) (fun (r : Int32) h' => zKe X (some (.int r)) h')
  unfold f_X7_push
  refine zg_aload_n 0 rfl d_X7_push_0 ?_
  refine zg_iload_n 1 rfl d_X7_push_1 ?_
  refine zg_cVi (b := a0) (As := [.int a1]) (rest := []) (0, 0) d_X7_push_2 zc_7 rfl cw_X7_146 wi_X7_isChild ws_X7_isChild rfl rfl (Nat.le_of_ble_eq_true rfl) (by decide) (by decide) ⟨by decide, by decide⟩ rfl (t_X7_isChild a0 a1 h0) (fun v2 h1 => ?_)
  refine zg_if_eq d_X7_push_5 ?_ ?_
  · refine zg_iconst (-1) rfl d_X7_push_17 ?_
    exact zg_iretK d_X7_push_18 rfl ⟨Nat.le_of_ble_eq_true rfl, Nat.le_of_ble_eq_true rfl⟩ (fun q => q)
  · refine zg_iconst 1 rfl d_X7_push_8 ?_
    refine zg_iload_n 2 rfl d_X7_push_9 ?_
    refine zg_iconst 4 rfl d_X7_push_10 ?_
    refine zg_cSi (As := [.int 1, .int a2, .int 4]) (rest := []) (0, 0) d_X7_push_11 cw_X7_194 wt_X7_isFrom rfl rfl (Nat.le_of_ble_eq_true rfl) (by decide) (by decide) ⟨by decide, by decide⟩ rfl (t_X7_isFrom 1 a2 4 h1) (fun v4 h3 => ?_)
    refine zg_if_ne d_X7_push_14 ?_ ?_
    · refine zg_iconst (-1) rfl d_X7_push_17 ?_
      exact zg_iretK d_X7_push_18 rfl ⟨Nat.le_of_ble_eq_true rfl, Nat.le_of_ble_eq_true rfl⟩ (fun q => q)
    · refine zg_aload_n 0 rfl d_X7_push_19 ?_
      refine zg_getR d_X7_push_20 zc_7 (by decide) fl_X7_38 (fun v5 => ?_)
      refine zg_iload_n 1 rfl d_X7_push_23 ?_
      refine zg_cVi (b := v5) (As := [.int a1]) (rest := []) (0, 0) d_X7_push_24 zc_5 rfl cw_X7_204 wi_X5_firstToPush ws_X5_firstToPush rfl rfl (Nat.le_of_ble_eq_true rfl) (by decide) (by decide) ⟨by decide, by decide⟩ rfl (t_X5_firstToPush v5 a1 h3) (fun v7 h6 => ?_)
      refine zg_istore_n [(3, .int v7), (0, .ref a0), (1, .int a1), (2, .int a2)] d_X7_push_27 rfl (by decide) rfl ?_
      refine zg_iload_n 0 rfl d_X7_push_28 ?_
      refine zg_iconst (-1) rfl d_X7_push_29 ?_
      refine zg_icmp_ne d_X7_push_30 ?_ ?_
      · refine zg_bipush (-2) rfl d_X7_push_33 ?_
        exact zg_iretK d_X7_push_35 rfl ⟨Nat.le_of_ble_eq_true rfl, Nat.le_of_ble_eq_true rfl⟩ (fun q => q)
      · refine zg_aload_n 1 rfl d_X7_push_36 ?_
        refine zg_getR d_X7_push_37 zc_7 (by decide) fl_X7_52 (fun v8 => ?_)
        refine zg_iconst 0 rfl d_X7_push_40 ?_
        refine zg_iload_n 0 rfl d_X7_push_41 ?_
        refine zg_aload_n 1 rfl d_X7_push_42 ?_
        refine zg_getR d_X7_push_43 zc_7 (by decide) fl_X7_38 (fun v9 => ?_)
        refine zg_getR d_X7_push_46 zc_5 (by decide) fl_X7_125 (fun v10 => ?_)
        refine zg_iload_n 0 rfl d_X7_push_49 ?_
        refine zg_ald0 d_X7_push_50 (fun v11 => ?_)
        refine zg_aload_n 1 rfl d_X7_push_51 ?_
        refine zg_getR d_X7_push_52 zc_7 (by decide) fl_X7_38 (fun v12 => ?_)
        refine zg_getR d_X7_push_55 zc_5 (by decide) fl_X7_128 (fun v13 => ?_)
        refine zg_iload_n 0 rfl d_X7_push_58 ?_
        refine zg_ald0 d_X7_push_59 (fun v14 => ?_)
        refine zg_cVv (b := v8) (As := [.int 0, .int v7, .int v11, .int v14]) (rest := []) (0, 0) d_X7_push_60 zc_0 rfl cw_X7_207 wi_X0_remember ws_X0_remember rfl rfl (Nat.le_of_ble_eq_true rfl) (by decide) (by decide) ⟨by decide, by decide⟩ rfl (t_X0_remember v8 0 v7 v11 v14 h6) (fun v16 h15 => ?_)
        refine zg_aload_n 1 rfl d_X7_push_63 ?_
        refine zg_getR d_X7_push_64 zc_7 (by decide) fl_X7_38 (fun v17 => ?_)
        refine zg_iload_n 0 rfl d_X7_push_67 ?_
        refine zg_iload_n 3 rfl d_X7_push_68 ?_
        refine zg_cVv (b := v17) (As := [.int v7, .int a2]) (rest := []) (0, 0) d_X7_push_69 zc_5 rfl cw_X7_211 wi_X5_moveCloud ws_X5_moveCloud rfl rfl (Nat.le_of_ble_eq_true rfl) (by decide) (by decide) ⟨by decide, by decide⟩ rfl (t_X5_moveCloud v17 v7 a2 h15) (fun v19 h18 => ?_)
        refine zg_iload_n 0 rfl d_X7_push_72 ?_
        exact zg_iretK d_X7_push_73 rfl ⟨Nat.le_of_ble_eq_true rfl, Nat.le_of_ble_eq_true rfl⟩ (fun q => q)
abbrev M_X7_rest : zMt := (RX7, cX7_rest, 6, 7, 207, (some .int), "rest", 0, 0)
theorem d_X7_rest_0 : zDc M_X7_rest 0 (.aload_n 0) 1 1 := ⟨by decide +kernel, rfl⟩
theorem d_X7_rest_1 : zDc M_X7_rest 1 (.iload_n 1) 1 2 := ⟨by decide +kernel, rfl⟩
theorem d_X7_rest_2 : zDc M_X7_rest 2 (.invokevirtual 146) 3 5 := ⟨by decide +kernel, rfl⟩
theorem d_X7_rest_5 : zDj M_X7_rest 5 (.ifCond .eq 20) 20 8 25 := ⟨by decide +kernel, rfl, by decide⟩
theorem d_X7_rest_8 : zDc M_X7_rest 8 (.aload_n 0) 1 9 := ⟨by decide +kernel, rfl⟩
theorem d_X7_rest_9 : zDc M_X7_rest 9 (.iload_n 2) 1 10 := ⟨by decide +kernel, rfl⟩
theorem d_X7_rest_10 : zDc M_X7_rest 10 (.invokevirtual 146) 3 13 := ⟨by decide +kernel, rfl⟩
theorem d_X7_rest_13 : zDj M_X7_rest 13 (.ifCond .eq 12) 12 16 25 := ⟨by decide +kernel, rfl, by decide⟩
theorem d_X7_rest_16 : zDc M_X7_rest 16 (.iload_n 1) 1 17 := ⟨by decide +kernel, rfl⟩
theorem d_X7_rest_17 : zDc M_X7_rest 17 (.iload_n 2) 1 18 := ⟨by decide +kernel, rfl⟩
theorem d_X7_rest_18 : zDj M_X7_rest 18 (.if_icmp .eq 7) 7 21 25 := ⟨by decide +kernel, rfl, by decide⟩
theorem d_X7_rest_21 : zDc M_X7_rest 21 (.iload_n 3) 1 22 := ⟨by decide +kernel, rfl⟩
theorem d_X7_rest_22 : zDj M_X7_rest 22 (.ifCond .ge 5) 5 25 27 := ⟨by decide +kernel, rfl, by decide⟩
theorem d_X7_rest_25 : zDc M_X7_rest 25 (.iconst (-1)) 1 26 := ⟨by decide +kernel, rfl⟩
theorem d_X7_rest_26 : zDc M_X7_rest 26 (.ireturn) 1 27 := ⟨by decide +kernel, rfl⟩
theorem d_X7_rest_27 : zDc M_X7_rest 27 (.aload_n 0) 1 28 := ⟨by decide +kernel, rfl⟩
theorem d_X7_rest_28 : zDc M_X7_rest 28 (.getfield 66) 3 31 := ⟨by decide +kernel, rfl⟩
theorem d_X7_rest_31 : zDc M_X7_rest 31 (.aload_n 0) 1 32 := ⟨by decide +kernel, rfl⟩
theorem d_X7_rest_32 : zDc M_X7_rest 32 (.getfield 38) 3 35 := ⟨by decide +kernel, rfl⟩
theorem d_X7_rest_35 : zDc M_X7_rest 35 (.iload_n 1) 1 36 := ⟨by decide +kernel, rfl⟩
theorem d_X7_rest_36 : zDc M_X7_rest 36 (.iload_n 2) 1 37 := ⟨by decide +kernel, rfl⟩
theorem d_X7_rest_37 : zDc M_X7_rest 37 (.invokevirtual 288) 3 40 := ⟨by decide +kernel, rfl⟩
theorem d_X7_rest_40 : zDc M_X7_rest 40 (.iload_n 3) 1 41 := ⟨by decide +kernel, rfl⟩
theorem d_X7_rest_41 : zDc M_X7_rest 41 (.istore 4) 2 43 := ⟨by decide +kernel, rfl⟩
theorem d_X7_rest_43 : zDc M_X7_rest 43 (.iconst 0) 1 44 := ⟨by decide +kernel, rfl⟩
theorem d_X7_rest_44 : zDc M_X7_rest 44 (.istore 5) 2 46 := ⟨by decide +kernel, rfl⟩
theorem d_X7_rest_46 : zDc M_X7_rest 46 (.iload 5) 2 48 := ⟨by decide +kernel, rfl⟩
theorem d_X7_rest_48 : zDc M_X7_rest 48 (.bipush 25) 2 50 := ⟨by decide +kernel, rfl⟩
theorem d_X7_rest_50 : zDj M_X7_rest 50 (.if_icmp .ge 42) 42 53 92 := ⟨by decide +kernel, rfl, by decide⟩
theorem d_X7_rest_53 : zDc M_X7_rest 53 (.aload_n 0) 1 54 := ⟨by decide +kernel, rfl⟩
theorem d_X7_rest_54 : zDc M_X7_rest 54 (.getfield 66) 3 57 := ⟨by decide +kernel, rfl⟩
theorem d_X7_rest_57 : zDc M_X7_rest 57 (.iload 5) 2 59 := ⟨by decide +kernel, rfl⟩
theorem d_X7_rest_59 : zDc M_X7_rest 59 (.invokevirtual 292) 3 62 := ⟨by decide +kernel, rfl⟩
theorem d_X7_rest_62 : zDj M_X7_rest 62 (.ifCond .eq 24) 24 65 86 := ⟨by decide +kernel, rfl, by decide⟩
theorem d_X7_rest_65 : zDc M_X7_rest 65 (.iload 4) 2 67 := ⟨by decide +kernel, rfl⟩
theorem d_X7_rest_67 : zDj M_X7_rest 67 (.ifCond .ne 16) 16 70 83 := ⟨by decide +kernel, rfl, by decide⟩
theorem d_X7_rest_70 : zDc M_X7_rest 70 (.bipush 10) 2 72 := ⟨by decide +kernel, rfl⟩
theorem d_X7_rest_72 : zDc M_X7_rest 72 (.iload 5) 2 74 := ⟨by decide +kernel, rfl⟩
theorem d_X7_rest_74 : zDc M_X7_rest 74 (.iconst 5) 1 75 := ⟨by decide +kernel, rfl⟩
theorem d_X7_rest_75 : zDc M_X7_rest 75 (.idiv) 1 76 := ⟨by decide +kernel, rfl⟩
theorem d_X7_rest_76 : zDc M_X7_rest 76 (.imul) 1 77 := ⟨by decide +kernel, rfl⟩
theorem d_X7_rest_77 : zDc M_X7_rest 77 (.iload 5) 2 79 := ⟨by decide +kernel, rfl⟩
theorem d_X7_rest_79 : zDc M_X7_rest 79 (.iconst 5) 1 80 := ⟨by decide +kernel, rfl⟩
theorem d_X7_rest_80 : zDc M_X7_rest 80 (.irem) 1 81 := ⟨by decide +kernel, rfl⟩
theorem d_X7_rest_81 : zDc M_X7_rest 81 (.iadd) 1 82 := ⟨by decide +kernel, rfl⟩
theorem d_X7_rest_82 : zDc M_X7_rest 82 (.ireturn) 1 83 := ⟨by decide +kernel, rfl⟩
theorem d_X7_rest_83 : zDc M_X7_rest 83 (.iinc 4 (-1)) 3 86 := ⟨by decide +kernel, rfl⟩
theorem d_X7_rest_86 : zDc M_X7_rest 86 (.iinc 5 1) 3 89 := ⟨by decide +kernel, rfl⟩
theorem d_X7_rest_89 : zDj M_X7_rest 89 (.goto (-43)) (-43) 92 46 := ⟨by decide +kernel, rfl, by decide⟩
theorem d_X7_rest_92 : zDc M_X7_rest 92 (.bipush (-2)) 2 94 := ⟨by decide +kernel, rfl⟩
theorem d_X7_rest_94 : zDc M_X7_rest 94 (.ireturn) 1 95 := ⟨by decide +kernel, rfl⟩
def f_X7_rest (a0 : Nat) (a1 : Int32) (a2 : Int32) (a3 : Int32) (h0 : zHp) : Option (Int32 × zHp) :=
  zbd (zcv 7 a0 h0 (f_X7_isChild a0 a1 h0)) (fun v2 h1 =>
  if v2 = 0 then
  some ((-1), h1)
  else
  zbd (zcv 7 a0 h1 (f_X7_isChild a0 a2 h1)) (fun v4 h3 =>
  if v4 = 0 then
  some ((-1), h3)
  else
  if a1 = a2 then
  some ((-1), h3)
  else
  if 0 ≤ a3 then
  zob (zgR h3 a0 7 9) (fun v5 =>
  zob (zgR h3 a0 7 4) (fun v6 =>
  zbd (zcv 1 v5 h3 (f_X1_tryBoth v5 v6 a1 a2 h3)) (fun v8 h7 =>
  zbd (
  zlp (σ := (Int32 × Int32)) (β := ((Int32 × Int32) ⊕ Int32)) zLF (fun s9 h10 =>
  if 25 ≤ s9.2 then
  some ((.inr (.inl (s9.1, s9.2))), h10)
  else
  zob (zgR h10 a0 7 9) (fun v13 =>
  zbd (zcv 1 v13 h10 (f_X1_isRest v13 s9.2 h10)) (fun v15 h14 =>
  if v15 = 0 then
  some ((.inl (s9.1, (s9.2 + 1))), h14)
  else
  if s9.1 = 0 then
  some ((.inr (.inr ((10 * (s9.2 / 5)) + (zrm s9.2 5)))), h14)
  else
  some ((.inl ((s9.1 + (-1)), (s9.2 + 1))), h14)))) (a3, 0) h7) (fun b16 h12 => zsl b16 (fun e11 =>
  some ((-2), h12)) (fun r => some (r, h12))))))
  else
  some ((-1), h3)))
set_option maxRecDepth 100000 in
set_option maxHeartbeats 4000000 in
theorem t_X7_rest (a0 : Nat) (a1 : Int32) (a2 : Int32) (a3 : Int32) (h0 : zHp) : ∀ (r : Int32) (h' : zHp), f_X7_rest a0 a1 a2 a3 h0 = some (r, h') → zCt yX7_rest (.code yX7_rest cX7_rest 6 (some .int)) 7 207 0 0 [.ref a0, .int a1, .int a2, .int a3] h0 (some (.int r)) h' := by
  refine zct_of M_X7_rest yX7_rest (by decide) rfl rfl [.ref a0, .int a1, .int a2, .int a3] h0 (Nat.le_of_ble_eq_true rfl) (fun r => some (.int r)) (fun X => ?_)
  show zG X M_X7_rest (0, 0) 0 [(0, .ref a0), (1, .int a1), (2, .int a2), (3, .int a3)] [] h0 (f_X7_rest a0 a1 a2 a3 h0) (fun (r : Int32) h' => zKe X (some (.int r)) h')
  unfold f_X7_rest
  refine zg_aload_n 0 rfl d_X7_rest_0 ?_
  refine zg_iload_n 1 rfl d_X7_rest_1 ?_
  refine zg_cVi (b := a0) (As := [.int a1]) (rest := []) (0, 0) d_X7_rest_2 zc_7 rfl cw_X7_146 wi_X7_isChild ws_X7_isChild rfl rfl (Nat.le_of_ble_eq_true rfl) (by decide) (by decide) ⟨by decide, by decide⟩ rfl (t_X7_isChild a0 a1 h0) (fun v2 h1 => ?_)
  refine zg_if_eq d_X7_rest_5 ?_ ?_
  · refine zg_iconst (-1) rfl d_X7_rest_25 ?_
    exact zg_iretK d_X7_rest_26 rfl ⟨Nat.le_of_ble_eq_true rfl, Nat.le_of_ble_eq_true rfl⟩ (fun q => q)
  · refine zg_aload_n 0 rfl d_X7_rest_8 ?_
    refine zg_iload_n 2 rfl d_X7_rest_9 ?_
    refine zg_cVi (b := a0) (As := [.int a2]) (rest := []) (0, 0) d_X7_rest_10 zc_7 rfl cw_X7_146 wi_X7_isChild ws_X7_isChild rfl rfl (Nat.le_of_ble_eq_true rfl) (by decide) (by decide) ⟨by decide, by decide⟩ rfl (t_X7_isChild a0 a2 h1) (fun v4 h3 => ?_)
    refine zg_if_eq d_X7_rest_13 ?_ ?_
    · refine zg_iconst (-1) rfl d_X7_rest_25 ?_
      exact zg_iretK d_X7_rest_26 rfl ⟨Nat.le_of_ble_eq_true rfl, Nat.le_of_ble_eq_true rfl⟩ (fun q => q)
    · refine zg_iload_n 1 rfl d_X7_rest_16 ?_
      refine zg_iload_n 2 rfl d_X7_rest_17 ?_
      refine zg_icmp_eq d_X7_rest_18 ?_ ?_
      · refine zg_iconst (-1) rfl d_X7_rest_25 ?_
        exact zg_iretK d_X7_rest_26 rfl ⟨Nat.le_of_ble_eq_true rfl, Nat.le_of_ble_eq_true rfl⟩ (fun q => q)
      · refine zg_iload_n 3 rfl d_X7_rest_21 ?_
        refine zg_if_ge d_X7_rest_22 ?_ ?_
        · refine zg_aload_n 0 rfl d_X7_rest_27 ?_
          refine zg_getR d_X7_rest_28 zc_7 (by decide) fl_X7_66 (fun v5 => ?_)
          refine zg_aload_n 0 rfl d_X7_rest_31 ?_
          refine zg_getR d_X7_rest_32 zc_7 (by decide) fl_X7_38 (fun v6 => ?_)
          refine zg_iload_n 1 rfl d_X7_rest_35 ?_
          refine zg_iload_n 2 rfl d_X7_rest_36 ?_
          refine zg_cVv (b := v5) (As := [.ref v6, .int a1, .int a2]) (rest := []) (0, 0) d_X7_rest_37 zc_1 rfl cw_X7_288 wi_X1_tryBoth ws_X1_tryBoth rfl rfl (Nat.le_of_ble_eq_true rfl) (by decide) (by decide) ⟨by decide, by decide⟩ rfl (t_X1_tryBoth v5 v6 a1 a2 h3) (fun v8 h7 => ?_)
          refine zg_iload_n 3 rfl d_X7_rest_40 ?_
          refine zg_istore [(4, .int a3), (0, .ref a0), (1, .int a1), (2, .int a2), (3, .int a3)] d_X7_rest_41 (by decide) rfl ?_
          refine zg_iconst 0 rfl d_X7_rest_43 ?_
          refine zg_istore [(5, .int 0), (4, .int a3), (0, .ref a0), (1, .int a1), (2, .int a2), (3, .int a3)] d_X7_rest_44 (by decide) rfl ?_
          refine zg_bdr (E := 92) (el := (fun (e11 : (Int32 × Int32)) => [(0, .ref a0), (1, .int a1), (2, .int a2), (3, .int a3), (4, .int e11.1), (5, .int e11.2)])) (es := fun _ => []) (zg_sub [2, 3, 4, 5, 1, 0] rfl (zg_lp (el := (fun (s9 : (Int32 × Int32)) => [(0, .ref a0), (1, .int a1), (2, .int a2), (3, .int a3), (4, .int s9.1), (5, .int s9.2)])) (fun s9 h10 => ?_) (a3, 0) h7)) (fun e11 h12 => ?_)
          · refine zg_iload 5 rfl d_X7_rest_46 ?_
            refine zg_bipush 25 rfl d_X7_rest_48 ?_
            refine zg_icmp_ge d_X7_rest_50 ?_ ?_
            · exact zg_finK (E := 0) [0, 1, 2, 3, 4, 5] rfl rfl (fun q => q)
            · refine zg_aload_n 0 rfl d_X7_rest_53 ?_
              refine zg_getR d_X7_rest_54 zc_7 (by decide) fl_X7_66 (fun v13 => ?_)
              refine zg_iload 5 rfl d_X7_rest_57 ?_
              refine zg_cVi (b := v13) (As := [.int s9.2]) (rest := []) (0, 0) d_X7_rest_59 zc_1 rfl cw_X7_292 wi_X1_isRest ws_X1_isRest rfl rfl (Nat.le_of_ble_eq_true rfl) (by decide) (by decide) ⟨by decide, by decide⟩ rfl (t_X1_isRest v13 s9.2 h10) (fun v15 h14 => ?_)
              refine zg_if_eq d_X7_rest_62 ?_ ?_
              · refine zg_iinc 5 (s9.2 + 1) [(5, .int (s9.2 + 1)), (0, .ref a0), (1, .int a1), (2, .int a2), (3, .int a3), (4, .int s9.1)] d_X7_rest_86 rfl rfl (by decide) rfl ?_
                refine zg_goto d_X7_rest_89 ?_
                exact zg_finK (E := 0) [1, 2, 3, 4, 5, 0] rfl rfl (fun q => q)
              · refine zg_iload 4 rfl d_X7_rest_65 ?_
                refine zg_if_ne d_X7_rest_67 ?_ ?_
                · refine zg_bipush 10 rfl d_X7_rest_70 ?_
                  refine zg_iload 5 rfl d_X7_rest_72 ?_
                  refine zg_iconst 5 rfl d_X7_rest_74 ?_
                  refine zg_idiv (by decide) d_X7_rest_75 ?_
                  refine zg_imul d_X7_rest_76 ?_
                  refine zg_iload 5 rfl d_X7_rest_77 ?_
                  refine zg_iconst 5 rfl d_X7_rest_79 ?_
                  refine zg_irem (by decide) d_X7_rest_80 ?_
                  refine zg_iadd d_X7_rest_81 ?_
                  exact zg_iretK d_X7_rest_82 rfl ⟨Nat.le_of_ble_eq_true rfl, Nat.le_of_ble_eq_true rfl⟩ (fun q => q)
                · refine zg_iinc 4 (s9.1 + (-1)) [(4, .int (s9.1 + (-1))), (0, .ref a0), (1, .int a1), (2, .int a2), (3, .int a3), (5, .int s9.2)] d_X7_rest_83 rfl rfl (by decide) rfl ?_
                  refine zg_iinc 5 (s9.2 + 1) [(5, .int (s9.2 + 1)), (4, .int (s9.1 + (-1))), (0, .ref a0), (1, .int a1), (2, .int a2), (3, .int a3)] d_X7_rest_86 rfl rfl (by decide) rfl ?_
                  refine zg_goto d_X7_rest_89 ?_
                  exact zg_finK (E := 0) [2, 3, 4, 5, 1, 0] rfl rfl (fun q => q)
          · refine zg_bipush (-2) rfl d_X7_rest_92 ?_
            exact zg_iretK d_X7_rest_94 rfl ⟨Nat.le_of_ble_eq_true rfl, Nat.le_of_ble_eq_true rfl⟩ (fun q => q)
        · refine zg_iconst (-1) rfl d_X7_rest_25 ?_
          exact zg_iretK d_X7_rest_26 rfl ⟨Nat.le_of_ble_eq_true rfl, Nat.le_of_ble_eq_true rfl⟩ (fun q => q)
abbrev M_X7_rests : zMt := (RX7, cX7_rests, 5, 7, 207, (some .int), "rests", 0, 0)
theorem d_X7_rests_0 : zDc M_X7_rests 0 (.aload_n 0) 1 1 := ⟨by decide +kernel, rfl⟩
theorem d_X7_rests_1 : zDc M_X7_rests 1 (.iload_n 1) 1 2 := ⟨by decide +kernel, rfl⟩
theorem d_X7_rests_2 : zDc M_X7_rests 2 (.invokevirtual 146) 3 5 := ⟨by decide +kernel, rfl⟩
theorem d_X7_rests_5 : zDj M_X7_rests 5 (.ifCond .eq 16) 16 8 21 := ⟨by decide +kernel, rfl, by decide⟩
theorem d_X7_rests_8 : zDc M_X7_rests 8 (.aload_n 0) 1 9 := ⟨by decide +kernel, rfl⟩
theorem d_X7_rests_9 : zDc M_X7_rests 9 (.iload_n 2) 1 10 := ⟨by decide +kernel, rfl⟩
theorem d_X7_rests_10 : zDc M_X7_rests 10 (.invokevirtual 146) 3 13 := ⟨by decide +kernel, rfl⟩
theorem d_X7_rests_13 : zDj M_X7_rests 13 (.ifCond .eq 8) 8 16 21 := ⟨by decide +kernel, rfl, by decide⟩
theorem d_X7_rests_16 : zDc M_X7_rests 16 (.iload_n 1) 1 17 := ⟨by decide +kernel, rfl⟩
theorem d_X7_rests_17 : zDc M_X7_rests 17 (.iload_n 2) 1 18 := ⟨by decide +kernel, rfl⟩
theorem d_X7_rests_18 : zDj M_X7_rests 18 (.if_icmp .ne 5) 5 21 23 := ⟨by decide +kernel, rfl, by decide⟩
theorem d_X7_rests_21 : zDc M_X7_rests 21 (.iconst (-1)) 1 22 := ⟨by decide +kernel, rfl⟩
theorem d_X7_rests_22 : zDc M_X7_rests 22 (.ireturn) 1 23 := ⟨by decide +kernel, rfl⟩
theorem d_X7_rests_23 : zDc M_X7_rests 23 (.aload_n 0) 1 24 := ⟨by decide +kernel, rfl⟩
theorem d_X7_rests_24 : zDc M_X7_rests 24 (.getfield 66) 3 27 := ⟨by decide +kernel, rfl⟩
theorem d_X7_rests_27 : zDc M_X7_rests 27 (.aload_n 0) 1 28 := ⟨by decide +kernel, rfl⟩
theorem d_X7_rests_28 : zDc M_X7_rests 28 (.getfield 38) 3 31 := ⟨by decide +kernel, rfl⟩
theorem d_X7_rests_31 : zDc M_X7_rests 31 (.iload_n 1) 1 32 := ⟨by decide +kernel, rfl⟩
theorem d_X7_rests_32 : zDc M_X7_rests 32 (.iload_n 2) 1 33 := ⟨by decide +kernel, rfl⟩
theorem d_X7_rests_33 : zDc M_X7_rests 33 (.invokevirtual 288) 3 36 := ⟨by decide +kernel, rfl⟩
theorem d_X7_rests_36 : zDc M_X7_rests 36 (.iconst 0) 1 37 := ⟨by decide +kernel, rfl⟩
theorem d_X7_rests_37 : zDc M_X7_rests 37 (.istore_n 3) 1 38 := ⟨by decide +kernel, rfl⟩
theorem d_X7_rests_38 : zDc M_X7_rests 38 (.iconst 0) 1 39 := ⟨by decide +kernel, rfl⟩
theorem d_X7_rests_39 : zDc M_X7_rests 39 (.istore 4) 2 41 := ⟨by decide +kernel, rfl⟩
theorem d_X7_rests_41 : zDc M_X7_rests 41 (.iload 4) 2 43 := ⟨by decide +kernel, rfl⟩
theorem d_X7_rests_43 : zDc M_X7_rests 43 (.bipush 25) 2 45 := ⟨by decide +kernel, rfl⟩
theorem d_X7_rests_45 : zDj M_X7_rests 45 (.if_icmp .ge 24) 24 48 69 := ⟨by decide +kernel, rfl, by decide⟩
theorem d_X7_rests_48 : zDc M_X7_rests 48 (.aload_n 0) 1 49 := ⟨by decide +kernel, rfl⟩
theorem d_X7_rests_49 : zDc M_X7_rests 49 (.getfield 66) 3 52 := ⟨by decide +kernel, rfl⟩
theorem d_X7_rests_52 : zDc M_X7_rests 52 (.iload 4) 2 54 := ⟨by decide +kernel, rfl⟩
theorem d_X7_rests_54 : zDc M_X7_rests 54 (.invokevirtual 292) 3 57 := ⟨by decide +kernel, rfl⟩
theorem d_X7_rests_57 : zDj M_X7_rests 57 (.ifCond .eq 6) 6 60 63 := ⟨by decide +kernel, rfl, by decide⟩
theorem d_X7_rests_60 : zDc M_X7_rests 60 (.iinc 3 1) 3 63 := ⟨by decide +kernel, rfl⟩
theorem d_X7_rests_63 : zDc M_X7_rests 63 (.iinc 4 1) 3 66 := ⟨by decide +kernel, rfl⟩
theorem d_X7_rests_66 : zDj M_X7_rests 66 (.goto (-25)) (-25) 69 41 := ⟨by decide +kernel, rfl, by decide⟩
theorem d_X7_rests_69 : zDc M_X7_rests 69 (.iload_n 3) 1 70 := ⟨by decide +kernel, rfl⟩
theorem d_X7_rests_70 : zDc M_X7_rests 70 (.ireturn) 1 71 := ⟨by decide +kernel, rfl⟩
def f_X7_rests (a0 : Nat) (a1 : Int32) (a2 : Int32) (h0 : zHp) : Option (Int32 × zHp) :=
  zbd (zcv 7 a0 h0 (f_X7_isChild a0 a1 h0)) (fun v2 h1 =>
  if v2 = 0 then
  some ((-1), h1)
  else
  zbd (zcv 7 a0 h1 (f_X7_isChild a0 a2 h1)) (fun v4 h3 =>
  if v4 = 0 then
  some ((-1), h3)
  else
  if a1 = a2 then
  some ((-1), h3)
  else
  zob (zgR h3 a0 7 9) (fun v5 =>
  zob (zgR h3 a0 7 4) (fun v6 =>
  zbd (zcv 1 v5 h3 (f_X1_tryBoth v5 v6 a1 a2 h3)) (fun v8 h7 =>
  zbd (
  zlp (σ := (Int32 × Int32)) (β := (Int32 × Int32)) zLF (fun s9 h10 =>
  if 25 ≤ s9.2 then
  some ((.inr (s9.1, s9.2)), h10)
  else
  zob (zgR h10 a0 7 9) (fun v13 =>
  zbd (zcv 1 v13 h10 (f_X1_isRest v13 s9.2 h10)) (fun v15 h14 =>
  if v15 = 0 then
  some ((.inl (s9.1, (s9.2 + 1))), h14)
  else
  some ((.inl ((s9.1 + 1), (s9.2 + 1))), h14)))) (0, 0) h7) (fun e11 h12 =>
  some (e11.1, h12)))))))
set_option maxRecDepth 100000 in
set_option maxHeartbeats 4000000 in
theorem t_X7_rests (a0 : Nat) (a1 : Int32) (a2 : Int32) (h0 : zHp) : ∀ (r : Int32) (h' : zHp), f_X7_rests a0 a1 a2 h0 = some (r, h') → zCt yX7_rests (.code yX7_rests cX7_rests 5 (some .int)) 7 207 0 0 [.ref a0, .int a1, .int a2] h0 (some (.int r)) h' := by
  refine zct_of M_X7_rests yX7_rests (by decide) rfl rfl [.ref a0, .int a1, .int a2] h0 (Nat.le_of_ble_eq_true rfl) (fun r => some (.int r)) (fun X => ?_)
  show zG X M_X7_rests (0, 0) 0 [(0, .ref a0), (1, .int a1), (2, .int a2)] [] h0 (f_X7_rests a0 a1 a2 h0) (fun (r : Int32) h' => zKe X (some (.int r)) h')
  unfold f_X7_rests
  refine zg_aload_n 0 rfl d_X7_rests_0 ?_
  refine zg_iload_n 1 rfl d_X7_rests_1 ?_
  refine zg_cVi (b := a0) (As := [.int a1]) (rest := []) (0, 0) d_X7_rests_2 zc_7 rfl cw_X7_146 wi_X7_isChild ws_X7_isChild rfl rfl (Nat.le_of_ble_eq_true rfl) (by decide) (by decide) ⟨by decide, by decide⟩ rfl (t_X7_isChild a0 a1 h0) (fun v2 h1 => ?_)
  refine zg_if_eq d_X7_rests_5 ?_ ?_
  · refine zg_iconst (-1) rfl d_X7_rests_21 ?_
    exact zg_iretK d_X7_rests_22 rfl ⟨Nat.le_of_ble_eq_true rfl, Nat.le_of_ble_eq_true rfl⟩ (fun q => q)
  · refine zg_aload_n 0 rfl d_X7_rests_8 ?_
    refine zg_iload_n 2 rfl d_X7_rests_9 ?_
    refine zg_cVi (b := a0) (As := [.int a2]) (rest := []) (0, 0) d_X7_rests_10 zc_7 rfl cw_X7_146 wi_X7_isChild ws_X7_isChild rfl rfl (Nat.le_of_ble_eq_true rfl) (by decide) (by decide) ⟨by decide, by decide⟩ rfl (t_X7_isChild a0 a2 h1) (fun v4 h3 => ?_)
    refine zg_if_eq d_X7_rests_13 ?_ ?_
    · refine zg_iconst (-1) rfl d_X7_rests_21 ?_
      exact zg_iretK d_X7_rests_22 rfl ⟨Nat.le_of_ble_eq_true rfl, Nat.le_of_ble_eq_true rfl⟩ (fun q => q)
    · refine zg_iload_n 1 rfl d_X7_rests_16 ?_
      refine zg_iload_n 2 rfl d_X7_rests_17 ?_
      refine zg_icmp_ne d_X7_rests_18 ?_ ?_
      · refine zg_iconst (-1) rfl d_X7_rests_21 ?_
        exact zg_iretK d_X7_rests_22 rfl ⟨Nat.le_of_ble_eq_true rfl, Nat.le_of_ble_eq_true rfl⟩ (fun q => q)
      · refine zg_aload_n 0 rfl d_X7_rests_23 ?_
        refine zg_getR d_X7_rests_24 zc_7 (by decide) fl_X7_66 (fun v5 => ?_)
        refine zg_aload_n 0 rfl d_X7_rests_27 ?_
        refine zg_getR d_X7_rests_28 zc_7 (by decide) fl_X7_38 (fun v6 => ?_)
        refine zg_iload_n 1 rfl d_X7_rests_31 ?_
        refine zg_iload_n 2 rfl d_X7_rests_32 ?_
        refine zg_cVv (b := v5) (As := [.ref v6, .int a1, .int a2]) (rest := []) (0, 0) d_X7_rests_33 zc_1 rfl cw_X7_288 wi_X1_tryBoth ws_X1_tryBoth rfl rfl (Nat.le_of_ble_eq_true rfl) (by decide) (by decide) ⟨by decide, by decide⟩ rfl (t_X1_tryBoth v5 v6 a1 a2 h3) (fun v8 h7 => ?_)
        refine zg_iconst 0 rfl d_X7_rests_36 ?_
        refine zg_istore_n [(3, .int 0), (0, .ref a0), (1, .int a1), (2, .int a2)] d_X7_rests_37 rfl (by decide) rfl ?_
        refine zg_iconst 0 rfl d_X7_rests_38 ?_
        refine zg_istore [(4, .int 0), (3, .int 0), (0, .ref a0), (1, .int a1), (2, .int a2)] d_X7_rests_39 (by decide) rfl ?_
        refine zg_bd (E := 69) (el := (fun (e11 : (Int32 × Int32)) => [(0, .ref a0), (1, .int a1), (2, .int a2), (3, .int e11.1), (4, .int e11.2)])) (es := fun _ => []) (zg_sub [2, 3, 4, 1, 0] rfl (zg_lp (el := (fun (s9 : (Int32 × Int32)) => [(0, .ref a0), (1, .int a1), (2, .int a2), (3, .int s9.1), (4, .int s9.2)])) (fun s9 h10 => ?_) (0, 0) h7)) (fun e11 h12 => ?_)
        · refine zg_iload 4 rfl d_X7_rests_41 ?_
          refine zg_bipush 25 rfl d_X7_rests_43 ?_
          refine zg_icmp_ge d_X7_rests_45 ?_ ?_
          · exact zg_finK (E := 0) [0, 1, 2, 3, 4] rfl rfl (fun q => q)
          · refine zg_aload_n 0 rfl d_X7_rests_48 ?_
            refine zg_getR d_X7_rests_49 zc_7 (by decide) fl_X7_66 (fun v13 => ?_)
            refine zg_iload 4 rfl d_X7_rests_52 ?_
            refine zg_cVi (b := v13) (As := [.int s9.2]) (rest := []) (0, 0) d_X7_rests_54 zc_1 rfl cw_X7_292 wi_X1_isRest ws_X1_isRest rfl rfl (Nat.le_of_ble_eq_true rfl) (by decide) (by decide) ⟨by decide, by decide⟩ rfl (t_X1_isRest v13 s9.2 h10) (fun v15 h14 => ?_)
            refine zg_if_eq d_X7_rests_57 ?_ ?_
            · refine zg_iinc 4 (s9.2 + 1) [(4, .int (s9.2 + 1)), (0, .ref a0), (1, .int a1), (2, .int a2), (3, .int s9.1)] d_X7_rests_63 rfl rfl (by decide) rfl ?_
              refine zg_goto d_X7_rests_66 ?_
              exact zg_finK (E := 0) [1, 2, 3, 4, 0] rfl rfl (fun q => q)
            · refine zg_iinc 3 (s9.1 + 1) [(3, .int (s9.1 + 1)), (0, .ref a0), (1, .int a1), (2, .int a2), (4, .int s9.2)] d_X7_rests_60 rfl rfl (by decide) rfl ?_
              refine zg_iinc 4 (s9.2 + 1) [(4, .int (s9.2 + 1)), (3, .int (s9.1 + 1)), (0, .ref a0), (1, .int a1), (2, .int a2)] d_X7_rests_63 rfl rfl (by decide) rfl ?_
              refine zg_goto d_X7_rests_66 ?_
              exact zg_finK (E := 0) [2, 3, 4, 1, 0] rfl rfl (fun q => q)
        · refine zg_iload_n 3 rfl d_X7_rests_69 ?_
          exact zg_iretK d_X7_rests_70 rfl ⟨Nat.le_of_ble_eq_true rfl, Nat.le_of_ble_eq_true rfl⟩ (fun q => q)
abbrev M_X7_sees : zMt := (RX7, cX7_sees, 2, 4, 127, (some .int), "sees", 0, 0)
theorem d_X7_sees_0 : zDc M_X7_sees 0 (.aload_n 0) 1 1 := ⟨by decide +kernel, rfl⟩
theorem d_X7_sees_1 : zDc M_X7_sees 1 (.iload_n 1) 1 2 := ⟨by decide +kernel, rfl⟩
theorem d_X7_sees_2 : zDc M_X7_sees 2 (.invokevirtual 146) 3 5 := ⟨by decide +kernel, rfl⟩
theorem d_X7_sees_5 : zDj M_X7_sees 5 (.ifCond .eq 14) 14 8 19 := ⟨by decide +kernel, rfl, by decide⟩
theorem d_X7_sees_8 : zDc M_X7_sees 8 (.aload_n 0) 1 9 := ⟨by decide +kernel, rfl⟩
theorem d_X7_sees_9 : zDc M_X7_sees 9 (.getfield 38) 3 12 := ⟨by decide +kernel, rfl⟩
theorem d_X7_sees_12 : zDc M_X7_sees 12 (.iload_n 1) 1 13 := ⟨by decide +kernel, rfl⟩
theorem d_X7_sees_13 : zDc M_X7_sees 13 (.invokevirtual 188) 3 16 := ⟨by decide +kernel, rfl⟩
theorem d_X7_sees_16 : zDj M_X7_sees 16 (.goto 4) 4 19 20 := ⟨by decide +kernel, rfl, by decide⟩
theorem d_X7_sees_19 : zDc M_X7_sees 19 (.iconst (-1)) 1 20 := ⟨by decide +kernel, rfl⟩
theorem d_X7_sees_20 : zDc M_X7_sees 20 (.ireturn) 1 21 := ⟨by decide +kernel, rfl⟩
def f_X7_sees (a0 : Nat) (a1 : Int32) (h0 : zHp) : Option (Int32 × zHp) :=
  zbd (zcv 7 a0 h0 (f_X7_isChild a0 a1 h0)) (fun v2 h1 =>
  if v2 = 0 then
  some ((-1), h1)
  else
  zob (zgR h1 a0 7 4) (fun v3 =>
  zbd (zcv 5 v3 h1 (f_X5_seenBy v3 a1 h1)) (fun v5 h4 =>
  some (v5, h4))))
set_option maxRecDepth 100000 in
set_option maxHeartbeats 4000000 in
theorem t_X7_sees (a0 : Nat) (a1 : Int32) (h0 : zHp) : ∀ (r : Int32) (h' : zHp), f_X7_sees a0 a1 h0 = some (r, h') → zCt yX7_sees (.code yX7_sees cX7_sees 2 (some .int)) 4 127 0 0 [.ref a0, .int a1] h0 (some (.int r)) h' := by
  refine zct_of M_X7_sees yX7_sees (by decide) rfl rfl [.ref a0, .int a1] h0 (Nat.le_of_ble_eq_true rfl) (fun r => some (.int r)) (fun X => ?_)
  show zG X M_X7_sees (0, 0) 0 [(0, .ref a0), (1, .int a1)] [] h0 (f_X7_sees a0 a1 h0) (fun (r : Int32) h' => zKe X (some (.int r)) h')
  unfold f_X7_sees
  refine zg_aload_n 0 rfl d_X7_sees_0 ?_
  refine zg_iload_n 1 rfl d_X7_sees_1 ?_
  refine zg_cVi (b := a0) (As := [.int a1]) (rest := []) (0, 0) d_X7_sees_2 zc_7 rfl cw_X7_146 wi_X7_isChild ws_X7_isChild rfl rfl (Nat.le_of_ble_eq_true rfl) (by decide) (by decide) ⟨by decide, by decide⟩ rfl (t_X7_isChild a0 a1 h0) (fun v2 h1 => ?_)
  refine zg_if_eq d_X7_sees_5 ?_ ?_
  · refine zg_iconst (-1) rfl d_X7_sees_19 ?_
    exact zg_iretK d_X7_sees_20 rfl ⟨Nat.le_of_ble_eq_true rfl, Nat.le_of_ble_eq_true rfl⟩ (fun q => q)
  · refine zg_aload_n 0 rfl d_X7_sees_8 ?_
    refine zg_getR d_X7_sees_9 zc_7 (by decide) fl_X7_38 (fun v3 => ?_)
    refine zg_iload_n 1 rfl d_X7_sees_12 ?_
    refine zg_cVi (b := v3) (As := [.int a1]) (rest := []) (0, 0) d_X7_sees_13 zc_5 rfl cw_X7_188 wi_X5_seenBy ws_X5_seenBy rfl rfl (Nat.le_of_ble_eq_true rfl) (by decide) (by decide) ⟨by decide, by decide⟩ rfl (t_X5_seenBy v3 a1 h1) (fun v5 h4 => ?_)
    refine zg_goto d_X7_sees_16 ?_
    exact zg_iretK d_X7_sees_20 rfl ⟨Nat.le_of_ble_eq_true rfl, Nat.le_of_ble_eq_true rfl⟩ (fun q => q)
abbrev M_X7_sizes : zMt := (RX7, cX7_sizes, 4, 7, 209, (some .int), "sizes", 0, 0)
theorem d_X7_sizes_0 : zDc M_X7_sizes 0 (.aload_n 0) 1 1 := ⟨by decide +kernel, rfl⟩
theorem d_X7_sizes_1 : zDc M_X7_sizes 1 (.iload_n 1) 1 2 := ⟨by decide +kernel, rfl⟩
theorem d_X7_sizes_2 : zDc M_X7_sizes 2 (.invokevirtual 118) 3 5 := ⟨by decide +kernel, rfl⟩
theorem d_X7_sizes_5 : zDj M_X7_sizes 5 (.ifCond .ne 5) 5 8 10 := ⟨by decide +kernel, rfl, by decide⟩
theorem d_X7_sizes_8 : zDc M_X7_sizes 8 (.iconst (-1)) 1 9 := ⟨by decide +kernel, rfl⟩
theorem d_X7_sizes_9 : zDc M_X7_sizes 9 (.ireturn) 1 10 := ⟨by decide +kernel, rfl⟩
theorem d_X7_sizes_10 : zDc M_X7_sizes 10 (.aload_n 0) 1 11 := ⟨by decide +kernel, rfl⟩
theorem d_X7_sizes_11 : zDc M_X7_sizes 11 (.getfield 59) 3 14 := ⟨by decide +kernel, rfl⟩
theorem d_X7_sizes_14 : zDc M_X7_sizes 14 (.invokevirtual 308) 3 17 := ⟨by decide +kernel, rfl⟩
theorem d_X7_sizes_17 : zDc M_X7_sizes 17 (.iconst 0) 1 18 := ⟨by decide +kernel, rfl⟩
theorem d_X7_sizes_18 : zDc M_X7_sizes 18 (.istore_n 2) 1 19 := ⟨by decide +kernel, rfl⟩
theorem d_X7_sizes_19 : zDc M_X7_sizes 19 (.iconst 1) 1 20 := ⟨by decide +kernel, rfl⟩
theorem d_X7_sizes_20 : zDc M_X7_sizes 20 (.istore_n 3) 1 21 := ⟨by decide +kernel, rfl⟩
theorem d_X7_sizes_21 : zDc M_X7_sizes 21 (.iload_n 3) 1 22 := ⟨by decide +kernel, rfl⟩
theorem d_X7_sizes_22 : zDc M_X7_sizes 22 (.bipush 9) 2 24 := ⟨by decide +kernel, rfl⟩
theorem d_X7_sizes_24 : zDj M_X7_sizes 24 (.if_icmp .gt 35) 35 27 59 := ⟨by decide +kernel, rfl, by decide⟩
theorem d_X7_sizes_27 : zDc M_X7_sizes 27 (.aload_n 0) 1 28 := ⟨by decide +kernel, rfl⟩
theorem d_X7_sizes_28 : zDc M_X7_sizes 28 (.getfield 66) 3 31 := ⟨by decide +kernel, rfl⟩
theorem d_X7_sizes_31 : zDc M_X7_sizes 31 (.aload_n 0) 1 32 := ⟨by decide +kernel, rfl⟩
theorem d_X7_sizes_32 : zDc M_X7_sizes 32 (.getfield 29) 3 35 := ⟨by decide +kernel, rfl⟩
theorem d_X7_sizes_35 : zDc M_X7_sizes 35 (.aload_n 0) 1 36 := ⟨by decide +kernel, rfl⟩
theorem d_X7_sizes_36 : zDc M_X7_sizes 36 (.getfield 59) 3 39 := ⟨by decide +kernel, rfl⟩
theorem d_X7_sizes_39 : zDc M_X7_sizes 39 (.iload_n 1) 1 40 := ⟨by decide +kernel, rfl⟩
theorem d_X7_sizes_40 : zDc M_X7_sizes 40 (.iload_n 3) 1 41 := ⟨by decide +kernel, rfl⟩
theorem d_X7_sizes_41 : zDc M_X7_sizes 41 (.invokevirtual 311) 3 44 := ⟨by decide +kernel, rfl⟩
theorem d_X7_sizes_44 : zDj M_X7_sizes 44 (.ifCond .eq 9) 9 47 53 := ⟨by decide +kernel, rfl, by decide⟩
theorem d_X7_sizes_47 : zDc M_X7_sizes 47 (.iload_n 2) 1 48 := ⟨by decide +kernel, rfl⟩
theorem d_X7_sizes_48 : zDc M_X7_sizes 48 (.iconst 1) 1 49 := ⟨by decide +kernel, rfl⟩
theorem d_X7_sizes_49 : zDc M_X7_sizes 49 (.iload_n 3) 1 50 := ⟨by decide +kernel, rfl⟩
theorem d_X7_sizes_50 : zDc M_X7_sizes 50 (.ishl) 1 51 := ⟨by decide +kernel, rfl⟩
theorem d_X7_sizes_51 : zDc M_X7_sizes 51 (.ior) 1 52 := ⟨by decide +kernel, rfl⟩
theorem d_X7_sizes_52 : zDc M_X7_sizes 52 (.istore_n 2) 1 53 := ⟨by decide +kernel, rfl⟩
theorem d_X7_sizes_53 : zDc M_X7_sizes 53 (.iinc 3 1) 3 56 := ⟨by decide +kernel, rfl⟩
theorem d_X7_sizes_56 : zDj M_X7_sizes 56 (.goto (-35)) (-35) 59 21 := ⟨by decide +kernel, rfl, by decide⟩
theorem d_X7_sizes_59 : zDc M_X7_sizes 59 (.iload_n 2) 1 60 := ⟨by decide +kernel, rfl⟩
theorem d_X7_sizes_60 : zDc M_X7_sizes 60 (.ireturn) 1 61 := ⟨by decide +kernel, rfl⟩
def f_X7_sizes (a0 : Nat) (a1 : Int32) (h0 : zHp) : Option (Int32 × zHp) :=
  zbd (zcv 7 a0 h0 (f_X7_isCloud a0 a1 h0)) (fun v2 h1 =>
  if v2 = 0 then
  some ((-1), h1)
  else
  zob (zgR h1 a0 7 8) (fun v3 =>
  zbd (zcv 3 v3 h1 (f_X3_strikeOut v3 h1)) (fun v5 h4 =>
  zbd (
  zlp (σ := (Int32 × Int32)) (β := (Int32 × Int32)) zLF (fun s6 h7 =>
  if 9 < s6.2 then
  some ((.inr (s6.1, s6.2)), h7)
  else
  zob (zgR h7 a0 7 9) (fun v10 =>
  zob (zgR h7 a0 7 3) (fun v11 =>
  zob (zgR h7 a0 7 8) (fun v12 =>
  zbd (zcv 1 v10 h7 (f_X1_agrees v10 v11 v12 a1 s6.2 h7)) (fun v14 h13 =>
  if v14 = 0 then
  some ((.inl (s6.1, (s6.2 + 1))), h13)
  else
  some ((.inl ((s6.1 ||| (1 <<< (s6.2 &&& 31))), (s6.2 + 1))), h13)))))) (0, 1) h4) (fun e8 h9 =>
  some (e8.1, h9)))))
set_option maxRecDepth 100000 in
set_option maxHeartbeats 4000000 in
theorem t_X7_sizes (a0 : Nat) (a1 : Int32) (h0 : zHp) : ∀ (r : Int32) (h' : zHp), f_X7_sizes a0 a1 h0 = some (r, h') → zCt yX7_sizes (.code yX7_sizes cX7_sizes 4 (some .int)) 7 209 0 0 [.ref a0, .int a1] h0 (some (.int r)) h' := by
  refine zct_of M_X7_sizes yX7_sizes (by decide) rfl rfl [.ref a0, .int a1] h0 (Nat.le_of_ble_eq_true rfl) (fun r => some (.int r)) (fun X => ?_)
  show zG X M_X7_sizes (0, 0) 0 [(0, .ref a0), (1, .int a1)] [] h0 (f_X7_sizes a0 a1 h0) (fun (r : Int32) h' => zKe X (some (.int r)) h')
  unfold f_X7_sizes
  refine zg_aload_n 0 rfl d_X7_sizes_0 ?_
  refine zg_iload_n 1 rfl d_X7_sizes_1 ?_
  refine zg_cVi (b := a0) (As := [.int a1]) (rest := []) (0, 0) d_X7_sizes_2 zc_7 rfl cw_X7_118 wi_X7_isCloud ws_X7_isCloud rfl rfl (Nat.le_of_ble_eq_true rfl) (by decide) (by decide) ⟨by decide, by decide⟩ rfl (t_X7_isCloud a0 a1 h0) (fun v2 h1 => ?_)
  refine zg_if_ne d_X7_sizes_5 ?_ ?_
  · refine zg_iconst (-1) rfl d_X7_sizes_8 ?_
    exact zg_iretK d_X7_sizes_9 rfl ⟨Nat.le_of_ble_eq_true rfl, Nat.le_of_ble_eq_true rfl⟩ (fun q => q)
  · refine zg_aload_n 0 rfl d_X7_sizes_10 ?_
    refine zg_getR d_X7_sizes_11 zc_7 (by decide) fl_X7_59 (fun v3 => ?_)
    refine zg_cVv (b := v3) (As := []) (rest := []) (0, 0) d_X7_sizes_14 zc_3 rfl cw_X7_308 wi_X3_strikeOut ws_X3_strikeOut rfl rfl (Nat.le_of_ble_eq_true rfl) (by decide) (by decide) ⟨by decide, by decide⟩ rfl (t_X3_strikeOut v3 h1) (fun v5 h4 => ?_)
    refine zg_iconst 0 rfl d_X7_sizes_17 ?_
    refine zg_istore_n [(2, .int 0), (0, .ref a0), (1, .int a1)] d_X7_sizes_18 rfl (by decide) rfl ?_
    refine zg_iconst 1 rfl d_X7_sizes_19 ?_
    refine zg_istore_n [(3, .int 1), (2, .int 0), (0, .ref a0), (1, .int a1)] d_X7_sizes_20 rfl (by decide) rfl ?_
    refine zg_bd (E := 59) (el := (fun (e8 : (Int32 × Int32)) => [(0, .ref a0), (1, .int a1), (2, .int e8.1), (3, .int e8.2)])) (es := fun _ => []) (zg_sub [2, 3, 1, 0] rfl (zg_lp (el := (fun (s6 : (Int32 × Int32)) => [(0, .ref a0), (1, .int a1), (2, .int s6.1), (3, .int s6.2)])) (fun s6 h7 => ?_) (0, 1) h4)) (fun e8 h9 => ?_)
    · refine zg_iload_n 3 rfl d_X7_sizes_21 ?_
      refine zg_bipush 9 rfl d_X7_sizes_22 ?_
      refine zg_icmp_gt d_X7_sizes_24 ?_ ?_
      · exact zg_finK (E := 0) [0, 1, 2, 3] rfl rfl (fun q => q)
      · refine zg_aload_n 0 rfl d_X7_sizes_27 ?_
        refine zg_getR d_X7_sizes_28 zc_7 (by decide) fl_X7_66 (fun v10 => ?_)
        refine zg_aload_n 0 rfl d_X7_sizes_31 ?_
        refine zg_getR d_X7_sizes_32 zc_7 (by decide) fl_X7_29 (fun v11 => ?_)
        refine zg_aload_n 0 rfl d_X7_sizes_35 ?_
        refine zg_getR d_X7_sizes_36 zc_7 (by decide) fl_X7_59 (fun v12 => ?_)
        refine zg_iload_n 1 rfl d_X7_sizes_39 ?_
        refine zg_iload_n 3 rfl d_X7_sizes_40 ?_
        refine zg_cVi (b := v10) (As := [.ref v11, .ref v12, .int a1, .int s6.2]) (rest := []) (0, 0) d_X7_sizes_41 zc_1 rfl cw_X7_311 wi_X1_agrees ws_X1_agrees rfl rfl (Nat.le_of_ble_eq_true rfl) (by decide) (by decide) ⟨by decide, by decide⟩ rfl (t_X1_agrees v10 v11 v12 a1 s6.2 h7) (fun v14 h13 => ?_)
        refine zg_if_eq d_X7_sizes_44 ?_ ?_
        · refine zg_iinc 3 (s6.2 + 1) [(3, .int (s6.2 + 1)), (0, .ref a0), (1, .int a1), (2, .int s6.1)] d_X7_sizes_53 rfl rfl (by decide) rfl ?_
          refine zg_goto d_X7_sizes_56 ?_
          exact zg_finK (E := 0) [1, 2, 3, 0] rfl rfl (fun q => q)
        · refine zg_iload_n 2 rfl d_X7_sizes_47 ?_
          refine zg_iconst 1 rfl d_X7_sizes_48 ?_
          refine zg_iload_n 3 rfl d_X7_sizes_49 ?_
          refine zg_ishl d_X7_sizes_50 ?_
          refine zg_ior d_X7_sizes_51 ?_
          refine zg_istore_n [(2, .int (s6.1 ||| (1 <<< (s6.2 &&& 31)))), (0, .ref a0), (1, .int a1), (3, .int s6.2)] d_X7_sizes_52 rfl (by decide) rfl ?_
          refine zg_iinc 3 (s6.2 + 1) [(3, .int (s6.2 + 1)), (2, .int (s6.1 ||| (1 <<< (s6.2 &&& 31)))), (0, .ref a0), (1, .int a1)] d_X7_sizes_53 rfl rfl (by decide) rfl ?_
          refine zg_goto d_X7_sizes_56 ?_
          exact zg_finK (E := 0) [2, 3, 1, 0] rfl rfl (fun q => q)
    · refine zg_iload_n 2 rfl d_X7_sizes_59 ?_
      exact zg_iretK d_X7_sizes_60 rfl ⟨Nat.le_of_ble_eq_true rfl, Nat.le_of_ble_eq_true rfl⟩ (fun q => q)
abbrev M_X7_stand : zMt := (RX7, cX7_stand, 4, 3, 104, (some .boolean), "stand", 0, 0)
theorem d_X7_stand_0 : zDc M_X7_stand 0 (.aload_n 0) 1 1 := ⟨by decide +kernel, rfl⟩
theorem d_X7_stand_1 : zDc M_X7_stand 1 (.iload_n 1) 1 2 := ⟨by decide +kernel, rfl⟩
theorem d_X7_stand_2 : zDc M_X7_stand 2 (.invokevirtual 146) 3 5 := ⟨by decide +kernel, rfl⟩
theorem d_X7_stand_5 : zDj M_X7_stand 5 (.ifCond .eq 11) 11 8 16 := ⟨by decide +kernel, rfl, by decide⟩
theorem d_X7_stand_8 : zDc M_X7_stand 8 (.iload_n 2) 1 9 := ⟨by decide +kernel, rfl⟩
theorem d_X7_stand_9 : zDc M_X7_stand 9 (.iload_n 3) 1 10 := ⟨by decide +kernel, rfl⟩
theorem d_X7_stand_10 : zDc M_X7_stand 10 (.invokestatic 180) 3 13 := ⟨by decide +kernel, rfl⟩
theorem d_X7_stand_13 : zDj M_X7_stand 13 (.ifCond .ne 5) 5 16 18 := ⟨by decide +kernel, rfl, by decide⟩
theorem d_X7_stand_16 : zDc M_X7_stand 16 (.iconst 0) 1 17 := ⟨by decide +kernel, rfl⟩
theorem d_X7_stand_17 : zDc M_X7_stand 17 (.ireturn) 1 18 := ⟨by decide +kernel, rfl⟩
theorem d_X7_stand_18 : zDc M_X7_stand 18 (.aload_n 0) 1 19 := ⟨by decide +kernel, rfl⟩
theorem d_X7_stand_19 : zDc M_X7_stand 19 (.getfield 38) 3 22 := ⟨by decide +kernel, rfl⟩
theorem d_X7_stand_22 : zDc M_X7_stand 22 (.getfield 149) 3 25 := ⟨by decide +kernel, rfl⟩
theorem d_X7_stand_25 : zDc M_X7_stand 25 (.iload_n 1) 1 26 := ⟨by decide +kernel, rfl⟩
theorem d_X7_stand_26 : zDc M_X7_stand 26 (.iaload) 1 27 := ⟨by decide +kernel, rfl⟩
theorem d_X7_stand_27 : zDc M_X7_stand 27 (.iload_n 2) 1 28 := ⟨by decide +kernel, rfl⟩
theorem d_X7_stand_28 : zDj M_X7_stand 28 (.if_icmp .ne 18) 18 31 46 := ⟨by decide +kernel, rfl, by decide⟩
theorem d_X7_stand_31 : zDc M_X7_stand 31 (.aload_n 0) 1 32 := ⟨by decide +kernel, rfl⟩
theorem d_X7_stand_32 : zDc M_X7_stand 32 (.getfield 38) 3 35 := ⟨by decide +kernel, rfl⟩
theorem d_X7_stand_35 : zDc M_X7_stand 35 (.getfield 152) 3 38 := ⟨by decide +kernel, rfl⟩
theorem d_X7_stand_38 : zDc M_X7_stand 38 (.iload_n 1) 1 39 := ⟨by decide +kernel, rfl⟩
theorem d_X7_stand_39 : zDc M_X7_stand 39 (.iaload) 1 40 := ⟨by decide +kernel, rfl⟩
theorem d_X7_stand_40 : zDc M_X7_stand 40 (.iload_n 3) 1 41 := ⟨by decide +kernel, rfl⟩
theorem d_X7_stand_41 : zDj M_X7_stand 41 (.if_icmp .ne 5) 5 44 46 := ⟨by decide +kernel, rfl, by decide⟩
theorem d_X7_stand_44 : zDc M_X7_stand 44 (.iconst 0) 1 45 := ⟨by decide +kernel, rfl⟩
theorem d_X7_stand_45 : zDc M_X7_stand 45 (.ireturn) 1 46 := ⟨by decide +kernel, rfl⟩
theorem d_X7_stand_46 : zDc M_X7_stand 46 (.aload_n 0) 1 47 := ⟨by decide +kernel, rfl⟩
theorem d_X7_stand_47 : zDc M_X7_stand 47 (.getfield 52) 3 50 := ⟨by decide +kernel, rfl⟩
theorem d_X7_stand_50 : zDc M_X7_stand 50 (.iconst 2) 1 51 := ⟨by decide +kernel, rfl⟩
theorem d_X7_stand_51 : zDc M_X7_stand 51 (.iload_n 1) 1 52 := ⟨by decide +kernel, rfl⟩
theorem d_X7_stand_52 : zDc M_X7_stand 52 (.aload_n 0) 1 53 := ⟨by decide +kernel, rfl⟩
theorem d_X7_stand_53 : zDc M_X7_stand 53 (.getfield 38) 3 56 := ⟨by decide +kernel, rfl⟩
theorem d_X7_stand_56 : zDc M_X7_stand 56 (.getfield 149) 3 59 := ⟨by decide +kernel, rfl⟩
theorem d_X7_stand_59 : zDc M_X7_stand 59 (.iload_n 1) 1 60 := ⟨by decide +kernel, rfl⟩
theorem d_X7_stand_60 : zDc M_X7_stand 60 (.iaload) 1 61 := ⟨by decide +kernel, rfl⟩
theorem d_X7_stand_61 : zDc M_X7_stand 61 (.aload_n 0) 1 62 := ⟨by decide +kernel, rfl⟩
theorem d_X7_stand_62 : zDc M_X7_stand 62 (.getfield 38) 3 65 := ⟨by decide +kernel, rfl⟩
theorem d_X7_stand_65 : zDc M_X7_stand 65 (.getfield 152) 3 68 := ⟨by decide +kernel, rfl⟩
theorem d_X7_stand_68 : zDc M_X7_stand 68 (.iload_n 1) 1 69 := ⟨by decide +kernel, rfl⟩
theorem d_X7_stand_69 : zDc M_X7_stand 69 (.iaload) 1 70 := ⟨by decide +kernel, rfl⟩
theorem d_X7_stand_70 : zDc M_X7_stand 70 (.invokevirtual 207) 3 73 := ⟨by decide +kernel, rfl⟩
theorem d_X7_stand_73 : zDc M_X7_stand 73 (.aload_n 0) 1 74 := ⟨by decide +kernel, rfl⟩
theorem d_X7_stand_74 : zDc M_X7_stand 74 (.getfield 38) 3 77 := ⟨by decide +kernel, rfl⟩
theorem d_X7_stand_77 : zDc M_X7_stand 77 (.getfield 149) 3 80 := ⟨by decide +kernel, rfl⟩
theorem d_X7_stand_80 : zDc M_X7_stand 80 (.iload_n 1) 1 81 := ⟨by decide +kernel, rfl⟩
theorem d_X7_stand_81 : zDc M_X7_stand 81 (.iload_n 2) 1 82 := ⟨by decide +kernel, rfl⟩
theorem d_X7_stand_82 : zDc M_X7_stand 82 (.iastore) 1 83 := ⟨by decide +kernel, rfl⟩
theorem d_X7_stand_83 : zDc M_X7_stand 83 (.aload_n 0) 1 84 := ⟨by decide +kernel, rfl⟩
theorem d_X7_stand_84 : zDc M_X7_stand 84 (.getfield 38) 3 87 := ⟨by decide +kernel, rfl⟩
theorem d_X7_stand_87 : zDc M_X7_stand 87 (.getfield 152) 3 90 := ⟨by decide +kernel, rfl⟩
theorem d_X7_stand_90 : zDc M_X7_stand 90 (.iload_n 1) 1 91 := ⟨by decide +kernel, rfl⟩
theorem d_X7_stand_91 : zDc M_X7_stand 91 (.iload_n 3) 1 92 := ⟨by decide +kernel, rfl⟩
theorem d_X7_stand_92 : zDc M_X7_stand 92 (.iastore) 1 93 := ⟨by decide +kernel, rfl⟩
theorem d_X7_stand_93 : zDc M_X7_stand 93 (.iconst 1) 1 94 := ⟨by decide +kernel, rfl⟩
theorem d_X7_stand_94 : zDc M_X7_stand 94 (.ireturn) 1 95 := ⟨by decide +kernel, rfl⟩
def f_X7_stand (a0 : Nat) (a1 : Int32) (a2 : Int32) (a3 : Int32) (h0 : zHp) : Option (Int32 × zHp) :=
  zbd (zcv 7 a0 h0 (f_X7_isChild a0 a1 h0)) (fun v2 h1 =>
  if v2 = 0 then
  some (0, h1)
  else
  zbd ((f_X7_isCell a2 a3 h1)) (fun v4 h3 =>
  if v4 = 0 then
  some (0, h3)
  else
  zob (zgR h3 a0 7 4) (fun v5 =>
  zob (zgR h3 v5 5 6) (fun v6 =>
  zob (zaI 0 h3 v6 a1) (fun v7 =>
  zbd (α := (Unit ⊕ Int32)) (
  if v7 = a2 then
  zob (zgR h3 a0 7 4) (fun v8 =>
  zob (zgR h3 v8 5 7) (fun v9 =>
  zob (zaI 0 h3 v9 a1) (fun v10 =>
  if v10 = a3 then
  some ((.inr 0), h3)
  else
  some ((.inl ()), h3))))
  else
  some ((.inl ()), h3)) (fun b28 h12 => zsl b28 (fun e11 =>
  zob (zgR h12 a0 7 7) (fun v13 =>
  zob (zgR h12 a0 7 4) (fun v14 =>
  zob (zgR h12 v14 5 6) (fun v15 =>
  zob (zaI 0 h12 v15 a1) (fun v16 =>
  zob (zgR h12 a0 7 4) (fun v17 =>
  zob (zgR h12 v17 5 7) (fun v18 =>
  zob (zaI 0 h12 v18 a1) (fun v19 =>
  zbd (zcv 0 v13 h12 (f_X0_remember v13 2 a1 v16 v19 h12)) (fun v21 h20 =>
  zob (zgR h20 a0 7 4) (fun v22 =>
  zob (zgR h20 v22 5 6) (fun v23 =>
  zob (zsI 0 h20 v23 a1 a2) (fun h24 =>
  zob (zgR h24 a0 7 4) (fun v25 =>
  zob (zgR h24 v25 5 7) (fun v26 =>
  zob (zsI 0 h24 v26 a1 a3) (fun h27 =>
  some (1, h27)))))))))))))))) (fun r => some (r, h12))))))))
set_option maxRecDepth 100000 in
set_option maxHeartbeats 4000000 in
theorem t_X7_stand (a0 : Nat) (a1 : Int32) (a2 : Int32) (a3 : Int32) (h0 : zHp) : ∀ (r : Int32) (h' : zHp), f_X7_stand a0 a1 a2 a3 h0 = some (r, h') → zCt yX7_stand (.code yX7_stand cX7_stand 4 (some .boolean)) 3 104 0 0 [.ref a0, .int a1, .int a2, .int a3] h0 (some (.int r)) h' := by
  refine zct_of M_X7_stand yX7_stand (by decide) rfl rfl [.ref a0, .int a1, .int a2, .int a3] h0 (Nat.le_of_ble_eq_true rfl) (fun r => some (.int r)) (fun X => ?_)
  show zG X M_X7_stand (0, 0) 0 [(0, .ref a0), (1, .int a1), (2, .int a2), (3, .int a3)] [] h0 (f_X7_stand a0 a1 a2 a3 h0) (fun (r : Int32) h' => zKe X (some (.int r)) h')
  unfold f_X7_stand
  refine zg_aload_n 0 rfl d_X7_stand_0 ?_
  refine zg_iload_n 1 rfl d_X7_stand_1 ?_
  refine zg_cVi (b := a0) (As := [.int a1]) (rest := []) (0, 0) d_X7_stand_2 zc_7 rfl cw_X7_146 wi_X7_isChild ws_X7_isChild rfl rfl (Nat.le_of_ble_eq_true rfl) (by decide) (by decide) ⟨by decide, by decide⟩ rfl (t_X7_isChild a0 a1 h0) (fun v2 h1 => ?_)
  refine zg_if_eq d_X7_stand_5 ?_ ?_
  · refine zg_iconst 0 rfl d_X7_stand_16 ?_
    exact zg_zretK d_X7_stand_17 rfl ⟨Nat.le_of_ble_eq_true rfl, Nat.le_of_ble_eq_true rfl⟩ (Or.inl rfl) (fun q => q)
  · refine zg_iload_n 2 rfl d_X7_stand_8 ?_
    refine zg_iload_n 3 rfl d_X7_stand_9 ?_
    refine zg_cSi (As := [.int a2, .int a3]) (rest := []) (0, 0) d_X7_stand_10 cw_X7_180 wt_X7_isCell rfl rfl (Nat.le_of_ble_eq_true rfl) (by decide) (by decide) ⟨by decide, by decide⟩ rfl (t_X7_isCell a2 a3 h1) (fun v4 h3 => ?_)
    refine zg_if_ne d_X7_stand_13 ?_ ?_
    · refine zg_iconst 0 rfl d_X7_stand_16 ?_
      exact zg_zretK d_X7_stand_17 rfl ⟨Nat.le_of_ble_eq_true rfl, Nat.le_of_ble_eq_true rfl⟩ (Or.inl rfl) (fun q => q)
    · refine zg_aload_n 0 rfl d_X7_stand_18 ?_
      refine zg_getR d_X7_stand_19 zc_7 (by decide) fl_X7_38 (fun v5 => ?_)
      refine zg_getR d_X7_stand_22 zc_5 (by decide) fl_X7_149 (fun v6 => ?_)
      refine zg_iload_n 1 rfl d_X7_stand_25 ?_
      refine zg_ald0 d_X7_stand_26 (fun v7 => ?_)
      refine zg_iload_n 2 rfl d_X7_stand_27 ?_
      refine zg_bdr (E := 46) (el := (fun (e11 : Unit) => [(0, .ref a0), (1, .int a1), (2, .int a2), (3, .int a3)])) (es := (fun (e11 : Unit) => [])) ?_ (fun e11 h12 => ?_)
      · refine zg_icmp_ne d_X7_stand_28 ?_ ?_
        · refine zg_aload_n 0 rfl d_X7_stand_31 ?_
          refine zg_getR d_X7_stand_32 zc_7 (by decide) fl_X7_38 (fun v8 => ?_)
          refine zg_getR d_X7_stand_35 zc_5 (by decide) fl_X7_152 (fun v9 => ?_)
          refine zg_iload_n 1 rfl d_X7_stand_38 ?_
          refine zg_ald0 d_X7_stand_39 (fun v10 => ?_)
          refine zg_iload_n 3 rfl d_X7_stand_40 ?_
          refine zg_icmp_ne d_X7_stand_41 ?_ ?_
          · refine zg_iconst 0 rfl d_X7_stand_44 ?_
            exact zg_zretK d_X7_stand_45 rfl ⟨Nat.le_of_ble_eq_true rfl, Nat.le_of_ble_eq_true rfl⟩ (Or.inl rfl) (fun q => q)
          · exact zg_finK (E := 0) [0, 1, 2, 3] rfl rfl (fun q => q)
        · exact zg_finK (E := 0) [0, 1, 2, 3] rfl rfl (fun q => q)
      · refine zg_aload_n 0 rfl d_X7_stand_46 ?_
        refine zg_getR d_X7_stand_47 zc_7 (by decide) fl_X7_52 (fun v13 => ?_)
        refine zg_iconst 2 rfl d_X7_stand_50 ?_
        refine zg_iload_n 1 rfl d_X7_stand_51 ?_
        refine zg_aload_n 0 rfl d_X7_stand_52 ?_
        refine zg_getR d_X7_stand_53 zc_7 (by decide) fl_X7_38 (fun v14 => ?_)
        refine zg_getR d_X7_stand_56 zc_5 (by decide) fl_X7_149 (fun v15 => ?_)
        refine zg_iload_n 1 rfl d_X7_stand_59 ?_
        refine zg_ald0 d_X7_stand_60 (fun v16 => ?_)
        refine zg_aload_n 0 rfl d_X7_stand_61 ?_
        refine zg_getR d_X7_stand_62 zc_7 (by decide) fl_X7_38 (fun v17 => ?_)
        refine zg_getR d_X7_stand_65 zc_5 (by decide) fl_X7_152 (fun v18 => ?_)
        refine zg_iload_n 1 rfl d_X7_stand_68 ?_
        refine zg_ald0 d_X7_stand_69 (fun v19 => ?_)
        refine zg_cVv (b := v13) (As := [.int 2, .int a1, .int v16, .int v19]) (rest := []) (0, 0) d_X7_stand_70 zc_0 rfl cw_X7_207 wi_X0_remember ws_X0_remember rfl rfl (Nat.le_of_ble_eq_true rfl) (by decide) (by decide) ⟨by decide, by decide⟩ rfl (t_X0_remember v13 2 a1 v16 v19 h12) (fun v21 h20 => ?_)
        refine zg_aload_n 0 rfl d_X7_stand_73 ?_
        refine zg_getR d_X7_stand_74 zc_7 (by decide) fl_X7_38 (fun v22 => ?_)
        refine zg_getR d_X7_stand_77 zc_5 (by decide) fl_X7_149 (fun v23 => ?_)
        refine zg_iload_n 1 rfl d_X7_stand_80 ?_
        refine zg_iload_n 2 rfl d_X7_stand_81 ?_
        refine zg_ast0 d_X7_stand_82 (fun h24 => ?_)
        refine zg_aload_n 0 rfl d_X7_stand_83 ?_
        refine zg_getR d_X7_stand_84 zc_7 (by decide) fl_X7_38 (fun v25 => ?_)
        refine zg_getR d_X7_stand_87 zc_5 (by decide) fl_X7_152 (fun v26 => ?_)
        refine zg_iload_n 1 rfl d_X7_stand_90 ?_
        refine zg_iload_n 3 rfl d_X7_stand_91 ?_
        refine zg_ast0 d_X7_stand_92 (fun h27 => ?_)
        refine zg_iconst 1 rfl d_X7_stand_93 ?_
        exact zg_zretK d_X7_stand_94 rfl ⟨Nat.le_of_ble_eq_true rfl, Nat.le_of_ble_eq_true rfl⟩ (Or.inr rfl) (fun q => q)
abbrev M_X7_station : zMt := (RX7, cX7_station, 5, 7, 209, (some .int), "station", 0, 0)
theorem d_X7_station_0 : zDc M_X7_station 0 (.aload_n 0) 1 1 := ⟨by decide +kernel, rfl⟩
theorem d_X7_station_1 : zDc M_X7_station 1 (.iload_n 1) 1 2 := ⟨by decide +kernel, rfl⟩
theorem d_X7_station_2 : zDc M_X7_station 2 (.invokevirtual 146) 3 5 := ⟨by decide +kernel, rfl⟩
theorem d_X7_station_5 : zDj M_X7_station 5 (.ifCond .eq 22) 22 8 27 := ⟨by decide +kernel, rfl, by decide⟩
theorem d_X7_station_8 : zDc M_X7_station 8 (.iconst 1) 1 9 := ⟨by decide +kernel, rfl⟩
theorem d_X7_station_9 : zDc M_X7_station 9 (.iload_n 2) 1 10 := ⟨by decide +kernel, rfl⟩
theorem d_X7_station_10 : zDc M_X7_station 10 (.bipush 60) 2 12 := ⟨by decide +kernel, rfl⟩
theorem d_X7_station_12 : zDc M_X7_station 12 (.invokestatic 194) 3 15 := ⟨by decide +kernel, rfl⟩
theorem d_X7_station_15 : zDj M_X7_station 15 (.ifCond .eq 12) 12 18 27 := ⟨by decide +kernel, rfl, by decide⟩
theorem d_X7_station_18 : zDc M_X7_station 18 (.iconst 0) 1 19 := ⟨by decide +kernel, rfl⟩
theorem d_X7_station_19 : zDc M_X7_station 19 (.iload_n 3) 1 20 := ⟨by decide +kernel, rfl⟩
theorem d_X7_station_20 : zDc M_X7_station 20 (.iconst 1) 1 21 := ⟨by decide +kernel, rfl⟩
theorem d_X7_station_21 : zDc M_X7_station 21 (.invokestatic 194) 3 24 := ⟨by decide +kernel, rfl⟩
theorem d_X7_station_24 : zDj M_X7_station 24 (.ifCond .ne 5) 5 27 29 := ⟨by decide +kernel, rfl, by decide⟩
theorem d_X7_station_27 : zDc M_X7_station 27 (.iconst (-1)) 1 28 := ⟨by decide +kernel, rfl⟩
theorem d_X7_station_28 : zDc M_X7_station 28 (.ireturn) 1 29 := ⟨by decide +kernel, rfl⟩
theorem d_X7_station_29 : zDc M_X7_station 29 (.aload_n 0) 1 30 := ⟨by decide +kernel, rfl⟩
theorem d_X7_station_30 : zDc M_X7_station 30 (.getfield 66) 3 33 := ⟨by decide +kernel, rfl⟩
theorem d_X7_station_33 : zDc M_X7_station 33 (.aload_n 0) 1 34 := ⟨by decide +kernel, rfl⟩
theorem d_X7_station_34 : zDc M_X7_station 34 (.getfield 38) 3 37 := ⟨by decide +kernel, rfl⟩
theorem d_X7_station_37 : zDc M_X7_station 37 (.iload_n 1) 1 38 := ⟨by decide +kernel, rfl⟩
theorem d_X7_station_38 : zDc M_X7_station 38 (.iload_n 2) 1 39 := ⟨by decide +kernel, rfl⟩
theorem d_X7_station_39 : zDc M_X7_station 39 (.invokevirtual 254) 3 42 := ⟨by decide +kernel, rfl⟩
theorem d_X7_station_42 : zDc M_X7_station 42 (.istore 4) 2 44 := ⟨by decide +kernel, rfl⟩
theorem d_X7_station_44 : zDc M_X7_station 44 (.iload_n 3) 1 45 := ⟨by decide +kernel, rfl⟩
theorem d_X7_station_45 : zDj M_X7_station 45 (.ifCond .ne 8) 8 48 53 := ⟨by decide +kernel, rfl, by decide⟩
theorem d_X7_station_48 : zDc M_X7_station 48 (.iload 4) 2 50 := ⟨by decide +kernel, rfl⟩
theorem d_X7_station_50 : zDj M_X7_station 50 (.goto 12) 12 53 62 := ⟨by decide +kernel, rfl, by decide⟩
theorem d_X7_station_53 : zDc M_X7_station 53 (.aload_n 0) 1 54 := ⟨by decide +kernel, rfl⟩
theorem d_X7_station_54 : zDc M_X7_station 54 (.getfield 66) 3 57 := ⟨by decide +kernel, rfl⟩
theorem d_X7_station_57 : zDc M_X7_station 57 (.iload 4) 2 59 := ⟨by decide +kernel, rfl⟩
theorem d_X7_station_59 : zDc M_X7_station 59 (.invokevirtual 258) 3 62 := ⟨by decide +kernel, rfl⟩
theorem d_X7_station_62 : zDc M_X7_station 62 (.ireturn) 1 63 := ⟨by decide +kernel, rfl⟩
def f_X7_station (a0 : Nat) (a1 : Int32) (a2 : Int32) (a3 : Int32) (h0 : zHp) : Option (Int32 × zHp) :=
  zbd (zcv 7 a0 h0 (f_X7_isChild a0 a1 h0)) (fun v2 h1 =>
  if v2 = 0 then
  some ((-1), h1)
  else
  zbd ((f_X7_isFrom 1 a2 60 h1)) (fun v4 h3 =>
  if v4 = 0 then
  some ((-1), h3)
  else
  zbd ((f_X7_isFrom 0 a3 1 h3)) (fun v6 h5 =>
  if v6 = 0 then
  some ((-1), h5)
  else
  zob (zgR h5 a0 7 9) (fun v7 =>
  zob (zgR h5 a0 7 4) (fun v8 =>
  zbd (zcv 1 v7 h5 (f_X1_stationOf v7 v8 a1 a2 h5)) (fun v10 h9 =>
  if a3 = 0 then
  some (v10, h9)
  else
  zob (zgR h9 a0 7 9) (fun v11 =>
  zbd (zcv 1 v11 h9 (f_X1_seenFrom v11 v10 h9)) (fun v13 h12 =>
  some (v13, h12)))))))))
set_option maxRecDepth 100000 in
set_option maxHeartbeats 4000000 in
theorem t_X7_station (a0 : Nat) (a1 : Int32) (a2 : Int32) (a3 : Int32) (h0 : zHp) : ∀ (r : Int32) (h' : zHp), f_X7_station a0 a1 a2 a3 h0 = some (r, h') → zCt yX7_station (.code yX7_station cX7_station 5 (some .int)) 7 209 0 0 [.ref a0, .int a1, .int a2, .int a3] h0 (some (.int r)) h' := by
  refine zct_of M_X7_station yX7_station (by decide) rfl rfl [.ref a0, .int a1, .int a2, .int a3] h0 (Nat.le_of_ble_eq_true rfl) (fun r => some (.int r)) (fun X => ?_)
  show zG X M_X7_station (0, 0) 0 [(0, .ref a0), (1, .int a1), (2, .int a2), (3, .int a3)] [] h0 (f_X7_station a0 a1 a2 a3 h0) (fun (r : Int32) h' => zKe X (some (.int r)) h')
  unfold f_X7_station
  refine zg_aload_n 0 rfl d_X7_station_0 ?_
  refine zg_iload_n 1 rfl d_X7_station_1 ?_
  refine zg_cVi (b := a0) (As := [.int a1]) (rest := []) (0, 0) d_X7_station_2 zc_7 rfl cw_X7_146 wi_X7_isChild ws_X7_isChild rfl rfl (Nat.le_of_ble_eq_true rfl) (by decide) (by decide) ⟨by decide, by decide⟩ rfl (t_X7_isChild a0 a1 h0) (fun v2 h1 => ?_)
  refine zg_if_eq d_X7_station_5 ?_ ?_
  · refine zg_iconst (-1) rfl d_X7_station_27 ?_
    exact zg_iretK d_X7_station_28 rfl ⟨Nat.le_of_ble_eq_true rfl, Nat.le_of_ble_eq_true rfl⟩ (fun q => q)
  · refine zg_iconst 1 rfl d_X7_station_8 ?_
    refine zg_iload_n 2 rfl d_X7_station_9 ?_
    refine zg_bipush 60 rfl d_X7_station_10 ?_
    refine zg_cSi (As := [.int 1, .int a2, .int 60]) (rest := []) (0, 0) d_X7_station_12 cw_X7_194 wt_X7_isFrom rfl rfl (Nat.le_of_ble_eq_true rfl) (by decide) (by decide) ⟨by decide, by decide⟩ rfl (t_X7_isFrom 1 a2 60 h1) (fun v4 h3 => ?_)
    refine zg_if_eq d_X7_station_15 ?_ ?_
    · refine zg_iconst (-1) rfl d_X7_station_27 ?_
      exact zg_iretK d_X7_station_28 rfl ⟨Nat.le_of_ble_eq_true rfl, Nat.le_of_ble_eq_true rfl⟩ (fun q => q)
    · refine zg_iconst 0 rfl d_X7_station_18 ?_
      refine zg_iload_n 3 rfl d_X7_station_19 ?_
      refine zg_iconst 1 rfl d_X7_station_20 ?_
      refine zg_cSi (As := [.int 0, .int a3, .int 1]) (rest := []) (0, 0) d_X7_station_21 cw_X7_194 wt_X7_isFrom rfl rfl (Nat.le_of_ble_eq_true rfl) (by decide) (by decide) ⟨by decide, by decide⟩ rfl (t_X7_isFrom 0 a3 1 h3) (fun v6 h5 => ?_)
      refine zg_if_ne d_X7_station_24 ?_ ?_
      · refine zg_iconst (-1) rfl d_X7_station_27 ?_
        exact zg_iretK d_X7_station_28 rfl ⟨Nat.le_of_ble_eq_true rfl, Nat.le_of_ble_eq_true rfl⟩ (fun q => q)
      · refine zg_aload_n 0 rfl d_X7_station_29 ?_
        refine zg_getR d_X7_station_30 zc_7 (by decide) fl_X7_66 (fun v7 => ?_)
        refine zg_aload_n 0 rfl d_X7_station_33 ?_
        refine zg_getR d_X7_station_34 zc_7 (by decide) fl_X7_38 (fun v8 => ?_)
        refine zg_iload_n 1 rfl d_X7_station_37 ?_
        refine zg_iload_n 2 rfl d_X7_station_38 ?_
        refine zg_cVi (b := v7) (As := [.ref v8, .int a1, .int a2]) (rest := []) (0, 0) d_X7_station_39 zc_1 rfl cw_X7_254 wi_X1_stationOf ws_X1_stationOf rfl rfl (Nat.le_of_ble_eq_true rfl) (by decide) (by decide) ⟨by decide, by decide⟩ rfl (t_X1_stationOf v7 v8 a1 a2 h5) (fun v10 h9 => ?_)
        refine zg_istore [(4, .int v10), (0, .ref a0), (1, .int a1), (2, .int a2), (3, .int a3)] d_X7_station_42 (by decide) rfl ?_
        refine zg_iload_n 4 rfl d_X7_station_44 ?_
        refine zg_if_ne d_X7_station_45 ?_ ?_
        · refine zg_iload 0 rfl d_X7_station_48 ?_
          refine zg_goto d_X7_station_50 ?_
          exact zg_iretK d_X7_station_62 rfl ⟨Nat.le_of_ble_eq_true rfl, Nat.le_of_ble_eq_true rfl⟩ (fun q => q)
        · refine zg_aload_n 1 rfl d_X7_station_53 ?_
          refine zg_getR d_X7_station_54 zc_7 (by decide) fl_X7_66 (fun v11 => ?_)
          refine zg_iload 0 rfl d_X7_station_57 ?_
          refine zg_cVi (b := v11) (As := [.int v10]) (rest := []) (0, 0) d_X7_station_59 zc_1 rfl cw_X7_258 wi_X1_seenFrom ws_X1_seenFrom rfl rfl (Nat.le_of_ble_eq_true rfl) (by decide) (by decide) ⟨by decide, by decide⟩ rfl (t_X1_seenFrom v11 v10 h9) (fun v13 h12 => ?_)
          exact zg_iretK d_X7_station_62 rfl ⟨Nat.le_of_ble_eq_true rfl, Nat.le_of_ble_eq_true rfl⟩ (fun q => q)
abbrev M_X7_swap : zMt := (RX7, cX7_swap, 5, 3, 108, (some .int), "swap", 0, 0)
theorem d_X7_swap_0 : zDc M_X7_swap 0 (.iload_n 1) 1 1 := ⟨by decide +kernel, rfl⟩
theorem d_X7_swap_1 : zDj M_X7_swap 1 (.ifCond .ge 5) 5 4 6 := ⟨by decide +kernel, rfl, by decide⟩
theorem d_X7_swap_4 : zDc M_X7_swap 4 (.iconst (-1)) 1 5 := ⟨by decide +kernel, rfl⟩
theorem d_X7_swap_5 : zDc M_X7_swap 5 (.ireturn) 1 6 := ⟨by decide +kernel, rfl⟩
theorem d_X7_swap_6 : zDc M_X7_swap 6 (.iload_n 1) 1 7 := ⟨by decide +kernel, rfl⟩
theorem d_X7_swap_7 : zDc M_X7_swap 7 (.istore_n 2) 1 8 := ⟨by decide +kernel, rfl⟩
theorem d_X7_swap_8 : zDc M_X7_swap 8 (.iconst 0) 1 9 := ⟨by decide +kernel, rfl⟩
theorem d_X7_swap_9 : zDc M_X7_swap 9 (.istore_n 3) 1 10 := ⟨by decide +kernel, rfl⟩
theorem d_X7_swap_10 : zDc M_X7_swap 10 (.iload_n 3) 1 11 := ⟨by decide +kernel, rfl⟩
theorem d_X7_swap_11 : zDc M_X7_swap 11 (.aload_n 0) 1 12 := ⟨by decide +kernel, rfl⟩
theorem d_X7_swap_12 : zDc M_X7_swap 12 (.getfield 29) 3 15 := ⟨by decide +kernel, rfl⟩
theorem d_X7_swap_15 : zDc M_X7_swap 15 (.getfield 109) 3 18 := ⟨by decide +kernel, rfl⟩
theorem d_X7_swap_18 : zDj M_X7_swap 18 (.if_icmp .ge 60) 60 21 78 := ⟨by decide +kernel, rfl, by decide⟩
theorem d_X7_swap_21 : zDc M_X7_swap 21 (.iload_n 3) 1 22 := ⟨by decide +kernel, rfl⟩
theorem d_X7_swap_22 : zDc M_X7_swap 22 (.iconst 1) 1 23 := ⟨by decide +kernel, rfl⟩
theorem d_X7_swap_23 : zDc M_X7_swap 23 (.iadd) 1 24 := ⟨by decide +kernel, rfl⟩
theorem d_X7_swap_24 : zDc M_X7_swap 24 (.istore 4) 2 26 := ⟨by decide +kernel, rfl⟩
theorem d_X7_swap_26 : zDc M_X7_swap 26 (.iload 4) 2 28 := ⟨by decide +kernel, rfl⟩
theorem d_X7_swap_28 : zDc M_X7_swap 28 (.aload_n 0) 1 29 := ⟨by decide +kernel, rfl⟩
theorem d_X7_swap_29 : zDc M_X7_swap 29 (.getfield 29) 3 32 := ⟨by decide +kernel, rfl⟩
theorem d_X7_swap_32 : zDc M_X7_swap 32 (.getfield 109) 3 35 := ⟨by decide +kernel, rfl⟩
theorem d_X7_swap_35 : zDj M_X7_swap 35 (.if_icmp .ge 37) 37 38 72 := ⟨by decide +kernel, rfl, by decide⟩
theorem d_X7_swap_38 : zDc M_X7_swap 38 (.aload_n 0) 1 39 := ⟨by decide +kernel, rfl⟩
theorem d_X7_swap_39 : zDc M_X7_swap 39 (.getfield 38) 3 42 := ⟨by decide +kernel, rfl⟩
theorem d_X7_swap_42 : zDc M_X7_swap 42 (.iload_n 3) 1 43 := ⟨by decide +kernel, rfl⟩
theorem d_X7_swap_43 : zDc M_X7_swap 43 (.iload 4) 2 45 := ⟨by decide +kernel, rfl⟩
theorem d_X7_swap_45 : zDc M_X7_swap 45 (.invokevirtual 272) 3 48 := ⟨by decide +kernel, rfl⟩
theorem d_X7_swap_48 : zDj M_X7_swap 48 (.ifCond .eq 18) 18 51 66 := ⟨by decide +kernel, rfl, by decide⟩
theorem d_X7_swap_51 : zDc M_X7_swap 51 (.iload_n 2) 1 52 := ⟨by decide +kernel, rfl⟩
theorem d_X7_swap_52 : zDj M_X7_swap 52 (.ifCond .ne 11) 11 55 63 := ⟨by decide +kernel, rfl, by decide⟩
theorem d_X7_swap_55 : zDc M_X7_swap 55 (.bipush 10) 2 57 := ⟨by decide +kernel, rfl⟩
theorem d_X7_swap_57 : zDc M_X7_swap 57 (.iload_n 3) 1 58 := ⟨by decide +kernel, rfl⟩
theorem d_X7_swap_58 : zDc M_X7_swap 58 (.imul) 1 59 := ⟨by decide +kernel, rfl⟩
theorem d_X7_swap_59 : zDc M_X7_swap 59 (.iload 4) 2 61 := ⟨by decide +kernel, rfl⟩
theorem d_X7_swap_61 : zDc M_X7_swap 61 (.iadd) 1 62 := ⟨by decide +kernel, rfl⟩
theorem d_X7_swap_62 : zDc M_X7_swap 62 (.ireturn) 1 63 := ⟨by decide +kernel, rfl⟩
theorem d_X7_swap_63 : zDc M_X7_swap 63 (.iinc 2 (-1)) 3 66 := ⟨by decide +kernel, rfl⟩
theorem d_X7_swap_66 : zDc M_X7_swap 66 (.iinc 4 1) 3 69 := ⟨by decide +kernel, rfl⟩
theorem d_X7_swap_69 : zDj M_X7_swap 69 (.goto (-43)) (-43) 72 26 := ⟨by decide +kernel, rfl, by decide⟩
theorem d_X7_swap_72 : zDc M_X7_swap 72 (.iinc 3 1) 3 75 := ⟨by decide +kernel, rfl⟩
theorem d_X7_swap_75 : zDj M_X7_swap 75 (.goto (-65)) (-65) 78 10 := ⟨by decide +kernel, rfl, by decide⟩
theorem d_X7_swap_78 : zDc M_X7_swap 78 (.bipush (-2)) 2 80 := ⟨by decide +kernel, rfl⟩
theorem d_X7_swap_80 : zDc M_X7_swap 80 (.ireturn) 1 81 := ⟨by decide +kernel, rfl⟩
def f_X7_swap (a0 : Nat) (a1 : Int32) (h0 : zHp) : Option (Int32 × zHp) :=
  if 0 ≤ a1 then
  zbd (
  zlp (σ := (Int32 × Int32)) (β := ((Int32 × Int32) ⊕ Int32)) zLF (fun s1 h2 =>
  zob (zgR h2 a0 7 3) (fun v5 =>
  zob (zgI h2 v5 6 14) (fun v6 =>
  if v6 ≤ s1.2 then
  some ((.inr (.inl (s1.1, s1.2))), h2)
  else
  zbd (
  zlp (σ := (Int32 × Int32)) (β := ((Int32 × Int32) ⊕ ((Int32 × Int32) ⊕ ((Int32 × Int32) ⊕ Int32)))) zLF (fun s7 h8 =>
  zob (zgR h8 a0 7 3) (fun v11 =>
  zob (zgI h8 v11 6 14) (fun v12 =>
  if v12 ≤ s7.2 then
  some ((.inr (.inl (s7.1, s7.2))), h8)
  else
  zob (zgR h8 a0 7 4) (fun v13 =>
  zbd (zcv 5 v13 h8 (f_X5_wouldSwap v13 s1.2 s7.2 h8)) (fun v15 h14 =>
  if v15 = 0 then
  some ((.inl (s7.1, (s7.2 + 1))), h14)
  else
  if s7.1 = 0 then
  some ((.inr (.inr (.inr (.inr ((10 * s1.2) + s7.2))))), h14)
  else
  some ((.inl ((s7.1 + (-1)), (s7.2 + 1))), h14)))))) (s1.1, (s1.2 + 1)) h2) (fun b16 h10 => zsl b16 (fun e9 =>
  some ((.inl (e9.1, (s1.2 + 1))), h10)) (fun r => some (r, h10)))))) (a1, 0) h0) (fun b17 h4 => zsl b17 (fun e3 =>
  some ((-2), h4)) (fun r => some (r, h4)))
  else
  some ((-1), h0)
set_option maxRecDepth 100000 in
set_option maxHeartbeats 4000000 in
theorem t_X7_swap (a0 : Nat) (a1 : Int32) (h0 : zHp) : ∀ (r : Int32) (h' : zHp), f_X7_swap a0 a1 h0 = some (r, h') → zCt yX7_swap (.code yX7_swap cX7_swap 5 (some .int)) 3 108 0 0 [.ref a0, .int a1] h0 (some (.int r)) h' := by
  refine zct_of M_X7_swap yX7_swap (by decide) rfl rfl [.ref a0, .int a1] h0 (Nat.le_of_ble_eq_true rfl) (fun r => some (.int r)) (fun X => ?_)
  show zG X M_X7_swap (0, 0) 0 [(0, .ref a0), (1, .int a1)] [] h0 (f_X7_swap a0 a1 h0) (fun (r : Int32) h' => zKe X (some (.int r)) h')
  unfold f_X7_swap
  refine zg_iload_n 1 rfl d_X7_swap_0 ?_
  refine zg_if_ge d_X7_swap_1 ?_ ?_
  · refine zg_iload_n 1 rfl d_X7_swap_6 ?_
    refine zg_istore_n [(2, .int a1), (0, .ref a0), (1, .int a1)] d_X7_swap_7 rfl (by decide) rfl ?_
    refine zg_iconst 0 rfl d_X7_swap_8 ?_
    refine zg_istore_n [(3, .int 0), (2, .int a1), (0, .ref a0), (1, .int a1)] d_X7_swap_9 rfl (by decide) rfl ?_
    refine zg_bdr (E := 78) (el := (fun (e3 : (Int32 × Int32)) => [(0, .ref a0), (1, .int a1), (2, .int e3.1), (3, .int e3.2)])) (es := fun _ => []) (zg_sub [2, 3, 1, 0] rfl (zg_lp (el := (fun (s1 : (Int32 × Int32)) => [(0, .ref a0), (1, .int a1), (2, .int s1.1), (3, .int s1.2)])) (fun s1 h2 => ?_) (a1, 0) h0)) (fun e3 h4 => ?_)
    · refine zg_iload_n 3 rfl d_X7_swap_10 ?_
      refine zg_aload_n 0 rfl d_X7_swap_11 ?_
      refine zg_getR d_X7_swap_12 zc_7 (by decide) fl_X7_29 (fun v5 => ?_)
      refine zg_getI d_X7_swap_15 zc_6 (by decide) fl_X7_109 (fun v6 => ?_)
      refine zg_icmp_ge d_X7_swap_18 ?_ ?_
      · exact zg_finK (E := 0) [0, 1, 2, 3] rfl rfl (fun q => q)
      · refine zg_iload_n 3 rfl d_X7_swap_21 ?_
        refine zg_iconst 1 rfl d_X7_swap_22 ?_
        refine zg_iadd d_X7_swap_23 ?_
        refine zg_istore [(4, .int (s1.2 + 1)), (0, .ref a0), (1, .int a1), (2, .int s1.1), (3, .int s1.2)] d_X7_swap_24 (by decide) rfl ?_
        refine zg_bdr (E := 72) (el := (fun (e9 : (Int32 × Int32)) => [(0, .ref a0), (1, .int a1), (2, .int e9.1), (3, .int s1.2), (4, .int e9.2)])) (es := fun _ => []) (zg_sub [1, 2, 3, 4, 0] rfl (zg_lp (el := (fun (s7 : (Int32 × Int32)) => [(0, .ref a0), (1, .int a1), (2, .int s7.1), (3, .int s1.2), (4, .int s7.2)])) (fun s7 h8 => ?_) (s1.1, (s1.2 + 1)) h2)) (fun e9 h10 => ?_)
        · refine zg_iload 4 rfl d_X7_swap_26 ?_
          refine zg_aload_n 0 rfl d_X7_swap_28 ?_
          refine zg_getR d_X7_swap_29 zc_7 (by decide) fl_X7_29 (fun v11 => ?_)
          refine zg_getI d_X7_swap_32 zc_6 (by decide) fl_X7_109 (fun v12 => ?_)
          refine zg_icmp_ge d_X7_swap_35 ?_ ?_
          · exact zg_finK (E := 0) [0, 1, 2, 3, 4] rfl rfl (fun q => q)
          · refine zg_aload_n 0 rfl d_X7_swap_38 ?_
            refine zg_getR d_X7_swap_39 zc_7 (by decide) fl_X7_38 (fun v13 => ?_)
            refine zg_iload_n 3 rfl d_X7_swap_42 ?_
            refine zg_iload 4 rfl d_X7_swap_43 ?_
            refine zg_cVi (b := v13) (As := [.int s1.2, .int s7.2]) (rest := []) (0, 0) d_X7_swap_45 zc_5 rfl cw_X7_272 wi_X5_wouldSwap ws_X5_wouldSwap rfl rfl (Nat.le_of_ble_eq_true rfl) (by decide) (by decide) ⟨by decide, by decide⟩ rfl (t_X5_wouldSwap v13 s1.2 s7.2 h8) (fun v15 h14 => ?_)
            refine zg_if_eq d_X7_swap_48 ?_ ?_
            · refine zg_iinc 4 (s7.2 + 1) [(4, .int (s7.2 + 1)), (0, .ref a0), (1, .int a1), (2, .int s7.1), (3, .int s1.2)] d_X7_swap_66 rfl rfl (by decide) rfl ?_
              refine zg_goto d_X7_swap_69 ?_
              exact zg_finK (E := 0) [1, 2, 3, 4, 0] rfl rfl (fun q => q)
            · refine zg_iload_n 2 rfl d_X7_swap_51 ?_
              refine zg_if_ne d_X7_swap_52 ?_ ?_
              · refine zg_bipush 10 rfl d_X7_swap_55 ?_
                refine zg_iload_n 3 rfl d_X7_swap_57 ?_
                refine zg_imul d_X7_swap_58 ?_
                refine zg_iload 4 rfl d_X7_swap_59 ?_
                refine zg_iadd d_X7_swap_61 ?_
                exact zg_iretK d_X7_swap_62 rfl ⟨Nat.le_of_ble_eq_true rfl, Nat.le_of_ble_eq_true rfl⟩ (fun q => q)
              · refine zg_iinc 2 (s7.1 + (-1)) [(2, .int (s7.1 + (-1))), (0, .ref a0), (1, .int a1), (3, .int s1.2), (4, .int s7.2)] d_X7_swap_63 rfl rfl (by decide) rfl ?_
                refine zg_iinc 4 (s7.2 + 1) [(4, .int (s7.2 + 1)), (2, .int (s7.1 + (-1))), (0, .ref a0), (1, .int a1), (3, .int s1.2)] d_X7_swap_66 rfl rfl (by decide) rfl ?_
                refine zg_goto d_X7_swap_69 ?_
                exact zg_finK (E := 0) [2, 3, 1, 4, 0] rfl rfl (fun q => q)
        · refine zg_iinc 3 (s1.2 + 1) [(3, .int (s1.2 + 1)), (0, .ref a0), (1, .int a1), (2, .int e9.1), (4, .int e9.2)] d_X7_swap_72 rfl rfl (by decide) rfl ?_
          refine zg_goto d_X7_swap_75 ?_
          exact zg_finK (E := 0) [1, 2, 3, 0] rfl rfl (fun q => q)
    · refine zg_bipush (-2) rfl d_X7_swap_78 ?_
      exact zg_iretK d_X7_swap_80 rfl ⟨Nat.le_of_ble_eq_true rfl, Nat.le_of_ble_eq_true rfl⟩ (fun q => q)
  · refine zg_iconst (-1) rfl d_X7_swap_4 ?_
    exact zg_iretK d_X7_swap_5 rfl ⟨Nat.le_of_ble_eq_true rfl, Nat.le_of_ble_eq_true rfl⟩ (fun q => q)
abbrev M_X7_swaps : zMt := (RX7, cX7_swaps, 4, 3, 108, (some .int), "swaps", 0, 0)
theorem d_X7_swaps_0 : zDc M_X7_swaps 0 (.iconst 0) 1 1 := ⟨by decide +kernel, rfl⟩
theorem d_X7_swaps_1 : zDc M_X7_swaps 1 (.istore_n 1) 1 2 := ⟨by decide +kernel, rfl⟩
theorem d_X7_swaps_2 : zDc M_X7_swaps 2 (.iconst 0) 1 3 := ⟨by decide +kernel, rfl⟩
theorem d_X7_swaps_3 : zDc M_X7_swaps 3 (.istore_n 2) 1 4 := ⟨by decide +kernel, rfl⟩
theorem d_X7_swaps_4 : zDc M_X7_swaps 4 (.iload_n 2) 1 5 := ⟨by decide +kernel, rfl⟩
theorem d_X7_swaps_5 : zDc M_X7_swaps 5 (.aload_n 0) 1 6 := ⟨by decide +kernel, rfl⟩
theorem d_X7_swaps_6 : zDc M_X7_swaps 6 (.getfield 29) 3 9 := ⟨by decide +kernel, rfl⟩
theorem d_X7_swaps_9 : zDc M_X7_swaps 9 (.getfield 109) 3 12 := ⟨by decide +kernel, rfl⟩
theorem d_X7_swaps_12 : zDj M_X7_swaps 12 (.if_icmp .ge 45) 45 15 57 := ⟨by decide +kernel, rfl, by decide⟩
theorem d_X7_swaps_15 : zDc M_X7_swaps 15 (.iload_n 2) 1 16 := ⟨by decide +kernel, rfl⟩
theorem d_X7_swaps_16 : zDc M_X7_swaps 16 (.iconst 1) 1 17 := ⟨by decide +kernel, rfl⟩
theorem d_X7_swaps_17 : zDc M_X7_swaps 17 (.iadd) 1 18 := ⟨by decide +kernel, rfl⟩
theorem d_X7_swaps_18 : zDc M_X7_swaps 18 (.istore_n 3) 1 19 := ⟨by decide +kernel, rfl⟩
theorem d_X7_swaps_19 : zDc M_X7_swaps 19 (.iload_n 3) 1 20 := ⟨by decide +kernel, rfl⟩
theorem d_X7_swaps_20 : zDc M_X7_swaps 20 (.aload_n 0) 1 21 := ⟨by decide +kernel, rfl⟩
theorem d_X7_swaps_21 : zDc M_X7_swaps 21 (.getfield 29) 3 24 := ⟨by decide +kernel, rfl⟩
theorem d_X7_swaps_24 : zDc M_X7_swaps 24 (.getfield 109) 3 27 := ⟨by decide +kernel, rfl⟩
theorem d_X7_swaps_27 : zDj M_X7_swaps 27 (.if_icmp .ge 24) 24 30 51 := ⟨by decide +kernel, rfl, by decide⟩
theorem d_X7_swaps_30 : zDc M_X7_swaps 30 (.aload_n 0) 1 31 := ⟨by decide +kernel, rfl⟩
theorem d_X7_swaps_31 : zDc M_X7_swaps 31 (.getfield 38) 3 34 := ⟨by decide +kernel, rfl⟩
theorem d_X7_swaps_34 : zDc M_X7_swaps 34 (.iload_n 2) 1 35 := ⟨by decide +kernel, rfl⟩
theorem d_X7_swaps_35 : zDc M_X7_swaps 35 (.iload_n 3) 1 36 := ⟨by decide +kernel, rfl⟩
theorem d_X7_swaps_36 : zDc M_X7_swaps 36 (.invokevirtual 272) 3 39 := ⟨by decide +kernel, rfl⟩
theorem d_X7_swaps_39 : zDj M_X7_swaps 39 (.ifCond .eq 6) 6 42 45 := ⟨by decide +kernel, rfl, by decide⟩
theorem d_X7_swaps_42 : zDc M_X7_swaps 42 (.iinc 1 1) 3 45 := ⟨by decide +kernel, rfl⟩
theorem d_X7_swaps_45 : zDc M_X7_swaps 45 (.iinc 3 1) 3 48 := ⟨by decide +kernel, rfl⟩
theorem d_X7_swaps_48 : zDj M_X7_swaps 48 (.goto (-29)) (-29) 51 19 := ⟨by decide +kernel, rfl, by decide⟩
theorem d_X7_swaps_51 : zDc M_X7_swaps 51 (.iinc 2 1) 3 54 := ⟨by decide +kernel, rfl⟩
theorem d_X7_swaps_54 : zDj M_X7_swaps 54 (.goto (-50)) (-50) 57 4 := ⟨by decide +kernel, rfl, by decide⟩
theorem d_X7_swaps_57 : zDc M_X7_swaps 57 (.iload_n 1) 1 58 := ⟨by decide +kernel, rfl⟩
theorem d_X7_swaps_58 : zDc M_X7_swaps 58 (.ireturn) 1 59 := ⟨by decide +kernel, rfl⟩
def f_X7_swaps (a0 : Nat) (h0 : zHp) : Option (Int32 × zHp) :=
  zbd (
  zlp (σ := (Int32 × Int32)) (β := (Int32 × Int32)) zLF (fun s1 h2 =>
  zob (zgR h2 a0 7 3) (fun v5 =>
  zob (zgI h2 v5 6 14) (fun v6 =>
  if v6 ≤ s1.2 then
  some ((.inr (s1.1, s1.2)), h2)
  else
  zbd (
  zlp (σ := (Int32 × Int32)) (β := (Int32 × Int32)) zLF (fun s7 h8 =>
  zob (zgR h8 a0 7 3) (fun v11 =>
  zob (zgI h8 v11 6 14) (fun v12 =>
  if v12 ≤ s7.2 then
  some ((.inr (s7.1, s7.2)), h8)
  else
  zob (zgR h8 a0 7 4) (fun v13 =>
  zbd (zcv 5 v13 h8 (f_X5_wouldSwap v13 s1.2 s7.2 h8)) (fun v15 h14 =>
  if v15 = 0 then
  some ((.inl (s7.1, (s7.2 + 1))), h14)
  else
  some ((.inl ((s7.1 + 1), (s7.2 + 1))), h14)))))) (s1.1, (s1.2 + 1)) h2) (fun e9 h10 =>
  some ((.inl (e9.1, (s1.2 + 1))), h10))))) (0, 0) h0) (fun e3 h4 =>
  some (e3.1, h4))
set_option maxRecDepth 100000 in
set_option maxHeartbeats 4000000 in
theorem t_X7_swaps (a0 : Nat) (h0 : zHp) : ∀ (r : Int32) (h' : zHp), f_X7_swaps a0 h0 = some (r, h') → zCt yX7_swaps (.code yX7_swaps cX7_swaps 4 (some .int)) 3 108 0 0 [.ref a0] h0 (some (.int r)) h' := by
  refine zct_of M_X7_swaps yX7_swaps (by decide) rfl rfl [.ref a0] h0 (Nat.le_of_ble_eq_true rfl) (fun r => some (.int r)) (fun X => ?_)
  show zG X M_X7_swaps (0, 0) 0 [(0, .ref a0)] [] h0 (f_X7_swaps a0 h0) (fun (r : Int32) h' => zKe X (some (.int r)) h')
  unfold f_X7_swaps
  refine zg_iconst 0 rfl d_X7_swaps_0 ?_
  refine zg_istore_n [(1, .int 0), (0, .ref a0)] d_X7_swaps_1 rfl (by decide) rfl ?_
  refine zg_iconst 0 rfl d_X7_swaps_2 ?_
  refine zg_istore_n [(2, .int 0), (1, .int 0), (0, .ref a0)] d_X7_swaps_3 rfl (by decide) rfl ?_
  refine zg_bd (E := 57) (el := (fun (e3 : (Int32 × Int32)) => [(0, .ref a0), (1, .int e3.1), (2, .int e3.2)])) (es := fun _ => []) (zg_sub [2, 1, 0] rfl (zg_lp (el := (fun (s1 : (Int32 × Int32)) => [(0, .ref a0), (1, .int s1.1), (2, .int s1.2)])) (fun s1 h2 => ?_) (0, 0) h0)) (fun e3 h4 => ?_)
  · refine zg_iload_n 2 rfl d_X7_swaps_4 ?_
    refine zg_aload_n 0 rfl d_X7_swaps_5 ?_
    refine zg_getR d_X7_swaps_6 zc_7 (by decide) fl_X7_29 (fun v5 => ?_)
    refine zg_getI d_X7_swaps_9 zc_6 (by decide) fl_X7_109 (fun v6 => ?_)
    refine zg_icmp_ge d_X7_swaps_12 ?_ ?_
    · exact zg_finK (E := 0) [0, 1, 2] rfl rfl (fun q => q)
    · refine zg_iload_n 2 rfl d_X7_swaps_15 ?_
      refine zg_iconst 1 rfl d_X7_swaps_16 ?_
      refine zg_iadd d_X7_swaps_17 ?_
      refine zg_istore_n [(3, .int (s1.2 + 1)), (0, .ref a0), (1, .int s1.1), (2, .int s1.2)] d_X7_swaps_18 rfl (by decide) rfl ?_
      refine zg_bd (E := 51) (el := (fun (e9 : (Int32 × Int32)) => [(0, .ref a0), (1, .int e9.1), (2, .int s1.2), (3, .int e9.2)])) (es := fun _ => []) (zg_sub [1, 2, 3, 0] rfl (zg_lp (el := (fun (s7 : (Int32 × Int32)) => [(0, .ref a0), (1, .int s7.1), (2, .int s1.2), (3, .int s7.2)])) (fun s7 h8 => ?_) (s1.1, (s1.2 + 1)) h2)) (fun e9 h10 => ?_)
      · refine zg_iload_n 3 rfl d_X7_swaps_19 ?_
        refine zg_aload_n 0 rfl d_X7_swaps_20 ?_
        refine zg_getR d_X7_swaps_21 zc_7 (by decide) fl_X7_29 (fun v11 => ?_)
        refine zg_getI d_X7_swaps_24 zc_6 (by decide) fl_X7_109 (fun v12 => ?_)
        refine zg_icmp_ge d_X7_swaps_27 ?_ ?_
        · exact zg_finK (E := 0) [0, 1, 2, 3] rfl rfl (fun q => q)
        · refine zg_aload_n 0 rfl d_X7_swaps_30 ?_
          refine zg_getR d_X7_swaps_31 zc_7 (by decide) fl_X7_38 (fun v13 => ?_)
          refine zg_iload_n 2 rfl d_X7_swaps_34 ?_
          refine zg_iload_n 3 rfl d_X7_swaps_35 ?_
          refine zg_cVi (b := v13) (As := [.int s1.2, .int s7.2]) (rest := []) (0, 0) d_X7_swaps_36 zc_5 rfl cw_X7_272 wi_X5_wouldSwap ws_X5_wouldSwap rfl rfl (Nat.le_of_ble_eq_true rfl) (by decide) (by decide) ⟨by decide, by decide⟩ rfl (t_X5_wouldSwap v13 s1.2 s7.2 h8) (fun v15 h14 => ?_)
          refine zg_if_eq d_X7_swaps_39 ?_ ?_
          · refine zg_iinc 3 (s7.2 + 1) [(3, .int (s7.2 + 1)), (0, .ref a0), (1, .int s7.1), (2, .int s1.2)] d_X7_swaps_45 rfl rfl (by decide) rfl ?_
            refine zg_goto d_X7_swaps_48 ?_
            exact zg_finK (E := 0) [1, 2, 3, 0] rfl rfl (fun q => q)
          · refine zg_iinc 1 (s7.1 + 1) [(1, .int (s7.1 + 1)), (0, .ref a0), (2, .int s1.2), (3, .int s7.2)] d_X7_swaps_42 rfl rfl (by decide) rfl ?_
            refine zg_iinc 3 (s7.2 + 1) [(3, .int (s7.2 + 1)), (1, .int (s7.1 + 1)), (0, .ref a0), (2, .int s1.2)] d_X7_swaps_45 rfl rfl (by decide) rfl ?_
            refine zg_goto d_X7_swaps_48 ?_
            exact zg_finK (E := 0) [2, 1, 3, 0] rfl rfl (fun q => q)
      · refine zg_iinc 2 (s1.2 + 1) [(2, .int (s1.2 + 1)), (0, .ref a0), (1, .int e9.1), (3, .int e9.2)] d_X7_swaps_51 rfl rfl (by decide) rfl ?_
        refine zg_goto d_X7_swaps_54 ?_
        exact zg_finK (E := 0) [1, 2, 0] rfl rfl (fun q => q)
  · refine zg_iload_n 1 rfl d_X7_swaps_57 ?_
    exact zg_iretK d_X7_swaps_58 rfl ⟨Nat.le_of_ble_eq_true rfl, Nat.le_of_ble_eq_true rfl⟩ (fun q => q)
abbrev M_X7_text : zMt := (RX7, cX7_text, 3, 8, 214, (some .int), "text", 0, 0)
theorem d_X7_text_0 : zDc M_X7_text 0 (.iload_n 1) 1 1 := ⟨by decide +kernel, rfl⟩
theorem d_X7_text_1 : zDj M_X7_text 1 (.ifCond .lt 11) 11 4 12 := ⟨by decide +kernel, rfl, by decide⟩
theorem d_X7_text_4 : zDc M_X7_text 4 (.iload_n 1) 1 5 := ⟨by decide +kernel, rfl⟩
theorem d_X7_text_5 : zDc M_X7_text 5 (.aload_n 0) 1 6 := ⟨by decide +kernel, rfl⟩
theorem d_X7_text_6 : zDc M_X7_text 6 (.getfield 15) 3 9 := ⟨by decide +kernel, rfl⟩
theorem d_X7_text_9 : zDj M_X7_text 9 (.if_icmp .le 6) 6 12 15 := ⟨by decide +kernel, rfl, by decide⟩
theorem d_X7_text_12 : zDc M_X7_text 12 (.bipush (-2)) 2 14 := ⟨by decide +kernel, rfl⟩
theorem d_X7_text_14 : zDc M_X7_text 14 (.ireturn) 1 15 := ⟨by decide +kernel, rfl⟩
theorem d_X7_text_15 : zDc M_X7_text 15 (.aload_n 0) 1 16 := ⟨by decide +kernel, rfl⟩
theorem d_X7_text_16 : zDc M_X7_text 16 (.iconst 0) 1 17 := ⟨by decide +kernel, rfl⟩
theorem d_X7_text_17 : zDc M_X7_text 17 (.putfield 15) 3 20 := ⟨by decide +kernel, rfl⟩
theorem d_X7_text_20 : zDc M_X7_text 20 (.aload_n 0) 1 21 := ⟨by decide +kernel, rfl⟩
theorem d_X7_text_21 : zDc M_X7_text 21 (.getfield 22) 3 24 := ⟨by decide +kernel, rfl⟩
theorem d_X7_text_24 : zDc M_X7_text 24 (.aload_n 0) 1 25 := ⟨by decide +kernel, rfl⟩
theorem d_X7_text_25 : zDc M_X7_text 25 (.getfield 11) 3 28 := ⟨by decide +kernel, rfl⟩
theorem d_X7_text_28 : zDc M_X7_text 28 (.iload_n 1) 1 29 := ⟨by decide +kernel, rfl⟩
theorem d_X7_text_29 : zDc M_X7_text 29 (.invokevirtual 74) 3 32 := ⟨by decide +kernel, rfl⟩
theorem d_X7_text_32 : zDc M_X7_text 32 (.istore_n 2) 1 33 := ⟨by decide +kernel, rfl⟩
theorem d_X7_text_33 : zDc M_X7_text 33 (.iload_n 2) 1 34 := ⟨by decide +kernel, rfl⟩
theorem d_X7_text_34 : zDc M_X7_text 34 (.iconst (-1)) 1 35 := ⟨by decide +kernel, rfl⟩
theorem d_X7_text_35 : zDj M_X7_text 35 (.if_icmp .ne 5) 5 38 40 := ⟨by decide +kernel, rfl, by decide⟩
theorem d_X7_text_38 : zDc M_X7_text 38 (.iconst (-1)) 1 39 := ⟨by decide +kernel, rfl⟩
theorem d_X7_text_39 : zDc M_X7_text 39 (.ireturn) 1 40 := ⟨by decide +kernel, rfl⟩
theorem d_X7_text_40 : zDc M_X7_text 40 (.aload_n 0) 1 41 := ⟨by decide +kernel, rfl⟩
theorem d_X7_text_41 : zDc M_X7_text 41 (.aload_n 0) 1 42 := ⟨by decide +kernel, rfl⟩
theorem d_X7_text_42 : zDc M_X7_text 42 (.getfield 22) 3 45 := ⟨by decide +kernel, rfl⟩
theorem d_X7_text_45 : zDc M_X7_text 45 (.aload_n 0) 1 46 := ⟨by decide +kernel, rfl⟩
theorem d_X7_text_46 : zDc M_X7_text 46 (.getfield 29) 3 49 := ⟨by decide +kernel, rfl⟩
theorem d_X7_text_49 : zDc M_X7_text 49 (.invokevirtual 78) 3 52 := ⟨by decide +kernel, rfl⟩
theorem d_X7_text_52 : zDc M_X7_text 52 (.putfield 29) 3 55 := ⟨by decide +kernel, rfl⟩
theorem d_X7_text_55 : zDc M_X7_text 55 (.aload_n 0) 1 56 := ⟨by decide +kernel, rfl⟩
theorem d_X7_text_56 : zDc M_X7_text 56 (.getfield 38) 3 59 := ⟨by decide +kernel, rfl⟩
theorem d_X7_text_59 : zDc M_X7_text 59 (.aload_n 0) 1 60 := ⟨by decide +kernel, rfl⟩
theorem d_X7_text_60 : zDc M_X7_text 60 (.getfield 29) 3 63 := ⟨by decide +kernel, rfl⟩
theorem d_X7_text_63 : zDc M_X7_text 63 (.invokevirtual 82) 3 66 := ⟨by decide +kernel, rfl⟩
theorem d_X7_text_66 : zDc M_X7_text 66 (.aload_n 0) 1 67 := ⟨by decide +kernel, rfl⟩
theorem d_X7_text_67 : zDc M_X7_text 67 (.getfield 59) 3 70 := ⟨by decide +kernel, rfl⟩
theorem d_X7_text_70 : zDc M_X7_text 70 (.invokevirtual 85) 3 73 := ⟨by decide +kernel, rfl⟩
theorem d_X7_text_73 : zDc M_X7_text 73 (.aload_n 0) 1 74 := ⟨by decide +kernel, rfl⟩
theorem d_X7_text_74 : zDc M_X7_text 74 (.getfield 52) 3 77 := ⟨by decide +kernel, rfl⟩
theorem d_X7_text_77 : zDc M_X7_text 77 (.invokevirtual 88) 3 80 := ⟨by decide +kernel, rfl⟩
theorem d_X7_text_80 : zDc M_X7_text 80 (.aload_n 0) 1 81 := ⟨by decide +kernel, rfl⟩
theorem d_X7_text_81 : zDc M_X7_text 81 (.iconst 0) 1 82 := ⟨by decide +kernel, rfl⟩
theorem d_X7_text_82 : zDc M_X7_text 82 (.putfield 45) 3 85 := ⟨by decide +kernel, rfl⟩
theorem d_X7_text_85 : zDc M_X7_text 85 (.iload_n 2) 1 86 := ⟨by decide +kernel, rfl⟩
theorem d_X7_text_86 : zDc M_X7_text 86 (.ireturn) 1 87 := ⟨by decide +kernel, rfl⟩
def f_X7_text (a0 : Nat) (a1 : Int32) (h0 : zHp) : Option (Int32 × zHp) :=
  if a1 < 0 then
  some ((-2), h0)
  else
  zob (zgI h0 a0 7 1) (fun v1 =>
  if a1 ≤ v1 then
  zob (zpV h0 a0 7 1 (.int 0)) (fun h2 =>
  zob (zgR h2 a0 7 2) (fun v3 =>
  zob (zgR h2 a0 7 0) (fun v4 =>
  zbd (zcv 4 v3 h2 (f_X4_readText v3 v4 a1 h2)) (fun v6 h5 =>
  if v6 = (-1) then
  some ((-1), h5)
  else
  zob (zgR h5 a0 7 2) (fun v7 =>
  zob (zgR h5 a0 7 3) (fun v8 =>
  zbd (zcv 4 v7 h5 (f_X4_takeTold v7 v8 h5)) (fun v10 h9 =>
  zob (zpV h9 a0 7 3 (.ref v10)) (fun h11 =>
  zob (zgR h11 a0 7 4) (fun v12 =>
  zob (zgR h11 a0 7 3) (fun v13 =>
  zbd (zcv 5 v12 h11 (f_X5_startOf v12 v13 h11)) (fun v15 h14 =>
  zob (zgR h14 a0 7 8) (fun v16 =>
  zbd (zcv 3 v16 h14 (f_X3_forget v16 h14)) (fun v18 h17 =>
  zob (zgR h17 a0 7 7) (fun v19 =>
  zbd (zcv 0 v19 h17 (f_X0_forget v19 h17)) (fun v21 h20 =>
  zob (zpV h20 a0 7 6 (.int 0)) (fun h22 =>
  some (v6, h22)))))))))))))))))
  else
  some ((-2), h0))
set_option maxRecDepth 100000 in
set_option maxHeartbeats 4000000 in
theorem t_X7_text (a0 : Nat) (a1 : Int32) (h0 : zHp) : ∀ (r : Int32) (h' : zHp), f_X7_text a0 a1 h0 = some (r, h') → zCt yX7_text (.code yX7_text cX7_text 3 (some .int)) 8 214 0 0 [.ref a0, .int a1] h0 (some (.int r)) h' := by
  refine zct_of M_X7_text yX7_text (by decide) rfl rfl [.ref a0, .int a1] h0 (Nat.le_of_ble_eq_true rfl) (fun r => some (.int r)) (fun X => ?_)
  show zG X M_X7_text (0, 0) 0 [(0, .ref a0), (1, .int a1)] [] h0 (f_X7_text a0 a1 h0) (fun (r : Int32) h' => zKe X (some (.int r)) h')
  unfold f_X7_text
  refine zg_iload_n 1 rfl d_X7_text_0 ?_
  refine zg_if_lt d_X7_text_1 ?_ ?_
  · refine zg_bipush (-2) rfl d_X7_text_12 ?_
    exact zg_iretK d_X7_text_14 rfl ⟨Nat.le_of_ble_eq_true rfl, Nat.le_of_ble_eq_true rfl⟩ (fun q => q)
  · refine zg_iload_n 1 rfl d_X7_text_4 ?_
    refine zg_aload_n 0 rfl d_X7_text_5 ?_
    refine zg_getI d_X7_text_6 zc_7 (by decide) fl_X7_15 (fun v1 => ?_)
    refine zg_icmp_le d_X7_text_9 ?_ ?_
    · refine zg_aload_n 0 rfl d_X7_text_15 ?_
      refine zg_iconst 0 rfl d_X7_text_16 ?_
      refine zg_putV d_X7_text_17 zc_7 (by decide) fl_X7_15 rfl rfl rfl (fun h2 => ?_)
      refine zg_aload_n 0 rfl d_X7_text_20 ?_
      refine zg_getR d_X7_text_21 zc_7 (by decide) fl_X7_22 (fun v3 => ?_)
      refine zg_aload_n 0 rfl d_X7_text_24 ?_
      refine zg_getR d_X7_text_25 zc_7 (by decide) fl_X7_11 (fun v4 => ?_)
      refine zg_iload_n 1 rfl d_X7_text_28 ?_
      refine zg_cVi (b := v3) (As := [.ref v4, .int a1]) (rest := []) (0, 0) d_X7_text_29 zc_4 rfl cw_X7_74 wi_X4_readText ws_X4_readText rfl rfl (Nat.le_of_ble_eq_true rfl) (by decide) (by decide) ⟨by decide, by decide⟩ rfl (t_X4_readText v3 v4 a1 h2) (fun v6 h5 => ?_)
      refine zg_istore_n [(2, .int v6), (0, .ref a0), (1, .int a1)] d_X7_text_32 rfl (by decide) rfl ?_
      refine zg_iload_n 0 rfl d_X7_text_33 ?_
      refine zg_iconst (-1) rfl d_X7_text_34 ?_
      refine zg_icmp_ne d_X7_text_35 ?_ ?_
      · refine zg_iconst (-1) rfl d_X7_text_38 ?_
        exact zg_iretK d_X7_text_39 rfl ⟨Nat.le_of_ble_eq_true rfl, Nat.le_of_ble_eq_true rfl⟩ (fun q => q)
      · refine zg_aload_n 1 rfl d_X7_text_40 ?_
        refine zg_aload_n 1 rfl d_X7_text_41 ?_
        refine zg_getR d_X7_text_42 zc_7 (by decide) fl_X7_22 (fun v7 => ?_)
        refine zg_aload_n 1 rfl d_X7_text_45 ?_
        refine zg_getR d_X7_text_46 zc_7 (by decide) fl_X7_29 (fun v8 => ?_)
        refine zg_cVr (b := v7) (As := [.ref v8]) (rest := [.ref a0]) (0, 0) d_X7_text_49 zc_4 rfl cw_X7_78 wi_X4_takeTold ws_X4_takeTold rfl rfl (Nat.le_of_ble_eq_true rfl) (by decide) (by decide) ⟨by decide, by decide⟩ rfl (t_X4_takeTold v7 v8 h5) (fun v10 h9 => ?_)
        refine zg_putV d_X7_text_52 zc_7 (by decide) fl_X7_29 rfl rfl rfl (fun h11 => ?_)
        refine zg_aload_n 1 rfl d_X7_text_55 ?_
        refine zg_getR d_X7_text_56 zc_7 (by decide) fl_X7_38 (fun v12 => ?_)
        refine zg_aload_n 1 rfl d_X7_text_59 ?_
        refine zg_getR d_X7_text_60 zc_7 (by decide) fl_X7_29 (fun v13 => ?_)
        refine zg_cVv (b := v12) (As := [.ref v13]) (rest := []) (0, 0) d_X7_text_63 zc_5 rfl cw_X7_82 wi_X5_startOf ws_X5_startOf rfl rfl (Nat.le_of_ble_eq_true rfl) (by decide) (by decide) ⟨by decide, by decide⟩ rfl (t_X5_startOf v12 v13 h11) (fun v15 h14 => ?_)
        refine zg_aload_n 1 rfl d_X7_text_66 ?_
        refine zg_getR d_X7_text_67 zc_7 (by decide) fl_X7_59 (fun v16 => ?_)
        refine zg_cVv (b := v16) (As := []) (rest := []) (0, 0) d_X7_text_70 zc_3 rfl cw_X7_85 wi_X3_forget ws_X3_forget rfl rfl (Nat.le_of_ble_eq_true rfl) (by decide) (by decide) ⟨by decide, by decide⟩ rfl (t_X3_forget v16 h14) (fun v18 h17 => ?_)
        refine zg_aload_n 1 rfl d_X7_text_73 ?_
        refine zg_getR d_X7_text_74 zc_7 (by decide) fl_X7_52 (fun v19 => ?_)
        refine zg_cVv (b := v19) (As := []) (rest := []) (0, 0) d_X7_text_77 zc_0 rfl cw_X7_88 wi_X0_forget ws_X0_forget rfl rfl (Nat.le_of_ble_eq_true rfl) (by decide) (by decide) ⟨by decide, by decide⟩ rfl (t_X0_forget v19 h17) (fun v21 h20 => ?_)
        refine zg_aload_n 1 rfl d_X7_text_80 ?_
        refine zg_iconst 0 rfl d_X7_text_81 ?_
        refine zg_putV d_X7_text_82 zc_7 (by decide) fl_X7_45 rfl rfl rfl (fun h22 => ?_)
        refine zg_iload_n 0 rfl d_X7_text_85 ?_
        exact zg_iretK d_X7_text_86 rfl ⟨Nat.le_of_ble_eq_true rfl, Nat.le_of_ble_eq_true rfl⟩ (fun q => q)
    · refine zg_bipush (-2) rfl d_X7_text_12 ?_
      exact zg_iretK d_X7_text_14 rfl ⟨Nat.le_of_ble_eq_true rfl, Nat.le_of_ble_eq_true rfl⟩ (fun q => q)
abbrev M_X7_tried : zMt := (RX7, cX7_tried, 4, 7, 208, (some .int), "tried", 0, 0)
theorem d_X7_tried_0 : zDc M_X7_tried 0 (.iconst 0) 1 1 := ⟨by decide +kernel, rfl⟩
theorem d_X7_tried_1 : zDc M_X7_tried 1 (.iload_n 1) 1 2 := ⟨by decide +kernel, rfl⟩
theorem d_X7_tried_2 : zDc M_X7_tried 2 (.iconst 5) 1 3 := ⟨by decide +kernel, rfl⟩
theorem d_X7_tried_3 : zDc M_X7_tried 3 (.invokestatic 194) 3 6 := ⟨by decide +kernel, rfl⟩
theorem d_X7_tried_6 : zDj M_X7_tried 6 (.ifCond .eq 13) 13 9 19 := ⟨by decide +kernel, rfl, by decide⟩
theorem d_X7_tried_9 : zDc M_X7_tried 9 (.iconst 0) 1 10 := ⟨by decide +kernel, rfl⟩
theorem d_X7_tried_10 : zDc M_X7_tried 10 (.iload_n 3) 1 11 := ⟨by decide +kernel, rfl⟩
theorem d_X7_tried_11 : zDc M_X7_tried 11 (.bipush 60) 2 13 := ⟨by decide +kernel, rfl⟩
theorem d_X7_tried_13 : zDc M_X7_tried 13 (.invokestatic 194) 3 16 := ⟨by decide +kernel, rfl⟩
theorem d_X7_tried_16 : zDj M_X7_tried 16 (.ifCond .ne 5) 5 19 21 := ⟨by decide +kernel, rfl, by decide⟩
theorem d_X7_tried_19 : zDc M_X7_tried 19 (.iconst (-1)) 1 20 := ⟨by decide +kernel, rfl⟩
theorem d_X7_tried_20 : zDc M_X7_tried 20 (.ireturn) 1 21 := ⟨by decide +kernel, rfl⟩
theorem d_X7_tried_21 : zDc M_X7_tried 21 (.iload_n 1) 1 22 := ⟨by decide +kernel, rfl⟩
theorem d_X7_tried_22 : zDc M_X7_tried 22 (.iconst 2) 1 23 := ⟨by decide +kernel, rfl⟩
theorem d_X7_tried_23 : zDj M_X7_tried 23 (.if_icmp .ne 14) 14 26 37 := ⟨by decide +kernel, rfl, by decide⟩
theorem d_X7_tried_26 : zDc M_X7_tried 26 (.aload_n 0) 1 27 := ⟨by decide +kernel, rfl⟩
theorem d_X7_tried_27 : zDc M_X7_tried 27 (.iload_n 2) 1 28 := ⟨by decide +kernel, rfl⟩
theorem d_X7_tried_28 : zDc M_X7_tried 28 (.invokevirtual 118) 3 31 := ⟨by decide +kernel, rfl⟩
theorem d_X7_tried_31 : zDj M_X7_tried 31 (.ifCond .ne 12) 12 34 43 := ⟨by decide +kernel, rfl, by decide⟩
theorem d_X7_tried_34 : zDj M_X7_tried 34 (.goto 7) 7 37 41 := ⟨by decide +kernel, rfl, by decide⟩
theorem d_X7_tried_37 : zDc M_X7_tried 37 (.iload_n 2) 1 38 := ⟨by decide +kernel, rfl⟩
theorem d_X7_tried_38 : zDj M_X7_tried 38 (.ifCond .eq 5) 5 41 43 := ⟨by decide +kernel, rfl, by decide⟩
theorem d_X7_tried_41 : zDc M_X7_tried 41 (.iconst (-1)) 1 42 := ⟨by decide +kernel, rfl⟩
theorem d_X7_tried_42 : zDc M_X7_tried 42 (.ireturn) 1 43 := ⟨by decide +kernel, rfl⟩
theorem d_X7_tried_43 : zDc M_X7_tried 43 (.aload_n 0) 1 44 := ⟨by decide +kernel, rfl⟩
theorem d_X7_tried_44 : zDc M_X7_tried 44 (.getfield 66) 3 47 := ⟨by decide +kernel, rfl⟩
theorem d_X7_tried_47 : zDc M_X7_tried 47 (.aload_n 0) 1 48 := ⟨by decide +kernel, rfl⟩
theorem d_X7_tried_48 : zDc M_X7_tried 48 (.getfield 38) 3 51 := ⟨by decide +kernel, rfl⟩
theorem d_X7_tried_51 : zDc M_X7_tried 51 (.iload_n 1) 1 52 := ⟨by decide +kernel, rfl⟩
theorem d_X7_tried_52 : zDc M_X7_tried 52 (.iload_n 2) 1 53 := ⟨by decide +kernel, rfl⟩
theorem d_X7_tried_53 : zDc M_X7_tried 53 (.iload_n 3) 1 54 := ⟨by decide +kernel, rfl⟩
theorem d_X7_tried_54 : zDc M_X7_tried 54 (.invokevirtual 228) 3 57 := ⟨by decide +kernel, rfl⟩
theorem d_X7_tried_57 : zDc M_X7_tried 57 (.invokevirtual 232) 3 60 := ⟨by decide +kernel, rfl⟩
theorem d_X7_tried_60 : zDc M_X7_tried 60 (.aload_n 0) 1 61 := ⟨by decide +kernel, rfl⟩
theorem d_X7_tried_61 : zDc M_X7_tried 61 (.getfield 38) 3 64 := ⟨by decide +kernel, rfl⟩
theorem d_X7_tried_64 : zDc M_X7_tried 64 (.invokevirtual 232) 3 67 := ⟨by decide +kernel, rfl⟩
theorem d_X7_tried_67 : zDc M_X7_tried 67 (.isub) 1 68 := ⟨by decide +kernel, rfl⟩
theorem d_X7_tried_68 : zDc M_X7_tried 68 (.ireturn) 1 69 := ⟨by decide +kernel, rfl⟩
def f_X7_tried (a0 : Nat) (a1 : Int32) (a2 : Int32) (a3 : Int32) (h0 : zHp) : Option (Int32 × zHp) :=
  zbd ((f_X7_isFrom 0 a1 5 h0)) (fun v2 h1 =>
  if v2 = 0 then
  some ((-1), h1)
  else
  zbd ((f_X7_isFrom 0 a3 60 h1)) (fun v4 h3 =>
  if v4 = 0 then
  some ((-1), h3)
  else
  if a1 = 2 then
  zbd (zcv 7 a0 h3 (f_X7_isCloud a0 a2 h3)) (fun v6 h5 =>
  if v6 = 0 then
  some ((-1), h5)
  else
  zob (zgR h5 a0 7 9) (fun v7 =>
  zob (zgR h5 a0 7 4) (fun v8 =>
  zbd (zcv 1 v7 h5 (f_X1_skyAfter v7 v8 a1 a2 a3 h5)) (fun v10 h9 =>
  zbd (zcv 5 v10 h9 (f_X5_rainInAll v10 h9)) (fun v12 h11 =>
  zob (zgR h11 a0 7 4) (fun v13 =>
  zbd (zcv 5 v13 h11 (f_X5_rainInAll v13 h11)) (fun v15 h14 =>
  some ((v12 - v15), h14))))))))
  else
  if a2 = 0 then
  zob (zgR h3 a0 7 9) (fun v16 =>
  zob (zgR h3 a0 7 4) (fun v17 =>
  zbd (zcv 1 v16 h3 (f_X1_skyAfter v16 v17 a1 a2 a3 h3)) (fun v19 h18 =>
  zbd (zcv 5 v19 h18 (f_X5_rainInAll v19 h18)) (fun v21 h20 =>
  zob (zgR h20 a0 7 4) (fun v22 =>
  zbd (zcv 5 v22 h20 (f_X5_rainInAll v22 h20)) (fun v24 h23 =>
  some ((v21 - v24), h23)))))))
  else
  some ((-1), h3)))
set_option maxRecDepth 100000 in
set_option maxHeartbeats 4000000 in
theorem t_X7_tried (a0 : Nat) (a1 : Int32) (a2 : Int32) (a3 : Int32) (h0 : zHp) : ∀ (r : Int32) (h' : zHp), f_X7_tried a0 a1 a2 a3 h0 = some (r, h') → zCt yX7_tried (.code yX7_tried cX7_tried 4 (some .int)) 7 208 0 0 [.ref a0, .int a1, .int a2, .int a3] h0 (some (.int r)) h' := by
  refine zct_of M_X7_tried yX7_tried (by decide) rfl rfl [.ref a0, .int a1, .int a2, .int a3] h0 (Nat.le_of_ble_eq_true rfl) (fun r => some (.int r)) (fun X => ?_)
  show zG X M_X7_tried (0, 0) 0 [(0, .ref a0), (1, .int a1), (2, .int a2), (3, .int a3)] [] h0 (f_X7_tried a0 a1 a2 a3 h0) (fun (r : Int32) h' => zKe X (some (.int r)) h')
  unfold f_X7_tried
  refine zg_iconst 0 rfl d_X7_tried_0 ?_
  refine zg_iload_n 1 rfl d_X7_tried_1 ?_
  refine zg_iconst 5 rfl d_X7_tried_2 ?_
  refine zg_cSi (As := [.int 0, .int a1, .int 5]) (rest := []) (0, 0) d_X7_tried_3 cw_X7_194 wt_X7_isFrom rfl rfl (Nat.le_of_ble_eq_true rfl) (by decide) (by decide) ⟨by decide, by decide⟩ rfl (t_X7_isFrom 0 a1 5 h0) (fun v2 h1 => ?_)
  refine zg_if_eq d_X7_tried_6 ?_ ?_
  · refine zg_iconst (-1) rfl d_X7_tried_19 ?_
    exact zg_iretK d_X7_tried_20 rfl ⟨Nat.le_of_ble_eq_true rfl, Nat.le_of_ble_eq_true rfl⟩ (fun q => q)
  · refine zg_iconst 0 rfl d_X7_tried_9 ?_
    refine zg_iload_n 3 rfl d_X7_tried_10 ?_
    refine zg_bipush 60 rfl d_X7_tried_11 ?_
    refine zg_cSi (As := [.int 0, .int a3, .int 60]) (rest := []) (0, 0) d_X7_tried_13 cw_X7_194 wt_X7_isFrom rfl rfl (Nat.le_of_ble_eq_true rfl) (by decide) (by decide) ⟨by decide, by decide⟩ rfl (t_X7_isFrom 0 a3 60 h1) (fun v4 h3 => ?_)
    refine zg_if_ne d_X7_tried_16 ?_ ?_
    · refine zg_iconst (-1) rfl d_X7_tried_19 ?_
      exact zg_iretK d_X7_tried_20 rfl ⟨Nat.le_of_ble_eq_true rfl, Nat.le_of_ble_eq_true rfl⟩ (fun q => q)
    · refine zg_iload_n 1 rfl d_X7_tried_21 ?_
      refine zg_iconst 2 rfl d_X7_tried_22 ?_
      refine zg_icmp_ne d_X7_tried_23 ?_ ?_
      · refine zg_aload_n 0 rfl d_X7_tried_26 ?_
        refine zg_iload_n 2 rfl d_X7_tried_27 ?_
        refine zg_cVi (b := a0) (As := [.int a2]) (rest := []) (0, 0) d_X7_tried_28 zc_7 rfl cw_X7_118 wi_X7_isCloud ws_X7_isCloud rfl rfl (Nat.le_of_ble_eq_true rfl) (by decide) (by decide) ⟨by decide, by decide⟩ rfl (t_X7_isCloud a0 a2 h3) (fun v6 h5 => ?_)
        refine zg_if_ne d_X7_tried_31 ?_ ?_
        · refine zg_goto d_X7_tried_34 ?_
          refine zg_iconst (-1) rfl d_X7_tried_41 ?_
          exact zg_iretK d_X7_tried_42 rfl ⟨Nat.le_of_ble_eq_true rfl, Nat.le_of_ble_eq_true rfl⟩ (fun q => q)
        · refine zg_aload_n 0 rfl d_X7_tried_43 ?_
          refine zg_getR d_X7_tried_44 zc_7 (by decide) fl_X7_66 (fun v7 => ?_)
          refine zg_aload_n 0 rfl d_X7_tried_47 ?_
          refine zg_getR d_X7_tried_48 zc_7 (by decide) fl_X7_38 (fun v8 => ?_)
          refine zg_iload_n 1 rfl d_X7_tried_51 ?_
          refine zg_iload_n 2 rfl d_X7_tried_52 ?_
          refine zg_iload_n 3 rfl d_X7_tried_53 ?_
          refine zg_cVr (b := v7) (As := [.ref v8, .int a1, .int a2, .int a3]) (rest := []) (0, 0) d_X7_tried_54 zc_1 rfl cw_X7_228 wi_X1_skyAfter ws_X1_skyAfter rfl rfl (Nat.le_of_ble_eq_true rfl) (by decide) (by decide) ⟨by decide, by decide⟩ rfl (t_X1_skyAfter v7 v8 a1 a2 a3 h5) (fun v10 h9 => ?_)
          refine zg_cVi (b := v10) (As := []) (rest := []) (0, 0) d_X7_tried_57 zc_5 rfl cw_X7_232 wi_X5_rainInAll ws_X5_rainInAll rfl rfl (Nat.le_of_ble_eq_true rfl) (by decide) (by decide) ⟨by decide, by decide⟩ rfl (t_X5_rainInAll v10 h9) (fun v12 h11 => ?_)
          refine zg_aload_n 0 rfl d_X7_tried_60 ?_
          refine zg_getR d_X7_tried_61 zc_7 (by decide) fl_X7_38 (fun v13 => ?_)
          refine zg_cVi (b := v13) (As := []) (rest := [.int v12]) (0, 0) d_X7_tried_64 zc_5 rfl cw_X7_232 wi_X5_rainInAll ws_X5_rainInAll rfl rfl (Nat.le_of_ble_eq_true rfl) (by decide) (by decide) ⟨by decide, by decide⟩ rfl (t_X5_rainInAll v13 h11) (fun v15 h14 => ?_)
          refine zg_isub d_X7_tried_67 ?_
          exact zg_iretK d_X7_tried_68 rfl ⟨Nat.le_of_ble_eq_true rfl, Nat.le_of_ble_eq_true rfl⟩ (fun q => q)
      · refine zg_iload_n 2 rfl d_X7_tried_37 ?_
        refine zg_if_eq d_X7_tried_38 ?_ ?_
        · refine zg_aload_n 0 rfl d_X7_tried_43 ?_
          refine zg_getR d_X7_tried_44 zc_7 (by decide) fl_X7_66 (fun v16 => ?_)
          refine zg_aload_n 0 rfl d_X7_tried_47 ?_
          refine zg_getR d_X7_tried_48 zc_7 (by decide) fl_X7_38 (fun v17 => ?_)
          refine zg_iload_n 1 rfl d_X7_tried_51 ?_
          refine zg_iload_n 2 rfl d_X7_tried_52 ?_
          refine zg_iload_n 3 rfl d_X7_tried_53 ?_
          refine zg_cVr (b := v16) (As := [.ref v17, .int a1, .int a2, .int a3]) (rest := []) (0, 0) d_X7_tried_54 zc_1 rfl cw_X7_228 wi_X1_skyAfter ws_X1_skyAfter rfl rfl (Nat.le_of_ble_eq_true rfl) (by decide) (by decide) ⟨by decide, by decide⟩ rfl (t_X1_skyAfter v16 v17 a1 a2 a3 h3) (fun v19 h18 => ?_)
          refine zg_cVi (b := v19) (As := []) (rest := []) (0, 0) d_X7_tried_57 zc_5 rfl cw_X7_232 wi_X5_rainInAll ws_X5_rainInAll rfl rfl (Nat.le_of_ble_eq_true rfl) (by decide) (by decide) ⟨by decide, by decide⟩ rfl (t_X5_rainInAll v19 h18) (fun v21 h20 => ?_)
          refine zg_aload_n 0 rfl d_X7_tried_60 ?_
          refine zg_getR d_X7_tried_61 zc_7 (by decide) fl_X7_38 (fun v22 => ?_)
          refine zg_cVi (b := v22) (As := []) (rest := [.int v21]) (0, 0) d_X7_tried_64 zc_5 rfl cw_X7_232 wi_X5_rainInAll ws_X5_rainInAll rfl rfl (Nat.le_of_ble_eq_true rfl) (by decide) (by decide) ⟨by decide, by decide⟩ rfl (t_X5_rainInAll v22 h20) (fun v24 h23 => ?_)
          refine zg_isub d_X7_tried_67 ?_
          exact zg_iretK d_X7_tried_68 rfl ⟨Nat.le_of_ble_eq_true rfl, Nat.le_of_ble_eq_true rfl⟩ (fun q => q)
        · refine zg_iconst (-1) rfl d_X7_tried_41 ?_
          exact zg_iretK d_X7_tried_42 rfl ⟨Nat.le_of_ble_eq_true rfl, Nat.le_of_ble_eq_true rfl⟩ (fun q => q)

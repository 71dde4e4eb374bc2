theorem ml_X7_308 : Cond.methodLink RX7 308 yX3_strikeOut ∈ zT := zw_of _ 1186 (by decide +kernel) (by decide +kernel)
theorem cd_X3_strikeOut : Cond.code yX3_strikeOut cX3_strikeOut 2 none ∈ zT := zw_of _ 1189 (by decide +kernel) (by decide +kernel)
theorem cw_X7_308 : zCw RX7 308 yX3_strikeOut cX3_strikeOut 2 none 0 := ⟨ml_X7_308, ni_X3, cd_X3_strikeOut, by decide, by decide, by decide +kernel⟩
theorem wi_X3_strikeOut : Cond.instanceMethod yX3_strikeOut ∈ zT := zw_of _ 1187 (by decide +kernel) (by decide +kernel)
theorem ws_X3_strikeOut : Cond.selects RX3 yX3_strikeOut yX3_strikeOut ∈ zT := zw_of _ 1188 (by decide +kernel) (by decide +kernel)
theorem ml_X7_311 : Cond.methodLink RX7 311 yX1_agrees ∈ zT := zw_of _ 1194 (by decide +kernel) (by decide +kernel)
theorem cd_X1_agrees : Cond.code yX1_agrees cX1_agrees 7 (some .boolean) ∈ zT := zw_of _ 1197 (by decide +kernel) (by decide +kernel)
theorem cw_X7_311 : zCw RX7 311 yX1_agrees cX1_agrees 7 (some .boolean) 4 := ⟨ml_X7_311, ni_X1, cd_X1_agrees, by decide, by decide, by decide +kernel⟩
theorem wi_X1_agrees : Cond.instanceMethod yX1_agrees ∈ zT := zw_of _ 1195 (by decide +kernel) (by decide +kernel)
theorem ws_X1_agrees : Cond.selects RX1 yX1_agrees yX1_agrees ∈ zT := zw_of _ 1196 (by decide +kernel) (by decide +kernel)
theorem ml_X7_254 : Cond.methodLink RX7 254 yX1_stationOf ∈ zT := zw_of _ 1057 (by decide +kernel) (by decide +kernel)
theorem cd_X1_stationOf : Cond.code yX1_stationOf cX1_stationOf 7 (some .int) ∈ zT := zw_of _ 1060 (by decide +kernel) (by decide +kernel)
theorem cw_X7_254 : zCw RX7 254 yX1_stationOf cX1_stationOf 7 (some .int) 3 := ⟨ml_X7_254, ni_X1, cd_X1_stationOf, by decide, by decide, by decide +kernel⟩
theorem wi_X1_stationOf : Cond.instanceMethod yX1_stationOf ∈ zT := zw_of _ 1058 (by decide +kernel) (by decide +kernel)
theorem ws_X1_stationOf : Cond.selects RX1 yX1_stationOf yX1_stationOf ∈ zT := zw_of _ 1059 (by decide +kernel) (by decide +kernel)
theorem ml_X7_258 : Cond.methodLink RX7 258 yX1_seenFrom ∈ zT := zw_of _ 1063 (by decide +kernel) (by decide +kernel)
theorem cd_X1_seenFrom : Cond.code yX1_seenFrom cX1_seenFrom 2 (some .int) ∈ zT := zw_of _ 1066 (by decide +kernel) (by decide +kernel)
theorem cw_X7_258 : zCw RX7 258 yX1_seenFrom cX1_seenFrom 2 (some .int) 1 := ⟨ml_X7_258, ni_X1, cd_X1_seenFrom, by decide, by decide, by decide +kernel⟩
theorem wi_X1_seenFrom : Cond.instanceMethod yX1_seenFrom ∈ zT := zw_of _ 1064 (by decide +kernel) (by decide +kernel)
theorem ws_X1_seenFrom : Cond.selects RX1 yX1_seenFrom yX1_seenFrom ∈ zT := zw_of _ 1065 (by decide +kernel) (by decide +kernel)
theorem ml_X7_272 : Cond.methodLink RX7 272 yX5_wouldSwap ∈ zT := zw_of _ 1092 (by decide +kernel) (by decide +kernel)
theorem cd_X5_wouldSwap : Cond.code yX5_wouldSwap cX5_wouldSwap 5 (some .boolean) ∈ zT := zw_of _ 1095 (by decide +kernel) (by decide +kernel)
theorem cw_X7_272 : zCw RX7 272 yX5_wouldSwap cX5_wouldSwap 5 (some .boolean) 2 := ⟨ml_X7_272, ni_X5, cd_X5_wouldSwap, by decide, by decide, by decide +kernel⟩
theorem wi_X5_wouldSwap : Cond.instanceMethod yX5_wouldSwap ∈ zT := zw_of _ 1093 (by decide +kernel) (by decide +kernel)
theorem ws_X5_wouldSwap : Cond.selects RX5 yX5_wouldSwap yX5_wouldSwap ∈ zT := zw_of _ 1094 (by decide +kernel) (by decide +kernel)
theorem ml_X7_74 : Cond.methodLink RX7 74 yX4_readText ∈ zT := zw_of _ 614 (by decide +kernel) (by decide +kernel)
theorem cd_X4_readText : Cond.code yX4_readText cX4_readText 5 (some .int) ∈ zT := zw_of _ 617 (by decide +kernel) (by decide +kernel)
theorem cw_X7_74 : zCw RX7 74 yX4_readText cX4_readText 5 (some .int) 2 := ⟨ml_X7_74, ni_X4, cd_X4_readText, by decide, by decide, by decide +kernel⟩
theorem wi_X4_readText : Cond.instanceMethod yX4_readText ∈ zT := zw_of _ 615 (by decide +kernel) (by decide +kernel)
theorem ws_X4_readText : Cond.selects RX4 yX4_readText yX4_readText ∈ zT := zw_of _ 616 (by decide +kernel) (by decide +kernel)
theorem ml_X7_78 : Cond.methodLink RX7 78 yX4_takeTold ∈ zT := zw_of _ 785 (by decide +kernel) (by decide +kernel)
theorem cd_X4_takeTold : Cond.code yX4_takeTold cX4_takeTold 3 (some (.object "CloudSchool$Told")) ∈ zT := zw_of _ 788 (by decide +kernel) (by decide +kernel)
theorem cw_X7_78 : zCw RX7 78 yX4_takeTold cX4_takeTold 3 (some (.object "CloudSchool$Told")) 1 := ⟨ml_X7_78, ni_X4, cd_X4_takeTold, by decide, by decide, by decide +kernel⟩
theorem wi_X4_takeTold : Cond.instanceMethod yX4_takeTold ∈ zT := zw_of _ 786 (by decide +kernel) (by decide +kernel)
theorem ws_X4_takeTold : Cond.selects RX4 yX4_takeTold yX4_takeTold ∈ zT := zw_of _ 787 (by decide +kernel) (by decide +kernel)
theorem ml_X7_82 : Cond.methodLink RX7 82 yX5_startOf ∈ zT := zw_of _ 789 (by decide +kernel) (by decide +kernel)
theorem cw_X7_82 : zCw RX7 82 yX5_startOf cX5_startOf 4 none 1 := ⟨ml_X7_82, ni_X5, cd_X5_startOf, by decide, by decide, by decide +kernel⟩
theorem ml_X7_85 : Cond.methodLink RX7 85 yX3_forget ∈ zT := zw_of _ 793 (by decide +kernel) (by decide +kernel)
theorem cd_X3_forget : Cond.code yX3_forget cX3_forget 1 none ∈ zT := zw_of _ 796 (by decide +kernel) (by decide +kernel)
theorem cw_X7_85 : zCw RX7 85 yX3_forget cX3_forget 1 none 0 := ⟨ml_X7_85, ni_X3, cd_X3_forget, by decide, by decide, by decide +kernel⟩
theorem wi_X3_forget : Cond.instanceMethod yX3_forget ∈ zT := zw_of _ 794 (by decide +kernel) (by decide +kernel)
theorem ws_X3_forget : Cond.selects RX3 yX3_forget yX3_forget ∈ zT := zw_of _ 795 (by decide +kernel) (by decide +kernel)
theorem ml_X7_324 : Cond.methodLink RX7 324 yX0_undoLatest ∈ zT := zw_of _ 1240 (by decide +kernel) (by decide +kernel)
theorem cd_X0_undoLatest : Cond.code yX0_undoLatest cX0_undoLatest 3 none ∈ zT := zw_of _ 1243 (by decide +kernel) (by decide +kernel)
theorem cw_X7_324 : zCw RX7 324 yX0_undoLatest cX0_undoLatest 3 none 1 := ⟨ml_X7_324, ni_X0, cd_X0_undoLatest, by decide, by decide, by decide +kernel⟩
theorem wi_X0_undoLatest : Cond.instanceMethod yX0_undoLatest ∈ zT := zw_of _ 1241 (by decide +kernel) (by decide +kernel)
theorem ws_X0_undoLatest : Cond.selects RX0 yX0_undoLatest yX0_undoLatest ∈ zT := zw_of _ 1242 (by decide +kernel) (by decide +kernel)
theorem fl_X7_268 : Cond.fieldLink RX7 268 (TX5 10).1 (TX5 10).2.1 (TX5 10).2.2.1 ∈ zT := zw_of _ 432 (by decide +kernel) (by decide +kernel)
theorem fl_X8_13 : Cond.fieldLink RX8 13 (TX8 3).1 (TX8 3).2.1 (TX8 3).2.2.1 ∈ zT := zw_of _ 1365 (by decide +kernel) (by decide +kernel)
theorem fl_X8_93 : Cond.fieldLink RX8 93 (TX8 42).1 (TX8 42).2.1 (TX8 42).2.2.1 ∈ zT := zw_of _ 1404 (by decide +kernel) (by decide +kernel)
theorem fl_X8_99 : Cond.fieldLink RX8 99 (TX8 44).1 (TX8 44).2.1 (TX8 44).2.2.1 ∈ zT := zw_of _ 1406 (by decide +kernel) (by decide +kernel)
theorem fl_X8_102 : Cond.fieldLink RX8 102 (TX8 45).1 (TX8 45).2.1 (TX8 45).2.2.1 ∈ zT := zw_of _ 1407 (by decide +kernel) (by decide +kernel)
theorem fl_X8_75 : Cond.fieldLink RX8 75 (TX8 36).1 (TX8 36).2.1 (TX8 36).2.2.1 ∈ zT := zw_of _ 1398 (by decide +kernel) (by decide +kernel)
theorem fl_X8_78 : Cond.fieldLink RX8 78 (TX8 37).1 (TX8 37).2.1 (TX8 37).2.2.1 ∈ zT := zw_of _ 1399 (by decide +kernel) (by decide +kernel)
theorem fl_X8_81 : Cond.fieldLink RX8 81 (TX8 38).1 (TX8 38).2.1 (TX8 38).2.2.1 ∈ zT := zw_of _ 1400 (by decide +kernel) (by decide +kernel)
theorem fl_X8_84 : Cond.fieldLink RX8 84 (TX8 39).1 (TX8 39).2.1 (TX8 39).2.2.1 ∈ zT := zw_of _ 1401 (by decide +kernel) (by decide +kernel)
theorem fl_X8_87 : Cond.fieldLink RX8 87 (TX8 40).1 (TX8 40).2.1 (TX8 40).2.2.1 ∈ zT := zw_of _ 1402 (by decide +kernel) (by decide +kernel)
theorem fl_X8_90 : Cond.fieldLink RX8 90 (TX8 41).1 (TX8 41).2.1 (TX8 41).2.2.1 ∈ zT := zw_of _ 1403 (by decide +kernel) (by decide +kernel)
theorem fl_X8_96 : Cond.fieldLink RX8 96 (TX8 43).1 (TX8 43).2.1 (TX8 43).2.2.1 ∈ zT := zw_of _ 1405 (by decide +kernel) (by decide +kernel)
theorem fl_X8_105 : Cond.fieldLink RX8 105 (TX8 46).1 (TX8 46).2.1 (TX8 46).2.2.1 ∈ zT := zw_of _ 1408 (by decide +kernel) (by decide +kernel)
abbrev M_X7_sees : zMt := (RX7, cX7_sees, 2, 4, 127, (some .int), "sees", 0, 0)
theorem d_X7_sees_0 : zDc M_X7_sees 0 (.aload_n 0) 1 1 := ⟨by decide +kernel, rfl⟩
theorem d_X7_sees_1 : zDc M_X7_sees 1 (.iload_n 1) 1 2 := ⟨by decide +kernel, rfl⟩
theorem d_X7_sees_2 : zDc M_X7_sees 2 (.invokevirtual 146) 3 5 := ⟨by decide +kernel, rfl⟩
theorem d_X7_sees_5 : zDj M_X7_sees 5 (.ifCond .eq 14) 14 8 19 := ⟨by decide +kernel, rfl, by decide⟩
theorem d_X7_sees_8 : zDc M_X7_sees 8 (.aload_n 0) 1 9 := ⟨by decide +kernel, rfl⟩
theorem d_X7_sees_9 : zDc M_X7_sees 9 (.getfield 38) 3 12 := ⟨by decide +kernel, rfl⟩
theorem d_X7_sees_12 : zDc M_X7_sees 12 (.iload_n 1) 1 13 := ⟨by decide +kernel, rfl⟩
theorem d_X7_sees_13 : zDc M_X7_sees 13 (.invokevirtual 188) 3 16 := ⟨by decide +kernel, rfl⟩
theorem d_X7_sees_16 : zDj M_X7_sees 16 (.goto 4) 4 19 20 := ⟨by decide +kernel, rfl, by decide⟩
theorem d_X7_sees_19 : zDc M_X7_sees 19 (.iconst (-1)) 1 20 := ⟨by decide +kernel, rfl⟩
theorem d_X7_sees_20 : zDc M_X7_sees 20 (.ireturn) 1 21 := ⟨by decide +kernel, rfl⟩
def f_X7_sees (a0 : Nat) (a1 : Int32) (h0 : zHp) : Option (Int32 × zHp) :=
  zbd (zcv 7 a0 h0 (f_X7_isChild a0 a1 h0)) (fun v2 h1 =>
  if v2 = 0 then
  some ((-1), h1)
  else
  zob (zgR h1 a0 7 4) (fun v3 =>
  zbd (zcv 5 v3 h1 (f_X5_seenBy v3 a1 h1)) (fun v5 h4 =>
  some (v5, h4))))
set_option maxRecDepth 100000 in
set_option maxHeartbeats 4000000 in
theorem t_X7_sees (a0 : Nat) (a1 : Int32) (h0 : zHp) : ∀ (r : Int32) (h' : zHp), f_X7_sees a0 a1 h0 = some (r, h') → zCt yX7_sees (.code yX7_sees cX7_sees 2 (some .int)) 4 127 0 0 [.ref a0, .int a1] h0 (some (.int r)) h' := by
  refine zct_of M_X7_sees yX7_sees (by decide) rfl rfl [.ref a0, .int a1] h0 (Nat.le_of_ble_eq_true rfl) (fun r => some (.int r)) (fun X => ?_)
  show zG X M_X7_sees (0, 0) 0 [(0, .ref a0), (1, .int a1)] [] h0 (f_X7_sees a0 a1 h0) (fun (r : Int32) h' => zKe X (some (.int r)) h')
  unfold f_X7_sees
  refine zg_aload_n 0 rfl d_X7_sees_0 ?_
  refine zg_iload_n 1 rfl d_X7_sees_1 ?_
  refine zg_cVi (b := a0) (As := [.int a1]) (rest := []) (0, 0) d_X7_sees_2 zc_7 rfl cw_X7_146 wi_X7_isChild ws_X7_isChild rfl rfl (Nat.le_of_ble_eq_true rfl) (by decide) (by decide) ⟨by decide, by decide⟩ rfl (t_X7_isChild a0 a1 h0) (fun v2 h1 => ?_)
  refine zg_if_eq d_X7_sees_5 ?_ ?_
  · refine zg_iconst (-1) rfl d_X7_sees_19 ?_
    exact zg_iretK d_X7_sees_20 rfl ⟨Nat.le_of_ble_eq_true rfl, Nat.le_of_ble_eq_true rfl⟩ (fun q => q)
  · refine zg_aload_n 0 rfl d_X7_sees_8 ?_
    refine zg_getR d_X7_sees_9 zc_7 (by decide) fl_X7_38 (fun v3 => ?_)
    refine zg_iload_n 1 rfl d_X7_sees_12 ?_
    refine zg_cVi (b := v3) (As := [.int a1]) (rest := []) (0, 0) d_X7_sees_13 zc_5 rfl cw_X7_188 wi_X5_seenBy ws_X5_seenBy rfl rfl (Nat.le_of_ble_eq_true rfl) (by decide) (by decide) ⟨by decide, by decide⟩ rfl (t_X5_seenBy v3 a1 h1) (fun v5 h4 => ?_)
    refine zg_goto d_X7_sees_16 ?_
    exact zg_iretK d_X7_sees_20 rfl ⟨Nat.le_of_ble_eq_true rfl, Nat.le_of_ble_eq_true rfl⟩ (fun q => q)
abbrev M_X7_sizes : zMt := (RX7, cX7_sizes, 4, 7, 205, (some .int), "sizes", 0, 0)
theorem d_X7_sizes_0 : zDc M_X7_sizes 0 (.aload_n 0) 1 1 := ⟨by decide +kernel, rfl⟩
theorem d_X7_sizes_1 : zDc M_X7_sizes 1 (.iload_n 1) 1 2 := ⟨by decide +kernel, rfl⟩
theorem d_X7_sizes_2 : zDc M_X7_sizes 2 (.invokevirtual 118) 3 5 := ⟨by decide +kernel, rfl⟩
theorem d_X7_sizes_5 : zDj M_X7_sizes 5 (.ifCond .ne 5) 5 8 10 := ⟨by decide +kernel, rfl, by decide⟩
theorem d_X7_sizes_8 : zDc M_X7_sizes 8 (.iconst (-1)) 1 9 := ⟨by decide +kernel, rfl⟩
theorem d_X7_sizes_9 : zDc M_X7_sizes 9 (.ireturn) 1 10 := ⟨by decide +kernel, rfl⟩
theorem d_X7_sizes_10 : zDc M_X7_sizes 10 (.aload_n 0) 1 11 := ⟨by decide +kernel, rfl⟩
theorem d_X7_sizes_11 : zDc M_X7_sizes 11 (.getfield 59) 3 14 := ⟨by decide +kernel, rfl⟩
theorem d_X7_sizes_14 : zDc M_X7_sizes 14 (.invokevirtual 308) 3 17 := ⟨by decide +kernel, rfl⟩
theorem d_X7_sizes_17 : zDc M_X7_sizes 17 (.iconst 0) 1 18 := ⟨by decide +kernel, rfl⟩
theorem d_X7_sizes_18 : zDc M_X7_sizes 18 (.istore_n 2) 1 19 := ⟨by decide +kernel, rfl⟩
theorem d_X7_sizes_19 : zDc M_X7_sizes 19 (.iconst 1) 1 20 := ⟨by decide +kernel, rfl⟩
theorem d_X7_sizes_20 : zDc M_X7_sizes 20 (.istore_n 3) 1 21 := ⟨by decide +kernel, rfl⟩
theorem d_X7_sizes_21 : zDc M_X7_sizes 21 (.iload_n 3) 1 22 := ⟨by decide +kernel, rfl⟩
theorem d_X7_sizes_22 : zDc M_X7_sizes 22 (.bipush 9) 2 24 := ⟨by decide +kernel, rfl⟩
theorem d_X7_sizes_24 : zDj M_X7_sizes 24 (.if_icmp .gt 35) 35 27 59 := ⟨by decide +kernel, rfl, by decide⟩
theorem d_X7_sizes_27 : zDc M_X7_sizes 27 (.aload_n 0) 1 28 := ⟨by decide +kernel, rfl⟩
theorem d_X7_sizes_28 : zDc M_X7_sizes 28 (.getfield 66) 3 31 := ⟨by decide +kernel, rfl⟩
theorem d_X7_sizes_31 : zDc M_X7_sizes 31 (.aload_n 0) 1 32 := ⟨by decide +kernel, rfl⟩
theorem d_X7_sizes_32 : zDc M_X7_sizes 32 (.getfield 29) 3 35 := ⟨by decide +kernel, rfl⟩
theorem d_X7_sizes_35 : zDc M_X7_sizes 35 (.aload_n 0) 1 36 := ⟨by decide +kernel, rfl⟩
theorem d_X7_sizes_36 : zDc M_X7_sizes 36 (.getfield 59) 3 39 := ⟨by decide +kernel, rfl⟩
theorem d_X7_sizes_39 : zDc M_X7_sizes 39 (.iload_n 1) 1 40 := ⟨by decide +kernel, rfl⟩
theorem d_X7_sizes_40 : zDc M_X7_sizes 40 (.iload_n 3) 1 41 := ⟨by decide +kernel, rfl⟩
theorem d_X7_sizes_41 : zDc M_X7_sizes 41 (.invokevirtual 311) 3 44 := ⟨by decide +kernel, rfl⟩
theorem d_X7_sizes_44 : zDj M_X7_sizes 44 (.ifCond .eq 9) 9 47 53 := ⟨by decide +kernel, rfl, by decide⟩
theorem d_X7_sizes_47 : zDc M_X7_sizes 47 (.iload_n 2) 1 48 := ⟨by decide +kernel, rfl⟩
theorem d_X7_sizes_48 : zDc M_X7_sizes 48 (.iconst 1) 1 49 := ⟨by decide +kernel, rfl⟩
theorem d_X7_sizes_49 : zDc M_X7_sizes 49 (.iload_n 3) 1 50 := ⟨by decide +kernel, rfl⟩
theorem d_X7_sizes_50 : zDc M_X7_sizes 50 (.ishl) 1 51 := ⟨by decide +kernel, rfl⟩
theorem d_X7_sizes_51 : zDc M_X7_sizes 51 (.ior) 1 52 := ⟨by decide +kernel, rfl⟩
theorem d_X7_sizes_52 : zDc M_X7_sizes 52 (.istore_n 2) 1 53 := ⟨by decide +kernel, rfl⟩
theorem d_X7_sizes_53 : zDc M_X7_sizes 53 (.iinc 3 1) 3 56 := ⟨by decide +kernel, rfl⟩
theorem d_X7_sizes_56 : zDj M_X7_sizes 56 (.goto (-35)) (-35) 59 21 := ⟨by decide +kernel, rfl, by decide⟩
theorem d_X7_sizes_59 : zDc M_X7_sizes 59 (.iload_n 2) 1 60 := ⟨by decide +kernel, rfl⟩
theorem d_X7_sizes_60 : zDc M_X7_sizes 60 (.ireturn) 1 61 := ⟨by decide +kernel, rfl⟩
def f_X7_sizes (a0 : Nat) (a1 : Int32) (h0 : zHp) : Option (Int32 × zHp) :=
  zbd (zcv 7 a0 h0 (f_X7_isCloud a0 a1 h0)) (fun v2 h1 =>
  if v2 = 0 then
  some ((-1), h1)
  else
  zob (zgR h1 a0 7 8) (fun v3 =>
  zbd (zcv 3 v3 h1 (f_X3_strikeOut v3 h1)) (fun v5 h4 =>
  zbd (
  zlp (σ := (Int32 × Int32)) (β := (Int32 × Int32)) zLF (fun s6 h7 =>
  if 9 < s6.2 then
  some ((.inr (s6.1, s6.2)), h7)
  else
  zob (zgR h7 a0 7 9) (fun v10 =>
  zob (zgR h7 a0 7 3) (fun v11 =>
  zob (zgR h7 a0 7 8) (fun v12 =>
  zbd (zcv 1 v10 h7 (f_X1_agrees v10 v11 v12 a1 s6.2 h7)) (fun v14 h13 =>
  if v14 = 0 then
  some ((.inl (s6.1, (s6.2 + 1))), h13)
  else
  some ((.inl ((s6.1 ||| (1 <<< (s6.2 &&& 31))), (s6.2 + 1))), h13)))))) (0, 1) h4) (fun e8 h9 =>
  some (e8.1, h9)))))
set_option maxRecDepth 100000 in
set_option maxHeartbeats 4000000 in
theorem t_X7_sizes (a0 : Nat) (a1 : Int32) (h0 : zHp) : ∀ (r : Int32) (h' : zHp), f_X7_sizes a0 a1 h0 = some (r, h') → zCt yX7_sizes (.code yX7_sizes cX7_sizes 4 (some .int)) 7 205 0 0 [.ref a0, .int a1] h0 (some (.int r)) h' := by
  refine zct_of M_X7_sizes yX7_sizes (by decide) rfl rfl [.ref a0, .int a1] h0 (Nat.le_of_ble_eq_true rfl) (fun r => some (.int r)) (fun X => ?_)
  show zG X M_X7_sizes (0, 0) 0 [(0, .ref a0), (1, .int a1)] [] h0 (f_X7_sizes a0 a1 h0) (fun (r : Int32) h' => zKe X (some (.int r)) h')
  unfold f_X7_sizes
  refine zg_aload_n 0 rfl d_X7_sizes_0 ?_
  refine zg_iload_n 1 rfl d_X7_sizes_1 ?_
  refine zg_cVi (b := a0) (As := [.int a1]) (rest := []) (0, 0) d_X7_sizes_2 zc_7 rfl cw_X7_118 wi_X7_isCloud ws_X7_isCloud rfl rfl (Nat.le_of_ble_eq_true rfl) (by decide) (by decide) ⟨by decide, by decide⟩ rfl (t_X7_isCloud a0 a1 h0) (fun v2 h1 => ?_)
  refine zg_if_ne d_X7_sizes_5 ?_ ?_
  · refine zg_iconst (-1) rfl d_X7_sizes_8 ?_
    exact zg_iretK d_X7_sizes_9 rfl ⟨Nat.le_of_ble_eq_true rfl, Nat.le_of_ble_eq_true rfl⟩ (fun q => q)
  · refine zg_aload_n 0 rfl d_X7_sizes_10 ?_
    refine zg_getR d_X7_sizes_11 zc_7 (by decide) fl_X7_59 (fun v3 => ?_)
    refine zg_cVv (b := v3) (As := []) (rest := []) (0, 0) d_X7_sizes_14 zc_3 rfl cw_X7_308 wi_X3_strikeOut ws_X3_strikeOut rfl rfl (Nat.le_of_ble_eq_true rfl) (by decide) (by decide) ⟨by decide, by decide⟩ rfl (t_X3_strikeOut v3 h1) (fun v5 h4 => ?_)
    refine zg_iconst 0 rfl d_X7_sizes_17 ?_
    refine zg_istore_n [(2, .int 0), (0, .ref a0), (1, .int a1)] d_X7_sizes_18 rfl (by decide) rfl ?_
    refine zg_iconst 1 rfl d_X7_sizes_19 ?_
    refine zg_istore_n [(3, .int 1), (2, .int 0), (0, .ref a0), (1, .int a1)] d_X7_sizes_20 rfl (by decide) rfl ?_
    refine zg_bd (E := 59) (el := (fun (e8 : (Int32 × Int32)) => [(0, .ref a0), (1, .int a1), (2, .int e8.1), (3, .int e8.2)])) (es := fun _ => []) (zg_sub [2, 3, 1, 0] rfl (zg_lp (el := (fun (s6 : (Int32 × Int32)) => [(0, .ref a0), (1, .int a1), (2, .int s6.1), (3, .int s6.2)])) (fun s6 h7 => ?_) (0, 1) h4)) (fun e8 h9 => ?_)
    · refine zg_iload_n 3 rfl d_X7_sizes_21 ?_
      refine zg_bipush 9 rfl d_X7_sizes_22 ?_
      refine zg_icmp_gt d_X7_sizes_24 ?_ ?_
      · exact zg_finK (E := 0) [0, 1, 2, 3] rfl rfl (fun q => q)
      · refine zg_aload_n 0 rfl d_X7_sizes_27 ?_
        refine zg_getR d_X7_sizes_28 zc_7 (by decide) fl_X7_66 (fun v10 => ?_)
        refine zg_aload_n 0 rfl d_X7_sizes_31 ?_
        refine zg_getR d_X7_sizes_32 zc_7 (by decide) fl_X7_29 (fun v11 => ?_)
        refine zg_aload_n 0 rfl d_X7_sizes_35 ?_
        refine zg_getR d_X7_sizes_36 zc_7 (by decide) fl_X7_59 (fun v12 => ?_)
        refine zg_iload_n 1 rfl d_X7_sizes_39 ?_
        refine zg_iload_n 3 rfl d_X7_sizes_40 ?_
        refine zg_cVi (b := v10) (As := [.ref v11, .ref v12, .int a1, .int s6.2]) (rest := []) (0, 0) d_X7_sizes_41 zc_1 rfl cw_X7_311 wi_X1_agrees ws_X1_agrees rfl rfl (Nat.le_of_ble_eq_true rfl) (by decide) (by decide) ⟨by decide, by decide⟩ rfl (t_X1_agrees v10 v11 v12 a1 s6.2 h7) (fun v14 h13 => ?_)
        refine zg_if_eq d_X7_sizes_44 ?_ ?_
        · refine zg_iinc 3 (s6.2 + 1) [(3, .int (s6.2 + 1)), (0, .ref a0), (1, .int a1), (2, .int s6.1)] d_X7_sizes_53 rfl rfl (by decide) rfl ?_
          refine zg_goto d_X7_sizes_56 ?_
          exact zg_finK (E := 0) [1, 2, 3, 0] rfl rfl (fun q => q)
        · refine zg_iload_n 2 rfl d_X7_sizes_47 ?_
          refine zg_iconst 1 rfl d_X7_sizes_48 ?_
          refine zg_iload_n 3 rfl d_X7_sizes_49 ?_
          refine zg_ishl d_X7_sizes_50 ?_
          refine zg_ior d_X7_sizes_51 ?_
          refine zg_istore_n [(2, .int (s6.1 ||| (1 <<< (s6.2 &&& 31)))), (0, .ref a0), (1, .int a1), (3, .int s6.2)] d_X7_sizes_52 rfl (by decide) rfl ?_
          refine zg_iinc 3 (s6.2 + 1) [(3, .int (s6.2 + 1)), (2, .int (s6.1 ||| (1 <<< (s6.2 &&& 31)))), (0, .ref a0), (1, .int a1)] d_X7_sizes_53 rfl rfl (by decide) rfl ?_
          refine zg_goto d_X7_sizes_56 ?_
          exact zg_finK (E := 0) [2, 3, 1, 0] rfl rfl (fun q => q)
    · refine zg_iload_n 2 rfl d_X7_sizes_59 ?_
      exact zg_iretK d_X7_sizes_60 rfl ⟨Nat.le_of_ble_eq_true rfl, Nat.le_of_ble_eq_true rfl⟩ (fun q => q)
abbrev M_X7_stand : zMt := (RX7, cX7_stand, 4, 3, 104, (some .boolean), "stand", 0, 0)
theorem d_X7_stand_0 : zDc M_X7_stand 0 (.aload_n 0) 1 1 := ⟨by decide +kernel, rfl⟩
theorem d_X7_stand_1 : zDc M_X7_stand 1 (.iload_n 1) 1 2 := ⟨by decide +kernel, rfl⟩
theorem d_X7_stand_2 : zDc M_X7_stand 2 (.invokevirtual 146) 3 5 := ⟨by decide +kernel, rfl⟩
theorem d_X7_stand_5 : zDj M_X7_stand 5 (.ifCond .eq 11) 11 8 16 := ⟨by decide +kernel, rfl, by decide⟩
theorem d_X7_stand_8 : zDc M_X7_stand 8 (.iload_n 2) 1 9 := ⟨by decide +kernel, rfl⟩
theorem d_X7_stand_9 : zDc M_X7_stand 9 (.iload_n 3) 1 10 := ⟨by decide +kernel, rfl⟩
theorem d_X7_stand_10 : zDc M_X7_stand 10 (.invokestatic 180) 3 13 := ⟨by decide +kernel, rfl⟩
theorem d_X7_stand_13 : zDj M_X7_stand 13 (.ifCond .ne 5) 5 16 18 := ⟨by decide +kernel, rfl, by decide⟩
theorem d_X7_stand_16 : zDc M_X7_stand 16 (.iconst 0) 1 17 := ⟨by decide +kernel, rfl⟩
theorem d_X7_stand_17 : zDc M_X7_stand 17 (.ireturn) 1 18 := ⟨by decide +kernel, rfl⟩
theorem d_X7_stand_18 : zDc M_X7_stand 18 (.aload_n 0) 1 19 := ⟨by decide +kernel, rfl⟩
theorem d_X7_stand_19 : zDc M_X7_stand 19 (.getfield 38) 3 22 := ⟨by decide +kernel, rfl⟩
theorem d_X7_stand_22 : zDc M_X7_stand 22 (.getfield 149) 3 25 := ⟨by decide +kernel, rfl⟩
theorem d_X7_stand_25 : zDc M_X7_stand 25 (.iload_n 1) 1 26 := ⟨by decide +kernel, rfl⟩
theorem d_X7_stand_26 : zDc M_X7_stand 26 (.iaload) 1 27 := ⟨by decide +kernel, rfl⟩
theorem d_X7_stand_27 : zDc M_X7_stand 27 (.iload_n 2) 1 28 := ⟨by decide +kernel, rfl⟩
theorem d_X7_stand_28 : zDj M_X7_stand 28 (.if_icmp .ne 18) 18 31 46 := ⟨by decide +kernel, rfl, by decide⟩
theorem d_X7_stand_31 : zDc M_X7_stand 31 (.aload_n 0) 1 32 := ⟨by decide +kernel, rfl⟩
theorem d_X7_stand_32 : zDc M_X7_stand 32 (.getfield 38) 3 35 := ⟨by decide +kernel, rfl⟩
theorem d_X7_stand_35 : zDc M_X7_stand 35 (.getfield 152) 3 38 := ⟨by decide +kernel, rfl⟩
theorem d_X7_stand_38 : zDc M_X7_stand 38 (.iload_n 1) 1 39 := ⟨by decide +kernel, rfl⟩
theorem d_X7_stand_39 : zDc M_X7_stand 39 (.iaload) 1 40 := ⟨by decide +kernel, rfl⟩
theorem d_X7_stand_40 : zDc M_X7_stand 40 (.iload_n 3) 1 41 := ⟨by decide +kernel, rfl⟩
theorem d_X7_stand_41 : zDj M_X7_stand 41 (.if_icmp .ne 5) 5 44 46 := ⟨by decide +kernel, rfl, by decide⟩
theorem d_X7_stand_44 : zDc M_X7_stand 44 (.iconst 0) 1 45 := ⟨by decide +kernel, rfl⟩
theorem d_X7_stand_45 : zDc M_X7_stand 45 (.ireturn) 1 46 := ⟨by decide +kernel, rfl⟩
theorem d_X7_stand_46 : zDc M_X7_stand 46 (.aload_n 0) 1 47 := ⟨by decide +kernel, rfl⟩
theorem d_X7_stand_47 : zDc M_X7_stand 47 (.getfield 52) 3 50 := ⟨by decide +kernel, rfl⟩
theorem d_X7_stand_50 : zDc M_X7_stand 50 (.iconst 2) 1 51 := ⟨by decide +kernel, rfl⟩
theorem d_X7_stand_51 : zDc M_X7_stand 51 (.iload_n 1) 1 52 := ⟨by decide +kernel, rfl⟩
theorem d_X7_stand_52 : zDc M_X7_stand 52 (.aload_n 0) 1 53 := ⟨by decide +kernel, rfl⟩
theorem d_X7_stand_53 : zDc M_X7_stand 53 (.getfield 38) 3 56 := ⟨by decide +kernel, rfl⟩
theorem d_X7_stand_56 : zDc M_X7_stand 56 (.getfield 149) 3 59 := ⟨by decide +kernel, rfl⟩
theorem d_X7_stand_59 : zDc M_X7_stand 59 (.iload_n 1) 1 60 := ⟨by decide +kernel, rfl⟩
theorem d_X7_stand_60 : zDc M_X7_stand 60 (.iaload) 1 61 := ⟨by decide +kernel, rfl⟩
theorem d_X7_stand_61 : zDc M_X7_stand 61 (.aload_n 0) 1 62 := ⟨by decide +kernel, rfl⟩
theorem d_X7_stand_62 : zDc M_X7_stand 62 (.getfield 38) 3 65 := ⟨by decide +kernel, rfl⟩
theorem d_X7_stand_65 : zDc M_X7_stand 65 (.getfield 152) 3 68 := ⟨by decide +kernel, rfl⟩
theorem d_X7_stand_68 : zDc M_X7_stand 68 (.iload_n 1) 1 69 := ⟨by decide +kernel, rfl⟩
theorem d_X7_stand_69 : zDc M_X7_stand 69 (.iaload) 1 70 := ⟨by decide +kernel, rfl⟩
theorem d_X7_stand_70 : zDc M_X7_stand 70 (.invokevirtual 207) 3 73 := ⟨by decide +kernel, rfl⟩
theorem d_X7_stand_73 : zDc M_X7_stand 73 (.aload_n 0) 1 74 := ⟨by decide +kernel, rfl⟩
theorem d_X7_stand_74 : zDc M_X7_stand 74 (.getfield 38) 3 77 := ⟨by decide +kernel, rfl⟩
theorem d_X7_stand_77 : zDc M_X7_stand 77 (.getfield 149) 3 80 := ⟨by decide +kernel, rfl⟩
theorem d_X7_stand_80 : zDc M_X7_stand 80 (.iload_n 1) 1 81 := ⟨by decide +kernel, rfl⟩
theorem d_X7_stand_81 : zDc M_X7_stand 81 (.iload_n 2) 1 82 := ⟨by decide +kernel, rfl⟩
theorem d_X7_stand_82 : zDc M_X7_stand 82 (.iastore) 1 83 := ⟨by decide +kernel, rfl⟩
theorem d_X7_stand_83 : zDc M_X7_stand 83 (.aload_n 0) 1 84 := ⟨by decide +kernel, rfl⟩
theorem d_X7_stand_84 : zDc M_X7_stand 84 (.getfield 38) 3 87 := ⟨by decide +kernel, rfl⟩
theorem d_X7_stand_87 : zDc M_X7_stand 87 (.getfield 152) 3 90 := ⟨by decide +kernel, rfl⟩
theorem d_X7_stand_90 : zDc M_X7_stand 90 (.iload_n 1) 1 91 := ⟨by decide +kernel, rfl⟩
theorem d_X7_stand_91 : zDc M_X7_stand 91 (.iload_n 3) 1 92 := ⟨by decide +kernel, rfl⟩
theorem d_X7_stand_92 : zDc M_X7_stand 92 (.iastore) 1 93 := ⟨by decide +kernel, rfl⟩
theorem d_X7_stand_93 : zDc M_X7_stand 93 (.iconst 1) 1 94 := ⟨by decide +kernel, rfl⟩
theorem d_X7_stand_94 : zDc M_X7_stand 94 (.ireturn) 1 95 := ⟨by decide +kernel, rfl⟩
def f_X7_stand (a0 : Nat) (a1 : Int32) (a2 : Int32) (a3 : Int32) (h0 : zHp) : Option (Int32 × zHp) :=
  zbd (zcv 7 a0 h0 (f_X7_isChild a0 a1 h0)) (fun v2 h1 =>
  if v2 = 0 then
  some (0, h1)
  else
  zbd ((f_X7_isCell a2 a3 h1)) (fun v4 h3 =>
  if v4 = 0 then
  some (0, h3)
  else
  zob (zgR h3 a0 7 4) (fun v5 =>
  zob (zgR h3 v5 5 6) (fun v6 =>
  zob (zaI 0 h3 v6 a1) (fun v7 =>
  zbd (α := (Unit ⊕ Int32)) (
  if v7 = a2 then
  zob (zgR h3 a0 7 4) (fun v8 =>
  zob (zgR h3 v8 5 7) (fun v9 =>
  zob (zaI 0 h3 v9 a1) (fun v10 =>
  if v10 = a3 then
  some ((.inr 0), h3)
  else
  some ((.inl ()), h3))))
  else
  some ((.inl ()), h3)) (fun b28 h12 => zsl b28 (fun e11 =>
  zob (zgR h12 a0 7 7) (fun v13 =>
  zob (zgR h12 a0 7 4) (fun v14 =>
  zob (zgR h12 v14 5 6) (fun v15 =>
  zob (zaI 0 h12 v15 a1) (fun v16 =>
  zob (zgR h12 a0 7 4) (fun v17 =>
  zob (zgR h12 v17 5 7) (fun v18 =>
  zob (zaI 0 h12 v18 a1) (fun v19 =>
  zbd (zcv 0 v13 h12 (f_X0_remember v13 2 a1 v16 v19 h12)) (fun v21 h20 =>
  zob (zgR h20 a0 7 4) (fun v22 =>
  zob (zgR h20 v22 5 6) (fun v23 =>
  zob (zsI 0 h20 v23 a1 a2) (fun h24 =>
  zob (zgR h24 a0 7 4) (fun v25 =>
  zob (zgR h24 v25 5 7) (fun v26 =>
  zob (zsI 0 h24 v26 a1 a3) (fun h27 =>
  some (1, h27)))))))))))))))) (fun r => some (r, h12))))))))
set_option maxRecDepth 100000 in
set_option maxHeartbeats 4000000 in
theorem t_X7_stand (a0 : Nat) (a1 : Int32) (a2 : Int32) (a3 : Int32) (h0 : zHp) : ∀ (r : Int32) (h' : zHp), f_X7_stand a0 a1 a2 a3 h0 = some (r, h') → zCt yX7_stand (.code yX7_stand cX7_stand 4 (some .boolean)) 3 104 0 0 [.ref a0, .int a1, .int a2, .int a3] h0 (some (.int r)) h' := by
  refine zct_of M_X7_stand yX7_stand (by decide) rfl rfl [.ref a0, .int a1, .int a2, .int a3] h0 (Nat.le_of_ble_eq_true rfl) (fun r => some (.int r)) (fun X => ?_)
  show zG X M_X7_stand (0, 0) 0 [(0, .ref a0), (1, .int a1), (2, .int a2), (3, .int a3)] [] h0 (f_X7_stand a0 a1 a2 a3 h0) (fun (r : Int32) h' => zKe X (some (.int r)) h')
  unfold f_X7_stand
  refine zg_aload_n 0 rfl d_X7_stand_0 ?_
  refine zg_iload_n 1 rfl d_X7_stand_1 ?_
  refine zg_cVi (b := a0) (As := [.int a1]) (rest := []) (0, 0) d_X7_stand_2 zc_7 rfl cw_X7_146 wi_X7_isChild ws_X7_isChild rfl rfl (Nat.le_of_ble_eq_true rfl) (by decide) (by decide) ⟨by decide, by decide⟩ rfl (t_X7_isChild a0 a1 h0) (fun v2 h1 => ?_)
  refine zg_if_eq d_X7_stand_5 ?_ ?_
  · refine zg_iconst 0 rfl d_X7_stand_16 ?_
    exact zg_zretK d_X7_stand_17 rfl ⟨Nat.le_of_ble_eq_true rfl, Nat.le_of_ble_eq_true rfl⟩ (Or.inl rfl) (fun q => q)
  · refine zg_iload_n 2 rfl d_X7_stand_8 ?_
    refine zg_iload_n 3 rfl d_X7_stand_9 ?_
    refine zg_cSi (As := [.int a2, .int a3]) (rest := []) (0, 0) d_X7_stand_10 cw_X7_180 wt_X7_isCell rfl rfl (Nat.le_of_ble_eq_true rfl) (by decide) (by decide) ⟨by decide, by decide⟩ rfl (t_X7_isCell a2 a3 h1) (fun v4 h3 => ?_)
    refine zg_if_ne d_X7_stand_13 ?_ ?_
    · refine zg_iconst 0 rfl d_X7_stand_16 ?_
      exact zg_zretK d_X7_stand_17 rfl ⟨Nat.le_of_ble_eq_true rfl, Nat.le_of_ble_eq_true rfl⟩ (Or.inl rfl) (fun q => q)
    · refine zg_aload_n 0 rfl d_X7_stand_18 ?_
      refine zg_getR d_X7_stand_19 zc_7 (by decide) fl_X7_38 (fun v5 => ?_)
      refine zg_getR d_X7_stand_22 zc_5 (by decide) fl_X7_149 (fun v6 => ?_)
      refine zg_iload_n 1 rfl d_X7_stand_25 ?_
      refine zg_ald0 d_X7_stand_26 (fun v7 => ?_)
      refine zg_iload_n 2 rfl d_X7_stand_27 ?_
      refine zg_bdr (E := 46) (el := (fun (e11 : Unit) => [(0, .ref a0), (1, .int a1), (2, .int a2), (3, .int a3)])) (es := (fun (e11 : Unit) => [])) ?_ (fun e11 h12 => ?_)
      · refine zg_icmp_ne d_X7_stand_28 ?_ ?_
        · refine zg_aload_n 0 rfl d_X7_stand_31 ?_
          refine zg_getR d_X7_stand_32 zc_7 (by decide) fl_X7_38 (fun v8 => ?_)
          refine zg_getR d_X7_stand_35 zc_5 (by decide) fl_X7_152 (fun v9 => ?_)
          refine zg_iload_n 1 rfl d_X7_stand_38 ?_
          refine zg_ald0 d_X7_stand_39 (fun v10 => ?_)
          refine zg_iload_n 3 rfl d_X7_stand_40 ?_
          refine zg_icmp_ne d_X7_stand_41 ?_ ?_
          · refine zg_iconst 0 rfl d_X7_stand_44 ?_
            exact zg_zretK d_X7_stand_45 rfl ⟨Nat.le_of_ble_eq_true rfl, Nat.le_of_ble_eq_true rfl⟩ (Or.inl rfl) (fun q => q)
          · exact zg_finK (E := 0) [0, 1, 2, 3] rfl rfl (fun q => q)
        · exact zg_finK (E := 0) [0, 1, 2, 3] rfl rfl (fun q => q)
      · refine zg_aload_n 0 rfl d_X7_stand_46 ?_
        refine zg_getR d_X7_stand_47 zc_7 (by decide) fl_X7_52 (fun v13 => ?_)
        refine zg_iconst 2 rfl d_X7_stand_50 ?_
        refine zg_iload_n 1 rfl d_X7_stand_51 ?_
        refine zg_aload_n 0 rfl d_X7_stand_52 ?_
        refine zg_getR d_X7_stand_53 zc_7 (by decide) fl_X7_38 (fun v14 => ?_)
        refine zg_getR d_X7_stand_56 zc_5 (by decide) fl_X7_149 (fun v15 => ?_)
        refine zg_iload_n 1 rfl d_X7_stand_59 ?_
        refine zg_ald0 d_X7_stand_60 (fun v16 => ?_)
        refine zg_aload_n 0 rfl d_X7_stand_61 ?_
        refine zg_getR d_X7_stand_62 zc_7 (by decide) fl_X7_38 (fun v17 => ?_)
        refine zg_getR d_X7_stand_65 zc_5 (by decide) fl_X7_152 (fun v18 => ?_)
        refine zg_iload_n 1 rfl d_X7_stand_68 ?_
        refine zg_ald0 d_X7_stand_69 (fun v19 => ?_)
        refine zg_cVv (b := v13) (As := [.int 2, .int a1, .int v16, .int v19]) (rest := []) (0, 0) d_X7_stand_70 zc_0 rfl cw_X7_207 wi_X0_remember ws_X0_remember rfl rfl (Nat.le_of_ble_eq_true rfl) (by decide) (by decide) ⟨by decide, by decide⟩ rfl (t_X0_remember v13 2 a1 v16 v19 h12) (fun v21 h20 => ?_)
        refine zg_aload_n 0 rfl d_X7_stand_73 ?_
        refine zg_getR d_X7_stand_74 zc_7 (by decide) fl_X7_38 (fun v22 => ?_)
        refine zg_getR d_X7_stand_77 zc_5 (by decide) fl_X7_149 (fun v23 => ?_)
        refine zg_iload_n 1 rfl d_X7_stand_80 ?_
        refine zg_iload_n 2 rfl d_X7_stand_81 ?_
        refine zg_ast0 d_X7_stand_82 (fun h24 => ?_)
        refine zg_aload_n 0 rfl d_X7_stand_83 ?_
        refine zg_getR d_X7_stand_84 zc_7 (by decide) fl_X7_38 (fun v25 => ?_)
        refine zg_getR d_X7_stand_87 zc_5 (by decide) fl_X7_152 (fun v26 => ?_)
        refine zg_iload_n 1 rfl d_X7_stand_90 ?_
        refine zg_iload_n 3 rfl d_X7_stand_91 ?_
        refine zg_ast0 d_X7_stand_92 (fun h27 => ?_)
        refine zg_iconst 1 rfl d_X7_stand_93 ?_
        exact zg_zretK d_X7_stand_94 rfl ⟨Nat.le_of_ble_eq_true rfl, Nat.le_of_ble_eq_true rfl⟩ (Or.inr rfl) (fun q => q)
abbrev M_X7_station : zMt := (RX7, cX7_station, 5, 7, 205, (some .int), "station", 0, 0)
theorem d_X7_station_0 : zDc M_X7_station 0 (.aload_n 0) 1 1 := ⟨by decide +kernel, rfl⟩
theorem d_X7_station_1 : zDc M_X7_station 1 (.iload_n 1) 1 2 := ⟨by decide +kernel, rfl⟩
theorem d_X7_station_2 : zDc M_X7_station 2 (.invokevirtual 146) 3 5 := ⟨by decide +kernel, rfl⟩
theorem d_X7_station_5 : zDj M_X7_station 5 (.ifCond .eq 22) 22 8 27 := ⟨by decide +kernel, rfl, by decide⟩
theorem d_X7_station_8 : zDc M_X7_station 8 (.iconst 1) 1 9 := ⟨by decide +kernel, rfl⟩
theorem d_X7_station_9 : zDc M_X7_station 9 (.iload_n 2) 1 10 := ⟨by decide +kernel, rfl⟩
theorem d_X7_station_10 : zDc M_X7_station 10 (.bipush 60) 2 12 := ⟨by decide +kernel, rfl⟩
theorem d_X7_station_12 : zDc M_X7_station 12 (.invokestatic 194) 3 15 := ⟨by decide +kernel, rfl⟩
theorem d_X7_station_15 : zDj M_X7_station 15 (.ifCond .eq 12) 12 18 27 := ⟨by decide +kernel, rfl, by decide⟩
theorem d_X7_station_18 : zDc M_X7_station 18 (.iconst 0) 1 19 := ⟨by decide +kernel, rfl⟩
theorem d_X7_station_19 : zDc M_X7_station 19 (.iload_n 3) 1 20 := ⟨by decide +kernel, rfl⟩
theorem d_X7_station_20 : zDc M_X7_station 20 (.iconst 1) 1 21 := ⟨by decide +kernel, rfl⟩
theorem d_X7_station_21 : zDc M_X7_station 21 (.invokestatic 194) 3 24 := ⟨by decide +kernel, rfl⟩
theorem d_X7_station_24 : zDj M_X7_station 24 (.ifCond .ne 5) 5 27 29 := ⟨by decide +kernel, rfl, by decide⟩
theorem d_X7_station_27 : zDc M_X7_station 27 (.iconst (-1)) 1 28 := ⟨by decide +kernel, rfl⟩
theorem d_X7_station_28 : zDc M_X7_station 28 (.ireturn) 1 29 := ⟨by decide +kernel, rfl⟩
theorem d_X7_station_29 : zDc M_X7_station 29 (.aload_n 0) 1 30 := ⟨by decide +kernel, rfl⟩
theorem d_X7_station_30 : zDc M_X7_station 30 (.getfield 66) 3 33 := ⟨by decide +kernel, rfl⟩
theorem d_X7_station_33 : zDc M_X7_station 33 (.aload_n 0) 1 34 := ⟨by decide +kernel, rfl⟩
theorem d_X7_station_34 : zDc M_X7_station 34 (.getfield 38) 3 37 := ⟨by decide +kernel, rfl⟩
theorem d_X7_station_37 : zDc M_X7_station 37 (.iload_n 1) 1 38 := ⟨by decide +kernel, rfl⟩
theorem d_X7_station_38 : zDc M_X7_station 38 (.iload_n 2) 1 39 := ⟨by decide +kernel, rfl⟩
theorem d_X7_station_39 : zDc M_X7_station 39 (.invokevirtual 254) 3 42 := ⟨by decide +kernel, rfl⟩
theorem d_X7_station_42 : zDc M_X7_station 42 (.istore 4) 2 44 := ⟨by decide +kernel, rfl⟩
theorem d_X7_station_44 : zDc M_X7_station 44 (.iload_n 3) 1 45 := ⟨by decide +kernel, rfl⟩
theorem d_X7_station_45 : zDj M_X7_station 45 (.ifCond .ne 8) 8 48 53 := ⟨by decide +kernel, rfl, by decide⟩
theorem d_X7_station_48 : zDc M_X7_station 48 (.iload 4) 2 50 := ⟨by decide +kernel, rfl⟩
theorem d_X7_station_50 : zDj M_X7_station 50 (.goto 12) 12 53 62 := ⟨by decide +kernel, rfl, by decide⟩
theorem d_X7_station_53 : zDc M_X7_station 53 (.aload_n 0) 1 54 := ⟨by decide +kernel, rfl⟩
theorem d_X7_station_54 : zDc M_X7_station 54 (.getfield 66) 3 57 := ⟨by decide +kernel, rfl⟩
theorem d_X7_station_57 : zDc M_X7_station 57 (.iload 4) 2 59 := ⟨by decide +kernel, rfl⟩
theorem d_X7_station_59 : zDc M_X7_station 59 (.invokevirtual 258) 3 62 := ⟨by decide +kernel, rfl⟩
theorem d_X7_station_62 : zDc M_X7_station 62 (.ireturn) 1 63 := ⟨by decide +kernel, rfl⟩
def f_X7_station (a0 : Nat) (a1 : Int32) (a2 : Int32) (a3 : Int32) (h0 : zHp) : Option (Int32 × zHp) :=
  zbd (zcv 7 a0 h0 (f_X7_isChild a0 a1 h0)) (fun v2 h1 =>
  if v2 = 0 then
  some ((-1), h1)
  else
  zbd ((f_X7_isFrom 1 a2 60 h1)) (fun v4 h3 =>
  if v4 = 0 then
  some ((-1), h3)
  else
  zbd ((f_X7_isFrom 0 a3 1 h3)) (fun v6 h5 =>
  if v6 = 0 then
  some ((-1), h5)
  else
  zob (zgR h5 a0 7 9) (fun v7 =>
  zob (zgR h5 a0 7 4) (fun v8 =>
  zbd (zcv 1 v7 h5 (f_X1_stationOf v7 v8 a1 a2 h5)) (fun v10 h9 =>
  if a3 = 0 then
  some (v10, h9)
  else
  zob (zgR h9 a0 7 9) (fun v11 =>
  zbd (zcv 1 v11 h9 (f_X1_seenFrom v11 v10 h9)) (fun v13 h12 =>
  some (v13, h12)))))))))
set_option maxRecDepth 100000 in
set_option maxHeartbeats 4000000 in
theorem t_X7_station (a0 : Nat) (a1 : Int32) (a2 : Int32) (a3 : Int32) (h0 : zHp) : ∀ (r : Int32) (h' : zHp), f_X7_station a0 a1 a2 a3 h0 = some (r, h') → zCt yX7_station (.code yX7_station cX7_station 5 (some .int)) 7 205 0 0 [.ref a0, .int a1, .int a2, .int a3] h0 (some (.int r)) h' := by
  refine zct_of M_X7_station yX7_station (by decide) rfl rfl [.ref a0, .int a1, .int a2, .int a3] h0 (Nat.le_of_ble_eq_true rfl) (fun r => some (.int r)) (fun X => ?_)
  show zG X M_X7_station (0, 0) 0 [(0, .ref a0), (1, .int a1), (2, .int a2), (3, .int a3)] [] h0 (f_X7_station a0 a1 a2 a3 h0) (fun (r : Int32) h' => zKe X (some (.int r)) h')
  unfold f_X7_station
  refine zg_aload_n 0 rfl d_X7_station_0 ?_
  refine zg_iload_n 1 rfl d_X7_station_1 ?_
  refine zg_cVi (b := a0) (As := [.int a1]) (rest := []) (0, 0) d_X7_station_2 zc_7 rfl cw_X7_146 wi_X7_isChild ws_X7_isChild rfl rfl (Nat.le_of_ble_eq_true rfl) (by decide) (by decide) ⟨by decide, by decide⟩ rfl (t_X7_isChild a0 a1 h0) (fun v2 h1 => ?_)
  refine zg_if_eq d_X7_station_5 ?_ ?_
  · refine zg_iconst (-1) rfl d_X7_station_27 ?_
    exact zg_iretK d_X7_station_28 rfl ⟨Nat.le_of_ble_eq_true rfl, Nat.le_of_ble_eq_true rfl⟩ (fun q => q)
  · refine zg_iconst 1 rfl d_X7_station_8 ?_
    refine zg_iload_n 2 rfl d_X7_station_9 ?_
    refine zg_bipush 60 rfl d_X7_station_10 ?_
    refine zg_cSi (As := [.int 1, .int a2, .int 60]) (rest := []) (0, 0) d_X7_station_12 cw_X7_194 wt_X7_isFrom rfl rfl (Nat.le_of_ble_eq_true rfl) (by decide) (by decide) ⟨by decide, by decide⟩ rfl (t_X7_isFrom 1 a2 60 h1) (fun v4 h3 => ?_)
    refine zg_if_eq d_X7_station_15 ?_ ?_
    · refine zg_iconst (-1) rfl d_X7_station_27 ?_
      exact zg_iretK d_X7_station_28 rfl ⟨Nat.le_of_ble_eq_true rfl, Nat.le_of_ble_eq_true rfl⟩ (fun q => q)
    · refine zg_iconst 0 rfl d_X7_station_18 ?_
      refine zg_iload_n 3 rfl d_X7_station_19 ?_
      refine zg_iconst 1 rfl d_X7_station_20 ?_
      refine zg_cSi (As := [.int 0, .int a3, .int 1]) (rest := []) (0, 0) d_X7_station_21 cw_X7_194 wt_X7_isFrom rfl rfl (Nat.le_of_ble_eq_true rfl) (by decide) (by decide) ⟨by decide, by decide⟩ rfl (t_X7_isFrom 0 a3 1 h3) (fun v6 h5 => ?_)
      refine zg_if_ne d_X7_station_24 ?_ ?_
      · refine zg_iconst (-1) rfl d_X7_station_27 ?_
        exact zg_iretK d_X7_station_28 rfl ⟨Nat.le_of_ble_eq_true rfl, Nat.le_of_ble_eq_true rfl⟩ (fun q => q)
      · refine zg_aload_n 0 rfl d_X7_station_29 ?_
        refine zg_getR d_X7_station_30 zc_7 (by decide) fl_X7_66 (fun v7 => ?_)
        refine zg_aload_n 0 rfl d_X7_station_33 ?_
        refine zg_getR d_X7_station_34 zc_7 (by decide) fl_X7_38 (fun v8 => ?_)
        refine zg_iload_n 1 rfl d_X7_station_37 ?_
        refine zg_iload_n 2 rfl d_X7_station_38 ?_
        refine zg_cVi (b := v7) (As := [.ref v8, .int a1, .int a2]) (rest := []) (0, 0) d_X7_station_39 zc_1 rfl cw_X7_254 wi_X1_stationOf ws_X1_stationOf rfl rfl (Nat.le_of_ble_eq_true rfl) (by decide) (by decide) ⟨by decide, by decide⟩ rfl (t_X1_stationOf v7 v8 a1 a2 h5) (fun v10 h9 => ?_)
        refine zg_istore [(4, .int v10), (0, .ref a0), (1, .int a1), (2, .int a2), (3, .int a3)] d_X7_station_42 (by decide) rfl ?_
        refine zg_iload_n 4 rfl d_X7_station_44 ?_
        refine zg_if_ne d_X7_station_45 ?_ ?_
        · refine zg_iload 0 rfl d_X7_station_48 ?_
          refine zg_goto d_X7_station_50 ?_
          exact zg_iretK d_X7_station_62 rfl ⟨Nat.le_of_ble_eq_true rfl, Nat.le_of_ble_eq_true rfl⟩ (fun q => q)
        · refine zg_aload_n 1 rfl d_X7_station_53 ?_
          refine zg_getR d_X7_station_54 zc_7 (by decide) fl_X7_66 (fun v11 => ?_)
          refine zg_iload 0 rfl d_X7_station_57 ?_
          refine zg_cVi (b := v11) (As := [.int v10]) (rest := []) (0, 0) d_X7_station_59 zc_1 rfl cw_X7_258 wi_X1_seenFrom ws_X1_seenFrom rfl rfl (Nat.le_of_ble_eq_true rfl) (by decide) (by decide) ⟨by decide, by decide⟩ rfl (t_X1_seenFrom v11 v10 h9) (fun v13 h12 => ?_)
          exact zg_iretK d_X7_station_62 rfl ⟨Nat.le_of_ble_eq_true rfl, Nat.le_of_ble_eq_true rfl⟩ (fun q => q)
abbrev M_X7_swap : zMt := (RX7, cX7_swap, 5, 3, 106, (some .int), "swap", 0, 0)
theorem d_X7_swap_0 : zDc M_X7_swap 0 (.iload_n 1) 1 1 := ⟨by decide +kernel, rfl⟩
theorem d_X7_swap_1 : zDj M_X7_swap 1 (.ifCond .ge 5) 5 4 6 := ⟨by decide +kernel, rfl, by decide⟩
theorem d_X7_swap_4 : zDc M_X7_swap 4 (.iconst (-1)) 1 5 := ⟨by decide +kernel, rfl⟩
theorem d_X7_swap_5 : zDc M_X7_swap 5 (.ireturn) 1 6 := ⟨by decide +kernel, rfl⟩
theorem d_X7_swap_6 : zDc M_X7_swap 6 (.iload_n 1) 1 7 := ⟨by decide +kernel, rfl⟩
theorem d_X7_swap_7 : zDc M_X7_swap 7 (.istore_n 2) 1 8 := ⟨by decide +kernel, rfl⟩
theorem d_X7_swap_8 : zDc M_X7_swap 8 (.iconst 0) 1 9 := ⟨by decide +kernel, rfl⟩
theorem d_X7_swap_9 : zDc M_X7_swap 9 (.istore_n 3) 1 10 := ⟨by decide +kernel, rfl⟩
theorem d_X7_swap_10 : zDc M_X7_swap 10 (.iload_n 3) 1 11 := ⟨by decide +kernel, rfl⟩
theorem d_X7_swap_11 : zDc M_X7_swap 11 (.aload_n 0) 1 12 := ⟨by decide +kernel, rfl⟩
theorem d_X7_swap_12 : zDc M_X7_swap 12 (.getfield 29) 3 15 := ⟨by decide +kernel, rfl⟩
theorem d_X7_swap_15 : zDc M_X7_swap 15 (.getfield 109) 3 18 := ⟨by decide +kernel, rfl⟩
theorem d_X7_swap_18 : zDj M_X7_swap 18 (.if_icmp .ge 60) 60 21 78 := ⟨by decide +kernel, rfl, by decide⟩
theorem d_X7_swap_21 : zDc M_X7_swap 21 (.iload_n 3) 1 22 := ⟨by decide +kernel, rfl⟩
theorem d_X7_swap_22 : zDc M_X7_swap 22 (.iconst 1) 1 23 := ⟨by decide +kernel, rfl⟩
theorem d_X7_swap_23 : zDc M_X7_swap 23 (.iadd) 1 24 := ⟨by decide +kernel, rfl⟩
theorem d_X7_swap_24 : zDc M_X7_swap 24 (.istore 4) 2 26 := ⟨by decide +kernel, rfl⟩
theorem d_X7_swap_26 : zDc M_X7_swap 26 (.iload 4) 2 28 := ⟨by decide +kernel, rfl⟩
theorem d_X7_swap_28 : zDc M_X7_swap 28 (.aload_n 0) 1 29 := ⟨by decide +kernel, rfl⟩
theorem d_X7_swap_29 : zDc M_X7_swap 29 (.getfield 29) 3 32 := ⟨by decide +kernel, rfl⟩
theorem d_X7_swap_32 : zDc M_X7_swap 32 (.getfield 109) 3 35 := ⟨by decide +kernel, rfl⟩
theorem d_X7_swap_35 : zDj M_X7_swap 35 (.if_icmp .ge 37) 37 38 72 := ⟨by decide +kernel, rfl, by decide⟩
theorem d_X7_swap_38 : zDc M_X7_swap 38 (.aload_n 0) 1 39 := ⟨by decide +kernel, rfl⟩
theorem d_X7_swap_39 : zDc M_X7_swap 39 (.getfield 38) 3 42 := ⟨by decide +kernel, rfl⟩
theorem d_X7_swap_42 : zDc M_X7_swap 42 (.iload_n 3) 1 43 := ⟨by decide +kernel, rfl⟩
theorem d_X7_swap_43 : zDc M_X7_swap 43 (.iload 4) 2 45 := ⟨by decide +kernel, rfl⟩
theorem d_X7_swap_45 : zDc M_X7_swap 45 (.invokevirtual 272) 3 48 := ⟨by decide +kernel, rfl⟩
theorem d_X7_swap_48 : zDj M_X7_swap 48 (.ifCond .eq 18) 18 51 66 := ⟨by decide +kernel, rfl, by decide⟩
theorem d_X7_swap_51 : zDc M_X7_swap 51 (.iload_n 2) 1 52 := ⟨by decide +kernel, rfl⟩
theorem d_X7_swap_52 : zDj M_X7_swap 52 (.ifCond .ne 11) 11 55 63 := ⟨by decide +kernel, rfl, by decide⟩
theorem d_X7_swap_55 : zDc M_X7_swap 55 (.bipush 10) 2 57 := ⟨by decide +kernel, rfl⟩
theorem d_X7_swap_57 : zDc M_X7_swap 57 (.iload_n 3) 1 58 := ⟨by decide +kernel, rfl⟩
theorem d_X7_swap_58 : zDc M_X7_swap 58 (.imul) 1 59 := ⟨by decide +kernel, rfl⟩
theorem d_X7_swap_59 : zDc M_X7_swap 59 (.iload 4) 2 61 := ⟨by decide +kernel, rfl⟩
theorem d_X7_swap_61 : zDc M_X7_swap 61 (.iadd) 1 62 := ⟨by decide +kernel, rfl⟩
theorem d_X7_swap_62 : zDc M_X7_swap 62 (.ireturn) 1 63 := ⟨by decide +kernel, rfl⟩
theorem d_X7_swap_63 : zDc M_X7_swap 63 (.iinc 2 (-1)) 3 66 := ⟨by decide +kernel, rfl⟩
theorem d_X7_swap_66 : zDc M_X7_swap 66 (.iinc 4 1) 3 69 := ⟨by decide +kernel, rfl⟩
theorem d_X7_swap_69 : zDj M_X7_swap 69 (.goto (-43)) (-43) 72 26 := ⟨by decide +kernel, rfl, by decide⟩
theorem d_X7_swap_72 : zDc M_X7_swap 72 (.iinc 3 1) 3 75 := ⟨by decide +kernel, rfl⟩
theorem d_X7_swap_75 : zDj M_X7_swap 75 (.goto (-65)) (-65) 78 10 := ⟨by decide +kernel, rfl, by decide⟩
theorem d_X7_swap_78 : zDc M_X7_swap 78 (.bipush (-2)) 2 80 := ⟨by decide +kernel, rfl⟩
theorem d_X7_swap_80 : zDc M_X7_swap 80 (.ireturn) 1 81 := ⟨by decide +kernel, rfl⟩
def f_X7_swap (a0 : Nat) (a1 : Int32) (h0 : zHp) : Option (Int32 × zHp) :=
  if 0 ≤ a1 then
  zbd (
  zlp (σ := (Int32 × Int32)) (β := ((Int32 × Int32) ⊕ Int32)) zLF (fun s1 h2 =>
  zob (zgR h2 a0 7 3) (fun v5 =>
  zob (zgI h2 v5 6 14) (fun v6 =>
  if v6 ≤ s1.2 then
  some ((.inr (.inl (s1.1, s1.2))), h2)
  else
  zbd (
  zlp (σ := (Int32 × Int32)) (β := ((Int32 × Int32) ⊕ ((Int32 × Int32) ⊕ ((Int32 × Int32) ⊕ Int32)))) zLF (fun s7 h8 =>
  zob (zgR h8 a0 7 3) (fun v11 =>
  zob (zgI h8 v11 6 14) (fun v12 =>
  if v12 ≤ s7.2 then
  some ((.inr (.inl (s7.1, s7.2))), h8)
  else
  zob (zgR h8 a0 7 4) (fun v13 =>
  zbd (zcv 5 v13 h8 (f_X5_wouldSwap v13 s1.2 s7.2 h8)) (fun v15 h14 =>
  if v15 = 0 then
  some ((.inl (s7.1, (s7.2 + 1))), h14)
  else
  if s7.1 = 0 then
  some ((.inr (.inr (.inr (.inr ((10 * s1.2) + s7.2))))), h14)
  else
  some ((.inl ((s7.1 + (-1)), (s7.2 + 1))), h14)))))) (s1.1, (s1.2 + 1)) h2) (fun b16 h10 => zsl b16 (fun e9 =>
  some ((.inl (e9.1, (s1.2 + 1))), h10)) (fun r => some (r, h10)))))) (a1, 0) h0) (fun b17 h4 => zsl b17 (fun e3 =>
  some ((-2), h4)) (fun r => some (r, h4)))
  else
  some ((-1), h0)
set_option maxRecDepth 100000 in
set_option maxHeartbeats 4000000 in
theorem t_X7_swap (a0 : Nat) (a1 : Int32) (h0 : zHp) : ∀ (r : Int32) (h' : zHp), f_X7_swap a0 a1 h0 = some (r, h') → zCt yX7_swap (.code yX7_swap cX7_swap 5 (some .int)) 3 106 0 0 [.ref a0, .int a1] h0 (some (.int r)) h' := by
  refine zct_of M_X7_swap yX7_swap (by decide) rfl rfl [.ref a0, .int a1] h0 (Nat.le_of_ble_eq_true rfl) (fun r => some (.int r)) (fun X => ?_)
  show zG X M_X7_swap (0, 0) 0 [(0, .ref a0), (1, .int a1)] [] h0 (f_X7_swap a0 a1 h0) (fun (r : Int32) h' => zKe X (some (.int r)) h')
  unfold f_X7_swap
  refine zg_iload_n 1 rfl d_X7_swap_0 ?_
  refine zg_if_ge d_X7_swap_1 ?_ ?_
  · refine zg_iload_n 1 rfl d_X7_swap_6 ?_
    refine zg_istore_n [(2, .int a1), (0, .ref a0), (1, .int a1)] d_X7_swap_7 rfl (by decide) rfl ?_
    refine zg_iconst 0 rfl d_X7_swap_8 ?_
    refine zg_istore_n [(3, .int 0), (2, .int a1), (0, .ref a0), (1, .int a1)] d_X7_swap_9 rfl (by decide) rfl ?_
    refine zg_bdr (E := 78) (el := (fun (e3 : (Int32 × Int32)) => [(0, .ref a0), (1, .int a1), (2, .int e3.1), (3, .int e3.2)])) (es := fun _ => []) (zg_sub [2, 3, 1, 0] rfl (zg_lp (el := (fun (s1 : (Int32 × Int32)) => [(0, .ref a0), (1, .int a1), (2, .int s1.1), (3, .int s1.2)])) (fun s1 h2 => ?_) (a1, 0) h0)) (fun e3 h4 => ?_)
    · refine zg_iload_n 3 rfl d_X7_swap_10 ?_
      refine zg_aload_n 0 rfl d_X7_swap_11 ?_
      refine zg_getR d_X7_swap_12 zc_7 (by decide) fl_X7_29 (fun v5 => ?_)
      refine zg_getI d_X7_swap_15 zc_6 (by decide) fl_X7_109 (fun v6 => ?_)
      refine zg_icmp_ge d_X7_swap_18 ?_ ?_
      · exact zg_finK (E := 0) [0, 1, 2, 3] rfl rfl (fun q => q)
      · refine zg_iload_n 3 rfl d_X7_swap_21 ?_
        refine zg_iconst 1 rfl d_X7_swap_22 ?_
        refine zg_iadd d_X7_swap_23 ?_
        refine zg_istore [(4, .int (s1.2 + 1)), (0, .ref a0), (1, .int a1), (2, .int s1.1), (3, .int s1.2)] d_X7_swap_24 (by decide) rfl ?_
        refine zg_bdr (E := 72) (el := (fun (e9 : (Int32 × Int32)) => [(0, .ref a0), (1, .int a1), (2, .int e9.1), (3, .int s1.2), (4, .int e9.2)])) (es := fun _ => []) (zg_sub [1, 2, 3, 4, 0] rfl (zg_lp (el := (fun (s7 : (Int32 × Int32)) => [(0, .ref a0), (1, .int a1), (2, .int s7.1), (3, .int s1.2), (4, .int s7.2)])) (fun s7 h8 => ?_) (s1.1, (s1.2 + 1)) h2)) (fun e9 h10 => ?_)
        · refine zg_iload 4 rfl d_X7_swap_26 ?_
          refine zg_aload_n 0 rfl d_X7_swap_28 ?_
          refine zg_getR d_X7_swap_29 zc_7 (by decide) fl_X7_29 (fun v11 => ?_)
          refine zg_getI d_X7_swap_32 zc_6 (by decide) fl_X7_109 (fun v12 => ?_)
          refine zg_icmp_ge d_X7_swap_35 ?_ ?_
          · exact zg_finK (E := 0) [0, 1, 2, 3, 4] rfl rfl (fun q => q)
          · refine zg_aload_n 0 rfl d_X7_swap_38 ?_
            refine zg_getR d_X7_swap_39 zc_7 (by decide) fl_X7_38 (fun v13 => ?_)
            refine zg_iload_n 3 rfl d_X7_swap_42 ?_
            refine zg_iload 4 rfl d_X7_swap_43 ?_
            refine zg_cVi (b := v13) (As := [.int s1.2, .int s7.2]) (rest := []) (0, 0) d_X7_swap_45 zc_5 rfl cw_X7_272 wi_X5_wouldSwap ws_X5_wouldSwap rfl rfl (Nat.le_of_ble_eq_true rfl) (by decide) (by decide) ⟨by decide, by decide⟩ rfl (t_X5_wouldSwap v13 s1.2 s7.2 h8) (fun v15 h14 => ?_)
            refine zg_if_eq d_X7_swap_48 ?_ ?_
            · refine zg_iinc 4 (s7.2 + 1) [(4, .int (s7.2 + 1)), (0, .ref a0), (1, .int a1), (2, .int s7.1), (3, .int s1.2)] d_X7_swap_66 rfl rfl (by decide) rfl ?_
              refine zg_goto d_X7_swap_69 ?_
              exact zg_finK (E := 0) [1, 2, 3, 4, 0] rfl rfl (fun q => q)
            · refine zg_iload_n 2 rfl d_X7_swap_51 ?_
              refine zg_if_ne d_X7_swap_52 ?_ ?_
              · refine zg_bipush 10 rfl d_X7_swap_55 ?_
                refine zg_iload_n 3 rfl d_X7_swap_57 ?_
                refine zg_imul d_X7_swap_58 ?_
                refine zg_iload 4 rfl d_X7_swap_59 ?_
                refine zg_iadd d_X7_swap_61 ?_
                exact zg_iretK d_X7_swap_62 rfl ⟨Nat.le_of_ble_eq_true rfl, Nat.le_of_ble_eq_true rfl⟩ (fun q => q)
              · refine zg_iinc 2 (s7.1 + (-1)) [(2, .int (s7.1 + (-1))), (0, .ref a0), (1, .int a1), (3, .int s1.2), (4, .int s7.2)] d_X7_swap_63 rfl rfl (by decide) rfl ?_
                refine zg_iinc 4 (s7.2 + 1) [(4, .int (s7.2 + 1)), (2, .int (s7.1 + (-1))), (0, .ref a0), (1, .int a1), (3, .int s1.2)] d_X7_swap_66 rfl rfl (by decide) rfl ?_
                refine zg_goto d_X7_swap_69 ?_
                exact zg_finK (E := 0) [2, 3, 1, 4, 0] rfl rfl (fun q => q)
        · refine zg_iinc 3 (s1.2 + 1) [(3, .int (s1.2 + 1)), (0, .ref a0), (1, .int a1), (2, .int e9.1), (4, .int e9.2)] d_X7_swap_72 rfl rfl (by decide) rfl ?_
          refine zg_goto d_X7_swap_75 ?_
          exact zg_finK (E := 0) [1, 2, 3, 0] rfl rfl (fun q => q)
    · refine zg_bipush (-2) rfl d_X7_swap_78 ?_
      exact zg_iretK d_X7_swap_80 rfl ⟨Nat.le_of_ble_eq_true rfl, Nat.le_of_ble_eq_true rfl⟩ (fun q => q)
  · refine zg_iconst (-1) rfl d_X7_swap_4 ?_
    exact zg_iretK d_X7_swap_5 rfl ⟨Nat.le_of_ble_eq_true rfl, Nat.le_of_ble_eq_true rfl⟩ (fun q => q)
abbrev M_X7_swaps : zMt := (RX7, cX7_swaps, 4, 3, 106, (some .int), "swaps", 0, 0)
theorem d_X7_swaps_0 : zDc M_X7_swaps 0 (.iconst 0) 1 1 := ⟨by decide +kernel, rfl⟩
theorem d_X7_swaps_1 : zDc M_X7_swaps 1 (.istore_n 1) 1 2 := ⟨by decide +kernel, rfl⟩
theorem d_X7_swaps_2 : zDc M_X7_swaps 2 (.iconst 0) 1 3 := ⟨by decide +kernel, rfl⟩
theorem d_X7_swaps_3 : zDc M_X7_swaps 3 (.istore_n 2) 1 4 := ⟨by decide +kernel, rfl⟩
theorem d_X7_swaps_4 : zDc M_X7_swaps 4 (.iload_n 2) 1 5 := ⟨by decide +kernel, rfl⟩
theorem d_X7_swaps_5 : zDc M_X7_swaps 5 (.aload_n 0) 1 6 := ⟨by decide +kernel, rfl⟩
theorem d_X7_swaps_6 : zDc M_X7_swaps 6 (.getfield 29) 3 9 := ⟨by decide +kernel, rfl⟩
theorem d_X7_swaps_9 : zDc M_X7_swaps 9 (.getfield 109) 3 12 := ⟨by decide +kernel, rfl⟩
theorem d_X7_swaps_12 : zDj M_X7_swaps 12 (.if_icmp .ge 45) 45 15 57 := ⟨by decide +kernel, rfl, by decide⟩
theorem d_X7_swaps_15 : zDc M_X7_swaps 15 (.iload_n 2) 1 16 := ⟨by decide +kernel, rfl⟩
theorem d_X7_swaps_16 : zDc M_X7_swaps 16 (.iconst 1) 1 17 := ⟨by decide +kernel, rfl⟩
theorem d_X7_swaps_17 : zDc M_X7_swaps 17 (.iadd) 1 18 := ⟨by decide +kernel, rfl⟩
theorem d_X7_swaps_18 : zDc M_X7_swaps 18 (.istore_n 3) 1 19 := ⟨by decide +kernel, rfl⟩
theorem d_X7_swaps_19 : zDc M_X7_swaps 19 (.iload_n 3) 1 20 := ⟨by decide +kernel, rfl⟩
theorem d_X7_swaps_20 : zDc M_X7_swaps 20 (.aload_n 0) 1 21 := ⟨by decide +kernel, rfl⟩
theorem d_X7_swaps_21 : zDc M_X7_swaps 21 (.getfield 29) 3 24 := ⟨by decide +kernel, rfl⟩
theorem d_X7_swaps_24 : zDc M_X7_swaps 24 (.getfield 109) 3 27 := ⟨by decide +kernel, rfl⟩
theorem d_X7_swaps_27 : zDj M_X7_swaps 27 (.if_icmp .ge 24) 24 30 51 := ⟨by decide +kernel, rfl, by decide⟩
theorem d_X7_swaps_30 : zDc M_X7_swaps 30 (.aload_n 0) 1 31 := ⟨by decide +kernel, rfl⟩
theorem d_X7_swaps_31 : zDc M_X7_swaps 31 (.getfield 38) 3 34 := ⟨by decide +kernel, rfl⟩
theorem d_X7_swaps_34 : zDc M_X7_swaps 34 (.iload_n 2) 1 35 := ⟨by decide +kernel, rfl⟩
theorem d_X7_swaps_35 : zDc M_X7_swaps 35 (.iload_n 3) 1 36 := ⟨by decide +kernel, rfl⟩
theorem d_X7_swaps_36 : zDc M_X7_swaps 36 (.invokevirtual 272) 3 39 := ⟨by decide +kernel, rfl⟩
theorem d_X7_swaps_39 : zDj M_X7_swaps 39 (.ifCond .eq 6) 6 42 45 := ⟨by decide +kernel, rfl, by decide⟩
theorem d_X7_swaps_42 : zDc M_X7_swaps 42 (.iinc 1 1) 3 45 := ⟨by decide +kernel, rfl⟩
theorem d_X7_swaps_45 : zDc M_X7_swaps 45 (.iinc 3 1) 3 48 := ⟨by decide +kernel, rfl⟩
theorem d_X7_swaps_48 : zDj M_X7_swaps 48 (.goto (-29)) (-29) 51 19 := ⟨by decide +kernel, rfl, by decide⟩
theorem d_X7_swaps_51 : zDc M_X7_swaps 51 (.iinc 2 1) 3 54 := ⟨by decide +kernel, rfl⟩
theorem d_X7_swaps_54 : zDj M_X7_swaps 54 (.goto (-50)) (-50) 57 4 := ⟨by decide +kernel, rfl, by decide⟩
theorem d_X7_swaps_57 : zDc M_X7_swaps 57 (.iload_n 1) 1 58 := ⟨by decide +kernel, rfl⟩
theorem d_X7_swaps_58 : zDc M_X7_swaps 58 (.ireturn) 1 59 := ⟨by decide +kernel, rfl⟩
def f_X7_swaps (a0 : Nat) (h0 : zHp) : Option (Int32 × zHp) :=
  zbd (
  zlp (σ := (Int32 × Int32)) (β := (Int32 × Int32)) zLF (fun s1 h2 =>
  zob (zgR h2 a0 7 3) (fun v5 =>
  zob (zgI h2 v5 6 14) (fun v6 =>
  if v6 ≤ s1.2 then
  some ((.inr (s1.1, s1.2)), h2)
  else
  zbd (
  zlp (σ := (Int32 × Int32)) (β := (Int32 × Int32)) zLF (fun s7 h8 =>
  zob (zgR h8 a0 7 3) (fun v11 =>
  zob (zgI h8 v11 6 14) (fun v12 =>
  if v12 ≤ s7.2 then
  some ((.inr (s7.1, s7.2)), h8)
  else
  zob (zgR h8 a0 7 4) (fun v13 =>
  zbd (zcv 5 v13 h8 (f_X5_wouldSwap v13 s1.2 s7.2 h8)) (fun v15 h14 =>
  if v15 = 0 then
  some ((.inl (s7.1, (s7.2 + 1))), h14)
  else
  some ((.inl ((s7.1 + 1), (s7.2 + 1))), h14)))))) (s1.1, (s1.2 + 1)) h2) (fun e9 h10 =>
  some ((.inl (e9.1, (s1.2 + 1))), h10))))) (0, 0) h0) (fun e3 h4 =>
  some (e3.1, h4))
set_option maxRecDepth 100000 in
set_option maxHeartbeats 4000000 in
theorem t_X7_swaps (a0 : Nat) (h0 : zHp) : ∀ (r : Int32) (h' : zHp), f_X7_swaps a0 h0 = some (r, h') → zCt yX7_swaps (.code yX7_swaps cX7_swaps 4 (some .int)) 3 106 0 0 [.ref a0] h0 (some (.int r)) h' := by
  refine zct_of M_X7_swaps yX7_swaps (by decide) rfl rfl [.ref a0] h0 (Nat.le_of_ble_eq_true rfl) (fun r => some (.int r)) (fun X => ?_)
  show zG X M_X7_swaps (0, 0) 0 [(0, .ref a0)] [] h0 (f_X7_swaps a0 h0) (fun (r : Int32) h' => zKe X (some (.int r)) h')
  unfold f_X7_swaps
  refine zg_iconst 0 rfl d_X7_swaps_0 ?_
  refine zg_istore_n [(1, .int 0), (0, .ref a0)] d_X7_swaps_1 rfl (by decide) rfl ?_
  refine zg_iconst 0 rfl d_X7_swaps_2 ?_
  refine zg_istore_n [(2, .int 0), (1, .int 0), (0, .ref a0)] d_X7_swaps_3 rfl (by decide) rfl ?_
  refine zg_bd (E := 57) (el := (fun (e3 : (Int32 × Int32)) => [(0, .ref a0), (1, .int e3.1), (2, .int e3.2)])) (es := fun _ => []) (zg_sub [2, 1, 0] rfl (zg_lp (el := (fun (s1 : (Int32 × Int32)) => [(0, .ref a0), (1, .int s1.1), (2, .int s1.2)])) (fun s1 h2 => ?_) (0, 0) h0)) (fun e3 h4 => ?_)
  · refine zg_iload_n 2 rfl d_X7_swaps_4 ?_
    refine zg_aload_n 0 rfl d_X7_swaps_5 ?_
    refine zg_getR d_X7_swaps_6 zc_7 (by decide) fl_X7_29 (fun v5 => ?_)
    refine zg_getI d_X7_swaps_9 zc_6 (by decide) fl_X7_109 (fun v6 => ?_)
    refine zg_icmp_ge d_X7_swaps_12 ?_ ?_
    · exact zg_finK (E := 0) [0, 1, 2] rfl rfl (fun q => q)
    · refine zg_iload_n 2 rfl d_X7_swaps_15 ?_
      refine zg_iconst 1 rfl d_X7_swaps_16 ?_
      refine zg_iadd d_X7_swaps_17 ?_
      refine zg_istore_n [(3, .int (s1.2 + 1)), (0, .ref a0), (1, .int s1.1), (2, .int s1.2)] d_X7_swaps_18 rfl (by decide) rfl ?_
      refine zg_bd (E := 51) (el := (fun (e9 : (Int32 × Int32)) => [(0, .ref a0), (1, .int e9.1), (2, .int s1.2), (3, .int e9.2)])) (es := fun _ => []) (zg_sub [1, 2, 3, 0] rfl (zg_lp (el := (fun (s7 : (Int32 × Int32)) => [(0, .ref a0), (1, .int s7.1), (2, .int s1.2), (3, .int s7.2)])) (fun s7 h8 => ?_) (s1.1, (s1.2 + 1)) h2)) (fun e9 h10 => ?_)
      · refine zg_iload_n 3 rfl d_X7_swaps_19 ?_
        refine zg_aload_n 0 rfl d_X7_swaps_20 ?_
        refine zg_getR d_X7_swaps_21 zc_7 (by decide) fl_X7_29 (fun v11 => ?_)
        refine zg_getI d_X7_swaps_24 zc_6 (by decide) fl_X7_109 (fun v12 => ?_)
        refine zg_icmp_ge d_X7_swaps_27 ?_ ?_
        · exact zg_finK (E := 0) [0, 1, 2, 3] rfl rfl (fun q => q)
        · refine zg_aload_n 0 rfl d_X7_swaps_30 ?_
          refine zg_getR d_X7_swaps_31 zc_7 (by decide) fl_X7_38 (fun v13 => ?_)
          refine zg_iload_n 2 rfl d_X7_swaps_34 ?_
          refine zg_iload_n 3 rfl d_X7_swaps_35 ?_
          refine zg_cVi (b := v13) (As := [.int s1.2, .int s7.2]) (rest := []) (0, 0) d_X7_swaps_36 zc_5 rfl cw_X7_272 wi_X5_wouldSwap ws_X5_wouldSwap rfl rfl (Nat.le_of_ble_eq_true rfl) (by decide) (by decide) ⟨by decide, by decide⟩ rfl (t_X5_wouldSwap v13 s1.2 s7.2 h8) (fun v15 h14 => ?_)
          refine zg_if_eq d_X7_swaps_39 ?_ ?_
          · refine zg_iinc 3 (s7.2 + 1) [(3, .int (s7.2 + 1)), (0, .ref a0), (1, .int s7.1), (2, .int s1.2)] d_X7_swaps_45 rfl rfl (by decide) rfl ?_
            refine zg_goto d_X7_swaps_48 ?_
            exact zg_finK (E := 0) [1, 2, 3, 0] rfl rfl (fun q => q)
          · refine zg_iinc 1 (s7.1 + 1) [(1, .int (s7.1 + 1)), (0, .ref a0), (2, .int s1.2), (3, .int s7.2)] d_X7_swaps_42 rfl rfl (by decide) rfl ?_
            refine zg_iinc 3 (s7.2 + 1) [(3, .int (s7.2 + 1)), (1, .int (s7.1 + 1)), (0, .ref a0), (2, .int s1.2)] d_X7_swaps_45 rfl rfl (by decide) rfl ?_
            refine zg_goto d_X7_swaps_48 ?_
            exact zg_finK (E := 0) [2, 1, 3, 0] rfl rfl (fun q => q)
      · refine zg_iinc 2 (s1.2 + 1) [(2, .int (s1.2 + 1)), (0, .ref a0), (1, .int e9.1), (3, .int e9.2)] d_X7_swaps_51 rfl rfl (by decide) rfl ?_
        refine zg_goto d_X7_swaps_54 ?_
        exact zg_finK (E := 0) [1, 2, 0] rfl rfl (fun q => q)
  · refine zg_iload_n 1 rfl d_X7_swaps_57 ?_
    exact zg_iretK d_X7_swaps_58 rfl ⟨Nat.le_of_ble_eq_true rfl, Nat.le_of_ble_eq_true rfl⟩ (fun q => q)
abbrev M_X7_text : zMt := (RX7, cX7_text, 3, 8, 214, (some .int), "text", 0, 0)
theorem d_X7_text_0 : zDc M_X7_text 0 (.iload_n 1) 1 1 := ⟨by decide +kernel, rfl⟩
theorem d_X7_text_1 : zDj M_X7_text 1 (.ifCond .lt 11) 11 4 12 := ⟨by decide +kernel, rfl, by decide⟩
theorem d_X7_text_4 : zDc M_X7_text 4 (.iload_n 1) 1 5 := ⟨by decide +kernel, rfl⟩
theorem d_X7_text_5 : zDc M_X7_text 5 (.aload_n 0) 1 6 := ⟨by decide +kernel, rfl⟩
theorem d_X7_text_6 : zDc M_X7_text 6 (.getfield 15) 3 9 := ⟨by decide +kernel, rfl⟩
theorem d_X7_text_9 : zDj M_X7_text 9 (.if_icmp .le 6) 6 12 15 := ⟨by decide +kernel, rfl, by decide⟩
theorem d_X7_text_12 : zDc M_X7_text 12 (.bipush (-2)) 2 14 := ⟨by decide +kernel, rfl⟩
theorem d_X7_text_14 : zDc M_X7_text 14 (.ireturn) 1 15 := ⟨by decide +kernel, rfl⟩
theorem d_X7_text_15 : zDc M_X7_text 15 (.aload_n 0) 1 16 := ⟨by decide +kernel, rfl⟩
theorem d_X7_text_16 : zDc M_X7_text 16 (.iconst 0) 1 17 := ⟨by decide +kernel, rfl⟩
theorem d_X7_text_17 : zDc M_X7_text 17 (.putfield 15) 3 20 := ⟨by decide +kernel, rfl⟩
theorem d_X7_text_20 : zDc M_X7_text 20 (.aload_n 0) 1 21 := ⟨by decide +kernel, rfl⟩
theorem d_X7_text_21 : zDc M_X7_text 21 (.getfield 22) 3 24 := ⟨by decide +kernel, rfl⟩
theorem d_X7_text_24 : zDc M_X7_text 24 (.aload_n 0) 1 25 := ⟨by decide +kernel, rfl⟩
theorem d_X7_text_25 : zDc M_X7_text 25 (.getfield 11) 3 28 := ⟨by decide +kernel, rfl⟩
theorem d_X7_text_28 : zDc M_X7_text 28 (.iload_n 1) 1 29 := ⟨by decide +kernel, rfl⟩
theorem d_X7_text_29 : zDc M_X7_text 29 (.invokevirtual 74) 3 32 := ⟨by decide +kernel, rfl⟩
theorem d_X7_text_32 : zDc M_X7_text 32 (.istore_n 2) 1 33 := ⟨by decide +kernel, rfl⟩
theorem d_X7_text_33 : zDc M_X7_text 33 (.iload_n 2) 1 34 := ⟨by decide +kernel, rfl⟩
theorem d_X7_text_34 : zDc M_X7_text 34 (.iconst (-1)) 1 35 := ⟨by decide +kernel, rfl⟩
theorem d_X7_text_35 : zDj M_X7_text 35 (.if_icmp .ne 5) 5 38 40 := ⟨by decide +kernel, rfl, by decide⟩
theorem d_X7_text_38 : zDc M_X7_text 38 (.iconst (-1)) 1 39 := ⟨by decide +kernel, rfl⟩
theorem d_X7_text_39 : zDc M_X7_text 39 (.ireturn) 1 40 := ⟨by decide +kernel, rfl⟩
theorem d_X7_text_40 : zDc M_X7_text 40 (.aload_n 0) 1 41 := ⟨by decide +kernel, rfl⟩
theorem d_X7_text_41 : zDc M_X7_text 41 (.aload_n 0) 1 42 := ⟨by decide +kernel, rfl⟩
theorem d_X7_text_42 : zDc M_X7_text 42 (.getfield 22) 3 45 := ⟨by decide +kernel, rfl⟩
theorem d_X7_text_45 : zDc M_X7_text 45 (.aload_n 0) 1 46 := ⟨by decide +kernel, rfl⟩
theorem d_X7_text_46 : zDc M_X7_text 46 (.getfield 29) 3 49 := ⟨by decide +kernel, rfl⟩
theorem d_X7_text_49 : zDc M_X7_text 49 (.invokevirtual 78) 3 52 := ⟨by decide +kernel, rfl⟩
theorem d_X7_text_52 : zDc M_X7_text 52 (.putfield 29) 3 55 := ⟨by decide +kernel, rfl⟩
theorem d_X7_text_55 : zDc M_X7_text 55 (.aload_n 0) 1 56 := ⟨by decide +kernel, rfl⟩
theorem d_X7_text_56 : zDc M_X7_text 56 (.getfield 38) 3 59 := ⟨by decide +kernel, rfl⟩
theorem d_X7_text_59 : zDc M_X7_text 59 (.aload_n 0) 1 60 := ⟨by decide +kernel, rfl⟩
theorem d_X7_text_60 : zDc M_X7_text 60 (.getfield 29) 3 63 := ⟨by decide +kernel, rfl⟩
theorem d_X7_text_63 : zDc M_X7_text 63 (.invokevirtual 82) 3 66 := ⟨by decide +kernel, rfl⟩
theorem d_X7_text_66 : zDc M_X7_text 66 (.aload_n 0) 1 67 := ⟨by decide +kernel, rfl⟩
theorem d_X7_text_67 : zDc M_X7_text 67 (.getfield 59) 3 70 := ⟨by decide +kernel, rfl⟩
theorem d_X7_text_70 : zDc M_X7_text 70 (.invokevirtual 85) 3 73 := ⟨by decide +kernel, rfl⟩
theorem d_X7_text_73 : zDc M_X7_text 73 (.aload_n 0) 1 74 := ⟨by decide +kernel, rfl⟩
theorem d_X7_text_74 : zDc M_X7_text 74 (.getfield 52) 3 77 := ⟨by decide +kernel, rfl⟩
theorem d_X7_text_77 : zDc M_X7_text 77 (.invokevirtual 88) 3 80 := ⟨by decide +kernel, rfl⟩
theorem d_X7_text_80 : zDc M_X7_text 80 (.aload_n 0) 1 81 := ⟨by decide +kernel, rfl⟩
theorem d_X7_text_81 : zDc M_X7_text 81 (.iconst 0) 1 82 := ⟨by decide +kernel, rfl⟩
theorem d_X7_text_82 : zDc M_X7_text 82 (.putfield 45) 3 85 := ⟨by decide +kernel, rfl⟩
theorem d_X7_text_85 : zDc M_X7_text 85 (.iload_n 2) 1 86 := ⟨by decide +kernel, rfl⟩
theorem d_X7_text_86 : zDc M_X7_text 86 (.ireturn) 1 87 := ⟨by decide +kernel, rfl⟩
def f_X7_text (a0 : Nat) (a1 : Int32) (h0 : zHp) : Option (Int32 × zHp) :=
  if a1 < 0 then
  some ((-2), h0)
  else
  zob (zgI h0 a0 7 1) (fun v1 =>
  if a1 ≤ v1 then
  zob (zpV h0 a0 7 1 (.int 0)) (fun h2 =>
  zob (zgR h2 a0 7 2) (fun v3 =>
  zob (zgR h2 a0 7 0) (fun v4 =>
  zbd (zcv 4 v3 h2 (f_X4_readText v3 v4 a1 h2)) (fun v6 h5 =>
  if v6 = (-1) then
  some ((-1), h5)
  else
  zob (zgR h5 a0 7 2) (fun v7 =>
  zob (zgR h5 a0 7 3) (fun v8 =>
  zbd (zcv 4 v7 h5 (f_X4_takeTold v7 v8 h5)) (fun v10 h9 =>
  zob (zpV h9 a0 7 3 (.ref v10)) (fun h11 =>
  zob (zgR h11 a0 7 4) (fun v12 =>
  zob (zgR h11 a0 7 3) (fun v13 =>
  zbd (zcv 5 v12 h11 (f_X5_startOf v12 v13 h11)) (fun v15 h14 =>
  zob (zgR h14 a0 7 8) (fun v16 =>
  zbd (zcv 3 v16 h14 (f_X3_forget v16 h14)) (fun v18 h17 =>
  zob (zgR h17 a0 7 7) (fun v19 =>
  zbd (zcv 0 v19 h17 (f_X0_forget v19 h17)) (fun v21 h20 =>
  zob (zpV h20 a0 7 6 (.int 0)) (fun h22 =>
  some (v6, h22)))))))))))))))))
  else
  some ((-2), h0))
set_option maxRecDepth 100000 in
set_option maxHeartbeats 4000000 in
theorem t_X7_text (a0 : Nat) (a1 : Int32) (h0 : zHp) : ∀ (r : Int32) (h' : zHp), f_X7_text a0 a1 h0 = some (r, h') → zCt yX7_text (.code yX7_text cX7_text 3 (some .int)) 8 214 0 0 [.ref a0, .int a1] h0 (some (.int r)) h' := by
  refine zct_of M_X7_text yX7_text (by decide) rfl rfl [.ref a0, .int a1] h0 (Nat.le_of_ble_eq_true rfl) (fun r => some (.int r)) (fun X => ?_)
  show zG X M_X7_text (0, 0) 0 [(0, .ref a0), (1, .int a1)] [] h0 (f_X7_text a0 a1 h0) (fun (r : Int32) h' => zKe X (some (.int r)) h')
  unfold f_X7_text
  refine zg_iload_n 1 rfl d_X7_text_0 ?_
  refine zg_if_lt d_X7_text_1 ?_ ?_
  · refine zg_bipush (-2) rfl d_X7_text_12 ?_
    exact zg_iretK d_X7_text_14 rfl ⟨Nat.le_of_ble_eq_true rfl, Nat.le_of_ble_eq_true rfl⟩ (fun q => q)
  · refine zg_iload_n 1 rfl d_X7_text_4 ?_
    refine zg_aload_n 0 rfl d_X7_text_5 ?_
    refine zg_getI d_X7_text_6 zc_7 (by decide) fl_X7_15 (fun v1 => ?_)
    refine zg_icmp_le d_X7_text_9 ?_ ?_
    · refine zg_aload_n 0 rfl d_X7_text_15 ?_
      refine zg_iconst 0 rfl d_X7_text_16 ?_
      refine zg_putV d_X7_text_17 zc_7 (by decide) fl_X7_15 rfl rfl rfl (fun h2 => ?_)
      refine zg_aload_n 0 rfl d_X7_text_20 ?_
      refine zg_getR d_X7_text_21 zc_7 (by decide) fl_X7_22 (fun v3 => ?_)
      refine zg_aload_n 0 rfl d_X7_text_24 ?_
      refine zg_getR d_X7_text_25 zc_7 (by decide) fl_X7_11 (fun v4 => ?_)
      refine zg_iload_n 1 rfl d_X7_text_28 ?_
      refine zg_cVi (b := v3) (As := [.ref v4, .int a1]) (rest := []) (0, 0) d_X7_text_29 zc_4 rfl cw_X7_74 wi_X4_readText ws_X4_readText rfl rfl (Nat.le_of_ble_eq_true rfl) (by decide) (by decide) ⟨by decide, by decide⟩ rfl (t_X4_readText v3 v4 a1 h2) (fun v6 h5 => ?_)
      refine zg_istore_n [(2, .int v6), (0, .ref a0), (1, .int a1)] d_X7_text_32 rfl (by decide) rfl ?_
      refine zg_iload_n 0 rfl d_X7_text_33 ?_
      refine zg_iconst (-1) rfl d_X7_text_34 ?_
      refine zg_icmp_ne d_X7_text_35 ?_ ?_
      · refine zg_iconst (-1) rfl d_X7_text_38 ?_
        exact zg_iretK d_X7_text_39 rfl ⟨Nat.le_of_ble_eq_true rfl, Nat.le_of_ble_eq_true rfl⟩ (fun q => q)
      · refine zg_aload_n 1 rfl d_X7_text_40 ?_
        refine zg_aload_n 1 rfl d_X7_text_41 ?_
        refine zg_getR d_X7_text_42 zc_7 (by decide) fl_X7_22 (fun v7 => ?_)
        refine zg_aload_n 1 rfl d_X7_text_45 ?_
        refine zg_getR d_X7_text_46 zc_7 (by decide) fl_X7_29 (fun v8 => ?_)
        refine zg_cVr (b := v7) (As := [.ref v8]) (rest := [.ref a0]) (0, 0) d_X7_text_49 zc_4 rfl cw_X7_78 wi_X4_takeTold ws_X4_takeTold rfl rfl (Nat.le_of_ble_eq_true rfl) (by decide) (by decide) ⟨by decide, by decide⟩ rfl (t_X4_takeTold v7 v8 h5) (fun v10 h9 => ?_)
        refine zg_putV d_X7_text_52 zc_7 (by decide) fl_X7_29 rfl rfl rfl (fun h11 => ?_)
        refine zg_aload_n 1 rfl d_X7_text_55 ?_
        refine zg_getR d_X7_text_56 zc_7 (by decide) fl_X7_38 (fun v12 => ?_)
        refine zg_aload_n 1 rfl d_X7_text_59 ?_
        refine zg_getR d_X7_text_60 zc_7 (by decide) fl_X7_29 (fun v13 => ?_)
        refine zg_cVv (b := v12) (As := [.ref v13]) (rest := []) (0, 0) d_X7_text_63 zc_5 rfl cw_X7_82 wi_X5_startOf ws_X5_startOf rfl rfl (Nat.le_of_ble_eq_true rfl) (by decide) (by decide) ⟨by decide, by decide⟩ rfl (t_X5_startOf v12 v13 h11) (fun v15 h14 => ?_)
        refine zg_aload_n 1 rfl d_X7_text_66 ?_
        refine zg_getR d_X7_text_67 zc_7 (by decide) fl_X7_59 (fun v16 => ?_)
        refine zg_cVv (b := v16) (As := []) (rest := []) (0, 0) d_X7_text_70 zc_3 rfl cw_X7_85 wi_X3_forget ws_X3_forget rfl rfl (Nat.le_of_ble_eq_true rfl) (by decide) (by decide) ⟨by decide, by decide⟩ rfl (t_X3_forget v16 h14) (fun v18 h17 => ?_)
        refine zg_aload_n 1 rfl d_X7_text_73 ?_
        refine zg_getR d_X7_text_74 zc_7 (by decide) fl_X7_52 (fun v19 => ?_)
        refine zg_cVv (b := v19) (As := []) (rest := []) (0, 0) d_X7_text_77 zc_0 rfl cw_X7_88 wi_X0_forget ws_X0_forget rfl rfl (Nat.le_of_ble_eq_true rfl) (by decide) (by decide) ⟨by decide, by decide⟩ rfl (t_X0_forget v19 h17) (fun v21 h20 => ?_)
        refine zg_aload_n 1 rfl d_X7_text_80 ?_
        refine zg_iconst 0 rfl d_X7_text_81 ?_
        refine zg_putV d_X7_text_82 zc_7 (by decide) fl_X7_45 rfl rfl rfl (fun h22 => ?_)
        refine zg_iload_n 0 rfl d_X7_text_85 ?_
        exact zg_iretK d_X7_text_86 rfl ⟨Nat.le_of_ble_eq_true rfl, Nat.le_of_ble_eq_true rfl⟩ (fun q => q)
    · refine zg_bipush (-2) rfl d_X7_text_12 ?_
      exact zg_iretK d_X7_text_14 rfl ⟨Nat.le_of_ble_eq_true rfl, Nat.le_of_ble_eq_true rfl⟩ (fun q => q)
abbrev M_X7_tried : zMt := (RX7, cX7_tried, 4, 7, 204, (some .int), "tried", 0, 0)
theorem d_X7_tried_0 : zDc M_X7_tried 0 (.iconst 0) 1 1 := ⟨by decide +kernel, rfl⟩
theorem d_X7_tried_1 : zDc M_X7_tried 1 (.iload_n 1) 1 2 := ⟨by decide +kernel, rfl⟩
theorem d_X7_tried_2 : zDc M_X7_tried 2 (.iconst 5) 1 3 := ⟨by decide +kernel, rfl⟩
theorem d_X7_tried_3 : zDc M_X7_tried 3 (.invokestatic 194) 3 6 := ⟨by decide +kernel, rfl⟩
theorem d_X7_tried_6 : zDj M_X7_tried 6 (.ifCond .eq 13) 13 9 19 := ⟨by decide +kernel, rfl, by decide⟩
theorem d_X7_tried_9 : zDc M_X7_tried 9 (.iconst 0) 1 10 := ⟨by decide +kernel, rfl⟩
theorem d_X7_tried_10 : zDc M_X7_tried 10 (.iload_n 3) 1 11 := ⟨by decide +kernel, rfl⟩
theorem d_X7_tried_11 : zDc M_X7_tried 11 (.bipush 60) 2 13 := ⟨by decide +kernel, rfl⟩
theorem d_X7_tried_13 : zDc M_X7_tried 13 (.invokestatic 194) 3 16 := ⟨by decide +kernel, rfl⟩
theorem d_X7_tried_16 : zDj M_X7_tried 16 (.ifCond .ne 5) 5 19 21 := ⟨by decide +kernel, rfl, by decide⟩
theorem d_X7_tried_19 : zDc M_X7_tried 19 (.iconst (-1)) 1 20 := ⟨by decide +kernel, rfl⟩
theorem d_X7_tried_20 : zDc M_X7_tried 20 (.ireturn) 1 21 := ⟨by decide +kernel, rfl⟩
theorem d_X7_tried_21 : zDc M_X7_tried 21 (.iload_n 1) 1 22 := ⟨by decide +kernel, rfl⟩
theorem d_X7_tried_22 : zDc M_X7_tried 22 (.iconst 2) 1 23 := ⟨by decide +kernel, rfl⟩
theorem d_X7_tried_23 : zDj M_X7_tried 23 (.if_icmp .ne 14) 14 26 37 := ⟨by decide +kernel, rfl, by decide⟩
theorem d_X7_tried_26 : zDc M_X7_tried 26 (.aload_n 0) 1 27 := ⟨by decide +kernel, rfl⟩
theorem d_X7_tried_27 : zDc M_X7_tried 27 (.iload_n 2) 1 28 := ⟨by decide +kernel, rfl⟩
theorem d_X7_tried_28 : zDc M_X7_tried 28 (.invokevirtual 118) 3 31 := ⟨by decide +kernel, rfl⟩
theorem d_X7_tried_31 : zDj M_X7_tried 31 (.ifCond .ne 12) 12 34 43 := ⟨by decide +kernel, rfl, by decide⟩
theorem d_X7_tried_34 : zDj M_X7_tried 34 (.goto 7) 7 37 41 := ⟨by decide +kernel, rfl, by decide⟩
theorem d_X7_tried_37 : zDc M_X7_tried 37 (.iload_n 2) 1 38 := ⟨by decide +kernel, rfl⟩
theorem d_X7_tried_38 : zDj M_X7_tried 38 (.ifCond .eq 5) 5 41 43 := ⟨by decide +kernel, rfl, by decide⟩
theorem d_X7_tried_41 : zDc M_X7_tried 41 (.iconst (-1)) 1 42 := ⟨by decide +kernel, rfl⟩
theorem d_X7_tried_42 : zDc M_X7_tried 42 (.ireturn) 1 43 := ⟨by decide +kernel, rfl⟩
theorem d_X7_tried_43 : zDc M_X7_tried 43 (.aload_n 0) 1 44 := ⟨by decide +kernel, rfl⟩
theorem d_X7_tried_44 : zDc M_X7_tried 44 (.getfield 66) 3 47 := ⟨by decide +kernel, rfl⟩
theorem d_X7_tried_47 : zDc M_X7_tried 47 (.aload_n 0) 1 48 := ⟨by decide +kernel, rfl⟩
theorem d_X7_tried_48 : zDc M_X7_tried 48 (.getfield 38) 3 51 := ⟨by decide +kernel, rfl⟩
theorem d_X7_tried_51 : zDc M_X7_tried 51 (.iload_n 1) 1 52 := ⟨by decide +kernel, rfl⟩
theorem d_X7_tried_52 : zDc M_X7_tried 52 (.iload_n 2) 1 53 := ⟨by decide +kernel, rfl⟩
theorem d_X7_tried_53 : zDc M_X7_tried 53 (.iload_n 3) 1 54 := ⟨by decide +kernel, rfl⟩
theorem d_X7_tried_54 : zDc M_X7_tried 54 (.invokevirtual 228) 3 57 := ⟨by decide +kernel, rfl⟩
theorem d_X7_tried_57 : zDc M_X7_tried 57 (.invokevirtual 232) 3 60 := ⟨by decide +kernel, rfl⟩
theorem d_X7_tried_60 : zDc M_X7_tried 60 (.aload_n 0) 1 61 := ⟨by decide +kernel, rfl⟩
theorem d_X7_tried_61 : zDc M_X7_tried 61 (.getfield 38) 3 64 := ⟨by decide +kernel, rfl⟩
theorem d_X7_tried_64 : zDc M_X7_tried 64 (.invokevirtual 232) 3 67 := ⟨by decide +kernel, rfl⟩
theorem d_X7_tried_67 : zDc M_X7_tried 67 (.isub) 1 68 := ⟨by decide +kernel, rfl⟩
theorem d_X7_tried_68 : zDc M_X7_tried 68 (.ireturn) 1 69 := ⟨by decide +kernel, rfl⟩
def f_X7_tried (a0 : Nat) (a1 : Int32) (a2 : Int32) (a3 : Int32) (h0 : zHp) : Option (Int32 × zHp) :=
  zbd ((f_X7_isFrom 0 a1 5 h0)) (fun v2 h1 =>
  if v2 = 0 then
  some ((-1), h1)
  else
  zbd ((f_X7_isFrom 0 a3 60 h1)) (fun v4 h3 =>
  if v4 = 0 then
  some ((-1), h3)
  else
  if a1 = 2 then
  zbd (zcv 7 a0 h3 (f_X7_isCloud a0 a2 h3)) (fun v6 h5 =>
  if v6 = 0 then
  some ((-1), h5)
  else
  zob (zgR h5 a0 7 9) (fun v7 =>
  zob (zgR h5 a0 7 4) (fun v8 =>
  zbd (zcv 1 v7 h5 (f_X1_skyAfter v7 v8 a1 a2 a3 h5)) (fun v10 h9 =>
  zbd (zcv 5 v10 h9 (f_X5_rainInAll v10 h9)) (fun v12 h11 =>
  zob (zgR h11 a0 7 4) (fun v13 =>
  zbd (zcv 5 v13 h11 (f_X5_rainInAll v13 h11)) (fun v15 h14 =>
  some ((v12 - v15), h14))))))))
  else
  if a2 = 0 then
  zob (zgR h3 a0 7 9) (fun v16 =>
  zob (zgR h3 a0 7 4) (fun v17 =>
  zbd (zcv 1 v16 h3 (f_X1_skyAfter v16 v17 a1 a2 a3 h3)) (fun v19 h18 =>
  zbd (zcv 5 v19 h18 (f_X5_rainInAll v19 h18)) (fun v21 h20 =>
  zob (zgR h20 a0 7 4) (fun v22 =>
  zbd (zcv 5 v22 h20 (f_X5_rainInAll v22 h20)) (fun v24 h23 =>
  some ((v21 - v24), h23)))))))
  else
  some ((-1), h3)))
set_option maxRecDepth 100000 in
set_option maxHeartbeats 4000000 in
theorem t_X7_tried (a0 : Nat) (a1 : Int32) (a2 : Int32) (a3 : Int32) (h0 : zHp) : ∀ (r : Int32) (h' : zHp), f_X7_tried a0 a1 a2 a3 h0 = some (r, h') → zCt yX7_tried (.code yX7_tried cX7_tried 4 (some .int)) 7 204 0 0 [.ref a0, .int a1, .int a2, .int a3] h0 (some (.int r)) h' := by
  refine zct_of M_X7_tried yX7_tried (by decide) rfl rfl [.ref a0, .int a1, .int a2, .int a3] h0 (Nat.le_of_ble_eq_true rfl) (fun r => some (.int r)) (fun X => ?_)
  show zG X M_X7_tried (0, 0) 0 [(0, .ref a0), (1, .int a1), (2, .int a2), (3, .int a3)] [] h0 (f_X7_tried a0 a1 a2 a3 h0) (fun (r : Int32) h' => zKe X (some (.int r)) h')
  unfold f_X7_tried
  refine zg_iconst 0 rfl d_X7_tried_0 ?_
  refine zg_iload_n 1 rfl d_X7_tried_1 ?_
  refine zg_iconst 5 rfl d_X7_tried_2 ?_
  refine zg_cSi (As := [.int 0, .int a1, .int 5]) (rest := []) (0, 0) d_X7_tried_3 cw_X7_194 wt_X7_isFrom rfl rfl (Nat.le_of_ble_eq_true rfl) (by decide) (by decide) ⟨by decide, by decide⟩ rfl (t_X7_isFrom 0 a1 5 h0) (fun v2 h1 => ?_)
  refine zg_if_eq d_X7_tried_6 ?_ ?_
  · refine zg_iconst (-1) rfl d_X7_tried_19 ?_
    exact zg_iretK d_X7_tried_20 rfl ⟨Nat.le_of_ble_eq_true rfl, Nat.le_of_ble_eq_true rfl⟩ (fun q => q)
  · refine zg_iconst 0 rfl d_X7_tried_9 ?_
    refine zg_iload_n 3 rfl d_X7_tried_10 ?_
    refine zg_bipush 60 rfl d_X7_tried_11 ?_
    refine zg_cSi (As := [.int 0, .int a3, .int 60]) (rest := []) (0, 0) d_X7_tried_13 cw_X7_194 wt_X7_isFrom rfl rfl (Nat.le_of_ble_eq_true rfl) (by decide) (by decide) ⟨by decide, by decide⟩ rfl (t_X7_isFrom 0 a3 60 h1) (fun v4 h3 => ?_)
    refine zg_if_ne d_X7_tried_16 ?_ ?_
    · refine zg_iconst (-1) rfl d_X7_tried_19 ?_
      exact zg_iretK d_X7_tried_20 rfl ⟨Nat.le_of_ble_eq_true rfl, Nat.le_of_ble_eq_true rfl⟩ (fun q => q)
    · refine zg_iload_n 1 rfl d_X7_tried_21 ?_
      refine zg_iconst 2 rfl d_X7_tried_22 ?_
      refine zg_icmp_ne d_X7_tried_23 ?_ ?_
      · refine zg_aload_n 0 rfl d_X7_tried_26 ?_
        refine zg_iload_n 2 rfl d_X7_tried_27 ?_
        refine zg_cVi (b := a0) (As := [.int a2]) (rest := []) (0, 0) d_X7_tried_28 zc_7 rfl cw_X7_118 wi_X7_isCloud ws_X7_isCloud rfl rfl (Nat.le_of_ble_eq_true rfl) (by decide) (by decide) ⟨by decide, by decide⟩ rfl (t_X7_isCloud a0 a2 h3) (fun v6 h5 => ?_)
        refine zg_if_ne d_X7_tried_31 ?_ ?_
        · refine zg_goto d_X7_tried_34 ?_
          refine zg_iconst (-1) rfl d_X7_tried_41 ?_
          exact zg_iretK d_X7_tried_42 rfl ⟨Nat.le_of_ble_eq_true rfl, Nat.le_of_ble_eq_true rfl⟩ (fun q => q)
        · refine zg_aload_n 0 rfl d_X7_tried_43 ?_
          refine zg_getR d_X7_tried_44 zc_7 (by decide) fl_X7_66 (fun v7 => ?_)
          refine zg_aload_n 0 rfl d_X7_tried_47 ?_
          refine zg_getR d_X7_tried_48 zc_7 (by decide) fl_X7_38 (fun v8 => ?_)
          refine zg_iload_n 1 rfl d_X7_tried_51 ?_
          refine zg_iload_n 2 rfl d_X7_tried_52 ?_
          refine zg_iload_n 3 rfl d_X7_tried_53 ?_
          refine zg_cVr (b := v7) (As := [.ref v8, .int a1, .int a2, .int a3]) (rest := []) (0, 0) d_X7_tried_54 zc_1 rfl cw_X7_228 wi_X1_skyAfter ws_X1_skyAfter rfl rfl (Nat.le_of_ble_eq_true rfl) (by decide) (by decide) ⟨by decide, by decide⟩ rfl (t_X1_skyAfter v7 v8 a1 a2 a3 h5) (fun v10 h9 => ?_)
          refine zg_cVi (b := v10) (As := []) (rest := []) (0, 0) d_X7_tried_57 zc_5 rfl cw_X7_232 wi_X5_rainInAll ws_X5_rainInAll rfl rfl (Nat.le_of_ble_eq_true rfl) (by decide) (by decide) ⟨by decide, by decide⟩ rfl (t_X5_rainInAll v10 h9) (fun v12 h11 => ?_)
          refine zg_aload_n 0 rfl d_X7_tried_60 ?_
          refine zg_getR d_X7_tried_61 zc_7 (by decide) fl_X7_38 (fun v13 => ?_)
          refine zg_cVi (b := v13) (As := []) (rest := [.int v12]) (0, 0) d_X7_tried_64 zc_5 rfl cw_X7_232 wi_X5_rainInAll ws_X5_rainInAll rfl rfl (Nat.le_of_ble_eq_true rfl) (by decide) (by decide) ⟨by decide, by decide⟩ rfl (t_X5_rainInAll v13 h11) (fun v15 h14 => ?_)
          refine zg_isub d_X7_tried_67 ?_
          exact zg_iretK d_X7_tried_68 rfl ⟨Nat.le_of_ble_eq_true rfl, Nat.le_of_ble_eq_true rfl⟩ (fun q => q)
      · refine zg_iload_n 2 rfl d_X7_tried_37 ?_
        refine zg_if_eq d_X7_tried_38 ?_ ?_
        · refine zg_aload_n 0 rfl d_X7_tried_43 ?_
          refine zg_getR d_X7_tried_44 zc_7 (by decide) fl_X7_66 (fun v16 => ?_)
          refine zg_aload_n 0 rfl d_X7_tried_47 ?_
          refine zg_getR d_X7_tried_48 zc_7 (by decide) fl_X7_38 (fun v17 => ?_)
          refine zg_iload_n 1 rfl d_X7_tried_51 ?_
          refine zg_iload_n 2 rfl d_X7_tried_52 ?_
          refine zg_iload_n 3 rfl d_X7_tried_53 ?_
          refine zg_cVr (b := v16) (As := [.ref v17, .int a1, .int a2, .int a3]) (rest := []) (0, 0) d_X7_tried_54 zc_1 rfl cw_X7_228 wi_X1_skyAfter ws_X1_skyAfter rfl rfl (Nat.le_of_ble_eq_true rfl) (by decide) (by decide) ⟨by decide, by decide⟩ rfl (t_X1_skyAfter v16 v17 a1 a2 a3 h3) (fun v19 h18 => ?_)
          refine zg_cVi (b := v19) (As := []) (rest := []) (0, 0) d_X7_tried_57 zc_5 rfl cw_X7_232 wi_X5_rainInAll ws_X5_rainInAll rfl rfl (Nat.le_of_ble_eq_true rfl) (by decide) (by decide) ⟨by decide, by decide⟩ rfl (t_X5_rainInAll v19 h18) (fun v21 h20 => ?_)
          refine zg_aload_n 0 rfl d_X7_tried_60 ?_
          refine zg_getR d_X7_tried_61 zc_7 (by decide) fl_X7_38 (fun v22 => ?_)
          refine zg_cVi (b := v22) (As := []) (rest := [.int v21]) (0, 0) d_X7_tried_64 zc_5 rfl cw_X7_232 wi_X5_rainInAll ws_X5_rainInAll rfl rfl (Nat.le_of_ble_eq_true rfl) (by decide) (by decide) ⟨by decide, by decide⟩ rfl (t_X5_rainInAll v22 h20) (fun v24 h23 => ?_)
          refine zg_isub d_X7_tried_67 ?_
          exact zg_iretK d_X7_tried_68 rfl ⟨Nat.le_of_ble_eq_true rfl, Nat.le_of_ble_eq_true rfl⟩ (fun q => q)
        · refine zg_iconst (-1) rfl d_X7_tried_41 ?_
          exact zg_iretK d_X7_tried_42 rfl ⟨Nat.le_of_ble_eq_true rfl, Nat.le_of_ble_eq_true rfl⟩ (fun q => q)
abbrev M_X7_undo : zMt := (RX7, cX7_undo, 1, 2, 82, (some .int), "undo", 0, 0)
theorem d_X7_undo_0 : zDc M_X7_undo 0 (.aload_n 0) 1 1 := ⟨by decide +kernel, rfl⟩
theorem d_X7_undo_1 : zDc M_X7_undo 1 (.getfield 52) 3 4 := ⟨by decide +kernel, rfl⟩
theorem d_X7_undo_4 : zDc M_X7_undo 4 (.getfield 321) 3 7 := ⟨by decide +kernel, rfl⟩
theorem d_X7_undo_7 : zDj M_X7_undo 7 (.ifCond .ne 5) 5 10 12 := ⟨by decide +kernel, rfl, by decide⟩
theorem d_X7_undo_10 : zDc M_X7_undo 10 (.iconst (-1)) 1 11 := ⟨by decide +kernel, rfl⟩
theorem d_X7_undo_11 : zDc M_X7_undo 11 (.ireturn) 1 12 := ⟨by decide +kernel, rfl⟩
theorem d_X7_undo_12 : zDc M_X7_undo 12 (.aload_n 0) 1 13 := ⟨by decide +kernel, rfl⟩
theorem d_X7_undo_13 : zDc M_X7_undo 13 (.getfield 52) 3 16 := ⟨by decide +kernel, rfl⟩
theorem d_X7_undo_16 : zDc M_X7_undo 16 (.aload_n 0) 1 17 := ⟨by decide +kernel, rfl⟩
theorem d_X7_undo_17 : zDc M_X7_undo 17 (.getfield 38) 3 20 := ⟨by decide +kernel, rfl⟩
theorem d_X7_undo_20 : zDc M_X7_undo 20 (.invokevirtual 324) 3 23 := ⟨by decide +kernel, rfl⟩
theorem d_X7_undo_23 : zDc M_X7_undo 23 (.aload_n 0) 1 24 := ⟨by decide +kernel, rfl⟩
theorem d_X7_undo_24 : zDc M_X7_undo 24 (.getfield 52) 3 27 := ⟨by decide +kernel, rfl⟩
theorem d_X7_undo_27 : zDc M_X7_undo 27 (.getfield 321) 3 30 := ⟨by decide +kernel, rfl⟩
theorem d_X7_undo_30 : zDc M_X7_undo 30 (.ireturn) 1 31 := ⟨by decide +kernel, rfl⟩
def f_X7_undo (a0 : Nat) (h0 : zHp) : Option (Int32 × zHp) :=
  zob (zgR h0 a0 7 7) (fun v1 =>
  zob (zgI h0 v1 0 4) (fun v2 =>
  if v2 = 0 then
  some ((-1), h0)
  else
  zob (zgR h0 a0 7 7) (fun v3 =>
  zob (zgR h0 a0 7 4) (fun v4 =>
  zbd (zcv 0 v3 h0 (f_X0_undoLatest v3 v4 h0)) (fun v6 h5 =>
  zob (zgR h5 a0 7 7) (fun v7 =>
  zob (zgI h5 v7 0 4) (fun v8 =>
  some (v8, h5))))))))
set_option maxRecDepth 100000 in
set_option maxHeartbeats 4000000 in
theorem t_X7_undo (a0 : Nat) (h0 : zHp) : ∀ (r : Int32) (h' : zHp), f_X7_undo a0 h0 = some (r, h') → zCt yX7_undo (.code yX7_undo cX7_undo 1 (some .int)) 2 82 0 0 [.ref a0] h0 (some (.int r)) h' := by
  refine zct_of M_X7_undo yX7_undo (by decide) rfl rfl [.ref a0] h0 (Nat.le_of_ble_eq_true rfl) (fun r => some (.int r)) (fun X => ?_)
  show zG X M_X7_undo (0, 0) 0 [(0, .ref a0)] [] h0 (f_X7_undo a0 h0) (fun (r : Int32) h' => zKe X (some (.int r)) h')
  unfold f_X7_undo
  refine zg_aload_n 0 rfl d_X7_undo_0 ?_
  refine zg_getR d_X7_undo_1 zc_7 (by decide) fl_X7_52 (fun v1 => ?_)
  refine zg_getI d_X7_undo_4 zc_0 (by decide) fl_X7_321 (fun v2 => ?_)
  refine zg_if_ne d_X7_undo_7 ?_ ?_
  · refine zg_iconst (-1) rfl d_X7_undo_10 ?_
    exact zg_iretK d_X7_undo_11 rfl ⟨Nat.le_of_ble_eq_true rfl, Nat.le_of_ble_eq_true rfl⟩ (fun q => q)
  · refine zg_aload_n 0 rfl d_X7_undo_12 ?_
    refine zg_getR d_X7_undo_13 zc_7 (by decide) fl_X7_52 (fun v3 => ?_)
    refine zg_aload_n 0 rfl d_X7_undo_16 ?_
    refine zg_getR d_X7_undo_17 zc_7 (by decide) fl_X7_38 (fun v4 => ?_)
    refine zg_cVv (b := v3) (As := [.ref v4]) (rest := []) (0, 0) d_X7_undo_20 zc_0 rfl cw_X7_324 wi_X0_undoLatest ws_X0_undoLatest rfl rfl (Nat.le_of_ble_eq_true rfl) (by decide) (by decide) ⟨by decide, by decide⟩ rfl (t_X0_undoLatest v3 v4 h0) (fun v6 h5 => ?_)
    refine zg_aload_n 0 rfl d_X7_undo_23 ?_
    refine zg_getR d_X7_undo_24 zc_7 (by decide) fl_X7_52 (fun v7 => ?_)
    refine zg_getI d_X7_undo_27 zc_0 (by decide) fl_X7_321 (fun v8 => ?_)
    exact zg_iretK d_X7_undo_30 rfl ⟨Nat.le_of_ble_eq_true rfl, Nat.le_of_ble_eq_true rfl⟩ (fun q => q)
abbrev M_X7_whose : zMt := (RX7, cX7_whose, 5, 2, 81, (some .int), "whose", 0, 0)
theorem d_X7_whose_0 : zDc M_X7_whose 0 (.aload_n 0) 1 1 := ⟨by decide +kernel, rfl⟩
theorem d_X7_whose_1 : zDc M_X7_whose 1 (.iload_n 1) 1 2 := ⟨by decide +kernel, rfl⟩
theorem d_X7_whose_2 : zDc M_X7_whose 2 (.invokevirtual 168) 3 5 := ⟨by decide +kernel, rfl⟩
theorem d_X7_whose_5 : zDj M_X7_whose 5 (.ifCond .ne 5) 5 8 10 := ⟨by decide +kernel, rfl, by decide⟩
theorem d_X7_whose_8 : zDc M_X7_whose 8 (.iconst (-1)) 1 9 := ⟨by decide +kernel, rfl⟩
theorem d_X7_whose_9 : zDc M_X7_whose 9 (.ireturn) 1 10 := ⟨by decide +kernel, rfl⟩
theorem d_X7_whose_10 : zDc M_X7_whose 10 (.bipush (-2)) 2 12 := ⟨by decide +kernel, rfl⟩
theorem d_X7_whose_12 : zDc M_X7_whose 12 (.istore_n 2) 1 13 := ⟨by decide +kernel, rfl⟩
theorem d_X7_whose_13 : zDc M_X7_whose 13 (.iconst 0) 1 14 := ⟨by decide +kernel, rfl⟩
theorem d_X7_whose_14 : zDc M_X7_whose 14 (.istore_n 3) 1 15 := ⟨by decide +kernel, rfl⟩
theorem d_X7_whose_15 : zDc M_X7_whose 15 (.iconst 0) 1 16 := ⟨by decide +kernel, rfl⟩
theorem d_X7_whose_16 : zDc M_X7_whose 16 (.istore 4) 2 18 := ⟨by decide +kernel, rfl⟩
theorem d_X7_whose_18 : zDc M_X7_whose 18 (.iload 4) 2 20 := ⟨by decide +kernel, rfl⟩
theorem d_X7_whose_20 : zDc M_X7_whose 20 (.aload_n 0) 1 21 := ⟨by decide +kernel, rfl⟩
theorem d_X7_whose_21 : zDc M_X7_whose 21 (.getfield 29) 3 24 := ⟨by decide +kernel, rfl⟩
theorem d_X7_whose_24 : zDc M_X7_whose 24 (.getfield 115) 3 27 := ⟨by decide +kernel, rfl⟩
theorem d_X7_whose_27 : zDj M_X7_whose 27 (.if_icmp .ge 41) 41 30 68 := ⟨by decide +kernel, rfl, by decide⟩
theorem d_X7_whose_30 : zDc M_X7_whose 30 (.aload_n 0) 1 31 := ⟨by decide +kernel, rfl⟩
theorem d_X7_whose_31 : zDc M_X7_whose 31 (.getfield 38) 3 34 := ⟨by decide +kernel, rfl⟩
theorem d_X7_whose_34 : zDc M_X7_whose 34 (.getfield 268) 3 37 := ⟨by decide +kernel, rfl⟩
theorem d_X7_whose_37 : zDc M_X7_whose 37 (.iload 4) 2 39 := ⟨by decide +kernel, rfl⟩
theorem d_X7_whose_39 : zDc M_X7_whose 39 (.aaload) 1 40 := ⟨by decide +kernel, rfl⟩
theorem d_X7_whose_40 : zDc M_X7_whose 40 (.iload_n 1) 1 41 := ⟨by decide +kernel, rfl⟩
theorem d_X7_whose_41 : zDc M_X7_whose 41 (.iaload) 1 42 := ⟨by decide +kernel, rfl⟩
theorem d_X7_whose_42 : zDc M_X7_whose 42 (.iload_n 3) 1 43 := ⟨by decide +kernel, rfl⟩
theorem d_X7_whose_43 : zDj M_X7_whose 43 (.if_icmp .le 19) 19 46 62 := ⟨by decide +kernel, rfl, by decide⟩
theorem d_X7_whose_46 : zDc M_X7_whose 46 (.aload_n 0) 1 47 := ⟨by decide +kernel, rfl⟩
theorem d_X7_whose_47 : zDc M_X7_whose 47 (.getfield 38) 3 50 := ⟨by decide +kernel, rfl⟩
theorem d_X7_whose_50 : zDc M_X7_whose 50 (.getfield 268) 3 53 := ⟨by decide +kernel, rfl⟩
theorem d_X7_whose_53 : zDc M_X7_whose 53 (.iload 4) 2 55 := ⟨by decide +kernel, rfl⟩
theorem d_X7_whose_55 : zDc M_X7_whose 55 (.aaload) 1 56 := ⟨by decide +kernel, rfl⟩
theorem d_X7_whose_56 : zDc M_X7_whose 56 (.iload_n 1) 1 57 := ⟨by decide +kernel, rfl⟩
theorem d_X7_whose_57 : zDc M_X7_whose 57 (.iaload) 1 58 := ⟨by decide +kernel, rfl⟩
theorem d_X7_whose_58 : zDc M_X7_whose 58 (.istore_n 3) 1 59 := ⟨by decide +kernel, rfl⟩
theorem d_X7_whose_59 : zDc M_X7_whose 59 (.iload 4) 2 61 := ⟨by decide +kernel, rfl⟩
theorem d_X7_whose_61 : zDc M_X7_whose 61 (.istore_n 2) 1 62 := ⟨by decide +kernel, rfl⟩
theorem d_X7_whose_62 : zDc M_X7_whose 62 (.iinc 4 1) 3 65 := ⟨by decide +kernel, rfl⟩
theorem d_X7_whose_65 : zDj M_X7_whose 65 (.goto (-47)) (-47) 68 18 := ⟨by decide +kernel, rfl, by decide⟩
theorem d_X7_whose_68 : zDc M_X7_whose 68 (.iload_n 2) 1 69 := ⟨by decide +kernel, rfl⟩
theorem d_X7_whose_69 : zDc M_X7_whose 69 (.ireturn) 1 70 := ⟨by decide +kernel, rfl⟩
def f_X7_whose (a0 : Nat) (a1 : Int32) (h0 : zHp) : Option (Int32 × zHp) :=
  zbd (zcv 7 a0 h0 (f_X7_isField a0 a1 h0)) (fun v2 h1 =>
  if v2 = 0 then
  some ((-1), h1)
  else
  zbd (
  zlp (σ := (Int32 × Int32 × Int32)) (β := (Int32 × Int32 × Int32)) zLF (fun s3 h4 =>
  zob (zgR h4 a0 7 3) (fun v7 =>
  zob (zgI h4 v7 6 15) (fun v8 =>
  if v8 ≤ s3.2.2 then
  some ((.inr (s3.1, s3.2.1, s3.2.2)), h4)
  else
  zob (zgR h4 a0 7 4) (fun v9 =>
  zob (zgR h4 v9 5 10) (fun v10 =>
  zob (zaA 5 h4 v10 s3.2.2) (fun v11 =>
  zob (zaI 0 h4 v11 a1) (fun v12 =>
  if v12 ≤ s3.2.1 then
  some ((.inl (s3.1, s3.2.1, (s3.2.2 + 1))), h4)
  else
  zob (zgR h4 a0 7 4) (fun v13 =>
  zob (zgR h4 v13 5 10) (fun v14 =>
  zob (zaA 5 h4 v14 s3.2.2) (fun v15 =>
  zob (zaI 0 h4 v15 a1) (fun v16 =>
  some ((.inl (s3.2.2, v16, (s3.2.2 + 1))), h4)))))))))))) ((-2), 0, 0) h1) (fun e5 h6 =>
  some (e5.1, h6)))
set_option maxRecDepth 100000 in
set_option maxHeartbeats 4000000 in
theorem t_X7_whose (a0 : Nat) (a1 : Int32) (h0 : zHp) : ∀ (r : Int32) (h' : zHp), f_X7_whose a0 a1 h0 = some (r, h') → zCt yX7_whose (.code yX7_whose cX7_whose 5 (some .int)) 2 81 0 0 [.ref a0, .int a1] h0 (some (.int r)) h' := by
  refine zct_of M_X7_whose yX7_whose (by decide) rfl rfl [.ref a0, .int a1] h0 (Nat.le_of_ble_eq_true rfl) (fun r => some (.int r)) (fun X => ?_)
  show zG X M_X7_whose (0, 0) 0 [(0, .ref a0), (1, .int a1)] [] h0 (f_X7_whose a0 a1 h0) (fun (r : Int32) h' => zKe X (some (.int r)) h')
  unfold f_X7_whose
  refine zg_aload_n 0 rfl d_X7_whose_0 ?_
  refine zg_iload_n 1 rfl d_X7_whose_1 ?_
  refine zg_cVi (b := a0) (As := [.int a1]) (rest := []) (0, 0) d_X7_whose_2 zc_7 rfl cw_X7_168 wi_X7_isField ws_X7_isField rfl rfl (Nat.le_of_ble_eq_true rfl) (by decide) (by decide) ⟨by decide, by decide⟩ rfl (t_X7_isField a0 a1 h0) (fun v2 h1 => ?_)
  refine zg_if_ne d_X7_whose_5 ?_ ?_
  · refine zg_iconst (-1) rfl d_X7_whose_8 ?_
    exact zg_iretK d_X7_whose_9 rfl ⟨Nat.le_of_ble_eq_true rfl, Nat.le_of_ble_eq_true rfl⟩ (fun q => q)
  · refine zg_bipush (-2) rfl d_X7_whose_10 ?_
    refine zg_istore_n [(2, .int (-2)), (0, .ref a0), (1, .int a1)] d_X7_whose_12 rfl (by decide) rfl ?_
    refine zg_iconst 0 rfl d_X7_whose_13 ?_
    refine zg_istore_n [(3, .int 0), (2, .int (-2)), (0, .ref a0), (1, .int a1)] d_X7_whose_14 rfl (by decide) rfl ?_
    refine zg_iconst 0 rfl d_X7_whose_15 ?_
    refine zg_istore [(4, .int 0), (3, .int 0), (2, .int (-2)), (0, .ref a0), (1, .int a1)] d_X7_whose_16 (by decide) rfl ?_
    refine zg_bd (E := 68) (el := (fun (e5 : (Int32 × Int32 × Int32)) => [(0, .ref a0), (1, .int a1), (2, .int e5.1), (3, .int e5.2.1), (4, .int e5.2.2)])) (es := fun _ => []) (zg_sub [3, 4, 2, 1, 0] rfl (zg_lp (el := (fun (s3 : (Int32 × Int32 × Int32)) => [(0, .ref a0), (1, .int a1), (2, .int s3.1), (3, .int s3.2.1), (4, .int s3.2.2)])) (fun s3 h4 => ?_) ((-2), 0, 0) h1)) (fun e5 h6 => ?_)
    · refine zg_iload 4 rfl d_X7_whose_18 ?_
      refine zg_aload_n 0 rfl d_X7_whose_20 ?_
      refine zg_getR d_X7_whose_21 zc_7 (by decide) fl_X7_29 (fun v7 => ?_)
      refine zg_getI d_X7_whose_24 zc_6 (by decide) fl_X7_115 (fun v8 => ?_)
      refine zg_icmp_ge d_X7_whose_27 ?_ ?_
      · exact zg_finK (E := 0) [0, 1, 2, 3, 4] rfl rfl (fun q => q)
      · refine zg_aload_n 0 rfl d_X7_whose_30 ?_
        refine zg_getR d_X7_whose_31 zc_7 (by decide) fl_X7_38 (fun v9 => ?_)
        refine zg_getR d_X7_whose_34 zc_5 (by decide) fl_X7_268 (fun v10 => ?_)
        refine zg_iload 4 rfl d_X7_whose_37 ?_
        refine zg_ald5 d_X7_whose_39 (fun v11 => ?_)
        refine zg_iload_n 1 rfl d_X7_whose_40 ?_
        refine zg_ald0 d_X7_whose_41 (fun v12 => ?_)
        refine zg_iload_n 3 rfl d_X7_whose_42 ?_
        refine zg_icmp_le d_X7_whose_43 ?_ ?_
        · refine zg_iinc 4 (s3.2.2 + 1) [(4, .int (s3.2.2 + 1)), (0, .ref a0), (1, .int a1), (2, .int s3.1), (3, .int s3.2.1)] d_X7_whose_62 rfl rfl (by decide) rfl ?_
          refine zg_goto d_X7_whose_65 ?_
          exact zg_finK (E := 0) [1, 2, 3, 4, 0] rfl rfl (fun q => q)
        · refine zg_aload_n 0 rfl d_X7_whose_46 ?_
          refine zg_getR d_X7_whose_47 zc_7 (by decide) fl_X7_38 (fun v13 => ?_)
          refine zg_getR d_X7_whose_50 zc_5 (by decide) fl_X7_268 (fun v14 => ?_)
          refine zg_iload 4 rfl d_X7_whose_53 ?_
          refine zg_ald5 d_X7_whose_55 (fun v15 => ?_)
          refine zg_iload_n 1 rfl d_X7_whose_56 ?_
          refine zg_ald0 d_X7_whose_57 (fun v16 => ?_)
          refine zg_istore_n [(3, .int v16), (0, .ref a0), (1, .int a1), (2, .int s3.1), (4, .int s3.2.2)] d_X7_whose_58 rfl (by decide) rfl ?_
          refine zg_iload 4 rfl d_X7_whose_59 ?_
          refine zg_istore_n [(2, .int s3.2.2), (3, .int v16), (0, .ref a0), (1, .int a1), (4, .int s3.2.2)] d_X7_whose_61 rfl (by decide) rfl ?_
          refine zg_iinc 4 (s3.2.2 + 1) [(4, .int (s3.2.2 + 1)), (2, .int s3.2.2), (3, .int v16), (0, .ref a0), (1, .int a1)] d_X7_whose_62 rfl rfl (by decide) rfl ?_
          refine zg_goto d_X7_whose_65 ?_
          exact zg_finK (E := 0) [3, 4, 1, 2, 0] rfl rfl (fun q => q)
    · refine zg_iload_n 2 rfl d_X7_whose_68 ?_
      exact zg_iretK d_X7_whose_69 rfl ⟨Nat.le_of_ble_eq_true rfl, Nat.le_of_ble_eq_true rfl⟩ (fun q => q)
abbrev M_X8_howMany : zMt := (RX8, cX8_howMany, 5, 1, 60, (some .int), "howMany", 0, 0)
theorem d_X8_howMany_0 : zDc M_X8_howMany 0 (.iconst 0) 1 1 := ⟨by decide +kernel, rfl⟩
theorem d_X8_howMany_1 : zDc M_X8_howMany 1 (.istore_n 3) 1 2 := ⟨by decide +kernel, rfl⟩
theorem d_X8_howMany_2 : zDc M_X8_howMany 2 (.iconst 0) 1 3 := ⟨by decide +kernel, rfl⟩
theorem d_X8_howMany_3 : zDc M_X8_howMany 3 (.istore 4) 2 5 := ⟨by decide +kernel, rfl⟩
theorem d_X8_howMany_5 : zDc M_X8_howMany 5 (.iload 4) 2 7 := ⟨by decide +kernel, rfl⟩
theorem d_X8_howMany_7 : zDc M_X8_howMany 7 (.aload_n 0) 1 8 := ⟨by decide +kernel, rfl⟩
theorem d_X8_howMany_8 : zDc M_X8_howMany 8 (.getfield 13) 3 11 := ⟨by decide +kernel, rfl⟩
theorem d_X8_howMany_11 : zDc M_X8_howMany 11 (.iconst 1) 1 12 := ⟨by decide +kernel, rfl⟩
theorem d_X8_howMany_12 : zDc M_X8_howMany 12 (.iaload) 1 13 := ⟨by decide +kernel, rfl⟩
theorem d_X8_howMany_13 : zDj M_X8_howMany 13 (.if_icmp .ge 33) 33 16 46 := ⟨by decide +kernel, rfl, by decide⟩
theorem d_X8_howMany_16 : zDc M_X8_howMany 16 (.iload_n 3) 1 17 := ⟨by decide +kernel, rfl⟩
theorem d_X8_howMany_17 : zDc M_X8_howMany 17 (.aload_n 0) 1 18 := ⟨by decide +kernel, rfl⟩
theorem d_X8_howMany_18 : zDc M_X8_howMany 18 (.getfield 93) 3 21 := ⟨by decide +kernel, rfl⟩
theorem d_X8_howMany_21 : zDc M_X8_howMany 21 (.bipush 8) 2 23 := ⟨by decide +kernel, rfl⟩
theorem d_X8_howMany_23 : zDc M_X8_howMany 23 (.iload_n 1) 1 24 := ⟨by decide +kernel, rfl⟩
theorem d_X8_howMany_24 : zDc M_X8_howMany 24 (.imul) 1 25 := ⟨by decide +kernel, rfl⟩
theorem d_X8_howMany_25 : zDc M_X8_howMany 25 (.iload 4) 2 27 := ⟨by decide +kernel, rfl⟩
theorem d_X8_howMany_27 : zDc M_X8_howMany 27 (.iadd) 1 28 := ⟨by decide +kernel, rfl⟩
theorem d_X8_howMany_28 : zDc M_X8_howMany 28 (.iaload) 1 29 := ⟨by decide +kernel, rfl⟩
theorem d_X8_howMany_29 : zDc M_X8_howMany 29 (.iload_n 2) 1 30 := ⟨by decide +kernel, rfl⟩
theorem d_X8_howMany_30 : zDj M_X8_howMany 30 (.if_icmp .ne 7) 7 33 37 := ⟨by decide +kernel, rfl, by decide⟩
theorem d_X8_howMany_33 : zDc M_X8_howMany 33 (.iconst 1) 1 34 := ⟨by decide +kernel, rfl⟩
theorem d_X8_howMany_34 : zDj M_X8_howMany 34 (.goto 4) 4 37 38 := ⟨by decide +kernel, rfl, by decide⟩
theorem d_X8_howMany_37 : zDc M_X8_howMany 37 (.iconst 0) 1 38 := ⟨by decide +kernel, rfl⟩
theorem d_X8_howMany_38 : zDc M_X8_howMany 38 (.iadd) 1 39 := ⟨by decide +kernel, rfl⟩
theorem d_X8_howMany_39 : zDc M_X8_howMany 39 (.istore_n 3) 1 40 := ⟨by decide +kernel, rfl⟩
theorem d_X8_howMany_40 : zDc M_X8_howMany 40 (.iinc 4 1) 3 43 := ⟨by decide +kernel, rfl⟩
theorem d_X8_howMany_43 : zDj M_X8_howMany 43 (.goto (-38)) (-38) 46 5 := ⟨by decide +kernel, rfl, by decide⟩
theorem d_X8_howMany_46 : zDc M_X8_howMany 46 (.iload_n 3) 1 47 := ⟨by decide +kernel, rfl⟩
theorem d_X8_howMany_47 : zDc M_X8_howMany 47 (.ireturn) 1 48 := ⟨by decide +kernel, rfl⟩
def f_X8_howMany (a0 : Nat) (a1 : Int32) (a2 : Int32) (h0 : zHp) : Option (Int32 × zHp) :=
  zbd (
  zlp (σ := (Int32 × Int32)) (β := (Int32 × Int32)) zLF (fun s1 h2 =>
  zob (zgR h2 a0 8 3) (fun v5 =>
  zob (zaI 0 h2 v5 1) (fun v6 =>
  if v6 ≤ s1.2 then
  some ((.inr (s1.1, s1.2)), h2)
  else
  zob (zgR h2 a0 8 42) (fun v7 =>
  zob (zaI 0 h2 v7 ((8 * a1) + s1.2)) (fun v8 =>
  if v8 = a2 then
  some ((.inl ((s1.1 + 1), (s1.2 + 1))), h2)
  else
  some ((.inl ((s1.1 + 0), (s1.2 + 1))), h2)))))) (0, 0) h0) (fun e3 h4 =>
  some (e3.1, h4))
set_option maxRecDepth 100000 in
set_option maxHeartbeats 4000000 in
theorem t_X8_howMany (a0 : Nat) (a1 : Int32) (a2 : Int32) (h0 : zHp) : ∀ (r : Int32) (h' : zHp), f_X8_howMany a0 a1 a2 h0 = some (r, h') → zCt yX8_howMany (.code yX8_howMany cX8_howMany 5 (some .int)) 1 60 0 0 [.ref a0, .int a1, .int a2] h0 (some (.int r)) h' := by
  refine zct_of M_X8_howMany yX8_howMany (by decide) rfl rfl [.ref a0, .int a1, .int a2] h0 (Nat.le_of_ble_eq_true rfl) (fun r => some (.int r)) (fun X => ?_)
  show zG X M_X8_howMany (0, 0) 0 [(0, .ref a0), (1, .int a1), (2, .int a2)] [] h0 (f_X8_howMany a0 a1 a2 h0) (fun (r : Int32) h' => zKe X (some (.int r)) h')
  unfold f_X8_howMany
  refine zg_iconst 0 rfl d_X8_howMany_0 ?_
  refine zg_istore_n [(3, .int 0), (0, .ref a0), (1, .int a1), (2, .int a2)] d_X8_howMany_1 rfl (by decide) rfl ?_
  refine zg_iconst 0 rfl d_X8_howMany_2 ?_
  refine zg_istore [(4, .int 0), (3, .int 0), (0, .ref a0), (1, .int a1), (2, .int a2)] d_X8_howMany_3 (by decide) rfl ?_
  refine zg_bd (E := 46) (el := (fun (e3 : (Int32 × Int32)) => [(0, .ref a0), (1, .int a1), (2, .int a2), (3, .int e3.1), (4, .int e3.2)])) (es := fun _ => []) (zg_sub [2, 3, 4, 1, 0] rfl (zg_lp (el := (fun (s1 : (Int32 × Int32)) => [(0, .ref a0), (1, .int a1), (2, .int a2), (3, .int s1.1), (4, .int s1.2)])) (fun s1 h2 => ?_) (0, 0) h0)) (fun e3 h4 => ?_)
  · refine zg_iload 4 rfl d_X8_howMany_5 ?_
    refine zg_aload_n 0 rfl d_X8_howMany_7 ?_
    refine zg_getR d_X8_howMany_8 zc_8 (by decide) fl_X8_13 (fun v5 => ?_)
    refine zg_iconst 1 rfl d_X8_howMany_11 ?_
    refine zg_ald0 d_X8_howMany_12 (fun v6 => ?_)
    refine zg_icmp_ge d_X8_howMany_13 ?_ ?_
    · exact zg_finK (E := 0) [0, 1, 2, 3, 4] rfl rfl (fun q => q)
    · refine zg_iload_n 3 rfl d_X8_howMany_16 ?_
      refine zg_aload_n 0 rfl d_X8_howMany_17 ?_
      refine zg_getR d_X8_howMany_18 zc_8 (by decide) fl_X8_93 (fun v7 => ?_)
      refine zg_bipush 8 rfl d_X8_howMany_21 ?_
      refine zg_iload_n 1 rfl d_X8_howMany_23 ?_
      refine zg_imul d_X8_howMany_24 ?_
      refine zg_iload 4 rfl d_X8_howMany_25 ?_
      refine zg_iadd d_X8_howMany_27 ?_
      refine zg_ald0 d_X8_howMany_28 (fun v8 => ?_)
      refine zg_iload_n 2 rfl d_X8_howMany_29 ?_
      refine zg_icmp_ne d_X8_howMany_30 ?_ ?_
      · refine zg_iconst 1 rfl d_X8_howMany_33 ?_
        refine zg_goto d_X8_howMany_34 ?_
        refine zg_iadd d_X8_howMany_38 ?_
        refine zg_istore_n [(3, .int (s1.1 + 1)), (0, .ref a0), (1, .int a1), (2, .int a2), (4, .int s1.2)] d_X8_howMany_39 rfl (by decide) rfl ?_
        refine zg_iinc 4 (s1.2 + 1) [(4, .int (s1.2 + 1)), (3, .int (s1.1 + 1)), (0, .ref a0), (1, .int a1), (2, .int a2)] d_X8_howMany_40 rfl rfl (by decide) rfl ?_
        refine zg_goto d_X8_howMany_43 ?_
        exact zg_finK (E := 0) [2, 3, 4, 1, 0] rfl rfl (fun q => q)
      · refine zg_iconst 0 rfl d_X8_howMany_37 ?_
        refine zg_iadd d_X8_howMany_38 ?_
        refine zg_istore_n [(3, .int (s1.1 + 0)), (0, .ref a0), (1, .int a1), (2, .int a2), (4, .int s1.2)] d_X8_howMany_39 rfl (by decide) rfl ?_
        refine zg_iinc 4 (s1.2 + 1) [(4, .int (s1.2 + 1)), (3, .int (s1.1 + 0)), (0, .ref a0), (1, .int a1), (2, .int a2)] d_X8_howMany_40 rfl rfl (by decide) rfl ?_
        refine zg_goto d_X8_howMany_43 ?_
        exact zg_finK (E := 0) [2, 3, 4, 1, 0] rfl rfl (fun q => q)
  · refine zg_iload_n 3 rfl d_X8_howMany_46 ?_
    exact zg_iretK d_X8_howMany_47 rfl ⟨Nat.le_of_ble_eq_true rfl, Nat.le_of_ble_eq_true rfl⟩ (fun q => q)
abbrev M_X8_marksAll : zMt := (RX8, cX8_marksAll, 4, 1, 60, (some .int), "marksAll", 0, 0)
theorem d_X8_marksAll_0 : zDc M_X8_marksAll 0 (.iconst 0) 1 1 := ⟨by decide +kernel, rfl⟩
theorem d_X8_marksAll_1 : zDc M_X8_marksAll 1 (.istore_n 2) 1 2 := ⟨by decide +kernel, rfl⟩
theorem d_X8_marksAll_2 : zDc M_X8_marksAll 2 (.iconst 0) 1 3 := ⟨by decide +kernel, rfl⟩
theorem d_X8_marksAll_3 : zDc M_X8_marksAll 3 (.istore_n 3) 1 4 := ⟨by decide +kernel, rfl⟩
theorem d_X8_marksAll_4 : zDc M_X8_marksAll 4 (.iload_n 3) 1 5 := ⟨by decide +kernel, rfl⟩
theorem d_X8_marksAll_5 : zDc M_X8_marksAll 5 (.aload_n 0) 1 6 := ⟨by decide +kernel, rfl⟩
theorem d_X8_marksAll_6 : zDc M_X8_marksAll 6 (.getfield 13) 3 9 := ⟨by decide +kernel, rfl⟩
theorem d_X8_marksAll_9 : zDc M_X8_marksAll 9 (.iconst 2) 1 10 := ⟨by decide +kernel, rfl⟩
theorem d_X8_marksAll_10 : zDc M_X8_marksAll 10 (.iaload) 1 11 := ⟨by decide +kernel, rfl⟩
theorem d_X8_marksAll_11 : zDj M_X8_marksAll 11 (.if_icmp .ge 23) 23 14 34 := ⟨by decide +kernel, rfl, by decide⟩
theorem d_X8_marksAll_14 : zDc M_X8_marksAll 14 (.iload_n 2) 1 15 := ⟨by decide +kernel, rfl⟩
theorem d_X8_marksAll_15 : zDc M_X8_marksAll 15 (.aload_n 0) 1 16 := ⟨by decide +kernel, rfl⟩
theorem d_X8_marksAll_16 : zDc M_X8_marksAll 16 (.getfield 99) 3 19 := ⟨by decide +kernel, rfl⟩
theorem d_X8_marksAll_19 : zDc M_X8_marksAll 19 (.bipush 6) 2 21 := ⟨by decide +kernel, rfl⟩
theorem d_X8_marksAll_21 : zDc M_X8_marksAll 21 (.iload_n 1) 1 22 := ⟨by decide +kernel, rfl⟩
theorem d_X8_marksAll_22 : zDc M_X8_marksAll 22 (.imul) 1 23 := ⟨by decide +kernel, rfl⟩
theorem d_X8_marksAll_23 : zDc M_X8_marksAll 23 (.iload_n 3) 1 24 := ⟨by decide +kernel, rfl⟩
theorem d_X8_marksAll_24 : zDc M_X8_marksAll 24 (.iadd) 1 25 := ⟨by decide +kernel, rfl⟩
theorem d_X8_marksAll_25 : zDc M_X8_marksAll 25 (.iaload) 1 26 := ⟨by decide +kernel, rfl⟩
theorem d_X8_marksAll_26 : zDc M_X8_marksAll 26 (.iadd) 1 27 := ⟨by decide +kernel, rfl⟩
theorem d_X8_marksAll_27 : zDc M_X8_marksAll 27 (.istore_n 2) 1 28 := ⟨by decide +kernel, rfl⟩
theorem d_X8_marksAll_28 : zDc M_X8_marksAll 28 (.iinc 3 1) 3 31 := ⟨by decide +kernel, rfl⟩
theorem d_X8_marksAll_31 : zDj M_X8_marksAll 31 (.goto (-27)) (-27) 34 4 := ⟨by decide +kernel, rfl, by decide⟩
theorem d_X8_marksAll_34 : zDc M_X8_marksAll 34 (.iload_n 2) 1 35 := ⟨by decide +kernel, rfl⟩
theorem d_X8_marksAll_35 : zDc M_X8_marksAll 35 (.ireturn) 1 36 := ⟨by decide +kernel, rfl⟩
def f_X8_marksAll (a0 : Nat) (a1 : Int32) (h0 : zHp) : Option (Int32 × zHp) :=
  zbd (
  zlp (σ := (Int32 × Int32)) (β := (Int32 × Int32)) zLF (fun s1 h2 =>
  zob (zgR h2 a0 8 3) (fun v5 =>
  zob (zaI 0 h2 v5 2) (fun v6 =>
  if v6 ≤ s1.2 then
  some ((.inr (s1.1, s1.2)), h2)
  else
  zob (zgR h2 a0 8 44) (fun v7 =>
  zob (zaI 0 h2 v7 ((6 * a1) + s1.2)) (fun v8 =>
  some ((.inl ((s1.1 + v8), (s1.2 + 1))), h2)))))) (0, 0) h0) (fun e3 h4 =>
  some (e3.1, h4))
set_option maxRecDepth 100000 in
set_option maxHeartbeats 4000000 in
theorem t_X8_marksAll (a0 : Nat) (a1 : Int32) (h0 : zHp) : ∀ (r : Int32) (h' : zHp), f_X8_marksAll a0 a1 h0 = some (r, h') → zCt yX8_marksAll (.code yX8_marksAll cX8_marksAll 4 (some .int)) 1 60 0 0 [.ref a0, .int a1] h0 (some (.int r)) h' := by
  refine zct_of M_X8_marksAll yX8_marksAll (by decide) rfl rfl [.ref a0, .int a1] h0 (Nat.le_of_ble_eq_true rfl) (fun r => some (.int r)) (fun X => ?_)
  show zG X M_X8_marksAll (0, 0) 0 [(0, .ref a0), (1, .int a1)] [] h0 (f_X8_marksAll a0 a1 h0) (fun (r : Int32) h' => zKe X (some (.int r)) h')
  unfold f_X8_marksAll
  refine zg_iconst 0 rfl d_X8_marksAll_0 ?_
  refine zg_istore_n [(2, .int 0), (0, .ref a0), (1, .int a1)] d_X8_marksAll_1 rfl (by decide) rfl ?_
  refine zg_iconst 0 rfl d_X8_marksAll_2 ?_
  refine zg_istore_n [(3, .int 0), (2, .int 0), (0, .ref a0), (1, .int a1)] d_X8_marksAll_3 rfl (by decide) rfl ?_
  refine zg_bd (E := 34) (el := (fun (e3 : (Int32 × Int32)) => [(0, .ref a0), (1, .int a1), (2, .int e3.1), (3, .int e3.2)])) (es := fun _ => []) (zg_sub [2, 3, 1, 0] rfl (zg_lp (el := (fun (s1 : (Int32 × Int32)) => [(0, .ref a0), (1, .int a1), (2, .int s1.1), (3, .int s1.2)])) (fun s1 h2 => ?_) (0, 0) h0)) (fun e3 h4 => ?_)
  · refine zg_iload_n 3 rfl d_X8_marksAll_4 ?_
    refine zg_aload_n 0 rfl d_X8_marksAll_5 ?_
    refine zg_getR d_X8_marksAll_6 zc_8 (by decide) fl_X8_13 (fun v5 => ?_)
    refine zg_iconst 2 rfl d_X8_marksAll_9 ?_
    refine zg_ald0 d_X8_marksAll_10 (fun v6 => ?_)
    refine zg_icmp_ge d_X8_marksAll_11 ?_ ?_
    · exact zg_finK (E := 0) [0, 1, 2, 3] rfl rfl (fun q => q)
    · refine zg_iload_n 2 rfl d_X8_marksAll_14 ?_
      refine zg_aload_n 0 rfl d_X8_marksAll_15 ?_
      refine zg_getR d_X8_marksAll_16 zc_8 (by decide) fl_X8_99 (fun v7 => ?_)
      refine zg_bipush 6 rfl d_X8_marksAll_19 ?_
      refine zg_iload_n 1 rfl d_X8_marksAll_21 ?_
      refine zg_imul d_X8_marksAll_22 ?_
      refine zg_iload_n 3 rfl d_X8_marksAll_23 ?_
      refine zg_iadd d_X8_marksAll_24 ?_
      refine zg_ald0 d_X8_marksAll_25 (fun v8 => ?_)
      refine zg_iadd d_X8_marksAll_26 ?_
      refine zg_istore_n [(2, .int (s1.1 + v8)), (0, .ref a0), (1, .int a1), (3, .int s1.2)] d_X8_marksAll_27 rfl (by decide) rfl ?_
      refine zg_iinc 3 (s1.2 + 1) [(3, .int (s1.2 + 1)), (2, .int (s1.1 + v8)), (0, .ref a0), (1, .int a1)] d_X8_marksAll_28 rfl rfl (by decide) rfl ?_
      refine zg_goto d_X8_marksAll_31 ?_
      exact zg_finK (E := 0) [2, 3, 1, 0] rfl rfl (fun q => q)
  · refine zg_iload_n 2 rfl d_X8_marksAll_34 ?_
    exact zg_iretK d_X8_marksAll_35 rfl ⟨Nat.le_of_ble_eq_true rfl, Nat.le_of_ble_eq_true rfl⟩ (fun q => q)
abbrev M_X8_rainAll : zMt := (RX8, cX8_rainAll, 4, 1, 60, (some .int), "rainAll", 0, 0)
theorem d_X8_rainAll_0 : zDc M_X8_rainAll 0 (.iconst 0) 1 1 := ⟨by decide +kernel, rfl⟩
theorem d_X8_rainAll_1 : zDc M_X8_rainAll 1 (.istore_n 2) 1 2 := ⟨by decide +kernel, rfl⟩
theorem d_X8_rainAll_2 : zDc M_X8_rainAll 2 (.iconst 0) 1 3 := ⟨by decide +kernel, rfl⟩
theorem d_X8_rainAll_3 : zDc M_X8_rainAll 3 (.istore_n 3) 1 4 := ⟨by decide +kernel, rfl⟩
theorem d_X8_rainAll_4 : zDc M_X8_rainAll 4 (.iload_n 3) 1 5 := ⟨by decide +kernel, rfl⟩
theorem d_X8_rainAll_5 : zDc M_X8_rainAll 5 (.aload_n 0) 1 6 := ⟨by decide +kernel, rfl⟩
theorem d_X8_rainAll_6 : zDc M_X8_rainAll 6 (.getfield 13) 3 9 := ⟨by decide +kernel, rfl⟩
theorem d_X8_rainAll_9 : zDc M_X8_rainAll 9 (.iconst 0) 1 10 := ⟨by decide +kernel, rfl⟩
theorem d_X8_rainAll_10 : zDc M_X8_rainAll 10 (.iaload) 1 11 := ⟨by decide +kernel, rfl⟩
theorem d_X8_rainAll_11 : zDj M_X8_rainAll 11 (.if_icmp .ge 22) 22 14 33 := ⟨by decide +kernel, rfl, by decide⟩
theorem d_X8_rainAll_14 : zDc M_X8_rainAll 14 (.iload_n 2) 1 15 := ⟨by decide +kernel, rfl⟩
theorem d_X8_rainAll_15 : zDc M_X8_rainAll 15 (.aload_n 0) 1 16 := ⟨by decide +kernel, rfl⟩
theorem d_X8_rainAll_16 : zDc M_X8_rainAll 16 (.getfield 102) 3 19 := ⟨by decide +kernel, rfl⟩
theorem d_X8_rainAll_19 : zDc M_X8_rainAll 19 (.iconst 5) 1 20 := ⟨by decide +kernel, rfl⟩
theorem d_X8_rainAll_20 : zDc M_X8_rainAll 20 (.iload_n 1) 1 21 := ⟨by decide +kernel, rfl⟩
theorem d_X8_rainAll_21 : zDc M_X8_rainAll 21 (.imul) 1 22 := ⟨by decide +kernel, rfl⟩
theorem d_X8_rainAll_22 : zDc M_X8_rainAll 22 (.iload_n 3) 1 23 := ⟨by decide +kernel, rfl⟩
theorem d_X8_rainAll_23 : zDc M_X8_rainAll 23 (.iadd) 1 24 := ⟨by decide +kernel, rfl⟩
theorem d_X8_rainAll_24 : zDc M_X8_rainAll 24 (.iaload) 1 25 := ⟨by decide +kernel, rfl⟩
theorem d_X8_rainAll_25 : zDc M_X8_rainAll 25 (.iadd) 1 26 := ⟨by decide +kernel, rfl⟩
theorem d_X8_rainAll_26 : zDc M_X8_rainAll 26 (.istore_n 2) 1 27 := ⟨by decide +kernel, rfl⟩
theorem d_X8_rainAll_27 : zDc M_X8_rainAll 27 (.iinc 3 1) 3 30 := ⟨by decide +kernel, rfl⟩
theorem d_X8_rainAll_30 : zDj M_X8_rainAll 30 (.goto (-26)) (-26) 33 4 := ⟨by decide +kernel, rfl, by decide⟩
theorem d_X8_rainAll_33 : zDc M_X8_rainAll 33 (.iload_n 2) 1 34 := ⟨by decide +kernel, rfl⟩
theorem d_X8_rainAll_34 : zDc M_X8_rainAll 34 (.ireturn) 1 35 := ⟨by decide +kernel, rfl⟩
def f_X8_rainAll (a0 : Nat) (a1 : Int32) (h0 : zHp) : Option (Int32 × zHp) :=
  zbd (
  zlp (σ := (Int32 × Int32)) (β := (Int32 × Int32)) zLF (fun s1 h2 =>
  zob (zgR h2 a0 8 3) (fun v5 =>
  zob (zaI 0 h2 v5 0) (fun v6 =>
  if v6 ≤ s1.2 then
  some ((.inr (s1.1, s1.2)), h2)
  else
  zob (zgR h2 a0 8 45) (fun v7 =>
  zob (zaI 0 h2 v7 ((5 * a1) + s1.2)) (fun v8 =>
  some ((.inl ((s1.1 + v8), (s1.2 + 1))), h2)))))) (0, 0) h0) (fun e3 h4 =>
  some (e3.1, h4))
set_option maxRecDepth 100000 in
set_option maxHeartbeats 4000000 in
theorem t_X8_rainAll (a0 : Nat) (a1 : Int32) (h0 : zHp) : ∀ (r : Int32) (h' : zHp), f_X8_rainAll a0 a1 h0 = some (r, h') → zCt yX8_rainAll (.code yX8_rainAll cX8_rainAll 4 (some .int)) 1 60 0 0 [.ref a0, .int a1] h0 (some (.int r)) h' := by
  refine zct_of M_X8_rainAll yX8_rainAll (by decide) rfl rfl [.ref a0, .int a1] h0 (Nat.le_of_ble_eq_true rfl) (fun r => some (.int r)) (fun X => ?_)
  show zG X M_X8_rainAll (0, 0) 0 [(0, .ref a0), (1, .int a1)] [] h0 (f_X8_rainAll a0 a1 h0) (fun (r : Int32) h' => zKe X (some (.int r)) h')
  unfold f_X8_rainAll
  refine zg_iconst 0 rfl d_X8_rainAll_0 ?_
  refine zg_istore_n [(2, .int 0), (0, .ref a0), (1, .int a1)] d_X8_rainAll_1 rfl (by decide) rfl ?_
  refine zg_iconst 0 rfl d_X8_rainAll_2 ?_
  refine zg_istore_n [(3, .int 0), (2, .int 0), (0, .ref a0), (1, .int a1)] d_X8_rainAll_3 rfl (by decide) rfl ?_
  refine zg_bd (E := 33) (el := (fun (e3 : (Int32 × Int32)) => [(0, .ref a0), (1, .int a1), (2, .int e3.1), (3, .int e3.2)])) (es := fun _ => []) (zg_sub [2, 3, 1, 0] rfl (zg_lp (el := (fun (s1 : (Int32 × Int32)) => [(0, .ref a0), (1, .int a1), (2, .int s1.1), (3, .int s1.2)])) (fun s1 h2 => ?_) (0, 0) h0)) (fun e3 h4 => ?_)
  · refine zg_iload_n 3 rfl d_X8_rainAll_4 ?_
    refine zg_aload_n 0 rfl d_X8_rainAll_5 ?_
    refine zg_getR d_X8_rainAll_6 zc_8 (by decide) fl_X8_13 (fun v5 => ?_)
    refine zg_iconst 0 rfl d_X8_rainAll_9 ?_
    refine zg_ald0 d_X8_rainAll_10 (fun v6 => ?_)
    refine zg_icmp_ge d_X8_rainAll_11 ?_ ?_
    · exact zg_finK (E := 0) [0, 1, 2, 3] rfl rfl (fun q => q)
    · refine zg_iload_n 2 rfl d_X8_rainAll_14 ?_
      refine zg_aload_n 0 rfl d_X8_rainAll_15 ?_
      refine zg_getR d_X8_rainAll_16 zc_8 (by decide) fl_X8_102 (fun v7 => ?_)
      refine zg_iconst 5 rfl d_X8_rainAll_19 ?_
      refine zg_iload_n 1 rfl d_X8_rainAll_20 ?_
      refine zg_imul d_X8_rainAll_21 ?_
      refine zg_iload_n 3 rfl d_X8_rainAll_22 ?_
      refine zg_iadd d_X8_rainAll_23 ?_
      refine zg_ald0 d_X8_rainAll_24 (fun v8 => ?_)
      refine zg_iadd d_X8_rainAll_25 ?_
      refine zg_istore_n [(2, .int (s1.1 + v8)), (0, .ref a0), (1, .int a1), (3, .int s1.2)] d_X8_rainAll_26 rfl (by decide) rfl ?_
      refine zg_iinc 3 (s1.2 + 1) [(3, .int (s1.2 + 1)), (2, .int (s1.1 + v8)), (0, .ref a0), (1, .int a1)] d_X8_rainAll_27 rfl rfl (by decide) rfl ?_
      refine zg_goto d_X8_rainAll_30 ?_
      exact zg_finK (E := 0) [2, 3, 1, 0] rfl rfl (fun q => q)
  · refine zg_iload_n 2 rfl d_X8_rainAll_33 ?_
    exact zg_iretK d_X8_rainAll_34 rfl ⟨Nat.le_of_ble_eq_true rfl, Nat.le_of_ble_eq_true rfl⟩ (fun q => q)
abbrev M_X8_copies : zMt := (RX8, cX8_copies, 6, 1, 60, none, "copies", 0, 0)
theorem d_X8_copies_0 : zDc M_X8_copies 0 (.aload_n 0) 1 1 := ⟨by decide +kernel, rfl⟩
theorem d_X8_copies_1 : zDc M_X8_copies 1 (.getfield 75) 3 4 := ⟨by decide +kernel, rfl⟩
theorem d_X8_copies_4 : zDc M_X8_copies 4 (.iload_n 1) 1 5 := ⟨by decide +kernel, rfl⟩
theorem d_X8_copies_5 : zDc M_X8_copies 5 (.aload_n 0) 1 6 := ⟨by decide +kernel, rfl⟩
theorem d_X8_copies_6 : zDc M_X8_copies 6 (.getfield 75) 3 9 := ⟨by decide +kernel, rfl⟩
theorem d_X8_copies_9 : zDc M_X8_copies 9 (.iload_n 2) 1 10 := ⟨by decide +kernel, rfl⟩
theorem d_X8_copies_10 : zDc M_X8_copies 10 (.iaload) 1 11 := ⟨by decide +kernel, rfl⟩
theorem d_X8_copies_11 : zDc M_X8_copies 11 (.iastore) 1 12 := ⟨by decide +kernel, rfl⟩
theorem d_X8_copies_12 : zDc M_X8_copies 12 (.aload_n 0) 1 13 := ⟨by decide +kernel, rfl⟩
theorem d_X8_copies_13 : zDc M_X8_copies 13 (.getfield 78) 3 16 := ⟨by decide +kernel, rfl⟩
theorem d_X8_copies_16 : zDc M_X8_copies 16 (.iload_n 1) 1 17 := ⟨by decide +kernel, rfl⟩
theorem d_X8_copies_17 : zDc M_X8_copies 17 (.aload_n 0) 1 18 := ⟨by decide +kernel, rfl⟩
theorem d_X8_copies_18 : zDc M_X8_copies 18 (.getfield 78) 3 21 := ⟨by decide +kernel, rfl⟩
theorem d_X8_copies_21 : zDc M_X8_copies 21 (.iload_n 2) 1 22 := ⟨by decide +kernel, rfl⟩
theorem d_X8_copies_22 : zDc M_X8_copies 22 (.iaload) 1 23 := ⟨by decide +kernel, rfl⟩
theorem d_X8_copies_23 : zDc M_X8_copies 23 (.iastore) 1 24 := ⟨by decide +kernel, rfl⟩
theorem d_X8_copies_24 : zDc M_X8_copies 24 (.iconst 0) 1 25 := ⟨by decide +kernel, rfl⟩
theorem d_X8_copies_25 : zDc M_X8_copies 25 (.istore_n 3) 1 26 := ⟨by decide +kernel, rfl⟩
theorem d_X8_copies_26 : zDc M_X8_copies 26 (.iload_n 3) 1 27 := ⟨by decide +kernel, rfl⟩
theorem d_X8_copies_27 : zDc M_X8_copies 27 (.bipush 8) 2 29 := ⟨by decide +kernel, rfl⟩
theorem d_X8_copies_29 : zDj M_X8_copies 29 (.if_icmp .ge 95) 95 32 124 := ⟨by decide +kernel, rfl, by decide⟩
theorem d_X8_copies_32 : zDc M_X8_copies 32 (.bipush 8) 2 34 := ⟨by decide +kernel, rfl⟩
theorem d_X8_copies_34 : zDc M_X8_copies 34 (.iload_n 1) 1 35 := ⟨by decide +kernel, rfl⟩
theorem d_X8_copies_35 : zDc M_X8_copies 35 (.imul) 1 36 := ⟨by decide +kernel, rfl⟩
theorem d_X8_copies_36 : zDc M_X8_copies 36 (.iload_n 3) 1 37 := ⟨by decide +kernel, rfl⟩
theorem d_X8_copies_37 : zDc M_X8_copies 37 (.iadd) 1 38 := ⟨by decide +kernel, rfl⟩
theorem d_X8_copies_38 : zDc M_X8_copies 38 (.istore 4) 2 40 := ⟨by decide +kernel, rfl⟩
theorem d_X8_copies_40 : zDc M_X8_copies 40 (.bipush 8) 2 42 := ⟨by decide +kernel, rfl⟩
theorem d_X8_copies_42 : zDc M_X8_copies 42 (.iload_n 2) 1 43 := ⟨by decide +kernel, rfl⟩
theorem d_X8_copies_43 : zDc M_X8_copies 43 (.imul) 1 44 := ⟨by decide +kernel, rfl⟩
theorem d_X8_copies_44 : zDc M_X8_copies 44 (.iload_n 3) 1 45 := ⟨by decide +kernel, rfl⟩
theorem d_X8_copies_45 : zDc M_X8_copies 45 (.iadd) 1 46 := ⟨by decide +kernel, rfl⟩
theorem d_X8_copies_46 : zDc M_X8_copies 46 (.istore 5) 2 48 := ⟨by decide +kernel, rfl⟩
theorem d_X8_copies_48 : zDc M_X8_copies 48 (.aload_n 0) 1 49 := ⟨by decide +kernel, rfl⟩
theorem d_X8_copies_49 : zDc M_X8_copies 49 (.getfield 81) 3 52 := ⟨by decide +kernel, rfl⟩
theorem d_X8_copies_52 : zDc M_X8_copies 52 (.iload 4) 2 54 := ⟨by decide +kernel, rfl⟩
theorem d_X8_copies_54 : zDc M_X8_copies 54 (.aload_n 0) 1 55 := ⟨by decide +kernel, rfl⟩
theorem d_X8_copies_55 : zDc M_X8_copies 55 (.getfield 81) 3 58 := ⟨by decide +kernel, rfl⟩
theorem d_X8_copies_58 : zDc M_X8_copies 58 (.iload 5) 2 60 := ⟨by decide +kernel, rfl⟩
theorem d_X8_copies_60 : zDc M_X8_copies 60 (.iaload) 1 61 := ⟨by decide +kernel, rfl⟩
theorem d_X8_copies_61 : zDc M_X8_copies 61 (.iastore) 1 62 := ⟨by decide +kernel, rfl⟩
theorem d_X8_copies_62 : zDc M_X8_copies 62 (.aload_n 0) 1 63 := ⟨by decide +kernel, rfl⟩
theorem d_X8_copies_63 : zDc M_X8_copies 63 (.getfield 84) 3 66 := ⟨by decide +kernel, rfl⟩
theorem d_X8_copies_66 : zDc M_X8_copies 66 (.iload 4) 2 68 := ⟨by decide +kernel, rfl⟩
theorem d_X8_copies_68 : zDc M_X8_copies 68 (.aload_n 0) 1 69 := ⟨by decide +kernel, rfl⟩
theorem d_X8_copies_69 : zDc M_X8_copies 69 (.getfield 84) 3 72 := ⟨by decide +kernel, rfl⟩
theorem d_X8_copies_72 : zDc M_X8_copies 72 (.iload 5) 2 74 := ⟨by decide +kernel, rfl⟩
theorem d_X8_copies_74 : zDc M_X8_copies 74 (.iaload) 1 75 := ⟨by decide +kernel, rfl⟩
theorem d_X8_copies_75 : zDc M_X8_copies 75 (.iastore) 1 76 := ⟨by decide +kernel, rfl⟩
theorem d_X8_copies_76 : zDc M_X8_copies 76 (.aload_n 0) 1 77 := ⟨by decide +kernel, rfl⟩
theorem d_X8_copies_77 : zDc M_X8_copies 77 (.getfield 87) 3 80 := ⟨by decide +kernel, rfl⟩
theorem d_X8_copies_80 : zDc M_X8_copies 80 (.iload 4) 2 82 := ⟨by decide +kernel, rfl⟩
theorem d_X8_copies_82 : zDc M_X8_copies 82 (.aload_n 0) 1 83 := ⟨by decide +kernel, rfl⟩
theorem d_X8_copies_83 : zDc M_X8_copies 83 (.getfield 87) 3 86 := ⟨by decide +kernel, rfl⟩
theorem d_X8_copies_86 : zDc M_X8_copies 86 (.iload 5) 2 88 := ⟨by decide +kernel, rfl⟩
theorem d_X8_copies_88 : zDc M_X8_copies 88 (.iaload) 1 89 := ⟨by decide +kernel, rfl⟩
theorem d_X8_copies_89 : zDc M_X8_copies 89 (.iastore) 1 90 := ⟨by decide +kernel, rfl⟩
theorem d_X8_copies_90 : zDc M_X8_copies 90 (.aload_n 0) 1 91 := ⟨by decide +kernel, rfl⟩
theorem d_X8_copies_91 : zDc M_X8_copies 91 (.getfield 90) 3 94 := ⟨by decide +kernel, rfl⟩
theorem d_X8_copies_94 : zDc M_X8_copies 94 (.iload 4) 2 96 := ⟨by decide +kernel, rfl⟩
theorem d_X8_copies_96 : zDc M_X8_copies 96 (.aload_n 0) 1 97 := ⟨by decide +kernel, rfl⟩
theorem d_X8_copies_97 : zDc M_X8_copies 97 (.getfield 90) 3 100 := ⟨by decide +kernel, rfl⟩
theorem d_X8_copies_100 : zDc M_X8_copies 100 (.iload 5) 2 102 := ⟨by decide +kernel, rfl⟩
theorem d_X8_copies_102 : zDc M_X8_copies 102 (.iaload) 1 103 := ⟨by decide +kernel, rfl⟩
theorem d_X8_copies_103 : zDc M_X8_copies 103 (.iastore) 1 104 := ⟨by decide +kernel, rfl⟩
theorem d_X8_copies_104 : zDc M_X8_copies 104 (.aload_n 0) 1 105 := ⟨by decide +kernel, rfl⟩
theorem d_X8_copies_105 : zDc M_X8_copies 105 (.getfield 93) 3 108 := ⟨by decide +kernel, rfl⟩
theorem d_X8_copies_108 : zDc M_X8_copies 108 (.iload 4) 2 110 := ⟨by decide +kernel, rfl⟩
theorem d_X8_copies_110 : zDc M_X8_copies 110 (.aload_n 0) 1 111 := ⟨by decide +kernel, rfl⟩
theorem d_X8_copies_111 : zDc M_X8_copies 111 (.getfield 93) 3 114 := ⟨by decide +kernel, rfl⟩
theorem d_X8_copies_114 : zDc M_X8_copies 114 (.iload 5) 2 116 := ⟨by decide +kernel, rfl⟩
theorem d_X8_copies_116 : zDc M_X8_copies 116 (.iaload) 1 117 := ⟨by decide +kernel, rfl⟩
theorem d_X8_copies_117 : zDc M_X8_copies 117 (.iastore) 1 118 := ⟨by decide +kernel, rfl⟩
theorem d_X8_copies_118 : zDc M_X8_copies 118 (.iinc 3 1) 3 121 := ⟨by decide +kernel, rfl⟩
theorem d_X8_copies_121 : zDj M_X8_copies 121 (.goto (-95)) (-95) 124 26 := ⟨by decide +kernel, rfl, by decide⟩
theorem d_X8_copies_124 : zDc M_X8_copies 124 (.iconst 0) 1 125 := ⟨by decide +kernel, rfl⟩
theorem d_X8_copies_125 : zDc M_X8_copies 125 (.istore_n 3) 1 126 := ⟨by decide +kernel, rfl⟩
theorem d_X8_copies_126 : zDc M_X8_copies 126 (.iload_n 3) 1 127 := ⟨by decide +kernel, rfl⟩
theorem d_X8_copies_127 : zDc M_X8_copies 127 (.bipush 6) 2 129 := ⟨by decide +kernel, rfl⟩
theorem d_X8_copies_129 : zDj M_X8_copies 129 (.if_icmp .ge 53) 53 132 182 := ⟨by decide +kernel, rfl, by decide⟩
theorem d_X8_copies_132 : zDc M_X8_copies 132 (.aload_n 0) 1 133 := ⟨by decide +kernel, rfl⟩
theorem d_X8_copies_133 : zDc M_X8_copies 133 (.getfield 96) 3 136 := ⟨by decide +kernel, rfl⟩
theorem d_X8_copies_136 : zDc M_X8_copies 136 (.bipush 6) 2 138 := ⟨by decide +kernel, rfl⟩
theorem d_X8_copies_138 : zDc M_X8_copies 138 (.iload_n 1) 1 139 := ⟨by decide +kernel, rfl⟩
theorem d_X8_copies_139 : zDc M_X8_copies 139 (.imul) 1 140 := ⟨by decide +kernel, rfl⟩
theorem d_X8_copies_140 : zDc M_X8_copies 140 (.iload_n 3) 1 141 := ⟨by decide +kernel, rfl⟩
theorem d_X8_copies_141 : zDc M_X8_copies 141 (.iadd) 1 142 := ⟨by decide +kernel, rfl⟩
theorem d_X8_copies_142 : zDc M_X8_copies 142 (.aload_n 0) 1 143 := ⟨by decide +kernel, rfl⟩
theorem d_X8_copies_143 : zDc M_X8_copies 143 (.getfield 96) 3 146 := ⟨by decide +kernel, rfl⟩
theorem d_X8_copies_146 : zDc M_X8_copies 146 (.bipush 6) 2 148 := ⟨by decide +kernel, rfl⟩
theorem d_X8_copies_148 : zDc M_X8_copies 148 (.iload_n 2) 1 149 := ⟨by decide +kernel, rfl⟩
theorem d_X8_copies_149 : zDc M_X8_copies 149 (.imul) 1 150 := ⟨by decide +kernel, rfl⟩
theorem d_X8_copies_150 : zDc M_X8_copies 150 (.iload_n 3) 1 151 := ⟨by decide +kernel, rfl⟩
theorem d_X8_copies_151 : zDc M_X8_copies 151 (.iadd) 1 152 := ⟨by decide +kernel, rfl⟩
theorem d_X8_copies_152 : zDc M_X8_copies 152 (.iaload) 1 153 := ⟨by decide +kernel, rfl⟩
theorem d_X8_copies_153 : zDc M_X8_copies 153 (.iastore) 1 154 := ⟨by decide +kernel, rfl⟩
theorem d_X8_copies_154 : zDc M_X8_copies 154 (.aload_n 0) 1 155 := ⟨by decide +kernel, rfl⟩
theorem d_X8_copies_155 : zDc M_X8_copies 155 (.getfield 99) 3 158 := ⟨by decide +kernel, rfl⟩
theorem d_X8_copies_158 : zDc M_X8_copies 158 (.bipush 6) 2 160 := ⟨by decide +kernel, rfl⟩
theorem d_X8_copies_160 : zDc M_X8_copies 160 (.iload_n 1) 1 161 := ⟨by decide +kernel, rfl⟩
theorem d_X8_copies_161 : zDc M_X8_copies 161 (.imul) 1 162 := ⟨by decide +kernel, rfl⟩
theorem d_X8_copies_162 : zDc M_X8_copies 162 (.iload_n 3) 1 163 := ⟨by decide +kernel, rfl⟩
theorem d_X8_copies_163 : zDc M_X8_copies 163 (.iadd) 1 164 := ⟨by decide +kernel, rfl⟩
theorem d_X8_copies_164 : zDc M_X8_copies 164 (.aload_n 0) 1 165 := ⟨by decide +kernel, rfl⟩
theorem d_X8_copies_165 : zDc M_X8_copies 165 (.getfield 99) 3 168 := ⟨by decide +kernel, rfl⟩
theorem d_X8_copies_168 : zDc M_X8_copies 168 (.bipush 6) 2 170 := ⟨by decide +kernel, rfl⟩
theorem d_X8_copies_170 : zDc M_X8_copies 170 (.iload_n 2) 1 171 := ⟨by decide +kernel, rfl⟩
theorem d_X8_copies_171 : zDc M_X8_copies 171 (.imul) 1 172 := ⟨by decide +kernel, rfl⟩
theorem d_X8_copies_172 : zDc M_X8_copies 172 (.iload_n 3) 1 173 := ⟨by decide +kernel, rfl⟩
theorem d_X8_copies_173 : zDc M_X8_copies 173 (.iadd) 1 174 := ⟨by decide +kernel, rfl⟩
theorem d_X8_copies_174 : zDc M_X8_copies 174 (.iaload) 1 175 := ⟨by decide +kernel, rfl⟩
theorem d_X8_copies_175 : zDc M_X8_copies 175 (.iastore) 1 176 := ⟨by decide +kernel, rfl⟩
theorem d_X8_copies_176 : zDc M_X8_copies 176 (.iinc 3 1) 3 179 := ⟨by decide +kernel, rfl⟩
theorem d_X8_copies_179 : zDj M_X8_copies 179 (.goto (-53)) (-53) 182 126 := ⟨by decide +kernel, rfl, by decide⟩
theorem d_X8_copies_182 : zDc M_X8_copies 182 (.iconst 0) 1 183 := ⟨by decide +kernel, rfl⟩
theorem d_X8_copies_183 : zDc M_X8_copies 183 (.istore_n 3) 1 184 := ⟨by decide +kernel, rfl⟩
theorem d_X8_copies_184 : zDc M_X8_copies 184 (.iload_n 3) 1 185 := ⟨by decide +kernel, rfl⟩
theorem d_X8_copies_185 : zDc M_X8_copies 185 (.iconst 5) 1 186 := ⟨by decide +kernel, rfl⟩
theorem d_X8_copies_186 : zDj M_X8_copies 186 (.if_icmp .ge 29) 29 189 215 := ⟨by decide +kernel, rfl, by decide⟩
theorem d_X8_copies_189 : zDc M_X8_copies 189 (.aload_n 0) 1 190 := ⟨by decide +kernel, rfl⟩
theorem d_X8_copies_190 : zDc M_X8_copies 190 (.getfield 102) 3 193 := ⟨by decide +kernel, rfl⟩
theorem d_X8_copies_193 : zDc M_X8_copies 193 (.iconst 5) 1 194 := ⟨by decide +kernel, rfl⟩
theorem d_X8_copies_194 : zDc M_X8_copies 194 (.iload_n 1) 1 195 := ⟨by decide +kernel, rfl⟩
theorem d_X8_copies_195 : zDc M_X8_copies 195 (.imul) 1 196 := ⟨by decide +kernel, rfl⟩
theorem d_X8_copies_196 : zDc M_X8_copies 196 (.iload_n 3) 1 197 := ⟨by decide +kernel, rfl⟩
theorem d_X8_copies_197 : zDc M_X8_copies 197 (.iadd) 1 198 := ⟨by decide +kernel, rfl⟩
theorem d_X8_copies_198 : zDc M_X8_copies 198 (.aload_n 0) 1 199 := ⟨by decide +kernel, rfl⟩
theorem d_X8_copies_199 : zDc M_X8_copies 199 (.getfield 102) 3 202 := ⟨by decide +kernel, rfl⟩
theorem d_X8_copies_202 : zDc M_X8_copies 202 (.iconst 5) 1 203 := ⟨by decide +kernel, rfl⟩
theorem d_X8_copies_203 : zDc M_X8_copies 203 (.iload_n 2) 1 204 := ⟨by decide +kernel, rfl⟩
theorem d_X8_copies_204 : zDc M_X8_copies 204 (.imul) 1 205 := ⟨by decide +kernel, rfl⟩
theorem d_X8_copies_205 : zDc M_X8_copies 205 (.iload_n 3) 1 206 := ⟨by decide +kernel, rfl⟩
theorem d_X8_copies_206 : zDc M_X8_copies 206 (.iadd) 1 207 := ⟨by decide +kernel, rfl⟩
theorem d_X8_copies_207 : zDc M_X8_copies 207 (.iaload) 1 208 := ⟨by decide +kernel, rfl⟩
theorem d_X8_copies_208 : zDc M_X8_copies 208 (.iastore) 1 209 := ⟨by decide +kernel, rfl⟩
theorem d_X8_copies_209 : zDc M_X8_copies 209 (.iinc 3 1) 3 212 := ⟨by decide +kernel, rfl⟩
theorem d_X8_copies_212 : zDj M_X8_copies 212 (.goto (-28)) (-28) 215 184 := ⟨by decide +kernel, rfl, by decide⟩
theorem d_X8_copies_215 : zDc M_X8_copies 215 (.iconst 0) 1 216 := ⟨by decide +kernel, rfl⟩
theorem d_X8_copies_216 : zDc M_X8_copies 216 (.istore_n 3) 1 217 := ⟨by decide +kernel, rfl⟩
theorem d_X8_copies_217 : zDc M_X8_copies 217 (.iload_n 3) 1 218 := ⟨by decide +kernel, rfl⟩
theorem d_X8_copies_218 : zDc M_X8_copies 218 (.bipush 35) 2 220 := ⟨by decide +kernel, rfl⟩
theorem d_X8_copies_220 : zDj M_X8_copies 220 (.if_icmp .ge 31) 31 223 251 := ⟨by decide +kernel, rfl, by decide⟩
theorem d_X8_copies_223 : zDc M_X8_copies 223 (.aload_n 0) 1 224 := ⟨by decide +kernel, rfl⟩
theorem d_X8_copies_224 : zDc M_X8_copies 224 (.getfield 105) 3 227 := ⟨by decide +kernel, rfl⟩
theorem d_X8_copies_227 : zDc M_X8_copies 227 (.bipush 35) 2 229 := ⟨by decide +kernel, rfl⟩
theorem d_X8_copies_229 : zDc M_X8_copies 229 (.iload_n 1) 1 230 := ⟨by decide +kernel, rfl⟩
theorem d_X8_copies_230 : zDc M_X8_copies 230 (.imul) 1 231 := ⟨by decide +kernel, rfl⟩
theorem d_X8_copies_231 : zDc M_X8_copies 231 (.iload_n 3) 1 232 := ⟨by decide +kernel, rfl⟩
theorem d_X8_copies_232 : zDc M_X8_copies 232 (.iadd) 1 233 := ⟨by decide +kernel, rfl⟩
theorem d_X8_copies_233 : zDc M_X8_copies 233 (.aload_n 0) 1 234 := ⟨by decide +kernel, rfl⟩
theorem d_X8_copies_234 : zDc M_X8_copies 234 (.getfield 105) 3 237 := ⟨by decide +kernel, rfl⟩
theorem d_X8_copies_237 : zDc M_X8_copies 237 (.bipush 35) 2 239 := ⟨by decide +kernel, rfl⟩
theorem d_X8_copies_239 : zDc M_X8_copies 239 (.iload_n 2) 1 240 := ⟨by decide +kernel, rfl⟩
theorem d_X8_copies_240 : zDc M_X8_copies 240 (.imul) 1 241 := ⟨by decide +kernel, rfl⟩
theorem d_X8_copies_241 : zDc M_X8_copies 241 (.iload_n 3) 1 242 := ⟨by decide +kernel, rfl⟩
theorem d_X8_copies_242 : zDc M_X8_copies 242 (.iadd) 1 243 := ⟨by decide +kernel, rfl⟩
theorem d_X8_copies_243 : zDc M_X8_copies 243 (.iaload) 1 244 := ⟨by decide +kernel, rfl⟩
theorem d_X8_copies_244 : zDc M_X8_copies 244 (.iastore) 1 245 := ⟨by decide +kernel, rfl⟩
theorem d_X8_copies_245 : zDc M_X8_copies 245 (.iinc 3 1) 3 248 := ⟨by decide +kernel, rfl⟩
theorem d_X8_copies_248 : zDj M_X8_copies 248 (.goto (-31)) (-31) 251 217 := ⟨by decide +kernel, rfl, by decide⟩
theorem d_X8_copies_251 : zDc M_X8_copies 251 (.return_) 1 252 := ⟨by decide +kernel, rfl⟩
def f_X8_copies (a0 : Nat) (a1 : Int32) (a2 : Int32) (h0 : zHp) : Option (Unit × zHp) :=
  zob (zgR h0 a0 8 36) (fun v1 =>
  zob (zgR h0 a0 8 36) (fun v2 =>
  zob (zaI 0 h0 v2 a2) (fun v3 =>
  zob (zsI 0 h0 v1 a1 v3) (fun h4 =>
  zob (zgR h4 a0 8 37) (fun v5 =>
  zob (zgR h4 a0 8 37) (fun v6 =>
  zob (zaI 0 h4 v6 a2) (fun v7 =>
  zob (zsI 0 h4 v5 a1 v7) (fun h8 =>
  zbd (
  zlp (σ := Int32) (β := Int32) zLF (fun s9 h10 =>
  if 8 ≤ s9 then
  some ((.inr s9), h10)
  else
  zob (zgR h10 a0 8 38) (fun v13 =>
  zob (zgR h10 a0 8 38) (fun v14 =>
  zob (zaI 0 h10 v14 ((8 * a2) + s9)) (fun v15 =>
  zob (zsI 0 h10 v13 ((8 * a1) + s9) v15) (fun h16 =>
  zob (zgR h16 a0 8 39) (fun v17 =>
  zob (zgR h16 a0 8 39) (fun v18 =>
  zob (zaI 0 h16 v18 ((8 * a2) + s9)) (fun v19 =>
  zob (zsI 0 h16 v17 ((8 * a1) + s9) v19) (fun h20 =>
  zob (zgR h20 a0 8 40) (fun v21 =>
  zob (zgR h20 a0 8 40) (fun v22 =>
  zob (zaI 0 h20 v22 ((8 * a2) + s9)) (fun v23 =>
  zob (zsI 0 h20 v21 ((8 * a1) + s9) v23) (fun h24 =>
  zob (zgR h24 a0 8 41) (fun v25 =>
  zob (zgR h24 a0 8 41) (fun v26 =>
  zob (zaI 0 h24 v26 ((8 * a2) + s9)) (fun v27 =>
  zob (zsI 0 h24 v25 ((8 * a1) + s9) v27) (fun h28 =>
  zob (zgR h28 a0 8 42) (fun v29 =>
  zob (zgR h28 a0 8 42) (fun v30 =>
  zob (zaI 0 h28 v30 ((8 * a2) + s9)) (fun v31 =>
  zob (zsI 0 h28 v29 ((8 * a1) + s9) v31) (fun h32 =>
  some ((.inl (s9 + 1)), h32)))))))))))))))))))))) 0 h8) (fun e11 h12 =>
  zbd (
  zlp (σ := Int32) (β := Int32) zLF (fun s33 h34 =>
  if 6 ≤ s33 then
  some ((.inr s33), h34)
  else
  zob (zgR h34 a0 8 43) (fun v37 =>
  zob (zgR h34 a0 8 43) (fun v38 =>
  zob (zaI 0 h34 v38 ((6 * a2) + s33)) (fun v39 =>
  zob (zsI 0 h34 v37 ((6 * a1) + s33) v39) (fun h40 =>
  zob (zgR h40 a0 8 44) (fun v41 =>
  zob (zgR h40 a0 8 44) (fun v42 =>
  zob (zaI 0 h40 v42 ((6 * a2) + s33)) (fun v43 =>
  zob (zsI 0 h40 v41 ((6 * a1) + s33) v43) (fun h44 =>
  some ((.inl (s33 + 1)), h44)))))))))) 0 h12) (fun e35 h36 =>
  zbd (
  zlp (σ := Int32) (β := Int32) zLF (fun s45 h46 =>
  if 5 ≤ s45 then
  some ((.inr s45), h46)
  else
  zob (zgR h46 a0 8 45) (fun v49 =>
  zob (zgR h46 a0 8 45) (fun v50 =>
  zob (zaI 0 h46 v50 ((5 * a2) + s45)) (fun v51 =>
  zob (zsI 0 h46 v49 ((5 * a1) + s45) v51) (fun h52 =>
  some ((.inl (s45 + 1)), h52)))))) 0 h36) (fun e47 h48 =>
  zbd (
  zlp (σ := Int32) (β := Int32) zLF (fun s53 h54 =>
  if 35 ≤ s53 then
  some ((.inr s53), h54)
  else
  zob (zgR h54 a0 8 46) (fun v57 =>
  zob (zgR h54 a0 8 46) (fun v58 =>
  zob (zaI 0 h54 v58 ((35 * a2) + s53)) (fun v59 =>
  zob (zsI 0 h54 v57 ((35 * a1) + s53) v59) (fun h60 =>
  some ((.inl (s53 + 1)), h60)))))) 0 h48) (fun e55 h56 =>
  some ((), h56)))))))))))))
set_option maxRecDepth 100000 in
set_option maxHeartbeats 4000000 in
theorem t_X8_copies (a0 : Nat) (a1 : Int32) (a2 : Int32) (h0 : zHp) : ∀ (r : Unit) (h' : zHp), f_X8_copies a0 a1 a2 h0 = some (r, h') → zCt yX8_copies (.code yX8_copies cX8_copies 6 none) 1 60 0 0 [.ref a0, .int a1, .int a2] h0 (none) h' := by
  refine zct_of M_X8_copies yX8_copies (by decide) rfl rfl [.ref a0, .int a1, .int a2] h0 (Nat.le_of_ble_eq_true rfl) (fun _ => none) (fun X => ?_)
  show zG X M_X8_copies (0, 0) 0 [(0, .ref a0), (1, .int a1), (2, .int a2)] [] h0 (f_X8_copies a0 a1 a2 h0) (fun (_ : Unit) h' => zKe X (none) h')
  unfold f_X8_copies
  refine zg_aload_n 0 rfl d_X8_copies_0 ?_
  refine zg_getR d_X8_copies_1 zc_8 (by decide) fl_X8_75 (fun v1 => ?_)
  refine zg_iload_n 1 rfl d_X8_copies_4 ?_
  refine zg_aload_n 0 rfl d_X8_copies_5 ?_
  refine zg_getR d_X8_copies_6 zc_8 (by decide) fl_X8_75 (fun v2 => ?_)
  refine zg_iload_n 2 rfl d_X8_copies_9 ?_
  refine zg_ald0 d_X8_copies_10 (fun v3 => ?_)
  refine zg_ast0 d_X8_copies_11 (fun h4 => ?_)
  refine zg_aload_n 0 rfl d_X8_copies_12 ?_
  refine zg_getR d_X8_copies_13 zc_8 (by decide) fl_X8_78 (fun v5 => ?_)
  refine zg_iload_n 1 rfl d_X8_copies_16 ?_
  refine zg_aload_n 0 rfl d_X8_copies_17 ?_
  refine zg_getR d_X8_copies_18 zc_8 (by decide) fl_X8_78 (fun v6 => ?_)
  refine zg_iload_n 2 rfl d_X8_copies_21 ?_
  refine zg_ald0 d_X8_copies_22 (fun v7 => ?_)
  refine zg_ast0 d_X8_copies_23 (fun h8 => ?_)
  refine zg_iconst 0 rfl d_X8_copies_24 ?_
  refine zg_istore_n [(3, .int 0), (0, .ref a0), (1, .int a1), (2, .int a2)] d_X8_copies_25 rfl (by decide) rfl ?_
  refine zg_bd (E := 124) (el := (fun (e11 : Int32) => [(0, .ref a0), (1, .int a1), (2, .int a2), (3, .int e11)])) (es := fun _ => []) (zg_sub [1, 2, 3, 0] rfl (zg_lp (el := (fun (s9 : Int32) => [(0, .ref a0), (1, .int a1), (2, .int a2), (3, .int s9)])) (fun s9 h10 => ?_) 0 h8)) (fun e11 h12 => ?_)
  · refine zg_iload_n 3 rfl d_X8_copies_26 ?_
    refine zg_bipush 8 rfl d_X8_copies_27 ?_
    refine zg_icmp_ge d_X8_copies_29 ?_ ?_
    · exact zg_finK (E := 0) [0, 1, 2, 3] rfl rfl (fun q => q)
    · refine zg_bipush 8 rfl d_X8_copies_32 ?_
      refine zg_iload_n 1 rfl d_X8_copies_34 ?_
      refine zg_imul d_X8_copies_35 ?_
      refine zg_iload_n 3 rfl d_X8_copies_36 ?_
      refine zg_iadd d_X8_copies_37 ?_
      refine zg_istore [(4, .int ((8 * a1) + s9)), (0, .ref a0), (1, .int a1), (2, .int a2), (3, .int s9)] d_X8_copies_38 (by decide) rfl ?_
      refine zg_bipush 8 rfl d_X8_copies_40 ?_
      refine zg_iload_n 3 rfl d_X8_copies_42 ?_
      refine zg_imul d_X8_copies_43 ?_
      refine zg_iload_n 4 rfl d_X8_copies_44 ?_
      refine zg_iadd d_X8_copies_45 ?_
      refine zg_istore [(5, .int ((8 * a2) + s9)), (4, .int ((8 * a1) + s9)), (0, .ref a0), (1, .int a1), (2, .int a2), (3, .int s9)] d_X8_copies_46 (by decide) rfl ?_
      refine zg_aload_n 2 rfl d_X8_copies_48 ?_
      refine zg_getR d_X8_copies_49 zc_8 (by decide) fl_X8_81 (fun v13 => ?_)
      refine zg_iload 1 rfl d_X8_copies_52 ?_
      refine zg_aload_n 2 rfl d_X8_copies_54 ?_
      refine zg_getR d_X8_copies_55 zc_8 (by decide) fl_X8_81 (fun v14 => ?_)
      refine zg_iload 0 rfl d_X8_copies_58 ?_
      refine zg_ald0 d_X8_copies_60 (fun v15 => ?_)
      refine zg_ast0 d_X8_copies_61 (fun h16 => ?_)
      refine zg_aload_n 2 rfl d_X8_copies_62 ?_
      refine zg_getR d_X8_copies_63 zc_8 (by decide) fl_X8_84 (fun v17 => ?_)
      refine zg_iload 1 rfl d_X8_copies_66 ?_
      refine zg_aload_n 2 rfl d_X8_copies_68 ?_
      refine zg_getR d_X8_copies_69 zc_8 (by decide) fl_X8_84 (fun v18 => ?_)
      refine zg_iload 0 rfl d_X8_copies_72 ?_
      refine zg_ald0 d_X8_copies_74 (fun v19 => ?_)
      refine zg_ast0 d_X8_copies_75 (fun h20 => ?_)
      refine zg_aload_n 2 rfl d_X8_copies_76 ?_
      refine zg_getR d_X8_copies_77 zc_8 (by decide) fl_X8_87 (fun v21 => ?_)
      refine zg_iload 1 rfl d_X8_copies_80 ?_
      refine zg_aload_n 2 rfl d_X8_copies_82 ?_
      refine zg_getR d_X8_copies_83 zc_8 (by decide) fl_X8_87 (fun v22 => ?_)
      refine zg_iload 0 rfl d_X8_copies_86 ?_
      refine zg_ald0 d_X8_copies_88 (fun v23 => ?_)
      refine zg_ast0 d_X8_copies_89 (fun h24 => ?_)
      refine zg_aload_n 2 rfl d_X8_copies_90 ?_
      refine zg_getR d_X8_copies_91 zc_8 (by decide) fl_X8_90 (fun v25 => ?_)
      refine zg_iload 1 rfl d_X8_copies_94 ?_
      refine zg_aload_n 2 rfl d_X8_copies_96 ?_
      refine zg_getR d_X8_copies_97 zc_8 (by decide) fl_X8_90 (fun v26 => ?_)
      refine zg_iload 0 rfl d_X8_copies_100 ?_
      refine zg_ald0 d_X8_copies_102 (fun v27 => ?_)
      refine zg_ast0 d_X8_copies_103 (fun h28 => ?_)
      refine zg_aload_n 2 rfl d_X8_copies_104 ?_
      refine zg_getR d_X8_copies_105 zc_8 (by decide) fl_X8_93 (fun v29 => ?_)
      refine zg_iload 1 rfl d_X8_copies_108 ?_
      refine zg_aload_n 2 rfl d_X8_copies_110 ?_
      refine zg_getR d_X8_copies_111 zc_8 (by decide) fl_X8_93 (fun v30 => ?_)
      refine zg_iload 0 rfl d_X8_copies_114 ?_
      refine zg_ald0 d_X8_copies_116 (fun v31 => ?_)
      refine zg_ast0 d_X8_copies_117 (fun h32 => ?_)
      refine zg_iinc 5 (s9 + 1) [(3, .int (s9 + 1)), (5, .int ((8 * a2) + s9)), (4, .int ((8 * a1) + s9)), (0, .ref a0), (1, .int a1), (2, .int a2)] d_X8_copies_118 rfl rfl (by decide) rfl ?_
      refine zg_goto d_X8_copies_121 ?_
      exact zg_finK (E := 0) [3, 4, 5, 0] rfl rfl (fun q => q)
  · refine zg_iconst 0 rfl d_X8_copies_124 ?_
    refine zg_istore_n [(3, .int 0), (0, .ref a0), (1, .int a1), (2, .int a2)] d_X8_copies_125 rfl (by decide) rfl ?_
    refine zg_bd (E := 182) (el := (fun (e35 : Int32) => [(0, .ref a0), (1, .int a1), (2, .int a2), (3, .int e35)])) (es := fun _ => []) (zg_sub [1, 2, 3, 0] rfl (zg_lp (el := (fun (s33 : Int32) => [(0, .ref a0), (1, .int a1), (2, .int a2), (3, .int s33)])) (fun s33 h34 => ?_) 0 h12)) (fun e35 h36 => ?_)
    · refine zg_iload_n 3 rfl d_X8_copies_126 ?_
      refine zg_bipush 6 rfl d_X8_copies_127 ?_
      refine zg_icmp_ge d_X8_copies_129 ?_ ?_
      · exact zg_finK (E := 0) [0, 1, 2, 3] rfl rfl (fun q => q)
      · refine zg_aload_n 0 rfl d_X8_copies_132 ?_
        refine zg_getR d_X8_copies_133 zc_8 (by decide) fl_X8_96 (fun v37 => ?_)
        refine zg_bipush 6 rfl d_X8_copies_136 ?_
        refine zg_iload_n 1 rfl d_X8_copies_138 ?_
        refine zg_imul d_X8_copies_139 ?_
        refine zg_iload_n 3 rfl d_X8_copies_140 ?_
        refine zg_iadd d_X8_copies_141 ?_
        refine zg_aload_n 0 rfl d_X8_copies_142 ?_
        refine zg_getR d_X8_copies_143 zc_8 (by decide) fl_X8_96 (fun v38 => ?_)
        refine zg_bipush 6 rfl d_X8_copies_146 ?_
        refine zg_iload_n 2 rfl d_X8_copies_148 ?_
        refine zg_imul d_X8_copies_149 ?_
        refine zg_iload_n 3 rfl d_X8_copies_150 ?_
        refine zg_iadd d_X8_copies_151 ?_
        refine zg_ald0 d_X8_copies_152 (fun v39 => ?_)
        refine zg_ast0 d_X8_copies_153 (fun h40 => ?_)
        refine zg_aload_n 0 rfl d_X8_copies_154 ?_
        refine zg_getR d_X8_copies_155 zc_8 (by decide) fl_X8_99 (fun v41 => ?_)
        refine zg_bipush 6 rfl d_X8_copies_158 ?_
        refine zg_iload_n 1 rfl d_X8_copies_160 ?_
        refine zg_imul d_X8_copies_161 ?_
        refine zg_iload_n 3 rfl d_X8_copies_162 ?_
        refine zg_iadd d_X8_copies_163 ?_
        refine zg_aload_n 0 rfl d_X8_copies_164 ?_
        refine zg_getR d_X8_copies_165 zc_8 (by decide) fl_X8_99 (fun v42 => ?_)
        refine zg_bipush 6 rfl d_X8_copies_168 ?_
        refine zg_iload_n 2 rfl d_X8_copies_170 ?_
        refine zg_imul d_X8_copies_171 ?_
        refine zg_iload_n 3 rfl d_X8_copies_172 ?_
        refine zg_iadd d_X8_copies_173 ?_
        refine zg_ald0 d_X8_copies_174 (fun v43 => ?_)
        refine zg_ast0 d_X8_copies_175 (fun h44 => ?_)
        refine zg_iinc 3 (s33 + 1) [(3, .int (s33 + 1)), (0, .ref a0), (1, .int a1), (2, .int a2)] d_X8_copies_176 rfl rfl (by decide) rfl ?_
        refine zg_goto d_X8_copies_179 ?_
        exact zg_finK (E := 0) [1, 2, 3, 0] rfl rfl (fun q => q)
    · refine zg_iconst 0 rfl d_X8_copies_182 ?_
      refine zg_istore_n [(3, .int 0), (0, .ref a0), (1, .int a1), (2, .int a2)] d_X8_copies_183 rfl (by decide) rfl ?_
      refine zg_bd (E := 215) (el := (fun (e47 : Int32) => [(0, .ref a0), (1, .int a1), (2, .int a2), (3, .int e47)])) (es := fun _ => []) (zg_sub [1, 2, 3, 0] rfl (zg_lp (el := (fun (s45 : Int32) => [(0, .ref a0), (1, .int a1), (2, .int a2), (3, .int s45)])) (fun s45 h46 => ?_) 0 h36)) (fun e47 h48 => ?_)
      · refine zg_iload_n 3 rfl d_X8_copies_184 ?_
        refine zg_iconst 5 rfl d_X8_copies_185 ?_
        refine zg_icmp_ge d_X8_copies_186 ?_ ?_
        · exact zg_finK (E := 0) [0, 1, 2, 3] rfl rfl (fun q => q)
        · refine zg_aload_n 0 rfl d_X8_copies_189 ?_
          refine zg_getR d_X8_copies_190 zc_8 (by decide) fl_X8_102 (fun v49 => ?_)
          refine zg_iconst 5 rfl d_X8_copies_193 ?_
          refine zg_iload_n 1 rfl d_X8_copies_194 ?_
          refine zg_imul d_X8_copies_195 ?_
          refine zg_iload_n 3 rfl d_X8_copies_196 ?_
          refine zg_iadd d_X8_copies_197 ?_
          refine zg_aload_n 0 rfl d_X8_copies_198 ?_
          refine zg_getR d_X8_copies_199 zc_8 (by decide) fl_X8_102 (fun v50 => ?_)
          refine zg_iconst 5 rfl d_X8_copies_202 ?_
          refine zg_iload_n 2 rfl d_X8_copies_203 ?_
          refine zg_imul d_X8_copies_204 ?_
          refine zg_iload_n 3 rfl d_X8_copies_205 ?_
          refine zg_iadd d_X8_copies_206 ?_
          refine zg_ald0 d_X8_copies_207 (fun v51 => ?_)
          refine zg_ast0 d_X8_copies_208 (fun h52 => ?_)
          refine zg_iinc 3 (s45 + 1) [(3, .int (s45 + 1)), (0, .ref a0), (1, .int a1), (2, .int a2)] d_X8_copies_209 rfl rfl (by decide) rfl ?_
          refine zg_goto d_X8_copies_212 ?_
          exact zg_finK (E := 0) [1, 2, 3, 0] rfl rfl (fun q => q)
      · refine zg_iconst 0 rfl d_X8_copies_215 ?_
        refine zg_istore_n [(3, .int 0), (0, .ref a0), (1, .int a1), (2, .int a2)] d_X8_copies_216 rfl (by decide) rfl ?_
        refine zg_bd (E := 251) (el := (fun (e55 : Int32) => [(0, .ref a0), (1, .int a1), (2, .int a2), (3, .int e55)])) (es := fun _ => []) (zg_sub [1, 2, 3, 0] rfl (zg_lp (el := (fun (s53 : Int32) => [(0, .ref a0), (1, .int a1), (2, .int a2), (3, .int s53)])) (fun s53 h54 => ?_) 0 h48)) (fun e55 h56 => ?_)
        · refine zg_iload_n 3 rfl d_X8_copies_217 ?_
          refine zg_bipush 35 rfl d_X8_copies_218 ?_
          refine zg_icmp_ge d_X8_copies_220 ?_ ?_
          · exact zg_finK (E := 0) [0, 1, 2, 3] rfl rfl (fun q => q)
          · refine zg_aload_n 0 rfl d_X8_copies_223 ?_
            refine zg_getR d_X8_copies_224 zc_8 (by decide) fl_X8_105 (fun v57 => ?_)
            refine zg_bipush 35 rfl d_X8_copies_227 ?_
            refine zg_iload_n 1 rfl d_X8_copies_229 ?_
            refine zg_imul d_X8_copies_230 ?_
            refine zg_iload_n 3 rfl d_X8_copies_231 ?_
            refine zg_iadd d_X8_copies_232 ?_
            refine zg_aload_n 0 rfl d_X8_copies_233 ?_
            refine zg_getR d_X8_copies_234 zc_8 (by decide) fl_X8_105 (fun v58 => ?_)
            refine zg_bipush 35 rfl d_X8_copies_237 ?_
            refine zg_iload_n 2 rfl d_X8_copies_239 ?_
            refine zg_imul d_X8_copies_240 ?_
            refine zg_iload_n 3 rfl d_X8_copies_241 ?_
            refine zg_iadd d_X8_copies_242 ?_
            refine zg_ald0 d_X8_copies_243 (fun v59 => ?_)
            refine zg_ast0 d_X8_copies_244 (fun h60 => ?_)
            refine zg_iinc 3 (s53 + 1) [(3, .int (s53 + 1)), (0, .ref a0), (1, .int a1), (2, .int a2)] d_X8_copies_245 rfl rfl (by decide) rfl ?_
            refine zg_goto d_X8_copies_248 ?_
            exact zg_finK (E := 0) [1, 2, 3, 0] rfl rfl (fun q => q)
        · exact zg_vretK d_X8_copies_251 rfl ⟨Nat.le_of_ble_eq_true rfl, Nat.le_of_ble_eq_true rfl⟩ (fun q => q)

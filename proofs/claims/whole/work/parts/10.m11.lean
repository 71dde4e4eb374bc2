theorem ml_X8_346 : Cond.methodLink RX8 346 Lib.Math.abs.name ∈ zT := zw_of _ 1768 (by decide +kernel) (by decide +kernel)
theorem ml_X8_348 : Cond.methodLink RX8 348 Lib.Math.max.name ∈ zT := zw_of _ 1769 (by decide +kernel) (by decide +kernel)
theorem fl_X8_343 : Cond.fieldLink RX8 343 (TX8 49).1 (TX8 49).2.1 (TX8 49).2.2.1 ∈ zT := zw_of _ 1411 (by decide +kernel) (by decide +kernel)
theorem fl_X8_16 : Cond.fieldLink RX8 16 (TX8 4).1 (TX8 4).2.1 (TX8 4).2.2.1 ∈ zT := zw_of _ 1366 (by decide +kernel) (by decide +kernel)
theorem fl_X8_108 : Cond.fieldLink RX8 108 (TX8 50).1 (TX8 50).2.1 (TX8 50).2.2.1 ∈ zT := zw_of _ 1412 (by decide +kernel) (by decide +kernel)
theorem ml_X8_351 : Cond.methodLink RX8 351 yX8_isUp ∈ zT := zw_of _ 1734 (by decide +kernel) (by decide +kernel)
theorem ni_X8 : Cond.initialized RX8 ∈ zT := zw_of _ 135 (by decide +kernel) (by decide +kernel)
theorem cd_X8_isUp : Cond.code yX8_isUp cX8_isUp 3 (some .boolean) ∈ zT := zw_of _ 1737 (by decide +kernel) (by decide +kernel)
theorem cw_X8_351 : zCw RX8 351 yX8_isUp cX8_isUp 3 (some .boolean) 2 := ⟨ml_X8_351, ni_X8, cd_X8_isUp, by decide, by decide, by decide +kernel⟩
theorem wi_X8_isUp : Cond.instanceMethod yX8_isUp ∈ zT := zw_of _ 1736 (by decide +kernel) (by decide +kernel)
theorem ws_X8_isUp : Cond.selects RX8 yX8_isUp yX8_isUp ∈ zT := zw_of _ 82 (by decide +kernel) (by decide +kernel)
theorem fl_X8_68 : Cond.fieldLink RX8 68 (TX8 33).1 (TX8 33).2.1 (TX8 33).2.2.1 ∈ zT := zw_of _ 1395 (by decide +kernel) (by decide +kernel)
theorem ml_X8_355 : Cond.methodLink RX8 355 yX8_groundIn ∈ zT := zw_of _ 1791 (by decide +kernel) (by decide +kernel)
theorem cd_X8_groundIn : Cond.code yX8_groundIn cX8_groundIn 2 (some .int) ∈ zT := zw_of _ 1794 (by decide +kernel) (by decide +kernel)
theorem cw_X8_355 : zCw RX8 355 yX8_groundIn cX8_groundIn 2 (some .int) 1 := ⟨ml_X8_355, ni_X8, cd_X8_groundIn, by decide, by decide, by decide +kernel⟩
theorem wi_X8_groundIn : Cond.instanceMethod yX8_groundIn ∈ zT := zw_of _ 1793 (by decide +kernel) (by decide +kernel)
theorem ws_X8_groundIn : Cond.selects RX8 yX8_groundIn yX8_groundIn ∈ zT := zw_of _ 89 (by decide +kernel) (by decide +kernel)
theorem kl_X8_358 : Cond.constantLong RX8 358 99 ∈ zT := zw_of _ 1795 (by decide +kernel) (by decide +kernel)
theorem ml_X8_360 : Cond.methodLink RX8 360 yX8_farOf ∈ zT := zw_of _ 1765 (by decide +kernel) (by decide +kernel)
theorem cd_X8_farOf : Cond.code yX8_farOf cX8_farOf 2 (some .int) ∈ zT := zw_of _ 1767 (by decide +kernel) (by decide +kernel)
theorem cw_X8_360 : zCw RX8 360 yX8_farOf cX8_farOf 2 (some .int) 2 := ⟨ml_X8_360, ni_X8, cd_X8_farOf, by decide, by decide, by decide +kernel⟩
theorem wt_X8_farOf : Cond.static yX8_farOf ∈ zT := zw_of _ 1766 (by decide +kernel) (by decide +kernel)
theorem ml_X8_363 : Cond.methodLink RX8 363 yX8_upMany ∈ zT := zw_of _ 1796 (by decide +kernel) (by decide +kernel)
theorem cd_X8_upMany : Cond.code yX8_upMany cX8_upMany 4 (some .int) ∈ zT := zw_of _ 1799 (by decide +kernel) (by decide +kernel)
theorem cw_X8_363 : zCw RX8 363 yX8_upMany cX8_upMany 4 (some .int) 1 := ⟨ml_X8_363, ni_X8, cd_X8_upMany, by decide, by decide, by decide +kernel⟩
theorem wi_X8_upMany : Cond.instanceMethod yX8_upMany ∈ zT := zw_of _ 1798 (by decide +kernel) (by decide +kernel)
theorem ws_X8_upMany : Cond.selects RX8 yX8_upMany yX8_upMany ∈ zT := zw_of _ 90 (by decide +kernel) (by decide +kernel)
theorem ml_X8_378 : Cond.methodLink RX8 378 yX8_isCell ∈ zT := zw_of _ 1754 (by decide +kernel) (by decide +kernel)
theorem cd_X8_isCell : Cond.code yX8_isCell cX8_isCell 2 (some .boolean) ∈ zT := zw_of _ 1756 (by decide +kernel) (by decide +kernel)
theorem cw_X8_378 : zCw RX8 378 yX8_isCell cX8_isCell 2 (some .boolean) 2 := ⟨ml_X8_378, ni_X8, cd_X8_isCell, by decide, by decide, by decide +kernel⟩
theorem wt_X8_isCell : Cond.static yX8_isCell ∈ zT := zw_of _ 1755 (by decide +kernel) (by decide +kernel)
theorem fl_X8_55 : Cond.fieldLink RX8 55 (TX8 17).1 (TX8 17).2.1 (TX8 17).2.2.1 ∈ zT := zw_of _ 1379 (by decide +kernel) (by decide +kernel)
theorem fl_X8_52 : Cond.fieldLink RX8 52 (TX8 16).1 (TX8 16).2.1 (TX8 16).2.2.1 ∈ zT := zw_of _ 1378 (by decide +kernel) (by decide +kernel)
theorem fl_X8_46 : Cond.fieldLink RX8 46 (TX8 14).1 (TX8 14).2.1 (TX8 14).2.2.1 ∈ zT := zw_of _ 1376 (by decide +kernel) (by decide +kernel)
theorem ml_X8_390 : Cond.methodLink RX8 390 yX8_doesSee ∈ zT := zw_of _ 1761 (by decide +kernel) (by decide +kernel)
theorem cd_X8_doesSee : Cond.code yX8_doesSee cX8_doesSee 4 (some .boolean) ∈ zT := zw_of _ 1764 (by decide +kernel) (by decide +kernel)
theorem cw_X8_390 : zCw RX8 390 yX8_doesSee cX8_doesSee 4 (some .boolean) 3 := ⟨ml_X8_390, ni_X8, cd_X8_doesSee, by decide, by decide, by decide +kernel⟩
theorem wi_X8_doesSee : Cond.instanceMethod yX8_doesSee ∈ zT := zw_of _ 1763 (by decide +kernel) (by decide +kernel)
theorem ws_X8_doesSee : Cond.selects RX8 yX8_doesSee yX8_doesSee ∈ zT := zw_of _ 85 (by decide +kernel) (by decide +kernel)
theorem ml_X8_394 : Cond.methodLink RX8 394 yX8_ownUp ∈ zT := zw_of _ 1730 (by decide +kernel) (by decide +kernel)
theorem cd_X8_ownUp : Cond.code yX8_ownUp cX8_ownUp 5 (some .int) ∈ zT := zw_of _ 1733 (by decide +kernel) (by decide +kernel)
theorem cw_X8_394 : zCw RX8 394 yX8_ownUp cX8_ownUp 5 (some .int) 2 := ⟨ml_X8_394, ni_X8, cd_X8_ownUp, by decide, by decide, by decide +kernel⟩
theorem wi_X8_ownUp : Cond.instanceMethod yX8_ownUp ∈ zT := zw_of _ 1732 (by decide +kernel) (by decide +kernel)
theorem ws_X8_ownUp : Cond.selects RX8 yX8_ownUp yX8_ownUp ∈ zT := zw_of _ 81 (by decide +kernel) (by decide +kernel)
theorem ml_X8_381 : Cond.methodLink RX8 381 Lib.Math.min.name ∈ zT := zw_of _ 1868 (by decide +kernel) (by decide +kernel)
theorem fl_X8_111 : Cond.fieldLink RX8 111 (TX8 51).1 (TX8 51).2.1 (TX8 51).2.2.1 ∈ zT := zw_of _ 1413 (by decide +kernel) (by decide +kernel)
theorem fl_X8_49 : Cond.fieldLink RX8 49 (TX8 15).1 (TX8 15).2.1 (TX8 15).2.2.1 ∈ zT := zw_of _ 1377 (by decide +kernel) (by decide +kernel)
abbrev M_X8_farOf : zMt := (RX8, cX8_farOf, 2, 1, 60, (some .int), "farOf", 0, 0)
theorem d_X8_farOf_0 : zDc M_X8_farOf 0 (.iload_n 0) 1 1 := ⟨by decide +kernel, rfl⟩
theorem d_X8_farOf_1 : zDc M_X8_farOf 1 (.bipush 6) 2 3 := ⟨by decide +kernel, rfl⟩
theorem d_X8_farOf_3 : zDc M_X8_farOf 3 (.irem) 1 4 := ⟨by decide +kernel, rfl⟩
theorem d_X8_farOf_4 : zDc M_X8_farOf 4 (.iload_n 1) 1 5 := ⟨by decide +kernel, rfl⟩
theorem d_X8_farOf_5 : zDc M_X8_farOf 5 (.bipush 6) 2 7 := ⟨by decide +kernel, rfl⟩
theorem d_X8_farOf_7 : zDc M_X8_farOf 7 (.irem) 1 8 := ⟨by decide +kernel, rfl⟩
theorem d_X8_farOf_8 : zDc M_X8_farOf 8 (.isub) 1 9 := ⟨by decide +kernel, rfl⟩
theorem d_X8_farOf_9 : zDc M_X8_farOf 9 (.invokestatic 346) 3 12 := ⟨by decide +kernel, rfl⟩
theorem d_X8_farOf_12 : zDc M_X8_farOf 12 (.iload_n 0) 1 13 := ⟨by decide +kernel, rfl⟩
theorem d_X8_farOf_13 : zDc M_X8_farOf 13 (.bipush 6) 2 15 := ⟨by decide +kernel, rfl⟩
theorem d_X8_farOf_15 : zDc M_X8_farOf 15 (.idiv) 1 16 := ⟨by decide +kernel, rfl⟩
theorem d_X8_farOf_16 : zDc M_X8_farOf 16 (.iload_n 1) 1 17 := ⟨by decide +kernel, rfl⟩
theorem d_X8_farOf_17 : zDc M_X8_farOf 17 (.bipush 6) 2 19 := ⟨by decide +kernel, rfl⟩
theorem d_X8_farOf_19 : zDc M_X8_farOf 19 (.idiv) 1 20 := ⟨by decide +kernel, rfl⟩
theorem d_X8_farOf_20 : zDc M_X8_farOf 20 (.isub) 1 21 := ⟨by decide +kernel, rfl⟩
theorem d_X8_farOf_21 : zDc M_X8_farOf 21 (.invokestatic 346) 3 24 := ⟨by decide +kernel, rfl⟩
theorem d_X8_farOf_24 : zDc M_X8_farOf 24 (.invokestatic 348) 3 27 := ⟨by decide +kernel, rfl⟩
theorem d_X8_farOf_27 : zDc M_X8_farOf 27 (.ireturn) 1 28 := ⟨by decide +kernel, rfl⟩
def f_X8_farOf (a0 : Int32) (a1 : Int32) (h0 : zHp) : Option (Int32 × zHp) :=
  some ((zmx (zab ((zrm a0 6) - (zrm a1 6))) (zab ((a0 / 6) - (a1 / 6)))), h0)
set_option maxRecDepth 100000 in
set_option maxHeartbeats 4000000 in
theorem t_X8_farOf (a0 : Int32) (a1 : Int32) (h0 : zHp) : ∀ (r : Int32) (h' : zHp), f_X8_farOf a0 a1 h0 = some (r, h') → zCt yX8_farOf (.code yX8_farOf cX8_farOf 2 (some .int)) 1 60 0 0 [.int a0, .int a1] h0 (some (.int r)) h' := by
  refine zct_of M_X8_farOf yX8_farOf (by decide) rfl rfl [.int a0, .int a1] h0 (Nat.le_of_ble_eq_true rfl) (fun r => some (.int r)) (fun X => ?_)
  show zG X M_X8_farOf (0, 0) 0 [(0, .int a0), (1, .int a1)] [] h0 (f_X8_farOf a0 a1 h0) (fun (r : Int32) h' => zKe X (some (.int r)) h')
  unfold f_X8_farOf
  refine zg_iload_n 0 rfl d_X8_farOf_0 ?_
  refine zg_bipush 6 rfl d_X8_farOf_1 ?_
  refine zg_irem (by decide) d_X8_farOf_3 ?_
  refine zg_iload_n 1 rfl d_X8_farOf_4 ?_
  refine zg_bipush 6 rfl d_X8_farOf_5 ?_
  refine zg_irem (by decide) d_X8_farOf_7 ?_
  refine zg_isub d_X8_farOf_8 ?_
  refine zg_mabs d_X8_farOf_9 ml_X8_346 (by decide) (Nat.le_of_ble_eq_true rfl) ⟨Nat.le_of_ble_eq_true rfl, Nat.le_of_ble_eq_true rfl⟩ ?_
  refine zg_iload_n 0 rfl d_X8_farOf_12 ?_
  refine zg_bipush 6 rfl d_X8_farOf_13 ?_
  refine zg_idiv (by decide) d_X8_farOf_15 ?_
  refine zg_iload_n 1 rfl d_X8_farOf_16 ?_
  refine zg_bipush 6 rfl d_X8_farOf_17 ?_
  refine zg_idiv (by decide) d_X8_farOf_19 ?_
  refine zg_isub d_X8_farOf_20 ?_
  refine zg_mabs d_X8_farOf_21 ml_X8_346 (by decide) (Nat.le_of_ble_eq_true rfl) ⟨Nat.le_of_ble_eq_true rfl, Nat.le_of_ble_eq_true rfl⟩ ?_
  refine zg_mmax d_X8_farOf_24 ml_X8_348 (by decide) (Nat.le_of_ble_eq_true rfl) ⟨Nat.le_of_ble_eq_true rfl, Nat.le_of_ble_eq_true rfl⟩ ?_
  exact zg_iretK d_X8_farOf_27 rfl ⟨Nat.le_of_ble_eq_true rfl, Nat.le_of_ble_eq_true rfl⟩ (fun q => q)
abbrev M_X8_groundIn : zMt := (RX8, cX8_groundIn, 2, 1, 60, (some .int), "groundIn", 0, 0)
theorem d_X8_groundIn_0 : zDc M_X8_groundIn 0 (.aload_n 0) 1 1 := ⟨by decide +kernel, rfl⟩
theorem d_X8_groundIn_1 : zDc M_X8_groundIn 1 (.getfield 343) 3 4 := ⟨by decide +kernel, rfl⟩
theorem d_X8_groundIn_4 : zDc M_X8_groundIn 4 (.iconst 5) 1 5 := ⟨by decide +kernel, rfl⟩
theorem d_X8_groundIn_5 : zDj M_X8_groundIn 5 (.if_icmp .ne 5) 5 8 10 := ⟨by decide +kernel, rfl, by decide⟩
theorem d_X8_groundIn_8 : zDc M_X8_groundIn 8 (.iconst 1) 1 9 := ⟨by decide +kernel, rfl⟩
theorem d_X8_groundIn_9 : zDc M_X8_groundIn 9 (.ireturn) 1 10 := ⟨by decide +kernel, rfl⟩
theorem d_X8_groundIn_10 : zDc M_X8_groundIn 10 (.aload_n 0) 1 11 := ⟨by decide +kernel, rfl⟩
theorem d_X8_groundIn_11 : zDc M_X8_groundIn 11 (.getfield 343) 3 14 := ⟨by decide +kernel, rfl⟩
theorem d_X8_groundIn_14 : zDc M_X8_groundIn 14 (.iconst 3) 1 15 := ⟨by decide +kernel, rfl⟩
theorem d_X8_groundIn_15 : zDj M_X8_groundIn 15 (.if_icmp .ne 17) 17 18 32 := ⟨by decide +kernel, rfl, by decide⟩
theorem d_X8_groundIn_18 : zDc M_X8_groundIn 18 (.aload_n 0) 1 19 := ⟨by decide +kernel, rfl⟩
theorem d_X8_groundIn_19 : zDc M_X8_groundIn 19 (.getfield 16) 3 22 := ⟨by decide +kernel, rfl⟩
theorem d_X8_groundIn_22 : zDc M_X8_groundIn 22 (.iload_n 1) 1 23 := ⟨by decide +kernel, rfl⟩
theorem d_X8_groundIn_23 : zDc M_X8_groundIn 23 (.iaload) 1 24 := ⟨by decide +kernel, rfl⟩
theorem d_X8_groundIn_24 : zDc M_X8_groundIn 24 (.iconst 2) 1 25 := ⟨by decide +kernel, rfl⟩
theorem d_X8_groundIn_25 : zDj M_X8_groundIn 25 (.if_icmp .ne 7) 7 28 32 := ⟨by decide +kernel, rfl, by decide⟩
theorem d_X8_groundIn_28 : zDc M_X8_groundIn 28 (.iconst 0) 1 29 := ⟨by decide +kernel, rfl⟩
theorem d_X8_groundIn_29 : zDj M_X8_groundIn 29 (.goto 9) 9 32 38 := ⟨by decide +kernel, rfl, by decide⟩
theorem d_X8_groundIn_32 : zDc M_X8_groundIn 32 (.aload_n 0) 1 33 := ⟨by decide +kernel, rfl⟩
theorem d_X8_groundIn_33 : zDc M_X8_groundIn 33 (.getfield 16) 3 36 := ⟨by decide +kernel, rfl⟩
theorem d_X8_groundIn_36 : zDc M_X8_groundIn 36 (.iload_n 1) 1 37 := ⟨by decide +kernel, rfl⟩
theorem d_X8_groundIn_37 : zDc M_X8_groundIn 37 (.iaload) 1 38 := ⟨by decide +kernel, rfl⟩
theorem d_X8_groundIn_38 : zDc M_X8_groundIn 38 (.ireturn) 1 39 := ⟨by decide +kernel, rfl⟩
def f_X8_groundIn (a0 : Nat) (a1 : Int32) (h0 : zHp) : Option (Int32 × zHp) :=
  zob (zgI h0 a0 8 49) (fun v1 =>
  if v1 = 5 then
  some (1, h0)
  else
  zob (zgI h0 a0 8 49) (fun v2 =>
  if v2 = 3 then
  zob (zgR h0 a0 8 4) (fun v3 =>
  zob (zaI 0 h0 v3 a1) (fun v4 =>
  if v4 = 2 then
  some (0, h0)
  else
  zob (zgR h0 a0 8 4) (fun v5 =>
  zob (zaI 0 h0 v5 a1) (fun v6 =>
  some (v6, h0)))))
  else
  zob (zgR h0 a0 8 4) (fun v7 =>
  zob (zaI 0 h0 v7 a1) (fun v8 =>
  some (v8, h0)))))
set_option maxRecDepth 100000 in
set_option maxHeartbeats 4000000 in
theorem t_X8_groundIn (a0 : Nat) (a1 : Int32) (h0 : zHp) : ∀ (r : Int32) (h' : zHp), f_X8_groundIn a0 a1 h0 = some (r, h') → zCt yX8_groundIn (.code yX8_groundIn cX8_groundIn 2 (some .int)) 1 60 0 0 [.ref a0, .int a1] h0 (some (.int r)) h' := by
  refine zct_of M_X8_groundIn yX8_groundIn (by decide) rfl rfl [.ref a0, .int a1] h0 (Nat.le_of_ble_eq_true rfl) (fun r => some (.int r)) (fun X => ?_)
  show zG X M_X8_groundIn (0, 0) 0 [(0, .ref a0), (1, .int a1)] [] h0 (f_X8_groundIn a0 a1 h0) (fun (r : Int32) h' => zKe X (some (.int r)) h')
  unfold f_X8_groundIn
  refine zg_aload_n 0 rfl d_X8_groundIn_0 ?_
  refine zg_getI d_X8_groundIn_1 zc_8 (by decide) fl_X8_343 (fun v1 => ?_)
  refine zg_iconst 5 rfl d_X8_groundIn_4 ?_
  refine zg_icmp_ne d_X8_groundIn_5 ?_ ?_
  · refine zg_iconst 1 rfl d_X8_groundIn_8 ?_
    exact zg_iretK d_X8_groundIn_9 rfl ⟨Nat.le_of_ble_eq_true rfl, Nat.le_of_ble_eq_true rfl⟩ (fun q => q)
  · refine zg_aload_n 0 rfl d_X8_groundIn_10 ?_
    refine zg_getI d_X8_groundIn_11 zc_8 (by decide) fl_X8_343 (fun v2 => ?_)
    refine zg_iconst 3 rfl d_X8_groundIn_14 ?_
    refine zg_icmp_ne d_X8_groundIn_15 ?_ ?_
    · refine zg_aload_n 0 rfl d_X8_groundIn_18 ?_
      refine zg_getR d_X8_groundIn_19 zc_8 (by decide) fl_X8_16 (fun v3 => ?_)
      refine zg_iload_n 1 rfl d_X8_groundIn_22 ?_
      refine zg_ald0 d_X8_groundIn_23 (fun v4 => ?_)
      refine zg_iconst 2 rfl d_X8_groundIn_24 ?_
      refine zg_icmp_ne d_X8_groundIn_25 ?_ ?_
      · refine zg_iconst 0 rfl d_X8_groundIn_28 ?_
        refine zg_goto d_X8_groundIn_29 ?_
        exact zg_iretK d_X8_groundIn_38 rfl ⟨Nat.le_of_ble_eq_true rfl, Nat.le_of_ble_eq_true rfl⟩ (fun q => q)
      · refine zg_aload_n 0 rfl d_X8_groundIn_32 ?_
        refine zg_getR d_X8_groundIn_33 zc_8 (by decide) fl_X8_16 (fun v5 => ?_)
        refine zg_iload_n 1 rfl d_X8_groundIn_36 ?_
        refine zg_ald0 d_X8_groundIn_37 (fun v6 => ?_)
        exact zg_iretK d_X8_groundIn_38 rfl ⟨Nat.le_of_ble_eq_true rfl, Nat.le_of_ble_eq_true rfl⟩ (fun q => q)
    · refine zg_aload_n 0 rfl d_X8_groundIn_32 ?_
      refine zg_getR d_X8_groundIn_33 zc_8 (by decide) fl_X8_16 (fun v7 => ?_)
      refine zg_iload_n 1 rfl d_X8_groundIn_36 ?_
      refine zg_ald0 d_X8_groundIn_37 (fun v8 => ?_)
      exact zg_iretK d_X8_groundIn_38 rfl ⟨Nat.le_of_ble_eq_true rfl, Nat.le_of_ble_eq_true rfl⟩ (fun q => q)
abbrev M_X8_isUp : zMt := (RX8, cX8_isUp, 3, 1, 60, (some .boolean), "isUp", 0, 0)
theorem d_X8_isUp_0 : zDc M_X8_isUp 0 (.aload_n 0) 1 1 := ⟨by decide +kernel, rfl⟩
theorem d_X8_isUp_1 : zDc M_X8_isUp 1 (.getfield 93) 3 4 := ⟨by decide +kernel, rfl⟩
theorem d_X8_isUp_4 : zDc M_X8_isUp 4 (.bipush 8) 2 6 := ⟨by decide +kernel, rfl⟩
theorem d_X8_isUp_6 : zDc M_X8_isUp 6 (.iload_n 1) 1 7 := ⟨by decide +kernel, rfl⟩
theorem d_X8_isUp_7 : zDc M_X8_isUp 7 (.imul) 1 8 := ⟨by decide +kernel, rfl⟩
theorem d_X8_isUp_8 : zDc M_X8_isUp 8 (.iload_n 2) 1 9 := ⟨by decide +kernel, rfl⟩
theorem d_X8_isUp_9 : zDc M_X8_isUp 9 (.iadd) 1 10 := ⟨by decide +kernel, rfl⟩
theorem d_X8_isUp_10 : zDc M_X8_isUp 10 (.iaload) 1 11 := ⟨by decide +kernel, rfl⟩
theorem d_X8_isUp_11 : zDc M_X8_isUp 11 (.iconst 1) 1 12 := ⟨by decide +kernel, rfl⟩
theorem d_X8_isUp_12 : zDj M_X8_isUp 12 (.if_icmp .ne 23) 23 15 35 := ⟨by decide +kernel, rfl, by decide⟩
theorem d_X8_isUp_15 : zDc M_X8_isUp 15 (.aload_n 0) 1 16 := ⟨by decide +kernel, rfl⟩
theorem d_X8_isUp_16 : zDc M_X8_isUp 16 (.getfield 343) 3 19 := ⟨by decide +kernel, rfl⟩
theorem d_X8_isUp_19 : zDc M_X8_isUp 19 (.iconst 2) 1 20 := ⟨by decide +kernel, rfl⟩
theorem d_X8_isUp_20 : zDj M_X8_isUp 20 (.if_icmp .ne 11) 11 23 31 := ⟨by decide +kernel, rfl, by decide⟩
theorem d_X8_isUp_23 : zDc M_X8_isUp 23 (.iload_n 2) 1 24 := ⟨by decide +kernel, rfl⟩
theorem d_X8_isUp_24 : zDc M_X8_isUp 24 (.aload_n 0) 1 25 := ⟨by decide +kernel, rfl⟩
theorem d_X8_isUp_25 : zDc M_X8_isUp 25 (.getfield 108) 3 28 := ⟨by decide +kernel, rfl⟩
theorem d_X8_isUp_28 : zDj M_X8_isUp 28 (.if_icmp .eq 7) 7 31 35 := ⟨by decide +kernel, rfl, by decide⟩
theorem d_X8_isUp_31 : zDc M_X8_isUp 31 (.iconst 1) 1 32 := ⟨by decide +kernel, rfl⟩
theorem d_X8_isUp_32 : zDj M_X8_isUp 32 (.goto 4) 4 35 36 := ⟨by decide +kernel, rfl, by decide⟩
theorem d_X8_isUp_35 : zDc M_X8_isUp 35 (.iconst 0) 1 36 := ⟨by decide +kernel, rfl⟩
theorem d_X8_isUp_36 : zDc M_X8_isUp 36 (.ireturn) 1 37 := ⟨by decide +kernel, rfl⟩
def f_X8_isUp (a0 : Nat) (a1 : Int32) (a2 : Int32) (h0 : zHp) : Option (Int32 × zHp) :=
  zob (zgR h0 a0 8 42) (fun v1 =>
  zob (zaI 0 h0 v1 ((8 * a1) + a2)) (fun v2 =>
  if v2 = 1 then
  zob (zgI h0 a0 8 49) (fun v3 =>
  if v3 = 2 then
  zob (zgI h0 a0 8 50) (fun v4 =>
  if a2 = v4 then
  some (0, h0)
  else
  some (1, h0))
  else
  some (1, h0))
  else
  some (0, h0)))
set_option maxRecDepth 100000 in
set_option maxHeartbeats 4000000 in
theorem t_X8_isUp (a0 : Nat) (a1 : Int32) (a2 : Int32) (h0 : zHp) : ∀ (r : Int32) (h' : zHp), f_X8_isUp a0 a1 a2 h0 = some (r, h') → zCt yX8_isUp (.code yX8_isUp cX8_isUp 3 (some .boolean)) 1 60 0 0 [.ref a0, .int a1, .int a2] h0 (some (.int r)) h' := by
  refine zct_of M_X8_isUp yX8_isUp (by decide) rfl rfl [.ref a0, .int a1, .int a2] h0 (Nat.le_of_ble_eq_true rfl) (fun r => some (.int r)) (fun X => ?_)
  show zG X M_X8_isUp (0, 0) 0 [(0, .ref a0), (1, .int a1), (2, .int a2)] [] h0 (f_X8_isUp a0 a1 a2 h0) (fun (r : Int32) h' => zKe X (some (.int r)) h')
  unfold f_X8_isUp
  refine zg_aload_n 0 rfl d_X8_isUp_0 ?_
  refine zg_getR d_X8_isUp_1 zc_8 (by decide) fl_X8_93 (fun v1 => ?_)
  refine zg_bipush 8 rfl d_X8_isUp_4 ?_
  refine zg_iload_n 1 rfl d_X8_isUp_6 ?_
  refine zg_imul d_X8_isUp_7 ?_
  refine zg_iload_n 2 rfl d_X8_isUp_8 ?_
  refine zg_iadd d_X8_isUp_9 ?_
  refine zg_ald0 d_X8_isUp_10 (fun v2 => ?_)
  refine zg_iconst 1 rfl d_X8_isUp_11 ?_
  refine zg_icmp_ne d_X8_isUp_12 ?_ ?_
  · refine zg_aload_n 0 rfl d_X8_isUp_15 ?_
    refine zg_getI d_X8_isUp_16 zc_8 (by decide) fl_X8_343 (fun v3 => ?_)
    refine zg_iconst 2 rfl d_X8_isUp_19 ?_
    refine zg_icmp_ne d_X8_isUp_20 ?_ ?_
    · refine zg_iload_n 2 rfl d_X8_isUp_23 ?_
      refine zg_aload_n 0 rfl d_X8_isUp_24 ?_
      refine zg_getI d_X8_isUp_25 zc_8 (by decide) fl_X8_108 (fun v4 => ?_)
      refine zg_icmp_eq d_X8_isUp_28 ?_ ?_
      · refine zg_iconst 0 rfl d_X8_isUp_35 ?_
        exact zg_zretK d_X8_isUp_36 rfl ⟨Nat.le_of_ble_eq_true rfl, Nat.le_of_ble_eq_true rfl⟩ (Or.inl rfl) (fun q => q)
      · refine zg_iconst 1 rfl d_X8_isUp_31 ?_
        refine zg_goto d_X8_isUp_32 ?_
        exact zg_zretK d_X8_isUp_36 rfl ⟨Nat.le_of_ble_eq_true rfl, Nat.le_of_ble_eq_true rfl⟩ (Or.inr rfl) (fun q => q)
    · refine zg_iconst 1 rfl d_X8_isUp_31 ?_
      refine zg_goto d_X8_isUp_32 ?_
      exact zg_zretK d_X8_isUp_36 rfl ⟨Nat.le_of_ble_eq_true rfl, Nat.le_of_ble_eq_true rfl⟩ (Or.inr rfl) (fun q => q)
  · refine zg_iconst 0 rfl d_X8_isUp_35 ?_
    exact zg_zretK d_X8_isUp_36 rfl ⟨Nat.le_of_ble_eq_true rfl, Nat.le_of_ble_eq_true rfl⟩ (Or.inl rfl) (fun q => q)
abbrev M_X8_upMany : zMt := (RX8, cX8_upMany, 4, 2, 82, (some .int), "upMany", 0, 0)
theorem d_X8_upMany_0 : zDc M_X8_upMany 0 (.iconst 0) 1 1 := ⟨by decide +kernel, rfl⟩
theorem d_X8_upMany_1 : zDc M_X8_upMany 1 (.istore_n 2) 1 2 := ⟨by decide +kernel, rfl⟩
theorem d_X8_upMany_2 : zDc M_X8_upMany 2 (.iconst 0) 1 3 := ⟨by decide +kernel, rfl⟩
theorem d_X8_upMany_3 : zDc M_X8_upMany 3 (.istore_n 3) 1 4 := ⟨by decide +kernel, rfl⟩
theorem d_X8_upMany_4 : zDc M_X8_upMany 4 (.iload_n 3) 1 5 := ⟨by decide +kernel, rfl⟩
theorem d_X8_upMany_5 : zDc M_X8_upMany 5 (.aload_n 0) 1 6 := ⟨by decide +kernel, rfl⟩
theorem d_X8_upMany_6 : zDc M_X8_upMany 6 (.getfield 13) 3 9 := ⟨by decide +kernel, rfl⟩
theorem d_X8_upMany_9 : zDc M_X8_upMany 9 (.iconst 1) 1 10 := ⟨by decide +kernel, rfl⟩
theorem d_X8_upMany_10 : zDc M_X8_upMany 10 (.iaload) 1 11 := ⟨by decide +kernel, rfl⟩
theorem d_X8_upMany_11 : zDj M_X8_upMany 11 (.if_icmp .ge 26) 26 14 37 := ⟨by decide +kernel, rfl, by decide⟩
theorem d_X8_upMany_14 : zDc M_X8_upMany 14 (.iload_n 2) 1 15 := ⟨by decide +kernel, rfl⟩
theorem d_X8_upMany_15 : zDc M_X8_upMany 15 (.aload_n 0) 1 16 := ⟨by decide +kernel, rfl⟩
theorem d_X8_upMany_16 : zDc M_X8_upMany 16 (.iload_n 1) 1 17 := ⟨by decide +kernel, rfl⟩
theorem d_X8_upMany_17 : zDc M_X8_upMany 17 (.iload_n 3) 1 18 := ⟨by decide +kernel, rfl⟩
theorem d_X8_upMany_18 : zDc M_X8_upMany 18 (.invokevirtual 351) 3 21 := ⟨by decide +kernel, rfl⟩
theorem d_X8_upMany_21 : zDj M_X8_upMany 21 (.ifCond .eq 7) 7 24 28 := ⟨by decide +kernel, rfl, by decide⟩
theorem d_X8_upMany_24 : zDc M_X8_upMany 24 (.iconst 1) 1 25 := ⟨by decide +kernel, rfl⟩
theorem d_X8_upMany_25 : zDj M_X8_upMany 25 (.goto 4) 4 28 29 := ⟨by decide +kernel, rfl, by decide⟩
theorem d_X8_upMany_28 : zDc M_X8_upMany 28 (.iconst 0) 1 29 := ⟨by decide +kernel, rfl⟩
theorem d_X8_upMany_29 : zDc M_X8_upMany 29 (.iadd) 1 30 := ⟨by decide +kernel, rfl⟩
theorem d_X8_upMany_30 : zDc M_X8_upMany 30 (.istore_n 2) 1 31 := ⟨by decide +kernel, rfl⟩
theorem d_X8_upMany_31 : zDc M_X8_upMany 31 (.iinc 3 1) 3 34 := ⟨by decide +kernel, rfl⟩
theorem d_X8_upMany_34 : zDj M_X8_upMany 34 (.goto (-30)) (-30) 37 4 := ⟨by decide +kernel, rfl, by decide⟩
theorem d_X8_upMany_37 : zDc M_X8_upMany 37 (.iload_n 2) 1 38 := ⟨by decide +kernel, rfl⟩
theorem d_X8_upMany_38 : zDc M_X8_upMany 38 (.ireturn) 1 39 := ⟨by decide +kernel, rfl⟩
def f_X8_upMany (a0 : Nat) (a1 : Int32) (h0 : zHp) : Option (Int32 × zHp) :=
  zbd (
  zlp (σ := (Int32 × Int32)) (β := (Int32 × Int32)) zLF (fun s1 h2 =>
  zob (zgR h2 a0 8 3) (fun v5 =>
  zob (zaI 0 h2 v5 1) (fun v6 =>
  if v6 ≤ s1.2 then
  some ((.inr (s1.1, s1.2)), h2)
  else
  zbd (zcv 8 a0 h2 (f_X8_isUp a0 a1 s1.2 h2)) (fun v8 h7 =>
  if v8 = 0 then
  some ((.inl ((s1.1 + 0), (s1.2 + 1))), h7)
  else
  some ((.inl ((s1.1 + 1), (s1.2 + 1))), h7))))) (0, 0) h0) (fun e3 h4 =>
  some (e3.1, h4))
set_option maxRecDepth 100000 in
set_option maxHeartbeats 4000000 in
theorem t_X8_upMany (a0 : Nat) (a1 : Int32) (h0 : zHp) : ∀ (r : Int32) (h' : zHp), f_X8_upMany a0 a1 h0 = some (r, h') → zCt yX8_upMany (.code yX8_upMany cX8_upMany 4 (some .int)) 2 82 0 0 [.ref a0, .int a1] h0 (some (.int r)) h' := by
  refine zct_of M_X8_upMany yX8_upMany (by decide) rfl rfl [.ref a0, .int a1] h0 (Nat.le_of_ble_eq_true rfl) (fun r => some (.int r)) (fun X => ?_)
  show zG X M_X8_upMany (0, 0) 0 [(0, .ref a0), (1, .int a1)] [] h0 (f_X8_upMany a0 a1 h0) (fun (r : Int32) h' => zKe X (some (.int r)) h')
  unfold f_X8_upMany
  refine zg_iconst 0 rfl d_X8_upMany_0 ?_
  refine zg_istore_n [(2, .int 0), (0, .ref a0), (1, .int a1)] d_X8_upMany_1 rfl (by decide) rfl ?_
  refine zg_iconst 0 rfl d_X8_upMany_2 ?_
  refine zg_istore_n [(3, .int 0), (2, .int 0), (0, .ref a0), (1, .int a1)] d_X8_upMany_3 rfl (by decide) rfl ?_
  refine zg_bd (E := 37) (el := (fun (e3 : (Int32 × Int32)) => [(0, .ref a0), (1, .int a1), (2, .int e3.1), (3, .int e3.2)])) (es := fun _ => []) (zg_sub [2, 3, 1, 0] rfl (zg_lp (el := (fun (s1 : (Int32 × Int32)) => [(0, .ref a0), (1, .int a1), (2, .int s1.1), (3, .int s1.2)])) (fun s1 h2 => ?_) (0, 0) h0)) (fun e3 h4 => ?_)
  · refine zg_iload_n 3 rfl d_X8_upMany_4 ?_
    refine zg_aload_n 0 rfl d_X8_upMany_5 ?_
    refine zg_getR d_X8_upMany_6 zc_8 (by decide) fl_X8_13 (fun v5 => ?_)
    refine zg_iconst 1 rfl d_X8_upMany_9 ?_
    refine zg_ald0 d_X8_upMany_10 (fun v6 => ?_)
    refine zg_icmp_ge d_X8_upMany_11 ?_ ?_
    · exact zg_finK (E := 0) [0, 1, 2, 3] rfl rfl (fun q => q)
    · refine zg_iload_n 2 rfl d_X8_upMany_14 ?_
      refine zg_aload_n 0 rfl d_X8_upMany_15 ?_
      refine zg_iload_n 1 rfl d_X8_upMany_16 ?_
      refine zg_iload_n 3 rfl d_X8_upMany_17 ?_
      refine zg_cVi (b := a0) (As := [.int a1, .int s1.2]) (rest := [.int s1.1]) (0, 0) d_X8_upMany_18 zc_8 rfl cw_X8_351 wi_X8_isUp ws_X8_isUp rfl rfl (Nat.le_of_ble_eq_true rfl) (by decide) (by decide) ⟨by decide, by decide⟩ rfl (t_X8_isUp a0 a1 s1.2 h2) (fun v8 h7 => ?_)
      refine zg_if_eq d_X8_upMany_21 ?_ ?_
      · refine zg_iconst 0 rfl d_X8_upMany_28 ?_
        refine zg_iadd d_X8_upMany_29 ?_
        refine zg_istore_n [(2, .int (s1.1 + 0)), (0, .ref a0), (1, .int a1), (3, .int s1.2)] d_X8_upMany_30 rfl (by decide) rfl ?_
        refine zg_iinc 3 (s1.2 + 1) [(3, .int (s1.2 + 1)), (2, .int (s1.1 + 0)), (0, .ref a0), (1, .int a1)] d_X8_upMany_31 rfl rfl (by decide) rfl ?_
        refine zg_goto d_X8_upMany_34 ?_
        exact zg_finK (E := 0) [2, 3, 1, 0] rfl rfl (fun q => q)
      · refine zg_iconst 1 rfl d_X8_upMany_24 ?_
        refine zg_goto d_X8_upMany_25 ?_
        refine zg_iadd d_X8_upMany_29 ?_
        refine zg_istore_n [(2, .int (s1.1 + 1)), (0, .ref a0), (1, .int a1), (3, .int s1.2)] d_X8_upMany_30 rfl (by decide) rfl ?_
        refine zg_iinc 3 (s1.2 + 1) [(3, .int (s1.2 + 1)), (2, .int (s1.1 + 1)), (0, .ref a0), (1, .int a1)] d_X8_upMany_31 rfl rfl (by decide) rfl ?_
        refine zg_goto d_X8_upMany_34 ?_
        exact zg_finK (E := 0) [2, 3, 1, 0] rfl rfl (fun q => q)
  · refine zg_iload_n 2 rfl d_X8_upMany_37 ?_
    exact zg_iretK d_X8_upMany_38 rfl ⟨Nat.le_of_ble_eq_true rfl, Nat.le_of_ble_eq_true rfl⟩ (fun q => q)
abbrev M_X8_calls : zMt := (RX8, cX8_calls, 5, 3, 105, none, "calls", 0, 0)
theorem d_X8_calls_0 : zDc M_X8_calls 0 (.bipush 8) 2 2 := ⟨by decide +kernel, rfl⟩
theorem d_X8_calls_2 : zDc M_X8_calls 2 (.iload_n 1) 1 3 := ⟨by decide +kernel, rfl⟩
theorem d_X8_calls_3 : zDc M_X8_calls 3 (.imul) 1 4 := ⟨by decide +kernel, rfl⟩
theorem d_X8_calls_4 : zDc M_X8_calls 4 (.iload_n 2) 1 5 := ⟨by decide +kernel, rfl⟩
theorem d_X8_calls_5 : zDc M_X8_calls 5 (.iadd) 1 6 := ⟨by decide +kernel, rfl⟩
theorem d_X8_calls_6 : zDc M_X8_calls 6 (.istore_n 3) 1 7 := ⟨by decide +kernel, rfl⟩
theorem d_X8_calls_7 : zDc M_X8_calls 7 (.aload_n 0) 1 8 := ⟨by decide +kernel, rfl⟩
theorem d_X8_calls_8 : zDc M_X8_calls 8 (.getfield 90) 3 11 := ⟨by decide +kernel, rfl⟩
theorem d_X8_calls_11 : zDc M_X8_calls 11 (.iload_n 3) 1 12 := ⟨by decide +kernel, rfl⟩
theorem d_X8_calls_12 : zDc M_X8_calls 12 (.iaload) 1 13 := ⟨by decide +kernel, rfl⟩
theorem d_X8_calls_13 : zDc M_X8_calls 13 (.istore 4) 2 15 := ⟨by decide +kernel, rfl⟩
theorem d_X8_calls_15 : zDc M_X8_calls 15 (.aload_n 0) 1 16 := ⟨by decide +kernel, rfl⟩
theorem d_X8_calls_16 : zDc M_X8_calls 16 (.getfield 68) 3 19 := ⟨by decide +kernel, rfl⟩
theorem d_X8_calls_19 : zDc M_X8_calls 19 (.iconst 0) 1 20 := ⟨by decide +kernel, rfl⟩
theorem d_X8_calls_20 : zDc M_X8_calls 20 (.aload_n 0) 1 21 := ⟨by decide +kernel, rfl⟩
theorem d_X8_calls_21 : zDc M_X8_calls 21 (.getfield 84) 3 24 := ⟨by decide +kernel, rfl⟩
theorem d_X8_calls_24 : zDc M_X8_calls 24 (.iload_n 3) 1 25 := ⟨by decide +kernel, rfl⟩
theorem d_X8_calls_25 : zDc M_X8_calls 25 (.iaload) 1 26 := ⟨by decide +kernel, rfl⟩
theorem d_X8_calls_26 : zDc M_X8_calls 26 (.i2l) 1 27 := ⟨by decide +kernel, rfl⟩
theorem d_X8_calls_27 : zDc M_X8_calls 27 (.lastore) 1 28 := ⟨by decide +kernel, rfl⟩
theorem d_X8_calls_28 : zDc M_X8_calls 28 (.aload_n 0) 1 29 := ⟨by decide +kernel, rfl⟩
theorem d_X8_calls_29 : zDc M_X8_calls 29 (.getfield 68) 3 32 := ⟨by decide +kernel, rfl⟩
theorem d_X8_calls_32 : zDc M_X8_calls 32 (.iconst 1) 1 33 := ⟨by decide +kernel, rfl⟩
theorem d_X8_calls_33 : zDc M_X8_calls 33 (.aload_n 0) 1 34 := ⟨by decide +kernel, rfl⟩
theorem d_X8_calls_34 : zDc M_X8_calls 34 (.aload_n 0) 1 35 := ⟨by decide +kernel, rfl⟩
theorem d_X8_calls_35 : zDc M_X8_calls 35 (.getfield 81) 3 38 := ⟨by decide +kernel, rfl⟩
theorem d_X8_calls_38 : zDc M_X8_calls 38 (.iload_n 3) 1 39 := ⟨by decide +kernel, rfl⟩
theorem d_X8_calls_39 : zDc M_X8_calls 39 (.iaload) 1 40 := ⟨by decide +kernel, rfl⟩
theorem d_X8_calls_40 : zDc M_X8_calls 40 (.invokevirtual 355) 3 43 := ⟨by decide +kernel, rfl⟩
theorem d_X8_calls_43 : zDc M_X8_calls 43 (.i2l) 1 44 := ⟨by decide +kernel, rfl⟩
theorem d_X8_calls_44 : zDc M_X8_calls 44 (.lastore) 1 45 := ⟨by decide +kernel, rfl⟩
theorem d_X8_calls_45 : zDc M_X8_calls 45 (.aload_n 0) 1 46 := ⟨by decide +kernel, rfl⟩
theorem d_X8_calls_46 : zDc M_X8_calls 46 (.getfield 68) 3 49 := ⟨by decide +kernel, rfl⟩
theorem d_X8_calls_49 : zDc M_X8_calls 49 (.iconst 2) 1 50 := ⟨by decide +kernel, rfl⟩
theorem d_X8_calls_50 : zDc M_X8_calls 50 (.aload_n 0) 1 51 := ⟨by decide +kernel, rfl⟩
theorem d_X8_calls_51 : zDc M_X8_calls 51 (.getfield 87) 3 54 := ⟨by decide +kernel, rfl⟩
theorem d_X8_calls_54 : zDc M_X8_calls 54 (.iload_n 3) 1 55 := ⟨by decide +kernel, rfl⟩
theorem d_X8_calls_55 : zDc M_X8_calls 55 (.iaload) 1 56 := ⟨by decide +kernel, rfl⟩
theorem d_X8_calls_56 : zDc M_X8_calls 56 (.i2l) 1 57 := ⟨by decide +kernel, rfl⟩
theorem d_X8_calls_57 : zDc M_X8_calls 57 (.lastore) 1 58 := ⟨by decide +kernel, rfl⟩
theorem d_X8_calls_58 : zDc M_X8_calls 58 (.aload_n 0) 1 59 := ⟨by decide +kernel, rfl⟩
theorem d_X8_calls_59 : zDc M_X8_calls 59 (.getfield 68) 3 62 := ⟨by decide +kernel, rfl⟩
theorem d_X8_calls_62 : zDc M_X8_calls 62 (.iconst 3) 1 63 := ⟨by decide +kernel, rfl⟩
theorem d_X8_calls_63 : zDc M_X8_calls 63 (.iload 4) 2 65 := ⟨by decide +kernel, rfl⟩
theorem d_X8_calls_65 : zDc M_X8_calls 65 (.iconst (-1)) 1 66 := ⟨by decide +kernel, rfl⟩
theorem d_X8_calls_66 : zDj M_X8_calls 66 (.if_icmp .ne 9) 9 69 75 := ⟨by decide +kernel, rfl, by decide⟩
theorem d_X8_calls_69 : zDc M_X8_calls 69 (.ldc2_w 358) 3 72 := ⟨by decide +kernel, rfl⟩
theorem d_X8_calls_72 : zDj M_X8_calls 72 (.goto 25) 25 75 97 := ⟨by decide +kernel, rfl, by decide⟩
theorem d_X8_calls_75 : zDc M_X8_calls 75 (.aload_n 0) 1 76 := ⟨by decide +kernel, rfl⟩
theorem d_X8_calls_76 : zDc M_X8_calls 76 (.getfield 81) 3 79 := ⟨by decide +kernel, rfl⟩
theorem d_X8_calls_79 : zDc M_X8_calls 79 (.iload_n 3) 1 80 := ⟨by decide +kernel, rfl⟩
theorem d_X8_calls_80 : zDc M_X8_calls 80 (.iaload) 1 81 := ⟨by decide +kernel, rfl⟩
theorem d_X8_calls_81 : zDc M_X8_calls 81 (.aload_n 0) 1 82 := ⟨by decide +kernel, rfl⟩
theorem d_X8_calls_82 : zDc M_X8_calls 82 (.getfield 96) 3 85 := ⟨by decide +kernel, rfl⟩
theorem d_X8_calls_85 : zDc M_X8_calls 85 (.bipush 6) 2 87 := ⟨by decide +kernel, rfl⟩
theorem d_X8_calls_87 : zDc M_X8_calls 87 (.iload_n 1) 1 88 := ⟨by decide +kernel, rfl⟩
theorem d_X8_calls_88 : zDc M_X8_calls 88 (.imul) 1 89 := ⟨by decide +kernel, rfl⟩
theorem d_X8_calls_89 : zDc M_X8_calls 89 (.iload 4) 2 91 := ⟨by decide +kernel, rfl⟩
theorem d_X8_calls_91 : zDc M_X8_calls 91 (.iadd) 1 92 := ⟨by decide +kernel, rfl⟩
theorem d_X8_calls_92 : zDc M_X8_calls 92 (.iaload) 1 93 := ⟨by decide +kernel, rfl⟩
theorem d_X8_calls_93 : zDc M_X8_calls 93 (.invokestatic 360) 3 96 := ⟨by decide +kernel, rfl⟩
theorem d_X8_calls_96 : zDc M_X8_calls 96 (.i2l) 1 97 := ⟨by decide +kernel, rfl⟩
theorem d_X8_calls_97 : zDc M_X8_calls 97 (.lastore) 1 98 := ⟨by decide +kernel, rfl⟩
theorem d_X8_calls_98 : zDc M_X8_calls 98 (.aload_n 0) 1 99 := ⟨by decide +kernel, rfl⟩
theorem d_X8_calls_99 : zDc M_X8_calls 99 (.getfield 68) 3 102 := ⟨by decide +kernel, rfl⟩
theorem d_X8_calls_102 : zDc M_X8_calls 102 (.iconst 4) 1 103 := ⟨by decide +kernel, rfl⟩
theorem d_X8_calls_103 : zDc M_X8_calls 103 (.aload_n 0) 1 104 := ⟨by decide +kernel, rfl⟩
theorem d_X8_calls_104 : zDc M_X8_calls 104 (.iload_n 1) 1 105 := ⟨by decide +kernel, rfl⟩
theorem d_X8_calls_105 : zDc M_X8_calls 105 (.invokevirtual 363) 3 108 := ⟨by decide +kernel, rfl⟩
theorem d_X8_calls_108 : zDc M_X8_calls 108 (.i2l) 1 109 := ⟨by decide +kernel, rfl⟩
theorem d_X8_calls_109 : zDc M_X8_calls 109 (.lastore) 1 110 := ⟨by decide +kernel, rfl⟩
theorem d_X8_calls_110 : zDc M_X8_calls 110 (.aload_n 0) 1 111 := ⟨by decide +kernel, rfl⟩
theorem d_X8_calls_111 : zDc M_X8_calls 111 (.getfield 68) 3 114 := ⟨by decide +kernel, rfl⟩
theorem d_X8_calls_114 : zDc M_X8_calls 114 (.iconst 5) 1 115 := ⟨by decide +kernel, rfl⟩
theorem d_X8_calls_115 : zDc M_X8_calls 115 (.iload 4) 2 117 := ⟨by decide +kernel, rfl⟩
theorem d_X8_calls_117 : zDc M_X8_calls 117 (.iconst (-1)) 1 118 := ⟨by decide +kernel, rfl⟩
theorem d_X8_calls_118 : zDj M_X8_calls 118 (.if_icmp .ne 7) 7 121 125 := ⟨by decide +kernel, rfl, by decide⟩
theorem d_X8_calls_121 : zDc M_X8_calls 121 (.lconst 0) 1 122 := ⟨by decide +kernel, rfl⟩
theorem d_X8_calls_122 : zDj M_X8_calls 122 (.goto 16) 16 125 138 := ⟨by decide +kernel, rfl, by decide⟩
theorem d_X8_calls_125 : zDc M_X8_calls 125 (.aload_n 0) 1 126 := ⟨by decide +kernel, rfl⟩
theorem d_X8_calls_126 : zDc M_X8_calls 126 (.getfield 99) 3 129 := ⟨by decide +kernel, rfl⟩
theorem d_X8_calls_129 : zDc M_X8_calls 129 (.bipush 6) 2 131 := ⟨by decide +kernel, rfl⟩
theorem d_X8_calls_131 : zDc M_X8_calls 131 (.iload_n 1) 1 132 := ⟨by decide +kernel, rfl⟩
theorem d_X8_calls_132 : zDc M_X8_calls 132 (.imul) 1 133 := ⟨by decide +kernel, rfl⟩
theorem d_X8_calls_133 : zDc M_X8_calls 133 (.iload 4) 2 135 := ⟨by decide +kernel, rfl⟩
theorem d_X8_calls_135 : zDc M_X8_calls 135 (.iadd) 1 136 := ⟨by decide +kernel, rfl⟩
theorem d_X8_calls_136 : zDc M_X8_calls 136 (.iaload) 1 137 := ⟨by decide +kernel, rfl⟩
theorem d_X8_calls_137 : zDc M_X8_calls 137 (.i2l) 1 138 := ⟨by decide +kernel, rfl⟩
theorem d_X8_calls_138 : zDc M_X8_calls 138 (.lastore) 1 139 := ⟨by decide +kernel, rfl⟩
theorem d_X8_calls_139 : zDc M_X8_calls 139 (.aload_n 0) 1 140 := ⟨by decide +kernel, rfl⟩
theorem d_X8_calls_140 : zDc M_X8_calls 140 (.getfield 68) 3 143 := ⟨by decide +kernel, rfl⟩
theorem d_X8_calls_143 : zDc M_X8_calls 143 (.bipush 6) 2 145 := ⟨by decide +kernel, rfl⟩
theorem d_X8_calls_145 : zDc M_X8_calls 145 (.aload_n 0) 1 146 := ⟨by decide +kernel, rfl⟩
theorem d_X8_calls_146 : zDc M_X8_calls 146 (.getfield 75) 3 149 := ⟨by decide +kernel, rfl⟩
theorem d_X8_calls_149 : zDc M_X8_calls 149 (.iload_n 1) 1 150 := ⟨by decide +kernel, rfl⟩
theorem d_X8_calls_150 : zDc M_X8_calls 150 (.iaload) 1 151 := ⟨by decide +kernel, rfl⟩
theorem d_X8_calls_151 : zDc M_X8_calls 151 (.i2l) 1 152 := ⟨by decide +kernel, rfl⟩
theorem d_X8_calls_152 : zDc M_X8_calls 152 (.lastore) 1 153 := ⟨by decide +kernel, rfl⟩
theorem d_X8_calls_153 : zDc M_X8_calls 153 (.return_) 1 154 := ⟨by decide +kernel, rfl⟩
def f_X8_calls (a0 : Nat) (a1 : Int32) (a2 : Int32) (h0 : zHp) : Option (Unit × zHp) :=
  zob (zgR h0 a0 8 41) (fun v1 =>
  zob (zaI 0 h0 v1 ((8 * a1) + a2)) (fun v2 =>
  zob (zgR h0 a0 8 33) (fun v3 =>
  zob (zgR h0 a0 8 39) (fun v4 =>
  zob (zaI 0 h0 v4 ((8 * a1) + a2)) (fun v5 =>
  zob (zsL h0 v3 0 (Int32.toInt64 v5)) (fun h6 =>
  zob (zgR h6 a0 8 33) (fun v7 =>
  zob (zgR h6 a0 8 38) (fun v8 =>
  zob (zaI 0 h6 v8 ((8 * a1) + a2)) (fun v9 =>
  zbd (zcv 8 a0 h6 (f_X8_groundIn a0 v9 h6)) (fun v11 h10 =>
  zob (zsL h10 v7 1 (Int32.toInt64 v11)) (fun h12 =>
  zob (zgR h12 a0 8 33) (fun v13 =>
  zob (zgR h12 a0 8 40) (fun v14 =>
  zob (zaI 0 h12 v14 ((8 * a1) + a2)) (fun v15 =>
  zob (zsL h12 v13 2 (Int32.toInt64 v15)) (fun h16 =>
  zob (zgR h16 a0 8 33) (fun v17 =>
  zbd (α := Int64) (
  if v2 = (-1) then
  some (99, h16)
  else
  zob (zgR h16 a0 8 38) (fun v18 =>
  zob (zaI 0 h16 v18 ((8 * a1) + a2)) (fun v19 =>
  zob (zgR h16 a0 8 43) (fun v20 =>
  zob (zaI 0 h16 v20 ((6 * a1) + v2)) (fun v21 =>
  zbd ((f_X8_farOf v19 v21 h16)) (fun v23 h22 =>
  some ((Int32.toInt64 v23), h22))))))) (fun e24 h25 =>
  zob (zsL h25 v17 3 e24) (fun h26 =>
  zob (zgR h26 a0 8 33) (fun v27 =>
  zbd (zcv 8 a0 h26 (f_X8_upMany a0 a1 h26)) (fun v29 h28 =>
  zob (zsL h28 v27 4 (Int32.toInt64 v29)) (fun h30 =>
  zob (zgR h30 a0 8 33) (fun v31 =>
  zbd (α := Int64) (
  if v2 = (-1) then
  some (0, h30)
  else
  zob (zgR h30 a0 8 44) (fun v32 =>
  zob (zaI 0 h30 v32 ((6 * a1) + v2)) (fun v33 =>
  some ((Int32.toInt64 v33), h30)))) (fun e34 h35 =>
  zob (zsL h35 v31 5 e34) (fun h36 =>
  zob (zgR h36 a0 8 33) (fun v37 =>
  zob (zgR h36 a0 8 36) (fun v38 =>
  zob (zaI 0 h36 v38 a1) (fun v39 =>
  zob (zsL h36 v37 6 (Int32.toInt64 v39)) (fun h40 =>
  some ((), h40)))))))))))))))))))))))))))))
set_option maxRecDepth 100000 in
set_option maxHeartbeats 4000000 in
theorem t_X8_calls (a0 : Nat) (a1 : Int32) (a2 : Int32) (h0 : zHp) : ∀ (r : Unit) (h' : zHp), f_X8_calls a0 a1 a2 h0 = some (r, h') → zCt yX8_calls (.code yX8_calls cX8_calls 5 none) 3 105 0 0 [.ref a0, .int a1, .int a2] h0 (none) h' := by
  refine zct_of M_X8_calls yX8_calls (by decide) rfl rfl [.ref a0, .int a1, .int a2] h0 (Nat.le_of_ble_eq_true rfl) (fun _ => none) (fun X => ?_)
  show zG X M_X8_calls (0, 0) 0 [(0, .ref a0), (1, .int a1), (2, .int a2)] [] h0 (f_X8_calls a0 a1 a2 h0) (fun (_ : Unit) h' => zKe X (none) h')
  unfold f_X8_calls
  refine zg_bipush 8 rfl d_X8_calls_0 ?_
  refine zg_iload_n 1 rfl d_X8_calls_2 ?_
  refine zg_imul d_X8_calls_3 ?_
  refine zg_iload_n 2 rfl d_X8_calls_4 ?_
  refine zg_iadd d_X8_calls_5 ?_
  refine zg_istore_n [(3, .int ((8 * a1) + a2)), (0, .ref a0), (1, .int a1), (2, .int a2)] d_X8_calls_6 rfl (by decide) rfl ?_
  refine zg_aload_n 1 rfl d_X8_calls_7 ?_
  refine zg_getR d_X8_calls_8 zc_8 (by decide) fl_X8_90 (fun v1 => ?_)
  refine zg_iload_n 0 rfl d_X8_calls_11 ?_
  refine zg_ald0 d_X8_calls_12 (fun v2 => ?_)
  refine zg_istore [(4, .int v2), (3, .int ((8 * a1) + a2)), (0, .ref a0), (1, .int a1), (2, .int a2)] d_X8_calls_13 (by decide) rfl ?_
  refine zg_aload_n 2 rfl d_X8_calls_15 ?_
  refine zg_getR d_X8_calls_16 zc_8 (by decide) fl_X8_68 (fun v3 => ?_)
  refine zg_iconst 0 rfl d_X8_calls_19 ?_
  refine zg_aload_n 2 rfl d_X8_calls_20 ?_
  refine zg_getR d_X8_calls_21 zc_8 (by decide) fl_X8_84 (fun v4 => ?_)
  refine zg_iload_n 1 rfl d_X8_calls_24 ?_
  refine zg_ald0 d_X8_calls_25 (fun v5 => ?_)
  refine zg_i2l d_X8_calls_26 ?_
  refine zg_ast3 d_X8_calls_27 (fun h6 => ?_)
  refine zg_aload_n 2 rfl d_X8_calls_28 ?_
  refine zg_getR d_X8_calls_29 zc_8 (by decide) fl_X8_68 (fun v7 => ?_)
  refine zg_iconst 1 rfl d_X8_calls_32 ?_
  refine zg_aload_n 2 rfl d_X8_calls_33 ?_
  refine zg_aload_n 2 rfl d_X8_calls_34 ?_
  refine zg_getR d_X8_calls_35 zc_8 (by decide) fl_X8_81 (fun v8 => ?_)
  refine zg_iload_n 1 rfl d_X8_calls_38 ?_
  refine zg_ald0 d_X8_calls_39 (fun v9 => ?_)
  refine zg_cVi (b := a0) (As := [.int v9]) (rest := [.int 1, .ref v7]) (0, 0) d_X8_calls_40 zc_8 rfl cw_X8_355 wi_X8_groundIn ws_X8_groundIn rfl rfl (Nat.le_of_ble_eq_true rfl) (by decide) (by decide) ⟨by decide, by decide⟩ rfl (t_X8_groundIn a0 v9 h6) (fun v11 h10 => ?_)
  refine zg_i2l d_X8_calls_43 ?_
  refine zg_ast3 d_X8_calls_44 (fun h12 => ?_)
  refine zg_aload_n 2 rfl d_X8_calls_45 ?_
  refine zg_getR d_X8_calls_46 zc_8 (by decide) fl_X8_68 (fun v13 => ?_)
  refine zg_iconst 2 rfl d_X8_calls_49 ?_
  refine zg_aload_n 2 rfl d_X8_calls_50 ?_
  refine zg_getR d_X8_calls_51 zc_8 (by decide) fl_X8_87 (fun v14 => ?_)
  refine zg_iload_n 1 rfl d_X8_calls_54 ?_
  refine zg_ald0 d_X8_calls_55 (fun v15 => ?_)
  refine zg_i2l d_X8_calls_56 ?_
  refine zg_ast3 d_X8_calls_57 (fun h16 => ?_)
  refine zg_aload_n 2 rfl d_X8_calls_58 ?_
  refine zg_getR d_X8_calls_59 zc_8 (by decide) fl_X8_68 (fun v17 => ?_)
  refine zg_iconst 3 rfl d_X8_calls_62 ?_
  refine zg_iload 0 rfl d_X8_calls_63 ?_
  refine zg_iconst (-1) rfl d_X8_calls_65 ?_
  refine zg_bd (E := 97) (el := (fun (e24 : Int64) => [(0, .ref a0), (1, .int a1), (2, .int a2), (3, .int ((8 * a1) + a2)), (4, .int v2)])) (es := (fun (e24 : Int64) => [.long e24, .int 3, .ref v17])) ?_ (fun e24 h25 => ?_)
  · refine zg_icmp_ne d_X8_calls_66 ?_ ?_
    · refine zg_ldc2 kl_X8_358 d_X8_calls_69 ?_
      refine zg_goto d_X8_calls_72 ?_
      exact zg_finK (E := 0) [2, 3, 4, 1, 0] rfl rfl (fun q => q)
    · refine zg_aload_n 2 rfl d_X8_calls_75 ?_
      refine zg_getR d_X8_calls_76 zc_8 (by decide) fl_X8_81 (fun v18 => ?_)
      refine zg_iload_n 1 rfl d_X8_calls_79 ?_
      refine zg_ald0 d_X8_calls_80 (fun v19 => ?_)
      refine zg_aload_n 2 rfl d_X8_calls_81 ?_
      refine zg_getR d_X8_calls_82 zc_8 (by decide) fl_X8_96 (fun v20 => ?_)
      refine zg_bipush 6 rfl d_X8_calls_85 ?_
      refine zg_iload_n 3 rfl d_X8_calls_87 ?_
      refine zg_imul d_X8_calls_88 ?_
      refine zg_iload 0 rfl d_X8_calls_89 ?_
      refine zg_iadd d_X8_calls_91 ?_
      refine zg_ald0 d_X8_calls_92 (fun v21 => ?_)
      refine zg_cSi (As := [.int v19, .int v21]) (rest := [.int 3, .ref v17]) (0, 0) d_X8_calls_93 cw_X8_360 wt_X8_farOf rfl rfl (Nat.le_of_ble_eq_true rfl) (by decide) (by decide) ⟨by decide, by decide⟩ rfl (t_X8_farOf v19 v21 h16) (fun v23 h22 => ?_)
      refine zg_i2l d_X8_calls_96 ?_
      exact zg_finK (E := 0) [2, 3, 4, 1, 0] rfl rfl (fun q => q)
  · refine zg_ast3 d_X8_calls_97 (fun h26 => ?_)
    refine zg_aload_n 0 rfl d_X8_calls_98 ?_
    refine zg_getR d_X8_calls_99 zc_8 (by decide) fl_X8_68 (fun v27 => ?_)
    refine zg_iconst 4 rfl d_X8_calls_102 ?_
    refine zg_aload_n 0 rfl d_X8_calls_103 ?_
    refine zg_iload_n 1 rfl d_X8_calls_104 ?_
    refine zg_cVi (b := a0) (As := [.int a1]) (rest := [.int 4, .ref v27]) (0, 0) d_X8_calls_105 zc_8 rfl cw_X8_363 wi_X8_upMany ws_X8_upMany rfl rfl (Nat.le_of_ble_eq_true rfl) (by decide) (by decide) ⟨by decide, by decide⟩ rfl (t_X8_upMany a0 a1 h26) (fun v29 h28 => ?_)
    refine zg_i2l d_X8_calls_108 ?_
    refine zg_ast3 d_X8_calls_109 (fun h30 => ?_)
    refine zg_aload_n 0 rfl d_X8_calls_110 ?_
    refine zg_getR d_X8_calls_111 zc_8 (by decide) fl_X8_68 (fun v31 => ?_)
    refine zg_iconst 5 rfl d_X8_calls_114 ?_
    refine zg_iload 4 rfl d_X8_calls_115 ?_
    refine zg_iconst (-1) rfl d_X8_calls_117 ?_
    refine zg_bd (E := 138) (el := (fun (e34 : Int64) => [(0, .ref a0), (1, .int a1), (2, .int a2), (3, .int ((8 * a1) + a2)), (4, .int v2)])) (es := (fun (e34 : Int64) => [.long e34, .int 5, .ref v31])) ?_ (fun e34 h35 => ?_)
    · refine zg_icmp_ne d_X8_calls_118 ?_ ?_
      · refine zg_lconst 0 rfl d_X8_calls_121 ?_
        refine zg_goto d_X8_calls_122 ?_
        exact zg_finK (E := 0) [0, 1, 2, 3, 4] rfl rfl (fun q => q)
      · refine zg_aload_n 0 rfl d_X8_calls_125 ?_
        refine zg_getR d_X8_calls_126 zc_8 (by decide) fl_X8_99 (fun v32 => ?_)
        refine zg_bipush 6 rfl d_X8_calls_129 ?_
        refine zg_iload_n 1 rfl d_X8_calls_131 ?_
        refine zg_imul d_X8_calls_132 ?_
        refine zg_iload 4 rfl d_X8_calls_133 ?_
        refine zg_iadd d_X8_calls_135 ?_
        refine zg_ald0 d_X8_calls_136 (fun v33 => ?_)
        refine zg_i2l d_X8_calls_137 ?_
        exact zg_finK (E := 0) [0, 1, 2, 3, 4] rfl rfl (fun q => q)
    · refine zg_ast3 d_X8_calls_138 (fun h36 => ?_)
      refine zg_aload_n 0 rfl d_X8_calls_139 ?_
      refine zg_getR d_X8_calls_140 zc_8 (by decide) fl_X8_68 (fun v37 => ?_)
      refine zg_bipush 6 rfl d_X8_calls_143 ?_
      refine zg_aload_n 0 rfl d_X8_calls_145 ?_
      refine zg_getR d_X8_calls_146 zc_8 (by decide) fl_X8_75 (fun v38 => ?_)
      refine zg_iload_n 1 rfl d_X8_calls_149 ?_
      refine zg_ald0 d_X8_calls_150 (fun v39 => ?_)
      refine zg_i2l d_X8_calls_151 ?_
      refine zg_ast3 d_X8_calls_152 (fun h40 => ?_)
      exact zg_vretK d_X8_calls_153 rfl ⟨Nat.le_of_ble_eq_true rfl, Nat.le_of_ble_eq_true rfl⟩ (fun q => q)
abbrev M_X8_isCell : zMt := (RX8, cX8_isCell, 2, 1, 60, (some .boolean), "isCell", 0, 0)
theorem d_X8_isCell_0 : zDc M_X8_isCell 0 (.iload_n 0) 1 1 := ⟨by decide +kernel, rfl⟩
theorem d_X8_isCell_1 : zDj M_X8_isCell 1 (.ifCond .lt 22) 22 4 23 := ⟨by decide +kernel, rfl, by decide⟩
theorem d_X8_isCell_4 : zDc M_X8_isCell 4 (.iload_n 0) 1 5 := ⟨by decide +kernel, rfl⟩
theorem d_X8_isCell_5 : zDc M_X8_isCell 5 (.bipush 6) 2 7 := ⟨by decide +kernel, rfl⟩
theorem d_X8_isCell_7 : zDj M_X8_isCell 7 (.if_icmp .ge 16) 16 10 23 := ⟨by decide +kernel, rfl, by decide⟩
theorem d_X8_isCell_10 : zDc M_X8_isCell 10 (.iload_n 1) 1 11 := ⟨by decide +kernel, rfl⟩
theorem d_X8_isCell_11 : zDj M_X8_isCell 11 (.ifCond .lt 12) 12 14 23 := ⟨by decide +kernel, rfl, by decide⟩
theorem d_X8_isCell_14 : zDc M_X8_isCell 14 (.iload_n 1) 1 15 := ⟨by decide +kernel, rfl⟩
theorem d_X8_isCell_15 : zDc M_X8_isCell 15 (.iconst 4) 1 16 := ⟨by decide +kernel, rfl⟩
theorem d_X8_isCell_16 : zDj M_X8_isCell 16 (.if_icmp .ge 7) 7 19 23 := ⟨by decide +kernel, rfl, by decide⟩
theorem d_X8_isCell_19 : zDc M_X8_isCell 19 (.iconst 1) 1 20 := ⟨by decide +kernel, rfl⟩
theorem d_X8_isCell_20 : zDj M_X8_isCell 20 (.goto 4) 4 23 24 := ⟨by decide +kernel, rfl, by decide⟩
theorem d_X8_isCell_23 : zDc M_X8_isCell 23 (.iconst 0) 1 24 := ⟨by decide +kernel, rfl⟩
theorem d_X8_isCell_24 : zDc M_X8_isCell 24 (.ireturn) 1 25 := ⟨by decide +kernel, rfl⟩
def f_X8_isCell (a0 : Int32) (a1 : Int32) (h0 : zHp) : Option (Int32 × zHp) :=
  if a0 < 0 then
  some (0, h0)
  else
  if 6 ≤ a0 then
  some (0, h0)
  else
  if a1 < 0 then
  some (0, h0)
  else
  if 4 ≤ a1 then
  some (0, h0)
  else
  some (1, h0)
set_option maxRecDepth 100000 in
set_option maxHeartbeats 4000000 in
theorem t_X8_isCell (a0 : Int32) (a1 : Int32) (h0 : zHp) : ∀ (r : Int32) (h' : zHp), f_X8_isCell a0 a1 h0 = some (r, h') → zCt yX8_isCell (.code yX8_isCell cX8_isCell 2 (some .boolean)) 1 60 0 0 [.int a0, .int a1] h0 (some (.int r)) h' := by
  refine zct_of M_X8_isCell yX8_isCell (by decide) rfl rfl [.int a0, .int a1] h0 (Nat.le_of_ble_eq_true rfl) (fun r => some (.int r)) (fun X => ?_)
  show zG X M_X8_isCell (0, 0) 0 [(0, .int a0), (1, .int a1)] [] h0 (f_X8_isCell a0 a1 h0) (fun (r : Int32) h' => zKe X (some (.int r)) h')
  unfold f_X8_isCell
  refine zg_iload_n 0 rfl d_X8_isCell_0 ?_
  refine zg_if_lt d_X8_isCell_1 ?_ ?_
  · refine zg_iconst 0 rfl d_X8_isCell_23 ?_
    exact zg_zretK d_X8_isCell_24 rfl ⟨Nat.le_of_ble_eq_true rfl, Nat.le_of_ble_eq_true rfl⟩ (Or.inl rfl) (fun q => q)
  · refine zg_iload_n 0 rfl d_X8_isCell_4 ?_
    refine zg_bipush 6 rfl d_X8_isCell_5 ?_
    refine zg_icmp_ge d_X8_isCell_7 ?_ ?_
    · refine zg_iconst 0 rfl d_X8_isCell_23 ?_
      exact zg_zretK d_X8_isCell_24 rfl ⟨Nat.le_of_ble_eq_true rfl, Nat.le_of_ble_eq_true rfl⟩ (Or.inl rfl) (fun q => q)
    · refine zg_iload_n 1 rfl d_X8_isCell_10 ?_
      refine zg_if_lt d_X8_isCell_11 ?_ ?_
      · refine zg_iconst 0 rfl d_X8_isCell_23 ?_
        exact zg_zretK d_X8_isCell_24 rfl ⟨Nat.le_of_ble_eq_true rfl, Nat.le_of_ble_eq_true rfl⟩ (Or.inl rfl) (fun q => q)
      · refine zg_iload_n 1 rfl d_X8_isCell_14 ?_
        refine zg_iconst 4 rfl d_X8_isCell_15 ?_
        refine zg_icmp_ge d_X8_isCell_16 ?_ ?_
        · refine zg_iconst 0 rfl d_X8_isCell_23 ?_
          exact zg_zretK d_X8_isCell_24 rfl ⟨Nat.le_of_ble_eq_true rfl, Nat.le_of_ble_eq_true rfl⟩ (Or.inl rfl) (fun q => q)
        · refine zg_iconst 1 rfl d_X8_isCell_19 ?_
          refine zg_goto d_X8_isCell_20 ?_
          exact zg_zretK d_X8_isCell_24 rfl ⟨Nat.le_of_ble_eq_true rfl, Nat.le_of_ble_eq_true rfl⟩ (Or.inr rfl) (fun q => q)
abbrev M_X8_drifts : zMt := (RX8, cX8_drifts, 7, 2, 81, none, "drifts", 0, 0)
theorem d_X8_drifts_0 : zDc M_X8_drifts 0 (.bipush 8) 2 2 := ⟨by decide +kernel, rfl⟩
theorem d_X8_drifts_2 : zDc M_X8_drifts 2 (.iload_n 1) 1 3 := ⟨by decide +kernel, rfl⟩
theorem d_X8_drifts_3 : zDc M_X8_drifts 3 (.imul) 1 4 := ⟨by decide +kernel, rfl⟩
theorem d_X8_drifts_4 : zDc M_X8_drifts 4 (.iload_n 2) 1 5 := ⟨by decide +kernel, rfl⟩
theorem d_X8_drifts_5 : zDc M_X8_drifts 5 (.iadd) 1 6 := ⟨by decide +kernel, rfl⟩
theorem d_X8_drifts_6 : zDc M_X8_drifts 6 (.istore 4) 2 8 := ⟨by decide +kernel, rfl⟩
theorem d_X8_drifts_8 : zDc M_X8_drifts 8 (.aload_n 0) 1 9 := ⟨by decide +kernel, rfl⟩
theorem d_X8_drifts_9 : zDc M_X8_drifts 9 (.getfield 81) 3 12 := ⟨by decide +kernel, rfl⟩
theorem d_X8_drifts_12 : zDc M_X8_drifts 12 (.iload 4) 2 14 := ⟨by decide +kernel, rfl⟩
theorem d_X8_drifts_14 : zDc M_X8_drifts 14 (.iaload) 1 15 := ⟨by decide +kernel, rfl⟩
theorem d_X8_drifts_15 : zDc M_X8_drifts 15 (.bipush 6) 2 17 := ⟨by decide +kernel, rfl⟩
theorem d_X8_drifts_17 : zDc M_X8_drifts 17 (.irem) 1 18 := ⟨by decide +kernel, rfl⟩
theorem d_X8_drifts_18 : zDc M_X8_drifts 18 (.iload_n 3) 1 19 := ⟨by decide +kernel, rfl⟩
theorem d_X8_drifts_19 : zDc M_X8_drifts 19 (.iconst 1) 1 20 := ⟨by decide +kernel, rfl⟩
theorem d_X8_drifts_20 : zDj M_X8_drifts 20 (.if_icmp .ne 7) 7 23 27 := ⟨by decide +kernel, rfl, by decide⟩
theorem d_X8_drifts_23 : zDc M_X8_drifts 23 (.iconst 1) 1 24 := ⟨by decide +kernel, rfl⟩
theorem d_X8_drifts_24 : zDj M_X8_drifts 24 (.goto 13) 13 27 37 := ⟨by decide +kernel, rfl, by decide⟩
theorem d_X8_drifts_27 : zDc M_X8_drifts 27 (.iload_n 3) 1 28 := ⟨by decide +kernel, rfl⟩
theorem d_X8_drifts_28 : zDc M_X8_drifts 28 (.iconst 3) 1 29 := ⟨by decide +kernel, rfl⟩
theorem d_X8_drifts_29 : zDj M_X8_drifts 29 (.if_icmp .ne 7) 7 32 36 := ⟨by decide +kernel, rfl, by decide⟩
theorem d_X8_drifts_32 : zDc M_X8_drifts 32 (.iconst (-1)) 1 33 := ⟨by decide +kernel, rfl⟩
theorem d_X8_drifts_33 : zDj M_X8_drifts 33 (.goto 4) 4 36 37 := ⟨by decide +kernel, rfl, by decide⟩
theorem d_X8_drifts_36 : zDc M_X8_drifts 36 (.iconst 0) 1 37 := ⟨by decide +kernel, rfl⟩
theorem d_X8_drifts_37 : zDc M_X8_drifts 37 (.iadd) 1 38 := ⟨by decide +kernel, rfl⟩
theorem d_X8_drifts_38 : zDc M_X8_drifts 38 (.istore 5) 2 40 := ⟨by decide +kernel, rfl⟩
theorem d_X8_drifts_40 : zDc M_X8_drifts 40 (.aload_n 0) 1 41 := ⟨by decide +kernel, rfl⟩
theorem d_X8_drifts_41 : zDc M_X8_drifts 41 (.getfield 81) 3 44 := ⟨by decide +kernel, rfl⟩
theorem d_X8_drifts_44 : zDc M_X8_drifts 44 (.iload 4) 2 46 := ⟨by decide +kernel, rfl⟩
theorem d_X8_drifts_46 : zDc M_X8_drifts 46 (.iaload) 1 47 := ⟨by decide +kernel, rfl⟩
theorem d_X8_drifts_47 : zDc M_X8_drifts 47 (.bipush 6) 2 49 := ⟨by decide +kernel, rfl⟩
theorem d_X8_drifts_49 : zDc M_X8_drifts 49 (.idiv) 1 50 := ⟨by decide +kernel, rfl⟩
theorem d_X8_drifts_50 : zDc M_X8_drifts 50 (.iload_n 3) 1 51 := ⟨by decide +kernel, rfl⟩
theorem d_X8_drifts_51 : zDc M_X8_drifts 51 (.iconst 2) 1 52 := ⟨by decide +kernel, rfl⟩
theorem d_X8_drifts_52 : zDj M_X8_drifts 52 (.if_icmp .ne 7) 7 55 59 := ⟨by decide +kernel, rfl, by decide⟩
theorem d_X8_drifts_55 : zDc M_X8_drifts 55 (.iconst 1) 1 56 := ⟨by decide +kernel, rfl⟩
theorem d_X8_drifts_56 : zDj M_X8_drifts 56 (.goto 13) 13 59 69 := ⟨by decide +kernel, rfl, by decide⟩
theorem d_X8_drifts_59 : zDc M_X8_drifts 59 (.iload_n 3) 1 60 := ⟨by decide +kernel, rfl⟩
theorem d_X8_drifts_60 : zDc M_X8_drifts 60 (.iconst 4) 1 61 := ⟨by decide +kernel, rfl⟩
theorem d_X8_drifts_61 : zDj M_X8_drifts 61 (.if_icmp .ne 7) 7 64 68 := ⟨by decide +kernel, rfl, by decide⟩
theorem d_X8_drifts_64 : zDc M_X8_drifts 64 (.iconst (-1)) 1 65 := ⟨by decide +kernel, rfl⟩
theorem d_X8_drifts_65 : zDj M_X8_drifts 65 (.goto 4) 4 68 69 := ⟨by decide +kernel, rfl, by decide⟩
theorem d_X8_drifts_68 : zDc M_X8_drifts 68 (.iconst 0) 1 69 := ⟨by decide +kernel, rfl⟩
theorem d_X8_drifts_69 : zDc M_X8_drifts 69 (.iadd) 1 70 := ⟨by decide +kernel, rfl⟩
theorem d_X8_drifts_70 : zDc M_X8_drifts 70 (.istore 6) 2 72 := ⟨by decide +kernel, rfl⟩
theorem d_X8_drifts_72 : zDc M_X8_drifts 72 (.iload 5) 2 74 := ⟨by decide +kernel, rfl⟩
theorem d_X8_drifts_74 : zDc M_X8_drifts 74 (.iload 6) 2 76 := ⟨by decide +kernel, rfl⟩
theorem d_X8_drifts_76 : zDc M_X8_drifts 76 (.invokestatic 378) 3 79 := ⟨by decide +kernel, rfl⟩
theorem d_X8_drifts_79 : zDj M_X8_drifts 79 (.ifCond .eq 21) 21 82 100 := ⟨by decide +kernel, rfl, by decide⟩
theorem d_X8_drifts_82 : zDc M_X8_drifts 82 (.aload_n 0) 1 83 := ⟨by decide +kernel, rfl⟩
theorem d_X8_drifts_83 : zDc M_X8_drifts 83 (.getfield 81) 3 86 := ⟨by decide +kernel, rfl⟩
theorem d_X8_drifts_86 : zDc M_X8_drifts 86 (.iload 4) 2 88 := ⟨by decide +kernel, rfl⟩
theorem d_X8_drifts_88 : zDc M_X8_drifts 88 (.bipush 6) 2 90 := ⟨by decide +kernel, rfl⟩
theorem d_X8_drifts_90 : zDc M_X8_drifts 90 (.iload 6) 2 92 := ⟨by decide +kernel, rfl⟩
theorem d_X8_drifts_92 : zDc M_X8_drifts 92 (.imul) 1 93 := ⟨by decide +kernel, rfl⟩
theorem d_X8_drifts_93 : zDc M_X8_drifts 93 (.iload 5) 2 95 := ⟨by decide +kernel, rfl⟩
theorem d_X8_drifts_95 : zDc M_X8_drifts 95 (.iadd) 1 96 := ⟨by decide +kernel, rfl⟩
theorem d_X8_drifts_96 : zDc M_X8_drifts 96 (.iastore) 1 97 := ⟨by decide +kernel, rfl⟩
theorem d_X8_drifts_97 : zDj M_X8_drifts 97 (.goto 11) 11 100 108 := ⟨by decide +kernel, rfl, by decide⟩
theorem d_X8_drifts_100 : zDc M_X8_drifts 100 (.aload_n 0) 1 101 := ⟨by decide +kernel, rfl⟩
theorem d_X8_drifts_101 : zDc M_X8_drifts 101 (.getfield 93) 3 104 := ⟨by decide +kernel, rfl⟩
theorem d_X8_drifts_104 : zDc M_X8_drifts 104 (.iload 4) 2 106 := ⟨by decide +kernel, rfl⟩
theorem d_X8_drifts_106 : zDc M_X8_drifts 106 (.iconst 2) 1 107 := ⟨by decide +kernel, rfl⟩
theorem d_X8_drifts_107 : zDc M_X8_drifts 107 (.iastore) 1 108 := ⟨by decide +kernel, rfl⟩
theorem d_X8_drifts_108 : zDc M_X8_drifts 108 (.return_) 1 109 := ⟨by decide +kernel, rfl⟩
def f_X8_drifts (a0 : Nat) (a1 : Int32) (a2 : Int32) (a3 : Int32) (h0 : zHp) : Option (Unit × zHp) :=
  zob (zgR h0 a0 8 38) (fun v1 =>
  zob (zaI 0 h0 v1 ((8 * a1) + a2)) (fun v2 =>
  zbd (α := Int32) (
  if a3 = 1 then
  some (1, h0)
  else
  if a3 = 3 then
  some ((-1), h0)
  else
  some (0, h0)) (fun e3 h4 =>
  zob (zgR h4 a0 8 38) (fun v5 =>
  zob (zaI 0 h4 v5 ((8 * a1) + a2)) (fun v6 =>
  zbd (α := Int32) (
  if a3 = 2 then
  some (1, h4)
  else
  if a3 = 4 then
  some ((-1), h4)
  else
  some (0, h4)) (fun e7 h8 =>
  zbd ((f_X8_isCell ((zrm v2 6) + e3) ((v6 / 6) + e7) h8)) (fun v10 h9 =>
  if v10 = 0 then
  zob (zgR h9 a0 8 42) (fun v11 =>
  zob (zsI 0 h9 v11 ((8 * a1) + a2) 2) (fun h12 =>
  some ((), h12)))
  else
  zob (zgR h9 a0 8 38) (fun v13 =>
  zob (zsI 0 h9 v13 ((8 * a1) + a2) ((6 * ((v6 / 6) + e7)) + ((zrm v2 6) + e3))) (fun h14 =>
  some ((), h14))))))))))
set_option maxRecDepth 100000 in
set_option maxHeartbeats 4000000 in
theorem t_X8_drifts (a0 : Nat) (a1 : Int32) (a2 : Int32) (a3 : Int32) (h0 : zHp) : ∀ (r : Unit) (h' : zHp), f_X8_drifts a0 a1 a2 a3 h0 = some (r, h') → zCt yX8_drifts (.code yX8_drifts cX8_drifts 7 none) 2 81 0 0 [.ref a0, .int a1, .int a2, .int a3] h0 (none) h' := by
  refine zct_of M_X8_drifts yX8_drifts (by decide) rfl rfl [.ref a0, .int a1, .int a2, .int a3] h0 (Nat.le_of_ble_eq_true rfl) (fun _ => none) (fun X => ?_)
  show zG X M_X8_drifts (0, 0) 0 [(0, .ref a0), (1, .int a1), (2, .int a2), (3, .int a3)] [] h0 (f_X8_drifts a0 a1 a2 a3 h0) (fun (_ : Unit) h' => zKe X (none) h')
  unfold f_X8_drifts
  refine zg_bipush 8 rfl d_X8_drifts_0 ?_
  refine zg_iload_n 1 rfl d_X8_drifts_2 ?_
  refine zg_imul d_X8_drifts_3 ?_
  refine zg_iload_n 2 rfl d_X8_drifts_4 ?_
  refine zg_iadd d_X8_drifts_5 ?_
  refine zg_istore [(4, .int ((8 * a1) + a2)), (0, .ref a0), (1, .int a1), (2, .int a2), (3, .int a3)] d_X8_drifts_6 (by decide) rfl ?_
  refine zg_aload_n 1 rfl d_X8_drifts_8 ?_
  refine zg_getR d_X8_drifts_9 zc_8 (by decide) fl_X8_81 (fun v1 => ?_)
  refine zg_iload 0 rfl d_X8_drifts_12 ?_
  refine zg_ald0 d_X8_drifts_14 (fun v2 => ?_)
  refine zg_bipush 6 rfl d_X8_drifts_15 ?_
  refine zg_irem (by decide) d_X8_drifts_17 ?_
  refine zg_iload_n 4 rfl d_X8_drifts_18 ?_
  refine zg_iconst 1 rfl d_X8_drifts_19 ?_
  refine zg_bd (E := 37) (el := (fun (e3 : Int32) => [(0, .ref a0), (1, .int a1), (2, .int a2), (3, .int a3), (4, .int ((8 * a1) + a2))])) (es := (fun (e3 : Int32) => [.int e3, .int (zrm v2 6)])) ?_ (fun e3 h4 => ?_)
  · refine zg_icmp_ne d_X8_drifts_20 ?_ ?_
    · refine zg_iconst 1 rfl d_X8_drifts_23 ?_
      refine zg_goto d_X8_drifts_24 ?_
      exact zg_finK (E := 0) [1, 2, 3, 4, 0] rfl rfl (fun q => q)
    · refine zg_iload_n 4 rfl d_X8_drifts_27 ?_
      refine zg_iconst 3 rfl d_X8_drifts_28 ?_
      refine zg_icmp_ne d_X8_drifts_29 ?_ ?_
      · refine zg_iconst (-1) rfl d_X8_drifts_32 ?_
        refine zg_goto d_X8_drifts_33 ?_
        exact zg_finK (E := 0) [1, 2, 3, 4, 0] rfl rfl (fun q => q)
      · refine zg_iconst 0 rfl d_X8_drifts_36 ?_
        exact zg_finK (E := 0) [1, 2, 3, 4, 0] rfl rfl (fun q => q)
  · refine zg_iadd d_X8_drifts_37 ?_
    refine zg_istore [(5, .int ((zrm v2 6) + e3)), (0, .ref a0), (1, .int a1), (2, .int a2), (3, .int a3), (4, .int ((8 * a1) + a2))] d_X8_drifts_38 (by decide) rfl ?_
    refine zg_aload_n 1 rfl d_X8_drifts_40 ?_
    refine zg_getR d_X8_drifts_41 zc_8 (by decide) fl_X8_81 (fun v5 => ?_)
    refine zg_iload 5 rfl d_X8_drifts_44 ?_
    refine zg_ald0 d_X8_drifts_46 (fun v6 => ?_)
    refine zg_bipush 6 rfl d_X8_drifts_47 ?_
    refine zg_idiv (by decide) d_X8_drifts_49 ?_
    refine zg_iload_n 4 rfl d_X8_drifts_50 ?_
    refine zg_iconst 2 rfl d_X8_drifts_51 ?_
    refine zg_bd (E := 69) (el := (fun (e7 : Int32) => [(0, .ref a0), (1, .int a1), (2, .int a2), (3, .int a3), (4, .int ((8 * a1) + a2)), (5, .int ((zrm v2 6) + e3))])) (es := (fun (e7 : Int32) => [.int e7, .int (v6 / 6)])) ?_ (fun e7 h8 => ?_)
    · refine zg_icmp_ne d_X8_drifts_52 ?_ ?_
      · refine zg_iconst 1 rfl d_X8_drifts_55 ?_
        refine zg_goto d_X8_drifts_56 ?_
        exact zg_finK (E := 0) [1, 2, 3, 4, 5, 0] rfl rfl (fun q => q)
      · refine zg_iload_n 4 rfl d_X8_drifts_59 ?_
        refine zg_iconst 4 rfl d_X8_drifts_60 ?_
        refine zg_icmp_ne d_X8_drifts_61 ?_ ?_
        · refine zg_iconst (-1) rfl d_X8_drifts_64 ?_
          refine zg_goto d_X8_drifts_65 ?_
          exact zg_finK (E := 0) [1, 2, 3, 4, 5, 0] rfl rfl (fun q => q)
        · refine zg_iconst 0 rfl d_X8_drifts_68 ?_
          exact zg_finK (E := 0) [1, 2, 3, 4, 5, 0] rfl rfl (fun q => q)
    · refine zg_iadd d_X8_drifts_69 ?_
      refine zg_istore [(6, .int ((v6 / 6) + e7)), (0, .ref a0), (1, .int a1), (2, .int a2), (3, .int a3), (4, .int ((8 * a1) + a2)), (5, .int ((zrm v2 6) + e3))] d_X8_drifts_70 (by decide) rfl ?_
      refine zg_iload 6 rfl d_X8_drifts_72 ?_
      refine zg_iload 0 rfl d_X8_drifts_74 ?_
      refine zg_cSi (As := [.int ((zrm v2 6) + e3), .int ((v6 / 6) + e7)]) (rest := []) (0, 0) d_X8_drifts_76 cw_X8_378 wt_X8_isCell rfl rfl (Nat.le_of_ble_eq_true rfl) (by decide) (by decide) ⟨by decide, by decide⟩ rfl (t_X8_isCell ((zrm v2 6) + e3) ((v6 / 6) + e7) h8) (fun v10 h9 => ?_)
      refine zg_if_eq d_X8_drifts_79 ?_ ?_
      · refine zg_aload_n 1 rfl d_X8_drifts_100 ?_
        refine zg_getR d_X8_drifts_101 zc_8 (by decide) fl_X8_93 (fun v11 => ?_)
        refine zg_iload 5 rfl d_X8_drifts_104 ?_
        refine zg_iconst 2 rfl d_X8_drifts_106 ?_
        refine zg_ast0 d_X8_drifts_107 (fun h12 => ?_)
        exact zg_vretK d_X8_drifts_108 rfl ⟨Nat.le_of_ble_eq_true rfl, Nat.le_of_ble_eq_true rfl⟩ (fun q => q)
      · refine zg_aload_n 1 rfl d_X8_drifts_82 ?_
        refine zg_getR d_X8_drifts_83 zc_8 (by decide) fl_X8_81 (fun v13 => ?_)
        refine zg_iload 5 rfl d_X8_drifts_86 ?_
        refine zg_bipush 6 rfl d_X8_drifts_88 ?_
        refine zg_iload 0 rfl d_X8_drifts_90 ?_
        refine zg_imul d_X8_drifts_92 ?_
        refine zg_iload 6 rfl d_X8_drifts_93 ?_
        refine zg_iadd d_X8_drifts_95 ?_
        refine zg_ast0 d_X8_drifts_96 (fun h14 => ?_)
        refine zg_goto d_X8_drifts_97 ?_
        exact zg_vretK d_X8_drifts_108 rfl ⟨Nat.le_of_ble_eq_true rfl, Nat.le_of_ble_eq_true rfl⟩ (fun q => q)
abbrev M_X8_is : zMt := (RX8, cX8_is, 1, 1, 60, (some .long), "is", 0, 0)
theorem d_X8_is_0 : zDc M_X8_is 0 (.iload_n 0) 1 1 := ⟨by decide +kernel, rfl⟩
theorem d_X8_is_1 : zDj M_X8_is 1 (.ifCond .eq 7) 7 4 8 := ⟨by decide +kernel, rfl, by decide⟩
theorem d_X8_is_4 : zDc M_X8_is 4 (.lconst 1) 1 5 := ⟨by decide +kernel, rfl⟩
theorem d_X8_is_5 : zDj M_X8_is 5 (.goto 4) 4 8 9 := ⟨by decide +kernel, rfl, by decide⟩
theorem d_X8_is_8 : zDc M_X8_is 8 (.lconst 0) 1 9 := ⟨by decide +kernel, rfl⟩
theorem d_X8_is_9 : zDc M_X8_is 9 (.lreturn) 1 10 := ⟨by decide +kernel, rfl⟩
def f_X8_is (a0 : Int32) (h0 : zHp) : Option (Int64 × zHp) :=
  if a0 = 0 then
  some (0, h0)
  else
  some (1, h0)
set_option maxRecDepth 100000 in
set_option maxHeartbeats 4000000 in
theorem t_X8_is (a0 : Int32) (h0 : zHp) : ∀ (r : Int64) (h' : zHp), f_X8_is a0 h0 = some (r, h') → zCt yX8_is (.code yX8_is cX8_is 1 (some .long)) 1 60 0 0 [.int a0] h0 (some (.long r)) h' := by
  refine zct_of M_X8_is yX8_is (by decide) rfl rfl [.int a0] h0 (Nat.le_of_ble_eq_true rfl) (fun r => some (.long r)) (fun X => ?_)
  show zG X M_X8_is (0, 0) 0 [(0, .int a0)] [] h0 (f_X8_is a0 h0) (fun (r : Int64) h' => zKe X (some (.long r)) h')
  unfold f_X8_is
  refine zg_iload_n 0 rfl d_X8_is_0 ?_
  refine zg_if_eq d_X8_is_1 ?_ ?_
  · refine zg_lconst 0 rfl d_X8_is_8 ?_
    exact zg_lretK d_X8_is_9 rfl ⟨Nat.le_of_ble_eq_true rfl, Nat.le_of_ble_eq_true rfl⟩ (fun q => q)
  · refine zg_lconst 1 rfl d_X8_is_4 ?_
    refine zg_goto d_X8_is_5 ?_
    exact zg_lretK d_X8_is_9 rfl ⟨Nat.le_of_ble_eq_true rfl, Nat.le_of_ble_eq_true rfl⟩ (fun q => q)
abbrev M_X8_hasLaw : zMt := (RX8, cX8_hasLaw, 2, 1, 60, (some .boolean), "hasLaw", 0, 0)
theorem d_X8_hasLaw_0 : zDc M_X8_hasLaw 0 (.aload_n 0) 1 1 := ⟨by decide +kernel, rfl⟩
theorem d_X8_hasLaw_1 : zDc M_X8_hasLaw 1 (.getfield 55) 3 4 := ⟨by decide +kernel, rfl⟩
theorem d_X8_hasLaw_4 : zDc M_X8_hasLaw 4 (.iload_n 1) 1 5 := ⟨by decide +kernel, rfl⟩
theorem d_X8_hasLaw_5 : zDc M_X8_hasLaw 5 (.iaload) 1 6 := ⟨by decide +kernel, rfl⟩
theorem d_X8_hasLaw_6 : zDc M_X8_hasLaw 6 (.aload_n 0) 1 7 := ⟨by decide +kernel, rfl⟩
theorem d_X8_hasLaw_7 : zDc M_X8_hasLaw 7 (.getfield 52) 3 10 := ⟨by decide +kernel, rfl⟩
theorem d_X8_hasLaw_10 : zDc M_X8_hasLaw 10 (.iload_n 1) 1 11 := ⟨by decide +kernel, rfl⟩
theorem d_X8_hasLaw_11 : zDc M_X8_hasLaw 11 (.iaload) 1 12 := ⟨by decide +kernel, rfl⟩
theorem d_X8_hasLaw_12 : zDj M_X8_hasLaw 12 (.if_icmp .le 7) 7 15 19 := ⟨by decide +kernel, rfl, by decide⟩
theorem d_X8_hasLaw_15 : zDc M_X8_hasLaw 15 (.iconst 1) 1 16 := ⟨by decide +kernel, rfl⟩
theorem d_X8_hasLaw_16 : zDj M_X8_hasLaw 16 (.goto 4) 4 19 20 := ⟨by decide +kernel, rfl, by decide⟩
theorem d_X8_hasLaw_19 : zDc M_X8_hasLaw 19 (.iconst 0) 1 20 := ⟨by decide +kernel, rfl⟩
theorem d_X8_hasLaw_20 : zDc M_X8_hasLaw 20 (.ireturn) 1 21 := ⟨by decide +kernel, rfl⟩
def f_X8_hasLaw (a0 : Nat) (a1 : Int32) (h0 : zHp) : Option (Int32 × zHp) :=
  zob (zgR h0 a0 8 17) (fun v1 =>
  zob (zaI 0 h0 v1 a1) (fun v2 =>
  zob (zgR h0 a0 8 16) (fun v3 =>
  zob (zaI 0 h0 v3 a1) (fun v4 =>
  if v2 ≤ v4 then
  some (0, h0)
  else
  some (1, h0)))))
set_option maxRecDepth 100000 in
set_option maxHeartbeats 4000000 in
theorem t_X8_hasLaw (a0 : Nat) (a1 : Int32) (h0 : zHp) : ∀ (r : Int32) (h' : zHp), f_X8_hasLaw a0 a1 h0 = some (r, h') → zCt yX8_hasLaw (.code yX8_hasLaw cX8_hasLaw 2 (some .boolean)) 1 60 0 0 [.ref a0, .int a1] h0 (some (.int r)) h' := by
  refine zct_of M_X8_hasLaw yX8_hasLaw (by decide) rfl rfl [.ref a0, .int a1] h0 (Nat.le_of_ble_eq_true rfl) (fun r => some (.int r)) (fun X => ?_)
  show zG X M_X8_hasLaw (0, 0) 0 [(0, .ref a0), (1, .int a1)] [] h0 (f_X8_hasLaw a0 a1 h0) (fun (r : Int32) h' => zKe X (some (.int r)) h')
  unfold f_X8_hasLaw
  refine zg_aload_n 0 rfl d_X8_hasLaw_0 ?_
  refine zg_getR d_X8_hasLaw_1 zc_8 (by decide) fl_X8_55 (fun v1 => ?_)
  refine zg_iload_n 1 rfl d_X8_hasLaw_4 ?_
  refine zg_ald0 d_X8_hasLaw_5 (fun v2 => ?_)
  refine zg_aload_n 0 rfl d_X8_hasLaw_6 ?_
  refine zg_getR d_X8_hasLaw_7 zc_8 (by decide) fl_X8_52 (fun v3 => ?_)
  refine zg_iload_n 1 rfl d_X8_hasLaw_10 ?_
  refine zg_ald0 d_X8_hasLaw_11 (fun v4 => ?_)
  refine zg_icmp_le d_X8_hasLaw_12 ?_ ?_
  · refine zg_iconst 0 rfl d_X8_hasLaw_19 ?_
    exact zg_zretK d_X8_hasLaw_20 rfl ⟨Nat.le_of_ble_eq_true rfl, Nat.le_of_ble_eq_true rfl⟩ (Or.inl rfl) (fun q => q)
  · refine zg_iconst 1 rfl d_X8_hasLaw_15 ?_
    refine zg_goto d_X8_hasLaw_16 ?_
    exact zg_zretK d_X8_hasLaw_20 rfl ⟨Nat.le_of_ble_eq_true rfl, Nat.le_of_ble_eq_true rfl⟩ (Or.inr rfl) (fun q => q)
abbrev M_X8_doesSee : zMt := (RX8, cX8_doesSee, 4, 2, 81, (some .boolean), "doesSee", 0, 0)
theorem d_X8_doesSee_0 : zDc M_X8_doesSee 0 (.aload_n 0) 1 1 := ⟨by decide +kernel, rfl⟩
theorem d_X8_doesSee_1 : zDc M_X8_doesSee 1 (.getfield 96) 3 4 := ⟨by decide +kernel, rfl⟩
theorem d_X8_doesSee_4 : zDc M_X8_doesSee 4 (.bipush 6) 2 6 := ⟨by decide +kernel, rfl⟩
theorem d_X8_doesSee_6 : zDc M_X8_doesSee 6 (.iload_n 1) 1 7 := ⟨by decide +kernel, rfl⟩
theorem d_X8_doesSee_7 : zDc M_X8_doesSee 7 (.imul) 1 8 := ⟨by decide +kernel, rfl⟩
theorem d_X8_doesSee_8 : zDc M_X8_doesSee 8 (.iload_n 2) 1 9 := ⟨by decide +kernel, rfl⟩
theorem d_X8_doesSee_9 : zDc M_X8_doesSee 9 (.iadd) 1 10 := ⟨by decide +kernel, rfl⟩
theorem d_X8_doesSee_10 : zDc M_X8_doesSee 10 (.iaload) 1 11 := ⟨by decide +kernel, rfl⟩
theorem d_X8_doesSee_11 : zDc M_X8_doesSee 11 (.iload_n 3) 1 12 := ⟨by decide +kernel, rfl⟩
theorem d_X8_doesSee_12 : zDc M_X8_doesSee 12 (.invokestatic 360) 3 15 := ⟨by decide +kernel, rfl⟩
theorem d_X8_doesSee_15 : zDc M_X8_doesSee 15 (.aload_n 0) 1 16 := ⟨by decide +kernel, rfl⟩
theorem d_X8_doesSee_16 : zDc M_X8_doesSee 16 (.getfield 46) 3 19 := ⟨by decide +kernel, rfl⟩
theorem d_X8_doesSee_19 : zDc M_X8_doesSee 19 (.iload_n 2) 1 20 := ⟨by decide +kernel, rfl⟩
theorem d_X8_doesSee_20 : zDc M_X8_doesSee 20 (.iaload) 1 21 := ⟨by decide +kernel, rfl⟩
theorem d_X8_doesSee_21 : zDj M_X8_doesSee 21 (.if_icmp .gt 7) 7 24 28 := ⟨by decide +kernel, rfl, by decide⟩
theorem d_X8_doesSee_24 : zDc M_X8_doesSee 24 (.iconst 1) 1 25 := ⟨by decide +kernel, rfl⟩
theorem d_X8_doesSee_25 : zDj M_X8_doesSee 25 (.goto 4) 4 28 29 := ⟨by decide +kernel, rfl, by decide⟩
theorem d_X8_doesSee_28 : zDc M_X8_doesSee 28 (.iconst 0) 1 29 := ⟨by decide +kernel, rfl⟩
theorem d_X8_doesSee_29 : zDc M_X8_doesSee 29 (.ireturn) 1 30 := ⟨by decide +kernel, rfl⟩
def f_X8_doesSee (a0 : Nat) (a1 : Int32) (a2 : Int32) (a3 : Int32) (h0 : zHp) : Option (Int32 × zHp) :=
  zob (zgR h0 a0 8 43) (fun v1 =>
  zob (zaI 0 h0 v1 ((6 * a1) + a2)) (fun v2 =>
  zbd ((f_X8_farOf v2 a3 h0)) (fun v4 h3 =>
  zob (zgR h3 a0 8 14) (fun v5 =>
  zob (zaI 0 h3 v5 a2) (fun v6 =>
  if v6 < v4 then
  some (0, h3)
  else
  some (1, h3))))))
set_option maxRecDepth 100000 in
set_option maxHeartbeats 4000000 in
theorem t_X8_doesSee (a0 : Nat) (a1 : Int32) (a2 : Int32) (a3 : Int32) (h0 : zHp) : ∀ (r : Int32) (h' : zHp), f_X8_doesSee a0 a1 a2 a3 h0 = some (r, h') → zCt yX8_doesSee (.code yX8_doesSee cX8_doesSee 4 (some .boolean)) 2 81 0 0 [.ref a0, .int a1, .int a2, .int a3] h0 (some (.int r)) h' := by
  refine zct_of M_X8_doesSee yX8_doesSee (by decide) rfl rfl [.ref a0, .int a1, .int a2, .int a3] h0 (Nat.le_of_ble_eq_true rfl) (fun r => some (.int r)) (fun X => ?_)
  show zG X M_X8_doesSee (0, 0) 0 [(0, .ref a0), (1, .int a1), (2, .int a2), (3, .int a3)] [] h0 (f_X8_doesSee a0 a1 a2 a3 h0) (fun (r : Int32) h' => zKe X (some (.int r)) h')
  unfold f_X8_doesSee
  refine zg_aload_n 0 rfl d_X8_doesSee_0 ?_
  refine zg_getR d_X8_doesSee_1 zc_8 (by decide) fl_X8_96 (fun v1 => ?_)
  refine zg_bipush 6 rfl d_X8_doesSee_4 ?_
  refine zg_iload_n 1 rfl d_X8_doesSee_6 ?_
  refine zg_imul d_X8_doesSee_7 ?_
  refine zg_iload_n 2 rfl d_X8_doesSee_8 ?_
  refine zg_iadd d_X8_doesSee_9 ?_
  refine zg_ald0 d_X8_doesSee_10 (fun v2 => ?_)
  refine zg_iload_n 3 rfl d_X8_doesSee_11 ?_
  refine zg_cSi (As := [.int v2, .int a3]) (rest := []) (0, 0) d_X8_doesSee_12 cw_X8_360 wt_X8_farOf rfl rfl (Nat.le_of_ble_eq_true rfl) (by decide) (by decide) ⟨by decide, by decide⟩ rfl (t_X8_farOf v2 a3 h0) (fun v4 h3 => ?_)
  refine zg_aload_n 0 rfl d_X8_doesSee_15 ?_
  refine zg_getR d_X8_doesSee_16 zc_8 (by decide) fl_X8_46 (fun v5 => ?_)
  refine zg_iload_n 2 rfl d_X8_doesSee_19 ?_
  refine zg_ald0 d_X8_doesSee_20 (fun v6 => ?_)
  refine zg_icmp_gt d_X8_doesSee_21 ?_ ?_
  · refine zg_iconst 0 rfl d_X8_doesSee_28 ?_
    exact zg_zretK d_X8_doesSee_29 rfl ⟨Nat.le_of_ble_eq_true rfl, Nat.le_of_ble_eq_true rfl⟩ (Or.inl rfl) (fun q => q)
  · refine zg_iconst 1 rfl d_X8_doesSee_24 ?_
    refine zg_goto d_X8_doesSee_25 ?_
    exact zg_zretK d_X8_doesSee_29 rfl ⟨Nat.le_of_ble_eq_true rfl, Nat.le_of_ble_eq_true rfl⟩ (Or.inr rfl) (fun q => q)
abbrev M_X8_ownUp : zMt := (RX8, cX8_ownUp, 5, 2, 82, (some .int), "ownUp", 0, 0)
theorem d_X8_ownUp_0 : zDc M_X8_ownUp 0 (.iconst 0) 1 1 := ⟨by decide +kernel, rfl⟩
theorem d_X8_ownUp_1 : zDc M_X8_ownUp 1 (.istore_n 3) 1 2 := ⟨by decide +kernel, rfl⟩
theorem d_X8_ownUp_2 : zDc M_X8_ownUp 2 (.iconst 0) 1 3 := ⟨by decide +kernel, rfl⟩
theorem d_X8_ownUp_3 : zDc M_X8_ownUp 3 (.istore 4) 2 5 := ⟨by decide +kernel, rfl⟩
theorem d_X8_ownUp_5 : zDc M_X8_ownUp 5 (.iload 4) 2 7 := ⟨by decide +kernel, rfl⟩
theorem d_X8_ownUp_7 : zDc M_X8_ownUp 7 (.aload_n 0) 1 8 := ⟨by decide +kernel, rfl⟩
theorem d_X8_ownUp_8 : zDc M_X8_ownUp 8 (.getfield 13) 3 11 := ⟨by decide +kernel, rfl⟩
theorem d_X8_ownUp_11 : zDc M_X8_ownUp 11 (.iconst 1) 1 12 := ⟨by decide +kernel, rfl⟩
theorem d_X8_ownUp_12 : zDc M_X8_ownUp 12 (.iaload) 1 13 := ⟨by decide +kernel, rfl⟩
theorem d_X8_ownUp_13 : zDj M_X8_ownUp 13 (.if_icmp .ge 43) 43 16 56 := ⟨by decide +kernel, rfl, by decide⟩
theorem d_X8_ownUp_16 : zDc M_X8_ownUp 16 (.iload_n 3) 1 17 := ⟨by decide +kernel, rfl⟩
theorem d_X8_ownUp_17 : zDc M_X8_ownUp 17 (.aload_n 0) 1 18 := ⟨by decide +kernel, rfl⟩
theorem d_X8_ownUp_18 : zDc M_X8_ownUp 18 (.iload_n 1) 1 19 := ⟨by decide +kernel, rfl⟩
theorem d_X8_ownUp_19 : zDc M_X8_ownUp 19 (.iload 4) 2 21 := ⟨by decide +kernel, rfl⟩
theorem d_X8_ownUp_21 : zDc M_X8_ownUp 21 (.invokevirtual 351) 3 24 := ⟨by decide +kernel, rfl⟩
theorem d_X8_ownUp_24 : zDj M_X8_ownUp 24 (.ifCond .eq 23) 23 27 47 := ⟨by decide +kernel, rfl, by decide⟩
theorem d_X8_ownUp_27 : zDc M_X8_ownUp 27 (.aload_n 0) 1 28 := ⟨by decide +kernel, rfl⟩
theorem d_X8_ownUp_28 : zDc M_X8_ownUp 28 (.getfield 90) 3 31 := ⟨by decide +kernel, rfl⟩
theorem d_X8_ownUp_31 : zDc M_X8_ownUp 31 (.bipush 8) 2 33 := ⟨by decide +kernel, rfl⟩
theorem d_X8_ownUp_33 : zDc M_X8_ownUp 33 (.iload_n 1) 1 34 := ⟨by decide +kernel, rfl⟩
theorem d_X8_ownUp_34 : zDc M_X8_ownUp 34 (.imul) 1 35 := ⟨by decide +kernel, rfl⟩
theorem d_X8_ownUp_35 : zDc M_X8_ownUp 35 (.iload 4) 2 37 := ⟨by decide +kernel, rfl⟩
theorem d_X8_ownUp_37 : zDc M_X8_ownUp 37 (.iadd) 1 38 := ⟨by decide +kernel, rfl⟩
theorem d_X8_ownUp_38 : zDc M_X8_ownUp 38 (.iaload) 1 39 := ⟨by decide +kernel, rfl⟩
theorem d_X8_ownUp_39 : zDc M_X8_ownUp 39 (.iload_n 2) 1 40 := ⟨by decide +kernel, rfl⟩
theorem d_X8_ownUp_40 : zDj M_X8_ownUp 40 (.if_icmp .ne 7) 7 43 47 := ⟨by decide +kernel, rfl, by decide⟩
theorem d_X8_ownUp_43 : zDc M_X8_ownUp 43 (.iconst 1) 1 44 := ⟨by decide +kernel, rfl⟩
theorem d_X8_ownUp_44 : zDj M_X8_ownUp 44 (.goto 4) 4 47 48 := ⟨by decide +kernel, rfl, by decide⟩
theorem d_X8_ownUp_47 : zDc M_X8_ownUp 47 (.iconst 0) 1 48 := ⟨by decide +kernel, rfl⟩
theorem d_X8_ownUp_48 : zDc M_X8_ownUp 48 (.iadd) 1 49 := ⟨by decide +kernel, rfl⟩
theorem d_X8_ownUp_49 : zDc M_X8_ownUp 49 (.istore_n 3) 1 50 := ⟨by decide +kernel, rfl⟩
theorem d_X8_ownUp_50 : zDc M_X8_ownUp 50 (.iinc 4 1) 3 53 := ⟨by decide +kernel, rfl⟩
theorem d_X8_ownUp_53 : zDj M_X8_ownUp 53 (.goto (-48)) (-48) 56 5 := ⟨by decide +kernel, rfl, by decide⟩
theorem d_X8_ownUp_56 : zDc M_X8_ownUp 56 (.iload_n 3) 1 57 := ⟨by decide +kernel, rfl⟩
theorem d_X8_ownUp_57 : zDc M_X8_ownUp 57 (.ireturn) 1 58 := ⟨by decide +kernel, rfl⟩
def f_X8_ownUp (a0 : Nat) (a1 : Int32) (a2 : Int32) (h0 : zHp) : Option (Int32 × zHp) :=
  zbd (
  zlp (σ := (Int32 × Int32)) (β := (Int32 × Int32)) zLF (fun s1 h2 =>
  zob (zgR h2 a0 8 3) (fun v5 =>
  zob (zaI 0 h2 v5 1) (fun v6 =>
  if v6 ≤ s1.2 then
  some ((.inr (s1.1, s1.2)), h2)
  else
  zbd (zcv 8 a0 h2 (f_X8_isUp a0 a1 s1.2 h2)) (fun v8 h7 =>
  if v8 = 0 then
  some ((.inl ((s1.1 + 0), (s1.2 + 1))), h7)
  else
  zob (zgR h7 a0 8 41) (fun v9 =>
  zob (zaI 0 h7 v9 ((8 * a1) + s1.2)) (fun v10 =>
  if v10 = a2 then
  some ((.inl ((s1.1 + 1), (s1.2 + 1))), h7)
  else
  some ((.inl ((s1.1 + 0), (s1.2 + 1))), h7))))))) (0, 0) h0) (fun e3 h4 =>
  some (e3.1, h4))
set_option maxRecDepth 100000 in
set_option maxHeartbeats 4000000 in
theorem t_X8_ownUp (a0 : Nat) (a1 : Int32) (a2 : Int32) (h0 : zHp) : ∀ (r : Int32) (h' : zHp), f_X8_ownUp a0 a1 a2 h0 = some (r, h') → zCt yX8_ownUp (.code yX8_ownUp cX8_ownUp 5 (some .int)) 2 82 0 0 [.ref a0, .int a1, .int a2] h0 (some (.int r)) h' := by
  refine zct_of M_X8_ownUp yX8_ownUp (by decide) rfl rfl [.ref a0, .int a1, .int a2] h0 (Nat.le_of_ble_eq_true rfl) (fun r => some (.int r)) (fun X => ?_)
  show zG X M_X8_ownUp (0, 0) 0 [(0, .ref a0), (1, .int a1), (2, .int a2)] [] h0 (f_X8_ownUp a0 a1 a2 h0) (fun (r : Int32) h' => zKe X (some (.int r)) h')
  unfold f_X8_ownUp
  refine zg_iconst 0 rfl d_X8_ownUp_0 ?_
  refine zg_istore_n [(3, .int 0), (0, .ref a0), (1, .int a1), (2, .int a2)] d_X8_ownUp_1 rfl (by decide) rfl ?_
  refine zg_iconst 0 rfl d_X8_ownUp_2 ?_
  refine zg_istore [(4, .int 0), (3, .int 0), (0, .ref a0), (1, .int a1), (2, .int a2)] d_X8_ownUp_3 (by decide) rfl ?_
  refine zg_bd (E := 56) (el := (fun (e3 : (Int32 × Int32)) => [(0, .ref a0), (1, .int a1), (2, .int a2), (3, .int e3.1), (4, .int e3.2)])) (es := fun _ => []) (zg_sub [2, 3, 4, 1, 0] rfl (zg_lp (el := (fun (s1 : (Int32 × Int32)) => [(0, .ref a0), (1, .int a1), (2, .int a2), (3, .int s1.1), (4, .int s1.2)])) (fun s1 h2 => ?_) (0, 0) h0)) (fun e3 h4 => ?_)
  · refine zg_iload 4 rfl d_X8_ownUp_5 ?_
    refine zg_aload_n 0 rfl d_X8_ownUp_7 ?_
    refine zg_getR d_X8_ownUp_8 zc_8 (by decide) fl_X8_13 (fun v5 => ?_)
    refine zg_iconst 1 rfl d_X8_ownUp_11 ?_
    refine zg_ald0 d_X8_ownUp_12 (fun v6 => ?_)
    refine zg_icmp_ge d_X8_ownUp_13 ?_ ?_
    · exact zg_finK (E := 0) [0, 1, 2, 3, 4] rfl rfl (fun q => q)
    · refine zg_iload_n 3 rfl d_X8_ownUp_16 ?_
      refine zg_aload_n 0 rfl d_X8_ownUp_17 ?_
      refine zg_iload_n 1 rfl d_X8_ownUp_18 ?_
      refine zg_iload 4 rfl d_X8_ownUp_19 ?_
      refine zg_cVi (b := a0) (As := [.int a1, .int s1.2]) (rest := [.int s1.1]) (0, 0) d_X8_ownUp_21 zc_8 rfl cw_X8_351 wi_X8_isUp ws_X8_isUp rfl rfl (Nat.le_of_ble_eq_true rfl) (by decide) (by decide) ⟨by decide, by decide⟩ rfl (t_X8_isUp a0 a1 s1.2 h2) (fun v8 h7 => ?_)
      refine zg_if_eq d_X8_ownUp_24 ?_ ?_
      · refine zg_iconst 0 rfl d_X8_ownUp_47 ?_
        refine zg_iadd d_X8_ownUp_48 ?_
        refine zg_istore_n [(3, .int (s1.1 + 0)), (0, .ref a0), (1, .int a1), (2, .int a2), (4, .int s1.2)] d_X8_ownUp_49 rfl (by decide) rfl ?_
        refine zg_iinc 4 (s1.2 + 1) [(4, .int (s1.2 + 1)), (3, .int (s1.1 + 0)), (0, .ref a0), (1, .int a1), (2, .int a2)] d_X8_ownUp_50 rfl rfl (by decide) rfl ?_
        refine zg_goto d_X8_ownUp_53 ?_
        exact zg_finK (E := 0) [2, 3, 4, 1, 0] rfl rfl (fun q => q)
      · refine zg_aload_n 0 rfl d_X8_ownUp_27 ?_
        refine zg_getR d_X8_ownUp_28 zc_8 (by decide) fl_X8_90 (fun v9 => ?_)
        refine zg_bipush 8 rfl d_X8_ownUp_31 ?_
        refine zg_iload_n 1 rfl d_X8_ownUp_33 ?_
        refine zg_imul d_X8_ownUp_34 ?_
        refine zg_iload 4 rfl d_X8_ownUp_35 ?_
        refine zg_iadd d_X8_ownUp_37 ?_
        refine zg_ald0 d_X8_ownUp_38 (fun v10 => ?_)
        refine zg_iload_n 2 rfl d_X8_ownUp_39 ?_
        refine zg_icmp_ne d_X8_ownUp_40 ?_ ?_
        · refine zg_iconst 1 rfl d_X8_ownUp_43 ?_
          refine zg_goto d_X8_ownUp_44 ?_
          refine zg_iadd d_X8_ownUp_48 ?_
          refine zg_istore_n [(3, .int (s1.1 + 1)), (0, .ref a0), (1, .int a1), (2, .int a2), (4, .int s1.2)] d_X8_ownUp_49 rfl (by decide) rfl ?_
          refine zg_iinc 4 (s1.2 + 1) [(4, .int (s1.2 + 1)), (3, .int (s1.1 + 1)), (0, .ref a0), (1, .int a1), (2, .int a2)] d_X8_ownUp_50 rfl rfl (by decide) rfl ?_
          refine zg_goto d_X8_ownUp_53 ?_
          exact zg_finK (E := 0) [2, 3, 4, 1, 0] rfl rfl (fun q => q)
        · refine zg_iconst 0 rfl d_X8_ownUp_47 ?_
          refine zg_iadd d_X8_ownUp_48 ?_
          refine zg_istore_n [(3, .int (s1.1 + 0)), (0, .ref a0), (1, .int a1), (2, .int a2), (4, .int s1.2)] d_X8_ownUp_49 rfl (by decide) rfl ?_
          refine zg_iinc 4 (s1.2 + 1) [(4, .int (s1.2 + 1)), (3, .int (s1.1 + 0)), (0, .ref a0), (1, .int a1), (2, .int a2)] d_X8_ownUp_50 rfl rfl (by decide) rfl ?_
          refine zg_goto d_X8_ownUp_53 ?_
          exact zg_finK (E := 0) [2, 3, 4, 1, 0] rfl rfl (fun q => q)
  · refine zg_iload_n 3 rfl d_X8_ownUp_56 ?_
    exact zg_iretK d_X8_ownUp_57 rfl ⟨Nat.le_of_ble_eq_true rfl, Nat.le_of_ble_eq_true rfl⟩ (fun q => q)
abbrev M_X8_isGiven : zMt := (RX8, cX8_isGiven, 5, 3, 106, none, "isGiven", 0, 0)
theorem d_X8_isGiven_0 : zDc M_X8_isGiven 0 (.iconst (-1)) 1 1 := ⟨by decide +kernel, rfl⟩
theorem d_X8_isGiven_1 : zDc M_X8_isGiven 1 (.istore_n 3) 1 2 := ⟨by decide +kernel, rfl⟩
theorem d_X8_isGiven_2 : zDc M_X8_isGiven 2 (.iconst 0) 1 3 := ⟨by decide +kernel, rfl⟩
theorem d_X8_isGiven_3 : zDc M_X8_isGiven 3 (.istore 4) 2 5 := ⟨by decide +kernel, rfl⟩
theorem d_X8_isGiven_5 : zDc M_X8_isGiven 5 (.iload 4) 2 7 := ⟨by decide +kernel, rfl⟩
theorem d_X8_isGiven_7 : zDc M_X8_isGiven 7 (.aload_n 0) 1 8 := ⟨by decide +kernel, rfl⟩
theorem d_X8_isGiven_8 : zDc M_X8_isGiven 8 (.getfield 13) 3 11 := ⟨by decide +kernel, rfl⟩
theorem d_X8_isGiven_11 : zDc M_X8_isGiven 11 (.iconst 2) 1 12 := ⟨by decide +kernel, rfl⟩
theorem d_X8_isGiven_12 : zDc M_X8_isGiven 12 (.iaload) 1 13 := ⟨by decide +kernel, rfl⟩
theorem d_X8_isGiven_13 : zDj M_X8_isGiven 13 (.if_icmp .ge 73) 73 16 86 := ⟨by decide +kernel, rfl, by decide⟩
theorem d_X8_isGiven_16 : zDc M_X8_isGiven 16 (.aload_n 0) 1 17 := ⟨by decide +kernel, rfl⟩
theorem d_X8_isGiven_17 : zDc M_X8_isGiven 17 (.iload_n 1) 1 18 := ⟨by decide +kernel, rfl⟩
theorem d_X8_isGiven_18 : zDc M_X8_isGiven 18 (.iload 4) 2 20 := ⟨by decide +kernel, rfl⟩
theorem d_X8_isGiven_20 : zDc M_X8_isGiven 20 (.aload_n 0) 1 21 := ⟨by decide +kernel, rfl⟩
theorem d_X8_isGiven_21 : zDc M_X8_isGiven 21 (.getfield 81) 3 24 := ⟨by decide +kernel, rfl⟩
theorem d_X8_isGiven_24 : zDc M_X8_isGiven 24 (.bipush 8) 2 26 := ⟨by decide +kernel, rfl⟩
theorem d_X8_isGiven_26 : zDc M_X8_isGiven 26 (.iload_n 1) 1 27 := ⟨by decide +kernel, rfl⟩
theorem d_X8_isGiven_27 : zDc M_X8_isGiven 27 (.imul) 1 28 := ⟨by decide +kernel, rfl⟩
theorem d_X8_isGiven_28 : zDc M_X8_isGiven 28 (.iload_n 2) 1 29 := ⟨by decide +kernel, rfl⟩
theorem d_X8_isGiven_29 : zDc M_X8_isGiven 29 (.iadd) 1 30 := ⟨by decide +kernel, rfl⟩
theorem d_X8_isGiven_30 : zDc M_X8_isGiven 30 (.iaload) 1 31 := ⟨by decide +kernel, rfl⟩
theorem d_X8_isGiven_31 : zDc M_X8_isGiven 31 (.invokevirtual 390) 3 34 := ⟨by decide +kernel, rfl⟩
theorem d_X8_isGiven_34 : zDj M_X8_isGiven 34 (.ifCond .eq 46) 46 37 80 := ⟨by decide +kernel, rfl, by decide⟩
theorem d_X8_isGiven_37 : zDc M_X8_isGiven 37 (.aload_n 0) 1 38 := ⟨by decide +kernel, rfl⟩
theorem d_X8_isGiven_38 : zDc M_X8_isGiven 38 (.iload_n 1) 1 39 := ⟨by decide +kernel, rfl⟩
theorem d_X8_isGiven_39 : zDc M_X8_isGiven 39 (.iload 4) 2 41 := ⟨by decide +kernel, rfl⟩
theorem d_X8_isGiven_41 : zDc M_X8_isGiven 41 (.invokevirtual 394) 3 44 := ⟨by decide +kernel, rfl⟩
theorem d_X8_isGiven_44 : zDc M_X8_isGiven 44 (.aload_n 0) 1 45 := ⟨by decide +kernel, rfl⟩
theorem d_X8_isGiven_45 : zDc M_X8_isGiven 45 (.getfield 13) 3 48 := ⟨by decide +kernel, rfl⟩
theorem d_X8_isGiven_48 : zDc M_X8_isGiven 48 (.iconst 5) 1 49 := ⟨by decide +kernel, rfl⟩
theorem d_X8_isGiven_49 : zDc M_X8_isGiven 49 (.iaload) 1 50 := ⟨by decide +kernel, rfl⟩
theorem d_X8_isGiven_50 : zDj M_X8_isGiven 50 (.if_icmp .lt 6) 6 53 56 := ⟨by decide +kernel, rfl, by decide⟩
theorem d_X8_isGiven_53 : zDj M_X8_isGiven 53 (.goto 27) 27 56 80 := ⟨by decide +kernel, rfl, by decide⟩
theorem d_X8_isGiven_56 : zDc M_X8_isGiven 56 (.iload_n 3) 1 57 := ⟨by decide +kernel, rfl⟩
theorem d_X8_isGiven_57 : zDc M_X8_isGiven 57 (.iconst (-1)) 1 58 := ⟨by decide +kernel, rfl⟩
theorem d_X8_isGiven_58 : zDj M_X8_isGiven 58 (.if_icmp .eq 19) 19 61 77 := ⟨by decide +kernel, rfl, by decide⟩
theorem d_X8_isGiven_61 : zDc M_X8_isGiven 61 (.aload_n 0) 1 62 := ⟨by decide +kernel, rfl⟩
theorem d_X8_isGiven_62 : zDc M_X8_isGiven 62 (.iload_n 1) 1 63 := ⟨by decide +kernel, rfl⟩
theorem d_X8_isGiven_63 : zDc M_X8_isGiven 63 (.iload 4) 2 65 := ⟨by decide +kernel, rfl⟩
theorem d_X8_isGiven_65 : zDc M_X8_isGiven 65 (.invokevirtual 394) 3 68 := ⟨by decide +kernel, rfl⟩
theorem d_X8_isGiven_68 : zDc M_X8_isGiven 68 (.aload_n 0) 1 69 := ⟨by decide +kernel, rfl⟩
theorem d_X8_isGiven_69 : zDc M_X8_isGiven 69 (.iload_n 1) 1 70 := ⟨by decide +kernel, rfl⟩
theorem d_X8_isGiven_70 : zDc M_X8_isGiven 70 (.iload_n 3) 1 71 := ⟨by decide +kernel, rfl⟩
theorem d_X8_isGiven_71 : zDc M_X8_isGiven 71 (.invokevirtual 394) 3 74 := ⟨by decide +kernel, rfl⟩
theorem d_X8_isGiven_74 : zDj M_X8_isGiven 74 (.if_icmp .ge 6) 6 77 80 := ⟨by decide +kernel, rfl, by decide⟩
theorem d_X8_isGiven_77 : zDc M_X8_isGiven 77 (.iload 4) 2 79 := ⟨by decide +kernel, rfl⟩
theorem d_X8_isGiven_79 : zDc M_X8_isGiven 79 (.istore_n 3) 1 80 := ⟨by decide +kernel, rfl⟩
theorem d_X8_isGiven_80 : zDc M_X8_isGiven 80 (.iinc 4 1) 3 83 := ⟨by decide +kernel, rfl⟩
theorem d_X8_isGiven_83 : zDj M_X8_isGiven 83 (.goto (-78)) (-78) 86 5 := ⟨by decide +kernel, rfl, by decide⟩
theorem d_X8_isGiven_86 : zDc M_X8_isGiven 86 (.aload_n 0) 1 87 := ⟨by decide +kernel, rfl⟩
theorem d_X8_isGiven_87 : zDc M_X8_isGiven 87 (.getfield 90) 3 90 := ⟨by decide +kernel, rfl⟩
theorem d_X8_isGiven_90 : zDc M_X8_isGiven 90 (.bipush 8) 2 92 := ⟨by decide +kernel, rfl⟩
theorem d_X8_isGiven_92 : zDc M_X8_isGiven 92 (.iload_n 1) 1 93 := ⟨by decide +kernel, rfl⟩
theorem d_X8_isGiven_93 : zDc M_X8_isGiven 93 (.imul) 1 94 := ⟨by decide +kernel, rfl⟩
theorem d_X8_isGiven_94 : zDc M_X8_isGiven 94 (.iload_n 2) 1 95 := ⟨by decide +kernel, rfl⟩
theorem d_X8_isGiven_95 : zDc M_X8_isGiven 95 (.iadd) 1 96 := ⟨by decide +kernel, rfl⟩
theorem d_X8_isGiven_96 : zDc M_X8_isGiven 96 (.iload_n 3) 1 97 := ⟨by decide +kernel, rfl⟩
theorem d_X8_isGiven_97 : zDc M_X8_isGiven 97 (.iastore) 1 98 := ⟨by decide +kernel, rfl⟩
theorem d_X8_isGiven_98 : zDc M_X8_isGiven 98 (.return_) 1 99 := ⟨by decide +kernel, rfl⟩
def f_X8_isGiven (a0 : Nat) (a1 : Int32) (a2 : Int32) (h0 : zHp) : Option (Unit × zHp) :=
  zbd (
  zlp (σ := (Int32 × Int32)) (β := (Int32 × Int32)) zLF (fun s1 h2 =>
  zob (zgR h2 a0 8 3) (fun v5 =>
  zob (zaI 0 h2 v5 2) (fun v6 =>
  if v6 ≤ s1.2 then
  some ((.inr (s1.1, s1.2)), h2)
  else
  zob (zgR h2 a0 8 38) (fun v7 =>
  zob (zaI 0 h2 v7 ((8 * a1) + a2)) (fun v8 =>
  zbd (zcv 8 a0 h2 (f_X8_doesSee a0 a1 s1.2 v8 h2)) (fun v10 h9 =>
  if v10 = 0 then
  some ((.inl (s1.1, (s1.2 + 1))), h9)
  else
  zbd (zcv 8 a0 h9 (f_X8_ownUp a0 a1 s1.2 h9)) (fun v12 h11 =>
  zob (zgR h11 a0 8 3) (fun v13 =>
  zob (zaI 0 h11 v13 5) (fun v14 =>
  if v12 < v14 then
  if s1.1 = (-1) then
  some ((.inl (s1.2, (s1.2 + 1))), h11)
  else
  zbd (zcv 8 a0 h11 (f_X8_ownUp a0 a1 s1.2 h11)) (fun v16 h15 =>
  zbd (zcv 8 a0 h15 (f_X8_ownUp a0 a1 s1.1 h15)) (fun v18 h17 =>
  if v18 ≤ v16 then
  some ((.inl (s1.1, (s1.2 + 1))), h17)
  else
  some ((.inl (s1.2, (s1.2 + 1))), h17)))
  else
  some ((.inl (s1.1, (s1.2 + 1))), h11)))))))))) ((-1), 0) h0) (fun e3 h4 =>
  zob (zgR h4 a0 8 41) (fun v19 =>
  zob (zsI 0 h4 v19 ((8 * a1) + a2) e3.1) (fun h20 =>
  some ((), h20))))
set_option maxRecDepth 100000 in
set_option maxHeartbeats 4000000 in
theorem t_X8_isGiven (a0 : Nat) (a1 : Int32) (a2 : Int32) (h0 : zHp) : ∀ (r : Unit) (h' : zHp), f_X8_isGiven a0 a1 a2 h0 = some (r, h') → zCt yX8_isGiven (.code yX8_isGiven cX8_isGiven 5 none) 3 106 0 0 [.ref a0, .int a1, .int a2] h0 (none) h' := by
  refine zct_of M_X8_isGiven yX8_isGiven (by decide) rfl rfl [.ref a0, .int a1, .int a2] h0 (Nat.le_of_ble_eq_true rfl) (fun _ => none) (fun X => ?_)
  show zG X M_X8_isGiven (0, 0) 0 [(0, .ref a0), (1, .int a1), (2, .int a2)] [] h0 (f_X8_isGiven a0 a1 a2 h0) (fun (_ : Unit) h' => zKe X (none) h')
  unfold f_X8_isGiven
  refine zg_iconst (-1) rfl d_X8_isGiven_0 ?_
  refine zg_istore_n [(3, .int (-1)), (0, .ref a0), (1, .int a1), (2, .int a2)] d_X8_isGiven_1 rfl (by decide) rfl ?_
  refine zg_iconst 0 rfl d_X8_isGiven_2 ?_
  refine zg_istore [(4, .int 0), (3, .int (-1)), (0, .ref a0), (1, .int a1), (2, .int a2)] d_X8_isGiven_3 (by decide) rfl ?_
  refine zg_bd (E := 86) (el := (fun (e3 : (Int32 × Int32)) => [(0, .ref a0), (1, .int a1), (2, .int a2), (3, .int e3.1), (4, .int e3.2)])) (es := fun _ => []) (zg_sub [2, 3, 4, 1, 0] rfl (zg_lp (el := (fun (s1 : (Int32 × Int32)) => [(0, .ref a0), (1, .int a1), (2, .int a2), (3, .int s1.1), (4, .int s1.2)])) (fun s1 h2 => ?_) ((-1), 0) h0)) (fun e3 h4 => ?_)
  · refine zg_iload 4 rfl d_X8_isGiven_5 ?_
    refine zg_aload_n 0 rfl d_X8_isGiven_7 ?_
    refine zg_getR d_X8_isGiven_8 zc_8 (by decide) fl_X8_13 (fun v5 => ?_)
    refine zg_iconst 2 rfl d_X8_isGiven_11 ?_
    refine zg_ald0 d_X8_isGiven_12 (fun v6 => ?_)
    refine zg_icmp_ge d_X8_isGiven_13 ?_ ?_
    · exact zg_finK (E := 0) [0, 1, 2, 3, 4] rfl rfl (fun q => q)
    · refine zg_aload_n 0 rfl d_X8_isGiven_16 ?_
      refine zg_iload_n 1 rfl d_X8_isGiven_17 ?_
      refine zg_iload 4 rfl d_X8_isGiven_18 ?_
      refine zg_aload_n 0 rfl d_X8_isGiven_20 ?_
      refine zg_getR d_X8_isGiven_21 zc_8 (by decide) fl_X8_81 (fun v7 => ?_)
      refine zg_bipush 8 rfl d_X8_isGiven_24 ?_
      refine zg_iload_n 1 rfl d_X8_isGiven_26 ?_
      refine zg_imul d_X8_isGiven_27 ?_
      refine zg_iload_n 2 rfl d_X8_isGiven_28 ?_
      refine zg_iadd d_X8_isGiven_29 ?_
      refine zg_ald0 d_X8_isGiven_30 (fun v8 => ?_)
      refine zg_cVi (b := a0) (As := [.int a1, .int s1.2, .int v8]) (rest := []) (0, 0) d_X8_isGiven_31 zc_8 rfl cw_X8_390 wi_X8_doesSee ws_X8_doesSee rfl rfl (Nat.le_of_ble_eq_true rfl) (by decide) (by decide) ⟨by decide, by decide⟩ rfl (t_X8_doesSee a0 a1 s1.2 v8 h2) (fun v10 h9 => ?_)
      refine zg_if_eq d_X8_isGiven_34 ?_ ?_
      · refine zg_iinc 4 (s1.2 + 1) [(4, .int (s1.2 + 1)), (0, .ref a0), (1, .int a1), (2, .int a2), (3, .int s1.1)] d_X8_isGiven_80 rfl rfl (by decide) rfl ?_
        refine zg_goto d_X8_isGiven_83 ?_
        exact zg_finK (E := 0) [1, 2, 3, 4, 0] rfl rfl (fun q => q)
      · refine zg_aload_n 0 rfl d_X8_isGiven_37 ?_
        refine zg_iload_n 1 rfl d_X8_isGiven_38 ?_
        refine zg_iload 4 rfl d_X8_isGiven_39 ?_
        refine zg_cVi (b := a0) (As := [.int a1, .int s1.2]) (rest := []) (0, 0) d_X8_isGiven_41 zc_8 rfl cw_X8_394 wi_X8_ownUp ws_X8_ownUp rfl rfl (Nat.le_of_ble_eq_true rfl) (by decide) (by decide) ⟨by decide, by decide⟩ rfl (t_X8_ownUp a0 a1 s1.2 h9) (fun v12 h11 => ?_)
        refine zg_aload_n 0 rfl d_X8_isGiven_44 ?_
        refine zg_getR d_X8_isGiven_45 zc_8 (by decide) fl_X8_13 (fun v13 => ?_)
        refine zg_iconst 5 rfl d_X8_isGiven_48 ?_
        refine zg_ald0 d_X8_isGiven_49 (fun v14 => ?_)
        refine zg_icmp_lt d_X8_isGiven_50 ?_ ?_
        · refine zg_iload_n 3 rfl d_X8_isGiven_56 ?_
          refine zg_iconst (-1) rfl d_X8_isGiven_57 ?_
          refine zg_icmp_eq d_X8_isGiven_58 ?_ ?_
          · refine zg_iload 4 rfl d_X8_isGiven_77 ?_
            refine zg_istore_n [(3, .int s1.2), (0, .ref a0), (1, .int a1), (2, .int a2), (4, .int s1.2)] d_X8_isGiven_79 rfl (by decide) rfl ?_
            refine zg_iinc 4 (s1.2 + 1) [(4, .int (s1.2 + 1)), (3, .int s1.2), (0, .ref a0), (1, .int a1), (2, .int a2)] d_X8_isGiven_80 rfl rfl (by decide) rfl ?_
            refine zg_goto d_X8_isGiven_83 ?_
            exact zg_finK (E := 0) [2, 3, 4, 1, 0] rfl rfl (fun q => q)
          · refine zg_aload_n 0 rfl d_X8_isGiven_61 ?_
            refine zg_iload_n 1 rfl d_X8_isGiven_62 ?_
            refine zg_iload 4 rfl d_X8_isGiven_63 ?_
            refine zg_cVi (b := a0) (As := [.int a1, .int s1.2]) (rest := []) (0, 0) d_X8_isGiven_65 zc_8 rfl cw_X8_394 wi_X8_ownUp ws_X8_ownUp rfl rfl (Nat.le_of_ble_eq_true rfl) (by decide) (by decide) ⟨by decide, by decide⟩ rfl (t_X8_ownUp a0 a1 s1.2 h11) (fun v16 h15 => ?_)
            refine zg_aload_n 0 rfl d_X8_isGiven_68 ?_
            refine zg_iload_n 1 rfl d_X8_isGiven_69 ?_
            refine zg_iload_n 3 rfl d_X8_isGiven_70 ?_
            refine zg_cVi (b := a0) (As := [.int a1, .int s1.1]) (rest := [.int v16]) (0, 0) d_X8_isGiven_71 zc_8 rfl cw_X8_394 wi_X8_ownUp ws_X8_ownUp rfl rfl (Nat.le_of_ble_eq_true rfl) (by decide) (by decide) ⟨by decide, by decide⟩ rfl (t_X8_ownUp a0 a1 s1.1 h15) (fun v18 h17 => ?_)
            refine zg_icmp_ge d_X8_isGiven_74 ?_ ?_
            · refine zg_iinc 4 (s1.2 + 1) [(4, .int (s1.2 + 1)), (0, .ref a0), (1, .int a1), (2, .int a2), (3, .int s1.1)] d_X8_isGiven_80 rfl rfl (by decide) rfl ?_
              refine zg_goto d_X8_isGiven_83 ?_
              exact zg_finK (E := 0) [1, 2, 3, 4, 0] rfl rfl (fun q => q)
            · refine zg_iload 4 rfl d_X8_isGiven_77 ?_
              refine zg_istore_n [(3, .int s1.2), (0, .ref a0), (1, .int a1), (2, .int a2), (4, .int s1.2)] d_X8_isGiven_79 rfl (by decide) rfl ?_
              refine zg_iinc 4 (s1.2 + 1) [(4, .int (s1.2 + 1)), (3, .int s1.2), (0, .ref a0), (1, .int a1), (2, .int a2)] d_X8_isGiven_80 rfl rfl (by decide) rfl ?_
              refine zg_goto d_X8_isGiven_83 ?_
              exact zg_finK (E := 0) [2, 3, 4, 1, 0] rfl rfl (fun q => q)
        · refine zg_goto d_X8_isGiven_53 ?_
          refine zg_iinc 4 (s1.2 + 1) [(4, .int (s1.2 + 1)), (0, .ref a0), (1, .int a1), (2, .int a2), (3, .int s1.1)] d_X8_isGiven_80 rfl rfl (by decide) rfl ?_
          refine zg_goto d_X8_isGiven_83 ?_
          exact zg_finK (E := 0) [1, 2, 3, 4, 0] rfl rfl (fun q => q)
  · refine zg_aload_n 0 rfl d_X8_isGiven_86 ?_
    refine zg_getR d_X8_isGiven_87 zc_8 (by decide) fl_X8_90 (fun v19 => ?_)
    refine zg_bipush 8 rfl d_X8_isGiven_90 ?_
    refine zg_iload_n 1 rfl d_X8_isGiven_92 ?_
    refine zg_imul d_X8_isGiven_93 ?_
    refine zg_iload_n 2 rfl d_X8_isGiven_94 ?_
    refine zg_iadd d_X8_isGiven_95 ?_
    refine zg_iload_n 3 rfl d_X8_isGiven_96 ?_
    refine zg_ast0 d_X8_isGiven_97 (fun h20 => ?_)
    exact zg_vretK d_X8_isGiven_98 rfl ⟨Nat.le_of_ble_eq_true rfl, Nat.le_of_ble_eq_true rfl⟩ (fun q => q)
abbrev M_X8_joins : zMt := (RX8, cX8_joins, 8, 2, 82, none, "joins", 0, 0)
theorem d_X8_joins_0 : zDc M_X8_joins 0 (.iconst 0) 1 1 := ⟨by decide +kernel, rfl⟩
theorem d_X8_joins_1 : zDc M_X8_joins 1 (.istore_n 2) 1 2 := ⟨by decide +kernel, rfl⟩
theorem d_X8_joins_2 : zDc M_X8_joins 2 (.iload_n 2) 1 3 := ⟨by decide +kernel, rfl⟩
theorem d_X8_joins_3 : zDc M_X8_joins 3 (.aload_n 0) 1 4 := ⟨by decide +kernel, rfl⟩
theorem d_X8_joins_4 : zDc M_X8_joins 4 (.getfield 13) 3 7 := ⟨by decide +kernel, rfl⟩
theorem d_X8_joins_7 : zDc M_X8_joins 7 (.iconst 1) 1 8 := ⟨by decide +kernel, rfl⟩
theorem d_X8_joins_8 : zDc M_X8_joins 8 (.iaload) 1 9 := ⟨by decide +kernel, rfl⟩
theorem d_X8_joins_9 : zDj M_X8_joins 9 (.if_icmp .ge 182) 182 12 191 := ⟨by decide +kernel, rfl, by decide⟩
theorem d_X8_joins_12 : zDc M_X8_joins 12 (.aload_n 0) 1 13 := ⟨by decide +kernel, rfl⟩
theorem d_X8_joins_13 : zDc M_X8_joins 13 (.getfield 343) 3 16 := ⟨by decide +kernel, rfl⟩
theorem d_X8_joins_16 : zDc M_X8_joins 16 (.iconst 4) 1 17 := ⟨by decide +kernel, rfl⟩
theorem d_X8_joins_17 : zDj M_X8_joins 17 (.if_icmp .eq 174) 174 20 191 := ⟨by decide +kernel, rfl, by decide⟩
theorem d_X8_joins_20 : zDc M_X8_joins 20 (.iload_n 2) 1 21 := ⟨by decide +kernel, rfl⟩
theorem d_X8_joins_21 : zDc M_X8_joins 21 (.iconst 1) 1 22 := ⟨by decide +kernel, rfl⟩
theorem d_X8_joins_22 : zDc M_X8_joins 22 (.iadd) 1 23 := ⟨by decide +kernel, rfl⟩
theorem d_X8_joins_23 : zDc M_X8_joins 23 (.istore_n 3) 1 24 := ⟨by decide +kernel, rfl⟩
theorem d_X8_joins_24 : zDc M_X8_joins 24 (.iload_n 3) 1 25 := ⟨by decide +kernel, rfl⟩
theorem d_X8_joins_25 : zDc M_X8_joins 25 (.aload_n 0) 1 26 := ⟨by decide +kernel, rfl⟩
theorem d_X8_joins_26 : zDc M_X8_joins 26 (.getfield 13) 3 29 := ⟨by decide +kernel, rfl⟩
theorem d_X8_joins_29 : zDc M_X8_joins 29 (.iconst 1) 1 30 := ⟨by decide +kernel, rfl⟩
theorem d_X8_joins_30 : zDc M_X8_joins 30 (.iaload) 1 31 := ⟨by decide +kernel, rfl⟩
theorem d_X8_joins_31 : zDj M_X8_joins 31 (.if_icmp .ge 154) 154 34 185 := ⟨by decide +kernel, rfl, by decide⟩
theorem d_X8_joins_34 : zDc M_X8_joins 34 (.aload_n 0) 1 35 := ⟨by decide +kernel, rfl⟩
theorem d_X8_joins_35 : zDc M_X8_joins 35 (.iload_n 1) 1 36 := ⟨by decide +kernel, rfl⟩
theorem d_X8_joins_36 : zDc M_X8_joins 36 (.iload_n 2) 1 37 := ⟨by decide +kernel, rfl⟩
theorem d_X8_joins_37 : zDc M_X8_joins 37 (.invokevirtual 351) 3 40 := ⟨by decide +kernel, rfl⟩
theorem d_X8_joins_40 : zDj M_X8_joins 40 (.ifCond .eq 139) 139 43 179 := ⟨by decide +kernel, rfl, by decide⟩
theorem d_X8_joins_43 : zDc M_X8_joins 43 (.aload_n 0) 1 44 := ⟨by decide +kernel, rfl⟩
theorem d_X8_joins_44 : zDc M_X8_joins 44 (.iload_n 1) 1 45 := ⟨by decide +kernel, rfl⟩
theorem d_X8_joins_45 : zDc M_X8_joins 45 (.iload_n 3) 1 46 := ⟨by decide +kernel, rfl⟩
theorem d_X8_joins_46 : zDc M_X8_joins 46 (.invokevirtual 351) 3 49 := ⟨by decide +kernel, rfl⟩
theorem d_X8_joins_49 : zDj M_X8_joins 49 (.ifCond .eq 130) 130 52 179 := ⟨by decide +kernel, rfl, by decide⟩
theorem d_X8_joins_52 : zDc M_X8_joins 52 (.aload_n 0) 1 53 := ⟨by decide +kernel, rfl⟩
theorem d_X8_joins_53 : zDc M_X8_joins 53 (.getfield 81) 3 56 := ⟨by decide +kernel, rfl⟩
theorem d_X8_joins_56 : zDc M_X8_joins 56 (.bipush 8) 2 58 := ⟨by decide +kernel, rfl⟩
theorem d_X8_joins_58 : zDc M_X8_joins 58 (.iload_n 1) 1 59 := ⟨by decide +kernel, rfl⟩
theorem d_X8_joins_59 : zDc M_X8_joins 59 (.imul) 1 60 := ⟨by decide +kernel, rfl⟩
theorem d_X8_joins_60 : zDc M_X8_joins 60 (.iload_n 2) 1 61 := ⟨by decide +kernel, rfl⟩
theorem d_X8_joins_61 : zDc M_X8_joins 61 (.iadd) 1 62 := ⟨by decide +kernel, rfl⟩
theorem d_X8_joins_62 : zDc M_X8_joins 62 (.iaload) 1 63 := ⟨by decide +kernel, rfl⟩
theorem d_X8_joins_63 : zDc M_X8_joins 63 (.aload_n 0) 1 64 := ⟨by decide +kernel, rfl⟩
theorem d_X8_joins_64 : zDc M_X8_joins 64 (.getfield 81) 3 67 := ⟨by decide +kernel, rfl⟩
theorem d_X8_joins_67 : zDc M_X8_joins 67 (.bipush 8) 2 69 := ⟨by decide +kernel, rfl⟩
theorem d_X8_joins_69 : zDc M_X8_joins 69 (.iload_n 1) 1 70 := ⟨by decide +kernel, rfl⟩
theorem d_X8_joins_70 : zDc M_X8_joins 70 (.imul) 1 71 := ⟨by decide +kernel, rfl⟩
theorem d_X8_joins_71 : zDc M_X8_joins 71 (.iload_n 3) 1 72 := ⟨by decide +kernel, rfl⟩
theorem d_X8_joins_72 : zDc M_X8_joins 72 (.iadd) 1 73 := ⟨by decide +kernel, rfl⟩
theorem d_X8_joins_73 : zDc M_X8_joins 73 (.iaload) 1 74 := ⟨by decide +kernel, rfl⟩
theorem d_X8_joins_74 : zDj M_X8_joins 74 (.if_icmp .eq 6) 6 77 80 := ⟨by decide +kernel, rfl, by decide⟩
theorem d_X8_joins_77 : zDj M_X8_joins 77 (.goto 102) 102 80 179 := ⟨by decide +kernel, rfl, by decide⟩
theorem d_X8_joins_80 : zDc M_X8_joins 80 (.bipush 8) 2 82 := ⟨by decide +kernel, rfl⟩
theorem d_X8_joins_82 : zDc M_X8_joins 82 (.iload_n 1) 1 83 := ⟨by decide +kernel, rfl⟩
theorem d_X8_joins_83 : zDc M_X8_joins 83 (.imul) 1 84 := ⟨by decide +kernel, rfl⟩
theorem d_X8_joins_84 : zDc M_X8_joins 84 (.iload_n 2) 1 85 := ⟨by decide +kernel, rfl⟩
theorem d_X8_joins_85 : zDc M_X8_joins 85 (.iadd) 1 86 := ⟨by decide +kernel, rfl⟩
theorem d_X8_joins_86 : zDc M_X8_joins 86 (.istore 4) 2 88 := ⟨by decide +kernel, rfl⟩
theorem d_X8_joins_88 : zDc M_X8_joins 88 (.bipush 8) 2 90 := ⟨by decide +kernel, rfl⟩
theorem d_X8_joins_90 : zDc M_X8_joins 90 (.iload_n 1) 1 91 := ⟨by decide +kernel, rfl⟩
theorem d_X8_joins_91 : zDc M_X8_joins 91 (.imul) 1 92 := ⟨by decide +kernel, rfl⟩
theorem d_X8_joins_92 : zDc M_X8_joins 92 (.iload_n 3) 1 93 := ⟨by decide +kernel, rfl⟩
theorem d_X8_joins_93 : zDc M_X8_joins 93 (.iadd) 1 94 := ⟨by decide +kernel, rfl⟩
theorem d_X8_joins_94 : zDc M_X8_joins 94 (.istore 5) 2 96 := ⟨by decide +kernel, rfl⟩
theorem d_X8_joins_96 : zDc M_X8_joins 96 (.bipush 20) 2 98 := ⟨by decide +kernel, rfl⟩
theorem d_X8_joins_98 : zDc M_X8_joins 98 (.aload_n 0) 1 99 := ⟨by decide +kernel, rfl⟩
theorem d_X8_joins_99 : zDc M_X8_joins 99 (.getfield 84) 3 102 := ⟨by decide +kernel, rfl⟩
theorem d_X8_joins_102 : zDc M_X8_joins 102 (.iload 4) 2 104 := ⟨by decide +kernel, rfl⟩
theorem d_X8_joins_104 : zDc M_X8_joins 104 (.iaload) 1 105 := ⟨by decide +kernel, rfl⟩
theorem d_X8_joins_105 : zDc M_X8_joins 105 (.aload_n 0) 1 106 := ⟨by decide +kernel, rfl⟩
theorem d_X8_joins_106 : zDc M_X8_joins 106 (.getfield 84) 3 109 := ⟨by decide +kernel, rfl⟩
theorem d_X8_joins_109 : zDc M_X8_joins 109 (.iload 5) 2 111 := ⟨by decide +kernel, rfl⟩
theorem d_X8_joins_111 : zDc M_X8_joins 111 (.iaload) 1 112 := ⟨by decide +kernel, rfl⟩
theorem d_X8_joins_112 : zDc M_X8_joins 112 (.iadd) 1 113 := ⟨by decide +kernel, rfl⟩
theorem d_X8_joins_113 : zDc M_X8_joins 113 (.invokestatic 381) 3 116 := ⟨by decide +kernel, rfl⟩
theorem d_X8_joins_116 : zDc M_X8_joins 116 (.istore 6) 2 118 := ⟨by decide +kernel, rfl⟩
theorem d_X8_joins_118 : zDc M_X8_joins 118 (.aload_n 0) 1 119 := ⟨by decide +kernel, rfl⟩
theorem d_X8_joins_119 : zDc M_X8_joins 119 (.getfield 84) 3 122 := ⟨by decide +kernel, rfl⟩
theorem d_X8_joins_122 : zDc M_X8_joins 122 (.iload 4) 2 124 := ⟨by decide +kernel, rfl⟩
theorem d_X8_joins_124 : zDc M_X8_joins 124 (.iaload) 1 125 := ⟨by decide +kernel, rfl⟩
theorem d_X8_joins_125 : zDc M_X8_joins 125 (.aload_n 0) 1 126 := ⟨by decide +kernel, rfl⟩
theorem d_X8_joins_126 : zDc M_X8_joins 126 (.getfield 84) 3 129 := ⟨by decide +kernel, rfl⟩
theorem d_X8_joins_129 : zDc M_X8_joins 129 (.iload 5) 2 131 := ⟨by decide +kernel, rfl⟩
theorem d_X8_joins_131 : zDc M_X8_joins 131 (.iaload) 1 132 := ⟨by decide +kernel, rfl⟩
theorem d_X8_joins_132 : zDj M_X8_joins 132 (.if_icmp .lt 7) 7 135 139 := ⟨by decide +kernel, rfl, by decide⟩
theorem d_X8_joins_135 : zDc M_X8_joins 135 (.iconst 1) 1 136 := ⟨by decide +kernel, rfl⟩
theorem d_X8_joins_136 : zDj M_X8_joins 136 (.goto 4) 4 139 140 := ⟨by decide +kernel, rfl, by decide⟩
theorem d_X8_joins_139 : zDc M_X8_joins 139 (.iconst 0) 1 140 := ⟨by decide +kernel, rfl⟩
theorem d_X8_joins_140 : zDc M_X8_joins 140 (.istore 7) 2 142 := ⟨by decide +kernel, rfl⟩
theorem d_X8_joins_142 : zDc M_X8_joins 142 (.aload_n 0) 1 143 := ⟨by decide +kernel, rfl⟩
theorem d_X8_joins_143 : zDc M_X8_joins 143 (.getfield 84) 3 146 := ⟨by decide +kernel, rfl⟩
theorem d_X8_joins_146 : zDc M_X8_joins 146 (.iload 7) 2 148 := ⟨by decide +kernel, rfl⟩
theorem d_X8_joins_148 : zDj M_X8_joins 148 (.ifCond .eq 8) 8 151 156 := ⟨by decide +kernel, rfl, by decide⟩
theorem d_X8_joins_151 : zDc M_X8_joins 151 (.iload 4) 2 153 := ⟨by decide +kernel, rfl⟩
theorem d_X8_joins_153 : zDj M_X8_joins 153 (.goto 5) 5 156 158 := ⟨by decide +kernel, rfl, by decide⟩
theorem d_X8_joins_156 : zDc M_X8_joins 156 (.iload 5) 2 158 := ⟨by decide +kernel, rfl⟩
theorem d_X8_joins_158 : zDc M_X8_joins 158 (.iload 6) 2 160 := ⟨by decide +kernel, rfl⟩
theorem d_X8_joins_160 : zDc M_X8_joins 160 (.iastore) 1 161 := ⟨by decide +kernel, rfl⟩
theorem d_X8_joins_161 : zDc M_X8_joins 161 (.aload_n 0) 1 162 := ⟨by decide +kernel, rfl⟩
theorem d_X8_joins_162 : zDc M_X8_joins 162 (.getfield 93) 3 165 := ⟨by decide +kernel, rfl⟩
theorem d_X8_joins_165 : zDc M_X8_joins 165 (.iload 7) 2 167 := ⟨by decide +kernel, rfl⟩
theorem d_X8_joins_167 : zDj M_X8_joins 167 (.ifCond .eq 8) 8 170 175 := ⟨by decide +kernel, rfl, by decide⟩
theorem d_X8_joins_170 : zDc M_X8_joins 170 (.iload 5) 2 172 := ⟨by decide +kernel, rfl⟩
theorem d_X8_joins_172 : zDj M_X8_joins 172 (.goto 5) 5 175 177 := ⟨by decide +kernel, rfl, by decide⟩
theorem d_X8_joins_175 : zDc M_X8_joins 175 (.iload 4) 2 177 := ⟨by decide +kernel, rfl⟩
theorem d_X8_joins_177 : zDc M_X8_joins 177 (.iconst 3) 1 178 := ⟨by decide +kernel, rfl⟩
theorem d_X8_joins_178 : zDc M_X8_joins 178 (.iastore) 1 179 := ⟨by decide +kernel, rfl⟩
theorem d_X8_joins_179 : zDc M_X8_joins 179 (.iinc 3 1) 3 182 := ⟨by decide +kernel, rfl⟩
theorem d_X8_joins_182 : zDj M_X8_joins 182 (.goto (-158)) (-158) 185 24 := ⟨by decide +kernel, rfl, by decide⟩
theorem d_X8_joins_185 : zDc M_X8_joins 185 (.iinc 2 1) 3 188 := ⟨by decide +kernel, rfl⟩
theorem d_X8_joins_188 : zDj M_X8_joins 188 (.goto (-186)) (-186) 191 2 := ⟨by decide +kernel, rfl, by decide⟩
theorem d_X8_joins_191 : zDc M_X8_joins 191 (.return_) 1 192 := ⟨by decide +kernel, rfl⟩
def f_X8_joins (a0 : Nat) (a1 : Int32) (h0 : zHp) : Option (Unit × zHp) :=
  zbd (
  zlp (σ := Int32) (β := Int32) zLF (fun s1 h2 =>
  zob (zgR h2 a0 8 3) (fun v5 =>
  zob (zaI 0 h2 v5 1) (fun v6 =>
  if v6 ≤ s1 then
  some ((.inr s1), h2)
  else
  zob (zgI h2 a0 8 49) (fun v7 =>
  if v7 = 4 then
  some ((.inr s1), h2)
  else
  zbd (
  zlp (σ := Int32) (β := Int32) zLF (fun s8 h9 =>
  zob (zgR h9 a0 8 3) (fun v12 =>
  zob (zaI 0 h9 v12 1) (fun v13 =>
  if v13 ≤ s8 then
  some ((.inr s8), h9)
  else
  zbd (zcv 8 a0 h9 (f_X8_isUp a0 a1 s1 h9)) (fun v15 h14 =>
  if v15 = 0 then
  some ((.inl (s8 + 1)), h14)
  else
  zbd (zcv 8 a0 h14 (f_X8_isUp a0 a1 s8 h14)) (fun v17 h16 =>
  if v17 = 0 then
  some ((.inl (s8 + 1)), h16)
  else
  zob (zgR h16 a0 8 38) (fun v18 =>
  zob (zaI 0 h16 v18 ((8 * a1) + s1)) (fun v19 =>
  zob (zgR h16 a0 8 38) (fun v20 =>
  zob (zaI 0 h16 v20 ((8 * a1) + s8)) (fun v21 =>
  if v19 = v21 then
  zob (zgR h16 a0 8 39) (fun v22 =>
  zob (zaI 0 h16 v22 ((8 * a1) + s1)) (fun v23 =>
  zob (zgR h16 a0 8 39) (fun v24 =>
  zob (zaI 0 h16 v24 ((8 * a1) + s8)) (fun v25 =>
  zob (zgR h16 a0 8 39) (fun v26 =>
  zob (zaI 0 h16 v26 ((8 * a1) + s1)) (fun v27 =>
  zob (zgR h16 a0 8 39) (fun v28 =>
  zob (zaI 0 h16 v28 ((8 * a1) + s8)) (fun v29 =>
  zbd (α := Int32) (
  if v27 < v29 then
  some (0, h16)
  else
  some (1, h16)) (fun e30 h31 =>
  zob (zgR h31 a0 8 39) (fun v32 =>
  zbd (α := Int32) (
  if e30 = 0 then
  some (((8 * a1) + s8), h31)
  else
  some (((8 * a1) + s1), h31)) (fun e33 h34 =>
  zob (zsI 0 h34 v32 e33 (zmn 20 (v23 + v25))) (fun h35 =>
  zob (zgR h35 a0 8 42) (fun v36 =>
  zbd (α := Int32) (
  if e30 = 0 then
  some (((8 * a1) + s1), h35)
  else
  some (((8 * a1) + s8), h35)) (fun e37 h38 =>
  zob (zsI 0 h38 v36 e37 3) (fun h39 =>
  some ((.inl (s8 + 1)), h39))))))))))))))))
  else
  some ((.inl (s8 + 1)), h16)))))))))) (s1 + 1) h2) (fun e10 h11 =>
  some ((.inl (s1 + 1)), h11)))))) 0 h0) (fun e3 h4 =>
  some ((), h4))
set_option maxRecDepth 100000 in
set_option maxHeartbeats 4000000 in
theorem t_X8_joins (a0 : Nat) (a1 : Int32) (h0 : zHp) : ∀ (r : Unit) (h' : zHp), f_X8_joins a0 a1 h0 = some (r, h') → zCt yX8_joins (.code yX8_joins cX8_joins 8 none) 2 82 0 0 [.ref a0, .int a1] h0 (none) h' := by
  refine zct_of M_X8_joins yX8_joins (by decide) rfl rfl [.ref a0, .int a1] h0 (Nat.le_of_ble_eq_true rfl) (fun _ => none) (fun X => ?_)
  show zG X M_X8_joins (0, 0) 0 [(0, .ref a0), (1, .int a1)] [] h0 (f_X8_joins a0 a1 h0) (fun (_ : Unit) h' => zKe X (none) h')
  unfold f_X8_joins
  refine zg_iconst 0 rfl d_X8_joins_0 ?_
  refine zg_istore_n [(2, .int 0), (0, .ref a0), (1, .int a1)] d_X8_joins_1 rfl (by decide) rfl ?_
  refine zg_bd (E := 191) (el := (fun (e3 : Int32) => [(0, .ref a0), (1, .int a1), (2, .int e3)])) (es := fun _ => []) (zg_sub [1, 2, 0] rfl (zg_lp (el := (fun (s1 : Int32) => [(0, .ref a0), (1, .int a1), (2, .int s1)])) (fun s1 h2 => ?_) 0 h0)) (fun e3 h4 => ?_)
  · refine zg_iload_n 2 rfl d_X8_joins_2 ?_
    refine zg_aload_n 0 rfl d_X8_joins_3 ?_
    refine zg_getR d_X8_joins_4 zc_8 (by decide) fl_X8_13 (fun v5 => ?_)
    refine zg_iconst 1 rfl d_X8_joins_7 ?_
    refine zg_ald0 d_X8_joins_8 (fun v6 => ?_)
    refine zg_icmp_ge d_X8_joins_9 ?_ ?_
    · exact zg_finK (E := 0) [0, 1, 2] rfl rfl (fun q => q)
    · refine zg_aload_n 0 rfl d_X8_joins_12 ?_
      refine zg_getI d_X8_joins_13 zc_8 (by decide) fl_X8_343 (fun v7 => ?_)
      refine zg_iconst 4 rfl d_X8_joins_16 ?_
      refine zg_icmp_eq d_X8_joins_17 ?_ ?_
      · exact zg_finK (E := 0) [0, 1, 2] rfl rfl (fun q => q)
      · refine zg_iload_n 2 rfl d_X8_joins_20 ?_
        refine zg_iconst 1 rfl d_X8_joins_21 ?_
        refine zg_iadd d_X8_joins_22 ?_
        refine zg_istore_n [(3, .int (s1 + 1)), (0, .ref a0), (1, .int a1), (2, .int s1)] d_X8_joins_23 rfl (by decide) rfl ?_
        refine zg_bd (E := 185) (el := (fun (e10 : Int32) => [(0, .ref a0), (1, .int a1), (2, .int s1), (3, .int e10)])) (es := fun _ => []) (zg_sub [1, 2, 3, 0] rfl (zg_lp (el := (fun (s8 : Int32) => [(0, .ref a0), (1, .int a1), (2, .int s1), (3, .int s8)])) (fun s8 h9 => ?_) (s1 + 1) h2)) (fun e10 h11 => ?_)
        · refine zg_iload_n 3 rfl d_X8_joins_24 ?_
          refine zg_aload_n 0 rfl d_X8_joins_25 ?_
          refine zg_getR d_X8_joins_26 zc_8 (by decide) fl_X8_13 (fun v12 => ?_)
          refine zg_iconst 1 rfl d_X8_joins_29 ?_
          refine zg_ald0 d_X8_joins_30 (fun v13 => ?_)
          refine zg_icmp_ge d_X8_joins_31 ?_ ?_
          · exact zg_finK (E := 0) [0, 1, 2, 3] rfl rfl (fun q => q)
          · refine zg_aload_n 0 rfl d_X8_joins_34 ?_
            refine zg_iload_n 1 rfl d_X8_joins_35 ?_
            refine zg_iload_n 2 rfl d_X8_joins_36 ?_
            refine zg_cVi (b := a0) (As := [.int a1, .int s1]) (rest := []) (0, 0) d_X8_joins_37 zc_8 rfl cw_X8_351 wi_X8_isUp ws_X8_isUp rfl rfl (Nat.le_of_ble_eq_true rfl) (by decide) (by decide) ⟨by decide, by decide⟩ rfl (t_X8_isUp a0 a1 s1 h9) (fun v15 h14 => ?_)
            refine zg_if_eq d_X8_joins_40 ?_ ?_
            · refine zg_iinc 3 (s8 + 1) [(3, .int (s8 + 1)), (0, .ref a0), (1, .int a1), (2, .int s1)] d_X8_joins_179 rfl rfl (by decide) rfl ?_
              refine zg_goto d_X8_joins_182 ?_
              exact zg_finK (E := 0) [1, 2, 3, 0] rfl rfl (fun q => q)
            · refine zg_aload_n 0 rfl d_X8_joins_43 ?_
              refine zg_iload_n 1 rfl d_X8_joins_44 ?_
              refine zg_iload_n 3 rfl d_X8_joins_45 ?_
              refine zg_cVi (b := a0) (As := [.int a1, .int s8]) (rest := []) (0, 0) d_X8_joins_46 zc_8 rfl cw_X8_351 wi_X8_isUp ws_X8_isUp rfl rfl (Nat.le_of_ble_eq_true rfl) (by decide) (by decide) ⟨by decide, by decide⟩ rfl (t_X8_isUp a0 a1 s8 h14) (fun v17 h16 => ?_)
              refine zg_if_eq d_X8_joins_49 ?_ ?_
              · refine zg_iinc 3 (s8 + 1) [(3, .int (s8 + 1)), (0, .ref a0), (1, .int a1), (2, .int s1)] d_X8_joins_179 rfl rfl (by decide) rfl ?_
                refine zg_goto d_X8_joins_182 ?_
                exact zg_finK (E := 0) [1, 2, 3, 0] rfl rfl (fun q => q)
              · refine zg_aload_n 0 rfl d_X8_joins_52 ?_
                refine zg_getR d_X8_joins_53 zc_8 (by decide) fl_X8_81 (fun v18 => ?_)
                refine zg_bipush 8 rfl d_X8_joins_56 ?_
                refine zg_iload_n 1 rfl d_X8_joins_58 ?_
                refine zg_imul d_X8_joins_59 ?_
                refine zg_iload_n 2 rfl d_X8_joins_60 ?_
                refine zg_iadd d_X8_joins_61 ?_
                refine zg_ald0 d_X8_joins_62 (fun v19 => ?_)
                refine zg_aload_n 0 rfl d_X8_joins_63 ?_
                refine zg_getR d_X8_joins_64 zc_8 (by decide) fl_X8_81 (fun v20 => ?_)
                refine zg_bipush 8 rfl d_X8_joins_67 ?_
                refine zg_iload_n 1 rfl d_X8_joins_69 ?_
                refine zg_imul d_X8_joins_70 ?_
                refine zg_iload_n 3 rfl d_X8_joins_71 ?_
                refine zg_iadd d_X8_joins_72 ?_
                refine zg_ald0 d_X8_joins_73 (fun v21 => ?_)
                refine zg_icmp_eq d_X8_joins_74 ?_ ?_
                · refine zg_bipush 8 rfl d_X8_joins_80 ?_
                  refine zg_iload_n 1 rfl d_X8_joins_82 ?_
                  refine zg_imul d_X8_joins_83 ?_
                  refine zg_iload_n 2 rfl d_X8_joins_84 ?_
                  refine zg_iadd d_X8_joins_85 ?_
                  refine zg_istore [(4, .int ((8 * a1) + s1)), (0, .ref a0), (1, .int a1), (2, .int s1), (3, .int s8)] d_X8_joins_86 (by decide) rfl ?_
                  refine zg_bipush 8 rfl d_X8_joins_88 ?_
                  refine zg_iload_n 2 rfl d_X8_joins_90 ?_
                  refine zg_imul d_X8_joins_91 ?_
                  refine zg_iload_n 4 rfl d_X8_joins_92 ?_
                  refine zg_iadd d_X8_joins_93 ?_
                  refine zg_istore [(5, .int ((8 * a1) + s8)), (4, .int ((8 * a1) + s1)), (0, .ref a0), (1, .int a1), (2, .int s1), (3, .int s8)] d_X8_joins_94 (by decide) rfl ?_
                  refine zg_bipush 20 rfl d_X8_joins_96 ?_
                  refine zg_aload_n 2 rfl d_X8_joins_98 ?_
                  refine zg_getR d_X8_joins_99 zc_8 (by decide) fl_X8_84 (fun v22 => ?_)
                  refine zg_iload 1 rfl d_X8_joins_102 ?_
                  refine zg_ald0 d_X8_joins_104 (fun v23 => ?_)
                  refine zg_aload_n 2 rfl d_X8_joins_105 ?_
                  refine zg_getR d_X8_joins_106 zc_8 (by decide) fl_X8_84 (fun v24 => ?_)
                  refine zg_iload 0 rfl d_X8_joins_109 ?_
                  refine zg_ald0 d_X8_joins_111 (fun v25 => ?_)
                  refine zg_iadd d_X8_joins_112 ?_
                  refine zg_mmin d_X8_joins_113 ml_X8_381 (by decide) (Nat.le_of_ble_eq_true rfl) ⟨Nat.le_of_ble_eq_true rfl, Nat.le_of_ble_eq_true rfl⟩ ?_
                  refine zg_istore [(6, .int (zmn 20 (v23 + v25))), (5, .int ((8 * a1) + s8)), (4, .int ((8 * a1) + s1)), (0, .ref a0), (1, .int a1), (2, .int s1), (3, .int s8)] d_X8_joins_116 (by decide) rfl ?_
                  refine zg_aload_n 3 rfl d_X8_joins_118 ?_
                  refine zg_getR d_X8_joins_119 zc_8 (by decide) fl_X8_84 (fun v26 => ?_)
                  refine zg_iload 2 rfl d_X8_joins_122 ?_
                  refine zg_ald0 d_X8_joins_124 (fun v27 => ?_)
                  refine zg_aload_n 3 rfl d_X8_joins_125 ?_
                  refine zg_getR d_X8_joins_126 zc_8 (by decide) fl_X8_84 (fun v28 => ?_)
                  refine zg_iload 1 rfl d_X8_joins_129 ?_
                  refine zg_ald0 d_X8_joins_131 (fun v29 => ?_)
                  refine zg_bd (E := 140) (el := (fun (e30 : Int32) => [(0, .ref a0), (1, .int a1), (2, .int s1), (3, .int s8), (4, .int ((8 * a1) + s1)), (5, .int ((8 * a1) + s8)), (6, .int (zmn 20 (v23 + v25)))])) (es := (fun (e30 : Int32) => [.int e30])) ?_ (fun e30 h31 => ?_)
                  · refine zg_icmp_lt d_X8_joins_132 ?_ ?_
                    · refine zg_iconst 0 rfl d_X8_joins_139 ?_
                      exact zg_finK (E := 0) [3, 4, 5, 6, 2, 1, 0] rfl rfl (fun q => q)
                    · refine zg_iconst 1 rfl d_X8_joins_135 ?_
                      refine zg_goto d_X8_joins_136 ?_
                      exact zg_finK (E := 0) [3, 4, 5, 6, 2, 1, 0] rfl rfl (fun q => q)
                  · refine zg_istore [(7, .int e30), (0, .ref a0), (1, .int a1), (2, .int s1), (3, .int s8), (4, .int ((8 * a1) + s1)), (5, .int ((8 * a1) + s8)), (6, .int (zmn 20 (v23 + v25)))] d_X8_joins_140 (by decide) rfl ?_
                    refine zg_aload_n 1 rfl d_X8_joins_142 ?_
                    refine zg_getR d_X8_joins_143 zc_8 (by decide) fl_X8_84 (fun v32 => ?_)
                    refine zg_iload 0 rfl d_X8_joins_146 ?_
                    refine zg_bd (E := 158) (el := (fun (e33 : Int32) => [(0, .ref a0), (1, .int a1), (2, .int s1), (3, .int s8), (4, .int ((8 * a1) + s1)), (5, .int ((8 * a1) + s8)), (6, .int (zmn 20 (v23 + v25))), (7, .int e30)])) (es := (fun (e33 : Int32) => [.int e33, .ref v32])) ?_ (fun e33 h34 => ?_)
                    · refine zg_if_eq d_X8_joins_148 ?_ ?_
                      · refine zg_iload 6 rfl d_X8_joins_156 ?_
                        exact zg_finK (E := 0) [1, 2, 3, 4, 5, 6, 7, 0] rfl rfl (fun q => q)
                      · refine zg_iload 5 rfl d_X8_joins_151 ?_
                        refine zg_goto d_X8_joins_153 ?_
                        exact zg_finK (E := 0) [1, 2, 3, 4, 5, 6, 7, 0] rfl rfl (fun q => q)
                    · refine zg_iload 6 rfl d_X8_joins_158 ?_
                      refine zg_ast0 d_X8_joins_160 (fun h35 => ?_)
                      refine zg_aload_n 0 rfl d_X8_joins_161 ?_
                      refine zg_getR d_X8_joins_162 zc_8 (by decide) fl_X8_93 (fun v36 => ?_)
                      refine zg_iload 7 rfl d_X8_joins_165 ?_
                      refine zg_bd (E := 177) (el := (fun (e37 : Int32) => [(0, .ref a0), (1, .int a1), (2, .int s1), (3, .int s8), (4, .int ((8 * a1) + s1)), (5, .int ((8 * a1) + s8)), (6, .int (zmn 20 (v23 + v25))), (7, .int e30)])) (es := (fun (e37 : Int32) => [.int e37, .ref v36])) ?_ (fun e37 h38 => ?_)
                      · refine zg_if_eq d_X8_joins_167 ?_ ?_
                        · refine zg_iload 4 rfl d_X8_joins_175 ?_
                          exact zg_finK (E := 0) [0, 1, 2, 3, 4, 5, 6, 7] rfl rfl (fun q => q)
                        · refine zg_iload 5 rfl d_X8_joins_170 ?_
                          refine zg_goto d_X8_joins_172 ?_
                          exact zg_finK (E := 0) [0, 1, 2, 3, 4, 5, 6, 7] rfl rfl (fun q => q)
                      · refine zg_iconst 3 rfl d_X8_joins_177 ?_
                        refine zg_ast0 d_X8_joins_178 (fun h39 => ?_)
                        refine zg_iinc 3 (s8 + 1) [(3, .int (s8 + 1)), (0, .ref a0), (1, .int a1), (2, .int s1), (4, .int ((8 * a1) + s1)), (5, .int ((8 * a1) + s8)), (6, .int (zmn 20 (v23 + v25))), (7, .int e30)] d_X8_joins_179 rfl rfl (by decide) rfl ?_
                        refine zg_goto d_X8_joins_182 ?_
                        exact zg_finK (E := 0) [1, 2, 3, 0] rfl rfl (fun q => q)
                · refine zg_goto d_X8_joins_77 ?_
                  refine zg_iinc 3 (s8 + 1) [(3, .int (s8 + 1)), (0, .ref a0), (1, .int a1), (2, .int s1)] d_X8_joins_179 rfl rfl (by decide) rfl ?_
                  refine zg_goto d_X8_joins_182 ?_
                  exact zg_finK (E := 0) [1, 2, 3, 0] rfl rfl (fun q => q)
        · refine zg_iinc 2 (s1 + 1) [(2, .int (s1 + 1)), (0, .ref a0), (1, .int a1), (3, .int e10)] d_X8_joins_185 rfl rfl (by decide) rfl ?_
          refine zg_goto d_X8_joins_188 ?_
          exact zg_finK (E := 0) [1, 2, 0] rfl rfl (fun q => q)
  · exact zg_vretK d_X8_joins_191 rfl ⟨Nat.le_of_ble_eq_true rfl, Nat.le_of_ble_eq_true rfl⟩ (fun q => q)
abbrev M_X8_windIn : zMt := (RX8, cX8_windIn, 2, 1, 60, (some .int), "windIn", 0, 0)
theorem d_X8_windIn_0 : zDc M_X8_windIn 0 (.aload_n 0) 1 1 := ⟨by decide +kernel, rfl⟩
theorem d_X8_windIn_1 : zDc M_X8_windIn 1 (.getfield 343) 3 4 := ⟨by decide +kernel, rfl⟩
theorem d_X8_windIn_4 : zDc M_X8_windIn 4 (.iconst 1) 1 5 := ⟨by decide +kernel, rfl⟩
theorem d_X8_windIn_5 : zDj M_X8_windIn 5 (.if_icmp .ne 5) 5 8 10 := ⟨by decide +kernel, rfl, by decide⟩
theorem d_X8_windIn_8 : zDc M_X8_windIn 8 (.iconst 0) 1 9 := ⟨by decide +kernel, rfl⟩
theorem d_X8_windIn_9 : zDc M_X8_windIn 9 (.ireturn) 1 10 := ⟨by decide +kernel, rfl⟩
theorem d_X8_windIn_10 : zDc M_X8_windIn 10 (.aload_n 0) 1 11 := ⟨by decide +kernel, rfl⟩
theorem d_X8_windIn_11 : zDc M_X8_windIn 11 (.getfield 111) 3 14 := ⟨by decide +kernel, rfl⟩
theorem d_X8_windIn_14 : zDc M_X8_windIn 14 (.iconst (-1)) 1 15 := ⟨by decide +kernel, rfl⟩
theorem d_X8_windIn_15 : zDj M_X8_windIn 15 (.if_icmp .eq 8) 8 18 23 := ⟨by decide +kernel, rfl, by decide⟩
theorem d_X8_windIn_18 : zDc M_X8_windIn 18 (.aload_n 0) 1 19 := ⟨by decide +kernel, rfl⟩
theorem d_X8_windIn_19 : zDc M_X8_windIn 19 (.getfield 111) 3 22 := ⟨by decide +kernel, rfl⟩
theorem d_X8_windIn_22 : zDc M_X8_windIn 22 (.ireturn) 1 23 := ⟨by decide +kernel, rfl⟩
theorem d_X8_windIn_23 : zDc M_X8_windIn 23 (.aload_n 0) 1 24 := ⟨by decide +kernel, rfl⟩
theorem d_X8_windIn_24 : zDc M_X8_windIn 24 (.getfield 78) 3 27 := ⟨by decide +kernel, rfl⟩
theorem d_X8_windIn_27 : zDc M_X8_windIn 27 (.iload_n 1) 1 28 := ⟨by decide +kernel, rfl⟩
theorem d_X8_windIn_28 : zDc M_X8_windIn 28 (.iaload) 1 29 := ⟨by decide +kernel, rfl⟩
theorem d_X8_windIn_29 : zDc M_X8_windIn 29 (.iconst (-1)) 1 30 := ⟨by decide +kernel, rfl⟩
theorem d_X8_windIn_30 : zDj M_X8_windIn 30 (.if_icmp .eq 10) 10 33 40 := ⟨by decide +kernel, rfl, by decide⟩
theorem d_X8_windIn_33 : zDc M_X8_windIn 33 (.aload_n 0) 1 34 := ⟨by decide +kernel, rfl⟩
theorem d_X8_windIn_34 : zDc M_X8_windIn 34 (.getfield 78) 3 37 := ⟨by decide +kernel, rfl⟩
theorem d_X8_windIn_37 : zDc M_X8_windIn 37 (.iload_n 1) 1 38 := ⟨by decide +kernel, rfl⟩
theorem d_X8_windIn_38 : zDc M_X8_windIn 38 (.iaload) 1 39 := ⟨by decide +kernel, rfl⟩
theorem d_X8_windIn_39 : zDc M_X8_windIn 39 (.ireturn) 1 40 := ⟨by decide +kernel, rfl⟩
theorem d_X8_windIn_40 : zDc M_X8_windIn 40 (.aload_n 0) 1 41 := ⟨by decide +kernel, rfl⟩
theorem d_X8_windIn_41 : zDc M_X8_windIn 41 (.getfield 13) 3 44 := ⟨by decide +kernel, rfl⟩
theorem d_X8_windIn_44 : zDc M_X8_windIn 44 (.iconst 3) 1 45 := ⟨by decide +kernel, rfl⟩
theorem d_X8_windIn_45 : zDc M_X8_windIn 45 (.iaload) 1 46 := ⟨by decide +kernel, rfl⟩
theorem d_X8_windIn_46 : zDj M_X8_windIn 46 (.ifCond .ne 7) 7 49 53 := ⟨by decide +kernel, rfl, by decide⟩
theorem d_X8_windIn_49 : zDc M_X8_windIn 49 (.iconst 0) 1 50 := ⟨by decide +kernel, rfl⟩
theorem d_X8_windIn_50 : zDj M_X8_windIn 50 (.goto 21) 21 53 71 := ⟨by decide +kernel, rfl, by decide⟩
theorem d_X8_windIn_53 : zDc M_X8_windIn 53 (.aload_n 0) 1 54 := ⟨by decide +kernel, rfl⟩
theorem d_X8_windIn_54 : zDc M_X8_windIn 54 (.getfield 49) 3 57 := ⟨by decide +kernel, rfl⟩
theorem d_X8_windIn_57 : zDc M_X8_windIn 57 (.aload_n 0) 1 58 := ⟨by decide +kernel, rfl⟩
theorem d_X8_windIn_58 : zDc M_X8_windIn 58 (.getfield 75) 3 61 := ⟨by decide +kernel, rfl⟩
theorem d_X8_windIn_61 : zDc M_X8_windIn 61 (.iload_n 1) 1 62 := ⟨by decide +kernel, rfl⟩
theorem d_X8_windIn_62 : zDc M_X8_windIn 62 (.iaload) 1 63 := ⟨by decide +kernel, rfl⟩
theorem d_X8_windIn_63 : zDc M_X8_windIn 63 (.aload_n 0) 1 64 := ⟨by decide +kernel, rfl⟩
theorem d_X8_windIn_64 : zDc M_X8_windIn 64 (.getfield 13) 3 67 := ⟨by decide +kernel, rfl⟩
theorem d_X8_windIn_67 : zDc M_X8_windIn 67 (.iconst 3) 1 68 := ⟨by decide +kernel, rfl⟩
theorem d_X8_windIn_68 : zDc M_X8_windIn 68 (.iaload) 1 69 := ⟨by decide +kernel, rfl⟩
theorem d_X8_windIn_69 : zDc M_X8_windIn 69 (.irem) 1 70 := ⟨by decide +kernel, rfl⟩
theorem d_X8_windIn_70 : zDc M_X8_windIn 70 (.iaload) 1 71 := ⟨by decide +kernel, rfl⟩
theorem d_X8_windIn_71 : zDc M_X8_windIn 71 (.ireturn) 1 72 := ⟨by decide +kernel, rfl⟩
def f_X8_windIn (a0 : Nat) (a1 : Int32) (h0 : zHp) : Option (Int32 × zHp) :=
  zob (zgI h0 a0 8 49) (fun v1 =>
  if v1 = 1 then
  some (0, h0)
  else
  zob (zgI h0 a0 8 51) (fun v2 =>
  if v2 = (-1) then
  zob (zgR h0 a0 8 37) (fun v3 =>
  zob (zaI 0 h0 v3 a1) (fun v4 =>
  if v4 = (-1) then
  zob (zgR h0 a0 8 3) (fun v5 =>
  zob (zaI 0 h0 v5 3) (fun v6 =>
  if v6 = 0 then
  some (0, h0)
  else
  zob (zgR h0 a0 8 15) (fun v7 =>
  zob (zgR h0 a0 8 36) (fun v8 =>
  zob (zaI 0 h0 v8 a1) (fun v9 =>
  zob (zgR h0 a0 8 3) (fun v10 =>
  zob (zaI 0 h0 v10 3) (fun v11 =>
  zob (zrp v9 v11) (fun v12 =>
  zob (zaI 0 h0 v7 v12) (fun v13 =>
  some (v13, h0))))))))))
  else
  zob (zgR h0 a0 8 37) (fun v14 =>
  zob (zaI 0 h0 v14 a1) (fun v15 =>
  some (v15, h0)))))
  else
  zob (zgI h0 a0 8 51) (fun v16 =>
  some (v16, h0))))
set_option maxRecDepth 100000 in
set_option maxHeartbeats 4000000 in
theorem t_X8_windIn (a0 : Nat) (a1 : Int32) (h0 : zHp) : ∀ (r : Int32) (h' : zHp), f_X8_windIn a0 a1 h0 = some (r, h') → zCt yX8_windIn (.code yX8_windIn cX8_windIn 2 (some .int)) 1 60 0 0 [.ref a0, .int a1] h0 (some (.int r)) h' := by
  refine zct_of M_X8_windIn yX8_windIn (by decide) rfl rfl [.ref a0, .int a1] h0 (Nat.le_of_ble_eq_true rfl) (fun r => some (.int r)) (fun X => ?_)
  show zG X M_X8_windIn (0, 0) 0 [(0, .ref a0), (1, .int a1)] [] h0 (f_X8_windIn a0 a1 h0) (fun (r : Int32) h' => zKe X (some (.int r)) h')
  unfold f_X8_windIn
  refine zg_aload_n 0 rfl d_X8_windIn_0 ?_
  refine zg_getI d_X8_windIn_1 zc_8 (by decide) fl_X8_343 (fun v1 => ?_)
  refine zg_iconst 1 rfl d_X8_windIn_4 ?_
  refine zg_icmp_ne d_X8_windIn_5 ?_ ?_
  · refine zg_iconst 0 rfl d_X8_windIn_8 ?_
    exact zg_iretK d_X8_windIn_9 rfl ⟨Nat.le_of_ble_eq_true rfl, Nat.le_of_ble_eq_true rfl⟩ (fun q => q)
  · refine zg_aload_n 0 rfl d_X8_windIn_10 ?_
    refine zg_getI d_X8_windIn_11 zc_8 (by decide) fl_X8_111 (fun v2 => ?_)
    refine zg_iconst (-1) rfl d_X8_windIn_14 ?_
    refine zg_icmp_eq d_X8_windIn_15 ?_ ?_
    · refine zg_aload_n 0 rfl d_X8_windIn_23 ?_
      refine zg_getR d_X8_windIn_24 zc_8 (by decide) fl_X8_78 (fun v3 => ?_)
      refine zg_iload_n 1 rfl d_X8_windIn_27 ?_
      refine zg_ald0 d_X8_windIn_28 (fun v4 => ?_)
      refine zg_iconst (-1) rfl d_X8_windIn_29 ?_
      refine zg_icmp_eq d_X8_windIn_30 ?_ ?_
      · refine zg_aload_n 0 rfl d_X8_windIn_40 ?_
        refine zg_getR d_X8_windIn_41 zc_8 (by decide) fl_X8_13 (fun v5 => ?_)
        refine zg_iconst 3 rfl d_X8_windIn_44 ?_
        refine zg_ald0 d_X8_windIn_45 (fun v6 => ?_)
        refine zg_if_ne d_X8_windIn_46 ?_ ?_
        · refine zg_iconst 0 rfl d_X8_windIn_49 ?_
          refine zg_goto d_X8_windIn_50 ?_
          exact zg_iretK d_X8_windIn_71 rfl ⟨Nat.le_of_ble_eq_true rfl, Nat.le_of_ble_eq_true rfl⟩ (fun q => q)
        · refine zg_aload_n 0 rfl d_X8_windIn_53 ?_
          refine zg_getR d_X8_windIn_54 zc_8 (by decide) fl_X8_49 (fun v7 => ?_)
          refine zg_aload_n 0 rfl d_X8_windIn_57 ?_
          refine zg_getR d_X8_windIn_58 zc_8 (by decide) fl_X8_75 (fun v8 => ?_)
          refine zg_iload_n 1 rfl d_X8_windIn_61 ?_
          refine zg_ald0 d_X8_windIn_62 (fun v9 => ?_)
          refine zg_aload_n 0 rfl d_X8_windIn_63 ?_
          refine zg_getR d_X8_windIn_64 zc_8 (by decide) fl_X8_13 (fun v10 => ?_)
          refine zg_iconst 3 rfl d_X8_windIn_67 ?_
          refine zg_ald0 d_X8_windIn_68 (fun v11 => ?_)
          refine zg_iremP d_X8_windIn_69 (fun v12 => ?_)
          refine zg_ald0 d_X8_windIn_70 (fun v13 => ?_)
          exact zg_iretK d_X8_windIn_71 rfl ⟨Nat.le_of_ble_eq_true rfl, Nat.le_of_ble_eq_true rfl⟩ (fun q => q)
      · refine zg_aload_n 0 rfl d_X8_windIn_33 ?_
        refine zg_getR d_X8_windIn_34 zc_8 (by decide) fl_X8_78 (fun v14 => ?_)
        refine zg_iload_n 1 rfl d_X8_windIn_37 ?_
        refine zg_ald0 d_X8_windIn_38 (fun v15 => ?_)
        exact zg_iretK d_X8_windIn_39 rfl ⟨Nat.le_of_ble_eq_true rfl, Nat.le_of_ble_eq_true rfl⟩ (fun q => q)
    · refine zg_aload_n 0 rfl d_X8_windIn_18 ?_
      refine zg_getI d_X8_windIn_19 zc_8 (by decide) fl_X8_111 (fun v16 => ?_)
      exact zg_iretK d_X8_windIn_22 rfl ⟨Nat.le_of_ble_eq_true rfl, Nat.le_of_ble_eq_true rfl⟩ (fun q => q)

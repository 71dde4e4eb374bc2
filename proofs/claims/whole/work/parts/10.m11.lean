theorem ml_X7_324 : Cond.methodLink RX7 324 yX0_undoLatest ∈ zT := zw_of _ 1237 (by decide +kernel) (by decide +kernel)
theorem cd_X0_undoLatest : Cond.code yX0_undoLatest cX0_undoLatest 3 none ∈ zT := zw_of _ 1240 (by decide +kernel) (by decide +kernel)
theorem cw_X7_324 : zCw RX7 324 yX0_undoLatest cX0_undoLatest 3 none 1 := ⟨ml_X7_324, ni_X0, cd_X0_undoLatest, by decide, by decide, by decide +kernel⟩
theorem wi_X0_undoLatest : Cond.instanceMethod yX0_undoLatest ∈ zT := zw_of _ 1238 (by decide +kernel) (by decide +kernel)
theorem ws_X0_undoLatest : Cond.selects RX0 yX0_undoLatest yX0_undoLatest ∈ zT := zw_of _ 1239 (by decide +kernel) (by decide +kernel)
theorem fl_X7_268 : Cond.fieldLink RX7 268 (TX5 10).1 (TX5 10).2.1 (TX5 10).2.2.1 ∈ zT := zw_of _ 432 (by decide +kernel) (by decide +kernel)
theorem fl_X8_13 : Cond.fieldLink RX8 13 (TX8 3).1 (TX8 3).2.1 (TX8 3).2.2.1 ∈ zT := zw_of _ 1362 (by decide +kernel) (by decide +kernel)
theorem fl_X8_93 : Cond.fieldLink RX8 93 (TX8 42).1 (TX8 42).2.1 (TX8 42).2.2.1 ∈ zT := zw_of _ 1401 (by decide +kernel) (by decide +kernel)
theorem fl_X8_99 : Cond.fieldLink RX8 99 (TX8 44).1 (TX8 44).2.1 (TX8 44).2.2.1 ∈ zT := zw_of _ 1403 (by decide +kernel) (by decide +kernel)
theorem fl_X8_102 : Cond.fieldLink RX8 102 (TX8 45).1 (TX8 45).2.1 (TX8 45).2.2.1 ∈ zT := zw_of _ 1404 (by decide +kernel) (by decide +kernel)
theorem fl_X8_75 : Cond.fieldLink RX8 75 (TX8 36).1 (TX8 36).2.1 (TX8 36).2.2.1 ∈ zT := zw_of _ 1395 (by decide +kernel) (by decide +kernel)
theorem fl_X8_78 : Cond.fieldLink RX8 78 (TX8 37).1 (TX8 37).2.1 (TX8 37).2.2.1 ∈ zT := zw_of _ 1396 (by decide +kernel) (by decide +kernel)
theorem fl_X8_81 : Cond.fieldLink RX8 81 (TX8 38).1 (TX8 38).2.1 (TX8 38).2.2.1 ∈ zT := zw_of _ 1397 (by decide +kernel) (by decide +kernel)
theorem fl_X8_84 : Cond.fieldLink RX8 84 (TX8 39).1 (TX8 39).2.1 (TX8 39).2.2.1 ∈ zT := zw_of _ 1398 (by decide +kernel) (by decide +kernel)
theorem fl_X8_87 : Cond.fieldLink RX8 87 (TX8 40).1 (TX8 40).2.1 (TX8 40).2.2.1 ∈ zT := zw_of _ 1399 (by decide +kernel) (by decide +kernel)
theorem fl_X8_90 : Cond.fieldLink RX8 90 (TX8 41).1 (TX8 41).2.1 (TX8 41).2.2.1 ∈ zT := zw_of _ 1400 (by decide +kernel) (by decide +kernel)
theorem fl_X8_96 : Cond.fieldLink RX8 96 (TX8 43).1 (TX8 43).2.1 (TX8 43).2.2.1 ∈ zT := zw_of _ 1402 (by decide +kernel) (by decide +kernel)
theorem fl_X8_105 : Cond.fieldLink RX8 105 (TX8 46).1 (TX8 46).2.1 (TX8 46).2.2.1 ∈ zT := zw_of _ 1405 (by decide +kernel) (by decide +kernel)
theorem ml_X8_346 : Cond.methodLink RX8 346 Lib.Math.abs.name ∈ zT := zw_of _ 1765 (by decide +kernel) (by decide +kernel)
theorem ml_X8_348 : Cond.methodLink RX8 348 Lib.Math.max.name ∈ zT := zw_of _ 1766 (by decide +kernel) (by decide +kernel)
theorem fl_X8_343 : Cond.fieldLink RX8 343 (TX8 49).1 (TX8 49).2.1 (TX8 49).2.2.1 ∈ zT := zw_of _ 1408 (by decide +kernel) (by decide +kernel)
theorem fl_X8_16 : Cond.fieldLink RX8 16 (TX8 4).1 (TX8 4).2.1 (TX8 4).2.2.1 ∈ zT := zw_of _ 1363 (by decide +kernel) (by decide +kernel)
theorem fl_X8_108 : Cond.fieldLink RX8 108 (TX8 50).1 (TX8 50).2.1 (TX8 50).2.2.1 ∈ zT := zw_of _ 1409 (by decide +kernel) (by decide +kernel)
theorem ml_X8_351 : Cond.methodLink RX8 351 yX8_isUp ∈ zT := zw_of _ 1731 (by decide +kernel) (by decide +kernel)
theorem ni_X8 : Cond.initialized RX8 ∈ zT := zw_of _ 135 (by decide +kernel) (by decide +kernel)
theorem cd_X8_isUp : Cond.code yX8_isUp cX8_isUp 3 (some .boolean) ∈ zT := zw_of _ 1734 (by decide +kernel) (by decide +kernel)
theorem cw_X8_351 : zCw RX8 351 yX8_isUp cX8_isUp 3 (some .boolean) 2 := ⟨ml_X8_351, ni_X8, cd_X8_isUp, by decide, by decide, by decide +kernel⟩
theorem wi_X8_isUp : Cond.instanceMethod yX8_isUp ∈ zT := zw_of _ 1733 (by decide +kernel) (by decide +kernel)
theorem ws_X8_isUp : Cond.selects RX8 yX8_isUp yX8_isUp ∈ zT := zw_of _ 82 (by decide +kernel) (by decide +kernel)
theorem fl_X8_68 : Cond.fieldLink RX8 68 (TX8 33).1 (TX8 33).2.1 (TX8 33).2.2.1 ∈ zT := zw_of _ 1392 (by decide +kernel) (by decide +kernel)
theorem ml_X8_355 : Cond.methodLink RX8 355 yX8_groundIn ∈ zT := zw_of _ 1788 (by decide +kernel) (by decide +kernel)
theorem cd_X8_groundIn : Cond.code yX8_groundIn cX8_groundIn 2 (some .int) ∈ zT := zw_of _ 1791 (by decide +kernel) (by decide +kernel)
theorem cw_X8_355 : zCw RX8 355 yX8_groundIn cX8_groundIn 2 (some .int) 1 := ⟨ml_X8_355, ni_X8, cd_X8_groundIn, by decide, by decide, by decide +kernel⟩
theorem wi_X8_groundIn : Cond.instanceMethod yX8_groundIn ∈ zT := zw_of _ 1790 (by decide +kernel) (by decide +kernel)
theorem ws_X8_groundIn : Cond.selects RX8 yX8_groundIn yX8_groundIn ∈ zT := zw_of _ 89 (by decide +kernel) (by decide +kernel)
theorem kl_X8_358 : Cond.constantLong RX8 358 99 ∈ zT := zw_of _ 1792 (by decide +kernel) (by decide +kernel)
theorem ml_X8_360 : Cond.methodLink RX8 360 yX8_farOf ∈ zT := zw_of _ 1762 (by decide +kernel) (by decide +kernel)
theorem cd_X8_farOf : Cond.code yX8_farOf cX8_farOf 2 (some .int) ∈ zT := zw_of _ 1764 (by decide +kernel) (by decide +kernel)
theorem cw_X8_360 : zCw RX8 360 yX8_farOf cX8_farOf 2 (some .int) 2 := ⟨ml_X8_360, ni_X8, cd_X8_farOf, by decide, by decide, by decide +kernel⟩
theorem wt_X8_farOf : Cond.static yX8_farOf ∈ zT := zw_of _ 1763 (by decide +kernel) (by decide +kernel)
theorem ml_X8_363 : Cond.methodLink RX8 363 yX8_upMany ∈ zT := zw_of _ 1793 (by decide +kernel) (by decide +kernel)
theorem cd_X8_upMany : Cond.code yX8_upMany cX8_upMany 4 (some .int) ∈ zT := zw_of _ 1796 (by decide +kernel) (by decide +kernel)
theorem cw_X8_363 : zCw RX8 363 yX8_upMany cX8_upMany 4 (some .int) 1 := ⟨ml_X8_363, ni_X8, cd_X8_upMany, by decide, by decide, by decide +kernel⟩
theorem wi_X8_upMany : Cond.instanceMethod yX8_upMany ∈ zT := zw_of _ 1795 (by decide +kernel) (by decide +kernel)
theorem ws_X8_upMany : Cond.selects RX8 yX8_upMany yX8_upMany ∈ zT := zw_of _ 90 (by decide +kernel) (by decide +kernel)
theorem ml_X8_378 : Cond.methodLink RX8 378 yX8_isCell ∈ zT := zw_of _ 1751 (by decide +kernel) (by decide +kernel)
theorem cd_X8_isCell : Cond.code yX8_isCell cX8_isCell 2 (some .boolean) ∈ zT := zw_of _ 1753 (by decide +kernel) (by decide +kernel)
theorem cw_X8_378 : zCw RX8 378 yX8_isCell cX8_isCell 2 (some .boolean) 2 := ⟨ml_X8_378, ni_X8, cd_X8_isCell, by decide, by decide, by decide +kernel⟩
theorem wt_X8_isCell : Cond.static yX8_isCell ∈ zT := zw_of _ 1752 (by decide +kernel) (by decide +kernel)
abbrev M_X7_undo : zMt := (RX7, cX7_undo, 1, 2, 82, (some .int), "undo", 0, 0)
theorem d_X7_undo_0 : zDc M_X7_undo 0 (.aload_n 0) 1 1 := ⟨by decide +kernel, rfl⟩
theorem d_X7_undo_1 : zDc M_X7_undo 1 (.getfield 52) 3 4 := ⟨by decide +kernel, rfl⟩
theorem d_X7_undo_4 : zDc M_X7_undo 4 (.getfield 321) 3 7 := ⟨by decide +kernel, rfl⟩
theorem d_X7_undo_7 : zDj M_X7_undo 7 (.ifCond .ne 5) 5 10 12 := ⟨by decide +kernel, rfl, by decide⟩
theorem d_X7_undo_10 : zDc M_X7_undo 10 (.iconst (-1)) 1 11 := ⟨by decide +kernel, rfl⟩
theorem d_X7_undo_11 : zDc M_X7_undo 11 (.ireturn) 1 12 := ⟨by decide +kernel, rfl⟩
theorem d_X7_undo_12 : zDc M_X7_undo 12 (.aload_n 0) 1 13 := ⟨by decide +kernel, rfl⟩
theorem d_X7_undo_13 : zDc M_X7_undo 13 (.getfield 52) 3 16 := ⟨by decide +kernel, rfl⟩
theorem d_X7_undo_16 : zDc M_X7_undo 16 (.aload_n 0) 1 17 := ⟨by decide +kernel, rfl⟩
theorem d_X7_undo_17 : zDc M_X7_undo 17 (.getfield 38) 3 20 := ⟨by decide +kernel, rfl⟩
theorem d_X7_undo_20 : zDc M_X7_undo 20 (.invokevirtual 324) 3 23 := ⟨by decide +kernel, rfl⟩
theorem d_X7_undo_23 : zDc M_X7_undo 23 (.aload_n 0) 1 24 := ⟨by decide +kernel, rfl⟩
theorem d_X7_undo_24 : zDc M_X7_undo 24 (.getfield 52) 3 27 := ⟨by decide +kernel, rfl⟩
theorem d_X7_undo_27 : zDc M_X7_undo 27 (.getfield 321) 3 30 := ⟨by decide +kernel, rfl⟩
theorem d_X7_undo_30 : zDc M_X7_undo 30 (.ireturn) 1 31 := ⟨by decide +kernel, rfl⟩
def f_X7_undo (a0 : Nat) (h0 : zHp) : Option (Int32 × zHp) :=
  zob (zgR h0 a0 7 7) (fun v1 =>
  zob (zgI h0 v1 0 4) (fun v2 =>
  if v2 = 0 then
  some ((-1), h0)
  else
  zob (zgR h0 a0 7 7) (fun v3 =>
  zob (zgR h0 a0 7 4) (fun v4 =>
  zbd (zcv 0 v3 h0 (f_X0_undoLatest v3 v4 h0)) (fun v6 h5 =>
  zob (zgR h5 a0 7 7) (fun v7 =>
  zob (zgI h5 v7 0 4) (fun v8 =>
  some (v8, h5))))))))
set_option maxRecDepth 100000 in
set_option maxHeartbeats 4000000 in
theorem t_X7_undo (a0 : Nat) (h0 : zHp) : ∀ (r : Int32) (h' : zHp), f_X7_undo a0 h0 = some (r, h') → zCt yX7_undo (.code yX7_undo cX7_undo 1 (some .int)) 2 82 0 0 [.ref a0] h0 (some (.int r)) h' := by
  refine zct_of M_X7_undo yX7_undo (by decide) rfl rfl [.ref a0] h0 (Nat.le_of_ble_eq_true rfl) (fun r => some (.int r)) (fun X => ?_)
  show zG X M_X7_undo (0, 0) 0 [(0, .ref a0)] [] h0 (f_X7_undo a0 h0) (fun (r : Int32) h' => zKe X (some (.int r)) h')
  unfold f_X7_undo
  refine zg_aload_n 0 rfl d_X7_undo_0 ?_
  refine zg_getR d_X7_undo_1 zc_7 (by decide) fl_X7_52 (fun v1 => ?_)
  refine zg_getI d_X7_undo_4 zc_0 (by decide) fl_X7_321 (fun v2 => ?_)
  refine zg_if_ne d_X7_undo_7 ?_ ?_
  · refine zg_iconst (-1) rfl d_X7_undo_10 ?_
    exact zg_iretK d_X7_undo_11 rfl ⟨Nat.le_of_ble_eq_true rfl, Nat.le_of_ble_eq_true rfl⟩ (fun q => q)
  · refine zg_aload_n 0 rfl d_X7_undo_12 ?_
    refine zg_getR d_X7_undo_13 zc_7 (by decide) fl_X7_52 (fun v3 => ?_)
    refine zg_aload_n 0 rfl d_X7_undo_16 ?_
    refine zg_getR d_X7_undo_17 zc_7 (by decide) fl_X7_38 (fun v4 => ?_)
    refine zg_cVv (b := v3) (As := [.ref v4]) (rest := []) (0, 0) d_X7_undo_20 zc_0 rfl cw_X7_324 wi_X0_undoLatest ws_X0_undoLatest rfl rfl (Nat.le_of_ble_eq_true rfl) (by decide) (by decide) ⟨by decide, by decide⟩ rfl (t_X0_undoLatest v3 v4 h0) (fun v6 h5 => ?_)
    refine zg_aload_n 0 rfl d_X7_undo_23 ?_
    refine zg_getR d_X7_undo_24 zc_7 (by decide) fl_X7_52 (fun v7 => ?_)
    refine zg_getI d_X7_undo_27 zc_0 (by decide) fl_X7_321 (fun v8 => ?_)
    exact zg_iretK d_X7_undo_30 rfl ⟨Nat.le_of_ble_eq_true rfl, Nat.le_of_ble_eq_true rfl⟩ (fun q => q)
abbrev M_X7_whose : zMt := (RX7, cX7_whose, 5, 2, 81, (some .int), "whose", 0, 0)
theorem d_X7_whose_0 : zDc M_X7_whose 0 (.aload_n 0) 1 1 := ⟨by decide +kernel, rfl⟩
theorem d_X7_whose_1 : zDc M_X7_whose 1 (.iload_n 1) 1 2 := ⟨by decide +kernel, rfl⟩
theorem d_X7_whose_2 : zDc M_X7_whose 2 (.invokevirtual 168) 3 5 := ⟨by decide +kernel, rfl⟩
theorem d_X7_whose_5 : zDj M_X7_whose 5 (.ifCond .ne 5) 5 8 10 := ⟨by decide +kernel, rfl, by decide⟩
theorem d_X7_whose_8 : zDc M_X7_whose 8 (.iconst (-1)) 1 9 := ⟨by decide +kernel, rfl⟩
theorem d_X7_whose_9 : zDc M_X7_whose 9 (.ireturn) 1 10 := ⟨by decide +kernel, rfl⟩
theorem d_X7_whose_10 : zDc M_X7_whose 10 (.bipush (-2)) 2 12 := ⟨by decide +kernel, rfl⟩
theorem d_X7_whose_12 : zDc M_X7_whose 12 (.istore_n 2) 1 13 := ⟨by decide +kernel, rfl⟩
theorem d_X7_whose_13 : zDc M_X7_whose 13 (.iconst 0) 1 14 := ⟨by decide +kernel, rfl⟩
theorem d_X7_whose_14 : zDc M_X7_whose 14 (.istore_n 3) 1 15 := ⟨by decide +kernel, rfl⟩
theorem d_X7_whose_15 : zDc M_X7_whose 15 (.iconst 0) 1 16 := ⟨by decide +kernel, rfl⟩
theorem d_X7_whose_16 : zDc M_X7_whose 16 (.istore 4) 2 18 := ⟨by decide +kernel, rfl⟩
theorem d_X7_whose_18 : zDc M_X7_whose 18 (.iload 4) 2 20 := ⟨by decide +kernel, rfl⟩
theorem d_X7_whose_20 : zDc M_X7_whose 20 (.aload_n 0) 1 21 := ⟨by decide +kernel, rfl⟩
theorem d_X7_whose_21 : zDc M_X7_whose 21 (.getfield 29) 3 24 := ⟨by decide +kernel, rfl⟩
theorem d_X7_whose_24 : zDc M_X7_whose 24 (.getfield 115) 3 27 := ⟨by decide +kernel, rfl⟩
theorem d_X7_whose_27 : zDj M_X7_whose 27 (.if_icmp .ge 41) 41 30 68 := ⟨by decide +kernel, rfl, by decide⟩
theorem d_X7_whose_30 : zDc M_X7_whose 30 (.aload_n 0) 1 31 := ⟨by decide +kernel, rfl⟩
theorem d_X7_whose_31 : zDc M_X7_whose 31 (.getfield 38) 3 34 := ⟨by decide +kernel, rfl⟩
theorem d_X7_whose_34 : zDc M_X7_whose 34 (.getfield 268) 3 37 := ⟨by decide +kernel, rfl⟩
theorem d_X7_whose_37 : zDc M_X7_whose 37 (.iload 4) 2 39 := ⟨by decide +kernel, rfl⟩
theorem d_X7_whose_39 : zDc M_X7_whose 39 (.aaload) 1 40 := ⟨by decide +kernel, rfl⟩
theorem d_X7_whose_40 : zDc M_X7_whose 40 (.iload_n 1) 1 41 := ⟨by decide +kernel, rfl⟩
theorem d_X7_whose_41 : zDc M_X7_whose 41 (.iaload) 1 42 := ⟨by decide +kernel, rfl⟩
theorem d_X7_whose_42 : zDc M_X7_whose 42 (.iload_n 3) 1 43 := ⟨by decide +kernel, rfl⟩
theorem d_X7_whose_43 : zDj M_X7_whose 43 (.if_icmp .le 19) 19 46 62 := ⟨by decide +kernel, rfl, by decide⟩
theorem d_X7_whose_46 : zDc M_X7_whose 46 (.aload_n 0) 1 47 := ⟨by decide +kernel, rfl⟩
theorem d_X7_whose_47 : zDc M_X7_whose 47 (.getfield 38) 3 50 := ⟨by decide +kernel, rfl⟩
theorem d_X7_whose_50 : zDc M_X7_whose 50 (.getfield 268) 3 53 := ⟨by decide +kernel, rfl⟩
theorem d_X7_whose_53 : zDc M_X7_whose 53 (.iload 4) 2 55 := ⟨by decide +kernel, rfl⟩
theorem d_X7_whose_55 : zDc M_X7_whose 55 (.aaload) 1 56 := ⟨by decide +kernel, rfl⟩
theorem d_X7_whose_56 : zDc M_X7_whose 56 (.iload_n 1) 1 57 := ⟨by decide +kernel, rfl⟩
theorem d_X7_whose_57 : zDc M_X7_whose 57 (.iaload) 1 58 := ⟨by decide +kernel, rfl⟩
theorem d_X7_whose_58 : zDc M_X7_whose 58 (.istore_n 3) 1 59 := ⟨by decide +kernel, rfl⟩
theorem d_X7_whose_59 : zDc M_X7_whose 59 (.iload 4) 2 61 := ⟨by decide +kernel, rfl⟩
theorem d_X7_whose_61 : zDc M_X7_whose 61 (.istore_n 2) 1 62 := ⟨by decide +kernel, rfl⟩
theorem d_X7_whose_62 : zDc M_X7_whose 62 (.iinc 4 1) 3 65 := ⟨by decide +kernel, rfl⟩
theorem d_X7_whose_65 : zDj M_X7_whose 65 (.goto (-47)) (-47) 68 18 := ⟨by decide +kernel, rfl, by decide⟩
theorem d_X7_whose_68 : zDc M_X7_whose 68 (.iload_n 2) 1 69 := ⟨by decide +kernel, rfl⟩
theorem d_X7_whose_69 : zDc M_X7_whose 69 (.ireturn) 1 70 := ⟨by decide +kernel, rfl⟩
def f_X7_whose (a0 : Nat) (a1 : Int32) (h0 : zHp) : Option (Int32 × zHp) :=
  zbd (zcv 7 a0 h0 (f_X7_isField a0 a1 h0)) (fun v2 h1 =>
  if v2 = 0 then
  some ((-1), h1)
  else
  zbd (
  zlp (σ := (Int32 × Int32 × Int32)) (β := (Int32 × Int32 × Int32)) zLF (fun s3 h4 =>
  zob (zgR h4 a0 7 3) (fun v7 =>
  zob (zgI h4 v7 6 15) (fun v8 =>
  if v8 ≤ s3.2.2 then
  some ((.inr (s3.1, s3.2.1, s3.2.2)), h4)
  else
  zob (zgR h4 a0 7 4) (fun v9 =>
  zob (zgR h4 v9 5 10) (fun v10 =>
  zob (zaA 5 h4 v10 s3.2.2) (fun v11 =>
  zob (zaI 0 h4 v11 a1) (fun v12 =>
  if v12 ≤ s3.2.1 then
  some ((.inl (s3.1, s3.2.1, (s3.2.2 + 1))), h4)
  else
  zob (zgR h4 a0 7 4) (fun v13 =>
  zob (zgR h4 v13 5 10) (fun v14 =>
  zob (zaA 5 h4 v14 s3.2.2) (fun v15 =>
  zob (zaI 0 h4 v15 a1) (fun v16 =>
  some ((.inl (s3.2.2, v16, (s3.2.2 + 1))), h4)))))))))))) ((-2), 0, 0) h1) (fun e5 h6 =>
  some (e5.1, h6)))
set_option maxRecDepth 100000 in
set_option maxHeartbeats 4000000 in
theorem t_X7_whose (a0 : Nat) (a1 : Int32) (h0 : zHp) : ∀ (r : Int32) (h' : zHp), f_X7_whose a0 a1 h0 = some (r, h') → zCt yX7_whose (.code yX7_whose cX7_whose 5 (some .int)) 2 81 0 0 [.ref a0, .int a1] h0 (some (.int r)) h' := by
  refine zct_of M_X7_whose yX7_whose (by decide) rfl rfl [.ref a0, .int a1] h0 (Nat.le_of_ble_eq_true rfl) (fun r => some (.int r)) (fun X => ?_)
  show zG X M_X7_whose (0, 0) 0 [(0, .ref a0), (1, .int a1)] [] h0 (f_X7_whose a0 a1 h0) (fun (r : Int32) h' => zKe X (some (.int r)) h')
  unfold f_X7_whose
  refine zg_aload_n 0 rfl d_X7_whose_0 ?_
  refine zg_iload_n 1 rfl d_X7_whose_1 ?_
  refine zg_cVi (b := a0) (As := [.int a1]) (rest := []) (0, 0) d_X7_whose_2 zc_7 rfl cw_X7_168 wi_X7_isField ws_X7_isField rfl rfl (Nat.le_of_ble_eq_true rfl) (by decide) (by decide) ⟨by decide, by decide⟩ rfl (t_X7_isField a0 a1 h0) (fun v2 h1 => ?_)
  refine zg_if_ne d_X7_whose_5 ?_ ?_
  · refine zg_iconst (-1) rfl d_X7_whose_8 ?_
    exact zg_iretK d_X7_whose_9 rfl ⟨Nat.le_of_ble_eq_true rfl, Nat.le_of_ble_eq_true rfl⟩ (fun q => q)
  · refine zg_bipush (-2) rfl d_X7_whose_10 ?_
    refine zg_istore_n [(2, .int (-2)), (0, .ref a0), (1, .int a1)] d_X7_whose_12 rfl (by decide) rfl ?_
    refine zg_iconst 0 rfl d_X7_whose_13 ?_
    refine zg_istore_n [(3, .int 0), (2, .int (-2)), (0, .ref a0), (1, .int a1)] d_X7_whose_14 rfl (by decide) rfl ?_
    refine zg_iconst 0 rfl d_X7_whose_15 ?_
    refine zg_istore [(4, .int 0), (3, .int 0), (2, .int (-2)), (0, .ref a0), (1, .int a1)] d_X7_whose_16 (by decide) rfl ?_
    refine zg_bd (E := 68) (el := (fun (e5 : (Int32 × Int32 × Int32)) => [(0, .ref a0), (1, .int a1), (2, .int e5.1), (3, .int e5.2.1), (4, .int e5.2.2)])) (es := fun _ => []) (zg_sub [3, 4, 2, 1, 0] rfl (zg_lp (el := (fun (s3 : (Int32 × Int32 × Int32)) => [(0, .ref a0), (1, .int a1), (2, .int s3.1), (3, .int s3.2.1), (4, .int s3.2.2)])) (fun s3 h4 => ?_) ((-2), 0, 0) h1)) (fun e5 h6 => ?_)
    · refine zg_iload 4 rfl d_X7_whose_18 ?_
      refine zg_aload_n 0 rfl d_X7_whose_20 ?_
      refine zg_getR d_X7_whose_21 zc_7 (by decide) fl_X7_29 (fun v7 => ?_)
      refine zg_getI d_X7_whose_24 zc_6 (by decide) fl_X7_115 (fun v8 => ?_)
      refine zg_icmp_ge d_X7_whose_27 ?_ ?_
      · exact zg_finK (E := 0) [0, 1, 2, 3, 4] rfl rfl (fun q => q)
      · refine zg_aload_n 0 rfl d_X7_whose_30 ?_
        refine zg_getR d_X7_whose_31 zc_7 (by decide) fl_X7_38 (fun v9 => ?_)
        refine zg_getR d_X7_whose_34 zc_5 (by decide) fl_X7_268 (fun v10 => ?_)
        refine zg_iload 4 rfl d_X7_whose_37 ?_
        refine zg_ald5 d_X7_whose_39 (fun v11 => ?_)
        refine zg_iload_n 1 rfl d_X7_whose_40 ?_
        refine zg_ald0 d_X7_whose_41 (fun v12 => ?_)
        refine zg_iload_n 3 rfl d_X7_whose_42 ?_
        refine zg_icmp_le d_X7_whose_43 ?_ ?_
        · refine zg_iinc 4 (s3.2.2 + 1) [(4, .int (s3.2.2 + 1)), (0, .ref a0), (1, .int a1), (2, .int s3.1), (3, .int s3.2.1)] d_X7_whose_62 rfl rfl (by decide) rfl ?_
          refine zg_goto d_X7_whose_65 ?_
          exact zg_finK (E := 0) [1, 2, 3, 4, 0] rfl rfl (fun q => q)
        · refine zg_aload_n 0 rfl d_X7_whose_46 ?_
          refine zg_getR d_X7_whose_47 zc_7 (by decide) fl_X7_38 (fun v13 => ?_)
          refine zg_getR d_X7_whose_50 zc_5 (by decide) fl_X7_268 (fun v14 => ?_)
          refine zg_iload 4 rfl d_X7_whose_53 ?_
          refine zg_ald5 d_X7_whose_55 (fun v15 => ?_)
          refine zg_iload_n 1 rfl d_X7_whose_56 ?_
          refine zg_ald0 d_X7_whose_57 (fun v16 => ?_)
          refine zg_istore_n [(3, .int v16), (0, .ref a0), (1, .int a1), (2, .int s3.1), (4, .int s3.2.2)] d_X7_whose_58 rfl (by decide) rfl ?_
          refine zg_iload 4 rfl d_X7_whose_59 ?_
          refine zg_istore_n [(2, .int s3.2.2), (3, .int v16), (0, .ref a0), (1, .int a1), (4, .int s3.2.2)] d_X7_whose_61 rfl (by decide) rfl ?_
          refine zg_iinc 4 (s3.2.2 + 1) [(4, .int (s3.2.2 + 1)), (2, .int s3.2.2), (3, .int v16), (0, .ref a0), (1, .int a1)] d_X7_whose_62 rfl rfl (by decide) rfl ?_
          refine zg_goto d_X7_whose_65 ?_
          exact zg_finK (E := 0) [3, 4, 1, 2, 0] rfl rfl (fun q => q)
    · refine zg_iload_n 2 rfl d_X7_whose_68 ?_
      exact zg_iretK d_X7_whose_69 rfl ⟨Nat.le_of_ble_eq_true rfl, Nat.le_of_ble_eq_true rfl⟩ (fun q => q)
abbrev M_X8_howMany : zMt := (RX8, cX8_howMany, 5, 1, 60, (some .int), "howMany", 0, 0)
theorem d_X8_howMany_0 : zDc M_X8_howMany 0 (.iconst 0) 1 1 := ⟨by decide +kernel, rfl⟩
theorem d_X8_howMany_1 : zDc M_X8_howMany 1 (.istore_n 3) 1 2 := ⟨by decide +kernel, rfl⟩
theorem d_X8_howMany_2 : zDc M_X8_howMany 2 (.iconst 0) 1 3 := ⟨by decide +kernel, rfl⟩
theorem d_X8_howMany_3 : zDc M_X8_howMany 3 (.istore 4) 2 5 := ⟨by decide +kernel, rfl⟩
theorem d_X8_howMany_5 : zDc M_X8_howMany 5 (.iload 4) 2 7 := ⟨by decide +kernel, rfl⟩
theorem d_X8_howMany_7 : zDc M_X8_howMany 7 (.aload_n 0) 1 8 := ⟨by decide +kernel, rfl⟩
theorem d_X8_howMany_8 : zDc M_X8_howMany 8 (.getfield 13) 3 11 := ⟨by decide +kernel, rfl⟩
theorem d_X8_howMany_11 : zDc M_X8_howMany 11 (.iconst 1) 1 12 := ⟨by decide +kernel, rfl⟩
theorem d_X8_howMany_12 : zDc M_X8_howMany 12 (.iaload) 1 13 := ⟨by decide +kernel, rfl⟩
theorem d_X8_howMany_13 : zDj M_X8_howMany 13 (.if_icmp .ge 33) 33 16 46 := ⟨by decide +kernel, rfl, by decide⟩
theorem d_X8_howMany_16 : zDc M_X8_howMany 16 (.iload_n 3) 1 17 := ⟨by decide +kernel, rfl⟩
theorem d_X8_howMany_17 : zDc M_X8_howMany 17 (.aload_n 0) 1 18 := ⟨by decide +kernel, rfl⟩
theorem d_X8_howMany_18 : zDc M_X8_howMany 18 (.getfield 93) 3 21 := ⟨by decide +kernel, rfl⟩
theorem d_X8_howMany_21 : zDc M_X8_howMany 21 (.bipush 8) 2 23 := ⟨by decide +kernel, rfl⟩
theorem d_X8_howMany_23 : zDc M_X8_howMany 23 (.iload_n 1) 1 24 := ⟨by decide +kernel, rfl⟩
theorem d_X8_howMany_24 : zDc M_X8_howMany 24 (.imul) 1 25 := ⟨by decide +kernel, rfl⟩
theorem d_X8_howMany_25 : zDc M_X8_howMany 25 (.iload 4) 2 27 := ⟨by decide +kernel, rfl⟩
theorem d_X8_howMany_27 : zDc M_X8_howMany 27 (.iadd) 1 28 := ⟨by decide +kernel, rfl⟩
theorem d_X8_howMany_28 : zDc M_X8_howMany 28 (.iaload) 1 29 := ⟨by decide +kernel, rfl⟩
theorem d_X8_howMany_29 : zDc M_X8_howMany 29 (.iload_n 2) 1 30 := ⟨by decide +kernel, rfl⟩
theorem d_X8_howMany_30 : zDj M_X8_howMany 30 (.if_icmp .ne 7) 7 33 37 := ⟨by decide +kernel, rfl, by decide⟩
theorem d_X8_howMany_33 : zDc M_X8_howMany 33 (.iconst 1) 1 34 := ⟨by decide +kernel, rfl⟩
theorem d_X8_howMany_34 : zDj M_X8_howMany 34 (.goto 4) 4 37 38 := ⟨by decide +kernel, rfl, by decide⟩
theorem d_X8_howMany_37 : zDc M_X8_howMany 37 (.iconst 0) 1 38 := ⟨by decide +kernel, rfl⟩
theorem d_X8_howMany_38 : zDc M_X8_howMany 38 (.iadd) 1 39 := ⟨by decide +kernel, rfl⟩
theorem d_X8_howMany_39 : zDc M_X8_howMany 39 (.istore_n 3) 1 40 := ⟨by decide +kernel, rfl⟩
theorem d_X8_howMany_40 : zDc M_X8_howMany 40 (.iinc 4 1) 3 43 := ⟨by decide +kernel, rfl⟩
theorem d_X8_howMany_43 : zDj M_X8_howMany 43 (.goto (-38)) (-38) 46 5 := ⟨by decide +kernel, rfl, by decide⟩
theorem d_X8_howMany_46 : zDc M_X8_howMany 46 (.iload_n 3) 1 47 := ⟨by decide +kernel, rfl⟩
theorem d_X8_howMany_47 : zDc M_X8_howMany 47 (.ireturn) 1 48 := ⟨by decide +kernel, rfl⟩
def f_X8_howMany (a0 : Nat) (a1 : Int32) (a2 : Int32) (h0 : zHp) : Option (Int32 × zHp) :=
  zbd (
  zlp (σ := (Int32 × Int32)) (β := (Int32 × Int32)) zLF (fun s1 h2 =>
  zob (zgR h2 a0 8 3) (fun v5 =>
  zob (zaI 0 h2 v5 1) (fun v6 =>
  if v6 ≤ s1.2 then
  some ((.inr (s1.1, s1.2)), h2)
  else
  zob (zgR h2 a0 8 42) (fun v7 =>
  zob (zaI 0 h2 v7 ((8 * a1) + s1.2)) (fun v8 =>
  if v8 = a2 then
  some ((.inl ((s1.1 + 1), (s1.2 + 1))), h2)
  else
  some ((.inl ((s1.1 + 0), (s1.2 + 1))), h2)))))) (0, 0) h0) (fun e3 h4 =>
  some (e3.1, h4))
set_option maxRecDepth 100000 in
set_option maxHeartbeats 4000000 in
theorem t_X8_howMany (a0 : Nat) (a1 : Int32) (a2 : Int32) (h0 : zHp) : ∀ (r : Int32) (h' : zHp), f_X8_howMany a0 a1 a2 h0 = some (r, h') → zCt yX8_howMany (.code yX8_howMany cX8_howMany 5 (some .int)) 1 60 0 0 [.ref a0, .int a1, .int a2] h0 (some (.int r)) h' := by
  refine zct_of M_X8_howMany yX8_howMany (by decide) rfl rfl [.ref a0, .int a1, .int a2] h0 (Nat.le_of_ble_eq_true rfl) (fun r => some (.int r)) (fun X => ?_)
  show zG X M_X8_howMany (0, 0) 0 [(0, .ref a0), (1, .int a1), (2, .int a2)] [] h0 (f_X8_howMany a0 a1 a2 h0) (fun (r : Int32) h' => zKe X (some (.int r)) h')
  unfold f_X8_howMany
  refine zg_iconst 0 rfl d_X8_howMany_0 ?_
  refine zg_istore_n [(3, .int 0), (0, .ref a0), (1, .int a1), (2, .int a2)] d_X8_howMany_1 rfl (by decide) rfl ?_
  refine zg_iconst 0 rfl d_X8_howMany_2 ?_
  refine zg_istore [(4, .int 0), (3, .int 0), (0, .ref a0), (1, .int a1), (2, .int a2)] d_X8_howMany_3 (by decide) rfl ?_
  refine zg_bd (E := 46) (el := (fun (e3 : (Int32 × Int32)) => [(0, .ref a0), (1, .int a1), (2, .int a2), (3, .int e3.1), (4, .int e3.2)])) (es := fun _ => []) (zg_sub [2, 3, 4, 1, 0] rfl (zg_lp (el := (fun (s1 : (Int32 × Int32)) => [(0, .ref a0), (1, .int a1), (2, .int a2), (3, .int s1.1), (4, .int s1.2)])) (fun s1 h2 => ?_) (0, 0) h0)) (fun e3 h4 => ?_)
  · refine zg_iload 4 rfl d_X8_howMany_5 ?_
    refine zg_aload_n 0 rfl d_X8_howMany_7 ?_
    refine zg_getR d_X8_howMany_8 zc_8 (by decide) fl_X8_13 (fun v5 => ?_)
    refine zg_iconst 1 rfl d_X8_howMany_11 ?_
    refine zg_ald0 d_X8_howMany_12 (fun v6 => ?_)
    refine zg_icmp_ge d_X8_howMany_13 ?_ ?_
    · exact zg_finK (E := 0) [0, 1, 2, 3, 4] rfl rfl (fun q => q)
    · refine zg_iload_n 3 rfl d_X8_howMany_16 ?_
      refine zg_aload_n 0 rfl d_X8_howMany_17 ?_
      refine zg_getR d_X8_howMany_18 zc_8 (by decide) fl_X8_93 (fun v7 => ?_)
      refine zg_bipush 8 rfl d_X8_howMany_21 ?_
      refine zg_iload_n 1 rfl d_X8_howMany_23 ?_
      refine zg_imul d_X8_howMany_24 ?_
      refine zg_iload 4 rfl d_X8_howMany_25 ?_
      refine zg_iadd d_X8_howMany_27 ?_
      refine zg_ald0 d_X8_howMany_28 (fun v8 => ?_)
      refine zg_iload_n 2 rfl d_X8_howMany_29 ?_
      refine zg_icmp_ne d_X8_howMany_30 ?_ ?_
      · refine zg_iconst 1 rfl d_X8_howMany_33 ?_
        refine zg_goto d_X8_howMany_34 ?_
        refine zg_iadd d_X8_howMany_38 ?_
        refine zg_istore_n [(3, .int (s1.1 + 1)), (0, .ref a0), (1, .int a1), (2, .int a2), (4, .int s1.2)] d_X8_howMany_39 rfl (by decide) rfl ?_
        refine zg_iinc 4 (s1.2 + 1) [(4, .int (s1.2 + 1)), (3, .int (s1.1 + 1)), (0, .ref a0), (1, .int a1), (2, .int a2)] d_X8_howMany_40 rfl rfl (by decide) rfl ?_
        refine zg_goto d_X8_howMany_43 ?_
        exact zg_finK (E := 0) [2, 3, 4, 1, 0] rfl rfl (fun q => q)
      · refine zg_iconst 0 rfl d_X8_howMany_37 ?_
        refine zg_iadd d_X8_howMany_38 ?_
        refine zg_istore_n [(3, .int (s1.1 + 0)), (0, .ref a0), (1, .int a1), (2, .int a2), (4, .int s1.2)] d_X8_howMany_39 rfl (by decide) rfl ?_
        refine zg_iinc 4 (s1.2 + 1) [(4, .int (s1.2 + 1)), (3, .int (s1.1 + 0)), (0, .ref a0), (1, .int a1), (2, .int a2)] d_X8_howMany_40 rfl rfl (by decide) rfl ?_
        refine zg_goto d_X8_howMany_43 ?_
        exact zg_finK (E := 0) [2, 3, 4, 1, 0] rfl rfl (fun q => q)
  · refine zg_iload_n 3 rfl d_X8_howMany_46 ?_
    exact zg_iretK d_X8_howMany_47 rfl ⟨Nat.le_of_ble_eq_true rfl, Nat.le_of_ble_eq_true rfl⟩ (fun q => q)
abbrev M_X8_marksAll : zMt := (RX8, cX8_marksAll, 4, 1, 60, (some .int), "marksAll", 0, 0)
theorem d_X8_marksAll_0 : zDc M_X8_marksAll 0 (.iconst 0) 1 1 := ⟨by decide +kernel, rfl⟩
theorem d_X8_marksAll_1 : zDc M_X8_marksAll 1 (.istore_n 2) 1 2 := ⟨by decide +kernel, rfl⟩
theorem d_X8_marksAll_2 : zDc M_X8_marksAll 2 (.iconst 0) 1 3 := ⟨by decide +kernel, rfl⟩
theorem d_X8_marksAll_3 : zDc M_X8_marksAll 3 (.istore_n 3) 1 4 := ⟨by decide +kernel, rfl⟩
theorem d_X8_marksAll_4 : zDc M_X8_marksAll 4 (.iload_n 3) 1 5 := ⟨by decide +kernel, rfl⟩
theorem d_X8_marksAll_5 : zDc M_X8_marksAll 5 (.aload_n 0) 1 6 := ⟨by decide +kernel, rfl⟩
theorem d_X8_marksAll_6 : zDc M_X8_marksAll 6 (.getfield 13) 3 9 := ⟨by decide +kernel, rfl⟩
theorem d_X8_marksAll_9 : zDc M_X8_marksAll 9 (.iconst 2) 1 10 := ⟨by decide +kernel, rfl⟩
theorem d_X8_marksAll_10 : zDc M_X8_marksAll 10 (.iaload) 1 11 := ⟨by decide +kernel, rfl⟩
theorem d_X8_marksAll_11 : zDj M_X8_marksAll 11 (.if_icmp .ge 23) 23 14 34 := ⟨by decide +kernel, rfl, by decide⟩
theorem d_X8_marksAll_14 : zDc M_X8_marksAll 14 (.iload_n 2) 1 15 := ⟨by decide +kernel, rfl⟩
theorem d_X8_marksAll_15 : zDc M_X8_marksAll 15 (.aload_n 0) 1 16 := ⟨by decide +kernel, rfl⟩
theorem d_X8_marksAll_16 : zDc M_X8_marksAll 16 (.getfield 99) 3 19 := ⟨by decide +kernel, rfl⟩
theorem d_X8_marksAll_19 : zDc M_X8_marksAll 19 (.bipush 6) 2 21 := ⟨by decide +kernel, rfl⟩
theorem d_X8_marksAll_21 : zDc M_X8_marksAll 21 (.iload_n 1) 1 22 := ⟨by decide +kernel, rfl⟩
theorem d_X8_marksAll_22 : zDc M_X8_marksAll 22 (.imul) 1 23 := ⟨by decide +kernel, rfl⟩
theorem d_X8_marksAll_23 : zDc M_X8_marksAll 23 (.iload_n 3) 1 24 := ⟨by decide +kernel, rfl⟩
theorem d_X8_marksAll_24 : zDc M_X8_marksAll 24 (.iadd) 1 25 := ⟨by decide +kernel, rfl⟩
theorem d_X8_marksAll_25 : zDc M_X8_marksAll 25 (.iaload) 1 26 := ⟨by decide +kernel, rfl⟩
theorem d_X8_marksAll_26 : zDc M_X8_marksAll 26 (.iadd) 1 27 := ⟨by decide +kernel, rfl⟩
theorem d_X8_marksAll_27 : zDc M_X8_marksAll 27 (.istore_n 2) 1 28 := ⟨by decide +kernel, rfl⟩
theorem d_X8_marksAll_28 : zDc M_X8_marksAll 28 (.iinc 3 1) 3 31 := ⟨by decide +kernel, rfl⟩
theorem d_X8_marksAll_31 : zDj M_X8_marksAll 31 (.goto (-27)) (-27) 34 4 := ⟨by decide +kernel, rfl, by decide⟩
theorem d_X8_marksAll_34 : zDc M_X8_marksAll 34 (.iload_n 2) 1 35 := ⟨by decide +kernel, rfl⟩
theorem d_X8_marksAll_35 : zDc M_X8_marksAll 35 (.ireturn) 1 36 := ⟨by decide +kernel, rfl⟩
def f_X8_marksAll (a0 : Nat) (a1 : Int32) (h0 : zHp) : Option (Int32 × zHp) :=
  zbd (
  zlp (σ := (Int32 × Int32)) (β := (Int32 × Int32)) zLF (fun s1 h2 =>
  zob (zgR h2 a0 8 3) (fun v5 =>
  zob (zaI 0 h2 v5 2) (fun v6 =>
  if v6 ≤ s1.2 then
  some ((.inr (s1.1, s1.2)), h2)
  else
  zob (zgR h2 a0 8 44) (fun v7 =>
  zob (zaI 0 h2 v7 ((6 * a1) + s1.2)) (fun v8 =>
  some ((.inl ((s1.1 + v8), (s1.2 + 1))), h2)))))) (0, 0) h0) (fun e3 h4 =>
  some (e3.1, h4))
set_option maxRecDepth 100000 in
set_option maxHeartbeats 4000000 in
theorem t_X8_marksAll (a0 : Nat) (a1 : Int32) (h0 : zHp) : ∀ (r : Int32) (h' : zHp), f_X8_marksAll a0 a1 h0 = some (r, h') → zCt yX8_marksAll (.code yX8_marksAll cX8_marksAll 4 (some .int)) 1 60 0 0 [.ref a0, .int a1] h0 (some (.int r)) h' := by
  refine zct_of M_X8_marksAll yX8_marksAll (by decide) rfl rfl [.ref a0, .int a1] h0 (Nat.le_of_ble_eq_true rfl) (fun r => some (.int r)) (fun X => ?_)
  show zG X M_X8_marksAll (0, 0) 0 [(0, .ref a0), (1, .int a1)] [] h0 (f_X8_marksAll a0 a1 h0) (fun (r : Int32) h' => zKe X (some (.int r)) h')
  unfold f_X8_marksAll
  refine zg_iconst 0 rfl d_X8_marksAll_0 ?_
  refine zg_istore_n [(2, .int 0), (0, .ref a0), (1, .int a1)] d_X8_marksAll_1 rfl (by decide) rfl ?_
  refine zg_iconst 0 rfl d_X8_marksAll_2 ?_
  refine zg_istore_n [(3, .int 0), (2, .int 0), (0, .ref a0), (1, .int a1)] d_X8_marksAll_3 rfl (by decide) rfl ?_
  refine zg_bd (E := 34) (el := (fun (e3 : (Int32 × Int32)) => [(0, .ref a0), (1, .int a1), (2, .int e3.1), (3, .int e3.2)])) (es := fun _ => []) (zg_sub [2, 3, 1, 0] rfl (zg_lp (el := (fun (s1 : (Int32 × Int32)) => [(0, .ref a0), (1, .int a1), (2, .int s1.1), (3, .int s1.2)])) (fun s1 h2 => ?_) (0, 0) h0)) (fun e3 h4 => ?_)
  · refine zg_iload_n 3 rfl d_X8_marksAll_4 ?_
    refine zg_aload_n 0 rfl d_X8_marksAll_5 ?_
    refine zg_getR d_X8_marksAll_6 zc_8 (by decide) fl_X8_13 (fun v5 => ?_)
    refine zg_iconst 2 rfl d_X8_marksAll_9 ?_
    refine zg_ald0 d_X8_marksAll_10 (fun v6 => ?_)
    refine zg_icmp_ge d_X8_marksAll_11 ?_ ?_
    · exact zg_finK (E := 0) [0, 1, 2, 3] rfl rfl (fun q => q)
    · refine zg_iload_n 2 rfl d_X8_marksAll_14 ?_
      refine zg_aload_n 0 rfl d_X8_marksAll_15 ?_
      refine zg_getR d_X8_marksAll_16 zc_8 (by decide) fl_X8_99 (fun v7 => ?_)
      refine zg_bipush 6 rfl d_X8_marksAll_19 ?_
      refine zg_iload_n 1 rfl d_X8_marksAll_21 ?_
      refine zg_imul d_X8_marksAll_22 ?_
      refine zg_iload_n 3 rfl d_X8_marksAll_23 ?_
      refine zg_iadd d_X8_marksAll_24 ?_
      refine zg_ald0 d_X8_marksAll_25 (fun v8 => ?_)
      refine zg_iadd d_X8_marksAll_26 ?_
      refine zg_istore_n [(2, .int (s1.1 + v8)), (0, .ref a0), (1, .int a1), (3, .int s1.2)] d_X8_marksAll_27 rfl (by decide) rfl ?_
      refine zg_iinc 3 (s1.2 + 1) [(3, .int (s1.2 + 1)), (2, .int (s1.1 + v8)), (0, .ref a0), (1, .int a1)] d_X8_marksAll_28 rfl rfl (by decide) rfl ?_
      refine zg_goto d_X8_marksAll_31 ?_
      exact zg_finK (E := 0) [2, 3, 1, 0] rfl rfl (fun q => q)
  · refine zg_iload_n 2 rfl d_X8_marksAll_34 ?_
    exact zg_iretK d_X8_marksAll_35 rfl ⟨Nat.le_of_ble_eq_true rfl, Nat.le_of_ble_eq_true rfl⟩ (fun q => q)
abbrev M_X8_rainAll : zMt := (RX8, cX8_rainAll, 4, 1, 60, (some .int), "rainAll", 0, 0)
theorem d_X8_rainAll_0 : zDc M_X8_rainAll 0 (.iconst 0) 1 1 := ⟨by decide +kernel, rfl⟩
theorem d_X8_rainAll_1 : zDc M_X8_rainAll 1 (.istore_n 2) 1 2 := ⟨by decide +kernel, rfl⟩
theorem d_X8_rainAll_2 : zDc M_X8_rainAll 2 (.iconst 0) 1 3 := ⟨by decide +kernel, rfl⟩
theorem d_X8_rainAll_3 : zDc M_X8_rainAll 3 (.istore_n 3) 1 4 := ⟨by decide +kernel, rfl⟩
theorem d_X8_rainAll_4 : zDc M_X8_rainAll 4 (.iload_n 3) 1 5 := ⟨by decide +kernel, rfl⟩
theorem d_X8_rainAll_5 : zDc M_X8_rainAll 5 (.aload_n 0) 1 6 := ⟨by decide +kernel, rfl⟩
theorem d_X8_rainAll_6 : zDc M_X8_rainAll 6 (.getfield 13) 3 9 := ⟨by decide +kernel, rfl⟩
theorem d_X8_rainAll_9 : zDc M_X8_rainAll 9 (.iconst 0) 1 10 := ⟨by decide +kernel, rfl⟩
theorem d_X8_rainAll_10 : zDc M_X8_rainAll 10 (.iaload) 1 11 := ⟨by decide +kernel, rfl⟩
theorem d_X8_rainAll_11 : zDj M_X8_rainAll 11 (.if_icmp .ge 22) 22 14 33 := ⟨by decide +kernel, rfl, by decide⟩
theorem d_X8_rainAll_14 : zDc M_X8_rainAll 14 (.iload_n 2) 1 15 := ⟨by decide +kernel, rfl⟩
theorem d_X8_rainAll_15 : zDc M_X8_rainAll 15 (.aload_n 0) 1 16 := ⟨by decide +kernel, rfl⟩
theorem d_X8_rainAll_16 : zDc M_X8_rainAll 16 (.getfield 102) 3 19 := ⟨by decide +kernel, rfl⟩
theorem d_X8_rainAll_19 : zDc M_X8_rainAll 19 (.iconst 5) 1 20 := ⟨by decide +kernel, rfl⟩
theorem d_X8_rainAll_20 : zDc M_X8_rainAll 20 (.iload_n 1) 1 21 := ⟨by decide +kernel, rfl⟩
theorem d_X8_rainAll_21 : zDc M_X8_rainAll 21 (.imul) 1 22 := ⟨by decide +kernel, rfl⟩
theorem d_X8_rainAll_22 : zDc M_X8_rainAll 22 (.iload_n 3) 1 23 := ⟨by decide +kernel, rfl⟩
theorem d_X8_rainAll_23 : zDc M_X8_rainAll 23 (.iadd) 1 24 := ⟨by decide +kernel, rfl⟩
theorem d_X8_rainAll_24 : zDc M_X8_rainAll 24 (.iaload) 1 25 := ⟨by decide +kernel, rfl⟩
theorem d_X8_rainAll_25 : zDc M_X8_rainAll 25 (.iadd) 1 26 := ⟨by decide +kernel, rfl⟩
theorem d_X8_rainAll_26 : zDc M_X8_rainAll 26 (.istore_n 2) 1 27 := ⟨by decide +kernel, rfl⟩
theorem d_X8_rainAll_27 : zDc M_X8_rainAll 27 (.iinc 3 1) 3 30 := ⟨by decide +kernel, rfl⟩
theorem d_X8_rainAll_30 : zDj M_X8_rainAll 30 (.goto (-26)) (-26) 33 4 := ⟨by decide +kernel, rfl, by decide⟩
theorem d_X8_rainAll_33 : zDc M_X8_rainAll 33 (.iload_n 2) 1 34 := ⟨by decide +kernel, rfl⟩
theorem d_X8_rainAll_34 : zDc M_X8_rainAll 34 (.ireturn) 1 35 := ⟨by decide +kernel, rfl⟩
def f_X8_rainAll (a0 : Nat) (a1 : Int32) (h0 : zHp) : Option (Int32 × zHp) :=
  zbd (
  zlp (σ := (Int32 × Int32)) (β := (Int32 × Int32)) zLF (fun s1 h2 =>
  zob (zgR h2 a0 8 3) (fun v5 =>
  zob (zaI 0 h2 v5 0) (fun v6 =>
  if v6 ≤ s1.2 then
  some ((.inr (s1.1, s1.2)), h2)
  else
  zob (zgR h2 a0 8 45) (fun v7 =>
  zob (zaI 0 h2 v7 ((5 * a1) + s1.2)) (fun v8 =>
  some ((.inl ((s1.1 + v8), (s1.2 + 1))), h2)))))) (0, 0) h0) (fun e3 h4 =>
  some (e3.1, h4))
set_option maxRecDepth 100000 in
set_option maxHeartbeats 4000000 in
theorem t_X8_rainAll (a0 : Nat) (a1 : Int32) (h0 : zHp) : ∀ (r : Int32) (h' : zHp), f_X8_rainAll a0 a1 h0 = some (r, h') → zCt yX8_rainAll (.code yX8_rainAll cX8_rainAll 4 (some .int)) 1 60 0 0 [.ref a0, .int a1] h0 (some (.int r)) h' := by
  refine zct_of M_X8_rainAll yX8_rainAll (by decide) rfl rfl [.ref a0, .int a1] h0 (Nat.le_of_ble_eq_true rfl) (fun r => some (.int r)) (fun X => ?_)
  show zG X M_X8_rainAll (0, 0) 0 [(0, .ref a0), (1, .int a1)] [] h0 (f_X8_rainAll a0 a1 h0) (fun (r : Int32) h' => zKe X (some (.int r)) h')
  unfold f_X8_rainAll
  refine zg_iconst 0 rfl d_X8_rainAll_0 ?_
  refine zg_istore_n [(2, .int 0), (0, .ref a0), (1, .int a1)] d_X8_rainAll_1 rfl (by decide) rfl ?_
  refine zg_iconst 0 rfl d_X8_rainAll_2 ?_
  refine zg_istore_n [(3, .int 0), (2, .int 0), (0, .ref a0), (1, .int a1)] d_X8_rainAll_3 rfl (by decide) rfl ?_
  refine zg_bd (E := 33) (el := (fun (e3 : (Int32 × Int32)) => [(0, .ref a0), (1, .int a1), (2, .int e3.1), (3, .int e3.2)])) (es := fun _ => []) (zg_sub [2, 3, 1, 0] rfl (zg_lp (el := (fun (s1 : (Int32 × Int32)) => [(0, .ref a0), (1, .int a1), (2, .int s1.1), (3, .int s1.2)])) (fun s1 h2 => ?_) (0, 0) h0)) (fun e3 h4 => ?_)
  · refine zg_iload_n 3 rfl d_X8_rainAll_4 ?_
    refine zg_aload_n 0 rfl d_X8_rainAll_5 ?_
    refine zg_getR d_X8_rainAll_6 zc_8 (by decide) fl_X8_13 (fun v5 => ?_)
    refine zg_iconst 0 rfl d_X8_rainAll_9 ?_
    refine zg_ald0 d_X8_rainAll_10 (fun v6 => ?_)
    refine zg_icmp_ge d_X8_rainAll_11 ?_ ?_
    · exact zg_finK (E := 0) [0, 1, 2, 3] rfl rfl (fun q => q)
    · refine zg_iload_n 2 rfl d_X8_rainAll_14 ?_
      refine zg_aload_n 0 rfl d_X8_rainAll_15 ?_
      refine zg_getR d_X8_rainAll_16 zc_8 (by decide) fl_X8_102 (fun v7 => ?_)
      refine zg_iconst 5 rfl d_X8_rainAll_19 ?_
      refine zg_iload_n 1 rfl d_X8_rainAll_20 ?_
      refine zg_imul d_X8_rainAll_21 ?_
      refine zg_iload_n 3 rfl d_X8_rainAll_22 ?_
      refine zg_iadd d_X8_rainAll_23 ?_
      refine zg_ald0 d_X8_rainAll_24 (fun v8 => ?_)
      refine zg_iadd d_X8_rainAll_25 ?_
      refine zg_istore_n [(2, .int (s1.1 + v8)), (0, .ref a0), (1, .int a1), (3, .int s1.2)] d_X8_rainAll_26 rfl (by decide) rfl ?_
      refine zg_iinc 3 (s1.2 + 1) [(3, .int (s1.2 + 1)), (2, .int (s1.1 + v8)), (0, .ref a0), (1, .int a1)] d_X8_rainAll_27 rfl rfl (by decide) rfl ?_
      refine zg_goto d_X8_rainAll_30 ?_
      exact zg_finK (E := 0) [2, 3, 1, 0] rfl rfl (fun q => q)
  · refine zg_iload_n 2 rfl d_X8_rainAll_33 ?_
    exact zg_iretK d_X8_rainAll_34 rfl ⟨Nat.le_of_ble_eq_true rfl, Nat.le_of_ble_eq_true rfl⟩ (fun q => q)
abbrev M_X8_copies : zMt := (RX8, cX8_copies, 6, 1, 60, none, "copies", 0, 0)
theorem d_X8_copies_0 : zDc M_X8_copies 0 (.aload_n 0) 1 1 := ⟨by decide +kernel, rfl⟩
theorem d_X8_copies_1 : zDc M_X8_copies 1 (.getfield 75) 3 4 := ⟨by decide +kernel, rfl⟩
theorem d_X8_copies_4 : zDc M_X8_copies 4 (.iload_n 1) 1 5 := ⟨by decide +kernel, rfl⟩
theorem d_X8_copies_5 : zDc M_X8_copies 5 (.aload_n 0) 1 6 := ⟨by decide +kernel, rfl⟩
theorem d_X8_copies_6 : zDc M_X8_copies 6 (.getfield 75) 3 9 := ⟨by decide +kernel, rfl⟩
theorem d_X8_copies_9 : zDc M_X8_copies 9 (.iload_n 2) 1 10 := ⟨by decide +kernel, rfl⟩
theorem d_X8_copies_10 : zDc M_X8_copies 10 (.iaload) 1 11 := ⟨by decide +kernel, rfl⟩
theorem d_X8_copies_11 : zDc M_X8_copies 11 (.iastore) 1 12 := ⟨by decide +kernel, rfl⟩
theorem d_X8_copies_12 : zDc M_X8_copies 12 (.aload_n 0) 1 13 := ⟨by decide +kernel, rfl⟩
theorem d_X8_copies_13 : zDc M_X8_copies 13 (.getfield 78) 3 16 := ⟨by decide +kernel, rfl⟩
theorem d_X8_copies_16 : zDc M_X8_copies 16 (.iload_n 1) 1 17 := ⟨by decide +kernel, rfl⟩
theorem d_X8_copies_17 : zDc M_X8_copies 17 (.aload_n 0) 1 18 := ⟨by decide +kernel, rfl⟩
theorem d_X8_copies_18 : zDc M_X8_copies 18 (.getfield 78) 3 21 := ⟨by decide +kernel, rfl⟩
theorem d_X8_copies_21 : zDc M_X8_copies 21 (.iload_n 2) 1 22 := ⟨by decide +kernel, rfl⟩
theorem d_X8_copies_22 : zDc M_X8_copies 22 (.iaload) 1 23 := ⟨by decide +kernel, rfl⟩
theorem d_X8_copies_23 : zDc M_X8_copies 23 (.iastore) 1 24 := ⟨by decide +kernel, rfl⟩
theorem d_X8_copies_24 : zDc M_X8_copies 24 (.iconst 0) 1 25 := ⟨by decide +kernel, rfl⟩
theorem d_X8_copies_25 : zDc M_X8_copies 25 (.istore_n 3) 1 26 := ⟨by decide +kernel, rfl⟩
theorem d_X8_copies_26 : zDc M_X8_copies 26 (.iload_n 3) 1 27 := ⟨by decide +kernel, rfl⟩
theorem d_X8_copies_27 : zDc M_X8_copies 27 (.bipush 8) 2 29 := ⟨by decide +kernel, rfl⟩
theorem d_X8_copies_29 : zDj M_X8_copies 29 (.if_icmp .ge 95) 95 32 124 := ⟨by decide +kernel, rfl, by decide⟩
theorem d_X8_copies_32 : zDc M_X8_copies 32 (.bipush 8) 2 34 := ⟨by decide +kernel, rfl⟩
theorem d_X8_copies_34 : zDc M_X8_copies 34 (.iload_n 1) 1 35 := ⟨by decide +kernel, rfl⟩
theorem d_X8_copies_35 : zDc M_X8_copies 35 (.imul) 1 36 := ⟨by decide +kernel, rfl⟩
theorem d_X8_copies_36 : zDc M_X8_copies 36 (.iload_n 3) 1 37 := ⟨by decide +kernel, rfl⟩
theorem d_X8_copies_37 : zDc M_X8_copies 37 (.iadd) 1 38 := ⟨by decide +kernel, rfl⟩
theorem d_X8_copies_38 : zDc M_X8_copies 38 (.istore 4) 2 40 := ⟨by decide +kernel, rfl⟩
theorem d_X8_copies_40 : zDc M_X8_copies 40 (.bipush 8) 2 42 := ⟨by decide +kernel, rfl⟩
theorem d_X8_copies_42 : zDc M_X8_copies 42 (.iload_n 2) 1 43 := ⟨by decide +kernel, rfl⟩
theorem d_X8_copies_43 : zDc M_X8_copies 43 (.imul) 1 44 := ⟨by decide +kernel, rfl⟩
theorem d_X8_copies_44 : zDc M_X8_copies 44 (.iload_n 3) 1 45 := ⟨by decide +kernel, rfl⟩
theorem d_X8_copies_45 : zDc M_X8_copies 45 (.iadd) 1 46 := ⟨by decide +kernel, rfl⟩
theorem d_X8_copies_46 : zDc M_X8_copies 46 (.istore 5) 2 48 := ⟨by decide +kernel, rfl⟩
theorem d_X8_copies_48 : zDc M_X8_copies 48 (.aload_n 0) 1 49 := ⟨by decide +kernel, rfl⟩
theorem d_X8_copies_49 : zDc M_X8_copies 49 (.getfield 81) 3 52 := ⟨by decide +kernel, rfl⟩
theorem d_X8_copies_52 : zDc M_X8_copies 52 (.iload 4) 2 54 := ⟨by decide +kernel, rfl⟩
theorem d_X8_copies_54 : zDc M_X8_copies 54 (.aload_n 0) 1 55 := ⟨by decide +kernel, rfl⟩
theorem d_X8_copies_55 : zDc M_X8_copies 55 (.getfield 81) 3 58 := ⟨by decide +kernel, rfl⟩
theorem d_X8_copies_58 : zDc M_X8_copies 58 (.iload 5) 2 60 := ⟨by decide +kernel, rfl⟩
theorem d_X8_copies_60 : zDc M_X8_copies 60 (.iaload) 1 61 := ⟨by decide +kernel, rfl⟩
theorem d_X8_copies_61 : zDc M_X8_copies 61 (.iastore) 1 62 := ⟨by decide +kernel, rfl⟩
theorem d_X8_copies_62 : zDc M_X8_copies 62 (.aload_n 0) 1 63 := ⟨by decide +kernel, rfl⟩
theorem d_X8_copies_63 : zDc M_X8_copies 63 (.getfield 84) 3 66 := ⟨by decide +kernel, rfl⟩
theorem d_X8_copies_66 : zDc M_X8_copies 66 (.iload 4) 2 68 := ⟨by decide +kernel, rfl⟩
theorem d_X8_copies_68 : zDc M_X8_copies 68 (.aload_n 0) 1 69 := ⟨by decide +kernel, rfl⟩
theorem d_X8_copies_69 : zDc M_X8_copies 69 (.getfield 84) 3 72 := ⟨by decide +kernel, rfl⟩
theorem d_X8_copies_72 : zDc M_X8_copies 72 (.iload 5) 2 74 := ⟨by decide +kernel, rfl⟩
theorem d_X8_copies_74 : zDc M_X8_copies 74 (.iaload) 1 75 := ⟨by decide +kernel, rfl⟩
theorem d_X8_copies_75 : zDc M_X8_copies 75 (.iastore) 1 76 := ⟨by decide +kernel, rfl⟩
theorem d_X8_copies_76 : zDc M_X8_copies 76 (.aload_n 0) 1 77 := ⟨by decide +kernel, rfl⟩
theorem d_X8_copies_77 : zDc M_X8_copies 77 (.getfield 87) 3 80 := ⟨by decide +kernel, rfl⟩
theorem d_X8_copies_80 : zDc M_X8_copies 80 (.iload 4) 2 82 := ⟨by decide +kernel, rfl⟩
theorem d_X8_copies_82 : zDc M_X8_copies 82 (.aload_n 0) 1 83 := ⟨by decide +kernel, rfl⟩
theorem d_X8_copies_83 : zDc M_X8_copies 83 (.getfield 87) 3 86 := ⟨by decide +kernel, rfl⟩
theorem d_X8_copies_86 : zDc M_X8_copies 86 (.iload 5) 2 88 := ⟨by decide +kernel, rfl⟩
theorem d_X8_copies_88 : zDc M_X8_copies 88 (.iaload) 1 89 := ⟨by decide +kernel, rfl⟩
theorem d_X8_copies_89 : zDc M_X8_copies 89 (.iastore) 1 90 := ⟨by decide +kernel, rfl⟩
theorem d_X8_copies_90 : zDc M_X8_copies 90 (.aload_n 0) 1 91 := ⟨by decide +kernel, rfl⟩
theorem d_X8_copies_91 : zDc M_X8_copies 91 (.getfield 90) 3 94 := ⟨by decide +kernel, rfl⟩
theorem d_X8_copies_94 : zDc M_X8_copies 94 (.iload 4) 2 96 := ⟨by decide +kernel, rfl⟩
theorem d_X8_copies_96 : zDc M_X8_copies 96 (.aload_n 0) 1 97 := ⟨by decide +kernel, rfl⟩
theorem d_X8_copies_97 : zDc M_X8_copies 97 (.getfield 90) 3 100 := ⟨by decide +kernel, rfl⟩
theorem d_X8_copies_100 : zDc M_X8_copies 100 (.iload 5) 2 102 := ⟨by decide +kernel, rfl⟩
theorem d_X8_copies_102 : zDc M_X8_copies 102 (.iaload) 1 103 := ⟨by decide +kernel, rfl⟩
theorem d_X8_copies_103 : zDc M_X8_copies 103 (.iastore) 1 104 := ⟨by decide +kernel, rfl⟩
theorem d_X8_copies_104 : zDc M_X8_copies 104 (.aload_n 0) 1 105 := ⟨by decide +kernel, rfl⟩
theorem d_X8_copies_105 : zDc M_X8_copies 105 (.getfield 93) 3 108 := ⟨by decide +kernel, rfl⟩
theorem d_X8_copies_108 : zDc M_X8_copies 108 (.iload 4) 2 110 := ⟨by decide +kernel, rfl⟩
theorem d_X8_copies_110 : zDc M_X8_copies 110 (.aload_n 0) 1 111 := ⟨by decide +kernel, rfl⟩
theorem d_X8_copies_111 : zDc M_X8_copies 111 (.getfield 93) 3 114 := ⟨by decide +kernel, rfl⟩
theorem d_X8_copies_114 : zDc M_X8_copies 114 (.iload 5) 2 116 := ⟨by decide +kernel, rfl⟩
theorem d_X8_copies_116 : zDc M_X8_copies 116 (.iaload) 1 117 := ⟨by decide +kernel, rfl⟩
theorem d_X8_copies_117 : zDc M_X8_copies 117 (.iastore) 1 118 := ⟨by decide +kernel, rfl⟩
theorem d_X8_copies_118 : zDc M_X8_copies 118 (.iinc 3 1) 3 121 := ⟨by decide +kernel, rfl⟩
theorem d_X8_copies_121 : zDj M_X8_copies 121 (.goto (-95)) (-95) 124 26 := ⟨by decide +kernel, rfl, by decide⟩
theorem d_X8_copies_124 : zDc M_X8_copies 124 (.iconst 0) 1 125 := ⟨by decide +kernel, rfl⟩
theorem d_X8_copies_125 : zDc M_X8_copies 125 (.istore_n 3) 1 126 := ⟨by decide +kernel, rfl⟩
theorem d_X8_copies_126 : zDc M_X8_copies 126 (.iload_n 3) 1 127 := ⟨by decide +kernel, rfl⟩
theorem d_X8_copies_127 : zDc M_X8_copies 127 (.bipush 6) 2 129 := ⟨by decide +kernel, rfl⟩
theorem d_X8_copies_129 : zDj M_X8_copies 129 (.if_icmp .ge 53) 53 132 182 := ⟨by decide +kernel, rfl, by decide⟩
theorem d_X8_copies_132 : zDc M_X8_copies 132 (.aload_n 0) 1 133 := ⟨by decide +kernel, rfl⟩
theorem d_X8_copies_133 : zDc M_X8_copies 133 (.getfield 96) 3 136 := ⟨by decide +kernel, rfl⟩
theorem d_X8_copies_136 : zDc M_X8_copies 136 (.bipush 6) 2 138 := ⟨by decide +kernel, rfl⟩
theorem d_X8_copies_138 : zDc M_X8_copies 138 (.iload_n 1) 1 139 := ⟨by decide +kernel, rfl⟩
theorem d_X8_copies_139 : zDc M_X8_copies 139 (.imul) 1 140 := ⟨by decide +kernel, rfl⟩
theorem d_X8_copies_140 : zDc M_X8_copies 140 (.iload_n 3) 1 141 := ⟨by decide +kernel, rfl⟩
theorem d_X8_copies_141 : zDc M_X8_copies 141 (.iadd) 1 142 := ⟨by decide +kernel, rfl⟩
theorem d_X8_copies_142 : zDc M_X8_copies 142 (.aload_n 0) 1 143 := ⟨by decide +kernel, rfl⟩
theorem d_X8_copies_143 : zDc M_X8_copies 143 (.getfield 96) 3 146 := ⟨by decide +kernel, rfl⟩
theorem d_X8_copies_146 : zDc M_X8_copies 146 (.bipush 6) 2 148 := ⟨by decide +kernel, rfl⟩
theorem d_X8_copies_148 : zDc M_X8_copies 148 (.iload_n 2) 1 149 := ⟨by decide +kernel, rfl⟩
theorem d_X8_copies_149 : zDc M_X8_copies 149 (.imul) 1 150 := ⟨by decide +kernel, rfl⟩
theorem d_X8_copies_150 : zDc M_X8_copies 150 (.iload_n 3) 1 151 := ⟨by decide +kernel, rfl⟩
theorem d_X8_copies_151 : zDc M_X8_copies 151 (.iadd) 1 152 := ⟨by decide +kernel, rfl⟩
theorem d_X8_copies_152 : zDc M_X8_copies 152 (.iaload) 1 153 := ⟨by decide +kernel, rfl⟩
theorem d_X8_copies_153 : zDc M_X8_copies 153 (.iastore) 1 154 := ⟨by decide +kernel, rfl⟩
theorem d_X8_copies_154 : zDc M_X8_copies 154 (.aload_n 0) 1 155 := ⟨by decide +kernel, rfl⟩
theorem d_X8_copies_155 : zDc M_X8_copies 155 (.getfield 99) 3 158 := ⟨by decide +kernel, rfl⟩
theorem d_X8_copies_158 : zDc M_X8_copies 158 (.bipush 6) 2 160 := ⟨by decide +kernel, rfl⟩
theorem d_X8_copies_160 : zDc M_X8_copies 160 (.iload_n 1) 1 161 := ⟨by decide +kernel, rfl⟩
theorem d_X8_copies_161 : zDc M_X8_copies 161 (.imul) 1 162 := ⟨by decide +kernel, rfl⟩
theorem d_X8_copies_162 : zDc M_X8_copies 162 (.iload_n 3) 1 163 := ⟨by decide +kernel, rfl⟩
theorem d_X8_copies_163 : zDc M_X8_copies 163 (.iadd) 1 164 := ⟨by decide +kernel, rfl⟩
theorem d_X8_copies_164 : zDc M_X8_copies 164 (.aload_n 0) 1 165 := ⟨by decide +kernel, rfl⟩
theorem d_X8_copies_165 : zDc M_X8_copies 165 (.getfield 99) 3 168 := ⟨by decide +kernel, rfl⟩
theorem d_X8_copies_168 : zDc M_X8_copies 168 (.bipush 6) 2 170 := ⟨by decide +kernel, rfl⟩
theorem d_X8_copies_170 : zDc M_X8_copies 170 (.iload_n 2) 1 171 := ⟨by decide +kernel, rfl⟩
theorem d_X8_copies_171 : zDc M_X8_copies 171 (.imul) 1 172 := ⟨by decide +kernel, rfl⟩
theorem d_X8_copies_172 : zDc M_X8_copies 172 (.iload_n 3) 1 173 := ⟨by decide +kernel, rfl⟩
theorem d_X8_copies_173 : zDc M_X8_copies 173 (.iadd) 1 174 := ⟨by decide +kernel, rfl⟩
theorem d_X8_copies_174 : zDc M_X8_copies 174 (.iaload) 1 175 := ⟨by decide +kernel, rfl⟩
theorem d_X8_copies_175 : zDc M_X8_copies 175 (.iastore) 1 176 := ⟨by decide +kernel, rfl⟩
theorem d_X8_copies_176 : zDc M_X8_copies 176 (.iinc 3 1) 3 179 := ⟨by decide +kernel, rfl⟩
theorem d_X8_copies_179 : zDj M_X8_copies 179 (.goto (-53)) (-53) 182 126 := ⟨by decide +kernel, rfl, by decide⟩
theorem d_X8_copies_182 : zDc M_X8_copies 182 (.iconst 0) 1 183 := ⟨by decide +kernel, rfl⟩
theorem d_X8_copies_183 : zDc M_X8_copies 183 (.istore_n 3) 1 184 := ⟨by decide +kernel, rfl⟩
theorem d_X8_copies_184 : zDc M_X8_copies 184 (.iload_n 3) 1 185 := ⟨by decide +kernel, rfl⟩
theorem d_X8_copies_185 : zDc M_X8_copies 185 (.iconst 5) 1 186 := ⟨by decide +kernel, rfl⟩
theorem d_X8_copies_186 : zDj M_X8_copies 186 (.if_icmp .ge 29) 29 189 215 := ⟨by decide +kernel, rfl, by decide⟩
theorem d_X8_copies_189 : zDc M_X8_copies 189 (.aload_n 0) 1 190 := ⟨by decide +kernel, rfl⟩
theorem d_X8_copies_190 : zDc M_X8_copies 190 (.getfield 102) 3 193 := ⟨by decide +kernel, rfl⟩
theorem d_X8_copies_193 : zDc M_X8_copies 193 (.iconst 5) 1 194 := ⟨by decide +kernel, rfl⟩
theorem d_X8_copies_194 : zDc M_X8_copies 194 (.iload_n 1) 1 195 := ⟨by decide +kernel, rfl⟩
theorem d_X8_copies_195 : zDc M_X8_copies 195 (.imul) 1 196 := ⟨by decide +kernel, rfl⟩
theorem d_X8_copies_196 : zDc M_X8_copies 196 (.iload_n 3) 1 197 := ⟨by decide +kernel, rfl⟩
theorem d_X8_copies_197 : zDc M_X8_copies 197 (.iadd) 1 198 := ⟨by decide +kernel, rfl⟩
theorem d_X8_copies_198 : zDc M_X8_copies 198 (.aload_n 0) 1 199 := ⟨by decide +kernel, rfl⟩
theorem d_X8_copies_199 : zDc M_X8_copies 199 (.getfield 102) 3 202 := ⟨by decide +kernel, rfl⟩
theorem d_X8_copies_202 : zDc M_X8_copies 202 (.iconst 5) 1 203 := ⟨by decide +kernel, rfl⟩
theorem d_X8_copies_203 : zDc M_X8_copies 203 (.iload_n 2) 1 204 := ⟨by decide +kernel, rfl⟩
theorem d_X8_copies_204 : zDc M_X8_copies 204 (.imul) 1 205 := ⟨by decide +kernel, rfl⟩
theorem d_X8_copies_205 : zDc M_X8_copies 205 (.iload_n 3) 1 206 := ⟨by decide +kernel, rfl⟩
theorem d_X8_copies_206 : zDc M_X8_copies 206 (.iadd) 1 207 := ⟨by decide +kernel, rfl⟩
theorem d_X8_copies_207 : zDc M_X8_copies 207 (.iaload) 1 208 := ⟨by decide +kernel, rfl⟩
theorem d_X8_copies_208 : zDc M_X8_copies 208 (.iastore) 1 209 := ⟨by decide +kernel, rfl⟩
theorem d_X8_copies_209 : zDc M_X8_copies 209 (.iinc 3 1) 3 212 := ⟨by decide +kernel, rfl⟩
theorem d_X8_copies_212 : zDj M_X8_copies 212 (.goto (-28)) (-28) 215 184 := ⟨by decide +kernel, rfl, by decide⟩
theorem d_X8_copies_215 : zDc M_X8_copies 215 (.iconst 0) 1 216 := ⟨by decide +kernel, rfl⟩
theorem d_X8_copies_216 : zDc M_X8_copies 216 (.istore_n 3) 1 217 := ⟨by decide +kernel, rfl⟩
theorem d_X8_copies_217 : zDc M_X8_copies 217 (.iload_n 3) 1 218 := ⟨by decide +kernel, rfl⟩
theorem d_X8_copies_218 : zDc M_X8_copies 218 (.bipush 35) 2 220 := ⟨by decide +kernel, rfl⟩
theorem d_X8_copies_220 : zDj M_X8_copies 220 (.if_icmp .ge 31) 31 223 251 := ⟨by decide +kernel, rfl, by decide⟩
theorem d_X8_copies_223 : zDc M_X8_copies 223 (.aload_n 0) 1 224 := ⟨by decide +kernel, rfl⟩
theorem d_X8_copies_224 : zDc M_X8_copies 224 (.getfield 105) 3 227 := ⟨by decide +kernel, rfl⟩
theorem d_X8_copies_227 : zDc M_X8_copies 227 (.bipush 35) 2 229 := ⟨by decide +kernel, rfl⟩
theorem d_X8_copies_229 : zDc M_X8_copies 229 (.iload_n 1) 1 230 := ⟨by decide +kernel, rfl⟩
theorem d_X8_copies_230 : zDc M_X8_copies 230 (.imul) 1 231 := ⟨by decide +kernel, rfl⟩
theorem d_X8_copies_231 : zDc M_X8_copies 231 (.iload_n 3) 1 232 := ⟨by decide +kernel, rfl⟩
theorem d_X8_copies_232 : zDc M_X8_copies 232 (.iadd) 1 233 := ⟨by decide +kernel, rfl⟩
theorem d_X8_copies_233 : zDc M_X8_copies 233 (.aload_n 0) 1 234 := ⟨by decide +kernel, rfl⟩
theorem d_X8_copies_234 : zDc M_X8_copies 234 (.getfield 105) 3 237 := ⟨by decide +kernel, rfl⟩
theorem d_X8_copies_237 : zDc M_X8_copies 237 (.bipush 35) 2 239 := ⟨by decide +kernel, rfl⟩
theorem d_X8_copies_239 : zDc M_X8_copies 239 (.iload_n 2) 1 240 := ⟨by decide +kernel, rfl⟩
theorem d_X8_copies_240 : zDc M_X8_copies 240 (.imul) 1 241 := ⟨by decide +kernel, rfl⟩
theorem d_X8_copies_241 : zDc M_X8_copies 241 (.iload_n 3) 1 242 := ⟨by decide +kernel, rfl⟩
theorem d_X8_copies_242 : zDc M_X8_copies 242 (.iadd) 1 243 := ⟨by decide +kernel, rfl⟩
theorem d_X8_copies_243 : zDc M_X8_copies 243 (.iaload) 1 244 := ⟨by decide +kernel, rfl⟩
theorem d_X8_copies_244 : zDc M_X8_copies 244 (.iastore) 1 245 := ⟨by decide +kernel, rfl⟩
theorem d_X8_copies_245 : zDc M_X8_copies 245 (.iinc 3 1) 3 248 := ⟨by decide +kernel, rfl⟩
theorem d_X8_copies_248 : zDj M_X8_copies 248 (.goto (-31)) (-31) 251 217 := ⟨by decide +kernel, rfl, by decide⟩
theorem d_X8_copies_251 : zDc M_X8_copies 251 (.return_) 1 252 := ⟨by decide +kernel, rfl⟩
def f_X8_copies (a0 : Nat) (a1 : Int32) (a2 : Int32) (h0 : zHp) : Option (Unit × zHp) :=
  zob (zgR h0 a0 8 36) (fun v1 =>
  zob (zgR h0 a0 8 36) (fun v2 =>
  zob (zaI 0 h0 v2 a2) (fun v3 =>
  zob (zsI 0 h0 v1 a1 v3) (fun h4 =>
  zob (zgR h4 a0 8 37) (fun v5 =>
  zob (zgR h4 a0 8 37) (fun v6 =>
  zob (zaI 0 h4 v6 a2) (fun v7 =>
  zob (zsI 0 h4 v5 a1 v7) (fun h8 =>
  zbd (
  zlp (σ := Int32) (β := Int32) zLF (fun s9 h10 =>
  if 8 ≤ s9 then
  some ((.inr s9), h10)
  else
  zob (zgR h10 a0 8 38) (fun v13 =>
  zob (zgR h10 a0 8 38) (fun v14 =>
  zob (zaI 0 h10 v14 ((8 * a2) + s9)) (fun v15 =>
  zob (zsI 0 h10 v13 ((8 * a1) + s9) v15) (fun h16 =>
  zob (zgR h16 a0 8 39) (fun v17 =>
  zob (zgR h16 a0 8 39) (fun v18 =>
  zob (zaI 0 h16 v18 ((8 * a2) + s9)) (fun v19 =>
  zob (zsI 0 h16 v17 ((8 * a1) + s9) v19) (fun h20 =>
  zob (zgR h20 a0 8 40) (fun v21 =>
  zob (zgR h20 a0 8 40) (fun v22 =>
  zob (zaI 0 h20 v22 ((8 * a2) + s9)) (fun v23 =>
  zob (zsI 0 h20 v21 ((8 * a1) + s9) v23) (fun h24 =>
  zob (zgR h24 a0 8 41) (fun v25 =>
  zob (zgR h24 a0 8 41) (fun v26 =>
  zob (zaI 0 h24 v26 ((8 * a2) + s9)) (fun v27 =>
  zob (zsI 0 h24 v25 ((8 * a1) + s9) v27) (fun h28 =>
  zob (zgR h28 a0 8 42) (fun v29 =>
  zob (zgR h28 a0 8 42) (fun v30 =>
  zob (zaI 0 h28 v30 ((8 * a2) + s9)) (fun v31 =>
  zob (zsI 0 h28 v29 ((8 * a1) + s9) v31) (fun h32 =>
  some ((.inl (s9 + 1)), h32)))))))))))))))))))))) 0 h8) (fun e11 h12 =>
  zbd (
  zlp (σ := Int32) (β := Int32) zLF (fun s33 h34 =>
  if 6 ≤ s33 then
  some ((.inr s33), h34)
  else
  zob (zgR h34 a0 8 43) (fun v37 =>
  zob (zgR h34 a0 8 43) (fun v38 =>
  zob (zaI 0 h34 v38 ((6 * a2) + s33)) (fun v39 =>
  zob (zsI 0 h34 v37 ((6 * a1) + s33) v39) (fun h40 =>
  zob (zgR h40 a0 8 44) (fun v41 =>
  zob (zgR h40 a0 8 44) (fun v42 =>
  zob (zaI 0 h40 v42 ((6 * a2) + s33)) (fun v43 =>
  zob (zsI 0 h40 v41 ((6 * a1) + s33) v43) (fun h44 =>
  some ((.inl (s33 + 1)), h44)))))))))) 0 h12) (fun e35 h36 =>
  zbd (
  zlp (σ := Int32) (β := Int32) zLF (fun s45 h46 =>
  if 5 ≤ s45 then
  some ((.inr s45), h46)
  else
  zob (zgR h46 a0 8 45) (fun v49 =>
  zob (zgR h46 a0 8 45) (fun v50 =>
  zob (zaI 0 h46 v50 ((5 * a2) + s45)) (fun v51 =>
  zob (zsI 0 h46 v49 ((5 * a1) + s45) v51) (fun h52 =>
  some ((.inl (s45 + 1)), h52)))))) 0 h36) (fun e47 h48 =>
  zbd (
  zlp (σ := Int32) (β := Int32) zLF (fun s53 h54 =>
  if 35 ≤ s53 then
  some ((.inr s53), h54)
  else
  zob (zgR h54 a0 8 46) (fun v57 =>
  zob (zgR h54 a0 8 46) (fun v58 =>
  zob (zaI 0 h54 v58 ((35 * a2) + s53)) (fun v59 =>
  zob (zsI 0 h54 v57 ((35 * a1) + s53) v59) (fun h60 =>
  some ((.inl (s53 + 1)), h60)))))) 0 h48) (fun e55 h56 =>
  some ((), h56)))))))))))))
set_option maxRecDepth 100000 in
set_option maxHeartbeats 4000000 in
theorem t_X8_copies (a0 : Nat) (a1 : Int32) (a2 : Int32) (h0 : zHp) : ∀ (r : Unit) (h' : zHp), f_X8_copies a0 a1 a2 h0 = some (r, h') → zCt yX8_copies (.code yX8_copies cX8_copies 6 none) 1 60 0 0 [.ref a0, .int a1, .int a2] h0 (none) h' := by
  refine zct_of M_X8_copies yX8_copies (by decide) rfl rfl [.ref a0, .int a1, .int a2] h0 (Nat.le_of_ble_eq_true rfl) (fun _ => none) (fun X => ?_)
  show zG X M_X8_copies (0, 0) 0 [(0, .ref a0), (1, .int a1), (2, .int a2)] [] h0 (f_X8_copies a0 a1 a2 h0) (fun (_ : Unit) h' => zKe X (none) h')
  unfold f_X8_copies
  refine zg_aload_n 0 rfl d_X8_copies_0 ?_
  refine zg_getR d_X8_copies_1 zc_8 (by decide) fl_X8_75 (fun v1 => ?_)
  refine zg_iload_n 1 rfl d_X8_copies_4 ?_
  refine zg_aload_n 0 rfl d_X8_copies_5 ?_
  refine zg_getR d_X8_copies_6 zc_8 (by decide) fl_X8_75 (fun v2 => ?_)
  refine zg_iload_n 2 rfl d_X8_copies_9 ?_
  refine zg_ald0 d_X8_copies_10 (fun v3 => ?_)
  refine zg_ast0 d_X8_copies_11 (fun h4 => ?_)
  refine zg_aload_n 0 rfl d_X8_copies_12 ?_
  refine zg_getR d_X8_copies_13 zc_8 (by decide) fl_X8_78 (fun v5 => ?_)
  refine zg_iload_n 1 rfl d_X8_copies_16 ?_
  refine zg_aload_n 0 rfl d_X8_copies_17 ?_
  refine zg_getR d_X8_copies_18 zc_8 (by decide) fl_X8_78 (fun v6 => ?_)
  refine zg_iload_n 2 rfl d_X8_copies_21 ?_
  refine zg_ald0 d_X8_copies_22 (fun v7 => ?_)
  refine zg_ast0 d_X8_copies_23 (fun h8 => ?_)
  refine zg_iconst 0 rfl d_X8_copies_24 ?_
  refine zg_istore_n [(3, .int 0), (0, .ref a0), (1, .int a1), (2, .int a2)] d_X8_copies_25 rfl (by decide) rfl ?_
  refine zg_bd (E := 124) (el := (fun (e11 : Int32) => [(0, .ref a0), (1, .int a1), (2, .int a2), (3, .int e11)])) (es := fun _ => []) (zg_sub [1, 2, 3, 0] rfl (zg_lp (el := (fun (s9 : Int32) => [(0, .ref a0), (1, .int a1), (2, .int a2), (3, .int s9)])) (fun s9 h10 => ?_) 0 h8)) (fun e11 h12 => ?_)
  · refine zg_iload_n 3 rfl d_X8_copies_26 ?_
    refine zg_bipush 8 rfl d_X8_copies_27 ?_
    refine zg_icmp_ge d_X8_copies_29 ?_ ?_
    · exact zg_finK (E := 0) [0, 1, 2, 3] rfl rfl (fun q => q)
    · refine zg_bipush 8 rfl d_X8_copies_32 ?_
      refine zg_iload_n 1 rfl d_X8_copies_34 ?_
      refine zg_imul d_X8_copies_35 ?_
      refine zg_iload_n 3 rfl d_X8_copies_36 ?_
      refine zg_iadd d_X8_copies_37 ?_
      refine zg_istore [(4, .int ((8 * a1) + s9)), (0, .ref a0), (1, .int a1), (2, .int a2), (3, .int s9)] d_X8_copies_38 (by decide) rfl ?_
      refine zg_bipush 8 rfl d_X8_copies_40 ?_
      refine zg_iload_n 3 rfl d_X8_copies_42 ?_
      refine zg_imul d_X8_copies_43 ?_
      refine zg_iload_n 4 rfl d_X8_copies_44 ?_
      refine zg_iadd d_X8_copies_45 ?_
      refine zg_istore [(5, .int ((8 * a2) + s9)), (4, .int ((8 * a1) + s9)), (0, .ref a0), (1, .int a1), (2, .int a2), (3, .int s9)] d_X8_copies_46 (by decide) rfl ?_
      refine zg_aload_n 2 rfl d_X8_copies_48 ?_
      refine zg_getR d_X8_copies_49 zc_8 (by decide) fl_X8_81 (fun v13 => ?_)
      refine zg_iload 1 rfl d_X8_copies_52 ?_
      refine zg_aload_n 2 rfl d_X8_copies_54 ?_
      refine zg_getR d_X8_copies_55 zc_8 (by decide) fl_X8_81 (fun v14 => ?_)
      refine zg_iload 0 rfl d_X8_copies_58 ?_
      refine zg_ald0 d_X8_copies_60 (fun v15 => ?_)
      refine zg_ast0 d_X8_copies_61 (fun h16 => ?_)
      refine zg_aload_n 2 rfl d_X8_copies_62 ?_
      refine zg_getR d_X8_copies_63 zc_8 (by decide) fl_X8_84 (fun v17 => ?_)
      refine zg_iload 1 rfl d_X8_copies_66 ?_
      refine zg_aload_n 2 rfl d_X8_copies_68 ?_
      refine zg_getR d_X8_copies_69 zc_8 (by decide) fl_X8_84 (fun v18 => ?_)
      refine zg_iload 0 rfl d_X8_copies_72 ?_
      refine zg_ald0 d_X8_copies_74 (fun v19 => ?_)
      refine zg_ast0 d_X8_copies_75 (fun h20 => ?_)
      refine zg_aload_n 2 rfl d_X8_copies_76 ?_
      refine zg_getR d_X8_copies_77 zc_8 (by decide) fl_X8_87 (fun v21 => ?_)
      refine zg_iload 1 rfl d_X8_copies_80 ?_
      refine zg_aload_n 2 rfl d_X8_copies_82 ?_
      refine zg_getR d_X8_copies_83 zc_8 (by decide) fl_X8_87 (fun v22 => ?_)
      refine zg_iload 0 rfl d_X8_copies_86 ?_
      refine zg_ald0 d_X8_copies_88 (fun v23 => ?_)
      refine zg_ast0 d_X8_copies_89 (fun h24 => ?_)
      refine zg_aload_n 2 rfl d_X8_copies_90 ?_
      refine zg_getR d_X8_copies_91 zc_8 (by decide) fl_X8_90 (fun v25 => ?_)
      refine zg_iload 1 rfl d_X8_copies_94 ?_
      refine zg_aload_n 2 rfl d_X8_copies_96 ?_
      refine zg_getR d_X8_copies_97 zc_8 (by decide) fl_X8_90 (fun v26 => ?_)
      refine zg_iload 0 rfl d_X8_copies_100 ?_
      refine zg_ald0 d_X8_copies_102 (fun v27 => ?_)
      refine zg_ast0 d_X8_copies_103 (fun h28 => ?_)
      refine zg_aload_n 2 rfl d_X8_copies_104 ?_
      refine zg_getR d_X8_copies_105 zc_8 (by decide) fl_X8_93 (fun v29 => ?_)
      refine zg_iload 1 rfl d_X8_copies_108 ?_
      refine zg_aload_n 2 rfl d_X8_copies_110 ?_
      refine zg_getR d_X8_copies_111 zc_8 (by decide) fl_X8_93 (fun v30 => ?_)
      refine zg_iload 0 rfl d_X8_copies_114 ?_
      refine zg_ald0 d_X8_copies_116 (fun v31 => ?_)
      refine zg_ast0 d_X8_copies_117 (fun h32 => ?_)
      refine zg_iinc 5 (s9 + 1) [(3, .int (s9 + 1)), (5, .int ((8 * a2) + s9)), (4, .int ((8 * a1) + s9)), (0, .ref a0), (1, .int a1), (2, .int a2)] d_X8_copies_118 rfl rfl (by decide) rfl ?_
      refine zg_goto d_X8_copies_121 ?_
      exact zg_finK (E := 0) [3, 4, 5, 0] rfl rfl (fun q => q)
  · refine zg_iconst 0 rfl d_X8_copies_124 ?_
    refine zg_istore_n [(3, .int 0), (0, .ref a0), (1, .int a1), (2, .int a2)] d_X8_copies_125 rfl (by decide) rfl ?_
    refine zg_bd (E := 182) (el := (fun (e35 : Int32) => [(0, .ref a0), (1, .int a1), (2, .int a2), (3, .int e35)])) (es := fun _ => []) (zg_sub [1, 2, 3, 0] rfl (zg_lp (el := (fun (s33 : Int32) => [(0, .ref a0), (1, .int a1), (2, .int a2), (3, .int s33)])) (fun s33 h34 => ?_) 0 h12)) (fun e35 h36 => ?_)
    · refine zg_iload_n 3 rfl d_X8_copies_126 ?_
      refine zg_bipush 6 rfl d_X8_copies_127 ?_
      refine zg_icmp_ge d_X8_copies_129 ?_ ?_
      · exact zg_finK (E := 0) [0, 1, 2, 3] rfl rfl (fun q => q)
      · refine zg_aload_n 0 rfl d_X8_copies_132 ?_
        refine zg_getR d_X8_copies_133 zc_8 (by decide) fl_X8_96 (fun v37 => ?_)
        refine zg_bipush 6 rfl d_X8_copies_136 ?_
        refine zg_iload_n 1 rfl d_X8_copies_138 ?_
        refine zg_imul d_X8_copies_139 ?_
        refine zg_iload_n 3 rfl d_X8_copies_140 ?_
        refine zg_iadd d_X8_copies_141 ?_
        refine zg_aload_n 0 rfl d_X8_copies_142 ?_
        refine zg_getR d_X8_copies_143 zc_8 (by decide) fl_X8_96 (fun v38 => ?_)
        refine zg_bipush 6 rfl d_X8_copies_146 ?_
        refine zg_iload_n 2 rfl d_X8_copies_148 ?_
        refine zg_imul d_X8_copies_149 ?_
        refine zg_iload_n 3 rfl d_X8_copies_150 ?_
        refine zg_iadd d_X8_copies_151 ?_
        refine zg_ald0 d_X8_copies_152 (fun v39 => ?_)
        refine zg_ast0 d_X8_copies_153 (fun h40 => ?_)
        refine zg_aload_n 0 rfl d_X8_copies_154 ?_
        refine zg_getR d_X8_copies_155 zc_8 (by decide) fl_X8_99 (fun v41 => ?_)
        refine zg_bipush 6 rfl d_X8_copies_158 ?_
        refine zg_iload_n 1 rfl d_X8_copies_160 ?_
        refine zg_imul d_X8_copies_161 ?_
        refine zg_iload_n 3 rfl d_X8_copies_162 ?_
        refine zg_iadd d_X8_copies_163 ?_
        refine zg_aload_n 0 rfl d_X8_copies_164 ?_
        refine zg_getR d_X8_copies_165 zc_8 (by decide) fl_X8_99 (fun v42 => ?_)
        refine zg_bipush 6 rfl d_X8_copies_168 ?_
        refine zg_iload_n 2 rfl d_X8_copies_170 ?_
        refine zg_imul d_X8_copies_171 ?_
        refine zg_iload_n 3 rfl d_X8_copies_172 ?_
        refine zg_iadd d_X8_copies_173 ?_
        refine zg_ald0 d_X8_copies_174 (fun v43 => ?_)
        refine zg_ast0 d_X8_copies_175 (fun h44 => ?_)
        refine zg_iinc 3 (s33 + 1) [(3, .int (s33 + 1)), (0, .ref a0), (1, .int a1), (2, .int a2)] d_X8_copies_176 rfl rfl (by decide) rfl ?_
        refine zg_goto d_X8_copies_179 ?_
        exact zg_finK (E := 0) [1, 2, 3, 0] rfl rfl (fun q => q)
    · refine zg_iconst 0 rfl d_X8_copies_182 ?_
      refine zg_istore_n [(3, .int 0), (0, .ref a0), (1, .int a1), (2, .int a2)] d_X8_copies_183 rfl (by decide) rfl ?_
      refine zg_bd (E := 215) (el := (fun (e47 : Int32) => [(0, .ref a0), (1, .int a1), (2, .int a2), (3, .int e47)])) (es := fun _ => []) (zg_sub [1, 2, 3, 0] rfl (zg_lp (el := (fun (s45 : Int32) => [(0, .ref a0), (1, .int a1), (2, .int a2), (3, .int s45)])) (fun s45 h46 => ?_) 0 h36)) (fun e47 h48 => ?_)
      · refine zg_iload_n 3 rfl d_X8_copies_184 ?_
        refine zg_iconst 5 rfl d_X8_copies_185 ?_
        refine zg_icmp_ge d_X8_copies_186 ?_ ?_
        · exact zg_finK (E := 0) [0, 1, 2, 3] rfl rfl (fun q => q)
        · refine zg_aload_n 0 rfl d_X8_copies_189 ?_
          refine zg_getR d_X8_copies_190 zc_8 (by decide) fl_X8_102 (fun v49 => ?_)
          refine zg_iconst 5 rfl d_X8_copies_193 ?_
          refine zg_iload_n 1 rfl d_X8_copies_194 ?_
          refine zg_imul d_X8_copies_195 ?_
          refine zg_iload_n 3 rfl d_X8_copies_196 ?_
          refine zg_iadd d_X8_copies_197 ?_
          refine zg_aload_n 0 rfl d_X8_copies_198 ?_
          refine zg_getR d_X8_copies_199 zc_8 (by decide) fl_X8_102 (fun v50 => ?_)
          refine zg_iconst 5 rfl d_X8_copies_202 ?_
          refine zg_iload_n 2 rfl d_X8_copies_203 ?_
          refine zg_imul d_X8_copies_204 ?_
          refine zg_iload_n 3 rfl d_X8_copies_205 ?_
          refine zg_iadd d_X8_copies_206 ?_
          refine zg_ald0 d_X8_copies_207 (fun v51 => ?_)
          refine zg_ast0 d_X8_copies_208 (fun h52 => ?_)
          refine zg_iinc 3 (s45 + 1) [(3, .int (s45 + 1)), (0, .ref a0), (1, .int a1), (2, .int a2)] d_X8_copies_209 rfl rfl (by decide) rfl ?_
          refine zg_goto d_X8_copies_212 ?_
          exact zg_finK (E := 0) [1, 2, 3, 0] rfl rfl (fun q => q)
      · refine zg_iconst 0 rfl d_X8_copies_215 ?_
        refine zg_istore_n [(3, .int 0), (0, .ref a0), (1, .int a1), (2, .int a2)] d_X8_copies_216 rfl (by decide) rfl ?_
        refine zg_bd (E := 251) (el := (fun (e55 : Int32) => [(0, .ref a0), (1, .int a1), (2, .int a2), (3, .int e55)])) (es := fun _ => []) (zg_sub [1, 2, 3, 0] rfl (zg_lp (el := (fun (s53 : Int32) => [(0, .ref a0), (1, .int a1), (2, .int a2), (3, .int s53)])) (fun s53 h54 => ?_) 0 h48)) (fun e55 h56 => ?_)
        · refine zg_iload_n 3 rfl d_X8_copies_217 ?_
          refine zg_bipush 35 rfl d_X8_copies_218 ?_
          refine zg_icmp_ge d_X8_copies_220 ?_ ?_
          · exact zg_finK (E := 0) [0, 1, 2, 3] rfl rfl (fun q => q)
          · refine zg_aload_n 0 rfl d_X8_copies_223 ?_
            refine zg_getR d_X8_copies_224 zc_8 (by decide) fl_X8_105 (fun v57 => ?_)
            refine zg_bipush 35 rfl d_X8_copies_227 ?_
            refine zg_iload_n 1 rfl d_X8_copies_229 ?_
            refine zg_imul d_X8_copies_230 ?_
            refine zg_iload_n 3 rfl d_X8_copies_231 ?_
            refine zg_iadd d_X8_copies_232 ?_
            refine zg_aload_n 0 rfl d_X8_copies_233 ?_
            refine zg_getR d_X8_copies_234 zc_8 (by decide) fl_X8_105 (fun v58 => ?_)
            refine zg_bipush 35 rfl d_X8_copies_237 ?_
            refine zg_iload_n 2 rfl d_X8_copies_239 ?_
            refine zg_imul d_X8_copies_240 ?_
            refine zg_iload_n 3 rfl d_X8_copies_241 ?_
            refine zg_iadd d_X8_copies_242 ?_
            refine zg_ald0 d_X8_copies_243 (fun v59 => ?_)
            refine zg_ast0 d_X8_copies_244 (fun h60 => ?_)
            refine zg_iinc 3 (s53 + 1) [(3, .int (s53 + 1)), (0, .ref a0), (1, .int a1), (2, .int a2)] d_X8_copies_245 rfl rfl (by decide) rfl ?_
            refine zg_goto d_X8_copies_248 ?_
            exact zg_finK (E := 0) [1, 2, 3, 0] rfl rfl (fun q => q)
        · exact zg_vretK d_X8_copies_251 rfl ⟨Nat.le_of_ble_eq_true rfl, Nat.le_of_ble_eq_true rfl⟩ (fun q => q)
abbrev M_X8_farOf : zMt := (RX8, cX8_farOf, 2, 1, 60, (some .int), "farOf", 0, 0)
theorem d_X8_farOf_0 : zDc M_X8_farOf 0 (.iload_n 0) 1 1 := ⟨by decide +kernel, rfl⟩
theorem d_X8_farOf_1 : zDc M_X8_farOf 1 (.bipush 6) 2 3 := ⟨by decide +kernel, rfl⟩
theorem d_X8_farOf_3 : zDc M_X8_farOf 3 (.irem) 1 4 := ⟨by decide +kernel, rfl⟩
theorem d_X8_farOf_4 : zDc M_X8_farOf 4 (.iload_n 1) 1 5 := ⟨by decide +kernel, rfl⟩
theorem d_X8_farOf_5 : zDc M_X8_farOf 5 (.bipush 6) 2 7 := ⟨by decide +kernel, rfl⟩
theorem d_X8_farOf_7 : zDc M_X8_farOf 7 (.irem) 1 8 := ⟨by decide +kernel, rfl⟩
theorem d_X8_farOf_8 : zDc M_X8_farOf 8 (.isub) 1 9 := ⟨by decide +kernel, rfl⟩
theorem d_X8_farOf_9 : zDc M_X8_farOf 9 (.invokestatic 346) 3 12 := ⟨by decide +kernel, rfl⟩
theorem d_X8_farOf_12 : zDc M_X8_farOf 12 (.iload_n 0) 1 13 := ⟨by decide +kernel, rfl⟩
theorem d_X8_farOf_13 : zDc M_X8_farOf 13 (.bipush 6) 2 15 := ⟨by decide +kernel, rfl⟩
theorem d_X8_farOf_15 : zDc M_X8_farOf 15 (.idiv) 1 16 := ⟨by decide +kernel, rfl⟩
theorem d_X8_farOf_16 : zDc M_X8_farOf 16 (.iload_n 1) 1 17 := ⟨by decide +kernel, rfl⟩
theorem d_X8_farOf_17 : zDc M_X8_farOf 17 (.bipush 6) 2 19 := ⟨by decide +kernel, rfl⟩
theorem d_X8_farOf_19 : zDc M_X8_farOf 19 (.idiv) 1 20 := ⟨by decide +kernel, rfl⟩
theorem d_X8_farOf_20 : zDc M_X8_farOf 20 (.isub) 1 21 := ⟨by decide +kernel, rfl⟩
theorem d_X8_farOf_21 : zDc M_X8_farOf 21 (.invokestatic 346) 3 24 := ⟨by decide +kernel, rfl⟩
theorem d_X8_farOf_24 : zDc M_X8_farOf 24 (.invokestatic 348) 3 27 := ⟨by decide +kernel, rfl⟩
theorem d_X8_farOf_27 : zDc M_X8_farOf 27 (.ireturn) 1 28 := ⟨by decide +kernel, rfl⟩
def f_X8_farOf (a0 : Int32) (a1 : Int32) (h0 : zHp) : Option (Int32 × zHp) :=
  some ((zmx (zab ((zrm a0 6) - (zrm a1 6))) (zab ((a0 / 6) - (a1 / 6)))), h0)
set_option maxRecDepth 100000 in
set_option maxHeartbeats 4000000 in
theorem t_X8_farOf (a0 : Int32) (a1 : Int32) (h0 : zHp) : ∀ (r : Int32) (h' : zHp), f_X8_farOf a0 a1 h0 = some (r, h') → zCt yX8_farOf (.code yX8_farOf cX8_farOf 2 (some .int)) 1 60 0 0 [.int a0, .int a1] h0 (some (.int r)) h' := by
  refine zct_of M_X8_farOf yX8_farOf (by decide) rfl rfl [.int a0, .int a1] h0 (Nat.le_of_ble_eq_true rfl) (fun r => some (.int r)) (fun X => ?_)
  show zG X M_X8_farOf (0, 0) 0 [(0, .int a0), (1, .int a1)] [] h0 (f_X8_farOf a0 a1 h0) (fun (r : Int32) h' => zKe X (some (.int r)) h')
  unfold f_X8_farOf
  refine zg_iload_n 0 rfl d_X8_farOf_0 ?_
  refine zg_bipush 6 rfl d_X8_farOf_1 ?_
  refine zg_irem (by decide) d_X8_farOf_3 ?_
  refine zg_iload_n 1 rfl d_X8_farOf_4 ?_
  refine zg_bipush 6 rfl d_X8_farOf_5 ?_
  refine zg_irem (by decide) d_X8_farOf_7 ?_
  refine zg_isub d_X8_farOf_8 ?_
  refine zg_mabs d_X8_farOf_9 ml_X8_346 (by decide) (Nat.le_of_ble_eq_true rfl) ⟨Nat.le_of_ble_eq_true rfl, Nat.le_of_ble_eq_true rfl⟩ ?_
  refine zg_iload_n 0 rfl d_X8_farOf_12 ?_
  refine zg_bipush 6 rfl d_X8_farOf_13 ?_
  refine zg_idiv (by decide) d_X8_farOf_15 ?_
  refine zg_iload_n 1 rfl d_X8_farOf_16 ?_
  refine zg_bipush 6 rfl d_X8_farOf_17 ?_
  refine zg_idiv (by decide) d_X8_farOf_19 ?_
  refine zg_isub d_X8_farOf_20 ?_
  refine zg_mabs d_X8_farOf_21 ml_X8_346 (by decide) (Nat.le_of_ble_eq_true rfl) ⟨Nat.le_of_ble_eq_true rfl, Nat.le_of_ble_eq_true rfl⟩ ?_
  refine zg_mmax d_X8_farOf_24 ml_X8_348 (by decide) (Nat.le_of_ble_eq_true rfl) ⟨Nat.le_of_ble_eq_true rfl, Nat.le_of_ble_eq_true rfl⟩ ?_
  exact zg_iretK d_X8_farOf_27 rfl ⟨Nat.le_of_ble_eq_true rfl, Nat.le_of_ble_eq_true rfl⟩ (fun q => q)
abbrev M_X8_groundIn : zMt := (RX8, cX8_groundIn, 2, 1, 60, (some .int), "groundIn", 0, 0)
theorem d_X8_groundIn_0 : zDc M_X8_groundIn 0 (.aload_n 0) 1 1 := ⟨by decide +kernel, rfl⟩
theorem d_X8_groundIn_1 : zDc M_X8_groundIn 1 (.getfield 343) 3 4 := ⟨by decide +kernel, rfl⟩
theorem d_X8_groundIn_4 : zDc M_X8_groundIn 4 (.iconst 5) 1 5 := ⟨by decide +kernel, rfl⟩
theorem d_X8_groundIn_5 : zDj M_X8_groundIn 5 (.if_icmp .ne 5) 5 8 10 := ⟨by decide +kernel, rfl, by decide⟩
theorem d_X8_groundIn_8 : zDc M_X8_groundIn 8 (.iconst 1) 1 9 := ⟨by decide +kernel, rfl⟩
theorem d_X8_groundIn_9 : zDc M_X8_groundIn 9 (.ireturn) 1 10 := ⟨by decide +kernel, rfl⟩
theorem d_X8_groundIn_10 : zDc M_X8_groundIn 10 (.aload_n 0) 1 11 := ⟨by decide +kernel, rfl⟩
theorem d_X8_groundIn_11 : zDc M_X8_groundIn 11 (.getfield 343) 3 14 := ⟨by decide +kernel, rfl⟩
theorem d_X8_groundIn_14 : zDc M_X8_groundIn 14 (.iconst 3) 1 15 := ⟨by decide +kernel, rfl⟩
theorem d_X8_groundIn_15 : zDj M_X8_groundIn 15 (.if_icmp .ne 17) 17 18 32 := ⟨by decide +kernel, rfl, by decide⟩
theorem d_X8_groundIn_18 : zDc M_X8_groundIn 18 (.aload_n 0) 1 19 := ⟨by decide +kernel, rfl⟩
theorem d_X8_groundIn_19 : zDc M_X8_groundIn 19 (.getfield 16) 3 22 := ⟨by decide +kernel, rfl⟩
theorem d_X8_groundIn_22 : zDc M_X8_groundIn 22 (.iload_n 1) 1 23 := ⟨by decide +kernel, rfl⟩
theorem d_X8_groundIn_23 : zDc M_X8_groundIn 23 (.iaload) 1 24 := ⟨by decide +kernel, rfl⟩
theorem d_X8_groundIn_24 : zDc M_X8_groundIn 24 (.iconst 2) 1 25 := ⟨by decide +kernel, rfl⟩
theorem d_X8_groundIn_25 : zDj M_X8_groundIn 25 (.if_icmp .ne 7) 7 28 32 := ⟨by decide +kernel, rfl, by decide⟩
theorem d_X8_groundIn_28 : zDc M_X8_groundIn 28 (.iconst 0) 1 29 := ⟨by decide +kernel, rfl⟩
theorem d_X8_groundIn_29 : zDj M_X8_groundIn 29 (.goto 9) 9 32 38 := ⟨by decide +kernel, rfl, by decide⟩
theorem d_X8_groundIn_32 : zDc M_X8_groundIn 32 (.aload_n 0) 1 33 := ⟨by decide +kernel, rfl⟩
theorem d_X8_groundIn_33 : zDc M_X8_groundIn 33 (.getfield 16) 3 36 := ⟨by decide +kernel, rfl⟩
theorem d_X8_groundIn_36 : zDc M_X8_groundIn 36 (.iload_n 1) 1 37 := ⟨by decide +kernel, rfl⟩
theorem d_X8_groundIn_37 : zDc M_X8_groundIn 37 (.iaload) 1 38 := ⟨by decide +kernel, rfl⟩
theorem d_X8_groundIn_38 : zDc M_X8_groundIn 38 (.ireturn) 1 39 := ⟨by decide +kernel, rfl⟩
def f_X8_groundIn (a0 : Nat) (a1 : Int32) (h0 : zHp) : Option (Int32 × zHp) :=
  zob (zgI h0 a0 8 49) (fun v1 =>
  if v1 = 5 then
  some (1, h0)
  else
  zob (zgI h0 a0 8 49) (fun v2 =>
  if v2 = 3 then
  zob (zgR h0 a0 8 4) (fun v3 =>
  zob (zaI 0 h0 v3 a1) (fun v4 =>
  if v4 = 2 then
  some (0, h0)
  else
  zob (zgR h0 a0 8 4) (fun v5 =>
  zob (zaI 0 h0 v5 a1) (fun v6 =>
  some (v6, h0)))))
  else
  zob (zgR h0 a0 8 4) (fun v7 =>
  zob (zaI 0 h0 v7 a1) (fun v8 =>
  some (v8, h0)))))
set_option maxRecDepth 100000 in
set_option maxHeartbeats 4000000 in
theorem t_X8_groundIn (a0 : Nat) (a1 : Int32) (h0 : zHp) : ∀ (r : Int32) (h' : zHp), f_X8_groundIn a0 a1 h0 = some (r, h') → zCt yX8_groundIn (.code yX8_groundIn cX8_groundIn 2 (some .int)) 1 60 0 0 [.ref a0, .int a1] h0 (some (.int r)) h' := by
  refine zct_of M_X8_groundIn yX8_groundIn (by decide) rfl rfl [.ref a0, .int a1] h0 (Nat.le_of_ble_eq_true rfl) (fun r => some (.int r)) (fun X => ?_)
  show zG X M_X8_groundIn (0, 0) 0 [(0, .ref a0), (1, .int a1)] [] h0 (f_X8_groundIn a0 a1 h0) (fun (r : Int32) h' => zKe X (some (.int r)) h')
  unfold f_X8_groundIn
  refine zg_aload_n 0 rfl d_X8_groundIn_0 ?_
  refine zg_getI d_X8_groundIn_1 zc_8 (by decide) fl_X8_343 (fun v1 => ?_)
  refine zg_iconst 5 rfl d_X8_groundIn_4 ?_
  refine zg_icmp_ne d_X8_groundIn_5 ?_ ?_
  · refine zg_iconst 1 rfl d_X8_groundIn_8 ?_
    exact zg_iretK d_X8_groundIn_9 rfl ⟨Nat.le_of_ble_eq_true rfl, Nat.le_of_ble_eq_true rfl⟩ (fun q => q)
  · refine zg_aload_n 0 rfl d_X8_groundIn_10 ?_
    refine zg_getI d_X8_groundIn_11 zc_8 (by decide) fl_X8_343 (fun v2 => ?_)
    refine zg_iconst 3 rfl d_X8_groundIn_14 ?_
    refine zg_icmp_ne d_X8_groundIn_15 ?_ ?_
    · refine zg_aload_n 0 rfl d_X8_groundIn_18 ?_
      refine zg_getR d_X8_groundIn_19 zc_8 (by decide) fl_X8_16 (fun v3 => ?_)
      refine zg_iload_n 1 rfl d_X8_groundIn_22 ?_
      refine zg_ald0 d_X8_groundIn_23 (fun v4 => ?_)
      refine zg_iconst 2 rfl d_X8_groundIn_24 ?_
      refine zg_icmp_ne d_X8_groundIn_25 ?_ ?_
      · refine zg_iconst 0 rfl d_X8_groundIn_28 ?_
        refine zg_goto d_X8_groundIn_29 ?_
        exact zg_iretK d_X8_groundIn_38 rfl ⟨Nat.le_of_ble_eq_true rfl, Nat.le_of_ble_eq_true rfl⟩ (fun q => q)
      · refine zg_aload_n 0 rfl d_X8_groundIn_32 ?_
        refine zg_getR d_X8_groundIn_33 zc_8 (by decide) fl_X8_16 (fun v5 => ?_)
        refine zg_iload_n 1 rfl d_X8_groundIn_36 ?_
        refine zg_ald0 d_X8_groundIn_37 (fun v6 => ?_)
        exact zg_iretK d_X8_groundIn_38 rfl ⟨Nat.le_of_ble_eq_true rfl, Nat.le_of_ble_eq_true rfl⟩ (fun q => q)
    · refine zg_aload_n 0 rfl d_X8_groundIn_32 ?_
      refine zg_getR d_X8_groundIn_33 zc_8 (by decide) fl_X8_16 (fun v7 => ?_)
      refine zg_iload_n 1 rfl d_X8_groundIn_36 ?_
      refine zg_ald0 d_X8_groundIn_37 (fun v8 => ?_)
      exact zg_iretK d_X8_groundIn_38 rfl ⟨Nat.le_of_ble_eq_true rfl, Nat.le_of_ble_eq_true rfl⟩ (fun q => q)
abbrev M_X8_isUp : zMt := (RX8, cX8_isUp, 3, 1, 60, (some .boolean), "isUp", 0, 0)
theorem d_X8_isUp_0 : zDc M_X8_isUp 0 (.aload_n 0) 1 1 := ⟨by decide +kernel, rfl⟩
theorem d_X8_isUp_1 : zDc M_X8_isUp 1 (.getfield 93) 3 4 := ⟨by decide +kernel, rfl⟩
theorem d_X8_isUp_4 : zDc M_X8_isUp 4 (.bipush 8) 2 6 := ⟨by decide +kernel, rfl⟩
theorem d_X8_isUp_6 : zDc M_X8_isUp 6 (.iload_n 1) 1 7 := ⟨by decide +kernel, rfl⟩
theorem d_X8_isUp_7 : zDc M_X8_isUp 7 (.imul) 1 8 := ⟨by decide +kernel, rfl⟩
theorem d_X8_isUp_8 : zDc M_X8_isUp 8 (.iload_n 2) 1 9 := ⟨by decide +kernel, rfl⟩
theorem d_X8_isUp_9 : zDc M_X8_isUp 9 (.iadd) 1 10 := ⟨by decide +kernel, rfl⟩
theorem d_X8_isUp_10 : zDc M_X8_isUp 10 (.iaload) 1 11 := ⟨by decide +kernel, rfl⟩
theorem d_X8_isUp_11 : zDc M_X8_isUp 11 (.iconst 1) 1 12 := ⟨by decide +kernel, rfl⟩
theorem d_X8_isUp_12 : zDj M_X8_isUp 12 (.if_icmp .ne 23) 23 15 35 := ⟨by decide +kernel, rfl, by decide⟩
theorem d_X8_isUp_15 : zDc M_X8_isUp 15 (.aload_n 0) 1 16 := ⟨by decide +kernel, rfl⟩
theorem d_X8_isUp_16 : zDc M_X8_isUp 16 (.getfield 343) 3 19 := ⟨by decide +kernel, rfl⟩
theorem d_X8_isUp_19 : zDc M_X8_isUp 19 (.iconst 2) 1 20 := ⟨by decide +kernel, rfl⟩
theorem d_X8_isUp_20 : zDj M_X8_isUp 20 (.if_icmp .ne 11) 11 23 31 := ⟨by decide +kernel, rfl, by decide⟩
theorem d_X8_isUp_23 : zDc M_X8_isUp 23 (.iload_n 2) 1 24 := ⟨by decide +kernel, rfl⟩
theorem d_X8_isUp_24 : zDc M_X8_isUp 24 (.aload_n 0) 1 25 := ⟨by decide +kernel, rfl⟩
theorem d_X8_isUp_25 : zDc M_X8_isUp 25 (.getfield 108) 3 28 := ⟨by decide +kernel, rfl⟩
theorem d_X8_isUp_28 : zDj M_X8_isUp 28 (.if_icmp .eq 7) 7 31 35 := ⟨by decide +kernel, rfl, by decide⟩
theorem d_X8_isUp_31 : zDc M_X8_isUp 31 (.iconst 1) 1 32 := ⟨by decide +kernel, rfl⟩
theorem d_X8_isUp_32 : zDj M_X8_isUp 32 (.goto 4) 4 35 36 := ⟨by decide +kernel, rfl, by decide⟩
theorem d_X8_isUp_35 : zDc M_X8_isUp 35 (.iconst 0) 1 36 := ⟨by decide +kernel, rfl⟩
theorem d_X8_isUp_36 : zDc M_X8_isUp 36 (.ireturn) 1 37 := ⟨by decide +kernel, rfl⟩
def f_X8_isUp (a0 : Nat) (a1 : Int32) (a2 : Int32) (h0 : zHp) : Option (Int32 × zHp) :=
  zob (zgR h0 a0 8 42) (fun v1 =>
  zob (zaI 0 h0 v1 ((8 * a1) + a2)) (fun v2 =>
  if v2 = 1 then
  zob (zgI h0 a0 8 49) (fun v3 =>
  if v3 = 2 then
  zob (zgI h0 a0 8 50) (fun v4 =>
  if a2 = v4 then
  some (0, h0)
  else
  some (1, h0))
  else
  some (1, h0))
  else
  some (0, h0)))
set_option maxRecDepth 100000 in
set_option maxHeartbeats 4000000 in
theorem t_X8_isUp (a0 : Nat) (a1 : Int32) (a2 : Int32) (h0 : zHp) : ∀ (r : Int32) (h' : zHp), f_X8_isUp a0 a1 a2 h0 = some (r, h') → zCt yX8_isUp (.code yX8_isUp cX8_isUp 3 (some .boolean)) 1 60 0 0 [.ref a0, .int a1, .int a2] h0 (some (.int r)) h' := by
  refine zct_of M_X8_isUp yX8_isUp (by decide) rfl rfl [.ref a0, .int a1, .int a2] h0 (Nat.le_of_ble_eq_true rfl) (fun r => some (.int r)) (fun X => ?_)
  show zG X M_X8_isUp (0, 0) 0 [(0, .ref a0), (1, .int a1), (2, .int a2)] [] h0 (f_X8_isUp a0 a1 a2 h0) (fun (r : Int32) h' => zKe X (some (.int r)) h')
  unfold f_X8_isUp
  refine zg_aload_n 0 rfl d_X8_isUp_0 ?_
  refine zg_getR d_X8_isUp_1 zc_8 (by decide) fl_X8_93 (fun v1 => ?_)
  refine zg_bipush 8 rfl d_X8_isUp_4 ?_
  refine zg_iload_n 1 rfl d_X8_isUp_6 ?_
  refine zg_imul d_X8_isUp_7 ?_
  refine zg_iload_n 2 rfl d_X8_isUp_8 ?_
  refine zg_iadd d_X8_isUp_9 ?_
  refine zg_ald0 d_X8_isUp_10 (fun v2 => ?_)
  refine zg_iconst 1 rfl d_X8_isUp_11 ?_
  refine zg_icmp_ne d_X8_isUp_12 ?_ ?_
  · refine zg_aload_n 0 rfl d_X8_isUp_15 ?_
    refine zg_getI d_X8_isUp_16 zc_8 (by decide) fl_X8_343 (fun v3 => ?_)
    refine zg_iconst 2 rfl d_X8_isUp_19 ?_
    refine zg_icmp_ne d_X8_isUp_20 ?_ ?_
    · refine zg_iload_n 2 rfl d_X8_isUp_23 ?_
      refine zg_aload_n 0 rfl d_X8_isUp_24 ?_
      refine zg_getI d_X8_isUp_25 zc_8 (by decide) fl_X8_108 (fun v4 => ?_)
      refine zg_icmp_eq d_X8_isUp_28 ?_ ?_
      · refine zg_iconst 0 rfl d_X8_isUp_35 ?_
        exact zg_zretK d_X8_isUp_36 rfl ⟨Nat.le_of_ble_eq_true rfl, Nat.le_of_ble_eq_true rfl⟩ (Or.inl rfl) (fun q => q)
      · refine zg_iconst 1 rfl d_X8_isUp_31 ?_
        refine zg_goto d_X8_isUp_32 ?_
        exact zg_zretK d_X8_isUp_36 rfl ⟨Nat.le_of_ble_eq_true rfl, Nat.le_of_ble_eq_true rfl⟩ (Or.inr rfl) (fun q => q)
    · refine zg_iconst 1 rfl d_X8_isUp_31 ?_
      refine zg_goto d_X8_isUp_32 ?_
      exact zg_zretK d_X8_isUp_36 rfl ⟨Nat.le_of_ble_eq_true rfl, Nat.le_of_ble_eq_true rfl⟩ (Or.inr rfl) (fun q => q)
  · refine zg_iconst 0 rfl d_X8_isUp_35 ?_
    exact zg_zretK d_X8_isUp_36 rfl ⟨Nat.le_of_ble_eq_true rfl, Nat.le_of_ble_eq_true rfl⟩ (Or.inl rfl) (fun q => q)
abbrev M_X8_upMany : zMt := (RX8, cX8_upMany, 4, 2, 82, (some .int), "upMany", 0, 0)
theorem d_X8_upMany_0 : zDc M_X8_upMany 0 (.iconst 0) 1 1 := ⟨by decide +kernel, rfl⟩
theorem d_X8_upMany_1 : zDc M_X8_upMany 1 (.istore_n 2) 1 2 := ⟨by decide +kernel, rfl⟩
theorem d_X8_upMany_2 : zDc M_X8_upMany 2 (.iconst 0) 1 3 := ⟨by decide +kernel, rfl⟩
theorem d_X8_upMany_3 : zDc M_X8_upMany 3 (.istore_n 3) 1 4 := ⟨by decide +kernel, rfl⟩
theorem d_X8_upMany_4 : zDc M_X8_upMany 4 (.iload_n 3) 1 5 := ⟨by decide +kernel, rfl⟩
theorem d_X8_upMany_5 : zDc M_X8_upMany 5 (.aload_n 0) 1 6 := ⟨by decide +kernel, rfl⟩
theorem d_X8_upMany_6 : zDc M_X8_upMany 6 (.getfield 13) 3 9 := ⟨by decide +kernel, rfl⟩
theorem d_X8_upMany_9 : zDc M_X8_upMany 9 (.iconst 1) 1 10 := ⟨by decide +kernel, rfl⟩
theorem d_X8_upMany_10 : zDc M_X8_upMany 10 (.iaload) 1 11 := ⟨by decide +kernel, rfl⟩
theorem d_X8_upMany_11 : zDj M_X8_upMany 11 (.if_icmp .ge 26) 26 14 37 := ⟨by decide +kernel, rfl, by decide⟩
theorem d_X8_upMany_14 : zDc M_X8_upMany 14 (.iload_n 2) 1 15 := ⟨by decide +kernel, rfl⟩
theorem d_X8_upMany_15 : zDc M_X8_upMany 15 (.aload_n 0) 1 16 := ⟨by decide +kernel, rfl⟩
theorem d_X8_upMany_16 : zDc M_X8_upMany 16 (.iload_n 1) 1 17 := ⟨by decide +kernel, rfl⟩
theorem d_X8_upMany_17 : zDc M_X8_upMany 17 (.iload_n 3) 1 18 := ⟨by decide +kernel, rfl⟩
theorem d_X8_upMany_18 : zDc M_X8_upMany 18 (.invokevirtual 351) 3 21 := ⟨by decide +kernel, rfl⟩
theorem d_X8_upMany_21 : zDj M_X8_upMany 21 (.ifCond .eq 7) 7 24 28 := ⟨by decide +kernel, rfl, by decide⟩
theorem d_X8_upMany_24 : zDc M_X8_upMany 24 (.iconst 1) 1 25 := ⟨by decide +kernel, rfl⟩
theorem d_X8_upMany_25 : zDj M_X8_upMany 25 (.goto 4) 4 28 29 := ⟨by decide +kernel, rfl, by decide⟩
theorem d_X8_upMany_28 : zDc M_X8_upMany 28 (.iconst 0) 1 29 := ⟨by decide +kernel, rfl⟩
theorem d_X8_upMany_29 : zDc M_X8_upMany 29 (.iadd) 1 30 := ⟨by decide +kernel, rfl⟩
theorem d_X8_upMany_30 : zDc M_X8_upMany 30 (.istore_n 2) 1 31 := ⟨by decide +kernel, rfl⟩
theorem d_X8_upMany_31 : zDc M_X8_upMany 31 (.iinc 3 1) 3 34 := ⟨by decide +kernel, rfl⟩
theorem d_X8_upMany_34 : zDj M_X8_upMany 34 (.goto (-30)) (-30) 37 4 := ⟨by decide +kernel, rfl, by decide⟩
theorem d_X8_upMany_37 : zDc M_X8_upMany 37 (.iload_n 2) 1 38 := ⟨by decide +kernel, rfl⟩
theorem d_X8_upMany_38 : zDc M_X8_upMany 38 (.ireturn) 1 39 := ⟨by decide +kernel, rfl⟩
def f_X8_upMany (a0 : Nat) (a1 : Int32) (h0 : zHp) : Option (Int32 × zHp) :=
  zbd (
  zlp (σ := (Int32 × Int32)) (β := (Int32 × Int32)) zLF (fun s1 h2 =>
  zob (zgR h2 a0 8 3) (fun v5 =>
  zob (zaI 0 h2 v5 1) (fun v6 =>
  if v6 ≤ s1.2 then
  some ((.inr (s1.1, s1.2)), h2)
  else
  zbd (zcv 8 a0 h2 (f_X8_isUp a0 a1 s1.2 h2)) (fun v8 h7 =>
  if v8 = 0 then
  some ((.inl ((s1.1 + 0), (s1.2 + 1))), h7)
  else
  some ((.inl ((s1.1 + 1), (s1.2 + 1))), h7))))) (0, 0) h0) (fun e3 h4 =>
  some (e3.1, h4))
set_option maxRecDepth 100000 in
set_option maxHeartbeats 4000000 in
theorem t_X8_upMany (a0 : Nat) (a1 : Int32) (h0 : zHp) : ∀ (r : Int32) (h' : zHp), f_X8_upMany a0 a1 h0 = some (r, h') → zCt yX8_upMany (.code yX8_upMany cX8_upMany 4 (some .int)) 2 82 0 0 [.ref a0, .int a1] h0 (some (.int r)) h' := by
  refine zct_of M_X8_upMany yX8_upMany (by decide) rfl rfl [.ref a0, .int a1] h0 (Nat.le_of_ble_eq_true rfl) (fun r => some (.int r)) (fun X => ?_)
  show zG X M_X8_upMany (0, 0) 0 [(0, .ref a0), (1, .int a1)] [] h0 (f_X8_upMany a0 a1 h0) (fun (r : Int32) h' => zKe X (some (.int r)) h')
  unfold f_X8_upMany
  refine zg_iconst 0 rfl d_X8_upMany_0 ?_
  refine zg_istore_n [(2, .int 0), (0, .ref a0), (1, .int a1)] d_X8_upMany_1 rfl (by decide) rfl ?_
  refine zg_iconst 0 rfl d_X8_upMany_2 ?_
  refine zg_istore_n [(3, .int 0), (2, .int 0), (0, .ref a0), (1, .int a1)] d_X8_upMany_3 rfl (by decide) rfl ?_
  refine zg_bd (E := 37) (el := (fun (e3 : (Int32 × Int32)) => [(0, .ref a0), (1, .int a1), (2, .int e3.1), (3, .int e3.2)])) (es := fun _ => []) (zg_sub [2, 3, 1, 0] rfl (zg_lp (el := (fun (s1 : (Int32 × Int32)) => [(0, .ref a0), (1, .int a1), (2, .int s1.1), (3, .int s1.2)])) (fun s1 h2 => ?_) (0, 0) h0)) (fun e3 h4 => ?_)
  · refine zg_iload_n 3 rfl d_X8_upMany_4 ?_
    refine zg_aload_n 0 rfl d_X8_upMany_5 ?_
    refine zg_getR d_X8_upMany_6 zc_8 (by decide) fl_X8_13 (fun v5 => ?_)
    refine zg_iconst 1 rfl d_X8_upMany_9 ?_
    refine zg_ald0 d_X8_upMany_10 (fun v6 => ?_)
    refine zg_icmp_ge d_X8_upMany_11 ?_ ?_
    · exact zg_finK (E := 0) [0, 1, 2, 3] rfl rfl (fun q => q)
    · refine zg_iload_n 2 rfl d_X8_upMany_14 ?_
      refine zg_aload_n 0 rfl d_X8_upMany_15 ?_
      refine zg_iload_n 1 rfl d_X8_upMany_16 ?_
      refine zg_iload_n 3 rfl d_X8_upMany_17 ?_
      refine zg_cVi (b := a0) (As := [.int a1, .int s1.2]) (rest := [.int s1.1]) (0, 0) d_X8_upMany_18 zc_8 rfl cw_X8_351 wi_X8_isUp ws_X8_isUp rfl rfl (Nat.le_of_ble_eq_true rfl) (by decide) (by decide) ⟨by decide, by decide⟩ rfl (t_X8_isUp a0 a1 s1.2 h2) (fun v8 h7 => ?_)
      refine zg_if_eq d_X8_upMany_21 ?_ ?_
      · refine zg_iconst 0 rfl d_X8_upMany_28 ?_
        refine zg_iadd d_X8_upMany_29 ?_
        refine zg_istore_n [(2, .int (s1.1 + 0)), (0, .ref a0), (1, .int a1), (3, .int s1.2)] d_X8_upMany_30 rfl (by decide) rfl ?_
        refine zg_iinc 3 (s1.2 + 1) [(3, .int (s1.2 + 1)), (2, .int (s1.1 + 0)), (0, .ref a0), (1, .int a1)] d_X8_upMany_31 rfl rfl (by decide) rfl ?_
        refine zg_goto d_X8_upMany_34 ?_
        exact zg_finK (E := 0) [2, 3, 1, 0] rfl rfl (fun q => q)
      · refine zg_iconst 1 rfl d_X8_upMany_24 ?_
        refine zg_goto d_X8_upMany_25 ?_
        refine zg_iadd d_X8_upMany_29 ?_
        refine zg_istore_n [(2, .int (s1.1 + 1)), (0, .ref a0), (1, .int a1), (3, .int s1.2)] d_X8_upMany_30 rfl (by decide) rfl ?_
        refine zg_iinc 3 (s1.2 + 1) [(3, .int (s1.2 + 1)), (2, .int (s1.1 + 1)), (0, .ref a0), (1, .int a1)] d_X8_upMany_31 rfl rfl (by decide) rfl ?_
        refine zg_goto d_X8_upMany_34 ?_
        exact zg_finK (E := 0) [2, 3, 1, 0] rfl rfl (fun q => q)
  · refine zg_iload_n 2 rfl d_X8_upMany_37 ?_
    exact zg_iretK d_X8_upMany_38 rfl ⟨Nat.le_of_ble_eq_true rfl, Nat.le_of_ble_eq_true rfl⟩ (fun q => q)
abbrev M_X8_calls : zMt := (RX8, cX8_calls, 5, 3, 105, none, "calls", 0, 0)
theorem d_X8_calls_0 : zDc M_X8_calls 0 (.bipush 8) 2 2 := ⟨by decide +kernel, rfl⟩
theorem d_X8_calls_2 : zDc M_X8_calls 2 (.iload_n 1) 1 3 := ⟨by decide +kernel, rfl⟩
theorem d_X8_calls_3 : zDc M_X8_calls 3 (.imul) 1 4 := ⟨by decide +kernel, rfl⟩
theorem d_X8_calls_4 : zDc M_X8_calls 4 (.iload_n 2) 1 5 := ⟨by decide +kernel, rfl⟩
theorem d_X8_calls_5 : zDc M_X8_calls 5 (.iadd) 1 6 := ⟨by decide +kernel, rfl⟩
theorem d_X8_calls_6 : zDc M_X8_calls 6 (.istore_n 3) 1 7 := ⟨by decide +kernel, rfl⟩
theorem d_X8_calls_7 : zDc M_X8_calls 7 (.aload_n 0) 1 8 := ⟨by decide +kernel, rfl⟩
theorem d_X8_calls_8 : zDc M_X8_calls 8 (.getfield 90) 3 11 := ⟨by decide +kernel, rfl⟩
theorem d_X8_calls_11 : zDc M_X8_calls 11 (.iload_n 3) 1 12 := ⟨by decide +kernel, rfl⟩
theorem d_X8_calls_12 : zDc M_X8_calls 12 (.iaload) 1 13 := ⟨by decide +kernel, rfl⟩
theorem d_X8_calls_13 : zDc M_X8_calls 13 (.istore 4) 2 15 := ⟨by decide +kernel, rfl⟩
theorem d_X8_calls_15 : zDc M_X8_calls 15 (.aload_n 0) 1 16 := ⟨by decide +kernel, rfl⟩
theorem d_X8_calls_16 : zDc M_X8_calls 16 (.getfield 68) 3 19 := ⟨by decide +kernel, rfl⟩
theorem d_X8_calls_19 : zDc M_X8_calls 19 (.iconst 0) 1 20 := ⟨by decide +kernel, rfl⟩
theorem d_X8_calls_20 : zDc M_X8_calls 20 (.aload_n 0) 1 21 := ⟨by decide +kernel, rfl⟩
theorem d_X8_calls_21 : zDc M_X8_calls 21 (.getfield 84) 3 24 := ⟨by decide +kernel, rfl⟩
theorem d_X8_calls_24 : zDc M_X8_calls 24 (.iload_n 3) 1 25 := ⟨by decide +kernel, rfl⟩
theorem d_X8_calls_25 : zDc M_X8_calls 25 (.iaload) 1 26 := ⟨by decide +kernel, rfl⟩
theorem d_X8_calls_26 : zDc M_X8_calls 26 (.i2l) 1 27 := ⟨by decide +kernel, rfl⟩
theorem d_X8_calls_27 : zDc M_X8_calls 27 (.lastore) 1 28 := ⟨by decide +kernel, rfl⟩
theorem d_X8_calls_28 : zDc M_X8_calls 28 (.aload_n 0) 1 29 := ⟨by decide +kernel, rfl⟩
theorem d_X8_calls_29 : zDc M_X8_calls 29 (.getfield 68) 3 32 := ⟨by decide +kernel, rfl⟩
theorem d_X8_calls_32 : zDc M_X8_calls 32 (.iconst 1) 1 33 := ⟨by decide +kernel, rfl⟩
theorem d_X8_calls_33 : zDc M_X8_calls 33 (.aload_n 0) 1 34 := ⟨by decide +kernel, rfl⟩
theorem d_X8_calls_34 : zDc M_X8_calls 34 (.aload_n 0) 1 35 := ⟨by decide +kernel, rfl⟩
theorem d_X8_calls_35 : zDc M_X8_calls 35 (.getfield 81) 3 38 := ⟨by decide +kernel, rfl⟩
theorem d_X8_calls_38 : zDc M_X8_calls 38 (.iload_n 3) 1 39 := ⟨by decide +kernel, rfl⟩
theorem d_X8_calls_39 : zDc M_X8_calls 39 (.iaload) 1 40 := ⟨by decide +kernel, rfl⟩
theorem d_X8_calls_40 : zDc M_X8_calls 40 (.invokevirtual 355) 3 43 := ⟨by decide +kernel, rfl⟩
theorem d_X8_calls_43 : zDc M_X8_calls 43 (.i2l) 1 44 := ⟨by decide +kernel, rfl⟩
theorem d_X8_calls_44 : zDc M_X8_calls 44 (.lastore) 1 45 := ⟨by decide +kernel, rfl⟩
theorem d_X8_calls_45 : zDc M_X8_calls 45 (.aload_n 0) 1 46 := ⟨by decide +kernel, rfl⟩
theorem d_X8_calls_46 : zDc M_X8_calls 46 (.getfield 68) 3 49 := ⟨by decide +kernel, rfl⟩
theorem d_X8_calls_49 : zDc M_X8_calls 49 (.iconst 2) 1 50 := ⟨by decide +kernel, rfl⟩
theorem d_X8_calls_50 : zDc M_X8_calls 50 (.aload_n 0) 1 51 := ⟨by decide +kernel, rfl⟩
theorem d_X8_calls_51 : zDc M_X8_calls 51 (.getfield 87) 3 54 := ⟨by decide +kernel, rfl⟩
theorem d_X8_calls_54 : zDc M_X8_calls 54 (.iload_n 3) 1 55 := ⟨by decide +kernel, rfl⟩
theorem d_X8_calls_55 : zDc M_X8_calls 55 (.iaload) 1 56 := ⟨by decide +kernel, rfl⟩
theorem d_X8_calls_56 : zDc M_X8_calls 56 (.i2l) 1 57 := ⟨by decide +kernel, rfl⟩
theorem d_X8_calls_57 : zDc M_X8_calls 57 (.lastore) 1 58 := ⟨by decide +kernel, rfl⟩
theorem d_X8_calls_58 : zDc M_X8_calls 58 (.aload_n 0) 1 59 := ⟨by decide +kernel, rfl⟩
theorem d_X8_calls_59 : zDc M_X8_calls 59 (.getfield 68) 3 62 := ⟨by decide +kernel, rfl⟩
theorem d_X8_calls_62 : zDc M_X8_calls 62 (.iconst 3) 1 63 := ⟨by decide +kernel, rfl⟩
theorem d_X8_calls_63 : zDc M_X8_calls 63 (.iload 4) 2 65 := ⟨by decide +kernel, rfl⟩
theorem d_X8_calls_65 : zDc M_X8_calls 65 (.iconst (-1)) 1 66 := ⟨by decide +kernel, rfl⟩
theorem d_X8_calls_66 : zDj M_X8_calls 66 (.if_icmp .ne 9) 9 69 75 := ⟨by decide +kernel, rfl, by decide⟩
theorem d_X8_calls_69 : zDc M_X8_calls 69 (.ldc2_w 358) 3 72 := ⟨by decide +kernel, rfl⟩
theorem d_X8_calls_72 : zDj M_X8_calls 72 (.goto 25) 25 75 97 := ⟨by decide +kernel, rfl, by decide⟩
theorem d_X8_calls_75 : zDc M_X8_calls 75 (.aload_n 0) 1 76 := ⟨by decide +kernel, rfl⟩
theorem d_X8_calls_76 : zDc M_X8_calls 76 (.getfield 81) 3 79 := ⟨by decide +kernel, rfl⟩
theorem d_X8_calls_79 : zDc M_X8_calls 79 (.iload_n 3) 1 80 := ⟨by decide +kernel, rfl⟩
theorem d_X8_calls_80 : zDc M_X8_calls 80 (.iaload) 1 81 := ⟨by decide +kernel, rfl⟩
theorem d_X8_calls_81 : zDc M_X8_calls 81 (.aload_n 0) 1 82 := ⟨by decide +kernel, rfl⟩
theorem d_X8_calls_82 : zDc M_X8_calls 82 (.getfield 96) 3 85 := ⟨by decide +kernel, rfl⟩
theorem d_X8_calls_85 : zDc M_X8_calls 85 (.bipush 6) 2 87 := ⟨by decide +kernel, rfl⟩
theorem d_X8_calls_87 : zDc M_X8_calls 87 (.iload_n 1) 1 88 := ⟨by decide +kernel, rfl⟩
theorem d_X8_calls_88 : zDc M_X8_calls 88 (.imul) 1 89 := ⟨by decide +kernel, rfl⟩
theorem d_X8_calls_89 : zDc M_X8_calls 89 (.iload 4) 2 91 := ⟨by decide +kernel, rfl⟩
theorem d_X8_calls_91 : zDc M_X8_calls 91 (.iadd) 1 92 := ⟨by decide +kernel, rfl⟩
theorem d_X8_calls_92 : zDc M_X8_calls 92 (.iaload) 1 93 := ⟨by decide +kernel, rfl⟩
theorem d_X8_calls_93 : zDc M_X8_calls 93 (.invokestatic 360) 3 96 := ⟨by decide +kernel, rfl⟩
theorem d_X8_calls_96 : zDc M_X8_calls 96 (.i2l) 1 97 := ⟨by decide +kernel, rfl⟩
theorem d_X8_calls_97 : zDc M_X8_calls 97 (.lastore) 1 98 := ⟨by decide +kernel, rfl⟩
theorem d_X8_calls_98 : zDc M_X8_calls 98 (.aload_n 0) 1 99 := ⟨by decide +kernel, rfl⟩
theorem d_X8_calls_99 : zDc M_X8_calls 99 (.getfield 68) 3 102 := ⟨by decide +kernel, rfl⟩
theorem d_X8_calls_102 : zDc M_X8_calls 102 (.iconst 4) 1 103 := ⟨by decide +kernel, rfl⟩
theorem d_X8_calls_103 : zDc M_X8_calls 103 (.aload_n 0) 1 104 := ⟨by decide +kernel, rfl⟩
theorem d_X8_calls_104 : zDc M_X8_calls 104 (.iload_n 1) 1 105 := ⟨by decide +kernel, rfl⟩
theorem d_X8_calls_105 : zDc M_X8_calls 105 (.invokevirtual 363) 3 108 := ⟨by decide +kernel, rfl⟩
theorem d_X8_calls_108 : zDc M_X8_calls 108 (.i2l) 1 109 := ⟨by decide +kernel, rfl⟩
theorem d_X8_calls_109 : zDc M_X8_calls 109 (.lastore) 1 110 := ⟨by decide +kernel, rfl⟩
theorem d_X8_calls_110 : zDc M_X8_calls 110 (.aload_n 0) 1 111 := ⟨by decide +kernel, rfl⟩
theorem d_X8_calls_111 : zDc M_X8_calls 111 (.getfield 68) 3 114 := ⟨by decide +kernel, rfl⟩
theorem d_X8_calls_114 : zDc M_X8_calls 114 (.iconst 5) 1 115 := ⟨by decide +kernel, rfl⟩
theorem d_X8_calls_115 : zDc M_X8_calls 115 (.iload 4) 2 117 := ⟨by decide +kernel, rfl⟩
theorem d_X8_calls_117 : zDc M_X8_calls 117 (.iconst (-1)) 1 118 := ⟨by decide +kernel, rfl⟩
theorem d_X8_calls_118 : zDj M_X8_calls 118 (.if_icmp .ne 7) 7 121 125 := ⟨by decide +kernel, rfl, by decide⟩
theorem d_X8_calls_121 : zDc M_X8_calls 121 (.lconst 0) 1 122 := ⟨by decide +kernel, rfl⟩
theorem d_X8_calls_122 : zDj M_X8_calls 122 (.goto 16) 16 125 138 := ⟨by decide +kernel, rfl, by decide⟩
theorem d_X8_calls_125 : zDc M_X8_calls 125 (.aload_n 0) 1 126 := ⟨by decide +kernel, rfl⟩
theorem d_X8_calls_126 : zDc M_X8_calls 126 (.getfield 99) 3 129 := ⟨by decide +kernel, rfl⟩
theorem d_X8_calls_129 : zDc M_X8_calls 129 (.bipush 6) 2 131 := ⟨by decide +kernel, rfl⟩
theorem d_X8_calls_131 : zDc M_X8_calls 131 (.iload_n 1) 1 132 := ⟨by decide +kernel, rfl⟩
theorem d_X8_calls_132 : zDc M_X8_calls 132 (.imul) 1 133 := ⟨by decide +kernel, rfl⟩
theorem d_X8_calls_133 : zDc M_X8_calls 133 (.iload 4) 2 135 := ⟨by decide +kernel, rfl⟩
theorem d_X8_calls_135 : zDc M_X8_calls 135 (.iadd) 1 136 := ⟨by decide +kernel, rfl⟩
theorem d_X8_calls_136 : zDc M_X8_calls 136 (.iaload) 1 137 := ⟨by decide +kernel, rfl⟩
theorem d_X8_calls_137 : zDc M_X8_calls 137 (.i2l) 1 138 := ⟨by decide +kernel, rfl⟩
theorem d_X8_calls_138 : zDc M_X8_calls 138 (.lastore) 1 139 := ⟨by decide +kernel, rfl⟩
theorem d_X8_calls_139 : zDc M_X8_calls 139 (.aload_n 0) 1 140 := ⟨by decide +kernel, rfl⟩
theorem d_X8_calls_140 : zDc M_X8_calls 140 (.getfield 68) 3 143 := ⟨by decide +kernel, rfl⟩
theorem d_X8_calls_143 : zDc M_X8_calls 143 (.bipush 6) 2 145 := ⟨by decide +kernel, rfl⟩
theorem d_X8_calls_145 : zDc M_X8_calls 145 (.aload_n 0) 1 146 := ⟨by decide +kernel, rfl⟩
theorem d_X8_calls_146 : zDc M_X8_calls 146 (.getfield 75) 3 149 := ⟨by decide +kernel, rfl⟩
theorem d_X8_calls_149 : zDc M_X8_calls 149 (.iload_n 1) 1 150 := ⟨by decide +kernel, rfl⟩
theorem d_X8_calls_150 : zDc M_X8_calls 150 (.iaload) 1 151 := ⟨by decide +kernel, rfl⟩
theorem d_X8_calls_151 : zDc M_X8_calls 151 (.i2l) 1 152 := ⟨by decide +kernel, rfl⟩
theorem d_X8_calls_152 : zDc M_X8_calls 152 (.lastore) 1 153 := ⟨by decide +kernel, rfl⟩
theorem d_X8_calls_153 : zDc M_X8_calls 153 (.return_) 1 154 := ⟨by decide +kernel, rfl⟩
def f_X8_calls (a0 : Nat) (a1 : Int32) (a2 : Int32) (h0 : zHp) : Option (Unit × zHp) :=
  zob (zgR h0 a0 8 41) (fun v1 =>
  zob (zaI 0 h0 v1 ((8 * a1) + a2)) (fun v2 =>
  zob (zgR h0 a0 8 33) (fun v3 =>
  zob (zgR h0 a0 8 39) (fun v4 =>
  zob (zaI 0 h0 v4 ((8 * a1) + a2)) (fun v5 =>
  zob (zsL h0 v3 0 (Int32.toInt64 v5)) (fun h6 =>
  zob (zgR h6 a0 8 33) (fun v7 =>
  zob (zgR h6 a0 8 38) (fun v8 =>
  zob (zaI 0 h6 v8 ((8 * a1) + a2)) (fun v9 =>
  zbd (zcv 8 a0 h6 (f_X8_groundIn a0 v9 h6)) (fun v11 h10 =>
  zob (zsL h10 v7 1 (Int32.toInt64 v11)) (fun h12 =>
  zob (zgR h12 a0 8 33) (fun v13 =>
  zob (zgR h12 a0 8 40) (fun v14 =>
  zob (zaI 0 h12 v14 ((8 * a1) + a2)) (fun v15 =>
  zob (zsL h12 v13 2 (Int32.toInt64 v15)) (fun h16 =>
  zob (zgR h16 a0 8 33) (fun v17 =>
  zbd (α := Int64) (
  if v2 = (-1) then
  some (99, h16)
  else
  zob (zgR h16 a0 8 38) (fun v18 =>
  zob (zaI 0 h16 v18 ((8 * a1) + a2)) (fun v19 =>
  zob (zgR h16 a0 8 43) (fun v20 =>
  zob (zaI 0 h16 v20 ((6 * a1) + v2)) (fun v21 =>
  zbd ((f_X8_farOf v19 v21 h16)) (fun v23 h22 =>
  some ((Int32.toInt64 v23), h22))))))) (fun e24 h25 =>
  zob (zsL h25 v17 3 e24) (fun h26 =>
  zob (zgR h26 a0 8 33) (fun v27 =>
  zbd (zcv 8 a0 h26 (f_X8_upMany a0 a1 h26)) (fun v29 h28 =>
  zob (zsL h28 v27 4 (Int32.toInt64 v29)) (fun h30 =>
  zob (zgR h30 a0 8 33) (fun v31 =>
  zbd (α := Int64) (
  if v2 = (-1) then
  some (0, h30)
  else
  zob (zgR h30 a0 8 44) (fun v32 =>
  zob (zaI 0 h30 v32 ((6 * a1) + v2)) (fun v33 =>
  some ((Int32.toInt64 v33), h30)))) (fun e34 h35 =>
  zob (zsL h35 v31 5 e34) (fun h36 =>
  zob (zgR h36 a0 8 33) (fun v37 =>
  zob (zgR h36 a0 8 36) (fun v38 =>
  zob (zaI 0 h36 v38 a1) (fun v39 =>
  zob (zsL h36 v37 6 (Int32.toInt64 v39)) (fun h40 =>
  some ((), h40)))))))))))))))))))))))))))))
set_option maxRecDepth 100000 in
set_option maxHeartbeats 4000000 in
theorem t_X8_calls (a0 : Nat) (a1 : Int32) (a2 : Int32) (h0 : zHp) : ∀ (r : Unit) (h' : zHp), f_X8_calls a0 a1 a2 h0 = some (r, h') → zCt yX8_calls (.code yX8_calls cX8_calls 5 none) 3 105 0 0 [.ref a0, .int a1, .int a2] h0 (none) h' := by
  refine zct_of M_X8_calls yX8_calls (by decide) rfl rfl [.ref a0, .int a1, .int a2] h0 (Nat.le_of_ble_eq_true rfl) (fun _ => none) (fun X => ?_)
  show zG X M_X8_calls (0, 0) 0 [(0, .ref a0), (1, .int a1), (2, .int a2)] [] h0 (f_X8_calls a0 a1 a2 h0) (fun (_ : Unit) h' => zKe X (none) h')
  unfold f_X8_calls
  refine zg_bipush 8 rfl d_X8_calls_0 ?_
  refine zg_iload_n 1 rfl d_X8_calls_2 ?_
  refine zg_imul d_X8_calls_3 ?_
  refine zg_iload_n 2 rfl d_X8_calls_4 ?_
  refine zg_iadd d_X8_calls_5 ?_
  refine zg_istore_n [(3, .int ((8 * a1) + a2)), (0, .ref a0), (1, .int a1), (2, .int a2)] d_X8_calls_6 rfl (by decide) rfl ?_
  refine zg_aload_n 1 rfl d_X8_calls_7 ?_
  refine zg_getR d_X8_calls_8 zc_8 (by decide) fl_X8_90 (fun v1 => ?_)
  refine zg_iload_n 0 rfl d_X8_calls_11 ?_
  refine zg_ald0 d_X8_calls_12 (fun v2 => ?_)
  refine zg_istore [(4, .int v2), (3, .int ((8 * a1) + a2)), (0, .ref a0), (1, .int a1), (2, .int a2)] d_X8_calls_13 (by decide) rfl ?_
  refine zg_aload_n 2 rfl d_X8_calls_15 ?_
  refine zg_getR d_X8_calls_16 zc_8 (by decide) fl_X8_68 (fun v3 => ?_)
  refine zg_iconst 0 rfl d_X8_calls_19 ?_
  refine zg_aload_n 2 rfl d_X8_calls_20 ?_
  refine zg_getR d_X8_calls_21 zc_8 (by decide) fl_X8_84 (fun v4 => ?_)
  refine zg_iload_n 1 rfl d_X8_calls_24 ?_
  refine zg_ald0 d_X8_calls_25 (fun v5 => ?_)
  refine zg_i2l d_X8_calls_26 ?_
  refine zg_ast3 d_X8_calls_27 (fun h6 => ?_)
  refine zg_aload_n 2 rfl d_X8_calls_28 ?_
  refine zg_getR d_X8_calls_29 zc_8 (by decide) fl_X8_68 (fun v7 => ?_)
  refine zg_iconst 1 rfl d_X8_calls_32 ?_
  refine zg_aload_n 2 rfl d_X8_calls_33 ?_
  refine zg_aload_n 2 rfl d_X8_calls_34 ?_
  refine zg_getR d_X8_calls_35 zc_8 (by decide) fl_X8_81 (fun v8 => ?_)
  refine zg_iload_n 1 rfl d_X8_calls_38 ?_
  refine zg_ald0 d_X8_calls_39 (fun v9 => ?_)
  refine zg_cVi (b := a0) (As := [.int v9]) (rest := [.int 1, .ref v7]) (0, 0) d_X8_calls_40 zc_8 rfl cw_X8_355 wi_X8_groundIn ws_X8_groundIn rfl rfl (Nat.le_of_ble_eq_true rfl) (by decide) (by decide) ⟨by decide, by decide⟩ rfl (t_X8_groundIn a0 v9 h6) (fun v11 h10 => ?_)
  refine zg_i2l d_X8_calls_43 ?_
  refine zg_ast3 d_X8_calls_44 (fun h12 => ?_)
  refine zg_aload_n 2 rfl d_X8_calls_45 ?_
  refine zg_getR d_X8_calls_46 zc_8 (by decide) fl_X8_68 (fun v13 => ?_)
  refine zg_iconst 2 rfl d_X8_calls_49 ?_
  refine zg_aload_n 2 rfl d_X8_calls_50 ?_
  refine zg_getR d_X8_calls_51 zc_8 (by decide) fl_X8_87 (fun v14 => ?_)
  refine zg_iload_n 1 rfl d_X8_calls_54 ?_
  refine zg_ald0 d_X8_calls_55 (fun v15 => ?_)
  refine zg_i2l d_X8_calls_56 ?_
  refine zg_ast3 d_X8_calls_57 (fun h16 => ?_)
  refine zg_aload_n 2 rfl d_X8_calls_58 ?_
  refine zg_getR d_X8_calls_59 zc_8 (by decide) fl_X8_68 (fun v17 => ?_)
  refine zg_iconst 3 rfl d_X8_calls_62 ?_
  refine zg_iload 0 rfl d_X8_calls_63 ?_
  refine zg_iconst (-1) rfl d_X8_calls_65 ?_
  refine zg_bd (E := 97) (el := (fun (e24 : Int64) => [(0, .ref a0), (1, .int a1), (2, .int a2), (3, .int ((8 * a1) + a2)), (4, .int v2)])) (es := (fun (e24 : Int64) => [.long e24, .int 3, .ref v17])) ?_ (fun e24 h25 => ?_)
  · refine zg_icmp_ne d_X8_calls_66 ?_ ?_
    · refine zg_ldc2 kl_X8_358 d_X8_calls_69 ?_
      refine zg_goto d_X8_calls_72 ?_
      exact zg_finK (E := 0) [2, 3, 4, 1, 0] rfl rfl (fun q => q)
    · refine zg_aload_n 2 rfl d_X8_calls_75 ?_
      refine zg_getR d_X8_calls_76 zc_8 (by decide) fl_X8_81 (fun v18 => ?_)
      refine zg_iload_n 1 rfl d_X8_calls_79 ?_
      refine zg_ald0 d_X8_calls_80 (fun v19 => ?_)
      refine zg_aload_n 2 rfl d_X8_calls_81 ?_
      refine zg_getR d_X8_calls_82 zc_8 (by decide) fl_X8_96 (fun v20 => ?_)
      refine zg_bipush 6 rfl d_X8_calls_85 ?_
      refine zg_iload_n 3 rfl d_X8_calls_87 ?_
      refine zg_imul d_X8_calls_88 ?_
      refine zg_iload 0 rfl d_X8_calls_89 ?_
      refine zg_iadd d_X8_calls_91 ?_
      refine zg_ald0 d_X8_calls_92 (fun v21 => ?_)
      refine zg_cSi (As := [.int v19, .int v21]) (rest := [.int 3, .ref v17]) (0, 0) d_X8_calls_93 cw_X8_360 wt_X8_farOf rfl rfl (Nat.le_of_ble_eq_true rfl) (by decide) (by decide) ⟨by decide, by decide⟩ rfl (t_X8_farOf v19 v21 h16) (fun v23 h22 => ?_)
      refine zg_i2l d_X8_calls_96 ?_
      exact zg_finK (E := 0) [2, 3, 4, 1, 0] rfl rfl (fun q => q)
  · refine zg_ast3 d_X8_calls_97 (fun h26 => ?_)
    refine zg_aload_n 0 rfl d_X8_calls_98 ?_
    refine zg_getR d_X8_calls_99 zc_8 (by decide) fl_X8_68 (fun v27 => ?_)
    refine zg_iconst 4 rfl d_X8_calls_102 ?_
    refine zg_aload_n 0 rfl d_X8_calls_103 ?_
    refine zg_iload_n 1 rfl d_X8_calls_104 ?_
    refine zg_cVi (b := a0) (As := [.int a1]) (rest := [.int 4, .ref v27]) (0, 0) d_X8_calls_105 zc_8 rfl cw_X8_363 wi_X8_upMany ws_X8_upMany rfl rfl (Nat.le_of_ble_eq_true rfl) (by decide) (by decide) ⟨by decide, by decide⟩ rfl (t_X8_upMany a0 a1 h26) (fun v29 h28 => ?_)
    refine zg_i2l d_X8_calls_108 ?_
    refine zg_ast3 d_X8_calls_109 (fun h30 => ?_)
    refine zg_aload_n 0 rfl d_X8_calls_110 ?_
    refine zg_getR d_X8_calls_111 zc_8 (by decide) fl_X8_68 (fun v31 => ?_)
    refine zg_iconst 5 rfl d_X8_calls_114 ?_
    refine zg_iload 4 rfl d_X8_calls_115 ?_
    refine zg_iconst (-1) rfl d_X8_calls_117 ?_
    refine zg_bd (E := 138) (el := (fun (e34 : Int64) => [(0, .ref a0), (1, .int a1), (2, .int a2), (3, .int ((8 * a1) + a2)), (4, .int v2)])) (es := (fun (e34 : Int64) => [.long e34, .int 5, .ref v31])) ?_ (fun e34 h35 => ?_)
    · refine zg_icmp_ne d_X8_calls_118 ?_ ?_
      · refine zg_lconst 0 rfl d_X8_calls_121 ?_
        refine zg_goto d_X8_calls_122 ?_
        exact zg_finK (E := 0) [0, 1, 2, 3, 4] rfl rfl (fun q => q)
      · refine zg_aload_n 0 rfl d_X8_calls_125 ?_
        refine zg_getR d_X8_calls_126 zc_8 (by decide) fl_X8_99 (fun v32 => ?_)
        refine zg_bipush 6 rfl d_X8_calls_129 ?_
        refine zg_iload_n 1 rfl d_X8_calls_131 ?_
        refine zg_imul d_X8_calls_132 ?_
        refine zg_iload 4 rfl d_X8_calls_133 ?_
        refine zg_iadd d_X8_calls_135 ?_
        refine zg_ald0 d_X8_calls_136 (fun v33 => ?_)
        refine zg_i2l d_X8_calls_137 ?_
        exact zg_finK (E := 0) [0, 1, 2, 3, 4] rfl rfl (fun q => q)
    · refine zg_ast3 d_X8_calls_138 (fun h36 => ?_)
      refine zg_aload_n 0 rfl d_X8_calls_139 ?_
      refine zg_getR d_X8_calls_140 zc_8 (by decide) fl_X8_68 (fun v37 => ?_)
      refine zg_bipush 6 rfl d_X8_calls_143 ?_
      refine zg_aload_n 0 rfl d_X8_calls_145 ?_
      refine zg_getR d_X8_calls_146 zc_8 (by decide) fl_X8_75 (fun v38 => ?_)
      refine zg_iload_n 1 rfl d_X8_calls_149 ?_
      refine zg_ald0 d_X8_calls_150 (fun v39 => ?_)
      refine zg_i2l d_X8_calls_151 ?_
      refine zg_ast3 d_X8_calls_152 (fun h40 => ?_)
      exact zg_vretK d_X8_calls_153 rfl ⟨Nat.le_of_ble_eq_true rfl, Nat.le_of_ble_eq_true rfl⟩ (fun q => q)
abbrev M_X8_isCell : zMt := (RX8, cX8_isCell, 2, 1, 60, (some .boolean), "isCell", 0, 0)
theorem d_X8_isCell_0 : zDc M_X8_isCell 0 (.iload_n 0) 1 1 := ⟨by decide +kernel, rfl⟩
theorem d_X8_isCell_1 : zDj M_X8_isCell 1 (.ifCond .lt 22) 22 4 23 := ⟨by decide +kernel, rfl, by decide⟩
theorem d_X8_isCell_4 : zDc M_X8_isCell 4 (.iload_n 0) 1 5 := ⟨by decide +kernel, rfl⟩
theorem d_X8_isCell_5 : zDc M_X8_isCell 5 (.bipush 6) 2 7 := ⟨by decide +kernel, rfl⟩
theorem d_X8_isCell_7 : zDj M_X8_isCell 7 (.if_icmp .ge 16) 16 10 23 := ⟨by decide +kernel, rfl, by decide⟩
theorem d_X8_isCell_10 : zDc M_X8_isCell 10 (.iload_n 1) 1 11 := ⟨by decide +kernel, rfl⟩
theorem d_X8_isCell_11 : zDj M_X8_isCell 11 (.ifCond .lt 12) 12 14 23 := ⟨by decide +kernel, rfl, by decide⟩
theorem d_X8_isCell_14 : zDc M_X8_isCell 14 (.iload_n 1) 1 15 := ⟨by decide +kernel, rfl⟩
theorem d_X8_isCell_15 : zDc M_X8_isCell 15 (.iconst 4) 1 16 := ⟨by decide +kernel, rfl⟩
theorem d_X8_isCell_16 : zDj M_X8_isCell 16 (.if_icmp .ge 7) 7 19 23 := ⟨by decide +kernel, rfl, by decide⟩
theorem d_X8_isCell_19 : zDc M_X8_isCell 19 (.iconst 1) 1 20 := ⟨by decide +kernel, rfl⟩
theorem d_X8_isCell_20 : zDj M_X8_isCell 20 (.goto 4) 4 23 24 := ⟨by decide +kernel, rfl, by decide⟩
theorem d_X8_isCell_23 : zDc M_X8_isCell 23 (.iconst 0) 1 24 := ⟨by decide +kernel, rfl⟩
theorem d_X8_isCell_24 : zDc M_X8_isCell 24 (.ireturn) 1 25 := ⟨by decide +kernel, rfl⟩
def f_X8_isCell (a0 : Int32) (a1 : Int32) (h0 : zHp) : Option (Int32 × zHp) :=
  if a0 < 0 then
  some (0, h0)
  else
  if 6 ≤ a0 then
  some (0, h0)
  else
  if a1 < 0 then
  some (0, h0)
  else
  if 4 ≤ a1 then
  some (0, h0)
  else
  some (1, h0)
set_option maxRecDepth 100000 in
set_option maxHeartbeats 4000000 in
theorem t_X8_isCell (a0 : Int32) (a1 : Int32) (h0 : zHp) : ∀ (r : Int32) (h' : zHp), f_X8_isCell a0 a1 h0 = some (r, h') → zCt yX8_isCell (.code yX8_isCell cX8_isCell 2 (some .boolean)) 1 60 0 0 [.int a0, .int a1] h0 (some (.int r)) h' := by
  refine zct_of M_X8_isCell yX8_isCell (by decide) rfl rfl [.int a0, .int a1] h0 (Nat.le_of_ble_eq_true rfl) (fun r => some (.int r)) (fun X => ?_)
  show zG X M_X8_isCell (0, 0) 0 [(0, .int a0), (1, .int a1)] [] h0 (f_X8_isCell a0 a1 h0) (fun (r : Int32) h' => zKe X (some (.int r)) h')
  unfold f_X8_isCell
  refine zg_iload_n 0 rfl d_X8_isCell_0 ?_
  refine zg_if_lt d_X8_isCell_1 ?_ ?_
  · refine zg_iconst 0 rfl d_X8_isCell_23 ?_
    exact zg_zretK d_X8_isCell_24 rfl ⟨Nat.le_of_ble_eq_true rfl, Nat.le_of_ble_eq_true rfl⟩ (Or.inl rfl) (fun q => q)
  · refine zg_iload_n 0 rfl d_X8_isCell_4 ?_
    refine zg_bipush 6 rfl d_X8_isCell_5 ?_
    refine zg_icmp_ge d_X8_isCell_7 ?_ ?_
    · refine zg_iconst 0 rfl d_X8_isCell_23 ?_
      exact zg_zretK d_X8_isCell_24 rfl ⟨Nat.le_of_ble_eq_true rfl, Nat.le_of_ble_eq_true rfl⟩ (Or.inl rfl) (fun q => q)
    · refine zg_iload_n 1 rfl d_X8_isCell_10 ?_
      refine zg_if_lt d_X8_isCell_11 ?_ ?_
      · refine zg_iconst 0 rfl d_X8_isCell_23 ?_
        exact zg_zretK d_X8_isCell_24 rfl ⟨Nat.le_of_ble_eq_true rfl, Nat.le_of_ble_eq_true rfl⟩ (Or.inl rfl) (fun q => q)
      · refine zg_iload_n 1 rfl d_X8_isCell_14 ?_
        refine zg_iconst 4 rfl d_X8_isCell_15 ?_
        refine zg_icmp_ge d_X8_isCell_16 ?_ ?_
        · refine zg_iconst 0 rfl d_X8_isCell_23 ?_
          exact zg_zretK d_X8_isCell_24 rfl ⟨Nat.le_of_ble_eq_true rfl, Nat.le_of_ble_eq_true rfl⟩ (Or.inl rfl) (fun q => q)
        · refine zg_iconst 1 rfl d_X8_isCell_19 ?_
          refine zg_goto d_X8_isCell_20 ?_
          exact zg_zretK d_X8_isCell_24 rfl ⟨Nat.le_of_ble_eq_true rfl, Nat.le_of_ble_eq_true rfl⟩ (Or.inr rfl) (fun q => q)
abbrev M_X8_drifts : zMt := (RX8, cX8_drifts, 7, 2, 81, none, "drifts", 0, 0)
theorem d_X8_drifts_0 : zDc M_X8_drifts 0 (.bipush 8) 2 2 := ⟨by decide +kernel, rfl⟩
theorem d_X8_drifts_2 : zDc M_X8_drifts 2 (.iload_n 1) 1 3 := ⟨by decide +kernel, rfl⟩
theorem d_X8_drifts_3 : zDc M_X8_drifts 3 (.imul) 1 4 := ⟨by decide +kernel, rfl⟩
theorem d_X8_drifts_4 : zDc M_X8_drifts 4 (.iload_n 2) 1 5 := ⟨by decide +kernel, rfl⟩
theorem d_X8_drifts_5 : zDc M_X8_drifts 5 (.iadd) 1 6 := ⟨by decide +kernel, rfl⟩
theorem d_X8_drifts_6 : zDc M_X8_drifts 6 (.istore 4) 2 8 := ⟨by decide +kernel, rfl⟩
theorem d_X8_drifts_8 : zDc M_X8_drifts 8 (.aload_n 0) 1 9 := ⟨by decide +kernel, rfl⟩
theorem d_X8_drifts_9 : zDc M_X8_drifts 9 (.getfield 81) 3 12 := ⟨by decide +kernel, rfl⟩
theorem d_X8_drifts_12 : zDc M_X8_drifts 12 (.iload 4) 2 14 := ⟨by decide +kernel, rfl⟩
theorem d_X8_drifts_14 : zDc M_X8_drifts 14 (.iaload) 1 15 := ⟨by decide +kernel, rfl⟩
theorem d_X8_drifts_15 : zDc M_X8_drifts 15 (.bipush 6) 2 17 := ⟨by decide +kernel, rfl⟩
theorem d_X8_drifts_17 : zDc M_X8_drifts 17 (.irem) 1 18 := ⟨by decide +kernel, rfl⟩
theorem d_X8_drifts_18 : zDc M_X8_drifts 18 (.iload_n 3) 1 19 := ⟨by decide +kernel, rfl⟩
theorem d_X8_drifts_19 : zDc M_X8_drifts 19 (.iconst 1) 1 20 := ⟨by decide +kernel, rfl⟩
theorem d_X8_drifts_20 : zDj M_X8_drifts 20 (.if_icmp .ne 7) 7 23 27 := ⟨by decide +kernel, rfl, by decide⟩
theorem d_X8_drifts_23 : zDc M_X8_drifts 23 (.iconst 1) 1 24 := ⟨by decide +kernel, rfl⟩
theorem d_X8_drifts_24 : zDj M_X8_drifts 24 (.goto 13) 13 27 37 := ⟨by decide +kernel, rfl, by decide⟩
theorem d_X8_drifts_27 : zDc M_X8_drifts 27 (.iload_n 3) 1 28 := ⟨by decide +kernel, rfl⟩
theorem d_X8_drifts_28 : zDc M_X8_drifts 28 (.iconst 3) 1 29 := ⟨by decide +kernel, rfl⟩
theorem d_X8_drifts_29 : zDj M_X8_drifts 29 (.if_icmp .ne 7) 7 32 36 := ⟨by decide +kernel, rfl, by decide⟩
theorem d_X8_drifts_32 : zDc M_X8_drifts 32 (.iconst (-1)) 1 33 := ⟨by decide +kernel, rfl⟩
theorem d_X8_drifts_33 : zDj M_X8_drifts 33 (.goto 4) 4 36 37 := ⟨by decide +kernel, rfl, by decide⟩
theorem d_X8_drifts_36 : zDc M_X8_drifts 36 (.iconst 0) 1 37 := ⟨by decide +kernel, rfl⟩
theorem d_X8_drifts_37 : zDc M_X8_drifts 37 (.iadd) 1 38 := ⟨by decide +kernel, rfl⟩
theorem d_X8_drifts_38 : zDc M_X8_drifts 38 (.istore 5) 2 40 := ⟨by decide +kernel, rfl⟩
theorem d_X8_drifts_40 : zDc M_X8_drifts 40 (.aload_n 0) 1 41 := ⟨by decide +kernel, rfl⟩
theorem d_X8_drifts_41 : zDc M_X8_drifts 41 (.getfield 81) 3 44 := ⟨by decide +kernel, rfl⟩
theorem d_X8_drifts_44 : zDc M_X8_drifts 44 (.iload 4) 2 46 := ⟨by decide +kernel, rfl⟩
theorem d_X8_drifts_46 : zDc M_X8_drifts 46 (.iaload) 1 47 := ⟨by decide +kernel, rfl⟩
theorem d_X8_drifts_47 : zDc M_X8_drifts 47 (.bipush 6) 2 49 := ⟨by decide +kernel, rfl⟩
theorem d_X8_drifts_49 : zDc M_X8_drifts 49 (.idiv) 1 50 := ⟨by decide +kernel, rfl⟩
theorem d_X8_drifts_50 : zDc M_X8_drifts 50 (.iload_n 3) 1 51 := ⟨by decide +kernel, rfl⟩
theorem d_X8_drifts_51 : zDc M_X8_drifts 51 (.iconst 2) 1 52 := ⟨by decide +kernel, rfl⟩
theorem d_X8_drifts_52 : zDj M_X8_drifts 52 (.if_icmp .ne 7) 7 55 59 := ⟨by decide +kernel, rfl, by decide⟩
theorem d_X8_drifts_55 : zDc M_X8_drifts 55 (.iconst 1) 1 56 := ⟨by decide +kernel, rfl⟩
theorem d_X8_drifts_56 : zDj M_X8_drifts 56 (.goto 13) 13 59 69 := ⟨by decide +kernel, rfl, by decide⟩
theorem d_X8_drifts_59 : zDc M_X8_drifts 59 (.iload_n 3) 1 60 := ⟨by decide +kernel, rfl⟩
theorem d_X8_drifts_60 : zDc M_X8_drifts 60 (.iconst 4) 1 61 := ⟨by decide +kernel, rfl⟩
theorem d_X8_drifts_61 : zDj M_X8_drifts 61 (.if_icmp .ne 7) 7 64 68 := ⟨by decide +kernel, rfl, by decide⟩
theorem d_X8_drifts_64 : zDc M_X8_drifts 64 (.iconst (-1)) 1 65 := ⟨by decide +kernel, rfl⟩
theorem d_X8_drifts_65 : zDj M_X8_drifts 65 (.goto 4) 4 68 69 := ⟨by decide +kernel, rfl, by decide⟩
theorem d_X8_drifts_68 : zDc M_X8_drifts 68 (.iconst 0) 1 69 := ⟨by decide +kernel, rfl⟩
theorem d_X8_drifts_69 : zDc M_X8_drifts 69 (.iadd) 1 70 := ⟨by decide +kernel, rfl⟩
theorem d_X8_drifts_70 : zDc M_X8_drifts 70 (.istore 6) 2 72 := ⟨by decide +kernel, rfl⟩
theorem d_X8_drifts_72 : zDc M_X8_drifts 72 (.iload 5) 2 74 := ⟨by decide +kernel, rfl⟩
theorem d_X8_drifts_74 : zDc M_X8_drifts 74 (.iload 6) 2 76 := ⟨by decide +kernel, rfl⟩
theorem d_X8_drifts_76 : zDc M_X8_drifts 76 (.invokestatic 378) 3 79 := ⟨by decide +kernel, rfl⟩
theorem d_X8_drifts_79 : zDj M_X8_drifts 79 (.ifCond .eq 21) 21 82 100 := ⟨by decide +kernel, rfl, by decide⟩
theorem d_X8_drifts_82 : zDc M_X8_drifts 82 (.aload_n 0) 1 83 := ⟨by decide +kernel, rfl⟩
theorem d_X8_drifts_83 : zDc M_X8_drifts 83 (.getfield 81) 3 86 := ⟨by decide +kernel, rfl⟩
theorem d_X8_drifts_86 : zDc M_X8_drifts 86 (.iload 4) 2 88 := ⟨by decide +kernel, rfl⟩
theorem d_X8_drifts_88 : zDc M_X8_drifts 88 (.bipush 6) 2 90 := ⟨by decide +kernel, rfl⟩
theorem d_X8_drifts_90 : zDc M_X8_drifts 90 (.iload 6) 2 92 := ⟨by decide +kernel, rfl⟩
theorem d_X8_drifts_92 : zDc M_X8_drifts 92 (.imul) 1 93 := ⟨by decide +kernel, rfl⟩
theorem d_X8_drifts_93 : zDc M_X8_drifts 93 (.iload 5) 2 95 := ⟨by decide +kernel, rfl⟩
theorem d_X8_drifts_95 : zDc M_X8_drifts 95 (.iadd) 1 96 := ⟨by decide +kernel, rfl⟩
theorem d_X8_drifts_96 : zDc M_X8_drifts 96 (.iastore) 1 97 := ⟨by decide +kernel, rfl⟩
theorem d_X8_drifts_97 : zDj M_X8_drifts 97 (.goto 11) 11 100 108 := ⟨by decide +kernel, rfl, by decide⟩
theorem d_X8_drifts_100 : zDc M_X8_drifts 100 (.aload_n 0) 1 101 := ⟨by decide +kernel, rfl⟩
theorem d_X8_drifts_101 : zDc M_X8_drifts 101 (.getfield 93) 3 104 := ⟨by decide +kernel, rfl⟩
theorem d_X8_drifts_104 : zDc M_X8_drifts 104 (.iload 4) 2 106 := ⟨by decide +kernel, rfl⟩
theorem d_X8_drifts_106 : zDc M_X8_drifts 106 (.iconst 2) 1 107 := ⟨by decide +kernel, rfl⟩
theorem d_X8_drifts_107 : zDc M_X8_drifts 107 (.iastore) 1 108 := ⟨by decide +kernel, rfl⟩
theorem d_X8_drifts_108 : zDc M_X8_drifts 108 (.return_) 1 109 := ⟨by decide +kernel, rfl⟩
def f_X8_drifts (a0 : Nat) (a1 : Int32) (a2 : Int32) (a3 : Int32) (h0 : zHp) : Option (Unit × zHp) :=
  zob (zgR h0 a0 8 38) (fun v1 =>
  zob (zaI 0 h0 v1 ((8 * a1) + a2)) (fun v2 =>
  zbd (α := Int32) (
  if a3 = 1 then
  some (1, h0)
  else
  if a3 = 3 then
  some ((-1), h0)
  else
  some (0, h0)) (fun e3 h4 =>
  zob (zgR h4 a0 8 38) (fun v5 =>
  zob (zaI 0 h4 v5 ((8 * a1) + a2)) (fun v6 =>
  zbd (α := Int32) (
  if a3 = 2 then
  some (1, h4)
  else
  if a3 = 4 then
  some ((-1), h4)
  else
  some (0, h4)) (fun e7 h8 =>
  zbd ((f_X8_isCell ((zrm v2 6) + e3) ((v6 / 6) + e7) h8)) (fun v10 h9 =>
  if v10 = 0 then
  zob (zgR h9 a0 8 42) (fun v11 =>
  zob (zsI 0 h9 v11 ((8 * a1) + a2) 2) (fun h12 =>
  some ((), h12)))
  else
  zob (zgR h9 a0 8 38) (fun v13 =>
  zob (zsI 0 h9 v13 ((8 * a1) + a2) ((6 * ((v6 / 6) + e7)) + ((zrm v2 6) + e3))) (fun h14 =>
  some ((), h14))))))))))
set_option maxRecDepth 100000 in
set_option maxHeartbeats 4000000 in
theorem t_X8_drifts (a0 : Nat) (a1 : Int32) (a2 : Int32) (a3 : Int32) (h0 : zHp) : ∀ (r : Unit) (h' : zHp), f_X8_drifts a0 a1 a2 a3 h0 = some (r, h') → zCt yX8_drifts (.code yX8_drifts cX8_drifts 7 none) 2 81 0 0 [.ref a0, .int a1, .int a2, .int a3] h0 (none) h' := by
  refine zct_of M_X8_drifts yX8_drifts (by decide) rfl rfl [.ref a0, .int a1, .int a2, .int a3] h0 (Nat.le_of_ble_eq_true rfl) (fun _ => none) (fun X => ?_)
  show zG X M_X8_drifts (0, 0) 0 [(0, .ref a0), (1, .int a1), (2, .int a2), (3, .int a3)] [] h0 (f_X8_drifts a0 a1 a2 a3 h0) (fun (_ : Unit) h' => zKe X (none) h')
  unfold f_X8_drifts
  refine zg_bipush 8 rfl d_X8_drifts_0 ?_
  refine zg_iload_n 1 rfl d_X8_drifts_2 ?_
  refine zg_imul d_X8_drifts_3 ?_
  refine zg_iload_n 2 rfl d_X8_drifts_4 ?_
  refine zg_iadd d_X8_drifts_5 ?_
  refine zg_istore [(4, .int ((8 * a1) + a2)), (0, .ref a0), (1, .int a1), (2, .int a2), (3, .int a3)] d_X8_drifts_6 (by decide) rfl ?_
  refine zg_aload_n 1 rfl d_X8_drifts_8 ?_
  refine zg_getR d_X8_drifts_9 zc_8 (by decide) fl_X8_81 (fun v1 => ?_)
  refine zg_iload 0 rfl d_X8_drifts_12 ?_
  refine zg_ald0 d_X8_drifts_14 (fun v2 => ?_)
  refine zg_bipush 6 rfl d_X8_drifts_15 ?_
  refine zg_irem (by decide) d_X8_drifts_17 ?_
  refine zg_iload_n 4 rfl d_X8_drifts_18 ?_
  refine zg_iconst 1 rfl d_X8_drifts_19 ?_
  refine zg_bd (E := 37) (el := (fun (e3 : Int32) => [(0, .ref a0), (1, .int a1), (2, .int a2), (3, .int a3), (4, .int ((8 * a1) + a2))])) (es := (fun (e3 : Int32) => [.int e3, .int (zrm v2 6)])) ?_ (fun e3 h4 => ?_)
  · refine zg_icmp_ne d_X8_drifts_20 ?_ ?_
    · refine zg_iconst 1 rfl d_X8_drifts_23 ?_
      refine zg_goto d_X8_drifts_24 ?_
      exact zg_finK (E := 0) [1, 2, 3, 4, 0] rfl rfl (fun q => q)
    · refine zg_iload_n 4 rfl d_X8_drifts_27 ?_
      refine zg_iconst 3 rfl d_X8_drifts_28 ?_
      refine zg_icmp_ne d_X8_drifts_29 ?_ ?_
      · refine zg_iconst (-1) rfl d_X8_drifts_32 ?_
        refine zg_goto d_X8_drifts_33 ?_
        exact zg_finK (E := 0) [1, 2, 3, 4, 0] rfl rfl (fun q => q)
      · refine zg_iconst 0 rfl d_X8_drifts_36 ?_
        exact zg_finK (E := 0) [1, 2, 3, 4, 0] rfl rfl (fun q => q)
  · refine zg_iadd d_X8_drifts_37 ?_
    refine zg_istore [(5, .int ((zrm v2 6) + e3)), (0, .ref a0), (1, .int a1), (2, .int a2), (3, .int a3), (4, .int ((8 * a1) + a2))] d_X8_drifts_38 (by decide) rfl ?_
    refine zg_aload_n 1 rfl d_X8_drifts_40 ?_
    refine zg_getR d_X8_drifts_41 zc_8 (by decide) fl_X8_81 (fun v5 => ?_)
    refine zg_iload 5 rfl d_X8_drifts_44 ?_
    refine zg_ald0 d_X8_drifts_46 (fun v6 => ?_)
    refine zg_bipush 6 rfl d_X8_drifts_47 ?_
    refine zg_idiv (by decide) d_X8_drifts_49 ?_
    refine zg_iload_n 4 rfl d_X8_drifts_50 ?_
    refine zg_iconst 2 rfl d_X8_drifts_51 ?_
    refine zg_bd (E := 69) (el := (fun (e7 : Int32) => [(0, .ref a0), (1, .int a1), (2, .int a2), (3, .int a3), (4, .int ((8 * a1) + a2)), (5, .int ((zrm v2 6) + e3))])) (es := (fun (e7 : Int32) => [.int e7, .int (v6 / 6)])) ?_ (fun e7 h8 => ?_)
    · refine zg_icmp_ne d_X8_drifts_52 ?_ ?_
      · refine zg_iconst 1 rfl d_X8_drifts_55 ?_
        refine zg_goto d_X8_drifts_56 ?_
        exact zg_finK (E := 0) [1, 2, 3, 4, 5, 0] rfl rfl (fun q => q)
      · refine zg_iload_n 4 rfl d_X8_drifts_59 ?_
        refine zg_iconst 4 rfl d_X8_drifts_60 ?_
        refine zg_icmp_ne d_X8_drifts_61 ?_ ?_
        · refine zg_iconst (-1) rfl d_X8_drifts_64 ?_
          refine zg_goto d_X8_drifts_65 ?_
          exact zg_finK (E := 0) [1, 2, 3, 4, 5, 0] rfl rfl (fun q => q)
        · refine zg_iconst 0 rfl d_X8_drifts_68 ?_
          exact zg_finK (E := 0) [1, 2, 3, 4, 5, 0] rfl rfl (fun q => q)
    · refine zg_iadd d_X8_drifts_69 ?_
      refine zg_istore [(6, .int ((v6 / 6) + e7)), (0, .ref a0), (1, .int a1), (2, .int a2), (3, .int a3), (4, .int ((8 * a1) + a2)), (5, .int ((zrm v2 6) + e3))] d_X8_drifts_70 (by decide) rfl ?_
      refine zg_iload 6 rfl d_X8_drifts_72 ?_
      refine zg_iload 0 rfl d_X8_drifts_74 ?_
      refine zg_cSi (As := [.int ((zrm v2 6) + e3), .int ((v6 / 6) + e7)]) (rest := []) (0, 0) d_X8_drifts_76 cw_X8_378 wt_X8_isCell rfl rfl (Nat.le_of_ble_eq_true rfl) (by decide) (by decide) ⟨by decide, by decide⟩ rfl (t_X8_isCell ((zrm v2 6) + e3) ((v6 / 6) + e7) h8) (fun v10 h9 => ?_)
      refine zg_if_eq d_X8_drifts_79 ?_ ?_
      · refine zg_aload_n 1 rfl d_X8_drifts_100 ?_
        refine zg_getR d_X8_drifts_101 zc_8 (by decide) fl_X8_93 (fun v11 => ?_)
        refine zg_iload 5 rfl d_X8_drifts_104 ?_
        refine zg_iconst 2 rfl d_X8_drifts_106 ?_
        refine zg_ast0 d_X8_drifts_107 (fun h12 => ?_)
        exact zg_vretK d_X8_drifts_108 rfl ⟨Nat.le_of_ble_eq_true rfl, Nat.le_of_ble_eq_true rfl⟩ (fun q => q)
      · refine zg_aload_n 1 rfl d_X8_drifts_82 ?_
        refine zg_getR d_X8_drifts_83 zc_8 (by decide) fl_X8_81 (fun v13 => ?_)
        refine zg_iload 5 rfl d_X8_drifts_86 ?_
        refine zg_bipush 6 rfl d_X8_drifts_88 ?_
        refine zg_iload 0 rfl d_X8_drifts_90 ?_
        refine zg_imul d_X8_drifts_92 ?_
        refine zg_iload 6 rfl d_X8_drifts_93 ?_
        refine zg_iadd d_X8_drifts_95 ?_
        refine zg_ast0 d_X8_drifts_96 (fun h14 => ?_)
        refine zg_goto d_X8_drifts_97 ?_
        exact zg_vretK d_X8_drifts_108 rfl ⟨Nat.le_of_ble_eq_true rfl, Nat.le_of_ble_eq_true rfl⟩ (fun q => q)

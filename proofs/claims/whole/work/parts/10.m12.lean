theorem ml_X8_425 : Cond.methodLink RX8 425 yX8_isChild ∈ zT := zw_of _ 1726 (by decide +kernel) (by decide +kernel)
theorem cd_X8_isChild : Cond.code yX8_isChild cX8_isChild 2 (some .boolean) ∈ zT := zw_of _ 1729 (by decide +kernel) (by decide +kernel)
theorem cw_X8_425 : zCw RX8 425 yX8_isChild cX8_isChild 2 (some .boolean) 1 := ⟨ml_X8_425, ni_X8, cd_X8_isChild, by decide, by decide, by decide +kernel⟩
theorem wi_X8_isChild : Cond.instanceMethod yX8_isChild ∈ zT := zw_of _ 1728 (by decide +kernel) (by decide +kernel)
theorem ws_X8_isChild : Cond.selects RX8 yX8_isChild yX8_isChild ∈ zT := zw_of _ 80 (by decide +kernel) (by decide +kernel)
theorem fl_X8_151 : Cond.fieldLink RX8 151 (TX8 0).1 (TX8 0).2.1 (TX8 0).2.2.1 ∈ zT := zw_of _ 1362 (by decide +kernel) (by decide +kernel)
theorem fl_X8_307 : Cond.fieldLink RX8 307 (TX8 47).1 (TX8 47).2.1 (TX8 47).2.2.1 ∈ zT := zw_of _ 1409 (by decide +kernel) (by decide +kernel)
theorem ml_X8_416 : Cond.methodLink RX8 416 yX8_copies ∈ zT := zw_of _ 1826 (by decide +kernel) (by decide +kernel)
theorem cd_X8_copies : Cond.code yX8_copies cX8_copies 6 none ∈ zT := zw_of _ 1829 (by decide +kernel) (by decide +kernel)
theorem cw_X8_416 : zCw RX8 416 yX8_copies cX8_copies 6 none 2 := ⟨ml_X8_416, ni_X8, cd_X8_copies, by decide, by decide, by decide +kernel⟩
theorem wi_X8_copies : Cond.instanceMethod yX8_copies ∈ zT := zw_of _ 1828 (by decide +kernel) (by decide +kernel)
theorem ws_X8_copies : Cond.selects RX8 yX8_copies yX8_copies ∈ zT := zw_of _ 95 (by decide +kernel) (by decide +kernel)
theorem fl_X8_311 : Cond.fieldLink RX8 311 (TX8 48).1 (TX8 48).2.1 (TX8 48).2.2.1 ∈ zT := zw_of _ 1410 (by decide +kernel) (by decide +kernel)
theorem fl_X8_114 : Cond.fieldLink RX8 114 (TX8 52).1 (TX8 52).2.1 (TX8 52).2.2.1 ∈ zT := zw_of _ 1414 (by decide +kernel) (by decide +kernel)
theorem fl_X8_340 : Cond.fieldLink RX8 340 (TX8 53).1 (TX8 53).2.1 (TX8 53).2.2.1 ∈ zT := zw_of _ 1415 (by decide +kernel) (by decide +kernel)
theorem fl_X8_34 : Cond.fieldLink RX8 34 (TX8 10).1 (TX8 10).2.1 (TX8 10).2.2.1 ∈ zT := zw_of _ 1372 (by decide +kernel) (by decide +kernel)
theorem fl_X8_31 : Cond.fieldLink RX8 31 (TX8 9).1 (TX8 9).2.1 (TX8 9).2.2.1 ∈ zT := zw_of _ 1371 (by decide +kernel) (by decide +kernel)
theorem ml_X8_334 : Cond.methodLink RX8 334 yX8_sizeIn ∈ zT := zw_of _ 1358 (by decide +kernel) (by decide +kernel)
theorem cd_X8_sizeIn : Cond.code yX8_sizeIn cX8_sizeIn 2 (some .int) ∈ zT := zw_of _ 1361 (by decide +kernel) (by decide +kernel)
theorem cw_X8_334 : zCw RX8 334 yX8_sizeIn cX8_sizeIn 2 (some .int) 1 := ⟨ml_X8_334, ni_X8, cd_X8_sizeIn, by decide, by decide, by decide +kernel⟩
theorem wi_X8_sizeIn : Cond.instanceMethod yX8_sizeIn ∈ zT := zw_of _ 1360 (by decide +kernel) (by decide +kernel)
theorem ws_X8_sizeIn : Cond.selects RX8 yX8_sizeIn yX8_sizeIn ∈ zT := zw_of _ 52 (by decide +kernel) (by decide +kernel)
theorem fl_X8_43 : Cond.fieldLink RX8 43 (TX8 13).1 (TX8 13).2.1 (TX8 13).2.2.1 ∈ zT := zw_of _ 1375 (by decide +kernel) (by decide +kernel)
theorem ml_X8_337 : Cond.methodLink RX8 337 yX8_starts ∈ zT := zw_of _ 1354 (by decide +kernel) (by decide +kernel)
theorem cd_X8_starts : Cond.code yX8_starts cX8_starts 4 none ∈ zT := zw_of _ 1357 (by decide +kernel) (by decide +kernel)
theorem cw_X8_337 : zCw RX8 337 yX8_starts cX8_starts 4 none 1 := ⟨ml_X8_337, ni_X8, cd_X8_starts, by decide, by decide, by decide +kernel⟩
theorem wi_X8_starts : Cond.instanceMethod yX8_starts ∈ zT := zw_of _ 1356 (by decide +kernel) (by decide +kernel)
theorem ws_X8_starts : Cond.selects RX8 yX8_starts yX8_starts ∈ zT := zw_of _ 51 (by decide +kernel) (by decide +kernel)
theorem ml_X8_444 : Cond.methodLink RX8 444 yX8_keepNow ∈ zT := zw_of _ 1822 (by decide +kernel) (by decide +kernel)
theorem cd_X8_keepNow : Cond.code yX8_keepNow cX8_keepNow 2 none ∈ zT := zw_of _ 1825 (by decide +kernel) (by decide +kernel)
theorem cw_X8_444 : zCw RX8 444 yX8_keepNow cX8_keepNow 2 none 0 := ⟨ml_X8_444, ni_X8, cd_X8_keepNow, by decide, by decide, by decide +kernel⟩
theorem wi_X8_keepNow : Cond.instanceMethod yX8_keepNow ∈ zT := zw_of _ 1824 (by decide +kernel) (by decide +kernel)
theorem ws_X8_keepNow : Cond.selects RX8 yX8_keepNow yX8_keepNow ∈ zT := zw_of _ 94 (by decide +kernel) (by decide +kernel)
theorem fl_X8_157 : Cond.fieldLink RX8 157 (TX8 23).1 (TX8 23).2.1 (TX8 23).2.2.1 ∈ zT := zw_of _ 1385 (by decide +kernel) (by decide +kernel)
theorem fl_X8_160 : Cond.fieldLink RX8 160 (TX8 22).1 (TX8 22).2.1 (TX8 22).2.2.1 ∈ zT := zw_of _ 1384 (by decide +kernel) (by decide +kernel)
theorem fl_X8_7 : Cond.fieldLink RX8 7 (TX8 1).1 (TX8 1).2.1 (TX8 1).2.2.1 ∈ zT := zw_of _ 1363 (by decide +kernel) (by decide +kernel)
theorem fl_X8_180 : Cond.fieldLink RX8 180 (TX8 26).1 (TX8 26).2.1 (TX8 26).2.2.1 ∈ zT := zw_of _ 1388 (by decide +kernel) (by decide +kernel)
theorem fl_X8_167 : Cond.fieldLink RX8 167 (TX8 24).1 (TX8 24).2.1 (TX8 24).2.2.1 ∈ zT := zw_of _ 1386 (by decide +kernel) (by decide +kernel)
theorem fl_X8_170 : Cond.fieldLink RX8 170 (TX8 25).1 (TX8 25).2.1 (TX8 25).2.2.1 ∈ zT := zw_of _ 1387 (by decide +kernel) (by decide +kernel)
theorem ml_X8_163 : Cond.methodLink RX8 163 yX8_here ∈ zT := zw_of _ 1587 (by decide +kernel) (by decide +kernel)
theorem cd_X8_here : Cond.code yX8_here cX8_here 1 (some .int) ∈ zT := zw_of _ 1590 (by decide +kernel) (by decide +kernel)
theorem cw_X8_163 : zCw RX8 163 yX8_here cX8_here 1 (some .int) 0 := ⟨ml_X8_163, ni_X8, cd_X8_here, by decide, by decide, by decide +kernel⟩
theorem wi_X8_here : Cond.instanceMethod yX8_here ∈ zT := zw_of _ 1589 (by decide +kernel) (by decide +kernel)
theorem ws_X8_here : Cond.selects RX8 yX8_here yX8_here ∈ zT := zw_of _ 55 (by decide +kernel) (by decide +kernel)
theorem fl_X8_205 : Cond.fieldLink RX8 205 (TX8 27).1 (TX8 27).2.1 (TX8 27).2.2.1 ∈ zT := zw_of _ 1389 (by decide +kernel) (by decide +kernel)
theorem fl_X8_208 : Cond.fieldLink RX8 208 (TX8 28).1 (TX8 28).2.1 (TX8 28).2.2.1 ∈ zT := zw_of _ 1390 (by decide +kernel) (by decide +kernel)
theorem ml_X8_428 : Cond.methodLink RX8 428 yX8_rainBy ∈ zT := zw_of _ 1738 (by decide +kernel) (by decide +kernel)
theorem cd_X8_rainBy : Cond.code yX8_rainBy cX8_rainBy 5 (some .int) ∈ zT := zw_of _ 1741 (by decide +kernel) (by decide +kernel)
theorem cw_X8_428 : zCw RX8 428 yX8_rainBy cX8_rainBy 5 (some .int) 2 := ⟨ml_X8_428, ni_X8, cd_X8_rainBy, by decide, by decide, by decide +kernel⟩
theorem wi_X8_rainBy : Cond.instanceMethod yX8_rainBy ∈ zT := zw_of _ 1740 (by decide +kernel) (by decide +kernel)
theorem ws_X8_rainBy : Cond.selects RX8 yX8_rainBy yX8_rainBy ∈ zT := zw_of _ 83 (by decide +kernel) (by decide +kernel)
abbrev M_X8_isChild : zMt := (RX8, cX8_isChild, 2, 1, 60, (some .boolean), "isChild", 0, 0)
theorem d_X8_isChild_0 : zDc M_X8_isChild 0 (.iload_n 1) 1 1 := ⟨by decide +kernel, rfl⟩
theorem d_X8_isChild_1 : zDj M_X8_isChild 1 (.ifCond .lt 17) 17 4 18 := ⟨by decide +kernel, rfl, by decide⟩
theorem d_X8_isChild_4 : zDc M_X8_isChild 4 (.iload_n 1) 1 5 := ⟨by decide +kernel, rfl⟩
theorem d_X8_isChild_5 : zDc M_X8_isChild 5 (.aload_n 0) 1 6 := ⟨by decide +kernel, rfl⟩
theorem d_X8_isChild_6 : zDc M_X8_isChild 6 (.getfield 13) 3 9 := ⟨by decide +kernel, rfl⟩
theorem d_X8_isChild_9 : zDc M_X8_isChild 9 (.iconst 2) 1 10 := ⟨by decide +kernel, rfl⟩
theorem d_X8_isChild_10 : zDc M_X8_isChild 10 (.iaload) 1 11 := ⟨by decide +kernel, rfl⟩
theorem d_X8_isChild_11 : zDj M_X8_isChild 11 (.if_icmp .ge 7) 7 14 18 := ⟨by decide +kernel, rfl, by decide⟩
theorem d_X8_isChild_14 : zDc M_X8_isChild 14 (.iconst 1) 1 15 := ⟨by decide +kernel, rfl⟩
theorem d_X8_isChild_15 : zDj M_X8_isChild 15 (.goto 4) 4 18 19 := ⟨by decide +kernel, rfl, by decide⟩
theorem d_X8_isChild_18 : zDc M_X8_isChild 18 (.iconst 0) 1 19 := ⟨by decide +kernel, rfl⟩
theorem d_X8_isChild_19 : zDc M_X8_isChild 19 (.ireturn) 1 20 := ⟨by decide +kernel, rfl⟩
def f_X8_isChild (a0 : Nat) (a1 : Int32) (h0 : zHp) : Option (Int32 × zHp) :=
  if a1 < 0 then
  some (0, h0)
  else
  zob (zgR h0 a0 8 3) (fun v1 =>
  zob (zaI 0 h0 v1 2) (fun v2 =>
  if v2 ≤ a1 then
  some (0, h0)
  else
  some (1, h0)))
set_option maxRecDepth 100000 in
set_option maxHeartbeats 4000000 in
theorem t_X8_isChild (a0 : Nat) (a1 : Int32) (h0 : zHp) : ∀ (r : Int32) (h' : zHp), f_X8_isChild a0 a1 h0 = some (r, h') → zCt yX8_isChild (.code yX8_isChild cX8_isChild 2 (some .boolean)) 1 60 0 0 [.ref a0, .int a1] h0 (some (.int r)) h' := by
  refine zct_of M_X8_isChild yX8_isChild (by decide) rfl rfl [.ref a0, .int a1] h0 (Nat.le_of_ble_eq_true rfl) (fun r => some (.int r)) (fun X => ?_)
  show zG X M_X8_isChild (0, 0) 0 [(0, .ref a0), (1, .int a1)] [] h0 (f_X8_isChild a0 a1 h0) (fun (r : Int32) h' => zKe X (some (.int r)) h')
  unfold f_X8_isChild
  refine zg_iload_n 1 rfl d_X8_isChild_0 ?_
  refine zg_if_lt d_X8_isChild_1 ?_ ?_
  · refine zg_iconst 0 rfl d_X8_isChild_18 ?_
    exact zg_zretK d_X8_isChild_19 rfl ⟨Nat.le_of_ble_eq_true rfl, Nat.le_of_ble_eq_true rfl⟩ (Or.inl rfl) (fun q => q)
  · refine zg_iload_n 1 rfl d_X8_isChild_4 ?_
    refine zg_aload_n 0 rfl d_X8_isChild_5 ?_
    refine zg_getR d_X8_isChild_6 zc_8 (by decide) fl_X8_13 (fun v1 => ?_)
    refine zg_iconst 2 rfl d_X8_isChild_9 ?_
    refine zg_ald0 d_X8_isChild_10 (fun v2 => ?_)
    refine zg_icmp_ge d_X8_isChild_11 ?_ ?_
    · refine zg_iconst 0 rfl d_X8_isChild_18 ?_
      exact zg_zretK d_X8_isChild_19 rfl ⟨Nat.le_of_ble_eq_true rfl, Nat.le_of_ble_eq_true rfl⟩ (Or.inl rfl) (fun q => q)
    · refine zg_iconst 1 rfl d_X8_isChild_14 ?_
      refine zg_goto d_X8_isChild_15 ?_
      exact zg_zretK d_X8_isChild_19 rfl ⟨Nat.le_of_ble_eq_true rfl, Nat.le_of_ble_eq_true rfl⟩ (Or.inr rfl) (fun q => q)
abbrev M_X8_areTwo : zMt := (RX8, cX8_areTwo, 3, 2, 81, (some .boolean), "areTwo", 0, 0)
theorem d_X8_areTwo_0 : zDc M_X8_areTwo 0 (.aload_n 0) 1 1 := ⟨by decide +kernel, rfl⟩
theorem d_X8_areTwo_1 : zDc M_X8_areTwo 1 (.iload_n 1) 1 2 := ⟨by decide +kernel, rfl⟩
theorem d_X8_areTwo_2 : zDc M_X8_areTwo 2 (.invokevirtual 425) 3 5 := ⟨by decide +kernel, rfl⟩
theorem d_X8_areTwo_5 : zDj M_X8_areTwo 5 (.ifCond .eq 20) 20 8 25 := ⟨by decide +kernel, rfl, by decide⟩
theorem d_X8_areTwo_8 : zDc M_X8_areTwo 8 (.aload_n 0) 1 9 := ⟨by decide +kernel, rfl⟩
theorem d_X8_areTwo_9 : zDc M_X8_areTwo 9 (.iload_n 2) 1 10 := ⟨by decide +kernel, rfl⟩
theorem d_X8_areTwo_10 : zDc M_X8_areTwo 10 (.invokevirtual 425) 3 13 := ⟨by decide +kernel, rfl⟩
theorem d_X8_areTwo_13 : zDj M_X8_areTwo 13 (.ifCond .eq 12) 12 16 25 := ⟨by decide +kernel, rfl, by decide⟩
theorem d_X8_areTwo_16 : zDc M_X8_areTwo 16 (.iload_n 1) 1 17 := ⟨by decide +kernel, rfl⟩
theorem d_X8_areTwo_17 : zDc M_X8_areTwo 17 (.iload_n 2) 1 18 := ⟨by decide +kernel, rfl⟩
theorem d_X8_areTwo_18 : zDj M_X8_areTwo 18 (.if_icmp .eq 7) 7 21 25 := ⟨by decide +kernel, rfl, by decide⟩
theorem d_X8_areTwo_21 : zDc M_X8_areTwo 21 (.iconst 1) 1 22 := ⟨by decide +kernel, rfl⟩
theorem d_X8_areTwo_22 : zDj M_X8_areTwo 22 (.goto 4) 4 25 26 := ⟨by decide +kernel, rfl, by decide⟩
theorem d_X8_areTwo_25 : zDc M_X8_areTwo 25 (.iconst 0) 1 26 := ⟨by decide +kernel, rfl⟩
theorem d_X8_areTwo_26 : zDc M_X8_areTwo 26 (.ireturn) 1 27 := ⟨by decide +kernel, rfl⟩
def f_X8_areTwo (a0 : Nat) (a1 : Int32) (a2 : Int32) (h0 : zHp) : Option (Int32 × zHp) :=
  zbd (zcv 8 a0 h0 (f_X8_isChild a0 a1 h0)) (fun v2 h1 =>
  if v2 = 0 then
  some (0, h1)
  else
  zbd (zcv 8 a0 h1 (f_X8_isChild a0 a2 h1)) (fun v4 h3 =>
  if v4 = 0 then
  some (0, h3)
  else
  if a1 = a2 then
  some (0, h3)
  else
  some (1, h3)))
set_option maxRecDepth 100000 in
set_option maxHeartbeats 4000000 in
theorem t_X8_areTwo (a0 : Nat) (a1 : Int32) (a2 : Int32) (h0 : zHp) : ∀ (r : Int32) (h' : zHp), f_X8_areTwo a0 a1 a2 h0 = some (r, h') → zCt yX8_areTwo (.code yX8_areTwo cX8_areTwo 3 (some .boolean)) 2 81 0 0 [.ref a0, .int a1, .int a2] h0 (some (.int r)) h' := by
  refine zct_of M_X8_areTwo yX8_areTwo (by decide) rfl rfl [.ref a0, .int a1, .int a2] h0 (Nat.le_of_ble_eq_true rfl) (fun r => some (.int r)) (fun X => ?_)
  show zG X M_X8_areTwo (0, 0) 0 [(0, .ref a0), (1, .int a1), (2, .int a2)] [] h0 (f_X8_areTwo a0 a1 a2 h0) (fun (r : Int32) h' => zKe X (some (.int r)) h')
  unfold f_X8_areTwo
  refine zg_aload_n 0 rfl d_X8_areTwo_0 ?_
  refine zg_iload_n 1 rfl d_X8_areTwo_1 ?_
  refine zg_cVi (b := a0) (As := [.int a1]) (rest := []) (0, 0) d_X8_areTwo_2 zc_8 rfl cw_X8_425 wi_X8_isChild ws_X8_isChild rfl rfl (Nat.le_of_ble_eq_true rfl) (by decide) (by decide) ⟨by decide, by decide⟩ rfl (t_X8_isChild a0 a1 h0) (fun v2 h1 => ?_)
  refine zg_if_eq d_X8_areTwo_5 ?_ ?_
  · refine zg_iconst 0 rfl d_X8_areTwo_25 ?_
    exact zg_zretK d_X8_areTwo_26 rfl ⟨Nat.le_of_ble_eq_true rfl, Nat.le_of_ble_eq_true rfl⟩ (Or.inl rfl) (fun q => q)
  · refine zg_aload_n 0 rfl d_X8_areTwo_8 ?_
    refine zg_iload_n 2 rfl d_X8_areTwo_9 ?_
    refine zg_cVi (b := a0) (As := [.int a2]) (rest := []) (0, 0) d_X8_areTwo_10 zc_8 rfl cw_X8_425 wi_X8_isChild ws_X8_isChild rfl rfl (Nat.le_of_ble_eq_true rfl) (by decide) (by decide) ⟨by decide, by decide⟩ rfl (t_X8_isChild a0 a2 h1) (fun v4 h3 => ?_)
    refine zg_if_eq d_X8_areTwo_13 ?_ ?_
    · refine zg_iconst 0 rfl d_X8_areTwo_25 ?_
      exact zg_zretK d_X8_areTwo_26 rfl ⟨Nat.le_of_ble_eq_true rfl, Nat.le_of_ble_eq_true rfl⟩ (Or.inl rfl) (fun q => q)
    · refine zg_iload_n 1 rfl d_X8_areTwo_16 ?_
      refine zg_iload_n 2 rfl d_X8_areTwo_17 ?_
      refine zg_icmp_eq d_X8_areTwo_18 ?_ ?_
      · refine zg_iconst 0 rfl d_X8_areTwo_25 ?_
        exact zg_zretK d_X8_areTwo_26 rfl ⟨Nat.le_of_ble_eq_true rfl, Nat.le_of_ble_eq_true rfl⟩ (Or.inl rfl) (fun q => q)
      · refine zg_iconst 1 rfl d_X8_areTwo_21 ?_
        refine zg_goto d_X8_areTwo_22 ?_
        exact zg_zretK d_X8_areTwo_26 rfl ⟨Nat.le_of_ble_eq_true rfl, Nat.le_of_ble_eq_true rfl⟩ (Or.inr rfl) (fun q => q)
abbrev M_X8_back : zMt := (RX8, cX8_back, 1, 2, 85, (some .int), "back", 0, 0)
theorem d_X8_back_0 : zDc M_X8_back 0 (.aload_n 0) 1 1 := ⟨by decide +kernel, rfl⟩
theorem d_X8_back_1 : zDc M_X8_back 1 (.iconst 0) 1 2 := ⟨by decide +kernel, rfl⟩
theorem d_X8_back_2 : zDc M_X8_back 2 (.putfield 151) 3 5 := ⟨by decide +kernel, rfl⟩
theorem d_X8_back_5 : zDc M_X8_back 5 (.aload_n 0) 1 6 := ⟨by decide +kernel, rfl⟩
theorem d_X8_back_6 : zDc M_X8_back 6 (.getfield 307) 3 9 := ⟨by decide +kernel, rfl⟩
theorem d_X8_back_9 : zDj M_X8_back 9 (.ifCond .ne 5) 5 12 14 := ⟨by decide +kernel, rfl, by decide⟩
theorem d_X8_back_12 : zDc M_X8_back 12 (.iconst (-1)) 1 13 := ⟨by decide +kernel, rfl⟩
theorem d_X8_back_13 : zDc M_X8_back 13 (.ireturn) 1 14 := ⟨by decide +kernel, rfl⟩
theorem d_X8_back_14 : zDc M_X8_back 14 (.aload_n 0) 1 15 := ⟨by decide +kernel, rfl⟩
theorem d_X8_back_15 : zDc M_X8_back 15 (.iconst 0) 1 16 := ⟨by decide +kernel, rfl⟩
theorem d_X8_back_16 : zDc M_X8_back 16 (.iconst 2) 1 17 := ⟨by decide +kernel, rfl⟩
theorem d_X8_back_17 : zDc M_X8_back 17 (.invokevirtual 416) 3 20 := ⟨by decide +kernel, rfl⟩
theorem d_X8_back_20 : zDc M_X8_back 20 (.aload_n 0) 1 21 := ⟨by decide +kernel, rfl⟩
theorem d_X8_back_21 : zDc M_X8_back 21 (.iconst 0) 1 22 := ⟨by decide +kernel, rfl⟩
theorem d_X8_back_22 : zDc M_X8_back 22 (.putfield 311) 3 25 := ⟨by decide +kernel, rfl⟩
theorem d_X8_back_25 : zDc M_X8_back 25 (.aload_n 0) 1 26 := ⟨by decide +kernel, rfl⟩
theorem d_X8_back_26 : zDc M_X8_back 26 (.getfield 75) 3 29 := ⟨by decide +kernel, rfl⟩
theorem d_X8_back_29 : zDc M_X8_back 29 (.iconst 0) 1 30 := ⟨by decide +kernel, rfl⟩
theorem d_X8_back_30 : zDc M_X8_back 30 (.iaload) 1 31 := ⟨by decide +kernel, rfl⟩
theorem d_X8_back_31 : zDc M_X8_back 31 (.ireturn) 1 32 := ⟨by decide +kernel, rfl⟩
def f_X8_back (a0 : Nat) (h0 : zHp) : Option (Int32 × zHp) :=
  zob (zpV h0 a0 8 0 (.int 0)) (fun h1 =>
  zob (zgI h1 a0 8 47) (fun v2 =>
  if v2 = 0 then
  some ((-1), h1)
  else
  zbd (zcv 8 a0 h1 (f_X8_copies a0 0 2 h1)) (fun v4 h3 =>
  zob (zpV h3 a0 8 48 (.int 0)) (fun h5 =>
  zob (zgR h5 a0 8 36) (fun v6 =>
  zob (zaI 0 h5 v6 0) (fun v7 =>
  some (v7, h5)))))))
set_option maxRecDepth 100000 in
set_option maxHeartbeats 4000000 in
theorem t_X8_back (a0 : Nat) (h0 : zHp) : ∀ (r : Int32) (h' : zHp), f_X8_back a0 h0 = some (r, h') → zCt yX8_back (.code yX8_back cX8_back 1 (some .int)) 2 85 0 0 [.ref a0] h0 (some (.int r)) h' := by
  refine zct_of M_X8_back yX8_back (by decide) rfl rfl [.ref a0] h0 (Nat.le_of_ble_eq_true rfl) (fun r => some (.int r)) (fun X => ?_)
  show zG X M_X8_back (0, 0) 0 [(0, .ref a0)] [] h0 (f_X8_back a0 h0) (fun (r : Int32) h' => zKe X (some (.int r)) h')
  unfold f_X8_back
  refine zg_aload_n 0 rfl d_X8_back_0 ?_
  refine zg_iconst 0 rfl d_X8_back_1 ?_
  refine zg_putV d_X8_back_2 zc_8 (by decide) fl_X8_151 rfl rfl rfl (fun h1 => ?_)
  refine zg_aload_n 0 rfl d_X8_back_5 ?_
  refine zg_getI d_X8_back_6 zc_8 (by decide) fl_X8_307 (fun v2 => ?_)
  refine zg_if_ne d_X8_back_9 ?_ ?_
  · refine zg_iconst (-1) rfl d_X8_back_12 ?_
    exact zg_iretK d_X8_back_13 rfl ⟨Nat.le_of_ble_eq_true rfl, Nat.le_of_ble_eq_true rfl⟩ (fun q => q)
  · refine zg_aload_n 0 rfl d_X8_back_14 ?_
    refine zg_iconst 0 rfl d_X8_back_15 ?_
    refine zg_iconst 2 rfl d_X8_back_16 ?_
    refine zg_cVv (b := a0) (As := [.int 0, .int 2]) (rest := []) (0, 0) d_X8_back_17 zc_8 rfl cw_X8_416 wi_X8_copies ws_X8_copies rfl rfl (Nat.le_of_ble_eq_true rfl) (by decide) (by decide) ⟨by decide, by decide⟩ rfl (t_X8_copies a0 0 2 h1) (fun v4 h3 => ?_)
    refine zg_aload_n 0 rfl d_X8_back_20 ?_
    refine zg_iconst 0 rfl d_X8_back_21 ?_
    refine zg_putV d_X8_back_22 zc_8 (by decide) fl_X8_311 rfl rfl rfl (fun h5 => ?_)
    refine zg_aload_n 0 rfl d_X8_back_25 ?_
    refine zg_getR d_X8_back_26 zc_8 (by decide) fl_X8_75 (fun v6 => ?_)
    refine zg_iconst 0 rfl d_X8_back_29 ?_
    refine zg_ald0 d_X8_back_30 (fun v7 => ?_)
    exact zg_iretK d_X8_back_31 rfl ⟨Nat.le_of_ble_eq_true rfl, Nat.le_of_ble_eq_true rfl⟩ (fun q => q)
abbrev M_X8_sizeIn : zMt := (RX8, cX8_sizeIn, 2, 1, 60, (some .int), "sizeIn", 0, 0)
theorem d_X8_sizeIn_0 : zDc M_X8_sizeIn 0 (.iload_n 1) 1 1 := ⟨by decide +kernel, rfl⟩
theorem d_X8_sizeIn_1 : zDc M_X8_sizeIn 1 (.aload_n 0) 1 2 := ⟨by decide +kernel, rfl⟩
theorem d_X8_sizeIn_2 : zDc M_X8_sizeIn 2 (.getfield 114) 3 5 := ⟨by decide +kernel, rfl⟩
theorem d_X8_sizeIn_5 : zDj M_X8_sizeIn 5 (.if_icmp .ne 10) 10 8 15 := ⟨by decide +kernel, rfl, by decide⟩
theorem d_X8_sizeIn_8 : zDc M_X8_sizeIn 8 (.aload_n 0) 1 9 := ⟨by decide +kernel, rfl⟩
theorem d_X8_sizeIn_9 : zDc M_X8_sizeIn 9 (.getfield 340) 3 12 := ⟨by decide +kernel, rfl⟩
theorem d_X8_sizeIn_12 : zDj M_X8_sizeIn 12 (.goto 9) 9 15 21 := ⟨by decide +kernel, rfl, by decide⟩
theorem d_X8_sizeIn_15 : zDc M_X8_sizeIn 15 (.aload_n 0) 1 16 := ⟨by decide +kernel, rfl⟩
theorem d_X8_sizeIn_16 : zDc M_X8_sizeIn 16 (.getfield 34) 3 19 := ⟨by decide +kernel, rfl⟩
theorem d_X8_sizeIn_19 : zDc M_X8_sizeIn 19 (.iload_n 1) 1 20 := ⟨by decide +kernel, rfl⟩
theorem d_X8_sizeIn_20 : zDc M_X8_sizeIn 20 (.iaload) 1 21 := ⟨by decide +kernel, rfl⟩
theorem d_X8_sizeIn_21 : zDc M_X8_sizeIn 21 (.ireturn) 1 22 := ⟨by decide +kernel, rfl⟩
def f_X8_sizeIn (a0 : Nat) (a1 : Int32) (h0 : zHp) : Option (Int32 × zHp) :=
  zob (zgI h0 a0 8 52) (fun v1 =>
  if a1 = v1 then
  zob (zgI h0 a0 8 53) (fun v2 =>
  some (v2, h0))
  else
  zob (zgR h0 a0 8 10) (fun v3 =>
  zob (zaI 0 h0 v3 a1) (fun v4 =>
  some (v4, h0))))
set_option maxRecDepth 100000 in
set_option maxHeartbeats 4000000 in
theorem t_X8_sizeIn (a0 : Nat) (a1 : Int32) (h0 : zHp) : ∀ (r : Int32) (h' : zHp), f_X8_sizeIn a0 a1 h0 = some (r, h') → zCt yX8_sizeIn (.code yX8_sizeIn cX8_sizeIn 2 (some .int)) 1 60 0 0 [.ref a0, .int a1] h0 (some (.int r)) h' := by
  refine zct_of M_X8_sizeIn yX8_sizeIn (by decide) rfl rfl [.ref a0, .int a1] h0 (Nat.le_of_ble_eq_true rfl) (fun r => some (.int r)) (fun X => ?_)
  show zG X M_X8_sizeIn (0, 0) 0 [(0, .ref a0), (1, .int a1)] [] h0 (f_X8_sizeIn a0 a1 h0) (fun (r : Int32) h' => zKe X (some (.int r)) h')
  unfold f_X8_sizeIn
  refine zg_iload_n 1 rfl d_X8_sizeIn_0 ?_
  refine zg_aload_n 0 rfl d_X8_sizeIn_1 ?_
  refine zg_getI d_X8_sizeIn_2 zc_8 (by decide) fl_X8_114 (fun v1 => ?_)
  refine zg_icmp_ne d_X8_sizeIn_5 ?_ ?_
  · refine zg_aload_n 0 rfl d_X8_sizeIn_8 ?_
    refine zg_getI d_X8_sizeIn_9 zc_8 (by decide) fl_X8_340 (fun v2 => ?_)
    refine zg_goto d_X8_sizeIn_12 ?_
    exact zg_iretK d_X8_sizeIn_21 rfl ⟨Nat.le_of_ble_eq_true rfl, Nat.le_of_ble_eq_true rfl⟩ (fun q => q)
  · refine zg_aload_n 0 rfl d_X8_sizeIn_15 ?_
    refine zg_getR d_X8_sizeIn_16 zc_8 (by decide) fl_X8_34 (fun v3 => ?_)
    refine zg_iload_n 1 rfl d_X8_sizeIn_19 ?_
    refine zg_ald0 d_X8_sizeIn_20 (fun v4 => ?_)
    exact zg_iretK d_X8_sizeIn_21 rfl ⟨Nat.le_of_ble_eq_true rfl, Nat.le_of_ble_eq_true rfl⟩ (fun q => q)
abbrev M_X8_starts : zMt := (RX8, cX8_starts, 4, 2, 81, none, "starts", 0, 0)
theorem d_X8_starts_0 : zDc M_X8_starts 0 (.aload_n 0) 1 1 := ⟨by decide +kernel, rfl⟩
theorem d_X8_starts_1 : zDc M_X8_starts 1 (.getfield 75) 3 4 := ⟨by decide +kernel, rfl⟩
theorem d_X8_starts_4 : zDc M_X8_starts 4 (.iload_n 1) 1 5 := ⟨by decide +kernel, rfl⟩
theorem d_X8_starts_5 : zDc M_X8_starts 5 (.iconst 0) 1 6 := ⟨by decide +kernel, rfl⟩
theorem d_X8_starts_6 : zDc M_X8_starts 6 (.iastore) 1 7 := ⟨by decide +kernel, rfl⟩
theorem d_X8_starts_7 : zDc M_X8_starts 7 (.aload_n 0) 1 8 := ⟨by decide +kernel, rfl⟩
theorem d_X8_starts_8 : zDc M_X8_starts 8 (.getfield 78) 3 11 := ⟨by decide +kernel, rfl⟩
theorem d_X8_starts_11 : zDc M_X8_starts 11 (.iload_n 1) 1 12 := ⟨by decide +kernel, rfl⟩
theorem d_X8_starts_12 : zDc M_X8_starts 12 (.iconst (-1)) 1 13 := ⟨by decide +kernel, rfl⟩
theorem d_X8_starts_13 : zDc M_X8_starts 13 (.iastore) 1 14 := ⟨by decide +kernel, rfl⟩
theorem d_X8_starts_14 : zDc M_X8_starts 14 (.iconst 0) 1 15 := ⟨by decide +kernel, rfl⟩
theorem d_X8_starts_15 : zDc M_X8_starts 15 (.istore_n 2) 1 16 := ⟨by decide +kernel, rfl⟩
theorem d_X8_starts_16 : zDc M_X8_starts 16 (.iload_n 2) 1 17 := ⟨by decide +kernel, rfl⟩
theorem d_X8_starts_17 : zDc M_X8_starts 17 (.bipush 8) 2 19 := ⟨by decide +kernel, rfl⟩
theorem d_X8_starts_19 : zDj M_X8_starts 19 (.if_icmp .ge 88) 88 22 107 := ⟨by decide +kernel, rfl, by decide⟩
theorem d_X8_starts_22 : zDc M_X8_starts 22 (.bipush 8) 2 24 := ⟨by decide +kernel, rfl⟩
theorem d_X8_starts_24 : zDc M_X8_starts 24 (.iload_n 1) 1 25 := ⟨by decide +kernel, rfl⟩
theorem d_X8_starts_25 : zDc M_X8_starts 25 (.imul) 1 26 := ⟨by decide +kernel, rfl⟩
theorem d_X8_starts_26 : zDc M_X8_starts 26 (.iload_n 2) 1 27 := ⟨by decide +kernel, rfl⟩
theorem d_X8_starts_27 : zDc M_X8_starts 27 (.iadd) 1 28 := ⟨by decide +kernel, rfl⟩
theorem d_X8_starts_28 : zDc M_X8_starts 28 (.istore_n 3) 1 29 := ⟨by decide +kernel, rfl⟩
theorem d_X8_starts_29 : zDc M_X8_starts 29 (.aload_n 0) 1 30 := ⟨by decide +kernel, rfl⟩
theorem d_X8_starts_30 : zDc M_X8_starts 30 (.getfield 81) 3 33 := ⟨by decide +kernel, rfl⟩
theorem d_X8_starts_33 : zDc M_X8_starts 33 (.iload_n 3) 1 34 := ⟨by decide +kernel, rfl⟩
theorem d_X8_starts_34 : zDc M_X8_starts 34 (.iload_n 2) 1 35 := ⟨by decide +kernel, rfl⟩
theorem d_X8_starts_35 : zDc M_X8_starts 35 (.aload_n 0) 1 36 := ⟨by decide +kernel, rfl⟩
theorem d_X8_starts_36 : zDc M_X8_starts 36 (.getfield 13) 3 39 := ⟨by decide +kernel, rfl⟩
theorem d_X8_starts_39 : zDc M_X8_starts 39 (.iconst 1) 1 40 := ⟨by decide +kernel, rfl⟩
theorem d_X8_starts_40 : zDc M_X8_starts 40 (.iaload) 1 41 := ⟨by decide +kernel, rfl⟩
theorem d_X8_starts_41 : zDj M_X8_starts 41 (.if_icmp .ge 12) 12 44 53 := ⟨by decide +kernel, rfl, by decide⟩
theorem d_X8_starts_44 : zDc M_X8_starts 44 (.aload_n 0) 1 45 := ⟨by decide +kernel, rfl⟩
theorem d_X8_starts_45 : zDc M_X8_starts 45 (.getfield 31) 3 48 := ⟨by decide +kernel, rfl⟩
theorem d_X8_starts_48 : zDc M_X8_starts 48 (.iload_n 2) 1 49 := ⟨by decide +kernel, rfl⟩
theorem d_X8_starts_49 : zDc M_X8_starts 49 (.iaload) 1 50 := ⟨by decide +kernel, rfl⟩
theorem d_X8_starts_50 : zDj M_X8_starts 50 (.goto 4) 4 53 54 := ⟨by decide +kernel, rfl, by decide⟩
theorem d_X8_starts_53 : zDc M_X8_starts 53 (.iconst 0) 1 54 := ⟨by decide +kernel, rfl⟩
theorem d_X8_starts_54 : zDc M_X8_starts 54 (.iastore) 1 55 := ⟨by decide +kernel, rfl⟩
theorem d_X8_starts_55 : zDc M_X8_starts 55 (.aload_n 0) 1 56 := ⟨by decide +kernel, rfl⟩
theorem d_X8_starts_56 : zDc M_X8_starts 56 (.getfield 84) 3 59 := ⟨by decide +kernel, rfl⟩
theorem d_X8_starts_59 : zDc M_X8_starts 59 (.iload_n 3) 1 60 := ⟨by decide +kernel, rfl⟩
theorem d_X8_starts_60 : zDc M_X8_starts 60 (.iload_n 2) 1 61 := ⟨by decide +kernel, rfl⟩
theorem d_X8_starts_61 : zDc M_X8_starts 61 (.aload_n 0) 1 62 := ⟨by decide +kernel, rfl⟩
theorem d_X8_starts_62 : zDc M_X8_starts 62 (.getfield 13) 3 65 := ⟨by decide +kernel, rfl⟩
theorem d_X8_starts_65 : zDc M_X8_starts 65 (.iconst 1) 1 66 := ⟨by decide +kernel, rfl⟩
theorem d_X8_starts_66 : zDc M_X8_starts 66 (.iaload) 1 67 := ⟨by decide +kernel, rfl⟩
theorem d_X8_starts_67 : zDj M_X8_starts 67 (.if_icmp .ge 11) 11 70 78 := ⟨by decide +kernel, rfl, by decide⟩
theorem d_X8_starts_70 : zDc M_X8_starts 70 (.aload_n 0) 1 71 := ⟨by decide +kernel, rfl⟩
theorem d_X8_starts_71 : zDc M_X8_starts 71 (.iload_n 2) 1 72 := ⟨by decide +kernel, rfl⟩
theorem d_X8_starts_72 : zDc M_X8_starts 72 (.invokevirtual 334) 3 75 := ⟨by decide +kernel, rfl⟩
theorem d_X8_starts_75 : zDj M_X8_starts 75 (.goto 4) 4 78 79 := ⟨by decide +kernel, rfl, by decide⟩
theorem d_X8_starts_78 : zDc M_X8_starts 78 (.iconst 0) 1 79 := ⟨by decide +kernel, rfl⟩
theorem d_X8_starts_79 : zDc M_X8_starts 79 (.iastore) 1 80 := ⟨by decide +kernel, rfl⟩
theorem d_X8_starts_80 : zDc M_X8_starts 80 (.aload_n 0) 1 81 := ⟨by decide +kernel, rfl⟩
theorem d_X8_starts_81 : zDc M_X8_starts 81 (.getfield 87) 3 84 := ⟨by decide +kernel, rfl⟩
theorem d_X8_starts_84 : zDc M_X8_starts 84 (.iload_n 3) 1 85 := ⟨by decide +kernel, rfl⟩
theorem d_X8_starts_85 : zDc M_X8_starts 85 (.iconst 0) 1 86 := ⟨by decide +kernel, rfl⟩
theorem d_X8_starts_86 : zDc M_X8_starts 86 (.iastore) 1 87 := ⟨by decide +kernel, rfl⟩
theorem d_X8_starts_87 : zDc M_X8_starts 87 (.aload_n 0) 1 88 := ⟨by decide +kernel, rfl⟩
theorem d_X8_starts_88 : zDc M_X8_starts 88 (.getfield 90) 3 91 := ⟨by decide +kernel, rfl⟩
theorem d_X8_starts_91 : zDc M_X8_starts 91 (.iload_n 3) 1 92 := ⟨by decide +kernel, rfl⟩
theorem d_X8_starts_92 : zDc M_X8_starts 92 (.iconst (-1)) 1 93 := ⟨by decide +kernel, rfl⟩
theorem d_X8_starts_93 : zDc M_X8_starts 93 (.iastore) 1 94 := ⟨by decide +kernel, rfl⟩
theorem d_X8_starts_94 : zDc M_X8_starts 94 (.aload_n 0) 1 95 := ⟨by decide +kernel, rfl⟩
theorem d_X8_starts_95 : zDc M_X8_starts 95 (.getfield 93) 3 98 := ⟨by decide +kernel, rfl⟩
theorem d_X8_starts_98 : zDc M_X8_starts 98 (.iload_n 3) 1 99 := ⟨by decide +kernel, rfl⟩
theorem d_X8_starts_99 : zDc M_X8_starts 99 (.iconst 0) 1 100 := ⟨by decide +kernel, rfl⟩
theorem d_X8_starts_100 : zDc M_X8_starts 100 (.iastore) 1 101 := ⟨by decide +kernel, rfl⟩
theorem d_X8_starts_101 : zDc M_X8_starts 101 (.iinc 2 1) 3 104 := ⟨by decide +kernel, rfl⟩
theorem d_X8_starts_104 : zDj M_X8_starts 104 (.goto (-88)) (-88) 107 16 := ⟨by decide +kernel, rfl, by decide⟩
theorem d_X8_starts_107 : zDc M_X8_starts 107 (.iconst 0) 1 108 := ⟨by decide +kernel, rfl⟩
theorem d_X8_starts_108 : zDc M_X8_starts 108 (.istore_n 2) 1 109 := ⟨by decide +kernel, rfl⟩
theorem d_X8_starts_109 : zDc M_X8_starts 109 (.iload_n 2) 1 110 := ⟨by decide +kernel, rfl⟩
theorem d_X8_starts_110 : zDc M_X8_starts 110 (.bipush 6) 2 112 := ⟨by decide +kernel, rfl⟩
theorem d_X8_starts_112 : zDj M_X8_starts 112 (.if_icmp .ge 52) 52 115 164 := ⟨by decide +kernel, rfl, by decide⟩
theorem d_X8_starts_115 : zDc M_X8_starts 115 (.aload_n 0) 1 116 := ⟨by decide +kernel, rfl⟩
theorem d_X8_starts_116 : zDc M_X8_starts 116 (.getfield 96) 3 119 := ⟨by decide +kernel, rfl⟩
theorem d_X8_starts_119 : zDc M_X8_starts 119 (.bipush 6) 2 121 := ⟨by decide +kernel, rfl⟩
theorem d_X8_starts_121 : zDc M_X8_starts 121 (.iload_n 1) 1 122 := ⟨by decide +kernel, rfl⟩
theorem d_X8_starts_122 : zDc M_X8_starts 122 (.imul) 1 123 := ⟨by decide +kernel, rfl⟩
theorem d_X8_starts_123 : zDc M_X8_starts 123 (.iload_n 2) 1 124 := ⟨by decide +kernel, rfl⟩
theorem d_X8_starts_124 : zDc M_X8_starts 124 (.iadd) 1 125 := ⟨by decide +kernel, rfl⟩
theorem d_X8_starts_125 : zDc M_X8_starts 125 (.iload_n 2) 1 126 := ⟨by decide +kernel, rfl⟩
theorem d_X8_starts_126 : zDc M_X8_starts 126 (.aload_n 0) 1 127 := ⟨by decide +kernel, rfl⟩
theorem d_X8_starts_127 : zDc M_X8_starts 127 (.getfield 13) 3 130 := ⟨by decide +kernel, rfl⟩
theorem d_X8_starts_130 : zDc M_X8_starts 130 (.iconst 2) 1 131 := ⟨by decide +kernel, rfl⟩
theorem d_X8_starts_131 : zDc M_X8_starts 131 (.iaload) 1 132 := ⟨by decide +kernel, rfl⟩
theorem d_X8_starts_132 : zDj M_X8_starts 132 (.if_icmp .ge 12) 12 135 144 := ⟨by decide +kernel, rfl, by decide⟩
theorem d_X8_starts_135 : zDc M_X8_starts 135 (.aload_n 0) 1 136 := ⟨by decide +kernel, rfl⟩
theorem d_X8_starts_136 : zDc M_X8_starts 136 (.getfield 43) 3 139 := ⟨by decide +kernel, rfl⟩
theorem d_X8_starts_139 : zDc M_X8_starts 139 (.iload_n 2) 1 140 := ⟨by decide +kernel, rfl⟩
theorem d_X8_starts_140 : zDc M_X8_starts 140 (.iaload) 1 141 := ⟨by decide +kernel, rfl⟩
theorem d_X8_starts_141 : zDj M_X8_starts 141 (.goto 4) 4 144 145 := ⟨by decide +kernel, rfl, by decide⟩
theorem d_X8_starts_144 : zDc M_X8_starts 144 (.iconst 0) 1 145 := ⟨by decide +kernel, rfl⟩
theorem d_X8_starts_145 : zDc M_X8_starts 145 (.iastore) 1 146 := ⟨by decide +kernel, rfl⟩
theorem d_X8_starts_146 : zDc M_X8_starts 146 (.aload_n 0) 1 147 := ⟨by decide +kernel, rfl⟩
theorem d_X8_starts_147 : zDc M_X8_starts 147 (.getfield 99) 3 150 := ⟨by decide +kernel, rfl⟩
theorem d_X8_starts_150 : zDc M_X8_starts 150 (.bipush 6) 2 152 := ⟨by decide +kernel, rfl⟩
theorem d_X8_starts_152 : zDc M_X8_starts 152 (.iload_n 1) 1 153 := ⟨by decide +kernel, rfl⟩
theorem d_X8_starts_153 : zDc M_X8_starts 153 (.imul) 1 154 := ⟨by decide +kernel, rfl⟩
theorem d_X8_starts_154 : zDc M_X8_starts 154 (.iload_n 2) 1 155 := ⟨by decide +kernel, rfl⟩
theorem d_X8_starts_155 : zDc M_X8_starts 155 (.iadd) 1 156 := ⟨by decide +kernel, rfl⟩
theorem d_X8_starts_156 : zDc M_X8_starts 156 (.iconst 0) 1 157 := ⟨by decide +kernel, rfl⟩
theorem d_X8_starts_157 : zDc M_X8_starts 157 (.iastore) 1 158 := ⟨by decide +kernel, rfl⟩
theorem d_X8_starts_158 : zDc M_X8_starts 158 (.iinc 2 1) 3 161 := ⟨by decide +kernel, rfl⟩
theorem d_X8_starts_161 : zDj M_X8_starts 161 (.goto (-52)) (-52) 164 109 := ⟨by decide +kernel, rfl, by decide⟩
theorem d_X8_starts_164 : zDc M_X8_starts 164 (.iconst 0) 1 165 := ⟨by decide +kernel, rfl⟩
theorem d_X8_starts_165 : zDc M_X8_starts 165 (.istore_n 2) 1 166 := ⟨by decide +kernel, rfl⟩
theorem d_X8_starts_166 : zDc M_X8_starts 166 (.iload_n 2) 1 167 := ⟨by decide +kernel, rfl⟩
theorem d_X8_starts_167 : zDc M_X8_starts 167 (.iconst 5) 1 168 := ⟨by decide +kernel, rfl⟩
theorem d_X8_starts_168 : zDj M_X8_starts 168 (.if_icmp .ge 20) 20 171 188 := ⟨by decide +kernel, rfl, by decide⟩
theorem d_X8_starts_171 : zDc M_X8_starts 171 (.aload_n 0) 1 172 := ⟨by decide +kernel, rfl⟩
theorem d_X8_starts_172 : zDc M_X8_starts 172 (.getfield 102) 3 175 := ⟨by decide +kernel, rfl⟩
theorem d_X8_starts_175 : zDc M_X8_starts 175 (.iconst 5) 1 176 := ⟨by decide +kernel, rfl⟩
theorem d_X8_starts_176 : zDc M_X8_starts 176 (.iload_n 1) 1 177 := ⟨by decide +kernel, rfl⟩
theorem d_X8_starts_177 : zDc M_X8_starts 177 (.imul) 1 178 := ⟨by decide +kernel, rfl⟩
theorem d_X8_starts_178 : zDc M_X8_starts 178 (.iload_n 2) 1 179 := ⟨by decide +kernel, rfl⟩
theorem d_X8_starts_179 : zDc M_X8_starts 179 (.iadd) 1 180 := ⟨by decide +kernel, rfl⟩
theorem d_X8_starts_180 : zDc M_X8_starts 180 (.iconst 0) 1 181 := ⟨by decide +kernel, rfl⟩
theorem d_X8_starts_181 : zDc M_X8_starts 181 (.iastore) 1 182 := ⟨by decide +kernel, rfl⟩
theorem d_X8_starts_182 : zDc M_X8_starts 182 (.iinc 2 1) 3 185 := ⟨by decide +kernel, rfl⟩
theorem d_X8_starts_185 : zDj M_X8_starts 185 (.goto (-19)) (-19) 188 166 := ⟨by decide +kernel, rfl, by decide⟩
theorem d_X8_starts_188 : zDc M_X8_starts 188 (.iconst 0) 1 189 := ⟨by decide +kernel, rfl⟩
theorem d_X8_starts_189 : zDc M_X8_starts 189 (.istore_n 2) 1 190 := ⟨by decide +kernel, rfl⟩
theorem d_X8_starts_190 : zDc M_X8_starts 190 (.iload_n 2) 1 191 := ⟨by decide +kernel, rfl⟩
theorem d_X8_starts_191 : zDc M_X8_starts 191 (.bipush 35) 2 193 := ⟨by decide +kernel, rfl⟩
theorem d_X8_starts_193 : zDj M_X8_starts 193 (.if_icmp .ge 21) 21 196 214 := ⟨by decide +kernel, rfl, by decide⟩
theorem d_X8_starts_196 : zDc M_X8_starts 196 (.aload_n 0) 1 197 := ⟨by decide +kernel, rfl⟩
theorem d_X8_starts_197 : zDc M_X8_starts 197 (.getfield 105) 3 200 := ⟨by decide +kernel, rfl⟩
theorem d_X8_starts_200 : zDc M_X8_starts 200 (.bipush 35) 2 202 := ⟨by decide +kernel, rfl⟩
theorem d_X8_starts_202 : zDc M_X8_starts 202 (.iload_n 1) 1 203 := ⟨by decide +kernel, rfl⟩
theorem d_X8_starts_203 : zDc M_X8_starts 203 (.imul) 1 204 := ⟨by decide +kernel, rfl⟩
theorem d_X8_starts_204 : zDc M_X8_starts 204 (.iload_n 2) 1 205 := ⟨by decide +kernel, rfl⟩
theorem d_X8_starts_205 : zDc M_X8_starts 205 (.iadd) 1 206 := ⟨by decide +kernel, rfl⟩
theorem d_X8_starts_206 : zDc M_X8_starts 206 (.iconst 0) 1 207 := ⟨by decide +kernel, rfl⟩
theorem d_X8_starts_207 : zDc M_X8_starts 207 (.iastore) 1 208 := ⟨by decide +kernel, rfl⟩
theorem d_X8_starts_208 : zDc M_X8_starts 208 (.iinc 2 1) 3 211 := ⟨by decide +kernel, rfl⟩
theorem d_X8_starts_211 : zDj M_X8_starts 211 (.goto (-21)) (-21) 214 190 := ⟨by decide +kernel, rfl, by decide⟩
theorem d_X8_starts_214 : zDc M_X8_starts 214 (.return_) 1 215 := ⟨by decide +kernel, rfl⟩
def f_X8_starts (a0 : Nat) (a1 : Int32) (h0 : zHp) : Option (Unit × zHp) :=
  zob (zgR h0 a0 8 36) (fun v1 =>
  zob (zsI 0 h0 v1 a1 0) (fun h2 =>
  zob (zgR h2 a0 8 37) (fun v3 =>
  zob (zsI 0 h2 v3 a1 (-1)) (fun h4 =>
  zbd (
  zlp (σ := Int32) (β := Int32) zLF (fun s5 h6 =>
  if 8 ≤ s5 then
  some ((.inr s5), h6)
  else
  zob (zgR h6 a0 8 38) (fun v9 =>
  zob (zgR h6 a0 8 3) (fun v10 =>
  zob (zaI 0 h6 v10 1) (fun v11 =>
  zbd (α := Int32) (
  if v11 ≤ s5 then
  some (0, h6)
  else
  zob (zgR h6 a0 8 9) (fun v12 =>
  zob (zaI 0 h6 v12 s5) (fun v13 =>
  some (v13, h6)))) (fun e14 h15 =>
  zob (zsI 0 h15 v9 ((8 * a1) + s5) e14) (fun h16 =>
  zob (zgR h16 a0 8 39) (fun v17 =>
  zob (zgR h16 a0 8 3) (fun v18 =>
  zob (zaI 0 h16 v18 1) (fun v19 =>
  zbd (α := Int32) (
  if v19 ≤ s5 then
  some (0, h16)
  else
  zbd (zcv 8 a0 h16 (f_X8_sizeIn a0 s5 h16)) (fun v21 h20 =>
  some (v21, h20))) (fun e22 h23 =>
  zob (zsI 0 h23 v17 ((8 * a1) + s5) e22) (fun h24 =>
  zob (zgR h24 a0 8 40) (fun v25 =>
  zob (zsI 0 h24 v25 ((8 * a1) + s5) 0) (fun h26 =>
  zob (zgR h26 a0 8 41) (fun v27 =>
  zob (zsI 0 h26 v27 ((8 * a1) + s5) (-1)) (fun h28 =>
  zob (zgR h28 a0 8 42) (fun v29 =>
  zob (zsI 0 h28 v29 ((8 * a1) + s5) 0) (fun h30 =>
  some ((.inl (s5 + 1)), h30)))))))))))))))))) 0 h4) (fun e7 h8 =>
  zbd (
  zlp (σ := Int32) (β := Int32) zLF (fun s31 h32 =>
  if 6 ≤ s31 then
  some ((.inr s31), h32)
  else
  zob (zgR h32 a0 8 43) (fun v35 =>
  zob (zgR h32 a0 8 3) (fun v36 =>
  zob (zaI 0 h32 v36 2) (fun v37 =>
  zbd (α := Int32) (
  if v37 ≤ s31 then
  some (0, h32)
  else
  zob (zgR h32 a0 8 13) (fun v38 =>
  zob (zaI 0 h32 v38 s31) (fun v39 =>
  some (v39, h32)))) (fun e40 h41 =>
  zob (zsI 0 h41 v35 ((6 * a1) + s31) e40) (fun h42 =>
  zob (zgR h42 a0 8 44) (fun v43 =>
  zob (zsI 0 h42 v43 ((6 * a1) + s31) 0) (fun h44 =>
  some ((.inl (s31 + 1)), h44))))))))) 0 h8) (fun e33 h34 =>
  zbd (
  zlp (σ := Int32) (β := Int32) zLF (fun s45 h46 =>
  if 5 ≤ s45 then
  some ((.inr s45), h46)
  else
  zob (zgR h46 a0 8 45) (fun v49 =>
  zob (zsI 0 h46 v49 ((5 * a1) + s45) 0) (fun h50 =>
  some ((.inl (s45 + 1)), h50)))) 0 h34) (fun e47 h48 =>
  zbd (
  zlp (σ := Int32) (β := Int32) zLF (fun s51 h52 =>
  if 35 ≤ s51 then
  some ((.inr s51), h52)
  else
  zob (zgR h52 a0 8 46) (fun v55 =>
  zob (zsI 0 h52 v55 ((35 * a1) + s51) 0) (fun h56 =>
  some ((.inl (s51 + 1)), h56)))) 0 h48) (fun e53 h54 =>
  some ((), h54)))))))))
set_option maxRecDepth 100000 in
set_option maxHeartbeats 4000000 in
theorem t_X8_starts (a0 : Nat) (a1 : Int32) (h0 : zHp) : ∀ (r : Unit) (h' : zHp), f_X8_starts a0 a1 h0 = some (r, h') → zCt yX8_starts (.code yX8_starts cX8_starts 4 none) 2 81 0 0 [.ref a0, .int a1] h0 (none) h' := by
  refine zct_of M_X8_starts yX8_starts (by decide) rfl rfl [.ref a0, .int a1] h0 (Nat.le_of_ble_eq_true rfl) (fun _ => none) (fun X => ?_)
  show zG X M_X8_starts (0, 0) 0 [(0, .ref a0), (1, .int a1)] [] h0 (f_X8_starts a0 a1 h0) (fun (_ : Unit) h' => zKe X (none) h')
  unfold f_X8_starts
  refine zg_aload_n 0 rfl d_X8_starts_0 ?_
  refine zg_getR d_X8_starts_1 zc_8 (by decide) fl_X8_75 (fun v1 => ?_)
  refine zg_iload_n 1 rfl d_X8_starts_4 ?_
  refine zg_iconst 0 rfl d_X8_starts_5 ?_
  refine zg_ast0 d_X8_starts_6 (fun h2 => ?_)
  refine zg_aload_n 0 rfl d_X8_starts_7 ?_
  refine zg_getR d_X8_starts_8 zc_8 (by decide) fl_X8_78 (fun v3 => ?_)
  refine zg_iload_n 1 rfl d_X8_starts_11 ?_
  refine zg_iconst (-1) rfl d_X8_starts_12 ?_
  refine zg_ast0 d_X8_starts_13 (fun h4 => ?_)
  refine zg_iconst 0 rfl d_X8_starts_14 ?_
  refine zg_istore_n [(2, .int 0), (0, .ref a0), (1, .int a1)] d_X8_starts_15 rfl (by decide) rfl ?_
  refine zg_bd (E := 107) (el := (fun (e7 : Int32) => [(0, .ref a0), (1, .int a1), (2, .int e7)])) (es := fun _ => []) (zg_sub [1, 2, 0] rfl (zg_lp (el := (fun (s5 : Int32) => [(0, .ref a0), (1, .int a1), (2, .int s5)])) (fun s5 h6 => ?_) 0 h4)) (fun e7 h8 => ?_)
  · refine zg_iload_n 2 rfl d_X8_starts_16 ?_
    refine zg_bipush 8 rfl d_X8_starts_17 ?_
    refine zg_icmp_ge d_X8_starts_19 ?_ ?_
    · exact zg_finK (E := 0) [0, 1, 2] rfl rfl (fun q => q)
    · refine zg_bipush 8 rfl d_X8_starts_22 ?_
      refine zg_iload_n 1 rfl d_X8_starts_24 ?_
      refine zg_imul d_X8_starts_25 ?_
      refine zg_iload_n 2 rfl d_X8_starts_26 ?_
      refine zg_iadd d_X8_starts_27 ?_
      refine zg_istore_n [(3, .int ((8 * a1) + s5)), (0, .ref a0), (1, .int a1), (2, .int s5)] d_X8_starts_28 rfl (by decide) rfl ?_
      refine zg_aload_n 1 rfl d_X8_starts_29 ?_
      refine zg_getR d_X8_starts_30 zc_8 (by decide) fl_X8_81 (fun v9 => ?_)
      refine zg_iload_n 0 rfl d_X8_starts_33 ?_
      refine zg_iload_n 3 rfl d_X8_starts_34 ?_
      refine zg_aload_n 1 rfl d_X8_starts_35 ?_
      refine zg_getR d_X8_starts_36 zc_8 (by decide) fl_X8_13 (fun v10 => ?_)
      refine zg_iconst 1 rfl d_X8_starts_39 ?_
      refine zg_ald0 d_X8_starts_40 (fun v11 => ?_)
      refine zg_bd (E := 54) (el := (fun (e14 : Int32) => [(0, .ref a0), (1, .int a1), (2, .int s5), (3, .int ((8 * a1) + s5))])) (es := (fun (e14 : Int32) => [.int e14, .int ((8 * a1) + s5), .ref v9])) ?_ (fun e14 h15 => ?_)
      · refine zg_icmp_ge d_X8_starts_41 ?_ ?_
        · refine zg_iconst 0 rfl d_X8_starts_53 ?_
          exact zg_finK (E := 0) [1, 2, 3, 0] rfl rfl (fun q => q)
        · refine zg_aload_n 1 rfl d_X8_starts_44 ?_
          refine zg_getR d_X8_starts_45 zc_8 (by decide) fl_X8_31 (fun v12 => ?_)
          refine zg_iload_n 3 rfl d_X8_starts_48 ?_
          refine zg_ald0 d_X8_starts_49 (fun v13 => ?_)
          refine zg_goto d_X8_starts_50 ?_
          exact zg_finK (E := 0) [1, 2, 3, 0] rfl rfl (fun q => q)
      · refine zg_ast0 d_X8_starts_54 (fun h16 => ?_)
        refine zg_aload_n 0 rfl d_X8_starts_55 ?_
        refine zg_getR d_X8_starts_56 zc_8 (by decide) fl_X8_84 (fun v17 => ?_)
        refine zg_iload_n 3 rfl d_X8_starts_59 ?_
        refine zg_iload_n 2 rfl d_X8_starts_60 ?_
        refine zg_aload_n 0 rfl d_X8_starts_61 ?_
        refine zg_getR d_X8_starts_62 zc_8 (by decide) fl_X8_13 (fun v18 => ?_)
        refine zg_iconst 1 rfl d_X8_starts_65 ?_
        refine zg_ald0 d_X8_starts_66 (fun v19 => ?_)
        refine zg_bd (E := 79) (el := (fun (e22 : Int32) => [(0, .ref a0), (1, .int a1), (2, .int s5), (3, .int ((8 * a1) + s5))])) (es := (fun (e22 : Int32) => [.int e22, .int ((8 * a1) + s5), .ref v17])) ?_ (fun e22 h23 => ?_)
        · refine zg_icmp_ge d_X8_starts_67 ?_ ?_
          · refine zg_iconst 0 rfl d_X8_starts_78 ?_
            exact zg_finK (E := 0) [0, 1, 2, 3] rfl rfl (fun q => q)
          · refine zg_aload_n 0 rfl d_X8_starts_70 ?_
            refine zg_iload_n 2 rfl d_X8_starts_71 ?_
            refine zg_cVi (b := a0) (As := [.int s5]) (rest := [.int ((8 * a1) + s5), .ref v17]) (0, 0) d_X8_starts_72 zc_8 rfl cw_X8_334 wi_X8_sizeIn ws_X8_sizeIn rfl rfl (Nat.le_of_ble_eq_true rfl) (by decide) (by decide) ⟨by decide, by decide⟩ rfl (t_X8_sizeIn a0 s5 h16) (fun v21 h20 => ?_)
            refine zg_goto d_X8_starts_75 ?_
            exact zg_finK (E := 0) [0, 1, 2, 3] rfl rfl (fun q => q)
        · refine zg_ast0 d_X8_starts_79 (fun h24 => ?_)
          refine zg_aload_n 0 rfl d_X8_starts_80 ?_
          refine zg_getR d_X8_starts_81 zc_8 (by decide) fl_X8_87 (fun v25 => ?_)
          refine zg_iload_n 3 rfl d_X8_starts_84 ?_
          refine zg_iconst 0 rfl d_X8_starts_85 ?_
          refine zg_ast0 d_X8_starts_86 (fun h26 => ?_)
          refine zg_aload_n 0 rfl d_X8_starts_87 ?_
          refine zg_getR d_X8_starts_88 zc_8 (by decide) fl_X8_90 (fun v27 => ?_)
          refine zg_iload_n 3 rfl d_X8_starts_91 ?_
          refine zg_iconst (-1) rfl d_X8_starts_92 ?_
          refine zg_ast0 d_X8_starts_93 (fun h28 => ?_)
          refine zg_aload_n 0 rfl d_X8_starts_94 ?_
          refine zg_getR d_X8_starts_95 zc_8 (by decide) fl_X8_93 (fun v29 => ?_)
          refine zg_iload_n 3 rfl d_X8_starts_98 ?_
          refine zg_iconst 0 rfl d_X8_starts_99 ?_
          refine zg_ast0 d_X8_starts_100 (fun h30 => ?_)
          refine zg_iinc 2 (s5 + 1) [(2, .int (s5 + 1)), (0, .ref a0), (1, .int a1), (3, .int ((8 * a1) + s5))] d_X8_starts_101 rfl rfl (by decide) rfl ?_
          refine zg_goto d_X8_starts_104 ?_
          exact zg_finK (E := 0) [1, 2, 0] rfl rfl (fun q => q)
  · refine zg_iconst 0 rfl d_X8_starts_107 ?_
    refine zg_istore_n [(2, .int 0), (0, .ref a0), (1, .int a1)] d_X8_starts_108 rfl (by decide) rfl ?_
    refine zg_bd (E := 164) (el := (fun (e33 : Int32) => [(0, .ref a0), (1, .int a1), (2, .int e33)])) (es := fun _ => []) (zg_sub [1, 2, 0] rfl (zg_lp (el := (fun (s31 : Int32) => [(0, .ref a0), (1, .int a1), (2, .int s31)])) (fun s31 h32 => ?_) 0 h8)) (fun e33 h34 => ?_)
    · refine zg_iload_n 2 rfl d_X8_starts_109 ?_
      refine zg_bipush 6 rfl d_X8_starts_110 ?_
      refine zg_icmp_ge d_X8_starts_112 ?_ ?_
      · exact zg_finK (E := 0) [0, 1, 2] rfl rfl (fun q => q)
      · refine zg_aload_n 0 rfl d_X8_starts_115 ?_
        refine zg_getR d_X8_starts_116 zc_8 (by decide) fl_X8_96 (fun v35 => ?_)
        refine zg_bipush 6 rfl d_X8_starts_119 ?_
        refine zg_iload_n 1 rfl d_X8_starts_121 ?_
        refine zg_imul d_X8_starts_122 ?_
        refine zg_iload_n 2 rfl d_X8_starts_123 ?_
        refine zg_iadd d_X8_starts_124 ?_
        refine zg_iload_n 2 rfl d_X8_starts_125 ?_
        refine zg_aload_n 0 rfl d_X8_starts_126 ?_
        refine zg_getR d_X8_starts_127 zc_8 (by decide) fl_X8_13 (fun v36 => ?_)
        refine zg_iconst 2 rfl d_X8_starts_130 ?_
        refine zg_ald0 d_X8_starts_131 (fun v37 => ?_)
        refine zg_bd (E := 145) (el := (fun (e40 : Int32) => [(0, .ref a0), (1, .int a1), (2, .int s31)])) (es := (fun (e40 : Int32) => [.int e40, .int ((6 * a1) + s31), .ref v35])) ?_ (fun e40 h41 => ?_)
        · refine zg_icmp_ge d_X8_starts_132 ?_ ?_
          · refine zg_iconst 0 rfl d_X8_starts_144 ?_
            exact zg_finK (E := 0) [0, 1, 2] rfl rfl (fun q => q)
          · refine zg_aload_n 0 rfl d_X8_starts_135 ?_
            refine zg_getR d_X8_starts_136 zc_8 (by decide) fl_X8_43 (fun v38 => ?_)
            refine zg_iload_n 2 rfl d_X8_starts_139 ?_
            refine zg_ald0 d_X8_starts_140 (fun v39 => ?_)
            refine zg_goto d_X8_starts_141 ?_
            exact zg_finK (E := 0) [0, 1, 2] rfl rfl (fun q => q)
        · refine zg_ast0 d_X8_starts_145 (fun h42 => ?_)
          refine zg_aload_n 0 rfl d_X8_starts_146 ?_
          refine zg_getR d_X8_starts_147 zc_8 (by decide) fl_X8_99 (fun v43 => ?_)
          refine zg_bipush 6 rfl d_X8_starts_150 ?_
          refine zg_iload_n 1 rfl d_X8_starts_152 ?_
          refine zg_imul d_X8_starts_153 ?_
          refine zg_iload_n 2 rfl d_X8_starts_154 ?_
          refine zg_iadd d_X8_starts_155 ?_
          refine zg_iconst 0 rfl d_X8_starts_156 ?_
          refine zg_ast0 d_X8_starts_157 (fun h44 => ?_)
          refine zg_iinc 2 (s31 + 1) [(2, .int (s31 + 1)), (0, .ref a0), (1, .int a1)] d_X8_starts_158 rfl rfl (by decide) rfl ?_
          refine zg_goto d_X8_starts_161 ?_
          exact zg_finK (E := 0) [1, 2, 0] rfl rfl (fun q => q)
    · refine zg_iconst 0 rfl d_X8_starts_164 ?_
      refine zg_istore_n [(2, .int 0), (0, .ref a0), (1, .int a1)] d_X8_starts_165 rfl (by decide) rfl ?_
      refine zg_bd (E := 188) (el := (fun (e47 : Int32) => [(0, .ref a0), (1, .int a1), (2, .int e47)])) (es := fun _ => []) (zg_sub [1, 2, 0] rfl (zg_lp (el := (fun (s45 : Int32) => [(0, .ref a0), (1, .int a1), (2, .int s45)])) (fun s45 h46 => ?_) 0 h34)) (fun e47 h48 => ?_)
      · refine zg_iload_n 2 rfl d_X8_starts_166 ?_
        refine zg_iconst 5 rfl d_X8_starts_167 ?_
        refine zg_icmp_ge d_X8_starts_168 ?_ ?_
        · exact zg_finK (E := 0) [0, 1, 2] rfl rfl (fun q => q)
        · refine zg_aload_n 0 rfl d_X8_starts_171 ?_
          refine zg_getR d_X8_starts_172 zc_8 (by decide) fl_X8_102 (fun v49 => ?_)
          refine zg_iconst 5 rfl d_X8_starts_175 ?_
          refine zg_iload_n 1 rfl d_X8_starts_176 ?_
          refine zg_imul d_X8_starts_177 ?_
          refine zg_iload_n 2 rfl d_X8_starts_178 ?_
          refine zg_iadd d_X8_starts_179 ?_
          refine zg_iconst 0 rfl d_X8_starts_180 ?_
          refine zg_ast0 d_X8_starts_181 (fun h50 => ?_)
          refine zg_iinc 2 (s45 + 1) [(2, .int (s45 + 1)), (0, .ref a0), (1, .int a1)] d_X8_starts_182 rfl rfl (by decide) rfl ?_
          refine zg_goto d_X8_starts_185 ?_
          exact zg_finK (E := 0) [1, 2, 0] rfl rfl (fun q => q)
      · refine zg_iconst 0 rfl d_X8_starts_188 ?_
        refine zg_istore_n [(2, .int 0), (0, .ref a0), (1, .int a1)] d_X8_starts_189 rfl (by decide) rfl ?_
        refine zg_bd (E := 214) (el := (fun (e53 : Int32) => [(0, .ref a0), (1, .int a1), (2, .int e53)])) (es := fun _ => []) (zg_sub [1, 2, 0] rfl (zg_lp (el := (fun (s51 : Int32) => [(0, .ref a0), (1, .int a1), (2, .int s51)])) (fun s51 h52 => ?_) 0 h48)) (fun e53 h54 => ?_)
        · refine zg_iload_n 2 rfl d_X8_starts_190 ?_
          refine zg_bipush 35 rfl d_X8_starts_191 ?_
          refine zg_icmp_ge d_X8_starts_193 ?_ ?_
          · exact zg_finK (E := 0) [0, 1, 2] rfl rfl (fun q => q)
          · refine zg_aload_n 0 rfl d_X8_starts_196 ?_
            refine zg_getR d_X8_starts_197 zc_8 (by decide) fl_X8_105 (fun v55 => ?_)
            refine zg_bipush 35 rfl d_X8_starts_200 ?_
            refine zg_iload_n 1 rfl d_X8_starts_202 ?_
            refine zg_imul d_X8_starts_203 ?_
            refine zg_iload_n 2 rfl d_X8_starts_204 ?_
            refine zg_iadd d_X8_starts_205 ?_
            refine zg_iconst 0 rfl d_X8_starts_206 ?_
            refine zg_ast0 d_X8_starts_207 (fun h56 => ?_)
            refine zg_iinc 2 (s51 + 1) [(2, .int (s51 + 1)), (0, .ref a0), (1, .int a1)] d_X8_starts_208 rfl rfl (by decide) rfl ?_
            refine zg_goto d_X8_starts_211 ?_
            exact zg_finK (E := 0) [1, 2, 0] rfl rfl (fun q => q)
        · exact zg_vretK d_X8_starts_214 rfl ⟨Nat.le_of_ble_eq_true rfl, Nat.le_of_ble_eq_true rfl⟩ (fun q => q)
abbrev M_X8_begins : zMt := (RX8, cX8_begins, 1, 3, 104, none, "begins", 0, 0)
theorem d_X8_begins_0 : zDc M_X8_begins 0 (.aload_n 0) 1 1 := ⟨by decide +kernel, rfl⟩
theorem d_X8_begins_1 : zDc M_X8_begins 1 (.iconst 0) 1 2 := ⟨by decide +kernel, rfl⟩
theorem d_X8_begins_2 : zDc M_X8_begins 2 (.invokevirtual 337) 3 5 := ⟨by decide +kernel, rfl⟩
theorem d_X8_begins_5 : zDc M_X8_begins 5 (.return_) 1 6 := ⟨by decide +kernel, rfl⟩
def f_X8_begins (a0 : Nat) (h0 : zHp) : Option (Unit × zHp) :=
  zbd (zcv 8 a0 h0 (f_X8_starts a0 0 h0)) (fun v2 h1 =>
  some ((), h1))
set_option maxRecDepth 100000 in
set_option maxHeartbeats 4000000 in
theorem t_X8_begins (a0 : Nat) (h0 : zHp) : ∀ (r : Unit) (h' : zHp), f_X8_begins a0 h0 = some (r, h') → zCt yX8_begins (.code yX8_begins cX8_begins 1 none) 3 104 0 0 [.ref a0] h0 (none) h' := by
  refine zct_of M_X8_begins yX8_begins (by decide) rfl rfl [.ref a0] h0 (Nat.le_of_ble_eq_true rfl) (fun _ => none) (fun X => ?_)
  show zG X M_X8_begins (0, 0) 0 [(0, .ref a0)] [] h0 (f_X8_begins a0 h0) (fun (_ : Unit) h' => zKe X (none) h')
  unfold f_X8_begins
  refine zg_aload_n 0 rfl d_X8_begins_0 ?_
  refine zg_iconst 0 rfl d_X8_begins_1 ?_
  refine zg_cVv (b := a0) (As := [.int 0]) (rest := []) (0, 0) d_X8_begins_2 zc_8 rfl cw_X8_337 wi_X8_starts ws_X8_starts rfl rfl (Nat.le_of_ble_eq_true rfl) (by decide) (by decide) ⟨by decide, by decide⟩ rfl (t_X8_starts a0 0 h0) (fun v2 h1 => ?_)
  exact zg_vretK d_X8_begins_5 rfl ⟨Nat.le_of_ble_eq_true rfl, Nat.le_of_ble_eq_true rfl⟩ (fun q => q)
abbrev M_X8_keepNow : zMt := (RX8, cX8_keepNow, 2, 2, 85, none, "keepNow", 0, 0)
theorem d_X8_keepNow_0 : zDc M_X8_keepNow 0 (.aload_n 0) 1 1 := ⟨by decide +kernel, rfl⟩
theorem d_X8_keepNow_1 : zDc M_X8_keepNow 1 (.getfield 311) 3 4 := ⟨by decide +kernel, rfl⟩
theorem d_X8_keepNow_4 : zDc M_X8_keepNow 4 (.bipush 20) 2 6 := ⟨by decide +kernel, rfl⟩
theorem d_X8_keepNow_6 : zDj M_X8_keepNow 6 (.if_icmp .ne 39) 39 9 45 := ⟨by decide +kernel, rfl, by decide⟩
theorem d_X8_keepNow_9 : zDc M_X8_keepNow 9 (.iconst 1) 1 10 := ⟨by decide +kernel, rfl⟩
theorem d_X8_keepNow_10 : zDc M_X8_keepNow 10 (.istore_n 1) 1 11 := ⟨by decide +kernel, rfl⟩
theorem d_X8_keepNow_11 : zDc M_X8_keepNow 11 (.iload_n 1) 1 12 := ⟨by decide +kernel, rfl⟩
theorem d_X8_keepNow_12 : zDc M_X8_keepNow 12 (.bipush 20) 2 14 := ⟨by decide +kernel, rfl⟩
theorem d_X8_keepNow_14 : zDj M_X8_keepNow 14 (.if_icmp .ge 21) 21 17 35 := ⟨by decide +kernel, rfl, by decide⟩
theorem d_X8_keepNow_17 : zDc M_X8_keepNow 17 (.aload_n 0) 1 18 := ⟨by decide +kernel, rfl⟩
theorem d_X8_keepNow_18 : zDc M_X8_keepNow 18 (.iconst 3) 1 19 := ⟨by decide +kernel, rfl⟩
theorem d_X8_keepNow_19 : zDc M_X8_keepNow 19 (.iload_n 1) 1 20 := ⟨by decide +kernel, rfl⟩
theorem d_X8_keepNow_20 : zDc M_X8_keepNow 20 (.iadd) 1 21 := ⟨by decide +kernel, rfl⟩
theorem d_X8_keepNow_21 : zDc M_X8_keepNow 21 (.iconst 1) 1 22 := ⟨by decide +kernel, rfl⟩
theorem d_X8_keepNow_22 : zDc M_X8_keepNow 22 (.isub) 1 23 := ⟨by decide +kernel, rfl⟩
theorem d_X8_keepNow_23 : zDc M_X8_keepNow 23 (.iconst 3) 1 24 := ⟨by decide +kernel, rfl⟩
theorem d_X8_keepNow_24 : zDc M_X8_keepNow 24 (.iload_n 1) 1 25 := ⟨by decide +kernel, rfl⟩
theorem d_X8_keepNow_25 : zDc M_X8_keepNow 25 (.iadd) 1 26 := ⟨by decide +kernel, rfl⟩
theorem d_X8_keepNow_26 : zDc M_X8_keepNow 26 (.invokevirtual 416) 3 29 := ⟨by decide +kernel, rfl⟩
theorem d_X8_keepNow_29 : zDc M_X8_keepNow 29 (.iinc 1 1) 3 32 := ⟨by decide +kernel, rfl⟩
theorem d_X8_keepNow_32 : zDj M_X8_keepNow 32 (.goto (-21)) (-21) 35 11 := ⟨by decide +kernel, rfl, by decide⟩
theorem d_X8_keepNow_35 : zDc M_X8_keepNow 35 (.aload_n 0) 1 36 := ⟨by decide +kernel, rfl⟩
theorem d_X8_keepNow_36 : zDc M_X8_keepNow 36 (.dup) 1 37 := ⟨by decide +kernel, rfl⟩
theorem d_X8_keepNow_37 : zDc M_X8_keepNow 37 (.getfield 311) 3 40 := ⟨by decide +kernel, rfl⟩
theorem d_X8_keepNow_40 : zDc M_X8_keepNow 40 (.iconst 1) 1 41 := ⟨by decide +kernel, rfl⟩
theorem d_X8_keepNow_41 : zDc M_X8_keepNow 41 (.isub) 1 42 := ⟨by decide +kernel, rfl⟩
theorem d_X8_keepNow_42 : zDc M_X8_keepNow 42 (.putfield 311) 3 45 := ⟨by decide +kernel, rfl⟩
theorem d_X8_keepNow_45 : zDc M_X8_keepNow 45 (.aload_n 0) 1 46 := ⟨by decide +kernel, rfl⟩
theorem d_X8_keepNow_46 : zDc M_X8_keepNow 46 (.iconst 3) 1 47 := ⟨by decide +kernel, rfl⟩
theorem d_X8_keepNow_47 : zDc M_X8_keepNow 47 (.aload_n 0) 1 48 := ⟨by decide +kernel, rfl⟩
theorem d_X8_keepNow_48 : zDc M_X8_keepNow 48 (.getfield 311) 3 51 := ⟨by decide +kernel, rfl⟩
theorem d_X8_keepNow_51 : zDc M_X8_keepNow 51 (.iadd) 1 52 := ⟨by decide +kernel, rfl⟩
theorem d_X8_keepNow_52 : zDc M_X8_keepNow 52 (.iconst 0) 1 53 := ⟨by decide +kernel, rfl⟩
theorem d_X8_keepNow_53 : zDc M_X8_keepNow 53 (.invokevirtual 416) 3 56 := ⟨by decide +kernel, rfl⟩
theorem d_X8_keepNow_56 : zDc M_X8_keepNow 56 (.aload_n 0) 1 57 := ⟨by decide +kernel, rfl⟩
theorem d_X8_keepNow_57 : zDc M_X8_keepNow 57 (.dup) 1 58 := ⟨by decide +kernel, rfl⟩
theorem d_X8_keepNow_58 : zDc M_X8_keepNow 58 (.getfield 311) 3 61 := ⟨by decide +kernel, rfl⟩
theorem d_X8_keepNow_61 : zDc M_X8_keepNow 61 (.iconst 1) 1 62 := ⟨by decide +kernel, rfl⟩
theorem d_X8_keepNow_62 : zDc M_X8_keepNow 62 (.iadd) 1 63 := ⟨by decide +kernel, rfl⟩
theorem d_X8_keepNow_63 : zDc M_X8_keepNow 63 (.putfield 311) 3 66 := ⟨by decide +kernel, rfl⟩
theorem d_X8_keepNow_66 : zDc M_X8_keepNow 66 (.return_) 1 67 := ⟨by decide +kernel, rfl⟩
def f_X8_keepNow (a0 : Nat) (h0 : zHp) : Option (Unit × zHp) :=
  zob (zgI h0 a0 8 48) (fun v1 =>
  zbd (α := Unit) (
  if v1 = 20 then
  zbd (
  zlp (σ := Int32) (β := Int32) zLF (fun s2 h3 =>
  if 20 ≤ s2 then
  some ((.inr s2), h3)
  else
  zbd (zcv 8 a0 h3 (f_X8_copies a0 ((3 + s2) - 1) (3 + s2) h3)) (fun v7 h6 =>
  some ((.inl (s2 + 1)), h6))) 1 h0) (fun e4 h5 =>
  zob (zgI h5 a0 8 48) (fun v8 =>
  zob (zpV h5 a0 8 48 (.int (v8 - 1))) (fun h9 =>
  some ((), h9))))
  else
  some ((), h0)) (fun e10 h11 =>
  zob (zgI h11 a0 8 48) (fun v12 =>
  zbd (zcv 8 a0 h11 (f_X8_copies a0 (3 + v12) 0 h11)) (fun v14 h13 =>
  zob (zgI h13 a0 8 48) (fun v15 =>
  zob (zpV h13 a0 8 48 (.int (v15 + 1))) (fun h16 =>
  some ((), h16)))))))
set_option maxRecDepth 100000 in
set_option maxHeartbeats 4000000 in
theorem t_X8_keepNow (a0 : Nat) (h0 : zHp) : ∀ (r : Unit) (h' : zHp), f_X8_keepNow a0 h0 = some (r, h') → zCt yX8_keepNow (.code yX8_keepNow cX8_keepNow 2 none) 2 85 0 0 [.ref a0] h0 (none) h' := by
  refine zct_of M_X8_keepNow yX8_keepNow (by decide) rfl rfl [.ref a0] h0 (Nat.le_of_ble_eq_true rfl) (fun _ => none) (fun X => ?_)
  show zG X M_X8_keepNow (0, 0) 0 [(0, .ref a0)] [] h0 (f_X8_keepNow a0 h0) (fun (_ : Unit) h' => zKe X (none) h')
  unfold f_X8_keepNow
  refine zg_aload_n 0 rfl d_X8_keepNow_0 ?_
  refine zg_getI d_X8_keepNow_1 zc_8 (by decide) fl_X8_311 (fun v1 => ?_)
  refine zg_bipush 20 rfl d_X8_keepNow_4 ?_
  refine zg_bd (E := 45) (el := (fun (e10 : Unit) => [(0, .ref a0)])) (es := (fun (e10 : Unit) => [])) ?_ (fun e10 h11 => ?_)
  · refine zg_icmp_ne d_X8_keepNow_6 ?_ ?_
    · refine zg_iconst 1 rfl d_X8_keepNow_9 ?_
      refine zg_istore_n [(1, .int 1), (0, .ref a0)] d_X8_keepNow_10 rfl (by decide) rfl ?_
      refine zg_bd (E := 35) (el := (fun (e4 : Int32) => [(0, .ref a0), (1, .int e4)])) (es := fun _ => []) (zg_sub [1, 0] rfl (zg_lp (el := (fun (s2 : Int32) => [(0, .ref a0), (1, .int s2)])) (fun s2 h3 => ?_) 1 h0)) (fun e4 h5 => ?_)
      · refine zg_iload_n 1 rfl d_X8_keepNow_11 ?_
        refine zg_bipush 20 rfl d_X8_keepNow_12 ?_
        refine zg_icmp_ge d_X8_keepNow_14 ?_ ?_
        · exact zg_finK (E := 0) [0, 1] rfl rfl (fun q => q)
        · refine zg_aload_n 0 rfl d_X8_keepNow_17 ?_
          refine zg_iconst 3 rfl d_X8_keepNow_18 ?_
          refine zg_iload_n 1 rfl d_X8_keepNow_19 ?_
          refine zg_iadd d_X8_keepNow_20 ?_
          refine zg_iconst 1 rfl d_X8_keepNow_21 ?_
          refine zg_isub d_X8_keepNow_22 ?_
          refine zg_iconst 3 rfl d_X8_keepNow_23 ?_
          refine zg_iload_n 1 rfl d_X8_keepNow_24 ?_
          refine zg_iadd d_X8_keepNow_25 ?_
          refine zg_cVv (b := a0) (As := [.int ((3 + s2) - 1), .int (3 + s2)]) (rest := []) (0, 0) d_X8_keepNow_26 zc_8 rfl cw_X8_416 wi_X8_copies ws_X8_copies rfl rfl (Nat.le_of_ble_eq_true rfl) (by decide) (by decide) ⟨by decide, by decide⟩ rfl (t_X8_copies a0 ((3 + s2) - 1) (3 + s2) h3) (fun v7 h6 => ?_)
          refine zg_iinc 1 (s2 + 1) [(1, .int (s2 + 1)), (0, .ref a0)] d_X8_keepNow_29 rfl rfl (by decide) rfl ?_
          refine zg_goto d_X8_keepNow_32 ?_
          exact zg_finK (E := 0) [1, 0] rfl rfl (fun q => q)
      · refine zg_aload_n 0 rfl d_X8_keepNow_35 ?_
        refine zg_dup rfl d_X8_keepNow_36 ?_
        refine zg_getI d_X8_keepNow_37 zc_8 (by decide) fl_X8_311 (fun v8 => ?_)
        refine zg_iconst 1 rfl d_X8_keepNow_40 ?_
        refine zg_isub d_X8_keepNow_41 ?_
        refine zg_putV d_X8_keepNow_42 zc_8 (by decide) fl_X8_311 rfl rfl rfl (fun h9 => ?_)
        exact zg_finK (E := 0) [0] rfl rfl (fun q => q)
    · exact zg_finK (E := 0) [0] rfl rfl (fun q => q)
  · refine zg_aload_n 0 rfl d_X8_keepNow_45 ?_
    refine zg_iconst 3 rfl d_X8_keepNow_46 ?_
    refine zg_aload_n 0 rfl d_X8_keepNow_47 ?_
    refine zg_getI d_X8_keepNow_48 zc_8 (by decide) fl_X8_311 (fun v12 => ?_)
    refine zg_iadd d_X8_keepNow_51 ?_
    refine zg_iconst 0 rfl d_X8_keepNow_52 ?_
    refine zg_cVv (b := a0) (As := [.int (3 + v12), .int 0]) (rest := []) (0, 0) d_X8_keepNow_53 zc_8 rfl cw_X8_416 wi_X8_copies ws_X8_copies rfl rfl (Nat.le_of_ble_eq_true rfl) (by decide) (by decide) ⟨by decide, by decide⟩ rfl (t_X8_copies a0 (3 + v12) 0 h11) (fun v14 h13 => ?_)
    refine zg_aload_n 0 rfl d_X8_keepNow_56 ?_
    refine zg_dup rfl d_X8_keepNow_57 ?_
    refine zg_getI d_X8_keepNow_58 zc_8 (by decide) fl_X8_311 (fun v15 => ?_)
    refine zg_iconst 1 rfl d_X8_keepNow_61 ?_
    refine zg_iadd d_X8_keepNow_62 ?_
    refine zg_putV d_X8_keepNow_63 zc_8 (by decide) fl_X8_311 rfl rfl rfl (fun h16 => ?_)
    exact zg_vretK d_X8_keepNow_66 rfl ⟨Nat.le_of_ble_eq_true rfl, Nat.le_of_ble_eq_true rfl⟩ (fun q => q)
abbrev M_X8_blow : zMt := (RX8, cX8_blow, 2, 3, 106, (some .boolean), "blow", 0, 0)
theorem d_X8_blow_0 : zDc M_X8_blow 0 (.aload_n 0) 1 1 := ⟨by decide +kernel, rfl⟩
theorem d_X8_blow_1 : zDc M_X8_blow 1 (.iconst 0) 1 2 := ⟨by decide +kernel, rfl⟩
theorem d_X8_blow_2 : zDc M_X8_blow 2 (.putfield 151) 3 5 := ⟨by decide +kernel, rfl⟩
theorem d_X8_blow_5 : zDc M_X8_blow 5 (.iload_n 1) 1 6 := ⟨by decide +kernel, rfl⟩
theorem d_X8_blow_6 : zDc M_X8_blow 6 (.iconst (-1)) 1 7 := ⟨by decide +kernel, rfl⟩
theorem d_X8_blow_7 : zDj M_X8_blow 7 (.if_icmp .lt 18) 18 10 25 := ⟨by decide +kernel, rfl, by decide⟩
theorem d_X8_blow_10 : zDc M_X8_blow 10 (.iload_n 1) 1 11 := ⟨by decide +kernel, rfl⟩
theorem d_X8_blow_11 : zDc M_X8_blow 11 (.iconst 4) 1 12 := ⟨by decide +kernel, rfl⟩
theorem d_X8_blow_12 : zDj M_X8_blow 12 (.if_icmp .gt 13) 13 15 25 := ⟨by decide +kernel, rfl, by decide⟩
theorem d_X8_blow_15 : zDc M_X8_blow 15 (.aload_n 0) 1 16 := ⟨by decide +kernel, rfl⟩
theorem d_X8_blow_16 : zDc M_X8_blow 16 (.getfield 78) 3 19 := ⟨by decide +kernel, rfl⟩
theorem d_X8_blow_19 : zDc M_X8_blow 19 (.iconst 0) 1 20 := ⟨by decide +kernel, rfl⟩
theorem d_X8_blow_20 : zDc M_X8_blow 20 (.iaload) 1 21 := ⟨by decide +kernel, rfl⟩
theorem d_X8_blow_21 : zDc M_X8_blow 21 (.iload_n 1) 1 22 := ⟨by decide +kernel, rfl⟩
theorem d_X8_blow_22 : zDj M_X8_blow 22 (.if_icmp .ne 5) 5 25 27 := ⟨by decide +kernel, rfl, by decide⟩
theorem d_X8_blow_25 : zDc M_X8_blow 25 (.iconst 0) 1 26 := ⟨by decide +kernel, rfl⟩
theorem d_X8_blow_26 : zDc M_X8_blow 26 (.ireturn) 1 27 := ⟨by decide +kernel, rfl⟩
theorem d_X8_blow_27 : zDc M_X8_blow 27 (.aload_n 0) 1 28 := ⟨by decide +kernel, rfl⟩
theorem d_X8_blow_28 : zDc M_X8_blow 28 (.invokevirtual 444) 3 31 := ⟨by decide +kernel, rfl⟩
theorem d_X8_blow_31 : zDc M_X8_blow 31 (.aload_n 0) 1 32 := ⟨by decide +kernel, rfl⟩
theorem d_X8_blow_32 : zDc M_X8_blow 32 (.getfield 78) 3 35 := ⟨by decide +kernel, rfl⟩
theorem d_X8_blow_35 : zDc M_X8_blow 35 (.iconst 0) 1 36 := ⟨by decide +kernel, rfl⟩
theorem d_X8_blow_36 : zDc M_X8_blow 36 (.iload_n 1) 1 37 := ⟨by decide +kernel, rfl⟩
theorem d_X8_blow_37 : zDc M_X8_blow 37 (.iastore) 1 38 := ⟨by decide +kernel, rfl⟩
theorem d_X8_blow_38 : zDc M_X8_blow 38 (.iconst 1) 1 39 := ⟨by decide +kernel, rfl⟩
theorem d_X8_blow_39 : zDc M_X8_blow 39 (.ireturn) 1 40 := ⟨by decide +kernel, rfl⟩
def f_X8_blow (a0 : Nat) (a1 : Int32) (h0 : zHp) : Option (Int32 × zHp) :=
  zob (zpV h0 a0 8 0 (.int 0)) (fun h1 =>
  if a1 < (-1) then
  some (0, h1)
  else
  if 4 < a1 then
  some (0, h1)
  else
  zob (zgR h1 a0 8 37) (fun v2 =>
  zob (zaI 0 h1 v2 0) (fun v3 =>
  if v3 = a1 then
  some (0, h1)
  else
  zbd (zcv 8 a0 h1 (f_X8_keepNow a0 h1)) (fun v5 h4 =>
  zob (zgR h4 a0 8 37) (fun v6 =>
  zob (zsI 0 h4 v6 0 a1) (fun h7 =>
  some (1, h7)))))))
set_option maxRecDepth 100000 in
set_option maxHeartbeats 4000000 in
theorem t_X8_blow (a0 : Nat) (a1 : Int32) (h0 : zHp) : ∀ (r : Int32) (h' : zHp), f_X8_blow a0 a1 h0 = some (r, h') → zCt yX8_blow (.code yX8_blow cX8_blow 2 (some .boolean)) 3 106 0 0 [.ref a0, .int a1] h0 (some (.int r)) h' := by
  refine zct_of M_X8_blow yX8_blow (by decide) rfl rfl [.ref a0, .int a1] h0 (Nat.le_of_ble_eq_true rfl) (fun r => some (.int r)) (fun X => ?_)
  show zG X M_X8_blow (0, 0) 0 [(0, .ref a0), (1, .int a1)] [] h0 (f_X8_blow a0 a1 h0) (fun (r : Int32) h' => zKe X (some (.int r)) h')
  unfold f_X8_blow
  refine zg_aload_n 0 rfl d_X8_blow_0 ?_
  refine zg_iconst 0 rfl d_X8_blow_1 ?_
  refine zg_putV d_X8_blow_2 zc_8 (by decide) fl_X8_151 rfl rfl rfl (fun h1 => ?_)
  refine zg_iload_n 1 rfl d_X8_blow_5 ?_
  refine zg_iconst (-1) rfl d_X8_blow_6 ?_
  refine zg_icmp_lt d_X8_blow_7 ?_ ?_
  · refine zg_iconst 0 rfl d_X8_blow_25 ?_
    exact zg_zretK d_X8_blow_26 rfl ⟨Nat.le_of_ble_eq_true rfl, Nat.le_of_ble_eq_true rfl⟩ (Or.inl rfl) (fun q => q)
  · refine zg_iload_n 1 rfl d_X8_blow_10 ?_
    refine zg_iconst 4 rfl d_X8_blow_11 ?_
    refine zg_icmp_gt d_X8_blow_12 ?_ ?_
    · refine zg_iconst 0 rfl d_X8_blow_25 ?_
      exact zg_zretK d_X8_blow_26 rfl ⟨Nat.le_of_ble_eq_true rfl, Nat.le_of_ble_eq_true rfl⟩ (Or.inl rfl) (fun q => q)
    · refine zg_aload_n 0 rfl d_X8_blow_15 ?_
      refine zg_getR d_X8_blow_16 zc_8 (by decide) fl_X8_78 (fun v2 => ?_)
      refine zg_iconst 0 rfl d_X8_blow_19 ?_
      refine zg_ald0 d_X8_blow_20 (fun v3 => ?_)
      refine zg_iload_n 1 rfl d_X8_blow_21 ?_
      refine zg_icmp_ne d_X8_blow_22 ?_ ?_
      · refine zg_iconst 0 rfl d_X8_blow_25 ?_
        exact zg_zretK d_X8_blow_26 rfl ⟨Nat.le_of_ble_eq_true rfl, Nat.le_of_ble_eq_true rfl⟩ (Or.inl rfl) (fun q => q)
      · refine zg_aload_n 0 rfl d_X8_blow_27 ?_
        refine zg_cVv (b := a0) (As := []) (rest := []) (0, 0) d_X8_blow_28 zc_8 rfl cw_X8_444 wi_X8_keepNow ws_X8_keepNow rfl rfl (Nat.le_of_ble_eq_true rfl) (by decide) (by decide) ⟨by decide, by decide⟩ rfl (t_X8_keepNow a0 h1) (fun v5 h4 => ?_)
        refine zg_aload_n 0 rfl d_X8_blow_31 ?_
        refine zg_getR d_X8_blow_32 zc_8 (by decide) fl_X8_78 (fun v6 => ?_)
        refine zg_iconst 0 rfl d_X8_blow_35 ?_
        refine zg_iload_n 1 rfl d_X8_blow_36 ?_
        refine zg_ast0 d_X8_blow_37 (fun h7 => ?_)
        refine zg_iconst 1 rfl d_X8_blow_38 ?_
        exact zg_zretK d_X8_blow_39 rfl ⟨Nat.le_of_ble_eq_true rfl, Nat.le_of_ble_eq_true rfl⟩ (Or.inr rfl) (fun q => q)
abbrev M_X8_here : zMt := (RX8, cX8_here, 1, 1, 60, (some .int), "here", 0, 0)
theorem d_X8_here_0 : zDc M_X8_here 0 (.aload_n 0) 1 1 := ⟨by decide +kernel, rfl⟩
theorem d_X8_here_1 : zDc M_X8_here 1 (.getfield 157) 3 4 := ⟨by decide +kernel, rfl⟩
theorem d_X8_here_4 : zDc M_X8_here 4 (.aload_n 0) 1 5 := ⟨by decide +kernel, rfl⟩
theorem d_X8_here_5 : zDc M_X8_here 5 (.getfield 160) 3 8 := ⟨by decide +kernel, rfl⟩
theorem d_X8_here_8 : zDj M_X8_here 8 (.if_icmp .ge 15) 15 11 23 := ⟨by decide +kernel, rfl, by decide⟩
theorem d_X8_here_11 : zDc M_X8_here 11 (.aload_n 0) 1 12 := ⟨by decide +kernel, rfl⟩
theorem d_X8_here_12 : zDc M_X8_here 12 (.getfield 7) 3 15 := ⟨by decide +kernel, rfl⟩
theorem d_X8_here_15 : zDc M_X8_here 15 (.aload_n 0) 1 16 := ⟨by decide +kernel, rfl⟩
theorem d_X8_here_16 : zDc M_X8_here 16 (.getfield 157) 3 19 := ⟨by decide +kernel, rfl⟩
theorem d_X8_here_19 : zDc M_X8_here 19 (.iaload) 1 20 := ⟨by decide +kernel, rfl⟩
theorem d_X8_here_20 : zDj M_X8_here 20 (.goto 4) 4 23 24 := ⟨by decide +kernel, rfl, by decide⟩
theorem d_X8_here_23 : zDc M_X8_here 23 (.iconst (-1)) 1 24 := ⟨by decide +kernel, rfl⟩
theorem d_X8_here_24 : zDc M_X8_here 24 (.ireturn) 1 25 := ⟨by decide +kernel, rfl⟩
def f_X8_here (a0 : Nat) (h0 : zHp) : Option (Int32 × zHp) :=
  zob (zgI h0 a0 8 23) (fun v1 =>
  zob (zgI h0 a0 8 22) (fun v2 =>
  if v2 ≤ v1 then
  some ((-1), h0)
  else
  zob (zgR h0 a0 8 1) (fun v3 =>
  zob (zgI h0 a0 8 23) (fun v4 =>
  zob (zaI 0 h0 v3 v4) (fun v5 =>
  some (v5, h0))))))
set_option maxRecDepth 100000 in
set_option maxHeartbeats 4000000 in
theorem t_X8_here (a0 : Nat) (h0 : zHp) : ∀ (r : Int32) (h' : zHp), f_X8_here a0 h0 = some (r, h') → zCt yX8_here (.code yX8_here cX8_here 1 (some .int)) 1 60 0 0 [.ref a0] h0 (some (.int r)) h' := by
  refine zct_of M_X8_here yX8_here (by decide) rfl rfl [.ref a0] h0 (Nat.le_of_ble_eq_true rfl) (fun r => some (.int r)) (fun X => ?_)
  show zG X M_X8_here (0, 0) 0 [(0, .ref a0)] [] h0 (f_X8_here a0 h0) (fun (r : Int32) h' => zKe X (some (.int r)) h')
  unfold f_X8_here
  refine zg_aload_n 0 rfl d_X8_here_0 ?_
  refine zg_getI d_X8_here_1 zc_8 (by decide) fl_X8_157 (fun v1 => ?_)
  refine zg_aload_n 0 rfl d_X8_here_4 ?_
  refine zg_getI d_X8_here_5 zc_8 (by decide) fl_X8_160 (fun v2 => ?_)
  refine zg_icmp_ge d_X8_here_8 ?_ ?_
  · refine zg_iconst (-1) rfl d_X8_here_23 ?_
    exact zg_iretK d_X8_here_24 rfl ⟨Nat.le_of_ble_eq_true rfl, Nat.le_of_ble_eq_true rfl⟩ (fun q => q)
  · refine zg_aload_n 0 rfl d_X8_here_11 ?_
    refine zg_getR d_X8_here_12 zc_8 (by decide) fl_X8_7 (fun v3 => ?_)
    refine zg_aload_n 0 rfl d_X8_here_15 ?_
    refine zg_getI d_X8_here_16 zc_8 (by decide) fl_X8_157 (fun v4 => ?_)
    refine zg_ald0 d_X8_here_19 (fun v5 => ?_)
    refine zg_goto d_X8_here_20 ?_
    exact zg_iretK d_X8_here_24 rfl ⟨Nat.le_of_ble_eq_true rfl, Nat.le_of_ble_eq_true rfl⟩ (fun q => q)
abbrev M_X8_isDigit : zMt := (RX8, cX8_isDigit, 1, 1, 60, (some .boolean), "isDigit", 0, 0)
theorem d_X8_isDigit_0 : zDc M_X8_isDigit 0 (.iload_n 0) 1 1 := ⟨by decide +kernel, rfl⟩
theorem d_X8_isDigit_1 : zDc M_X8_isDigit 1 (.bipush 48) 2 3 := ⟨by decide +kernel, rfl⟩
theorem d_X8_isDigit_3 : zDj M_X8_isDigit 3 (.if_icmp .lt 13) 13 6 16 := ⟨by decide +kernel, rfl, by decide⟩
theorem d_X8_isDigit_6 : zDc M_X8_isDigit 6 (.iload_n 0) 1 7 := ⟨by decide +kernel, rfl⟩
theorem d_X8_isDigit_7 : zDc M_X8_isDigit 7 (.bipush 57) 2 9 := ⟨by decide +kernel, rfl⟩
theorem d_X8_isDigit_9 : zDj M_X8_isDigit 9 (.if_icmp .gt 7) 7 12 16 := ⟨by decide +kernel, rfl, by decide⟩
theorem d_X8_isDigit_12 : zDc M_X8_isDigit 12 (.iconst 1) 1 13 := ⟨by decide +kernel, rfl⟩
theorem d_X8_isDigit_13 : zDj M_X8_isDigit 13 (.goto 4) 4 16 17 := ⟨by decide +kernel, rfl, by decide⟩
theorem d_X8_isDigit_16 : zDc M_X8_isDigit 16 (.iconst 0) 1 17 := ⟨by decide +kernel, rfl⟩
theorem d_X8_isDigit_17 : zDc M_X8_isDigit 17 (.ireturn) 1 18 := ⟨by decide +kernel, rfl⟩
def f_X8_isDigit (a0 : Int32) (h0 : zHp) : Option (Int32 × zHp) :=
  if a0 < 48 then
  some (0, h0)
  else
  if 57 < a0 then
  some (0, h0)
  else
  some (1, h0)
set_option maxRecDepth 100000 in
set_option maxHeartbeats 4000000 in
theorem t_X8_isDigit (a0 : Int32) (h0 : zHp) : ∀ (r : Int32) (h' : zHp), f_X8_isDigit a0 h0 = some (r, h') → zCt yX8_isDigit (.code yX8_isDigit cX8_isDigit 1 (some .boolean)) 1 60 0 0 [.int a0] h0 (some (.int r)) h' := by
  refine zct_of M_X8_isDigit yX8_isDigit (by decide) rfl rfl [.int a0] h0 (Nat.le_of_ble_eq_true rfl) (fun r => some (.int r)) (fun X => ?_)
  show zG X M_X8_isDigit (0, 0) 0 [(0, .int a0)] [] h0 (f_X8_isDigit a0 h0) (fun (r : Int32) h' => zKe X (some (.int r)) h')
  unfold f_X8_isDigit
  refine zg_iload_n 0 rfl d_X8_isDigit_0 ?_
  refine zg_bipush 48 rfl d_X8_isDigit_1 ?_
  refine zg_icmp_lt d_X8_isDigit_3 ?_ ?_
  · refine zg_iconst 0 rfl d_X8_isDigit_16 ?_
    exact zg_zretK d_X8_isDigit_17 rfl ⟨Nat.le_of_ble_eq_true rfl, Nat.le_of_ble_eq_true rfl⟩ (Or.inl rfl) (fun q => q)
  · refine zg_iload_n 0 rfl d_X8_isDigit_6 ?_
    refine zg_bipush 57 rfl d_X8_isDigit_7 ?_
    refine zg_icmp_gt d_X8_isDigit_9 ?_ ?_
    · refine zg_iconst 0 rfl d_X8_isDigit_16 ?_
      exact zg_zretK d_X8_isDigit_17 rfl ⟨Nat.le_of_ble_eq_true rfl, Nat.le_of_ble_eq_true rfl⟩ (Or.inl rfl) (fun q => q)
    · refine zg_iconst 1 rfl d_X8_isDigit_12 ?_
      refine zg_goto d_X8_isDigit_13 ?_
      exact zg_zretK d_X8_isDigit_17 rfl ⟨Nat.le_of_ble_eq_true rfl, Nat.le_of_ble_eq_true rfl⟩ (Or.inr rfl) (fun q => q)
abbrev M_X8_isSmall : zMt := (RX8, cX8_isSmall, 1, 1, 60, (some .boolean), "isSmall", 0, 0)
theorem d_X8_isSmall_0 : zDc M_X8_isSmall 0 (.iload_n 0) 1 1 := ⟨by decide +kernel, rfl⟩
theorem d_X8_isSmall_1 : zDc M_X8_isSmall 1 (.bipush 97) 2 3 := ⟨by decide +kernel, rfl⟩
theorem d_X8_isSmall_3 : zDj M_X8_isSmall 3 (.if_icmp .lt 13) 13 6 16 := ⟨by decide +kernel, rfl, by decide⟩
theorem d_X8_isSmall_6 : zDc M_X8_isSmall 6 (.iload_n 0) 1 7 := ⟨by decide +kernel, rfl⟩
theorem d_X8_isSmall_7 : zDc M_X8_isSmall 7 (.bipush 122) 2 9 := ⟨by decide +kernel, rfl⟩
theorem d_X8_isSmall_9 : zDj M_X8_isSmall 9 (.if_icmp .gt 7) 7 12 16 := ⟨by decide +kernel, rfl, by decide⟩
theorem d_X8_isSmall_12 : zDc M_X8_isSmall 12 (.iconst 1) 1 13 := ⟨by decide +kernel, rfl⟩
theorem d_X8_isSmall_13 : zDj M_X8_isSmall 13 (.goto 4) 4 16 17 := ⟨by decide +kernel, rfl, by decide⟩
theorem d_X8_isSmall_16 : zDc M_X8_isSmall 16 (.iconst 0) 1 17 := ⟨by decide +kernel, rfl⟩
theorem d_X8_isSmall_17 : zDc M_X8_isSmall 17 (.ireturn) 1 18 := ⟨by decide +kernel, rfl⟩
def f_X8_isSmall (a0 : Int32) (h0 : zHp) : Option (Int32 × zHp) :=
  if a0 < 97 then
  some (0, h0)
  else
  if 122 < a0 then
  some (0, h0)
  else
  some (1, h0)
set_option maxRecDepth 100000 in
set_option maxHeartbeats 4000000 in
theorem t_X8_isSmall (a0 : Int32) (h0 : zHp) : ∀ (r : Int32) (h' : zHp), f_X8_isSmall a0 h0 = some (r, h') → zCt yX8_isSmall (.code yX8_isSmall cX8_isSmall 1 (some .boolean)) 1 60 0 0 [.int a0] h0 (some (.int r)) h' := by
  refine zct_of M_X8_isSmall yX8_isSmall (by decide) rfl rfl [.int a0] h0 (Nat.le_of_ble_eq_true rfl) (fun r => some (.int r)) (fun X => ?_)
  show zG X M_X8_isSmall (0, 0) 0 [(0, .int a0)] [] h0 (f_X8_isSmall a0 h0) (fun (r : Int32) h' => zKe X (some (.int r)) h')
  unfold f_X8_isSmall
  refine zg_iload_n 0 rfl d_X8_isSmall_0 ?_
  refine zg_bipush 97 rfl d_X8_isSmall_1 ?_
  refine zg_icmp_lt d_X8_isSmall_3 ?_ ?_
  · refine zg_iconst 0 rfl d_X8_isSmall_16 ?_
    exact zg_zretK d_X8_isSmall_17 rfl ⟨Nat.le_of_ble_eq_true rfl, Nat.le_of_ble_eq_true rfl⟩ (Or.inl rfl) (fun q => q)
  · refine zg_iload_n 0 rfl d_X8_isSmall_6 ?_
    refine zg_bipush 122 rfl d_X8_isSmall_7 ?_
    refine zg_icmp_gt d_X8_isSmall_9 ?_ ?_
    · refine zg_iconst 0 rfl d_X8_isSmall_16 ?_
      exact zg_zretK d_X8_isSmall_17 rfl ⟨Nat.le_of_ble_eq_true rfl, Nat.le_of_ble_eq_true rfl⟩ (Or.inl rfl) (fun q => q)
    · refine zg_iconst 1 rfl d_X8_isSmall_12 ?_
      refine zg_goto d_X8_isSmall_13 ?_
      exact zg_zretK d_X8_isSmall_17 rfl ⟨Nat.le_of_ble_eq_true rfl, Nat.le_of_ble_eq_true rfl⟩ (Or.inr rfl) (fun q => q)
abbrev M_X8_name : zMt := (RX8, cX8_name, 2, 1, 60, none, "name", 0, 0)
theorem d_X8_name_0 : zDc M_X8_name 0 (.aload_n 0) 1 1 := ⟨by decide +kernel, rfl⟩
theorem d_X8_name_1 : zDc M_X8_name 1 (.iconst 0) 1 2 := ⟨by decide +kernel, rfl⟩
theorem d_X8_name_2 : zDc M_X8_name 2 (.putfield 180) 3 5 := ⟨by decide +kernel, rfl⟩
theorem d_X8_name_5 : zDc M_X8_name 5 (.iconst 0) 1 6 := ⟨by decide +kernel, rfl⟩
theorem d_X8_name_6 : zDc M_X8_name 6 (.istore_n 1) 1 7 := ⟨by decide +kernel, rfl⟩
theorem d_X8_name_7 : zDc M_X8_name 7 (.iload_n 1) 1 8 := ⟨by decide +kernel, rfl⟩
theorem d_X8_name_8 : zDc M_X8_name 8 (.bipush 6) 2 10 := ⟨by decide +kernel, rfl⟩
theorem d_X8_name_10 : zDj M_X8_name 10 (.if_icmp .ge 53) 53 13 63 := ⟨by decide +kernel, rfl, by decide⟩
theorem d_X8_name_13 : zDc M_X8_name 13 (.aload_n 0) 1 14 := ⟨by decide +kernel, rfl⟩
theorem d_X8_name_14 : zDc M_X8_name 14 (.aload_n 0) 1 15 := ⟨by decide +kernel, rfl⟩
theorem d_X8_name_15 : zDc M_X8_name 15 (.getfield 180) 3 18 := ⟨by decide +kernel, rfl⟩
theorem d_X8_name_18 : zDc M_X8_name 18 (.iconst 5) 1 19 := ⟨by decide +kernel, rfl⟩
theorem d_X8_name_19 : zDc M_X8_name 19 (.ishl) 1 20 := ⟨by decide +kernel, rfl⟩
theorem d_X8_name_20 : zDc M_X8_name 20 (.aload_n 0) 1 21 := ⟨by decide +kernel, rfl⟩
theorem d_X8_name_21 : zDc M_X8_name 21 (.getfield 167) 3 24 := ⟨by decide +kernel, rfl⟩
theorem d_X8_name_24 : zDc M_X8_name 24 (.iload_n 1) 1 25 := ⟨by decide +kernel, rfl⟩
theorem d_X8_name_25 : zDc M_X8_name 25 (.iadd) 1 26 := ⟨by decide +kernel, rfl⟩
theorem d_X8_name_26 : zDc M_X8_name 26 (.aload_n 0) 1 27 := ⟨by decide +kernel, rfl⟩
theorem d_X8_name_27 : zDc M_X8_name 27 (.getfield 157) 3 30 := ⟨by decide +kernel, rfl⟩
theorem d_X8_name_30 : zDj M_X8_name 30 (.if_icmp .ge 22) 22 33 52 := ⟨by decide +kernel, rfl, by decide⟩
theorem d_X8_name_33 : zDc M_X8_name 33 (.aload_n 0) 1 34 := ⟨by decide +kernel, rfl⟩
theorem d_X8_name_34 : zDc M_X8_name 34 (.getfield 7) 3 37 := ⟨by decide +kernel, rfl⟩
theorem d_X8_name_37 : zDc M_X8_name 37 (.aload_n 0) 1 38 := ⟨by decide +kernel, rfl⟩
theorem d_X8_name_38 : zDc M_X8_name 38 (.getfield 167) 3 41 := ⟨by decide +kernel, rfl⟩
theorem d_X8_name_41 : zDc M_X8_name 41 (.iload_n 1) 1 42 := ⟨by decide +kernel, rfl⟩
theorem d_X8_name_42 : zDc M_X8_name 42 (.iadd) 1 43 := ⟨by decide +kernel, rfl⟩
theorem d_X8_name_43 : zDc M_X8_name 43 (.iaload) 1 44 := ⟨by decide +kernel, rfl⟩
theorem d_X8_name_44 : zDc M_X8_name 44 (.bipush 97) 2 46 := ⟨by decide +kernel, rfl⟩
theorem d_X8_name_46 : zDc M_X8_name 46 (.isub) 1 47 := ⟨by decide +kernel, rfl⟩
theorem d_X8_name_47 : zDc M_X8_name 47 (.iconst 1) 1 48 := ⟨by decide +kernel, rfl⟩
theorem d_X8_name_48 : zDc M_X8_name 48 (.iadd) 1 49 := ⟨by decide +kernel, rfl⟩
theorem d_X8_name_49 : zDj M_X8_name 49 (.goto 4) 4 52 53 := ⟨by decide +kernel, rfl, by decide⟩
theorem d_X8_name_52 : zDc M_X8_name 52 (.iconst 0) 1 53 := ⟨by decide +kernel, rfl⟩
theorem d_X8_name_53 : zDc M_X8_name 53 (.ior) 1 54 := ⟨by decide +kernel, rfl⟩
theorem d_X8_name_54 : zDc M_X8_name 54 (.putfield 180) 3 57 := ⟨by decide +kernel, rfl⟩
theorem d_X8_name_57 : zDc M_X8_name 57 (.iinc 1 1) 3 60 := ⟨by decide +kernel, rfl⟩
theorem d_X8_name_60 : zDj M_X8_name 60 (.goto (-53)) (-53) 63 7 := ⟨by decide +kernel, rfl, by decide⟩
theorem d_X8_name_63 : zDc M_X8_name 63 (.return_) 1 64 := ⟨by decide +kernel, rfl⟩
def f_X8_name (a0 : Nat) (h0 : zHp) : Option (Unit × zHp) :=
  zob (zpV h0 a0 8 26 (.int 0)) (fun h1 =>
  zbd (
  zlp (σ := Int32) (β := Int32) zLF (fun s2 h3 =>
  if 6 ≤ s2 then
  some ((.inr s2), h3)
  else
  zob (zgI h3 a0 8 26) (fun v6 =>
  zob (zgI h3 a0 8 24) (fun v7 =>
  zob (zgI h3 a0 8 23) (fun v8 =>
  zbd (α := Int32) (
  if v8 ≤ (v7 + s2) then
  some (0, h3)
  else
  zob (zgR h3 a0 8 1) (fun v9 =>
  zob (zgI h3 a0 8 24) (fun v10 =>
  zob (zaI 0 h3 v9 (v10 + s2)) (fun v11 =>
  some (((v11 - 97) + 1), h3))))) (fun e12 h13 =>
  zob (zpV h13 a0 8 26 (.int ((v6 <<< (5 &&& 31)) ||| e12))) (fun h14 =>
  some ((.inl (s2 + 1)), h14))))))) 0 h1) (fun e4 h5 =>
  some ((), h5)))
set_option maxRecDepth 100000 in
set_option maxHeartbeats 4000000 in
theorem t_X8_name (a0 : Nat) (h0 : zHp) : ∀ (r : Unit) (h' : zHp), f_X8_name a0 h0 = some (r, h') → zCt yX8_name (.code yX8_name cX8_name 2 none) 1 60 0 0 [.ref a0] h0 (none) h' := by
  refine zct_of M_X8_name yX8_name (by decide) rfl rfl [.ref a0] h0 (Nat.le_of_ble_eq_true rfl) (fun _ => none) (fun X => ?_)
  show zG X M_X8_name (0, 0) 0 [(0, .ref a0)] [] h0 (f_X8_name a0 h0) (fun (_ : Unit) h' => zKe X (none) h')
  unfold f_X8_name
  refine zg_aload_n 0 rfl d_X8_name_0 ?_
  refine zg_iconst 0 rfl d_X8_name_1 ?_
  refine zg_putV d_X8_name_2 zc_8 (by decide) fl_X8_180 rfl rfl rfl (fun h1 => ?_)
  refine zg_iconst 0 rfl d_X8_name_5 ?_
  refine zg_istore_n [(1, .int 0), (0, .ref a0)] d_X8_name_6 rfl (by decide) rfl ?_
  refine zg_bd (E := 63) (el := (fun (e4 : Int32) => [(0, .ref a0), (1, .int e4)])) (es := fun _ => []) (zg_sub [1, 0] rfl (zg_lp (el := (fun (s2 : Int32) => [(0, .ref a0), (1, .int s2)])) (fun s2 h3 => ?_) 0 h1)) (fun e4 h5 => ?_)
  · refine zg_iload_n 1 rfl d_X8_name_7 ?_
    refine zg_bipush 6 rfl d_X8_name_8 ?_
    refine zg_icmp_ge d_X8_name_10 ?_ ?_
    · exact zg_finK (E := 0) [0, 1] rfl rfl (fun q => q)
    · refine zg_aload_n 0 rfl d_X8_name_13 ?_
      refine zg_aload_n 0 rfl d_X8_name_14 ?_
      refine zg_getI d_X8_name_15 zc_8 (by decide) fl_X8_180 (fun v6 => ?_)
      refine zg_iconst 5 rfl d_X8_name_18 ?_
      refine zg_ishl d_X8_name_19 ?_
      refine zg_aload_n 0 rfl d_X8_name_20 ?_
      refine zg_getI d_X8_name_21 zc_8 (by decide) fl_X8_167 (fun v7 => ?_)
      refine zg_iload_n 1 rfl d_X8_name_24 ?_
      refine zg_iadd d_X8_name_25 ?_
      refine zg_aload_n 0 rfl d_X8_name_26 ?_
      refine zg_getI d_X8_name_27 zc_8 (by decide) fl_X8_157 (fun v8 => ?_)
      refine zg_bd (E := 53) (el := (fun (e12 : Int32) => [(0, .ref a0), (1, .int s2)])) (es := (fun (e12 : Int32) => [.int e12, .int (v6 <<< (5 &&& 31)), .ref a0])) ?_ (fun e12 h13 => ?_)
      · refine zg_icmp_ge d_X8_name_30 ?_ ?_
        · refine zg_iconst 0 rfl d_X8_name_52 ?_
          exact zg_finK (E := 0) [0, 1] rfl rfl (fun q => q)
        · refine zg_aload_n 0 rfl d_X8_name_33 ?_
          refine zg_getR d_X8_name_34 zc_8 (by decide) fl_X8_7 (fun v9 => ?_)
          refine zg_aload_n 0 rfl d_X8_name_37 ?_
          refine zg_getI d_X8_name_38 zc_8 (by decide) fl_X8_167 (fun v10 => ?_)
          refine zg_iload_n 1 rfl d_X8_name_41 ?_
          refine zg_iadd d_X8_name_42 ?_
          refine zg_ald0 d_X8_name_43 (fun v11 => ?_)
          refine zg_bipush 97 rfl d_X8_name_44 ?_
          refine zg_isub d_X8_name_46 ?_
          refine zg_iconst 1 rfl d_X8_name_47 ?_
          refine zg_iadd d_X8_name_48 ?_
          refine zg_goto d_X8_name_49 ?_
          exact zg_finK (E := 0) [0, 1] rfl rfl (fun q => q)
      · refine zg_ior d_X8_name_53 ?_
        refine zg_putV d_X8_name_54 zc_8 (by decide) fl_X8_180 rfl rfl rfl (fun h14 => ?_)
        refine zg_iinc 1 (s2 + 1) [(1, .int (s2 + 1)), (0, .ref a0)] d_X8_name_57 rfl rfl (by decide) rfl ?_
        refine zg_goto d_X8_name_60 ?_
        exact zg_finK (E := 0) [1, 0] rfl rfl (fun q => q)
  · exact zg_vretK d_X8_name_63 rfl ⟨Nat.le_of_ble_eq_true rfl, Nat.le_of_ble_eq_true rfl⟩ (fun q => q)
abbrev M_X8_sign : zMt := (RX8, cX8_sign, 2, 2, 80, none, "sign", 0, 0)
theorem d_X8_sign_0 : zDc M_X8_sign 0 (.aload_n 0) 1 1 := ⟨by decide +kernel, rfl⟩
theorem d_X8_sign_1 : zDc M_X8_sign 1 (.dup) 1 2 := ⟨by decide +kernel, rfl⟩
theorem d_X8_sign_2 : zDc M_X8_sign 2 (.getfield 157) 3 5 := ⟨by decide +kernel, rfl⟩
theorem d_X8_sign_5 : zDc M_X8_sign 5 (.iconst 1) 1 6 := ⟨by decide +kernel, rfl⟩
theorem d_X8_sign_6 : zDc M_X8_sign 6 (.iadd) 1 7 := ⟨by decide +kernel, rfl⟩
theorem d_X8_sign_7 : zDc M_X8_sign 7 (.putfield 157) 3 10 := ⟨by decide +kernel, rfl⟩
theorem d_X8_sign_10 : zDc M_X8_sign 10 (.aload_n 0) 1 11 := ⟨by decide +kernel, rfl⟩
theorem d_X8_sign_11 : zDc M_X8_sign 11 (.iload_n 1) 1 12 := ⟨by decide +kernel, rfl⟩
theorem d_X8_sign_12 : zDc M_X8_sign 12 (.bipush 59) 2 14 := ⟨by decide +kernel, rfl⟩
theorem d_X8_sign_14 : zDj M_X8_sign 14 (.if_icmp .eq 57) 57 17 71 := ⟨by decide +kernel, rfl, by decide⟩
theorem d_X8_sign_17 : zDc M_X8_sign 17 (.iload_n 1) 1 18 := ⟨by decide +kernel, rfl⟩
theorem d_X8_sign_18 : zDc M_X8_sign 18 (.bipush 40) 2 20 := ⟨by decide +kernel, rfl⟩
theorem d_X8_sign_20 : zDj M_X8_sign 20 (.if_icmp .eq 51) 51 23 71 := ⟨by decide +kernel, rfl, by decide⟩
theorem d_X8_sign_23 : zDc M_X8_sign 23 (.iload_n 1) 1 24 := ⟨by decide +kernel, rfl⟩
theorem d_X8_sign_24 : zDc M_X8_sign 24 (.bipush 41) 2 26 := ⟨by decide +kernel, rfl⟩
theorem d_X8_sign_26 : zDj M_X8_sign 26 (.if_icmp .eq 45) 45 29 71 := ⟨by decide +kernel, rfl, by decide⟩
theorem d_X8_sign_29 : zDc M_X8_sign 29 (.iload_n 1) 1 30 := ⟨by decide +kernel, rfl⟩
theorem d_X8_sign_30 : zDc M_X8_sign 30 (.bipush 43) 2 32 := ⟨by decide +kernel, rfl⟩
theorem d_X8_sign_32 : zDj M_X8_sign 32 (.if_icmp .eq 39) 39 35 71 := ⟨by decide +kernel, rfl, by decide⟩
theorem d_X8_sign_35 : zDc M_X8_sign 35 (.iload_n 1) 1 36 := ⟨by decide +kernel, rfl⟩
theorem d_X8_sign_36 : zDc M_X8_sign 36 (.bipush 45) 2 38 := ⟨by decide +kernel, rfl⟩
theorem d_X8_sign_38 : zDj M_X8_sign 38 (.if_icmp .eq 33) 33 41 71 := ⟨by decide +kernel, rfl, by decide⟩
theorem d_X8_sign_41 : zDc M_X8_sign 41 (.iload_n 1) 1 42 := ⟨by decide +kernel, rfl⟩
theorem d_X8_sign_42 : zDc M_X8_sign 42 (.bipush 42) 2 44 := ⟨by decide +kernel, rfl⟩
theorem d_X8_sign_44 : zDj M_X8_sign 44 (.if_icmp .eq 27) 27 47 71 := ⟨by decide +kernel, rfl, by decide⟩
theorem d_X8_sign_47 : zDc M_X8_sign 47 (.iload_n 1) 1 48 := ⟨by decide +kernel, rfl⟩
theorem d_X8_sign_48 : zDc M_X8_sign 48 (.bipush 47) 2 50 := ⟨by decide +kernel, rfl⟩
theorem d_X8_sign_50 : zDj M_X8_sign 50 (.if_icmp .eq 21) 21 53 71 := ⟨by decide +kernel, rfl, by decide⟩
theorem d_X8_sign_53 : zDc M_X8_sign 53 (.iload_n 1) 1 54 := ⟨by decide +kernel, rfl⟩
theorem d_X8_sign_54 : zDc M_X8_sign 54 (.bipush 60) 2 56 := ⟨by decide +kernel, rfl⟩
theorem d_X8_sign_56 : zDj M_X8_sign 56 (.if_icmp .eq 15) 15 59 71 := ⟨by decide +kernel, rfl, by decide⟩
theorem d_X8_sign_59 : zDc M_X8_sign 59 (.iload_n 1) 1 60 := ⟨by decide +kernel, rfl⟩
theorem d_X8_sign_60 : zDc M_X8_sign 60 (.bipush 61) 2 62 := ⟨by decide +kernel, rfl⟩
theorem d_X8_sign_62 : zDj M_X8_sign 62 (.if_icmp .eq 9) 9 65 71 := ⟨by decide +kernel, rfl, by decide⟩
theorem d_X8_sign_65 : zDc M_X8_sign 65 (.iload_n 1) 1 66 := ⟨by decide +kernel, rfl⟩
theorem d_X8_sign_66 : zDc M_X8_sign 66 (.bipush 62) 2 68 := ⟨by decide +kernel, rfl⟩
theorem d_X8_sign_68 : zDj M_X8_sign 68 (.if_icmp .ne 7) 7 71 75 := ⟨by decide +kernel, rfl, by decide⟩
theorem d_X8_sign_71 : zDc M_X8_sign 71 (.iconst 3) 1 72 := ⟨by decide +kernel, rfl⟩
theorem d_X8_sign_72 : zDj M_X8_sign 72 (.goto 4) 4 75 76 := ⟨by decide +kernel, rfl, by decide⟩
theorem d_X8_sign_75 : zDc M_X8_sign 75 (.iconst 5) 1 76 := ⟨by decide +kernel, rfl⟩
theorem d_X8_sign_76 : zDc M_X8_sign 76 (.putfield 170) 3 79 := ⟨by decide +kernel, rfl⟩
theorem d_X8_sign_79 : zDc M_X8_sign 79 (.aload_n 0) 1 80 := ⟨by decide +kernel, rfl⟩
theorem d_X8_sign_80 : zDc M_X8_sign 80 (.iload_n 1) 1 81 := ⟨by decide +kernel, rfl⟩
theorem d_X8_sign_81 : zDc M_X8_sign 81 (.putfield 180) 3 84 := ⟨by decide +kernel, rfl⟩
theorem d_X8_sign_84 : zDc M_X8_sign 84 (.iload_n 1) 1 85 := ⟨by decide +kernel, rfl⟩
theorem d_X8_sign_85 : zDc M_X8_sign 85 (.bipush 60) 2 87 := ⟨by decide +kernel, rfl⟩
theorem d_X8_sign_87 : zDj M_X8_sign 87 (.if_icmp .ne 19) 19 90 106 := ⟨by decide +kernel, rfl, by decide⟩
theorem d_X8_sign_90 : zDc M_X8_sign 90 (.aload_n 0) 1 91 := ⟨by decide +kernel, rfl⟩
theorem d_X8_sign_91 : zDc M_X8_sign 91 (.invokevirtual 163) 3 94 := ⟨by decide +kernel, rfl⟩
theorem d_X8_sign_94 : zDc M_X8_sign 94 (.bipush 61) 2 96 := ⟨by decide +kernel, rfl⟩
theorem d_X8_sign_96 : zDj M_X8_sign 96 (.if_icmp .ne 10) 10 99 106 := ⟨by decide +kernel, rfl, by decide⟩
theorem d_X8_sign_99 : zDc M_X8_sign 99 (.aload_n 0) 1 100 := ⟨by decide +kernel, rfl⟩
theorem d_X8_sign_100 : zDc M_X8_sign 100 (.sipush 256) 3 103 := ⟨by decide +kernel, rfl⟩
theorem d_X8_sign_103 : zDc M_X8_sign 103 (.putfield 180) 3 106 := ⟨by decide +kernel, rfl⟩
theorem d_X8_sign_106 : zDc M_X8_sign 106 (.iload_n 1) 1 107 := ⟨by decide +kernel, rfl⟩
theorem d_X8_sign_107 : zDc M_X8_sign 107 (.bipush 60) 2 109 := ⟨by decide +kernel, rfl⟩
theorem d_X8_sign_109 : zDj M_X8_sign 109 (.if_icmp .ne 19) 19 112 128 := ⟨by decide +kernel, rfl, by decide⟩
theorem d_X8_sign_112 : zDc M_X8_sign 112 (.aload_n 0) 1 113 := ⟨by decide +kernel, rfl⟩
theorem d_X8_sign_113 : zDc M_X8_sign 113 (.invokevirtual 163) 3 116 := ⟨by decide +kernel, rfl⟩
theorem d_X8_sign_116 : zDc M_X8_sign 116 (.bipush 62) 2 118 := ⟨by decide +kernel, rfl⟩
theorem d_X8_sign_118 : zDj M_X8_sign 118 (.if_icmp .ne 10) 10 121 128 := ⟨by decide +kernel, rfl, by decide⟩
theorem d_X8_sign_121 : zDc M_X8_sign 121 (.aload_n 0) 1 122 := ⟨by decide +kernel, rfl⟩
theorem d_X8_sign_122 : zDc M_X8_sign 122 (.sipush 257) 3 125 := ⟨by decide +kernel, rfl⟩
theorem d_X8_sign_125 : zDc M_X8_sign 125 (.putfield 180) 3 128 := ⟨by decide +kernel, rfl⟩
theorem d_X8_sign_128 : zDc M_X8_sign 128 (.iload_n 1) 1 129 := ⟨by decide +kernel, rfl⟩
theorem d_X8_sign_129 : zDc M_X8_sign 129 (.bipush 62) 2 131 := ⟨by decide +kernel, rfl⟩
theorem d_X8_sign_131 : zDj M_X8_sign 131 (.if_icmp .ne 19) 19 134 150 := ⟨by decide +kernel, rfl, by decide⟩
theorem d_X8_sign_134 : zDc M_X8_sign 134 (.aload_n 0) 1 135 := ⟨by decide +kernel, rfl⟩
theorem d_X8_sign_135 : zDc M_X8_sign 135 (.invokevirtual 163) 3 138 := ⟨by decide +kernel, rfl⟩
theorem d_X8_sign_138 : zDc M_X8_sign 138 (.bipush 61) 2 140 := ⟨by decide +kernel, rfl⟩
theorem d_X8_sign_140 : zDj M_X8_sign 140 (.if_icmp .ne 10) 10 143 150 := ⟨by decide +kernel, rfl, by decide⟩
theorem d_X8_sign_143 : zDc M_X8_sign 143 (.aload_n 0) 1 144 := ⟨by decide +kernel, rfl⟩
theorem d_X8_sign_144 : zDc M_X8_sign 144 (.sipush 258) 3 147 := ⟨by decide +kernel, rfl⟩
theorem d_X8_sign_147 : zDc M_X8_sign 147 (.putfield 180) 3 150 := ⟨by decide +kernel, rfl⟩
theorem d_X8_sign_150 : zDc M_X8_sign 150 (.aload_n 0) 1 151 := ⟨by decide +kernel, rfl⟩
theorem d_X8_sign_151 : zDc M_X8_sign 151 (.getfield 180) 3 154 := ⟨by decide +kernel, rfl⟩
theorem d_X8_sign_154 : zDc M_X8_sign 154 (.sipush 256) 3 157 := ⟨by decide +kernel, rfl⟩
theorem d_X8_sign_157 : zDj M_X8_sign 157 (.if_icmp .lt 13) 13 160 170 := ⟨by decide +kernel, rfl, by decide⟩
theorem d_X8_sign_160 : zDc M_X8_sign 160 (.aload_n 0) 1 161 := ⟨by decide +kernel, rfl⟩
theorem d_X8_sign_161 : zDc M_X8_sign 161 (.dup) 1 162 := ⟨by decide +kernel, rfl⟩
theorem d_X8_sign_162 : zDc M_X8_sign 162 (.getfield 157) 3 165 := ⟨by decide +kernel, rfl⟩
theorem d_X8_sign_165 : zDc M_X8_sign 165 (.iconst 1) 1 166 := ⟨by decide +kernel, rfl⟩
theorem d_X8_sign_166 : zDc M_X8_sign 166 (.iadd) 1 167 := ⟨by decide +kernel, rfl⟩
theorem d_X8_sign_167 : zDc M_X8_sign 167 (.putfield 157) 3 170 := ⟨by decide +kernel, rfl⟩
theorem d_X8_sign_170 : zDc M_X8_sign 170 (.return_) 1 171 := ⟨by decide +kernel, rfl⟩
def f_X8_sign (a0 : Nat) (a1 : Int32) (h0 : zHp) : Option (Unit × zHp) :=
  zob (zgI h0 a0 8 23) (fun v1 =>
  zob (zpV h0 a0 8 23 (.int (v1 + 1))) (fun h2 =>
  zbd (α := Int32) (
  if a1 = 59 then
  some (3, h2)
  else
  if a1 = 40 then
  some (3, h2)
  else
  if a1 = 41 then
  some (3, h2)
  else
  if a1 = 43 then
  some (3, h2)
  else
  if a1 = 45 then
  some (3, h2)
  else
  if a1 = 42 then
  some (3, h2)
  else
  if a1 = 47 then
  some (3, h2)
  else
  if a1 = 60 then
  some (3, h2)
  else
  if a1 = 61 then
  some (3, h2)
  else
  if a1 = 62 then
  some (3, h2)
  else
  some (5, h2)) (fun e3 h4 =>
  zob (zpV h4 a0 8 25 (.int e3)) (fun h5 =>
  zob (zpV h5 a0 8 26 (.int a1)) (fun h6 =>
  zbd (α := Unit) (
  if a1 = 60 then
  zbd (zcv 8 a0 h6 (f_X8_here a0 h6)) (fun v8 h7 =>
  if v8 = 61 then
  zob (zpV h7 a0 8 26 (.int 256)) (fun h9 =>
  some ((), h9))
  else
  some ((), h7))
  else
  some ((), h6)) (fun e10 h11 =>
  zbd (α := Unit) (
  if a1 = 60 then
  zbd (zcv 8 a0 h11 (f_X8_here a0 h11)) (fun v13 h12 =>
  if v13 = 62 then
  zob (zpV h12 a0 8 26 (.int 257)) (fun h14 =>
  some ((), h14))
  else
  some ((), h12))
  else
  some ((), h11)) (fun e15 h16 =>
  zbd (α := Unit) (
  if a1 = 62 then
  zbd (zcv 8 a0 h16 (f_X8_here a0 h16)) (fun v18 h17 =>
  if v18 = 61 then
  zob (zpV h17 a0 8 26 (.int 258)) (fun h19 =>
  some ((), h19))
  else
  some ((), h17))
  else
  some ((), h16)) (fun e20 h21 =>
  zob (zgI h21 a0 8 26) (fun v22 =>
  if v22 < 256 then
  some ((), h21)
  else
  zob (zgI h21 a0 8 23) (fun v23 =>
  zob (zpV h21 a0 8 23 (.int (v23 + 1))) (fun h24 =>
  some ((), h24))))))))))))
set_option maxRecDepth 100000 in
set_option maxHeartbeats 4000000 in
theorem t_X8_sign (a0 : Nat) (a1 : Int32) (h0 : zHp) : ∀ (r : Unit) (h' : zHp), f_X8_sign a0 a1 h0 = some (r, h') → zCt yX8_sign (.code yX8_sign cX8_sign 2 none) 2 80 0 0 [.ref a0, .int a1] h0 (none) h' := by
  refine zct_of M_X8_sign yX8_sign (by decide) rfl rfl [.ref a0, .int a1] h0 (Nat.le_of_ble_eq_true rfl) (fun _ => none) (fun X => ?_)
  show zG X M_X8_sign (0, 0) 0 [(0, .ref a0), (1, .int a1)] [] h0 (f_X8_sign a0 a1 h0) (fun (_ : Unit) h' => zKe X (none) h')
  unfold f_X8_sign
  refine zg_aload_n 0 rfl d_X8_sign_0 ?_
  refine zg_dup rfl d_X8_sign_1 ?_
  refine zg_getI d_X8_sign_2 zc_8 (by decide) fl_X8_157 (fun v1 => ?_)
  refine zg_iconst 1 rfl d_X8_sign_5 ?_
  refine zg_iadd d_X8_sign_6 ?_
  refine zg_putV d_X8_sign_7 zc_8 (by decide) fl_X8_157 rfl rfl rfl (fun h2 => ?_)
  refine zg_aload_n 0 rfl d_X8_sign_10 ?_
  refine zg_iload_n 1 rfl d_X8_sign_11 ?_
  refine zg_bipush 59 rfl d_X8_sign_12 ?_
  refine zg_bd (E := 76) (el := (fun (e3 : Int32) => [(0, .ref a0), (1, .int a1)])) (es := (fun (e3 : Int32) => [.int e3, .ref a0])) ?_ (fun e3 h4 => ?_)
  · refine zg_icmp_eq d_X8_sign_14 ?_ ?_
    · refine zg_iconst 3 rfl d_X8_sign_71 ?_
      refine zg_goto d_X8_sign_72 ?_
      exact zg_finK (E := 0) [0, 1] rfl rfl (fun q => q)
    · refine zg_iload_n 1 rfl d_X8_sign_17 ?_
      refine zg_bipush 40 rfl d_X8_sign_18 ?_
      refine zg_icmp_eq d_X8_sign_20 ?_ ?_
      · refine zg_iconst 3 rfl d_X8_sign_71 ?_
        refine zg_goto d_X8_sign_72 ?_
        exact zg_finK (E := 0) [0, 1] rfl rfl (fun q => q)
      · refine zg_iload_n 1 rfl d_X8_sign_23 ?_
        refine zg_bipush 41 rfl d_X8_sign_24 ?_
        refine zg_icmp_eq d_X8_sign_26 ?_ ?_
        · refine zg_iconst 3 rfl d_X8_sign_71 ?_
          refine zg_goto d_X8_sign_72 ?_
          exact zg_finK (E := 0) [0, 1] rfl rfl (fun q => q)
        · refine zg_iload_n 1 rfl d_X8_sign_29 ?_
          refine zg_bipush 43 rfl d_X8_sign_30 ?_
          refine zg_icmp_eq d_X8_sign_32 ?_ ?_
          · refine zg_iconst 3 rfl d_X8_sign_71 ?_
            refine zg_goto d_X8_sign_72 ?_
            exact zg_finK (E := 0) [0, 1] rfl rfl (fun q => q)
          · refine zg_iload_n 1 rfl d_X8_sign_35 ?_
            refine zg_bipush 45 rfl d_X8_sign_36 ?_
            refine zg_icmp_eq d_X8_sign_38 ?_ ?_
            · refine zg_iconst 3 rfl d_X8_sign_71 ?_
              refine zg_goto d_X8_sign_72 ?_
              exact zg_finK (E := 0) [0, 1] rfl rfl (fun q => q)
            · refine zg_iload_n 1 rfl d_X8_sign_41 ?_
              refine zg_bipush 42 rfl d_X8_sign_42 ?_
              refine zg_icmp_eq d_X8_sign_44 ?_ ?_
              · refine zg_iconst 3 rfl d_X8_sign_71 ?_
                refine zg_goto d_X8_sign_72 ?_
                exact zg_finK (E := 0) [0, 1] rfl rfl (fun q => q)
              · refine zg_iload_n 1 rfl d_X8_sign_47 ?_
                refine zg_bipush 47 rfl d_X8_sign_48 ?_
                refine zg_icmp_eq d_X8_sign_50 ?_ ?_
                · refine zg_iconst 3 rfl d_X8_sign_71 ?_
                  refine zg_goto d_X8_sign_72 ?_
                  exact zg_finK (E := 0) [0, 1] rfl rfl (fun q => q)
                · refine zg_iload_n 1 rfl d_X8_sign_53 ?_
                  refine zg_bipush 60 rfl d_X8_sign_54 ?_
                  refine zg_icmp_eq d_X8_sign_56 ?_ ?_
                  · refine zg_iconst 3 rfl d_X8_sign_71 ?_
                    refine zg_goto d_X8_sign_72 ?_
                    exact zg_finK (E := 0) [0, 1] rfl rfl (fun q => q)
                  · refine zg_iload_n 1 rfl d_X8_sign_59 ?_
                    refine zg_bipush 61 rfl d_X8_sign_60 ?_
                    refine zg_icmp_eq d_X8_sign_62 ?_ ?_
                    · refine zg_iconst 3 rfl d_X8_sign_71 ?_
                      refine zg_goto d_X8_sign_72 ?_
                      exact zg_finK (E := 0) [0, 1] rfl rfl (fun q => q)
                    · refine zg_iload_n 1 rfl d_X8_sign_65 ?_
                      refine zg_bipush 62 rfl d_X8_sign_66 ?_
                      refine zg_icmp_ne d_X8_sign_68 ?_ ?_
                      · refine zg_iconst 3 rfl d_X8_sign_71 ?_
                        refine zg_goto d_X8_sign_72 ?_
                        exact zg_finK (E := 0) [0, 1] rfl rfl (fun q => q)
                      · refine zg_iconst 5 rfl d_X8_sign_75 ?_
                        exact zg_finK (E := 0) [0, 1] rfl rfl (fun q => q)
  · refine zg_putV d_X8_sign_76 zc_8 (by decide) fl_X8_170 rfl rfl rfl (fun h5 => ?_)
    refine zg_aload_n 0 rfl d_X8_sign_79 ?_
    refine zg_iload_n 1 rfl d_X8_sign_80 ?_
    refine zg_putV d_X8_sign_81 zc_8 (by decide) fl_X8_180 rfl rfl rfl (fun h6 => ?_)
    refine zg_iload_n 1 rfl d_X8_sign_84 ?_
    refine zg_bipush 60 rfl d_X8_sign_85 ?_
    refine zg_bd (E := 106) (el := (fun (e10 : Unit) => [(0, .ref a0), (1, .int a1)])) (es := (fun (e10 : Unit) => [])) ?_ (fun e10 h11 => ?_)
    · refine zg_icmp_ne d_X8_sign_87 ?_ ?_
      · refine zg_aload_n 0 rfl d_X8_sign_90 ?_
        refine zg_cVi (b := a0) (As := []) (rest := []) (0, 0) d_X8_sign_91 zc_8 rfl cw_X8_163 wi_X8_here ws_X8_here rfl rfl (Nat.le_of_ble_eq_true rfl) (by decide) (by decide) ⟨by decide, by decide⟩ rfl (t_X8_here a0 h6) (fun v8 h7 => ?_)
        refine zg_bipush 61 rfl d_X8_sign_94 ?_
        refine zg_icmp_ne d_X8_sign_96 ?_ ?_
        · refine zg_aload_n 0 rfl d_X8_sign_99 ?_
          refine zg_sipush 256 rfl d_X8_sign_100 ?_
          refine zg_putV d_X8_sign_103 zc_8 (by decide) fl_X8_180 rfl rfl rfl (fun h9 => ?_)
          exact zg_finK (E := 0) [0, 1] rfl rfl (fun q => q)
        · exact zg_finK (E := 0) [0, 1] rfl rfl (fun q => q)
      · exact zg_finK (E := 0) [0, 1] rfl rfl (fun q => q)
    · refine zg_iload_n 1 rfl d_X8_sign_106 ?_
      refine zg_bipush 60 rfl d_X8_sign_107 ?_
      refine zg_bd (E := 128) (el := (fun (e15 : Unit) => [(0, .ref a0), (1, .int a1)])) (es := (fun (e15 : Unit) => [])) ?_ (fun e15 h16 => ?_)
      · refine zg_icmp_ne d_X8_sign_109 ?_ ?_
        · refine zg_aload_n 0 rfl d_X8_sign_112 ?_
          refine zg_cVi (b := a0) (As := []) (rest := []) (0, 0) d_X8_sign_113 zc_8 rfl cw_X8_163 wi_X8_here ws_X8_here rfl rfl (Nat.le_of_ble_eq_true rfl) (by decide) (by decide) ⟨by decide, by decide⟩ rfl (t_X8_here a0 h11) (fun v13 h12 => ?_)
          refine zg_bipush 62 rfl d_X8_sign_116 ?_
          refine zg_icmp_ne d_X8_sign_118 ?_ ?_
          · refine zg_aload_n 0 rfl d_X8_sign_121 ?_
            refine zg_sipush 257 rfl d_X8_sign_122 ?_
            refine zg_putV d_X8_sign_125 zc_8 (by decide) fl_X8_180 rfl rfl rfl (fun h14 => ?_)
            exact zg_finK (E := 0) [0, 1] rfl rfl (fun q => q)
          · exact zg_finK (E := 0) [0, 1] rfl rfl (fun q => q)
        · exact zg_finK (E := 0) [0, 1] rfl rfl (fun q => q)
      · refine zg_iload_n 1 rfl d_X8_sign_128 ?_
        refine zg_bipush 62 rfl d_X8_sign_129 ?_
        refine zg_bd (E := 150) (el := (fun (e20 : Unit) => [(0, .ref a0), (1, .int a1)])) (es := (fun (e20 : Unit) => [])) ?_ (fun e20 h21 => ?_)
        · refine zg_icmp_ne d_X8_sign_131 ?_ ?_
          · refine zg_aload_n 0 rfl d_X8_sign_134 ?_
            refine zg_cVi (b := a0) (As := []) (rest := []) (0, 0) d_X8_sign_135 zc_8 rfl cw_X8_163 wi_X8_here ws_X8_here rfl rfl (Nat.le_of_ble_eq_true rfl) (by decide) (by decide) ⟨by decide, by decide⟩ rfl (t_X8_here a0 h16) (fun v18 h17 => ?_)
            refine zg_bipush 61 rfl d_X8_sign_138 ?_
            refine zg_icmp_ne d_X8_sign_140 ?_ ?_
            · refine zg_aload_n 0 rfl d_X8_sign_143 ?_
              refine zg_sipush 258 rfl d_X8_sign_144 ?_
              refine zg_putV d_X8_sign_147 zc_8 (by decide) fl_X8_180 rfl rfl rfl (fun h19 => ?_)
              exact zg_finK (E := 0) [0, 1] rfl rfl (fun q => q)
            · exact zg_finK (E := 0) [0, 1] rfl rfl (fun q => q)
          · exact zg_finK (E := 0) [0, 1] rfl rfl (fun q => q)
        · refine zg_aload_n 0 rfl d_X8_sign_150 ?_
          refine zg_getI d_X8_sign_151 zc_8 (by decide) fl_X8_180 (fun v22 => ?_)
          refine zg_sipush 256 rfl d_X8_sign_154 ?_
          refine zg_icmp_lt d_X8_sign_157 ?_ ?_
          · exact zg_vretK d_X8_sign_170 rfl ⟨Nat.le_of_ble_eq_true rfl, Nat.le_of_ble_eq_true rfl⟩ (fun q => q)
          · refine zg_aload_n 0 rfl d_X8_sign_160 ?_
            refine zg_dup rfl d_X8_sign_161 ?_
            refine zg_getI d_X8_sign_162 zc_8 (by decide) fl_X8_157 (fun v23 => ?_)
            refine zg_iconst 1 rfl d_X8_sign_165 ?_
            refine zg_iadd d_X8_sign_166 ?_
            refine zg_putV d_X8_sign_167 zc_8 (by decide) fl_X8_157 rfl rfl rfl (fun h24 => ?_)
            exact zg_vretK d_X8_sign_170 rfl ⟨Nat.le_of_ble_eq_true rfl, Nat.le_of_ble_eq_true rfl⟩ (fun q => q)
abbrev M_X8_wrong : zMt := (RX8, cX8_wrong, 2, 1, 60, none, "wrong", 0, 0)
theorem d_X8_wrong_0 : zDc M_X8_wrong 0 (.aload_n 0) 1 1 := ⟨by decide +kernel, rfl⟩
theorem d_X8_wrong_1 : zDc M_X8_wrong 1 (.getfield 205) 3 4 := ⟨by decide +kernel, rfl⟩
theorem d_X8_wrong_4 : zDj M_X8_wrong 4 (.ifCond .eq 4) 4 7 8 := ⟨by decide +kernel, rfl, by decide⟩
theorem d_X8_wrong_7 : zDc M_X8_wrong 7 (.return_) 1 8 := ⟨by decide +kernel, rfl⟩
theorem d_X8_wrong_8 : zDc M_X8_wrong 8 (.aload_n 0) 1 9 := ⟨by decide +kernel, rfl⟩
theorem d_X8_wrong_9 : zDc M_X8_wrong 9 (.iload_n 1) 1 10 := ⟨by decide +kernel, rfl⟩
theorem d_X8_wrong_10 : zDc M_X8_wrong 10 (.putfield 205) 3 13 := ⟨by decide +kernel, rfl⟩
theorem d_X8_wrong_13 : zDc M_X8_wrong 13 (.aload_n 0) 1 14 := ⟨by decide +kernel, rfl⟩
theorem d_X8_wrong_14 : zDc M_X8_wrong 14 (.aload_n 0) 1 15 := ⟨by decide +kernel, rfl⟩
theorem d_X8_wrong_15 : zDc M_X8_wrong 15 (.getfield 167) 3 18 := ⟨by decide +kernel, rfl⟩
theorem d_X8_wrong_18 : zDc M_X8_wrong 18 (.putfield 208) 3 21 := ⟨by decide +kernel, rfl⟩
theorem d_X8_wrong_21 : zDc M_X8_wrong 21 (.return_) 1 22 := ⟨by decide +kernel, rfl⟩
def f_X8_wrong (a0 : Nat) (a1 : Int32) (h0 : zHp) : Option (Unit × zHp) :=
  zob (zgI h0 a0 8 27) (fun v1 =>
  if v1 = 0 then
  zob (zpV h0 a0 8 27 (.int a1)) (fun h2 =>
  zob (zgI h2 a0 8 24) (fun v3 =>
  zob (zpV h2 a0 8 28 (.int v3)) (fun h4 =>
  some ((), h4))))
  else
  some ((), h0))
set_option maxRecDepth 100000 in
set_option maxHeartbeats 4000000 in
theorem t_X8_wrong (a0 : Nat) (a1 : Int32) (h0 : zHp) : ∀ (r : Unit) (h' : zHp), f_X8_wrong a0 a1 h0 = some (r, h') → zCt yX8_wrong (.code yX8_wrong cX8_wrong 2 none) 1 60 0 0 [.ref a0, .int a1] h0 (none) h' := by
  refine zct_of M_X8_wrong yX8_wrong (by decide) rfl rfl [.ref a0, .int a1] h0 (Nat.le_of_ble_eq_true rfl) (fun _ => none) (fun X => ?_)
  show zG X M_X8_wrong (0, 0) 0 [(0, .ref a0), (1, .int a1)] [] h0 (f_X8_wrong a0 a1 h0) (fun (_ : Unit) h' => zKe X (none) h')
  unfold f_X8_wrong
  refine zg_aload_n 0 rfl d_X8_wrong_0 ?_
  refine zg_getI d_X8_wrong_1 zc_8 (by decide) fl_X8_205 (fun v1 => ?_)
  refine zg_if_eq d_X8_wrong_4 ?_ ?_
  · refine zg_aload_n 0 rfl d_X8_wrong_8 ?_
    refine zg_iload_n 1 rfl d_X8_wrong_9 ?_
    refine zg_putV d_X8_wrong_10 zc_8 (by decide) fl_X8_205 rfl rfl rfl (fun h2 => ?_)
    refine zg_aload_n 0 rfl d_X8_wrong_13 ?_
    refine zg_aload_n 0 rfl d_X8_wrong_14 ?_
    refine zg_getI d_X8_wrong_15 zc_8 (by decide) fl_X8_167 (fun v3 => ?_)
    refine zg_putV d_X8_wrong_18 zc_8 (by decide) fl_X8_208 rfl rfl rfl (fun h4 => ?_)
    exact zg_vretK d_X8_wrong_21 rfl ⟨Nat.le_of_ble_eq_true rfl, Nat.le_of_ble_eq_true rfl⟩ (fun q => q)
  · exact zg_vretK d_X8_wrong_7 rfl ⟨Nat.le_of_ble_eq_true rfl, Nat.le_of_ble_eq_true rfl⟩ (fun q => q)
abbrev M_X8_isField : zMt := (RX8, cX8_isField, 2, 1, 60, (some .boolean), "isField", 0, 0)
theorem d_X8_isField_0 : zDc M_X8_isField 0 (.iload_n 1) 1 1 := ⟨by decide +kernel, rfl⟩
theorem d_X8_isField_1 : zDj M_X8_isField 1 (.ifCond .lt 17) 17 4 18 := ⟨by decide +kernel, rfl, by decide⟩
theorem d_X8_isField_4 : zDc M_X8_isField 4 (.iload_n 1) 1 5 := ⟨by decide +kernel, rfl⟩
theorem d_X8_isField_5 : zDc M_X8_isField 5 (.aload_n 0) 1 6 := ⟨by decide +kernel, rfl⟩
theorem d_X8_isField_6 : zDc M_X8_isField 6 (.getfield 13) 3 9 := ⟨by decide +kernel, rfl⟩
theorem d_X8_isField_9 : zDc M_X8_isField 9 (.iconst 0) 1 10 := ⟨by decide +kernel, rfl⟩
theorem d_X8_isField_10 : zDc M_X8_isField 10 (.iaload) 1 11 := ⟨by decide +kernel, rfl⟩
theorem d_X8_isField_11 : zDj M_X8_isField 11 (.if_icmp .ge 7) 7 14 18 := ⟨by decide +kernel, rfl, by decide⟩
theorem d_X8_isField_14 : zDc M_X8_isField 14 (.iconst 1) 1 15 := ⟨by decide +kernel, rfl⟩
theorem d_X8_isField_15 : zDj M_X8_isField 15 (.goto 4) 4 18 19 := ⟨by decide +kernel, rfl, by decide⟩
theorem d_X8_isField_18 : zDc M_X8_isField 18 (.iconst 0) 1 19 := ⟨by decide +kernel, rfl⟩
theorem d_X8_isField_19 : zDc M_X8_isField 19 (.ireturn) 1 20 := ⟨by decide +kernel, rfl⟩
def f_X8_isField (a0 : Nat) (a1 : Int32) (h0 : zHp) : Option (Int32 × zHp) :=
  if a1 < 0 then
  some (0, h0)
  else
  zob (zgR h0 a0 8 3) (fun v1 =>
  zob (zaI 0 h0 v1 0) (fun v2 =>
  if v2 ≤ a1 then
  some (0, h0)
  else
  some (1, h0)))
set_option maxRecDepth 100000 in
set_option maxHeartbeats 4000000 in
theorem t_X8_isField (a0 : Nat) (a1 : Int32) (h0 : zHp) : ∀ (r : Int32) (h' : zHp), f_X8_isField a0 a1 h0 = some (r, h') → zCt yX8_isField (.code yX8_isField cX8_isField 2 (some .boolean)) 1 60 0 0 [.ref a0, .int a1] h0 (some (.int r)) h' := by
  refine zct_of M_X8_isField yX8_isField (by decide) rfl rfl [.ref a0, .int a1] h0 (Nat.le_of_ble_eq_true rfl) (fun r => some (.int r)) (fun X => ?_)
  show zG X M_X8_isField (0, 0) 0 [(0, .ref a0), (1, .int a1)] [] h0 (f_X8_isField a0 a1 h0) (fun (r : Int32) h' => zKe X (some (.int r)) h')
  unfold f_X8_isField
  refine zg_iload_n 1 rfl d_X8_isField_0 ?_
  refine zg_if_lt d_X8_isField_1 ?_ ?_
  · refine zg_iconst 0 rfl d_X8_isField_18 ?_
    exact zg_zretK d_X8_isField_19 rfl ⟨Nat.le_of_ble_eq_true rfl, Nat.le_of_ble_eq_true rfl⟩ (Or.inl rfl) (fun q => q)
  · refine zg_iload_n 1 rfl d_X8_isField_4 ?_
    refine zg_aload_n 0 rfl d_X8_isField_5 ?_
    refine zg_getR d_X8_isField_6 zc_8 (by decide) fl_X8_13 (fun v1 => ?_)
    refine zg_iconst 0 rfl d_X8_isField_9 ?_
    refine zg_ald0 d_X8_isField_10 (fun v2 => ?_)
    refine zg_icmp_ge d_X8_isField_11 ?_ ?_
    · refine zg_iconst 0 rfl d_X8_isField_18 ?_
      exact zg_zretK d_X8_isField_19 rfl ⟨Nat.le_of_ble_eq_true rfl, Nat.le_of_ble_eq_true rfl⟩ (Or.inl rfl) (fun q => q)
    · refine zg_iconst 1 rfl d_X8_isField_14 ?_
      refine zg_goto d_X8_isField_15 ?_
      exact zg_zretK d_X8_isField_19 rfl ⟨Nat.le_of_ble_eq_true rfl, Nat.le_of_ble_eq_true rfl⟩ (Or.inr rfl) (fun q => q)
abbrev M_X8_rainBy : zMt := (RX8, cX8_rainBy, 5, 1, 60, (some .int), "rainBy", 0, 0)
theorem d_X8_rainBy_0 : zDc M_X8_rainBy 0 (.iconst 0) 1 1 := ⟨by decide +kernel, rfl⟩
theorem d_X8_rainBy_1 : zDc M_X8_rainBy 1 (.istore_n 3) 1 2 := ⟨by decide +kernel, rfl⟩
theorem d_X8_rainBy_2 : zDc M_X8_rainBy 2 (.iconst 0) 1 3 := ⟨by decide +kernel, rfl⟩
theorem d_X8_rainBy_3 : zDc M_X8_rainBy 3 (.istore 4) 2 5 := ⟨by decide +kernel, rfl⟩
theorem d_X8_rainBy_5 : zDc M_X8_rainBy 5 (.iload 4) 2 7 := ⟨by decide +kernel, rfl⟩
theorem d_X8_rainBy_7 : zDc M_X8_rainBy 7 (.aload_n 0) 1 8 := ⟨by decide +kernel, rfl⟩
theorem d_X8_rainBy_8 : zDc M_X8_rainBy 8 (.getfield 13) 3 11 := ⟨by decide +kernel, rfl⟩
theorem d_X8_rainBy_11 : zDc M_X8_rainBy 11 (.iconst 0) 1 12 := ⟨by decide +kernel, rfl⟩
theorem d_X8_rainBy_12 : zDc M_X8_rainBy 12 (.iaload) 1 13 := ⟨by decide +kernel, rfl⟩
theorem d_X8_rainBy_13 : zDj M_X8_rainBy 13 (.if_icmp .ge 29) 29 16 42 := ⟨by decide +kernel, rfl, by decide⟩
theorem d_X8_rainBy_16 : zDc M_X8_rainBy 16 (.iload_n 3) 1 17 := ⟨by decide +kernel, rfl⟩
theorem d_X8_rainBy_17 : zDc M_X8_rainBy 17 (.aload_n 0) 1 18 := ⟨by decide +kernel, rfl⟩
theorem d_X8_rainBy_18 : zDc M_X8_rainBy 18 (.getfield 105) 3 21 := ⟨by decide +kernel, rfl⟩
theorem d_X8_rainBy_21 : zDc M_X8_rainBy 21 (.bipush 35) 2 23 := ⟨by decide +kernel, rfl⟩
theorem d_X8_rainBy_23 : zDc M_X8_rainBy 23 (.iload_n 1) 1 24 := ⟨by decide +kernel, rfl⟩
theorem d_X8_rainBy_24 : zDc M_X8_rainBy 24 (.imul) 1 25 := ⟨by decide +kernel, rfl⟩
theorem d_X8_rainBy_25 : zDc M_X8_rainBy 25 (.bipush 7) 2 27 := ⟨by decide +kernel, rfl⟩
theorem d_X8_rainBy_27 : zDc M_X8_rainBy 27 (.iload 4) 2 29 := ⟨by decide +kernel, rfl⟩
theorem d_X8_rainBy_29 : zDc M_X8_rainBy 29 (.imul) 1 30 := ⟨by decide +kernel, rfl⟩
theorem d_X8_rainBy_30 : zDc M_X8_rainBy 30 (.iadd) 1 31 := ⟨by decide +kernel, rfl⟩
theorem d_X8_rainBy_31 : zDc M_X8_rainBy 31 (.iload_n 2) 1 32 := ⟨by decide +kernel, rfl⟩
theorem d_X8_rainBy_32 : zDc M_X8_rainBy 32 (.iadd) 1 33 := ⟨by decide +kernel, rfl⟩
theorem d_X8_rainBy_33 : zDc M_X8_rainBy 33 (.iaload) 1 34 := ⟨by decide +kernel, rfl⟩
theorem d_X8_rainBy_34 : zDc M_X8_rainBy 34 (.iadd) 1 35 := ⟨by decide +kernel, rfl⟩
theorem d_X8_rainBy_35 : zDc M_X8_rainBy 35 (.istore_n 3) 1 36 := ⟨by decide +kernel, rfl⟩
theorem d_X8_rainBy_36 : zDc M_X8_rainBy 36 (.iinc 4 1) 3 39 := ⟨by decide +kernel, rfl⟩
theorem d_X8_rainBy_39 : zDj M_X8_rainBy 39 (.goto (-34)) (-34) 42 5 := ⟨by decide +kernel, rfl, by decide⟩
theorem d_X8_rainBy_42 : zDc M_X8_rainBy 42 (.iload_n 3) 1 43 := ⟨by decide +kernel, rfl⟩
theorem d_X8_rainBy_43 : zDc M_X8_rainBy 43 (.ireturn) 1 44 := ⟨by decide +kernel, rfl⟩
def f_X8_rainBy (a0 : Nat) (a1 : Int32) (a2 : Int32) (h0 : zHp) : Option (Int32 × zHp) :=
  zbd (
  zlp (σ := (Int32 × Int32)) (β := (Int32 × Int32)) zLF (fun s1 h2 =>
  zob (zgR h2 a0 8 3) (fun v5 =>
  zob (zaI 0 h2 v5 0) (fun v6 =>
  if v6 ≤ s1.2 then
  some ((.inr (s1.1, s1.2)), h2)
  else
  zob (zgR h2 a0 8 46) (fun v7 =>
  zob (zaI 0 h2 v7 (((35 * a1) + (7 * s1.2)) + a2)) (fun v8 =>
  some ((.inl ((s1.1 + v8), (s1.2 + 1))), h2)))))) (0, 0) h0) (fun e3 h4 =>
  some (e3.1, h4))
set_option maxRecDepth 100000 in
set_option maxHeartbeats 4000000 in
theorem t_X8_rainBy (a0 : Nat) (a1 : Int32) (a2 : Int32) (h0 : zHp) : ∀ (r : Int32) (h' : zHp), f_X8_rainBy a0 a1 a2 h0 = some (r, h') → zCt yX8_rainBy (.code yX8_rainBy cX8_rainBy 5 (some .int)) 1 60 0 0 [.ref a0, .int a1, .int a2] h0 (some (.int r)) h' := by
  refine zct_of M_X8_rainBy yX8_rainBy (by decide) rfl rfl [.ref a0, .int a1, .int a2] h0 (Nat.le_of_ble_eq_true rfl) (fun r => some (.int r)) (fun X => ?_)
  show zG X M_X8_rainBy (0, 0) 0 [(0, .ref a0), (1, .int a1), (2, .int a2)] [] h0 (f_X8_rainBy a0 a1 a2 h0) (fun (r : Int32) h' => zKe X (some (.int r)) h')
  unfold f_X8_rainBy
  refine zg_iconst 0 rfl d_X8_rainBy_0 ?_
  refine zg_istore_n [(3, .int 0), (0, .ref a0), (1, .int a1), (2, .int a2)] d_X8_rainBy_1 rfl (by decide) rfl ?_
  refine zg_iconst 0 rfl d_X8_rainBy_2 ?_
  refine zg_istore [(4, .int 0), (3, .int 0), (0, .ref a0), (1, .int a1), (2, .int a2)] d_X8_rainBy_3 (by decide) rfl ?_
  refine zg_bd (E := 42) (el := (fun (e3 : (Int32 × Int32)) => [(0, .ref a0), (1, .int a1), (2, .int a2), (3, .int e3.1), (4, .int e3.2)])) (es := fun _ => []) (zg_sub [2, 3, 4, 1, 0] rfl (zg_lp (el := (fun (s1 : (Int32 × Int32)) => [(0, .ref a0), (1, .int a1), (2, .int a2), (3, .int s1.1), (4, .int s1.2)])) (fun s1 h2 => ?_) (0, 0) h0)) (fun e3 h4 => ?_)
  · refine zg_iload 4 rfl d_X8_rainBy_5 ?_
    refine zg_aload_n 0 rfl d_X8_rainBy_7 ?_
    refine zg_getR d_X8_rainBy_8 zc_8 (by decide) fl_X8_13 (fun v5 => ?_)
    refine zg_iconst 0 rfl d_X8_rainBy_11 ?_
    refine zg_ald0 d_X8_rainBy_12 (fun v6 => ?_)
    refine zg_icmp_ge d_X8_rainBy_13 ?_ ?_
    · exact zg_finK (E := 0) [0, 1, 2, 3, 4] rfl rfl (fun q => q)
    · refine zg_iload_n 3 rfl d_X8_rainBy_16 ?_
      refine zg_aload_n 0 rfl d_X8_rainBy_17 ?_
      refine zg_getR d_X8_rainBy_18 zc_8 (by decide) fl_X8_105 (fun v7 => ?_)
      refine zg_bipush 35 rfl d_X8_rainBy_21 ?_
      refine zg_iload_n 1 rfl d_X8_rainBy_23 ?_
      refine zg_imul d_X8_rainBy_24 ?_
      refine zg_bipush 7 rfl d_X8_rainBy_25 ?_
      refine zg_iload 4 rfl d_X8_rainBy_27 ?_
      refine zg_imul d_X8_rainBy_29 ?_
      refine zg_iadd d_X8_rainBy_30 ?_
      refine zg_iload_n 2 rfl d_X8_rainBy_31 ?_
      refine zg_iadd d_X8_rainBy_32 ?_
      refine zg_ald0 d_X8_rainBy_33 (fun v8 => ?_)
      refine zg_iadd d_X8_rainBy_34 ?_
      refine zg_istore_n [(3, .int (s1.1 + v8)), (0, .ref a0), (1, .int a1), (2, .int a2), (4, .int s1.2)] d_X8_rainBy_35 rfl (by decide) rfl ?_
      refine zg_iinc 4 (s1.2 + 1) [(4, .int (s1.2 + 1)), (3, .int (s1.1 + v8)), (0, .ref a0), (1, .int a1), (2, .int a2)] d_X8_rainBy_36 rfl rfl (by decide) rfl ?_
      refine zg_goto d_X8_rainBy_39 ?_
      exact zg_finK (E := 0) [2, 3, 4, 1, 0] rfl rfl (fun q => q)
  · refine zg_iload_n 3 rfl d_X8_rainBy_42 ?_
    exact zg_iretK d_X8_rainBy_43 rfl ⟨Nat.le_of_ble_eq_true rfl, Nat.le_of_ble_eq_true rfl⟩ (fun q => q)
abbrev M_X8_child : zMt := (RX8, cX8_child, 3, 3, 106, (some .int), "child", 0, 0)
theorem d_X8_child_0 : zDc M_X8_child 0 (.aload_n 0) 1 1 := ⟨by decide +kernel, rfl⟩
theorem d_X8_child_1 : zDc M_X8_child 1 (.iconst 0) 1 2 := ⟨by decide +kernel, rfl⟩
theorem d_X8_child_2 : zDc M_X8_child 2 (.putfield 151) 3 5 := ⟨by decide +kernel, rfl⟩
theorem d_X8_child_5 : zDc M_X8_child 5 (.aload_n 0) 1 6 := ⟨by decide +kernel, rfl⟩
theorem d_X8_child_6 : zDc M_X8_child 6 (.iload_n 1) 1 7 := ⟨by decide +kernel, rfl⟩
theorem d_X8_child_7 : zDc M_X8_child 7 (.invokevirtual 425) 3 10 := ⟨by decide +kernel, rfl⟩
theorem d_X8_child_10 : zDj M_X8_child 10 (.ifCond .ne 5) 5 13 15 := ⟨by decide +kernel, rfl, by decide⟩
theorem d_X8_child_13 : zDc M_X8_child 13 (.iconst (-1)) 1 14 := ⟨by decide +kernel, rfl⟩
theorem d_X8_child_14 : zDc M_X8_child 14 (.ireturn) 1 15 := ⟨by decide +kernel, rfl⟩
theorem d_X8_child_15 : zDc M_X8_child 15 (.iload_n 2) 1 16 := ⟨by decide +kernel, rfl⟩
theorem d_X8_child_16 : decode M_X8_child.2.1 16 = .ok (.tableswitch 88 0 5 #[40, 50, 60, 67, 74, 81], 40) := by decide +kernel
theorem d_X8_child_56 : zDc M_X8_child 56 (.aload_n 0) 1 57 := ⟨by decide +kernel, rfl⟩
theorem d_X8_child_57 : zDc M_X8_child 57 (.getfield 96) 3 60 := ⟨by decide +kernel, rfl⟩
theorem d_X8_child_60 : zDc M_X8_child 60 (.iload_n 1) 1 61 := ⟨by decide +kernel, rfl⟩
theorem d_X8_child_61 : zDc M_X8_child 61 (.iaload) 1 62 := ⟨by decide +kernel, rfl⟩
theorem d_X8_child_62 : zDc M_X8_child 62 (.bipush 6) 2 64 := ⟨by decide +kernel, rfl⟩
theorem d_X8_child_64 : zDc M_X8_child 64 (.irem) 1 65 := ⟨by decide +kernel, rfl⟩
theorem d_X8_child_65 : zDc M_X8_child 65 (.ireturn) 1 66 := ⟨by decide +kernel, rfl⟩
theorem d_X8_child_66 : zDc M_X8_child 66 (.aload_n 0) 1 67 := ⟨by decide +kernel, rfl⟩
theorem d_X8_child_67 : zDc M_X8_child 67 (.getfield 96) 3 70 := ⟨by decide +kernel, rfl⟩
theorem d_X8_child_70 : zDc M_X8_child 70 (.iload_n 1) 1 71 := ⟨by decide +kernel, rfl⟩
theorem d_X8_child_71 : zDc M_X8_child 71 (.iaload) 1 72 := ⟨by decide +kernel, rfl⟩
theorem d_X8_child_72 : zDc M_X8_child 72 (.bipush 6) 2 74 := ⟨by decide +kernel, rfl⟩
theorem d_X8_child_74 : zDc M_X8_child 74 (.idiv) 1 75 := ⟨by decide +kernel, rfl⟩
theorem d_X8_child_75 : zDc M_X8_child 75 (.ireturn) 1 76 := ⟨by decide +kernel, rfl⟩
theorem d_X8_child_76 : zDc M_X8_child 76 (.aload_n 0) 1 77 := ⟨by decide +kernel, rfl⟩
theorem d_X8_child_77 : zDc M_X8_child 77 (.getfield 46) 3 80 := ⟨by decide +kernel, rfl⟩
theorem d_X8_child_80 : zDc M_X8_child 80 (.iload_n 1) 1 81 := ⟨by decide +kernel, rfl⟩
theorem d_X8_child_81 : zDc M_X8_child 81 (.iaload) 1 82 := ⟨by decide +kernel, rfl⟩
theorem d_X8_child_82 : zDc M_X8_child 82 (.ireturn) 1 83 := ⟨by decide +kernel, rfl⟩
theorem d_X8_child_83 : zDc M_X8_child 83 (.aload_n 0) 1 84 := ⟨by decide +kernel, rfl⟩
theorem d_X8_child_84 : zDc M_X8_child 84 (.getfield 99) 3 87 := ⟨by decide +kernel, rfl⟩
theorem d_X8_child_87 : zDc M_X8_child 87 (.iload_n 1) 1 88 := ⟨by decide +kernel, rfl⟩
theorem d_X8_child_88 : zDc M_X8_child 88 (.iaload) 1 89 := ⟨by decide +kernel, rfl⟩
theorem d_X8_child_89 : zDc M_X8_child 89 (.ireturn) 1 90 := ⟨by decide +kernel, rfl⟩
theorem d_X8_child_90 : zDc M_X8_child 90 (.aload_n 0) 1 91 := ⟨by decide +kernel, rfl⟩
theorem d_X8_child_91 : zDc M_X8_child 91 (.iconst 0) 1 92 := ⟨by decide +kernel, rfl⟩
theorem d_X8_child_92 : zDc M_X8_child 92 (.iload_n 1) 1 93 := ⟨by decide +kernel, rfl⟩
theorem d_X8_child_93 : zDc M_X8_child 93 (.invokevirtual 394) 3 96 := ⟨by decide +kernel, rfl⟩
theorem d_X8_child_96 : zDc M_X8_child 96 (.ireturn) 1 97 := ⟨by decide +kernel, rfl⟩
theorem d_X8_child_97 : zDc M_X8_child 97 (.aload_n 0) 1 98 := ⟨by decide +kernel, rfl⟩
theorem d_X8_child_98 : zDc M_X8_child 98 (.iconst 0) 1 99 := ⟨by decide +kernel, rfl⟩
theorem d_X8_child_99 : zDc M_X8_child 99 (.iload_n 1) 1 100 := ⟨by decide +kernel, rfl⟩
theorem d_X8_child_100 : zDc M_X8_child 100 (.invokevirtual 428) 3 103 := ⟨by decide +kernel, rfl⟩
theorem d_X8_child_103 : zDc M_X8_child 103 (.ireturn) 1 104 := ⟨by decide +kernel, rfl⟩
theorem d_X8_child_104 : zDc M_X8_child 104 (.iconst (-1)) 1 105 := ⟨by decide +kernel, rfl⟩
theorem d_X8_child_105 : zDc M_X8_child 105 (.ireturn) 1 106 := ⟨by decide +kernel, rfl⟩
def f_X8_child (a0 : Nat) (a1 : Int32) (a2 : Int32) (h0 : zHp) : Option (Int32 × zHp) :=
  zob (zpV h0 a0 8 0 (.int 0)) (fun h1 =>
  zbd (zcv 8 a0 h1 (f_X8_isChild a0 a1 h1)) (fun v3 h2 =>
  if v3 = 0 then
  some ((-1), h2)
  else
  if a2 = 0 then
  zob (zgR h2 a0 8 43) (fun v4 =>
  zob (zaI 0 h2 v4 a1) (fun v5 =>
  some ((zrm v5 6), h2)))
  else if a2 = 1 then
  zob (zgR h2 a0 8 43) (fun v6 =>
  zob (zaI 0 h2 v6 a1) (fun v7 =>
  some ((v7 / 6), h2)))
  else if a2 = 2 then
  zob (zgR h2 a0 8 14) (fun v8 =>
  zob (zaI 0 h2 v8 a1) (fun v9 =>
  some (v9, h2)))
  else if a2 = 3 then
  zob (zgR h2 a0 8 44) (fun v10 =>
  zob (zaI 0 h2 v10 a1) (fun v11 =>
  some (v11, h2)))
  else if a2 = 4 then
  zbd (zcv 8 a0 h2 (f_X8_ownUp a0 0 a1 h2)) (fun v13 h12 =>
  some (v13, h12))
  else if a2 = 5 then
  zbd (zcv 8 a0 h2 (f_X8_rainBy a0 0 a1 h2)) (fun v15 h14 =>
  some (v15, h14))
  else 
  some ((-1), h2)))
set_option maxRecDepth 100000 in
set_option maxHeartbeats 4000000 in
theorem t_X8_child (a0 : Nat) (a1 : Int32) (a2 : Int32) (h0 : zHp) : ∀ (r : Int32) (h' : zHp), f_X8_child a0 a1 a2 h0 = some (r, h') → zCt yX8_child (.code yX8_child cX8_child 3 (some .int)) 3 106 0 0 [.ref a0, .int a1, .int a2] h0 (some (.int r)) h' := by
  refine zct_of M_X8_child yX8_child (by decide) rfl rfl [.ref a0, .int a1, .int a2] h0 (Nat.le_of_ble_eq_true rfl) (fun r => some (.int r)) (fun X => ?_)
  show zG X M_X8_child (0, 0) 0 [(0, .ref a0), (1, .int a1), (2, .int a2)] [] h0 (f_X8_child a0 a1 a2 h0) (fun (r : Int32) h' => zKe X (some (.int r)) h')
  unfold f_X8_child
  refine zg_aload_n 0 rfl d_X8_child_0 ?_
  refine zg_iconst 0 rfl d_X8_child_1 ?_
  refine zg_putV d_X8_child_2 zc_8 (by decide) fl_X8_151 rfl rfl rfl (fun h1 => ?_)
  refine zg_aload_n 0 rfl d_X8_child_5 ?_
  refine zg_iload_n 1 rfl d_X8_child_6 ?_
  refine zg_cVi (b := a0) (As := [.int a1]) (rest := []) (0, 0) d_X8_child_7 zc_8 rfl cw_X8_425 wi_X8_isChild ws_X8_isChild rfl rfl (Nat.le_of_ble_eq_true rfl) (by decide) (by decide) ⟨by decide, by decide⟩ rfl (t_X8_isChild a0 a1 h1) (fun v3 h2 => ?_)
  refine zg_if_ne d_X8_child_10 ?_ ?_
  · refine zg_iconst (-1) rfl d_X8_child_13 ?_
    exact zg_iretK d_X8_child_14 rfl ⟨Nat.le_of_ble_eq_true rfl, Nat.le_of_ble_eq_true rfl⟩ (fun q => q)
  · refine zg_iload_n 2 rfl d_X8_child_15 ?_
    refine zg_if (fun n16 => ?_) (fun n16 => ?_)
    · refine zg_tabE n16 d_X8_child_16 (by decide) (by decide) (off := 40) rfl (tgt := 56) (by decide) ?_
      refine zg_aload_n 0 rfl d_X8_child_56 ?_
      refine zg_getR d_X8_child_57 zc_8 (by decide) fl_X8_96 (fun v4 => ?_)
      refine zg_iload_n 1 rfl d_X8_child_60 ?_
      refine zg_ald0 d_X8_child_61 (fun v5 => ?_)
      refine zg_bipush 6 rfl d_X8_child_62 ?_
      refine zg_irem (by decide) d_X8_child_64 ?_
      exact zg_iretK d_X8_child_65 rfl ⟨Nat.le_of_ble_eq_true rfl, Nat.le_of_ble_eq_true rfl⟩ (fun q => q)
    refine zg_if (fun n17 => ?_) (fun n17 => ?_)
    · refine zg_tabE n17 d_X8_child_16 (by decide) (by decide) (off := 50) rfl (tgt := 66) (by decide) ?_
      refine zg_aload_n 0 rfl d_X8_child_66 ?_
      refine zg_getR d_X8_child_67 zc_8 (by decide) fl_X8_96 (fun v6 => ?_)
      refine zg_iload_n 1 rfl d_X8_child_70 ?_
      refine zg_ald0 d_X8_child_71 (fun v7 => ?_)
      refine zg_bipush 6 rfl d_X8_child_72 ?_
      refine zg_idiv (by decide) d_X8_child_74 ?_
      exact zg_iretK d_X8_child_75 rfl ⟨Nat.le_of_ble_eq_true rfl, Nat.le_of_ble_eq_true rfl⟩ (fun q => q)
    refine zg_if (fun n18 => ?_) (fun n18 => ?_)
    · refine zg_tabE n18 d_X8_child_16 (by decide) (by decide) (off := 60) rfl (tgt := 76) (by decide) ?_
      refine zg_aload_n 0 rfl d_X8_child_76 ?_
      refine zg_getR d_X8_child_77 zc_8 (by decide) fl_X8_46 (fun v8 => ?_)
      refine zg_iload_n 1 rfl d_X8_child_80 ?_
      refine zg_ald0 d_X8_child_81 (fun v9 => ?_)
      exact zg_iretK d_X8_child_82 rfl ⟨Nat.le_of_ble_eq_true rfl, Nat.le_of_ble_eq_true rfl⟩ (fun q => q)
    refine zg_if (fun n19 => ?_) (fun n19 => ?_)
    · refine zg_tabE n19 d_X8_child_16 (by decide) (by decide) (off := 67) rfl (tgt := 83) (by decide) ?_
      refine zg_aload_n 0 rfl d_X8_child_83 ?_
      refine zg_getR d_X8_child_84 zc_8 (by decide) fl_X8_99 (fun v10 => ?_)
      refine zg_iload_n 1 rfl d_X8_child_87 ?_
      refine zg_ald0 d_X8_child_88 (fun v11 => ?_)
      exact zg_iretK d_X8_child_89 rfl ⟨Nat.le_of_ble_eq_true rfl, Nat.le_of_ble_eq_true rfl⟩ (fun q => q)
    refine zg_if (fun n20 => ?_) (fun n20 => ?_)
    · refine zg_tabE n20 d_X8_child_16 (by decide) (by decide) (off := 74) rfl (tgt := 90) (by decide) ?_
      refine zg_aload_n 0 rfl d_X8_child_90 ?_
      refine zg_iconst 0 rfl d_X8_child_91 ?_
      refine zg_iload_n 1 rfl d_X8_child_92 ?_
      refine zg_cVi (b := a0) (As := [.int 0, .int a1]) (rest := []) (0, 0) d_X8_child_93 zc_8 rfl cw_X8_394 wi_X8_ownUp ws_X8_ownUp rfl rfl (Nat.le_of_ble_eq_true rfl) (by decide) (by decide) ⟨by decide, by decide⟩ rfl (t_X8_ownUp a0 0 a1 h2) (fun v13 h12 => ?_)
      exact zg_iretK d_X8_child_96 rfl ⟨Nat.le_of_ble_eq_true rfl, Nat.le_of_ble_eq_true rfl⟩ (fun q => q)
    refine zg_if (fun n21 => ?_) (fun n21 => ?_)
    · refine zg_tabE n21 d_X8_child_16 (by decide) (by decide) (off := 81) rfl (tgt := 97) (by decide) ?_
      refine zg_aload_n 0 rfl d_X8_child_97 ?_
      refine zg_iconst 0 rfl d_X8_child_98 ?_
      refine zg_iload_n 1 rfl d_X8_child_99 ?_
      refine zg_cVi (b := a0) (As := [.int 0, .int a1]) (rest := []) (0, 0) d_X8_child_100 zc_8 rfl cw_X8_428 wi_X8_rainBy ws_X8_rainBy rfl rfl (Nat.le_of_ble_eq_true rfl) (by decide) (by decide) ⟨by decide, by decide⟩ rfl (t_X8_rainBy a0 0 a1 h2) (fun v15 h14 => ?_)
      exact zg_iretK d_X8_child_103 rfl ⟨Nat.le_of_ble_eq_true rfl, Nat.le_of_ble_eq_true rfl⟩ (fun q => q)
    refine zg_tabO d_X8_child_16 (by have q0 := lv_neT n16 (a := 0) rfl; have q1 := lv_neT n17 (a := 1) rfl; have q2 := lv_neT n18 (a := 2) rfl; have q3 := lv_neT n19 (a := 3) rfl; have q4 := lv_neT n20 (a := 4) rfl; have q5 := lv_neT n21 (a := 5) rfl; omega) (tgt := 104) (by decide) ?_
    refine zg_iconst (-1) rfl d_X8_child_104 ?_
    exact zg_iretK d_X8_child_105 rfl ⟨Nat.le_of_ble_eq_true rfl, Nat.le_of_ble_eq_true rfl⟩ (fun q => q)

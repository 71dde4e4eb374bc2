theorem ml_X8_444 : Cond.methodLink RX8 444 yX8_keepNow ∈ zT := zw_of _ 1821 (by decide +kernel) (by decide +kernel)
theorem cd_X8_keepNow : Cond.code yX8_keepNow cX8_keepNow 2 none ∈ zT := zw_of _ 1824 (by decide +kernel) (by decide +kernel)
theorem cw_X8_444 : zCw RX8 444 yX8_keepNow cX8_keepNow 2 none 0 := ⟨ml_X8_444, ni_X8, cd_X8_keepNow, by decide, by decide, by decide +kernel⟩
theorem wi_X8_keepNow : Cond.instanceMethod yX8_keepNow ∈ zT := zw_of _ 1823 (by decide +kernel) (by decide +kernel)
theorem ws_X8_keepNow : Cond.selects RX8 yX8_keepNow yX8_keepNow ∈ zT := zw_of _ 94 (by decide +kernel) (by decide +kernel)
theorem fl_X8_157 : Cond.fieldLink RX8 157 (TX8 23).1 (TX8 23).2.1 (TX8 23).2.2.1 ∈ zT := zw_of _ 1382 (by decide +kernel) (by decide +kernel)
theorem fl_X8_160 : Cond.fieldLink RX8 160 (TX8 22).1 (TX8 22).2.1 (TX8 22).2.2.1 ∈ zT := zw_of _ 1381 (by decide +kernel) (by decide +kernel)
theorem fl_X8_7 : Cond.fieldLink RX8 7 (TX8 1).1 (TX8 1).2.1 (TX8 1).2.2.1 ∈ zT := zw_of _ 1360 (by decide +kernel) (by decide +kernel)
theorem fl_X8_180 : Cond.fieldLink RX8 180 (TX8 26).1 (TX8 26).2.1 (TX8 26).2.2.1 ∈ zT := zw_of _ 1385 (by decide +kernel) (by decide +kernel)
theorem fl_X8_167 : Cond.fieldLink RX8 167 (TX8 24).1 (TX8 24).2.1 (TX8 24).2.2.1 ∈ zT := zw_of _ 1383 (by decide +kernel) (by decide +kernel)
theorem fl_X8_170 : Cond.fieldLink RX8 170 (TX8 25).1 (TX8 25).2.1 (TX8 25).2.2.1 ∈ zT := zw_of _ 1384 (by decide +kernel) (by decide +kernel)
theorem ml_X8_163 : Cond.methodLink RX8 163 yX8_here ∈ zT := zw_of _ 1584 (by decide +kernel) (by decide +kernel)
theorem cd_X8_here : Cond.code yX8_here cX8_here 1 (some .int) ∈ zT := zw_of _ 1587 (by decide +kernel) (by decide +kernel)
theorem cw_X8_163 : zCw RX8 163 yX8_here cX8_here 1 (some .int) 0 := ⟨ml_X8_163, ni_X8, cd_X8_here, by decide, by decide, by decide +kernel⟩
theorem wi_X8_here : Cond.instanceMethod yX8_here ∈ zT := zw_of _ 1586 (by decide +kernel) (by decide +kernel)
theorem ws_X8_here : Cond.selects RX8 yX8_here yX8_here ∈ zT := zw_of _ 55 (by decide +kernel) (by decide +kernel)
theorem fl_X8_205 : Cond.fieldLink RX8 205 (TX8 27).1 (TX8 27).2.1 (TX8 27).2.2.1 ∈ zT := zw_of _ 1386 (by decide +kernel) (by decide +kernel)
theorem fl_X8_208 : Cond.fieldLink RX8 208 (TX8 28).1 (TX8 28).2.1 (TX8 28).2.2.1 ∈ zT := zw_of _ 1387 (by decide +kernel) (by decide +kernel)
theorem ml_X8_428 : Cond.methodLink RX8 428 yX8_rainBy ∈ zT := zw_of _ 1735 (by decide +kernel) (by decide +kernel)
theorem cd_X8_rainBy : Cond.code yX8_rainBy cX8_rainBy 5 (some .int) ∈ zT := zw_of _ 1738 (by decide +kernel) (by decide +kernel)
theorem cw_X8_428 : zCw RX8 428 yX8_rainBy cX8_rainBy 5 (some .int) 2 := ⟨ml_X8_428, ni_X8, cd_X8_rainBy, by decide, by decide, by decide +kernel⟩
theorem wi_X8_rainBy : Cond.instanceMethod yX8_rainBy ∈ zT := zw_of _ 1737 (by decide +kernel) (by decide +kernel)
theorem ws_X8_rainBy : Cond.selects RX8 yX8_rainBy yX8_rainBy ∈ zT := zw_of _ 83 (by decide +kernel) (by decide +kernel)
theorem ml_X8_422 : Cond.methodLink RX8 422 yX8_isCloud ∈ zT := zw_of _ 1715 (by decide +kernel) (by decide +kernel)
theorem cd_X8_isCloud : Cond.code yX8_isCloud cX8_isCloud 2 (some .boolean) ∈ zT := zw_of _ 1718 (by decide +kernel) (by decide +kernel)
theorem cw_X8_422 : zCw RX8 422 yX8_isCloud cX8_isCloud 2 (some .boolean) 1 := ⟨ml_X8_422, ni_X8, cd_X8_isCloud, by decide, by decide, by decide +kernel⟩
theorem wi_X8_isCloud : Cond.instanceMethod yX8_isCloud ∈ zT := zw_of _ 1717 (by decide +kernel) (by decide +kernel)
theorem ws_X8_isCloud : Cond.selects RX8 yX8_isCloud yX8_isCloud ∈ zT := zw_of _ 79 (by decide +kernel) (by decide +kernel)
theorem fl_X8_261 : Cond.fieldLink RX8 261 (TX8 32).1 (TX8 32).2.1 (TX8 32).2.2.1 ∈ zT := zw_of _ 1391 (by decide +kernel) (by decide +kernel)
theorem ml_X8_214 : Cond.methodLink RX8 214 yX8_wrong ∈ zT := zw_of _ 1621 (by decide +kernel) (by decide +kernel)
theorem cd_X8_wrong : Cond.code yX8_wrong cX8_wrong 2 none ∈ zT := zw_of _ 1624 (by decide +kernel) (by decide +kernel)
theorem cw_X8_214 : zCw RX8 214 yX8_wrong cX8_wrong 2 none 1 := ⟨ml_X8_214, ni_X8, cd_X8_wrong, by decide, by decide, by decide +kernel⟩
theorem wi_X8_wrong : Cond.instanceMethod yX8_wrong ∈ zT := zw_of _ 1623 (by decide +kernel) (by decide +kernel)
theorem ws_X8_wrong : Cond.selects RX8 yX8_wrong yX8_wrong ∈ zT := zw_of _ 60 (by decide +kernel) (by decide +kernel)
theorem fl_X8_58 : Cond.fieldLink RX8 58 (TX8 18).1 (TX8 18).2.1 (TX8 18).2.2.1 ∈ zT := zw_of _ 1377 (by decide +kernel) (by decide +kernel)
theorem ml_X8_225 : Cond.methodLink RX8 225 yX8_fresher ∈ zT := zw_of _ 1629 (by decide +kernel) (by decide +kernel)
theorem cd_X8_fresher : Cond.code yX8_fresher cX8_fresher 2 (some .int) ∈ zT := zw_of _ 1632 (by decide +kernel) (by decide +kernel)
theorem cw_X8_225 : zCw RX8 225 yX8_fresher cX8_fresher 2 (some .int) 1 := ⟨ml_X8_225, ni_X8, cd_X8_fresher, by decide, by decide, by decide +kernel⟩
theorem wi_X8_fresher : Cond.instanceMethod yX8_fresher ∈ zT := zw_of _ 1631 (by decide +kernel) (by decide +kernel)
theorem ws_X8_fresher : Cond.selects RX8 yX8_fresher yX8_fresher ∈ zT := zw_of _ 62 (by decide +kernel) (by decide +kernel)
theorem fl_X8_61 : Cond.fieldLink RX8 61 (TX8 19).1 (TX8 19).2.1 (TX8 19).2.2.1 ∈ zT := zw_of _ 1378 (by decide +kernel) (by decide +kernel)
theorem ml_X8_245 : Cond.methodLink RX8 245 yX8_reads ∈ zT := zw_of _ 1576 (by decide +kernel) (by decide +kernel)
theorem cd_X8_reads : Cond.code yX8_reads cX8_reads 3 none ∈ zT := zw_of _ 1579 (by decide +kernel) (by decide +kernel)
theorem cw_X8_245 : zCw RX8 245 yX8_reads cX8_reads 3 none 2 := ⟨ml_X8_245, ni_X8, cd_X8_reads, by decide, by decide, by decide +kernel⟩
theorem wi_X8_reads : Cond.instanceMethod yX8_reads ∈ zT := zw_of _ 1578 (by decide +kernel) (by decide +kernel)
theorem ws_X8_reads : Cond.selects RX8 yX8_reads yX8_reads ∈ zT := zw_of _ 53 (by decide +kernel) (by decide +kernel)
theorem fl_X8_117 : Cond.fieldLink RX8 117 (TX8 54).1 (TX8 54).2.1 (TX8 54).2.2.1 ∈ zT := zw_of _ 1413 (by decide +kernel) (by decide +kernel)
theorem fl_X8_129 : Cond.fieldLink RX8 129 (TX8 62).1 (TX8 62).2.1 (TX8 62).2.2.1 ∈ zT := zw_of _ 1421 (by decide +kernel) (by decide +kernel)
theorem fl_X8_304 : Cond.fieldLink RX8 304 (TX8 61).1 (TX8 61).2.1 (TX8 61).2.2.1 ∈ zT := zw_of _ 1420 (by decide +kernel) (by decide +kernel)
abbrev M_X8_blow : zMt := (RX8, cX8_blow, 2, 3, 106, (some .boolean), "blow", 0, 0)
theorem d_X8_blow_0 : zDc M_X8_blow 0 (.aload_n 0) 1 1 := ⟨by decide +kernel, rfl⟩
theorem d_X8_blow_1 : zDc M_X8_blow 1 (.iconst 0) 1 2 := ⟨by decide +kernel, rfl⟩
theorem d_X8_blow_2 : zDc M_X8_blow 2 (.putfield 151) 3 5 := ⟨by decide +kernel, rfl⟩
theorem d_X8_blow_5 : zDc M_X8_blow 5 (.iload_n 1) 1 6 := ⟨by decide +kernel, rfl⟩
theorem d_X8_blow_6 : zDc M_X8_blow 6 (.iconst (-1)) 1 7 := ⟨by decide +kernel, rfl⟩
theorem d_X8_blow_7 : zDj M_X8_blow 7 (.if_icmp .lt 18) 18 10 25 := ⟨by decide +kernel, rfl, by decide⟩
theorem d_X8_blow_10 : zDc M_X8_blow 10 (.iload_n 1) 1 11 := ⟨by decide +kernel, rfl⟩
theorem d_X8_blow_11 : zDc M_X8_blow 11 (.iconst 4) 1 12 := ⟨by decide +kernel, rfl⟩
theorem d_X8_blow_12 : zDj M_X8_blow 12 (.if_icmp .gt 13) 13 15 25 := ⟨by decide +kernel, rfl, by decide⟩
theorem d_X8_blow_15 : zDc M_X8_blow 15 (.aload_n 0) 1 16 := ⟨by decide +kernel, rfl⟩
theorem d_X8_blow_16 : zDc M_X8_blow 16 (.getfield 78) 3 19 := ⟨by decide +kernel, rfl⟩
theorem d_X8_blow_19 : zDc M_X8_blow 19 (.iconst 0) 1 20 := ⟨by decide +kernel, rfl⟩
theorem d_X8_blow_20 : zDc M_X8_blow 20 (.iaload) 1 21 := ⟨by decide +kernel, rfl⟩
theorem d_X8_blow_21 : zDc M_X8_blow 21 (.iload_n 1) 1 22 := ⟨by decide +kernel, rfl⟩
theorem d_X8_blow_22 : zDj M_X8_blow 22 (.if_icmp .ne 5) 5 25 27 := ⟨by decide +kernel, rfl, by decide⟩
theorem d_X8_blow_25 : zDc M_X8_blow 25 (.iconst 0) 1 26 := ⟨by decide +kernel, rfl⟩
theorem d_X8_blow_26 : zDc M_X8_blow 26 (.ireturn) 1 27 := ⟨by decide +kernel, rfl⟩
theorem d_X8_blow_27 : zDc M_X8_blow 27 (.aload_n 0) 1 28 := ⟨by decide +kernel, rfl⟩
theorem d_X8_blow_28 : zDc M_X8_blow 28 (.invokevirtual 444) 3 31 := ⟨by decide +kernel, rfl⟩
theorem d_X8_blow_31 : zDc M_X8_blow 31 (.aload_n 0) 1 32 := ⟨by decide +kernel, rfl⟩
theorem d_X8_blow_32 : zDc M_X8_blow 32 (.getfield 78) 3 35 := ⟨by decide +kernel, rfl⟩
theorem d_X8_blow_35 : zDc M_X8_blow 35 (.iconst 0) 1 36 := ⟨by decide +kernel, rfl⟩
theorem d_X8_blow_36 : zDc M_X8_blow 36 (.iload_n 1) 1 37 := ⟨by decide +kernel, rfl⟩
theorem d_X8_blow_37 : zDc M_X8_blow 37 (.iastore) 1 38 := ⟨by decide +kernel, rfl⟩
theorem d_X8_blow_38 : zDc M_X8_blow 38 (.iconst 1) 1 39 := ⟨by decide +kernel, rfl⟩
theorem d_X8_blow_39 : zDc M_X8_blow 39 (.ireturn) 1 40 := ⟨by decide +kernel, rfl⟩
def f_X8_blow (a0 : Nat) (a1 : Int32) (h0 : zHp) : Option (Int32 × zHp) :=
  zob (zpV h0 a0 8 0 (.int 0)) (fun h1 =>
  if a1 < (-1) then
  some (0, h1)
  else
  if 4 < a1 then
  some (0, h1)
  else
  zob (zgR h1 a0 8 37) (fun v2 =>
  zob (zaI 0 h1 v2 0) (fun v3 =>
  if v3 = a1 then
  some (0, h1)
  else
  zbd (zcv 8 a0 h1 (f_X8_keepNow a0 h1)) (fun v5 h4 =>
  zob (zgR h4 a0 8 37) (fun v6 =>
  zob (zsI 0 h4 v6 0 a1) (fun h7 =>
  some (1, h7)))))))
set_option maxRecDepth 100000 in
set_option maxHeartbeats 4000000 in
theorem t_X8_blow (a0 : Nat) (a1 : Int32) (h0 : zHp) : ∀ (r : Int32) (h' : zHp), f_X8_blow a0 a1 h0 = some (r, h') → zCt yX8_blow (.code yX8_blow cX8_blow 2 (some .boolean)) 3 106 0 0 [.ref a0, .int a1] h0 (some (.int r)) h' := by
  refine zct_of M_X8_blow yX8_blow (by decide) rfl rfl [.ref a0, .int a1] h0 (Nat.le_of_ble_eq_true rfl) (fun r => some (.int r)) (fun X => ?_)
  show zG X M_X8_blow (0, 0) 0 [(0, .ref a0), (1, .int a1)] [] h0 (f_X8_blow a0 a1 h0) (fun (r : Int32) h' => zKe X (some (.int r)) h')
  unfold f_X8_blow
  refine zg_aload_n 0 rfl d_X8_blow_0 ?_
  refine zg_iconst 0 rfl d_X8_blow_1 ?_
  refine zg_putV d_X8_blow_2 zc_8 (by decide) fl_X8_151 rfl rfl rfl (fun h1 => ?_)
  refine zg_iload_n 1 rfl d_X8_blow_5 ?_
  refine zg_iconst (-1) rfl d_X8_blow_6 ?_
  refine zg_icmp_lt d_X8_blow_7 ?_ ?_
  · refine zg_iconst 0 rfl d_X8_blow_25 ?_
    exact zg_zretK d_X8_blow_26 rfl ⟨Nat.le_of_ble_eq_true rfl, Nat.le_of_ble_eq_true rfl⟩ (Or.inl rfl) (fun q => q)
  · refine zg_iload_n 1 rfl d_X8_blow_10 ?_
    refine zg_iconst 4 rfl d_X8_blow_11 ?_
    refine zg_icmp_gt d_X8_blow_12 ?_ ?_
    · refine zg_iconst 0 rfl d_X8_blow_25 ?_
      exact zg_zretK d_X8_blow_26 rfl ⟨Nat.le_of_ble_eq_true rfl, Nat.le_of_ble_eq_true rfl⟩ (Or.inl rfl) (fun q => q)
    · refine zg_aload_n 0 rfl d_X8_blow_15 ?_
      refine zg_getR d_X8_blow_16 zc_8 (by decide) fl_X8_78 (fun v2 => ?_)
      refine zg_iconst 0 rfl d_X8_blow_19 ?_
      refine zg_ald0 d_X8_blow_20 (fun v3 => ?_)
      refine zg_iload_n 1 rfl d_X8_blow_21 ?_
      refine zg_icmp_ne d_X8_blow_22 ?_ ?_
      · refine zg_iconst 0 rfl d_X8_blow_25 ?_
        exact zg_zretK d_X8_blow_26 rfl ⟨Nat.le_of_ble_eq_true rfl, Nat.le_of_ble_eq_true rfl⟩ (Or.inl rfl) (fun q => q)
      · refine zg_aload_n 0 rfl d_X8_blow_27 ?_
        refine zg_cVv (b := a0) (As := []) (rest := []) (0, 0) d_X8_blow_28 zc_8 rfl cw_X8_444 wi_X8_keepNow ws_X8_keepNow rfl rfl (Nat.le_of_ble_eq_true rfl) (by decide) (by decide) ⟨by decide, by decide⟩ rfl (t_X8_keepNow a0 h1) (fun v5 h4 => ?_)
        refine zg_aload_n 0 rfl d_X8_blow_31 ?_
        refine zg_getR d_X8_blow_32 zc_8 (by decide) fl_X8_78 (fun v6 => ?_)
        refine zg_iconst 0 rfl d_X8_blow_35 ?_
        refine zg_iload_n 1 rfl d_X8_blow_36 ?_
        refine zg_ast0 d_X8_blow_37 (fun h7 => ?_)
        refine zg_iconst 1 rfl d_X8_blow_38 ?_
        exact zg_zretK d_X8_blow_39 rfl ⟨Nat.le_of_ble_eq_true rfl, Nat.le_of_ble_eq_true rfl⟩ (Or.inr rfl) (fun q => q)
abbrev M_X8_here : zMt := (RX8, cX8_here, 1, 1, 60, (some .int), "here", 0, 0)
theorem d_X8_here_0 : zDc M_X8_here 0 (.aload_n 0) 1 1 := ⟨by decide +kernel, rfl⟩
theorem d_X8_here_1 : zDc M_X8_here 1 (.getfield 157) 3 4 := ⟨by decide +kernel, rfl⟩
theorem d_X8_here_4 : zDc M_X8_here 4 (.aload_n 0) 1 5 := ⟨by decide +kernel, rfl⟩
theorem d_X8_here_5 : zDc M_X8_here 5 (.getfield 160) 3 8 := ⟨by decide +kernel, rfl⟩
theorem d_X8_here_8 : zDj M_X8_here 8 (.if_icmp .ge 15) 15 11 23 := ⟨by decide +kernel, rfl, by decide⟩
theorem d_X8_here_11 : zDc M_X8_here 11 (.aload_n 0) 1 12 := ⟨by decide +kernel, rfl⟩
theorem d_X8_here_12 : zDc M_X8_here 12 (.getfield 7) 3 15 := ⟨by decide +kernel, rfl⟩
theorem d_X8_here_15 : zDc M_X8_here 15 (.aload_n 0) 1 16 := ⟨by decide +kernel, rfl⟩
theorem d_X8_here_16 : zDc M_X8_here 16 (.getfield 157) 3 19 := ⟨by decide +kernel, rfl⟩
theorem d_X8_here_19 : zDc M_X8_here 19 (.iaload) 1 20 := ⟨by decide +kernel, rfl⟩
theorem d_X8_here_20 : zDj M_X8_here 20 (.goto 4) 4 23 24 := ⟨by decide +kernel, rfl, by decide⟩
theorem d_X8_here_23 : zDc M_X8_here 23 (.iconst (-1)) 1 24 := ⟨by decide +kernel, rfl⟩
theorem d_X8_here_24 : zDc M_X8_here 24 (.ireturn) 1 25 := ⟨by decide +kernel, rfl⟩
def f_X8_here (a0 : Nat) (h0 : zHp) : Option (Int32 × zHp) :=
  zob (zgI h0 a0 8 23) (fun v1 =>
  zob (zgI h0 a0 8 22) (fun v2 =>
  if v2 ≤ v1 then
  some ((-1), h0)
  else
  zob (zgR h0 a0 8 1) (fun v3 =>
  zob (zgI h0 a0 8 23) (fun v4 =>
  zob (zaI 0 h0 v3 v4) (fun v5 =>
  some (v5, h0))))))
set_option maxRecDepth 100000 in
set_option maxHeartbeats 4000000 in
theorem t_X8_here (a0 : Nat) (h0 : zHp) : ∀ (r : Int32) (h' : zHp), f_X8_here a0 h0 = some (r, h') → zCt yX8_here (.code yX8_here cX8_here 1 (some .int)) 1 60 0 0 [.ref a0] h0 (some (.int r)) h' := by
  refine zct_of M_X8_here yX8_here (by decide) rfl rfl [.ref a0] h0 (Nat.le_of_ble_eq_true rfl) (fun r => some (.int r)) (fun X => ?_)
  show zG X M_X8_here (0, 0) 0 [(0, .ref a0)] [] h0 (f_X8_here a0 h0) (fun (r : Int32) h' => zKe X (some (.int r)) h')
  unfold f_X8_here
  refine zg_aload_n 0 rfl d_X8_here_0 ?_
  refine zg_getI d_X8_here_1 zc_8 (by decide) fl_X8_157 (fun v1 => ?_)
  refine zg_aload_n 0 rfl d_X8_here_4 ?_
  refine zg_getI d_X8_here_5 zc_8 (by decide) fl_X8_160 (fun v2 => ?_)
  refine zg_icmp_ge d_X8_here_8 ?_ ?_
  · refine zg_iconst (-1) rfl d_X8_here_23 ?_
    exact zg_iretK d_X8_here_24 rfl ⟨Nat.le_of_ble_eq_true rfl, Nat.le_of_ble_eq_true rfl⟩ (fun q => q)
  · refine zg_aload_n 0 rfl d_X8_here_11 ?_
    refine zg_getR d_X8_here_12 zc_8 (by decide) fl_X8_7 (fun v3 => ?_)
    refine zg_aload_n 0 rfl d_X8_here_15 ?_
    refine zg_getI d_X8_here_16 zc_8 (by decide) fl_X8_157 (fun v4 => ?_)
    refine zg_ald0 d_X8_here_19 (fun v5 => ?_)
    refine zg_goto d_X8_here_20 ?_
    exact zg_iretK d_X8_here_24 rfl ⟨Nat.le_of_ble_eq_true rfl, Nat.le_of_ble_eq_true rfl⟩ (fun q => q)
abbrev M_X8_isDigit : zMt := (RX8, cX8_isDigit, 1, 1, 60, (some .boolean), "isDigit", 0, 0)
theorem d_X8_isDigit_0 : zDc M_X8_isDigit 0 (.iload_n 0) 1 1 := ⟨by decide +kernel, rfl⟩
theorem d_X8_isDigit_1 : zDc M_X8_isDigit 1 (.bipush 48) 2 3 := ⟨by decide +kernel, rfl⟩
theorem d_X8_isDigit_3 : zDj M_X8_isDigit 3 (.if_icmp .lt 13) 13 6 16 := ⟨by decide +kernel, rfl, by decide⟩
theorem d_X8_isDigit_6 : zDc M_X8_isDigit 6 (.iload_n 0) 1 7 := ⟨by decide +kernel, rfl⟩
theorem d_X8_isDigit_7 : zDc M_X8_isDigit 7 (.bipush 57) 2 9 := ⟨by decide +kernel, rfl⟩
theorem d_X8_isDigit_9 : zDj M_X8_isDigit 9 (.if_icmp .gt 7) 7 12 16 := ⟨by decide +kernel, rfl, by decide⟩
theorem d_X8_isDigit_12 : zDc M_X8_isDigit 12 (.iconst 1) 1 13 := ⟨by decide +kernel, rfl⟩
theorem d_X8_isDigit_13 : zDj M_X8_isDigit 13 (.goto 4) 4 16 17 := ⟨by decide +kernel, rfl, by decide⟩
theorem d_X8_isDigit_16 : zDc M_X8_isDigit 16 (.iconst 0) 1 17 := ⟨by decide +kernel, rfl⟩
theorem d_X8_isDigit_17 : zDc M_X8_isDigit 17 (.ireturn) 1 18 := ⟨by decide +kernel, rfl⟩
def f_X8_isDigit (a0 : Int32) (h0 : zHp) : Option (Int32 × zHp) :=
  if a0 < 48 then
  some (0, h0)
  else
  if 57 < a0 then
  some (0, h0)
  else
  some (1, h0)
set_option maxRecDepth 100000 in
set_option maxHeartbeats 4000000 in
theorem t_X8_isDigit (a0 : Int32) (h0 : zHp) : ∀ (r : Int32) (h' : zHp), f_X8_isDigit a0 h0 = some (r, h') → zCt yX8_isDigit (.code yX8_isDigit cX8_isDigit 1 (some .boolean)) 1 60 0 0 [.int a0] h0 (some (.int r)) h' := by
  refine zct_of M_X8_isDigit yX8_isDigit (by decide) rfl rfl [.int a0] h0 (Nat.le_of_ble_eq_true rfl) (fun r => some (.int r)) (fun X => ?_)
  show zG X M_X8_isDigit (0, 0) 0 [(0, .int a0)] [] h0 (f_X8_isDigit a0 h0) (fun (r : Int32) h' => zKe X (some (.int r)) h')
  unfold f_X8_isDigit
  refine zg_iload_n 0 rfl d_X8_isDigit_0 ?_
  refine zg_bipush 48 rfl d_X8_isDigit_1 ?_
  refine zg_icmp_lt d_X8_isDigit_3 ?_ ?_
  · refine zg_iconst 0 rfl d_X8_isDigit_16 ?_
    exact zg_zretK d_X8_isDigit_17 rfl ⟨Nat.le_of_ble_eq_true rfl, Nat.le_of_ble_eq_true rfl⟩ (Or.inl rfl) (fun q => q)
  · refine zg_iload_n 0 rfl d_X8_isDigit_6 ?_
    refine zg_bipush 57 rfl d_X8_isDigit_7 ?_
    refine zg_icmp_gt d_X8_isDigit_9 ?_ ?_
    · refine zg_iconst 0 rfl d_X8_isDigit_16 ?_
      exact zg_zretK d_X8_isDigit_17 rfl ⟨Nat.le_of_ble_eq_true rfl, Nat.le_of_ble_eq_true rfl⟩ (Or.inl rfl) (fun q => q)
    · refine zg_iconst 1 rfl d_X8_isDigit_12 ?_
      refine zg_goto d_X8_isDigit_13 ?_
      exact zg_zretK d_X8_isDigit_17 rfl ⟨Nat.le_of_ble_eq_true rfl, Nat.le_of_ble_eq_true rfl⟩ (Or.inr rfl) (fun q => q)
abbrev M_X8_isSmall : zMt := (RX8, cX8_isSmall, 1, 1, 60, (some .boolean), "isSmall", 0, 0)
theorem d_X8_isSmall_0 : zDc M_X8_isSmall 0 (.iload_n 0) 1 1 := ⟨by decide +kernel, rfl⟩
theorem d_X8_isSmall_1 : zDc M_X8_isSmall 1 (.bipush 97) 2 3 := ⟨by decide +kernel, rfl⟩
theorem d_X8_isSmall_3 : zDj M_X8_isSmall 3 (.if_icmp .lt 13) 13 6 16 := ⟨by decide +kernel, rfl, by decide⟩
theorem d_X8_isSmall_6 : zDc M_X8_isSmall 6 (.iload_n 0) 1 7 := ⟨by decide +kernel, rfl⟩
theorem d_X8_isSmall_7 : zDc M_X8_isSmall 7 (.bipush 122) 2 9 := ⟨by decide +kernel, rfl⟩
theorem d_X8_isSmall_9 : zDj M_X8_isSmall 9 (.if_icmp .gt 7) 7 12 16 := ⟨by decide +kernel, rfl, by decide⟩
theorem d_X8_isSmall_12 : zDc M_X8_isSmall 12 (.iconst 1) 1 13 := ⟨by decide +kernel, rfl⟩
theorem d_X8_isSmall_13 : zDj M_X8_isSmall 13 (.goto 4) 4 16 17 := ⟨by decide +kernel, rfl, by decide⟩
theorem d_X8_isSmall_16 : zDc M_X8_isSmall 16 (.iconst 0) 1 17 := ⟨by decide +kernel, rfl⟩
theorem d_X8_isSmall_17 : zDc M_X8_isSmall 17 (.ireturn) 1 18 := ⟨by decide +kernel, rfl⟩
def f_X8_isSmall (a0 : Int32) (h0 : zHp) : Option (Int32 × zHp) :=
  if a0 < 97 then
  some (0, h0)
  else
  if 122 < a0 then
  some (0, h0)
  else
  some (1, h0)
set_option maxRecDepth 100000 in
set_option maxHeartbeats 4000000 in
theorem t_X8_isSmall (a0 : Int32) (h0 : zHp) : ∀ (r : Int32) (h' : zHp), f_X8_isSmall a0 h0 = some (r, h') → zCt yX8_isSmall (.code yX8_isSmall cX8_isSmall 1 (some .boolean)) 1 60 0 0 [.int a0] h0 (some (.int r)) h' := by
  refine zct_of M_X8_isSmall yX8_isSmall (by decide) rfl rfl [.int a0] h0 (Nat.le_of_ble_eq_true rfl) (fun r => some (.int r)) (fun X => ?_)
  show zG X M_X8_isSmall (0, 0) 0 [(0, .int a0)] [] h0 (f_X8_isSmall a0 h0) (fun (r : Int32) h' => zKe X (some (.int r)) h')
  unfold f_X8_isSmall
  refine zg_iload_n 0 rfl d_X8_isSmall_0 ?_
  refine zg_bipush 97 rfl d_X8_isSmall_1 ?_
  refine zg_icmp_lt d_X8_isSmall_3 ?_ ?_
  · refine zg_iconst 0 rfl d_X8_isSmall_16 ?_
    exact zg_zretK d_X8_isSmall_17 rfl ⟨Nat.le_of_ble_eq_true rfl, Nat.le_of_ble_eq_true rfl⟩ (Or.inl rfl) (fun q => q)
  · refine zg_iload_n 0 rfl d_X8_isSmall_6 ?_
    refine zg_bipush 122 rfl d_X8_isSmall_7 ?_
    refine zg_icmp_gt d_X8_isSmall_9 ?_ ?_
    · refine zg_iconst 0 rfl d_X8_isSmall_16 ?_
      exact zg_zretK d_X8_isSmall_17 rfl ⟨Nat.le_of_ble_eq_true rfl, Nat.le_of_ble_eq_true rfl⟩ (Or.inl rfl) (fun q => q)
    · refine zg_iconst 1 rfl d_X8_isSmall_12 ?_
      refine zg_goto d_X8_isSmall_13 ?_
      exact zg_zretK d_X8_isSmall_17 rfl ⟨Nat.le_of_ble_eq_true rfl, Nat.le_of_ble_eq_true rfl⟩ (Or.inr rfl) (fun q => q)
abbrev M_X8_name : zMt := (RX8, cX8_name, 2, 1, 60, none, "name", 0, 0)
theorem d_X8_name_0 : zDc M_X8_name 0 (.aload_n 0) 1 1 := ⟨by decide +kernel, rfl⟩
theorem d_X8_name_1 : zDc M_X8_name 1 (.iconst 0) 1 2 := ⟨by decide +kernel, rfl⟩
theorem d_X8_name_2 : zDc M_X8_name 2 (.putfield 180) 3 5 := ⟨by decide +kernel, rfl⟩
theorem d_X8_name_5 : zDc M_X8_name 5 (.iconst 0) 1 6 := ⟨by decide +kernel, rfl⟩
theorem d_X8_name_6 : zDc M_X8_name 6 (.istore_n 1) 1 7 := ⟨by decide +kernel, rfl⟩
theorem d_X8_name_7 : zDc M_X8_name 7 (.iload_n 1) 1 8 := ⟨by decide +kernel, rfl⟩
theorem d_X8_name_8 : zDc M_X8_name 8 (.bipush 6) 2 10 := ⟨by decide +kernel, rfl⟩
theorem d_X8_name_10 : zDj M_X8_name 10 (.if_icmp .ge 53) 53 13 63 := ⟨by decide +kernel, rfl, by decide⟩
theorem d_X8_name_13 : zDc M_X8_name 13 (.aload_n 0) 1 14 := ⟨by decide +kernel, rfl⟩
theorem d_X8_name_14 : zDc M_X8_name 14 (.aload_n 0) 1 15 := ⟨by decide +kernel, rfl⟩
theorem d_X8_name_15 : zDc M_X8_name 15 (.getfield 180) 3 18 := ⟨by decide +kernel, rfl⟩
theorem d_X8_name_18 : zDc M_X8_name 18 (.iconst 5) 1 19 := ⟨by decide +kernel, rfl⟩
theorem d_X8_name_19 : zDc M_X8_name 19 (.ishl) 1 20 := ⟨by decide +kernel, rfl⟩
theorem d_X8_name_20 : zDc M_X8_name 20 (.aload_n 0) 1 21 := ⟨by decide +kernel, rfl⟩
theorem d_X8_name_21 : zDc M_X8_name 21 (.getfield 167) 3 24 := ⟨by decide +kernel, rfl⟩
theorem d_X8_name_24 : zDc M_X8_name 24 (.iload_n 1) 1 25 := ⟨by decide +kernel, rfl⟩
theorem d_X8_name_25 : zDc M_X8_name 25 (.iadd) 1 26 := ⟨by decide +kernel, rfl⟩
theorem d_X8_name_26 : zDc M_X8_name 26 (.aload_n 0) 1 27 := ⟨by decide +kernel, rfl⟩
theorem d_X8_name_27 : zDc M_X8_name 27 (.getfield 157) 3 30 := ⟨by decide +kernel, rfl⟩
theorem d_X8_name_30 : zDj M_X8_name 30 (.if_icmp .ge 22) 22 33 52 := ⟨by decide +kernel, rfl, by decide⟩
theorem d_X8_name_33 : zDc M_X8_name 33 (.aload_n 0) 1 34 := ⟨by decide +kernel, rfl⟩
theorem d_X8_name_34 : zDc M_X8_name 34 (.getfield 7) 3 37 := ⟨by decide +kernel, rfl⟩
theorem d_X8_name_37 : zDc M_X8_name 37 (.aload_n 0) 1 38 := ⟨by decide +kernel, rfl⟩
theorem d_X8_name_38 : zDc M_X8_name 38 (.getfield 167) 3 41 := ⟨by decide +kernel, rfl⟩
theorem d_X8_name_41 : zDc M_X8_name 41 (.iload_n 1) 1 42 := ⟨by decide +kernel, rfl⟩
theorem d_X8_name_42 : zDc M_X8_name 42 (.iadd) 1 43 := ⟨by decide +kernel, rfl⟩
theorem d_X8_name_43 : zDc M_X8_name 43 (.iaload) 1 44 := ⟨by decide +kernel, rfl⟩
theorem d_X8_name_44 : zDc M_X8_name 44 (.bipush 97) 2 46 := ⟨by decide +kernel, rfl⟩
theorem d_X8_name_46 : zDc M_X8_name 46 (.isub) 1 47 := ⟨by decide +kernel, rfl⟩
theorem d_X8_name_47 : zDc M_X8_name 47 (.iconst 1) 1 48 := ⟨by decide +kernel, rfl⟩
theorem d_X8_name_48 : zDc M_X8_name 48 (.iadd) 1 49 := ⟨by decide +kernel, rfl⟩
theorem d_X8_name_49 : zDj M_X8_name 49 (.goto 4) 4 52 53 := ⟨by decide +kernel, rfl, by decide⟩
theorem d_X8_name_52 : zDc M_X8_name 52 (.iconst 0) 1 53 := ⟨by decide +kernel, rfl⟩
theorem d_X8_name_53 : zDc M_X8_name 53 (.ior) 1 54 := ⟨by decide +kernel, rfl⟩
theorem d_X8_name_54 : zDc M_X8_name 54 (.putfield 180) 3 57 := ⟨by decide +kernel, rfl⟩
theorem d_X8_name_57 : zDc M_X8_name 57 (.iinc 1 1) 3 60 := ⟨by decide +kernel, rfl⟩
theorem d_X8_name_60 : zDj M_X8_name 60 (.goto (-53)) (-53) 63 7 := ⟨by decide +kernel, rfl, by decide⟩
theorem d_X8_name_63 : zDc M_X8_name 63 (.return_) 1 64 := ⟨by decide +kernel, rfl⟩
def f_X8_name (a0 : Nat) (h0 : zHp) : Option (Unit × zHp) :=
  zob (zpV h0 a0 8 26 (.int 0)) (fun h1 =>
  zbd (
  zlp (σ := Int32) (β := Int32) zLF (fun s2 h3 =>
  if 6 ≤ s2 then
  some ((.inr s2), h3)
  else
  zob (zgI h3 a0 8 26) (fun v6 =>
  zob (zgI h3 a0 8 24) (fun v7 =>
  zob (zgI h3 a0 8 23) (fun v8 =>
  zbd (α := Int32) (
  if v8 ≤ (v7 + s2) then
  some (0, h3)
  else
  zob (zgR h3 a0 8 1) (fun v9 =>
  zob (zgI h3 a0 8 24) (fun v10 =>
  zob (zaI 0 h3 v9 (v10 + s2)) (fun v11 =>
  some (((v11 - 97) + 1), h3))))) (fun e12 h13 =>
  zob (zpV h13 a0 8 26 (.int ((v6 <<< (5 &&& 31)) ||| e12))) (fun h14 =>
  some ((.inl (s2 + 1)), h14))))))) 0 h1) (fun e4 h5 =>
  some ((), h5)))
set_option maxRecDepth 100000 in
set_option maxHeartbeats 4000000 in
theorem t_X8_name (a0 : Nat) (h0 : zHp) : ∀ (r : Unit) (h' : zHp), f_X8_name a0 h0 = some (r, h') → zCt yX8_name (.code yX8_name cX8_name 2 none) 1 60 0 0 [.ref a0] h0 (none) h' := by
  refine zct_of M_X8_name yX8_name (by decide) rfl rfl [.ref a0] h0 (Nat.le_of_ble_eq_true rfl) (fun _ => none) (fun X => ?_)
  show zG X M_X8_name (0, 0) 0 [(0, .ref a0)] [] h0 (f_X8_name a0 h0) (fun (_ : Unit) h' => zKe X (none) h')
  unfold f_X8_name
  refine zg_aload_n 0 rfl d_X8_name_0 ?_
  refine zg_iconst 0 rfl d_X8_name_1 ?_
  refine zg_putV d_X8_name_2 zc_8 (by decide) fl_X8_180 rfl rfl rfl (fun h1 => ?_)
  refine zg_iconst 0 rfl d_X8_name_5 ?_
  refine zg_istore_n [(1, .int 0), (0, .ref a0)] d_X8_name_6 rfl (by decide) rfl ?_
  refine zg_bd (E := 63) (el := (fun (e4 : Int32) => [(0, .ref a0), (1, .int e4)])) (es := fun _ => []) (zg_sub [1, 0] rfl (zg_lp (el := (fun (s2 : Int32) => [(0, .ref a0), (1, .int s2)])) (fun s2 h3 => ?_) 0 h1)) (fun e4 h5 => ?_)
  · refine zg_iload_n 1 rfl d_X8_name_7 ?_
    refine zg_bipush 6 rfl d_X8_name_8 ?_
    refine zg_icmp_ge d_X8_name_10 ?_ ?_
    · exact zg_finK (E := 0) [0, 1] rfl rfl (fun q => q)
    · refine zg_aload_n 0 rfl d_X8_name_13 ?_
      refine zg_aload_n 0 rfl d_X8_name_14 ?_
      refine zg_getI d_X8_name_15 zc_8 (by decide) fl_X8_180 (fun v6 => ?_)
      refine zg_iconst 5 rfl d_X8_name_18 ?_
      refine zg_ishl d_X8_name_19 ?_
      refine zg_aload_n 0 rfl d_X8_name_20 ?_
      refine zg_getI d_X8_name_21 zc_8 (by decide) fl_X8_167 (fun v7 => ?_)
      refine zg_iload_n 1 rfl d_X8_name_24 ?_
      refine zg_iadd d_X8_name_25 ?_
      refine zg_aload_n 0 rfl d_X8_name_26 ?_
      refine zg_getI d_X8_name_27 zc_8 (by decide) fl_X8_157 (fun v8 => ?_)
      refine zg_bd (E := 53) (el := (fun (e12 : Int32) => [(0, .ref a0), (1, .int s2)])) (es := (fun (e12 : Int32) => [.int e12, .int (v6 <<< (5 &&& 31)), .ref a0])) ?_ (fun e12 h13 => ?_)
      · refine zg_icmp_ge d_X8_name_30 ?_ ?_
        · refine zg_iconst 0 rfl d_X8_name_52 ?_
          exact zg_finK (E := 0) [0, 1] rfl rfl (fun q => q)
        · refine zg_aload_n 0 rfl d_X8_name_33 ?_
          refine zg_getR d_X8_name_34 zc_8 (by decide) fl_X8_7 (fun v9 => ?_)
          refine zg_aload_n 0 rfl d_X8_name_37 ?_
          refine zg_getI d_X8_name_38 zc_8 (by decide) fl_X8_167 (fun v10 => ?_)
          refine zg_iload_n 1 rfl d_X8_name_41 ?_
          refine zg_iadd d_X8_name_42 ?_
          refine zg_ald0 d_X8_name_43 (fun v11 => ?_)
          refine zg_bipush 97 rfl d_X8_name_44 ?_
          refine zg_isub d_X8_name_46 ?_
          refine zg_iconst 1 rfl d_X8_name_47 ?_
          refine zg_iadd d_X8_name_48 ?_
          refine zg_goto d_X8_name_49 ?_
          exact zg_finK (E := 0) [0, 1] rfl rfl (fun q => q)
      · refine zg_ior d_X8_name_53 ?_
        refine zg_putV d_X8_name_54 zc_8 (by decide) fl_X8_180 rfl rfl rfl (fun h14 => ?_)
        refine zg_iinc 1 (s2 + 1) [(1, .int (s2 + 1)), (0, .ref a0)] d_X8_name_57 rfl rfl (by decide) rfl ?_
        refine zg_goto d_X8_name_60 ?_
        exact zg_finK (E := 0) [1, 0] rfl rfl (fun q => q)
  · exact zg_vretK d_X8_name_63 rfl ⟨Nat.le_of_ble_eq_true rfl, Nat.le_of_ble_eq_true rfl⟩ (fun q => q)
abbrev M_X8_sign : zMt := (RX8, cX8_sign, 2, 2, 80, none, "sign", 0, 0)
theorem d_X8_sign_0 : zDc M_X8_sign 0 (.aload_n 0) 1 1 := ⟨by decide +kernel, rfl⟩
theorem d_X8_sign_1 : zDc M_X8_sign 1 (.dup) 1 2 := ⟨by decide +kernel, rfl⟩
theorem d_X8_sign_2 : zDc M_X8_sign 2 (.getfield 157) 3 5 := ⟨by decide +kernel, rfl⟩
theorem d_X8_sign_5 : zDc M_X8_sign 5 (.iconst 1) 1 6 := ⟨by decide +kernel, rfl⟩
theorem d_X8_sign_6 : zDc M_X8_sign 6 (.iadd) 1 7 := ⟨by decide +kernel, rfl⟩
theorem d_X8_sign_7 : zDc M_X8_sign 7 (.putfield 157) 3 10 := ⟨by decide +kernel, rfl⟩
theorem d_X8_sign_10 : zDc M_X8_sign 10 (.aload_n 0) 1 11 := ⟨by decide +kernel, rfl⟩
theorem d_X8_sign_11 : zDc M_X8_sign 11 (.iload_n 1) 1 12 := ⟨by decide +kernel, rfl⟩
theorem d_X8_sign_12 : zDc M_X8_sign 12 (.bipush 59) 2 14 := ⟨by decide +kernel, rfl⟩
theorem d_X8_sign_14 : zDj M_X8_sign 14 (.if_icmp .eq 57) 57 17 71 := ⟨by decide +kernel, rfl, by decide⟩
theorem d_X8_sign_17 : zDc M_X8_sign 17 (.iload_n 1) 1 18 := ⟨by decide +kernel, rfl⟩
theorem d_X8_sign_18 : zDc M_X8_sign 18 (.bipush 40) 2 20 := ⟨by decide +kernel, rfl⟩
theorem d_X8_sign_20 : zDj M_X8_sign 20 (.if_icmp .eq 51) 51 23 71 := ⟨by decide +kernel, rfl, by decide⟩
theorem d_X8_sign_23 : zDc M_X8_sign 23 (.iload_n 1) 1 24 := ⟨by decide +kernel, rfl⟩
theorem d_X8_sign_24 : zDc M_X8_sign 24 (.bipush 41) 2 26 := ⟨by decide +kernel, rfl⟩
theorem d_X8_sign_26 : zDj M_X8_sign 26 (.if_icmp .eq 45) 45 29 71 := ⟨by decide +kernel, rfl, by decide⟩
theorem d_X8_sign_29 : zDc M_X8_sign 29 (.iload_n 1) 1 30 := ⟨by decide +kernel, rfl⟩
theorem d_X8_sign_30 : zDc M_X8_sign 30 (.bipush 43) 2 32 := ⟨by decide +kernel, rfl⟩
theorem d_X8_sign_32 : zDj M_X8_sign 32 (.if_icmp .eq 39) 39 35 71 := ⟨by decide +kernel, rfl, by decide⟩
theorem d_X8_sign_35 : zDc M_X8_sign 35 (.iload_n 1) 1 36 := ⟨by decide +kernel, rfl⟩
theorem d_X8_sign_36 : zDc M_X8_sign 36 (.bipush 45) 2 38 := ⟨by decide +kernel, rfl⟩
theorem d_X8_sign_38 : zDj M_X8_sign 38 (.if_icmp .eq 33) 33 41 71 := ⟨by decide +kernel, rfl, by decide⟩
theorem d_X8_sign_41 : zDc M_X8_sign 41 (.iload_n 1) 1 42 := ⟨by decide +kernel, rfl⟩
theorem d_X8_sign_42 : zDc M_X8_sign 42 (.bipush 42) 2 44 := ⟨by decide +kernel, rfl⟩
theorem d_X8_sign_44 : zDj M_X8_sign 44 (.if_icmp .eq 27) 27 47 71 := ⟨by decide +kernel, rfl, by decide⟩
theorem d_X8_sign_47 : zDc M_X8_sign 47 (.iload_n 1) 1 48 := ⟨by decide +kernel, rfl⟩
theorem d_X8_sign_48 : zDc M_X8_sign 48 (.bipush 47) 2 50 := ⟨by decide +kernel, rfl⟩
theorem d_X8_sign_50 : zDj M_X8_sign 50 (.if_icmp .eq 21) 21 53 71 := ⟨by decide +kernel, rfl, by decide⟩
theorem d_X8_sign_53 : zDc M_X8_sign 53 (.iload_n 1) 1 54 := ⟨by decide +kernel, rfl⟩
theorem d_X8_sign_54 : zDc M_X8_sign 54 (.bipush 60) 2 56 := ⟨by decide +kernel, rfl⟩
theorem d_X8_sign_56 : zDj M_X8_sign 56 (.if_icmp .eq 15) 15 59 71 := ⟨by decide +kernel, rfl, by decide⟩
theorem d_X8_sign_59 : zDc M_X8_sign 59 (.iload_n 1) 1 60 := ⟨by decide +kernel, rfl⟩
theorem d_X8_sign_60 : zDc M_X8_sign 60 (.bipush 61) 2 62 := ⟨by decide +kernel, rfl⟩
theorem d_X8_sign_62 : zDj M_X8_sign 62 (.if_icmp .eq 9) 9 65 71 := ⟨by decide +kernel, rfl, by decide⟩
theorem d_X8_sign_65 : zDc M_X8_sign 65 (.iload_n 1) 1 66 := ⟨by decide +kernel, rfl⟩
theorem d_X8_sign_66 : zDc M_X8_sign 66 (.bipush 62) 2 68 := ⟨by decide +kernel, rfl⟩
theorem d_X8_sign_68 : zDj M_X8_sign 68 (.if_icmp .ne 7) 7 71 75 := ⟨by decide +kernel, rfl, by decide⟩
theorem d_X8_sign_71 : zDc M_X8_sign 71 (.iconst 3) 1 72 := ⟨by decide +kernel, rfl⟩
theorem d_X8_sign_72 : zDj M_X8_sign 72 (.goto 4) 4 75 76 := ⟨by decide +kernel, rfl, by decide⟩
theorem d_X8_sign_75 : zDc M_X8_sign 75 (.iconst 5) 1 76 := ⟨by decide +kernel, rfl⟩
theorem d_X8_sign_76 : zDc M_X8_sign 76 (.putfield 170) 3 79 := ⟨by decide +kernel, rfl⟩
theorem d_X8_sign_79 : zDc M_X8_sign 79 (.aload_n 0) 1 80 := ⟨by decide +kernel, rfl⟩
theorem d_X8_sign_80 : zDc M_X8_sign 80 (.iload_n 1) 1 81 := ⟨by decide +kernel, rfl⟩
theorem d_X8_sign_81 : zDc M_X8_sign 81 (.putfield 180) 3 84 := ⟨by decide +kernel, rfl⟩
theorem d_X8_sign_84 : zDc M_X8_sign 84 (.iload_n 1) 1 85 := ⟨by decide +kernel, rfl⟩
theorem d_X8_sign_85 : zDc M_X8_sign 85 (.bipush 60) 2 87 := ⟨by decide +kernel, rfl⟩
theorem d_X8_sign_87 : zDj M_X8_sign 87 (.if_icmp .ne 19) 19 90 106 := ⟨by decide +kernel, rfl, by decide⟩
theorem d_X8_sign_90 : zDc M_X8_sign 90 (.aload_n 0) 1 91 := ⟨by decide +kernel, rfl⟩
theorem d_X8_sign_91 : zDc M_X8_sign 91 (.invokevirtual 163) 3 94 := ⟨by decide +kernel, rfl⟩
theorem d_X8_sign_94 : zDc M_X8_sign 94 (.bipush 61) 2 96 := ⟨by decide +kernel, rfl⟩
theorem d_X8_sign_96 : zDj M_X8_sign 96 (.if_icmp .ne 10) 10 99 106 := ⟨by decide +kernel, rfl, by decide⟩
theorem d_X8_sign_99 : zDc M_X8_sign 99 (.aload_n 0) 1 100 := ⟨by decide +kernel, rfl⟩
theorem d_X8_sign_100 : zDc M_X8_sign 100 (.sipush 256) 3 103 := ⟨by decide +kernel, rfl⟩
theorem d_X8_sign_103 : zDc M_X8_sign 103 (.putfield 180) 3 106 := ⟨by decide +kernel, rfl⟩
theorem d_X8_sign_106 : zDc M_X8_sign 106 (.iload_n 1) 1 107 := ⟨by decide +kernel, rfl⟩
theorem d_X8_sign_107 : zDc M_X8_sign 107 (.bipush 60) 2 109 := ⟨by decide +kernel, rfl⟩
theorem d_X8_sign_109 : zDj M_X8_sign 109 (.if_icmp .ne 19) 19 112 128 := ⟨by decide +kernel, rfl, by decide⟩
theorem d_X8_sign_112 : zDc M_X8_sign 112 (.aload_n 0) 1 113 := ⟨by decide +kernel, rfl⟩
theorem d_X8_sign_113 : zDc M_X8_sign 113 (.invokevirtual 163) 3 116 := ⟨by decide +kernel, rfl⟩
theorem d_X8_sign_116 : zDc M_X8_sign 116 (.bipush 62) 2 118 := ⟨by decide +kernel, rfl⟩
theorem d_X8_sign_118 : zDj M_X8_sign 118 (.if_icmp .ne 10) 10 121 128 := ⟨by decide +kernel, rfl, by decide⟩
theorem d_X8_sign_121 : zDc M_X8_sign 121 (.aload_n 0) 1 122 := ⟨by decide +kernel, rfl⟩
theorem d_X8_sign_122 : zDc M_X8_sign 122 (.sipush 257) 3 125 := ⟨by decide +kernel, rfl⟩
theorem d_X8_sign_125 : zDc M_X8_sign 125 (.putfield 180) 3 128 := ⟨by decide +kernel, rfl⟩
theorem d_X8_sign_128 : zDc M_X8_sign 128 (.iload_n 1) 1 129 := ⟨by decide +kernel, rfl⟩
theorem d_X8_sign_129 : zDc M_X8_sign 129 (.bipush 62) 2 131 := ⟨by decide +kernel, rfl⟩
theorem d_X8_sign_131 : zDj M_X8_sign 131 (.if_icmp .ne 19) 19 134 150 := ⟨by decide +kernel, rfl, by decide⟩
theorem d_X8_sign_134 : zDc M_X8_sign 134 (.aload_n 0) 1 135 := ⟨by decide +kernel, rfl⟩
theorem d_X8_sign_135 : zDc M_X8_sign 135 (.invokevirtual 163) 3 138 := ⟨by decide +kernel, rfl⟩
theorem d_X8_sign_138 : zDc M_X8_sign 138 (.bipush 61) 2 140 := ⟨by decide +kernel, rfl⟩
theorem d_X8_sign_140 : zDj M_X8_sign 140 (.if_icmp .ne 10) 10 143 150 := ⟨by decide +kernel, rfl, by decide⟩
theorem d_X8_sign_143 : zDc M_X8_sign 143 (.aload_n 0) 1 144 := ⟨by decide +kernel, rfl⟩
theorem d_X8_sign_144 : zDc M_X8_sign 144 (.sipush 258) 3 147 := ⟨by decide +kernel, rfl⟩
theorem d_X8_sign_147 : zDc M_X8_sign 147 (.putfield 180) 3 150 := ⟨by decide +kernel, rfl⟩
theorem d_X8_sign_150 : zDc M_X8_sign 150 (.aload_n 0) 1 151 := ⟨by decide +kernel, rfl⟩
theorem d_X8_sign_151 : zDc M_X8_sign 151 (.getfield 180) 3 154 := ⟨by decide +kernel, rfl⟩
theorem d_X8_sign_154 : zDc M_X8_sign 154 (.sipush 256) 3 157 := ⟨by decide +kernel, rfl⟩
theorem d_X8_sign_157 : zDj M_X8_sign 157 (.if_icmp .lt 13) 13 160 170 := ⟨by decide +kernel, rfl, by decide⟩
theorem d_X8_sign_160 : zDc M_X8_sign 160 (.aload_n 0) 1 161 := ⟨by decide +kernel, rfl⟩
theorem d_X8_sign_161 : zDc M_X8_sign 161 (.dup) 1 162 := ⟨by decide +kernel, rfl⟩
theorem d_X8_sign_162 : zDc M_X8_sign 162 (.getfield 157) 3 165 := ⟨by decide +kernel, rfl⟩
theorem d_X8_sign_165 : zDc M_X8_sign 165 (.iconst 1) 1 166 := ⟨by decide +kernel, rfl⟩
theorem d_X8_sign_166 : zDc M_X8_sign 166 (.iadd) 1 167 := ⟨by decide +kernel, rfl⟩
theorem d_X8_sign_167 : zDc M_X8_sign 167 (.putfield 157) 3 170 := ⟨by decide +kernel, rfl⟩
theorem d_X8_sign_170 : zDc M_X8_sign 170 (.return_) 1 171 := ⟨by decide +kernel, rfl⟩
def f_X8_sign (a0 : Nat) (a1 : Int32) (h0 : zHp) : Option (Unit × zHp) :=
  zob (zgI h0 a0 8 23) (fun v1 =>
  zob (zpV h0 a0 8 23 (.int (v1 + 1))) (fun h2 =>
  zbd (α := Int32) (
  if a1 = 59 then
  some (3, h2)
  else
  if a1 = 40 then
  some (3, h2)
  else
  if a1 = 41 then
  some (3, h2)
  else
  if a1 = 43 then
  some (3, h2)
  else
  if a1 = 45 then
  some (3, h2)
  else
  if a1 = 42 then
  some (3, h2)
  else
  if a1 = 47 then
  some (3, h2)
  else
  if a1 = 60 then
  some (3, h2)
  else
  if a1 = 61 then
  some (3, h2)
  else
  if a1 = 62 then
  some (3, h2)
  else
  some (5, h2)) (fun e3 h4 =>
  zob (zpV h4 a0 8 25 (.int e3)) (fun h5 =>
  zob (zpV h5 a0 8 26 (.int a1)) (fun h6 =>
  zbd (α := Unit) (
  if a1 = 60 then
  zbd (zcv 8 a0 h6 (f_X8_here a0 h6)) (fun v8 h7 =>
  if v8 = 61 then
  zob (zpV h7 a0 8 26 (.int 256)) (fun h9 =>
  some ((), h9))
  else
  some ((), h7))
  else
  some ((), h6)) (fun e10 h11 =>
  zbd (α := Unit) (
  if a1 = 60 then
  zbd (zcv 8 a0 h11 (f_X8_here a0 h11)) (fun v13 h12 =>
  if v13 = 62 then
  zob (zpV h12 a0 8 26 (.int 257)) (fun h14 =>
  some ((), h14))
  else
  some ((), h12))
  else
  some ((), h11)) (fun e15 h16 =>
  zbd (α := Unit) (
  if a1 = 62 then
  zbd (zcv 8 a0 h16 (f_X8_here a0 h16)) (fun v18 h17 =>
  if v18 = 61 then
  zob (zpV h17 a0 8 26 (.int 258)) (fun h19 =>
  some ((), h19))
  else
  some ((), h17))
  else
  some ((), h16)) (fun e20 h21 =>
  zob (zgI h21 a0 8 26) (fun v22 =>
  if v22 < 256 then
  some ((), h21)
  else
  zob (zgI h21 a0 8 23) (fun v23 =>
  zob (zpV h21 a0 8 23 (.int (v23 + 1))) (fun h24 =>
  some ((), h24))))))))))))
set_option maxRecDepth 100000 in
set_option maxHeartbeats 4000000 in
theorem t_X8_sign (a0 : Nat) (a1 : Int32) (h0 : zHp) : ∀ (r : Unit) (h' : zHp), f_X8_sign a0 a1 h0 = some (r, h') → zCt yX8_sign (.code yX8_sign cX8_sign 2 none) 2 80 0 0 [.ref a0, .int a1] h0 (none) h' := by
  refine zct_of M_X8_sign yX8_sign (by decide) rfl rfl [.ref a0, .int a1] h0 (Nat.le_of_ble_eq_true rfl) (fun _ => none) (fun X => ?_)
  show zG X M_X8_sign (0, 0) 0 [(0, .ref a0), (1, .int a1)] [] h0 (f_X8_sign a0 a1 h0) (fun (_ : Unit) h' => zKe X (none) h')
  unfold f_X8_sign
  refine zg_aload_n 0 rfl d_X8_sign_0 ?_
  refine zg_dup rfl d_X8_sign_1 ?_
  refine zg_getI d_X8_sign_2 zc_8 (by decide) fl_X8_157 (fun v1 => ?_)
  refine zg_iconst 1 rfl d_X8_sign_5 ?_
  refine zg_iadd d_X8_sign_6 ?_
  refine zg_putV d_X8_sign_7 zc_8 (by decide) fl_X8_157 rfl rfl rfl (fun h2 => ?_)
  refine zg_aload_n 0 rfl d_X8_sign_10 ?_
  refine zg_iload_n 1 rfl d_X8_sign_11 ?_
  refine zg_bipush 59 rfl d_X8_sign_12 ?_
  refine zg_bd (E := 76) (el := (fun (e3 : Int32) => [(0, .ref a0), (1, .int a1)])) (es := (fun (e3 : Int32) => [.int e3, .ref a0])) ?_ (fun e3 h4 => ?_)
  · refine zg_icmp_eq d_X8_sign_14 ?_ ?_
    · refine zg_iconst 3 rfl d_X8_sign_71 ?_
      refine zg_goto d_X8_sign_72 ?_
      exact zg_finK (E := 0) [0, 1] rfl rfl (fun q => q)
    · refine zg_iload_n 1 rfl d_X8_sign_17 ?_
      refine zg_bipush 40 rfl d_X8_sign_18 ?_
      refine zg_icmp_eq d_X8_sign_20 ?_ ?_
      · refine zg_iconst 3 rfl d_X8_sign_71 ?_
        refine zg_goto d_X8_sign_72 ?_
        exact zg_finK (E := 0) [0, 1] rfl rfl (fun q => q)
      · refine zg_iload_n 1 rfl d_X8_sign_23 ?_
        refine zg_bipush 41 rfl d_X8_sign_24 ?_
        refine zg_icmp_eq d_X8_sign_26 ?_ ?_
        · refine zg_iconst 3 rfl d_X8_sign_71 ?_
          refine zg_goto d_X8_sign_72 ?_
          exact zg_finK (E := 0) [0, 1] rfl rfl (fun q => q)
        · refine zg_iload_n 1 rfl d_X8_sign_29 ?_
          refine zg_bipush 43 rfl d_X8_sign_30 ?_
          refine zg_icmp_eq d_X8_sign_32 ?_ ?_
          · refine zg_iconst 3 rfl d_X8_sign_71 ?_
            refine zg_goto d_X8_sign_72 ?_
            exact zg_finK (E := 0) [0, 1] rfl rfl (fun q => q)
          · refine zg_iload_n 1 rfl d_X8_sign_35 ?_
            refine zg_bipush 45 rfl d_X8_sign_36 ?_
            refine zg_icmp_eq d_X8_sign_38 ?_ ?_
            · refine zg_iconst 3 rfl d_X8_sign_71 ?_
              refine zg_goto d_X8_sign_72 ?_
              exact zg_finK (E := 0) [0, 1] rfl rfl (fun q => q)
            · refine zg_iload_n 1 rfl d_X8_sign_41 ?_
              refine zg_bipush 42 rfl d_X8_sign_42 ?_
              refine zg_icmp_eq d_X8_sign_44 ?_ ?_
              · refine zg_iconst 3 rfl d_X8_sign_71 ?_
                refine zg_goto d_X8_sign_72 ?_
                exact zg_finK (E := 0) [0, 1] rfl rfl (fun q => q)
              · refine zg_iload_n 1 rfl d_X8_sign_47 ?_
                refine zg_bipush 47 rfl d_X8_sign_48 ?_
                refine zg_icmp_eq d_X8_sign_50 ?_ ?_
                · refine zg_iconst 3 rfl d_X8_sign_71 ?_
                  refine zg_goto d_X8_sign_72 ?_
                  exact zg_finK (E := 0) [0, 1] rfl rfl (fun q => q)
                · refine zg_iload_n 1 rfl d_X8_sign_53 ?_
                  refine zg_bipush 60 rfl d_X8_sign_54 ?_
                  refine zg_icmp_eq d_X8_sign_56 ?_ ?_
                  · refine zg_iconst 3 rfl d_X8_sign_71 ?_
                    refine zg_goto d_X8_sign_72 ?_
                    exact zg_finK (E := 0) [0, 1] rfl rfl (fun q => q)
                  · refine zg_iload_n 1 rfl d_X8_sign_59 ?_
                    refine zg_bipush 61 rfl d_X8_sign_60 ?_
                    refine zg_icmp_eq d_X8_sign_62 ?_ ?_
                    · refine zg_iconst 3 rfl d_X8_sign_71 ?_
                      refine zg_goto d_X8_sign_72 ?_
                      exact zg_finK (E := 0) [0, 1] rfl rfl (fun q => q)
                    · refine zg_iload_n 1 rfl d_X8_sign_65 ?_
                      refine zg_bipush 62 rfl d_X8_sign_66 ?_
                      refine zg_icmp_ne d_X8_sign_68 ?_ ?_
                      · refine zg_iconst 3 rfl d_X8_sign_71 ?_
                        refine zg_goto d_X8_sign_72 ?_
                        exact zg_finK (E := 0) [0, 1] rfl rfl (fun q => q)
                      · refine zg_iconst 5 rfl d_X8_sign_75 ?_
                        exact zg_finK (E := 0) [0, 1] rfl rfl (fun q => q)
  · refine zg_putV d_X8_sign_76 zc_8 (by decide) fl_X8_170 rfl rfl rfl (fun h5 => ?_)
    refine zg_aload_n 0 rfl d_X8_sign_79 ?_
    refine zg_iload_n 1 rfl d_X8_sign_80 ?_
    refine zg_putV d_X8_sign_81 zc_8 (by decide) fl_X8_180 rfl rfl rfl (fun h6 => ?_)
    refine zg_iload_n 1 rfl d_X8_sign_84 ?_
    refine zg_bipush 60 rfl d_X8_sign_85 ?_
    refine zg_bd (E := 106) (el := (fun (e10 : Unit) => [(0, .ref a0), (1, .int a1)])) (es := (fun (e10 : Unit) => [])) ?_ (fun e10 h11 => ?_)
    · refine zg_icmp_ne d_X8_sign_87 ?_ ?_
      · refine zg_aload_n 0 rfl d_X8_sign_90 ?_
        refine zg_cVi (b := a0) (As := []) (rest := []) (0, 0) d_X8_sign_91 zc_8 rfl cw_X8_163 wi_X8_here ws_X8_here rfl rfl (Nat.le_of_ble_eq_true rfl) (by decide) (by decide) ⟨by decide, by decide⟩ rfl (t_X8_here a0 h6) (fun v8 h7 => ?_)
        refine zg_bipush 61 rfl d_X8_sign_94 ?_
        refine zg_icmp_ne d_X8_sign_96 ?_ ?_
        · refine zg_aload_n 0 rfl d_X8_sign_99 ?_
          refine zg_sipush 256 rfl d_X8_sign_100 ?_
          refine zg_putV d_X8_sign_103 zc_8 (by decide) fl_X8_180 rfl rfl rfl (fun h9 => ?_)
          exact zg_finK (E := 0) [0, 1] rfl rfl (fun q => q)
        · exact zg_finK (E := 0) [0, 1] rfl rfl (fun q => q)
      · exact zg_finK (E := 0) [0, 1] rfl rfl (fun q => q)
    · refine zg_iload_n 1 rfl d_X8_sign_106 ?_
      refine zg_bipush 60 rfl d_X8_sign_107 ?_
      refine zg_bd (E := 128) (el := (fun (e15 : Unit) => [(0, .ref a0), (1, .int a1)])) (es := (fun (e15 : Unit) => [])) ?_ (fun e15 h16 => ?_)
      · refine zg_icmp_ne d_X8_sign_109 ?_ ?_
        · refine zg_aload_n 0 rfl d_X8_sign_112 ?_
          refine zg_cVi (b := a0) (As := []) (rest := []) (0, 0) d_X8_sign_113 zc_8 rfl cw_X8_163 wi_X8_here ws_X8_here rfl rfl (Nat.le_of_ble_eq_true rfl) (by decide) (by decide) ⟨by decide, by decide⟩ rfl (t_X8_here a0 h11) (fun v13 h12 => ?_)
          refine zg_bipush 62 rfl d_X8_sign_116 ?_
          refine zg_icmp_ne d_X8_sign_118 ?_ ?_
          · refine zg_aload_n 0 rfl d_X8_sign_121 ?_
            refine zg_sipush 257 rfl d_X8_sign_122 ?_
            refine zg_putV d_X8_sign_125 zc_8 (by decide) fl_X8_180 rfl rfl rfl (fun h14 => ?_)
            exact zg_finK (E := 0) [0, 1] rfl rfl (fun q => q)
          · exact zg_finK (E := 0) [0, 1] rfl rfl (fun q => q)
        · exact zg_finK (E := 0) [0, 1] rfl rfl (fun q => q)
      · refine zg_iload_n 1 rfl d_X8_sign_128 ?_
        refine zg_bipush 62 rfl d_X8_sign_129 ?_
        refine zg_bd (E := 150) (el := (fun (e20 : Unit) => [(0, .ref a0), (1, .int a1)])) (es := (fun (e20 : Unit) => [])) ?_ (fun e20 h21 => ?_)
        · refine zg_icmp_ne d_X8_sign_131 ?_ ?_
          · refine zg_aload_n 0 rfl d_X8_sign_134 ?_
            refine zg_cVi (b := a0) (As := []) (rest := []) (0, 0) d_X8_sign_135 zc_8 rfl cw_X8_163 wi_X8_here ws_X8_here rfl rfl (Nat.le_of_ble_eq_true rfl) (by decide) (by decide) ⟨by decide, by decide⟩ rfl (t_X8_here a0 h16) (fun v18 h17 => ?_)
            refine zg_bipush 61 rfl d_X8_sign_138 ?_
            refine zg_icmp_ne d_X8_sign_140 ?_ ?_
            · refine zg_aload_n 0 rfl d_X8_sign_143 ?_
              refine zg_sipush 258 rfl d_X8_sign_144 ?_
              refine zg_putV d_X8_sign_147 zc_8 (by decide) fl_X8_180 rfl rfl rfl (fun h19 => ?_)
              exact zg_finK (E := 0) [0, 1] rfl rfl (fun q => q)
            · exact zg_finK (E := 0) [0, 1] rfl rfl (fun q => q)
          · exact zg_finK (E := 0) [0, 1] rfl rfl (fun q => q)
        · refine zg_aload_n 0 rfl d_X8_sign_150 ?_
          refine zg_getI d_X8_sign_151 zc_8 (by decide) fl_X8_180 (fun v22 => ?_)
          refine zg_sipush 256 rfl d_X8_sign_154 ?_
          refine zg_icmp_lt d_X8_sign_157 ?_ ?_
          · exact zg_vretK d_X8_sign_170 rfl ⟨Nat.le_of_ble_eq_true rfl, Nat.le_of_ble_eq_true rfl⟩ (fun q => q)
          · refine zg_aload_n 0 rfl d_X8_sign_160 ?_
            refine zg_dup rfl d_X8_sign_161 ?_
            refine zg_getI d_X8_sign_162 zc_8 (by decide) fl_X8_157 (fun v23 => ?_)
            refine zg_iconst 1 rfl d_X8_sign_165 ?_
            refine zg_iadd d_X8_sign_166 ?_
            refine zg_putV d_X8_sign_167 zc_8 (by decide) fl_X8_157 rfl rfl rfl (fun h24 => ?_)
            exact zg_vretK d_X8_sign_170 rfl ⟨Nat.le_of_ble_eq_true rfl, Nat.le_of_ble_eq_true rfl⟩ (fun q => q)
abbrev M_X8_wrong : zMt := (RX8, cX8_wrong, 2, 1, 60, none, "wrong", 0, 0)
theorem d_X8_wrong_0 : zDc M_X8_wrong 0 (.aload_n 0) 1 1 := ⟨by decide +kernel, rfl⟩
theorem d_X8_wrong_1 : zDc M_X8_wrong 1 (.getfield 205) 3 4 := ⟨by decide +kernel, rfl⟩
theorem d_X8_wrong_4 : zDj M_X8_wrong 4 (.ifCond .eq 4) 4 7 8 := ⟨by decide +kernel, rfl, by decide⟩
theorem d_X8_wrong_7 : zDc M_X8_wrong 7 (.return_) 1 8 := ⟨by decide +kernel, rfl⟩
theorem d_X8_wrong_8 : zDc M_X8_wrong 8 (.aload_n 0) 1 9 := ⟨by decide +kernel, rfl⟩
theorem d_X8_wrong_9 : zDc M_X8_wrong 9 (.iload_n 1) 1 10 := ⟨by decide +kernel, rfl⟩
theorem d_X8_wrong_10 : zDc M_X8_wrong 10 (.putfield 205) 3 13 := ⟨by decide +kernel, rfl⟩
theorem d_X8_wrong_13 : zDc M_X8_wrong 13 (.aload_n 0) 1 14 := ⟨by decide +kernel, rfl⟩
theorem d_X8_wrong_14 : zDc M_X8_wrong 14 (.aload_n 0) 1 15 := ⟨by decide +kernel, rfl⟩
theorem d_X8_wrong_15 : zDc M_X8_wrong 15 (.getfield 167) 3 18 := ⟨by decide +kernel, rfl⟩
theorem d_X8_wrong_18 : zDc M_X8_wrong 18 (.putfield 208) 3 21 := ⟨by decide +kernel, rfl⟩
theorem d_X8_wrong_21 : zDc M_X8_wrong 21 (.return_) 1 22 := ⟨by decide +kernel, rfl⟩
def f_X8_wrong (a0 : Nat) (a1 : Int32) (h0 : zHp) : Option (Unit × zHp) :=
  zob (zgI h0 a0 8 27) (fun v1 =>
  if v1 = 0 then
  zob (zpV h0 a0 8 27 (.int a1)) (fun h2 =>
  zob (zgI h2 a0 8 24) (fun v3 =>
  zob (zpV h2 a0 8 28 (.int v3)) (fun h4 =>
  some ((), h4))))
  else
  some ((), h0))
set_option maxRecDepth 100000 in
set_option maxHeartbeats 4000000 in
theorem t_X8_wrong (a0 : Nat) (a1 : Int32) (h0 : zHp) : ∀ (r : Unit) (h' : zHp), f_X8_wrong a0 a1 h0 = some (r, h') → zCt yX8_wrong (.code yX8_wrong cX8_wrong 2 none) 1 60 0 0 [.ref a0, .int a1] h0 (none) h' := by
  refine zct_of M_X8_wrong yX8_wrong (by decide) rfl rfl [.ref a0, .int a1] h0 (Nat.le_of_ble_eq_true rfl) (fun _ => none) (fun X => ?_)
  show zG X M_X8_wrong (0, 0) 0 [(0, .ref a0), (1, .int a1)] [] h0 (f_X8_wrong a0 a1 h0) (fun (_ : Unit) h' => zKe X (none) h')
  unfold f_X8_wrong
  refine zg_aload_n 0 rfl d_X8_wrong_0 ?_
  refine zg_getI d_X8_wrong_1 zc_8 (by decide) fl_X8_205 (fun v1 => ?_)
  refine zg_if_eq d_X8_wrong_4 ?_ ?_
  · refine zg_aload_n 0 rfl d_X8_wrong_8 ?_
    refine zg_iload_n 1 rfl d_X8_wrong_9 ?_
    refine zg_putV d_X8_wrong_10 zc_8 (by decide) fl_X8_205 rfl rfl rfl (fun h2 => ?_)
    refine zg_aload_n 0 rfl d_X8_wrong_13 ?_
    refine zg_aload_n 0 rfl d_X8_wrong_14 ?_
    refine zg_getI d_X8_wrong_15 zc_8 (by decide) fl_X8_167 (fun v3 => ?_)
    refine zg_putV d_X8_wrong_18 zc_8 (by decide) fl_X8_208 rfl rfl rfl (fun h4 => ?_)
    exact zg_vretK d_X8_wrong_21 rfl ⟨Nat.le_of_ble_eq_true rfl, Nat.le_of_ble_eq_true rfl⟩ (fun q => q)
  · exact zg_vretK d_X8_wrong_7 rfl ⟨Nat.le_of_ble_eq_true rfl, Nat.le_of_ble_eq_true rfl⟩ (fun q => q)
abbrev M_X8_isField : zMt := (RX8, cX8_isField, 2, 1, 60, (some .boolean), "isField", 0, 0)
theorem d_X8_isField_0 : zDc M_X8_isField 0 (.iload_n 1) 1 1 := ⟨by decide +kernel, rfl⟩
theorem d_X8_isField_1 : zDj M_X8_isField 1 (.ifCond .lt 17) 17 4 18 := ⟨by decide +kernel, rfl, by decide⟩
theorem d_X8_isField_4 : zDc M_X8_isField 4 (.iload_n 1) 1 5 := ⟨by decide +kernel, rfl⟩
theorem d_X8_isField_5 : zDc M_X8_isField 5 (.aload_n 0) 1 6 := ⟨by decide +kernel, rfl⟩
theorem d_X8_isField_6 : zDc M_X8_isField 6 (.getfield 13) 3 9 := ⟨by decide +kernel, rfl⟩
theorem d_X8_isField_9 : zDc M_X8_isField 9 (.iconst 0) 1 10 := ⟨by decide +kernel, rfl⟩
theorem d_X8_isField_10 : zDc M_X8_isField 10 (.iaload) 1 11 := ⟨by decide +kernel, rfl⟩
theorem d_X8_isField_11 : zDj M_X8_isField 11 (.if_icmp .ge 7) 7 14 18 := ⟨by decide +kernel, rfl, by decide⟩
theorem d_X8_isField_14 : zDc M_X8_isField 14 (.iconst 1) 1 15 := ⟨by decide +kernel, rfl⟩
theorem d_X8_isField_15 : zDj M_X8_isField 15 (.goto 4) 4 18 19 := ⟨by decide +kernel, rfl, by decide⟩
theorem d_X8_isField_18 : zDc M_X8_isField 18 (.iconst 0) 1 19 := ⟨by decide +kernel, rfl⟩
theorem d_X8_isField_19 : zDc M_X8_isField 19 (.ireturn) 1 20 := ⟨by decide +kernel, rfl⟩
def f_X8_isField (a0 : Nat) (a1 : Int32) (h0 : zHp) : Option (Int32 × zHp) :=
  if a1 < 0 then
  some (0, h0)
  else
  zob (zgR h0 a0 8 3) (fun v1 =>
  zob (zaI 0 h0 v1 0) (fun v2 =>
  if v2 ≤ a1 then
  some (0, h0)
  else
  some (1, h0)))
set_option maxRecDepth 100000 in
set_option maxHeartbeats 4000000 in
theorem t_X8_isField (a0 : Nat) (a1 : Int32) (h0 : zHp) : ∀ (r : Int32) (h' : zHp), f_X8_isField a0 a1 h0 = some (r, h') → zCt yX8_isField (.code yX8_isField cX8_isField 2 (some .boolean)) 1 60 0 0 [.ref a0, .int a1] h0 (some (.int r)) h' := by
  refine zct_of M_X8_isField yX8_isField (by decide) rfl rfl [.ref a0, .int a1] h0 (Nat.le_of_ble_eq_true rfl) (fun r => some (.int r)) (fun X => ?_)
  show zG X M_X8_isField (0, 0) 0 [(0, .ref a0), (1, .int a1)] [] h0 (f_X8_isField a0 a1 h0) (fun (r : Int32) h' => zKe X (some (.int r)) h')
  unfold f_X8_isField
  refine zg_iload_n 1 rfl d_X8_isField_0 ?_
  refine zg_if_lt d_X8_isField_1 ?_ ?_
  · refine zg_iconst 0 rfl d_X8_isField_18 ?_
    exact zg_zretK d_X8_isField_19 rfl ⟨Nat.le_of_ble_eq_true rfl, Nat.le_of_ble_eq_true rfl⟩ (Or.inl rfl) (fun q => q)
  · refine zg_iload_n 1 rfl d_X8_isField_4 ?_
    refine zg_aload_n 0 rfl d_X8_isField_5 ?_
    refine zg_getR d_X8_isField_6 zc_8 (by decide) fl_X8_13 (fun v1 => ?_)
    refine zg_iconst 0 rfl d_X8_isField_9 ?_
    refine zg_ald0 d_X8_isField_10 (fun v2 => ?_)
    refine zg_icmp_ge d_X8_isField_11 ?_ ?_
    · refine zg_iconst 0 rfl d_X8_isField_18 ?_
      exact zg_zretK d_X8_isField_19 rfl ⟨Nat.le_of_ble_eq_true rfl, Nat.le_of_ble_eq_true rfl⟩ (Or.inl rfl) (fun q => q)
    · refine zg_iconst 1 rfl d_X8_isField_14 ?_
      refine zg_goto d_X8_isField_15 ?_
      exact zg_zretK d_X8_isField_19 rfl ⟨Nat.le_of_ble_eq_true rfl, Nat.le_of_ble_eq_true rfl⟩ (Or.inr rfl) (fun q => q)
abbrev M_X8_rainBy : zMt := (RX8, cX8_rainBy, 5, 1, 60, (some .int), "rainBy", 0, 0)
theorem d_X8_rainBy_0 : zDc M_X8_rainBy 0 (.iconst 0) 1 1 := ⟨by decide +kernel, rfl⟩
theorem d_X8_rainBy_1 : zDc M_X8_rainBy 1 (.istore_n 3) 1 2 := ⟨by decide +kernel, rfl⟩
theorem d_X8_rainBy_2 : zDc M_X8_rainBy 2 (.iconst 0) 1 3 := ⟨by decide +kernel, rfl⟩
theorem d_X8_rainBy_3 : zDc M_X8_rainBy 3 (.istore 4) 2 5 := ⟨by decide +kernel, rfl⟩
theorem d_X8_rainBy_5 : zDc M_X8_rainBy 5 (.iload 4) 2 7 := ⟨by decide +kernel, rfl⟩
theorem d_X8_rainBy_7 : zDc M_X8_rainBy 7 (.aload_n 0) 1 8 := ⟨by decide +kernel, rfl⟩
theorem d_X8_rainBy_8 : zDc M_X8_rainBy 8 (.getfield 13) 3 11 := ⟨by decide +kernel, rfl⟩
theorem d_X8_rainBy_11 : zDc M_X8_rainBy 11 (.iconst 0) 1 12 := ⟨by decide +kernel, rfl⟩
theorem d_X8_rainBy_12 : zDc M_X8_rainBy 12 (.iaload) 1 13 := ⟨by decide +kernel, rfl⟩
theorem d_X8_rainBy_13 : zDj M_X8_rainBy 13 (.if_icmp .ge 29) 29 16 42 := ⟨by decide +kernel, rfl, by decide⟩
theorem d_X8_rainBy_16 : zDc M_X8_rainBy 16 (.iload_n 3) 1 17 := ⟨by decide +kernel, rfl⟩
theorem d_X8_rainBy_17 : zDc M_X8_rainBy 17 (.aload_n 0) 1 18 := ⟨by decide +kernel, rfl⟩
theorem d_X8_rainBy_18 : zDc M_X8_rainBy 18 (.getfield 105) 3 21 := ⟨by decide +kernel, rfl⟩
theorem d_X8_rainBy_21 : zDc M_X8_rainBy 21 (.bipush 35) 2 23 := ⟨by decide +kernel, rfl⟩
theorem d_X8_rainBy_23 : zDc M_X8_rainBy 23 (.iload_n 1) 1 24 := ⟨by decide +kernel, rfl⟩
theorem d_X8_rainBy_24 : zDc M_X8_rainBy 24 (.imul) 1 25 := ⟨by decide +kernel, rfl⟩
theorem d_X8_rainBy_25 : zDc M_X8_rainBy 25 (.bipush 7) 2 27 := ⟨by decide +kernel, rfl⟩
theorem d_X8_rainBy_27 : zDc M_X8_rainBy 27 (.iload 4) 2 29 := ⟨by decide +kernel, rfl⟩
theorem d_X8_rainBy_29 : zDc M_X8_rainBy 29 (.imul) 1 30 := ⟨by decide +kernel, rfl⟩
theorem d_X8_rainBy_30 : zDc M_X8_rainBy 30 (.iadd) 1 31 := ⟨by decide +kernel, rfl⟩
theorem d_X8_rainBy_31 : zDc M_X8_rainBy 31 (.iload_n 2) 1 32 := ⟨by decide +kernel, rfl⟩
theorem d_X8_rainBy_32 : zDc M_X8_rainBy 32 (.iadd) 1 33 := ⟨by decide +kernel, rfl⟩
theorem d_X8_rainBy_33 : zDc M_X8_rainBy 33 (.iaload) 1 34 := ⟨by decide +kernel, rfl⟩
theorem d_X8_rainBy_34 : zDc M_X8_rainBy 34 (.iadd) 1 35 := ⟨by decide +kernel, rfl⟩
theorem d_X8_rainBy_35 : zDc M_X8_rainBy 35 (.istore_n 3) 1 36 := ⟨by decide +kernel, rfl⟩
theorem d_X8_rainBy_36 : zDc M_X8_rainBy 36 (.iinc 4 1) 3 39 := ⟨by decide +kernel, rfl⟩
theorem d_X8_rainBy_39 : zDj M_X8_rainBy 39 (.goto (-34)) (-34) 42 5 := ⟨by decide +kernel, rfl, by decide⟩
theorem d_X8_rainBy_42 : zDc M_X8_rainBy 42 (.iload_n 3) 1 43 := ⟨by decide +kernel, rfl⟩
theorem d_X8_rainBy_43 : zDc M_X8_rainBy 43 (.ireturn) 1 44 := ⟨by decide +kernel, rfl⟩
def f_X8_rainBy (a0 : Nat) (a1 : Int32) (a2 : Int32) (h0 : zHp) : Option (Int32 × zHp) :=
  zbd (
  zlp (σ := (Int32 × Int32)) (β := (Int32 × Int32)) zLF (fun s1 h2 =>
  zob (zgR h2 a0 8 3) (fun v5 =>
  zob (zaI 0 h2 v5 0) (fun v6 =>
  if v6 ≤ s1.2 then
  some ((.inr (s1.1, s1.2)), h2)
  else
  zob (zgR h2 a0 8 46) (fun v7 =>
  zob (zaI 0 h2 v7 (((35 * a1) + (7 * s1.2)) + a2)) (fun v8 =>
  some ((.inl ((s1.1 + v8), (s1.2 + 1))), h2)))))) (0, 0) h0) (fun e3 h4 =>
  some (e3.1, h4))
set_option maxRecDepth 100000 in
set_option maxHeartbeats 4000000 in
theorem t_X8_rainBy (a0 : Nat) (a1 : Int32) (a2 : Int32) (h0 : zHp) : ∀ (r : Int32) (h' : zHp), f_X8_rainBy a0 a1 a2 h0 = some (r, h') → zCt yX8_rainBy (.code yX8_rainBy cX8_rainBy 5 (some .int)) 1 60 0 0 [.ref a0, .int a1, .int a2] h0 (some (.int r)) h' := by
  refine zct_of M_X8_rainBy yX8_rainBy (by decide) rfl rfl [.ref a0, .int a1, .int a2] h0 (Nat.le_of_ble_eq_true rfl) (fun r => some (.int r)) (fun X => ?_)
  show zG X M_X8_rainBy (0, 0) 0 [(0, .ref a0), (1, .int a1), (2, .int a2)] [] h0 (f_X8_rainBy a0 a1 a2 h0) (fun (r : Int32) h' => zKe X (some (.int r)) h')
  unfold f_X8_rainBy
  refine zg_iconst 0 rfl d_X8_rainBy_0 ?_
  refine zg_istore_n [(3, .int 0), (0, .ref a0), (1, .int a1), (2, .int a2)] d_X8_rainBy_1 rfl (by decide) rfl ?_
  refine zg_iconst 0 rfl d_X8_rainBy_2 ?_
  refine zg_istore [(4, .int 0), (3, .int 0), (0, .ref a0), (1, .int a1), (2, .int a2)] d_X8_rainBy_3 (by decide) rfl ?_
  refine zg_bd (E := 42) (el := (fun (e3 : (Int32 × Int32)) => [(0, .ref a0), (1, .int a1), (2, .int a2), (3, .int e3.1), (4, .int e3.2)])) (es := fun _ => []) (zg_sub [2, 3, 4, 1, 0] rfl (zg_lp (el := (fun (s1 : (Int32 × Int32)) => [(0, .ref a0), (1, .int a1), (2, .int a2), (3, .int s1.1), (4, .int s1.2)])) (fun s1 h2 => ?_) (0, 0) h0)) (fun e3 h4 => ?_)
  · refine zg_iload 4 rfl d_X8_rainBy_5 ?_
    refine zg_aload_n 0 rfl d_X8_rainBy_7 ?_
    refine zg_getR d_X8_rainBy_8 zc_8 (by decide) fl_X8_13 (fun v5 => ?_)
    refine zg_iconst 0 rfl d_X8_rainBy_11 ?_
    refine zg_ald0 d_X8_rainBy_12 (fun v6 => ?_)
    refine zg_icmp_ge d_X8_rainBy_13 ?_ ?_
    · exact zg_finK (E := 0) [0, 1, 2, 3, 4] rfl rfl (fun q => q)
    · refine zg_iload_n 3 rfl d_X8_rainBy_16 ?_
      refine zg_aload_n 0 rfl d_X8_rainBy_17 ?_
      refine zg_getR d_X8_rainBy_18 zc_8 (by decide) fl_X8_105 (fun v7 => ?_)
      refine zg_bipush 35 rfl d_X8_rainBy_21 ?_
      refine zg_iload_n 1 rfl d_X8_rainBy_23 ?_
      refine zg_imul d_X8_rainBy_24 ?_
      refine zg_bipush 7 rfl d_X8_rainBy_25 ?_
      refine zg_iload 4 rfl d_X8_rainBy_27 ?_
      refine zg_imul d_X8_rainBy_29 ?_
      refine zg_iadd d_X8_rainBy_30 ?_
      refine zg_iload_n 2 rfl d_X8_rainBy_31 ?_
      refine zg_iadd d_X8_rainBy_32 ?_
      refine zg_ald0 d_X8_rainBy_33 (fun v8 => ?_)
      refine zg_iadd d_X8_rainBy_34 ?_
      refine zg_istore_n [(3, .int (s1.1 + v8)), (0, .ref a0), (1, .int a1), (2, .int a2), (4, .int s1.2)] d_X8_rainBy_35 rfl (by decide) rfl ?_
      refine zg_iinc 4 (s1.2 + 1) [(4, .int (s1.2 + 1)), (3, .int (s1.1 + v8)), (0, .ref a0), (1, .int a1), (2, .int a2)] d_X8_rainBy_36 rfl rfl (by decide) rfl ?_
      refine zg_goto d_X8_rainBy_39 ?_
      exact zg_finK (E := 0) [2, 3, 4, 1, 0] rfl rfl (fun q => q)
  · refine zg_iload_n 3 rfl d_X8_rainBy_42 ?_
    exact zg_iretK d_X8_rainBy_43 rfl ⟨Nat.le_of_ble_eq_true rfl, Nat.le_of_ble_eq_true rfl⟩ (fun q => q)
abbrev M_X8_child : zMt := (RX8, cX8_child, 3, 3, 106, (some .int), "child", 0, 0)
theorem d_X8_child_0 : zDc M_X8_child 0 (.aload_n 0) 1 1 := ⟨by decide +kernel, rfl⟩
theorem d_X8_child_1 : zDc M_X8_child 1 (.iconst 0) 1 2 := ⟨by decide +kernel, rfl⟩
theorem d_X8_child_2 : zDc M_X8_child 2 (.putfield 151) 3 5 := ⟨by decide +kernel, rfl⟩
theorem d_X8_child_5 : zDc M_X8_child 5 (.aload_n 0) 1 6 := ⟨by decide +kernel, rfl⟩
theorem d_X8_child_6 : zDc M_X8_child 6 (.iload_n 1) 1 7 := ⟨by decide +kernel, rfl⟩
theorem d_X8_child_7 : zDc M_X8_child 7 (.invokevirtual 425) 3 10 := ⟨by decide +kernel, rfl⟩
theorem d_X8_child_10 : zDj M_X8_child 10 (.ifCond .ne 5) 5 13 15 := ⟨by decide +kernel, rfl, by decide⟩
theorem d_X8_child_13 : zDc M_X8_child 13 (.iconst (-1)) 1 14 := ⟨by decide +kernel, rfl⟩
theorem d_X8_child_14 : zDc M_X8_child 14 (.ireturn) 1 15 := ⟨by decide +kernel, rfl⟩
theorem d_X8_child_15 : zDc M_X8_child 15 (.iload_n 2) 1 16 := ⟨by decide +kernel, rfl⟩
theorem d_X8_child_16 : decode M_X8_child.2.1 16 = .ok (.tableswitch 88 0 5 #[40, 50, 60, 67, 74, 81], 40) := by decide +kernel
theorem d_X8_child_56 : zDc M_X8_child 56 (.aload_n 0) 1 57 := ⟨by decide +kernel, rfl⟩
theorem d_X8_child_57 : zDc M_X8_child 57 (.getfield 96) 3 60 := ⟨by decide +kernel, rfl⟩
theorem d_X8_child_60 : zDc M_X8_child 60 (.iload_n 1) 1 61 := ⟨by decide +kernel, rfl⟩
theorem d_X8_child_61 : zDc M_X8_child 61 (.iaload) 1 62 := ⟨by decide +kernel, rfl⟩
theorem d_X8_child_62 : zDc M_X8_child 62 (.bipush 6) 2 64 := ⟨by decide +kernel, rfl⟩
theorem d_X8_child_64 : zDc M_X8_child 64 (.irem) 1 65 := ⟨by decide +kernel, rfl⟩
theorem d_X8_child_65 : zDc M_X8_child 65 (.ireturn) 1 66 := ⟨by decide +kernel, rfl⟩
theorem d_X8_child_66 : zDc M_X8_child 66 (.aload_n 0) 1 67 := ⟨by decide +kernel, rfl⟩
theorem d_X8_child_67 : zDc M_X8_child 67 (.getfield 96) 3 70 := ⟨by decide +kernel, rfl⟩
theorem d_X8_child_70 : zDc M_X8_child 70 (.iload_n 1) 1 71 := ⟨by decide +kernel, rfl⟩
theorem d_X8_child_71 : zDc M_X8_child 71 (.iaload) 1 72 := ⟨by decide +kernel, rfl⟩
theorem d_X8_child_72 : zDc M_X8_child 72 (.bipush 6) 2 74 := ⟨by decide +kernel, rfl⟩
theorem d_X8_child_74 : zDc M_X8_child 74 (.idiv) 1 75 := ⟨by decide +kernel, rfl⟩
theorem d_X8_child_75 : zDc M_X8_child 75 (.ireturn) 1 76 := ⟨by decide +kernel, rfl⟩
theorem d_X8_child_76 : zDc M_X8_child 76 (.aload_n 0) 1 77 := ⟨by decide +kernel, rfl⟩
theorem d_X8_child_77 : zDc M_X8_child 77 (.getfield 46) 3 80 := ⟨by decide +kernel, rfl⟩
theorem d_X8_child_80 : zDc M_X8_child 80 (.iload_n 1) 1 81 := ⟨by decide +kernel, rfl⟩
theorem d_X8_child_81 : zDc M_X8_child 81 (.iaload) 1 82 := ⟨by decide +kernel, rfl⟩
theorem d_X8_child_82 : zDc M_X8_child 82 (.ireturn) 1 83 := ⟨by decide +kernel, rfl⟩
theorem d_X8_child_83 : zDc M_X8_child 83 (.aload_n 0) 1 84 := ⟨by decide +kernel, rfl⟩
theorem d_X8_child_84 : zDc M_X8_child 84 (.getfield 99) 3 87 := ⟨by decide +kernel, rfl⟩
theorem d_X8_child_87 : zDc M_X8_child 87 (.iload_n 1) 1 88 := ⟨by decide +kernel, rfl⟩
theorem d_X8_child_88 : zDc M_X8_child 88 (.iaload) 1 89 := ⟨by decide +kernel, rfl⟩
theorem d_X8_child_89 : zDc M_X8_child 89 (.ireturn) 1 90 := ⟨by decide +kernel, rfl⟩
theorem d_X8_child_90 : zDc M_X8_child 90 (.aload_n 0) 1 91 := ⟨by decide +kernel, rfl⟩
theorem d_X8_child_91 : zDc M_X8_child 91 (.iconst 0) 1 92 := ⟨by decide +kernel, rfl⟩
theorem d_X8_child_92 : zDc M_X8_child 92 (.iload_n 1) 1 93 := ⟨by decide +kernel, rfl⟩
theorem d_X8_child_93 : zDc M_X8_child 93 (.invokevirtual 394) 3 96 := ⟨by decide +kernel, rfl⟩
theorem d_X8_child_96 : zDc M_X8_child 96 (.ireturn) 1 97 := ⟨by decide +kernel, rfl⟩
theorem d_X8_child_97 : zDc M_X8_child 97 (.aload_n 0) 1 98 := ⟨by decide +kernel, rfl⟩
theorem d_X8_child_98 : zDc M_X8_child 98 (.iconst 0) 1 99 := ⟨by decide +kernel, rfl⟩
theorem d_X8_child_99 : zDc M_X8_child 99 (.iload_n 1) 1 100 := ⟨by decide +kernel, rfl⟩
theorem d_X8_child_100 : zDc M_X8_child 100 (.invokevirtual 428) 3 103 := ⟨by decide +kernel, rfl⟩
theorem d_X8_child_103 : zDc M_X8_child 103 (.ireturn) 1 104 := ⟨by decide +kernel, rfl⟩
theorem d_X8_child_104 : zDc M_X8_child 104 (.iconst (-1)) 1 105 := ⟨by decide +kernel, rfl⟩
theorem d_X8_child_105 : zDc M_X8_child 105 (.ireturn) 1 106 := ⟨by decide +kernel, rfl⟩
def f_X8_child (a0 : Nat) (a1 : Int32) (a2 : Int32) (h0 : zHp) : Option (Int32 × zHp) :=
  zob (zpV h0 a0 8 0 (.int 0)) (fun h1 =>
  zbd (zcv 8 a0 h1 (f_X8_isChild a0 a1 h1)) (fun v3 h2 =>
  if v3 = 0 then
  some ((-1), h2)
  else
  if a2 = 0 then
  zob (zgR h2 a0 8 43) (fun v4 =>
  zob (zaI 0 h2 v4 a1) (fun v5 =>
  some ((zrm v5 6), h2)))
  else if a2 = 1 then
  zob (zgR h2 a0 8 43) (fun v6 =>
  zob (zaI 0 h2 v6 a1) (fun v7 =>
  some ((v7 / 6), h2)))
  else if a2 = 2 then
  zob (zgR h2 a0 8 14) (fun v8 =>
  zob (zaI 0 h2 v8 a1) (fun v9 =>
  some (v9, h2)))
  else if a2 = 3 then
  zob (zgR h2 a0 8 44) (fun v10 =>
  zob (zaI 0 h2 v10 a1) (fun v11 =>
  some (v11, h2)))
  else if a2 = 4 then
  zbd (zcv 8 a0 h2 (f_X8_ownUp a0 0 a1 h2)) (fun v13 h12 =>
  some (v13, h12))
  else if a2 = 5 then
  zbd (zcv 8 a0 h2 (f_X8_rainBy a0 0 a1 h2)) (fun v15 h14 =>
  some (v15, h14))
  else 
  some ((-1), h2)))
set_option maxRecDepth 100000 in
set_option maxHeartbeats 4000000 in
theorem t_X8_child (a0 : Nat) (a1 : Int32) (a2 : Int32) (h0 : zHp) : ∀ (r : Int32) (h' : zHp), f_X8_child a0 a1 a2 h0 = some (r, h') → zCt yX8_child (.code yX8_child cX8_child 3 (some .int)) 3 106 0 0 [.ref a0, .int a1, .int a2] h0 (some (.int r)) h' := by
  refine zct_of M_X8_child yX8_child (by decide) rfl rfl [.ref a0, .int a1, .int a2] h0 (Nat.le_of_ble_eq_true rfl) (fun r => some (.int r)) (fun X => ?_)
  show zG X M_X8_child (0, 0) 0 [(0, .ref a0), (1, .int a1), (2, .int a2)] [] h0 (f_X8_child a0 a1 a2 h0) (fun (r : Int32) h' => zKe X (some (.int r)) h')
  unfold f_X8_child
  refine zg_aload_n 0 rfl d_X8_child_0 ?_
  refine zg_iconst 0 rfl d_X8_child_1 ?_
  refine zg_putV d_X8_child_2 zc_8 (by decide) fl_X8_151 rfl rfl rfl (fun h1 => ?_)
  refine zg_aload_n 0 rfl d_X8_child_5 ?_
  refine zg_iload_n 1 rfl d_X8_child_6 ?_
  refine zg_cVi (b := a0) (As := [.int a1]) (rest := []) (0, 0) d_X8_child_7 zc_8 rfl cw_X8_425 wi_X8_isChild ws_X8_isChild rfl rfl (Nat.le_of_ble_eq_true rfl) (by decide) (by decide) ⟨by decide, by decide⟩ rfl (t_X8_isChild a0 a1 h1) (fun v3 h2 => ?_)
  refine zg_if_ne d_X8_child_10 ?_ ?_
  · refine zg_iconst (-1) rfl d_X8_child_13 ?_
    exact zg_iretK d_X8_child_14 rfl ⟨Nat.le_of_ble_eq_true rfl, Nat.le_of_ble_eq_true rfl⟩ (fun q => q)
  · refine zg_iload_n 2 rfl d_X8_child_15 ?_
    refine zg_if (fun n16 => ?_) (fun n16 => ?_)
    · refine zg_tabE n16 d_X8_child_16 (by decide) (by decide) (off := 40) rfl (tgt := 56) (by decide) ?_
      refine zg_aload_n 0 rfl d_X8_child_56 ?_
      refine zg_getR d_X8_child_57 zc_8 (by decide) fl_X8_96 (fun v4 => ?_)
      refine zg_iload_n 1 rfl d_X8_child_60 ?_
      refine zg_ald0 d_X8_child_61 (fun v5 => ?_)
      refine zg_bipush 6 rfl d_X8_child_62 ?_
      refine zg_irem (by decide) d_X8_child_64 ?_
      exact zg_iretK d_X8_child_65 rfl ⟨Nat.le_of_ble_eq_true rfl, Nat.le_of_ble_eq_true rfl⟩ (fun q => q)
    refine zg_if (fun n17 => ?_) (fun n17 => ?_)
    · refine zg_tabE n17 d_X8_child_16 (by decide) (by decide) (off := 50) rfl (tgt := 66) (by decide) ?_
      refine zg_aload_n 0 rfl d_X8_child_66 ?_
      refine zg_getR d_X8_child_67 zc_8 (by decide) fl_X8_96 (fun v6 => ?_)
      refine zg_iload_n 1 rfl d_X8_child_70 ?_
      refine zg_ald0 d_X8_child_71 (fun v7 => ?_)
      refine zg_bipush 6 rfl d_X8_child_72 ?_
      refine zg_idiv (by decide) d_X8_child_74 ?_
      exact zg_iretK d_X8_child_75 rfl ⟨Nat.le_of_ble_eq_true rfl, Nat.le_of_ble_eq_true rfl⟩ (fun q => q)
    refine zg_if (fun n18 => ?_) (fun n18 => ?_)
    · refine zg_tabE n18 d_X8_child_16 (by decide) (by decide) (off := 60) rfl (tgt := 76) (by decide) ?_
      refine zg_aload_n 0 rfl d_X8_child_76 ?_
      refine zg_getR d_X8_child_77 zc_8 (by decide) fl_X8_46 (fun v8 => ?_)
      refine zg_iload_n 1 rfl d_X8_child_80 ?_
      refine zg_ald0 d_X8_child_81 (fun v9 => ?_)
      exact zg_iretK d_X8_child_82 rfl ⟨Nat.le_of_ble_eq_true rfl, Nat.le_of_ble_eq_true rfl⟩ (fun q => q)
    refine zg_if (fun n19 => ?_) (fun n19 => ?_)
    · refine zg_tabE n19 d_X8_child_16 (by decide) (by decide) (off := 67) rfl (tgt := 83) (by decide) ?_
      refine zg_aload_n 0 rfl d_X8_child_83 ?_
      refine zg_getR d_X8_child_84 zc_8 (by decide) fl_X8_99 (fun v10 => ?_)
      refine zg_iload_n 1 rfl d_X8_child_87 ?_
      refine zg_ald0 d_X8_child_88 (fun v11 => ?_)
      exact zg_iretK d_X8_child_89 rfl ⟨Nat.le_of_ble_eq_true rfl, Nat.le_of_ble_eq_true rfl⟩ (fun q => q)
    refine zg_if (fun n20 => ?_) (fun n20 => ?_)
    · refine zg_tabE n20 d_X8_child_16 (by decide) (by decide) (off := 74) rfl (tgt := 90) (by decide) ?_
      refine zg_aload_n 0 rfl d_X8_child_90 ?_
      refine zg_iconst 0 rfl d_X8_child_91 ?_
      refine zg_iload_n 1 rfl d_X8_child_92 ?_
      refine zg_cVi (b := a0) (As := [.int 0, .int a1]) (rest := []) (0, 0) d_X8_child_93 zc_8 rfl cw_X8_394 wi_X8_ownUp ws_X8_ownUp rfl rfl (Nat.le_of_ble_eq_true rfl) (by decide) (by decide) ⟨by decide, by decide⟩ rfl (t_X8_ownUp a0 0 a1 h2) (fun v13 h12 => ?_)
      exact zg_iretK d_X8_child_96 rfl ⟨Nat.le_of_ble_eq_true rfl, Nat.le_of_ble_eq_true rfl⟩ (fun q => q)
    refine zg_if (fun n21 => ?_) (fun n21 => ?_)
    · refine zg_tabE n21 d_X8_child_16 (by decide) (by decide) (off := 81) rfl (tgt := 97) (by decide) ?_
      refine zg_aload_n 0 rfl d_X8_child_97 ?_
      refine zg_iconst 0 rfl d_X8_child_98 ?_
      refine zg_iload_n 1 rfl d_X8_child_99 ?_
      refine zg_cVi (b := a0) (As := [.int 0, .int a1]) (rest := []) (0, 0) d_X8_child_100 zc_8 rfl cw_X8_428 wi_X8_rainBy ws_X8_rainBy rfl rfl (Nat.le_of_ble_eq_true rfl) (by decide) (by decide) ⟨by decide, by decide⟩ rfl (t_X8_rainBy a0 0 a1 h2) (fun v15 h14 => ?_)
      exact zg_iretK d_X8_child_103 rfl ⟨Nat.le_of_ble_eq_true rfl, Nat.le_of_ble_eq_true rfl⟩ (fun q => q)
    refine zg_tabO d_X8_child_16 (by have q0 := lv_neT n16 (a := 0) rfl; have q1 := lv_neT n17 (a := 1) rfl; have q2 := lv_neT n18 (a := 2) rfl; have q3 := lv_neT n19 (a := 3) rfl; have q4 := lv_neT n20 (a := 4) rfl; have q5 := lv_neT n21 (a := 5) rfl; omega) (tgt := 104) (by decide) ?_
    refine zg_iconst (-1) rfl d_X8_child_104 ?_
    exact zg_iretK d_X8_child_105 rfl ⟨Nat.le_of_ble_eq_true rfl, Nat.le_of_ble_eq_true rfl⟩ (fun q => q)
abbrev M_X8_isCloud : zMt := (RX8, cX8_isCloud, 2, 1, 60, (some .boolean), "isCloud", 0, 0)
theorem d_X8_isCloud_0 : zDc M_X8_isCloud 0 (.iload_n 1) 1 1 := ⟨by decide +kernel, rfl⟩
theorem d_X8_isCloud_1 : zDj M_X8_isCloud 1 (.ifCond .lt 17) 17 4 18 := ⟨by decide +kernel, rfl, by decide⟩
theorem d_X8_isCloud_4 : zDc M_X8_isCloud 4 (.iload_n 1) 1 5 := ⟨by decide +kernel, rfl⟩
theorem d_X8_isCloud_5 : zDc M_X8_isCloud 5 (.aload_n 0) 1 6 := ⟨by decide +kernel, rfl⟩
theorem d_X8_isCloud_6 : zDc M_X8_isCloud 6 (.getfield 13) 3 9 := ⟨by decide +kernel, rfl⟩
theorem d_X8_isCloud_9 : zDc M_X8_isCloud 9 (.iconst 1) 1 10 := ⟨by decide +kernel, rfl⟩
theorem d_X8_isCloud_10 : zDc M_X8_isCloud 10 (.iaload) 1 11 := ⟨by decide +kernel, rfl⟩
theorem d_X8_isCloud_11 : zDj M_X8_isCloud 11 (.if_icmp .ge 7) 7 14 18 := ⟨by decide +kernel, rfl, by decide⟩
theorem d_X8_isCloud_14 : zDc M_X8_isCloud 14 (.iconst 1) 1 15 := ⟨by decide +kernel, rfl⟩
theorem d_X8_isCloud_15 : zDj M_X8_isCloud 15 (.goto 4) 4 18 19 := ⟨by decide +kernel, rfl, by decide⟩
theorem d_X8_isCloud_18 : zDc M_X8_isCloud 18 (.iconst 0) 1 19 := ⟨by decide +kernel, rfl⟩
theorem d_X8_isCloud_19 : zDc M_X8_isCloud 19 (.ireturn) 1 20 := ⟨by decide +kernel, rfl⟩
def f_X8_isCloud (a0 : Nat) (a1 : Int32) (h0 : zHp) : Option (Int32 × zHp) :=
  if a1 < 0 then
  some (0, h0)
  else
  zob (zgR h0 a0 8 3) (fun v1 =>
  zob (zaI 0 h0 v1 1) (fun v2 =>
  if v2 ≤ a1 then
  some (0, h0)
  else
  some (1, h0)))
set_option maxRecDepth 100000 in
set_option maxHeartbeats 4000000 in
theorem t_X8_isCloud (a0 : Nat) (a1 : Int32) (h0 : zHp) : ∀ (r : Int32) (h' : zHp), f_X8_isCloud a0 a1 h0 = some (r, h') → zCt yX8_isCloud (.code yX8_isCloud cX8_isCloud 2 (some .boolean)) 1 60 0 0 [.ref a0, .int a1] h0 (some (.int r)) h' := by
  refine zct_of M_X8_isCloud yX8_isCloud (by decide) rfl rfl [.ref a0, .int a1] h0 (Nat.le_of_ble_eq_true rfl) (fun r => some (.int r)) (fun X => ?_)
  show zG X M_X8_isCloud (0, 0) 0 [(0, .ref a0), (1, .int a1)] [] h0 (f_X8_isCloud a0 a1 h0) (fun (r : Int32) h' => zKe X (some (.int r)) h')
  unfold f_X8_isCloud
  refine zg_iload_n 1 rfl d_X8_isCloud_0 ?_
  refine zg_if_lt d_X8_isCloud_1 ?_ ?_
  · refine zg_iconst 0 rfl d_X8_isCloud_18 ?_
    exact zg_zretK d_X8_isCloud_19 rfl ⟨Nat.le_of_ble_eq_true rfl, Nat.le_of_ble_eq_true rfl⟩ (Or.inl rfl) (fun q => q)
  · refine zg_iload_n 1 rfl d_X8_isCloud_4 ?_
    refine zg_aload_n 0 rfl d_X8_isCloud_5 ?_
    refine zg_getR d_X8_isCloud_6 zc_8 (by decide) fl_X8_13 (fun v1 => ?_)
    refine zg_iconst 1 rfl d_X8_isCloud_9 ?_
    refine zg_ald0 d_X8_isCloud_10 (fun v2 => ?_)
    refine zg_icmp_ge d_X8_isCloud_11 ?_ ?_
    · refine zg_iconst 0 rfl d_X8_isCloud_18 ?_
      exact zg_zretK d_X8_isCloud_19 rfl ⟨Nat.le_of_ble_eq_true rfl, Nat.le_of_ble_eq_true rfl⟩ (Or.inl rfl) (fun q => q)
    · refine zg_iconst 1 rfl d_X8_isCloud_14 ?_
      refine zg_goto d_X8_isCloud_15 ?_
      exact zg_zretK d_X8_isCloud_19 rfl ⟨Nat.le_of_ble_eq_true rfl, Nat.le_of_ble_eq_true rfl⟩ (Or.inr rfl) (fun q => q)
abbrev M_X8_cloud : zMt := (RX8, cX8_cloud, 3, 2, 81, (some .int), "cloud", 0, 0)
theorem d_X8_cloud_0 : zDc M_X8_cloud 0 (.aload_n 0) 1 1 := ⟨by decide +kernel, rfl⟩
theorem d_X8_cloud_1 : zDc M_X8_cloud 1 (.aload_n 0) 1 2 := ⟨by decide +kernel, rfl⟩
theorem d_X8_cloud_2 : zDc M_X8_cloud 2 (.iload_n 1) 1 3 := ⟨by decide +kernel, rfl⟩
theorem d_X8_cloud_3 : zDc M_X8_cloud 3 (.invokevirtual 422) 3 6 := ⟨by decide +kernel, rfl⟩
theorem d_X8_cloud_6 : zDj M_X8_cloud 6 (.ifCond .ne 7) 7 9 13 := ⟨by decide +kernel, rfl, by decide⟩
theorem d_X8_cloud_9 : zDc M_X8_cloud 9 (.iconst 1) 1 10 := ⟨by decide +kernel, rfl⟩
theorem d_X8_cloud_10 : zDj M_X8_cloud 10 (.goto 17) 17 13 27 := ⟨by decide +kernel, rfl, by decide⟩
theorem d_X8_cloud_13 : zDc M_X8_cloud 13 (.iload_n 2) 1 14 := ⟨by decide +kernel, rfl⟩
theorem d_X8_cloud_14 : zDj M_X8_cloud 14 (.ifCond .lt 8) 8 17 22 := ⟨by decide +kernel, rfl, by decide⟩
theorem d_X8_cloud_17 : zDc M_X8_cloud 17 (.iload_n 2) 1 18 := ⟨by decide +kernel, rfl⟩
theorem d_X8_cloud_18 : zDc M_X8_cloud 18 (.iconst 5) 1 19 := ⟨by decide +kernel, rfl⟩
theorem d_X8_cloud_19 : zDj M_X8_cloud 19 (.if_icmp .le 7) 7 22 26 := ⟨by decide +kernel, rfl, by decide⟩
theorem d_X8_cloud_22 : zDc M_X8_cloud 22 (.iconst 2) 1 23 := ⟨by decide +kernel, rfl⟩
theorem d_X8_cloud_23 : zDj M_X8_cloud 23 (.goto 4) 4 26 27 := ⟨by decide +kernel, rfl, by decide⟩
theorem d_X8_cloud_26 : zDc M_X8_cloud 26 (.iconst 0) 1 27 := ⟨by decide +kernel, rfl⟩
theorem d_X8_cloud_27 : zDc M_X8_cloud 27 (.putfield 151) 3 30 := ⟨by decide +kernel, rfl⟩
theorem d_X8_cloud_30 : zDc M_X8_cloud 30 (.aload_n 0) 1 31 := ⟨by decide +kernel, rfl⟩
theorem d_X8_cloud_31 : zDc M_X8_cloud 31 (.getfield 151) 3 34 := ⟨by decide +kernel, rfl⟩
theorem d_X8_cloud_34 : zDj M_X8_cloud 34 (.ifCond .eq 5) 5 37 39 := ⟨by decide +kernel, rfl, by decide⟩
theorem d_X8_cloud_37 : zDc M_X8_cloud 37 (.iconst 0) 1 38 := ⟨by decide +kernel, rfl⟩
theorem d_X8_cloud_38 : zDc M_X8_cloud 38 (.ireturn) 1 39 := ⟨by decide +kernel, rfl⟩
theorem d_X8_cloud_39 : zDc M_X8_cloud 39 (.iload_n 2) 1 40 := ⟨by decide +kernel, rfl⟩
theorem d_X8_cloud_40 : decode M_X8_cloud.2.1 40 = .ok (.tableswitch 77 0 4 #[36, 46, 56, 63, 70], 36) := by decide +kernel
theorem d_X8_cloud_76 : zDc M_X8_cloud 76 (.aload_n 0) 1 77 := ⟨by decide +kernel, rfl⟩
theorem d_X8_cloud_77 : zDc M_X8_cloud 77 (.getfield 81) 3 80 := ⟨by decide +kernel, rfl⟩
theorem d_X8_cloud_80 : zDc M_X8_cloud 80 (.iload_n 1) 1 81 := ⟨by decide +kernel, rfl⟩
theorem d_X8_cloud_81 : zDc M_X8_cloud 81 (.iaload) 1 82 := ⟨by decide +kernel, rfl⟩
theorem d_X8_cloud_82 : zDc M_X8_cloud 82 (.bipush 6) 2 84 := ⟨by decide +kernel, rfl⟩
theorem d_X8_cloud_84 : zDc M_X8_cloud 84 (.irem) 1 85 := ⟨by decide +kernel, rfl⟩
theorem d_X8_cloud_85 : zDc M_X8_cloud 85 (.ireturn) 1 86 := ⟨by decide +kernel, rfl⟩
theorem d_X8_cloud_86 : zDc M_X8_cloud 86 (.aload_n 0) 1 87 := ⟨by decide +kernel, rfl⟩
theorem d_X8_cloud_87 : zDc M_X8_cloud 87 (.getfield 81) 3 90 := ⟨by decide +kernel, rfl⟩
theorem d_X8_cloud_90 : zDc M_X8_cloud 90 (.iload_n 1) 1 91 := ⟨by decide +kernel, rfl⟩
theorem d_X8_cloud_91 : zDc M_X8_cloud 91 (.iaload) 1 92 := ⟨by decide +kernel, rfl⟩
theorem d_X8_cloud_92 : zDc M_X8_cloud 92 (.bipush 6) 2 94 := ⟨by decide +kernel, rfl⟩
theorem d_X8_cloud_94 : zDc M_X8_cloud 94 (.idiv) 1 95 := ⟨by decide +kernel, rfl⟩
theorem d_X8_cloud_95 : zDc M_X8_cloud 95 (.ireturn) 1 96 := ⟨by decide +kernel, rfl⟩
theorem d_X8_cloud_96 : zDc M_X8_cloud 96 (.aload_n 0) 1 97 := ⟨by decide +kernel, rfl⟩
theorem d_X8_cloud_97 : zDc M_X8_cloud 97 (.getfield 84) 3 100 := ⟨by decide +kernel, rfl⟩
theorem d_X8_cloud_100 : zDc M_X8_cloud 100 (.iload_n 1) 1 101 := ⟨by decide +kernel, rfl⟩
theorem d_X8_cloud_101 : zDc M_X8_cloud 101 (.iaload) 1 102 := ⟨by decide +kernel, rfl⟩
theorem d_X8_cloud_102 : zDc M_X8_cloud 102 (.ireturn) 1 103 := ⟨by decide +kernel, rfl⟩
theorem d_X8_cloud_103 : zDc M_X8_cloud 103 (.aload_n 0) 1 104 := ⟨by decide +kernel, rfl⟩
theorem d_X8_cloud_104 : zDc M_X8_cloud 104 (.getfield 87) 3 107 := ⟨by decide +kernel, rfl⟩
theorem d_X8_cloud_107 : zDc M_X8_cloud 107 (.iload_n 1) 1 108 := ⟨by decide +kernel, rfl⟩
theorem d_X8_cloud_108 : zDc M_X8_cloud 108 (.iaload) 1 109 := ⟨by decide +kernel, rfl⟩
theorem d_X8_cloud_109 : zDc M_X8_cloud 109 (.ireturn) 1 110 := ⟨by decide +kernel, rfl⟩
theorem d_X8_cloud_110 : zDc M_X8_cloud 110 (.aload_n 0) 1 111 := ⟨by decide +kernel, rfl⟩
theorem d_X8_cloud_111 : zDc M_X8_cloud 111 (.getfield 90) 3 114 := ⟨by decide +kernel, rfl⟩
theorem d_X8_cloud_114 : zDc M_X8_cloud 114 (.iload_n 1) 1 115 := ⟨by decide +kernel, rfl⟩
theorem d_X8_cloud_115 : zDc M_X8_cloud 115 (.iaload) 1 116 := ⟨by decide +kernel, rfl⟩
theorem d_X8_cloud_116 : zDc M_X8_cloud 116 (.ireturn) 1 117 := ⟨by decide +kernel, rfl⟩
theorem d_X8_cloud_117 : zDc M_X8_cloud 117 (.aload_n 0) 1 118 := ⟨by decide +kernel, rfl⟩
theorem d_X8_cloud_118 : zDc M_X8_cloud 118 (.getfield 93) 3 121 := ⟨by decide +kernel, rfl⟩
theorem d_X8_cloud_121 : zDc M_X8_cloud 121 (.iload_n 1) 1 122 := ⟨by decide +kernel, rfl⟩
theorem d_X8_cloud_122 : zDc M_X8_cloud 122 (.iaload) 1 123 := ⟨by decide +kernel, rfl⟩
theorem d_X8_cloud_123 : zDc M_X8_cloud 123 (.ireturn) 1 124 := ⟨by decide +kernel, rfl⟩
def f_X8_cloud (a0 : Nat) (a1 : Int32) (a2 : Int32) (h0 : zHp) : Option (Int32 × zHp) :=
  zbd (zcv 8 a0 h0 (f_X8_isCloud a0 a1 h0)) (fun v2 h1 =>
  zbd (α := Int32) (
  if v2 = 0 then
  some (1, h1)
  else
  if a2 < 0 then
  some (2, h1)
  else
  if a2 ≤ 5 then
  some (0, h1)
  else
  some (2, h1)) (fun e3 h4 =>
  zob (zpV h4 a0 8 0 (.int e3)) (fun h5 =>
  zob (zgI h5 a0 8 0) (fun v6 =>
  if v6 = 0 then
  if a2 = 0 then
  zob (zgR h5 a0 8 38) (fun v7 =>
  zob (zaI 0 h5 v7 a1) (fun v8 =>
  some ((zrm v8 6), h5)))
  else if a2 = 1 then
  zob (zgR h5 a0 8 38) (fun v9 =>
  zob (zaI 0 h5 v9 a1) (fun v10 =>
  some ((v10 / 6), h5)))
  else if a2 = 2 then
  zob (zgR h5 a0 8 39) (fun v11 =>
  zob (zaI 0 h5 v11 a1) (fun v12 =>
  some (v12, h5)))
  else if a2 = 3 then
  zob (zgR h5 a0 8 40) (fun v13 =>
  zob (zaI 0 h5 v13 a1) (fun v14 =>
  some (v14, h5)))
  else if a2 = 4 then
  zob (zgR h5 a0 8 41) (fun v15 =>
  zob (zaI 0 h5 v15 a1) (fun v16 =>
  some (v16, h5)))
  else 
  zob (zgR h5 a0 8 42) (fun v17 =>
  zob (zaI 0 h5 v17 a1) (fun v18 =>
  some (v18, h5)))
  else
  some (0, h5)))))
set_option maxRecDepth 100000 in
set_option maxHeartbeats 4000000 in
theorem t_X8_cloud (a0 : Nat) (a1 : Int32) (a2 : Int32) (h0 : zHp) : ∀ (r : Int32) (h' : zHp), f_X8_cloud a0 a1 a2 h0 = some (r, h') → zCt yX8_cloud (.code yX8_cloud cX8_cloud 3 (some .int)) 2 81 0 0 [.ref a0, .int a1, .int a2] h0 (some (.int r)) h' := by
  refine zct_of M_X8_cloud yX8_cloud (by decide) rfl rfl [.ref a0, .int a1, .int a2] h0 (Nat.le_of_ble_eq_true rfl) (fun r => some (.int r)) (fun X => ?_)
  show zG X M_X8_cloud (0, 0) 0 [(0, .ref a0), (1, .int a1), (2, .int a2)] [] h0 (f_X8_cloud a0 a1 a2 h0) (fun (r : Int32) h' => zKe X (some (.int r)) h')
  unfold f_X8_cloud
  refine zg_aload_n 0 rfl d_X8_cloud_0 ?_
  refine zg_aload_n 0 rfl d_X8_cloud_1 ?_
  refine zg_iload_n 1 rfl d_X8_cloud_2 ?_
  refine zg_cVi (b := a0) (As := [.int a1]) (rest := [.ref a0]) (0, 0) d_X8_cloud_3 zc_8 rfl cw_X8_422 wi_X8_isCloud ws_X8_isCloud rfl rfl (Nat.le_of_ble_eq_true rfl) (by decide) (by decide) ⟨by decide, by decide⟩ rfl (t_X8_isCloud a0 a1 h0) (fun v2 h1 => ?_)
  refine zg_bd (E := 27) (el := (fun (e3 : Int32) => [(0, .ref a0), (1, .int a1), (2, .int a2)])) (es := (fun (e3 : Int32) => [.int e3, .ref a0])) ?_ (fun e3 h4 => ?_)
  · refine zg_if_ne d_X8_cloud_6 ?_ ?_
    · refine zg_iconst 1 rfl d_X8_cloud_9 ?_
      refine zg_goto d_X8_cloud_10 ?_
      exact zg_finK (E := 0) [0, 1, 2] rfl rfl (fun q => q)
    · refine zg_iload_n 2 rfl d_X8_cloud_13 ?_
      refine zg_if_lt d_X8_cloud_14 ?_ ?_
      · refine zg_iconst 2 rfl d_X8_cloud_22 ?_
        refine zg_goto d_X8_cloud_23 ?_
        exact zg_finK (E := 0) [0, 1, 2] rfl rfl (fun q => q)
      · refine zg_iload_n 2 rfl d_X8_cloud_17 ?_
        refine zg_iconst 5 rfl d_X8_cloud_18 ?_
        refine zg_icmp_le d_X8_cloud_19 ?_ ?_
        · refine zg_iconst 0 rfl d_X8_cloud_26 ?_
          exact zg_finK (E := 0) [0, 1, 2] rfl rfl (fun q => q)
        · refine zg_iconst 2 rfl d_X8_cloud_22 ?_
          refine zg_goto d_X8_cloud_23 ?_
          exact zg_finK (E := 0) [0, 1, 2] rfl rfl (fun q => q)
  · refine zg_putV d_X8_cloud_27 zc_8 (by decide) fl_X8_151 rfl rfl rfl (fun h5 => ?_)
    refine zg_aload_n 0 rfl d_X8_cloud_30 ?_
    refine zg_getI d_X8_cloud_31 zc_8 (by decide) fl_X8_151 (fun v6 => ?_)
    refine zg_if_eq d_X8_cloud_34 ?_ ?_
    · refine zg_iload_n 2 rfl d_X8_cloud_39 ?_
      refine zg_if (fun n19 => ?_) (fun n19 => ?_)
      · refine zg_tabE n19 d_X8_cloud_40 (by decide) (by decide) (off := 36) rfl (tgt := 76) (by decide) ?_
        refine zg_aload_n 0 rfl d_X8_cloud_76 ?_
        refine zg_getR d_X8_cloud_77 zc_8 (by decide) fl_X8_81 (fun v7 => ?_)
        refine zg_iload_n 1 rfl d_X8_cloud_80 ?_
        refine zg_ald0 d_X8_cloud_81 (fun v8 => ?_)
        refine zg_bipush 6 rfl d_X8_cloud_82 ?_
        refine zg_irem (by decide) d_X8_cloud_84 ?_
        exact zg_iretK d_X8_cloud_85 rfl ⟨Nat.le_of_ble_eq_true rfl, Nat.le_of_ble_eq_true rfl⟩ (fun q => q)
      refine zg_if (fun n20 => ?_) (fun n20 => ?_)
      · refine zg_tabE n20 d_X8_cloud_40 (by decide) (by decide) (off := 46) rfl (tgt := 86) (by decide) ?_
        refine zg_aload_n 0 rfl d_X8_cloud_86 ?_
        refine zg_getR d_X8_cloud_87 zc_8 (by decide) fl_X8_81 (fun v9 => ?_)
        refine zg_iload_n 1 rfl d_X8_cloud_90 ?_
        refine zg_ald0 d_X8_cloud_91 (fun v10 => ?_)
        refine zg_bipush 6 rfl d_X8_cloud_92 ?_
        refine zg_idiv (by decide) d_X8_cloud_94 ?_
        exact zg_iretK d_X8_cloud_95 rfl ⟨Nat.le_of_ble_eq_true rfl, Nat.le_of_ble_eq_true rfl⟩ (fun q => q)
      refine zg_if (fun n21 => ?_) (fun n21 => ?_)
      · refine zg_tabE n21 d_X8_cloud_40 (by decide) (by decide) (off := 56) rfl (tgt := 96) (by decide) ?_
        refine zg_aload_n 0 rfl d_X8_cloud_96 ?_
        refine zg_getR d_X8_cloud_97 zc_8 (by decide) fl_X8_84 (fun v11 => ?_)
        refine zg_iload_n 1 rfl d_X8_cloud_100 ?_
        refine zg_ald0 d_X8_cloud_101 (fun v12 => ?_)
        exact zg_iretK d_X8_cloud_102 rfl ⟨Nat.le_of_ble_eq_true rfl, Nat.le_of_ble_eq_true rfl⟩ (fun q => q)
      refine zg_if (fun n22 => ?_) (fun n22 => ?_)
      · refine zg_tabE n22 d_X8_cloud_40 (by decide) (by decide) (off := 63) rfl (tgt := 103) (by decide) ?_
        refine zg_aload_n 0 rfl d_X8_cloud_103 ?_
        refine zg_getR d_X8_cloud_104 zc_8 (by decide) fl_X8_87 (fun v13 => ?_)
        refine zg_iload_n 1 rfl d_X8_cloud_107 ?_
        refine zg_ald0 d_X8_cloud_108 (fun v14 => ?_)
        exact zg_iretK d_X8_cloud_109 rfl ⟨Nat.le_of_ble_eq_true rfl, Nat.le_of_ble_eq_true rfl⟩ (fun q => q)
      refine zg_if (fun n23 => ?_) (fun n23 => ?_)
      · refine zg_tabE n23 d_X8_cloud_40 (by decide) (by decide) (off := 70) rfl (tgt := 110) (by decide) ?_
        refine zg_aload_n 0 rfl d_X8_cloud_110 ?_
        refine zg_getR d_X8_cloud_111 zc_8 (by decide) fl_X8_90 (fun v15 => ?_)
        refine zg_iload_n 1 rfl d_X8_cloud_114 ?_
        refine zg_ald0 d_X8_cloud_115 (fun v16 => ?_)
        exact zg_iretK d_X8_cloud_116 rfl ⟨Nat.le_of_ble_eq_true rfl, Nat.le_of_ble_eq_true rfl⟩ (fun q => q)
      refine zg_tabO d_X8_cloud_40 (by have q0 := lv_neT n19 (a := 0) rfl; have q1 := lv_neT n20 (a := 1) rfl; have q2 := lv_neT n21 (a := 2) rfl; have q3 := lv_neT n22 (a := 3) rfl; have q4 := lv_neT n23 (a := 4) rfl; omega) (tgt := 117) (by decide) ?_
      refine zg_aload_n 0 rfl d_X8_cloud_117 ?_
      refine zg_getR d_X8_cloud_118 zc_8 (by decide) fl_X8_93 (fun v17 => ?_)
      refine zg_iload_n 1 rfl d_X8_cloud_121 ?_
      refine zg_ald0 d_X8_cloud_122 (fun v18 => ?_)
      exact zg_iretK d_X8_cloud_123 rfl ⟨Nat.le_of_ble_eq_true rfl, Nat.le_of_ble_eq_true rfl⟩ (fun q => q)
    · refine zg_iconst 0 rfl d_X8_cloud_37 ?_
      exact zg_iretK d_X8_cloud_38 rfl ⟨Nat.le_of_ble_eq_true rfl, Nat.le_of_ble_eq_true rfl⟩ (fun q => q)
abbrev M_X8_common : zMt := (RX8, cX8_common, 5, 1, 60, (some .int), "common", 0, 0)
theorem d_X8_common_0 : zDc M_X8_common 0 (.iload_n 0) 1 1 := ⟨by decide +kernel, rfl⟩
theorem d_X8_common_1 : zDc M_X8_common 1 (.istore_n 2) 1 2 := ⟨by decide +kernel, rfl⟩
theorem d_X8_common_2 : zDc M_X8_common 2 (.iload_n 1) 1 3 := ⟨by decide +kernel, rfl⟩
theorem d_X8_common_3 : zDc M_X8_common 3 (.istore_n 3) 1 4 := ⟨by decide +kernel, rfl⟩
theorem d_X8_common_4 : zDc M_X8_common 4 (.iload_n 3) 1 5 := ⟨by decide +kernel, rfl⟩
theorem d_X8_common_5 : zDj M_X8_common 5 (.ifCond .eq 16) 16 8 21 := ⟨by decide +kernel, rfl, by decide⟩
theorem d_X8_common_8 : zDc M_X8_common 8 (.iload_n 2) 1 9 := ⟨by decide +kernel, rfl⟩
theorem d_X8_common_9 : zDc M_X8_common 9 (.iload_n 3) 1 10 := ⟨by decide +kernel, rfl⟩
theorem d_X8_common_10 : zDc M_X8_common 10 (.irem) 1 11 := ⟨by decide +kernel, rfl⟩
theorem d_X8_common_11 : zDc M_X8_common 11 (.istore 4) 2 13 := ⟨by decide +kernel, rfl⟩
theorem d_X8_common_13 : zDc M_X8_common 13 (.iload_n 3) 1 14 := ⟨by decide +kernel, rfl⟩
theorem d_X8_common_14 : zDc M_X8_common 14 (.istore_n 2) 1 15 := ⟨by decide +kernel, rfl⟩
theorem d_X8_common_15 : zDc M_X8_common 15 (.iload 4) 2 17 := ⟨by decide +kernel, rfl⟩
theorem d_X8_common_17 : zDc M_X8_common 17 (.istore_n 3) 1 18 := ⟨by decide +kernel, rfl⟩
theorem d_X8_common_18 : zDj M_X8_common 18 (.goto (-14)) (-14) 21 4 := ⟨by decide +kernel, rfl, by decide⟩
theorem d_X8_common_21 : zDc M_X8_common 21 (.iload_n 2) 1 22 := ⟨by decide +kernel, rfl⟩
theorem d_X8_common_22 : zDc M_X8_common 22 (.ireturn) 1 23 := ⟨by decide +kernel, rfl⟩
def f_X8_common (a0 : Int32) (a1 : Int32) (h0 : zHp) : Option (Int32 × zHp) :=
  zbd (
  zlp (σ := (Int32 × Int32)) (β := (Int32 × Int32)) zLF (fun s1 h2 =>
  if s1.2 = 0 then
  some ((.inr (s1.1, s1.2)), h2)
  else
  zob (zrp s1.1 s1.2) (fun v5 =>
  some ((.inl (s1.2, v5)), h2))) (a0, a1) h0) (fun e3 h4 =>
  some (e3.1, h4))
set_option maxRecDepth 100000 in
set_option maxHeartbeats 4000000 in
theorem t_X8_common (a0 : Int32) (a1 : Int32) (h0 : zHp) : ∀ (r : Int32) (h' : zHp), f_X8_common a0 a1 h0 = some (r, h') → zCt yX8_common (.code yX8_common cX8_common 5 (some .int)) 1 60 0 0 [.int a0, .int a1] h0 (some (.int r)) h' := by
  refine zct_of M_X8_common yX8_common (by decide) rfl rfl [.int a0, .int a1] h0 (Nat.le_of_ble_eq_true rfl) (fun r => some (.int r)) (fun X => ?_)
  show zG X M_X8_common (0, 0) 0 [(0, .int a0), (1, .int a1)] [] h0 (f_X8_common a0 a1 h0) (fun (r : Int32) h' => zKe X (some (.int r)) h')
  unfold f_X8_common
  refine zg_iload_n 0 rfl d_X8_common_0 ?_
  refine zg_istore_n [(2, .int a0), (0, .int a0), (1, .int a1)] d_X8_common_1 rfl (by decide) rfl ?_
  refine zg_iload_n 2 rfl d_X8_common_2 ?_
  refine zg_istore_n [(3, .int a1), (2, .int a0), (0, .int a0), (1, .int a1)] d_X8_common_3 rfl (by decide) rfl ?_
  refine zg_bd (E := 21) (el := (fun (e3 : (Int32 × Int32)) => [(0, .int a0), (1, .int a1), (2, .int e3.1), (3, .int e3.2)])) (es := fun _ => []) (zg_sub [2, 3, 1, 0] rfl (zg_lp (el := (fun (s1 : (Int32 × Int32)) => [(0, .int a0), (1, .int a1), (2, .int s1.1), (3, .int s1.2)])) (fun s1 h2 => ?_) (a0, a1) h0)) (fun e3 h4 => ?_)
  · refine zg_iload_n 3 rfl d_X8_common_4 ?_
    refine zg_if_eq d_X8_common_5 ?_ ?_
    · exact zg_finK (E := 0) [0, 1, 2, 3] rfl rfl (fun q => q)
    · refine zg_iload_n 2 rfl d_X8_common_8 ?_
      refine zg_iload_n 3 rfl d_X8_common_9 ?_
      refine zg_iremP d_X8_common_10 (fun v5 => ?_)
      refine zg_istore [(4, .int v5), (0, .int a0), (1, .int a1), (2, .int s1.1), (3, .int s1.2)] d_X8_common_11 (by decide) rfl ?_
      refine zg_iload_n 4 rfl d_X8_common_13 ?_
      refine zg_istore_n [(2, .int s1.2), (4, .int v5), (0, .int a0), (1, .int a1), (3, .int s1.2)] d_X8_common_14 rfl (by decide) rfl ?_
      refine zg_iload 1 rfl d_X8_common_15 ?_
      refine zg_istore_n [(3, .int v5), (2, .int s1.2), (4, .int v5), (0, .int a0), (1, .int a1)] d_X8_common_17 rfl (by decide) rfl ?_
      refine zg_goto d_X8_common_18 ?_
      exact zg_finK (E := 0) [3, 4, 1, 0] rfl rfl (fun q => q)
  · refine zg_iload_n 2 rfl d_X8_common_21 ?_
    exact zg_iretK d_X8_common_22 rfl ⟨Nat.le_of_ble_eq_true rfl, Nat.le_of_ble_eq_true rfl⟩ (fun q => q)
abbrev M_X8_isWord : zMt := (RX8, cX8_isWord, 2, 1, 60, (some .boolean), "isWord", 0, 0)
theorem d_X8_isWord_0 : zDc M_X8_isWord 0 (.aload_n 0) 1 1 := ⟨by decide +kernel, rfl⟩
theorem d_X8_isWord_1 : zDc M_X8_isWord 1 (.getfield 205) 3 4 := ⟨by decide +kernel, rfl⟩
theorem d_X8_isWord_4 : zDj M_X8_isWord 4 (.ifCond .ne 22) 22 7 26 := ⟨by decide +kernel, rfl, by decide⟩
theorem d_X8_isWord_7 : zDc M_X8_isWord 7 (.aload_n 0) 1 8 := ⟨by decide +kernel, rfl⟩
theorem d_X8_isWord_8 : zDc M_X8_isWord 8 (.getfield 170) 3 11 := ⟨by decide +kernel, rfl⟩
theorem d_X8_isWord_11 : zDj M_X8_isWord 11 (.ifCond .ne 15) 15 14 26 := ⟨by decide +kernel, rfl, by decide⟩
theorem d_X8_isWord_14 : zDc M_X8_isWord 14 (.aload_n 0) 1 15 := ⟨by decide +kernel, rfl⟩
theorem d_X8_isWord_15 : zDc M_X8_isWord 15 (.getfield 180) 3 18 := ⟨by decide +kernel, rfl⟩
theorem d_X8_isWord_18 : zDc M_X8_isWord 18 (.iload_n 1) 1 19 := ⟨by decide +kernel, rfl⟩
theorem d_X8_isWord_19 : zDj M_X8_isWord 19 (.if_icmp .ne 7) 7 22 26 := ⟨by decide +kernel, rfl, by decide⟩
theorem d_X8_isWord_22 : zDc M_X8_isWord 22 (.iconst 1) 1 23 := ⟨by decide +kernel, rfl⟩
theorem d_X8_isWord_23 : zDj M_X8_isWord 23 (.goto 4) 4 26 27 := ⟨by decide +kernel, rfl, by decide⟩
theorem d_X8_isWord_26 : zDc M_X8_isWord 26 (.iconst 0) 1 27 := ⟨by decide +kernel, rfl⟩
theorem d_X8_isWord_27 : zDc M_X8_isWord 27 (.ireturn) 1 28 := ⟨by decide +kernel, rfl⟩
def f_X8_isWord (a0 : Nat) (a1 : Int32) (h0 : zHp) : Option (Int32 × zHp) :=
  zob (zgI h0 a0 8 27) (fun v1 =>
  if v1 = 0 then
  zob (zgI h0 a0 8 25) (fun v2 =>
  if v2 = 0 then
  zob (zgI h0 a0 8 26) (fun v3 =>
  if v3 = a1 then
  some (1, h0)
  else
  some (0, h0))
  else
  some (0, h0))
  else
  some (0, h0))
set_option maxRecDepth 100000 in
set_option maxHeartbeats 4000000 in
theorem t_X8_isWord (a0 : Nat) (a1 : Int32) (h0 : zHp) : ∀ (r : Int32) (h' : zHp), f_X8_isWord a0 a1 h0 = some (r, h') → zCt yX8_isWord (.code yX8_isWord cX8_isWord 2 (some .boolean)) 1 60 0 0 [.ref a0, .int a1] h0 (some (.int r)) h' := by
  refine zct_of M_X8_isWord yX8_isWord (by decide) rfl rfl [.ref a0, .int a1] h0 (Nat.le_of_ble_eq_true rfl) (fun r => some (.int r)) (fun X => ?_)
  show zG X M_X8_isWord (0, 0) 0 [(0, .ref a0), (1, .int a1)] [] h0 (f_X8_isWord a0 a1 h0) (fun (r : Int32) h' => zKe X (some (.int r)) h')
  unfold f_X8_isWord
  refine zg_aload_n 0 rfl d_X8_isWord_0 ?_
  refine zg_getI d_X8_isWord_1 zc_8 (by decide) fl_X8_205 (fun v1 => ?_)
  refine zg_if_ne d_X8_isWord_4 ?_ ?_
  · refine zg_aload_n 0 rfl d_X8_isWord_7 ?_
    refine zg_getI d_X8_isWord_8 zc_8 (by decide) fl_X8_170 (fun v2 => ?_)
    refine zg_if_ne d_X8_isWord_11 ?_ ?_
    · refine zg_aload_n 0 rfl d_X8_isWord_14 ?_
      refine zg_getI d_X8_isWord_15 zc_8 (by decide) fl_X8_180 (fun v3 => ?_)
      refine zg_iload_n 1 rfl d_X8_isWord_18 ?_
      refine zg_icmp_ne d_X8_isWord_19 ?_ ?_
      · refine zg_iconst 1 rfl d_X8_isWord_22 ?_
        refine zg_goto d_X8_isWord_23 ?_
        exact zg_zretK d_X8_isWord_27 rfl ⟨Nat.le_of_ble_eq_true rfl, Nat.le_of_ble_eq_true rfl⟩ (Or.inr rfl) (fun q => q)
      · refine zg_iconst 0 rfl d_X8_isWord_26 ?_
        exact zg_zretK d_X8_isWord_27 rfl ⟨Nat.le_of_ble_eq_true rfl, Nat.le_of_ble_eq_true rfl⟩ (Or.inl rfl) (fun q => q)
    · refine zg_iconst 0 rfl d_X8_isWord_26 ?_
      exact zg_zretK d_X8_isWord_27 rfl ⟨Nat.le_of_ble_eq_true rfl, Nat.le_of_ble_eq_true rfl⟩ (Or.inl rfl) (fun q => q)
  · refine zg_iconst 0 rfl d_X8_isWord_26 ?_
    exact zg_zretK d_X8_isWord_27 rfl ⟨Nat.le_of_ble_eq_true rfl, Nat.le_of_ble_eq_true rfl⟩ (Or.inl rfl) (fun q => q)
abbrev M_X8_knot : zMt := (RX8, cX8_knot, 1, 2, 81, none, "knot", 0, 0)
theorem d_X8_knot_0 : zDc M_X8_knot 0 (.aload_n 0) 1 1 := ⟨by decide +kernel, rfl⟩
theorem d_X8_knot_1 : zDc M_X8_knot 1 (.getfield 205) 3 4 := ⟨by decide +kernel, rfl⟩
theorem d_X8_knot_4 : zDj M_X8_knot 4 (.ifCond .eq 4) 4 7 8 := ⟨by decide +kernel, rfl, by decide⟩
theorem d_X8_knot_7 : zDc M_X8_knot 7 (.return_) 1 8 := ⟨by decide +kernel, rfl⟩
theorem d_X8_knot_8 : zDc M_X8_knot 8 (.aload_n 0) 1 9 := ⟨by decide +kernel, rfl⟩
theorem d_X8_knot_9 : zDc M_X8_knot 9 (.getfield 261) 3 12 := ⟨by decide +kernel, rfl⟩
theorem d_X8_knot_12 : zDc M_X8_knot 12 (.bipush 64) 2 14 := ⟨by decide +kernel, rfl⟩
theorem d_X8_knot_14 : zDj M_X8_knot 14 (.if_icmp .ne 11) 11 17 25 := ⟨by decide +kernel, rfl, by decide⟩
theorem d_X8_knot_17 : zDc M_X8_knot 17 (.aload_n 0) 1 18 := ⟨by decide +kernel, rfl⟩
theorem d_X8_knot_18 : zDc M_X8_knot 18 (.iconst 2) 1 19 := ⟨by decide +kernel, rfl⟩
theorem d_X8_knot_19 : zDc M_X8_knot 19 (.invokevirtual 214) 3 22 := ⟨by decide +kernel, rfl⟩
theorem d_X8_knot_22 : zDj M_X8_knot 22 (.goto 13) 13 25 35 := ⟨by decide +kernel, rfl, by decide⟩
theorem d_X8_knot_25 : zDc M_X8_knot 25 (.aload_n 0) 1 26 := ⟨by decide +kernel, rfl⟩
theorem d_X8_knot_26 : zDc M_X8_knot 26 (.dup) 1 27 := ⟨by decide +kernel, rfl⟩
theorem d_X8_knot_27 : zDc M_X8_knot 27 (.getfield 261) 3 30 := ⟨by decide +kernel, rfl⟩
theorem d_X8_knot_30 : zDc M_X8_knot 30 (.iconst 1) 1 31 := ⟨by decide +kernel, rfl⟩
theorem d_X8_knot_31 : zDc M_X8_knot 31 (.iadd) 1 32 := ⟨by decide +kernel, rfl⟩
theorem d_X8_knot_32 : zDc M_X8_knot 32 (.putfield 261) 3 35 := ⟨by decide +kernel, rfl⟩
theorem d_X8_knot_35 : zDc M_X8_knot 35 (.return_) 1 36 := ⟨by decide +kernel, rfl⟩
def f_X8_knot (a0 : Nat) (h0 : zHp) : Option (Unit × zHp) :=
  zob (zgI h0 a0 8 27) (fun v1 =>
  if v1 = 0 then
  zob (zgI h0 a0 8 32) (fun v2 =>
  if v2 = 64 then
  zbd (zcv 8 a0 h0 (f_X8_wrong a0 2 h0)) (fun v4 h3 =>
  some ((), h3))
  else
  zob (zgI h0 a0 8 32) (fun v5 =>
  zob (zpV h0 a0 8 32 (.int (v5 + 1))) (fun h6 =>
  some ((), h6))))
  else
  some ((), h0))
set_option maxRecDepth 100000 in
set_option maxHeartbeats 4000000 in
theorem t_X8_knot (a0 : Nat) (h0 : zHp) : ∀ (r : Unit) (h' : zHp), f_X8_knot a0 h0 = some (r, h') → zCt yX8_knot (.code yX8_knot cX8_knot 1 none) 2 81 0 0 [.ref a0] h0 (none) h' := by
  refine zct_of M_X8_knot yX8_knot (by decide) rfl rfl [.ref a0] h0 (Nat.le_of_ble_eq_true rfl) (fun _ => none) (fun X => ?_)
  show zG X M_X8_knot (0, 0) 0 [(0, .ref a0)] [] h0 (f_X8_knot a0 h0) (fun (_ : Unit) h' => zKe X (none) h')
  unfold f_X8_knot
  refine zg_aload_n 0 rfl d_X8_knot_0 ?_
  refine zg_getI d_X8_knot_1 zc_8 (by decide) fl_X8_205 (fun v1 => ?_)
  refine zg_if_eq d_X8_knot_4 ?_ ?_
  · refine zg_aload_n 0 rfl d_X8_knot_8 ?_
    refine zg_getI d_X8_knot_9 zc_8 (by decide) fl_X8_261 (fun v2 => ?_)
    refine zg_bipush 64 rfl d_X8_knot_12 ?_
    refine zg_icmp_ne d_X8_knot_14 ?_ ?_
    · refine zg_aload_n 0 rfl d_X8_knot_17 ?_
      refine zg_iconst 2 rfl d_X8_knot_18 ?_
      refine zg_cVv (b := a0) (As := [.int 2]) (rest := []) (0, 0) d_X8_knot_19 zc_8 rfl cw_X8_214 wi_X8_wrong ws_X8_wrong rfl rfl (Nat.le_of_ble_eq_true rfl) (by decide) (by decide) ⟨by decide, by decide⟩ rfl (t_X8_wrong a0 2 h0) (fun v4 h3 => ?_)
      refine zg_goto d_X8_knot_22 ?_
      exact zg_vretK d_X8_knot_35 rfl ⟨Nat.le_of_ble_eq_true rfl, Nat.le_of_ble_eq_true rfl⟩ (fun q => q)
    · refine zg_aload_n 0 rfl d_X8_knot_25 ?_
      refine zg_dup rfl d_X8_knot_26 ?_
      refine zg_getI d_X8_knot_27 zc_8 (by decide) fl_X8_261 (fun v5 => ?_)
      refine zg_iconst 1 rfl d_X8_knot_30 ?_
      refine zg_iadd d_X8_knot_31 ?_
      refine zg_putV d_X8_knot_32 zc_8 (by decide) fl_X8_261 rfl rfl rfl (fun h6 => ?_)
      exact zg_vretK d_X8_knot_35 rfl ⟨Nat.le_of_ble_eq_true rfl, Nat.le_of_ble_eq_true rfl⟩ (fun q => q)
  · exact zg_vretK d_X8_knot_7 rfl ⟨Nat.le_of_ble_eq_true rfl, Nat.le_of_ble_eq_true rfl⟩ (fun q => q)
abbrev M_X8_fresher : zMt := (RX8, cX8_fresher, 2, 1, 60, (some .int), "fresher", 0, 0)
theorem d_X8_fresher_0 : zDc M_X8_fresher 0 (.aload_n 0) 1 1 := ⟨by decide +kernel, rfl⟩
theorem d_X8_fresher_1 : zDc M_X8_fresher 1 (.getfield 13) 3 4 := ⟨by decide +kernel, rfl⟩
theorem d_X8_fresher_4 : zDc M_X8_fresher 4 (.bipush 8) 2 6 := ⟨by decide +kernel, rfl⟩
theorem d_X8_fresher_6 : zDc M_X8_fresher 6 (.iload_n 1) 1 7 := ⟨by decide +kernel, rfl⟩
theorem d_X8_fresher_7 : zDc M_X8_fresher 7 (.iadd) 1 8 := ⟨by decide +kernel, rfl⟩
theorem d_X8_fresher_8 : zDc M_X8_fresher 8 (.iaload) 1 9 := ⟨by decide +kernel, rfl⟩
theorem d_X8_fresher_9 : zDc M_X8_fresher 9 (.ireturn) 1 10 := ⟨by decide +kernel, rfl⟩
def f_X8_fresher (a0 : Nat) (a1 : Int32) (h0 : zHp) : Option (Int32 × zHp) :=
  zob (zgR h0 a0 8 3) (fun v1 =>
  zob (zaI 0 h0 v1 (8 + a1)) (fun v2 =>
  some (v2, h0)))
set_option maxRecDepth 100000 in
set_option maxHeartbeats 4000000 in
theorem t_X8_fresher (a0 : Nat) (a1 : Int32) (h0 : zHp) : ∀ (r : Int32) (h' : zHp), f_X8_fresher a0 a1 h0 = some (r, h') → zCt yX8_fresher (.code yX8_fresher cX8_fresher 2 (some .int)) 1 60 0 0 [.ref a0, .int a1] h0 (some (.int r)) h' := by
  refine zct_of M_X8_fresher yX8_fresher (by decide) rfl rfl [.ref a0, .int a1] h0 (Nat.le_of_ble_eq_true rfl) (fun r => some (.int r)) (fun X => ?_)
  show zG X M_X8_fresher (0, 0) 0 [(0, .ref a0), (1, .int a1)] [] h0 (f_X8_fresher a0 a1 h0) (fun (r : Int32) h' => zKe X (some (.int r)) h')
  unfold f_X8_fresher
  refine zg_aload_n 0 rfl d_X8_fresher_0 ?_
  refine zg_getR d_X8_fresher_1 zc_8 (by decide) fl_X8_13 (fun v1 => ?_)
  refine zg_bipush 8 rfl d_X8_fresher_4 ?_
  refine zg_iload_n 1 rfl d_X8_fresher_6 ?_
  refine zg_iadd d_X8_fresher_7 ?_
  refine zg_ald0 d_X8_fresher_8 (fun v2 => ?_)
  exact zg_iretK d_X8_fresher_9 rfl ⟨Nat.le_of_ble_eq_true rfl, Nat.le_of_ble_eq_true rfl⟩ (fun q => q)
abbrev M_X8_reads : zMt := (RX8, cX8_reads, 3, 1, 60, none, "reads", 0, 0)
theorem d_X8_reads_0 : zDc M_X8_reads 0 (.aload_n 0) 1 1 := ⟨by decide +kernel, rfl⟩
theorem d_X8_reads_1 : zDc M_X8_reads 1 (.getfield 13) 3 4 := ⟨by decide +kernel, rfl⟩
theorem d_X8_reads_4 : zDc M_X8_reads 4 (.bipush 8) 2 6 := ⟨by decide +kernel, rfl⟩
theorem d_X8_reads_6 : zDc M_X8_reads 6 (.iload_n 1) 1 7 := ⟨by decide +kernel, rfl⟩
theorem d_X8_reads_7 : zDc M_X8_reads 7 (.iadd) 1 8 := ⟨by decide +kernel, rfl⟩
theorem d_X8_reads_8 : zDc M_X8_reads 8 (.iload_n 2) 1 9 := ⟨by decide +kernel, rfl⟩
theorem d_X8_reads_9 : zDc M_X8_reads 9 (.iastore) 1 10 := ⟨by decide +kernel, rfl⟩
theorem d_X8_reads_10 : zDc M_X8_reads 10 (.return_) 1 11 := ⟨by decide +kernel, rfl⟩
def f_X8_reads (a0 : Nat) (a1 : Int32) (a2 : Int32) (h0 : zHp) : Option (Unit × zHp) :=
  zob (zgR h0 a0 8 3) (fun v1 =>
  zob (zsI 0 h0 v1 (8 + a1) a2) (fun h2 =>
  some ((), h2)))
set_option maxRecDepth 100000 in
set_option maxHeartbeats 4000000 in
theorem t_X8_reads (a0 : Nat) (a1 : Int32) (a2 : Int32) (h0 : zHp) : ∀ (r : Unit) (h' : zHp), f_X8_reads a0 a1 a2 h0 = some (r, h') → zCt yX8_reads (.code yX8_reads cX8_reads 3 none) 1 60 0 0 [.ref a0, .int a1, .int a2] h0 (none) h' := by
  refine zct_of M_X8_reads yX8_reads (by decide) rfl rfl [.ref a0, .int a1, .int a2] h0 (Nat.le_of_ble_eq_true rfl) (fun _ => none) (fun X => ?_)
  show zG X M_X8_reads (0, 0) 0 [(0, .ref a0), (1, .int a1), (2, .int a2)] [] h0 (f_X8_reads a0 a1 a2 h0) (fun (_ : Unit) h' => zKe X (none) h')
  unfold f_X8_reads
  refine zg_aload_n 0 rfl d_X8_reads_0 ?_
  refine zg_getR d_X8_reads_1 zc_8 (by decide) fl_X8_13 (fun v1 => ?_)
  refine zg_bipush 8 rfl d_X8_reads_4 ?_
  refine zg_iload_n 1 rfl d_X8_reads_6 ?_
  refine zg_iadd d_X8_reads_7 ?_
  refine zg_iload_n 2 rfl d_X8_reads_8 ?_
  refine zg_ast0 d_X8_reads_9 (fun h2 => ?_)
  exact zg_vretK d_X8_reads_10 rfl ⟨Nat.le_of_ble_eq_true rfl, Nat.le_of_ble_eq_true rfl⟩ (fun q => q)
abbrev M_X8_puts : zMt := (RX8, cX8_puts, 3, 2, 82, none, "puts", 0, 0)
theorem d_X8_puts_0 : zDc M_X8_puts 0 (.aload_n 0) 1 1 := ⟨by decide +kernel, rfl⟩
theorem d_X8_puts_1 : zDc M_X8_puts 1 (.getfield 205) 3 4 := ⟨by decide +kernel, rfl⟩
theorem d_X8_puts_4 : zDj M_X8_puts 4 (.ifCond .eq 4) 4 7 8 := ⟨by decide +kernel, rfl, by decide⟩
theorem d_X8_puts_7 : zDc M_X8_puts 7 (.return_) 1 8 := ⟨by decide +kernel, rfl⟩
theorem d_X8_puts_8 : zDc M_X8_puts 8 (.aload_n 0) 1 9 := ⟨by decide +kernel, rfl⟩
theorem d_X8_puts_9 : zDc M_X8_puts 9 (.getfield 58) 3 12 := ⟨by decide +kernel, rfl⟩
theorem d_X8_puts_12 : zDc M_X8_puts 12 (.bipush 64) 2 14 := ⟨by decide +kernel, rfl⟩
theorem d_X8_puts_14 : zDc M_X8_puts 14 (.aload_n 0) 1 15 := ⟨by decide +kernel, rfl⟩
theorem d_X8_puts_15 : zDc M_X8_puts 15 (.bipush 7) 2 17 := ⟨by decide +kernel, rfl⟩
theorem d_X8_puts_17 : zDc M_X8_puts 17 (.invokevirtual 225) 3 20 := ⟨by decide +kernel, rfl⟩
theorem d_X8_puts_20 : zDc M_X8_puts 20 (.iadd) 1 21 := ⟨by decide +kernel, rfl⟩
theorem d_X8_puts_21 : zDc M_X8_puts 21 (.iload_n 1) 1 22 := ⟨by decide +kernel, rfl⟩
theorem d_X8_puts_22 : zDc M_X8_puts 22 (.iastore) 1 23 := ⟨by decide +kernel, rfl⟩
theorem d_X8_puts_23 : zDc M_X8_puts 23 (.aload_n 0) 1 24 := ⟨by decide +kernel, rfl⟩
theorem d_X8_puts_24 : zDc M_X8_puts 24 (.getfield 61) 3 27 := ⟨by decide +kernel, rfl⟩
theorem d_X8_puts_27 : zDc M_X8_puts 27 (.bipush 64) 2 29 := ⟨by decide +kernel, rfl⟩
theorem d_X8_puts_29 : zDc M_X8_puts 29 (.aload_n 0) 1 30 := ⟨by decide +kernel, rfl⟩
theorem d_X8_puts_30 : zDc M_X8_puts 30 (.bipush 7) 2 32 := ⟨by decide +kernel, rfl⟩
theorem d_X8_puts_32 : zDc M_X8_puts 32 (.invokevirtual 225) 3 35 := ⟨by decide +kernel, rfl⟩
theorem d_X8_puts_35 : zDc M_X8_puts 35 (.iadd) 1 36 := ⟨by decide +kernel, rfl⟩
theorem d_X8_puts_36 : zDc M_X8_puts 36 (.iload_n 2) 1 37 := ⟨by decide +kernel, rfl⟩
theorem d_X8_puts_37 : zDc M_X8_puts 37 (.iastore) 1 38 := ⟨by decide +kernel, rfl⟩
theorem d_X8_puts_38 : zDc M_X8_puts 38 (.aload_n 0) 1 39 := ⟨by decide +kernel, rfl⟩
theorem d_X8_puts_39 : zDc M_X8_puts 39 (.bipush 7) 2 41 := ⟨by decide +kernel, rfl⟩
theorem d_X8_puts_41 : zDc M_X8_puts 41 (.aload_n 0) 1 42 := ⟨by decide +kernel, rfl⟩
theorem d_X8_puts_42 : zDc M_X8_puts 42 (.bipush 7) 2 44 := ⟨by decide +kernel, rfl⟩
theorem d_X8_puts_44 : zDc M_X8_puts 44 (.invokevirtual 225) 3 47 := ⟨by decide +kernel, rfl⟩
theorem d_X8_puts_47 : zDc M_X8_puts 47 (.iconst 1) 1 48 := ⟨by decide +kernel, rfl⟩
theorem d_X8_puts_48 : zDc M_X8_puts 48 (.iadd) 1 49 := ⟨by decide +kernel, rfl⟩
theorem d_X8_puts_49 : zDc M_X8_puts 49 (.invokevirtual 245) 3 52 := ⟨by decide +kernel, rfl⟩
theorem d_X8_puts_52 : zDc M_X8_puts 52 (.return_) 1 53 := ⟨by decide +kernel, rfl⟩
def f_X8_puts (a0 : Nat) (a1 : Int32) (a2 : Int32) (h0 : zHp) : Option (Unit × zHp) :=
  zob (zgI h0 a0 8 27) (fun v1 =>
  if v1 = 0 then
  zob (zgR h0 a0 8 18) (fun v2 =>
  zbd (zcv 8 a0 h0 (f_X8_fresher a0 7 h0)) (fun v4 h3 =>
  zob (zsI 0 h3 v2 (64 + v4) a1) (fun h5 =>
  zob (zgR h5 a0 8 19) (fun v6 =>
  zbd (zcv 8 a0 h5 (f_X8_fresher a0 7 h5)) (fun v8 h7 =>
  zob (zsI 0 h7 v6 (64 + v8) a2) (fun h9 =>
  zbd (zcv 8 a0 h9 (f_X8_fresher a0 7 h9)) (fun v11 h10 =>
  zbd (zcv 8 a0 h10 (f_X8_reads a0 7 (v11 + 1) h10)) (fun v13 h12 =>
  some ((), h12)))))))))
  else
  some ((), h0))
set_option maxRecDepth 100000 in
set_option maxHeartbeats 4000000 in
theorem t_X8_puts (a0 : Nat) (a1 : Int32) (a2 : Int32) (h0 : zHp) : ∀ (r : Unit) (h' : zHp), f_X8_puts a0 a1 a2 h0 = some (r, h') → zCt yX8_puts (.code yX8_puts cX8_puts 3 none) 2 82 0 0 [.ref a0, .int a1, .int a2] h0 (none) h' := by
  refine zct_of M_X8_puts yX8_puts (by decide) rfl rfl [.ref a0, .int a1, .int a2] h0 (Nat.le_of_ble_eq_true rfl) (fun _ => none) (fun X => ?_)
  show zG X M_X8_puts (0, 0) 0 [(0, .ref a0), (1, .int a1), (2, .int a2)] [] h0 (f_X8_puts a0 a1 a2 h0) (fun (_ : Unit) h' => zKe X (none) h')
  unfold f_X8_puts
  refine zg_aload_n 0 rfl d_X8_puts_0 ?_
  refine zg_getI d_X8_puts_1 zc_8 (by decide) fl_X8_205 (fun v1 => ?_)
  refine zg_if_eq d_X8_puts_4 ?_ ?_
  · refine zg_aload_n 0 rfl d_X8_puts_8 ?_
    refine zg_getR d_X8_puts_9 zc_8 (by decide) fl_X8_58 (fun v2 => ?_)
    refine zg_bipush 64 rfl d_X8_puts_12 ?_
    refine zg_aload_n 0 rfl d_X8_puts_14 ?_
    refine zg_bipush 7 rfl d_X8_puts_15 ?_
    refine zg_cVi (b := a0) (As := [.int 7]) (rest := [.int 64, .ref v2]) (0, 0) d_X8_puts_17 zc_8 rfl cw_X8_225 wi_X8_fresher ws_X8_fresher rfl rfl (Nat.le_of_ble_eq_true rfl) (by decide) (by decide) ⟨by decide, by decide⟩ rfl (t_X8_fresher a0 7 h0) (fun v4 h3 => ?_)
    refine zg_iadd d_X8_puts_20 ?_
    refine zg_iload_n 1 rfl d_X8_puts_21 ?_
    refine zg_ast0 d_X8_puts_22 (fun h5 => ?_)
    refine zg_aload_n 0 rfl d_X8_puts_23 ?_
    refine zg_getR d_X8_puts_24 zc_8 (by decide) fl_X8_61 (fun v6 => ?_)
    refine zg_bipush 64 rfl d_X8_puts_27 ?_
    refine zg_aload_n 0 rfl d_X8_puts_29 ?_
    refine zg_bipush 7 rfl d_X8_puts_30 ?_
    refine zg_cVi (b := a0) (As := [.int 7]) (rest := [.int 64, .ref v6]) (0, 0) d_X8_puts_32 zc_8 rfl cw_X8_225 wi_X8_fresher ws_X8_fresher rfl rfl (Nat.le_of_ble_eq_true rfl) (by decide) (by decide) ⟨by decide, by decide⟩ rfl (t_X8_fresher a0 7 h5) (fun v8 h7 => ?_)
    refine zg_iadd d_X8_puts_35 ?_
    refine zg_iload_n 2 rfl d_X8_puts_36 ?_
    refine zg_ast0 d_X8_puts_37 (fun h9 => ?_)
    refine zg_aload_n 0 rfl d_X8_puts_38 ?_
    refine zg_bipush 7 rfl d_X8_puts_39 ?_
    refine zg_aload_n 0 rfl d_X8_puts_41 ?_
    refine zg_bipush 7 rfl d_X8_puts_42 ?_
    refine zg_cVi (b := a0) (As := [.int 7]) (rest := [.int 7, .ref a0]) (0, 0) d_X8_puts_44 zc_8 rfl cw_X8_225 wi_X8_fresher ws_X8_fresher rfl rfl (Nat.le_of_ble_eq_true rfl) (by decide) (by decide) ⟨by decide, by decide⟩ rfl (t_X8_fresher a0 7 h9) (fun v11 h10 => ?_)
    refine zg_iconst 1 rfl d_X8_puts_47 ?_
    refine zg_iadd d_X8_puts_48 ?_
    refine zg_cVv (b := a0) (As := [.int 7, .int (v11 + 1)]) (rest := []) (0, 0) d_X8_puts_49 zc_8 rfl cw_X8_245 wi_X8_reads ws_X8_reads rfl rfl (Nat.le_of_ble_eq_true rfl) (by decide) (by decide) ⟨by decide, by decide⟩ rfl (t_X8_reads a0 7 (v11 + 1) h10) (fun v13 h12 => ?_)
    exact zg_vretK d_X8_puts_52 rfl ⟨Nat.le_of_ble_eq_true rfl, Nat.le_of_ble_eq_true rfl⟩ (fun q => q)
  · exact zg_vretK d_X8_puts_7 rfl ⟨Nat.le_of_ble_eq_true rfl, Nat.le_of_ble_eq_true rfl⟩ (fun q => q)
abbrev M_X8_isSign : zMt := (RX8, cX8_isSign, 2, 1, 60, (some .boolean), "isSign", 0, 0)
theorem d_X8_isSign_0 : zDc M_X8_isSign 0 (.aload_n 0) 1 1 := ⟨by decide +kernel, rfl⟩
theorem d_X8_isSign_1 : zDc M_X8_isSign 1 (.getfield 205) 3 4 := ⟨by decide +kernel, rfl⟩
theorem d_X8_isSign_4 : zDj M_X8_isSign 4 (.ifCond .ne 23) 23 7 27 := ⟨by decide +kernel, rfl, by decide⟩
theorem d_X8_isSign_7 : zDc M_X8_isSign 7 (.aload_n 0) 1 8 := ⟨by decide +kernel, rfl⟩
theorem d_X8_isSign_8 : zDc M_X8_isSign 8 (.getfield 170) 3 11 := ⟨by decide +kernel, rfl⟩
theorem d_X8_isSign_11 : zDc M_X8_isSign 11 (.iconst 3) 1 12 := ⟨by decide +kernel, rfl⟩
theorem d_X8_isSign_12 : zDj M_X8_isSign 12 (.if_icmp .ne 15) 15 15 27 := ⟨by decide +kernel, rfl, by decide⟩
theorem d_X8_isSign_15 : zDc M_X8_isSign 15 (.aload_n 0) 1 16 := ⟨by decide +kernel, rfl⟩
theorem d_X8_isSign_16 : zDc M_X8_isSign 16 (.getfield 180) 3 19 := ⟨by decide +kernel, rfl⟩
theorem d_X8_isSign_19 : zDc M_X8_isSign 19 (.iload_n 1) 1 20 := ⟨by decide +kernel, rfl⟩
theorem d_X8_isSign_20 : zDj M_X8_isSign 20 (.if_icmp .ne 7) 7 23 27 := ⟨by decide +kernel, rfl, by decide⟩
theorem d_X8_isSign_23 : zDc M_X8_isSign 23 (.iconst 1) 1 24 := ⟨by decide +kernel, rfl⟩
theorem d_X8_isSign_24 : zDj M_X8_isSign 24 (.goto 4) 4 27 28 := ⟨by decide +kernel, rfl, by decide⟩
theorem d_X8_isSign_27 : zDc M_X8_isSign 27 (.iconst 0) 1 28 := ⟨by decide +kernel, rfl⟩
theorem d_X8_isSign_28 : zDc M_X8_isSign 28 (.ireturn) 1 29 := ⟨by decide +kernel, rfl⟩
def f_X8_isSign (a0 : Nat) (a1 : Int32) (h0 : zHp) : Option (Int32 × zHp) :=
  zob (zgI h0 a0 8 27) (fun v1 =>
  if v1 = 0 then
  zob (zgI h0 a0 8 25) (fun v2 =>
  if v2 = 3 then
  zob (zgI h0 a0 8 26) (fun v3 =>
  if v3 = a1 then
  some (1, h0)
  else
  some (0, h0))
  else
  some (0, h0))
  else
  some (0, h0))
set_option maxRecDepth 100000 in
set_option maxHeartbeats 4000000 in
theorem t_X8_isSign (a0 : Nat) (a1 : Int32) (h0 : zHp) : ∀ (r : Int32) (h' : zHp), f_X8_isSign a0 a1 h0 = some (r, h') → zCt yX8_isSign (.code yX8_isSign cX8_isSign 2 (some .boolean)) 1 60 0 0 [.ref a0, .int a1] h0 (some (.int r)) h' := by
  refine zct_of M_X8_isSign yX8_isSign (by decide) rfl rfl [.ref a0, .int a1] h0 (Nat.le_of_ble_eq_true rfl) (fun r => some (.int r)) (fun X => ?_)
  show zG X M_X8_isSign (0, 0) 0 [(0, .ref a0), (1, .int a1)] [] h0 (f_X8_isSign a0 a1 h0) (fun (r : Int32) h' => zKe X (some (.int r)) h')
  unfold f_X8_isSign
  refine zg_aload_n 0 rfl d_X8_isSign_0 ?_
  refine zg_getI d_X8_isSign_1 zc_8 (by decide) fl_X8_205 (fun v1 => ?_)
  refine zg_if_ne d_X8_isSign_4 ?_ ?_
  · refine zg_aload_n 0 rfl d_X8_isSign_7 ?_
    refine zg_getI d_X8_isSign_8 zc_8 (by decide) fl_X8_170 (fun v2 => ?_)
    refine zg_iconst 3 rfl d_X8_isSign_11 ?_
    refine zg_icmp_ne d_X8_isSign_12 ?_ ?_
    · refine zg_aload_n 0 rfl d_X8_isSign_15 ?_
      refine zg_getI d_X8_isSign_16 zc_8 (by decide) fl_X8_180 (fun v3 => ?_)
      refine zg_iload_n 1 rfl d_X8_isSign_19 ?_
      refine zg_icmp_ne d_X8_isSign_20 ?_ ?_
      · refine zg_iconst 1 rfl d_X8_isSign_23 ?_
        refine zg_goto d_X8_isSign_24 ?_
        exact zg_zretK d_X8_isSign_28 rfl ⟨Nat.le_of_ble_eq_true rfl, Nat.le_of_ble_eq_true rfl⟩ (Or.inr rfl) (fun q => q)
      · refine zg_iconst 0 rfl d_X8_isSign_27 ?_
        exact zg_zretK d_X8_isSign_28 rfl ⟨Nat.le_of_ble_eq_true rfl, Nat.le_of_ble_eq_true rfl⟩ (Or.inl rfl) (fun q => q)
    · refine zg_iconst 0 rfl d_X8_isSign_27 ?_
      exact zg_zretK d_X8_isSign_28 rfl ⟨Nat.le_of_ble_eq_true rfl, Nat.le_of_ble_eq_true rfl⟩ (Or.inl rfl) (fun q => q)
  · refine zg_iconst 0 rfl d_X8_isSign_27 ?_
    exact zg_zretK d_X8_isSign_28 rfl ⟨Nat.le_of_ble_eq_true rfl, Nat.le_of_ble_eq_true rfl⟩ (Or.inl rfl) (fun q => q)
abbrev M_X8_givenTo : zMt := (RX8, cX8_givenTo, 4, 1, 60, (some .int), "givenTo", 0, 0)
theorem d_X8_givenTo_0 : zDc M_X8_givenTo 0 (.iconst 0) 1 1 := ⟨by decide +kernel, rfl⟩
theorem d_X8_givenTo_1 : zDc M_X8_givenTo 1 (.istore_n 2) 1 2 := ⟨by decide +kernel, rfl⟩
theorem d_X8_givenTo_2 : zDc M_X8_givenTo 2 (.iconst 0) 1 3 := ⟨by decide +kernel, rfl⟩
theorem d_X8_givenTo_3 : zDc M_X8_givenTo 3 (.istore_n 3) 1 4 := ⟨by decide +kernel, rfl⟩
theorem d_X8_givenTo_4 : zDc M_X8_givenTo 4 (.iload_n 3) 1 5 := ⟨by decide +kernel, rfl⟩
theorem d_X8_givenTo_5 : zDc M_X8_givenTo 5 (.aload_n 0) 1 6 := ⟨by decide +kernel, rfl⟩
theorem d_X8_givenTo_6 : zDc M_X8_givenTo 6 (.getfield 13) 3 9 := ⟨by decide +kernel, rfl⟩
theorem d_X8_givenTo_9 : zDc M_X8_givenTo 9 (.iconst 1) 1 10 := ⟨by decide +kernel, rfl⟩
theorem d_X8_givenTo_10 : zDc M_X8_givenTo 10 (.iaload) 1 11 := ⟨by decide +kernel, rfl⟩
theorem d_X8_givenTo_11 : zDj M_X8_givenTo 11 (.if_icmp .ge 27) 27 14 38 := ⟨by decide +kernel, rfl, by decide⟩
theorem d_X8_givenTo_14 : zDc M_X8_givenTo 14 (.iload_n 2) 1 15 := ⟨by decide +kernel, rfl⟩
theorem d_X8_givenTo_15 : zDc M_X8_givenTo 15 (.aload_n 0) 1 16 := ⟨by decide +kernel, rfl⟩
theorem d_X8_givenTo_16 : zDc M_X8_givenTo 16 (.getfield 117) 3 19 := ⟨by decide +kernel, rfl⟩
theorem d_X8_givenTo_19 : zDc M_X8_givenTo 19 (.iload_n 3) 1 20 := ⟨by decide +kernel, rfl⟩
theorem d_X8_givenTo_20 : zDc M_X8_givenTo 20 (.iaload) 1 21 := ⟨by decide +kernel, rfl⟩
theorem d_X8_givenTo_21 : zDc M_X8_givenTo 21 (.iload_n 1) 1 22 := ⟨by decide +kernel, rfl⟩
theorem d_X8_givenTo_22 : zDj M_X8_givenTo 22 (.if_icmp .ne 7) 7 25 29 := ⟨by decide +kernel, rfl, by decide⟩
theorem d_X8_givenTo_25 : zDc M_X8_givenTo 25 (.iconst 1) 1 26 := ⟨by decide +kernel, rfl⟩
theorem d_X8_givenTo_26 : zDj M_X8_givenTo 26 (.goto 4) 4 29 30 := ⟨by decide +kernel, rfl, by decide⟩
theorem d_X8_givenTo_29 : zDc M_X8_givenTo 29 (.iconst 0) 1 30 := ⟨by decide +kernel, rfl⟩
theorem d_X8_givenTo_30 : zDc M_X8_givenTo 30 (.iadd) 1 31 := ⟨by decide +kernel, rfl⟩
theorem d_X8_givenTo_31 : zDc M_X8_givenTo 31 (.istore_n 2) 1 32 := ⟨by decide +kernel, rfl⟩
theorem d_X8_givenTo_32 : zDc M_X8_givenTo 32 (.iinc 3 1) 3 35 := ⟨by decide +kernel, rfl⟩
theorem d_X8_givenTo_35 : zDj M_X8_givenTo 35 (.goto (-31)) (-31) 38 4 := ⟨by decide +kernel, rfl, by decide⟩
theorem d_X8_givenTo_38 : zDc M_X8_givenTo 38 (.iload_n 2) 1 39 := ⟨by decide +kernel, rfl⟩
theorem d_X8_givenTo_39 : zDc M_X8_givenTo 39 (.ireturn) 1 40 := ⟨by decide +kernel, rfl⟩
def f_X8_givenTo (a0 : Nat) (a1 : Int32) (h0 : zHp) : Option (Int32 × zHp) :=
  zbd (
  zlp (σ := (Int32 × Int32)) (β := (Int32 × Int32)) zLF (fun s1 h2 =>
  zob (zgR h2 a0 8 3) (fun v5 =>
  zob (zaI 0 h2 v5 1) (fun v6 =>
  if v6 ≤ s1.2 then
  some ((.inr (s1.1, s1.2)), h2)
  else
  zob (zgR h2 a0 8 54) (fun v7 =>
  zob (zaI 0 h2 v7 s1.2) (fun v8 =>
  if v8 = a1 then
  some ((.inl ((s1.1 + 1), (s1.2 + 1))), h2)
  else
  some ((.inl ((s1.1 + 0), (s1.2 + 1))), h2)))))) (0, 0) h0) (fun e3 h4 =>
  some (e3.1, h4))
set_option maxRecDepth 100000 in
set_option maxHeartbeats 4000000 in
theorem t_X8_givenTo (a0 : Nat) (a1 : Int32) (h0 : zHp) : ∀ (r : Int32) (h' : zHp), f_X8_givenTo a0 a1 h0 = some (r, h') → zCt yX8_givenTo (.code yX8_givenTo cX8_givenTo 4 (some .int)) 1 60 0 0 [.ref a0, .int a1] h0 (some (.int r)) h' := by
  refine zct_of M_X8_givenTo yX8_givenTo (by decide) rfl rfl [.ref a0, .int a1] h0 (Nat.le_of_ble_eq_true rfl) (fun r => some (.int r)) (fun X => ?_)
  show zG X M_X8_givenTo (0, 0) 0 [(0, .ref a0), (1, .int a1)] [] h0 (f_X8_givenTo a0 a1 h0) (fun (r : Int32) h' => zKe X (some (.int r)) h')
  unfold f_X8_givenTo
  refine zg_iconst 0 rfl d_X8_givenTo_0 ?_
  refine zg_istore_n [(2, .int 0), (0, .ref a0), (1, .int a1)] d_X8_givenTo_1 rfl (by decide) rfl ?_
  refine zg_iconst 0 rfl d_X8_givenTo_2 ?_
  refine zg_istore_n [(3, .int 0), (2, .int 0), (0, .ref a0), (1, .int a1)] d_X8_givenTo_3 rfl (by decide) rfl ?_
  refine zg_bd (E := 38) (el := (fun (e3 : (Int32 × Int32)) => [(0, .ref a0), (1, .int a1), (2, .int e3.1), (3, .int e3.2)])) (es := fun _ => []) (zg_sub [2, 3, 1, 0] rfl (zg_lp (el := (fun (s1 : (Int32 × Int32)) => [(0, .ref a0), (1, .int a1), (2, .int s1.1), (3, .int s1.2)])) (fun s1 h2 => ?_) (0, 0) h0)) (fun e3 h4 => ?_)
  · refine zg_iload_n 3 rfl d_X8_givenTo_4 ?_
    refine zg_aload_n 0 rfl d_X8_givenTo_5 ?_
    refine zg_getR d_X8_givenTo_6 zc_8 (by decide) fl_X8_13 (fun v5 => ?_)
    refine zg_iconst 1 rfl d_X8_givenTo_9 ?_
    refine zg_ald0 d_X8_givenTo_10 (fun v6 => ?_)
    refine zg_icmp_ge d_X8_givenTo_11 ?_ ?_
    · exact zg_finK (E := 0) [0, 1, 2, 3] rfl rfl (fun q => q)
    · refine zg_iload_n 2 rfl d_X8_givenTo_14 ?_
      refine zg_aload_n 0 rfl d_X8_givenTo_15 ?_
      refine zg_getR d_X8_givenTo_16 zc_8 (by decide) fl_X8_117 (fun v7 => ?_)
      refine zg_iload_n 3 rfl d_X8_givenTo_19 ?_
      refine zg_ald0 d_X8_givenTo_20 (fun v8 => ?_)
      refine zg_iload_n 1 rfl d_X8_givenTo_21 ?_
      refine zg_icmp_ne d_X8_givenTo_22 ?_ ?_
      · refine zg_iconst 1 rfl d_X8_givenTo_25 ?_
        refine zg_goto d_X8_givenTo_26 ?_
        refine zg_iadd d_X8_givenTo_30 ?_
        refine zg_istore_n [(2, .int (s1.1 + 1)), (0, .ref a0), (1, .int a1), (3, .int s1.2)] d_X8_givenTo_31 rfl (by decide) rfl ?_
        refine zg_iinc 3 (s1.2 + 1) [(3, .int (s1.2 + 1)), (2, .int (s1.1 + 1)), (0, .ref a0), (1, .int a1)] d_X8_givenTo_32 rfl rfl (by decide) rfl ?_
        refine zg_goto d_X8_givenTo_35 ?_
        exact zg_finK (E := 0) [2, 3, 1, 0] rfl rfl (fun q => q)
      · refine zg_iconst 0 rfl d_X8_givenTo_29 ?_
        refine zg_iadd d_X8_givenTo_30 ?_
        refine zg_istore_n [(2, .int (s1.1 + 0)), (0, .ref a0), (1, .int a1), (3, .int s1.2)] d_X8_givenTo_31 rfl (by decide) rfl ?_
        refine zg_iinc 3 (s1.2 + 1) [(3, .int (s1.2 + 1)), (2, .int (s1.1 + 0)), (0, .ref a0), (1, .int a1)] d_X8_givenTo_32 rfl rfl (by decide) rfl ?_
        refine zg_goto d_X8_givenTo_35 ?_
        exact zg_finK (E := 0) [2, 3, 1, 0] rfl rfl (fun q => q)
  · refine zg_iload_n 2 rfl d_X8_givenTo_38 ?_
    exact zg_iretK d_X8_givenTo_39 rfl ⟨Nat.le_of_ble_eq_true rfl, Nat.le_of_ble_eq_true rfl⟩ (fun q => q)
abbrev M_X8_knownMany : zMt := (RX8, cX8_knownMany, 1, 1, 60, (some .int), "knownMany", 0, 0)
theorem d_X8_knownMany_0 : zDc M_X8_knownMany 0 (.aload_n 0) 1 1 := ⟨by decide +kernel, rfl⟩
theorem d_X8_knownMany_1 : zDc M_X8_knownMany 1 (.getfield 129) 3 4 := ⟨by decide +kernel, rfl⟩
theorem d_X8_knownMany_4 : zDc M_X8_knownMany 4 (.iconst (-1)) 1 5 := ⟨by decide +kernel, rfl⟩
theorem d_X8_knownMany_5 : zDj M_X8_knownMany 5 (.if_icmp .ne 10) 10 8 15 := ⟨by decide +kernel, rfl, by decide⟩
theorem d_X8_knownMany_8 : zDc M_X8_knownMany 8 (.aload_n 0) 1 9 := ⟨by decide +kernel, rfl⟩
theorem d_X8_knownMany_9 : zDc M_X8_knownMany 9 (.getfield 304) 3 12 := ⟨by decide +kernel, rfl⟩
theorem d_X8_knownMany_12 : zDj M_X8_knownMany 12 (.goto 7) 7 15 19 := ⟨by decide +kernel, rfl, by decide⟩
theorem d_X8_knownMany_15 : zDc M_X8_knownMany 15 (.aload_n 0) 1 16 := ⟨by decide +kernel, rfl⟩
theorem d_X8_knownMany_16 : zDc M_X8_knownMany 16 (.getfield 129) 3 19 := ⟨by decide +kernel, rfl⟩
theorem d_X8_knownMany_19 : zDc M_X8_knownMany 19 (.ireturn) 1 20 := ⟨by decide +kernel, rfl⟩
def f_X8_knownMany (a0 : Nat) (h0 : zHp) : Option (Int32 × zHp) :=
  zob (zgI h0 a0 8 62) (fun v1 =>
  if v1 = (-1) then
  zob (zgI h0 a0 8 61) (fun v2 =>
  some (v2, h0))
  else
  zob (zgI h0 a0 8 62) (fun v3 =>
  some (v3, h0)))
set_option maxRecDepth 100000 in
set_option maxHeartbeats 4000000 in
theorem t_X8_knownMany (a0 : Nat) (h0 : zHp) : ∀ (r : Int32) (h' : zHp), f_X8_knownMany a0 h0 = some (r, h') → zCt yX8_knownMany (.code yX8_knownMany cX8_knownMany 1 (some .int)) 1 60 0 0 [.ref a0] h0 (some (.int r)) h' := by
  refine zct_of M_X8_knownMany yX8_knownMany (by decide) rfl rfl [.ref a0] h0 (Nat.le_of_ble_eq_true rfl) (fun r => some (.int r)) (fun X => ?_)
  show zG X M_X8_knownMany (0, 0) 0 [(0, .ref a0)] [] h0 (f_X8_knownMany a0 h0) (fun (r : Int32) h' => zKe X (some (.int r)) h')
  unfold f_X8_knownMany
  refine zg_aload_n 0 rfl d_X8_knownMany_0 ?_
  refine zg_getI d_X8_knownMany_1 zc_8 (by decide) fl_X8_129 (fun v1 => ?_)
  refine zg_iconst (-1) rfl d_X8_knownMany_4 ?_
  refine zg_icmp_ne d_X8_knownMany_5 ?_ ?_
  · refine zg_aload_n 0 rfl d_X8_knownMany_8 ?_
    refine zg_getI d_X8_knownMany_9 zc_8 (by decide) fl_X8_304 (fun v2 => ?_)
    refine zg_goto d_X8_knownMany_12 ?_
    exact zg_iretK d_X8_knownMany_19 rfl ⟨Nat.le_of_ble_eq_true rfl, Nat.le_of_ble_eq_true rfl⟩ (fun q => q)
  · refine zg_aload_n 0 rfl d_X8_knownMany_15 ?_
    refine zg_getI d_X8_knownMany_16 zc_8 (by decide) fl_X8_129 (fun v3 => ?_)
    exact zg_iretK d_X8_knownMany_19 rfl ⟨Nat.le_of_ble_eq_true rfl, Nat.le_of_ble_eq_true rfl⟩ (fun q => q)

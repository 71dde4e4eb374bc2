theorem fl_X5_30 : Cond.fieldLink RX5 30 (TX5 6).1 (TX5 6).2.1 (TX5 6).2.2.1 ∈ zT := zw_of _ 420 (by decide +kernel) (by decide +kernel)
theorem fl_X5_33 : Cond.fieldLink RX5 33 (TX5 7).1 (TX5 7).2.1 (TX5 7).2.2.1 ∈ zT := zw_of _ 423 (by decide +kernel) (by decide +kernel)
theorem ml_X5_97 : Cond.methodLink RX5 97 yX5_howFar ∈ zT := zw_of _ 891 (by decide +kernel) (by decide +kernel)
theorem cd_X5_howFar : Cond.code yX5_howFar cX5_howFar 5 (some .int) ∈ zT := zw_of _ 894 (by decide +kernel) (by decide +kernel)
theorem cw_X5_97 : zCw RX5 97 yX5_howFar cX5_howFar 5 (some .int) 2 := ⟨ml_X5_97, ni_X5, cd_X5_howFar, by decide, by decide, by decide +kernel⟩
theorem wi_X5_howFar : Cond.instanceMethod yX5_howFar ∈ zT := zw_of _ 892 (by decide +kernel) (by decide +kernel)
theorem ws_X5_howFar : Cond.selects RX5 yX5_howFar yX5_howFar ∈ zT := zw_of _ 893 (by decide +kernel) (by decide +kernel)
theorem fl_X5_101 : Cond.fieldLink RX5 101 (TX6 10).1 (TX6 10).2.1 (TX6 10).2.2.1 ∈ zT := zw_of _ 228 (by decide +kernel) (by decide +kernel)
theorem fl_X5_24 : Cond.fieldLink RX5 24 (TX5 4).1 (TX5 4).2.1 (TX5 4).2.2.1 ∈ zT := zw_of _ 413 (by decide +kernel) (by decide +kernel)
theorem fl_X5_217 : Cond.fieldLink RX5 217 (TX6 18).1 (TX6 18).2.1 (TX6 18).2.2.1 ∈ zT := zw_of _ 260 (by decide +kernel) (by decide +kernel)
theorem fl_X5_117 : Cond.fieldLink RX5 117 (TX6 15).1 (TX6 15).2.1 (TX6 15).2.2.1 ∈ zT := zw_of _ 248 (by decide +kernel) (by decide +kernel)
theorem ml_X5_123 : Cond.methodLink RX5 123 yX5_canSee ∈ zT := zw_of _ 917 (by decide +kernel) (by decide +kernel)
theorem cd_X5_canSee : Cond.code yX5_canSee cX5_canSee 3 (some .boolean) ∈ zT := zw_of _ 920 (by decide +kernel) (by decide +kernel)
theorem cw_X5_123 : zCw RX5 123 yX5_canSee cX5_canSee 3 (some .boolean) 2 := ⟨ml_X5_123, ni_X5, cd_X5_canSee, by decide, by decide, by decide +kernel⟩
theorem wi_X5_canSee : Cond.instanceMethod yX5_canSee ∈ zT := zw_of _ 918 (by decide +kernel) (by decide +kernel)
theorem ws_X5_canSee : Cond.selects RX5 yX5_canSee yX5_canSee ∈ zT := zw_of _ 919 (by decide +kernel) (by decide +kernel)
theorem ml_X5_220 : Cond.methodLink RX5 220 yX5_ownInSky ∈ zT := zw_of _ 1010 (by decide +kernel) (by decide +kernel)
theorem cd_X5_ownInSky : Cond.code yX5_ownInSky cX5_ownInSky 4 (some .int) ∈ zT := zw_of _ 821 (by decide +kernel) (by decide +kernel)
theorem cw_X5_220 : zCw RX5 220 yX5_ownInSky cX5_ownInSky 4 (some .int) 1 := ⟨ml_X5_220, ni_X5, cd_X5_ownInSky, by decide, by decide, by decide +kernel⟩
theorem wi_X5_ownInSky : Cond.instanceMethod yX5_ownInSky ∈ zT := zw_of _ 819 (by decide +kernel) (by decide +kernel)
theorem ws_X5_ownInSky : Cond.selects RX5 yX5_ownInSky yX5_ownInSky ∈ zT := zw_of _ 820 (by decide +kernel) (by decide +kernel)
theorem ml_X5_214 : Cond.methodLink RX5 214 yX5_whoTakes ∈ zT := zw_of _ 1006 (by decide +kernel) (by decide +kernel)
theorem cd_X5_whoTakes : Cond.code yX5_whoTakes cX5_whoTakes 5 (some .int) ∈ zT := zw_of _ 1009 (by decide +kernel) (by decide +kernel)
theorem cw_X5_214 : zCw RX5 214 yX5_whoTakes cX5_whoTakes 5 (some .int) 1 := ⟨ml_X5_214, ni_X5, cd_X5_whoTakes, by decide, by decide, by decide +kernel⟩
theorem wi_X5_whoTakes : Cond.instanceMethod yX5_whoTakes ∈ zT := zw_of _ 1008 (by decide +kernel) (by decide +kernel)
theorem ws_X5_whoTakes : Cond.selects RX5 yX5_whoTakes yX5_whoTakes ∈ zT := zw_of _ 43 (by decide +kernel) (by decide +kernel)
theorem kl_X5_146 : Cond.constantLong RX5 146 (-9223372036854775808) ∈ zT := zw_of _ 889 (by decide +kernel) (by decide +kernel)
theorem ml_X5_183 : Cond.methodLink RX5 183 Lib.MathLoose.min_long.x ∈ zT := zw_of _ 978 (by decide +kernel) (by decide +kernel)
theorem ml_X5_187 : Cond.methodLink RX5 187 Lib.MathLoose.max_long.x ∈ zT := zw_of _ 981 (by decide +kernel) (by decide +kernel)
theorem fl_X5_61 : Cond.fieldLink RX5 61 (TX5 13).1 (TX5 13).2.1 (TX5 13).2.2.1 ∈ zT := zw_of _ 440 (by decide +kernel) (by decide +kernel)
theorem fl_X5_87 : Cond.fieldLink RX5 87 (TX6 0).1 (TX6 0).2.1 (TX6 0).2.2.1 ∈ zT := zw_of _ 195 (by decide +kernel) (by decide +kernel)
theorem fl_X2_15 : Cond.fieldLink RX2 15 (TX2 1).1 (TX2 1).2.1 (TX2 1).2.2.1 ∈ zT := zw_of _ 171 (by decide +kernel) (by decide +kernel)
theorem fl_X2_18 : Cond.fieldLink RX2 18 (TX2 2).1 (TX2 2).2.1 (TX2 2).2.2.1 ∈ zT := zw_of _ 172 (by decide +kernel) (by decide +kernel)
theorem kl_X2_36 : Cond.constantLong RX2 36 1000000000000 ∈ zT := zw_of _ 906 (by decide +kernel) (by decide +kernel)
theorem kl_X2_40 : Cond.constantLong RX2 40 (-9223372036854775808) ∈ zT := zw_of _ 907 (by decide +kernel) (by decide +kernel)
theorem fl_X2_9 : Cond.fieldLink RX2 9 (TX2 0).1 (TX2 0).2.1 (TX2 0).2.2.1 ∈ zT := zw_of _ 170 (by decide +kernel) (by decide +kernel)
theorem fl_X2_21 : Cond.fieldLink RX2 21 (TX2 3).1 (TX2 3).2.1 (TX2 3).2.2.1 ∈ zT := zw_of _ 173 (by decide +kernel) (by decide +kernel)
theorem ml_X2_32 : Cond.methodLink RX2 32 yX2_combined ∈ zT := zw_of _ 903 (by decide +kernel) (by decide +kernel)
theorem ni_X2 : Cond.initialized RX2 ∈ zT := zw_of _ 126 (by decide +kernel) (by decide +kernel)
theorem cd_X2_combined : Cond.code yX2_combined cX2_combined 9 (some .long) ∈ zT := zw_of _ 905 (by decide +kernel) (by decide +kernel)
theorem cw_X2_32 : zCw RX2 32 yX2_combined cX2_combined 9 (some .long) 3 := ⟨ml_X2_32, ni_X2, cd_X2_combined, by decide, by decide, by decide +kernel⟩
theorem wt_X2_combined : Cond.static yX2_combined ∈ zT := zw_of _ 904 (by decide +kernel) (by decide +kernel)
theorem kl_X2_38 : Cond.constantLong RX2 38 (-1000000000000) ∈ zT := zw_of _ 908 (by decide +kernel) (by decide +kernel)
abbrev M_X5_howFar : zMt := (RX5, cX5_howFar, 5, 1, 60, (some .int), "howFar", 0, 0)
theorem d_X5_howFar_0 : zDc M_X5_howFar 0 (.aload_n 0) 1 1 := ⟨by decide +kernel, rfl⟩
theorem d_X5_howFar_1 : zDc M_X5_howFar 1 (.getfield 30) 3 4 := ⟨by decide +kernel, rfl⟩
theorem d_X5_howFar_4 : zDc M_X5_howFar 4 (.iload_n 1) 1 5 := ⟨by decide +kernel, rfl⟩
theorem d_X5_howFar_5 : zDc M_X5_howFar 5 (.iaload) 1 6 := ⟨by decide +kernel, rfl⟩
theorem d_X5_howFar_6 : zDc M_X5_howFar 6 (.aload_n 0) 1 7 := ⟨by decide +kernel, rfl⟩
theorem d_X5_howFar_7 : zDc M_X5_howFar 7 (.getfield 9) 3 10 := ⟨by decide +kernel, rfl⟩
theorem d_X5_howFar_10 : zDc M_X5_howFar 10 (.iload_n 2) 1 11 := ⟨by decide +kernel, rfl⟩
theorem d_X5_howFar_11 : zDc M_X5_howFar 11 (.iaload) 1 12 := ⟨by decide +kernel, rfl⟩
theorem d_X5_howFar_12 : zDc M_X5_howFar 12 (.isub) 1 13 := ⟨by decide +kernel, rfl⟩
theorem d_X5_howFar_13 : zDc M_X5_howFar 13 (.istore_n 3) 1 14 := ⟨by decide +kernel, rfl⟩
theorem d_X5_howFar_14 : zDc M_X5_howFar 14 (.aload_n 0) 1 15 := ⟨by decide +kernel, rfl⟩
theorem d_X5_howFar_15 : zDc M_X5_howFar 15 (.getfield 33) 3 18 := ⟨by decide +kernel, rfl⟩
theorem d_X5_howFar_18 : zDc M_X5_howFar 18 (.iload_n 1) 1 19 := ⟨by decide +kernel, rfl⟩
theorem d_X5_howFar_19 : zDc M_X5_howFar 19 (.iaload) 1 20 := ⟨by decide +kernel, rfl⟩
theorem d_X5_howFar_20 : zDc M_X5_howFar 20 (.aload_n 0) 1 21 := ⟨by decide +kernel, rfl⟩
theorem d_X5_howFar_21 : zDc M_X5_howFar 21 (.getfield 15) 3 24 := ⟨by decide +kernel, rfl⟩
theorem d_X5_howFar_24 : zDc M_X5_howFar 24 (.iload_n 2) 1 25 := ⟨by decide +kernel, rfl⟩
theorem d_X5_howFar_25 : zDc M_X5_howFar 25 (.iaload) 1 26 := ⟨by decide +kernel, rfl⟩
theorem d_X5_howFar_26 : zDc M_X5_howFar 26 (.isub) 1 27 := ⟨by decide +kernel, rfl⟩
theorem d_X5_howFar_27 : zDc M_X5_howFar 27 (.istore 4) 2 29 := ⟨by decide +kernel, rfl⟩
theorem d_X5_howFar_29 : zDc M_X5_howFar 29 (.iload_n 3) 1 30 := ⟨by decide +kernel, rfl⟩
theorem d_X5_howFar_30 : zDj M_X5_howFar 30 (.ifCond .ge 8) 8 33 38 := ⟨by decide +kernel, rfl, by decide⟩
theorem d_X5_howFar_33 : zDc M_X5_howFar 33 (.iload_n 3) 1 34 := ⟨by decide +kernel, rfl⟩
theorem d_X5_howFar_34 : zDc M_X5_howFar 34 (.ineg) 1 35 := ⟨by decide +kernel, rfl⟩
theorem d_X5_howFar_35 : zDj M_X5_howFar 35 (.goto 4) 4 38 39 := ⟨by decide +kernel, rfl, by decide⟩
theorem d_X5_howFar_38 : zDc M_X5_howFar 38 (.iload_n 3) 1 39 := ⟨by decide +kernel, rfl⟩
theorem d_X5_howFar_39 : zDc M_X5_howFar 39 (.istore_n 3) 1 40 := ⟨by decide +kernel, rfl⟩
theorem d_X5_howFar_40 : zDc M_X5_howFar 40 (.iload 4) 2 42 := ⟨by decide +kernel, rfl⟩
theorem d_X5_howFar_42 : zDj M_X5_howFar 42 (.ifCond .ge 9) 9 45 51 := ⟨by decide +kernel, rfl, by decide⟩
theorem d_X5_howFar_45 : zDc M_X5_howFar 45 (.iload 4) 2 47 := ⟨by decide +kernel, rfl⟩
theorem d_X5_howFar_47 : zDc M_X5_howFar 47 (.ineg) 1 48 := ⟨by decide +kernel, rfl⟩
theorem d_X5_howFar_48 : zDj M_X5_howFar 48 (.goto 5) 5 51 53 := ⟨by decide +kernel, rfl, by decide⟩
theorem d_X5_howFar_51 : zDc M_X5_howFar 51 (.iload 4) 2 53 := ⟨by decide +kernel, rfl⟩
theorem d_X5_howFar_53 : zDc M_X5_howFar 53 (.istore 4) 2 55 := ⟨by decide +kernel, rfl⟩
theorem d_X5_howFar_55 : zDc M_X5_howFar 55 (.iload_n 3) 1 56 := ⟨by decide +kernel, rfl⟩
theorem d_X5_howFar_56 : zDc M_X5_howFar 56 (.iload 4) 2 58 := ⟨by decide +kernel, rfl⟩
theorem d_X5_howFar_58 : zDj M_X5_howFar 58 (.if_icmp .le 7) 7 61 65 := ⟨by decide +kernel, rfl, by decide⟩
theorem d_X5_howFar_61 : zDc M_X5_howFar 61 (.iload_n 3) 1 62 := ⟨by decide +kernel, rfl⟩
theorem d_X5_howFar_62 : zDj M_X5_howFar 62 (.goto 5) 5 65 67 := ⟨by decide +kernel, rfl, by decide⟩
theorem d_X5_howFar_65 : zDc M_X5_howFar 65 (.iload 4) 2 67 := ⟨by decide +kernel, rfl⟩
theorem d_X5_howFar_67 : zDc M_X5_howFar 67 (.ireturn) 1 68 := ⟨by decide +kernel, rfl⟩
def f_X5_howFar (a0 : Nat) (a1 : Int32) (a2 : Int32) (h0 : zHp) : Option (Int32 × zHp) :=
  zob (zgR h0 a0 5 6) (fun v1 =>
  zob (zaI 0 h0 v1 a1) (fun v2 =>
  zob (zgR h0 a0 5 0) (fun v3 =>
  zob (zaI 0 h0 v3 a2) (fun v4 =>
  zob (zgR h0 a0 5 7) (fun v5 =>
  zob (zaI 0 h0 v5 a1) (fun v6 =>
  zob (zgR h0 a0 5 1) (fun v7 =>
  zob (zaI 0 h0 v7 a2) (fun v8 =>
  zbd (α := Int32) (
  if 0 ≤ (v2 - v4) then
  some ((v2 - v4), h0)
  else
  some ((0 - (v2 - v4)), h0)) (fun e9 h10 =>
  zbd (α := Int32) (
  if 0 ≤ (v6 - v8) then
  some ((v6 - v8), h10)
  else
  some ((0 - (v6 - v8)), h10)) (fun e11 h12 =>
  if e9 ≤ e11 then
  some (e11, h12)
  else
  some (e9, h12)))))))))))
set_option maxRecDepth 100000 in
set_option maxHeartbeats 4000000 in
theorem t_X5_howFar (a0 : Nat) (a1 : Int32) (a2 : Int32) (h0 : zHp) : ∀ (r : Int32) (h' : zHp), f_X5_howFar a0 a1 a2 h0 = some (r, h') → zCt yX5_howFar (.code yX5_howFar cX5_howFar 5 (some .int)) 1 60 0 0 [.ref a0, .int a1, .int a2] h0 (some (.int r)) h' := by
  refine zct_of M_X5_howFar yX5_howFar (by decide) rfl rfl [.ref a0, .int a1, .int a2] h0 (Nat.le_of_ble_eq_true rfl) (fun r => some (.int r)) (fun X => ?_)
  show zG X M_X5_howFar (0, 0) 0 [(0, .ref a0), (1, .int a1), (2, .int a2)] [] h0 (f_X5_howFar a0 a1 a2 h0) (fun (r : Int32) h' => zKe X (some (.int r)) h')
  unfold f_X5_howFar
  refine zg_aload_n 0 rfl d_X5_howFar_0 ?_
  refine zg_getR d_X5_howFar_1 zc_5 (by decide) fl_X5_30 (fun v1 => ?_)
  refine zg_iload_n 1 rfl d_X5_howFar_4 ?_
  refine zg_ald0 d_X5_howFar_5 (fun v2 => ?_)
  refine zg_aload_n 0 rfl d_X5_howFar_6 ?_
  refine zg_getR d_X5_howFar_7 zc_5 (by decide) fl_X5_9 (fun v3 => ?_)
  refine zg_iload_n 2 rfl d_X5_howFar_10 ?_
  refine zg_ald0 d_X5_howFar_11 (fun v4 => ?_)
  refine zg_isub d_X5_howFar_12 ?_
  refine zg_istore_n [(3, .int (v2 - v4)), (0, .ref a0), (1, .int a1), (2, .int a2)] d_X5_howFar_13 rfl (by decide) rfl ?_
  refine zg_aload_n 1 rfl d_X5_howFar_14 ?_
  refine zg_getR d_X5_howFar_15 zc_5 (by decide) fl_X5_33 (fun v5 => ?_)
  refine zg_iload_n 2 rfl d_X5_howFar_18 ?_
  refine zg_ald0 d_X5_howFar_19 (fun v6 => ?_)
  refine zg_aload_n 1 rfl d_X5_howFar_20 ?_
  refine zg_getR d_X5_howFar_21 zc_5 (by decide) fl_X5_15 (fun v7 => ?_)
  refine zg_iload_n 3 rfl d_X5_howFar_24 ?_
  refine zg_ald0 d_X5_howFar_25 (fun v8 => ?_)
  refine zg_isub d_X5_howFar_26 ?_
  refine zg_istore [(4, .int (v6 - v8)), (3, .int (v2 - v4)), (0, .ref a0), (1, .int a1), (2, .int a2)] d_X5_howFar_27 (by decide) rfl ?_
  refine zg_iload_n 1 rfl d_X5_howFar_29 ?_
  refine zg_bd (E := 39) (el := (fun (e9 : Int32) => [(0, .ref a0), (1, .int a1), (2, .int a2), (3, .int (v2 - v4)), (4, .int (v6 - v8))])) (es := (fun (e9 : Int32) => [.int e9])) ?_ (fun e9 h10 => ?_)
  · refine zg_if_ge d_X5_howFar_30 ?_ ?_
    · refine zg_iload_n 1 rfl d_X5_howFar_38 ?_
      exact zg_finK (E := 0) [2, 3, 4, 1, 0] rfl rfl (fun q => q)
    · refine zg_iload_n 1 rfl d_X5_howFar_33 ?_
      refine zg_ineg d_X5_howFar_34 ?_
      refine zg_goto d_X5_howFar_35 ?_
      exact zg_finK (E := 0) [2, 3, 4, 1, 0] rfl rfl (fun q => q)
  · refine zg_istore_n [(3, .int e9), (0, .ref a0), (1, .int a1), (2, .int a2), (4, .int (v6 - v8))] d_X5_howFar_39 rfl (by decide) rfl ?_
    refine zg_iload 4 rfl d_X5_howFar_40 ?_
    refine zg_bd (E := 53) (el := (fun (e11 : Int32) => [(0, .ref a0), (1, .int a1), (2, .int a2), (3, .int e9), (4, .int (v6 - v8))])) (es := (fun (e11 : Int32) => [.int e11])) ?_ (fun e11 h12 => ?_)
    · refine zg_if_ge d_X5_howFar_42 ?_ ?_
      · refine zg_iload 4 rfl d_X5_howFar_51 ?_
        exact zg_finK (E := 0) [1, 2, 3, 0, 4] rfl rfl (fun q => q)
      · refine zg_iload 4 rfl d_X5_howFar_45 ?_
        refine zg_ineg d_X5_howFar_47 ?_
        refine zg_goto d_X5_howFar_48 ?_
        exact zg_finK (E := 0) [1, 2, 3, 0, 4] rfl rfl (fun q => q)
    · refine zg_istore [(4, .int e11), (0, .ref a0), (1, .int a1), (2, .int a2), (3, .int e9)] d_X5_howFar_53 (by decide) rfl ?_
      refine zg_iload_n 4 rfl d_X5_howFar_55 ?_
      refine zg_iload 0 rfl d_X5_howFar_56 ?_
      refine zg_icmp_le d_X5_howFar_58 ?_ ?_
      · refine zg_iload 0 rfl d_X5_howFar_65 ?_
        exact zg_iretK d_X5_howFar_67 rfl ⟨Nat.le_of_ble_eq_true rfl, Nat.le_of_ble_eq_true rfl⟩ (fun q => q)
      · refine zg_iload_n 4 rfl d_X5_howFar_61 ?_
        refine zg_goto d_X5_howFar_62 ?_
        exact zg_iretK d_X5_howFar_67 rfl ⟨Nat.le_of_ble_eq_true rfl, Nat.le_of_ble_eq_true rfl⟩ (fun q => q)
abbrev M_X5_canSee : zMt := (RX5, cX5_canSee, 3, 2, 84, (some .boolean), "canSee", 0, 0)
theorem d_X5_canSee_0 : zDc M_X5_canSee 0 (.aload_n 0) 1 1 := ⟨by decide +kernel, rfl⟩
theorem d_X5_canSee_1 : zDc M_X5_canSee 1 (.iload_n 1) 1 2 := ⟨by decide +kernel, rfl⟩
theorem d_X5_canSee_2 : zDc M_X5_canSee 2 (.iload_n 2) 1 3 := ⟨by decide +kernel, rfl⟩
theorem d_X5_canSee_3 : zDc M_X5_canSee 3 (.invokevirtual 97) 3 6 := ⟨by decide +kernel, rfl⟩
theorem d_X5_canSee_6 : zDc M_X5_canSee 6 (.aload_n 0) 1 7 := ⟨by decide +kernel, rfl⟩
theorem d_X5_canSee_7 : zDc M_X5_canSee 7 (.getfield 50) 3 10 := ⟨by decide +kernel, rfl⟩
theorem d_X5_canSee_10 : zDc M_X5_canSee 10 (.getfield 101) 3 13 := ⟨by decide +kernel, rfl⟩
theorem d_X5_canSee_13 : zDc M_X5_canSee 13 (.iload_n 1) 1 14 := ⟨by decide +kernel, rfl⟩
theorem d_X5_canSee_14 : zDc M_X5_canSee 14 (.iaload) 1 15 := ⟨by decide +kernel, rfl⟩
theorem d_X5_canSee_15 : zDj M_X5_canSee 15 (.if_icmp .gt 7) 7 18 22 := ⟨by decide +kernel, rfl, by decide⟩
theorem d_X5_canSee_18 : zDc M_X5_canSee 18 (.iconst 1) 1 19 := ⟨by decide +kernel, rfl⟩
theorem d_X5_canSee_19 : zDj M_X5_canSee 19 (.goto 4) 4 22 23 := ⟨by decide +kernel, rfl, by decide⟩
theorem d_X5_canSee_22 : zDc M_X5_canSee 22 (.iconst 0) 1 23 := ⟨by decide +kernel, rfl⟩
theorem d_X5_canSee_23 : zDc M_X5_canSee 23 (.ireturn) 1 24 := ⟨by decide +kernel, rfl⟩
def f_X5_canSee (a0 : Nat) (a1 : Int32) (a2 : Int32) (h0 : zHp) : Option (Int32 × zHp) :=
  zbd (zcv 5 a0 h0 (f_X5_howFar a0 a1 a2 h0)) (fun v2 h1 =>
  zob (zgR h1 a0 5 14) (fun v3 =>
  zob (zgR h1 v3 6 10) (fun v4 =>
  zob (zaI 0 h1 v4 a1) (fun v5 =>
  if v5 < v2 then
  some (0, h1)
  else
  some (1, h1)))))
set_option maxRecDepth 100000 in
set_option maxHeartbeats 4000000 in
theorem t_X5_canSee (a0 : Nat) (a1 : Int32) (a2 : Int32) (h0 : zHp) : ∀ (r : Int32) (h' : zHp), f_X5_canSee a0 a1 a2 h0 = some (r, h') → zCt yX5_canSee (.code yX5_canSee cX5_canSee 3 (some .boolean)) 2 84 0 0 [.ref a0, .int a1, .int a2] h0 (some (.int r)) h' := by
  refine zct_of M_X5_canSee yX5_canSee (by decide) rfl rfl [.ref a0, .int a1, .int a2] h0 (Nat.le_of_ble_eq_true rfl) (fun r => some (.int r)) (fun X => ?_)
  show zG X M_X5_canSee (0, 0) 0 [(0, .ref a0), (1, .int a1), (2, .int a2)] [] h0 (f_X5_canSee a0 a1 a2 h0) (fun (r : Int32) h' => zKe X (some (.int r)) h')
  unfold f_X5_canSee
  refine zg_aload_n 0 rfl d_X5_canSee_0 ?_
  refine zg_iload_n 1 rfl d_X5_canSee_1 ?_
  refine zg_iload_n 2 rfl d_X5_canSee_2 ?_
  refine zg_cVi (b := a0) (As := [.int a1, .int a2]) (rest := []) (0, 0) d_X5_canSee_3 zc_5 rfl cw_X5_97 wi_X5_howFar ws_X5_howFar rfl rfl (Nat.le_of_ble_eq_true rfl) (by decide) (by decide) ⟨by decide, by decide⟩ rfl (t_X5_howFar a0 a1 a2 h0) (fun v2 h1 => ?_)
  refine zg_aload_n 0 rfl d_X5_canSee_6 ?_
  refine zg_getR d_X5_canSee_7 zc_5 (by decide) fl_X5_50 (fun v3 => ?_)
  refine zg_getR d_X5_canSee_10 zc_6 (by decide) fl_X5_101 (fun v4 => ?_)
  refine zg_iload_n 1 rfl d_X5_canSee_13 ?_
  refine zg_ald0 d_X5_canSee_14 (fun v5 => ?_)
  refine zg_icmp_gt d_X5_canSee_15 ?_ ?_
  · refine zg_iconst 0 rfl d_X5_canSee_22 ?_
    exact zg_zretK d_X5_canSee_23 rfl ⟨Nat.le_of_ble_eq_true rfl, Nat.le_of_ble_eq_true rfl⟩ (Or.inl rfl) (fun q => q)
  · refine zg_iconst 1 rfl d_X5_canSee_18 ?_
    refine zg_goto d_X5_canSee_19 ?_
    exact zg_zretK d_X5_canSee_23 rfl ⟨Nat.le_of_ble_eq_true rfl, Nat.le_of_ble_eq_true rfl⟩ (Or.inr rfl) (fun q => q)
abbrev M_X5_ownInSky : zMt := (RX5, cX5_ownInSky, 4, 2, 81, (some .int), "ownInSky", 0, 0)
theorem d_X5_ownInSky_0 : zDc M_X5_ownInSky 0 (.iconst 0) 1 1 := ⟨by decide +kernel, rfl⟩
theorem d_X5_ownInSky_1 : zDc M_X5_ownInSky 1 (.istore_n 2) 1 2 := ⟨by decide +kernel, rfl⟩
theorem d_X5_ownInSky_2 : zDc M_X5_ownInSky 2 (.iconst 0) 1 3 := ⟨by decide +kernel, rfl⟩
theorem d_X5_ownInSky_3 : zDc M_X5_ownInSky 3 (.istore_n 3) 1 4 := ⟨by decide +kernel, rfl⟩
theorem d_X5_ownInSky_4 : zDc M_X5_ownInSky 4 (.iload_n 3) 1 5 := ⟨by decide +kernel, rfl⟩
theorem d_X5_ownInSky_5 : zDc M_X5_ownInSky 5 (.aload_n 0) 1 6 := ⟨by decide +kernel, rfl⟩
theorem d_X5_ownInSky_6 : zDc M_X5_ownInSky 6 (.getfield 50) 3 9 := ⟨by decide +kernel, rfl⟩
theorem d_X5_ownInSky_9 : zDc M_X5_ownInSky 9 (.getfield 90) 3 12 := ⟨by decide +kernel, rfl⟩
theorem d_X5_ownInSky_12 : zDj M_X5_ownInSky 12 (.if_icmp .ge 30) 30 15 42 := ⟨by decide +kernel, rfl, by decide⟩
theorem d_X5_ownInSky_15 : zDc M_X5_ownInSky 15 (.aload_n 0) 1 16 := ⟨by decide +kernel, rfl⟩
theorem d_X5_ownInSky_16 : zDc M_X5_ownInSky 16 (.iload_n 3) 1 17 := ⟨by decide +kernel, rfl⟩
theorem d_X5_ownInSky_17 : zDc M_X5_ownInSky 17 (.invokevirtual 93) 3 20 := ⟨by decide +kernel, rfl⟩
theorem d_X5_ownInSky_20 : zDj M_X5_ownInSky 20 (.ifCond .eq 16) 16 23 36 := ⟨by decide +kernel, rfl, by decide⟩
theorem d_X5_ownInSky_23 : zDc M_X5_ownInSky 23 (.aload_n 0) 1 24 := ⟨by decide +kernel, rfl⟩
theorem d_X5_ownInSky_24 : zDc M_X5_ownInSky 24 (.getfield 24) 3 27 := ⟨by decide +kernel, rfl⟩
theorem d_X5_ownInSky_27 : zDc M_X5_ownInSky 27 (.iload_n 3) 1 28 := ⟨by decide +kernel, rfl⟩
theorem d_X5_ownInSky_28 : zDc M_X5_ownInSky 28 (.iaload) 1 29 := ⟨by decide +kernel, rfl⟩
theorem d_X5_ownInSky_29 : zDc M_X5_ownInSky 29 (.iload_n 1) 1 30 := ⟨by decide +kernel, rfl⟩
theorem d_X5_ownInSky_30 : zDj M_X5_ownInSky 30 (.if_icmp .ne 6) 6 33 36 := ⟨by decide +kernel, rfl, by decide⟩
theorem d_X5_ownInSky_33 : zDc M_X5_ownInSky 33 (.iinc 2 1) 3 36 := ⟨by decide +kernel, rfl⟩
theorem d_X5_ownInSky_36 : zDc M_X5_ownInSky 36 (.iinc 3 1) 3 39 := ⟨by decide +kernel, rfl⟩
theorem d_X5_ownInSky_39 : zDj M_X5_ownInSky 39 (.goto (-35)) (-35) 42 4 := ⟨by decide +kernel, rfl, by decide⟩
theorem d_X5_ownInSky_42 : zDc M_X5_ownInSky 42 (.iload_n 2) 1 43 := ⟨by decide +kernel, rfl⟩
theorem d_X5_ownInSky_43 : zDc M_X5_ownInSky 43 (.ireturn) 1 44 := ⟨by decide +kernel, rfl⟩
def f_X5_ownInSky (a0 : Nat) (a1 : Int32) (h0 : zHp) : Option (Int32 × zHp) :=
  zbd (
  zlp (σ := (Int32 × Int32)) (β := (Int32 × Int32)) zLF (fun s1 h2 =>
  zob (zgR h2 a0 5 14) (fun v5 =>
  zob (zgI h2 v5 6 14) (fun v6 =>
  if v6 ≤ s1.2 then
  some ((.inr (s1.1, s1.2)), h2)
  else
  zbd (zcv 5 a0 h2 (f_X5_isUp a0 s1.2 h2)) (fun v8 h7 =>
  if v8 = 0 then
  some ((.inl (s1.1, (s1.2 + 1))), h7)
  else
  zob (zgR h7 a0 5 4) (fun v9 =>
  zob (zaI 0 h7 v9 s1.2) (fun v10 =>
  if v10 = a1 then
  some ((.inl ((s1.1 + 1), (s1.2 + 1))), h7)
  else
  some ((.inl (s1.1, (s1.2 + 1))), h7))))))) (0, 0) h0) (fun e3 h4 =>
  some (e3.1, h4))
set_option maxRecDepth 100000 in
set_option maxHeartbeats 4000000 in
theorem t_X5_ownInSky (a0 : Nat) (a1 : Int32) (h0 : zHp) : ∀ (r : Int32) (h' : zHp), f_X5_ownInSky a0 a1 h0 = some (r, h') → zCt yX5_ownInSky (.code yX5_ownInSky cX5_ownInSky 4 (some .int)) 2 81 0 0 [.ref a0, .int a1] h0 (some (.int r)) h' := by
  refine zct_of M_X5_ownInSky yX5_ownInSky (by decide) rfl rfl [.ref a0, .int a1] h0 (Nat.le_of_ble_eq_true rfl) (fun r => some (.int r)) (fun X => ?_)
  show zG X M_X5_ownInSky (0, 0) 0 [(0, .ref a0), (1, .int a1)] [] h0 (f_X5_ownInSky a0 a1 h0) (fun (r : Int32) h' => zKe X (some (.int r)) h')
  unfold f_X5_ownInSky
  refine zg_iconst 0 rfl d_X5_ownInSky_0 ?_
  refine zg_istore_n [(2, .int 0), (0, .ref a0), (1, .int a1)] d_X5_ownInSky_1 rfl (by decide) rfl ?_
  refine zg_iconst 0 rfl d_X5_ownInSky_2 ?_
  refine zg_istore_n [(3, .int 0), (2, .int 0), (0, .ref a0), (1, .int a1)] d_X5_ownInSky_3 rfl (by decide) rfl ?_
  refine zg_bd (E := 42) (el := (fun (e3 : (Int32 × Int32)) => [(0, .ref a0), (1, .int a1), (2, .int e3.1), (3, .int e3.2)])) (es := fun _ => []) (zg_sub [2, 3, 1, 0] rfl (zg_lp (el := (fun (s1 : (Int32 × Int32)) => [(0, .ref a0), (1, .int a1), (2, .int s1.1), (3, .int s1.2)])) (fun s1 h2 => ?_) (0, 0) h0)) (fun e3 h4 => ?_)
  · refine zg_iload_n 3 rfl d_X5_ownInSky_4 ?_
    refine zg_aload_n 0 rfl d_X5_ownInSky_5 ?_
    refine zg_getR d_X5_ownInSky_6 zc_5 (by decide) fl_X5_50 (fun v5 => ?_)
    refine zg_getI d_X5_ownInSky_9 zc_6 (by decide) fl_X5_90 (fun v6 => ?_)
    refine zg_icmp_ge d_X5_ownInSky_12 ?_ ?_
    · exact zg_finK (E := 0) [0, 1, 2, 3] rfl rfl (fun q => q)
    · refine zg_aload_n 0 rfl d_X5_ownInSky_15 ?_
      refine zg_iload_n 3 rfl d_X5_ownInSky_16 ?_
      refine zg_cVi (b := a0) (As := [.int s1.2]) (rest := []) (0, 0) d_X5_ownInSky_17 zc_5 rfl cw_X5_93 wi_X5_isUp ws_X5_isUp rfl rfl (Nat.le_of_ble_eq_true rfl) (by decide) (by decide) ⟨by decide, by decide⟩ rfl (t_X5_isUp a0 s1.2 h2) (fun v8 h7 => ?_)
      refine zg_if_eq d_X5_ownInSky_20 ?_ ?_
      · refine zg_iinc 3 (s1.2 + 1) [(3, .int (s1.2 + 1)), (0, .ref a0), (1, .int a1), (2, .int s1.1)] d_X5_ownInSky_36 rfl rfl (by decide) rfl ?_
        refine zg_goto d_X5_ownInSky_39 ?_
        exact zg_finK (E := 0) [1, 2, 3, 0] rfl rfl (fun q => q)
      · refine zg_aload_n 0 rfl d_X5_ownInSky_23 ?_
        refine zg_getR d_X5_ownInSky_24 zc_5 (by decide) fl_X5_24 (fun v9 => ?_)
        refine zg_iload_n 3 rfl d_X5_ownInSky_27 ?_
        refine zg_ald0 d_X5_ownInSky_28 (fun v10 => ?_)
        refine zg_iload_n 1 rfl d_X5_ownInSky_29 ?_
        refine zg_icmp_ne d_X5_ownInSky_30 ?_ ?_
        · refine zg_iinc 2 (s1.1 + 1) [(2, .int (s1.1 + 1)), (0, .ref a0), (1, .int a1), (3, .int s1.2)] d_X5_ownInSky_33 rfl rfl (by decide) rfl ?_
          refine zg_iinc 3 (s1.2 + 1) [(3, .int (s1.2 + 1)), (2, .int (s1.1 + 1)), (0, .ref a0), (1, .int a1)] d_X5_ownInSky_36 rfl rfl (by decide) rfl ?_
          refine zg_goto d_X5_ownInSky_39 ?_
          exact zg_finK (E := 0) [2, 3, 1, 0] rfl rfl (fun q => q)
        · refine zg_iinc 3 (s1.2 + 1) [(3, .int (s1.2 + 1)), (0, .ref a0), (1, .int a1), (2, .int s1.1)] d_X5_ownInSky_36 rfl rfl (by decide) rfl ?_
          refine zg_goto d_X5_ownInSky_39 ?_
          exact zg_finK (E := 0) [1, 2, 3, 0] rfl rfl (fun q => q)
  · refine zg_iload_n 2 rfl d_X5_ownInSky_42 ?_
    exact zg_iretK d_X5_ownInSky_43 rfl ⟨Nat.le_of_ble_eq_true rfl, Nat.le_of_ble_eq_true rfl⟩ (fun q => q)
abbrev M_X5_whoTakes : zMt := (RX5, cX5_whoTakes, 5, 3, 106, (some .int), "whoTakes", 0, 0)
theorem d_X5_whoTakes_0 : zDc M_X5_whoTakes 0 (.iconst (-1)) 1 1 := ⟨by decide +kernel, rfl⟩
theorem d_X5_whoTakes_1 : zDc M_X5_whoTakes 1 (.istore_n 2) 1 2 := ⟨by decide +kernel, rfl⟩
theorem d_X5_whoTakes_2 : zDc M_X5_whoTakes 2 (.aload_n 0) 1 3 := ⟨by decide +kernel, rfl⟩
theorem d_X5_whoTakes_3 : zDc M_X5_whoTakes 3 (.getfield 50) 3 6 := ⟨by decide +kernel, rfl⟩
theorem d_X5_whoTakes_6 : zDc M_X5_whoTakes 6 (.getfield 217) 3 9 := ⟨by decide +kernel, rfl⟩
theorem d_X5_whoTakes_9 : zDc M_X5_whoTakes 9 (.istore_n 3) 1 10 := ⟨by decide +kernel, rfl⟩
theorem d_X5_whoTakes_10 : zDc M_X5_whoTakes 10 (.iconst 0) 1 11 := ⟨by decide +kernel, rfl⟩
theorem d_X5_whoTakes_11 : zDc M_X5_whoTakes 11 (.istore 4) 2 13 := ⟨by decide +kernel, rfl⟩
theorem d_X5_whoTakes_13 : zDc M_X5_whoTakes 13 (.iload 4) 2 15 := ⟨by decide +kernel, rfl⟩
theorem d_X5_whoTakes_15 : zDc M_X5_whoTakes 15 (.aload_n 0) 1 16 := ⟨by decide +kernel, rfl⟩
theorem d_X5_whoTakes_16 : zDc M_X5_whoTakes 16 (.getfield 50) 3 19 := ⟨by decide +kernel, rfl⟩
theorem d_X5_whoTakes_19 : zDc M_X5_whoTakes 19 (.getfield 117) 3 22 := ⟨by decide +kernel, rfl⟩
theorem d_X5_whoTakes_22 : zDj M_X5_whoTakes 22 (.if_icmp .ge 39) 39 25 61 := ⟨by decide +kernel, rfl, by decide⟩
theorem d_X5_whoTakes_25 : zDc M_X5_whoTakes 25 (.aload_n 0) 1 26 := ⟨by decide +kernel, rfl⟩
theorem d_X5_whoTakes_26 : zDc M_X5_whoTakes 26 (.iload 4) 2 28 := ⟨by decide +kernel, rfl⟩
theorem d_X5_whoTakes_28 : zDc M_X5_whoTakes 28 (.iload_n 1) 1 29 := ⟨by decide +kernel, rfl⟩
theorem d_X5_whoTakes_29 : zDc M_X5_whoTakes 29 (.invokevirtual 123) 3 32 := ⟨by decide +kernel, rfl⟩
theorem d_X5_whoTakes_32 : zDj M_X5_whoTakes 32 (.ifCond .eq 23) 23 35 55 := ⟨by decide +kernel, rfl, by decide⟩
theorem d_X5_whoTakes_35 : zDc M_X5_whoTakes 35 (.aload_n 0) 1 36 := ⟨by decide +kernel, rfl⟩
theorem d_X5_whoTakes_36 : zDc M_X5_whoTakes 36 (.iload 4) 2 38 := ⟨by decide +kernel, rfl⟩
theorem d_X5_whoTakes_38 : zDc M_X5_whoTakes 38 (.invokevirtual 220) 3 41 := ⟨by decide +kernel, rfl⟩
theorem d_X5_whoTakes_41 : zDc M_X5_whoTakes 41 (.iload_n 3) 1 42 := ⟨by decide +kernel, rfl⟩
theorem d_X5_whoTakes_42 : zDj M_X5_whoTakes 42 (.if_icmp .ge 13) 13 45 55 := ⟨by decide +kernel, rfl, by decide⟩
theorem d_X5_whoTakes_45 : zDc M_X5_whoTakes 45 (.aload_n 0) 1 46 := ⟨by decide +kernel, rfl⟩
theorem d_X5_whoTakes_46 : zDc M_X5_whoTakes 46 (.iload 4) 2 48 := ⟨by decide +kernel, rfl⟩
theorem d_X5_whoTakes_48 : zDc M_X5_whoTakes 48 (.invokevirtual 220) 3 51 := ⟨by decide +kernel, rfl⟩
theorem d_X5_whoTakes_51 : zDc M_X5_whoTakes 51 (.istore_n 3) 1 52 := ⟨by decide +kernel, rfl⟩
theorem d_X5_whoTakes_52 : zDc M_X5_whoTakes 52 (.iload 4) 2 54 := ⟨by decide +kernel, rfl⟩
theorem d_X5_whoTakes_54 : zDc M_X5_whoTakes 54 (.istore_n 2) 1 55 := ⟨by decide +kernel, rfl⟩
theorem d_X5_whoTakes_55 : zDc M_X5_whoTakes 55 (.iinc 4 1) 3 58 := ⟨by decide +kernel, rfl⟩
theorem d_X5_whoTakes_58 : zDj M_X5_whoTakes 58 (.goto (-45)) (-45) 61 13 := ⟨by decide +kernel, rfl, by decide⟩
theorem d_X5_whoTakes_61 : zDc M_X5_whoTakes 61 (.iload_n 2) 1 62 := ⟨by decide +kernel, rfl⟩
theorem d_X5_whoTakes_62 : zDc M_X5_whoTakes 62 (.ireturn) 1 63 := ⟨by decide +kernel, rfl⟩
def f_X5_whoTakes (a0 : Nat) (a1 : Int32) (h0 : zHp) : Option (Int32 × zHp) :=
  zob (zgR h0 a0 5 14) (fun v1 =>
  zob (zgI h0 v1 6 18) (fun v2 =>
  zbd (
  zlp (σ := (Int32 × Int32 × Int32)) (β := (Int32 × Int32 × Int32)) zLF (fun s3 h4 =>
  zob (zgR h4 a0 5 14) (fun v7 =>
  zob (zgI h4 v7 6 15) (fun v8 =>
  if v8 ≤ s3.2.2 then
  some ((.inr (s3.1, s3.2.1, s3.2.2)), h4)
  else
  zbd (zcv 5 a0 h4 (f_X5_canSee a0 s3.2.2 a1 h4)) (fun v10 h9 =>
  if v10 = 0 then
  some ((.inl (s3.1, s3.2.1, (s3.2.2 + 1))), h9)
  else
  zbd (zcv 5 a0 h9 (f_X5_ownInSky a0 s3.2.2 h9)) (fun v12 h11 =>
  if s3.2.1 ≤ v12 then
  some ((.inl (s3.1, s3.2.1, (s3.2.2 + 1))), h11)
  else
  zbd (zcv 5 a0 h11 (f_X5_ownInSky a0 s3.2.2 h11)) (fun v14 h13 =>
  some ((.inl (s3.2.2, v14, (s3.2.2 + 1))), h13))))))) ((-1), v2, 0) h0) (fun e5 h6 =>
  some (e5.1, h6))))
set_option maxRecDepth 100000 in
set_option maxHeartbeats 4000000 in
theorem t_X5_whoTakes (a0 : Nat) (a1 : Int32) (h0 : zHp) : ∀ (r : Int32) (h' : zHp), f_X5_whoTakes a0 a1 h0 = some (r, h') → zCt yX5_whoTakes (.code yX5_whoTakes cX5_whoTakes 5 (some .int)) 3 106 0 0 [.ref a0, .int a1] h0 (some (.int r)) h' := by
  refine zct_of M_X5_whoTakes yX5_whoTakes (by decide) rfl rfl [.ref a0, .int a1] h0 (Nat.le_of_ble_eq_true rfl) (fun r => some (.int r)) (fun X => ?_)
  show zG X M_X5_whoTakes (0, 0) 0 [(0, .ref a0), (1, .int a1)] [] h0 (f_X5_whoTakes a0 a1 h0) (fun (r : Int32) h' => zKe X (some (.int r)) h')
  unfold f_X5_whoTakes
  refine zg_iconst (-1) rfl d_X5_whoTakes_0 ?_
  refine zg_istore_n [(2, .int (-1)), (0, .ref a0), (1, .int a1)] d_X5_whoTakes_1 rfl (by decide) rfl ?_
  refine zg_aload_n 1 rfl d_X5_whoTakes_2 ?_
  refine zg_getR d_X5_whoTakes_3 zc_5 (by decide) fl_X5_50 (fun v1 => ?_)
  refine zg_getI d_X5_whoTakes_6 zc_6 (by decide) fl_X5_217 (fun v2 => ?_)
  refine zg_istore_n [(3, .int v2), (2, .int (-1)), (0, .ref a0), (1, .int a1)] d_X5_whoTakes_9 rfl (by decide) rfl ?_
  refine zg_iconst 0 rfl d_X5_whoTakes_10 ?_
  refine zg_istore [(4, .int 0), (3, .int v2), (2, .int (-1)), (0, .ref a0), (1, .int a1)] d_X5_whoTakes_11 (by decide) rfl ?_
  refine zg_bd (E := 61) (el := (fun (e5 : (Int32 × Int32 × Int32)) => [(0, .ref a0), (1, .int a1), (2, .int e5.1), (3, .int e5.2.1), (4, .int e5.2.2)])) (es := fun _ => []) (zg_sub [3, 4, 2, 1, 0] rfl (zg_lp (el := (fun (s3 : (Int32 × Int32 × Int32)) => [(0, .ref a0), (1, .int a1), (2, .int s3.1), (3, .int s3.2.1), (4, .int s3.2.2)])) (fun s3 h4 => ?_) ((-1), v2, 0) h0)) (fun e5 h6 => ?_)
  · refine zg_iload 4 rfl d_X5_whoTakes_13 ?_
    refine zg_aload_n 0 rfl d_X5_whoTakes_15 ?_
    refine zg_getR d_X5_whoTakes_16 zc_5 (by decide) fl_X5_50 (fun v7 => ?_)
    refine zg_getI d_X5_whoTakes_19 zc_6 (by decide) fl_X5_117 (fun v8 => ?_)
    refine zg_icmp_ge d_X5_whoTakes_22 ?_ ?_
    · exact zg_finK (E := 0) [0, 1, 2, 3, 4] rfl rfl (fun q => q)
    · refine zg_aload_n 0 rfl d_X5_whoTakes_25 ?_
      refine zg_iload 4 rfl d_X5_whoTakes_26 ?_
      refine zg_iload_n 1 rfl d_X5_whoTakes_28 ?_
      refine zg_cVi (b := a0) (As := [.int s3.2.2, .int a1]) (rest := []) (0, 0) d_X5_whoTakes_29 zc_5 rfl cw_X5_123 wi_X5_canSee ws_X5_canSee rfl rfl (Nat.le_of_ble_eq_true rfl) (by decide) (by decide) ⟨by decide, by decide⟩ rfl (t_X5_canSee a0 s3.2.2 a1 h4) (fun v10 h9 => ?_)
      refine zg_if_eq d_X5_whoTakes_32 ?_ ?_
      · refine zg_iinc 4 (s3.2.2 + 1) [(4, .int (s3.2.2 + 1)), (0, .ref a0), (1, .int a1), (2, .int s3.1), (3, .int s3.2.1)] d_X5_whoTakes_55 rfl rfl (by decide) rfl ?_
        refine zg_goto d_X5_whoTakes_58 ?_
        exact zg_finK (E := 0) [1, 2, 3, 4, 0] rfl rfl (fun q => q)
      · refine zg_aload_n 0 rfl d_X5_whoTakes_35 ?_
        refine zg_iload 4 rfl d_X5_whoTakes_36 ?_
        refine zg_cVi (b := a0) (As := [.int s3.2.2]) (rest := []) (0, 0) d_X5_whoTakes_38 zc_5 rfl cw_X5_220 wi_X5_ownInSky ws_X5_ownInSky rfl rfl (Nat.le_of_ble_eq_true rfl) (by decide) (by decide) ⟨by decide, by decide⟩ rfl (t_X5_ownInSky a0 s3.2.2 h9) (fun v12 h11 => ?_)
        refine zg_iload_n 3 rfl d_X5_whoTakes_41 ?_
        refine zg_icmp_ge d_X5_whoTakes_42 ?_ ?_
        · refine zg_iinc 4 (s3.2.2 + 1) [(4, .int (s3.2.2 + 1)), (0, .ref a0), (1, .int a1), (2, .int s3.1), (3, .int s3.2.1)] d_X5_whoTakes_55 rfl rfl (by decide) rfl ?_
          refine zg_goto d_X5_whoTakes_58 ?_
          exact zg_finK (E := 0) [1, 2, 3, 4, 0] rfl rfl (fun q => q)
        · refine zg_aload_n 0 rfl d_X5_whoTakes_45 ?_
          refine zg_iload 4 rfl d_X5_whoTakes_46 ?_
          refine zg_cVi (b := a0) (As := [.int s3.2.2]) (rest := []) (0, 0) d_X5_whoTakes_48 zc_5 rfl cw_X5_220 wi_X5_ownInSky ws_X5_ownInSky rfl rfl (Nat.le_of_ble_eq_true rfl) (by decide) (by decide) ⟨by decide, by decide⟩ rfl (t_X5_ownInSky a0 s3.2.2 h11) (fun v14 h13 => ?_)
          refine zg_istore_n [(3, .int v14), (0, .ref a0), (1, .int a1), (2, .int s3.1), (4, .int s3.2.2)] d_X5_whoTakes_51 rfl (by decide) rfl ?_
          refine zg_iload 4 rfl d_X5_whoTakes_52 ?_
          refine zg_istore_n [(2, .int s3.2.2), (3, .int v14), (0, .ref a0), (1, .int a1), (4, .int s3.2.2)] d_X5_whoTakes_54 rfl (by decide) rfl ?_
          refine zg_iinc 4 (s3.2.2 + 1) [(4, .int (s3.2.2 + 1)), (2, .int s3.2.2), (3, .int v14), (0, .ref a0), (1, .int a1)] d_X5_whoTakes_55 rfl rfl (by decide) rfl ?_
          refine zg_goto d_X5_whoTakes_58 ?_
          exact zg_finK (E := 0) [3, 4, 1, 2, 0] rfl rfl (fun q => q)
  · refine zg_iload_n 2 rfl d_X5_whoTakes_61 ?_
    exact zg_iretK d_X5_whoTakes_62 rfl ⟨Nat.le_of_ble_eq_true rfl, Nat.le_of_ble_eq_true rfl⟩ (fun q => q)
abbrev M_X5_giveOut : zMt := (RX5, cX5_giveOut, 2, 4, 130, none, "giveOut", 0, 0)
theorem d_X5_giveOut_0 : zDc M_X5_giveOut 0 (.iconst 0) 1 1 := ⟨by decide +kernel, rfl⟩
theorem d_X5_giveOut_1 : zDc M_X5_giveOut 1 (.istore_n 1) 1 2 := ⟨by decide +kernel, rfl⟩
theorem d_X5_giveOut_2 : zDc M_X5_giveOut 2 (.iload_n 1) 1 3 := ⟨by decide +kernel, rfl⟩
theorem d_X5_giveOut_3 : zDc M_X5_giveOut 3 (.aload_n 0) 1 4 := ⟨by decide +kernel, rfl⟩
theorem d_X5_giveOut_4 : zDc M_X5_giveOut 4 (.getfield 50) 3 7 := ⟨by decide +kernel, rfl⟩
theorem d_X5_giveOut_7 : zDc M_X5_giveOut 7 (.getfield 90) 3 10 := ⟨by decide +kernel, rfl⟩
theorem d_X5_giveOut_10 : zDj M_X5_giveOut 10 (.if_icmp .ge 38) 38 13 48 := ⟨by decide +kernel, rfl, by decide⟩
theorem d_X5_giveOut_13 : zDc M_X5_giveOut 13 (.aload_n 0) 1 14 := ⟨by decide +kernel, rfl⟩
theorem d_X5_giveOut_14 : zDc M_X5_giveOut 14 (.iload_n 1) 1 15 := ⟨by decide +kernel, rfl⟩
theorem d_X5_giveOut_15 : zDc M_X5_giveOut 15 (.invokevirtual 93) 3 18 := ⟨by decide +kernel, rfl⟩
theorem d_X5_giveOut_18 : zDj M_X5_giveOut 18 (.ifCond .eq 24) 24 21 42 := ⟨by decide +kernel, rfl, by decide⟩
theorem d_X5_giveOut_21 : zDc M_X5_giveOut 21 (.aload_n 0) 1 22 := ⟨by decide +kernel, rfl⟩
theorem d_X5_giveOut_22 : zDc M_X5_giveOut 22 (.getfield 24) 3 25 := ⟨by decide +kernel, rfl⟩
theorem d_X5_giveOut_25 : zDc M_X5_giveOut 25 (.iload_n 1) 1 26 := ⟨by decide +kernel, rfl⟩
theorem d_X5_giveOut_26 : zDc M_X5_giveOut 26 (.iaload) 1 27 := ⟨by decide +kernel, rfl⟩
theorem d_X5_giveOut_27 : zDc M_X5_giveOut 27 (.iconst (-1)) 1 28 := ⟨by decide +kernel, rfl⟩
theorem d_X5_giveOut_28 : zDj M_X5_giveOut 28 (.if_icmp .ne 14) 14 31 42 := ⟨by decide +kernel, rfl, by decide⟩
theorem d_X5_giveOut_31 : zDc M_X5_giveOut 31 (.aload_n 0) 1 32 := ⟨by decide +kernel, rfl⟩
theorem d_X5_giveOut_32 : zDc M_X5_giveOut 32 (.getfield 24) 3 35 := ⟨by decide +kernel, rfl⟩
theorem d_X5_giveOut_35 : zDc M_X5_giveOut 35 (.iload_n 1) 1 36 := ⟨by decide +kernel, rfl⟩
theorem d_X5_giveOut_36 : zDc M_X5_giveOut 36 (.aload_n 0) 1 37 := ⟨by decide +kernel, rfl⟩
theorem d_X5_giveOut_37 : zDc M_X5_giveOut 37 (.iload_n 1) 1 38 := ⟨by decide +kernel, rfl⟩
theorem d_X5_giveOut_38 : zDc M_X5_giveOut 38 (.invokevirtual 214) 3 41 := ⟨by decide +kernel, rfl⟩
theorem d_X5_giveOut_41 : zDc M_X5_giveOut 41 (.iastore) 1 42 := ⟨by decide +kernel, rfl⟩
theorem d_X5_giveOut_42 : zDc M_X5_giveOut 42 (.iinc 1 1) 3 45 := ⟨by decide +kernel, rfl⟩
theorem d_X5_giveOut_45 : zDj M_X5_giveOut 45 (.goto (-43)) (-43) 48 2 := ⟨by decide +kernel, rfl, by decide⟩
theorem d_X5_giveOut_48 : zDc M_X5_giveOut 48 (.return_) 1 49 := ⟨by decide +kernel, rfl⟩
def f_X5_giveOut (a0 : Nat) (h0 : zHp) : Option (Unit × zHp) :=
  zbd (
  zlp (σ := Int32) (β := Int32) zLF (fun s1 h2 =>
  zob (zgR h2 a0 5 14) (fun v5 =>
  zob (zgI h2 v5 6 14) (fun v6 =>
  if v6 ≤ s1 then
  some ((.inr s1), h2)
  else
  zbd (zcv 5 a0 h2 (f_X5_isUp a0 s1 h2)) (fun v8 h7 =>
  if v8 = 0 then
  some ((.inl (s1 + 1)), h7)
  else
  zob (zgR h7 a0 5 4) (fun v9 =>
  zob (zaI 0 h7 v9 s1) (fun v10 =>
  if v10 = (-1) then
  zob (zgR h7 a0 5 4) (fun v11 =>
  zbd (zcv 5 a0 h7 (f_X5_whoTakes a0 s1 h7)) (fun v13 h12 =>
  zob (zsI 0 h12 v11 s1 v13) (fun h14 =>
  some ((.inl (s1 + 1)), h14))))
  else
  some ((.inl (s1 + 1)), h7))))))) 0 h0) (fun e3 h4 =>
  some ((), h4))
set_option maxRecDepth 100000 in
set_option maxHeartbeats 4000000 in
theorem t_X5_giveOut (a0 : Nat) (h0 : zHp) : ∀ (r : Unit) (h' : zHp), f_X5_giveOut a0 h0 = some (r, h') → zCt yX5_giveOut (.code yX5_giveOut cX5_giveOut 2 none) 4 130 0 0 [.ref a0] h0 (none) h' := by
  refine zct_of M_X5_giveOut yX5_giveOut (by decide) rfl rfl [.ref a0] h0 (Nat.le_of_ble_eq_true rfl) (fun _ => none) (fun X => ?_)
  show zG X M_X5_giveOut (0, 0) 0 [(0, .ref a0)] [] h0 (f_X5_giveOut a0 h0) (fun (_ : Unit) h' => zKe X (none) h')
  unfold f_X5_giveOut
  refine zg_iconst 0 rfl d_X5_giveOut_0 ?_
  refine zg_istore_n [(1, .int 0), (0, .ref a0)] d_X5_giveOut_1 rfl (by decide) rfl ?_
  refine zg_bd (E := 48) (el := (fun (e3 : Int32) => [(0, .ref a0), (1, .int e3)])) (es := fun _ => []) (zg_sub [1, 0] rfl (zg_lp (el := (fun (s1 : Int32) => [(0, .ref a0), (1, .int s1)])) (fun s1 h2 => ?_) 0 h0)) (fun e3 h4 => ?_)
  · refine zg_iload_n 1 rfl d_X5_giveOut_2 ?_
    refine zg_aload_n 0 rfl d_X5_giveOut_3 ?_
    refine zg_getR d_X5_giveOut_4 zc_5 (by decide) fl_X5_50 (fun v5 => ?_)
    refine zg_getI d_X5_giveOut_7 zc_6 (by decide) fl_X5_90 (fun v6 => ?_)
    refine zg_icmp_ge d_X5_giveOut_10 ?_ ?_
    · exact zg_finK (E := 0) [0, 1] rfl rfl (fun q => q)
    · refine zg_aload_n 0 rfl d_X5_giveOut_13 ?_
      refine zg_iload_n 1 rfl d_X5_giveOut_14 ?_
      refine zg_cVi (b := a0) (As := [.int s1]) (rest := []) (0, 0) d_X5_giveOut_15 zc_5 rfl cw_X5_93 wi_X5_isUp ws_X5_isUp rfl rfl (Nat.le_of_ble_eq_true rfl) (by decide) (by decide) ⟨by decide, by decide⟩ rfl (t_X5_isUp a0 s1 h2) (fun v8 h7 => ?_)
      refine zg_if_eq d_X5_giveOut_18 ?_ ?_
      · refine zg_iinc 1 (s1 + 1) [(1, .int (s1 + 1)), (0, .ref a0)] d_X5_giveOut_42 rfl rfl (by decide) rfl ?_
        refine zg_goto d_X5_giveOut_45 ?_
        exact zg_finK (E := 0) [1, 0] rfl rfl (fun q => q)
      · refine zg_aload_n 0 rfl d_X5_giveOut_21 ?_
        refine zg_getR d_X5_giveOut_22 zc_5 (by decide) fl_X5_24 (fun v9 => ?_)
        refine zg_iload_n 1 rfl d_X5_giveOut_25 ?_
        refine zg_ald0 d_X5_giveOut_26 (fun v10 => ?_)
        refine zg_iconst (-1) rfl d_X5_giveOut_27 ?_
        refine zg_icmp_ne d_X5_giveOut_28 ?_ ?_
        · refine zg_aload_n 0 rfl d_X5_giveOut_31 ?_
          refine zg_getR d_X5_giveOut_32 zc_5 (by decide) fl_X5_24 (fun v11 => ?_)
          refine zg_iload_n 1 rfl d_X5_giveOut_35 ?_
          refine zg_aload_n 0 rfl d_X5_giveOut_36 ?_
          refine zg_iload_n 1 rfl d_X5_giveOut_37 ?_
          refine zg_cVi (b := a0) (As := [.int s1]) (rest := [.int s1, .ref v11]) (0, 0) d_X5_giveOut_38 zc_5 rfl cw_X5_214 wi_X5_whoTakes ws_X5_whoTakes rfl rfl (Nat.le_of_ble_eq_true rfl) (by decide) (by decide) ⟨by decide, by decide⟩ rfl (t_X5_whoTakes a0 s1 h7) (fun v13 h12 => ?_)
          refine zg_ast0 d_X5_giveOut_41 (fun h14 => ?_)
          refine zg_iinc 1 (s1 + 1) [(1, .int (s1 + 1)), (0, .ref a0)] d_X5_giveOut_42 rfl rfl (by decide) rfl ?_
          refine zg_goto d_X5_giveOut_45 ?_
          exact zg_finK (E := 0) [1, 0] rfl rfl (fun q => q)
        · refine zg_iinc 1 (s1 + 1) [(1, .int (s1 + 1)), (0, .ref a0)] d_X5_giveOut_42 rfl rfl (by decide) rfl ?_
          refine zg_goto d_X5_giveOut_45 ?_
          exact zg_finK (E := 0) [1, 0] rfl rfl (fun q => q)
  · exact zg_vretK d_X5_giveOut_48 rfl ⟨Nat.le_of_ble_eq_true rfl, Nat.le_of_ble_eq_true rfl⟩ (fun q => q)
abbrev M_X5_bounded : zMt := (RX5, cX5_bounded, 4, 1, 60, (some .int), "bounded", 0, 0)
theorem d_X5_bounded_0 : zDc M_X5_bounded 0 (.lload_n 0) 1 1 := ⟨by decide +kernel, rfl⟩
theorem d_X5_bounded_1 : zDc M_X5_bounded 1 (.ldc2_w 146) 3 4 := ⟨by decide +kernel, rfl⟩
theorem d_X5_bounded_4 : zDc M_X5_bounded 4 (.lcmp) 1 5 := ⟨by decide +kernel, rfl⟩
theorem d_X5_bounded_5 : zDj M_X5_bounded 5 (.ifCond .ne 7) 7 8 12 := ⟨by decide +kernel, rfl, by decide⟩
theorem d_X5_bounded_8 : zDc M_X5_bounded 8 (.iload_n 3) 1 9 := ⟨by decide +kernel, rfl⟩
theorem d_X5_bounded_9 : zDj M_X5_bounded 9 (.goto 14) 14 12 23 := ⟨by decide +kernel, rfl, by decide⟩
theorem d_X5_bounded_12 : zDc M_X5_bounded 12 (.lconst 0) 1 13 := ⟨by decide +kernel, rfl⟩
theorem d_X5_bounded_13 : zDc M_X5_bounded 13 (.iload_n 2) 1 14 := ⟨by decide +kernel, rfl⟩
theorem d_X5_bounded_14 : zDc M_X5_bounded 14 (.i2l) 1 15 := ⟨by decide +kernel, rfl⟩
theorem d_X5_bounded_15 : zDc M_X5_bounded 15 (.lload_n 0) 1 16 := ⟨by decide +kernel, rfl⟩
theorem d_X5_bounded_16 : zDc M_X5_bounded 16 (.invokestatic 183) 3 19 := ⟨by decide +kernel, rfl⟩
theorem d_X5_bounded_19 : zDc M_X5_bounded 19 (.invokestatic 187) 3 22 := ⟨by decide +kernel, rfl⟩
theorem d_X5_bounded_22 : zDc M_X5_bounded 22 (.l2i) 1 23 := ⟨by decide +kernel, rfl⟩
theorem d_X5_bounded_23 : zDc M_X5_bounded 23 (.ireturn) 1 24 := ⟨by decide +kernel, rfl⟩
def f_X5_bounded (a0 : Int64) (a1 : Int32) (a2 : Int32) (h0 : zHp) : Option (Int32 × zHp) :=
  if (lg_cmp a0 (-9223372036854775808)) = 0 then
  some (a2, h0)
  else
  some ((Int64.toInt32 (zmxL 0 (zmnL (Int32.toInt64 a1) a0))), h0)
set_option maxRecDepth 100000 in
set_option maxHeartbeats 4000000 in
theorem t_X5_bounded (a0 : Int64) (a1 : Int32) (a2 : Int32) (h0 : zHp) : ∀ (r : Int32) (h' : zHp), f_X5_bounded a0 a1 a2 h0 = some (r, h') → zCt yX5_bounded (.code yX5_bounded cX5_bounded 4 (some .int)) 1 60 0 0 [.long a0, .int a1, .int a2] h0 (some (.int r)) h' := by
  refine zct_of M_X5_bounded yX5_bounded (by decide) rfl rfl [.long a0, .int a1, .int a2] h0 (Nat.le_of_ble_eq_true rfl) (fun r => some (.int r)) (fun X => ?_)
  show zG X M_X5_bounded (0, 0) 0 [(0, .long a0), (2, .int a1), (3, .int a2)] [] h0 (f_X5_bounded a0 a1 a2 h0) (fun (r : Int32) h' => zKe X (some (.int r)) h')
  unfold f_X5_bounded
  refine zg_lload_n 0 rfl d_X5_bounded_0 ?_
  refine zg_ldc2 kl_X5_146 d_X5_bounded_1 ?_
  refine zg_lcmp d_X5_bounded_4 ?_
  refine zg_if_ne d_X5_bounded_5 ?_ ?_
  · refine zg_iload_n 2 rfl d_X5_bounded_8 ?_
    refine zg_goto d_X5_bounded_9 ?_
    exact zg_iretK d_X5_bounded_23 rfl ⟨Nat.le_of_ble_eq_true rfl, Nat.le_of_ble_eq_true rfl⟩ (fun q => q)
  · refine zg_lconst 0 rfl d_X5_bounded_12 ?_
    refine zg_iload_n 1 rfl d_X5_bounded_13 ?_
    refine zg_i2l d_X5_bounded_14 ?_
    refine zg_lload_n 0 rfl d_X5_bounded_15 ?_
    refine zg_mminL d_X5_bounded_16 ml_X5_183 (by decide) (Nat.le_of_ble_eq_true rfl) ⟨Nat.le_of_ble_eq_true rfl, Nat.le_of_ble_eq_true rfl⟩ ?_
    refine zg_mmaxL d_X5_bounded_19 ml_X5_187 (by decide) (Nat.le_of_ble_eq_true rfl) ⟨Nat.le_of_ble_eq_true rfl, Nat.le_of_ble_eq_true rfl⟩ ?_
    refine zg_l2i d_X5_bounded_22 ?_
    exact zg_iretK d_X5_bounded_23 rfl ⟨Nat.le_of_ble_eq_true rfl, Nat.le_of_ble_eq_true rfl⟩ (fun q => q)
abbrev M_X5_groundAt : zMt := (RX5, cX5_groundAt, 5, 1, 60, (some .int), "groundAt", 0, 0)
theorem d_X5_groundAt_0 : zDc M_X5_groundAt 0 (.bipush 6) 2 2 := ⟨by decide +kernel, rfl⟩
theorem d_X5_groundAt_2 : zDc M_X5_groundAt 2 (.iload_n 2) 1 3 := ⟨by decide +kernel, rfl⟩
theorem d_X5_groundAt_3 : zDc M_X5_groundAt 3 (.imul) 1 4 := ⟨by decide +kernel, rfl⟩
theorem d_X5_groundAt_4 : zDc M_X5_groundAt 4 (.iload_n 1) 1 5 := ⟨by decide +kernel, rfl⟩
theorem d_X5_groundAt_5 : zDc M_X5_groundAt 5 (.iadd) 1 6 := ⟨by decide +kernel, rfl⟩
theorem d_X5_groundAt_6 : zDc M_X5_groundAt 6 (.istore_n 3) 1 7 := ⟨by decide +kernel, rfl⟩
theorem d_X5_groundAt_7 : zDc M_X5_groundAt 7 (.aload_n 0) 1 8 := ⟨by decide +kernel, rfl⟩
theorem d_X5_groundAt_8 : zDc M_X5_groundAt 8 (.getfield 61) 3 11 := ⟨by decide +kernel, rfl⟩
theorem d_X5_groundAt_11 : zDc M_X5_groundAt 11 (.iconst 5) 1 12 := ⟨by decide +kernel, rfl⟩
theorem d_X5_groundAt_12 : zDj M_X5_groundAt 12 (.if_icmp .ne 5) 5 15 17 := ⟨by decide +kernel, rfl, by decide⟩
theorem d_X5_groundAt_15 : zDc M_X5_groundAt 15 (.iconst 1) 1 16 := ⟨by decide +kernel, rfl⟩
theorem d_X5_groundAt_16 : zDc M_X5_groundAt 16 (.ireturn) 1 17 := ⟨by decide +kernel, rfl⟩
theorem d_X5_groundAt_17 : zDc M_X5_groundAt 17 (.iload_n 3) 1 18 := ⟨by decide +kernel, rfl⟩
theorem d_X5_groundAt_18 : zDj M_X5_groundAt 18 (.ifCond .lt 21) 21 21 39 := ⟨by decide +kernel, rfl, by decide⟩
theorem d_X5_groundAt_21 : zDc M_X5_groundAt 21 (.iload_n 3) 1 22 := ⟨by decide +kernel, rfl⟩
theorem d_X5_groundAt_22 : zDc M_X5_groundAt 22 (.bipush 24) 2 24 := ⟨by decide +kernel, rfl⟩
theorem d_X5_groundAt_24 : zDj M_X5_groundAt 24 (.if_icmp .ge 15) 15 27 39 := ⟨by decide +kernel, rfl, by decide⟩
theorem d_X5_groundAt_27 : zDc M_X5_groundAt 27 (.aload_n 0) 1 28 := ⟨by decide +kernel, rfl⟩
theorem d_X5_groundAt_28 : zDc M_X5_groundAt 28 (.getfield 50) 3 31 := ⟨by decide +kernel, rfl⟩
theorem d_X5_groundAt_31 : zDc M_X5_groundAt 31 (.getfield 87) 3 34 := ⟨by decide +kernel, rfl⟩
theorem d_X5_groundAt_34 : zDc M_X5_groundAt 34 (.iload_n 3) 1 35 := ⟨by decide +kernel, rfl⟩
theorem d_X5_groundAt_35 : zDc M_X5_groundAt 35 (.iaload) 1 36 := ⟨by decide +kernel, rfl⟩
theorem d_X5_groundAt_36 : zDj M_X5_groundAt 36 (.goto 4) 4 39 40 := ⟨by decide +kernel, rfl, by decide⟩
theorem d_X5_groundAt_39 : zDc M_X5_groundAt 39 (.iconst 0) 1 40 := ⟨by decide +kernel, rfl⟩
theorem d_X5_groundAt_40 : zDc M_X5_groundAt 40 (.istore 4) 2 42 := ⟨by decide +kernel, rfl⟩
theorem d_X5_groundAt_42 : zDc M_X5_groundAt 42 (.aload_n 0) 1 43 := ⟨by decide +kernel, rfl⟩
theorem d_X5_groundAt_43 : zDc M_X5_groundAt 43 (.getfield 61) 3 46 := ⟨by decide +kernel, rfl⟩
theorem d_X5_groundAt_46 : zDc M_X5_groundAt 46 (.iconst 3) 1 47 := ⟨by decide +kernel, rfl⟩
theorem d_X5_groundAt_47 : zDj M_X5_groundAt 47 (.if_icmp .ne 13) 13 50 60 := ⟨by decide +kernel, rfl, by decide⟩
theorem d_X5_groundAt_50 : zDc M_X5_groundAt 50 (.iload 4) 2 52 := ⟨by decide +kernel, rfl⟩
theorem d_X5_groundAt_52 : zDc M_X5_groundAt 52 (.iconst 2) 1 53 := ⟨by decide +kernel, rfl⟩
theorem d_X5_groundAt_53 : zDj M_X5_groundAt 53 (.if_icmp .ne 7) 7 56 60 := ⟨by decide +kernel, rfl, by decide⟩
theorem d_X5_groundAt_56 : zDc M_X5_groundAt 56 (.iconst 0) 1 57 := ⟨by decide +kernel, rfl⟩
theorem d_X5_groundAt_57 : zDj M_X5_groundAt 57 (.goto 5) 5 60 62 := ⟨by decide +kernel, rfl, by decide⟩
theorem d_X5_groundAt_60 : zDc M_X5_groundAt 60 (.iload 4) 2 62 := ⟨by decide +kernel, rfl⟩
theorem d_X5_groundAt_62 : zDc M_X5_groundAt 62 (.ireturn) 1 63 := ⟨by decide +kernel, rfl⟩
def f_X5_groundAt (a0 : Nat) (a1 : Int32) (a2 : Int32) (h0 : zHp) : Option (Int32 × zHp) :=
  zob (zgI h0 a0 5 13) (fun v1 =>
  if v1 = 5 then
  some (1, h0)
  else
  zbd (α := Int32) (
  if ((6 * a2) + a1) < 0 then
  some (0, h0)
  else
  if 24 ≤ ((6 * a2) + a1) then
  some (0, h0)
  else
  zob (zgR h0 a0 5 14) (fun v2 =>
  zob (zgR h0 v2 6 0) (fun v3 =>
  zob (zaI 0 h0 v3 ((6 * a2) + a1)) (fun v4 =>
  some (v4, h0))))) (fun e5 h6 =>
  zob (zgI h6 a0 5 13) (fun v7 =>
  if v7 = 3 then
  if e5 = 2 then
  some (0, h6)
  else
  some (e5, h6)
  else
  some (e5, h6))))
set_option maxRecDepth 100000 in
set_option maxHeartbeats 4000000 in
theorem t_X5_groundAt (a0 : Nat) (a1 : Int32) (a2 : Int32) (h0 : zHp) : ∀ (r : Int32) (h' : zHp), f_X5_groundAt a0 a1 a2 h0 = some (r, h') → zCt yX5_groundAt (.code yX5_groundAt cX5_groundAt 5 (some .int)) 1 60 0 0 [.ref a0, .int a1, .int a2] h0 (some (.int r)) h' := by
  refine zct_of M_X5_groundAt yX5_groundAt (by decide) rfl rfl [.ref a0, .int a1, .int a2] h0 (Nat.le_of_ble_eq_true rfl) (fun r => some (.int r)) (fun X => ?_)
  show zG X M_X5_groundAt (0, 0) 0 [(0, .ref a0), (1, .int a1), (2, .int a2)] [] h0 (f_X5_groundAt a0 a1 a2 h0) (fun (r : Int32) h' => zKe X (some (.int r)) h')
  unfold f_X5_groundAt
  refine zg_bipush 6 rfl d_X5_groundAt_0 ?_
  refine zg_iload_n 2 rfl d_X5_groundAt_2 ?_
  refine zg_imul d_X5_groundAt_3 ?_
  refine zg_iload_n 1 rfl d_X5_groundAt_4 ?_
  refine zg_iadd d_X5_groundAt_5 ?_
  refine zg_istore_n [(3, .int ((6 * a2) + a1)), (0, .ref a0), (1, .int a1), (2, .int a2)] d_X5_groundAt_6 rfl (by decide) rfl ?_
  refine zg_aload_n 1 rfl d_X5_groundAt_7 ?_
  refine zg_getI d_X5_groundAt_8 zc_5 (by decide) fl_X5_61 (fun v1 => ?_)
  refine zg_iconst 5 rfl d_X5_groundAt_11 ?_
  refine zg_icmp_ne d_X5_groundAt_12 ?_ ?_
  · refine zg_iconst 1 rfl d_X5_groundAt_15 ?_
    exact zg_iretK d_X5_groundAt_16 rfl ⟨Nat.le_of_ble_eq_true rfl, Nat.le_of_ble_eq_true rfl⟩ (fun q => q)
  · refine zg_iload_n 0 rfl d_X5_groundAt_17 ?_
    refine zg_bd (E := 40) (el := (fun (e5 : Int32) => [(0, .ref a0), (1, .int a1), (2, .int a2), (3, .int ((6 * a2) + a1))])) (es := (fun (e5 : Int32) => [.int e5])) ?_ (fun e5 h6 => ?_)
    · refine zg_if_lt d_X5_groundAt_18 ?_ ?_
      · refine zg_iconst 0 rfl d_X5_groundAt_39 ?_
        exact zg_finK (E := 0) [1, 2, 3, 0] rfl rfl (fun q => q)
      · refine zg_iload_n 0 rfl d_X5_groundAt_21 ?_
        refine zg_bipush 24 rfl d_X5_groundAt_22 ?_
        refine zg_icmp_ge d_X5_groundAt_24 ?_ ?_
        · refine zg_iconst 0 rfl d_X5_groundAt_39 ?_
          exact zg_finK (E := 0) [1, 2, 3, 0] rfl rfl (fun q => q)
        · refine zg_aload_n 1 rfl d_X5_groundAt_27 ?_
          refine zg_getR d_X5_groundAt_28 zc_5 (by decide) fl_X5_50 (fun v2 => ?_)
          refine zg_getR d_X5_groundAt_31 zc_6 (by decide) fl_X5_87 (fun v3 => ?_)
          refine zg_iload_n 0 rfl d_X5_groundAt_34 ?_
          refine zg_ald0 d_X5_groundAt_35 (fun v4 => ?_)
          refine zg_goto d_X5_groundAt_36 ?_
          exact zg_finK (E := 0) [1, 2, 3, 0] rfl rfl (fun q => q)
    · refine zg_istore [(4, .int e5), (0, .ref a0), (1, .int a1), (2, .int a2), (3, .int ((6 * a2) + a1))] d_X5_groundAt_40 (by decide) rfl ?_
      refine zg_aload_n 1 rfl d_X5_groundAt_42 ?_
      refine zg_getI d_X5_groundAt_43 zc_5 (by decide) fl_X5_61 (fun v7 => ?_)
      refine zg_iconst 3 rfl d_X5_groundAt_46 ?_
      refine zg_icmp_ne d_X5_groundAt_47 ?_ ?_
      · refine zg_iload 0 rfl d_X5_groundAt_50 ?_
        refine zg_iconst 2 rfl d_X5_groundAt_52 ?_
        refine zg_icmp_ne d_X5_groundAt_53 ?_ ?_
        · refine zg_iconst 0 rfl d_X5_groundAt_56 ?_
          refine zg_goto d_X5_groundAt_57 ?_
          exact zg_iretK d_X5_groundAt_62 rfl ⟨Nat.le_of_ble_eq_true rfl, Nat.le_of_ble_eq_true rfl⟩ (fun q => q)
        · refine zg_iload 0 rfl d_X5_groundAt_60 ?_
          exact zg_iretK d_X5_groundAt_62 rfl ⟨Nat.le_of_ble_eq_true rfl, Nat.le_of_ble_eq_true rfl⟩ (fun q => q)
      · refine zg_iload 0 rfl d_X5_groundAt_60 ?_
        exact zg_iretK d_X5_groundAt_62 rfl ⟨Nat.le_of_ble_eq_true rfl, Nat.le_of_ble_eq_true rfl⟩ (fun q => q)
abbrev M_X2_isTold : zMt := (RX2, cX2_isTold, 2, 1, 60, (some .boolean), "isTold", 0, 0)
theorem d_X2_isTold_0 : zDc M_X2_isTold 0 (.aload_n 0) 1 1 := ⟨by decide +kernel, rfl⟩
theorem d_X2_isTold_1 : zDc M_X2_isTold 1 (.getfield 15) 3 4 := ⟨by decide +kernel, rfl⟩
theorem d_X2_isTold_4 : zDc M_X2_isTold 4 (.iload_n 1) 1 5 := ⟨by decide +kernel, rfl⟩
theorem d_X2_isTold_5 : zDc M_X2_isTold 5 (.iaload) 1 6 := ⟨by decide +kernel, rfl⟩
theorem d_X2_isTold_6 : zDc M_X2_isTold 6 (.aload_n 0) 1 7 := ⟨by decide +kernel, rfl⟩
theorem d_X2_isTold_7 : zDc M_X2_isTold 7 (.getfield 18) 3 10 := ⟨by decide +kernel, rfl⟩
theorem d_X2_isTold_10 : zDc M_X2_isTold 10 (.iload_n 1) 1 11 := ⟨by decide +kernel, rfl⟩
theorem d_X2_isTold_11 : zDc M_X2_isTold 11 (.iaload) 1 12 := ⟨by decide +kernel, rfl⟩
theorem d_X2_isTold_12 : zDj M_X2_isTold 12 (.if_icmp .ge 7) 7 15 19 := ⟨by decide +kernel, rfl, by decide⟩
theorem d_X2_isTold_15 : zDc M_X2_isTold 15 (.iconst 1) 1 16 := ⟨by decide +kernel, rfl⟩
theorem d_X2_isTold_16 : zDj M_X2_isTold 16 (.goto 4) 4 19 20 := ⟨by decide +kernel, rfl, by decide⟩
theorem d_X2_isTold_19 : zDc M_X2_isTold 19 (.iconst 0) 1 20 := ⟨by decide +kernel, rfl⟩
theorem d_X2_isTold_20 : zDc M_X2_isTold 20 (.ireturn) 1 21 := ⟨by decide +kernel, rfl⟩
def f_X2_isTold (a0 : Nat) (a1 : Int32) (h0 : zHp) : Option (Int32 × zHp) :=
  zob (zgR h0 a0 2 1) (fun v1 =>
  zob (zaI 0 h0 v1 a1) (fun v2 =>
  zob (zgR h0 a0 2 2) (fun v3 =>
  zob (zaI 0 h0 v3 a1) (fun v4 =>
  if v4 ≤ v2 then
  some (0, h0)
  else
  some (1, h0)))))
set_option maxRecDepth 100000 in
set_option maxHeartbeats 4000000 in
theorem t_X2_isTold (a0 : Nat) (a1 : Int32) (h0 : zHp) : ∀ (r : Int32) (h' : zHp), f_X2_isTold a0 a1 h0 = some (r, h') → zCt yX2_isTold (.code yX2_isTold cX2_isTold 2 (some .boolean)) 1 60 0 0 [.ref a0, .int a1] h0 (some (.int r)) h' := by
  refine zct_of M_X2_isTold yX2_isTold (by decide) rfl rfl [.ref a0, .int a1] h0 (Nat.le_of_ble_eq_true rfl) (fun r => some (.int r)) (fun X => ?_)
  show zG X M_X2_isTold (0, 0) 0 [(0, .ref a0), (1, .int a1)] [] h0 (f_X2_isTold a0 a1 h0) (fun (r : Int32) h' => zKe X (some (.int r)) h')
  unfold f_X2_isTold
  refine zg_aload_n 0 rfl d_X2_isTold_0 ?_
  refine zg_getR d_X2_isTold_1 zc_2 (by decide) fl_X2_15 (fun v1 => ?_)
  refine zg_iload_n 1 rfl d_X2_isTold_4 ?_
  refine zg_ald0 d_X2_isTold_5 (fun v2 => ?_)
  refine zg_aload_n 0 rfl d_X2_isTold_6 ?_
  refine zg_getR d_X2_isTold_7 zc_2 (by decide) fl_X2_18 (fun v3 => ?_)
  refine zg_iload_n 1 rfl d_X2_isTold_10 ?_
  refine zg_ald0 d_X2_isTold_11 (fun v4 => ?_)
  refine zg_icmp_ge d_X2_isTold_12 ?_ ?_
  · refine zg_iconst 0 rfl d_X2_isTold_19 ?_
    exact zg_zretK d_X2_isTold_20 rfl ⟨Nat.le_of_ble_eq_true rfl, Nat.le_of_ble_eq_true rfl⟩ (Or.inl rfl) (fun q => q)
  · refine zg_iconst 1 rfl d_X2_isTold_15 ?_
    refine zg_goto d_X2_isTold_16 ?_
    exact zg_zretK d_X2_isTold_20 rfl ⟨Nat.le_of_ble_eq_true rfl, Nat.le_of_ble_eq_true rfl⟩ (Or.inr rfl) (fun q => q)
abbrev M_X2_combined : zMt := (RX2, cX2_combined, 9, 1, 60, (some .long), "combined", 0, 0)
theorem d_X2_combined_0 : zDc M_X2_combined 0 (.lload_n 1) 1 1 := ⟨by decide +kernel, rfl⟩
theorem d_X2_combined_1 : zDc M_X2_combined 1 (.lconst 0) 1 2 := ⟨by decide +kernel, rfl⟩
theorem d_X2_combined_2 : zDc M_X2_combined 2 (.lcmp) 1 3 := ⟨by decide +kernel, rfl⟩
theorem d_X2_combined_3 : zDj M_X2_combined 3 (.ifCond .ge 8) 8 6 11 := ⟨by decide +kernel, rfl, by decide⟩
theorem d_X2_combined_6 : zDc M_X2_combined 6 (.lload_n 1) 1 7 := ⟨by decide +kernel, rfl⟩
theorem d_X2_combined_7 : zDc M_X2_combined 7 (.lneg) 1 8 := ⟨by decide +kernel, rfl⟩
theorem d_X2_combined_8 : zDj M_X2_combined 8 (.goto 4) 4 11 12 := ⟨by decide +kernel, rfl, by decide⟩
theorem d_X2_combined_11 : zDc M_X2_combined 11 (.lload_n 1) 1 12 := ⟨by decide +kernel, rfl⟩
theorem d_X2_combined_12 : zDc M_X2_combined 12 (.lstore 5) 2 14 := ⟨by decide +kernel, rfl⟩
theorem d_X2_combined_14 : zDc M_X2_combined 14 (.lload_n 3) 1 15 := ⟨by decide +kernel, rfl⟩
theorem d_X2_combined_15 : zDc M_X2_combined 15 (.lconst 0) 1 16 := ⟨by decide +kernel, rfl⟩
theorem d_X2_combined_16 : zDc M_X2_combined 16 (.lcmp) 1 17 := ⟨by decide +kernel, rfl⟩
theorem d_X2_combined_17 : zDj M_X2_combined 17 (.ifCond .ge 8) 8 20 25 := ⟨by decide +kernel, rfl, by decide⟩
theorem d_X2_combined_20 : zDc M_X2_combined 20 (.lload_n 3) 1 21 := ⟨by decide +kernel, rfl⟩
theorem d_X2_combined_21 : zDc M_X2_combined 21 (.lneg) 1 22 := ⟨by decide +kernel, rfl⟩
theorem d_X2_combined_22 : zDj M_X2_combined 22 (.goto 4) 4 25 26 := ⟨by decide +kernel, rfl, by decide⟩
theorem d_X2_combined_25 : zDc M_X2_combined 25 (.lload_n 3) 1 26 := ⟨by decide +kernel, rfl⟩
theorem d_X2_combined_26 : zDc M_X2_combined 26 (.lstore 7) 2 28 := ⟨by decide +kernel, rfl⟩
theorem d_X2_combined_28 : zDc M_X2_combined 28 (.iload_n 0) 1 29 := ⟨by decide +kernel, rfl⟩
theorem d_X2_combined_29 : decode M_X2_combined.2.1 29 = .ok (.tableswitch 234 14 32 #[216, 234, 234, 234, 234, 234, 234, 234, 234, 91, 95, 99, 128, 144, 156, 168, 180, 192, 204], 91) := by decide +kernel
theorem d_X2_combined_120 : zDc M_X2_combined 120 (.lload_n 1) 1 121 := ⟨by decide +kernel, rfl⟩
theorem d_X2_combined_121 : zDc M_X2_combined 121 (.lload_n 3) 1 122 := ⟨by decide +kernel, rfl⟩
theorem d_X2_combined_122 : zDc M_X2_combined 122 (.ladd) 1 123 := ⟨by decide +kernel, rfl⟩
theorem d_X2_combined_123 : zDc M_X2_combined 123 (.lreturn) 1 124 := ⟨by decide +kernel, rfl⟩
theorem d_X2_combined_124 : zDc M_X2_combined 124 (.lload_n 1) 1 125 := ⟨by decide +kernel, rfl⟩
theorem d_X2_combined_125 : zDc M_X2_combined 125 (.lload_n 3) 1 126 := ⟨by decide +kernel, rfl⟩
theorem d_X2_combined_126 : zDc M_X2_combined 126 (.lsub) 1 127 := ⟨by decide +kernel, rfl⟩
theorem d_X2_combined_127 : zDc M_X2_combined 127 (.lreturn) 1 128 := ⟨by decide +kernel, rfl⟩
theorem d_X2_combined_128 : zDc M_X2_combined 128 (.lload 5) 2 130 := ⟨by decide +kernel, rfl⟩
theorem d_X2_combined_130 : zDc M_X2_combined 130 (.lconst 0) 1 131 := ⟨by decide +kernel, rfl⟩
theorem d_X2_combined_131 : zDc M_X2_combined 131 (.lcmp) 1 132 := ⟨by decide +kernel, rfl⟩
theorem d_X2_combined_132 : zDj M_X2_combined 132 (.ifCond .eq 21) 21 135 153 := ⟨by decide +kernel, rfl, by decide⟩
theorem d_X2_combined_135 : zDc M_X2_combined 135 (.lload 7) 2 137 := ⟨by decide +kernel, rfl⟩
theorem d_X2_combined_137 : zDc M_X2_combined 137 (.ldc2_w 36) 3 140 := ⟨by decide +kernel, rfl⟩
theorem d_X2_combined_140 : zDc M_X2_combined 140 (.lload 5) 2 142 := ⟨by decide +kernel, rfl⟩
theorem d_X2_combined_142 : zDc M_X2_combined 142 (.ldiv) 1 143 := ⟨by decide +kernel, rfl⟩
theorem d_X2_combined_143 : zDc M_X2_combined 143 (.lcmp) 1 144 := ⟨by decide +kernel, rfl⟩
theorem d_X2_combined_144 : zDj M_X2_combined 144 (.ifCond .le 9) 9 147 153 := ⟨by decide +kernel, rfl, by decide⟩
theorem d_X2_combined_147 : zDc M_X2_combined 147 (.ldc2_w 40) 3 150 := ⟨by decide +kernel, rfl⟩
theorem d_X2_combined_150 : zDj M_X2_combined 150 (.goto 6) 6 153 156 := ⟨by decide +kernel, rfl, by decide⟩
theorem d_X2_combined_153 : zDc M_X2_combined 153 (.lload_n 1) 1 154 := ⟨by decide +kernel, rfl⟩
theorem d_X2_combined_154 : zDc M_X2_combined 154 (.lload_n 3) 1 155 := ⟨by decide +kernel, rfl⟩
theorem d_X2_combined_155 : zDc M_X2_combined 155 (.lmul) 1 156 := ⟨by decide +kernel, rfl⟩
theorem d_X2_combined_156 : zDc M_X2_combined 156 (.lreturn) 1 157 := ⟨by decide +kernel, rfl⟩
theorem d_X2_combined_157 : zDc M_X2_combined 157 (.lload_n 3) 1 158 := ⟨by decide +kernel, rfl⟩
theorem d_X2_combined_158 : zDc M_X2_combined 158 (.lconst 0) 1 159 := ⟨by decide +kernel, rfl⟩
theorem d_X2_combined_159 : zDc M_X2_combined 159 (.lcmp) 1 160 := ⟨by decide +kernel, rfl⟩
theorem d_X2_combined_160 : zDj M_X2_combined 160 (.ifCond .ne 9) 9 163 169 := ⟨by decide +kernel, rfl, by decide⟩
theorem d_X2_combined_163 : zDc M_X2_combined 163 (.ldc2_w 40) 3 166 := ⟨by decide +kernel, rfl⟩
theorem d_X2_combined_166 : zDj M_X2_combined 166 (.goto 6) 6 169 172 := ⟨by decide +kernel, rfl, by decide⟩
theorem d_X2_combined_169 : zDc M_X2_combined 169 (.lload_n 1) 1 170 := ⟨by decide +kernel, rfl⟩
theorem d_X2_combined_170 : zDc M_X2_combined 170 (.lload_n 3) 1 171 := ⟨by decide +kernel, rfl⟩
theorem d_X2_combined_171 : zDc M_X2_combined 171 (.ldiv) 1 172 := ⟨by decide +kernel, rfl⟩
theorem d_X2_combined_172 : zDc M_X2_combined 172 (.lreturn) 1 173 := ⟨by decide +kernel, rfl⟩
theorem d_X2_combined_173 : zDc M_X2_combined 173 (.lload_n 1) 1 174 := ⟨by decide +kernel, rfl⟩
theorem d_X2_combined_174 : zDc M_X2_combined 174 (.lload_n 3) 1 175 := ⟨by decide +kernel, rfl⟩
theorem d_X2_combined_175 : zDc M_X2_combined 175 (.lcmp) 1 176 := ⟨by decide +kernel, rfl⟩
theorem d_X2_combined_176 : zDj M_X2_combined 176 (.ifCond .ge 7) 7 179 183 := ⟨by decide +kernel, rfl, by decide⟩
theorem d_X2_combined_179 : zDc M_X2_combined 179 (.lconst 1) 1 180 := ⟨by decide +kernel, rfl⟩
theorem d_X2_combined_180 : zDj M_X2_combined 180 (.goto 4) 4 183 184 := ⟨by decide +kernel, rfl, by decide⟩
theorem d_X2_combined_183 : zDc M_X2_combined 183 (.lconst 0) 1 184 := ⟨by decide +kernel, rfl⟩
theorem d_X2_combined_184 : zDc M_X2_combined 184 (.lreturn) 1 185 := ⟨by decide +kernel, rfl⟩
theorem d_X2_combined_185 : zDc M_X2_combined 185 (.lload_n 1) 1 186 := ⟨by decide +kernel, rfl⟩
theorem d_X2_combined_186 : zDc M_X2_combined 186 (.lload_n 3) 1 187 := ⟨by decide +kernel, rfl⟩
theorem d_X2_combined_187 : zDc M_X2_combined 187 (.lcmp) 1 188 := ⟨by decide +kernel, rfl⟩
theorem d_X2_combined_188 : zDj M_X2_combined 188 (.ifCond .gt 7) 7 191 195 := ⟨by decide +kernel, rfl, by decide⟩
theorem d_X2_combined_191 : zDc M_X2_combined 191 (.lconst 1) 1 192 := ⟨by decide +kernel, rfl⟩
theorem d_X2_combined_192 : zDj M_X2_combined 192 (.goto 4) 4 195 196 := ⟨by decide +kernel, rfl, by decide⟩
theorem d_X2_combined_195 : zDc M_X2_combined 195 (.lconst 0) 1 196 := ⟨by decide +kernel, rfl⟩
theorem d_X2_combined_196 : zDc M_X2_combined 196 (.lreturn) 1 197 := ⟨by decide +kernel, rfl⟩
theorem d_X2_combined_197 : zDc M_X2_combined 197 (.lload_n 1) 1 198 := ⟨by decide +kernel, rfl⟩
theorem d_X2_combined_198 : zDc M_X2_combined 198 (.lload_n 3) 1 199 := ⟨by decide +kernel, rfl⟩
theorem d_X2_combined_199 : zDc M_X2_combined 199 (.lcmp) 1 200 := ⟨by decide +kernel, rfl⟩
theorem d_X2_combined_200 : zDj M_X2_combined 200 (.ifCond .ne 7) 7 203 207 := ⟨by decide +kernel, rfl, by decide⟩
theorem d_X2_combined_203 : zDc M_X2_combined 203 (.lconst 1) 1 204 := ⟨by decide +kernel, rfl⟩
theorem d_X2_combined_204 : zDj M_X2_combined 204 (.goto 4) 4 207 208 := ⟨by decide +kernel, rfl, by decide⟩
theorem d_X2_combined_207 : zDc M_X2_combined 207 (.lconst 0) 1 208 := ⟨by decide +kernel, rfl⟩
theorem d_X2_combined_208 : zDc M_X2_combined 208 (.lreturn) 1 209 := ⟨by decide +kernel, rfl⟩
theorem d_X2_combined_209 : zDc M_X2_combined 209 (.lload_n 1) 1 210 := ⟨by decide +kernel, rfl⟩
theorem d_X2_combined_210 : zDc M_X2_combined 210 (.lload_n 3) 1 211 := ⟨by decide +kernel, rfl⟩
theorem d_X2_combined_211 : zDc M_X2_combined 211 (.lcmp) 1 212 := ⟨by decide +kernel, rfl⟩
theorem d_X2_combined_212 : zDj M_X2_combined 212 (.ifCond .eq 7) 7 215 219 := ⟨by decide +kernel, rfl, by decide⟩
theorem d_X2_combined_215 : zDc M_X2_combined 215 (.lconst 1) 1 216 := ⟨by decide +kernel, rfl⟩
theorem d_X2_combined_216 : zDj M_X2_combined 216 (.goto 4) 4 219 220 := ⟨by decide +kernel, rfl, by decide⟩
theorem d_X2_combined_219 : zDc M_X2_combined 219 (.lconst 0) 1 220 := ⟨by decide +kernel, rfl⟩
theorem d_X2_combined_220 : zDc M_X2_combined 220 (.lreturn) 1 221 := ⟨by decide +kernel, rfl⟩
theorem d_X2_combined_221 : zDc M_X2_combined 221 (.lload_n 1) 1 222 := ⟨by decide +kernel, rfl⟩
theorem d_X2_combined_222 : zDc M_X2_combined 222 (.lload_n 3) 1 223 := ⟨by decide +kernel, rfl⟩
theorem d_X2_combined_223 : zDc M_X2_combined 223 (.lcmp) 1 224 := ⟨by decide +kernel, rfl⟩
theorem d_X2_combined_224 : zDj M_X2_combined 224 (.ifCond .lt 7) 7 227 231 := ⟨by decide +kernel, rfl, by decide⟩
theorem d_X2_combined_227 : zDc M_X2_combined 227 (.lconst 1) 1 228 := ⟨by decide +kernel, rfl⟩
theorem d_X2_combined_228 : zDj M_X2_combined 228 (.goto 4) 4 231 232 := ⟨by decide +kernel, rfl, by decide⟩
theorem d_X2_combined_231 : zDc M_X2_combined 231 (.lconst 0) 1 232 := ⟨by decide +kernel, rfl⟩
theorem d_X2_combined_232 : zDc M_X2_combined 232 (.lreturn) 1 233 := ⟨by decide +kernel, rfl⟩
theorem d_X2_combined_233 : zDc M_X2_combined 233 (.lload_n 1) 1 234 := ⟨by decide +kernel, rfl⟩
theorem d_X2_combined_234 : zDc M_X2_combined 234 (.lload_n 3) 1 235 := ⟨by decide +kernel, rfl⟩
theorem d_X2_combined_235 : zDc M_X2_combined 235 (.lcmp) 1 236 := ⟨by decide +kernel, rfl⟩
theorem d_X2_combined_236 : zDj M_X2_combined 236 (.ifCond .le 7) 7 239 243 := ⟨by decide +kernel, rfl, by decide⟩
theorem d_X2_combined_239 : zDc M_X2_combined 239 (.lconst 1) 1 240 := ⟨by decide +kernel, rfl⟩
theorem d_X2_combined_240 : zDj M_X2_combined 240 (.goto 4) 4 243 244 := ⟨by decide +kernel, rfl, by decide⟩
theorem d_X2_combined_243 : zDc M_X2_combined 243 (.lconst 0) 1 244 := ⟨by decide +kernel, rfl⟩
theorem d_X2_combined_244 : zDc M_X2_combined 244 (.lreturn) 1 245 := ⟨by decide +kernel, rfl⟩
theorem d_X2_combined_245 : zDc M_X2_combined 245 (.lload_n 1) 1 246 := ⟨by decide +kernel, rfl⟩
theorem d_X2_combined_246 : zDc M_X2_combined 246 (.lconst 0) 1 247 := ⟨by decide +kernel, rfl⟩
theorem d_X2_combined_247 : zDc M_X2_combined 247 (.lcmp) 1 248 := ⟨by decide +kernel, rfl⟩
theorem d_X2_combined_248 : zDj M_X2_combined 248 (.ifCond .eq 13) 13 251 261 := ⟨by decide +kernel, rfl, by decide⟩
theorem d_X2_combined_251 : zDc M_X2_combined 251 (.lload_n 3) 1 252 := ⟨by decide +kernel, rfl⟩
theorem d_X2_combined_252 : zDc M_X2_combined 252 (.lconst 0) 1 253 := ⟨by decide +kernel, rfl⟩
theorem d_X2_combined_253 : zDc M_X2_combined 253 (.lcmp) 1 254 := ⟨by decide +kernel, rfl⟩
theorem d_X2_combined_254 : zDj M_X2_combined 254 (.ifCond .eq 7) 7 257 261 := ⟨by decide +kernel, rfl, by decide⟩
theorem d_X2_combined_257 : zDc M_X2_combined 257 (.lconst 1) 1 258 := ⟨by decide +kernel, rfl⟩
theorem d_X2_combined_258 : zDj M_X2_combined 258 (.goto 4) 4 261 262 := ⟨by decide +kernel, rfl, by decide⟩
theorem d_X2_combined_261 : zDc M_X2_combined 261 (.lconst 0) 1 262 := ⟨by decide +kernel, rfl⟩
theorem d_X2_combined_262 : zDc M_X2_combined 262 (.lreturn) 1 263 := ⟨by decide +kernel, rfl⟩
theorem d_X2_combined_263 : zDc M_X2_combined 263 (.lload_n 1) 1 264 := ⟨by decide +kernel, rfl⟩
theorem d_X2_combined_264 : zDc M_X2_combined 264 (.lconst 0) 1 265 := ⟨by decide +kernel, rfl⟩
theorem d_X2_combined_265 : zDc M_X2_combined 265 (.lcmp) 1 266 := ⟨by decide +kernel, rfl⟩
theorem d_X2_combined_266 : zDj M_X2_combined 266 (.ifCond .ne 9) 9 269 275 := ⟨by decide +kernel, rfl, by decide⟩
theorem d_X2_combined_269 : zDc M_X2_combined 269 (.lload_n 3) 1 270 := ⟨by decide +kernel, rfl⟩
theorem d_X2_combined_270 : zDc M_X2_combined 270 (.lconst 0) 1 271 := ⟨by decide +kernel, rfl⟩
theorem d_X2_combined_271 : zDc M_X2_combined 271 (.lcmp) 1 272 := ⟨by decide +kernel, rfl⟩
theorem d_X2_combined_272 : zDj M_X2_combined 272 (.ifCond .eq 7) 7 275 279 := ⟨by decide +kernel, rfl, by decide⟩
theorem d_X2_combined_275 : zDc M_X2_combined 275 (.lconst 1) 1 276 := ⟨by decide +kernel, rfl⟩
theorem d_X2_combined_276 : zDj M_X2_combined 276 (.goto 4) 4 279 280 := ⟨by decide +kernel, rfl, by decide⟩
theorem d_X2_combined_279 : zDc M_X2_combined 279 (.lconst 0) 1 280 := ⟨by decide +kernel, rfl⟩
theorem d_X2_combined_280 : zDc M_X2_combined 280 (.lreturn) 1 281 := ⟨by decide +kernel, rfl⟩
def f_X2_combined (a0 : Int32) (a1 : Int64) (a2 : Int64) (h0 : zHp) : Option (Int64 × zHp) :=
  zbd (α := Int64) (
  if 0 ≤ (lg_cmp a1 0) then
  some (a1, h0)
  else
  some ((-a1), h0)) (fun e1 h2 =>
  zbd (α := Int64) (
  if 0 ≤ (lg_cmp a2 0) then
  some (a2, h2)
  else
  some ((-a2), h2)) (fun e3 h4 =>
  if a0 = 14 then
  if (lg_cmp a1 0) = 0 then
  some (0, h4)
  else
  if (lg_cmp a2 0) = 0 then
  some (0, h4)
  else
  some (1, h4)
  else if a0 = 15 then
  if (lg_cmp a1 0) = 0 then
  if (lg_cmp a2 0) = 0 then
  some (0, h4)
  else
  some (1, h4)
  else
  some (1, h4)
  else if a0 = 16 then
  if (lg_cmp a1 0) = 0 then
  if (lg_cmp a2 0) = 0 then
  some (0, h4)
  else
  some (1, h4)
  else
  some (1, h4)
  else if a0 = 17 then
  if (lg_cmp a1 0) = 0 then
  if (lg_cmp a2 0) = 0 then
  some (0, h4)
  else
  some (1, h4)
  else
  some (1, h4)
  else if a0 = 18 then
  if (lg_cmp a1 0) = 0 then
  if (lg_cmp a2 0) = 0 then
  some (0, h4)
  else
  some (1, h4)
  else
  some (1, h4)
  else if a0 = 19 then
  if (lg_cmp a1 0) = 0 then
  if (lg_cmp a2 0) = 0 then
  some (0, h4)
  else
  some (1, h4)
  else
  some (1, h4)
  else if a0 = 20 then
  if (lg_cmp a1 0) = 0 then
  if (lg_cmp a2 0) = 0 then
  some (0, h4)
  else
  some (1, h4)
  else
  some (1, h4)
  else if a0 = 21 then
  if (lg_cmp a1 0) = 0 then
  if (lg_cmp a2 0) = 0 then
  some (0, h4)
  else
  some (1, h4)
  else
  some (1, h4)
  else if a0 = 22 then
  if (lg_cmp a1 0) = 0 then
  if (lg_cmp a2 0) = 0 then
  some (0, h4)
  else
  some (1, h4)
  else
  some (1, h4)
  else if a0 = 23 then
  some ((a1 + a2), h4)
  else if a0 = 24 then
  some ((a1 - a2), h4)
  else if a0 = 25 then
  if (lg_cmp e1 0) = 0 then
  some ((a1 * a2), h4)
  else
  zob (zdl 1000000000000 e1) (fun v5 =>
  if (lg_cmp e3 v5) ≤ 0 then
  some ((a1 * a2), h4)
  else
  some ((-9223372036854775808), h4))
  else if a0 = 26 then
  if (lg_cmp a2 0) = 0 then
  some ((-9223372036854775808), h4)
  else
  zob (zdl a1 a2) (fun v6 =>
  some (v6, h4))
  else if a0 = 27 then
  if 0 ≤ (lg_cmp a1 a2) then
  some (0, h4)
  else
  some (1, h4)
  else if a0 = 28 then
  if 0 < (lg_cmp a1 a2) then
  some (0, h4)
  else
  some (1, h4)
  else if a0 = 29 then
  if (lg_cmp a1 a2) = 0 then
  some (1, h4)
  else
  some (0, h4)
  else if a0 = 30 then
  if (lg_cmp a1 a2) = 0 then
  some (0, h4)
  else
  some (1, h4)
  else if a0 = 31 then
  if (lg_cmp a1 a2) < 0 then
  some (0, h4)
  else
  some (1, h4)
  else if a0 = 32 then
  if (lg_cmp a1 a2) ≤ 0 then
  some (0, h4)
  else
  some (1, h4)
  else 
  if (lg_cmp a1 0) = 0 then
  if (lg_cmp a2 0) = 0 then
  some (0, h4)
  else
  some (1, h4)
  else
  some (1, h4)))
set_option maxRecDepth 100000 in
set_option maxHeartbeats 4000000 in
theorem t_X2_combined (a0 : Int32) (a1 : Int64) (a2 : Int64) (h0 : zHp) : ∀ (r : Int64) (h' : zHp), f_X2_combined a0 a1 a2 h0 = some (r, h') → zCt yX2_combined (.code yX2_combined cX2_combined 9 (some .long)) 1 60 0 0 [.int a0, .long a1, .long a2] h0 (some (.long r)) h' := by
  refine zct_of M_X2_combined yX2_combined (by decide) rfl rfl [.int a0, .long a1, .long a2] h0 (Nat.le_of_ble_eq_true rfl) (fun r => some (.long r)) (fun X => ?_)
  show zG X M_X2_combined (0, 0) 0 [(0, .int a0), (1, .long a1), (3, .long a2)] [] h0 (f_X2_combined a0 a1 a2 h0) (fun (r : Int64) h' => zKe X (some (.long r)) h')
  unfold f_X2_combined
  refine zg_lload_n 1 rfl d_X2_combined_0 ?_
  refine zg_lconst 0 rfl d_X2_combined_1 ?_
  refine zg_lcmp d_X2_combined_2 ?_
  refine zg_bd (E := 12) (el := (fun (e1 : Int64) => [(0, .int a0), (1, .long a1), (3, .long a2)])) (es := (fun (e1 : Int64) => [.long e1])) ?_ (fun e1 h2 => ?_)
  · refine zg_if_ge d_X2_combined_3 ?_ ?_
    · refine zg_lload_n 1 rfl d_X2_combined_11 ?_
      exact zg_finK (E := 0) [0, 1, 2] rfl rfl (fun q => q)
    · refine zg_lload_n 1 rfl d_X2_combined_6 ?_
      refine zg_lneg d_X2_combined_7 ?_
      refine zg_goto d_X2_combined_8 ?_
      exact zg_finK (E := 0) [0, 1, 2] rfl rfl (fun q => q)
  · refine zg_lstore [(5, .long e1), (0, .int a0), (1, .long a1), (3, .long a2)] d_X2_combined_12 (by decide) rfl ?_
    refine zg_lload_n 3 rfl d_X2_combined_14 ?_
    refine zg_lconst 0 rfl d_X2_combined_15 ?_
    refine zg_lcmp d_X2_combined_16 ?_
    refine zg_bd (E := 26) (el := (fun (e3 : Int64) => [(0, .int a0), (1, .long a1), (3, .long a2), (5, .long e1)])) (es := (fun (e3 : Int64) => [.long e3])) ?_ (fun e3 h4 => ?_)
    · refine zg_if_ge d_X2_combined_17 ?_ ?_
      · refine zg_lload_n 3 rfl d_X2_combined_25 ?_
        exact zg_finK (E := 0) [1, 2, 3, 0] rfl rfl (fun q => q)
      · refine zg_lload_n 3 rfl d_X2_combined_20 ?_
        refine zg_lneg d_X2_combined_21 ?_
        refine zg_goto d_X2_combined_22 ?_
        exact zg_finK (E := 0) [1, 2, 3, 0] rfl rfl (fun q => q)
    · refine zg_lstore [(7, .long e3), (0, .int a0), (1, .long a1), (3, .long a2), (5, .long e1)] d_X2_combined_26 (by decide) rfl ?_
      refine zg_iload_n 1 rfl d_X2_combined_28 ?_
      refine zg_if (fun n7 => ?_) (fun n7 => ?_)
      · refine zg_tabE n7 d_X2_combined_29 (by decide) (by decide) (off := 216) rfl (tgt := 245) (by decide) ?_
        refine zg_lload_n 2 rfl d_X2_combined_245 ?_
        refine zg_lconst 0 rfl d_X2_combined_246 ?_
        refine zg_lcmp d_X2_combined_247 ?_
        refine zg_if_eq d_X2_combined_248 ?_ ?_
        · refine zg_lconst 0 rfl d_X2_combined_261 ?_
          exact zg_lretK d_X2_combined_262 rfl ⟨Nat.le_of_ble_eq_true rfl, Nat.le_of_ble_eq_true rfl⟩ (fun q => q)
        · refine zg_lload_n 3 rfl d_X2_combined_251 ?_
          refine zg_lconst 0 rfl d_X2_combined_252 ?_
          refine zg_lcmp d_X2_combined_253 ?_
          refine zg_if_eq d_X2_combined_254 ?_ ?_
          · refine zg_lconst 0 rfl d_X2_combined_261 ?_
            exact zg_lretK d_X2_combined_262 rfl ⟨Nat.le_of_ble_eq_true rfl, Nat.le_of_ble_eq_true rfl⟩ (fun q => q)
          · refine zg_lconst 1 rfl d_X2_combined_257 ?_
            refine zg_goto d_X2_combined_258 ?_
            exact zg_lretK d_X2_combined_262 rfl ⟨Nat.le_of_ble_eq_true rfl, Nat.le_of_ble_eq_true rfl⟩ (fun q => q)
      refine zg_if (fun n8 => ?_) (fun n8 => ?_)
      · refine zg_tabE n8 d_X2_combined_29 (by decide) (by decide) (off := 234) rfl (tgt := 263) (by decide) ?_
        refine zg_lload_n 2 rfl d_X2_combined_263 ?_
        refine zg_lconst 0 rfl d_X2_combined_264 ?_
        refine zg_lcmp d_X2_combined_265 ?_
        refine zg_if_ne d_X2_combined_266 ?_ ?_
        · refine zg_lload_n 3 rfl d_X2_combined_269 ?_
          refine zg_lconst 0 rfl d_X2_combined_270 ?_
          refine zg_lcmp d_X2_combined_271 ?_
          refine zg_if_eq d_X2_combined_272 ?_ ?_
          · refine zg_lconst 0 rfl d_X2_combined_279 ?_
            exact zg_lretK d_X2_combined_280 rfl ⟨Nat.le_of_ble_eq_true rfl, Nat.le_of_ble_eq_true rfl⟩ (fun q => q)
          · refine zg_lconst 1 rfl d_X2_combined_275 ?_
            refine zg_goto d_X2_combined_276 ?_
            exact zg_lretK d_X2_combined_280 rfl ⟨Nat.le_of_ble_eq_true rfl, Nat.le_of_ble_eq_true rfl⟩ (fun q => q)
        · refine zg_lconst 1 rfl d_X2_combined_275 ?_
          refine zg_goto d_X2_combined_276 ?_
          exact zg_lretK d_X2_combined_280 rfl ⟨Nat.le_of_ble_eq_true rfl, Nat.le_of_ble_eq_true rfl⟩ (fun q => q)
      refine zg_if (fun n9 => ?_) (fun n9 => ?_)
      · refine zg_tabE n9 d_X2_combined_29 (by decide) (by decide) (off := 234) rfl (tgt := 263) (by decide) ?_
        refine zg_lload_n 2 rfl d_X2_combined_263 ?_
        refine zg_lconst 0 rfl d_X2_combined_264 ?_
        refine zg_lcmp d_X2_combined_265 ?_
        refine zg_if_ne d_X2_combined_266 ?_ ?_
        · refine zg_lload_n 3 rfl d_X2_combined_269 ?_
          refine zg_lconst 0 rfl d_X2_combined_270 ?_
          refine zg_lcmp d_X2_combined_271 ?_
          refine zg_if_eq d_X2_combined_272 ?_ ?_
          · refine zg_lconst 0 rfl d_X2_combined_279 ?_
            exact zg_lretK d_X2_combined_280 rfl ⟨Nat.le_of_ble_eq_true rfl, Nat.le_of_ble_eq_true rfl⟩ (fun q => q)
          · refine zg_lconst 1 rfl d_X2_combined_275 ?_
            refine zg_goto d_X2_combined_276 ?_
            exact zg_lretK d_X2_combined_280 rfl ⟨Nat.le_of_ble_eq_true rfl, Nat.le_of_ble_eq_true rfl⟩ (fun q => q)
        · refine zg_lconst 1 rfl d_X2_combined_275 ?_
          refine zg_goto d_X2_combined_276 ?_
          exact zg_lretK d_X2_combined_280 rfl ⟨Nat.le_of_ble_eq_true rfl, Nat.le_of_ble_eq_true rfl⟩ (fun q => q)
      refine zg_if (fun n10 => ?_) (fun n10 => ?_)
      · refine zg_tabE n10 d_X2_combined_29 (by decide) (by decide) (off := 234) rfl (tgt := 263) (by decide) ?_
        refine zg_lload_n 2 rfl d_X2_combined_263 ?_
        refine zg_lconst 0 rfl d_X2_combined_264 ?_
        refine zg_lcmp d_X2_combined_265 ?_
        refine zg_if_ne d_X2_combined_266 ?_ ?_
        · refine zg_lload_n 3 rfl d_X2_combined_269 ?_
          refine zg_lconst 0 rfl d_X2_combined_270 ?_
          refine zg_lcmp d_X2_combined_271 ?_
          refine zg_if_eq d_X2_combined_272 ?_ ?_
          · refine zg_lconst 0 rfl d_X2_combined_279 ?_
            exact zg_lretK d_X2_combined_280 rfl ⟨Nat.le_of_ble_eq_true rfl, Nat.le_of_ble_eq_true rfl⟩ (fun q => q)
          · refine zg_lconst 1 rfl d_X2_combined_275 ?_
            refine zg_goto d_X2_combined_276 ?_
            exact zg_lretK d_X2_combined_280 rfl ⟨Nat.le_of_ble_eq_true rfl, Nat.le_of_ble_eq_true rfl⟩ (fun q => q)
        · refine zg_lconst 1 rfl d_X2_combined_275 ?_
          refine zg_goto d_X2_combined_276 ?_
          exact zg_lretK d_X2_combined_280 rfl ⟨Nat.le_of_ble_eq_true rfl, Nat.le_of_ble_eq_true rfl⟩ (fun q => q)
      refine zg_if (fun n11 => ?_) (fun n11 => ?_)
      · refine zg_tabE n11 d_X2_combined_29 (by decide) (by decide) (off := 234) rfl (tgt := 263) (by decide) ?_
        refine zg_lload_n 2 rfl d_X2_combined_263 ?_
        refine zg_lconst 0 rfl d_X2_combined_264 ?_
        refine zg_lcmp d_X2_combined_265 ?_
        refine zg_if_ne d_X2_combined_266 ?_ ?_
        · refine zg_lload_n 3 rfl d_X2_combined_269 ?_
          refine zg_lconst 0 rfl d_X2_combined_270 ?_
          refine zg_lcmp d_X2_combined_271 ?_
          refine zg_if_eq d_X2_combined_272 ?_ ?_
          · refine zg_lconst 0 rfl d_X2_combined_279 ?_
            exact zg_lretK d_X2_combined_280 rfl ⟨Nat.le_of_ble_eq_true rfl, Nat.le_of_ble_eq_true rfl⟩ (fun q => q)
          · refine zg_lconst 1 rfl d_X2_combined_275 ?_
            refine zg_goto d_X2_combined_276 ?_
            exact zg_lretK d_X2_combined_280 rfl ⟨Nat.le_of_ble_eq_true rfl, Nat.le_of_ble_eq_true rfl⟩ (fun q => q)
        · refine zg_lconst 1 rfl d_X2_combined_275 ?_
          refine zg_goto d_X2_combined_276 ?_
          exact zg_lretK d_X2_combined_280 rfl ⟨Nat.le_of_ble_eq_true rfl, Nat.le_of_ble_eq_true rfl⟩ (fun q => q)
      refine zg_if (fun n12 => ?_) (fun n12 => ?_)
      · refine zg_tabE n12 d_X2_combined_29 (by decide) (by decide) (off := 234) rfl (tgt := 263) (by decide) ?_
        refine zg_lload_n 2 rfl d_X2_combined_263 ?_
        refine zg_lconst 0 rfl d_X2_combined_264 ?_
        refine zg_lcmp d_X2_combined_265 ?_
        refine zg_if_ne d_X2_combined_266 ?_ ?_
        · refine zg_lload_n 3 rfl d_X2_combined_269 ?_
          refine zg_lconst 0 rfl d_X2_combined_270 ?_
          refine zg_lcmp d_X2_combined_271 ?_
          refine zg_if_eq d_X2_combined_272 ?_ ?_
          · refine zg_lconst 0 rfl d_X2_combined_279 ?_
            exact zg_lretK d_X2_combined_280 rfl ⟨Nat.le_of_ble_eq_true rfl, Nat.le_of_ble_eq_true rfl⟩ (fun q => q)
          · refine zg_lconst 1 rfl d_X2_combined_275 ?_
            refine zg_goto d_X2_combined_276 ?_
            exact zg_lretK d_X2_combined_280 rfl ⟨Nat.le_of_ble_eq_true rfl, Nat.le_of_ble_eq_true rfl⟩ (fun q => q)
        · refine zg_lconst 1 rfl d_X2_combined_275 ?_
          refine zg_goto d_X2_combined_276 ?_
          exact zg_lretK d_X2_combined_280 rfl ⟨Nat.le_of_ble_eq_true rfl, Nat.le_of_ble_eq_true rfl⟩ (fun q => q)
      refine zg_if (fun n13 => ?_) (fun n13 => ?_)
      · refine zg_tabE n13 d_X2_combined_29 (by decide) (by decide) (off := 234) rfl (tgt := 263) (by decide) ?_
        refine zg_lload_n 2 rfl d_X2_combined_263 ?_
        refine zg_lconst 0 rfl d_X2_combined_264 ?_
        refine zg_lcmp d_X2_combined_265 ?_
        refine zg_if_ne d_X2_combined_266 ?_ ?_
        · refine zg_lload_n 3 rfl d_X2_combined_269 ?_
          refine zg_lconst 0 rfl d_X2_combined_270 ?_
          refine zg_lcmp d_X2_combined_271 ?_
          refine zg_if_eq d_X2_combined_272 ?_ ?_
          · refine zg_lconst 0 rfl d_X2_combined_279 ?_
            exact zg_lretK d_X2_combined_280 rfl ⟨Nat.le_of_ble_eq_true rfl, Nat.le_of_ble_eq_true rfl⟩ (fun q => q)
          · refine zg_lconst 1 rfl d_X2_combined_275 ?_
            refine zg_goto d_X2_combined_276 ?_
            exact zg_lretK d_X2_combined_280 rfl ⟨Nat.le_of_ble_eq_true rfl, Nat.le_of_ble_eq_true rfl⟩ (fun q => q)
        · refine zg_lconst 1 rfl d_X2_combined_275 ?_
          refine zg_goto d_X2_combined_276 ?_
          exact zg_lretK d_X2_combined_280 rfl ⟨Nat.le_of_ble_eq_true rfl, Nat.le_of_ble_eq_true rfl⟩ (fun q => q)
      refine zg_if (fun n14 => ?_) (fun n14 => ?_)
      · refine zg_tabE n14 d_X2_combined_29 (by decide) (by decide) (off := 234) rfl (tgt := 263) (by decide) ?_
        refine zg_lload_n 2 rfl d_X2_combined_263 ?_
        refine zg_lconst 0 rfl d_X2_combined_264 ?_
        refine zg_lcmp d_X2_combined_265 ?_
        refine zg_if_ne d_X2_combined_266 ?_ ?_
        · refine zg_lload_n 3 rfl d_X2_combined_269 ?_
          refine zg_lconst 0 rfl d_X2_combined_270 ?_
          refine zg_lcmp d_X2_combined_271 ?_
          refine zg_if_eq d_X2_combined_272 ?_ ?_
          · refine zg_lconst 0 rfl d_X2_combined_279 ?_
            exact zg_lretK d_X2_combined_280 rfl ⟨Nat.le_of_ble_eq_true rfl, Nat.le_of_ble_eq_true rfl⟩ (fun q => q)
          · refine zg_lconst 1 rfl d_X2_combined_275 ?_
            refine zg_goto d_X2_combined_276 ?_
            exact zg_lretK d_X2_combined_280 rfl ⟨Nat.le_of_ble_eq_true rfl, Nat.le_of_ble_eq_true rfl⟩ (fun q => q)
        · refine zg_lconst 1 rfl d_X2_combined_275 ?_
          refine zg_goto d_X2_combined_276 ?_
          exact zg_lretK d_X2_combined_280 rfl ⟨Nat.le_of_ble_eq_true rfl, Nat.le_of_ble_eq_true rfl⟩ (fun q => q)
      refine zg_if (fun n15 => ?_) (fun n15 => ?_)
      · refine zg_tabE n15 d_X2_combined_29 (by decide) (by decide) (off := 234) rfl (tgt := 263) (by decide) ?_
        refine zg_lload_n 2 rfl d_X2_combined_263 ?_
        refine zg_lconst 0 rfl d_X2_combined_264 ?_
        refine zg_lcmp d_X2_combined_265 ?_
        refine zg_if_ne d_X2_combined_266 ?_ ?_
        · refine zg_lload_n 3 rfl d_X2_combined_269 ?_
          refine zg_lconst 0 rfl d_X2_combined_270 ?_
          refine zg_lcmp d_X2_combined_271 ?_
          refine zg_if_eq d_X2_combined_272 ?_ ?_
          · refine zg_lconst 0 rfl d_X2_combined_279 ?_
            exact zg_lretK d_X2_combined_280 rfl ⟨Nat.le_of_ble_eq_true rfl, Nat.le_of_ble_eq_true rfl⟩ (fun q => q)
          · refine zg_lconst 1 rfl d_X2_combined_275 ?_
            refine zg_goto d_X2_combined_276 ?_
            exact zg_lretK d_X2_combined_280 rfl ⟨Nat.le_of_ble_eq_true rfl, Nat.le_of_ble_eq_true rfl⟩ (fun q => q)
        · refine zg_lconst 1 rfl d_X2_combined_275 ?_
          refine zg_goto d_X2_combined_276 ?_
          exact zg_lretK d_X2_combined_280 rfl ⟨Nat.le_of_ble_eq_true rfl, Nat.le_of_ble_eq_true rfl⟩ (fun q => q)
      refine zg_if (fun n16 => ?_) (fun n16 => ?_)
      · refine zg_tabE n16 d_X2_combined_29 (by decide) (by decide) (off := 91) rfl (tgt := 120) (by decide) ?_
        refine zg_lload_n 2 rfl d_X2_combined_120 ?_
        refine zg_lload_n 3 rfl d_X2_combined_121 ?_
        refine zg_ladd d_X2_combined_122 ?_
        exact zg_lretK d_X2_combined_123 rfl ⟨Nat.le_of_ble_eq_true rfl, Nat.le_of_ble_eq_true rfl⟩ (fun q => q)
      refine zg_if (fun n17 => ?_) (fun n17 => ?_)
      · refine zg_tabE n17 d_X2_combined_29 (by decide) (by decide) (off := 95) rfl (tgt := 124) (by decide) ?_
        refine zg_lload_n 2 rfl d_X2_combined_124 ?_
        refine zg_lload_n 3 rfl d_X2_combined_125 ?_
        refine zg_lsub d_X2_combined_126 ?_
        exact zg_lretK d_X2_combined_127 rfl ⟨Nat.le_of_ble_eq_true rfl, Nat.le_of_ble_eq_true rfl⟩ (fun q => q)
      refine zg_if (fun n18 => ?_) (fun n18 => ?_)
      · refine zg_tabE n18 d_X2_combined_29 (by decide) (by decide) (off := 99) rfl (tgt := 128) (by decide) ?_
        refine zg_lload 4 rfl d_X2_combined_128 ?_
        refine zg_lconst 0 rfl d_X2_combined_130 ?_
        refine zg_lcmp d_X2_combined_131 ?_
        refine zg_if_eq d_X2_combined_132 ?_ ?_
        · refine zg_lload_n 2 rfl d_X2_combined_153 ?_
          refine zg_lload_n 3 rfl d_X2_combined_154 ?_
          refine zg_lmul d_X2_combined_155 ?_
          exact zg_lretK d_X2_combined_156 rfl ⟨Nat.le_of_ble_eq_true rfl, Nat.le_of_ble_eq_true rfl⟩ (fun q => q)
        · refine zg_lload 0 rfl d_X2_combined_135 ?_
          refine zg_ldc2 kl_X2_36 d_X2_combined_137 ?_
          refine zg_lload 4 rfl d_X2_combined_140 ?_
          refine zg_ldivP d_X2_combined_142 (fun v5 => ?_)
          refine zg_lcmp d_X2_combined_143 ?_
          refine zg_if_le d_X2_combined_144 ?_ ?_
          · refine zg_lload_n 2 rfl d_X2_combined_153 ?_
            refine zg_lload_n 3 rfl d_X2_combined_154 ?_
            refine zg_lmul d_X2_combined_155 ?_
            exact zg_lretK d_X2_combined_156 rfl ⟨Nat.le_of_ble_eq_true rfl, Nat.le_of_ble_eq_true rfl⟩ (fun q => q)
          · refine zg_ldc2 kl_X2_40 d_X2_combined_147 ?_
            refine zg_goto d_X2_combined_150 ?_
            exact zg_lretK d_X2_combined_156 rfl ⟨Nat.le_of_ble_eq_true rfl, Nat.le_of_ble_eq_true rfl⟩ (fun q => q)
      refine zg_if (fun n19 => ?_) (fun n19 => ?_)
      · refine zg_tabE n19 d_X2_combined_29 (by decide) (by decide) (off := 128) rfl (tgt := 157) (by decide) ?_
        refine zg_lload_n 3 rfl d_X2_combined_157 ?_
        refine zg_lconst 0 rfl d_X2_combined_158 ?_
        refine zg_lcmp d_X2_combined_159 ?_
        refine zg_if_ne d_X2_combined_160 ?_ ?_
        · refine zg_ldc2 kl_X2_40 d_X2_combined_163 ?_
          refine zg_goto d_X2_combined_166 ?_
          exact zg_lretK d_X2_combined_172 rfl ⟨Nat.le_of_ble_eq_true rfl, Nat.le_of_ble_eq_true rfl⟩ (fun q => q)
        · refine zg_lload_n 2 rfl d_X2_combined_169 ?_
          refine zg_lload_n 3 rfl d_X2_combined_170 ?_
          refine zg_ldivP d_X2_combined_171 (fun v6 => ?_)
          exact zg_lretK d_X2_combined_172 rfl ⟨Nat.le_of_ble_eq_true rfl, Nat.le_of_ble_eq_true rfl⟩ (fun q => q)
      refine zg_if (fun n20 => ?_) (fun n20 => ?_)
      · refine zg_tabE n20 d_X2_combined_29 (by decide) (by decide) (off := 144) rfl (tgt := 173) (by decide) ?_
        refine zg_lload_n 2 rfl d_X2_combined_173 ?_
        refine zg_lload_n 3 rfl d_X2_combined_174 ?_
        refine zg_lcmp d_X2_combined_175 ?_
        refine zg_if_ge d_X2_combined_176 ?_ ?_
        · refine zg_lconst 0 rfl d_X2_combined_183 ?_
          exact zg_lretK d_X2_combined_184 rfl ⟨Nat.le_of_ble_eq_true rfl, Nat.le_of_ble_eq_true rfl⟩ (fun q => q)
        · refine zg_lconst 1 rfl d_X2_combined_179 ?_
          refine zg_goto d_X2_combined_180 ?_
          exact zg_lretK d_X2_combined_184 rfl ⟨Nat.le_of_ble_eq_true rfl, Nat.le_of_ble_eq_true rfl⟩ (fun q => q)
      refine zg_if (fun n21 => ?_) (fun n21 => ?_)
      · refine zg_tabE n21 d_X2_combined_29 (by decide) (by decide) (off := 156) rfl (tgt := 185) (by decide) ?_
        refine zg_lload_n 2 rfl d_X2_combined_185 ?_
        refine zg_lload_n 3 rfl d_X2_combined_186 ?_
        refine zg_lcmp d_X2_combined_187 ?_
        refine zg_if_gt d_X2_combined_188 ?_ ?_
        · refine zg_lconst 0 rfl d_X2_combined_195 ?_
          exact zg_lretK d_X2_combined_196 rfl ⟨Nat.le_of_ble_eq_true rfl, Nat.le_of_ble_eq_true rfl⟩ (fun q => q)
        · refine zg_lconst 1 rfl d_X2_combined_191 ?_
          refine zg_goto d_X2_combined_192 ?_
          exact zg_lretK d_X2_combined_196 rfl ⟨Nat.le_of_ble_eq_true rfl, Nat.le_of_ble_eq_true rfl⟩ (fun q => q)
      refine zg_if (fun n22 => ?_) (fun n22 => ?_)
      · refine zg_tabE n22 d_X2_combined_29 (by decide) (by decide) (off := 168) rfl (tgt := 197) (by decide) ?_
        refine zg_lload_n 2 rfl d_X2_combined_197 ?_
        refine zg_lload_n 3 rfl d_X2_combined_198 ?_
        refine zg_lcmp d_X2_combined_199 ?_
        refine zg_if_ne d_X2_combined_200 ?_ ?_
        · refine zg_lconst 1 rfl d_X2_combined_203 ?_
          refine zg_goto d_X2_combined_204 ?_
          exact zg_lretK d_X2_combined_208 rfl ⟨Nat.le_of_ble_eq_true rfl, Nat.le_of_ble_eq_true rfl⟩ (fun q => q)
        · refine zg_lconst 0 rfl d_X2_combined_207 ?_
          exact zg_lretK d_X2_combined_208 rfl ⟨Nat.le_of_ble_eq_true rfl, Nat.le_of_ble_eq_true rfl⟩ (fun q => q)
      refine zg_if (fun n23 => ?_) (fun n23 => ?_)
      · refine zg_tabE n23 d_X2_combined_29 (by decide) (by decide) (off := 180) rfl (tgt := 209) (by decide) ?_
        refine zg_lload_n 2 rfl d_X2_combined_209 ?_
        refine zg_lload_n 3 rfl d_X2_combined_210 ?_
        refine zg_lcmp d_X2_combined_211 ?_
        refine zg_if_eq d_X2_combined_212 ?_ ?_
        · refine zg_lconst 0 rfl d_X2_combined_219 ?_
          exact zg_lretK d_X2_combined_220 rfl ⟨Nat.le_of_ble_eq_true rfl, Nat.le_of_ble_eq_true rfl⟩ (fun q => q)
        · refine zg_lconst 1 rfl d_X2_combined_215 ?_
          refine zg_goto d_X2_combined_216 ?_
          exact zg_lretK d_X2_combined_220 rfl ⟨Nat.le_of_ble_eq_true rfl, Nat.le_of_ble_eq_true rfl⟩ (fun q => q)
      refine zg_if (fun n24 => ?_) (fun n24 => ?_)
      · refine zg_tabE n24 d_X2_combined_29 (by decide) (by decide) (off := 192) rfl (tgt := 221) (by decide) ?_
        refine zg_lload_n 2 rfl d_X2_combined_221 ?_
        refine zg_lload_n 3 rfl d_X2_combined_222 ?_
        refine zg_lcmp d_X2_combined_223 ?_
        refine zg_if_lt d_X2_combined_224 ?_ ?_
        · refine zg_lconst 0 rfl d_X2_combined_231 ?_
          exact zg_lretK d_X2_combined_232 rfl ⟨Nat.le_of_ble_eq_true rfl, Nat.le_of_ble_eq_true rfl⟩ (fun q => q)
        · refine zg_lconst 1 rfl d_X2_combined_227 ?_
          refine zg_goto d_X2_combined_228 ?_
          exact zg_lretK d_X2_combined_232 rfl ⟨Nat.le_of_ble_eq_true rfl, Nat.le_of_ble_eq_true rfl⟩ (fun q => q)
      refine zg_if (fun n25 => ?_) (fun n25 => ?_)
      · refine zg_tabE n25 d_X2_combined_29 (by decide) (by decide) (off := 204) rfl (tgt := 233) (by decide) ?_
        refine zg_lload_n 2 rfl d_X2_combined_233 ?_
        refine zg_lload_n 3 rfl d_X2_combined_234 ?_
        refine zg_lcmp d_X2_combined_235 ?_
        refine zg_if_le d_X2_combined_236 ?_ ?_
        · refine zg_lconst 0 rfl d_X2_combined_243 ?_
          exact zg_lretK d_X2_combined_244 rfl ⟨Nat.le_of_ble_eq_true rfl, Nat.le_of_ble_eq_true rfl⟩ (fun q => q)
        · refine zg_lconst 1 rfl d_X2_combined_239 ?_
          refine zg_goto d_X2_combined_240 ?_
          exact zg_lretK d_X2_combined_244 rfl ⟨Nat.le_of_ble_eq_true rfl, Nat.le_of_ble_eq_true rfl⟩ (fun q => q)
      refine zg_tabO d_X2_combined_29 (by have q0 := lv_neT n7 (a := 14) rfl; have q1 := lv_neT n8 (a := 15) rfl; have q2 := lv_neT n9 (a := 16) rfl; have q3 := lv_neT n10 (a := 17) rfl; have q4 := lv_neT n11 (a := 18) rfl; have q5 := lv_neT n12 (a := 19) rfl; have q6 := lv_neT n13 (a := 20) rfl; have q7 := lv_neT n14 (a := 21) rfl; have q8 := lv_neT n15 (a := 22) rfl; have q9 := lv_neT n16 (a := 23) rfl; have q10 := lv_neT n17 (a := 24) rfl; have q11 := lv_neT n18 (a := 25) rfl; have q12 := lv_neT n19 (a := 26) rfl; have q13 := lv_neT n20 (a := 27) rfl; have q14 := lv_neT n21 (a := 28) rfl; have q15 := lv_neT n22 (a := 29) rfl; have q16 := lv_neT n23 (a := 30) rfl; have q17 := lv_neT n24 (a := 31) rfl; have q18 := lv_neT n25 (a := 32) rfl; omega) (tgt := 263) (by decide) ?_
      refine zg_lload_n 2 rfl d_X2_combined_263 ?_
      refine zg_lconst 0 rfl d_X2_combined_264 ?_
      refine zg_lcmp d_X2_combined_265 ?_
      refine zg_if_ne d_X2_combined_266 ?_ ?_
      · refine zg_lload_n 3 rfl d_X2_combined_269 ?_
        refine zg_lconst 0 rfl d_X2_combined_270 ?_
        refine zg_lcmp d_X2_combined_271 ?_
        refine zg_if_eq d_X2_combined_272 ?_ ?_
        · refine zg_lconst 0 rfl d_X2_combined_279 ?_
          exact zg_lretK d_X2_combined_280 rfl ⟨Nat.le_of_ble_eq_true rfl, Nat.le_of_ble_eq_true rfl⟩ (fun q => q)
        · refine zg_lconst 1 rfl d_X2_combined_275 ?_
          refine zg_goto d_X2_combined_276 ?_
          exact zg_lretK d_X2_combined_280 rfl ⟨Nat.le_of_ble_eq_true rfl, Nat.le_of_ble_eq_true rfl⟩ (fun q => q)
      · refine zg_lconst 1 rfl d_X2_combined_275 ?_
        refine zg_goto d_X2_combined_276 ?_
        exact zg_lretK d_X2_combined_280 rfl ⟨Nat.le_of_ble_eq_true rfl, Nat.le_of_ble_eq_true rfl⟩ (fun q => q)
abbrev M_X2_worth : zMt := (RX2, cX2_worth, 8, 2, 88, (some .long), "worth", 0, 0)
theorem d_X2_worth_0 : zDc M_X2_worth 0 (.iconst 0) 1 1 := ⟨by decide +kernel, rfl⟩
theorem d_X2_worth_1 : zDc M_X2_worth 1 (.istore_n 3) 1 2 := ⟨by decide +kernel, rfl⟩
theorem d_X2_worth_2 : zDc M_X2_worth 2 (.aload_n 0) 1 3 := ⟨by decide +kernel, rfl⟩
theorem d_X2_worth_3 : zDc M_X2_worth 3 (.getfield 15) 3 6 := ⟨by decide +kernel, rfl⟩
theorem d_X2_worth_6 : zDc M_X2_worth 6 (.iload_n 1) 1 7 := ⟨by decide +kernel, rfl⟩
theorem d_X2_worth_7 : zDc M_X2_worth 7 (.iaload) 1 8 := ⟨by decide +kernel, rfl⟩
theorem d_X2_worth_8 : zDc M_X2_worth 8 (.istore 4) 2 10 := ⟨by decide +kernel, rfl⟩
theorem d_X2_worth_10 : zDc M_X2_worth 10 (.iload 4) 2 12 := ⟨by decide +kernel, rfl⟩
theorem d_X2_worth_12 : zDc M_X2_worth 12 (.aload_n 0) 1 13 := ⟨by decide +kernel, rfl⟩
theorem d_X2_worth_13 : zDc M_X2_worth 13 (.getfield 18) 3 16 := ⟨by decide +kernel, rfl⟩
theorem d_X2_worth_16 : zDc M_X2_worth 16 (.iload_n 1) 1 17 := ⟨by decide +kernel, rfl⟩
theorem d_X2_worth_17 : zDc M_X2_worth 17 (.iaload) 1 18 := ⟨by decide +kernel, rfl⟩
theorem d_X2_worth_18 : zDj M_X2_worth 18 (.if_icmp .ge 166) 166 21 184 := ⟨by decide +kernel, rfl, by decide⟩
theorem d_X2_worth_21 : zDc M_X2_worth 21 (.aload_n 0) 1 22 := ⟨by decide +kernel, rfl⟩
theorem d_X2_worth_22 : zDc M_X2_worth 22 (.getfield 9) 3 25 := ⟨by decide +kernel, rfl⟩
theorem d_X2_worth_25 : zDc M_X2_worth 25 (.iload 4) 2 27 := ⟨by decide +kernel, rfl⟩
theorem d_X2_worth_27 : zDc M_X2_worth 27 (.iaload) 1 28 := ⟨by decide +kernel, rfl⟩
theorem d_X2_worth_28 : zDc M_X2_worth 28 (.iconst (-1)) 1 29 := ⟨by decide +kernel, rfl⟩
theorem d_X2_worth_29 : zDc M_X2_worth 29 (.ixor) 1 30 := ⟨by decide +kernel, rfl⟩
theorem d_X2_worth_30 : zDc M_X2_worth 30 (.istore 5) 2 32 := ⟨by decide +kernel, rfl⟩
theorem d_X2_worth_32 : zDc M_X2_worth 32 (.aload_n 0) 1 33 := ⟨by decide +kernel, rfl⟩
theorem d_X2_worth_33 : zDc M_X2_worth 33 (.getfield 9) 3 36 := ⟨by decide +kernel, rfl⟩
theorem d_X2_worth_36 : zDc M_X2_worth 36 (.iload 4) 2 38 := ⟨by decide +kernel, rfl⟩
theorem d_X2_worth_38 : zDc M_X2_worth 38 (.iaload) 1 39 := ⟨by decide +kernel, rfl⟩
theorem d_X2_worth_39 : zDc M_X2_worth 39 (.i2l) 1 40 := ⟨by decide +kernel, rfl⟩
theorem d_X2_worth_40 : zDc M_X2_worth 40 (.lstore 6) 2 42 := ⟨by decide +kernel, rfl⟩
theorem d_X2_worth_42 : zDc M_X2_worth 42 (.iload 5) 2 44 := ⟨by decide +kernel, rfl⟩
theorem d_X2_worth_44 : zDc M_X2_worth 44 (.bipush 16) 2 46 := ⟨by decide +kernel, rfl⟩
theorem d_X2_worth_46 : zDj M_X2_worth 46 (.if_icmp .lt 23) 23 49 69 := ⟨by decide +kernel, rfl, by decide⟩
theorem d_X2_worth_49 : zDc M_X2_worth 49 (.iload 5) 2 51 := ⟨by decide +kernel, rfl⟩
theorem d_X2_worth_51 : zDc M_X2_worth 51 (.bipush 22) 2 53 := ⟨by decide +kernel, rfl⟩
theorem d_X2_worth_53 : zDj M_X2_worth 53 (.if_icmp .gt 16) 16 56 69 := ⟨by decide +kernel, rfl, by decide⟩
theorem d_X2_worth_56 : zDc M_X2_worth 56 (.aload_n 2) 1 57 := ⟨by decide +kernel, rfl⟩
theorem d_X2_worth_57 : zDc M_X2_worth 57 (.iload 5) 2 59 := ⟨by decide +kernel, rfl⟩
theorem d_X2_worth_59 : zDc M_X2_worth 59 (.bipush 16) 2 61 := ⟨by decide +kernel, rfl⟩
theorem d_X2_worth_61 : zDc M_X2_worth 61 (.isub) 1 62 := ⟨by decide +kernel, rfl⟩
theorem d_X2_worth_62 : zDc M_X2_worth 62 (.iaload) 1 63 := ⟨by decide +kernel, rfl⟩
theorem d_X2_worth_63 : zDc M_X2_worth 63 (.i2l) 1 64 := ⟨by decide +kernel, rfl⟩
theorem d_X2_worth_64 : zDc M_X2_worth 64 (.lstore 6) 2 66 := ⟨by decide +kernel, rfl⟩
theorem d_X2_worth_66 : zDj M_X2_worth 66 (.goto 73) 73 69 139 := ⟨by decide +kernel, rfl, by decide⟩
theorem d_X2_worth_69 : zDc M_X2_worth 69 (.iload 5) 2 71 := ⟨by decide +kernel, rfl⟩
theorem d_X2_worth_71 : zDc M_X2_worth 71 (.bipush 15) 2 73 := ⟨by decide +kernel, rfl⟩
theorem d_X2_worth_73 : zDj M_X2_worth 73 (.if_icmp .ne 32) 32 76 105 := ⟨by decide +kernel, rfl, by decide⟩
theorem d_X2_worth_76 : zDc M_X2_worth 76 (.iload_n 3) 1 77 := ⟨by decide +kernel, rfl⟩
theorem d_X2_worth_77 : zDc M_X2_worth 77 (.iconst 1) 1 78 := ⟨by decide +kernel, rfl⟩
theorem d_X2_worth_78 : zDj M_X2_worth 78 (.if_icmp .lt 27) 27 81 105 := ⟨by decide +kernel, rfl, by decide⟩
theorem d_X2_worth_81 : zDc M_X2_worth 81 (.iinc 3 (-1)) 3 84 := ⟨by decide +kernel, rfl⟩
theorem d_X2_worth_84 : zDc M_X2_worth 84 (.aload_n 0) 1 85 := ⟨by decide +kernel, rfl⟩
theorem d_X2_worth_85 : zDc M_X2_worth 85 (.getfield 21) 3 88 := ⟨by decide +kernel, rfl⟩
theorem d_X2_worth_88 : zDc M_X2_worth 88 (.iload_n 3) 1 89 := ⟨by decide +kernel, rfl⟩
theorem d_X2_worth_89 : zDc M_X2_worth 89 (.laload) 1 90 := ⟨by decide +kernel, rfl⟩
theorem d_X2_worth_90 : zDc M_X2_worth 90 (.lconst 0) 1 91 := ⟨by decide +kernel, rfl⟩
theorem d_X2_worth_91 : zDc M_X2_worth 91 (.lcmp) 1 92 := ⟨by decide +kernel, rfl⟩
theorem d_X2_worth_92 : zDj M_X2_worth 92 (.ifCond .ne 7) 7 95 99 := ⟨by decide +kernel, rfl, by decide⟩
theorem d_X2_worth_95 : zDc M_X2_worth 95 (.lconst 1) 1 96 := ⟨by decide +kernel, rfl⟩
theorem d_X2_worth_96 : zDj M_X2_worth 96 (.goto 4) 4 99 100 := ⟨by decide +kernel, rfl, by decide⟩
theorem d_X2_worth_99 : zDc M_X2_worth 99 (.lconst 0) 1 100 := ⟨by decide +kernel, rfl⟩
theorem d_X2_worth_100 : zDc M_X2_worth 100 (.lstore 6) 2 102 := ⟨by decide +kernel, rfl⟩
theorem d_X2_worth_102 : zDj M_X2_worth 102 (.goto 37) 37 105 139 := ⟨by decide +kernel, rfl, by decide⟩
theorem d_X2_worth_105 : zDc M_X2_worth 105 (.iload 5) 2 107 := ⟨by decide +kernel, rfl⟩
theorem d_X2_worth_107 : zDj M_X2_worth 107 (.ifCond .lt 32) 32 110 139 := ⟨by decide +kernel, rfl, by decide⟩
theorem d_X2_worth_110 : zDc M_X2_worth 110 (.iload_n 3) 1 111 := ⟨by decide +kernel, rfl⟩
theorem d_X2_worth_111 : zDc M_X2_worth 111 (.iconst 2) 1 112 := ⟨by decide +kernel, rfl⟩
theorem d_X2_worth_112 : zDj M_X2_worth 112 (.if_icmp .lt 27) 27 115 139 := ⟨by decide +kernel, rfl, by decide⟩
theorem d_X2_worth_115 : zDc M_X2_worth 115 (.iinc 3 (-2)) 3 118 := ⟨by decide +kernel, rfl⟩
theorem d_X2_worth_118 : zDc M_X2_worth 118 (.iload 5) 2 120 := ⟨by decide +kernel, rfl⟩
theorem d_X2_worth_120 : zDc M_X2_worth 120 (.aload_n 0) 1 121 := ⟨by decide +kernel, rfl⟩
theorem d_X2_worth_121 : zDc M_X2_worth 121 (.getfield 21) 3 124 := ⟨by decide +kernel, rfl⟩
theorem d_X2_worth_124 : zDc M_X2_worth 124 (.iload_n 3) 1 125 := ⟨by decide +kernel, rfl⟩
theorem d_X2_worth_125 : zDc M_X2_worth 125 (.laload) 1 126 := ⟨by decide +kernel, rfl⟩
theorem d_X2_worth_126 : zDc M_X2_worth 126 (.aload_n 0) 1 127 := ⟨by decide +kernel, rfl⟩
theorem d_X2_worth_127 : zDc M_X2_worth 127 (.getfield 21) 3 130 := ⟨by decide +kernel, rfl⟩
theorem d_X2_worth_130 : zDc M_X2_worth 130 (.iload_n 3) 1 131 := ⟨by decide +kernel, rfl⟩
theorem d_X2_worth_131 : zDc M_X2_worth 131 (.iconst 1) 1 132 := ⟨by decide +kernel, rfl⟩
theorem d_X2_worth_132 : zDc M_X2_worth 132 (.iadd) 1 133 := ⟨by decide +kernel, rfl⟩
theorem d_X2_worth_133 : zDc M_X2_worth 133 (.laload) 1 134 := ⟨by decide +kernel, rfl⟩
theorem d_X2_worth_134 : zDc M_X2_worth 134 (.invokestatic 32) 3 137 := ⟨by decide +kernel, rfl⟩
theorem d_X2_worth_137 : zDc M_X2_worth 137 (.lstore 6) 2 139 := ⟨by decide +kernel, rfl⟩
theorem d_X2_worth_139 : zDc M_X2_worth 139 (.lload 6) 2 141 := ⟨by decide +kernel, rfl⟩
theorem d_X2_worth_141 : zDc M_X2_worth 141 (.ldc2_w 36) 3 144 := ⟨by decide +kernel, rfl⟩
theorem d_X2_worth_144 : zDc M_X2_worth 144 (.lcmp) 1 145 := ⟨by decide +kernel, rfl⟩
theorem d_X2_worth_145 : zDj M_X2_worth 145 (.ifCond .gt 18) 18 148 163 := ⟨by decide +kernel, rfl, by decide⟩
theorem d_X2_worth_148 : zDc M_X2_worth 148 (.lload 6) 2 150 := ⟨by decide +kernel, rfl⟩
theorem d_X2_worth_150 : zDc M_X2_worth 150 (.ldc2_w 38) 3 153 := ⟨by decide +kernel, rfl⟩
theorem d_X2_worth_153 : zDc M_X2_worth 153 (.lcmp) 1 154 := ⟨by decide +kernel, rfl⟩
theorem d_X2_worth_154 : zDj M_X2_worth 154 (.ifCond .lt 9) 9 157 163 := ⟨by decide +kernel, rfl, by decide⟩
theorem d_X2_worth_157 : zDc M_X2_worth 157 (.iload_n 3) 1 158 := ⟨by decide +kernel, rfl⟩
theorem d_X2_worth_158 : zDc M_X2_worth 158 (.bipush 64) 2 160 := ⟨by decide +kernel, rfl⟩
theorem d_X2_worth_160 : zDj M_X2_worth 160 (.if_icmp .lt 7) 7 163 167 := ⟨by decide +kernel, rfl, by decide⟩
theorem d_X2_worth_163 : zDc M_X2_worth 163 (.ldc2_w 40) 3 166 := ⟨by decide +kernel, rfl⟩
theorem d_X2_worth_166 : zDc M_X2_worth 166 (.lreturn) 1 167 := ⟨by decide +kernel, rfl⟩
theorem d_X2_worth_167 : zDc M_X2_worth 167 (.aload_n 0) 1 168 := ⟨by decide +kernel, rfl⟩
theorem d_X2_worth_168 : zDc M_X2_worth 168 (.getfield 21) 3 171 := ⟨by decide +kernel, rfl⟩
theorem d_X2_worth_171 : zDc M_X2_worth 171 (.iload_n 3) 1 172 := ⟨by decide +kernel, rfl⟩
theorem d_X2_worth_172 : zDc M_X2_worth 172 (.lload 6) 2 174 := ⟨by decide +kernel, rfl⟩
theorem d_X2_worth_174 : zDc M_X2_worth 174 (.lastore) 1 175 := ⟨by decide +kernel, rfl⟩
theorem d_X2_worth_175 : zDc M_X2_worth 175 (.iinc 3 1) 3 178 := ⟨by decide +kernel, rfl⟩
theorem d_X2_worth_178 : zDc M_X2_worth 178 (.iinc 4 1) 3 181 := ⟨by decide +kernel, rfl⟩
theorem d_X2_worth_181 : zDj M_X2_worth 181 (.goto (-171)) (-171) 184 10 := ⟨by decide +kernel, rfl, by decide⟩
theorem d_X2_worth_184 : zDc M_X2_worth 184 (.iload_n 3) 1 185 := ⟨by decide +kernel, rfl⟩
theorem d_X2_worth_185 : zDc M_X2_worth 185 (.iconst 1) 1 186 := ⟨by decide +kernel, rfl⟩
theorem d_X2_worth_186 : zDj M_X2_worth 186 (.if_icmp .ne 12) 12 189 198 := ⟨by decide +kernel, rfl, by decide⟩
theorem d_X2_worth_189 : zDc M_X2_worth 189 (.aload_n 0) 1 190 := ⟨by decide +kernel, rfl⟩
theorem d_X2_worth_190 : zDc M_X2_worth 190 (.getfield 21) 3 193 := ⟨by decide +kernel, rfl⟩
theorem d_X2_worth_193 : zDc M_X2_worth 193 (.iconst 0) 1 194 := ⟨by decide +kernel, rfl⟩
theorem d_X2_worth_194 : zDc M_X2_worth 194 (.laload) 1 195 := ⟨by decide +kernel, rfl⟩
theorem d_X2_worth_195 : zDj M_X2_worth 195 (.goto 6) 6 198 201 := ⟨by decide +kernel, rfl, by decide⟩
theorem d_X2_worth_198 : zDc M_X2_worth 198 (.ldc2_w 40) 3 201 := ⟨by decide +kernel, rfl⟩
theorem d_X2_worth_201 : zDc M_X2_worth 201 (.lreturn) 1 202 := ⟨by decide +kernel, rfl⟩
def f_X2_worth (a0 : Nat) (a1 : Int32) (a2 : Nat) (h0 : zHp) : Option (Int64 × zHp) :=
  zob (zgR h0 a0 2 1) (fun v1 =>
  zob (zaI 0 h0 v1 a1) (fun v2 =>
  zbd (
  zlp (σ := (Int32 × Int32)) (β := ((Int32 × Int32) ⊕ Int64)) zLF (fun s3 h4 =>
  zob (zgR h4 a0 2 2) (fun v7 =>
  zob (zaI 0 h4 v7 a1) (fun v8 =>
  if v8 ≤ s3.2 then
  some ((.inr (.inl (s3.1, s3.2))), h4)
  else
  zob (zgR h4 a0 2 0) (fun v9 =>
  zob (zaI 0 h4 v9 s3.2) (fun v10 =>
  zob (zgR h4 a0 2 0) (fun v11 =>
  zob (zaI 0 h4 v11 s3.2) (fun v12 =>
  zbd (α := (Int32 × Int64)) (
  if (v10 ^^^ (-1)) < 16 then
  zbd (α := (Unit ⊕ (Int32 × Int64))) (
  if (v10 ^^^ (-1)) = 15 then
  if s3.1 < 1 then
  some ((.inl ()), h4)
  else
  zob (zgR h4 a0 2 3) (fun v13 =>
  zob (zaL h4 v13 (s3.1 + (-1))) (fun v14 =>
  if (lg_cmp v14 0) = 0 then
  some ((.inr ((s3.1 + (-1)), 1)), h4)
  else
  some ((.inr ((s3.1 + (-1)), 0)), h4)))
  else
  some ((.inl ()), h4)) (fun b40 h16 => zsl b40 (fun e15 =>
  if (v10 ^^^ (-1)) < 0 then
  some ((s3.1, (Int32.toInt64 v12)), h16)
  else
  if s3.1 < 2 then
  some ((s3.1, (Int32.toInt64 v12)), h16)
  else
  zob (zgR h16 a0 2 3) (fun v17 =>
  zob (zaL h16 v17 (s3.1 + (-2))) (fun v18 =>
  zob (zgR h16 a0 2 3) (fun v19 =>
  zob (zaL h16 v19 ((s3.1 + (-2)) + 1)) (fun v20 =>
  zbd ((f_X2_combined (v10 ^^^ (-1)) v18 v20 h16)) (fun v22 h21 =>
  some (((s3.1 + (-2)), v22), h21))))))) (fun r => some (r, h16)))
  else
  if 22 < (v10 ^^^ (-1)) then
  zbd (α := (Unit ⊕ (Int32 × Int64))) (
  if (v10 ^^^ (-1)) = 15 then
  if s3.1 < 1 then
  some ((.inl ()), h4)
  else
  zob (zgR h4 a0 2 3) (fun v23 =>
  zob (zaL h4 v23 (s3.1 + (-1))) (fun v24 =>
  if (lg_cmp v24 0) = 0 then
  some ((.inr ((s3.1 + (-1)), 1)), h4)
  else
  some ((.inr ((s3.1 + (-1)), 0)), h4)))
  else
  some ((.inl ()), h4)) (fun b41 h26 => zsl b41 (fun e25 =>
  if (v10 ^^^ (-1)) < 0 then
  some ((s3.1, (Int32.toInt64 v12)), h26)
  else
  if s3.1 < 2 then
  some ((s3.1, (Int32.toInt64 v12)), h26)
  else
  zob (zgR h26 a0 2 3) (fun v27 =>
  zob (zaL h26 v27 (s3.1 + (-2))) (fun v28 =>
  zob (zgR h26 a0 2 3) (fun v29 =>
  zob (zaL h26 v29 ((s3.1 + (-2)) + 1)) (fun v30 =>
  zbd ((f_X2_combined (v10 ^^^ (-1)) v28 v30 h26)) (fun v32 h31 =>
  some (((s3.1 + (-2)), v32), h31))))))) (fun r => some (r, h26)))
  else
  zob (zaI 0 h4 a2 ((v10 ^^^ (-1)) - 16)) (fun v33 =>
  some ((s3.1, (Int32.toInt64 v33)), h4))) (fun e34 h35 =>
  if 0 < (lg_cmp e34.2 1000000000000) then
  some ((.inr (.inr (-9223372036854775808))), h35)
  else
  if (lg_cmp e34.2 (-1000000000000)) < 0 then
  some ((.inr (.inr (-9223372036854775808))), h35)
  else
  if e34.1 < 64 then
  zob (zgR h35 a0 2 3) (fun v36 =>
  zob (zsL h35 v36 e34.1 e34.2) (fun h37 =>
  some ((.inl ((e34.1 + 1), (s3.2 + 1))), h37)))
  else
  some ((.inr (.inr (-9223372036854775808))), h35))))))))) (0, v2) h0) (fun b42 h6 => zsl b42 (fun e5 =>
  if e5.1 = 1 then
  zob (zgR h6 a0 2 3) (fun v38 =>
  zob (zaL h6 v38 0) (fun v39 =>
  some (v39, h6)))
  else
  some ((-9223372036854775808), h6)) (fun r => some (r, h6)))))
set_option maxRecDepth 100000 in
set_option maxHeartbeats 4000000 in
theorem t_X2_worth (a0 : Nat) (a1 : Int32) (a2 : Nat) (h0 : zHp) : ∀ (r : Int64) (h' : zHp), f_X2_worth a0 a1 a2 h0 = some (r, h') → zCt yX2_worth (.code yX2_worth cX2_worth 8 (some .long)) 2 88 0 0 [.ref a0, .int a1, .ref a2] h0 (some (.long r)) h' := by
  refine zct_of M_X2_worth yX2_worth (by decide) rfl rfl [.ref a0, .int a1, .ref a2] h0 (Nat.le_of_ble_eq_true rfl) (fun r => some (.long r)) (fun X => ?_)
  show zG X M_X2_worth (0, 0) 0 [(0, .ref a0), (1, .int a1), (2, .ref a2)] [] h0 (f_X2_worth a0 a1 a2 h0) (fun (r : Int64) h' => zKe X (some (.long r)) h')
  unfold f_X2_worth
  refine zg_iconst 0 rfl d_X2_worth_0 ?_
  refine zg_istore_n [(3, .int 0), (0, .ref a0), (1, .int a1), (2, .ref a2)] d_X2_worth_1 rfl (by decide) rfl ?_
  refine zg_aload_n 1 rfl d_X2_worth_2 ?_
  refine zg_getR d_X2_worth_3 zc_2 (by decide) fl_X2_15 (fun v1 => ?_)
  refine zg_iload_n 2 rfl d_X2_worth_6 ?_
  refine zg_ald0 d_X2_worth_7 (fun v2 => ?_)
  refine zg_istore [(4, .int v2), (3, .int 0), (0, .ref a0), (1, .int a1), (2, .ref a2)] d_X2_worth_8 (by decide) rfl ?_
  refine zg_bdr (E := 184) (el := (fun (e5 : (Int32 × Int32)) => [(0, .ref a0), (1, .int a1), (2, .ref a2), (3, .int e5.1), (4, .int e5.2)])) (es := fun _ => []) (zg_sub [2, 3, 4, 1, 0] rfl (zg_lp (el := (fun (s3 : (Int32 × Int32)) => [(0, .ref a0), (1, .int a1), (2, .ref a2), (3, .int s3.1), (4, .int s3.2)])) (fun s3 h4 => ?_) (0, v2) h0)) (fun e5 h6 => ?_)
  · refine zg_iload 4 rfl d_X2_worth_10 ?_
    refine zg_aload_n 0 rfl d_X2_worth_12 ?_
    refine zg_getR d_X2_worth_13 zc_2 (by decide) fl_X2_18 (fun v7 => ?_)
    refine zg_iload_n 1 rfl d_X2_worth_16 ?_
    refine zg_ald0 d_X2_worth_17 (fun v8 => ?_)
    refine zg_icmp_ge d_X2_worth_18 ?_ ?_
    · exact zg_finK (E := 0) [0, 1, 2, 3, 4] rfl rfl (fun q => q)
    · refine zg_aload_n 0 rfl d_X2_worth_21 ?_
      refine zg_getR d_X2_worth_22 zc_2 (by decide) fl_X2_9 (fun v9 => ?_)
      refine zg_iload 4 rfl d_X2_worth_25 ?_
      refine zg_ald0 d_X2_worth_27 (fun v10 => ?_)
      refine zg_iconst (-1) rfl d_X2_worth_28 ?_
      refine zg_ixor d_X2_worth_29 ?_
      refine zg_istore [(5, .int (v10 ^^^ (-1))), (0, .ref a0), (1, .int a1), (2, .ref a2), (3, .int s3.1), (4, .int s3.2)] d_X2_worth_30 (by decide) rfl ?_
      refine zg_aload_n 1 rfl d_X2_worth_32 ?_
      refine zg_getR d_X2_worth_33 zc_2 (by decide) fl_X2_9 (fun v11 => ?_)
      refine zg_iload 5 rfl d_X2_worth_36 ?_
      refine zg_ald0 d_X2_worth_38 (fun v12 => ?_)
      refine zg_i2l d_X2_worth_39 ?_
      refine zg_lstore [(6, .long (Int32.toInt64 v12)), (5, .int (v10 ^^^ (-1))), (0, .ref a0), (1, .int a1), (2, .ref a2), (3, .int s3.1), (4, .int s3.2)] d_X2_worth_40 (by decide) rfl ?_
      refine zg_iload 1 rfl d_X2_worth_42 ?_
      refine zg_bipush 16 rfl d_X2_worth_44 ?_
      refine zg_bd (E := 139) (el := (fun (e34 : (Int32 × Int64)) => [(0, .ref a0), (1, .int a1), (2, .ref a2), (3, .int e34.1), (4, .int s3.2), (5, .int (v10 ^^^ (-1))), (6, .long e34.2)])) (es := (fun (e34 : (Int32 × Int64)) => [])) ?_ (fun e34 h35 => ?_)
      · refine zg_icmp_lt d_X2_worth_46 ?_ ?_
        · refine zg_iload 1 rfl d_X2_worth_69 ?_
          refine zg_bipush 15 rfl d_X2_worth_71 ?_
          refine zg_bdr (E := 105) (el := (fun (e15 : Unit) => [(0, .ref a0), (1, .int a1), (2, .ref a2), (3, .int s3.1), (4, .int s3.2), (5, .int (v10 ^^^ (-1))), (6, .long (Int32.toInt64 v12))])) (es := (fun (e15 : Unit) => [])) ?_ (fun e15 h16 => ?_)
          · refine zg_icmp_ne d_X2_worth_73 ?_ ?_
            · refine zg_iload_n 5 rfl d_X2_worth_76 ?_
              refine zg_iconst 1 rfl d_X2_worth_77 ?_
              refine zg_icmp_lt d_X2_worth_78 ?_ ?_
              · exact zg_finK (E := 0) [2, 3, 4, 5, 6, 1, 0] rfl rfl (fun q => q)
              · refine zg_iinc 5 (s3.1 + (-1)) [(3, .int (s3.1 + (-1))), (6, .long (Int32.toInt64 v12)), (5, .int (v10 ^^^ (-1))), (0, .ref a0), (1, .int a1), (2, .ref a2), (4, .int s3.2)] d_X2_worth_81 rfl rfl (by decide) rfl ?_
                refine zg_aload_n 3 rfl d_X2_worth_84 ?_
                refine zg_getR d_X2_worth_85 zc_2 (by decide) fl_X2_21 (fun v13 => ?_)
                refine zg_iload_n 0 rfl d_X2_worth_88 ?_
                refine zg_ald3 d_X2_worth_89 (fun v14 => ?_)
                refine zg_lconst 0 rfl d_X2_worth_90 ?_
                refine zg_lcmp d_X2_worth_91 ?_
                refine zg_if_ne d_X2_worth_92 ?_ ?_
                · refine zg_lconst 1 rfl d_X2_worth_95 ?_
                  refine zg_goto d_X2_worth_96 ?_
                  refine zg_lstore [(6, .long 1), (3, .int (s3.1 + (-1))), (5, .int (v10 ^^^ (-1))), (0, .ref a0), (1, .int a1), (2, .ref a2), (4, .int s3.2)] d_X2_worth_100 (by decide) rfl ?_
                  refine zg_goto d_X2_worth_102 ?_
                  exact zg_finK (E := 0) [3, 4, 5, 1, 6, 2, 0] rfl rfl (fun q => q)
                · refine zg_lconst 0 rfl d_X2_worth_99 ?_
                  refine zg_lstore [(6, .long 0), (3, .int (s3.1 + (-1))), (5, .int (v10 ^^^ (-1))), (0, .ref a0), (1, .int a1), (2, .ref a2), (4, .int s3.2)] d_X2_worth_100 (by decide) rfl ?_
                  refine zg_goto d_X2_worth_102 ?_
                  exact zg_finK (E := 0) [3, 4, 5, 1, 6, 2, 0] rfl rfl (fun q => q)
            · exact zg_finK (E := 0) [2, 3, 4, 5, 6, 1, 0] rfl rfl (fun q => q)
          · refine zg_iload 5 rfl d_X2_worth_105 ?_
            refine zg_if_lt d_X2_worth_107 ?_ ?_
            · exact zg_finK (E := 0) [0, 1, 2, 3, 4, 5, 6] rfl rfl (fun q => q)
            · refine zg_iload_n 3 rfl d_X2_worth_110 ?_
              refine zg_iconst 2 rfl d_X2_worth_111 ?_
              refine zg_icmp_lt d_X2_worth_112 ?_ ?_
              · exact zg_finK (E := 0) [0, 1, 2, 3, 4, 5, 6] rfl rfl (fun q => q)
              · refine zg_iinc 3 (s3.1 + (-2)) [(3, .int (s3.1 + (-2))), (0, .ref a0), (1, .int a1), (2, .ref a2), (4, .int s3.2), (5, .int (v10 ^^^ (-1))), (6, .long (Int32.toInt64 v12))] d_X2_worth_115 rfl rfl (by decide) rfl ?_
                refine zg_iload 5 rfl d_X2_worth_118 ?_
                refine zg_aload_n 1 rfl d_X2_worth_120 ?_
                refine zg_getR d_X2_worth_121 zc_2 (by decide) fl_X2_21 (fun v17 => ?_)
                refine zg_iload_n 0 rfl d_X2_worth_124 ?_
                refine zg_ald3 d_X2_worth_125 (fun v18 => ?_)
                refine zg_aload_n 1 rfl d_X2_worth_126 ?_
                refine zg_getR d_X2_worth_127 zc_2 (by decide) fl_X2_21 (fun v19 => ?_)
                refine zg_iload_n 0 rfl d_X2_worth_130 ?_
                refine zg_iconst 1 rfl d_X2_worth_131 ?_
                refine zg_iadd d_X2_worth_132 ?_
                refine zg_ald3 d_X2_worth_133 (fun v20 => ?_)
                refine zg_cSl (As := [.int (v10 ^^^ (-1)), .long v18, .long v20]) (rest := []) (0, 0) d_X2_worth_134 cw_X2_32 wt_X2_combined rfl rfl (Nat.le_of_ble_eq_true rfl) (by decide) (by decide) ⟨by decide, by decide⟩ rfl (t_X2_combined (v10 ^^^ (-1)) v18 v20 h16) (fun v22 h21 => ?_)
                refine zg_lstore [(6, .long v22), (3, .int (s3.1 + (-2))), (0, .ref a0), (1, .int a1), (2, .ref a2), (4, .int s3.2), (5, .int (v10 ^^^ (-1)))] d_X2_worth_137 (by decide) rfl ?_
                exact zg_finK (E := 0) [2, 3, 4, 1, 5, 6, 0] rfl rfl (fun q => q)
        · refine zg_iload 1 rfl d_X2_worth_49 ?_
          refine zg_bipush 22 rfl d_X2_worth_51 ?_
          refine zg_icmp_gt d_X2_worth_53 ?_ ?_
          · refine zg_iload 1 rfl d_X2_worth_69 ?_
            refine zg_bipush 15 rfl d_X2_worth_71 ?_
            refine zg_bdr (E := 105) (el := (fun (e25 : Unit) => [(0, .ref a0), (1, .int a1), (2, .ref a2), (3, .int s3.1), (4, .int s3.2), (5, .int (v10 ^^^ (-1))), (6, .long (Int32.toInt64 v12))])) (es := (fun (e25 : Unit) => [])) ?_ (fun e25 h26 => ?_)
            · refine zg_icmp_ne d_X2_worth_73 ?_ ?_
              · refine zg_iload_n 5 rfl d_X2_worth_76 ?_
                refine zg_iconst 1 rfl d_X2_worth_77 ?_
                refine zg_icmp_lt d_X2_worth_78 ?_ ?_
                · exact zg_finK (E := 0) [2, 3, 4, 5, 6, 1, 0] rfl rfl (fun q => q)
                · refine zg_iinc 5 (s3.1 + (-1)) [(3, .int (s3.1 + (-1))), (6, .long (Int32.toInt64 v12)), (5, .int (v10 ^^^ (-1))), (0, .ref a0), (1, .int a1), (2, .ref a2), (4, .int s3.2)] d_X2_worth_81 rfl rfl (by decide) rfl ?_
                  refine zg_aload_n 3 rfl d_X2_worth_84 ?_
                  refine zg_getR d_X2_worth_85 zc_2 (by decide) fl_X2_21 (fun v23 => ?_)
                  refine zg_iload_n 0 rfl d_X2_worth_88 ?_
                  refine zg_ald3 d_X2_worth_89 (fun v24 => ?_)
                  refine zg_lconst 0 rfl d_X2_worth_90 ?_
                  refine zg_lcmp d_X2_worth_91 ?_
                  refine zg_if_ne d_X2_worth_92 ?_ ?_
                  · refine zg_lconst 1 rfl d_X2_worth_95 ?_
                    refine zg_goto d_X2_worth_96 ?_
                    refine zg_lstore [(6, .long 1), (3, .int (s3.1 + (-1))), (5, .int (v10 ^^^ (-1))), (0, .ref a0), (1, .int a1), (2, .ref a2), (4, .int s3.2)] d_X2_worth_100 (by decide) rfl ?_
                    refine zg_goto d_X2_worth_102 ?_
                    exact zg_finK (E := 0) [3, 4, 5, 1, 6, 2, 0] rfl rfl (fun q => q)
                  · refine zg_lconst 0 rfl d_X2_worth_99 ?_
                    refine zg_lstore [(6, .long 0), (3, .int (s3.1 + (-1))), (5, .int (v10 ^^^ (-1))), (0, .ref a0), (1, .int a1), (2, .ref a2), (4, .int s3.2)] d_X2_worth_100 (by decide) rfl ?_
                    refine zg_goto d_X2_worth_102 ?_
                    exact zg_finK (E := 0) [3, 4, 5, 1, 6, 2, 0] rfl rfl (fun q => q)
              · exact zg_finK (E := 0) [2, 3, 4, 5, 6, 1, 0] rfl rfl (fun q => q)
            · refine zg_iload 5 rfl d_X2_worth_105 ?_
              refine zg_if_lt d_X2_worth_107 ?_ ?_
              · exact zg_finK (E := 0) [0, 1, 2, 3, 4, 5, 6] rfl rfl (fun q => q)
              · refine zg_iload_n 3 rfl d_X2_worth_110 ?_
                refine zg_iconst 2 rfl d_X2_worth_111 ?_
                refine zg_icmp_lt d_X2_worth_112 ?_ ?_
                · exact zg_finK (E := 0) [0, 1, 2, 3, 4, 5, 6] rfl rfl (fun q => q)
                · refine zg_iinc 3 (s3.1 + (-2)) [(3, .int (s3.1 + (-2))), (0, .ref a0), (1, .int a1), (2, .ref a2), (4, .int s3.2), (5, .int (v10 ^^^ (-1))), (6, .long (Int32.toInt64 v12))] d_X2_worth_115 rfl rfl (by decide) rfl ?_
                  refine zg_iload 5 rfl d_X2_worth_118 ?_
                  refine zg_aload_n 1 rfl d_X2_worth_120 ?_
                  refine zg_getR d_X2_worth_121 zc_2 (by decide) fl_X2_21 (fun v27 => ?_)
                  refine zg_iload_n 0 rfl d_X2_worth_124 ?_
                  refine zg_ald3 d_X2_worth_125 (fun v28 => ?_)
                  refine zg_aload_n 1 rfl d_X2_worth_126 ?_
                  refine zg_getR d_X2_worth_127 zc_2 (by decide) fl_X2_21 (fun v29 => ?_)
                  refine zg_iload_n 0 rfl d_X2_worth_130 ?_
                  refine zg_iconst 1 rfl d_X2_worth_131 ?_
                  refine zg_iadd d_X2_worth_132 ?_
                  refine zg_ald3 d_X2_worth_133 (fun v30 => ?_)
                  refine zg_cSl (As := [.int (v10 ^^^ (-1)), .long v28, .long v30]) (rest := []) (0, 0) d_X2_worth_134 cw_X2_32 wt_X2_combined rfl rfl (Nat.le_of_ble_eq_true rfl) (by decide) (by decide) ⟨by decide, by decide⟩ rfl (t_X2_combined (v10 ^^^ (-1)) v28 v30 h26) (fun v32 h31 => ?_)
                  refine zg_lstore [(6, .long v32), (3, .int (s3.1 + (-2))), (0, .ref a0), (1, .int a1), (2, .ref a2), (4, .int s3.2), (5, .int (v10 ^^^ (-1)))] d_X2_worth_137 (by decide) rfl ?_
                  exact zg_finK (E := 0) [2, 3, 4, 1, 5, 6, 0] rfl rfl (fun q => q)
          · refine zg_aload_n 4 rfl d_X2_worth_56 ?_
            refine zg_iload 1 rfl d_X2_worth_57 ?_
            refine zg_bipush 16 rfl d_X2_worth_59 ?_
            refine zg_isub d_X2_worth_61 ?_
            refine zg_ald0 d_X2_worth_62 (fun v33 => ?_)
            refine zg_i2l d_X2_worth_63 ?_
            refine zg_lstore [(6, .long (Int32.toInt64 v33)), (5, .int (v10 ^^^ (-1))), (0, .ref a0), (1, .int a1), (2, .ref a2), (3, .int s3.1), (4, .int s3.2)] d_X2_worth_64 (by decide) rfl ?_
            refine zg_goto d_X2_worth_66 ?_
            exact zg_finK (E := 0) [2, 3, 4, 5, 6, 1, 0] rfl rfl (fun q => q)
      · refine zg_lload 6 rfl d_X2_worth_139 ?_
        refine zg_ldc2 kl_X2_36 d_X2_worth_141 ?_
        refine zg_lcmp d_X2_worth_144 ?_
        refine zg_if_gt d_X2_worth_145 ?_ ?_
        · refine zg_ldc2 kl_X2_40 d_X2_worth_163 ?_
          exact zg_lretK d_X2_worth_166 rfl ⟨Nat.le_of_ble_eq_true rfl, Nat.le_of_ble_eq_true rfl⟩ (fun q => q)
        · refine zg_lload 6 rfl d_X2_worth_148 ?_
          refine zg_ldc2 kl_X2_38 d_X2_worth_150 ?_
          refine zg_lcmp d_X2_worth_153 ?_
          refine zg_if_lt d_X2_worth_154 ?_ ?_
          · refine zg_ldc2 kl_X2_40 d_X2_worth_163 ?_
            exact zg_lretK d_X2_worth_166 rfl ⟨Nat.le_of_ble_eq_true rfl, Nat.le_of_ble_eq_true rfl⟩ (fun q => q)
          · refine zg_iload_n 3 rfl d_X2_worth_157 ?_
            refine zg_bipush 64 rfl d_X2_worth_158 ?_
            refine zg_icmp_lt d_X2_worth_160 ?_ ?_
            · refine zg_aload_n 0 rfl d_X2_worth_167 ?_
              refine zg_getR d_X2_worth_168 zc_2 (by decide) fl_X2_21 (fun v36 => ?_)
              refine zg_iload_n 3 rfl d_X2_worth_171 ?_
              refine zg_lload 6 rfl d_X2_worth_172 ?_
              refine zg_ast3 d_X2_worth_174 (fun h37 => ?_)
              refine zg_iinc 3 (e34.1 + 1) [(3, .int (e34.1 + 1)), (0, .ref a0), (1, .int a1), (2, .ref a2), (4, .int s3.2), (5, .int (v10 ^^^ (-1))), (6, .long e34.2)] d_X2_worth_175 rfl rfl (by decide) rfl ?_
              refine zg_iinc 4 (s3.2 + 1) [(4, .int (s3.2 + 1)), (3, .int (e34.1 + 1)), (0, .ref a0), (1, .int a1), (2, .ref a2), (5, .int (v10 ^^^ (-1))), (6, .long e34.2)] d_X2_worth_178 rfl rfl (by decide) rfl ?_
              refine zg_goto d_X2_worth_181 ?_
              exact zg_finK (E := 0) [2, 3, 4, 1, 0] rfl rfl (fun q => q)
            · refine zg_ldc2 kl_X2_40 d_X2_worth_163 ?_
              exact zg_lretK d_X2_worth_166 rfl ⟨Nat.le_of_ble_eq_true rfl, Nat.le_of_ble_eq_true rfl⟩ (fun q => q)
  · refine zg_iload_n 3 rfl d_X2_worth_184 ?_
    refine zg_iconst 1 rfl d_X2_worth_185 ?_
    refine zg_icmp_ne d_X2_worth_186 ?_ ?_
    · refine zg_aload_n 0 rfl d_X2_worth_189 ?_
      refine zg_getR d_X2_worth_190 zc_2 (by decide) fl_X2_21 (fun v38 => ?_)
      refine zg_iconst 0 rfl d_X2_worth_193 ?_
      refine zg_ald3 d_X2_worth_194 (fun v39 => ?_)
      refine zg_goto d_X2_worth_195 ?_
      exact zg_lretK d_X2_worth_201 rfl ⟨Nat.le_of_ble_eq_true rfl, Nat.le_of_ble_eq_true rfl⟩ (fun q => q)
    · refine zg_ldc2 kl_X2_40 d_X2_worth_198 ?_
      exact zg_lretK d_X2_worth_201 rfl ⟨Nat.le_of_ble_eq_true rfl, Nat.le_of_ble_eq_true rfl⟩ (fun q => q)

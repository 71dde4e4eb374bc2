theorem ml_X8_447 : Cond.methodLink RX8 447 yX8_pushes ∈ zT := zw_of _ 1830 (by decide +kernel) (by decide +kernel)
theorem cd_X8_pushes : Cond.code yX8_pushes cX8_pushes 5 none ∈ zT := zw_of _ 1833 (by decide +kernel) (by decide +kernel)
theorem cw_X8_447 : zCw RX8 447 yX8_pushes cX8_pushes 5 none 3 := ⟨ml_X8_447, ni_X8, cd_X8_pushes, by decide, by decide, by decide +kernel⟩
theorem wi_X8_pushes : Cond.instanceMethod yX8_pushes ∈ zT := zw_of _ 1832 (by decide +kernel) (by decide +kernel)
theorem ws_X8_pushes : Cond.selects RX8 yX8_pushes yX8_pushes ∈ zT := zw_of _ 96 (by decide +kernel) (by decide +kernel)
theorem ml_X8_495 : Cond.methodLink RX8 495 yX8_isRest ∈ zT := zw_of _ 1991 (by decide +kernel) (by decide +kernel)
theorem cd_X8_isRest : Cond.code yX8_isRest cX8_isRest 3 (some .boolean) ∈ zT := zw_of _ 1994 (by decide +kernel) (by decide +kernel)
theorem cw_X8_495 : zCw RX8 495 yX8_isRest cX8_isRest 3 (some .boolean) 1 := ⟨ml_X8_495, ni_X8, cd_X8_isRest, by decide, by decide, by decide +kernel⟩
theorem wi_X8_isRest : Cond.instanceMethod yX8_isRest ∈ zT := zw_of _ 1993 (by decide +kernel) (by decide +kernel)
theorem ws_X8_isRest : Cond.selects RX8 yX8_isRest yX8_isRest ∈ zT := zw_of _ 118 (by decide +kernel) (by decide +kernel)
theorem ml_X8_471 : Cond.methodLink RX8 471 yX8_wouldSwap ∈ zT := zw_of _ 1941 (by decide +kernel) (by decide +kernel)
theorem cd_X8_wouldSwap : Cond.code yX8_wouldSwap cX8_wouldSwap 5 (some .boolean) ∈ zT := zw_of _ 1944 (by decide +kernel) (by decide +kernel)
theorem cw_X8_471 : zCw RX8 471 yX8_wouldSwap cX8_wouldSwap 5 (some .boolean) 2 := ⟨ml_X8_471, ni_X8, cd_X8_wouldSwap, by decide, by decide, by decide +kernel⟩
theorem wi_X8_wouldSwap : Cond.instanceMethod yX8_wouldSwap ∈ zT := zw_of _ 1943 (by decide +kernel) (by decide +kernel)
theorem ws_X8_wouldSwap : Cond.selects RX8 yX8_wouldSwap yX8_wouldSwap ∈ zT := zw_of _ 112 (by decide +kernel) (by decide +kernel)
theorem ml_X8_474 : Cond.methodLink RX8 474 yX8_swapOf ∈ zT := zw_of _ 1937 (by decide +kernel) (by decide +kernel)
theorem cd_X8_swapOf : Cond.code yX8_swapOf cX8_swapOf 5 (some .int) ∈ zT := zw_of _ 1940 (by decide +kernel) (by decide +kernel)
theorem cw_X8_474 : zCw RX8 474 yX8_swapOf cX8_swapOf 5 (some .int) 1 := ⟨ml_X8_474, ni_X8, cd_X8_swapOf, by decide, by decide, by decide +kernel⟩
theorem wi_X8_swapOf : Cond.instanceMethod yX8_swapOf ∈ zT := zw_of _ 1939 (by decide +kernel) (by decide +kernel)
theorem ws_X8_swapOf : Cond.selects RX8 yX8_swapOf yX8_swapOf ∈ zT := zw_of _ 111 (by decide +kernel) (by decide +kernel)
abbrev M_X8_out : zMt := (RX8, cX8_out, 2, 1, 60, (some .int), "out", 0, 0)
theorem d_X8_out_0 : zDc M_X8_out 0 (.aload_n 0) 1 1 := ⟨by decide +kernel, rfl⟩
theorem d_X8_out_1 : zDc M_X8_out 1 (.iconst 0) 1 2 := ⟨by decide +kernel, rfl⟩
theorem d_X8_out_2 : zDc M_X8_out 2 (.putfield 151) 3 5 := ⟨by decide +kernel, rfl⟩
theorem d_X8_out_5 : zDc M_X8_out 5 (.iload_n 1) 1 6 := ⟨by decide +kernel, rfl⟩
theorem d_X8_out_6 : zDj M_X8_out 6 (.ifCond .lt 20) 20 9 26 := ⟨by decide +kernel, rfl, by decide⟩
theorem d_X8_out_9 : zDc M_X8_out 9 (.iload_n 1) 1 10 := ⟨by decide +kernel, rfl⟩
theorem d_X8_out_10 : zDc M_X8_out 10 (.aload_n 0) 1 11 := ⟨by decide +kernel, rfl⟩
theorem d_X8_out_11 : zDc M_X8_out 11 (.getfield 304) 3 14 := ⟨by decide +kernel, rfl⟩
theorem d_X8_out_14 : zDj M_X8_out 14 (.if_icmp .ge 12) 12 17 26 := ⟨by decide +kernel, rfl, by decide⟩
theorem d_X8_out_17 : zDc M_X8_out 17 (.aload_n 0) 1 18 := ⟨by decide +kernel, rfl⟩
theorem d_X8_out_18 : zDc M_X8_out 18 (.getfield 304) 3 21 := ⟨by decide +kernel, rfl⟩
theorem d_X8_out_21 : zDc M_X8_out 21 (.bipush 24) 2 23 := ⟨by decide +kernel, rfl⟩
theorem d_X8_out_23 : zDj M_X8_out 23 (.if_icmp .ne 5) 5 26 28 := ⟨by decide +kernel, rfl, by decide⟩
theorem d_X8_out_26 : zDc M_X8_out 26 (.iconst (-1)) 1 27 := ⟨by decide +kernel, rfl⟩
theorem d_X8_out_27 : zDc M_X8_out 27 (.ireturn) 1 28 := ⟨by decide +kernel, rfl⟩
theorem d_X8_out_28 : zDc M_X8_out 28 (.aload_n 0) 1 29 := ⟨by decide +kernel, rfl⟩
theorem d_X8_out_29 : zDc M_X8_out 29 (.getfield 142) 3 32 := ⟨by decide +kernel, rfl⟩
theorem d_X8_out_32 : zDc M_X8_out 32 (.aload_n 0) 1 33 := ⟨by decide +kernel, rfl⟩
theorem d_X8_out_33 : zDc M_X8_out 33 (.getfield 304) 3 36 := ⟨by decide +kernel, rfl⟩
theorem d_X8_out_36 : zDc M_X8_out 36 (.iload_n 1) 1 37 := ⟨by decide +kernel, rfl⟩
theorem d_X8_out_37 : zDc M_X8_out 37 (.iastore) 1 38 := ⟨by decide +kernel, rfl⟩
theorem d_X8_out_38 : zDc M_X8_out 38 (.aload_n 0) 1 39 := ⟨by decide +kernel, rfl⟩
theorem d_X8_out_39 : zDc M_X8_out 39 (.dup) 1 40 := ⟨by decide +kernel, rfl⟩
theorem d_X8_out_40 : zDc M_X8_out 40 (.getfield 304) 3 43 := ⟨by decide +kernel, rfl⟩
theorem d_X8_out_43 : zDc M_X8_out 43 (.iconst 1) 1 44 := ⟨by decide +kernel, rfl⟩
theorem d_X8_out_44 : zDc M_X8_out 44 (.iadd) 1 45 := ⟨by decide +kernel, rfl⟩
theorem d_X8_out_45 : zDc M_X8_out 45 (.putfield 304) 3 48 := ⟨by decide +kernel, rfl⟩
theorem d_X8_out_48 : zDc M_X8_out 48 (.aload_n 0) 1 49 := ⟨by decide +kernel, rfl⟩
theorem d_X8_out_49 : zDc M_X8_out 49 (.getfield 304) 3 52 := ⟨by decide +kernel, rfl⟩
theorem d_X8_out_52 : zDc M_X8_out 52 (.iconst 1) 1 53 := ⟨by decide +kernel, rfl⟩
theorem d_X8_out_53 : zDc M_X8_out 53 (.isub) 1 54 := ⟨by decide +kernel, rfl⟩
theorem d_X8_out_54 : zDc M_X8_out 54 (.ireturn) 1 55 := ⟨by decide +kernel, rfl⟩
def f_X8_out (a0 : Nat) (a1 : Int32) (h0 : zHp) : Option (Int32 × zHp) :=
  zob (zpV h0 a0 8 0 (.int 0)) (fun h1 =>
  if a1 < 0 then
  some ((-1), h1)
  else
  zob (zgI h1 a0 8 61) (fun v2 =>
  if v2 ≤ a1 then
  some ((-1), h1)
  else
  zob (zgI h1 a0 8 61) (fun v3 =>
  if v3 = 24 then
  some ((-1), h1)
  else
  zob (zgR h1 a0 8 66) (fun v4 =>
  zob (zgI h1 a0 8 61) (fun v5 =>
  zob (zsI 0 h1 v4 v5 a1) (fun h6 =>
  zob (zgI h6 a0 8 61) (fun v7 =>
  zob (zpV h6 a0 8 61 (.int (v7 + 1))) (fun h8 =>
  zob (zgI h8 a0 8 61) (fun v9 =>
  some ((v9 - 1), h8))))))))))
set_option maxRecDepth 100000 in
set_option maxHeartbeats 4000000 in
theorem t_X8_out (a0 : Nat) (a1 : Int32) (h0 : zHp) : ∀ (r : Int32) (h' : zHp), f_X8_out a0 a1 h0 = some (r, h') → zCt yX8_out (.code yX8_out cX8_out 2 (some .int)) 1 60 0 0 [.ref a0, .int a1] h0 (some (.int r)) h' := by
  refine zct_of M_X8_out yX8_out (by decide) rfl rfl [.ref a0, .int a1] h0 (Nat.le_of_ble_eq_true rfl) (fun r => some (.int r)) (fun X => ?_)
  show zG X M_X8_out (0, 0) 0 [(0, .ref a0), (1, .int a1)] [] h0 (f_X8_out a0 a1 h0) (fun (r : Int32) h' => zKe X (some (.int r)) h')
  unfold f_X8_out
  refine zg_aload_n 0 rfl d_X8_out_0 ?_
  refine zg_iconst 0 rfl d_X8_out_1 ?_
  refine zg_putV d_X8_out_2 zc_8 (by decide) fl_X8_151 rfl rfl rfl (fun h1 => ?_)
  refine zg_iload_n 1 rfl d_X8_out_5 ?_
  refine zg_if_lt d_X8_out_6 ?_ ?_
  · refine zg_iconst (-1) rfl d_X8_out_26 ?_
    exact zg_iretK d_X8_out_27 rfl ⟨Nat.le_of_ble_eq_true rfl, Nat.le_of_ble_eq_true rfl⟩ (fun q => q)
  · refine zg_iload_n 1 rfl d_X8_out_9 ?_
    refine zg_aload_n 0 rfl d_X8_out_10 ?_
    refine zg_getI d_X8_out_11 zc_8 (by decide) fl_X8_304 (fun v2 => ?_)
    refine zg_icmp_ge d_X8_out_14 ?_ ?_
    · refine zg_iconst (-1) rfl d_X8_out_26 ?_
      exact zg_iretK d_X8_out_27 rfl ⟨Nat.le_of_ble_eq_true rfl, Nat.le_of_ble_eq_true rfl⟩ (fun q => q)
    · refine zg_aload_n 0 rfl d_X8_out_17 ?_
      refine zg_getI d_X8_out_18 zc_8 (by decide) fl_X8_304 (fun v3 => ?_)
      refine zg_bipush 24 rfl d_X8_out_21 ?_
      refine zg_icmp_ne d_X8_out_23 ?_ ?_
      · refine zg_iconst (-1) rfl d_X8_out_26 ?_
        exact zg_iretK d_X8_out_27 rfl ⟨Nat.le_of_ble_eq_true rfl, Nat.le_of_ble_eq_true rfl⟩ (fun q => q)
      · refine zg_aload_n 0 rfl d_X8_out_28 ?_
        refine zg_getR d_X8_out_29 zc_8 (by decide) fl_X8_142 (fun v4 => ?_)
        refine zg_aload_n 0 rfl d_X8_out_32 ?_
        refine zg_getI d_X8_out_33 zc_8 (by decide) fl_X8_304 (fun v5 => ?_)
        refine zg_iload_n 1 rfl d_X8_out_36 ?_
        refine zg_ast0 d_X8_out_37 (fun h6 => ?_)
        refine zg_aload_n 0 rfl d_X8_out_38 ?_
        refine zg_dup rfl d_X8_out_39 ?_
        refine zg_getI d_X8_out_40 zc_8 (by decide) fl_X8_304 (fun v7 => ?_)
        refine zg_iconst 1 rfl d_X8_out_43 ?_
        refine zg_iadd d_X8_out_44 ?_
        refine zg_putV d_X8_out_45 zc_8 (by decide) fl_X8_304 rfl rfl rfl (fun h8 => ?_)
        refine zg_aload_n 0 rfl d_X8_out_48 ?_
        refine zg_getI d_X8_out_49 zc_8 (by decide) fl_X8_304 (fun v9 => ?_)
        refine zg_iconst 1 rfl d_X8_out_52 ?_
        refine zg_isub d_X8_out_53 ?_
        exact zg_iretK d_X8_out_54 rfl ⟨Nat.le_of_ble_eq_true rfl, Nat.le_of_ble_eq_true rfl⟩ (fun q => q)
abbrev M_X8_push : zMt := (RX8, cX8_push, 4, 5, 151, (some .int), "push", 0, 0)
theorem d_X8_push_0 : zDc M_X8_push 0 (.aload_n 0) 1 1 := ⟨by decide +kernel, rfl⟩
theorem d_X8_push_1 : zDc M_X8_push 1 (.iconst 0) 1 2 := ⟨by decide +kernel, rfl⟩
theorem d_X8_push_2 : zDc M_X8_push 2 (.putfield 151) 3 5 := ⟨by decide +kernel, rfl⟩
theorem d_X8_push_5 : zDc M_X8_push 5 (.aload_n 0) 1 6 := ⟨by decide +kernel, rfl⟩
theorem d_X8_push_6 : zDc M_X8_push 6 (.iload_n 1) 1 7 := ⟨by decide +kernel, rfl⟩
theorem d_X8_push_7 : zDc M_X8_push 7 (.invokevirtual 425) 3 10 := ⟨by decide +kernel, rfl⟩
theorem d_X8_push_10 : zDj M_X8_push 10 (.ifCond .eq 13) 13 13 23 := ⟨by decide +kernel, rfl, by decide⟩
theorem d_X8_push_13 : zDc M_X8_push 13 (.iload_n 2) 1 14 := ⟨by decide +kernel, rfl⟩
theorem d_X8_push_14 : zDc M_X8_push 14 (.iconst 1) 1 15 := ⟨by decide +kernel, rfl⟩
theorem d_X8_push_15 : zDj M_X8_push 15 (.if_icmp .lt 8) 8 18 23 := ⟨by decide +kernel, rfl, by decide⟩
theorem d_X8_push_18 : zDc M_X8_push 18 (.iload_n 2) 1 19 := ⟨by decide +kernel, rfl⟩
theorem d_X8_push_19 : zDc M_X8_push 19 (.iconst 4) 1 20 := ⟨by decide +kernel, rfl⟩
theorem d_X8_push_20 : zDj M_X8_push 20 (.if_icmp .le 5) 5 23 25 := ⟨by decide +kernel, rfl, by decide⟩
theorem d_X8_push_23 : zDc M_X8_push 23 (.iconst (-1)) 1 24 := ⟨by decide +kernel, rfl⟩
theorem d_X8_push_24 : zDc M_X8_push 24 (.ireturn) 1 25 := ⟨by decide +kernel, rfl⟩
theorem d_X8_push_25 : zDc M_X8_push 25 (.aload_n 0) 1 26 := ⟨by decide +kernel, rfl⟩
theorem d_X8_push_26 : zDc M_X8_push 26 (.iconst 0) 1 27 := ⟨by decide +kernel, rfl⟩
theorem d_X8_push_27 : zDc M_X8_push 27 (.iload_n 1) 1 28 := ⟨by decide +kernel, rfl⟩
theorem d_X8_push_28 : zDc M_X8_push 28 (.invokevirtual 441) 3 31 := ⟨by decide +kernel, rfl⟩
theorem d_X8_push_31 : zDc M_X8_push 31 (.istore_n 3) 1 32 := ⟨by decide +kernel, rfl⟩
theorem d_X8_push_32 : zDc M_X8_push 32 (.iload_n 3) 1 33 := ⟨by decide +kernel, rfl⟩
theorem d_X8_push_33 : zDc M_X8_push 33 (.iconst (-1)) 1 34 := ⟨by decide +kernel, rfl⟩
theorem d_X8_push_34 : zDj M_X8_push 34 (.if_icmp .ne 6) 6 37 40 := ⟨by decide +kernel, rfl, by decide⟩
theorem d_X8_push_37 : zDc M_X8_push 37 (.bipush (-2)) 2 39 := ⟨by decide +kernel, rfl⟩
theorem d_X8_push_39 : zDc M_X8_push 39 (.ireturn) 1 40 := ⟨by decide +kernel, rfl⟩
theorem d_X8_push_40 : zDc M_X8_push 40 (.aload_n 0) 1 41 := ⟨by decide +kernel, rfl⟩
theorem d_X8_push_41 : zDc M_X8_push 41 (.invokevirtual 444) 3 44 := ⟨by decide +kernel, rfl⟩
theorem d_X8_push_44 : zDc M_X8_push 44 (.aload_n 0) 1 45 := ⟨by decide +kernel, rfl⟩
theorem d_X8_push_45 : zDc M_X8_push 45 (.iconst 0) 1 46 := ⟨by decide +kernel, rfl⟩
theorem d_X8_push_46 : zDc M_X8_push 46 (.iload_n 1) 1 47 := ⟨by decide +kernel, rfl⟩
theorem d_X8_push_47 : zDc M_X8_push 47 (.iload_n 2) 1 48 := ⟨by decide +kernel, rfl⟩
theorem d_X8_push_48 : zDc M_X8_push 48 (.invokevirtual 447) 3 51 := ⟨by decide +kernel, rfl⟩
theorem d_X8_push_51 : zDc M_X8_push 51 (.iload_n 3) 1 52 := ⟨by decide +kernel, rfl⟩
theorem d_X8_push_52 : zDc M_X8_push 52 (.ireturn) 1 53 := ⟨by decide +kernel, rfl⟩
def f_X8_push (a0 : Nat) (a1 : Int32) (a2 : Int32) (h0 : zHp) : Option (Int32 × zHp) :=
  zob (zpV h0 a0 8 0 (.int 0)) (fun h1 =>
  zbd (zcv 8 a0 h1 (f_X8_isChild a0 a1 h1)) (fun v3 h2 =>
  if v3 = 0 then
  some ((-1), h2)
  else
  if a2 < 1 then
  some ((-1), h2)
  else
  if a2 ≤ 4 then
  zbd (zcv 8 a0 h2 (f_X8_ownSeen a0 0 a1 h2)) (fun v5 h4 =>
  if v5 = (-1) then
  some ((-2), h4)
  else
  zbd (zcv 8 a0 h4 (f_X8_keepNow a0 h4)) (fun v7 h6 =>
  zbd (zcv 8 a0 h6 (f_X8_pushes a0 0 a1 a2 h6)) (fun v9 h8 =>
  some (v5, h8))))
  else
  some ((-1), h2)))
set_option maxRecDepth 100000 in
set_option maxHeartbeats 4000000 in
theorem t_X8_push (a0 : Nat) (a1 : Int32) (a2 : Int32) (h0 : zHp) : ∀ (r : Int32) (h' : zHp), f_X8_push a0 a1 a2 h0 = some (r, h') → zCt yX8_push (.code yX8_push cX8_push 4 (some .int)) 5 151 0 0 [.ref a0, .int a1, .int a2] h0 (some (.int r)) h' := by
  refine zct_of M_X8_push yX8_push (by decide) rfl rfl [.ref a0, .int a1, .int a2] h0 (Nat.le_of_ble_eq_true rfl) (fun r => some (.int r)) (fun X => ?_)
  show zG X M_X8_push (0, 0) 0 [(0, .ref a0), (1, .int a1), (2, .int a2)] [] h0 (f_X8_push a0 a1 a2 h0) (fun (r : Int32) h' => zKe X (some (.int r)) h')
  unfold f_X8_push
  refine zg_aload_n 0 rfl d_X8_push_0 ?_
  refine zg_iconst 0 rfl d_X8_push_1 ?_
  refine zg_putV d_X8_push_2 zc_8 (by decide) fl_X8_151 rfl rfl rfl (fun h1 => ?_)
  refine zg_aload_n 0 rfl d_X8_push_5 ?_
  refine zg_iload_n 1 rfl d_X8_push_6 ?_
  refine zg_cVi (b := a0) (As := [.int a1]) (rest := []) (0, 0) d_X8_push_7 zc_8 rfl cw_X8_425 wi_X8_isChild ws_X8_isChild rfl rfl (Nat.le_of_ble_eq_true rfl) (by decide) (by decide) ⟨by decide, by decide⟩ rfl (t_X8_isChild a0 a1 h1) (fun v3 h2 => ?_)
  refine zg_if_eq d_X8_push_10 ?_ ?_
  · refine zg_iconst (-1) rfl d_X8_push_23 ?_
    exact zg_iretK d_X8_push_24 rfl ⟨Nat.le_of_ble_eq_true rfl, Nat.le_of_ble_eq_true rfl⟩ (fun q => q)
  · refine zg_iload_n 2 rfl d_X8_push_13 ?_
    refine zg_iconst 1 rfl d_X8_push_14 ?_
    refine zg_icmp_lt d_X8_push_15 ?_ ?_
    · refine zg_iconst (-1) rfl d_X8_push_23 ?_
      exact zg_iretK d_X8_push_24 rfl ⟨Nat.le_of_ble_eq_true rfl, Nat.le_of_ble_eq_true rfl⟩ (fun q => q)
    · refine zg_iload_n 2 rfl d_X8_push_18 ?_
      refine zg_iconst 4 rfl d_X8_push_19 ?_
      refine zg_icmp_le d_X8_push_20 ?_ ?_
      · refine zg_aload_n 0 rfl d_X8_push_25 ?_
        refine zg_iconst 0 rfl d_X8_push_26 ?_
        refine zg_iload_n 1 rfl d_X8_push_27 ?_
        refine zg_cVi (b := a0) (As := [.int 0, .int a1]) (rest := []) (0, 0) d_X8_push_28 zc_8 rfl cw_X8_441 wi_X8_ownSeen ws_X8_ownSeen rfl rfl (Nat.le_of_ble_eq_true rfl) (by decide) (by decide) ⟨by decide, by decide⟩ rfl (t_X8_ownSeen a0 0 a1 h2) (fun v5 h4 => ?_)
        refine zg_istore_n [(3, .int v5), (0, .ref a0), (1, .int a1), (2, .int a2)] d_X8_push_31 rfl (by decide) rfl ?_
        refine zg_iload_n 0 rfl d_X8_push_32 ?_
        refine zg_iconst (-1) rfl d_X8_push_33 ?_
        refine zg_icmp_ne d_X8_push_34 ?_ ?_
        · refine zg_bipush (-2) rfl d_X8_push_37 ?_
          exact zg_iretK d_X8_push_39 rfl ⟨Nat.le_of_ble_eq_true rfl, Nat.le_of_ble_eq_true rfl⟩ (fun q => q)
        · refine zg_aload_n 1 rfl d_X8_push_40 ?_
          refine zg_cVv (b := a0) (As := []) (rest := []) (0, 0) d_X8_push_41 zc_8 rfl cw_X8_444 wi_X8_keepNow ws_X8_keepNow rfl rfl (Nat.le_of_ble_eq_true rfl) (by decide) (by decide) ⟨by decide, by decide⟩ rfl (t_X8_keepNow a0 h4) (fun v7 h6 => ?_)
          refine zg_aload_n 1 rfl d_X8_push_44 ?_
          refine zg_iconst 0 rfl d_X8_push_45 ?_
          refine zg_iload_n 2 rfl d_X8_push_46 ?_
          refine zg_iload_n 3 rfl d_X8_push_47 ?_
          refine zg_cVv (b := a0) (As := [.int 0, .int a1, .int a2]) (rest := []) (0, 0) d_X8_push_48 zc_8 rfl cw_X8_447 wi_X8_pushes ws_X8_pushes rfl rfl (Nat.le_of_ble_eq_true rfl) (by decide) (by decide) ⟨by decide, by decide⟩ rfl (t_X8_pushes a0 0 a1 a2 h6) (fun v9 h8 => ?_)
          refine zg_iload_n 0 rfl d_X8_push_51 ?_
          exact zg_iretK d_X8_push_52 rfl ⟨Nat.le_of_ble_eq_true rfl, Nat.le_of_ble_eq_true rfl⟩ (fun q => q)
      · refine zg_iconst (-1) rfl d_X8_push_23 ?_
        exact zg_iretK d_X8_push_24 rfl ⟨Nat.le_of_ble_eq_true rfl, Nat.le_of_ble_eq_true rfl⟩ (fun q => q)
abbrev M_X8_restOf : zMt := (RX8, cX8_restOf, 4, 2, 82, (some .int), "restOf", 0, 0)
theorem d_X8_restOf_0 : zDc M_X8_restOf 0 (.iconst 0) 1 1 := ⟨by decide +kernel, rfl⟩
theorem d_X8_restOf_1 : zDc M_X8_restOf 1 (.istore_n 2) 1 2 := ⟨by decide +kernel, rfl⟩
theorem d_X8_restOf_2 : zDc M_X8_restOf 2 (.iconst 0) 1 3 := ⟨by decide +kernel, rfl⟩
theorem d_X8_restOf_3 : zDc M_X8_restOf 3 (.istore_n 3) 1 4 := ⟨by decide +kernel, rfl⟩
theorem d_X8_restOf_4 : zDc M_X8_restOf 4 (.iload_n 3) 1 5 := ⟨by decide +kernel, rfl⟩
theorem d_X8_restOf_5 : zDc M_X8_restOf 5 (.bipush 25) 2 7 := ⟨by decide +kernel, rfl⟩
theorem d_X8_restOf_7 : zDj M_X8_restOf 7 (.if_icmp .ge 39) 39 10 46 := ⟨by decide +kernel, rfl, by decide⟩
theorem d_X8_restOf_10 : zDc M_X8_restOf 10 (.aload_n 0) 1 11 := ⟨by decide +kernel, rfl⟩
theorem d_X8_restOf_11 : zDc M_X8_restOf 11 (.iload_n 3) 1 12 := ⟨by decide +kernel, rfl⟩
theorem d_X8_restOf_12 : zDc M_X8_restOf 12 (.invokevirtual 495) 3 15 := ⟨by decide +kernel, rfl⟩
theorem d_X8_restOf_15 : zDj M_X8_restOf 15 (.ifCond .ne 6) 6 18 21 := ⟨by decide +kernel, rfl, by decide⟩
theorem d_X8_restOf_18 : zDj M_X8_restOf 18 (.goto 22) 22 21 40 := ⟨by decide +kernel, rfl, by decide⟩
theorem d_X8_restOf_21 : zDc M_X8_restOf 21 (.iload_n 2) 1 22 := ⟨by decide +kernel, rfl⟩
theorem d_X8_restOf_22 : zDc M_X8_restOf 22 (.iload_n 1) 1 23 := ⟨by decide +kernel, rfl⟩
theorem d_X8_restOf_23 : zDj M_X8_restOf 23 (.if_icmp .ne 14) 14 26 37 := ⟨by decide +kernel, rfl, by decide⟩
theorem d_X8_restOf_26 : zDc M_X8_restOf 26 (.bipush 10) 2 28 := ⟨by decide +kernel, rfl⟩
theorem d_X8_restOf_28 : zDc M_X8_restOf 28 (.iload_n 3) 1 29 := ⟨by decide +kernel, rfl⟩
theorem d_X8_restOf_29 : zDc M_X8_restOf 29 (.iconst 5) 1 30 := ⟨by decide +kernel, rfl⟩
theorem d_X8_restOf_30 : zDc M_X8_restOf 30 (.idiv) 1 31 := ⟨by decide +kernel, rfl⟩
theorem d_X8_restOf_31 : zDc M_X8_restOf 31 (.imul) 1 32 := ⟨by decide +kernel, rfl⟩
theorem d_X8_restOf_32 : zDc M_X8_restOf 32 (.iload_n 3) 1 33 := ⟨by decide +kernel, rfl⟩
theorem d_X8_restOf_33 : zDc M_X8_restOf 33 (.iconst 5) 1 34 := ⟨by decide +kernel, rfl⟩
theorem d_X8_restOf_34 : zDc M_X8_restOf 34 (.irem) 1 35 := ⟨by decide +kernel, rfl⟩
theorem d_X8_restOf_35 : zDc M_X8_restOf 35 (.iadd) 1 36 := ⟨by decide +kernel, rfl⟩
theorem d_X8_restOf_36 : zDc M_X8_restOf 36 (.ireturn) 1 37 := ⟨by decide +kernel, rfl⟩
theorem d_X8_restOf_37 : zDc M_X8_restOf 37 (.iinc 2 1) 3 40 := ⟨by decide +kernel, rfl⟩
theorem d_X8_restOf_40 : zDc M_X8_restOf 40 (.iinc 3 1) 3 43 := ⟨by decide +kernel, rfl⟩
theorem d_X8_restOf_43 : zDj M_X8_restOf 43 (.goto (-39)) (-39) 46 4 := ⟨by decide +kernel, rfl, by decide⟩
theorem d_X8_restOf_46 : zDc M_X8_restOf 46 (.iload_n 1) 1 47 := ⟨by decide +kernel, rfl⟩
theorem d_X8_restOf_47 : zDc M_X8_restOf 47 (.iconst (-1)) 1 48 := ⟨by decide +kernel, rfl⟩
theorem d_X8_restOf_48 : zDj M_X8_restOf 48 (.if_icmp .ne 7) 7 51 55 := ⟨by decide +kernel, rfl, by decide⟩
theorem d_X8_restOf_51 : zDc M_X8_restOf 51 (.iload_n 2) 1 52 := ⟨by decide +kernel, rfl⟩
theorem d_X8_restOf_52 : zDj M_X8_restOf 52 (.goto 5) 5 55 57 := ⟨by decide +kernel, rfl, by decide⟩
theorem d_X8_restOf_55 : zDc M_X8_restOf 55 (.bipush (-2)) 2 57 := ⟨by decide +kernel, rfl⟩
theorem d_X8_restOf_57 : zDc M_X8_restOf 57 (.ireturn) 1 58 := ⟨by decide +kernel, rfl⟩
def f_X8_restOf (a0 : Nat) (a1 : Int32) (h0 : zHp) : Option (Int32 × zHp) :=
  zbd (
  zlp (σ := (Int32 × Int32)) (β := ((Int32 × Int32) ⊕ Int32)) zLF (fun s1 h2 =>
  if 25 ≤ s1.2 then
  some ((.inr (.inl (s1.1, s1.2))), h2)
  else
  zbd (zcv 8 a0 h2 (f_X8_isRest a0 s1.2 h2)) (fun v6 h5 =>
  if v6 = 0 then
  some ((.inl (s1.1, (s1.2 + 1))), h5)
  else
  if s1.1 = a1 then
  some ((.inr (.inr ((10 * (s1.2 / 5)) + (zrm s1.2 5)))), h5)
  else
  some ((.inl ((s1.1 + 1), (s1.2 + 1))), h5))) (0, 0) h0) (fun b7 h4 => zsl b7 (fun e3 =>
  if a1 = (-1) then
  some (e3.1, h4)
  else
  some ((-2), h4)) (fun r => some (r, h4)))
set_option maxRecDepth 100000 in
set_option maxHeartbeats 4000000 in
theorem t_X8_restOf (a0 : Nat) (a1 : Int32) (h0 : zHp) : ∀ (r : Int32) (h' : zHp), f_X8_restOf a0 a1 h0 = some (r, h') → zCt yX8_restOf (.code yX8_restOf cX8_restOf 4 (some .int)) 2 82 0 0 [.ref a0, .int a1] h0 (some (.int r)) h' := by
  refine zct_of M_X8_restOf yX8_restOf (by decide) rfl rfl [.ref a0, .int a1] h0 (Nat.le_of_ble_eq_true rfl) (fun r => some (.int r)) (fun X => ?_)
  show zG X M_X8_restOf (0, 0) 0 [(0, .ref a0), (1, .int a1)] [] h0 (f_X8_restOf a0 a1 h0) (fun (r : Int32) h' => zKe X (some (.int r)) h')
  unfold f_X8_restOf
  refine zg_iconst 0 rfl d_X8_restOf_0 ?_
  refine zg_istore_n [(2, .int 0), (0, .ref a0), (1, .int a1)] d_X8_restOf_1 rfl (by decide) rfl ?_
  refine zg_iconst 0 rfl d_X8_restOf_2 ?_
  refine zg_istore_n [(3, .int 0), (2, .int 0), (0, .ref a0), (1, .int a1)] d_X8_restOf_3 rfl (by decide) rfl ?_
  refine zg_bdr (E := 46) (el := (fun (e3 : (Int32 × Int32)) => [(0, .ref a0), (1, .int a1), (2, .int e3.1), (3, .int e3.2)])) (es := fun _ => []) (zg_sub [2, 3, 1, 0] rfl (zg_lp (el := (fun (s1 : (Int32 × Int32)) => [(0, .ref a0), (1, .int a1), (2, .int s1.1), (3, .int s1.2)])) (fun s1 h2 => ?_) (0, 0) h0)) (fun e3 h4 => ?_)
  · refine zg_iload_n 3 rfl d_X8_restOf_4 ?_
    refine zg_bipush 25 rfl d_X8_restOf_5 ?_
    refine zg_icmp_ge d_X8_restOf_7 ?_ ?_
    · exact zg_finK (E := 0) [0, 1, 2, 3] rfl rfl (fun q => q)
    · refine zg_aload_n 0 rfl d_X8_restOf_10 ?_
      refine zg_iload_n 3 rfl d_X8_restOf_11 ?_
      refine zg_cVi (b := a0) (As := [.int s1.2]) (rest := []) (0, 0) d_X8_restOf_12 zc_8 rfl cw_X8_495 wi_X8_isRest ws_X8_isRest rfl rfl (Nat.le_of_ble_eq_true rfl) (by decide) (by decide) ⟨by decide, by decide⟩ rfl (t_X8_isRest a0 s1.2 h2) (fun v6 h5 => ?_)
      refine zg_if_ne d_X8_restOf_15 ?_ ?_
      · refine zg_goto d_X8_restOf_18 ?_
        refine zg_iinc 3 (s1.2 + 1) [(3, .int (s1.2 + 1)), (0, .ref a0), (1, .int a1), (2, .int s1.1)] d_X8_restOf_40 rfl rfl (by decide) rfl ?_
        refine zg_goto d_X8_restOf_43 ?_
        exact zg_finK (E := 0) [1, 2, 3, 0] rfl rfl (fun q => q)
      · refine zg_iload_n 2 rfl d_X8_restOf_21 ?_
        refine zg_iload_n 1 rfl d_X8_restOf_22 ?_
        refine zg_icmp_ne d_X8_restOf_23 ?_ ?_
        · refine zg_bipush 10 rfl d_X8_restOf_26 ?_
          refine zg_iload_n 3 rfl d_X8_restOf_28 ?_
          refine zg_iconst 5 rfl d_X8_restOf_29 ?_
          refine zg_idiv (by decide) d_X8_restOf_30 ?_
          refine zg_imul d_X8_restOf_31 ?_
          refine zg_iload_n 3 rfl d_X8_restOf_32 ?_
          refine zg_iconst 5 rfl d_X8_restOf_33 ?_
          refine zg_irem (by decide) d_X8_restOf_34 ?_
          refine zg_iadd d_X8_restOf_35 ?_
          exact zg_iretK d_X8_restOf_36 rfl ⟨Nat.le_of_ble_eq_true rfl, Nat.le_of_ble_eq_true rfl⟩ (fun q => q)
        · refine zg_iinc 2 (s1.1 + 1) [(2, .int (s1.1 + 1)), (0, .ref a0), (1, .int a1), (3, .int s1.2)] d_X8_restOf_37 rfl rfl (by decide) rfl ?_
          refine zg_iinc 3 (s1.2 + 1) [(3, .int (s1.2 + 1)), (2, .int (s1.1 + 1)), (0, .ref a0), (1, .int a1)] d_X8_restOf_40 rfl rfl (by decide) rfl ?_
          refine zg_goto d_X8_restOf_43 ?_
          exact zg_finK (E := 0) [2, 3, 1, 0] rfl rfl (fun q => q)
  · refine zg_iload_n 1 rfl d_X8_restOf_46 ?_
    refine zg_iconst (-1) rfl d_X8_restOf_47 ?_
    refine zg_icmp_ne d_X8_restOf_48 ?_ ?_
    · refine zg_iload_n 2 rfl d_X8_restOf_51 ?_
      refine zg_goto d_X8_restOf_52 ?_
      exact zg_iretK d_X8_restOf_57 rfl ⟨Nat.le_of_ble_eq_true rfl, Nat.le_of_ble_eq_true rfl⟩ (fun q => q)
    · refine zg_bipush (-2) rfl d_X8_restOf_55 ?_
      exact zg_iretK d_X8_restOf_57 rfl ⟨Nat.le_of_ble_eq_true rfl, Nat.le_of_ble_eq_true rfl⟩ (fun q => q)
abbrev M_X8_sees : zMt := (RX8, cX8_sees, 4, 3, 104, (some .int), "sees", 0, 0)
theorem d_X8_sees_0 : zDc M_X8_sees 0 (.aload_n 0) 1 1 := ⟨by decide +kernel, rfl⟩
theorem d_X8_sees_1 : zDc M_X8_sees 1 (.iconst 0) 1 2 := ⟨by decide +kernel, rfl⟩
theorem d_X8_sees_2 : zDc M_X8_sees 2 (.putfield 151) 3 5 := ⟨by decide +kernel, rfl⟩
theorem d_X8_sees_5 : zDc M_X8_sees 5 (.aload_n 0) 1 6 := ⟨by decide +kernel, rfl⟩
theorem d_X8_sees_6 : zDc M_X8_sees 6 (.iload_n 1) 1 7 := ⟨by decide +kernel, rfl⟩
theorem d_X8_sees_7 : zDc M_X8_sees 7 (.invokevirtual 425) 3 10 := ⟨by decide +kernel, rfl⟩
theorem d_X8_sees_10 : zDj M_X8_sees 10 (.ifCond .ne 5) 5 13 15 := ⟨by decide +kernel, rfl, by decide⟩
theorem d_X8_sees_13 : zDc M_X8_sees 13 (.iconst (-1)) 1 14 := ⟨by decide +kernel, rfl⟩
theorem d_X8_sees_14 : zDc M_X8_sees 14 (.ireturn) 1 15 := ⟨by decide +kernel, rfl⟩
theorem d_X8_sees_15 : zDc M_X8_sees 15 (.iconst 0) 1 16 := ⟨by decide +kernel, rfl⟩
theorem d_X8_sees_16 : zDc M_X8_sees 16 (.istore_n 2) 1 17 := ⟨by decide +kernel, rfl⟩
theorem d_X8_sees_17 : zDc M_X8_sees 17 (.iconst 0) 1 18 := ⟨by decide +kernel, rfl⟩
theorem d_X8_sees_18 : zDc M_X8_sees 18 (.istore_n 3) 1 19 := ⟨by decide +kernel, rfl⟩
theorem d_X8_sees_19 : zDc M_X8_sees 19 (.iload_n 3) 1 20 := ⟨by decide +kernel, rfl⟩
theorem d_X8_sees_20 : zDc M_X8_sees 20 (.aload_n 0) 1 21 := ⟨by decide +kernel, rfl⟩
theorem d_X8_sees_21 : zDc M_X8_sees 21 (.getfield 13) 3 24 := ⟨by decide +kernel, rfl⟩
theorem d_X8_sees_24 : zDc M_X8_sees 24 (.iconst 1) 1 25 := ⟨by decide +kernel, rfl⟩
theorem d_X8_sees_25 : zDc M_X8_sees 25 (.iaload) 1 26 := ⟨by decide +kernel, rfl⟩
theorem d_X8_sees_26 : zDj M_X8_sees 26 (.if_icmp .ge 43) 43 29 69 := ⟨by decide +kernel, rfl, by decide⟩
theorem d_X8_sees_29 : zDc M_X8_sees 29 (.iload_n 2) 1 30 := ⟨by decide +kernel, rfl⟩
theorem d_X8_sees_30 : zDc M_X8_sees 30 (.aload_n 0) 1 31 := ⟨by decide +kernel, rfl⟩
theorem d_X8_sees_31 : zDc M_X8_sees 31 (.iconst 0) 1 32 := ⟨by decide +kernel, rfl⟩
theorem d_X8_sees_32 : zDc M_X8_sees 32 (.iload_n 3) 1 33 := ⟨by decide +kernel, rfl⟩
theorem d_X8_sees_33 : zDc M_X8_sees 33 (.invokevirtual 351) 3 36 := ⟨by decide +kernel, rfl⟩
theorem d_X8_sees_36 : zDj M_X8_sees 36 (.ifCond .eq 24) 24 39 60 := ⟨by decide +kernel, rfl, by decide⟩
theorem d_X8_sees_39 : zDc M_X8_sees 39 (.aload_n 0) 1 40 := ⟨by decide +kernel, rfl⟩
theorem d_X8_sees_40 : zDc M_X8_sees 40 (.iconst 0) 1 41 := ⟨by decide +kernel, rfl⟩
theorem d_X8_sees_41 : zDc M_X8_sees 41 (.iload_n 1) 1 42 := ⟨by decide +kernel, rfl⟩
theorem d_X8_sees_42 : zDc M_X8_sees 42 (.aload_n 0) 1 43 := ⟨by decide +kernel, rfl⟩
theorem d_X8_sees_43 : zDc M_X8_sees 43 (.getfield 81) 3 46 := ⟨by decide +kernel, rfl⟩
theorem d_X8_sees_46 : zDc M_X8_sees 46 (.iload_n 3) 1 47 := ⟨by decide +kernel, rfl⟩
theorem d_X8_sees_47 : zDc M_X8_sees 47 (.iaload) 1 48 := ⟨by decide +kernel, rfl⟩
theorem d_X8_sees_48 : zDc M_X8_sees 48 (.invokevirtual 390) 3 51 := ⟨by decide +kernel, rfl⟩
theorem d_X8_sees_51 : zDj M_X8_sees 51 (.ifCond .eq 9) 9 54 60 := ⟨by decide +kernel, rfl, by decide⟩
theorem d_X8_sees_54 : zDc M_X8_sees 54 (.iconst 1) 1 55 := ⟨by decide +kernel, rfl⟩
theorem d_X8_sees_55 : zDc M_X8_sees 55 (.iload_n 3) 1 56 := ⟨by decide +kernel, rfl⟩
theorem d_X8_sees_56 : zDc M_X8_sees 56 (.ishl) 1 57 := ⟨by decide +kernel, rfl⟩
theorem d_X8_sees_57 : zDj M_X8_sees 57 (.goto 4) 4 60 61 := ⟨by decide +kernel, rfl, by decide⟩
theorem d_X8_sees_60 : zDc M_X8_sees 60 (.iconst 0) 1 61 := ⟨by decide +kernel, rfl⟩
theorem d_X8_sees_61 : zDc M_X8_sees 61 (.ior) 1 62 := ⟨by decide +kernel, rfl⟩
theorem d_X8_sees_62 : zDc M_X8_sees 62 (.istore_n 2) 1 63 := ⟨by decide +kernel, rfl⟩
theorem d_X8_sees_63 : zDc M_X8_sees 63 (.iinc 3 1) 3 66 := ⟨by decide +kernel, rfl⟩
theorem d_X8_sees_66 : zDj M_X8_sees 66 (.goto (-47)) (-47) 69 19 := ⟨by decide +kernel, rfl, by decide⟩
theorem d_X8_sees_69 : zDc M_X8_sees 69 (.iload_n 2) 1 70 := ⟨by decide +kernel, rfl⟩
theorem d_X8_sees_70 : zDc M_X8_sees 70 (.ireturn) 1 71 := ⟨by decide +kernel, rfl⟩
def f_X8_sees (a0 : Nat) (a1 : Int32) (h0 : zHp) : Option (Int32 × zHp) :=
  zob (zpV h0 a0 8 0 (.int 0)) (fun h1 =>
  zbd (zcv 8 a0 h1 (f_X8_isChild a0 a1 h1)) (fun v3 h2 =>
  if v3 = 0 then
  some ((-1), h2)
  else
  zbd (
  zlp (σ := (Int32 × Int32)) (β := (Int32 × Int32)) zLF (fun s4 h5 =>
  zob (zgR h5 a0 8 3) (fun v8 =>
  zob (zaI 0 h5 v8 1) (fun v9 =>
  if v9 ≤ s4.2 then
  some ((.inr (s4.1, s4.2)), h5)
  else
  zbd (zcv 8 a0 h5 (f_X8_isUp a0 0 s4.2 h5)) (fun v11 h10 =>
  if v11 = 0 then
  some ((.inl ((s4.1 ||| 0), (s4.2 + 1))), h10)
  else
  zob (zgR h10 a0 8 38) (fun v12 =>
  zob (zaI 0 h10 v12 s4.2) (fun v13 =>
  zbd (zcv 8 a0 h10 (f_X8_doesSee a0 0 a1 v13 h10)) (fun v15 h14 =>
  if v15 = 0 then
  some ((.inl ((s4.1 ||| 0), (s4.2 + 1))), h14)
  else
  some ((.inl ((s4.1 ||| (1 <<< (s4.2 &&& 31))), (s4.2 + 1))), h14)))))))) (0, 0) h2) (fun e6 h7 =>
  some (e6.1, h7))))
set_option maxRecDepth 100000 in
set_option maxHeartbeats 4000000 in
theorem t_X8_sees (a0 : Nat) (a1 : Int32) (h0 : zHp) : ∀ (r : Int32) (h' : zHp), f_X8_sees a0 a1 h0 = some (r, h') → zCt yX8_sees (.code yX8_sees cX8_sees 4 (some .int)) 3 104 0 0 [.ref a0, .int a1] h0 (some (.int r)) h' := by
  refine zct_of M_X8_sees yX8_sees (by decide) rfl rfl [.ref a0, .int a1] h0 (Nat.le_of_ble_eq_true rfl) (fun r => some (.int r)) (fun X => ?_)
  show zG X M_X8_sees (0, 0) 0 [(0, .ref a0), (1, .int a1)] [] h0 (f_X8_sees a0 a1 h0) (fun (r : Int32) h' => zKe X (some (.int r)) h')
  unfold f_X8_sees
  refine zg_aload_n 0 rfl d_X8_sees_0 ?_
  refine zg_iconst 0 rfl d_X8_sees_1 ?_
  refine zg_putV d_X8_sees_2 zc_8 (by decide) fl_X8_151 rfl rfl rfl (fun h1 => ?_)
  refine zg_aload_n 0 rfl d_X8_sees_5 ?_
  refine zg_iload_n 1 rfl d_X8_sees_6 ?_
  refine zg_cVi (b := a0) (As := [.int a1]) (rest := []) (0, 0) d_X8_sees_7 zc_8 rfl cw_X8_425 wi_X8_isChild ws_X8_isChild rfl rfl (Nat.le_of_ble_eq_true rfl) (by decide) (by decide) ⟨by decide, by decide⟩ rfl (t_X8_isChild a0 a1 h1) (fun v3 h2 => ?_)
  refine zg_if_ne d_X8_sees_10 ?_ ?_
  · refine zg_iconst (-1) rfl d_X8_sees_13 ?_
    exact zg_iretK d_X8_sees_14 rfl ⟨Nat.le_of_ble_eq_true rfl, Nat.le_of_ble_eq_true rfl⟩ (fun q => q)
  · refine zg_iconst 0 rfl d_X8_sees_15 ?_
    refine zg_istore_n [(2, .int 0), (0, .ref a0), (1, .int a1)] d_X8_sees_16 rfl (by decide) rfl ?_
    refine zg_iconst 0 rfl d_X8_sees_17 ?_
    refine zg_istore_n [(3, .int 0), (2, .int 0), (0, .ref a0), (1, .int a1)] d_X8_sees_18 rfl (by decide) rfl ?_
    refine zg_bd (E := 69) (el := (fun (e6 : (Int32 × Int32)) => [(0, .ref a0), (1, .int a1), (2, .int e6.1), (3, .int e6.2)])) (es := fun _ => []) (zg_sub [2, 3, 1, 0] rfl (zg_lp (el := (fun (s4 : (Int32 × Int32)) => [(0, .ref a0), (1, .int a1), (2, .int s4.1), (3, .int s4.2)])) (fun s4 h5 => ?_) (0, 0) h2)) (fun e6 h7 => ?_)
    · refine zg_iload_n 3 rfl d_X8_sees_19 ?_
      refine zg_aload_n 0 rfl d_X8_sees_20 ?_
      refine zg_getR d_X8_sees_21 zc_8 (by decide) fl_X8_13 (fun v8 => ?_)
      refine zg_iconst 1 rfl d_X8_sees_24 ?_
      refine zg_ald0 d_X8_sees_25 (fun v9 => ?_)
      refine zg_icmp_ge d_X8_sees_26 ?_ ?_
      · exact zg_finK (E := 0) [0, 1, 2, 3] rfl rfl (fun q => q)
      · refine zg_iload_n 2 rfl d_X8_sees_29 ?_
        refine zg_aload_n 0 rfl d_X8_sees_30 ?_
        refine zg_iconst 0 rfl d_X8_sees_31 ?_
        refine zg_iload_n 3 rfl d_X8_sees_32 ?_
        refine zg_cVi (b := a0) (As := [.int 0, .int s4.2]) (rest := [.int s4.1]) (0, 0) d_X8_sees_33 zc_8 rfl cw_X8_351 wi_X8_isUp ws_X8_isUp rfl rfl (Nat.le_of_ble_eq_true rfl) (by decide) (by decide) ⟨by decide, by decide⟩ rfl (t_X8_isUp a0 0 s4.2 h5) (fun v11 h10 => ?_)
        refine zg_if_eq d_X8_sees_36 ?_ ?_
        · refine zg_iconst 0 rfl d_X8_sees_60 ?_
          refine zg_ior d_X8_sees_61 ?_
          refine zg_istore_n [(2, .int (s4.1 ||| 0)), (0, .ref a0), (1, .int a1), (3, .int s4.2)] d_X8_sees_62 rfl (by decide) rfl ?_
          refine zg_iinc 3 (s4.2 + 1) [(3, .int (s4.2 + 1)), (2, .int (s4.1 ||| 0)), (0, .ref a0), (1, .int a1)] d_X8_sees_63 rfl rfl (by decide) rfl ?_
          refine zg_goto d_X8_sees_66 ?_
          exact zg_finK (E := 0) [2, 3, 1, 0] rfl rfl (fun q => q)
        · refine zg_aload_n 0 rfl d_X8_sees_39 ?_
          refine zg_iconst 0 rfl d_X8_sees_40 ?_
          refine zg_iload_n 1 rfl d_X8_sees_41 ?_
          refine zg_aload_n 0 rfl d_X8_sees_42 ?_
          refine zg_getR d_X8_sees_43 zc_8 (by decide) fl_X8_81 (fun v12 => ?_)
          refine zg_iload_n 3 rfl d_X8_sees_46 ?_
          refine zg_ald0 d_X8_sees_47 (fun v13 => ?_)
          refine zg_cVi (b := a0) (As := [.int 0, .int a1, .int v13]) (rest := [.int s4.1]) (0, 0) d_X8_sees_48 zc_8 rfl cw_X8_390 wi_X8_doesSee ws_X8_doesSee rfl rfl (Nat.le_of_ble_eq_true rfl) (by decide) (by decide) ⟨by decide, by decide⟩ rfl (t_X8_doesSee a0 0 a1 v13 h10) (fun v15 h14 => ?_)
          refine zg_if_eq d_X8_sees_51 ?_ ?_
          · refine zg_iconst 0 rfl d_X8_sees_60 ?_
            refine zg_ior d_X8_sees_61 ?_
            refine zg_istore_n [(2, .int (s4.1 ||| 0)), (0, .ref a0), (1, .int a1), (3, .int s4.2)] d_X8_sees_62 rfl (by decide) rfl ?_
            refine zg_iinc 3 (s4.2 + 1) [(3, .int (s4.2 + 1)), (2, .int (s4.1 ||| 0)), (0, .ref a0), (1, .int a1)] d_X8_sees_63 rfl rfl (by decide) rfl ?_
            refine zg_goto d_X8_sees_66 ?_
            exact zg_finK (E := 0) [2, 3, 1, 0] rfl rfl (fun q => q)
          · refine zg_iconst 1 rfl d_X8_sees_54 ?_
            refine zg_iload_n 3 rfl d_X8_sees_55 ?_
            refine zg_ishl d_X8_sees_56 ?_
            refine zg_goto d_X8_sees_57 ?_
            refine zg_ior d_X8_sees_61 ?_
            refine zg_istore_n [(2, .int (s4.1 ||| (1 <<< (s4.2 &&& 31)))), (0, .ref a0), (1, .int a1), (3, .int s4.2)] d_X8_sees_62 rfl (by decide) rfl ?_
            refine zg_iinc 3 (s4.2 + 1) [(3, .int (s4.2 + 1)), (2, .int (s4.1 ||| (1 <<< (s4.2 &&& 31)))), (0, .ref a0), (1, .int a1)] d_X8_sees_63 rfl rfl (by decide) rfl ?_
            refine zg_goto d_X8_sees_66 ?_
            exact zg_finK (E := 0) [2, 3, 1, 0] rfl rfl (fun q => q)
    · refine zg_iload_n 2 rfl d_X8_sees_69 ?_
      exact zg_iretK d_X8_sees_70 rfl ⟨Nat.le_of_ble_eq_true rfl, Nat.le_of_ble_eq_true rfl⟩ (fun q => q)
abbrev M_X8_stand : zMt := (RX8, cX8_stand, 4, 3, 106, (some .boolean), "stand", 0, 0)
theorem d_X8_stand_0 : zDc M_X8_stand 0 (.aload_n 0) 1 1 := ⟨by decide +kernel, rfl⟩
theorem d_X8_stand_1 : zDc M_X8_stand 1 (.iconst 0) 1 2 := ⟨by decide +kernel, rfl⟩
theorem d_X8_stand_2 : zDc M_X8_stand 2 (.putfield 151) 3 5 := ⟨by decide +kernel, rfl⟩
theorem d_X8_stand_5 : zDc M_X8_stand 5 (.aload_n 0) 1 6 := ⟨by decide +kernel, rfl⟩
theorem d_X8_stand_6 : zDc M_X8_stand 6 (.iload_n 1) 1 7 := ⟨by decide +kernel, rfl⟩
theorem d_X8_stand_7 : zDc M_X8_stand 7 (.invokevirtual 425) 3 10 := ⟨by decide +kernel, rfl⟩
theorem d_X8_stand_10 : zDj M_X8_stand 10 (.ifCond .eq 26) 26 13 36 := ⟨by decide +kernel, rfl, by decide⟩
theorem d_X8_stand_13 : zDc M_X8_stand 13 (.iload_n 2) 1 14 := ⟨by decide +kernel, rfl⟩
theorem d_X8_stand_14 : zDc M_X8_stand 14 (.iload_n 3) 1 15 := ⟨by decide +kernel, rfl⟩
theorem d_X8_stand_15 : zDc M_X8_stand 15 (.invokestatic 378) 3 18 := ⟨by decide +kernel, rfl⟩
theorem d_X8_stand_18 : zDj M_X8_stand 18 (.ifCond .eq 18) 18 21 36 := ⟨by decide +kernel, rfl, by decide⟩
theorem d_X8_stand_21 : zDc M_X8_stand 21 (.aload_n 0) 1 22 := ⟨by decide +kernel, rfl⟩
theorem d_X8_stand_22 : zDc M_X8_stand 22 (.getfield 96) 3 25 := ⟨by decide +kernel, rfl⟩
theorem d_X8_stand_25 : zDc M_X8_stand 25 (.iload_n 1) 1 26 := ⟨by decide +kernel, rfl⟩
theorem d_X8_stand_26 : zDc M_X8_stand 26 (.iaload) 1 27 := ⟨by decide +kernel, rfl⟩
theorem d_X8_stand_27 : zDc M_X8_stand 27 (.bipush 6) 2 29 := ⟨by decide +kernel, rfl⟩
theorem d_X8_stand_29 : zDc M_X8_stand 29 (.iload_n 3) 1 30 := ⟨by decide +kernel, rfl⟩
theorem d_X8_stand_30 : zDc M_X8_stand 30 (.imul) 1 31 := ⟨by decide +kernel, rfl⟩
theorem d_X8_stand_31 : zDc M_X8_stand 31 (.iload_n 2) 1 32 := ⟨by decide +kernel, rfl⟩
theorem d_X8_stand_32 : zDc M_X8_stand 32 (.iadd) 1 33 := ⟨by decide +kernel, rfl⟩
theorem d_X8_stand_33 : zDj M_X8_stand 33 (.if_icmp .ne 5) 5 36 38 := ⟨by decide +kernel, rfl, by decide⟩
theorem d_X8_stand_36 : zDc M_X8_stand 36 (.iconst 0) 1 37 := ⟨by decide +kernel, rfl⟩
theorem d_X8_stand_37 : zDc M_X8_stand 37 (.ireturn) 1 38 := ⟨by decide +kernel, rfl⟩
theorem d_X8_stand_38 : zDc M_X8_stand 38 (.aload_n 0) 1 39 := ⟨by decide +kernel, rfl⟩
theorem d_X8_stand_39 : zDc M_X8_stand 39 (.invokevirtual 444) 3 42 := ⟨by decide +kernel, rfl⟩
theorem d_X8_stand_42 : zDc M_X8_stand 42 (.aload_n 0) 1 43 := ⟨by decide +kernel, rfl⟩
theorem d_X8_stand_43 : zDc M_X8_stand 43 (.getfield 96) 3 46 := ⟨by decide +kernel, rfl⟩
theorem d_X8_stand_46 : zDc M_X8_stand 46 (.iload_n 1) 1 47 := ⟨by decide +kernel, rfl⟩
theorem d_X8_stand_47 : zDc M_X8_stand 47 (.bipush 6) 2 49 := ⟨by decide +kernel, rfl⟩
theorem d_X8_stand_49 : zDc M_X8_stand 49 (.iload_n 3) 1 50 := ⟨by decide +kernel, rfl⟩
theorem d_X8_stand_50 : zDc M_X8_stand 50 (.imul) 1 51 := ⟨by decide +kernel, rfl⟩
theorem d_X8_stand_51 : zDc M_X8_stand 51 (.iload_n 2) 1 52 := ⟨by decide +kernel, rfl⟩
theorem d_X8_stand_52 : zDc M_X8_stand 52 (.iadd) 1 53 := ⟨by decide +kernel, rfl⟩
theorem d_X8_stand_53 : zDc M_X8_stand 53 (.iastore) 1 54 := ⟨by decide +kernel, rfl⟩
theorem d_X8_stand_54 : zDc M_X8_stand 54 (.iconst 1) 1 55 := ⟨by decide +kernel, rfl⟩
theorem d_X8_stand_55 : zDc M_X8_stand 55 (.ireturn) 1 56 := ⟨by decide +kernel, rfl⟩
def f_X8_stand (a0 : Nat) (a1 : Int32) (a2 : Int32) (a3 : Int32) (h0 : zHp) : Option (Int32 × zHp) :=
  zob (zpV h0 a0 8 0 (.int 0)) (fun h1 =>
  zbd (zcv 8 a0 h1 (f_X8_isChild a0 a1 h1)) (fun v3 h2 =>
  if v3 = 0 then
  some (0, h2)
  else
  zbd ((f_X8_isCell a2 a3 h2)) (fun v5 h4 =>
  if v5 = 0 then
  some (0, h4)
  else
  zob (zgR h4 a0 8 43) (fun v6 =>
  zob (zaI 0 h4 v6 a1) (fun v7 =>
  if v7 = ((6 * a3) + a2) then
  some (0, h4)
  else
  zbd (zcv 8 a0 h4 (f_X8_keepNow a0 h4)) (fun v9 h8 =>
  zob (zgR h8 a0 8 43) (fun v10 =>
  zob (zsI 0 h8 v10 a1 ((6 * a3) + a2)) (fun h11 =>
  some (1, h11)))))))))
set_option maxRecDepth 100000 in
set_option maxHeartbeats 4000000 in
theorem t_X8_stand (a0 : Nat) (a1 : Int32) (a2 : Int32) (a3 : Int32) (h0 : zHp) : ∀ (r : Int32) (h' : zHp), f_X8_stand a0 a1 a2 a3 h0 = some (r, h') → zCt yX8_stand (.code yX8_stand cX8_stand 4 (some .boolean)) 3 106 0 0 [.ref a0, .int a1, .int a2, .int a3] h0 (some (.int r)) h' := by
  refine zct_of M_X8_stand yX8_stand (by decide) rfl rfl [.ref a0, .int a1, .int a2, .int a3] h0 (Nat.le_of_ble_eq_true rfl) (fun r => some (.int r)) (fun X => ?_)
  show zG X M_X8_stand (0, 0) 0 [(0, .ref a0), (1, .int a1), (2, .int a2), (3, .int a3)] [] h0 (f_X8_stand a0 a1 a2 a3 h0) (fun (r : Int32) h' => zKe X (some (.int r)) h')
  unfold f_X8_stand
  refine zg_aload_n 0 rfl d_X8_stand_0 ?_
  refine zg_iconst 0 rfl d_X8_stand_1 ?_
  refine zg_putV d_X8_stand_2 zc_8 (by decide) fl_X8_151 rfl rfl rfl (fun h1 => ?_)
  refine zg_aload_n 0 rfl d_X8_stand_5 ?_
  refine zg_iload_n 1 rfl d_X8_stand_6 ?_
  refine zg_cVi (b := a0) (As := [.int a1]) (rest := []) (0, 0) d_X8_stand_7 zc_8 rfl cw_X8_425 wi_X8_isChild ws_X8_isChild rfl rfl (Nat.le_of_ble_eq_true rfl) (by decide) (by decide) ⟨by decide, by decide⟩ rfl (t_X8_isChild a0 a1 h1) (fun v3 h2 => ?_)
  refine zg_if_eq d_X8_stand_10 ?_ ?_
  · refine zg_iconst 0 rfl d_X8_stand_36 ?_
    exact zg_zretK d_X8_stand_37 rfl ⟨Nat.le_of_ble_eq_true rfl, Nat.le_of_ble_eq_true rfl⟩ (Or.inl rfl) (fun q => q)
  · refine zg_iload_n 2 rfl d_X8_stand_13 ?_
    refine zg_iload_n 3 rfl d_X8_stand_14 ?_
    refine zg_cSi (As := [.int a2, .int a3]) (rest := []) (0, 0) d_X8_stand_15 cw_X8_378 wt_X8_isCell rfl rfl (Nat.le_of_ble_eq_true rfl) (by decide) (by decide) ⟨by decide, by decide⟩ rfl (t_X8_isCell a2 a3 h2) (fun v5 h4 => ?_)
    refine zg_if_eq d_X8_stand_18 ?_ ?_
    · refine zg_iconst 0 rfl d_X8_stand_36 ?_
      exact zg_zretK d_X8_stand_37 rfl ⟨Nat.le_of_ble_eq_true rfl, Nat.le_of_ble_eq_true rfl⟩ (Or.inl rfl) (fun q => q)
    · refine zg_aload_n 0 rfl d_X8_stand_21 ?_
      refine zg_getR d_X8_stand_22 zc_8 (by decide) fl_X8_96 (fun v6 => ?_)
      refine zg_iload_n 1 rfl d_X8_stand_25 ?_
      refine zg_ald0 d_X8_stand_26 (fun v7 => ?_)
      refine zg_bipush 6 rfl d_X8_stand_27 ?_
      refine zg_iload_n 3 rfl d_X8_stand_29 ?_
      refine zg_imul d_X8_stand_30 ?_
      refine zg_iload_n 2 rfl d_X8_stand_31 ?_
      refine zg_iadd d_X8_stand_32 ?_
      refine zg_icmp_ne d_X8_stand_33 ?_ ?_
      · refine zg_iconst 0 rfl d_X8_stand_36 ?_
        exact zg_zretK d_X8_stand_37 rfl ⟨Nat.le_of_ble_eq_true rfl, Nat.le_of_ble_eq_true rfl⟩ (Or.inl rfl) (fun q => q)
      · refine zg_aload_n 0 rfl d_X8_stand_38 ?_
        refine zg_cVv (b := a0) (As := []) (rest := []) (0, 0) d_X8_stand_39 zc_8 rfl cw_X8_444 wi_X8_keepNow ws_X8_keepNow rfl rfl (Nat.le_of_ble_eq_true rfl) (by decide) (by decide) ⟨by decide, by decide⟩ rfl (t_X8_keepNow a0 h4) (fun v9 h8 => ?_)
        refine zg_aload_n 0 rfl d_X8_stand_42 ?_
        refine zg_getR d_X8_stand_43 zc_8 (by decide) fl_X8_96 (fun v10 => ?_)
        refine zg_iload_n 1 rfl d_X8_stand_46 ?_
        refine zg_bipush 6 rfl d_X8_stand_47 ?_
        refine zg_iload_n 3 rfl d_X8_stand_49 ?_
        refine zg_imul d_X8_stand_50 ?_
        refine zg_iload_n 2 rfl d_X8_stand_51 ?_
        refine zg_iadd d_X8_stand_52 ?_
        refine zg_ast0 d_X8_stand_53 (fun h11 => ?_)
        refine zg_iconst 1 rfl d_X8_stand_54 ?_
        exact zg_zretK d_X8_stand_55 rfl ⟨Nat.le_of_ble_eq_true rfl, Nat.le_of_ble_eq_true rfl⟩ (Or.inr rfl) (fun q => q)
abbrev M_X8_wouldSwap : zMt := (RX8, cX8_wouldSwap, 5, 2, 82, (some .boolean), "wouldSwap", 0, 0)
theorem d_X8_wouldSwap_0 : zDc M_X8_wouldSwap 0 (.aload_n 0) 1 1 := ⟨by decide +kernel, rfl⟩
theorem d_X8_wouldSwap_1 : zDc M_X8_wouldSwap 1 (.iconst 0) 1 2 := ⟨by decide +kernel, rfl⟩
theorem d_X8_wouldSwap_2 : zDc M_X8_wouldSwap 2 (.iload_n 1) 1 3 := ⟨by decide +kernel, rfl⟩
theorem d_X8_wouldSwap_3 : zDc M_X8_wouldSwap 3 (.invokevirtual 351) 3 6 := ⟨by decide +kernel, rfl⟩
theorem d_X8_wouldSwap_6 : zDj M_X8_wouldSwap 6 (.ifCond .eq 12) 12 9 18 := ⟨by decide +kernel, rfl, by decide⟩
theorem d_X8_wouldSwap_9 : zDc M_X8_wouldSwap 9 (.aload_n 0) 1 10 := ⟨by decide +kernel, rfl⟩
theorem d_X8_wouldSwap_10 : zDc M_X8_wouldSwap 10 (.iconst 0) 1 11 := ⟨by decide +kernel, rfl⟩
theorem d_X8_wouldSwap_11 : zDc M_X8_wouldSwap 11 (.iload_n 2) 1 12 := ⟨by decide +kernel, rfl⟩
theorem d_X8_wouldSwap_12 : zDc M_X8_wouldSwap 12 (.invokevirtual 351) 3 15 := ⟨by decide +kernel, rfl⟩
theorem d_X8_wouldSwap_15 : zDj M_X8_wouldSwap 15 (.ifCond .ne 5) 5 18 20 := ⟨by decide +kernel, rfl, by decide⟩
theorem d_X8_wouldSwap_18 : zDc M_X8_wouldSwap 18 (.iconst 0) 1 19 := ⟨by decide +kernel, rfl⟩
theorem d_X8_wouldSwap_19 : zDc M_X8_wouldSwap 19 (.ireturn) 1 20 := ⟨by decide +kernel, rfl⟩
theorem d_X8_wouldSwap_20 : zDc M_X8_wouldSwap 20 (.aload_n 0) 1 21 := ⟨by decide +kernel, rfl⟩
theorem d_X8_wouldSwap_21 : zDc M_X8_wouldSwap 21 (.getfield 90) 3 24 := ⟨by decide +kernel, rfl⟩
theorem d_X8_wouldSwap_24 : zDc M_X8_wouldSwap 24 (.iload_n 1) 1 25 := ⟨by decide +kernel, rfl⟩
theorem d_X8_wouldSwap_25 : zDc M_X8_wouldSwap 25 (.iaload) 1 26 := ⟨by decide +kernel, rfl⟩
theorem d_X8_wouldSwap_26 : zDc M_X8_wouldSwap 26 (.istore_n 3) 1 27 := ⟨by decide +kernel, rfl⟩
theorem d_X8_wouldSwap_27 : zDc M_X8_wouldSwap 27 (.aload_n 0) 1 28 := ⟨by decide +kernel, rfl⟩
theorem d_X8_wouldSwap_28 : zDc M_X8_wouldSwap 28 (.getfield 90) 3 31 := ⟨by decide +kernel, rfl⟩
theorem d_X8_wouldSwap_31 : zDc M_X8_wouldSwap 31 (.iload_n 2) 1 32 := ⟨by decide +kernel, rfl⟩
theorem d_X8_wouldSwap_32 : zDc M_X8_wouldSwap 32 (.iaload) 1 33 := ⟨by decide +kernel, rfl⟩
theorem d_X8_wouldSwap_33 : zDc M_X8_wouldSwap 33 (.istore 4) 2 35 := ⟨by decide +kernel, rfl⟩
theorem d_X8_wouldSwap_35 : zDc M_X8_wouldSwap 35 (.iload_n 3) 1 36 := ⟨by decide +kernel, rfl⟩
theorem d_X8_wouldSwap_36 : zDc M_X8_wouldSwap 36 (.iconst (-1)) 1 37 := ⟨by decide +kernel, rfl⟩
theorem d_X8_wouldSwap_37 : zDj M_X8_wouldSwap 37 (.if_icmp .eq 15) 15 40 52 := ⟨by decide +kernel, rfl, by decide⟩
theorem d_X8_wouldSwap_40 : zDc M_X8_wouldSwap 40 (.iload 4) 2 42 := ⟨by decide +kernel, rfl⟩
theorem d_X8_wouldSwap_42 : zDc M_X8_wouldSwap 42 (.iconst (-1)) 1 43 := ⟨by decide +kernel, rfl⟩
theorem d_X8_wouldSwap_43 : zDj M_X8_wouldSwap 43 (.if_icmp .eq 9) 9 46 52 := ⟨by decide +kernel, rfl, by decide⟩
theorem d_X8_wouldSwap_46 : zDc M_X8_wouldSwap 46 (.iload_n 3) 1 47 := ⟨by decide +kernel, rfl⟩
theorem d_X8_wouldSwap_47 : zDc M_X8_wouldSwap 47 (.iload 4) 2 49 := ⟨by decide +kernel, rfl⟩
theorem d_X8_wouldSwap_49 : zDj M_X8_wouldSwap 49 (.if_icmp .ne 5) 5 52 54 := ⟨by decide +kernel, rfl, by decide⟩
theorem d_X8_wouldSwap_52 : zDc M_X8_wouldSwap 52 (.iconst 0) 1 53 := ⟨by decide +kernel, rfl⟩
theorem d_X8_wouldSwap_53 : zDc M_X8_wouldSwap 53 (.ireturn) 1 54 := ⟨by decide +kernel, rfl⟩
theorem d_X8_wouldSwap_54 : zDc M_X8_wouldSwap 54 (.aload_n 0) 1 55 := ⟨by decide +kernel, rfl⟩
theorem d_X8_wouldSwap_55 : zDc M_X8_wouldSwap 55 (.getfield 96) 3 58 := ⟨by decide +kernel, rfl⟩
theorem d_X8_wouldSwap_58 : zDc M_X8_wouldSwap 58 (.iload_n 3) 1 59 := ⟨by decide +kernel, rfl⟩
theorem d_X8_wouldSwap_59 : zDc M_X8_wouldSwap 59 (.iaload) 1 60 := ⟨by decide +kernel, rfl⟩
theorem d_X8_wouldSwap_60 : zDc M_X8_wouldSwap 60 (.aload_n 0) 1 61 := ⟨by decide +kernel, rfl⟩
theorem d_X8_wouldSwap_61 : zDc M_X8_wouldSwap 61 (.getfield 81) 3 64 := ⟨by decide +kernel, rfl⟩
theorem d_X8_wouldSwap_64 : zDc M_X8_wouldSwap 64 (.iload_n 2) 1 65 := ⟨by decide +kernel, rfl⟩
theorem d_X8_wouldSwap_65 : zDc M_X8_wouldSwap 65 (.iaload) 1 66 := ⟨by decide +kernel, rfl⟩
theorem d_X8_wouldSwap_66 : zDc M_X8_wouldSwap 66 (.invokestatic 360) 3 69 := ⟨by decide +kernel, rfl⟩
theorem d_X8_wouldSwap_69 : zDc M_X8_wouldSwap 69 (.aload_n 0) 1 70 := ⟨by decide +kernel, rfl⟩
theorem d_X8_wouldSwap_70 : zDc M_X8_wouldSwap 70 (.getfield 96) 3 73 := ⟨by decide +kernel, rfl⟩
theorem d_X8_wouldSwap_73 : zDc M_X8_wouldSwap 73 (.iload_n 3) 1 74 := ⟨by decide +kernel, rfl⟩
theorem d_X8_wouldSwap_74 : zDc M_X8_wouldSwap 74 (.iaload) 1 75 := ⟨by decide +kernel, rfl⟩
theorem d_X8_wouldSwap_75 : zDc M_X8_wouldSwap 75 (.aload_n 0) 1 76 := ⟨by decide +kernel, rfl⟩
theorem d_X8_wouldSwap_76 : zDc M_X8_wouldSwap 76 (.getfield 81) 3 79 := ⟨by decide +kernel, rfl⟩
theorem d_X8_wouldSwap_79 : zDc M_X8_wouldSwap 79 (.iload_n 1) 1 80 := ⟨by decide +kernel, rfl⟩
theorem d_X8_wouldSwap_80 : zDc M_X8_wouldSwap 80 (.iaload) 1 81 := ⟨by decide +kernel, rfl⟩
theorem d_X8_wouldSwap_81 : zDc M_X8_wouldSwap 81 (.invokestatic 360) 3 84 := ⟨by decide +kernel, rfl⟩
theorem d_X8_wouldSwap_84 : zDj M_X8_wouldSwap 84 (.if_icmp .ge 42) 42 87 126 := ⟨by decide +kernel, rfl, by decide⟩
theorem d_X8_wouldSwap_87 : zDc M_X8_wouldSwap 87 (.aload_n 0) 1 88 := ⟨by decide +kernel, rfl⟩
theorem d_X8_wouldSwap_88 : zDc M_X8_wouldSwap 88 (.getfield 96) 3 91 := ⟨by decide +kernel, rfl⟩
theorem d_X8_wouldSwap_91 : zDc M_X8_wouldSwap 91 (.iload 4) 2 93 := ⟨by decide +kernel, rfl⟩
theorem d_X8_wouldSwap_93 : zDc M_X8_wouldSwap 93 (.iaload) 1 94 := ⟨by decide +kernel, rfl⟩
theorem d_X8_wouldSwap_94 : zDc M_X8_wouldSwap 94 (.aload_n 0) 1 95 := ⟨by decide +kernel, rfl⟩
theorem d_X8_wouldSwap_95 : zDc M_X8_wouldSwap 95 (.getfield 81) 3 98 := ⟨by decide +kernel, rfl⟩
theorem d_X8_wouldSwap_98 : zDc M_X8_wouldSwap 98 (.iload_n 1) 1 99 := ⟨by decide +kernel, rfl⟩
theorem d_X8_wouldSwap_99 : zDc M_X8_wouldSwap 99 (.iaload) 1 100 := ⟨by decide +kernel, rfl⟩
theorem d_X8_wouldSwap_100 : zDc M_X8_wouldSwap 100 (.invokestatic 360) 3 103 := ⟨by decide +kernel, rfl⟩
theorem d_X8_wouldSwap_103 : zDc M_X8_wouldSwap 103 (.aload_n 0) 1 104 := ⟨by decide +kernel, rfl⟩
theorem d_X8_wouldSwap_104 : zDc M_X8_wouldSwap 104 (.getfield 96) 3 107 := ⟨by decide +kernel, rfl⟩
theorem d_X8_wouldSwap_107 : zDc M_X8_wouldSwap 107 (.iload 4) 2 109 := ⟨by decide +kernel, rfl⟩
theorem d_X8_wouldSwap_109 : zDc M_X8_wouldSwap 109 (.iaload) 1 110 := ⟨by decide +kernel, rfl⟩
theorem d_X8_wouldSwap_110 : zDc M_X8_wouldSwap 110 (.aload_n 0) 1 111 := ⟨by decide +kernel, rfl⟩
theorem d_X8_wouldSwap_111 : zDc M_X8_wouldSwap 111 (.getfield 81) 3 114 := ⟨by decide +kernel, rfl⟩
theorem d_X8_wouldSwap_114 : zDc M_X8_wouldSwap 114 (.iload_n 2) 1 115 := ⟨by decide +kernel, rfl⟩
theorem d_X8_wouldSwap_115 : zDc M_X8_wouldSwap 115 (.iaload) 1 116 := ⟨by decide +kernel, rfl⟩
theorem d_X8_wouldSwap_116 : zDc M_X8_wouldSwap 116 (.invokestatic 360) 3 119 := ⟨by decide +kernel, rfl⟩
theorem d_X8_wouldSwap_119 : zDj M_X8_wouldSwap 119 (.if_icmp .ge 7) 7 122 126 := ⟨by decide +kernel, rfl, by decide⟩
theorem d_X8_wouldSwap_122 : zDc M_X8_wouldSwap 122 (.iconst 1) 1 123 := ⟨by decide +kernel, rfl⟩
theorem d_X8_wouldSwap_123 : zDj M_X8_wouldSwap 123 (.goto 4) 4 126 127 := ⟨by decide +kernel, rfl, by decide⟩
theorem d_X8_wouldSwap_126 : zDc M_X8_wouldSwap 126 (.iconst 0) 1 127 := ⟨by decide +kernel, rfl⟩
theorem d_X8_wouldSwap_127 : zDc M_X8_wouldSwap 127 (.ireturn) 1 128 := ⟨by decide +kernel, rfl⟩
def f_X8_wouldSwap (a0 : Nat) (a1 : Int32) (a2 : Int32) (h0 : zHp) : Option (Int32 × zHp) :=
  zbd (zcv 8 a0 h0 (f_X8_isUp a0 0 a1 h0)) (fun v2 h1 =>
  if v2 = 0 then
  some (0, h1)
  else
  zbd (zcv 8 a0 h1 (f_X8_isUp a0 0 a2 h1)) (fun v4 h3 =>
  if v4 = 0 then
  some (0, h3)
  else
  zob (zgR h3 a0 8 41) (fun v5 =>
  zob (zaI 0 h3 v5 a1) (fun v6 =>
  zob (zgR h3 a0 8 41) (fun v7 =>
  zob (zaI 0 h3 v7 a2) (fun v8 =>
  if v6 = (-1) then
  some (0, h3)
  else
  if v8 = (-1) then
  some (0, h3)
  else
  if v6 = v8 then
  some (0, h3)
  else
  zob (zgR h3 a0 8 43) (fun v9 =>
  zob (zaI 0 h3 v9 v6) (fun v10 =>
  zob (zgR h3 a0 8 38) (fun v11 =>
  zob (zaI 0 h3 v11 a2) (fun v12 =>
  zbd ((f_X8_farOf v10 v12 h3)) (fun v14 h13 =>
  zob (zgR h13 a0 8 43) (fun v15 =>
  zob (zaI 0 h13 v15 v6) (fun v16 =>
  zob (zgR h13 a0 8 38) (fun v17 =>
  zob (zaI 0 h13 v17 a1) (fun v18 =>
  zbd ((f_X8_farOf v16 v18 h13)) (fun v20 h19 =>
  if v20 ≤ v14 then
  some (0, h19)
  else
  zob (zgR h19 a0 8 43) (fun v21 =>
  zob (zaI 0 h19 v21 v8) (fun v22 =>
  zob (zgR h19 a0 8 38) (fun v23 =>
  zob (zaI 0 h19 v23 a1) (fun v24 =>
  zbd ((f_X8_farOf v22 v24 h19)) (fun v26 h25 =>
  zob (zgR h25 a0 8 43) (fun v27 =>
  zob (zaI 0 h25 v27 v8) (fun v28 =>
  zob (zgR h25 a0 8 38) (fun v29 =>
  zob (zaI 0 h25 v29 a2) (fun v30 =>
  zbd ((f_X8_farOf v28 v30 h25)) (fun v32 h31 =>
  if v32 ≤ v26 then
  some (0, h31)
  else
  some (1, h31)))))))))))))))))))))))))))
set_option maxRecDepth 100000 in
set_option maxHeartbeats 4000000 in
theorem t_X8_wouldSwap (a0 : Nat) (a1 : Int32) (a2 : Int32) (h0 : zHp) : ∀ (r : Int32) (h' : zHp), f_X8_wouldSwap a0 a1 a2 h0 = some (r, h') → zCt yX8_wouldSwap (.code yX8_wouldSwap cX8_wouldSwap 5 (some .boolean)) 2 82 0 0 [.ref a0, .int a1, .int a2] h0 (some (.int r)) h' := by
  refine zct_of M_X8_wouldSwap yX8_wouldSwap (by decide) rfl rfl [.ref a0, .int a1, .int a2] h0 (Nat.le_of_ble_eq_true rfl) (fun r => some (.int r)) (fun X => ?_)
  show zG X M_X8_wouldSwap (0, 0) 0 [(0, .ref a0), (1, .int a1), (2, .int a2)] [] h0 (f_X8_wouldSwap a0 a1 a2 h0) (fun (r : Int32) h' => zKe X (some (.int r)) h')
  unfold f_X8_wouldSwap
  refine zg_aload_n 0 rfl d_X8_wouldSwap_0 ?_
  refine zg_iconst 0 rfl d_X8_wouldSwap_1 ?_
  refine zg_iload_n 1 rfl d_X8_wouldSwap_2 ?_
  refine zg_cVi (b := a0) (As := [.int 0, .int a1]) (rest := []) (0, 0) d_X8_wouldSwap_3 zc_8 rfl cw_X8_351 wi_X8_isUp ws_X8_isUp rfl rfl (Nat.le_of_ble_eq_true rfl) (by decide) (by decide) ⟨by decide, by decide⟩ rfl (t_X8_isUp a0 0 a1 h0) (fun v2 h1 => ?_)
  refine zg_if_eq d_X8_wouldSwap_6 ?_ ?_
  · refine zg_iconst 0 rfl d_X8_wouldSwap_18 ?_
    exact zg_zretK d_X8_wouldSwap_19 rfl ⟨Nat.le_of_ble_eq_true rfl, Nat.le_of_ble_eq_true rfl⟩ (Or.inl rfl) (fun q => q)
  · refine zg_aload_n 0 rfl d_X8_wouldSwap_9 ?_
    refine zg_iconst 0 rfl d_X8_wouldSwap_10 ?_
    refine zg_iload_n 2 rfl d_X8_wouldSwap_11 ?_
    refine zg_cVi (b := a0) (As := [.int 0, .int a2]) (rest := []) (0, 0) d_X8_wouldSwap_12 zc_8 rfl cw_X8_351 wi_X8_isUp ws_X8_isUp rfl rfl (Nat.le_of_ble_eq_true rfl) (by decide) (by decide) ⟨by decide, by decide⟩ rfl (t_X8_isUp a0 0 a2 h1) (fun v4 h3 => ?_)
    refine zg_if_ne d_X8_wouldSwap_15 ?_ ?_
    · refine zg_iconst 0 rfl d_X8_wouldSwap_18 ?_
      exact zg_zretK d_X8_wouldSwap_19 rfl ⟨Nat.le_of_ble_eq_true rfl, Nat.le_of_ble_eq_true rfl⟩ (Or.inl rfl) (fun q => q)
    · refine zg_aload_n 0 rfl d_X8_wouldSwap_20 ?_
      refine zg_getR d_X8_wouldSwap_21 zc_8 (by decide) fl_X8_90 (fun v5 => ?_)
      refine zg_iload_n 1 rfl d_X8_wouldSwap_24 ?_
      refine zg_ald0 d_X8_wouldSwap_25 (fun v6 => ?_)
      refine zg_istore_n [(3, .int v6), (0, .ref a0), (1, .int a1), (2, .int a2)] d_X8_wouldSwap_26 rfl (by decide) rfl ?_
      refine zg_aload_n 1 rfl d_X8_wouldSwap_27 ?_
      refine zg_getR d_X8_wouldSwap_28 zc_8 (by decide) fl_X8_90 (fun v7 => ?_)
      refine zg_iload_n 3 rfl d_X8_wouldSwap_31 ?_
      refine zg_ald0 d_X8_wouldSwap_32 (fun v8 => ?_)
      refine zg_istore [(4, .int v8), (3, .int v6), (0, .ref a0), (1, .int a1), (2, .int a2)] d_X8_wouldSwap_33 (by decide) rfl ?_
      refine zg_iload_n 1 rfl d_X8_wouldSwap_35 ?_
      refine zg_iconst (-1) rfl d_X8_wouldSwap_36 ?_
      refine zg_icmp_eq d_X8_wouldSwap_37 ?_ ?_
      · refine zg_iconst 0 rfl d_X8_wouldSwap_52 ?_
        exact zg_zretK d_X8_wouldSwap_53 rfl ⟨Nat.le_of_ble_eq_true rfl, Nat.le_of_ble_eq_true rfl⟩ (Or.inl rfl) (fun q => q)
      · refine zg_iload 0 rfl d_X8_wouldSwap_40 ?_
        refine zg_iconst (-1) rfl d_X8_wouldSwap_42 ?_
        refine zg_icmp_eq d_X8_wouldSwap_43 ?_ ?_
        · refine zg_iconst 0 rfl d_X8_wouldSwap_52 ?_
          exact zg_zretK d_X8_wouldSwap_53 rfl ⟨Nat.le_of_ble_eq_true rfl, Nat.le_of_ble_eq_true rfl⟩ (Or.inl rfl) (fun q => q)
        · refine zg_iload_n 1 rfl d_X8_wouldSwap_46 ?_
          refine zg_iload 0 rfl d_X8_wouldSwap_47 ?_
          refine zg_icmp_ne d_X8_wouldSwap_49 ?_ ?_
          · refine zg_iconst 0 rfl d_X8_wouldSwap_52 ?_
            exact zg_zretK d_X8_wouldSwap_53 rfl ⟨Nat.le_of_ble_eq_true rfl, Nat.le_of_ble_eq_true rfl⟩ (Or.inl rfl) (fun q => q)
          · refine zg_aload_n 2 rfl d_X8_wouldSwap_54 ?_
            refine zg_getR d_X8_wouldSwap_55 zc_8 (by decide) fl_X8_96 (fun v9 => ?_)
            refine zg_iload_n 1 rfl d_X8_wouldSwap_58 ?_
            refine zg_ald0 d_X8_wouldSwap_59 (fun v10 => ?_)
            refine zg_aload_n 2 rfl d_X8_wouldSwap_60 ?_
            refine zg_getR d_X8_wouldSwap_61 zc_8 (by decide) fl_X8_81 (fun v11 => ?_)
            refine zg_iload_n 4 rfl d_X8_wouldSwap_64 ?_
            refine zg_ald0 d_X8_wouldSwap_65 (fun v12 => ?_)
            refine zg_cSi (As := [.int v10, .int v12]) (rest := []) (0, 0) d_X8_wouldSwap_66 cw_X8_360 wt_X8_farOf rfl rfl (Nat.le_of_ble_eq_true rfl) (by decide) (by decide) ⟨by decide, by decide⟩ rfl (t_X8_farOf v10 v12 h3) (fun v14 h13 => ?_)
            refine zg_aload_n 2 rfl d_X8_wouldSwap_69 ?_
            refine zg_getR d_X8_wouldSwap_70 zc_8 (by decide) fl_X8_96 (fun v15 => ?_)
            refine zg_iload_n 1 rfl d_X8_wouldSwap_73 ?_
            refine zg_ald0 d_X8_wouldSwap_74 (fun v16 => ?_)
            refine zg_aload_n 2 rfl d_X8_wouldSwap_75 ?_
            refine zg_getR d_X8_wouldSwap_76 zc_8 (by decide) fl_X8_81 (fun v17 => ?_)
            refine zg_iload_n 3 rfl d_X8_wouldSwap_79 ?_
            refine zg_ald0 d_X8_wouldSwap_80 (fun v18 => ?_)
            refine zg_cSi (As := [.int v16, .int v18]) (rest := [.int v14]) (0, 0) d_X8_wouldSwap_81 cw_X8_360 wt_X8_farOf rfl rfl (Nat.le_of_ble_eq_true rfl) (by decide) (by decide) ⟨by decide, by decide⟩ rfl (t_X8_farOf v16 v18 h13) (fun v20 h19 => ?_)
            refine zg_icmp_ge d_X8_wouldSwap_84 ?_ ?_
            · refine zg_iconst 0 rfl d_X8_wouldSwap_126 ?_
              exact zg_zretK d_X8_wouldSwap_127 rfl ⟨Nat.le_of_ble_eq_true rfl, Nat.le_of_ble_eq_true rfl⟩ (Or.inl rfl) (fun q => q)
            · refine zg_aload_n 2 rfl d_X8_wouldSwap_87 ?_
              refine zg_getR d_X8_wouldSwap_88 zc_8 (by decide) fl_X8_96 (fun v21 => ?_)
              refine zg_iload 0 rfl d_X8_wouldSwap_91 ?_
              refine zg_ald0 d_X8_wouldSwap_93 (fun v22 => ?_)
              refine zg_aload_n 2 rfl d_X8_wouldSwap_94 ?_
              refine zg_getR d_X8_wouldSwap_95 zc_8 (by decide) fl_X8_81 (fun v23 => ?_)
              refine zg_iload_n 3 rfl d_X8_wouldSwap_98 ?_
              refine zg_ald0 d_X8_wouldSwap_99 (fun v24 => ?_)
              refine zg_cSi (As := [.int v22, .int v24]) (rest := []) (0, 0) d_X8_wouldSwap_100 cw_X8_360 wt_X8_farOf rfl rfl (Nat.le_of_ble_eq_true rfl) (by decide) (by decide) ⟨by decide, by decide⟩ rfl (t_X8_farOf v22 v24 h19) (fun v26 h25 => ?_)
              refine zg_aload_n 2 rfl d_X8_wouldSwap_103 ?_
              refine zg_getR d_X8_wouldSwap_104 zc_8 (by decide) fl_X8_96 (fun v27 => ?_)
              refine zg_iload 0 rfl d_X8_wouldSwap_107 ?_
              refine zg_ald0 d_X8_wouldSwap_109 (fun v28 => ?_)
              refine zg_aload_n 2 rfl d_X8_wouldSwap_110 ?_
              refine zg_getR d_X8_wouldSwap_111 zc_8 (by decide) fl_X8_81 (fun v29 => ?_)
              refine zg_iload_n 4 rfl d_X8_wouldSwap_114 ?_
              refine zg_ald0 d_X8_wouldSwap_115 (fun v30 => ?_)
              refine zg_cSi (As := [.int v28, .int v30]) (rest := [.int v26]) (0, 0) d_X8_wouldSwap_116 cw_X8_360 wt_X8_farOf rfl rfl (Nat.le_of_ble_eq_true rfl) (by decide) (by decide) ⟨by decide, by decide⟩ rfl (t_X8_farOf v28 v30 h25) (fun v32 h31 => ?_)
              refine zg_icmp_ge d_X8_wouldSwap_119 ?_ ?_
              · refine zg_iconst 0 rfl d_X8_wouldSwap_126 ?_
                exact zg_zretK d_X8_wouldSwap_127 rfl ⟨Nat.le_of_ble_eq_true rfl, Nat.le_of_ble_eq_true rfl⟩ (Or.inl rfl) (fun q => q)
              · refine zg_iconst 1 rfl d_X8_wouldSwap_122 ?_
                refine zg_goto d_X8_wouldSwap_123 ?_
                exact zg_zretK d_X8_wouldSwap_127 rfl ⟨Nat.le_of_ble_eq_true rfl, Nat.le_of_ble_eq_true rfl⟩ (Or.inr rfl) (fun q => q)
abbrev M_X8_swapOf : zMt := (RX8, cX8_swapOf, 5, 3, 106, (some .int), "swapOf", 0, 0)
theorem d_X8_swapOf_0 : zDc M_X8_swapOf 0 (.iconst 0) 1 1 := ⟨by decide +kernel, rfl⟩
theorem d_X8_swapOf_1 : zDc M_X8_swapOf 1 (.istore_n 2) 1 2 := ⟨by decide +kernel, rfl⟩
theorem d_X8_swapOf_2 : zDc M_X8_swapOf 2 (.iconst 0) 1 3 := ⟨by decide +kernel, rfl⟩
theorem d_X8_swapOf_3 : zDc M_X8_swapOf 3 (.istore_n 3) 1 4 := ⟨by decide +kernel, rfl⟩
theorem d_X8_swapOf_4 : zDc M_X8_swapOf 4 (.iload_n 3) 1 5 := ⟨by decide +kernel, rfl⟩
theorem d_X8_swapOf_5 : zDc M_X8_swapOf 5 (.aload_n 0) 1 6 := ⟨by decide +kernel, rfl⟩
theorem d_X8_swapOf_6 : zDc M_X8_swapOf 6 (.getfield 13) 3 9 := ⟨by decide +kernel, rfl⟩
theorem d_X8_swapOf_9 : zDc M_X8_swapOf 9 (.iconst 1) 1 10 := ⟨by decide +kernel, rfl⟩
theorem d_X8_swapOf_10 : zDc M_X8_swapOf 10 (.iaload) 1 11 := ⟨by decide +kernel, rfl⟩
theorem d_X8_swapOf_11 : zDj M_X8_swapOf 11 (.if_icmp .ge 60) 60 14 71 := ⟨by decide +kernel, rfl, by decide⟩
theorem d_X8_swapOf_14 : zDc M_X8_swapOf 14 (.iload_n 3) 1 15 := ⟨by decide +kernel, rfl⟩
theorem d_X8_swapOf_15 : zDc M_X8_swapOf 15 (.iconst 1) 1 16 := ⟨by decide +kernel, rfl⟩
theorem d_X8_swapOf_16 : zDc M_X8_swapOf 16 (.iadd) 1 17 := ⟨by decide +kernel, rfl⟩
theorem d_X8_swapOf_17 : zDc M_X8_swapOf 17 (.istore 4) 2 19 := ⟨by decide +kernel, rfl⟩
theorem d_X8_swapOf_19 : zDc M_X8_swapOf 19 (.iload 4) 2 21 := ⟨by decide +kernel, rfl⟩
theorem d_X8_swapOf_21 : zDc M_X8_swapOf 21 (.aload_n 0) 1 22 := ⟨by decide +kernel, rfl⟩
theorem d_X8_swapOf_22 : zDc M_X8_swapOf 22 (.getfield 13) 3 25 := ⟨by decide +kernel, rfl⟩
theorem d_X8_swapOf_25 : zDc M_X8_swapOf 25 (.iconst 1) 1 26 := ⟨by decide +kernel, rfl⟩
theorem d_X8_swapOf_26 : zDc M_X8_swapOf 26 (.iaload) 1 27 := ⟨by decide +kernel, rfl⟩
theorem d_X8_swapOf_27 : zDj M_X8_swapOf 27 (.if_icmp .ge 38) 38 30 65 := ⟨by decide +kernel, rfl, by decide⟩
theorem d_X8_swapOf_30 : zDc M_X8_swapOf 30 (.aload_n 0) 1 31 := ⟨by decide +kernel, rfl⟩
theorem d_X8_swapOf_31 : zDc M_X8_swapOf 31 (.iload_n 3) 1 32 := ⟨by decide +kernel, rfl⟩
theorem d_X8_swapOf_32 : zDc M_X8_swapOf 32 (.iload 4) 2 34 := ⟨by decide +kernel, rfl⟩
theorem d_X8_swapOf_34 : zDc M_X8_swapOf 34 (.invokevirtual 471) 3 37 := ⟨by decide +kernel, rfl⟩
theorem d_X8_swapOf_37 : zDj M_X8_swapOf 37 (.ifCond .ne 6) 6 40 43 := ⟨by decide +kernel, rfl, by decide⟩
theorem d_X8_swapOf_40 : zDj M_X8_swapOf 40 (.goto 19) 19 43 59 := ⟨by decide +kernel, rfl, by decide⟩
theorem d_X8_swapOf_43 : zDc M_X8_swapOf 43 (.iload_n 2) 1 44 := ⟨by decide +kernel, rfl⟩
theorem d_X8_swapOf_44 : zDc M_X8_swapOf 44 (.iload_n 1) 1 45 := ⟨by decide +kernel, rfl⟩
theorem d_X8_swapOf_45 : zDj M_X8_swapOf 45 (.if_icmp .ne 11) 11 48 56 := ⟨by decide +kernel, rfl, by decide⟩
theorem d_X8_swapOf_48 : zDc M_X8_swapOf 48 (.bipush 10) 2 50 := ⟨by decide +kernel, rfl⟩
theorem d_X8_swapOf_50 : zDc M_X8_swapOf 50 (.iload_n 3) 1 51 := ⟨by decide +kernel, rfl⟩
theorem d_X8_swapOf_51 : zDc M_X8_swapOf 51 (.imul) 1 52 := ⟨by decide +kernel, rfl⟩
theorem d_X8_swapOf_52 : zDc M_X8_swapOf 52 (.iload 4) 2 54 := ⟨by decide +kernel, rfl⟩
theorem d_X8_swapOf_54 : zDc M_X8_swapOf 54 (.iadd) 1 55 := ⟨by decide +kernel, rfl⟩
theorem d_X8_swapOf_55 : zDc M_X8_swapOf 55 (.ireturn) 1 56 := ⟨by decide +kernel, rfl⟩
theorem d_X8_swapOf_56 : zDc M_X8_swapOf 56 (.iinc 2 1) 3 59 := ⟨by decide +kernel, rfl⟩
theorem d_X8_swapOf_59 : zDc M_X8_swapOf 59 (.iinc 4 1) 3 62 := ⟨by decide +kernel, rfl⟩
theorem d_X8_swapOf_62 : zDj M_X8_swapOf 62 (.goto (-43)) (-43) 65 19 := ⟨by decide +kernel, rfl, by decide⟩
theorem d_X8_swapOf_65 : zDc M_X8_swapOf 65 (.iinc 3 1) 3 68 := ⟨by decide +kernel, rfl⟩
theorem d_X8_swapOf_68 : zDj M_X8_swapOf 68 (.goto (-64)) (-64) 71 4 := ⟨by decide +kernel, rfl, by decide⟩
theorem d_X8_swapOf_71 : zDc M_X8_swapOf 71 (.iload_n 1) 1 72 := ⟨by decide +kernel, rfl⟩
theorem d_X8_swapOf_72 : zDc M_X8_swapOf 72 (.iconst (-1)) 1 73 := ⟨by decide +kernel, rfl⟩
theorem d_X8_swapOf_73 : zDj M_X8_swapOf 73 (.if_icmp .ne 7) 7 76 80 := ⟨by decide +kernel, rfl, by decide⟩
theorem d_X8_swapOf_76 : zDc M_X8_swapOf 76 (.iload_n 2) 1 77 := ⟨by decide +kernel, rfl⟩
theorem d_X8_swapOf_77 : zDj M_X8_swapOf 77 (.goto 5) 5 80 82 := ⟨by decide +kernel, rfl, by decide⟩
theorem d_X8_swapOf_80 : zDc M_X8_swapOf 80 (.bipush (-2)) 2 82 := ⟨by decide +kernel, rfl⟩
theorem d_X8_swapOf_82 : zDc M_X8_swapOf 82 (.ireturn) 1 83 := ⟨by decide +kernel, rfl⟩
def f_X8_swapOf (a0 : Nat) (a1 : Int32) (h0 : zHp) : Option (Int32 × zHp) :=
  zbd (
  zlp (σ := (Int32 × Int32)) (β := ((Int32 × Int32) ⊕ Int32)) zLF (fun s1 h2 =>
  zob (zgR h2 a0 8 3) (fun v5 =>
  zob (zaI 0 h2 v5 1) (fun v6 =>
  if v6 ≤ s1.2 then
  some ((.inr (.inl (s1.1, s1.2))), h2)
  else
  zbd (
  zlp (σ := (Int32 × Int32)) (β := ((Int32 × Int32) ⊕ ((Int32 × Int32) ⊕ ((Int32 × Int32) ⊕ Int32)))) zLF (fun s7 h8 =>
  zob (zgR h8 a0 8 3) (fun v11 =>
  zob (zaI 0 h8 v11 1) (fun v12 =>
  if v12 ≤ s7.2 then
  some ((.inr (.inl (s7.1, s7.2))), h8)
  else
  zbd (zcv 8 a0 h8 (f_X8_wouldSwap a0 s1.2 s7.2 h8)) (fun v14 h13 =>
  if v14 = 0 then
  some ((.inl (s7.1, (s7.2 + 1))), h13)
  else
  if s7.1 = a1 then
  some ((.inr (.inr (.inr (.inr ((10 * s1.2) + s7.2))))), h13)
  else
  some ((.inl ((s7.1 + 1), (s7.2 + 1))), h13))))) (s1.1, (s1.2 + 1)) h2) (fun b15 h10 => zsl b15 (fun e9 =>
  some ((.inl (e9.1, (s1.2 + 1))), h10)) (fun r => some (r, h10)))))) (0, 0) h0) (fun b16 h4 => zsl b16 (fun e3 =>
  if a1 = (-1) then
  some (e3.1, h4)
  else
  some ((-2), h4)) (fun r => some (r, h4)))
set_option maxRecDepth 100000 in
set_option maxHeartbeats 4000000 in
theorem t_X8_swapOf (a0 : Nat) (a1 : Int32) (h0 : zHp) : ∀ (r : Int32) (h' : zHp), f_X8_swapOf a0 a1 h0 = some (r, h') → zCt yX8_swapOf (.code yX8_swapOf cX8_swapOf 5 (some .int)) 3 106 0 0 [.ref a0, .int a1] h0 (some (.int r)) h' := by
  refine zct_of M_X8_swapOf yX8_swapOf (by decide) rfl rfl [.ref a0, .int a1] h0 (Nat.le_of_ble_eq_true rfl) (fun r => some (.int r)) (fun X => ?_)
  show zG X M_X8_swapOf (0, 0) 0 [(0, .ref a0), (1, .int a1)] [] h0 (f_X8_swapOf a0 a1 h0) (fun (r : Int32) h' => zKe X (some (.int r)) h')
  unfold f_X8_swapOf
  refine zg_iconst 0 rfl d_X8_swapOf_0 ?_
  refine zg_istore_n [(2, .int 0), (0, .ref a0), (1, .int a1)] d_X8_swapOf_1 rfl (by decide) rfl ?_
  refine zg_iconst 0 rfl d_X8_swapOf_2 ?_
  refine zg_istore_n [(3, .int 0), (2, .int 0), (0, .ref a0), (1, .int a1)] d_X8_swapOf_3 rfl (by decide) rfl ?_
  refine zg_bdr (E := 71) (el := (fun (e3 : (Int32 × Int32)) => [(0, .ref a0), (1, .int a1), (2, .int e3.1), (3, .int e3.2)])) (es := fun _ => []) (zg_sub [2, 3, 1, 0] rfl (zg_lp (el := (fun (s1 : (Int32 × Int32)) => [(0, .ref a0), (1, .int a1), (2, .int s1.1), (3, .int s1.2)])) (fun s1 h2 => ?_) (0, 0) h0)) (fun e3 h4 => ?_)
  · refine zg_iload_n 3 rfl d_X8_swapOf_4 ?_
    refine zg_aload_n 0 rfl d_X8_swapOf_5 ?_
    refine zg_getR d_X8_swapOf_6 zc_8 (by decide) fl_X8_13 (fun v5 => ?_)
    refine zg_iconst 1 rfl d_X8_swapOf_9 ?_
    refine zg_ald0 d_X8_swapOf_10 (fun v6 => ?_)
    refine zg_icmp_ge d_X8_swapOf_11 ?_ ?_
    · exact zg_finK (E := 0) [0, 1, 2, 3] rfl rfl (fun q => q)
    · refine zg_iload_n 3 rfl d_X8_swapOf_14 ?_
      refine zg_iconst 1 rfl d_X8_swapOf_15 ?_
      refine zg_iadd d_X8_swapOf_16 ?_
      refine zg_istore [(4, .int (s1.2 + 1)), (0, .ref a0), (1, .int a1), (2, .int s1.1), (3, .int s1.2)] d_X8_swapOf_17 (by decide) rfl ?_
      refine zg_bdr (E := 65) (el := (fun (e9 : (Int32 × Int32)) => [(0, .ref a0), (1, .int a1), (2, .int e9.1), (3, .int s1.2), (4, .int e9.2)])) (es := fun _ => []) (zg_sub [1, 2, 3, 4, 0] rfl (zg_lp (el := (fun (s7 : (Int32 × Int32)) => [(0, .ref a0), (1, .int a1), (2, .int s7.1), (3, .int s1.2), (4, .int s7.2)])) (fun s7 h8 => ?_) (s1.1, (s1.2 + 1)) h2)) (fun e9 h10 => ?_)
      · refine zg_iload 4 rfl d_X8_swapOf_19 ?_
        refine zg_aload_n 0 rfl d_X8_swapOf_21 ?_
        refine zg_getR d_X8_swapOf_22 zc_8 (by decide) fl_X8_13 (fun v11 => ?_)
        refine zg_iconst 1 rfl d_X8_swapOf_25 ?_
        refine zg_ald0 d_X8_swapOf_26 (fun v12 => ?_)
        refine zg_icmp_ge d_X8_swapOf_27 ?_ ?_
        · exact zg_finK (E := 0) [0, 1, 2, 3, 4] rfl rfl (fun q => q)
        · refine zg_aload_n 0 rfl d_X8_swapOf_30 ?_
          refine zg_iload_n 3 rfl d_X8_swapOf_31 ?_
          refine zg_iload 4 rfl d_X8_swapOf_32 ?_
          refine zg_cVi (b := a0) (As := [.int s1.2, .int s7.2]) (rest := []) (0, 0) d_X8_swapOf_34 zc_8 rfl cw_X8_471 wi_X8_wouldSwap ws_X8_wouldSwap rfl rfl (Nat.le_of_ble_eq_true rfl) (by decide) (by decide) ⟨by decide, by decide⟩ rfl (t_X8_wouldSwap a0 s1.2 s7.2 h8) (fun v14 h13 => ?_)
          refine zg_if_ne d_X8_swapOf_37 ?_ ?_
          · refine zg_goto d_X8_swapOf_40 ?_
            refine zg_iinc 4 (s7.2 + 1) [(4, .int (s7.2 + 1)), (0, .ref a0), (1, .int a1), (2, .int s7.1), (3, .int s1.2)] d_X8_swapOf_59 rfl rfl (by decide) rfl ?_
            refine zg_goto d_X8_swapOf_62 ?_
            exact zg_finK (E := 0) [1, 2, 3, 4, 0] rfl rfl (fun q => q)
          · refine zg_iload_n 2 rfl d_X8_swapOf_43 ?_
            refine zg_iload_n 1 rfl d_X8_swapOf_44 ?_
            refine zg_icmp_ne d_X8_swapOf_45 ?_ ?_
            · refine zg_bipush 10 rfl d_X8_swapOf_48 ?_
              refine zg_iload_n 3 rfl d_X8_swapOf_50 ?_
              refine zg_imul d_X8_swapOf_51 ?_
              refine zg_iload 4 rfl d_X8_swapOf_52 ?_
              refine zg_iadd d_X8_swapOf_54 ?_
              exact zg_iretK d_X8_swapOf_55 rfl ⟨Nat.le_of_ble_eq_true rfl, Nat.le_of_ble_eq_true rfl⟩ (fun q => q)
            · refine zg_iinc 2 (s7.1 + 1) [(2, .int (s7.1 + 1)), (0, .ref a0), (1, .int a1), (3, .int s1.2), (4, .int s7.2)] d_X8_swapOf_56 rfl rfl (by decide) rfl ?_
              refine zg_iinc 4 (s7.2 + 1) [(4, .int (s7.2 + 1)), (2, .int (s7.1 + 1)), (0, .ref a0), (1, .int a1), (3, .int s1.2)] d_X8_swapOf_59 rfl rfl (by decide) rfl ?_
              refine zg_goto d_X8_swapOf_62 ?_
              exact zg_finK (E := 0) [2, 3, 1, 4, 0] rfl rfl (fun q => q)
      · refine zg_iinc 3 (s1.2 + 1) [(3, .int (s1.2 + 1)), (0, .ref a0), (1, .int a1), (2, .int e9.1), (4, .int e9.2)] d_X8_swapOf_65 rfl rfl (by decide) rfl ?_
        refine zg_goto d_X8_swapOf_68 ?_
        exact zg_finK (E := 0) [1, 2, 3, 0] rfl rfl (fun q => q)
  · refine zg_iload_n 1 rfl d_X8_swapOf_71 ?_
    refine zg_iconst (-1) rfl d_X8_swapOf_72 ?_
    refine zg_icmp_ne d_X8_swapOf_73 ?_ ?_
    · refine zg_iload_n 2 rfl d_X8_swapOf_76 ?_
      refine zg_goto d_X8_swapOf_77 ?_
      exact zg_iretK d_X8_swapOf_82 rfl ⟨Nat.le_of_ble_eq_true rfl, Nat.le_of_ble_eq_true rfl⟩ (fun q => q)
    · refine zg_bipush (-2) rfl d_X8_swapOf_80 ?_
      exact zg_iretK d_X8_swapOf_82 rfl ⟨Nat.le_of_ble_eq_true rfl, Nat.le_of_ble_eq_true rfl⟩ (fun q => q)
abbrev M_X8_swap : zMt := (RX8, cX8_swap, 2, 4, 130, (some .int), "swap", 0, 0)
theorem d_X8_swap_0 : zDc M_X8_swap 0 (.aload_n 0) 1 1 := ⟨by decide +kernel, rfl⟩
theorem d_X8_swap_1 : zDc M_X8_swap 1 (.iconst 0) 1 2 := ⟨by decide +kernel, rfl⟩
theorem d_X8_swap_2 : zDc M_X8_swap 2 (.putfield 151) 3 5 := ⟨by decide +kernel, rfl⟩
theorem d_X8_swap_5 : zDc M_X8_swap 5 (.iload_n 1) 1 6 := ⟨by decide +kernel, rfl⟩
theorem d_X8_swap_6 : zDj M_X8_swap 6 (.ifCond .ge 7) 7 9 13 := ⟨by decide +kernel, rfl, by decide⟩
theorem d_X8_swap_9 : zDc M_X8_swap 9 (.iconst (-1)) 1 10 := ⟨by decide +kernel, rfl⟩
theorem d_X8_swap_10 : zDj M_X8_swap 10 (.goto 8) 8 13 18 := ⟨by decide +kernel, rfl, by decide⟩
theorem d_X8_swap_13 : zDc M_X8_swap 13 (.aload_n 0) 1 14 := ⟨by decide +kernel, rfl⟩
theorem d_X8_swap_14 : zDc M_X8_swap 14 (.iload_n 1) 1 15 := ⟨by decide +kernel, rfl⟩
theorem d_X8_swap_15 : zDc M_X8_swap 15 (.invokevirtual 474) 3 18 := ⟨by decide +kernel, rfl⟩
theorem d_X8_swap_18 : zDc M_X8_swap 18 (.ireturn) 1 19 := ⟨by decide +kernel, rfl⟩
def f_X8_swap (a0 : Nat) (a1 : Int32) (h0 : zHp) : Option (Int32 × zHp) :=
  zob (zpV h0 a0 8 0 (.int 0)) (fun h1 =>
  if 0 ≤ a1 then
  zbd (zcv 8 a0 h1 (f_X8_swapOf a0 a1 h1)) (fun v3 h2 =>
  some (v3, h2))
  else
  some ((-1), h1))
set_option maxRecDepth 100000 in
set_option maxHeartbeats 4000000 in
theorem t_X8_swap (a0 : Nat) (a1 : Int32) (h0 : zHp) : ∀ (r : Int32) (h' : zHp), f_X8_swap a0 a1 h0 = some (r, h') → zCt yX8_swap (.code yX8_swap cX8_swap 2 (some .int)) 4 130 0 0 [.ref a0, .int a1] h0 (some (.int r)) h' := by
  refine zct_of M_X8_swap yX8_swap (by decide) rfl rfl [.ref a0, .int a1] h0 (Nat.le_of_ble_eq_true rfl) (fun r => some (.int r)) (fun X => ?_)
  show zG X M_X8_swap (0, 0) 0 [(0, .ref a0), (1, .int a1)] [] h0 (f_X8_swap a0 a1 h0) (fun (r : Int32) h' => zKe X (some (.int r)) h')
  unfold f_X8_swap
  refine zg_aload_n 0 rfl d_X8_swap_0 ?_
  refine zg_iconst 0 rfl d_X8_swap_1 ?_
  refine zg_putV d_X8_swap_2 zc_8 (by decide) fl_X8_151 rfl rfl rfl (fun h1 => ?_)
  refine zg_iload_n 1 rfl d_X8_swap_5 ?_
  refine zg_if_ge d_X8_swap_6 ?_ ?_
  · refine zg_aload_n 0 rfl d_X8_swap_13 ?_
    refine zg_iload_n 1 rfl d_X8_swap_14 ?_
    refine zg_cVi (b := a0) (As := [.int a1]) (rest := []) (0, 0) d_X8_swap_15 zc_8 rfl cw_X8_474 wi_X8_swapOf ws_X8_swapOf rfl rfl (Nat.le_of_ble_eq_true rfl) (by decide) (by decide) ⟨by decide, by decide⟩ rfl (t_X8_swapOf a0 a1 h1) (fun v3 h2 => ?_)
    exact zg_iretK d_X8_swap_18 rfl ⟨Nat.le_of_ble_eq_true rfl, Nat.le_of_ble_eq_true rfl⟩ (fun q => q)
  · refine zg_iconst (-1) rfl d_X8_swap_9 ?_
    refine zg_goto d_X8_swap_10 ?_
    exact zg_iretK d_X8_swap_18 rfl ⟨Nat.le_of_ble_eq_true rfl, Nat.le_of_ble_eq_true rfl⟩ (fun q => q)
abbrev M_X8_swaps : zMt := (RX8, cX8_swaps, 1, 4, 130, (some .int), "swaps", 0, 0)
theorem d_X8_swaps_0 : zDc M_X8_swaps 0 (.aload_n 0) 1 1 := ⟨by decide +kernel, rfl⟩
theorem d_X8_swaps_1 : zDc M_X8_swaps 1 (.iconst 0) 1 2 := ⟨by decide +kernel, rfl⟩
theorem d_X8_swaps_2 : zDc M_X8_swaps 2 (.putfield 151) 3 5 := ⟨by decide +kernel, rfl⟩
theorem d_X8_swaps_5 : zDc M_X8_swaps 5 (.aload_n 0) 1 6 := ⟨by decide +kernel, rfl⟩
theorem d_X8_swaps_6 : zDc M_X8_swaps 6 (.iconst (-1)) 1 7 := ⟨by decide +kernel, rfl⟩
theorem d_X8_swaps_7 : zDc M_X8_swaps 7 (.invokevirtual 474) 3 10 := ⟨by decide +kernel, rfl⟩
theorem d_X8_swaps_10 : zDc M_X8_swaps 10 (.ireturn) 1 11 := ⟨by decide +kernel, rfl⟩
def f_X8_swaps (a0 : Nat) (h0 : zHp) : Option (Int32 × zHp) :=
  zob (zpV h0 a0 8 0 (.int 0)) (fun h1 =>
  zbd (zcv 8 a0 h1 (f_X8_swapOf a0 (-1) h1)) (fun v3 h2 =>
  some (v3, h2)))
set_option maxRecDepth 100000 in
set_option maxHeartbeats 4000000 in
theorem t_X8_swaps (a0 : Nat) (h0 : zHp) : ∀ (r : Int32) (h' : zHp), f_X8_swaps a0 h0 = some (r, h') → zCt yX8_swaps (.code yX8_swaps cX8_swaps 1 (some .int)) 4 130 0 0 [.ref a0] h0 (some (.int r)) h' := by
  refine zct_of M_X8_swaps yX8_swaps (by decide) rfl rfl [.ref a0] h0 (Nat.le_of_ble_eq_true rfl) (fun r => some (.int r)) (fun X => ?_)
  show zG X M_X8_swaps (0, 0) 0 [(0, .ref a0)] [] h0 (f_X8_swaps a0 h0) (fun (r : Int32) h' => zKe X (some (.int r)) h')
  unfold f_X8_swaps
  refine zg_aload_n 0 rfl d_X8_swaps_0 ?_
  refine zg_iconst 0 rfl d_X8_swaps_1 ?_
  refine zg_putV d_X8_swaps_2 zc_8 (by decide) fl_X8_151 rfl rfl rfl (fun h1 => ?_)
  refine zg_aload_n 0 rfl d_X8_swaps_5 ?_
  refine zg_iconst (-1) rfl d_X8_swaps_6 ?_
  refine zg_cVi (b := a0) (As := [.int (-1)]) (rest := []) (0, 0) d_X8_swaps_7 zc_8 rfl cw_X8_474 wi_X8_swapOf ws_X8_swapOf rfl rfl (Nat.le_of_ble_eq_true rfl) (by decide) (by decide) ⟨by decide, by decide⟩ rfl (t_X8_swapOf a0 (-1) h1) (fun v3 h2 => ?_)
  exact zg_iretK d_X8_swaps_10 rfl ⟨Nat.le_of_ble_eq_true rfl, Nat.le_of_ble_eq_true rfl⟩ (fun q => q)
abbrev M_X8_thrown : zMt := (RX8, cX8_thrown, 1, 1, 60, (some .int), "thrown", 0, 0)
theorem d_X8_thrown_0 : zDc M_X8_thrown 0 (.aload_n 0) 1 1 := ⟨by decide +kernel, rfl⟩
theorem d_X8_thrown_1 : zDc M_X8_thrown 1 (.getfield 151) 3 4 := ⟨by decide +kernel, rfl⟩
theorem d_X8_thrown_4 : zDc M_X8_thrown 4 (.ireturn) 1 5 := ⟨by decide +kernel, rfl⟩
def f_X8_thrown (a0 : Nat) (h0 : zHp) : Option (Int32 × zHp) :=
  zob (zgI h0 a0 8 0) (fun v1 =>
  some (v1, h0))
set_option maxRecDepth 100000 in
set_option maxHeartbeats 4000000 in
theorem t_X8_thrown (a0 : Nat) (h0 : zHp) : ∀ (r : Int32) (h' : zHp), f_X8_thrown a0 h0 = some (r, h') → zCt yX8_thrown (.code yX8_thrown cX8_thrown 1 (some .int)) 1 60 0 0 [.ref a0] h0 (some (.int r)) h' := by
  refine zct_of M_X8_thrown yX8_thrown (by decide) rfl rfl [.ref a0] h0 (Nat.le_of_ble_eq_true rfl) (fun r => some (.int r)) (fun X => ?_)
  show zG X M_X8_thrown (0, 0) 0 [(0, .ref a0)] [] h0 (f_X8_thrown a0 h0) (fun (r : Int32) h' => zKe X (some (.int r)) h')
  unfold f_X8_thrown
  refine zg_aload_n 0 rfl d_X8_thrown_0 ?_
  refine zg_getI d_X8_thrown_1 zc_8 (by decide) fl_X8_151 (fun v1 => ?_)
  exact zg_iretK d_X8_thrown_4 rfl ⟨Nat.le_of_ble_eq_true rfl, Nat.le_of_ble_eq_true rfl⟩ (fun q => q)
abbrev M_X8_undo : zMt := (RX8, cX8_undo, 1, 2, 85, (some .int), "undo", 0, 0)
theorem d_X8_undo_0 : zDc M_X8_undo 0 (.aload_n 0) 1 1 := ⟨by decide +kernel, rfl⟩
theorem d_X8_undo_1 : zDc M_X8_undo 1 (.iconst 0) 1 2 := ⟨by decide +kernel, rfl⟩
theorem d_X8_undo_2 : zDc M_X8_undo 2 (.putfield 151) 3 5 := ⟨by decide +kernel, rfl⟩
theorem d_X8_undo_5 : zDc M_X8_undo 5 (.aload_n 0) 1 6 := ⟨by decide +kernel, rfl⟩
theorem d_X8_undo_6 : zDc M_X8_undo 6 (.getfield 311) 3 9 := ⟨by decide +kernel, rfl⟩
theorem d_X8_undo_9 : zDj M_X8_undo 9 (.ifCond .ne 5) 5 12 14 := ⟨by decide +kernel, rfl, by decide⟩
theorem d_X8_undo_12 : zDc M_X8_undo 12 (.iconst (-1)) 1 13 := ⟨by decide +kernel, rfl⟩
theorem d_X8_undo_13 : zDc M_X8_undo 13 (.ireturn) 1 14 := ⟨by decide +kernel, rfl⟩
theorem d_X8_undo_14 : zDc M_X8_undo 14 (.aload_n 0) 1 15 := ⟨by decide +kernel, rfl⟩
theorem d_X8_undo_15 : zDc M_X8_undo 15 (.dup) 1 16 := ⟨by decide +kernel, rfl⟩
theorem d_X8_undo_16 : zDc M_X8_undo 16 (.getfield 311) 3 19 := ⟨by decide +kernel, rfl⟩
theorem d_X8_undo_19 : zDc M_X8_undo 19 (.iconst 1) 1 20 := ⟨by decide +kernel, rfl⟩
theorem d_X8_undo_20 : zDc M_X8_undo 20 (.isub) 1 21 := ⟨by decide +kernel, rfl⟩
theorem d_X8_undo_21 : zDc M_X8_undo 21 (.putfield 311) 3 24 := ⟨by decide +kernel, rfl⟩
theorem d_X8_undo_24 : zDc M_X8_undo 24 (.aload_n 0) 1 25 := ⟨by decide +kernel, rfl⟩
theorem d_X8_undo_25 : zDc M_X8_undo 25 (.iconst 0) 1 26 := ⟨by decide +kernel, rfl⟩
theorem d_X8_undo_26 : zDc M_X8_undo 26 (.iconst 3) 1 27 := ⟨by decide +kernel, rfl⟩
theorem d_X8_undo_27 : zDc M_X8_undo 27 (.aload_n 0) 1 28 := ⟨by decide +kernel, rfl⟩
theorem d_X8_undo_28 : zDc M_X8_undo 28 (.getfield 311) 3 31 := ⟨by decide +kernel, rfl⟩
theorem d_X8_undo_31 : zDc M_X8_undo 31 (.iadd) 1 32 := ⟨by decide +kernel, rfl⟩
theorem d_X8_undo_32 : zDc M_X8_undo 32 (.invokevirtual 416) 3 35 := ⟨by decide +kernel, rfl⟩
theorem d_X8_undo_35 : zDc M_X8_undo 35 (.aload_n 0) 1 36 := ⟨by decide +kernel, rfl⟩
theorem d_X8_undo_36 : zDc M_X8_undo 36 (.getfield 311) 3 39 := ⟨by decide +kernel, rfl⟩
theorem d_X8_undo_39 : zDc M_X8_undo 39 (.ireturn) 1 40 := ⟨by decide +kernel, rfl⟩
def f_X8_undo (a0 : Nat) (h0 : zHp) : Option (Int32 × zHp) :=
  zob (zpV h0 a0 8 0 (.int 0)) (fun h1 =>
  zob (zgI h1 a0 8 48) (fun v2 =>
  if v2 = 0 then
  some ((-1), h1)
  else
  zob (zgI h1 a0 8 48) (fun v3 =>
  zob (zpV h1 a0 8 48 (.int (v3 - 1))) (fun h4 =>
  zob (zgI h4 a0 8 48) (fun v5 =>
  zbd (zcv 8 a0 h4 (f_X8_copies a0 0 (3 + v5) h4)) (fun v7 h6 =>
  zob (zgI h6 a0 8 48) (fun v8 =>
  some (v8, h6))))))))
set_option maxRecDepth 100000 in
set_option maxHeartbeats 4000000 in
theorem t_X8_undo (a0 : Nat) (h0 : zHp) : ∀ (r : Int32) (h' : zHp), f_X8_undo a0 h0 = some (r, h') → zCt yX8_undo (.code yX8_undo cX8_undo 1 (some .int)) 2 85 0 0 [.ref a0] h0 (some (.int r)) h' := by
  refine zct_of M_X8_undo yX8_undo (by decide) rfl rfl [.ref a0] h0 (Nat.le_of_ble_eq_true rfl) (fun r => some (.int r)) (fun X => ?_)
  show zG X M_X8_undo (0, 0) 0 [(0, .ref a0)] [] h0 (f_X8_undo a0 h0) (fun (r : Int32) h' => zKe X (some (.int r)) h')
  unfold f_X8_undo
  refine zg_aload_n 0 rfl d_X8_undo_0 ?_
  refine zg_iconst 0 rfl d_X8_undo_1 ?_
  refine zg_putV d_X8_undo_2 zc_8 (by decide) fl_X8_151 rfl rfl rfl (fun h1 => ?_)
  refine zg_aload_n 0 rfl d_X8_undo_5 ?_
  refine zg_getI d_X8_undo_6 zc_8 (by decide) fl_X8_311 (fun v2 => ?_)
  refine zg_if_ne d_X8_undo_9 ?_ ?_
  · refine zg_iconst (-1) rfl d_X8_undo_12 ?_
    exact zg_iretK d_X8_undo_13 rfl ⟨Nat.le_of_ble_eq_true rfl, Nat.le_of_ble_eq_true rfl⟩ (fun q => q)
  · refine zg_aload_n 0 rfl d_X8_undo_14 ?_
    refine zg_dup rfl d_X8_undo_15 ?_
    refine zg_getI d_X8_undo_16 zc_8 (by decide) fl_X8_311 (fun v3 => ?_)
    refine zg_iconst 1 rfl d_X8_undo_19 ?_
    refine zg_isub d_X8_undo_20 ?_
    refine zg_putV d_X8_undo_21 zc_8 (by decide) fl_X8_311 rfl rfl rfl (fun h4 => ?_)
    refine zg_aload_n 0 rfl d_X8_undo_24 ?_
    refine zg_iconst 0 rfl d_X8_undo_25 ?_
    refine zg_iconst 3 rfl d_X8_undo_26 ?_
    refine zg_aload_n 0 rfl d_X8_undo_27 ?_
    refine zg_getI d_X8_undo_28 zc_8 (by decide) fl_X8_311 (fun v5 => ?_)
    refine zg_iadd d_X8_undo_31 ?_
    refine zg_cVv (b := a0) (As := [.int 0, .int (3 + v5)]) (rest := []) (0, 0) d_X8_undo_32 zc_8 rfl cw_X8_416 wi_X8_copies ws_X8_copies rfl rfl (Nat.le_of_ble_eq_true rfl) (by decide) (by decide) ⟨by decide, by decide⟩ rfl (t_X8_copies a0 0 (3 + v5) h4) (fun v7 h6 => ?_)
    refine zg_aload_n 0 rfl d_X8_undo_35 ?_
    refine zg_getI d_X8_undo_36 zc_8 (by decide) fl_X8_311 (fun v8 => ?_)
    exact zg_iretK d_X8_undo_39 rfl ⟨Nat.le_of_ble_eq_true rfl, Nat.le_of_ble_eq_true rfl⟩ (fun q => q)
abbrev M_X8_whose : zMt := (RX8, cX8_whose, 5, 2, 81, (some .int), "whose", 0, 0)
theorem d_X8_whose_0 : zDc M_X8_whose 0 (.aload_n 0) 1 1 := ⟨by decide +kernel, rfl⟩
theorem d_X8_whose_1 : zDc M_X8_whose 1 (.iconst 0) 1 2 := ⟨by decide +kernel, rfl⟩
theorem d_X8_whose_2 : zDc M_X8_whose 2 (.putfield 151) 3 5 := ⟨by decide +kernel, rfl⟩
theorem d_X8_whose_5 : zDc M_X8_whose 5 (.aload_n 0) 1 6 := ⟨by decide +kernel, rfl⟩
theorem d_X8_whose_6 : zDc M_X8_whose 6 (.iload_n 1) 1 7 := ⟨by decide +kernel, rfl⟩
theorem d_X8_whose_7 : zDc M_X8_whose 7 (.invokevirtual 431) 3 10 := ⟨by decide +kernel, rfl⟩
theorem d_X8_whose_10 : zDj M_X8_whose 10 (.ifCond .ne 5) 5 13 15 := ⟨by decide +kernel, rfl, by decide⟩
theorem d_X8_whose_13 : zDc M_X8_whose 13 (.iconst (-1)) 1 14 := ⟨by decide +kernel, rfl⟩
theorem d_X8_whose_14 : zDc M_X8_whose 14 (.ireturn) 1 15 := ⟨by decide +kernel, rfl⟩
theorem d_X8_whose_15 : zDc M_X8_whose 15 (.bipush (-2)) 2 17 := ⟨by decide +kernel, rfl⟩
theorem d_X8_whose_17 : zDc M_X8_whose 17 (.istore_n 2) 1 18 := ⟨by decide +kernel, rfl⟩
theorem d_X8_whose_18 : zDc M_X8_whose 18 (.iconst 0) 1 19 := ⟨by decide +kernel, rfl⟩
theorem d_X8_whose_19 : zDc M_X8_whose 19 (.istore_n 3) 1 20 := ⟨by decide +kernel, rfl⟩
theorem d_X8_whose_20 : zDc M_X8_whose 20 (.iconst 0) 1 21 := ⟨by decide +kernel, rfl⟩
theorem d_X8_whose_21 : zDc M_X8_whose 21 (.istore 4) 2 23 := ⟨by decide +kernel, rfl⟩
theorem d_X8_whose_23 : zDc M_X8_whose 23 (.iload 4) 2 25 := ⟨by decide +kernel, rfl⟩
theorem d_X8_whose_25 : zDc M_X8_whose 25 (.aload_n 0) 1 26 := ⟨by decide +kernel, rfl⟩
theorem d_X8_whose_26 : zDc M_X8_whose 26 (.getfield 13) 3 29 := ⟨by decide +kernel, rfl⟩
theorem d_X8_whose_29 : zDc M_X8_whose 29 (.iconst 2) 1 30 := ⟨by decide +kernel, rfl⟩
theorem d_X8_whose_30 : zDc M_X8_whose 30 (.iaload) 1 31 := ⟨by decide +kernel, rfl⟩
theorem d_X8_whose_31 : zDj M_X8_whose 31 (.if_icmp .ge 44) 44 34 75 := ⟨by decide +kernel, rfl, by decide⟩
theorem d_X8_whose_34 : zDc M_X8_whose 34 (.aload_n 0) 1 35 := ⟨by decide +kernel, rfl⟩
theorem d_X8_whose_35 : zDc M_X8_whose 35 (.getfield 105) 3 38 := ⟨by decide +kernel, rfl⟩
theorem d_X8_whose_38 : zDc M_X8_whose 38 (.bipush 7) 2 40 := ⟨by decide +kernel, rfl⟩
theorem d_X8_whose_40 : zDc M_X8_whose 40 (.iload_n 1) 1 41 := ⟨by decide +kernel, rfl⟩
theorem d_X8_whose_41 : zDc M_X8_whose 41 (.imul) 1 42 := ⟨by decide +kernel, rfl⟩
theorem d_X8_whose_42 : zDc M_X8_whose 42 (.iload 4) 2 44 := ⟨by decide +kernel, rfl⟩
theorem d_X8_whose_44 : zDc M_X8_whose 44 (.iadd) 1 45 := ⟨by decide +kernel, rfl⟩
theorem d_X8_whose_45 : zDc M_X8_whose 45 (.iaload) 1 46 := ⟨by decide +kernel, rfl⟩
theorem d_X8_whose_46 : zDc M_X8_whose 46 (.iload_n 3) 1 47 := ⟨by decide +kernel, rfl⟩
theorem d_X8_whose_47 : zDj M_X8_whose 47 (.if_icmp .gt 6) 6 50 53 := ⟨by decide +kernel, rfl, by decide⟩
theorem d_X8_whose_50 : zDj M_X8_whose 50 (.goto 19) 19 53 69 := ⟨by decide +kernel, rfl, by decide⟩
theorem d_X8_whose_53 : zDc M_X8_whose 53 (.iload 4) 2 55 := ⟨by decide +kernel, rfl⟩
theorem d_X8_whose_55 : zDc M_X8_whose 55 (.istore_n 2) 1 56 := ⟨by decide +kernel, rfl⟩
theorem d_X8_whose_56 : zDc M_X8_whose 56 (.aload_n 0) 1 57 := ⟨by decide +kernel, rfl⟩
theorem d_X8_whose_57 : zDc M_X8_whose 57 (.getfield 105) 3 60 := ⟨by decide +kernel, rfl⟩
theorem d_X8_whose_60 : zDc M_X8_whose 60 (.bipush 7) 2 62 := ⟨by decide +kernel, rfl⟩
theorem d_X8_whose_62 : zDc M_X8_whose 62 (.iload_n 1) 1 63 := ⟨by decide +kernel, rfl⟩
theorem d_X8_whose_63 : zDc M_X8_whose 63 (.imul) 1 64 := ⟨by decide +kernel, rfl⟩
theorem d_X8_whose_64 : zDc M_X8_whose 64 (.iload 4) 2 66 := ⟨by decide +kernel, rfl⟩
theorem d_X8_whose_66 : zDc M_X8_whose 66 (.iadd) 1 67 := ⟨by decide +kernel, rfl⟩
theorem d_X8_whose_67 : zDc M_X8_whose 67 (.iaload) 1 68 := ⟨by decide +kernel, rfl⟩
theorem d_X8_whose_68 : zDc M_X8_whose 68 (.istore_n 3) 1 69 := ⟨by decide +kernel, rfl⟩
theorem d_X8_whose_69 : zDc M_X8_whose 69 (.iinc 4 1) 3 72 := ⟨by decide +kernel, rfl⟩
theorem d_X8_whose_72 : zDj M_X8_whose 72 (.goto (-49)) (-49) 75 23 := ⟨by decide +kernel, rfl, by decide⟩
theorem d_X8_whose_75 : zDc M_X8_whose 75 (.iload_n 2) 1 76 := ⟨by decide +kernel, rfl⟩
theorem d_X8_whose_76 : zDc M_X8_whose 76 (.ireturn) 1 77 := ⟨by decide +kernel, rfl⟩
def f_X8_whose (a0 : Nat) (a1 : Int32) (h0 : zHp) : Option (Int32 × zHp) :=
  zob (zpV h0 a0 8 0 (.int 0)) (fun h1 =>
  zbd (zcv 8 a0 h1 (f_X8_isField a0 a1 h1)) (fun v3 h2 =>
  if v3 = 0 then
  some ((-1), h2)
  else
  zbd (
  zlp (σ := (Int32 × Int32 × Int32)) (β := (Int32 × Int32 × Int32)) zLF (fun s4 h5 =>
  zob (zgR h5 a0 8 3) (fun v8 =>
  zob (zaI 0 h5 v8 2) (fun v9 =>
  if v9 ≤ s4.2.2 then
  some ((.inr (s4.1, s4.2.1, s4.2.2)), h5)
  else
  zob (zgR h5 a0 8 46) (fun v10 =>
  zob (zaI 0 h5 v10 ((7 * a1) + s4.2.2)) (fun v11 =>
  if s4.2.1 < v11 then
  zob (zgR h5 a0 8 46) (fun v12 =>
  zob (zaI 0 h5 v12 ((7 * a1) + s4.2.2)) (fun v13 =>
  some ((.inl (s4.2.2, v13, (s4.2.2 + 1))), h5)))
  else
  some ((.inl (s4.1, s4.2.1, (s4.2.2 + 1))), h5)))))) ((-2), 0, 0) h2) (fun e6 h7 =>
  some (e6.1, h7))))
set_option maxRecDepth 100000 in
set_option maxHeartbeats 4000000 in
theorem t_X8_whose (a0 : Nat) (a1 : Int32) (h0 : zHp) : ∀ (r : Int32) (h' : zHp), f_X8_whose a0 a1 h0 = some (r, h') → zCt yX8_whose (.code yX8_whose cX8_whose 5 (some .int)) 2 81 0 0 [.ref a0, .int a1] h0 (some (.int r)) h' := by
  refine zct_of M_X8_whose yX8_whose (by decide) rfl rfl [.ref a0, .int a1] h0 (Nat.le_of_ble_eq_true rfl) (fun r => some (.int r)) (fun X => ?_)
  show zG X M_X8_whose (0, 0) 0 [(0, .ref a0), (1, .int a1)] [] h0 (f_X8_whose a0 a1 h0) (fun (r : Int32) h' => zKe X (some (.int r)) h')
  unfold f_X8_whose
  refine zg_aload_n 0 rfl d_X8_whose_0 ?_
  refine zg_iconst 0 rfl d_X8_whose_1 ?_
  refine zg_putV d_X8_whose_2 zc_8 (by decide) fl_X8_151 rfl rfl rfl (fun h1 => ?_)
  refine zg_aload_n 0 rfl d_X8_whose_5 ?_
  refine zg_iload_n 1 rfl d_X8_whose_6 ?_
  refine zg_cVi (b := a0) (As := [.int a1]) (rest := []) (0, 0) d_X8_whose_7 zc_8 rfl cw_X8_431 wi_X8_isField ws_X8_isField rfl rfl (Nat.le_of_ble_eq_true rfl) (by decide) (by decide) ⟨by decide, by decide⟩ rfl (t_X8_isField a0 a1 h1) (fun v3 h2 => ?_)
  refine zg_if_ne d_X8_whose_10 ?_ ?_
  · refine zg_iconst (-1) rfl d_X8_whose_13 ?_
    exact zg_iretK d_X8_whose_14 rfl ⟨Nat.le_of_ble_eq_true rfl, Nat.le_of_ble_eq_true rfl⟩ (fun q => q)
  · refine zg_bipush (-2) rfl d_X8_whose_15 ?_
    refine zg_istore_n [(2, .int (-2)), (0, .ref a0), (1, .int a1)] d_X8_whose_17 rfl (by decide) rfl ?_
    refine zg_iconst 0 rfl d_X8_whose_18 ?_
    refine zg_istore_n [(3, .int 0), (2, .int (-2)), (0, .ref a0), (1, .int a1)] d_X8_whose_19 rfl (by decide) rfl ?_
    refine zg_iconst 0 rfl d_X8_whose_20 ?_
    refine zg_istore [(4, .int 0), (3, .int 0), (2, .int (-2)), (0, .ref a0), (1, .int a1)] d_X8_whose_21 (by decide) rfl ?_
    refine zg_bd (E := 75) (el := (fun (e6 : (Int32 × Int32 × Int32)) => [(0, .ref a0), (1, .int a1), (2, .int e6.1), (3, .int e6.2.1), (4, .int e6.2.2)])) (es := fun _ => []) (zg_sub [3, 4, 2, 1, 0] rfl (zg_lp (el := (fun (s4 : (Int32 × Int32 × Int32)) => [(0, .ref a0), (1, .int a1), (2, .int s4.1), (3, .int s4.2.1), (4, .int s4.2.2)])) (fun s4 h5 => ?_) ((-2), 0, 0) h2)) (fun e6 h7 => ?_)
    · refine zg_iload 4 rfl d_X8_whose_23 ?_
      refine zg_aload_n 0 rfl d_X8_whose_25 ?_
      refine zg_getR d_X8_whose_26 zc_8 (by decide) fl_X8_13 (fun v8 => ?_)
      refine zg_iconst 2 rfl d_X8_whose_29 ?_
      refine zg_ald0 d_X8_whose_30 (fun v9 => ?_)
      refine zg_icmp_ge d_X8_whose_31 ?_ ?_
      · exact zg_finK (E := 0) [0, 1, 2, 3, 4] rfl rfl (fun q => q)
      · refine zg_aload_n 0 rfl d_X8_whose_34 ?_
        refine zg_getR d_X8_whose_35 zc_8 (by decide) fl_X8_105 (fun v10 => ?_)
        refine zg_bipush 7 rfl d_X8_whose_38 ?_
        refine zg_iload_n 1 rfl d_X8_whose_40 ?_
        refine zg_imul d_X8_whose_41 ?_
        refine zg_iload 4 rfl d_X8_whose_42 ?_
        refine zg_iadd d_X8_whose_44 ?_
        refine zg_ald0 d_X8_whose_45 (fun v11 => ?_)
        refine zg_iload_n 3 rfl d_X8_whose_46 ?_
        refine zg_icmp_gt d_X8_whose_47 ?_ ?_
        · refine zg_iload 4 rfl d_X8_whose_53 ?_
          refine zg_istore_n [(2, .int s4.2.2), (0, .ref a0), (1, .int a1), (3, .int s4.2.1), (4, .int s4.2.2)] d_X8_whose_55 rfl (by decide) rfl ?_
          refine zg_aload_n 1 rfl d_X8_whose_56 ?_
          refine zg_getR d_X8_whose_57 zc_8 (by decide) fl_X8_105 (fun v12 => ?_)
          refine zg_bipush 7 rfl d_X8_whose_60 ?_
          refine zg_iload_n 2 rfl d_X8_whose_62 ?_
          refine zg_imul d_X8_whose_63 ?_
          refine zg_iload 4 rfl d_X8_whose_64 ?_
          refine zg_iadd d_X8_whose_66 ?_
          refine zg_ald0 d_X8_whose_67 (fun v13 => ?_)
          refine zg_istore_n [(3, .int v13), (2, .int s4.2.2), (0, .ref a0), (1, .int a1), (4, .int s4.2.2)] d_X8_whose_68 rfl (by decide) rfl ?_
          refine zg_iinc 4 (s4.2.2 + 1) [(4, .int (s4.2.2 + 1)), (3, .int v13), (2, .int s4.2.2), (0, .ref a0), (1, .int a1)] d_X8_whose_69 rfl rfl (by decide) rfl ?_
          refine zg_goto d_X8_whose_72 ?_
          exact zg_finK (E := 0) [3, 4, 2, 1, 0] rfl rfl (fun q => q)
        · refine zg_goto d_X8_whose_50 ?_
          refine zg_iinc 4 (s4.2.2 + 1) [(4, .int (s4.2.2 + 1)), (0, .ref a0), (1, .int a1), (2, .int s4.1), (3, .int s4.2.1)] d_X8_whose_69 rfl rfl (by decide) rfl ?_
          refine zg_goto d_X8_whose_72 ?_
          exact zg_finK (E := 0) [1, 2, 3, 4, 0] rfl rfl (fun q => q)
    · refine zg_iload_n 2 rfl d_X8_whose_75 ?_
      exact zg_iretK d_X8_whose_76 rfl ⟨Nat.le_of_ble_eq_true rfl, Nat.le_of_ble_eq_true rfl⟩ (fun q => q)

theorem fl_X8_232 : Cond.fieldLink RX8 232 (TX8 20).1 (TX8 20).2.1 (TX8 20).2.2.1 ∈ zT := zw_of _ 1379 (by decide +kernel) (by decide +kernel)
theorem ml_X8_229 : Cond.methodLink RX8 229 yX8_isFull ∈ zT := zw_of _ 1625 (by decide +kernel) (by decide +kernel)
theorem cd_X8_isFull : Cond.code yX8_isFull cX8_isFull 2 (some .boolean) ∈ zT := zw_of _ 1628 (by decide +kernel) (by decide +kernel)
theorem cw_X8_229 : zCw RX8 229 yX8_isFull cX8_isFull 2 (some .boolean) 1 := ⟨ml_X8_229, ni_X8, cd_X8_isFull, by decide, by decide, by decide +kernel⟩
theorem wi_X8_isFull : Cond.instanceMethod yX8_isFull ∈ zT := zw_of _ 1627 (by decide +kernel) (by decide +kernel)
theorem ws_X8_isFull : Cond.selects RX8 yX8_isFull yX8_isFull ∈ zT := zw_of _ 61 (by decide +kernel) (by decide +kernel)
theorem ml_X8_235 : Cond.methodLink RX8 235 yX8_groundLine ∈ zT := zw_of _ 1633 (by decide +kernel) (by decide +kernel)
theorem cd_X8_groundLine : Cond.code yX8_groundLine cX8_groundLine 3 none ∈ zT := zw_of _ 1636 (by decide +kernel) (by decide +kernel)
theorem cw_X8_235 : zCw RX8 235 yX8_groundLine cX8_groundLine 3 none 1 := ⟨ml_X8_235, ni_X8, cd_X8_groundLine, by decide, by decide, by decide +kernel⟩
theorem wi_X8_groundLine : Cond.instanceMethod yX8_groundLine ∈ zT := zw_of _ 1635 (by decide +kernel) (by decide +kernel)
theorem ws_X8_groundLine : Cond.selects RX8 yX8_groundLine yX8_groundLine ∈ zT := zw_of _ 63 (by decide +kernel) (by decide +kernel)
theorem ml_X8_238 : Cond.methodLink RX8 238 yX8_fresh ∈ zT := zw_of _ 1641 (by decide +kernel) (by decide +kernel)
theorem cd_X8_fresh : Cond.code yX8_fresh cX8_fresh 5 (some .int) ∈ zT := zw_of _ 1644 (by decide +kernel) (by decide +kernel)
theorem cw_X8_238 : zCw RX8 238 yX8_fresh cX8_fresh 5 (some .int) 3 := ⟨ml_X8_238, ni_X8, cd_X8_fresh, by decide, by decide, by decide +kernel⟩
theorem wi_X8_fresh : Cond.instanceMethod yX8_fresh ∈ zT := zw_of _ 1643 (by decide +kernel) (by decide +kernel)
theorem ws_X8_fresh : Cond.selects RX8 yX8_fresh yX8_fresh ∈ zT := zw_of _ 65 (by decide +kernel) (by decide +kernel)
theorem ml_X8_242 : Cond.methodLink RX8 242 yX8_cellAhead ∈ zT := zw_of _ 1648 (by decide +kernel) (by decide +kernel)
theorem cd_X8_cellAhead : Cond.code yX8_cellAhead cX8_cellAhead 2 (some .int) ∈ zT := zw_of _ 1651 (by decide +kernel) (by decide +kernel)
theorem cw_X8_242 : zCw RX8 242 yX8_cellAhead cX8_cellAhead 2 (some .int) 0 := ⟨ml_X8_242, ni_X8, cd_X8_cellAhead, by decide, by decide, by decide +kernel⟩
theorem wi_X8_cellAhead : Cond.instanceMethod yX8_cellAhead ∈ zT := zw_of _ 1650 (by decide +kernel) (by decide +kernel)
theorem ws_X8_cellAhead : Cond.selects RX8 yX8_cellAhead yX8_cellAhead ∈ zT := zw_of _ 66 (by decide +kernel) (by decide +kernel)
theorem ml_X8_249 : Cond.methodLink RX8 249 yX8_lawLine ∈ zT := zw_of _ 1652 (by decide +kernel) (by decide +kernel)
theorem cd_X8_lawLine : Cond.code yX8_lawLine cX8_lawLine 2 none ∈ zT := zw_of _ 1655 (by decide +kernel) (by decide +kernel)
theorem cw_X8_249 : zCw RX8 249 yX8_lawLine cX8_lawLine 2 none 0 := ⟨ml_X8_249, ni_X8, cd_X8_lawLine, by decide, by decide, by decide +kernel⟩
theorem wi_X8_lawLine : Cond.instanceMethod yX8_lawLine ∈ zT := zw_of _ 1654 (by decide +kernel) (by decide +kernel)
theorem ws_X8_lawLine : Cond.selects RX8 yX8_lawLine yX8_lawLine ∈ zT := zw_of _ 67 (by decide +kernel) (by decide +kernel)
theorem fl_X8_255 : Cond.fieldLink RX8 255 (TX8 21).1 (TX8 21).2.1 (TX8 21).2.2.1 ∈ zT := zw_of _ 1380 (by decide +kernel) (by decide +kernel)
theorem ml_X8_294 : Cond.methodLink RX8 294 yX8_line ∈ zT := zw_of _ 1617 (by decide +kernel) (by decide +kernel)
theorem cd_X8_line : Cond.code yX8_line cX8_line 5 none ∈ zT := zw_of _ 1620 (by decide +kernel) (by decide +kernel)
theorem cw_X8_294 : zCw RX8 294 yX8_line cX8_line 5 none 0 := ⟨ml_X8_294, ni_X8, cd_X8_line, by decide, by decide, by decide +kernel⟩
theorem wi_X8_line : Cond.instanceMethod yX8_line ∈ zT := zw_of _ 1619 (by decide +kernel) (by decide +kernel)
theorem ws_X8_line : Cond.selects RX8 yX8_line yX8_line ∈ zT := zw_of _ 59 (by decide +kernel) (by decide +kernel)
theorem ml_X8_300 : Cond.methodLink RX8 300 yX8_half ∈ zT := zw_of _ 1700 (by decide +kernel) (by decide +kernel)
theorem cd_X8_half : Cond.code yX8_half cX8_half 3 none ∈ zT := zw_of _ 1702 (by decide +kernel) (by decide +kernel)
theorem cw_X8_300 : zCw RX8 300 yX8_half cX8_half 3 none 1 := ⟨ml_X8_300, ni_X8, cd_X8_half, by decide, by decide, by decide +kernel⟩
theorem wt_X8_half : Cond.static yX8_half ∈ zT := zw_of _ 1701 (by decide +kernel) (by decide +kernel)
abbrev M_X8_lawLine : zMt := (RX8, cX8_lawLine, 2, 209, 4485, none, "lawLine", 0, 0)
theorem d_X8_lawLine_0 : zDc M_X8_lawLine 0 (.aload_n 0) 1 1 := ⟨by decide +kernel, rfl⟩
theorem d_X8_lawLine_1 : zDc M_X8_lawLine 1 (.getfield 170) 3 4 := ⟨by decide +kernel, rfl⟩
theorem d_X8_lawLine_4 : zDj M_X8_lawLine 4 (.ifCond .ne 21) 21 7 25 := ⟨by decide +kernel, rfl, by decide⟩
theorem d_X8_lawLine_7 : zDc M_X8_lawLine 7 (.aload_n 0) 1 8 := ⟨by decide +kernel, rfl⟩
theorem d_X8_lawLine_8 : zDc M_X8_lawLine 8 (.getfield 180) 3 11 := ⟨by decide +kernel, rfl⟩
theorem d_X8_lawLine_11 : zDc M_X8_lawLine 11 (.bipush 10) 2 13 := ⟨by decide +kernel, rfl⟩
theorem d_X8_lawLine_13 : zDj M_X8_lawLine 13 (.if_icmp .lt 12) 12 16 25 := ⟨by decide +kernel, rfl, by decide⟩
theorem d_X8_lawLine_16 : zDc M_X8_lawLine 16 (.aload_n 0) 1 17 := ⟨by decide +kernel, rfl⟩
theorem d_X8_lawLine_17 : zDc M_X8_lawLine 17 (.getfield 180) 3 20 := ⟨by decide +kernel, rfl⟩
theorem d_X8_lawLine_20 : zDc M_X8_lawLine 20 (.bipush 12) 2 22 := ⟨by decide +kernel, rfl⟩
theorem d_X8_lawLine_22 : zDj M_X8_lawLine 22 (.if_icmp .le 8) 8 25 30 := ⟨by decide +kernel, rfl, by decide⟩
theorem d_X8_lawLine_25 : zDc M_X8_lawLine 25 (.aload_n 0) 1 26 := ⟨by decide +kernel, rfl⟩
theorem d_X8_lawLine_26 : zDc M_X8_lawLine 26 (.iconst 1) 1 27 := ⟨by decide +kernel, rfl⟩
theorem d_X8_lawLine_27 : zDc M_X8_lawLine 27 (.invokevirtual 214) 3 30 := ⟨by decide +kernel, rfl⟩
theorem d_X8_lawLine_30 : zDc M_X8_lawLine 30 (.aload_n 0) 1 31 := ⟨by decide +kernel, rfl⟩
theorem d_X8_lawLine_31 : zDc M_X8_lawLine 31 (.getfield 180) 3 34 := ⟨by decide +kernel, rfl⟩
theorem d_X8_lawLine_34 : zDc M_X8_lawLine 34 (.bipush 10) 2 36 := ⟨by decide +kernel, rfl⟩
theorem d_X8_lawLine_36 : zDc M_X8_lawLine 36 (.isub) 1 37 := ⟨by decide +kernel, rfl⟩
theorem d_X8_lawLine_37 : zDc M_X8_lawLine 37 (.istore_n 1) 1 38 := ⟨by decide +kernel, rfl⟩
theorem d_X8_lawLine_38 : zDc M_X8_lawLine 38 (.aload_n 0) 1 39 := ⟨by decide +kernel, rfl⟩
theorem d_X8_lawLine_39 : zDc M_X8_lawLine 39 (.getfield 205) 3 42 := ⟨by decide +kernel, rfl⟩
theorem d_X8_lawLine_42 : zDj M_X8_lawLine 42 (.ifCond .ne 23) 23 45 65 := ⟨by decide +kernel, rfl, by decide⟩
theorem d_X8_lawLine_45 : zDc M_X8_lawLine 45 (.aload_n 0) 1 46 := ⟨by decide +kernel, rfl⟩
theorem d_X8_lawLine_46 : zDc M_X8_lawLine 46 (.getfield 232) 3 49 := ⟨by decide +kernel, rfl⟩
theorem d_X8_lawLine_49 : zDc M_X8_lawLine 49 (.bipush 16) 2 51 := ⟨by decide +kernel, rfl⟩
theorem d_X8_lawLine_51 : zDc M_X8_lawLine 51 (.iload_n 1) 1 52 := ⟨by decide +kernel, rfl⟩
theorem d_X8_lawLine_52 : zDc M_X8_lawLine 52 (.iadd) 1 53 := ⟨by decide +kernel, rfl⟩
theorem d_X8_lawLine_53 : zDc M_X8_lawLine 53 (.ishr) 1 54 := ⟨by decide +kernel, rfl⟩
theorem d_X8_lawLine_54 : zDc M_X8_lawLine 54 (.iconst 1) 1 55 := ⟨by decide +kernel, rfl⟩
theorem d_X8_lawLine_55 : zDc M_X8_lawLine 55 (.iand) 1 56 := ⟨by decide +kernel, rfl⟩
theorem d_X8_lawLine_56 : zDc M_X8_lawLine 56 (.iconst 1) 1 57 := ⟨by decide +kernel, rfl⟩
theorem d_X8_lawLine_57 : zDj M_X8_lawLine 57 (.if_icmp .ne 8) 8 60 65 := ⟨by decide +kernel, rfl, by decide⟩
theorem d_X8_lawLine_60 : zDc M_X8_lawLine 60 (.aload_n 0) 1 61 := ⟨by decide +kernel, rfl⟩
theorem d_X8_lawLine_61 : zDc M_X8_lawLine 61 (.iconst 3) 1 62 := ⟨by decide +kernel, rfl⟩
theorem d_X8_lawLine_62 : zDc M_X8_lawLine 62 (.invokevirtual 214) 3 65 := ⟨by decide +kernel, rfl⟩
theorem d_X8_lawLine_65 : zDc M_X8_lawLine 65 (.aload_n 0) 1 66 := ⟨by decide +kernel, rfl⟩
theorem d_X8_lawLine_66 : zDc M_X8_lawLine 66 (.getfield 205) 3 69 := ⟨by decide +kernel, rfl⟩
theorem d_X8_lawLine_69 : zDj M_X8_lawLine 69 (.ifCond .eq 4) 4 72 73 := ⟨by decide +kernel, rfl, by decide⟩
theorem d_X8_lawLine_72 : zDc M_X8_lawLine 72 (.return_) 1 73 := ⟨by decide +kernel, rfl⟩
theorem d_X8_lawLine_73 : zDc M_X8_lawLine 73 (.aload_n 0) 1 74 := ⟨by decide +kernel, rfl⟩
theorem d_X8_lawLine_74 : zDc M_X8_lawLine 74 (.dup) 1 75 := ⟨by decide +kernel, rfl⟩
theorem d_X8_lawLine_75 : zDc M_X8_lawLine 75 (.getfield 232) 3 78 := ⟨by decide +kernel, rfl⟩
theorem d_X8_lawLine_78 : zDc M_X8_lawLine 78 (.iconst 1) 1 79 := ⟨by decide +kernel, rfl⟩
theorem d_X8_lawLine_79 : zDc M_X8_lawLine 79 (.bipush 16) 2 81 := ⟨by decide +kernel, rfl⟩
theorem d_X8_lawLine_81 : zDc M_X8_lawLine 81 (.iload_n 1) 1 82 := ⟨by decide +kernel, rfl⟩
theorem d_X8_lawLine_82 : zDc M_X8_lawLine 82 (.iadd) 1 83 := ⟨by decide +kernel, rfl⟩
theorem d_X8_lawLine_83 : zDc M_X8_lawLine 83 (.ishl) 1 84 := ⟨by decide +kernel, rfl⟩
theorem d_X8_lawLine_84 : zDc M_X8_lawLine 84 (.ior) 1 85 := ⟨by decide +kernel, rfl⟩
theorem d_X8_lawLine_85 : zDc M_X8_lawLine 85 (.putfield 232) 3 88 := ⟨by decide +kernel, rfl⟩
theorem d_X8_lawLine_88 : zDc M_X8_lawLine 88 (.aload_n 0) 1 89 := ⟨by decide +kernel, rfl⟩
theorem d_X8_lawLine_89 : zDc M_X8_lawLine 89 (.invokevirtual 211) 3 92 := ⟨by decide +kernel, rfl⟩
theorem d_X8_lawLine_92 : zDc M_X8_lawLine 92 (.aload_n 0) 1 93 := ⟨by decide +kernel, rfl⟩
theorem d_X8_lawLine_93 : zDc M_X8_lawLine 93 (.getfield 52) 3 96 := ⟨by decide +kernel, rfl⟩
theorem d_X8_lawLine_96 : zDc M_X8_lawLine 96 (.iconst 3) 1 97 := ⟨by decide +kernel, rfl⟩
theorem d_X8_lawLine_97 : zDc M_X8_lawLine 97 (.iload_n 1) 1 98 := ⟨by decide +kernel, rfl⟩
theorem d_X8_lawLine_98 : zDc M_X8_lawLine 98 (.iadd) 1 99 := ⟨by decide +kernel, rfl⟩
theorem d_X8_lawLine_99 : zDc M_X8_lawLine 99 (.aload_n 0) 1 100 := ⟨by decide +kernel, rfl⟩
theorem d_X8_lawLine_100 : zDc M_X8_lawLine 100 (.bipush 7) 2 102 := ⟨by decide +kernel, rfl⟩
theorem d_X8_lawLine_102 : zDc M_X8_lawLine 102 (.invokevirtual 225) 3 105 := ⟨by decide +kernel, rfl⟩
theorem d_X8_lawLine_105 : zDc M_X8_lawLine 105 (.iastore) 1 106 := ⟨by decide +kernel, rfl⟩
theorem d_X8_lawLine_106 : zDc M_X8_lawLine 106 (.aload_n 0) 1 107 := ⟨by decide +kernel, rfl⟩
theorem d_X8_lawLine_107 : zDc M_X8_lawLine 107 (.invokevirtual 258) 3 110 := ⟨by decide +kernel, rfl⟩
theorem d_X8_lawLine_110 : zDc M_X8_lawLine 110 (.aload_n 0) 1 111 := ⟨by decide +kernel, rfl⟩
theorem d_X8_lawLine_111 : zDc M_X8_lawLine 111 (.getfield 55) 3 114 := ⟨by decide +kernel, rfl⟩
theorem d_X8_lawLine_114 : zDc M_X8_lawLine 114 (.iconst 3) 1 115 := ⟨by decide +kernel, rfl⟩
theorem d_X8_lawLine_115 : zDc M_X8_lawLine 115 (.iload_n 1) 1 116 := ⟨by decide +kernel, rfl⟩
theorem d_X8_lawLine_116 : zDc M_X8_lawLine 116 (.iadd) 1 117 := ⟨by decide +kernel, rfl⟩
theorem d_X8_lawLine_117 : zDc M_X8_lawLine 117 (.aload_n 0) 1 118 := ⟨by decide +kernel, rfl⟩
theorem d_X8_lawLine_118 : zDc M_X8_lawLine 118 (.bipush 7) 2 120 := ⟨by decide +kernel, rfl⟩
theorem d_X8_lawLine_120 : zDc M_X8_lawLine 120 (.invokevirtual 225) 3 123 := ⟨by decide +kernel, rfl⟩
theorem d_X8_lawLine_123 : zDc M_X8_lawLine 123 (.iastore) 1 124 := ⟨by decide +kernel, rfl⟩
theorem d_X8_lawLine_124 : zDc M_X8_lawLine 124 (.return_) 1 125 := ⟨by decide +kernel, rfl⟩
def f_X8_lawLine (a0 : Nat) (h0 : zHp) : Option (Unit × zHp) :=
  zob (zgI h0 a0 8 25) (fun v1 =>
  zbd (α := Unit) (
  if v1 = 0 then
  zob (zgI h0 a0 8 26) (fun v2 =>
  zbd (α := (Unit ⊕ Unit)) (
  if v2 < 10 then
  some ((.inl ()), h0)
  else
  zob (zgI h0 a0 8 26) (fun v3 =>
  if v3 ≤ 12 then
  some ((.inr ()), h0)
  else
  some ((.inl ()), h0))) (fun b34 h5 => zsl b34 (fun e4 =>
  zbd (zcv 8 a0 h5 (f_X8_wrong a0 1 h5)) (fun v7 h6 =>
  some ((), h6))) (fun r => some (r, h5))))
  else
  zbd (zcv 8 a0 h0 (f_X8_wrong a0 1 h0)) (fun v9 h8 =>
  some ((), h8))) (fun e10 h11 =>
  zob (zgI h11 a0 8 26) (fun v12 =>
  zob (zgI h11 a0 8 27) (fun v13 =>
  zbd (α := Unit) (
  if v13 = 0 then
  zob (zgI h11 a0 8 20) (fun v14 =>
  if ((v14 >>> ((16 + (v12 - 10)) &&& 31)) &&& 1) = 1 then
  zbd (zcv 8 a0 h11 (f_X8_wrong a0 3 h11)) (fun v16 h15 =>
  some ((), h15))
  else
  some ((), h11))
  else
  some ((), h11)) (fun e17 h18 =>
  zob (zgI h18 a0 8 27) (fun v19 =>
  if v19 = 0 then
  zob (zgI h18 a0 8 20) (fun v20 =>
  zob (zpV h18 a0 8 20 (.int (v20 ||| (1 <<< ((16 + (v12 - 10)) &&& 31))))) (fun h21 =>
  zbd (zcv 8 a0 h21 (f_X8_token a0 h21)) (fun v23 h22 =>
  zob (zgR h22 a0 8 16) (fun v24 =>
  zbd (zcv 8 a0 h22 (f_X8_fresher a0 7 h22)) (fun v26 h25 =>
  zob (zsI 0 h25 v24 (3 + (v12 - 10)) v26) (fun h27 =>
  zbd (zcv 8 a0 h27 (f_X8_expression 200 a0 h27)) (fun v29 h28 =>
  zob (zgR h28 a0 8 17) (fun v30 =>
  zbd (zcv 8 a0 h28 (f_X8_fresher a0 7 h28)) (fun v32 h31 =>
  zob (zsI 0 h31 v30 (3 + (v12 - 10)) v32) (fun h33 =>
  some ((), h33)))))))))))
  else
  some ((), h18)))))))
set_option maxRecDepth 100000 in
set_option maxHeartbeats 4000000 in
theorem t_X8_lawLine (a0 : Nat) (h0 : zHp) : ∀ (r : Unit) (h' : zHp), f_X8_lawLine a0 h0 = some (r, h') → zCt yX8_lawLine (.code yX8_lawLine cX8_lawLine 2 none) 209 4485 0 0 [.ref a0] h0 (none) h' := by
  refine zct_of M_X8_lawLine yX8_lawLine (by decide) rfl rfl [.ref a0] h0 (Nat.le_of_ble_eq_true rfl) (fun _ => none) (fun X => ?_)
  show zG X M_X8_lawLine (0, 0) 0 [(0, .ref a0)] [] h0 (f_X8_lawLine a0 h0) (fun (_ : Unit) h' => zKe X (none) h')
  unfold f_X8_lawLine
  refine zg_aload_n 0 rfl d_X8_lawLine_0 ?_
  refine zg_getI d_X8_lawLine_1 zc_8 (by decide) fl_X8_170 (fun v1 => ?_)
  refine zg_bd (E := 30) (el := (fun (e10 : Unit) => [(0, .ref a0)])) (es := (fun (e10 : Unit) => [])) ?_ (fun e10 h11 => ?_)
  · refine zg_if_ne d_X8_lawLine_4 ?_ ?_
    · refine zg_aload_n 0 rfl d_X8_lawLine_7 ?_
      refine zg_getI d_X8_lawLine_8 zc_8 (by decide) fl_X8_180 (fun v2 => ?_)
      refine zg_bipush 10 rfl d_X8_lawLine_11 ?_
      refine zg_bdr (E := 25) (el := (fun (e4 : Unit) => [(0, .ref a0)])) (es := (fun (e4 : Unit) => [])) ?_ (fun e4 h5 => ?_)
      · refine zg_icmp_lt d_X8_lawLine_13 ?_ ?_
        · exact zg_finK (E := 0) [0] rfl rfl (fun q => q)
        · refine zg_aload_n 0 rfl d_X8_lawLine_16 ?_
          refine zg_getI d_X8_lawLine_17 zc_8 (by decide) fl_X8_180 (fun v3 => ?_)
          refine zg_bipush 12 rfl d_X8_lawLine_20 ?_
          refine zg_icmp_le d_X8_lawLine_22 ?_ ?_
          · exact zg_finK (E := 0) [0] rfl rfl (fun q => q)
          · exact zg_finK (E := 0) [0] rfl rfl (fun q => q)
      · refine zg_aload_n 0 rfl d_X8_lawLine_25 ?_
        refine zg_iconst 1 rfl d_X8_lawLine_26 ?_
        refine zg_cVv (b := a0) (As := [.int 1]) (rest := []) (0, 0) d_X8_lawLine_27 zc_8 rfl cw_X8_214 wi_X8_wrong ws_X8_wrong rfl rfl (Nat.le_of_ble_eq_true rfl) (by decide) (by decide) ⟨by decide, by decide⟩ rfl (t_X8_wrong a0 1 h5) (fun v7 h6 => ?_)
        exact zg_finK (E := 0) [0] rfl rfl (fun q => q)
    · refine zg_aload_n 0 rfl d_X8_lawLine_25 ?_
      refine zg_iconst 1 rfl d_X8_lawLine_26 ?_
      refine zg_cVv (b := a0) (As := [.int 1]) (rest := []) (0, 0) d_X8_lawLine_27 zc_8 rfl cw_X8_214 wi_X8_wrong ws_X8_wrong rfl rfl (Nat.le_of_ble_eq_true rfl) (by decide) (by decide) ⟨by decide, by decide⟩ rfl (t_X8_wrong a0 1 h0) (fun v9 h8 => ?_)
      exact zg_finK (E := 0) [0] rfl rfl (fun q => q)
  · refine zg_aload_n 0 rfl d_X8_lawLine_30 ?_
    refine zg_getI d_X8_lawLine_31 zc_8 (by decide) fl_X8_180 (fun v12 => ?_)
    refine zg_bipush 10 rfl d_X8_lawLine_34 ?_
    refine zg_isub d_X8_lawLine_36 ?_
    refine zg_istore_n [(1, .int (v12 - 10)), (0, .ref a0)] d_X8_lawLine_37 rfl (by decide) rfl ?_
    refine zg_aload_n 1 rfl d_X8_lawLine_38 ?_
    refine zg_getI d_X8_lawLine_39 zc_8 (by decide) fl_X8_205 (fun v13 => ?_)
    refine zg_bd (E := 65) (el := (fun (e17 : Unit) => [(0, .ref a0), (1, .int (v12 - 10))])) (es := (fun (e17 : Unit) => [])) ?_ (fun e17 h18 => ?_)
    · refine zg_if_ne d_X8_lawLine_42 ?_ ?_
      · refine zg_aload_n 1 rfl d_X8_lawLine_45 ?_
        refine zg_getI d_X8_lawLine_46 zc_8 (by decide) fl_X8_232 (fun v14 => ?_)
        refine zg_bipush 16 rfl d_X8_lawLine_49 ?_
        refine zg_iload_n 0 rfl d_X8_lawLine_51 ?_
        refine zg_iadd d_X8_lawLine_52 ?_
        refine zg_ishr d_X8_lawLine_53 ?_
        refine zg_iconst 1 rfl d_X8_lawLine_54 ?_
        refine zg_iand d_X8_lawLine_55 ?_
        refine zg_iconst 1 rfl d_X8_lawLine_56 ?_
        refine zg_icmp_ne d_X8_lawLine_57 ?_ ?_
        · refine zg_aload_n 1 rfl d_X8_lawLine_60 ?_
          refine zg_iconst 3 rfl d_X8_lawLine_61 ?_
          refine zg_cVv (b := a0) (As := [.int 3]) (rest := []) (0, 0) d_X8_lawLine_62 zc_8 rfl cw_X8_214 wi_X8_wrong ws_X8_wrong rfl rfl (Nat.le_of_ble_eq_true rfl) (by decide) (by decide) ⟨by decide, by decide⟩ rfl (t_X8_wrong a0 3 h11) (fun v16 h15 => ?_)
          exact zg_finK (E := 0) [1, 0] rfl rfl (fun q => q)
        · exact zg_finK (E := 0) [1, 0] rfl rfl (fun q => q)
      · exact zg_finK (E := 0) [1, 0] rfl rfl (fun q => q)
    · refine zg_aload_n 0 rfl d_X8_lawLine_65 ?_
      refine zg_getI d_X8_lawLine_66 zc_8 (by decide) fl_X8_205 (fun v19 => ?_)
      refine zg_if_eq d_X8_lawLine_69 ?_ ?_
      · refine zg_aload_n 0 rfl d_X8_lawLine_73 ?_
        refine zg_dup rfl d_X8_lawLine_74 ?_
        refine zg_getI d_X8_lawLine_75 zc_8 (by decide) fl_X8_232 (fun v20 => ?_)
        refine zg_iconst 1 rfl d_X8_lawLine_78 ?_
        refine zg_bipush 16 rfl d_X8_lawLine_79 ?_
        refine zg_iload_n 1 rfl d_X8_lawLine_81 ?_
        refine zg_iadd d_X8_lawLine_82 ?_
        refine zg_ishl d_X8_lawLine_83 ?_
        refine zg_ior d_X8_lawLine_84 ?_
        refine zg_putV d_X8_lawLine_85 zc_8 (by decide) fl_X8_232 rfl rfl rfl (fun h21 => ?_)
        refine zg_aload_n 0 rfl d_X8_lawLine_88 ?_
        refine zg_cVv (b := a0) (As := []) (rest := []) (0, 0) d_X8_lawLine_89 zc_8 rfl cw_X8_211 wi_X8_token ws_X8_token rfl rfl (Nat.le_of_ble_eq_true rfl) (by decide) (by decide) ⟨by decide, by decide⟩ rfl (t_X8_token a0 h21) (fun v23 h22 => ?_)
        refine zg_aload_n 0 rfl d_X8_lawLine_92 ?_
        refine zg_getR d_X8_lawLine_93 zc_8 (by decide) fl_X8_52 (fun v24 => ?_)
        refine zg_iconst 3 rfl d_X8_lawLine_96 ?_
        refine zg_iload_n 1 rfl d_X8_lawLine_97 ?_
        refine zg_iadd d_X8_lawLine_98 ?_
        refine zg_aload_n 0 rfl d_X8_lawLine_99 ?_
        refine zg_bipush 7 rfl d_X8_lawLine_100 ?_
        refine zg_cVi (b := a0) (As := [.int 7]) (rest := [.int (3 + (v12 - 10)), .ref v24]) (0, 0) d_X8_lawLine_102 zc_8 rfl cw_X8_225 wi_X8_fresher ws_X8_fresher rfl rfl (Nat.le_of_ble_eq_true rfl) (by decide) (by decide) ⟨by decide, by decide⟩ rfl (t_X8_fresher a0 7 h22) (fun v26 h25 => ?_)
        refine zg_ast0 d_X8_lawLine_105 (fun h27 => ?_)
        refine zg_aload_n 0 rfl d_X8_lawLine_106 ?_
        refine zg_cVv (b := a0) (As := []) (rest := []) (0, 0) d_X8_lawLine_107 zc_8 rfl cw_X8_258 wi_X8_expression ws_X8_expression rfl rfl (Nat.le_of_ble_eq_true rfl) (by decide) (by decide) ⟨by decide, by decide⟩ rfl (t_X8_expression 200 a0 h27) (fun v29 h28 => ?_)
        refine zg_aload_n 0 rfl d_X8_lawLine_110 ?_
        refine zg_getR d_X8_lawLine_111 zc_8 (by decide) fl_X8_55 (fun v30 => ?_)
        refine zg_iconst 3 rfl d_X8_lawLine_114 ?_
        refine zg_iload_n 1 rfl d_X8_lawLine_115 ?_
        refine zg_iadd d_X8_lawLine_116 ?_
        refine zg_aload_n 0 rfl d_X8_lawLine_117 ?_
        refine zg_bipush 7 rfl d_X8_lawLine_118 ?_
        refine zg_cVi (b := a0) (As := [.int 7]) (rest := [.int (3 + (v12 - 10)), .ref v30]) (0, 0) d_X8_lawLine_120 zc_8 rfl cw_X8_225 wi_X8_fresher ws_X8_fresher rfl rfl (Nat.le_of_ble_eq_true rfl) (by decide) (by decide) ⟨by decide, by decide⟩ rfl (t_X8_fresher a0 7 h28) (fun v32 h31 => ?_)
        refine zg_ast0 d_X8_lawLine_123 (fun h33 => ?_)
        exact zg_vretK d_X8_lawLine_124 rfl ⟨Nat.le_of_ble_eq_true rfl, Nat.le_of_ble_eq_true rfl⟩ (fun q => q)
      · exact zg_vretK d_X8_lawLine_72 rfl ⟨Nat.le_of_ble_eq_true rfl, Nat.le_of_ble_eq_true rfl⟩ (fun q => q)
abbrev M_X8_line : zMt := (RX8, cX8_line, 5, 210, 4506, none, "line", 0, 0)
theorem d_X8_line_0 : zDc M_X8_line 0 (.aload_n 0) 1 1 := ⟨by decide +kernel, rfl⟩
theorem d_X8_line_1 : zDc M_X8_line 1 (.getfield 170) 3 4 := ⟨by decide +kernel, rfl⟩
theorem d_X8_line_4 : zDj M_X8_line 4 (.ifCond .ne 12) 12 7 16 := ⟨by decide +kernel, rfl, by decide⟩
theorem d_X8_line_7 : zDc M_X8_line 7 (.aload_n 0) 1 8 := ⟨by decide +kernel, rfl⟩
theorem d_X8_line_8 : zDc M_X8_line 8 (.getfield 180) 3 11 := ⟨by decide +kernel, rfl⟩
theorem d_X8_line_11 : zDc M_X8_line 11 (.bipush 9) 2 13 := ⟨by decide +kernel, rfl⟩
theorem d_X8_line_13 : zDj M_X8_line 13 (.if_icmp .le 9) 9 16 22 := ⟨by decide +kernel, rfl, by decide⟩
theorem d_X8_line_16 : zDc M_X8_line 16 (.aload_n 0) 1 17 := ⟨by decide +kernel, rfl⟩
theorem d_X8_line_17 : zDc M_X8_line 17 (.iconst 1) 1 18 := ⟨by decide +kernel, rfl⟩
theorem d_X8_line_18 : zDc M_X8_line 18 (.invokevirtual 214) 3 21 := ⟨by decide +kernel, rfl⟩
theorem d_X8_line_21 : zDc M_X8_line 21 (.return_) 1 22 := ⟨by decide +kernel, rfl⟩
theorem d_X8_line_22 : zDc M_X8_line 22 (.aload_n 0) 1 23 := ⟨by decide +kernel, rfl⟩
theorem d_X8_line_23 : zDc M_X8_line 23 (.getfield 180) 3 26 := ⟨by decide +kernel, rfl⟩
theorem d_X8_line_26 : zDc M_X8_line 26 (.istore_n 1) 1 27 := ⟨by decide +kernel, rfl⟩
theorem d_X8_line_27 : zDc M_X8_line 27 (.aload_n 0) 1 28 := ⟨by decide +kernel, rfl⟩
theorem d_X8_line_28 : zDc M_X8_line 28 (.iload_n 1) 1 29 := ⟨by decide +kernel, rfl⟩
theorem d_X8_line_29 : zDc M_X8_line 29 (.invokevirtual 229) 3 32 := ⟨by decide +kernel, rfl⟩
theorem d_X8_line_32 : zDj M_X8_line 32 (.ifCond .eq 11) 11 35 43 := ⟨by decide +kernel, rfl, by decide⟩
theorem d_X8_line_35 : zDc M_X8_line 35 (.aload_n 0) 1 36 := ⟨by decide +kernel, rfl⟩
theorem d_X8_line_36 : zDc M_X8_line 36 (.iconst 2) 1 37 := ⟨by decide +kernel, rfl⟩
theorem d_X8_line_37 : zDc M_X8_line 37 (.invokevirtual 214) 3 40 := ⟨by decide +kernel, rfl⟩
theorem d_X8_line_40 : zDj M_X8_line 40 (.goto 32) 32 43 72 := ⟨by decide +kernel, rfl, by decide⟩
theorem d_X8_line_43 : zDc M_X8_line 43 (.iload_n 1) 1 44 := ⟨by decide +kernel, rfl⟩
theorem d_X8_line_44 : zDc M_X8_line 44 (.bipush 6) 2 46 := ⟨by decide +kernel, rfl⟩
theorem d_X8_line_46 : zDj M_X8_line 46 (.if_icmp .lt 26) 26 49 72 := ⟨by decide +kernel, rfl, by decide⟩
theorem d_X8_line_49 : zDc M_X8_line 49 (.iload_n 1) 1 50 := ⟨by decide +kernel, rfl⟩
theorem d_X8_line_50 : zDc M_X8_line 50 (.bipush 8) 2 52 := ⟨by decide +kernel, rfl⟩
theorem d_X8_line_52 : zDj M_X8_line 52 (.if_icmp .gt 20) 20 55 72 := ⟨by decide +kernel, rfl, by decide⟩
theorem d_X8_line_55 : zDc M_X8_line 55 (.aload_n 0) 1 56 := ⟨by decide +kernel, rfl⟩
theorem d_X8_line_56 : zDc M_X8_line 56 (.getfield 232) 3 59 := ⟨by decide +kernel, rfl⟩
theorem d_X8_line_59 : zDc M_X8_line 59 (.iload_n 1) 1 60 := ⟨by decide +kernel, rfl⟩
theorem d_X8_line_60 : zDc M_X8_line 60 (.ishr) 1 61 := ⟨by decide +kernel, rfl⟩
theorem d_X8_line_61 : zDc M_X8_line 61 (.iconst 1) 1 62 := ⟨by decide +kernel, rfl⟩
theorem d_X8_line_62 : zDc M_X8_line 62 (.iand) 1 63 := ⟨by decide +kernel, rfl⟩
theorem d_X8_line_63 : zDc M_X8_line 63 (.iconst 1) 1 64 := ⟨by decide +kernel, rfl⟩
theorem d_X8_line_64 : zDj M_X8_line 64 (.if_icmp .ne 8) 8 67 72 := ⟨by decide +kernel, rfl, by decide⟩
theorem d_X8_line_67 : zDc M_X8_line 67 (.aload_n 0) 1 68 := ⟨by decide +kernel, rfl⟩
theorem d_X8_line_68 : zDc M_X8_line 68 (.iconst 3) 1 69 := ⟨by decide +kernel, rfl⟩
theorem d_X8_line_69 : zDc M_X8_line 69 (.invokevirtual 214) 3 72 := ⟨by decide +kernel, rfl⟩
theorem d_X8_line_72 : zDc M_X8_line 72 (.aload_n 0) 1 73 := ⟨by decide +kernel, rfl⟩
theorem d_X8_line_73 : zDc M_X8_line 73 (.getfield 205) 3 76 := ⟨by decide +kernel, rfl⟩
theorem d_X8_line_76 : zDj M_X8_line 76 (.ifCond .eq 4) 4 79 80 := ⟨by decide +kernel, rfl, by decide⟩
theorem d_X8_line_79 : zDc M_X8_line 79 (.return_) 1 80 := ⟨by decide +kernel, rfl⟩
theorem d_X8_line_80 : zDc M_X8_line 80 (.aload_n 0) 1 81 := ⟨by decide +kernel, rfl⟩
theorem d_X8_line_81 : zDc M_X8_line 81 (.dup) 1 82 := ⟨by decide +kernel, rfl⟩
theorem d_X8_line_82 : zDc M_X8_line 82 (.getfield 232) 3 85 := ⟨by decide +kernel, rfl⟩
theorem d_X8_line_85 : zDc M_X8_line 85 (.iconst 1) 1 86 := ⟨by decide +kernel, rfl⟩
theorem d_X8_line_86 : zDc M_X8_line 86 (.iload_n 1) 1 87 := ⟨by decide +kernel, rfl⟩
theorem d_X8_line_87 : zDc M_X8_line 87 (.ishl) 1 88 := ⟨by decide +kernel, rfl⟩
theorem d_X8_line_88 : zDc M_X8_line 88 (.ior) 1 89 := ⟨by decide +kernel, rfl⟩
theorem d_X8_line_89 : zDc M_X8_line 89 (.putfield 232) 3 92 := ⟨by decide +kernel, rfl⟩
theorem d_X8_line_92 : zDc M_X8_line 92 (.aload_n 0) 1 93 := ⟨by decide +kernel, rfl⟩
theorem d_X8_line_93 : zDc M_X8_line 93 (.invokevirtual 211) 3 96 := ⟨by decide +kernel, rfl⟩
theorem d_X8_line_96 : zDc M_X8_line 96 (.iload_n 1) 1 97 := ⟨by decide +kernel, rfl⟩
theorem d_X8_line_97 : decode M_X8_line.2.1 97 = .ok (.tableswitch 366 0 8 #[51, 51, 67, 133, 214, 286, 320, 335, 350], 51) := by decide +kernel
theorem d_X8_line_148 : zDc M_X8_line 148 (.aload_n 0) 1 149 := ⟨by decide +kernel, rfl⟩
theorem d_X8_line_149 : zDc M_X8_line 149 (.iload_n 1) 1 150 := ⟨by decide +kernel, rfl⟩
theorem d_X8_line_150 : zDj M_X8_line 150 (.ifCond .ne 7) 7 153 157 := ⟨by decide +kernel, rfl, by decide⟩
theorem d_X8_line_153 : zDc M_X8_line 153 (.iconst 1) 1 154 := ⟨by decide +kernel, rfl⟩
theorem d_X8_line_154 : zDj M_X8_line 154 (.goto 4) 4 157 158 := ⟨by decide +kernel, rfl, by decide⟩
theorem d_X8_line_157 : zDc M_X8_line 157 (.iconst 2) 1 158 := ⟨by decide +kernel, rfl⟩
theorem d_X8_line_158 : zDc M_X8_line 158 (.invokevirtual 235) 3 161 := ⟨by decide +kernel, rfl⟩
theorem d_X8_line_161 : zDj M_X8_line 161 (.goto 306) 306 164 467 := ⟨by decide +kernel, rfl, by decide⟩
theorem d_X8_line_164 : zDc M_X8_line 164 (.iconst 5) 1 165 := ⟨by decide +kernel, rfl⟩
theorem d_X8_line_165 : zDc M_X8_line 165 (.aload_n 0) 1 166 := ⟨by decide +kernel, rfl⟩
theorem d_X8_line_166 : zDc M_X8_line 166 (.iconst 0) 1 167 := ⟨by decide +kernel, rfl⟩
theorem d_X8_line_167 : zDc M_X8_line 167 (.invokevirtual 225) 3 170 := ⟨by decide +kernel, rfl⟩
theorem d_X8_line_170 : zDc M_X8_line 170 (.iadd) 1 171 := ⟨by decide +kernel, rfl⟩
theorem d_X8_line_171 : zDc M_X8_line 171 (.istore_n 2) 1 172 := ⟨by decide +kernel, rfl⟩
theorem d_X8_line_172 : zDc M_X8_line 172 (.aload_n 0) 1 173 := ⟨by decide +kernel, rfl⟩
theorem d_X8_line_173 : zDc M_X8_line 173 (.getfield 19) 3 176 := ⟨by decide +kernel, rfl⟩
theorem d_X8_line_176 : zDc M_X8_line 176 (.iload_n 2) 1 177 := ⟨by decide +kernel, rfl⟩
theorem d_X8_line_177 : zDc M_X8_line 177 (.aload_n 0) 1 178 := ⟨by decide +kernel, rfl⟩
theorem d_X8_line_178 : zDc M_X8_line 178 (.aload_n 0) 1 179 := ⟨by decide +kernel, rfl⟩
theorem d_X8_line_179 : zDc M_X8_line 179 (.getfield 19) 3 182 := ⟨by decide +kernel, rfl⟩
theorem d_X8_line_182 : zDc M_X8_line 182 (.iconst 5) 1 183 := ⟨by decide +kernel, rfl⟩
theorem d_X8_line_183 : zDc M_X8_line 183 (.aload_n 0) 1 184 := ⟨by decide +kernel, rfl⟩
theorem d_X8_line_184 : zDc M_X8_line 184 (.iconst 0) 1 185 := ⟨by decide +kernel, rfl⟩
theorem d_X8_line_185 : zDc M_X8_line 185 (.invokevirtual 225) 3 188 := ⟨by decide +kernel, rfl⟩
theorem d_X8_line_188 : zDc M_X8_line 188 (.invokevirtual 238) 3 191 := ⟨by decide +kernel, rfl⟩
theorem d_X8_line_191 : zDc M_X8_line 191 (.iastore) 1 192 := ⟨by decide +kernel, rfl⟩
theorem d_X8_line_192 : zDc M_X8_line 192 (.aload_n 0) 1 193 := ⟨by decide +kernel, rfl⟩
theorem d_X8_line_193 : zDc M_X8_line 193 (.getfield 22) 3 196 := ⟨by decide +kernel, rfl⟩
theorem d_X8_line_196 : zDc M_X8_line 196 (.iload_n 2) 1 197 := ⟨by decide +kernel, rfl⟩
theorem d_X8_line_197 : zDc M_X8_line 197 (.aload_n 0) 1 198 := ⟨by decide +kernel, rfl⟩
theorem d_X8_line_198 : zDc M_X8_line 198 (.invokevirtual 242) 3 201 := ⟨by decide +kernel, rfl⟩
theorem d_X8_line_201 : zDc M_X8_line 201 (.iastore) 1 202 := ⟨by decide +kernel, rfl⟩
theorem d_X8_line_202 : zDc M_X8_line 202 (.aload_n 0) 1 203 := ⟨by decide +kernel, rfl⟩
theorem d_X8_line_203 : zDc M_X8_line 203 (.getfield 25) 3 206 := ⟨by decide +kernel, rfl⟩
theorem d_X8_line_206 : zDc M_X8_line 206 (.iload_n 2) 1 207 := ⟨by decide +kernel, rfl⟩
theorem d_X8_line_207 : zDc M_X8_line 207 (.aload_n 0) 1 208 := ⟨by decide +kernel, rfl⟩
theorem d_X8_line_208 : zDc M_X8_line 208 (.iconst 0) 1 209 := ⟨by decide +kernel, rfl⟩
theorem d_X8_line_209 : zDc M_X8_line 209 (.bipush 99) 2 211 := ⟨by decide +kernel, rfl⟩
theorem d_X8_line_211 : zDc M_X8_line 211 (.invokevirtual 221) 3 214 := ⟨by decide +kernel, rfl⟩
theorem d_X8_line_214 : zDc M_X8_line 214 (.iastore) 1 215 := ⟨by decide +kernel, rfl⟩
theorem d_X8_line_215 : zDc M_X8_line 215 (.aload_n 0) 1 216 := ⟨by decide +kernel, rfl⟩
theorem d_X8_line_216 : zDc M_X8_line 216 (.iconst 0) 1 217 := ⟨by decide +kernel, rfl⟩
theorem d_X8_line_217 : zDc M_X8_line 217 (.aload_n 0) 1 218 := ⟨by decide +kernel, rfl⟩
theorem d_X8_line_218 : zDc M_X8_line 218 (.iconst 0) 1 219 := ⟨by decide +kernel, rfl⟩
theorem d_X8_line_219 : zDc M_X8_line 219 (.invokevirtual 225) 3 222 := ⟨by decide +kernel, rfl⟩
theorem d_X8_line_222 : zDc M_X8_line 222 (.iconst 1) 1 223 := ⟨by decide +kernel, rfl⟩
theorem d_X8_line_223 : zDc M_X8_line 223 (.iadd) 1 224 := ⟨by decide +kernel, rfl⟩
theorem d_X8_line_224 : zDc M_X8_line 224 (.invokevirtual 245) 3 227 := ⟨by decide +kernel, rfl⟩
theorem d_X8_line_227 : zDj M_X8_line 227 (.goto 240) 240 230 467 := ⟨by decide +kernel, rfl, by decide⟩
theorem d_X8_line_230 : zDc M_X8_line 230 (.bipush 8) 2 232 := ⟨by decide +kernel, rfl⟩
theorem d_X8_line_232 : zDc M_X8_line 232 (.aload_n 0) 1 233 := ⟨by decide +kernel, rfl⟩
theorem d_X8_line_233 : zDc M_X8_line 233 (.iconst 1) 1 234 := ⟨by decide +kernel, rfl⟩
theorem d_X8_line_234 : zDc M_X8_line 234 (.invokevirtual 225) 3 237 := ⟨by decide +kernel, rfl⟩
theorem d_X8_line_237 : zDc M_X8_line 237 (.iadd) 1 238 := ⟨by decide +kernel, rfl⟩
theorem d_X8_line_238 : zDc M_X8_line 238 (.istore_n 3) 1 239 := ⟨by decide +kernel, rfl⟩
theorem d_X8_line_239 : zDc M_X8_line 239 (.aload_n 0) 1 240 := ⟨by decide +kernel, rfl⟩
theorem d_X8_line_240 : zDc M_X8_line 240 (.getfield 28) 3 243 := ⟨by decide +kernel, rfl⟩
theorem d_X8_line_243 : zDc M_X8_line 243 (.iload_n 3) 1 244 := ⟨by decide +kernel, rfl⟩
theorem d_X8_line_244 : zDc M_X8_line 244 (.aload_n 0) 1 245 := ⟨by decide +kernel, rfl⟩
theorem d_X8_line_245 : zDc M_X8_line 245 (.aload_n 0) 1 246 := ⟨by decide +kernel, rfl⟩
theorem d_X8_line_246 : zDc M_X8_line 246 (.getfield 28) 3 249 := ⟨by decide +kernel, rfl⟩
theorem d_X8_line_249 : zDc M_X8_line 249 (.bipush 8) 2 251 := ⟨by decide +kernel, rfl⟩
theorem d_X8_line_251 : zDc M_X8_line 251 (.aload_n 0) 1 252 := ⟨by decide +kernel, rfl⟩
theorem d_X8_line_252 : zDc M_X8_line 252 (.iconst 1) 1 253 := ⟨by decide +kernel, rfl⟩
theorem d_X8_line_253 : zDc M_X8_line 253 (.invokevirtual 225) 3 256 := ⟨by decide +kernel, rfl⟩
theorem d_X8_line_256 : zDc M_X8_line 256 (.invokevirtual 238) 3 259 := ⟨by decide +kernel, rfl⟩
theorem d_X8_line_259 : zDc M_X8_line 259 (.iastore) 1 260 := ⟨by decide +kernel, rfl⟩
theorem d_X8_line_260 : zDc M_X8_line 260 (.aload_n 0) 1 261 := ⟨by decide +kernel, rfl⟩
theorem d_X8_line_261 : zDc M_X8_line 261 (.getfield 31) 3 264 := ⟨by decide +kernel, rfl⟩
theorem d_X8_line_264 : zDc M_X8_line 264 (.iload_n 3) 1 265 := ⟨by decide +kernel, rfl⟩
theorem d_X8_line_265 : zDc M_X8_line 265 (.aload_n 0) 1 266 := ⟨by decide +kernel, rfl⟩
theorem d_X8_line_266 : zDc M_X8_line 266 (.invokevirtual 242) 3 269 := ⟨by decide +kernel, rfl⟩
theorem d_X8_line_269 : zDc M_X8_line 269 (.iastore) 1 270 := ⟨by decide +kernel, rfl⟩
theorem d_X8_line_270 : zDc M_X8_line 270 (.aload_n 0) 1 271 := ⟨by decide +kernel, rfl⟩
theorem d_X8_line_271 : zDc M_X8_line 271 (.getfield 34) 3 274 := ⟨by decide +kernel, rfl⟩
theorem d_X8_line_274 : zDc M_X8_line 274 (.iload_n 3) 1 275 := ⟨by decide +kernel, rfl⟩
theorem d_X8_line_275 : zDc M_X8_line 275 (.aload_n 0) 1 276 := ⟨by decide +kernel, rfl⟩
theorem d_X8_line_276 : zDc M_X8_line 276 (.iconst 1) 1 277 := ⟨by decide +kernel, rfl⟩
theorem d_X8_line_277 : zDc M_X8_line 277 (.bipush 9) 2 279 := ⟨by decide +kernel, rfl⟩
theorem d_X8_line_279 : zDc M_X8_line 279 (.invokevirtual 221) 3 282 := ⟨by decide +kernel, rfl⟩
theorem d_X8_line_282 : zDc M_X8_line 282 (.iastore) 1 283 := ⟨by decide +kernel, rfl⟩
theorem d_X8_line_283 : zDc M_X8_line 283 (.aload_n 0) 1 284 := ⟨by decide +kernel, rfl⟩
theorem d_X8_line_284 : zDc M_X8_line 284 (.getfield 37) 3 287 := ⟨by decide +kernel, rfl⟩
theorem d_X8_line_287 : zDc M_X8_line 287 (.iload_n 3) 1 288 := ⟨by decide +kernel, rfl⟩
theorem d_X8_line_288 : zDc M_X8_line 288 (.aload_n 0) 1 289 := ⟨by decide +kernel, rfl⟩
theorem d_X8_line_289 : zDc M_X8_line 289 (.iconst 0) 1 290 := ⟨by decide +kernel, rfl⟩
theorem d_X8_line_290 : zDc M_X8_line 290 (.bipush 99) 2 292 := ⟨by decide +kernel, rfl⟩
theorem d_X8_line_292 : zDc M_X8_line 292 (.invokevirtual 221) 3 295 := ⟨by decide +kernel, rfl⟩
theorem d_X8_line_295 : zDc M_X8_line 295 (.iastore) 1 296 := ⟨by decide +kernel, rfl⟩
theorem d_X8_line_296 : zDc M_X8_line 296 (.aload_n 0) 1 297 := ⟨by decide +kernel, rfl⟩
theorem d_X8_line_297 : zDc M_X8_line 297 (.iconst 1) 1 298 := ⟨by decide +kernel, rfl⟩
theorem d_X8_line_298 : zDc M_X8_line 298 (.aload_n 0) 1 299 := ⟨by decide +kernel, rfl⟩
theorem d_X8_line_299 : zDc M_X8_line 299 (.iconst 1) 1 300 := ⟨by decide +kernel, rfl⟩
theorem d_X8_line_300 : zDc M_X8_line 300 (.invokevirtual 225) 3 303 := ⟨by decide +kernel, rfl⟩
theorem d_X8_line_303 : zDc M_X8_line 303 (.iconst 1) 1 304 := ⟨by decide +kernel, rfl⟩
theorem d_X8_line_304 : zDc M_X8_line 304 (.iadd) 1 305 := ⟨by decide +kernel, rfl⟩
theorem d_X8_line_305 : zDc M_X8_line 305 (.invokevirtual 245) 3 308 := ⟨by decide +kernel, rfl⟩
theorem d_X8_line_308 : zDj M_X8_line 308 (.goto 159) 159 311 467 := ⟨by decide +kernel, rfl, by decide⟩
theorem d_X8_line_311 : zDc M_X8_line 311 (.bipush 6) 2 313 := ⟨by decide +kernel, rfl⟩
theorem d_X8_line_313 : zDc M_X8_line 313 (.aload_n 0) 1 314 := ⟨by decide +kernel, rfl⟩
theorem d_X8_line_314 : zDc M_X8_line 314 (.iconst 2) 1 315 := ⟨by decide +kernel, rfl⟩
theorem d_X8_line_315 : zDc M_X8_line 315 (.invokevirtual 225) 3 318 := ⟨by decide +kernel, rfl⟩
theorem d_X8_line_318 : zDc M_X8_line 318 (.iadd) 1 319 := ⟨by decide +kernel, rfl⟩
theorem d_X8_line_319 : zDc M_X8_line 319 (.istore 4) 2 321 := ⟨by decide +kernel, rfl⟩
theorem d_X8_line_321 : zDc M_X8_line 321 (.aload_n 0) 1 322 := ⟨by decide +kernel, rfl⟩
theorem d_X8_line_322 : zDc M_X8_line 322 (.getfield 40) 3 325 := ⟨by decide +kernel, rfl⟩
theorem d_X8_line_325 : zDc M_X8_line 325 (.iload 4) 2 327 := ⟨by decide +kernel, rfl⟩
theorem d_X8_line_327 : zDc M_X8_line 327 (.aload_n 0) 1 328 := ⟨by decide +kernel, rfl⟩
theorem d_X8_line_328 : zDc M_X8_line 328 (.aload_n 0) 1 329 := ⟨by decide +kernel, rfl⟩
theorem d_X8_line_329 : zDc M_X8_line 329 (.getfield 40) 3 332 := ⟨by decide +kernel, rfl⟩
theorem d_X8_line_332 : zDc M_X8_line 332 (.bipush 6) 2 334 := ⟨by decide +kernel, rfl⟩
theorem d_X8_line_334 : zDc M_X8_line 334 (.aload_n 0) 1 335 := ⟨by decide +kernel, rfl⟩
theorem d_X8_line_335 : zDc M_X8_line 335 (.iconst 2) 1 336 := ⟨by decide +kernel, rfl⟩
theorem d_X8_line_336 : zDc M_X8_line 336 (.invokevirtual 225) 3 339 := ⟨by decide +kernel, rfl⟩
theorem d_X8_line_339 : zDc M_X8_line 339 (.invokevirtual 238) 3 342 := ⟨by decide +kernel, rfl⟩
theorem d_X8_line_342 : zDc M_X8_line 342 (.iastore) 1 343 := ⟨by decide +kernel, rfl⟩
theorem d_X8_line_343 : zDc M_X8_line 343 (.aload_n 0) 1 344 := ⟨by decide +kernel, rfl⟩
theorem d_X8_line_344 : zDc M_X8_line 344 (.getfield 43) 3 347 := ⟨by decide +kernel, rfl⟩
theorem d_X8_line_347 : zDc M_X8_line 347 (.iload 4) 2 349 := ⟨by decide +kernel, rfl⟩
theorem d_X8_line_349 : zDc M_X8_line 349 (.aload_n 0) 1 350 := ⟨by decide +kernel, rfl⟩
theorem d_X8_line_350 : zDc M_X8_line 350 (.invokevirtual 242) 3 353 := ⟨by decide +kernel, rfl⟩
theorem d_X8_line_353 : zDc M_X8_line 353 (.iastore) 1 354 := ⟨by decide +kernel, rfl⟩
theorem d_X8_line_354 : zDc M_X8_line 354 (.aload_n 0) 1 355 := ⟨by decide +kernel, rfl⟩
theorem d_X8_line_355 : zDc M_X8_line 355 (.getfield 46) 3 358 := ⟨by decide +kernel, rfl⟩
theorem d_X8_line_358 : zDc M_X8_line 358 (.iload 4) 2 360 := ⟨by decide +kernel, rfl⟩
theorem d_X8_line_360 : zDc M_X8_line 360 (.aload_n 0) 1 361 := ⟨by decide +kernel, rfl⟩
theorem d_X8_line_361 : zDc M_X8_line 361 (.iconst 0) 1 362 := ⟨by decide +kernel, rfl⟩
theorem d_X8_line_362 : zDc M_X8_line 362 (.bipush 9) 2 364 := ⟨by decide +kernel, rfl⟩
theorem d_X8_line_364 : zDc M_X8_line 364 (.invokevirtual 221) 3 367 := ⟨by decide +kernel, rfl⟩
theorem d_X8_line_367 : zDc M_X8_line 367 (.iastore) 1 368 := ⟨by decide +kernel, rfl⟩
theorem d_X8_line_368 : zDc M_X8_line 368 (.aload_n 0) 1 369 := ⟨by decide +kernel, rfl⟩
theorem d_X8_line_369 : zDc M_X8_line 369 (.iconst 2) 1 370 := ⟨by decide +kernel, rfl⟩
theorem d_X8_line_370 : zDc M_X8_line 370 (.aload_n 0) 1 371 := ⟨by decide +kernel, rfl⟩
theorem d_X8_line_371 : zDc M_X8_line 371 (.iconst 2) 1 372 := ⟨by decide +kernel, rfl⟩
theorem d_X8_line_372 : zDc M_X8_line 372 (.invokevirtual 225) 3 375 := ⟨by decide +kernel, rfl⟩
theorem d_X8_line_375 : zDc M_X8_line 375 (.iconst 1) 1 376 := ⟨by decide +kernel, rfl⟩
theorem d_X8_line_376 : zDc M_X8_line 376 (.iadd) 1 377 := ⟨by decide +kernel, rfl⟩
theorem d_X8_line_377 : zDc M_X8_line 377 (.invokevirtual 245) 3 380 := ⟨by decide +kernel, rfl⟩
theorem d_X8_line_380 : zDj M_X8_line 380 (.goto 87) 87 383 467 := ⟨by decide +kernel, rfl, by decide⟩
theorem d_X8_line_383 : zDc M_X8_line 383 (.aload_n 0) 1 384 := ⟨by decide +kernel, rfl⟩
theorem d_X8_line_384 : zDc M_X8_line 384 (.getfield 49) 3 387 := ⟨by decide +kernel, rfl⟩
theorem d_X8_line_387 : zDc M_X8_line 387 (.bipush 12) 2 389 := ⟨by decide +kernel, rfl⟩
theorem d_X8_line_389 : zDc M_X8_line 389 (.aload_n 0) 1 390 := ⟨by decide +kernel, rfl⟩
theorem d_X8_line_390 : zDc M_X8_line 390 (.iconst 3) 1 391 := ⟨by decide +kernel, rfl⟩
theorem d_X8_line_391 : zDc M_X8_line 391 (.invokevirtual 225) 3 394 := ⟨by decide +kernel, rfl⟩
theorem d_X8_line_394 : zDc M_X8_line 394 (.iadd) 1 395 := ⟨by decide +kernel, rfl⟩
theorem d_X8_line_395 : zDc M_X8_line 395 (.aload_n 0) 1 396 := ⟨by decide +kernel, rfl⟩
theorem d_X8_line_396 : zDc M_X8_line 396 (.iconst 0) 1 397 := ⟨by decide +kernel, rfl⟩
theorem d_X8_line_397 : zDc M_X8_line 397 (.iconst 4) 1 398 := ⟨by decide +kernel, rfl⟩
theorem d_X8_line_398 : zDc M_X8_line 398 (.invokevirtual 221) 3 401 := ⟨by decide +kernel, rfl⟩
theorem d_X8_line_401 : zDc M_X8_line 401 (.iastore) 1 402 := ⟨by decide +kernel, rfl⟩
theorem d_X8_line_402 : zDc M_X8_line 402 (.aload_n 0) 1 403 := ⟨by decide +kernel, rfl⟩
theorem d_X8_line_403 : zDc M_X8_line 403 (.iconst 3) 1 404 := ⟨by decide +kernel, rfl⟩
theorem d_X8_line_404 : zDc M_X8_line 404 (.aload_n 0) 1 405 := ⟨by decide +kernel, rfl⟩
theorem d_X8_line_405 : zDc M_X8_line 405 (.iconst 3) 1 406 := ⟨by decide +kernel, rfl⟩
theorem d_X8_line_406 : zDc M_X8_line 406 (.invokevirtual 225) 3 409 := ⟨by decide +kernel, rfl⟩
theorem d_X8_line_409 : zDc M_X8_line 409 (.iconst 1) 1 410 := ⟨by decide +kernel, rfl⟩
theorem d_X8_line_410 : zDc M_X8_line 410 (.iadd) 1 411 := ⟨by decide +kernel, rfl⟩
theorem d_X8_line_411 : zDc M_X8_line 411 (.invokevirtual 245) 3 414 := ⟨by decide +kernel, rfl⟩
theorem d_X8_line_414 : zDj M_X8_line 414 (.goto 53) 53 417 467 := ⟨by decide +kernel, rfl, by decide⟩
theorem d_X8_line_417 : zDc M_X8_line 417 (.aload_n 0) 1 418 := ⟨by decide +kernel, rfl⟩
theorem d_X8_line_418 : zDc M_X8_line 418 (.iconst 4) 1 419 := ⟨by decide +kernel, rfl⟩
theorem d_X8_line_419 : zDc M_X8_line 419 (.aload_n 0) 1 420 := ⟨by decide +kernel, rfl⟩
theorem d_X8_line_420 : zDc M_X8_line 420 (.iconst 1) 1 421 := ⟨by decide +kernel, rfl⟩
theorem d_X8_line_421 : zDc M_X8_line 421 (.bipush 20) 2 423 := ⟨by decide +kernel, rfl⟩
theorem d_X8_line_423 : zDc M_X8_line 423 (.invokevirtual 221) 3 426 := ⟨by decide +kernel, rfl⟩
theorem d_X8_line_426 : zDc M_X8_line 426 (.invokevirtual 245) 3 429 := ⟨by decide +kernel, rfl⟩
theorem d_X8_line_429 : zDj M_X8_line 429 (.goto 38) 38 432 467 := ⟨by decide +kernel, rfl, by decide⟩
theorem d_X8_line_432 : zDc M_X8_line 432 (.aload_n 0) 1 433 := ⟨by decide +kernel, rfl⟩
theorem d_X8_line_433 : zDc M_X8_line 433 (.iconst 5) 1 434 := ⟨by decide +kernel, rfl⟩
theorem d_X8_line_434 : zDc M_X8_line 434 (.aload_n 0) 1 435 := ⟨by decide +kernel, rfl⟩
theorem d_X8_line_435 : zDc M_X8_line 435 (.iconst 1) 1 436 := ⟨by decide +kernel, rfl⟩
theorem d_X8_line_436 : zDc M_X8_line 436 (.bipush 9) 2 438 := ⟨by decide +kernel, rfl⟩
theorem d_X8_line_438 : zDc M_X8_line 438 (.invokevirtual 221) 3 441 := ⟨by decide +kernel, rfl⟩
theorem d_X8_line_441 : zDc M_X8_line 441 (.invokevirtual 245) 3 444 := ⟨by decide +kernel, rfl⟩
theorem d_X8_line_444 : zDj M_X8_line 444 (.goto 23) 23 447 467 := ⟨by decide +kernel, rfl, by decide⟩
theorem d_X8_line_447 : zDc M_X8_line 447 (.aload_n 0) 1 448 := ⟨by decide +kernel, rfl⟩
theorem d_X8_line_448 : zDc M_X8_line 448 (.bipush 6) 2 450 := ⟨by decide +kernel, rfl⟩
theorem d_X8_line_450 : zDc M_X8_line 450 (.aload_n 0) 1 451 := ⟨by decide +kernel, rfl⟩
theorem d_X8_line_451 : zDc M_X8_line 451 (.iconst 0) 1 452 := ⟨by decide +kernel, rfl⟩
theorem d_X8_line_452 : zDc M_X8_line 452 (.ldc 189) 2 454 := ⟨by decide +kernel, rfl⟩
theorem d_X8_line_454 : zDc M_X8_line 454 (.invokevirtual 221) 3 457 := ⟨by decide +kernel, rfl⟩
theorem d_X8_line_457 : zDc M_X8_line 457 (.invokevirtual 245) 3 460 := ⟨by decide +kernel, rfl⟩
theorem d_X8_line_460 : zDj M_X8_line 460 (.goto 7) 7 463 467 := ⟨by decide +kernel, rfl, by decide⟩
theorem d_X8_line_463 : zDc M_X8_line 463 (.aload_n 0) 1 464 := ⟨by decide +kernel, rfl⟩
theorem d_X8_line_464 : zDc M_X8_line 464 (.invokevirtual 249) 3 467 := ⟨by decide +kernel, rfl⟩
theorem d_X8_line_467 : zDc M_X8_line 467 (.aload_n 0) 1 468 := ⟨by decide +kernel, rfl⟩
theorem d_X8_line_468 : zDc M_X8_line 468 (.getfield 205) 3 471 := ⟨by decide +kernel, rfl⟩
theorem d_X8_line_471 : zDj M_X8_line 471 (.ifCond .eq 4) 4 474 475 := ⟨by decide +kernel, rfl, by decide⟩
theorem d_X8_line_474 : zDc M_X8_line 474 (.return_) 1 475 := ⟨by decide +kernel, rfl⟩
theorem d_X8_line_475 : zDc M_X8_line 475 (.aload_n 0) 1 476 := ⟨by decide +kernel, rfl⟩
theorem d_X8_line_476 : zDc M_X8_line 476 (.bipush 59) 2 478 := ⟨by decide +kernel, rfl⟩
theorem d_X8_line_478 : zDc M_X8_line 478 (.invokevirtual 252) 3 481 := ⟨by decide +kernel, rfl⟩
theorem d_X8_line_481 : zDj M_X8_line 481 (.ifCond .ne 11) 11 484 492 := ⟨by decide +kernel, rfl, by decide⟩
theorem d_X8_line_484 : zDc M_X8_line 484 (.aload_n 0) 1 485 := ⟨by decide +kernel, rfl⟩
theorem d_X8_line_485 : zDc M_X8_line 485 (.iconst 1) 1 486 := ⟨by decide +kernel, rfl⟩
theorem d_X8_line_486 : zDc M_X8_line 486 (.invokevirtual 214) 3 489 := ⟨by decide +kernel, rfl⟩
theorem d_X8_line_489 : zDj M_X8_line 489 (.goto 7) 7 492 496 := ⟨by decide +kernel, rfl, by decide⟩
theorem d_X8_line_492 : zDc M_X8_line 492 (.aload_n 0) 1 493 := ⟨by decide +kernel, rfl⟩
theorem d_X8_line_493 : zDc M_X8_line 493 (.invokevirtual 211) 3 496 := ⟨by decide +kernel, rfl⟩
theorem d_X8_line_496 : zDc M_X8_line 496 (.aload_n 0) 1 497 := ⟨by decide +kernel, rfl⟩
theorem d_X8_line_497 : zDc M_X8_line 497 (.dup) 1 498 := ⟨by decide +kernel, rfl⟩
theorem d_X8_line_498 : zDc M_X8_line 498 (.getfield 255) 3 501 := ⟨by decide +kernel, rfl⟩
theorem d_X8_line_501 : zDc M_X8_line 501 (.iconst 1) 1 502 := ⟨by decide +kernel, rfl⟩
theorem d_X8_line_502 : zDc M_X8_line 502 (.iadd) 1 503 := ⟨by decide +kernel, rfl⟩
theorem d_X8_line_503 : zDc M_X8_line 503 (.putfield 255) 3 506 := ⟨by decide +kernel, rfl⟩
theorem d_X8_line_506 : zDc M_X8_line 506 (.return_) 1 507 := ⟨by decide +kernel, rfl⟩
def f_X8_line (a0 : Nat) (h0 : zHp) : Option (Unit × zHp) :=
  zob (zgI h0 a0 8 25) (fun v1 =>
  zbd (α := (Unit ⊕ Unit)) (
  if v1 = 0 then
  zob (zgI h0 a0 8 26) (fun v2 =>
  if v2 ≤ 9 then
  zob (zgI h0 a0 8 26) (fun v3 =>
  zbd (zcv 8 a0 h0 (f_X8_isFull a0 v3 h0)) (fun v5 h4 =>
  zbd (α := Unit) (
  if v5 = 0 then
  if v3 < 6 then
  some ((), h4)
  else
  if 8 < v3 then
  some ((), h4)
  else
  zob (zgI h4 a0 8 20) (fun v6 =>
  if ((v6 >>> (v3 &&& 31)) &&& 1) = 1 then
  zbd (zcv 8 a0 h4 (f_X8_wrong a0 3 h4)) (fun v8 h7 =>
  some ((), h7))
  else
  some ((), h4))
  else
  zbd (zcv 8 a0 h4 (f_X8_wrong a0 2 h4)) (fun v10 h9 =>
  some ((), h9))) (fun e11 h12 =>
  zob (zgI h12 a0 8 27) (fun v13 =>
  if v13 = 0 then
  zob (zgI h12 a0 8 20) (fun v14 =>
  zob (zpV h12 a0 8 20 (.int (v14 ||| (1 <<< (v3 &&& 31))))) (fun h15 =>
  zbd (zcv 8 a0 h15 (f_X8_token a0 h15)) (fun v17 h16 =>
  zbd (α := Unit) (
  if v3 = 0 then
  zbd (α := Int32) (
  if v3 = 0 then
  some (1, h16)
  else
  some (2, h16)) (fun e18 h19 =>
  zbd (zcv 8 a0 h19 (f_X8_groundLine a0 e18 h19)) (fun v21 h20 =>
  some ((), h20)))
  else if v3 = 1 then
  zbd (α := Int32) (
  if v3 = 0 then
  some (1, h16)
  else
  some (2, h16)) (fun e22 h23 =>
  zbd (zcv 8 a0 h23 (f_X8_groundLine a0 e22 h23)) (fun v25 h24 =>
  some ((), h24)))
  else if v3 = 2 then
  zbd (zcv 8 a0 h16 (f_X8_fresher a0 0 h16)) (fun v27 h26 =>
  zob (zgR h26 a0 8 5) (fun v28 =>
  zob (zgR h26 a0 8 5) (fun v29 =>
  zbd (zcv 8 a0 h26 (f_X8_fresher a0 0 h26)) (fun v31 h30 =>
  zbd (zcv 8 a0 h30 (f_X8_fresh a0 v29 5 v31 h30)) (fun v33 h32 =>
  zob (zsI 0 h32 v28 (5 + v27) v33) (fun h34 =>
  zob (zgR h34 a0 8 6) (fun v35 =>
  zbd (zcv 8 a0 h34 (f_X8_cellAhead a0 h34)) (fun v37 h36 =>
  zob (zsI 0 h36 v35 (5 + v27) v37) (fun h38 =>
  zob (zgR h38 a0 8 7) (fun v39 =>
  zbd (zcv 8 a0 h38 (f_X8_numeral a0 0 99 h38)) (fun v41 h40 =>
  zob (zsI 0 h40 v39 (5 + v27) v41) (fun h42 =>
  zbd (zcv 8 a0 h42 (f_X8_fresher a0 0 h42)) (fun v44 h43 =>
  zbd (zcv 8 a0 h43 (f_X8_reads a0 0 (v44 + 1) h43)) (fun v46 h45 =>
  some ((), h45)))))))))))))))
  else if v3 = 3 then
  zbd (zcv 8 a0 h16 (f_X8_fresher a0 1 h16)) (fun v48 h47 =>
  zob (zgR h47 a0 8 8) (fun v49 =>
  zob (zgR h47 a0 8 8) (fun v50 =>
  zbd (zcv 8 a0 h47 (f_X8_fresher a0 1 h47)) (fun v52 h51 =>
  zbd (zcv 8 a0 h51 (f_X8_fresh a0 v50 8 v52 h51)) (fun v54 h53 =>
  zob (zsI 0 h53 v49 (8 + v48) v54) (fun h55 =>
  zob (zgR h55 a0 8 9) (fun v56 =>
  zbd (zcv 8 a0 h55 (f_X8_cellAhead a0 h55)) (fun v58 h57 =>
  zob (zsI 0 h57 v56 (8 + v48) v58) (fun h59 =>
  zob (zgR h59 a0 8 10) (fun v60 =>
  zbd (zcv 8 a0 h59 (f_X8_numeral a0 1 9 h59)) (fun v62 h61 =>
  zob (zsI 0 h61 v60 (8 + v48) v62) (fun h63 =>
  zob (zgR h63 a0 8 11) (fun v64 =>
  zbd (zcv 8 a0 h63 (f_X8_numeral a0 0 99 h63)) (fun v66 h65 =>
  zob (zsI 0 h65 v64 (8 + v48) v66) (fun h67 =>
  zbd (zcv 8 a0 h67 (f_X8_fresher a0 1 h67)) (fun v69 h68 =>
  zbd (zcv 8 a0 h68 (f_X8_reads a0 1 (v69 + 1) h68)) (fun v71 h70 =>
  some ((), h70))))))))))))))))))
  else if v3 = 4 then
  zbd (zcv 8 a0 h16 (f_X8_fresher a0 2 h16)) (fun v73 h72 =>
  zob (zgR h72 a0 8 12) (fun v74 =>
  zob (zgR h72 a0 8 12) (fun v75 =>
  zbd (zcv 8 a0 h72 (f_X8_fresher a0 2 h72)) (fun v77 h76 =>
  zbd (zcv 8 a0 h76 (f_X8_fresh a0 v75 6 v77 h76)) (fun v79 h78 =>
  zob (zsI 0 h78 v74 (6 + v73) v79) (fun h80 =>
  zob (zgR h80 a0 8 13) (fun v81 =>
  zbd (zcv 8 a0 h80 (f_X8_cellAhead a0 h80)) (fun v83 h82 =>
  zob (zsI 0 h82 v81 (6 + v73) v83) (fun h84 =>
  zob (zgR h84 a0 8 14) (fun v85 =>
  zbd (zcv 8 a0 h84 (f_X8_numeral a0 0 9 h84)) (fun v87 h86 =>
  zob (zsI 0 h86 v85 (6 + v73) v87) (fun h88 =>
  zbd (zcv 8 a0 h88 (f_X8_fresher a0 2 h88)) (fun v90 h89 =>
  zbd (zcv 8 a0 h89 (f_X8_reads a0 2 (v90 + 1) h89)) (fun v92 h91 =>
  some ((), h91)))))))))))))))
  else if v3 = 5 then
  zob (zgR h16 a0 8 15) (fun v93 =>
  zbd (zcv 8 a0 h16 (f_X8_fresher a0 3 h16)) (fun v95 h94 =>
  zbd (zcv 8 a0 h94 (f_X8_numeral a0 0 4 h94)) (fun v97 h96 =>
  zob (zsI 0 h96 v93 (12 + v95) v97) (fun h98 =>
  zbd (zcv 8 a0 h98 (f_X8_fresher a0 3 h98)) (fun v100 h99 =>
  zbd (zcv 8 a0 h99 (f_X8_reads a0 3 (v100 + 1) h99)) (fun v102 h101 =>
  some ((), h101)))))))
  else if v3 = 6 then
  zbd (zcv 8 a0 h16 (f_X8_numeral a0 1 20 h16)) (fun v104 h103 =>
  zbd (zcv 8 a0 h103 (f_X8_reads a0 4 v104 h103)) (fun v106 h105 =>
  some ((), h105)))
  else if v3 = 7 then
  zbd (zcv 8 a0 h16 (f_X8_numeral a0 1 9 h16)) (fun v108 h107 =>
  zbd (zcv 8 a0 h107 (f_X8_reads a0 5 v108 h107)) (fun v110 h109 =>
  some ((), h109)))
  else if v3 = 8 then
  zbd (zcv 8 a0 h16 (f_X8_numeral a0 0 99999 h16)) (fun v112 h111 =>
  zbd (zcv 8 a0 h111 (f_X8_reads a0 6 v112 h111)) (fun v114 h113 =>
  some ((), h113)))
  else 
  zbd (zcv 8 a0 h16 (f_X8_lawLine a0 h16)) (fun v116 h115 =>
  some ((), h115))) (fun e117 h118 =>
  zob (zgI h118 a0 8 27) (fun v119 =>
  if v119 = 0 then
  zbd (zcv 8 a0 h118 (f_X8_isSign a0 59 h118)) (fun v121 h120 =>
  zbd (α := Unit) (
  if v121 = 0 then
  zbd (zcv 8 a0 h120 (f_X8_wrong a0 1 h120)) (fun v123 h122 =>
  some ((), h122))
  else
  zbd (zcv 8 a0 h120 (f_X8_token a0 h120)) (fun v125 h124 =>
  some ((), h124))) (fun e126 h127 =>
  zob (zgI h127 a0 8 21) (fun v128 =>
  zob (zpV h127 a0 8 21 (.int (v128 + 1))) (fun h129 =>
  some ((.inr ()), h129)))))
  else
  some ((.inr ()), h118))))))
  else
  some ((.inr ()), h12)))))
  else
  some ((.inl ()), h0))
  else
  some ((.inl ()), h0)) (fun b143 h131 => zsl b143 (fun e130 =>
  zbd (zcv 8 a0 h131 (f_X8_wrong a0 1 h131)) (fun v133 h132 =>
  some ((), h132))) (fun r => some (r, h131))))
set_option maxRecDepth 100000 in
set_option maxHeartbeats 4000000 in
theorem t_X8_line (a0 : Nat) (h0 : zHp) : ∀ (r : Unit) (h' : zHp), f_X8_line a0 h0 = some (r, h') → zCt yX8_line (.code yX8_line cX8_line 5 none) 210 4506 0 0 [.ref a0] h0 (none) h' := by
  refine zct_of M_X8_line yX8_line (by decide) rfl rfl [.ref a0] h0 (Nat.le_of_ble_eq_true rfl) (fun _ => none) (fun X => ?_)
  show zG X M_X8_line (0, 0) 0 [(0, .ref a0)] [] h0 (f_X8_line a0 h0) (fun (_ : Unit) h' => zKe X (none) h')
  unfold f_X8_line
  refine zg_aload_n 0 rfl d_X8_line_0 ?_
  refine zg_getI d_X8_line_1 zc_8 (by decide) fl_X8_170 (fun v1 => ?_)
  refine zg_bdr (E := 16) (el := (fun (e130 : Unit) => [(0, .ref a0)])) (es := (fun (e130 : Unit) => [])) ?_ (fun e130 h131 => ?_)
  · refine zg_if_ne d_X8_line_4 ?_ ?_
    · refine zg_aload_n 0 rfl d_X8_line_7 ?_
      refine zg_getI d_X8_line_8 zc_8 (by decide) fl_X8_180 (fun v2 => ?_)
      refine zg_bipush 9 rfl d_X8_line_11 ?_
      refine zg_icmp_le d_X8_line_13 ?_ ?_
      · refine zg_aload_n 0 rfl d_X8_line_22 ?_
        refine zg_getI d_X8_line_23 zc_8 (by decide) fl_X8_180 (fun v3 => ?_)
        refine zg_istore_n [(1, .int v3), (0, .ref a0)] d_X8_line_26 rfl (by decide) rfl ?_
        refine zg_aload_n 1 rfl d_X8_line_27 ?_
        refine zg_iload_n 0 rfl d_X8_line_28 ?_
        refine zg_cVi (b := a0) (As := [.int v3]) (rest := []) (0, 0) d_X8_line_29 zc_8 rfl cw_X8_229 wi_X8_isFull ws_X8_isFull rfl rfl (Nat.le_of_ble_eq_true rfl) (by decide) (by decide) ⟨by decide, by decide⟩ rfl (t_X8_isFull a0 v3 h0) (fun v5 h4 => ?_)
        refine zg_bd (E := 72) (el := (fun (e11 : Unit) => [(0, .ref a0), (1, .int v3)])) (es := (fun (e11 : Unit) => [])) ?_ (fun e11 h12 => ?_)
        · refine zg_if_eq d_X8_line_32 ?_ ?_
          · refine zg_iload_n 0 rfl d_X8_line_43 ?_
            refine zg_bipush 6 rfl d_X8_line_44 ?_
            refine zg_icmp_lt d_X8_line_46 ?_ ?_
            · exact zg_finK (E := 0) [1, 0] rfl rfl (fun q => q)
            · refine zg_iload_n 0 rfl d_X8_line_49 ?_
              refine zg_bipush 8 rfl d_X8_line_50 ?_
              refine zg_icmp_gt d_X8_line_52 ?_ ?_
              · exact zg_finK (E := 0) [1, 0] rfl rfl (fun q => q)
              · refine zg_aload_n 1 rfl d_X8_line_55 ?_
                refine zg_getI d_X8_line_56 zc_8 (by decide) fl_X8_232 (fun v6 => ?_)
                refine zg_iload_n 0 rfl d_X8_line_59 ?_
                refine zg_ishr d_X8_line_60 ?_
                refine zg_iconst 1 rfl d_X8_line_61 ?_
                refine zg_iand d_X8_line_62 ?_
                refine zg_iconst 1 rfl d_X8_line_63 ?_
                refine zg_icmp_ne d_X8_line_64 ?_ ?_
                · refine zg_aload_n 1 rfl d_X8_line_67 ?_
                  refine zg_iconst 3 rfl d_X8_line_68 ?_
                  refine zg_cVv (b := a0) (As := [.int 3]) (rest := []) (0, 0) d_X8_line_69 zc_8 rfl cw_X8_214 wi_X8_wrong ws_X8_wrong rfl rfl (Nat.le_of_ble_eq_true rfl) (by decide) (by decide) ⟨by decide, by decide⟩ rfl (t_X8_wrong a0 3 h4) (fun v8 h7 => ?_)
                  exact zg_finK (E := 0) [1, 0] rfl rfl (fun q => q)
                · exact zg_finK (E := 0) [1, 0] rfl rfl (fun q => q)
          · refine zg_aload_n 1 rfl d_X8_line_35 ?_
            refine zg_iconst 2 rfl d_X8_line_36 ?_
            refine zg_cVv (b := a0) (As := [.int 2]) (rest := []) (0, 0) d_X8_line_37 zc_8 rfl cw_X8_214 wi_X8_wrong ws_X8_wrong rfl rfl (Nat.le_of_ble_eq_true rfl) (by decide) (by decide) ⟨by decide, by decide⟩ rfl (t_X8_wrong a0 2 h4) (fun v10 h9 => ?_)
            refine zg_goto d_X8_line_40 ?_
            exact zg_finK (E := 0) [1, 0] rfl rfl (fun q => q)
        · refine zg_aload_n 0 rfl d_X8_line_72 ?_
          refine zg_getI d_X8_line_73 zc_8 (by decide) fl_X8_205 (fun v13 => ?_)
          refine zg_if_eq d_X8_line_76 ?_ ?_
          · refine zg_aload_n 0 rfl d_X8_line_80 ?_
            refine zg_dup rfl d_X8_line_81 ?_
            refine zg_getI d_X8_line_82 zc_8 (by decide) fl_X8_232 (fun v14 => ?_)
            refine zg_iconst 1 rfl d_X8_line_85 ?_
            refine zg_iload_n 1 rfl d_X8_line_86 ?_
            refine zg_ishl d_X8_line_87 ?_
            refine zg_ior d_X8_line_88 ?_
            refine zg_putV d_X8_line_89 zc_8 (by decide) fl_X8_232 rfl rfl rfl (fun h15 => ?_)
            refine zg_aload_n 0 rfl d_X8_line_92 ?_
            refine zg_cVv (b := a0) (As := []) (rest := []) (0, 0) d_X8_line_93 zc_8 rfl cw_X8_211 wi_X8_token ws_X8_token rfl rfl (Nat.le_of_ble_eq_true rfl) (by decide) (by decide) ⟨by decide, by decide⟩ rfl (t_X8_token a0 h15) (fun v17 h16 => ?_)
            refine zg_iload_n 1 rfl d_X8_line_96 ?_
            refine zg_bd (E := 467) (el := (fun (e117 : Unit) => [(0, .ref a0), (1, .int v3)])) (es := (fun (e117 : Unit) => [])) ?_ (fun e117 h118 => ?_)
            · refine zg_if (fun n134 => ?_) (fun n134 => ?_)
              · refine zg_tabE n134 d_X8_line_97 (by decide) (by decide) (off := 51) rfl (tgt := 148) (by decide) ?_
                refine zg_aload_n 0 rfl d_X8_line_148 ?_
                refine zg_iload_n 1 rfl d_X8_line_149 ?_
                refine zg_bd (E := 158) (el := (fun (e18 : Int32) => [(0, .ref a0), (1, .int v3)])) (es := (fun (e18 : Int32) => [.int e18, .ref a0])) ?_ (fun e18 h19 => ?_)
                · refine zg_if_ne d_X8_line_150 ?_ ?_
                  · refine zg_iconst 1 rfl d_X8_line_153 ?_
                    refine zg_goto d_X8_line_154 ?_
                    exact zg_finK (E := 0) [0, 1] rfl rfl (fun q => q)
                  · refine zg_iconst 2 rfl d_X8_line_157 ?_
                    exact zg_finK (E := 0) [0, 1] rfl rfl (fun q => q)
                · refine zg_cVv (b := a0) (As := [.int e18]) (rest := []) (0, 0) d_X8_line_158 zc_8 rfl cw_X8_235 wi_X8_groundLine ws_X8_groundLine rfl rfl (Nat.le_of_ble_eq_true rfl) (by decide) (by decide) ⟨by decide, by decide⟩ rfl (t_X8_groundLine a0 e18 h19) (fun v21 h20 => ?_)
                  refine zg_goto d_X8_line_161 ?_
                  exact zg_finK (E := 0) [0, 1] rfl rfl (fun q => q)
              refine zg_if (fun n135 => ?_) (fun n135 => ?_)
              · refine zg_tabE n135 d_X8_line_97 (by decide) (by decide) (off := 51) rfl (tgt := 148) (by decide) ?_
                refine zg_aload_n 0 rfl d_X8_line_148 ?_
                refine zg_iload_n 1 rfl d_X8_line_149 ?_
                refine zg_bd (E := 158) (el := (fun (e22 : Int32) => [(0, .ref a0), (1, .int v3)])) (es := (fun (e22 : Int32) => [.int e22, .ref a0])) ?_ (fun e22 h23 => ?_)
                · refine zg_if_ne d_X8_line_150 ?_ ?_
                  · refine zg_iconst 1 rfl d_X8_line_153 ?_
                    refine zg_goto d_X8_line_154 ?_
                    exact zg_finK (E := 0) [0, 1] rfl rfl (fun q => q)
                  · refine zg_iconst 2 rfl d_X8_line_157 ?_
                    exact zg_finK (E := 0) [0, 1] rfl rfl (fun q => q)
                · refine zg_cVv (b := a0) (As := [.int e22]) (rest := []) (0, 0) d_X8_line_158 zc_8 rfl cw_X8_235 wi_X8_groundLine ws_X8_groundLine rfl rfl (Nat.le_of_ble_eq_true rfl) (by decide) (by decide) ⟨by decide, by decide⟩ rfl (t_X8_groundLine a0 e22 h23) (fun v25 h24 => ?_)
                  refine zg_goto d_X8_line_161 ?_
                  exact zg_finK (E := 0) [0, 1] rfl rfl (fun q => q)
              refine zg_if (fun n136 => ?_) (fun n136 => ?_)
              · refine zg_tabE n136 d_X8_line_97 (by decide) (by decide) (off := 67) rfl (tgt := 164) (by decide) ?_
                refine zg_iconst 5 rfl d_X8_line_164 ?_
                refine zg_aload_n 0 rfl d_X8_line_165 ?_
                refine zg_iconst 0 rfl d_X8_line_166 ?_
                refine zg_cVi (b := a0) (As := [.int 0]) (rest := [.int 5]) (0, 0) d_X8_line_167 zc_8 rfl cw_X8_225 wi_X8_fresher ws_X8_fresher rfl rfl (Nat.le_of_ble_eq_true rfl) (by decide) (by decide) ⟨by decide, by decide⟩ rfl (t_X8_fresher a0 0 h16) (fun v27 h26 => ?_)
                refine zg_iadd d_X8_line_170 ?_
                refine zg_istore_n [(2, .int (5 + v27)), (0, .ref a0), (1, .int v3)] d_X8_line_171 rfl (by decide) rfl ?_
                refine zg_aload_n 1 rfl d_X8_line_172 ?_
                refine zg_getR d_X8_line_173 zc_8 (by decide) fl_X8_19 (fun v28 => ?_)
                refine zg_iload_n 0 rfl d_X8_line_176 ?_
                refine zg_aload_n 1 rfl d_X8_line_177 ?_
                refine zg_aload_n 1 rfl d_X8_line_178 ?_
                refine zg_getR d_X8_line_179 zc_8 (by decide) fl_X8_19 (fun v29 => ?_)
                refine zg_iconst 5 rfl d_X8_line_182 ?_
                refine zg_aload_n 1 rfl d_X8_line_183 ?_
                refine zg_iconst 0 rfl d_X8_line_184 ?_
                refine zg_cVi (b := a0) (As := [.int 0]) (rest := [.int 5, .ref v29, .ref a0, .int (5 + v27), .ref v28]) (0, 0) d_X8_line_185 zc_8 rfl cw_X8_225 wi_X8_fresher ws_X8_fresher rfl rfl (Nat.le_of_ble_eq_true rfl) (by decide) (by decide) ⟨by decide, by decide⟩ rfl (t_X8_fresher a0 0 h26) (fun v31 h30 => ?_)
                refine zg_cVi (b := a0) (As := [.ref v29, .int 5, .int v31]) (rest := [.int (5 + v27), .ref v28]) (0, 0) d_X8_line_188 zc_8 rfl cw_X8_238 wi_X8_fresh ws_X8_fresh rfl rfl (Nat.le_of_ble_eq_true rfl) (by decide) (by decide) ⟨by decide, by decide⟩ rfl (t_X8_fresh a0 v29 5 v31 h30) (fun v33 h32 => ?_)
                refine zg_ast0 d_X8_line_191 (fun h34 => ?_)
                refine zg_aload_n 1 rfl d_X8_line_192 ?_
                refine zg_getR d_X8_line_193 zc_8 (by decide) fl_X8_22 (fun v35 => ?_)
                refine zg_iload_n 0 rfl d_X8_line_196 ?_
                refine zg_aload_n 1 rfl d_X8_line_197 ?_
                refine zg_cVi (b := a0) (As := []) (rest := [.int (5 + v27), .ref v35]) (0, 0) d_X8_line_198 zc_8 rfl cw_X8_242 wi_X8_cellAhead ws_X8_cellAhead rfl rfl (Nat.le_of_ble_eq_true rfl) (by decide) (by decide) ⟨by decide, by decide⟩ rfl (t_X8_cellAhead a0 h34) (fun v37 h36 => ?_)
                refine zg_ast0 d_X8_line_201 (fun h38 => ?_)
                refine zg_aload_n 1 rfl d_X8_line_202 ?_
                refine zg_getR d_X8_line_203 zc_8 (by decide) fl_X8_25 (fun v39 => ?_)
                refine zg_iload_n 0 rfl d_X8_line_206 ?_
                refine zg_aload_n 1 rfl d_X8_line_207 ?_
                refine zg_iconst 0 rfl d_X8_line_208 ?_
                refine zg_bipush 99 rfl d_X8_line_209 ?_
                refine zg_cVi (b := a0) (As := [.int 0, .int 99]) (rest := [.int (5 + v27), .ref v39]) (0, 0) d_X8_line_211 zc_8 rfl cw_X8_221 wi_X8_numeral ws_X8_numeral rfl rfl (Nat.le_of_ble_eq_true rfl) (by decide) (by decide) ⟨by decide, by decide⟩ rfl (t_X8_numeral a0 0 99 h38) (fun v41 h40 => ?_)
                refine zg_ast0 d_X8_line_214 (fun h42 => ?_)
                refine zg_aload_n 1 rfl d_X8_line_215 ?_
                refine zg_iconst 0 rfl d_X8_line_216 ?_
                refine zg_aload_n 1 rfl d_X8_line_217 ?_
                refine zg_iconst 0 rfl d_X8_line_218 ?_
                refine zg_cVi (b := a0) (As := [.int 0]) (rest := [.int 0, .ref a0]) (0, 0) d_X8_line_219 zc_8 rfl cw_X8_225 wi_X8_fresher ws_X8_fresher rfl rfl (Nat.le_of_ble_eq_true rfl) (by decide) (by decide) ⟨by decide, by decide⟩ rfl (t_X8_fresher a0 0 h42) (fun v44 h43 => ?_)
                refine zg_iconst 1 rfl d_X8_line_222 ?_
                refine zg_iadd d_X8_line_223 ?_
                refine zg_cVv (b := a0) (As := [.int 0, .int (v44 + 1)]) (rest := []) (0, 0) d_X8_line_224 zc_8 rfl cw_X8_245 wi_X8_reads ws_X8_reads rfl rfl (Nat.le_of_ble_eq_true rfl) (by decide) (by decide) ⟨by decide, by decide⟩ rfl (t_X8_reads a0 0 (v44 + 1) h43) (fun v46 h45 => ?_)
                refine zg_goto d_X8_line_227 ?_
                exact zg_finK (E := 0) [1, 2] rfl rfl (fun q => q)
              refine zg_if (fun n137 => ?_) (fun n137 => ?_)
              · refine zg_tabE n137 d_X8_line_97 (by decide) (by decide) (off := 133) rfl (tgt := 230) (by decide) ?_
                refine zg_bipush 8 rfl d_X8_line_230 ?_
                refine zg_aload_n 0 rfl d_X8_line_232 ?_
                refine zg_iconst 1 rfl d_X8_line_233 ?_
                refine zg_cVi (b := a0) (As := [.int 1]) (rest := [.int 8]) (0, 0) d_X8_line_234 zc_8 rfl cw_X8_225 wi_X8_fresher ws_X8_fresher rfl rfl (Nat.le_of_ble_eq_true rfl) (by decide) (by decide) ⟨by decide, by decide⟩ rfl (t_X8_fresher a0 1 h16) (fun v48 h47 => ?_)
                refine zg_iadd d_X8_line_237 ?_
                refine zg_istore_n [(3, .int (8 + v48)), (0, .ref a0), (1, .int v3)] d_X8_line_238 rfl (by decide) rfl ?_
                refine zg_aload_n 1 rfl d_X8_line_239 ?_
                refine zg_getR d_X8_line_240 zc_8 (by decide) fl_X8_28 (fun v49 => ?_)
                refine zg_iload_n 0 rfl d_X8_line_243 ?_
                refine zg_aload_n 1 rfl d_X8_line_244 ?_
                refine zg_aload_n 1 rfl d_X8_line_245 ?_
                refine zg_getR d_X8_line_246 zc_8 (by decide) fl_X8_28 (fun v50 => ?_)
                refine zg_bipush 8 rfl d_X8_line_249 ?_
                refine zg_aload_n 1 rfl d_X8_line_251 ?_
                refine zg_iconst 1 rfl d_X8_line_252 ?_
                refine zg_cVi (b := a0) (As := [.int 1]) (rest := [.int 8, .ref v50, .ref a0, .int (8 + v48), .ref v49]) (0, 0) d_X8_line_253 zc_8 rfl cw_X8_225 wi_X8_fresher ws_X8_fresher rfl rfl (Nat.le_of_ble_eq_true rfl) (by decide) (by decide) ⟨by decide, by decide⟩ rfl (t_X8_fresher a0 1 h47) (fun v52 h51 => ?_)
                refine zg_cVi (b := a0) (As := [.ref v50, .int 8, .int v52]) (rest := [.int (8 + v48), .ref v49]) (0, 0) d_X8_line_256 zc_8 rfl cw_X8_238 wi_X8_fresh ws_X8_fresh rfl rfl (Nat.le_of_ble_eq_true rfl) (by decide) (by decide) ⟨by decide, by decide⟩ rfl (t_X8_fresh a0 v50 8 v52 h51) (fun v54 h53 => ?_)
                refine zg_ast0 d_X8_line_259 (fun h55 => ?_)
                refine zg_aload_n 1 rfl d_X8_line_260 ?_
                refine zg_getR d_X8_line_261 zc_8 (by decide) fl_X8_31 (fun v56 => ?_)
                refine zg_iload_n 0 rfl d_X8_line_264 ?_
                refine zg_aload_n 1 rfl d_X8_line_265 ?_
                refine zg_cVi (b := a0) (As := []) (rest := [.int (8 + v48), .ref v56]) (0, 0) d_X8_line_266 zc_8 rfl cw_X8_242 wi_X8_cellAhead ws_X8_cellAhead rfl rfl (Nat.le_of_ble_eq_true rfl) (by decide) (by decide) ⟨by decide, by decide⟩ rfl (t_X8_cellAhead a0 h55) (fun v58 h57 => ?_)
                refine zg_ast0 d_X8_line_269 (fun h59 => ?_)
                refine zg_aload_n 1 rfl d_X8_line_270 ?_
                refine zg_getR d_X8_line_271 zc_8 (by decide) fl_X8_34 (fun v60 => ?_)
                refine zg_iload_n 0 rfl d_X8_line_274 ?_
                refine zg_aload_n 1 rfl d_X8_line_275 ?_
                refine zg_iconst 1 rfl d_X8_line_276 ?_
                refine zg_bipush 9 rfl d_X8_line_277 ?_
                refine zg_cVi (b := a0) (As := [.int 1, .int 9]) (rest := [.int (8 + v48), .ref v60]) (0, 0) d_X8_line_279 zc_8 rfl cw_X8_221 wi_X8_numeral ws_X8_numeral rfl rfl (Nat.le_of_ble_eq_true rfl) (by decide) (by decide) ⟨by decide, by decide⟩ rfl (t_X8_numeral a0 1 9 h59) (fun v62 h61 => ?_)
                refine zg_ast0 d_X8_line_282 (fun h63 => ?_)
                refine zg_aload_n 1 rfl d_X8_line_283 ?_
                refine zg_getR d_X8_line_284 zc_8 (by decide) fl_X8_37 (fun v64 => ?_)
                refine zg_iload_n 0 rfl d_X8_line_287 ?_
                refine zg_aload_n 1 rfl d_X8_line_288 ?_
                refine zg_iconst 0 rfl d_X8_line_289 ?_
                refine zg_bipush 99 rfl d_X8_line_290 ?_
                refine zg_cVi (b := a0) (As := [.int 0, .int 99]) (rest := [.int (8 + v48), .ref v64]) (0, 0) d_X8_line_292 zc_8 rfl cw_X8_221 wi_X8_numeral ws_X8_numeral rfl rfl (Nat.le_of_ble_eq_true rfl) (by decide) (by decide) ⟨by decide, by decide⟩ rfl (t_X8_numeral a0 0 99 h63) (fun v66 h65 => ?_)
                refine zg_ast0 d_X8_line_295 (fun h67 => ?_)
                refine zg_aload_n 1 rfl d_X8_line_296 ?_
                refine zg_iconst 1 rfl d_X8_line_297 ?_
                refine zg_aload_n 1 rfl d_X8_line_298 ?_
                refine zg_iconst 1 rfl d_X8_line_299 ?_
                refine zg_cVi (b := a0) (As := [.int 1]) (rest := [.int 1, .ref a0]) (0, 0) d_X8_line_300 zc_8 rfl cw_X8_225 wi_X8_fresher ws_X8_fresher rfl rfl (Nat.le_of_ble_eq_true rfl) (by decide) (by decide) ⟨by decide, by decide⟩ rfl (t_X8_fresher a0 1 h67) (fun v69 h68 => ?_)
                refine zg_iconst 1 rfl d_X8_line_303 ?_
                refine zg_iadd d_X8_line_304 ?_
                refine zg_cVv (b := a0) (As := [.int 1, .int (v69 + 1)]) (rest := []) (0, 0) d_X8_line_305 zc_8 rfl cw_X8_245 wi_X8_reads ws_X8_reads rfl rfl (Nat.le_of_ble_eq_true rfl) (by decide) (by decide) ⟨by decide, by decide⟩ rfl (t_X8_reads a0 1 (v69 + 1) h68) (fun v71 h70 => ?_)
                refine zg_goto d_X8_line_308 ?_
                exact zg_finK (E := 0) [1, 2] rfl rfl (fun q => q)
              refine zg_if (fun n138 => ?_) (fun n138 => ?_)
              · refine zg_tabE n138 d_X8_line_97 (by decide) (by decide) (off := 214) rfl (tgt := 311) (by decide) ?_
                refine zg_bipush 6 rfl d_X8_line_311 ?_
                refine zg_aload_n 0 rfl d_X8_line_313 ?_
                refine zg_iconst 2 rfl d_X8_line_314 ?_
                refine zg_cVi (b := a0) (As := [.int 2]) (rest := [.int 6]) (0, 0) d_X8_line_315 zc_8 rfl cw_X8_225 wi_X8_fresher ws_X8_fresher rfl rfl (Nat.le_of_ble_eq_true rfl) (by decide) (by decide) ⟨by decide, by decide⟩ rfl (t_X8_fresher a0 2 h16) (fun v73 h72 => ?_)
                refine zg_iadd d_X8_line_318 ?_
                refine zg_istore [(4, .int (6 + v73)), (0, .ref a0), (1, .int v3)] d_X8_line_319 (by decide) rfl ?_
                refine zg_aload_n 1 rfl d_X8_line_321 ?_
                refine zg_getR d_X8_line_322 zc_8 (by decide) fl_X8_40 (fun v74 => ?_)
                refine zg_iload 0 rfl d_X8_line_325 ?_
                refine zg_aload_n 1 rfl d_X8_line_327 ?_
                refine zg_aload_n 1 rfl d_X8_line_328 ?_
                refine zg_getR d_X8_line_329 zc_8 (by decide) fl_X8_40 (fun v75 => ?_)
                refine zg_bipush 6 rfl d_X8_line_332 ?_
                refine zg_aload_n 1 rfl d_X8_line_334 ?_
                refine zg_iconst 2 rfl d_X8_line_335 ?_
                refine zg_cVi (b := a0) (As := [.int 2]) (rest := [.int 6, .ref v75, .ref a0, .int (6 + v73), .ref v74]) (0, 0) d_X8_line_336 zc_8 rfl cw_X8_225 wi_X8_fresher ws_X8_fresher rfl rfl (Nat.le_of_ble_eq_true rfl) (by decide) (by decide) ⟨by decide, by decide⟩ rfl (t_X8_fresher a0 2 h72) (fun v77 h76 => ?_)
                refine zg_cVi (b := a0) (As := [.ref v75, .int 6, .int v77]) (rest := [.int (6 + v73), .ref v74]) (0, 0) d_X8_line_339 zc_8 rfl cw_X8_238 wi_X8_fresh ws_X8_fresh rfl rfl (Nat.le_of_ble_eq_true rfl) (by decide) (by decide) ⟨by decide, by decide⟩ rfl (t_X8_fresh a0 v75 6 v77 h76) (fun v79 h78 => ?_)
                refine zg_ast0 d_X8_line_342 (fun h80 => ?_)
                refine zg_aload_n 1 rfl d_X8_line_343 ?_
                refine zg_getR d_X8_line_344 zc_8 (by decide) fl_X8_43 (fun v81 => ?_)
                refine zg_iload 0 rfl d_X8_line_347 ?_
                refine zg_aload_n 1 rfl d_X8_line_349 ?_
                refine zg_cVi (b := a0) (As := []) (rest := [.int (6 + v73), .ref v81]) (0, 0) d_X8_line_350 zc_8 rfl cw_X8_242 wi_X8_cellAhead ws_X8_cellAhead rfl rfl (Nat.le_of_ble_eq_true rfl) (by decide) (by decide) ⟨by decide, by decide⟩ rfl (t_X8_cellAhead a0 h80) (fun v83 h82 => ?_)
                refine zg_ast0 d_X8_line_353 (fun h84 => ?_)
                refine zg_aload_n 1 rfl d_X8_line_354 ?_
                refine zg_getR d_X8_line_355 zc_8 (by decide) fl_X8_46 (fun v85 => ?_)
                refine zg_iload 0 rfl d_X8_line_358 ?_
                refine zg_aload_n 1 rfl d_X8_line_360 ?_
                refine zg_iconst 0 rfl d_X8_line_361 ?_
                refine zg_bipush 9 rfl d_X8_line_362 ?_
                refine zg_cVi (b := a0) (As := [.int 0, .int 9]) (rest := [.int (6 + v73), .ref v85]) (0, 0) d_X8_line_364 zc_8 rfl cw_X8_221 wi_X8_numeral ws_X8_numeral rfl rfl (Nat.le_of_ble_eq_true rfl) (by decide) (by decide) ⟨by decide, by decide⟩ rfl (t_X8_numeral a0 0 9 h84) (fun v87 h86 => ?_)
                refine zg_ast0 d_X8_line_367 (fun h88 => ?_)
                refine zg_aload_n 1 rfl d_X8_line_368 ?_
                refine zg_iconst 2 rfl d_X8_line_369 ?_
                refine zg_aload_n 1 rfl d_X8_line_370 ?_
                refine zg_iconst 2 rfl d_X8_line_371 ?_
                refine zg_cVi (b := a0) (As := [.int 2]) (rest := [.int 2, .ref a0]) (0, 0) d_X8_line_372 zc_8 rfl cw_X8_225 wi_X8_fresher ws_X8_fresher rfl rfl (Nat.le_of_ble_eq_true rfl) (by decide) (by decide) ⟨by decide, by decide⟩ rfl (t_X8_fresher a0 2 h88) (fun v90 h89 => ?_)
                refine zg_iconst 1 rfl d_X8_line_375 ?_
                refine zg_iadd d_X8_line_376 ?_
                refine zg_cVv (b := a0) (As := [.int 2, .int (v90 + 1)]) (rest := []) (0, 0) d_X8_line_377 zc_8 rfl cw_X8_245 wi_X8_reads ws_X8_reads rfl rfl (Nat.le_of_ble_eq_true rfl) (by decide) (by decide) ⟨by decide, by decide⟩ rfl (t_X8_reads a0 2 (v90 + 1) h89) (fun v92 h91 => ?_)
                refine zg_goto d_X8_line_380 ?_
                exact zg_finK (E := 0) [1, 2] rfl rfl (fun q => q)
              refine zg_if (fun n139 => ?_) (fun n139 => ?_)
              · refine zg_tabE n139 d_X8_line_97 (by decide) (by decide) (off := 286) rfl (tgt := 383) (by decide) ?_
                refine zg_aload_n 0 rfl d_X8_line_383 ?_
                refine zg_getR d_X8_line_384 zc_8 (by decide) fl_X8_49 (fun v93 => ?_)
                refine zg_bipush 12 rfl d_X8_line_387 ?_
                refine zg_aload_n 0 rfl d_X8_line_389 ?_
                refine zg_iconst 3 rfl d_X8_line_390 ?_
                refine zg_cVi (b := a0) (As := [.int 3]) (rest := [.int 12, .ref v93]) (0, 0) d_X8_line_391 zc_8 rfl cw_X8_225 wi_X8_fresher ws_X8_fresher rfl rfl (Nat.le_of_ble_eq_true rfl) (by decide) (by decide) ⟨by decide, by decide⟩ rfl (t_X8_fresher a0 3 h16) (fun v95 h94 => ?_)
                refine zg_iadd d_X8_line_394 ?_
                refine zg_aload_n 0 rfl d_X8_line_395 ?_
                refine zg_iconst 0 rfl d_X8_line_396 ?_
                refine zg_iconst 4 rfl d_X8_line_397 ?_
                refine zg_cVi (b := a0) (As := [.int 0, .int 4]) (rest := [.int (12 + v95), .ref v93]) (0, 0) d_X8_line_398 zc_8 rfl cw_X8_221 wi_X8_numeral ws_X8_numeral rfl rfl (Nat.le_of_ble_eq_true rfl) (by decide) (by decide) ⟨by decide, by decide⟩ rfl (t_X8_numeral a0 0 4 h94) (fun v97 h96 => ?_)
                refine zg_ast0 d_X8_line_401 (fun h98 => ?_)
                refine zg_aload_n 0 rfl d_X8_line_402 ?_
                refine zg_iconst 3 rfl d_X8_line_403 ?_
                refine zg_aload_n 0 rfl d_X8_line_404 ?_
                refine zg_iconst 3 rfl d_X8_line_405 ?_
                refine zg_cVi (b := a0) (As := [.int 3]) (rest := [.int 3, .ref a0]) (0, 0) d_X8_line_406 zc_8 rfl cw_X8_225 wi_X8_fresher ws_X8_fresher rfl rfl (Nat.le_of_ble_eq_true rfl) (by decide) (by decide) ⟨by decide, by decide⟩ rfl (t_X8_fresher a0 3 h98) (fun v100 h99 => ?_)
                refine zg_iconst 1 rfl d_X8_line_409 ?_
                refine zg_iadd d_X8_line_410 ?_
                refine zg_cVv (b := a0) (As := [.int 3, .int (v100 + 1)]) (rest := []) (0, 0) d_X8_line_411 zc_8 rfl cw_X8_245 wi_X8_reads ws_X8_reads rfl rfl (Nat.le_of_ble_eq_true rfl) (by decide) (by decide) ⟨by decide, by decide⟩ rfl (t_X8_reads a0 3 (v100 + 1) h99) (fun v102 h101 => ?_)
                refine zg_goto d_X8_line_414 ?_
                exact zg_finK (E := 0) [0, 1] rfl rfl (fun q => q)
              refine zg_if (fun n140 => ?_) (fun n140 => ?_)
              · refine zg_tabE n140 d_X8_line_97 (by decide) (by decide) (off := 320) rfl (tgt := 417) (by decide) ?_
                refine zg_aload_n 0 rfl d_X8_line_417 ?_
                refine zg_iconst 4 rfl d_X8_line_418 ?_
                refine zg_aload_n 0 rfl d_X8_line_419 ?_
                refine zg_iconst 1 rfl d_X8_line_420 ?_
                refine zg_bipush 20 rfl d_X8_line_421 ?_
                refine zg_cVi (b := a0) (As := [.int 1, .int 20]) (rest := [.int 4, .ref a0]) (0, 0) d_X8_line_423 zc_8 rfl cw_X8_221 wi_X8_numeral ws_X8_numeral rfl rfl (Nat.le_of_ble_eq_true rfl) (by decide) (by decide) ⟨by decide, by decide⟩ rfl (t_X8_numeral a0 1 20 h16) (fun v104 h103 => ?_)
                refine zg_cVv (b := a0) (As := [.int 4, .int v104]) (rest := []) (0, 0) d_X8_line_426 zc_8 rfl cw_X8_245 wi_X8_reads ws_X8_reads rfl rfl (Nat.le_of_ble_eq_true rfl) (by decide) (by decide) ⟨by decide, by decide⟩ rfl (t_X8_reads a0 4 v104 h103) (fun v106 h105 => ?_)
                refine zg_goto d_X8_line_429 ?_
                exact zg_finK (E := 0) [0, 1] rfl rfl (fun q => q)
              refine zg_if (fun n141 => ?_) (fun n141 => ?_)
              · refine zg_tabE n141 d_X8_line_97 (by decide) (by decide) (off := 335) rfl (tgt := 432) (by decide) ?_
                refine zg_aload_n 0 rfl d_X8_line_432 ?_
                refine zg_iconst 5 rfl d_X8_line_433 ?_
                refine zg_aload_n 0 rfl d_X8_line_434 ?_
                refine zg_iconst 1 rfl d_X8_line_435 ?_
                refine zg_bipush 9 rfl d_X8_line_436 ?_
                refine zg_cVi (b := a0) (As := [.int 1, .int 9]) (rest := [.int 5, .ref a0]) (0, 0) d_X8_line_438 zc_8 rfl cw_X8_221 wi_X8_numeral ws_X8_numeral rfl rfl (Nat.le_of_ble_eq_true rfl) (by decide) (by decide) ⟨by decide, by decide⟩ rfl (t_X8_numeral a0 1 9 h16) (fun v108 h107 => ?_)
                refine zg_cVv (b := a0) (As := [.int 5, .int v108]) (rest := []) (0, 0) d_X8_line_441 zc_8 rfl cw_X8_245 wi_X8_reads ws_X8_reads rfl rfl (Nat.le_of_ble_eq_true rfl) (by decide) (by decide) ⟨by decide, by decide⟩ rfl (t_X8_reads a0 5 v108 h107) (fun v110 h109 => ?_)
                refine zg_goto d_X8_line_444 ?_
                exact zg_finK (E := 0) [0, 1] rfl rfl (fun q => q)
              refine zg_if (fun n142 => ?_) (fun n142 => ?_)
              · refine zg_tabE n142 d_X8_line_97 (by decide) (by decide) (off := 350) rfl (tgt := 447) (by decide) ?_
                refine zg_aload_n 0 rfl d_X8_line_447 ?_
                refine zg_bipush 6 rfl d_X8_line_448 ?_
                refine zg_aload_n 0 rfl d_X8_line_450 ?_
                refine zg_iconst 0 rfl d_X8_line_451 ?_
                refine zg_ldc kc_X8_189 d_X8_line_452 ?_
                refine zg_cVi (b := a0) (As := [.int 0, .int 99999]) (rest := [.int 6, .ref a0]) (0, 0) d_X8_line_454 zc_8 rfl cw_X8_221 wi_X8_numeral ws_X8_numeral rfl rfl (Nat.le_of_ble_eq_true rfl) (by decide) (by decide) ⟨by decide, by decide⟩ rfl (t_X8_numeral a0 0 99999 h16) (fun v112 h111 => ?_)
                refine zg_cVv (b := a0) (As := [.int 6, .int v112]) (rest := []) (0, 0) d_X8_line_457 zc_8 rfl cw_X8_245 wi_X8_reads ws_X8_reads rfl rfl (Nat.le_of_ble_eq_true rfl) (by decide) (by decide) ⟨by decide, by decide⟩ rfl (t_X8_reads a0 6 v112 h111) (fun v114 h113 => ?_)
                refine zg_goto d_X8_line_460 ?_
                exact zg_finK (E := 0) [0, 1] rfl rfl (fun q => q)
              refine zg_tabO d_X8_line_97 (by have q0 := lv_neT n134 (a := 0) rfl; have q1 := lv_neT n135 (a := 1) rfl; have q2 := lv_neT n136 (a := 2) rfl; have q3 := lv_neT n137 (a := 3) rfl; have q4 := lv_neT n138 (a := 4) rfl; have q5 := lv_neT n139 (a := 5) rfl; have q6 := lv_neT n140 (a := 6) rfl; have q7 := lv_neT n141 (a := 7) rfl; have q8 := lv_neT n142 (a := 8) rfl; omega) (tgt := 463) (by decide) ?_
              refine zg_aload_n 0 rfl d_X8_line_463 ?_
              refine zg_cVv (b := a0) (As := []) (rest := []) (0, 0) d_X8_line_464 zc_8 rfl cw_X8_249 wi_X8_lawLine ws_X8_lawLine rfl rfl (Nat.le_of_ble_eq_true rfl) (by decide) (by decide) ⟨by decide, by decide⟩ rfl (t_X8_lawLine a0 h16) (fun v116 h115 => ?_)
              exact zg_finK (E := 0) [0, 1] rfl rfl (fun q => q)
            · refine zg_aload_n 0 rfl d_X8_line_467 ?_
              refine zg_getI d_X8_line_468 zc_8 (by decide) fl_X8_205 (fun v119 => ?_)
              refine zg_if_eq d_X8_line_471 ?_ ?_
              · refine zg_aload_n 0 rfl d_X8_line_475 ?_
                refine zg_bipush 59 rfl d_X8_line_476 ?_
                refine zg_cVi (b := a0) (As := [.int 59]) (rest := []) (0, 0) d_X8_line_478 zc_8 rfl cw_X8_252 wi_X8_isSign ws_X8_isSign rfl rfl (Nat.le_of_ble_eq_true rfl) (by decide) (by decide) ⟨by decide, by decide⟩ rfl (t_X8_isSign a0 59 h118) (fun v121 h120 => ?_)
                refine zg_bd (E := 496) (el := (fun (e126 : Unit) => [(0, .ref a0), (1, .int v3)])) (es := (fun (e126 : Unit) => [])) ?_ (fun e126 h127 => ?_)
                · refine zg_if_ne d_X8_line_481 ?_ ?_
                  · refine zg_aload_n 0 rfl d_X8_line_484 ?_
                    refine zg_iconst 1 rfl d_X8_line_485 ?_
                    refine zg_cVv (b := a0) (As := [.int 1]) (rest := []) (0, 0) d_X8_line_486 zc_8 rfl cw_X8_214 wi_X8_wrong ws_X8_wrong rfl rfl (Nat.le_of_ble_eq_true rfl) (by decide) (by decide) ⟨by decide, by decide⟩ rfl (t_X8_wrong a0 1 h120) (fun v123 h122 => ?_)
                    refine zg_goto d_X8_line_489 ?_
                    exact zg_finK (E := 0) [0, 1] rfl rfl (fun q => q)
                  · refine zg_aload_n 0 rfl d_X8_line_492 ?_
                    refine zg_cVv (b := a0) (As := []) (rest := []) (0, 0) d_X8_line_493 zc_8 rfl cw_X8_211 wi_X8_token ws_X8_token rfl rfl (Nat.le_of_ble_eq_true rfl) (by decide) (by decide) ⟨by decide, by decide⟩ rfl (t_X8_token a0 h120) (fun v125 h124 => ?_)
                    exact zg_finK (E := 0) [0, 1] rfl rfl (fun q => q)
                · refine zg_aload_n 0 rfl d_X8_line_496 ?_
                  refine zg_dup rfl d_X8_line_497 ?_
                  refine zg_getI d_X8_line_498 zc_8 (by decide) fl_X8_255 (fun v128 => ?_)
                  refine zg_iconst 1 rfl d_X8_line_501 ?_
                  refine zg_iadd d_X8_line_502 ?_
                  refine zg_putV d_X8_line_503 zc_8 (by decide) fl_X8_255 rfl rfl rfl (fun h129 => ?_)
                  exact zg_vretK d_X8_line_506 rfl ⟨Nat.le_of_ble_eq_true rfl, Nat.le_of_ble_eq_true rfl⟩ (fun q => q)
              · exact zg_vretK d_X8_line_474 rfl ⟨Nat.le_of_ble_eq_true rfl, Nat.le_of_ble_eq_true rfl⟩ (fun q => q)
          · exact zg_vretK d_X8_line_79 rfl ⟨Nat.le_of_ble_eq_true rfl, Nat.le_of_ble_eq_true rfl⟩ (fun q => q)
      · exact zg_finK (E := 0) [0] rfl rfl (fun q => q)
    · exact zg_finK (E := 0) [0] rfl rfl (fun q => q)
  · refine zg_aload_n 0 rfl d_X8_line_16 ?_
    refine zg_iconst 1 rfl d_X8_line_17 ?_
    refine zg_cVv (b := a0) (As := [.int 1]) (rest := []) (0, 0) d_X8_line_18 zc_8 rfl cw_X8_214 wi_X8_wrong ws_X8_wrong rfl rfl (Nat.le_of_ble_eq_true rfl) (by decide) (by decide) ⟨by decide, by decide⟩ rfl (t_X8_wrong a0 1 h131) (fun v133 h132 => ?_)
    exact zg_vretK d_X8_line_21 rfl ⟨Nat.le_of_ble_eq_true rfl, Nat.le_of_ble_eq_true rfl⟩ (fun q => q)
abbrev M_X8_text : zMt := (RX8, cX8_text, 3, 211, 4530, (some .int), "text", 0, 0)
theorem d_X8_text_0 : zDc M_X8_text 0 (.aload_n 0) 1 1 := ⟨by decide +kernel, rfl⟩
theorem d_X8_text_1 : zDc M_X8_text 1 (.iconst 0) 1 2 := ⟨by decide +kernel, rfl⟩
theorem d_X8_text_2 : zDc M_X8_text 2 (.putfield 151) 3 5 := ⟨by decide +kernel, rfl⟩
theorem d_X8_text_5 : zDc M_X8_text 5 (.iload_n 1) 1 6 := ⟨by decide +kernel, rfl⟩
theorem d_X8_text_6 : zDj M_X8_text 6 (.ifCond .lt 11) 11 9 17 := ⟨by decide +kernel, rfl, by decide⟩
theorem d_X8_text_9 : zDc M_X8_text 9 (.iload_n 1) 1 10 := ⟨by decide +kernel, rfl⟩
theorem d_X8_text_10 : zDc M_X8_text 10 (.aload_n 0) 1 11 := ⟨by decide +kernel, rfl⟩
theorem d_X8_text_11 : zDc M_X8_text 11 (.getfield 154) 3 14 := ⟨by decide +kernel, rfl⟩
theorem d_X8_text_14 : zDj M_X8_text 14 (.if_icmp .le 6) 6 17 20 := ⟨by decide +kernel, rfl, by decide⟩
theorem d_X8_text_17 : zDc M_X8_text 17 (.bipush (-2)) 2 19 := ⟨by decide +kernel, rfl⟩
theorem d_X8_text_19 : zDc M_X8_text 19 (.ireturn) 1 20 := ⟨by decide +kernel, rfl⟩
theorem d_X8_text_20 : zDc M_X8_text 20 (.aload_n 0) 1 21 := ⟨by decide +kernel, rfl⟩
theorem d_X8_text_21 : zDc M_X8_text 21 (.iload_n 1) 1 22 := ⟨by decide +kernel, rfl⟩
theorem d_X8_text_22 : zDc M_X8_text 22 (.putfield 160) 3 25 := ⟨by decide +kernel, rfl⟩
theorem d_X8_text_25 : zDc M_X8_text 25 (.aload_n 0) 1 26 := ⟨by decide +kernel, rfl⟩
theorem d_X8_text_26 : zDc M_X8_text 26 (.iconst 0) 1 27 := ⟨by decide +kernel, rfl⟩
theorem d_X8_text_27 : zDc M_X8_text 27 (.putfield 154) 3 30 := ⟨by decide +kernel, rfl⟩
theorem d_X8_text_30 : zDc M_X8_text 30 (.aload_n 0) 1 31 := ⟨by decide +kernel, rfl⟩
theorem d_X8_text_31 : zDc M_X8_text 31 (.iconst 0) 1 32 := ⟨by decide +kernel, rfl⟩
theorem d_X8_text_32 : zDc M_X8_text 32 (.putfield 157) 3 35 := ⟨by decide +kernel, rfl⟩
theorem d_X8_text_35 : zDc M_X8_text 35 (.aload_n 0) 1 36 := ⟨by decide +kernel, rfl⟩
theorem d_X8_text_36 : zDc M_X8_text 36 (.iconst 0) 1 37 := ⟨by decide +kernel, rfl⟩
theorem d_X8_text_37 : zDc M_X8_text 37 (.putfield 205) 3 40 := ⟨by decide +kernel, rfl⟩
theorem d_X8_text_40 : zDc M_X8_text 40 (.aload_n 0) 1 41 := ⟨by decide +kernel, rfl⟩
theorem d_X8_text_41 : zDc M_X8_text 41 (.iconst (-1)) 1 42 := ⟨by decide +kernel, rfl⟩
theorem d_X8_text_42 : zDc M_X8_text 42 (.putfield 208) 3 45 := ⟨by decide +kernel, rfl⟩
theorem d_X8_text_45 : zDc M_X8_text 45 (.iconst 0) 1 46 := ⟨by decide +kernel, rfl⟩
theorem d_X8_text_46 : zDc M_X8_text 46 (.istore_n 2) 1 47 := ⟨by decide +kernel, rfl⟩
theorem d_X8_text_47 : zDc M_X8_text 47 (.iload_n 2) 1 48 := ⟨by decide +kernel, rfl⟩
theorem d_X8_text_48 : zDc M_X8_text 48 (.bipush 8) 2 50 := ⟨by decide +kernel, rfl⟩
theorem d_X8_text_50 : zDj M_X8_text 50 (.if_icmp .ge 35) 35 53 85 := ⟨by decide +kernel, rfl, by decide⟩
theorem d_X8_text_53 : zDc M_X8_text 53 (.aload_n 0) 1 54 := ⟨by decide +kernel, rfl⟩
theorem d_X8_text_54 : zDc M_X8_text 54 (.iload_n 2) 1 55 := ⟨by decide +kernel, rfl⟩
theorem d_X8_text_55 : zDc M_X8_text 55 (.iload_n 2) 1 56 := ⟨by decide +kernel, rfl⟩
theorem d_X8_text_56 : zDc M_X8_text 56 (.iconst 4) 1 57 := ⟨by decide +kernel, rfl⟩
theorem d_X8_text_57 : zDj M_X8_text 57 (.if_icmp .ne 8) 8 60 65 := ⟨by decide +kernel, rfl, by decide⟩
theorem d_X8_text_60 : zDc M_X8_text 60 (.bipush 6) 2 62 := ⟨by decide +kernel, rfl⟩
theorem d_X8_text_62 : zDj M_X8_text 62 (.goto 14) 14 65 76 := ⟨by decide +kernel, rfl, by decide⟩
theorem d_X8_text_65 : zDc M_X8_text 65 (.iload_n 2) 1 66 := ⟨by decide +kernel, rfl⟩
theorem d_X8_text_66 : zDc M_X8_text 66 (.iconst 5) 1 67 := ⟨by decide +kernel, rfl⟩
theorem d_X8_text_67 : zDj M_X8_text 67 (.if_icmp .ne 8) 8 70 75 := ⟨by decide +kernel, rfl, by decide⟩
theorem d_X8_text_70 : zDc M_X8_text 70 (.bipush 9) 2 72 := ⟨by decide +kernel, rfl⟩
theorem d_X8_text_72 : zDj M_X8_text 72 (.goto 4) 4 75 76 := ⟨by decide +kernel, rfl, by decide⟩
theorem d_X8_text_75 : zDc M_X8_text 75 (.iconst 0) 1 76 := ⟨by decide +kernel, rfl⟩
theorem d_X8_text_76 : zDc M_X8_text 76 (.invokevirtual 245) 3 79 := ⟨by decide +kernel, rfl⟩
theorem d_X8_text_79 : zDc M_X8_text 79 (.iinc 2 1) 3 82 := ⟨by decide +kernel, rfl⟩
theorem d_X8_text_82 : zDj M_X8_text 82 (.goto (-35)) (-35) 85 47 := ⟨by decide +kernel, rfl, by decide⟩
theorem d_X8_text_85 : zDc M_X8_text 85 (.iconst 0) 1 86 := ⟨by decide +kernel, rfl⟩
theorem d_X8_text_86 : zDc M_X8_text 86 (.istore_n 2) 1 87 := ⟨by decide +kernel, rfl⟩
theorem d_X8_text_87 : zDc M_X8_text 87 (.iload_n 2) 1 88 := ⟨by decide +kernel, rfl⟩
theorem d_X8_text_88 : zDc M_X8_text 88 (.bipush 24) 2 90 := ⟨by decide +kernel, rfl⟩
theorem d_X8_text_90 : zDj M_X8_text 90 (.if_icmp .ge 19) 19 93 109 := ⟨by decide +kernel, rfl, by decide⟩
theorem d_X8_text_93 : zDc M_X8_text 93 (.aload_n 0) 1 94 := ⟨by decide +kernel, rfl⟩
theorem d_X8_text_94 : zDc M_X8_text 94 (.getfield 16) 3 97 := ⟨by decide +kernel, rfl⟩
theorem d_X8_text_97 : zDc M_X8_text 97 (.bipush 24) 2 99 := ⟨by decide +kernel, rfl⟩
theorem d_X8_text_99 : zDc M_X8_text 99 (.iload_n 2) 1 100 := ⟨by decide +kernel, rfl⟩
theorem d_X8_text_100 : zDc M_X8_text 100 (.iadd) 1 101 := ⟨by decide +kernel, rfl⟩
theorem d_X8_text_101 : zDc M_X8_text 101 (.iconst 0) 1 102 := ⟨by decide +kernel, rfl⟩
theorem d_X8_text_102 : zDc M_X8_text 102 (.iastore) 1 103 := ⟨by decide +kernel, rfl⟩
theorem d_X8_text_103 : zDc M_X8_text 103 (.iinc 2 1) 3 106 := ⟨by decide +kernel, rfl⟩
theorem d_X8_text_106 : zDj M_X8_text 106 (.goto (-19)) (-19) 109 87 := ⟨by decide +kernel, rfl, by decide⟩
theorem d_X8_text_109 : zDc M_X8_text 109 (.iconst 3) 1 110 := ⟨by decide +kernel, rfl⟩
theorem d_X8_text_110 : zDc M_X8_text 110 (.istore_n 2) 1 111 := ⟨by decide +kernel, rfl⟩
theorem d_X8_text_111 : zDc M_X8_text 111 (.iload_n 2) 1 112 := ⟨by decide +kernel, rfl⟩
theorem d_X8_text_112 : zDc M_X8_text 112 (.bipush 6) 2 114 := ⟨by decide +kernel, rfl⟩
theorem d_X8_text_114 : zDj M_X8_text 114 (.if_icmp .ge 23) 23 117 137 := ⟨by decide +kernel, rfl, by decide⟩
theorem d_X8_text_117 : zDc M_X8_text 117 (.aload_n 0) 1 118 := ⟨by decide +kernel, rfl⟩
theorem d_X8_text_118 : zDc M_X8_text 118 (.getfield 52) 3 121 := ⟨by decide +kernel, rfl⟩
theorem d_X8_text_121 : zDc M_X8_text 121 (.iload_n 2) 1 122 := ⟨by decide +kernel, rfl⟩
theorem d_X8_text_122 : zDc M_X8_text 122 (.iconst 0) 1 123 := ⟨by decide +kernel, rfl⟩
theorem d_X8_text_123 : zDc M_X8_text 123 (.iastore) 1 124 := ⟨by decide +kernel, rfl⟩
theorem d_X8_text_124 : zDc M_X8_text 124 (.aload_n 0) 1 125 := ⟨by decide +kernel, rfl⟩
theorem d_X8_text_125 : zDc M_X8_text 125 (.getfield 55) 3 128 := ⟨by decide +kernel, rfl⟩
theorem d_X8_text_128 : zDc M_X8_text 128 (.iload_n 2) 1 129 := ⟨by decide +kernel, rfl⟩
theorem d_X8_text_129 : zDc M_X8_text 129 (.iconst 0) 1 130 := ⟨by decide +kernel, rfl⟩
theorem d_X8_text_130 : zDc M_X8_text 130 (.iastore) 1 131 := ⟨by decide +kernel, rfl⟩
theorem d_X8_text_131 : zDc M_X8_text 131 (.iinc 2 1) 3 134 := ⟨by decide +kernel, rfl⟩
theorem d_X8_text_134 : zDj M_X8_text 134 (.goto (-23)) (-23) 137 111 := ⟨by decide +kernel, rfl, by decide⟩
theorem d_X8_text_137 : zDc M_X8_text 137 (.aload_n 0) 1 138 := ⟨by decide +kernel, rfl⟩
theorem d_X8_text_138 : zDc M_X8_text 138 (.iconst 0) 1 139 := ⟨by decide +kernel, rfl⟩
theorem d_X8_text_139 : zDc M_X8_text 139 (.putfield 232) 3 142 := ⟨by decide +kernel, rfl⟩
theorem d_X8_text_142 : zDc M_X8_text 142 (.aload_n 0) 1 143 := ⟨by decide +kernel, rfl⟩
theorem d_X8_text_143 : zDc M_X8_text 143 (.iconst 0) 1 144 := ⟨by decide +kernel, rfl⟩
theorem d_X8_text_144 : zDc M_X8_text 144 (.putfield 255) 3 147 := ⟨by decide +kernel, rfl⟩
theorem d_X8_text_147 : zDc M_X8_text 147 (.aload_n 0) 1 148 := ⟨by decide +kernel, rfl⟩
theorem d_X8_text_148 : zDc M_X8_text 148 (.iconst 0) 1 149 := ⟨by decide +kernel, rfl⟩
theorem d_X8_text_149 : zDc M_X8_text 149 (.putfield 291) 3 152 := ⟨by decide +kernel, rfl⟩
theorem d_X8_text_152 : zDc M_X8_text 152 (.aload_n 0) 1 153 := ⟨by decide +kernel, rfl⟩
theorem d_X8_text_153 : zDc M_X8_text 153 (.iconst 0) 1 154 := ⟨by decide +kernel, rfl⟩
theorem d_X8_text_154 : zDc M_X8_text 154 (.putfield 261) 3 157 := ⟨by decide +kernel, rfl⟩
theorem d_X8_text_157 : zDc M_X8_text 157 (.aload_n 0) 1 158 := ⟨by decide +kernel, rfl⟩
theorem d_X8_text_158 : zDc M_X8_text 158 (.invokevirtual 211) 3 161 := ⟨by decide +kernel, rfl⟩
theorem d_X8_text_161 : zDc M_X8_text 161 (.aload_n 0) 1 162 := ⟨by decide +kernel, rfl⟩
theorem d_X8_text_162 : zDc M_X8_text 162 (.getfield 205) 3 165 := ⟨by decide +kernel, rfl⟩
theorem d_X8_text_165 : zDj M_X8_text 165 (.ifCond .ne 18) 18 168 183 := ⟨by decide +kernel, rfl, by decide⟩
theorem d_X8_text_168 : zDc M_X8_text 168 (.aload_n 0) 1 169 := ⟨by decide +kernel, rfl⟩
theorem d_X8_text_169 : zDc M_X8_text 169 (.getfield 170) 3 172 := ⟨by decide +kernel, rfl⟩
theorem d_X8_text_172 : zDc M_X8_text 172 (.iconst 4) 1 173 := ⟨by decide +kernel, rfl⟩
theorem d_X8_text_173 : zDj M_X8_text 173 (.if_icmp .eq 10) 10 176 183 := ⟨by decide +kernel, rfl, by decide⟩
theorem d_X8_text_176 : zDc M_X8_text 176 (.aload_n 0) 1 177 := ⟨by decide +kernel, rfl⟩
theorem d_X8_text_177 : zDc M_X8_text 177 (.invokevirtual 294) 3 180 := ⟨by decide +kernel, rfl⟩
theorem d_X8_text_180 : zDj M_X8_text 180 (.goto (-19)) (-19) 183 161 := ⟨by decide +kernel, rfl, by decide⟩
theorem d_X8_text_183 : zDc M_X8_text 183 (.aload_n 0) 1 184 := ⟨by decide +kernel, rfl⟩
theorem d_X8_text_184 : zDc M_X8_text 184 (.aload_n 0) 1 185 := ⟨by decide +kernel, rfl⟩
theorem d_X8_text_185 : zDc M_X8_text 185 (.getfield 205) 3 188 := ⟨by decide +kernel, rfl⟩
theorem d_X8_text_188 : zDc M_X8_text 188 (.putfield 297) 3 191 := ⟨by decide +kernel, rfl⟩
theorem d_X8_text_191 : zDc M_X8_text 191 (.aload_n 0) 1 192 := ⟨by decide +kernel, rfl⟩
theorem d_X8_text_192 : zDc M_X8_text 192 (.aload_n 0) 1 193 := ⟨by decide +kernel, rfl⟩
theorem d_X8_text_193 : zDc M_X8_text 193 (.getfield 208) 3 196 := ⟨by decide +kernel, rfl⟩
theorem d_X8_text_196 : zDc M_X8_text 196 (.putfield 64) 3 199 := ⟨by decide +kernel, rfl⟩
theorem d_X8_text_199 : zDc M_X8_text 199 (.aload_n 0) 1 200 := ⟨by decide +kernel, rfl⟩
theorem d_X8_text_200 : zDc M_X8_text 200 (.getfield 205) 3 203 := ⟨by decide +kernel, rfl⟩
theorem d_X8_text_203 : zDj M_X8_text 203 (.ifCond .eq 5) 5 206 208 := ⟨by decide +kernel, rfl, by decide⟩
theorem d_X8_text_206 : zDc M_X8_text 206 (.iconst (-1)) 1 207 := ⟨by decide +kernel, rfl⟩
theorem d_X8_text_207 : zDc M_X8_text 207 (.ireturn) 1 208 := ⟨by decide +kernel, rfl⟩
theorem d_X8_text_208 : zDc M_X8_text 208 (.aload_n 0) 1 209 := ⟨by decide +kernel, rfl⟩
theorem d_X8_text_209 : zDc M_X8_text 209 (.getfield 13) 3 212 := ⟨by decide +kernel, rfl⟩
theorem d_X8_text_212 : zDc M_X8_text 212 (.invokestatic 300) 3 215 := ⟨by decide +kernel, rfl⟩
theorem d_X8_text_215 : zDc M_X8_text 215 (.aload_n 0) 1 216 := ⟨by decide +kernel, rfl⟩
theorem d_X8_text_216 : zDc M_X8_text 216 (.getfield 16) 3 219 := ⟨by decide +kernel, rfl⟩
theorem d_X8_text_219 : zDc M_X8_text 219 (.invokestatic 300) 3 222 := ⟨by decide +kernel, rfl⟩
theorem d_X8_text_222 : zDc M_X8_text 222 (.aload_n 0) 1 223 := ⟨by decide +kernel, rfl⟩
theorem d_X8_text_223 : zDc M_X8_text 223 (.getfield 19) 3 226 := ⟨by decide +kernel, rfl⟩
theorem d_X8_text_226 : zDc M_X8_text 226 (.invokestatic 300) 3 229 := ⟨by decide +kernel, rfl⟩
theorem d_X8_text_229 : zDc M_X8_text 229 (.aload_n 0) 1 230 := ⟨by decide +kernel, rfl⟩
theorem d_X8_text_230 : zDc M_X8_text 230 (.getfield 22) 3 233 := ⟨by decide +kernel, rfl⟩
theorem d_X8_text_233 : zDc M_X8_text 233 (.invokestatic 300) 3 236 := ⟨by decide +kernel, rfl⟩
theorem d_X8_text_236 : zDc M_X8_text 236 (.aload_n 0) 1 237 := ⟨by decide +kernel, rfl⟩
theorem d_X8_text_237 : zDc M_X8_text 237 (.getfield 25) 3 240 := ⟨by decide +kernel, rfl⟩
theorem d_X8_text_240 : zDc M_X8_text 240 (.invokestatic 300) 3 243 := ⟨by decide +kernel, rfl⟩
theorem d_X8_text_243 : zDc M_X8_text 243 (.aload_n 0) 1 244 := ⟨by decide +kernel, rfl⟩
theorem d_X8_text_244 : zDc M_X8_text 244 (.getfield 28) 3 247 := ⟨by decide +kernel, rfl⟩
theorem d_X8_text_247 : zDc M_X8_text 247 (.invokestatic 300) 3 250 := ⟨by decide +kernel, rfl⟩
theorem d_X8_text_250 : zDc M_X8_text 250 (.aload_n 0) 1 251 := ⟨by decide +kernel, rfl⟩
theorem d_X8_text_251 : zDc M_X8_text 251 (.getfield 31) 3 254 := ⟨by decide +kernel, rfl⟩
theorem d_X8_text_254 : zDc M_X8_text 254 (.invokestatic 300) 3 257 := ⟨by decide +kernel, rfl⟩
theorem d_X8_text_257 : zDc M_X8_text 257 (.aload_n 0) 1 258 := ⟨by decide +kernel, rfl⟩
theorem d_X8_text_258 : zDc M_X8_text 258 (.getfield 34) 3 261 := ⟨by decide +kernel, rfl⟩
theorem d_X8_text_261 : zDc M_X8_text 261 (.invokestatic 300) 3 264 := ⟨by decide +kernel, rfl⟩
theorem d_X8_text_264 : zDc M_X8_text 264 (.aload_n 0) 1 265 := ⟨by decide +kernel, rfl⟩
theorem d_X8_text_265 : zDc M_X8_text 265 (.getfield 37) 3 268 := ⟨by decide +kernel, rfl⟩
theorem d_X8_text_268 : zDc M_X8_text 268 (.invokestatic 300) 3 271 := ⟨by decide +kernel, rfl⟩
theorem d_X8_text_271 : zDc M_X8_text 271 (.aload_n 0) 1 272 := ⟨by decide +kernel, rfl⟩
theorem d_X8_text_272 : zDc M_X8_text 272 (.getfield 40) 3 275 := ⟨by decide +kernel, rfl⟩
theorem d_X8_text_275 : zDc M_X8_text 275 (.invokestatic 300) 3 278 := ⟨by decide +kernel, rfl⟩
theorem d_X8_text_278 : zDc M_X8_text 278 (.aload_n 0) 1 279 := ⟨by decide +kernel, rfl⟩
theorem d_X8_text_279 : zDc M_X8_text 279 (.getfield 43) 3 282 := ⟨by decide +kernel, rfl⟩
theorem d_X8_text_282 : zDc M_X8_text 282 (.invokestatic 300) 3 285 := ⟨by decide +kernel, rfl⟩
theorem d_X8_text_285 : zDc M_X8_text 285 (.aload_n 0) 1 286 := ⟨by decide +kernel, rfl⟩
theorem d_X8_text_286 : zDc M_X8_text 286 (.getfield 46) 3 289 := ⟨by decide +kernel, rfl⟩
theorem d_X8_text_289 : zDc M_X8_text 289 (.invokestatic 300) 3 292 := ⟨by decide +kernel, rfl⟩
theorem d_X8_text_292 : zDc M_X8_text 292 (.aload_n 0) 1 293 := ⟨by decide +kernel, rfl⟩
theorem d_X8_text_293 : zDc M_X8_text 293 (.getfield 49) 3 296 := ⟨by decide +kernel, rfl⟩
theorem d_X8_text_296 : zDc M_X8_text 296 (.invokestatic 300) 3 299 := ⟨by decide +kernel, rfl⟩
theorem d_X8_text_299 : zDc M_X8_text 299 (.aload_n 0) 1 300 := ⟨by decide +kernel, rfl⟩
theorem d_X8_text_300 : zDc M_X8_text 300 (.getfield 52) 3 303 := ⟨by decide +kernel, rfl⟩
theorem d_X8_text_303 : zDc M_X8_text 303 (.invokestatic 300) 3 306 := ⟨by decide +kernel, rfl⟩
theorem d_X8_text_306 : zDc M_X8_text 306 (.aload_n 0) 1 307 := ⟨by decide +kernel, rfl⟩
theorem d_X8_text_307 : zDc M_X8_text 307 (.getfield 55) 3 310 := ⟨by decide +kernel, rfl⟩
theorem d_X8_text_310 : zDc M_X8_text 310 (.invokestatic 300) 3 313 := ⟨by decide +kernel, rfl⟩
theorem d_X8_text_313 : zDc M_X8_text 313 (.aload_n 0) 1 314 := ⟨by decide +kernel, rfl⟩
theorem d_X8_text_314 : zDc M_X8_text 314 (.getfield 58) 3 317 := ⟨by decide +kernel, rfl⟩
theorem d_X8_text_317 : zDc M_X8_text 317 (.invokestatic 300) 3 320 := ⟨by decide +kernel, rfl⟩
theorem d_X8_text_320 : zDc M_X8_text 320 (.aload_n 0) 1 321 := ⟨by decide +kernel, rfl⟩
theorem d_X8_text_321 : zDc M_X8_text 321 (.getfield 61) 3 324 := ⟨by decide +kernel, rfl⟩
theorem d_X8_text_324 : zDc M_X8_text 324 (.invokestatic 300) 3 327 := ⟨by decide +kernel, rfl⟩
theorem d_X8_text_327 : zDc M_X8_text 327 (.aload_n 0) 1 328 := ⟨by decide +kernel, rfl⟩
theorem d_X8_text_328 : zDc M_X8_text 328 (.iconst 0) 1 329 := ⟨by decide +kernel, rfl⟩
theorem d_X8_text_329 : zDc M_X8_text 329 (.putfield 304) 3 332 := ⟨by decide +kernel, rfl⟩
theorem d_X8_text_332 : zDc M_X8_text 332 (.aload_n 0) 1 333 := ⟨by decide +kernel, rfl⟩
theorem d_X8_text_333 : zDc M_X8_text 333 (.iconst (-1)) 1 334 := ⟨by decide +kernel, rfl⟩
theorem d_X8_text_334 : zDc M_X8_text 334 (.putfield 129) 3 337 := ⟨by decide +kernel, rfl⟩
theorem d_X8_text_337 : zDc M_X8_text 337 (.aload_n 0) 1 338 := ⟨by decide +kernel, rfl⟩
theorem d_X8_text_338 : zDc M_X8_text 338 (.iconst 0) 1 339 := ⟨by decide +kernel, rfl⟩
theorem d_X8_text_339 : zDc M_X8_text 339 (.putfield 307) 3 342 := ⟨by decide +kernel, rfl⟩
theorem d_X8_text_342 : zDc M_X8_text 342 (.aload_n 0) 1 343 := ⟨by decide +kernel, rfl⟩
theorem d_X8_text_343 : zDc M_X8_text 343 (.iconst 0) 1 344 := ⟨by decide +kernel, rfl⟩
theorem d_X8_text_344 : zDc M_X8_text 344 (.putfield 311) 3 347 := ⟨by decide +kernel, rfl⟩
theorem d_X8_text_347 : zDc M_X8_text 347 (.aload_n 0) 1 348 := ⟨by decide +kernel, rfl⟩
theorem d_X8_text_348 : zDc M_X8_text 348 (.invokevirtual 148) 3 351 := ⟨by decide +kernel, rfl⟩
theorem d_X8_text_351 : zDc M_X8_text 351 (.aload_n 0) 1 352 := ⟨by decide +kernel, rfl⟩
theorem d_X8_text_352 : zDc M_X8_text 352 (.getfield 255) 3 355 := ⟨by decide +kernel, rfl⟩
theorem d_X8_text_355 : zDc M_X8_text 355 (.ireturn) 1 356 := ⟨by decide +kernel, rfl⟩
def f_X8_text (a0 : Nat) (a1 : Int32) (h0 : zHp) : Option (Int32 × zHp) :=
  zob (zpV h0 a0 8 0 (.int 0)) (fun h1 =>
  if a1 < 0 then
  some ((-2), h1)
  else
  zob (zgI h1 a0 8 2) (fun v2 =>
  if a1 ≤ v2 then
  zob (zpV h1 a0 8 22 (.int a1)) (fun h3 =>
  zob (zpV h3 a0 8 2 (.int 0)) (fun h4 =>
  zob (zpV h4 a0 8 23 (.int 0)) (fun h5 =>
  zob (zpV h5 a0 8 27 (.int 0)) (fun h6 =>
  zob (zpV h6 a0 8 28 (.int (-1))) (fun h7 =>
  zbd (
  zlp (σ := Int32) (β := Int32) zLF (fun s8 h9 =>
  if 8 ≤ s8 then
  some ((.inr s8), h9)
  else
  zbd (α := Int32) (
  if s8 = 4 then
  some (6, h9)
  else
  if s8 = 5 then
  some (9, h9)
  else
  some (0, h9)) (fun e12 h13 =>
  zbd (zcv 8 a0 h13 (f_X8_reads a0 s8 e12 h13)) (fun v15 h14 =>
  some ((.inl (s8 + 1)), h14)))) 0 h7) (fun e10 h11 =>
  zbd (
  zlp (σ := Int32) (β := Int32) zLF (fun s16 h17 =>
  if 24 ≤ s16 then
  some ((.inr s16), h17)
  else
  zob (zgR h17 a0 8 4) (fun v20 =>
  zob (zsI 0 h17 v20 (24 + s16) 0) (fun h21 =>
  some ((.inl (s16 + 1)), h21)))) 0 h11) (fun e18 h19 =>
  zbd (
  zlp (σ := Int32) (β := Int32) zLF (fun s22 h23 =>
  if 6 ≤ s22 then
  some ((.inr s22), h23)
  else
  zob (zgR h23 a0 8 16) (fun v26 =>
  zob (zsI 0 h23 v26 s22 0) (fun h27 =>
  zob (zgR h27 a0 8 17) (fun v28 =>
  zob (zsI 0 h27 v28 s22 0) (fun h29 =>
  some ((.inl (s22 + 1)), h29)))))) 3 h19) (fun e24 h25 =>
  zob (zpV h25 a0 8 20 (.int 0)) (fun h30 =>
  zob (zpV h30 a0 8 21 (.int 0)) (fun h31 =>
  zob (zpV h31 a0 8 31 (.int 0)) (fun h32 =>
  zob (zpV h32 a0 8 32 (.int 0)) (fun h33 =>
  zbd (zcv 8 a0 h33 (f_X8_token a0 h33)) (fun v35 h34 =>
  zbd (
  zlp (σ := Unit) (β := Unit) zLF (fun s36 h37 =>
  zob (zgI h37 a0 8 27) (fun v40 =>
  if v40 = 0 then
  zob (zgI h37 a0 8 25) (fun v41 =>
  if v41 = 4 then
  some ((.inr ()), h37)
  else
  zbd (zcv 8 a0 h37 (f_X8_line a0 h37)) (fun v43 h42 =>
  some ((.inl ()), h42)))
  else
  some ((.inr ()), h37))) () h34) (fun e38 h39 =>
  zob (zgI h39 a0 8 27) (fun v44 =>
  zob (zpV h39 a0 8 29 (.int v44)) (fun h45 =>
  zob (zgI h45 a0 8 28) (fun v46 =>
  zob (zpV h45 a0 8 30 (.int v46)) (fun h47 =>
  zob (zgI h47 a0 8 27) (fun v48 =>
  if v48 = 0 then
  zob (zgR h47 a0 8 3) (fun v49 =>
  zbd ((f_X8_half v49 h47)) (fun v51 h50 =>
  zob (zgR h50 a0 8 4) (fun v52 =>
  zbd ((f_X8_half v52 h50)) (fun v54 h53 =>
  zob (zgR h53 a0 8 5) (fun v55 =>
  zbd ((f_X8_half v55 h53)) (fun v57 h56 =>
  zob (zgR h56 a0 8 6) (fun v58 =>
  zbd ((f_X8_half v58 h56)) (fun v60 h59 =>
  zob (zgR h59 a0 8 7) (fun v61 =>
  zbd ((f_X8_half v61 h59)) (fun v63 h62 =>
  zob (zgR h62 a0 8 8) (fun v64 =>
  zbd ((f_X8_half v64 h62)) (fun v66 h65 =>
  zob (zgR h65 a0 8 9) (fun v67 =>
  zbd ((f_X8_half v67 h65)) (fun v69 h68 =>
  zob (zgR h68 a0 8 10) (fun v70 =>
  zbd ((f_X8_half v70 h68)) (fun v72 h71 =>
  zob (zgR h71 a0 8 11) (fun v73 =>
  zbd ((f_X8_half v73 h71)) (fun v75 h74 =>
  zob (zgR h74 a0 8 12) (fun v76 =>
  zbd ((f_X8_half v76 h74)) (fun v78 h77 =>
  zob (zgR h77 a0 8 13) (fun v79 =>
  zbd ((f_X8_half v79 h77)) (fun v81 h80 =>
  zob (zgR h80 a0 8 14) (fun v82 =>
  zbd ((f_X8_half v82 h80)) (fun v84 h83 =>
  zob (zgR h83 a0 8 15) (fun v85 =>
  zbd ((f_X8_half v85 h83)) (fun v87 h86 =>
  zob (zgR h86 a0 8 16) (fun v88 =>
  zbd ((f_X8_half v88 h86)) (fun v90 h89 =>
  zob (zgR h89 a0 8 17) (fun v91 =>
  zbd ((f_X8_half v91 h89)) (fun v93 h92 =>
  zob (zgR h92 a0 8 18) (fun v94 =>
  zbd ((f_X8_half v94 h92)) (fun v96 h95 =>
  zob (zgR h95 a0 8 19) (fun v97 =>
  zbd ((f_X8_half v97 h95)) (fun v99 h98 =>
  zob (zpV h98 a0 8 61 (.int 0)) (fun h100 =>
  zob (zpV h100 a0 8 62 (.int (-1))) (fun h101 =>
  zob (zpV h101 a0 8 47 (.int 0)) (fun h102 =>
  zob (zpV h102 a0 8 48 (.int 0)) (fun h103 =>
  zbd (zcv 8 a0 h103 (f_X8_begins a0 h103)) (fun v105 h104 =>
  zob (zgI h104 a0 8 21) (fun v106 =>
  some (v106, h104)))))))))))))))))))))))))))))))))))))))))
  else
  some ((-1), h47))))))))))))))))))))
  else
  some ((-2), h1)))
set_option maxRecDepth 100000 in
set_option maxHeartbeats 4000000 in
theorem t_X8_text (a0 : Nat) (a1 : Int32) (h0 : zHp) : ∀ (r : Int32) (h' : zHp), f_X8_text a0 a1 h0 = some (r, h') → zCt yX8_text (.code yX8_text cX8_text 3 (some .int)) 211 4530 0 0 [.ref a0, .int a1] h0 (some (.int r)) h' := by
  refine zct_of M_X8_text yX8_text (by decide) rfl rfl [.ref a0, .int a1] h0 (Nat.le_of_ble_eq_true rfl) (fun r => some (.int r)) (fun X => ?_)
  show zG X M_X8_text (0, 0) 0 [(0, .ref a0), (1, .int a1)] [] h0 (f_X8_text a0 a1 h0) (fun (r : Int32) h' => zKe X (some (.int r)) h')
  unfold f_X8_text
  refine zg_aload_n 0 rfl d_X8_text_0 ?_
  refine zg_iconst 0 rfl d_X8_text_1 ?_
  refine zg_putV d_X8_text_2 zc_8 (by decide) fl_X8_151 rfl rfl rfl (fun h1 => ?_)
  refine zg_iload_n 1 rfl d_X8_text_5 ?_
  refine zg_if_lt d_X8_text_6 ?_ ?_
  · refine zg_bipush (-2) rfl d_X8_text_17 ?_
    exact zg_iretK d_X8_text_19 rfl ⟨Nat.le_of_ble_eq_true rfl, Nat.le_of_ble_eq_true rfl⟩ (fun q => q)
  · refine zg_iload_n 1 rfl d_X8_text_9 ?_
    refine zg_aload_n 0 rfl d_X8_text_10 ?_
    refine zg_getI d_X8_text_11 zc_8 (by decide) fl_X8_154 (fun v2 => ?_)
    refine zg_icmp_le d_X8_text_14 ?_ ?_
    · refine zg_aload_n 0 rfl d_X8_text_20 ?_
      refine zg_iload_n 1 rfl d_X8_text_21 ?_
      refine zg_putV d_X8_text_22 zc_8 (by decide) fl_X8_160 rfl rfl rfl (fun h3 => ?_)
      refine zg_aload_n 0 rfl d_X8_text_25 ?_
      refine zg_iconst 0 rfl d_X8_text_26 ?_
      refine zg_putV d_X8_text_27 zc_8 (by decide) fl_X8_154 rfl rfl rfl (fun h4 => ?_)
      refine zg_aload_n 0 rfl d_X8_text_30 ?_
      refine zg_iconst 0 rfl d_X8_text_31 ?_
      refine zg_putV d_X8_text_32 zc_8 (by decide) fl_X8_157 rfl rfl rfl (fun h5 => ?_)
      refine zg_aload_n 0 rfl d_X8_text_35 ?_
      refine zg_iconst 0 rfl d_X8_text_36 ?_
      refine zg_putV d_X8_text_37 zc_8 (by decide) fl_X8_205 rfl rfl rfl (fun h6 => ?_)
      refine zg_aload_n 0 rfl d_X8_text_40 ?_
      refine zg_iconst (-1) rfl d_X8_text_41 ?_
      refine zg_putV d_X8_text_42 zc_8 (by decide) fl_X8_208 rfl rfl rfl (fun h7 => ?_)
      refine zg_iconst 0 rfl d_X8_text_45 ?_
      refine zg_istore_n [(2, .int 0), (0, .ref a0), (1, .int a1)] d_X8_text_46 rfl (by decide) rfl ?_
      refine zg_bd (E := 85) (el := (fun (e10 : Int32) => [(0, .ref a0), (1, .int a1), (2, .int e10)])) (es := fun _ => []) (zg_sub [1, 2, 0] rfl (zg_lp (el := (fun (s8 : Int32) => [(0, .ref a0), (1, .int a1), (2, .int s8)])) (fun s8 h9 => ?_) 0 h7)) (fun e10 h11 => ?_)
      · refine zg_iload_n 2 rfl d_X8_text_47 ?_
        refine zg_bipush 8 rfl d_X8_text_48 ?_
        refine zg_icmp_ge d_X8_text_50 ?_ ?_
        · exact zg_finK (E := 0) [0, 1, 2] rfl rfl (fun q => q)
        · refine zg_aload_n 0 rfl d_X8_text_53 ?_
          refine zg_iload_n 2 rfl d_X8_text_54 ?_
          refine zg_iload_n 2 rfl d_X8_text_55 ?_
          refine zg_iconst 4 rfl d_X8_text_56 ?_
          refine zg_bd (E := 76) (el := (fun (e12 : Int32) => [(0, .ref a0), (1, .int a1), (2, .int s8)])) (es := (fun (e12 : Int32) => [.int e12, .int s8, .ref a0])) ?_ (fun e12 h13 => ?_)
          · refine zg_icmp_ne d_X8_text_57 ?_ ?_
            · refine zg_bipush 6 rfl d_X8_text_60 ?_
              refine zg_goto d_X8_text_62 ?_
              exact zg_finK (E := 0) [0, 1, 2] rfl rfl (fun q => q)
            · refine zg_iload_n 2 rfl d_X8_text_65 ?_
              refine zg_iconst 5 rfl d_X8_text_66 ?_
              refine zg_icmp_ne d_X8_text_67 ?_ ?_
              · refine zg_bipush 9 rfl d_X8_text_70 ?_
                refine zg_goto d_X8_text_72 ?_
                exact zg_finK (E := 0) [0, 1, 2] rfl rfl (fun q => q)
              · refine zg_iconst 0 rfl d_X8_text_75 ?_
                exact zg_finK (E := 0) [0, 1, 2] rfl rfl (fun q => q)
          · refine zg_cVv (b := a0) (As := [.int s8, .int e12]) (rest := []) (0, 0) d_X8_text_76 zc_8 rfl cw_X8_245 wi_X8_reads ws_X8_reads rfl rfl (Nat.le_of_ble_eq_true rfl) (by decide) (by decide) ⟨by decide, by decide⟩ rfl (t_X8_reads a0 s8 e12 h13) (fun v15 h14 => ?_)
            refine zg_iinc 2 (s8 + 1) [(2, .int (s8 + 1)), (0, .ref a0), (1, .int a1)] d_X8_text_79 rfl rfl (by decide) rfl ?_
            refine zg_goto d_X8_text_82 ?_
            exact zg_finK (E := 0) [1, 2, 0] rfl rfl (fun q => q)
      · refine zg_iconst 0 rfl d_X8_text_85 ?_
        refine zg_istore_n [(2, .int 0), (0, .ref a0), (1, .int a1)] d_X8_text_86 rfl (by decide) rfl ?_
        refine zg_bd (E := 109) (el := (fun (e18 : Int32) => [(0, .ref a0), (1, .int a1), (2, .int e18)])) (es := fun _ => []) (zg_sub [1, 2, 0] rfl (zg_lp (el := (fun (s16 : Int32) => [(0, .ref a0), (1, .int a1), (2, .int s16)])) (fun s16 h17 => ?_) 0 h11)) (fun e18 h19 => ?_)
        · refine zg_iload_n 2 rfl d_X8_text_87 ?_
          refine zg_bipush 24 rfl d_X8_text_88 ?_
          refine zg_icmp_ge d_X8_text_90 ?_ ?_
          · exact zg_finK (E := 0) [0, 1, 2] rfl rfl (fun q => q)
          · refine zg_aload_n 0 rfl d_X8_text_93 ?_
            refine zg_getR d_X8_text_94 zc_8 (by decide) fl_X8_16 (fun v20 => ?_)
            refine zg_bipush 24 rfl d_X8_text_97 ?_
            refine zg_iload_n 2 rfl d_X8_text_99 ?_
            refine zg_iadd d_X8_text_100 ?_
            refine zg_iconst 0 rfl d_X8_text_101 ?_
            refine zg_ast0 d_X8_text_102 (fun h21 => ?_)
            refine zg_iinc 2 (s16 + 1) [(2, .int (s16 + 1)), (0, .ref a0), (1, .int a1)] d_X8_text_103 rfl rfl (by decide) rfl ?_
            refine zg_goto d_X8_text_106 ?_
            exact zg_finK (E := 0) [1, 2, 0] rfl rfl (fun q => q)
        · refine zg_iconst 3 rfl d_X8_text_109 ?_
          refine zg_istore_n [(2, .int 3), (0, .ref a0), (1, .int a1)] d_X8_text_110 rfl (by decide) rfl ?_
          refine zg_bd (E := 137) (el := (fun (e24 : Int32) => [(0, .ref a0), (1, .int a1), (2, .int e24)])) (es := fun _ => []) (zg_sub [1, 2, 0] rfl (zg_lp (el := (fun (s22 : Int32) => [(0, .ref a0), (1, .int a1), (2, .int s22)])) (fun s22 h23 => ?_) 3 h19)) (fun e24 h25 => ?_)
          · refine zg_iload_n 2 rfl d_X8_text_111 ?_
            refine zg_bipush 6 rfl d_X8_text_112 ?_
            refine zg_icmp_ge d_X8_text_114 ?_ ?_
            · exact zg_finK (E := 0) [0, 1, 2] rfl rfl (fun q => q)
            · refine zg_aload_n 0 rfl d_X8_text_117 ?_
              refine zg_getR d_X8_text_118 zc_8 (by decide) fl_X8_52 (fun v26 => ?_)
              refine zg_iload_n 2 rfl d_X8_text_121 ?_
              refine zg_iconst 0 rfl d_X8_text_122 ?_
              refine zg_ast0 d_X8_text_123 (fun h27 => ?_)
              refine zg_aload_n 0 rfl d_X8_text_124 ?_
              refine zg_getR d_X8_text_125 zc_8 (by decide) fl_X8_55 (fun v28 => ?_)
              refine zg_iload_n 2 rfl d_X8_text_128 ?_
              refine zg_iconst 0 rfl d_X8_text_129 ?_
              refine zg_ast0 d_X8_text_130 (fun h29 => ?_)
              refine zg_iinc 2 (s22 + 1) [(2, .int (s22 + 1)), (0, .ref a0), (1, .int a1)] d_X8_text_131 rfl rfl (by decide) rfl ?_
              refine zg_goto d_X8_text_134 ?_
              exact zg_finK (E := 0) [1, 2, 0] rfl rfl (fun q => q)
          · refine zg_aload_n 0 rfl d_X8_text_137 ?_
            refine zg_iconst 0 rfl d_X8_text_138 ?_
            refine zg_putV d_X8_text_139 zc_8 (by decide) fl_X8_232 rfl rfl rfl (fun h30 => ?_)
            refine zg_aload_n 0 rfl d_X8_text_142 ?_
            refine zg_iconst 0 rfl d_X8_text_143 ?_
            refine zg_putV d_X8_text_144 zc_8 (by decide) fl_X8_255 rfl rfl rfl (fun h31 => ?_)
            refine zg_aload_n 0 rfl d_X8_text_147 ?_
            refine zg_iconst 0 rfl d_X8_text_148 ?_
            refine zg_putV d_X8_text_149 zc_8 (by decide) fl_X8_291 rfl rfl rfl (fun h32 => ?_)
            refine zg_aload_n 0 rfl d_X8_text_152 ?_
            refine zg_iconst 0 rfl d_X8_text_153 ?_
            refine zg_putV d_X8_text_154 zc_8 (by decide) fl_X8_261 rfl rfl rfl (fun h33 => ?_)
            refine zg_aload_n 0 rfl d_X8_text_157 ?_
            refine zg_cVv (b := a0) (As := []) (rest := []) (0, 0) d_X8_text_158 zc_8 rfl cw_X8_211 wi_X8_token ws_X8_token rfl rfl (Nat.le_of_ble_eq_true rfl) (by decide) (by decide) ⟨by decide, by decide⟩ rfl (t_X8_token a0 h33) (fun v35 h34 => ?_)
            refine zg_bd (E := 183) (el := (fun (e38 : Unit) => [(0, .ref a0), (1, .int a1), (2, .int e24)])) (es := fun _ => []) (zg_sub [0, 1, 2] rfl (zg_lp (el := (fun (s36 : Unit) => [(0, .ref a0), (1, .int a1), (2, .int e24)])) (fun s36 h37 => ?_) () h34)) (fun e38 h39 => ?_)
            · refine zg_aload_n 0 rfl d_X8_text_161 ?_
              refine zg_getI d_X8_text_162 zc_8 (by decide) fl_X8_205 (fun v40 => ?_)
              refine zg_if_ne d_X8_text_165 ?_ ?_
              · refine zg_aload_n 0 rfl d_X8_text_168 ?_
                refine zg_getI d_X8_text_169 zc_8 (by decide) fl_X8_170 (fun v41 => ?_)
                refine zg_iconst 4 rfl d_X8_text_172 ?_
                refine zg_icmp_eq d_X8_text_173 ?_ ?_
                · exact zg_finK (E := 0) [0, 1, 2] rfl rfl (fun q => q)
                · refine zg_aload_n 0 rfl d_X8_text_176 ?_
                  refine zg_cVv (b := a0) (As := []) (rest := []) (0, 0) d_X8_text_177 zc_8 rfl cw_X8_294 wi_X8_line ws_X8_line rfl rfl (Nat.le_of_ble_eq_true rfl) (by decide) (by decide) ⟨by decide, by decide⟩ rfl (t_X8_line a0 h37) (fun v43 h42 => ?_)
                  refine zg_goto d_X8_text_180 ?_
                  exact zg_finK (E := 0) [0, 1, 2] rfl rfl (fun q => q)
              · exact zg_finK (E := 0) [0, 1, 2] rfl rfl (fun q => q)
            · refine zg_aload_n 0 rfl d_X8_text_183 ?_
              refine zg_aload_n 0 rfl d_X8_text_184 ?_
              refine zg_getI d_X8_text_185 zc_8 (by decide) fl_X8_205 (fun v44 => ?_)
              refine zg_putV d_X8_text_188 zc_8 (by decide) fl_X8_297 rfl rfl rfl (fun h45 => ?_)
              refine zg_aload_n 0 rfl d_X8_text_191 ?_
              refine zg_aload_n 0 rfl d_X8_text_192 ?_
              refine zg_getI d_X8_text_193 zc_8 (by decide) fl_X8_208 (fun v46 => ?_)
              refine zg_putV d_X8_text_196 zc_8 (by decide) fl_X8_64 rfl rfl rfl (fun h47 => ?_)
              refine zg_aload_n 0 rfl d_X8_text_199 ?_
              refine zg_getI d_X8_text_200 zc_8 (by decide) fl_X8_205 (fun v48 => ?_)
              refine zg_if_eq d_X8_text_203 ?_ ?_
              · refine zg_aload_n 0 rfl d_X8_text_208 ?_
                refine zg_getR d_X8_text_209 zc_8 (by decide) fl_X8_13 (fun v49 => ?_)
                refine zg_cSv (As := [.ref v49]) (rest := []) (0, 0) d_X8_text_212 cw_X8_300 wt_X8_half rfl rfl (Nat.le_of_ble_eq_true rfl) (by decide) (by decide) ⟨by decide, by decide⟩ rfl (t_X8_half v49 h47) (fun v51 h50 => ?_)
                refine zg_aload_n 0 rfl d_X8_text_215 ?_
                refine zg_getR d_X8_text_216 zc_8 (by decide) fl_X8_16 (fun v52 => ?_)
                refine zg_cSv (As := [.ref v52]) (rest := []) (0, 0) d_X8_text_219 cw_X8_300 wt_X8_half rfl rfl (Nat.le_of_ble_eq_true rfl) (by decide) (by decide) ⟨by decide, by decide⟩ rfl (t_X8_half v52 h50) (fun v54 h53 => ?_)
                refine zg_aload_n 0 rfl d_X8_text_222 ?_
                refine zg_getR d_X8_text_223 zc_8 (by decide) fl_X8_19 (fun v55 => ?_)
                refine zg_cSv (As := [.ref v55]) (rest := []) (0, 0) d_X8_text_226 cw_X8_300 wt_X8_half rfl rfl (Nat.le_of_ble_eq_true rfl) (by decide) (by decide) ⟨by decide, by decide⟩ rfl (t_X8_half v55 h53) (fun v57 h56 => ?_)
                refine zg_aload_n 0 rfl d_X8_text_229 ?_
                refine zg_getR d_X8_text_230 zc_8 (by decide) fl_X8_22 (fun v58 => ?_)
                refine zg_cSv (As := [.ref v58]) (rest := []) (0, 0) d_X8_text_233 cw_X8_300 wt_X8_half rfl rfl (Nat.le_of_ble_eq_true rfl) (by decide) (by decide) ⟨by decide, by decide⟩ rfl (t_X8_half v58 h56) (fun v60 h59 => ?_)
                refine zg_aload_n 0 rfl d_X8_text_236 ?_
                refine zg_getR d_X8_text_237 zc_8 (by decide) fl_X8_25 (fun v61 => ?_)
                refine zg_cSv (As := [.ref v61]) (rest := []) (0, 0) d_X8_text_240 cw_X8_300 wt_X8_half rfl rfl (Nat.le_of_ble_eq_true rfl) (by decide) (by decide) ⟨by decide, by decide⟩ rfl (t_X8_half v61 h59) (fun v63 h62 => ?_)
                refine zg_aload_n 0 rfl d_X8_text_243 ?_
                refine zg_getR d_X8_text_244 zc_8 (by decide) fl_X8_28 (fun v64 => ?_)
                refine zg_cSv (As := [.ref v64]) (rest := []) (0, 0) d_X8_text_247 cw_X8_300 wt_X8_half rfl rfl (Nat.le_of_ble_eq_true rfl) (by decide) (by decide) ⟨by decide, by decide⟩ rfl (t_X8_half v64 h62) (fun v66 h65 => ?_)
                refine zg_aload_n 0 rfl d_X8_text_250 ?_
                refine zg_getR d_X8_text_251 zc_8 (by decide) fl_X8_31 (fun v67 => ?_)
                refine zg_cSv (As := [.ref v67]) (rest := []) (0, 0) d_X8_text_254 cw_X8_300 wt_X8_half rfl rfl (Nat.le_of_ble_eq_true rfl) (by decide) (by decide) ⟨by decide, by decide⟩ rfl (t_X8_half v67 h65) (fun v69 h68 => ?_)
                refine zg_aload_n 0 rfl d_X8_text_257 ?_
                refine zg_getR d_X8_text_258 zc_8 (by decide) fl_X8_34 (fun v70 => ?_)
                refine zg_cSv (As := [.ref v70]) (rest := []) (0, 0) d_X8_text_261 cw_X8_300 wt_X8_half rfl rfl (Nat.le_of_ble_eq_true rfl) (by decide) (by decide) ⟨by decide, by decide⟩ rfl (t_X8_half v70 h68) (fun v72 h71 => ?_)
                refine zg_aload_n 0 rfl d_X8_text_264 ?_
                refine zg_getR d_X8_text_265 zc_8 (by decide) fl_X8_37 (fun v73 => ?_)
                refine zg_cSv (As := [.ref v73]) (rest := []) (0, 0) d_X8_text_268 cw_X8_300 wt_X8_half rfl rfl (Nat.le_of_ble_eq_true rfl) (by decide) (by decide) ⟨by decide, by decide⟩ rfl (t_X8_half v73 h71) (fun v75 h74 => ?_)
                refine zg_aload_n 0 rfl d_X8_text_271 ?_
                refine zg_getR d_X8_text_272 zc_8 (by decide) fl_X8_40 (fun v76 => ?_)
                refine zg_cSv (As := [.ref v76]) (rest := []) (0, 0) d_X8_text_275 cw_X8_300 wt_X8_half rfl rfl (Nat.le_of_ble_eq_true rfl) (by decide) (by decide) ⟨by decide, by decide⟩ rfl (t_X8_half v76 h74) (fun v78 h77 => ?_)
                refine zg_aload_n 0 rfl d_X8_text_278 ?_
                refine zg_getR d_X8_text_279 zc_8 (by decide) fl_X8_43 (fun v79 => ?_)
                refine zg_cSv (As := [.ref v79]) (rest := []) (0, 0) d_X8_text_282 cw_X8_300 wt_X8_half rfl rfl (Nat.le_of_ble_eq_true rfl) (by decide) (by decide) ⟨by decide, by decide⟩ rfl (t_X8_half v79 h77) (fun v81 h80 => ?_)
                refine zg_aload_n 0 rfl d_X8_text_285 ?_
                refine zg_getR d_X8_text_286 zc_8 (by decide) fl_X8_46 (fun v82 => ?_)
                refine zg_cSv (As := [.ref v82]) (rest := []) (0, 0) d_X8_text_289 cw_X8_300 wt_X8_half rfl rfl (Nat.le_of_ble_eq_true rfl) (by decide) (by decide) ⟨by decide, by decide⟩ rfl (t_X8_half v82 h80) (fun v84 h83 => ?_)
                refine zg_aload_n 0 rfl d_X8_text_292 ?_
                refine zg_getR d_X8_text_293 zc_8 (by decide) fl_X8_49 (fun v85 => ?_)
                refine zg_cSv (As := [.ref v85]) (rest := []) (0, 0) d_X8_text_296 cw_X8_300 wt_X8_half rfl rfl (Nat.le_of_ble_eq_true rfl) (by decide) (by decide) ⟨by decide, by decide⟩ rfl (t_X8_half v85 h83) (fun v87 h86 => ?_)
                refine zg_aload_n 0 rfl d_X8_text_299 ?_
                refine zg_getR d_X8_text_300 zc_8 (by decide) fl_X8_52 (fun v88 => ?_)
                refine zg_cSv (As := [.ref v88]) (rest := []) (0, 0) d_X8_text_303 cw_X8_300 wt_X8_half rfl rfl (Nat.le_of_ble_eq_true rfl) (by decide) (by decide) ⟨by decide, by decide⟩ rfl (t_X8_half v88 h86) (fun v90 h89 => ?_)
                refine zg_aload_n 0 rfl d_X8_text_306 ?_
                refine zg_getR d_X8_text_307 zc_8 (by decide) fl_X8_55 (fun v91 => ?_)
                refine zg_cSv (As := [.ref v91]) (rest := []) (0, 0) d_X8_text_310 cw_X8_300 wt_X8_half rfl rfl (Nat.le_of_ble_eq_true rfl) (by decide) (by decide) ⟨by decide, by decide⟩ rfl (t_X8_half v91 h89) (fun v93 h92 => ?_)
                refine zg_aload_n 0 rfl d_X8_text_313 ?_
                refine zg_getR d_X8_text_314 zc_8 (by decide) fl_X8_58 (fun v94 => ?_)
                refine zg_cSv (As := [.ref v94]) (rest := []) (0, 0) d_X8_text_317 cw_X8_300 wt_X8_half rfl rfl (Nat.le_of_ble_eq_true rfl) (by decide) (by decide) ⟨by decide, by decide⟩ rfl (t_X8_half v94 h92) (fun v96 h95 => ?_)
                refine zg_aload_n 0 rfl d_X8_text_320 ?_
                refine zg_getR d_X8_text_321 zc_8 (by decide) fl_X8_61 (fun v97 => ?_)
                refine zg_cSv (As := [.ref v97]) (rest := []) (0, 0) d_X8_text_324 cw_X8_300 wt_X8_half rfl rfl (Nat.le_of_ble_eq_true rfl) (by decide) (by decide) ⟨by decide, by decide⟩ rfl (t_X8_half v97 h95) (fun v99 h98 => ?_)
                refine zg_aload_n 0 rfl d_X8_text_327 ?_
                refine zg_iconst 0 rfl d_X8_text_328 ?_
                refine zg_putV d_X8_text_329 zc_8 (by decide) fl_X8_304 rfl rfl rfl (fun h100 => ?_)
                refine zg_aload_n 0 rfl d_X8_text_332 ?_
                refine zg_iconst (-1) rfl d_X8_text_333 ?_
                refine zg_putV d_X8_text_334 zc_8 (by decide) fl_X8_129 rfl rfl rfl (fun h101 => ?_)
                refine zg_aload_n 0 rfl d_X8_text_337 ?_
                refine zg_iconst 0 rfl d_X8_text_338 ?_
                refine zg_putV d_X8_text_339 zc_8 (by decide) fl_X8_307 rfl rfl rfl (fun h102 => ?_)
                refine zg_aload_n 0 rfl d_X8_text_342 ?_
                refine zg_iconst 0 rfl d_X8_text_343 ?_
                refine zg_putV d_X8_text_344 zc_8 (by decide) fl_X8_311 rfl rfl rfl (fun h103 => ?_)
                refine zg_aload_n 0 rfl d_X8_text_347 ?_
                refine zg_cVv (b := a0) (As := []) (rest := []) (0, 0) d_X8_text_348 zc_8 rfl cw_X8_148 wi_X8_begins ws_X8_begins rfl rfl (Nat.le_of_ble_eq_true rfl) (by decide) (by decide) ⟨by decide, by decide⟩ rfl (t_X8_begins a0 h103) (fun v105 h104 => ?_)
                refine zg_aload_n 0 rfl d_X8_text_351 ?_
                refine zg_getI d_X8_text_352 zc_8 (by decide) fl_X8_255 (fun v106 => ?_)
                exact zg_iretK d_X8_text_355 rfl ⟨Nat.le_of_ble_eq_true rfl, Nat.le_of_ble_eq_true rfl⟩ (fun q => q)
              · refine zg_iconst (-1) rfl d_X8_text_206 ?_
                exact zg_iretK d_X8_text_207 rfl ⟨Nat.le_of_ble_eq_true rfl, Nat.le_of_ble_eq_true rfl⟩ (fun q => q)
    · refine zg_bipush (-2) rfl d_X8_text_17 ?_
      exact zg_iretK d_X8_text_19 rfl ⟨Nat.le_of_ble_eq_true rfl, Nat.le_of_ble_eq_true rfl⟩ (fun q => q)

theorem fl_X1_44 : Cond.fieldLink RX1 44 (TX5 13).1 (TX5 13).2.1 (TX5 13).2.2.1 ∈ zT := zw_of _ 439 (by decide +kernel) (by decide +kernel)
theorem fl_X1_48 : Cond.fieldLink RX1 48 (TX5 5).1 (TX5 5).2.1 (TX5 5).2.2.1 ∈ zT := zw_of _ 417 (by decide +kernel) (by decide +kernel)
theorem ml_X5_108 : Cond.methodLink RX5 108 Lib.Math.abs.name ∈ zT := zw_of _ 861 (by decide +kernel) (by decide +kernel)
theorem fl_X1_63 : Cond.fieldLink RX1 63 (TX6 10).1 (TX6 10).2.1 (TX6 10).2.2.1 ∈ zT := zw_of _ 227 (by decide +kernel) (by decide +kernel)
theorem ml_X1_68 : Cond.methodLink RX1 68 yX5_seenFrom ∈ zT := zw_of _ 1058 (by decide +kernel) (by decide +kernel)
theorem cd_X5_seenFrom : Cond.code yX5_seenFrom cX5_seenFrom 6 (some .int) ∈ zT := zw_of _ 860 (by decide +kernel) (by decide +kernel)
theorem cw_X1_68 : zCw RX1 68 yX5_seenFrom cX5_seenFrom 6 (some .int) 3 := ⟨ml_X1_68, ni_X5, cd_X5_seenFrom, by decide, by decide, by decide +kernel⟩
theorem wi_X5_seenFrom : Cond.instanceMethod yX5_seenFrom ∈ zT := zw_of _ 858 (by decide +kernel) (by decide +kernel)
theorem ws_X5_seenFrom : Cond.selects RX5 yX5_seenFrom yX5_seenFrom ∈ zT := zw_of _ 859 (by decide +kernel) (by decide +kernel)
theorem ml_X1_72 : Cond.methodLink RX1 72 yJ6_bitCount_0f7a4 ∈ zT := zw_of _ 1059 (by decide +kernel) (by decide +kernel)
theorem ni_J6 : Cond.initialized RJ6 ∈ zT := zw_of _ 143 (by decide +kernel) (by decide +kernel)
theorem cd_J6_bitCount_0f7a4 : Cond.code yJ6_bitCount_0f7a4 cJ6_bitCount_0f7a4 1 (some .int) ∈ zT := zw_of _ 1045 (by decide +kernel) (by decide +kernel)
theorem cw_X1_72 : zCw RX1 72 yJ6_bitCount_0f7a4 cJ6_bitCount_0f7a4 1 (some .int) 1 := ⟨ml_X1_72, ni_J6, cd_J6_bitCount_0f7a4, by decide, by decide, by decide +kernel⟩
theorem wt_J6_bitCount_0f7a4 : Cond.static yJ6_bitCount_0f7a4 ∈ zT := zw_of _ 1044 (by decide +kernel) (by decide +kernel)
theorem ml_X1_113 : Cond.methodLink RX1 113 yX5_pushBy ∈ zT := zw_of _ 1128 (by decide +kernel) (by decide +kernel)
theorem cd_X5_pushBy : Cond.code yX5_pushBy cX5_pushBy 4 none ∈ zT := zw_of _ 1131 (by decide +kernel) (by decide +kernel)
theorem cw_X1_113 : zCw RX1 113 yX5_pushBy cX5_pushBy 4 none 2 := ⟨ml_X1_113, ni_X5, cd_X5_pushBy, by decide, by decide, by decide +kernel⟩
theorem wi_X5_pushBy : Cond.instanceMethod yX5_pushBy ∈ zT := zw_of _ 1129 (by decide +kernel) (by decide +kernel)
theorem ws_X5_pushBy : Cond.selects RX5 yX5_pushBy yX5_pushBy ∈ zT := zw_of _ 1130 (by decide +kernel) (by decide +kernel)
theorem ml_X1_117 : Cond.methodLink RX1 117 yX5_rainOfOwn ∈ zT := zw_of _ 1149 (by decide +kernel) (by decide +kernel)
theorem cd_X5_rainOfOwn : Cond.code yX5_rainOfOwn cX5_rainOfOwn 4 (some .int) ∈ zT := zw_of _ 829 (by decide +kernel) (by decide +kernel)
theorem cw_X1_117 : zCw RX1 117 yX5_rainOfOwn cX5_rainOfOwn 4 (some .int) 1 := ⟨ml_X1_117, ni_X5, cd_X5_rainOfOwn, by decide, by decide, by decide +kernel⟩
theorem wi_X5_rainOfOwn : Cond.instanceMethod yX5_rainOfOwn ∈ zT := zw_of _ 827 (by decide +kernel) (by decide +kernel)
theorem ws_X5_rainOfOwn : Cond.selects RX5 yX5_rainOfOwn yX5_rainOfOwn ∈ zT := zw_of _ 828 (by decide +kernel) (by decide +kernel)
theorem fl_X2_25 : Cond.fieldLink RX2 25 (TX2 4).1 (TX2 4).2.1 (TX2 4).2.2.1 ∈ zT := zw_of _ 174 (by decide +kernel) (by decide +kernel)
theorem fl_X2_29 : Cond.fieldLink RX2 29 (TX2 5).1 (TX2 5).2.1 (TX2 5).2.2.1 ∈ zT := zw_of _ 175 (by decide +kernel) (by decide +kernel)
theorem ml_X3_38 : Cond.methodLink RX3 38 yX3_add ∈ zT := zw_of _ 1174 (by decide +kernel) (by decide +kernel)
theorem cd_X3_add : Cond.code yX3_add cX3_add 5 (some .int) ∈ zT := zw_of _ 1165 (by decide +kernel) (by decide +kernel)
theorem cw_X3_38 : zCw RX3 38 yX3_add cX3_add 5 (some .int) 4 := ⟨ml_X3_38, ni_X3, cd_X3_add, by decide, by decide, by decide +kernel⟩
theorem wi_X3_add : Cond.instanceMethod yX3_add ∈ zT := zw_of _ 1163 (by decide +kernel) (by decide +kernel)
theorem ws_X3_add : Cond.selects RX3 yX3_add yX3_add ∈ zT := zw_of _ 1164 (by decide +kernel) (by decide +kernel)
abbrev M_X1_skyAfter : zMt := (RX1, cX1_skyAfter, 6, 6, 183, (some (.object "CloudSchool$Sky")), "skyAfter", 0, 0)
theorem d_X1_skyAfter_0 : zDc M_X1_skyAfter 0 (.aload_n 0) 1 1 := ⟨by decide +kernel, rfl⟩
theorem d_X1_skyAfter_1 : zDc M_X1_skyAfter 1 (.getfield 36) 3 4 := ⟨by decide +kernel, rfl⟩
theorem d_X1_skyAfter_4 : zDc M_X1_skyAfter 4 (.aload_n 1) 1 5 := ⟨by decide +kernel, rfl⟩
theorem d_X1_skyAfter_5 : zDc M_X1_skyAfter 5 (.invokevirtual 40) 3 8 := ⟨by decide +kernel, rfl⟩
theorem d_X1_skyAfter_8 : zDc M_X1_skyAfter 8 (.aload_n 0) 1 9 := ⟨by decide +kernel, rfl⟩
theorem d_X1_skyAfter_9 : zDc M_X1_skyAfter 9 (.getfield 36) 3 12 := ⟨by decide +kernel, rfl⟩
theorem d_X1_skyAfter_12 : zDc M_X1_skyAfter 12 (.iload_n 2) 1 13 := ⟨by decide +kernel, rfl⟩
theorem d_X1_skyAfter_13 : zDc M_X1_skyAfter 13 (.putfield 44) 3 16 := ⟨by decide +kernel, rfl⟩
theorem d_X1_skyAfter_16 : zDc M_X1_skyAfter 16 (.iload_n 2) 1 17 := ⟨by decide +kernel, rfl⟩
theorem d_X1_skyAfter_17 : zDc M_X1_skyAfter 17 (.iconst 2) 1 18 := ⟨by decide +kernel, rfl⟩
theorem d_X1_skyAfter_18 : zDj M_X1_skyAfter 18 (.if_icmp .ne 13) 13 21 31 := ⟨by decide +kernel, rfl, by decide⟩
theorem d_X1_skyAfter_21 : zDc M_X1_skyAfter 21 (.aload_n 0) 1 22 := ⟨by decide +kernel, rfl⟩
theorem d_X1_skyAfter_22 : zDc M_X1_skyAfter 22 (.getfield 36) 3 25 := ⟨by decide +kernel, rfl⟩
theorem d_X1_skyAfter_25 : zDc M_X1_skyAfter 25 (.getfield 48) 3 28 := ⟨by decide +kernel, rfl⟩
theorem d_X1_skyAfter_28 : zDc M_X1_skyAfter 28 (.iload_n 3) 1 29 := ⟨by decide +kernel, rfl⟩
theorem d_X1_skyAfter_29 : zDc M_X1_skyAfter 29 (.iconst 4) 1 30 := ⟨by decide +kernel, rfl⟩
theorem d_X1_skyAfter_30 : zDc M_X1_skyAfter 30 (.iastore) 1 31 := ⟨by decide +kernel, rfl⟩
theorem d_X1_skyAfter_31 : zDc M_X1_skyAfter 31 (.iconst 0) 1 32 := ⟨by decide +kernel, rfl⟩
theorem d_X1_skyAfter_32 : zDc M_X1_skyAfter 32 (.istore 5) 2 34 := ⟨by decide +kernel, rfl⟩
theorem d_X1_skyAfter_34 : zDc M_X1_skyAfter 34 (.iload 5) 2 36 := ⟨by decide +kernel, rfl⟩
theorem d_X1_skyAfter_36 : zDc M_X1_skyAfter 36 (.iload 4) 2 38 := ⟨by decide +kernel, rfl⟩
theorem d_X1_skyAfter_38 : zDj M_X1_skyAfter 38 (.if_icmp .ge 23) 23 41 61 := ⟨by decide +kernel, rfl, by decide⟩
theorem d_X1_skyAfter_41 : zDc M_X1_skyAfter 41 (.aload_n 0) 1 42 := ⟨by decide +kernel, rfl⟩
theorem d_X1_skyAfter_42 : zDc M_X1_skyAfter 42 (.getfield 36) 3 45 := ⟨by decide +kernel, rfl⟩
theorem d_X1_skyAfter_45 : zDc M_X1_skyAfter 45 (.aload_n 0) 1 46 := ⟨by decide +kernel, rfl⟩
theorem d_X1_skyAfter_46 : zDc M_X1_skyAfter 46 (.getfield 36) 3 49 := ⟨by decide +kernel, rfl⟩
theorem d_X1_skyAfter_49 : zDc M_X1_skyAfter 49 (.invokevirtual 51) 3 52 := ⟨by decide +kernel, rfl⟩
theorem d_X1_skyAfter_52 : zDc M_X1_skyAfter 52 (.invokevirtual 55) 3 55 := ⟨by decide +kernel, rfl⟩
theorem d_X1_skyAfter_55 : zDc M_X1_skyAfter 55 (.iinc 5 1) 3 58 := ⟨by decide +kernel, rfl⟩
theorem d_X1_skyAfter_58 : zDj M_X1_skyAfter 58 (.goto (-24)) (-24) 61 34 := ⟨by decide +kernel, rfl, by decide⟩
theorem d_X1_skyAfter_61 : zDc M_X1_skyAfter 61 (.aload_n 0) 1 62 := ⟨by decide +kernel, rfl⟩
theorem d_X1_skyAfter_62 : zDc M_X1_skyAfter 62 (.getfield 36) 3 65 := ⟨by decide +kernel, rfl⟩
theorem d_X1_skyAfter_65 : zDc M_X1_skyAfter 65 (.areturn) 1 66 := ⟨by decide +kernel, rfl⟩
def f_X1_skyAfter (a0 : Nat) (a1 : Nat) (a2 : Int32) (a3 : Int32) (a4 : Int32) (h0 : zHp) : Option (Nat × zHp) :=
  zob (zgR h0 a0 1 1) (fun v1 =>
  zbd (zcv 5 v1 h0 (f_X5_copyFrom v1 a1 h0)) (fun v3 h2 =>
  zob (zgR h2 a0 1 1) (fun v4 =>
  zob (zpV h2 v4 5 13 (.int a2)) (fun h5 =>
  zbd (α := Unit) (
  if a2 = 2 then
  zob (zgR h5 a0 1 1) (fun v6 =>
  zob (zgR h5 v6 5 5) (fun v7 =>
  zob (zsI 0 h5 v7 a3 4) (fun h8 =>
  some ((), h8))))
  else
  some ((), h5)) (fun e9 h10 =>
  zbd (
  zlp (σ := Int32) (β := Int32) zLF (fun s11 h12 =>
  if a4 ≤ s11 then
  some ((.inr s11), h12)
  else
  zob (zgR h12 a0 1 1) (fun v15 =>
  zob (zgR h12 a0 1 1) (fun v16 =>
  zbd (zcv 5 v16 h12 (f_X5_windNow v16 h12)) (fun v18 h17 =>
  zbd (zcv 5 v15 h17 (f_X5_passHour v15 v18 h17)) (fun v20 h19 =>
  some ((.inl (s11 + 1)), h19)))))) 0 h10) (fun e13 h14 =>
  zob (zgR h14 a0 1 1) (fun v21 =>
  some (v21, h14))))))))
set_option maxRecDepth 100000 in
set_option maxHeartbeats 4000000 in
theorem t_X1_skyAfter (a0 : Nat) (a1 : Nat) (a2 : Int32) (a3 : Int32) (a4 : Int32) (h0 : zHp) : ∀ (r : Nat) (h' : zHp), f_X1_skyAfter a0 a1 a2 a3 a4 h0 = some (r, h') → zCt yX1_skyAfter (.code yX1_skyAfter cX1_skyAfter 6 (some (.object "CloudSchool$Sky"))) 6 183 0 0 [.ref a0, .ref a1, .int a2, .int a3, .int a4] h0 (some (.ref r)) h' := by
  refine zct_of M_X1_skyAfter yX1_skyAfter (by decide) rfl rfl [.ref a0, .ref a1, .int a2, .int a3, .int a4] h0 (Nat.le_of_ble_eq_true rfl) (fun r => some (.ref r)) (fun X => ?_)
  show zG X M_X1_skyAfter (0, 0) 0 [(0, .ref a0), (1, .ref a1), (2, .int a2), (3, .int a3), (4, .int a4)] [] h0 (f_X1_skyAfter a0 a1 a2 a3 a4 h0) (fun (r : Nat) h' => zKe X (some (.ref r)) h')
  unfold f_X1_skyAfter
  refine zg_aload_n 0 rfl d_X1_skyAfter_0 ?_
  refine zg_getR d_X1_skyAfter_1 zc_1 (by decide) fl_X1_36 (fun v1 => ?_)
  refine zg_aload_n 1 rfl d_X1_skyAfter_4 ?_
  refine zg_cVv (b := v1) (As := [.ref a1]) (rest := []) (0, 0) d_X1_skyAfter_5 zc_5 rfl cw_X1_40 wi_X5_copyFrom ws_X5_copyFrom rfl rfl (Nat.le_of_ble_eq_true rfl) (by decide) (by decide) ⟨by decide, by decide⟩ rfl (t_X5_copyFrom v1 a1 h0) (fun v3 h2 => ?_)
  refine zg_aload_n 0 rfl d_X1_skyAfter_8 ?_
  refine zg_getR d_X1_skyAfter_9 zc_1 (by decide) fl_X1_36 (fun v4 => ?_)
  refine zg_iload_n 2 rfl d_X1_skyAfter_12 ?_
  refine zg_putV d_X1_skyAfter_13 zc_5 (by decide) fl_X1_44 rfl rfl rfl (fun h5 => ?_)
  refine zg_iload_n 2 rfl d_X1_skyAfter_16 ?_
  refine zg_iconst 2 rfl d_X1_skyAfter_17 ?_
  refine zg_bd (E := 31) (el := (fun (e9 : Unit) => [(0, .ref a0), (1, .ref a1), (2, .int a2), (3, .int a3), (4, .int a4)])) (es := (fun (e9 : Unit) => [])) ?_ (fun e9 h10 => ?_)
  · refine zg_icmp_ne d_X1_skyAfter_18 ?_ ?_
    · refine zg_aload_n 0 rfl d_X1_skyAfter_21 ?_
      refine zg_getR d_X1_skyAfter_22 zc_1 (by decide) fl_X1_36 (fun v6 => ?_)
      refine zg_getR d_X1_skyAfter_25 zc_5 (by decide) fl_X1_48 (fun v7 => ?_)
      refine zg_iload_n 3 rfl d_X1_skyAfter_28 ?_
      refine zg_iconst 4 rfl d_X1_skyAfter_29 ?_
      refine zg_ast0 d_X1_skyAfter_30 (fun h8 => ?_)
      exact zg_finK (E := 0) [0, 1, 2, 3, 4] rfl rfl (fun q => q)
    · exact zg_finK (E := 0) [0, 1, 2, 3, 4] rfl rfl (fun q => q)
  · refine zg_iconst 0 rfl d_X1_skyAfter_31 ?_
    refine zg_istore [(5, .int 0), (0, .ref a0), (1, .ref a1), (2, .int a2), (3, .int a3), (4, .int a4)] d_X1_skyAfter_32 (by decide) rfl ?_
    refine zg_bd (E := 61) (el := (fun (e13 : Int32) => [(0, .ref a0), (1, .ref a1), (2, .int a2), (3, .int a3), (4, .int a4), (5, .int e13)])) (es := fun _ => []) (zg_sub [1, 2, 3, 4, 5, 0] rfl (zg_lp (el := (fun (s11 : Int32) => [(0, .ref a0), (1, .ref a1), (2, .int a2), (3, .int a3), (4, .int a4), (5, .int s11)])) (fun s11 h12 => ?_) 0 h10)) (fun e13 h14 => ?_)
    · refine zg_iload 5 rfl d_X1_skyAfter_34 ?_
      refine zg_iload 4 rfl d_X1_skyAfter_36 ?_
      refine zg_icmp_ge d_X1_skyAfter_38 ?_ ?_
      · exact zg_finK (E := 0) [0, 1, 2, 3, 4, 5] rfl rfl (fun q => q)
      · refine zg_aload_n 0 rfl d_X1_skyAfter_41 ?_
        refine zg_getR d_X1_skyAfter_42 zc_1 (by decide) fl_X1_36 (fun v15 => ?_)
        refine zg_aload_n 0 rfl d_X1_skyAfter_45 ?_
        refine zg_getR d_X1_skyAfter_46 zc_1 (by decide) fl_X1_36 (fun v16 => ?_)
        refine zg_cVi (b := v16) (As := []) (rest := [.ref v15]) (0, 0) d_X1_skyAfter_49 zc_5 rfl cw_X1_51 wi_X5_windNow ws_X5_windNow rfl rfl (Nat.le_of_ble_eq_true rfl) (by decide) (by decide) ⟨by decide, by decide⟩ rfl (t_X5_windNow v16 h12) (fun v18 h17 => ?_)
        refine zg_cVv (b := v15) (As := [.int v18]) (rest := []) (0, 0) d_X1_skyAfter_52 zc_5 rfl cw_X1_55 wi_X5_passHour ws_X5_passHour rfl rfl (Nat.le_of_ble_eq_true rfl) (by decide) (by decide) ⟨by decide, by decide⟩ rfl (t_X5_passHour v15 v18 h17) (fun v20 h19 => ?_)
        refine zg_iinc 5 (s11 + 1) [(5, .int (s11 + 1)), (0, .ref a0), (1, .ref a1), (2, .int a2), (3, .int a3), (4, .int a4)] d_X1_skyAfter_55 rfl rfl (by decide) rfl ?_
        refine zg_goto d_X1_skyAfter_58 ?_
        exact zg_finK (E := 0) [1, 2, 3, 4, 5, 0] rfl rfl (fun q => q)
    · refine zg_aload_n 0 rfl d_X1_skyAfter_61 ?_
      refine zg_getR d_X1_skyAfter_62 zc_1 (by decide) fl_X1_36 (fun v21 => ?_)
      exact zg_aretK d_X1_skyAfter_65 rfl ⟨Nat.le_of_ble_eq_true rfl, Nat.le_of_ble_eq_true rfl⟩ (fun q => q)
abbrev M_X5_seenFrom : zMt := (RX5, cX5_seenFrom, 6, 2, 81, (some .int), "seenFrom", 0, 0)
theorem d_X5_seenFrom_0 : zDc M_X5_seenFrom 0 (.iconst 0) 1 1 := ⟨by decide +kernel, rfl⟩
theorem d_X5_seenFrom_1 : zDc M_X5_seenFrom 1 (.istore 4) 2 3 := ⟨by decide +kernel, rfl⟩
theorem d_X5_seenFrom_3 : zDc M_X5_seenFrom 3 (.iconst 0) 1 4 := ⟨by decide +kernel, rfl⟩
theorem d_X5_seenFrom_4 : zDc M_X5_seenFrom 4 (.istore 5) 2 6 := ⟨by decide +kernel, rfl⟩
theorem d_X5_seenFrom_6 : zDc M_X5_seenFrom 6 (.iload 5) 2 8 := ⟨by decide +kernel, rfl⟩
theorem d_X5_seenFrom_8 : zDc M_X5_seenFrom 8 (.aload_n 0) 1 9 := ⟨by decide +kernel, rfl⟩
theorem d_X5_seenFrom_9 : zDc M_X5_seenFrom 9 (.getfield 50) 3 12 := ⟨by decide +kernel, rfl⟩
theorem d_X5_seenFrom_12 : zDc M_X5_seenFrom 12 (.getfield 90) 3 15 := ⟨by decide +kernel, rfl⟩
theorem d_X5_seenFrom_15 : zDj M_X5_seenFrom 15 (.if_icmp .ge 59) 59 18 74 := ⟨by decide +kernel, rfl, by decide⟩
theorem d_X5_seenFrom_18 : zDc M_X5_seenFrom 18 (.aload_n 0) 1 19 := ⟨by decide +kernel, rfl⟩
theorem d_X5_seenFrom_19 : zDc M_X5_seenFrom 19 (.iload 5) 2 21 := ⟨by decide +kernel, rfl⟩
theorem d_X5_seenFrom_21 : zDc M_X5_seenFrom 21 (.invokevirtual 93) 3 24 := ⟨by decide +kernel, rfl⟩
theorem d_X5_seenFrom_24 : zDj M_X5_seenFrom 24 (.ifCond .eq 44) 44 27 68 := ⟨by decide +kernel, rfl, by decide⟩
theorem d_X5_seenFrom_27 : zDc M_X5_seenFrom 27 (.iload_n 1) 1 28 := ⟨by decide +kernel, rfl⟩
theorem d_X5_seenFrom_28 : zDc M_X5_seenFrom 28 (.aload_n 0) 1 29 := ⟨by decide +kernel, rfl⟩
theorem d_X5_seenFrom_29 : zDc M_X5_seenFrom 29 (.getfield 9) 3 32 := ⟨by decide +kernel, rfl⟩
theorem d_X5_seenFrom_32 : zDc M_X5_seenFrom 32 (.iload 5) 2 34 := ⟨by decide +kernel, rfl⟩
theorem d_X5_seenFrom_34 : zDc M_X5_seenFrom 34 (.iaload) 1 35 := ⟨by decide +kernel, rfl⟩
theorem d_X5_seenFrom_35 : zDc M_X5_seenFrom 35 (.isub) 1 36 := ⟨by decide +kernel, rfl⟩
theorem d_X5_seenFrom_36 : zDc M_X5_seenFrom 36 (.invokestatic 108) 3 39 := ⟨by decide +kernel, rfl⟩
theorem d_X5_seenFrom_39 : zDc M_X5_seenFrom 39 (.iload_n 3) 1 40 := ⟨by decide +kernel, rfl⟩
theorem d_X5_seenFrom_40 : zDj M_X5_seenFrom 40 (.if_icmp .gt 28) 28 43 68 := ⟨by decide +kernel, rfl, by decide⟩
theorem d_X5_seenFrom_43 : zDc M_X5_seenFrom 43 (.iload_n 2) 1 44 := ⟨by decide +kernel, rfl⟩
theorem d_X5_seenFrom_44 : zDc M_X5_seenFrom 44 (.aload_n 0) 1 45 := ⟨by decide +kernel, rfl⟩
theorem d_X5_seenFrom_45 : zDc M_X5_seenFrom 45 (.getfield 15) 3 48 := ⟨by decide +kernel, rfl⟩
theorem d_X5_seenFrom_48 : zDc M_X5_seenFrom 48 (.iload 5) 2 50 := ⟨by decide +kernel, rfl⟩
theorem d_X5_seenFrom_50 : zDc M_X5_seenFrom 50 (.iaload) 1 51 := ⟨by decide +kernel, rfl⟩
theorem d_X5_seenFrom_51 : zDc M_X5_seenFrom 51 (.isub) 1 52 := ⟨by decide +kernel, rfl⟩
theorem d_X5_seenFrom_52 : zDc M_X5_seenFrom 52 (.invokestatic 108) 3 55 := ⟨by decide +kernel, rfl⟩
theorem d_X5_seenFrom_55 : zDc M_X5_seenFrom 55 (.iload_n 3) 1 56 := ⟨by decide +kernel, rfl⟩
theorem d_X5_seenFrom_56 : zDj M_X5_seenFrom 56 (.if_icmp .gt 12) 12 59 68 := ⟨by decide +kernel, rfl, by decide⟩
theorem d_X5_seenFrom_59 : zDc M_X5_seenFrom 59 (.iload 4) 2 61 := ⟨by decide +kernel, rfl⟩
theorem d_X5_seenFrom_61 : zDc M_X5_seenFrom 61 (.iconst 1) 1 62 := ⟨by decide +kernel, rfl⟩
theorem d_X5_seenFrom_62 : zDc M_X5_seenFrom 62 (.iload 5) 2 64 := ⟨by decide +kernel, rfl⟩
theorem d_X5_seenFrom_64 : zDc M_X5_seenFrom 64 (.ishl) 1 65 := ⟨by decide +kernel, rfl⟩
theorem d_X5_seenFrom_65 : zDc M_X5_seenFrom 65 (.ior) 1 66 := ⟨by decide +kernel, rfl⟩
theorem d_X5_seenFrom_66 : zDc M_X5_seenFrom 66 (.istore 4) 2 68 := ⟨by decide +kernel, rfl⟩
theorem d_X5_seenFrom_68 : zDc M_X5_seenFrom 68 (.iinc 5 1) 3 71 := ⟨by decide +kernel, rfl⟩
theorem d_X5_seenFrom_71 : zDj M_X5_seenFrom 71 (.goto (-65)) (-65) 74 6 := ⟨by decide +kernel, rfl, by decide⟩
theorem d_X5_seenFrom_74 : zDc M_X5_seenFrom 74 (.iload 4) 2 76 := ⟨by decide +kernel, rfl⟩
theorem d_X5_seenFrom_76 : zDc M_X5_seenFrom 76 (.ireturn) 1 77 := ⟨by decide +kernel, rfl⟩
def f_X5_seenFrom (a0 : Nat) (a1 : Int32) (a2 : Int32) (a3 : Int32) (h0 : zHp) : Option (Int32 × zHp) :=
  zbd (
  zlp (σ := (Int32 × Int32)) (β := (Int32 × Int32)) zLF (fun s1 h2 =>
  zob (zgR h2 a0 5 14) (fun v5 =>
  zob (zgI h2 v5 6 14) (fun v6 =>
  if v6 ≤ s1.2 then
  some ((.inr (s1.1, s1.2)), h2)
  else
  zbd (zcv 5 a0 h2 (f_X5_isUp a0 s1.2 h2)) (fun v8 h7 =>
  if v8 = 0 then
  some ((.inl (s1.1, (s1.2 + 1))), h7)
  else
  zob (zgR h7 a0 5 0) (fun v9 =>
  zob (zaI 0 h7 v9 s1.2) (fun v10 =>
  if a3 < (zab (a1 - v10)) then
  some ((.inl (s1.1, (s1.2 + 1))), h7)
  else
  zob (zgR h7 a0 5 1) (fun v11 =>
  zob (zaI 0 h7 v11 s1.2) (fun v12 =>
  if a3 < (zab (a2 - v12)) then
  some ((.inl (s1.1, (s1.2 + 1))), h7)
  else
  some ((.inl ((s1.1 ||| (1 <<< (s1.2 &&& 31))), (s1.2 + 1))), h7))))))))) (0, 0) h0) (fun e3 h4 =>
  some (e3.1, h4))
set_option maxRecDepth 100000 in
set_option maxHeartbeats 4000000 in
theorem t_X5_seenFrom (a0 : Nat) (a1 : Int32) (a2 : Int32) (a3 : Int32) (h0 : zHp) : ∀ (r : Int32) (h' : zHp), f_X5_seenFrom a0 a1 a2 a3 h0 = some (r, h') → zCt yX5_seenFrom (.code yX5_seenFrom cX5_seenFrom 6 (some .int)) 2 81 0 0 [.ref a0, .int a1, .int a2, .int a3] h0 (some (.int r)) h' := by
  refine zct_of M_X5_seenFrom yX5_seenFrom (by decide) rfl rfl [.ref a0, .int a1, .int a2, .int a3] h0 (Nat.le_of_ble_eq_true rfl) (fun r => some (.int r)) (fun X => ?_)
  show zG X M_X5_seenFrom (0, 0) 0 [(0, .ref a0), (1, .int a1), (2, .int a2), (3, .int a3)] [] h0 (f_X5_seenFrom a0 a1 a2 a3 h0) (fun (r : Int32) h' => zKe X (some (.int r)) h')
  unfold f_X5_seenFrom
  refine zg_iconst 0 rfl d_X5_seenFrom_0 ?_
  refine zg_istore [(4, .int 0), (0, .ref a0), (1, .int a1), (2, .int a2), (3, .int a3)] d_X5_seenFrom_1 (by decide) rfl ?_
  refine zg_iconst 0 rfl d_X5_seenFrom_3 ?_
  refine zg_istore [(5, .int 0), (4, .int 0), (0, .ref a0), (1, .int a1), (2, .int a2), (3, .int a3)] d_X5_seenFrom_4 (by decide) rfl ?_
  refine zg_bd (E := 74) (el := (fun (e3 : (Int32 × Int32)) => [(0, .ref a0), (1, .int a1), (2, .int a2), (3, .int a3), (4, .int e3.1), (5, .int e3.2)])) (es := fun _ => []) (zg_sub [2, 3, 4, 5, 1, 0] rfl (zg_lp (el := (fun (s1 : (Int32 × Int32)) => [(0, .ref a0), (1, .int a1), (2, .int a2), (3, .int a3), (4, .int s1.1), (5, .int s1.2)])) (fun s1 h2 => ?_) (0, 0) h0)) (fun e3 h4 => ?_)
  · refine zg_iload 5 rfl d_X5_seenFrom_6 ?_
    refine zg_aload_n 0 rfl d_X5_seenFrom_8 ?_
    refine zg_getR d_X5_seenFrom_9 zc_5 (by decide) fl_X5_50 (fun v5 => ?_)
    refine zg_getI d_X5_seenFrom_12 zc_6 (by decide) fl_X5_90 (fun v6 => ?_)
    refine zg_icmp_ge d_X5_seenFrom_15 ?_ ?_
    · exact zg_finK (E := 0) [0, 1, 2, 3, 4, 5] rfl rfl (fun q => q)
    · refine zg_aload_n 0 rfl d_X5_seenFrom_18 ?_
      refine zg_iload 5 rfl d_X5_seenFrom_19 ?_
      refine zg_cVi (b := a0) (As := [.int s1.2]) (rest := []) (0, 0) d_X5_seenFrom_21 zc_5 rfl cw_X5_93 wi_X5_isUp ws_X5_isUp rfl rfl (Nat.le_of_ble_eq_true rfl) (by decide) (by decide) ⟨by decide, by decide⟩ rfl (t_X5_isUp a0 s1.2 h2) (fun v8 h7 => ?_)
      refine zg_if_eq d_X5_seenFrom_24 ?_ ?_
      · refine zg_iinc 5 (s1.2 + 1) [(5, .int (s1.2 + 1)), (0, .ref a0), (1, .int a1), (2, .int a2), (3, .int a3), (4, .int s1.1)] d_X5_seenFrom_68 rfl rfl (by decide) rfl ?_
        refine zg_goto d_X5_seenFrom_71 ?_
        exact zg_finK (E := 0) [1, 2, 3, 4, 5, 0] rfl rfl (fun q => q)
      · refine zg_iload_n 1 rfl d_X5_seenFrom_27 ?_
        refine zg_aload_n 0 rfl d_X5_seenFrom_28 ?_
        refine zg_getR d_X5_seenFrom_29 zc_5 (by decide) fl_X5_9 (fun v9 => ?_)
        refine zg_iload 5 rfl d_X5_seenFrom_32 ?_
        refine zg_ald0 d_X5_seenFrom_34 (fun v10 => ?_)
        refine zg_isub d_X5_seenFrom_35 ?_
        refine zg_mabs d_X5_seenFrom_36 ml_X5_108 (by decide) (Nat.le_of_ble_eq_true rfl) ⟨Nat.le_of_ble_eq_true rfl, Nat.le_of_ble_eq_true rfl⟩ ?_
        refine zg_iload_n 3 rfl d_X5_seenFrom_39 ?_
        refine zg_icmp_gt d_X5_seenFrom_40 ?_ ?_
        · refine zg_iinc 5 (s1.2 + 1) [(5, .int (s1.2 + 1)), (0, .ref a0), (1, .int a1), (2, .int a2), (3, .int a3), (4, .int s1.1)] d_X5_seenFrom_68 rfl rfl (by decide) rfl ?_
          refine zg_goto d_X5_seenFrom_71 ?_
          exact zg_finK (E := 0) [1, 2, 3, 4, 5, 0] rfl rfl (fun q => q)
        · refine zg_iload_n 2 rfl d_X5_seenFrom_43 ?_
          refine zg_aload_n 0 rfl d_X5_seenFrom_44 ?_
          refine zg_getR d_X5_seenFrom_45 zc_5 (by decide) fl_X5_15 (fun v11 => ?_)
          refine zg_iload 5 rfl d_X5_seenFrom_48 ?_
          refine zg_ald0 d_X5_seenFrom_50 (fun v12 => ?_)
          refine zg_isub d_X5_seenFrom_51 ?_
          refine zg_mabs d_X5_seenFrom_52 ml_X5_108 (by decide) (Nat.le_of_ble_eq_true rfl) ⟨Nat.le_of_ble_eq_true rfl, Nat.le_of_ble_eq_true rfl⟩ ?_
          refine zg_iload_n 3 rfl d_X5_seenFrom_55 ?_
          refine zg_icmp_gt d_X5_seenFrom_56 ?_ ?_
          · refine zg_iinc 5 (s1.2 + 1) [(5, .int (s1.2 + 1)), (0, .ref a0), (1, .int a1), (2, .int a2), (3, .int a3), (4, .int s1.1)] d_X5_seenFrom_68 rfl rfl (by decide) rfl ?_
            refine zg_goto d_X5_seenFrom_71 ?_
            exact zg_finK (E := 0) [1, 2, 3, 4, 5, 0] rfl rfl (fun q => q)
          · refine zg_iload 4 rfl d_X5_seenFrom_59 ?_
            refine zg_iconst 1 rfl d_X5_seenFrom_61 ?_
            refine zg_iload 5 rfl d_X5_seenFrom_62 ?_
            refine zg_ishl d_X5_seenFrom_64 ?_
            refine zg_ior d_X5_seenFrom_65 ?_
            refine zg_istore [(4, .int (s1.1 ||| (1 <<< (s1.2 &&& 31)))), (0, .ref a0), (1, .int a1), (2, .int a2), (3, .int a3), (5, .int s1.2)] d_X5_seenFrom_66 (by decide) rfl ?_
            refine zg_iinc 5 (s1.2 + 1) [(5, .int (s1.2 + 1)), (4, .int (s1.1 ||| (1 <<< (s1.2 &&& 31)))), (0, .ref a0), (1, .int a1), (2, .int a2), (3, .int a3)] d_X5_seenFrom_68 rfl rfl (by decide) rfl ?_
            refine zg_goto d_X5_seenFrom_71 ?_
            exact zg_finK (E := 0) [2, 3, 4, 5, 1, 0] rfl rfl (fun q => q)
  · refine zg_iload 4 rfl d_X5_seenFrom_74 ?_
    exact zg_iretK d_X5_seenFrom_76 rfl ⟨Nat.le_of_ble_eq_true rfl, Nat.le_of_ble_eq_true rfl⟩ (fun q => q)
abbrev M_X1_stationOf : zMt := (RX1, cX1_stationOf, 7, 6, 183, (some .int), "stationOf", 0, 0)
theorem d_X1_stationOf_0 : zDc M_X1_stationOf 0 (.aload_n 0) 1 1 := ⟨by decide +kernel, rfl⟩
theorem d_X1_stationOf_1 : zDc M_X1_stationOf 1 (.getfield 36) 3 4 := ⟨by decide +kernel, rfl⟩
theorem d_X1_stationOf_4 : zDc M_X1_stationOf 4 (.aload_n 1) 1 5 := ⟨by decide +kernel, rfl⟩
theorem d_X1_stationOf_5 : zDc M_X1_stationOf 5 (.invokevirtual 40) 3 8 := ⟨by decide +kernel, rfl⟩
theorem d_X1_stationOf_8 : zDc M_X1_stationOf 8 (.iconst 0) 1 9 := ⟨by decide +kernel, rfl⟩
theorem d_X1_stationOf_9 : zDc M_X1_stationOf 9 (.istore 4) 2 11 := ⟨by decide +kernel, rfl⟩
theorem d_X1_stationOf_11 : zDc M_X1_stationOf 11 (.iload 4) 2 13 := ⟨by decide +kernel, rfl⟩
theorem d_X1_stationOf_13 : zDc M_X1_stationOf 13 (.bipush 24) 2 15 := ⟨by decide +kernel, rfl⟩
theorem d_X1_stationOf_15 : zDj M_X1_stationOf 15 (.if_icmp .ge 17) 17 18 32 := ⟨by decide +kernel, rfl, by decide⟩
theorem d_X1_stationOf_18 : zDc M_X1_stationOf 18 (.aload_n 0) 1 19 := ⟨by decide +kernel, rfl⟩
theorem d_X1_stationOf_19 : zDc M_X1_stationOf 19 (.getfield 17) 3 22 := ⟨by decide +kernel, rfl⟩
theorem d_X1_stationOf_22 : zDc M_X1_stationOf 22 (.iload 4) 2 24 := ⟨by decide +kernel, rfl⟩
theorem d_X1_stationOf_24 : zDc M_X1_stationOf 24 (.iconst 0) 1 25 := ⟨by decide +kernel, rfl⟩
theorem d_X1_stationOf_25 : zDc M_X1_stationOf 25 (.iastore) 1 26 := ⟨by decide +kernel, rfl⟩
theorem d_X1_stationOf_26 : zDc M_X1_stationOf 26 (.iinc 4 1) 3 29 := ⟨by decide +kernel, rfl⟩
theorem d_X1_stationOf_29 : zDj M_X1_stationOf 29 (.goto (-18)) (-18) 32 11 := ⟨by decide +kernel, rfl, by decide⟩
theorem d_X1_stationOf_32 : zDc M_X1_stationOf 32 (.aload_n 1) 1 33 := ⟨by decide +kernel, rfl⟩
theorem d_X1_stationOf_33 : zDc M_X1_stationOf 33 (.getfield 59) 3 36 := ⟨by decide +kernel, rfl⟩
theorem d_X1_stationOf_36 : zDc M_X1_stationOf 36 (.getfield 63) 3 39 := ⟨by decide +kernel, rfl⟩
theorem d_X1_stationOf_39 : zDc M_X1_stationOf 39 (.iload_n 2) 1 40 := ⟨by decide +kernel, rfl⟩
theorem d_X1_stationOf_40 : zDc M_X1_stationOf 40 (.iaload) 1 41 := ⟨by decide +kernel, rfl⟩
theorem d_X1_stationOf_41 : zDc M_X1_stationOf 41 (.istore 4) 2 43 := ⟨by decide +kernel, rfl⟩
theorem d_X1_stationOf_43 : zDc M_X1_stationOf 43 (.iconst 0) 1 44 := ⟨by decide +kernel, rfl⟩
theorem d_X1_stationOf_44 : zDc M_X1_stationOf 44 (.istore 5) 2 46 := ⟨by decide +kernel, rfl⟩
theorem d_X1_stationOf_46 : zDc M_X1_stationOf 46 (.iload 5) 2 48 := ⟨by decide +kernel, rfl⟩
theorem d_X1_stationOf_48 : zDc M_X1_stationOf 48 (.iload_n 3) 1 49 := ⟨by decide +kernel, rfl⟩
theorem d_X1_stationOf_49 : zDj M_X1_stationOf 49 (.if_icmp .ge 71) 71 52 120 := ⟨by decide +kernel, rfl, by decide⟩
theorem d_X1_stationOf_52 : zDc M_X1_stationOf 52 (.aload_n 0) 1 53 := ⟨by decide +kernel, rfl⟩
theorem d_X1_stationOf_53 : zDc M_X1_stationOf 53 (.getfield 36) 3 56 := ⟨by decide +kernel, rfl⟩
theorem d_X1_stationOf_56 : zDc M_X1_stationOf 56 (.aload_n 0) 1 57 := ⟨by decide +kernel, rfl⟩
theorem d_X1_stationOf_57 : zDc M_X1_stationOf 57 (.getfield 36) 3 60 := ⟨by decide +kernel, rfl⟩
theorem d_X1_stationOf_60 : zDc M_X1_stationOf 60 (.invokevirtual 51) 3 63 := ⟨by decide +kernel, rfl⟩
theorem d_X1_stationOf_63 : zDc M_X1_stationOf 63 (.invokevirtual 55) 3 66 := ⟨by decide +kernel, rfl⟩
theorem d_X1_stationOf_66 : zDc M_X1_stationOf 66 (.iconst 0) 1 67 := ⟨by decide +kernel, rfl⟩
theorem d_X1_stationOf_67 : zDc M_X1_stationOf 67 (.istore 6) 2 69 := ⟨by decide +kernel, rfl⟩
theorem d_X1_stationOf_69 : zDc M_X1_stationOf 69 (.iload 6) 2 71 := ⟨by decide +kernel, rfl⟩
theorem d_X1_stationOf_71 : zDc M_X1_stationOf 71 (.bipush 24) 2 73 := ⟨by decide +kernel, rfl⟩
theorem d_X1_stationOf_73 : zDj M_X1_stationOf 73 (.if_icmp .ge 41) 41 76 114 := ⟨by decide +kernel, rfl, by decide⟩
theorem d_X1_stationOf_76 : zDc M_X1_stationOf 76 (.aload_n 0) 1 77 := ⟨by decide +kernel, rfl⟩
theorem d_X1_stationOf_77 : zDc M_X1_stationOf 77 (.getfield 17) 3 80 := ⟨by decide +kernel, rfl⟩
theorem d_X1_stationOf_80 : zDc M_X1_stationOf 80 (.iload 6) 2 82 := ⟨by decide +kernel, rfl⟩
theorem d_X1_stationOf_82 : zDc M_X1_stationOf 82 (.dup2) 1 83 := ⟨by decide +kernel, rfl⟩
theorem d_X1_stationOf_83 : zDc M_X1_stationOf 83 (.iaload) 1 84 := ⟨by decide +kernel, rfl⟩
theorem d_X1_stationOf_84 : zDc M_X1_stationOf 84 (.aload_n 0) 1 85 := ⟨by decide +kernel, rfl⟩
theorem d_X1_stationOf_85 : zDc M_X1_stationOf 85 (.getfield 36) 3 88 := ⟨by decide +kernel, rfl⟩
theorem d_X1_stationOf_88 : zDc M_X1_stationOf 88 (.iload 6) 2 90 := ⟨by decide +kernel, rfl⟩
theorem d_X1_stationOf_90 : zDc M_X1_stationOf 90 (.bipush 6) 2 92 := ⟨by decide +kernel, rfl⟩
theorem d_X1_stationOf_92 : zDc M_X1_stationOf 92 (.irem) 1 93 := ⟨by decide +kernel, rfl⟩
theorem d_X1_stationOf_93 : zDc M_X1_stationOf 93 (.iload 6) 2 95 := ⟨by decide +kernel, rfl⟩
theorem d_X1_stationOf_95 : zDc M_X1_stationOf 95 (.bipush 6) 2 97 := ⟨by decide +kernel, rfl⟩
theorem d_X1_stationOf_97 : zDc M_X1_stationOf 97 (.idiv) 1 98 := ⟨by decide +kernel, rfl⟩
theorem d_X1_stationOf_98 : zDc M_X1_stationOf 98 (.iload 4) 2 100 := ⟨by decide +kernel, rfl⟩
theorem d_X1_stationOf_100 : zDc M_X1_stationOf 100 (.invokevirtual 68) 3 103 := ⟨by decide +kernel, rfl⟩
theorem d_X1_stationOf_103 : zDc M_X1_stationOf 103 (.invokestatic 72) 3 106 := ⟨by decide +kernel, rfl⟩
theorem d_X1_stationOf_106 : zDc M_X1_stationOf 106 (.iadd) 1 107 := ⟨by decide +kernel, rfl⟩
theorem d_X1_stationOf_107 : zDc M_X1_stationOf 107 (.iastore) 1 108 := ⟨by decide +kernel, rfl⟩
theorem d_X1_stationOf_108 : zDc M_X1_stationOf 108 (.iinc 6 1) 3 111 := ⟨by decide +kernel, rfl⟩
theorem d_X1_stationOf_111 : zDj M_X1_stationOf 111 (.goto (-42)) (-42) 114 69 := ⟨by decide +kernel, rfl, by decide⟩
theorem d_X1_stationOf_114 : zDc M_X1_stationOf 114 (.iinc 5 1) 3 117 := ⟨by decide +kernel, rfl⟩
theorem d_X1_stationOf_117 : zDj M_X1_stationOf 117 (.goto (-71)) (-71) 120 46 := ⟨by decide +kernel, rfl, by decide⟩
theorem d_X1_stationOf_120 : zDc M_X1_stationOf 120 (.iconst 0) 1 121 := ⟨by decide +kernel, rfl⟩
theorem d_X1_stationOf_121 : zDc M_X1_stationOf 121 (.istore 5) 2 123 := ⟨by decide +kernel, rfl⟩
theorem d_X1_stationOf_123 : zDc M_X1_stationOf 123 (.iconst 1) 1 124 := ⟨by decide +kernel, rfl⟩
theorem d_X1_stationOf_124 : zDc M_X1_stationOf 124 (.istore 6) 2 126 := ⟨by decide +kernel, rfl⟩
theorem d_X1_stationOf_126 : zDc M_X1_stationOf 126 (.iload 6) 2 128 := ⟨by decide +kernel, rfl⟩
theorem d_X1_stationOf_128 : zDc M_X1_stationOf 128 (.bipush 24) 2 130 := ⟨by decide +kernel, rfl⟩
theorem d_X1_stationOf_130 : zDj M_X1_stationOf 130 (.if_icmp .ge 30) 30 133 160 := ⟨by decide +kernel, rfl, by decide⟩
theorem d_X1_stationOf_133 : zDc M_X1_stationOf 133 (.aload_n 0) 1 134 := ⟨by decide +kernel, rfl⟩
theorem d_X1_stationOf_134 : zDc M_X1_stationOf 134 (.getfield 17) 3 137 := ⟨by decide +kernel, rfl⟩
theorem d_X1_stationOf_137 : zDc M_X1_stationOf 137 (.iload 6) 2 139 := ⟨by decide +kernel, rfl⟩
theorem d_X1_stationOf_139 : zDc M_X1_stationOf 139 (.iaload) 1 140 := ⟨by decide +kernel, rfl⟩
theorem d_X1_stationOf_140 : zDc M_X1_stationOf 140 (.aload_n 0) 1 141 := ⟨by decide +kernel, rfl⟩
theorem d_X1_stationOf_141 : zDc M_X1_stationOf 141 (.getfield 17) 3 144 := ⟨by decide +kernel, rfl⟩
theorem d_X1_stationOf_144 : zDc M_X1_stationOf 144 (.iload 5) 2 146 := ⟨by decide +kernel, rfl⟩
theorem d_X1_stationOf_146 : zDc M_X1_stationOf 146 (.iaload) 1 147 := ⟨by decide +kernel, rfl⟩
theorem d_X1_stationOf_147 : zDj M_X1_stationOf 147 (.if_icmp .le 7) 7 150 154 := ⟨by decide +kernel, rfl, by decide⟩
theorem d_X1_stationOf_150 : zDc M_X1_stationOf 150 (.iload 6) 2 152 := ⟨by decide +kernel, rfl⟩
theorem d_X1_stationOf_152 : zDc M_X1_stationOf 152 (.istore 5) 2 154 := ⟨by decide +kernel, rfl⟩
theorem d_X1_stationOf_154 : zDc M_X1_stationOf 154 (.iinc 6 1) 3 157 := ⟨by decide +kernel, rfl⟩
theorem d_X1_stationOf_157 : zDj M_X1_stationOf 157 (.goto (-31)) (-31) 160 126 := ⟨by decide +kernel, rfl, by decide⟩
theorem d_X1_stationOf_160 : zDc M_X1_stationOf 160 (.iload 5) 2 162 := ⟨by decide +kernel, rfl⟩
theorem d_X1_stationOf_162 : zDc M_X1_stationOf 162 (.ireturn) 1 163 := ⟨by decide +kernel, rfl⟩
def f_X1_stationOf (a0 : Nat) (a1 : Nat) (a2 : Int32) (a3 : Int32) (h0 : zHp) : Option (Int32 × zHp) :=
  zob (zgR h0 a0 1 1) (fun v1 =>
  zbd (zcv 5 v1 h0 (f_X5_copyFrom v1 a1 h0)) (fun v3 h2 =>
  zbd (
  zlp (σ := Int32) (β := Int32) zLF (fun s4 h5 =>
  if 24 ≤ s4 then
  some ((.inr s4), h5)
  else
  zob (zgR h5 a0 1 2) (fun v8 =>
  zob (zsI 0 h5 v8 s4 0) (fun h9 =>
  some ((.inl (s4 + 1)), h9)))) 0 h2) (fun e6 h7 =>
  zob (zgR h7 a1 5 14) (fun v10 =>
  zob (zgR h7 v10 6 10) (fun v11 =>
  zob (zaI 0 h7 v11 a2) (fun v12 =>
  zbd (
  zlp (σ := Int32) (β := Int32) zLF (fun s13 h14 =>
  if a3 ≤ s13 then
  some ((.inr s13), h14)
  else
  zob (zgR h14 a0 1 1) (fun v17 =>
  zob (zgR h14 a0 1 1) (fun v18 =>
  zbd (zcv 5 v18 h14 (f_X5_windNow v18 h14)) (fun v20 h19 =>
  zbd (zcv 5 v17 h19 (f_X5_passHour v17 v20 h19)) (fun v22 h21 =>
  zbd (
  zlp (σ := Int32) (β := Int32) zLF (fun s23 h24 =>
  if 24 ≤ s23 then
  some ((.inr s23), h24)
  else
  zob (zgR h24 a0 1 2) (fun v27 =>
  zob (zaI 0 h24 v27 s23) (fun v28 =>
  zob (zgR h24 a0 1 1) (fun v29 =>
  zbd (zcv 5 v29 h24 (f_X5_seenFrom v29 (zrm s23 6) (s23 / 6) v12 h24)) (fun v31 h30 =>
  zbd ((f_J6_bitCount_0f7a4 v31 h30)) (fun v33 h32 =>
  zob (zsI 0 h32 v27 s23 (v28 + v33)) (fun h34 =>
  some ((.inl (s23 + 1)), h34)))))))) 0 h21) (fun e25 h26 =>
  some ((.inl (s13 + 1)), h26))))))) 0 h7) (fun e15 h16 =>
  zbd (
  zlp (σ := (Int32 × Int32)) (β := (Int32 × Int32)) zLF (fun s35 h36 =>
  if 24 ≤ s35.2 then
  some ((.inr (s35.1, s35.2)), h36)
  else
  zob (zgR h36 a0 1 2) (fun v39 =>
  zob (zaI 0 h36 v39 s35.2) (fun v40 =>
  zob (zgR h36 a0 1 2) (fun v41 =>
  zob (zaI 0 h36 v41 s35.1) (fun v42 =>
  if v40 ≤ v42 then
  some ((.inl (s35.1, (s35.2 + 1))), h36)
  else
  some ((.inl (s35.2, (s35.2 + 1))), h36)))))) (0, 1) h16) (fun e37 h38 =>
  some (e37.1, h38)))))))))
set_option maxRecDepth 100000 in
set_option maxHeartbeats 4000000 in
theorem t_X1_stationOf (a0 : Nat) (a1 : Nat) (a2 : Int32) (a3 : Int32) (h0 : zHp) : ∀ (r : Int32) (h' : zHp), f_X1_stationOf a0 a1 a2 a3 h0 = some (r, h') → zCt yX1_stationOf (.code yX1_stationOf cX1_stationOf 7 (some .int)) 6 183 0 0 [.ref a0, .ref a1, .int a2, .int a3] h0 (some (.int r)) h' := by
  refine zct_of M_X1_stationOf yX1_stationOf (by decide) rfl rfl [.ref a0, .ref a1, .int a2, .int a3] h0 (Nat.le_of_ble_eq_true rfl) (fun r => some (.int r)) (fun X => ?_)
  show zG X M_X1_stationOf (0, 0) 0 [(0, .ref a0), (1, .ref a1), (2, .int a2), (3, .int a3)] [] h0 (f_X1_stationOf a0 a1 a2 a3 h0) (fun (r : Int32) h' => zKe X (some (.int r)) h')
  unfold f_X1_stationOf
  refine zg_aload_n 0 rfl d_X1_stationOf_0 ?_
  refine zg_getR d_X1_stationOf_1 zc_1 (by decide) fl_X1_36 (fun v1 => ?_)
  refine zg_aload_n 1 rfl d_X1_stationOf_4 ?_
  refine zg_cVv (b := v1) (As := [.ref a1]) (rest := []) (0, 0) d_X1_stationOf_5 zc_5 rfl cw_X1_40 wi_X5_copyFrom ws_X5_copyFrom rfl rfl (Nat.le_of_ble_eq_true rfl) (by decide) (by decide) ⟨by decide, by decide⟩ rfl (t_X5_copyFrom v1 a1 h0) (fun v3 h2 => ?_)
  refine zg_iconst 0 rfl d_X1_stationOf_8 ?_
  refine zg_istore [(4, .int 0), (0, .ref a0), (1, .ref a1), (2, .int a2), (3, .int a3)] d_X1_stationOf_9 (by decide) rfl ?_
  refine zg_bd (E := 32) (el := (fun (e6 : Int32) => [(0, .ref a0), (1, .ref a1), (2, .int a2), (3, .int a3), (4, .int e6)])) (es := fun _ => []) (zg_sub [1, 2, 3, 4, 0] rfl (zg_lp (el := (fun (s4 : Int32) => [(0, .ref a0), (1, .ref a1), (2, .int a2), (3, .int a3), (4, .int s4)])) (fun s4 h5 => ?_) 0 h2)) (fun e6 h7 => ?_)
  · refine zg_iload 4 rfl d_X1_stationOf_11 ?_
    refine zg_bipush 24 rfl d_X1_stationOf_13 ?_
    refine zg_icmp_ge d_X1_stationOf_15 ?_ ?_
    · exact zg_finK (E := 0) [0, 1, 2, 3, 4] rfl rfl (fun q => q)
    · refine zg_aload_n 0 rfl d_X1_stationOf_18 ?_
      refine zg_getR d_X1_stationOf_19 zc_1 (by decide) fl_X1_17 (fun v8 => ?_)
      refine zg_iload 4 rfl d_X1_stationOf_22 ?_
      refine zg_iconst 0 rfl d_X1_stationOf_24 ?_
      refine zg_ast0 d_X1_stationOf_25 (fun h9 => ?_)
      refine zg_iinc 4 (s4 + 1) [(4, .int (s4 + 1)), (0, .ref a0), (1, .ref a1), (2, .int a2), (3, .int a3)] d_X1_stationOf_26 rfl rfl (by decide) rfl ?_
      refine zg_goto d_X1_stationOf_29 ?_
      exact zg_finK (E := 0) [1, 2, 3, 4, 0] rfl rfl (fun q => q)
  · refine zg_aload_n 1 rfl d_X1_stationOf_32 ?_
    refine zg_getRN d_X1_stationOf_33 zc_5 (by decide) (fun _ q => q.2.2.2.1) (fun v10 => ?_)
    refine zg_getR d_X1_stationOf_36 zc_6 (by decide) fl_X1_63 (fun v11 => ?_)
    refine zg_iload_n 2 rfl d_X1_stationOf_39 ?_
    refine zg_ald0 d_X1_stationOf_40 (fun v12 => ?_)
    refine zg_istore [(4, .int v12), (0, .ref a0), (1, .ref a1), (2, .int a2), (3, .int a3)] d_X1_stationOf_41 (by decide) rfl ?_
    refine zg_iconst 0 rfl d_X1_stationOf_43 ?_
    refine zg_istore [(5, .int 0), (4, .int v12), (0, .ref a0), (1, .ref a1), (2, .int a2), (3, .int a3)] d_X1_stationOf_44 (by decide) rfl ?_
    refine zg_bd (E := 120) (el := (fun (e15 : Int32) => [(0, .ref a0), (1, .ref a1), (2, .int a2), (3, .int a3), (4, .int v12), (5, .int e15)])) (es := fun _ => []) (zg_sub [2, 3, 4, 5, 1, 0] rfl (zg_lp (el := (fun (s13 : Int32) => [(0, .ref a0), (1, .ref a1), (2, .int a2), (3, .int a3), (4, .int v12), (5, .int s13)])) (fun s13 h14 => ?_) 0 h7)) (fun e15 h16 => ?_)
    · refine zg_iload 5 rfl d_X1_stationOf_46 ?_
      refine zg_iload_n 3 rfl d_X1_stationOf_48 ?_
      refine zg_icmp_ge d_X1_stationOf_49 ?_ ?_
      · exact zg_finK (E := 0) [0, 1, 2, 3, 4, 5] rfl rfl (fun q => q)
      · refine zg_aload_n 0 rfl d_X1_stationOf_52 ?_
        refine zg_getR d_X1_stationOf_53 zc_1 (by decide) fl_X1_36 (fun v17 => ?_)
        refine zg_aload_n 0 rfl d_X1_stationOf_56 ?_
        refine zg_getR d_X1_stationOf_57 zc_1 (by decide) fl_X1_36 (fun v18 => ?_)
        refine zg_cVi (b := v18) (As := []) (rest := [.ref v17]) (0, 0) d_X1_stationOf_60 zc_5 rfl cw_X1_51 wi_X5_windNow ws_X5_windNow rfl rfl (Nat.le_of_ble_eq_true rfl) (by decide) (by decide) ⟨by decide, by decide⟩ rfl (t_X5_windNow v18 h14) (fun v20 h19 => ?_)
        refine zg_cVv (b := v17) (As := [.int v20]) (rest := []) (0, 0) d_X1_stationOf_63 zc_5 rfl cw_X1_55 wi_X5_passHour ws_X5_passHour rfl rfl (Nat.le_of_ble_eq_true rfl) (by decide) (by decide) ⟨by decide, by decide⟩ rfl (t_X5_passHour v17 v20 h19) (fun v22 h21 => ?_)
        refine zg_iconst 0 rfl d_X1_stationOf_66 ?_
        refine zg_istore [(6, .int 0), (0, .ref a0), (1, .ref a1), (2, .int a2), (3, .int a3), (4, .int v12), (5, .int s13)] d_X1_stationOf_67 (by decide) rfl ?_
        refine zg_bd (E := 114) (el := (fun (e25 : Int32) => [(0, .ref a0), (1, .ref a1), (2, .int a2), (3, .int a3), (4, .int v12), (5, .int s13), (6, .int e25)])) (es := fun _ => []) (zg_sub [1, 2, 3, 4, 5, 6, 0] rfl (zg_lp (el := (fun (s23 : Int32) => [(0, .ref a0), (1, .ref a1), (2, .int a2), (3, .int a3), (4, .int v12), (5, .int s13), (6, .int s23)])) (fun s23 h24 => ?_) 0 h21)) (fun e25 h26 => ?_)
        · refine zg_iload 6 rfl d_X1_stationOf_69 ?_
          refine zg_bipush 24 rfl d_X1_stationOf_71 ?_
          refine zg_icmp_ge d_X1_stationOf_73 ?_ ?_
          · exact zg_finK (E := 0) [0, 1, 2, 3, 4, 5, 6] rfl rfl (fun q => q)
          · refine zg_aload_n 0 rfl d_X1_stationOf_76 ?_
            refine zg_getR d_X1_stationOf_77 zc_1 (by decide) fl_X1_17 (fun v27 => ?_)
            refine zg_iload 6 rfl d_X1_stationOf_80 ?_
            refine zg_dup2 rfl rfl d_X1_stationOf_82 ?_
            refine zg_ald0 d_X1_stationOf_83 (fun v28 => ?_)
            refine zg_aload_n 0 rfl d_X1_stationOf_84 ?_
            refine zg_getR d_X1_stationOf_85 zc_1 (by decide) fl_X1_36 (fun v29 => ?_)
            refine zg_iload 6 rfl d_X1_stationOf_88 ?_
            refine zg_bipush 6 rfl d_X1_stationOf_90 ?_
            refine zg_irem (by decide) d_X1_stationOf_92 ?_
            refine zg_iload 6 rfl d_X1_stationOf_93 ?_
            refine zg_bipush 6 rfl d_X1_stationOf_95 ?_
            refine zg_idiv (by decide) d_X1_stationOf_97 ?_
            refine zg_iload 4 rfl d_X1_stationOf_98 ?_
            refine zg_cVi (b := v29) (As := [.int (zrm s23 6), .int (s23 / 6), .int v12]) (rest := [.int v28, .int s23, .ref v27]) (0, 0) d_X1_stationOf_100 zc_5 rfl cw_X1_68 wi_X5_seenFrom ws_X5_seenFrom rfl rfl (Nat.le_of_ble_eq_true rfl) (by decide) (by decide) ⟨by decide, by decide⟩ rfl (t_X5_seenFrom v29 (zrm s23 6) (s23 / 6) v12 h24) (fun v31 h30 => ?_)
            refine zg_cSi (As := [.int v31]) (rest := [.int v28, .int s23, .ref v27]) (0, 0) d_X1_stationOf_103 cw_X1_72 wt_J6_bitCount_0f7a4 rfl rfl (Nat.le_of_ble_eq_true rfl) (by decide) (by decide) ⟨by decide, by decide⟩ rfl (t_J6_bitCount_0f7a4 v31 h30) (fun v33 h32 => ?_)
            refine zg_iadd d_X1_stationOf_106 ?_
            refine zg_ast0 d_X1_stationOf_107 (fun h34 => ?_)
            refine zg_iinc 6 (s23 + 1) [(6, .int (s23 + 1)), (0, .ref a0), (1, .ref a1), (2, .int a2), (3, .int a3), (4, .int v12), (5, .int s13)] d_X1_stationOf_108 rfl rfl (by decide) rfl ?_
            refine zg_goto d_X1_stationOf_111 ?_
            exact zg_finK (E := 0) [1, 2, 3, 4, 5, 6, 0] rfl rfl (fun q => q)
        · refine zg_iinc 5 (s13 + 1) [(5, .int (s13 + 1)), (0, .ref a0), (1, .ref a1), (2, .int a2), (3, .int a3), (4, .int v12), (6, .int e25)] d_X1_stationOf_114 rfl rfl (by decide) rfl ?_
          refine zg_goto d_X1_stationOf_117 ?_
          exact zg_finK (E := 0) [1, 2, 3, 4, 5, 0] rfl rfl (fun q => q)
    · refine zg_iconst 0 rfl d_X1_stationOf_120 ?_
      refine zg_istore [(5, .int 0), (0, .ref a0), (1, .ref a1), (2, .int a2), (3, .int a3), (4, .int v12)] d_X1_stationOf_121 (by decide) rfl ?_
      refine zg_iconst 1 rfl d_X1_stationOf_123 ?_
      refine zg_istore [(6, .int 1), (5, .int 0), (0, .ref a0), (1, .ref a1), (2, .int a2), (3, .int a3), (4, .int v12)] d_X1_stationOf_124 (by decide) rfl ?_
      refine zg_bd (E := 160) (el := (fun (e37 : (Int32 × Int32)) => [(0, .ref a0), (1, .ref a1), (2, .int a2), (3, .int a3), (4, .int v12), (5, .int e37.1), (6, .int e37.2)])) (es := fun _ => []) (zg_sub [2, 3, 4, 5, 6, 1, 0] rfl (zg_lp (el := (fun (s35 : (Int32 × Int32)) => [(0, .ref a0), (1, .ref a1), (2, .int a2), (3, .int a3), (4, .int v12), (5, .int s35.1), (6, .int s35.2)])) (fun s35 h36 => ?_) (0, 1) h16)) (fun e37 h38 => ?_)
      · refine zg_iload 6 rfl d_X1_stationOf_126 ?_
        refine zg_bipush 24 rfl d_X1_stationOf_128 ?_
        refine zg_icmp_ge d_X1_stationOf_130 ?_ ?_
        · exact zg_finK (E := 0) [0, 1, 2, 3, 4, 5, 6] rfl rfl (fun q => q)
        · refine zg_aload_n 0 rfl d_X1_stationOf_133 ?_
          refine zg_getR d_X1_stationOf_134 zc_1 (by decide) fl_X1_17 (fun v39 => ?_)
          refine zg_iload 6 rfl d_X1_stationOf_137 ?_
          refine zg_ald0 d_X1_stationOf_139 (fun v40 => ?_)
          refine zg_aload_n 0 rfl d_X1_stationOf_140 ?_
          refine zg_getR d_X1_stationOf_141 zc_1 (by decide) fl_X1_17 (fun v41 => ?_)
          refine zg_iload 5 rfl d_X1_stationOf_144 ?_
          refine zg_ald0 d_X1_stationOf_146 (fun v42 => ?_)
          refine zg_icmp_le d_X1_stationOf_147 ?_ ?_
          · refine zg_iinc 6 (s35.2 + 1) [(6, .int (s35.2 + 1)), (0, .ref a0), (1, .ref a1), (2, .int a2), (3, .int a3), (4, .int v12), (5, .int s35.1)] d_X1_stationOf_154 rfl rfl (by decide) rfl ?_
            refine zg_goto d_X1_stationOf_157 ?_
            exact zg_finK (E := 0) [1, 2, 3, 4, 5, 6, 0] rfl rfl (fun q => q)
          · refine zg_iload 6 rfl d_X1_stationOf_150 ?_
            refine zg_istore [(5, .int s35.2), (0, .ref a0), (1, .ref a1), (2, .int a2), (3, .int a3), (4, .int v12), (6, .int s35.2)] d_X1_stationOf_152 (by decide) rfl ?_
            refine zg_iinc 6 (s35.2 + 1) [(6, .int (s35.2 + 1)), (5, .int s35.2), (0, .ref a0), (1, .ref a1), (2, .int a2), (3, .int a3), (4, .int v12)] d_X1_stationOf_154 rfl rfl (by decide) rfl ?_
            refine zg_goto d_X1_stationOf_157 ?_
            exact zg_finK (E := 0) [2, 3, 4, 5, 6, 1, 0] rfl rfl (fun q => q)
      · refine zg_iload 5 rfl d_X1_stationOf_160 ?_
        exact zg_iretK d_X1_stationOf_162 rfl ⟨Nat.le_of_ble_eq_true rfl, Nat.le_of_ble_eq_true rfl⟩ (fun q => q)
abbrev M_X5_rainOfOwn : zMt := (RX5, cX5_rainOfOwn, 4, 1, 60, (some .int), "rainOfOwn", 0, 0)
theorem d_X5_rainOfOwn_0 : zDc M_X5_rainOfOwn 0 (.iconst 0) 1 1 := ⟨by decide +kernel, rfl⟩
theorem d_X5_rainOfOwn_1 : zDc M_X5_rainOfOwn 1 (.istore_n 2) 1 2 := ⟨by decide +kernel, rfl⟩
theorem d_X5_rainOfOwn_2 : zDc M_X5_rainOfOwn 2 (.iconst 0) 1 3 := ⟨by decide +kernel, rfl⟩
theorem d_X5_rainOfOwn_3 : zDc M_X5_rainOfOwn 3 (.istore_n 3) 1 4 := ⟨by decide +kernel, rfl⟩
theorem d_X5_rainOfOwn_4 : zDc M_X5_rainOfOwn 4 (.iload_n 3) 1 5 := ⟨by decide +kernel, rfl⟩
theorem d_X5_rainOfOwn_5 : zDc M_X5_rainOfOwn 5 (.aload_n 0) 1 6 := ⟨by decide +kernel, rfl⟩
theorem d_X5_rainOfOwn_6 : zDc M_X5_rainOfOwn 6 (.getfield 50) 3 9 := ⟨by decide +kernel, rfl⟩
theorem d_X5_rainOfOwn_9 : zDc M_X5_rainOfOwn 9 (.getfield 114) 3 12 := ⟨by decide +kernel, rfl⟩
theorem d_X5_rainOfOwn_12 : zDj M_X5_rainOfOwn 12 (.if_icmp .ge 20) 20 15 32 := ⟨by decide +kernel, rfl, by decide⟩
theorem d_X5_rainOfOwn_15 : zDc M_X5_rainOfOwn 15 (.iload_n 2) 1 16 := ⟨by decide +kernel, rfl⟩
theorem d_X5_rainOfOwn_16 : zDc M_X5_rainOfOwn 16 (.aload_n 0) 1 17 := ⟨by decide +kernel, rfl⟩
theorem d_X5_rainOfOwn_17 : zDc M_X5_rainOfOwn 17 (.getfield 44) 3 20 := ⟨by decide +kernel, rfl⟩
theorem d_X5_rainOfOwn_20 : zDc M_X5_rainOfOwn 20 (.iload_n 1) 1 21 := ⟨by decide +kernel, rfl⟩
theorem d_X5_rainOfOwn_21 : zDc M_X5_rainOfOwn 21 (.aaload) 1 22 := ⟨by decide +kernel, rfl⟩
theorem d_X5_rainOfOwn_22 : zDc M_X5_rainOfOwn 22 (.iload_n 3) 1 23 := ⟨by decide +kernel, rfl⟩
theorem d_X5_rainOfOwn_23 : zDc M_X5_rainOfOwn 23 (.iaload) 1 24 := ⟨by decide +kernel, rfl⟩
theorem d_X5_rainOfOwn_24 : zDc M_X5_rainOfOwn 24 (.iadd) 1 25 := ⟨by decide +kernel, rfl⟩
theorem d_X5_rainOfOwn_25 : zDc M_X5_rainOfOwn 25 (.istore_n 2) 1 26 := ⟨by decide +kernel, rfl⟩
theorem d_X5_rainOfOwn_26 : zDc M_X5_rainOfOwn 26 (.iinc 3 1) 3 29 := ⟨by decide +kernel, rfl⟩
theorem d_X5_rainOfOwn_29 : zDj M_X5_rainOfOwn 29 (.goto (-25)) (-25) 32 4 := ⟨by decide +kernel, rfl, by decide⟩
theorem d_X5_rainOfOwn_32 : zDc M_X5_rainOfOwn 32 (.iload_n 2) 1 33 := ⟨by decide +kernel, rfl⟩
theorem d_X5_rainOfOwn_33 : zDc M_X5_rainOfOwn 33 (.ireturn) 1 34 := ⟨by decide +kernel, rfl⟩
def f_X5_rainOfOwn (a0 : Nat) (a1 : Int32) (h0 : zHp) : Option (Int32 × zHp) :=
  zbd (
  zlp (σ := (Int32 × Int32)) (β := (Int32 × Int32)) zLF (fun s1 h2 =>
  zob (zgR h2 a0 5 14) (fun v5 =>
  zob (zgI h2 v5 6 13) (fun v6 =>
  if v6 ≤ s1.2 then
  some ((.inr (s1.1, s1.2)), h2)
  else
  zob (zgR h2 a0 5 10) (fun v7 =>
  zob (zaA 5 h2 v7 a1) (fun v8 =>
  zob (zaI 0 h2 v8 s1.2) (fun v9 =>
  some ((.inl ((s1.1 + v9), (s1.2 + 1))), h2))))))) (0, 0) h0) (fun e3 h4 =>
  some (e3.1, h4))
set_option maxRecDepth 100000 in
set_option maxHeartbeats 4000000 in
theorem t_X5_rainOfOwn (a0 : Nat) (a1 : Int32) (h0 : zHp) : ∀ (r : Int32) (h' : zHp), f_X5_rainOfOwn a0 a1 h0 = some (r, h') → zCt yX5_rainOfOwn (.code yX5_rainOfOwn cX5_rainOfOwn 4 (some .int)) 1 60 0 0 [.ref a0, .int a1] h0 (some (.int r)) h' := by
  refine zct_of M_X5_rainOfOwn yX5_rainOfOwn (by decide) rfl rfl [.ref a0, .int a1] h0 (Nat.le_of_ble_eq_true rfl) (fun r => some (.int r)) (fun X => ?_)
  show zG X M_X5_rainOfOwn (0, 0) 0 [(0, .ref a0), (1, .int a1)] [] h0 (f_X5_rainOfOwn a0 a1 h0) (fun (r : Int32) h' => zKe X (some (.int r)) h')
  unfold f_X5_rainOfOwn
  refine zg_iconst 0 rfl d_X5_rainOfOwn_0 ?_
  refine zg_istore_n [(2, .int 0), (0, .ref a0), (1, .int a1)] d_X5_rainOfOwn_1 rfl (by decide) rfl ?_
  refine zg_iconst 0 rfl d_X5_rainOfOwn_2 ?_
  refine zg_istore_n [(3, .int 0), (2, .int 0), (0, .ref a0), (1, .int a1)] d_X5_rainOfOwn_3 rfl (by decide) rfl ?_
  refine zg_bd (E := 32) (el := (fun (e3 : (Int32 × Int32)) => [(0, .ref a0), (1, .int a1), (2, .int e3.1), (3, .int e3.2)])) (es := fun _ => []) (zg_sub [2, 3, 1, 0] rfl (zg_lp (el := (fun (s1 : (Int32 × Int32)) => [(0, .ref a0), (1, .int a1), (2, .int s1.1), (3, .int s1.2)])) (fun s1 h2 => ?_) (0, 0) h0)) (fun e3 h4 => ?_)
  · refine zg_iload_n 3 rfl d_X5_rainOfOwn_4 ?_
    refine zg_aload_n 0 rfl d_X5_rainOfOwn_5 ?_
    refine zg_getR d_X5_rainOfOwn_6 zc_5 (by decide) fl_X5_50 (fun v5 => ?_)
    refine zg_getI d_X5_rainOfOwn_9 zc_6 (by decide) fl_X5_114 (fun v6 => ?_)
    refine zg_icmp_ge d_X5_rainOfOwn_12 ?_ ?_
    · exact zg_finK (E := 0) [0, 1, 2, 3] rfl rfl (fun q => q)
    · refine zg_iload_n 2 rfl d_X5_rainOfOwn_15 ?_
      refine zg_aload_n 0 rfl d_X5_rainOfOwn_16 ?_
      refine zg_getR d_X5_rainOfOwn_17 zc_5 (by decide) fl_X5_44 (fun v7 => ?_)
      refine zg_iload_n 1 rfl d_X5_rainOfOwn_20 ?_
      refine zg_ald5 d_X5_rainOfOwn_21 (fun v8 => ?_)
      refine zg_iload_n 3 rfl d_X5_rainOfOwn_22 ?_
      refine zg_ald0 d_X5_rainOfOwn_23 (fun v9 => ?_)
      refine zg_iadd d_X5_rainOfOwn_24 ?_
      refine zg_istore_n [(2, .int (s1.1 + v9)), (0, .ref a0), (1, .int a1), (3, .int s1.2)] d_X5_rainOfOwn_25 rfl (by decide) rfl ?_
      refine zg_iinc 3 (s1.2 + 1) [(3, .int (s1.2 + 1)), (2, .int (s1.1 + v9)), (0, .ref a0), (1, .int a1)] d_X5_rainOfOwn_26 rfl rfl (by decide) rfl ?_
      refine zg_goto d_X5_rainOfOwn_29 ?_
      exact zg_finK (E := 0) [2, 3, 1, 0] rfl rfl (fun q => q)
  · refine zg_iload_n 2 rfl d_X5_rainOfOwn_32 ?_
    exact zg_iretK d_X5_rainOfOwn_33 rfl ⟨Nat.le_of_ble_eq_true rfl, Nat.le_of_ble_eq_true rfl⟩ (fun q => q)
abbrev M_X1_tryBoth : zMt := (RX1, cX1_tryBoth, 5, 6, 183, none, "tryBoth", 0, 0)
theorem d_X1_tryBoth_0 : zDc M_X1_tryBoth 0 (.iconst 0) 1 1 := ⟨by decide +kernel, rfl⟩
theorem d_X1_tryBoth_1 : zDc M_X1_tryBoth 1 (.istore 4) 2 3 := ⟨by decide +kernel, rfl⟩
theorem d_X1_tryBoth_3 : zDc M_X1_tryBoth 3 (.iload 4) 2 5 := ⟨by decide +kernel, rfl⟩
theorem d_X1_tryBoth_5 : zDc M_X1_tryBoth 5 (.bipush 25) 2 7 := ⟨by decide +kernel, rfl⟩
theorem d_X1_tryBoth_7 : zDj M_X1_tryBoth 7 (.if_icmp .ge 97) 97 10 104 := ⟨by decide +kernel, rfl, by decide⟩
theorem d_X1_tryBoth_10 : zDc M_X1_tryBoth 10 (.aload_n 0) 1 11 := ⟨by decide +kernel, rfl⟩
theorem d_X1_tryBoth_11 : zDc M_X1_tryBoth 11 (.getfield 36) 3 14 := ⟨by decide +kernel, rfl⟩
theorem d_X1_tryBoth_14 : zDc M_X1_tryBoth 14 (.aload_n 1) 1 15 := ⟨by decide +kernel, rfl⟩
theorem d_X1_tryBoth_15 : zDc M_X1_tryBoth 15 (.invokevirtual 40) 3 18 := ⟨by decide +kernel, rfl⟩
theorem d_X1_tryBoth_18 : zDc M_X1_tryBoth 18 (.aload_n 0) 1 19 := ⟨by decide +kernel, rfl⟩
theorem d_X1_tryBoth_19 : zDc M_X1_tryBoth 19 (.getfield 36) 3 22 := ⟨by decide +kernel, rfl⟩
theorem d_X1_tryBoth_22 : zDc M_X1_tryBoth 22 (.iload_n 2) 1 23 := ⟨by decide +kernel, rfl⟩
theorem d_X1_tryBoth_23 : zDc M_X1_tryBoth 23 (.iload 4) 2 25 := ⟨by decide +kernel, rfl⟩
theorem d_X1_tryBoth_25 : zDc M_X1_tryBoth 25 (.iconst 5) 1 26 := ⟨by decide +kernel, rfl⟩
theorem d_X1_tryBoth_26 : zDc M_X1_tryBoth 26 (.idiv) 1 27 := ⟨by decide +kernel, rfl⟩
theorem d_X1_tryBoth_27 : zDc M_X1_tryBoth 27 (.invokevirtual 113) 3 30 := ⟨by decide +kernel, rfl⟩
theorem d_X1_tryBoth_30 : zDc M_X1_tryBoth 30 (.aload_n 0) 1 31 := ⟨by decide +kernel, rfl⟩
theorem d_X1_tryBoth_31 : zDc M_X1_tryBoth 31 (.getfield 36) 3 34 := ⟨by decide +kernel, rfl⟩
theorem d_X1_tryBoth_34 : zDc M_X1_tryBoth 34 (.iload_n 3) 1 35 := ⟨by decide +kernel, rfl⟩
theorem d_X1_tryBoth_35 : zDc M_X1_tryBoth 35 (.iload 4) 2 37 := ⟨by decide +kernel, rfl⟩
theorem d_X1_tryBoth_37 : zDc M_X1_tryBoth 37 (.iconst 5) 1 38 := ⟨by decide +kernel, rfl⟩
theorem d_X1_tryBoth_38 : zDc M_X1_tryBoth 38 (.irem) 1 39 := ⟨by decide +kernel, rfl⟩
theorem d_X1_tryBoth_39 : zDc M_X1_tryBoth 39 (.invokevirtual 113) 3 42 := ⟨by decide +kernel, rfl⟩
theorem d_X1_tryBoth_42 : zDc M_X1_tryBoth 42 (.aload_n 0) 1 43 := ⟨by decide +kernel, rfl⟩
theorem d_X1_tryBoth_43 : zDc M_X1_tryBoth 43 (.getfield 36) 3 46 := ⟨by decide +kernel, rfl⟩
theorem d_X1_tryBoth_46 : zDc M_X1_tryBoth 46 (.aload_n 0) 1 47 := ⟨by decide +kernel, rfl⟩
theorem d_X1_tryBoth_47 : zDc M_X1_tryBoth 47 (.getfield 36) 3 50 := ⟨by decide +kernel, rfl⟩
theorem d_X1_tryBoth_50 : zDc M_X1_tryBoth 50 (.invokevirtual 51) 3 53 := ⟨by decide +kernel, rfl⟩
theorem d_X1_tryBoth_53 : zDc M_X1_tryBoth 53 (.invokevirtual 55) 3 56 := ⟨by decide +kernel, rfl⟩
theorem d_X1_tryBoth_56 : zDc M_X1_tryBoth 56 (.aload_n 0) 1 57 := ⟨by decide +kernel, rfl⟩
theorem d_X1_tryBoth_57 : zDc M_X1_tryBoth 57 (.getfield 27) 3 60 := ⟨by decide +kernel, rfl⟩
theorem d_X1_tryBoth_60 : zDc M_X1_tryBoth 60 (.iload 4) 2 62 := ⟨by decide +kernel, rfl⟩
theorem d_X1_tryBoth_62 : zDc M_X1_tryBoth 62 (.aload_n 0) 1 63 := ⟨by decide +kernel, rfl⟩
theorem d_X1_tryBoth_63 : zDc M_X1_tryBoth 63 (.getfield 36) 3 66 := ⟨by decide +kernel, rfl⟩
theorem d_X1_tryBoth_66 : zDc M_X1_tryBoth 66 (.iload_n 2) 1 67 := ⟨by decide +kernel, rfl⟩
theorem d_X1_tryBoth_67 : zDc M_X1_tryBoth 67 (.invokevirtual 117) 3 70 := ⟨by decide +kernel, rfl⟩
theorem d_X1_tryBoth_70 : zDc M_X1_tryBoth 70 (.aload_n 1) 1 71 := ⟨by decide +kernel, rfl⟩
theorem d_X1_tryBoth_71 : zDc M_X1_tryBoth 71 (.iload_n 2) 1 72 := ⟨by decide +kernel, rfl⟩
theorem d_X1_tryBoth_72 : zDc M_X1_tryBoth 72 (.invokevirtual 117) 3 75 := ⟨by decide +kernel, rfl⟩
theorem d_X1_tryBoth_75 : zDc M_X1_tryBoth 75 (.isub) 1 76 := ⟨by decide +kernel, rfl⟩
theorem d_X1_tryBoth_76 : zDc M_X1_tryBoth 76 (.iastore) 1 77 := ⟨by decide +kernel, rfl⟩
theorem d_X1_tryBoth_77 : zDc M_X1_tryBoth 77 (.aload_n 0) 1 78 := ⟨by decide +kernel, rfl⟩
theorem d_X1_tryBoth_78 : zDc M_X1_tryBoth 78 (.getfield 30) 3 81 := ⟨by decide +kernel, rfl⟩
theorem d_X1_tryBoth_81 : zDc M_X1_tryBoth 81 (.iload 4) 2 83 := ⟨by decide +kernel, rfl⟩
theorem d_X1_tryBoth_83 : zDc M_X1_tryBoth 83 (.aload_n 0) 1 84 := ⟨by decide +kernel, rfl⟩
theorem d_X1_tryBoth_84 : zDc M_X1_tryBoth 84 (.getfield 36) 3 87 := ⟨by decide +kernel, rfl⟩
theorem d_X1_tryBoth_87 : zDc M_X1_tryBoth 87 (.iload_n 3) 1 88 := ⟨by decide +kernel, rfl⟩
theorem d_X1_tryBoth_88 : zDc M_X1_tryBoth 88 (.invokevirtual 117) 3 91 := ⟨by decide +kernel, rfl⟩
theorem d_X1_tryBoth_91 : zDc M_X1_tryBoth 91 (.aload_n 1) 1 92 := ⟨by decide +kernel, rfl⟩
theorem d_X1_tryBoth_92 : zDc M_X1_tryBoth 92 (.iload_n 3) 1 93 := ⟨by decide +kernel, rfl⟩
theorem d_X1_tryBoth_93 : zDc M_X1_tryBoth 93 (.invokevirtual 117) 3 96 := ⟨by decide +kernel, rfl⟩
theorem d_X1_tryBoth_96 : zDc M_X1_tryBoth 96 (.isub) 1 97 := ⟨by decide +kernel, rfl⟩
theorem d_X1_tryBoth_97 : zDc M_X1_tryBoth 97 (.iastore) 1 98 := ⟨by decide +kernel, rfl⟩
theorem d_X1_tryBoth_98 : zDc M_X1_tryBoth 98 (.iinc 4 1) 3 101 := ⟨by decide +kernel, rfl⟩
theorem d_X1_tryBoth_101 : zDj M_X1_tryBoth 101 (.goto (-98)) (-98) 104 3 := ⟨by decide +kernel, rfl, by decide⟩
theorem d_X1_tryBoth_104 : zDc M_X1_tryBoth 104 (.return_) 1 105 := ⟨by decide +kernel, rfl⟩
def f_X1_tryBoth (a0 : Nat) (a1 : Nat) (a2 : Int32) (a3 : Int32) (h0 : zHp) : Option (Unit × zHp) :=
  zbd (
  zlp (σ := Int32) (β := Int32) zLF (fun s1 h2 =>
  if 25 ≤ s1 then
  some ((.inr s1), h2)
  else
  zob (zgR h2 a0 1 1) (fun v5 =>
  zbd (zcv 5 v5 h2 (f_X5_copyFrom v5 a1 h2)) (fun v7 h6 =>
  zob (zgR h6 a0 1 1) (fun v8 =>
  zbd (zcv 5 v8 h6 (f_X5_pushBy v8 a2 (s1 / 5) h6)) (fun v10 h9 =>
  zob (zgR h9 a0 1 1) (fun v11 =>
  zbd (zcv 5 v11 h9 (f_X5_pushBy v11 a3 (zrm s1 5) h9)) (fun v13 h12 =>
  zob (zgR h12 a0 1 1) (fun v14 =>
  zob (zgR h12 a0 1 1) (fun v15 =>
  zbd (zcv 5 v15 h12 (f_X5_windNow v15 h12)) (fun v17 h16 =>
  zbd (zcv 5 v14 h16 (f_X5_passHour v14 v17 h16)) (fun v19 h18 =>
  zob (zgR h18 a0 1 5) (fun v20 =>
  zob (zgR h18 a0 1 1) (fun v21 =>
  zbd (zcv 5 v21 h18 (f_X5_rainOfOwn v21 a2 h18)) (fun v23 h22 =>
  zbd (zcv 5 a1 h22 (f_X5_rainOfOwn a1 a2 h22)) (fun v25 h24 =>
  zob (zsI 0 h24 v20 s1 (v23 - v25)) (fun h26 =>
  zob (zgR h26 a0 1 6) (fun v27 =>
  zob (zgR h26 a0 1 1) (fun v28 =>
  zbd (zcv 5 v28 h26 (f_X5_rainOfOwn v28 a3 h26)) (fun v30 h29 =>
  zbd (zcv 5 a1 h29 (f_X5_rainOfOwn a1 a3 h29)) (fun v32 h31 =>
  zob (zsI 0 h31 v27 s1 (v30 - v32)) (fun h33 =>
  some ((.inl (s1 + 1)), h33)))))))))))))))))))))) 0 h0) (fun e3 h4 =>
  some ((), h4))
set_option maxRecDepth 100000 in
set_option maxHeartbeats 4000000 in
theorem t_X1_tryBoth (a0 : Nat) (a1 : Nat) (a2 : Int32) (a3 : Int32) (h0 : zHp) : ∀ (r : Unit) (h' : zHp), f_X1_tryBoth a0 a1 a2 a3 h0 = some (r, h') → zCt yX1_tryBoth (.code yX1_tryBoth cX1_tryBoth 5 none) 6 183 0 0 [.ref a0, .ref a1, .int a2, .int a3] h0 (none) h' := by
  refine zct_of M_X1_tryBoth yX1_tryBoth (by decide) rfl rfl [.ref a0, .ref a1, .int a2, .int a3] h0 (Nat.le_of_ble_eq_true rfl) (fun _ => none) (fun X => ?_)
  show zG X M_X1_tryBoth (0, 0) 0 [(0, .ref a0), (1, .ref a1), (2, .int a2), (3, .int a3)] [] h0 (f_X1_tryBoth a0 a1 a2 a3 h0) (fun (_ : Unit) h' => zKe X (none) h')
  unfold f_X1_tryBoth
  refine zg_iconst 0 rfl d_X1_tryBoth_0 ?_
  refine zg_istore [(4, .int 0), (0, .ref a0), (1, .ref a1), (2, .int a2), (3, .int a3)] d_X1_tryBoth_1 (by decide) rfl ?_
  refine zg_bd (E := 104) (el := (fun (e3 : Int32) => [(0, .ref a0), (1, .ref a1), (2, .int a2), (3, .int a3), (4, .int e3)])) (es := fun _ => []) (zg_sub [1, 2, 3, 4, 0] rfl (zg_lp (el := (fun (s1 : Int32) => [(0, .ref a0), (1, .ref a1), (2, .int a2), (3, .int a3), (4, .int s1)])) (fun s1 h2 => ?_) 0 h0)) (fun e3 h4 => ?_)
  · refine zg_iload 4 rfl d_X1_tryBoth_3 ?_
    refine zg_bipush 25 rfl d_X1_tryBoth_5 ?_
    refine zg_icmp_ge d_X1_tryBoth_7 ?_ ?_
    · exact zg_finK (E := 0) [0, 1, 2, 3, 4] rfl rfl (fun q => q)
    · refine zg_aload_n 0 rfl d_X1_tryBoth_10 ?_
      refine zg_getR d_X1_tryBoth_11 zc_1 (by decide) fl_X1_36 (fun v5 => ?_)
      refine zg_aload_n 1 rfl d_X1_tryBoth_14 ?_
      refine zg_cVv (b := v5) (As := [.ref a1]) (rest := []) (0, 0) d_X1_tryBoth_15 zc_5 rfl cw_X1_40 wi_X5_copyFrom ws_X5_copyFrom rfl rfl (Nat.le_of_ble_eq_true rfl) (by decide) (by decide) ⟨by decide, by decide⟩ rfl (t_X5_copyFrom v5 a1 h2) (fun v7 h6 => ?_)
      refine zg_aload_n 0 rfl d_X1_tryBoth_18 ?_
      refine zg_getR d_X1_tryBoth_19 zc_1 (by decide) fl_X1_36 (fun v8 => ?_)
      refine zg_iload_n 2 rfl d_X1_tryBoth_22 ?_
      refine zg_iload 4 rfl d_X1_tryBoth_23 ?_
      refine zg_iconst 5 rfl d_X1_tryBoth_25 ?_
      refine zg_idiv (by decide) d_X1_tryBoth_26 ?_
      refine zg_cVv (b := v8) (As := [.int a2, .int (s1 / 5)]) (rest := []) (0, 0) d_X1_tryBoth_27 zc_5 rfl cw_X1_113 wi_X5_pushBy ws_X5_pushBy rfl rfl (Nat.le_of_ble_eq_true rfl) (by decide) (by decide) ⟨by decide, by decide⟩ rfl (t_X5_pushBy v8 a2 (s1 / 5) h6) (fun v10 h9 => ?_)
      refine zg_aload_n 0 rfl d_X1_tryBoth_30 ?_
      refine zg_getR d_X1_tryBoth_31 zc_1 (by decide) fl_X1_36 (fun v11 => ?_)
      refine zg_iload_n 3 rfl d_X1_tryBoth_34 ?_
      refine zg_iload 4 rfl d_X1_tryBoth_35 ?_
      refine zg_iconst 5 rfl d_X1_tryBoth_37 ?_
      refine zg_irem (by decide) d_X1_tryBoth_38 ?_
      refine zg_cVv (b := v11) (As := [.int a3, .int (zrm s1 5)]) (rest := []) (0, 0) d_X1_tryBoth_39 zc_5 rfl cw_X1_113 wi_X5_pushBy ws_X5_pushBy rfl rfl (Nat.le_of_ble_eq_true rfl) (by decide) (by decide) ⟨by decide, by decide⟩ rfl (t_X5_pushBy v11 a3 (zrm s1 5) h9) (fun v13 h12 => ?_)
      refine zg_aload_n 0 rfl d_X1_tryBoth_42 ?_
      refine zg_getR d_X1_tryBoth_43 zc_1 (by decide) fl_X1_36 (fun v14 => ?_)
      refine zg_aload_n 0 rfl d_X1_tryBoth_46 ?_
      refine zg_getR d_X1_tryBoth_47 zc_1 (by decide) fl_X1_36 (fun v15 => ?_)
      refine zg_cVi (b := v15) (As := []) (rest := [.ref v14]) (0, 0) d_X1_tryBoth_50 zc_5 rfl cw_X1_51 wi_X5_windNow ws_X5_windNow rfl rfl (Nat.le_of_ble_eq_true rfl) (by decide) (by decide) ⟨by decide, by decide⟩ rfl (t_X5_windNow v15 h12) (fun v17 h16 => ?_)
      refine zg_cVv (b := v14) (As := [.int v17]) (rest := []) (0, 0) d_X1_tryBoth_53 zc_5 rfl cw_X1_55 wi_X5_passHour ws_X5_passHour rfl rfl (Nat.le_of_ble_eq_true rfl) (by decide) (by decide) ⟨by decide, by decide⟩ rfl (t_X5_passHour v14 v17 h16) (fun v19 h18 => ?_)
      refine zg_aload_n 0 rfl d_X1_tryBoth_56 ?_
      refine zg_getR d_X1_tryBoth_57 zc_1 (by decide) fl_X1_27 (fun v20 => ?_)
      refine zg_iload 4 rfl d_X1_tryBoth_60 ?_
      refine zg_aload_n 0 rfl d_X1_tryBoth_62 ?_
      refine zg_getR d_X1_tryBoth_63 zc_1 (by decide) fl_X1_36 (fun v21 => ?_)
      refine zg_iload_n 2 rfl d_X1_tryBoth_66 ?_
      refine zg_cVi (b := v21) (As := [.int a2]) (rest := [.int s1, .ref v20]) (0, 0) d_X1_tryBoth_67 zc_5 rfl cw_X1_117 wi_X5_rainOfOwn ws_X5_rainOfOwn rfl rfl (Nat.le_of_ble_eq_true rfl) (by decide) (by decide) ⟨by decide, by decide⟩ rfl (t_X5_rainOfOwn v21 a2 h18) (fun v23 h22 => ?_)
      refine zg_aload_n 1 rfl d_X1_tryBoth_70 ?_
      refine zg_iload_n 2 rfl d_X1_tryBoth_71 ?_
      refine zg_cVi (b := a1) (As := [.int a2]) (rest := [.int v23, .int s1, .ref v20]) (0, 0) d_X1_tryBoth_72 zc_5 rfl cw_X1_117 wi_X5_rainOfOwn ws_X5_rainOfOwn rfl rfl (Nat.le_of_ble_eq_true rfl) (by decide) (by decide) ⟨by decide, by decide⟩ rfl (t_X5_rainOfOwn a1 a2 h22) (fun v25 h24 => ?_)
      refine zg_isub d_X1_tryBoth_75 ?_
      refine zg_ast0 d_X1_tryBoth_76 (fun h26 => ?_)
      refine zg_aload_n 0 rfl d_X1_tryBoth_77 ?_
      refine zg_getR d_X1_tryBoth_78 zc_1 (by decide) fl_X1_30 (fun v27 => ?_)
      refine zg_iload 4 rfl d_X1_tryBoth_81 ?_
      refine zg_aload_n 0 rfl d_X1_tryBoth_83 ?_
      refine zg_getR d_X1_tryBoth_84 zc_1 (by decide) fl_X1_36 (fun v28 => ?_)
      refine zg_iload_n 3 rfl d_X1_tryBoth_87 ?_
      refine zg_cVi (b := v28) (As := [.int a3]) (rest := [.int s1, .ref v27]) (0, 0) d_X1_tryBoth_88 zc_5 rfl cw_X1_117 wi_X5_rainOfOwn ws_X5_rainOfOwn rfl rfl (Nat.le_of_ble_eq_true rfl) (by decide) (by decide) ⟨by decide, by decide⟩ rfl (t_X5_rainOfOwn v28 a3 h26) (fun v30 h29 => ?_)
      refine zg_aload_n 1 rfl d_X1_tryBoth_91 ?_
      refine zg_iload_n 3 rfl d_X1_tryBoth_92 ?_
      refine zg_cVi (b := a1) (As := [.int a3]) (rest := [.int v30, .int s1, .ref v27]) (0, 0) d_X1_tryBoth_93 zc_5 rfl cw_X1_117 wi_X5_rainOfOwn ws_X5_rainOfOwn rfl rfl (Nat.le_of_ble_eq_true rfl) (by decide) (by decide) ⟨by decide, by decide⟩ rfl (t_X5_rainOfOwn a1 a3 h29) (fun v32 h31 => ?_)
      refine zg_isub d_X1_tryBoth_96 ?_
      refine zg_ast0 d_X1_tryBoth_97 (fun h33 => ?_)
      refine zg_iinc 4 (s1 + 1) [(4, .int (s1 + 1)), (0, .ref a0), (1, .ref a1), (2, .int a2), (3, .int a3)] d_X1_tryBoth_98 rfl rfl (by decide) rfl ?_
      refine zg_goto d_X1_tryBoth_101 ?_
      exact zg_finK (E := 0) [1, 2, 3, 4, 0] rfl rfl (fun q => q)
  · exact zg_vretK d_X1_tryBoth_104 rfl ⟨Nat.le_of_ble_eq_true rfl, Nat.le_of_ble_eq_true rfl⟩ (fun q => q)
abbrev M_X2_close : zMt := (RX2, cX2_close, 2, 1, 60, none, "close", 0, 0)
theorem d_X2_close_0 : zDc M_X2_close 0 (.aload_n 0) 1 1 := ⟨by decide +kernel, rfl⟩
theorem d_X2_close_1 : zDc M_X2_close 1 (.getfield 18) 3 4 := ⟨by decide +kernel, rfl⟩
theorem d_X2_close_4 : zDc M_X2_close 4 (.iload_n 1) 1 5 := ⟨by decide +kernel, rfl⟩
theorem d_X2_close_5 : zDc M_X2_close 5 (.aload_n 0) 1 6 := ⟨by decide +kernel, rfl⟩
theorem d_X2_close_6 : zDc M_X2_close 6 (.getfield 25) 3 9 := ⟨by decide +kernel, rfl⟩
theorem d_X2_close_9 : zDc M_X2_close 9 (.iastore) 1 10 := ⟨by decide +kernel, rfl⟩
theorem d_X2_close_10 : zDc M_X2_close 10 (.return_) 1 11 := ⟨by decide +kernel, rfl⟩
def f_X2_close (a0 : Nat) (a1 : Int32) (h0 : zHp) : Option (Unit × zHp) :=
  zob (zgR h0 a0 2 2) (fun v1 =>
  zob (zgI h0 a0 2 4) (fun v2 =>
  zob (zsI 0 h0 v1 a1 v2) (fun h3 =>
  some ((), h3))))
set_option maxRecDepth 100000 in
set_option maxHeartbeats 4000000 in
theorem t_X2_close (a0 : Nat) (a1 : Int32) (h0 : zHp) : ∀ (r : Unit) (h' : zHp), f_X2_close a0 a1 h0 = some (r, h') → zCt yX2_close (.code yX2_close cX2_close 2 none) 1 60 0 0 [.ref a0, .int a1] h0 (none) h' := by
  refine zct_of M_X2_close yX2_close (by decide) rfl rfl [.ref a0, .int a1] h0 (Nat.le_of_ble_eq_true rfl) (fun _ => none) (fun X => ?_)
  show zG X M_X2_close (0, 0) 0 [(0, .ref a0), (1, .int a1)] [] h0 (f_X2_close a0 a1 h0) (fun (_ : Unit) h' => zKe X (none) h')
  unfold f_X2_close
  refine zg_aload_n 0 rfl d_X2_close_0 ?_
  refine zg_getR d_X2_close_1 zc_2 (by decide) fl_X2_18 (fun v1 => ?_)
  refine zg_iload_n 1 rfl d_X2_close_4 ?_
  refine zg_aload_n 0 rfl d_X2_close_5 ?_
  refine zg_getI d_X2_close_6 zc_2 (by decide) fl_X2_25 (fun v2 => ?_)
  refine zg_ast0 d_X2_close_9 (fun h3 => ?_)
  exact zg_vretK d_X2_close_10 rfl ⟨Nat.le_of_ble_eq_true rfl, Nat.le_of_ble_eq_true rfl⟩ (fun q => q)
abbrev M_X2_forget : zMt := (RX2, cX2_forget, 2, 1, 60, none, "forget", 0, 0)
theorem d_X2_forget_0 : zDc M_X2_forget 0 (.iconst 0) 1 1 := ⟨by decide +kernel, rfl⟩
theorem d_X2_forget_1 : zDc M_X2_forget 1 (.istore_n 1) 1 2 := ⟨by decide +kernel, rfl⟩
theorem d_X2_forget_2 : zDc M_X2_forget 2 (.iload_n 1) 1 3 := ⟨by decide +kernel, rfl⟩
theorem d_X2_forget_3 : zDc M_X2_forget 3 (.iconst 3) 1 4 := ⟨by decide +kernel, rfl⟩
theorem d_X2_forget_4 : zDj M_X2_forget 4 (.if_icmp .ge 23) 23 7 27 := ⟨by decide +kernel, rfl, by decide⟩
theorem d_X2_forget_7 : zDc M_X2_forget 7 (.aload_n 0) 1 8 := ⟨by decide +kernel, rfl⟩
theorem d_X2_forget_8 : zDc M_X2_forget 8 (.getfield 15) 3 11 := ⟨by decide +kernel, rfl⟩
theorem d_X2_forget_11 : zDc M_X2_forget 11 (.iload_n 1) 1 12 := ⟨by decide +kernel, rfl⟩
theorem d_X2_forget_12 : zDc M_X2_forget 12 (.iconst 0) 1 13 := ⟨by decide +kernel, rfl⟩
theorem d_X2_forget_13 : zDc M_X2_forget 13 (.iastore) 1 14 := ⟨by decide +kernel, rfl⟩
theorem d_X2_forget_14 : zDc M_X2_forget 14 (.aload_n 0) 1 15 := ⟨by decide +kernel, rfl⟩
theorem d_X2_forget_15 : zDc M_X2_forget 15 (.getfield 18) 3 18 := ⟨by decide +kernel, rfl⟩
theorem d_X2_forget_18 : zDc M_X2_forget 18 (.iload_n 1) 1 19 := ⟨by decide +kernel, rfl⟩
theorem d_X2_forget_19 : zDc M_X2_forget 19 (.iconst 0) 1 20 := ⟨by decide +kernel, rfl⟩
theorem d_X2_forget_20 : zDc M_X2_forget 20 (.iastore) 1 21 := ⟨by decide +kernel, rfl⟩
theorem d_X2_forget_21 : zDc M_X2_forget 21 (.iinc 1 1) 3 24 := ⟨by decide +kernel, rfl⟩
theorem d_X2_forget_24 : zDj M_X2_forget 24 (.goto (-22)) (-22) 27 2 := ⟨by decide +kernel, rfl, by decide⟩
theorem d_X2_forget_27 : zDc M_X2_forget 27 (.aload_n 0) 1 28 := ⟨by decide +kernel, rfl⟩
theorem d_X2_forget_28 : zDc M_X2_forget 28 (.iconst 0) 1 29 := ⟨by decide +kernel, rfl⟩
theorem d_X2_forget_29 : zDc M_X2_forget 29 (.putfield 25) 3 32 := ⟨by decide +kernel, rfl⟩
theorem d_X2_forget_32 : zDc M_X2_forget 32 (.aload_n 0) 1 33 := ⟨by decide +kernel, rfl⟩
theorem d_X2_forget_33 : zDc M_X2_forget 33 (.iconst 0) 1 34 := ⟨by decide +kernel, rfl⟩
theorem d_X2_forget_34 : zDc M_X2_forget 34 (.putfield 29) 3 37 := ⟨by decide +kernel, rfl⟩
theorem d_X2_forget_37 : zDc M_X2_forget 37 (.return_) 1 38 := ⟨by decide +kernel, rfl⟩
def f_X2_forget (a0 : Nat) (h0 : zHp) : Option (Unit × zHp) :=
  zbd (
  zlp (σ := Int32) (β := Int32) zLF (fun s1 h2 =>
  if 3 ≤ s1 then
  some ((.inr s1), h2)
  else
  zob (zgR h2 a0 2 1) (fun v5 =>
  zob (zsI 0 h2 v5 s1 0) (fun h6 =>
  zob (zgR h6 a0 2 2) (fun v7 =>
  zob (zsI 0 h6 v7 s1 0) (fun h8 =>
  some ((.inl (s1 + 1)), h8)))))) 0 h0) (fun e3 h4 =>
  zob (zpV h4 a0 2 4 (.int 0)) (fun h9 =>
  zob (zpV h9 a0 2 5 (.int 0)) (fun h10 =>
  some ((), h10))))
set_option maxRecDepth 100000 in
set_option maxHeartbeats 4000000 in
theorem t_X2_forget (a0 : Nat) (h0 : zHp) : ∀ (r : Unit) (h' : zHp), f_X2_forget a0 h0 = some (r, h') → zCt yX2_forget (.code yX2_forget cX2_forget 2 none) 1 60 0 0 [.ref a0] h0 (none) h' := by
  refine zct_of M_X2_forget yX2_forget (by decide) rfl rfl [.ref a0] h0 (Nat.le_of_ble_eq_true rfl) (fun _ => none) (fun X => ?_)
  show zG X M_X2_forget (0, 0) 0 [(0, .ref a0)] [] h0 (f_X2_forget a0 h0) (fun (_ : Unit) h' => zKe X (none) h')
  unfold f_X2_forget
  refine zg_iconst 0 rfl d_X2_forget_0 ?_
  refine zg_istore_n [(1, .int 0), (0, .ref a0)] d_X2_forget_1 rfl (by decide) rfl ?_
  refine zg_bd (E := 27) (el := (fun (e3 : Int32) => [(0, .ref a0), (1, .int e3)])) (es := fun _ => []) (zg_sub [1, 0] rfl (zg_lp (el := (fun (s1 : Int32) => [(0, .ref a0), (1, .int s1)])) (fun s1 h2 => ?_) 0 h0)) (fun e3 h4 => ?_)
  · refine zg_iload_n 1 rfl d_X2_forget_2 ?_
    refine zg_iconst 3 rfl d_X2_forget_3 ?_
    refine zg_icmp_ge d_X2_forget_4 ?_ ?_
    · exact zg_finK (E := 0) [0, 1] rfl rfl (fun q => q)
    · refine zg_aload_n 0 rfl d_X2_forget_7 ?_
      refine zg_getR d_X2_forget_8 zc_2 (by decide) fl_X2_15 (fun v5 => ?_)
      refine zg_iload_n 1 rfl d_X2_forget_11 ?_
      refine zg_iconst 0 rfl d_X2_forget_12 ?_
      refine zg_ast0 d_X2_forget_13 (fun h6 => ?_)
      refine zg_aload_n 0 rfl d_X2_forget_14 ?_
      refine zg_getR d_X2_forget_15 zc_2 (by decide) fl_X2_18 (fun v7 => ?_)
      refine zg_iload_n 1 rfl d_X2_forget_18 ?_
      refine zg_iconst 0 rfl d_X2_forget_19 ?_
      refine zg_ast0 d_X2_forget_20 (fun h8 => ?_)
      refine zg_iinc 1 (s1 + 1) [(1, .int (s1 + 1)), (0, .ref a0)] d_X2_forget_21 rfl rfl (by decide) rfl ?_
      refine zg_goto d_X2_forget_24 ?_
      exact zg_finK (E := 0) [1, 0] rfl rfl (fun q => q)
  · refine zg_aload_n 0 rfl d_X2_forget_27 ?_
    refine zg_iconst 0 rfl d_X2_forget_28 ?_
    refine zg_putV d_X2_forget_29 zc_2 (by decide) fl_X2_25 rfl rfl rfl (fun h9 => ?_)
    refine zg_aload_n 0 rfl d_X2_forget_32 ?_
    refine zg_iconst 0 rfl d_X2_forget_33 ?_
    refine zg_putV d_X2_forget_34 zc_2 (by decide) fl_X2_29 rfl rfl rfl (fun h10 => ?_)
    exact zg_vretK d_X2_forget_37 rfl ⟨Nat.le_of_ble_eq_true rfl, Nat.le_of_ble_eq_true rfl⟩ (fun q => q)
abbrev M_X2_open : zMt := (RX2, cX2_open, 2, 1, 60, none, "open", 0, 0)
theorem d_X2_open_0 : zDc M_X2_open 0 (.aload_n 0) 1 1 := ⟨by decide +kernel, rfl⟩
theorem d_X2_open_1 : zDc M_X2_open 1 (.getfield 15) 3 4 := ⟨by decide +kernel, rfl⟩
theorem d_X2_open_4 : zDc M_X2_open 4 (.iload_n 1) 1 5 := ⟨by decide +kernel, rfl⟩
theorem d_X2_open_5 : zDc M_X2_open 5 (.aload_n 0) 1 6 := ⟨by decide +kernel, rfl⟩
theorem d_X2_open_6 : zDc M_X2_open 6 (.getfield 25) 3 9 := ⟨by decide +kernel, rfl⟩
theorem d_X2_open_9 : zDc M_X2_open 9 (.iastore) 1 10 := ⟨by decide +kernel, rfl⟩
theorem d_X2_open_10 : zDc M_X2_open 10 (.return_) 1 11 := ⟨by decide +kernel, rfl⟩
def f_X2_open (a0 : Nat) (a1 : Int32) (h0 : zHp) : Option (Unit × zHp) :=
  zob (zgR h0 a0 2 1) (fun v1 =>
  zob (zgI h0 a0 2 4) (fun v2 =>
  zob (zsI 0 h0 v1 a1 v2) (fun h3 =>
  some ((), h3))))
set_option maxRecDepth 100000 in
set_option maxHeartbeats 4000000 in
theorem t_X2_open (a0 : Nat) (a1 : Int32) (h0 : zHp) : ∀ (r : Unit) (h' : zHp), f_X2_open a0 a1 h0 = some (r, h') → zCt yX2_open (.code yX2_open cX2_open 2 none) 1 60 0 0 [.ref a0, .int a1] h0 (none) h' := by
  refine zct_of M_X2_open yX2_open (by decide) rfl rfl [.ref a0, .int a1] h0 (Nat.le_of_ble_eq_true rfl) (fun _ => none) (fun X => ?_)
  show zG X M_X2_open (0, 0) 0 [(0, .ref a0), (1, .int a1)] [] h0 (f_X2_open a0 a1 h0) (fun (_ : Unit) h' => zKe X (none) h')
  unfold f_X2_open
  refine zg_aload_n 0 rfl d_X2_open_0 ?_
  refine zg_getR d_X2_open_1 zc_2 (by decide) fl_X2_15 (fun v1 => ?_)
  refine zg_iload_n 1 rfl d_X2_open_4 ?_
  refine zg_aload_n 0 rfl d_X2_open_5 ?_
  refine zg_getI d_X2_open_6 zc_2 (by decide) fl_X2_25 (fun v2 => ?_)
  refine zg_ast0 d_X2_open_9 (fun h3 => ?_)
  exact zg_vretK d_X2_open_10 rfl ⟨Nat.le_of_ble_eq_true rfl, Nat.le_of_ble_eq_true rfl⟩ (fun q => q)
abbrev M_X2_place : zMt := (RX2, cX2_place, 2, 1, 60, none, "place", 0, 0)
theorem d_X2_place_0 : zDc M_X2_place 0 (.aload_n 0) 1 1 := ⟨by decide +kernel, rfl⟩
theorem d_X2_place_1 : zDc M_X2_place 1 (.getfield 25) 3 4 := ⟨by decide +kernel, rfl⟩
theorem d_X2_place_4 : zDc M_X2_place 4 (.bipush 64) 2 6 := ⟨by decide +kernel, rfl⟩
theorem d_X2_place_6 : zDj M_X2_place 6 (.if_icmp .ge 23) 23 9 29 := ⟨by decide +kernel, rfl, by decide⟩
theorem d_X2_place_9 : zDc M_X2_place 9 (.aload_n 0) 1 10 := ⟨by decide +kernel, rfl⟩
theorem d_X2_place_10 : zDc M_X2_place 10 (.getfield 9) 3 13 := ⟨by decide +kernel, rfl⟩
theorem d_X2_place_13 : zDc M_X2_place 13 (.aload_n 0) 1 14 := ⟨by decide +kernel, rfl⟩
theorem d_X2_place_14 : zDc M_X2_place 14 (.getfield 25) 3 17 := ⟨by decide +kernel, rfl⟩
theorem d_X2_place_17 : zDc M_X2_place 17 (.iload_n 1) 1 18 := ⟨by decide +kernel, rfl⟩
theorem d_X2_place_18 : zDc M_X2_place 18 (.iastore) 1 19 := ⟨by decide +kernel, rfl⟩
theorem d_X2_place_19 : zDc M_X2_place 19 (.aload_n 0) 1 20 := ⟨by decide +kernel, rfl⟩
theorem d_X2_place_20 : zDc M_X2_place 20 (.dup) 1 21 := ⟨by decide +kernel, rfl⟩
theorem d_X2_place_21 : zDc M_X2_place 21 (.getfield 25) 3 24 := ⟨by decide +kernel, rfl⟩
theorem d_X2_place_24 : zDc M_X2_place 24 (.iconst 1) 1 25 := ⟨by decide +kernel, rfl⟩
theorem d_X2_place_25 : zDc M_X2_place 25 (.iadd) 1 26 := ⟨by decide +kernel, rfl⟩
theorem d_X2_place_26 : zDc M_X2_place 26 (.putfield 25) 3 29 := ⟨by decide +kernel, rfl⟩
theorem d_X2_place_29 : zDc M_X2_place 29 (.return_) 1 30 := ⟨by decide +kernel, rfl⟩
def f_X2_place (a0 : Nat) (a1 : Int32) (h0 : zHp) : Option (Unit × zHp) :=
  zob (zgI h0 a0 2 4) (fun v1 =>
  if 64 ≤ v1 then
  some ((), h0)
  else
  zob (zgR h0 a0 2 0) (fun v2 =>
  zob (zgI h0 a0 2 4) (fun v3 =>
  zob (zsI 0 h0 v2 v3 a1) (fun h4 =>
  zob (zgI h4 a0 2 4) (fun v5 =>
  zob (zpV h4 a0 2 4 (.int (v5 + 1))) (fun h6 =>
  some ((), h6)))))))
set_option maxRecDepth 100000 in
set_option maxHeartbeats 4000000 in
theorem t_X2_place (a0 : Nat) (a1 : Int32) (h0 : zHp) : ∀ (r : Unit) (h' : zHp), f_X2_place a0 a1 h0 = some (r, h') → zCt yX2_place (.code yX2_place cX2_place 2 none) 1 60 0 0 [.ref a0, .int a1] h0 (none) h' := by
  refine zct_of M_X2_place yX2_place (by decide) rfl rfl [.ref a0, .int a1] h0 (Nat.le_of_ble_eq_true rfl) (fun _ => none) (fun X => ?_)
  show zG X M_X2_place (0, 0) 0 [(0, .ref a0), (1, .int a1)] [] h0 (f_X2_place a0 a1 h0) (fun (_ : Unit) h' => zKe X (none) h')
  unfold f_X2_place
  refine zg_aload_n 0 rfl d_X2_place_0 ?_
  refine zg_getI d_X2_place_1 zc_2 (by decide) fl_X2_25 (fun v1 => ?_)
  refine zg_bipush 64 rfl d_X2_place_4 ?_
  refine zg_icmp_ge d_X2_place_6 ?_ ?_
  · exact zg_vretK d_X2_place_29 rfl ⟨Nat.le_of_ble_eq_true rfl, Nat.le_of_ble_eq_true rfl⟩ (fun q => q)
  · refine zg_aload_n 0 rfl d_X2_place_9 ?_
    refine zg_getR d_X2_place_10 zc_2 (by decide) fl_X2_9 (fun v2 => ?_)
    refine zg_aload_n 0 rfl d_X2_place_13 ?_
    refine zg_getI d_X2_place_14 zc_2 (by decide) fl_X2_25 (fun v3 => ?_)
    refine zg_iload_n 1 rfl d_X2_place_17 ?_
    refine zg_ast0 d_X2_place_18 (fun h4 => ?_)
    refine zg_aload_n 0 rfl d_X2_place_19 ?_
    refine zg_dup rfl d_X2_place_20 ?_
    refine zg_getI d_X2_place_21 zc_2 (by decide) fl_X2_25 (fun v5 => ?_)
    refine zg_iconst 1 rfl d_X2_place_24 ?_
    refine zg_iadd d_X2_place_25 ?_
    refine zg_putV d_X2_place_26 zc_2 (by decide) fl_X2_25 rfl rfl rfl (fun h6 => ?_)
    exact zg_vretK d_X2_place_29 rfl ⟨Nat.le_of_ble_eq_true rfl, Nat.le_of_ble_eq_true rfl⟩ (fun q => q)
abbrev M_X3_add : zMt := (RX3, cX3_add, 5, 1, 60, (some .int), "add", 0, 0)
theorem d_X3_add_0 : zDc M_X3_add 0 (.aload_n 0) 1 1 := ⟨by decide +kernel, rfl⟩
theorem d_X3_add_1 : zDc M_X3_add 1 (.getfield 31) 3 4 := ⟨by decide +kernel, rfl⟩
theorem d_X3_add_4 : zDc M_X3_add 4 (.bipush 24) 2 6 := ⟨by decide +kernel, rfl⟩
theorem d_X3_add_6 : zDj M_X3_add 6 (.if_icmp .lt 5) 5 9 11 := ⟨by decide +kernel, rfl, by decide⟩
theorem d_X3_add_9 : zDc M_X3_add 9 (.iconst (-1)) 1 10 := ⟨by decide +kernel, rfl⟩
theorem d_X3_add_10 : zDc M_X3_add 10 (.ireturn) 1 11 := ⟨by decide +kernel, rfl⟩
theorem d_X3_add_11 : zDc M_X3_add 11 (.aload_n 0) 1 12 := ⟨by decide +kernel, rfl⟩
theorem d_X3_add_12 : zDc M_X3_add 12 (.getfield 9) 3 15 := ⟨by decide +kernel, rfl⟩
theorem d_X3_add_15 : zDc M_X3_add 15 (.aload_n 0) 1 16 := ⟨by decide +kernel, rfl⟩
theorem d_X3_add_16 : zDc M_X3_add 16 (.getfield 31) 3 19 := ⟨by decide +kernel, rfl⟩
theorem d_X3_add_19 : zDc M_X3_add 19 (.iload_n 1) 1 20 := ⟨by decide +kernel, rfl⟩
theorem d_X3_add_20 : zDc M_X3_add 20 (.iastore) 1 21 := ⟨by decide +kernel, rfl⟩
theorem d_X3_add_21 : zDc M_X3_add 21 (.aload_n 0) 1 22 := ⟨by decide +kernel, rfl⟩
theorem d_X3_add_22 : zDc M_X3_add 22 (.getfield 15) 3 25 := ⟨by decide +kernel, rfl⟩
theorem d_X3_add_25 : zDc M_X3_add 25 (.aload_n 0) 1 26 := ⟨by decide +kernel, rfl⟩
theorem d_X3_add_26 : zDc M_X3_add 26 (.getfield 31) 3 29 := ⟨by decide +kernel, rfl⟩
theorem d_X3_add_29 : zDc M_X3_add 29 (.iload_n 2) 1 30 := ⟨by decide +kernel, rfl⟩
theorem d_X3_add_30 : zDc M_X3_add 30 (.iastore) 1 31 := ⟨by decide +kernel, rfl⟩
theorem d_X3_add_31 : zDc M_X3_add 31 (.aload_n 0) 1 32 := ⟨by decide +kernel, rfl⟩
theorem d_X3_add_32 : zDc M_X3_add 32 (.getfield 18) 3 35 := ⟨by decide +kernel, rfl⟩
theorem d_X3_add_35 : zDc M_X3_add 35 (.aload_n 0) 1 36 := ⟨by decide +kernel, rfl⟩
theorem d_X3_add_36 : zDc M_X3_add 36 (.getfield 31) 3 39 := ⟨by decide +kernel, rfl⟩
theorem d_X3_add_39 : zDc M_X3_add 39 (.iload_n 3) 1 40 := ⟨by decide +kernel, rfl⟩
theorem d_X3_add_40 : zDc M_X3_add 40 (.iastore) 1 41 := ⟨by decide +kernel, rfl⟩
theorem d_X3_add_41 : zDc M_X3_add 41 (.aload_n 0) 1 42 := ⟨by decide +kernel, rfl⟩
theorem d_X3_add_42 : zDc M_X3_add 42 (.getfield 21) 3 45 := ⟨by decide +kernel, rfl⟩
theorem d_X3_add_45 : zDc M_X3_add 45 (.aload_n 0) 1 46 := ⟨by decide +kernel, rfl⟩
theorem d_X3_add_46 : zDc M_X3_add 46 (.getfield 31) 3 49 := ⟨by decide +kernel, rfl⟩
theorem d_X3_add_49 : zDc M_X3_add 49 (.iload 4) 2 51 := ⟨by decide +kernel, rfl⟩
theorem d_X3_add_51 : zDc M_X3_add 51 (.bastore) 1 52 := ⟨by decide +kernel, rfl⟩
theorem d_X3_add_52 : zDc M_X3_add 52 (.aload_n 0) 1 53 := ⟨by decide +kernel, rfl⟩
theorem d_X3_add_53 : zDc M_X3_add 53 (.getfield 25) 3 56 := ⟨by decide +kernel, rfl⟩
theorem d_X3_add_56 : zDc M_X3_add 56 (.aload_n 0) 1 57 := ⟨by decide +kernel, rfl⟩
theorem d_X3_add_57 : zDc M_X3_add 57 (.getfield 31) 3 60 := ⟨by decide +kernel, rfl⟩
theorem d_X3_add_60 : zDc M_X3_add 60 (.iconst (-1)) 1 61 := ⟨by decide +kernel, rfl⟩
theorem d_X3_add_61 : zDc M_X3_add 61 (.iastore) 1 62 := ⟨by decide +kernel, rfl⟩
theorem d_X3_add_62 : zDc M_X3_add 62 (.aload_n 0) 1 63 := ⟨by decide +kernel, rfl⟩
theorem d_X3_add_63 : zDc M_X3_add 63 (.dup) 1 64 := ⟨by decide +kernel, rfl⟩
theorem d_X3_add_64 : zDc M_X3_add 64 (.getfield 31) 3 67 := ⟨by decide +kernel, rfl⟩
theorem d_X3_add_67 : zDc M_X3_add 67 (.iconst 1) 1 68 := ⟨by decide +kernel, rfl⟩
theorem d_X3_add_68 : zDc M_X3_add 68 (.iadd) 1 69 := ⟨by decide +kernel, rfl⟩
theorem d_X3_add_69 : zDc M_X3_add 69 (.putfield 31) 3 72 := ⟨by decide +kernel, rfl⟩
theorem d_X3_add_72 : zDc M_X3_add 72 (.aload_n 0) 1 73 := ⟨by decide +kernel, rfl⟩
theorem d_X3_add_73 : zDc M_X3_add 73 (.getfield 31) 3 76 := ⟨by decide +kernel, rfl⟩
theorem d_X3_add_76 : zDc M_X3_add 76 (.iconst 1) 1 77 := ⟨by decide +kernel, rfl⟩
theorem d_X3_add_77 : zDc M_X3_add 77 (.isub) 1 78 := ⟨by decide +kernel, rfl⟩
theorem d_X3_add_78 : zDc M_X3_add 78 (.ireturn) 1 79 := ⟨by decide +kernel, rfl⟩
def f_X3_add (a0 : Nat) (a1 : Int32) (a2 : Int32) (a3 : Int32) (a4 : Int32) (h0 : zHp) : Option (Int32 × zHp) :=
  zob (zgI h0 a0 3 6) (fun v1 =>
  if v1 < 24 then
  zob (zgR h0 a0 3 0) (fun v2 =>
  zob (zgI h0 a0 3 6) (fun v3 =>
  zob (zsI 0 h0 v2 v3 a1) (fun h4 =>
  zob (zgR h4 a0 3 1) (fun v5 =>
  zob (zgI h4 a0 3 6) (fun v6 =>
  zob (zsI 0 h4 v5 v6 a2) (fun h7 =>
  zob (zgR h7 a0 3 2) (fun v8 =>
  zob (zgI h7 a0 3 6) (fun v9 =>
  zob (zsI 0 h7 v8 v9 a3) (fun h10 =>
  zob (zgR h10 a0 3 3) (fun v11 =>
  zob (zgI h10 a0 3 6) (fun v12 =>
  zob (zsI 2 h10 v11 v12 a4) (fun h13 =>
  zob (zgR h13 a0 3 4) (fun v14 =>
  zob (zgI h13 a0 3 6) (fun v15 =>
  zob (zsI 0 h13 v14 v15 (-1)) (fun h16 =>
  zob (zgI h16 a0 3 6) (fun v17 =>
  zob (zpV h16 a0 3 6 (.int (v17 + 1))) (fun h18 =>
  zob (zgI h18 a0 3 6) (fun v19 =>
  some ((v19 - 1), h18)))))))))))))))))))
  else
  some ((-1), h0))
set_option maxRecDepth 100000 in
set_option maxHeartbeats 4000000 in
theorem t_X3_add (a0 : Nat) (a1 : Int32) (a2 : Int32) (a3 : Int32) (a4 : Int32) (h0 : zHp) : ∀ (r : Int32) (h' : zHp), f_X3_add a0 a1 a2 a3 a4 h0 = some (r, h') → zCt yX3_add (.code yX3_add cX3_add 5 (some .int)) 1 60 0 0 [.ref a0, .int a1, .int a2, .int a3, .int a4] h0 (some (.int r)) h' := by
  refine zct_of M_X3_add yX3_add (by decide) rfl rfl [.ref a0, .int a1, .int a2, .int a3, .int a4] h0 (Nat.le_of_ble_eq_true rfl) (fun r => some (.int r)) (fun X => ?_)
  show zG X M_X3_add (0, 0) 0 [(0, .ref a0), (1, .int a1), (2, .int a2), (3, .int a3), (4, .int a4)] [] h0 (f_X3_add a0 a1 a2 a3 a4 h0) (fun (r : Int32) h' => zKe X (some (.int r)) h')
  unfold f_X3_add
  refine zg_aload_n 0 rfl d_X3_add_0 ?_
  refine zg_getI d_X3_add_1 zc_3 (by decide) fl_X3_31 (fun v1 => ?_)
  refine zg_bipush 24 rfl d_X3_add_4 ?_
  refine zg_icmp_lt d_X3_add_6 ?_ ?_
  · refine zg_aload_n 0 rfl d_X3_add_11 ?_
    refine zg_getR d_X3_add_12 zc_3 (by decide) fl_X3_9 (fun v2 => ?_)
    refine zg_aload_n 0 rfl d_X3_add_15 ?_
    refine zg_getI d_X3_add_16 zc_3 (by decide) fl_X3_31 (fun v3 => ?_)
    refine zg_iload_n 1 rfl d_X3_add_19 ?_
    refine zg_ast0 d_X3_add_20 (fun h4 => ?_)
    refine zg_aload_n 0 rfl d_X3_add_21 ?_
    refine zg_getR d_X3_add_22 zc_3 (by decide) fl_X3_15 (fun v5 => ?_)
    refine zg_aload_n 0 rfl d_X3_add_25 ?_
    refine zg_getI d_X3_add_26 zc_3 (by decide) fl_X3_31 (fun v6 => ?_)
    refine zg_iload_n 2 rfl d_X3_add_29 ?_
    refine zg_ast0 d_X3_add_30 (fun h7 => ?_)
    refine zg_aload_n 0 rfl d_X3_add_31 ?_
    refine zg_getR d_X3_add_32 zc_3 (by decide) fl_X3_18 (fun v8 => ?_)
    refine zg_aload_n 0 rfl d_X3_add_35 ?_
    refine zg_getI d_X3_add_36 zc_3 (by decide) fl_X3_31 (fun v9 => ?_)
    refine zg_iload_n 3 rfl d_X3_add_39 ?_
    refine zg_ast0 d_X3_add_40 (fun h10 => ?_)
    refine zg_aload_n 0 rfl d_X3_add_41 ?_
    refine zg_getR d_X3_add_42 zc_3 (by decide) fl_X3_21 (fun v11 => ?_)
    refine zg_aload_n 0 rfl d_X3_add_45 ?_
    refine zg_getI d_X3_add_46 zc_3 (by decide) fl_X3_31 (fun v12 => ?_)
    refine zg_iload 4 rfl d_X3_add_49 ?_
    refine zg_ast2 d_X3_add_51 (fun h13 => ?_)
    refine zg_aload_n 0 rfl d_X3_add_52 ?_
    refine zg_getR d_X3_add_53 zc_3 (by decide) fl_X3_25 (fun v14 => ?_)
    refine zg_aload_n 0 rfl d_X3_add_56 ?_
    refine zg_getI d_X3_add_57 zc_3 (by decide) fl_X3_31 (fun v15 => ?_)
    refine zg_iconst (-1) rfl d_X3_add_60 ?_
    refine zg_ast0 d_X3_add_61 (fun h16 => ?_)
    refine zg_aload_n 0 rfl d_X3_add_62 ?_
    refine zg_dup rfl d_X3_add_63 ?_
    refine zg_getI d_X3_add_64 zc_3 (by decide) fl_X3_31 (fun v17 => ?_)
    refine zg_iconst 1 rfl d_X3_add_67 ?_
    refine zg_iadd d_X3_add_68 ?_
    refine zg_putV d_X3_add_69 zc_3 (by decide) fl_X3_31 rfl rfl rfl (fun h18 => ?_)
    refine zg_aload_n 0 rfl d_X3_add_72 ?_
    refine zg_getI d_X3_add_73 zc_3 (by decide) fl_X3_31 (fun v19 => ?_)
    refine zg_iconst 1 rfl d_X3_add_76 ?_
    refine zg_isub d_X3_add_77 ?_
    exact zg_iretK d_X3_add_78 rfl ⟨Nat.le_of_ble_eq_true rfl, Nat.le_of_ble_eq_true rfl⟩ (fun q => q)
  · refine zg_iconst (-1) rfl d_X3_add_9 ?_
    exact zg_iretK d_X3_add_10 rfl ⟨Nat.le_of_ble_eq_true rfl, Nat.le_of_ble_eq_true rfl⟩ (fun q => q)
abbrev M_X3_addStrike : zMt := (RX3, cX3_addStrike, 3, 2, 84, (some .int), "addStrike", 0, 0)
theorem d_X3_addStrike_0 : zDc M_X3_addStrike 0 (.aload_n 0) 1 1 := ⟨by decide +kernel, rfl⟩
theorem d_X3_addStrike_1 : zDc M_X3_addStrike 1 (.iconst 0) 1 2 := ⟨by decide +kernel, rfl⟩
theorem d_X3_addStrike_2 : zDc M_X3_addStrike 2 (.iconst 0) 1 3 := ⟨by decide +kernel, rfl⟩
theorem d_X3_addStrike_3 : zDc M_X3_addStrike 3 (.iconst 0) 1 4 := ⟨by decide +kernel, rfl⟩
theorem d_X3_addStrike_4 : zDc M_X3_addStrike 4 (.iconst 0) 1 5 := ⟨by decide +kernel, rfl⟩
theorem d_X3_addStrike_5 : zDc M_X3_addStrike 5 (.invokevirtual 38) 3 8 := ⟨by decide +kernel, rfl⟩
theorem d_X3_addStrike_8 : zDc M_X3_addStrike 8 (.istore_n 2) 1 9 := ⟨by decide +kernel, rfl⟩
theorem d_X3_addStrike_9 : zDc M_X3_addStrike 9 (.iload_n 2) 1 10 := ⟨by decide +kernel, rfl⟩
theorem d_X3_addStrike_10 : zDc M_X3_addStrike 10 (.iconst (-1)) 1 11 := ⟨by decide +kernel, rfl⟩
theorem d_X3_addStrike_11 : zDj M_X3_addStrike 11 (.if_icmp .eq 10) 10 14 21 := ⟨by decide +kernel, rfl, by decide⟩
theorem d_X3_addStrike_14 : zDc M_X3_addStrike 14 (.aload_n 0) 1 15 := ⟨by decide +kernel, rfl⟩
theorem d_X3_addStrike_15 : zDc M_X3_addStrike 15 (.getfield 25) 3 18 := ⟨by decide +kernel, rfl⟩
theorem d_X3_addStrike_18 : zDc M_X3_addStrike 18 (.iload_n 2) 1 19 := ⟨by decide +kernel, rfl⟩
theorem d_X3_addStrike_19 : zDc M_X3_addStrike 19 (.iload_n 1) 1 20 := ⟨by decide +kernel, rfl⟩
theorem d_X3_addStrike_20 : zDc M_X3_addStrike 20 (.iastore) 1 21 := ⟨by decide +kernel, rfl⟩
theorem d_X3_addStrike_21 : zDc M_X3_addStrike 21 (.iload_n 2) 1 22 := ⟨by decide +kernel, rfl⟩
theorem d_X3_addStrike_22 : zDc M_X3_addStrike 22 (.ireturn) 1 23 := ⟨by decide +kernel, rfl⟩
def f_X3_addStrike (a0 : Nat) (a1 : Int32) (h0 : zHp) : Option (Int32 × zHp) :=
  zbd (zcv 3 a0 h0 (f_X3_add a0 0 0 0 0 h0)) (fun v2 h1 =>
  if v2 = (-1) then
  some (v2, h1)
  else
  zob (zgR h1 a0 3 4) (fun v3 =>
  zob (zsI 0 h1 v3 v2 a1) (fun h4 =>
  some (v2, h4))))
set_option maxRecDepth 100000 in
set_option maxHeartbeats 4000000 in
theorem t_X3_addStrike (a0 : Nat) (a1 : Int32) (h0 : zHp) : ∀ (r : Int32) (h' : zHp), f_X3_addStrike a0 a1 h0 = some (r, h') → zCt yX3_addStrike (.code yX3_addStrike cX3_addStrike 3 (some .int)) 2 84 0 0 [.ref a0, .int a1] h0 (some (.int r)) h' := by
  refine zct_of M_X3_addStrike yX3_addStrike (by decide) rfl rfl [.ref a0, .int a1] h0 (Nat.le_of_ble_eq_true rfl) (fun r => some (.int r)) (fun X => ?_)
  show zG X M_X3_addStrike (0, 0) 0 [(0, .ref a0), (1, .int a1)] [] h0 (f_X3_addStrike a0 a1 h0) (fun (r : Int32) h' => zKe X (some (.int r)) h')
  unfold f_X3_addStrike
  refine zg_aload_n 0 rfl d_X3_addStrike_0 ?_
  refine zg_iconst 0 rfl d_X3_addStrike_1 ?_
  refine zg_iconst 0 rfl d_X3_addStrike_2 ?_
  refine zg_iconst 0 rfl d_X3_addStrike_3 ?_
  refine zg_iconst 0 rfl d_X3_addStrike_4 ?_
  refine zg_cVi (b := a0) (As := [.int 0, .int 0, .int 0, .int 0]) (rest := []) (0, 0) d_X3_addStrike_5 zc_3 rfl cw_X3_38 wi_X3_add ws_X3_add rfl rfl (Nat.le_of_ble_eq_true rfl) (by decide) (by decide) ⟨by decide, by decide⟩ rfl (t_X3_add a0 0 0 0 0 h0) (fun v2 h1 => ?_)
  refine zg_istore_n [(2, .int v2), (0, .ref a0), (1, .int a1)] d_X3_addStrike_8 rfl (by decide) rfl ?_
  refine zg_iload_n 0 rfl d_X3_addStrike_9 ?_
  refine zg_iconst (-1) rfl d_X3_addStrike_10 ?_
  refine zg_icmp_eq d_X3_addStrike_11 ?_ ?_
  · refine zg_iload_n 0 rfl d_X3_addStrike_21 ?_
    exact zg_iretK d_X3_addStrike_22 rfl ⟨Nat.le_of_ble_eq_true rfl, Nat.le_of_ble_eq_true rfl⟩ (fun q => q)
  · refine zg_aload_n 1 rfl d_X3_addStrike_14 ?_
    refine zg_getR d_X3_addStrike_15 zc_3 (by decide) fl_X3_25 (fun v3 => ?_)
    refine zg_iload_n 0 rfl d_X3_addStrike_18 ?_
    refine zg_iload_n 2 rfl d_X3_addStrike_19 ?_
    refine zg_ast0 d_X3_addStrike_20 (fun h4 => ?_)
    refine zg_iload_n 0 rfl d_X3_addStrike_21 ?_
    exact zg_iretK d_X3_addStrike_22 rfl ⟨Nat.le_of_ble_eq_true rfl, Nat.le_of_ble_eq_true rfl⟩ (fun q => q)
abbrev M_X3_forget : zMt := (RX3, cX3_forget, 1, 1, 60, none, "forget", 0, 0)
theorem d_X3_forget_0 : zDc M_X3_forget 0 (.aload_n 0) 1 1 := ⟨by decide +kernel, rfl⟩
theorem d_X3_forget_1 : zDc M_X3_forget 1 (.iconst 0) 1 2 := ⟨by decide +kernel, rfl⟩
theorem d_X3_forget_2 : zDc M_X3_forget 2 (.putfield 31) 3 5 := ⟨by decide +kernel, rfl⟩
theorem d_X3_forget_5 : zDc M_X3_forget 5 (.aload_n 0) 1 6 := ⟨by decide +kernel, rfl⟩
theorem d_X3_forget_6 : zDc M_X3_forget 6 (.iconst (-1)) 1 7 := ⟨by decide +kernel, rfl⟩
theorem d_X3_forget_7 : zDc M_X3_forget 7 (.putfield 35) 3 10 := ⟨by decide +kernel, rfl⟩
theorem d_X3_forget_10 : zDc M_X3_forget 10 (.return_) 1 11 := ⟨by decide +kernel, rfl⟩
def f_X3_forget (a0 : Nat) (h0 : zHp) : Option (Unit × zHp) :=
  zob (zpV h0 a0 3 6 (.int 0)) (fun h1 =>
  zob (zpV h1 a0 3 7 (.int (-1))) (fun h2 =>
  some ((), h2)))
set_option maxRecDepth 100000 in
set_option maxHeartbeats 4000000 in
theorem t_X3_forget (a0 : Nat) (h0 : zHp) : ∀ (r : Unit) (h' : zHp), f_X3_forget a0 h0 = some (r, h') → zCt yX3_forget (.code yX3_forget cX3_forget 1 none) 1 60 0 0 [.ref a0] h0 (none) h' := by
  refine zct_of M_X3_forget yX3_forget (by decide) rfl rfl [.ref a0] h0 (Nat.le_of_ble_eq_true rfl) (fun _ => none) (fun X => ?_)
  show zG X M_X3_forget (0, 0) 0 [(0, .ref a0)] [] h0 (f_X3_forget a0 h0) (fun (_ : Unit) h' => zKe X (none) h')
  unfold f_X3_forget
  refine zg_aload_n 0 rfl d_X3_forget_0 ?_
  refine zg_iconst 0 rfl d_X3_forget_1 ?_
  refine zg_putV d_X3_forget_2 zc_3 (by decide) fl_X3_31 rfl rfl rfl (fun h1 => ?_)
  refine zg_aload_n 0 rfl d_X3_forget_5 ?_
  refine zg_iconst (-1) rfl d_X3_forget_6 ?_
  refine zg_putV d_X3_forget_7 zc_3 (by decide) fl_X3_35 rfl rfl rfl (fun h2 => ?_)
  exact zg_vretK d_X3_forget_10 rfl ⟨Nat.le_of_ble_eq_true rfl, Nat.le_of_ble_eq_true rfl⟩ (fun q => q)
abbrev M_X3_strikeOut : zMt := (RX3, cX3_strikeOut, 2, 2, 80, none, "strikeOut", 0, 0)
theorem d_X3_strikeOut_0 : zDc M_X3_strikeOut 0 (.iconst 0) 1 1 := ⟨by decide +kernel, rfl⟩
theorem d_X3_strikeOut_1 : zDc M_X3_strikeOut 1 (.istore_n 1) 1 2 := ⟨by decide +kernel, rfl⟩
theorem d_X3_strikeOut_2 : zDc M_X3_strikeOut 2 (.iload_n 1) 1 3 := ⟨by decide +kernel, rfl⟩
theorem d_X3_strikeOut_3 : zDc M_X3_strikeOut 3 (.bipush 24) 2 5 := ⟨by decide +kernel, rfl⟩
theorem d_X3_strikeOut_5 : zDj M_X3_strikeOut 5 (.if_icmp .ge 16) 16 8 21 := ⟨by decide +kernel, rfl, by decide⟩
theorem d_X3_strikeOut_8 : zDc M_X3_strikeOut 8 (.aload_n 0) 1 9 := ⟨by decide +kernel, rfl⟩
theorem d_X3_strikeOut_9 : zDc M_X3_strikeOut 9 (.getfield 28) 3 12 := ⟨by decide +kernel, rfl⟩
theorem d_X3_strikeOut_12 : zDc M_X3_strikeOut 12 (.iload_n 1) 1 13 := ⟨by decide +kernel, rfl⟩
theorem d_X3_strikeOut_13 : zDc M_X3_strikeOut 13 (.iconst 0) 1 14 := ⟨by decide +kernel, rfl⟩
theorem d_X3_strikeOut_14 : zDc M_X3_strikeOut 14 (.bastore) 1 15 := ⟨by decide +kernel, rfl⟩
theorem d_X3_strikeOut_15 : zDc M_X3_strikeOut 15 (.iinc 1 1) 3 18 := ⟨by decide +kernel, rfl⟩
theorem d_X3_strikeOut_18 : zDj M_X3_strikeOut 18 (.goto (-16)) (-16) 21 2 := ⟨by decide +kernel, rfl, by decide⟩
theorem d_X3_strikeOut_21 : zDc M_X3_strikeOut 21 (.aload_n 0) 1 22 := ⟨by decide +kernel, rfl⟩
theorem d_X3_strikeOut_22 : zDc M_X3_strikeOut 22 (.invokevirtual 42) 3 25 := ⟨by decide +kernel, rfl⟩
theorem d_X3_strikeOut_25 : zDc M_X3_strikeOut 25 (.iconst 1) 1 26 := ⟨by decide +kernel, rfl⟩
theorem d_X3_strikeOut_26 : zDc M_X3_strikeOut 26 (.isub) 1 27 := ⟨by decide +kernel, rfl⟩
theorem d_X3_strikeOut_27 : zDc M_X3_strikeOut 27 (.istore_n 1) 1 28 := ⟨by decide +kernel, rfl⟩
theorem d_X3_strikeOut_28 : zDc M_X3_strikeOut 28 (.iload_n 1) 1 29 := ⟨by decide +kernel, rfl⟩
theorem d_X3_strikeOut_29 : zDj M_X3_strikeOut 29 (.ifCond .lt 40) 40 32 69 := ⟨by decide +kernel, rfl, by decide⟩
theorem d_X3_strikeOut_32 : zDc M_X3_strikeOut 32 (.aload_n 0) 1 33 := ⟨by decide +kernel, rfl⟩
theorem d_X3_strikeOut_33 : zDc M_X3_strikeOut 33 (.getfield 28) 3 36 := ⟨by decide +kernel, rfl⟩
theorem d_X3_strikeOut_36 : zDc M_X3_strikeOut 36 (.iload_n 1) 1 37 := ⟨by decide +kernel, rfl⟩
theorem d_X3_strikeOut_37 : zDc M_X3_strikeOut 37 (.baload) 1 38 := ⟨by decide +kernel, rfl⟩
theorem d_X3_strikeOut_38 : zDj M_X3_strikeOut 38 (.ifCond .ne 25) 25 41 63 := ⟨by decide +kernel, rfl, by decide⟩
theorem d_X3_strikeOut_41 : zDc M_X3_strikeOut 41 (.aload_n 0) 1 42 := ⟨by decide +kernel, rfl⟩
theorem d_X3_strikeOut_42 : zDc M_X3_strikeOut 42 (.getfield 25) 3 45 := ⟨by decide +kernel, rfl⟩
theorem d_X3_strikeOut_45 : zDc M_X3_strikeOut 45 (.iload_n 1) 1 46 := ⟨by decide +kernel, rfl⟩
theorem d_X3_strikeOut_46 : zDc M_X3_strikeOut 46 (.iaload) 1 47 := ⟨by decide +kernel, rfl⟩
theorem d_X3_strikeOut_47 : zDc M_X3_strikeOut 47 (.iconst (-1)) 1 48 := ⟨by decide +kernel, rfl⟩
theorem d_X3_strikeOut_48 : zDj M_X3_strikeOut 48 (.if_icmp .eq 15) 15 51 63 := ⟨by decide +kernel, rfl, by decide⟩
theorem d_X3_strikeOut_51 : zDc M_X3_strikeOut 51 (.aload_n 0) 1 52 := ⟨by decide +kernel, rfl⟩
theorem d_X3_strikeOut_52 : zDc M_X3_strikeOut 52 (.getfield 28) 3 55 := ⟨by decide +kernel, rfl⟩
theorem d_X3_strikeOut_55 : zDc M_X3_strikeOut 55 (.aload_n 0) 1 56 := ⟨by decide +kernel, rfl⟩
theorem d_X3_strikeOut_56 : zDc M_X3_strikeOut 56 (.getfield 25) 3 59 := ⟨by decide +kernel, rfl⟩
theorem d_X3_strikeOut_59 : zDc M_X3_strikeOut 59 (.iload_n 1) 1 60 := ⟨by decide +kernel, rfl⟩
theorem d_X3_strikeOut_60 : zDc M_X3_strikeOut 60 (.iaload) 1 61 := ⟨by decide +kernel, rfl⟩
theorem d_X3_strikeOut_61 : zDc M_X3_strikeOut 61 (.iconst 1) 1 62 := ⟨by decide +kernel, rfl⟩
theorem d_X3_strikeOut_62 : zDc M_X3_strikeOut 62 (.bastore) 1 63 := ⟨by decide +kernel, rfl⟩
theorem d_X3_strikeOut_63 : zDc M_X3_strikeOut 63 (.iinc 1 (-1)) 3 66 := ⟨by decide +kernel, rfl⟩
theorem d_X3_strikeOut_66 : zDj M_X3_strikeOut 66 (.goto (-38)) (-38) 69 28 := ⟨by decide +kernel, rfl, by decide⟩
theorem d_X3_strikeOut_69 : zDc M_X3_strikeOut 69 (.return_) 1 70 := ⟨by decide +kernel, rfl⟩
def f_X3_strikeOut (a0 : Nat) (h0 : zHp) : Option (Unit × zHp) :=
  zbd (
  zlp (σ := Int32) (β := Int32) zLF (fun s1 h2 =>
  if 24 ≤ s1 then
  some ((.inr s1), h2)
  else
  zob (zgR h2 a0 3 5) (fun v5 =>
  zob (zsI 2 h2 v5 s1 0) (fun h6 =>
  some ((.inl (s1 + 1)), h6)))) 0 h0) (fun e3 h4 =>
  zbd (zcv 3 a0 h4 (f_X3_readable a0 h4)) (fun v8 h7 =>
  zbd (
  zlp (σ := Int32) (β := Int32) zLF (fun s9 h10 =>
  if s9 < 0 then
  some ((.inr s9), h10)
  else
  zob (zgR h10 a0 3 5) (fun v13 =>
  zob (zaI 2 h10 v13 s9) (fun v14 =>
  if v14 = 0 then
  zob (zgR h10 a0 3 4) (fun v15 =>
  zob (zaI 0 h10 v15 s9) (fun v16 =>
  if v16 = (-1) then
  some ((.inl (s9 + (-1))), h10)
  else
  zob (zgR h10 a0 3 5) (fun v17 =>
  zob (zgR h10 a0 3 4) (fun v18 =>
  zob (zaI 0 h10 v18 s9) (fun v19 =>
  zob (zsI 2 h10 v17 v19 1) (fun h20 =>
  some ((.inl (s9 + (-1))), h20)))))))
  else
  some ((.inl (s9 + (-1))), h10)))) (v8 - 1) h7) (fun e11 h12 =>
  some ((), h12))))
set_option maxRecDepth 100000 in
set_option maxHeartbeats 4000000 in
theorem t_X3_strikeOut (a0 : Nat) (h0 : zHp) : ∀ (r : Unit) (h' : zHp), f_X3_strikeOut a0 h0 = some (r, h') → zCt yX3_strikeOut (.code yX3_strikeOut cX3_strikeOut 2 none) 2 80 0 0 [.ref a0] h0 (none) h' := by
  refine zct_of M_X3_strikeOut yX3_strikeOut (by decide) rfl rfl [.ref a0] h0 (Nat.le_of_ble_eq_true rfl) (fun _ => none) (fun X => ?_)
  show zG X M_X3_strikeOut (0, 0) 0 [(0, .ref a0)] [] h0 (f_X3_strikeOut a0 h0) (fun (_ : Unit) h' => zKe X (none) h')
  unfold f_X3_strikeOut
  refine zg_iconst 0 rfl d_X3_strikeOut_0 ?_
  refine zg_istore_n [(1, .int 0), (0, .ref a0)] d_X3_strikeOut_1 rfl (by decide) rfl ?_
  refine zg_bd (E := 21) (el := (fun (e3 : Int32) => [(0, .ref a0), (1, .int e3)])) (es := fun _ => []) (zg_sub [1, 0] rfl (zg_lp (el := (fun (s1 : Int32) => [(0, .ref a0), (1, .int s1)])) (fun s1 h2 => ?_) 0 h0)) (fun e3 h4 => ?_)
  · refine zg_iload_n 1 rfl d_X3_strikeOut_2 ?_
    refine zg_bipush 24 rfl d_X3_strikeOut_3 ?_
    refine zg_icmp_ge d_X3_strikeOut_5 ?_ ?_
    · exact zg_finK (E := 0) [0, 1] rfl rfl (fun q => q)
    · refine zg_aload_n 0 rfl d_X3_strikeOut_8 ?_
      refine zg_getR d_X3_strikeOut_9 zc_3 (by decide) fl_X3_28 (fun v5 => ?_)
      refine zg_iload_n 1 rfl d_X3_strikeOut_12 ?_
      refine zg_iconst 0 rfl d_X3_strikeOut_13 ?_
      refine zg_ast2 d_X3_strikeOut_14 (fun h6 => ?_)
      refine zg_iinc 1 (s1 + 1) [(1, .int (s1 + 1)), (0, .ref a0)] d_X3_strikeOut_15 rfl rfl (by decide) rfl ?_
      refine zg_goto d_X3_strikeOut_18 ?_
      exact zg_finK (E := 0) [1, 0] rfl rfl (fun q => q)
  · refine zg_aload_n 0 rfl d_X3_strikeOut_21 ?_
    refine zg_cVi (b := a0) (As := []) (rest := []) (0, 0) d_X3_strikeOut_22 zc_3 rfl cw_X3_42 wi_X3_readable ws_X3_readable rfl rfl (Nat.le_of_ble_eq_true rfl) (by decide) (by decide) ⟨by decide, by decide⟩ rfl (t_X3_readable a0 h4) (fun v8 h7 => ?_)
    refine zg_iconst 1 rfl d_X3_strikeOut_25 ?_
    refine zg_isub d_X3_strikeOut_26 ?_
    refine zg_istore_n [(1, .int (v8 - 1)), (0, .ref a0)] d_X3_strikeOut_27 rfl (by decide) rfl ?_
    refine zg_bd (E := 69) (el := (fun (e11 : Int32) => [(0, .ref a0), (1, .int e11)])) (es := fun _ => []) (zg_sub [1, 0] rfl (zg_lp (el := (fun (s9 : Int32) => [(0, .ref a0), (1, .int s9)])) (fun s9 h10 => ?_) (v8 - 1) h7)) (fun e11 h12 => ?_)
    · refine zg_iload_n 1 rfl d_X3_strikeOut_28 ?_
      refine zg_if_lt d_X3_strikeOut_29 ?_ ?_
      · exact zg_finK (E := 0) [0, 1] rfl rfl (fun q => q)
      · refine zg_aload_n 0 rfl d_X3_strikeOut_32 ?_
        refine zg_getR d_X3_strikeOut_33 zc_3 (by decide) fl_X3_28 (fun v13 => ?_)
        refine zg_iload_n 1 rfl d_X3_strikeOut_36 ?_
        refine zg_ald2 d_X3_strikeOut_37 (fun v14 => ?_)
        refine zg_if_ne d_X3_strikeOut_38 ?_ ?_
        · refine zg_aload_n 0 rfl d_X3_strikeOut_41 ?_
          refine zg_getR d_X3_strikeOut_42 zc_3 (by decide) fl_X3_25 (fun v15 => ?_)
          refine zg_iload_n 1 rfl d_X3_strikeOut_45 ?_
          refine zg_ald0 d_X3_strikeOut_46 (fun v16 => ?_)
          refine zg_iconst (-1) rfl d_X3_strikeOut_47 ?_
          refine zg_icmp_eq d_X3_strikeOut_48 ?_ ?_
          · refine zg_iinc 1 (s9 + (-1)) [(1, .int (s9 + (-1))), (0, .ref a0)] d_X3_strikeOut_63 rfl rfl (by decide) rfl ?_
            refine zg_goto d_X3_strikeOut_66 ?_
            exact zg_finK (E := 0) [1, 0] rfl rfl (fun q => q)
          · refine zg_aload_n 0 rfl d_X3_strikeOut_51 ?_
            refine zg_getR d_X3_strikeOut_52 zc_3 (by decide) fl_X3_28 (fun v17 => ?_)
            refine zg_aload_n 0 rfl d_X3_strikeOut_55 ?_
            refine zg_getR d_X3_strikeOut_56 zc_3 (by decide) fl_X3_25 (fun v18 => ?_)
            refine zg_iload_n 1 rfl d_X3_strikeOut_59 ?_
            refine zg_ald0 d_X3_strikeOut_60 (fun v19 => ?_)
            refine zg_iconst 1 rfl d_X3_strikeOut_61 ?_
            refine zg_ast2 d_X3_strikeOut_62 (fun h20 => ?_)
            refine zg_iinc 1 (s9 + (-1)) [(1, .int (s9 + (-1))), (0, .ref a0)] d_X3_strikeOut_63 rfl rfl (by decide) rfl ?_
            refine zg_goto d_X3_strikeOut_66 ?_
            exact zg_finK (E := 0) [1, 0] rfl rfl (fun q => q)
        · refine zg_iinc 1 (s9 + (-1)) [(1, .int (s9 + (-1))), (0, .ref a0)] d_X3_strikeOut_63 rfl rfl (by decide) rfl ?_
          refine zg_goto d_X3_strikeOut_66 ?_
          exact zg_finK (E := 0) [1, 0] rfl rfl (fun q => q)
    · exact zg_vretK d_X3_strikeOut_69 rfl ⟨Nat.le_of_ble_eq_true rfl, Nat.le_of_ble_eq_true rfl⟩ (fun q => q)
abbrev M_X4_isDigit : zMt := (RX4, cX4_isDigit, 1, 1, 60, (some .boolean), "isDigit", 0, 0)
theorem d_X4_isDigit_0 : zDc M_X4_isDigit 0 (.iload_n 0) 1 1 := ⟨by decide +kernel, rfl⟩
theorem d_X4_isDigit_1 : zDc M_X4_isDigit 1 (.bipush 48) 2 3 := ⟨by decide +kernel, rfl⟩
theorem d_X4_isDigit_3 : zDj M_X4_isDigit 3 (.if_icmp .lt 13) 13 6 16 := ⟨by decide +kernel, rfl, by decide⟩
theorem d_X4_isDigit_6 : zDc M_X4_isDigit 6 (.iload_n 0) 1 7 := ⟨by decide +kernel, rfl⟩
theorem d_X4_isDigit_7 : zDc M_X4_isDigit 7 (.bipush 57) 2 9 := ⟨by decide +kernel, rfl⟩
theorem d_X4_isDigit_9 : zDj M_X4_isDigit 9 (.if_icmp .gt 7) 7 12 16 := ⟨by decide +kernel, rfl, by decide⟩
theorem d_X4_isDigit_12 : zDc M_X4_isDigit 12 (.iconst 1) 1 13 := ⟨by decide +kernel, rfl⟩
theorem d_X4_isDigit_13 : zDj M_X4_isDigit 13 (.goto 4) 4 16 17 := ⟨by decide +kernel, rfl, by decide⟩
theorem d_X4_isDigit_16 : zDc M_X4_isDigit 16 (.iconst 0) 1 17 := ⟨by decide +kernel, rfl⟩
theorem d_X4_isDigit_17 : zDc M_X4_isDigit 17 (.ireturn) 1 18 := ⟨by decide +kernel, rfl⟩
def f_X4_isDigit (a0 : Int32) (h0 : zHp) : Option (Int32 × zHp) :=
  if a0 < 48 then
  some (0, h0)
  else
  if 57 < a0 then
  some (0, h0)
  else
  some (1, h0)
set_option maxRecDepth 100000 in
set_option maxHeartbeats 4000000 in
theorem t_X4_isDigit (a0 : Int32) (h0 : zHp) : ∀ (r : Int32) (h' : zHp), f_X4_isDigit a0 h0 = some (r, h') → zCt yX4_isDigit (.code yX4_isDigit cX4_isDigit 1 (some .boolean)) 1 60 0 0 [.int a0] h0 (some (.int r)) h' := by
  refine zct_of M_X4_isDigit yX4_isDigit (by decide) rfl rfl [.int a0] h0 (Nat.le_of_ble_eq_true rfl) (fun r => some (.int r)) (fun X => ?_)
  show zG X M_X4_isDigit (0, 0) 0 [(0, .int a0)] [] h0 (f_X4_isDigit a0 h0) (fun (r : Int32) h' => zKe X (some (.int r)) h')
  unfold f_X4_isDigit
  refine zg_iload_n 0 rfl d_X4_isDigit_0 ?_
  refine zg_bipush 48 rfl d_X4_isDigit_1 ?_
  refine zg_icmp_lt d_X4_isDigit_3 ?_ ?_
  · refine zg_iconst 0 rfl d_X4_isDigit_16 ?_
    exact zg_zretK d_X4_isDigit_17 rfl ⟨Nat.le_of_ble_eq_true rfl, Nat.le_of_ble_eq_true rfl⟩ (Or.inl rfl) (fun q => q)
  · refine zg_iload_n 0 rfl d_X4_isDigit_6 ?_
    refine zg_bipush 57 rfl d_X4_isDigit_7 ?_
    refine zg_icmp_gt d_X4_isDigit_9 ?_ ?_
    · refine zg_iconst 0 rfl d_X4_isDigit_16 ?_
      exact zg_zretK d_X4_isDigit_17 rfl ⟨Nat.le_of_ble_eq_true rfl, Nat.le_of_ble_eq_true rfl⟩ (Or.inl rfl) (fun q => q)
    · refine zg_iconst 1 rfl d_X4_isDigit_12 ?_
      refine zg_goto d_X4_isDigit_13 ?_
      exact zg_zretK d_X4_isDigit_17 rfl ⟨Nat.le_of_ble_eq_true rfl, Nat.le_of_ble_eq_true rfl⟩ (Or.inr rfl) (fun q => q)
abbrev M_X4_isLetter : zMt := (RX4, cX4_isLetter, 1, 1, 60, (some .boolean), "isLetter", 0, 0)
theorem d_X4_isLetter_0 : zDc M_X4_isLetter 0 (.iload_n 0) 1 1 := ⟨by decide +kernel, rfl⟩
theorem d_X4_isLetter_1 : zDc M_X4_isLetter 1 (.bipush 97) 2 3 := ⟨by decide +kernel, rfl⟩
theorem d_X4_isLetter_3 : zDj M_X4_isLetter 3 (.if_icmp .lt 13) 13 6 16 := ⟨by decide +kernel, rfl, by decide⟩
theorem d_X4_isLetter_6 : zDc M_X4_isLetter 6 (.iload_n 0) 1 7 := ⟨by decide +kernel, rfl⟩
theorem d_X4_isLetter_7 : zDc M_X4_isLetter 7 (.bipush 122) 2 9 := ⟨by decide +kernel, rfl⟩
theorem d_X4_isLetter_9 : zDj M_X4_isLetter 9 (.if_icmp .gt 7) 7 12 16 := ⟨by decide +kernel, rfl, by decide⟩
theorem d_X4_isLetter_12 : zDc M_X4_isLetter 12 (.iconst 1) 1 13 := ⟨by decide +kernel, rfl⟩
theorem d_X4_isLetter_13 : zDj M_X4_isLetter 13 (.goto 4) 4 16 17 := ⟨by decide +kernel, rfl, by decide⟩
theorem d_X4_isLetter_16 : zDc M_X4_isLetter 16 (.iconst 0) 1 17 := ⟨by decide +kernel, rfl⟩
theorem d_X4_isLetter_17 : zDc M_X4_isLetter 17 (.ireturn) 1 18 := ⟨by decide +kernel, rfl⟩
def f_X4_isLetter (a0 : Int32) (h0 : zHp) : Option (Int32 × zHp) :=
  if a0 < 97 then
  some (0, h0)
  else
  if 122 < a0 then
  some (0, h0)
  else
  some (1, h0)
set_option maxRecDepth 100000 in
set_option maxHeartbeats 4000000 in
theorem t_X4_isLetter (a0 : Int32) (h0 : zHp) : ∀ (r : Int32) (h' : zHp), f_X4_isLetter a0 h0 = some (r, h') → zCt yX4_isLetter (.code yX4_isLetter cX4_isLetter 1 (some .boolean)) 1 60 0 0 [.int a0] h0 (some (.int r)) h' := by
  refine zct_of M_X4_isLetter yX4_isLetter (by decide) rfl rfl [.int a0] h0 (Nat.le_of_ble_eq_true rfl) (fun r => some (.int r)) (fun X => ?_)
  show zG X M_X4_isLetter (0, 0) 0 [(0, .int a0)] [] h0 (f_X4_isLetter a0 h0) (fun (r : Int32) h' => zKe X (some (.int r)) h')
  unfold f_X4_isLetter
  refine zg_iload_n 0 rfl d_X4_isLetter_0 ?_
  refine zg_bipush 97 rfl d_X4_isLetter_1 ?_
  refine zg_icmp_lt d_X4_isLetter_3 ?_ ?_
  · refine zg_iconst 0 rfl d_X4_isLetter_16 ?_
    exact zg_zretK d_X4_isLetter_17 rfl ⟨Nat.le_of_ble_eq_true rfl, Nat.le_of_ble_eq_true rfl⟩ (Or.inl rfl) (fun q => q)
  · refine zg_iload_n 0 rfl d_X4_isLetter_6 ?_
    refine zg_bipush 122 rfl d_X4_isLetter_7 ?_
    refine zg_icmp_gt d_X4_isLetter_9 ?_ ?_
    · refine zg_iconst 0 rfl d_X4_isLetter_16 ?_
      exact zg_zretK d_X4_isLetter_17 rfl ⟨Nat.le_of_ble_eq_true rfl, Nat.le_of_ble_eq_true rfl⟩ (Or.inl rfl) (fun q => q)
    · refine zg_iconst 1 rfl d_X4_isLetter_12 ?_
      refine zg_goto d_X4_isLetter_13 ?_
      exact zg_zretK d_X4_isLetter_17 rfl ⟨Nat.le_of_ble_eq_true rfl, Nat.le_of_ble_eq_true rfl⟩ (Or.inr rfl) (fun q => q)
abbrev M_X4_signToken : zMt := (RX4, cX4_signToken, 2, 1, 60, (some .int), "signToken", 0, 0)
theorem d_X4_signToken_0 : zDc M_X4_signToken 0 (.iload_n 0) 1 1 := ⟨by decide +kernel, rfl⟩
theorem d_X4_signToken_1 : decode M_X4_signToken.2.1 1 = .ok (.tableswitch 170 40 62 #[161, 164, 113, 107, 170, 110, 170, 116, 170, 170, 170, 170, 170, 170, 170, 170, 170, 170, 170, 167, 119, 144, 147], 107) := by decide +kernel
theorem d_X4_signToken_108 : zDc M_X4_signToken 108 (.bipush 23) 2 110 := ⟨by decide +kernel, rfl⟩
theorem d_X4_signToken_110 : zDc M_X4_signToken 110 (.ireturn) 1 111 := ⟨by decide +kernel, rfl⟩
theorem d_X4_signToken_111 : zDc M_X4_signToken 111 (.bipush 24) 2 113 := ⟨by decide +kernel, rfl⟩
theorem d_X4_signToken_113 : zDc M_X4_signToken 113 (.ireturn) 1 114 := ⟨by decide +kernel, rfl⟩
theorem d_X4_signToken_114 : zDc M_X4_signToken 114 (.bipush 25) 2 116 := ⟨by decide +kernel, rfl⟩
theorem d_X4_signToken_116 : zDc M_X4_signToken 116 (.ireturn) 1 117 := ⟨by decide +kernel, rfl⟩
theorem d_X4_signToken_117 : zDc M_X4_signToken 117 (.bipush 26) 2 119 := ⟨by decide +kernel, rfl⟩
theorem d_X4_signToken_119 : zDc M_X4_signToken 119 (.ireturn) 1 120 := ⟨by decide +kernel, rfl⟩
theorem d_X4_signToken_120 : zDc M_X4_signToken 120 (.iload_n 1) 1 121 := ⟨by decide +kernel, rfl⟩
theorem d_X4_signToken_121 : zDc M_X4_signToken 121 (.bipush 61) 2 123 := ⟨by decide +kernel, rfl⟩
theorem d_X4_signToken_123 : zDj M_X4_signToken 123 (.if_icmp .ne 8) 8 126 131 := ⟨by decide +kernel, rfl, by decide⟩
theorem d_X4_signToken_126 : zDc M_X4_signToken 126 (.bipush 28) 2 128 := ⟨by decide +kernel, rfl⟩
theorem d_X4_signToken_128 : zDj M_X4_signToken 128 (.goto 16) 16 131 144 := ⟨by decide +kernel, rfl, by decide⟩
theorem d_X4_signToken_131 : zDc M_X4_signToken 131 (.iload_n 1) 1 132 := ⟨by decide +kernel, rfl⟩
theorem d_X4_signToken_132 : zDc M_X4_signToken 132 (.bipush 62) 2 134 := ⟨by decide +kernel, rfl⟩
theorem d_X4_signToken_134 : zDj M_X4_signToken 134 (.if_icmp .ne 8) 8 137 142 := ⟨by decide +kernel, rfl, by decide⟩
theorem d_X4_signToken_137 : zDc M_X4_signToken 137 (.bipush 30) 2 139 := ⟨by decide +kernel, rfl⟩
theorem d_X4_signToken_139 : zDj M_X4_signToken 139 (.goto 5) 5 142 144 := ⟨by decide +kernel, rfl, by decide⟩
theorem d_X4_signToken_142 : zDc M_X4_signToken 142 (.bipush 27) 2 144 := ⟨by decide +kernel, rfl⟩
theorem d_X4_signToken_144 : zDc M_X4_signToken 144 (.ireturn) 1 145 := ⟨by decide +kernel, rfl⟩
theorem d_X4_signToken_145 : zDc M_X4_signToken 145 (.bipush 29) 2 147 := ⟨by decide +kernel, rfl⟩
theorem d_X4_signToken_147 : zDc M_X4_signToken 147 (.ireturn) 1 148 := ⟨by decide +kernel, rfl⟩
theorem d_X4_signToken_148 : zDc M_X4_signToken 148 (.iload_n 1) 1 149 := ⟨by decide +kernel, rfl⟩
theorem d_X4_signToken_149 : zDc M_X4_signToken 149 (.bipush 61) 2 151 := ⟨by decide +kernel, rfl⟩
theorem d_X4_signToken_151 : zDj M_X4_signToken 151 (.if_icmp .ne 8) 8 154 159 := ⟨by decide +kernel, rfl, by decide⟩
theorem d_X4_signToken_154 : zDc M_X4_signToken 154 (.bipush 31) 2 156 := ⟨by decide +kernel, rfl⟩
theorem d_X4_signToken_156 : zDj M_X4_signToken 156 (.goto 5) 5 159 161 := ⟨by decide +kernel, rfl, by decide⟩
theorem d_X4_signToken_159 : zDc M_X4_signToken 159 (.bipush 32) 2 161 := ⟨by decide +kernel, rfl⟩
theorem d_X4_signToken_161 : zDc M_X4_signToken 161 (.ireturn) 1 162 := ⟨by decide +kernel, rfl⟩
theorem d_X4_signToken_162 : zDc M_X4_signToken 162 (.bipush 33) 2 164 := ⟨by decide +kernel, rfl⟩
theorem d_X4_signToken_164 : zDc M_X4_signToken 164 (.ireturn) 1 165 := ⟨by decide +kernel, rfl⟩
theorem d_X4_signToken_165 : zDc M_X4_signToken 165 (.bipush 34) 2 167 := ⟨by decide +kernel, rfl⟩
theorem d_X4_signToken_167 : zDc M_X4_signToken 167 (.ireturn) 1 168 := ⟨by decide +kernel, rfl⟩
theorem d_X4_signToken_168 : zDc M_X4_signToken 168 (.bipush 35) 2 170 := ⟨by decide +kernel, rfl⟩
theorem d_X4_signToken_170 : zDc M_X4_signToken 170 (.ireturn) 1 171 := ⟨by decide +kernel, rfl⟩
theorem d_X4_signToken_171 : zDc M_X4_signToken 171 (.bipush 39) 2 173 := ⟨by decide +kernel, rfl⟩
theorem d_X4_signToken_173 : zDc M_X4_signToken 173 (.ireturn) 1 174 := ⟨by decide +kernel, rfl⟩
def f_X4_signToken (a0 : Int32) (a1 : Int32) (h0 : zHp) : Option (Int32 × zHp) :=
  if a0 = 40 then
  some (33, h0)
  else if a0 = 41 then
  some (34, h0)
  else if a0 = 42 then
  some (25, h0)
  else if a0 = 43 then
  some (23, h0)
  else if a0 = 44 then
  some (39, h0)
  else if a0 = 45 then
  some (24, h0)
  else if a0 = 46 then
  some (39, h0)
  else if a0 = 47 then
  some (26, h0)
  else if a0 = 48 then
  some (39, h0)
  else if a0 = 49 then
  some (39, h0)
  else if a0 = 50 then
  some (39, h0)
  else if a0 = 51 then
  some (39, h0)
  else if a0 = 52 then
  some (39, h0)
  else if a0 = 53 then
  some (39, h0)
  else if a0 = 54 then
  some (39, h0)
  else if a0 = 55 then
  some (39, h0)
  else if a0 = 56 then
  some (39, h0)
  else if a0 = 57 then
  some (39, h0)
  else if a0 = 58 then
  some (39, h0)
  else if a0 = 59 then
  some (35, h0)
  else if a0 = 60 then
  if a1 = 61 then
  some (28, h0)
  else
  if a1 = 62 then
  some (30, h0)
  else
  some (27, h0)
  else if a0 = 61 then
  some (29, h0)
  else if a0 = 62 then
  if a1 = 61 then
  some (31, h0)
  else
  some (32, h0)
  else 
  some (39, h0)
set_option maxRecDepth 100000 in
set_option maxHeartbeats 4000000 in
theorem t_X4_signToken (a0 : Int32) (a1 : Int32) (h0 : zHp) : ∀ (r : Int32) (h' : zHp), f_X4_signToken a0 a1 h0 = some (r, h') → zCt yX4_signToken (.code yX4_signToken cX4_signToken 2 (some .int)) 1 60 0 0 [.int a0, .int a1] h0 (some (.int r)) h' := by
  refine zct_of M_X4_signToken yX4_signToken (by decide) rfl rfl [.int a0, .int a1] h0 (Nat.le_of_ble_eq_true rfl) (fun r => some (.int r)) (fun X => ?_)
  show zG X M_X4_signToken (0, 0) 0 [(0, .int a0), (1, .int a1)] [] h0 (f_X4_signToken a0 a1 h0) (fun (r : Int32) h' => zKe X (some (.int r)) h')
  unfold f_X4_signToken
  refine zg_iload_n 0 rfl d_X4_signToken_0 ?_
  refine zg_if (fun n1 => ?_) (fun n1 => ?_)
  · refine zg_tabE n1 d_X4_signToken_1 (by decide) (by decide) (off := 161) rfl (tgt := 162) (by decide) ?_
    refine zg_bipush 33 rfl d_X4_signToken_162 ?_
    exact zg_iretK d_X4_signToken_164 rfl ⟨Nat.le_of_ble_eq_true rfl, Nat.le_of_ble_eq_true rfl⟩ (fun q => q)
  refine zg_if (fun n2 => ?_) (fun n2 => ?_)
  · refine zg_tabE n2 d_X4_signToken_1 (by decide) (by decide) (off := 164) rfl (tgt := 165) (by decide) ?_
    refine zg_bipush 34 rfl d_X4_signToken_165 ?_
    exact zg_iretK d_X4_signToken_167 rfl ⟨Nat.le_of_ble_eq_true rfl, Nat.le_of_ble_eq_true rfl⟩ (fun q => q)
  refine zg_if (fun n3 => ?_) (fun n3 => ?_)
  · refine zg_tabE n3 d_X4_signToken_1 (by decide) (by decide) (off := 113) rfl (tgt := 114) (by decide) ?_
    refine zg_bipush 25 rfl d_X4_signToken_114 ?_
    exact zg_iretK d_X4_signToken_116 rfl ⟨Nat.le_of_ble_eq_true rfl, Nat.le_of_ble_eq_true rfl⟩ (fun q => q)
  refine zg_if (fun n4 => ?_) (fun n4 => ?_)
  · refine zg_tabE n4 d_X4_signToken_1 (by decide) (by decide) (off := 107) rfl (tgt := 108) (by decide) ?_
    refine zg_bipush 23 rfl d_X4_signToken_108 ?_
    exact zg_iretK d_X4_signToken_110 rfl ⟨Nat.le_of_ble_eq_true rfl, Nat.le_of_ble_eq_true rfl⟩ (fun q => q)
  refine zg_if (fun n5 => ?_) (fun n5 => ?_)
  · refine zg_tabE n5 d_X4_signToken_1 (by decide) (by decide) (off := 170) rfl (tgt := 171) (by decide) ?_
    refine zg_bipush 39 rfl d_X4_signToken_171 ?_
    exact zg_iretK d_X4_signToken_173 rfl ⟨Nat.le_of_ble_eq_true rfl, Nat.le_of_ble_eq_true rfl⟩ (fun q => q)
  refine zg_if (fun n6 => ?_) (fun n6 => ?_)
  · refine zg_tabE n6 d_X4_signToken_1 (by decide) (by decide) (off := 110) rfl (tgt := 111) (by decide) ?_
    refine zg_bipush 24 rfl d_X4_signToken_111 ?_
    exact zg_iretK d_X4_signToken_113 rfl ⟨Nat.le_of_ble_eq_true rfl, Nat.le_of_ble_eq_true rfl⟩ (fun q => q)
  refine zg_if (fun n7 => ?_) (fun n7 => ?_)
  · refine zg_tabE n7 d_X4_signToken_1 (by decide) (by decide) (off := 170) rfl (tgt := 171) (by decide) ?_
    refine zg_bipush 39 rfl d_X4_signToken_171 ?_
    exact zg_iretK d_X4_signToken_173 rfl ⟨Nat.le_of_ble_eq_true rfl, Nat.le_of_ble_eq_true rfl⟩ (fun q => q)
  refine zg_if (fun n8 => ?_) (fun n8 => ?_)
  · refine zg_tabE n8 d_X4_signToken_1 (by decide) (by decide) (off := 116) rfl (tgt := 117) (by decide) ?_
    refine zg_bipush 26 rfl d_X4_signToken_117 ?_
    exact zg_iretK d_X4_signToken_119 rfl ⟨Nat.le_of_ble_eq_true rfl, Nat.le_of_ble_eq_true rfl⟩ (fun q => q)
  refine zg_if (fun n9 => ?_) (fun n9 => ?_)
  · refine zg_tabE n9 d_X4_signToken_1 (by decide) (by decide) (off := 170) rfl (tgt := 171) (by decide) ?_
    refine zg_bipush 39 rfl d_X4_signToken_171 ?_
    exact zg_iretK d_X4_signToken_173 rfl ⟨Nat.le_of_ble_eq_true rfl, Nat.le_of_ble_eq_true rfl⟩ (fun q => q)
  refine zg_if (fun n10 => ?_) (fun n10 => ?_)
  · refine zg_tabE n10 d_X4_signToken_1 (by decide) (by decide) (off := 170) rfl (tgt := 171) (by decide) ?_
    refine zg_bipush 39 rfl d_X4_signToken_171 ?_
    exact zg_iretK d_X4_signToken_173 rfl ⟨Nat.le_of_ble_eq_true rfl, Nat.le_of_ble_eq_true rfl⟩ (fun q => q)
  refine zg_if (fun n11 => ?_) (fun n11 => ?_)
  · refine zg_tabE n11 d_X4_signToken_1 (by decide) (by decide) (off := 170) rfl (tgt := 171) (by decide) ?_
    refine zg_bipush 39 rfl d_X4_signToken_171 ?_
    exact zg_iretK d_X4_signToken_173 rfl ⟨Nat.le_of_ble_eq_true rfl, Nat.le_of_ble_eq_true rfl⟩ (fun q => q)
  refine zg_if (fun n12 => ?_) (fun n12 => ?_)
  · refine zg_tabE n12 d_X4_signToken_1 (by decide) (by decide) (off := 170) rfl (tgt := 171) (by decide) ?_
    refine zg_bipush 39 rfl d_X4_signToken_171 ?_
    exact zg_iretK d_X4_signToken_173 rfl ⟨Nat.le_of_ble_eq_true rfl, Nat.le_of_ble_eq_true rfl⟩ (fun q => q)
  refine zg_if (fun n13 => ?_) (fun n13 => ?_)
  · refine zg_tabE n13 d_X4_signToken_1 (by decide) (by decide) (off := 170) rfl (tgt := 171) (by decide) ?_
    refine zg_bipush 39 rfl d_X4_signToken_171 ?_
    exact zg_iretK d_X4_signToken_173 rfl ⟨Nat.le_of_ble_eq_true rfl, Nat.le_of_ble_eq_true rfl⟩ (fun q => q)
  refine zg_if (fun n14 => ?_) (fun n14 => ?_)
  · refine zg_tabE n14 d_X4_signToken_1 (by decide) (by decide) (off := 170) rfl (tgt := 171) (by decide) ?_
    refine zg_bipush 39 rfl d_X4_signToken_171 ?_
    exact zg_iretK d_X4_signToken_173 rfl ⟨Nat.le_of_ble_eq_true rfl, Nat.le_of_ble_eq_true rfl⟩ (fun q => q)
  refine zg_if (fun n15 => ?_) (fun n15 => ?_)
  · refine zg_tabE n15 d_X4_signToken_1 (by decide) (by decide) (off := 170) rfl (tgt := 171) (by decide) ?_
    refine zg_bipush 39 rfl d_X4_signToken_171 ?_
    exact zg_iretK d_X4_signToken_173 rfl ⟨Nat.le_of_ble_eq_true rfl, Nat.le_of_ble_eq_true rfl⟩ (fun q => q)
  refine zg_if (fun n16 => ?_) (fun n16 => ?_)
  · refine zg_tabE n16 d_X4_signToken_1 (by decide) (by decide) (off := 170) rfl (tgt := 171) (by decide) ?_
    refine zg_bipush 39 rfl d_X4_signToken_171 ?_
    exact zg_iretK d_X4_signToken_173 rfl ⟨Nat.le_of_ble_eq_true rfl, Nat.le_of_ble_eq_true rfl⟩ (fun q => q)
  refine zg_if (fun n17 => ?_) (fun n17 => ?_)
  · refine zg_tabE n17 d_X4_signToken_1 (by decide) (by decide) (off := 170) rfl (tgt := 171) (by decide) ?_
    refine zg_bipush 39 rfl d_X4_signToken_171 ?_
    exact zg_iretK d_X4_signToken_173 rfl ⟨Nat.le_of_ble_eq_true rfl, Nat.le_of_ble_eq_true rfl⟩ (fun q => q)
  refine zg_if (fun n18 => ?_) (fun n18 => ?_)
  · refine zg_tabE n18 d_X4_signToken_1 (by decide) (by decide) (off := 170) rfl (tgt := 171) (by decide) ?_
    refine zg_bipush 39 rfl d_X4_signToken_171 ?_
    exact zg_iretK d_X4_signToken_173 rfl ⟨Nat.le_of_ble_eq_true rfl, Nat.le_of_ble_eq_true rfl⟩ (fun q => q)
  refine zg_if (fun n19 => ?_) (fun n19 => ?_)
  · refine zg_tabE n19 d_X4_signToken_1 (by decide) (by decide) (off := 170) rfl (tgt := 171) (by decide) ?_
    refine zg_bipush 39 rfl d_X4_signToken_171 ?_
    exact zg_iretK d_X4_signToken_173 rfl ⟨Nat.le_of_ble_eq_true rfl, Nat.le_of_ble_eq_true rfl⟩ (fun q => q)
  refine zg_if (fun n20 => ?_) (fun n20 => ?_)
  · refine zg_tabE n20 d_X4_signToken_1 (by decide) (by decide) (off := 167) rfl (tgt := 168) (by decide) ?_
    refine zg_bipush 35 rfl d_X4_signToken_168 ?_
    exact zg_iretK d_X4_signToken_170 rfl ⟨Nat.le_of_ble_eq_true rfl, Nat.le_of_ble_eq_true rfl⟩ (fun q => q)
  refine zg_if (fun n21 => ?_) (fun n21 => ?_)
  · refine zg_tabE n21 d_X4_signToken_1 (by decide) (by decide) (off := 119) rfl (tgt := 120) (by decide) ?_
    refine zg_iload_n 1 rfl d_X4_signToken_120 ?_
    refine zg_bipush 61 rfl d_X4_signToken_121 ?_
    refine zg_icmp_ne d_X4_signToken_123 ?_ ?_
    · refine zg_bipush 28 rfl d_X4_signToken_126 ?_
      refine zg_goto d_X4_signToken_128 ?_
      exact zg_iretK d_X4_signToken_144 rfl ⟨Nat.le_of_ble_eq_true rfl, Nat.le_of_ble_eq_true rfl⟩ (fun q => q)
    · refine zg_iload_n 1 rfl d_X4_signToken_131 ?_
      refine zg_bipush 62 rfl d_X4_signToken_132 ?_
      refine zg_icmp_ne d_X4_signToken_134 ?_ ?_
      · refine zg_bipush 30 rfl d_X4_signToken_137 ?_
        refine zg_goto d_X4_signToken_139 ?_
        exact zg_iretK d_X4_signToken_144 rfl ⟨Nat.le_of_ble_eq_true rfl, Nat.le_of_ble_eq_true rfl⟩ (fun q => q)
      · refine zg_bipush 27 rfl d_X4_signToken_142 ?_
        exact zg_iretK d_X4_signToken_144 rfl ⟨Nat.le_of_ble_eq_true rfl, Nat.le_of_ble_eq_true rfl⟩ (fun q => q)
  refine zg_if (fun n22 => ?_) (fun n22 => ?_)
  · refine zg_tabE n22 d_X4_signToken_1 (by decide) (by decide) (off := 144) rfl (tgt := 145) (by decide) ?_
    refine zg_bipush 29 rfl d_X4_signToken_145 ?_
    exact zg_iretK d_X4_signToken_147 rfl ⟨Nat.le_of_ble_eq_true rfl, Nat.le_of_ble_eq_true rfl⟩ (fun q => q)
  refine zg_if (fun n23 => ?_) (fun n23 => ?_)
  · refine zg_tabE n23 d_X4_signToken_1 (by decide) (by decide) (off := 147) rfl (tgt := 148) (by decide) ?_
    refine zg_iload_n 1 rfl d_X4_signToken_148 ?_
    refine zg_bipush 61 rfl d_X4_signToken_149 ?_
    refine zg_icmp_ne d_X4_signToken_151 ?_ ?_
    · refine zg_bipush 31 rfl d_X4_signToken_154 ?_
      refine zg_goto d_X4_signToken_156 ?_
      exact zg_iretK d_X4_signToken_161 rfl ⟨Nat.le_of_ble_eq_true rfl, Nat.le_of_ble_eq_true rfl⟩ (fun q => q)
    · refine zg_bipush 32 rfl d_X4_signToken_159 ?_
      exact zg_iretK d_X4_signToken_161 rfl ⟨Nat.le_of_ble_eq_true rfl, Nat.le_of_ble_eq_true rfl⟩ (fun q => q)
  refine zg_tabO d_X4_signToken_1 (by have q0 := lv_neT n1 (a := 40) rfl; have q1 := lv_neT n2 (a := 41) rfl; have q2 := lv_neT n3 (a := 42) rfl; have q3 := lv_neT n4 (a := 43) rfl; have q4 := lv_neT n5 (a := 44) rfl; have q5 := lv_neT n6 (a := 45) rfl; have q6 := lv_neT n7 (a := 46) rfl; have q7 := lv_neT n8 (a := 47) rfl; have q8 := lv_neT n9 (a := 48) rfl; have q9 := lv_neT n10 (a := 49) rfl; have q10 := lv_neT n11 (a := 50) rfl; have q11 := lv_neT n12 (a := 51) rfl; have q12 := lv_neT n13 (a := 52) rfl; have q13 := lv_neT n14 (a := 53) rfl; have q14 := lv_neT n15 (a := 54) rfl; have q15 := lv_neT n16 (a := 55) rfl; have q16 := lv_neT n17 (a := 56) rfl; have q17 := lv_neT n18 (a := 57) rfl; have q18 := lv_neT n19 (a := 58) rfl; have q19 := lv_neT n20 (a := 59) rfl; have q20 := lv_neT n21 (a := 60) rfl; have q21 := lv_neT n22 (a := 61) rfl; have q22 := lv_neT n23 (a := 62) rfl; omega) (tgt := 171) (by decide) ?_
  refine zg_bipush 39 rfl d_X4_signToken_171 ?_
  exact zg_iretK d_X4_signToken_173 rfl ⟨Nat.le_of_ble_eq_true rfl, Nat.le_of_ble_eq_true rfl⟩ (fun q => q)

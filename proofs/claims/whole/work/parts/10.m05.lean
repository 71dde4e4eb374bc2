theorem ml_X1_113 : Cond.methodLink RX1 113 yX5_pushBy ∈ zT := zw_of _ 1131 (by decide +kernel) (by decide +kernel)
theorem cd_X5_pushBy : Cond.code yX5_pushBy cX5_pushBy 4 none ∈ zT := zw_of _ 1134 (by decide +kernel) (by decide +kernel)
theorem cw_X1_113 : zCw RX1 113 yX5_pushBy cX5_pushBy 4 none 2 := ⟨ml_X1_113, ni_X5, cd_X5_pushBy, by decide, by decide, by decide +kernel⟩
theorem wi_X5_pushBy : Cond.instanceMethod yX5_pushBy ∈ zT := zw_of _ 1132 (by decide +kernel) (by decide +kernel)
theorem ws_X5_pushBy : Cond.selects RX5 yX5_pushBy yX5_pushBy ∈ zT := zw_of _ 1133 (by decide +kernel) (by decide +kernel)
theorem ml_X1_117 : Cond.methodLink RX1 117 yX5_rainOfOwn ∈ zT := zw_of _ 1152 (by decide +kernel) (by decide +kernel)
theorem cd_X5_rainOfOwn : Cond.code yX5_rainOfOwn cX5_rainOfOwn 4 (some .int) ∈ zT := zw_of _ 829 (by decide +kernel) (by decide +kernel)
theorem cw_X1_117 : zCw RX1 117 yX5_rainOfOwn cX5_rainOfOwn 4 (some .int) 1 := ⟨ml_X1_117, ni_X5, cd_X5_rainOfOwn, by decide, by decide, by decide +kernel⟩
theorem wi_X5_rainOfOwn : Cond.instanceMethod yX5_rainOfOwn ∈ zT := zw_of _ 827 (by decide +kernel) (by decide +kernel)
theorem ws_X5_rainOfOwn : Cond.selects RX5 yX5_rainOfOwn yX5_rainOfOwn ∈ zT := zw_of _ 828 (by decide +kernel) (by decide +kernel)
theorem fl_X2_25 : Cond.fieldLink RX2 25 (TX2 4).1 (TX2 4).2.1 (TX2 4).2.2.1 ∈ zT := zw_of _ 174 (by decide +kernel) (by decide +kernel)
theorem fl_X2_29 : Cond.fieldLink RX2 29 (TX2 5).1 (TX2 5).2.1 (TX2 5).2.2.1 ∈ zT := zw_of _ 175 (by decide +kernel) (by decide +kernel)
theorem ml_X3_38 : Cond.methodLink RX3 38 yX3_add ∈ zT := zw_of _ 1177 (by decide +kernel) (by decide +kernel)
theorem cd_X3_add : Cond.code yX3_add cX3_add 5 (some .int) ∈ zT := zw_of _ 1168 (by decide +kernel) (by decide +kernel)
theorem cw_X3_38 : zCw RX3 38 yX3_add cX3_add 5 (some .int) 4 := ⟨ml_X3_38, ni_X3, cd_X3_add, by decide, by decide, by decide +kernel⟩
theorem wi_X3_add : Cond.instanceMethod yX3_add ∈ zT := zw_of _ 1166 (by decide +kernel) (by decide +kernel)
theorem ws_X3_add : Cond.selects RX3 yX3_add yX3_add ∈ zT := zw_of _ 1167 (by decide +kernel) (by decide +kernel)
theorem fl_X4_108 : Cond.fieldLink RX4 108 (TX4 6).1 (TX4 6).2.1 (TX4 6).2.2.1 ∈ zT := zw_of _ 347 (by decide +kernel) (by decide +kernel)
theorem fl_X4_56 : Cond.fieldLink RX4 56 (TX4 3).1 (TX4 3).2.1 (TX4 3).2.2.1 ∈ zT := zw_of _ 344 (by decide +kernel) (by decide +kernel)
theorem fl_X4_53 : Cond.fieldLink RX4 53 (TX4 2).1 (TX4 2).2.1 (TX4 2).2.2.1 ∈ zT := zw_of _ 343 (by decide +kernel) (by decide +kernel)
theorem fl_X4_15 : Cond.fieldLink RX4 15 (TX4 1).1 (TX4 1).2.1 (TX4 1).2.2.1 ∈ zT := zw_of _ 342 (by decide +kernel) (by decide +kernel)
theorem kc_X4_111 : Cond.constant RX4 111 1000000 ∈ zT := zw_of _ 651 (by decide +kernel) (by decide +kernel)
theorem ml_X4_47 : Cond.methodLink RX4 47 Lib.Math.min.name ∈ zT := zw_of _ 626 (by decide +kernel) (by decide +kernel)
theorem fl_X4_105 : Cond.fieldLink RX4 105 (TX4 7).1 (TX4 7).2.1 (TX4 7).2.2.1 ∈ zT := zw_of _ 348 (by decide +kernel) (by decide +kernel)
theorem fl_X4_9 : Cond.fieldLink RX4 9 (TX4 0).1 (TX4 0).2.1 (TX4 0).2.2.1 ∈ zT := zw_of _ 341 (by decide +kernel) (by decide +kernel)
theorem fl_X4_29 : Cond.fieldLink RX4 29 (TX4 14).1 (TX4 14).2.1 (TX4 14).2.2.1 ∈ zT := zw_of _ 355 (by decide +kernel) (by decide +kernel)
theorem fl_X4_75 : Cond.fieldLink RX4 75 (TX4 5).1 (TX4 5).2.1 (TX4 5).2.2.1 ∈ zT := zw_of _ 346 (by decide +kernel) (by decide +kernel)
theorem ml_X4_85 : Cond.methodLink RX4 85 yX4_isLetter ∈ zT := zw_of _ 633 (by decide +kernel) (by decide +kernel)
theorem ni_X4 : Cond.initialized RX4 ∈ zT := zw_of _ 124 (by decide +kernel) (by decide +kernel)
theorem cd_X4_isLetter : Cond.code yX4_isLetter cX4_isLetter 1 (some .boolean) ∈ zT := zw_of _ 635 (by decide +kernel) (by decide +kernel)
theorem cw_X4_85 : zCw RX4 85 yX4_isLetter cX4_isLetter 1 (some .boolean) 1 := ⟨ml_X4_85, ni_X4, cd_X4_isLetter, by decide, by decide, by decide +kernel⟩
theorem wt_X4_isLetter : Cond.static yX4_isLetter ∈ zT := zw_of _ 634 (by decide +kernel) (by decide +kernel)
theorem ml_X4_96 : Cond.methodLink RX4 96 yX4_isDigit ∈ zT := zw_of _ 644 (by decide +kernel) (by decide +kernel)
theorem cd_X4_isDigit : Cond.code yX4_isDigit cX4_isDigit 1 (some .boolean) ∈ zT := zw_of _ 646 (by decide +kernel) (by decide +kernel)
theorem cw_X4_96 : zCw RX4 96 yX4_isDigit cX4_isDigit 1 (some .boolean) 1 := ⟨ml_X4_96, ni_X4, cd_X4_isDigit, by decide, by decide, by decide +kernel⟩
theorem wt_X4_isDigit : Cond.static yX4_isDigit ∈ zT := zw_of _ 645 (by decide +kernel) (by decide +kernel)
theorem ml_X4_102 : Cond.methodLink RX4 102 yX4_signToken ∈ zT := zw_of _ 652 (by decide +kernel) (by decide +kernel)
theorem cd_X4_signToken : Cond.code yX4_signToken cX4_signToken 2 (some .int) ∈ zT := zw_of _ 654 (by decide +kernel) (by decide +kernel)
theorem cw_X4_102 : zCw RX4 102 yX4_signToken cX4_signToken 2 (some .int) 2 := ⟨ml_X4_102, ni_X4, cd_X4_signToken, by decide, by decide, by decide +kernel⟩
theorem wt_X4_signToken : Cond.static yX4_signToken ∈ zT := zw_of _ 653 (by decide +kernel) (by decide +kernel)
theorem fl_X4_65 : Cond.fieldLink RX4 65 (TX4 4).1 (TX4 4).2.1 (TX4 4).2.2.1 ∈ zT := zw_of _ 345 (by decide +kernel) (by decide +kernel)
theorem ml_X4_99 : Cond.methodLink RX4 99 yX4_takeNumber ∈ zT := zw_of _ 647 (by decide +kernel) (by decide +kernel)
theorem cd_X4_takeNumber : Cond.code yX4_takeNumber cX4_takeNumber 1 none ∈ zT := zw_of _ 650 (by decide +kernel) (by decide +kernel)
theorem cw_X4_99 : zCw RX4 99 yX4_takeNumber cX4_takeNumber 1 none 0 := ⟨ml_X4_99, ni_X4, cd_X4_takeNumber, by decide, by decide, by decide +kernel⟩
theorem wi_X4_takeNumber : Cond.instanceMethod yX4_takeNumber ∈ zT := zw_of _ 649 (by decide +kernel) (by decide +kernel)
theorem ws_X4_takeNumber : Cond.selects RX4 yX4_takeNumber yX4_takeNumber ∈ zT := zw_of _ 4 (by decide +kernel) (by decide +kernel)
theorem ml_X4_89 : Cond.methodLink RX4 89 yX4_takeWord ∈ zT := zw_of _ 636 (by decide +kernel) (by decide +kernel)
theorem cd_X4_takeWord : Cond.code yX4_takeWord cX4_takeWord 2 none ∈ zT := zw_of _ 639 (by decide +kernel) (by decide +kernel)
theorem cw_X4_89 : zCw RX4 89 yX4_takeWord cX4_takeWord 2 none 0 := ⟨ml_X4_89, ni_X4, cd_X4_takeWord, by decide, by decide, by decide +kernel⟩
theorem wi_X4_takeWord : Cond.instanceMethod yX4_takeWord ∈ zT := zw_of _ 638 (by decide +kernel) (by decide +kernel)
theorem ws_X4_takeWord : Cond.selects RX4 yX4_takeWord yX4_takeWord ∈ zT := zw_of _ 2 (by decide +kernel) (by decide +kernel)
theorem ml_X4_92 : Cond.methodLink RX4 92 yX4_wordToken ∈ zT := zw_of _ 640 (by decide +kernel) (by decide +kernel)
theorem cd_X4_wordToken : Cond.code yX4_wordToken cX4_wordToken 2 (some .int) ∈ zT := zw_of _ 643 (by decide +kernel) (by decide +kernel)
theorem cw_X4_92 : zCw RX4 92 yX4_wordToken cX4_wordToken 2 (some .int) 0 := ⟨ml_X4_92, ni_X4, cd_X4_wordToken, by decide, by decide, by decide +kernel⟩
theorem wi_X4_wordToken : Cond.instanceMethod yX4_wordToken ∈ zT := zw_of _ 642 (by decide +kernel) (by decide +kernel)
theorem ws_X4_wordToken : Cond.selects RX4 yX4_wordToken yX4_wordToken ∈ zT := zw_of _ 3 (by decide +kernel) (by decide +kernel)
abbrev M_X5_rainOfOwn : zMt := (RX5, cX5_rainOfOwn, 4, 1, 60, (some .int), "rainOfOwn", 0, 0)
theorem d_X5_rainOfOwn_0 : zDc M_X5_rainOfOwn 0 (.iconst 0) 1 1 := ⟨by decide +kernel, rfl⟩
theorem d_X5_rainOfOwn_1 : zDc M_X5_rainOfOwn 1 (.istore_n 2) 1 2 := ⟨by decide +kernel, rfl⟩
theorem d_X5_rainOfOwn_2 : zDc M_X5_rainOfOwn 2 (.iconst 0) 1 3 := ⟨by decide +kernel, rfl⟩
theorem d_X5_rainOfOwn_3 : zDc M_X5_rainOfOwn 3 (.istore_n 3) 1 4 := ⟨by decide +kernel, rfl⟩
theorem d_X5_rainOfOwn_4 : zDc M_X5_rainOfOwn 4 (.iload_n 3) 1 5 := ⟨by decide +kernel, rfl⟩
theorem d_X5_rainOfOwn_5 : zDc M_X5_rainOfOwn 5 (.aload_n 0) 1 6 := ⟨by decide +kernel, rfl⟩
theorem d_X5_rainOfOwn_6 : zDc M_X5_rainOfOwn 6 (.getfield 50) 3 9 := ⟨by decide +kernel, rfl⟩
theorem d_X5_rainOfOwn_9 : zDc M_X5_rainOfOwn 9 (.getfield 117) 3 12 := ⟨by decide +kernel, rfl⟩
theorem d_X5_rainOfOwn_12 : zDj M_X5_rainOfOwn 12 (.if_icmp .ge 20) 20 15 32 := ⟨by decide +kernel, rfl, by decide⟩
theorem d_X5_rainOfOwn_15 : zDc M_X5_rainOfOwn 15 (.iload_n 2) 1 16 := ⟨by decide +kernel, rfl⟩
theorem d_X5_rainOfOwn_16 : zDc M_X5_rainOfOwn 16 (.aload_n 0) 1 17 := ⟨by decide +kernel, rfl⟩
theorem d_X5_rainOfOwn_17 : zDc M_X5_rainOfOwn 17 (.getfield 44) 3 20 := ⟨by decide +kernel, rfl⟩
theorem d_X5_rainOfOwn_20 : zDc M_X5_rainOfOwn 20 (.iload_n 1) 1 21 := ⟨by decide +kernel, rfl⟩
theorem d_X5_rainOfOwn_21 : zDc M_X5_rainOfOwn 21 (.aaload) 1 22 := ⟨by decide +kernel, rfl⟩
theorem d_X5_rainOfOwn_22 : zDc M_X5_rainOfOwn 22 (.iload_n 3) 1 23 := ⟨by decide +kernel, rfl⟩
theorem d_X5_rainOfOwn_23 : zDc M_X5_rainOfOwn 23 (.iaload) 1 24 := ⟨by decide +kernel, rfl⟩
theorem d_X5_rainOfOwn_24 : zDc M_X5_rainOfOwn 24 (.iadd) 1 25 := ⟨by decide +kernel, rfl⟩
theorem d_X5_rainOfOwn_25 : zDc M_X5_rainOfOwn 25 (.istore_n 2) 1 26 := ⟨by decide +kernel, rfl⟩
theorem d_X5_rainOfOwn_26 : zDc M_X5_rainOfOwn 26 (.iinc 3 1) 3 29 := ⟨by decide +kernel, rfl⟩
theorem d_X5_rainOfOwn_29 : zDj M_X5_rainOfOwn 29 (.goto (-25)) (-25) 32 4 := ⟨by decide +kernel, rfl, by decide⟩
theorem d_X5_rainOfOwn_32 : zDc M_X5_rainOfOwn 32 (.iload_n 2) 1 33 := ⟨by decide +kernel, rfl⟩
theorem d_X5_rainOfOwn_33 : zDc M_X5_rainOfOwn 33 (.ireturn) 1 34 := ⟨by decide +kernel, rfl⟩
def f_X5_rainOfOwn (a0 : Nat) (a1 : Int32) (h0 : zHp) : Option (Int32 × zHp) :=
  zbd (
  zlp (σ := (Int32 × Int32)) (β := (Int32 × Int32)) zLF (fun s1 h2 =>
  zob (zgR h2 a0 5 14) (fun v5 =>
  zob (zgI h2 v5 6 13) (fun v6 =>
  if v6 ≤ s1.2 then
  some ((.inr (s1.1, s1.2)), h2)
  else
  zob (zgR h2 a0 5 10) (fun v7 =>
  zob (zaA 5 h2 v7 a1) (fun v8 =>
  zob (zaI 0 h2 v8 s1.2) (fun v9 =>
  some ((.inl ((s1.1 + v9), (s1.2 + 1))), h2))))))) (0, 0) h0) (fun e3 h4 =>
  some (e3.1, h4))
set_option maxRecDepth 100000 in
set_option maxHeartbeats 4000000 in
theorem t_X5_rainOfOwn (a0 : Nat) (a1 : Int32) (h0 : zHp) : ∀ (r : Int32) (h' : zHp), f_X5_rainOfOwn a0 a1 h0 = some (r, h') → zCt yX5_rainOfOwn (.code yX5_rainOfOwn cX5_rainOfOwn 4 (some .int)) 1 60 0 0 [.ref a0, .int a1] h0 (some (.int r)) h' := by
  refine zct_of M_X5_rainOfOwn yX5_rainOfOwn (by decide) rfl rfl [.ref a0, .int a1] h0 (Nat.le_of_ble_eq_true rfl) (fun r => some (.int r)) (fun X => ?_)
  show zG X M_X5_rainOfOwn (0, 0) 0 [(0, .ref a0), (1, .int a1)] [] h0 (f_X5_rainOfOwn a0 a1 h0) (fun (r : Int32) h' => zKe X (some (.int r)) h')
  unfold f_X5_rainOfOwn
  refine zg_iconst 0 rfl d_X5_rainOfOwn_0 ?_
  refine zg_istore_n [(2, .int 0), (0, .ref a0), (1, .int a1)] d_X5_rainOfOwn_1 rfl (by decide) rfl ?_
  refine zg_iconst 0 rfl d_X5_rainOfOwn_2 ?_
  refine zg_istore_n [(3, .int 0), (2, .int 0), (0, .ref a0), (1, .int a1)] d_X5_rainOfOwn_3 rfl (by decide) rfl ?_
  refine zg_bd (E := 32) (el := (fun (e3 : (Int32 × Int32)) => [(0, .ref a0), (1, .int a1), (2, .int e3.1), (3, .int e3.2)])) (es := fun _ => []) (zg_sub [2, 3, 1, 0] rfl (zg_lp (el := (fun (s1 : (Int32 × Int32)) => [(0, .ref a0), (1, .int a1), (2, .int s1.1), (3, .int s1.2)])) (fun s1 h2 => ?_) (0, 0) h0)) (fun e3 h4 => ?_)
  · refine zg_iload_n 3 rfl d_X5_rainOfOwn_4 ?_
    refine zg_aload_n 0 rfl d_X5_rainOfOwn_5 ?_
    refine zg_getR d_X5_rainOfOwn_6 zc_5 (by decide) fl_X5_50 (fun v5 => ?_)
    refine zg_getI d_X5_rainOfOwn_9 zc_6 (by decide) fl_X5_117 (fun v6 => ?_)
    refine zg_icmp_ge d_X5_rainOfOwn_12 ?_ ?_
    · exact zg_finK (E := 0) [0, 1, 2, 3] rfl rfl (fun q => q)
    · refine zg_iload_n 2 rfl d_X5_rainOfOwn_15 ?_
      refine zg_aload_n 0 rfl d_X5_rainOfOwn_16 ?_
      refine zg_getR d_X5_rainOfOwn_17 zc_5 (by decide) fl_X5_44 (fun v7 => ?_)
      refine zg_iload_n 1 rfl d_X5_rainOfOwn_20 ?_
      refine zg_ald5 d_X5_rainOfOwn_21 (fun v8 => ?_)
      refine zg_iload_n 3 rfl d_X5_rainOfOwn_22 ?_
      refine zg_ald0 d_X5_rainOfOwn_23 (fun v9 => ?_)
      refine zg_iadd d_X5_rainOfOwn_24 ?_
      refine zg_istore_n [(2, .int (s1.1 + v9)), (0, .ref a0), (1, .int a1), (3, .int s1.2)] d_X5_rainOfOwn_25 rfl (by decide) rfl ?_
      refine zg_iinc 3 (s1.2 + 1) [(3, .int (s1.2 + 1)), (2, .int (s1.1 + v9)), (0, .ref a0), (1, .int a1)] d_X5_rainOfOwn_26 rfl rfl (by decide) rfl ?_
      refine zg_goto d_X5_rainOfOwn_29 ?_
      exact zg_finK (E := 0) [2, 3, 1, 0] rfl rfl (fun q => q)
  · refine zg_iload_n 2 rfl d_X5_rainOfOwn_32 ?_
    exact zg_iretK d_X5_rainOfOwn_33 rfl ⟨Nat.le_of_ble_eq_true rfl, Nat.le_of_ble_eq_true rfl⟩ (fun q => q)
abbrev M_X1_tryBoth : zMt := (RX1, cX1_tryBoth, 5, 6, 179, none, "tryBoth", 0, 0)
theorem d_X1_tryBoth_0 : zDc M_X1_tryBoth 0 (.iconst 0) 1 1 := ⟨by decide +kernel, rfl⟩
theorem d_X1_tryBoth_1 : zDc M_X1_tryBoth 1 (.istore 4) 2 3 := ⟨by decide +kernel, rfl⟩
theorem d_X1_tryBoth_3 : zDc M_X1_tryBoth 3 (.iload 4) 2 5 := ⟨by decide +kernel, rfl⟩
theorem d_X1_tryBoth_5 : zDc M_X1_tryBoth 5 (.bipush 25) 2 7 := ⟨by decide +kernel, rfl⟩
theorem d_X1_tryBoth_7 : zDj M_X1_tryBoth 7 (.if_icmp .ge 97) 97 10 104 := ⟨by decide +kernel, rfl, by decide⟩
theorem d_X1_tryBoth_10 : zDc M_X1_tryBoth 10 (.aload_n 0) 1 11 := ⟨by decide +kernel, rfl⟩
theorem d_X1_tryBoth_11 : zDc M_X1_tryBoth 11 (.getfield 36) 3 14 := ⟨by decide +kernel, rfl⟩
theorem d_X1_tryBoth_14 : zDc M_X1_tryBoth 14 (.aload_n 1) 1 15 := ⟨by decide +kernel, rfl⟩
theorem d_X1_tryBoth_15 : zDc M_X1_tryBoth 15 (.invokevirtual 40) 3 18 := ⟨by decide +kernel, rfl⟩
theorem d_X1_tryBoth_18 : zDc M_X1_tryBoth 18 (.aload_n 0) 1 19 := ⟨by decide +kernel, rfl⟩
theorem d_X1_tryBoth_19 : zDc M_X1_tryBoth 19 (.getfield 36) 3 22 := ⟨by decide +kernel, rfl⟩
theorem d_X1_tryBoth_22 : zDc M_X1_tryBoth 22 (.iload_n 2) 1 23 := ⟨by decide +kernel, rfl⟩
theorem d_X1_tryBoth_23 : zDc M_X1_tryBoth 23 (.iload 4) 2 25 := ⟨by decide +kernel, rfl⟩
theorem d_X1_tryBoth_25 : zDc M_X1_tryBoth 25 (.iconst 5) 1 26 := ⟨by decide +kernel, rfl⟩
theorem d_X1_tryBoth_26 : zDc M_X1_tryBoth 26 (.idiv) 1 27 := ⟨by decide +kernel, rfl⟩
theorem d_X1_tryBoth_27 : zDc M_X1_tryBoth 27 (.invokevirtual 113) 3 30 := ⟨by decide +kernel, rfl⟩
theorem d_X1_tryBoth_30 : zDc M_X1_tryBoth 30 (.aload_n 0) 1 31 := ⟨by decide +kernel, rfl⟩
theorem d_X1_tryBoth_31 : zDc M_X1_tryBoth 31 (.getfield 36) 3 34 := ⟨by decide +kernel, rfl⟩
theorem d_X1_tryBoth_34 : zDc M_X1_tryBoth 34 (.iload_n 3) 1 35 := ⟨by decide +kernel, rfl⟩
theorem d_X1_tryBoth_35 : zDc M_X1_tryBoth 35 (.iload 4) 2 37 := ⟨by decide +kernel, rfl⟩
theorem d_X1_tryBoth_37 : zDc M_X1_tryBoth 37 (.iconst 5) 1 38 := ⟨by decide +kernel, rfl⟩
theorem d_X1_tryBoth_38 : zDc M_X1_tryBoth 38 (.irem) 1 39 := ⟨by decide +kernel, rfl⟩
theorem d_X1_tryBoth_39 : zDc M_X1_tryBoth 39 (.invokevirtual 113) 3 42 := ⟨by decide +kernel, rfl⟩
theorem d_X1_tryBoth_42 : zDc M_X1_tryBoth 42 (.aload_n 0) 1 43 := ⟨by decide +kernel, rfl⟩
theorem d_X1_tryBoth_43 : zDc M_X1_tryBoth 43 (.getfield 36) 3 46 := ⟨by decide +kernel, rfl⟩
theorem d_X1_tryBoth_46 : zDc M_X1_tryBoth 46 (.aload_n 0) 1 47 := ⟨by decide +kernel, rfl⟩
theorem d_X1_tryBoth_47 : zDc M_X1_tryBoth 47 (.getfield 36) 3 50 := ⟨by decide +kernel, rfl⟩
theorem d_X1_tryBoth_50 : zDc M_X1_tryBoth 50 (.invokevirtual 51) 3 53 := ⟨by decide +kernel, rfl⟩
theorem d_X1_tryBoth_53 : zDc M_X1_tryBoth 53 (.invokevirtual 55) 3 56 := ⟨by decide +kernel, rfl⟩
theorem d_X1_tryBoth_56 : zDc M_X1_tryBoth 56 (.aload_n 0) 1 57 := ⟨by decide +kernel, rfl⟩
theorem d_X1_tryBoth_57 : zDc M_X1_tryBoth 57 (.getfield 27) 3 60 := ⟨by decide +kernel, rfl⟩
theorem d_X1_tryBoth_60 : zDc M_X1_tryBoth 60 (.iload 4) 2 62 := ⟨by decide +kernel, rfl⟩
theorem d_X1_tryBoth_62 : zDc M_X1_tryBoth 62 (.aload_n 0) 1 63 := ⟨by decide +kernel, rfl⟩
theorem d_X1_tryBoth_63 : zDc M_X1_tryBoth 63 (.getfield 36) 3 66 := ⟨by decide +kernel, rfl⟩
theorem d_X1_tryBoth_66 : zDc M_X1_tryBoth 66 (.iload_n 2) 1 67 := ⟨by decide +kernel, rfl⟩
theorem d_X1_tryBoth_67 : zDc M_X1_tryBoth 67 (.invokevirtual 117) 3 70 := ⟨by decide +kernel, rfl⟩
theorem d_X1_tryBoth_70 : zDc M_X1_tryBoth 70 (.aload_n 1) 1 71 := ⟨by decide +kernel, rfl⟩
theorem d_X1_tryBoth_71 : zDc M_X1_tryBoth 71 (.iload_n 2) 1 72 := ⟨by decide +kernel, rfl⟩
theorem d_X1_tryBoth_72 : zDc M_X1_tryBoth 72 (.invokevirtual 117) 3 75 := ⟨by decide +kernel, rfl⟩
theorem d_X1_tryBoth_75 : zDc M_X1_tryBoth 75 (.isub) 1 76 := ⟨by decide +kernel, rfl⟩
theorem d_X1_tryBoth_76 : zDc M_X1_tryBoth 76 (.iastore) 1 77 := ⟨by decide +kernel, rfl⟩
theorem d_X1_tryBoth_77 : zDc M_X1_tryBoth 77 (.aload_n 0) 1 78 := ⟨by decide +kernel, rfl⟩
theorem d_X1_tryBoth_78 : zDc M_X1_tryBoth 78 (.getfield 30) 3 81 := ⟨by decide +kernel, rfl⟩
theorem d_X1_tryBoth_81 : zDc M_X1_tryBoth 81 (.iload 4) 2 83 := ⟨by decide +kernel, rfl⟩
theorem d_X1_tryBoth_83 : zDc M_X1_tryBoth 83 (.aload_n 0) 1 84 := ⟨by decide +kernel, rfl⟩
theorem d_X1_tryBoth_84 : zDc M_X1_tryBoth 84 (.getfield 36) 3 87 := ⟨by decide +kernel, rfl⟩
theorem d_X1_tryBoth_87 : zDc M_X1_tryBoth 87 (.iload_n 3) 1 88 := ⟨by decide +kernel, rfl⟩
theorem d_X1_tryBoth_88 : zDc M_X1_tryBoth 88 (.invokevirtual 117) 3 91 := ⟨by decide +kernel, rfl⟩
theorem d_X1_tryBoth_91 : zDc M_X1_tryBoth 91 (.aload_n 1) 1 92 := ⟨by decide +kernel, rfl⟩
theorem d_X1_tryBoth_92 : zDc M_X1_tryBoth 92 (.iload_n 3) 1 93 := ⟨by decide +kernel, rfl⟩
theorem d_X1_tryBoth_93 : zDc M_X1_tryBoth 93 (.invokevirtual 117) 3 96 := ⟨by decide +kernel, rfl⟩
theorem d_X1_tryBoth_96 : zDc M_X1_tryBoth 96 (.isub) 1 97 := ⟨by decide +kernel, rfl⟩
theorem d_X1_tryBoth_97 : zDc M_X1_tryBoth 97 (.iastore) 1 98 := ⟨by decide +kernel, rfl⟩
theorem d_X1_tryBoth_98 : zDc M_X1_tryBoth 98 (.iinc 4 1) 3 101 := ⟨by decide +kernel, rfl⟩
theorem d_X1_tryBoth_101 : zDj M_X1_tryBoth 101 (.goto (-98)) (-98) 104 3 := ⟨by decide +kernel, rfl, by decide⟩
theorem d_X1_tryBoth_104 : zDc M_X1_tryBoth 104 (.return_) 1 105 := ⟨by decide +kernel, rfl⟩
def f_X1_tryBoth (a0 : Nat) (a1 : Nat) (a2 : Int32) (a3 : Int32) (h0 : zHp) : Option (Unit × zHp) :=
  zbd (
  zlp (σ := Int32) (β := Int32) zLF (fun s1 h2 =>
  if 25 ≤ s1 then
  some ((.inr s1), h2)
  else
  zob (zgR h2 a0 1 1) (fun v5 =>
  zbd (zcv 5 v5 h2 (f_X5_copyFrom v5 a1 h2)) (fun v7 h6 =>
  zob (zgR h6 a0 1 1) (fun v8 =>
  zbd (zcv 5 v8 h6 (f_X5_pushBy v8 a2 (s1 / 5) h6)) (fun v10 h9 =>
  zob (zgR h9 a0 1 1) (fun v11 =>
  zbd (zcv 5 v11 h9 (f_X5_pushBy v11 a3 (zrm s1 5) h9)) (fun v13 h12 =>
  zob (zgR h12 a0 1 1) (fun v14 =>
  zob (zgR h12 a0 1 1) (fun v15 =>
  zbd (zcv 5 v15 h12 (f_X5_windNow v15 h12)) (fun v17 h16 =>
  zbd (zcv 5 v14 h16 (f_X5_passHour v14 v17 h16)) (fun v19 h18 =>
  zob (zgR h18 a0 1 5) (fun v20 =>
  zob (zgR h18 a0 1 1) (fun v21 =>
  zbd (zcv 5 v21 h18 (f_X5_rainOfOwn v21 a2 h18)) (fun v23 h22 =>
  zbd (zcv 5 a1 h22 (f_X5_rainOfOwn a1 a2 h22)) (fun v25 h24 =>
  zob (zsI 0 h24 v20 s1 (v23 - v25)) (fun h26 =>
  zob (zgR h26 a0 1 6) (fun v27 =>
  zob (zgR h26 a0 1 1) (fun v28 =>
  zbd (zcv 5 v28 h26 (f_X5_rainOfOwn v28 a3 h26)) (fun v30 h29 =>
  zbd (zcv 5 a1 h29 (f_X5_rainOfOwn a1 a3 h29)) (fun v32 h31 =>
  zob (zsI 0 h31 v27 s1 (v30 - v32)) (fun h33 =>
  some ((.inl (s1 + 1)), h33)))))))))))))))))))))) 0 h0) (fun e3 h4 =>
  some ((), h4))
set_option maxRecDepth 100000 in
set_option maxHeartbeats 4000000 in
theorem t_X1_tryBoth (a0 : Nat) (a1 : Nat) (a2 : Int32) (a3 : Int32) (h0 : zHp) : ∀ (r : Unit) (h' : zHp), f_X1_tryBoth a0 a1 a2 a3 h0 = some (r, h') → zCt yX1_tryBoth (.code yX1_tryBoth cX1_tryBoth 5 none) 6 179 0 0 [.ref a0, .ref a1, .int a2, .int a3] h0 (none) h' := by
  refine zct_of M_X1_tryBoth yX1_tryBoth (by decide) rfl rfl [.ref a0, .ref a1, .int a2, .int a3] h0 (Nat.le_of_ble_eq_true rfl) (fun _ => none) (fun X => ?_)
  show zG X M_X1_tryBoth (0, 0) 0 [(0, .ref a0), (1, .ref a1), (2, .int a2), (3, .int a3)] [] h0 (f_X1_tryBoth a0 a1 a2 a3 h0) (fun (_ : Unit) h' => zKe X (none) h')
  unfold f_X1_tryBoth
  refine zg_iconst 0 rfl d_X1_tryBoth_0 ?_
  refine zg_istore [(4, .int 0), (0, .ref a0), (1, .ref a1), (2, .int a2), (3, .int a3)] d_X1_tryBoth_1 (by decide) rfl ?_
  refine zg_bd (E := 104) (el := (fun (e3 : Int32) => [(0, .ref a0), (1, .ref a1), (2, .int a2), (3, .int a3), (4, .int e3)])) (es := fun _ => []) (zg_sub [1, 2, 3, 4, 0] rfl (zg_lp (el := (fun (s1 : Int32) => [(0, .ref a0), (1, .ref a1), (2, .int a2), (3, .int a3), (4, .int s1)])) (fun s1 h2 => ?_) 0 h0)) (fun e3 h4 => ?_)
  · refine zg_iload 4 rfl d_X1_tryBoth_3 ?_
    refine zg_bipush 25 rfl d_X1_tryBoth_5 ?_
    refine zg_icmp_ge d_X1_tryBoth_7 ?_ ?_
    · exact zg_finK (E := 0) [0, 1, 2, 3, 4] rfl rfl (fun q => q)
    · refine zg_aload_n 0 rfl d_X1_tryBoth_10 ?_
      refine zg_getR d_X1_tryBoth_11 zc_1 (by decide) fl_X1_36 (fun v5 => ?_)
      refine zg_aload_n 1 rfl d_X1_tryBoth_14 ?_
      refine zg_cVv (b := v5) (As := [.ref a1]) (rest := []) (0, 0) d_X1_tryBoth_15 zc_5 rfl cw_X1_40 wi_X5_copyFrom ws_X5_copyFrom rfl rfl (Nat.le_of_ble_eq_true rfl) (by decide) (by decide) ⟨by decide, by decide⟩ rfl (t_X5_copyFrom v5 a1 h2) (fun v7 h6 => ?_)
      refine zg_aload_n 0 rfl d_X1_tryBoth_18 ?_
      refine zg_getR d_X1_tryBoth_19 zc_1 (by decide) fl_X1_36 (fun v8 => ?_)
      refine zg_iload_n 2 rfl d_X1_tryBoth_22 ?_
      refine zg_iload 4 rfl d_X1_tryBoth_23 ?_
      refine zg_iconst 5 rfl d_X1_tryBoth_25 ?_
      refine zg_idiv (by decide) d_X1_tryBoth_26 ?_
      refine zg_cVv (b := v8) (As := [.int a2, .int (s1 / 5)]) (rest := []) (0, 0) d_X1_tryBoth_27 zc_5 rfl cw_X1_113 wi_X5_pushBy ws_X5_pushBy rfl rfl (Nat.le_of_ble_eq_true rfl) (by decide) (by decide) ⟨by decide, by decide⟩ rfl (t_X5_pushBy v8 a2 (s1 / 5) h6) (fun v10 h9 => ?_)
      refine zg_aload_n 0 rfl d_X1_tryBoth_30 ?_
      refine zg_getR d_X1_tryBoth_31 zc_1 (by decide) fl_X1_36 (fun v11 => ?_)
      refine zg_iload_n 3 rfl d_X1_tryBoth_34 ?_
      refine zg_iload 4 rfl d_X1_tryBoth_35 ?_
      refine zg_iconst 5 rfl d_X1_tryBoth_37 ?_
      refine zg_irem (by decide) d_X1_tryBoth_38 ?_
      refine zg_cVv (b := v11) (As := [.int a3, .int (zrm s1 5)]) (rest := []) (0, 0) d_X1_tryBoth_39 zc_5 rfl cw_X1_113 wi_X5_pushBy ws_X5_pushBy rfl rfl (Nat.le_of_ble_eq_true rfl) (by decide) (by decide) ⟨by decide, by decide⟩ rfl (t_X5_pushBy v11 a3 (zrm s1 5) h9) (fun v13 h12 => ?_)
      refine zg_aload_n 0 rfl d_X1_tryBoth_42 ?_
      refine zg_getR d_X1_tryBoth_43 zc_1 (by decide) fl_X1_36 (fun v14 => ?_)
      refine zg_aload_n 0 rfl d_X1_tryBoth_46 ?_
      refine zg_getR d_X1_tryBoth_47 zc_1 (by decide) fl_X1_36 (fun v15 => ?_)
      refine zg_cVi (b := v15) (As := []) (rest := [.ref v14]) (0, 0) d_X1_tryBoth_50 zc_5 rfl cw_X1_51 wi_X5_windNow ws_X5_windNow rfl rfl (Nat.le_of_ble_eq_true rfl) (by decide) (by decide) ⟨by decide, by decide⟩ rfl (t_X5_windNow v15 h12) (fun v17 h16 => ?_)
      refine zg_cVv (b := v14) (As := [.int v17]) (rest := []) (0, 0) d_X1_tryBoth_53 zc_5 rfl cw_X1_55 wi_X5_passHour ws_X5_passHour rfl rfl (Nat.le_of_ble_eq_true rfl) (by decide) (by decide) ⟨by decide, by decide⟩ rfl (t_X5_passHour v14 v17 h16) (fun v19 h18 => ?_)
      refine zg_aload_n 0 rfl d_X1_tryBoth_56 ?_
      refine zg_getR d_X1_tryBoth_57 zc_1 (by decide) fl_X1_27 (fun v20 => ?_)
      refine zg_iload 4 rfl d_X1_tryBoth_60 ?_
      refine zg_aload_n 0 rfl d_X1_tryBoth_62 ?_
      refine zg_getR d_X1_tryBoth_63 zc_1 (by decide) fl_X1_36 (fun v21 => ?_)
      refine zg_iload_n 2 rfl d_X1_tryBoth_66 ?_
      refine zg_cVi (b := v21) (As := [.int a2]) (rest := [.int s1, .ref v20]) (0, 0) d_X1_tryBoth_67 zc_5 rfl cw_X1_117 wi_X5_rainOfOwn ws_X5_rainOfOwn rfl rfl (Nat.le_of_ble_eq_true rfl) (by decide) (by decide) ⟨by decide, by decide⟩ rfl (t_X5_rainOfOwn v21 a2 h18) (fun v23 h22 => ?_)
      refine zg_aload_n 1 rfl d_X1_tryBoth_70 ?_
      refine zg_iload_n 2 rfl d_X1_tryBoth_71 ?_
      refine zg_cVi (b := a1) (As := [.int a2]) (rest := [.int v23, .int s1, .ref v20]) (0, 0) d_X1_tryBoth_72 zc_5 rfl cw_X1_117 wi_X5_rainOfOwn ws_X5_rainOfOwn rfl rfl (Nat.le_of_ble_eq_true rfl) (by decide) (by decide) ⟨by decide, by decide⟩ rfl (t_X5_rainOfOwn a1 a2 h22) (fun v25 h24 => ?_)
      refine zg_isub d_X1_tryBoth_75 ?_
      refine zg_ast0 d_X1_tryBoth_76 (fun h26 => ?_)
      refine zg_aload_n 0 rfl d_X1_tryBoth_77 ?_
      refine zg_getR d_X1_tryBoth_78 zc_1 (by decide) fl_X1_30 (fun v27 => ?_)
      refine zg_iload 4 rfl d_X1_tryBoth_81 ?_
      refine zg_aload_n 0 rfl d_X1_tryBoth_83 ?_
      refine zg_getR d_X1_tryBoth_84 zc_1 (by decide) fl_X1_36 (fun v28 => ?_)
      refine zg_iload_n 3 rfl d_X1_tryBoth_87 ?_
      refine zg_cVi (b := v28) (As := [.int a3]) (rest := [.int s1, .ref v27]) (0, 0) d_X1_tryBoth_88 zc_5 rfl cw_X1_117 wi_X5_rainOfOwn ws_X5_rainOfOwn rfl rfl (Nat.le_of_ble_eq_true rfl) (by decide) (by decide) ⟨by decide, by decide⟩ rfl (t_X5_rainOfOwn v28 a3 h26) (fun v30 h29 => ?_)
      refine zg_aload_n 1 rfl d_X1_tryBoth_91 ?_
      refine zg_iload_n 3 rfl d_X1_tryBoth_92 ?_
      refine zg_cVi (b := a1) (As := [.int a3]) (rest := [.int v30, .int s1, .ref v27]) (0, 0) d_X1_tryBoth_93 zc_5 rfl cw_X1_117 wi_X5_rainOfOwn ws_X5_rainOfOwn rfl rfl (Nat.le_of_ble_eq_true rfl) (by decide) (by decide) ⟨by decide, by decide⟩ rfl (t_X5_rainOfOwn a1 a3 h29) (fun v32 h31 => ?_)
      refine zg_isub d_X1_tryBoth_96 ?_
      refine zg_ast0 d_X1_tryBoth_97 (fun h33 => ?_)
      refine zg_iinc 4 (s1 + 1) [(4, .int (s1 + 1)), (0, .ref a0), (1, .ref a1), (2, .int a2), (3, .int a3)] d_X1_tryBoth_98 rfl rfl (by decide) rfl ?_
      refine zg_goto d_X1_tryBoth_101 ?_
      exact zg_finK (E := 0) [1, 2, 3, 4, 0] rfl rfl (fun q => q)
  · exact zg_vretK d_X1_tryBoth_104 rfl ⟨Nat.le_of_ble_eq_true rfl, Nat.le_of_ble_eq_true rfl⟩ (fun q => q)
abbrev M_X2_close : zMt := (RX2, cX2_close, 2, 1, 60, none, "close", 0, 0)
theorem d_X2_close_0 : zDc M_X2_close 0 (.aload_n 0) 1 1 := ⟨by decide +kernel, rfl⟩
theorem d_X2_close_1 : zDc M_X2_close 1 (.getfield 18) 3 4 := ⟨by decide +kernel, rfl⟩
theorem d_X2_close_4 : zDc M_X2_close 4 (.iload_n 1) 1 5 := ⟨by decide +kernel, rfl⟩
theorem d_X2_close_5 : zDc M_X2_close 5 (.aload_n 0) 1 6 := ⟨by decide +kernel, rfl⟩
theorem d_X2_close_6 : zDc M_X2_close 6 (.getfield 25) 3 9 := ⟨by decide +kernel, rfl⟩
theorem d_X2_close_9 : zDc M_X2_close 9 (.iastore) 1 10 := ⟨by decide +kernel, rfl⟩
theorem d_X2_close_10 : zDc M_X2_close 10 (.return_) 1 11 := ⟨by decide +kernel, rfl⟩
def f_X2_close (a0 : Nat) (a1 : Int32) (h0 : zHp) : Option (Unit × zHp) :=
  zob (zgR h0 a0 2 2) (fun v1 =>
  zob (zgI h0 a0 2 4) (fun v2 =>
  zob (zsI 0 h0 v1 a1 v2) (fun h3 =>
  some ((), h3))))
set_option maxRecDepth 100000 in
set_option maxHeartbeats 4000000 in
theorem t_X2_close (a0 : Nat) (a1 : Int32) (h0 : zHp) : ∀ (r : Unit) (h' : zHp), f_X2_close a0 a1 h0 = some (r, h') → zCt yX2_close (.code yX2_close cX2_close 2 none) 1 60 0 0 [.ref a0, .int a1] h0 (none) h' := by
  refine zct_of M_X2_close yX2_close (by decide) rfl rfl [.ref a0, .int a1] h0 (Nat.le_of_ble_eq_true rfl) (fun _ => none) (fun X => ?_)
  show zG X M_X2_close (0, 0) 0 [(0, .ref a0), (1, .int a1)] [] h0 (f_X2_close a0 a1 h0) (fun (_ : Unit) h' => zKe X (none) h')
  unfold f_X2_close
  refine zg_aload_n 0 rfl d_X2_close_0 ?_
  refine zg_getR d_X2_close_1 zc_2 (by decide) fl_X2_18 (fun v1 => ?_)
  refine zg_iload_n 1 rfl d_X2_close_4 ?_
  refine zg_aload_n 0 rfl d_X2_close_5 ?_
  refine zg_getI d_X2_close_6 zc_2 (by decide) fl_X2_25 (fun v2 => ?_)
  refine zg_ast0 d_X2_close_9 (fun h3 => ?_)
  exact zg_vretK d_X2_close_10 rfl ⟨Nat.le_of_ble_eq_true rfl, Nat.le_of_ble_eq_true rfl⟩ (fun q => q)
abbrev M_X2_forget : zMt := (RX2, cX2_forget, 2, 1, 60, none, "forget", 0, 0)
theorem d_X2_forget_0 : zDc M_X2_forget 0 (.iconst 0) 1 1 := ⟨by decide +kernel, rfl⟩
theorem d_X2_forget_1 : zDc M_X2_forget 1 (.istore_n 1) 1 2 := ⟨by decide +kernel, rfl⟩
theorem d_X2_forget_2 : zDc M_X2_forget 2 (.iload_n 1) 1 3 := ⟨by decide +kernel, rfl⟩
theorem d_X2_forget_3 : zDc M_X2_forget 3 (.iconst 3) 1 4 := ⟨by decide +kernel, rfl⟩
theorem d_X2_forget_4 : zDj M_X2_forget 4 (.if_icmp .ge 23) 23 7 27 := ⟨by decide +kernel, rfl, by decide⟩
theorem d_X2_forget_7 : zDc M_X2_forget 7 (.aload_n 0) 1 8 := ⟨by decide +kernel, rfl⟩
theorem d_X2_forget_8 : zDc M_X2_forget 8 (.getfield 15) 3 11 := ⟨by decide +kernel, rfl⟩
theorem d_X2_forget_11 : zDc M_X2_forget 11 (.iload_n 1) 1 12 := ⟨by decide +kernel, rfl⟩
theorem d_X2_forget_12 : zDc M_X2_forget 12 (.iconst 0) 1 13 := ⟨by decide +kernel, rfl⟩
theorem d_X2_forget_13 : zDc M_X2_forget 13 (.iastore) 1 14 := ⟨by decide +kernel, rfl⟩
theorem d_X2_forget_14 : zDc M_X2_forget 14 (.aload_n 0) 1 15 := ⟨by decide +kernel, rfl⟩
theorem d_X2_forget_15 : zDc M_X2_forget 15 (.getfield 18) 3 18 := ⟨by decide +kernel, rfl⟩
theorem d_X2_forget_18 : zDc M_X2_forget 18 (.iload_n 1) 1 19 := ⟨by decide +kernel, rfl⟩
theorem d_X2_forget_19 : zDc M_X2_forget 19 (.iconst 0) 1 20 := ⟨by decide +kernel, rfl⟩
theorem d_X2_forget_20 : zDc M_X2_forget 20 (.iastore) 1 21 := ⟨by decide +kernel, rfl⟩
theorem d_X2_forget_21 : zDc M_X2_forget 21 (.iinc 1 1) 3 24 := ⟨by decide +kernel, rfl⟩
theorem d_X2_forget_24 : zDj M_X2_forget 24 (.goto (-22)) (-22) 27 2 := ⟨by decide +kernel, rfl, by decide⟩
theorem d_X2_forget_27 : zDc M_X2_forget 27 (.aload_n 0) 1 28 := ⟨by decide +kernel, rfl⟩
theorem d_X2_forget_28 : zDc M_X2_forget 28 (.iconst 0) 1 29 := ⟨by decide +kernel, rfl⟩
theorem d_X2_forget_29 : zDc M_X2_forget 29 (.putfield 25) 3 32 := ⟨by decide +kernel, rfl⟩
theorem d_X2_forget_32 : zDc M_X2_forget 32 (.aload_n 0) 1 33 := ⟨by decide +kernel, rfl⟩
theorem d_X2_forget_33 : zDc M_X2_forget 33 (.iconst 0) 1 34 := ⟨by decide +kernel, rfl⟩
theorem d_X2_forget_34 : zDc M_X2_forget 34 (.putfield 29) 3 37 := ⟨by decide +kernel, rfl⟩
theorem d_X2_forget_37 : zDc M_X2_forget 37 (.return_) 1 38 := ⟨by decide +kernel, rfl⟩
def f_X2_forget (a0 : Nat) (h0 : zHp) : Option (Unit × zHp) :=
  zbd (
  zlp (σ := Int32) (β := Int32) zLF (fun s1 h2 =>
  if 3 ≤ s1 then
  some ((.inr s1), h2)
  else
  zob (zgR h2 a0 2 1) (fun v5 =>
  zob (zsI 0 h2 v5 s1 0) (fun h6 =>
  zob (zgR h6 a0 2 2) (fun v7 =>
  zob (zsI 0 h6 v7 s1 0) (fun h8 =>
  some ((.inl (s1 + 1)), h8)))))) 0 h0) (fun e3 h4 =>
  zob (zpV h4 a0 2 4 (.int 0)) (fun h9 =>
  zob (zpV h9 a0 2 5 (.int 0)) (fun h10 =>
  some ((), h10))))
set_option maxRecDepth 100000 in
set_option maxHeartbeats 4000000 in
theorem t_X2_forget (a0 : Nat) (h0 : zHp) : ∀ (r : Unit) (h' : zHp), f_X2_forget a0 h0 = some (r, h') → zCt yX2_forget (.code yX2_forget cX2_forget 2 none) 1 60 0 0 [.ref a0] h0 (none) h' := by
  refine zct_of M_X2_forget yX2_forget (by decide) rfl rfl [.ref a0] h0 (Nat.le_of_ble_eq_true rfl) (fun _ => none) (fun X => ?_)
  show zG X M_X2_forget (0, 0) 0 [(0, .ref a0)] [] h0 (f_X2_forget a0 h0) (fun (_ : Unit) h' => zKe X (none) h')
  unfold f_X2_forget
  refine zg_iconst 0 rfl d_X2_forget_0 ?_
  refine zg_istore_n [(1, .int 0), (0, .ref a0)] d_X2_forget_1 rfl (by decide) rfl ?_
  refine zg_bd (E := 27) (el := (fun (e3 : Int32) => [(0, .ref a0), (1, .int e3)])) (es := fun _ => []) (zg_sub [1, 0] rfl (zg_lp (el := (fun (s1 : Int32) => [(0, .ref a0), (1, .int s1)])) (fun s1 h2 => ?_) 0 h0)) (fun e3 h4 => ?_)
  · refine zg_iload_n 1 rfl d_X2_forget_2 ?_
    refine zg_iconst 3 rfl d_X2_forget_3 ?_
    refine zg_icmp_ge d_X2_forget_4 ?_ ?_
    · exact zg_finK (E := 0) [0, 1] rfl rfl (fun q => q)
    · refine zg_aload_n 0 rfl d_X2_forget_7 ?_
      refine zg_getR d_X2_forget_8 zc_2 (by decide) fl_X2_15 (fun v5 => ?_)
      refine zg_iload_n 1 rfl d_X2_forget_11 ?_
      refine zg_iconst 0 rfl d_X2_forget_12 ?_
      refine zg_ast0 d_X2_forget_13 (fun h6 => ?_)
      refine zg_aload_n 0 rfl d_X2_forget_14 ?_
      refine zg_getR d_X2_forget_15 zc_2 (by decide) fl_X2_18 (fun v7 => ?_)
      refine zg_iload_n 1 rfl d_X2_forget_18 ?_
      refine zg_iconst 0 rfl d_X2_forget_19 ?_
      refine zg_ast0 d_X2_forget_20 (fun h8 => ?_)
      refine zg_iinc 1 (s1 + 1) [(1, .int (s1 + 1)), (0, .ref a0)] d_X2_forget_21 rfl rfl (by decide) rfl ?_
      refine zg_goto d_X2_forget_24 ?_
      exact zg_finK (E := 0) [1, 0] rfl rfl (fun q => q)
  · refine zg_aload_n 0 rfl d_X2_forget_27 ?_
    refine zg_iconst 0 rfl d_X2_forget_28 ?_
    refine zg_putV d_X2_forget_29 zc_2 (by decide) fl_X2_25 rfl rfl rfl (fun h9 => ?_)
    refine zg_aload_n 0 rfl d_X2_forget_32 ?_
    refine zg_iconst 0 rfl d_X2_forget_33 ?_
    refine zg_putV d_X2_forget_34 zc_2 (by decide) fl_X2_29 rfl rfl rfl (fun h10 => ?_)
    exact zg_vretK d_X2_forget_37 rfl ⟨Nat.le_of_ble_eq_true rfl, Nat.le_of_ble_eq_true rfl⟩ (fun q => q)
abbrev M_X2_open : zMt := (RX2, cX2_open, 2, 1, 60, none, "open", 0, 0)
theorem d_X2_open_0 : zDc M_X2_open 0 (.aload_n 0) 1 1 := ⟨by decide +kernel, rfl⟩
theorem d_X2_open_1 : zDc M_X2_open 1 (.getfield 15) 3 4 := ⟨by decide +kernel, rfl⟩
theorem d_X2_open_4 : zDc M_X2_open 4 (.iload_n 1) 1 5 := ⟨by decide +kernel, rfl⟩
theorem d_X2_open_5 : zDc M_X2_open 5 (.aload_n 0) 1 6 := ⟨by decide +kernel, rfl⟩
theorem d_X2_open_6 : zDc M_X2_open 6 (.getfield 25) 3 9 := ⟨by decide +kernel, rfl⟩
theorem d_X2_open_9 : zDc M_X2_open 9 (.iastore) 1 10 := ⟨by decide +kernel, rfl⟩
theorem d_X2_open_10 : zDc M_X2_open 10 (.return_) 1 11 := ⟨by decide +kernel, rfl⟩
def f_X2_open (a0 : Nat) (a1 : Int32) (h0 : zHp) : Option (Unit × zHp) :=
  zob (zgR h0 a0 2 1) (fun v1 =>
  zob (zgI h0 a0 2 4) (fun v2 =>
  zob (zsI 0 h0 v1 a1 v2) (fun h3 =>
  some ((), h3))))
set_option maxRecDepth 100000 in
set_option maxHeartbeats 4000000 in
theorem t_X2_open (a0 : Nat) (a1 : Int32) (h0 : zHp) : ∀ (r : Unit) (h' : zHp), f_X2_open a0 a1 h0 = some (r, h') → zCt yX2_open (.code yX2_open cX2_open 2 none) 1 60 0 0 [.ref a0, .int a1] h0 (none) h' := by
  refine zct_of M_X2_open yX2_open (by decide) rfl rfl [.ref a0, .int a1] h0 (Nat.le_of_ble_eq_true rfl) (fun _ => none) (fun X => ?_)
  show zG X M_X2_open (0, 0) 0 [(0, .ref a0), (1, .int a1)] [] h0 (f_X2_open a0 a1 h0) (fun (_ : Unit) h' => zKe X (none) h')
  unfold f_X2_open
  refine zg_aload_n 0 rfl d_X2_open_0 ?_
  refine zg_getR d_X2_open_1 zc_2 (by decide) fl_X2_15 (fun v1 => ?_)
  refine zg_iload_n 1 rfl d_X2_open_4 ?_
  refine zg_aload_n 0 rfl d_X2_open_5 ?_
  refine zg_getI d_X2_open_6 zc_2 (by decide) fl_X2_25 (fun v2 => ?_)
  refine zg_ast0 d_X2_open_9 (fun h3 => ?_)
  exact zg_vretK d_X2_open_10 rfl ⟨Nat.le_of_ble_eq_true rfl, Nat.le_of_ble_eq_true rfl⟩ (fun q => q)
abbrev M_X2_place : zMt := (RX2, cX2_place, 2, 1, 60, none, "place", 0, 0)
theorem d_X2_place_0 : zDc M_X2_place 0 (.aload_n 0) 1 1 := ⟨by decide +kernel, rfl⟩
theorem d_X2_place_1 : zDc M_X2_place 1 (.getfield 25) 3 4 := ⟨by decide +kernel, rfl⟩
theorem d_X2_place_4 : zDc M_X2_place 4 (.bipush 64) 2 6 := ⟨by decide +kernel, rfl⟩
theorem d_X2_place_6 : zDj M_X2_place 6 (.if_icmp .ge 23) 23 9 29 := ⟨by decide +kernel, rfl, by decide⟩
theorem d_X2_place_9 : zDc M_X2_place 9 (.aload_n 0) 1 10 := ⟨by decide +kernel, rfl⟩
theorem d_X2_place_10 : zDc M_X2_place 10 (.getfield 9) 3 13 := ⟨by decide +kernel, rfl⟩
theorem d_X2_place_13 : zDc M_X2_place 13 (.aload_n 0) 1 14 := ⟨by decide +kernel, rfl⟩
theorem d_X2_place_14 : zDc M_X2_place 14 (.getfield 25) 3 17 := ⟨by decide +kernel, rfl⟩
theorem d_X2_place_17 : zDc M_X2_place 17 (.iload_n 1) 1 18 := ⟨by decide +kernel, rfl⟩
theorem d_X2_place_18 : zDc M_X2_place 18 (.iastore) 1 19 := ⟨by decide +kernel, rfl⟩
theorem d_X2_place_19 : zDc M_X2_place 19 (.aload_n 0) 1 20 := ⟨by decide +kernel, rfl⟩
theorem d_X2_place_20 : zDc M_X2_place 20 (.dup) 1 21 := ⟨by decide +kernel, rfl⟩
theorem d_X2_place_21 : zDc M_X2_place 21 (.getfield 25) 3 24 := ⟨by decide +kernel, rfl⟩
theorem d_X2_place_24 : zDc M_X2_place 24 (.iconst 1) 1 25 := ⟨by decide +kernel, rfl⟩
theorem d_X2_place_25 : zDc M_X2_place 25 (.iadd) 1 26 := ⟨by decide +kernel, rfl⟩
theorem d_X2_place_26 : zDc M_X2_place 26 (.putfield 25) 3 29 := ⟨by decide +kernel, rfl⟩
theorem d_X2_place_29 : zDc M_X2_place 29 (.return_) 1 30 := ⟨by decide +kernel, rfl⟩
def f_X2_place (a0 : Nat) (a1 : Int32) (h0 : zHp) : Option (Unit × zHp) :=
  zob (zgI h0 a0 2 4) (fun v1 =>
  if 64 ≤ v1 then
  some ((), h0)
  else
  zob (zgR h0 a0 2 0) (fun v2 =>
  zob (zgI h0 a0 2 4) (fun v3 =>
  zob (zsI 0 h0 v2 v3 a1) (fun h4 =>
  zob (zgI h4 a0 2 4) (fun v5 =>
  zob (zpV h4 a0 2 4 (.int (v5 + 1))) (fun h6 =>
  some ((), h6)))))))
set_option maxRecDepth 100000 in
set_option maxHeartbeats 4000000 in
theorem t_X2_place (a0 : Nat) (a1 : Int32) (h0 : zHp) : ∀ (r : Unit) (h' : zHp), f_X2_place a0 a1 h0 = some (r, h') → zCt yX2_place (.code yX2_place cX2_place 2 none) 1 60 0 0 [.ref a0, .int a1] h0 (none) h' := by
  refine zct_of M_X2_place yX2_place (by decide) rfl rfl [.ref a0, .int a1] h0 (Nat.le_of_ble_eq_true rfl) (fun _ => none) (fun X => ?_)
  show zG X M_X2_place (0, 0) 0 [(0, .ref a0), (1, .int a1)] [] h0 (f_X2_place a0 a1 h0) (fun (_ : Unit) h' => zKe X (none) h')
  unfold f_X2_place
  refine zg_aload_n 0 rfl d_X2_place_0 ?_
  refine zg_getI d_X2_place_1 zc_2 (by decide) fl_X2_25 (fun v1 => ?_)
  refine zg_bipush 64 rfl d_X2_place_4 ?_
  refine zg_icmp_ge d_X2_place_6 ?_ ?_
  · exact zg_vretK d_X2_place_29 rfl ⟨Nat.le_of_ble_eq_true rfl, Nat.le_of_ble_eq_true rfl⟩ (fun q => q)
  · refine zg_aload_n 0 rfl d_X2_place_9 ?_
    refine zg_getR d_X2_place_10 zc_2 (by decide) fl_X2_9 (fun v2 => ?_)
    refine zg_aload_n 0 rfl d_X2_place_13 ?_
    refine zg_getI d_X2_place_14 zc_2 (by decide) fl_X2_25 (fun v3 => ?_)
    refine zg_iload_n 1 rfl d_X2_place_17 ?_
    refine zg_ast0 d_X2_place_18 (fun h4 => ?_)
    refine zg_aload_n 0 rfl d_X2_place_19 ?_
    refine zg_dup rfl d_X2_place_20 ?_
    refine zg_getI d_X2_place_21 zc_2 (by decide) fl_X2_25 (fun v5 => ?_)
    refine zg_iconst 1 rfl d_X2_place_24 ?_
    refine zg_iadd d_X2_place_25 ?_
    refine zg_putV d_X2_place_26 zc_2 (by decide) fl_X2_25 rfl rfl rfl (fun h6 => ?_)
    exact zg_vretK d_X2_place_29 rfl ⟨Nat.le_of_ble_eq_true rfl, Nat.le_of_ble_eq_true rfl⟩ (fun q => q)
abbrev M_X3_add : zMt := (RX3, cX3_add, 5, 1, 60, (some .int), "add", 0, 0)
theorem d_X3_add_0 : zDc M_X3_add 0 (.aload_n 0) 1 1 := ⟨by decide +kernel, rfl⟩
theorem d_X3_add_1 : zDc M_X3_add 1 (.getfield 31) 3 4 := ⟨by decide +kernel, rfl⟩
theorem d_X3_add_4 : zDc M_X3_add 4 (.bipush 24) 2 6 := ⟨by decide +kernel, rfl⟩
theorem d_X3_add_6 : zDj M_X3_add 6 (.if_icmp .lt 5) 5 9 11 := ⟨by decide +kernel, rfl, by decide⟩
theorem d_X3_add_9 : zDc M_X3_add 9 (.iconst (-1)) 1 10 := ⟨by decide +kernel, rfl⟩
theorem d_X3_add_10 : zDc M_X3_add 10 (.ireturn) 1 11 := ⟨by decide +kernel, rfl⟩
theorem d_X3_add_11 : zDc M_X3_add 11 (.aload_n 0) 1 12 := ⟨by decide +kernel, rfl⟩
theorem d_X3_add_12 : zDc M_X3_add 12 (.getfield 9) 3 15 := ⟨by decide +kernel, rfl⟩
theorem d_X3_add_15 : zDc M_X3_add 15 (.aload_n 0) 1 16 := ⟨by decide +kernel, rfl⟩
theorem d_X3_add_16 : zDc M_X3_add 16 (.getfield 31) 3 19 := ⟨by decide +kernel, rfl⟩
theorem d_X3_add_19 : zDc M_X3_add 19 (.iload_n 1) 1 20 := ⟨by decide +kernel, rfl⟩
theorem d_X3_add_20 : zDc M_X3_add 20 (.iastore) 1 21 := ⟨by decide +kernel, rfl⟩
theorem d_X3_add_21 : zDc M_X3_add 21 (.aload_n 0) 1 22 := ⟨by decide +kernel, rfl⟩
theorem d_X3_add_22 : zDc M_X3_add 22 (.getfield 15) 3 25 := ⟨by decide +kernel, rfl⟩
theorem d_X3_add_25 : zDc M_X3_add 25 (.aload_n 0) 1 26 := ⟨by decide +kernel, rfl⟩
theorem d_X3_add_26 : zDc M_X3_add 26 (.getfield 31) 3 29 := ⟨by decide +kernel, rfl⟩
theorem d_X3_add_29 : zDc M_X3_add 29 (.iload_n 2) 1 30 := ⟨by decide +kernel, rfl⟩
theorem d_X3_add_30 : zDc M_X3_add 30 (.iastore) 1 31 := ⟨by decide +kernel, rfl⟩
theorem d_X3_add_31 : zDc M_X3_add 31 (.aload_n 0) 1 32 := ⟨by decide +kernel, rfl⟩
theorem d_X3_add_32 : zDc M_X3_add 32 (.getfield 18) 3 35 := ⟨by decide +kernel, rfl⟩
theorem d_X3_add_35 : zDc M_X3_add 35 (.aload_n 0) 1 36 := ⟨by decide +kernel, rfl⟩
theorem d_X3_add_36 : zDc M_X3_add 36 (.getfield 31) 3 39 := ⟨by decide +kernel, rfl⟩
theorem d_X3_add_39 : zDc M_X3_add 39 (.iload_n 3) 1 40 := ⟨by decide +kernel, rfl⟩
theorem d_X3_add_40 : zDc M_X3_add 40 (.iastore) 1 41 := ⟨by decide +kernel, rfl⟩
theorem d_X3_add_41 : zDc M_X3_add 41 (.aload_n 0) 1 42 := ⟨by decide +kernel, rfl⟩
theorem d_X3_add_42 : zDc M_X3_add 42 (.getfield 21) 3 45 := ⟨by decide +kernel, rfl⟩
theorem d_X3_add_45 : zDc M_X3_add 45 (.aload_n 0) 1 46 := ⟨by decide +kernel, rfl⟩
theorem d_X3_add_46 : zDc M_X3_add 46 (.getfield 31) 3 49 := ⟨by decide +kernel, rfl⟩
theorem d_X3_add_49 : zDc M_X3_add 49 (.iload 4) 2 51 := ⟨by decide +kernel, rfl⟩
theorem d_X3_add_51 : zDc M_X3_add 51 (.bastore) 1 52 := ⟨by decide +kernel, rfl⟩
theorem d_X3_add_52 : zDc M_X3_add 52 (.aload_n 0) 1 53 := ⟨by decide +kernel, rfl⟩
theorem d_X3_add_53 : zDc M_X3_add 53 (.getfield 25) 3 56 := ⟨by decide +kernel, rfl⟩
theorem d_X3_add_56 : zDc M_X3_add 56 (.aload_n 0) 1 57 := ⟨by decide +kernel, rfl⟩
theorem d_X3_add_57 : zDc M_X3_add 57 (.getfield 31) 3 60 := ⟨by decide +kernel, rfl⟩
theorem d_X3_add_60 : zDc M_X3_add 60 (.iconst (-1)) 1 61 := ⟨by decide +kernel, rfl⟩
theorem d_X3_add_61 : zDc M_X3_add 61 (.iastore) 1 62 := ⟨by decide +kernel, rfl⟩
theorem d_X3_add_62 : zDc M_X3_add 62 (.aload_n 0) 1 63 := ⟨by decide +kernel, rfl⟩
theorem d_X3_add_63 : zDc M_X3_add 63 (.dup) 1 64 := ⟨by decide +kernel, rfl⟩
theorem d_X3_add_64 : zDc M_X3_add 64 (.getfield 31) 3 67 := ⟨by decide +kernel, rfl⟩
theorem d_X3_add_67 : zDc M_X3_add 67 (.iconst 1) 1 68 := ⟨by decide +kernel, rfl⟩
theorem d_X3_add_68 : zDc M_X3_add 68 (.iadd) 1 69 := ⟨by decide +kernel, rfl⟩
theorem d_X3_add_69 : zDc M_X3_add 69 (.putfield 31) 3 72 := ⟨by decide +kernel, rfl⟩
theorem d_X3_add_72 : zDc M_X3_add 72 (.aload_n 0) 1 73 := ⟨by decide +kernel, rfl⟩
theorem d_X3_add_73 : zDc M_X3_add 73 (.getfield 31) 3 76 := ⟨by decide +kernel, rfl⟩
theorem d_X3_add_76 : zDc M_X3_add 76 (.iconst 1) 1 77 := ⟨by decide +kernel, rfl⟩
theorem d_X3_add_77 : zDc M_X3_add 77 (.isub) 1 78 := ⟨by decide +kernel, rfl⟩
theorem d_X3_add_78 : zDc M_X3_add 78 (.ireturn) 1 79 := ⟨by decide +kernel, rfl⟩
def f_X3_add (a0 : Nat) (a1 : Int32) (a2 : Int32) (a3 : Int32) (a4 : Int32) (h0 : zHp) : Option (Int32 × zHp) :=
  zob (zgI h0 a0 3 6) (fun v1 =>
  if v1 < 24 then
  zob (zgR h0 a0 3 0) (fun v2 =>
  zob (zgI h0 a0 3 6) (fun v3 =>
  zob (zsI 0 h0 v2 v3 a1) (fun h4 =>
  zob (zgR h4 a0 3 1) (fun v5 =>
  zob (zgI h4 a0 3 6) (fun v6 =>
  zob (zsI 0 h4 v5 v6 a2) (fun h7 =>
  zob (zgR h7 a0 3 2) (fun v8 =>
  zob (zgI h7 a0 3 6) (fun v9 =>
  zob (zsI 0 h7 v8 v9 a3) (fun h10 =>
  zob (zgR h10 a0 3 3) (fun v11 =>
  zob (zgI h10 a0 3 6) (fun v12 =>
  zob (zsI 2 h10 v11 v12 a4) (fun h13 =>
  zob (zgR h13 a0 3 4) (fun v14 =>
  zob (zgI h13 a0 3 6) (fun v15 =>
  zob (zsI 0 h13 v14 v15 (-1)) (fun h16 =>
  zob (zgI h16 a0 3 6) (fun v17 =>
  zob (zpV h16 a0 3 6 (.int (v17 + 1))) (fun h18 =>
  zob (zgI h18 a0 3 6) (fun v19 =>
  some ((v19 - 1), h18)))))))))))))))))))
  else
  some ((-1), h0))
set_option maxRecDepth 100000 in
set_option maxHeartbeats 4000000 in
theorem t_X3_add (a0 : Nat) (a1 : Int32) (a2 : Int32) (a3 : Int32) (a4 : Int32) (h0 : zHp) : ∀ (r : Int32) (h' : zHp), f_X3_add a0 a1 a2 a3 a4 h0 = some (r, h') → zCt yX3_add (.code yX3_add cX3_add 5 (some .int)) 1 60 0 0 [.ref a0, .int a1, .int a2, .int a3, .int a4] h0 (some (.int r)) h' := by
  refine zct_of M_X3_add yX3_add (by decide) rfl rfl [.ref a0, .int a1, .int a2, .int a3, .int a4] h0 (Nat.le_of_ble_eq_true rfl) (fun r => some (.int r)) (fun X => ?_)
  show zG X M_X3_add (0, 0) 0 [(0, .ref a0), (1, .int a1), (2, .int a2), (3, .int a3), (4, .int a4)] [] h0 (f_X3_add a0 a1 a2 a3 a4 h0) (fun (r : Int32) h' => zKe X (some (.int r)) h')
  unfold f_X3_add
  refine zg_aload_n 0 rfl d_X3_add_0 ?_
  refine zg_getI d_X3_add_1 zc_3 (by decide) fl_X3_31 (fun v1 => ?_)
  refine zg_bipush 24 rfl d_X3_add_4 ?_
  refine zg_icmp_lt d_X3_add_6 ?_ ?_
  · refine zg_aload_n 0 rfl d_X3_add_11 ?_
    refine zg_getR d_X3_add_12 zc_3 (by decide) fl_X3_9 (fun v2 => ?_)
    refine zg_aload_n 0 rfl d_X3_add_15 ?_
    refine zg_getI d_X3_add_16 zc_3 (by decide) fl_X3_31 (fun v3 => ?_)
    refine zg_iload_n 1 rfl d_X3_add_19 ?_
    refine zg_ast0 d_X3_add_20 (fun h4 => ?_)
    refine zg_aload_n 0 rfl d_X3_add_21 ?_
    refine zg_getR d_X3_add_22 zc_3 (by decide) fl_X3_15 (fun v5 => ?_)
    refine zg_aload_n 0 rfl d_X3_add_25 ?_
    refine zg_getI d_X3_add_26 zc_3 (by decide) fl_X3_31 (fun v6 => ?_)
    refine zg_iload_n 2 rfl d_X3_add_29 ?_
    refine zg_ast0 d_X3_add_30 (fun h7 => ?_)
    refine zg_aload_n 0 rfl d_X3_add_31 ?_
    refine zg_getR d_X3_add_32 zc_3 (by decide) fl_X3_18 (fun v8 => ?_)
    refine zg_aload_n 0 rfl d_X3_add_35 ?_
    refine zg_getI d_X3_add_36 zc_3 (by decide) fl_X3_31 (fun v9 => ?_)
    refine zg_iload_n 3 rfl d_X3_add_39 ?_
    refine zg_ast0 d_X3_add_40 (fun h10 => ?_)
    refine zg_aload_n 0 rfl d_X3_add_41 ?_
    refine zg_getR d_X3_add_42 zc_3 (by decide) fl_X3_21 (fun v11 => ?_)
    refine zg_aload_n 0 rfl d_X3_add_45 ?_
    refine zg_getI d_X3_add_46 zc_3 (by decide) fl_X3_31 (fun v12 => ?_)
    refine zg_iload 4 rfl d_X3_add_49 ?_
    refine zg_ast2 d_X3_add_51 (fun h13 => ?_)
    refine zg_aload_n 0 rfl d_X3_add_52 ?_
    refine zg_getR d_X3_add_53 zc_3 (by decide) fl_X3_25 (fun v14 => ?_)
    refine zg_aload_n 0 rfl d_X3_add_56 ?_
    refine zg_getI d_X3_add_57 zc_3 (by decide) fl_X3_31 (fun v15 => ?_)
    refine zg_iconst (-1) rfl d_X3_add_60 ?_
    refine zg_ast0 d_X3_add_61 (fun h16 => ?_)
    refine zg_aload_n 0 rfl d_X3_add_62 ?_
    refine zg_dup rfl d_X3_add_63 ?_
    refine zg_getI d_X3_add_64 zc_3 (by decide) fl_X3_31 (fun v17 => ?_)
    refine zg_iconst 1 rfl d_X3_add_67 ?_
    refine zg_iadd d_X3_add_68 ?_
    refine zg_putV d_X3_add_69 zc_3 (by decide) fl_X3_31 rfl rfl rfl (fun h18 => ?_)
    refine zg_aload_n 0 rfl d_X3_add_72 ?_
    refine zg_getI d_X3_add_73 zc_3 (by decide) fl_X3_31 (fun v19 => ?_)
    refine zg_iconst 1 rfl d_X3_add_76 ?_
    refine zg_isub d_X3_add_77 ?_
    exact zg_iretK d_X3_add_78 rfl ⟨Nat.le_of_ble_eq_true rfl, Nat.le_of_ble_eq_true rfl⟩ (fun q => q)
  · refine zg_iconst (-1) rfl d_X3_add_9 ?_
    exact zg_iretK d_X3_add_10 rfl ⟨Nat.le_of_ble_eq_true rfl, Nat.le_of_ble_eq_true rfl⟩ (fun q => q)
abbrev M_X3_addStrike : zMt := (RX3, cX3_addStrike, 3, 2, 84, (some .int), "addStrike", 0, 0)
theorem d_X3_addStrike_0 : zDc M_X3_addStrike 0 (.aload_n 0) 1 1 := ⟨by decide +kernel, rfl⟩
theorem d_X3_addStrike_1 : zDc M_X3_addStrike 1 (.iconst 0) 1 2 := ⟨by decide +kernel, rfl⟩
theorem d_X3_addStrike_2 : zDc M_X3_addStrike 2 (.iconst 0) 1 3 := ⟨by decide +kernel, rfl⟩
theorem d_X3_addStrike_3 : zDc M_X3_addStrike 3 (.iconst 0) 1 4 := ⟨by decide +kernel, rfl⟩
theorem d_X3_addStrike_4 : zDc M_X3_addStrike 4 (.iconst 0) 1 5 := ⟨by decide +kernel, rfl⟩
theorem d_X3_addStrike_5 : zDc M_X3_addStrike 5 (.invokevirtual 38) 3 8 := ⟨by decide +kernel, rfl⟩
theorem d_X3_addStrike_8 : zDc M_X3_addStrike 8 (.istore_n 2) 1 9 := ⟨by decide +kernel, rfl⟩
theorem d_X3_addStrike_9 : zDc M_X3_addStrike 9 (.iload_n 2) 1 10 := ⟨by decide +kernel, rfl⟩
theorem d_X3_addStrike_10 : zDc M_X3_addStrike 10 (.iconst (-1)) 1 11 := ⟨by decide +kernel, rfl⟩
theorem d_X3_addStrike_11 : zDj M_X3_addStrike 11 (.if_icmp .eq 10) 10 14 21 := ⟨by decide +kernel, rfl, by decide⟩
theorem d_X3_addStrike_14 : zDc M_X3_addStrike 14 (.aload_n 0) 1 15 := ⟨by decide +kernel, rfl⟩
theorem d_X3_addStrike_15 : zDc M_X3_addStrike 15 (.getfield 25) 3 18 := ⟨by decide +kernel, rfl⟩
theorem d_X3_addStrike_18 : zDc M_X3_addStrike 18 (.iload_n 2) 1 19 := ⟨by decide +kernel, rfl⟩
theorem d_X3_addStrike_19 : zDc M_X3_addStrike 19 (.iload_n 1) 1 20 := ⟨by decide +kernel, rfl⟩
theorem d_X3_addStrike_20 : zDc M_X3_addStrike 20 (.iastore) 1 21 := ⟨by decide +kernel, rfl⟩
theorem d_X3_addStrike_21 : zDc M_X3_addStrike 21 (.iload_n 2) 1 22 := ⟨by decide +kernel, rfl⟩
theorem d_X3_addStrike_22 : zDc M_X3_addStrike 22 (.ireturn) 1 23 := ⟨by decide +kernel, rfl⟩
def f_X3_addStrike (a0 : Nat) (a1 : Int32) (h0 : zHp) : Option (Int32 × zHp) :=
  zbd (zcv 3 a0 h0 (f_X3_add a0 0 0 0 0 h0)) (fun v2 h1 =>
  if v2 = (-1) then
  some (v2, h1)
  else
  zob (zgR h1 a0 3 4) (fun v3 =>
  zob (zsI 0 h1 v3 v2 a1) (fun h4 =>
  some (v2, h4))))
set_option maxRecDepth 100000 in
set_option maxHeartbeats 4000000 in
theorem t_X3_addStrike (a0 : Nat) (a1 : Int32) (h0 : zHp) : ∀ (r : Int32) (h' : zHp), f_X3_addStrike a0 a1 h0 = some (r, h') → zCt yX3_addStrike (.code yX3_addStrike cX3_addStrike 3 (some .int)) 2 84 0 0 [.ref a0, .int a1] h0 (some (.int r)) h' := by
  refine zct_of M_X3_addStrike yX3_addStrike (by decide) rfl rfl [.ref a0, .int a1] h0 (Nat.le_of_ble_eq_true rfl) (fun r => some (.int r)) (fun X => ?_)
  show zG X M_X3_addStrike (0, 0) 0 [(0, .ref a0), (1, .int a1)] [] h0 (f_X3_addStrike a0 a1 h0) (fun (r : Int32) h' => zKe X (some (.int r)) h')
  unfold f_X3_addStrike
  refine zg_aload_n 0 rfl d_X3_addStrike_0 ?_
  refine zg_iconst 0 rfl d_X3_addStrike_1 ?_
  refine zg_iconst 0 rfl d_X3_addStrike_2 ?_
  refine zg_iconst 0 rfl d_X3_addStrike_3 ?_
  refine zg_iconst 0 rfl d_X3_addStrike_4 ?_
  refine zg_cVi (b := a0) (As := [.int 0, .int 0, .int 0, .int 0]) (rest := []) (0, 0) d_X3_addStrike_5 zc_3 rfl cw_X3_38 wi_X3_add ws_X3_add rfl rfl (Nat.le_of_ble_eq_true rfl) (by decide) (by decide) ⟨by decide, by decide⟩ rfl (t_X3_add a0 0 0 0 0 h0) (fun v2 h1 => ?_)
  refine zg_istore_n [(2, .int v2), (0, .ref a0), (1, .int a1)] d_X3_addStrike_8 rfl (by decide) rfl ?_
  refine zg_iload_n 0 rfl d_X3_addStrike_9 ?_
  refine zg_iconst (-1) rfl d_X3_addStrike_10 ?_
  refine zg_icmp_eq d_X3_addStrike_11 ?_ ?_
  · refine zg_iload_n 0 rfl d_X3_addStrike_21 ?_
    exact zg_iretK d_X3_addStrike_22 rfl ⟨Nat.le_of_ble_eq_true rfl, Nat.le_of_ble_eq_true rfl⟩ (fun q => q)
  · refine zg_aload_n 1 rfl d_X3_addStrike_14 ?_
    refine zg_getR d_X3_addStrike_15 zc_3 (by decide) fl_X3_25 (fun v3 => ?_)
    refine zg_iload_n 0 rfl d_X3_addStrike_18 ?_
    refine zg_iload_n 2 rfl d_X3_addStrike_19 ?_
    refine zg_ast0 d_X3_addStrike_20 (fun h4 => ?_)
    refine zg_iload_n 0 rfl d_X3_addStrike_21 ?_
    exact zg_iretK d_X3_addStrike_22 rfl ⟨Nat.le_of_ble_eq_true rfl, Nat.le_of_ble_eq_true rfl⟩ (fun q => q)
abbrev M_X3_forget : zMt := (RX3, cX3_forget, 1, 1, 60, none, "forget", 0, 0)
theorem d_X3_forget_0 : zDc M_X3_forget 0 (.aload_n 0) 1 1 := ⟨by decide +kernel, rfl⟩
theorem d_X3_forget_1 : zDc M_X3_forget 1 (.iconst 0) 1 2 := ⟨by decide +kernel, rfl⟩
theorem d_X3_forget_2 : zDc M_X3_forget 2 (.putfield 31) 3 5 := ⟨by decide +kernel, rfl⟩
theorem d_X3_forget_5 : zDc M_X3_forget 5 (.aload_n 0) 1 6 := ⟨by decide +kernel, rfl⟩
theorem d_X3_forget_6 : zDc M_X3_forget 6 (.iconst (-1)) 1 7 := ⟨by decide +kernel, rfl⟩
theorem d_X3_forget_7 : zDc M_X3_forget 7 (.putfield 35) 3 10 := ⟨by decide +kernel, rfl⟩
theorem d_X3_forget_10 : zDc M_X3_forget 10 (.return_) 1 11 := ⟨by decide +kernel, rfl⟩
def f_X3_forget (a0 : Nat) (h0 : zHp) : Option (Unit × zHp) :=
  zob (zpV h0 a0 3 6 (.int 0)) (fun h1 =>
  zob (zpV h1 a0 3 7 (.int (-1))) (fun h2 =>
  some ((), h2)))
set_option maxRecDepth 100000 in
set_option maxHeartbeats 4000000 in
theorem t_X3_forget (a0 : Nat) (h0 : zHp) : ∀ (r : Unit) (h' : zHp), f_X3_forget a0 h0 = some (r, h') → zCt yX3_forget (.code yX3_forget cX3_forget 1 none) 1 60 0 0 [.ref a0] h0 (none) h' := by
  refine zct_of M_X3_forget yX3_forget (by decide) rfl rfl [.ref a0] h0 (Nat.le_of_ble_eq_true rfl) (fun _ => none) (fun X => ?_)
  show zG X M_X3_forget (0, 0) 0 [(0, .ref a0)] [] h0 (f_X3_forget a0 h0) (fun (_ : Unit) h' => zKe X (none) h')
  unfold f_X3_forget
  refine zg_aload_n 0 rfl d_X3_forget_0 ?_
  refine zg_iconst 0 rfl d_X3_forget_1 ?_
  refine zg_putV d_X3_forget_2 zc_3 (by decide) fl_X3_31 rfl rfl rfl (fun h1 => ?_)
  refine zg_aload_n 0 rfl d_X3_forget_5 ?_
  refine zg_iconst (-1) rfl d_X3_forget_6 ?_
  refine zg_putV d_X3_forget_7 zc_3 (by decide) fl_X3_35 rfl rfl rfl (fun h2 => ?_)
  exact zg_vretK d_X3_forget_10 rfl ⟨Nat.le_of_ble_eq_true rfl, Nat.le_of_ble_eq_true rfl⟩ (fun q => q)
abbrev M_X3_strikeOut : zMt := (RX3, cX3_strikeOut, 2, 2, 80, none, "strikeOut", 0, 0)
theorem d_X3_strikeOut_0 : zDc M_X3_strikeOut 0 (.iconst 0) 1 1 := ⟨by decide +kernel, rfl⟩
theorem d_X3_strikeOut_1 : zDc M_X3_strikeOut 1 (.istore_n 1) 1 2 := ⟨by decide +kernel, rfl⟩
theorem d_X3_strikeOut_2 : zDc M_X3_strikeOut 2 (.iload_n 1) 1 3 := ⟨by decide +kernel, rfl⟩
theorem d_X3_strikeOut_3 : zDc M_X3_strikeOut 3 (.bipush 24) 2 5 := ⟨by decide +kernel, rfl⟩
theorem d_X3_strikeOut_5 : zDj M_X3_strikeOut 5 (.if_icmp .ge 16) 16 8 21 := ⟨by decide +kernel, rfl, by decide⟩
theorem d_X3_strikeOut_8 : zDc M_X3_strikeOut 8 (.aload_n 0) 1 9 := ⟨by decide +kernel, rfl⟩
theorem d_X3_strikeOut_9 : zDc M_X3_strikeOut 9 (.getfield 28) 3 12 := ⟨by decide +kernel, rfl⟩
theorem d_X3_strikeOut_12 : zDc M_X3_strikeOut 12 (.iload_n 1) 1 13 := ⟨by decide +kernel, rfl⟩
theorem d_X3_strikeOut_13 : zDc M_X3_strikeOut 13 (.iconst 0) 1 14 := ⟨by decide +kernel, rfl⟩
theorem d_X3_strikeOut_14 : zDc M_X3_strikeOut 14 (.bastore) 1 15 := ⟨by decide +kernel, rfl⟩
theorem d_X3_strikeOut_15 : zDc M_X3_strikeOut 15 (.iinc 1 1) 3 18 := ⟨by decide +kernel, rfl⟩
theorem d_X3_strikeOut_18 : zDj M_X3_strikeOut 18 (.goto (-16)) (-16) 21 2 := ⟨by decide +kernel, rfl, by decide⟩
theorem d_X3_strikeOut_21 : zDc M_X3_strikeOut 21 (.aload_n 0) 1 22 := ⟨by decide +kernel, rfl⟩
theorem d_X3_strikeOut_22 : zDc M_X3_strikeOut 22 (.invokevirtual 42) 3 25 := ⟨by decide +kernel, rfl⟩
theorem d_X3_strikeOut_25 : zDc M_X3_strikeOut 25 (.iconst 1) 1 26 := ⟨by decide +kernel, rfl⟩
theorem d_X3_strikeOut_26 : zDc M_X3_strikeOut 26 (.isub) 1 27 := ⟨by decide +kernel, rfl⟩
theorem d_X3_strikeOut_27 : zDc M_X3_strikeOut 27 (.istore_n 1) 1 28 := ⟨by decide +kernel, rfl⟩
theorem d_X3_strikeOut_28 : zDc M_X3_strikeOut 28 (.iload_n 1) 1 29 := ⟨by decide +kernel, rfl⟩
theorem d_X3_strikeOut_29 : zDj M_X3_strikeOut 29 (.ifCond .lt 40) 40 32 69 := ⟨by decide +kernel, rfl, by decide⟩
theorem d_X3_strikeOut_32 : zDc M_X3_strikeOut 32 (.aload_n 0) 1 33 := ⟨by decide +kernel, rfl⟩
theorem d_X3_strikeOut_33 : zDc M_X3_strikeOut 33 (.getfield 28) 3 36 := ⟨by decide +kernel, rfl⟩
theorem d_X3_strikeOut_36 : zDc M_X3_strikeOut 36 (.iload_n 1) 1 37 := ⟨by decide +kernel, rfl⟩
theorem d_X3_strikeOut_37 : zDc M_X3_strikeOut 37 (.baload) 1 38 := ⟨by decide +kernel, rfl⟩
theorem d_X3_strikeOut_38 : zDj M_X3_strikeOut 38 (.ifCond .ne 25) 25 41 63 := ⟨by decide +kernel, rfl, by decide⟩
theorem d_X3_strikeOut_41 : zDc M_X3_strikeOut 41 (.aload_n 0) 1 42 := ⟨by decide +kernel, rfl⟩
theorem d_X3_strikeOut_42 : zDc M_X3_strikeOut 42 (.getfield 25) 3 45 := ⟨by decide +kernel, rfl⟩
theorem d_X3_strikeOut_45 : zDc M_X3_strikeOut 45 (.iload_n 1) 1 46 := ⟨by decide +kernel, rfl⟩
theorem d_X3_strikeOut_46 : zDc M_X3_strikeOut 46 (.iaload) 1 47 := ⟨by decide +kernel, rfl⟩
theorem d_X3_strikeOut_47 : zDc M_X3_strikeOut 47 (.iconst (-1)) 1 48 := ⟨by decide +kernel, rfl⟩
theorem d_X3_strikeOut_48 : zDj M_X3_strikeOut 48 (.if_icmp .eq 15) 15 51 63 := ⟨by decide +kernel, rfl, by decide⟩
theorem d_X3_strikeOut_51 : zDc M_X3_strikeOut 51 (.aload_n 0) 1 52 := ⟨by decide +kernel, rfl⟩
theorem d_X3_strikeOut_52 : zDc M_X3_strikeOut 52 (.getfield 28) 3 55 := ⟨by decide +kernel, rfl⟩
theorem d_X3_strikeOut_55 : zDc M_X3_strikeOut 55 (.aload_n 0) 1 56 := ⟨by decide +kernel, rfl⟩
theorem d_X3_strikeOut_56 : zDc M_X3_strikeOut 56 (.getfield 25) 3 59 := ⟨by decide +kernel, rfl⟩
theorem d_X3_strikeOut_59 : zDc M_X3_strikeOut 59 (.iload_n 1) 1 60 := ⟨by decide +kernel, rfl⟩
theorem d_X3_strikeOut_60 : zDc M_X3_strikeOut 60 (.iaload) 1 61 := ⟨by decide +kernel, rfl⟩
theorem d_X3_strikeOut_61 : zDc M_X3_strikeOut 61 (.iconst 1) 1 62 := ⟨by decide +kernel, rfl⟩
theorem d_X3_strikeOut_62 : zDc M_X3_strikeOut 62 (.bastore) 1 63 := ⟨by decide +kernel, rfl⟩
theorem d_X3_strikeOut_63 : zDc M_X3_strikeOut 63 (.iinc 1 (-1)) 3 66 := ⟨by decide +kernel, rfl⟩
theorem d_X3_strikeOut_66 : zDj M_X3_strikeOut 66 (.goto (-38)) (-38) 69 28 := ⟨by decide +kernel, rfl, by decide⟩
theorem d_X3_strikeOut_69 : zDc M_X3_strikeOut 69 (.return_) 1 70 := ⟨by decide +kernel, rfl⟩
def f_X3_strikeOut (a0 : Nat) (h0 : zHp) : Option (Unit × zHp) :=
  zbd (
  zlp (σ := Int32) (β := Int32) zLF (fun s1 h2 =>
  if 24 ≤ s1 then
  some ((.inr s1), h2)
  else
  zob (zgR h2 a0 3 5) (fun v5 =>
  zob (zsI 2 h2 v5 s1 0) (fun h6 =>
  some ((.inl (s1 + 1)), h6)))) 0 h0) (fun e3 h4 =>
  zbd (zcv 3 a0 h4 (f_X3_readable a0 h4)) (fun v8 h7 =>
  zbd (
  zlp (σ := Int32) (β := Int32) zLF (fun s9 h10 =>
  if s9 < 0 then
  some ((.inr s9), h10)
  else
  zob (zgR h10 a0 3 5) (fun v13 =>
  zob (zaI 2 h10 v13 s9) (fun v14 =>
  if v14 = 0 then
  zob (zgR h10 a0 3 4) (fun v15 =>
  zob (zaI 0 h10 v15 s9) (fun v16 =>
  if v16 = (-1) then
  some ((.inl (s9 + (-1))), h10)
  else
  zob (zgR h10 a0 3 5) (fun v17 =>
  zob (zgR h10 a0 3 4) (fun v18 =>
  zob (zaI 0 h10 v18 s9) (fun v19 =>
  zob (zsI 2 h10 v17 v19 1) (fun h20 =>
  some ((.inl (s9 + (-1))), h20)))))))
  else
  some ((.inl (s9 + (-1))), h10)))) (v8 - 1) h7) (fun e11 h12 =>
  some ((), h12))))
set_option maxRecDepth 100000 in
set_option maxHeartbeats 4000000 in
theorem t_X3_strikeOut (a0 : Nat) (h0 : zHp) : ∀ (r : Unit) (h' : zHp), f_X3_strikeOut a0 h0 = some (r, h') → zCt yX3_strikeOut (.code yX3_strikeOut cX3_strikeOut 2 none) 2 80 0 0 [.ref a0] h0 (none) h' := by
  refine zct_of M_X3_strikeOut yX3_strikeOut (by decide) rfl rfl [.ref a0] h0 (Nat.le_of_ble_eq_true rfl) (fun _ => none) (fun X => ?_)
  show zG X M_X3_strikeOut (0, 0) 0 [(0, .ref a0)] [] h0 (f_X3_strikeOut a0 h0) (fun (_ : Unit) h' => zKe X (none) h')
  unfold f_X3_strikeOut
  refine zg_iconst 0 rfl d_X3_strikeOut_0 ?_
  refine zg_istore_n [(1, .int 0), (0, .ref a0)] d_X3_strikeOut_1 rfl (by decide) rfl ?_
  refine zg_bd (E := 21) (el := (fun (e3 : Int32) => [(0, .ref a0), (1, .int e3)])) (es := fun _ => []) (zg_sub [1, 0] rfl (zg_lp (el := (fun (s1 : Int32) => [(0, .ref a0), (1, .int s1)])) (fun s1 h2 => ?_) 0 h0)) (fun e3 h4 => ?_)
  · refine zg_iload_n 1 rfl d_X3_strikeOut_2 ?_
    refine zg_bipush 24 rfl d_X3_strikeOut_3 ?_
    refine zg_icmp_ge d_X3_strikeOut_5 ?_ ?_
    · exact zg_finK (E := 0) [0, 1] rfl rfl (fun q => q)
    · refine zg_aload_n 0 rfl d_X3_strikeOut_8 ?_
      refine zg_getR d_X3_strikeOut_9 zc_3 (by decide) fl_X3_28 (fun v5 => ?_)
      refine zg_iload_n 1 rfl d_X3_strikeOut_12 ?_
      refine zg_iconst 0 rfl d_X3_strikeOut_13 ?_
      refine zg_ast2 d_X3_strikeOut_14 (fun h6 => ?_)
      refine zg_iinc 1 (s1 + 1) [(1, .int (s1 + 1)), (0, .ref a0)] d_X3_strikeOut_15 rfl rfl (by decide) rfl ?_
      refine zg_goto d_X3_strikeOut_18 ?_
      exact zg_finK (E := 0) [1, 0] rfl rfl (fun q => q)
  · refine zg_aload_n 0 rfl d_X3_strikeOut_21 ?_
    refine zg_cVi (b := a0) (As := []) (rest := []) (0, 0) d_X3_strikeOut_22 zc_3 rfl cw_X3_42 wi_X3_readable ws_X3_readable rfl rfl (Nat.le_of_ble_eq_true rfl) (by decide) (by decide) ⟨by decide, by decide⟩ rfl (t_X3_readable a0 h4) (fun v8 h7 => ?_)
    refine zg_iconst 1 rfl d_X3_strikeOut_25 ?_
    refine zg_isub d_X3_strikeOut_26 ?_
    refine zg_istore_n [(1, .int (v8 - 1)), (0, .ref a0)] d_X3_strikeOut_27 rfl (by decide) rfl ?_
    refine zg_bd (E := 69) (el := (fun (e11 : Int32) => [(0, .ref a0), (1, .int e11)])) (es := fun _ => []) (zg_sub [1, 0] rfl (zg_lp (el := (fun (s9 : Int32) => [(0, .ref a0), (1, .int s9)])) (fun s9 h10 => ?_) (v8 - 1) h7)) (fun e11 h12 => ?_)
    · refine zg_iload_n 1 rfl d_X3_strikeOut_28 ?_
      refine zg_if_lt d_X3_strikeOut_29 ?_ ?_
      · exact zg_finK (E := 0) [0, 1] rfl rfl (fun q => q)
      · refine zg_aload_n 0 rfl d_X3_strikeOut_32 ?_
        refine zg_getR d_X3_strikeOut_33 zc_3 (by decide) fl_X3_28 (fun v13 => ?_)
        refine zg_iload_n 1 rfl d_X3_strikeOut_36 ?_
        refine zg_ald2 d_X3_strikeOut_37 (fun v14 => ?_)
        refine zg_if_ne d_X3_strikeOut_38 ?_ ?_
        · refine zg_aload_n 0 rfl d_X3_strikeOut_41 ?_
          refine zg_getR d_X3_strikeOut_42 zc_3 (by decide) fl_X3_25 (fun v15 => ?_)
          refine zg_iload_n 1 rfl d_X3_strikeOut_45 ?_
          refine zg_ald0 d_X3_strikeOut_46 (fun v16 => ?_)
          refine zg_iconst (-1) rfl d_X3_strikeOut_47 ?_
          refine zg_icmp_eq d_X3_strikeOut_48 ?_ ?_
          · refine zg_iinc 1 (s9 + (-1)) [(1, .int (s9 + (-1))), (0, .ref a0)] d_X3_strikeOut_63 rfl rfl (by decide) rfl ?_
            refine zg_goto d_X3_strikeOut_66 ?_
            exact zg_finK (E := 0) [1, 0] rfl rfl (fun q => q)
          · refine zg_aload_n 0 rfl d_X3_strikeOut_51 ?_
            refine zg_getR d_X3_strikeOut_52 zc_3 (by decide) fl_X3_28 (fun v17 => ?_)
            refine zg_aload_n 0 rfl d_X3_strikeOut_55 ?_
            refine zg_getR d_X3_strikeOut_56 zc_3 (by decide) fl_X3_25 (fun v18 => ?_)
            refine zg_iload_n 1 rfl d_X3_strikeOut_59 ?_
            refine zg_ald0 d_X3_strikeOut_60 (fun v19 => ?_)
            refine zg_iconst 1 rfl d_X3_strikeOut_61 ?_
            refine zg_ast2 d_X3_strikeOut_62 (fun h20 => ?_)
            refine zg_iinc 1 (s9 + (-1)) [(1, .int (s9 + (-1))), (0, .ref a0)] d_X3_strikeOut_63 rfl rfl (by decide) rfl ?_
            refine zg_goto d_X3_strikeOut_66 ?_
            exact zg_finK (E := 0) [1, 0] rfl rfl (fun q => q)
        · refine zg_iinc 1 (s9 + (-1)) [(1, .int (s9 + (-1))), (0, .ref a0)] d_X3_strikeOut_63 rfl rfl (by decide) rfl ?_
          refine zg_goto d_X3_strikeOut_66 ?_
          exact zg_finK (E := 0) [1, 0] rfl rfl (fun q => q)
    · exact zg_vretK d_X3_strikeOut_69 rfl ⟨Nat.le_of_ble_eq_true rfl, Nat.le_of_ble_eq_true rfl⟩ (fun q => q)
abbrev M_X4_isDigit : zMt := (RX4, cX4_isDigit, 1, 1, 60, (some .boolean), "isDigit", 0, 0)
theorem d_X4_isDigit_0 : zDc M_X4_isDigit 0 (.iload_n 0) 1 1 := ⟨by decide +kernel, rfl⟩
theorem d_X4_isDigit_1 : zDc M_X4_isDigit 1 (.bipush 48) 2 3 := ⟨by decide +kernel, rfl⟩
theorem d_X4_isDigit_3 : zDj M_X4_isDigit 3 (.if_icmp .lt 13) 13 6 16 := ⟨by decide +kernel, rfl, by decide⟩
theorem d_X4_isDigit_6 : zDc M_X4_isDigit 6 (.iload_n 0) 1 7 := ⟨by decide +kernel, rfl⟩
theorem d_X4_isDigit_7 : zDc M_X4_isDigit 7 (.bipush 57) 2 9 := ⟨by decide +kernel, rfl⟩
theorem d_X4_isDigit_9 : zDj M_X4_isDigit 9 (.if_icmp .gt 7) 7 12 16 := ⟨by decide +kernel, rfl, by decide⟩
theorem d_X4_isDigit_12 : zDc M_X4_isDigit 12 (.iconst 1) 1 13 := ⟨by decide +kernel, rfl⟩
theorem d_X4_isDigit_13 : zDj M_X4_isDigit 13 (.goto 4) 4 16 17 := ⟨by decide +kernel, rfl, by decide⟩
theorem d_X4_isDigit_16 : zDc M_X4_isDigit 16 (.iconst 0) 1 17 := ⟨by decide +kernel, rfl⟩
theorem d_X4_isDigit_17 : zDc M_X4_isDigit 17 (.ireturn) 1 18 := ⟨by decide +kernel, rfl⟩
def f_X4_isDigit (a0 : Int32) (h0 : zHp) : Option (Int32 × zHp) :=
  if a0 < 48 then
  some (0, h0)
  else
  if 57 < a0 then
  some (0, h0)
  else
  some (1, h0)
set_option maxRecDepth 100000 in
set_option maxHeartbeats 4000000 in
theorem t_X4_isDigit (a0 : Int32) (h0 : zHp) : ∀ (r : Int32) (h' : zHp), f_X4_isDigit a0 h0 = some (r, h') → zCt yX4_isDigit (.code yX4_isDigit cX4_isDigit 1 (some .boolean)) 1 60 0 0 [.int a0] h0 (some (.int r)) h' := by
  refine zct_of M_X4_isDigit yX4_isDigit (by decide) rfl rfl [.int a0] h0 (Nat.le_of_ble_eq_true rfl) (fun r => some (.int r)) (fun X => ?_)
  show zG X M_X4_isDigit (0, 0) 0 [(0, .int a0)] [] h0 (f_X4_isDigit a0 h0) (fun (r : Int32) h' => zKe X (some (.int r)) h')
  unfold f_X4_isDigit
  refine zg_iload_n 0 rfl d_X4_isDigit_0 ?_
  refine zg_bipush 48 rfl d_X4_isDigit_1 ?_
  refine zg_icmp_lt d_X4_isDigit_3 ?_ ?_
  · refine zg_iconst 0 rfl d_X4_isDigit_16 ?_
    exact zg_zretK d_X4_isDigit_17 rfl ⟨Nat.le_of_ble_eq_true rfl, Nat.le_of_ble_eq_true rfl⟩ (Or.inl rfl) (fun q => q)
  · refine zg_iload_n 0 rfl d_X4_isDigit_6 ?_
    refine zg_bipush 57 rfl d_X4_isDigit_7 ?_
    refine zg_icmp_gt d_X4_isDigit_9 ?_ ?_
    · refine zg_iconst 0 rfl d_X4_isDigit_16 ?_
      exact zg_zretK d_X4_isDigit_17 rfl ⟨Nat.le_of_ble_eq_true rfl, Nat.le_of_ble_eq_true rfl⟩ (Or.inl rfl) (fun q => q)
    · refine zg_iconst 1 rfl d_X4_isDigit_12 ?_
      refine zg_goto d_X4_isDigit_13 ?_
      exact zg_zretK d_X4_isDigit_17 rfl ⟨Nat.le_of_ble_eq_true rfl, Nat.le_of_ble_eq_true rfl⟩ (Or.inr rfl) (fun q => q)
abbrev M_X4_isLetter : zMt := (RX4, cX4_isLetter, 1, 1, 60, (some .boolean), "isLetter", 0, 0)
theorem d_X4_isLetter_0 : zDc M_X4_isLetter 0 (.iload_n 0) 1 1 := ⟨by decide +kernel, rfl⟩
theorem d_X4_isLetter_1 : zDc M_X4_isLetter 1 (.bipush 97) 2 3 := ⟨by decide +kernel, rfl⟩
theorem d_X4_isLetter_3 : zDj M_X4_isLetter 3 (.if_icmp .lt 13) 13 6 16 := ⟨by decide +kernel, rfl, by decide⟩
theorem d_X4_isLetter_6 : zDc M_X4_isLetter 6 (.iload_n 0) 1 7 := ⟨by decide +kernel, rfl⟩
theorem d_X4_isLetter_7 : zDc M_X4_isLetter 7 (.bipush 122) 2 9 := ⟨by decide +kernel, rfl⟩
theorem d_X4_isLetter_9 : zDj M_X4_isLetter 9 (.if_icmp .gt 7) 7 12 16 := ⟨by decide +kernel, rfl, by decide⟩
theorem d_X4_isLetter_12 : zDc M_X4_isLetter 12 (.iconst 1) 1 13 := ⟨by decide +kernel, rfl⟩
theorem d_X4_isLetter_13 : zDj M_X4_isLetter 13 (.goto 4) 4 16 17 := ⟨by decide +kernel, rfl, by decide⟩
theorem d_X4_isLetter_16 : zDc M_X4_isLetter 16 (.iconst 0) 1 17 := ⟨by decide +kernel, rfl⟩
theorem d_X4_isLetter_17 : zDc M_X4_isLetter 17 (.ireturn) 1 18 := ⟨by decide +kernel, rfl⟩
def f_X4_isLetter (a0 : Int32) (h0 : zHp) : Option (Int32 × zHp) :=
  if a0 < 97 then
  some (0, h0)
  else
  if 122 < a0 then
  some (0, h0)
  else
  some (1, h0)
set_option maxRecDepth 100000 in
set_option maxHeartbeats 4000000 in
theorem t_X4_isLetter (a0 : Int32) (h0 : zHp) : ∀ (r : Int32) (h' : zHp), f_X4_isLetter a0 h0 = some (r, h') → zCt yX4_isLetter (.code yX4_isLetter cX4_isLetter 1 (some .boolean)) 1 60 0 0 [.int a0] h0 (some (.int r)) h' := by
  refine zct_of M_X4_isLetter yX4_isLetter (by decide) rfl rfl [.int a0] h0 (Nat.le_of_ble_eq_true rfl) (fun r => some (.int r)) (fun X => ?_)
  show zG X M_X4_isLetter (0, 0) 0 [(0, .int a0)] [] h0 (f_X4_isLetter a0 h0) (fun (r : Int32) h' => zKe X (some (.int r)) h')
  unfold f_X4_isLetter
  refine zg_iload_n 0 rfl d_X4_isLetter_0 ?_
  refine zg_bipush 97 rfl d_X4_isLetter_1 ?_
  refine zg_icmp_lt d_X4_isLetter_3 ?_ ?_
  · refine zg_iconst 0 rfl d_X4_isLetter_16 ?_
    exact zg_zretK d_X4_isLetter_17 rfl ⟨Nat.le_of_ble_eq_true rfl, Nat.le_of_ble_eq_true rfl⟩ (Or.inl rfl) (fun q => q)
  · refine zg_iload_n 0 rfl d_X4_isLetter_6 ?_
    refine zg_bipush 122 rfl d_X4_isLetter_7 ?_
    refine zg_icmp_gt d_X4_isLetter_9 ?_ ?_
    · refine zg_iconst 0 rfl d_X4_isLetter_16 ?_
      exact zg_zretK d_X4_isLetter_17 rfl ⟨Nat.le_of_ble_eq_true rfl, Nat.le_of_ble_eq_true rfl⟩ (Or.inl rfl) (fun q => q)
    · refine zg_iconst 1 rfl d_X4_isLetter_12 ?_
      refine zg_goto d_X4_isLetter_13 ?_
      exact zg_zretK d_X4_isLetter_17 rfl ⟨Nat.le_of_ble_eq_true rfl, Nat.le_of_ble_eq_true rfl⟩ (Or.inr rfl) (fun q => q)
abbrev M_X4_signToken : zMt := (RX4, cX4_signToken, 2, 1, 60, (some .int), "signToken", 0, 0)
theorem d_X4_signToken_0 : zDc M_X4_signToken 0 (.iload_n 0) 1 1 := ⟨by decide +kernel, rfl⟩
theorem d_X4_signToken_1 : decode M_X4_signToken.2.1 1 = .ok (.tableswitch 170 40 62 #[161, 164, 113, 107, 170, 110, 170, 116, 170, 170, 170, 170, 170, 170, 170, 170, 170, 170, 170, 167, 119, 144, 147], 107) := by decide +kernel
theorem d_X4_signToken_108 : zDc M_X4_signToken 108 (.bipush 23) 2 110 := ⟨by decide +kernel, rfl⟩
theorem d_X4_signToken_110 : zDc M_X4_signToken 110 (.ireturn) 1 111 := ⟨by decide +kernel, rfl⟩
theorem d_X4_signToken_111 : zDc M_X4_signToken 111 (.bipush 24) 2 113 := ⟨by decide +kernel, rfl⟩
theorem d_X4_signToken_113 : zDc M_X4_signToken 113 (.ireturn) 1 114 := ⟨by decide +kernel, rfl⟩
theorem d_X4_signToken_114 : zDc M_X4_signToken 114 (.bipush 25) 2 116 := ⟨by decide +kernel, rfl⟩
theorem d_X4_signToken_116 : zDc M_X4_signToken 116 (.ireturn) 1 117 := ⟨by decide +kernel, rfl⟩
theorem d_X4_signToken_117 : zDc M_X4_signToken 117 (.bipush 26) 2 119 := ⟨by decide +kernel, rfl⟩
theorem d_X4_signToken_119 : zDc M_X4_signToken 119 (.ireturn) 1 120 := ⟨by decide +kernel, rfl⟩
theorem d_X4_signToken_120 : zDc M_X4_signToken 120 (.iload_n 1) 1 121 := ⟨by decide +kernel, rfl⟩
theorem d_X4_signToken_121 : zDc M_X4_signToken 121 (.bipush 61) 2 123 := ⟨by decide +kernel, rfl⟩
theorem d_X4_signToken_123 : zDj M_X4_signToken 123 (.if_icmp .ne 8) 8 126 131 := ⟨by decide +kernel, rfl, by decide⟩
theorem d_X4_signToken_126 : zDc M_X4_signToken 126 (.bipush 28) 2 128 := ⟨by decide +kernel, rfl⟩
theorem d_X4_signToken_128 : zDj M_X4_signToken 128 (.goto 16) 16 131 144 := ⟨by decide +kernel, rfl, by decide⟩
theorem d_X4_signToken_131 : zDc M_X4_signToken 131 (.iload_n 1) 1 132 := ⟨by decide +kernel, rfl⟩
theorem d_X4_signToken_132 : zDc M_X4_signToken 132 (.bipush 62) 2 134 := ⟨by decide +kernel, rfl⟩
theorem d_X4_signToken_134 : zDj M_X4_signToken 134 (.if_icmp .ne 8) 8 137 142 := ⟨by decide +kernel, rfl, by decide⟩
theorem d_X4_signToken_137 : zDc M_X4_signToken 137 (.bipush 30) 2 139 := ⟨by decide +kernel, rfl⟩
theorem d_X4_signToken_139 : zDj M_X4_signToken 139 (.goto 5) 5 142 144 := ⟨by decide +kernel, rfl, by decide⟩
theorem d_X4_signToken_142 : zDc M_X4_signToken 142 (.bipush 27) 2 144 := ⟨by decide +kernel, rfl⟩
theorem d_X4_signToken_144 : zDc M_X4_signToken 144 (.ireturn) 1 145 := ⟨by decide +kernel, rfl⟩
theorem d_X4_signToken_145 : zDc M_X4_signToken 145 (.bipush 29) 2 147 := ⟨by decide +kernel, rfl⟩
theorem d_X4_signToken_147 : zDc M_X4_signToken 147 (.ireturn) 1 148 := ⟨by decide +kernel, rfl⟩
theorem d_X4_signToken_148 : zDc M_X4_signToken 148 (.iload_n 1) 1 149 := ⟨by decide +kernel, rfl⟩
theorem d_X4_signToken_149 : zDc M_X4_signToken 149 (.bipush 61) 2 151 := ⟨by decide +kernel, rfl⟩
theorem d_X4_signToken_151 : zDj M_X4_signToken 151 (.if_icmp .ne 8) 8 154 159 := ⟨by decide +kernel, rfl, by decide⟩
theorem d_X4_signToken_154 : zDc M_X4_signToken 154 (.bipush 31) 2 156 := ⟨by decide +kernel, rfl⟩
theorem d_X4_signToken_156 : zDj M_X4_signToken 156 (.goto 5) 5 159 161 := ⟨by decide +kernel, rfl, by decide⟩
theorem d_X4_signToken_159 : zDc M_X4_signToken 159 (.bipush 32) 2 161 := ⟨by decide +kernel, rfl⟩
theorem d_X4_signToken_161 : zDc M_X4_signToken 161 (.ireturn) 1 162 := ⟨by decide +kernel, rfl⟩
theorem d_X4_signToken_162 : zDc M_X4_signToken 162 (.bipush 33) 2 164 := ⟨by decide +kernel, rfl⟩
theorem d_X4_signToken_164 : zDc M_X4_signToken 164 (.ireturn) 1 165 := ⟨by decide +kernel, rfl⟩
theorem d_X4_signToken_165 : zDc M_X4_signToken 165 (.bipush 34) 2 167 := ⟨by decide +kernel, rfl⟩
theorem d_X4_signToken_167 : zDc M_X4_signToken 167 (.ireturn) 1 168 := ⟨by decide +kernel, rfl⟩
theorem d_X4_signToken_168 : zDc M_X4_signToken 168 (.bipush 35) 2 170 := ⟨by decide +kernel, rfl⟩
theorem d_X4_signToken_170 : zDc M_X4_signToken 170 (.ireturn) 1 171 := ⟨by decide +kernel, rfl⟩
theorem d_X4_signToken_171 : zDc M_X4_signToken 171 (.bipush 39) 2 173 := ⟨by decide +kernel, rfl⟩
theorem d_X4_signToken_173 : zDc M_X4_signToken 173 (.ireturn) 1 174 := ⟨by decide +kernel, rfl⟩
def f_X4_signToken (a0 : Int32) (a1 : Int32) (h0 : zHp) : Option (Int32 × zHp) :=
  if a0 = 40 then
  some (33, h0)
  else if a0 = 41 then
  some (34, h0)
  else if a0 = 42 then
  some (25, h0)
  else if a0 = 43 then
  some (23, h0)
  else if a0 = 44 then
  some (39, h0)
  else if a0 = 45 then
  some (24, h0)
  else if a0 = 46 then
  some (39, h0)
  else if a0 = 47 then
  some (26, h0)
  else if a0 = 48 then
  some (39, h0)
  else if a0 = 49 then
  some (39, h0)
  else if a0 = 50 then
  some (39, h0)
  else if a0 = 51 then
  some (39, h0)
  else if a0 = 52 then
  some (39, h0)
  else if a0 = 53 then
  some (39, h0)
  else if a0 = 54 then
  some (39, h0)
  else if a0 = 55 then
  some (39, h0)
  else if a0 = 56 then
  some (39, h0)
  else if a0 = 57 then
  some (39, h0)
  else if a0 = 58 then
  some (39, h0)
  else if a0 = 59 then
  some (35, h0)
  else if a0 = 60 then
  if a1 = 61 then
  some (28, h0)
  else
  if a1 = 62 then
  some (30, h0)
  else
  some (27, h0)
  else if a0 = 61 then
  some (29, h0)
  else if a0 = 62 then
  if a1 = 61 then
  some (31, h0)
  else
  some (32, h0)
  else 
  some (39, h0)
set_option maxRecDepth 100000 in
set_option maxHeartbeats 4000000 in
theorem t_X4_signToken (a0 : Int32) (a1 : Int32) (h0 : zHp) : ∀ (r : Int32) (h' : zHp), f_X4_signToken a0 a1 h0 = some (r, h') → zCt yX4_signToken (.code yX4_signToken cX4_signToken 2 (some .int)) 1 60 0 0 [.int a0, .int a1] h0 (some (.int r)) h' := by
  refine zct_of M_X4_signToken yX4_signToken (by decide) rfl rfl [.int a0, .int a1] h0 (Nat.le_of_ble_eq_true rfl) (fun r => some (.int r)) (fun X => ?_)
  show zG X M_X4_signToken (0, 0) 0 [(0, .int a0), (1, .int a1)] [] h0 (f_X4_signToken a0 a1 h0) (fun (r : Int32) h' => zKe X (some (.int r)) h')
  unfold f_X4_signToken
  refine zg_iload_n 0 rfl d_X4_signToken_0 ?_
  refine zg_if (fun n1 => ?_) (fun n1 => ?_)
  · refine zg_tabE n1 d_X4_signToken_1 (by decide) (by decide) (off := 161) rfl (tgt := 162) (by decide) ?_
    refine zg_bipush 33 rfl d_X4_signToken_162 ?_
    exact zg_iretK d_X4_signToken_164 rfl ⟨Nat.le_of_ble_eq_true rfl, Nat.le_of_ble_eq_true rfl⟩ (fun q => q)
  refine zg_if (fun n2 => ?_) (fun n2 => ?_)
  · refine zg_tabE n2 d_X4_signToken_1 (by decide) (by decide) (off := 164) rfl (tgt := 165) (by decide) ?_
    refine zg_bipush 34 rfl d_X4_signToken_165 ?_
    exact zg_iretK d_X4_signToken_167 rfl ⟨Nat.le_of_ble_eq_true rfl, Nat.le_of_ble_eq_true rfl⟩ (fun q => q)
  refine zg_if (fun n3 => ?_) (fun n3 => ?_)
  · refine zg_tabE n3 d_X4_signToken_1 (by decide) (by decide) (off := 113) rfl (tgt := 114) (by decide) ?_
    refine zg_bipush 25 rfl d_X4_signToken_114 ?_
    exact zg_iretK d_X4_signToken_116 rfl ⟨Nat.le_of_ble_eq_true rfl, Nat.le_of_ble_eq_true rfl⟩ (fun q => q)
  refine zg_if (fun n4 => ?_) (fun n4 => ?_)
  · refine zg_tabE n4 d_X4_signToken_1 (by decide) (by decide) (off := 107) rfl (tgt := 108) (by decide) ?_
    refine zg_bipush 23 rfl d_X4_signToken_108 ?_
    exact zg_iretK d_X4_signToken_110 rfl ⟨Nat.le_of_ble_eq_true rfl, Nat.le_of_ble_eq_true rfl⟩ (fun q => q)
  refine zg_if (fun n5 => ?_) (fun n5 => ?_)
  · refine zg_tabE n5 d_X4_signToken_1 (by decide) (by decide) (off := 170) rfl (tgt := 171) (by decide) ?_
    refine zg_bipush 39 rfl d_X4_signToken_171 ?_
    exact zg_iretK d_X4_signToken_173 rfl ⟨Nat.le_of_ble_eq_true rfl, Nat.le_of_ble_eq_true rfl⟩ (fun q => q)
  refine zg_if (fun n6 => ?_) (fun n6 => ?_)
  · refine zg_tabE n6 d_X4_signToken_1 (by decide) (by decide) (off := 110) rfl (tgt := 111) (by decide) ?_
    refine zg_bipush 24 rfl d_X4_signToken_111 ?_
    exact zg_iretK d_X4_signToken_113 rfl ⟨Nat.le_of_ble_eq_true rfl, Nat.le_of_ble_eq_true rfl⟩ (fun q => q)
  refine zg_if (fun n7 => ?_) (fun n7 => ?_)
  · refine zg_tabE n7 d_X4_signToken_1 (by decide) (by decide) (off := 170) rfl (tgt := 171) (by decide) ?_
    refine zg_bipush 39 rfl d_X4_signToken_171 ?_
    exact zg_iretK d_X4_signToken_173 rfl ⟨Nat.le_of_ble_eq_true rfl, Nat.le_of_ble_eq_true rfl⟩ (fun q => q)
  refine zg_if (fun n8 => ?_) (fun n8 => ?_)
  · refine zg_tabE n8 d_X4_signToken_1 (by decide) (by decide) (off := 116) rfl (tgt := 117) (by decide) ?_
    refine zg_bipush 26 rfl d_X4_signToken_117 ?_
    exact zg_iretK d_X4_signToken_119 rfl ⟨Nat.le_of_ble_eq_true rfl, Nat.le_of_ble_eq_true rfl⟩ (fun q => q)
  refine zg_if (fun n9 => ?_) (fun n9 => ?_)
  · refine zg_tabE n9 d_X4_signToken_1 (by decide) (by decide) (off := 170) rfl (tgt := 171) (by decide) ?_
    refine zg_bipush 39 rfl d_X4_signToken_171 ?_
    exact zg_iretK d_X4_signToken_173 rfl ⟨Nat.le_of_ble_eq_true rfl, Nat.le_of_ble_eq_true rfl⟩ (fun q => q)
  refine zg_if (fun n10 => ?_) (fun n10 => ?_)
  · refine zg_tabE n10 d_X4_signToken_1 (by decide) (by decide) (off := 170) rfl (tgt := 171) (by decide) ?_
    refine zg_bipush 39 rfl d_X4_signToken_171 ?_
    exact zg_iretK d_X4_signToken_173 rfl ⟨Nat.le_of_ble_eq_true rfl, Nat.le_of_ble_eq_true rfl⟩ (fun q => q)
  refine zg_if (fun n11 => ?_) (fun n11 => ?_)
  · refine zg_tabE n11 d_X4_signToken_1 (by decide) (by decide) (off := 170) rfl (tgt := 171) (by decide) ?_
    refine zg_bipush 39 rfl d_X4_signToken_171 ?_
    exact zg_iretK d_X4_signToken_173 rfl ⟨Nat.le_of_ble_eq_true rfl, Nat.le_of_ble_eq_true rfl⟩ (fun q => q)
  refine zg_if (fun n12 => ?_) (fun n12 => ?_)
  · refine zg_tabE n12 d_X4_signToken_1 (by decide) (by decide) (off := 170) rfl (tgt := 171) (by decide) ?_
    refine zg_bipush 39 rfl d_X4_signToken_171 ?_
    exact zg_iretK d_X4_signToken_173 rfl ⟨Nat.le_of_ble_eq_true rfl, Nat.le_of_ble_eq_true rfl⟩ (fun q => q)
  refine zg_if (fun n13 => ?_) (fun n13 => ?_)
  · refine zg_tabE n13 d_X4_signToken_1 (by decide) (by decide) (off := 170) rfl (tgt := 171) (by decide) ?_
    refine zg_bipush 39 rfl d_X4_signToken_171 ?_
    exact zg_iretK d_X4_signToken_173 rfl ⟨Nat.le_of_ble_eq_true rfl, Nat.le_of_ble_eq_true rfl⟩ (fun q => q)
  refine zg_if (fun n14 => ?_) (fun n14 => ?_)
  · refine zg_tabE n14 d_X4_signToken_1 (by decide) (by decide) (off := 170) rfl (tgt := 171) (by decide) ?_
    refine zg_bipush 39 rfl d_X4_signToken_171 ?_
    exact zg_iretK d_X4_signToken_173 rfl ⟨Nat.le_of_ble_eq_true rfl, Nat.le_of_ble_eq_true rfl⟩ (fun q => q)
  refine zg_if (fun n15 => ?_) (fun n15 => ?_)
  · refine zg_tabE n15 d_X4_signToken_1 (by decide) (by decide) (off := 170) rfl (tgt := 171) (by decide) ?_
    refine zg_bipush 39 rfl d_X4_signToken_171 ?_
    exact zg_iretK d_X4_signToken_173 rfl ⟨Nat.le_of_ble_eq_true rfl, Nat.le_of_ble_eq_true rfl⟩ (fun q => q)
  refine zg_if (fun n16 => ?_) (fun n16 => ?_)
  · refine zg_tabE n16 d_X4_signToken_1 (by decide) (by decide) (off := 170) rfl (tgt := 171) (by decide) ?_
    refine zg_bipush 39 rfl d_X4_signToken_171 ?_
    exact zg_iretK d_X4_signToken_173 rfl ⟨Nat.le_of_ble_eq_true rfl, Nat.le_of_ble_eq_true rfl⟩ (fun q => q)
  refine zg_if (fun n17 => ?_) (fun n17 => ?_)
  · refine zg_tabE n17 d_X4_signToken_1 (by decide) (by decide) (off := 170) rfl (tgt := 171) (by decide) ?_
    refine zg_bipush 39 rfl d_X4_signToken_171 ?_
    exact zg_iretK d_X4_signToken_173 rfl ⟨Nat.le_of_ble_eq_true rfl, Nat.le_of_ble_eq_true rfl⟩ (fun q => q)
  refine zg_if (fun n18 => ?_) (fun n18 => ?_)
  · refine zg_tabE n18 d_X4_signToken_1 (by decide) (by decide) (off := 170) rfl (tgt := 171) (by decide) ?_
    refine zg_bipush 39 rfl d_X4_signToken_171 ?_
    exact zg_iretK d_X4_signToken_173 rfl ⟨Nat.le_of_ble_eq_true rfl, Nat.le_of_ble_eq_true rfl⟩ (fun q => q)
  refine zg_if (fun n19 => ?_) (fun n19 => ?_)
  · refine zg_tabE n19 d_X4_signToken_1 (by decide) (by decide) (off := 170) rfl (tgt := 171) (by decide) ?_
    refine zg_bipush 39 rfl d_X4_signToken_171 ?_
    exact zg_iretK d_X4_signToken_173 rfl ⟨Nat.le_of_ble_eq_true rfl, Nat.le_of_ble_eq_true rfl⟩ (fun q => q)
  refine zg_if (fun n20 => ?_) (fun n20 => ?_)
  · refine zg_tabE n20 d_X4_signToken_1 (by decide) (by decide) (off := 167) rfl (tgt := 168) (by decide) ?_
    refine zg_bipush 35 rfl d_X4_signToken_168 ?_
    exact zg_iretK d_X4_signToken_170 rfl ⟨Nat.le_of_ble_eq_true rfl, Nat.le_of_ble_eq_true rfl⟩ (fun q => q)
  refine zg_if (fun n21 => ?_) (fun n21 => ?_)
  · refine zg_tabE n21 d_X4_signToken_1 (by decide) (by decide) (off := 119) rfl (tgt := 120) (by decide) ?_
    refine zg_iload_n 1 rfl d_X4_signToken_120 ?_
    refine zg_bipush 61 rfl d_X4_signToken_121 ?_
    refine zg_icmp_ne d_X4_signToken_123 ?_ ?_
    · refine zg_bipush 28 rfl d_X4_signToken_126 ?_
      refine zg_goto d_X4_signToken_128 ?_
      exact zg_iretK d_X4_signToken_144 rfl ⟨Nat.le_of_ble_eq_true rfl, Nat.le_of_ble_eq_true rfl⟩ (fun q => q)
    · refine zg_iload_n 1 rfl d_X4_signToken_131 ?_
      refine zg_bipush 62 rfl d_X4_signToken_132 ?_
      refine zg_icmp_ne d_X4_signToken_134 ?_ ?_
      · refine zg_bipush 30 rfl d_X4_signToken_137 ?_
        refine zg_goto d_X4_signToken_139 ?_
        exact zg_iretK d_X4_signToken_144 rfl ⟨Nat.le_of_ble_eq_true rfl, Nat.le_of_ble_eq_true rfl⟩ (fun q => q)
      · refine zg_bipush 27 rfl d_X4_signToken_142 ?_
        exact zg_iretK d_X4_signToken_144 rfl ⟨Nat.le_of_ble_eq_true rfl, Nat.le_of_ble_eq_true rfl⟩ (fun q => q)
  refine zg_if (fun n22 => ?_) (fun n22 => ?_)
  · refine zg_tabE n22 d_X4_signToken_1 (by decide) (by decide) (off := 144) rfl (tgt := 145) (by decide) ?_
    refine zg_bipush 29 rfl d_X4_signToken_145 ?_
    exact zg_iretK d_X4_signToken_147 rfl ⟨Nat.le_of_ble_eq_true rfl, Nat.le_of_ble_eq_true rfl⟩ (fun q => q)
  refine zg_if (fun n23 => ?_) (fun n23 => ?_)
  · refine zg_tabE n23 d_X4_signToken_1 (by decide) (by decide) (off := 147) rfl (tgt := 148) (by decide) ?_
    refine zg_iload_n 1 rfl d_X4_signToken_148 ?_
    refine zg_bipush 61 rfl d_X4_signToken_149 ?_
    refine zg_icmp_ne d_X4_signToken_151 ?_ ?_
    · refine zg_bipush 31 rfl d_X4_signToken_154 ?_
      refine zg_goto d_X4_signToken_156 ?_
      exact zg_iretK d_X4_signToken_161 rfl ⟨Nat.le_of_ble_eq_true rfl, Nat.le_of_ble_eq_true rfl⟩ (fun q => q)
    · refine zg_bipush 32 rfl d_X4_signToken_159 ?_
      exact zg_iretK d_X4_signToken_161 rfl ⟨Nat.le_of_ble_eq_true rfl, Nat.le_of_ble_eq_true rfl⟩ (fun q => q)
  refine zg_tabO d_X4_signToken_1 (by have q0 := lv_neT n1 (a := 40) rfl; have q1 := lv_neT n2 (a := 41) rfl; have q2 := lv_neT n3 (a := 42) rfl; have q3 := lv_neT n4 (a := 43) rfl; have q4 := lv_neT n5 (a := 44) rfl; have q5 := lv_neT n6 (a := 45) rfl; have q6 := lv_neT n7 (a := 46) rfl; have q7 := lv_neT n8 (a := 47) rfl; have q8 := lv_neT n9 (a := 48) rfl; have q9 := lv_neT n10 (a := 49) rfl; have q10 := lv_neT n11 (a := 50) rfl; have q11 := lv_neT n12 (a := 51) rfl; have q12 := lv_neT n13 (a := 52) rfl; have q13 := lv_neT n14 (a := 53) rfl; have q14 := lv_neT n15 (a := 54) rfl; have q15 := lv_neT n16 (a := 55) rfl; have q16 := lv_neT n17 (a := 56) rfl; have q17 := lv_neT n18 (a := 57) rfl; have q18 := lv_neT n19 (a := 58) rfl; have q19 := lv_neT n20 (a := 59) rfl; have q20 := lv_neT n21 (a := 60) rfl; have q21 := lv_neT n22 (a := 61) rfl; have q22 := lv_neT n23 (a := 62) rfl; omega) (tgt := 171) (by decide) ?_
  refine zg_bipush 39 rfl d_X4_signToken_171 ?_
  exact zg_iretK d_X4_signToken_173 rfl ⟨Nat.le_of_ble_eq_true rfl, Nat.le_of_ble_eq_true rfl⟩ (fun q => q)
abbrev M_X4_takeNumber : zMt := (RX4, cX4_takeNumber, 1, 1, 60, none, "takeNumber", 0, 0)
theorem d_X4_takeNumber_0 : zDc M_X4_takeNumber 0 (.aload_n 0) 1 1 := ⟨by decide +kernel, rfl⟩
theorem d_X4_takeNumber_1 : zDc M_X4_takeNumber 1 (.iconst 0) 1 2 := ⟨by decide +kernel, rfl⟩
theorem d_X4_takeNumber_2 : zDc M_X4_takeNumber 2 (.putfield 108) 3 5 := ⟨by decide +kernel, rfl⟩
theorem d_X4_takeNumber_5 : zDc M_X4_takeNumber 5 (.aload_n 0) 1 6 := ⟨by decide +kernel, rfl⟩
theorem d_X4_takeNumber_6 : zDc M_X4_takeNumber 6 (.getfield 56) 3 9 := ⟨by decide +kernel, rfl⟩
theorem d_X4_takeNumber_9 : zDc M_X4_takeNumber 9 (.aload_n 0) 1 10 := ⟨by decide +kernel, rfl⟩
theorem d_X4_takeNumber_10 : zDc M_X4_takeNumber 10 (.getfield 53) 3 13 := ⟨by decide +kernel, rfl⟩
theorem d_X4_takeNumber_13 : zDj M_X4_takeNumber 13 (.if_icmp .ge 73) 73 16 86 := ⟨by decide +kernel, rfl, by decide⟩
theorem d_X4_takeNumber_16 : zDc M_X4_takeNumber 16 (.aload_n 0) 1 17 := ⟨by decide +kernel, rfl⟩
theorem d_X4_takeNumber_17 : zDc M_X4_takeNumber 17 (.getfield 15) 3 20 := ⟨by decide +kernel, rfl⟩
theorem d_X4_takeNumber_20 : zDc M_X4_takeNumber 20 (.aload_n 0) 1 21 := ⟨by decide +kernel, rfl⟩
theorem d_X4_takeNumber_21 : zDc M_X4_takeNumber 21 (.getfield 56) 3 24 := ⟨by decide +kernel, rfl⟩
theorem d_X4_takeNumber_24 : zDc M_X4_takeNumber 24 (.baload) 1 25 := ⟨by decide +kernel, rfl⟩
theorem d_X4_takeNumber_25 : zDc M_X4_takeNumber 25 (.bipush 48) 2 27 := ⟨by decide +kernel, rfl⟩
theorem d_X4_takeNumber_27 : zDj M_X4_takeNumber 27 (.if_icmp .lt 59) 59 30 86 := ⟨by decide +kernel, rfl, by decide⟩
theorem d_X4_takeNumber_30 : zDc M_X4_takeNumber 30 (.aload_n 0) 1 31 := ⟨by decide +kernel, rfl⟩
theorem d_X4_takeNumber_31 : zDc M_X4_takeNumber 31 (.getfield 15) 3 34 := ⟨by decide +kernel, rfl⟩
theorem d_X4_takeNumber_34 : zDc M_X4_takeNumber 34 (.aload_n 0) 1 35 := ⟨by decide +kernel, rfl⟩
theorem d_X4_takeNumber_35 : zDc M_X4_takeNumber 35 (.getfield 56) 3 38 := ⟨by decide +kernel, rfl⟩
theorem d_X4_takeNumber_38 : zDc M_X4_takeNumber 38 (.baload) 1 39 := ⟨by decide +kernel, rfl⟩
theorem d_X4_takeNumber_39 : zDc M_X4_takeNumber 39 (.bipush 57) 2 41 := ⟨by decide +kernel, rfl⟩
theorem d_X4_takeNumber_41 : zDj M_X4_takeNumber 41 (.if_icmp .gt 45) 45 44 86 := ⟨by decide +kernel, rfl, by decide⟩
theorem d_X4_takeNumber_44 : zDc M_X4_takeNumber 44 (.aload_n 0) 1 45 := ⟨by decide +kernel, rfl⟩
theorem d_X4_takeNumber_45 : zDc M_X4_takeNumber 45 (.ldc 111) 2 47 := ⟨by decide +kernel, rfl⟩
theorem d_X4_takeNumber_47 : zDc M_X4_takeNumber 47 (.aload_n 0) 1 48 := ⟨by decide +kernel, rfl⟩
theorem d_X4_takeNumber_48 : zDc M_X4_takeNumber 48 (.getfield 108) 3 51 := ⟨by decide +kernel, rfl⟩
theorem d_X4_takeNumber_51 : zDc M_X4_takeNumber 51 (.bipush 10) 2 53 := ⟨by decide +kernel, rfl⟩
theorem d_X4_takeNumber_53 : zDc M_X4_takeNumber 53 (.imul) 1 54 := ⟨by decide +kernel, rfl⟩
theorem d_X4_takeNumber_54 : zDc M_X4_takeNumber 54 (.aload_n 0) 1 55 := ⟨by decide +kernel, rfl⟩
theorem d_X4_takeNumber_55 : zDc M_X4_takeNumber 55 (.getfield 15) 3 58 := ⟨by decide +kernel, rfl⟩
theorem d_X4_takeNumber_58 : zDc M_X4_takeNumber 58 (.aload_n 0) 1 59 := ⟨by decide +kernel, rfl⟩
theorem d_X4_takeNumber_59 : zDc M_X4_takeNumber 59 (.getfield 56) 3 62 := ⟨by decide +kernel, rfl⟩
theorem d_X4_takeNumber_62 : zDc M_X4_takeNumber 62 (.baload) 1 63 := ⟨by decide +kernel, rfl⟩
theorem d_X4_takeNumber_63 : zDc M_X4_takeNumber 63 (.iadd) 1 64 := ⟨by decide +kernel, rfl⟩
theorem d_X4_takeNumber_64 : zDc M_X4_takeNumber 64 (.bipush 48) 2 66 := ⟨by decide +kernel, rfl⟩
theorem d_X4_takeNumber_66 : zDc M_X4_takeNumber 66 (.isub) 1 67 := ⟨by decide +kernel, rfl⟩
theorem d_X4_takeNumber_67 : zDc M_X4_takeNumber 67 (.invokestatic 47) 3 70 := ⟨by decide +kernel, rfl⟩
theorem d_X4_takeNumber_70 : zDc M_X4_takeNumber 70 (.putfield 108) 3 73 := ⟨by decide +kernel, rfl⟩
theorem d_X4_takeNumber_73 : zDc M_X4_takeNumber 73 (.aload_n 0) 1 74 := ⟨by decide +kernel, rfl⟩
theorem d_X4_takeNumber_74 : zDc M_X4_takeNumber 74 (.dup) 1 75 := ⟨by decide +kernel, rfl⟩
theorem d_X4_takeNumber_75 : zDc M_X4_takeNumber 75 (.getfield 56) 3 78 := ⟨by decide +kernel, rfl⟩
theorem d_X4_takeNumber_78 : zDc M_X4_takeNumber 78 (.iconst 1) 1 79 := ⟨by decide +kernel, rfl⟩
theorem d_X4_takeNumber_79 : zDc M_X4_takeNumber 79 (.iadd) 1 80 := ⟨by decide +kernel, rfl⟩
theorem d_X4_takeNumber_80 : zDc M_X4_takeNumber 80 (.putfield 56) 3 83 := ⟨by decide +kernel, rfl⟩
theorem d_X4_takeNumber_83 : zDj M_X4_takeNumber 83 (.goto (-78)) (-78) 86 5 := ⟨by decide +kernel, rfl, by decide⟩
theorem d_X4_takeNumber_86 : zDc M_X4_takeNumber 86 (.return_) 1 87 := ⟨by decide +kernel, rfl⟩
def f_X4_takeNumber (a0 : Nat) (h0 : zHp) : Option (Unit × zHp) :=
  zob (zpV h0 a0 4 6 (.int 0)) (fun h1 =>
  zbd (
  zlp (σ := Unit) (β := Unit) zLF (fun s2 h3 =>
  zob (zgI h3 a0 4 3) (fun v6 =>
  zob (zgI h3 a0 4 2) (fun v7 =>
  if v7 ≤ v6 then
  some ((.inr ()), h3)
  else
  zob (zgR h3 a0 4 1) (fun v8 =>
  zob (zgI h3 a0 4 3) (fun v9 =>
  zob (zaI 1 h3 v8 v9) (fun v10 =>
  if v10 < 48 then
  some ((.inr ()), h3)
  else
  zob (zgR h3 a0 4 1) (fun v11 =>
  zob (zgI h3 a0 4 3) (fun v12 =>
  zob (zaI 1 h3 v11 v12) (fun v13 =>
  if 57 < v13 then
  some ((.inr ()), h3)
  else
  zob (zgI h3 a0 4 6) (fun v14 =>
  zob (zgR h3 a0 4 1) (fun v15 =>
  zob (zgI h3 a0 4 3) (fun v16 =>
  zob (zaI 1 h3 v15 v16) (fun v17 =>
  zob (zpV h3 a0 4 6 (.int (zmn 1000000 (((v14 * 10) + v17) - 48)))) (fun h18 =>
  zob (zgI h18 a0 4 3) (fun v19 =>
  zob (zpV h18 a0 4 3 (.int (v19 + 1))) (fun h20 =>
  some ((.inl ()), h20))))))))))))))))) () h1) (fun e4 h5 =>
  some ((), h5)))
set_option maxRecDepth 100000 in
set_option maxHeartbeats 4000000 in
theorem t_X4_takeNumber (a0 : Nat) (h0 : zHp) : ∀ (r : Unit) (h' : zHp), f_X4_takeNumber a0 h0 = some (r, h') → zCt yX4_takeNumber (.code yX4_takeNumber cX4_takeNumber 1 none) 1 60 0 0 [.ref a0] h0 (none) h' := by
  refine zct_of M_X4_takeNumber yX4_takeNumber (by decide) rfl rfl [.ref a0] h0 (Nat.le_of_ble_eq_true rfl) (fun _ => none) (fun X => ?_)
  show zG X M_X4_takeNumber (0, 0) 0 [(0, .ref a0)] [] h0 (f_X4_takeNumber a0 h0) (fun (_ : Unit) h' => zKe X (none) h')
  unfold f_X4_takeNumber
  refine zg_aload_n 0 rfl d_X4_takeNumber_0 ?_
  refine zg_iconst 0 rfl d_X4_takeNumber_1 ?_
  refine zg_putV d_X4_takeNumber_2 zc_4 (by decide) fl_X4_108 rfl rfl rfl (fun h1 => ?_)
  refine zg_bd (E := 86) (el := (fun (e4 : Unit) => [(0, .ref a0)])) (es := fun _ => []) (zg_sub [0] rfl (zg_lp (el := (fun (s2 : Unit) => [(0, .ref a0)])) (fun s2 h3 => ?_) () h1)) (fun e4 h5 => ?_)
  · refine zg_aload_n 0 rfl d_X4_takeNumber_5 ?_
    refine zg_getI d_X4_takeNumber_6 zc_4 (by decide) fl_X4_56 (fun v6 => ?_)
    refine zg_aload_n 0 rfl d_X4_takeNumber_9 ?_
    refine zg_getI d_X4_takeNumber_10 zc_4 (by decide) fl_X4_53 (fun v7 => ?_)
    refine zg_icmp_ge d_X4_takeNumber_13 ?_ ?_
    · exact zg_finK (E := 0) [0] rfl rfl (fun q => q)
    · refine zg_aload_n 0 rfl d_X4_takeNumber_16 ?_
      refine zg_getR d_X4_takeNumber_17 zc_4 (by decide) fl_X4_15 (fun v8 => ?_)
      refine zg_aload_n 0 rfl d_X4_takeNumber_20 ?_
      refine zg_getI d_X4_takeNumber_21 zc_4 (by decide) fl_X4_56 (fun v9 => ?_)
      refine zg_ald1 d_X4_takeNumber_24 (fun v10 => ?_)
      refine zg_bipush 48 rfl d_X4_takeNumber_25 ?_
      refine zg_icmp_lt d_X4_takeNumber_27 ?_ ?_
      · exact zg_finK (E := 0) [0] rfl rfl (fun q => q)
      · refine zg_aload_n 0 rfl d_X4_takeNumber_30 ?_
        refine zg_getR d_X4_takeNumber_31 zc_4 (by decide) fl_X4_15 (fun v11 => ?_)
        refine zg_aload_n 0 rfl d_X4_takeNumber_34 ?_
        refine zg_getI d_X4_takeNumber_35 zc_4 (by decide) fl_X4_56 (fun v12 => ?_)
        refine zg_ald1 d_X4_takeNumber_38 (fun v13 => ?_)
        refine zg_bipush 57 rfl d_X4_takeNumber_39 ?_
        refine zg_icmp_gt d_X4_takeNumber_41 ?_ ?_
        · exact zg_finK (E := 0) [0] rfl rfl (fun q => q)
        · refine zg_aload_n 0 rfl d_X4_takeNumber_44 ?_
          refine zg_ldc kc_X4_111 d_X4_takeNumber_45 ?_
          refine zg_aload_n 0 rfl d_X4_takeNumber_47 ?_
          refine zg_getI d_X4_takeNumber_48 zc_4 (by decide) fl_X4_108 (fun v14 => ?_)
          refine zg_bipush 10 rfl d_X4_takeNumber_51 ?_
          refine zg_imul d_X4_takeNumber_53 ?_
          refine zg_aload_n 0 rfl d_X4_takeNumber_54 ?_
          refine zg_getR d_X4_takeNumber_55 zc_4 (by decide) fl_X4_15 (fun v15 => ?_)
          refine zg_aload_n 0 rfl d_X4_takeNumber_58 ?_
          refine zg_getI d_X4_takeNumber_59 zc_4 (by decide) fl_X4_56 (fun v16 => ?_)
          refine zg_ald1 d_X4_takeNumber_62 (fun v17 => ?_)
          refine zg_iadd d_X4_takeNumber_63 ?_
          refine zg_bipush 48 rfl d_X4_takeNumber_64 ?_
          refine zg_isub d_X4_takeNumber_66 ?_
          refine zg_mmin d_X4_takeNumber_67 ml_X4_47 (by decide) (Nat.le_of_ble_eq_true rfl) ⟨Nat.le_of_ble_eq_true rfl, Nat.le_of_ble_eq_true rfl⟩ ?_
          refine zg_putV d_X4_takeNumber_70 zc_4 (by decide) fl_X4_108 rfl rfl rfl (fun h18 => ?_)
          refine zg_aload_n 0 rfl d_X4_takeNumber_73 ?_
          refine zg_dup rfl d_X4_takeNumber_74 ?_
          refine zg_getI d_X4_takeNumber_75 zc_4 (by decide) fl_X4_56 (fun v19 => ?_)
          refine zg_iconst 1 rfl d_X4_takeNumber_78 ?_
          refine zg_iadd d_X4_takeNumber_79 ?_
          refine zg_putV d_X4_takeNumber_80 zc_4 (by decide) fl_X4_56 rfl rfl rfl (fun h20 => ?_)
          refine zg_goto d_X4_takeNumber_83 ?_
          exact zg_finK (E := 0) [0] rfl rfl (fun q => q)
  · exact zg_vretK d_X4_takeNumber_86 rfl ⟨Nat.le_of_ble_eq_true rfl, Nat.le_of_ble_eq_true rfl⟩ (fun q => q)
abbrev M_X4_takeWord : zMt := (RX4, cX4_takeWord, 2, 1, 60, none, "takeWord", 0, 0)
theorem d_X4_takeWord_0 : zDc M_X4_takeWord 0 (.aload_n 0) 1 1 := ⟨by decide +kernel, rfl⟩
theorem d_X4_takeWord_1 : zDc M_X4_takeWord 1 (.iconst 0) 1 2 := ⟨by decide +kernel, rfl⟩
theorem d_X4_takeWord_2 : zDc M_X4_takeWord 2 (.putfield 105) 3 5 := ⟨by decide +kernel, rfl⟩
theorem d_X4_takeWord_5 : zDc M_X4_takeWord 5 (.iconst 0) 1 6 := ⟨by decide +kernel, rfl⟩
theorem d_X4_takeWord_6 : zDc M_X4_takeWord 6 (.istore_n 1) 1 7 := ⟨by decide +kernel, rfl⟩
theorem d_X4_takeWord_7 : zDc M_X4_takeWord 7 (.aload_n 0) 1 8 := ⟨by decide +kernel, rfl⟩
theorem d_X4_takeWord_8 : zDc M_X4_takeWord 8 (.getfield 56) 3 11 := ⟨by decide +kernel, rfl⟩
theorem d_X4_takeWord_11 : zDc M_X4_takeWord 11 (.aload_n 0) 1 12 := ⟨by decide +kernel, rfl⟩
theorem d_X4_takeWord_12 : zDc M_X4_takeWord 12 (.getfield 53) 3 15 := ⟨by decide +kernel, rfl⟩
theorem d_X4_takeWord_15 : zDj M_X4_takeWord 15 (.if_icmp .ge 82) 82 18 97 := ⟨by decide +kernel, rfl, by decide⟩
theorem d_X4_takeWord_18 : zDc M_X4_takeWord 18 (.aload_n 0) 1 19 := ⟨by decide +kernel, rfl⟩
theorem d_X4_takeWord_19 : zDc M_X4_takeWord 19 (.getfield 15) 3 22 := ⟨by decide +kernel, rfl⟩
theorem d_X4_takeWord_22 : zDc M_X4_takeWord 22 (.aload_n 0) 1 23 := ⟨by decide +kernel, rfl⟩
theorem d_X4_takeWord_23 : zDc M_X4_takeWord 23 (.getfield 56) 3 26 := ⟨by decide +kernel, rfl⟩
theorem d_X4_takeWord_26 : zDc M_X4_takeWord 26 (.baload) 1 27 := ⟨by decide +kernel, rfl⟩
theorem d_X4_takeWord_27 : zDc M_X4_takeWord 27 (.bipush 97) 2 29 := ⟨by decide +kernel, rfl⟩
theorem d_X4_takeWord_29 : zDj M_X4_takeWord 29 (.if_icmp .lt 68) 68 32 97 := ⟨by decide +kernel, rfl, by decide⟩
theorem d_X4_takeWord_32 : zDc M_X4_takeWord 32 (.aload_n 0) 1 33 := ⟨by decide +kernel, rfl⟩
theorem d_X4_takeWord_33 : zDc M_X4_takeWord 33 (.getfield 15) 3 36 := ⟨by decide +kernel, rfl⟩
theorem d_X4_takeWord_36 : zDc M_X4_takeWord 36 (.aload_n 0) 1 37 := ⟨by decide +kernel, rfl⟩
theorem d_X4_takeWord_37 : zDc M_X4_takeWord 37 (.getfield 56) 3 40 := ⟨by decide +kernel, rfl⟩
theorem d_X4_takeWord_40 : zDc M_X4_takeWord 40 (.baload) 1 41 := ⟨by decide +kernel, rfl⟩
theorem d_X4_takeWord_41 : zDc M_X4_takeWord 41 (.bipush 122) 2 43 := ⟨by decide +kernel, rfl⟩
theorem d_X4_takeWord_43 : zDj M_X4_takeWord 43 (.if_icmp .gt 54) 54 46 97 := ⟨by decide +kernel, rfl, by decide⟩
theorem d_X4_takeWord_46 : zDc M_X4_takeWord 46 (.iload_n 1) 1 47 := ⟨by decide +kernel, rfl⟩
theorem d_X4_takeWord_47 : zDc M_X4_takeWord 47 (.bipush 6) 2 49 := ⟨by decide +kernel, rfl⟩
theorem d_X4_takeWord_49 : zDj M_X4_takeWord 49 (.if_icmp .ge 32) 32 52 81 := ⟨by decide +kernel, rfl, by decide⟩
theorem d_X4_takeWord_52 : zDc M_X4_takeWord 52 (.aload_n 0) 1 53 := ⟨by decide +kernel, rfl⟩
theorem d_X4_takeWord_53 : zDc M_X4_takeWord 53 (.dup) 1 54 := ⟨by decide +kernel, rfl⟩
theorem d_X4_takeWord_54 : zDc M_X4_takeWord 54 (.getfield 105) 3 57 := ⟨by decide +kernel, rfl⟩
theorem d_X4_takeWord_57 : zDc M_X4_takeWord 57 (.aload_n 0) 1 58 := ⟨by decide +kernel, rfl⟩
theorem d_X4_takeWord_58 : zDc M_X4_takeWord 58 (.getfield 15) 3 61 := ⟨by decide +kernel, rfl⟩
theorem d_X4_takeWord_61 : zDc M_X4_takeWord 61 (.aload_n 0) 1 62 := ⟨by decide +kernel, rfl⟩
theorem d_X4_takeWord_62 : zDc M_X4_takeWord 62 (.getfield 56) 3 65 := ⟨by decide +kernel, rfl⟩
theorem d_X4_takeWord_65 : zDc M_X4_takeWord 65 (.baload) 1 66 := ⟨by decide +kernel, rfl⟩
theorem d_X4_takeWord_66 : zDc M_X4_takeWord 66 (.bipush 97) 2 68 := ⟨by decide +kernel, rfl⟩
theorem d_X4_takeWord_68 : zDc M_X4_takeWord 68 (.isub) 1 69 := ⟨by decide +kernel, rfl⟩
theorem d_X4_takeWord_69 : zDc M_X4_takeWord 69 (.iconst 1) 1 70 := ⟨by decide +kernel, rfl⟩
theorem d_X4_takeWord_70 : zDc M_X4_takeWord 70 (.iadd) 1 71 := ⟨by decide +kernel, rfl⟩
theorem d_X4_takeWord_71 : zDc M_X4_takeWord 71 (.iconst 5) 1 72 := ⟨by decide +kernel, rfl⟩
theorem d_X4_takeWord_72 : zDc M_X4_takeWord 72 (.iconst 5) 1 73 := ⟨by decide +kernel, rfl⟩
theorem d_X4_takeWord_73 : zDc M_X4_takeWord 73 (.iload_n 1) 1 74 := ⟨by decide +kernel, rfl⟩
theorem d_X4_takeWord_74 : zDc M_X4_takeWord 74 (.isub) 1 75 := ⟨by decide +kernel, rfl⟩
theorem d_X4_takeWord_75 : zDc M_X4_takeWord 75 (.imul) 1 76 := ⟨by decide +kernel, rfl⟩
theorem d_X4_takeWord_76 : zDc M_X4_takeWord 76 (.ishl) 1 77 := ⟨by decide +kernel, rfl⟩
theorem d_X4_takeWord_77 : zDc M_X4_takeWord 77 (.ior) 1 78 := ⟨by decide +kernel, rfl⟩
theorem d_X4_takeWord_78 : zDc M_X4_takeWord 78 (.putfield 105) 3 81 := ⟨by decide +kernel, rfl⟩
theorem d_X4_takeWord_81 : zDc M_X4_takeWord 81 (.aload_n 0) 1 82 := ⟨by decide +kernel, rfl⟩
theorem d_X4_takeWord_82 : zDc M_X4_takeWord 82 (.dup) 1 83 := ⟨by decide +kernel, rfl⟩
theorem d_X4_takeWord_83 : zDc M_X4_takeWord 83 (.getfield 56) 3 86 := ⟨by decide +kernel, rfl⟩
theorem d_X4_takeWord_86 : zDc M_X4_takeWord 86 (.iconst 1) 1 87 := ⟨by decide +kernel, rfl⟩
theorem d_X4_takeWord_87 : zDc M_X4_takeWord 87 (.iadd) 1 88 := ⟨by decide +kernel, rfl⟩
theorem d_X4_takeWord_88 : zDc M_X4_takeWord 88 (.putfield 56) 3 91 := ⟨by decide +kernel, rfl⟩
theorem d_X4_takeWord_91 : zDc M_X4_takeWord 91 (.iinc 1 1) 3 94 := ⟨by decide +kernel, rfl⟩
theorem d_X4_takeWord_94 : zDj M_X4_takeWord 94 (.goto (-87)) (-87) 97 7 := ⟨by decide +kernel, rfl, by decide⟩
theorem d_X4_takeWord_97 : zDc M_X4_takeWord 97 (.return_) 1 98 := ⟨by decide +kernel, rfl⟩
def f_X4_takeWord (a0 : Nat) (h0 : zHp) : Option (Unit × zHp) :=
  zob (zpV h0 a0 4 7 (.int 0)) (fun h1 =>
  zbd (
  zlp (σ := Int32) (β := Int32) zLF (fun s2 h3 =>
  zob (zgI h3 a0 4 3) (fun v6 =>
  zob (zgI h3 a0 4 2) (fun v7 =>
  if v7 ≤ v6 then
  some ((.inr s2), h3)
  else
  zob (zgR h3 a0 4 1) (fun v8 =>
  zob (zgI h3 a0 4 3) (fun v9 =>
  zob (zaI 1 h3 v8 v9) (fun v10 =>
  if v10 < 97 then
  some ((.inr s2), h3)
  else
  zob (zgR h3 a0 4 1) (fun v11 =>
  zob (zgI h3 a0 4 3) (fun v12 =>
  zob (zaI 1 h3 v11 v12) (fun v13 =>
  if 122 < v13 then
  some ((.inr s2), h3)
  else
  zbd (α := Unit) (
  if 6 ≤ s2 then
  some ((), h3)
  else
  zob (zgI h3 a0 4 7) (fun v14 =>
  zob (zgR h3 a0 4 1) (fun v15 =>
  zob (zgI h3 a0 4 3) (fun v16 =>
  zob (zaI 1 h3 v15 v16) (fun v17 =>
  zob (zpV h3 a0 4 7 (.int (v14 ||| (((v17 - 97) + 1) <<< ((5 * (5 - s2)) &&& 31))))) (fun h18 =>
  some ((), h18))))))) (fun e19 h20 =>
  zob (zgI h20 a0 4 3) (fun v21 =>
  zob (zpV h20 a0 4 3 (.int (v21 + 1))) (fun h22 =>
  some ((.inl (s2 + 1)), h22))))))))))))) 0 h1) (fun e4 h5 =>
  some ((), h5)))
set_option maxRecDepth 100000 in
set_option maxHeartbeats 4000000 in
theorem t_X4_takeWord (a0 : Nat) (h0 : zHp) : ∀ (r : Unit) (h' : zHp), f_X4_takeWord a0 h0 = some (r, h') → zCt yX4_takeWord (.code yX4_takeWord cX4_takeWord 2 none) 1 60 0 0 [.ref a0] h0 (none) h' := by
  refine zct_of M_X4_takeWord yX4_takeWord (by decide) rfl rfl [.ref a0] h0 (Nat.le_of_ble_eq_true rfl) (fun _ => none) (fun X => ?_)
  show zG X M_X4_takeWord (0, 0) 0 [(0, .ref a0)] [] h0 (f_X4_takeWord a0 h0) (fun (_ : Unit) h' => zKe X (none) h')
  unfold f_X4_takeWord
  refine zg_aload_n 0 rfl d_X4_takeWord_0 ?_
  refine zg_iconst 0 rfl d_X4_takeWord_1 ?_
  refine zg_putV d_X4_takeWord_2 zc_4 (by decide) fl_X4_105 rfl rfl rfl (fun h1 => ?_)
  refine zg_iconst 0 rfl d_X4_takeWord_5 ?_
  refine zg_istore_n [(1, .int 0), (0, .ref a0)] d_X4_takeWord_6 rfl (by decide) rfl ?_
  refine zg_bd (E := 97) (el := (fun (e4 : Int32) => [(0, .ref a0), (1, .int e4)])) (es := fun _ => []) (zg_sub [1, 0] rfl (zg_lp (el := (fun (s2 : Int32) => [(0, .ref a0), (1, .int s2)])) (fun s2 h3 => ?_) 0 h1)) (fun e4 h5 => ?_)
  · refine zg_aload_n 0 rfl d_X4_takeWord_7 ?_
    refine zg_getI d_X4_takeWord_8 zc_4 (by decide) fl_X4_56 (fun v6 => ?_)
    refine zg_aload_n 0 rfl d_X4_takeWord_11 ?_
    refine zg_getI d_X4_takeWord_12 zc_4 (by decide) fl_X4_53 (fun v7 => ?_)
    refine zg_icmp_ge d_X4_takeWord_15 ?_ ?_
    · exact zg_finK (E := 0) [0, 1] rfl rfl (fun q => q)
    · refine zg_aload_n 0 rfl d_X4_takeWord_18 ?_
      refine zg_getR d_X4_takeWord_19 zc_4 (by decide) fl_X4_15 (fun v8 => ?_)
      refine zg_aload_n 0 rfl d_X4_takeWord_22 ?_
      refine zg_getI d_X4_takeWord_23 zc_4 (by decide) fl_X4_56 (fun v9 => ?_)
      refine zg_ald1 d_X4_takeWord_26 (fun v10 => ?_)
      refine zg_bipush 97 rfl d_X4_takeWord_27 ?_
      refine zg_icmp_lt d_X4_takeWord_29 ?_ ?_
      · exact zg_finK (E := 0) [0, 1] rfl rfl (fun q => q)
      · refine zg_aload_n 0 rfl d_X4_takeWord_32 ?_
        refine zg_getR d_X4_takeWord_33 zc_4 (by decide) fl_X4_15 (fun v11 => ?_)
        refine zg_aload_n 0 rfl d_X4_takeWord_36 ?_
        refine zg_getI d_X4_takeWord_37 zc_4 (by decide) fl_X4_56 (fun v12 => ?_)
        refine zg_ald1 d_X4_takeWord_40 (fun v13 => ?_)
        refine zg_bipush 122 rfl d_X4_takeWord_41 ?_
        refine zg_icmp_gt d_X4_takeWord_43 ?_ ?_
        · exact zg_finK (E := 0) [0, 1] rfl rfl (fun q => q)
        · refine zg_iload_n 1 rfl d_X4_takeWord_46 ?_
          refine zg_bipush 6 rfl d_X4_takeWord_47 ?_
          refine zg_bd (E := 81) (el := (fun (e19 : Unit) => [(0, .ref a0), (1, .int s2)])) (es := (fun (e19 : Unit) => [])) ?_ (fun e19 h20 => ?_)
          · refine zg_icmp_ge d_X4_takeWord_49 ?_ ?_
            · exact zg_finK (E := 0) [0, 1] rfl rfl (fun q => q)
            · refine zg_aload_n 0 rfl d_X4_takeWord_52 ?_
              refine zg_dup rfl d_X4_takeWord_53 ?_
              refine zg_getI d_X4_takeWord_54 zc_4 (by decide) fl_X4_105 (fun v14 => ?_)
              refine zg_aload_n 0 rfl d_X4_takeWord_57 ?_
              refine zg_getR d_X4_takeWord_58 zc_4 (by decide) fl_X4_15 (fun v15 => ?_)
              refine zg_aload_n 0 rfl d_X4_takeWord_61 ?_
              refine zg_getI d_X4_takeWord_62 zc_4 (by decide) fl_X4_56 (fun v16 => ?_)
              refine zg_ald1 d_X4_takeWord_65 (fun v17 => ?_)
              refine zg_bipush 97 rfl d_X4_takeWord_66 ?_
              refine zg_isub d_X4_takeWord_68 ?_
              refine zg_iconst 1 rfl d_X4_takeWord_69 ?_
              refine zg_iadd d_X4_takeWord_70 ?_
              refine zg_iconst 5 rfl d_X4_takeWord_71 ?_
              refine zg_iconst 5 rfl d_X4_takeWord_72 ?_
              refine zg_iload_n 1 rfl d_X4_takeWord_73 ?_
              refine zg_isub d_X4_takeWord_74 ?_
              refine zg_imul d_X4_takeWord_75 ?_
              refine zg_ishl d_X4_takeWord_76 ?_
              refine zg_ior d_X4_takeWord_77 ?_
              refine zg_putV d_X4_takeWord_78 zc_4 (by decide) fl_X4_105 rfl rfl rfl (fun h18 => ?_)
              exact zg_finK (E := 0) [0, 1] rfl rfl (fun q => q)
          · refine zg_aload_n 0 rfl d_X4_takeWord_81 ?_
            refine zg_dup rfl d_X4_takeWord_82 ?_
            refine zg_getI d_X4_takeWord_83 zc_4 (by decide) fl_X4_56 (fun v21 => ?_)
            refine zg_iconst 1 rfl d_X4_takeWord_86 ?_
            refine zg_iadd d_X4_takeWord_87 ?_
            refine zg_putV d_X4_takeWord_88 zc_4 (by decide) fl_X4_56 rfl rfl rfl (fun h22 => ?_)
            refine zg_iinc 1 (s2 + 1) [(1, .int (s2 + 1)), (0, .ref a0)] d_X4_takeWord_91 rfl rfl (by decide) rfl ?_
            refine zg_goto d_X4_takeWord_94 ?_
            exact zg_finK (E := 0) [1, 0] rfl rfl (fun q => q)
  · exact zg_vretK d_X4_takeWord_97 rfl ⟨Nat.le_of_ble_eq_true rfl, Nat.le_of_ble_eq_true rfl⟩ (fun q => q)
abbrev M_X4_wordToken : zMt := (RX4, cX4_wordToken, 2, 1, 60, (some .int), "wordToken", 0, 0)
theorem d_X4_wordToken_0 : zDc M_X4_wordToken 0 (.iconst 0) 1 1 := ⟨by decide +kernel, rfl⟩
theorem d_X4_wordToken_1 : zDc M_X4_wordToken 1 (.istore_n 1) 1 2 := ⟨by decide +kernel, rfl⟩
theorem d_X4_wordToken_2 : zDc M_X4_wordToken 2 (.iload_n 1) 1 3 := ⟨by decide +kernel, rfl⟩
theorem d_X4_wordToken_3 : zDc M_X4_wordToken 3 (.bipush 23) 2 5 := ⟨by decide +kernel, rfl⟩
theorem d_X4_wordToken_5 : zDj M_X4_wordToken 5 (.if_icmp .ge 24) 24 8 29 := ⟨by decide +kernel, rfl, by decide⟩
theorem d_X4_wordToken_8 : zDc M_X4_wordToken 8 (.aload_n 0) 1 9 := ⟨by decide +kernel, rfl⟩
theorem d_X4_wordToken_9 : zDc M_X4_wordToken 9 (.getfield 9) 3 12 := ⟨by decide +kernel, rfl⟩
theorem d_X4_wordToken_12 : zDc M_X4_wordToken 12 (.iload_n 1) 1 13 := ⟨by decide +kernel, rfl⟩
theorem d_X4_wordToken_13 : zDc M_X4_wordToken 13 (.iaload) 1 14 := ⟨by decide +kernel, rfl⟩
theorem d_X4_wordToken_14 : zDc M_X4_wordToken 14 (.aload_n 0) 1 15 := ⟨by decide +kernel, rfl⟩
theorem d_X4_wordToken_15 : zDc M_X4_wordToken 15 (.getfield 105) 3 18 := ⟨by decide +kernel, rfl⟩
theorem d_X4_wordToken_18 : zDj M_X4_wordToken 18 (.if_icmp .ne 5) 5 21 23 := ⟨by decide +kernel, rfl, by decide⟩
theorem d_X4_wordToken_21 : zDc M_X4_wordToken 21 (.iload_n 1) 1 22 := ⟨by decide +kernel, rfl⟩
theorem d_X4_wordToken_22 : zDc M_X4_wordToken 22 (.ireturn) 1 23 := ⟨by decide +kernel, rfl⟩
theorem d_X4_wordToken_23 : zDc M_X4_wordToken 23 (.iinc 1 1) 3 26 := ⟨by decide +kernel, rfl⟩
theorem d_X4_wordToken_26 : zDj M_X4_wordToken 26 (.goto (-24)) (-24) 29 2 := ⟨by decide +kernel, rfl, by decide⟩
theorem d_X4_wordToken_29 : zDc M_X4_wordToken 29 (.bipush 36) 2 31 := ⟨by decide +kernel, rfl⟩
theorem d_X4_wordToken_31 : zDc M_X4_wordToken 31 (.ireturn) 1 32 := ⟨by decide +kernel, rfl⟩
def f_X4_wordToken (a0 : Nat) (h0 : zHp) : Option (Int32 × zHp) :=
  zbd (
  zlp (σ := Int32) (β := (Int32 ⊕ Int32)) zLF (fun s1 h2 =>
  if 23 ≤ s1 then
  some ((.inr (.inl s1)), h2)
  else
  zob (zgR h2 a0 4 0) (fun v5 =>
  zob (zaI 0 h2 v5 s1) (fun v6 =>
  zob (zgI h2 a0 4 7) (fun v7 =>
  if v6 = v7 then
  some ((.inr (.inr s1)), h2)
  else
  some ((.inl (s1 + 1)), h2))))) 0 h0) (fun b8 h4 => zsl b8 (fun e3 =>
  some (36, h4)) (fun r => some (r, h4)))
set_option maxRecDepth 100000 in
set_option maxHeartbeats 4000000 in
theorem t_X4_wordToken (a0 : Nat) (h0 : zHp) : ∀ (r : Int32) (h' : zHp), f_X4_wordToken a0 h0 = some (r, h') → zCt yX4_wordToken (.code yX4_wordToken cX4_wordToken 2 (some .int)) 1 60 0 0 [.ref a0] h0 (some (.int r)) h' := by
  refine zct_of M_X4_wordToken yX4_wordToken (by decide) rfl rfl [.ref a0] h0 (Nat.le_of_ble_eq_true rfl) (fun r => some (.int r)) (fun X => ?_)
  show zG X M_X4_wordToken (0, 0) 0 [(0, .ref a0)] [] h0 (f_X4_wordToken a0 h0) (fun (r : Int32) h' => zKe X (some (.int r)) h')
  unfold f_X4_wordToken
  refine zg_iconst 0 rfl d_X4_wordToken_0 ?_
  refine zg_istore_n [(1, .int 0), (0, .ref a0)] d_X4_wordToken_1 rfl (by decide) rfl ?_
  refine zg_bdr (E := 29) (el := (fun (e3 : Int32) => [(0, .ref a0), (1, .int e3)])) (es := fun _ => []) (zg_sub [1, 0] rfl (zg_lp (el := (fun (s1 : Int32) => [(0, .ref a0), (1, .int s1)])) (fun s1 h2 => ?_) 0 h0)) (fun e3 h4 => ?_)
  · refine zg_iload_n 1 rfl d_X4_wordToken_2 ?_
    refine zg_bipush 23 rfl d_X4_wordToken_3 ?_
    refine zg_icmp_ge d_X4_wordToken_5 ?_ ?_
    · exact zg_finK (E := 0) [0, 1] rfl rfl (fun q => q)
    · refine zg_aload_n 0 rfl d_X4_wordToken_8 ?_
      refine zg_getR d_X4_wordToken_9 zc_4 (by decide) fl_X4_9 (fun v5 => ?_)
      refine zg_iload_n 1 rfl d_X4_wordToken_12 ?_
      refine zg_ald0 d_X4_wordToken_13 (fun v6 => ?_)
      refine zg_aload_n 0 rfl d_X4_wordToken_14 ?_
      refine zg_getI d_X4_wordToken_15 zc_4 (by decide) fl_X4_105 (fun v7 => ?_)
      refine zg_icmp_ne d_X4_wordToken_18 ?_ ?_
      · refine zg_iload_n 1 rfl d_X4_wordToken_21 ?_
        exact zg_iretK d_X4_wordToken_22 rfl ⟨Nat.le_of_ble_eq_true rfl, Nat.le_of_ble_eq_true rfl⟩ (fun q => q)
      · refine zg_iinc 1 (s1 + 1) [(1, .int (s1 + 1)), (0, .ref a0)] d_X4_wordToken_23 rfl rfl (by decide) rfl ?_
        refine zg_goto d_X4_wordToken_26 ?_
        exact zg_finK (E := 0) [1, 0] rfl rfl (fun q => q)
  · refine zg_bipush 36 rfl d_X4_wordToken_29 ?_
    exact zg_iretK d_X4_wordToken_31 rfl ⟨Nat.le_of_ble_eq_true rfl, Nat.le_of_ble_eq_true rfl⟩ (fun q => q)
abbrev M_X4_advance : zMt := (RX4, cX4_advance, 1, 2, 81, none, "advance", 0, 0)
theorem d_X4_advance_0 : zDc M_X4_advance 0 (.aload_n 0) 1 1 := ⟨by decide +kernel, rfl⟩
theorem d_X4_advance_1 : zDc M_X4_advance 1 (.getfield 29) 3 4 := ⟨by decide +kernel, rfl⟩
theorem d_X4_advance_4 : zDj M_X4_advance 4 (.ifCond .eq 4) 4 7 8 := ⟨by decide +kernel, rfl, by decide⟩
theorem d_X4_advance_7 : zDc M_X4_advance 7 (.return_) 1 8 := ⟨by decide +kernel, rfl⟩
theorem d_X4_advance_8 : zDc M_X4_advance 8 (.aload_n 0) 1 9 := ⟨by decide +kernel, rfl⟩
theorem d_X4_advance_9 : zDc M_X4_advance 9 (.getfield 56) 3 12 := ⟨by decide +kernel, rfl⟩
theorem d_X4_advance_12 : zDc M_X4_advance 12 (.aload_n 0) 1 13 := ⟨by decide +kernel, rfl⟩
theorem d_X4_advance_13 : zDc M_X4_advance 13 (.getfield 53) 3 16 := ⟨by decide +kernel, rfl⟩
theorem d_X4_advance_16 : zDj M_X4_advance 16 (.if_icmp .ge 44) 44 19 60 := ⟨by decide +kernel, rfl, by decide⟩
theorem d_X4_advance_19 : zDc M_X4_advance 19 (.aload_n 0) 1 20 := ⟨by decide +kernel, rfl⟩
theorem d_X4_advance_20 : zDc M_X4_advance 20 (.getfield 15) 3 23 := ⟨by decide +kernel, rfl⟩
theorem d_X4_advance_23 : zDc M_X4_advance 23 (.aload_n 0) 1 24 := ⟨by decide +kernel, rfl⟩
theorem d_X4_advance_24 : zDc M_X4_advance 24 (.getfield 56) 3 27 := ⟨by decide +kernel, rfl⟩
theorem d_X4_advance_27 : zDc M_X4_advance 27 (.baload) 1 28 := ⟨by decide +kernel, rfl⟩
theorem d_X4_advance_28 : zDc M_X4_advance 28 (.bipush 10) 2 30 := ⟨by decide +kernel, rfl⟩
theorem d_X4_advance_30 : zDj M_X4_advance 30 (.if_icmp .eq 17) 17 33 47 := ⟨by decide +kernel, rfl, by decide⟩
theorem d_X4_advance_33 : zDc M_X4_advance 33 (.aload_n 0) 1 34 := ⟨by decide +kernel, rfl⟩
theorem d_X4_advance_34 : zDc M_X4_advance 34 (.getfield 15) 3 37 := ⟨by decide +kernel, rfl⟩
theorem d_X4_advance_37 : zDc M_X4_advance 37 (.aload_n 0) 1 38 := ⟨by decide +kernel, rfl⟩
theorem d_X4_advance_38 : zDc M_X4_advance 38 (.getfield 56) 3 41 := ⟨by decide +kernel, rfl⟩
theorem d_X4_advance_41 : zDc M_X4_advance 41 (.baload) 1 42 := ⟨by decide +kernel, rfl⟩
theorem d_X4_advance_42 : zDc M_X4_advance 42 (.bipush 32) 2 44 := ⟨by decide +kernel, rfl⟩
theorem d_X4_advance_44 : zDj M_X4_advance 44 (.if_icmp .ne 16) 16 47 60 := ⟨by decide +kernel, rfl, by decide⟩
theorem d_X4_advance_47 : zDc M_X4_advance 47 (.aload_n 0) 1 48 := ⟨by decide +kernel, rfl⟩
theorem d_X4_advance_48 : zDc M_X4_advance 48 (.dup) 1 49 := ⟨by decide +kernel, rfl⟩
theorem d_X4_advance_49 : zDc M_X4_advance 49 (.getfield 56) 3 52 := ⟨by decide +kernel, rfl⟩
theorem d_X4_advance_52 : zDc M_X4_advance 52 (.iconst 1) 1 53 := ⟨by decide +kernel, rfl⟩
theorem d_X4_advance_53 : zDc M_X4_advance 53 (.iadd) 1 54 := ⟨by decide +kernel, rfl⟩
theorem d_X4_advance_54 : zDc M_X4_advance 54 (.putfield 56) 3 57 := ⟨by decide +kernel, rfl⟩
theorem d_X4_advance_57 : zDj M_X4_advance 57 (.goto (-49)) (-49) 60 8 := ⟨by decide +kernel, rfl, by decide⟩
theorem d_X4_advance_60 : zDc M_X4_advance 60 (.aload_n 0) 1 61 := ⟨by decide +kernel, rfl⟩
theorem d_X4_advance_61 : zDc M_X4_advance 61 (.aload_n 0) 1 62 := ⟨by decide +kernel, rfl⟩
theorem d_X4_advance_62 : zDc M_X4_advance 62 (.getfield 56) 3 65 := ⟨by decide +kernel, rfl⟩
theorem d_X4_advance_65 : zDc M_X4_advance 65 (.putfield 75) 3 68 := ⟨by decide +kernel, rfl⟩
theorem d_X4_advance_68 : zDc M_X4_advance 68 (.aload_n 0) 1 69 := ⟨by decide +kernel, rfl⟩
theorem d_X4_advance_69 : zDc M_X4_advance 69 (.getfield 56) 3 72 := ⟨by decide +kernel, rfl⟩
theorem d_X4_advance_72 : zDc M_X4_advance 72 (.aload_n 0) 1 73 := ⟨by decide +kernel, rfl⟩
theorem d_X4_advance_73 : zDc M_X4_advance 73 (.getfield 53) 3 76 := ⟨by decide +kernel, rfl⟩
theorem d_X4_advance_76 : zDj M_X4_advance 76 (.if_icmp .lt 12) 12 79 88 := ⟨by decide +kernel, rfl, by decide⟩
theorem d_X4_advance_79 : zDc M_X4_advance 79 (.aload_n 0) 1 80 := ⟨by decide +kernel, rfl⟩
theorem d_X4_advance_80 : zDc M_X4_advance 80 (.bipush 38) 2 82 := ⟨by decide +kernel, rfl⟩
theorem d_X4_advance_82 : zDc M_X4_advance 82 (.putfield 65) 3 85 := ⟨by decide +kernel, rfl⟩
theorem d_X4_advance_85 : zDj M_X4_advance 85 (.goto 165) 165 88 250 := ⟨by decide +kernel, rfl, by decide⟩
theorem d_X4_advance_88 : zDc M_X4_advance 88 (.aload_n 0) 1 89 := ⟨by decide +kernel, rfl⟩
theorem d_X4_advance_89 : zDc M_X4_advance 89 (.getfield 15) 3 92 := ⟨by decide +kernel, rfl⟩
theorem d_X4_advance_92 : zDc M_X4_advance 92 (.aload_n 0) 1 93 := ⟨by decide +kernel, rfl⟩
theorem d_X4_advance_93 : zDc M_X4_advance 93 (.getfield 56) 3 96 := ⟨by decide +kernel, rfl⟩
theorem d_X4_advance_96 : zDc M_X4_advance 96 (.baload) 1 97 := ⟨by decide +kernel, rfl⟩
theorem d_X4_advance_97 : zDc M_X4_advance 97 (.invokestatic 85) 3 100 := ⟨by decide +kernel, rfl⟩
theorem d_X4_advance_100 : zDj M_X4_advance 100 (.ifCond .eq 37) 37 103 137 := ⟨by decide +kernel, rfl, by decide⟩
theorem d_X4_advance_103 : zDc M_X4_advance 103 (.aload_n 0) 1 104 := ⟨by decide +kernel, rfl⟩
theorem d_X4_advance_104 : zDc M_X4_advance 104 (.invokevirtual 89) 3 107 := ⟨by decide +kernel, rfl⟩
theorem d_X4_advance_107 : zDc M_X4_advance 107 (.aload_n 0) 1 108 := ⟨by decide +kernel, rfl⟩
theorem d_X4_advance_108 : zDc M_X4_advance 108 (.aload_n 0) 1 109 := ⟨by decide +kernel, rfl⟩
theorem d_X4_advance_109 : zDc M_X4_advance 109 (.getfield 56) 3 112 := ⟨by decide +kernel, rfl⟩
theorem d_X4_advance_112 : zDc M_X4_advance 112 (.aload_n 0) 1 113 := ⟨by decide +kernel, rfl⟩
theorem d_X4_advance_113 : zDc M_X4_advance 113 (.getfield 75) 3 116 := ⟨by decide +kernel, rfl⟩
theorem d_X4_advance_116 : zDc M_X4_advance 116 (.isub) 1 117 := ⟨by decide +kernel, rfl⟩
theorem d_X4_advance_117 : zDc M_X4_advance 117 (.bipush 6) 2 119 := ⟨by decide +kernel, rfl⟩
theorem d_X4_advance_119 : zDj M_X4_advance 119 (.if_icmp .le 8) 8 122 127 := ⟨by decide +kernel, rfl, by decide⟩
theorem d_X4_advance_122 : zDc M_X4_advance 122 (.bipush 39) 2 124 := ⟨by decide +kernel, rfl⟩
theorem d_X4_advance_124 : zDj M_X4_advance 124 (.goto 7) 7 127 131 := ⟨by decide +kernel, rfl, by decide⟩
theorem d_X4_advance_127 : zDc M_X4_advance 127 (.aload_n 0) 1 128 := ⟨by decide +kernel, rfl⟩
theorem d_X4_advance_128 : zDc M_X4_advance 128 (.invokevirtual 92) 3 131 := ⟨by decide +kernel, rfl⟩
theorem d_X4_advance_131 : zDc M_X4_advance 131 (.putfield 65) 3 134 := ⟨by decide +kernel, rfl⟩
theorem d_X4_advance_134 : zDj M_X4_advance 134 (.goto 116) 116 137 250 := ⟨by decide +kernel, rfl, by decide⟩
theorem d_X4_advance_137 : zDc M_X4_advance 137 (.aload_n 0) 1 138 := ⟨by decide +kernel, rfl⟩
theorem d_X4_advance_138 : zDc M_X4_advance 138 (.getfield 15) 3 141 := ⟨by decide +kernel, rfl⟩
theorem d_X4_advance_141 : zDc M_X4_advance 141 (.aload_n 0) 1 142 := ⟨by decide +kernel, rfl⟩
theorem d_X4_advance_142 : zDc M_X4_advance 142 (.getfield 56) 3 145 := ⟨by decide +kernel, rfl⟩
theorem d_X4_advance_145 : zDc M_X4_advance 145 (.baload) 1 146 := ⟨by decide +kernel, rfl⟩
theorem d_X4_advance_146 : zDc M_X4_advance 146 (.invokestatic 96) 3 149 := ⟨by decide +kernel, rfl⟩
theorem d_X4_advance_149 : zDj M_X4_advance 149 (.ifCond .eq 16) 16 152 165 := ⟨by decide +kernel, rfl, by decide⟩
theorem d_X4_advance_152 : zDc M_X4_advance 152 (.aload_n 0) 1 153 := ⟨by decide +kernel, rfl⟩
theorem d_X4_advance_153 : zDc M_X4_advance 153 (.invokevirtual 99) 3 156 := ⟨by decide +kernel, rfl⟩
theorem d_X4_advance_156 : zDc M_X4_advance 156 (.aload_n 0) 1 157 := ⟨by decide +kernel, rfl⟩
theorem d_X4_advance_157 : zDc M_X4_advance 157 (.bipush 37) 2 159 := ⟨by decide +kernel, rfl⟩
theorem d_X4_advance_159 : zDc M_X4_advance 159 (.putfield 65) 3 162 := ⟨by decide +kernel, rfl⟩
theorem d_X4_advance_162 : zDj M_X4_advance 162 (.goto 88) 88 165 250 := ⟨by decide +kernel, rfl, by decide⟩
theorem d_X4_advance_165 : zDc M_X4_advance 165 (.aload_n 0) 1 166 := ⟨by decide +kernel, rfl⟩
theorem d_X4_advance_166 : zDc M_X4_advance 166 (.aload_n 0) 1 167 := ⟨by decide +kernel, rfl⟩
theorem d_X4_advance_167 : zDc M_X4_advance 167 (.getfield 15) 3 170 := ⟨by decide +kernel, rfl⟩
theorem d_X4_advance_170 : zDc M_X4_advance 170 (.aload_n 0) 1 171 := ⟨by decide +kernel, rfl⟩
theorem d_X4_advance_171 : zDc M_X4_advance 171 (.getfield 56) 3 174 := ⟨by decide +kernel, rfl⟩
theorem d_X4_advance_174 : zDc M_X4_advance 174 (.baload) 1 175 := ⟨by decide +kernel, rfl⟩
theorem d_X4_advance_175 : zDc M_X4_advance 175 (.aload_n 0) 1 176 := ⟨by decide +kernel, rfl⟩
theorem d_X4_advance_176 : zDc M_X4_advance 176 (.getfield 56) 3 179 := ⟨by decide +kernel, rfl⟩
theorem d_X4_advance_179 : zDc M_X4_advance 179 (.iconst 1) 1 180 := ⟨by decide +kernel, rfl⟩
theorem d_X4_advance_180 : zDc M_X4_advance 180 (.iadd) 1 181 := ⟨by decide +kernel, rfl⟩
theorem d_X4_advance_181 : zDc M_X4_advance 181 (.aload_n 0) 1 182 := ⟨by decide +kernel, rfl⟩
theorem d_X4_advance_182 : zDc M_X4_advance 182 (.getfield 53) 3 185 := ⟨by decide +kernel, rfl⟩
theorem d_X4_advance_185 : zDj M_X4_advance 185 (.if_icmp .ge 17) 17 188 202 := ⟨by decide +kernel, rfl, by decide⟩
theorem d_X4_advance_188 : zDc M_X4_advance 188 (.aload_n 0) 1 189 := ⟨by decide +kernel, rfl⟩
theorem d_X4_advance_189 : zDc M_X4_advance 189 (.getfield 15) 3 192 := ⟨by decide +kernel, rfl⟩
theorem d_X4_advance_192 : zDc M_X4_advance 192 (.aload_n 0) 1 193 := ⟨by decide +kernel, rfl⟩
theorem d_X4_advance_193 : zDc M_X4_advance 193 (.getfield 56) 3 196 := ⟨by decide +kernel, rfl⟩
theorem d_X4_advance_196 : zDc M_X4_advance 196 (.iconst 1) 1 197 := ⟨by decide +kernel, rfl⟩
theorem d_X4_advance_197 : zDc M_X4_advance 197 (.iadd) 1 198 := ⟨by decide +kernel, rfl⟩
theorem d_X4_advance_198 : zDc M_X4_advance 198 (.baload) 1 199 := ⟨by decide +kernel, rfl⟩
theorem d_X4_advance_199 : zDj M_X4_advance 199 (.goto 4) 4 202 203 := ⟨by decide +kernel, rfl, by decide⟩
theorem d_X4_advance_202 : zDc M_X4_advance 202 (.iconst 0) 1 203 := ⟨by decide +kernel, rfl⟩
theorem d_X4_advance_203 : zDc M_X4_advance 203 (.invokestatic 102) 3 206 := ⟨by decide +kernel, rfl⟩
theorem d_X4_advance_206 : zDc M_X4_advance 206 (.putfield 65) 3 209 := ⟨by decide +kernel, rfl⟩
theorem d_X4_advance_209 : zDc M_X4_advance 209 (.aload_n 0) 1 210 := ⟨by decide +kernel, rfl⟩
theorem d_X4_advance_210 : zDc M_X4_advance 210 (.dup) 1 211 := ⟨by decide +kernel, rfl⟩
theorem d_X4_advance_211 : zDc M_X4_advance 211 (.getfield 56) 3 214 := ⟨by decide +kernel, rfl⟩
theorem d_X4_advance_214 : zDc M_X4_advance 214 (.aload_n 0) 1 215 := ⟨by decide +kernel, rfl⟩
theorem d_X4_advance_215 : zDc M_X4_advance 215 (.getfield 65) 3 218 := ⟨by decide +kernel, rfl⟩
theorem d_X4_advance_218 : zDc M_X4_advance 218 (.bipush 28) 2 220 := ⟨by decide +kernel, rfl⟩
theorem d_X4_advance_220 : zDj M_X4_advance 220 (.if_icmp .eq 21) 21 223 241 := ⟨by decide +kernel, rfl, by decide⟩
theorem d_X4_advance_223 : zDc M_X4_advance 223 (.aload_n 0) 1 224 := ⟨by decide +kernel, rfl⟩
theorem d_X4_advance_224 : zDc M_X4_advance 224 (.getfield 65) 3 227 := ⟨by decide +kernel, rfl⟩
theorem d_X4_advance_227 : zDc M_X4_advance 227 (.bipush 30) 2 229 := ⟨by decide +kernel, rfl⟩
theorem d_X4_advance_229 : zDj M_X4_advance 229 (.if_icmp .eq 12) 12 232 241 := ⟨by decide +kernel, rfl, by decide⟩
theorem d_X4_advance_232 : zDc M_X4_advance 232 (.aload_n 0) 1 233 := ⟨by decide +kernel, rfl⟩
theorem d_X4_advance_233 : zDc M_X4_advance 233 (.getfield 65) 3 236 := ⟨by decide +kernel, rfl⟩
theorem d_X4_advance_236 : zDc M_X4_advance 236 (.bipush 31) 2 238 := ⟨by decide +kernel, rfl⟩
theorem d_X4_advance_238 : zDj M_X4_advance 238 (.if_icmp .ne 7) 7 241 245 := ⟨by decide +kernel, rfl, by decide⟩
theorem d_X4_advance_241 : zDc M_X4_advance 241 (.iconst 2) 1 242 := ⟨by decide +kernel, rfl⟩
theorem d_X4_advance_242 : zDj M_X4_advance 242 (.goto 4) 4 245 246 := ⟨by decide +kernel, rfl, by decide⟩
theorem d_X4_advance_245 : zDc M_X4_advance 245 (.iconst 1) 1 246 := ⟨by decide +kernel, rfl⟩
theorem d_X4_advance_246 : zDc M_X4_advance 246 (.iadd) 1 247 := ⟨by decide +kernel, rfl⟩
theorem d_X4_advance_247 : zDc M_X4_advance 247 (.putfield 56) 3 250 := ⟨by decide +kernel, rfl⟩
theorem d_X4_advance_250 : zDc M_X4_advance 250 (.return_) 1 251 := ⟨by decide +kernel, rfl⟩
def f_X4_advance (a0 : Nat) (h0 : zHp) : Option (Unit × zHp) :=
  zob (zgI h0 a0 4 14) (fun v1 =>
  if v1 = 0 then
  zbd (
  zlp (σ := Unit) (β := Unit) zLF (fun s2 h3 =>
  zob (zgI h3 a0 4 3) (fun v6 =>
  zob (zgI h3 a0 4 2) (fun v7 =>
  if v7 ≤ v6 then
  some ((.inr ()), h3)
  else
  zob (zgR h3 a0 4 1) (fun v8 =>
  zob (zgI h3 a0 4 3) (fun v9 =>
  zob (zaI 1 h3 v8 v9) (fun v10 =>
  zbd (α := (Unit ⊕ (Unit ⊕ Unit))) (
  if v10 = 10 then
  some ((.inl ()), h3)
  else
  zob (zgR h3 a0 4 1) (fun v11 =>
  zob (zgI h3 a0 4 3) (fun v12 =>
  zob (zaI 1 h3 v11 v12) (fun v13 =>
  if v13 = 32 then
  some ((.inl ()), h3)
  else
  some ((.inr (.inr ())), h3))))) (fun b65 h15 => zsl b65 (fun e14 =>
  zob (zgI h15 a0 4 3) (fun v16 =>
  zob (zpV h15 a0 4 3 (.int (v16 + 1))) (fun h17 =>
  some ((.inl ()), h17)))) (fun r => some (r, h15))))))))) () h0) (fun e4 h5 =>
  zob (zgI h5 a0 4 3) (fun v18 =>
  zob (zpV h5 a0 4 5 (.int v18)) (fun h19 =>
  zob (zgI h19 a0 4 3) (fun v20 =>
  zob (zgI h19 a0 4 2) (fun v21 =>
  if v20 < v21 then
  zob (zgR h19 a0 4 1) (fun v22 =>
  zob (zgI h19 a0 4 3) (fun v23 =>
  zob (zaI 1 h19 v22 v23) (fun v24 =>
  zbd ((f_X4_isLetter v24 h19)) (fun v26 h25 =>
  if v26 = 0 then
  zob (zgR h25 a0 4 1) (fun v27 =>
  zob (zgI h25 a0 4 3) (fun v28 =>
  zob (zaI 1 h25 v27 v28) (fun v29 =>
  zbd ((f_X4_isDigit v29 h25)) (fun v31 h30 =>
  if v31 = 0 then
  zob (zgR h30 a0 4 1) (fun v32 =>
  zob (zgI h30 a0 4 3) (fun v33 =>
  zob (zaI 1 h30 v32 v33) (fun v34 =>
  zob (zgI h30 a0 4 3) (fun v35 =>
  zob (zgI h30 a0 4 2) (fun v36 =>
  zbd (α := Int32) (
  if v36 ≤ (v35 + 1) then
  some (0, h30)
  else
  zob (zgR h30 a0 4 1) (fun v37 =>
  zob (zgI h30 a0 4 3) (fun v38 =>
  zob (zaI 1 h30 v37 (v38 + 1)) (fun v39 =>
  some (v39, h30))))) (fun e40 h41 =>
  zbd ((f_X4_signToken v34 e40 h41)) (fun v43 h42 =>
  zob (zpV h42 a0 4 4 (.int v43)) (fun h44 =>
  zob (zgI h44 a0 4 3) (fun v45 =>
  zob (zgI h44 a0 4 4) (fun v46 =>
  zbd (α := Int32) (
  if v46 = 28 then
  some (2, h44)
  else
  zob (zgI h44 a0 4 4) (fun v47 =>
  if v47 = 30 then
  some (2, h44)
  else
  zob (zgI h44 a0 4 4) (fun v48 =>
  if v48 = 31 then
  some (2, h44)
  else
  some (1, h44)))) (fun e49 h50 =>
  zob (zpV h50 a0 4 3 (.int (v45 + e49))) (fun h51 =>
  some ((), h51)))))))))))))
  else
  zbd (zcv 4 a0 h30 (f_X4_takeNumber a0 h30)) (fun v53 h52 =>
  zob (zpV h52 a0 4 4 (.int 37)) (fun h54 =>
  some ((), h54)))))))
  else
  zbd (zcv 4 a0 h25 (f_X4_takeWord a0 h25)) (fun v56 h55 =>
  zob (zgI h55 a0 4 3) (fun v57 =>
  zob (zgI h55 a0 4 5) (fun v58 =>
  zbd (α := Int32) (
  if (v57 - v58) ≤ 6 then
  zbd (zcv 4 a0 h55 (f_X4_wordToken a0 h55)) (fun v60 h59 =>
  some (v60, h59))
  else
  some (39, h55)) (fun e61 h62 =>
  zob (zpV h62 a0 4 4 (.int e61)) (fun h63 =>
  some ((), h63))))))))))
  else
  zob (zpV h19 a0 4 4 (.int 38)) (fun h64 =>
  some ((), h64)))))))
  else
  some ((), h0))
set_option maxRecDepth 100000 in
set_option maxHeartbeats 4000000 in
theorem t_X4_advance (a0 : Nat) (h0 : zHp) : ∀ (r : Unit) (h' : zHp), f_X4_advance a0 h0 = some (r, h') → zCt yX4_advance (.code yX4_advance cX4_advance 1 none) 2 81 0 0 [.ref a0] h0 (none) h' := by
  refine zct_of M_X4_advance yX4_advance (by decide) rfl rfl [.ref a0] h0 (Nat.le_of_ble_eq_true rfl) (fun _ => none) (fun X => ?_)
  show zG X M_X4_advance (0, 0) 0 [(0, .ref a0)] [] h0 (f_X4_advance a0 h0) (fun (_ : Unit) h' => zKe X (none) h')
  unfold f_X4_advance
  refine zg_aload_n 0 rfl d_X4_advance_0 ?_
  refine zg_getI d_X4_advance_1 zc_4 (by decide) fl_X4_29 (fun v1 => ?_)
  refine zg_if_eq d_X4_advance_4 ?_ ?_
  · refine zg_bd (E := 60) (el := (fun (e4 : Unit) => [(0, .ref a0)])) (es := fun _ => []) (zg_sub [0] rfl (zg_lp (el := (fun (s2 : Unit) => [(0, .ref a0)])) (fun s2 h3 => ?_) () h0)) (fun e4 h5 => ?_)
    · refine zg_aload_n 0 rfl d_X4_advance_8 ?_
      refine zg_getI d_X4_advance_9 zc_4 (by decide) fl_X4_56 (fun v6 => ?_)
      refine zg_aload_n 0 rfl d_X4_advance_12 ?_
      refine zg_getI d_X4_advance_13 zc_4 (by decide) fl_X4_53 (fun v7 => ?_)
      refine zg_icmp_ge d_X4_advance_16 ?_ ?_
      · exact zg_finK (E := 0) [0] rfl rfl (fun q => q)
      · refine zg_aload_n 0 rfl d_X4_advance_19 ?_
        refine zg_getR d_X4_advance_20 zc_4 (by decide) fl_X4_15 (fun v8 => ?_)
        refine zg_aload_n 0 rfl d_X4_advance_23 ?_
        refine zg_getI d_X4_advance_24 zc_4 (by decide) fl_X4_56 (fun v9 => ?_)
        refine zg_ald1 d_X4_advance_27 (fun v10 => ?_)
        refine zg_bipush 10 rfl d_X4_advance_28 ?_
        refine zg_bdr (E := 47) (el := (fun (e14 : Unit) => [(0, .ref a0)])) (es := (fun (e14 : Unit) => [])) ?_ (fun e14 h15 => ?_)
        · refine zg_icmp_eq d_X4_advance_30 ?_ ?_
          · exact zg_finK (E := 0) [0] rfl rfl (fun q => q)
          · refine zg_aload_n 0 rfl d_X4_advance_33 ?_
            refine zg_getR d_X4_advance_34 zc_4 (by decide) fl_X4_15 (fun v11 => ?_)
            refine zg_aload_n 0 rfl d_X4_advance_37 ?_
            refine zg_getI d_X4_advance_38 zc_4 (by decide) fl_X4_56 (fun v12 => ?_)
            refine zg_ald1 d_X4_advance_41 (fun v13 => ?_)
            refine zg_bipush 32 rfl d_X4_advance_42 ?_
            refine zg_icmp_ne d_X4_advance_44 ?_ ?_
            · exact zg_finK (E := 0) [0] rfl rfl (fun q => q)
            · exact zg_finK (E := 0) [0] rfl rfl (fun q => q)
        · refine zg_aload_n 0 rfl d_X4_advance_47 ?_
          refine zg_dup rfl d_X4_advance_48 ?_
          refine zg_getI d_X4_advance_49 zc_4 (by decide) fl_X4_56 (fun v16 => ?_)
          refine zg_iconst 1 rfl d_X4_advance_52 ?_
          refine zg_iadd d_X4_advance_53 ?_
          refine zg_putV d_X4_advance_54 zc_4 (by decide) fl_X4_56 rfl rfl rfl (fun h17 => ?_)
          refine zg_goto d_X4_advance_57 ?_
          exact zg_finK (E := 0) [0] rfl rfl (fun q => q)
    · refine zg_aload_n 0 rfl d_X4_advance_60 ?_
      refine zg_aload_n 0 rfl d_X4_advance_61 ?_
      refine zg_getI d_X4_advance_62 zc_4 (by decide) fl_X4_56 (fun v18 => ?_)
      refine zg_putV d_X4_advance_65 zc_4 (by decide) fl_X4_75 rfl rfl rfl (fun h19 => ?_)
      refine zg_aload_n 0 rfl d_X4_advance_68 ?_
      refine zg_getI d_X4_advance_69 zc_4 (by decide) fl_X4_56 (fun v20 => ?_)
      refine zg_aload_n 0 rfl d_X4_advance_72 ?_
      refine zg_getI d_X4_advance_73 zc_4 (by decide) fl_X4_53 (fun v21 => ?_)
      refine zg_icmp_lt d_X4_advance_76 ?_ ?_
      · refine zg_aload_n 0 rfl d_X4_advance_88 ?_
        refine zg_getR d_X4_advance_89 zc_4 (by decide) fl_X4_15 (fun v22 => ?_)
        refine zg_aload_n 0 rfl d_X4_advance_92 ?_
        refine zg_getI d_X4_advance_93 zc_4 (by decide) fl_X4_56 (fun v23 => ?_)
        refine zg_ald1 d_X4_advance_96 (fun v24 => ?_)
        refine zg_cSi (As := [.int v24]) (rest := []) (0, 0) d_X4_advance_97 cw_X4_85 wt_X4_isLetter rfl rfl (Nat.le_of_ble_eq_true rfl) (by decide) (by decide) ⟨by decide, by decide⟩ rfl (t_X4_isLetter v24 h19) (fun v26 h25 => ?_)
        refine zg_if_eq d_X4_advance_100 ?_ ?_
        · refine zg_aload_n 0 rfl d_X4_advance_137 ?_
          refine zg_getR d_X4_advance_138 zc_4 (by decide) fl_X4_15 (fun v27 => ?_)
          refine zg_aload_n 0 rfl d_X4_advance_141 ?_
          refine zg_getI d_X4_advance_142 zc_4 (by decide) fl_X4_56 (fun v28 => ?_)
          refine zg_ald1 d_X4_advance_145 (fun v29 => ?_)
          refine zg_cSi (As := [.int v29]) (rest := []) (0, 0) d_X4_advance_146 cw_X4_96 wt_X4_isDigit rfl rfl (Nat.le_of_ble_eq_true rfl) (by decide) (by decide) ⟨by decide, by decide⟩ rfl (t_X4_isDigit v29 h25) (fun v31 h30 => ?_)
          refine zg_if_eq d_X4_advance_149 ?_ ?_
          · refine zg_aload_n 0 rfl d_X4_advance_165 ?_
            refine zg_aload_n 0 rfl d_X4_advance_166 ?_
            refine zg_getR d_X4_advance_167 zc_4 (by decide) fl_X4_15 (fun v32 => ?_)
            refine zg_aload_n 0 rfl d_X4_advance_170 ?_
            refine zg_getI d_X4_advance_171 zc_4 (by decide) fl_X4_56 (fun v33 => ?_)
            refine zg_ald1 d_X4_advance_174 (fun v34 => ?_)
            refine zg_aload_n 0 rfl d_X4_advance_175 ?_
            refine zg_getI d_X4_advance_176 zc_4 (by decide) fl_X4_56 (fun v35 => ?_)
            refine zg_iconst 1 rfl d_X4_advance_179 ?_
            refine zg_iadd d_X4_advance_180 ?_
            refine zg_aload_n 0 rfl d_X4_advance_181 ?_
            refine zg_getI d_X4_advance_182 zc_4 (by decide) fl_X4_53 (fun v36 => ?_)
            refine zg_bd (E := 203) (el := (fun (e40 : Int32) => [(0, .ref a0)])) (es := (fun (e40 : Int32) => [.int e40, .int v34, .ref a0])) ?_ (fun e40 h41 => ?_)
            · refine zg_icmp_ge d_X4_advance_185 ?_ ?_
              · refine zg_iconst 0 rfl d_X4_advance_202 ?_
                exact zg_finK (E := 0) [0] rfl rfl (fun q => q)
              · refine zg_aload_n 0 rfl d_X4_advance_188 ?_
                refine zg_getR d_X4_advance_189 zc_4 (by decide) fl_X4_15 (fun v37 => ?_)
                refine zg_aload_n 0 rfl d_X4_advance_192 ?_
                refine zg_getI d_X4_advance_193 zc_4 (by decide) fl_X4_56 (fun v38 => ?_)
                refine zg_iconst 1 rfl d_X4_advance_196 ?_
                refine zg_iadd d_X4_advance_197 ?_
                refine zg_ald1 d_X4_advance_198 (fun v39 => ?_)
                refine zg_goto d_X4_advance_199 ?_
                exact zg_finK (E := 0) [0] rfl rfl (fun q => q)
            · refine zg_cSi (As := [.int v34, .int e40]) (rest := [.ref a0]) (0, 0) d_X4_advance_203 cw_X4_102 wt_X4_signToken rfl rfl (Nat.le_of_ble_eq_true rfl) (by decide) (by decide) ⟨by decide, by decide⟩ rfl (t_X4_signToken v34 e40 h41) (fun v43 h42 => ?_)
              refine zg_putV d_X4_advance_206 zc_4 (by decide) fl_X4_65 rfl rfl rfl (fun h44 => ?_)
              refine zg_aload_n 0 rfl d_X4_advance_209 ?_
              refine zg_dup rfl d_X4_advance_210 ?_
              refine zg_getI d_X4_advance_211 zc_4 (by decide) fl_X4_56 (fun v45 => ?_)
              refine zg_aload_n 0 rfl d_X4_advance_214 ?_
              refine zg_getI d_X4_advance_215 zc_4 (by decide) fl_X4_65 (fun v46 => ?_)
              refine zg_bipush 28 rfl d_X4_advance_218 ?_
              refine zg_bd (E := 246) (el := (fun (e49 : Int32) => [(0, .ref a0)])) (es := (fun (e49 : Int32) => [.int e49, .int v45, .ref a0])) ?_ (fun e49 h50 => ?_)
              · refine zg_icmp_eq d_X4_advance_220 ?_ ?_
                · refine zg_iconst 2 rfl d_X4_advance_241 ?_
                  refine zg_goto d_X4_advance_242 ?_
                  exact zg_finK (E := 0) [0] rfl rfl (fun q => q)
                · refine zg_aload_n 0 rfl d_X4_advance_223 ?_
                  refine zg_getI d_X4_advance_224 zc_4 (by decide) fl_X4_65 (fun v47 => ?_)
                  refine zg_bipush 30 rfl d_X4_advance_227 ?_
                  refine zg_icmp_eq d_X4_advance_229 ?_ ?_
                  · refine zg_iconst 2 rfl d_X4_advance_241 ?_
                    refine zg_goto d_X4_advance_242 ?_
                    exact zg_finK (E := 0) [0] rfl rfl (fun q => q)
                  · refine zg_aload_n 0 rfl d_X4_advance_232 ?_
                    refine zg_getI d_X4_advance_233 zc_4 (by decide) fl_X4_65 (fun v48 => ?_)
                    refine zg_bipush 31 rfl d_X4_advance_236 ?_
                    refine zg_icmp_ne d_X4_advance_238 ?_ ?_
                    · refine zg_iconst 2 rfl d_X4_advance_241 ?_
                      refine zg_goto d_X4_advance_242 ?_
                      exact zg_finK (E := 0) [0] rfl rfl (fun q => q)
                    · refine zg_iconst 1 rfl d_X4_advance_245 ?_
                      exact zg_finK (E := 0) [0] rfl rfl (fun q => q)
              · refine zg_iadd d_X4_advance_246 ?_
                refine zg_putV d_X4_advance_247 zc_4 (by decide) fl_X4_56 rfl rfl rfl (fun h51 => ?_)
                exact zg_vretK d_X4_advance_250 rfl ⟨Nat.le_of_ble_eq_true rfl, Nat.le_of_ble_eq_true rfl⟩ (fun q => q)
          · refine zg_aload_n 0 rfl d_X4_advance_152 ?_
            refine zg_cVv (b := a0) (As := []) (rest := []) (0, 0) d_X4_advance_153 zc_4 rfl cw_X4_99 wi_X4_takeNumber ws_X4_takeNumber rfl rfl (Nat.le_of_ble_eq_true rfl) (by decide) (by decide) ⟨by decide, by decide⟩ rfl (t_X4_takeNumber a0 h30) (fun v53 h52 => ?_)
            refine zg_aload_n 0 rfl d_X4_advance_156 ?_
            refine zg_bipush 37 rfl d_X4_advance_157 ?_
            refine zg_putV d_X4_advance_159 zc_4 (by decide) fl_X4_65 rfl rfl rfl (fun h54 => ?_)
            refine zg_goto d_X4_advance_162 ?_
            exact zg_vretK d_X4_advance_250 rfl ⟨Nat.le_of_ble_eq_true rfl, Nat.le_of_ble_eq_true rfl⟩ (fun q => q)
        · refine zg_aload_n 0 rfl d_X4_advance_103 ?_
          refine zg_cVv (b := a0) (As := []) (rest := []) (0, 0) d_X4_advance_104 zc_4 rfl cw_X4_89 wi_X4_takeWord ws_X4_takeWord rfl rfl (Nat.le_of_ble_eq_true rfl) (by decide) (by decide) ⟨by decide, by decide⟩ rfl (t_X4_takeWord a0 h25) (fun v56 h55 => ?_)
          refine zg_aload_n 0 rfl d_X4_advance_107 ?_
          refine zg_aload_n 0 rfl d_X4_advance_108 ?_
          refine zg_getI d_X4_advance_109 zc_4 (by decide) fl_X4_56 (fun v57 => ?_)
          refine zg_aload_n 0 rfl d_X4_advance_112 ?_
          refine zg_getI d_X4_advance_113 zc_4 (by decide) fl_X4_75 (fun v58 => ?_)
          refine zg_isub d_X4_advance_116 ?_
          refine zg_bipush 6 rfl d_X4_advance_117 ?_
          refine zg_bd (E := 131) (el := (fun (e61 : Int32) => [(0, .ref a0)])) (es := (fun (e61 : Int32) => [.int e61, .ref a0])) ?_ (fun e61 h62 => ?_)
          · refine zg_icmp_le d_X4_advance_119 ?_ ?_
            · refine zg_aload_n 0 rfl d_X4_advance_127 ?_
              refine zg_cVi (b := a0) (As := []) (rest := [.ref a0]) (0, 0) d_X4_advance_128 zc_4 rfl cw_X4_92 wi_X4_wordToken ws_X4_wordToken rfl rfl (Nat.le_of_ble_eq_true rfl) (by decide) (by decide) ⟨by decide, by decide⟩ rfl (t_X4_wordToken a0 h55) (fun v60 h59 => ?_)
              exact zg_finK (E := 0) [0] rfl rfl (fun q => q)
            · refine zg_bipush 39 rfl d_X4_advance_122 ?_
              refine zg_goto d_X4_advance_124 ?_
              exact zg_finK (E := 0) [0] rfl rfl (fun q => q)
          · refine zg_putV d_X4_advance_131 zc_4 (by decide) fl_X4_65 rfl rfl rfl (fun h63 => ?_)
            refine zg_goto d_X4_advance_134 ?_
            exact zg_vretK d_X4_advance_250 rfl ⟨Nat.le_of_ble_eq_true rfl, Nat.le_of_ble_eq_true rfl⟩ (fun q => q)
      · refine zg_aload_n 0 rfl d_X4_advance_79 ?_
        refine zg_bipush 38 rfl d_X4_advance_80 ?_
        refine zg_putV d_X4_advance_82 zc_4 (by decide) fl_X4_65 rfl rfl rfl (fun h64 => ?_)
        refine zg_goto d_X4_advance_85 ?_
        exact zg_vretK d_X4_advance_250 rfl ⟨Nat.le_of_ble_eq_true rfl, Nat.le_of_ble_eq_true rfl⟩ (fun q => q)
  · exact zg_vretK d_X4_advance_7 rfl ⟨Nat.le_of_ble_eq_true rfl, Nat.le_of_ble_eq_true rfl⟩ (fun q => q)

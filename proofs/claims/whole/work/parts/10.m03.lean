theorem fl_X5_137 : Cond.fieldLink RX5 137 (TX6 12).1 (TX6 12).2.1 (TX6 12).2.2.1 ∈ zT := zw_of _ 235 (by decide +kernel) (by decide +kernel)
theorem ml_X5_141 : Cond.methodLink RX5 141 yX2_isTold ∈ zT := zw_of _ 888 (by decide +kernel) (by decide +kernel)
theorem cd_X2_isTold : Cond.code yX2_isTold cX2_isTold 2 (some .boolean) ∈ zT := zw_of _ 730 (by decide +kernel) (by decide +kernel)
theorem cw_X5_141 : zCw RX5 141 yX2_isTold cX2_isTold 2 (some .boolean) 1 := ⟨ml_X5_141, ni_X2, cd_X2_isTold, by decide, by decide, by decide +kernel⟩
theorem wi_X2_isTold : Cond.instanceMethod yX2_isTold ∈ zT := zw_of _ 728 (by decide +kernel) (by decide +kernel)
theorem ws_X2_isTold : Cond.selects RX2 yX2_isTold yX2_isTold ∈ zT := zw_of _ 729 (by decide +kernel) (by decide +kernel)
theorem fl_X5_47 : Cond.fieldLink RX5 47 (TX5 15).1 (TX5 15).2.1 (TX5 15).2.2.1 ∈ zT := zw_of _ 443 (by decide +kernel) (by decide +kernel)
theorem fl_X5_18 : Cond.fieldLink RX5 18 (TX5 2).1 (TX5 2).2.1 (TX5 2).2.2.1 ∈ zT := zw_of _ 408 (by decide +kernel) (by decide +kernel)
theorem ml_X5_148 : Cond.methodLink RX5 148 yX5_groundAt ∈ zT := zw_of _ 890 (by decide +kernel) (by decide +kernel)
theorem cd_X5_groundAt : Cond.code yX5_groundAt cX5_groundAt 5 (some .int) ∈ zT := zw_of _ 848 (by decide +kernel) (by decide +kernel)
theorem cw_X5_148 : zCw RX5 148 yX5_groundAt cX5_groundAt 5 (some .int) 2 := ⟨ml_X5_148, ni_X5, cd_X5_groundAt, by decide, by decide, by decide +kernel⟩
theorem wi_X5_groundAt : Cond.instanceMethod yX5_groundAt ∈ zT := zw_of _ 846 (by decide +kernel) (by decide +kernel)
theorem ws_X5_groundAt : Cond.selects RX5 yX5_groundAt yX5_groundAt ∈ zT := zw_of _ 847 (by decide +kernel) (by decide +kernel)
theorem fl_X5_21 : Cond.fieldLink RX5 21 (TX5 3).1 (TX5 3).2.1 (TX5 3).2.2.1 ∈ zT := zw_of _ 411 (by decide +kernel) (by decide +kernel)
theorem ml_X5_151 : Cond.methodLink RX5 151 yX5_howManyAre ∈ zT := zw_of _ 895 (by decide +kernel) (by decide +kernel)
theorem cd_X5_howManyAre : Cond.code yX5_howManyAre cX5_howManyAre 4 (some .int) ∈ zT := zw_of _ 898 (by decide +kernel) (by decide +kernel)
theorem cw_X5_151 : zCw RX5 151 yX5_howManyAre cX5_howManyAre 4 (some .int) 1 := ⟨ml_X5_151, ni_X5, cd_X5_howManyAre, by decide, by decide, by decide +kernel⟩
theorem wi_X5_howManyAre : Cond.instanceMethod yX5_howManyAre ∈ zT := zw_of _ 896 (by decide +kernel) (by decide +kernel)
theorem ws_X5_howManyAre : Cond.selects RX5 yX5_howManyAre yX5_howManyAre ∈ zT := zw_of _ 897 (by decide +kernel) (by decide +kernel)
theorem fl_X5_36 : Cond.fieldLink RX5 36 (TX5 8).1 (TX5 8).2.1 (TX5 8).2.2.1 ∈ zT := zw_of _ 426 (by decide +kernel) (by decide +kernel)
theorem ml_X5_154 : Cond.methodLink RX5 154 yX2_worth ∈ zT := zw_of _ 899 (by decide +kernel) (by decide +kernel)
theorem cd_X2_worth : Cond.code yX2_worth cX2_worth 8 (some .long) ∈ zT := zw_of _ 902 (by decide +kernel) (by decide +kernel)
theorem cw_X5_154 : zCw RX5 154 yX2_worth cX2_worth 8 (some .long) 2 := ⟨ml_X5_154, ni_X2, cd_X2_worth, by decide, by decide, by decide +kernel⟩
theorem wi_X2_worth : Cond.instanceMethod yX2_worth ∈ zT := zw_of _ 900 (by decide +kernel) (by decide +kernel)
theorem ws_X2_worth : Cond.selects RX2 yX2_worth yX2_worth ∈ zT := zw_of _ 901 (by decide +kernel) (by decide +kernel)
theorem ml_X5_190 : Cond.methodLink RX5 190 yX5_worthOf ∈ zT := zw_of _ 974 (by decide +kernel) (by decide +kernel)
theorem cd_X5_worthOf : Cond.code yX5_worthOf cX5_worthOf 4 (some .long) ∈ zT := zw_of _ 887 (by decide +kernel) (by decide +kernel)
theorem cw_X5_190 : zCw RX5 190 yX5_worthOf cX5_worthOf 4 (some .long) 2 := ⟨ml_X5_190, ni_X5, cd_X5_worthOf, by decide, by decide, by decide +kernel⟩
theorem wi_X5_worthOf : Cond.instanceMethod yX5_worthOf ∈ zT := zw_of _ 885 (by decide +kernel) (by decide +kernel)
theorem ws_X5_worthOf : Cond.selects RX5 yX5_worthOf yX5_worthOf ∈ zT := zw_of _ 886 (by decide +kernel) (by decide +kernel)
theorem ml_X5_194 : Cond.methodLink RX5 194 yX5_bounded ∈ zT := zw_of _ 975 (by decide +kernel) (by decide +kernel)
theorem cd_X5_bounded : Cond.code yX5_bounded cX5_bounded 4 (some .int) ∈ zT := zw_of _ 977 (by decide +kernel) (by decide +kernel)
theorem cw_X5_194 : zCw RX5 194 yX5_bounded cX5_bounded 4 (some .int) 3 := ⟨ml_X5_194, ni_X5, cd_X5_bounded, by decide, by decide, by decide +kernel⟩
theorem wt_X5_bounded : Cond.static yX5_bounded ∈ zT := zw_of _ 976 (by decide +kernel) (by decide +kernel)
theorem ml_X5_198 : Cond.methodLink RX5 198 Lib.Math.min.name ∈ zT := zw_of _ 984 (by decide +kernel) (by decide +kernel)
theorem ml_X5_200 : Cond.methodLink RX5 200 yX5_joinTwo ∈ zT := zw_of _ 989 (by decide +kernel) (by decide +kernel)
theorem cd_X5_joinTwo : Cond.code yX5_joinTwo cX5_joinTwo 5 none ∈ zT := zw_of _ 992 (by decide +kernel) (by decide +kernel)
theorem cw_X5_200 : zCw RX5 200 yX5_joinTwo cX5_joinTwo 5 none 2 := ⟨ml_X5_200, ni_X5, cd_X5_joinTwo, by decide, by decide, by decide +kernel⟩
theorem wi_X5_joinTwo : Cond.instanceMethod yX5_joinTwo ∈ zT := zw_of _ 991 (by decide +kernel) (by decide +kernel)
theorem ws_X5_joinTwo : Cond.selects RX5 yX5_joinTwo yX5_joinTwo ∈ zT := zw_of _ 39 (by decide +kernel) (by decide +kernel)
theorem fl_X5_114 : Cond.fieldLink RX5 114 (TX6 13).1 (TX6 13).2.1 (TX6 13).2.2.1 ∈ zT := zw_of _ 240 (by decide +kernel) (by decide +kernel)
theorem fl_X5_211 : Cond.fieldLink RX5 211 (TX6 2).1 (TX6 2).2.1 (TX6 2).2.2.1 ∈ zT := zw_of _ 203 (by decide +kernel) (by decide +kernel)
theorem fl_X5_39 : Cond.fieldLink RX5 39 (TX5 9).1 (TX5 9).2.1 (TX5 9).2.2.1 ∈ zT := zw_of _ 428 (by decide +kernel) (by decide +kernel)
theorem fl_X5_44 : Cond.fieldLink RX5 44 (TX5 10).1 (TX5 10).2.1 (TX5 10).2.2.1 ∈ zT := zw_of _ 431 (by decide +kernel) (by decide +kernel)
theorem fl_X5_203 : Cond.fieldLink RX5 203 (TX6 17).1 (TX6 17).2.1 (TX6 17).2.2.1 ∈ zT := zw_of _ 256 (by decide +kernel) (by decide +kernel)
theorem ml_X5_206 : Cond.methodLink RX5 206 Lib.Math.max.name ∈ zT := zw_of _ 997 (by decide +kernel) (by decide +kernel)
theorem ml_X5_208 : Cond.methodLink RX5 208 yX5_wetFields ∈ zT := zw_of _ 998 (by decide +kernel) (by decide +kernel)
theorem cd_X5_wetFields : Cond.code yX5_wetFields cX5_wetFields 4 none ∈ zT := zw_of _ 1001 (by decide +kernel) (by decide +kernel)
theorem cw_X5_208 : zCw RX5 208 yX5_wetFields cX5_wetFields 4 none 2 := ⟨ml_X5_208, ni_X5, cd_X5_wetFields, by decide, by decide, by decide +kernel⟩
theorem wi_X5_wetFields : Cond.instanceMethod yX5_wetFields ∈ zT := zw_of _ 1000 (by decide +kernel) (by decide +kernel)
theorem ws_X5_wetFields : Cond.selects RX5 yX5_wetFields yX5_wetFields ∈ zT := zw_of _ 41 (by decide +kernel) (by decide +kernel)
theorem ml_X5_158 : Cond.methodLink RX5 158 yX5_bearClouds ∈ zT := zw_of _ 961 (by decide +kernel) (by decide +kernel)
theorem cd_X5_bearClouds : Cond.code yX5_bearClouds cX5_bearClouds 2 none ∈ zT := zw_of _ 964 (by decide +kernel) (by decide +kernel)
theorem cw_X5_158 : zCw RX5 158 yX5_bearClouds cX5_bearClouds 2 none 0 := ⟨ml_X5_158, ni_X5, cd_X5_bearClouds, by decide, by decide, by decide +kernel⟩
theorem wi_X5_bearClouds : Cond.instanceMethod yX5_bearClouds ∈ zT := zw_of _ 963 (by decide +kernel) (by decide +kernel)
theorem ws_X5_bearClouds : Cond.selects RX5 yX5_bearClouds yX5_bearClouds ∈ zT := zw_of _ 35 (by decide +kernel) (by decide +kernel)
theorem ml_X5_161 : Cond.methodLink RX5 161 yX5_drift ∈ zT := zw_of _ 965 (by decide +kernel) (by decide +kernel)
theorem cd_X5_drift : Cond.code yX5_drift cX5_drift 3 none ∈ zT := zw_of _ 968 (by decide +kernel) (by decide +kernel)
theorem cw_X5_161 : zCw RX5 161 yX5_drift cX5_drift 3 none 1 := ⟨ml_X5_161, ni_X5, cd_X5_drift, by decide, by decide, by decide +kernel⟩
theorem wi_X5_drift : Cond.instanceMethod yX5_drift ∈ zT := zw_of _ 967 (by decide +kernel) (by decide +kernel)
theorem ws_X5_drift : Cond.selects RX5 yX5_drift yX5_drift ∈ zT := zw_of _ 36 (by decide +kernel) (by decide +kernel)
theorem ml_X5_165 : Cond.methodLink RX5 165 yX5_growClouds ∈ zT := zw_of _ 970 (by decide +kernel) (by decide +kernel)
theorem cd_X5_growClouds : Cond.code yX5_growClouds cX5_growClouds 4 none ∈ zT := zw_of _ 973 (by decide +kernel) (by decide +kernel)
theorem cw_X5_165 : zCw RX5 165 yX5_growClouds cX5_growClouds 4 none 0 := ⟨ml_X5_165, ni_X5, cd_X5_growClouds, by decide, by decide, by decide +kernel⟩
theorem wi_X5_growClouds : Cond.instanceMethod yX5_growClouds ∈ zT := zw_of _ 972 (by decide +kernel) (by decide +kernel)
theorem ws_X5_growClouds : Cond.selects RX5 yX5_growClouds yX5_growClouds ∈ zT := zw_of _ 37 (by decide +kernel) (by decide +kernel)
theorem ml_X5_168 : Cond.methodLink RX5 168 yX5_joinClouds ∈ zT := zw_of _ 985 (by decide +kernel) (by decide +kernel)
theorem cd_X5_joinClouds : Cond.code yX5_joinClouds cX5_joinClouds 3 none ∈ zT := zw_of _ 988 (by decide +kernel) (by decide +kernel)
theorem cw_X5_168 : zCw RX5 168 yX5_joinClouds cX5_joinClouds 3 none 0 := ⟨ml_X5_168, ni_X5, cd_X5_joinClouds, by decide, by decide, by decide +kernel⟩
theorem wi_X5_joinClouds : Cond.instanceMethod yX5_joinClouds ∈ zT := zw_of _ 987 (by decide +kernel) (by decide +kernel)
theorem ws_X5_joinClouds : Cond.selects RX5 yX5_joinClouds yX5_joinClouds ∈ zT := zw_of _ 38 (by decide +kernel) (by decide +kernel)
theorem ml_X5_171 : Cond.methodLink RX5 171 yX5_rainDown ∈ zT := zw_of _ 993 (by decide +kernel) (by decide +kernel)
theorem cd_X5_rainDown : Cond.code yX5_rainDown cX5_rainDown 3 none ∈ zT := zw_of _ 996 (by decide +kernel) (by decide +kernel)
theorem cw_X5_171 : zCw RX5 171 yX5_rainDown cX5_rainDown 3 none 0 := ⟨ml_X5_171, ni_X5, cd_X5_rainDown, by decide, by decide, by decide +kernel⟩
theorem wi_X5_rainDown : Cond.instanceMethod yX5_rainDown ∈ zT := zw_of _ 995 (by decide +kernel) (by decide +kernel)
theorem ws_X5_rainDown : Cond.selects RX5 yX5_rainDown yX5_rainDown ∈ zT := zw_of _ 40 (by decide +kernel) (by decide +kernel)
theorem ml_X5_174 : Cond.methodLink RX5 174 yX5_giveOut ∈ zT := zw_of _ 1002 (by decide +kernel) (by decide +kernel)
theorem cd_X5_giveOut : Cond.code yX5_giveOut cX5_giveOut 2 none ∈ zT := zw_of _ 1005 (by decide +kernel) (by decide +kernel)
theorem cw_X5_174 : zCw RX5 174 yX5_giveOut cX5_giveOut 2 none 0 := ⟨ml_X5_174, ni_X5, cd_X5_giveOut, by decide, by decide, by decide +kernel⟩
theorem wi_X5_giveOut : Cond.instanceMethod yX5_giveOut ∈ zT := zw_of _ 1004 (by decide +kernel) (by decide +kernel)
theorem ws_X5_giveOut : Cond.selects RX5 yX5_giveOut yX5_giveOut ∈ zT := zw_of _ 42 (by decide +kernel) (by decide +kernel)
theorem ml_X5_177 : Cond.methodLink RX5 177 yX5_markChildren ∈ zT := zw_of _ 1011 (by decide +kernel) (by decide +kernel)
theorem cd_X5_markChildren : Cond.code yX5_markChildren cX5_markChildren 3 none ∈ zT := zw_of _ 1014 (by decide +kernel) (by decide +kernel)
theorem cw_X5_177 : zCw RX5 177 yX5_markChildren cX5_markChildren 3 none 0 := ⟨ml_X5_177, ni_X5, cd_X5_markChildren, by decide, by decide, by decide +kernel⟩
theorem wi_X5_markChildren : Cond.instanceMethod yX5_markChildren ∈ zT := zw_of _ 1013 (by decide +kernel) (by decide +kernel)
theorem ws_X5_markChildren : Cond.selects RX5 yX5_markChildren yX5_markChildren ∈ zT := zw_of _ 44 (by decide +kernel) (by decide +kernel)
abbrev M_X5_howManyAre : zMt := (RX5, cX5_howManyAre, 4, 1, 60, (some .int), "howManyAre", 0, 0)
theorem d_X5_howManyAre_0 : zDc M_X5_howManyAre 0 (.iconst 0) 1 1 := ⟨by decide +kernel, rfl⟩
theorem d_X5_howManyAre_1 : zDc M_X5_howManyAre 1 (.istore_n 2) 1 2 := ⟨by decide +kernel, rfl⟩
theorem d_X5_howManyAre_2 : zDc M_X5_howManyAre 2 (.iconst 0) 1 3 := ⟨by decide +kernel, rfl⟩
theorem d_X5_howManyAre_3 : zDc M_X5_howManyAre 3 (.istore_n 3) 1 4 := ⟨by decide +kernel, rfl⟩
theorem d_X5_howManyAre_4 : zDc M_X5_howManyAre 4 (.iload_n 3) 1 5 := ⟨by decide +kernel, rfl⟩
theorem d_X5_howManyAre_5 : zDc M_X5_howManyAre 5 (.aload_n 0) 1 6 := ⟨by decide +kernel, rfl⟩
theorem d_X5_howManyAre_6 : zDc M_X5_howManyAre 6 (.getfield 50) 3 9 := ⟨by decide +kernel, rfl⟩
theorem d_X5_howManyAre_9 : zDc M_X5_howManyAre 9 (.getfield 90) 3 12 := ⟨by decide +kernel, rfl⟩
theorem d_X5_howManyAre_12 : zDj M_X5_howManyAre 12 (.if_icmp .ge 22) 22 15 34 := ⟨by decide +kernel, rfl, by decide⟩
theorem d_X5_howManyAre_15 : zDc M_X5_howManyAre 15 (.aload_n 0) 1 16 := ⟨by decide +kernel, rfl⟩
theorem d_X5_howManyAre_16 : zDc M_X5_howManyAre 16 (.getfield 27) 3 19 := ⟨by decide +kernel, rfl⟩
theorem d_X5_howManyAre_19 : zDc M_X5_howManyAre 19 (.iload_n 3) 1 20 := ⟨by decide +kernel, rfl⟩
theorem d_X5_howManyAre_20 : zDc M_X5_howManyAre 20 (.iaload) 1 21 := ⟨by decide +kernel, rfl⟩
theorem d_X5_howManyAre_21 : zDc M_X5_howManyAre 21 (.iload_n 1) 1 22 := ⟨by decide +kernel, rfl⟩
theorem d_X5_howManyAre_22 : zDj M_X5_howManyAre 22 (.if_icmp .ne 6) 6 25 28 := ⟨by decide +kernel, rfl, by decide⟩
theorem d_X5_howManyAre_25 : zDc M_X5_howManyAre 25 (.iinc 2 1) 3 28 := ⟨by decide +kernel, rfl⟩
theorem d_X5_howManyAre_28 : zDc M_X5_howManyAre 28 (.iinc 3 1) 3 31 := ⟨by decide +kernel, rfl⟩
theorem d_X5_howManyAre_31 : zDj M_X5_howManyAre 31 (.goto (-27)) (-27) 34 4 := ⟨by decide +kernel, rfl, by decide⟩
theorem d_X5_howManyAre_34 : zDc M_X5_howManyAre 34 (.iload_n 2) 1 35 := ⟨by decide +kernel, rfl⟩
theorem d_X5_howManyAre_35 : zDc M_X5_howManyAre 35 (.ireturn) 1 36 := ⟨by decide +kernel, rfl⟩
def f_X5_howManyAre (a0 : Nat) (a1 : Int32) (h0 : zHp) : Option (Int32 × zHp) :=
  zbd (
  zlp (σ := (Int32 × Int32)) (β := (Int32 × Int32)) zLF (fun s1 h2 =>
  zob (zgR h2 a0 5 14) (fun v5 =>
  zob (zgI h2 v5 6 14) (fun v6 =>
  if v6 ≤ s1.2 then
  some ((.inr (s1.1, s1.2)), h2)
  else
  zob (zgR h2 a0 5 5) (fun v7 =>
  zob (zaI 0 h2 v7 s1.2) (fun v8 =>
  if v8 = a1 then
  some ((.inl ((s1.1 + 1), (s1.2 + 1))), h2)
  else
  some ((.inl (s1.1, (s1.2 + 1))), h2)))))) (0, 0) h0) (fun e3 h4 =>
  some (e3.1, h4))
set_option maxRecDepth 100000 in
set_option maxHeartbeats 4000000 in
theorem t_X5_howManyAre (a0 : Nat) (a1 : Int32) (h0 : zHp) : ∀ (r : Int32) (h' : zHp), f_X5_howManyAre a0 a1 h0 = some (r, h') → zCt yX5_howManyAre (.code yX5_howManyAre cX5_howManyAre 4 (some .int)) 1 60 0 0 [.ref a0, .int a1] h0 (some (.int r)) h' := by
  refine zct_of M_X5_howManyAre yX5_howManyAre (by decide) rfl rfl [.ref a0, .int a1] h0 (Nat.le_of_ble_eq_true rfl) (fun r => some (.int r)) (fun X => ?_)
  show zG X M_X5_howManyAre (0, 0) 0 [(0, .ref a0), (1, .int a1)] [] h0 (f_X5_howManyAre a0 a1 h0) (fun (r : Int32) h' => zKe X (some (.int r)) h')
  unfold f_X5_howManyAre
  refine zg_iconst 0 rfl d_X5_howManyAre_0 ?_
  refine zg_istore_n [(2, .int 0), (0, .ref a0), (1, .int a1)] d_X5_howManyAre_1 rfl (by decide) rfl ?_
  refine zg_iconst 0 rfl d_X5_howManyAre_2 ?_
  refine zg_istore_n [(3, .int 0), (2, .int 0), (0, .ref a0), (1, .int a1)] d_X5_howManyAre_3 rfl (by decide) rfl ?_
  refine zg_bd (E := 34) (el := (fun (e3 : (Int32 × Int32)) => [(0, .ref a0), (1, .int a1), (2, .int e3.1), (3, .int e3.2)])) (es := fun _ => []) (zg_sub [2, 3, 1, 0] rfl (zg_lp (el := (fun (s1 : (Int32 × Int32)) => [(0, .ref a0), (1, .int a1), (2, .int s1.1), (3, .int s1.2)])) (fun s1 h2 => ?_) (0, 0) h0)) (fun e3 h4 => ?_)
  · refine zg_iload_n 3 rfl d_X5_howManyAre_4 ?_
    refine zg_aload_n 0 rfl d_X5_howManyAre_5 ?_
    refine zg_getR d_X5_howManyAre_6 zc_5 (by decide) fl_X5_50 (fun v5 => ?_)
    refine zg_getI d_X5_howManyAre_9 zc_6 (by decide) fl_X5_90 (fun v6 => ?_)
    refine zg_icmp_ge d_X5_howManyAre_12 ?_ ?_
    · exact zg_finK (E := 0) [0, 1, 2, 3] rfl rfl (fun q => q)
    · refine zg_aload_n 0 rfl d_X5_howManyAre_15 ?_
      refine zg_getR d_X5_howManyAre_16 zc_5 (by decide) fl_X5_27 (fun v7 => ?_)
      refine zg_iload_n 3 rfl d_X5_howManyAre_19 ?_
      refine zg_ald0 d_X5_howManyAre_20 (fun v8 => ?_)
      refine zg_iload_n 1 rfl d_X5_howManyAre_21 ?_
      refine zg_icmp_ne d_X5_howManyAre_22 ?_ ?_
      · refine zg_iinc 2 (s1.1 + 1) [(2, .int (s1.1 + 1)), (0, .ref a0), (1, .int a1), (3, .int s1.2)] d_X5_howManyAre_25 rfl rfl (by decide) rfl ?_
        refine zg_iinc 3 (s1.2 + 1) [(3, .int (s1.2 + 1)), (2, .int (s1.1 + 1)), (0, .ref a0), (1, .int a1)] d_X5_howManyAre_28 rfl rfl (by decide) rfl ?_
        refine zg_goto d_X5_howManyAre_31 ?_
        exact zg_finK (E := 0) [2, 3, 1, 0] rfl rfl (fun q => q)
      · refine zg_iinc 3 (s1.2 + 1) [(3, .int (s1.2 + 1)), (0, .ref a0), (1, .int a1), (2, .int s1.1)] d_X5_howManyAre_28 rfl rfl (by decide) rfl ?_
        refine zg_goto d_X5_howManyAre_31 ?_
        exact zg_finK (E := 0) [1, 2, 3, 0] rfl rfl (fun q => q)
  · refine zg_iload_n 2 rfl d_X5_howManyAre_34 ?_
    exact zg_iretK d_X5_howManyAre_35 rfl ⟨Nat.le_of_ble_eq_true rfl, Nat.le_of_ble_eq_true rfl⟩ (fun q => q)
abbrev M_X5_worthOf : zMt := (RX5, cX5_worthOf, 4, 3, 115, (some .long), "worthOf", 0, 0)
theorem d_X5_worthOf_0 : zDc M_X5_worthOf 0 (.aload_n 0) 1 1 := ⟨by decide +kernel, rfl⟩
theorem d_X5_worthOf_1 : zDc M_X5_worthOf 1 (.getfield 50) 3 4 := ⟨by decide +kernel, rfl⟩
theorem d_X5_worthOf_4 : zDc M_X5_worthOf 4 (.getfield 137) 3 7 := ⟨by decide +kernel, rfl⟩
theorem d_X5_worthOf_7 : zDc M_X5_worthOf 7 (.iload_n 1) 1 8 := ⟨by decide +kernel, rfl⟩
theorem d_X5_worthOf_8 : zDc M_X5_worthOf 8 (.invokevirtual 141) 3 11 := ⟨by decide +kernel, rfl⟩
theorem d_X5_worthOf_11 : zDj M_X5_worthOf 11 (.ifCond .ne 7) 7 14 18 := ⟨by decide +kernel, rfl, by decide⟩
theorem d_X5_worthOf_14 : zDc M_X5_worthOf 14 (.ldc2_w 146) 3 17 := ⟨by decide +kernel, rfl⟩
theorem d_X5_worthOf_17 : zDc M_X5_worthOf 17 (.lreturn) 1 18 := ⟨by decide +kernel, rfl⟩
theorem d_X5_worthOf_18 : zDc M_X5_worthOf 18 (.aload_n 0) 1 19 := ⟨by decide +kernel, rfl⟩
theorem d_X5_worthOf_19 : zDc M_X5_worthOf 19 (.getfield 24) 3 22 := ⟨by decide +kernel, rfl⟩
theorem d_X5_worthOf_22 : zDc M_X5_worthOf 22 (.iload_n 2) 1 23 := ⟨by decide +kernel, rfl⟩
theorem d_X5_worthOf_23 : zDc M_X5_worthOf 23 (.iaload) 1 24 := ⟨by decide +kernel, rfl⟩
theorem d_X5_worthOf_24 : zDc M_X5_worthOf 24 (.istore_n 3) 1 25 := ⟨by decide +kernel, rfl⟩
theorem d_X5_worthOf_25 : zDc M_X5_worthOf 25 (.aload_n 0) 1 26 := ⟨by decide +kernel, rfl⟩
theorem d_X5_worthOf_26 : zDc M_X5_worthOf 26 (.getfield 47) 3 29 := ⟨by decide +kernel, rfl⟩
theorem d_X5_worthOf_29 : zDc M_X5_worthOf 29 (.iconst 0) 1 30 := ⟨by decide +kernel, rfl⟩
theorem d_X5_worthOf_30 : zDc M_X5_worthOf 30 (.aload_n 0) 1 31 := ⟨by decide +kernel, rfl⟩
theorem d_X5_worthOf_31 : zDc M_X5_worthOf 31 (.getfield 18) 3 34 := ⟨by decide +kernel, rfl⟩
theorem d_X5_worthOf_34 : zDc M_X5_worthOf 34 (.iload_n 2) 1 35 := ⟨by decide +kernel, rfl⟩
theorem d_X5_worthOf_35 : zDc M_X5_worthOf 35 (.iaload) 1 36 := ⟨by decide +kernel, rfl⟩
theorem d_X5_worthOf_36 : zDc M_X5_worthOf 36 (.iastore) 1 37 := ⟨by decide +kernel, rfl⟩
theorem d_X5_worthOf_37 : zDc M_X5_worthOf 37 (.aload_n 0) 1 38 := ⟨by decide +kernel, rfl⟩
theorem d_X5_worthOf_38 : zDc M_X5_worthOf 38 (.getfield 47) 3 41 := ⟨by decide +kernel, rfl⟩
theorem d_X5_worthOf_41 : zDc M_X5_worthOf 41 (.iconst 1) 1 42 := ⟨by decide +kernel, rfl⟩
theorem d_X5_worthOf_42 : zDc M_X5_worthOf 42 (.aload_n 0) 1 43 := ⟨by decide +kernel, rfl⟩
theorem d_X5_worthOf_43 : zDc M_X5_worthOf 43 (.aload_n 0) 1 44 := ⟨by decide +kernel, rfl⟩
theorem d_X5_worthOf_44 : zDc M_X5_worthOf 44 (.getfield 9) 3 47 := ⟨by decide +kernel, rfl⟩
theorem d_X5_worthOf_47 : zDc M_X5_worthOf 47 (.iload_n 2) 1 48 := ⟨by decide +kernel, rfl⟩
theorem d_X5_worthOf_48 : zDc M_X5_worthOf 48 (.iaload) 1 49 := ⟨by decide +kernel, rfl⟩
theorem d_X5_worthOf_49 : zDc M_X5_worthOf 49 (.aload_n 0) 1 50 := ⟨by decide +kernel, rfl⟩
theorem d_X5_worthOf_50 : zDc M_X5_worthOf 50 (.getfield 15) 3 53 := ⟨by decide +kernel, rfl⟩
theorem d_X5_worthOf_53 : zDc M_X5_worthOf 53 (.iload_n 2) 1 54 := ⟨by decide +kernel, rfl⟩
theorem d_X5_worthOf_54 : zDc M_X5_worthOf 54 (.iaload) 1 55 := ⟨by decide +kernel, rfl⟩
theorem d_X5_worthOf_55 : zDc M_X5_worthOf 55 (.invokevirtual 148) 3 58 := ⟨by decide +kernel, rfl⟩
theorem d_X5_worthOf_58 : zDc M_X5_worthOf 58 (.iastore) 1 59 := ⟨by decide +kernel, rfl⟩
theorem d_X5_worthOf_59 : zDc M_X5_worthOf 59 (.aload_n 0) 1 60 := ⟨by decide +kernel, rfl⟩
theorem d_X5_worthOf_60 : zDc M_X5_worthOf 60 (.getfield 47) 3 63 := ⟨by decide +kernel, rfl⟩
theorem d_X5_worthOf_63 : zDc M_X5_worthOf 63 (.iconst 2) 1 64 := ⟨by decide +kernel, rfl⟩
theorem d_X5_worthOf_64 : zDc M_X5_worthOf 64 (.aload_n 0) 1 65 := ⟨by decide +kernel, rfl⟩
theorem d_X5_worthOf_65 : zDc M_X5_worthOf 65 (.getfield 21) 3 68 := ⟨by decide +kernel, rfl⟩
theorem d_X5_worthOf_68 : zDc M_X5_worthOf 68 (.iload_n 2) 1 69 := ⟨by decide +kernel, rfl⟩
theorem d_X5_worthOf_69 : zDc M_X5_worthOf 69 (.iaload) 1 70 := ⟨by decide +kernel, rfl⟩
theorem d_X5_worthOf_70 : zDc M_X5_worthOf 70 (.iastore) 1 71 := ⟨by decide +kernel, rfl⟩
theorem d_X5_worthOf_71 : zDc M_X5_worthOf 71 (.aload_n 0) 1 72 := ⟨by decide +kernel, rfl⟩
theorem d_X5_worthOf_72 : zDc M_X5_worthOf 72 (.getfield 47) 3 75 := ⟨by decide +kernel, rfl⟩
theorem d_X5_worthOf_75 : zDc M_X5_worthOf 75 (.iconst 3) 1 76 := ⟨by decide +kernel, rfl⟩
theorem d_X5_worthOf_76 : zDc M_X5_worthOf 76 (.iload_n 3) 1 77 := ⟨by decide +kernel, rfl⟩
theorem d_X5_worthOf_77 : zDc M_X5_worthOf 77 (.iconst (-1)) 1 78 := ⟨by decide +kernel, rfl⟩
theorem d_X5_worthOf_78 : zDj M_X5_worthOf 78 (.if_icmp .ne 8) 8 81 86 := ⟨by decide +kernel, rfl, by decide⟩
theorem d_X5_worthOf_81 : zDc M_X5_worthOf 81 (.bipush 99) 2 83 := ⟨by decide +kernel, rfl⟩
theorem d_X5_worthOf_83 : zDj M_X5_worthOf 83 (.goto 9) 9 86 92 := ⟨by decide +kernel, rfl, by decide⟩
theorem d_X5_worthOf_86 : zDc M_X5_worthOf 86 (.aload_n 0) 1 87 := ⟨by decide +kernel, rfl⟩
theorem d_X5_worthOf_87 : zDc M_X5_worthOf 87 (.iload_n 3) 1 88 := ⟨by decide +kernel, rfl⟩
theorem d_X5_worthOf_88 : zDc M_X5_worthOf 88 (.iload_n 2) 1 89 := ⟨by decide +kernel, rfl⟩
theorem d_X5_worthOf_89 : zDc M_X5_worthOf 89 (.invokevirtual 97) 3 92 := ⟨by decide +kernel, rfl⟩
theorem d_X5_worthOf_92 : zDc M_X5_worthOf 92 (.iastore) 1 93 := ⟨by decide +kernel, rfl⟩
theorem d_X5_worthOf_93 : zDc M_X5_worthOf 93 (.aload_n 0) 1 94 := ⟨by decide +kernel, rfl⟩
theorem d_X5_worthOf_94 : zDc M_X5_worthOf 94 (.getfield 47) 3 97 := ⟨by decide +kernel, rfl⟩
theorem d_X5_worthOf_97 : zDc M_X5_worthOf 97 (.iconst 4) 1 98 := ⟨by decide +kernel, rfl⟩
theorem d_X5_worthOf_98 : zDc M_X5_worthOf 98 (.aload_n 0) 1 99 := ⟨by decide +kernel, rfl⟩
theorem d_X5_worthOf_99 : zDc M_X5_worthOf 99 (.iconst 1) 1 100 := ⟨by decide +kernel, rfl⟩
theorem d_X5_worthOf_100 : zDc M_X5_worthOf 100 (.invokevirtual 151) 3 103 := ⟨by decide +kernel, rfl⟩
theorem d_X5_worthOf_103 : zDc M_X5_worthOf 103 (.iastore) 1 104 := ⟨by decide +kernel, rfl⟩
theorem d_X5_worthOf_104 : zDc M_X5_worthOf 104 (.aload_n 0) 1 105 := ⟨by decide +kernel, rfl⟩
theorem d_X5_worthOf_105 : zDc M_X5_worthOf 105 (.getfield 47) 3 108 := ⟨by decide +kernel, rfl⟩
theorem d_X5_worthOf_108 : zDc M_X5_worthOf 108 (.iconst 5) 1 109 := ⟨by decide +kernel, rfl⟩
theorem d_X5_worthOf_109 : zDc M_X5_worthOf 109 (.iload_n 3) 1 110 := ⟨by decide +kernel, rfl⟩
theorem d_X5_worthOf_110 : zDc M_X5_worthOf 110 (.iconst (-1)) 1 111 := ⟨by decide +kernel, rfl⟩
theorem d_X5_worthOf_111 : zDj M_X5_worthOf 111 (.if_icmp .ne 7) 7 114 118 := ⟨by decide +kernel, rfl, by decide⟩
theorem d_X5_worthOf_114 : zDc M_X5_worthOf 114 (.iconst 0) 1 115 := ⟨by decide +kernel, rfl⟩
theorem d_X5_worthOf_115 : zDj M_X5_worthOf 115 (.goto 9) 9 118 124 := ⟨by decide +kernel, rfl, by decide⟩
theorem d_X5_worthOf_118 : zDc M_X5_worthOf 118 (.aload_n 0) 1 119 := ⟨by decide +kernel, rfl⟩
theorem d_X5_worthOf_119 : zDc M_X5_worthOf 119 (.getfield 36) 3 122 := ⟨by decide +kernel, rfl⟩
theorem d_X5_worthOf_122 : zDc M_X5_worthOf 122 (.iload_n 3) 1 123 := ⟨by decide +kernel, rfl⟩
theorem d_X5_worthOf_123 : zDc M_X5_worthOf 123 (.iaload) 1 124 := ⟨by decide +kernel, rfl⟩
theorem d_X5_worthOf_124 : zDc M_X5_worthOf 124 (.iastore) 1 125 := ⟨by decide +kernel, rfl⟩
theorem d_X5_worthOf_125 : zDc M_X5_worthOf 125 (.aload_n 0) 1 126 := ⟨by decide +kernel, rfl⟩
theorem d_X5_worthOf_126 : zDc M_X5_worthOf 126 (.getfield 47) 3 129 := ⟨by decide +kernel, rfl⟩
theorem d_X5_worthOf_129 : zDc M_X5_worthOf 129 (.bipush 6) 2 131 := ⟨by decide +kernel, rfl⟩
theorem d_X5_worthOf_131 : zDc M_X5_worthOf 131 (.aload_n 0) 1 132 := ⟨by decide +kernel, rfl⟩
theorem d_X5_worthOf_132 : zDc M_X5_worthOf 132 (.getfield 58) 3 135 := ⟨by decide +kernel, rfl⟩
theorem d_X5_worthOf_135 : zDc M_X5_worthOf 135 (.iastore) 1 136 := ⟨by decide +kernel, rfl⟩
theorem d_X5_worthOf_136 : zDc M_X5_worthOf 136 (.aload_n 0) 1 137 := ⟨by decide +kernel, rfl⟩
theorem d_X5_worthOf_137 : zDc M_X5_worthOf 137 (.getfield 50) 3 140 := ⟨by decide +kernel, rfl⟩
theorem d_X5_worthOf_140 : zDc M_X5_worthOf 140 (.getfield 137) 3 143 := ⟨by decide +kernel, rfl⟩
theorem d_X5_worthOf_143 : zDc M_X5_worthOf 143 (.iload_n 1) 1 144 := ⟨by decide +kernel, rfl⟩
theorem d_X5_worthOf_144 : zDc M_X5_worthOf 144 (.aload_n 0) 1 145 := ⟨by decide +kernel, rfl⟩
theorem d_X5_worthOf_145 : zDc M_X5_worthOf 145 (.getfield 47) 3 148 := ⟨by decide +kernel, rfl⟩
theorem d_X5_worthOf_148 : zDc M_X5_worthOf 148 (.invokevirtual 154) 3 151 := ⟨by decide +kernel, rfl⟩
theorem d_X5_worthOf_151 : zDc M_X5_worthOf 151 (.lreturn) 1 152 := ⟨by decide +kernel, rfl⟩
def f_X5_worthOf (a0 : Nat) (a1 : Int32) (a2 : Int32) (h0 : zHp) : Option (Int64 × zHp) :=
  zob (zgR h0 a0 5 14) (fun v1 =>
  zob (zgR h0 v1 6 12) (fun v2 =>
  zbd (zcv 2 v2 h0 (f_X2_isTold v2 a1 h0)) (fun v4 h3 =>
  if v4 = 0 then
  some ((-9223372036854775808), h3)
  else
  zob (zgR h3 a0 5 4) (fun v5 =>
  zob (zaI 0 h3 v5 a2) (fun v6 =>
  zob (zgR h3 a0 5 15) (fun v7 =>
  zob (zgR h3 a0 5 2) (fun v8 =>
  zob (zaI 0 h3 v8 a2) (fun v9 =>
  zob (zsI 0 h3 v7 0 v9) (fun h10 =>
  zob (zgR h10 a0 5 15) (fun v11 =>
  zob (zgR h10 a0 5 0) (fun v12 =>
  zob (zaI 0 h10 v12 a2) (fun v13 =>
  zob (zgR h10 a0 5 1) (fun v14 =>
  zob (zaI 0 h10 v14 a2) (fun v15 =>
  zbd (zcv 5 a0 h10 (f_X5_groundAt a0 v13 v15 h10)) (fun v17 h16 =>
  zob (zsI 0 h16 v11 1 v17) (fun h18 =>
  zob (zgR h18 a0 5 15) (fun v19 =>
  zob (zgR h18 a0 5 3) (fun v20 =>
  zob (zaI 0 h18 v20 a2) (fun v21 =>
  zob (zsI 0 h18 v19 2 v21) (fun h22 =>
  zob (zgR h22 a0 5 15) (fun v23 =>
  zbd (α := Int32) (
  if v6 = (-1) then
  some (99, h22)
  else
  zbd (zcv 5 a0 h22 (f_X5_howFar a0 v6 a2 h22)) (fun v25 h24 =>
  some (v25, h24))) (fun e26 h27 =>
  zob (zsI 0 h27 v23 3 e26) (fun h28 =>
  zob (zgR h28 a0 5 15) (fun v29 =>
  zbd (zcv 5 a0 h28 (f_X5_howManyAre a0 1 h28)) (fun v31 h30 =>
  zob (zsI 0 h30 v29 4 v31) (fun h32 =>
  zob (zgR h32 a0 5 15) (fun v33 =>
  zbd (α := Int32) (
  if v6 = (-1) then
  some (0, h32)
  else
  zob (zgR h32 a0 5 8) (fun v34 =>
  zob (zaI 0 h32 v34 v6) (fun v35 =>
  some (v35, h32)))) (fun e36 h37 =>
  zob (zsI 0 h37 v33 5 e36) (fun h38 =>
  zob (zgR h38 a0 5 15) (fun v39 =>
  zob (zgI h38 a0 5 11) (fun v40 =>
  zob (zsI 0 h38 v39 6 v40) (fun h41 =>
  zob (zgR h41 a0 5 14) (fun v42 =>
  zob (zgR h41 v42 6 12) (fun v43 =>
  zob (zgR h41 a0 5 15) (fun v44 =>
  zbd (zcv 2 v43 h41 (f_X2_worth v43 a1 v44 h41)) (fun v46 h45 =>
  some (v46, h45)))))))))))))))))))))))))))))))))))))
set_option maxRecDepth 100000 in
set_option maxHeartbeats 4000000 in
theorem t_X5_worthOf (a0 : Nat) (a1 : Int32) (a2 : Int32) (h0 : zHp) : ∀ (r : Int64) (h' : zHp), f_X5_worthOf a0 a1 a2 h0 = some (r, h') → zCt yX5_worthOf (.code yX5_worthOf cX5_worthOf 4 (some .long)) 3 115 0 0 [.ref a0, .int a1, .int a2] h0 (some (.long r)) h' := by
  refine zct_of M_X5_worthOf yX5_worthOf (by decide) rfl rfl [.ref a0, .int a1, .int a2] h0 (Nat.le_of_ble_eq_true rfl) (fun r => some (.long r)) (fun X => ?_)
  show zG X M_X5_worthOf (0, 0) 0 [(0, .ref a0), (1, .int a1), (2, .int a2)] [] h0 (f_X5_worthOf a0 a1 a2 h0) (fun (r : Int64) h' => zKe X (some (.long r)) h')
  unfold f_X5_worthOf
  refine zg_aload_n 0 rfl d_X5_worthOf_0 ?_
  refine zg_getR d_X5_worthOf_1 zc_5 (by decide) fl_X5_50 (fun v1 => ?_)
  refine zg_getR d_X5_worthOf_4 zc_6 (by decide) fl_X5_137 (fun v2 => ?_)
  refine zg_iload_n 1 rfl d_X5_worthOf_7 ?_
  refine zg_cVi (b := v2) (As := [.int a1]) (rest := []) (0, 0) d_X5_worthOf_8 zc_2 rfl cw_X5_141 wi_X2_isTold ws_X2_isTold rfl rfl (Nat.le_of_ble_eq_true rfl) (by decide) (by decide) ⟨by decide, by decide⟩ rfl (t_X2_isTold v2 a1 h0) (fun v4 h3 => ?_)
  refine zg_if_ne d_X5_worthOf_11 ?_ ?_
  · refine zg_ldc2 kl_X5_146 d_X5_worthOf_14 ?_
    exact zg_lretK d_X5_worthOf_17 rfl ⟨Nat.le_of_ble_eq_true rfl, Nat.le_of_ble_eq_true rfl⟩ (fun q => q)
  · refine zg_aload_n 0 rfl d_X5_worthOf_18 ?_
    refine zg_getR d_X5_worthOf_19 zc_5 (by decide) fl_X5_24 (fun v5 => ?_)
    refine zg_iload_n 2 rfl d_X5_worthOf_22 ?_
    refine zg_ald0 d_X5_worthOf_23 (fun v6 => ?_)
    refine zg_istore_n [(3, .int v6), (0, .ref a0), (1, .int a1), (2, .int a2)] d_X5_worthOf_24 rfl (by decide) rfl ?_
    refine zg_aload_n 1 rfl d_X5_worthOf_25 ?_
    refine zg_getR d_X5_worthOf_26 zc_5 (by decide) fl_X5_47 (fun v7 => ?_)
    refine zg_iconst 0 rfl d_X5_worthOf_29 ?_
    refine zg_aload_n 1 rfl d_X5_worthOf_30 ?_
    refine zg_getR d_X5_worthOf_31 zc_5 (by decide) fl_X5_18 (fun v8 => ?_)
    refine zg_iload_n 3 rfl d_X5_worthOf_34 ?_
    refine zg_ald0 d_X5_worthOf_35 (fun v9 => ?_)
    refine zg_ast0 d_X5_worthOf_36 (fun h10 => ?_)
    refine zg_aload_n 1 rfl d_X5_worthOf_37 ?_
    refine zg_getR d_X5_worthOf_38 zc_5 (by decide) fl_X5_47 (fun v11 => ?_)
    refine zg_iconst 1 rfl d_X5_worthOf_41 ?_
    refine zg_aload_n 1 rfl d_X5_worthOf_42 ?_
    refine zg_aload_n 1 rfl d_X5_worthOf_43 ?_
    refine zg_getR d_X5_worthOf_44 zc_5 (by decide) fl_X5_9 (fun v12 => ?_)
    refine zg_iload_n 3 rfl d_X5_worthOf_47 ?_
    refine zg_ald0 d_X5_worthOf_48 (fun v13 => ?_)
    refine zg_aload_n 1 rfl d_X5_worthOf_49 ?_
    refine zg_getR d_X5_worthOf_50 zc_5 (by decide) fl_X5_15 (fun v14 => ?_)
    refine zg_iload_n 3 rfl d_X5_worthOf_53 ?_
    refine zg_ald0 d_X5_worthOf_54 (fun v15 => ?_)
    refine zg_cVi (b := a0) (As := [.int v13, .int v15]) (rest := [.int 1, .ref v11]) (0, 0) d_X5_worthOf_55 zc_5 rfl cw_X5_148 wi_X5_groundAt ws_X5_groundAt rfl rfl (Nat.le_of_ble_eq_true rfl) (by decide) (by decide) ⟨by decide, by decide⟩ rfl (t_X5_groundAt a0 v13 v15 h10) (fun v17 h16 => ?_)
    refine zg_ast0 d_X5_worthOf_58 (fun h18 => ?_)
    refine zg_aload_n 1 rfl d_X5_worthOf_59 ?_
    refine zg_getR d_X5_worthOf_60 zc_5 (by decide) fl_X5_47 (fun v19 => ?_)
    refine zg_iconst 2 rfl d_X5_worthOf_63 ?_
    refine zg_aload_n 1 rfl d_X5_worthOf_64 ?_
    refine zg_getR d_X5_worthOf_65 zc_5 (by decide) fl_X5_21 (fun v20 => ?_)
    refine zg_iload_n 3 rfl d_X5_worthOf_68 ?_
    refine zg_ald0 d_X5_worthOf_69 (fun v21 => ?_)
    refine zg_ast0 d_X5_worthOf_70 (fun h22 => ?_)
    refine zg_aload_n 1 rfl d_X5_worthOf_71 ?_
    refine zg_getR d_X5_worthOf_72 zc_5 (by decide) fl_X5_47 (fun v23 => ?_)
    refine zg_iconst 3 rfl d_X5_worthOf_75 ?_
    refine zg_iload_n 0 rfl d_X5_worthOf_76 ?_
    refine zg_iconst (-1) rfl d_X5_worthOf_77 ?_
    refine zg_bd (E := 92) (el := (fun (e26 : Int32) => [(0, .ref a0), (1, .int a1), (2, .int a2), (3, .int v6)])) (es := (fun (e26 : Int32) => [.int e26, .int 3, .ref v23])) ?_ (fun e26 h27 => ?_)
    · refine zg_icmp_ne d_X5_worthOf_78 ?_ ?_
      · refine zg_bipush 99 rfl d_X5_worthOf_81 ?_
        refine zg_goto d_X5_worthOf_83 ?_
        exact zg_finK (E := 0) [1, 2, 3, 0] rfl rfl (fun q => q)
      · refine zg_aload_n 1 rfl d_X5_worthOf_86 ?_
        refine zg_iload_n 0 rfl d_X5_worthOf_87 ?_
        refine zg_iload_n 3 rfl d_X5_worthOf_88 ?_
        refine zg_cVi (b := a0) (As := [.int v6, .int a2]) (rest := [.int 3, .ref v23]) (0, 0) d_X5_worthOf_89 zc_5 rfl cw_X5_97 wi_X5_howFar ws_X5_howFar rfl rfl (Nat.le_of_ble_eq_true rfl) (by decide) (by decide) ⟨by decide, by decide⟩ rfl (t_X5_howFar a0 v6 a2 h22) (fun v25 h24 => ?_)
        exact zg_finK (E := 0) [1, 2, 3, 0] rfl rfl (fun q => q)
    · refine zg_ast0 d_X5_worthOf_92 (fun h28 => ?_)
      refine zg_aload_n 0 rfl d_X5_worthOf_93 ?_
      refine zg_getR d_X5_worthOf_94 zc_5 (by decide) fl_X5_47 (fun v29 => ?_)
      refine zg_iconst 4 rfl d_X5_worthOf_97 ?_
      refine zg_aload_n 0 rfl d_X5_worthOf_98 ?_
      refine zg_iconst 1 rfl d_X5_worthOf_99 ?_
      refine zg_cVi (b := a0) (As := [.int 1]) (rest := [.int 4, .ref v29]) (0, 0) d_X5_worthOf_100 zc_5 rfl cw_X5_151 wi_X5_howManyAre ws_X5_howManyAre rfl rfl (Nat.le_of_ble_eq_true rfl) (by decide) (by decide) ⟨by decide, by decide⟩ rfl (t_X5_howManyAre a0 1 h28) (fun v31 h30 => ?_)
      refine zg_ast0 d_X5_worthOf_103 (fun h32 => ?_)
      refine zg_aload_n 0 rfl d_X5_worthOf_104 ?_
      refine zg_getR d_X5_worthOf_105 zc_5 (by decide) fl_X5_47 (fun v33 => ?_)
      refine zg_iconst 5 rfl d_X5_worthOf_108 ?_
      refine zg_iload_n 3 rfl d_X5_worthOf_109 ?_
      refine zg_iconst (-1) rfl d_X5_worthOf_110 ?_
      refine zg_bd (E := 124) (el := (fun (e36 : Int32) => [(0, .ref a0), (1, .int a1), (2, .int a2), (3, .int v6)])) (es := (fun (e36 : Int32) => [.int e36, .int 5, .ref v33])) ?_ (fun e36 h37 => ?_)
      · refine zg_icmp_ne d_X5_worthOf_111 ?_ ?_
        · refine zg_iconst 0 rfl d_X5_worthOf_114 ?_
          refine zg_goto d_X5_worthOf_115 ?_
          exact zg_finK (E := 0) [0, 1, 2, 3] rfl rfl (fun q => q)
        · refine zg_aload_n 0 rfl d_X5_worthOf_118 ?_
          refine zg_getR d_X5_worthOf_119 zc_5 (by decide) fl_X5_36 (fun v34 => ?_)
          refine zg_iload_n 3 rfl d_X5_worthOf_122 ?_
          refine zg_ald0 d_X5_worthOf_123 (fun v35 => ?_)
          exact zg_finK (E := 0) [0, 1, 2, 3] rfl rfl (fun q => q)
      · refine zg_ast0 d_X5_worthOf_124 (fun h38 => ?_)
        refine zg_aload_n 0 rfl d_X5_worthOf_125 ?_
        refine zg_getR d_X5_worthOf_126 zc_5 (by decide) fl_X5_47 (fun v39 => ?_)
        refine zg_bipush 6 rfl d_X5_worthOf_129 ?_
        refine zg_aload_n 0 rfl d_X5_worthOf_131 ?_
        refine zg_getI d_X5_worthOf_132 zc_5 (by decide) fl_X5_58 (fun v40 => ?_)
        refine zg_ast0 d_X5_worthOf_135 (fun h41 => ?_)
        refine zg_aload_n 0 rfl d_X5_worthOf_136 ?_
        refine zg_getR d_X5_worthOf_137 zc_5 (by decide) fl_X5_50 (fun v42 => ?_)
        refine zg_getR d_X5_worthOf_140 zc_6 (by decide) fl_X5_137 (fun v43 => ?_)
        refine zg_iload_n 1 rfl d_X5_worthOf_143 ?_
        refine zg_aload_n 0 rfl d_X5_worthOf_144 ?_
        refine zg_getR d_X5_worthOf_145 zc_5 (by decide) fl_X5_47 (fun v44 => ?_)
        refine zg_cVl (b := v43) (As := [.int a1, .ref v44]) (rest := []) (0, 0) d_X5_worthOf_148 zc_2 rfl cw_X5_154 wi_X2_worth ws_X2_worth rfl rfl (Nat.le_of_ble_eq_true rfl) (by decide) (by decide) ⟨by decide, by decide⟩ rfl (t_X2_worth v43 a1 v44 h41) (fun v46 h45 => ?_)
        exact zg_lretK d_X5_worthOf_151 rfl ⟨Nat.le_of_ble_eq_true rfl, Nat.le_of_ble_eq_true rfl⟩ (fun q => q)
abbrev M_X5_growClouds : zMt := (RX5, cX5_growClouds, 4, 4, 138, none, "growClouds", 0, 0)
theorem d_X5_growClouds_0 : zDc M_X5_growClouds 0 (.iconst 0) 1 1 := ⟨by decide +kernel, rfl⟩
theorem d_X5_growClouds_1 : zDc M_X5_growClouds 1 (.istore_n 1) 1 2 := ⟨by decide +kernel, rfl⟩
theorem d_X5_growClouds_2 : zDc M_X5_growClouds 2 (.iload_n 1) 1 3 := ⟨by decide +kernel, rfl⟩
theorem d_X5_growClouds_3 : zDc M_X5_growClouds 3 (.aload_n 0) 1 4 := ⟨by decide +kernel, rfl⟩
theorem d_X5_growClouds_4 : zDc M_X5_growClouds 4 (.getfield 50) 3 7 := ⟨by decide +kernel, rfl⟩
theorem d_X5_growClouds_7 : zDc M_X5_growClouds 7 (.getfield 90) 3 10 := ⟨by decide +kernel, rfl⟩
theorem d_X5_growClouds_10 : zDj M_X5_growClouds 10 (.if_icmp .ge 75) 75 13 85 := ⟨by decide +kernel, rfl, by decide⟩
theorem d_X5_growClouds_13 : zDc M_X5_growClouds 13 (.aload_n 0) 1 14 := ⟨by decide +kernel, rfl⟩
theorem d_X5_growClouds_14 : zDc M_X5_growClouds 14 (.iload_n 1) 1 15 := ⟨by decide +kernel, rfl⟩
theorem d_X5_growClouds_15 : zDc M_X5_growClouds 15 (.invokevirtual 93) 3 18 := ⟨by decide +kernel, rfl⟩
theorem d_X5_growClouds_18 : zDj M_X5_growClouds 18 (.ifCond .eq 61) 61 21 79 := ⟨by decide +kernel, rfl, by decide⟩
theorem d_X5_growClouds_21 : zDc M_X5_growClouds 21 (.aload_n 0) 1 22 := ⟨by decide +kernel, rfl⟩
theorem d_X5_growClouds_22 : zDc M_X5_growClouds 22 (.aload_n 0) 1 23 := ⟨by decide +kernel, rfl⟩
theorem d_X5_growClouds_23 : zDc M_X5_growClouds 23 (.getfield 9) 3 26 := ⟨by decide +kernel, rfl⟩
theorem d_X5_growClouds_26 : zDc M_X5_growClouds 26 (.iload_n 1) 1 27 := ⟨by decide +kernel, rfl⟩
theorem d_X5_growClouds_27 : zDc M_X5_growClouds 27 (.iaload) 1 28 := ⟨by decide +kernel, rfl⟩
theorem d_X5_growClouds_28 : zDc M_X5_growClouds 28 (.aload_n 0) 1 29 := ⟨by decide +kernel, rfl⟩
theorem d_X5_growClouds_29 : zDc M_X5_growClouds 29 (.getfield 15) 3 32 := ⟨by decide +kernel, rfl⟩
theorem d_X5_growClouds_32 : zDc M_X5_growClouds 32 (.iload_n 1) 1 33 := ⟨by decide +kernel, rfl⟩
theorem d_X5_growClouds_33 : zDc M_X5_growClouds 33 (.iaload) 1 34 := ⟨by decide +kernel, rfl⟩
theorem d_X5_growClouds_34 : zDc M_X5_growClouds 34 (.invokevirtual 148) 3 37 := ⟨by decide +kernel, rfl⟩
theorem d_X5_growClouds_37 : zDc M_X5_growClouds 37 (.iconst 1) 1 38 := ⟨by decide +kernel, rfl⟩
theorem d_X5_growClouds_38 : zDj M_X5_growClouds 38 (.if_icmp .ne 7) 7 41 45 := ⟨by decide +kernel, rfl, by decide⟩
theorem d_X5_growClouds_41 : zDc M_X5_growClouds 41 (.iconst 1) 1 42 := ⟨by decide +kernel, rfl⟩
theorem d_X5_growClouds_42 : zDj M_X5_growClouds 42 (.goto 4) 4 45 46 := ⟨by decide +kernel, rfl, by decide⟩
theorem d_X5_growClouds_45 : zDc M_X5_growClouds 45 (.iconst 0) 1 46 := ⟨by decide +kernel, rfl⟩
theorem d_X5_growClouds_46 : zDc M_X5_growClouds 46 (.istore_n 2) 1 47 := ⟨by decide +kernel, rfl⟩
theorem d_X5_growClouds_47 : zDc M_X5_growClouds 47 (.aload_n 0) 1 48 := ⟨by decide +kernel, rfl⟩
theorem d_X5_growClouds_48 : zDc M_X5_growClouds 48 (.iconst 0) 1 49 := ⟨by decide +kernel, rfl⟩
theorem d_X5_growClouds_49 : zDc M_X5_growClouds 49 (.iload_n 1) 1 50 := ⟨by decide +kernel, rfl⟩
theorem d_X5_growClouds_50 : zDc M_X5_growClouds 50 (.invokevirtual 190) 3 53 := ⟨by decide +kernel, rfl⟩
theorem d_X5_growClouds_53 : zDc M_X5_growClouds 53 (.bipush 9) 2 55 := ⟨by decide +kernel, rfl⟩
theorem d_X5_growClouds_55 : zDc M_X5_growClouds 55 (.iload_n 2) 1 56 := ⟨by decide +kernel, rfl⟩
theorem d_X5_growClouds_56 : zDc M_X5_growClouds 56 (.invokestatic 194) 3 59 := ⟨by decide +kernel, rfl⟩
theorem d_X5_growClouds_59 : zDc M_X5_growClouds 59 (.istore_n 3) 1 60 := ⟨by decide +kernel, rfl⟩
theorem d_X5_growClouds_60 : zDc M_X5_growClouds 60 (.aload_n 0) 1 61 := ⟨by decide +kernel, rfl⟩
theorem d_X5_growClouds_61 : zDc M_X5_growClouds 61 (.getfield 18) 3 64 := ⟨by decide +kernel, rfl⟩
theorem d_X5_growClouds_64 : zDc M_X5_growClouds 64 (.iload_n 1) 1 65 := ⟨by decide +kernel, rfl⟩
theorem d_X5_growClouds_65 : zDc M_X5_growClouds 65 (.bipush 20) 2 67 := ⟨by decide +kernel, rfl⟩
theorem d_X5_growClouds_67 : zDc M_X5_growClouds 67 (.aload_n 0) 1 68 := ⟨by decide +kernel, rfl⟩
theorem d_X5_growClouds_68 : zDc M_X5_growClouds 68 (.getfield 18) 3 71 := ⟨by decide +kernel, rfl⟩
theorem d_X5_growClouds_71 : zDc M_X5_growClouds 71 (.iload_n 1) 1 72 := ⟨by decide +kernel, rfl⟩
theorem d_X5_growClouds_72 : zDc M_X5_growClouds 72 (.iaload) 1 73 := ⟨by decide +kernel, rfl⟩
theorem d_X5_growClouds_73 : zDc M_X5_growClouds 73 (.iload_n 3) 1 74 := ⟨by decide +kernel, rfl⟩
theorem d_X5_growClouds_74 : zDc M_X5_growClouds 74 (.iadd) 1 75 := ⟨by decide +kernel, rfl⟩
theorem d_X5_growClouds_75 : zDc M_X5_growClouds 75 (.invokestatic 198) 3 78 := ⟨by decide +kernel, rfl⟩
theorem d_X5_growClouds_78 : zDc M_X5_growClouds 78 (.iastore) 1 79 := ⟨by decide +kernel, rfl⟩
theorem d_X5_growClouds_79 : zDc M_X5_growClouds 79 (.iinc 1 1) 3 82 := ⟨by decide +kernel, rfl⟩
theorem d_X5_growClouds_82 : zDj M_X5_growClouds 82 (.goto (-80)) (-80) 85 2 := ⟨by decide +kernel, rfl, by decide⟩
theorem d_X5_growClouds_85 : zDc M_X5_growClouds 85 (.return_) 1 86 := ⟨by decide +kernel, rfl⟩
def f_X5_growClouds (a0 : Nat) (h0 : zHp) : Option (Unit × zHp) :=
  zbd (
  zlp (σ := Int32) (β := Int32) zLF (fun s1 h2 =>
  zob (zgR h2 a0 5 14) (fun v5 =>
  zob (zgI h2 v5 6 14) (fun v6 =>
  if v6 ≤ s1 then
  some ((.inr s1), h2)
  else
  zbd (zcv 5 a0 h2 (f_X5_isUp a0 s1 h2)) (fun v8 h7 =>
  if v8 = 0 then
  some ((.inl (s1 + 1)), h7)
  else
  zob (zgR h7 a0 5 0) (fun v9 =>
  zob (zaI 0 h7 v9 s1) (fun v10 =>
  zob (zgR h7 a0 5 1) (fun v11 =>
  zob (zaI 0 h7 v11 s1) (fun v12 =>
  zbd (zcv 5 a0 h7 (f_X5_groundAt a0 v10 v12 h7)) (fun v14 h13 =>
  zbd (α := Int32) (
  if v14 = 1 then
  some (1, h13)
  else
  some (0, h13)) (fun e15 h16 =>
  zbd (zcv 5 a0 h16 (f_X5_worthOf a0 0 s1 h16)) (fun v18 h17 =>
  zbd ((f_X5_bounded v18 9 e15 h17)) (fun v20 h19 =>
  zob (zgR h19 a0 5 2) (fun v21 =>
  zob (zgR h19 a0 5 2) (fun v22 =>
  zob (zaI 0 h19 v22 s1) (fun v23 =>
  zob (zsI 0 h19 v21 s1 (zmn 20 (v23 + v20))) (fun h24 =>
  some ((.inl (s1 + 1)), h24))))))))))))))))) 0 h0) (fun e3 h4 =>
  some ((), h4))
set_option maxRecDepth 100000 in
set_option maxHeartbeats 4000000 in
theorem t_X5_growClouds (a0 : Nat) (h0 : zHp) : ∀ (r : Unit) (h' : zHp), f_X5_growClouds a0 h0 = some (r, h') → zCt yX5_growClouds (.code yX5_growClouds cX5_growClouds 4 none) 4 138 0 0 [.ref a0] h0 (none) h' := by
  refine zct_of M_X5_growClouds yX5_growClouds (by decide) rfl rfl [.ref a0] h0 (Nat.le_of_ble_eq_true rfl) (fun _ => none) (fun X => ?_)
  show zG X M_X5_growClouds (0, 0) 0 [(0, .ref a0)] [] h0 (f_X5_growClouds a0 h0) (fun (_ : Unit) h' => zKe X (none) h')
  unfold f_X5_growClouds
  refine zg_iconst 0 rfl d_X5_growClouds_0 ?_
  refine zg_istore_n [(1, .int 0), (0, .ref a0)] d_X5_growClouds_1 rfl (by decide) rfl ?_
  refine zg_bd (E := 85) (el := (fun (e3 : Int32) => [(0, .ref a0), (1, .int e3)])) (es := fun _ => []) (zg_sub [1, 0] rfl (zg_lp (el := (fun (s1 : Int32) => [(0, .ref a0), (1, .int s1)])) (fun s1 h2 => ?_) 0 h0)) (fun e3 h4 => ?_)
  · refine zg_iload_n 1 rfl d_X5_growClouds_2 ?_
    refine zg_aload_n 0 rfl d_X5_growClouds_3 ?_
    refine zg_getR d_X5_growClouds_4 zc_5 (by decide) fl_X5_50 (fun v5 => ?_)
    refine zg_getI d_X5_growClouds_7 zc_6 (by decide) fl_X5_90 (fun v6 => ?_)
    refine zg_icmp_ge d_X5_growClouds_10 ?_ ?_
    · exact zg_finK (E := 0) [0, 1] rfl rfl (fun q => q)
    · refine zg_aload_n 0 rfl d_X5_growClouds_13 ?_
      refine zg_iload_n 1 rfl d_X5_growClouds_14 ?_
      refine zg_cVi (b := a0) (As := [.int s1]) (rest := []) (0, 0) d_X5_growClouds_15 zc_5 rfl cw_X5_93 wi_X5_isUp ws_X5_isUp rfl rfl (Nat.le_of_ble_eq_true rfl) (by decide) (by decide) ⟨by decide, by decide⟩ rfl (t_X5_isUp a0 s1 h2) (fun v8 h7 => ?_)
      refine zg_if_eq d_X5_growClouds_18 ?_ ?_
      · refine zg_iinc 1 (s1 + 1) [(1, .int (s1 + 1)), (0, .ref a0)] d_X5_growClouds_79 rfl rfl (by decide) rfl ?_
        refine zg_goto d_X5_growClouds_82 ?_
        exact zg_finK (E := 0) [1, 0] rfl rfl (fun q => q)
      · refine zg_aload_n 0 rfl d_X5_growClouds_21 ?_
        refine zg_aload_n 0 rfl d_X5_growClouds_22 ?_
        refine zg_getR d_X5_growClouds_23 zc_5 (by decide) fl_X5_9 (fun v9 => ?_)
        refine zg_iload_n 1 rfl d_X5_growClouds_26 ?_
        refine zg_ald0 d_X5_growClouds_27 (fun v10 => ?_)
        refine zg_aload_n 0 rfl d_X5_growClouds_28 ?_
        refine zg_getR d_X5_growClouds_29 zc_5 (by decide) fl_X5_15 (fun v11 => ?_)
        refine zg_iload_n 1 rfl d_X5_growClouds_32 ?_
        refine zg_ald0 d_X5_growClouds_33 (fun v12 => ?_)
        refine zg_cVi (b := a0) (As := [.int v10, .int v12]) (rest := []) (0, 0) d_X5_growClouds_34 zc_5 rfl cw_X5_148 wi_X5_groundAt ws_X5_groundAt rfl rfl (Nat.le_of_ble_eq_true rfl) (by decide) (by decide) ⟨by decide, by decide⟩ rfl (t_X5_groundAt a0 v10 v12 h7) (fun v14 h13 => ?_)
        refine zg_iconst 1 rfl d_X5_growClouds_37 ?_
        refine zg_bd (E := 46) (el := (fun (e15 : Int32) => [(0, .ref a0), (1, .int s1)])) (es := (fun (e15 : Int32) => [.int e15])) ?_ (fun e15 h16 => ?_)
        · refine zg_icmp_ne d_X5_growClouds_38 ?_ ?_
          · refine zg_iconst 1 rfl d_X5_growClouds_41 ?_
            refine zg_goto d_X5_growClouds_42 ?_
            exact zg_finK (E := 0) [0, 1] rfl rfl (fun q => q)
          · refine zg_iconst 0 rfl d_X5_growClouds_45 ?_
            exact zg_finK (E := 0) [0, 1] rfl rfl (fun q => q)
        · refine zg_istore_n [(2, .int e15), (0, .ref a0), (1, .int s1)] d_X5_growClouds_46 rfl (by decide) rfl ?_
          refine zg_aload_n 1 rfl d_X5_growClouds_47 ?_
          refine zg_iconst 0 rfl d_X5_growClouds_48 ?_
          refine zg_iload_n 2 rfl d_X5_growClouds_49 ?_
          refine zg_cVl (b := a0) (As := [.int 0, .int s1]) (rest := []) (0, 0) d_X5_growClouds_50 zc_5 rfl cw_X5_190 wi_X5_worthOf ws_X5_worthOf rfl rfl (Nat.le_of_ble_eq_true rfl) (by decide) (by decide) ⟨by decide, by decide⟩ rfl (t_X5_worthOf a0 0 s1 h16) (fun v18 h17 => ?_)
          refine zg_bipush 9 rfl d_X5_growClouds_53 ?_
          refine zg_iload_n 0 rfl d_X5_growClouds_55 ?_
          refine zg_cSi (As := [.long v18, .int 9, .int e15]) (rest := []) (0, 0) d_X5_growClouds_56 cw_X5_194 wt_X5_bounded rfl rfl (Nat.le_of_ble_eq_true rfl) (by decide) (by decide) ⟨by decide, by decide⟩ rfl (t_X5_bounded v18 9 e15 h17) (fun v20 h19 => ?_)
          refine zg_istore_n [(3, .int v20), (2, .int e15), (0, .ref a0), (1, .int s1)] d_X5_growClouds_59 rfl (by decide) rfl ?_
          refine zg_aload_n 2 rfl d_X5_growClouds_60 ?_
          refine zg_getR d_X5_growClouds_61 zc_5 (by decide) fl_X5_18 (fun v21 => ?_)
          refine zg_iload_n 3 rfl d_X5_growClouds_64 ?_
          refine zg_bipush 20 rfl d_X5_growClouds_65 ?_
          refine zg_aload_n 2 rfl d_X5_growClouds_67 ?_
          refine zg_getR d_X5_growClouds_68 zc_5 (by decide) fl_X5_18 (fun v22 => ?_)
          refine zg_iload_n 3 rfl d_X5_growClouds_71 ?_
          refine zg_ald0 d_X5_growClouds_72 (fun v23 => ?_)
          refine zg_iload_n 0 rfl d_X5_growClouds_73 ?_
          refine zg_iadd d_X5_growClouds_74 ?_
          refine zg_mmin d_X5_growClouds_75 ml_X5_198 (by decide) (Nat.le_of_ble_eq_true rfl) ⟨Nat.le_of_ble_eq_true rfl, Nat.le_of_ble_eq_true rfl⟩ ?_
          refine zg_ast0 d_X5_growClouds_78 (fun h24 => ?_)
          refine zg_iinc 3 (s1 + 1) [(1, .int (s1 + 1)), (3, .int v20), (2, .int e15), (0, .ref a0)] d_X5_growClouds_79 rfl rfl (by decide) rfl ?_
          refine zg_goto d_X5_growClouds_82 ?_
          exact zg_finK (E := 0) [3, 0] rfl rfl (fun q => q)
  · exact zg_vretK d_X5_growClouds_85 rfl ⟨Nat.le_of_ble_eq_true rfl, Nat.le_of_ble_eq_true rfl⟩ (fun q => q)
abbrev M_X5_joinTwo : zMt := (RX5, cX5_joinTwo, 5, 1, 60, none, "joinTwo", 0, 0)
theorem d_X5_joinTwo_0 : zDc M_X5_joinTwo 0 (.aload_n 0) 1 1 := ⟨by decide +kernel, rfl⟩
theorem d_X5_joinTwo_1 : zDc M_X5_joinTwo 1 (.getfield 18) 3 4 := ⟨by decide +kernel, rfl⟩
theorem d_X5_joinTwo_4 : zDc M_X5_joinTwo 4 (.iload_n 2) 1 5 := ⟨by decide +kernel, rfl⟩
theorem d_X5_joinTwo_5 : zDc M_X5_joinTwo 5 (.iaload) 1 6 := ⟨by decide +kernel, rfl⟩
theorem d_X5_joinTwo_6 : zDc M_X5_joinTwo 6 (.aload_n 0) 1 7 := ⟨by decide +kernel, rfl⟩
theorem d_X5_joinTwo_7 : zDc M_X5_joinTwo 7 (.getfield 18) 3 10 := ⟨by decide +kernel, rfl⟩
theorem d_X5_joinTwo_10 : zDc M_X5_joinTwo 10 (.iload_n 1) 1 11 := ⟨by decide +kernel, rfl⟩
theorem d_X5_joinTwo_11 : zDc M_X5_joinTwo 11 (.iaload) 1 12 := ⟨by decide +kernel, rfl⟩
theorem d_X5_joinTwo_12 : zDj M_X5_joinTwo 12 (.if_icmp .le 7) 7 15 19 := ⟨by decide +kernel, rfl, by decide⟩
theorem d_X5_joinTwo_15 : zDc M_X5_joinTwo 15 (.iload_n 2) 1 16 := ⟨by decide +kernel, rfl⟩
theorem d_X5_joinTwo_16 : zDj M_X5_joinTwo 16 (.goto 4) 4 19 20 := ⟨by decide +kernel, rfl, by decide⟩
theorem d_X5_joinTwo_19 : zDc M_X5_joinTwo 19 (.iload_n 1) 1 20 := ⟨by decide +kernel, rfl⟩
theorem d_X5_joinTwo_20 : zDc M_X5_joinTwo 20 (.istore_n 3) 1 21 := ⟨by decide +kernel, rfl⟩
theorem d_X5_joinTwo_21 : zDc M_X5_joinTwo 21 (.iload_n 3) 1 22 := ⟨by decide +kernel, rfl⟩
theorem d_X5_joinTwo_22 : zDc M_X5_joinTwo 22 (.iload_n 1) 1 23 := ⟨by decide +kernel, rfl⟩
theorem d_X5_joinTwo_23 : zDj M_X5_joinTwo 23 (.if_icmp .ne 7) 7 26 30 := ⟨by decide +kernel, rfl, by decide⟩
theorem d_X5_joinTwo_26 : zDc M_X5_joinTwo 26 (.iload_n 2) 1 27 := ⟨by decide +kernel, rfl⟩
theorem d_X5_joinTwo_27 : zDj M_X5_joinTwo 27 (.goto 4) 4 30 31 := ⟨by decide +kernel, rfl, by decide⟩
theorem d_X5_joinTwo_30 : zDc M_X5_joinTwo 30 (.iload_n 1) 1 31 := ⟨by decide +kernel, rfl⟩
theorem d_X5_joinTwo_31 : zDc M_X5_joinTwo 31 (.istore 4) 2 33 := ⟨by decide +kernel, rfl⟩
theorem d_X5_joinTwo_33 : zDc M_X5_joinTwo 33 (.aload_n 0) 1 34 := ⟨by decide +kernel, rfl⟩
theorem d_X5_joinTwo_34 : zDc M_X5_joinTwo 34 (.getfield 18) 3 37 := ⟨by decide +kernel, rfl⟩
theorem d_X5_joinTwo_37 : zDc M_X5_joinTwo 37 (.iload_n 3) 1 38 := ⟨by decide +kernel, rfl⟩
theorem d_X5_joinTwo_38 : zDc M_X5_joinTwo 38 (.bipush 20) 2 40 := ⟨by decide +kernel, rfl⟩
theorem d_X5_joinTwo_40 : zDc M_X5_joinTwo 40 (.aload_n 0) 1 41 := ⟨by decide +kernel, rfl⟩
theorem d_X5_joinTwo_41 : zDc M_X5_joinTwo 41 (.getfield 18) 3 44 := ⟨by decide +kernel, rfl⟩
theorem d_X5_joinTwo_44 : zDc M_X5_joinTwo 44 (.iload_n 1) 1 45 := ⟨by decide +kernel, rfl⟩
theorem d_X5_joinTwo_45 : zDc M_X5_joinTwo 45 (.iaload) 1 46 := ⟨by decide +kernel, rfl⟩
theorem d_X5_joinTwo_46 : zDc M_X5_joinTwo 46 (.aload_n 0) 1 47 := ⟨by decide +kernel, rfl⟩
theorem d_X5_joinTwo_47 : zDc M_X5_joinTwo 47 (.getfield 18) 3 50 := ⟨by decide +kernel, rfl⟩
theorem d_X5_joinTwo_50 : zDc M_X5_joinTwo 50 (.iload_n 2) 1 51 := ⟨by decide +kernel, rfl⟩
theorem d_X5_joinTwo_51 : zDc M_X5_joinTwo 51 (.iaload) 1 52 := ⟨by decide +kernel, rfl⟩
theorem d_X5_joinTwo_52 : zDc M_X5_joinTwo 52 (.iadd) 1 53 := ⟨by decide +kernel, rfl⟩
theorem d_X5_joinTwo_53 : zDc M_X5_joinTwo 53 (.invokestatic 198) 3 56 := ⟨by decide +kernel, rfl⟩
theorem d_X5_joinTwo_56 : zDc M_X5_joinTwo 56 (.iastore) 1 57 := ⟨by decide +kernel, rfl⟩
theorem d_X5_joinTwo_57 : zDc M_X5_joinTwo 57 (.aload_n 0) 1 58 := ⟨by decide +kernel, rfl⟩
theorem d_X5_joinTwo_58 : zDc M_X5_joinTwo 58 (.getfield 27) 3 61 := ⟨by decide +kernel, rfl⟩
theorem d_X5_joinTwo_61 : zDc M_X5_joinTwo 61 (.iload 4) 2 63 := ⟨by decide +kernel, rfl⟩
theorem d_X5_joinTwo_63 : zDc M_X5_joinTwo 63 (.iconst 3) 1 64 := ⟨by decide +kernel, rfl⟩
theorem d_X5_joinTwo_64 : zDc M_X5_joinTwo 64 (.iastore) 1 65 := ⟨by decide +kernel, rfl⟩
theorem d_X5_joinTwo_65 : zDc M_X5_joinTwo 65 (.return_) 1 66 := ⟨by decide +kernel, rfl⟩
def f_X5_joinTwo (a0 : Nat) (a1 : Int32) (a2 : Int32) (h0 : zHp) : Option (Unit × zHp) :=
  zob (zgR h0 a0 5 2) (fun v1 =>
  zob (zaI 0 h0 v1 a2) (fun v2 =>
  zob (zgR h0 a0 5 2) (fun v3 =>
  zob (zaI 0 h0 v3 a1) (fun v4 =>
  zbd (α := Int32) (
  if v2 ≤ v4 then
  some (a1, h0)
  else
  some (a2, h0)) (fun e5 h6 =>
  zbd (α := Int32) (
  if e5 = a1 then
  some (a2, h6)
  else
  some (a1, h6)) (fun e7 h8 =>
  zob (zgR h8 a0 5 2) (fun v9 =>
  zob (zgR h8 a0 5 2) (fun v10 =>
  zob (zaI 0 h8 v10 a1) (fun v11 =>
  zob (zgR h8 a0 5 2) (fun v12 =>
  zob (zaI 0 h8 v12 a2) (fun v13 =>
  zob (zsI 0 h8 v9 e5 (zmn 20 (v11 + v13))) (fun h14 =>
  zob (zgR h14 a0 5 5) (fun v15 =>
  zob (zsI 0 h14 v15 e7 3) (fun h16 =>
  some ((), h16)))))))))))))))
set_option maxRecDepth 100000 in
set_option maxHeartbeats 4000000 in
theorem t_X5_joinTwo (a0 : Nat) (a1 : Int32) (a2 : Int32) (h0 : zHp) : ∀ (r : Unit) (h' : zHp), f_X5_joinTwo a0 a1 a2 h0 = some (r, h') → zCt yX5_joinTwo (.code yX5_joinTwo cX5_joinTwo 5 none) 1 60 0 0 [.ref a0, .int a1, .int a2] h0 (none) h' := by
  refine zct_of M_X5_joinTwo yX5_joinTwo (by decide) rfl rfl [.ref a0, .int a1, .int a2] h0 (Nat.le_of_ble_eq_true rfl) (fun _ => none) (fun X => ?_)
  show zG X M_X5_joinTwo (0, 0) 0 [(0, .ref a0), (1, .int a1), (2, .int a2)] [] h0 (f_X5_joinTwo a0 a1 a2 h0) (fun (_ : Unit) h' => zKe X (none) h')
  unfold f_X5_joinTwo
  refine zg_aload_n 0 rfl d_X5_joinTwo_0 ?_
  refine zg_getR d_X5_joinTwo_1 zc_5 (by decide) fl_X5_18 (fun v1 => ?_)
  refine zg_iload_n 2 rfl d_X5_joinTwo_4 ?_
  refine zg_ald0 d_X5_joinTwo_5 (fun v2 => ?_)
  refine zg_aload_n 0 rfl d_X5_joinTwo_6 ?_
  refine zg_getR d_X5_joinTwo_7 zc_5 (by decide) fl_X5_18 (fun v3 => ?_)
  refine zg_iload_n 1 rfl d_X5_joinTwo_10 ?_
  refine zg_ald0 d_X5_joinTwo_11 (fun v4 => ?_)
  refine zg_bd (E := 20) (el := (fun (e5 : Int32) => [(0, .ref a0), (1, .int a1), (2, .int a2)])) (es := (fun (e5 : Int32) => [.int e5])) ?_ (fun e5 h6 => ?_)
  · refine zg_icmp_le d_X5_joinTwo_12 ?_ ?_
    · refine zg_iload_n 1 rfl d_X5_joinTwo_19 ?_
      exact zg_finK (E := 0) [0, 1, 2] rfl rfl (fun q => q)
    · refine zg_iload_n 2 rfl d_X5_joinTwo_15 ?_
      refine zg_goto d_X5_joinTwo_16 ?_
      exact zg_finK (E := 0) [0, 1, 2] rfl rfl (fun q => q)
  · refine zg_istore_n [(3, .int e5), (0, .ref a0), (1, .int a1), (2, .int a2)] d_X5_joinTwo_20 rfl (by decide) rfl ?_
    refine zg_iload_n 0 rfl d_X5_joinTwo_21 ?_
    refine zg_iload_n 2 rfl d_X5_joinTwo_22 ?_
    refine zg_bd (E := 31) (el := (fun (e7 : Int32) => [(0, .ref a0), (1, .int a1), (2, .int a2), (3, .int e5)])) (es := (fun (e7 : Int32) => [.int e7])) ?_ (fun e7 h8 => ?_)
    · refine zg_icmp_ne d_X5_joinTwo_23 ?_ ?_
      · refine zg_iload_n 3 rfl d_X5_joinTwo_26 ?_
        refine zg_goto d_X5_joinTwo_27 ?_
        exact zg_finK (E := 0) [1, 2, 3, 0] rfl rfl (fun q => q)
      · refine zg_iload_n 2 rfl d_X5_joinTwo_30 ?_
        exact zg_finK (E := 0) [1, 2, 3, 0] rfl rfl (fun q => q)
    · refine zg_istore [(4, .int e7), (0, .ref a0), (1, .int a1), (2, .int a2), (3, .int e5)] d_X5_joinTwo_31 (by decide) rfl ?_
      refine zg_aload_n 1 rfl d_X5_joinTwo_33 ?_
      refine zg_getR d_X5_joinTwo_34 zc_5 (by decide) fl_X5_18 (fun v9 => ?_)
      refine zg_iload_n 4 rfl d_X5_joinTwo_37 ?_
      refine zg_bipush 20 rfl d_X5_joinTwo_38 ?_
      refine zg_aload_n 1 rfl d_X5_joinTwo_40 ?_
      refine zg_getR d_X5_joinTwo_41 zc_5 (by decide) fl_X5_18 (fun v10 => ?_)
      refine zg_iload_n 2 rfl d_X5_joinTwo_44 ?_
      refine zg_ald0 d_X5_joinTwo_45 (fun v11 => ?_)
      refine zg_aload_n 1 rfl d_X5_joinTwo_46 ?_
      refine zg_getR d_X5_joinTwo_47 zc_5 (by decide) fl_X5_18 (fun v12 => ?_)
      refine zg_iload_n 3 rfl d_X5_joinTwo_50 ?_
      refine zg_ald0 d_X5_joinTwo_51 (fun v13 => ?_)
      refine zg_iadd d_X5_joinTwo_52 ?_
      refine zg_mmin d_X5_joinTwo_53 ml_X5_198 (by decide) (Nat.le_of_ble_eq_true rfl) ⟨Nat.le_of_ble_eq_true rfl, Nat.le_of_ble_eq_true rfl⟩ ?_
      refine zg_ast0 d_X5_joinTwo_56 (fun h14 => ?_)
      refine zg_aload_n 1 rfl d_X5_joinTwo_57 ?_
      refine zg_getR d_X5_joinTwo_58 zc_5 (by decide) fl_X5_27 (fun v15 => ?_)
      refine zg_iload 0 rfl d_X5_joinTwo_61 ?_
      refine zg_iconst 3 rfl d_X5_joinTwo_63 ?_
      refine zg_ast0 d_X5_joinTwo_64 (fun h16 => ?_)
      exact zg_vretK d_X5_joinTwo_65 rfl ⟨Nat.le_of_ble_eq_true rfl, Nat.le_of_ble_eq_true rfl⟩ (fun q => q)
abbrev M_X5_joinClouds : zMt := (RX5, cX5_joinClouds, 3, 2, 84, none, "joinClouds", 0, 0)
theorem d_X5_joinClouds_0 : zDc M_X5_joinClouds 0 (.iconst 0) 1 1 := ⟨by decide +kernel, rfl⟩
theorem d_X5_joinClouds_1 : zDc M_X5_joinClouds 1 (.istore_n 1) 1 2 := ⟨by decide +kernel, rfl⟩
theorem d_X5_joinClouds_2 : zDc M_X5_joinClouds 2 (.iload_n 1) 1 3 := ⟨by decide +kernel, rfl⟩
theorem d_X5_joinClouds_3 : zDc M_X5_joinClouds 3 (.aload_n 0) 1 4 := ⟨by decide +kernel, rfl⟩
theorem d_X5_joinClouds_4 : zDc M_X5_joinClouds 4 (.getfield 50) 3 7 := ⟨by decide +kernel, rfl⟩
theorem d_X5_joinClouds_7 : zDc M_X5_joinClouds 7 (.getfield 90) 3 10 := ⟨by decide +kernel, rfl⟩
theorem d_X5_joinClouds_10 : zDj M_X5_joinClouds 10 (.if_icmp .ge 82) 82 13 92 := ⟨by decide +kernel, rfl, by decide⟩
theorem d_X5_joinClouds_13 : zDc M_X5_joinClouds 13 (.iload_n 1) 1 14 := ⟨by decide +kernel, rfl⟩
theorem d_X5_joinClouds_14 : zDc M_X5_joinClouds 14 (.iconst 1) 1 15 := ⟨by decide +kernel, rfl⟩
theorem d_X5_joinClouds_15 : zDc M_X5_joinClouds 15 (.iadd) 1 16 := ⟨by decide +kernel, rfl⟩
theorem d_X5_joinClouds_16 : zDc M_X5_joinClouds 16 (.istore_n 2) 1 17 := ⟨by decide +kernel, rfl⟩
theorem d_X5_joinClouds_17 : zDc M_X5_joinClouds 17 (.iload_n 2) 1 18 := ⟨by decide +kernel, rfl⟩
theorem d_X5_joinClouds_18 : zDc M_X5_joinClouds 18 (.aload_n 0) 1 19 := ⟨by decide +kernel, rfl⟩
theorem d_X5_joinClouds_19 : zDc M_X5_joinClouds 19 (.getfield 50) 3 22 := ⟨by decide +kernel, rfl⟩
theorem d_X5_joinClouds_22 : zDc M_X5_joinClouds 22 (.getfield 90) 3 25 := ⟨by decide +kernel, rfl⟩
theorem d_X5_joinClouds_25 : zDj M_X5_joinClouds 25 (.if_icmp .ge 61) 61 28 86 := ⟨by decide +kernel, rfl, by decide⟩
theorem d_X5_joinClouds_28 : zDc M_X5_joinClouds 28 (.aload_n 0) 1 29 := ⟨by decide +kernel, rfl⟩
theorem d_X5_joinClouds_29 : zDc M_X5_joinClouds 29 (.iload_n 1) 1 30 := ⟨by decide +kernel, rfl⟩
theorem d_X5_joinClouds_30 : zDc M_X5_joinClouds 30 (.invokevirtual 93) 3 33 := ⟨by decide +kernel, rfl⟩
theorem d_X5_joinClouds_33 : zDj M_X5_joinClouds 33 (.ifCond .eq 53) 53 36 86 := ⟨by decide +kernel, rfl, by decide⟩
theorem d_X5_joinClouds_36 : zDc M_X5_joinClouds 36 (.aload_n 0) 1 37 := ⟨by decide +kernel, rfl⟩
theorem d_X5_joinClouds_37 : zDc M_X5_joinClouds 37 (.iload_n 2) 1 38 := ⟨by decide +kernel, rfl⟩
theorem d_X5_joinClouds_38 : zDc M_X5_joinClouds 38 (.invokevirtual 93) 3 41 := ⟨by decide +kernel, rfl⟩
theorem d_X5_joinClouds_41 : zDj M_X5_joinClouds 41 (.ifCond .eq 39) 39 44 80 := ⟨by decide +kernel, rfl, by decide⟩
theorem d_X5_joinClouds_44 : zDc M_X5_joinClouds 44 (.aload_n 0) 1 45 := ⟨by decide +kernel, rfl⟩
theorem d_X5_joinClouds_45 : zDc M_X5_joinClouds 45 (.getfield 9) 3 48 := ⟨by decide +kernel, rfl⟩
theorem d_X5_joinClouds_48 : zDc M_X5_joinClouds 48 (.iload_n 1) 1 49 := ⟨by decide +kernel, rfl⟩
theorem d_X5_joinClouds_49 : zDc M_X5_joinClouds 49 (.iaload) 1 50 := ⟨by decide +kernel, rfl⟩
theorem d_X5_joinClouds_50 : zDc M_X5_joinClouds 50 (.aload_n 0) 1 51 := ⟨by decide +kernel, rfl⟩
theorem d_X5_joinClouds_51 : zDc M_X5_joinClouds 51 (.getfield 9) 3 54 := ⟨by decide +kernel, rfl⟩
theorem d_X5_joinClouds_54 : zDc M_X5_joinClouds 54 (.iload_n 2) 1 55 := ⟨by decide +kernel, rfl⟩
theorem d_X5_joinClouds_55 : zDc M_X5_joinClouds 55 (.iaload) 1 56 := ⟨by decide +kernel, rfl⟩
theorem d_X5_joinClouds_56 : zDj M_X5_joinClouds 56 (.if_icmp .ne 24) 24 59 80 := ⟨by decide +kernel, rfl, by decide⟩
theorem d_X5_joinClouds_59 : zDc M_X5_joinClouds 59 (.aload_n 0) 1 60 := ⟨by decide +kernel, rfl⟩
theorem d_X5_joinClouds_60 : zDc M_X5_joinClouds 60 (.getfield 15) 3 63 := ⟨by decide +kernel, rfl⟩
theorem d_X5_joinClouds_63 : zDc M_X5_joinClouds 63 (.iload_n 1) 1 64 := ⟨by decide +kernel, rfl⟩
theorem d_X5_joinClouds_64 : zDc M_X5_joinClouds 64 (.iaload) 1 65 := ⟨by decide +kernel, rfl⟩
theorem d_X5_joinClouds_65 : zDc M_X5_joinClouds 65 (.aload_n 0) 1 66 := ⟨by decide +kernel, rfl⟩
theorem d_X5_joinClouds_66 : zDc M_X5_joinClouds 66 (.getfield 15) 3 69 := ⟨by decide +kernel, rfl⟩
theorem d_X5_joinClouds_69 : zDc M_X5_joinClouds 69 (.iload_n 2) 1 70 := ⟨by decide +kernel, rfl⟩
theorem d_X5_joinClouds_70 : zDc M_X5_joinClouds 70 (.iaload) 1 71 := ⟨by decide +kernel, rfl⟩
theorem d_X5_joinClouds_71 : zDj M_X5_joinClouds 71 (.if_icmp .ne 9) 9 74 80 := ⟨by decide +kernel, rfl, by decide⟩
theorem d_X5_joinClouds_74 : zDc M_X5_joinClouds 74 (.aload_n 0) 1 75 := ⟨by decide +kernel, rfl⟩
theorem d_X5_joinClouds_75 : zDc M_X5_joinClouds 75 (.iload_n 1) 1 76 := ⟨by decide +kernel, rfl⟩
theorem d_X5_joinClouds_76 : zDc M_X5_joinClouds 76 (.iload_n 2) 1 77 := ⟨by decide +kernel, rfl⟩
theorem d_X5_joinClouds_77 : zDc M_X5_joinClouds 77 (.invokevirtual 200) 3 80 := ⟨by decide +kernel, rfl⟩
theorem d_X5_joinClouds_80 : zDc M_X5_joinClouds 80 (.iinc 2 1) 3 83 := ⟨by decide +kernel, rfl⟩
theorem d_X5_joinClouds_83 : zDj M_X5_joinClouds 83 (.goto (-66)) (-66) 86 17 := ⟨by decide +kernel, rfl, by decide⟩
theorem d_X5_joinClouds_86 : zDc M_X5_joinClouds 86 (.iinc 1 1) 3 89 := ⟨by decide +kernel, rfl⟩
theorem d_X5_joinClouds_89 : zDj M_X5_joinClouds 89 (.goto (-87)) (-87) 92 2 := ⟨by decide +kernel, rfl, by decide⟩
theorem d_X5_joinClouds_92 : zDc M_X5_joinClouds 92 (.return_) 1 93 := ⟨by decide +kernel, rfl⟩
def f_X5_joinClouds (a0 : Nat) (h0 : zHp) : Option (Unit × zHp) :=
  zbd (
  zlp (σ := Int32) (β := Int32) zLF (fun s1 h2 =>
  zob (zgR h2 a0 5 14) (fun v5 =>
  zob (zgI h2 v5 6 14) (fun v6 =>
  if v6 ≤ s1 then
  some ((.inr s1), h2)
  else
  zbd (
  zlp (σ := Int32) (β := Int32) zLF (fun s7 h8 =>
  zob (zgR h8 a0 5 14) (fun v11 =>
  zob (zgI h8 v11 6 14) (fun v12 =>
  if v12 ≤ s7 then
  some ((.inr s7), h8)
  else
  zbd (zcv 5 a0 h8 (f_X5_isUp a0 s1 h8)) (fun v14 h13 =>
  if v14 = 0 then
  some ((.inr s7), h13)
  else
  zbd (zcv 5 a0 h13 (f_X5_isUp a0 s7 h13)) (fun v16 h15 =>
  if v16 = 0 then
  some ((.inl (s7 + 1)), h15)
  else
  zob (zgR h15 a0 5 0) (fun v17 =>
  zob (zaI 0 h15 v17 s1) (fun v18 =>
  zob (zgR h15 a0 5 0) (fun v19 =>
  zob (zaI 0 h15 v19 s7) (fun v20 =>
  if v18 = v20 then
  zob (zgR h15 a0 5 1) (fun v21 =>
  zob (zaI 0 h15 v21 s1) (fun v22 =>
  zob (zgR h15 a0 5 1) (fun v23 =>
  zob (zaI 0 h15 v23 s7) (fun v24 =>
  if v22 = v24 then
  zbd (zcv 5 a0 h15 (f_X5_joinTwo a0 s1 s7 h15)) (fun v26 h25 =>
  some ((.inl (s7 + 1)), h25))
  else
  some ((.inl (s7 + 1)), h15)))))
  else
  some ((.inl (s7 + 1)), h15)))))))))) (s1 + 1) h2) (fun e9 h10 =>
  some ((.inl (s1 + 1)), h10))))) 0 h0) (fun e3 h4 =>
  some ((), h4))
set_option maxRecDepth 100000 in
set_option maxHeartbeats 4000000 in
theorem t_X5_joinClouds (a0 : Nat) (h0 : zHp) : ∀ (r : Unit) (h' : zHp), f_X5_joinClouds a0 h0 = some (r, h') → zCt yX5_joinClouds (.code yX5_joinClouds cX5_joinClouds 3 none) 2 84 0 0 [.ref a0] h0 (none) h' := by
  refine zct_of M_X5_joinClouds yX5_joinClouds (by decide) rfl rfl [.ref a0] h0 (Nat.le_of_ble_eq_true rfl) (fun _ => none) (fun X => ?_)
  show zG X M_X5_joinClouds (0, 0) 0 [(0, .ref a0)] [] h0 (f_X5_joinClouds a0 h0) (fun (_ : Unit) h' => zKe X (none) h')
  unfold f_X5_joinClouds
  refine zg_iconst 0 rfl d_X5_joinClouds_0 ?_
  refine zg_istore_n [(1, .int 0), (0, .ref a0)] d_X5_joinClouds_1 rfl (by decide) rfl ?_
  refine zg_bd (E := 92) (el := (fun (e3 : Int32) => [(0, .ref a0), (1, .int e3)])) (es := fun _ => []) (zg_sub [1, 0] rfl (zg_lp (el := (fun (s1 : Int32) => [(0, .ref a0), (1, .int s1)])) (fun s1 h2 => ?_) 0 h0)) (fun e3 h4 => ?_)
  · refine zg_iload_n 1 rfl d_X5_joinClouds_2 ?_
    refine zg_aload_n 0 rfl d_X5_joinClouds_3 ?_
    refine zg_getR d_X5_joinClouds_4 zc_5 (by decide) fl_X5_50 (fun v5 => ?_)
    refine zg_getI d_X5_joinClouds_7 zc_6 (by decide) fl_X5_90 (fun v6 => ?_)
    refine zg_icmp_ge d_X5_joinClouds_10 ?_ ?_
    · exact zg_finK (E := 0) [0, 1] rfl rfl (fun q => q)
    · refine zg_iload_n 1 rfl d_X5_joinClouds_13 ?_
      refine zg_iconst 1 rfl d_X5_joinClouds_14 ?_
      refine zg_iadd d_X5_joinClouds_15 ?_
      refine zg_istore_n [(2, .int (s1 + 1)), (0, .ref a0), (1, .int s1)] d_X5_joinClouds_16 rfl (by decide) rfl ?_
      refine zg_bd (E := 86) (el := (fun (e9 : Int32) => [(0, .ref a0), (1, .int s1), (2, .int e9)])) (es := fun _ => []) (zg_sub [1, 2, 0] rfl (zg_lp (el := (fun (s7 : Int32) => [(0, .ref a0), (1, .int s1), (2, .int s7)])) (fun s7 h8 => ?_) (s1 + 1) h2)) (fun e9 h10 => ?_)
      · refine zg_iload_n 2 rfl d_X5_joinClouds_17 ?_
        refine zg_aload_n 0 rfl d_X5_joinClouds_18 ?_
        refine zg_getR d_X5_joinClouds_19 zc_5 (by decide) fl_X5_50 (fun v11 => ?_)
        refine zg_getI d_X5_joinClouds_22 zc_6 (by decide) fl_X5_90 (fun v12 => ?_)
        refine zg_icmp_ge d_X5_joinClouds_25 ?_ ?_
        · exact zg_finK (E := 0) [0, 1, 2] rfl rfl (fun q => q)
        · refine zg_aload_n 0 rfl d_X5_joinClouds_28 ?_
          refine zg_iload_n 1 rfl d_X5_joinClouds_29 ?_
          refine zg_cVi (b := a0) (As := [.int s1]) (rest := []) (0, 0) d_X5_joinClouds_30 zc_5 rfl cw_X5_93 wi_X5_isUp ws_X5_isUp rfl rfl (Nat.le_of_ble_eq_true rfl) (by decide) (by decide) ⟨by decide, by decide⟩ rfl (t_X5_isUp a0 s1 h8) (fun v14 h13 => ?_)
          refine zg_if_eq d_X5_joinClouds_33 ?_ ?_
          · exact zg_finK (E := 0) [0, 1, 2] rfl rfl (fun q => q)
          · refine zg_aload_n 0 rfl d_X5_joinClouds_36 ?_
            refine zg_iload_n 2 rfl d_X5_joinClouds_37 ?_
            refine zg_cVi (b := a0) (As := [.int s7]) (rest := []) (0, 0) d_X5_joinClouds_38 zc_5 rfl cw_X5_93 wi_X5_isUp ws_X5_isUp rfl rfl (Nat.le_of_ble_eq_true rfl) (by decide) (by decide) ⟨by decide, by decide⟩ rfl (t_X5_isUp a0 s7 h13) (fun v16 h15 => ?_)
            refine zg_if_eq d_X5_joinClouds_41 ?_ ?_
            · refine zg_iinc 2 (s7 + 1) [(2, .int (s7 + 1)), (0, .ref a0), (1, .int s1)] d_X5_joinClouds_80 rfl rfl (by decide) rfl ?_
              refine zg_goto d_X5_joinClouds_83 ?_
              exact zg_finK (E := 0) [1, 2, 0] rfl rfl (fun q => q)
            · refine zg_aload_n 0 rfl d_X5_joinClouds_44 ?_
              refine zg_getR d_X5_joinClouds_45 zc_5 (by decide) fl_X5_9 (fun v17 => ?_)
              refine zg_iload_n 1 rfl d_X5_joinClouds_48 ?_
              refine zg_ald0 d_X5_joinClouds_49 (fun v18 => ?_)
              refine zg_aload_n 0 rfl d_X5_joinClouds_50 ?_
              refine zg_getR d_X5_joinClouds_51 zc_5 (by decide) fl_X5_9 (fun v19 => ?_)
              refine zg_iload_n 2 rfl d_X5_joinClouds_54 ?_
              refine zg_ald0 d_X5_joinClouds_55 (fun v20 => ?_)
              refine zg_icmp_ne d_X5_joinClouds_56 ?_ ?_
              · refine zg_aload_n 0 rfl d_X5_joinClouds_59 ?_
                refine zg_getR d_X5_joinClouds_60 zc_5 (by decide) fl_X5_15 (fun v21 => ?_)
                refine zg_iload_n 1 rfl d_X5_joinClouds_63 ?_
                refine zg_ald0 d_X5_joinClouds_64 (fun v22 => ?_)
                refine zg_aload_n 0 rfl d_X5_joinClouds_65 ?_
                refine zg_getR d_X5_joinClouds_66 zc_5 (by decide) fl_X5_15 (fun v23 => ?_)
                refine zg_iload_n 2 rfl d_X5_joinClouds_69 ?_
                refine zg_ald0 d_X5_joinClouds_70 (fun v24 => ?_)
                refine zg_icmp_ne d_X5_joinClouds_71 ?_ ?_
                · refine zg_aload_n 0 rfl d_X5_joinClouds_74 ?_
                  refine zg_iload_n 1 rfl d_X5_joinClouds_75 ?_
                  refine zg_iload_n 2 rfl d_X5_joinClouds_76 ?_
                  refine zg_cVv (b := a0) (As := [.int s1, .int s7]) (rest := []) (0, 0) d_X5_joinClouds_77 zc_5 rfl cw_X5_200 wi_X5_joinTwo ws_X5_joinTwo rfl rfl (Nat.le_of_ble_eq_true rfl) (by decide) (by decide) ⟨by decide, by decide⟩ rfl (t_X5_joinTwo a0 s1 s7 h15) (fun v26 h25 => ?_)
                  refine zg_iinc 2 (s7 + 1) [(2, .int (s7 + 1)), (0, .ref a0), (1, .int s1)] d_X5_joinClouds_80 rfl rfl (by decide) rfl ?_
                  refine zg_goto d_X5_joinClouds_83 ?_
                  exact zg_finK (E := 0) [1, 2, 0] rfl rfl (fun q => q)
                · refine zg_iinc 2 (s7 + 1) [(2, .int (s7 + 1)), (0, .ref a0), (1, .int s1)] d_X5_joinClouds_80 rfl rfl (by decide) rfl ?_
                  refine zg_goto d_X5_joinClouds_83 ?_
                  exact zg_finK (E := 0) [1, 2, 0] rfl rfl (fun q => q)
              · refine zg_iinc 2 (s7 + 1) [(2, .int (s7 + 1)), (0, .ref a0), (1, .int s1)] d_X5_joinClouds_80 rfl rfl (by decide) rfl ?_
                refine zg_goto d_X5_joinClouds_83 ?_
                exact zg_finK (E := 0) [1, 2, 0] rfl rfl (fun q => q)
      · refine zg_iinc 1 (s1 + 1) [(1, .int (s1 + 1)), (0, .ref a0), (2, .int e9)] d_X5_joinClouds_86 rfl rfl (by decide) rfl ?_
        refine zg_goto d_X5_joinClouds_89 ?_
        exact zg_finK (E := 0) [1, 0] rfl rfl (fun q => q)
  · exact zg_vretK d_X5_joinClouds_92 rfl ⟨Nat.le_of_ble_eq_true rfl, Nat.le_of_ble_eq_true rfl⟩ (fun q => q)
abbrev M_X5_markChildren : zMt := (RX5, cX5_markChildren, 3, 4, 138, none, "markChildren", 0, 0)
theorem d_X5_markChildren_0 : zDc M_X5_markChildren 0 (.iconst 0) 1 1 := ⟨by decide +kernel, rfl⟩
theorem d_X5_markChildren_1 : zDc M_X5_markChildren 1 (.istore_n 1) 1 2 := ⟨by decide +kernel, rfl⟩
theorem d_X5_markChildren_2 : zDc M_X5_markChildren 2 (.iload_n 1) 1 3 := ⟨by decide +kernel, rfl⟩
theorem d_X5_markChildren_3 : zDc M_X5_markChildren 3 (.aload_n 0) 1 4 := ⟨by decide +kernel, rfl⟩
theorem d_X5_markChildren_4 : zDc M_X5_markChildren 4 (.getfield 50) 3 7 := ⟨by decide +kernel, rfl⟩
theorem d_X5_markChildren_7 : zDc M_X5_markChildren 7 (.getfield 117) 3 10 := ⟨by decide +kernel, rfl⟩
theorem d_X5_markChildren_10 : zDj M_X5_markChildren 10 (.if_icmp .ge 80) 80 13 90 := ⟨by decide +kernel, rfl, by decide⟩
theorem d_X5_markChildren_13 : zDc M_X5_markChildren 13 (.iconst 0) 1 14 := ⟨by decide +kernel, rfl⟩
theorem d_X5_markChildren_14 : zDc M_X5_markChildren 14 (.istore_n 2) 1 15 := ⟨by decide +kernel, rfl⟩
theorem d_X5_markChildren_15 : zDc M_X5_markChildren 15 (.iload_n 2) 1 16 := ⟨by decide +kernel, rfl⟩
theorem d_X5_markChildren_16 : zDc M_X5_markChildren 16 (.aload_n 0) 1 17 := ⟨by decide +kernel, rfl⟩
theorem d_X5_markChildren_17 : zDc M_X5_markChildren 17 (.getfield 50) 3 20 := ⟨by decide +kernel, rfl⟩
theorem d_X5_markChildren_20 : zDc M_X5_markChildren 20 (.getfield 90) 3 23 := ⟨by decide +kernel, rfl⟩
theorem d_X5_markChildren_23 : zDj M_X5_markChildren 23 (.if_icmp .ge 61) 61 26 84 := ⟨by decide +kernel, rfl, by decide⟩
theorem d_X5_markChildren_26 : zDc M_X5_markChildren 26 (.aload_n 0) 1 27 := ⟨by decide +kernel, rfl⟩
theorem d_X5_markChildren_27 : zDc M_X5_markChildren 27 (.iload_n 2) 1 28 := ⟨by decide +kernel, rfl⟩
theorem d_X5_markChildren_28 : zDc M_X5_markChildren 28 (.invokevirtual 93) 3 31 := ⟨by decide +kernel, rfl⟩
theorem d_X5_markChildren_31 : zDj M_X5_markChildren 31 (.ifCond .eq 47) 47 34 78 := ⟨by decide +kernel, rfl, by decide⟩
theorem d_X5_markChildren_34 : zDc M_X5_markChildren 34 (.aload_n 0) 1 35 := ⟨by decide +kernel, rfl⟩
theorem d_X5_markChildren_35 : zDc M_X5_markChildren 35 (.getfield 24) 3 38 := ⟨by decide +kernel, rfl⟩
theorem d_X5_markChildren_38 : zDc M_X5_markChildren 38 (.iload_n 2) 1 39 := ⟨by decide +kernel, rfl⟩
theorem d_X5_markChildren_39 : zDc M_X5_markChildren 39 (.iaload) 1 40 := ⟨by decide +kernel, rfl⟩
theorem d_X5_markChildren_40 : zDc M_X5_markChildren 40 (.iload_n 1) 1 41 := ⟨by decide +kernel, rfl⟩
theorem d_X5_markChildren_41 : zDj M_X5_markChildren 41 (.if_icmp .ne 37) 37 44 78 := ⟨by decide +kernel, rfl, by decide⟩
theorem d_X5_markChildren_44 : zDc M_X5_markChildren 44 (.aload_n 0) 1 45 := ⟨by decide +kernel, rfl⟩
theorem d_X5_markChildren_45 : zDc M_X5_markChildren 45 (.getfield 36) 3 48 := ⟨by decide +kernel, rfl⟩
theorem d_X5_markChildren_48 : zDc M_X5_markChildren 48 (.iload_n 1) 1 49 := ⟨by decide +kernel, rfl⟩
theorem d_X5_markChildren_49 : zDc M_X5_markChildren 49 (.dup2) 1 50 := ⟨by decide +kernel, rfl⟩
theorem d_X5_markChildren_50 : zDc M_X5_markChildren 50 (.iaload) 1 51 := ⟨by decide +kernel, rfl⟩
theorem d_X5_markChildren_51 : zDc M_X5_markChildren 51 (.aload_n 0) 1 52 := ⟨by decide +kernel, rfl⟩
theorem d_X5_markChildren_52 : zDc M_X5_markChildren 52 (.iconst 2) 1 53 := ⟨by decide +kernel, rfl⟩
theorem d_X5_markChildren_53 : zDc M_X5_markChildren 53 (.iload_n 2) 1 54 := ⟨by decide +kernel, rfl⟩
theorem d_X5_markChildren_54 : zDc M_X5_markChildren 54 (.invokevirtual 190) 3 57 := ⟨by decide +kernel, rfl⟩
theorem d_X5_markChildren_57 : zDc M_X5_markChildren 57 (.bipush 9) 2 59 := ⟨by decide +kernel, rfl⟩
theorem d_X5_markChildren_59 : zDc M_X5_markChildren 59 (.aload_n 0) 1 60 := ⟨by decide +kernel, rfl⟩
theorem d_X5_markChildren_60 : zDc M_X5_markChildren 60 (.iload_n 1) 1 61 := ⟨by decide +kernel, rfl⟩
theorem d_X5_markChildren_61 : zDc M_X5_markChildren 61 (.iload_n 2) 1 62 := ⟨by decide +kernel, rfl⟩
theorem d_X5_markChildren_62 : zDc M_X5_markChildren 62 (.invokevirtual 123) 3 65 := ⟨by decide +kernel, rfl⟩
theorem d_X5_markChildren_65 : zDj M_X5_markChildren 65 (.ifCond .eq 7) 7 68 72 := ⟨by decide +kernel, rfl, by decide⟩
theorem d_X5_markChildren_68 : zDc M_X5_markChildren 68 (.iconst 1) 1 69 := ⟨by decide +kernel, rfl⟩
theorem d_X5_markChildren_69 : zDj M_X5_markChildren 69 (.goto 4) 4 72 73 := ⟨by decide +kernel, rfl, by decide⟩
theorem d_X5_markChildren_72 : zDc M_X5_markChildren 72 (.iconst 0) 1 73 := ⟨by decide +kernel, rfl⟩
theorem d_X5_markChildren_73 : zDc M_X5_markChildren 73 (.invokestatic 194) 3 76 := ⟨by decide +kernel, rfl⟩
theorem d_X5_markChildren_76 : zDc M_X5_markChildren 76 (.iadd) 1 77 := ⟨by decide +kernel, rfl⟩
theorem d_X5_markChildren_77 : zDc M_X5_markChildren 77 (.iastore) 1 78 := ⟨by decide +kernel, rfl⟩
theorem d_X5_markChildren_78 : zDc M_X5_markChildren 78 (.iinc 2 1) 3 81 := ⟨by decide +kernel, rfl⟩
theorem d_X5_markChildren_81 : zDj M_X5_markChildren 81 (.goto (-66)) (-66) 84 15 := ⟨by decide +kernel, rfl, by decide⟩
theorem d_X5_markChildren_84 : zDc M_X5_markChildren 84 (.iinc 1 1) 3 87 := ⟨by decide +kernel, rfl⟩
theorem d_X5_markChildren_87 : zDj M_X5_markChildren 87 (.goto (-85)) (-85) 90 2 := ⟨by decide +kernel, rfl, by decide⟩
theorem d_X5_markChildren_90 : zDc M_X5_markChildren 90 (.return_) 1 91 := ⟨by decide +kernel, rfl⟩
def f_X5_markChildren (a0 : Nat) (h0 : zHp) : Option (Unit × zHp) :=
  zbd (
  zlp (σ := Int32) (β := Int32) zLF (fun s1 h2 =>
  zob (zgR h2 a0 5 14) (fun v5 =>
  zob (zgI h2 v5 6 15) (fun v6 =>
  if v6 ≤ s1 then
  some ((.inr s1), h2)
  else
  zbd (
  zlp (σ := Int32) (β := Int32) zLF (fun s7 h8 =>
  zob (zgR h8 a0 5 14) (fun v11 =>
  zob (zgI h8 v11 6 14) (fun v12 =>
  if v12 ≤ s7 then
  some ((.inr s7), h8)
  else
  zbd (zcv 5 a0 h8 (f_X5_isUp a0 s7 h8)) (fun v14 h13 =>
  if v14 = 0 then
  some ((.inl (s7 + 1)), h13)
  else
  zob (zgR h13 a0 5 4) (fun v15 =>
  zob (zaI 0 h13 v15 s7) (fun v16 =>
  if v16 = s1 then
  zob (zgR h13 a0 5 8) (fun v17 =>
  zob (zaI 0 h13 v17 s1) (fun v18 =>
  zbd (zcv 5 a0 h13 (f_X5_worthOf a0 2 s7 h13)) (fun v20 h19 =>
  zbd (zcv 5 a0 h19 (f_X5_canSee a0 s1 s7 h19)) (fun v22 h21 =>
  zbd (α := Int32) (
  if v22 = 0 then
  some (0, h21)
  else
  some (1, h21)) (fun e23 h24 =>
  zbd ((f_X5_bounded v20 9 e23 h24)) (fun v26 h25 =>
  zob (zsI 0 h25 v17 s1 (v18 + v26)) (fun h27 =>
  some ((.inl (s7 + 1)), h27))))))))
  else
  some ((.inl (s7 + 1)), h13))))))) 0 h2) (fun e9 h10 =>
  some ((.inl (s1 + 1)), h10))))) 0 h0) (fun e3 h4 =>
  some ((), h4))
set_option maxRecDepth 100000 in
set_option maxHeartbeats 4000000 in
theorem t_X5_markChildren (a0 : Nat) (h0 : zHp) : ∀ (r : Unit) (h' : zHp), f_X5_markChildren a0 h0 = some (r, h') → zCt yX5_markChildren (.code yX5_markChildren cX5_markChildren 3 none) 4 138 0 0 [.ref a0] h0 (none) h' := by
  refine zct_of M_X5_markChildren yX5_markChildren (by decide) rfl rfl [.ref a0] h0 (Nat.le_of_ble_eq_true rfl) (fun _ => none) (fun X => ?_)
  show zG X M_X5_markChildren (0, 0) 0 [(0, .ref a0)] [] h0 (f_X5_markChildren a0 h0) (fun (_ : Unit) h' => zKe X (none) h')
  unfold f_X5_markChildren
  refine zg_iconst 0 rfl d_X5_markChildren_0 ?_
  refine zg_istore_n [(1, .int 0), (0, .ref a0)] d_X5_markChildren_1 rfl (by decide) rfl ?_
  refine zg_bd (E := 90) (el := (fun (e3 : Int32) => [(0, .ref a0), (1, .int e3)])) (es := fun _ => []) (zg_sub [1, 0] rfl (zg_lp (el := (fun (s1 : Int32) => [(0, .ref a0), (1, .int s1)])) (fun s1 h2 => ?_) 0 h0)) (fun e3 h4 => ?_)
  · refine zg_iload_n 1 rfl d_X5_markChildren_2 ?_
    refine zg_aload_n 0 rfl d_X5_markChildren_3 ?_
    refine zg_getR d_X5_markChildren_4 zc_5 (by decide) fl_X5_50 (fun v5 => ?_)
    refine zg_getI d_X5_markChildren_7 zc_6 (by decide) fl_X5_117 (fun v6 => ?_)
    refine zg_icmp_ge d_X5_markChildren_10 ?_ ?_
    · exact zg_finK (E := 0) [0, 1] rfl rfl (fun q => q)
    · refine zg_iconst 0 rfl d_X5_markChildren_13 ?_
      refine zg_istore_n [(2, .int 0), (0, .ref a0), (1, .int s1)] d_X5_markChildren_14 rfl (by decide) rfl ?_
      refine zg_bd (E := 84) (el := (fun (e9 : Int32) => [(0, .ref a0), (1, .int s1), (2, .int e9)])) (es := fun _ => []) (zg_sub [1, 2, 0] rfl (zg_lp (el := (fun (s7 : Int32) => [(0, .ref a0), (1, .int s1), (2, .int s7)])) (fun s7 h8 => ?_) 0 h2)) (fun e9 h10 => ?_)
      · refine zg_iload_n 2 rfl d_X5_markChildren_15 ?_
        refine zg_aload_n 0 rfl d_X5_markChildren_16 ?_
        refine zg_getR d_X5_markChildren_17 zc_5 (by decide) fl_X5_50 (fun v11 => ?_)
        refine zg_getI d_X5_markChildren_20 zc_6 (by decide) fl_X5_90 (fun v12 => ?_)
        refine zg_icmp_ge d_X5_markChildren_23 ?_ ?_
        · exact zg_finK (E := 0) [0, 1, 2] rfl rfl (fun q => q)
        · refine zg_aload_n 0 rfl d_X5_markChildren_26 ?_
          refine zg_iload_n 2 rfl d_X5_markChildren_27 ?_
          refine zg_cVi (b := a0) (As := [.int s7]) (rest := []) (0, 0) d_X5_markChildren_28 zc_5 rfl cw_X5_93 wi_X5_isUp ws_X5_isUp rfl rfl (Nat.le_of_ble_eq_true rfl) (by decide) (by decide) ⟨by decide, by decide⟩ rfl (t_X5_isUp a0 s7 h8) (fun v14 h13 => ?_)
          refine zg_if_eq d_X5_markChildren_31 ?_ ?_
          · refine zg_iinc 2 (s7 + 1) [(2, .int (s7 + 1)), (0, .ref a0), (1, .int s1)] d_X5_markChildren_78 rfl rfl (by decide) rfl ?_
            refine zg_goto d_X5_markChildren_81 ?_
            exact zg_finK (E := 0) [1, 2, 0] rfl rfl (fun q => q)
          · refine zg_aload_n 0 rfl d_X5_markChildren_34 ?_
            refine zg_getR d_X5_markChildren_35 zc_5 (by decide) fl_X5_24 (fun v15 => ?_)
            refine zg_iload_n 2 rfl d_X5_markChildren_38 ?_
            refine zg_ald0 d_X5_markChildren_39 (fun v16 => ?_)
            refine zg_iload_n 1 rfl d_X5_markChildren_40 ?_
            refine zg_icmp_ne d_X5_markChildren_41 ?_ ?_
            · refine zg_aload_n 0 rfl d_X5_markChildren_44 ?_
              refine zg_getR d_X5_markChildren_45 zc_5 (by decide) fl_X5_36 (fun v17 => ?_)
              refine zg_iload_n 1 rfl d_X5_markChildren_48 ?_
              refine zg_dup2 rfl rfl d_X5_markChildren_49 ?_
              refine zg_ald0 d_X5_markChildren_50 (fun v18 => ?_)
              refine zg_aload_n 0 rfl d_X5_markChildren_51 ?_
              refine zg_iconst 2 rfl d_X5_markChildren_52 ?_
              refine zg_iload_n 2 rfl d_X5_markChildren_53 ?_
              refine zg_cVl (b := a0) (As := [.int 2, .int s7]) (rest := [.int v18, .int s1, .ref v17]) (0, 0) d_X5_markChildren_54 zc_5 rfl cw_X5_190 wi_X5_worthOf ws_X5_worthOf rfl rfl (Nat.le_of_ble_eq_true rfl) (by decide) (by decide) ⟨by decide, by decide⟩ rfl (t_X5_worthOf a0 2 s7 h13) (fun v20 h19 => ?_)
              refine zg_bipush 9 rfl d_X5_markChildren_57 ?_
              refine zg_aload_n 0 rfl d_X5_markChildren_59 ?_
              refine zg_iload_n 1 rfl d_X5_markChildren_60 ?_
              refine zg_iload_n 2 rfl d_X5_markChildren_61 ?_
              refine zg_cVi (b := a0) (As := [.int s1, .int s7]) (rest := [.int 9, .long v20, .int v18, .int s1, .ref v17]) (0, 0) d_X5_markChildren_62 zc_5 rfl cw_X5_123 wi_X5_canSee ws_X5_canSee rfl rfl (Nat.le_of_ble_eq_true rfl) (by decide) (by decide) ⟨by decide, by decide⟩ rfl (t_X5_canSee a0 s1 s7 h19) (fun v22 h21 => ?_)
              refine zg_bd (E := 73) (el := (fun (e23 : Int32) => [(0, .ref a0), (1, .int s1), (2, .int s7)])) (es := (fun (e23 : Int32) => [.int e23, .int 9, .long v20, .int v18, .int s1, .ref v17])) ?_ (fun e23 h24 => ?_)
              · refine zg_if_eq d_X5_markChildren_65 ?_ ?_
                · refine zg_iconst 0 rfl d_X5_markChildren_72 ?_
                  exact zg_finK (E := 0) [0, 1, 2] rfl rfl (fun q => q)
                · refine zg_iconst 1 rfl d_X5_markChildren_68 ?_
                  refine zg_goto d_X5_markChildren_69 ?_
                  exact zg_finK (E := 0) [0, 1, 2] rfl rfl (fun q => q)
              · refine zg_cSi (As := [.long v20, .int 9, .int e23]) (rest := [.int v18, .int s1, .ref v17]) (0, 0) d_X5_markChildren_73 cw_X5_194 wt_X5_bounded rfl rfl (Nat.le_of_ble_eq_true rfl) (by decide) (by decide) ⟨by decide, by decide⟩ rfl (t_X5_bounded v20 9 e23 h24) (fun v26 h25 => ?_)
                refine zg_iadd d_X5_markChildren_76 ?_
                refine zg_ast0 d_X5_markChildren_77 (fun h27 => ?_)
                refine zg_iinc 2 (s7 + 1) [(2, .int (s7 + 1)), (0, .ref a0), (1, .int s1)] d_X5_markChildren_78 rfl rfl (by decide) rfl ?_
                refine zg_goto d_X5_markChildren_81 ?_
                exact zg_finK (E := 0) [1, 2, 0] rfl rfl (fun q => q)
            · refine zg_iinc 2 (s7 + 1) [(2, .int (s7 + 1)), (0, .ref a0), (1, .int s1)] d_X5_markChildren_78 rfl rfl (by decide) rfl ?_
              refine zg_goto d_X5_markChildren_81 ?_
              exact zg_finK (E := 0) [1, 2, 0] rfl rfl (fun q => q)
      · refine zg_iinc 1 (s1 + 1) [(1, .int (s1 + 1)), (0, .ref a0), (2, .int e9)] d_X5_markChildren_84 rfl rfl (by decide) rfl ?_
        refine zg_goto d_X5_markChildren_87 ?_
        exact zg_finK (E := 0) [1, 0] rfl rfl (fun q => q)
  · exact zg_vretK d_X5_markChildren_90 rfl ⟨Nat.le_of_ble_eq_true rfl, Nat.le_of_ble_eq_true rfl⟩ (fun q => q)
abbrev M_X5_wetFields : zMt := (RX5, cX5_wetFields, 4, 1, 60, none, "wetFields", 0, 0)
theorem d_X5_wetFields_0 : zDc M_X5_wetFields 0 (.iconst 0) 1 1 := ⟨by decide +kernel, rfl⟩
theorem d_X5_wetFields_1 : zDc M_X5_wetFields 1 (.istore_n 3) 1 2 := ⟨by decide +kernel, rfl⟩
theorem d_X5_wetFields_2 : zDc M_X5_wetFields 2 (.iload_n 3) 1 3 := ⟨by decide +kernel, rfl⟩
theorem d_X5_wetFields_3 : zDc M_X5_wetFields 3 (.aload_n 0) 1 4 := ⟨by decide +kernel, rfl⟩
theorem d_X5_wetFields_4 : zDc M_X5_wetFields 4 (.getfield 50) 3 7 := ⟨by decide +kernel, rfl⟩
theorem d_X5_wetFields_7 : zDc M_X5_wetFields 7 (.getfield 114) 3 10 := ⟨by decide +kernel, rfl⟩
theorem d_X5_wetFields_10 : zDj M_X5_wetFields 10 (.if_icmp .ge 74) 74 13 84 := ⟨by decide +kernel, rfl, by decide⟩
theorem d_X5_wetFields_13 : zDc M_X5_wetFields 13 (.aload_n 0) 1 14 := ⟨by decide +kernel, rfl⟩
theorem d_X5_wetFields_14 : zDc M_X5_wetFields 14 (.getfield 50) 3 17 := ⟨by decide +kernel, rfl⟩
theorem d_X5_wetFields_17 : zDc M_X5_wetFields 17 (.getfield 211) 3 20 := ⟨by decide +kernel, rfl⟩
theorem d_X5_wetFields_20 : zDc M_X5_wetFields 20 (.iload_n 3) 1 21 := ⟨by decide +kernel, rfl⟩
theorem d_X5_wetFields_21 : zDc M_X5_wetFields 21 (.iaload) 1 22 := ⟨by decide +kernel, rfl⟩
theorem d_X5_wetFields_22 : zDc M_X5_wetFields 22 (.bipush 6) 2 24 := ⟨by decide +kernel, rfl⟩
theorem d_X5_wetFields_24 : zDc M_X5_wetFields 24 (.aload_n 0) 1 25 := ⟨by decide +kernel, rfl⟩
theorem d_X5_wetFields_25 : zDc M_X5_wetFields 25 (.getfield 15) 3 28 := ⟨by decide +kernel, rfl⟩
theorem d_X5_wetFields_28 : zDc M_X5_wetFields 28 (.iload_n 1) 1 29 := ⟨by decide +kernel, rfl⟩
theorem d_X5_wetFields_29 : zDc M_X5_wetFields 29 (.iaload) 1 30 := ⟨by decide +kernel, rfl⟩
theorem d_X5_wetFields_30 : zDc M_X5_wetFields 30 (.imul) 1 31 := ⟨by decide +kernel, rfl⟩
theorem d_X5_wetFields_31 : zDc M_X5_wetFields 31 (.aload_n 0) 1 32 := ⟨by decide +kernel, rfl⟩
theorem d_X5_wetFields_32 : zDc M_X5_wetFields 32 (.getfield 9) 3 35 := ⟨by decide +kernel, rfl⟩
theorem d_X5_wetFields_35 : zDc M_X5_wetFields 35 (.iload_n 1) 1 36 := ⟨by decide +kernel, rfl⟩
theorem d_X5_wetFields_36 : zDc M_X5_wetFields 36 (.iaload) 1 37 := ⟨by decide +kernel, rfl⟩
theorem d_X5_wetFields_37 : zDc M_X5_wetFields 37 (.iadd) 1 38 := ⟨by decide +kernel, rfl⟩
theorem d_X5_wetFields_38 : zDj M_X5_wetFields 38 (.if_icmp .ne 40) 40 41 78 := ⟨by decide +kernel, rfl, by decide⟩
theorem d_X5_wetFields_41 : zDc M_X5_wetFields 41 (.aload_n 0) 1 42 := ⟨by decide +kernel, rfl⟩
theorem d_X5_wetFields_42 : zDc M_X5_wetFields 42 (.getfield 39) 3 45 := ⟨by decide +kernel, rfl⟩
theorem d_X5_wetFields_45 : zDc M_X5_wetFields 45 (.iload_n 3) 1 46 := ⟨by decide +kernel, rfl⟩
theorem d_X5_wetFields_46 : zDc M_X5_wetFields 46 (.dup2) 1 47 := ⟨by decide +kernel, rfl⟩
theorem d_X5_wetFields_47 : zDc M_X5_wetFields 47 (.iaload) 1 48 := ⟨by decide +kernel, rfl⟩
theorem d_X5_wetFields_48 : zDc M_X5_wetFields 48 (.iload_n 2) 1 49 := ⟨by decide +kernel, rfl⟩
theorem d_X5_wetFields_49 : zDc M_X5_wetFields 49 (.iadd) 1 50 := ⟨by decide +kernel, rfl⟩
theorem d_X5_wetFields_50 : zDc M_X5_wetFields 50 (.iastore) 1 51 := ⟨by decide +kernel, rfl⟩
theorem d_X5_wetFields_51 : zDc M_X5_wetFields 51 (.aload_n 0) 1 52 := ⟨by decide +kernel, rfl⟩
theorem d_X5_wetFields_52 : zDc M_X5_wetFields 52 (.getfield 24) 3 55 := ⟨by decide +kernel, rfl⟩
theorem d_X5_wetFields_55 : zDc M_X5_wetFields 55 (.iload_n 1) 1 56 := ⟨by decide +kernel, rfl⟩
theorem d_X5_wetFields_56 : zDc M_X5_wetFields 56 (.iaload) 1 57 := ⟨by decide +kernel, rfl⟩
theorem d_X5_wetFields_57 : zDc M_X5_wetFields 57 (.iconst (-1)) 1 58 := ⟨by decide +kernel, rfl⟩
theorem d_X5_wetFields_58 : zDj M_X5_wetFields 58 (.if_icmp .eq 20) 20 61 78 := ⟨by decide +kernel, rfl, by decide⟩
theorem d_X5_wetFields_61 : zDc M_X5_wetFields 61 (.aload_n 0) 1 62 := ⟨by decide +kernel, rfl⟩
theorem d_X5_wetFields_62 : zDc M_X5_wetFields 62 (.getfield 44) 3 65 := ⟨by decide +kernel, rfl⟩
theorem d_X5_wetFields_65 : zDc M_X5_wetFields 65 (.aload_n 0) 1 66 := ⟨by decide +kernel, rfl⟩
theorem d_X5_wetFields_66 : zDc M_X5_wetFields 66 (.getfield 24) 3 69 := ⟨by decide +kernel, rfl⟩
theorem d_X5_wetFields_69 : zDc M_X5_wetFields 69 (.iload_n 1) 1 70 := ⟨by decide +kernel, rfl⟩
theorem d_X5_wetFields_70 : zDc M_X5_wetFields 70 (.iaload) 1 71 := ⟨by decide +kernel, rfl⟩
theorem d_X5_wetFields_71 : zDc M_X5_wetFields 71 (.aaload) 1 72 := ⟨by decide +kernel, rfl⟩
theorem d_X5_wetFields_72 : zDc M_X5_wetFields 72 (.iload_n 3) 1 73 := ⟨by decide +kernel, rfl⟩
theorem d_X5_wetFields_73 : zDc M_X5_wetFields 73 (.dup2) 1 74 := ⟨by decide +kernel, rfl⟩
theorem d_X5_wetFields_74 : zDc M_X5_wetFields 74 (.iaload) 1 75 := ⟨by decide +kernel, rfl⟩
theorem d_X5_wetFields_75 : zDc M_X5_wetFields 75 (.iload_n 2) 1 76 := ⟨by decide +kernel, rfl⟩
theorem d_X5_wetFields_76 : zDc M_X5_wetFields 76 (.iadd) 1 77 := ⟨by decide +kernel, rfl⟩
theorem d_X5_wetFields_77 : zDc M_X5_wetFields 77 (.iastore) 1 78 := ⟨by decide +kernel, rfl⟩
theorem d_X5_wetFields_78 : zDc M_X5_wetFields 78 (.iinc 3 1) 3 81 := ⟨by decide +kernel, rfl⟩
theorem d_X5_wetFields_81 : zDj M_X5_wetFields 81 (.goto (-79)) (-79) 84 2 := ⟨by decide +kernel, rfl, by decide⟩
theorem d_X5_wetFields_84 : zDc M_X5_wetFields 84 (.return_) 1 85 := ⟨by decide +kernel, rfl⟩
def f_X5_wetFields (a0 : Nat) (a1 : Int32) (a2 : Int32) (h0 : zHp) : Option (Unit × zHp) :=
  zbd (
  zlp (σ := Int32) (β := Int32) zLF (fun s1 h2 =>
  zob (zgR h2 a0 5 14) (fun v5 =>
  zob (zgI h2 v5 6 13) (fun v6 =>
  if v6 ≤ s1 then
  some ((.inr s1), h2)
  else
  zob (zgR h2 a0 5 14) (fun v7 =>
  zob (zgR h2 v7 6 2) (fun v8 =>
  zob (zaI 0 h2 v8 s1) (fun v9 =>
  zob (zgR h2 a0 5 1) (fun v10 =>
  zob (zaI 0 h2 v10 a1) (fun v11 =>
  zob (zgR h2 a0 5 0) (fun v12 =>
  zob (zaI 0 h2 v12 a1) (fun v13 =>
  if v9 = ((6 * v11) + v13) then
  zob (zgR h2 a0 5 9) (fun v14 =>
  zob (zaI 0 h2 v14 s1) (fun v15 =>
  zob (zsI 0 h2 v14 s1 (v15 + a2)) (fun h16 =>
  zob (zgR h16 a0 5 4) (fun v17 =>
  zob (zaI 0 h16 v17 a1) (fun v18 =>
  if v18 = (-1) then
  some ((.inl (s1 + 1)), h16)
  else
  zob (zgR h16 a0 5 10) (fun v19 =>
  zob (zgR h16 a0 5 4) (fun v20 =>
  zob (zaI 0 h16 v20 a1) (fun v21 =>
  zob (zaA 5 h16 v19 v21) (fun v22 =>
  zob (zaI 0 h16 v22 s1) (fun v23 =>
  zob (zsI 0 h16 v22 s1 (v23 + a2)) (fun h24 =>
  some ((.inl (s1 + 1)), h24))))))))))))
  else
  some ((.inl (s1 + 1)), h2))))))))))) 0 h0) (fun e3 h4 =>
  some ((), h4))
set_option maxRecDepth 100000 in
set_option maxHeartbeats 4000000 in
theorem t_X5_wetFields (a0 : Nat) (a1 : Int32) (a2 : Int32) (h0 : zHp) : ∀ (r : Unit) (h' : zHp), f_X5_wetFields a0 a1 a2 h0 = some (r, h') → zCt yX5_wetFields (.code yX5_wetFields cX5_wetFields 4 none) 1 60 0 0 [.ref a0, .int a1, .int a2] h0 (none) h' := by
  refine zct_of M_X5_wetFields yX5_wetFields (by decide) rfl rfl [.ref a0, .int a1, .int a2] h0 (Nat.le_of_ble_eq_true rfl) (fun _ => none) (fun X => ?_)
  show zG X M_X5_wetFields (0, 0) 0 [(0, .ref a0), (1, .int a1), (2, .int a2)] [] h0 (f_X5_wetFields a0 a1 a2 h0) (fun (_ : Unit) h' => zKe X (none) h')
  unfold f_X5_wetFields
  refine zg_iconst 0 rfl d_X5_wetFields_0 ?_
  refine zg_istore_n [(3, .int 0), (0, .ref a0), (1, .int a1), (2, .int a2)] d_X5_wetFields_1 rfl (by decide) rfl ?_
  refine zg_bd (E := 84) (el := (fun (e3 : Int32) => [(0, .ref a0), (1, .int a1), (2, .int a2), (3, .int e3)])) (es := fun _ => []) (zg_sub [1, 2, 3, 0] rfl (zg_lp (el := (fun (s1 : Int32) => [(0, .ref a0), (1, .int a1), (2, .int a2), (3, .int s1)])) (fun s1 h2 => ?_) 0 h0)) (fun e3 h4 => ?_)
  · refine zg_iload_n 3 rfl d_X5_wetFields_2 ?_
    refine zg_aload_n 0 rfl d_X5_wetFields_3 ?_
    refine zg_getR d_X5_wetFields_4 zc_5 (by decide) fl_X5_50 (fun v5 => ?_)
    refine zg_getI d_X5_wetFields_7 zc_6 (by decide) fl_X5_114 (fun v6 => ?_)
    refine zg_icmp_ge d_X5_wetFields_10 ?_ ?_
    · exact zg_finK (E := 0) [0, 1, 2, 3] rfl rfl (fun q => q)
    · refine zg_aload_n 0 rfl d_X5_wetFields_13 ?_
      refine zg_getR d_X5_wetFields_14 zc_5 (by decide) fl_X5_50 (fun v7 => ?_)
      refine zg_getR d_X5_wetFields_17 zc_6 (by decide) fl_X5_211 (fun v8 => ?_)
      refine zg_iload_n 3 rfl d_X5_wetFields_20 ?_
      refine zg_ald0 d_X5_wetFields_21 (fun v9 => ?_)
      refine zg_bipush 6 rfl d_X5_wetFields_22 ?_
      refine zg_aload_n 0 rfl d_X5_wetFields_24 ?_
      refine zg_getR d_X5_wetFields_25 zc_5 (by decide) fl_X5_15 (fun v10 => ?_)
      refine zg_iload_n 1 rfl d_X5_wetFields_28 ?_
      refine zg_ald0 d_X5_wetFields_29 (fun v11 => ?_)
      refine zg_imul d_X5_wetFields_30 ?_
      refine zg_aload_n 0 rfl d_X5_wetFields_31 ?_
      refine zg_getR d_X5_wetFields_32 zc_5 (by decide) fl_X5_9 (fun v12 => ?_)
      refine zg_iload_n 1 rfl d_X5_wetFields_35 ?_
      refine zg_ald0 d_X5_wetFields_36 (fun v13 => ?_)
      refine zg_iadd d_X5_wetFields_37 ?_
      refine zg_icmp_ne d_X5_wetFields_38 ?_ ?_
      · refine zg_aload_n 0 rfl d_X5_wetFields_41 ?_
        refine zg_getR d_X5_wetFields_42 zc_5 (by decide) fl_X5_39 (fun v14 => ?_)
        refine zg_iload_n 3 rfl d_X5_wetFields_45 ?_
        refine zg_dup2 rfl rfl d_X5_wetFields_46 ?_
        refine zg_ald0 d_X5_wetFields_47 (fun v15 => ?_)
        refine zg_iload_n 2 rfl d_X5_wetFields_48 ?_
        refine zg_iadd d_X5_wetFields_49 ?_
        refine zg_ast0 d_X5_wetFields_50 (fun h16 => ?_)
        refine zg_aload_n 0 rfl d_X5_wetFields_51 ?_
        refine zg_getR d_X5_wetFields_52 zc_5 (by decide) fl_X5_24 (fun v17 => ?_)
        refine zg_iload_n 1 rfl d_X5_wetFields_55 ?_
        refine zg_ald0 d_X5_wetFields_56 (fun v18 => ?_)
        refine zg_iconst (-1) rfl d_X5_wetFields_57 ?_
        refine zg_icmp_eq d_X5_wetFields_58 ?_ ?_
        · refine zg_iinc 3 (s1 + 1) [(3, .int (s1 + 1)), (0, .ref a0), (1, .int a1), (2, .int a2)] d_X5_wetFields_78 rfl rfl (by decide) rfl ?_
          refine zg_goto d_X5_wetFields_81 ?_
          exact zg_finK (E := 0) [1, 2, 3, 0] rfl rfl (fun q => q)
        · refine zg_aload_n 0 rfl d_X5_wetFields_61 ?_
          refine zg_getR d_X5_wetFields_62 zc_5 (by decide) fl_X5_44 (fun v19 => ?_)
          refine zg_aload_n 0 rfl d_X5_wetFields_65 ?_
          refine zg_getR d_X5_wetFields_66 zc_5 (by decide) fl_X5_24 (fun v20 => ?_)
          refine zg_iload_n 1 rfl d_X5_wetFields_69 ?_
          refine zg_ald0 d_X5_wetFields_70 (fun v21 => ?_)
          refine zg_ald5 d_X5_wetFields_71 (fun v22 => ?_)
          refine zg_iload_n 3 rfl d_X5_wetFields_72 ?_
          refine zg_dup2 rfl rfl d_X5_wetFields_73 ?_
          refine zg_ald0 d_X5_wetFields_74 (fun v23 => ?_)
          refine zg_iload_n 2 rfl d_X5_wetFields_75 ?_
          refine zg_iadd d_X5_wetFields_76 ?_
          refine zg_ast0 d_X5_wetFields_77 (fun h24 => ?_)
          refine zg_iinc 3 (s1 + 1) [(3, .int (s1 + 1)), (0, .ref a0), (1, .int a1), (2, .int a2)] d_X5_wetFields_78 rfl rfl (by decide) rfl ?_
          refine zg_goto d_X5_wetFields_81 ?_
          exact zg_finK (E := 0) [1, 2, 3, 0] rfl rfl (fun q => q)
      · refine zg_iinc 3 (s1 + 1) [(3, .int (s1 + 1)), (0, .ref a0), (1, .int a1), (2, .int a2)] d_X5_wetFields_78 rfl rfl (by decide) rfl ?_
        refine zg_goto d_X5_wetFields_81 ?_
        exact zg_finK (E := 0) [1, 2, 3, 0] rfl rfl (fun q => q)
  · exact zg_vretK d_X5_wetFields_84 rfl ⟨Nat.le_of_ble_eq_true rfl, Nat.le_of_ble_eq_true rfl⟩ (fun q => q)
abbrev M_X5_rainDown : zMt := (RX5, cX5_rainDown, 3, 4, 138, none, "rainDown", 0, 0)
theorem d_X5_rainDown_0 : zDc M_X5_rainDown 0 (.iconst 0) 1 1 := ⟨by decide +kernel, rfl⟩
theorem d_X5_rainDown_1 : zDc M_X5_rainDown 1 (.istore_n 1) 1 2 := ⟨by decide +kernel, rfl⟩
theorem d_X5_rainDown_2 : zDc M_X5_rainDown 2 (.iload_n 1) 1 3 := ⟨by decide +kernel, rfl⟩
theorem d_X5_rainDown_3 : zDc M_X5_rainDown 3 (.aload_n 0) 1 4 := ⟨by decide +kernel, rfl⟩
theorem d_X5_rainDown_4 : zDc M_X5_rainDown 4 (.getfield 50) 3 7 := ⟨by decide +kernel, rfl⟩
theorem d_X5_rainDown_7 : zDc M_X5_rainDown 7 (.getfield 90) 3 10 := ⟨by decide +kernel, rfl⟩
theorem d_X5_rainDown_10 : zDj M_X5_rainDown 10 (.if_icmp .ge 113) 113 13 123 := ⟨by decide +kernel, rfl, by decide⟩
theorem d_X5_rainDown_13 : zDc M_X5_rainDown 13 (.aload_n 0) 1 14 := ⟨by decide +kernel, rfl⟩
theorem d_X5_rainDown_14 : zDc M_X5_rainDown 14 (.iload_n 1) 1 15 := ⟨by decide +kernel, rfl⟩
theorem d_X5_rainDown_15 : zDc M_X5_rainDown 15 (.invokevirtual 93) 3 18 := ⟨by decide +kernel, rfl⟩
theorem d_X5_rainDown_18 : zDj M_X5_rainDown 18 (.ifCond .eq 99) 99 21 117 := ⟨by decide +kernel, rfl, by decide⟩
theorem d_X5_rainDown_21 : zDc M_X5_rainDown 21 (.aload_n 0) 1 22 := ⟨by decide +kernel, rfl⟩
theorem d_X5_rainDown_22 : zDc M_X5_rainDown 22 (.getfield 18) 3 25 := ⟨by decide +kernel, rfl⟩
theorem d_X5_rainDown_25 : zDc M_X5_rainDown 25 (.iload_n 1) 1 26 := ⟨by decide +kernel, rfl⟩
theorem d_X5_rainDown_26 : zDc M_X5_rainDown 26 (.iaload) 1 27 := ⟨by decide +kernel, rfl⟩
theorem d_X5_rainDown_27 : zDc M_X5_rainDown 27 (.aload_n 0) 1 28 := ⟨by decide +kernel, rfl⟩
theorem d_X5_rainDown_28 : zDc M_X5_rainDown 28 (.getfield 50) 3 31 := ⟨by decide +kernel, rfl⟩
theorem d_X5_rainDown_31 : zDc M_X5_rainDown 31 (.getfield 203) 3 34 := ⟨by decide +kernel, rfl⟩
theorem d_X5_rainDown_34 : zDj M_X5_rainDown 34 (.if_icmp .ge 23) 23 37 57 := ⟨by decide +kernel, rfl, by decide⟩
theorem d_X5_rainDown_37 : zDc M_X5_rainDown 37 (.aload_n 0) 1 38 := ⟨by decide +kernel, rfl⟩
theorem d_X5_rainDown_38 : zDc M_X5_rainDown 38 (.aload_n 0) 1 39 := ⟨by decide +kernel, rfl⟩
theorem d_X5_rainDown_39 : zDc M_X5_rainDown 39 (.getfield 9) 3 42 := ⟨by decide +kernel, rfl⟩
theorem d_X5_rainDown_42 : zDc M_X5_rainDown 42 (.iload_n 1) 1 43 := ⟨by decide +kernel, rfl⟩
theorem d_X5_rainDown_43 : zDc M_X5_rainDown 43 (.iaload) 1 44 := ⟨by decide +kernel, rfl⟩
theorem d_X5_rainDown_44 : zDc M_X5_rainDown 44 (.aload_n 0) 1 45 := ⟨by decide +kernel, rfl⟩
theorem d_X5_rainDown_45 : zDc M_X5_rainDown 45 (.getfield 15) 3 48 := ⟨by decide +kernel, rfl⟩
theorem d_X5_rainDown_48 : zDc M_X5_rainDown 48 (.iload_n 1) 1 49 := ⟨by decide +kernel, rfl⟩
theorem d_X5_rainDown_49 : zDc M_X5_rainDown 49 (.iaload) 1 50 := ⟨by decide +kernel, rfl⟩
theorem d_X5_rainDown_50 : zDc M_X5_rainDown 50 (.invokevirtual 148) 3 53 := ⟨by decide +kernel, rfl⟩
theorem d_X5_rainDown_53 : zDc M_X5_rainDown 53 (.iconst 2) 1 54 := ⟨by decide +kernel, rfl⟩
theorem d_X5_rainDown_54 : zDj M_X5_rainDown 54 (.if_icmp .ne 63) 63 57 117 := ⟨by decide +kernel, rfl, by decide⟩
theorem d_X5_rainDown_57 : zDc M_X5_rainDown 57 (.aload_n 0) 1 58 := ⟨by decide +kernel, rfl⟩
theorem d_X5_rainDown_58 : zDc M_X5_rainDown 58 (.iconst 1) 1 59 := ⟨by decide +kernel, rfl⟩
theorem d_X5_rainDown_59 : zDc M_X5_rainDown 59 (.iload_n 1) 1 60 := ⟨by decide +kernel, rfl⟩
theorem d_X5_rainDown_60 : zDc M_X5_rainDown 60 (.invokevirtual 190) 3 63 := ⟨by decide +kernel, rfl⟩
theorem d_X5_rainDown_63 : zDc M_X5_rainDown 63 (.aload_n 0) 1 64 := ⟨by decide +kernel, rfl⟩
theorem d_X5_rainDown_64 : zDc M_X5_rainDown 64 (.getfield 18) 3 67 := ⟨by decide +kernel, rfl⟩
theorem d_X5_rainDown_67 : zDc M_X5_rainDown 67 (.iload_n 1) 1 68 := ⟨by decide +kernel, rfl⟩
theorem d_X5_rainDown_68 : zDc M_X5_rainDown 68 (.iaload) 1 69 := ⟨by decide +kernel, rfl⟩
theorem d_X5_rainDown_69 : zDc M_X5_rainDown 69 (.iconst 1) 1 70 := ⟨by decide +kernel, rfl⟩
theorem d_X5_rainDown_70 : zDc M_X5_rainDown 70 (.aload_n 0) 1 71 := ⟨by decide +kernel, rfl⟩
theorem d_X5_rainDown_71 : zDc M_X5_rainDown 71 (.getfield 18) 3 74 := ⟨by decide +kernel, rfl⟩
theorem d_X5_rainDown_74 : zDc M_X5_rainDown 74 (.iload_n 1) 1 75 := ⟨by decide +kernel, rfl⟩
theorem d_X5_rainDown_75 : zDc M_X5_rainDown 75 (.iaload) 1 76 := ⟨by decide +kernel, rfl⟩
theorem d_X5_rainDown_76 : zDc M_X5_rainDown 76 (.iconst 2) 1 77 := ⟨by decide +kernel, rfl⟩
theorem d_X5_rainDown_77 : zDc M_X5_rainDown 77 (.idiv) 1 78 := ⟨by decide +kernel, rfl⟩
theorem d_X5_rainDown_78 : zDc M_X5_rainDown 78 (.invokestatic 206) 3 81 := ⟨by decide +kernel, rfl⟩
theorem d_X5_rainDown_81 : zDc M_X5_rainDown 81 (.invokestatic 194) 3 84 := ⟨by decide +kernel, rfl⟩
theorem d_X5_rainDown_84 : zDc M_X5_rainDown 84 (.istore_n 2) 1 85 := ⟨by decide +kernel, rfl⟩
theorem d_X5_rainDown_85 : zDc M_X5_rainDown 85 (.aload_n 0) 1 86 := ⟨by decide +kernel, rfl⟩
theorem d_X5_rainDown_86 : zDc M_X5_rainDown 86 (.iload_n 1) 1 87 := ⟨by decide +kernel, rfl⟩
theorem d_X5_rainDown_87 : zDc M_X5_rainDown 87 (.iload_n 2) 1 88 := ⟨by decide +kernel, rfl⟩
theorem d_X5_rainDown_88 : zDc M_X5_rainDown 88 (.invokevirtual 208) 3 91 := ⟨by decide +kernel, rfl⟩
theorem d_X5_rainDown_91 : zDc M_X5_rainDown 91 (.aload_n 0) 1 92 := ⟨by decide +kernel, rfl⟩
theorem d_X5_rainDown_92 : zDc M_X5_rainDown 92 (.getfield 18) 3 95 := ⟨by decide +kernel, rfl⟩
theorem d_X5_rainDown_95 : zDc M_X5_rainDown 95 (.iload_n 1) 1 96 := ⟨by decide +kernel, rfl⟩
theorem d_X5_rainDown_96 : zDc M_X5_rainDown 96 (.dup2) 1 97 := ⟨by decide +kernel, rfl⟩
theorem d_X5_rainDown_97 : zDc M_X5_rainDown 97 (.iaload) 1 98 := ⟨by decide +kernel, rfl⟩
theorem d_X5_rainDown_98 : zDc M_X5_rainDown 98 (.iload_n 2) 1 99 := ⟨by decide +kernel, rfl⟩
theorem d_X5_rainDown_99 : zDc M_X5_rainDown 99 (.isub) 1 100 := ⟨by decide +kernel, rfl⟩
theorem d_X5_rainDown_100 : zDc M_X5_rainDown 100 (.iastore) 1 101 := ⟨by decide +kernel, rfl⟩
theorem d_X5_rainDown_101 : zDc M_X5_rainDown 101 (.aload_n 0) 1 102 := ⟨by decide +kernel, rfl⟩
theorem d_X5_rainDown_102 : zDc M_X5_rainDown 102 (.getfield 18) 3 105 := ⟨by decide +kernel, rfl⟩
theorem d_X5_rainDown_105 : zDc M_X5_rainDown 105 (.iload_n 1) 1 106 := ⟨by decide +kernel, rfl⟩
theorem d_X5_rainDown_106 : zDc M_X5_rainDown 106 (.iaload) 1 107 := ⟨by decide +kernel, rfl⟩
theorem d_X5_rainDown_107 : zDj M_X5_rainDown 107 (.ifCond .ne 10) 10 110 117 := ⟨by decide +kernel, rfl, by decide⟩
theorem d_X5_rainDown_110 : zDc M_X5_rainDown 110 (.aload_n 0) 1 111 := ⟨by decide +kernel, rfl⟩
theorem d_X5_rainDown_111 : zDc M_X5_rainDown 111 (.getfield 27) 3 114 := ⟨by decide +kernel, rfl⟩
theorem d_X5_rainDown_114 : zDc M_X5_rainDown 114 (.iload_n 1) 1 115 := ⟨by decide +kernel, rfl⟩
theorem d_X5_rainDown_115 : zDc M_X5_rainDown 115 (.iconst 4) 1 116 := ⟨by decide +kernel, rfl⟩
theorem d_X5_rainDown_116 : zDc M_X5_rainDown 116 (.iastore) 1 117 := ⟨by decide +kernel, rfl⟩
theorem d_X5_rainDown_117 : zDc M_X5_rainDown 117 (.iinc 1 1) 3 120 := ⟨by decide +kernel, rfl⟩
theorem d_X5_rainDown_120 : zDj M_X5_rainDown 120 (.goto (-118)) (-118) 123 2 := ⟨by decide +kernel, rfl, by decide⟩
theorem d_X5_rainDown_123 : zDc M_X5_rainDown 123 (.return_) 1 124 := ⟨by decide +kernel, rfl⟩
def f_X5_rainDown (a0 : Nat) (h0 : zHp) : Option (Unit × zHp) :=
  zbd (
  zlp (σ := Int32) (β := Int32) zLF (fun s1 h2 =>
  zob (zgR h2 a0 5 14) (fun v5 =>
  zob (zgI h2 v5 6 14) (fun v6 =>
  if v6 ≤ s1 then
  some ((.inr s1), h2)
  else
  zbd (zcv 5 a0 h2 (f_X5_isUp a0 s1 h2)) (fun v8 h7 =>
  if v8 = 0 then
  some ((.inl (s1 + 1)), h7)
  else
  zob (zgR h7 a0 5 2) (fun v9 =>
  zob (zaI 0 h7 v9 s1) (fun v10 =>
  zob (zgR h7 a0 5 14) (fun v11 =>
  zob (zgI h7 v11 6 17) (fun v12 =>
  if v12 ≤ v10 then
  zbd (zcv 5 a0 h7 (f_X5_worthOf a0 1 s1 h7)) (fun v14 h13 =>
  zob (zgR h13 a0 5 2) (fun v15 =>
  zob (zaI 0 h13 v15 s1) (fun v16 =>
  zob (zgR h13 a0 5 2) (fun v17 =>
  zob (zaI 0 h13 v17 s1) (fun v18 =>
  zbd ((f_X5_bounded v14 v16 (zmx 1 (v18 / 2)) h13)) (fun v20 h19 =>
  zbd (zcv 5 a0 h19 (f_X5_wetFields a0 s1 v20 h19)) (fun v22 h21 =>
  zob (zgR h21 a0 5 2) (fun v23 =>
  zob (zaI 0 h21 v23 s1) (fun v24 =>
  zob (zsI 0 h21 v23 s1 (v24 - v20)) (fun h25 =>
  zob (zgR h25 a0 5 2) (fun v26 =>
  zob (zaI 0 h25 v26 s1) (fun v27 =>
  if v27 = 0 then
  zob (zgR h25 a0 5 5) (fun v28 =>
  zob (zsI 0 h25 v28 s1 4) (fun h29 =>
  some ((.inl (s1 + 1)), h29)))
  else
  some ((.inl (s1 + 1)), h25)))))))))))))
  else
  zob (zgR h7 a0 5 0) (fun v30 =>
  zob (zaI 0 h7 v30 s1) (fun v31 =>
  zob (zgR h7 a0 5 1) (fun v32 =>
  zob (zaI 0 h7 v32 s1) (fun v33 =>
  zbd (zcv 5 a0 h7 (f_X5_groundAt a0 v31 v33 h7)) (fun v35 h34 =>
  if v35 = 2 then
  zbd (zcv 5 a0 h34 (f_X5_worthOf a0 1 s1 h34)) (fun v37 h36 =>
  zob (zgR h36 a0 5 2) (fun v38 =>
  zob (zaI 0 h36 v38 s1) (fun v39 =>
  zob (zgR h36 a0 5 2) (fun v40 =>
  zob (zaI 0 h36 v40 s1) (fun v41 =>
  zbd ((f_X5_bounded v37 v39 (zmx 1 (v41 / 2)) h36)) (fun v43 h42 =>
  zbd (zcv 5 a0 h42 (f_X5_wetFields a0 s1 v43 h42)) (fun v45 h44 =>
  zob (zgR h44 a0 5 2) (fun v46 =>
  zob (zaI 0 h44 v46 s1) (fun v47 =>
  zob (zsI 0 h44 v46 s1 (v47 - v43)) (fun h48 =>
  zob (zgR h48 a0 5 2) (fun v49 =>
  zob (zaI 0 h48 v49 s1) (fun v50 =>
  if v50 = 0 then
  zob (zgR h48 a0 5 5) (fun v51 =>
  zob (zsI 0 h48 v51 s1 4) (fun h52 =>
  some ((.inl (s1 + 1)), h52)))
  else
  some ((.inl (s1 + 1)), h48)))))))))))))
  else
  some ((.inl (s1 + 1)), h34)))))))))))))) 0 h0) (fun e3 h4 =>
  some ((), h4))
set_option maxRecDepth 100000 in
set_option maxHeartbeats 4000000 in
theorem t_X5_rainDown (a0 : Nat) (h0 : zHp) : ∀ (r : Unit) (h' : zHp), f_X5_rainDown a0 h0 = some (r, h') → zCt yX5_rainDown (.code yX5_rainDown cX5_rainDown 3 none) 4 138 0 0 [.ref a0] h0 (none) h' := by
  refine zct_of M_X5_rainDown yX5_rainDown (by decide) rfl rfl [.ref a0] h0 (Nat.le_of_ble_eq_true rfl) (fun _ => none) (fun X => ?_)
  show zG X M_X5_rainDown (0, 0) 0 [(0, .ref a0)] [] h0 (f_X5_rainDown a0 h0) (fun (_ : Unit) h' => zKe X (none) h')
  unfold f_X5_rainDown
  refine zg_iconst 0 rfl d_X5_rainDown_0 ?_
  refine zg_istore_n [(1, .int 0), (0, .ref a0)] d_X5_rainDown_1 rfl (by decide) rfl ?_
  refine zg_bd (E := 123) (el := (fun (e3 : Int32) => [(0, .ref a0), (1, .int e3)])) (es := fun _ => []) (zg_sub [1, 0] rfl (zg_lp (el := (fun (s1 : Int32) => [(0, .ref a0), (1, .int s1)])) (fun s1 h2 => ?_) 0 h0)) (fun e3 h4 => ?_)
  · refine zg_iload_n 1 rfl d_X5_rainDown_2 ?_
    refine zg_aload_n 0 rfl d_X5_rainDown_3 ?_
    refine zg_getR d_X5_rainDown_4 zc_5 (by decide) fl_X5_50 (fun v5 => ?_)
    refine zg_getI d_X5_rainDown_7 zc_6 (by decide) fl_X5_90 (fun v6 => ?_)
    refine zg_icmp_ge d_X5_rainDown_10 ?_ ?_
    · exact zg_finK (E := 0) [0, 1] rfl rfl (fun q => q)
    · refine zg_aload_n 0 rfl d_X5_rainDown_13 ?_
      refine zg_iload_n 1 rfl d_X5_rainDown_14 ?_
      refine zg_cVi (b := a0) (As := [.int s1]) (rest := []) (0, 0) d_X5_rainDown_15 zc_5 rfl cw_X5_93 wi_X5_isUp ws_X5_isUp rfl rfl (Nat.le_of_ble_eq_true rfl) (by decide) (by decide) ⟨by decide, by decide⟩ rfl (t_X5_isUp a0 s1 h2) (fun v8 h7 => ?_)
      refine zg_if_eq d_X5_rainDown_18 ?_ ?_
      · refine zg_iinc 1 (s1 + 1) [(1, .int (s1 + 1)), (0, .ref a0)] d_X5_rainDown_117 rfl rfl (by decide) rfl ?_
        refine zg_goto d_X5_rainDown_120 ?_
        exact zg_finK (E := 0) [1, 0] rfl rfl (fun q => q)
      · refine zg_aload_n 0 rfl d_X5_rainDown_21 ?_
        refine zg_getR d_X5_rainDown_22 zc_5 (by decide) fl_X5_18 (fun v9 => ?_)
        refine zg_iload_n 1 rfl d_X5_rainDown_25 ?_
        refine zg_ald0 d_X5_rainDown_26 (fun v10 => ?_)
        refine zg_aload_n 0 rfl d_X5_rainDown_27 ?_
        refine zg_getR d_X5_rainDown_28 zc_5 (by decide) fl_X5_50 (fun v11 => ?_)
        refine zg_getI d_X5_rainDown_31 zc_6 (by decide) fl_X5_203 (fun v12 => ?_)
        refine zg_icmp_ge d_X5_rainDown_34 ?_ ?_
        · refine zg_aload_n 0 rfl d_X5_rainDown_57 ?_
          refine zg_iconst 1 rfl d_X5_rainDown_58 ?_
          refine zg_iload_n 1 rfl d_X5_rainDown_59 ?_
          refine zg_cVl (b := a0) (As := [.int 1, .int s1]) (rest := []) (0, 0) d_X5_rainDown_60 zc_5 rfl cw_X5_190 wi_X5_worthOf ws_X5_worthOf rfl rfl (Nat.le_of_ble_eq_true rfl) (by decide) (by decide) ⟨by decide, by decide⟩ rfl (t_X5_worthOf a0 1 s1 h7) (fun v14 h13 => ?_)
          refine zg_aload_n 0 rfl d_X5_rainDown_63 ?_
          refine zg_getR d_X5_rainDown_64 zc_5 (by decide) fl_X5_18 (fun v15 => ?_)
          refine zg_iload_n 1 rfl d_X5_rainDown_67 ?_
          refine zg_ald0 d_X5_rainDown_68 (fun v16 => ?_)
          refine zg_iconst 1 rfl d_X5_rainDown_69 ?_
          refine zg_aload_n 0 rfl d_X5_rainDown_70 ?_
          refine zg_getR d_X5_rainDown_71 zc_5 (by decide) fl_X5_18 (fun v17 => ?_)
          refine zg_iload_n 1 rfl d_X5_rainDown_74 ?_
          refine zg_ald0 d_X5_rainDown_75 (fun v18 => ?_)
          refine zg_iconst 2 rfl d_X5_rainDown_76 ?_
          refine zg_idiv (by decide) d_X5_rainDown_77 ?_
          refine zg_mmax d_X5_rainDown_78 ml_X5_206 (by decide) (Nat.le_of_ble_eq_true rfl) ⟨Nat.le_of_ble_eq_true rfl, Nat.le_of_ble_eq_true rfl⟩ ?_
          refine zg_cSi (As := [.long v14, .int v16, .int (zmx 1 (v18 / 2))]) (rest := []) (0, 0) d_X5_rainDown_81 cw_X5_194 wt_X5_bounded rfl rfl (Nat.le_of_ble_eq_true rfl) (by decide) (by decide) ⟨by decide, by decide⟩ rfl (t_X5_bounded v14 v16 (zmx 1 (v18 / 2)) h13) (fun v20 h19 => ?_)
          refine zg_istore_n [(2, .int v20), (0, .ref a0), (1, .int s1)] d_X5_rainDown_84 rfl (by decide) rfl ?_
          refine zg_aload_n 1 rfl d_X5_rainDown_85 ?_
          refine zg_iload_n 2 rfl d_X5_rainDown_86 ?_
          refine zg_iload_n 0 rfl d_X5_rainDown_87 ?_
          refine zg_cVv (b := a0) (As := [.int s1, .int v20]) (rest := []) (0, 0) d_X5_rainDown_88 zc_5 rfl cw_X5_208 wi_X5_wetFields ws_X5_wetFields rfl rfl (Nat.le_of_ble_eq_true rfl) (by decide) (by decide) ⟨by decide, by decide⟩ rfl (t_X5_wetFields a0 s1 v20 h19) (fun v22 h21 => ?_)
          refine zg_aload_n 1 rfl d_X5_rainDown_91 ?_
          refine zg_getR d_X5_rainDown_92 zc_5 (by decide) fl_X5_18 (fun v23 => ?_)
          refine zg_iload_n 2 rfl d_X5_rainDown_95 ?_
          refine zg_dup2 rfl rfl d_X5_rainDown_96 ?_
          refine zg_ald0 d_X5_rainDown_97 (fun v24 => ?_)
          refine zg_iload_n 0 rfl d_X5_rainDown_98 ?_
          refine zg_isub d_X5_rainDown_99 ?_
          refine zg_ast0 d_X5_rainDown_100 (fun h25 => ?_)
          refine zg_aload_n 1 rfl d_X5_rainDown_101 ?_
          refine zg_getR d_X5_rainDown_102 zc_5 (by decide) fl_X5_18 (fun v26 => ?_)
          refine zg_iload_n 2 rfl d_X5_rainDown_105 ?_
          refine zg_ald0 d_X5_rainDown_106 (fun v27 => ?_)
          refine zg_if_ne d_X5_rainDown_107 ?_ ?_
          · refine zg_aload_n 1 rfl d_X5_rainDown_110 ?_
            refine zg_getR d_X5_rainDown_111 zc_5 (by decide) fl_X5_27 (fun v28 => ?_)
            refine zg_iload_n 2 rfl d_X5_rainDown_114 ?_
            refine zg_iconst 4 rfl d_X5_rainDown_115 ?_
            refine zg_ast0 d_X5_rainDown_116 (fun h29 => ?_)
            refine zg_iinc 2 (s1 + 1) [(1, .int (s1 + 1)), (2, .int v20), (0, .ref a0)] d_X5_rainDown_117 rfl rfl (by decide) rfl ?_
            refine zg_goto d_X5_rainDown_120 ?_
            exact zg_finK (E := 0) [2, 0] rfl rfl (fun q => q)
          · refine zg_iinc 2 (s1 + 1) [(1, .int (s1 + 1)), (2, .int v20), (0, .ref a0)] d_X5_rainDown_117 rfl rfl (by decide) rfl ?_
            refine zg_goto d_X5_rainDown_120 ?_
            exact zg_finK (E := 0) [2, 0] rfl rfl (fun q => q)
        · refine zg_aload_n 0 rfl d_X5_rainDown_37 ?_
          refine zg_aload_n 0 rfl d_X5_rainDown_38 ?_
          refine zg_getR d_X5_rainDown_39 zc_5 (by decide) fl_X5_9 (fun v30 => ?_)
          refine zg_iload_n 1 rfl d_X5_rainDown_42 ?_
          refine zg_ald0 d_X5_rainDown_43 (fun v31 => ?_)
          refine zg_aload_n 0 rfl d_X5_rainDown_44 ?_
          refine zg_getR d_X5_rainDown_45 zc_5 (by decide) fl_X5_15 (fun v32 => ?_)
          refine zg_iload_n 1 rfl d_X5_rainDown_48 ?_
          refine zg_ald0 d_X5_rainDown_49 (fun v33 => ?_)
          refine zg_cVi (b := a0) (As := [.int v31, .int v33]) (rest := []) (0, 0) d_X5_rainDown_50 zc_5 rfl cw_X5_148 wi_X5_groundAt ws_X5_groundAt rfl rfl (Nat.le_of_ble_eq_true rfl) (by decide) (by decide) ⟨by decide, by decide⟩ rfl (t_X5_groundAt a0 v31 v33 h7) (fun v35 h34 => ?_)
          refine zg_iconst 2 rfl d_X5_rainDown_53 ?_
          refine zg_icmp_ne d_X5_rainDown_54 ?_ ?_
          · refine zg_aload_n 0 rfl d_X5_rainDown_57 ?_
            refine zg_iconst 1 rfl d_X5_rainDown_58 ?_
            refine zg_iload_n 1 rfl d_X5_rainDown_59 ?_
            refine zg_cVl (b := a0) (As := [.int 1, .int s1]) (rest := []) (0, 0) d_X5_rainDown_60 zc_5 rfl cw_X5_190 wi_X5_worthOf ws_X5_worthOf rfl rfl (Nat.le_of_ble_eq_true rfl) (by decide) (by decide) ⟨by decide, by decide⟩ rfl (t_X5_worthOf a0 1 s1 h34) (fun v37 h36 => ?_)
            refine zg_aload_n 0 rfl d_X5_rainDown_63 ?_
            refine zg_getR d_X5_rainDown_64 zc_5 (by decide) fl_X5_18 (fun v38 => ?_)
            refine zg_iload_n 1 rfl d_X5_rainDown_67 ?_
            refine zg_ald0 d_X5_rainDown_68 (fun v39 => ?_)
            refine zg_iconst 1 rfl d_X5_rainDown_69 ?_
            refine zg_aload_n 0 rfl d_X5_rainDown_70 ?_
            refine zg_getR d_X5_rainDown_71 zc_5 (by decide) fl_X5_18 (fun v40 => ?_)
            refine zg_iload_n 1 rfl d_X5_rainDown_74 ?_
            refine zg_ald0 d_X5_rainDown_75 (fun v41 => ?_)
            refine zg_iconst 2 rfl d_X5_rainDown_76 ?_
            refine zg_idiv (by decide) d_X5_rainDown_77 ?_
            refine zg_mmax d_X5_rainDown_78 ml_X5_206 (by decide) (Nat.le_of_ble_eq_true rfl) ⟨Nat.le_of_ble_eq_true rfl, Nat.le_of_ble_eq_true rfl⟩ ?_
            refine zg_cSi (As := [.long v37, .int v39, .int (zmx 1 (v41 / 2))]) (rest := []) (0, 0) d_X5_rainDown_81 cw_X5_194 wt_X5_bounded rfl rfl (Nat.le_of_ble_eq_true rfl) (by decide) (by decide) ⟨by decide, by decide⟩ rfl (t_X5_bounded v37 v39 (zmx 1 (v41 / 2)) h36) (fun v43 h42 => ?_)
            refine zg_istore_n [(2, .int v43), (0, .ref a0), (1, .int s1)] d_X5_rainDown_84 rfl (by decide) rfl ?_
            refine zg_aload_n 1 rfl d_X5_rainDown_85 ?_
            refine zg_iload_n 2 rfl d_X5_rainDown_86 ?_
            refine zg_iload_n 0 rfl d_X5_rainDown_87 ?_
            refine zg_cVv (b := a0) (As := [.int s1, .int v43]) (rest := []) (0, 0) d_X5_rainDown_88 zc_5 rfl cw_X5_208 wi_X5_wetFields ws_X5_wetFields rfl rfl (Nat.le_of_ble_eq_true rfl) (by decide) (by decide) ⟨by decide, by decide⟩ rfl (t_X5_wetFields a0 s1 v43 h42) (fun v45 h44 => ?_)
            refine zg_aload_n 1 rfl d_X5_rainDown_91 ?_
            refine zg_getR d_X5_rainDown_92 zc_5 (by decide) fl_X5_18 (fun v46 => ?_)
            refine zg_iload_n 2 rfl d_X5_rainDown_95 ?_
            refine zg_dup2 rfl rfl d_X5_rainDown_96 ?_
            refine zg_ald0 d_X5_rainDown_97 (fun v47 => ?_)
            refine zg_iload_n 0 rfl d_X5_rainDown_98 ?_
            refine zg_isub d_X5_rainDown_99 ?_
            refine zg_ast0 d_X5_rainDown_100 (fun h48 => ?_)
            refine zg_aload_n 1 rfl d_X5_rainDown_101 ?_
            refine zg_getR d_X5_rainDown_102 zc_5 (by decide) fl_X5_18 (fun v49 => ?_)
            refine zg_iload_n 2 rfl d_X5_rainDown_105 ?_
            refine zg_ald0 d_X5_rainDown_106 (fun v50 => ?_)
            refine zg_if_ne d_X5_rainDown_107 ?_ ?_
            · refine zg_aload_n 1 rfl d_X5_rainDown_110 ?_
              refine zg_getR d_X5_rainDown_111 zc_5 (by decide) fl_X5_27 (fun v51 => ?_)
              refine zg_iload_n 2 rfl d_X5_rainDown_114 ?_
              refine zg_iconst 4 rfl d_X5_rainDown_115 ?_
              refine zg_ast0 d_X5_rainDown_116 (fun h52 => ?_)
              refine zg_iinc 2 (s1 + 1) [(1, .int (s1 + 1)), (2, .int v43), (0, .ref a0)] d_X5_rainDown_117 rfl rfl (by decide) rfl ?_
              refine zg_goto d_X5_rainDown_120 ?_
              exact zg_finK (E := 0) [2, 0] rfl rfl (fun q => q)
            · refine zg_iinc 2 (s1 + 1) [(1, .int (s1 + 1)), (2, .int v43), (0, .ref a0)] d_X5_rainDown_117 rfl rfl (by decide) rfl ?_
              refine zg_goto d_X5_rainDown_120 ?_
              exact zg_finK (E := 0) [2, 0] rfl rfl (fun q => q)
          · refine zg_iinc 1 (s1 + 1) [(1, .int (s1 + 1)), (0, .ref a0)] d_X5_rainDown_117 rfl rfl (by decide) rfl ?_
            refine zg_goto d_X5_rainDown_120 ?_
            exact zg_finK (E := 0) [1, 0] rfl rfl (fun q => q)
  · exact zg_vretK d_X5_rainDown_123 rfl ⟨Nat.le_of_ble_eq_true rfl, Nat.le_of_ble_eq_true rfl⟩ (fun q => q)
abbrev M_X5_passHour : zMt := (RX5, cX5_passHour, 3, 5, 161, none, "passHour", 0, 0)
theorem d_X5_passHour_0 : zDc M_X5_passHour 0 (.aload_n 0) 1 1 := ⟨by decide +kernel, rfl⟩
theorem d_X5_passHour_1 : zDc M_X5_passHour 1 (.invokevirtual 158) 3 4 := ⟨by decide +kernel, rfl⟩
theorem d_X5_passHour_4 : zDc M_X5_passHour 4 (.aload_n 0) 1 5 := ⟨by decide +kernel, rfl⟩
theorem d_X5_passHour_5 : zDc M_X5_passHour 5 (.iload_n 1) 1 6 := ⟨by decide +kernel, rfl⟩
theorem d_X5_passHour_6 : zDc M_X5_passHour 6 (.invokevirtual 161) 3 9 := ⟨by decide +kernel, rfl⟩
theorem d_X5_passHour_9 : zDc M_X5_passHour 9 (.aload_n 0) 1 10 := ⟨by decide +kernel, rfl⟩
theorem d_X5_passHour_10 : zDc M_X5_passHour 10 (.invokevirtual 165) 3 13 := ⟨by decide +kernel, rfl⟩
theorem d_X5_passHour_13 : zDc M_X5_passHour 13 (.aload_n 0) 1 14 := ⟨by decide +kernel, rfl⟩
theorem d_X5_passHour_14 : zDc M_X5_passHour 14 (.getfield 61) 3 17 := ⟨by decide +kernel, rfl⟩
theorem d_X5_passHour_17 : zDc M_X5_passHour 17 (.iconst 4) 1 18 := ⟨by decide +kernel, rfl⟩
theorem d_X5_passHour_18 : zDj M_X5_passHour 18 (.if_icmp .eq 7) 7 21 25 := ⟨by decide +kernel, rfl, by decide⟩
theorem d_X5_passHour_21 : zDc M_X5_passHour 21 (.aload_n 0) 1 22 := ⟨by decide +kernel, rfl⟩
theorem d_X5_passHour_22 : zDc M_X5_passHour 22 (.invokevirtual 168) 3 25 := ⟨by decide +kernel, rfl⟩
theorem d_X5_passHour_25 : zDc M_X5_passHour 25 (.aload_n 0) 1 26 := ⟨by decide +kernel, rfl⟩
theorem d_X5_passHour_26 : zDc M_X5_passHour 26 (.invokevirtual 171) 3 29 := ⟨by decide +kernel, rfl⟩
theorem d_X5_passHour_29 : zDc M_X5_passHour 29 (.aload_n 0) 1 30 := ⟨by decide +kernel, rfl⟩
theorem d_X5_passHour_30 : zDc M_X5_passHour 30 (.invokevirtual 174) 3 33 := ⟨by decide +kernel, rfl⟩
theorem d_X5_passHour_33 : zDc M_X5_passHour 33 (.aload_n 0) 1 34 := ⟨by decide +kernel, rfl⟩
theorem d_X5_passHour_34 : zDc M_X5_passHour 34 (.invokevirtual 177) 3 37 := ⟨by decide +kernel, rfl⟩
theorem d_X5_passHour_37 : zDc M_X5_passHour 37 (.iconst 0) 1 38 := ⟨by decide +kernel, rfl⟩
theorem d_X5_passHour_38 : zDc M_X5_passHour 38 (.istore_n 2) 1 39 := ⟨by decide +kernel, rfl⟩
theorem d_X5_passHour_39 : zDc M_X5_passHour 39 (.iload_n 2) 1 40 := ⟨by decide +kernel, rfl⟩
theorem d_X5_passHour_40 : zDc M_X5_passHour 40 (.aload_n 0) 1 41 := ⟨by decide +kernel, rfl⟩
theorem d_X5_passHour_41 : zDc M_X5_passHour 41 (.getfield 50) 3 44 := ⟨by decide +kernel, rfl⟩
theorem d_X5_passHour_44 : zDc M_X5_passHour 44 (.getfield 90) 3 47 := ⟨by decide +kernel, rfl⟩
theorem d_X5_passHour_47 : zDj M_X5_passHour 47 (.if_icmp .ge 27) 27 50 74 := ⟨by decide +kernel, rfl, by decide⟩
theorem d_X5_passHour_50 : zDc M_X5_passHour 50 (.aload_n 0) 1 51 := ⟨by decide +kernel, rfl⟩
theorem d_X5_passHour_51 : zDc M_X5_passHour 51 (.iload_n 2) 1 52 := ⟨by decide +kernel, rfl⟩
theorem d_X5_passHour_52 : zDc M_X5_passHour 52 (.invokevirtual 93) 3 55 := ⟨by decide +kernel, rfl⟩
theorem d_X5_passHour_55 : zDj M_X5_passHour 55 (.ifCond .eq 13) 13 58 68 := ⟨by decide +kernel, rfl, by decide⟩
theorem d_X5_passHour_58 : zDc M_X5_passHour 58 (.aload_n 0) 1 59 := ⟨by decide +kernel, rfl⟩
theorem d_X5_passHour_59 : zDc M_X5_passHour 59 (.getfield 21) 3 62 := ⟨by decide +kernel, rfl⟩
theorem d_X5_passHour_62 : zDc M_X5_passHour 62 (.iload_n 2) 1 63 := ⟨by decide +kernel, rfl⟩
theorem d_X5_passHour_63 : zDc M_X5_passHour 63 (.dup2) 1 64 := ⟨by decide +kernel, rfl⟩
theorem d_X5_passHour_64 : zDc M_X5_passHour 64 (.iaload) 1 65 := ⟨by decide +kernel, rfl⟩
theorem d_X5_passHour_65 : zDc M_X5_passHour 65 (.iconst 1) 1 66 := ⟨by decide +kernel, rfl⟩
theorem d_X5_passHour_66 : zDc M_X5_passHour 66 (.iadd) 1 67 := ⟨by decide +kernel, rfl⟩
theorem d_X5_passHour_67 : zDc M_X5_passHour 67 (.iastore) 1 68 := ⟨by decide +kernel, rfl⟩
theorem d_X5_passHour_68 : zDc M_X5_passHour 68 (.iinc 2 1) 3 71 := ⟨by decide +kernel, rfl⟩
theorem d_X5_passHour_71 : zDj M_X5_passHour 71 (.goto (-32)) (-32) 74 39 := ⟨by decide +kernel, rfl, by decide⟩
theorem d_X5_passHour_74 : zDc M_X5_passHour 74 (.aload_n 0) 1 75 := ⟨by decide +kernel, rfl⟩
theorem d_X5_passHour_75 : zDc M_X5_passHour 75 (.dup) 1 76 := ⟨by decide +kernel, rfl⟩
theorem d_X5_passHour_76 : zDc M_X5_passHour 76 (.getfield 58) 3 79 := ⟨by decide +kernel, rfl⟩
theorem d_X5_passHour_79 : zDc M_X5_passHour 79 (.iconst 1) 1 80 := ⟨by decide +kernel, rfl⟩
theorem d_X5_passHour_80 : zDc M_X5_passHour 80 (.iadd) 1 81 := ⟨by decide +kernel, rfl⟩
theorem d_X5_passHour_81 : zDc M_X5_passHour 81 (.putfield 58) 3 84 := ⟨by decide +kernel, rfl⟩
theorem d_X5_passHour_84 : zDc M_X5_passHour 84 (.return_) 1 85 := ⟨by decide +kernel, rfl⟩
def f_X5_passHour (a0 : Nat) (a1 : Int32) (h0 : zHp) : Option (Unit × zHp) :=
  zbd (zcv 5 a0 h0 (f_X5_bearClouds a0 h0)) (fun v2 h1 =>
  zbd (zcv 5 a0 h1 (f_X5_drift a0 a1 h1)) (fun v4 h3 =>
  zbd (zcv 5 a0 h3 (f_X5_growClouds a0 h3)) (fun v6 h5 =>
  zob (zgI h5 a0 5 13) (fun v7 =>
  zbd (α := Unit) (
  if v7 = 4 then
  some ((), h5)
  else
  zbd (zcv 5 a0 h5 (f_X5_joinClouds a0 h5)) (fun v9 h8 =>
  some ((), h8))) (fun e10 h11 =>
  zbd (zcv 5 a0 h11 (f_X5_rainDown a0 h11)) (fun v13 h12 =>
  zbd (zcv 5 a0 h12 (f_X5_giveOut a0 h12)) (fun v15 h14 =>
  zbd (zcv 5 a0 h14 (f_X5_markChildren a0 h14)) (fun v17 h16 =>
  zbd (
  zlp (σ := Int32) (β := Int32) zLF (fun s18 h19 =>
  zob (zgR h19 a0 5 14) (fun v22 =>
  zob (zgI h19 v22 6 14) (fun v23 =>
  if v23 ≤ s18 then
  some ((.inr s18), h19)
  else
  zbd (zcv 5 a0 h19 (f_X5_isUp a0 s18 h19)) (fun v25 h24 =>
  if v25 = 0 then
  some ((.inl (s18 + 1)), h24)
  else
  zob (zgR h24 a0 5 3) (fun v26 =>
  zob (zaI 0 h24 v26 s18) (fun v27 =>
  zob (zsI 0 h24 v26 s18 (v27 + 1)) (fun h28 =>
  some ((.inl (s18 + 1)), h28)))))))) 0 h16) (fun e20 h21 =>
  zob (zgI h21 a0 5 11) (fun v29 =>
  zob (zpV h21 a0 5 11 (.int (v29 + 1))) (fun h30 =>
  some ((), h30))))))))))))
set_option maxRecDepth 100000 in
set_option maxHeartbeats 4000000 in
theorem t_X5_passHour (a0 : Nat) (a1 : Int32) (h0 : zHp) : ∀ (r : Unit) (h' : zHp), f_X5_passHour a0 a1 h0 = some (r, h') → zCt yX5_passHour (.code yX5_passHour cX5_passHour 3 none) 5 161 0 0 [.ref a0, .int a1] h0 (none) h' := by
  refine zct_of M_X5_passHour yX5_passHour (by decide) rfl rfl [.ref a0, .int a1] h0 (Nat.le_of_ble_eq_true rfl) (fun _ => none) (fun X => ?_)
  show zG X M_X5_passHour (0, 0) 0 [(0, .ref a0), (1, .int a1)] [] h0 (f_X5_passHour a0 a1 h0) (fun (_ : Unit) h' => zKe X (none) h')
  unfold f_X5_passHour
  refine zg_aload_n 0 rfl d_X5_passHour_0 ?_
  refine zg_cVv (b := a0) (As := []) (rest := []) (0, 0) d_X5_passHour_1 zc_5 rfl cw_X5_158 wi_X5_bearClouds ws_X5_bearClouds rfl rfl (Nat.le_of_ble_eq_true rfl) (by decide) (by decide) ⟨by decide, by decide⟩ rfl (t_X5_bearClouds a0 h0) (fun v2 h1 => ?_)
  refine zg_aload_n 0 rfl d_X5_passHour_4 ?_
  refine zg_iload_n 1 rfl d_X5_passHour_5 ?_
  refine zg_cVv (b := a0) (As := [.int a1]) (rest := []) (0, 0) d_X5_passHour_6 zc_5 rfl cw_X5_161 wi_X5_drift ws_X5_drift rfl rfl (Nat.le_of_ble_eq_true rfl) (by decide) (by decide) ⟨by decide, by decide⟩ rfl (t_X5_drift a0 a1 h1) (fun v4 h3 => ?_)
  refine zg_aload_n 0 rfl d_X5_passHour_9 ?_
  refine zg_cVv (b := a0) (As := []) (rest := []) (0, 0) d_X5_passHour_10 zc_5 rfl cw_X5_165 wi_X5_growClouds ws_X5_growClouds rfl rfl (Nat.le_of_ble_eq_true rfl) (by decide) (by decide) ⟨by decide, by decide⟩ rfl (t_X5_growClouds a0 h3) (fun v6 h5 => ?_)
  refine zg_aload_n 0 rfl d_X5_passHour_13 ?_
  refine zg_getI d_X5_passHour_14 zc_5 (by decide) fl_X5_61 (fun v7 => ?_)
  refine zg_iconst 4 rfl d_X5_passHour_17 ?_
  refine zg_bd (E := 25) (el := (fun (e10 : Unit) => [(0, .ref a0), (1, .int a1)])) (es := (fun (e10 : Unit) => [])) ?_ (fun e10 h11 => ?_)
  · refine zg_icmp_eq d_X5_passHour_18 ?_ ?_
    · exact zg_finK (E := 0) [0, 1] rfl rfl (fun q => q)
    · refine zg_aload_n 0 rfl d_X5_passHour_21 ?_
      refine zg_cVv (b := a0) (As := []) (rest := []) (0, 0) d_X5_passHour_22 zc_5 rfl cw_X5_168 wi_X5_joinClouds ws_X5_joinClouds rfl rfl (Nat.le_of_ble_eq_true rfl) (by decide) (by decide) ⟨by decide, by decide⟩ rfl (t_X5_joinClouds a0 h5) (fun v9 h8 => ?_)
      exact zg_finK (E := 0) [0, 1] rfl rfl (fun q => q)
  · refine zg_aload_n 0 rfl d_X5_passHour_25 ?_
    refine zg_cVv (b := a0) (As := []) (rest := []) (0, 0) d_X5_passHour_26 zc_5 rfl cw_X5_171 wi_X5_rainDown ws_X5_rainDown rfl rfl (Nat.le_of_ble_eq_true rfl) (by decide) (by decide) ⟨by decide, by decide⟩ rfl (t_X5_rainDown a0 h11) (fun v13 h12 => ?_)
    refine zg_aload_n 0 rfl d_X5_passHour_29 ?_
    refine zg_cVv (b := a0) (As := []) (rest := []) (0, 0) d_X5_passHour_30 zc_5 rfl cw_X5_174 wi_X5_giveOut ws_X5_giveOut rfl rfl (Nat.le_of_ble_eq_true rfl) (by decide) (by decide) ⟨by decide, by decide⟩ rfl (t_X5_giveOut a0 h12) (fun v15 h14 => ?_)
    refine zg_aload_n 0 rfl d_X5_passHour_33 ?_
    refine zg_cVv (b := a0) (As := []) (rest := []) (0, 0) d_X5_passHour_34 zc_5 rfl cw_X5_177 wi_X5_markChildren ws_X5_markChildren rfl rfl (Nat.le_of_ble_eq_true rfl) (by decide) (by decide) ⟨by decide, by decide⟩ rfl (t_X5_markChildren a0 h14) (fun v17 h16 => ?_)
    refine zg_iconst 0 rfl d_X5_passHour_37 ?_
    refine zg_istore_n [(2, .int 0), (0, .ref a0), (1, .int a1)] d_X5_passHour_38 rfl (by decide) rfl ?_
    refine zg_bd (E := 74) (el := (fun (e20 : Int32) => [(0, .ref a0), (1, .int a1), (2, .int e20)])) (es := fun _ => []) (zg_sub [1, 2, 0] rfl (zg_lp (el := (fun (s18 : Int32) => [(0, .ref a0), (1, .int a1), (2, .int s18)])) (fun s18 h19 => ?_) 0 h16)) (fun e20 h21 => ?_)
    · refine zg_iload_n 2 rfl d_X5_passHour_39 ?_
      refine zg_aload_n 0 rfl d_X5_passHour_40 ?_
      refine zg_getR d_X5_passHour_41 zc_5 (by decide) fl_X5_50 (fun v22 => ?_)
      refine zg_getI d_X5_passHour_44 zc_6 (by decide) fl_X5_90 (fun v23 => ?_)
      refine zg_icmp_ge d_X5_passHour_47 ?_ ?_
      · exact zg_finK (E := 0) [0, 1, 2] rfl rfl (fun q => q)
      · refine zg_aload_n 0 rfl d_X5_passHour_50 ?_
        refine zg_iload_n 2 rfl d_X5_passHour_51 ?_
        refine zg_cVi (b := a0) (As := [.int s18]) (rest := []) (0, 0) d_X5_passHour_52 zc_5 rfl cw_X5_93 wi_X5_isUp ws_X5_isUp rfl rfl (Nat.le_of_ble_eq_true rfl) (by decide) (by decide) ⟨by decide, by decide⟩ rfl (t_X5_isUp a0 s18 h19) (fun v25 h24 => ?_)
        refine zg_if_eq d_X5_passHour_55 ?_ ?_
        · refine zg_iinc 2 (s18 + 1) [(2, .int (s18 + 1)), (0, .ref a0), (1, .int a1)] d_X5_passHour_68 rfl rfl (by decide) rfl ?_
          refine zg_goto d_X5_passHour_71 ?_
          exact zg_finK (E := 0) [1, 2, 0] rfl rfl (fun q => q)
        · refine zg_aload_n 0 rfl d_X5_passHour_58 ?_
          refine zg_getR d_X5_passHour_59 zc_5 (by decide) fl_X5_21 (fun v26 => ?_)
          refine zg_iload_n 2 rfl d_X5_passHour_62 ?_
          refine zg_dup2 rfl rfl d_X5_passHour_63 ?_
          refine zg_ald0 d_X5_passHour_64 (fun v27 => ?_)
          refine zg_iconst 1 rfl d_X5_passHour_65 ?_
          refine zg_iadd d_X5_passHour_66 ?_
          refine zg_ast0 d_X5_passHour_67 (fun h28 => ?_)
          refine zg_iinc 2 (s18 + 1) [(2, .int (s18 + 1)), (0, .ref a0), (1, .int a1)] d_X5_passHour_68 rfl rfl (by decide) rfl ?_
          refine zg_goto d_X5_passHour_71 ?_
          exact zg_finK (E := 0) [1, 2, 0] rfl rfl (fun q => q)
    · refine zg_aload_n 0 rfl d_X5_passHour_74 ?_
      refine zg_dup rfl d_X5_passHour_75 ?_
      refine zg_getI d_X5_passHour_76 zc_5 (by decide) fl_X5_58 (fun v29 => ?_)
      refine zg_iconst 1 rfl d_X5_passHour_79 ?_
      refine zg_iadd d_X5_passHour_80 ?_
      refine zg_putV d_X5_passHour_81 zc_5 (by decide) fl_X5_58 rfl rfl rfl (fun h30 => ?_)
      exact zg_vretK d_X5_passHour_84 rfl ⟨Nat.le_of_ble_eq_true rfl, Nat.le_of_ble_eq_true rfl⟩ (fun q => q)

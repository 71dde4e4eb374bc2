theorem ml_X0_3 : Cond.methodLink RX0 3 objectInit ∈ zT := zw_of _ 482 (by decide +kernel) (by decide +kernel)
theorem ac_0 : Cond.arrayClass .int ∈ zT := zw_of _ 192 (by decide +kernel) (by decide +kernel)
theorem ml_X2_3 : Cond.methodLink RX2 3 objectInit ∈ zT := zw_of _ 169 (by decide +kernel) (by decide +kernel)
theorem ac_3 : Cond.arrayClass .long ∈ zT := zw_of _ 193 (by decide +kernel) (by decide +kernel)
theorem ml_X3_3 : Cond.methodLink RX3 3 objectInit ∈ zT := zw_of _ 505 (by decide +kernel) (by decide +kernel)
theorem ac_2 : Cond.arrayClass .boolean ∈ zT := zw_of _ 533 (by decide +kernel) (by decide +kernel)
theorem ml_X5_3 : Cond.methodLink RX5 3 objectInit ∈ zT := zw_of _ 399 (by decide +kernel) (by decide +kernel)
theorem cl_X5_42 : Cond.classLink RX5 42 "[[I" ∈ zT := zw_of _ 400 (by decide +kernel) (by decide +kernel)
theorem ml_X6_3 : Cond.methodLink RX6 3 objectInit ∈ zT := zw_of _ 163 (by decide +kernel) (by decide +kernel)
theorem fl_X6_15 : Cond.fieldLink RX6 15 (TX6 1).1 (TX6 1).2.1 (TX6 1).2.2.1 ∈ zT := zw_of _ 197 (by decide +kernel) (by decide +kernel)
theorem fl_X6_18 : Cond.fieldLink RX6 18 (TX6 2).1 (TX6 2).2.1 (TX6 2).2.2.1 ∈ zT := zw_of _ 200 (by decide +kernel) (by decide +kernel)
theorem fl_X6_21 : Cond.fieldLink RX6 21 (TX6 3).1 (TX6 3).2.1 (TX6 3).2.2.1 ∈ zT := zw_of _ 204 (by decide +kernel) (by decide +kernel)
theorem fl_X6_24 : Cond.fieldLink RX6 24 (TX6 4).1 (TX6 4).2.1 (TX6 4).2.2.1 ∈ zT := zw_of _ 208 (by decide +kernel) (by decide +kernel)
theorem fl_X6_27 : Cond.fieldLink RX6 27 (TX6 5).1 (TX6 5).2.1 (TX6 5).2.2.1 ∈ zT := zw_of _ 211 (by decide +kernel) (by decide +kernel)
theorem fl_X6_30 : Cond.fieldLink RX6 30 (TX6 6).1 (TX6 6).2.1 (TX6 6).2.2.1 ∈ zT := zw_of _ 214 (by decide +kernel) (by decide +kernel)
theorem fl_X6_33 : Cond.fieldLink RX6 33 (TX6 7).1 (TX6 7).2.1 (TX6 7).2.2.1 ∈ zT := zw_of _ 217 (by decide +kernel) (by decide +kernel)
theorem fl_X6_36 : Cond.fieldLink RX6 36 (TX6 8).1 (TX6 8).2.1 (TX6 8).2.2.1 ∈ zT := zw_of _ 220 (by decide +kernel) (by decide +kernel)
theorem fl_X6_39 : Cond.fieldLink RX6 39 (TX6 9).1 (TX6 9).2.1 (TX6 9).2.2.1 ∈ zT := zw_of _ 223 (by decide +kernel) (by decide +kernel)
theorem fl_X6_42 : Cond.fieldLink RX6 42 (TX6 10).1 (TX6 10).2.1 (TX6 10).2.2.1 ∈ zT := zw_of _ 226 (by decide +kernel) (by decide +kernel)
theorem fl_X6_45 : Cond.fieldLink RX6 45 (TX6 11).1 (TX6 11).2.1 (TX6 11).2.2.1 ∈ zT := zw_of _ 231 (by decide +kernel) (by decide +kernel)
theorem cl_X6_48 : Cond.classLink RX6 48 RX2 ∈ zT := zw_of _ 164 (by decide +kernel) (by decide +kernel)
theorem it_X2 : Cond.instantiable RX2 6 ∈ zT := zw_of _ 165 (by decide +kernel) (by decide +kernel)
def zfs_X2 : List Value := [.null, .null, .null, .null, .int 0, .int 0]
theorem zfs_X2_ok : ∀ j, j < 6 → defaultValue (tyX2 j) = vp_V zfs_X2 j := by decide +kernel
theorem cd_X2_init : Cond.code yX2_init cX2_init 1 none ∈ zT := zw_of _ 168 (by decide +kernel) (by decide +kernel)
theorem cn_X6_50 : zCn RX6 50 yX2_init cX2_init 1 none 0 := ⟨fun _ q => q.2.1, ni_X2, cd_X2_init, by decide, by decide, by decide +kernel⟩
theorem wi_X2_init : Cond.instanceMethod yX2_init ∈ zT := zw_of _ 167 (by decide +kernel) (by decide +kernel)
theorem ml_X1_3 : Cond.methodLink RX1 3 objectInit ∈ zT := zw_of _ 539 (by decide +kernel) (by decide +kernel)
theorem cl_X1_9 : Cond.classLink RX1 9 "CloudSchool$Sky" ∈ zT := zw_of _ 540 (by decide +kernel) (by decide +kernel)
theorem fl_X1_11 : Cond.fieldLink RX1 11 (TX1 0).1 (TX1 0).2.1 (TX1 0).2.2.1 ∈ zT := zw_of _ 543 (by decide +kernel) (by decide +kernel)
theorem fl_X1_21 : Cond.fieldLink RX1 21 (TX1 3).1 (TX1 3).2.1 (TX1 3).2.2.1 ∈ zT := zw_of _ 546 (by decide +kernel) (by decide +kernel)
theorem it_X5 : Cond.instantiable RX5 16 ∈ zT := zw_of _ 395 (by decide +kernel) (by decide +kernel)
def zfs_X5 : List Value := [.null, .null, .null, .null, .null, .null, .null, .null, .null, .null, .null, .int 0, .int 0, .int 0, .null, .null]
theorem zfs_X5_ok : ∀ j, j < 16 → defaultValue (tyX5 j) = vp_V zfs_X5 j := by decide +kernel
theorem ml_X1_33 : Cond.methodLink RX1 33 yX5_init ∈ zT := zw_of _ 542 (by decide +kernel) (by decide +kernel)
theorem cd_X5_init : Cond.code yX5_init cX5_init 2 none ∈ zT := zw_of _ 398 (by decide +kernel) (by decide +kernel)
theorem cw_X1_33 : zCw RX1 33 yX5_init cX5_init 2 none 1 := ⟨ml_X1_33, ni_X5, cd_X5_init, by decide, by decide, by decide +kernel⟩
theorem wi_X5_init : Cond.instanceMethod yX5_init ∈ zT := zw_of _ 397 (by decide +kernel) (by decide +kernel)
abbrev M_X0_init : zMt := (RX0, cX0_init, 1, 1, 60, none, "<init>", 4, 80)
theorem d_X0_init_0 : zDc M_X0_init 0 (.aload_n 0) 1 1 := ⟨by decide +kernel, rfl⟩
theorem d_X0_init_1 : zDc M_X0_init 1 (.invokespecial 3) 3 4 := ⟨by decide +kernel, rfl⟩
theorem d_X0_init_4 : zDc M_X0_init 4 (.aload_n 0) 1 5 := ⟨by decide +kernel, rfl⟩
theorem d_X0_init_5 : zDc M_X0_init 5 (.bipush 20) 2 7 := ⟨by decide +kernel, rfl⟩
theorem d_X0_init_7 : zDc M_X0_init 7 (.newarray .int) 2 9 := ⟨by decide +kernel, rfl⟩
theorem d_X0_init_9 : zDc M_X0_init 9 (.putfield 9) 3 12 := ⟨by decide +kernel, rfl⟩
theorem d_X0_init_12 : zDc M_X0_init 12 (.aload_n 0) 1 13 := ⟨by decide +kernel, rfl⟩
theorem d_X0_init_13 : zDc M_X0_init 13 (.bipush 20) 2 15 := ⟨by decide +kernel, rfl⟩
theorem d_X0_init_15 : zDc M_X0_init 15 (.newarray .int) 2 17 := ⟨by decide +kernel, rfl⟩
theorem d_X0_init_17 : zDc M_X0_init 17 (.putfield 15) 3 20 := ⟨by decide +kernel, rfl⟩
theorem d_X0_init_20 : zDc M_X0_init 20 (.aload_n 0) 1 21 := ⟨by decide +kernel, rfl⟩
theorem d_X0_init_21 : zDc M_X0_init 21 (.bipush 20) 2 23 := ⟨by decide +kernel, rfl⟩
theorem d_X0_init_23 : zDc M_X0_init 23 (.newarray .int) 2 25 := ⟨by decide +kernel, rfl⟩
theorem d_X0_init_25 : zDc M_X0_init 25 (.putfield 18) 3 28 := ⟨by decide +kernel, rfl⟩
theorem d_X0_init_28 : zDc M_X0_init 28 (.aload_n 0) 1 29 := ⟨by decide +kernel, rfl⟩
theorem d_X0_init_29 : zDc M_X0_init 29 (.bipush 20) 2 31 := ⟨by decide +kernel, rfl⟩
theorem d_X0_init_31 : zDc M_X0_init 31 (.newarray .int) 2 33 := ⟨by decide +kernel, rfl⟩
theorem d_X0_init_33 : zDc M_X0_init 33 (.putfield 21) 3 36 := ⟨by decide +kernel, rfl⟩
theorem d_X0_init_36 : zDc M_X0_init 36 (.aload_n 0) 1 37 := ⟨by decide +kernel, rfl⟩
theorem d_X0_init_37 : zDc M_X0_init 37 (.iconst 0) 1 38 := ⟨by decide +kernel, rfl⟩
theorem d_X0_init_38 : zDc M_X0_init 38 (.putfield 24) 3 41 := ⟨by decide +kernel, rfl⟩
theorem d_X0_init_41 : zDc M_X0_init 41 (.return_) 1 42 := ⟨by decide +kernel, rfl⟩
def f_X0_init (a0 : Nat) (h0 : zHp) : Option (Unit × zHp) :=
  zbd (znA h0 0 (20, .inl (fun _ => 0))) (fun v2 h1 =>
  zob (zpV h1 a0 0 0 (.ref v2)) (fun h3 =>
  zbd (znA h3 0 (20, .inl (fun _ => 0))) (fun v5 h4 =>
  zob (zpV h4 a0 0 1 (.ref v5)) (fun h6 =>
  zbd (znA h6 0 (20, .inl (fun _ => 0))) (fun v8 h7 =>
  zob (zpV h7 a0 0 2 (.ref v8)) (fun h9 =>
  zbd (znA h9 0 (20, .inl (fun _ => 0))) (fun v11 h10 =>
  zob (zpV h10 a0 0 3 (.ref v11)) (fun h12 =>
  zob (zpV h12 a0 0 4 (.int 0)) (fun h13 =>
  some ((), h13))))))))))
set_option maxRecDepth 100000 in
set_option maxHeartbeats 4000000 in
theorem t_X0_init (a0 : Nat) (h0 : zHp) : ∀ (r : Unit) (h' : zHp), f_X0_init a0 h0 = some (r, h') → zCt yX0_init (.code yX0_init cX0_init 1 none) 1 60 4 80 [.ref a0] h0 (none) h' := by
  refine zct_of M_X0_init yX0_init (by decide) rfl rfl [.ref a0] h0 (Nat.le_of_ble_eq_true rfl) (fun _ => none) (fun X => ?_)
  show zG X M_X0_init (0, 0) 0 [(0, .ref a0)] [] h0 (f_X0_init a0 h0) (fun (_ : Unit) h' => zKe X (none) h')
  unfold f_X0_init
  refine zg_aload_n 0 rfl d_X0_init_0 ?_
  refine zg_obj d_X0_init_1 ml_X0_3 zw_obi zw_obc (by decide) (Nat.le_of_ble_eq_true rfl) ?_
  refine zg_aload_n 0 rfl d_X0_init_4 ?_
  refine zg_bipush 20 rfl d_X0_init_5 ?_
  refine zg_newa (t := 0) (1, 20) d_X0_init_7 ac_0 rfl (fun _ => rfl) (fun _ _ q => q) (fun _ => rfl) (by decide) rfl (by decide) ⟨by decide, by decide⟩ rfl (fun v2 h1 => ?_)
  refine zg_putF d_X0_init_9 zc_0 (by decide) fl_X0_9 rfl rfl rfl rfl rfl (fun h3 => ?_)
  refine zg_aload_n 0 rfl d_X0_init_12 ?_
  refine zg_bipush 20 rfl d_X0_init_13 ?_
  refine zg_newa (t := 0) (2, 40) d_X0_init_15 ac_0 rfl (fun _ => rfl) (fun _ _ q => q) (fun _ => rfl) (by decide) rfl (by decide) ⟨by decide, by decide⟩ rfl (fun v5 h4 => ?_)
  refine zg_putF d_X0_init_17 zc_0 (by decide) fl_X0_15 rfl rfl rfl rfl rfl (fun h6 => ?_)
  refine zg_aload_n 0 rfl d_X0_init_20 ?_
  refine zg_bipush 20 rfl d_X0_init_21 ?_
  refine zg_newa (t := 0) (3, 60) d_X0_init_23 ac_0 rfl (fun _ => rfl) (fun _ _ q => q) (fun _ => rfl) (by decide) rfl (by decide) ⟨by decide, by decide⟩ rfl (fun v8 h7 => ?_)
  refine zg_putF d_X0_init_25 zc_0 (by decide) fl_X0_18 rfl rfl rfl rfl rfl (fun h9 => ?_)
  refine zg_aload_n 0 rfl d_X0_init_28 ?_
  refine zg_bipush 20 rfl d_X0_init_29 ?_
  refine zg_newa (t := 0) (4, 80) d_X0_init_31 ac_0 rfl (fun _ => rfl) (fun _ _ q => q) (fun _ => rfl) (by decide) rfl (by decide) ⟨by decide, by decide⟩ rfl (fun v11 h10 => ?_)
  refine zg_putF d_X0_init_33 zc_0 (by decide) fl_X0_21 rfl rfl rfl rfl rfl (fun h12 => ?_)
  refine zg_aload_n 0 rfl d_X0_init_36 ?_
  refine zg_iconst 0 rfl d_X0_init_37 ?_
  refine zg_putV d_X0_init_38 zc_0 (by decide) fl_X0_24 rfl rfl rfl (fun h13 => ?_)
  exact zg_vretK d_X0_init_41 rfl ⟨Nat.le_of_ble_eq_true rfl, Nat.le_of_ble_eq_true rfl⟩ (fun q => q)
abbrev M_X2_init : zMt := (RX2, cX2_init, 1, 1, 60, none, "<init>", 4, 134)
theorem d_X2_init_0 : zDc M_X2_init 0 (.aload_n 0) 1 1 := ⟨by decide +kernel, rfl⟩
theorem d_X2_init_1 : zDc M_X2_init 1 (.invokespecial 3) 3 4 := ⟨by decide +kernel, rfl⟩
theorem d_X2_init_4 : zDc M_X2_init 4 (.aload_n 0) 1 5 := ⟨by decide +kernel, rfl⟩
theorem d_X2_init_5 : zDc M_X2_init 5 (.bipush 64) 2 7 := ⟨by decide +kernel, rfl⟩
theorem d_X2_init_7 : zDc M_X2_init 7 (.newarray .int) 2 9 := ⟨by decide +kernel, rfl⟩
theorem d_X2_init_9 : zDc M_X2_init 9 (.putfield 9) 3 12 := ⟨by decide +kernel, rfl⟩
theorem d_X2_init_12 : zDc M_X2_init 12 (.aload_n 0) 1 13 := ⟨by decide +kernel, rfl⟩
theorem d_X2_init_13 : zDc M_X2_init 13 (.iconst 3) 1 14 := ⟨by decide +kernel, rfl⟩
theorem d_X2_init_14 : zDc M_X2_init 14 (.newarray .int) 2 16 := ⟨by decide +kernel, rfl⟩
theorem d_X2_init_16 : zDc M_X2_init 16 (.putfield 15) 3 19 := ⟨by decide +kernel, rfl⟩
theorem d_X2_init_19 : zDc M_X2_init 19 (.aload_n 0) 1 20 := ⟨by decide +kernel, rfl⟩
theorem d_X2_init_20 : zDc M_X2_init 20 (.iconst 3) 1 21 := ⟨by decide +kernel, rfl⟩
theorem d_X2_init_21 : zDc M_X2_init 21 (.newarray .int) 2 23 := ⟨by decide +kernel, rfl⟩
theorem d_X2_init_23 : zDc M_X2_init 23 (.putfield 18) 3 26 := ⟨by decide +kernel, rfl⟩
theorem d_X2_init_26 : zDc M_X2_init 26 (.aload_n 0) 1 27 := ⟨by decide +kernel, rfl⟩
theorem d_X2_init_27 : zDc M_X2_init 27 (.bipush 64) 2 29 := ⟨by decide +kernel, rfl⟩
theorem d_X2_init_29 : zDc M_X2_init 29 (.newarray .long) 2 31 := ⟨by decide +kernel, rfl⟩
theorem d_X2_init_31 : zDc M_X2_init 31 (.putfield 21) 3 34 := ⟨by decide +kernel, rfl⟩
theorem d_X2_init_34 : zDc M_X2_init 34 (.aload_n 0) 1 35 := ⟨by decide +kernel, rfl⟩
theorem d_X2_init_35 : zDc M_X2_init 35 (.iconst 0) 1 36 := ⟨by decide +kernel, rfl⟩
theorem d_X2_init_36 : zDc M_X2_init 36 (.putfield 25) 3 39 := ⟨by decide +kernel, rfl⟩
theorem d_X2_init_39 : zDc M_X2_init 39 (.aload_n 0) 1 40 := ⟨by decide +kernel, rfl⟩
theorem d_X2_init_40 : zDc M_X2_init 40 (.iconst 0) 1 41 := ⟨by decide +kernel, rfl⟩
theorem d_X2_init_41 : zDc M_X2_init 41 (.putfield 29) 3 44 := ⟨by decide +kernel, rfl⟩
theorem d_X2_init_44 : zDc M_X2_init 44 (.return_) 1 45 := ⟨by decide +kernel, rfl⟩
def f_X2_init (a0 : Nat) (h0 : zHp) : Option (Unit × zHp) :=
  zbd (znA h0 0 (64, .inl (fun _ => 0))) (fun v2 h1 =>
  zob (zpV h1 a0 2 0 (.ref v2)) (fun h3 =>
  zbd (znA h3 0 (3, .inl (fun _ => 0))) (fun v5 h4 =>
  zob (zpV h4 a0 2 1 (.ref v5)) (fun h6 =>
  zbd (znA h6 0 (3, .inl (fun _ => 0))) (fun v8 h7 =>
  zob (zpV h7 a0 2 2 (.ref v8)) (fun h9 =>
  zbd (znA h9 3 (64, .inr (.inl (fun _ => 0)))) (fun v11 h10 =>
  zob (zpV h10 a0 2 3 (.ref v11)) (fun h12 =>
  zob (zpV h12 a0 2 4 (.int 0)) (fun h13 =>
  zob (zpV h13 a0 2 5 (.int 0)) (fun h14 =>
  some ((), h14)))))))))))
set_option maxRecDepth 100000 in
set_option maxHeartbeats 4000000 in
theorem t_X2_init (a0 : Nat) (h0 : zHp) : ∀ (r : Unit) (h' : zHp), f_X2_init a0 h0 = some (r, h') → zCt yX2_init (.code yX2_init cX2_init 1 none) 1 60 4 134 [.ref a0] h0 (none) h' := by
  refine zct_of M_X2_init yX2_init (by decide) rfl rfl [.ref a0] h0 (Nat.le_of_ble_eq_true rfl) (fun _ => none) (fun X => ?_)
  show zG X M_X2_init (0, 0) 0 [(0, .ref a0)] [] h0 (f_X2_init a0 h0) (fun (_ : Unit) h' => zKe X (none) h')
  unfold f_X2_init
  refine zg_aload_n 0 rfl d_X2_init_0 ?_
  refine zg_obj d_X2_init_1 ml_X2_3 zw_obi zw_obc (by decide) (Nat.le_of_ble_eq_true rfl) ?_
  refine zg_aload_n 0 rfl d_X2_init_4 ?_
  refine zg_bipush 64 rfl d_X2_init_5 ?_
  refine zg_newa (t := 0) (1, 64) d_X2_init_7 ac_0 rfl (fun _ => rfl) (fun _ _ q => q) (fun _ => rfl) (by decide) rfl (by decide) ⟨by decide, by decide⟩ rfl (fun v2 h1 => ?_)
  refine zg_putF d_X2_init_9 zc_2 (by decide) fl_X2_9 rfl rfl rfl rfl rfl (fun h3 => ?_)
  refine zg_aload_n 0 rfl d_X2_init_12 ?_
  refine zg_iconst 3 rfl d_X2_init_13 ?_
  refine zg_newa (t := 0) (2, 67) d_X2_init_14 ac_0 rfl (fun _ => rfl) (fun _ _ q => q) (fun _ => rfl) (by decide) rfl (by decide) ⟨by decide, by decide⟩ rfl (fun v5 h4 => ?_)
  refine zg_putF d_X2_init_16 zc_2 (by decide) fl_X2_15 rfl rfl rfl rfl rfl (fun h6 => ?_)
  refine zg_aload_n 0 rfl d_X2_init_19 ?_
  refine zg_iconst 3 rfl d_X2_init_20 ?_
  refine zg_newa (t := 0) (3, 70) d_X2_init_21 ac_0 rfl (fun _ => rfl) (fun _ _ q => q) (fun _ => rfl) (by decide) rfl (by decide) ⟨by decide, by decide⟩ rfl (fun v8 h7 => ?_)
  refine zg_putF d_X2_init_23 zc_2 (by decide) fl_X2_18 rfl rfl rfl rfl rfl (fun h9 => ?_)
  refine zg_aload_n 0 rfl d_X2_init_26 ?_
  refine zg_bipush 64 rfl d_X2_init_27 ?_
  refine zg_newa (t := 3) (4, 134) d_X2_init_29 ac_3 rfl (fun _ => rfl) (fun _ _ q => q) (fun _ => rfl) (by decide) rfl (by decide) ⟨by decide, by decide⟩ rfl (fun v11 h10 => ?_)
  refine zg_putF d_X2_init_31 zc_2 (by decide) fl_X2_21 rfl rfl rfl rfl rfl (fun h12 => ?_)
  refine zg_aload_n 0 rfl d_X2_init_34 ?_
  refine zg_iconst 0 rfl d_X2_init_35 ?_
  refine zg_putV d_X2_init_36 zc_2 (by decide) fl_X2_25 rfl rfl rfl (fun h13 => ?_)
  refine zg_aload_n 0 rfl d_X2_init_39 ?_
  refine zg_iconst 0 rfl d_X2_init_40 ?_
  refine zg_putV d_X2_init_41 zc_2 (by decide) fl_X2_29 rfl rfl rfl (fun h14 => ?_)
  exact zg_vretK d_X2_init_44 rfl ⟨Nat.le_of_ble_eq_true rfl, Nat.le_of_ble_eq_true rfl⟩ (fun q => q)
abbrev M_X3_init : zMt := (RX3, cX3_init, 1, 1, 60, none, "<init>", 6, 144)
theorem d_X3_init_0 : zDc M_X3_init 0 (.aload_n 0) 1 1 := ⟨by decide +kernel, rfl⟩
theorem d_X3_init_1 : zDc M_X3_init 1 (.invokespecial 3) 3 4 := ⟨by decide +kernel, rfl⟩
theorem d_X3_init_4 : zDc M_X3_init 4 (.aload_n 0) 1 5 := ⟨by decide +kernel, rfl⟩
theorem d_X3_init_5 : zDc M_X3_init 5 (.bipush 24) 2 7 := ⟨by decide +kernel, rfl⟩
theorem d_X3_init_7 : zDc M_X3_init 7 (.newarray .int) 2 9 := ⟨by decide +kernel, rfl⟩
theorem d_X3_init_9 : zDc M_X3_init 9 (.putfield 9) 3 12 := ⟨by decide +kernel, rfl⟩
theorem d_X3_init_12 : zDc M_X3_init 12 (.aload_n 0) 1 13 := ⟨by decide +kernel, rfl⟩
theorem d_X3_init_13 : zDc M_X3_init 13 (.bipush 24) 2 15 := ⟨by decide +kernel, rfl⟩
theorem d_X3_init_15 : zDc M_X3_init 15 (.newarray .int) 2 17 := ⟨by decide +kernel, rfl⟩
theorem d_X3_init_17 : zDc M_X3_init 17 (.putfield 15) 3 20 := ⟨by decide +kernel, rfl⟩
theorem d_X3_init_20 : zDc M_X3_init 20 (.aload_n 0) 1 21 := ⟨by decide +kernel, rfl⟩
theorem d_X3_init_21 : zDc M_X3_init 21 (.bipush 24) 2 23 := ⟨by decide +kernel, rfl⟩
theorem d_X3_init_23 : zDc M_X3_init 23 (.newarray .int) 2 25 := ⟨by decide +kernel, rfl⟩
theorem d_X3_init_25 : zDc M_X3_init 25 (.putfield 18) 3 28 := ⟨by decide +kernel, rfl⟩
theorem d_X3_init_28 : zDc M_X3_init 28 (.aload_n 0) 1 29 := ⟨by decide +kernel, rfl⟩
theorem d_X3_init_29 : zDc M_X3_init 29 (.bipush 24) 2 31 := ⟨by decide +kernel, rfl⟩
theorem d_X3_init_31 : zDc M_X3_init 31 (.newarray .boolean) 2 33 := ⟨by decide +kernel, rfl⟩
theorem d_X3_init_33 : zDc M_X3_init 33 (.putfield 21) 3 36 := ⟨by decide +kernel, rfl⟩
theorem d_X3_init_36 : zDc M_X3_init 36 (.aload_n 0) 1 37 := ⟨by decide +kernel, rfl⟩
theorem d_X3_init_37 : zDc M_X3_init 37 (.bipush 24) 2 39 := ⟨by decide +kernel, rfl⟩
theorem d_X3_init_39 : zDc M_X3_init 39 (.newarray .int) 2 41 := ⟨by decide +kernel, rfl⟩
theorem d_X3_init_41 : zDc M_X3_init 41 (.putfield 25) 3 44 := ⟨by decide +kernel, rfl⟩
theorem d_X3_init_44 : zDc M_X3_init 44 (.aload_n 0) 1 45 := ⟨by decide +kernel, rfl⟩
theorem d_X3_init_45 : zDc M_X3_init 45 (.bipush 24) 2 47 := ⟨by decide +kernel, rfl⟩
theorem d_X3_init_47 : zDc M_X3_init 47 (.newarray .boolean) 2 49 := ⟨by decide +kernel, rfl⟩
theorem d_X3_init_49 : zDc M_X3_init 49 (.putfield 28) 3 52 := ⟨by decide +kernel, rfl⟩
theorem d_X3_init_52 : zDc M_X3_init 52 (.aload_n 0) 1 53 := ⟨by decide +kernel, rfl⟩
theorem d_X3_init_53 : zDc M_X3_init 53 (.iconst 0) 1 54 := ⟨by decide +kernel, rfl⟩
theorem d_X3_init_54 : zDc M_X3_init 54 (.putfield 31) 3 57 := ⟨by decide +kernel, rfl⟩
theorem d_X3_init_57 : zDc M_X3_init 57 (.aload_n 0) 1 58 := ⟨by decide +kernel, rfl⟩
theorem d_X3_init_58 : zDc M_X3_init 58 (.iconst (-1)) 1 59 := ⟨by decide +kernel, rfl⟩
theorem d_X3_init_59 : zDc M_X3_init 59 (.putfield 35) 3 62 := ⟨by decide +kernel, rfl⟩
theorem d_X3_init_62 : zDc M_X3_init 62 (.return_) 1 63 := ⟨by decide +kernel, rfl⟩
def f_X3_init (a0 : Nat) (h0 : zHp) : Option (Unit × zHp) :=
  zbd (znA h0 0 (24, .inl (fun _ => 0))) (fun v2 h1 =>
  zob (zpV h1 a0 3 0 (.ref v2)) (fun h3 =>
  zbd (znA h3 0 (24, .inl (fun _ => 0))) (fun v5 h4 =>
  zob (zpV h4 a0 3 1 (.ref v5)) (fun h6 =>
  zbd (znA h6 0 (24, .inl (fun _ => 0))) (fun v8 h7 =>
  zob (zpV h7 a0 3 2 (.ref v8)) (fun h9 =>
  zbd (znA h9 2 (24, .inl (fun _ => 0))) (fun v11 h10 =>
  zob (zpV h10 a0 3 3 (.ref v11)) (fun h12 =>
  zbd (znA h12 0 (24, .inl (fun _ => 0))) (fun v14 h13 =>
  zob (zpV h13 a0 3 4 (.ref v14)) (fun h15 =>
  zbd (znA h15 2 (24, .inl (fun _ => 0))) (fun v17 h16 =>
  zob (zpV h16 a0 3 5 (.ref v17)) (fun h18 =>
  zob (zpV h18 a0 3 6 (.int 0)) (fun h19 =>
  zob (zpV h19 a0 3 7 (.int (-1))) (fun h20 =>
  some ((), h20)))))))))))))))
set_option maxRecDepth 100000 in
set_option maxHeartbeats 4000000 in
theorem t_X3_init (a0 : Nat) (h0 : zHp) : ∀ (r : Unit) (h' : zHp), f_X3_init a0 h0 = some (r, h') → zCt yX3_init (.code yX3_init cX3_init 1 none) 1 60 6 144 [.ref a0] h0 (none) h' := by
  refine zct_of M_X3_init yX3_init (by decide) rfl rfl [.ref a0] h0 (Nat.le_of_ble_eq_true rfl) (fun _ => none) (fun X => ?_)
  show zG X M_X3_init (0, 0) 0 [(0, .ref a0)] [] h0 (f_X3_init a0 h0) (fun (_ : Unit) h' => zKe X (none) h')
  unfold f_X3_init
  refine zg_aload_n 0 rfl d_X3_init_0 ?_
  refine zg_obj d_X3_init_1 ml_X3_3 zw_obi zw_obc (by decide) (Nat.le_of_ble_eq_true rfl) ?_
  refine zg_aload_n 0 rfl d_X3_init_4 ?_
  refine zg_bipush 24 rfl d_X3_init_5 ?_
  refine zg_newa (t := 0) (1, 24) d_X3_init_7 ac_0 rfl (fun _ => rfl) (fun _ _ q => q) (fun _ => rfl) (by decide) rfl (by decide) ⟨by decide, by decide⟩ rfl (fun v2 h1 => ?_)
  refine zg_putF d_X3_init_9 zc_3 (by decide) fl_X3_9 rfl rfl rfl rfl rfl (fun h3 => ?_)
  refine zg_aload_n 0 rfl d_X3_init_12 ?_
  refine zg_bipush 24 rfl d_X3_init_13 ?_
  refine zg_newa (t := 0) (2, 48) d_X3_init_15 ac_0 rfl (fun _ => rfl) (fun _ _ q => q) (fun _ => rfl) (by decide) rfl (by decide) ⟨by decide, by decide⟩ rfl (fun v5 h4 => ?_)
  refine zg_putF d_X3_init_17 zc_3 (by decide) fl_X3_15 rfl rfl rfl rfl rfl (fun h6 => ?_)
  refine zg_aload_n 0 rfl d_X3_init_20 ?_
  refine zg_bipush 24 rfl d_X3_init_21 ?_
  refine zg_newa (t := 0) (3, 72) d_X3_init_23 ac_0 rfl (fun _ => rfl) (fun _ _ q => q) (fun _ => rfl) (by decide) rfl (by decide) ⟨by decide, by decide⟩ rfl (fun v8 h7 => ?_)
  refine zg_putF d_X3_init_25 zc_3 (by decide) fl_X3_18 rfl rfl rfl rfl rfl (fun h9 => ?_)
  refine zg_aload_n 0 rfl d_X3_init_28 ?_
  refine zg_bipush 24 rfl d_X3_init_29 ?_
  refine zg_newa (t := 2) (4, 96) d_X3_init_31 ac_2 rfl (fun _ => rfl) (fun _ _ q => q) (fun _ => rfl) (by decide) rfl (by decide) ⟨by decide, by decide⟩ rfl (fun v11 h10 => ?_)
  refine zg_putF d_X3_init_33 zc_3 (by decide) fl_X3_21 rfl rfl rfl rfl rfl (fun h12 => ?_)
  refine zg_aload_n 0 rfl d_X3_init_36 ?_
  refine zg_bipush 24 rfl d_X3_init_37 ?_
  refine zg_newa (t := 0) (5, 120) d_X3_init_39 ac_0 rfl (fun _ => rfl) (fun _ _ q => q) (fun _ => rfl) (by decide) rfl (by decide) ⟨by decide, by decide⟩ rfl (fun v14 h13 => ?_)
  refine zg_putF d_X3_init_41 zc_3 (by decide) fl_X3_25 rfl rfl rfl rfl rfl (fun h15 => ?_)
  refine zg_aload_n 0 rfl d_X3_init_44 ?_
  refine zg_bipush 24 rfl d_X3_init_45 ?_
  refine zg_newa (t := 2) (6, 144) d_X3_init_47 ac_2 rfl (fun _ => rfl) (fun _ _ q => q) (fun _ => rfl) (by decide) rfl (by decide) ⟨by decide, by decide⟩ rfl (fun v17 h16 => ?_)
  refine zg_putF d_X3_init_49 zc_3 (by decide) fl_X3_28 rfl rfl rfl rfl rfl (fun h18 => ?_)
  refine zg_aload_n 0 rfl d_X3_init_52 ?_
  refine zg_iconst 0 rfl d_X3_init_53 ?_
  refine zg_putV d_X3_init_54 zc_3 (by decide) fl_X3_31 rfl rfl rfl (fun h19 => ?_)
  refine zg_aload_n 0 rfl d_X3_init_57 ?_
  refine zg_iconst (-1) rfl d_X3_init_58 ?_
  refine zg_putV d_X3_init_59 zc_3 (by decide) fl_X3_35 rfl rfl rfl (fun h20 => ?_)
  exact zg_vretK d_X3_init_62 rfl ⟨Nat.le_of_ble_eq_true rfl, Nat.le_of_ble_eq_true rfl⟩ (fun q => q)
abbrev M_X5_init : zMt := (RX5, cX5_init, 2, 1, 60, none, "<init>", 18, 114)
theorem d_X5_init_0 : zDc M_X5_init 0 (.aload_n 0) 1 1 := ⟨by decide +kernel, rfl⟩
theorem d_X5_init_1 : zDc M_X5_init 1 (.invokespecial 3) 3 4 := ⟨by decide +kernel, rfl⟩
theorem d_X5_init_4 : zDc M_X5_init 4 (.aload_n 0) 1 5 := ⟨by decide +kernel, rfl⟩
theorem d_X5_init_5 : zDc M_X5_init 5 (.bipush 8) 2 7 := ⟨by decide +kernel, rfl⟩
theorem d_X5_init_7 : zDc M_X5_init 7 (.newarray .int) 2 9 := ⟨by decide +kernel, rfl⟩
theorem d_X5_init_9 : zDc M_X5_init 9 (.putfield 9) 3 12 := ⟨by decide +kernel, rfl⟩
theorem d_X5_init_12 : zDc M_X5_init 12 (.aload_n 0) 1 13 := ⟨by decide +kernel, rfl⟩
theorem d_X5_init_13 : zDc M_X5_init 13 (.bipush 8) 2 15 := ⟨by decide +kernel, rfl⟩
theorem d_X5_init_15 : zDc M_X5_init 15 (.newarray .int) 2 17 := ⟨by decide +kernel, rfl⟩
theorem d_X5_init_17 : zDc M_X5_init 17 (.putfield 15) 3 20 := ⟨by decide +kernel, rfl⟩
theorem d_X5_init_20 : zDc M_X5_init 20 (.aload_n 0) 1 21 := ⟨by decide +kernel, rfl⟩
theorem d_X5_init_21 : zDc M_X5_init 21 (.bipush 8) 2 23 := ⟨by decide +kernel, rfl⟩
theorem d_X5_init_23 : zDc M_X5_init 23 (.newarray .int) 2 25 := ⟨by decide +kernel, rfl⟩
theorem d_X5_init_25 : zDc M_X5_init 25 (.putfield 18) 3 28 := ⟨by decide +kernel, rfl⟩
theorem d_X5_init_28 : zDc M_X5_init 28 (.aload_n 0) 1 29 := ⟨by decide +kernel, rfl⟩
theorem d_X5_init_29 : zDc M_X5_init 29 (.bipush 8) 2 31 := ⟨by decide +kernel, rfl⟩
theorem d_X5_init_31 : zDc M_X5_init 31 (.newarray .int) 2 33 := ⟨by decide +kernel, rfl⟩
theorem d_X5_init_33 : zDc M_X5_init 33 (.putfield 21) 3 36 := ⟨by decide +kernel, rfl⟩
theorem d_X5_init_36 : zDc M_X5_init 36 (.aload_n 0) 1 37 := ⟨by decide +kernel, rfl⟩
theorem d_X5_init_37 : zDc M_X5_init 37 (.bipush 8) 2 39 := ⟨by decide +kernel, rfl⟩
theorem d_X5_init_39 : zDc M_X5_init 39 (.newarray .int) 2 41 := ⟨by decide +kernel, rfl⟩
theorem d_X5_init_41 : zDc M_X5_init 41 (.putfield 24) 3 44 := ⟨by decide +kernel, rfl⟩
theorem d_X5_init_44 : zDc M_X5_init 44 (.aload_n 0) 1 45 := ⟨by decide +kernel, rfl⟩
theorem d_X5_init_45 : zDc M_X5_init 45 (.bipush 8) 2 47 := ⟨by decide +kernel, rfl⟩
theorem d_X5_init_47 : zDc M_X5_init 47 (.newarray .int) 2 49 := ⟨by decide +kernel, rfl⟩
theorem d_X5_init_49 : zDc M_X5_init 49 (.putfield 27) 3 52 := ⟨by decide +kernel, rfl⟩
theorem d_X5_init_52 : zDc M_X5_init 52 (.aload_n 0) 1 53 := ⟨by decide +kernel, rfl⟩
theorem d_X5_init_53 : zDc M_X5_init 53 (.bipush 6) 2 55 := ⟨by decide +kernel, rfl⟩
theorem d_X5_init_55 : zDc M_X5_init 55 (.newarray .int) 2 57 := ⟨by decide +kernel, rfl⟩
theorem d_X5_init_57 : zDc M_X5_init 57 (.putfield 30) 3 60 := ⟨by decide +kernel, rfl⟩
theorem d_X5_init_60 : zDc M_X5_init 60 (.aload_n 0) 1 61 := ⟨by decide +kernel, rfl⟩
theorem d_X5_init_61 : zDc M_X5_init 61 (.bipush 6) 2 63 := ⟨by decide +kernel, rfl⟩
theorem d_X5_init_63 : zDc M_X5_init 63 (.newarray .int) 2 65 := ⟨by decide +kernel, rfl⟩
theorem d_X5_init_65 : zDc M_X5_init 65 (.putfield 33) 3 68 := ⟨by decide +kernel, rfl⟩
theorem d_X5_init_68 : zDc M_X5_init 68 (.aload_n 0) 1 69 := ⟨by decide +kernel, rfl⟩
theorem d_X5_init_69 : zDc M_X5_init 69 (.bipush 6) 2 71 := ⟨by decide +kernel, rfl⟩
theorem d_X5_init_71 : zDc M_X5_init 71 (.newarray .int) 2 73 := ⟨by decide +kernel, rfl⟩
theorem d_X5_init_73 : zDc M_X5_init 73 (.putfield 36) 3 76 := ⟨by decide +kernel, rfl⟩
theorem d_X5_init_76 : zDc M_X5_init 76 (.aload_n 0) 1 77 := ⟨by decide +kernel, rfl⟩
theorem d_X5_init_77 : zDc M_X5_init 77 (.iconst 5) 1 78 := ⟨by decide +kernel, rfl⟩
theorem d_X5_init_78 : zDc M_X5_init 78 (.newarray .int) 2 80 := ⟨by decide +kernel, rfl⟩
theorem d_X5_init_80 : zDc M_X5_init 80 (.putfield 39) 3 83 := ⟨by decide +kernel, rfl⟩
theorem d_X5_init_83 : zDc M_X5_init 83 (.aload_n 0) 1 84 := ⟨by decide +kernel, rfl⟩
theorem d_X5_init_84 : zDc M_X5_init 84 (.bipush 6) 2 86 := ⟨by decide +kernel, rfl⟩
theorem d_X5_init_86 : zDc M_X5_init 86 (.iconst 5) 1 87 := ⟨by decide +kernel, rfl⟩
theorem d_X5_init_87 : zDc M_X5_init 87 (.multianewarray 42 2) 4 91 := ⟨by decide +kernel, rfl⟩
theorem d_X5_init_91 : zDc M_X5_init 91 (.putfield 44) 3 94 := ⟨by decide +kernel, rfl⟩
theorem d_X5_init_94 : zDc M_X5_init 94 (.aload_n 0) 1 95 := ⟨by decide +kernel, rfl⟩
theorem d_X5_init_95 : zDc M_X5_init 95 (.bipush 7) 2 97 := ⟨by decide +kernel, rfl⟩
theorem d_X5_init_97 : zDc M_X5_init 97 (.newarray .int) 2 99 := ⟨by decide +kernel, rfl⟩
theorem d_X5_init_99 : zDc M_X5_init 99 (.putfield 47) 3 102 := ⟨by decide +kernel, rfl⟩
theorem d_X5_init_102 : zDc M_X5_init 102 (.aload_n 0) 1 103 := ⟨by decide +kernel, rfl⟩
theorem d_X5_init_103 : zDc M_X5_init 103 (.aload_n 1) 1 104 := ⟨by decide +kernel, rfl⟩
theorem d_X5_init_104 : zDc M_X5_init 104 (.putfield 50) 3 107 := ⟨by decide +kernel, rfl⟩
theorem d_X5_init_107 : zDc M_X5_init 107 (.aload_n 0) 1 108 := ⟨by decide +kernel, rfl⟩
theorem d_X5_init_108 : zDc M_X5_init 108 (.iconst (-1)) 1 109 := ⟨by decide +kernel, rfl⟩
theorem d_X5_init_109 : zDc M_X5_init 109 (.putfield 54) 3 112 := ⟨by decide +kernel, rfl⟩
theorem d_X5_init_112 : zDc M_X5_init 112 (.return_) 1 113 := ⟨by decide +kernel, rfl⟩
def f_X5_init (a0 : Nat) (a1 : Nat) (h0 : zHp) : Option (Unit × zHp) :=
  zbd (znA h0 0 (8, .inl (fun _ => 0))) (fun v2 h1 =>
  zob (zpV h1 a0 5 0 (.ref v2)) (fun h3 =>
  zbd (znA h3 0 (8, .inl (fun _ => 0))) (fun v5 h4 =>
  zob (zpV h4 a0 5 1 (.ref v5)) (fun h6 =>
  zbd (znA h6 0 (8, .inl (fun _ => 0))) (fun v8 h7 =>
  zob (zpV h7 a0 5 2 (.ref v8)) (fun h9 =>
  zbd (znA h9 0 (8, .inl (fun _ => 0))) (fun v11 h10 =>
  zob (zpV h10 a0 5 3 (.ref v11)) (fun h12 =>
  zbd (znA h12 0 (8, .inl (fun _ => 0))) (fun v14 h13 =>
  zob (zpV h13 a0 5 4 (.ref v14)) (fun h15 =>
  zbd (znA h15 0 (8, .inl (fun _ => 0))) (fun v17 h16 =>
  zob (zpV h16 a0 5 5 (.ref v17)) (fun h18 =>
  zbd (znA h18 0 (6, .inl (fun _ => 0))) (fun v20 h19 =>
  zob (zpV h19 a0 5 6 (.ref v20)) (fun h21 =>
  zbd (znA h21 0 (6, .inl (fun _ => 0))) (fun v23 h22 =>
  zob (zpV h22 a0 5 7 (.ref v23)) (fun h24 =>
  zbd (znA h24 0 (6, .inl (fun _ => 0))) (fun v26 h25 =>
  zob (zpV h25 a0 5 8 (.ref v26)) (fun h27 =>
  zbd (znA h27 0 (5, .inl (fun _ => 0))) (fun v29 h28 =>
  zob (zpV h28 a0 5 9 (.ref v29)) (fun h30 =>
  zbd (znM h30 6 5) (fun v32 h31 =>
  zob (zpV h31 a0 5 10 (.ref v32)) (fun h33 =>
  zbd (znA h33 0 (7, .inl (fun _ => 0))) (fun v35 h34 =>
  zob (zpV h34 a0 5 15 (.ref v35)) (fun h36 =>
  zob (zpV h36 a0 5 14 (.ref a1)) (fun h37 =>
  zob (zpV h37 a0 5 12 (.int (-1))) (fun h38 =>
  some ((), h38)))))))))))))))))))))))))))
set_option maxRecDepth 100000 in
set_option maxHeartbeats 4000000 in
theorem t_X5_init (a0 : Nat) (a1 : Nat) (h0 : zHp) : ∀ (r : Unit) (h' : zHp), f_X5_init a0 a1 h0 = some (r, h') → zCt yX5_init (.code yX5_init cX5_init 2 none) 1 60 18 114 [.ref a0, .ref a1] h0 (none) h' := by
  refine zct_of M_X5_init yX5_init (by decide) rfl rfl [.ref a0, .ref a1] h0 (Nat.le_of_ble_eq_true rfl) (fun _ => none) (fun X => ?_)
  show zG X M_X5_init (0, 0) 0 [(0, .ref a0), (1, .ref a1)] [] h0 (f_X5_init a0 a1 h0) (fun (_ : Unit) h' => zKe X (none) h')
  unfold f_X5_init
  refine zg_aload_n 0 rfl d_X5_init_0 ?_
  refine zg_obj d_X5_init_1 ml_X5_3 zw_obi zw_obc (by decide) (Nat.le_of_ble_eq_true rfl) ?_
  refine zg_aload_n 0 rfl d_X5_init_4 ?_
  refine zg_bipush 8 rfl d_X5_init_5 ?_
  refine zg_newa (t := 0) (1, 8) d_X5_init_7 ac_0 rfl (fun _ => rfl) (fun _ _ q => q) (fun _ => rfl) (by decide) rfl (by decide) ⟨by decide, by decide⟩ rfl (fun v2 h1 => ?_)
  refine zg_putF d_X5_init_9 zc_5 (by decide) fl_X5_9 rfl rfl rfl rfl rfl (fun h3 => ?_)
  refine zg_aload_n 0 rfl d_X5_init_12 ?_
  refine zg_bipush 8 rfl d_X5_init_13 ?_
  refine zg_newa (t := 0) (2, 16) d_X5_init_15 ac_0 rfl (fun _ => rfl) (fun _ _ q => q) (fun _ => rfl) (by decide) rfl (by decide) ⟨by decide, by decide⟩ rfl (fun v5 h4 => ?_)
  refine zg_putF d_X5_init_17 zc_5 (by decide) fl_X5_15 rfl rfl rfl rfl rfl (fun h6 => ?_)
  refine zg_aload_n 0 rfl d_X5_init_20 ?_
  refine zg_bipush 8 rfl d_X5_init_21 ?_
  refine zg_newa (t := 0) (3, 24) d_X5_init_23 ac_0 rfl (fun _ => rfl) (fun _ _ q => q) (fun _ => rfl) (by decide) rfl (by decide) ⟨by decide, by decide⟩ rfl (fun v8 h7 => ?_)
  refine zg_putF d_X5_init_25 zc_5 (by decide) fl_X5_18 rfl rfl rfl rfl rfl (fun h9 => ?_)
  refine zg_aload_n 0 rfl d_X5_init_28 ?_
  refine zg_bipush 8 rfl d_X5_init_29 ?_
  refine zg_newa (t := 0) (4, 32) d_X5_init_31 ac_0 rfl (fun _ => rfl) (fun _ _ q => q) (fun _ => rfl) (by decide) rfl (by decide) ⟨by decide, by decide⟩ rfl (fun v11 h10 => ?_)
  refine zg_putF d_X5_init_33 zc_5 (by decide) fl_X5_21 rfl rfl rfl rfl rfl (fun h12 => ?_)
  refine zg_aload_n 0 rfl d_X5_init_36 ?_
  refine zg_bipush 8 rfl d_X5_init_37 ?_
  refine zg_newa (t := 0) (5, 40) d_X5_init_39 ac_0 rfl (fun _ => rfl) (fun _ _ q => q) (fun _ => rfl) (by decide) rfl (by decide) ⟨by decide, by decide⟩ rfl (fun v14 h13 => ?_)
  refine zg_putF d_X5_init_41 zc_5 (by decide) fl_X5_24 rfl rfl rfl rfl rfl (fun h15 => ?_)
  refine zg_aload_n 0 rfl d_X5_init_44 ?_
  refine zg_bipush 8 rfl d_X5_init_45 ?_
  refine zg_newa (t := 0) (6, 48) d_X5_init_47 ac_0 rfl (fun _ => rfl) (fun _ _ q => q) (fun _ => rfl) (by decide) rfl (by decide) ⟨by decide, by decide⟩ rfl (fun v17 h16 => ?_)
  refine zg_putF d_X5_init_49 zc_5 (by decide) fl_X5_27 rfl rfl rfl rfl rfl (fun h18 => ?_)
  refine zg_aload_n 0 rfl d_X5_init_52 ?_
  refine zg_bipush 6 rfl d_X5_init_53 ?_
  refine zg_newa (t := 0) (7, 54) d_X5_init_55 ac_0 rfl (fun _ => rfl) (fun _ _ q => q) (fun _ => rfl) (by decide) rfl (by decide) ⟨by decide, by decide⟩ rfl (fun v20 h19 => ?_)
  refine zg_putF d_X5_init_57 zc_5 (by decide) fl_X5_30 rfl rfl rfl rfl rfl (fun h21 => ?_)
  refine zg_aload_n 0 rfl d_X5_init_60 ?_
  refine zg_bipush 6 rfl d_X5_init_61 ?_
  refine zg_newa (t := 0) (8, 60) d_X5_init_63 ac_0 rfl (fun _ => rfl) (fun _ _ q => q) (fun _ => rfl) (by decide) rfl (by decide) ⟨by decide, by decide⟩ rfl (fun v23 h22 => ?_)
  refine zg_putF d_X5_init_65 zc_5 (by decide) fl_X5_33 rfl rfl rfl rfl rfl (fun h24 => ?_)
  refine zg_aload_n 0 rfl d_X5_init_68 ?_
  refine zg_bipush 6 rfl d_X5_init_69 ?_
  refine zg_newa (t := 0) (9, 66) d_X5_init_71 ac_0 rfl (fun _ => rfl) (fun _ _ q => q) (fun _ => rfl) (by decide) rfl (by decide) ⟨by decide, by decide⟩ rfl (fun v26 h25 => ?_)
  refine zg_putF d_X5_init_73 zc_5 (by decide) fl_X5_36 rfl rfl rfl rfl rfl (fun h27 => ?_)
  refine zg_aload_n 0 rfl d_X5_init_76 ?_
  refine zg_iconst 5 rfl d_X5_init_77 ?_
  refine zg_newa (t := 0) (10, 71) d_X5_init_78 ac_0 rfl (fun _ => rfl) (fun _ _ q => q) (fun _ => rfl) (by decide) rfl (by decide) ⟨by decide, by decide⟩ rfl (fun v29 h28 => ?_)
  refine zg_putF d_X5_init_80 zc_5 (by decide) fl_X5_39 rfl rfl rfl rfl rfl (fun h30 => ?_)
  refine zg_aload_n 0 rfl d_X5_init_83 ?_
  refine zg_bipush 6 rfl d_X5_init_84 ?_
  refine zg_iconst 5 rfl d_X5_init_86 ?_
  refine zg_mna (17, 107) d_X5_init_87 cl_X5_42 ac_0 (by decide) (by decide) rfl rfl (by decide) (by decide) ⟨by decide, by decide⟩ rfl (fun v32 h31 => ?_)
  refine zg_putF d_X5_init_91 zc_5 (by decide) fl_X5_44 rfl rfl rfl rfl rfl (fun h33 => ?_)
  refine zg_aload_n 0 rfl d_X5_init_94 ?_
  refine zg_bipush 7 rfl d_X5_init_95 ?_
  refine zg_newa (t := 0) (18, 114) d_X5_init_97 ac_0 rfl (fun _ => rfl) (fun _ _ q => q) (fun _ => rfl) (by decide) rfl (by decide) ⟨by decide, by decide⟩ rfl (fun v35 h34 => ?_)
  refine zg_putF d_X5_init_99 zc_5 (by decide) fl_X5_47 rfl rfl rfl rfl rfl (fun h36 => ?_)
  refine zg_aload_n 0 rfl d_X5_init_102 ?_
  refine zg_aload_n 1 rfl d_X5_init_103 ?_
  refine zg_putV d_X5_init_104 zc_5 (by decide) fl_X5_50 rfl rfl rfl (fun h37 => ?_)
  refine zg_aload_n 0 rfl d_X5_init_107 ?_
  refine zg_iconst (-1) rfl d_X5_init_108 ?_
  refine zg_putV d_X5_init_109 zc_5 (by decide) fl_X5_54 rfl rfl rfl (fun h38 => ?_)
  exact zg_vretK d_X5_init_112 rfl ⟨Nat.le_of_ble_eq_true rfl, Nat.le_of_ble_eq_true rfl⟩ (fun q => q)
abbrev M_X6_init : zMt := (RX6, cX6_init, 1, 2, 80, none, "<init>", 17, 241)
theorem d_X6_init_0 : zDc M_X6_init 0 (.aload_n 0) 1 1 := ⟨by decide +kernel, rfl⟩
theorem d_X6_init_1 : zDc M_X6_init 1 (.invokespecial 3) 3 4 := ⟨by decide +kernel, rfl⟩
theorem d_X6_init_4 : zDc M_X6_init 4 (.aload_n 0) 1 5 := ⟨by decide +kernel, rfl⟩
theorem d_X6_init_5 : zDc M_X6_init 5 (.bipush 24) 2 7 := ⟨by decide +kernel, rfl⟩
theorem d_X6_init_7 : zDc M_X6_init 7 (.newarray .int) 2 9 := ⟨by decide +kernel, rfl⟩
theorem d_X6_init_9 : zDc M_X6_init 9 (.putfield 9) 3 12 := ⟨by decide +kernel, rfl⟩
theorem d_X6_init_12 : zDc M_X6_init 12 (.aload_n 0) 1 13 := ⟨by decide +kernel, rfl⟩
theorem d_X6_init_13 : zDc M_X6_init 13 (.iconst 5) 1 14 := ⟨by decide +kernel, rfl⟩
theorem d_X6_init_14 : zDc M_X6_init 14 (.newarray .int) 2 16 := ⟨by decide +kernel, rfl⟩
theorem d_X6_init_16 : zDc M_X6_init 16 (.putfield 15) 3 19 := ⟨by decide +kernel, rfl⟩
theorem d_X6_init_19 : zDc M_X6_init 19 (.aload_n 0) 1 20 := ⟨by decide +kernel, rfl⟩
theorem d_X6_init_20 : zDc M_X6_init 20 (.iconst 5) 1 21 := ⟨by decide +kernel, rfl⟩
theorem d_X6_init_21 : zDc M_X6_init 21 (.newarray .int) 2 23 := ⟨by decide +kernel, rfl⟩
theorem d_X6_init_23 : zDc M_X6_init 23 (.putfield 18) 3 26 := ⟨by decide +kernel, rfl⟩
theorem d_X6_init_26 : zDc M_X6_init 26 (.aload_n 0) 1 27 := ⟨by decide +kernel, rfl⟩
theorem d_X6_init_27 : zDc M_X6_init 27 (.iconst 5) 1 28 := ⟨by decide +kernel, rfl⟩
theorem d_X6_init_28 : zDc M_X6_init 28 (.newarray .int) 2 30 := ⟨by decide +kernel, rfl⟩
theorem d_X6_init_30 : zDc M_X6_init 30 (.putfield 21) 3 33 := ⟨by decide +kernel, rfl⟩
theorem d_X6_init_33 : zDc M_X6_init 33 (.aload_n 0) 1 34 := ⟨by decide +kernel, rfl⟩
theorem d_X6_init_34 : zDc M_X6_init 34 (.bipush 8) 2 36 := ⟨by decide +kernel, rfl⟩
theorem d_X6_init_36 : zDc M_X6_init 36 (.newarray .int) 2 38 := ⟨by decide +kernel, rfl⟩
theorem d_X6_init_38 : zDc M_X6_init 38 (.putfield 24) 3 41 := ⟨by decide +kernel, rfl⟩
theorem d_X6_init_41 : zDc M_X6_init 41 (.aload_n 0) 1 42 := ⟨by decide +kernel, rfl⟩
theorem d_X6_init_42 : zDc M_X6_init 42 (.bipush 8) 2 44 := ⟨by decide +kernel, rfl⟩
theorem d_X6_init_44 : zDc M_X6_init 44 (.newarray .int) 2 46 := ⟨by decide +kernel, rfl⟩
theorem d_X6_init_46 : zDc M_X6_init 46 (.putfield 27) 3 49 := ⟨by decide +kernel, rfl⟩
theorem d_X6_init_49 : zDc M_X6_init 49 (.aload_n 0) 1 50 := ⟨by decide +kernel, rfl⟩
theorem d_X6_init_50 : zDc M_X6_init 50 (.bipush 8) 2 52 := ⟨by decide +kernel, rfl⟩
theorem d_X6_init_52 : zDc M_X6_init 52 (.newarray .int) 2 54 := ⟨by decide +kernel, rfl⟩
theorem d_X6_init_54 : zDc M_X6_init 54 (.putfield 30) 3 57 := ⟨by decide +kernel, rfl⟩
theorem d_X6_init_57 : zDc M_X6_init 57 (.aload_n 0) 1 58 := ⟨by decide +kernel, rfl⟩
theorem d_X6_init_58 : zDc M_X6_init 58 (.bipush 8) 2 60 := ⟨by decide +kernel, rfl⟩
theorem d_X6_init_60 : zDc M_X6_init 60 (.newarray .int) 2 62 := ⟨by decide +kernel, rfl⟩
theorem d_X6_init_62 : zDc M_X6_init 62 (.putfield 33) 3 65 := ⟨by decide +kernel, rfl⟩
theorem d_X6_init_65 : zDc M_X6_init 65 (.aload_n 0) 1 66 := ⟨by decide +kernel, rfl⟩
theorem d_X6_init_66 : zDc M_X6_init 66 (.bipush 6) 2 68 := ⟨by decide +kernel, rfl⟩
theorem d_X6_init_68 : zDc M_X6_init 68 (.newarray .int) 2 70 := ⟨by decide +kernel, rfl⟩
theorem d_X6_init_70 : zDc M_X6_init 70 (.putfield 36) 3 73 := ⟨by decide +kernel, rfl⟩
theorem d_X6_init_73 : zDc M_X6_init 73 (.aload_n 0) 1 74 := ⟨by decide +kernel, rfl⟩
theorem d_X6_init_74 : zDc M_X6_init 74 (.bipush 6) 2 76 := ⟨by decide +kernel, rfl⟩
theorem d_X6_init_76 : zDc M_X6_init 76 (.newarray .int) 2 78 := ⟨by decide +kernel, rfl⟩
theorem d_X6_init_78 : zDc M_X6_init 78 (.putfield 39) 3 81 := ⟨by decide +kernel, rfl⟩
theorem d_X6_init_81 : zDc M_X6_init 81 (.aload_n 0) 1 82 := ⟨by decide +kernel, rfl⟩
theorem d_X6_init_82 : zDc M_X6_init 82 (.bipush 6) 2 84 := ⟨by decide +kernel, rfl⟩
theorem d_X6_init_84 : zDc M_X6_init 84 (.newarray .int) 2 86 := ⟨by decide +kernel, rfl⟩
theorem d_X6_init_86 : zDc M_X6_init 86 (.putfield 42) 3 89 := ⟨by decide +kernel, rfl⟩
theorem d_X6_init_89 : zDc M_X6_init 89 (.aload_n 0) 1 90 := ⟨by decide +kernel, rfl⟩
theorem d_X6_init_90 : zDc M_X6_init 90 (.bipush 12) 2 92 := ⟨by decide +kernel, rfl⟩
theorem d_X6_init_92 : zDc M_X6_init 92 (.newarray .int) 2 94 := ⟨by decide +kernel, rfl⟩
theorem d_X6_init_94 : zDc M_X6_init 94 (.putfield 45) 3 97 := ⟨by decide +kernel, rfl⟩
theorem d_X6_init_97 : zDc M_X6_init 97 (.aload_n 0) 1 98 := ⟨by decide +kernel, rfl⟩
theorem d_X6_init_98 : zDc M_X6_init 98 (.new 48) 3 101 := ⟨by decide +kernel, rfl⟩
theorem d_X6_init_101 : zDc M_X6_init 101 (.dup) 1 102 := ⟨by decide +kernel, rfl⟩
theorem d_X6_init_102 : zDc M_X6_init 102 (.invokespecial 50) 3 105 := ⟨by decide +kernel, rfl⟩
theorem d_X6_init_105 : zDc M_X6_init 105 (.putfield 51) 3 108 := ⟨by decide +kernel, rfl⟩
theorem d_X6_init_108 : zDc M_X6_init 108 (.aload_n 0) 1 109 := ⟨by decide +kernel, rfl⟩
theorem d_X6_init_109 : zDc M_X6_init 109 (.iconst 0) 1 110 := ⟨by decide +kernel, rfl⟩
theorem d_X6_init_110 : zDc M_X6_init 110 (.putfield 55) 3 113 := ⟨by decide +kernel, rfl⟩
theorem d_X6_init_113 : zDc M_X6_init 113 (.aload_n 0) 1 114 := ⟨by decide +kernel, rfl⟩
theorem d_X6_init_114 : zDc M_X6_init 114 (.iconst 0) 1 115 := ⟨by decide +kernel, rfl⟩
theorem d_X6_init_115 : zDc M_X6_init 115 (.putfield 59) 3 118 := ⟨by decide +kernel, rfl⟩
theorem d_X6_init_118 : zDc M_X6_init 118 (.aload_n 0) 1 119 := ⟨by decide +kernel, rfl⟩
theorem d_X6_init_119 : zDc M_X6_init 119 (.iconst 0) 1 120 := ⟨by decide +kernel, rfl⟩
theorem d_X6_init_120 : zDc M_X6_init 120 (.putfield 62) 3 123 := ⟨by decide +kernel, rfl⟩
theorem d_X6_init_123 : zDc M_X6_init 123 (.aload_n 0) 1 124 := ⟨by decide +kernel, rfl⟩
theorem d_X6_init_124 : zDc M_X6_init 124 (.iconst 0) 1 125 := ⟨by decide +kernel, rfl⟩
theorem d_X6_init_125 : zDc M_X6_init 125 (.putfield 65) 3 128 := ⟨by decide +kernel, rfl⟩
theorem d_X6_init_128 : zDc M_X6_init 128 (.aload_n 0) 1 129 := ⟨by decide +kernel, rfl⟩
theorem d_X6_init_129 : zDc M_X6_init 129 (.bipush 6) 2 131 := ⟨by decide +kernel, rfl⟩
theorem d_X6_init_131 : zDc M_X6_init 131 (.putfield 68) 3 134 := ⟨by decide +kernel, rfl⟩
theorem d_X6_init_134 : zDc M_X6_init 134 (.aload_n 0) 1 135 := ⟨by decide +kernel, rfl⟩
theorem d_X6_init_135 : zDc M_X6_init 135 (.bipush 9) 2 137 := ⟨by decide +kernel, rfl⟩
theorem d_X6_init_137 : zDc M_X6_init 137 (.putfield 71) 3 140 := ⟨by decide +kernel, rfl⟩
theorem d_X6_init_140 : zDc M_X6_init 140 (.return_) 1 141 := ⟨by decide +kernel, rfl⟩
def f_X6_init (a0 : Nat) (h0 : zHp) : Option (Unit × zHp) :=
  zbd (znA h0 0 (24, .inl (fun _ => 0))) (fun v2 h1 =>
  zob (zpV h1 a0 6 0 (.ref v2)) (fun h3 =>
  zbd (znA h3 0 (5, .inl (fun _ => 0))) (fun v5 h4 =>
  zob (zpV h4 a0 6 1 (.ref v5)) (fun h6 =>
  zbd (znA h6 0 (5, .inl (fun _ => 0))) (fun v8 h7 =>
  zob (zpV h7 a0 6 2 (.ref v8)) (fun h9 =>
  zbd (znA h9 0 (5, .inl (fun _ => 0))) (fun v11 h10 =>
  zob (zpV h10 a0 6 3 (.ref v11)) (fun h12 =>
  zbd (znA h12 0 (8, .inl (fun _ => 0))) (fun v14 h13 =>
  zob (zpV h13 a0 6 4 (.ref v14)) (fun h15 =>
  zbd (znA h15 0 (8, .inl (fun _ => 0))) (fun v17 h16 =>
  zob (zpV h16 a0 6 5 (.ref v17)) (fun h18 =>
  zbd (znA h18 0 (8, .inl (fun _ => 0))) (fun v20 h19 =>
  zob (zpV h19 a0 6 6 (.ref v20)) (fun h21 =>
  zbd (znA h21 0 (8, .inl (fun _ => 0))) (fun v23 h22 =>
  zob (zpV h22 a0 6 7 (.ref v23)) (fun h24 =>
  zbd (znA h24 0 (6, .inl (fun _ => 0))) (fun v26 h25 =>
  zob (zpV h25 a0 6 8 (.ref v26)) (fun h27 =>
  zbd (znA h27 0 (6, .inl (fun _ => 0))) (fun v29 h28 =>
  zob (zpV h28 a0 6 9 (.ref v29)) (fun h30 =>
  zbd (znA h30 0 (6, .inl (fun _ => 0))) (fun v32 h31 =>
  zob (zpV h31 a0 6 10 (.ref v32)) (fun h33 =>
  zbd (znA h33 0 (12, .inl (fun _ => 0))) (fun v35 h34 =>
  zob (zpV h34 a0 6 11 (.ref v35)) (fun h36 =>
  zbd (znO h36 2 zfs_X2) (fun v38 h37 =>
  zbd ((f_X2_init v38 h37)) (fun v40 h39 =>
  zob (zpV h39 a0 6 12 (.ref v38)) (fun h41 =>
  zob (zpV h41 a0 6 13 (.int 0)) (fun h42 =>
  zob (zpV h42 a0 6 14 (.int 0)) (fun h43 =>
  zob (zpV h43 a0 6 15 (.int 0)) (fun h44 =>
  zob (zpV h44 a0 6 16 (.int 0)) (fun h45 =>
  zob (zpV h45 a0 6 17 (.int 6)) (fun h46 =>
  zob (zpV h46 a0 6 18 (.int 9)) (fun h47 =>
  some ((), h47))))))))))))))))))))))))))))))))))
set_option maxRecDepth 100000 in
set_option maxHeartbeats 4000000 in
theorem t_X6_init (a0 : Nat) (h0 : zHp) : ∀ (r : Unit) (h' : zHp), f_X6_init a0 h0 = some (r, h') → zCt yX6_init (.code yX6_init cX6_init 1 none) 2 80 17 241 [.ref a0] h0 (none) h' := by
  refine zct_of M_X6_init yX6_init (by decide) rfl rfl [.ref a0] h0 (Nat.le_of_ble_eq_true rfl) (fun _ => none) (fun X => ?_)
  show zG X M_X6_init (0, 0) 0 [(0, .ref a0)] [] h0 (f_X6_init a0 h0) (fun (_ : Unit) h' => zKe X (none) h')
  unfold f_X6_init
  refine zg_aload_n 0 rfl d_X6_init_0 ?_
  refine zg_obj d_X6_init_1 ml_X6_3 zw_obi zw_obc (by decide) (Nat.le_of_ble_eq_true rfl) ?_
  refine zg_aload_n 0 rfl d_X6_init_4 ?_
  refine zg_bipush 24 rfl d_X6_init_5 ?_
  refine zg_newa (t := 0) (1, 24) d_X6_init_7 ac_0 rfl (fun _ => rfl) (fun _ _ q => q) (fun _ => rfl) (by decide) rfl (by decide) ⟨by decide, by decide⟩ rfl (fun v2 h1 => ?_)
  refine zg_putF d_X6_init_9 zc_6 (by decide) fl_X6_9 rfl rfl rfl rfl rfl (fun h3 => ?_)
  refine zg_aload_n 0 rfl d_X6_init_12 ?_
  refine zg_iconst 5 rfl d_X6_init_13 ?_
  refine zg_newa (t := 0) (2, 29) d_X6_init_14 ac_0 rfl (fun _ => rfl) (fun _ _ q => q) (fun _ => rfl) (by decide) rfl (by decide) ⟨by decide, by decide⟩ rfl (fun v5 h4 => ?_)
  refine zg_putF d_X6_init_16 zc_6 (by decide) fl_X6_15 rfl rfl rfl rfl rfl (fun h6 => ?_)
  refine zg_aload_n 0 rfl d_X6_init_19 ?_
  refine zg_iconst 5 rfl d_X6_init_20 ?_
  refine zg_newa (t := 0) (3, 34) d_X6_init_21 ac_0 rfl (fun _ => rfl) (fun _ _ q => q) (fun _ => rfl) (by decide) rfl (by decide) ⟨by decide, by decide⟩ rfl (fun v8 h7 => ?_)
  refine zg_putF d_X6_init_23 zc_6 (by decide) fl_X6_18 rfl rfl rfl rfl rfl (fun h9 => ?_)
  refine zg_aload_n 0 rfl d_X6_init_26 ?_
  refine zg_iconst 5 rfl d_X6_init_27 ?_
  refine zg_newa (t := 0) (4, 39) d_X6_init_28 ac_0 rfl (fun _ => rfl) (fun _ _ q => q) (fun _ => rfl) (by decide) rfl (by decide) ⟨by decide, by decide⟩ rfl (fun v11 h10 => ?_)
  refine zg_putF d_X6_init_30 zc_6 (by decide) fl_X6_21 rfl rfl rfl rfl rfl (fun h12 => ?_)
  refine zg_aload_n 0 rfl d_X6_init_33 ?_
  refine zg_bipush 8 rfl d_X6_init_34 ?_
  refine zg_newa (t := 0) (5, 47) d_X6_init_36 ac_0 rfl (fun _ => rfl) (fun _ _ q => q) (fun _ => rfl) (by decide) rfl (by decide) ⟨by decide, by decide⟩ rfl (fun v14 h13 => ?_)
  refine zg_putF d_X6_init_38 zc_6 (by decide) fl_X6_24 rfl rfl rfl rfl rfl (fun h15 => ?_)
  refine zg_aload_n 0 rfl d_X6_init_41 ?_
  refine zg_bipush 8 rfl d_X6_init_42 ?_
  refine zg_newa (t := 0) (6, 55) d_X6_init_44 ac_0 rfl (fun _ => rfl) (fun _ _ q => q) (fun _ => rfl) (by decide) rfl (by decide) ⟨by decide, by decide⟩ rfl (fun v17 h16 => ?_)
  refine zg_putF d_X6_init_46 zc_6 (by decide) fl_X6_27 rfl rfl rfl rfl rfl (fun h18 => ?_)
  refine zg_aload_n 0 rfl d_X6_init_49 ?_
  refine zg_bipush 8 rfl d_X6_init_50 ?_
  refine zg_newa (t := 0) (7, 63) d_X6_init_52 ac_0 rfl (fun _ => rfl) (fun _ _ q => q) (fun _ => rfl) (by decide) rfl (by decide) ⟨by decide, by decide⟩ rfl (fun v20 h19 => ?_)
  refine zg_putF d_X6_init_54 zc_6 (by decide) fl_X6_30 rfl rfl rfl rfl rfl (fun h21 => ?_)
  refine zg_aload_n 0 rfl d_X6_init_57 ?_
  refine zg_bipush 8 rfl d_X6_init_58 ?_
  refine zg_newa (t := 0) (8, 71) d_X6_init_60 ac_0 rfl (fun _ => rfl) (fun _ _ q => q) (fun _ => rfl) (by decide) rfl (by decide) ⟨by decide, by decide⟩ rfl (fun v23 h22 => ?_)
  refine zg_putF d_X6_init_62 zc_6 (by decide) fl_X6_33 rfl rfl rfl rfl rfl (fun h24 => ?_)
  refine zg_aload_n 0 rfl d_X6_init_65 ?_
  refine zg_bipush 6 rfl d_X6_init_66 ?_
  refine zg_newa (t := 0) (9, 77) d_X6_init_68 ac_0 rfl (fun _ => rfl) (fun _ _ q => q) (fun _ => rfl) (by decide) rfl (by decide) ⟨by decide, by decide⟩ rfl (fun v26 h25 => ?_)
  refine zg_putF d_X6_init_70 zc_6 (by decide) fl_X6_36 rfl rfl rfl rfl rfl (fun h27 => ?_)
  refine zg_aload_n 0 rfl d_X6_init_73 ?_
  refine zg_bipush 6 rfl d_X6_init_74 ?_
  refine zg_newa (t := 0) (10, 83) d_X6_init_76 ac_0 rfl (fun _ => rfl) (fun _ _ q => q) (fun _ => rfl) (by decide) rfl (by decide) ⟨by decide, by decide⟩ rfl (fun v29 h28 => ?_)
  refine zg_putF d_X6_init_78 zc_6 (by decide) fl_X6_39 rfl rfl rfl rfl rfl (fun h30 => ?_)
  refine zg_aload_n 0 rfl d_X6_init_81 ?_
  refine zg_bipush 6 rfl d_X6_init_82 ?_
  refine zg_newa (t := 0) (11, 89) d_X6_init_84 ac_0 rfl (fun _ => rfl) (fun _ _ q => q) (fun _ => rfl) (by decide) rfl (by decide) ⟨by decide, by decide⟩ rfl (fun v32 h31 => ?_)
  refine zg_putF d_X6_init_86 zc_6 (by decide) fl_X6_42 rfl rfl rfl rfl rfl (fun h33 => ?_)
  refine zg_aload_n 0 rfl d_X6_init_89 ?_
  refine zg_bipush 12 rfl d_X6_init_90 ?_
  refine zg_newa (t := 0) (12, 101) d_X6_init_92 ac_0 rfl (fun _ => rfl) (fun _ _ q => q) (fun _ => rfl) (by decide) rfl (by decide) ⟨by decide, by decide⟩ rfl (fun v35 h34 => ?_)
  refine zg_putF d_X6_init_94 zc_6 (by decide) fl_X6_45 rfl rfl rfl rfl rfl (fun h36 => ?_)
  refine zg_aload_n 0 rfl d_X6_init_97 ?_
  refine zg_new (13, 107) d_X6_init_98 zc_2 cl_X6_48 it_X2 ni_X2 zfs_X2_ok ⟨by decide, by decide⟩ rfl (fun v38 h37 => ?_)
  refine zg_dup rfl d_X6_init_101 ?_
  refine zg_cIN (b := v38) (As := []) (rest := [.ref v38, .ref a0]) (17, 241) d_X6_init_102 cn_X6_50 wi_X2_init rfl rfl rfl (Nat.le_of_ble_eq_true rfl) (by decide) (by decide) ⟨by decide, by decide⟩ rfl (t_X2_init v38 h37) (fun v40 h39 => ?_)
  refine zg_putF d_X6_init_105 zc_6 (by decide) fl_X6_51 rfl rfl rfl rfl rfl (fun h41 => ?_)
  refine zg_aload_n 0 rfl d_X6_init_108 ?_
  refine zg_iconst 0 rfl d_X6_init_109 ?_
  refine zg_putV d_X6_init_110 zc_6 (by decide) fl_X6_55 rfl rfl rfl (fun h42 => ?_)
  refine zg_aload_n 0 rfl d_X6_init_113 ?_
  refine zg_iconst 0 rfl d_X6_init_114 ?_
  refine zg_putV d_X6_init_115 zc_6 (by decide) fl_X6_59 rfl rfl rfl (fun h43 => ?_)
  refine zg_aload_n 0 rfl d_X6_init_118 ?_
  refine zg_iconst 0 rfl d_X6_init_119 ?_
  refine zg_putV d_X6_init_120 zc_6 (by decide) fl_X6_62 rfl rfl rfl (fun h44 => ?_)
  refine zg_aload_n 0 rfl d_X6_init_123 ?_
  refine zg_iconst 0 rfl d_X6_init_124 ?_
  refine zg_putV d_X6_init_125 zc_6 (by decide) fl_X6_65 rfl rfl rfl (fun h45 => ?_)
  refine zg_aload_n 0 rfl d_X6_init_128 ?_
  refine zg_bipush 6 rfl d_X6_init_129 ?_
  refine zg_putV d_X6_init_131 zc_6 (by decide) fl_X6_68 rfl rfl rfl (fun h46 => ?_)
  refine zg_aload_n 0 rfl d_X6_init_134 ?_
  refine zg_bipush 9 rfl d_X6_init_135 ?_
  refine zg_putV d_X6_init_137 zc_6 (by decide) fl_X6_71 rfl rfl rfl (fun h47 => ?_)
  exact zg_vretK d_X6_init_140 rfl ⟨Nat.le_of_ble_eq_true rfl, Nat.le_of_ble_eq_true rfl⟩ (fun q => q)
abbrev M_X1_init : zMt := (RX1, cX1_init, 3, 2, 81, none, "<init>", 139, 998)
theorem d_X1_init_0 : zDc M_X1_init 0 (.aload_n 0) 1 1 := ⟨by decide +kernel, rfl⟩
theorem d_X1_init_1 : zDc M_X1_init 1 (.invokespecial 3) 3 4 := ⟨by decide +kernel, rfl⟩
theorem d_X1_init_4 : zDc M_X1_init 4 (.aload_n 0) 1 5 := ⟨by decide +kernel, rfl⟩
theorem d_X1_init_5 : zDc M_X1_init 5 (.bipush 6) 2 7 := ⟨by decide +kernel, rfl⟩
theorem d_X1_init_7 : zDc M_X1_init 7 (.anewarray 9) 3 10 := ⟨by decide +kernel, rfl⟩
theorem d_X1_init_10 : zDc M_X1_init 10 (.putfield 11) 3 13 := ⟨by decide +kernel, rfl⟩
theorem d_X1_init_13 : zDc M_X1_init 13 (.aload_n 0) 1 14 := ⟨by decide +kernel, rfl⟩
theorem d_X1_init_14 : zDc M_X1_init 14 (.bipush 24) 2 16 := ⟨by decide +kernel, rfl⟩
theorem d_X1_init_16 : zDc M_X1_init 16 (.newarray .int) 2 18 := ⟨by decide +kernel, rfl⟩
theorem d_X1_init_18 : zDc M_X1_init 18 (.putfield 17) 3 21 := ⟨by decide +kernel, rfl⟩
theorem d_X1_init_21 : zDc M_X1_init 21 (.aload_n 0) 1 22 := ⟨by decide +kernel, rfl⟩
theorem d_X1_init_22 : zDc M_X1_init 22 (.iconst 4) 1 23 := ⟨by decide +kernel, rfl⟩
theorem d_X1_init_23 : zDc M_X1_init 23 (.newarray .int) 2 25 := ⟨by decide +kernel, rfl⟩
theorem d_X1_init_25 : zDc M_X1_init 25 (.putfield 21) 3 28 := ⟨by decide +kernel, rfl⟩
theorem d_X1_init_28 : zDc M_X1_init 28 (.aload_n 0) 1 29 := ⟨by decide +kernel, rfl⟩
theorem d_X1_init_29 : zDc M_X1_init 29 (.iconst 4) 1 30 := ⟨by decide +kernel, rfl⟩
theorem d_X1_init_30 : zDc M_X1_init 30 (.newarray .int) 2 32 := ⟨by decide +kernel, rfl⟩
theorem d_X1_init_32 : zDc M_X1_init 32 (.putfield 24) 3 35 := ⟨by decide +kernel, rfl⟩
theorem d_X1_init_35 : zDc M_X1_init 35 (.aload_n 0) 1 36 := ⟨by decide +kernel, rfl⟩
theorem d_X1_init_36 : zDc M_X1_init 36 (.bipush 25) 2 38 := ⟨by decide +kernel, rfl⟩
theorem d_X1_init_38 : zDc M_X1_init 38 (.newarray .int) 2 40 := ⟨by decide +kernel, rfl⟩
theorem d_X1_init_40 : zDc M_X1_init 40 (.putfield 27) 3 43 := ⟨by decide +kernel, rfl⟩
theorem d_X1_init_43 : zDc M_X1_init 43 (.aload_n 0) 1 44 := ⟨by decide +kernel, rfl⟩
theorem d_X1_init_44 : zDc M_X1_init 44 (.bipush 25) 2 46 := ⟨by decide +kernel, rfl⟩
theorem d_X1_init_46 : zDc M_X1_init 46 (.newarray .int) 2 48 := ⟨by decide +kernel, rfl⟩
theorem d_X1_init_48 : zDc M_X1_init 48 (.putfield 30) 3 51 := ⟨by decide +kernel, rfl⟩
theorem d_X1_init_51 : zDc M_X1_init 51 (.iconst 0) 1 52 := ⟨by decide +kernel, rfl⟩
theorem d_X1_init_52 : zDc M_X1_init 52 (.istore_n 2) 1 53 := ⟨by decide +kernel, rfl⟩
theorem d_X1_init_53 : zDc M_X1_init 53 (.iload_n 2) 1 54 := ⟨by decide +kernel, rfl⟩
theorem d_X1_init_54 : zDc M_X1_init 54 (.aload_n 0) 1 55 := ⟨by decide +kernel, rfl⟩
theorem d_X1_init_55 : zDc M_X1_init 55 (.getfield 11) 3 58 := ⟨by decide +kernel, rfl⟩
theorem d_X1_init_58 : zDc M_X1_init 58 (.arraylength) 1 59 := ⟨by decide +kernel, rfl⟩
theorem d_X1_init_59 : zDj M_X1_init 59 (.if_icmp .ge 23) 23 62 82 := ⟨by decide +kernel, rfl, by decide⟩
theorem d_X1_init_62 : zDc M_X1_init 62 (.aload_n 0) 1 63 := ⟨by decide +kernel, rfl⟩
theorem d_X1_init_63 : zDc M_X1_init 63 (.getfield 11) 3 66 := ⟨by decide +kernel, rfl⟩
theorem d_X1_init_66 : zDc M_X1_init 66 (.iload_n 2) 1 67 := ⟨by decide +kernel, rfl⟩
theorem d_X1_init_67 : zDc M_X1_init 67 (.new 9) 3 70 := ⟨by decide +kernel, rfl⟩
theorem d_X1_init_70 : zDc M_X1_init 70 (.dup) 1 71 := ⟨by decide +kernel, rfl⟩
theorem d_X1_init_71 : zDc M_X1_init 71 (.aload_n 1) 1 72 := ⟨by decide +kernel, rfl⟩
theorem d_X1_init_72 : zDc M_X1_init 72 (.invokespecial 33) 3 75 := ⟨by decide +kernel, rfl⟩
theorem d_X1_init_75 : zDc M_X1_init 75 (.aastore) 1 76 := ⟨by decide +kernel, rfl⟩
theorem d_X1_init_76 : zDc M_X1_init 76 (.iinc 2 1) 3 79 := ⟨by decide +kernel, rfl⟩
theorem d_X1_init_79 : zDj M_X1_init 79 (.goto (-26)) (-26) 82 53 := ⟨by decide +kernel, rfl, by decide⟩
theorem d_X1_init_82 : zDc M_X1_init 82 (.aload_n 0) 1 83 := ⟨by decide +kernel, rfl⟩
theorem d_X1_init_83 : zDc M_X1_init 83 (.aload_n 0) 1 84 := ⟨by decide +kernel, rfl⟩
theorem d_X1_init_84 : zDc M_X1_init 84 (.getfield 11) 3 87 := ⟨by decide +kernel, rfl⟩
theorem d_X1_init_87 : zDc M_X1_init 87 (.iconst 0) 1 88 := ⟨by decide +kernel, rfl⟩
theorem d_X1_init_88 : zDc M_X1_init 88 (.aaload) 1 89 := ⟨by decide +kernel, rfl⟩
theorem d_X1_init_89 : zDc M_X1_init 89 (.putfield 36) 3 92 := ⟨by decide +kernel, rfl⟩
theorem d_X1_init_92 : zDc M_X1_init 92 (.return_) 1 93 := ⟨by decide +kernel, rfl⟩
def f_X1_init (a0 : Nat) (a1 : Nat) (h0 : zHp) : Option (Unit × zHp) :=
  zbd (znA h0 4 (6, .inr (.inr (.inr (.inr (fun _ => none)))))) (fun v2 h1 =>
  zob (zpV h1 a0 1 0 (.ref v2)) (fun h3 =>
  zbd (znA h3 0 (24, .inl (fun _ => 0))) (fun v5 h4 =>
  zob (zpV h4 a0 1 2 (.ref v5)) (fun h6 =>
  zbd (znA h6 0 (4, .inl (fun _ => 0))) (fun v8 h7 =>
  zob (zpV h7 a0 1 3 (.ref v8)) (fun h9 =>
  zbd (znA h9 0 (4, .inl (fun _ => 0))) (fun v11 h10 =>
  zob (zpV h10 a0 1 4 (.ref v11)) (fun h12 =>
  zbd (znA h12 0 (25, .inl (fun _ => 0))) (fun v14 h13 =>
  zob (zpV h13 a0 1 5 (.ref v14)) (fun h15 =>
  zbd (znA h15 0 (25, .inl (fun _ => 0))) (fun v17 h16 =>
  zob (zpV h16 a0 1 6 (.ref v17)) (fun h18 =>
  zob (zgR h18 a0 1 0) (fun v19 =>
  zob (zln h18 v19) (fun v20 =>
  if v20 ≤ 0 then
  zob (zgR h18 a0 1 0) (fun v21 =>
  zob (zaA 4 h18 v21 0) (fun v22 =>
  zob (zpV h18 a0 1 1 (.ref v22)) (fun h23 =>
  some ((), h23))))
  else
  zob (zgR h18 a0 1 0) (fun v24 =>
  zbd (znO h18 5 zfs_X5) (fun v26 h25 =>
  zbd ((f_X5_init v26 a1 h25)) (fun v28 h27 =>
  zob (zsA h27 v24 0 v26) (fun h29 =>
  zob (zgR h29 a0 1 0) (fun v30 =>
  zob (zln h29 v30) (fun v31 =>
  if v31 ≤ (0 + 1) then
  zob (zgR h29 a0 1 0) (fun v32 =>
  zob (zaA 4 h29 v32 0) (fun v33 =>
  zob (zpV h29 a0 1 1 (.ref v33)) (fun h34 =>
  some ((), h34))))
  else
  zob (zgR h29 a0 1 0) (fun v35 =>
  zbd (znO h29 5 zfs_X5) (fun v37 h36 =>
  zbd ((f_X5_init v37 a1 h36)) (fun v39 h38 =>
  zob (zsA h38 v35 (0 + 1) v37) (fun h40 =>
  zob (zgR h40 a0 1 0) (fun v41 =>
  zob (zln h40 v41) (fun v42 =>
  if v42 ≤ ((0 + 1) + 1) then
  zob (zgR h40 a0 1 0) (fun v43 =>
  zob (zaA 4 h40 v43 0) (fun v44 =>
  zob (zpV h40 a0 1 1 (.ref v44)) (fun h45 =>
  some ((), h45))))
  else
  zob (zgR h40 a0 1 0) (fun v46 =>
  zbd (znO h40 5 zfs_X5) (fun v48 h47 =>
  zbd ((f_X5_init v48 a1 h47)) (fun v50 h49 =>
  zob (zsA h49 v46 ((0 + 1) + 1) v48) (fun h51 =>
  zob (zgR h51 a0 1 0) (fun v52 =>
  zob (zln h51 v52) (fun v53 =>
  if v53 ≤ (((0 + 1) + 1) + 1) then
  zob (zgR h51 a0 1 0) (fun v54 =>
  zob (zaA 4 h51 v54 0) (fun v55 =>
  zob (zpV h51 a0 1 1 (.ref v55)) (fun h56 =>
  some ((), h56))))
  else
  zob (zgR h51 a0 1 0) (fun v57 =>
  zbd (znO h51 5 zfs_X5) (fun v59 h58 =>
  zbd ((f_X5_init v59 a1 h58)) (fun v61 h60 =>
  zob (zsA h60 v57 (((0 + 1) + 1) + 1) v59) (fun h62 =>
  zob (zgR h62 a0 1 0) (fun v63 =>
  zob (zln h62 v63) (fun v64 =>
  if v64 ≤ ((((0 + 1) + 1) + 1) + 1) then
  zob (zgR h62 a0 1 0) (fun v65 =>
  zob (zaA 4 h62 v65 0) (fun v66 =>
  zob (zpV h62 a0 1 1 (.ref v66)) (fun h67 =>
  some ((), h67))))
  else
  zob (zgR h62 a0 1 0) (fun v68 =>
  zbd (znO h62 5 zfs_X5) (fun v70 h69 =>
  zbd ((f_X5_init v70 a1 h69)) (fun v72 h71 =>
  zob (zsA h71 v68 ((((0 + 1) + 1) + 1) + 1) v70) (fun h73 =>
  zob (zgR h73 a0 1 0) (fun v74 =>
  zob (zln h73 v74) (fun v75 =>
  if v75 ≤ (((((0 + 1) + 1) + 1) + 1) + 1) then
  zob (zgR h73 a0 1 0) (fun v76 =>
  zob (zaA 4 h73 v76 0) (fun v77 =>
  zob (zpV h73 a0 1 1 (.ref v77)) (fun h78 =>
  some ((), h78))))
  else
  zob (zgR h73 a0 1 0) (fun v79 =>
  zbd (znO h73 5 zfs_X5) (fun v81 h80 =>
  zbd ((f_X5_init v81 a1 h80)) (fun v83 h82 =>
  zob (zsA h82 v79 (((((0 + 1) + 1) + 1) + 1) + 1) v81) (fun h84 =>
  zob (zgR h84 a0 1 0) (fun v85 =>
  zob (zln h84 v85) (fun v86 =>
  if v86 ≤ ((((((0 + 1) + 1) + 1) + 1) + 1) + 1) then
  zob (zgR h84 a0 1 0) (fun v87 =>
  zob (zaA 4 h84 v87 0) (fun v88 =>
  zob (zpV h84 a0 1 1 (.ref v88)) (fun h89 =>
  some ((), h89))))
  else
  zob (zgR h84 a0 1 0) (fun v90 =>
  zbd (znO h84 5 zfs_X5) (fun v92 h91 =>
  zbd ((f_X5_init v92 a1 h91)) (fun v94 h93 =>
  zob (zsA h93 v90 ((((((0 + 1) + 1) + 1) + 1) + 1) + 1) v92) (fun h95 =>
  none))))))))))))))))))))))))))))))))))))))))))))))))))))))
set_option maxRecDepth 100000 in
set_option maxHeartbeats 4000000 in
theorem t_X1_init (a0 : Nat) (a1 : Nat) (h0 : zHp) : ∀ (r : Unit) (h' : zHp), f_X1_init a0 a1 h0 = some (r, h') → zCt yX1_init (.code yX1_init cX1_init 3 none) 2 81 139 998 [.ref a0, .ref a1] h0 (none) h' := by
  refine zct_of M_X1_init yX1_init (by decide) rfl rfl [.ref a0, .ref a1] h0 (Nat.le_of_ble_eq_true rfl) (fun _ => none) (fun X => ?_)
  show zG X M_X1_init (0, 0) 0 [(0, .ref a0), (1, .ref a1)] [] h0 (f_X1_init a0 a1 h0) (fun (_ : Unit) h' => zKe X (none) h')
  unfold f_X1_init
  refine zg_aload_n 0 rfl d_X1_init_0 ?_
  refine zg_obj d_X1_init_1 ml_X1_3 zw_obi zw_obc (by decide) (Nat.le_of_ble_eq_true rfl) ?_
  refine zg_aload_n 0 rfl d_X1_init_4 ?_
  refine zg_bipush 6 rfl d_X1_init_5 ?_
  refine zg_anew (1, 6) d_X1_init_7 cl_X1_9 (by decide) rfl (by decide) ⟨by decide, by decide⟩ rfl (fun v2 h1 => ?_)
  refine zg_putF d_X1_init_10 zc_1 (by decide) fl_X1_11 rfl rfl rfl rfl rfl (fun h3 => ?_)
  refine zg_aload_n 0 rfl d_X1_init_13 ?_
  refine zg_bipush 24 rfl d_X1_init_14 ?_
  refine zg_newa (t := 0) (2, 30) d_X1_init_16 ac_0 rfl (fun _ => rfl) (fun _ _ q => q) (fun _ => rfl) (by decide) rfl (by decide) ⟨by decide, by decide⟩ rfl (fun v5 h4 => ?_)
  refine zg_putF d_X1_init_18 zc_1 (by decide) fl_X1_17 rfl rfl rfl rfl rfl (fun h6 => ?_)
  refine zg_aload_n 0 rfl d_X1_init_21 ?_
  refine zg_iconst 4 rfl d_X1_init_22 ?_
  refine zg_newa (t := 0) (3, 34) d_X1_init_23 ac_0 rfl (fun _ => rfl) (fun _ _ q => q) (fun _ => rfl) (by decide) rfl (by decide) ⟨by decide, by decide⟩ rfl (fun v8 h7 => ?_)
  refine zg_putF d_X1_init_25 zc_1 (by decide) fl_X1_21 rfl rfl rfl rfl rfl (fun h9 => ?_)
  refine zg_aload_n 0 rfl d_X1_init_28 ?_
  refine zg_iconst 4 rfl d_X1_init_29 ?_
  refine zg_newa (t := 0) (4, 38) d_X1_init_30 ac_0 rfl (fun _ => rfl) (fun _ _ q => q) (fun _ => rfl) (by decide) rfl (by decide) ⟨by decide, by decide⟩ rfl (fun v11 h10 => ?_)
  refine zg_putF d_X1_init_32 zc_1 (by decide) fl_X1_24 rfl rfl rfl rfl rfl (fun h12 => ?_)
  refine zg_aload_n 0 rfl d_X1_init_35 ?_
  refine zg_bipush 25 rfl d_X1_init_36 ?_
  refine zg_newa (t := 0) (5, 63) d_X1_init_38 ac_0 rfl (fun _ => rfl) (fun _ _ q => q) (fun _ => rfl) (by decide) rfl (by decide) ⟨by decide, by decide⟩ rfl (fun v14 h13 => ?_)
  refine zg_putF d_X1_init_40 zc_1 (by decide) fl_X1_27 rfl rfl rfl rfl rfl (fun h15 => ?_)
  refine zg_aload_n 0 rfl d_X1_init_43 ?_
  refine zg_bipush 25 rfl d_X1_init_44 ?_
  refine zg_newa (t := 0) (6, 88) d_X1_init_46 ac_0 rfl (fun _ => rfl) (fun _ _ q => q) (fun _ => rfl) (by decide) rfl (by decide) ⟨by decide, by decide⟩ rfl (fun v17 h16 => ?_)
  refine zg_putF d_X1_init_48 zc_1 (by decide) fl_X1_30 rfl rfl rfl rfl rfl (fun h18 => ?_)
  refine zg_iconst 0 rfl d_X1_init_51 ?_
  refine zg_istore_n [(2, .int 0), (0, .ref a0), (1, .ref a1)] d_X1_init_52 rfl (by decide) rfl ?_
  refine zg_iload_n 0 rfl d_X1_init_53 ?_
  refine zg_aload_n 1 rfl d_X1_init_54 ?_
  refine zg_getR d_X1_init_55 zc_1 (by decide) fl_X1_11 (fun v19 => ?_)
  refine zg_len d_X1_init_58 (fun v20 => ?_)
  refine zg_icmp_ge d_X1_init_59 ?_ ?_
  · refine zg_aload_n 1 rfl d_X1_init_82 ?_
    refine zg_aload_n 1 rfl d_X1_init_83 ?_
    refine zg_getR d_X1_init_84 zc_1 (by decide) fl_X1_11 (fun v21 => ?_)
    refine zg_iconst 0 rfl d_X1_init_87 ?_
    refine zg_ald4 d_X1_init_88 (fun v22 => ?_)
    refine zg_putF d_X1_init_89 zc_1 (by decide) fl_X1_36 rfl rfl rfl rfl rfl (fun h23 => ?_)
    exact zg_vretK d_X1_init_92 rfl ⟨Nat.le_of_ble_eq_true rfl, Nat.le_of_ble_eq_true rfl⟩ (fun q => q)
  · refine zg_aload_n 1 rfl d_X1_init_62 ?_
    refine zg_getR d_X1_init_63 zc_1 (by decide) fl_X1_11 (fun v24 => ?_)
    refine zg_iload_n 0 rfl d_X1_init_66 ?_
    refine zg_new (7, 104) d_X1_init_67 zc_5 cl_X1_9 it_X5 ni_X5 zfs_X5_ok ⟨by decide, by decide⟩ rfl (fun v26 h25 => ?_)
    refine zg_dup rfl d_X1_init_70 ?_
    refine zg_aload_n 2 rfl d_X1_init_71 ?_
    refine zg_cI (b := v26) (As := [.ref a1]) (rest := [.ref v26, .int 0, .ref v24]) (25, 218) d_X1_init_72 cw_X1_33 wi_X5_init rfl rfl rfl (Nat.le_of_ble_eq_true rfl) (by decide) (by decide) ⟨by decide, by decide⟩ rfl (t_X5_init v26 a1 h25) (fun v28 h27 => ?_)
    refine zg_aast d_X1_init_75 (fun h29 => ?_)
    refine zg_iinc 0 (0 + 1) [(2, .int (0 + 1)), (0, .ref a0), (1, .ref a1)] d_X1_init_76 rfl rfl (by decide) rfl ?_
    refine zg_goto d_X1_init_79 ?_
    refine zg_iload_n 0 rfl d_X1_init_53 ?_
    refine zg_aload_n 1 rfl d_X1_init_54 ?_
    refine zg_getR d_X1_init_55 zc_1 (by decide) fl_X1_11 (fun v30 => ?_)
    refine zg_len d_X1_init_58 (fun v31 => ?_)
    refine zg_icmp_ge d_X1_init_59 ?_ ?_
    · refine zg_aload_n 1 rfl d_X1_init_82 ?_
      refine zg_aload_n 1 rfl d_X1_init_83 ?_
      refine zg_getR d_X1_init_84 zc_1 (by decide) fl_X1_11 (fun v32 => ?_)
      refine zg_iconst 0 rfl d_X1_init_87 ?_
      refine zg_ald4 d_X1_init_88 (fun v33 => ?_)
      refine zg_putF d_X1_init_89 zc_1 (by decide) fl_X1_36 rfl rfl rfl rfl rfl (fun h34 => ?_)
      exact zg_vretK d_X1_init_92 rfl ⟨Nat.le_of_ble_eq_true rfl, Nat.le_of_ble_eq_true rfl⟩ (fun q => q)
    · refine zg_aload_n 1 rfl d_X1_init_62 ?_
      refine zg_getR d_X1_init_63 zc_1 (by decide) fl_X1_11 (fun v35 => ?_)
      refine zg_iload_n 0 rfl d_X1_init_66 ?_
      refine zg_new (26, 234) d_X1_init_67 zc_5 cl_X1_9 it_X5 ni_X5 zfs_X5_ok ⟨by decide, by decide⟩ rfl (fun v37 h36 => ?_)
      refine zg_dup rfl d_X1_init_70 ?_
      refine zg_aload_n 2 rfl d_X1_init_71 ?_
      refine zg_cI (b := v37) (As := [.ref a1]) (rest := [.ref v37, .int (0 + 1), .ref v35]) (44, 348) d_X1_init_72 cw_X1_33 wi_X5_init rfl rfl rfl (Nat.le_of_ble_eq_true rfl) (by decide) (by decide) ⟨by decide, by decide⟩ rfl (t_X5_init v37 a1 h36) (fun v39 h38 => ?_)
      refine zg_aast d_X1_init_75 (fun h40 => ?_)
      refine zg_iinc 0 ((0 + 1) + 1) [(2, .int ((0 + 1) + 1)), (0, .ref a0), (1, .ref a1)] d_X1_init_76 rfl rfl (by decide) rfl ?_
      refine zg_goto d_X1_init_79 ?_
      refine zg_iload_n 0 rfl d_X1_init_53 ?_
      refine zg_aload_n 1 rfl d_X1_init_54 ?_
      refine zg_getR d_X1_init_55 zc_1 (by decide) fl_X1_11 (fun v41 => ?_)
      refine zg_len d_X1_init_58 (fun v42 => ?_)
      refine zg_icmp_ge d_X1_init_59 ?_ ?_
      · refine zg_aload_n 1 rfl d_X1_init_82 ?_
        refine zg_aload_n 1 rfl d_X1_init_83 ?_
        refine zg_getR d_X1_init_84 zc_1 (by decide) fl_X1_11 (fun v43 => ?_)
        refine zg_iconst 0 rfl d_X1_init_87 ?_
        refine zg_ald4 d_X1_init_88 (fun v44 => ?_)
        refine zg_putF d_X1_init_89 zc_1 (by decide) fl_X1_36 rfl rfl rfl rfl rfl (fun h45 => ?_)
        exact zg_vretK d_X1_init_92 rfl ⟨Nat.le_of_ble_eq_true rfl, Nat.le_of_ble_eq_true rfl⟩ (fun q => q)
      · refine zg_aload_n 1 rfl d_X1_init_62 ?_
        refine zg_getR d_X1_init_63 zc_1 (by decide) fl_X1_11 (fun v46 => ?_)
        refine zg_iload_n 0 rfl d_X1_init_66 ?_
        refine zg_new (45, 364) d_X1_init_67 zc_5 cl_X1_9 it_X5 ni_X5 zfs_X5_ok ⟨by decide, by decide⟩ rfl (fun v48 h47 => ?_)
        refine zg_dup rfl d_X1_init_70 ?_
        refine zg_aload_n 2 rfl d_X1_init_71 ?_
        refine zg_cI (b := v48) (As := [.ref a1]) (rest := [.ref v48, .int ((0 + 1) + 1), .ref v46]) (63, 478) d_X1_init_72 cw_X1_33 wi_X5_init rfl rfl rfl (Nat.le_of_ble_eq_true rfl) (by decide) (by decide) ⟨by decide, by decide⟩ rfl (t_X5_init v48 a1 h47) (fun v50 h49 => ?_)
        refine zg_aast d_X1_init_75 (fun h51 => ?_)
        refine zg_iinc 0 (((0 + 1) + 1) + 1) [(2, .int (((0 + 1) + 1) + 1)), (0, .ref a0), (1, .ref a1)] d_X1_init_76 rfl rfl (by decide) rfl ?_
        refine zg_goto d_X1_init_79 ?_
        refine zg_iload_n 0 rfl d_X1_init_53 ?_
        refine zg_aload_n 1 rfl d_X1_init_54 ?_
        refine zg_getR d_X1_init_55 zc_1 (by decide) fl_X1_11 (fun v52 => ?_)
        refine zg_len d_X1_init_58 (fun v53 => ?_)
        refine zg_icmp_ge d_X1_init_59 ?_ ?_
        · refine zg_aload_n 1 rfl d_X1_init_82 ?_
          refine zg_aload_n 1 rfl d_X1_init_83 ?_
          refine zg_getR d_X1_init_84 zc_1 (by decide) fl_X1_11 (fun v54 => ?_)
          refine zg_iconst 0 rfl d_X1_init_87 ?_
          refine zg_ald4 d_X1_init_88 (fun v55 => ?_)
          refine zg_putF d_X1_init_89 zc_1 (by decide) fl_X1_36 rfl rfl rfl rfl rfl (fun h56 => ?_)
          exact zg_vretK d_X1_init_92 rfl ⟨Nat.le_of_ble_eq_true rfl, Nat.le_of_ble_eq_true rfl⟩ (fun q => q)
        · refine zg_aload_n 1 rfl d_X1_init_62 ?_
          refine zg_getR d_X1_init_63 zc_1 (by decide) fl_X1_11 (fun v57 => ?_)
          refine zg_iload_n 0 rfl d_X1_init_66 ?_
          refine zg_new (64, 494) d_X1_init_67 zc_5 cl_X1_9 it_X5 ni_X5 zfs_X5_ok ⟨by decide, by decide⟩ rfl (fun v59 h58 => ?_)
          refine zg_dup rfl d_X1_init_70 ?_
          refine zg_aload_n 2 rfl d_X1_init_71 ?_
          refine zg_cI (b := v59) (As := [.ref a1]) (rest := [.ref v59, .int (((0 + 1) + 1) + 1), .ref v57]) (82, 608) d_X1_init_72 cw_X1_33 wi_X5_init rfl rfl rfl (Nat.le_of_ble_eq_true rfl) (by decide) (by decide) ⟨by decide, by decide⟩ rfl (t_X5_init v59 a1 h58) (fun v61 h60 => ?_)
          refine zg_aast d_X1_init_75 (fun h62 => ?_)
          refine zg_iinc 0 ((((0 + 1) + 1) + 1) + 1) [(2, .int ((((0 + 1) + 1) + 1) + 1)), (0, .ref a0), (1, .ref a1)] d_X1_init_76 rfl rfl (by decide) rfl ?_
          refine zg_goto d_X1_init_79 ?_
          refine zg_iload_n 0 rfl d_X1_init_53 ?_
          refine zg_aload_n 1 rfl d_X1_init_54 ?_
          refine zg_getR d_X1_init_55 zc_1 (by decide) fl_X1_11 (fun v63 => ?_)
          refine zg_len d_X1_init_58 (fun v64 => ?_)
          refine zg_icmp_ge d_X1_init_59 ?_ ?_
          · refine zg_aload_n 1 rfl d_X1_init_82 ?_
            refine zg_aload_n 1 rfl d_X1_init_83 ?_
            refine zg_getR d_X1_init_84 zc_1 (by decide) fl_X1_11 (fun v65 => ?_)
            refine zg_iconst 0 rfl d_X1_init_87 ?_
            refine zg_ald4 d_X1_init_88 (fun v66 => ?_)
            refine zg_putF d_X1_init_89 zc_1 (by decide) fl_X1_36 rfl rfl rfl rfl rfl (fun h67 => ?_)
            exact zg_vretK d_X1_init_92 rfl ⟨Nat.le_of_ble_eq_true rfl, Nat.le_of_ble_eq_true rfl⟩ (fun q => q)
          · refine zg_aload_n 1 rfl d_X1_init_62 ?_
            refine zg_getR d_X1_init_63 zc_1 (by decide) fl_X1_11 (fun v68 => ?_)
            refine zg_iload_n 0 rfl d_X1_init_66 ?_
            refine zg_new (83, 624) d_X1_init_67 zc_5 cl_X1_9 it_X5 ni_X5 zfs_X5_ok ⟨by decide, by decide⟩ rfl (fun v70 h69 => ?_)
            refine zg_dup rfl d_X1_init_70 ?_
            refine zg_aload_n 2 rfl d_X1_init_71 ?_
            refine zg_cI (b := v70) (As := [.ref a1]) (rest := [.ref v70, .int ((((0 + 1) + 1) + 1) + 1), .ref v68]) (101, 738) d_X1_init_72 cw_X1_33 wi_X5_init rfl rfl rfl (Nat.le_of_ble_eq_true rfl) (by decide) (by decide) ⟨by decide, by decide⟩ rfl (t_X5_init v70 a1 h69) (fun v72 h71 => ?_)
            refine zg_aast d_X1_init_75 (fun h73 => ?_)
            refine zg_iinc 0 (((((0 + 1) + 1) + 1) + 1) + 1) [(2, .int (((((0 + 1) + 1) + 1) + 1) + 1)), (0, .ref a0), (1, .ref a1)] d_X1_init_76 rfl rfl (by decide) rfl ?_
            refine zg_goto d_X1_init_79 ?_
            refine zg_iload_n 0 rfl d_X1_init_53 ?_
            refine zg_aload_n 1 rfl d_X1_init_54 ?_
            refine zg_getR d_X1_init_55 zc_1 (by decide) fl_X1_11 (fun v74 => ?_)
            refine zg_len d_X1_init_58 (fun v75 => ?_)
            refine zg_icmp_ge d_X1_init_59 ?_ ?_
            · refine zg_aload_n 1 rfl d_X1_init_82 ?_
              refine zg_aload_n 1 rfl d_X1_init_83 ?_
              refine zg_getR d_X1_init_84 zc_1 (by decide) fl_X1_11 (fun v76 => ?_)
              refine zg_iconst 0 rfl d_X1_init_87 ?_
              refine zg_ald4 d_X1_init_88 (fun v77 => ?_)
              refine zg_putF d_X1_init_89 zc_1 (by decide) fl_X1_36 rfl rfl rfl rfl rfl (fun h78 => ?_)
              exact zg_vretK d_X1_init_92 rfl ⟨Nat.le_of_ble_eq_true rfl, Nat.le_of_ble_eq_true rfl⟩ (fun q => q)
            · refine zg_aload_n 1 rfl d_X1_init_62 ?_
              refine zg_getR d_X1_init_63 zc_1 (by decide) fl_X1_11 (fun v79 => ?_)
              refine zg_iload_n 0 rfl d_X1_init_66 ?_
              refine zg_new (102, 754) d_X1_init_67 zc_5 cl_X1_9 it_X5 ni_X5 zfs_X5_ok ⟨by decide, by decide⟩ rfl (fun v81 h80 => ?_)
              refine zg_dup rfl d_X1_init_70 ?_
              refine zg_aload_n 2 rfl d_X1_init_71 ?_
              refine zg_cI (b := v81) (As := [.ref a1]) (rest := [.ref v81, .int (((((0 + 1) + 1) + 1) + 1) + 1), .ref v79]) (120, 868) d_X1_init_72 cw_X1_33 wi_X5_init rfl rfl rfl (Nat.le_of_ble_eq_true rfl) (by decide) (by decide) ⟨by decide, by decide⟩ rfl (t_X5_init v81 a1 h80) (fun v83 h82 => ?_)
              refine zg_aast d_X1_init_75 (fun h84 => ?_)
              refine zg_iinc 0 ((((((0 + 1) + 1) + 1) + 1) + 1) + 1) [(2, .int ((((((0 + 1) + 1) + 1) + 1) + 1) + 1)), (0, .ref a0), (1, .ref a1)] d_X1_init_76 rfl rfl (by decide) rfl ?_
              refine zg_goto d_X1_init_79 ?_
              refine zg_iload_n 0 rfl d_X1_init_53 ?_
              refine zg_aload_n 1 rfl d_X1_init_54 ?_
              refine zg_getR d_X1_init_55 zc_1 (by decide) fl_X1_11 (fun v85 => ?_)
              refine zg_len d_X1_init_58 (fun v86 => ?_)
              refine zg_icmp_ge d_X1_init_59 ?_ ?_
              · refine zg_aload_n 1 rfl d_X1_init_82 ?_
                refine zg_aload_n 1 rfl d_X1_init_83 ?_
                refine zg_getR d_X1_init_84 zc_1 (by decide) fl_X1_11 (fun v87 => ?_)
                refine zg_iconst 0 rfl d_X1_init_87 ?_
                refine zg_ald4 d_X1_init_88 (fun v88 => ?_)
                refine zg_putF d_X1_init_89 zc_1 (by decide) fl_X1_36 rfl rfl rfl rfl rfl (fun h89 => ?_)
                exact zg_vretK d_X1_init_92 rfl ⟨Nat.le_of_ble_eq_true rfl, Nat.le_of_ble_eq_true rfl⟩ (fun q => q)
              · refine zg_aload_n 1 rfl d_X1_init_62 ?_
                refine zg_getR d_X1_init_63 zc_1 (by decide) fl_X1_11 (fun v90 => ?_)
                refine zg_iload_n 0 rfl d_X1_init_66 ?_
                refine zg_new (121, 884) d_X1_init_67 zc_5 cl_X1_9 it_X5 ni_X5 zfs_X5_ok ⟨by decide, by decide⟩ rfl (fun v92 h91 => ?_)
                refine zg_dup rfl d_X1_init_70 ?_
                refine zg_aload_n 2 rfl d_X1_init_71 ?_
                refine zg_cI (b := v92) (As := [.ref a1]) (rest := [.ref v92, .int ((((((0 + 1) + 1) + 1) + 1) + 1) + 1), .ref v90]) (139, 998) d_X1_init_72 cw_X1_33 wi_X5_init rfl rfl rfl (Nat.le_of_ble_eq_true rfl) (by decide) (by decide) ⟨by decide, by decide⟩ rfl (t_X5_init v92 a1 h91) (fun v94 h93 => ?_)
                refine zg_aast d_X1_init_75 (fun h95 => ?_)
                refine zg_iinc 0 (((((((0 + 1) + 1) + 1) + 1) + 1) + 1) + 1) [(2, .int (((((((0 + 1) + 1) + 1) + 1) + 1) + 1) + 1)), (0, .ref a0), (1, .ref a1)] d_X1_init_76 rfl rfl (by decide) rfl ?_
                refine zg_goto d_X1_init_79 ?_
                exact zg_none

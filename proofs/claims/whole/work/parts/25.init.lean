theorem ml_X4_3 : Cond.methodLink RX4 3 objectInit ∈ zT := zw_of _ 157 (by decide +kernel) (by decide +kernel)
theorem ac_1 : Cond.arrayClass .byte ∈ zT := zw_of _ 191 (by decide +kernel) (by decide +kernel)
theorem cl_X4_19 : Cond.classLink RX4 19 RX6 ∈ zT := zw_of _ 158 (by decide +kernel) (by decide +kernel)
theorem it_X6 : Cond.instantiable RX6 19 ∈ zT := zw_of _ 159 (by decide +kernel) (by decide +kernel)
def zfs_X6 : List Value := [.null, .null, .null, .null, .null, .null, .null, .null, .null, .null, .null, .null, .null, .int 0, .int 0, .int 0, .int 0, .int 0, .int 0]
theorem zfs_X6_ok : ∀ j, j < 19 → defaultValue (tyX6 j) = vp_V zfs_X6 j := by decide +kernel
theorem cd_X6_init : Cond.code yX6_init cX6_init 1 none ∈ zT := zw_of _ 162 (by decide +kernel) (by decide +kernel)
theorem cn_X4_21 : zCn RX4 21 yX6_init cX6_init 1 none 0 := ⟨fun _ q => q.1, ni_X6, cd_X6_init, by decide, by decide, by decide +kernel⟩
theorem wi_X6_init : Cond.instanceMethod yX6_init ∈ zT := zw_of _ 161 (by decide +kernel) (by decide +kernel)
theorem ml_X7_3 : Cond.methodLink RX7 3 objectInit ∈ zT := zw_of _ 149 (by decide +kernel) (by decide +kernel)
theorem cl_X7_19 : Cond.classLink RX7 19 RX4 ∈ zT := zw_of _ 152 (by decide +kernel) (by decide +kernel)
theorem it_X4 : Cond.instantiable RX4 16 ∈ zT := zw_of _ 153 (by decide +kernel) (by decide +kernel)
def zfs_X4 : List Value := [.null, .null, .int 0, .int 0, .int 0, .int 0, .int 0, .int 0, .int 0, .int 0, .null, .null, .int 0, .int 0, .int 0, .int 0]
theorem zfs_X4_ok : ∀ j, j < 16 → defaultValue (tyX4 j) = vp_V zfs_X4 j := by decide +kernel
theorem ml_X7_21 : Cond.methodLink RX7 21 yX4_init ∈ zT := zw_of _ 154 (by decide +kernel) (by decide +kernel)
theorem cd_X4_init : Cond.code yX4_init cX4_init 5 none ∈ zT := zw_of _ 156 (by decide +kernel) (by decide +kernel)
theorem cw_X7_21 : zCw RX7 21 yX4_init cX4_init 5 none 0 := ⟨ml_X7_21, ni_X4, cd_X4_init, by decide, by decide, by decide +kernel⟩
theorem wi_X4_init : Cond.instanceMethod yX4_init ∈ zT := zw_of _ 155 (by decide +kernel) (by decide +kernel)
theorem cl_X7_26 : Cond.classLink RX7 26 RX6 ∈ zT := zw_of _ 392 (by decide +kernel) (by decide +kernel)
theorem cn_X7_28 : zCn RX7 28 yX6_init cX6_init 1 none 0 := ⟨fun _ q => q.2.2.1, ni_X6, cd_X6_init, by decide, by decide, by decide +kernel⟩
theorem cl_X7_33 : Cond.classLink RX7 33 RX5 ∈ zT := zw_of _ 394 (by decide +kernel) (by decide +kernel)
theorem ml_X7_35 : Cond.methodLink RX7 35 yX5_init ∈ zT := zw_of _ 396 (by decide +kernel) (by decide +kernel)
theorem cw_X7_35 : zCw RX7 35 yX5_init cX5_init 2 none 1 := ⟨ml_X7_35, ni_X5, cd_X5_init, by decide, by decide, by decide +kernel⟩
theorem cl_X7_49 : Cond.classLink RX7 49 RX0 ∈ zT := zw_of _ 477 (by decide +kernel) (by decide +kernel)
theorem it_X0 : Cond.instantiable RX0 5 ∈ zT := zw_of _ 478 (by decide +kernel) (by decide +kernel)
def zfs_X0 : List Value := [.null, .null, .null, .null, .int 0]
theorem zfs_X0_ok : ∀ j, j < 5 → defaultValue (tyX0 j) = vp_V zfs_X0 j := by decide +kernel
theorem cd_X0_init : Cond.code yX0_init cX0_init 1 none ∈ zT := zw_of _ 481 (by decide +kernel) (by decide +kernel)
theorem cn_X7_51 : zCn RX7 51 yX0_init cX0_init 1 none 0 := ⟨fun _ q => q.2.2.2.2.1, ni_X0, cd_X0_init, by decide, by decide, by decide +kernel⟩
theorem wi_X0_init : Cond.instanceMethod yX0_init ∈ zT := zw_of _ 480 (by decide +kernel) (by decide +kernel)
theorem cl_X7_56 : Cond.classLink RX7 56 RX3 ∈ zT := zw_of _ 500 (by decide +kernel) (by decide +kernel)
theorem it_X3 : Cond.instantiable RX3 8 ∈ zT := zw_of _ 501 (by decide +kernel) (by decide +kernel)
def zfs_X3 : List Value := [.null, .null, .null, .null, .null, .null, .int 0, .int 0]
theorem zfs_X3_ok : ∀ j, j < 8 → defaultValue (tyX3 j) = vp_V zfs_X3 j := by decide +kernel
theorem cd_X3_init : Cond.code yX3_init cX3_init 1 none ∈ zT := zw_of _ 504 (by decide +kernel) (by decide +kernel)
theorem cn_X7_58 : zCn RX7 58 yX3_init cX3_init 1 none 0 := ⟨fun _ q => q.2.2.2.2.2.1, ni_X3, cd_X3_init, by decide, by decide, by decide +kernel⟩
theorem wi_X3_init : Cond.instanceMethod yX3_init ∈ zT := zw_of _ 503 (by decide +kernel) (by decide +kernel)
theorem cl_X7_63 : Cond.classLink RX7 63 RX1 ∈ zT := zw_of _ 534 (by decide +kernel) (by decide +kernel)
theorem it_X1 : Cond.instantiable RX1 9 ∈ zT := zw_of _ 535 (by decide +kernel) (by decide +kernel)
def zfs_X1 : List Value := [.null, .null, .null, .null, .null, .null, .null, .int 0, .int 0]
theorem zfs_X1_ok : ∀ j, j < 9 → defaultValue (tyX1 j) = vp_V zfs_X1 j := by decide +kernel
theorem ml_X7_65 : Cond.methodLink RX7 65 yX1_init ∈ zT := zw_of _ 536 (by decide +kernel) (by decide +kernel)
theorem cd_X1_init : Cond.code yX1_init cX1_init 3 none ∈ zT := zw_of _ 538 (by decide +kernel) (by decide +kernel)
theorem cw_X7_65 : zCw RX7 65 yX1_init cX1_init 3 none 1 := ⟨ml_X7_65, ni_X1, cd_X1_init, by decide, by decide, by decide +kernel⟩
theorem wi_X1_init : Cond.instanceMethod yX1_init ∈ zT := zw_of _ 537 (by decide +kernel) (by decide +kernel)
theorem ml_X8_1 : Cond.methodLink RX8 1 objectInit ∈ zT := zw_of _ 1346 (by decide +kernel) (by decide +kernel)
theorem ml_X8_148 : Cond.methodLink RX8 148 yX8_begins ∈ zT := zw_of _ 1347 (by decide +kernel) (by decide +kernel)
theorem cd_X8_begins : Cond.code yX8_begins cX8_begins 1 none ∈ zT := zw_of _ 1350 (by decide +kernel) (by decide +kernel)
theorem cw_X8_148 : zCw RX8 148 yX8_begins cX8_begins 1 none 0 := ⟨ml_X8_148, ni_X8, cd_X8_begins, by decide, by decide, by decide +kernel⟩
theorem wi_X8_begins : Cond.instanceMethod yX8_begins ∈ zT := zw_of _ 1349 (by decide +kernel) (by decide +kernel)
theorem ws_X8_begins : Cond.selects RX8 yX8_begins yX8_begins ∈ zT := zw_of _ 50 (by decide +kernel) (by decide +kernel)
abbrev M_X4_init : zMt := (RX4, cX4_init, 5, 5, 201, none, "<init>", 21, 355)
theorem d_X4_init_0 : zDc M_X4_init 0 (.aload_n 0) 1 1 := ⟨by decide +kernel, rfl⟩
theorem d_X4_init_1 : zDc M_X4_init 1 (.invokespecial 3) 3 4 := ⟨by decide +kernel, rfl⟩
theorem d_X4_init_4 : zDc M_X4_init 4 (.aload_n 0) 1 5 := ⟨by decide +kernel, rfl⟩
theorem d_X4_init_5 : zDc M_X4_init 5 (.bipush 23) 2 7 := ⟨by decide +kernel, rfl⟩
theorem d_X4_init_7 : zDc M_X4_init 7 (.newarray .int) 2 9 := ⟨by decide +kernel, rfl⟩
theorem d_X4_init_9 : zDc M_X4_init 9 (.putfield 9) 3 12 := ⟨by decide +kernel, rfl⟩
theorem d_X4_init_12 : zDc M_X4_init 12 (.aload_n 0) 1 13 := ⟨by decide +kernel, rfl⟩
theorem d_X4_init_13 : zDc M_X4_init 13 (.iconst 0) 1 14 := ⟨by decide +kernel, rfl⟩
theorem d_X4_init_14 : zDc M_X4_init 14 (.newarray .byte) 2 16 := ⟨by decide +kernel, rfl⟩
theorem d_X4_init_16 : zDc M_X4_init 16 (.putfield 15) 3 19 := ⟨by decide +kernel, rfl⟩
theorem d_X4_init_19 : zDc M_X4_init 19 (.aload_n 0) 1 20 := ⟨by decide +kernel, rfl⟩
theorem d_X4_init_20 : zDc M_X4_init 20 (.new 19) 3 23 := ⟨by decide +kernel, rfl⟩
theorem d_X4_init_23 : zDc M_X4_init 23 (.dup) 1 24 := ⟨by decide +kernel, rfl⟩
theorem d_X4_init_24 : zDc M_X4_init 24 (.invokespecial 21) 3 27 := ⟨by decide +kernel, rfl⟩
theorem d_X4_init_27 : zDc M_X4_init 27 (.putfield 22) 3 30 := ⟨by decide +kernel, rfl⟩
theorem d_X4_init_30 : zDc M_X4_init 30 (.aload_n 0) 1 31 := ⟨by decide +kernel, rfl⟩
theorem d_X4_init_31 : zDc M_X4_init 31 (.bipush 72) 2 33 := ⟨by decide +kernel, rfl⟩
theorem d_X4_init_33 : zDc M_X4_init 33 (.newarray .int) 2 35 := ⟨by decide +kernel, rfl⟩
theorem d_X4_init_35 : zDc M_X4_init 35 (.putfield 26) 3 38 := ⟨by decide +kernel, rfl⟩
theorem d_X4_init_38 : zDc M_X4_init 38 (.aload_n 0) 1 39 := ⟨by decide +kernel, rfl⟩
theorem d_X4_init_39 : zDc M_X4_init 39 (.iconst 0) 1 40 := ⟨by decide +kernel, rfl⟩
theorem d_X4_init_40 : zDc M_X4_init 40 (.putfield 29) 3 43 := ⟨by decide +kernel, rfl⟩
theorem d_X4_init_43 : zDc M_X4_init 43 (.aload_n 0) 1 44 := ⟨by decide +kernel, rfl⟩
theorem d_X4_init_44 : zDc M_X4_init 44 (.iconst (-1)) 1 45 := ⟨by decide +kernel, rfl⟩
theorem d_X4_init_45 : zDc M_X4_init 45 (.putfield 33) 3 48 := ⟨by decide +kernel, rfl⟩
theorem d_X4_init_48 : zDc M_X4_init 48 (.iconst 0) 1 49 := ⟨by decide +kernel, rfl⟩
theorem d_X4_init_49 : zDc M_X4_init 49 (.istore_n 1) 1 50 := ⟨by decide +kernel, rfl⟩
theorem d_X4_init_50 : zDc M_X4_init 50 (.iload_n 1) 1 51 := ⟨by decide +kernel, rfl⟩
theorem d_X4_init_51 : zDc M_X4_init 51 (.bipush 23) 2 53 := ⟨by decide +kernel, rfl⟩
theorem d_X4_init_53 : zDj M_X4_init 53 (.if_icmp .ge 68) 68 56 121 := ⟨by decide +kernel, rfl, by decide⟩
theorem d_X4_init_56 : zDc M_X4_init 56 (.iconst 0) 1 57 := ⟨by decide +kernel, rfl⟩
theorem d_X4_init_57 : zDc M_X4_init 57 (.istore_n 2) 1 58 := ⟨by decide +kernel, rfl⟩
theorem d_X4_init_58 : zDc M_X4_init 58 (.iconst 0) 1 59 := ⟨by decide +kernel, rfl⟩
theorem d_X4_init_59 : zDc M_X4_init 59 (.istore_n 3) 1 60 := ⟨by decide +kernel, rfl⟩
theorem d_X4_init_60 : zDc M_X4_init 60 (.iload_n 3) 1 61 := ⟨by decide +kernel, rfl⟩
theorem d_X4_init_61 : zDc M_X4_init 61 (.bipush 6) 2 63 := ⟨by decide +kernel, rfl⟩
theorem d_X4_init_63 : zDj M_X4_init 63 (.if_icmp .ge 45) 45 66 108 := ⟨by decide +kernel, rfl, by decide⟩
theorem d_X4_init_66 : zDc M_X4_init 66 (.ldc 36) 2 68 := ⟨by decide +kernel, rfl⟩
theorem d_X4_init_68 : zDc M_X4_init 68 (.iload_n 1) 1 69 := ⟨by decide +kernel, rfl⟩
theorem d_X4_init_69 : zDc M_X4_init 69 (.bipush 6) 2 71 := ⟨by decide +kernel, rfl⟩
theorem d_X4_init_71 : zDc M_X4_init 71 (.imul) 1 72 := ⟨by decide +kernel, rfl⟩
theorem d_X4_init_72 : zDc M_X4_init 72 (.iload_n 3) 1 73 := ⟨by decide +kernel, rfl⟩
theorem d_X4_init_73 : zDc M_X4_init 73 (.iadd) 1 74 := ⟨by decide +kernel, rfl⟩
theorem d_X4_init_74 : zDc M_X4_init 74 (.invokevirtual 38) 3 77 := ⟨by decide +kernel, rfl⟩
theorem d_X4_init_77 : zDc M_X4_init 77 (.istore 4) 2 79 := ⟨by decide +kernel, rfl⟩
theorem d_X4_init_79 : zDc M_X4_init 79 (.iload_n 2) 1 80 := ⟨by decide +kernel, rfl⟩
theorem d_X4_init_80 : zDc M_X4_init 80 (.iconst 5) 1 81 := ⟨by decide +kernel, rfl⟩
theorem d_X4_init_81 : zDc M_X4_init 81 (.ishl) 1 82 := ⟨by decide +kernel, rfl⟩
theorem d_X4_init_82 : zDc M_X4_init 82 (.iload 4) 2 84 := ⟨by decide +kernel, rfl⟩
theorem d_X4_init_84 : zDc M_X4_init 84 (.bipush 32) 2 86 := ⟨by decide +kernel, rfl⟩
theorem d_X4_init_86 : zDj M_X4_init 86 (.if_icmp .ne 7) 7 89 93 := ⟨by decide +kernel, rfl, by decide⟩
theorem d_X4_init_89 : zDc M_X4_init 89 (.iconst 0) 1 90 := ⟨by decide +kernel, rfl⟩
theorem d_X4_init_90 : zDj M_X4_init 90 (.goto 10) 10 93 100 := ⟨by decide +kernel, rfl, by decide⟩
theorem d_X4_init_93 : zDc M_X4_init 93 (.iload 4) 2 95 := ⟨by decide +kernel, rfl⟩
theorem d_X4_init_95 : zDc M_X4_init 95 (.bipush 97) 2 97 := ⟨by decide +kernel, rfl⟩
theorem d_X4_init_97 : zDc M_X4_init 97 (.isub) 1 98 := ⟨by decide +kernel, rfl⟩
theorem d_X4_init_98 : zDc M_X4_init 98 (.iconst 1) 1 99 := ⟨by decide +kernel, rfl⟩
theorem d_X4_init_99 : zDc M_X4_init 99 (.iadd) 1 100 := ⟨by decide +kernel, rfl⟩
theorem d_X4_init_100 : zDc M_X4_init 100 (.ior) 1 101 := ⟨by decide +kernel, rfl⟩
theorem d_X4_init_101 : zDc M_X4_init 101 (.istore_n 2) 1 102 := ⟨by decide +kernel, rfl⟩
theorem d_X4_init_102 : zDc M_X4_init 102 (.iinc 3 1) 3 105 := ⟨by decide +kernel, rfl⟩
theorem d_X4_init_105 : zDj M_X4_init 105 (.goto (-45)) (-45) 108 60 := ⟨by decide +kernel, rfl, by decide⟩
theorem d_X4_init_108 : zDc M_X4_init 108 (.aload_n 0) 1 109 := ⟨by decide +kernel, rfl⟩
theorem d_X4_init_109 : zDc M_X4_init 109 (.getfield 9) 3 112 := ⟨by decide +kernel, rfl⟩
theorem d_X4_init_112 : zDc M_X4_init 112 (.iload_n 1) 1 113 := ⟨by decide +kernel, rfl⟩
theorem d_X4_init_113 : zDc M_X4_init 113 (.iload_n 2) 1 114 := ⟨by decide +kernel, rfl⟩
theorem d_X4_init_114 : zDc M_X4_init 114 (.iastore) 1 115 := ⟨by decide +kernel, rfl⟩
theorem d_X4_init_115 : zDc M_X4_init 115 (.iinc 1 1) 3 118 := ⟨by decide +kernel, rfl⟩
theorem d_X4_init_118 : zDj M_X4_init 118 (.goto (-68)) (-68) 121 50 := ⟨by decide +kernel, rfl, by decide⟩
theorem d_X4_init_121 : zDc M_X4_init 121 (.return_) 1 122 := ⟨by decide +kernel, rfl⟩
def f_X4_init (a0 : Nat) (h0 : zHp) : Option (Unit × zHp) :=
  zbd (znA h0 0 (23, .inl (fun _ => 0))) (fun v2 h1 =>
  zob (zpV h1 a0 4 0 (.ref v2)) (fun h3 =>
  zbd (znA h3 1 (0, .inl (fun _ => 0))) (fun v5 h4 =>
  zob (zpV h4 a0 4 1 (.ref v5)) (fun h6 =>
  zbd (znO h6 6 zfs_X6) (fun v8 h7 =>
  zbd ((f_X6_init v8 h7)) (fun v10 h9 =>
  zob (zpV h9 a0 4 10 (.ref v8)) (fun h11 =>
  zbd (znA h11 0 (72, .inl (fun _ => 0))) (fun v13 h12 =>
  zob (zpV h12 a0 4 11 (.ref v13)) (fun h14 =>
  zob (zpV h14 a0 4 14 (.int 0)) (fun h15 =>
  zob (zpV h15 a0 4 15 (.int (-1))) (fun h16 =>
  zbd (
  zlp (σ := Int32) (β := Int32) zLF (fun s17 h18 =>
  if 23 ≤ s17 then
  some ((.inr s17), h18)
  else
  zbd (
  zlp (σ := (Int32 × Int32)) (β := (Int32 × Int32)) zLF (fun s21 h22 =>
  if 6 ≤ s21.2 then
  some ((.inr (s21.1, s21.2)), h22)
  else
  zob (zco 0 ((s17 * 6) + s21.2)) (fun v25 =>
  if v25 = 32 then
  some ((.inl (((s21.1 <<< (5 &&& 31)) ||| 0), (s21.2 + 1))), h22)
  else
  some ((.inl (((s21.1 <<< (5 &&& 31)) ||| ((v25 - 97) + 1)), (s21.2 + 1))), h22))) (0, 0) h18) (fun e23 h24 =>
  zob (zgR h24 a0 4 0) (fun v26 =>
  zob (zsI 0 h24 v26 s17 e23.1) (fun h27 =>
  some ((.inl (s17 + 1)), h27))))) 0 h16) (fun e19 h20 =>
  some ((), h20)))))))))))))
set_option maxRecDepth 100000 in
set_option maxHeartbeats 4000000 in
theorem t_X4_init (a0 : Nat) (h0 : zHp) : ∀ (r : Unit) (h' : zHp), f_X4_init a0 h0 = some (r, h') → zCt yX4_init (.code yX4_init cX4_init 5 none) 5 201 21 355 [.ref a0] h0 (none) h' := by
  refine zct_of M_X4_init yX4_init (by decide) rfl rfl [.ref a0] h0 (Nat.le_of_ble_eq_true rfl) (fun _ => none) (fun X => ?_)
  show zG X M_X4_init (0, 0) 0 [(0, .ref a0)] [] h0 (f_X4_init a0 h0) (fun (_ : Unit) h' => zKe X (none) h')
  unfold f_X4_init
  refine zg_aload_n 0 rfl d_X4_init_0 ?_
  refine zg_obj d_X4_init_1 ml_X4_3 zw_obi zw_obc (by decide) (Nat.le_of_ble_eq_true rfl) ?_
  refine zg_aload_n 0 rfl d_X4_init_4 ?_
  refine zg_bipush 23 rfl d_X4_init_5 ?_
  refine zg_newa (t := 0) (1, 23) d_X4_init_7 ac_0 rfl (fun _ => rfl) (fun _ _ q => q) (fun _ => rfl) (by decide) rfl (by decide) ⟨by decide, by decide⟩ rfl (fun v2 h1 => ?_)
  refine zg_putF d_X4_init_9 zc_4 (by decide) fl_X4_9 rfl rfl rfl rfl rfl (fun h3 => ?_)
  refine zg_aload_n 0 rfl d_X4_init_12 ?_
  refine zg_iconst 0 rfl d_X4_init_13 ?_
  refine zg_newa (t := 1) (2, 23) d_X4_init_14 ac_1 rfl (fun _ => rfl) (fun _ _ q => q) (fun _ => rfl) (by decide) rfl (by decide) ⟨by decide, by decide⟩ rfl (fun v5 h4 => ?_)
  refine zg_putV d_X4_init_16 zc_4 (by decide) fl_X4_15 rfl rfl rfl (fun h6 => ?_)
  refine zg_aload_n 0 rfl d_X4_init_19 ?_
  refine zg_new (3, 42) d_X4_init_20 zc_6 cl_X4_19 it_X6 ni_X6 zfs_X6_ok ⟨by decide, by decide⟩ rfl (fun v8 h7 => ?_)
  refine zg_dup rfl d_X4_init_23 ?_
  refine zg_cIN (b := v8) (As := []) (rest := [.ref v8, .ref a0]) (20, 283) d_X4_init_24 cn_X4_21 wi_X6_init rfl rfl rfl (Nat.le_of_ble_eq_true rfl) (by decide) (by decide) ⟨by decide, by decide⟩ rfl (t_X6_init v8 h7) (fun v10 h9 => ?_)
  refine zg_putV d_X4_init_27 zc_4 (by decide) fl_X4_22 rfl rfl rfl (fun h11 => ?_)
  refine zg_aload_n 0 rfl d_X4_init_30 ?_
  refine zg_bipush 72 rfl d_X4_init_31 ?_
  refine zg_newa (t := 0) (21, 355) d_X4_init_33 ac_0 rfl (fun _ => rfl) (fun _ _ q => q) (fun _ => rfl) (by decide) rfl (by decide) ⟨by decide, by decide⟩ rfl (fun v13 h12 => ?_)
  refine zg_putF d_X4_init_35 zc_4 (by decide) fl_X4_26 rfl rfl rfl rfl rfl (fun h14 => ?_)
  refine zg_aload_n 0 rfl d_X4_init_38 ?_
  refine zg_iconst 0 rfl d_X4_init_39 ?_
  refine zg_putV d_X4_init_40 zc_4 (by decide) fl_X4_29 rfl rfl rfl (fun h15 => ?_)
  refine zg_aload_n 0 rfl d_X4_init_43 ?_
  refine zg_iconst (-1) rfl d_X4_init_44 ?_
  refine zg_putV d_X4_init_45 zc_4 (by decide) fl_X4_33 rfl rfl rfl (fun h16 => ?_)
  refine zg_iconst 0 rfl d_X4_init_48 ?_
  refine zg_istore_n [(1, .int 0), (0, .ref a0)] d_X4_init_49 rfl (by decide) rfl ?_
  refine zg_bd (E := 121) (el := (fun (e19 : Int32) => [(0, .ref a0), (1, .int e19)])) (es := fun _ => []) (zg_sub [1, 0] rfl (zg_lp (el := (fun (s17 : Int32) => [(0, .ref a0), (1, .int s17)])) (fun s17 h18 => ?_) 0 h16)) (fun e19 h20 => ?_)
  · refine zg_iload_n 1 rfl d_X4_init_50 ?_
    refine zg_bipush 23 rfl d_X4_init_51 ?_
    refine zg_icmp_ge d_X4_init_53 ?_ ?_
    · exact zg_finK (E := 0) [0, 1] rfl rfl (fun q => q)
    · refine zg_iconst 0 rfl d_X4_init_56 ?_
      refine zg_istore_n [(2, .int 0), (0, .ref a0), (1, .int s17)] d_X4_init_57 rfl (by decide) rfl ?_
      refine zg_iconst 0 rfl d_X4_init_58 ?_
      refine zg_istore_n [(3, .int 0), (2, .int 0), (0, .ref a0), (1, .int s17)] d_X4_init_59 rfl (by decide) rfl ?_
      refine zg_bd (E := 108) (el := (fun (e23 : (Int32 × Int32)) => [(0, .ref a0), (1, .int s17), (2, .int e23.1), (3, .int e23.2)])) (es := fun _ => []) (zg_sub [2, 3, 1, 0] rfl (zg_lp (el := (fun (s21 : (Int32 × Int32)) => [(0, .ref a0), (1, .int s17), (2, .int s21.1), (3, .int s21.2)])) (fun s21 h22 => ?_) (0, 0) h18)) (fun e23 h24 => ?_)
      · refine zg_iload_n 3 rfl d_X4_init_60 ?_
        refine zg_bipush 6 rfl d_X4_init_61 ?_
        refine zg_icmp_ge d_X4_init_63 ?_ ?_
        · exact zg_finK (E := 0) [0, 1, 2, 3] rfl rfl (fun q => q)
        · refine zg_ldc0 rfl d_X4_init_66 ?_
          refine zg_iload_n 1 rfl d_X4_init_68 ?_
          refine zg_bipush 6 rfl d_X4_init_69 ?_
          refine zg_imul d_X4_init_71 ?_
          refine zg_iload_n 3 rfl d_X4_init_72 ?_
          refine zg_iadd d_X4_init_73 ?_
          refine zg_chr (by decide) d_X4_init_74 jw_X4_38 (Nat.le_of_ble_eq_true rfl) (by decide) (by decide) ⟨Nat.le_of_ble_eq_true rfl, Nat.le_of_ble_eq_true rfl⟩ (fun v25 => ?_)
          refine zg_istore [(4, .int v25), (0, .ref a0), (1, .int s17), (2, .int s21.1), (3, .int s21.2)] d_X4_init_77 (by decide) rfl ?_
          refine zg_iload_n 3 rfl d_X4_init_79 ?_
          refine zg_iconst 5 rfl d_X4_init_80 ?_
          refine zg_ishl d_X4_init_81 ?_
          refine zg_iload 0 rfl d_X4_init_82 ?_
          refine zg_bipush 32 rfl d_X4_init_84 ?_
          refine zg_icmp_ne d_X4_init_86 ?_ ?_
          · refine zg_iconst 0 rfl d_X4_init_89 ?_
            refine zg_goto d_X4_init_90 ?_
            refine zg_ior d_X4_init_100 ?_
            refine zg_istore_n [(2, .int ((s21.1 <<< (5 &&& 31)) ||| 0)), (4, .int v25), (0, .ref a0), (1, .int s17), (3, .int s21.2)] d_X4_init_101 rfl (by decide) rfl ?_
            refine zg_iinc 4 (s21.2 + 1) [(3, .int (s21.2 + 1)), (2, .int ((s21.1 <<< (5 &&& 31)) ||| 0)), (4, .int v25), (0, .ref a0), (1, .int s17)] d_X4_init_102 rfl rfl (by decide) rfl ?_
            refine zg_goto d_X4_init_105 ?_
            exact zg_finK (E := 0) [3, 4, 1, 0] rfl rfl (fun q => q)
          · refine zg_iload 0 rfl d_X4_init_93 ?_
            refine zg_bipush 97 rfl d_X4_init_95 ?_
            refine zg_isub d_X4_init_97 ?_
            refine zg_iconst 1 rfl d_X4_init_98 ?_
            refine zg_iadd d_X4_init_99 ?_
            refine zg_ior d_X4_init_100 ?_
            refine zg_istore_n [(2, .int ((s21.1 <<< (5 &&& 31)) ||| ((v25 - 97) + 1))), (4, .int v25), (0, .ref a0), (1, .int s17), (3, .int s21.2)] d_X4_init_101 rfl (by decide) rfl ?_
            refine zg_iinc 4 (s21.2 + 1) [(3, .int (s21.2 + 1)), (2, .int ((s21.1 <<< (5 &&& 31)) ||| ((v25 - 97) + 1))), (4, .int v25), (0, .ref a0), (1, .int s17)] d_X4_init_102 rfl rfl (by decide) rfl ?_
            refine zg_goto d_X4_init_105 ?_
            exact zg_finK (E := 0) [3, 4, 1, 0] rfl rfl (fun q => q)
      · refine zg_aload_n 0 rfl d_X4_init_108 ?_
        refine zg_getR d_X4_init_109 zc_4 (by decide) fl_X4_9 (fun v26 => ?_)
        refine zg_iload_n 1 rfl d_X4_init_112 ?_
        refine zg_iload_n 2 rfl d_X4_init_113 ?_
        refine zg_ast0 d_X4_init_114 (fun h27 => ?_)
        refine zg_iinc 1 (s17 + 1) [(1, .int (s17 + 1)), (0, .ref a0), (2, .int e23.1), (3, .int e23.2)] d_X4_init_115 rfl rfl (by decide) rfl ?_
        refine zg_goto d_X4_init_118 ?_
        exact zg_finK (E := 0) [1, 0] rfl rfl (fun q => q)
  · exact zg_vretK d_X4_init_121 rfl ⟨Nat.le_of_ble_eq_true rfl, Nat.le_of_ble_eq_true rfl⟩ (fun q => q)
abbrev M_X7_init : zMt := (RX7, cX7_init, 1, 6, 225, none, "<init>", 231, 2835)
theorem d_X7_init_0 : zDc M_X7_init 0 (.aload_n 0) 1 1 := ⟨by decide +kernel, rfl⟩
theorem d_X7_init_1 : zDc M_X7_init 1 (.invokespecial 3) 3 4 := ⟨by decide +kernel, rfl⟩
theorem d_X7_init_4 : zDc M_X7_init 4 (.aload_n 0) 1 5 := ⟨by decide +kernel, rfl⟩
theorem d_X7_init_5 : zDc M_X7_init 5 (.sipush 700) 3 8 := ⟨by decide +kernel, rfl⟩
theorem d_X7_init_8 : zDc M_X7_init 8 (.newarray .byte) 2 10 := ⟨by decide +kernel, rfl⟩
theorem d_X7_init_10 : zDc M_X7_init 10 (.putfield 11) 3 13 := ⟨by decide +kernel, rfl⟩
theorem d_X7_init_13 : zDc M_X7_init 13 (.aload_n 0) 1 14 := ⟨by decide +kernel, rfl⟩
theorem d_X7_init_14 : zDc M_X7_init 14 (.iconst 0) 1 15 := ⟨by decide +kernel, rfl⟩
theorem d_X7_init_15 : zDc M_X7_init 15 (.putfield 15) 3 18 := ⟨by decide +kernel, rfl⟩
theorem d_X7_init_18 : zDc M_X7_init 18 (.aload_n 0) 1 19 := ⟨by decide +kernel, rfl⟩
theorem d_X7_init_19 : zDc M_X7_init 19 (.new 19) 3 22 := ⟨by decide +kernel, rfl⟩
theorem d_X7_init_22 : zDc M_X7_init 22 (.dup) 1 23 := ⟨by decide +kernel, rfl⟩
theorem d_X7_init_23 : zDc M_X7_init 23 (.invokespecial 21) 3 26 := ⟨by decide +kernel, rfl⟩
theorem d_X7_init_26 : zDc M_X7_init 26 (.putfield 22) 3 29 := ⟨by decide +kernel, rfl⟩
theorem d_X7_init_29 : zDc M_X7_init 29 (.aload_n 0) 1 30 := ⟨by decide +kernel, rfl⟩
theorem d_X7_init_30 : zDc M_X7_init 30 (.new 26) 3 33 := ⟨by decide +kernel, rfl⟩
theorem d_X7_init_33 : zDc M_X7_init 33 (.dup) 1 34 := ⟨by decide +kernel, rfl⟩
theorem d_X7_init_34 : zDc M_X7_init 34 (.invokespecial 28) 3 37 := ⟨by decide +kernel, rfl⟩
theorem d_X7_init_37 : zDc M_X7_init 37 (.putfield 29) 3 40 := ⟨by decide +kernel, rfl⟩
theorem d_X7_init_40 : zDc M_X7_init 40 (.aload_n 0) 1 41 := ⟨by decide +kernel, rfl⟩
theorem d_X7_init_41 : zDc M_X7_init 41 (.new 33) 3 44 := ⟨by decide +kernel, rfl⟩
theorem d_X7_init_44 : zDc M_X7_init 44 (.dup) 1 45 := ⟨by decide +kernel, rfl⟩
theorem d_X7_init_45 : zDc M_X7_init 45 (.aload_n 0) 1 46 := ⟨by decide +kernel, rfl⟩
theorem d_X7_init_46 : zDc M_X7_init 46 (.getfield 29) 3 49 := ⟨by decide +kernel, rfl⟩
theorem d_X7_init_49 : zDc M_X7_init 49 (.invokespecial 35) 3 52 := ⟨by decide +kernel, rfl⟩
theorem d_X7_init_52 : zDc M_X7_init 52 (.putfield 38) 3 55 := ⟨by decide +kernel, rfl⟩
theorem d_X7_init_55 : zDc M_X7_init 55 (.aload_n 0) 1 56 := ⟨by decide +kernel, rfl⟩
theorem d_X7_init_56 : zDc M_X7_init 56 (.new 33) 3 59 := ⟨by decide +kernel, rfl⟩
theorem d_X7_init_59 : zDc M_X7_init 59 (.dup) 1 60 := ⟨by decide +kernel, rfl⟩
theorem d_X7_init_60 : zDc M_X7_init 60 (.aload_n 0) 1 61 := ⟨by decide +kernel, rfl⟩
theorem d_X7_init_61 : zDc M_X7_init 61 (.getfield 29) 3 64 := ⟨by decide +kernel, rfl⟩
theorem d_X7_init_64 : zDc M_X7_init 64 (.invokespecial 35) 3 67 := ⟨by decide +kernel, rfl⟩
theorem d_X7_init_67 : zDc M_X7_init 67 (.putfield 42) 3 70 := ⟨by decide +kernel, rfl⟩
theorem d_X7_init_70 : zDc M_X7_init 70 (.aload_n 0) 1 71 := ⟨by decide +kernel, rfl⟩
theorem d_X7_init_71 : zDc M_X7_init 71 (.iconst 0) 1 72 := ⟨by decide +kernel, rfl⟩
theorem d_X7_init_72 : zDc M_X7_init 72 (.putfield 45) 3 75 := ⟨by decide +kernel, rfl⟩
theorem d_X7_init_75 : zDc M_X7_init 75 (.aload_n 0) 1 76 := ⟨by decide +kernel, rfl⟩
theorem d_X7_init_76 : zDc M_X7_init 76 (.new 49) 3 79 := ⟨by decide +kernel, rfl⟩
theorem d_X7_init_79 : zDc M_X7_init 79 (.dup) 1 80 := ⟨by decide +kernel, rfl⟩
theorem d_X7_init_80 : zDc M_X7_init 80 (.invokespecial 51) 3 83 := ⟨by decide +kernel, rfl⟩
theorem d_X7_init_83 : zDc M_X7_init 83 (.putfield 52) 3 86 := ⟨by decide +kernel, rfl⟩
theorem d_X7_init_86 : zDc M_X7_init 86 (.aload_n 0) 1 87 := ⟨by decide +kernel, rfl⟩
theorem d_X7_init_87 : zDc M_X7_init 87 (.new 56) 3 90 := ⟨by decide +kernel, rfl⟩
theorem d_X7_init_90 : zDc M_X7_init 90 (.dup) 1 91 := ⟨by decide +kernel, rfl⟩
theorem d_X7_init_91 : zDc M_X7_init 91 (.invokespecial 58) 3 94 := ⟨by decide +kernel, rfl⟩
theorem d_X7_init_94 : zDc M_X7_init 94 (.putfield 59) 3 97 := ⟨by decide +kernel, rfl⟩
theorem d_X7_init_97 : zDc M_X7_init 97 (.aload_n 0) 1 98 := ⟨by decide +kernel, rfl⟩
theorem d_X7_init_98 : zDc M_X7_init 98 (.new 63) 3 101 := ⟨by decide +kernel, rfl⟩
theorem d_X7_init_101 : zDc M_X7_init 101 (.dup) 1 102 := ⟨by decide +kernel, rfl⟩
theorem d_X7_init_102 : zDc M_X7_init 102 (.aload_n 0) 1 103 := ⟨by decide +kernel, rfl⟩
theorem d_X7_init_103 : zDc M_X7_init 103 (.getfield 29) 3 106 := ⟨by decide +kernel, rfl⟩
theorem d_X7_init_106 : zDc M_X7_init 106 (.invokespecial 65) 3 109 := ⟨by decide +kernel, rfl⟩
theorem d_X7_init_109 : zDc M_X7_init 109 (.putfield 66) 3 112 := ⟨by decide +kernel, rfl⟩
theorem d_X7_init_112 : zDc M_X7_init 112 (.return_) 1 113 := ⟨by decide +kernel, rfl⟩
def f_X7_init (a0 : Nat) (h0 : zHp) : Option (Unit × zHp) :=
  zbd (znA h0 1 (700, .inl (fun _ => 0))) (fun v2 h1 =>
  zob (zpV h1 a0 7 0 (.ref v2)) (fun h3 =>
  zob (zpV h3 a0 7 1 (.int 0)) (fun h4 =>
  zbd (znO h4 4 zfs_X4) (fun v6 h5 =>
  zbd ((f_X4_init v6 h5)) (fun v8 h7 =>
  zob (zpV h7 a0 7 2 (.ref v6)) (fun h9 =>
  zbd (znO h9 6 zfs_X6) (fun v11 h10 =>
  zbd ((f_X6_init v11 h10)) (fun v13 h12 =>
  zob (zpV h12 a0 7 3 (.ref v11)) (fun h14 =>
  zbd (znO h14 5 zfs_X5) (fun v16 h15 =>
  zob (zgR h15 a0 7 3) (fun v17 =>
  zbd ((f_X5_init v16 v17 h15)) (fun v19 h18 =>
  zob (zpV h18 a0 7 4 (.ref v16)) (fun h20 =>
  zbd (znO h20 5 zfs_X5) (fun v22 h21 =>
  zob (zgR h21 a0 7 3) (fun v23 =>
  zbd ((f_X5_init v22 v23 h21)) (fun v25 h24 =>
  zob (zpV h24 a0 7 5 (.ref v22)) (fun h26 =>
  zob (zpV h26 a0 7 6 (.int 0)) (fun h27 =>
  zbd (znO h27 0 zfs_X0) (fun v29 h28 =>
  zbd ((f_X0_init v29 h28)) (fun v31 h30 =>
  zob (zpV h30 a0 7 7 (.ref v29)) (fun h32 =>
  zbd (znO h32 3 zfs_X3) (fun v34 h33 =>
  zbd ((f_X3_init v34 h33)) (fun v36 h35 =>
  zob (zpV h35 a0 7 8 (.ref v34)) (fun h37 =>
  zbd (znO h37 1 zfs_X1) (fun v39 h38 =>
  zob (zgR h38 a0 7 3) (fun v40 =>
  zbd ((f_X1_init v39 v40 h38)) (fun v42 h41 =>
  zob (zpV h41 a0 7 9 (.ref v39)) (fun h43 =>
  some ((), h43)))))))))))))))))))))))))))))
set_option maxRecDepth 100000 in
set_option maxHeartbeats 4000000 in
theorem t_X7_init (a0 : Nat) (h0 : zHp) : ∀ (r : Unit) (h' : zHp), f_X7_init a0 h0 = some (r, h') → zCt yX7_init (.code yX7_init cX7_init 1 none) 6 225 231 2835 [.ref a0] h0 (none) h' := by
  refine zct_of M_X7_init yX7_init (by decide) rfl rfl [.ref a0] h0 (Nat.le_of_ble_eq_true rfl) (fun _ => none) (fun X => ?_)
  show zG X M_X7_init (0, 0) 0 [(0, .ref a0)] [] h0 (f_X7_init a0 h0) (fun (_ : Unit) h' => zKe X (none) h')
  unfold f_X7_init
  refine zg_aload_n 0 rfl d_X7_init_0 ?_
  refine zg_obj d_X7_init_1 ml_X7_3 zw_obi zw_obc (by decide) (Nat.le_of_ble_eq_true rfl) ?_
  refine zg_aload_n 0 rfl d_X7_init_4 ?_
  refine zg_sipush 700 rfl d_X7_init_5 ?_
  refine zg_newa (t := 1) (1, 700) d_X7_init_8 ac_1 rfl (fun _ => rfl) (fun _ _ q => q) (fun _ => rfl) (by decide) rfl (by decide) ⟨by decide, by decide⟩ rfl (fun v2 h1 => ?_)
  refine zg_putF d_X7_init_10 zc_7 (by decide) fl_X7_11 rfl rfl rfl rfl rfl (fun h3 => ?_)
  refine zg_aload_n 0 rfl d_X7_init_13 ?_
  refine zg_iconst 0 rfl d_X7_init_14 ?_
  refine zg_putV d_X7_init_15 zc_7 (by decide) fl_X7_15 rfl rfl rfl (fun h4 => ?_)
  refine zg_aload_n 0 rfl d_X7_init_18 ?_
  refine zg_new (2, 716) d_X7_init_19 zc_4 cl_X7_19 it_X4 ni_X4 zfs_X4_ok ⟨by decide, by decide⟩ rfl (fun v6 h5 => ?_)
  refine zg_dup rfl d_X7_init_22 ?_
  refine zg_cI (b := v6) (As := []) (rest := [.ref v6, .ref a0]) (23, 1071) d_X7_init_23 cw_X7_21 wi_X4_init rfl rfl rfl (Nat.le_of_ble_eq_true rfl) (by decide) (by decide) ⟨by decide, by decide⟩ rfl (t_X4_init v6 h5) (fun v8 h7 => ?_)
  refine zg_putF d_X7_init_26 zc_7 (by decide) fl_X7_22 rfl rfl rfl rfl rfl (fun h9 => ?_)
  refine zg_aload_n 0 rfl d_X7_init_29 ?_
  refine zg_new (24, 1090) d_X7_init_30 zc_6 cl_X7_26 it_X6 ni_X6 zfs_X6_ok ⟨by decide, by decide⟩ rfl (fun v11 h10 => ?_)
  refine zg_dup rfl d_X7_init_33 ?_
  refine zg_cIN (b := v11) (As := []) (rest := [.ref v11, .ref a0]) (41, 1331) d_X7_init_34 cn_X7_28 wi_X6_init rfl rfl rfl (Nat.le_of_ble_eq_true rfl) (by decide) (by decide) ⟨by decide, by decide⟩ rfl (t_X6_init v11 h10) (fun v13 h12 => ?_)
  refine zg_putV d_X7_init_37 zc_7 (by decide) fl_X7_29 rfl rfl rfl (fun h14 => ?_)
  refine zg_aload_n 0 rfl d_X7_init_40 ?_
  refine zg_new (42, 1347) d_X7_init_41 zc_5 cl_X7_33 it_X5 ni_X5 zfs_X5_ok ⟨by decide, by decide⟩ rfl (fun v16 h15 => ?_)
  refine zg_dup rfl d_X7_init_44 ?_
  refine zg_aload_n 0 rfl d_X7_init_45 ?_
  refine zg_getR d_X7_init_46 zc_7 (by decide) fl_X7_29 (fun v17 => ?_)
  refine zg_cI (b := v16) (As := [.ref v17]) (rest := [.ref v16, .ref a0]) (60, 1461) d_X7_init_49 cw_X7_35 wi_X5_init rfl rfl rfl (Nat.le_of_ble_eq_true rfl) (by decide) (by decide) ⟨by decide, by decide⟩ rfl (t_X5_init v16 v17 h15) (fun v19 h18 => ?_)
  refine zg_putF d_X7_init_52 zc_7 (by decide) fl_X7_38 rfl rfl rfl rfl rfl (fun h20 => ?_)
  refine zg_aload_n 0 rfl d_X7_init_55 ?_
  refine zg_new (61, 1477) d_X7_init_56 zc_5 cl_X7_33 it_X5 ni_X5 zfs_X5_ok ⟨by decide, by decide⟩ rfl (fun v22 h21 => ?_)
  refine zg_dup rfl d_X7_init_59 ?_
  refine zg_aload_n 0 rfl d_X7_init_60 ?_
  refine zg_getR d_X7_init_61 zc_7 (by decide) fl_X7_29 (fun v23 => ?_)
  refine zg_cI (b := v22) (As := [.ref v23]) (rest := [.ref v22, .ref a0]) (79, 1591) d_X7_init_64 cw_X7_35 wi_X5_init rfl rfl rfl (Nat.le_of_ble_eq_true rfl) (by decide) (by decide) ⟨by decide, by decide⟩ rfl (t_X5_init v22 v23 h21) (fun v25 h24 => ?_)
  refine zg_putF d_X7_init_67 zc_7 (by decide) fl_X7_42 rfl rfl rfl rfl rfl (fun h26 => ?_)
  refine zg_aload_n 0 rfl d_X7_init_70 ?_
  refine zg_iconst 0 rfl d_X7_init_71 ?_
  refine zg_putV d_X7_init_72 zc_7 (by decide) fl_X7_45 rfl rfl rfl (fun h27 => ?_)
  refine zg_aload_n 0 rfl d_X7_init_75 ?_
  refine zg_new (80, 1596) d_X7_init_76 zc_0 cl_X7_49 it_X0 ni_X0 zfs_X0_ok ⟨by decide, by decide⟩ rfl (fun v29 h28 => ?_)
  refine zg_dup rfl d_X7_init_79 ?_
  refine zg_cIN (b := v29) (As := []) (rest := [.ref v29, .ref a0]) (84, 1676) d_X7_init_80 cn_X7_51 wi_X0_init rfl rfl rfl (Nat.le_of_ble_eq_true rfl) (by decide) (by decide) ⟨by decide, by decide⟩ rfl (t_X0_init v29 h28) (fun v31 h30 => ?_)
  refine zg_putF d_X7_init_83 zc_7 (by decide) fl_X7_52 rfl rfl rfl rfl rfl (fun h32 => ?_)
  refine zg_aload_n 0 rfl d_X7_init_86 ?_
  refine zg_new (85, 1684) d_X7_init_87 zc_3 cl_X7_56 it_X3 ni_X3 zfs_X3_ok ⟨by decide, by decide⟩ rfl (fun v34 h33 => ?_)
  refine zg_dup rfl d_X7_init_90 ?_
  refine zg_cIN (b := v34) (As := []) (rest := [.ref v34, .ref a0]) (91, 1828) d_X7_init_91 cn_X7_58 wi_X3_init rfl rfl rfl (Nat.le_of_ble_eq_true rfl) (by decide) (by decide) ⟨by decide, by decide⟩ rfl (t_X3_init v34 h33) (fun v36 h35 => ?_)
  refine zg_putF d_X7_init_94 zc_7 (by decide) fl_X7_59 rfl rfl rfl rfl rfl (fun h37 => ?_)
  refine zg_aload_n 0 rfl d_X7_init_97 ?_
  refine zg_new (92, 1837) d_X7_init_98 zc_1 cl_X7_63 it_X1 ni_X1 zfs_X1_ok ⟨by decide, by decide⟩ rfl (fun v39 h38 => ?_)
  refine zg_dup rfl d_X7_init_101 ?_
  refine zg_aload_n 0 rfl d_X7_init_102 ?_
  refine zg_getR d_X7_init_103 zc_7 (by decide) fl_X7_29 (fun v40 => ?_)
  refine zg_cI (b := v39) (As := [.ref v40]) (rest := [.ref v39, .ref a0]) (231, 2835) d_X7_init_106 cw_X7_65 wi_X1_init rfl rfl rfl (Nat.le_of_ble_eq_true rfl) (by decide) (by decide) ⟨by decide, by decide⟩ rfl (t_X1_init v39 v40 h38) (fun v42 h41 => ?_)
  refine zg_putF d_X7_init_109 zc_7 (by decide) fl_X7_66 rfl rfl rfl rfl rfl (fun h43 => ?_)
  exact zg_vretK d_X7_init_112 rfl ⟨Nat.le_of_ble_eq_true rfl, Nat.le_of_ble_eq_true rfl⟩ (fun q => q)
abbrev M_X8_init : zMt := (RX8, cX8_init, 1, 4, 124, none, "<init>", 40, 3621)
theorem d_X8_init_0 : zDc M_X8_init 0 (.aload_n 0) 1 1 := ⟨by decide +kernel, rfl⟩
theorem d_X8_init_1 : zDc M_X8_init 1 (.invokespecial 1) 3 4 := ⟨by decide +kernel, rfl⟩
theorem d_X8_init_4 : zDc M_X8_init 4 (.aload_n 0) 1 5 := ⟨by decide +kernel, rfl⟩
theorem d_X8_init_5 : zDc M_X8_init 5 (.sipush 700) 3 8 := ⟨by decide +kernel, rfl⟩
theorem d_X8_init_8 : zDc M_X8_init 8 (.newarray .int) 2 10 := ⟨by decide +kernel, rfl⟩
theorem d_X8_init_10 : zDc M_X8_init 10 (.putfield 7) 3 13 := ⟨by decide +kernel, rfl⟩
theorem d_X8_init_13 : zDc M_X8_init 13 (.aload_n 0) 1 14 := ⟨by decide +kernel, rfl⟩
theorem d_X8_init_14 : zDc M_X8_init 14 (.bipush 16) 2 16 := ⟨by decide +kernel, rfl⟩
theorem d_X8_init_16 : zDc M_X8_init 16 (.newarray .int) 2 18 := ⟨by decide +kernel, rfl⟩
theorem d_X8_init_18 : zDc M_X8_init 18 (.dup) 1 19 := ⟨by decide +kernel, rfl⟩
theorem d_X8_init_19 : zDc M_X8_init 19 (.iconst 0) 1 20 := ⟨by decide +kernel, rfl⟩
theorem d_X8_init_20 : zDc M_X8_init 20 (.iconst 0) 1 21 := ⟨by decide +kernel, rfl⟩
theorem d_X8_init_21 : zDc M_X8_init 21 (.iastore) 1 22 := ⟨by decide +kernel, rfl⟩
theorem d_X8_init_22 : zDc M_X8_init 22 (.dup) 1 23 := ⟨by decide +kernel, rfl⟩
theorem d_X8_init_23 : zDc M_X8_init 23 (.iconst 1) 1 24 := ⟨by decide +kernel, rfl⟩
theorem d_X8_init_24 : zDc M_X8_init 24 (.iconst 0) 1 25 := ⟨by decide +kernel, rfl⟩
theorem d_X8_init_25 : zDc M_X8_init 25 (.iastore) 1 26 := ⟨by decide +kernel, rfl⟩
theorem d_X8_init_26 : zDc M_X8_init 26 (.dup) 1 27 := ⟨by decide +kernel, rfl⟩
theorem d_X8_init_27 : zDc M_X8_init 27 (.iconst 2) 1 28 := ⟨by decide +kernel, rfl⟩
theorem d_X8_init_28 : zDc M_X8_init 28 (.iconst 0) 1 29 := ⟨by decide +kernel, rfl⟩
theorem d_X8_init_29 : zDc M_X8_init 29 (.iastore) 1 30 := ⟨by decide +kernel, rfl⟩
theorem d_X8_init_30 : zDc M_X8_init 30 (.dup) 1 31 := ⟨by decide +kernel, rfl⟩
theorem d_X8_init_31 : zDc M_X8_init 31 (.iconst 3) 1 32 := ⟨by decide +kernel, rfl⟩
theorem d_X8_init_32 : zDc M_X8_init 32 (.iconst 0) 1 33 := ⟨by decide +kernel, rfl⟩
theorem d_X8_init_33 : zDc M_X8_init 33 (.iastore) 1 34 := ⟨by decide +kernel, rfl⟩
theorem d_X8_init_34 : zDc M_X8_init 34 (.dup) 1 35 := ⟨by decide +kernel, rfl⟩
theorem d_X8_init_35 : zDc M_X8_init 35 (.iconst 4) 1 36 := ⟨by decide +kernel, rfl⟩
theorem d_X8_init_36 : zDc M_X8_init 36 (.bipush 6) 2 38 := ⟨by decide +kernel, rfl⟩
theorem d_X8_init_38 : zDc M_X8_init 38 (.iastore) 1 39 := ⟨by decide +kernel, rfl⟩
theorem d_X8_init_39 : zDc M_X8_init 39 (.dup) 1 40 := ⟨by decide +kernel, rfl⟩
theorem d_X8_init_40 : zDc M_X8_init 40 (.iconst 5) 1 41 := ⟨by decide +kernel, rfl⟩
theorem d_X8_init_41 : zDc M_X8_init 41 (.bipush 9) 2 43 := ⟨by decide +kernel, rfl⟩
theorem d_X8_init_43 : zDc M_X8_init 43 (.iastore) 1 44 := ⟨by decide +kernel, rfl⟩
theorem d_X8_init_44 : zDc M_X8_init 44 (.dup) 1 45 := ⟨by decide +kernel, rfl⟩
theorem d_X8_init_45 : zDc M_X8_init 45 (.bipush 6) 2 47 := ⟨by decide +kernel, rfl⟩
theorem d_X8_init_47 : zDc M_X8_init 47 (.iconst 0) 1 48 := ⟨by decide +kernel, rfl⟩
theorem d_X8_init_48 : zDc M_X8_init 48 (.iastore) 1 49 := ⟨by decide +kernel, rfl⟩
theorem d_X8_init_49 : zDc M_X8_init 49 (.dup) 1 50 := ⟨by decide +kernel, rfl⟩
theorem d_X8_init_50 : zDc M_X8_init 50 (.bipush 7) 2 52 := ⟨by decide +kernel, rfl⟩
theorem d_X8_init_52 : zDc M_X8_init 52 (.iconst 0) 1 53 := ⟨by decide +kernel, rfl⟩
theorem d_X8_init_53 : zDc M_X8_init 53 (.iastore) 1 54 := ⟨by decide +kernel, rfl⟩
theorem d_X8_init_54 : zDc M_X8_init 54 (.dup) 1 55 := ⟨by decide +kernel, rfl⟩
theorem d_X8_init_55 : zDc M_X8_init 55 (.bipush 8) 2 57 := ⟨by decide +kernel, rfl⟩
theorem d_X8_init_57 : zDc M_X8_init 57 (.iconst 0) 1 58 := ⟨by decide +kernel, rfl⟩
theorem d_X8_init_58 : zDc M_X8_init 58 (.iastore) 1 59 := ⟨by decide +kernel, rfl⟩
theorem d_X8_init_59 : zDc M_X8_init 59 (.dup) 1 60 := ⟨by decide +kernel, rfl⟩
theorem d_X8_init_60 : zDc M_X8_init 60 (.bipush 9) 2 62 := ⟨by decide +kernel, rfl⟩
theorem d_X8_init_62 : zDc M_X8_init 62 (.iconst 0) 1 63 := ⟨by decide +kernel, rfl⟩
theorem d_X8_init_63 : zDc M_X8_init 63 (.iastore) 1 64 := ⟨by decide +kernel, rfl⟩
theorem d_X8_init_64 : zDc M_X8_init 64 (.dup) 1 65 := ⟨by decide +kernel, rfl⟩
theorem d_X8_init_65 : zDc M_X8_init 65 (.bipush 10) 2 67 := ⟨by decide +kernel, rfl⟩
theorem d_X8_init_67 : zDc M_X8_init 67 (.iconst 0) 1 68 := ⟨by decide +kernel, rfl⟩
theorem d_X8_init_68 : zDc M_X8_init 68 (.iastore) 1 69 := ⟨by decide +kernel, rfl⟩
theorem d_X8_init_69 : zDc M_X8_init 69 (.dup) 1 70 := ⟨by decide +kernel, rfl⟩
theorem d_X8_init_70 : zDc M_X8_init 70 (.bipush 11) 2 72 := ⟨by decide +kernel, rfl⟩
theorem d_X8_init_72 : zDc M_X8_init 72 (.iconst 0) 1 73 := ⟨by decide +kernel, rfl⟩
theorem d_X8_init_73 : zDc M_X8_init 73 (.iastore) 1 74 := ⟨by decide +kernel, rfl⟩
theorem d_X8_init_74 : zDc M_X8_init 74 (.dup) 1 75 := ⟨by decide +kernel, rfl⟩
theorem d_X8_init_75 : zDc M_X8_init 75 (.bipush 12) 2 77 := ⟨by decide +kernel, rfl⟩
theorem d_X8_init_77 : zDc M_X8_init 77 (.bipush 6) 2 79 := ⟨by decide +kernel, rfl⟩
theorem d_X8_init_79 : zDc M_X8_init 79 (.iastore) 1 80 := ⟨by decide +kernel, rfl⟩
theorem d_X8_init_80 : zDc M_X8_init 80 (.dup) 1 81 := ⟨by decide +kernel, rfl⟩
theorem d_X8_init_81 : zDc M_X8_init 81 (.bipush 13) 2 83 := ⟨by decide +kernel, rfl⟩
theorem d_X8_init_83 : zDc M_X8_init 83 (.bipush 9) 2 85 := ⟨by decide +kernel, rfl⟩
theorem d_X8_init_85 : zDc M_X8_init 85 (.iastore) 1 86 := ⟨by decide +kernel, rfl⟩
theorem d_X8_init_86 : zDc M_X8_init 86 (.dup) 1 87 := ⟨by decide +kernel, rfl⟩
theorem d_X8_init_87 : zDc M_X8_init 87 (.bipush 14) 2 89 := ⟨by decide +kernel, rfl⟩
theorem d_X8_init_89 : zDc M_X8_init 89 (.iconst 0) 1 90 := ⟨by decide +kernel, rfl⟩
theorem d_X8_init_90 : zDc M_X8_init 90 (.iastore) 1 91 := ⟨by decide +kernel, rfl⟩
theorem d_X8_init_91 : zDc M_X8_init 91 (.dup) 1 92 := ⟨by decide +kernel, rfl⟩
theorem d_X8_init_92 : zDc M_X8_init 92 (.bipush 15) 2 94 := ⟨by decide +kernel, rfl⟩
theorem d_X8_init_94 : zDc M_X8_init 94 (.iconst 0) 1 95 := ⟨by decide +kernel, rfl⟩
theorem d_X8_init_95 : zDc M_X8_init 95 (.iastore) 1 96 := ⟨by decide +kernel, rfl⟩
theorem d_X8_init_96 : zDc M_X8_init 96 (.putfield 13) 3 99 := ⟨by decide +kernel, rfl⟩
theorem d_X8_init_99 : zDc M_X8_init 99 (.aload_n 0) 1 100 := ⟨by decide +kernel, rfl⟩
theorem d_X8_init_100 : zDc M_X8_init 100 (.bipush 48) 2 102 := ⟨by decide +kernel, rfl⟩
theorem d_X8_init_102 : zDc M_X8_init 102 (.newarray .int) 2 104 := ⟨by decide +kernel, rfl⟩
theorem d_X8_init_104 : zDc M_X8_init 104 (.putfield 16) 3 107 := ⟨by decide +kernel, rfl⟩
theorem d_X8_init_107 : zDc M_X8_init 107 (.aload_n 0) 1 108 := ⟨by decide +kernel, rfl⟩
theorem d_X8_init_108 : zDc M_X8_init 108 (.bipush 10) 2 110 := ⟨by decide +kernel, rfl⟩
theorem d_X8_init_110 : zDc M_X8_init 110 (.newarray .int) 2 112 := ⟨by decide +kernel, rfl⟩
theorem d_X8_init_112 : zDc M_X8_init 112 (.putfield 19) 3 115 := ⟨by decide +kernel, rfl⟩
theorem d_X8_init_115 : zDc M_X8_init 115 (.aload_n 0) 1 116 := ⟨by decide +kernel, rfl⟩
theorem d_X8_init_116 : zDc M_X8_init 116 (.bipush 10) 2 118 := ⟨by decide +kernel, rfl⟩
theorem d_X8_init_118 : zDc M_X8_init 118 (.newarray .int) 2 120 := ⟨by decide +kernel, rfl⟩
theorem d_X8_init_120 : zDc M_X8_init 120 (.putfield 22) 3 123 := ⟨by decide +kernel, rfl⟩
theorem d_X8_init_123 : zDc M_X8_init 123 (.aload_n 0) 1 124 := ⟨by decide +kernel, rfl⟩
theorem d_X8_init_124 : zDc M_X8_init 124 (.bipush 10) 2 126 := ⟨by decide +kernel, rfl⟩
theorem d_X8_init_126 : zDc M_X8_init 126 (.newarray .int) 2 128 := ⟨by decide +kernel, rfl⟩
theorem d_X8_init_128 : zDc M_X8_init 128 (.putfield 25) 3 131 := ⟨by decide +kernel, rfl⟩
theorem d_X8_init_131 : zDc M_X8_init 131 (.aload_n 0) 1 132 := ⟨by decide +kernel, rfl⟩
theorem d_X8_init_132 : zDc M_X8_init 132 (.bipush 16) 2 134 := ⟨by decide +kernel, rfl⟩
theorem d_X8_init_134 : zDc M_X8_init 134 (.newarray .int) 2 136 := ⟨by decide +kernel, rfl⟩
theorem d_X8_init_136 : zDc M_X8_init 136 (.putfield 28) 3 139 := ⟨by decide +kernel, rfl⟩
theorem d_X8_init_139 : zDc M_X8_init 139 (.aload_n 0) 1 140 := ⟨by decide +kernel, rfl⟩
theorem d_X8_init_140 : zDc M_X8_init 140 (.bipush 16) 2 142 := ⟨by decide +kernel, rfl⟩
theorem d_X8_init_142 : zDc M_X8_init 142 (.newarray .int) 2 144 := ⟨by decide +kernel, rfl⟩
theorem d_X8_init_144 : zDc M_X8_init 144 (.putfield 31) 3 147 := ⟨by decide +kernel, rfl⟩
theorem d_X8_init_147 : zDc M_X8_init 147 (.aload_n 0) 1 148 := ⟨by decide +kernel, rfl⟩
theorem d_X8_init_148 : zDc M_X8_init 148 (.bipush 16) 2 150 := ⟨by decide +kernel, rfl⟩
theorem d_X8_init_150 : zDc M_X8_init 150 (.newarray .int) 2 152 := ⟨by decide +kernel, rfl⟩
theorem d_X8_init_152 : zDc M_X8_init 152 (.putfield 34) 3 155 := ⟨by decide +kernel, rfl⟩
theorem d_X8_init_155 : zDc M_X8_init 155 (.aload_n 0) 1 156 := ⟨by decide +kernel, rfl⟩
theorem d_X8_init_156 : zDc M_X8_init 156 (.bipush 16) 2 158 := ⟨by decide +kernel, rfl⟩
theorem d_X8_init_158 : zDc M_X8_init 158 (.newarray .int) 2 160 := ⟨by decide +kernel, rfl⟩
theorem d_X8_init_160 : zDc M_X8_init 160 (.putfield 37) 3 163 := ⟨by decide +kernel, rfl⟩
theorem d_X8_init_163 : zDc M_X8_init 163 (.aload_n 0) 1 164 := ⟨by decide +kernel, rfl⟩
theorem d_X8_init_164 : zDc M_X8_init 164 (.bipush 12) 2 166 := ⟨by decide +kernel, rfl⟩
theorem d_X8_init_166 : zDc M_X8_init 166 (.newarray .int) 2 168 := ⟨by decide +kernel, rfl⟩
theorem d_X8_init_168 : zDc M_X8_init 168 (.putfield 40) 3 171 := ⟨by decide +kernel, rfl⟩
theorem d_X8_init_171 : zDc M_X8_init 171 (.aload_n 0) 1 172 := ⟨by decide +kernel, rfl⟩
theorem d_X8_init_172 : zDc M_X8_init 172 (.bipush 12) 2 174 := ⟨by decide +kernel, rfl⟩
theorem d_X8_init_174 : zDc M_X8_init 174 (.newarray .int) 2 176 := ⟨by decide +kernel, rfl⟩
theorem d_X8_init_176 : zDc M_X8_init 176 (.putfield 43) 3 179 := ⟨by decide +kernel, rfl⟩
theorem d_X8_init_179 : zDc M_X8_init 179 (.aload_n 0) 1 180 := ⟨by decide +kernel, rfl⟩
theorem d_X8_init_180 : zDc M_X8_init 180 (.bipush 12) 2 182 := ⟨by decide +kernel, rfl⟩
theorem d_X8_init_182 : zDc M_X8_init 182 (.newarray .int) 2 184 := ⟨by decide +kernel, rfl⟩
theorem d_X8_init_184 : zDc M_X8_init 184 (.putfield 46) 3 187 := ⟨by decide +kernel, rfl⟩
theorem d_X8_init_187 : zDc M_X8_init 187 (.aload_n 0) 1 188 := ⟨by decide +kernel, rfl⟩
theorem d_X8_init_188 : zDc M_X8_init 188 (.bipush 24) 2 190 := ⟨by decide +kernel, rfl⟩
theorem d_X8_init_190 : zDc M_X8_init 190 (.newarray .int) 2 192 := ⟨by decide +kernel, rfl⟩
theorem d_X8_init_192 : zDc M_X8_init 192 (.putfield 49) 3 195 := ⟨by decide +kernel, rfl⟩
theorem d_X8_init_195 : zDc M_X8_init 195 (.aload_n 0) 1 196 := ⟨by decide +kernel, rfl⟩
theorem d_X8_init_196 : zDc M_X8_init 196 (.bipush 6) 2 198 := ⟨by decide +kernel, rfl⟩
theorem d_X8_init_198 : zDc M_X8_init 198 (.newarray .int) 2 200 := ⟨by decide +kernel, rfl⟩
theorem d_X8_init_200 : zDc M_X8_init 200 (.putfield 52) 3 203 := ⟨by decide +kernel, rfl⟩
theorem d_X8_init_203 : zDc M_X8_init 203 (.aload_n 0) 1 204 := ⟨by decide +kernel, rfl⟩
theorem d_X8_init_204 : zDc M_X8_init 204 (.bipush 6) 2 206 := ⟨by decide +kernel, rfl⟩
theorem d_X8_init_206 : zDc M_X8_init 206 (.newarray .int) 2 208 := ⟨by decide +kernel, rfl⟩
theorem d_X8_init_208 : zDc M_X8_init 208 (.putfield 55) 3 211 := ⟨by decide +kernel, rfl⟩
theorem d_X8_init_211 : zDc M_X8_init 211 (.aload_n 0) 1 212 := ⟨by decide +kernel, rfl⟩
theorem d_X8_init_212 : zDc M_X8_init 212 (.sipush 128) 3 215 := ⟨by decide +kernel, rfl⟩
theorem d_X8_init_215 : zDc M_X8_init 215 (.newarray .int) 2 217 := ⟨by decide +kernel, rfl⟩
theorem d_X8_init_217 : zDc M_X8_init 217 (.putfield 58) 3 220 := ⟨by decide +kernel, rfl⟩
theorem d_X8_init_220 : zDc M_X8_init 220 (.aload_n 0) 1 221 := ⟨by decide +kernel, rfl⟩
theorem d_X8_init_221 : zDc M_X8_init 221 (.sipush 128) 3 224 := ⟨by decide +kernel, rfl⟩
theorem d_X8_init_224 : zDc M_X8_init 224 (.newarray .int) 2 226 := ⟨by decide +kernel, rfl⟩
theorem d_X8_init_226 : zDc M_X8_init 226 (.putfield 61) 3 229 := ⟨by decide +kernel, rfl⟩
theorem d_X8_init_229 : zDc M_X8_init 229 (.aload_n 0) 1 230 := ⟨by decide +kernel, rfl⟩
theorem d_X8_init_230 : zDc M_X8_init 230 (.iconst (-1)) 1 231 := ⟨by decide +kernel, rfl⟩
theorem d_X8_init_231 : zDc M_X8_init 231 (.putfield 64) 3 234 := ⟨by decide +kernel, rfl⟩
theorem d_X8_init_234 : zDc M_X8_init 234 (.aload_n 0) 1 235 := ⟨by decide +kernel, rfl⟩
theorem d_X8_init_235 : zDc M_X8_init 235 (.bipush 7) 2 237 := ⟨by decide +kernel, rfl⟩
theorem d_X8_init_237 : zDc M_X8_init 237 (.newarray .long) 2 239 := ⟨by decide +kernel, rfl⟩
theorem d_X8_init_239 : zDc M_X8_init 239 (.putfield 68) 3 242 := ⟨by decide +kernel, rfl⟩
theorem d_X8_init_242 : zDc M_X8_init 242 (.aload_n 0) 1 243 := ⟨by decide +kernel, rfl⟩
theorem d_X8_init_243 : zDc M_X8_init 243 (.bipush 64) 2 245 := ⟨by decide +kernel, rfl⟩
theorem d_X8_init_245 : zDc M_X8_init 245 (.newarray .long) 2 247 := ⟨by decide +kernel, rfl⟩
theorem d_X8_init_247 : zDc M_X8_init 247 (.putfield 72) 3 250 := ⟨by decide +kernel, rfl⟩
theorem d_X8_init_250 : zDc M_X8_init 250 (.aload_n 0) 1 251 := ⟨by decide +kernel, rfl⟩
theorem d_X8_init_251 : zDc M_X8_init 251 (.bipush 23) 2 253 := ⟨by decide +kernel, rfl⟩
theorem d_X8_init_253 : zDc M_X8_init 253 (.newarray .int) 2 255 := ⟨by decide +kernel, rfl⟩
theorem d_X8_init_255 : zDc M_X8_init 255 (.putfield 75) 3 258 := ⟨by decide +kernel, rfl⟩
theorem d_X8_init_258 : zDc M_X8_init 258 (.aload_n 0) 1 259 := ⟨by decide +kernel, rfl⟩
theorem d_X8_init_259 : zDc M_X8_init 259 (.bipush 23) 2 261 := ⟨by decide +kernel, rfl⟩
theorem d_X8_init_261 : zDc M_X8_init 261 (.newarray .int) 2 263 := ⟨by decide +kernel, rfl⟩
theorem d_X8_init_263 : zDc M_X8_init 263 (.putfield 78) 3 266 := ⟨by decide +kernel, rfl⟩
theorem d_X8_init_266 : zDc M_X8_init 266 (.aload_n 0) 1 267 := ⟨by decide +kernel, rfl⟩
theorem d_X8_init_267 : zDc M_X8_init 267 (.sipush 184) 3 270 := ⟨by decide +kernel, rfl⟩
theorem d_X8_init_270 : zDc M_X8_init 270 (.newarray .int) 2 272 := ⟨by decide +kernel, rfl⟩
theorem d_X8_init_272 : zDc M_X8_init 272 (.putfield 81) 3 275 := ⟨by decide +kernel, rfl⟩
theorem d_X8_init_275 : zDc M_X8_init 275 (.aload_n 0) 1 276 := ⟨by decide +kernel, rfl⟩
theorem d_X8_init_276 : zDc M_X8_init 276 (.sipush 184) 3 279 := ⟨by decide +kernel, rfl⟩
theorem d_X8_init_279 : zDc M_X8_init 279 (.newarray .int) 2 281 := ⟨by decide +kernel, rfl⟩
theorem d_X8_init_281 : zDc M_X8_init 281 (.putfield 84) 3 284 := ⟨by decide +kernel, rfl⟩
theorem d_X8_init_284 : zDc M_X8_init 284 (.aload_n 0) 1 285 := ⟨by decide +kernel, rfl⟩
theorem d_X8_init_285 : zDc M_X8_init 285 (.sipush 184) 3 288 := ⟨by decide +kernel, rfl⟩
theorem d_X8_init_288 : zDc M_X8_init 288 (.newarray .int) 2 290 := ⟨by decide +kernel, rfl⟩
theorem d_X8_init_290 : zDc M_X8_init 290 (.putfield 87) 3 293 := ⟨by decide +kernel, rfl⟩
theorem d_X8_init_293 : zDc M_X8_init 293 (.aload_n 0) 1 294 := ⟨by decide +kernel, rfl⟩
theorem d_X8_init_294 : zDc M_X8_init 294 (.sipush 184) 3 297 := ⟨by decide +kernel, rfl⟩
theorem d_X8_init_297 : zDc M_X8_init 297 (.newarray .int) 2 299 := ⟨by decide +kernel, rfl⟩
theorem d_X8_init_299 : zDc M_X8_init 299 (.putfield 90) 3 302 := ⟨by decide +kernel, rfl⟩
theorem d_X8_init_302 : zDc M_X8_init 302 (.aload_n 0) 1 303 := ⟨by decide +kernel, rfl⟩
theorem d_X8_init_303 : zDc M_X8_init 303 (.sipush 184) 3 306 := ⟨by decide +kernel, rfl⟩
theorem d_X8_init_306 : zDc M_X8_init 306 (.newarray .int) 2 308 := ⟨by decide +kernel, rfl⟩
theorem d_X8_init_308 : zDc M_X8_init 308 (.putfield 93) 3 311 := ⟨by decide +kernel, rfl⟩
theorem d_X8_init_311 : zDc M_X8_init 311 (.aload_n 0) 1 312 := ⟨by decide +kernel, rfl⟩
theorem d_X8_init_312 : zDc M_X8_init 312 (.sipush 138) 3 315 := ⟨by decide +kernel, rfl⟩
theorem d_X8_init_315 : zDc M_X8_init 315 (.newarray .int) 2 317 := ⟨by decide +kernel, rfl⟩
theorem d_X8_init_317 : zDc M_X8_init 317 (.putfield 96) 3 320 := ⟨by decide +kernel, rfl⟩
theorem d_X8_init_320 : zDc M_X8_init 320 (.aload_n 0) 1 321 := ⟨by decide +kernel, rfl⟩
theorem d_X8_init_321 : zDc M_X8_init 321 (.sipush 138) 3 324 := ⟨by decide +kernel, rfl⟩
theorem d_X8_init_324 : zDc M_X8_init 324 (.newarray .int) 2 326 := ⟨by decide +kernel, rfl⟩
theorem d_X8_init_326 : zDc M_X8_init 326 (.putfield 99) 3 329 := ⟨by decide +kernel, rfl⟩
theorem d_X8_init_329 : zDc M_X8_init 329 (.aload_n 0) 1 330 := ⟨by decide +kernel, rfl⟩
theorem d_X8_init_330 : zDc M_X8_init 330 (.bipush 115) 2 332 := ⟨by decide +kernel, rfl⟩
theorem d_X8_init_332 : zDc M_X8_init 332 (.newarray .int) 2 334 := ⟨by decide +kernel, rfl⟩
theorem d_X8_init_334 : zDc M_X8_init 334 (.putfield 102) 3 337 := ⟨by decide +kernel, rfl⟩
theorem d_X8_init_337 : zDc M_X8_init 337 (.aload_n 0) 1 338 := ⟨by decide +kernel, rfl⟩
theorem d_X8_init_338 : zDc M_X8_init 338 (.sipush 805) 3 341 := ⟨by decide +kernel, rfl⟩
theorem d_X8_init_341 : zDc M_X8_init 341 (.newarray .int) 2 343 := ⟨by decide +kernel, rfl⟩
theorem d_X8_init_343 : zDc M_X8_init 343 (.putfield 105) 3 346 := ⟨by decide +kernel, rfl⟩
theorem d_X8_init_346 : zDc M_X8_init 346 (.aload_n 0) 1 347 := ⟨by decide +kernel, rfl⟩
theorem d_X8_init_347 : zDc M_X8_init 347 (.iconst (-1)) 1 348 := ⟨by decide +kernel, rfl⟩
theorem d_X8_init_348 : zDc M_X8_init 348 (.putfield 108) 3 351 := ⟨by decide +kernel, rfl⟩
theorem d_X8_init_351 : zDc M_X8_init 351 (.aload_n 0) 1 352 := ⟨by decide +kernel, rfl⟩
theorem d_X8_init_352 : zDc M_X8_init 352 (.iconst (-1)) 1 353 := ⟨by decide +kernel, rfl⟩
theorem d_X8_init_353 : zDc M_X8_init 353 (.putfield 111) 3 356 := ⟨by decide +kernel, rfl⟩
theorem d_X8_init_356 : zDc M_X8_init 356 (.aload_n 0) 1 357 := ⟨by decide +kernel, rfl⟩
theorem d_X8_init_357 : zDc M_X8_init 357 (.iconst (-1)) 1 358 := ⟨by decide +kernel, rfl⟩
theorem d_X8_init_358 : zDc M_X8_init 358 (.putfield 114) 3 361 := ⟨by decide +kernel, rfl⟩
theorem d_X8_init_361 : zDc M_X8_init 361 (.aload_n 0) 1 362 := ⟨by decide +kernel, rfl⟩
theorem d_X8_init_362 : zDc M_X8_init 362 (.bipush 8) 2 364 := ⟨by decide +kernel, rfl⟩
theorem d_X8_init_364 : zDc M_X8_init 364 (.newarray .int) 2 366 := ⟨by decide +kernel, rfl⟩
theorem d_X8_init_366 : zDc M_X8_init 366 (.putfield 117) 3 369 := ⟨by decide +kernel, rfl⟩
theorem d_X8_init_369 : zDc M_X8_init 369 (.aload_n 0) 1 370 := ⟨by decide +kernel, rfl⟩
theorem d_X8_init_370 : zDc M_X8_init 370 (.bipush 24) 2 372 := ⟨by decide +kernel, rfl⟩
theorem d_X8_init_372 : zDc M_X8_init 372 (.newarray .int) 2 374 := ⟨by decide +kernel, rfl⟩
theorem d_X8_init_374 : zDc M_X8_init 374 (.putfield 120) 3 377 := ⟨by decide +kernel, rfl⟩
theorem d_X8_init_377 : zDc M_X8_init 377 (.aload_n 0) 1 378 := ⟨by decide +kernel, rfl⟩
theorem d_X8_init_378 : zDc M_X8_init 378 (.bipush 25) 2 380 := ⟨by decide +kernel, rfl⟩
theorem d_X8_init_380 : zDc M_X8_init 380 (.newarray .int) 2 382 := ⟨by decide +kernel, rfl⟩
theorem d_X8_init_382 : zDc M_X8_init 382 (.putfield 123) 3 385 := ⟨by decide +kernel, rfl⟩
theorem d_X8_init_385 : zDc M_X8_init 385 (.aload_n 0) 1 386 := ⟨by decide +kernel, rfl⟩
theorem d_X8_init_386 : zDc M_X8_init 386 (.bipush 25) 2 388 := ⟨by decide +kernel, rfl⟩
theorem d_X8_init_388 : zDc M_X8_init 388 (.newarray .int) 2 390 := ⟨by decide +kernel, rfl⟩
theorem d_X8_init_390 : zDc M_X8_init 390 (.putfield 126) 3 393 := ⟨by decide +kernel, rfl⟩
theorem d_X8_init_393 : zDc M_X8_init 393 (.aload_n 0) 1 394 := ⟨by decide +kernel, rfl⟩
theorem d_X8_init_394 : zDc M_X8_init 394 (.iconst (-1)) 1 395 := ⟨by decide +kernel, rfl⟩
theorem d_X8_init_395 : zDc M_X8_init 395 (.putfield 129) 3 398 := ⟨by decide +kernel, rfl⟩
theorem d_X8_init_398 : zDc M_X8_init 398 (.aload_n 0) 1 399 := ⟨by decide +kernel, rfl⟩
theorem d_X8_init_399 : zDc M_X8_init 399 (.bipush 24) 2 401 := ⟨by decide +kernel, rfl⟩
theorem d_X8_init_401 : zDc M_X8_init 401 (.newarray .int) 2 403 := ⟨by decide +kernel, rfl⟩
theorem d_X8_init_403 : zDc M_X8_init 403 (.putfield 132) 3 406 := ⟨by decide +kernel, rfl⟩
theorem d_X8_init_406 : zDc M_X8_init 406 (.aload_n 0) 1 407 := ⟨by decide +kernel, rfl⟩
theorem d_X8_init_407 : zDc M_X8_init 407 (.bipush 24) 2 409 := ⟨by decide +kernel, rfl⟩
theorem d_X8_init_409 : zDc M_X8_init 409 (.newarray .int) 2 411 := ⟨by decide +kernel, rfl⟩
theorem d_X8_init_411 : zDc M_X8_init 411 (.putfield 135) 3 414 := ⟨by decide +kernel, rfl⟩
theorem d_X8_init_414 : zDc M_X8_init 414 (.aload_n 0) 1 415 := ⟨by decide +kernel, rfl⟩
theorem d_X8_init_415 : zDc M_X8_init 415 (.bipush 24) 2 417 := ⟨by decide +kernel, rfl⟩
theorem d_X8_init_417 : zDc M_X8_init 417 (.newarray .boolean) 2 419 := ⟨by decide +kernel, rfl⟩
theorem d_X8_init_419 : zDc M_X8_init 419 (.putfield 138) 3 422 := ⟨by decide +kernel, rfl⟩
theorem d_X8_init_422 : zDc M_X8_init 422 (.aload_n 0) 1 423 := ⟨by decide +kernel, rfl⟩
theorem d_X8_init_423 : zDc M_X8_init 423 (.bipush 24) 2 425 := ⟨by decide +kernel, rfl⟩
theorem d_X8_init_425 : zDc M_X8_init 425 (.newarray .int) 2 427 := ⟨by decide +kernel, rfl⟩
theorem d_X8_init_427 : zDc M_X8_init 427 (.putfield 142) 3 430 := ⟨by decide +kernel, rfl⟩
theorem d_X8_init_430 : zDc M_X8_init 430 (.aload_n 0) 1 431 := ⟨by decide +kernel, rfl⟩
theorem d_X8_init_431 : zDc M_X8_init 431 (.bipush 24) 2 433 := ⟨by decide +kernel, rfl⟩
theorem d_X8_init_433 : zDc M_X8_init 433 (.newarray .boolean) 2 435 := ⟨by decide +kernel, rfl⟩
theorem d_X8_init_435 : zDc M_X8_init 435 (.putfield 145) 3 438 := ⟨by decide +kernel, rfl⟩
theorem d_X8_init_438 : zDc M_X8_init 438 (.aload_n 0) 1 439 := ⟨by decide +kernel, rfl⟩
theorem d_X8_init_439 : zDc M_X8_init 439 (.invokevirtual 148) 3 442 := ⟨by decide +kernel, rfl⟩
theorem d_X8_init_442 : zDc M_X8_init 442 (.return_) 1 443 := ⟨by decide +kernel, rfl⟩
def f_X8_init (a0 : Nat) (h0 : zHp) : Option (Unit × zHp) :=
  zbd (znA h0 0 (700, .inl (fun _ => 0))) (fun v2 h1 =>
  zob (zpV h1 a0 8 1 (.ref v2)) (fun h3 =>
  zbd (znA h3 0 (16, .inl (fun _ => 0))) (fun v5 h4 =>
  zob (zsI 0 h4 v5 0 0) (fun h6 =>
  zob (zsI 0 h6 v5 1 0) (fun h7 =>
  zob (zsI 0 h7 v5 2 0) (fun h8 =>
  zob (zsI 0 h8 v5 3 0) (fun h9 =>
  zob (zsI 0 h9 v5 4 6) (fun h10 =>
  zob (zsI 0 h10 v5 5 9) (fun h11 =>
  zob (zsI 0 h11 v5 6 0) (fun h12 =>
  zob (zsI 0 h12 v5 7 0) (fun h13 =>
  zob (zsI 0 h13 v5 8 0) (fun h14 =>
  zob (zsI 0 h14 v5 9 0) (fun h15 =>
  zob (zsI 0 h15 v5 10 0) (fun h16 =>
  zob (zsI 0 h16 v5 11 0) (fun h17 =>
  zob (zsI 0 h17 v5 12 6) (fun h18 =>
  zob (zsI 0 h18 v5 13 9) (fun h19 =>
  zob (zsI 0 h19 v5 14 0) (fun h20 =>
  zob (zsI 0 h20 v5 15 0) (fun h21 =>
  zob (zpV h21 a0 8 3 (.ref v5)) (fun h22 =>
  zbd (znA h22 0 (48, .inl (fun _ => 0))) (fun v24 h23 =>
  zob (zpV h23 a0 8 4 (.ref v24)) (fun h25 =>
  zbd (znA h25 0 (10, .inl (fun _ => 0))) (fun v27 h26 =>
  zob (zpV h26 a0 8 5 (.ref v27)) (fun h28 =>
  zbd (znA h28 0 (10, .inl (fun _ => 0))) (fun v30 h29 =>
  zob (zpV h29 a0 8 6 (.ref v30)) (fun h31 =>
  zbd (znA h31 0 (10, .inl (fun _ => 0))) (fun v33 h32 =>
  zob (zpV h32 a0 8 7 (.ref v33)) (fun h34 =>
  zbd (znA h34 0 (16, .inl (fun _ => 0))) (fun v36 h35 =>
  zob (zpV h35 a0 8 8 (.ref v36)) (fun h37 =>
  zbd (znA h37 0 (16, .inl (fun _ => 0))) (fun v39 h38 =>
  zob (zpV h38 a0 8 9 (.ref v39)) (fun h40 =>
  zbd (znA h40 0 (16, .inl (fun _ => 0))) (fun v42 h41 =>
  zob (zpV h41 a0 8 10 (.ref v42)) (fun h43 =>
  zbd (znA h43 0 (16, .inl (fun _ => 0))) (fun v45 h44 =>
  zob (zpV h44 a0 8 11 (.ref v45)) (fun h46 =>
  zbd (znA h46 0 (12, .inl (fun _ => 0))) (fun v48 h47 =>
  zob (zpV h47 a0 8 12 (.ref v48)) (fun h49 =>
  zbd (znA h49 0 (12, .inl (fun _ => 0))) (fun v51 h50 =>
  zob (zpV h50 a0 8 13 (.ref v51)) (fun h52 =>
  zbd (znA h52 0 (12, .inl (fun _ => 0))) (fun v54 h53 =>
  zob (zpV h53 a0 8 14 (.ref v54)) (fun h55 =>
  zbd (znA h55 0 (24, .inl (fun _ => 0))) (fun v57 h56 =>
  zob (zpV h56 a0 8 15 (.ref v57)) (fun h58 =>
  zbd (znA h58 0 (6, .inl (fun _ => 0))) (fun v60 h59 =>
  zob (zpV h59 a0 8 16 (.ref v60)) (fun h61 =>
  zbd (znA h61 0 (6, .inl (fun _ => 0))) (fun v63 h62 =>
  zob (zpV h62 a0 8 17 (.ref v63)) (fun h64 =>
  zbd (znA h64 0 (128, .inl (fun _ => 0))) (fun v66 h65 =>
  zob (zpV h65 a0 8 18 (.ref v66)) (fun h67 =>
  zbd (znA h67 0 (128, .inl (fun _ => 0))) (fun v69 h68 =>
  zob (zpV h68 a0 8 19 (.ref v69)) (fun h70 =>
  zob (zpV h70 a0 8 30 (.int (-1))) (fun h71 =>
  zbd (znA h71 3 (7, .inr (.inl (fun _ => 0)))) (fun v73 h72 =>
  zob (zpV h72 a0 8 33 (.ref v73)) (fun h74 =>
  zbd (znA h74 3 (64, .inr (.inl (fun _ => 0)))) (fun v76 h75 =>
  zob (zpV h75 a0 8 34 (.ref v76)) (fun h77 =>
  zbd (znA h77 0 (23, .inl (fun _ => 0))) (fun v79 h78 =>
  zob (zpV h78 a0 8 36 (.ref v79)) (fun h80 =>
  zbd (znA h80 0 (23, .inl (fun _ => 0))) (fun v82 h81 =>
  zob (zpV h81 a0 8 37 (.ref v82)) (fun h83 =>
  zbd (znA h83 0 (184, .inl (fun _ => 0))) (fun v85 h84 =>
  zob (zpV h84 a0 8 38 (.ref v85)) (fun h86 =>
  zbd (znA h86 0 (184, .inl (fun _ => 0))) (fun v88 h87 =>
  zob (zpV h87 a0 8 39 (.ref v88)) (fun h89 =>
  zbd (znA h89 0 (184, .inl (fun _ => 0))) (fun v91 h90 =>
  zob (zpV h90 a0 8 40 (.ref v91)) (fun h92 =>
  zbd (znA h92 0 (184, .inl (fun _ => 0))) (fun v94 h93 =>
  zob (zpV h93 a0 8 41 (.ref v94)) (fun h95 =>
  zbd (znA h95 0 (184, .inl (fun _ => 0))) (fun v97 h96 =>
  zob (zpV h96 a0 8 42 (.ref v97)) (fun h98 =>
  zbd (znA h98 0 (138, .inl (fun _ => 0))) (fun v100 h99 =>
  zob (zpV h99 a0 8 43 (.ref v100)) (fun h101 =>
  zbd (znA h101 0 (138, .inl (fun _ => 0))) (fun v103 h102 =>
  zob (zpV h102 a0 8 44 (.ref v103)) (fun h104 =>
  zbd (znA h104 0 (115, .inl (fun _ => 0))) (fun v106 h105 =>
  zob (zpV h105 a0 8 45 (.ref v106)) (fun h107 =>
  zbd (znA h107 0 (805, .inl (fun _ => 0))) (fun v109 h108 =>
  zob (zpV h108 a0 8 46 (.ref v109)) (fun h110 =>
  zob (zpV h110 a0 8 50 (.int (-1))) (fun h111 =>
  zob (zpV h111 a0 8 51 (.int (-1))) (fun h112 =>
  zob (zpV h112 a0 8 52 (.int (-1))) (fun h113 =>
  zbd (znA h113 0 (8, .inl (fun _ => 0))) (fun v115 h114 =>
  zob (zpV h114 a0 8 54 (.ref v115)) (fun h116 =>
  zbd (znA h116 0 (24, .inl (fun _ => 0))) (fun v118 h117 =>
  zob (zpV h117 a0 8 56 (.ref v118)) (fun h119 =>
  zbd (znA h119 0 (25, .inl (fun _ => 0))) (fun v121 h120 =>
  zob (zpV h120 a0 8 59 (.ref v121)) (fun h122 =>
  zbd (znA h122 0 (25, .inl (fun _ => 0))) (fun v124 h123 =>
  zob (zpV h123 a0 8 60 (.ref v124)) (fun h125 =>
  zob (zpV h125 a0 8 62 (.int (-1))) (fun h126 =>
  zbd (znA h126 0 (24, .inl (fun _ => 0))) (fun v128 h127 =>
  zob (zpV h127 a0 8 63 (.ref v128)) (fun h129 =>
  zbd (znA h129 0 (24, .inl (fun _ => 0))) (fun v131 h130 =>
  zob (zpV h130 a0 8 64 (.ref v131)) (fun h132 =>
  zbd (znA h132 2 (24, .inl (fun _ => 0))) (fun v134 h133 =>
  zob (zpV h133 a0 8 65 (.ref v134)) (fun h135 =>
  zbd (znA h135 0 (24, .inl (fun _ => 0))) (fun v137 h136 =>
  zob (zpV h136 a0 8 66 (.ref v137)) (fun h138 =>
  zbd (znA h138 2 (24, .inl (fun _ => 0))) (fun v140 h139 =>
  zob (zpV h139 a0 8 67 (.ref v140)) (fun h141 =>
  zbd (zcv 8 a0 h141 (f_X8_begins a0 h141)) (fun v143 h142 =>
  some ((), h142)))))))))))))))))))))))))))))))))))))))))))))))))))))))))))))))))))))))))))))))))))))))))))))))))))))))
set_option maxRecDepth 100000 in
set_option maxHeartbeats 4000000 in
theorem t_X8_init (a0 : Nat) (h0 : zHp) : ∀ (r : Unit) (h' : zHp), f_X8_init a0 h0 = some (r, h') → zCt yX8_init (.code yX8_init cX8_init 1 none) 4 124 40 3621 [.ref a0] h0 (none) h' := by
  refine zct_of M_X8_init yX8_init (by decide) rfl rfl [.ref a0] h0 (Nat.le_of_ble_eq_true rfl) (fun _ => none) (fun X => ?_)
  show zG X M_X8_init (0, 0) 0 [(0, .ref a0)] [] h0 (f_X8_init a0 h0) (fun (_ : Unit) h' => zKe X (none) h')
  unfold f_X8_init
  refine zg_aload_n 0 rfl d_X8_init_0 ?_
  refine zg_obj d_X8_init_1 ml_X8_1 zw_obi zw_obc (by decide) (Nat.le_of_ble_eq_true rfl) ?_
  refine zg_aload_n 0 rfl d_X8_init_4 ?_
  refine zg_sipush 700 rfl d_X8_init_5 ?_
  refine zg_newa (t := 0) (1, 700) d_X8_init_8 ac_0 rfl (fun _ => rfl) (fun _ _ q => q) (fun _ => rfl) (by decide) rfl (by decide) ⟨by decide, by decide⟩ rfl (fun v2 h1 => ?_)
  refine zg_putF d_X8_init_10 zc_8 (by decide) fl_X8_7 rfl rfl rfl rfl rfl (fun h3 => ?_)
  refine zg_aload_n 0 rfl d_X8_init_13 ?_
  refine zg_bipush 16 rfl d_X8_init_14 ?_
  refine zg_newa (t := 0) (2, 716) d_X8_init_16 ac_0 rfl (fun _ => rfl) (fun _ _ q => q) (fun _ => rfl) (by decide) rfl (by decide) ⟨by decide, by decide⟩ rfl (fun v5 h4 => ?_)
  refine zg_dup rfl d_X8_init_18 ?_
  refine zg_iconst 0 rfl d_X8_init_19 ?_
  refine zg_iconst 0 rfl d_X8_init_20 ?_
  refine zg_ast0 d_X8_init_21 (fun h6 => ?_)
  refine zg_dup rfl d_X8_init_22 ?_
  refine zg_iconst 1 rfl d_X8_init_23 ?_
  refine zg_iconst 0 rfl d_X8_init_24 ?_
  refine zg_ast0 d_X8_init_25 (fun h7 => ?_)
  refine zg_dup rfl d_X8_init_26 ?_
  refine zg_iconst 2 rfl d_X8_init_27 ?_
  refine zg_iconst 0 rfl d_X8_init_28 ?_
  refine zg_ast0 d_X8_init_29 (fun h8 => ?_)
  refine zg_dup rfl d_X8_init_30 ?_
  refine zg_iconst 3 rfl d_X8_init_31 ?_
  refine zg_iconst 0 rfl d_X8_init_32 ?_
  refine zg_ast0 d_X8_init_33 (fun h9 => ?_)
  refine zg_dup rfl d_X8_init_34 ?_
  refine zg_iconst 4 rfl d_X8_init_35 ?_
  refine zg_bipush 6 rfl d_X8_init_36 ?_
  refine zg_ast0 d_X8_init_38 (fun h10 => ?_)
  refine zg_dup rfl d_X8_init_39 ?_
  refine zg_iconst 5 rfl d_X8_init_40 ?_
  refine zg_bipush 9 rfl d_X8_init_41 ?_
  refine zg_ast0 d_X8_init_43 (fun h11 => ?_)
  refine zg_dup rfl d_X8_init_44 ?_
  refine zg_bipush 6 rfl d_X8_init_45 ?_
  refine zg_iconst 0 rfl d_X8_init_47 ?_
  refine zg_ast0 d_X8_init_48 (fun h12 => ?_)
  refine zg_dup rfl d_X8_init_49 ?_
  refine zg_bipush 7 rfl d_X8_init_50 ?_
  refine zg_iconst 0 rfl d_X8_init_52 ?_
  refine zg_ast0 d_X8_init_53 (fun h13 => ?_)
  refine zg_dup rfl d_X8_init_54 ?_
  refine zg_bipush 8 rfl d_X8_init_55 ?_
  refine zg_iconst 0 rfl d_X8_init_57 ?_
  refine zg_ast0 d_X8_init_58 (fun h14 => ?_)
  refine zg_dup rfl d_X8_init_59 ?_
  refine zg_bipush 9 rfl d_X8_init_60 ?_
  refine zg_iconst 0 rfl d_X8_init_62 ?_
  refine zg_ast0 d_X8_init_63 (fun h15 => ?_)
  refine zg_dup rfl d_X8_init_64 ?_
  refine zg_bipush 10 rfl d_X8_init_65 ?_
  refine zg_iconst 0 rfl d_X8_init_67 ?_
  refine zg_ast0 d_X8_init_68 (fun h16 => ?_)
  refine zg_dup rfl d_X8_init_69 ?_
  refine zg_bipush 11 rfl d_X8_init_70 ?_
  refine zg_iconst 0 rfl d_X8_init_72 ?_
  refine zg_ast0 d_X8_init_73 (fun h17 => ?_)
  refine zg_dup rfl d_X8_init_74 ?_
  refine zg_bipush 12 rfl d_X8_init_75 ?_
  refine zg_bipush 6 rfl d_X8_init_77 ?_
  refine zg_ast0 d_X8_init_79 (fun h18 => ?_)
  refine zg_dup rfl d_X8_init_80 ?_
  refine zg_bipush 13 rfl d_X8_init_81 ?_
  refine zg_bipush 9 rfl d_X8_init_83 ?_
  refine zg_ast0 d_X8_init_85 (fun h19 => ?_)
  refine zg_dup rfl d_X8_init_86 ?_
  refine zg_bipush 14 rfl d_X8_init_87 ?_
  refine zg_iconst 0 rfl d_X8_init_89 ?_
  refine zg_ast0 d_X8_init_90 (fun h20 => ?_)
  refine zg_dup rfl d_X8_init_91 ?_
  refine zg_bipush 15 rfl d_X8_init_92 ?_
  refine zg_iconst 0 rfl d_X8_init_94 ?_
  refine zg_ast0 d_X8_init_95 (fun h21 => ?_)
  refine zg_putF d_X8_init_96 zc_8 (by decide) fl_X8_13 rfl rfl rfl rfl rfl (fun h22 => ?_)
  refine zg_aload_n 0 rfl d_X8_init_99 ?_
  refine zg_bipush 48 rfl d_X8_init_100 ?_
  refine zg_newa (t := 0) (3, 764) d_X8_init_102 ac_0 rfl (fun _ => rfl) (fun _ _ q => q) (fun _ => rfl) (by decide) rfl (by decide) ⟨by decide, by decide⟩ rfl (fun v24 h23 => ?_)
  refine zg_putF d_X8_init_104 zc_8 (by decide) fl_X8_16 rfl rfl rfl rfl rfl (fun h25 => ?_)
  refine zg_aload_n 0 rfl d_X8_init_107 ?_
  refine zg_bipush 10 rfl d_X8_init_108 ?_
  refine zg_newa (t := 0) (4, 774) d_X8_init_110 ac_0 rfl (fun _ => rfl) (fun _ _ q => q) (fun _ => rfl) (by decide) rfl (by decide) ⟨by decide, by decide⟩ rfl (fun v27 h26 => ?_)
  refine zg_putF d_X8_init_112 zc_8 (by decide) fl_X8_19 rfl rfl rfl rfl rfl (fun h28 => ?_)
  refine zg_aload_n 0 rfl d_X8_init_115 ?_
  refine zg_bipush 10 rfl d_X8_init_116 ?_
  refine zg_newa (t := 0) (5, 784) d_X8_init_118 ac_0 rfl (fun _ => rfl) (fun _ _ q => q) (fun _ => rfl) (by decide) rfl (by decide) ⟨by decide, by decide⟩ rfl (fun v30 h29 => ?_)
  refine zg_putF d_X8_init_120 zc_8 (by decide) fl_X8_22 rfl rfl rfl rfl rfl (fun h31 => ?_)
  refine zg_aload_n 0 rfl d_X8_init_123 ?_
  refine zg_bipush 10 rfl d_X8_init_124 ?_
  refine zg_newa (t := 0) (6, 794) d_X8_init_126 ac_0 rfl (fun _ => rfl) (fun _ _ q => q) (fun _ => rfl) (by decide) rfl (by decide) ⟨by decide, by decide⟩ rfl (fun v33 h32 => ?_)
  refine zg_putF d_X8_init_128 zc_8 (by decide) fl_X8_25 rfl rfl rfl rfl rfl (fun h34 => ?_)
  refine zg_aload_n 0 rfl d_X8_init_131 ?_
  refine zg_bipush 16 rfl d_X8_init_132 ?_
  refine zg_newa (t := 0) (7, 810) d_X8_init_134 ac_0 rfl (fun _ => rfl) (fun _ _ q => q) (fun _ => rfl) (by decide) rfl (by decide) ⟨by decide, by decide⟩ rfl (fun v36 h35 => ?_)
  refine zg_putF d_X8_init_136 zc_8 (by decide) fl_X8_28 rfl rfl rfl rfl rfl (fun h37 => ?_)
  refine zg_aload_n 0 rfl d_X8_init_139 ?_
  refine zg_bipush 16 rfl d_X8_init_140 ?_
  refine zg_newa (t := 0) (8, 826) d_X8_init_142 ac_0 rfl (fun _ => rfl) (fun _ _ q => q) (fun _ => rfl) (by decide) rfl (by decide) ⟨by decide, by decide⟩ rfl (fun v39 h38 => ?_)
  refine zg_putF d_X8_init_144 zc_8 (by decide) fl_X8_31 rfl rfl rfl rfl rfl (fun h40 => ?_)
  refine zg_aload_n 0 rfl d_X8_init_147 ?_
  refine zg_bipush 16 rfl d_X8_init_148 ?_
  refine zg_newa (t := 0) (9, 842) d_X8_init_150 ac_0 rfl (fun _ => rfl) (fun _ _ q => q) (fun _ => rfl) (by decide) rfl (by decide) ⟨by decide, by decide⟩ rfl (fun v42 h41 => ?_)
  refine zg_putF d_X8_init_152 zc_8 (by decide) fl_X8_34 rfl rfl rfl rfl rfl (fun h43 => ?_)
  refine zg_aload_n 0 rfl d_X8_init_155 ?_
  refine zg_bipush 16 rfl d_X8_init_156 ?_
  refine zg_newa (t := 0) (10, 858) d_X8_init_158 ac_0 rfl (fun _ => rfl) (fun _ _ q => q) (fun _ => rfl) (by decide) rfl (by decide) ⟨by decide, by decide⟩ rfl (fun v45 h44 => ?_)
  refine zg_putF d_X8_init_160 zc_8 (by decide) fl_X8_37 rfl rfl rfl rfl rfl (fun h46 => ?_)
  refine zg_aload_n 0 rfl d_X8_init_163 ?_
  refine zg_bipush 12 rfl d_X8_init_164 ?_
  refine zg_newa (t := 0) (11, 870) d_X8_init_166 ac_0 rfl (fun _ => rfl) (fun _ _ q => q) (fun _ => rfl) (by decide) rfl (by decide) ⟨by decide, by decide⟩ rfl (fun v48 h47 => ?_)
  refine zg_putF d_X8_init_168 zc_8 (by decide) fl_X8_40 rfl rfl rfl rfl rfl (fun h49 => ?_)
  refine zg_aload_n 0 rfl d_X8_init_171 ?_
  refine zg_bipush 12 rfl d_X8_init_172 ?_
  refine zg_newa (t := 0) (12, 882) d_X8_init_174 ac_0 rfl (fun _ => rfl) (fun _ _ q => q) (fun _ => rfl) (by decide) rfl (by decide) ⟨by decide, by decide⟩ rfl (fun v51 h50 => ?_)
  refine zg_putF d_X8_init_176 zc_8 (by decide) fl_X8_43 rfl rfl rfl rfl rfl (fun h52 => ?_)
  refine zg_aload_n 0 rfl d_X8_init_179 ?_
  refine zg_bipush 12 rfl d_X8_init_180 ?_
  refine zg_newa (t := 0) (13, 894) d_X8_init_182 ac_0 rfl (fun _ => rfl) (fun _ _ q => q) (fun _ => rfl) (by decide) rfl (by decide) ⟨by decide, by decide⟩ rfl (fun v54 h53 => ?_)
  refine zg_putF d_X8_init_184 zc_8 (by decide) fl_X8_46 rfl rfl rfl rfl rfl (fun h55 => ?_)
  refine zg_aload_n 0 rfl d_X8_init_187 ?_
  refine zg_bipush 24 rfl d_X8_init_188 ?_
  refine zg_newa (t := 0) (14, 918) d_X8_init_190 ac_0 rfl (fun _ => rfl) (fun _ _ q => q) (fun _ => rfl) (by decide) rfl (by decide) ⟨by decide, by decide⟩ rfl (fun v57 h56 => ?_)
  refine zg_putF d_X8_init_192 zc_8 (by decide) fl_X8_49 rfl rfl rfl rfl rfl (fun h58 => ?_)
  refine zg_aload_n 0 rfl d_X8_init_195 ?_
  refine zg_bipush 6 rfl d_X8_init_196 ?_
  refine zg_newa (t := 0) (15, 924) d_X8_init_198 ac_0 rfl (fun _ => rfl) (fun _ _ q => q) (fun _ => rfl) (by decide) rfl (by decide) ⟨by decide, by decide⟩ rfl (fun v60 h59 => ?_)
  refine zg_putF d_X8_init_200 zc_8 (by decide) fl_X8_52 rfl rfl rfl rfl rfl (fun h61 => ?_)
  refine zg_aload_n 0 rfl d_X8_init_203 ?_
  refine zg_bipush 6 rfl d_X8_init_204 ?_
  refine zg_newa (t := 0) (16, 930) d_X8_init_206 ac_0 rfl (fun _ => rfl) (fun _ _ q => q) (fun _ => rfl) (by decide) rfl (by decide) ⟨by decide, by decide⟩ rfl (fun v63 h62 => ?_)
  refine zg_putF d_X8_init_208 zc_8 (by decide) fl_X8_55 rfl rfl rfl rfl rfl (fun h64 => ?_)
  refine zg_aload_n 0 rfl d_X8_init_211 ?_
  refine zg_sipush 128 rfl d_X8_init_212 ?_
  refine zg_newa (t := 0) (17, 1058) d_X8_init_215 ac_0 rfl (fun _ => rfl) (fun _ _ q => q) (fun _ => rfl) (by decide) rfl (by decide) ⟨by decide, by decide⟩ rfl (fun v66 h65 => ?_)
  refine zg_putF d_X8_init_217 zc_8 (by decide) fl_X8_58 rfl rfl rfl rfl rfl (fun h67 => ?_)
  refine zg_aload_n 0 rfl d_X8_init_220 ?_
  refine zg_sipush 128 rfl d_X8_init_221 ?_
  refine zg_newa (t := 0) (18, 1186) d_X8_init_224 ac_0 rfl (fun _ => rfl) (fun _ _ q => q) (fun _ => rfl) (by decide) rfl (by decide) ⟨by decide, by decide⟩ rfl (fun v69 h68 => ?_)
  refine zg_putF d_X8_init_226 zc_8 (by decide) fl_X8_61 rfl rfl rfl rfl rfl (fun h70 => ?_)
  refine zg_aload_n 0 rfl d_X8_init_229 ?_
  refine zg_iconst (-1) rfl d_X8_init_230 ?_
  refine zg_putV d_X8_init_231 zc_8 (by decide) fl_X8_64 rfl rfl rfl (fun h71 => ?_)
  refine zg_aload_n 0 rfl d_X8_init_234 ?_
  refine zg_bipush 7 rfl d_X8_init_235 ?_
  refine zg_newa (t := 3) (19, 1193) d_X8_init_237 ac_3 rfl (fun _ => rfl) (fun _ _ q => q) (fun _ => rfl) (by decide) rfl (by decide) ⟨by decide, by decide⟩ rfl (fun v73 h72 => ?_)
  refine zg_putF d_X8_init_239 zc_8 (by decide) fl_X8_68 rfl rfl rfl rfl rfl (fun h74 => ?_)
  refine zg_aload_n 0 rfl d_X8_init_242 ?_
  refine zg_bipush 64 rfl d_X8_init_243 ?_
  refine zg_newa (t := 3) (20, 1257) d_X8_init_245 ac_3 rfl (fun _ => rfl) (fun _ _ q => q) (fun _ => rfl) (by decide) rfl (by decide) ⟨by decide, by decide⟩ rfl (fun v76 h75 => ?_)
  refine zg_putF d_X8_init_247 zc_8 (by decide) fl_X8_72 rfl rfl rfl rfl rfl (fun h77 => ?_)
  refine zg_aload_n 0 rfl d_X8_init_250 ?_
  refine zg_bipush 23 rfl d_X8_init_251 ?_
  refine zg_newa (t := 0) (21, 1280) d_X8_init_253 ac_0 rfl (fun _ => rfl) (fun _ _ q => q) (fun _ => rfl) (by decide) rfl (by decide) ⟨by decide, by decide⟩ rfl (fun v79 h78 => ?_)
  refine zg_putF d_X8_init_255 zc_8 (by decide) fl_X8_75 rfl rfl rfl rfl rfl (fun h80 => ?_)
  refine zg_aload_n 0 rfl d_X8_init_258 ?_
  refine zg_bipush 23 rfl d_X8_init_259 ?_
  refine zg_newa (t := 0) (22, 1303) d_X8_init_261 ac_0 rfl (fun _ => rfl) (fun _ _ q => q) (fun _ => rfl) (by decide) rfl (by decide) ⟨by decide, by decide⟩ rfl (fun v82 h81 => ?_)
  refine zg_putF d_X8_init_263 zc_8 (by decide) fl_X8_78 rfl rfl rfl rfl rfl (fun h83 => ?_)
  refine zg_aload_n 0 rfl d_X8_init_266 ?_
  refine zg_sipush 184 rfl d_X8_init_267 ?_
  refine zg_newa (t := 0) (23, 1487) d_X8_init_270 ac_0 rfl (fun _ => rfl) (fun _ _ q => q) (fun _ => rfl) (by decide) rfl (by decide) ⟨by decide, by decide⟩ rfl (fun v85 h84 => ?_)
  refine zg_putF d_X8_init_272 zc_8 (by decide) fl_X8_81 rfl rfl rfl rfl rfl (fun h86 => ?_)
  refine zg_aload_n 0 rfl d_X8_init_275 ?_
  refine zg_sipush 184 rfl d_X8_init_276 ?_
  refine zg_newa (t := 0) (24, 1671) d_X8_init_279 ac_0 rfl (fun _ => rfl) (fun _ _ q => q) (fun _ => rfl) (by decide) rfl (by decide) ⟨by decide, by decide⟩ rfl (fun v88 h87 => ?_)
  refine zg_putF d_X8_init_281 zc_8 (by decide) fl_X8_84 rfl rfl rfl rfl rfl (fun h89 => ?_)
  refine zg_aload_n 0 rfl d_X8_init_284 ?_
  refine zg_sipush 184 rfl d_X8_init_285 ?_
  refine zg_newa (t := 0) (25, 1855) d_X8_init_288 ac_0 rfl (fun _ => rfl) (fun _ _ q => q) (fun _ => rfl) (by decide) rfl (by decide) ⟨by decide, by decide⟩ rfl (fun v91 h90 => ?_)
  refine zg_putF d_X8_init_290 zc_8 (by decide) fl_X8_87 rfl rfl rfl rfl rfl (fun h92 => ?_)
  refine zg_aload_n 0 rfl d_X8_init_293 ?_
  refine zg_sipush 184 rfl d_X8_init_294 ?_
  refine zg_newa (t := 0) (26, 2039) d_X8_init_297 ac_0 rfl (fun _ => rfl) (fun _ _ q => q) (fun _ => rfl) (by decide) rfl (by decide) ⟨by decide, by decide⟩ rfl (fun v94 h93 => ?_)
  refine zg_putF d_X8_init_299 zc_8 (by decide) fl_X8_90 rfl rfl rfl rfl rfl (fun h95 => ?_)
  refine zg_aload_n 0 rfl d_X8_init_302 ?_
  refine zg_sipush 184 rfl d_X8_init_303 ?_
  refine zg_newa (t := 0) (27, 2223) d_X8_init_306 ac_0 rfl (fun _ => rfl) (fun _ _ q => q) (fun _ => rfl) (by decide) rfl (by decide) ⟨by decide, by decide⟩ rfl (fun v97 h96 => ?_)
  refine zg_putF d_X8_init_308 zc_8 (by decide) fl_X8_93 rfl rfl rfl rfl rfl (fun h98 => ?_)
  refine zg_aload_n 0 rfl d_X8_init_311 ?_
  refine zg_sipush 138 rfl d_X8_init_312 ?_
  refine zg_newa (t := 0) (28, 2361) d_X8_init_315 ac_0 rfl (fun _ => rfl) (fun _ _ q => q) (fun _ => rfl) (by decide) rfl (by decide) ⟨by decide, by decide⟩ rfl (fun v100 h99 => ?_)
  refine zg_putF d_X8_init_317 zc_8 (by decide) fl_X8_96 rfl rfl rfl rfl rfl (fun h101 => ?_)
  refine zg_aload_n 0 rfl d_X8_init_320 ?_
  refine zg_sipush 138 rfl d_X8_init_321 ?_
  refine zg_newa (t := 0) (29, 2499) d_X8_init_324 ac_0 rfl (fun _ => rfl) (fun _ _ q => q) (fun _ => rfl) (by decide) rfl (by decide) ⟨by decide, by decide⟩ rfl (fun v103 h102 => ?_)
  refine zg_putF d_X8_init_326 zc_8 (by decide) fl_X8_99 rfl rfl rfl rfl rfl (fun h104 => ?_)
  refine zg_aload_n 0 rfl d_X8_init_329 ?_
  refine zg_bipush 115 rfl d_X8_init_330 ?_
  refine zg_newa (t := 0) (30, 2614) d_X8_init_332 ac_0 rfl (fun _ => rfl) (fun _ _ q => q) (fun _ => rfl) (by decide) rfl (by decide) ⟨by decide, by decide⟩ rfl (fun v106 h105 => ?_)
  refine zg_putF d_X8_init_334 zc_8 (by decide) fl_X8_102 rfl rfl rfl rfl rfl (fun h107 => ?_)
  refine zg_aload_n 0 rfl d_X8_init_337 ?_
  refine zg_sipush 805 rfl d_X8_init_338 ?_
  refine zg_newa (t := 0) (31, 3419) d_X8_init_341 ac_0 rfl (fun _ => rfl) (fun _ _ q => q) (fun _ => rfl) (by decide) rfl (by decide) ⟨by decide, by decide⟩ rfl (fun v109 h108 => ?_)
  refine zg_putF d_X8_init_343 zc_8 (by decide) fl_X8_105 rfl rfl rfl rfl rfl (fun h110 => ?_)
  refine zg_aload_n 0 rfl d_X8_init_346 ?_
  refine zg_iconst (-1) rfl d_X8_init_347 ?_
  refine zg_putV d_X8_init_348 zc_8 (by decide) fl_X8_108 rfl rfl rfl (fun h111 => ?_)
  refine zg_aload_n 0 rfl d_X8_init_351 ?_
  refine zg_iconst (-1) rfl d_X8_init_352 ?_
  refine zg_putV d_X8_init_353 zc_8 (by decide) fl_X8_111 rfl rfl rfl (fun h112 => ?_)
  refine zg_aload_n 0 rfl d_X8_init_356 ?_
  refine zg_iconst (-1) rfl d_X8_init_357 ?_
  refine zg_putV d_X8_init_358 zc_8 (by decide) fl_X8_114 rfl rfl rfl (fun h113 => ?_)
  refine zg_aload_n 0 rfl d_X8_init_361 ?_
  refine zg_bipush 8 rfl d_X8_init_362 ?_
  refine zg_newa (t := 0) (32, 3427) d_X8_init_364 ac_0 rfl (fun _ => rfl) (fun _ _ q => q) (fun _ => rfl) (by decide) rfl (by decide) ⟨by decide, by decide⟩ rfl (fun v115 h114 => ?_)
  refine zg_putF d_X8_init_366 zc_8 (by decide) fl_X8_117 rfl rfl rfl rfl rfl (fun h116 => ?_)
  refine zg_aload_n 0 rfl d_X8_init_369 ?_
  refine zg_bipush 24 rfl d_X8_init_370 ?_
  refine zg_newa (t := 0) (33, 3451) d_X8_init_372 ac_0 rfl (fun _ => rfl) (fun _ _ q => q) (fun _ => rfl) (by decide) rfl (by decide) ⟨by decide, by decide⟩ rfl (fun v118 h117 => ?_)
  refine zg_putF d_X8_init_374 zc_8 (by decide) fl_X8_120 rfl rfl rfl rfl rfl (fun h119 => ?_)
  refine zg_aload_n 0 rfl d_X8_init_377 ?_
  refine zg_bipush 25 rfl d_X8_init_378 ?_
  refine zg_newa (t := 0) (34, 3476) d_X8_init_380 ac_0 rfl (fun _ => rfl) (fun _ _ q => q) (fun _ => rfl) (by decide) rfl (by decide) ⟨by decide, by decide⟩ rfl (fun v121 h120 => ?_)
  refine zg_putF d_X8_init_382 zc_8 (by decide) fl_X8_123 rfl rfl rfl rfl rfl (fun h122 => ?_)
  refine zg_aload_n 0 rfl d_X8_init_385 ?_
  refine zg_bipush 25 rfl d_X8_init_386 ?_
  refine zg_newa (t := 0) (35, 3501) d_X8_init_388 ac_0 rfl (fun _ => rfl) (fun _ _ q => q) (fun _ => rfl) (by decide) rfl (by decide) ⟨by decide, by decide⟩ rfl (fun v124 h123 => ?_)
  refine zg_putF d_X8_init_390 zc_8 (by decide) fl_X8_126 rfl rfl rfl rfl rfl (fun h125 => ?_)
  refine zg_aload_n 0 rfl d_X8_init_393 ?_
  refine zg_iconst (-1) rfl d_X8_init_394 ?_
  refine zg_putV d_X8_init_395 zc_8 (by decide) fl_X8_129 rfl rfl rfl (fun h126 => ?_)
  refine zg_aload_n 0 rfl d_X8_init_398 ?_
  refine zg_bipush 24 rfl d_X8_init_399 ?_
  refine zg_newa (t := 0) (36, 3525) d_X8_init_401 ac_0 rfl (fun _ => rfl) (fun _ _ q => q) (fun _ => rfl) (by decide) rfl (by decide) ⟨by decide, by decide⟩ rfl (fun v128 h127 => ?_)
  refine zg_putF d_X8_init_403 zc_8 (by decide) fl_X8_132 rfl rfl rfl rfl rfl (fun h129 => ?_)
  refine zg_aload_n 0 rfl d_X8_init_406 ?_
  refine zg_bipush 24 rfl d_X8_init_407 ?_
  refine zg_newa (t := 0) (37, 3549) d_X8_init_409 ac_0 rfl (fun _ => rfl) (fun _ _ q => q) (fun _ => rfl) (by decide) rfl (by decide) ⟨by decide, by decide⟩ rfl (fun v131 h130 => ?_)
  refine zg_putF d_X8_init_411 zc_8 (by decide) fl_X8_135 rfl rfl rfl rfl rfl (fun h132 => ?_)
  refine zg_aload_n 0 rfl d_X8_init_414 ?_
  refine zg_bipush 24 rfl d_X8_init_415 ?_
  refine zg_newa (t := 2) (38, 3573) d_X8_init_417 ac_2 rfl (fun _ => rfl) (fun _ _ q => q) (fun _ => rfl) (by decide) rfl (by decide) ⟨by decide, by decide⟩ rfl (fun v134 h133 => ?_)
  refine zg_putF d_X8_init_419 zc_8 (by decide) fl_X8_138 rfl rfl rfl rfl rfl (fun h135 => ?_)
  refine zg_aload_n 0 rfl d_X8_init_422 ?_
  refine zg_bipush 24 rfl d_X8_init_423 ?_
  refine zg_newa (t := 0) (39, 3597) d_X8_init_425 ac_0 rfl (fun _ => rfl) (fun _ _ q => q) (fun _ => rfl) (by decide) rfl (by decide) ⟨by decide, by decide⟩ rfl (fun v137 h136 => ?_)
  refine zg_putF d_X8_init_427 zc_8 (by decide) fl_X8_142 rfl rfl rfl rfl rfl (fun h138 => ?_)
  refine zg_aload_n 0 rfl d_X8_init_430 ?_
  refine zg_bipush 24 rfl d_X8_init_431 ?_
  refine zg_newa (t := 2) (40, 3621) d_X8_init_433 ac_2 rfl (fun _ => rfl) (fun _ _ q => q) (fun _ => rfl) (by decide) rfl (by decide) ⟨by decide, by decide⟩ rfl (fun v140 h139 => ?_)
  refine zg_putF d_X8_init_435 zc_8 (by decide) fl_X8_145 rfl rfl rfl rfl rfl (fun h141 => ?_)
  refine zg_aload_n 0 rfl d_X8_init_438 ?_
  refine zg_cVv (b := a0) (As := []) (rest := []) (40, 3621) d_X8_init_439 zc_8 rfl cw_X8_148 wi_X8_begins ws_X8_begins rfl rfl (Nat.le_of_ble_eq_true rfl) (by decide) (by decide) ⟨by decide, by decide⟩ rfl (t_X8_begins a0 h141) (fun v143 h142 => ?_)
  exact zg_vretK d_X8_init_442 rfl ⟨Nat.le_of_ble_eq_true rfl, Nat.le_of_ble_eq_true rfl⟩ (fun q => q)

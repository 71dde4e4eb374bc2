theorem kc_X8_516 : Cond.constant RX8 516 1103515245 ∈ zT := zw_of _ 2030 (by decide +kernel) (by decide +kernel)
theorem kc_X8_519 : Cond.constant RX8 519 2147483647 ∈ zT := zw_of _ 2031 (by decide +kernel) (by decide +kernel)
theorem ml_X8_510 : Cond.methodLink RX8 510 yX8_isSo ∈ zT := zw_of _ 2022 (by decide +kernel) (by decide +kernel)
theorem cd_X8_isSo : Cond.code yX8_isSo cX8_isSo 3 (some .boolean) ∈ zT := zw_of _ 2025 (by decide +kernel) (by decide +kernel)
theorem cw_X8_510 : zCw RX8 510 yX8_isSo cX8_isSo 3 (some .boolean) 1 := ⟨ml_X8_510, ni_X8, cd_X8_isSo, by decide, by decide, by decide +kernel⟩
theorem wi_X8_isSo : Cond.instanceMethod yX8_isSo ∈ zT := zw_of _ 2024 (by decide +kernel) (by decide +kernel)
theorem ws_X8_isSo : Cond.selects RX8 yX8_isSo yX8_isSo ∈ zT := zw_of _ 121 (by decide +kernel) (by decide +kernel)
theorem kl_X8_439 : Cond.constantLong RX8 439 (-9223372036854775808) ∈ zT := zw_of _ 1783 (by decide +kernel) (by decide +kernel)
theorem fl_X8_483 : Cond.fieldLink RX8 483 (TX8 57).1 (TX8 57).2.1 (TX8 57).2.2.1 ∈ zT := zw_of _ 1416 (by decide +kernel) (by decide +kernel)
theorem ml_X8_477 : Cond.methodLink RX8 477 yX8_fives ∈ zT := zw_of _ 1952 (by decide +kernel) (by decide +kernel)
theorem cd_X8_fives : Cond.code yX8_fives cX8_fives 3 (some .int) ∈ zT := zw_of _ 1954 (by decide +kernel) (by decide +kernel)
theorem cw_X8_477 : zCw RX8 477 yX8_fives cX8_fives 3 (some .int) 1 := ⟨ml_X8_477, ni_X8, cd_X8_fives, by decide, by decide, by decide +kernel⟩
theorem wt_X8_fives : Cond.static yX8_fives ∈ zT := zw_of _ 1953 (by decide +kernel) (by decide +kernel)
theorem fl_X8_486 : Cond.fieldLink RX8 486 (TX8 58).1 (TX8 58).2.1 (TX8 58).2.2.1 ∈ zT := zw_of _ 1417 (by decide +kernel) (by decide +kernel)
theorem ml_X8_480 : Cond.methodLink RX8 480 yX8_common ∈ zT := zw_of _ 1955 (by decide +kernel) (by decide +kernel)
theorem cd_X8_common : Cond.code yX8_common cX8_common 5 (some .int) ∈ zT := zw_of _ 1957 (by decide +kernel) (by decide +kernel)
theorem cw_X8_480 : zCw RX8 480 yX8_common cX8_common 5 (some .int) 2 := ⟨ml_X8_480, ni_X8, cd_X8_common, by decide, by decide, by decide +kernel⟩
theorem wt_X8_common : Cond.static yX8_common ∈ zT := zw_of _ 1956 (by decide +kernel) (by decide +kernel)
theorem ml_X8_489 : Cond.methodLink RX8 489 yX8_isPlan ∈ zT := zw_of _ 1962 (by decide +kernel) (by decide +kernel)
theorem cd_X8_isPlan : Cond.code yX8_isPlan cX8_isPlan 4 (some .boolean) ∈ zT := zw_of _ 1965 (by decide +kernel) (by decide +kernel)
theorem cw_X8_489 : zCw RX8 489 yX8_isPlan cX8_isPlan 4 (some .boolean) 3 := ⟨ml_X8_489, ni_X8, cd_X8_isPlan, by decide, by decide, by decide +kernel⟩
theorem wi_X8_isPlan : Cond.instanceMethod yX8_isPlan ∈ zT := zw_of _ 1964 (by decide +kernel) (by decide +kernel)
theorem ws_X8_isPlan : Cond.selects RX8 yX8_isPlan yX8_isPlan ∈ zT := zw_of _ 113 (by decide +kernel) (by decide +kernel)
theorem ml_X8_492 : Cond.methodLink RX8 492 yX8_layPlan ∈ zT := zw_of _ 1966 (by decide +kernel) (by decide +kernel)
theorem cd_X8_layPlan : Cond.code yX8_layPlan cX8_layPlan 7 none ∈ zT := zw_of _ 1969 (by decide +kernel) (by decide +kernel)
theorem cw_X8_492 : zCw RX8 492 yX8_layPlan cX8_layPlan 7 none 3 := ⟨ml_X8_492, ni_X8, cd_X8_layPlan, by decide, by decide, by decide +kernel⟩
theorem wi_X8_layPlan : Cond.instanceMethod yX8_layPlan ∈ zT := zw_of _ 1968 (by decide +kernel) (by decide +kernel)
theorem ws_X8_layPlan : Cond.selects RX8 yX8_layPlan yX8_layPlan ∈ zT := zw_of _ 114 (by decide +kernel) (by decide +kernel)
theorem ml_X8_498 : Cond.methodLink RX8 498 yX8_areTwo ∈ zT := zw_of _ 1978 (by decide +kernel) (by decide +kernel)
theorem cd_X8_areTwo : Cond.code yX8_areTwo cX8_areTwo 3 (some .boolean) ∈ zT := zw_of _ 1981 (by decide +kernel) (by decide +kernel)
theorem cw_X8_498 : zCw RX8 498 yX8_areTwo cX8_areTwo 3 (some .boolean) 2 := ⟨ml_X8_498, ni_X8, cd_X8_areTwo, by decide, by decide, by decide +kernel⟩
theorem wi_X8_areTwo : Cond.instanceMethod yX8_areTwo ∈ zT := zw_of _ 1980 (by decide +kernel) (by decide +kernel)
theorem ws_X8_areTwo : Cond.selects RX8 yX8_areTwo yX8_areTwo ∈ zT := zw_of _ 115 (by decide +kernel) (by decide +kernel)
theorem ml_X8_501 : Cond.methodLink RX8 501 yX8_layBoth ∈ zT := zw_of _ 1982 (by decide +kernel) (by decide +kernel)
theorem cd_X8_layBoth : Cond.code yX8_layBoth cX8_layBoth 4 none ∈ zT := zw_of _ 1985 (by decide +kernel) (by decide +kernel)
theorem cw_X8_501 : zCw RX8 501 yX8_layBoth cX8_layBoth 4 none 2 := ⟨ml_X8_501, ni_X8, cd_X8_layBoth, by decide, by decide, by decide +kernel⟩
theorem wi_X8_layBoth : Cond.instanceMethod yX8_layBoth ∈ zT := zw_of _ 1984 (by decide +kernel) (by decide +kernel)
theorem ws_X8_layBoth : Cond.selects RX8 yX8_layBoth yX8_layBoth ∈ zT := zw_of _ 116 (by decide +kernel) (by decide +kernel)
theorem ml_X8_504 : Cond.methodLink RX8 504 yX8_restOf ∈ zT := zw_of _ 1986 (by decide +kernel) (by decide +kernel)
theorem cd_X8_restOf : Cond.code yX8_restOf cX8_restOf 4 (some .int) ∈ zT := zw_of _ 1989 (by decide +kernel) (by decide +kernel)
theorem cw_X8_504 : zCw RX8 504 yX8_restOf cX8_restOf 4 (some .int) 1 := ⟨ml_X8_504, ni_X8, cd_X8_restOf, by decide, by decide, by decide +kernel⟩
theorem wi_X8_restOf : Cond.instanceMethod yX8_restOf ∈ zT := zw_of _ 1988 (by decide +kernel) (by decide +kernel)
theorem ws_X8_restOf : Cond.selects RX8 yX8_restOf yX8_restOf ∈ zT := zw_of _ 117 (by decide +kernel) (by decide +kernel)
theorem ml_X8_513 : Cond.methodLink RX8 513 yX8_fitsSize ∈ zT := zw_of _ 2018 (by decide +kernel) (by decide +kernel)
theorem cd_X8_fitsSize : Cond.code yX8_fitsSize cX8_fitsSize 3 (some .boolean) ∈ zT := zw_of _ 2021 (by decide +kernel) (by decide +kernel)
theorem cw_X8_513 : zCw RX8 513 yX8_fitsSize cX8_fitsSize 3 (some .boolean) 1 := ⟨ml_X8_513, ni_X8, cd_X8_fitsSize, by decide, by decide, by decide +kernel⟩
theorem wi_X8_fitsSize : Cond.instanceMethod yX8_fitsSize ∈ zT := zw_of _ 2020 (by decide +kernel) (by decide +kernel)
theorem ws_X8_fitsSize : Cond.selects RX8 yX8_fitsSize yX8_fitsSize ∈ zT := zw_of _ 120 (by decide +kernel) (by decide +kernel)
theorem fl_X8_120 : Cond.fieldLink RX8 120 (TX8 56).1 (TX8 56).2.1 (TX8 56).2.2.1 ∈ zT := zw_of _ 1415 (by decide +kernel) (by decide +kernel)
abbrev M_X8_chance : zMt := (RX8, cX8_chance, 9, 7, 201, (some .int), "chance", 0, 0)
theorem d_X8_chance_0 : zDc M_X8_chance 0 (.aload_n 0) 1 1 := ⟨by decide +kernel, rfl⟩
theorem d_X8_chance_1 : zDc M_X8_chance 1 (.iconst 0) 1 2 := ⟨by decide +kernel, rfl⟩
theorem d_X8_chance_2 : zDc M_X8_chance 2 (.putfield 151) 3 5 := ⟨by decide +kernel, rfl⟩
theorem d_X8_chance_5 : zDc M_X8_chance 5 (.iload_n 1) 1 6 := ⟨by decide +kernel, rfl⟩
theorem d_X8_chance_6 : zDj M_X8_chance 6 (.ifCond .lt 35) 35 9 41 := ⟨by decide +kernel, rfl, by decide⟩
theorem d_X8_chance_9 : zDc M_X8_chance 9 (.iload_n 2) 1 10 := ⟨by decide +kernel, rfl⟩
theorem d_X8_chance_10 : zDc M_X8_chance 10 (.iconst 1) 1 11 := ⟨by decide +kernel, rfl⟩
theorem d_X8_chance_11 : zDj M_X8_chance 11 (.if_icmp .lt 30) 30 14 41 := ⟨by decide +kernel, rfl, by decide⟩
theorem d_X8_chance_14 : zDc M_X8_chance 14 (.iload_n 2) 1 15 := ⟨by decide +kernel, rfl⟩
theorem d_X8_chance_15 : zDc M_X8_chance 15 (.bipush 60) 2 17 := ⟨by decide +kernel, rfl⟩
theorem d_X8_chance_17 : zDj M_X8_chance 17 (.if_icmp .gt 24) 24 20 41 := ⟨by decide +kernel, rfl, by decide⟩
theorem d_X8_chance_20 : zDc M_X8_chance 20 (.aload_n 0) 1 21 := ⟨by decide +kernel, rfl⟩
theorem d_X8_chance_21 : zDc M_X8_chance 21 (.iload_n 3) 1 22 := ⟨by decide +kernel, rfl⟩
theorem d_X8_chance_22 : zDc M_X8_chance 22 (.invokevirtual 431) 3 25 := ⟨by decide +kernel, rfl⟩
theorem d_X8_chance_25 : zDj M_X8_chance 25 (.ifCond .eq 16) 16 28 41 := ⟨by decide +kernel, rfl, by decide⟩
theorem d_X8_chance_28 : zDc M_X8_chance 28 (.iload 4) 2 30 := ⟨by decide +kernel, rfl⟩
theorem d_X8_chance_30 : zDj M_X8_chance 30 (.ifCond .lt 11) 11 33 41 := ⟨by decide +kernel, rfl, by decide⟩
theorem d_X8_chance_33 : zDc M_X8_chance 33 (.iload 4) 2 35 := ⟨by decide +kernel, rfl⟩
theorem d_X8_chance_35 : zDc M_X8_chance 35 (.sipush 999) 3 38 := ⟨by decide +kernel, rfl⟩
theorem d_X8_chance_38 : zDj M_X8_chance 38 (.if_icmp .le 5) 5 41 43 := ⟨by decide +kernel, rfl, by decide⟩
theorem d_X8_chance_41 : zDc M_X8_chance 41 (.iconst (-1)) 1 42 := ⟨by decide +kernel, rfl⟩
theorem d_X8_chance_42 : zDc M_X8_chance 42 (.ireturn) 1 43 := ⟨by decide +kernel, rfl⟩
theorem d_X8_chance_43 : zDc M_X8_chance 43 (.iload_n 1) 1 44 := ⟨by decide +kernel, rfl⟩
theorem d_X8_chance_44 : zDc M_X8_chance 44 (.istore 5) 2 46 := ⟨by decide +kernel, rfl⟩
theorem d_X8_chance_46 : zDc M_X8_chance 46 (.iconst 0) 1 47 := ⟨by decide +kernel, rfl⟩
theorem d_X8_chance_47 : zDc M_X8_chance 47 (.istore 6) 2 49 := ⟨by decide +kernel, rfl⟩
theorem d_X8_chance_49 : zDc M_X8_chance 49 (.iconst 0) 1 50 := ⟨by decide +kernel, rfl⟩
theorem d_X8_chance_50 : zDc M_X8_chance 50 (.istore 7) 2 52 := ⟨by decide +kernel, rfl⟩
theorem d_X8_chance_52 : zDc M_X8_chance 52 (.iload 7) 2 54 := ⟨by decide +kernel, rfl⟩
theorem d_X8_chance_54 : zDc M_X8_chance 54 (.bipush 10) 2 56 := ⟨by decide +kernel, rfl⟩
theorem d_X8_chance_56 : zDj M_X8_chance 56 (.if_icmp .ge 97) 97 59 153 := ⟨by decide +kernel, rfl, by decide⟩
theorem d_X8_chance_59 : zDc M_X8_chance 59 (.aload_n 0) 1 60 := ⟨by decide +kernel, rfl⟩
theorem d_X8_chance_60 : zDc M_X8_chance 60 (.iconst 1) 1 61 := ⟨by decide +kernel, rfl⟩
theorem d_X8_chance_61 : zDc M_X8_chance 61 (.iconst 0) 1 62 := ⟨by decide +kernel, rfl⟩
theorem d_X8_chance_62 : zDc M_X8_chance 62 (.invokevirtual 416) 3 65 := ⟨by decide +kernel, rfl⟩
theorem d_X8_chance_65 : zDc M_X8_chance 65 (.iconst 0) 1 66 := ⟨by decide +kernel, rfl⟩
theorem d_X8_chance_66 : zDc M_X8_chance 66 (.istore 8) 2 68 := ⟨by decide +kernel, rfl⟩
theorem d_X8_chance_68 : zDc M_X8_chance 68 (.iload 8) 2 70 := ⟨by decide +kernel, rfl⟩
theorem d_X8_chance_70 : zDc M_X8_chance 70 (.iload_n 2) 1 71 := ⟨by decide +kernel, rfl⟩
theorem d_X8_chance_71 : zDj M_X8_chance 71 (.if_icmp .ge 41) 41 74 112 := ⟨by decide +kernel, rfl, by decide⟩
theorem d_X8_chance_74 : zDc M_X8_chance 74 (.iload 5) 2 76 := ⟨by decide +kernel, rfl⟩
theorem d_X8_chance_76 : zDc M_X8_chance 76 (.ldc_w 516) 3 79 := ⟨by decide +kernel, rfl⟩
theorem d_X8_chance_79 : zDc M_X8_chance 79 (.imul) 1 80 := ⟨by decide +kernel, rfl⟩
theorem d_X8_chance_80 : zDc M_X8_chance 80 (.sipush 12345) 3 83 := ⟨by decide +kernel, rfl⟩
theorem d_X8_chance_83 : zDc M_X8_chance 83 (.iadd) 1 84 := ⟨by decide +kernel, rfl⟩
theorem d_X8_chance_84 : zDc M_X8_chance 84 (.ldc_w 519) 3 87 := ⟨by decide +kernel, rfl⟩
theorem d_X8_chance_87 : zDc M_X8_chance 87 (.iand) 1 88 := ⟨by decide +kernel, rfl⟩
theorem d_X8_chance_88 : zDc M_X8_chance 88 (.istore 5) 2 90 := ⟨by decide +kernel, rfl⟩
theorem d_X8_chance_90 : zDc M_X8_chance 90 (.aload_n 0) 1 91 := ⟨by decide +kernel, rfl⟩
theorem d_X8_chance_91 : zDc M_X8_chance 91 (.iload 5) 2 93 := ⟨by decide +kernel, rfl⟩
theorem d_X8_chance_93 : zDc M_X8_chance 93 (.bipush 16) 2 95 := ⟨by decide +kernel, rfl⟩
theorem d_X8_chance_95 : zDc M_X8_chance 95 (.ishr) 1 96 := ⟨by decide +kernel, rfl⟩
theorem d_X8_chance_96 : zDc M_X8_chance 96 (.iconst 5) 1 97 := ⟨by decide +kernel, rfl⟩
theorem d_X8_chance_97 : zDc M_X8_chance 97 (.irem) 1 98 := ⟨by decide +kernel, rfl⟩
theorem d_X8_chance_98 : zDc M_X8_chance 98 (.putfield 111) 3 101 := ⟨by decide +kernel, rfl⟩
theorem d_X8_chance_101 : zDc M_X8_chance 101 (.aload_n 0) 1 102 := ⟨by decide +kernel, rfl⟩
theorem d_X8_chance_102 : zDc M_X8_chance 102 (.iconst 1) 1 103 := ⟨by decide +kernel, rfl⟩
theorem d_X8_chance_103 : zDc M_X8_chance 103 (.invokevirtual 419) 3 106 := ⟨by decide +kernel, rfl⟩
theorem d_X8_chance_106 : zDc M_X8_chance 106 (.iinc 8 1) 3 109 := ⟨by decide +kernel, rfl⟩
theorem d_X8_chance_109 : zDj M_X8_chance 109 (.goto (-41)) (-41) 112 68 := ⟨by decide +kernel, rfl, by decide⟩
theorem d_X8_chance_112 : zDc M_X8_chance 112 (.aload_n 0) 1 113 := ⟨by decide +kernel, rfl⟩
theorem d_X8_chance_113 : zDc M_X8_chance 113 (.iconst (-1)) 1 114 := ⟨by decide +kernel, rfl⟩
theorem d_X8_chance_114 : zDc M_X8_chance 114 (.putfield 111) 3 117 := ⟨by decide +kernel, rfl⟩
theorem d_X8_chance_117 : zDc M_X8_chance 117 (.iload 6) 2 119 := ⟨by decide +kernel, rfl⟩
theorem d_X8_chance_119 : zDc M_X8_chance 119 (.aload_n 0) 1 120 := ⟨by decide +kernel, rfl⟩
theorem d_X8_chance_120 : zDc M_X8_chance 120 (.getfield 102) 3 123 := ⟨by decide +kernel, rfl⟩
theorem d_X8_chance_123 : zDc M_X8_chance 123 (.iconst 5) 1 124 := ⟨by decide +kernel, rfl⟩
theorem d_X8_chance_124 : zDc M_X8_chance 124 (.iload_n 3) 1 125 := ⟨by decide +kernel, rfl⟩
theorem d_X8_chance_125 : zDc M_X8_chance 125 (.iadd) 1 126 := ⟨by decide +kernel, rfl⟩
theorem d_X8_chance_126 : zDc M_X8_chance 126 (.iaload) 1 127 := ⟨by decide +kernel, rfl⟩
theorem d_X8_chance_127 : zDc M_X8_chance 127 (.aload_n 0) 1 128 := ⟨by decide +kernel, rfl⟩
theorem d_X8_chance_128 : zDc M_X8_chance 128 (.getfield 102) 3 131 := ⟨by decide +kernel, rfl⟩
theorem d_X8_chance_131 : zDc M_X8_chance 131 (.iload_n 3) 1 132 := ⟨by decide +kernel, rfl⟩
theorem d_X8_chance_132 : zDc M_X8_chance 132 (.iaload) 1 133 := ⟨by decide +kernel, rfl⟩
theorem d_X8_chance_133 : zDc M_X8_chance 133 (.isub) 1 134 := ⟨by decide +kernel, rfl⟩
theorem d_X8_chance_134 : zDc M_X8_chance 134 (.iload 4) 2 136 := ⟨by decide +kernel, rfl⟩
theorem d_X8_chance_136 : zDj M_X8_chance 136 (.if_icmp .lt 7) 7 139 143 := ⟨by decide +kernel, rfl, by decide⟩
theorem d_X8_chance_139 : zDc M_X8_chance 139 (.iconst 1) 1 140 := ⟨by decide +kernel, rfl⟩
theorem d_X8_chance_140 : zDj M_X8_chance 140 (.goto 4) 4 143 144 := ⟨by decide +kernel, rfl, by decide⟩
theorem d_X8_chance_143 : zDc M_X8_chance 143 (.iconst 0) 1 144 := ⟨by decide +kernel, rfl⟩
theorem d_X8_chance_144 : zDc M_X8_chance 144 (.iadd) 1 145 := ⟨by decide +kernel, rfl⟩
theorem d_X8_chance_145 : zDc M_X8_chance 145 (.istore 6) 2 147 := ⟨by decide +kernel, rfl⟩
theorem d_X8_chance_147 : zDc M_X8_chance 147 (.iinc 7 1) 3 150 := ⟨by decide +kernel, rfl⟩
theorem d_X8_chance_150 : zDj M_X8_chance 150 (.goto (-98)) (-98) 153 52 := ⟨by decide +kernel, rfl, by decide⟩
theorem d_X8_chance_153 : zDc M_X8_chance 153 (.iload 6) 2 155 := ⟨by decide +kernel, rfl⟩
theorem d_X8_chance_155 : zDc M_X8_chance 155 (.ireturn) 1 156 := ⟨by decide +kernel, rfl⟩
def f_X8_chance (a0 : Nat) (a1 : Int32) (a2 : Int32) (a3 : Int32) (a4 : Int32) (h0 : zHp) : Option (Int32 × zHp) :=
  zob (zpV h0 a0 8 0 (.int 0)) (fun h1 =>
  if a1 < 0 then
  some ((-1), h1)
  else
  if a2 < 1 then
  some ((-1), h1)
  else
  if 60 < a2 then
  some ((-1), h1)
  else
  zbd (zcv 8 a0 h1 (f_X8_isField a0 a3 h1)) (fun v3 h2 =>
  if v3 = 0 then
  some ((-1), h2)
  else
  if a4 < 0 then
  some ((-1), h2)
  else
  if a4 ≤ 999 then
  zbd (
  zlp (σ := (Int32 × Int32 × Int32)) (β := (Int32 × Int32 × Int32)) zLF (fun s4 h5 =>
  if 10 ≤ s4.2.2 then
  some ((.inr (s4.1, s4.2.1, s4.2.2)), h5)
  else
  zbd (zcv 8 a0 h5 (f_X8_copies a0 1 0 h5)) (fun v9 h8 =>
  zbd (
  zlp (σ := (Int32 × Int32)) (β := (Int32 × Int32)) zLF (fun s10 h11 =>
  if a2 ≤ s10.2 then
  some ((.inr (s10.1, s10.2)), h11)
  else
  zob (zpV h11 a0 8 51 (.int (zrm ((((s10.1 * 1103515245) + 12345) &&& 2147483647) >>> (16 &&& 31)) 5))) (fun h14 =>
  zbd (zcv 8 a0 h14 (f_X8_passes a0 1 h14)) (fun v16 h15 =>
  some ((.inl ((((s10.1 * 1103515245) + 12345) &&& 2147483647), (s10.2 + 1))), h15)))) (s4.1, 0) h8) (fun e12 h13 =>
  zob (zpV h13 a0 8 51 (.int (-1))) (fun h17 =>
  zob (zgR h17 a0 8 45) (fun v18 =>
  zob (zaI 0 h17 v18 (5 + a3)) (fun v19 =>
  zob (zgR h17 a0 8 45) (fun v20 =>
  zob (zaI 0 h17 v20 a3) (fun v21 =>
  if (v19 - v21) < a4 then
  some ((.inl (e12.1, (s4.2.1 + 0), (s4.2.2 + 1))), h17)
  else
  some ((.inl (e12.1, (s4.2.1 + 1), (s4.2.2 + 1))), h17))))))))) (a1, 0, 0) h2) (fun e6 h7 =>
  some (e6.2.1, h7))
  else
  some ((-1), h2)))
set_option maxRecDepth 100000 in
set_option maxHeartbeats 4000000 in
theorem t_X8_chance (a0 : Nat) (a1 : Int32) (a2 : Int32) (a3 : Int32) (a4 : Int32) (h0 : zHp) : ∀ (r : Int32) (h' : zHp), f_X8_chance a0 a1 a2 a3 a4 h0 = some (r, h') → zCt yX8_chance (.code yX8_chance cX8_chance 9 (some .int)) 7 201 0 0 [.ref a0, .int a1, .int a2, .int a3, .int a4] h0 (some (.int r)) h' := by
  refine zct_of M_X8_chance yX8_chance (by decide) rfl rfl [.ref a0, .int a1, .int a2, .int a3, .int a4] h0 (Nat.le_of_ble_eq_true rfl) (fun r => some (.int r)) (fun X => ?_)
  show zG X M_X8_chance (0, 0) 0 [(0, .ref a0), (1, .int a1), (2, .int a2), (3, .int a3), (4, .int a4)] [] h0 (f_X8_chance a0 a1 a2 a3 a4 h0) (fun (r : Int32) h' => zKe X (some (.int r)) h')
  unfold f_X8_chance
  refine zg_aload_n 0 rfl d_X8_chance_0 ?_
  refine zg_iconst 0 rfl d_X8_chance_1 ?_
  refine zg_putV d_X8_chance_2 zc_8 (by decide) fl_X8_151 rfl rfl rfl (fun h1 => ?_)
  refine zg_iload_n 1 rfl d_X8_chance_5 ?_
  refine zg_if_lt d_X8_chance_6 ?_ ?_
  · refine zg_iconst (-1) rfl d_X8_chance_41 ?_
    exact zg_iretK d_X8_chance_42 rfl ⟨Nat.le_of_ble_eq_true rfl, Nat.le_of_ble_eq_true rfl⟩ (fun q => q)
  · refine zg_iload_n 2 rfl d_X8_chance_9 ?_
    refine zg_iconst 1 rfl d_X8_chance_10 ?_
    refine zg_icmp_lt d_X8_chance_11 ?_ ?_
    · refine zg_iconst (-1) rfl d_X8_chance_41 ?_
      exact zg_iretK d_X8_chance_42 rfl ⟨Nat.le_of_ble_eq_true rfl, Nat.le_of_ble_eq_true rfl⟩ (fun q => q)
    · refine zg_iload_n 2 rfl d_X8_chance_14 ?_
      refine zg_bipush 60 rfl d_X8_chance_15 ?_
      refine zg_icmp_gt d_X8_chance_17 ?_ ?_
      · refine zg_iconst (-1) rfl d_X8_chance_41 ?_
        exact zg_iretK d_X8_chance_42 rfl ⟨Nat.le_of_ble_eq_true rfl, Nat.le_of_ble_eq_true rfl⟩ (fun q => q)
      · refine zg_aload_n 0 rfl d_X8_chance_20 ?_
        refine zg_iload_n 3 rfl d_X8_chance_21 ?_
        refine zg_cVi (b := a0) (As := [.int a3]) (rest := []) (0, 0) d_X8_chance_22 zc_8 rfl cw_X8_431 wi_X8_isField ws_X8_isField rfl rfl (Nat.le_of_ble_eq_true rfl) (by decide) (by decide) ⟨by decide, by decide⟩ rfl (t_X8_isField a0 a3 h1) (fun v3 h2 => ?_)
        refine zg_if_eq d_X8_chance_25 ?_ ?_
        · refine zg_iconst (-1) rfl d_X8_chance_41 ?_
          exact zg_iretK d_X8_chance_42 rfl ⟨Nat.le_of_ble_eq_true rfl, Nat.le_of_ble_eq_true rfl⟩ (fun q => q)
        · refine zg_iload 4 rfl d_X8_chance_28 ?_
          refine zg_if_lt d_X8_chance_30 ?_ ?_
          · refine zg_iconst (-1) rfl d_X8_chance_41 ?_
            exact zg_iretK d_X8_chance_42 rfl ⟨Nat.le_of_ble_eq_true rfl, Nat.le_of_ble_eq_true rfl⟩ (fun q => q)
          · refine zg_iload 4 rfl d_X8_chance_33 ?_
            refine zg_sipush 999 rfl d_X8_chance_35 ?_
            refine zg_icmp_le d_X8_chance_38 ?_ ?_
            · refine zg_iload_n 1 rfl d_X8_chance_43 ?_
              refine zg_istore [(5, .int a1), (0, .ref a0), (1, .int a1), (2, .int a2), (3, .int a3), (4, .int a4)] d_X8_chance_44 (by decide) rfl ?_
              refine zg_iconst 0 rfl d_X8_chance_46 ?_
              refine zg_istore [(6, .int 0), (5, .int a1), (0, .ref a0), (1, .int a1), (2, .int a2), (3, .int a3), (4, .int a4)] d_X8_chance_47 (by decide) rfl ?_
              refine zg_iconst 0 rfl d_X8_chance_49 ?_
              refine zg_istore [(7, .int 0), (6, .int 0), (5, .int a1), (0, .ref a0), (1, .int a1), (2, .int a2), (3, .int a3), (4, .int a4)] d_X8_chance_50 (by decide) rfl ?_
              refine zg_bd (E := 153) (el := (fun (e6 : (Int32 × Int32 × Int32)) => [(0, .ref a0), (1, .int a1), (2, .int a2), (3, .int a3), (4, .int a4), (5, .int e6.1), (6, .int e6.2.1), (7, .int e6.2.2)])) (es := fun _ => []) (zg_sub [3, 4, 5, 6, 7, 2, 1, 0] rfl (zg_lp (el := (fun (s4 : (Int32 × Int32 × Int32)) => [(0, .ref a0), (1, .int a1), (2, .int a2), (3, .int a3), (4, .int a4), (5, .int s4.1), (6, .int s4.2.1), (7, .int s4.2.2)])) (fun s4 h5 => ?_) (a1, 0, 0) h2)) (fun e6 h7 => ?_)
              · refine zg_iload 7 rfl d_X8_chance_52 ?_
                refine zg_bipush 10 rfl d_X8_chance_54 ?_
                refine zg_icmp_ge d_X8_chance_56 ?_ ?_
                · exact zg_finK (E := 0) [0, 1, 2, 3, 4, 5, 6, 7] rfl rfl (fun q => q)
                · refine zg_aload_n 0 rfl d_X8_chance_59 ?_
                  refine zg_iconst 1 rfl d_X8_chance_60 ?_
                  refine zg_iconst 0 rfl d_X8_chance_61 ?_
                  refine zg_cVv (b := a0) (As := [.int 1, .int 0]) (rest := []) (0, 0) d_X8_chance_62 zc_8 rfl cw_X8_416 wi_X8_copies ws_X8_copies rfl rfl (Nat.le_of_ble_eq_true rfl) (by decide) (by decide) ⟨by decide, by decide⟩ rfl (t_X8_copies a0 1 0 h5) (fun v9 h8 => ?_)
                  refine zg_iconst 0 rfl d_X8_chance_65 ?_
                  refine zg_istore [(8, .int 0), (0, .ref a0), (1, .int a1), (2, .int a2), (3, .int a3), (4, .int a4), (5, .int s4.1), (6, .int s4.2.1), (7, .int s4.2.2)] d_X8_chance_66 (by decide) rfl ?_
                  refine zg_bd (E := 112) (el := (fun (e12 : (Int32 × Int32)) => [(0, .ref a0), (1, .int a1), (2, .int a2), (3, .int a3), (4, .int a4), (5, .int e12.1), (6, .int s4.2.1), (7, .int s4.2.2), (8, .int e12.2)])) (es := fun _ => []) (zg_sub [1, 2, 3, 4, 5, 6, 7, 8, 0] rfl (zg_lp (el := (fun (s10 : (Int32 × Int32)) => [(0, .ref a0), (1, .int a1), (2, .int a2), (3, .int a3), (4, .int a4), (5, .int s10.1), (6, .int s4.2.1), (7, .int s4.2.2), (8, .int s10.2)])) (fun s10 h11 => ?_) (s4.1, 0) h8)) (fun e12 h13 => ?_)
                  · refine zg_iload 8 rfl d_X8_chance_68 ?_
                    refine zg_iload_n 2 rfl d_X8_chance_70 ?_
                    refine zg_icmp_ge d_X8_chance_71 ?_ ?_
                    · exact zg_finK (E := 0) [0, 1, 2, 3, 4, 5, 6, 7, 8] rfl rfl (fun q => q)
                    · refine zg_iload 5 rfl d_X8_chance_74 ?_
                      refine zg_ldcw kc_X8_516 d_X8_chance_76 ?_
                      refine zg_imul d_X8_chance_79 ?_
                      refine zg_sipush 12345 rfl d_X8_chance_80 ?_
                      refine zg_iadd d_X8_chance_83 ?_
                      refine zg_ldcw kc_X8_519 d_X8_chance_84 ?_
                      refine zg_iand d_X8_chance_87 ?_
                      refine zg_istore [(5, .int (((s10.1 * 1103515245) + 12345) &&& 2147483647)), (0, .ref a0), (1, .int a1), (2, .int a2), (3, .int a3), (4, .int a4), (6, .int s4.2.1), (7, .int s4.2.2), (8, .int s10.2)] d_X8_chance_88 (by decide) rfl ?_
                      refine zg_aload_n 1 rfl d_X8_chance_90 ?_
                      refine zg_iload 0 rfl d_X8_chance_91 ?_
                      refine zg_bipush 16 rfl d_X8_chance_93 ?_
                      refine zg_ishr d_X8_chance_95 ?_
                      refine zg_iconst 5 rfl d_X8_chance_96 ?_
                      refine zg_irem (by decide) d_X8_chance_97 ?_
                      refine zg_putV d_X8_chance_98 zc_8 (by decide) fl_X8_111 rfl rfl rfl (fun h14 => ?_)
                      refine zg_aload_n 1 rfl d_X8_chance_101 ?_
                      refine zg_iconst 1 rfl d_X8_chance_102 ?_
                      refine zg_cVv (b := a0) (As := [.int 1]) (rest := []) (0, 0) d_X8_chance_103 zc_8 rfl cw_X8_419 wi_X8_passes ws_X8_passes rfl rfl (Nat.le_of_ble_eq_true rfl) (by decide) (by decide) ⟨by decide, by decide⟩ rfl (t_X8_passes a0 1 h14) (fun v16 h15 => ?_)
                      refine zg_iinc 8 (s10.2 + 1) [(8, .int (s10.2 + 1)), (5, .int (((s10.1 * 1103515245) + 12345) &&& 2147483647)), (0, .ref a0), (1, .int a1), (2, .int a2), (3, .int a3), (4, .int a4), (6, .int s4.2.1), (7, .int s4.2.2)] d_X8_chance_106 rfl rfl (by decide) rfl ?_
                      refine zg_goto d_X8_chance_109 ?_
                      exact zg_finK (E := 0) [2, 3, 4, 5, 6, 1, 7, 8, 0] rfl rfl (fun q => q)
                  · refine zg_aload_n 0 rfl d_X8_chance_112 ?_
                    refine zg_iconst (-1) rfl d_X8_chance_113 ?_
                    refine zg_putV d_X8_chance_114 zc_8 (by decide) fl_X8_111 rfl rfl rfl (fun h17 => ?_)
                    refine zg_iload 6 rfl d_X8_chance_117 ?_
                    refine zg_aload_n 0 rfl d_X8_chance_119 ?_
                    refine zg_getR d_X8_chance_120 zc_8 (by decide) fl_X8_102 (fun v18 => ?_)
                    refine zg_iconst 5 rfl d_X8_chance_123 ?_
                    refine zg_iload_n 3 rfl d_X8_chance_124 ?_
                    refine zg_iadd d_X8_chance_125 ?_
                    refine zg_ald0 d_X8_chance_126 (fun v19 => ?_)
                    refine zg_aload_n 0 rfl d_X8_chance_127 ?_
                    refine zg_getR d_X8_chance_128 zc_8 (by decide) fl_X8_102 (fun v20 => ?_)
                    refine zg_iload_n 3 rfl d_X8_chance_131 ?_
                    refine zg_ald0 d_X8_chance_132 (fun v21 => ?_)
                    refine zg_isub d_X8_chance_133 ?_
                    refine zg_iload 4 rfl d_X8_chance_134 ?_
                    refine zg_icmp_lt d_X8_chance_136 ?_ ?_
                    · refine zg_iconst 0 rfl d_X8_chance_143 ?_
                      refine zg_iadd d_X8_chance_144 ?_
                      refine zg_istore [(6, .int (s4.2.1 + 0)), (0, .ref a0), (1, .int a1), (2, .int a2), (3, .int a3), (4, .int a4), (5, .int e12.1), (7, .int s4.2.2), (8, .int e12.2)] d_X8_chance_145 (by decide) rfl ?_
                      refine zg_iinc 7 (s4.2.2 + 1) [(7, .int (s4.2.2 + 1)), (6, .int (s4.2.1 + 0)), (0, .ref a0), (1, .int a1), (2, .int a2), (3, .int a3), (4, .int a4), (5, .int e12.1), (8, .int e12.2)] d_X8_chance_147 rfl rfl (by decide) rfl ?_
                      refine zg_goto d_X8_chance_150 ?_
                      exact zg_finK (E := 0) [2, 3, 4, 5, 6, 7, 1, 0] rfl rfl (fun q => q)
                    · refine zg_iconst 1 rfl d_X8_chance_139 ?_
                      refine zg_goto d_X8_chance_140 ?_
                      refine zg_iadd d_X8_chance_144 ?_
                      refine zg_istore [(6, .int (s4.2.1 + 1)), (0, .ref a0), (1, .int a1), (2, .int a2), (3, .int a3), (4, .int a4), (5, .int e12.1), (7, .int s4.2.2), (8, .int e12.2)] d_X8_chance_145 (by decide) rfl ?_
                      refine zg_iinc 7 (s4.2.2 + 1) [(7, .int (s4.2.2 + 1)), (6, .int (s4.2.1 + 1)), (0, .ref a0), (1, .int a1), (2, .int a2), (3, .int a3), (4, .int a4), (5, .int e12.1), (8, .int e12.2)] d_X8_chance_147 rfl rfl (by decide) rfl ?_
                      refine zg_goto d_X8_chance_150 ?_
                      exact zg_finK (E := 0) [2, 3, 4, 5, 6, 7, 1, 0] rfl rfl (fun q => q)
              · refine zg_iload 6 rfl d_X8_chance_153 ?_
                exact zg_iretK d_X8_chance_155 rfl ⟨Nat.le_of_ble_eq_true rfl, Nat.le_of_ble_eq_true rfl⟩ (fun q => q)
            · refine zg_iconst (-1) rfl d_X8_chance_41 ?_
              exact zg_iretK d_X8_chance_42 rfl ⟨Nat.le_of_ble_eq_true rfl, Nat.le_of_ble_eq_true rfl⟩ (fun q => q)
abbrev M_X8_enough : zMt := (RX8, cX8_enough, 3, 7, 201, (some .int), "enough", 0, 0)
theorem d_X8_enough_0 : zDc M_X8_enough 0 (.aload_n 0) 1 1 := ⟨by decide +kernel, rfl⟩
theorem d_X8_enough_1 : zDc M_X8_enough 1 (.iconst 0) 1 2 := ⟨by decide +kernel, rfl⟩
theorem d_X8_enough_2 : zDc M_X8_enough 2 (.putfield 151) 3 5 := ⟨by decide +kernel, rfl⟩
theorem d_X8_enough_5 : zDc M_X8_enough 5 (.aload_n 0) 1 6 := ⟨by decide +kernel, rfl⟩
theorem d_X8_enough_6 : zDc M_X8_enough 6 (.iload_n 1) 1 7 := ⟨by decide +kernel, rfl⟩
theorem d_X8_enough_7 : zDc M_X8_enough 7 (.invokevirtual 431) 3 10 := ⟨by decide +kernel, rfl⟩
theorem d_X8_enough_10 : zDj M_X8_enough 10 (.ifCond .ne 5) 5 13 15 := ⟨by decide +kernel, rfl, by decide⟩
theorem d_X8_enough_13 : zDc M_X8_enough 13 (.iconst (-1)) 1 14 := ⟨by decide +kernel, rfl⟩
theorem d_X8_enough_14 : zDc M_X8_enough 14 (.ireturn) 1 15 := ⟨by decide +kernel, rfl⟩
theorem d_X8_enough_15 : zDc M_X8_enough 15 (.aload_n 0) 1 16 := ⟨by decide +kernel, rfl⟩
theorem d_X8_enough_16 : zDc M_X8_enough 16 (.iconst 1) 1 17 := ⟨by decide +kernel, rfl⟩
theorem d_X8_enough_17 : zDc M_X8_enough 17 (.iconst 0) 1 18 := ⟨by decide +kernel, rfl⟩
theorem d_X8_enough_18 : zDc M_X8_enough 18 (.invokevirtual 416) 3 21 := ⟨by decide +kernel, rfl⟩
theorem d_X8_enough_21 : zDc M_X8_enough 21 (.iconst 0) 1 22 := ⟨by decide +kernel, rfl⟩
theorem d_X8_enough_22 : zDc M_X8_enough 22 (.istore_n 2) 1 23 := ⟨by decide +kernel, rfl⟩
theorem d_X8_enough_23 : zDc M_X8_enough 23 (.iload_n 2) 1 24 := ⟨by decide +kernel, rfl⟩
theorem d_X8_enough_24 : zDc M_X8_enough 24 (.bipush 99) 2 26 := ⟨by decide +kernel, rfl⟩
theorem d_X8_enough_26 : zDj M_X8_enough 26 (.if_icmp .gt 33) 33 29 59 := ⟨by decide +kernel, rfl, by decide⟩
theorem d_X8_enough_29 : zDc M_X8_enough 29 (.aload_n 0) 1 30 := ⟨by decide +kernel, rfl⟩
theorem d_X8_enough_30 : zDc M_X8_enough 30 (.getfield 102) 3 33 := ⟨by decide +kernel, rfl⟩
theorem d_X8_enough_33 : zDc M_X8_enough 33 (.iconst 5) 1 34 := ⟨by decide +kernel, rfl⟩
theorem d_X8_enough_34 : zDc M_X8_enough 34 (.iload_n 1) 1 35 := ⟨by decide +kernel, rfl⟩
theorem d_X8_enough_35 : zDc M_X8_enough 35 (.iadd) 1 36 := ⟨by decide +kernel, rfl⟩
theorem d_X8_enough_36 : zDc M_X8_enough 36 (.iaload) 1 37 := ⟨by decide +kernel, rfl⟩
theorem d_X8_enough_37 : zDc M_X8_enough 37 (.aload_n 0) 1 38 := ⟨by decide +kernel, rfl⟩
theorem d_X8_enough_38 : zDc M_X8_enough 38 (.getfield 25) 3 41 := ⟨by decide +kernel, rfl⟩
theorem d_X8_enough_41 : zDc M_X8_enough 41 (.iload_n 1) 1 42 := ⟨by decide +kernel, rfl⟩
theorem d_X8_enough_42 : zDc M_X8_enough 42 (.iaload) 1 43 := ⟨by decide +kernel, rfl⟩
theorem d_X8_enough_43 : zDj M_X8_enough 43 (.if_icmp .lt 5) 5 46 48 := ⟨by decide +kernel, rfl, by decide⟩
theorem d_X8_enough_46 : zDc M_X8_enough 46 (.iload_n 2) 1 47 := ⟨by decide +kernel, rfl⟩
theorem d_X8_enough_47 : zDc M_X8_enough 47 (.ireturn) 1 48 := ⟨by decide +kernel, rfl⟩
theorem d_X8_enough_48 : zDc M_X8_enough 48 (.aload_n 0) 1 49 := ⟨by decide +kernel, rfl⟩
theorem d_X8_enough_49 : zDc M_X8_enough 49 (.iconst 1) 1 50 := ⟨by decide +kernel, rfl⟩
theorem d_X8_enough_50 : zDc M_X8_enough 50 (.invokevirtual 419) 3 53 := ⟨by decide +kernel, rfl⟩
theorem d_X8_enough_53 : zDc M_X8_enough 53 (.iinc 2 1) 3 56 := ⟨by decide +kernel, rfl⟩
theorem d_X8_enough_56 : zDj M_X8_enough 56 (.goto (-33)) (-33) 59 23 := ⟨by decide +kernel, rfl, by decide⟩
theorem d_X8_enough_59 : zDc M_X8_enough 59 (.bipush (-2)) 2 61 := ⟨by decide +kernel, rfl⟩
theorem d_X8_enough_61 : zDc M_X8_enough 61 (.ireturn) 1 62 := ⟨by decide +kernel, rfl⟩
def f_X8_enough (a0 : Nat) (a1 : Int32) (h0 : zHp) : Option (Int32 × zHp) :=
  zob (zpV h0 a0 8 0 (.int 0)) (fun h1 =>
  zbd (zcv 8 a0 h1 (f_X8_isField a0 a1 h1)) (fun v3 h2 =>
  if v3 = 0 then
  some ((-1), h2)
  else
  zbd (zcv 8 a0 h2 (f_X8_copies a0 1 0 h2)) (fun v5 h4 =>
  zbd (
  zlp (σ := Int32) (β := (Int32 ⊕ Int32)) zLF (fun s6 h7 =>
  if 99 < s6 then
  some ((.inr (.inl s6)), h7)
  else
  zob (zgR h7 a0 8 45) (fun v10 =>
  zob (zaI 0 h7 v10 (5 + a1)) (fun v11 =>
  zob (zgR h7 a0 8 7) (fun v12 =>
  zob (zaI 0 h7 v12 a1) (fun v13 =>
  if v11 < v13 then
  zbd (zcv 8 a0 h7 (f_X8_passes a0 1 h7)) (fun v15 h14 =>
  some ((.inl (s6 + 1)), h14))
  else
  some ((.inr (.inr s6)), h7)))))) 0 h4) (fun b16 h9 => zsl b16 (fun e8 =>
  some ((-2), h9)) (fun r => some (r, h9))))))
set_option maxRecDepth 100000 in
set_option maxHeartbeats 4000000 in
theorem t_X8_enough (a0 : Nat) (a1 : Int32) (h0 : zHp) : ∀ (r : Int32) (h' : zHp), f_X8_enough a0 a1 h0 = some (r, h') → zCt yX8_enough (.code yX8_enough cX8_enough 3 (some .int)) 7 201 0 0 [.ref a0, .int a1] h0 (some (.int r)) h' := by
  refine zct_of M_X8_enough yX8_enough (by decide) rfl rfl [.ref a0, .int a1] h0 (Nat.le_of_ble_eq_true rfl) (fun r => some (.int r)) (fun X => ?_)
  show zG X M_X8_enough (0, 0) 0 [(0, .ref a0), (1, .int a1)] [] h0 (f_X8_enough a0 a1 h0) (fun (r : Int32) h' => zKe X (some (.int r)) h')
  unfold f_X8_enough
  refine zg_aload_n 0 rfl d_X8_enough_0 ?_
  refine zg_iconst 0 rfl d_X8_enough_1 ?_
  refine zg_putV d_X8_enough_2 zc_8 (by decide) fl_X8_151 rfl rfl rfl (fun h1 => ?_)
  refine zg_aload_n 0 rfl d_X8_enough_5 ?_
  refine zg_iload_n 1 rfl d_X8_enough_6 ?_
  refine zg_cVi (b := a0) (As := [.int a1]) (rest := []) (0, 0) d_X8_enough_7 zc_8 rfl cw_X8_431 wi_X8_isField ws_X8_isField rfl rfl (Nat.le_of_ble_eq_true rfl) (by decide) (by decide) ⟨by decide, by decide⟩ rfl (t_X8_isField a0 a1 h1) (fun v3 h2 => ?_)
  refine zg_if_ne d_X8_enough_10 ?_ ?_
  · refine zg_iconst (-1) rfl d_X8_enough_13 ?_
    exact zg_iretK d_X8_enough_14 rfl ⟨Nat.le_of_ble_eq_true rfl, Nat.le_of_ble_eq_true rfl⟩ (fun q => q)
  · refine zg_aload_n 0 rfl d_X8_enough_15 ?_
    refine zg_iconst 1 rfl d_X8_enough_16 ?_
    refine zg_iconst 0 rfl d_X8_enough_17 ?_
    refine zg_cVv (b := a0) (As := [.int 1, .int 0]) (rest := []) (0, 0) d_X8_enough_18 zc_8 rfl cw_X8_416 wi_X8_copies ws_X8_copies rfl rfl (Nat.le_of_ble_eq_true rfl) (by decide) (by decide) ⟨by decide, by decide⟩ rfl (t_X8_copies a0 1 0 h2) (fun v5 h4 => ?_)
    refine zg_iconst 0 rfl d_X8_enough_21 ?_
    refine zg_istore_n [(2, .int 0), (0, .ref a0), (1, .int a1)] d_X8_enough_22 rfl (by decide) rfl ?_
    refine zg_bdr (E := 59) (el := (fun (e8 : Int32) => [(0, .ref a0), (1, .int a1), (2, .int e8)])) (es := fun _ => []) (zg_sub [1, 2, 0] rfl (zg_lp (el := (fun (s6 : Int32) => [(0, .ref a0), (1, .int a1), (2, .int s6)])) (fun s6 h7 => ?_) 0 h4)) (fun e8 h9 => ?_)
    · refine zg_iload_n 2 rfl d_X8_enough_23 ?_
      refine zg_bipush 99 rfl d_X8_enough_24 ?_
      refine zg_icmp_gt d_X8_enough_26 ?_ ?_
      · exact zg_finK (E := 0) [0, 1, 2] rfl rfl (fun q => q)
      · refine zg_aload_n 0 rfl d_X8_enough_29 ?_
        refine zg_getR d_X8_enough_30 zc_8 (by decide) fl_X8_102 (fun v10 => ?_)
        refine zg_iconst 5 rfl d_X8_enough_33 ?_
        refine zg_iload_n 1 rfl d_X8_enough_34 ?_
        refine zg_iadd d_X8_enough_35 ?_
        refine zg_ald0 d_X8_enough_36 (fun v11 => ?_)
        refine zg_aload_n 0 rfl d_X8_enough_37 ?_
        refine zg_getR d_X8_enough_38 zc_8 (by decide) fl_X8_25 (fun v12 => ?_)
        refine zg_iload_n 1 rfl d_X8_enough_41 ?_
        refine zg_ald0 d_X8_enough_42 (fun v13 => ?_)
        refine zg_icmp_lt d_X8_enough_43 ?_ ?_
        · refine zg_aload_n 0 rfl d_X8_enough_48 ?_
          refine zg_iconst 1 rfl d_X8_enough_49 ?_
          refine zg_cVv (b := a0) (As := [.int 1]) (rest := []) (0, 0) d_X8_enough_50 zc_8 rfl cw_X8_419 wi_X8_passes ws_X8_passes rfl rfl (Nat.le_of_ble_eq_true rfl) (by decide) (by decide) ⟨by decide, by decide⟩ rfl (t_X8_passes a0 1 h7) (fun v15 h14 => ?_)
          refine zg_iinc 2 (s6 + 1) [(2, .int (s6 + 1)), (0, .ref a0), (1, .int a1)] d_X8_enough_53 rfl rfl (by decide) rfl ?_
          refine zg_goto d_X8_enough_56 ?_
          exact zg_finK (E := 0) [1, 2, 0] rfl rfl (fun q => q)
        · refine zg_iload_n 2 rfl d_X8_enough_46 ?_
          exact zg_iretK d_X8_enough_47 rfl ⟨Nat.le_of_ble_eq_true rfl, Nat.le_of_ble_eq_true rfl⟩ (fun q => q)
    · refine zg_bipush (-2) rfl d_X8_enough_59 ?_
      exact zg_iretK d_X8_enough_61 rfl ⟨Nat.le_of_ble_eq_true rfl, Nat.le_of_ble_eq_true rfl⟩ (fun q => q)
abbrev M_X8_fitsSize : zMt := (RX8, cX8_fitsSize, 3, 7, 201, (some .boolean), "fitsSize", 0, 0)
theorem d_X8_fitsSize_0 : zDc M_X8_fitsSize 0 (.aload_n 0) 1 1 := ⟨by decide +kernel, rfl⟩
theorem d_X8_fitsSize_1 : zDc M_X8_fitsSize 1 (.iconst 1) 1 2 := ⟨by decide +kernel, rfl⟩
theorem d_X8_fitsSize_2 : zDc M_X8_fitsSize 2 (.invokevirtual 337) 3 5 := ⟨by decide +kernel, rfl⟩
theorem d_X8_fitsSize_5 : zDc M_X8_fitsSize 5 (.iconst 1) 1 6 := ⟨by decide +kernel, rfl⟩
theorem d_X8_fitsSize_6 : zDc M_X8_fitsSize 6 (.istore_n 2) 1 7 := ⟨by decide +kernel, rfl⟩
theorem d_X8_fitsSize_7 : zDc M_X8_fitsSize 7 (.iload_n 2) 1 8 := ⟨by decide +kernel, rfl⟩
theorem d_X8_fitsSize_8 : zDc M_X8_fitsSize 8 (.iload_n 1) 1 9 := ⟨by decide +kernel, rfl⟩
theorem d_X8_fitsSize_9 : zDj M_X8_fitsSize 9 (.if_icmp .gt 24) 24 12 33 := ⟨by decide +kernel, rfl, by decide⟩
theorem d_X8_fitsSize_12 : zDc M_X8_fitsSize 12 (.aload_n 0) 1 13 := ⟨by decide +kernel, rfl⟩
theorem d_X8_fitsSize_13 : zDc M_X8_fitsSize 13 (.iconst 1) 1 14 := ⟨by decide +kernel, rfl⟩
theorem d_X8_fitsSize_14 : zDc M_X8_fitsSize 14 (.invokevirtual 419) 3 17 := ⟨by decide +kernel, rfl⟩
theorem d_X8_fitsSize_17 : zDc M_X8_fitsSize 17 (.aload_n 0) 1 18 := ⟨by decide +kernel, rfl⟩
theorem d_X8_fitsSize_18 : zDc M_X8_fitsSize 18 (.iload_n 2) 1 19 := ⟨by decide +kernel, rfl⟩
theorem d_X8_fitsSize_19 : zDc M_X8_fitsSize 19 (.invokevirtual 510) 3 22 := ⟨by decide +kernel, rfl⟩
theorem d_X8_fitsSize_22 : zDj M_X8_fitsSize 22 (.ifCond .ne 5) 5 25 27 := ⟨by decide +kernel, rfl, by decide⟩
theorem d_X8_fitsSize_25 : zDc M_X8_fitsSize 25 (.iconst 0) 1 26 := ⟨by decide +kernel, rfl⟩
theorem d_X8_fitsSize_26 : zDc M_X8_fitsSize 26 (.ireturn) 1 27 := ⟨by decide +kernel, rfl⟩
theorem d_X8_fitsSize_27 : zDc M_X8_fitsSize 27 (.iinc 2 1) 3 30 := ⟨by decide +kernel, rfl⟩
theorem d_X8_fitsSize_30 : zDj M_X8_fitsSize 30 (.goto (-23)) (-23) 33 7 := ⟨by decide +kernel, rfl, by decide⟩
theorem d_X8_fitsSize_33 : zDc M_X8_fitsSize 33 (.iconst 1) 1 34 := ⟨by decide +kernel, rfl⟩
theorem d_X8_fitsSize_34 : zDc M_X8_fitsSize 34 (.ireturn) 1 35 := ⟨by decide +kernel, rfl⟩
def f_X8_fitsSize (a0 : Nat) (a1 : Int32) (h0 : zHp) : Option (Int32 × zHp) :=
  zbd (zcv 8 a0 h0 (f_X8_starts a0 1 h0)) (fun v2 h1 =>
  zbd (
  zlp (σ := Int32) (β := (Int32 ⊕ Int32)) zLF (fun s3 h4 =>
  if a1 < s3 then
  some ((.inr (.inl s3)), h4)
  else
  zbd (zcv 8 a0 h4 (f_X8_passes a0 1 h4)) (fun v8 h7 =>
  zbd (zcv 8 a0 h7 (f_X8_isSo a0 s3 h7)) (fun v10 h9 =>
  if v10 = 0 then
  some ((.inr (.inr 0)), h9)
  else
  some ((.inl (s3 + 1)), h9)))) 1 h1) (fun b11 h6 => zsl b11 (fun e5 =>
  some (1, h6)) (fun r => some (r, h6))))
set_option maxRecDepth 100000 in
set_option maxHeartbeats 4000000 in
theorem t_X8_fitsSize (a0 : Nat) (a1 : Int32) (h0 : zHp) : ∀ (r : Int32) (h' : zHp), f_X8_fitsSize a0 a1 h0 = some (r, h') → zCt yX8_fitsSize (.code yX8_fitsSize cX8_fitsSize 3 (some .boolean)) 7 201 0 0 [.ref a0, .int a1] h0 (some (.int r)) h' := by
  refine zct_of M_X8_fitsSize yX8_fitsSize (by decide) rfl rfl [.ref a0, .int a1] h0 (Nat.le_of_ble_eq_true rfl) (fun r => some (.int r)) (fun X => ?_)
  show zG X M_X8_fitsSize (0, 0) 0 [(0, .ref a0), (1, .int a1)] [] h0 (f_X8_fitsSize a0 a1 h0) (fun (r : Int32) h' => zKe X (some (.int r)) h')
  unfold f_X8_fitsSize
  refine zg_aload_n 0 rfl d_X8_fitsSize_0 ?_
  refine zg_iconst 1 rfl d_X8_fitsSize_1 ?_
  refine zg_cVv (b := a0) (As := [.int 1]) (rest := []) (0, 0) d_X8_fitsSize_2 zc_8 rfl cw_X8_337 wi_X8_starts ws_X8_starts rfl rfl (Nat.le_of_ble_eq_true rfl) (by decide) (by decide) ⟨by decide, by decide⟩ rfl (t_X8_starts a0 1 h0) (fun v2 h1 => ?_)
  refine zg_iconst 1 rfl d_X8_fitsSize_5 ?_
  refine zg_istore_n [(2, .int 1), (0, .ref a0), (1, .int a1)] d_X8_fitsSize_6 rfl (by decide) rfl ?_
  refine zg_bdr (E := 33) (el := (fun (e5 : Int32) => [(0, .ref a0), (1, .int a1), (2, .int e5)])) (es := fun _ => []) (zg_sub [1, 2, 0] rfl (zg_lp (el := (fun (s3 : Int32) => [(0, .ref a0), (1, .int a1), (2, .int s3)])) (fun s3 h4 => ?_) 1 h1)) (fun e5 h6 => ?_)
  · refine zg_iload_n 2 rfl d_X8_fitsSize_7 ?_
    refine zg_iload_n 1 rfl d_X8_fitsSize_8 ?_
    refine zg_icmp_gt d_X8_fitsSize_9 ?_ ?_
    · exact zg_finK (E := 0) [0, 1, 2] rfl rfl (fun q => q)
    · refine zg_aload_n 0 rfl d_X8_fitsSize_12 ?_
      refine zg_iconst 1 rfl d_X8_fitsSize_13 ?_
      refine zg_cVv (b := a0) (As := [.int 1]) (rest := []) (0, 0) d_X8_fitsSize_14 zc_8 rfl cw_X8_419 wi_X8_passes ws_X8_passes rfl rfl (Nat.le_of_ble_eq_true rfl) (by decide) (by decide) ⟨by decide, by decide⟩ rfl (t_X8_passes a0 1 h4) (fun v8 h7 => ?_)
      refine zg_aload_n 0 rfl d_X8_fitsSize_17 ?_
      refine zg_iload_n 2 rfl d_X8_fitsSize_18 ?_
      refine zg_cVi (b := a0) (As := [.int s3]) (rest := []) (0, 0) d_X8_fitsSize_19 zc_8 rfl cw_X8_510 wi_X8_isSo ws_X8_isSo rfl rfl (Nat.le_of_ble_eq_true rfl) (by decide) (by decide) ⟨by decide, by decide⟩ rfl (t_X8_isSo a0 s3 h7) (fun v10 h9 => ?_)
      refine zg_if_ne d_X8_fitsSize_22 ?_ ?_
      · refine zg_iconst 0 rfl d_X8_fitsSize_25 ?_
        exact zg_zretK d_X8_fitsSize_26 rfl ⟨Nat.le_of_ble_eq_true rfl, Nat.le_of_ble_eq_true rfl⟩ (Or.inl rfl) (fun q => q)
      · refine zg_iinc 2 (s3 + 1) [(2, .int (s3 + 1)), (0, .ref a0), (1, .int a1)] d_X8_fitsSize_27 rfl rfl (by decide) rfl ?_
        refine zg_goto d_X8_fitsSize_30 ?_
        exact zg_finK (E := 0) [1, 2, 0] rfl rfl (fun q => q)
  · refine zg_iconst 1 rfl d_X8_fitsSize_33 ?_
    exact zg_zretK d_X8_fitsSize_34 rfl ⟨Nat.le_of_ble_eq_true rfl, Nat.le_of_ble_eq_true rfl⟩ (Or.inr rfl) (fun q => q)
abbrev M_X8_go : zMt := (RX8, cX8_go, 3, 7, 201, (some .int), "go", 0, 0)
theorem d_X8_go_0 : zDc M_X8_go 0 (.aload_n 0) 1 1 := ⟨by decide +kernel, rfl⟩
theorem d_X8_go_1 : zDc M_X8_go 1 (.iconst 0) 1 2 := ⟨by decide +kernel, rfl⟩
theorem d_X8_go_2 : zDc M_X8_go 2 (.putfield 151) 3 5 := ⟨by decide +kernel, rfl⟩
theorem d_X8_go_5 : zDc M_X8_go 5 (.iload_n 1) 1 6 := ⟨by decide +kernel, rfl⟩
theorem d_X8_go_6 : zDj M_X8_go 6 (.ifCond .lt 23) 23 9 29 := ⟨by decide +kernel, rfl, by decide⟩
theorem d_X8_go_9 : zDc M_X8_go 9 (.iload_n 1) 1 10 := ⟨by decide +kernel, rfl⟩
theorem d_X8_go_10 : zDc M_X8_go 10 (.bipush 99) 2 12 := ⟨by decide +kernel, rfl⟩
theorem d_X8_go_12 : zDj M_X8_go 12 (.if_icmp .gt 17) 17 15 29 := ⟨by decide +kernel, rfl, by decide⟩
theorem d_X8_go_15 : zDc M_X8_go 15 (.aload_n 0) 1 16 := ⟨by decide +kernel, rfl⟩
theorem d_X8_go_16 : zDc M_X8_go 16 (.getfield 75) 3 19 := ⟨by decide +kernel, rfl⟩
theorem d_X8_go_19 : zDc M_X8_go 19 (.iconst 0) 1 20 := ⟨by decide +kernel, rfl⟩
theorem d_X8_go_20 : zDc M_X8_go 20 (.iaload) 1 21 := ⟨by decide +kernel, rfl⟩
theorem d_X8_go_21 : zDc M_X8_go 21 (.iload_n 1) 1 22 := ⟨by decide +kernel, rfl⟩
theorem d_X8_go_22 : zDc M_X8_go 22 (.iadd) 1 23 := ⟨by decide +kernel, rfl⟩
theorem d_X8_go_23 : zDc M_X8_go 23 (.sipush 999) 3 26 := ⟨by decide +kernel, rfl⟩
theorem d_X8_go_26 : zDj M_X8_go 26 (.if_icmp .le 5) 5 29 31 := ⟨by decide +kernel, rfl, by decide⟩
theorem d_X8_go_29 : zDc M_X8_go 29 (.iconst (-1)) 1 30 := ⟨by decide +kernel, rfl⟩
theorem d_X8_go_30 : zDc M_X8_go 30 (.ireturn) 1 31 := ⟨by decide +kernel, rfl⟩
theorem d_X8_go_31 : zDc M_X8_go 31 (.iload_n 1) 1 32 := ⟨by decide +kernel, rfl⟩
theorem d_X8_go_32 : zDj M_X8_go 32 (.ifCond .le 8) 8 35 40 := ⟨by decide +kernel, rfl, by decide⟩
theorem d_X8_go_35 : zDc M_X8_go 35 (.aload_n 0) 1 36 := ⟨by decide +kernel, rfl⟩
theorem d_X8_go_36 : zDc M_X8_go 36 (.iconst 0) 1 37 := ⟨by decide +kernel, rfl⟩
theorem d_X8_go_37 : zDc M_X8_go 37 (.putfield 311) 3 40 := ⟨by decide +kernel, rfl⟩
theorem d_X8_go_40 : zDc M_X8_go 40 (.iconst 0) 1 41 := ⟨by decide +kernel, rfl⟩
theorem d_X8_go_41 : zDc M_X8_go 41 (.istore_n 2) 1 42 := ⟨by decide +kernel, rfl⟩
theorem d_X8_go_42 : zDc M_X8_go 42 (.iload_n 2) 1 43 := ⟨by decide +kernel, rfl⟩
theorem d_X8_go_43 : zDc M_X8_go 43 (.iload_n 1) 1 44 := ⟨by decide +kernel, rfl⟩
theorem d_X8_go_44 : zDj M_X8_go 44 (.if_icmp .ge 14) 14 47 58 := ⟨by decide +kernel, rfl, by decide⟩
theorem d_X8_go_47 : zDc M_X8_go 47 (.aload_n 0) 1 48 := ⟨by decide +kernel, rfl⟩
theorem d_X8_go_48 : zDc M_X8_go 48 (.iconst 0) 1 49 := ⟨by decide +kernel, rfl⟩
theorem d_X8_go_49 : zDc M_X8_go 49 (.invokevirtual 419) 3 52 := ⟨by decide +kernel, rfl⟩
theorem d_X8_go_52 : zDc M_X8_go 52 (.iinc 2 1) 3 55 := ⟨by decide +kernel, rfl⟩
theorem d_X8_go_55 : zDj M_X8_go 55 (.goto (-13)) (-13) 58 42 := ⟨by decide +kernel, rfl, by decide⟩
theorem d_X8_go_58 : zDc M_X8_go 58 (.aload_n 0) 1 59 := ⟨by decide +kernel, rfl⟩
theorem d_X8_go_59 : zDc M_X8_go 59 (.getfield 75) 3 62 := ⟨by decide +kernel, rfl⟩
theorem d_X8_go_62 : zDc M_X8_go 62 (.iconst 0) 1 63 := ⟨by decide +kernel, rfl⟩
theorem d_X8_go_63 : zDc M_X8_go 63 (.iaload) 1 64 := ⟨by decide +kernel, rfl⟩
theorem d_X8_go_64 : zDc M_X8_go 64 (.ireturn) 1 65 := ⟨by decide +kernel, rfl⟩
def f_X8_go (a0 : Nat) (a1 : Int32) (h0 : zHp) : Option (Int32 × zHp) :=
  zob (zpV h0 a0 8 0 (.int 0)) (fun h1 =>
  if a1 < 0 then
  some ((-1), h1)
  else
  if 99 < a1 then
  some ((-1), h1)
  else
  zob (zgR h1 a0 8 36) (fun v2 =>
  zob (zaI 0 h1 v2 0) (fun v3 =>
  if (v3 + a1) ≤ 999 then
  zbd (α := Unit) (
  if a1 ≤ 0 then
  some ((), h1)
  else
  zob (zpV h1 a0 8 48 (.int 0)) (fun h4 =>
  some ((), h4))) (fun e5 h6 =>
  zbd (
  zlp (σ := Int32) (β := Int32) zLF (fun s7 h8 =>
  if a1 ≤ s7 then
  some ((.inr s7), h8)
  else
  zbd (zcv 8 a0 h8 (f_X8_passes a0 0 h8)) (fun v12 h11 =>
  some ((.inl (s7 + 1)), h11))) 0 h6) (fun e9 h10 =>
  zob (zgR h10 a0 8 36) (fun v13 =>
  zob (zaI 0 h10 v13 0) (fun v14 =>
  some (v14, h10)))))
  else
  some ((-1), h1))))
set_option maxRecDepth 100000 in
set_option maxHeartbeats 4000000 in
theorem t_X8_go (a0 : Nat) (a1 : Int32) (h0 : zHp) : ∀ (r : Int32) (h' : zHp), f_X8_go a0 a1 h0 = some (r, h') → zCt yX8_go (.code yX8_go cX8_go 3 (some .int)) 7 201 0 0 [.ref a0, .int a1] h0 (some (.int r)) h' := by
  refine zct_of M_X8_go yX8_go (by decide) rfl rfl [.ref a0, .int a1] h0 (Nat.le_of_ble_eq_true rfl) (fun r => some (.int r)) (fun X => ?_)
  show zG X M_X8_go (0, 0) 0 [(0, .ref a0), (1, .int a1)] [] h0 (f_X8_go a0 a1 h0) (fun (r : Int32) h' => zKe X (some (.int r)) h')
  unfold f_X8_go
  refine zg_aload_n 0 rfl d_X8_go_0 ?_
  refine zg_iconst 0 rfl d_X8_go_1 ?_
  refine zg_putV d_X8_go_2 zc_8 (by decide) fl_X8_151 rfl rfl rfl (fun h1 => ?_)
  refine zg_iload_n 1 rfl d_X8_go_5 ?_
  refine zg_if_lt d_X8_go_6 ?_ ?_
  · refine zg_iconst (-1) rfl d_X8_go_29 ?_
    exact zg_iretK d_X8_go_30 rfl ⟨Nat.le_of_ble_eq_true rfl, Nat.le_of_ble_eq_true rfl⟩ (fun q => q)
  · refine zg_iload_n 1 rfl d_X8_go_9 ?_
    refine zg_bipush 99 rfl d_X8_go_10 ?_
    refine zg_icmp_gt d_X8_go_12 ?_ ?_
    · refine zg_iconst (-1) rfl d_X8_go_29 ?_
      exact zg_iretK d_X8_go_30 rfl ⟨Nat.le_of_ble_eq_true rfl, Nat.le_of_ble_eq_true rfl⟩ (fun q => q)
    · refine zg_aload_n 0 rfl d_X8_go_15 ?_
      refine zg_getR d_X8_go_16 zc_8 (by decide) fl_X8_75 (fun v2 => ?_)
      refine zg_iconst 0 rfl d_X8_go_19 ?_
      refine zg_ald0 d_X8_go_20 (fun v3 => ?_)
      refine zg_iload_n 1 rfl d_X8_go_21 ?_
      refine zg_iadd d_X8_go_22 ?_
      refine zg_sipush 999 rfl d_X8_go_23 ?_
      refine zg_icmp_le d_X8_go_26 ?_ ?_
      · refine zg_iload_n 1 rfl d_X8_go_31 ?_
        refine zg_bd (E := 40) (el := (fun (e5 : Unit) => [(0, .ref a0), (1, .int a1)])) (es := (fun (e5 : Unit) => [])) ?_ (fun e5 h6 => ?_)
        · refine zg_if_le d_X8_go_32 ?_ ?_
          · exact zg_finK (E := 0) [0, 1] rfl rfl (fun q => q)
          · refine zg_aload_n 0 rfl d_X8_go_35 ?_
            refine zg_iconst 0 rfl d_X8_go_36 ?_
            refine zg_putV d_X8_go_37 zc_8 (by decide) fl_X8_311 rfl rfl rfl (fun h4 => ?_)
            exact zg_finK (E := 0) [0, 1] rfl rfl (fun q => q)
        · refine zg_iconst 0 rfl d_X8_go_40 ?_
          refine zg_istore_n [(2, .int 0), (0, .ref a0), (1, .int a1)] d_X8_go_41 rfl (by decide) rfl ?_
          refine zg_bd (E := 58) (el := (fun (e9 : Int32) => [(0, .ref a0), (1, .int a1), (2, .int e9)])) (es := fun _ => []) (zg_sub [1, 2, 0] rfl (zg_lp (el := (fun (s7 : Int32) => [(0, .ref a0), (1, .int a1), (2, .int s7)])) (fun s7 h8 => ?_) 0 h6)) (fun e9 h10 => ?_)
          · refine zg_iload_n 2 rfl d_X8_go_42 ?_
            refine zg_iload_n 1 rfl d_X8_go_43 ?_
            refine zg_icmp_ge d_X8_go_44 ?_ ?_
            · exact zg_finK (E := 0) [0, 1, 2] rfl rfl (fun q => q)
            · refine zg_aload_n 0 rfl d_X8_go_47 ?_
              refine zg_iconst 0 rfl d_X8_go_48 ?_
              refine zg_cVv (b := a0) (As := [.int 0]) (rest := []) (0, 0) d_X8_go_49 zc_8 rfl cw_X8_419 wi_X8_passes ws_X8_passes rfl rfl (Nat.le_of_ble_eq_true rfl) (by decide) (by decide) ⟨by decide, by decide⟩ rfl (t_X8_passes a0 0 h8) (fun v12 h11 => ?_)
              refine zg_iinc 2 (s7 + 1) [(2, .int (s7 + 1)), (0, .ref a0), (1, .int a1)] d_X8_go_52 rfl rfl (by decide) rfl ?_
              refine zg_goto d_X8_go_55 ?_
              exact zg_finK (E := 0) [1, 2, 0] rfl rfl (fun q => q)
          · refine zg_aload_n 0 rfl d_X8_go_58 ?_
            refine zg_getR d_X8_go_59 zc_8 (by decide) fl_X8_75 (fun v13 => ?_)
            refine zg_iconst 0 rfl d_X8_go_62 ?_
            refine zg_ald0 d_X8_go_63 (fun v14 => ?_)
            exact zg_iretK d_X8_go_64 rfl ⟨Nat.le_of_ble_eq_true rfl, Nat.le_of_ble_eq_true rfl⟩ (fun q => q)
      · refine zg_iconst (-1) rfl d_X8_go_29 ?_
        exact zg_iretK d_X8_go_30 rfl ⟨Nat.le_of_ble_eq_true rfl, Nat.le_of_ble_eq_true rfl⟩ (fun q => q)
abbrev M_X8_law : zMt := (RX8, cX8_law, 3, 4, 129, (some .long), "law", 0, 0)
theorem d_X8_law_0 : zDc M_X8_law 0 (.aload_n 0) 1 1 := ⟨by decide +kernel, rfl⟩
theorem d_X8_law_1 : zDc M_X8_law 1 (.iconst 0) 1 2 := ⟨by decide +kernel, rfl⟩
theorem d_X8_law_2 : zDc M_X8_law 2 (.putfield 151) 3 5 := ⟨by decide +kernel, rfl⟩
theorem d_X8_law_5 : zDc M_X8_law 5 (.iload_n 1) 1 6 := ⟨by decide +kernel, rfl⟩
theorem d_X8_law_6 : zDj M_X8_law 6 (.ifCond .lt 33) 33 9 39 := ⟨by decide +kernel, rfl, by decide⟩
theorem d_X8_law_9 : zDc M_X8_law 9 (.iload_n 1) 1 10 := ⟨by decide +kernel, rfl⟩
theorem d_X8_law_10 : zDc M_X8_law 10 (.iconst 2) 1 11 := ⟨by decide +kernel, rfl⟩
theorem d_X8_law_11 : zDj M_X8_law 11 (.if_icmp .gt 28) 28 14 39 := ⟨by decide +kernel, rfl, by decide⟩
theorem d_X8_law_14 : zDc M_X8_law 14 (.aload_n 0) 1 15 := ⟨by decide +kernel, rfl⟩
theorem d_X8_law_15 : zDc M_X8_law 15 (.iload_n 1) 1 16 := ⟨by decide +kernel, rfl⟩
theorem d_X8_law_16 : zDc M_X8_law 16 (.invokevirtual 366) 3 19 := ⟨by decide +kernel, rfl⟩
theorem d_X8_law_19 : zDj M_X8_law 19 (.ifCond .eq 20) 20 22 39 := ⟨by decide +kernel, rfl, by decide⟩
theorem d_X8_law_22 : zDc M_X8_law 22 (.aload_n 0) 1 23 := ⟨by decide +kernel, rfl⟩
theorem d_X8_law_23 : zDc M_X8_law 23 (.iload_n 2) 1 24 := ⟨by decide +kernel, rfl⟩
theorem d_X8_law_24 : zDc M_X8_law 24 (.invokevirtual 422) 3 27 := ⟨by decide +kernel, rfl⟩
theorem d_X8_law_27 : zDj M_X8_law 27 (.ifCond .eq 12) 12 30 39 := ⟨by decide +kernel, rfl, by decide⟩
theorem d_X8_law_30 : zDc M_X8_law 30 (.aload_n 0) 1 31 := ⟨by decide +kernel, rfl⟩
theorem d_X8_law_31 : zDc M_X8_law 31 (.iconst 0) 1 32 := ⟨by decide +kernel, rfl⟩
theorem d_X8_law_32 : zDc M_X8_law 32 (.iload_n 2) 1 33 := ⟨by decide +kernel, rfl⟩
theorem d_X8_law_33 : zDc M_X8_law 33 (.invokevirtual 351) 3 36 := ⟨by decide +kernel, rfl⟩
theorem d_X8_law_36 : zDj M_X8_law 36 (.ifCond .ne 7) 7 39 43 := ⟨by decide +kernel, rfl, by decide⟩
theorem d_X8_law_39 : zDc M_X8_law 39 (.ldc2_w 439) 3 42 := ⟨by decide +kernel, rfl⟩
theorem d_X8_law_42 : zDc M_X8_law 42 (.lreturn) 1 43 := ⟨by decide +kernel, rfl⟩
theorem d_X8_law_43 : zDc M_X8_law 43 (.aload_n 0) 1 44 := ⟨by decide +kernel, rfl⟩
theorem d_X8_law_44 : zDc M_X8_law 44 (.iconst 0) 1 45 := ⟨by decide +kernel, rfl⟩
theorem d_X8_law_45 : zDc M_X8_law 45 (.iload_n 2) 1 46 := ⟨by decide +kernel, rfl⟩
theorem d_X8_law_46 : zDc M_X8_law 46 (.invokevirtual 383) 3 49 := ⟨by decide +kernel, rfl⟩
theorem d_X8_law_49 : zDc M_X8_law 49 (.aload_n 0) 1 50 := ⟨by decide +kernel, rfl⟩
theorem d_X8_law_50 : zDc M_X8_law 50 (.iload_n 1) 1 51 := ⟨by decide +kernel, rfl⟩
theorem d_X8_law_51 : zDc M_X8_law 51 (.invokevirtual 369) 3 54 := ⟨by decide +kernel, rfl⟩
theorem d_X8_law_54 : zDj M_X8_law 54 (.ifCond .eq 12) 12 57 66 := ⟨by decide +kernel, rfl, by decide⟩
theorem d_X8_law_57 : zDc M_X8_law 57 (.aload_n 0) 1 58 := ⟨by decide +kernel, rfl⟩
theorem d_X8_law_58 : zDc M_X8_law 58 (.getfield 72) 3 61 := ⟨by decide +kernel, rfl⟩
theorem d_X8_law_61 : zDc M_X8_law 61 (.iconst 0) 1 62 := ⟨by decide +kernel, rfl⟩
theorem d_X8_law_62 : zDc M_X8_law 62 (.laload) 1 63 := ⟨by decide +kernel, rfl⟩
theorem d_X8_law_63 : zDj M_X8_law 63 (.goto 6) 6 66 69 := ⟨by decide +kernel, rfl, by decide⟩
theorem d_X8_law_66 : zDc M_X8_law 66 (.ldc2_w 439) 3 69 := ⟨by decide +kernel, rfl⟩
theorem d_X8_law_69 : zDc M_X8_law 69 (.lreturn) 1 70 := ⟨by decide +kernel, rfl⟩
def f_X8_law (a0 : Nat) (a1 : Int32) (a2 : Int32) (h0 : zHp) : Option (Int64 × zHp) :=
  zob (zpV h0 a0 8 0 (.int 0)) (fun h1 =>
  if a1 < 0 then
  some ((-9223372036854775808), h1)
  else
  if 2 < a1 then
  some ((-9223372036854775808), h1)
  else
  zbd (zcv 8 a0 h1 (f_X8_hasLaw a0 a1 h1)) (fun v3 h2 =>
  if v3 = 0 then
  some ((-9223372036854775808), h2)
  else
  zbd (zcv 8 a0 h2 (f_X8_isCloud a0 a2 h2)) (fun v5 h4 =>
  if v5 = 0 then
  some ((-9223372036854775808), h4)
  else
  zbd (zcv 8 a0 h4 (f_X8_isUp a0 0 a2 h4)) (fun v7 h6 =>
  if v7 = 0 then
  some ((-9223372036854775808), h6)
  else
  zbd (zcv 8 a0 h6 (f_X8_calls a0 0 a2 h6)) (fun v9 h8 =>
  zbd (zcv 8 a0 h8 (f_X8_goes a0 a1 h8)) (fun v11 h10 =>
  if v11 = 0 then
  some ((-9223372036854775808), h10)
  else
  zob (zgR h10 a0 8 34) (fun v12 =>
  zob (zaL h10 v12 0) (fun v13 =>
  some (v13, h10)))))))))
set_option maxRecDepth 100000 in
set_option maxHeartbeats 4000000 in
theorem t_X8_law (a0 : Nat) (a1 : Int32) (a2 : Int32) (h0 : zHp) : ∀ (r : Int64) (h' : zHp), f_X8_law a0 a1 a2 h0 = some (r, h') → zCt yX8_law (.code yX8_law cX8_law 3 (some .long)) 4 129 0 0 [.ref a0, .int a1, .int a2] h0 (some (.long r)) h' := by
  refine zct_of M_X8_law yX8_law (by decide) rfl rfl [.ref a0, .int a1, .int a2] h0 (Nat.le_of_ble_eq_true rfl) (fun r => some (.long r)) (fun X => ?_)
  show zG X M_X8_law (0, 0) 0 [(0, .ref a0), (1, .int a1), (2, .int a2)] [] h0 (f_X8_law a0 a1 a2 h0) (fun (r : Int64) h' => zKe X (some (.long r)) h')
  unfold f_X8_law
  refine zg_aload_n 0 rfl d_X8_law_0 ?_
  refine zg_iconst 0 rfl d_X8_law_1 ?_
  refine zg_putV d_X8_law_2 zc_8 (by decide) fl_X8_151 rfl rfl rfl (fun h1 => ?_)
  refine zg_iload_n 1 rfl d_X8_law_5 ?_
  refine zg_if_lt d_X8_law_6 ?_ ?_
  · refine zg_ldc2 kl_X8_439 d_X8_law_39 ?_
    exact zg_lretK d_X8_law_42 rfl ⟨Nat.le_of_ble_eq_true rfl, Nat.le_of_ble_eq_true rfl⟩ (fun q => q)
  · refine zg_iload_n 1 rfl d_X8_law_9 ?_
    refine zg_iconst 2 rfl d_X8_law_10 ?_
    refine zg_icmp_gt d_X8_law_11 ?_ ?_
    · refine zg_ldc2 kl_X8_439 d_X8_law_39 ?_
      exact zg_lretK d_X8_law_42 rfl ⟨Nat.le_of_ble_eq_true rfl, Nat.le_of_ble_eq_true rfl⟩ (fun q => q)
    · refine zg_aload_n 0 rfl d_X8_law_14 ?_
      refine zg_iload_n 1 rfl d_X8_law_15 ?_
      refine zg_cVi (b := a0) (As := [.int a1]) (rest := []) (0, 0) d_X8_law_16 zc_8 rfl cw_X8_366 wi_X8_hasLaw ws_X8_hasLaw rfl rfl (Nat.le_of_ble_eq_true rfl) (by decide) (by decide) ⟨by decide, by decide⟩ rfl (t_X8_hasLaw a0 a1 h1) (fun v3 h2 => ?_)
      refine zg_if_eq d_X8_law_19 ?_ ?_
      · refine zg_ldc2 kl_X8_439 d_X8_law_39 ?_
        exact zg_lretK d_X8_law_42 rfl ⟨Nat.le_of_ble_eq_true rfl, Nat.le_of_ble_eq_true rfl⟩ (fun q => q)
      · refine zg_aload_n 0 rfl d_X8_law_22 ?_
        refine zg_iload_n 2 rfl d_X8_law_23 ?_
        refine zg_cVi (b := a0) (As := [.int a2]) (rest := []) (0, 0) d_X8_law_24 zc_8 rfl cw_X8_422 wi_X8_isCloud ws_X8_isCloud rfl rfl (Nat.le_of_ble_eq_true rfl) (by decide) (by decide) ⟨by decide, by decide⟩ rfl (t_X8_isCloud a0 a2 h2) (fun v5 h4 => ?_)
        refine zg_if_eq d_X8_law_27 ?_ ?_
        · refine zg_ldc2 kl_X8_439 d_X8_law_39 ?_
          exact zg_lretK d_X8_law_42 rfl ⟨Nat.le_of_ble_eq_true rfl, Nat.le_of_ble_eq_true rfl⟩ (fun q => q)
        · refine zg_aload_n 0 rfl d_X8_law_30 ?_
          refine zg_iconst 0 rfl d_X8_law_31 ?_
          refine zg_iload_n 2 rfl d_X8_law_32 ?_
          refine zg_cVi (b := a0) (As := [.int 0, .int a2]) (rest := []) (0, 0) d_X8_law_33 zc_8 rfl cw_X8_351 wi_X8_isUp ws_X8_isUp rfl rfl (Nat.le_of_ble_eq_true rfl) (by decide) (by decide) ⟨by decide, by decide⟩ rfl (t_X8_isUp a0 0 a2 h4) (fun v7 h6 => ?_)
          refine zg_if_ne d_X8_law_36 ?_ ?_
          · refine zg_ldc2 kl_X8_439 d_X8_law_39 ?_
            exact zg_lretK d_X8_law_42 rfl ⟨Nat.le_of_ble_eq_true rfl, Nat.le_of_ble_eq_true rfl⟩ (fun q => q)
          · refine zg_aload_n 0 rfl d_X8_law_43 ?_
            refine zg_iconst 0 rfl d_X8_law_44 ?_
            refine zg_iload_n 2 rfl d_X8_law_45 ?_
            refine zg_cVv (b := a0) (As := [.int 0, .int a2]) (rest := []) (0, 0) d_X8_law_46 zc_8 rfl cw_X8_383 wi_X8_calls ws_X8_calls rfl rfl (Nat.le_of_ble_eq_true rfl) (by decide) (by decide) ⟨by decide, by decide⟩ rfl (t_X8_calls a0 0 a2 h6) (fun v9 h8 => ?_)
            refine zg_aload_n 0 rfl d_X8_law_49 ?_
            refine zg_iload_n 1 rfl d_X8_law_50 ?_
            refine zg_cVi (b := a0) (As := [.int a1]) (rest := []) (0, 0) d_X8_law_51 zc_8 rfl cw_X8_369 wi_X8_goes ws_X8_goes rfl rfl (Nat.le_of_ble_eq_true rfl) (by decide) (by decide) ⟨by decide, by decide⟩ rfl (t_X8_goes a0 a1 h8) (fun v11 h10 => ?_)
            refine zg_if_eq d_X8_law_54 ?_ ?_
            · refine zg_ldc2 kl_X8_439 d_X8_law_66 ?_
              exact zg_lretK d_X8_law_69 rfl ⟨Nat.le_of_ble_eq_true rfl, Nat.le_of_ble_eq_true rfl⟩ (fun q => q)
            · refine zg_aload_n 0 rfl d_X8_law_57 ?_
              refine zg_getR d_X8_law_58 zc_8 (by decide) fl_X8_72 (fun v12 => ?_)
              refine zg_iconst 0 rfl d_X8_law_61 ?_
              refine zg_ald3 d_X8_law_62 (fun v13 => ?_)
              refine zg_goto d_X8_law_63 ?_
              exact zg_lretK d_X8_law_69 rfl ⟨Nat.le_of_ble_eq_true rfl, Nat.le_of_ble_eq_true rfl⟩ (fun q => q)
abbrev M_X8_layBoth : zMt := (RX8, cX8_layBoth, 4, 7, 201, none, "layBoth", 0, 0)
theorem d_X8_layBoth_0 : zDc M_X8_layBoth 0 (.iconst 0) 1 1 := ⟨by decide +kernel, rfl⟩
theorem d_X8_layBoth_1 : zDc M_X8_layBoth 1 (.istore_n 3) 1 2 := ⟨by decide +kernel, rfl⟩
theorem d_X8_layBoth_2 : zDc M_X8_layBoth 2 (.iload_n 3) 1 3 := ⟨by decide +kernel, rfl⟩
theorem d_X8_layBoth_3 : zDc M_X8_layBoth 3 (.bipush 25) 2 5 := ⟨by decide +kernel, rfl⟩
theorem d_X8_layBoth_5 : zDj M_X8_layBoth 5 (.if_icmp .ge 76) 76 8 81 := ⟨by decide +kernel, rfl, by decide⟩
theorem d_X8_layBoth_8 : zDc M_X8_layBoth 8 (.aload_n 0) 1 9 := ⟨by decide +kernel, rfl⟩
theorem d_X8_layBoth_9 : zDc M_X8_layBoth 9 (.iconst 1) 1 10 := ⟨by decide +kernel, rfl⟩
theorem d_X8_layBoth_10 : zDc M_X8_layBoth 10 (.iconst 0) 1 11 := ⟨by decide +kernel, rfl⟩
theorem d_X8_layBoth_11 : zDc M_X8_layBoth 11 (.invokevirtual 416) 3 14 := ⟨by decide +kernel, rfl⟩
theorem d_X8_layBoth_14 : zDc M_X8_layBoth 14 (.aload_n 0) 1 15 := ⟨by decide +kernel, rfl⟩
theorem d_X8_layBoth_15 : zDc M_X8_layBoth 15 (.iconst 1) 1 16 := ⟨by decide +kernel, rfl⟩
theorem d_X8_layBoth_16 : zDc M_X8_layBoth 16 (.iload_n 1) 1 17 := ⟨by decide +kernel, rfl⟩
theorem d_X8_layBoth_17 : zDc M_X8_layBoth 17 (.iload_n 3) 1 18 := ⟨by decide +kernel, rfl⟩
theorem d_X8_layBoth_18 : zDc M_X8_layBoth 18 (.iconst 5) 1 19 := ⟨by decide +kernel, rfl⟩
theorem d_X8_layBoth_19 : zDc M_X8_layBoth 19 (.idiv) 1 20 := ⟨by decide +kernel, rfl⟩
theorem d_X8_layBoth_20 : zDc M_X8_layBoth 20 (.invokevirtual 447) 3 23 := ⟨by decide +kernel, rfl⟩
theorem d_X8_layBoth_23 : zDc M_X8_layBoth 23 (.aload_n 0) 1 24 := ⟨by decide +kernel, rfl⟩
theorem d_X8_layBoth_24 : zDc M_X8_layBoth 24 (.iconst 1) 1 25 := ⟨by decide +kernel, rfl⟩
theorem d_X8_layBoth_25 : zDc M_X8_layBoth 25 (.iload_n 2) 1 26 := ⟨by decide +kernel, rfl⟩
theorem d_X8_layBoth_26 : zDc M_X8_layBoth 26 (.iload_n 3) 1 27 := ⟨by decide +kernel, rfl⟩
theorem d_X8_layBoth_27 : zDc M_X8_layBoth 27 (.iconst 5) 1 28 := ⟨by decide +kernel, rfl⟩
theorem d_X8_layBoth_28 : zDc M_X8_layBoth 28 (.irem) 1 29 := ⟨by decide +kernel, rfl⟩
theorem d_X8_layBoth_29 : zDc M_X8_layBoth 29 (.invokevirtual 447) 3 32 := ⟨by decide +kernel, rfl⟩
theorem d_X8_layBoth_32 : zDc M_X8_layBoth 32 (.aload_n 0) 1 33 := ⟨by decide +kernel, rfl⟩
theorem d_X8_layBoth_33 : zDc M_X8_layBoth 33 (.iconst 1) 1 34 := ⟨by decide +kernel, rfl⟩
theorem d_X8_layBoth_34 : zDc M_X8_layBoth 34 (.invokevirtual 419) 3 37 := ⟨by decide +kernel, rfl⟩
theorem d_X8_layBoth_37 : zDc M_X8_layBoth 37 (.aload_n 0) 1 38 := ⟨by decide +kernel, rfl⟩
theorem d_X8_layBoth_38 : zDc M_X8_layBoth 38 (.getfield 123) 3 41 := ⟨by decide +kernel, rfl⟩
theorem d_X8_layBoth_41 : zDc M_X8_layBoth 41 (.iload_n 3) 1 42 := ⟨by decide +kernel, rfl⟩
theorem d_X8_layBoth_42 : zDc M_X8_layBoth 42 (.aload_n 0) 1 43 := ⟨by decide +kernel, rfl⟩
theorem d_X8_layBoth_43 : zDc M_X8_layBoth 43 (.iconst 1) 1 44 := ⟨by decide +kernel, rfl⟩
theorem d_X8_layBoth_44 : zDc M_X8_layBoth 44 (.iload_n 1) 1 45 := ⟨by decide +kernel, rfl⟩
theorem d_X8_layBoth_45 : zDc M_X8_layBoth 45 (.invokevirtual 428) 3 48 := ⟨by decide +kernel, rfl⟩
theorem d_X8_layBoth_48 : zDc M_X8_layBoth 48 (.aload_n 0) 1 49 := ⟨by decide +kernel, rfl⟩
theorem d_X8_layBoth_49 : zDc M_X8_layBoth 49 (.iconst 0) 1 50 := ⟨by decide +kernel, rfl⟩
theorem d_X8_layBoth_50 : zDc M_X8_layBoth 50 (.iload_n 1) 1 51 := ⟨by decide +kernel, rfl⟩
theorem d_X8_layBoth_51 : zDc M_X8_layBoth 51 (.invokevirtual 428) 3 54 := ⟨by decide +kernel, rfl⟩
theorem d_X8_layBoth_54 : zDc M_X8_layBoth 54 (.isub) 1 55 := ⟨by decide +kernel, rfl⟩
theorem d_X8_layBoth_55 : zDc M_X8_layBoth 55 (.iastore) 1 56 := ⟨by decide +kernel, rfl⟩
theorem d_X8_layBoth_56 : zDc M_X8_layBoth 56 (.aload_n 0) 1 57 := ⟨by decide +kernel, rfl⟩
theorem d_X8_layBoth_57 : zDc M_X8_layBoth 57 (.getfield 126) 3 60 := ⟨by decide +kernel, rfl⟩
theorem d_X8_layBoth_60 : zDc M_X8_layBoth 60 (.iload_n 3) 1 61 := ⟨by decide +kernel, rfl⟩
theorem d_X8_layBoth_61 : zDc M_X8_layBoth 61 (.aload_n 0) 1 62 := ⟨by decide +kernel, rfl⟩
theorem d_X8_layBoth_62 : zDc M_X8_layBoth 62 (.iconst 1) 1 63 := ⟨by decide +kernel, rfl⟩
theorem d_X8_layBoth_63 : zDc M_X8_layBoth 63 (.iload_n 2) 1 64 := ⟨by decide +kernel, rfl⟩
theorem d_X8_layBoth_64 : zDc M_X8_layBoth 64 (.invokevirtual 428) 3 67 := ⟨by decide +kernel, rfl⟩
theorem d_X8_layBoth_67 : zDc M_X8_layBoth 67 (.aload_n 0) 1 68 := ⟨by decide +kernel, rfl⟩
theorem d_X8_layBoth_68 : zDc M_X8_layBoth 68 (.iconst 0) 1 69 := ⟨by decide +kernel, rfl⟩
theorem d_X8_layBoth_69 : zDc M_X8_layBoth 69 (.iload_n 2) 1 70 := ⟨by decide +kernel, rfl⟩
theorem d_X8_layBoth_70 : zDc M_X8_layBoth 70 (.invokevirtual 428) 3 73 := ⟨by decide +kernel, rfl⟩
theorem d_X8_layBoth_73 : zDc M_X8_layBoth 73 (.isub) 1 74 := ⟨by decide +kernel, rfl⟩
theorem d_X8_layBoth_74 : zDc M_X8_layBoth 74 (.iastore) 1 75 := ⟨by decide +kernel, rfl⟩
theorem d_X8_layBoth_75 : zDc M_X8_layBoth 75 (.iinc 3 1) 3 78 := ⟨by decide +kernel, rfl⟩
theorem d_X8_layBoth_78 : zDj M_X8_layBoth 78 (.goto (-76)) (-76) 81 2 := ⟨by decide +kernel, rfl, by decide⟩
theorem d_X8_layBoth_81 : zDc M_X8_layBoth 81 (.return_) 1 82 := ⟨by decide +kernel, rfl⟩
def f_X8_layBoth (a0 : Nat) (a1 : Int32) (a2 : Int32) (h0 : zHp) : Option (Unit × zHp) :=
  zbd (
  zlp (σ := Int32) (β := Int32) zLF (fun s1 h2 =>
  if 25 ≤ s1 then
  some ((.inr s1), h2)
  else
  zbd (zcv 8 a0 h2 (f_X8_copies a0 1 0 h2)) (fun v6 h5 =>
  zbd (zcv 8 a0 h5 (f_X8_pushes a0 1 a1 (s1 / 5) h5)) (fun v8 h7 =>
  zbd (zcv 8 a0 h7 (f_X8_pushes a0 1 a2 (zrm s1 5) h7)) (fun v10 h9 =>
  zbd (zcv 8 a0 h9 (f_X8_passes a0 1 h9)) (fun v12 h11 =>
  zob (zgR h11 a0 8 59) (fun v13 =>
  zbd (zcv 8 a0 h11 (f_X8_rainBy a0 1 a1 h11)) (fun v15 h14 =>
  zbd (zcv 8 a0 h14 (f_X8_rainBy a0 0 a1 h14)) (fun v17 h16 =>
  zob (zsI 0 h16 v13 s1 (v15 - v17)) (fun h18 =>
  zob (zgR h18 a0 8 60) (fun v19 =>
  zbd (zcv 8 a0 h18 (f_X8_rainBy a0 1 a2 h18)) (fun v21 h20 =>
  zbd (zcv 8 a0 h20 (f_X8_rainBy a0 0 a2 h20)) (fun v23 h22 =>
  zob (zsI 0 h22 v19 s1 (v21 - v23)) (fun h24 =>
  some ((.inl (s1 + 1)), h24)))))))))))))) 0 h0) (fun e3 h4 =>
  some ((), h4))
set_option maxRecDepth 100000 in
set_option maxHeartbeats 4000000 in
theorem t_X8_layBoth (a0 : Nat) (a1 : Int32) (a2 : Int32) (h0 : zHp) : ∀ (r : Unit) (h' : zHp), f_X8_layBoth a0 a1 a2 h0 = some (r, h') → zCt yX8_layBoth (.code yX8_layBoth cX8_layBoth 4 none) 7 201 0 0 [.ref a0, .int a1, .int a2] h0 (none) h' := by
  refine zct_of M_X8_layBoth yX8_layBoth (by decide) rfl rfl [.ref a0, .int a1, .int a2] h0 (Nat.le_of_ble_eq_true rfl) (fun _ => none) (fun X => ?_)
  show zG X M_X8_layBoth (0, 0) 0 [(0, .ref a0), (1, .int a1), (2, .int a2)] [] h0 (f_X8_layBoth a0 a1 a2 h0) (fun (_ : Unit) h' => zKe X (none) h')
  unfold f_X8_layBoth
  refine zg_iconst 0 rfl d_X8_layBoth_0 ?_
  refine zg_istore_n [(3, .int 0), (0, .ref a0), (1, .int a1), (2, .int a2)] d_X8_layBoth_1 rfl (by decide) rfl ?_
  refine zg_bd (E := 81) (el := (fun (e3 : Int32) => [(0, .ref a0), (1, .int a1), (2, .int a2), (3, .int e3)])) (es := fun _ => []) (zg_sub [1, 2, 3, 0] rfl (zg_lp (el := (fun (s1 : Int32) => [(0, .ref a0), (1, .int a1), (2, .int a2), (3, .int s1)])) (fun s1 h2 => ?_) 0 h0)) (fun e3 h4 => ?_)
  · refine zg_iload_n 3 rfl d_X8_layBoth_2 ?_
    refine zg_bipush 25 rfl d_X8_layBoth_3 ?_
    refine zg_icmp_ge d_X8_layBoth_5 ?_ ?_
    · exact zg_finK (E := 0) [0, 1, 2, 3] rfl rfl (fun q => q)
    · refine zg_aload_n 0 rfl d_X8_layBoth_8 ?_
      refine zg_iconst 1 rfl d_X8_layBoth_9 ?_
      refine zg_iconst 0 rfl d_X8_layBoth_10 ?_
      refine zg_cVv (b := a0) (As := [.int 1, .int 0]) (rest := []) (0, 0) d_X8_layBoth_11 zc_8 rfl cw_X8_416 wi_X8_copies ws_X8_copies rfl rfl (Nat.le_of_ble_eq_true rfl) (by decide) (by decide) ⟨by decide, by decide⟩ rfl (t_X8_copies a0 1 0 h2) (fun v6 h5 => ?_)
      refine zg_aload_n 0 rfl d_X8_layBoth_14 ?_
      refine zg_iconst 1 rfl d_X8_layBoth_15 ?_
      refine zg_iload_n 1 rfl d_X8_layBoth_16 ?_
      refine zg_iload_n 3 rfl d_X8_layBoth_17 ?_
      refine zg_iconst 5 rfl d_X8_layBoth_18 ?_
      refine zg_idiv (by decide) d_X8_layBoth_19 ?_
      refine zg_cVv (b := a0) (As := [.int 1, .int a1, .int (s1 / 5)]) (rest := []) (0, 0) d_X8_layBoth_20 zc_8 rfl cw_X8_447 wi_X8_pushes ws_X8_pushes rfl rfl (Nat.le_of_ble_eq_true rfl) (by decide) (by decide) ⟨by decide, by decide⟩ rfl (t_X8_pushes a0 1 a1 (s1 / 5) h5) (fun v8 h7 => ?_)
      refine zg_aload_n 0 rfl d_X8_layBoth_23 ?_
      refine zg_iconst 1 rfl d_X8_layBoth_24 ?_
      refine zg_iload_n 2 rfl d_X8_layBoth_25 ?_
      refine zg_iload_n 3 rfl d_X8_layBoth_26 ?_
      refine zg_iconst 5 rfl d_X8_layBoth_27 ?_
      refine zg_irem (by decide) d_X8_layBoth_28 ?_
      refine zg_cVv (b := a0) (As := [.int 1, .int a2, .int (zrm s1 5)]) (rest := []) (0, 0) d_X8_layBoth_29 zc_8 rfl cw_X8_447 wi_X8_pushes ws_X8_pushes rfl rfl (Nat.le_of_ble_eq_true rfl) (by decide) (by decide) ⟨by decide, by decide⟩ rfl (t_X8_pushes a0 1 a2 (zrm s1 5) h7) (fun v10 h9 => ?_)
      refine zg_aload_n 0 rfl d_X8_layBoth_32 ?_
      refine zg_iconst 1 rfl d_X8_layBoth_33 ?_
      refine zg_cVv (b := a0) (As := [.int 1]) (rest := []) (0, 0) d_X8_layBoth_34 zc_8 rfl cw_X8_419 wi_X8_passes ws_X8_passes rfl rfl (Nat.le_of_ble_eq_true rfl) (by decide) (by decide) ⟨by decide, by decide⟩ rfl (t_X8_passes a0 1 h9) (fun v12 h11 => ?_)
      refine zg_aload_n 0 rfl d_X8_layBoth_37 ?_
      refine zg_getR d_X8_layBoth_38 zc_8 (by decide) fl_X8_123 (fun v13 => ?_)
      refine zg_iload_n 3 rfl d_X8_layBoth_41 ?_
      refine zg_aload_n 0 rfl d_X8_layBoth_42 ?_
      refine zg_iconst 1 rfl d_X8_layBoth_43 ?_
      refine zg_iload_n 1 rfl d_X8_layBoth_44 ?_
      refine zg_cVi (b := a0) (As := [.int 1, .int a1]) (rest := [.int s1, .ref v13]) (0, 0) d_X8_layBoth_45 zc_8 rfl cw_X8_428 wi_X8_rainBy ws_X8_rainBy rfl rfl (Nat.le_of_ble_eq_true rfl) (by decide) (by decide) ⟨by decide, by decide⟩ rfl (t_X8_rainBy a0 1 a1 h11) (fun v15 h14 => ?_)
      refine zg_aload_n 0 rfl d_X8_layBoth_48 ?_
      refine zg_iconst 0 rfl d_X8_layBoth_49 ?_
      refine zg_iload_n 1 rfl d_X8_layBoth_50 ?_
      refine zg_cVi (b := a0) (As := [.int 0, .int a1]) (rest := [.int v15, .int s1, .ref v13]) (0, 0) d_X8_layBoth_51 zc_8 rfl cw_X8_428 wi_X8_rainBy ws_X8_rainBy rfl rfl (Nat.le_of_ble_eq_true rfl) (by decide) (by decide) ⟨by decide, by decide⟩ rfl (t_X8_rainBy a0 0 a1 h14) (fun v17 h16 => ?_)
      refine zg_isub d_X8_layBoth_54 ?_
      refine zg_ast0 d_X8_layBoth_55 (fun h18 => ?_)
      refine zg_aload_n 0 rfl d_X8_layBoth_56 ?_
      refine zg_getR d_X8_layBoth_57 zc_8 (by decide) fl_X8_126 (fun v19 => ?_)
      refine zg_iload_n 3 rfl d_X8_layBoth_60 ?_
      refine zg_aload_n 0 rfl d_X8_layBoth_61 ?_
      refine zg_iconst 1 rfl d_X8_layBoth_62 ?_
      refine zg_iload_n 2 rfl d_X8_layBoth_63 ?_
      refine zg_cVi (b := a0) (As := [.int 1, .int a2]) (rest := [.int s1, .ref v19]) (0, 0) d_X8_layBoth_64 zc_8 rfl cw_X8_428 wi_X8_rainBy ws_X8_rainBy rfl rfl (Nat.le_of_ble_eq_true rfl) (by decide) (by decide) ⟨by decide, by decide⟩ rfl (t_X8_rainBy a0 1 a2 h18) (fun v21 h20 => ?_)
      refine zg_aload_n 0 rfl d_X8_layBoth_67 ?_
      refine zg_iconst 0 rfl d_X8_layBoth_68 ?_
      refine zg_iload_n 2 rfl d_X8_layBoth_69 ?_
      refine zg_cVi (b := a0) (As := [.int 0, .int a2]) (rest := [.int v21, .int s1, .ref v19]) (0, 0) d_X8_layBoth_70 zc_8 rfl cw_X8_428 wi_X8_rainBy ws_X8_rainBy rfl rfl (Nat.le_of_ble_eq_true rfl) (by decide) (by decide) ⟨by decide, by decide⟩ rfl (t_X8_rainBy a0 0 a2 h20) (fun v23 h22 => ?_)
      refine zg_isub d_X8_layBoth_73 ?_
      refine zg_ast0 d_X8_layBoth_74 (fun h24 => ?_)
      refine zg_iinc 3 (s1 + 1) [(3, .int (s1 + 1)), (0, .ref a0), (1, .int a1), (2, .int a2)] d_X8_layBoth_75 rfl rfl (by decide) rfl ?_
      refine zg_goto d_X8_layBoth_78 ?_
      exact zg_finK (E := 0) [1, 2, 3, 0] rfl rfl (fun q => q)
  · exact zg_vretK d_X8_layBoth_81 rfl ⟨Nat.le_of_ble_eq_true rfl, Nat.le_of_ble_eq_true rfl⟩ (fun q => q)
abbrev M_X8_layPlan : zMt := (RX8, cX8_layPlan, 7, 7, 201, none, "layPlan", 0, 0)
theorem d_X8_layPlan_0 : zDc M_X8_layPlan 0 (.aload_n 0) 1 1 := ⟨by decide +kernel, rfl⟩
theorem d_X8_layPlan_1 : zDc M_X8_layPlan 1 (.iconst (-1)) 1 2 := ⟨by decide +kernel, rfl⟩
theorem d_X8_layPlan_2 : zDc M_X8_layPlan 2 (.putfield 483) 3 5 := ⟨by decide +kernel, rfl⟩
theorem d_X8_layPlan_5 : zDc M_X8_layPlan 5 (.iconst 0) 1 6 := ⟨by decide +kernel, rfl⟩
theorem d_X8_layPlan_6 : zDc M_X8_layPlan 6 (.istore 4) 2 8 := ⟨by decide +kernel, rfl⟩
theorem d_X8_layPlan_8 : zDc M_X8_layPlan 8 (.iload 4) 2 10 := ⟨by decide +kernel, rfl⟩
theorem d_X8_layPlan_10 : zDc M_X8_layPlan 10 (.iload_n 3) 1 11 := ⟨by decide +kernel, rfl⟩
theorem d_X8_layPlan_11 : zDc M_X8_layPlan 11 (.invokestatic 477) 3 14 := ⟨by decide +kernel, rfl⟩
theorem d_X8_layPlan_14 : zDj M_X8_layPlan 14 (.if_icmp .ge 101) 101 17 115 := ⟨by decide +kernel, rfl, by decide⟩
theorem d_X8_layPlan_17 : zDc M_X8_layPlan 17 (.aload_n 0) 1 18 := ⟨by decide +kernel, rfl⟩
theorem d_X8_layPlan_18 : zDc M_X8_layPlan 18 (.iconst 1) 1 19 := ⟨by decide +kernel, rfl⟩
theorem d_X8_layPlan_19 : zDc M_X8_layPlan 19 (.iconst 0) 1 20 := ⟨by decide +kernel, rfl⟩
theorem d_X8_layPlan_20 : zDc M_X8_layPlan 20 (.invokevirtual 416) 3 23 := ⟨by decide +kernel, rfl⟩
theorem d_X8_layPlan_23 : zDc M_X8_layPlan 23 (.iload_n 3) 1 24 := ⟨by decide +kernel, rfl⟩
theorem d_X8_layPlan_24 : zDc M_X8_layPlan 24 (.invokestatic 477) 3 27 := ⟨by decide +kernel, rfl⟩
theorem d_X8_layPlan_27 : zDc M_X8_layPlan 27 (.istore 5) 2 29 := ⟨by decide +kernel, rfl⟩
theorem d_X8_layPlan_29 : zDc M_X8_layPlan 29 (.iconst 0) 1 30 := ⟨by decide +kernel, rfl⟩
theorem d_X8_layPlan_30 : zDc M_X8_layPlan 30 (.istore 6) 2 32 := ⟨by decide +kernel, rfl⟩
theorem d_X8_layPlan_32 : zDc M_X8_layPlan 32 (.iload 6) 2 34 := ⟨by decide +kernel, rfl⟩
theorem d_X8_layPlan_34 : zDc M_X8_layPlan 34 (.iload_n 3) 1 35 := ⟨by decide +kernel, rfl⟩
theorem d_X8_layPlan_35 : zDj M_X8_layPlan 35 (.if_icmp .ge 33) 33 38 68 := ⟨by decide +kernel, rfl, by decide⟩
theorem d_X8_layPlan_38 : zDc M_X8_layPlan 38 (.iload 5) 2 40 := ⟨by decide +kernel, rfl⟩
theorem d_X8_layPlan_40 : zDc M_X8_layPlan 40 (.iconst 5) 1 41 := ⟨by decide +kernel, rfl⟩
theorem d_X8_layPlan_41 : zDc M_X8_layPlan 41 (.idiv) 1 42 := ⟨by decide +kernel, rfl⟩
theorem d_X8_layPlan_42 : zDc M_X8_layPlan 42 (.istore 5) 2 44 := ⟨by decide +kernel, rfl⟩
theorem d_X8_layPlan_44 : zDc M_X8_layPlan 44 (.aload_n 0) 1 45 := ⟨by decide +kernel, rfl⟩
theorem d_X8_layPlan_45 : zDc M_X8_layPlan 45 (.iconst 1) 1 46 := ⟨by decide +kernel, rfl⟩
theorem d_X8_layPlan_46 : zDc M_X8_layPlan 46 (.iload_n 1) 1 47 := ⟨by decide +kernel, rfl⟩
theorem d_X8_layPlan_47 : zDc M_X8_layPlan 47 (.iload 4) 2 49 := ⟨by decide +kernel, rfl⟩
theorem d_X8_layPlan_49 : zDc M_X8_layPlan 49 (.iload 5) 2 51 := ⟨by decide +kernel, rfl⟩
theorem d_X8_layPlan_51 : zDc M_X8_layPlan 51 (.idiv) 1 52 := ⟨by decide +kernel, rfl⟩
theorem d_X8_layPlan_52 : zDc M_X8_layPlan 52 (.iconst 5) 1 53 := ⟨by decide +kernel, rfl⟩
theorem d_X8_layPlan_53 : zDc M_X8_layPlan 53 (.irem) 1 54 := ⟨by decide +kernel, rfl⟩
theorem d_X8_layPlan_54 : zDc M_X8_layPlan 54 (.invokevirtual 447) 3 57 := ⟨by decide +kernel, rfl⟩
theorem d_X8_layPlan_57 : zDc M_X8_layPlan 57 (.aload_n 0) 1 58 := ⟨by decide +kernel, rfl⟩
theorem d_X8_layPlan_58 : zDc M_X8_layPlan 58 (.iconst 1) 1 59 := ⟨by decide +kernel, rfl⟩
theorem d_X8_layPlan_59 : zDc M_X8_layPlan 59 (.invokevirtual 419) 3 62 := ⟨by decide +kernel, rfl⟩
theorem d_X8_layPlan_62 : zDc M_X8_layPlan 62 (.iinc 6 1) 3 65 := ⟨by decide +kernel, rfl⟩
theorem d_X8_layPlan_65 : zDj M_X8_layPlan 65 (.goto (-33)) (-33) 68 32 := ⟨by decide +kernel, rfl, by decide⟩
theorem d_X8_layPlan_68 : zDc M_X8_layPlan 68 (.aload_n 0) 1 69 := ⟨by decide +kernel, rfl⟩
theorem d_X8_layPlan_69 : zDc M_X8_layPlan 69 (.getfield 102) 3 72 := ⟨by decide +kernel, rfl⟩
theorem d_X8_layPlan_72 : zDc M_X8_layPlan 72 (.iconst 5) 1 73 := ⟨by decide +kernel, rfl⟩
theorem d_X8_layPlan_73 : zDc M_X8_layPlan 73 (.iload_n 2) 1 74 := ⟨by decide +kernel, rfl⟩
theorem d_X8_layPlan_74 : zDc M_X8_layPlan 74 (.iadd) 1 75 := ⟨by decide +kernel, rfl⟩
theorem d_X8_layPlan_75 : zDc M_X8_layPlan 75 (.iaload) 1 76 := ⟨by decide +kernel, rfl⟩
theorem d_X8_layPlan_76 : zDc M_X8_layPlan 76 (.aload_n 0) 1 77 := ⟨by decide +kernel, rfl⟩
theorem d_X8_layPlan_77 : zDc M_X8_layPlan 77 (.getfield 102) 3 80 := ⟨by decide +kernel, rfl⟩
theorem d_X8_layPlan_80 : zDc M_X8_layPlan 80 (.iload_n 2) 1 81 := ⟨by decide +kernel, rfl⟩
theorem d_X8_layPlan_81 : zDc M_X8_layPlan 81 (.iaload) 1 82 := ⟨by decide +kernel, rfl⟩
theorem d_X8_layPlan_82 : zDc M_X8_layPlan 82 (.isub) 1 83 := ⟨by decide +kernel, rfl⟩
theorem d_X8_layPlan_83 : zDc M_X8_layPlan 83 (.istore 6) 2 85 := ⟨by decide +kernel, rfl⟩
theorem d_X8_layPlan_85 : zDc M_X8_layPlan 85 (.iload 6) 2 87 := ⟨by decide +kernel, rfl⟩
theorem d_X8_layPlan_87 : zDc M_X8_layPlan 87 (.aload_n 0) 1 88 := ⟨by decide +kernel, rfl⟩
theorem d_X8_layPlan_88 : zDc M_X8_layPlan 88 (.getfield 483) 3 91 := ⟨by decide +kernel, rfl⟩
theorem d_X8_layPlan_91 : zDj M_X8_layPlan 91 (.if_icmp .gt 6) 6 94 97 := ⟨by decide +kernel, rfl, by decide⟩
theorem d_X8_layPlan_94 : zDj M_X8_layPlan 94 (.goto 15) 15 97 109 := ⟨by decide +kernel, rfl, by decide⟩
theorem d_X8_layPlan_97 : zDc M_X8_layPlan 97 (.aload_n 0) 1 98 := ⟨by decide +kernel, rfl⟩
theorem d_X8_layPlan_98 : zDc M_X8_layPlan 98 (.iload 6) 2 100 := ⟨by decide +kernel, rfl⟩
theorem d_X8_layPlan_100 : zDc M_X8_layPlan 100 (.putfield 483) 3 103 := ⟨by decide +kernel, rfl⟩
theorem d_X8_layPlan_103 : zDc M_X8_layPlan 103 (.aload_n 0) 1 104 := ⟨by decide +kernel, rfl⟩
theorem d_X8_layPlan_104 : zDc M_X8_layPlan 104 (.iload 4) 2 106 := ⟨by decide +kernel, rfl⟩
theorem d_X8_layPlan_106 : zDc M_X8_layPlan 106 (.putfield 486) 3 109 := ⟨by decide +kernel, rfl⟩
theorem d_X8_layPlan_109 : zDc M_X8_layPlan 109 (.iinc 4 1) 3 112 := ⟨by decide +kernel, rfl⟩
theorem d_X8_layPlan_112 : zDj M_X8_layPlan 112 (.goto (-104)) (-104) 115 8 := ⟨by decide +kernel, rfl, by decide⟩
theorem d_X8_layPlan_115 : zDc M_X8_layPlan 115 (.return_) 1 116 := ⟨by decide +kernel, rfl⟩
def f_X8_layPlan (a0 : Nat) (a1 : Int32) (a2 : Int32) (a3 : Int32) (h0 : zHp) : Option (Unit × zHp) :=
  zob (zpV h0 a0 8 57 (.int (-1))) (fun h1 =>
  zbd (
  zlp (σ := Int32) (β := Int32) zLF (fun s2 h3 =>
  zbd ((f_X8_fives a3 h3)) (fun v7 h6 =>
  if v7 ≤ s2 then
  some ((.inr s2), h6)
  else
  zbd (zcv 8 a0 h6 (f_X8_copies a0 1 0 h6)) (fun v9 h8 =>
  zbd ((f_X8_fives a3 h8)) (fun v11 h10 =>
  zbd (
  zlp (σ := (Int32 × Int32)) (β := (Int32 × Int32)) zLF (fun s12 h13 =>
  if a3 ≤ s12.2 then
  some ((.inr (s12.1, s12.2)), h13)
  else
  zob (zdv s2 (s12.1 / 5)) (fun v16 =>
  zbd (zcv 8 a0 h13 (f_X8_pushes a0 1 a1 (zrm v16 5) h13)) (fun v18 h17 =>
  zbd (zcv 8 a0 h17 (f_X8_passes a0 1 h17)) (fun v20 h19 =>
  some ((.inl ((s12.1 / 5), (s12.2 + 1))), h19))))) (v11, 0) h10) (fun e14 h15 =>
  zob (zgR h15 a0 8 45) (fun v21 =>
  zob (zaI 0 h15 v21 (5 + a2)) (fun v22 =>
  zob (zgR h15 a0 8 45) (fun v23 =>
  zob (zaI 0 h15 v23 a2) (fun v24 =>
  zob (zgI h15 a0 8 57) (fun v25 =>
  if v25 < (v22 - v24) then
  zob (zpV h15 a0 8 57 (.int (v22 - v24))) (fun h26 =>
  zob (zpV h26 a0 8 58 (.int s2)) (fun h27 =>
  some ((.inl (s2 + 1)), h27)))
  else
  some ((.inl (s2 + 1)), h15))))))))))) 0 h1) (fun e4 h5 =>
  some ((), h5)))
set_option maxRecDepth 100000 in
set_option maxHeartbeats 4000000 in
theorem t_X8_layPlan (a0 : Nat) (a1 : Int32) (a2 : Int32) (a3 : Int32) (h0 : zHp) : ∀ (r : Unit) (h' : zHp), f_X8_layPlan a0 a1 a2 a3 h0 = some (r, h') → zCt yX8_layPlan (.code yX8_layPlan cX8_layPlan 7 none) 7 201 0 0 [.ref a0, .int a1, .int a2, .int a3] h0 (none) h' := by
  refine zct_of M_X8_layPlan yX8_layPlan (by decide) rfl rfl [.ref a0, .int a1, .int a2, .int a3] h0 (Nat.le_of_ble_eq_true rfl) (fun _ => none) (fun X => ?_)
  show zG X M_X8_layPlan (0, 0) 0 [(0, .ref a0), (1, .int a1), (2, .int a2), (3, .int a3)] [] h0 (f_X8_layPlan a0 a1 a2 a3 h0) (fun (_ : Unit) h' => zKe X (none) h')
  unfold f_X8_layPlan
  refine zg_aload_n 0 rfl d_X8_layPlan_0 ?_
  refine zg_iconst (-1) rfl d_X8_layPlan_1 ?_
  refine zg_putV d_X8_layPlan_2 zc_8 (by decide) fl_X8_483 rfl rfl rfl (fun h1 => ?_)
  refine zg_iconst 0 rfl d_X8_layPlan_5 ?_
  refine zg_istore [(4, .int 0), (0, .ref a0), (1, .int a1), (2, .int a2), (3, .int a3)] d_X8_layPlan_6 (by decide) rfl ?_
  refine zg_bd (E := 115) (el := (fun (e4 : Int32) => [(0, .ref a0), (1, .int a1), (2, .int a2), (3, .int a3), (4, .int e4)])) (es := fun _ => []) (zg_sub [1, 2, 3, 4, 0] rfl (zg_lp (el := (fun (s2 : Int32) => [(0, .ref a0), (1, .int a1), (2, .int a2), (3, .int a3), (4, .int s2)])) (fun s2 h3 => ?_) 0 h1)) (fun e4 h5 => ?_)
  · refine zg_iload 4 rfl d_X8_layPlan_8 ?_
    refine zg_iload_n 3 rfl d_X8_layPlan_10 ?_
    refine zg_cSi (As := [.int a3]) (rest := [.int s2]) (0, 0) d_X8_layPlan_11 cw_X8_477 wt_X8_fives rfl rfl (Nat.le_of_ble_eq_true rfl) (by decide) (by decide) ⟨by decide, by decide⟩ rfl (t_X8_fives a3 h3) (fun v7 h6 => ?_)
    refine zg_icmp_ge d_X8_layPlan_14 ?_ ?_
    · exact zg_finK (E := 0) [0, 1, 2, 3, 4] rfl rfl (fun q => q)
    · refine zg_aload_n 0 rfl d_X8_layPlan_17 ?_
      refine zg_iconst 1 rfl d_X8_layPlan_18 ?_
      refine zg_iconst 0 rfl d_X8_layPlan_19 ?_
      refine zg_cVv (b := a0) (As := [.int 1, .int 0]) (rest := []) (0, 0) d_X8_layPlan_20 zc_8 rfl cw_X8_416 wi_X8_copies ws_X8_copies rfl rfl (Nat.le_of_ble_eq_true rfl) (by decide) (by decide) ⟨by decide, by decide⟩ rfl (t_X8_copies a0 1 0 h6) (fun v9 h8 => ?_)
      refine zg_iload_n 3 rfl d_X8_layPlan_23 ?_
      refine zg_cSi (As := [.int a3]) (rest := []) (0, 0) d_X8_layPlan_24 cw_X8_477 wt_X8_fives rfl rfl (Nat.le_of_ble_eq_true rfl) (by decide) (by decide) ⟨by decide, by decide⟩ rfl (t_X8_fives a3 h8) (fun v11 h10 => ?_)
      refine zg_istore [(5, .int v11), (0, .ref a0), (1, .int a1), (2, .int a2), (3, .int a3), (4, .int s2)] d_X8_layPlan_27 (by decide) rfl ?_
      refine zg_iconst 0 rfl d_X8_layPlan_29 ?_
      refine zg_istore [(6, .int 0), (5, .int v11), (0, .ref a0), (1, .int a1), (2, .int a2), (3, .int a3), (4, .int s2)] d_X8_layPlan_30 (by decide) rfl ?_
      refine zg_bd (E := 68) (el := (fun (e14 : (Int32 × Int32)) => [(0, .ref a0), (1, .int a1), (2, .int a2), (3, .int a3), (4, .int s2), (5, .int e14.1), (6, .int e14.2)])) (es := fun _ => []) (zg_sub [2, 3, 4, 5, 6, 1, 0] rfl (zg_lp (el := (fun (s12 : (Int32 × Int32)) => [(0, .ref a0), (1, .int a1), (2, .int a2), (3, .int a3), (4, .int s2), (5, .int s12.1), (6, .int s12.2)])) (fun s12 h13 => ?_) (v11, 0) h10)) (fun e14 h15 => ?_)
      · refine zg_iload 6 rfl d_X8_layPlan_32 ?_
        refine zg_iload_n 3 rfl d_X8_layPlan_34 ?_
        refine zg_icmp_ge d_X8_layPlan_35 ?_ ?_
        · exact zg_finK (E := 0) [0, 1, 2, 3, 4, 5, 6] rfl rfl (fun q => q)
        · refine zg_iload 5 rfl d_X8_layPlan_38 ?_
          refine zg_iconst 5 rfl d_X8_layPlan_40 ?_
          refine zg_idiv (by decide) d_X8_layPlan_41 ?_
          refine zg_istore [(5, .int (s12.1 / 5)), (0, .ref a0), (1, .int a1), (2, .int a2), (3, .int a3), (4, .int s2), (6, .int s12.2)] d_X8_layPlan_42 (by decide) rfl ?_
          refine zg_aload_n 1 rfl d_X8_layPlan_44 ?_
          refine zg_iconst 1 rfl d_X8_layPlan_45 ?_
          refine zg_iload_n 2 rfl d_X8_layPlan_46 ?_
          refine zg_iload 5 rfl d_X8_layPlan_47 ?_
          refine zg_iload 0 rfl d_X8_layPlan_49 ?_
          refine zg_idivP d_X8_layPlan_51 (fun v16 => ?_)
          refine zg_iconst 5 rfl d_X8_layPlan_52 ?_
          refine zg_irem (by decide) d_X8_layPlan_53 ?_
          refine zg_cVv (b := a0) (As := [.int 1, .int a1, .int (zrm v16 5)]) (rest := []) (0, 0) d_X8_layPlan_54 zc_8 rfl cw_X8_447 wi_X8_pushes ws_X8_pushes rfl rfl (Nat.le_of_ble_eq_true rfl) (by decide) (by decide) ⟨by decide, by decide⟩ rfl (t_X8_pushes a0 1 a1 (zrm v16 5) h13) (fun v18 h17 => ?_)
          refine zg_aload_n 1 rfl d_X8_layPlan_57 ?_
          refine zg_iconst 1 rfl d_X8_layPlan_58 ?_
          refine zg_cVv (b := a0) (As := [.int 1]) (rest := []) (0, 0) d_X8_layPlan_59 zc_8 rfl cw_X8_419 wi_X8_passes ws_X8_passes rfl rfl (Nat.le_of_ble_eq_true rfl) (by decide) (by decide) ⟨by decide, by decide⟩ rfl (t_X8_passes a0 1 h17) (fun v20 h19 => ?_)
          refine zg_iinc 6 (s12.2 + 1) [(6, .int (s12.2 + 1)), (5, .int (s12.1 / 5)), (0, .ref a0), (1, .int a1), (2, .int a2), (3, .int a3), (4, .int s2)] d_X8_layPlan_62 rfl rfl (by decide) rfl ?_
          refine zg_goto d_X8_layPlan_65 ?_
          exact zg_finK (E := 0) [2, 3, 4, 5, 6, 1, 0] rfl rfl (fun q => q)
      · refine zg_aload_n 0 rfl d_X8_layPlan_68 ?_
        refine zg_getR d_X8_layPlan_69 zc_8 (by decide) fl_X8_102 (fun v21 => ?_)
        refine zg_iconst 5 rfl d_X8_layPlan_72 ?_
        refine zg_iload_n 2 rfl d_X8_layPlan_73 ?_
        refine zg_iadd d_X8_layPlan_74 ?_
        refine zg_ald0 d_X8_layPlan_75 (fun v22 => ?_)
        refine zg_aload_n 0 rfl d_X8_layPlan_76 ?_
        refine zg_getR d_X8_layPlan_77 zc_8 (by decide) fl_X8_102 (fun v23 => ?_)
        refine zg_iload_n 2 rfl d_X8_layPlan_80 ?_
        refine zg_ald0 d_X8_layPlan_81 (fun v24 => ?_)
        refine zg_isub d_X8_layPlan_82 ?_
        refine zg_istore [(6, .int (v22 - v24)), (0, .ref a0), (1, .int a1), (2, .int a2), (3, .int a3), (4, .int s2), (5, .int e14.1)] d_X8_layPlan_83 (by decide) rfl ?_
        refine zg_iload 0 rfl d_X8_layPlan_85 ?_
        refine zg_aload_n 1 rfl d_X8_layPlan_87 ?_
        refine zg_getI d_X8_layPlan_88 zc_8 (by decide) fl_X8_483 (fun v25 => ?_)
        refine zg_icmp_gt d_X8_layPlan_91 ?_ ?_
        · refine zg_aload_n 1 rfl d_X8_layPlan_97 ?_
          refine zg_iload 0 rfl d_X8_layPlan_98 ?_
          refine zg_putV d_X8_layPlan_100 zc_8 (by decide) fl_X8_483 rfl rfl rfl (fun h26 => ?_)
          refine zg_aload_n 1 rfl d_X8_layPlan_103 ?_
          refine zg_iload 5 rfl d_X8_layPlan_104 ?_
          refine zg_putV d_X8_layPlan_106 zc_8 (by decide) fl_X8_486 rfl rfl rfl (fun h27 => ?_)
          refine zg_iinc 5 (s2 + 1) [(4, .int (s2 + 1)), (6, .int (v22 - v24)), (0, .ref a0), (1, .int a1), (2, .int a2), (3, .int a3), (5, .int e14.1)] d_X8_layPlan_109 rfl rfl (by decide) rfl ?_
          refine zg_goto d_X8_layPlan_112 ?_
          exact zg_finK (E := 0) [2, 3, 4, 5, 0] rfl rfl (fun q => q)
        · refine zg_goto d_X8_layPlan_94 ?_
          refine zg_iinc 5 (s2 + 1) [(4, .int (s2 + 1)), (6, .int (v22 - v24)), (0, .ref a0), (1, .int a1), (2, .int a2), (3, .int a3), (5, .int e14.1)] d_X8_layPlan_109 rfl rfl (by decide) rfl ?_
          refine zg_goto d_X8_layPlan_112 ?_
          exact zg_finK (E := 0) [2, 3, 4, 5, 0] rfl rfl (fun q => q)
  · exact zg_vretK d_X8_layPlan_115 rfl ⟨Nat.le_of_ble_eq_true rfl, Nat.le_of_ble_eq_true rfl⟩ (fun q => q)
abbrev M_X8_likely : zMt := (RX8, cX8_likely, 9, 7, 201, (some .int), "likely", 0, 0)
theorem d_X8_likely_0 : zDc M_X8_likely 0 (.aload_n 0) 1 1 := ⟨by decide +kernel, rfl⟩
theorem d_X8_likely_1 : zDc M_X8_likely 1 (.iconst 0) 1 2 := ⟨by decide +kernel, rfl⟩
theorem d_X8_likely_2 : zDc M_X8_likely 2 (.putfield 151) 3 5 := ⟨by decide +kernel, rfl⟩
theorem d_X8_likely_5 : zDc M_X8_likely 5 (.aload_n 0) 1 6 := ⟨by decide +kernel, rfl⟩
theorem d_X8_likely_6 : zDc M_X8_likely 6 (.iload_n 1) 1 7 := ⟨by decide +kernel, rfl⟩
theorem d_X8_likely_7 : zDc M_X8_likely 7 (.invokevirtual 431) 3 10 := ⟨by decide +kernel, rfl⟩
theorem d_X8_likely_10 : zDj M_X8_likely 10 (.ifCond .eq 22) 22 13 32 := ⟨by decide +kernel, rfl, by decide⟩
theorem d_X8_likely_13 : zDc M_X8_likely 13 (.iload_n 2) 1 14 := ⟨by decide +kernel, rfl⟩
theorem d_X8_likely_14 : zDc M_X8_likely 14 (.iconst 1) 1 15 := ⟨by decide +kernel, rfl⟩
theorem d_X8_likely_15 : zDj M_X8_likely 15 (.if_icmp .lt 17) 17 18 32 := ⟨by decide +kernel, rfl, by decide⟩
theorem d_X8_likely_18 : zDc M_X8_likely 18 (.iload_n 2) 1 19 := ⟨by decide +kernel, rfl⟩
theorem d_X8_likely_19 : zDc M_X8_likely 19 (.iconst 5) 1 20 := ⟨by decide +kernel, rfl⟩
theorem d_X8_likely_20 : zDj M_X8_likely 20 (.if_icmp .gt 12) 12 23 32 := ⟨by decide +kernel, rfl, by decide⟩
theorem d_X8_likely_23 : zDc M_X8_likely 23 (.iload_n 3) 1 24 := ⟨by decide +kernel, rfl⟩
theorem d_X8_likely_24 : zDj M_X8_likely 24 (.ifCond .lt 8) 8 27 32 := ⟨by decide +kernel, rfl, by decide⟩
theorem d_X8_likely_27 : zDc M_X8_likely 27 (.iload_n 3) 1 28 := ⟨by decide +kernel, rfl⟩
theorem d_X8_likely_28 : zDc M_X8_likely 28 (.iconst 1) 1 29 := ⟨by decide +kernel, rfl⟩
theorem d_X8_likely_29 : zDj M_X8_likely 29 (.if_icmp .le 5) 5 32 34 := ⟨by decide +kernel, rfl, by decide⟩
theorem d_X8_likely_32 : zDc M_X8_likely 32 (.iconst (-1)) 1 33 := ⟨by decide +kernel, rfl⟩
theorem d_X8_likely_33 : zDc M_X8_likely 33 (.ireturn) 1 34 := ⟨by decide +kernel, rfl⟩
theorem d_X8_likely_34 : zDc M_X8_likely 34 (.iload_n 2) 1 35 := ⟨by decide +kernel, rfl⟩
theorem d_X8_likely_35 : zDc M_X8_likely 35 (.invokestatic 477) 3 38 := ⟨by decide +kernel, rfl⟩
theorem d_X8_likely_38 : zDc M_X8_likely 38 (.istore 4) 2 40 := ⟨by decide +kernel, rfl⟩
theorem d_X8_likely_40 : zDc M_X8_likely 40 (.iconst 0) 1 41 := ⟨by decide +kernel, rfl⟩
theorem d_X8_likely_41 : zDc M_X8_likely 41 (.istore 5) 2 43 := ⟨by decide +kernel, rfl⟩
theorem d_X8_likely_43 : zDc M_X8_likely 43 (.iconst 0) 1 44 := ⟨by decide +kernel, rfl⟩
theorem d_X8_likely_44 : zDc M_X8_likely 44 (.istore 6) 2 46 := ⟨by decide +kernel, rfl⟩
theorem d_X8_likely_46 : zDc M_X8_likely 46 (.iload 6) 2 48 := ⟨by decide +kernel, rfl⟩
theorem d_X8_likely_48 : zDc M_X8_likely 48 (.iload 4) 2 50 := ⟨by decide +kernel, rfl⟩
theorem d_X8_likely_50 : zDj M_X8_likely 50 (.if_icmp .ge 85) 85 53 135 := ⟨by decide +kernel, rfl, by decide⟩
theorem d_X8_likely_53 : zDc M_X8_likely 53 (.aload_n 0) 1 54 := ⟨by decide +kernel, rfl⟩
theorem d_X8_likely_54 : zDc M_X8_likely 54 (.iconst 1) 1 55 := ⟨by decide +kernel, rfl⟩
theorem d_X8_likely_55 : zDc M_X8_likely 55 (.iconst 0) 1 56 := ⟨by decide +kernel, rfl⟩
theorem d_X8_likely_56 : zDc M_X8_likely 56 (.invokevirtual 416) 3 59 := ⟨by decide +kernel, rfl⟩
theorem d_X8_likely_59 : zDc M_X8_likely 59 (.iload 6) 2 61 := ⟨by decide +kernel, rfl⟩
theorem d_X8_likely_61 : zDc M_X8_likely 61 (.istore 7) 2 63 := ⟨by decide +kernel, rfl⟩
theorem d_X8_likely_63 : zDc M_X8_likely 63 (.iconst 0) 1 64 := ⟨by decide +kernel, rfl⟩
theorem d_X8_likely_64 : zDc M_X8_likely 64 (.istore 8) 2 66 := ⟨by decide +kernel, rfl⟩
theorem d_X8_likely_66 : zDc M_X8_likely 66 (.iload 8) 2 68 := ⟨by decide +kernel, rfl⟩
theorem d_X8_likely_68 : zDc M_X8_likely 68 (.iload_n 2) 1 69 := ⟨by decide +kernel, rfl⟩
theorem d_X8_likely_69 : zDj M_X8_likely 69 (.if_icmp .ge 28) 28 72 97 := ⟨by decide +kernel, rfl, by decide⟩
theorem d_X8_likely_72 : zDc M_X8_likely 72 (.aload_n 0) 1 73 := ⟨by decide +kernel, rfl⟩
theorem d_X8_likely_73 : zDc M_X8_likely 73 (.iload 7) 2 75 := ⟨by decide +kernel, rfl⟩
theorem d_X8_likely_75 : zDc M_X8_likely 75 (.iconst 5) 1 76 := ⟨by decide +kernel, rfl⟩
theorem d_X8_likely_76 : zDc M_X8_likely 76 (.irem) 1 77 := ⟨by decide +kernel, rfl⟩
theorem d_X8_likely_77 : zDc M_X8_likely 77 (.putfield 111) 3 80 := ⟨by decide +kernel, rfl⟩
theorem d_X8_likely_80 : zDc M_X8_likely 80 (.iload 7) 2 82 := ⟨by decide +kernel, rfl⟩
theorem d_X8_likely_82 : zDc M_X8_likely 82 (.iconst 5) 1 83 := ⟨by decide +kernel, rfl⟩
theorem d_X8_likely_83 : zDc M_X8_likely 83 (.idiv) 1 84 := ⟨by decide +kernel, rfl⟩
theorem d_X8_likely_84 : zDc M_X8_likely 84 (.istore 7) 2 86 := ⟨by decide +kernel, rfl⟩
theorem d_X8_likely_86 : zDc M_X8_likely 86 (.aload_n 0) 1 87 := ⟨by decide +kernel, rfl⟩
theorem d_X8_likely_87 : zDc M_X8_likely 87 (.iconst 1) 1 88 := ⟨by decide +kernel, rfl⟩
theorem d_X8_likely_88 : zDc M_X8_likely 88 (.invokevirtual 419) 3 91 := ⟨by decide +kernel, rfl⟩
theorem d_X8_likely_91 : zDc M_X8_likely 91 (.iinc 8 1) 3 94 := ⟨by decide +kernel, rfl⟩
theorem d_X8_likely_94 : zDj M_X8_likely 94 (.goto (-28)) (-28) 97 66 := ⟨by decide +kernel, rfl, by decide⟩
theorem d_X8_likely_97 : zDc M_X8_likely 97 (.aload_n 0) 1 98 := ⟨by decide +kernel, rfl⟩
theorem d_X8_likely_98 : zDc M_X8_likely 98 (.iconst (-1)) 1 99 := ⟨by decide +kernel, rfl⟩
theorem d_X8_likely_99 : zDc M_X8_likely 99 (.putfield 111) 3 102 := ⟨by decide +kernel, rfl⟩
theorem d_X8_likely_102 : zDc M_X8_likely 102 (.iload 5) 2 104 := ⟨by decide +kernel, rfl⟩
theorem d_X8_likely_104 : zDc M_X8_likely 104 (.aload_n 0) 1 105 := ⟨by decide +kernel, rfl⟩
theorem d_X8_likely_105 : zDc M_X8_likely 105 (.getfield 102) 3 108 := ⟨by decide +kernel, rfl⟩
theorem d_X8_likely_108 : zDc M_X8_likely 108 (.iconst 5) 1 109 := ⟨by decide +kernel, rfl⟩
theorem d_X8_likely_109 : zDc M_X8_likely 109 (.iload_n 1) 1 110 := ⟨by decide +kernel, rfl⟩
theorem d_X8_likely_110 : zDc M_X8_likely 110 (.iadd) 1 111 := ⟨by decide +kernel, rfl⟩
theorem d_X8_likely_111 : zDc M_X8_likely 111 (.iaload) 1 112 := ⟨by decide +kernel, rfl⟩
theorem d_X8_likely_112 : zDc M_X8_likely 112 (.aload_n 0) 1 113 := ⟨by decide +kernel, rfl⟩
theorem d_X8_likely_113 : zDc M_X8_likely 113 (.getfield 102) 3 116 := ⟨by decide +kernel, rfl⟩
theorem d_X8_likely_116 : zDc M_X8_likely 116 (.iload_n 1) 1 117 := ⟨by decide +kernel, rfl⟩
theorem d_X8_likely_117 : zDc M_X8_likely 117 (.iaload) 1 118 := ⟨by decide +kernel, rfl⟩
theorem d_X8_likely_118 : zDj M_X8_likely 118 (.if_icmp .le 7) 7 121 125 := ⟨by decide +kernel, rfl, by decide⟩
theorem d_X8_likely_121 : zDc M_X8_likely 121 (.iconst 1) 1 122 := ⟨by decide +kernel, rfl⟩
theorem d_X8_likely_122 : zDj M_X8_likely 122 (.goto 4) 4 125 126 := ⟨by decide +kernel, rfl, by decide⟩
theorem d_X8_likely_125 : zDc M_X8_likely 125 (.iconst 0) 1 126 := ⟨by decide +kernel, rfl⟩
theorem d_X8_likely_126 : zDc M_X8_likely 126 (.iadd) 1 127 := ⟨by decide +kernel, rfl⟩
theorem d_X8_likely_127 : zDc M_X8_likely 127 (.istore 5) 2 129 := ⟨by decide +kernel, rfl⟩
theorem d_X8_likely_129 : zDc M_X8_likely 129 (.iinc 6 1) 3 132 := ⟨by decide +kernel, rfl⟩
theorem d_X8_likely_132 : zDj M_X8_likely 132 (.goto (-86)) (-86) 135 46 := ⟨by decide +kernel, rfl, by decide⟩
theorem d_X8_likely_135 : zDc M_X8_likely 135 (.iload 5) 2 137 := ⟨by decide +kernel, rfl⟩
theorem d_X8_likely_137 : zDc M_X8_likely 137 (.iload 4) 2 139 := ⟨by decide +kernel, rfl⟩
theorem d_X8_likely_139 : zDc M_X8_likely 139 (.invokestatic 480) 3 142 := ⟨by decide +kernel, rfl⟩
theorem d_X8_likely_142 : zDc M_X8_likely 142 (.istore 6) 2 144 := ⟨by decide +kernel, rfl⟩
theorem d_X8_likely_144 : zDc M_X8_likely 144 (.iload_n 3) 1 145 := ⟨by decide +kernel, rfl⟩
theorem d_X8_likely_145 : zDj M_X8_likely 145 (.ifCond .ne 11) 11 148 156 := ⟨by decide +kernel, rfl, by decide⟩
theorem d_X8_likely_148 : zDc M_X8_likely 148 (.iload 5) 2 150 := ⟨by decide +kernel, rfl⟩
theorem d_X8_likely_150 : zDc M_X8_likely 150 (.iload 6) 2 152 := ⟨by decide +kernel, rfl⟩
theorem d_X8_likely_152 : zDc M_X8_likely 152 (.idiv) 1 153 := ⟨by decide +kernel, rfl⟩
theorem d_X8_likely_153 : zDj M_X8_likely 153 (.goto 8) 8 156 161 := ⟨by decide +kernel, rfl, by decide⟩
theorem d_X8_likely_156 : zDc M_X8_likely 156 (.iload 4) 2 158 := ⟨by decide +kernel, rfl⟩
theorem d_X8_likely_158 : zDc M_X8_likely 158 (.iload 6) 2 160 := ⟨by decide +kernel, rfl⟩
theorem d_X8_likely_160 : zDc M_X8_likely 160 (.idiv) 1 161 := ⟨by decide +kernel, rfl⟩
theorem d_X8_likely_161 : zDc M_X8_likely 161 (.ireturn) 1 162 := ⟨by decide +kernel, rfl⟩
def f_X8_likely (a0 : Nat) (a1 : Int32) (a2 : Int32) (a3 : Int32) (h0 : zHp) : Option (Int32 × zHp) :=
  zob (zpV h0 a0 8 0 (.int 0)) (fun h1 =>
  zbd (zcv 8 a0 h1 (f_X8_isField a0 a1 h1)) (fun v3 h2 =>
  if v3 = 0 then
  some ((-1), h2)
  else
  if a2 < 1 then
  some ((-1), h2)
  else
  if 5 < a2 then
  some ((-1), h2)
  else
  if a3 < 0 then
  some ((-1), h2)
  else
  if a3 ≤ 1 then
  zbd ((f_X8_fives a2 h2)) (fun v5 h4 =>
  zbd (
  zlp (σ := (Int32 × Int32)) (β := (Int32 × Int32)) zLF (fun s6 h7 =>
  if v5 ≤ s6.2 then
  some ((.inr (s6.1, s6.2)), h7)
  else
  zbd (zcv 8 a0 h7 (f_X8_copies a0 1 0 h7)) (fun v11 h10 =>
  zbd (
  zlp (σ := (Int32 × Int32)) (β := (Int32 × Int32)) zLF (fun s12 h13 =>
  if a2 ≤ s12.2 then
  some ((.inr (s12.1, s12.2)), h13)
  else
  zob (zpV h13 a0 8 51 (.int (zrm s12.1 5))) (fun h16 =>
  zbd (zcv 8 a0 h16 (f_X8_passes a0 1 h16)) (fun v18 h17 =>
  some ((.inl ((s12.1 / 5), (s12.2 + 1))), h17)))) (s6.2, 0) h10) (fun e14 h15 =>
  zob (zpV h15 a0 8 51 (.int (-1))) (fun h19 =>
  zob (zgR h19 a0 8 45) (fun v20 =>
  zob (zaI 0 h19 v20 (5 + a1)) (fun v21 =>
  zob (zgR h19 a0 8 45) (fun v22 =>
  zob (zaI 0 h19 v22 a1) (fun v23 =>
  if v21 ≤ v23 then
  some ((.inl ((s6.1 + 0), (s6.2 + 1))), h19)
  else
  some ((.inl ((s6.1 + 1), (s6.2 + 1))), h19))))))))) (0, 0) h4) (fun e8 h9 =>
  zbd ((f_X8_common e8.1 v5 h9)) (fun v25 h24 =>
  if a3 = 0 then
  zob (zdv e8.1 v25) (fun v26 =>
  some (v26, h24))
  else
  zob (zdv v5 v25) (fun v27 =>
  some (v27, h24)))))
  else
  some ((-1), h2)))
set_option maxRecDepth 100000 in
set_option maxHeartbeats 4000000 in
theorem t_X8_likely (a0 : Nat) (a1 : Int32) (a2 : Int32) (a3 : Int32) (h0 : zHp) : ∀ (r : Int32) (h' : zHp), f_X8_likely a0 a1 a2 a3 h0 = some (r, h') → zCt yX8_likely (.code yX8_likely cX8_likely 9 (some .int)) 7 201 0 0 [.ref a0, .int a1, .int a2, .int a3] h0 (some (.int r)) h' := by
  refine zct_of M_X8_likely yX8_likely (by decide) rfl rfl [.ref a0, .int a1, .int a2, .int a3] h0 (Nat.le_of_ble_eq_true rfl) (fun r => some (.int r)) (fun X => ?_)
  show zG X M_X8_likely (0, 0) 0 [(0, .ref a0), (1, .int a1), (2, .int a2), (3, .int a3)] [] h0 (f_X8_likely a0 a1 a2 a3 h0) (fun (r : Int32) h' => zKe X (some (.int r)) h')
  unfold f_X8_likely
  refine zg_aload_n 0 rfl d_X8_likely_0 ?_
  refine zg_iconst 0 rfl d_X8_likely_1 ?_
  refine zg_putV d_X8_likely_2 zc_8 (by decide) fl_X8_151 rfl rfl rfl (fun h1 => ?_)
  refine zg_aload_n 0 rfl d_X8_likely_5 ?_
  refine zg_iload_n 1 rfl d_X8_likely_6 ?_
  refine zg_cVi (b := a0) (As := [.int a1]) (rest := []) (0, 0) d_X8_likely_7 zc_8 rfl cw_X8_431 wi_X8_isField ws_X8_isField rfl rfl (Nat.le_of_ble_eq_true rfl) (by decide) (by decide) ⟨by decide, by decide⟩ rfl (t_X8_isField a0 a1 h1) (fun v3 h2 => ?_)
  refine zg_if_eq d_X8_likely_10 ?_ ?_
  · refine zg_iconst (-1) rfl d_X8_likely_32 ?_
    exact zg_iretK d_X8_likely_33 rfl ⟨Nat.le_of_ble_eq_true rfl, Nat.le_of_ble_eq_true rfl⟩ (fun q => q)
  · refine zg_iload_n 2 rfl d_X8_likely_13 ?_
    refine zg_iconst 1 rfl d_X8_likely_14 ?_
    refine zg_icmp_lt d_X8_likely_15 ?_ ?_
    · refine zg_iconst (-1) rfl d_X8_likely_32 ?_
      exact zg_iretK d_X8_likely_33 rfl ⟨Nat.le_of_ble_eq_true rfl, Nat.le_of_ble_eq_true rfl⟩ (fun q => q)
    · refine zg_iload_n 2 rfl d_X8_likely_18 ?_
      refine zg_iconst 5 rfl d_X8_likely_19 ?_
      refine zg_icmp_gt d_X8_likely_20 ?_ ?_
      · refine zg_iconst (-1) rfl d_X8_likely_32 ?_
        exact zg_iretK d_X8_likely_33 rfl ⟨Nat.le_of_ble_eq_true rfl, Nat.le_of_ble_eq_true rfl⟩ (fun q => q)
      · refine zg_iload_n 3 rfl d_X8_likely_23 ?_
        refine zg_if_lt d_X8_likely_24 ?_ ?_
        · refine zg_iconst (-1) rfl d_X8_likely_32 ?_
          exact zg_iretK d_X8_likely_33 rfl ⟨Nat.le_of_ble_eq_true rfl, Nat.le_of_ble_eq_true rfl⟩ (fun q => q)
        · refine zg_iload_n 3 rfl d_X8_likely_27 ?_
          refine zg_iconst 1 rfl d_X8_likely_28 ?_
          refine zg_icmp_le d_X8_likely_29 ?_ ?_
          · refine zg_iload_n 2 rfl d_X8_likely_34 ?_
            refine zg_cSi (As := [.int a2]) (rest := []) (0, 0) d_X8_likely_35 cw_X8_477 wt_X8_fives rfl rfl (Nat.le_of_ble_eq_true rfl) (by decide) (by decide) ⟨by decide, by decide⟩ rfl (t_X8_fives a2 h2) (fun v5 h4 => ?_)
            refine zg_istore [(4, .int v5), (0, .ref a0), (1, .int a1), (2, .int a2), (3, .int a3)] d_X8_likely_38 (by decide) rfl ?_
            refine zg_iconst 0 rfl d_X8_likely_40 ?_
            refine zg_istore [(5, .int 0), (4, .int v5), (0, .ref a0), (1, .int a1), (2, .int a2), (3, .int a3)] d_X8_likely_41 (by decide) rfl ?_
            refine zg_iconst 0 rfl d_X8_likely_43 ?_
            refine zg_istore [(6, .int 0), (5, .int 0), (4, .int v5), (0, .ref a0), (1, .int a1), (2, .int a2), (3, .int a3)] d_X8_likely_44 (by decide) rfl ?_
            refine zg_bd (E := 135) (el := (fun (e8 : (Int32 × Int32)) => [(0, .ref a0), (1, .int a1), (2, .int a2), (3, .int a3), (4, .int v5), (5, .int e8.1), (6, .int e8.2)])) (es := fun _ => []) (zg_sub [3, 4, 5, 6, 2, 1, 0] rfl (zg_lp (el := (fun (s6 : (Int32 × Int32)) => [(0, .ref a0), (1, .int a1), (2, .int a2), (3, .int a3), (4, .int v5), (5, .int s6.1), (6, .int s6.2)])) (fun s6 h7 => ?_) (0, 0) h4)) (fun e8 h9 => ?_)
            · refine zg_iload 6 rfl d_X8_likely_46 ?_
              refine zg_iload 4 rfl d_X8_likely_48 ?_
              refine zg_icmp_ge d_X8_likely_50 ?_ ?_
              · exact zg_finK (E := 0) [0, 1, 2, 3, 4, 5, 6] rfl rfl (fun q => q)
              · refine zg_aload_n 0 rfl d_X8_likely_53 ?_
                refine zg_iconst 1 rfl d_X8_likely_54 ?_
                refine zg_iconst 0 rfl d_X8_likely_55 ?_
                refine zg_cVv (b := a0) (As := [.int 1, .int 0]) (rest := []) (0, 0) d_X8_likely_56 zc_8 rfl cw_X8_416 wi_X8_copies ws_X8_copies rfl rfl (Nat.le_of_ble_eq_true rfl) (by decide) (by decide) ⟨by decide, by decide⟩ rfl (t_X8_copies a0 1 0 h7) (fun v11 h10 => ?_)
                refine zg_iload 6 rfl d_X8_likely_59 ?_
                refine zg_istore [(7, .int s6.2), (0, .ref a0), (1, .int a1), (2, .int a2), (3, .int a3), (4, .int v5), (5, .int s6.1), (6, .int s6.2)] d_X8_likely_61 (by decide) rfl ?_
                refine zg_iconst 0 rfl d_X8_likely_63 ?_
                refine zg_istore [(8, .int 0), (7, .int s6.2), (0, .ref a0), (1, .int a1), (2, .int a2), (3, .int a3), (4, .int v5), (5, .int s6.1), (6, .int s6.2)] d_X8_likely_64 (by decide) rfl ?_
                refine zg_bd (E := 97) (el := (fun (e14 : (Int32 × Int32)) => [(0, .ref a0), (1, .int a1), (2, .int a2), (3, .int a3), (4, .int v5), (5, .int s6.1), (6, .int s6.2), (7, .int e14.1), (8, .int e14.2)])) (es := fun _ => []) (zg_sub [2, 3, 4, 5, 6, 7, 8, 1, 0] rfl (zg_lp (el := (fun (s12 : (Int32 × Int32)) => [(0, .ref a0), (1, .int a1), (2, .int a2), (3, .int a3), (4, .int v5), (5, .int s6.1), (6, .int s6.2), (7, .int s12.1), (8, .int s12.2)])) (fun s12 h13 => ?_) (s6.2, 0) h10)) (fun e14 h15 => ?_)
                · refine zg_iload 8 rfl d_X8_likely_66 ?_
                  refine zg_iload_n 2 rfl d_X8_likely_68 ?_
                  refine zg_icmp_ge d_X8_likely_69 ?_ ?_
                  · exact zg_finK (E := 0) [0, 1, 2, 3, 4, 5, 6, 7, 8] rfl rfl (fun q => q)
                  · refine zg_aload_n 0 rfl d_X8_likely_72 ?_
                    refine zg_iload 7 rfl d_X8_likely_73 ?_
                    refine zg_iconst 5 rfl d_X8_likely_75 ?_
                    refine zg_irem (by decide) d_X8_likely_76 ?_
                    refine zg_putV d_X8_likely_77 zc_8 (by decide) fl_X8_111 rfl rfl rfl (fun h16 => ?_)
                    refine zg_iload 7 rfl d_X8_likely_80 ?_
                    refine zg_iconst 5 rfl d_X8_likely_82 ?_
                    refine zg_idiv (by decide) d_X8_likely_83 ?_
                    refine zg_istore [(7, .int (s12.1 / 5)), (0, .ref a0), (1, .int a1), (2, .int a2), (3, .int a3), (4, .int v5), (5, .int s6.1), (6, .int s6.2), (8, .int s12.2)] d_X8_likely_84 (by decide) rfl ?_
                    refine zg_aload_n 1 rfl d_X8_likely_86 ?_
                    refine zg_iconst 1 rfl d_X8_likely_87 ?_
                    refine zg_cVv (b := a0) (As := [.int 1]) (rest := []) (0, 0) d_X8_likely_88 zc_8 rfl cw_X8_419 wi_X8_passes ws_X8_passes rfl rfl (Nat.le_of_ble_eq_true rfl) (by decide) (by decide) ⟨by decide, by decide⟩ rfl (t_X8_passes a0 1 h16) (fun v18 h17 => ?_)
                    refine zg_iinc 8 (s12.2 + 1) [(8, .int (s12.2 + 1)), (7, .int (s12.1 / 5)), (0, .ref a0), (1, .int a1), (2, .int a2), (3, .int a3), (4, .int v5), (5, .int s6.1), (6, .int s6.2)] d_X8_likely_91 rfl rfl (by decide) rfl ?_
                    refine zg_goto d_X8_likely_94 ?_
                    exact zg_finK (E := 0) [2, 3, 4, 5, 6, 7, 8, 1, 0] rfl rfl (fun q => q)
                · refine zg_aload_n 0 rfl d_X8_likely_97 ?_
                  refine zg_iconst (-1) rfl d_X8_likely_98 ?_
                  refine zg_putV d_X8_likely_99 zc_8 (by decide) fl_X8_111 rfl rfl rfl (fun h19 => ?_)
                  refine zg_iload 5 rfl d_X8_likely_102 ?_
                  refine zg_aload_n 0 rfl d_X8_likely_104 ?_
                  refine zg_getR d_X8_likely_105 zc_8 (by decide) fl_X8_102 (fun v20 => ?_)
                  refine zg_iconst 5 rfl d_X8_likely_108 ?_
                  refine zg_iload_n 1 rfl d_X8_likely_109 ?_
                  refine zg_iadd d_X8_likely_110 ?_
                  refine zg_ald0 d_X8_likely_111 (fun v21 => ?_)
                  refine zg_aload_n 0 rfl d_X8_likely_112 ?_
                  refine zg_getR d_X8_likely_113 zc_8 (by decide) fl_X8_102 (fun v22 => ?_)
                  refine zg_iload_n 1 rfl d_X8_likely_116 ?_
                  refine zg_ald0 d_X8_likely_117 (fun v23 => ?_)
                  refine zg_icmp_le d_X8_likely_118 ?_ ?_
                  · refine zg_iconst 0 rfl d_X8_likely_125 ?_
                    refine zg_iadd d_X8_likely_126 ?_
                    refine zg_istore [(5, .int (s6.1 + 0)), (0, .ref a0), (1, .int a1), (2, .int a2), (3, .int a3), (4, .int v5), (6, .int s6.2), (7, .int e14.1), (8, .int e14.2)] d_X8_likely_127 (by decide) rfl ?_
                    refine zg_iinc 6 (s6.2 + 1) [(6, .int (s6.2 + 1)), (5, .int (s6.1 + 0)), (0, .ref a0), (1, .int a1), (2, .int a2), (3, .int a3), (4, .int v5), (7, .int e14.1), (8, .int e14.2)] d_X8_likely_129 rfl rfl (by decide) rfl ?_
                    refine zg_goto d_X8_likely_132 ?_
                    exact zg_finK (E := 0) [2, 3, 4, 5, 6, 1, 0] rfl rfl (fun q => q)
                  · refine zg_iconst 1 rfl d_X8_likely_121 ?_
                    refine zg_goto d_X8_likely_122 ?_
                    refine zg_iadd d_X8_likely_126 ?_
                    refine zg_istore [(5, .int (s6.1 + 1)), (0, .ref a0), (1, .int a1), (2, .int a2), (3, .int a3), (4, .int v5), (6, .int s6.2), (7, .int e14.1), (8, .int e14.2)] d_X8_likely_127 (by decide) rfl ?_
                    refine zg_iinc 6 (s6.2 + 1) [(6, .int (s6.2 + 1)), (5, .int (s6.1 + 1)), (0, .ref a0), (1, .int a1), (2, .int a2), (3, .int a3), (4, .int v5), (7, .int e14.1), (8, .int e14.2)] d_X8_likely_129 rfl rfl (by decide) rfl ?_
                    refine zg_goto d_X8_likely_132 ?_
                    exact zg_finK (E := 0) [2, 3, 4, 5, 6, 1, 0] rfl rfl (fun q => q)
            · refine zg_iload 5 rfl d_X8_likely_135 ?_
              refine zg_iload 4 rfl d_X8_likely_137 ?_
              refine zg_cSi (As := [.int e8.1, .int v5]) (rest := []) (0, 0) d_X8_likely_139 cw_X8_480 wt_X8_common rfl rfl (Nat.le_of_ble_eq_true rfl) (by decide) (by decide) ⟨by decide, by decide⟩ rfl (t_X8_common e8.1 v5 h9) (fun v25 h24 => ?_)
              refine zg_istore [(6, .int v25), (0, .ref a0), (1, .int a1), (2, .int a2), (3, .int a3), (4, .int v5), (5, .int e8.1)] d_X8_likely_142 (by decide) rfl ?_
              refine zg_iload_n 4 rfl d_X8_likely_144 ?_
              refine zg_if_ne d_X8_likely_145 ?_ ?_
              · refine zg_iload 6 rfl d_X8_likely_148 ?_
                refine zg_iload 0 rfl d_X8_likely_150 ?_
                refine zg_idivP d_X8_likely_152 (fun v26 => ?_)
                refine zg_goto d_X8_likely_153 ?_
                exact zg_iretK d_X8_likely_161 rfl ⟨Nat.le_of_ble_eq_true rfl, Nat.le_of_ble_eq_true rfl⟩ (fun q => q)
              · refine zg_iload 5 rfl d_X8_likely_156 ?_
                refine zg_iload 0 rfl d_X8_likely_158 ?_
                refine zg_idivP d_X8_likely_160 (fun v27 => ?_)
                exact zg_iretK d_X8_likely_161 rfl ⟨Nat.le_of_ble_eq_true rfl, Nat.le_of_ble_eq_true rfl⟩ (fun q => q)
          · refine zg_iconst (-1) rfl d_X8_likely_32 ?_
            exact zg_iretK d_X8_likely_33 rfl ⟨Nat.le_of_ble_eq_true rfl, Nat.le_of_ble_eq_true rfl⟩ (fun q => q)
abbrev M_X8_plan : zMt := (RX8, cX8_plan, 4, 8, 227, (some .int), "plan", 0, 0)
theorem d_X8_plan_0 : zDc M_X8_plan 0 (.aload_n 0) 1 1 := ⟨by decide +kernel, rfl⟩
theorem d_X8_plan_1 : zDc M_X8_plan 1 (.iconst 0) 1 2 := ⟨by decide +kernel, rfl⟩
theorem d_X8_plan_2 : zDc M_X8_plan 2 (.putfield 151) 3 5 := ⟨by decide +kernel, rfl⟩
theorem d_X8_plan_5 : zDc M_X8_plan 5 (.aload_n 0) 1 6 := ⟨by decide +kernel, rfl⟩
theorem d_X8_plan_6 : zDc M_X8_plan 6 (.iload_n 1) 1 7 := ⟨by decide +kernel, rfl⟩
theorem d_X8_plan_7 : zDc M_X8_plan 7 (.iload_n 2) 1 8 := ⟨by decide +kernel, rfl⟩
theorem d_X8_plan_8 : zDc M_X8_plan 8 (.iload_n 3) 1 9 := ⟨by decide +kernel, rfl⟩
theorem d_X8_plan_9 : zDc M_X8_plan 9 (.invokevirtual 489) 3 12 := ⟨by decide +kernel, rfl⟩
theorem d_X8_plan_12 : zDj M_X8_plan 12 (.ifCond .ne 5) 5 15 17 := ⟨by decide +kernel, rfl, by decide⟩
theorem d_X8_plan_15 : zDc M_X8_plan 15 (.iconst (-1)) 1 16 := ⟨by decide +kernel, rfl⟩
theorem d_X8_plan_16 : zDc M_X8_plan 16 (.ireturn) 1 17 := ⟨by decide +kernel, rfl⟩
theorem d_X8_plan_17 : zDc M_X8_plan 17 (.aload_n 0) 1 18 := ⟨by decide +kernel, rfl⟩
theorem d_X8_plan_18 : zDc M_X8_plan 18 (.iload_n 1) 1 19 := ⟨by decide +kernel, rfl⟩
theorem d_X8_plan_19 : zDc M_X8_plan 19 (.iload_n 2) 1 20 := ⟨by decide +kernel, rfl⟩
theorem d_X8_plan_20 : zDc M_X8_plan 20 (.iload_n 3) 1 21 := ⟨by decide +kernel, rfl⟩
theorem d_X8_plan_21 : zDc M_X8_plan 21 (.invokevirtual 492) 3 24 := ⟨by decide +kernel, rfl⟩
theorem d_X8_plan_24 : zDc M_X8_plan 24 (.aload_n 0) 1 25 := ⟨by decide +kernel, rfl⟩
theorem d_X8_plan_25 : zDc M_X8_plan 25 (.getfield 483) 3 28 := ⟨by decide +kernel, rfl⟩
theorem d_X8_plan_28 : zDc M_X8_plan 28 (.ireturn) 1 29 := ⟨by decide +kernel, rfl⟩
def f_X8_plan (a0 : Nat) (a1 : Int32) (a2 : Int32) (a3 : Int32) (h0 : zHp) : Option (Int32 × zHp) :=
  zob (zpV h0 a0 8 0 (.int 0)) (fun h1 =>
  zbd (zcv 8 a0 h1 (f_X8_isPlan a0 a1 a2 a3 h1)) (fun v3 h2 =>
  if v3 = 0 then
  some ((-1), h2)
  else
  zbd (zcv 8 a0 h2 (f_X8_layPlan a0 a1 a2 a3 h2)) (fun v5 h4 =>
  zob (zgI h4 a0 8 57) (fun v6 =>
  some (v6, h4)))))
set_option maxRecDepth 100000 in
set_option maxHeartbeats 4000000 in
theorem t_X8_plan (a0 : Nat) (a1 : Int32) (a2 : Int32) (a3 : Int32) (h0 : zHp) : ∀ (r : Int32) (h' : zHp), f_X8_plan a0 a1 a2 a3 h0 = some (r, h') → zCt yX8_plan (.code yX8_plan cX8_plan 4 (some .int)) 8 227 0 0 [.ref a0, .int a1, .int a2, .int a3] h0 (some (.int r)) h' := by
  refine zct_of M_X8_plan yX8_plan (by decide) rfl rfl [.ref a0, .int a1, .int a2, .int a3] h0 (Nat.le_of_ble_eq_true rfl) (fun r => some (.int r)) (fun X => ?_)
  show zG X M_X8_plan (0, 0) 0 [(0, .ref a0), (1, .int a1), (2, .int a2), (3, .int a3)] [] h0 (f_X8_plan a0 a1 a2 a3 h0) (fun (r : Int32) h' => zKe X (some (.int r)) h')
  unfold f_X8_plan
  refine zg_aload_n 0 rfl d_X8_plan_0 ?_
  refine zg_iconst 0 rfl d_X8_plan_1 ?_
  refine zg_putV d_X8_plan_2 zc_8 (by decide) fl_X8_151 rfl rfl rfl (fun h1 => ?_)
  refine zg_aload_n 0 rfl d_X8_plan_5 ?_
  refine zg_iload_n 1 rfl d_X8_plan_6 ?_
  refine zg_iload_n 2 rfl d_X8_plan_7 ?_
  refine zg_iload_n 3 rfl d_X8_plan_8 ?_
  refine zg_cVi (b := a0) (As := [.int a1, .int a2, .int a3]) (rest := []) (0, 0) d_X8_plan_9 zc_8 rfl cw_X8_489 wi_X8_isPlan ws_X8_isPlan rfl rfl (Nat.le_of_ble_eq_true rfl) (by decide) (by decide) ⟨by decide, by decide⟩ rfl (t_X8_isPlan a0 a1 a2 a3 h1) (fun v3 h2 => ?_)
  refine zg_if_ne d_X8_plan_12 ?_ ?_
  · refine zg_iconst (-1) rfl d_X8_plan_15 ?_
    exact zg_iretK d_X8_plan_16 rfl ⟨Nat.le_of_ble_eq_true rfl, Nat.le_of_ble_eq_true rfl⟩ (fun q => q)
  · refine zg_aload_n 0 rfl d_X8_plan_17 ?_
    refine zg_iload_n 1 rfl d_X8_plan_18 ?_
    refine zg_iload_n 2 rfl d_X8_plan_19 ?_
    refine zg_iload_n 3 rfl d_X8_plan_20 ?_
    refine zg_cVv (b := a0) (As := [.int a1, .int a2, .int a3]) (rest := []) (0, 0) d_X8_plan_21 zc_8 rfl cw_X8_492 wi_X8_layPlan ws_X8_layPlan rfl rfl (Nat.le_of_ble_eq_true rfl) (by decide) (by decide) ⟨by decide, by decide⟩ rfl (t_X8_layPlan a0 a1 a2 a3 h2) (fun v5 h4 => ?_)
    refine zg_aload_n 0 rfl d_X8_plan_24 ?_
    refine zg_getI d_X8_plan_25 zc_8 (by decide) fl_X8_483 (fun v6 => ?_)
    exact zg_iretK d_X8_plan_28 rfl ⟨Nat.le_of_ble_eq_true rfl, Nat.le_of_ble_eq_true rfl⟩ (fun q => q)
abbrev M_X8_rest : zMt := (RX8, cX8_rest, 4, 8, 224, (some .int), "rest", 0, 0)
theorem d_X8_rest_0 : zDc M_X8_rest 0 (.aload_n 0) 1 1 := ⟨by decide +kernel, rfl⟩
theorem d_X8_rest_1 : zDc M_X8_rest 1 (.iconst 0) 1 2 := ⟨by decide +kernel, rfl⟩
theorem d_X8_rest_2 : zDc M_X8_rest 2 (.putfield 151) 3 5 := ⟨by decide +kernel, rfl⟩
theorem d_X8_rest_5 : zDc M_X8_rest 5 (.aload_n 0) 1 6 := ⟨by decide +kernel, rfl⟩
theorem d_X8_rest_6 : zDc M_X8_rest 6 (.iload_n 1) 1 7 := ⟨by decide +kernel, rfl⟩
theorem d_X8_rest_7 : zDc M_X8_rest 7 (.iload_n 2) 1 8 := ⟨by decide +kernel, rfl⟩
theorem d_X8_rest_8 : zDc M_X8_rest 8 (.invokevirtual 498) 3 11 := ⟨by decide +kernel, rfl⟩
theorem d_X8_rest_11 : zDj M_X8_rest 11 (.ifCond .eq 7) 7 14 18 := ⟨by decide +kernel, rfl, by decide⟩
theorem d_X8_rest_14 : zDc M_X8_rest 14 (.iload_n 3) 1 15 := ⟨by decide +kernel, rfl⟩
theorem d_X8_rest_15 : zDj M_X8_rest 15 (.ifCond .ge 5) 5 18 20 := ⟨by decide +kernel, rfl, by decide⟩
theorem d_X8_rest_18 : zDc M_X8_rest 18 (.iconst (-1)) 1 19 := ⟨by decide +kernel, rfl⟩
theorem d_X8_rest_19 : zDc M_X8_rest 19 (.ireturn) 1 20 := ⟨by decide +kernel, rfl⟩
theorem d_X8_rest_20 : zDc M_X8_rest 20 (.aload_n 0) 1 21 := ⟨by decide +kernel, rfl⟩
theorem d_X8_rest_21 : zDc M_X8_rest 21 (.iload_n 1) 1 22 := ⟨by decide +kernel, rfl⟩
theorem d_X8_rest_22 : zDc M_X8_rest 22 (.iload_n 2) 1 23 := ⟨by decide +kernel, rfl⟩
theorem d_X8_rest_23 : zDc M_X8_rest 23 (.invokevirtual 501) 3 26 := ⟨by decide +kernel, rfl⟩
theorem d_X8_rest_26 : zDc M_X8_rest 26 (.aload_n 0) 1 27 := ⟨by decide +kernel, rfl⟩
theorem d_X8_rest_27 : zDc M_X8_rest 27 (.iload_n 3) 1 28 := ⟨by decide +kernel, rfl⟩
theorem d_X8_rest_28 : zDc M_X8_rest 28 (.invokevirtual 504) 3 31 := ⟨by decide +kernel, rfl⟩
theorem d_X8_rest_31 : zDc M_X8_rest 31 (.ireturn) 1 32 := ⟨by decide +kernel, rfl⟩
def f_X8_rest (a0 : Nat) (a1 : Int32) (a2 : Int32) (a3 : Int32) (h0 : zHp) : Option (Int32 × zHp) :=
  zob (zpV h0 a0 8 0 (.int 0)) (fun h1 =>
  zbd (zcv 8 a0 h1 (f_X8_areTwo a0 a1 a2 h1)) (fun v3 h2 =>
  if v3 = 0 then
  some ((-1), h2)
  else
  if 0 ≤ a3 then
  zbd (zcv 8 a0 h2 (f_X8_layBoth a0 a1 a2 h2)) (fun v5 h4 =>
  zbd (zcv 8 a0 h4 (f_X8_restOf a0 a3 h4)) (fun v7 h6 =>
  some (v7, h6)))
  else
  some ((-1), h2)))
set_option maxRecDepth 100000 in
set_option maxHeartbeats 4000000 in
theorem t_X8_rest (a0 : Nat) (a1 : Int32) (a2 : Int32) (a3 : Int32) (h0 : zHp) : ∀ (r : Int32) (h' : zHp), f_X8_rest a0 a1 a2 a3 h0 = some (r, h') → zCt yX8_rest (.code yX8_rest cX8_rest 4 (some .int)) 8 224 0 0 [.ref a0, .int a1, .int a2, .int a3] h0 (some (.int r)) h' := by
  refine zct_of M_X8_rest yX8_rest (by decide) rfl rfl [.ref a0, .int a1, .int a2, .int a3] h0 (Nat.le_of_ble_eq_true rfl) (fun r => some (.int r)) (fun X => ?_)
  show zG X M_X8_rest (0, 0) 0 [(0, .ref a0), (1, .int a1), (2, .int a2), (3, .int a3)] [] h0 (f_X8_rest a0 a1 a2 a3 h0) (fun (r : Int32) h' => zKe X (some (.int r)) h')
  unfold f_X8_rest
  refine zg_aload_n 0 rfl d_X8_rest_0 ?_
  refine zg_iconst 0 rfl d_X8_rest_1 ?_
  refine zg_putV d_X8_rest_2 zc_8 (by decide) fl_X8_151 rfl rfl rfl (fun h1 => ?_)
  refine zg_aload_n 0 rfl d_X8_rest_5 ?_
  refine zg_iload_n 1 rfl d_X8_rest_6 ?_
  refine zg_iload_n 2 rfl d_X8_rest_7 ?_
  refine zg_cVi (b := a0) (As := [.int a1, .int a2]) (rest := []) (0, 0) d_X8_rest_8 zc_8 rfl cw_X8_498 wi_X8_areTwo ws_X8_areTwo rfl rfl (Nat.le_of_ble_eq_true rfl) (by decide) (by decide) ⟨by decide, by decide⟩ rfl (t_X8_areTwo a0 a1 a2 h1) (fun v3 h2 => ?_)
  refine zg_if_eq d_X8_rest_11 ?_ ?_
  · refine zg_iconst (-1) rfl d_X8_rest_18 ?_
    exact zg_iretK d_X8_rest_19 rfl ⟨Nat.le_of_ble_eq_true rfl, Nat.le_of_ble_eq_true rfl⟩ (fun q => q)
  · refine zg_iload_n 3 rfl d_X8_rest_14 ?_
    refine zg_if_ge d_X8_rest_15 ?_ ?_
    · refine zg_aload_n 0 rfl d_X8_rest_20 ?_
      refine zg_iload_n 1 rfl d_X8_rest_21 ?_
      refine zg_iload_n 2 rfl d_X8_rest_22 ?_
      refine zg_cVv (b := a0) (As := [.int a1, .int a2]) (rest := []) (0, 0) d_X8_rest_23 zc_8 rfl cw_X8_501 wi_X8_layBoth ws_X8_layBoth rfl rfl (Nat.le_of_ble_eq_true rfl) (by decide) (by decide) ⟨by decide, by decide⟩ rfl (t_X8_layBoth a0 a1 a2 h2) (fun v5 h4 => ?_)
      refine zg_aload_n 0 rfl d_X8_rest_26 ?_
      refine zg_iload_n 3 rfl d_X8_rest_27 ?_
      refine zg_cVi (b := a0) (As := [.int a3]) (rest := []) (0, 0) d_X8_rest_28 zc_8 rfl cw_X8_504 wi_X8_restOf ws_X8_restOf rfl rfl (Nat.le_of_ble_eq_true rfl) (by decide) (by decide) ⟨by decide, by decide⟩ rfl (t_X8_restOf a0 a3 h4) (fun v7 h6 => ?_)
      exact zg_iretK d_X8_rest_31 rfl ⟨Nat.le_of_ble_eq_true rfl, Nat.le_of_ble_eq_true rfl⟩ (fun q => q)
    · refine zg_iconst (-1) rfl d_X8_rest_18 ?_
      exact zg_iretK d_X8_rest_19 rfl ⟨Nat.le_of_ble_eq_true rfl, Nat.le_of_ble_eq_true rfl⟩ (fun q => q)
abbrev M_X8_rests : zMt := (RX8, cX8_rests, 3, 8, 224, (some .int), "rests", 0, 0)
theorem d_X8_rests_0 : zDc M_X8_rests 0 (.aload_n 0) 1 1 := ⟨by decide +kernel, rfl⟩
theorem d_X8_rests_1 : zDc M_X8_rests 1 (.iconst 0) 1 2 := ⟨by decide +kernel, rfl⟩
theorem d_X8_rests_2 : zDc M_X8_rests 2 (.putfield 151) 3 5 := ⟨by decide +kernel, rfl⟩
theorem d_X8_rests_5 : zDc M_X8_rests 5 (.aload_n 0) 1 6 := ⟨by decide +kernel, rfl⟩
theorem d_X8_rests_6 : zDc M_X8_rests 6 (.iload_n 1) 1 7 := ⟨by decide +kernel, rfl⟩
theorem d_X8_rests_7 : zDc M_X8_rests 7 (.iload_n 2) 1 8 := ⟨by decide +kernel, rfl⟩
theorem d_X8_rests_8 : zDc M_X8_rests 8 (.invokevirtual 498) 3 11 := ⟨by decide +kernel, rfl⟩
theorem d_X8_rests_11 : zDj M_X8_rests 11 (.ifCond .ne 5) 5 14 16 := ⟨by decide +kernel, rfl, by decide⟩
theorem d_X8_rests_14 : zDc M_X8_rests 14 (.iconst (-1)) 1 15 := ⟨by decide +kernel, rfl⟩
theorem d_X8_rests_15 : zDc M_X8_rests 15 (.ireturn) 1 16 := ⟨by decide +kernel, rfl⟩
theorem d_X8_rests_16 : zDc M_X8_rests 16 (.aload_n 0) 1 17 := ⟨by decide +kernel, rfl⟩
theorem d_X8_rests_17 : zDc M_X8_rests 17 (.iload_n 1) 1 18 := ⟨by decide +kernel, rfl⟩
theorem d_X8_rests_18 : zDc M_X8_rests 18 (.iload_n 2) 1 19 := ⟨by decide +kernel, rfl⟩
theorem d_X8_rests_19 : zDc M_X8_rests 19 (.invokevirtual 501) 3 22 := ⟨by decide +kernel, rfl⟩
theorem d_X8_rests_22 : zDc M_X8_rests 22 (.aload_n 0) 1 23 := ⟨by decide +kernel, rfl⟩
theorem d_X8_rests_23 : zDc M_X8_rests 23 (.iconst (-1)) 1 24 := ⟨by decide +kernel, rfl⟩
theorem d_X8_rests_24 : zDc M_X8_rests 24 (.invokevirtual 504) 3 27 := ⟨by decide +kernel, rfl⟩
theorem d_X8_rests_27 : zDc M_X8_rests 27 (.ireturn) 1 28 := ⟨by decide +kernel, rfl⟩
def f_X8_rests (a0 : Nat) (a1 : Int32) (a2 : Int32) (h0 : zHp) : Option (Int32 × zHp) :=
  zob (zpV h0 a0 8 0 (.int 0)) (fun h1 =>
  zbd (zcv 8 a0 h1 (f_X8_areTwo a0 a1 a2 h1)) (fun v3 h2 =>
  if v3 = 0 then
  some ((-1), h2)
  else
  zbd (zcv 8 a0 h2 (f_X8_layBoth a0 a1 a2 h2)) (fun v5 h4 =>
  zbd (zcv 8 a0 h4 (f_X8_restOf a0 (-1) h4)) (fun v7 h6 =>
  some (v7, h6)))))
set_option maxRecDepth 100000 in
set_option maxHeartbeats 4000000 in
theorem t_X8_rests (a0 : Nat) (a1 : Int32) (a2 : Int32) (h0 : zHp) : ∀ (r : Int32) (h' : zHp), f_X8_rests a0 a1 a2 h0 = some (r, h') → zCt yX8_rests (.code yX8_rests cX8_rests 3 (some .int)) 8 224 0 0 [.ref a0, .int a1, .int a2] h0 (some (.int r)) h' := by
  refine zct_of M_X8_rests yX8_rests (by decide) rfl rfl [.ref a0, .int a1, .int a2] h0 (Nat.le_of_ble_eq_true rfl) (fun r => some (.int r)) (fun X => ?_)
  show zG X M_X8_rests (0, 0) 0 [(0, .ref a0), (1, .int a1), (2, .int a2)] [] h0 (f_X8_rests a0 a1 a2 h0) (fun (r : Int32) h' => zKe X (some (.int r)) h')
  unfold f_X8_rests
  refine zg_aload_n 0 rfl d_X8_rests_0 ?_
  refine zg_iconst 0 rfl d_X8_rests_1 ?_
  refine zg_putV d_X8_rests_2 zc_8 (by decide) fl_X8_151 rfl rfl rfl (fun h1 => ?_)
  refine zg_aload_n 0 rfl d_X8_rests_5 ?_
  refine zg_iload_n 1 rfl d_X8_rests_6 ?_
  refine zg_iload_n 2 rfl d_X8_rests_7 ?_
  refine zg_cVi (b := a0) (As := [.int a1, .int a2]) (rest := []) (0, 0) d_X8_rests_8 zc_8 rfl cw_X8_498 wi_X8_areTwo ws_X8_areTwo rfl rfl (Nat.le_of_ble_eq_true rfl) (by decide) (by decide) ⟨by decide, by decide⟩ rfl (t_X8_areTwo a0 a1 a2 h1) (fun v3 h2 => ?_)
  refine zg_if_ne d_X8_rests_11 ?_ ?_
  · refine zg_iconst (-1) rfl d_X8_rests_14 ?_
    exact zg_iretK d_X8_rests_15 rfl ⟨Nat.le_of_ble_eq_true rfl, Nat.le_of_ble_eq_true rfl⟩ (fun q => q)
  · refine zg_aload_n 0 rfl d_X8_rests_16 ?_
    refine zg_iload_n 1 rfl d_X8_rests_17 ?_
    refine zg_iload_n 2 rfl d_X8_rests_18 ?_
    refine zg_cVv (b := a0) (As := [.int a1, .int a2]) (rest := []) (0, 0) d_X8_rests_19 zc_8 rfl cw_X8_501 wi_X8_layBoth ws_X8_layBoth rfl rfl (Nat.le_of_ble_eq_true rfl) (by decide) (by decide) ⟨by decide, by decide⟩ rfl (t_X8_layBoth a0 a1 a2 h2) (fun v5 h4 => ?_)
    refine zg_aload_n 0 rfl d_X8_rests_22 ?_
    refine zg_iconst (-1) rfl d_X8_rests_23 ?_
    refine zg_cVi (b := a0) (As := [.int (-1)]) (rest := []) (0, 0) d_X8_rests_24 zc_8 rfl cw_X8_504 wi_X8_restOf ws_X8_restOf rfl rfl (Nat.le_of_ble_eq_true rfl) (by decide) (by decide) ⟨by decide, by decide⟩ rfl (t_X8_restOf a0 (-1) h4) (fun v7 h6 => ?_)
    exact zg_iretK d_X8_rests_27 rfl ⟨Nat.le_of_ble_eq_true rfl, Nat.le_of_ble_eq_true rfl⟩ (fun q => q)
abbrev M_X8_sizes : zMt := (RX8, cX8_sizes, 5, 8, 223, (some .int), "sizes", 0, 0)
theorem d_X8_sizes_0 : zDc M_X8_sizes 0 (.aload_n 0) 1 1 := ⟨by decide +kernel, rfl⟩
theorem d_X8_sizes_1 : zDc M_X8_sizes 1 (.iconst 0) 1 2 := ⟨by decide +kernel, rfl⟩
theorem d_X8_sizes_2 : zDc M_X8_sizes 2 (.putfield 151) 3 5 := ⟨by decide +kernel, rfl⟩
theorem d_X8_sizes_5 : zDc M_X8_sizes 5 (.aload_n 0) 1 6 := ⟨by decide +kernel, rfl⟩
theorem d_X8_sizes_6 : zDc M_X8_sizes 6 (.iload_n 1) 1 7 := ⟨by decide +kernel, rfl⟩
theorem d_X8_sizes_7 : zDc M_X8_sizes 7 (.invokevirtual 422) 3 10 := ⟨by decide +kernel, rfl⟩
theorem d_X8_sizes_10 : zDj M_X8_sizes 10 (.ifCond .ne 5) 5 13 15 := ⟨by decide +kernel, rfl, by decide⟩
theorem d_X8_sizes_13 : zDc M_X8_sizes 13 (.iconst (-1)) 1 14 := ⟨by decide +kernel, rfl⟩
theorem d_X8_sizes_14 : zDc M_X8_sizes 14 (.ireturn) 1 15 := ⟨by decide +kernel, rfl⟩
theorem d_X8_sizes_15 : zDc M_X8_sizes 15 (.iconst 0) 1 16 := ⟨by decide +kernel, rfl⟩
theorem d_X8_sizes_16 : zDc M_X8_sizes 16 (.istore_n 2) 1 17 := ⟨by decide +kernel, rfl⟩
theorem d_X8_sizes_17 : zDc M_X8_sizes 17 (.iconst 0) 1 18 := ⟨by decide +kernel, rfl⟩
theorem d_X8_sizes_18 : zDc M_X8_sizes 18 (.istore_n 3) 1 19 := ⟨by decide +kernel, rfl⟩
theorem d_X8_sizes_19 : zDc M_X8_sizes 19 (.iload_n 3) 1 20 := ⟨by decide +kernel, rfl⟩
theorem d_X8_sizes_20 : zDc M_X8_sizes 20 (.aload_n 0) 1 21 := ⟨by decide +kernel, rfl⟩
theorem d_X8_sizes_21 : zDc M_X8_sizes 21 (.invokevirtual 507) 3 24 := ⟨by decide +kernel, rfl⟩
theorem d_X8_sizes_24 : zDj M_X8_sizes 24 (.if_icmp .ge 16) 16 27 40 := ⟨by decide +kernel, rfl, by decide⟩
theorem d_X8_sizes_27 : zDc M_X8_sizes 27 (.aload_n 0) 1 28 := ⟨by decide +kernel, rfl⟩
theorem d_X8_sizes_28 : zDc M_X8_sizes 28 (.getfield 145) 3 31 := ⟨by decide +kernel, rfl⟩
theorem d_X8_sizes_31 : zDc M_X8_sizes 31 (.iload_n 3) 1 32 := ⟨by decide +kernel, rfl⟩
theorem d_X8_sizes_32 : zDc M_X8_sizes 32 (.iconst 0) 1 33 := ⟨by decide +kernel, rfl⟩
theorem d_X8_sizes_33 : zDc M_X8_sizes 33 (.bastore) 1 34 := ⟨by decide +kernel, rfl⟩
theorem d_X8_sizes_34 : zDc M_X8_sizes 34 (.iinc 3 1) 3 37 := ⟨by decide +kernel, rfl⟩
theorem d_X8_sizes_37 : zDj M_X8_sizes 37 (.goto (-18)) (-18) 40 19 := ⟨by decide +kernel, rfl, by decide⟩
theorem d_X8_sizes_40 : zDc M_X8_sizes 40 (.aload_n 0) 1 41 := ⟨by decide +kernel, rfl⟩
theorem d_X8_sizes_41 : zDc M_X8_sizes 41 (.invokevirtual 507) 3 44 := ⟨by decide +kernel, rfl⟩
theorem d_X8_sizes_44 : zDc M_X8_sizes 44 (.iconst 1) 1 45 := ⟨by decide +kernel, rfl⟩
theorem d_X8_sizes_45 : zDc M_X8_sizes 45 (.isub) 1 46 := ⟨by decide +kernel, rfl⟩
theorem d_X8_sizes_46 : zDc M_X8_sizes 46 (.istore_n 3) 1 47 := ⟨by decide +kernel, rfl⟩
theorem d_X8_sizes_47 : zDc M_X8_sizes 47 (.iload_n 3) 1 48 := ⟨by decide +kernel, rfl⟩
theorem d_X8_sizes_48 : zDj M_X8_sizes 48 (.ifCond .lt 40) 40 51 88 := ⟨by decide +kernel, rfl, by decide⟩
theorem d_X8_sizes_51 : zDc M_X8_sizes 51 (.aload_n 0) 1 52 := ⟨by decide +kernel, rfl⟩
theorem d_X8_sizes_52 : zDc M_X8_sizes 52 (.getfield 145) 3 55 := ⟨by decide +kernel, rfl⟩
theorem d_X8_sizes_55 : zDc M_X8_sizes 55 (.iload_n 3) 1 56 := ⟨by decide +kernel, rfl⟩
theorem d_X8_sizes_56 : zDc M_X8_sizes 56 (.baload) 1 57 := ⟨by decide +kernel, rfl⟩
theorem d_X8_sizes_57 : zDj M_X8_sizes 57 (.ifCond .ne 25) 25 60 82 := ⟨by decide +kernel, rfl, by decide⟩
theorem d_X8_sizes_60 : zDc M_X8_sizes 60 (.aload_n 0) 1 61 := ⟨by decide +kernel, rfl⟩
theorem d_X8_sizes_61 : zDc M_X8_sizes 61 (.getfield 142) 3 64 := ⟨by decide +kernel, rfl⟩
theorem d_X8_sizes_64 : zDc M_X8_sizes 64 (.iload_n 3) 1 65 := ⟨by decide +kernel, rfl⟩
theorem d_X8_sizes_65 : zDc M_X8_sizes 65 (.iaload) 1 66 := ⟨by decide +kernel, rfl⟩
theorem d_X8_sizes_66 : zDc M_X8_sizes 66 (.iconst (-1)) 1 67 := ⟨by decide +kernel, rfl⟩
theorem d_X8_sizes_67 : zDj M_X8_sizes 67 (.if_icmp .eq 15) 15 70 82 := ⟨by decide +kernel, rfl, by decide⟩
theorem d_X8_sizes_70 : zDc M_X8_sizes 70 (.aload_n 0) 1 71 := ⟨by decide +kernel, rfl⟩
theorem d_X8_sizes_71 : zDc M_X8_sizes 71 (.getfield 145) 3 74 := ⟨by decide +kernel, rfl⟩
theorem d_X8_sizes_74 : zDc M_X8_sizes 74 (.aload_n 0) 1 75 := ⟨by decide +kernel, rfl⟩
theorem d_X8_sizes_75 : zDc M_X8_sizes 75 (.getfield 142) 3 78 := ⟨by decide +kernel, rfl⟩
theorem d_X8_sizes_78 : zDc M_X8_sizes 78 (.iload_n 3) 1 79 := ⟨by decide +kernel, rfl⟩
theorem d_X8_sizes_79 : zDc M_X8_sizes 79 (.iaload) 1 80 := ⟨by decide +kernel, rfl⟩
theorem d_X8_sizes_80 : zDc M_X8_sizes 80 (.iconst 1) 1 81 := ⟨by decide +kernel, rfl⟩
theorem d_X8_sizes_81 : zDc M_X8_sizes 81 (.bastore) 1 82 := ⟨by decide +kernel, rfl⟩
theorem d_X8_sizes_82 : zDc M_X8_sizes 82 (.iinc 3 (-1)) 3 85 := ⟨by decide +kernel, rfl⟩
theorem d_X8_sizes_85 : zDj M_X8_sizes 85 (.goto (-38)) (-38) 88 47 := ⟨by decide +kernel, rfl, by decide⟩
theorem d_X8_sizes_88 : zDc M_X8_sizes 88 (.iconst 0) 1 89 := ⟨by decide +kernel, rfl⟩
theorem d_X8_sizes_89 : zDc M_X8_sizes 89 (.istore_n 3) 1 90 := ⟨by decide +kernel, rfl⟩
theorem d_X8_sizes_90 : zDc M_X8_sizes 90 (.iload_n 3) 1 91 := ⟨by decide +kernel, rfl⟩
theorem d_X8_sizes_91 : zDc M_X8_sizes 91 (.aload_n 0) 1 92 := ⟨by decide +kernel, rfl⟩
theorem d_X8_sizes_92 : zDc M_X8_sizes 92 (.invokevirtual 507) 3 95 := ⟨by decide +kernel, rfl⟩
theorem d_X8_sizes_95 : zDj M_X8_sizes 95 (.if_icmp .ge 39) 39 98 134 := ⟨by decide +kernel, rfl, by decide⟩
theorem d_X8_sizes_98 : zDc M_X8_sizes 98 (.aload_n 0) 1 99 := ⟨by decide +kernel, rfl⟩
theorem d_X8_sizes_99 : zDc M_X8_sizes 99 (.getfield 145) 3 102 := ⟨by decide +kernel, rfl⟩
theorem d_X8_sizes_102 : zDc M_X8_sizes 102 (.iload_n 3) 1 103 := ⟨by decide +kernel, rfl⟩
theorem d_X8_sizes_103 : zDc M_X8_sizes 103 (.baload) 1 104 := ⟨by decide +kernel, rfl⟩
theorem d_X8_sizes_104 : zDj M_X8_sizes 104 (.ifCond .ne 24) 24 107 128 := ⟨by decide +kernel, rfl, by decide⟩
theorem d_X8_sizes_107 : zDc M_X8_sizes 107 (.aload_n 0) 1 108 := ⟨by decide +kernel, rfl⟩
theorem d_X8_sizes_108 : zDc M_X8_sizes 108 (.getfield 142) 3 111 := ⟨by decide +kernel, rfl⟩
theorem d_X8_sizes_111 : zDc M_X8_sizes 111 (.iload_n 3) 1 112 := ⟨by decide +kernel, rfl⟩
theorem d_X8_sizes_112 : zDc M_X8_sizes 112 (.iaload) 1 113 := ⟨by decide +kernel, rfl⟩
theorem d_X8_sizes_113 : zDc M_X8_sizes 113 (.iconst (-1)) 1 114 := ⟨by decide +kernel, rfl⟩
theorem d_X8_sizes_114 : zDj M_X8_sizes 114 (.if_icmp .ne 14) 14 117 128 := ⟨by decide +kernel, rfl, by decide⟩
theorem d_X8_sizes_117 : zDc M_X8_sizes 117 (.iload_n 2) 1 118 := ⟨by decide +kernel, rfl⟩
theorem d_X8_sizes_118 : zDc M_X8_sizes 118 (.aload_n 0) 1 119 := ⟨by decide +kernel, rfl⟩
theorem d_X8_sizes_119 : zDc M_X8_sizes 119 (.getfield 132) 3 122 := ⟨by decide +kernel, rfl⟩
theorem d_X8_sizes_122 : zDc M_X8_sizes 122 (.iload_n 3) 1 123 := ⟨by decide +kernel, rfl⟩
theorem d_X8_sizes_123 : zDc M_X8_sizes 123 (.iaload) 1 124 := ⟨by decide +kernel, rfl⟩
theorem d_X8_sizes_124 : zDc M_X8_sizes 124 (.invokestatic 348) 3 127 := ⟨by decide +kernel, rfl⟩
theorem d_X8_sizes_127 : zDc M_X8_sizes 127 (.istore_n 2) 1 128 := ⟨by decide +kernel, rfl⟩
theorem d_X8_sizes_128 : zDc M_X8_sizes 128 (.iinc 3 1) 3 131 := ⟨by decide +kernel, rfl⟩
theorem d_X8_sizes_131 : zDj M_X8_sizes 131 (.goto (-41)) (-41) 134 90 := ⟨by decide +kernel, rfl, by decide⟩
theorem d_X8_sizes_134 : zDc M_X8_sizes 134 (.iconst 0) 1 135 := ⟨by decide +kernel, rfl⟩
theorem d_X8_sizes_135 : zDc M_X8_sizes 135 (.istore_n 3) 1 136 := ⟨by decide +kernel, rfl⟩
theorem d_X8_sizes_136 : zDc M_X8_sizes 136 (.aload_n 0) 1 137 := ⟨by decide +kernel, rfl⟩
theorem d_X8_sizes_137 : zDc M_X8_sizes 137 (.iload_n 1) 1 138 := ⟨by decide +kernel, rfl⟩
theorem d_X8_sizes_138 : zDc M_X8_sizes 138 (.putfield 114) 3 141 := ⟨by decide +kernel, rfl⟩
theorem d_X8_sizes_141 : zDc M_X8_sizes 141 (.iconst 1) 1 142 := ⟨by decide +kernel, rfl⟩
theorem d_X8_sizes_142 : zDc M_X8_sizes 142 (.istore 4) 2 144 := ⟨by decide +kernel, rfl⟩
theorem d_X8_sizes_144 : zDc M_X8_sizes 144 (.iload 4) 2 146 := ⟨by decide +kernel, rfl⟩
theorem d_X8_sizes_146 : zDc M_X8_sizes 146 (.bipush 9) 2 148 := ⟨by decide +kernel, rfl⟩
theorem d_X8_sizes_148 : zDj M_X8_sizes 148 (.if_icmp .gt 34) 34 151 182 := ⟨by decide +kernel, rfl, by decide⟩
theorem d_X8_sizes_151 : zDc M_X8_sizes 151 (.aload_n 0) 1 152 := ⟨by decide +kernel, rfl⟩
theorem d_X8_sizes_152 : zDc M_X8_sizes 152 (.iload 4) 2 154 := ⟨by decide +kernel, rfl⟩
theorem d_X8_sizes_154 : zDc M_X8_sizes 154 (.putfield 340) 3 157 := ⟨by decide +kernel, rfl⟩
theorem d_X8_sizes_157 : zDc M_X8_sizes 157 (.iload_n 3) 1 158 := ⟨by decide +kernel, rfl⟩
theorem d_X8_sizes_158 : zDc M_X8_sizes 158 (.aload_n 0) 1 159 := ⟨by decide +kernel, rfl⟩
theorem d_X8_sizes_159 : zDc M_X8_sizes 159 (.iload_n 2) 1 160 := ⟨by decide +kernel, rfl⟩
theorem d_X8_sizes_160 : zDc M_X8_sizes 160 (.invokevirtual 513) 3 163 := ⟨by decide +kernel, rfl⟩
theorem d_X8_sizes_163 : zDj M_X8_sizes 163 (.ifCond .eq 10) 10 166 173 := ⟨by decide +kernel, rfl, by decide⟩
theorem d_X8_sizes_166 : zDc M_X8_sizes 166 (.iconst 1) 1 167 := ⟨by decide +kernel, rfl⟩
theorem d_X8_sizes_167 : zDc M_X8_sizes 167 (.iload 4) 2 169 := ⟨by decide +kernel, rfl⟩
theorem d_X8_sizes_169 : zDc M_X8_sizes 169 (.ishl) 1 170 := ⟨by decide +kernel, rfl⟩
theorem d_X8_sizes_170 : zDj M_X8_sizes 170 (.goto 4) 4 173 174 := ⟨by decide +kernel, rfl, by decide⟩
theorem d_X8_sizes_173 : zDc M_X8_sizes 173 (.iconst 0) 1 174 := ⟨by decide +kernel, rfl⟩
theorem d_X8_sizes_174 : zDc M_X8_sizes 174 (.ior) 1 175 := ⟨by decide +kernel, rfl⟩
theorem d_X8_sizes_175 : zDc M_X8_sizes 175 (.istore_n 3) 1 176 := ⟨by decide +kernel, rfl⟩
theorem d_X8_sizes_176 : zDc M_X8_sizes 176 (.iinc 4 1) 3 179 := ⟨by decide +kernel, rfl⟩
theorem d_X8_sizes_179 : zDj M_X8_sizes 179 (.goto (-35)) (-35) 182 144 := ⟨by decide +kernel, rfl, by decide⟩
theorem d_X8_sizes_182 : zDc M_X8_sizes 182 (.aload_n 0) 1 183 := ⟨by decide +kernel, rfl⟩
theorem d_X8_sizes_183 : zDc M_X8_sizes 183 (.iconst (-1)) 1 184 := ⟨by decide +kernel, rfl⟩
theorem d_X8_sizes_184 : zDc M_X8_sizes 184 (.putfield 114) 3 187 := ⟨by decide +kernel, rfl⟩
theorem d_X8_sizes_187 : zDc M_X8_sizes 187 (.iload_n 3) 1 188 := ⟨by decide +kernel, rfl⟩
theorem d_X8_sizes_188 : zDc M_X8_sizes 188 (.ireturn) 1 189 := ⟨by decide +kernel, rfl⟩
def f_X8_sizes (a0 : Nat) (a1 : Int32) (h0 : zHp) : Option (Int32 × zHp) :=
  zob (zpV h0 a0 8 0 (.int 0)) (fun h1 =>
  zbd (zcv 8 a0 h1 (f_X8_isCloud a0 a1 h1)) (fun v3 h2 =>
  if v3 = 0 then
  some ((-1), h2)
  else
  zbd (
  zlp (σ := Int32) (β := Int32) zLF (fun s4 h5 =>
  zbd (zcv 8 a0 h5 (f_X8_knownMany a0 h5)) (fun v9 h8 =>
  if v9 ≤ s4 then
  some ((.inr s4), h8)
  else
  zob (zgR h8 a0 8 67) (fun v10 =>
  zob (zsI 2 h8 v10 s4 0) (fun h11 =>
  some ((.inl (s4 + 1)), h11))))) 0 h2) (fun e6 h7 =>
  zbd (zcv 8 a0 h7 (f_X8_knownMany a0 h7)) (fun v13 h12 =>
  zbd (
  zlp (σ := Int32) (β := Int32) zLF (fun s14 h15 =>
  if s14 < 0 then
  some ((.inr s14), h15)
  else
  zob (zgR h15 a0 8 67) (fun v18 =>
  zob (zaI 2 h15 v18 s14) (fun v19 =>
  if v19 = 0 then
  zob (zgR h15 a0 8 66) (fun v20 =>
  zob (zaI 0 h15 v20 s14) (fun v21 =>
  if v21 = (-1) then
  some ((.inl (s14 + (-1))), h15)
  else
  zob (zgR h15 a0 8 67) (fun v22 =>
  zob (zgR h15 a0 8 66) (fun v23 =>
  zob (zaI 0 h15 v23 s14) (fun v24 =>
  zob (zsI 2 h15 v22 v24 1) (fun h25 =>
  some ((.inl (s14 + (-1))), h25)))))))
  else
  some ((.inl (s14 + (-1))), h15)))) (v13 - 1) h12) (fun e16 h17 =>
  zbd (
  zlp (σ := (Int32 × Int32)) (β := (Int32 × Int32)) zLF (fun s26 h27 =>
  zbd (zcv 8 a0 h27 (f_X8_knownMany a0 h27)) (fun v31 h30 =>
  if v31 ≤ s26.2 then
  some ((.inr (s26.1, s26.2)), h30)
  else
  zob (zgR h30 a0 8 67) (fun v32 =>
  zob (zaI 2 h30 v32 s26.2) (fun v33 =>
  if v33 = 0 then
  zob (zgR h30 a0 8 66) (fun v34 =>
  zob (zaI 0 h30 v34 s26.2) (fun v35 =>
  if v35 = (-1) then
  zob (zgR h30 a0 8 63) (fun v36 =>
  zob (zaI 0 h30 v36 s26.2) (fun v37 =>
  some ((.inl ((zmx s26.1 v37), (s26.2 + 1))), h30)))
  else
  some ((.inl (s26.1, (s26.2 + 1))), h30)))
  else
  some ((.inl (s26.1, (s26.2 + 1))), h30))))) (0, 0) h17) (fun e28 h29 =>
  zob (zpV h29 a0 8 52 (.int a1)) (fun h38 =>
  zbd (
  zlp (σ := (Int32 × Int32)) (β := (Int32 × Int32)) zLF (fun s39 h40 =>
  if 9 < s39.2 then
  some ((.inr (s39.1, s39.2)), h40)
  else
  zob (zpV h40 a0 8 53 (.int s39.2)) (fun h43 =>
  zbd (zcv 8 a0 h43 (f_X8_fitsSize a0 e28.1 h43)) (fun v45 h44 =>
  if v45 = 0 then
  some ((.inl ((s39.1 ||| 0), (s39.2 + 1))), h44)
  else
  some ((.inl ((s39.1 ||| (1 <<< (s39.2 &&& 31))), (s39.2 + 1))), h44)))) (0, 1) h38) (fun e41 h42 =>
  zob (zpV h42 a0 8 52 (.int (-1))) (fun h46 =>
  some (e41.1, h46))))))))))
set_option maxRecDepth 100000 in
set_option maxHeartbeats 4000000 in
theorem t_X8_sizes (a0 : Nat) (a1 : Int32) (h0 : zHp) : ∀ (r : Int32) (h' : zHp), f_X8_sizes a0 a1 h0 = some (r, h') → zCt yX8_sizes (.code yX8_sizes cX8_sizes 5 (some .int)) 8 223 0 0 [.ref a0, .int a1] h0 (some (.int r)) h' := by
  refine zct_of M_X8_sizes yX8_sizes (by decide) rfl rfl [.ref a0, .int a1] h0 (Nat.le_of_ble_eq_true rfl) (fun r => some (.int r)) (fun X => ?_)
  show zG X M_X8_sizes (0, 0) 0 [(0, .ref a0), (1, .int a1)] [] h0 (f_X8_sizes a0 a1 h0) (fun (r : Int32) h' => zKe X (some (.int r)) h')
  unfold f_X8_sizes
  refine zg_aload_n 0 rfl d_X8_sizes_0 ?_
  refine zg_iconst 0 rfl d_X8_sizes_1 ?_
  refine zg_putV d_X8_sizes_2 zc_8 (by decide) fl_X8_151 rfl rfl rfl (fun h1 => ?_)
  refine zg_aload_n 0 rfl d_X8_sizes_5 ?_
  refine zg_iload_n 1 rfl d_X8_sizes_6 ?_
  refine zg_cVi (b := a0) (As := [.int a1]) (rest := []) (0, 0) d_X8_sizes_7 zc_8 rfl cw_X8_422 wi_X8_isCloud ws_X8_isCloud rfl rfl (Nat.le_of_ble_eq_true rfl) (by decide) (by decide) ⟨by decide, by decide⟩ rfl (t_X8_isCloud a0 a1 h1) (fun v3 h2 => ?_)
  refine zg_if_ne d_X8_sizes_10 ?_ ?_
  · refine zg_iconst (-1) rfl d_X8_sizes_13 ?_
    exact zg_iretK d_X8_sizes_14 rfl ⟨Nat.le_of_ble_eq_true rfl, Nat.le_of_ble_eq_true rfl⟩ (fun q => q)
  · refine zg_iconst 0 rfl d_X8_sizes_15 ?_
    refine zg_istore_n [(2, .int 0), (0, .ref a0), (1, .int a1)] d_X8_sizes_16 rfl (by decide) rfl ?_
    refine zg_iconst 0 rfl d_X8_sizes_17 ?_
    refine zg_istore_n [(3, .int 0), (2, .int 0), (0, .ref a0), (1, .int a1)] d_X8_sizes_18 rfl (by decide) rfl ?_
    refine zg_bd (E := 40) (el := (fun (e6 : Int32) => [(0, .ref a0), (1, .int a1), (2, .int 0), (3, .int e6)])) (es := fun _ => []) (zg_sub [2, 3, 1, 0] rfl (zg_lp (el := (fun (s4 : Int32) => [(0, .ref a0), (1, .int a1), (2, .int 0), (3, .int s4)])) (fun s4 h5 => ?_) 0 h2)) (fun e6 h7 => ?_)
    · refine zg_iload_n 3 rfl d_X8_sizes_19 ?_
      refine zg_aload_n 0 rfl d_X8_sizes_20 ?_
      refine zg_cVi (b := a0) (As := []) (rest := [.int s4]) (0, 0) d_X8_sizes_21 zc_8 rfl cw_X8_507 wi_X8_knownMany ws_X8_knownMany rfl rfl (Nat.le_of_ble_eq_true rfl) (by decide) (by decide) ⟨by decide, by decide⟩ rfl (t_X8_knownMany a0 h5) (fun v9 h8 => ?_)
      refine zg_icmp_ge d_X8_sizes_24 ?_ ?_
      · exact zg_finK (E := 0) [0, 1, 2, 3] rfl rfl (fun q => q)
      · refine zg_aload_n 0 rfl d_X8_sizes_27 ?_
        refine zg_getR d_X8_sizes_28 zc_8 (by decide) fl_X8_145 (fun v10 => ?_)
        refine zg_iload_n 3 rfl d_X8_sizes_31 ?_
        refine zg_iconst 0 rfl d_X8_sizes_32 ?_
        refine zg_ast2 d_X8_sizes_33 (fun h11 => ?_)
        refine zg_iinc 3 (s4 + 1) [(3, .int (s4 + 1)), (0, .ref a0), (1, .int a1), (2, .int 0)] d_X8_sizes_34 rfl rfl (by decide) rfl ?_
        refine zg_goto d_X8_sizes_37 ?_
        exact zg_finK (E := 0) [1, 2, 3, 0] rfl rfl (fun q => q)
    · refine zg_aload_n 0 rfl d_X8_sizes_40 ?_
      refine zg_cVi (b := a0) (As := []) (rest := []) (0, 0) d_X8_sizes_41 zc_8 rfl cw_X8_507 wi_X8_knownMany ws_X8_knownMany rfl rfl (Nat.le_of_ble_eq_true rfl) (by decide) (by decide) ⟨by decide, by decide⟩ rfl (t_X8_knownMany a0 h7) (fun v13 h12 => ?_)
      refine zg_iconst 1 rfl d_X8_sizes_44 ?_
      refine zg_isub d_X8_sizes_45 ?_
      refine zg_istore_n [(3, .int (v13 - 1)), (0, .ref a0), (1, .int a1), (2, .int 0)] d_X8_sizes_46 rfl (by decide) rfl ?_
      refine zg_bd (E := 88) (el := (fun (e16 : Int32) => [(0, .ref a0), (1, .int a1), (2, .int 0), (3, .int e16)])) (es := fun _ => []) (zg_sub [1, 2, 3, 0] rfl (zg_lp (el := (fun (s14 : Int32) => [(0, .ref a0), (1, .int a1), (2, .int 0), (3, .int s14)])) (fun s14 h15 => ?_) (v13 - 1) h12)) (fun e16 h17 => ?_)
      · refine zg_iload_n 3 rfl d_X8_sizes_47 ?_
        refine zg_if_lt d_X8_sizes_48 ?_ ?_
        · exact zg_finK (E := 0) [0, 1, 2, 3] rfl rfl (fun q => q)
        · refine zg_aload_n 0 rfl d_X8_sizes_51 ?_
          refine zg_getR d_X8_sizes_52 zc_8 (by decide) fl_X8_145 (fun v18 => ?_)
          refine zg_iload_n 3 rfl d_X8_sizes_55 ?_
          refine zg_ald2 d_X8_sizes_56 (fun v19 => ?_)
          refine zg_if_ne d_X8_sizes_57 ?_ ?_
          · refine zg_aload_n 0 rfl d_X8_sizes_60 ?_
            refine zg_getR d_X8_sizes_61 zc_8 (by decide) fl_X8_142 (fun v20 => ?_)
            refine zg_iload_n 3 rfl d_X8_sizes_64 ?_
            refine zg_ald0 d_X8_sizes_65 (fun v21 => ?_)
            refine zg_iconst (-1) rfl d_X8_sizes_66 ?_
            refine zg_icmp_eq d_X8_sizes_67 ?_ ?_
            · refine zg_iinc 3 (s14 + (-1)) [(3, .int (s14 + (-1))), (0, .ref a0), (1, .int a1), (2, .int 0)] d_X8_sizes_82 rfl rfl (by decide) rfl ?_
              refine zg_goto d_X8_sizes_85 ?_
              exact zg_finK (E := 0) [1, 2, 3, 0] rfl rfl (fun q => q)
            · refine zg_aload_n 0 rfl d_X8_sizes_70 ?_
              refine zg_getR d_X8_sizes_71 zc_8 (by decide) fl_X8_145 (fun v22 => ?_)
              refine zg_aload_n 0 rfl d_X8_sizes_74 ?_
              refine zg_getR d_X8_sizes_75 zc_8 (by decide) fl_X8_142 (fun v23 => ?_)
              refine zg_iload_n 3 rfl d_X8_sizes_78 ?_
              refine zg_ald0 d_X8_sizes_79 (fun v24 => ?_)
              refine zg_iconst 1 rfl d_X8_sizes_80 ?_
              refine zg_ast2 d_X8_sizes_81 (fun h25 => ?_)
              refine zg_iinc 3 (s14 + (-1)) [(3, .int (s14 + (-1))), (0, .ref a0), (1, .int a1), (2, .int 0)] d_X8_sizes_82 rfl rfl (by decide) rfl ?_
              refine zg_goto d_X8_sizes_85 ?_
              exact zg_finK (E := 0) [1, 2, 3, 0] rfl rfl (fun q => q)
          · refine zg_iinc 3 (s14 + (-1)) [(3, .int (s14 + (-1))), (0, .ref a0), (1, .int a1), (2, .int 0)] d_X8_sizes_82 rfl rfl (by decide) rfl ?_
            refine zg_goto d_X8_sizes_85 ?_
            exact zg_finK (E := 0) [1, 2, 3, 0] rfl rfl (fun q => q)
      · refine zg_iconst 0 rfl d_X8_sizes_88 ?_
        refine zg_istore_n [(3, .int 0), (0, .ref a0), (1, .int a1), (2, .int 0)] d_X8_sizes_89 rfl (by decide) rfl ?_
        refine zg_bd (E := 134) (el := (fun (e28 : (Int32 × Int32)) => [(0, .ref a0), (1, .int a1), (2, .int e28.1), (3, .int e28.2)])) (es := fun _ => []) (zg_sub [1, 2, 3, 0] rfl (zg_lp (el := (fun (s26 : (Int32 × Int32)) => [(0, .ref a0), (1, .int a1), (2, .int s26.1), (3, .int s26.2)])) (fun s26 h27 => ?_) (0, 0) h17)) (fun e28 h29 => ?_)
        · refine zg_iload_n 3 rfl d_X8_sizes_90 ?_
          refine zg_aload_n 0 rfl d_X8_sizes_91 ?_
          refine zg_cVi (b := a0) (As := []) (rest := [.int s26.2]) (0, 0) d_X8_sizes_92 zc_8 rfl cw_X8_507 wi_X8_knownMany ws_X8_knownMany rfl rfl (Nat.le_of_ble_eq_true rfl) (by decide) (by decide) ⟨by decide, by decide⟩ rfl (t_X8_knownMany a0 h27) (fun v31 h30 => ?_)
          refine zg_icmp_ge d_X8_sizes_95 ?_ ?_
          · exact zg_finK (E := 0) [0, 1, 2, 3] rfl rfl (fun q => q)
          · refine zg_aload_n 0 rfl d_X8_sizes_98 ?_
            refine zg_getR d_X8_sizes_99 zc_8 (by decide) fl_X8_145 (fun v32 => ?_)
            refine zg_iload_n 3 rfl d_X8_sizes_102 ?_
            refine zg_ald2 d_X8_sizes_103 (fun v33 => ?_)
            refine zg_if_ne d_X8_sizes_104 ?_ ?_
            · refine zg_aload_n 0 rfl d_X8_sizes_107 ?_
              refine zg_getR d_X8_sizes_108 zc_8 (by decide) fl_X8_142 (fun v34 => ?_)
              refine zg_iload_n 3 rfl d_X8_sizes_111 ?_
              refine zg_ald0 d_X8_sizes_112 (fun v35 => ?_)
              refine zg_iconst (-1) rfl d_X8_sizes_113 ?_
              refine zg_icmp_ne d_X8_sizes_114 ?_ ?_
              · refine zg_iload_n 2 rfl d_X8_sizes_117 ?_
                refine zg_aload_n 0 rfl d_X8_sizes_118 ?_
                refine zg_getR d_X8_sizes_119 zc_8 (by decide) fl_X8_132 (fun v36 => ?_)
                refine zg_iload_n 3 rfl d_X8_sizes_122 ?_
                refine zg_ald0 d_X8_sizes_123 (fun v37 => ?_)
                refine zg_mmax d_X8_sizes_124 ml_X8_348 (by decide) (Nat.le_of_ble_eq_true rfl) ⟨Nat.le_of_ble_eq_true rfl, Nat.le_of_ble_eq_true rfl⟩ ?_
                refine zg_istore_n [(2, .int (zmx s26.1 v37)), (0, .ref a0), (1, .int a1), (3, .int s26.2)] d_X8_sizes_127 rfl (by decide) rfl ?_
                refine zg_iinc 3 (s26.2 + 1) [(3, .int (s26.2 + 1)), (2, .int (zmx s26.1 v37)), (0, .ref a0), (1, .int a1)] d_X8_sizes_128 rfl rfl (by decide) rfl ?_
                refine zg_goto d_X8_sizes_131 ?_
                exact zg_finK (E := 0) [2, 3, 1, 0] rfl rfl (fun q => q)
              · refine zg_iinc 3 (s26.2 + 1) [(3, .int (s26.2 + 1)), (0, .ref a0), (1, .int a1), (2, .int s26.1)] d_X8_sizes_128 rfl rfl (by decide) rfl ?_
                refine zg_goto d_X8_sizes_131 ?_
                exact zg_finK (E := 0) [1, 2, 3, 0] rfl rfl (fun q => q)
            · refine zg_iinc 3 (s26.2 + 1) [(3, .int (s26.2 + 1)), (0, .ref a0), (1, .int a1), (2, .int s26.1)] d_X8_sizes_128 rfl rfl (by decide) rfl ?_
              refine zg_goto d_X8_sizes_131 ?_
              exact zg_finK (E := 0) [1, 2, 3, 0] rfl rfl (fun q => q)
        · refine zg_iconst 0 rfl d_X8_sizes_134 ?_
          refine zg_istore_n [(3, .int 0), (0, .ref a0), (1, .int a1), (2, .int e28.1)] d_X8_sizes_135 rfl (by decide) rfl ?_
          refine zg_aload_n 1 rfl d_X8_sizes_136 ?_
          refine zg_iload_n 2 rfl d_X8_sizes_137 ?_
          refine zg_putV d_X8_sizes_138 zc_8 (by decide) fl_X8_114 rfl rfl rfl (fun h38 => ?_)
          refine zg_iconst 1 rfl d_X8_sizes_141 ?_
          refine zg_istore [(4, .int 1), (3, .int 0), (0, .ref a0), (1, .int a1), (2, .int e28.1)] d_X8_sizes_142 (by decide) rfl ?_
          refine zg_bd (E := 182) (el := (fun (e41 : (Int32 × Int32)) => [(0, .ref a0), (1, .int a1), (2, .int e28.1), (3, .int e41.1), (4, .int e41.2)])) (es := fun _ => []) (zg_sub [2, 3, 4, 1, 0] rfl (zg_lp (el := (fun (s39 : (Int32 × Int32)) => [(0, .ref a0), (1, .int a1), (2, .int e28.1), (3, .int s39.1), (4, .int s39.2)])) (fun s39 h40 => ?_) (0, 1) h38)) (fun e41 h42 => ?_)
          · refine zg_iload 4 rfl d_X8_sizes_144 ?_
            refine zg_bipush 9 rfl d_X8_sizes_146 ?_
            refine zg_icmp_gt d_X8_sizes_148 ?_ ?_
            · exact zg_finK (E := 0) [0, 1, 2, 3, 4] rfl rfl (fun q => q)
            · refine zg_aload_n 0 rfl d_X8_sizes_151 ?_
              refine zg_iload 4 rfl d_X8_sizes_152 ?_
              refine zg_putV d_X8_sizes_154 zc_8 (by decide) fl_X8_340 rfl rfl rfl (fun h43 => ?_)
              refine zg_iload_n 3 rfl d_X8_sizes_157 ?_
              refine zg_aload_n 0 rfl d_X8_sizes_158 ?_
              refine zg_iload_n 2 rfl d_X8_sizes_159 ?_
              refine zg_cVi (b := a0) (As := [.int e28.1]) (rest := [.int s39.1]) (0, 0) d_X8_sizes_160 zc_8 rfl cw_X8_513 wi_X8_fitsSize ws_X8_fitsSize rfl rfl (Nat.le_of_ble_eq_true rfl) (by decide) (by decide) ⟨by decide, by decide⟩ rfl (t_X8_fitsSize a0 e28.1 h43) (fun v45 h44 => ?_)
              refine zg_if_eq d_X8_sizes_163 ?_ ?_
              · refine zg_iconst 0 rfl d_X8_sizes_173 ?_
                refine zg_ior d_X8_sizes_174 ?_
                refine zg_istore_n [(3, .int (s39.1 ||| 0)), (0, .ref a0), (1, .int a1), (2, .int e28.1), (4, .int s39.2)] d_X8_sizes_175 rfl (by decide) rfl ?_
                refine zg_iinc 4 (s39.2 + 1) [(4, .int (s39.2 + 1)), (3, .int (s39.1 ||| 0)), (0, .ref a0), (1, .int a1), (2, .int e28.1)] d_X8_sizes_176 rfl rfl (by decide) rfl ?_
                refine zg_goto d_X8_sizes_179 ?_
                exact zg_finK (E := 0) [2, 3, 4, 1, 0] rfl rfl (fun q => q)
              · refine zg_iconst 1 rfl d_X8_sizes_166 ?_
                refine zg_iload 4 rfl d_X8_sizes_167 ?_
                refine zg_ishl d_X8_sizes_169 ?_
                refine zg_goto d_X8_sizes_170 ?_
                refine zg_ior d_X8_sizes_174 ?_
                refine zg_istore_n [(3, .int (s39.1 ||| (1 <<< (s39.2 &&& 31)))), (0, .ref a0), (1, .int a1), (2, .int e28.1), (4, .int s39.2)] d_X8_sizes_175 rfl (by decide) rfl ?_
                refine zg_iinc 4 (s39.2 + 1) [(4, .int (s39.2 + 1)), (3, .int (s39.1 ||| (1 <<< (s39.2 &&& 31)))), (0, .ref a0), (1, .int a1), (2, .int e28.1)] d_X8_sizes_176 rfl rfl (by decide) rfl ?_
                refine zg_goto d_X8_sizes_179 ?_
                exact zg_finK (E := 0) [2, 3, 4, 1, 0] rfl rfl (fun q => q)
          · refine zg_aload_n 0 rfl d_X8_sizes_182 ?_
            refine zg_iconst (-1) rfl d_X8_sizes_183 ?_
            refine zg_putV d_X8_sizes_184 zc_8 (by decide) fl_X8_114 rfl rfl rfl (fun h46 => ?_)
            refine zg_iload_n 3 rfl d_X8_sizes_187 ?_
            exact zg_iretK d_X8_sizes_188 rfl ⟨Nat.le_of_ble_eq_true rfl, Nat.le_of_ble_eq_true rfl⟩ (fun q => q)
abbrev M_X8_station : zMt := (RX8, cX8_station, 7, 7, 201, (some .int), "station", 0, 0)
theorem d_X8_station_0 : zDc M_X8_station 0 (.aload_n 0) 1 1 := ⟨by decide +kernel, rfl⟩
theorem d_X8_station_1 : zDc M_X8_station 1 (.iconst 0) 1 2 := ⟨by decide +kernel, rfl⟩
theorem d_X8_station_2 : zDc M_X8_station 2 (.putfield 151) 3 5 := ⟨by decide +kernel, rfl⟩
theorem d_X8_station_5 : zDc M_X8_station 5 (.aload_n 0) 1 6 := ⟨by decide +kernel, rfl⟩
theorem d_X8_station_6 : zDc M_X8_station 6 (.iload_n 1) 1 7 := ⟨by decide +kernel, rfl⟩
theorem d_X8_station_7 : zDc M_X8_station 7 (.invokevirtual 425) 3 10 := ⟨by decide +kernel, rfl⟩
theorem d_X8_station_10 : zDj M_X8_station 10 (.ifCond .eq 23) 23 13 33 := ⟨by decide +kernel, rfl, by decide⟩
theorem d_X8_station_13 : zDc M_X8_station 13 (.iload_n 2) 1 14 := ⟨by decide +kernel, rfl⟩
theorem d_X8_station_14 : zDc M_X8_station 14 (.iconst 1) 1 15 := ⟨by decide +kernel, rfl⟩
theorem d_X8_station_15 : zDj M_X8_station 15 (.if_icmp .lt 18) 18 18 33 := ⟨by decide +kernel, rfl, by decide⟩
theorem d_X8_station_18 : zDc M_X8_station 18 (.iload_n 2) 1 19 := ⟨by decide +kernel, rfl⟩
theorem d_X8_station_19 : zDc M_X8_station 19 (.bipush 60) 2 21 := ⟨by decide +kernel, rfl⟩
theorem d_X8_station_21 : zDj M_X8_station 21 (.if_icmp .gt 12) 12 24 33 := ⟨by decide +kernel, rfl, by decide⟩
theorem d_X8_station_24 : zDc M_X8_station 24 (.iload_n 3) 1 25 := ⟨by decide +kernel, rfl⟩
theorem d_X8_station_25 : zDj M_X8_station 25 (.ifCond .lt 8) 8 28 33 := ⟨by decide +kernel, rfl, by decide⟩
theorem d_X8_station_28 : zDc M_X8_station 28 (.iload_n 3) 1 29 := ⟨by decide +kernel, rfl⟩
theorem d_X8_station_29 : zDc M_X8_station 29 (.iconst 1) 1 30 := ⟨by decide +kernel, rfl⟩
theorem d_X8_station_30 : zDj M_X8_station 30 (.if_icmp .le 5) 5 33 35 := ⟨by decide +kernel, rfl, by decide⟩
theorem d_X8_station_33 : zDc M_X8_station 33 (.iconst (-1)) 1 34 := ⟨by decide +kernel, rfl⟩
theorem d_X8_station_34 : zDc M_X8_station 34 (.ireturn) 1 35 := ⟨by decide +kernel, rfl⟩
theorem d_X8_station_35 : zDc M_X8_station 35 (.iconst 0) 1 36 := ⟨by decide +kernel, rfl⟩
theorem d_X8_station_36 : zDc M_X8_station 36 (.istore 4) 2 38 := ⟨by decide +kernel, rfl⟩
theorem d_X8_station_38 : zDc M_X8_station 38 (.iload 4) 2 40 := ⟨by decide +kernel, rfl⟩
theorem d_X8_station_40 : zDc M_X8_station 40 (.bipush 24) 2 42 := ⟨by decide +kernel, rfl⟩
theorem d_X8_station_42 : zDj M_X8_station 42 (.if_icmp .ge 17) 17 45 59 := ⟨by decide +kernel, rfl, by decide⟩
theorem d_X8_station_45 : zDc M_X8_station 45 (.aload_n 0) 1 46 := ⟨by decide +kernel, rfl⟩
theorem d_X8_station_46 : zDc M_X8_station 46 (.getfield 120) 3 49 := ⟨by decide +kernel, rfl⟩
theorem d_X8_station_49 : zDc M_X8_station 49 (.iload 4) 2 51 := ⟨by decide +kernel, rfl⟩
theorem d_X8_station_51 : zDc M_X8_station 51 (.iconst 0) 1 52 := ⟨by decide +kernel, rfl⟩
theorem d_X8_station_52 : zDc M_X8_station 52 (.iastore) 1 53 := ⟨by decide +kernel, rfl⟩
theorem d_X8_station_53 : zDc M_X8_station 53 (.iinc 4 1) 3 56 := ⟨by decide +kernel, rfl⟩
theorem d_X8_station_56 : zDj M_X8_station 56 (.goto (-18)) (-18) 59 38 := ⟨by decide +kernel, rfl, by decide⟩
theorem d_X8_station_59 : zDc M_X8_station 59 (.aload_n 0) 1 60 := ⟨by decide +kernel, rfl⟩
theorem d_X8_station_60 : zDc M_X8_station 60 (.iconst 1) 1 61 := ⟨by decide +kernel, rfl⟩
theorem d_X8_station_61 : zDc M_X8_station 61 (.iconst 0) 1 62 := ⟨by decide +kernel, rfl⟩
theorem d_X8_station_62 : zDc M_X8_station 62 (.invokevirtual 416) 3 65 := ⟨by decide +kernel, rfl⟩
theorem d_X8_station_65 : zDc M_X8_station 65 (.iconst 0) 1 66 := ⟨by decide +kernel, rfl⟩
theorem d_X8_station_66 : zDc M_X8_station 66 (.istore 4) 2 68 := ⟨by decide +kernel, rfl⟩
theorem d_X8_station_68 : zDc M_X8_station 68 (.iload 4) 2 70 := ⟨by decide +kernel, rfl⟩
theorem d_X8_station_70 : zDc M_X8_station 70 (.iload_n 2) 1 71 := ⟨by decide +kernel, rfl⟩
theorem d_X8_station_71 : zDj M_X8_station 71 (.if_icmp .ge 102) 102 74 173 := ⟨by decide +kernel, rfl, by decide⟩
theorem d_X8_station_74 : zDc M_X8_station 74 (.aload_n 0) 1 75 := ⟨by decide +kernel, rfl⟩
theorem d_X8_station_75 : zDc M_X8_station 75 (.iconst 1) 1 76 := ⟨by decide +kernel, rfl⟩
theorem d_X8_station_76 : zDc M_X8_station 76 (.invokevirtual 419) 3 79 := ⟨by decide +kernel, rfl⟩
theorem d_X8_station_79 : zDc M_X8_station 79 (.iconst 0) 1 80 := ⟨by decide +kernel, rfl⟩
theorem d_X8_station_80 : zDc M_X8_station 80 (.istore 5) 2 82 := ⟨by decide +kernel, rfl⟩
theorem d_X8_station_82 : zDc M_X8_station 82 (.iload 5) 2 84 := ⟨by decide +kernel, rfl⟩
theorem d_X8_station_84 : zDc M_X8_station 84 (.aload_n 0) 1 85 := ⟨by decide +kernel, rfl⟩
theorem d_X8_station_85 : zDc M_X8_station 85 (.getfield 13) 3 88 := ⟨by decide +kernel, rfl⟩
theorem d_X8_station_88 : zDc M_X8_station 88 (.iconst 1) 1 89 := ⟨by decide +kernel, rfl⟩
theorem d_X8_station_89 : zDc M_X8_station 89 (.iaload) 1 90 := ⟨by decide +kernel, rfl⟩
theorem d_X8_station_90 : zDj M_X8_station 90 (.if_icmp .ge 77) 77 93 167 := ⟨by decide +kernel, rfl, by decide⟩
theorem d_X8_station_93 : zDc M_X8_station 93 (.aload_n 0) 1 94 := ⟨by decide +kernel, rfl⟩
theorem d_X8_station_94 : zDc M_X8_station 94 (.iconst 1) 1 95 := ⟨by decide +kernel, rfl⟩
theorem d_X8_station_95 : zDc M_X8_station 95 (.iload 5) 2 97 := ⟨by decide +kernel, rfl⟩
theorem d_X8_station_97 : zDc M_X8_station 97 (.invokevirtual 351) 3 100 := ⟨by decide +kernel, rfl⟩
theorem d_X8_station_100 : zDj M_X8_station 100 (.ifCond .ne 6) 6 103 106 := ⟨by decide +kernel, rfl, by decide⟩
theorem d_X8_station_103 : zDj M_X8_station 103 (.goto 58) 58 106 161 := ⟨by decide +kernel, rfl, by decide⟩
theorem d_X8_station_106 : zDc M_X8_station 106 (.iconst 0) 1 107 := ⟨by decide +kernel, rfl⟩
theorem d_X8_station_107 : zDc M_X8_station 107 (.istore 6) 2 109 := ⟨by decide +kernel, rfl⟩
theorem d_X8_station_109 : zDc M_X8_station 109 (.iload 6) 2 111 := ⟨by decide +kernel, rfl⟩
theorem d_X8_station_111 : zDc M_X8_station 111 (.bipush 24) 2 113 := ⟨by decide +kernel, rfl⟩
theorem d_X8_station_113 : zDj M_X8_station 113 (.if_icmp .ge 48) 48 116 161 := ⟨by decide +kernel, rfl, by decide⟩
theorem d_X8_station_116 : zDc M_X8_station 116 (.aload_n 0) 1 117 := ⟨by decide +kernel, rfl⟩
theorem d_X8_station_117 : zDc M_X8_station 117 (.getfield 120) 3 120 := ⟨by decide +kernel, rfl⟩
theorem d_X8_station_120 : zDc M_X8_station 120 (.iload 6) 2 122 := ⟨by decide +kernel, rfl⟩
theorem d_X8_station_122 : zDc M_X8_station 122 (.dup2) 1 123 := ⟨by decide +kernel, rfl⟩
theorem d_X8_station_123 : zDc M_X8_station 123 (.iaload) 1 124 := ⟨by decide +kernel, rfl⟩
theorem d_X8_station_124 : zDc M_X8_station 124 (.iload 6) 2 126 := ⟨by decide +kernel, rfl⟩
theorem d_X8_station_126 : zDc M_X8_station 126 (.aload_n 0) 1 127 := ⟨by decide +kernel, rfl⟩
theorem d_X8_station_127 : zDc M_X8_station 127 (.getfield 81) 3 130 := ⟨by decide +kernel, rfl⟩
theorem d_X8_station_130 : zDc M_X8_station 130 (.bipush 8) 2 132 := ⟨by decide +kernel, rfl⟩
theorem d_X8_station_132 : zDc M_X8_station 132 (.iload 5) 2 134 := ⟨by decide +kernel, rfl⟩
theorem d_X8_station_134 : zDc M_X8_station 134 (.iadd) 1 135 := ⟨by decide +kernel, rfl⟩
theorem d_X8_station_135 : zDc M_X8_station 135 (.iaload) 1 136 := ⟨by decide +kernel, rfl⟩
theorem d_X8_station_136 : zDc M_X8_station 136 (.invokestatic 360) 3 139 := ⟨by decide +kernel, rfl⟩
theorem d_X8_station_139 : zDc M_X8_station 139 (.aload_n 0) 1 140 := ⟨by decide +kernel, rfl⟩
theorem d_X8_station_140 : zDc M_X8_station 140 (.getfield 46) 3 143 := ⟨by decide +kernel, rfl⟩
theorem d_X8_station_143 : zDc M_X8_station 143 (.iload_n 1) 1 144 := ⟨by decide +kernel, rfl⟩
theorem d_X8_station_144 : zDc M_X8_station 144 (.iaload) 1 145 := ⟨by decide +kernel, rfl⟩
theorem d_X8_station_145 : zDj M_X8_station 145 (.if_icmp .gt 7) 7 148 152 := ⟨by decide +kernel, rfl, by decide⟩
theorem d_X8_station_148 : zDc M_X8_station 148 (.iconst 1) 1 149 := ⟨by decide +kernel, rfl⟩
theorem d_X8_station_149 : zDj M_X8_station 149 (.goto 4) 4 152 153 := ⟨by decide +kernel, rfl, by decide⟩
theorem d_X8_station_152 : zDc M_X8_station 152 (.iconst 0) 1 153 := ⟨by decide +kernel, rfl⟩
theorem d_X8_station_153 : zDc M_X8_station 153 (.iadd) 1 154 := ⟨by decide +kernel, rfl⟩
theorem d_X8_station_154 : zDc M_X8_station 154 (.iastore) 1 155 := ⟨by decide +kernel, rfl⟩
theorem d_X8_station_155 : zDc M_X8_station 155 (.iinc 6 1) 3 158 := ⟨by decide +kernel, rfl⟩
theorem d_X8_station_158 : zDj M_X8_station 158 (.goto (-49)) (-49) 161 109 := ⟨by decide +kernel, rfl, by decide⟩
theorem d_X8_station_161 : zDc M_X8_station 161 (.iinc 5 1) 3 164 := ⟨by decide +kernel, rfl⟩
theorem d_X8_station_164 : zDj M_X8_station 164 (.goto (-82)) (-82) 167 82 := ⟨by decide +kernel, rfl, by decide⟩
theorem d_X8_station_167 : zDc M_X8_station 167 (.iinc 4 1) 3 170 := ⟨by decide +kernel, rfl⟩
theorem d_X8_station_170 : zDj M_X8_station 170 (.goto (-102)) (-102) 173 68 := ⟨by decide +kernel, rfl, by decide⟩
theorem d_X8_station_173 : zDc M_X8_station 173 (.iconst 0) 1 174 := ⟨by decide +kernel, rfl⟩
theorem d_X8_station_174 : zDc M_X8_station 174 (.istore 4) 2 176 := ⟨by decide +kernel, rfl⟩
theorem d_X8_station_176 : zDc M_X8_station 176 (.iconst 1) 1 177 := ⟨by decide +kernel, rfl⟩
theorem d_X8_station_177 : zDc M_X8_station 177 (.istore 5) 2 179 := ⟨by decide +kernel, rfl⟩
theorem d_X8_station_179 : zDc M_X8_station 179 (.iload 5) 2 181 := ⟨by decide +kernel, rfl⟩
theorem d_X8_station_181 : zDc M_X8_station 181 (.bipush 24) 2 183 := ⟨by decide +kernel, rfl⟩
theorem d_X8_station_183 : zDj M_X8_station 183 (.if_icmp .ge 30) 30 186 213 := ⟨by decide +kernel, rfl, by decide⟩
theorem d_X8_station_186 : zDc M_X8_station 186 (.aload_n 0) 1 187 := ⟨by decide +kernel, rfl⟩
theorem d_X8_station_187 : zDc M_X8_station 187 (.getfield 120) 3 190 := ⟨by decide +kernel, rfl⟩
theorem d_X8_station_190 : zDc M_X8_station 190 (.iload 5) 2 192 := ⟨by decide +kernel, rfl⟩
theorem d_X8_station_192 : zDc M_X8_station 192 (.iaload) 1 193 := ⟨by decide +kernel, rfl⟩
theorem d_X8_station_193 : zDc M_X8_station 193 (.aload_n 0) 1 194 := ⟨by decide +kernel, rfl⟩
theorem d_X8_station_194 : zDc M_X8_station 194 (.getfield 120) 3 197 := ⟨by decide +kernel, rfl⟩
theorem d_X8_station_197 : zDc M_X8_station 197 (.iload 4) 2 199 := ⟨by decide +kernel, rfl⟩
theorem d_X8_station_199 : zDc M_X8_station 199 (.iaload) 1 200 := ⟨by decide +kernel, rfl⟩
theorem d_X8_station_200 : zDj M_X8_station 200 (.if_icmp .le 7) 7 203 207 := ⟨by decide +kernel, rfl, by decide⟩
theorem d_X8_station_203 : zDc M_X8_station 203 (.iload 5) 2 205 := ⟨by decide +kernel, rfl⟩
theorem d_X8_station_205 : zDc M_X8_station 205 (.istore 4) 2 207 := ⟨by decide +kernel, rfl⟩
theorem d_X8_station_207 : zDc M_X8_station 207 (.iinc 5 1) 3 210 := ⟨by decide +kernel, rfl⟩
theorem d_X8_station_210 : zDj M_X8_station 210 (.goto (-31)) (-31) 213 179 := ⟨by decide +kernel, rfl, by decide⟩
theorem d_X8_station_213 : zDc M_X8_station 213 (.iload_n 3) 1 214 := ⟨by decide +kernel, rfl⟩
theorem d_X8_station_214 : zDj M_X8_station 214 (.ifCond .ne 8) 8 217 222 := ⟨by decide +kernel, rfl, by decide⟩
theorem d_X8_station_217 : zDc M_X8_station 217 (.iload 4) 2 219 := ⟨by decide +kernel, rfl⟩
theorem d_X8_station_219 : zDj M_X8_station 219 (.goto 10) 10 222 229 := ⟨by decide +kernel, rfl, by decide⟩
theorem d_X8_station_222 : zDc M_X8_station 222 (.aload_n 0) 1 223 := ⟨by decide +kernel, rfl⟩
theorem d_X8_station_223 : zDc M_X8_station 223 (.getfield 120) 3 226 := ⟨by decide +kernel, rfl⟩
theorem d_X8_station_226 : zDc M_X8_station 226 (.iload 4) 2 228 := ⟨by decide +kernel, rfl⟩
theorem d_X8_station_228 : zDc M_X8_station 228 (.iaload) 1 229 := ⟨by decide +kernel, rfl⟩
theorem d_X8_station_229 : zDc M_X8_station 229 (.ireturn) 1 230 := ⟨by decide +kernel, rfl⟩
def f_X8_station (a0 : Nat) (a1 : Int32) (a2 : Int32) (a3 : Int32) (h0 : zHp) : Option (Int32 × zHp) :=
  zob (zpV h0 a0 8 0 (.int 0)) (fun h1 =>
  zbd (zcv 8 a0 h1 (f_X8_isChild a0 a1 h1)) (fun v3 h2 =>
  if v3 = 0 then
  some ((-1), h2)
  else
  if a2 < 1 then
  some ((-1), h2)
  else
  if 60 < a2 then
  some ((-1), h2)
  else
  if a3 < 0 then
  some ((-1), h2)
  else
  if a3 ≤ 1 then
  zbd (
  zlp (σ := Int32) (β := Int32) zLF (fun s4 h5 =>
  if 24 ≤ s4 then
  some ((.inr s4), h5)
  else
  zob (zgR h5 a0 8 56) (fun v8 =>
  zob (zsI 0 h5 v8 s4 0) (fun h9 =>
  some ((.inl (s4 + 1)), h9)))) 0 h2) (fun e6 h7 =>
  zbd (zcv 8 a0 h7 (f_X8_copies a0 1 0 h7)) (fun v11 h10 =>
  zbd (
  zlp (σ := Int32) (β := Int32) zLF (fun s12 h13 =>
  if a2 ≤ s12 then
  some ((.inr s12), h13)
  else
  zbd (zcv 8 a0 h13 (f_X8_passes a0 1 h13)) (fun v17 h16 =>
  zbd (
  zlp (σ := Int32) (β := Int32) zLF (fun s18 h19 =>
  zob (zgR h19 a0 8 3) (fun v22 =>
  zob (zaI 0 h19 v22 1) (fun v23 =>
  if v23 ≤ s18 then
  some ((.inr s18), h19)
  else
  zbd (zcv 8 a0 h19 (f_X8_isUp a0 1 s18 h19)) (fun v25 h24 =>
  if v25 = 0 then
  some ((.inl (s18 + 1)), h24)
  else
  zbd (
  zlp (σ := Int32) (β := Int32) zLF (fun s26 h27 =>
  if 24 ≤ s26 then
  some ((.inr s26), h27)
  else
  zob (zgR h27 a0 8 56) (fun v30 =>
  zob (zaI 0 h27 v30 s26) (fun v31 =>
  zob (zgR h27 a0 8 38) (fun v32 =>
  zob (zaI 0 h27 v32 (8 + s18)) (fun v33 =>
  zbd ((f_X8_farOf s26 v33 h27)) (fun v35 h34 =>
  zob (zgR h34 a0 8 14) (fun v36 =>
  zob (zaI 0 h34 v36 a1) (fun v37 =>
  zbd (α := Int32) (
  if v37 < v35 then
  some (0, h34)
  else
  some (1, h34)) (fun e38 h39 =>
  zob (zsI 0 h39 v30 s26 (v31 + e38)) (fun h40 =>
  some ((.inl (s26 + 1)), h40))))))))))) 0 h24) (fun e28 h29 =>
  some ((.inl (s18 + 1)), h29)))))) 0 h16) (fun e20 h21 =>
  some ((.inl (s12 + 1)), h21)))) 0 h10) (fun e14 h15 =>
  zbd (
  zlp (σ := (Int32 × Int32)) (β := (Int32 × Int32)) zLF (fun s41 h42 =>
  if 24 ≤ s41.2 then
  some ((.inr (s41.1, s41.2)), h42)
  else
  zob (zgR h42 a0 8 56) (fun v45 =>
  zob (zaI 0 h42 v45 s41.2) (fun v46 =>
  zob (zgR h42 a0 8 56) (fun v47 =>
  zob (zaI 0 h42 v47 s41.1) (fun v48 =>
  if v46 ≤ v48 then
  some ((.inl (s41.1, (s41.2 + 1))), h42)
  else
  some ((.inl (s41.2, (s41.2 + 1))), h42)))))) (0, 1) h15) (fun e43 h44 =>
  if a3 = 0 then
  some (e43.1, h44)
  else
  zob (zgR h44 a0 8 56) (fun v49 =>
  zob (zaI 0 h44 v49 e43.1) (fun v50 =>
  some (v50, h44)))))))
  else
  some ((-1), h2)))
set_option maxRecDepth 100000 in
set_option maxHeartbeats 4000000 in
theorem t_X8_station (a0 : Nat) (a1 : Int32) (a2 : Int32) (a3 : Int32) (h0 : zHp) : ∀ (r : Int32) (h' : zHp), f_X8_station a0 a1 a2 a3 h0 = some (r, h') → zCt yX8_station (.code yX8_station cX8_station 7 (some .int)) 7 201 0 0 [.ref a0, .int a1, .int a2, .int a3] h0 (some (.int r)) h' := by
  refine zct_of M_X8_station yX8_station (by decide) rfl rfl [.ref a0, .int a1, .int a2, .int a3] h0 (Nat.le_of_ble_eq_true rfl) (fun r => some (.int r)) (fun X => ?_)
  show zG X M_X8_station (0, 0) 0 [(0, .ref a0), (1, .int a1), (2, .int a2), (3, .int a3)] [] h0 (f_X8_station a0 a1 a2 a3 h0) (fun (r : Int32) h' => zKe X (some (.int r)) h')
  unfold f_X8_station
  refine zg_aload_n 0 rfl d_X8_station_0 ?_
  refine zg_iconst 0 rfl d_X8_station_1 ?_
  refine zg_putV d_X8_station_2 zc_8 (by decide) fl_X8_151 rfl rfl rfl (fun h1 => ?_)
  refine zg_aload_n 0 rfl d_X8_station_5 ?_
  refine zg_iload_n 1 rfl d_X8_station_6 ?_
  refine zg_cVi (b := a0) (As := [.int a1]) (rest := []) (0, 0) d_X8_station_7 zc_8 rfl cw_X8_425 wi_X8_isChild ws_X8_isChild rfl rfl (Nat.le_of_ble_eq_true rfl) (by decide) (by decide) ⟨by decide, by decide⟩ rfl (t_X8_isChild a0 a1 h1) (fun v3 h2 => ?_)
  refine zg_if_eq d_X8_station_10 ?_ ?_
  · refine zg_iconst (-1) rfl d_X8_station_33 ?_
    exact zg_iretK d_X8_station_34 rfl ⟨Nat.le_of_ble_eq_true rfl, Nat.le_of_ble_eq_true rfl⟩ (fun q => q)
  · refine zg_iload_n 2 rfl d_X8_station_13 ?_
    refine zg_iconst 1 rfl d_X8_station_14 ?_
    refine zg_icmp_lt d_X8_station_15 ?_ ?_
    · refine zg_iconst (-1) rfl d_X8_station_33 ?_
      exact zg_iretK d_X8_station_34 rfl ⟨Nat.le_of_ble_eq_true rfl, Nat.le_of_ble_eq_true rfl⟩ (fun q => q)
    · refine zg_iload_n 2 rfl d_X8_station_18 ?_
      refine zg_bipush 60 rfl d_X8_station_19 ?_
      refine zg_icmp_gt d_X8_station_21 ?_ ?_
      · refine zg_iconst (-1) rfl d_X8_station_33 ?_
        exact zg_iretK d_X8_station_34 rfl ⟨Nat.le_of_ble_eq_true rfl, Nat.le_of_ble_eq_true rfl⟩ (fun q => q)
      · refine zg_iload_n 3 rfl d_X8_station_24 ?_
        refine zg_if_lt d_X8_station_25 ?_ ?_
        · refine zg_iconst (-1) rfl d_X8_station_33 ?_
          exact zg_iretK d_X8_station_34 rfl ⟨Nat.le_of_ble_eq_true rfl, Nat.le_of_ble_eq_true rfl⟩ (fun q => q)
        · refine zg_iload_n 3 rfl d_X8_station_28 ?_
          refine zg_iconst 1 rfl d_X8_station_29 ?_
          refine zg_icmp_le d_X8_station_30 ?_ ?_
          · refine zg_iconst 0 rfl d_X8_station_35 ?_
            refine zg_istore [(4, .int 0), (0, .ref a0), (1, .int a1), (2, .int a2), (3, .int a3)] d_X8_station_36 (by decide) rfl ?_
            refine zg_bd (E := 59) (el := (fun (e6 : Int32) => [(0, .ref a0), (1, .int a1), (2, .int a2), (3, .int a3), (4, .int e6)])) (es := fun _ => []) (zg_sub [1, 2, 3, 4, 0] rfl (zg_lp (el := (fun (s4 : Int32) => [(0, .ref a0), (1, .int a1), (2, .int a2), (3, .int a3), (4, .int s4)])) (fun s4 h5 => ?_) 0 h2)) (fun e6 h7 => ?_)
            · refine zg_iload 4 rfl d_X8_station_38 ?_
              refine zg_bipush 24 rfl d_X8_station_40 ?_
              refine zg_icmp_ge d_X8_station_42 ?_ ?_
              · exact zg_finK (E := 0) [0, 1, 2, 3, 4] rfl rfl (fun q => q)
              · refine zg_aload_n 0 rfl d_X8_station_45 ?_
                refine zg_getR d_X8_station_46 zc_8 (by decide) fl_X8_120 (fun v8 => ?_)
                refine zg_iload 4 rfl d_X8_station_49 ?_
                refine zg_iconst 0 rfl d_X8_station_51 ?_
                refine zg_ast0 d_X8_station_52 (fun h9 => ?_)
                refine zg_iinc 4 (s4 + 1) [(4, .int (s4 + 1)), (0, .ref a0), (1, .int a1), (2, .int a2), (3, .int a3)] d_X8_station_53 rfl rfl (by decide) rfl ?_
                refine zg_goto d_X8_station_56 ?_
                exact zg_finK (E := 0) [1, 2, 3, 4, 0] rfl rfl (fun q => q)
            · refine zg_aload_n 0 rfl d_X8_station_59 ?_
              refine zg_iconst 1 rfl d_X8_station_60 ?_
              refine zg_iconst 0 rfl d_X8_station_61 ?_
              refine zg_cVv (b := a0) (As := [.int 1, .int 0]) (rest := []) (0, 0) d_X8_station_62 zc_8 rfl cw_X8_416 wi_X8_copies ws_X8_copies rfl rfl (Nat.le_of_ble_eq_true rfl) (by decide) (by decide) ⟨by decide, by decide⟩ rfl (t_X8_copies a0 1 0 h7) (fun v11 h10 => ?_)
              refine zg_iconst 0 rfl d_X8_station_65 ?_
              refine zg_istore [(4, .int 0), (0, .ref a0), (1, .int a1), (2, .int a2), (3, .int a3)] d_X8_station_66 (by decide) rfl ?_
              refine zg_bd (E := 173) (el := (fun (e14 : Int32) => [(0, .ref a0), (1, .int a1), (2, .int a2), (3, .int a3), (4, .int e14)])) (es := fun _ => []) (zg_sub [1, 2, 3, 4, 0] rfl (zg_lp (el := (fun (s12 : Int32) => [(0, .ref a0), (1, .int a1), (2, .int a2), (3, .int a3), (4, .int s12)])) (fun s12 h13 => ?_) 0 h10)) (fun e14 h15 => ?_)
              · refine zg_iload 4 rfl d_X8_station_68 ?_
                refine zg_iload_n 2 rfl d_X8_station_70 ?_
                refine zg_icmp_ge d_X8_station_71 ?_ ?_
                · exact zg_finK (E := 0) [0, 1, 2, 3, 4] rfl rfl (fun q => q)
                · refine zg_aload_n 0 rfl d_X8_station_74 ?_
                  refine zg_iconst 1 rfl d_X8_station_75 ?_
                  refine zg_cVv (b := a0) (As := [.int 1]) (rest := []) (0, 0) d_X8_station_76 zc_8 rfl cw_X8_419 wi_X8_passes ws_X8_passes rfl rfl (Nat.le_of_ble_eq_true rfl) (by decide) (by decide) ⟨by decide, by decide⟩ rfl (t_X8_passes a0 1 h13) (fun v17 h16 => ?_)
                  refine zg_iconst 0 rfl d_X8_station_79 ?_
                  refine zg_istore [(5, .int 0), (0, .ref a0), (1, .int a1), (2, .int a2), (3, .int a3), (4, .int s12)] d_X8_station_80 (by decide) rfl ?_
                  refine zg_bd (E := 167) (el := (fun (e20 : Int32) => [(0, .ref a0), (1, .int a1), (2, .int a2), (3, .int a3), (4, .int s12), (5, .int e20)])) (es := fun _ => []) (zg_sub [1, 2, 3, 4, 5, 0] rfl (zg_lp (el := (fun (s18 : Int32) => [(0, .ref a0), (1, .int a1), (2, .int a2), (3, .int a3), (4, .int s12), (5, .int s18)])) (fun s18 h19 => ?_) 0 h16)) (fun e20 h21 => ?_)
                  · refine zg_iload 5 rfl d_X8_station_82 ?_
                    refine zg_aload_n 0 rfl d_X8_station_84 ?_
                    refine zg_getR d_X8_station_85 zc_8 (by decide) fl_X8_13 (fun v22 => ?_)
                    refine zg_iconst 1 rfl d_X8_station_88 ?_
                    refine zg_ald0 d_X8_station_89 (fun v23 => ?_)
                    refine zg_icmp_ge d_X8_station_90 ?_ ?_
                    · exact zg_finK (E := 0) [0, 1, 2, 3, 4, 5] rfl rfl (fun q => q)
                    · refine zg_aload_n 0 rfl d_X8_station_93 ?_
                      refine zg_iconst 1 rfl d_X8_station_94 ?_
                      refine zg_iload 5 rfl d_X8_station_95 ?_
                      refine zg_cVi (b := a0) (As := [.int 1, .int s18]) (rest := []) (0, 0) d_X8_station_97 zc_8 rfl cw_X8_351 wi_X8_isUp ws_X8_isUp rfl rfl (Nat.le_of_ble_eq_true rfl) (by decide) (by decide) ⟨by decide, by decide⟩ rfl (t_X8_isUp a0 1 s18 h19) (fun v25 h24 => ?_)
                      refine zg_if_ne d_X8_station_100 ?_ ?_
                      · refine zg_goto d_X8_station_103 ?_
                        refine zg_iinc 5 (s18 + 1) [(5, .int (s18 + 1)), (0, .ref a0), (1, .int a1), (2, .int a2), (3, .int a3), (4, .int s12)] d_X8_station_161 rfl rfl (by decide) rfl ?_
                        refine zg_goto d_X8_station_164 ?_
                        exact zg_finK (E := 0) [1, 2, 3, 4, 5, 0] rfl rfl (fun q => q)
                      · refine zg_iconst 0 rfl d_X8_station_106 ?_
                        refine zg_istore [(6, .int 0), (0, .ref a0), (1, .int a1), (2, .int a2), (3, .int a3), (4, .int s12), (5, .int s18)] d_X8_station_107 (by decide) rfl ?_
                        refine zg_bd (E := 161) (el := (fun (e28 : Int32) => [(0, .ref a0), (1, .int a1), (2, .int a2), (3, .int a3), (4, .int s12), (5, .int s18), (6, .int e28)])) (es := fun _ => []) (zg_sub [1, 2, 3, 4, 5, 6, 0] rfl (zg_lp (el := (fun (s26 : Int32) => [(0, .ref a0), (1, .int a1), (2, .int a2), (3, .int a3), (4, .int s12), (5, .int s18), (6, .int s26)])) (fun s26 h27 => ?_) 0 h24)) (fun e28 h29 => ?_)
                        · refine zg_iload 6 rfl d_X8_station_109 ?_
                          refine zg_bipush 24 rfl d_X8_station_111 ?_
                          refine zg_icmp_ge d_X8_station_113 ?_ ?_
                          · exact zg_finK (E := 0) [0, 1, 2, 3, 4, 5, 6] rfl rfl (fun q => q)
                          · refine zg_aload_n 0 rfl d_X8_station_116 ?_
                            refine zg_getR d_X8_station_117 zc_8 (by decide) fl_X8_120 (fun v30 => ?_)
                            refine zg_iload 6 rfl d_X8_station_120 ?_
                            refine zg_dup2 rfl rfl d_X8_station_122 ?_
                            refine zg_ald0 d_X8_station_123 (fun v31 => ?_)
                            refine zg_iload 6 rfl d_X8_station_124 ?_
                            refine zg_aload_n 0 rfl d_X8_station_126 ?_
                            refine zg_getR d_X8_station_127 zc_8 (by decide) fl_X8_81 (fun v32 => ?_)
                            refine zg_bipush 8 rfl d_X8_station_130 ?_
                            refine zg_iload 5 rfl d_X8_station_132 ?_
                            refine zg_iadd d_X8_station_134 ?_
                            refine zg_ald0 d_X8_station_135 (fun v33 => ?_)
                            refine zg_cSi (As := [.int s26, .int v33]) (rest := [.int v31, .int s26, .ref v30]) (0, 0) d_X8_station_136 cw_X8_360 wt_X8_farOf rfl rfl (Nat.le_of_ble_eq_true rfl) (by decide) (by decide) ⟨by decide, by decide⟩ rfl (t_X8_farOf s26 v33 h27) (fun v35 h34 => ?_)
                            refine zg_aload_n 0 rfl d_X8_station_139 ?_
                            refine zg_getR d_X8_station_140 zc_8 (by decide) fl_X8_46 (fun v36 => ?_)
                            refine zg_iload_n 1 rfl d_X8_station_143 ?_
                            refine zg_ald0 d_X8_station_144 (fun v37 => ?_)
                            refine zg_bd (E := 153) (el := (fun (e38 : Int32) => [(0, .ref a0), (1, .int a1), (2, .int a2), (3, .int a3), (4, .int s12), (5, .int s18), (6, .int s26)])) (es := (fun (e38 : Int32) => [.int e38, .int v31, .int s26, .ref v30])) ?_ (fun e38 h39 => ?_)
                            · refine zg_icmp_gt d_X8_station_145 ?_ ?_
                              · refine zg_iconst 0 rfl d_X8_station_152 ?_
                                exact zg_finK (E := 0) [0, 1, 2, 3, 4, 5, 6] rfl rfl (fun q => q)
                              · refine zg_iconst 1 rfl d_X8_station_148 ?_
                                refine zg_goto d_X8_station_149 ?_
                                exact zg_finK (E := 0) [0, 1, 2, 3, 4, 5, 6] rfl rfl (fun q => q)
                            · refine zg_iadd d_X8_station_153 ?_
                              refine zg_ast0 d_X8_station_154 (fun h40 => ?_)
                              refine zg_iinc 6 (s26 + 1) [(6, .int (s26 + 1)), (0, .ref a0), (1, .int a1), (2, .int a2), (3, .int a3), (4, .int s12), (5, .int s18)] d_X8_station_155 rfl rfl (by decide) rfl ?_
                              refine zg_goto d_X8_station_158 ?_
                              exact zg_finK (E := 0) [1, 2, 3, 4, 5, 6, 0] rfl rfl (fun q => q)
                        · refine zg_iinc 5 (s18 + 1) [(5, .int (s18 + 1)), (0, .ref a0), (1, .int a1), (2, .int a2), (3, .int a3), (4, .int s12), (6, .int e28)] d_X8_station_161 rfl rfl (by decide) rfl ?_
                          refine zg_goto d_X8_station_164 ?_
                          exact zg_finK (E := 0) [1, 2, 3, 4, 5, 0] rfl rfl (fun q => q)
                  · refine zg_iinc 4 (s12 + 1) [(4, .int (s12 + 1)), (0, .ref a0), (1, .int a1), (2, .int a2), (3, .int a3), (5, .int e20)] d_X8_station_167 rfl rfl (by decide) rfl ?_
                    refine zg_goto d_X8_station_170 ?_
                    exact zg_finK (E := 0) [1, 2, 3, 4, 0] rfl rfl (fun q => q)
              · refine zg_iconst 0 rfl d_X8_station_173 ?_
                refine zg_istore [(4, .int 0), (0, .ref a0), (1, .int a1), (2, .int a2), (3, .int a3)] d_X8_station_174 (by decide) rfl ?_
                refine zg_iconst 1 rfl d_X8_station_176 ?_
                refine zg_istore [(5, .int 1), (4, .int 0), (0, .ref a0), (1, .int a1), (2, .int a2), (3, .int a3)] d_X8_station_177 (by decide) rfl ?_
                refine zg_bd (E := 213) (el := (fun (e43 : (Int32 × Int32)) => [(0, .ref a0), (1, .int a1), (2, .int a2), (3, .int a3), (4, .int e43.1), (5, .int e43.2)])) (es := fun _ => []) (zg_sub [2, 3, 4, 5, 1, 0] rfl (zg_lp (el := (fun (s41 : (Int32 × Int32)) => [(0, .ref a0), (1, .int a1), (2, .int a2), (3, .int a3), (4, .int s41.1), (5, .int s41.2)])) (fun s41 h42 => ?_) (0, 1) h15)) (fun e43 h44 => ?_)
                · refine zg_iload 5 rfl d_X8_station_179 ?_
                  refine zg_bipush 24 rfl d_X8_station_181 ?_
                  refine zg_icmp_ge d_X8_station_183 ?_ ?_
                  · exact zg_finK (E := 0) [0, 1, 2, 3, 4, 5] rfl rfl (fun q => q)
                  · refine zg_aload_n 0 rfl d_X8_station_186 ?_
                    refine zg_getR d_X8_station_187 zc_8 (by decide) fl_X8_120 (fun v45 => ?_)
                    refine zg_iload 5 rfl d_X8_station_190 ?_
                    refine zg_ald0 d_X8_station_192 (fun v46 => ?_)
                    refine zg_aload_n 0 rfl d_X8_station_193 ?_
                    refine zg_getR d_X8_station_194 zc_8 (by decide) fl_X8_120 (fun v47 => ?_)
                    refine zg_iload 4 rfl d_X8_station_197 ?_
                    refine zg_ald0 d_X8_station_199 (fun v48 => ?_)
                    refine zg_icmp_le d_X8_station_200 ?_ ?_
                    · refine zg_iinc 5 (s41.2 + 1) [(5, .int (s41.2 + 1)), (0, .ref a0), (1, .int a1), (2, .int a2), (3, .int a3), (4, .int s41.1)] d_X8_station_207 rfl rfl (by decide) rfl ?_
                      refine zg_goto d_X8_station_210 ?_
                      exact zg_finK (E := 0) [1, 2, 3, 4, 5, 0] rfl rfl (fun q => q)
                    · refine zg_iload 5 rfl d_X8_station_203 ?_
                      refine zg_istore [(4, .int s41.2), (0, .ref a0), (1, .int a1), (2, .int a2), (3, .int a3), (5, .int s41.2)] d_X8_station_205 (by decide) rfl ?_
                      refine zg_iinc 5 (s41.2 + 1) [(5, .int (s41.2 + 1)), (4, .int s41.2), (0, .ref a0), (1, .int a1), (2, .int a2), (3, .int a3)] d_X8_station_207 rfl rfl (by decide) rfl ?_
                      refine zg_goto d_X8_station_210 ?_
                      exact zg_finK (E := 0) [2, 3, 4, 5, 1, 0] rfl rfl (fun q => q)
                · refine zg_iload_n 3 rfl d_X8_station_213 ?_
                  refine zg_if_ne d_X8_station_214 ?_ ?_
                  · refine zg_iload 4 rfl d_X8_station_217 ?_
                    refine zg_goto d_X8_station_219 ?_
                    exact zg_iretK d_X8_station_229 rfl ⟨Nat.le_of_ble_eq_true rfl, Nat.le_of_ble_eq_true rfl⟩ (fun q => q)
                  · refine zg_aload_n 0 rfl d_X8_station_222 ?_
                    refine zg_getR d_X8_station_223 zc_8 (by decide) fl_X8_120 (fun v49 => ?_)
                    refine zg_iload 4 rfl d_X8_station_226 ?_
                    refine zg_ald0 d_X8_station_228 (fun v50 => ?_)
                    exact zg_iretK d_X8_station_229 rfl ⟨Nat.le_of_ble_eq_true rfl, Nat.le_of_ble_eq_true rfl⟩ (fun q => q)
          · refine zg_iconst (-1) rfl d_X8_station_33 ?_
            exact zg_iretK d_X8_station_34 rfl ⟨Nat.le_of_ble_eq_true rfl, Nat.le_of_ble_eq_true rfl⟩ (fun q => q)
abbrev M_X8_step : zMt := (RX8, cX8_step, 5, 8, 227, (some .int), "step", 0, 0)
theorem d_X8_step_0 : zDc M_X8_step 0 (.aload_n 0) 1 1 := ⟨by decide +kernel, rfl⟩
theorem d_X8_step_1 : zDc M_X8_step 1 (.iconst 0) 1 2 := ⟨by decide +kernel, rfl⟩
theorem d_X8_step_2 : zDc M_X8_step 2 (.putfield 151) 3 5 := ⟨by decide +kernel, rfl⟩
theorem d_X8_step_5 : zDc M_X8_step 5 (.aload_n 0) 1 6 := ⟨by decide +kernel, rfl⟩
theorem d_X8_step_6 : zDc M_X8_step 6 (.iload_n 1) 1 7 := ⟨by decide +kernel, rfl⟩
theorem d_X8_step_7 : zDc M_X8_step 7 (.iload_n 2) 1 8 := ⟨by decide +kernel, rfl⟩
theorem d_X8_step_8 : zDc M_X8_step 8 (.iload_n 3) 1 9 := ⟨by decide +kernel, rfl⟩
theorem d_X8_step_9 : zDc M_X8_step 9 (.invokevirtual 489) 3 12 := ⟨by decide +kernel, rfl⟩
theorem d_X8_step_12 : zDj M_X8_step 12 (.ifCond .eq 8) 8 15 20 := ⟨by decide +kernel, rfl, by decide⟩
theorem d_X8_step_15 : zDc M_X8_step 15 (.iload 4) 2 17 := ⟨by decide +kernel, rfl⟩
theorem d_X8_step_17 : zDj M_X8_step 17 (.ifCond .ge 5) 5 20 22 := ⟨by decide +kernel, rfl, by decide⟩
theorem d_X8_step_20 : zDc M_X8_step 20 (.iconst (-1)) 1 21 := ⟨by decide +kernel, rfl⟩
theorem d_X8_step_21 : zDc M_X8_step 21 (.ireturn) 1 22 := ⟨by decide +kernel, rfl⟩
theorem d_X8_step_22 : zDc M_X8_step 22 (.iload 4) 2 24 := ⟨by decide +kernel, rfl⟩
theorem d_X8_step_24 : zDc M_X8_step 24 (.iload_n 3) 1 25 := ⟨by decide +kernel, rfl⟩
theorem d_X8_step_25 : zDj M_X8_step 25 (.if_icmp .lt 6) 6 28 31 := ⟨by decide +kernel, rfl, by decide⟩
theorem d_X8_step_28 : zDc M_X8_step 28 (.bipush (-2)) 2 30 := ⟨by decide +kernel, rfl⟩
theorem d_X8_step_30 : zDc M_X8_step 30 (.ireturn) 1 31 := ⟨by decide +kernel, rfl⟩
theorem d_X8_step_31 : zDc M_X8_step 31 (.aload_n 0) 1 32 := ⟨by decide +kernel, rfl⟩
theorem d_X8_step_32 : zDc M_X8_step 32 (.iload_n 1) 1 33 := ⟨by decide +kernel, rfl⟩
theorem d_X8_step_33 : zDc M_X8_step 33 (.iload_n 2) 1 34 := ⟨by decide +kernel, rfl⟩
theorem d_X8_step_34 : zDc M_X8_step 34 (.iload_n 3) 1 35 := ⟨by decide +kernel, rfl⟩
theorem d_X8_step_35 : zDc M_X8_step 35 (.invokevirtual 492) 3 38 := ⟨by decide +kernel, rfl⟩
theorem d_X8_step_38 : zDc M_X8_step 38 (.aload_n 0) 1 39 := ⟨by decide +kernel, rfl⟩
theorem d_X8_step_39 : zDc M_X8_step 39 (.getfield 486) 3 42 := ⟨by decide +kernel, rfl⟩
theorem d_X8_step_42 : zDc M_X8_step 42 (.iload_n 3) 1 43 := ⟨by decide +kernel, rfl⟩
theorem d_X8_step_43 : zDc M_X8_step 43 (.iconst 1) 1 44 := ⟨by decide +kernel, rfl⟩
theorem d_X8_step_44 : zDc M_X8_step 44 (.isub) 1 45 := ⟨by decide +kernel, rfl⟩
theorem d_X8_step_45 : zDc M_X8_step 45 (.iload 4) 2 47 := ⟨by decide +kernel, rfl⟩
theorem d_X8_step_47 : zDc M_X8_step 47 (.isub) 1 48 := ⟨by decide +kernel, rfl⟩
theorem d_X8_step_48 : zDc M_X8_step 48 (.invokestatic 477) 3 51 := ⟨by decide +kernel, rfl⟩
theorem d_X8_step_51 : zDc M_X8_step 51 (.idiv) 1 52 := ⟨by decide +kernel, rfl⟩
theorem d_X8_step_52 : zDc M_X8_step 52 (.iconst 5) 1 53 := ⟨by decide +kernel, rfl⟩
theorem d_X8_step_53 : zDc M_X8_step 53 (.irem) 1 54 := ⟨by decide +kernel, rfl⟩
theorem d_X8_step_54 : zDc M_X8_step 54 (.ireturn) 1 55 := ⟨by decide +kernel, rfl⟩
def f_X8_step (a0 : Nat) (a1 : Int32) (a2 : Int32) (a3 : Int32) (a4 : Int32) (h0 : zHp) : Option (Int32 × zHp) :=
  zob (zpV h0 a0 8 0 (.int 0)) (fun h1 =>
  zbd (zcv 8 a0 h1 (f_X8_isPlan a0 a1 a2 a3 h1)) (fun v3 h2 =>
  if v3 = 0 then
  some ((-1), h2)
  else
  if 0 ≤ a4 then
  if a4 < a3 then
  zbd (zcv 8 a0 h2 (f_X8_layPlan a0 a1 a2 a3 h2)) (fun v5 h4 =>
  zob (zgI h4 a0 8 58) (fun v6 =>
  zbd ((f_X8_fives ((a3 - 1) - a4) h4)) (fun v8 h7 =>
  zob (zdv v6 v8) (fun v9 =>
  some ((zrm v9 5), h7)))))
  else
  some ((-2), h2)
  else
  some ((-1), h2)))
set_option maxRecDepth 100000 in
set_option maxHeartbeats 4000000 in
theorem t_X8_step (a0 : Nat) (a1 : Int32) (a2 : Int32) (a3 : Int32) (a4 : Int32) (h0 : zHp) : ∀ (r : Int32) (h' : zHp), f_X8_step a0 a1 a2 a3 a4 h0 = some (r, h') → zCt yX8_step (.code yX8_step cX8_step 5 (some .int)) 8 227 0 0 [.ref a0, .int a1, .int a2, .int a3, .int a4] h0 (some (.int r)) h' := by
  refine zct_of M_X8_step yX8_step (by decide) rfl rfl [.ref a0, .int a1, .int a2, .int a3, .int a4] h0 (Nat.le_of_ble_eq_true rfl) (fun r => some (.int r)) (fun X => ?_)
  show zG X M_X8_step (0, 0) 0 [(0, .ref a0), (1, .int a1), (2, .int a2), (3, .int a3), (4, .int a4)] [] h0 (f_X8_step a0 a1 a2 a3 a4 h0) (fun (r : Int32) h' => zKe X (some (.int r)) h')
  unfold f_X8_step
  refine zg_aload_n 0 rfl d_X8_step_0 ?_
  refine zg_iconst 0 rfl d_X8_step_1 ?_
  refine zg_putV d_X8_step_2 zc_8 (by decide) fl_X8_151 rfl rfl rfl (fun h1 => ?_)
  refine zg_aload_n 0 rfl d_X8_step_5 ?_
  refine zg_iload_n 1 rfl d_X8_step_6 ?_
  refine zg_iload_n 2 rfl d_X8_step_7 ?_
  refine zg_iload_n 3 rfl d_X8_step_8 ?_
  refine zg_cVi (b := a0) (As := [.int a1, .int a2, .int a3]) (rest := []) (0, 0) d_X8_step_9 zc_8 rfl cw_X8_489 wi_X8_isPlan ws_X8_isPlan rfl rfl (Nat.le_of_ble_eq_true rfl) (by decide) (by decide) ⟨by decide, by decide⟩ rfl (t_X8_isPlan a0 a1 a2 a3 h1) (fun v3 h2 => ?_)
  refine zg_if_eq d_X8_step_12 ?_ ?_
  · refine zg_iconst (-1) rfl d_X8_step_20 ?_
    exact zg_iretK d_X8_step_21 rfl ⟨Nat.le_of_ble_eq_true rfl, Nat.le_of_ble_eq_true rfl⟩ (fun q => q)
  · refine zg_iload 4 rfl d_X8_step_15 ?_
    refine zg_if_ge d_X8_step_17 ?_ ?_
    · refine zg_iload 4 rfl d_X8_step_22 ?_
      refine zg_iload_n 3 rfl d_X8_step_24 ?_
      refine zg_icmp_lt d_X8_step_25 ?_ ?_
      · refine zg_aload_n 0 rfl d_X8_step_31 ?_
        refine zg_iload_n 1 rfl d_X8_step_32 ?_
        refine zg_iload_n 2 rfl d_X8_step_33 ?_
        refine zg_iload_n 3 rfl d_X8_step_34 ?_
        refine zg_cVv (b := a0) (As := [.int a1, .int a2, .int a3]) (rest := []) (0, 0) d_X8_step_35 zc_8 rfl cw_X8_492 wi_X8_layPlan ws_X8_layPlan rfl rfl (Nat.le_of_ble_eq_true rfl) (by decide) (by decide) ⟨by decide, by decide⟩ rfl (t_X8_layPlan a0 a1 a2 a3 h2) (fun v5 h4 => ?_)
        refine zg_aload_n 0 rfl d_X8_step_38 ?_
        refine zg_getI d_X8_step_39 zc_8 (by decide) fl_X8_486 (fun v6 => ?_)
        refine zg_iload_n 3 rfl d_X8_step_42 ?_
        refine zg_iconst 1 rfl d_X8_step_43 ?_
        refine zg_isub d_X8_step_44 ?_
        refine zg_iload 4 rfl d_X8_step_45 ?_
        refine zg_isub d_X8_step_47 ?_
        refine zg_cSi (As := [.int ((a3 - 1) - a4)]) (rest := [.int v6]) (0, 0) d_X8_step_48 cw_X8_477 wt_X8_fives rfl rfl (Nat.le_of_ble_eq_true rfl) (by decide) (by decide) ⟨by decide, by decide⟩ rfl (t_X8_fives ((a3 - 1) - a4) h4) (fun v8 h7 => ?_)
        refine zg_idivP d_X8_step_51 (fun v9 => ?_)
        refine zg_iconst 5 rfl d_X8_step_52 ?_
        refine zg_irem (by decide) d_X8_step_53 ?_
        exact zg_iretK d_X8_step_54 rfl ⟨Nat.le_of_ble_eq_true rfl, Nat.le_of_ble_eq_true rfl⟩ (fun q => q)
      · refine zg_bipush (-2) rfl d_X8_step_28 ?_
        exact zg_iretK d_X8_step_30 rfl ⟨Nat.le_of_ble_eq_true rfl, Nat.le_of_ble_eq_true rfl⟩ (fun q => q)
    · refine zg_iconst (-1) rfl d_X8_step_20 ?_
      exact zg_iretK d_X8_step_21 rfl ⟨Nat.le_of_ble_eq_true rfl, Nat.le_of_ble_eq_true rfl⟩ (fun q => q)
abbrev M_X8_tried : zMt := (RX8, cX8_tried, 5, 8, 223, (some .int), "tried", 0, 0)
theorem d_X8_tried_0 : zDc M_X8_tried 0 (.aload_n 0) 1 1 := ⟨by decide +kernel, rfl⟩
theorem d_X8_tried_1 : zDc M_X8_tried 1 (.iconst 0) 1 2 := ⟨by decide +kernel, rfl⟩
theorem d_X8_tried_2 : zDc M_X8_tried 2 (.putfield 151) 3 5 := ⟨by decide +kernel, rfl⟩
theorem d_X8_tried_5 : zDc M_X8_tried 5 (.iload_n 1) 1 6 := ⟨by decide +kernel, rfl⟩
theorem d_X8_tried_6 : zDc M_X8_tried 6 (.iconst 2) 1 7 := ⟨by decide +kernel, rfl⟩
theorem d_X8_tried_7 : zDj M_X8_tried 7 (.if_icmp .ne 11) 11 10 18 := ⟨by decide +kernel, rfl, by decide⟩
theorem d_X8_tried_10 : zDc M_X8_tried 10 (.aload_n 0) 1 11 := ⟨by decide +kernel, rfl⟩
theorem d_X8_tried_11 : zDc M_X8_tried 11 (.iload_n 2) 1 12 := ⟨by decide +kernel, rfl⟩
theorem d_X8_tried_12 : zDc M_X8_tried 12 (.invokevirtual 422) 3 15 := ⟨by decide +kernel, rfl⟩
theorem d_X8_tried_15 : zDj M_X8_tried 15 (.goto 21) 21 18 36 := ⟨by decide +kernel, rfl, by decide⟩
theorem d_X8_tried_18 : zDc M_X8_tried 18 (.iload_n 1) 1 19 := ⟨by decide +kernel, rfl⟩
theorem d_X8_tried_19 : zDj M_X8_tried 19 (.ifCond .lt 16) 16 22 35 := ⟨by decide +kernel, rfl, by decide⟩
theorem d_X8_tried_22 : zDc M_X8_tried 22 (.iload_n 1) 1 23 := ⟨by decide +kernel, rfl⟩
theorem d_X8_tried_23 : zDc M_X8_tried 23 (.iconst 5) 1 24 := ⟨by decide +kernel, rfl⟩
theorem d_X8_tried_24 : zDj M_X8_tried 24 (.if_icmp .gt 11) 11 27 35 := ⟨by decide +kernel, rfl, by decide⟩
theorem d_X8_tried_27 : zDc M_X8_tried 27 (.iload_n 2) 1 28 := ⟨by decide +kernel, rfl⟩
theorem d_X8_tried_28 : zDj M_X8_tried 28 (.ifCond .ne 7) 7 31 35 := ⟨by decide +kernel, rfl, by decide⟩
theorem d_X8_tried_31 : zDc M_X8_tried 31 (.iconst 1) 1 32 := ⟨by decide +kernel, rfl⟩
theorem d_X8_tried_32 : zDj M_X8_tried 32 (.goto 4) 4 35 36 := ⟨by decide +kernel, rfl, by decide⟩
theorem d_X8_tried_35 : zDc M_X8_tried 35 (.iconst 0) 1 36 := ⟨by decide +kernel, rfl⟩
theorem d_X8_tried_36 : zDc M_X8_tried 36 (.istore 4) 2 38 := ⟨by decide +kernel, rfl⟩
theorem d_X8_tried_38 : zDc M_X8_tried 38 (.iload 4) 2 40 := ⟨by decide +kernel, rfl⟩
theorem d_X8_tried_40 : zDj M_X8_tried 40 (.ifCond .eq 13) 13 43 53 := ⟨by decide +kernel, rfl, by decide⟩
theorem d_X8_tried_43 : zDc M_X8_tried 43 (.iload_n 3) 1 44 := ⟨by decide +kernel, rfl⟩
theorem d_X8_tried_44 : zDj M_X8_tried 44 (.ifCond .lt 9) 9 47 53 := ⟨by decide +kernel, rfl, by decide⟩
theorem d_X8_tried_47 : zDc M_X8_tried 47 (.iload_n 3) 1 48 := ⟨by decide +kernel, rfl⟩
theorem d_X8_tried_48 : zDc M_X8_tried 48 (.bipush 60) 2 50 := ⟨by decide +kernel, rfl⟩
theorem d_X8_tried_50 : zDj M_X8_tried 50 (.if_icmp .le 5) 5 53 55 := ⟨by decide +kernel, rfl, by decide⟩
theorem d_X8_tried_53 : zDc M_X8_tried 53 (.iconst (-1)) 1 54 := ⟨by decide +kernel, rfl⟩
theorem d_X8_tried_54 : zDc M_X8_tried 54 (.ireturn) 1 55 := ⟨by decide +kernel, rfl⟩
theorem d_X8_tried_55 : zDc M_X8_tried 55 (.aload_n 0) 1 56 := ⟨by decide +kernel, rfl⟩
theorem d_X8_tried_56 : zDc M_X8_tried 56 (.iload_n 1) 1 57 := ⟨by decide +kernel, rfl⟩
theorem d_X8_tried_57 : zDc M_X8_tried 57 (.putfield 343) 3 60 := ⟨by decide +kernel, rfl⟩
theorem d_X8_tried_60 : zDc M_X8_tried 60 (.aload_n 0) 1 61 := ⟨by decide +kernel, rfl⟩
theorem d_X8_tried_61 : zDc M_X8_tried 61 (.iload_n 2) 1 62 := ⟨by decide +kernel, rfl⟩
theorem d_X8_tried_62 : zDc M_X8_tried 62 (.putfield 108) 3 65 := ⟨by decide +kernel, rfl⟩
theorem d_X8_tried_65 : zDc M_X8_tried 65 (.aload_n 0) 1 66 := ⟨by decide +kernel, rfl⟩
theorem d_X8_tried_66 : zDc M_X8_tried 66 (.iload_n 3) 1 67 := ⟨by decide +kernel, rfl⟩
theorem d_X8_tried_67 : zDc M_X8_tried 67 (.invokevirtual 450) 3 70 := ⟨by decide +kernel, rfl⟩
theorem d_X8_tried_70 : zDc M_X8_tried 70 (.aload_n 0) 1 71 := ⟨by decide +kernel, rfl⟩
theorem d_X8_tried_71 : zDc M_X8_tried 71 (.iconst 0) 1 72 := ⟨by decide +kernel, rfl⟩
theorem d_X8_tried_72 : zDc M_X8_tried 72 (.putfield 343) 3 75 := ⟨by decide +kernel, rfl⟩
theorem d_X8_tried_75 : zDc M_X8_tried 75 (.aload_n 0) 1 76 := ⟨by decide +kernel, rfl⟩
theorem d_X8_tried_76 : zDc M_X8_tried 76 (.iconst (-1)) 1 77 := ⟨by decide +kernel, rfl⟩
theorem d_X8_tried_77 : zDc M_X8_tried 77 (.putfield 108) 3 80 := ⟨by decide +kernel, rfl⟩
theorem d_X8_tried_80 : zDc M_X8_tried 80 (.aload_n 0) 1 81 := ⟨by decide +kernel, rfl⟩
theorem d_X8_tried_81 : zDc M_X8_tried 81 (.iconst 1) 1 82 := ⟨by decide +kernel, rfl⟩
theorem d_X8_tried_82 : zDc M_X8_tried 82 (.invokevirtual 453) 3 85 := ⟨by decide +kernel, rfl⟩
theorem d_X8_tried_85 : zDc M_X8_tried 85 (.aload_n 0) 1 86 := ⟨by decide +kernel, rfl⟩
theorem d_X8_tried_86 : zDc M_X8_tried 86 (.iconst 0) 1 87 := ⟨by decide +kernel, rfl⟩
theorem d_X8_tried_87 : zDc M_X8_tried 87 (.invokevirtual 453) 3 90 := ⟨by decide +kernel, rfl⟩
theorem d_X8_tried_90 : zDc M_X8_tried 90 (.isub) 1 91 := ⟨by decide +kernel, rfl⟩
theorem d_X8_tried_91 : zDc M_X8_tried 91 (.ireturn) 1 92 := ⟨by decide +kernel, rfl⟩
def f_X8_tried (a0 : Nat) (a1 : Int32) (a2 : Int32) (a3 : Int32) (h0 : zHp) : Option (Int32 × zHp) :=
  zob (zpV h0 a0 8 0 (.int 0)) (fun h1 =>
  zbd (α := Int32) (
  if a1 = 2 then
  zbd (zcv 8 a0 h1 (f_X8_isCloud a0 a2 h1)) (fun v3 h2 =>
  some (v3, h2))
  else
  if a1 < 0 then
  some (0, h1)
  else
  if 5 < a1 then
  some (0, h1)
  else
  if a2 = 0 then
  some (1, h1)
  else
  some (0, h1)) (fun e4 h5 =>
  if e4 = 0 then
  some ((-1), h5)
  else
  if a3 < 0 then
  some ((-1), h5)
  else
  if a3 ≤ 60 then
  zob (zpV h5 a0 8 49 (.int a1)) (fun h6 =>
  zob (zpV h6 a0 8 50 (.int a2)) (fun h7 =>
  zbd (zcv 8 a0 h7 (f_X8_runs a0 a3 h7)) (fun v9 h8 =>
  zob (zpV h8 a0 8 49 (.int 0)) (fun h10 =>
  zob (zpV h10 a0 8 50 (.int (-1))) (fun h11 =>
  zbd (zcv 8 a0 h11 (f_X8_rainAll a0 1 h11)) (fun v13 h12 =>
  zbd (zcv 8 a0 h12 (f_X8_rainAll a0 0 h12)) (fun v15 h14 =>
  some ((v13 - v15), h14))))))))
  else
  some ((-1), h5)))
set_option maxRecDepth 100000 in
set_option maxHeartbeats 4000000 in
theorem t_X8_tried (a0 : Nat) (a1 : Int32) (a2 : Int32) (a3 : Int32) (h0 : zHp) : ∀ (r : Int32) (h' : zHp), f_X8_tried a0 a1 a2 a3 h0 = some (r, h') → zCt yX8_tried (.code yX8_tried cX8_tried 5 (some .int)) 8 223 0 0 [.ref a0, .int a1, .int a2, .int a3] h0 (some (.int r)) h' := by
  refine zct_of M_X8_tried yX8_tried (by decide) rfl rfl [.ref a0, .int a1, .int a2, .int a3] h0 (Nat.le_of_ble_eq_true rfl) (fun r => some (.int r)) (fun X => ?_)
  show zG X M_X8_tried (0, 0) 0 [(0, .ref a0), (1, .int a1), (2, .int a2), (3, .int a3)] [] h0 (f_X8_tried a0 a1 a2 a3 h0) (fun (r : Int32) h' => zKe X (some (.int r)) h')
  unfold f_X8_tried
  refine zg_aload_n 0 rfl d_X8_tried_0 ?_
  refine zg_iconst 0 rfl d_X8_tried_1 ?_
  refine zg_putV d_X8_tried_2 zc_8 (by decide) fl_X8_151 rfl rfl rfl (fun h1 => ?_)
  refine zg_iload_n 1 rfl d_X8_tried_5 ?_
  refine zg_iconst 2 rfl d_X8_tried_6 ?_
  refine zg_bd (E := 36) (el := (fun (e4 : Int32) => [(0, .ref a0), (1, .int a1), (2, .int a2), (3, .int a3)])) (es := (fun (e4 : Int32) => [.int e4])) ?_ (fun e4 h5 => ?_)
  · refine zg_icmp_ne d_X8_tried_7 ?_ ?_
    · refine zg_aload_n 0 rfl d_X8_tried_10 ?_
      refine zg_iload_n 2 rfl d_X8_tried_11 ?_
      refine zg_cVi (b := a0) (As := [.int a2]) (rest := []) (0, 0) d_X8_tried_12 zc_8 rfl cw_X8_422 wi_X8_isCloud ws_X8_isCloud rfl rfl (Nat.le_of_ble_eq_true rfl) (by decide) (by decide) ⟨by decide, by decide⟩ rfl (t_X8_isCloud a0 a2 h1) (fun v3 h2 => ?_)
      refine zg_goto d_X8_tried_15 ?_
      exact zg_finK (E := 0) [0, 1, 2, 3] rfl rfl (fun q => q)
    · refine zg_iload_n 1 rfl d_X8_tried_18 ?_
      refine zg_if_lt d_X8_tried_19 ?_ ?_
      · refine zg_iconst 0 rfl d_X8_tried_35 ?_
        exact zg_finK (E := 0) [0, 1, 2, 3] rfl rfl (fun q => q)
      · refine zg_iload_n 1 rfl d_X8_tried_22 ?_
        refine zg_iconst 5 rfl d_X8_tried_23 ?_
        refine zg_icmp_gt d_X8_tried_24 ?_ ?_
        · refine zg_iconst 0 rfl d_X8_tried_35 ?_
          exact zg_finK (E := 0) [0, 1, 2, 3] rfl rfl (fun q => q)
        · refine zg_iload_n 2 rfl d_X8_tried_27 ?_
          refine zg_if_ne d_X8_tried_28 ?_ ?_
          · refine zg_iconst 1 rfl d_X8_tried_31 ?_
            refine zg_goto d_X8_tried_32 ?_
            exact zg_finK (E := 0) [0, 1, 2, 3] rfl rfl (fun q => q)
          · refine zg_iconst 0 rfl d_X8_tried_35 ?_
            exact zg_finK (E := 0) [0, 1, 2, 3] rfl rfl (fun q => q)
  · refine zg_istore [(4, .int e4), (0, .ref a0), (1, .int a1), (2, .int a2), (3, .int a3)] d_X8_tried_36 (by decide) rfl ?_
    refine zg_iload 0 rfl d_X8_tried_38 ?_
    refine zg_if_eq d_X8_tried_40 ?_ ?_
    · refine zg_iconst (-1) rfl d_X8_tried_53 ?_
      exact zg_iretK d_X8_tried_54 rfl ⟨Nat.le_of_ble_eq_true rfl, Nat.le_of_ble_eq_true rfl⟩ (fun q => q)
    · refine zg_iload_n 4 rfl d_X8_tried_43 ?_
      refine zg_if_lt d_X8_tried_44 ?_ ?_
      · refine zg_iconst (-1) rfl d_X8_tried_53 ?_
        exact zg_iretK d_X8_tried_54 rfl ⟨Nat.le_of_ble_eq_true rfl, Nat.le_of_ble_eq_true rfl⟩ (fun q => q)
      · refine zg_iload_n 4 rfl d_X8_tried_47 ?_
        refine zg_bipush 60 rfl d_X8_tried_48 ?_
        refine zg_icmp_le d_X8_tried_50 ?_ ?_
        · refine zg_aload_n 1 rfl d_X8_tried_55 ?_
          refine zg_iload_n 2 rfl d_X8_tried_56 ?_
          refine zg_putV d_X8_tried_57 zc_8 (by decide) fl_X8_343 rfl rfl rfl (fun h6 => ?_)
          refine zg_aload_n 1 rfl d_X8_tried_60 ?_
          refine zg_iload_n 3 rfl d_X8_tried_61 ?_
          refine zg_putV d_X8_tried_62 zc_8 (by decide) fl_X8_108 rfl rfl rfl (fun h7 => ?_)
          refine zg_aload_n 1 rfl d_X8_tried_65 ?_
          refine zg_iload_n 4 rfl d_X8_tried_66 ?_
          refine zg_cVv (b := a0) (As := [.int a3]) (rest := []) (0, 0) d_X8_tried_67 zc_8 rfl cw_X8_450 wi_X8_runs ws_X8_runs rfl rfl (Nat.le_of_ble_eq_true rfl) (by decide) (by decide) ⟨by decide, by decide⟩ rfl (t_X8_runs a0 a3 h7) (fun v9 h8 => ?_)
          refine zg_aload_n 1 rfl d_X8_tried_70 ?_
          refine zg_iconst 0 rfl d_X8_tried_71 ?_
          refine zg_putV d_X8_tried_72 zc_8 (by decide) fl_X8_343 rfl rfl rfl (fun h10 => ?_)
          refine zg_aload_n 1 rfl d_X8_tried_75 ?_
          refine zg_iconst (-1) rfl d_X8_tried_76 ?_
          refine zg_putV d_X8_tried_77 zc_8 (by decide) fl_X8_108 rfl rfl rfl (fun h11 => ?_)
          refine zg_aload_n 1 rfl d_X8_tried_80 ?_
          refine zg_iconst 1 rfl d_X8_tried_81 ?_
          refine zg_cVi (b := a0) (As := [.int 1]) (rest := []) (0, 0) d_X8_tried_82 zc_8 rfl cw_X8_453 wi_X8_rainAll ws_X8_rainAll rfl rfl (Nat.le_of_ble_eq_true rfl) (by decide) (by decide) ⟨by decide, by decide⟩ rfl (t_X8_rainAll a0 1 h11) (fun v13 h12 => ?_)
          refine zg_aload_n 1 rfl d_X8_tried_85 ?_
          refine zg_iconst 0 rfl d_X8_tried_86 ?_
          refine zg_cVi (b := a0) (As := [.int 0]) (rest := [.int v13]) (0, 0) d_X8_tried_87 zc_8 rfl cw_X8_453 wi_X8_rainAll ws_X8_rainAll rfl rfl (Nat.le_of_ble_eq_true rfl) (by decide) (by decide) ⟨by decide, by decide⟩ rfl (t_X8_rainAll a0 0 h12) (fun v15 h14 => ?_)
          refine zg_isub d_X8_tried_90 ?_
          exact zg_iretK d_X8_tried_91 rfl ⟨Nat.le_of_ble_eq_true rfl, Nat.le_of_ble_eq_true rfl⟩ (fun q => q)
        · refine zg_iconst (-1) rfl d_X8_tried_53 ?_
          exact zg_iretK d_X8_tried_54 rfl ⟨Nat.le_of_ble_eq_true rfl, Nat.le_of_ble_eq_true rfl⟩ (fun q => q)

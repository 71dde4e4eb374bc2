theorem ml_X8_397 : Cond.methodLink RX8 397 yX8_windIn ∈ zT := zw_of _ 1857 (by decide +kernel) (by decide +kernel)
theorem cd_X8_windIn : Cond.code yX8_windIn cX8_windIn 2 (some .int) ∈ zT := zw_of _ 1860 (by decide +kernel) (by decide +kernel)
theorem cw_X8_397 : zCw RX8 397 yX8_windIn cX8_windIn 2 (some .int) 1 := ⟨ml_X8_397, ni_X8, cd_X8_windIn, by decide, by decide, by decide +kernel⟩
theorem wi_X8_windIn : Cond.instanceMethod yX8_windIn ∈ zT := zw_of _ 1859 (by decide +kernel) (by decide +kernel)
theorem ws_X8_windIn : Cond.selects RX8 yX8_windIn yX8_windIn ∈ zT := zw_of _ 99 (by decide +kernel) (by decide +kernel)
theorem ml_X8_459 : Cond.methodLink RX8 459 yX8_howMany ∈ zT := zw_of _ 1900 (by decide +kernel) (by decide +kernel)
theorem cd_X8_howMany : Cond.code yX8_howMany cX8_howMany 5 (some .int) ∈ zT := zw_of _ 1903 (by decide +kernel) (by decide +kernel)
theorem cw_X8_459 : zCw RX8 459 yX8_howMany cX8_howMany 5 (some .int) 2 := ⟨ml_X8_459, ni_X8, cd_X8_howMany, by decide, by decide, by decide +kernel⟩
theorem wi_X8_howMany : Cond.instanceMethod yX8_howMany ∈ zT := zw_of _ 1902 (by decide +kernel) (by decide +kernel)
theorem ws_X8_howMany : Cond.selects RX8 yX8_howMany yX8_howMany ∈ zT := zw_of _ 108 (by decide +kernel) (by decide +kernel)
theorem ml_X8_453 : Cond.methodLink RX8 453 yX8_rainAll ∈ zT := zw_of _ 1892 (by decide +kernel) (by decide +kernel)
theorem cd_X8_rainAll : Cond.code yX8_rainAll cX8_rainAll 4 (some .int) ∈ zT := zw_of _ 1895 (by decide +kernel) (by decide +kernel)
theorem cw_X8_453 : zCw RX8 453 yX8_rainAll cX8_rainAll 4 (some .int) 1 := ⟨ml_X8_453, ni_X8, cd_X8_rainAll, by decide, by decide, by decide +kernel⟩
theorem wi_X8_rainAll : Cond.instanceMethod yX8_rainAll ∈ zT := zw_of _ 1894 (by decide +kernel) (by decide +kernel)
theorem ws_X8_rainAll : Cond.selects RX8 yX8_rainAll yX8_rainAll ∈ zT := zw_of _ 106 (by decide +kernel) (by decide +kernel)
theorem ml_X8_456 : Cond.methodLink RX8 456 yX8_marksAll ∈ zT := zw_of _ 1896 (by decide +kernel) (by decide +kernel)
theorem cd_X8_marksAll : Cond.code yX8_marksAll cX8_marksAll 4 (some .int) ∈ zT := zw_of _ 1899 (by decide +kernel) (by decide +kernel)
theorem cw_X8_456 : zCw RX8 456 yX8_marksAll cX8_marksAll 4 (some .int) 1 := ⟨ml_X8_456, ni_X8, cd_X8_marksAll, by decide, by decide, by decide +kernel⟩
theorem wi_X8_marksAll : Cond.instanceMethod yX8_marksAll ∈ zT := zw_of _ 1898 (by decide +kernel) (by decide +kernel)
theorem ws_X8_marksAll : Cond.selects RX8 yX8_marksAll yX8_marksAll ∈ zT := zw_of _ 107 (by decide +kernel) (by decide +kernel)
theorem ml_X8_507 : Cond.methodLink RX8 507 yX8_knownMany ∈ zT := zw_of _ 2014 (by decide +kernel) (by decide +kernel)
theorem cd_X8_knownMany : Cond.code yX8_knownMany cX8_knownMany 1 (some .int) ∈ zT := zw_of _ 2017 (by decide +kernel) (by decide +kernel)
theorem cw_X8_507 : zCw RX8 507 yX8_knownMany cX8_knownMany 1 (some .int) 0 := ⟨ml_X8_507, ni_X8, cd_X8_knownMany, by decide, by decide, by decide +kernel⟩
theorem wi_X8_knownMany : Cond.instanceMethod yX8_knownMany ∈ zT := zw_of _ 2016 (by decide +kernel) (by decide +kernel)
theorem ws_X8_knownMany : Cond.selects RX8 yX8_knownMany yX8_knownMany ∈ zT := zw_of _ 119 (by decide +kernel) (by decide +kernel)
theorem fl_X8_297 : Cond.fieldLink RX8 297 (TX8 29).1 (TX8 29).2.1 (TX8 29).2.2.1 ∈ zT := zw_of _ 1388 (by decide +kernel) (by decide +kernel)
theorem fl_X8_64 : Cond.fieldLink RX8 64 (TX8 30).1 (TX8 30).2.1 (TX8 30).2.2.1 ∈ zT := zw_of _ 1389 (by decide +kernel) (by decide +kernel)
theorem fl_X8_154 : Cond.fieldLink RX8 154 (TX8 2).1 (TX8 2).2.1 (TX8 2).2.2.1 ∈ zT := zw_of _ 1361 (by decide +kernel) (by decide +kernel)
theorem ml_X8_431 : Cond.methodLink RX8 431 yX8_isField ∈ zT := zw_of _ 1743 (by decide +kernel) (by decide +kernel)
theorem cd_X8_isField : Cond.code yX8_isField cX8_isField 2 (some .boolean) ∈ zT := zw_of _ 1746 (by decide +kernel) (by decide +kernel)
theorem cw_X8_431 : zCw RX8 431 yX8_isField cX8_isField 2 (some .boolean) 1 := ⟨ml_X8_431, ni_X8, cd_X8_isField, by decide, by decide, by decide +kernel⟩
theorem wi_X8_isField : Cond.instanceMethod yX8_isField ∈ zT := zw_of _ 1745 (by decide +kernel) (by decide +kernel)
theorem ws_X8_isField : Cond.selects RX8 yX8_isField yX8_isField ∈ zT := zw_of _ 84 (by decide +kernel) (by decide +kernel)
theorem fl_X8_22 : Cond.fieldLink RX8 22 (TX8 6).1 (TX8 6).2.1 (TX8 6).2.2.1 ∈ zT := zw_of _ 1365 (by decide +kernel) (by decide +kernel)
theorem fl_X8_25 : Cond.fieldLink RX8 25 (TX8 7).1 (TX8 7).2.1 (TX8 7).2.2.1 ∈ zT := zw_of _ 1366 (by decide +kernel) (by decide +kernel)
theorem fl_X8_145 : Cond.fieldLink RX8 145 (TX8 67).1 (TX8 67).2.1 (TX8 67).2.2.1 ∈ zT := zw_of _ 1426 (by decide +kernel) (by decide +kernel)
theorem fl_X8_142 : Cond.fieldLink RX8 142 (TX8 66).1 (TX8 66).2.1 (TX8 66).2.2.1 ∈ zT := zw_of _ 1425 (by decide +kernel) (by decide +kernel)
theorem fl_X8_132 : Cond.fieldLink RX8 132 (TX8 63).1 (TX8 63).2.1 (TX8 63).2.2.1 ∈ zT := zw_of _ 1422 (by decide +kernel) (by decide +kernel)
theorem fl_X8_135 : Cond.fieldLink RX8 135 (TX8 64).1 (TX8 64).2.1 (TX8 64).2.2.1 ∈ zT := zw_of _ 1423 (by decide +kernel) (by decide +kernel)
theorem ml_X8_434 : Cond.methodLink RX8 434 yX8_upIn ∈ zT := zw_of _ 1771 (by decide +kernel) (by decide +kernel)
theorem cd_X8_upIn : Cond.code yX8_upIn cX8_upIn 5 (some .int) ∈ zT := zw_of _ 1774 (by decide +kernel) (by decide +kernel)
theorem cw_X8_434 : zCw RX8 434 yX8_upIn cX8_upIn 5 (some .int) 2 := ⟨ml_X8_434, ni_X8, cd_X8_upIn, by decide, by decide, by decide +kernel⟩
theorem wi_X8_upIn : Cond.instanceMethod yX8_upIn ∈ zT := zw_of _ 1773 (by decide +kernel) (by decide +kernel)
theorem ws_X8_upIn : Cond.selects RX8 yX8_upIn yX8_upIn ∈ zT := zw_of _ 86 (by decide +kernel) (by decide +kernel)
theorem fl_X8_138 : Cond.fieldLink RX8 138 (TX8 65).1 (TX8 65).2.1 (TX8 65).2.2.1 ∈ zT := zw_of _ 1424 (by decide +kernel) (by decide +kernel)
abbrev M_X8_count : zMt := (RX8, cX8_count, 2, 3, 105, (some .int), "count", 0, 0)
theorem d_X8_count_0 : zDc M_X8_count 0 (.aload_n 0) 1 1 := ⟨by decide +kernel, rfl⟩
theorem d_X8_count_1 : zDc M_X8_count 1 (.iconst 0) 1 2 := ⟨by decide +kernel, rfl⟩
theorem d_X8_count_2 : zDc M_X8_count 2 (.putfield 151) 3 5 := ⟨by decide +kernel, rfl⟩
theorem d_X8_count_5 : zDc M_X8_count 5 (.iload_n 1) 1 6 := ⟨by decide +kernel, rfl⟩
theorem d_X8_count_6 : decode M_X8_count.2.1 6 = .ok (.tableswitch 170 0 14 #[74, 81, 88, 95, 102, 110, 117, 123, 129, 136, 143, 149, 155, 160, 165], 74) := by decide +kernel
theorem d_X8_count_80 : zDc M_X8_count 80 (.aload_n 0) 1 81 := ⟨by decide +kernel, rfl⟩
theorem d_X8_count_81 : zDc M_X8_count 81 (.getfield 13) 3 84 := ⟨by decide +kernel, rfl⟩
theorem d_X8_count_84 : zDc M_X8_count 84 (.iconst 0) 1 85 := ⟨by decide +kernel, rfl⟩
theorem d_X8_count_85 : zDc M_X8_count 85 (.iaload) 1 86 := ⟨by decide +kernel, rfl⟩
theorem d_X8_count_86 : zDc M_X8_count 86 (.ireturn) 1 87 := ⟨by decide +kernel, rfl⟩
theorem d_X8_count_87 : zDc M_X8_count 87 (.aload_n 0) 1 88 := ⟨by decide +kernel, rfl⟩
theorem d_X8_count_88 : zDc M_X8_count 88 (.getfield 13) 3 91 := ⟨by decide +kernel, rfl⟩
theorem d_X8_count_91 : zDc M_X8_count 91 (.iconst 1) 1 92 := ⟨by decide +kernel, rfl⟩
theorem d_X8_count_92 : zDc M_X8_count 92 (.iaload) 1 93 := ⟨by decide +kernel, rfl⟩
theorem d_X8_count_93 : zDc M_X8_count 93 (.ireturn) 1 94 := ⟨by decide +kernel, rfl⟩
theorem d_X8_count_94 : zDc M_X8_count 94 (.aload_n 0) 1 95 := ⟨by decide +kernel, rfl⟩
theorem d_X8_count_95 : zDc M_X8_count 95 (.getfield 13) 3 98 := ⟨by decide +kernel, rfl⟩
theorem d_X8_count_98 : zDc M_X8_count 98 (.iconst 2) 1 99 := ⟨by decide +kernel, rfl⟩
theorem d_X8_count_99 : zDc M_X8_count 99 (.iaload) 1 100 := ⟨by decide +kernel, rfl⟩
theorem d_X8_count_100 : zDc M_X8_count 100 (.ireturn) 1 101 := ⟨by decide +kernel, rfl⟩
theorem d_X8_count_101 : zDc M_X8_count 101 (.aload_n 0) 1 102 := ⟨by decide +kernel, rfl⟩
theorem d_X8_count_102 : zDc M_X8_count 102 (.getfield 13) 3 105 := ⟨by decide +kernel, rfl⟩
theorem d_X8_count_105 : zDc M_X8_count 105 (.iconst 3) 1 106 := ⟨by decide +kernel, rfl⟩
theorem d_X8_count_106 : zDc M_X8_count 106 (.iaload) 1 107 := ⟨by decide +kernel, rfl⟩
theorem d_X8_count_107 : zDc M_X8_count 107 (.ireturn) 1 108 := ⟨by decide +kernel, rfl⟩
theorem d_X8_count_108 : zDc M_X8_count 108 (.aload_n 0) 1 109 := ⟨by decide +kernel, rfl⟩
theorem d_X8_count_109 : zDc M_X8_count 109 (.getfield 13) 3 112 := ⟨by decide +kernel, rfl⟩
theorem d_X8_count_112 : zDc M_X8_count 112 (.bipush 7) 2 114 := ⟨by decide +kernel, rfl⟩
theorem d_X8_count_114 : zDc M_X8_count 114 (.iaload) 1 115 := ⟨by decide +kernel, rfl⟩
theorem d_X8_count_115 : zDc M_X8_count 115 (.ireturn) 1 116 := ⟨by decide +kernel, rfl⟩
theorem d_X8_count_116 : zDc M_X8_count 116 (.aload_n 0) 1 117 := ⟨by decide +kernel, rfl⟩
theorem d_X8_count_117 : zDc M_X8_count 117 (.getfield 75) 3 120 := ⟨by decide +kernel, rfl⟩
theorem d_X8_count_120 : zDc M_X8_count 120 (.iconst 0) 1 121 := ⟨by decide +kernel, rfl⟩
theorem d_X8_count_121 : zDc M_X8_count 121 (.iaload) 1 122 := ⟨by decide +kernel, rfl⟩
theorem d_X8_count_122 : zDc M_X8_count 122 (.ireturn) 1 123 := ⟨by decide +kernel, rfl⟩
theorem d_X8_count_123 : zDc M_X8_count 123 (.aload_n 0) 1 124 := ⟨by decide +kernel, rfl⟩
theorem d_X8_count_124 : zDc M_X8_count 124 (.iconst 0) 1 125 := ⟨by decide +kernel, rfl⟩
theorem d_X8_count_125 : zDc M_X8_count 125 (.invokevirtual 397) 3 128 := ⟨by decide +kernel, rfl⟩
theorem d_X8_count_128 : zDc M_X8_count 128 (.ireturn) 1 129 := ⟨by decide +kernel, rfl⟩
theorem d_X8_count_129 : zDc M_X8_count 129 (.aload_n 0) 1 130 := ⟨by decide +kernel, rfl⟩
theorem d_X8_count_130 : zDc M_X8_count 130 (.iconst 0) 1 131 := ⟨by decide +kernel, rfl⟩
theorem d_X8_count_131 : zDc M_X8_count 131 (.invokevirtual 363) 3 134 := ⟨by decide +kernel, rfl⟩
theorem d_X8_count_134 : zDc M_X8_count 134 (.ireturn) 1 135 := ⟨by decide +kernel, rfl⟩
theorem d_X8_count_135 : zDc M_X8_count 135 (.aload_n 0) 1 136 := ⟨by decide +kernel, rfl⟩
theorem d_X8_count_136 : zDc M_X8_count 136 (.iconst 0) 1 137 := ⟨by decide +kernel, rfl⟩
theorem d_X8_count_137 : zDc M_X8_count 137 (.iconst 0) 1 138 := ⟨by decide +kernel, rfl⟩
theorem d_X8_count_138 : zDc M_X8_count 138 (.invokevirtual 459) 3 141 := ⟨by decide +kernel, rfl⟩
theorem d_X8_count_141 : zDc M_X8_count 141 (.ireturn) 1 142 := ⟨by decide +kernel, rfl⟩
theorem d_X8_count_142 : zDc M_X8_count 142 (.aload_n 0) 1 143 := ⟨by decide +kernel, rfl⟩
theorem d_X8_count_143 : zDc M_X8_count 143 (.iconst 0) 1 144 := ⟨by decide +kernel, rfl⟩
theorem d_X8_count_144 : zDc M_X8_count 144 (.iconst 2) 1 145 := ⟨by decide +kernel, rfl⟩
theorem d_X8_count_145 : zDc M_X8_count 145 (.invokevirtual 459) 3 148 := ⟨by decide +kernel, rfl⟩
theorem d_X8_count_148 : zDc M_X8_count 148 (.ireturn) 1 149 := ⟨by decide +kernel, rfl⟩
theorem d_X8_count_149 : zDc M_X8_count 149 (.aload_n 0) 1 150 := ⟨by decide +kernel, rfl⟩
theorem d_X8_count_150 : zDc M_X8_count 150 (.iconst 0) 1 151 := ⟨by decide +kernel, rfl⟩
theorem d_X8_count_151 : zDc M_X8_count 151 (.invokevirtual 453) 3 154 := ⟨by decide +kernel, rfl⟩
theorem d_X8_count_154 : zDc M_X8_count 154 (.ireturn) 1 155 := ⟨by decide +kernel, rfl⟩
theorem d_X8_count_155 : zDc M_X8_count 155 (.aload_n 0) 1 156 := ⟨by decide +kernel, rfl⟩
theorem d_X8_count_156 : zDc M_X8_count 156 (.iconst 0) 1 157 := ⟨by decide +kernel, rfl⟩
theorem d_X8_count_157 : zDc M_X8_count 157 (.invokevirtual 456) 3 160 := ⟨by decide +kernel, rfl⟩
theorem d_X8_count_160 : zDc M_X8_count 160 (.ireturn) 1 161 := ⟨by decide +kernel, rfl⟩
theorem d_X8_count_161 : zDc M_X8_count 161 (.aload_n 0) 1 162 := ⟨by decide +kernel, rfl⟩
theorem d_X8_count_162 : zDc M_X8_count 162 (.getfield 304) 3 165 := ⟨by decide +kernel, rfl⟩
theorem d_X8_count_165 : zDc M_X8_count 165 (.ireturn) 1 166 := ⟨by decide +kernel, rfl⟩
theorem d_X8_count_166 : zDc M_X8_count 166 (.aload_n 0) 1 167 := ⟨by decide +kernel, rfl⟩
theorem d_X8_count_167 : zDc M_X8_count 167 (.invokevirtual 507) 3 170 := ⟨by decide +kernel, rfl⟩
theorem d_X8_count_170 : zDc M_X8_count 170 (.ireturn) 1 171 := ⟨by decide +kernel, rfl⟩
theorem d_X8_count_171 : zDc M_X8_count 171 (.aload_n 0) 1 172 := ⟨by decide +kernel, rfl⟩
theorem d_X8_count_172 : zDc M_X8_count 172 (.getfield 311) 3 175 := ⟨by decide +kernel, rfl⟩
theorem d_X8_count_175 : zDc M_X8_count 175 (.ireturn) 1 176 := ⟨by decide +kernel, rfl⟩
theorem d_X8_count_176 : zDc M_X8_count 176 (.iconst (-1)) 1 177 := ⟨by decide +kernel, rfl⟩
theorem d_X8_count_177 : zDc M_X8_count 177 (.ireturn) 1 178 := ⟨by decide +kernel, rfl⟩
def f_X8_count (a0 : Nat) (a1 : Int32) (h0 : zHp) : Option (Int32 × zHp) :=
  zob (zpV h0 a0 8 0 (.int 0)) (fun h1 =>
  if a1 = 0 then
  zob (zgR h1 a0 8 3) (fun v2 =>
  zob (zaI 0 h1 v2 0) (fun v3 =>
  some (v3, h1)))
  else if a1 = 1 then
  zob (zgR h1 a0 8 3) (fun v4 =>
  zob (zaI 0 h1 v4 1) (fun v5 =>
  some (v5, h1)))
  else if a1 = 2 then
  zob (zgR h1 a0 8 3) (fun v6 =>
  zob (zaI 0 h1 v6 2) (fun v7 =>
  some (v7, h1)))
  else if a1 = 3 then
  zob (zgR h1 a0 8 3) (fun v8 =>
  zob (zaI 0 h1 v8 3) (fun v9 =>
  some (v9, h1)))
  else if a1 = 4 then
  zob (zgR h1 a0 8 3) (fun v10 =>
  zob (zaI 0 h1 v10 7) (fun v11 =>
  some (v11, h1)))
  else if a1 = 5 then
  zob (zgR h1 a0 8 36) (fun v12 =>
  zob (zaI 0 h1 v12 0) (fun v13 =>
  some (v13, h1)))
  else if a1 = 6 then
  zbd (zcv 8 a0 h1 (f_X8_windIn a0 0 h1)) (fun v15 h14 =>
  some (v15, h14))
  else if a1 = 7 then
  zbd (zcv 8 a0 h1 (f_X8_upMany a0 0 h1)) (fun v17 h16 =>
  some (v17, h16))
  else if a1 = 8 then
  zbd (zcv 8 a0 h1 (f_X8_howMany a0 0 0 h1)) (fun v19 h18 =>
  some (v19, h18))
  else if a1 = 9 then
  zbd (zcv 8 a0 h1 (f_X8_howMany a0 0 2 h1)) (fun v21 h20 =>
  some (v21, h20))
  else if a1 = 10 then
  zbd (zcv 8 a0 h1 (f_X8_rainAll a0 0 h1)) (fun v23 h22 =>
  some (v23, h22))
  else if a1 = 11 then
  zbd (zcv 8 a0 h1 (f_X8_marksAll a0 0 h1)) (fun v25 h24 =>
  some (v25, h24))
  else if a1 = 12 then
  zob (zgI h1 a0 8 61) (fun v26 =>
  some (v26, h1))
  else if a1 = 13 then
  zbd (zcv 8 a0 h1 (f_X8_knownMany a0 h1)) (fun v28 h27 =>
  some (v28, h27))
  else if a1 = 14 then
  zob (zgI h1 a0 8 48) (fun v29 =>
  some (v29, h1))
  else 
  some ((-1), h1))
set_option maxRecDepth 100000 in
set_option maxHeartbeats 4000000 in
theorem t_X8_count (a0 : Nat) (a1 : Int32) (h0 : zHp) : ∀ (r : Int32) (h' : zHp), f_X8_count a0 a1 h0 = some (r, h') → zCt yX8_count (.code yX8_count cX8_count 2 (some .int)) 3 105 0 0 [.ref a0, .int a1] h0 (some (.int r)) h' := by
  refine zct_of M_X8_count yX8_count (by decide) rfl rfl [.ref a0, .int a1] h0 (Nat.le_of_ble_eq_true rfl) (fun r => some (.int r)) (fun X => ?_)
  show zG X M_X8_count (0, 0) 0 [(0, .ref a0), (1, .int a1)] [] h0 (f_X8_count a0 a1 h0) (fun (r : Int32) h' => zKe X (some (.int r)) h')
  unfold f_X8_count
  refine zg_aload_n 0 rfl d_X8_count_0 ?_
  refine zg_iconst 0 rfl d_X8_count_1 ?_
  refine zg_putV d_X8_count_2 zc_8 (by decide) fl_X8_151 rfl rfl rfl (fun h1 => ?_)
  refine zg_iload_n 1 rfl d_X8_count_5 ?_
  refine zg_if (fun n30 => ?_) (fun n30 => ?_)
  · refine zg_tabE n30 d_X8_count_6 (by decide) (by decide) (off := 74) rfl (tgt := 80) (by decide) ?_
    refine zg_aload_n 0 rfl d_X8_count_80 ?_
    refine zg_getR d_X8_count_81 zc_8 (by decide) fl_X8_13 (fun v2 => ?_)
    refine zg_iconst 0 rfl d_X8_count_84 ?_
    refine zg_ald0 d_X8_count_85 (fun v3 => ?_)
    exact zg_iretK d_X8_count_86 rfl ⟨Nat.le_of_ble_eq_true rfl, Nat.le_of_ble_eq_true rfl⟩ (fun q => q)
  refine zg_if (fun n31 => ?_) (fun n31 => ?_)
  · refine zg_tabE n31 d_X8_count_6 (by decide) (by decide) (off := 81) rfl (tgt := 87) (by decide) ?_
    refine zg_aload_n 0 rfl d_X8_count_87 ?_
    refine zg_getR d_X8_count_88 zc_8 (by decide) fl_X8_13 (fun v4 => ?_)
    refine zg_iconst 1 rfl d_X8_count_91 ?_
    refine zg_ald0 d_X8_count_92 (fun v5 => ?_)
    exact zg_iretK d_X8_count_93 rfl ⟨Nat.le_of_ble_eq_true rfl, Nat.le_of_ble_eq_true rfl⟩ (fun q => q)
  refine zg_if (fun n32 => ?_) (fun n32 => ?_)
  · refine zg_tabE n32 d_X8_count_6 (by decide) (by decide) (off := 88) rfl (tgt := 94) (by decide) ?_
    refine zg_aload_n 0 rfl d_X8_count_94 ?_
    refine zg_getR d_X8_count_95 zc_8 (by decide) fl_X8_13 (fun v6 => ?_)
    refine zg_iconst 2 rfl d_X8_count_98 ?_
    refine zg_ald0 d_X8_count_99 (fun v7 => ?_)
    exact zg_iretK d_X8_count_100 rfl ⟨Nat.le_of_ble_eq_true rfl, Nat.le_of_ble_eq_true rfl⟩ (fun q => q)
  refine zg_if (fun n33 => ?_) (fun n33 => ?_)
  · refine zg_tabE n33 d_X8_count_6 (by decide) (by decide) (off := 95) rfl (tgt := 101) (by decide) ?_
    refine zg_aload_n 0 rfl d_X8_count_101 ?_
    refine zg_getR d_X8_count_102 zc_8 (by decide) fl_X8_13 (fun v8 => ?_)
    refine zg_iconst 3 rfl d_X8_count_105 ?_
    refine zg_ald0 d_X8_count_106 (fun v9 => ?_)
    exact zg_iretK d_X8_count_107 rfl ⟨Nat.le_of_ble_eq_true rfl, Nat.le_of_ble_eq_true rfl⟩ (fun q => q)
  refine zg_if (fun n34 => ?_) (fun n34 => ?_)
  · refine zg_tabE n34 d_X8_count_6 (by decide) (by decide) (off := 102) rfl (tgt := 108) (by decide) ?_
    refine zg_aload_n 0 rfl d_X8_count_108 ?_
    refine zg_getR d_X8_count_109 zc_8 (by decide) fl_X8_13 (fun v10 => ?_)
    refine zg_bipush 7 rfl d_X8_count_112 ?_
    refine zg_ald0 d_X8_count_114 (fun v11 => ?_)
    exact zg_iretK d_X8_count_115 rfl ⟨Nat.le_of_ble_eq_true rfl, Nat.le_of_ble_eq_true rfl⟩ (fun q => q)
  refine zg_if (fun n35 => ?_) (fun n35 => ?_)
  · refine zg_tabE n35 d_X8_count_6 (by decide) (by decide) (off := 110) rfl (tgt := 116) (by decide) ?_
    refine zg_aload_n 0 rfl d_X8_count_116 ?_
    refine zg_getR d_X8_count_117 zc_8 (by decide) fl_X8_75 (fun v12 => ?_)
    refine zg_iconst 0 rfl d_X8_count_120 ?_
    refine zg_ald0 d_X8_count_121 (fun v13 => ?_)
    exact zg_iretK d_X8_count_122 rfl ⟨Nat.le_of_ble_eq_true rfl, Nat.le_of_ble_eq_true rfl⟩ (fun q => q)
  refine zg_if (fun n36 => ?_) (fun n36 => ?_)
  · refine zg_tabE n36 d_X8_count_6 (by decide) (by decide) (off := 117) rfl (tgt := 123) (by decide) ?_
    refine zg_aload_n 0 rfl d_X8_count_123 ?_
    refine zg_iconst 0 rfl d_X8_count_124 ?_
    refine zg_cVi (b := a0) (As := [.int 0]) (rest := []) (0, 0) d_X8_count_125 zc_8 rfl cw_X8_397 wi_X8_windIn ws_X8_windIn rfl rfl (Nat.le_of_ble_eq_true rfl) (by decide) (by decide) ⟨by decide, by decide⟩ rfl (t_X8_windIn a0 0 h1) (fun v15 h14 => ?_)
    exact zg_iretK d_X8_count_128 rfl ⟨Nat.le_of_ble_eq_true rfl, Nat.le_of_ble_eq_true rfl⟩ (fun q => q)
  refine zg_if (fun n37 => ?_) (fun n37 => ?_)
  · refine zg_tabE n37 d_X8_count_6 (by decide) (by decide) (off := 123) rfl (tgt := 129) (by decide) ?_
    refine zg_aload_n 0 rfl d_X8_count_129 ?_
    refine zg_iconst 0 rfl d_X8_count_130 ?_
    refine zg_cVi (b := a0) (As := [.int 0]) (rest := []) (0, 0) d_X8_count_131 zc_8 rfl cw_X8_363 wi_X8_upMany ws_X8_upMany rfl rfl (Nat.le_of_ble_eq_true rfl) (by decide) (by decide) ⟨by decide, by decide⟩ rfl (t_X8_upMany a0 0 h1) (fun v17 h16 => ?_)
    exact zg_iretK d_X8_count_134 rfl ⟨Nat.le_of_ble_eq_true rfl, Nat.le_of_ble_eq_true rfl⟩ (fun q => q)
  refine zg_if (fun n38 => ?_) (fun n38 => ?_)
  · refine zg_tabE n38 d_X8_count_6 (by decide) (by decide) (off := 129) rfl (tgt := 135) (by decide) ?_
    refine zg_aload_n 0 rfl d_X8_count_135 ?_
    refine zg_iconst 0 rfl d_X8_count_136 ?_
    refine zg_iconst 0 rfl d_X8_count_137 ?_
    refine zg_cVi (b := a0) (As := [.int 0, .int 0]) (rest := []) (0, 0) d_X8_count_138 zc_8 rfl cw_X8_459 wi_X8_howMany ws_X8_howMany rfl rfl (Nat.le_of_ble_eq_true rfl) (by decide) (by decide) ⟨by decide, by decide⟩ rfl (t_X8_howMany a0 0 0 h1) (fun v19 h18 => ?_)
    exact zg_iretK d_X8_count_141 rfl ⟨Nat.le_of_ble_eq_true rfl, Nat.le_of_ble_eq_true rfl⟩ (fun q => q)
  refine zg_if (fun n39 => ?_) (fun n39 => ?_)
  · refine zg_tabE n39 d_X8_count_6 (by decide) (by decide) (off := 136) rfl (tgt := 142) (by decide) ?_
    refine zg_aload_n 0 rfl d_X8_count_142 ?_
    refine zg_iconst 0 rfl d_X8_count_143 ?_
    refine zg_iconst 2 rfl d_X8_count_144 ?_
    refine zg_cVi (b := a0) (As := [.int 0, .int 2]) (rest := []) (0, 0) d_X8_count_145 zc_8 rfl cw_X8_459 wi_X8_howMany ws_X8_howMany rfl rfl (Nat.le_of_ble_eq_true rfl) (by decide) (by decide) ⟨by decide, by decide⟩ rfl (t_X8_howMany a0 0 2 h1) (fun v21 h20 => ?_)
    exact zg_iretK d_X8_count_148 rfl ⟨Nat.le_of_ble_eq_true rfl, Nat.le_of_ble_eq_true rfl⟩ (fun q => q)
  refine zg_if (fun n40 => ?_) (fun n40 => ?_)
  · refine zg_tabE n40 d_X8_count_6 (by decide) (by decide) (off := 143) rfl (tgt := 149) (by decide) ?_
    refine zg_aload_n 0 rfl d_X8_count_149 ?_
    refine zg_iconst 0 rfl d_X8_count_150 ?_
    refine zg_cVi (b := a0) (As := [.int 0]) (rest := []) (0, 0) d_X8_count_151 zc_8 rfl cw_X8_453 wi_X8_rainAll ws_X8_rainAll rfl rfl (Nat.le_of_ble_eq_true rfl) (by decide) (by decide) ⟨by decide, by decide⟩ rfl (t_X8_rainAll a0 0 h1) (fun v23 h22 => ?_)
    exact zg_iretK d_X8_count_154 rfl ⟨Nat.le_of_ble_eq_true rfl, Nat.le_of_ble_eq_true rfl⟩ (fun q => q)
  refine zg_if (fun n41 => ?_) (fun n41 => ?_)
  · refine zg_tabE n41 d_X8_count_6 (by decide) (by decide) (off := 149) rfl (tgt := 155) (by decide) ?_
    refine zg_aload_n 0 rfl d_X8_count_155 ?_
    refine zg_iconst 0 rfl d_X8_count_156 ?_
    refine zg_cVi (b := a0) (As := [.int 0]) (rest := []) (0, 0) d_X8_count_157 zc_8 rfl cw_X8_456 wi_X8_marksAll ws_X8_marksAll rfl rfl (Nat.le_of_ble_eq_true rfl) (by decide) (by decide) ⟨by decide, by decide⟩ rfl (t_X8_marksAll a0 0 h1) (fun v25 h24 => ?_)
    exact zg_iretK d_X8_count_160 rfl ⟨Nat.le_of_ble_eq_true rfl, Nat.le_of_ble_eq_true rfl⟩ (fun q => q)
  refine zg_if (fun n42 => ?_) (fun n42 => ?_)
  · refine zg_tabE n42 d_X8_count_6 (by decide) (by decide) (off := 155) rfl (tgt := 161) (by decide) ?_
    refine zg_aload_n 0 rfl d_X8_count_161 ?_
    refine zg_getI d_X8_count_162 zc_8 (by decide) fl_X8_304 (fun v26 => ?_)
    exact zg_iretK d_X8_count_165 rfl ⟨Nat.le_of_ble_eq_true rfl, Nat.le_of_ble_eq_true rfl⟩ (fun q => q)
  refine zg_if (fun n43 => ?_) (fun n43 => ?_)
  · refine zg_tabE n43 d_X8_count_6 (by decide) (by decide) (off := 160) rfl (tgt := 166) (by decide) ?_
    refine zg_aload_n 0 rfl d_X8_count_166 ?_
    refine zg_cVi (b := a0) (As := []) (rest := []) (0, 0) d_X8_count_167 zc_8 rfl cw_X8_507 wi_X8_knownMany ws_X8_knownMany rfl rfl (Nat.le_of_ble_eq_true rfl) (by decide) (by decide) ⟨by decide, by decide⟩ rfl (t_X8_knownMany a0 h1) (fun v28 h27 => ?_)
    exact zg_iretK d_X8_count_170 rfl ⟨Nat.le_of_ble_eq_true rfl, Nat.le_of_ble_eq_true rfl⟩ (fun q => q)
  refine zg_if (fun n44 => ?_) (fun n44 => ?_)
  · refine zg_tabE n44 d_X8_count_6 (by decide) (by decide) (off := 165) rfl (tgt := 171) (by decide) ?_
    refine zg_aload_n 0 rfl d_X8_count_171 ?_
    refine zg_getI d_X8_count_172 zc_8 (by decide) fl_X8_311 (fun v29 => ?_)
    exact zg_iretK d_X8_count_175 rfl ⟨Nat.le_of_ble_eq_true rfl, Nat.le_of_ble_eq_true rfl⟩ (fun q => q)
  refine zg_tabO d_X8_count_6 (by have q0 := lv_neT n30 (a := 0) rfl; have q1 := lv_neT n31 (a := 1) rfl; have q2 := lv_neT n32 (a := 2) rfl; have q3 := lv_neT n33 (a := 3) rfl; have q4 := lv_neT n34 (a := 4) rfl; have q5 := lv_neT n35 (a := 5) rfl; have q6 := lv_neT n36 (a := 6) rfl; have q7 := lv_neT n37 (a := 7) rfl; have q8 := lv_neT n38 (a := 8) rfl; have q9 := lv_neT n39 (a := 9) rfl; have q10 := lv_neT n40 (a := 10) rfl; have q11 := lv_neT n41 (a := 11) rfl; have q12 := lv_neT n42 (a := 12) rfl; have q13 := lv_neT n43 (a := 13) rfl; have q14 := lv_neT n44 (a := 14) rfl; omega) (tgt := 176) (by decide) ?_
  refine zg_iconst (-1) rfl d_X8_count_176 ?_
  exact zg_iretK d_X8_count_177 rfl ⟨Nat.le_of_ble_eq_true rfl, Nat.le_of_ble_eq_true rfl⟩ (fun q => q)
abbrev M_X8_fault : zMt := (RX8, cX8_fault, 2, 1, 60, (some .int), "fault", 0, 0)
theorem d_X8_fault_0 : zDc M_X8_fault 0 (.aload_n 0) 1 1 := ⟨by decide +kernel, rfl⟩
theorem d_X8_fault_1 : zDc M_X8_fault 1 (.iconst 0) 1 2 := ⟨by decide +kernel, rfl⟩
theorem d_X8_fault_2 : zDc M_X8_fault 2 (.putfield 151) 3 5 := ⟨by decide +kernel, rfl⟩
theorem d_X8_fault_5 : zDc M_X8_fault 5 (.iload_n 1) 1 6 := ⟨by decide +kernel, rfl⟩
theorem d_X8_fault_6 : zDj M_X8_fault 6 (.ifCond .ne 10) 10 9 16 := ⟨by decide +kernel, rfl, by decide⟩
theorem d_X8_fault_9 : zDc M_X8_fault 9 (.aload_n 0) 1 10 := ⟨by decide +kernel, rfl⟩
theorem d_X8_fault_10 : zDc M_X8_fault 10 (.getfield 297) 3 13 := ⟨by decide +kernel, rfl⟩
theorem d_X8_fault_13 : zDj M_X8_fault 13 (.goto 16) 16 16 29 := ⟨by decide +kernel, rfl, by decide⟩
theorem d_X8_fault_16 : zDc M_X8_fault 16 (.iload_n 1) 1 17 := ⟨by decide +kernel, rfl⟩
theorem d_X8_fault_17 : zDc M_X8_fault 17 (.iconst 1) 1 18 := ⟨by decide +kernel, rfl⟩
theorem d_X8_fault_18 : zDj M_X8_fault 18 (.if_icmp .ne 10) 10 21 28 := ⟨by decide +kernel, rfl, by decide⟩
theorem d_X8_fault_21 : zDc M_X8_fault 21 (.aload_n 0) 1 22 := ⟨by decide +kernel, rfl⟩
theorem d_X8_fault_22 : zDc M_X8_fault 22 (.getfield 64) 3 25 := ⟨by decide +kernel, rfl⟩
theorem d_X8_fault_25 : zDj M_X8_fault 25 (.goto 4) 4 28 29 := ⟨by decide +kernel, rfl, by decide⟩
theorem d_X8_fault_28 : zDc M_X8_fault 28 (.iconst (-1)) 1 29 := ⟨by decide +kernel, rfl⟩
theorem d_X8_fault_29 : zDc M_X8_fault 29 (.ireturn) 1 30 := ⟨by decide +kernel, rfl⟩
def f_X8_fault (a0 : Nat) (a1 : Int32) (h0 : zHp) : Option (Int32 × zHp) :=
  zob (zpV h0 a0 8 0 (.int 0)) (fun h1 =>
  if a1 = 0 then
  zob (zgI h1 a0 8 29) (fun v2 =>
  some (v2, h1))
  else
  if a1 = 1 then
  zob (zgI h1 a0 8 30) (fun v3 =>
  some (v3, h1))
  else
  some ((-1), h1))
set_option maxRecDepth 100000 in
set_option maxHeartbeats 4000000 in
theorem t_X8_fault (a0 : Nat) (a1 : Int32) (h0 : zHp) : ∀ (r : Int32) (h' : zHp), f_X8_fault a0 a1 h0 = some (r, h') → zCt yX8_fault (.code yX8_fault cX8_fault 2 (some .int)) 1 60 0 0 [.ref a0, .int a1] h0 (some (.int r)) h' := by
  refine zct_of M_X8_fault yX8_fault (by decide) rfl rfl [.ref a0, .int a1] h0 (Nat.le_of_ble_eq_true rfl) (fun r => some (.int r)) (fun X => ?_)
  show zG X M_X8_fault (0, 0) 0 [(0, .ref a0), (1, .int a1)] [] h0 (f_X8_fault a0 a1 h0) (fun (r : Int32) h' => zKe X (some (.int r)) h')
  unfold f_X8_fault
  refine zg_aload_n 0 rfl d_X8_fault_0 ?_
  refine zg_iconst 0 rfl d_X8_fault_1 ?_
  refine zg_putV d_X8_fault_2 zc_8 (by decide) fl_X8_151 rfl rfl rfl (fun h1 => ?_)
  refine zg_iload_n 1 rfl d_X8_fault_5 ?_
  refine zg_if_ne d_X8_fault_6 ?_ ?_
  · refine zg_aload_n 0 rfl d_X8_fault_9 ?_
    refine zg_getI d_X8_fault_10 zc_8 (by decide) fl_X8_297 (fun v2 => ?_)
    refine zg_goto d_X8_fault_13 ?_
    exact zg_iretK d_X8_fault_29 rfl ⟨Nat.le_of_ble_eq_true rfl, Nat.le_of_ble_eq_true rfl⟩ (fun q => q)
  · refine zg_iload_n 1 rfl d_X8_fault_16 ?_
    refine zg_iconst 1 rfl d_X8_fault_17 ?_
    refine zg_icmp_ne d_X8_fault_18 ?_ ?_
    · refine zg_aload_n 0 rfl d_X8_fault_21 ?_
      refine zg_getI d_X8_fault_22 zc_8 (by decide) fl_X8_64 (fun v3 => ?_)
      refine zg_goto d_X8_fault_25 ?_
      exact zg_iretK d_X8_fault_29 rfl ⟨Nat.le_of_ble_eq_true rfl, Nat.le_of_ble_eq_true rfl⟩ (fun q => q)
    · refine zg_iconst (-1) rfl d_X8_fault_28 ?_
      exact zg_iretK d_X8_fault_29 rfl ⟨Nat.le_of_ble_eq_true rfl, Nat.le_of_ble_eq_true rfl⟩ (fun q => q)
abbrev M_X8_feed : zMt := (RX8, cX8_feed, 8, 1, 60, (some .int), "feed", 0, 0)
theorem d_X8_feed_0 : zDc M_X8_feed 0 (.aload_n 0) 1 1 := ⟨by decide +kernel, rfl⟩
theorem d_X8_feed_1 : zDc M_X8_feed 1 (.iconst 0) 1 2 := ⟨by decide +kernel, rfl⟩
theorem d_X8_feed_2 : zDc M_X8_feed 2 (.putfield 151) 3 5 := ⟨by decide +kernel, rfl⟩
theorem d_X8_feed_5 : zDc M_X8_feed 5 (.aload_n 0) 1 6 := ⟨by decide +kernel, rfl⟩
theorem d_X8_feed_6 : zDc M_X8_feed 6 (.getfield 154) 3 9 := ⟨by decide +kernel, rfl⟩
theorem d_X8_feed_9 : zDc M_X8_feed 9 (.sipush 680) 3 12 := ⟨by decide +kernel, rfl⟩
theorem d_X8_feed_12 : zDj M_X8_feed 12 (.if_icmp .le 5) 5 15 17 := ⟨by decide +kernel, rfl, by decide⟩
theorem d_X8_feed_15 : zDc M_X8_feed 15 (.iconst (-1)) 1 16 := ⟨by decide +kernel, rfl⟩
theorem d_X8_feed_16 : zDc M_X8_feed 16 (.ireturn) 1 17 := ⟨by decide +kernel, rfl⟩
theorem d_X8_feed_17 : zDc M_X8_feed 17 (.iconst 0) 1 18 := ⟨by decide +kernel, rfl⟩
theorem d_X8_feed_18 : zDc M_X8_feed 18 (.istore 6) 2 20 := ⟨by decide +kernel, rfl⟩
theorem d_X8_feed_20 : zDc M_X8_feed 20 (.iload 6) 2 22 := ⟨by decide +kernel, rfl⟩
theorem d_X8_feed_22 : zDc M_X8_feed 22 (.bipush 20) 2 24 := ⟨by decide +kernel, rfl⟩
theorem d_X8_feed_24 : zDj M_X8_feed 24 (.if_icmp .ge 86) 86 27 110 := ⟨by decide +kernel, rfl, by decide⟩
theorem d_X8_feed_27 : zDc M_X8_feed 27 (.iload 6) 2 29 := ⟨by decide +kernel, rfl⟩
theorem d_X8_feed_29 : zDc M_X8_feed 29 (.iconst 4) 1 30 := ⟨by decide +kernel, rfl⟩
theorem d_X8_feed_30 : zDj M_X8_feed 30 (.if_icmp .ge 7) 7 33 37 := ⟨by decide +kernel, rfl, by decide⟩
theorem d_X8_feed_33 : zDc M_X8_feed 33 (.iload_n 1) 1 34 := ⟨by decide +kernel, rfl⟩
theorem d_X8_feed_34 : zDj M_X8_feed 34 (.goto 39) 39 37 73 := ⟨by decide +kernel, rfl, by decide⟩
theorem d_X8_feed_37 : zDc M_X8_feed 37 (.iload 6) 2 39 := ⟨by decide +kernel, rfl⟩
theorem d_X8_feed_39 : zDc M_X8_feed 39 (.bipush 8) 2 41 := ⟨by decide +kernel, rfl⟩
theorem d_X8_feed_41 : zDj M_X8_feed 41 (.if_icmp .ge 7) 7 44 48 := ⟨by decide +kernel, rfl, by decide⟩
theorem d_X8_feed_44 : zDc M_X8_feed 44 (.iload_n 2) 1 45 := ⟨by decide +kernel, rfl⟩
theorem d_X8_feed_45 : zDj M_X8_feed 45 (.goto 28) 28 48 73 := ⟨by decide +kernel, rfl, by decide⟩
theorem d_X8_feed_48 : zDc M_X8_feed 48 (.iload 6) 2 50 := ⟨by decide +kernel, rfl⟩
theorem d_X8_feed_50 : zDc M_X8_feed 50 (.bipush 12) 2 52 := ⟨by decide +kernel, rfl⟩
theorem d_X8_feed_52 : zDj M_X8_feed 52 (.if_icmp .ge 7) 7 55 59 := ⟨by decide +kernel, rfl, by decide⟩
theorem d_X8_feed_55 : zDc M_X8_feed 55 (.iload_n 3) 1 56 := ⟨by decide +kernel, rfl⟩
theorem d_X8_feed_56 : zDj M_X8_feed 56 (.goto 17) 17 59 73 := ⟨by decide +kernel, rfl, by decide⟩
theorem d_X8_feed_59 : zDc M_X8_feed 59 (.iload 6) 2 61 := ⟨by decide +kernel, rfl⟩
theorem d_X8_feed_61 : zDc M_X8_feed 61 (.bipush 16) 2 63 := ⟨by decide +kernel, rfl⟩
theorem d_X8_feed_63 : zDj M_X8_feed 63 (.if_icmp .ge 8) 8 66 71 := ⟨by decide +kernel, rfl, by decide⟩
theorem d_X8_feed_66 : zDc M_X8_feed 66 (.iload 4) 2 68 := ⟨by decide +kernel, rfl⟩
theorem d_X8_feed_68 : zDj M_X8_feed 68 (.goto 5) 5 71 73 := ⟨by decide +kernel, rfl, by decide⟩
theorem d_X8_feed_71 : zDc M_X8_feed 71 (.iload 5) 2 73 := ⟨by decide +kernel, rfl⟩
theorem d_X8_feed_73 : zDc M_X8_feed 73 (.istore 7) 2 75 := ⟨by decide +kernel, rfl⟩
theorem d_X8_feed_75 : zDc M_X8_feed 75 (.aload_n 0) 1 76 := ⟨by decide +kernel, rfl⟩
theorem d_X8_feed_76 : zDc M_X8_feed 76 (.getfield 7) 3 79 := ⟨by decide +kernel, rfl⟩
theorem d_X8_feed_79 : zDc M_X8_feed 79 (.aload_n 0) 1 80 := ⟨by decide +kernel, rfl⟩
theorem d_X8_feed_80 : zDc M_X8_feed 80 (.getfield 154) 3 83 := ⟨by decide +kernel, rfl⟩
theorem d_X8_feed_83 : zDc M_X8_feed 83 (.iload 6) 2 85 := ⟨by decide +kernel, rfl⟩
theorem d_X8_feed_85 : zDc M_X8_feed 85 (.iadd) 1 86 := ⟨by decide +kernel, rfl⟩
theorem d_X8_feed_86 : zDc M_X8_feed 86 (.iload 7) 2 88 := ⟨by decide +kernel, rfl⟩
theorem d_X8_feed_88 : zDc M_X8_feed 88 (.bipush 24) 2 90 := ⟨by decide +kernel, rfl⟩
theorem d_X8_feed_90 : zDc M_X8_feed 90 (.bipush 8) 2 92 := ⟨by decide +kernel, rfl⟩
theorem d_X8_feed_92 : zDc M_X8_feed 92 (.iload 6) 2 94 := ⟨by decide +kernel, rfl⟩
theorem d_X8_feed_94 : zDc M_X8_feed 94 (.iconst 4) 1 95 := ⟨by decide +kernel, rfl⟩
theorem d_X8_feed_95 : zDc M_X8_feed 95 (.irem) 1 96 := ⟨by decide +kernel, rfl⟩
theorem d_X8_feed_96 : zDc M_X8_feed 96 (.imul) 1 97 := ⟨by decide +kernel, rfl⟩
theorem d_X8_feed_97 : zDc M_X8_feed 97 (.isub) 1 98 := ⟨by decide +kernel, rfl⟩
theorem d_X8_feed_98 : zDc M_X8_feed 98 (.ishr) 1 99 := ⟨by decide +kernel, rfl⟩
theorem d_X8_feed_99 : zDc M_X8_feed 99 (.sipush 255) 3 102 := ⟨by decide +kernel, rfl⟩
theorem d_X8_feed_102 : zDc M_X8_feed 102 (.iand) 1 103 := ⟨by decide +kernel, rfl⟩
theorem d_X8_feed_103 : zDc M_X8_feed 103 (.iastore) 1 104 := ⟨by decide +kernel, rfl⟩
theorem d_X8_feed_104 : zDc M_X8_feed 104 (.iinc 6 1) 3 107 := ⟨by decide +kernel, rfl⟩
theorem d_X8_feed_107 : zDj M_X8_feed 107 (.goto (-87)) (-87) 110 20 := ⟨by decide +kernel, rfl, by decide⟩
theorem d_X8_feed_110 : zDc M_X8_feed 110 (.aload_n 0) 1 111 := ⟨by decide +kernel, rfl⟩
theorem d_X8_feed_111 : zDc M_X8_feed 111 (.dup) 1 112 := ⟨by decide +kernel, rfl⟩
theorem d_X8_feed_112 : zDc M_X8_feed 112 (.getfield 154) 3 115 := ⟨by decide +kernel, rfl⟩
theorem d_X8_feed_115 : zDc M_X8_feed 115 (.bipush 20) 2 117 := ⟨by decide +kernel, rfl⟩
theorem d_X8_feed_117 : zDc M_X8_feed 117 (.iadd) 1 118 := ⟨by decide +kernel, rfl⟩
theorem d_X8_feed_118 : zDc M_X8_feed 118 (.putfield 154) 3 121 := ⟨by decide +kernel, rfl⟩
theorem d_X8_feed_121 : zDc M_X8_feed 121 (.aload_n 0) 1 122 := ⟨by decide +kernel, rfl⟩
theorem d_X8_feed_122 : zDc M_X8_feed 122 (.getfield 154) 3 125 := ⟨by decide +kernel, rfl⟩
theorem d_X8_feed_125 : zDc M_X8_feed 125 (.ireturn) 1 126 := ⟨by decide +kernel, rfl⟩
def f_X8_feed (a0 : Nat) (a1 : Int32) (a2 : Int32) (a3 : Int32) (a4 : Int32) (a5 : Int32) (h0 : zHp) : Option (Int32 × zHp) :=
  zob (zpV h0 a0 8 0 (.int 0)) (fun h1 =>
  zob (zgI h1 a0 8 2) (fun v2 =>
  if v2 ≤ 680 then
  zbd (
  zlp (σ := Int32) (β := Int32) zLF (fun s3 h4 =>
  if 20 ≤ s3 then
  some ((.inr s3), h4)
  else
  zbd (α := Int32) (
  if 4 ≤ s3 then
  if 8 ≤ s3 then
  if 12 ≤ s3 then
  if 16 ≤ s3 then
  some (a5, h4)
  else
  some (a4, h4)
  else
  some (a3, h4)
  else
  some (a2, h4)
  else
  some (a1, h4)) (fun e7 h8 =>
  zob (zgR h8 a0 8 1) (fun v9 =>
  zob (zgI h8 a0 8 2) (fun v10 =>
  zob (zsI 0 h8 v9 (v10 + s3) ((e7 >>> ((24 - (8 * (zrm s3 4))) &&& 31)) &&& 255)) (fun h11 =>
  some ((.inl (s3 + 1)), h11)))))) 0 h1) (fun e5 h6 =>
  zob (zgI h6 a0 8 2) (fun v12 =>
  zob (zpV h6 a0 8 2 (.int (v12 + 20))) (fun h13 =>
  zob (zgI h13 a0 8 2) (fun v14 =>
  some (v14, h13)))))
  else
  some ((-1), h1)))
set_option maxRecDepth 100000 in
set_option maxHeartbeats 4000000 in
theorem t_X8_feed (a0 : Nat) (a1 : Int32) (a2 : Int32) (a3 : Int32) (a4 : Int32) (a5 : Int32) (h0 : zHp) : ∀ (r : Int32) (h' : zHp), f_X8_feed a0 a1 a2 a3 a4 a5 h0 = some (r, h') → zCt yX8_feed (.code yX8_feed cX8_feed 8 (some .int)) 1 60 0 0 [.ref a0, .int a1, .int a2, .int a3, .int a4, .int a5] h0 (some (.int r)) h' := by
  refine zct_of M_X8_feed yX8_feed (by decide) rfl rfl [.ref a0, .int a1, .int a2, .int a3, .int a4, .int a5] h0 (Nat.le_of_ble_eq_true rfl) (fun r => some (.int r)) (fun X => ?_)
  show zG X M_X8_feed (0, 0) 0 [(0, .ref a0), (1, .int a1), (2, .int a2), (3, .int a3), (4, .int a4), (5, .int a5)] [] h0 (f_X8_feed a0 a1 a2 a3 a4 a5 h0) (fun (r : Int32) h' => zKe X (some (.int r)) h')
  unfold f_X8_feed
  refine zg_aload_n 0 rfl d_X8_feed_0 ?_
  refine zg_iconst 0 rfl d_X8_feed_1 ?_
  refine zg_putV d_X8_feed_2 zc_8 (by decide) fl_X8_151 rfl rfl rfl (fun h1 => ?_)
  refine zg_aload_n 0 rfl d_X8_feed_5 ?_
  refine zg_getI d_X8_feed_6 zc_8 (by decide) fl_X8_154 (fun v2 => ?_)
  refine zg_sipush 680 rfl d_X8_feed_9 ?_
  refine zg_icmp_le d_X8_feed_12 ?_ ?_
  · refine zg_iconst 0 rfl d_X8_feed_17 ?_
    refine zg_istore [(6, .int 0), (0, .ref a0), (1, .int a1), (2, .int a2), (3, .int a3), (4, .int a4), (5, .int a5)] d_X8_feed_18 (by decide) rfl ?_
    refine zg_bd (E := 110) (el := (fun (e5 : Int32) => [(0, .ref a0), (1, .int a1), (2, .int a2), (3, .int a3), (4, .int a4), (5, .int a5), (6, .int e5)])) (es := fun _ => []) (zg_sub [1, 2, 3, 4, 5, 6, 0] rfl (zg_lp (el := (fun (s3 : Int32) => [(0, .ref a0), (1, .int a1), (2, .int a2), (3, .int a3), (4, .int a4), (5, .int a5), (6, .int s3)])) (fun s3 h4 => ?_) 0 h1)) (fun e5 h6 => ?_)
    · refine zg_iload 6 rfl d_X8_feed_20 ?_
      refine zg_bipush 20 rfl d_X8_feed_22 ?_
      refine zg_icmp_ge d_X8_feed_24 ?_ ?_
      · exact zg_finK (E := 0) [0, 1, 2, 3, 4, 5, 6] rfl rfl (fun q => q)
      · refine zg_iload 6 rfl d_X8_feed_27 ?_
        refine zg_iconst 4 rfl d_X8_feed_29 ?_
        refine zg_bd (E := 73) (el := (fun (e7 : Int32) => [(0, .ref a0), (1, .int a1), (2, .int a2), (3, .int a3), (4, .int a4), (5, .int a5), (6, .int s3)])) (es := (fun (e7 : Int32) => [.int e7])) ?_ (fun e7 h8 => ?_)
        · refine zg_icmp_ge d_X8_feed_30 ?_ ?_
          · refine zg_iload 6 rfl d_X8_feed_37 ?_
            refine zg_bipush 8 rfl d_X8_feed_39 ?_
            refine zg_icmp_ge d_X8_feed_41 ?_ ?_
            · refine zg_iload 6 rfl d_X8_feed_48 ?_
              refine zg_bipush 12 rfl d_X8_feed_50 ?_
              refine zg_icmp_ge d_X8_feed_52 ?_ ?_
              · refine zg_iload 6 rfl d_X8_feed_59 ?_
                refine zg_bipush 16 rfl d_X8_feed_61 ?_
                refine zg_icmp_ge d_X8_feed_63 ?_ ?_
                · refine zg_iload 5 rfl d_X8_feed_71 ?_
                  exact zg_finK (E := 0) [0, 1, 2, 3, 4, 5, 6] rfl rfl (fun q => q)
                · refine zg_iload 4 rfl d_X8_feed_66 ?_
                  refine zg_goto d_X8_feed_68 ?_
                  exact zg_finK (E := 0) [0, 1, 2, 3, 4, 5, 6] rfl rfl (fun q => q)
              · refine zg_iload_n 3 rfl d_X8_feed_55 ?_
                refine zg_goto d_X8_feed_56 ?_
                exact zg_finK (E := 0) [0, 1, 2, 3, 4, 5, 6] rfl rfl (fun q => q)
            · refine zg_iload_n 2 rfl d_X8_feed_44 ?_
              refine zg_goto d_X8_feed_45 ?_
              exact zg_finK (E := 0) [0, 1, 2, 3, 4, 5, 6] rfl rfl (fun q => q)
          · refine zg_iload_n 1 rfl d_X8_feed_33 ?_
            refine zg_goto d_X8_feed_34 ?_
            exact zg_finK (E := 0) [0, 1, 2, 3, 4, 5, 6] rfl rfl (fun q => q)
        · refine zg_istore [(7, .int e7), (0, .ref a0), (1, .int a1), (2, .int a2), (3, .int a3), (4, .int a4), (5, .int a5), (6, .int s3)] d_X8_feed_73 (by decide) rfl ?_
          refine zg_aload_n 1 rfl d_X8_feed_75 ?_
          refine zg_getR d_X8_feed_76 zc_8 (by decide) fl_X8_7 (fun v9 => ?_)
          refine zg_aload_n 1 rfl d_X8_feed_79 ?_
          refine zg_getI d_X8_feed_80 zc_8 (by decide) fl_X8_154 (fun v10 => ?_)
          refine zg_iload 7 rfl d_X8_feed_83 ?_
          refine zg_iadd d_X8_feed_85 ?_
          refine zg_iload 0 rfl d_X8_feed_86 ?_
          refine zg_bipush 24 rfl d_X8_feed_88 ?_
          refine zg_bipush 8 rfl d_X8_feed_90 ?_
          refine zg_iload 7 rfl d_X8_feed_92 ?_
          refine zg_iconst 4 rfl d_X8_feed_94 ?_
          refine zg_irem (by decide) d_X8_feed_95 ?_
          refine zg_imul d_X8_feed_96 ?_
          refine zg_isub d_X8_feed_97 ?_
          refine zg_ishr d_X8_feed_98 ?_
          refine zg_sipush 255 rfl d_X8_feed_99 ?_
          refine zg_iand d_X8_feed_102 ?_
          refine zg_ast0 d_X8_feed_103 (fun h11 => ?_)
          refine zg_iinc 7 (s3 + 1) [(6, .int (s3 + 1)), (7, .int e7), (0, .ref a0), (1, .int a1), (2, .int a2), (3, .int a3), (4, .int a4), (5, .int a5)] d_X8_feed_104 rfl rfl (by decide) rfl ?_
          refine zg_goto d_X8_feed_107 ?_
          exact zg_finK (E := 0) [2, 3, 4, 5, 6, 7, 0] rfl rfl (fun q => q)
    · refine zg_aload_n 0 rfl d_X8_feed_110 ?_
      refine zg_dup rfl d_X8_feed_111 ?_
      refine zg_getI d_X8_feed_112 zc_8 (by decide) fl_X8_154 (fun v12 => ?_)
      refine zg_bipush 20 rfl d_X8_feed_115 ?_
      refine zg_iadd d_X8_feed_117 ?_
      refine zg_putV d_X8_feed_118 zc_8 (by decide) fl_X8_154 rfl rfl rfl (fun h13 => ?_)
      refine zg_aload_n 0 rfl d_X8_feed_121 ?_
      refine zg_getI d_X8_feed_122 zc_8 (by decide) fl_X8_154 (fun v14 => ?_)
      exact zg_iretK d_X8_feed_125 rfl ⟨Nat.le_of_ble_eq_true rfl, Nat.le_of_ble_eq_true rfl⟩ (fun q => q)
  · refine zg_iconst (-1) rfl d_X8_feed_15 ?_
    exact zg_iretK d_X8_feed_16 rfl ⟨Nat.le_of_ble_eq_true rfl, Nat.le_of_ble_eq_true rfl⟩ (fun q => q)
abbrev M_X8_field : zMt := (RX8, cX8_field, 3, 2, 81, (some .int), "field", 0, 0)
theorem d_X8_field_0 : zDc M_X8_field 0 (.aload_n 0) 1 1 := ⟨by decide +kernel, rfl⟩
theorem d_X8_field_1 : zDc M_X8_field 1 (.iconst 0) 1 2 := ⟨by decide +kernel, rfl⟩
theorem d_X8_field_2 : zDc M_X8_field 2 (.putfield 151) 3 5 := ⟨by decide +kernel, rfl⟩
theorem d_X8_field_5 : zDc M_X8_field 5 (.aload_n 0) 1 6 := ⟨by decide +kernel, rfl⟩
theorem d_X8_field_6 : zDc M_X8_field 6 (.iload_n 1) 1 7 := ⟨by decide +kernel, rfl⟩
theorem d_X8_field_7 : zDc M_X8_field 7 (.invokevirtual 431) 3 10 := ⟨by decide +kernel, rfl⟩
theorem d_X8_field_10 : zDj M_X8_field 10 (.ifCond .ne 5) 5 13 15 := ⟨by decide +kernel, rfl, by decide⟩
theorem d_X8_field_13 : zDc M_X8_field 13 (.iconst (-1)) 1 14 := ⟨by decide +kernel, rfl⟩
theorem d_X8_field_14 : zDc M_X8_field 14 (.ireturn) 1 15 := ⟨by decide +kernel, rfl⟩
theorem d_X8_field_15 : zDc M_X8_field 15 (.iload_n 2) 1 16 := ⟨by decide +kernel, rfl⟩
theorem d_X8_field_16 : zDj M_X8_field 16 (.ifCond .ne 15) 15 19 31 := ⟨by decide +kernel, rfl, by decide⟩
theorem d_X8_field_19 : zDc M_X8_field 19 (.aload_n 0) 1 20 := ⟨by decide +kernel, rfl⟩
theorem d_X8_field_20 : zDc M_X8_field 20 (.getfield 22) 3 23 := ⟨by decide +kernel, rfl⟩
theorem d_X8_field_23 : zDc M_X8_field 23 (.iload_n 1) 1 24 := ⟨by decide +kernel, rfl⟩
theorem d_X8_field_24 : zDc M_X8_field 24 (.iaload) 1 25 := ⟨by decide +kernel, rfl⟩
theorem d_X8_field_25 : zDc M_X8_field 25 (.bipush 6) 2 27 := ⟨by decide +kernel, rfl⟩
theorem d_X8_field_27 : zDc M_X8_field 27 (.irem) 1 28 := ⟨by decide +kernel, rfl⟩
theorem d_X8_field_28 : zDj M_X8_field 28 (.goto 49) 49 31 77 := ⟨by decide +kernel, rfl, by decide⟩
theorem d_X8_field_31 : zDc M_X8_field 31 (.iload_n 2) 1 32 := ⟨by decide +kernel, rfl⟩
theorem d_X8_field_32 : zDc M_X8_field 32 (.iconst 1) 1 33 := ⟨by decide +kernel, rfl⟩
theorem d_X8_field_33 : zDj M_X8_field 33 (.if_icmp .ne 15) 15 36 48 := ⟨by decide +kernel, rfl, by decide⟩
theorem d_X8_field_36 : zDc M_X8_field 36 (.aload_n 0) 1 37 := ⟨by decide +kernel, rfl⟩
theorem d_X8_field_37 : zDc M_X8_field 37 (.getfield 22) 3 40 := ⟨by decide +kernel, rfl⟩
theorem d_X8_field_40 : zDc M_X8_field 40 (.iload_n 1) 1 41 := ⟨by decide +kernel, rfl⟩
theorem d_X8_field_41 : zDc M_X8_field 41 (.iaload) 1 42 := ⟨by decide +kernel, rfl⟩
theorem d_X8_field_42 : zDc M_X8_field 42 (.bipush 6) 2 44 := ⟨by decide +kernel, rfl⟩
theorem d_X8_field_44 : zDc M_X8_field 44 (.idiv) 1 45 := ⟨by decide +kernel, rfl⟩
theorem d_X8_field_45 : zDj M_X8_field 45 (.goto 32) 32 48 77 := ⟨by decide +kernel, rfl, by decide⟩
theorem d_X8_field_48 : zDc M_X8_field 48 (.iload_n 2) 1 49 := ⟨by decide +kernel, rfl⟩
theorem d_X8_field_49 : zDc M_X8_field 49 (.iconst 2) 1 50 := ⟨by decide +kernel, rfl⟩
theorem d_X8_field_50 : zDj M_X8_field 50 (.if_icmp .ne 12) 12 53 62 := ⟨by decide +kernel, rfl, by decide⟩
theorem d_X8_field_53 : zDc M_X8_field 53 (.aload_n 0) 1 54 := ⟨by decide +kernel, rfl⟩
theorem d_X8_field_54 : zDc M_X8_field 54 (.getfield 25) 3 57 := ⟨by decide +kernel, rfl⟩
theorem d_X8_field_57 : zDc M_X8_field 57 (.iload_n 1) 1 58 := ⟨by decide +kernel, rfl⟩
theorem d_X8_field_58 : zDc M_X8_field 58 (.iaload) 1 59 := ⟨by decide +kernel, rfl⟩
theorem d_X8_field_59 : zDj M_X8_field 59 (.goto 18) 18 62 77 := ⟨by decide +kernel, rfl, by decide⟩
theorem d_X8_field_62 : zDc M_X8_field 62 (.iload_n 2) 1 63 := ⟨by decide +kernel, rfl⟩
theorem d_X8_field_63 : zDc M_X8_field 63 (.iconst 3) 1 64 := ⟨by decide +kernel, rfl⟩
theorem d_X8_field_64 : zDj M_X8_field 64 (.if_icmp .ne 12) 12 67 76 := ⟨by decide +kernel, rfl, by decide⟩
theorem d_X8_field_67 : zDc M_X8_field 67 (.aload_n 0) 1 68 := ⟨by decide +kernel, rfl⟩
theorem d_X8_field_68 : zDc M_X8_field 68 (.getfield 102) 3 71 := ⟨by decide +kernel, rfl⟩
theorem d_X8_field_71 : zDc M_X8_field 71 (.iload_n 1) 1 72 := ⟨by decide +kernel, rfl⟩
theorem d_X8_field_72 : zDc M_X8_field 72 (.iaload) 1 73 := ⟨by decide +kernel, rfl⟩
theorem d_X8_field_73 : zDj M_X8_field 73 (.goto 4) 4 76 77 := ⟨by decide +kernel, rfl, by decide⟩
theorem d_X8_field_76 : zDc M_X8_field 76 (.iconst (-1)) 1 77 := ⟨by decide +kernel, rfl⟩
theorem d_X8_field_77 : zDc M_X8_field 77 (.ireturn) 1 78 := ⟨by decide +kernel, rfl⟩
def f_X8_field (a0 : Nat) (a1 : Int32) (a2 : Int32) (h0 : zHp) : Option (Int32 × zHp) :=
  zob (zpV h0 a0 8 0 (.int 0)) (fun h1 =>
  zbd (zcv 8 a0 h1 (f_X8_isField a0 a1 h1)) (fun v3 h2 =>
  if v3 = 0 then
  some ((-1), h2)
  else
  if a2 = 0 then
  zob (zgR h2 a0 8 6) (fun v4 =>
  zob (zaI 0 h2 v4 a1) (fun v5 =>
  some ((zrm v5 6), h2)))
  else
  if a2 = 1 then
  zob (zgR h2 a0 8 6) (fun v6 =>
  zob (zaI 0 h2 v6 a1) (fun v7 =>
  some ((v7 / 6), h2)))
  else
  if a2 = 2 then
  zob (zgR h2 a0 8 7) (fun v8 =>
  zob (zaI 0 h2 v8 a1) (fun v9 =>
  some (v9, h2)))
  else
  if a2 = 3 then
  zob (zgR h2 a0 8 45) (fun v10 =>
  zob (zaI 0 h2 v10 a1) (fun v11 =>
  some (v11, h2)))
  else
  some ((-1), h2)))
set_option maxRecDepth 100000 in
set_option maxHeartbeats 4000000 in
theorem t_X8_field (a0 : Nat) (a1 : Int32) (a2 : Int32) (h0 : zHp) : ∀ (r : Int32) (h' : zHp), f_X8_field a0 a1 a2 h0 = some (r, h') → zCt yX8_field (.code yX8_field cX8_field 3 (some .int)) 2 81 0 0 [.ref a0, .int a1, .int a2] h0 (some (.int r)) h' := by
  refine zct_of M_X8_field yX8_field (by decide) rfl rfl [.ref a0, .int a1, .int a2] h0 (Nat.le_of_ble_eq_true rfl) (fun r => some (.int r)) (fun X => ?_)
  show zG X M_X8_field (0, 0) 0 [(0, .ref a0), (1, .int a1), (2, .int a2)] [] h0 (f_X8_field a0 a1 a2 h0) (fun (r : Int32) h' => zKe X (some (.int r)) h')
  unfold f_X8_field
  refine zg_aload_n 0 rfl d_X8_field_0 ?_
  refine zg_iconst 0 rfl d_X8_field_1 ?_
  refine zg_putV d_X8_field_2 zc_8 (by decide) fl_X8_151 rfl rfl rfl (fun h1 => ?_)
  refine zg_aload_n 0 rfl d_X8_field_5 ?_
  refine zg_iload_n 1 rfl d_X8_field_6 ?_
  refine zg_cVi (b := a0) (As := [.int a1]) (rest := []) (0, 0) d_X8_field_7 zc_8 rfl cw_X8_431 wi_X8_isField ws_X8_isField rfl rfl (Nat.le_of_ble_eq_true rfl) (by decide) (by decide) ⟨by decide, by decide⟩ rfl (t_X8_isField a0 a1 h1) (fun v3 h2 => ?_)
  refine zg_if_ne d_X8_field_10 ?_ ?_
  · refine zg_iconst (-1) rfl d_X8_field_13 ?_
    exact zg_iretK d_X8_field_14 rfl ⟨Nat.le_of_ble_eq_true rfl, Nat.le_of_ble_eq_true rfl⟩ (fun q => q)
  · refine zg_iload_n 2 rfl d_X8_field_15 ?_
    refine zg_if_ne d_X8_field_16 ?_ ?_
    · refine zg_aload_n 0 rfl d_X8_field_19 ?_
      refine zg_getR d_X8_field_20 zc_8 (by decide) fl_X8_22 (fun v4 => ?_)
      refine zg_iload_n 1 rfl d_X8_field_23 ?_
      refine zg_ald0 d_X8_field_24 (fun v5 => ?_)
      refine zg_bipush 6 rfl d_X8_field_25 ?_
      refine zg_irem (by decide) d_X8_field_27 ?_
      refine zg_goto d_X8_field_28 ?_
      exact zg_iretK d_X8_field_77 rfl ⟨Nat.le_of_ble_eq_true rfl, Nat.le_of_ble_eq_true rfl⟩ (fun q => q)
    · refine zg_iload_n 2 rfl d_X8_field_31 ?_
      refine zg_iconst 1 rfl d_X8_field_32 ?_
      refine zg_icmp_ne d_X8_field_33 ?_ ?_
      · refine zg_aload_n 0 rfl d_X8_field_36 ?_
        refine zg_getR d_X8_field_37 zc_8 (by decide) fl_X8_22 (fun v6 => ?_)
        refine zg_iload_n 1 rfl d_X8_field_40 ?_
        refine zg_ald0 d_X8_field_41 (fun v7 => ?_)
        refine zg_bipush 6 rfl d_X8_field_42 ?_
        refine zg_idiv (by decide) d_X8_field_44 ?_
        refine zg_goto d_X8_field_45 ?_
        exact zg_iretK d_X8_field_77 rfl ⟨Nat.le_of_ble_eq_true rfl, Nat.le_of_ble_eq_true rfl⟩ (fun q => q)
      · refine zg_iload_n 2 rfl d_X8_field_48 ?_
        refine zg_iconst 2 rfl d_X8_field_49 ?_
        refine zg_icmp_ne d_X8_field_50 ?_ ?_
        · refine zg_aload_n 0 rfl d_X8_field_53 ?_
          refine zg_getR d_X8_field_54 zc_8 (by decide) fl_X8_25 (fun v8 => ?_)
          refine zg_iload_n 1 rfl d_X8_field_57 ?_
          refine zg_ald0 d_X8_field_58 (fun v9 => ?_)
          refine zg_goto d_X8_field_59 ?_
          exact zg_iretK d_X8_field_77 rfl ⟨Nat.le_of_ble_eq_true rfl, Nat.le_of_ble_eq_true rfl⟩ (fun q => q)
        · refine zg_iload_n 2 rfl d_X8_field_62 ?_
          refine zg_iconst 3 rfl d_X8_field_63 ?_
          refine zg_icmp_ne d_X8_field_64 ?_ ?_
          · refine zg_aload_n 0 rfl d_X8_field_67 ?_
            refine zg_getR d_X8_field_68 zc_8 (by decide) fl_X8_102 (fun v10 => ?_)
            refine zg_iload_n 1 rfl d_X8_field_71 ?_
            refine zg_ald0 d_X8_field_72 (fun v11 => ?_)
            refine zg_goto d_X8_field_73 ?_
            exact zg_iretK d_X8_field_77 rfl ⟨Nat.le_of_ble_eq_true rfl, Nat.le_of_ble_eq_true rfl⟩ (fun q => q)
          · refine zg_iconst (-1) rfl d_X8_field_76 ?_
            exact zg_iretK d_X8_field_77 rfl ⟨Nat.le_of_ble_eq_true rfl, Nat.le_of_ble_eq_true rfl⟩ (fun q => q)
abbrev M_X8_upIn : zMt := (RX8, cX8_upIn, 5, 2, 82, (some .int), "upIn", 0, 0)
theorem d_X8_upIn_0 : zDc M_X8_upIn 0 (.iconst 0) 1 1 := ⟨by decide +kernel, rfl⟩
theorem d_X8_upIn_1 : zDc M_X8_upIn 1 (.istore_n 3) 1 2 := ⟨by decide +kernel, rfl⟩
theorem d_X8_upIn_2 : zDc M_X8_upIn 2 (.iconst 0) 1 3 := ⟨by decide +kernel, rfl⟩
theorem d_X8_upIn_3 : zDc M_X8_upIn 3 (.istore 4) 2 5 := ⟨by decide +kernel, rfl⟩
theorem d_X8_upIn_5 : zDc M_X8_upIn 5 (.iload 4) 2 7 := ⟨by decide +kernel, rfl⟩
theorem d_X8_upIn_7 : zDc M_X8_upIn 7 (.aload_n 0) 1 8 := ⟨by decide +kernel, rfl⟩
theorem d_X8_upIn_8 : zDc M_X8_upIn 8 (.getfield 13) 3 11 := ⟨by decide +kernel, rfl⟩
theorem d_X8_upIn_11 : zDc M_X8_upIn 11 (.iconst 1) 1 12 := ⟨by decide +kernel, rfl⟩
theorem d_X8_upIn_12 : zDc M_X8_upIn 12 (.iaload) 1 13 := ⟨by decide +kernel, rfl⟩
theorem d_X8_upIn_13 : zDj M_X8_upIn 13 (.if_icmp .ge 46) 46 16 59 := ⟨by decide +kernel, rfl, by decide⟩
theorem d_X8_upIn_16 : zDc M_X8_upIn 16 (.iload_n 3) 1 17 := ⟨by decide +kernel, rfl⟩
theorem d_X8_upIn_17 : zDc M_X8_upIn 17 (.aload_n 0) 1 18 := ⟨by decide +kernel, rfl⟩
theorem d_X8_upIn_18 : zDc M_X8_upIn 18 (.iload_n 1) 1 19 := ⟨by decide +kernel, rfl⟩
theorem d_X8_upIn_19 : zDc M_X8_upIn 19 (.iload 4) 2 21 := ⟨by decide +kernel, rfl⟩
theorem d_X8_upIn_21 : zDc M_X8_upIn 21 (.invokevirtual 351) 3 24 := ⟨by decide +kernel, rfl⟩
theorem d_X8_upIn_24 : zDj M_X8_upIn 24 (.ifCond .eq 26) 26 27 50 := ⟨by decide +kernel, rfl, by decide⟩
theorem d_X8_upIn_27 : zDc M_X8_upIn 27 (.aload_n 0) 1 28 := ⟨by decide +kernel, rfl⟩
theorem d_X8_upIn_28 : zDc M_X8_upIn 28 (.getfield 81) 3 31 := ⟨by decide +kernel, rfl⟩
theorem d_X8_upIn_31 : zDc M_X8_upIn 31 (.bipush 8) 2 33 := ⟨by decide +kernel, rfl⟩
theorem d_X8_upIn_33 : zDc M_X8_upIn 33 (.iload_n 1) 1 34 := ⟨by decide +kernel, rfl⟩
theorem d_X8_upIn_34 : zDc M_X8_upIn 34 (.imul) 1 35 := ⟨by decide +kernel, rfl⟩
theorem d_X8_upIn_35 : zDc M_X8_upIn 35 (.iload 4) 2 37 := ⟨by decide +kernel, rfl⟩
theorem d_X8_upIn_37 : zDc M_X8_upIn 37 (.iadd) 1 38 := ⟨by decide +kernel, rfl⟩
theorem d_X8_upIn_38 : zDc M_X8_upIn 38 (.iaload) 1 39 := ⟨by decide +kernel, rfl⟩
theorem d_X8_upIn_39 : zDc M_X8_upIn 39 (.iload_n 2) 1 40 := ⟨by decide +kernel, rfl⟩
theorem d_X8_upIn_40 : zDj M_X8_upIn 40 (.if_icmp .ne 10) 10 43 50 := ⟨by decide +kernel, rfl, by decide⟩
theorem d_X8_upIn_43 : zDc M_X8_upIn 43 (.iconst 1) 1 44 := ⟨by decide +kernel, rfl⟩
theorem d_X8_upIn_44 : zDc M_X8_upIn 44 (.iload 4) 2 46 := ⟨by decide +kernel, rfl⟩
theorem d_X8_upIn_46 : zDc M_X8_upIn 46 (.ishl) 1 47 := ⟨by decide +kernel, rfl⟩
theorem d_X8_upIn_47 : zDj M_X8_upIn 47 (.goto 4) 4 50 51 := ⟨by decide +kernel, rfl, by decide⟩
theorem d_X8_upIn_50 : zDc M_X8_upIn 50 (.iconst 0) 1 51 := ⟨by decide +kernel, rfl⟩
theorem d_X8_upIn_51 : zDc M_X8_upIn 51 (.ior) 1 52 := ⟨by decide +kernel, rfl⟩
theorem d_X8_upIn_52 : zDc M_X8_upIn 52 (.istore_n 3) 1 53 := ⟨by decide +kernel, rfl⟩
theorem d_X8_upIn_53 : zDc M_X8_upIn 53 (.iinc 4 1) 3 56 := ⟨by decide +kernel, rfl⟩
theorem d_X8_upIn_56 : zDj M_X8_upIn 56 (.goto (-51)) (-51) 59 5 := ⟨by decide +kernel, rfl, by decide⟩
theorem d_X8_upIn_59 : zDc M_X8_upIn 59 (.iload_n 3) 1 60 := ⟨by decide +kernel, rfl⟩
theorem d_X8_upIn_60 : zDc M_X8_upIn 60 (.ireturn) 1 61 := ⟨by decide +kernel, rfl⟩
def f_X8_upIn (a0 : Nat) (a1 : Int32) (a2 : Int32) (h0 : zHp) : Option (Int32 × zHp) :=
  zbd (
  zlp (σ := (Int32 × Int32)) (β := (Int32 × Int32)) zLF (fun s1 h2 =>
  zob (zgR h2 a0 8 3) (fun v5 =>
  zob (zaI 0 h2 v5 1) (fun v6 =>
  if v6 ≤ s1.2 then
  some ((.inr (s1.1, s1.2)), h2)
  else
  zbd (zcv 8 a0 h2 (f_X8_isUp a0 a1 s1.2 h2)) (fun v8 h7 =>
  if v8 = 0 then
  some ((.inl ((s1.1 ||| 0), (s1.2 + 1))), h7)
  else
  zob (zgR h7 a0 8 38) (fun v9 =>
  zob (zaI 0 h7 v9 ((8 * a1) + s1.2)) (fun v10 =>
  if v10 = a2 then
  some ((.inl ((s1.1 ||| (1 <<< (s1.2 &&& 31))), (s1.2 + 1))), h7)
  else
  some ((.inl ((s1.1 ||| 0), (s1.2 + 1))), h7))))))) (0, 0) h0) (fun e3 h4 =>
  some (e3.1, h4))
set_option maxRecDepth 100000 in
set_option maxHeartbeats 4000000 in
theorem t_X8_upIn (a0 : Nat) (a1 : Int32) (a2 : Int32) (h0 : zHp) : ∀ (r : Int32) (h' : zHp), f_X8_upIn a0 a1 a2 h0 = some (r, h') → zCt yX8_upIn (.code yX8_upIn cX8_upIn 5 (some .int)) 2 82 0 0 [.ref a0, .int a1, .int a2] h0 (some (.int r)) h' := by
  refine zct_of M_X8_upIn yX8_upIn (by decide) rfl rfl [.ref a0, .int a1, .int a2] h0 (Nat.le_of_ble_eq_true rfl) (fun r => some (.int r)) (fun X => ?_)
  show zG X M_X8_upIn (0, 0) 0 [(0, .ref a0), (1, .int a1), (2, .int a2)] [] h0 (f_X8_upIn a0 a1 a2 h0) (fun (r : Int32) h' => zKe X (some (.int r)) h')
  unfold f_X8_upIn
  refine zg_iconst 0 rfl d_X8_upIn_0 ?_
  refine zg_istore_n [(3, .int 0), (0, .ref a0), (1, .int a1), (2, .int a2)] d_X8_upIn_1 rfl (by decide) rfl ?_
  refine zg_iconst 0 rfl d_X8_upIn_2 ?_
  refine zg_istore [(4, .int 0), (3, .int 0), (0, .ref a0), (1, .int a1), (2, .int a2)] d_X8_upIn_3 (by decide) rfl ?_
  refine zg_bd (E := 59) (el := (fun (e3 : (Int32 × Int32)) => [(0, .ref a0), (1, .int a1), (2, .int a2), (3, .int e3.1), (4, .int e3.2)])) (es := fun _ => []) (zg_sub [2, 3, 4, 1, 0] rfl (zg_lp (el := (fun (s1 : (Int32 × Int32)) => [(0, .ref a0), (1, .int a1), (2, .int a2), (3, .int s1.1), (4, .int s1.2)])) (fun s1 h2 => ?_) (0, 0) h0)) (fun e3 h4 => ?_)
  · refine zg_iload 4 rfl d_X8_upIn_5 ?_
    refine zg_aload_n 0 rfl d_X8_upIn_7 ?_
    refine zg_getR d_X8_upIn_8 zc_8 (by decide) fl_X8_13 (fun v5 => ?_)
    refine zg_iconst 1 rfl d_X8_upIn_11 ?_
    refine zg_ald0 d_X8_upIn_12 (fun v6 => ?_)
    refine zg_icmp_ge d_X8_upIn_13 ?_ ?_
    · exact zg_finK (E := 0) [0, 1, 2, 3, 4] rfl rfl (fun q => q)
    · refine zg_iload_n 3 rfl d_X8_upIn_16 ?_
      refine zg_aload_n 0 rfl d_X8_upIn_17 ?_
      refine zg_iload_n 1 rfl d_X8_upIn_18 ?_
      refine zg_iload 4 rfl d_X8_upIn_19 ?_
      refine zg_cVi (b := a0) (As := [.int a1, .int s1.2]) (rest := [.int s1.1]) (0, 0) d_X8_upIn_21 zc_8 rfl cw_X8_351 wi_X8_isUp ws_X8_isUp rfl rfl (Nat.le_of_ble_eq_true rfl) (by decide) (by decide) ⟨by decide, by decide⟩ rfl (t_X8_isUp a0 a1 s1.2 h2) (fun v8 h7 => ?_)
      refine zg_if_eq d_X8_upIn_24 ?_ ?_
      · refine zg_iconst 0 rfl d_X8_upIn_50 ?_
        refine zg_ior d_X8_upIn_51 ?_
        refine zg_istore_n [(3, .int (s1.1 ||| 0)), (0, .ref a0), (1, .int a1), (2, .int a2), (4, .int s1.2)] d_X8_upIn_52 rfl (by decide) rfl ?_
        refine zg_iinc 4 (s1.2 + 1) [(4, .int (s1.2 + 1)), (3, .int (s1.1 ||| 0)), (0, .ref a0), (1, .int a1), (2, .int a2)] d_X8_upIn_53 rfl rfl (by decide) rfl ?_
        refine zg_goto d_X8_upIn_56 ?_
        exact zg_finK (E := 0) [2, 3, 4, 1, 0] rfl rfl (fun q => q)
      · refine zg_aload_n 0 rfl d_X8_upIn_27 ?_
        refine zg_getR d_X8_upIn_28 zc_8 (by decide) fl_X8_81 (fun v9 => ?_)
        refine zg_bipush 8 rfl d_X8_upIn_31 ?_
        refine zg_iload_n 1 rfl d_X8_upIn_33 ?_
        refine zg_imul d_X8_upIn_34 ?_
        refine zg_iload 4 rfl d_X8_upIn_35 ?_
        refine zg_iadd d_X8_upIn_37 ?_
        refine zg_ald0 d_X8_upIn_38 (fun v10 => ?_)
        refine zg_iload_n 2 rfl d_X8_upIn_39 ?_
        refine zg_icmp_ne d_X8_upIn_40 ?_ ?_
        · refine zg_iconst 1 rfl d_X8_upIn_43 ?_
          refine zg_iload 4 rfl d_X8_upIn_44 ?_
          refine zg_ishl d_X8_upIn_46 ?_
          refine zg_goto d_X8_upIn_47 ?_
          refine zg_ior d_X8_upIn_51 ?_
          refine zg_istore_n [(3, .int (s1.1 ||| (1 <<< (s1.2 &&& 31)))), (0, .ref a0), (1, .int a1), (2, .int a2), (4, .int s1.2)] d_X8_upIn_52 rfl (by decide) rfl ?_
          refine zg_iinc 4 (s1.2 + 1) [(4, .int (s1.2 + 1)), (3, .int (s1.1 ||| (1 <<< (s1.2 &&& 31)))), (0, .ref a0), (1, .int a1), (2, .int a2)] d_X8_upIn_53 rfl rfl (by decide) rfl ?_
          refine zg_goto d_X8_upIn_56 ?_
          exact zg_finK (E := 0) [2, 3, 4, 1, 0] rfl rfl (fun q => q)
        · refine zg_iconst 0 rfl d_X8_upIn_50 ?_
          refine zg_ior d_X8_upIn_51 ?_
          refine zg_istore_n [(3, .int (s1.1 ||| 0)), (0, .ref a0), (1, .int a1), (2, .int a2), (4, .int s1.2)] d_X8_upIn_52 rfl (by decide) rfl ?_
          refine zg_iinc 4 (s1.2 + 1) [(4, .int (s1.2 + 1)), (3, .int (s1.1 ||| 0)), (0, .ref a0), (1, .int a1), (2, .int a2)] d_X8_upIn_53 rfl rfl (by decide) rfl ?_
          refine zg_goto d_X8_upIn_56 ?_
          exact zg_finK (E := 0) [2, 3, 4, 1, 0] rfl rfl (fun q => q)
  · refine zg_iload_n 3 rfl d_X8_upIn_59 ?_
    exact zg_iretK d_X8_upIn_60 rfl ⟨Nat.le_of_ble_eq_true rfl, Nat.le_of_ble_eq_true rfl⟩ (fun q => q)
abbrev M_X8_isSo : zMt := (RX8, cX8_isSo, 3, 3, 106, (some .boolean), "isSo", 0, 0)
theorem d_X8_isSo_0 : zDc M_X8_isSo 0 (.iconst 0) 1 1 := ⟨by decide +kernel, rfl⟩
theorem d_X8_isSo_1 : zDc M_X8_isSo 1 (.istore_n 2) 1 2 := ⟨by decide +kernel, rfl⟩
theorem d_X8_isSo_2 : zDc M_X8_isSo 2 (.iload_n 2) 1 3 := ⟨by decide +kernel, rfl⟩
theorem d_X8_isSo_3 : zDc M_X8_isSo 3 (.aload_n 0) 1 4 := ⟨by decide +kernel, rfl⟩
theorem d_X8_isSo_4 : zDc M_X8_isSo 4 (.invokevirtual 507) 3 7 := ⟨by decide +kernel, rfl⟩
theorem d_X8_isSo_7 : zDj M_X8_isSo 7 (.if_icmp .ge 71) 71 10 78 := ⟨by decide +kernel, rfl, by decide⟩
theorem d_X8_isSo_10 : zDc M_X8_isSo 10 (.aload_n 0) 1 11 := ⟨by decide +kernel, rfl⟩
theorem d_X8_isSo_11 : zDc M_X8_isSo 11 (.getfield 145) 3 14 := ⟨by decide +kernel, rfl⟩
theorem d_X8_isSo_14 : zDc M_X8_isSo 14 (.iload_n 2) 1 15 := ⟨by decide +kernel, rfl⟩
theorem d_X8_isSo_15 : zDc M_X8_isSo 15 (.baload) 1 16 := ⟨by decide +kernel, rfl⟩
theorem d_X8_isSo_16 : zDj M_X8_isSo 16 (.ifCond .ne 56) 56 19 72 := ⟨by decide +kernel, rfl, by decide⟩
theorem d_X8_isSo_19 : zDc M_X8_isSo 19 (.aload_n 0) 1 20 := ⟨by decide +kernel, rfl⟩
theorem d_X8_isSo_20 : zDc M_X8_isSo 20 (.getfield 142) 3 23 := ⟨by decide +kernel, rfl⟩
theorem d_X8_isSo_23 : zDc M_X8_isSo 23 (.iload_n 2) 1 24 := ⟨by decide +kernel, rfl⟩
theorem d_X8_isSo_24 : zDc M_X8_isSo 24 (.iaload) 1 25 := ⟨by decide +kernel, rfl⟩
theorem d_X8_isSo_25 : zDc M_X8_isSo 25 (.iconst (-1)) 1 26 := ⟨by decide +kernel, rfl⟩
theorem d_X8_isSo_26 : zDj M_X8_isSo 26 (.if_icmp .ne 46) 46 29 72 := ⟨by decide +kernel, rfl, by decide⟩
theorem d_X8_isSo_29 : zDc M_X8_isSo 29 (.aload_n 0) 1 30 := ⟨by decide +kernel, rfl⟩
theorem d_X8_isSo_30 : zDc M_X8_isSo 30 (.getfield 132) 3 33 := ⟨by decide +kernel, rfl⟩
theorem d_X8_isSo_33 : zDc M_X8_isSo 33 (.iload_n 2) 1 34 := ⟨by decide +kernel, rfl⟩
theorem d_X8_isSo_34 : zDc M_X8_isSo 34 (.iaload) 1 35 := ⟨by decide +kernel, rfl⟩
theorem d_X8_isSo_35 : zDc M_X8_isSo 35 (.iload_n 1) 1 36 := ⟨by decide +kernel, rfl⟩
theorem d_X8_isSo_36 : zDj M_X8_isSo 36 (.if_icmp .eq 6) 6 39 42 := ⟨by decide +kernel, rfl, by decide⟩
theorem d_X8_isSo_39 : zDj M_X8_isSo 39 (.goto 33) 33 42 72 := ⟨by decide +kernel, rfl, by decide⟩
theorem d_X8_isSo_42 : zDc M_X8_isSo 42 (.aload_n 0) 1 43 := ⟨by decide +kernel, rfl⟩
theorem d_X8_isSo_43 : zDc M_X8_isSo 43 (.iconst 1) 1 44 := ⟨by decide +kernel, rfl⟩
theorem d_X8_isSo_44 : zDc M_X8_isSo 44 (.aload_n 0) 1 45 := ⟨by decide +kernel, rfl⟩
theorem d_X8_isSo_45 : zDc M_X8_isSo 45 (.getfield 135) 3 48 := ⟨by decide +kernel, rfl⟩
theorem d_X8_isSo_48 : zDc M_X8_isSo 48 (.iload_n 2) 1 49 := ⟨by decide +kernel, rfl⟩
theorem d_X8_isSo_49 : zDc M_X8_isSo 49 (.iaload) 1 50 := ⟨by decide +kernel, rfl⟩
theorem d_X8_isSo_50 : zDc M_X8_isSo 50 (.invokevirtual 434) 3 53 := ⟨by decide +kernel, rfl⟩
theorem d_X8_isSo_53 : zDj M_X8_isSo 53 (.ifCond .eq 7) 7 56 60 := ⟨by decide +kernel, rfl, by decide⟩
theorem d_X8_isSo_56 : zDc M_X8_isSo 56 (.iconst 1) 1 57 := ⟨by decide +kernel, rfl⟩
theorem d_X8_isSo_57 : zDj M_X8_isSo 57 (.goto 4) 4 60 61 := ⟨by decide +kernel, rfl, by decide⟩
theorem d_X8_isSo_60 : zDc M_X8_isSo 60 (.iconst 0) 1 61 := ⟨by decide +kernel, rfl⟩
theorem d_X8_isSo_61 : zDc M_X8_isSo 61 (.aload_n 0) 1 62 := ⟨by decide +kernel, rfl⟩
theorem d_X8_isSo_62 : zDc M_X8_isSo 62 (.getfield 138) 3 65 := ⟨by decide +kernel, rfl⟩
theorem d_X8_isSo_65 : zDc M_X8_isSo 65 (.iload_n 2) 1 66 := ⟨by decide +kernel, rfl⟩
theorem d_X8_isSo_66 : zDc M_X8_isSo 66 (.baload) 1 67 := ⟨by decide +kernel, rfl⟩
theorem d_X8_isSo_67 : zDj M_X8_isSo 67 (.if_icmp .eq 5) 5 70 72 := ⟨by decide +kernel, rfl, by decide⟩
theorem d_X8_isSo_70 : zDc M_X8_isSo 70 (.iconst 0) 1 71 := ⟨by decide +kernel, rfl⟩
theorem d_X8_isSo_71 : zDc M_X8_isSo 71 (.ireturn) 1 72 := ⟨by decide +kernel, rfl⟩
theorem d_X8_isSo_72 : zDc M_X8_isSo 72 (.iinc 2 1) 3 75 := ⟨by decide +kernel, rfl⟩
theorem d_X8_isSo_75 : zDj M_X8_isSo 75 (.goto (-73)) (-73) 78 2 := ⟨by decide +kernel, rfl, by decide⟩
theorem d_X8_isSo_78 : zDc M_X8_isSo 78 (.iconst 1) 1 79 := ⟨by decide +kernel, rfl⟩
theorem d_X8_isSo_79 : zDc M_X8_isSo 79 (.ireturn) 1 80 := ⟨by decide +kernel, rfl⟩
def f_X8_isSo (a0 : Nat) (a1 : Int32) (h0 : zHp) : Option (Int32 × zHp) :=
  zbd (
  zlp (σ := Int32) (β := (Int32 ⊕ Int32)) zLF (fun s1 h2 =>
  zbd (zcv 8 a0 h2 (f_X8_knownMany a0 h2)) (fun v6 h5 =>
  if v6 ≤ s1 then
  some ((.inr (.inl s1)), h5)
  else
  zob (zgR h5 a0 8 67) (fun v7 =>
  zob (zaI 2 h5 v7 s1) (fun v8 =>
  if v8 = 0 then
  zob (zgR h5 a0 8 66) (fun v9 =>
  zob (zaI 0 h5 v9 s1) (fun v10 =>
  if v10 = (-1) then
  zob (zgR h5 a0 8 63) (fun v11 =>
  zob (zaI 0 h5 v11 s1) (fun v12 =>
  if v12 = a1 then
  zob (zgR h5 a0 8 64) (fun v13 =>
  zob (zaI 0 h5 v13 s1) (fun v14 =>
  zbd (zcv 8 a0 h5 (f_X8_upIn a0 1 v14 h5)) (fun v16 h15 =>
  zbd (α := Int32) (
  if v16 = 0 then
  some (0, h15)
  else
  some (1, h15)) (fun e17 h18 =>
  zob (zgR h18 a0 8 65) (fun v19 =>
  zob (zaI 2 h18 v19 s1) (fun v20 =>
  if e17 = v20 then
  some ((.inl (s1 + 1)), h18)
  else
  some ((.inr (.inr 0)), h18)))))))
  else
  some ((.inl (s1 + 1)), h5)))
  else
  some ((.inl (s1 + 1)), h5)))
  else
  some ((.inl (s1 + 1)), h5))))) 0 h0) (fun b21 h4 => zsl b21 (fun e3 =>
  some (1, h4)) (fun r => some (r, h4)))
set_option maxRecDepth 100000 in
set_option maxHeartbeats 4000000 in
theorem t_X8_isSo (a0 : Nat) (a1 : Int32) (h0 : zHp) : ∀ (r : Int32) (h' : zHp), f_X8_isSo a0 a1 h0 = some (r, h') → zCt yX8_isSo (.code yX8_isSo cX8_isSo 3 (some .boolean)) 3 106 0 0 [.ref a0, .int a1] h0 (some (.int r)) h' := by
  refine zct_of M_X8_isSo yX8_isSo (by decide) rfl rfl [.ref a0, .int a1] h0 (Nat.le_of_ble_eq_true rfl) (fun r => some (.int r)) (fun X => ?_)
  show zG X M_X8_isSo (0, 0) 0 [(0, .ref a0), (1, .int a1)] [] h0 (f_X8_isSo a0 a1 h0) (fun (r : Int32) h' => zKe X (some (.int r)) h')
  unfold f_X8_isSo
  refine zg_iconst 0 rfl d_X8_isSo_0 ?_
  refine zg_istore_n [(2, .int 0), (0, .ref a0), (1, .int a1)] d_X8_isSo_1 rfl (by decide) rfl ?_
  refine zg_bdr (E := 78) (el := (fun (e3 : Int32) => [(0, .ref a0), (1, .int a1), (2, .int e3)])) (es := fun _ => []) (zg_sub [1, 2, 0] rfl (zg_lp (el := (fun (s1 : Int32) => [(0, .ref a0), (1, .int a1), (2, .int s1)])) (fun s1 h2 => ?_) 0 h0)) (fun e3 h4 => ?_)
  · refine zg_iload_n 2 rfl d_X8_isSo_2 ?_
    refine zg_aload_n 0 rfl d_X8_isSo_3 ?_
    refine zg_cVi (b := a0) (As := []) (rest := [.int s1]) (0, 0) d_X8_isSo_4 zc_8 rfl cw_X8_507 wi_X8_knownMany ws_X8_knownMany rfl rfl (Nat.le_of_ble_eq_true rfl) (by decide) (by decide) ⟨by decide, by decide⟩ rfl (t_X8_knownMany a0 h2) (fun v6 h5 => ?_)
    refine zg_icmp_ge d_X8_isSo_7 ?_ ?_
    · exact zg_finK (E := 0) [0, 1, 2] rfl rfl (fun q => q)
    · refine zg_aload_n 0 rfl d_X8_isSo_10 ?_
      refine zg_getR d_X8_isSo_11 zc_8 (by decide) fl_X8_145 (fun v7 => ?_)
      refine zg_iload_n 2 rfl d_X8_isSo_14 ?_
      refine zg_ald2 d_X8_isSo_15 (fun v8 => ?_)
      refine zg_if_ne d_X8_isSo_16 ?_ ?_
      · refine zg_aload_n 0 rfl d_X8_isSo_19 ?_
        refine zg_getR d_X8_isSo_20 zc_8 (by decide) fl_X8_142 (fun v9 => ?_)
        refine zg_iload_n 2 rfl d_X8_isSo_23 ?_
        refine zg_ald0 d_X8_isSo_24 (fun v10 => ?_)
        refine zg_iconst (-1) rfl d_X8_isSo_25 ?_
        refine zg_icmp_ne d_X8_isSo_26 ?_ ?_
        · refine zg_aload_n 0 rfl d_X8_isSo_29 ?_
          refine zg_getR d_X8_isSo_30 zc_8 (by decide) fl_X8_132 (fun v11 => ?_)
          refine zg_iload_n 2 rfl d_X8_isSo_33 ?_
          refine zg_ald0 d_X8_isSo_34 (fun v12 => ?_)
          refine zg_iload_n 1 rfl d_X8_isSo_35 ?_
          refine zg_icmp_eq d_X8_isSo_36 ?_ ?_
          · refine zg_aload_n 0 rfl d_X8_isSo_42 ?_
            refine zg_iconst 1 rfl d_X8_isSo_43 ?_
            refine zg_aload_n 0 rfl d_X8_isSo_44 ?_
            refine zg_getR d_X8_isSo_45 zc_8 (by decide) fl_X8_135 (fun v13 => ?_)
            refine zg_iload_n 2 rfl d_X8_isSo_48 ?_
            refine zg_ald0 d_X8_isSo_49 (fun v14 => ?_)
            refine zg_cVi (b := a0) (As := [.int 1, .int v14]) (rest := []) (0, 0) d_X8_isSo_50 zc_8 rfl cw_X8_434 wi_X8_upIn ws_X8_upIn rfl rfl (Nat.le_of_ble_eq_true rfl) (by decide) (by decide) ⟨by decide, by decide⟩ rfl (t_X8_upIn a0 1 v14 h5) (fun v16 h15 => ?_)
            refine zg_bd (E := 61) (el := (fun (e17 : Int32) => [(0, .ref a0), (1, .int a1), (2, .int s1)])) (es := (fun (e17 : Int32) => [.int e17])) ?_ (fun e17 h18 => ?_)
            · refine zg_if_eq d_X8_isSo_53 ?_ ?_
              · refine zg_iconst 0 rfl d_X8_isSo_60 ?_
                exact zg_finK (E := 0) [0, 1, 2] rfl rfl (fun q => q)
              · refine zg_iconst 1 rfl d_X8_isSo_56 ?_
                refine zg_goto d_X8_isSo_57 ?_
                exact zg_finK (E := 0) [0, 1, 2] rfl rfl (fun q => q)
            · refine zg_aload_n 0 rfl d_X8_isSo_61 ?_
              refine zg_getR d_X8_isSo_62 zc_8 (by decide) fl_X8_138 (fun v19 => ?_)
              refine zg_iload_n 2 rfl d_X8_isSo_65 ?_
              refine zg_ald2 d_X8_isSo_66 (fun v20 => ?_)
              refine zg_icmp_eq d_X8_isSo_67 ?_ ?_
              · refine zg_iinc 2 (s1 + 1) [(2, .int (s1 + 1)), (0, .ref a0), (1, .int a1)] d_X8_isSo_72 rfl rfl (by decide) rfl ?_
                refine zg_goto d_X8_isSo_75 ?_
                exact zg_finK (E := 0) [1, 2, 0] rfl rfl (fun q => q)
              · refine zg_iconst 0 rfl d_X8_isSo_70 ?_
                exact zg_zretK d_X8_isSo_71 rfl ⟨Nat.le_of_ble_eq_true rfl, Nat.le_of_ble_eq_true rfl⟩ (Or.inl rfl) (fun q => q)
          · refine zg_goto d_X8_isSo_39 ?_
            refine zg_iinc 2 (s1 + 1) [(2, .int (s1 + 1)), (0, .ref a0), (1, .int a1)] d_X8_isSo_72 rfl rfl (by decide) rfl ?_
            refine zg_goto d_X8_isSo_75 ?_
            exact zg_finK (E := 0) [1, 2, 0] rfl rfl (fun q => q)
        · refine zg_iinc 2 (s1 + 1) [(2, .int (s1 + 1)), (0, .ref a0), (1, .int a1)] d_X8_isSo_72 rfl rfl (by decide) rfl ?_
          refine zg_goto d_X8_isSo_75 ?_
          exact zg_finK (E := 0) [1, 2, 0] rfl rfl (fun q => q)
      · refine zg_iinc 2 (s1 + 1) [(2, .int (s1 + 1)), (0, .ref a0), (1, .int a1)] d_X8_isSo_72 rfl rfl (by decide) rfl ?_
        refine zg_goto d_X8_isSo_75 ?_
        exact zg_finK (E := 0) [1, 2, 0] rfl rfl (fun q => q)
  · refine zg_iconst 1 rfl d_X8_isSo_78 ?_
    exact zg_zretK d_X8_isSo_79 rfl ⟨Nat.le_of_ble_eq_true rfl, Nat.le_of_ble_eq_true rfl⟩ (Or.inr rfl) (fun q => q)
abbrev M_X8_fives : zMt := (RX8, cX8_fives, 3, 1, 60, (some .int), "fives", 0, 0)
theorem d_X8_fives_0 : zDc M_X8_fives 0 (.iconst 1) 1 1 := ⟨by decide +kernel, rfl⟩
theorem d_X8_fives_1 : zDc M_X8_fives 1 (.istore_n 1) 1 2 := ⟨by decide +kernel, rfl⟩
theorem d_X8_fives_2 : zDc M_X8_fives 2 (.iconst 0) 1 3 := ⟨by decide +kernel, rfl⟩
theorem d_X8_fives_3 : zDc M_X8_fives 3 (.istore_n 2) 1 4 := ⟨by decide +kernel, rfl⟩
theorem d_X8_fives_4 : zDc M_X8_fives 4 (.iload_n 2) 1 5 := ⟨by decide +kernel, rfl⟩
theorem d_X8_fives_5 : zDc M_X8_fives 5 (.iload_n 0) 1 6 := ⟨by decide +kernel, rfl⟩
theorem d_X8_fives_6 : zDj M_X8_fives 6 (.if_icmp .ge 13) 13 9 19 := ⟨by decide +kernel, rfl, by decide⟩
theorem d_X8_fives_9 : zDc M_X8_fives 9 (.iload_n 1) 1 10 := ⟨by decide +kernel, rfl⟩
theorem d_X8_fives_10 : zDc M_X8_fives 10 (.iconst 5) 1 11 := ⟨by decide +kernel, rfl⟩
theorem d_X8_fives_11 : zDc M_X8_fives 11 (.imul) 1 12 := ⟨by decide +kernel, rfl⟩
theorem d_X8_fives_12 : zDc M_X8_fives 12 (.istore_n 1) 1 13 := ⟨by decide +kernel, rfl⟩
theorem d_X8_fives_13 : zDc M_X8_fives 13 (.iinc 2 1) 3 16 := ⟨by decide +kernel, rfl⟩
theorem d_X8_fives_16 : zDj M_X8_fives 16 (.goto (-12)) (-12) 19 4 := ⟨by decide +kernel, rfl, by decide⟩
theorem d_X8_fives_19 : zDc M_X8_fives 19 (.iload_n 1) 1 20 := ⟨by decide +kernel, rfl⟩
theorem d_X8_fives_20 : zDc M_X8_fives 20 (.ireturn) 1 21 := ⟨by decide +kernel, rfl⟩
def f_X8_fives (a0 : Int32) (h0 : zHp) : Option (Int32 × zHp) :=
  zbd (
  zlp (σ := (Int32 × Int32)) (β := (Int32 × Int32)) zLF (fun s1 h2 =>
  if a0 ≤ s1.2 then
  some ((.inr (s1.1, s1.2)), h2)
  else
  some ((.inl ((s1.1 * 5), (s1.2 + 1))), h2)) (1, 0) h0) (fun e3 h4 =>
  some (e3.1, h4))
set_option maxRecDepth 100000 in
set_option maxHeartbeats 4000000 in
theorem t_X8_fives (a0 : Int32) (h0 : zHp) : ∀ (r : Int32) (h' : zHp), f_X8_fives a0 h0 = some (r, h') → zCt yX8_fives (.code yX8_fives cX8_fives 3 (some .int)) 1 60 0 0 [.int a0] h0 (some (.int r)) h' := by
  refine zct_of M_X8_fives yX8_fives (by decide) rfl rfl [.int a0] h0 (Nat.le_of_ble_eq_true rfl) (fun r => some (.int r)) (fun X => ?_)
  show zG X M_X8_fives (0, 0) 0 [(0, .int a0)] [] h0 (f_X8_fives a0 h0) (fun (r : Int32) h' => zKe X (some (.int r)) h')
  unfold f_X8_fives
  refine zg_iconst 1 rfl d_X8_fives_0 ?_
  refine zg_istore_n [(1, .int 1), (0, .int a0)] d_X8_fives_1 rfl (by decide) rfl ?_
  refine zg_iconst 0 rfl d_X8_fives_2 ?_
  refine zg_istore_n [(2, .int 0), (1, .int 1), (0, .int a0)] d_X8_fives_3 rfl (by decide) rfl ?_
  refine zg_bd (E := 19) (el := (fun (e3 : (Int32 × Int32)) => [(0, .int a0), (1, .int e3.1), (2, .int e3.2)])) (es := fun _ => []) (zg_sub [2, 1, 0] rfl (zg_lp (el := (fun (s1 : (Int32 × Int32)) => [(0, .int a0), (1, .int s1.1), (2, .int s1.2)])) (fun s1 h2 => ?_) (1, 0) h0)) (fun e3 h4 => ?_)
  · refine zg_iload_n 2 rfl d_X8_fives_4 ?_
    refine zg_iload_n 0 rfl d_X8_fives_5 ?_
    refine zg_icmp_ge d_X8_fives_6 ?_ ?_
    · exact zg_finK (E := 0) [0, 1, 2] rfl rfl (fun q => q)
    · refine zg_iload_n 1 rfl d_X8_fives_9 ?_
      refine zg_iconst 5 rfl d_X8_fives_10 ?_
      refine zg_imul d_X8_fives_11 ?_
      refine zg_istore_n [(1, .int (s1.1 * 5)), (0, .int a0), (2, .int s1.2)] d_X8_fives_12 rfl (by decide) rfl ?_
      refine zg_iinc 2 (s1.2 + 1) [(2, .int (s1.2 + 1)), (1, .int (s1.1 * 5)), (0, .int a0)] d_X8_fives_13 rfl rfl (by decide) rfl ?_
      refine zg_goto d_X8_fives_16 ?_
      exact zg_finK (E := 0) [2, 1, 0] rfl rfl (fun q => q)
  · refine zg_iload_n 1 rfl d_X8_fives_19 ?_
    exact zg_iretK d_X8_fives_20 rfl ⟨Nat.le_of_ble_eq_true rfl, Nat.le_of_ble_eq_true rfl⟩ (fun q => q)
abbrev M_X8_found : zMt := (RX8, cX8_found, 5, 1, 60, (some .int), "found", 0, 0)
theorem d_X8_found_0 : zDc M_X8_found 0 (.iconst 0) 1 1 := ⟨by decide +kernel, rfl⟩
theorem d_X8_found_1 : zDc M_X8_found 1 (.istore 4) 2 3 := ⟨by decide +kernel, rfl⟩
theorem d_X8_found_3 : zDc M_X8_found 3 (.iload 4) 2 5 := ⟨by decide +kernel, rfl⟩
theorem d_X8_found_5 : zDc M_X8_found 5 (.iload_n 2) 1 6 := ⟨by decide +kernel, rfl⟩
theorem d_X8_found_6 : zDj M_X8_found 6 (.if_icmp .ge 22) 22 9 28 := ⟨by decide +kernel, rfl, by decide⟩
theorem d_X8_found_9 : zDc M_X8_found 9 (.aload_n 0) 1 10 := ⟨by decide +kernel, rfl⟩
theorem d_X8_found_10 : zDc M_X8_found 10 (.iload_n 1) 1 11 := ⟨by decide +kernel, rfl⟩
theorem d_X8_found_11 : zDc M_X8_found 11 (.iload 4) 2 13 := ⟨by decide +kernel, rfl⟩
theorem d_X8_found_13 : zDc M_X8_found 13 (.iadd) 1 14 := ⟨by decide +kernel, rfl⟩
theorem d_X8_found_14 : zDc M_X8_found 14 (.iaload) 1 15 := ⟨by decide +kernel, rfl⟩
theorem d_X8_found_15 : zDc M_X8_found 15 (.iload_n 3) 1 16 := ⟨by decide +kernel, rfl⟩
theorem d_X8_found_16 : zDj M_X8_found 16 (.if_icmp .ne 6) 6 19 22 := ⟨by decide +kernel, rfl, by decide⟩
theorem d_X8_found_19 : zDc M_X8_found 19 (.iload 4) 2 21 := ⟨by decide +kernel, rfl⟩
theorem d_X8_found_21 : zDc M_X8_found 21 (.ireturn) 1 22 := ⟨by decide +kernel, rfl⟩
theorem d_X8_found_22 : zDc M_X8_found 22 (.iinc 4 1) 3 25 := ⟨by decide +kernel, rfl⟩
theorem d_X8_found_25 : zDj M_X8_found 25 (.goto (-22)) (-22) 28 3 := ⟨by decide +kernel, rfl, by decide⟩
theorem d_X8_found_28 : zDc M_X8_found 28 (.iconst (-1)) 1 29 := ⟨by decide +kernel, rfl⟩
theorem d_X8_found_29 : zDc M_X8_found 29 (.ireturn) 1 30 := ⟨by decide +kernel, rfl⟩
def f_X8_found (a0 : Nat) (a1 : Int32) (a2 : Int32) (a3 : Int32) (h0 : zHp) : Option (Int32 × zHp) :=
  zbd (
  zlp (σ := Int32) (β := (Int32 ⊕ Int32)) zLF (fun s1 h2 =>
  if a2 ≤ s1 then
  some ((.inr (.inl s1)), h2)
  else
  zob (zaI 0 h2 a0 (a1 + s1)) (fun v5 =>
  if v5 = a3 then
  some ((.inr (.inr s1)), h2)
  else
  some ((.inl (s1 + 1)), h2))) 0 h0) (fun b6 h4 => zsl b6 (fun e3 =>
  some ((-1), h4)) (fun r => some (r, h4)))
set_option maxRecDepth 100000 in
set_option maxHeartbeats 4000000 in
theorem t_X8_found (a0 : Nat) (a1 : Int32) (a2 : Int32) (a3 : Int32) (h0 : zHp) : ∀ (r : Int32) (h' : zHp), f_X8_found a0 a1 a2 a3 h0 = some (r, h') → zCt yX8_found (.code yX8_found cX8_found 5 (some .int)) 1 60 0 0 [.ref a0, .int a1, .int a2, .int a3] h0 (some (.int r)) h' := by
  refine zct_of M_X8_found yX8_found (by decide) rfl rfl [.ref a0, .int a1, .int a2, .int a3] h0 (Nat.le_of_ble_eq_true rfl) (fun r => some (.int r)) (fun X => ?_)
  show zG X M_X8_found (0, 0) 0 [(0, .ref a0), (1, .int a1), (2, .int a2), (3, .int a3)] [] h0 (f_X8_found a0 a1 a2 a3 h0) (fun (r : Int32) h' => zKe X (some (.int r)) h')
  unfold f_X8_found
  refine zg_iconst 0 rfl d_X8_found_0 ?_
  refine zg_istore [(4, .int 0), (0, .ref a0), (1, .int a1), (2, .int a2), (3, .int a3)] d_X8_found_1 (by decide) rfl ?_
  refine zg_bdr (E := 28) (el := (fun (e3 : Int32) => [(0, .ref a0), (1, .int a1), (2, .int a2), (3, .int a3), (4, .int e3)])) (es := fun _ => []) (zg_sub [1, 2, 3, 4, 0] rfl (zg_lp (el := (fun (s1 : Int32) => [(0, .ref a0), (1, .int a1), (2, .int a2), (3, .int a3), (4, .int s1)])) (fun s1 h2 => ?_) 0 h0)) (fun e3 h4 => ?_)
  · refine zg_iload 4 rfl d_X8_found_3 ?_
    refine zg_iload_n 2 rfl d_X8_found_5 ?_
    refine zg_icmp_ge d_X8_found_6 ?_ ?_
    · exact zg_finK (E := 0) [0, 1, 2, 3, 4] rfl rfl (fun q => q)
    · refine zg_aload_n 0 rfl d_X8_found_9 ?_
      refine zg_iload_n 1 rfl d_X8_found_10 ?_
      refine zg_iload 4 rfl d_X8_found_11 ?_
      refine zg_iadd d_X8_found_13 ?_
      refine zg_ald0 d_X8_found_14 (fun v5 => ?_)
      refine zg_iload_n 3 rfl d_X8_found_15 ?_
      refine zg_icmp_ne d_X8_found_16 ?_ ?_
      · refine zg_iload 4 rfl d_X8_found_19 ?_
        exact zg_iretK d_X8_found_21 rfl ⟨Nat.le_of_ble_eq_true rfl, Nat.le_of_ble_eq_true rfl⟩ (fun q => q)
      · refine zg_iinc 4 (s1 + 1) [(4, .int (s1 + 1)), (0, .ref a0), (1, .int a1), (2, .int a2), (3, .int a3)] d_X8_found_22 rfl rfl (by decide) rfl ?_
        refine zg_goto d_X8_found_25 ?_
        exact zg_finK (E := 0) [1, 2, 3, 4, 0] rfl rfl (fun q => q)
  · refine zg_iconst (-1) rfl d_X8_found_28 ?_
    exact zg_iretK d_X8_found_29 rfl ⟨Nat.le_of_ble_eq_true rfl, Nat.le_of_ble_eq_true rfl⟩ (fun q => q)
abbrev M_X8_give : zMt := (RX8, cX8_give, 3, 3, 106, (some .boolean), "give", 0, 0)
theorem d_X8_give_0 : zDc M_X8_give 0 (.aload_n 0) 1 1 := ⟨by decide +kernel, rfl⟩
theorem d_X8_give_1 : zDc M_X8_give 1 (.iconst 0) 1 2 := ⟨by decide +kernel, rfl⟩
theorem d_X8_give_2 : zDc M_X8_give 2 (.putfield 151) 3 5 := ⟨by decide +kernel, rfl⟩
theorem d_X8_give_5 : zDc M_X8_give 5 (.aload_n 0) 1 6 := ⟨by decide +kernel, rfl⟩
theorem d_X8_give_6 : zDc M_X8_give 6 (.iload_n 1) 1 7 := ⟨by decide +kernel, rfl⟩
theorem d_X8_give_7 : zDc M_X8_give 7 (.invokevirtual 422) 3 10 := ⟨by decide +kernel, rfl⟩
theorem d_X8_give_10 : zDj M_X8_give 10 (.ifCond .eq 35) 35 13 45 := ⟨by decide +kernel, rfl, by decide⟩
theorem d_X8_give_13 : zDc M_X8_give 13 (.iload_n 2) 1 14 := ⟨by decide +kernel, rfl⟩
theorem d_X8_give_14 : zDc M_X8_give 14 (.iconst (-1)) 1 15 := ⟨by decide +kernel, rfl⟩
theorem d_X8_give_15 : zDj M_X8_give 15 (.if_icmp .eq 11) 11 18 26 := ⟨by decide +kernel, rfl, by decide⟩
theorem d_X8_give_18 : zDc M_X8_give 18 (.aload_n 0) 1 19 := ⟨by decide +kernel, rfl⟩
theorem d_X8_give_19 : zDc M_X8_give 19 (.iload_n 2) 1 20 := ⟨by decide +kernel, rfl⟩
theorem d_X8_give_20 : zDc M_X8_give 20 (.invokevirtual 425) 3 23 := ⟨by decide +kernel, rfl⟩
theorem d_X8_give_23 : zDj M_X8_give 23 (.ifCond .eq 22) 22 26 45 := ⟨by decide +kernel, rfl, by decide⟩
theorem d_X8_give_26 : zDc M_X8_give 26 (.aload_n 0) 1 27 := ⟨by decide +kernel, rfl⟩
theorem d_X8_give_27 : zDc M_X8_give 27 (.iconst 0) 1 28 := ⟨by decide +kernel, rfl⟩
theorem d_X8_give_28 : zDc M_X8_give 28 (.iload_n 1) 1 29 := ⟨by decide +kernel, rfl⟩
theorem d_X8_give_29 : zDc M_X8_give 29 (.invokevirtual 351) 3 32 := ⟨by decide +kernel, rfl⟩
theorem d_X8_give_32 : zDj M_X8_give 32 (.ifCond .eq 13) 13 35 45 := ⟨by decide +kernel, rfl, by decide⟩
theorem d_X8_give_35 : zDc M_X8_give 35 (.aload_n 0) 1 36 := ⟨by decide +kernel, rfl⟩
theorem d_X8_give_36 : zDc M_X8_give 36 (.getfield 90) 3 39 := ⟨by decide +kernel, rfl⟩
theorem d_X8_give_39 : zDc M_X8_give 39 (.iload_n 1) 1 40 := ⟨by decide +kernel, rfl⟩
theorem d_X8_give_40 : zDc M_X8_give 40 (.iaload) 1 41 := ⟨by decide +kernel, rfl⟩
theorem d_X8_give_41 : zDc M_X8_give 41 (.iload_n 2) 1 42 := ⟨by decide +kernel, rfl⟩
theorem d_X8_give_42 : zDj M_X8_give 42 (.if_icmp .ne 5) 5 45 47 := ⟨by decide +kernel, rfl, by decide⟩
theorem d_X8_give_45 : zDc M_X8_give 45 (.iconst 0) 1 46 := ⟨by decide +kernel, rfl⟩
theorem d_X8_give_46 : zDc M_X8_give 46 (.ireturn) 1 47 := ⟨by decide +kernel, rfl⟩
theorem d_X8_give_47 : zDc M_X8_give 47 (.aload_n 0) 1 48 := ⟨by decide +kernel, rfl⟩
theorem d_X8_give_48 : zDc M_X8_give 48 (.invokevirtual 444) 3 51 := ⟨by decide +kernel, rfl⟩
theorem d_X8_give_51 : zDc M_X8_give 51 (.aload_n 0) 1 52 := ⟨by decide +kernel, rfl⟩
theorem d_X8_give_52 : zDc M_X8_give 52 (.getfield 90) 3 55 := ⟨by decide +kernel, rfl⟩
theorem d_X8_give_55 : zDc M_X8_give 55 (.iload_n 1) 1 56 := ⟨by decide +kernel, rfl⟩
theorem d_X8_give_56 : zDc M_X8_give 56 (.iload_n 2) 1 57 := ⟨by decide +kernel, rfl⟩
theorem d_X8_give_57 : zDc M_X8_give 57 (.iastore) 1 58 := ⟨by decide +kernel, rfl⟩
theorem d_X8_give_58 : zDc M_X8_give 58 (.iconst 1) 1 59 := ⟨by decide +kernel, rfl⟩
theorem d_X8_give_59 : zDc M_X8_give 59 (.ireturn) 1 60 := ⟨by decide +kernel, rfl⟩
def f_X8_give (a0 : Nat) (a1 : Int32) (a2 : Int32) (h0 : zHp) : Option (Int32 × zHp) :=
  zob (zpV h0 a0 8 0 (.int 0)) (fun h1 =>
  zbd (zcv 8 a0 h1 (f_X8_isCloud a0 a1 h1)) (fun v3 h2 =>
  if v3 = 0 then
  some (0, h2)
  else
  if a2 = (-1) then
  zbd (zcv 8 a0 h2 (f_X8_isUp a0 0 a1 h2)) (fun v5 h4 =>
  if v5 = 0 then
  some (0, h4)
  else
  zob (zgR h4 a0 8 41) (fun v6 =>
  zob (zaI 0 h4 v6 a1) (fun v7 =>
  if v7 = a2 then
  some (0, h4)
  else
  zbd (zcv 8 a0 h4 (f_X8_keepNow a0 h4)) (fun v9 h8 =>
  zob (zgR h8 a0 8 41) (fun v10 =>
  zob (zsI 0 h8 v10 a1 a2) (fun h11 =>
  some (1, h11)))))))
  else
  zbd (zcv 8 a0 h2 (f_X8_isChild a0 a2 h2)) (fun v13 h12 =>
  if v13 = 0 then
  some (0, h12)
  else
  zbd (zcv 8 a0 h12 (f_X8_isUp a0 0 a1 h12)) (fun v15 h14 =>
  if v15 = 0 then
  some (0, h14)
  else
  zob (zgR h14 a0 8 41) (fun v16 =>
  zob (zaI 0 h14 v16 a1) (fun v17 =>
  if v17 = a2 then
  some (0, h14)
  else
  zbd (zcv 8 a0 h14 (f_X8_keepNow a0 h14)) (fun v19 h18 =>
  zob (zgR h18 a0 8 41) (fun v20 =>
  zob (zsI 0 h18 v20 a1 a2) (fun h21 =>
  some (1, h21))))))))))
set_option maxRecDepth 100000 in
set_option maxHeartbeats 4000000 in
theorem t_X8_give (a0 : Nat) (a1 : Int32) (a2 : Int32) (h0 : zHp) : ∀ (r : Int32) (h' : zHp), f_X8_give a0 a1 a2 h0 = some (r, h') → zCt yX8_give (.code yX8_give cX8_give 3 (some .boolean)) 3 106 0 0 [.ref a0, .int a1, .int a2] h0 (some (.int r)) h' := by
  refine zct_of M_X8_give yX8_give (by decide) rfl rfl [.ref a0, .int a1, .int a2] h0 (Nat.le_of_ble_eq_true rfl) (fun r => some (.int r)) (fun X => ?_)
  show zG X M_X8_give (0, 0) 0 [(0, .ref a0), (1, .int a1), (2, .int a2)] [] h0 (f_X8_give a0 a1 a2 h0) (fun (r : Int32) h' => zKe X (some (.int r)) h')
  unfold f_X8_give
  refine zg_aload_n 0 rfl d_X8_give_0 ?_
  refine zg_iconst 0 rfl d_X8_give_1 ?_
  refine zg_putV d_X8_give_2 zc_8 (by decide) fl_X8_151 rfl rfl rfl (fun h1 => ?_)
  refine zg_aload_n 0 rfl d_X8_give_5 ?_
  refine zg_iload_n 1 rfl d_X8_give_6 ?_
  refine zg_cVi (b := a0) (As := [.int a1]) (rest := []) (0, 0) d_X8_give_7 zc_8 rfl cw_X8_422 wi_X8_isCloud ws_X8_isCloud rfl rfl (Nat.le_of_ble_eq_true rfl) (by decide) (by decide) ⟨by decide, by decide⟩ rfl (t_X8_isCloud a0 a1 h1) (fun v3 h2 => ?_)
  refine zg_if_eq d_X8_give_10 ?_ ?_
  · refine zg_iconst 0 rfl d_X8_give_45 ?_
    exact zg_zretK d_X8_give_46 rfl ⟨Nat.le_of_ble_eq_true rfl, Nat.le_of_ble_eq_true rfl⟩ (Or.inl rfl) (fun q => q)
  · refine zg_iload_n 2 rfl d_X8_give_13 ?_
    refine zg_iconst (-1) rfl d_X8_give_14 ?_
    refine zg_icmp_eq d_X8_give_15 ?_ ?_
    · refine zg_aload_n 0 rfl d_X8_give_26 ?_
      refine zg_iconst 0 rfl d_X8_give_27 ?_
      refine zg_iload_n 1 rfl d_X8_give_28 ?_
      refine zg_cVi (b := a0) (As := [.int 0, .int a1]) (rest := []) (0, 0) d_X8_give_29 zc_8 rfl cw_X8_351 wi_X8_isUp ws_X8_isUp rfl rfl (Nat.le_of_ble_eq_true rfl) (by decide) (by decide) ⟨by decide, by decide⟩ rfl (t_X8_isUp a0 0 a1 h2) (fun v5 h4 => ?_)
      refine zg_if_eq d_X8_give_32 ?_ ?_
      · refine zg_iconst 0 rfl d_X8_give_45 ?_
        exact zg_zretK d_X8_give_46 rfl ⟨Nat.le_of_ble_eq_true rfl, Nat.le_of_ble_eq_true rfl⟩ (Or.inl rfl) (fun q => q)
      · refine zg_aload_n 0 rfl d_X8_give_35 ?_
        refine zg_getR d_X8_give_36 zc_8 (by decide) fl_X8_90 (fun v6 => ?_)
        refine zg_iload_n 1 rfl d_X8_give_39 ?_
        refine zg_ald0 d_X8_give_40 (fun v7 => ?_)
        refine zg_iload_n 2 rfl d_X8_give_41 ?_
        refine zg_icmp_ne d_X8_give_42 ?_ ?_
        · refine zg_iconst 0 rfl d_X8_give_45 ?_
          exact zg_zretK d_X8_give_46 rfl ⟨Nat.le_of_ble_eq_true rfl, Nat.le_of_ble_eq_true rfl⟩ (Or.inl rfl) (fun q => q)
        · refine zg_aload_n 0 rfl d_X8_give_47 ?_
          refine zg_cVv (b := a0) (As := []) (rest := []) (0, 0) d_X8_give_48 zc_8 rfl cw_X8_444 wi_X8_keepNow ws_X8_keepNow rfl rfl (Nat.le_of_ble_eq_true rfl) (by decide) (by decide) ⟨by decide, by decide⟩ rfl (t_X8_keepNow a0 h4) (fun v9 h8 => ?_)
          refine zg_aload_n 0 rfl d_X8_give_51 ?_
          refine zg_getR d_X8_give_52 zc_8 (by decide) fl_X8_90 (fun v10 => ?_)
          refine zg_iload_n 1 rfl d_X8_give_55 ?_
          refine zg_iload_n 2 rfl d_X8_give_56 ?_
          refine zg_ast0 d_X8_give_57 (fun h11 => ?_)
          refine zg_iconst 1 rfl d_X8_give_58 ?_
          exact zg_zretK d_X8_give_59 rfl ⟨Nat.le_of_ble_eq_true rfl, Nat.le_of_ble_eq_true rfl⟩ (Or.inr rfl) (fun q => q)
    · refine zg_aload_n 0 rfl d_X8_give_18 ?_
      refine zg_iload_n 2 rfl d_X8_give_19 ?_
      refine zg_cVi (b := a0) (As := [.int a2]) (rest := []) (0, 0) d_X8_give_20 zc_8 rfl cw_X8_425 wi_X8_isChild ws_X8_isChild rfl rfl (Nat.le_of_ble_eq_true rfl) (by decide) (by decide) ⟨by decide, by decide⟩ rfl (t_X8_isChild a0 a2 h2) (fun v13 h12 => ?_)
      refine zg_if_eq d_X8_give_23 ?_ ?_
      · refine zg_iconst 0 rfl d_X8_give_45 ?_
        exact zg_zretK d_X8_give_46 rfl ⟨Nat.le_of_ble_eq_true rfl, Nat.le_of_ble_eq_true rfl⟩ (Or.inl rfl) (fun q => q)
      · refine zg_aload_n 0 rfl d_X8_give_26 ?_
        refine zg_iconst 0 rfl d_X8_give_27 ?_
        refine zg_iload_n 1 rfl d_X8_give_28 ?_
        refine zg_cVi (b := a0) (As := [.int 0, .int a1]) (rest := []) (0, 0) d_X8_give_29 zc_8 rfl cw_X8_351 wi_X8_isUp ws_X8_isUp rfl rfl (Nat.le_of_ble_eq_true rfl) (by decide) (by decide) ⟨by decide, by decide⟩ rfl (t_X8_isUp a0 0 a1 h12) (fun v15 h14 => ?_)
        refine zg_if_eq d_X8_give_32 ?_ ?_
        · refine zg_iconst 0 rfl d_X8_give_45 ?_
          exact zg_zretK d_X8_give_46 rfl ⟨Nat.le_of_ble_eq_true rfl, Nat.le_of_ble_eq_true rfl⟩ (Or.inl rfl) (fun q => q)
        · refine zg_aload_n 0 rfl d_X8_give_35 ?_
          refine zg_getR d_X8_give_36 zc_8 (by decide) fl_X8_90 (fun v16 => ?_)
          refine zg_iload_n 1 rfl d_X8_give_39 ?_
          refine zg_ald0 d_X8_give_40 (fun v17 => ?_)
          refine zg_iload_n 2 rfl d_X8_give_41 ?_
          refine zg_icmp_ne d_X8_give_42 ?_ ?_
          · refine zg_iconst 0 rfl d_X8_give_45 ?_
            exact zg_zretK d_X8_give_46 rfl ⟨Nat.le_of_ble_eq_true rfl, Nat.le_of_ble_eq_true rfl⟩ (Or.inl rfl) (fun q => q)
          · refine zg_aload_n 0 rfl d_X8_give_47 ?_
            refine zg_cVv (b := a0) (As := []) (rest := []) (0, 0) d_X8_give_48 zc_8 rfl cw_X8_444 wi_X8_keepNow ws_X8_keepNow rfl rfl (Nat.le_of_ble_eq_true rfl) (by decide) (by decide) ⟨by decide, by decide⟩ rfl (t_X8_keepNow a0 h14) (fun v19 h18 => ?_)
            refine zg_aload_n 0 rfl d_X8_give_51 ?_
            refine zg_getR d_X8_give_52 zc_8 (by decide) fl_X8_90 (fun v20 => ?_)
            refine zg_iload_n 1 rfl d_X8_give_55 ?_
            refine zg_iload_n 2 rfl d_X8_give_56 ?_
            refine zg_ast0 d_X8_give_57 (fun h21 => ?_)
            refine zg_iconst 1 rfl d_X8_give_58 ?_
            exact zg_zretK d_X8_give_59 rfl ⟨Nat.le_of_ble_eq_true rfl, Nat.le_of_ble_eq_true rfl⟩ (Or.inr rfl) (fun q => q)
abbrev M_X8_ground : zMt := (RX8, cX8_ground, 3, 2, 81, (some .int), "ground", 0, 0)
theorem d_X8_ground_0 : zDc M_X8_ground 0 (.aload_n 0) 1 1 := ⟨by decide +kernel, rfl⟩
theorem d_X8_ground_1 : zDc M_X8_ground 1 (.iconst 0) 1 2 := ⟨by decide +kernel, rfl⟩
theorem d_X8_ground_2 : zDc M_X8_ground 2 (.putfield 151) 3 5 := ⟨by decide +kernel, rfl⟩
theorem d_X8_ground_5 : zDc M_X8_ground 5 (.iload_n 1) 1 6 := ⟨by decide +kernel, rfl⟩
theorem d_X8_ground_6 : zDc M_X8_ground 6 (.iload_n 2) 1 7 := ⟨by decide +kernel, rfl⟩
theorem d_X8_ground_7 : zDc M_X8_ground 7 (.invokestatic 378) 3 10 := ⟨by decide +kernel, rfl⟩
theorem d_X8_ground_10 : zDj M_X8_ground 10 (.ifCond .eq 17) 17 13 27 := ⟨by decide +kernel, rfl, by decide⟩
theorem d_X8_ground_13 : zDc M_X8_ground 13 (.aload_n 0) 1 14 := ⟨by decide +kernel, rfl⟩
theorem d_X8_ground_14 : zDc M_X8_ground 14 (.getfield 16) 3 17 := ⟨by decide +kernel, rfl⟩
theorem d_X8_ground_17 : zDc M_X8_ground 17 (.bipush 6) 2 19 := ⟨by decide +kernel, rfl⟩
theorem d_X8_ground_19 : zDc M_X8_ground 19 (.iload_n 2) 1 20 := ⟨by decide +kernel, rfl⟩
theorem d_X8_ground_20 : zDc M_X8_ground 20 (.imul) 1 21 := ⟨by decide +kernel, rfl⟩
theorem d_X8_ground_21 : zDc M_X8_ground 21 (.iload_n 1) 1 22 := ⟨by decide +kernel, rfl⟩
theorem d_X8_ground_22 : zDc M_X8_ground 22 (.iadd) 1 23 := ⟨by decide +kernel, rfl⟩
theorem d_X8_ground_23 : zDc M_X8_ground 23 (.iaload) 1 24 := ⟨by decide +kernel, rfl⟩
theorem d_X8_ground_24 : zDj M_X8_ground 24 (.goto 4) 4 27 28 := ⟨by decide +kernel, rfl, by decide⟩
theorem d_X8_ground_27 : zDc M_X8_ground 27 (.iconst (-1)) 1 28 := ⟨by decide +kernel, rfl⟩
theorem d_X8_ground_28 : zDc M_X8_ground 28 (.ireturn) 1 29 := ⟨by decide +kernel, rfl⟩
def f_X8_ground (a0 : Nat) (a1 : Int32) (a2 : Int32) (h0 : zHp) : Option (Int32 × zHp) :=
  zob (zpV h0 a0 8 0 (.int 0)) (fun h1 =>
  zbd ((f_X8_isCell a1 a2 h1)) (fun v3 h2 =>
  if v3 = 0 then
  some ((-1), h2)
  else
  zob (zgR h2 a0 8 4) (fun v4 =>
  zob (zaI 0 h2 v4 ((6 * a2) + a1)) (fun v5 =>
  some (v5, h2)))))
set_option maxRecDepth 100000 in
set_option maxHeartbeats 4000000 in
theorem t_X8_ground (a0 : Nat) (a1 : Int32) (a2 : Int32) (h0 : zHp) : ∀ (r : Int32) (h' : zHp), f_X8_ground a0 a1 a2 h0 = some (r, h') → zCt yX8_ground (.code yX8_ground cX8_ground 3 (some .int)) 2 81 0 0 [.ref a0, .int a1, .int a2] h0 (some (.int r)) h' := by
  refine zct_of M_X8_ground yX8_ground (by decide) rfl rfl [.ref a0, .int a1, .int a2] h0 (Nat.le_of_ble_eq_true rfl) (fun r => some (.int r)) (fun X => ?_)
  show zG X M_X8_ground (0, 0) 0 [(0, .ref a0), (1, .int a1), (2, .int a2)] [] h0 (f_X8_ground a0 a1 a2 h0) (fun (r : Int32) h' => zKe X (some (.int r)) h')
  unfold f_X8_ground
  refine zg_aload_n 0 rfl d_X8_ground_0 ?_
  refine zg_iconst 0 rfl d_X8_ground_1 ?_
  refine zg_putV d_X8_ground_2 zc_8 (by decide) fl_X8_151 rfl rfl rfl (fun h1 => ?_)
  refine zg_iload_n 1 rfl d_X8_ground_5 ?_
  refine zg_iload_n 2 rfl d_X8_ground_6 ?_
  refine zg_cSi (As := [.int a1, .int a2]) (rest := []) (0, 0) d_X8_ground_7 cw_X8_378 wt_X8_isCell rfl rfl (Nat.le_of_ble_eq_true rfl) (by decide) (by decide) ⟨by decide, by decide⟩ rfl (t_X8_isCell a1 a2 h1) (fun v3 h2 => ?_)
  refine zg_if_eq d_X8_ground_10 ?_ ?_
  · refine zg_iconst (-1) rfl d_X8_ground_27 ?_
    exact zg_iretK d_X8_ground_28 rfl ⟨Nat.le_of_ble_eq_true rfl, Nat.le_of_ble_eq_true rfl⟩ (fun q => q)
  · refine zg_aload_n 0 rfl d_X8_ground_13 ?_
    refine zg_getR d_X8_ground_14 zc_8 (by decide) fl_X8_16 (fun v4 => ?_)
    refine zg_bipush 6 rfl d_X8_ground_17 ?_
    refine zg_iload_n 2 rfl d_X8_ground_19 ?_
    refine zg_imul d_X8_ground_20 ?_
    refine zg_iload_n 1 rfl d_X8_ground_21 ?_
    refine zg_iadd d_X8_ground_22 ?_
    refine zg_ald0 d_X8_ground_23 (fun v5 => ?_)
    refine zg_goto d_X8_ground_24 ?_
    exact zg_iretK d_X8_ground_28 rfl ⟨Nat.le_of_ble_eq_true rfl, Nat.le_of_ble_eq_true rfl⟩ (fun q => q)
abbrev M_X8_half : zMt := (RX8, cX8_half, 3, 1, 60, none, "half", 0, 0)
theorem d_X8_half_0 : zDc M_X8_half 0 (.aload_n 0) 1 1 := ⟨by decide +kernel, rfl⟩
theorem d_X8_half_1 : zDc M_X8_half 1 (.arraylength) 1 2 := ⟨by decide +kernel, rfl⟩
theorem d_X8_half_2 : zDc M_X8_half 2 (.iconst 2) 1 3 := ⟨by decide +kernel, rfl⟩
theorem d_X8_half_3 : zDc M_X8_half 3 (.idiv) 1 4 := ⟨by decide +kernel, rfl⟩
theorem d_X8_half_4 : zDc M_X8_half 4 (.istore_n 1) 1 5 := ⟨by decide +kernel, rfl⟩
theorem d_X8_half_5 : zDc M_X8_half 5 (.iconst 0) 1 6 := ⟨by decide +kernel, rfl⟩
theorem d_X8_half_6 : zDc M_X8_half 6 (.istore_n 2) 1 7 := ⟨by decide +kernel, rfl⟩
theorem d_X8_half_7 : zDc M_X8_half 7 (.iload_n 2) 1 8 := ⟨by decide +kernel, rfl⟩
theorem d_X8_half_8 : zDc M_X8_half 8 (.iload_n 1) 1 9 := ⟨by decide +kernel, rfl⟩
theorem d_X8_half_9 : zDj M_X8_half 9 (.if_icmp .ge 17) 17 12 26 := ⟨by decide +kernel, rfl, by decide⟩
theorem d_X8_half_12 : zDc M_X8_half 12 (.aload_n 0) 1 13 := ⟨by decide +kernel, rfl⟩
theorem d_X8_half_13 : zDc M_X8_half 13 (.iload_n 2) 1 14 := ⟨by decide +kernel, rfl⟩
theorem d_X8_half_14 : zDc M_X8_half 14 (.aload_n 0) 1 15 := ⟨by decide +kernel, rfl⟩
theorem d_X8_half_15 : zDc M_X8_half 15 (.iload_n 1) 1 16 := ⟨by decide +kernel, rfl⟩
theorem d_X8_half_16 : zDc M_X8_half 16 (.iload_n 2) 1 17 := ⟨by decide +kernel, rfl⟩
theorem d_X8_half_17 : zDc M_X8_half 17 (.iadd) 1 18 := ⟨by decide +kernel, rfl⟩
theorem d_X8_half_18 : zDc M_X8_half 18 (.iaload) 1 19 := ⟨by decide +kernel, rfl⟩
theorem d_X8_half_19 : zDc M_X8_half 19 (.iastore) 1 20 := ⟨by decide +kernel, rfl⟩
theorem d_X8_half_20 : zDc M_X8_half 20 (.iinc 2 1) 3 23 := ⟨by decide +kernel, rfl⟩
theorem d_X8_half_23 : zDj M_X8_half 23 (.goto (-16)) (-16) 26 7 := ⟨by decide +kernel, rfl, by decide⟩
theorem d_X8_half_26 : zDc M_X8_half 26 (.return_) 1 27 := ⟨by decide +kernel, rfl⟩
def f_X8_half (a0 : Nat) (h0 : zHp) : Option (Unit × zHp) :=
  zob (zln h0 a0) (fun v1 =>
  zbd (
  zlp (σ := Int32) (β := Int32) zLF (fun s2 h3 =>
  if (v1 / 2) ≤ s2 then
  some ((.inr s2), h3)
  else
  zob (zaI 0 h3 a0 ((v1 / 2) + s2)) (fun v6 =>
  zob (zsI 0 h3 a0 s2 v6) (fun h7 =>
  some ((.inl (s2 + 1)), h7)))) 0 h0) (fun e4 h5 =>
  some ((), h5)))
set_option maxRecDepth 100000 in
set_option maxHeartbeats 4000000 in
theorem t_X8_half (a0 : Nat) (h0 : zHp) : ∀ (r : Unit) (h' : zHp), f_X8_half a0 h0 = some (r, h') → zCt yX8_half (.code yX8_half cX8_half 3 none) 1 60 0 0 [.ref a0] h0 (none) h' := by
  refine zct_of M_X8_half yX8_half (by decide) rfl rfl [.ref a0] h0 (Nat.le_of_ble_eq_true rfl) (fun _ => none) (fun X => ?_)
  show zG X M_X8_half (0, 0) 0 [(0, .ref a0)] [] h0 (f_X8_half a0 h0) (fun (_ : Unit) h' => zKe X (none) h')
  unfold f_X8_half
  refine zg_aload_n 0 rfl d_X8_half_0 ?_
  refine zg_len d_X8_half_1 (fun v1 => ?_)
  refine zg_iconst 2 rfl d_X8_half_2 ?_
  refine zg_idiv (by decide) d_X8_half_3 ?_
  refine zg_istore_n [(1, .int (v1 / 2)), (0, .ref a0)] d_X8_half_4 rfl (by decide) rfl ?_
  refine zg_iconst 0 rfl d_X8_half_5 ?_
  refine zg_istore_n [(2, .int 0), (1, .int (v1 / 2)), (0, .ref a0)] d_X8_half_6 rfl (by decide) rfl ?_
  refine zg_bd (E := 26) (el := (fun (e4 : Int32) => [(0, .ref a0), (1, .int (v1 / 2)), (2, .int e4)])) (es := fun _ => []) (zg_sub [2, 1, 0] rfl (zg_lp (el := (fun (s2 : Int32) => [(0, .ref a0), (1, .int (v1 / 2)), (2, .int s2)])) (fun s2 h3 => ?_) 0 h0)) (fun e4 h5 => ?_)
  · refine zg_iload_n 2 rfl d_X8_half_7 ?_
    refine zg_iload_n 1 rfl d_X8_half_8 ?_
    refine zg_icmp_ge d_X8_half_9 ?_ ?_
    · exact zg_finK (E := 0) [0, 1, 2] rfl rfl (fun q => q)
    · refine zg_aload_n 0 rfl d_X8_half_12 ?_
      refine zg_iload_n 2 rfl d_X8_half_13 ?_
      refine zg_aload_n 0 rfl d_X8_half_14 ?_
      refine zg_iload_n 1 rfl d_X8_half_15 ?_
      refine zg_iload_n 2 rfl d_X8_half_16 ?_
      refine zg_iadd d_X8_half_17 ?_
      refine zg_ald0 d_X8_half_18 (fun v6 => ?_)
      refine zg_ast0 d_X8_half_19 (fun h7 => ?_)
      refine zg_iinc 2 (s2 + 1) [(2, .int (s2 + 1)), (0, .ref a0), (1, .int (v1 / 2))] d_X8_half_20 rfl rfl (by decide) rfl ?_
      refine zg_goto d_X8_half_23 ?_
      exact zg_finK (E := 0) [1, 2, 0] rfl rfl (fun q => q)
  · exact zg_vretK d_X8_half_26 rfl ⟨Nat.le_of_ble_eq_true rfl, Nat.le_of_ble_eq_true rfl⟩ (fun q => q)
abbrev M_X8_in : zMt := (RX8, cX8_in, 3, 3, 106, (some .int), "in", 0, 0)
theorem d_X8_in_0 : zDc M_X8_in 0 (.aload_n 0) 1 1 := ⟨by decide +kernel, rfl⟩
theorem d_X8_in_1 : zDc M_X8_in 1 (.iconst 0) 1 2 := ⟨by decide +kernel, rfl⟩
theorem d_X8_in_2 : zDc M_X8_in 2 (.putfield 151) 3 5 := ⟨by decide +kernel, rfl⟩
theorem d_X8_in_5 : zDc M_X8_in 5 (.iload_n 1) 1 6 := ⟨by decide +kernel, rfl⟩
theorem d_X8_in_6 : zDc M_X8_in 6 (.iload_n 2) 1 7 := ⟨by decide +kernel, rfl⟩
theorem d_X8_in_7 : zDc M_X8_in 7 (.invokestatic 378) 3 10 := ⟨by decide +kernel, rfl⟩
theorem d_X8_in_10 : zDj M_X8_in 10 (.ifCond .eq 17) 17 13 27 := ⟨by decide +kernel, rfl, by decide⟩
theorem d_X8_in_13 : zDc M_X8_in 13 (.aload_n 0) 1 14 := ⟨by decide +kernel, rfl⟩
theorem d_X8_in_14 : zDc M_X8_in 14 (.iconst 0) 1 15 := ⟨by decide +kernel, rfl⟩
theorem d_X8_in_15 : zDc M_X8_in 15 (.bipush 6) 2 17 := ⟨by decide +kernel, rfl⟩
theorem d_X8_in_17 : zDc M_X8_in 17 (.iload_n 2) 1 18 := ⟨by decide +kernel, rfl⟩
theorem d_X8_in_18 : zDc M_X8_in 18 (.imul) 1 19 := ⟨by decide +kernel, rfl⟩
theorem d_X8_in_19 : zDc M_X8_in 19 (.iload_n 1) 1 20 := ⟨by decide +kernel, rfl⟩
theorem d_X8_in_20 : zDc M_X8_in 20 (.iadd) 1 21 := ⟨by decide +kernel, rfl⟩
theorem d_X8_in_21 : zDc M_X8_in 21 (.invokevirtual 434) 3 24 := ⟨by decide +kernel, rfl⟩
theorem d_X8_in_24 : zDj M_X8_in 24 (.goto 4) 4 27 28 := ⟨by decide +kernel, rfl, by decide⟩
theorem d_X8_in_27 : zDc M_X8_in 27 (.iconst (-1)) 1 28 := ⟨by decide +kernel, rfl⟩
theorem d_X8_in_28 : zDc M_X8_in 28 (.ireturn) 1 29 := ⟨by decide +kernel, rfl⟩
def f_X8_in (a0 : Nat) (a1 : Int32) (a2 : Int32) (h0 : zHp) : Option (Int32 × zHp) :=
  zob (zpV h0 a0 8 0 (.int 0)) (fun h1 =>
  zbd ((f_X8_isCell a1 a2 h1)) (fun v3 h2 =>
  if v3 = 0 then
  some ((-1), h2)
  else
  zbd (zcv 8 a0 h2 (f_X8_upIn a0 0 ((6 * a2) + a1) h2)) (fun v5 h4 =>
  some (v5, h4))))
set_option maxRecDepth 100000 in
set_option maxHeartbeats 4000000 in
theorem t_X8_in (a0 : Nat) (a1 : Int32) (a2 : Int32) (h0 : zHp) : ∀ (r : Int32) (h' : zHp), f_X8_in a0 a1 a2 h0 = some (r, h') → zCt yX8_in (.code yX8_in cX8_in 3 (some .int)) 3 106 0 0 [.ref a0, .int a1, .int a2] h0 (some (.int r)) h' := by
  refine zct_of M_X8_in yX8_in (by decide) rfl rfl [.ref a0, .int a1, .int a2] h0 (Nat.le_of_ble_eq_true rfl) (fun r => some (.int r)) (fun X => ?_)
  show zG X M_X8_in (0, 0) 0 [(0, .ref a0), (1, .int a1), (2, .int a2)] [] h0 (f_X8_in a0 a1 a2 h0) (fun (r : Int32) h' => zKe X (some (.int r)) h')
  unfold f_X8_in
  refine zg_aload_n 0 rfl d_X8_in_0 ?_
  refine zg_iconst 0 rfl d_X8_in_1 ?_
  refine zg_putV d_X8_in_2 zc_8 (by decide) fl_X8_151 rfl rfl rfl (fun h1 => ?_)
  refine zg_iload_n 1 rfl d_X8_in_5 ?_
  refine zg_iload_n 2 rfl d_X8_in_6 ?_
  refine zg_cSi (As := [.int a1, .int a2]) (rest := []) (0, 0) d_X8_in_7 cw_X8_378 wt_X8_isCell rfl rfl (Nat.le_of_ble_eq_true rfl) (by decide) (by decide) ⟨by decide, by decide⟩ rfl (t_X8_isCell a1 a2 h1) (fun v3 h2 => ?_)
  refine zg_if_eq d_X8_in_10 ?_ ?_
  · refine zg_iconst (-1) rfl d_X8_in_27 ?_
    exact zg_iretK d_X8_in_28 rfl ⟨Nat.le_of_ble_eq_true rfl, Nat.le_of_ble_eq_true rfl⟩ (fun q => q)
  · refine zg_aload_n 0 rfl d_X8_in_13 ?_
    refine zg_iconst 0 rfl d_X8_in_14 ?_
    refine zg_bipush 6 rfl d_X8_in_15 ?_
    refine zg_iload_n 2 rfl d_X8_in_17 ?_
    refine zg_imul d_X8_in_18 ?_
    refine zg_iload_n 1 rfl d_X8_in_19 ?_
    refine zg_iadd d_X8_in_20 ?_
    refine zg_cVi (b := a0) (As := [.int 0, .int ((6 * a2) + a1)]) (rest := []) (0, 0) d_X8_in_21 zc_8 rfl cw_X8_434 wi_X8_upIn ws_X8_upIn rfl rfl (Nat.le_of_ble_eq_true rfl) (by decide) (by decide) ⟨by decide, by decide⟩ rfl (t_X8_upIn a0 0 ((6 * a2) + a1) h2) (fun v5 h4 => ?_)
    refine zg_goto d_X8_in_24 ?_
    exact zg_iretK d_X8_in_28 rfl ⟨Nat.le_of_ble_eq_true rfl, Nat.le_of_ble_eq_true rfl⟩ (fun q => q)
abbrev M_X8_isFull : zMt := (RX8, cX8_isFull, 2, 2, 81, (some .boolean), "isFull", 0, 0)
theorem d_X8_isFull_0 : zDc M_X8_isFull 0 (.iload_n 1) 1 1 := ⟨by decide +kernel, rfl⟩
theorem d_X8_isFull_1 : zDc M_X8_isFull 1 (.iconst 2) 1 2 := ⟨by decide +kernel, rfl⟩
theorem d_X8_isFull_2 : zDj M_X8_isFull 2 (.if_icmp .ne 12) 12 5 14 := ⟨by decide +kernel, rfl, by decide⟩
theorem d_X8_isFull_5 : zDc M_X8_isFull 5 (.aload_n 0) 1 6 := ⟨by decide +kernel, rfl⟩
theorem d_X8_isFull_6 : zDc M_X8_isFull 6 (.iconst 0) 1 7 := ⟨by decide +kernel, rfl⟩
theorem d_X8_isFull_7 : zDc M_X8_isFull 7 (.invokevirtual 225) 3 10 := ⟨by decide +kernel, rfl⟩
theorem d_X8_isFull_10 : zDc M_X8_isFull 10 (.iconst 5) 1 11 := ⟨by decide +kernel, rfl⟩
theorem d_X8_isFull_11 : zDj M_X8_isFull 11 (.if_icmp .eq 48) 48 14 59 := ⟨by decide +kernel, rfl, by decide⟩
theorem d_X8_isFull_14 : zDc M_X8_isFull 14 (.iload_n 1) 1 15 := ⟨by decide +kernel, rfl⟩
theorem d_X8_isFull_15 : zDc M_X8_isFull 15 (.iconst 3) 1 16 := ⟨by decide +kernel, rfl⟩
theorem d_X8_isFull_16 : zDj M_X8_isFull 16 (.if_icmp .ne 13) 13 19 29 := ⟨by decide +kernel, rfl, by decide⟩
theorem d_X8_isFull_19 : zDc M_X8_isFull 19 (.aload_n 0) 1 20 := ⟨by decide +kernel, rfl⟩
theorem d_X8_isFull_20 : zDc M_X8_isFull 20 (.iconst 1) 1 21 := ⟨by decide +kernel, rfl⟩
theorem d_X8_isFull_21 : zDc M_X8_isFull 21 (.invokevirtual 225) 3 24 := ⟨by decide +kernel, rfl⟩
theorem d_X8_isFull_24 : zDc M_X8_isFull 24 (.bipush 8) 2 26 := ⟨by decide +kernel, rfl⟩
theorem d_X8_isFull_26 : zDj M_X8_isFull 26 (.if_icmp .eq 33) 33 29 59 := ⟨by decide +kernel, rfl, by decide⟩
theorem d_X8_isFull_29 : zDc M_X8_isFull 29 (.iload_n 1) 1 30 := ⟨by decide +kernel, rfl⟩
theorem d_X8_isFull_30 : zDc M_X8_isFull 30 (.iconst 4) 1 31 := ⟨by decide +kernel, rfl⟩
theorem d_X8_isFull_31 : zDj M_X8_isFull 31 (.if_icmp .ne 13) 13 34 44 := ⟨by decide +kernel, rfl, by decide⟩
theorem d_X8_isFull_34 : zDc M_X8_isFull 34 (.aload_n 0) 1 35 := ⟨by decide +kernel, rfl⟩
theorem d_X8_isFull_35 : zDc M_X8_isFull 35 (.iconst 2) 1 36 := ⟨by decide +kernel, rfl⟩
theorem d_X8_isFull_36 : zDc M_X8_isFull 36 (.invokevirtual 225) 3 39 := ⟨by decide +kernel, rfl⟩
theorem d_X8_isFull_39 : zDc M_X8_isFull 39 (.bipush 6) 2 41 := ⟨by decide +kernel, rfl⟩
theorem d_X8_isFull_41 : zDj M_X8_isFull 41 (.if_icmp .eq 18) 18 44 59 := ⟨by decide +kernel, rfl, by decide⟩
theorem d_X8_isFull_44 : zDc M_X8_isFull 44 (.iload_n 1) 1 45 := ⟨by decide +kernel, rfl⟩
theorem d_X8_isFull_45 : zDc M_X8_isFull 45 (.iconst 5) 1 46 := ⟨by decide +kernel, rfl⟩
theorem d_X8_isFull_46 : zDj M_X8_isFull 46 (.if_icmp .ne 17) 17 49 63 := ⟨by decide +kernel, rfl, by decide⟩
theorem d_X8_isFull_49 : zDc M_X8_isFull 49 (.aload_n 0) 1 50 := ⟨by decide +kernel, rfl⟩
theorem d_X8_isFull_50 : zDc M_X8_isFull 50 (.iconst 3) 1 51 := ⟨by decide +kernel, rfl⟩
theorem d_X8_isFull_51 : zDc M_X8_isFull 51 (.invokevirtual 225) 3 54 := ⟨by decide +kernel, rfl⟩
theorem d_X8_isFull_54 : zDc M_X8_isFull 54 (.bipush 12) 2 56 := ⟨by decide +kernel, rfl⟩
theorem d_X8_isFull_56 : zDj M_X8_isFull 56 (.if_icmp .ne 7) 7 59 63 := ⟨by decide +kernel, rfl, by decide⟩
theorem d_X8_isFull_59 : zDc M_X8_isFull 59 (.iconst 1) 1 60 := ⟨by decide +kernel, rfl⟩
theorem d_X8_isFull_60 : zDj M_X8_isFull 60 (.goto 4) 4 63 64 := ⟨by decide +kernel, rfl, by decide⟩
theorem d_X8_isFull_63 : zDc M_X8_isFull 63 (.iconst 0) 1 64 := ⟨by decide +kernel, rfl⟩
theorem d_X8_isFull_64 : zDc M_X8_isFull 64 (.ireturn) 1 65 := ⟨by decide +kernel, rfl⟩
def f_X8_isFull (a0 : Nat) (a1 : Int32) (h0 : zHp) : Option (Int32 × zHp) :=
  if a1 = 2 then
  zbd (zcv 8 a0 h0 (f_X8_fresher a0 0 h0)) (fun v2 h1 =>
  if v2 = 5 then
  some (1, h1)
  else
  if a1 = 3 then
  zbd (zcv 8 a0 h1 (f_X8_fresher a0 1 h1)) (fun v4 h3 =>
  if v4 = 8 then
  some (1, h3)
  else
  if a1 = 4 then
  zbd (zcv 8 a0 h3 (f_X8_fresher a0 2 h3)) (fun v6 h5 =>
  if v6 = 6 then
  some (1, h5)
  else
  if a1 = 5 then
  zbd (zcv 8 a0 h5 (f_X8_fresher a0 3 h5)) (fun v8 h7 =>
  if v8 = 12 then
  some (1, h7)
  else
  some (0, h7))
  else
  some (0, h5))
  else
  if a1 = 5 then
  zbd (zcv 8 a0 h3 (f_X8_fresher a0 3 h3)) (fun v10 h9 =>
  if v10 = 12 then
  some (1, h9)
  else
  some (0, h9))
  else
  some (0, h3))
  else
  if a1 = 4 then
  zbd (zcv 8 a0 h1 (f_X8_fresher a0 2 h1)) (fun v12 h11 =>
  if v12 = 6 then
  some (1, h11)
  else
  if a1 = 5 then
  zbd (zcv 8 a0 h11 (f_X8_fresher a0 3 h11)) (fun v14 h13 =>
  if v14 = 12 then
  some (1, h13)
  else
  some (0, h13))
  else
  some (0, h11))
  else
  if a1 = 5 then
  zbd (zcv 8 a0 h1 (f_X8_fresher a0 3 h1)) (fun v16 h15 =>
  if v16 = 12 then
  some (1, h15)
  else
  some (0, h15))
  else
  some (0, h1))
  else
  if a1 = 3 then
  zbd (zcv 8 a0 h0 (f_X8_fresher a0 1 h0)) (fun v18 h17 =>
  if v18 = 8 then
  some (1, h17)
  else
  if a1 = 4 then
  zbd (zcv 8 a0 h17 (f_X8_fresher a0 2 h17)) (fun v20 h19 =>
  if v20 = 6 then
  some (1, h19)
  else
  if a1 = 5 then
  zbd (zcv 8 a0 h19 (f_X8_fresher a0 3 h19)) (fun v22 h21 =>
  if v22 = 12 then
  some (1, h21)
  else
  some (0, h21))
  else
  some (0, h19))
  else
  if a1 = 5 then
  zbd (zcv 8 a0 h17 (f_X8_fresher a0 3 h17)) (fun v24 h23 =>
  if v24 = 12 then
  some (1, h23)
  else
  some (0, h23))
  else
  some (0, h17))
  else
  if a1 = 4 then
  zbd (zcv 8 a0 h0 (f_X8_fresher a0 2 h0)) (fun v26 h25 =>
  if v26 = 6 then
  some (1, h25)
  else
  if a1 = 5 then
  zbd (zcv 8 a0 h25 (f_X8_fresher a0 3 h25)) (fun v28 h27 =>
  if v28 = 12 then
  some (1, h27)
  else
  some (0, h27))
  else
  some (0, h25))
  else
  if a1 = 5 then
  zbd (zcv 8 a0 h0 (f_X8_fresher a0 3 h0)) (fun v30 h29 =>
  if v30 = 12 then
  some (1, h29)
  else
  some (0, h29))
  else
  some (0, h0)
set_option maxRecDepth 100000 in
set_option maxHeartbeats 4000000 in
theorem t_X8_isFull (a0 : Nat) (a1 : Int32) (h0 : zHp) : ∀ (r : Int32) (h' : zHp), f_X8_isFull a0 a1 h0 = some (r, h') → zCt yX8_isFull (.code yX8_isFull cX8_isFull 2 (some .boolean)) 2 81 0 0 [.ref a0, .int a1] h0 (some (.int r)) h' := by
  refine zct_of M_X8_isFull yX8_isFull (by decide) rfl rfl [.ref a0, .int a1] h0 (Nat.le_of_ble_eq_true rfl) (fun r => some (.int r)) (fun X => ?_)
  show zG X M_X8_isFull (0, 0) 0 [(0, .ref a0), (1, .int a1)] [] h0 (f_X8_isFull a0 a1 h0) (fun (r : Int32) h' => zKe X (some (.int r)) h')
  unfold f_X8_isFull
  refine zg_iload_n 1 rfl d_X8_isFull_0 ?_
  refine zg_iconst 2 rfl d_X8_isFull_1 ?_
  refine zg_icmp_ne d_X8_isFull_2 ?_ ?_
  · refine zg_aload_n 0 rfl d_X8_isFull_5 ?_
    refine zg_iconst 0 rfl d_X8_isFull_6 ?_
    refine zg_cVi (b := a0) (As := [.int 0]) (rest := []) (0, 0) d_X8_isFull_7 zc_8 rfl cw_X8_225 wi_X8_fresher ws_X8_fresher rfl rfl (Nat.le_of_ble_eq_true rfl) (by decide) (by decide) ⟨by decide, by decide⟩ rfl (t_X8_fresher a0 0 h0) (fun v2 h1 => ?_)
    refine zg_iconst 5 rfl d_X8_isFull_10 ?_
    refine zg_icmp_eq d_X8_isFull_11 ?_ ?_
    · refine zg_iconst 1 rfl d_X8_isFull_59 ?_
      refine zg_goto d_X8_isFull_60 ?_
      exact zg_zretK d_X8_isFull_64 rfl ⟨Nat.le_of_ble_eq_true rfl, Nat.le_of_ble_eq_true rfl⟩ (Or.inr rfl) (fun q => q)
    · refine zg_iload_n 1 rfl d_X8_isFull_14 ?_
      refine zg_iconst 3 rfl d_X8_isFull_15 ?_
      refine zg_icmp_ne d_X8_isFull_16 ?_ ?_
      · refine zg_aload_n 0 rfl d_X8_isFull_19 ?_
        refine zg_iconst 1 rfl d_X8_isFull_20 ?_
        refine zg_cVi (b := a0) (As := [.int 1]) (rest := []) (0, 0) d_X8_isFull_21 zc_8 rfl cw_X8_225 wi_X8_fresher ws_X8_fresher rfl rfl (Nat.le_of_ble_eq_true rfl) (by decide) (by decide) ⟨by decide, by decide⟩ rfl (t_X8_fresher a0 1 h1) (fun v4 h3 => ?_)
        refine zg_bipush 8 rfl d_X8_isFull_24 ?_
        refine zg_icmp_eq d_X8_isFull_26 ?_ ?_
        · refine zg_iconst 1 rfl d_X8_isFull_59 ?_
          refine zg_goto d_X8_isFull_60 ?_
          exact zg_zretK d_X8_isFull_64 rfl ⟨Nat.le_of_ble_eq_true rfl, Nat.le_of_ble_eq_true rfl⟩ (Or.inr rfl) (fun q => q)
        · refine zg_iload_n 1 rfl d_X8_isFull_29 ?_
          refine zg_iconst 4 rfl d_X8_isFull_30 ?_
          refine zg_icmp_ne d_X8_isFull_31 ?_ ?_
          · refine zg_aload_n 0 rfl d_X8_isFull_34 ?_
            refine zg_iconst 2 rfl d_X8_isFull_35 ?_
            refine zg_cVi (b := a0) (As := [.int 2]) (rest := []) (0, 0) d_X8_isFull_36 zc_8 rfl cw_X8_225 wi_X8_fresher ws_X8_fresher rfl rfl (Nat.le_of_ble_eq_true rfl) (by decide) (by decide) ⟨by decide, by decide⟩ rfl (t_X8_fresher a0 2 h3) (fun v6 h5 => ?_)
            refine zg_bipush 6 rfl d_X8_isFull_39 ?_
            refine zg_icmp_eq d_X8_isFull_41 ?_ ?_
            · refine zg_iconst 1 rfl d_X8_isFull_59 ?_
              refine zg_goto d_X8_isFull_60 ?_
              exact zg_zretK d_X8_isFull_64 rfl ⟨Nat.le_of_ble_eq_true rfl, Nat.le_of_ble_eq_true rfl⟩ (Or.inr rfl) (fun q => q)
            · refine zg_iload_n 1 rfl d_X8_isFull_44 ?_
              refine zg_iconst 5 rfl d_X8_isFull_45 ?_
              refine zg_icmp_ne d_X8_isFull_46 ?_ ?_
              · refine zg_aload_n 0 rfl d_X8_isFull_49 ?_
                refine zg_iconst 3 rfl d_X8_isFull_50 ?_
                refine zg_cVi (b := a0) (As := [.int 3]) (rest := []) (0, 0) d_X8_isFull_51 zc_8 rfl cw_X8_225 wi_X8_fresher ws_X8_fresher rfl rfl (Nat.le_of_ble_eq_true rfl) (by decide) (by decide) ⟨by decide, by decide⟩ rfl (t_X8_fresher a0 3 h5) (fun v8 h7 => ?_)
                refine zg_bipush 12 rfl d_X8_isFull_54 ?_
                refine zg_icmp_ne d_X8_isFull_56 ?_ ?_
                · refine zg_iconst 1 rfl d_X8_isFull_59 ?_
                  refine zg_goto d_X8_isFull_60 ?_
                  exact zg_zretK d_X8_isFull_64 rfl ⟨Nat.le_of_ble_eq_true rfl, Nat.le_of_ble_eq_true rfl⟩ (Or.inr rfl) (fun q => q)
                · refine zg_iconst 0 rfl d_X8_isFull_63 ?_
                  exact zg_zretK d_X8_isFull_64 rfl ⟨Nat.le_of_ble_eq_true rfl, Nat.le_of_ble_eq_true rfl⟩ (Or.inl rfl) (fun q => q)
              · refine zg_iconst 0 rfl d_X8_isFull_63 ?_
                exact zg_zretK d_X8_isFull_64 rfl ⟨Nat.le_of_ble_eq_true rfl, Nat.le_of_ble_eq_true rfl⟩ (Or.inl rfl) (fun q => q)
          · refine zg_iload_n 1 rfl d_X8_isFull_44 ?_
            refine zg_iconst 5 rfl d_X8_isFull_45 ?_
            refine zg_icmp_ne d_X8_isFull_46 ?_ ?_
            · refine zg_aload_n 0 rfl d_X8_isFull_49 ?_
              refine zg_iconst 3 rfl d_X8_isFull_50 ?_
              refine zg_cVi (b := a0) (As := [.int 3]) (rest := []) (0, 0) d_X8_isFull_51 zc_8 rfl cw_X8_225 wi_X8_fresher ws_X8_fresher rfl rfl (Nat.le_of_ble_eq_true rfl) (by decide) (by decide) ⟨by decide, by decide⟩ rfl (t_X8_fresher a0 3 h3) (fun v10 h9 => ?_)
              refine zg_bipush 12 rfl d_X8_isFull_54 ?_
              refine zg_icmp_ne d_X8_isFull_56 ?_ ?_
              · refine zg_iconst 1 rfl d_X8_isFull_59 ?_
                refine zg_goto d_X8_isFull_60 ?_
                exact zg_zretK d_X8_isFull_64 rfl ⟨Nat.le_of_ble_eq_true rfl, Nat.le_of_ble_eq_true rfl⟩ (Or.inr rfl) (fun q => q)
              · refine zg_iconst 0 rfl d_X8_isFull_63 ?_
                exact zg_zretK d_X8_isFull_64 rfl ⟨Nat.le_of_ble_eq_true rfl, Nat.le_of_ble_eq_true rfl⟩ (Or.inl rfl) (fun q => q)
            · refine zg_iconst 0 rfl d_X8_isFull_63 ?_
              exact zg_zretK d_X8_isFull_64 rfl ⟨Nat.le_of_ble_eq_true rfl, Nat.le_of_ble_eq_true rfl⟩ (Or.inl rfl) (fun q => q)
      · refine zg_iload_n 1 rfl d_X8_isFull_29 ?_
        refine zg_iconst 4 rfl d_X8_isFull_30 ?_
        refine zg_icmp_ne d_X8_isFull_31 ?_ ?_
        · refine zg_aload_n 0 rfl d_X8_isFull_34 ?_
          refine zg_iconst 2 rfl d_X8_isFull_35 ?_
          refine zg_cVi (b := a0) (As := [.int 2]) (rest := []) (0, 0) d_X8_isFull_36 zc_8 rfl cw_X8_225 wi_X8_fresher ws_X8_fresher rfl rfl (Nat.le_of_ble_eq_true rfl) (by decide) (by decide) ⟨by decide, by decide⟩ rfl (t_X8_fresher a0 2 h1) (fun v12 h11 => ?_)
          refine zg_bipush 6 rfl d_X8_isFull_39 ?_
          refine zg_icmp_eq d_X8_isFull_41 ?_ ?_
          · refine zg_iconst 1 rfl d_X8_isFull_59 ?_
            refine zg_goto d_X8_isFull_60 ?_
            exact zg_zretK d_X8_isFull_64 rfl ⟨Nat.le_of_ble_eq_true rfl, Nat.le_of_ble_eq_true rfl⟩ (Or.inr rfl) (fun q => q)
          · refine zg_iload_n 1 rfl d_X8_isFull_44 ?_
            refine zg_iconst 5 rfl d_X8_isFull_45 ?_
            refine zg_icmp_ne d_X8_isFull_46 ?_ ?_
            · refine zg_aload_n 0 rfl d_X8_isFull_49 ?_
              refine zg_iconst 3 rfl d_X8_isFull_50 ?_
              refine zg_cVi (b := a0) (As := [.int 3]) (rest := []) (0, 0) d_X8_isFull_51 zc_8 rfl cw_X8_225 wi_X8_fresher ws_X8_fresher rfl rfl (Nat.le_of_ble_eq_true rfl) (by decide) (by decide) ⟨by decide, by decide⟩ rfl (t_X8_fresher a0 3 h11) (fun v14 h13 => ?_)
              refine zg_bipush 12 rfl d_X8_isFull_54 ?_
              refine zg_icmp_ne d_X8_isFull_56 ?_ ?_
              · refine zg_iconst 1 rfl d_X8_isFull_59 ?_
                refine zg_goto d_X8_isFull_60 ?_
                exact zg_zretK d_X8_isFull_64 rfl ⟨Nat.le_of_ble_eq_true rfl, Nat.le_of_ble_eq_true rfl⟩ (Or.inr rfl) (fun q => q)
              · refine zg_iconst 0 rfl d_X8_isFull_63 ?_
                exact zg_zretK d_X8_isFull_64 rfl ⟨Nat.le_of_ble_eq_true rfl, Nat.le_of_ble_eq_true rfl⟩ (Or.inl rfl) (fun q => q)
            · refine zg_iconst 0 rfl d_X8_isFull_63 ?_
              exact zg_zretK d_X8_isFull_64 rfl ⟨Nat.le_of_ble_eq_true rfl, Nat.le_of_ble_eq_true rfl⟩ (Or.inl rfl) (fun q => q)
        · refine zg_iload_n 1 rfl d_X8_isFull_44 ?_
          refine zg_iconst 5 rfl d_X8_isFull_45 ?_
          refine zg_icmp_ne d_X8_isFull_46 ?_ ?_
          · refine zg_aload_n 0 rfl d_X8_isFull_49 ?_
            refine zg_iconst 3 rfl d_X8_isFull_50 ?_
            refine zg_cVi (b := a0) (As := [.int 3]) (rest := []) (0, 0) d_X8_isFull_51 zc_8 rfl cw_X8_225 wi_X8_fresher ws_X8_fresher rfl rfl (Nat.le_of_ble_eq_true rfl) (by decide) (by decide) ⟨by decide, by decide⟩ rfl (t_X8_fresher a0 3 h1) (fun v16 h15 => ?_)
            refine zg_bipush 12 rfl d_X8_isFull_54 ?_
            refine zg_icmp_ne d_X8_isFull_56 ?_ ?_
            · refine zg_iconst 1 rfl d_X8_isFull_59 ?_
              refine zg_goto d_X8_isFull_60 ?_
              exact zg_zretK d_X8_isFull_64 rfl ⟨Nat.le_of_ble_eq_true rfl, Nat.le_of_ble_eq_true rfl⟩ (Or.inr rfl) (fun q => q)
            · refine zg_iconst 0 rfl d_X8_isFull_63 ?_
              exact zg_zretK d_X8_isFull_64 rfl ⟨Nat.le_of_ble_eq_true rfl, Nat.le_of_ble_eq_true rfl⟩ (Or.inl rfl) (fun q => q)
          · refine zg_iconst 0 rfl d_X8_isFull_63 ?_
            exact zg_zretK d_X8_isFull_64 rfl ⟨Nat.le_of_ble_eq_true rfl, Nat.le_of_ble_eq_true rfl⟩ (Or.inl rfl) (fun q => q)
  · refine zg_iload_n 1 rfl d_X8_isFull_14 ?_
    refine zg_iconst 3 rfl d_X8_isFull_15 ?_
    refine zg_icmp_ne d_X8_isFull_16 ?_ ?_
    · refine zg_aload_n 0 rfl d_X8_isFull_19 ?_
      refine zg_iconst 1 rfl d_X8_isFull_20 ?_
      refine zg_cVi (b := a0) (As := [.int 1]) (rest := []) (0, 0) d_X8_isFull_21 zc_8 rfl cw_X8_225 wi_X8_fresher ws_X8_fresher rfl rfl (Nat.le_of_ble_eq_true rfl) (by decide) (by decide) ⟨by decide, by decide⟩ rfl (t_X8_fresher a0 1 h0) (fun v18 h17 => ?_)
      refine zg_bipush 8 rfl d_X8_isFull_24 ?_
      refine zg_icmp_eq d_X8_isFull_26 ?_ ?_
      · refine zg_iconst 1 rfl d_X8_isFull_59 ?_
        refine zg_goto d_X8_isFull_60 ?_
        exact zg_zretK d_X8_isFull_64 rfl ⟨Nat.le_of_ble_eq_true rfl, Nat.le_of_ble_eq_true rfl⟩ (Or.inr rfl) (fun q => q)
      · refine zg_iload_n 1 rfl d_X8_isFull_29 ?_
        refine zg_iconst 4 rfl d_X8_isFull_30 ?_
        refine zg_icmp_ne d_X8_isFull_31 ?_ ?_
        · refine zg_aload_n 0 rfl d_X8_isFull_34 ?_
          refine zg_iconst 2 rfl d_X8_isFull_35 ?_
          refine zg_cVi (b := a0) (As := [.int 2]) (rest := []) (0, 0) d_X8_isFull_36 zc_8 rfl cw_X8_225 wi_X8_fresher ws_X8_fresher rfl rfl (Nat.le_of_ble_eq_true rfl) (by decide) (by decide) ⟨by decide, by decide⟩ rfl (t_X8_fresher a0 2 h17) (fun v20 h19 => ?_)
          refine zg_bipush 6 rfl d_X8_isFull_39 ?_
          refine zg_icmp_eq d_X8_isFull_41 ?_ ?_
          · refine zg_iconst 1 rfl d_X8_isFull_59 ?_
            refine zg_goto d_X8_isFull_60 ?_
            exact zg_zretK d_X8_isFull_64 rfl ⟨Nat.le_of_ble_eq_true rfl, Nat.le_of_ble_eq_true rfl⟩ (Or.inr rfl) (fun q => q)
          · refine zg_iload_n 1 rfl d_X8_isFull_44 ?_
            refine zg_iconst 5 rfl d_X8_isFull_45 ?_
            refine zg_icmp_ne d_X8_isFull_46 ?_ ?_
            · refine zg_aload_n 0 rfl d_X8_isFull_49 ?_
              refine zg_iconst 3 rfl d_X8_isFull_50 ?_
              refine zg_cVi (b := a0) (As := [.int 3]) (rest := []) (0, 0) d_X8_isFull_51 zc_8 rfl cw_X8_225 wi_X8_fresher ws_X8_fresher rfl rfl (Nat.le_of_ble_eq_true rfl) (by decide) (by decide) ⟨by decide, by decide⟩ rfl (t_X8_fresher a0 3 h19) (fun v22 h21 => ?_)
              refine zg_bipush 12 rfl d_X8_isFull_54 ?_
              refine zg_icmp_ne d_X8_isFull_56 ?_ ?_
              · refine zg_iconst 1 rfl d_X8_isFull_59 ?_
                refine zg_goto d_X8_isFull_60 ?_
                exact zg_zretK d_X8_isFull_64 rfl ⟨Nat.le_of_ble_eq_true rfl, Nat.le_of_ble_eq_true rfl⟩ (Or.inr rfl) (fun q => q)
              · refine zg_iconst 0 rfl d_X8_isFull_63 ?_
                exact zg_zretK d_X8_isFull_64 rfl ⟨Nat.le_of_ble_eq_true rfl, Nat.le_of_ble_eq_true rfl⟩ (Or.inl rfl) (fun q => q)
            · refine zg_iconst 0 rfl d_X8_isFull_63 ?_
              exact zg_zretK d_X8_isFull_64 rfl ⟨Nat.le_of_ble_eq_true rfl, Nat.le_of_ble_eq_true rfl⟩ (Or.inl rfl) (fun q => q)
        · refine zg_iload_n 1 rfl d_X8_isFull_44 ?_
          refine zg_iconst 5 rfl d_X8_isFull_45 ?_
          refine zg_icmp_ne d_X8_isFull_46 ?_ ?_
          · refine zg_aload_n 0 rfl d_X8_isFull_49 ?_
            refine zg_iconst 3 rfl d_X8_isFull_50 ?_
            refine zg_cVi (b := a0) (As := [.int 3]) (rest := []) (0, 0) d_X8_isFull_51 zc_8 rfl cw_X8_225 wi_X8_fresher ws_X8_fresher rfl rfl (Nat.le_of_ble_eq_true rfl) (by decide) (by decide) ⟨by decide, by decide⟩ rfl (t_X8_fresher a0 3 h17) (fun v24 h23 => ?_)
            refine zg_bipush 12 rfl d_X8_isFull_54 ?_
            refine zg_icmp_ne d_X8_isFull_56 ?_ ?_
            · refine zg_iconst 1 rfl d_X8_isFull_59 ?_
              refine zg_goto d_X8_isFull_60 ?_
              exact zg_zretK d_X8_isFull_64 rfl ⟨Nat.le_of_ble_eq_true rfl, Nat.le_of_ble_eq_true rfl⟩ (Or.inr rfl) (fun q => q)
            · refine zg_iconst 0 rfl d_X8_isFull_63 ?_
              exact zg_zretK d_X8_isFull_64 rfl ⟨Nat.le_of_ble_eq_true rfl, Nat.le_of_ble_eq_true rfl⟩ (Or.inl rfl) (fun q => q)
          · refine zg_iconst 0 rfl d_X8_isFull_63 ?_
            exact zg_zretK d_X8_isFull_64 rfl ⟨Nat.le_of_ble_eq_true rfl, Nat.le_of_ble_eq_true rfl⟩ (Or.inl rfl) (fun q => q)
    · refine zg_iload_n 1 rfl d_X8_isFull_29 ?_
      refine zg_iconst 4 rfl d_X8_isFull_30 ?_
      refine zg_icmp_ne d_X8_isFull_31 ?_ ?_
      · refine zg_aload_n 0 rfl d_X8_isFull_34 ?_
        refine zg_iconst 2 rfl d_X8_isFull_35 ?_
        refine zg_cVi (b := a0) (As := [.int 2]) (rest := []) (0, 0) d_X8_isFull_36 zc_8 rfl cw_X8_225 wi_X8_fresher ws_X8_fresher rfl rfl (Nat.le_of_ble_eq_true rfl) (by decide) (by decide) ⟨by decide, by decide⟩ rfl (t_X8_fresher a0 2 h0) (fun v26 h25 => ?_)
        refine zg_bipush 6 rfl d_X8_isFull_39 ?_
        refine zg_icmp_eq d_X8_isFull_41 ?_ ?_
        · refine zg_iconst 1 rfl d_X8_isFull_59 ?_
          refine zg_goto d_X8_isFull_60 ?_
          exact zg_zretK d_X8_isFull_64 rfl ⟨Nat.le_of_ble_eq_true rfl, Nat.le_of_ble_eq_true rfl⟩ (Or.inr rfl) (fun q => q)
        · refine zg_iload_n 1 rfl d_X8_isFull_44 ?_
          refine zg_iconst 5 rfl d_X8_isFull_45 ?_
          refine zg_icmp_ne d_X8_isFull_46 ?_ ?_
          · refine zg_aload_n 0 rfl d_X8_isFull_49 ?_
            refine zg_iconst 3 rfl d_X8_isFull_50 ?_
            refine zg_cVi (b := a0) (As := [.int 3]) (rest := []) (0, 0) d_X8_isFull_51 zc_8 rfl cw_X8_225 wi_X8_fresher ws_X8_fresher rfl rfl (Nat.le_of_ble_eq_true rfl) (by decide) (by decide) ⟨by decide, by decide⟩ rfl (t_X8_fresher a0 3 h25) (fun v28 h27 => ?_)
            refine zg_bipush 12 rfl d_X8_isFull_54 ?_
            refine zg_icmp_ne d_X8_isFull_56 ?_ ?_
            · refine zg_iconst 1 rfl d_X8_isFull_59 ?_
              refine zg_goto d_X8_isFull_60 ?_
              exact zg_zretK d_X8_isFull_64 rfl ⟨Nat.le_of_ble_eq_true rfl, Nat.le_of_ble_eq_true rfl⟩ (Or.inr rfl) (fun q => q)
            · refine zg_iconst 0 rfl d_X8_isFull_63 ?_
              exact zg_zretK d_X8_isFull_64 rfl ⟨Nat.le_of_ble_eq_true rfl, Nat.le_of_ble_eq_true rfl⟩ (Or.inl rfl) (fun q => q)
          · refine zg_iconst 0 rfl d_X8_isFull_63 ?_
            exact zg_zretK d_X8_isFull_64 rfl ⟨Nat.le_of_ble_eq_true rfl, Nat.le_of_ble_eq_true rfl⟩ (Or.inl rfl) (fun q => q)
      · refine zg_iload_n 1 rfl d_X8_isFull_44 ?_
        refine zg_iconst 5 rfl d_X8_isFull_45 ?_
        refine zg_icmp_ne d_X8_isFull_46 ?_ ?_
        · refine zg_aload_n 0 rfl d_X8_isFull_49 ?_
          refine zg_iconst 3 rfl d_X8_isFull_50 ?_
          refine zg_cVi (b := a0) (As := [.int 3]) (rest := []) (0, 0) d_X8_isFull_51 zc_8 rfl cw_X8_225 wi_X8_fresher ws_X8_fresher rfl rfl (Nat.le_of_ble_eq_true rfl) (by decide) (by decide) ⟨by decide, by decide⟩ rfl (t_X8_fresher a0 3 h0) (fun v30 h29 => ?_)
          refine zg_bipush 12 rfl d_X8_isFull_54 ?_
          refine zg_icmp_ne d_X8_isFull_56 ?_ ?_
          · refine zg_iconst 1 rfl d_X8_isFull_59 ?_
            refine zg_goto d_X8_isFull_60 ?_
            exact zg_zretK d_X8_isFull_64 rfl ⟨Nat.le_of_ble_eq_true rfl, Nat.le_of_ble_eq_true rfl⟩ (Or.inr rfl) (fun q => q)
          · refine zg_iconst 0 rfl d_X8_isFull_63 ?_
            exact zg_zretK d_X8_isFull_64 rfl ⟨Nat.le_of_ble_eq_true rfl, Nat.le_of_ble_eq_true rfl⟩ (Or.inl rfl) (fun q => q)
        · refine zg_iconst 0 rfl d_X8_isFull_63 ?_
          exact zg_zretK d_X8_isFull_64 rfl ⟨Nat.le_of_ble_eq_true rfl, Nat.le_of_ble_eq_true rfl⟩ (Or.inl rfl) (fun q => q)

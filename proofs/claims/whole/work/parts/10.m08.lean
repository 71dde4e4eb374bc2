theorem ml_X5_113 : Cond.methodLink RX5 113 yX5_seenFrom ∈ zT := zw_of _ 857 (by decide +kernel) (by decide +kernel)
theorem cw_X5_113 : zCw RX5 113 yX5_seenFrom cX5_seenFrom 6 (some .int) 3 := ⟨ml_X5_113, ni_X5, cd_X5_seenFrom, by decide, by decide, by decide +kernel⟩
theorem ml_X7_194 : Cond.methodLink RX7 194 yX7_isFrom ∈ zT := zw_of _ 876 (by decide +kernel) (by decide +kernel)
theorem cd_X7_isFrom : Cond.code yX7_isFrom cX7_isFrom 3 (some .boolean) ∈ zT := zw_of _ 878 (by decide +kernel) (by decide +kernel)
theorem cw_X7_194 : zCw RX7 194 yX7_isFrom cX7_isFrom 3 (some .boolean) 3 := ⟨ml_X7_194, ni_X7, cd_X7_isFrom, by decide, by decide, by decide +kernel⟩
theorem wt_X7_isFrom : Cond.static yX7_isFrom ∈ zT := zw_of _ 877 (by decide +kernel) (by decide +kernel)
theorem fl_X7_66 : Cond.fieldLink RX7 66 (TX7 9).1 (TX7 9).2.1 (TX7 9).2.2.1 ∈ zT := zw_of _ 580 (by decide +kernel) (by decide +kernel)
theorem fl_X7_38 : Cond.fieldLink RX7 38 (TX7 4).1 (TX7 4).2.1 (TX7 4).2.2.1 ∈ zT := zw_of _ 575 (by decide +kernel) (by decide +kernel)
theorem ml_X7_228 : Cond.methodLink RX7 228 yX1_skyAfter ∈ zT := zw_of _ 1022 (by decide +kernel) (by decide +kernel)
theorem cd_X1_skyAfter : Cond.code yX1_skyAfter cX1_skyAfter 6 (some (.object "CloudSchool$Sky")) ∈ zT := zw_of _ 1025 (by decide +kernel) (by decide +kernel)
theorem cw_X7_228 : zCw RX7 228 yX1_skyAfter cX1_skyAfter 6 (some (.object "CloudSchool$Sky")) 4 := ⟨ml_X7_228, ni_X1, cd_X1_skyAfter, by decide, by decide, by decide +kernel⟩
theorem wi_X1_skyAfter : Cond.instanceMethod yX1_skyAfter ∈ zT := zw_of _ 1023 (by decide +kernel) (by decide +kernel)
theorem ws_X1_skyAfter : Cond.selects RX1 yX1_skyAfter yX1_skyAfter ∈ zT := zw_of _ 1024 (by decide +kernel) (by decide +kernel)
theorem ml_X7_232 : Cond.methodLink RX7 232 yX5_rainInAll ∈ zT := zw_of _ 1033 (by decide +kernel) (by decide +kernel)
theorem cd_X5_rainInAll : Cond.code yX5_rainInAll cX5_rainInAll 3 (some .int) ∈ zT := zw_of _ 1036 (by decide +kernel) (by decide +kernel)
theorem cw_X7_232 : zCw RX7 232 yX5_rainInAll cX5_rainInAll 3 (some .int) 0 := ⟨ml_X7_232, ni_X5, cd_X5_rainInAll, by decide, by decide, by decide +kernel⟩
theorem wi_X5_rainInAll : Cond.instanceMethod yX5_rainInAll ∈ zT := zw_of _ 1034 (by decide +kernel) (by decide +kernel)
theorem ws_X5_rainInAll : Cond.selects RX5 yX5_rainInAll yX5_rainInAll ∈ zT := zw_of _ 1035 (by decide +kernel) (by decide +kernel)
theorem ml_X7_235 : Cond.methodLink RX7 235 yX5_howManyAre ∈ zT := zw_of _ 1037 (by decide +kernel) (by decide +kernel)
theorem cw_X7_235 : zCw RX7 235 yX5_howManyAre cX5_howManyAre 4 (some .int) 1 := ⟨ml_X7_235, ni_X5, cd_X5_howManyAre, by decide, by decide, by decide +kernel⟩
theorem ml_X7_238 : Cond.methodLink RX7 238 yX5_marksInAll ∈ zT := zw_of _ 1038 (by decide +kernel) (by decide +kernel)
theorem cd_X5_marksInAll : Cond.code yX5_marksInAll cX5_marksInAll 3 (some .int) ∈ zT := zw_of _ 1041 (by decide +kernel) (by decide +kernel)
theorem cw_X7_238 : zCw RX7 238 yX5_marksInAll cX5_marksInAll 3 (some .int) 0 := ⟨ml_X7_238, ni_X5, cd_X5_marksInAll, by decide, by decide, by decide +kernel⟩
theorem wi_X5_marksInAll : Cond.instanceMethod yX5_marksInAll ∈ zT := zw_of _ 1039 (by decide +kernel) (by decide +kernel)
theorem ws_X5_marksInAll : Cond.selects RX5 yX5_marksInAll yX5_marksInAll ∈ zT := zw_of _ 1040 (by decide +kernel) (by decide +kernel)
theorem fl_X7_45 : Cond.fieldLink RX7 45 (TX7 6).1 (TX7 6).2.1 (TX7 6).2.2.1 ∈ zT := zw_of _ 577 (by decide +kernel) (by decide +kernel)
theorem fl_X7_42 : Cond.fieldLink RX7 42 (TX7 5).1 (TX7 5).2.1 (TX7 5).2.2.1 ∈ zT := zw_of _ 576 (by decide +kernel) (by decide +kernel)
theorem ml_X7_328 : Cond.methodLink RX7 328 yX5_copyFrom ∈ zT := zw_of _ 1248 (by decide +kernel) (by decide +kernel)
theorem cw_X7_328 : zCw RX7 328 yX5_copyFrom cX5_copyFrom 3 none 1 := ⟨ml_X7_328, ni_X5, cd_X5_copyFrom, by decide, by decide, by decide +kernel⟩
theorem fl_X7_52 : Cond.fieldLink RX7 52 (TX7 7).1 (TX7 7).2.1 (TX7 7).2.2.1 ∈ zT := zw_of _ 578 (by decide +kernel) (by decide +kernel)
theorem ml_X7_88 : Cond.methodLink RX7 88 yX0_forget ∈ zT := zw_of _ 797 (by decide +kernel) (by decide +kernel)
theorem cd_X0_forget : Cond.code yX0_forget cX0_forget 1 none ∈ zT := zw_of _ 800 (by decide +kernel) (by decide +kernel)
theorem cw_X7_88 : zCw RX7 88 yX0_forget cX0_forget 1 none 0 := ⟨ml_X7_88, ni_X0, cd_X0_forget, by decide, by decide, by decide +kernel⟩
theorem wi_X0_forget : Cond.instanceMethod yX0_forget ∈ zT := zw_of _ 798 (by decide +kernel) (by decide +kernel)
theorem ws_X0_forget : Cond.selects RX0 yX0_forget yX0_forget ∈ zT := zw_of _ 799 (by decide +kernel) (by decide +kernel)
theorem fl_X7_218 : Cond.fieldLink RX7 218 (TX5 11).1 (TX5 11).2.1 (TX5 11).2.2.1 ∈ zT := zw_of _ 435 (by decide +kernel) (by decide +kernel)
theorem fl_X7_215 : Cond.fieldLink RX7 215 (TX5 12).1 (TX5 12).2.1 (TX5 12).2.2.1 ∈ zT := zw_of _ 438 (by decide +kernel) (by decide +kernel)
theorem ml_X7_207 : Cond.methodLink RX7 207 yX0_remember ∈ zT := zw_of _ 925 (by decide +kernel) (by decide +kernel)
theorem cd_X0_remember : Cond.code yX0_remember cX0_remember 5 none ∈ zT := zw_of _ 928 (by decide +kernel) (by decide +kernel)
theorem cw_X7_207 : zCw RX7 207 yX0_remember cX0_remember 5 none 4 := ⟨ml_X7_207, ni_X0, cd_X0_remember, by decide, by decide, by decide +kernel⟩
theorem wi_X0_remember : Cond.instanceMethod yX0_remember ∈ zT := zw_of _ 926 (by decide +kernel) (by decide +kernel)
theorem ws_X0_remember : Cond.selects RX0 yX0_remember yX0_remember ∈ zT := zw_of _ 927 (by decide +kernel) (by decide +kernel)
theorem fl_X7_29 : Cond.fieldLink RX7 29 (TX7 3).1 (TX7 3).2.1 (TX7 3).2.2.1 ∈ zT := zw_of _ 574 (by decide +kernel) (by decide +kernel)
theorem fl_X7_99 : Cond.fieldLink RX7 99 (TX6 13).1 (TX6 13).2.1 (TX6 13).2.2.1 ∈ zT := zw_of _ 239 (by decide +kernel) (by decide +kernel)
theorem ml_X7_168 : Cond.methodLink RX7 168 yX7_isField ∈ zT := zw_of _ 834 (by decide +kernel) (by decide +kernel)
theorem cd_X7_isField : Cond.code yX7_isField cX7_isField 2 (some .boolean) ∈ zT := zw_of _ 837 (by decide +kernel) (by decide +kernel)
theorem cw_X7_168 : zCw RX7 168 yX7_isField cX7_isField 2 (some .boolean) 1 := ⟨ml_X7_168, ni_X7, cd_X7_isField, by decide, by decide, by decide +kernel⟩
theorem wi_X7_isField : Cond.instanceMethod yX7_isField ∈ zT := zw_of _ 836 (by decide +kernel) (by decide +kernel)
theorem ws_X7_isField : Cond.selects RX7 yX7_isField yX7_isField ∈ zT := zw_of _ 32 (by decide +kernel) (by decide +kernel)
theorem ml_X7_315 : Cond.methodLink RX7 315 yX1_drawFrom ∈ zT := zw_of _ 1217 (by decide +kernel) (by decide +kernel)
theorem cd_X1_drawFrom : Cond.code yX1_drawFrom cX1_drawFrom 2 none ∈ zT := zw_of _ 1220 (by decide +kernel) (by decide +kernel)
theorem cw_X7_315 : zCw RX7 315 yX1_drawFrom cX1_drawFrom 2 none 1 := ⟨ml_X7_315, ni_X1, cd_X1_drawFrom, by decide, by decide, by decide +kernel⟩
theorem wi_X1_drawFrom : Cond.instanceMethod yX1_drawFrom ∈ zT := zw_of _ 1218 (by decide +kernel) (by decide +kernel)
theorem ws_X1_drawFrom : Cond.selects RX1 yX1_drawFrom yX1_drawFrom ∈ zT := zw_of _ 1219 (by decide +kernel) (by decide +kernel)
theorem ml_X7_318 : Cond.methodLink RX7 318 yX1_rainByChance ∈ zT := zw_of _ 1221 (by decide +kernel) (by decide +kernel)
theorem cd_X1_rainByChance : Cond.code yX1_rainByChance cX1_rainByChance 5 (some .int) ∈ zT := zw_of _ 1224 (by decide +kernel) (by decide +kernel)
theorem cw_X7_318 : zCw RX7 318 yX1_rainByChance cX1_rainByChance 5 (some .int) 3 := ⟨ml_X7_318, ni_X1, cd_X1_rainByChance, by decide, by decide, by decide +kernel⟩
theorem wi_X1_rainByChance : Cond.instanceMethod yX1_rainByChance ∈ zT := zw_of _ 1222 (by decide +kernel) (by decide +kernel)
theorem ws_X1_rainByChance : Cond.selects RX1 yX1_rainByChance yX1_rainByChance ∈ zT := zw_of _ 1223 (by decide +kernel) (by decide +kernel)
theorem fl_X7_115 : Cond.fieldLink RX7 115 (TX6 15).1 (TX6 15).2.1 (TX6 15).2.2.1 ∈ zT := zw_of _ 247 (by decide +kernel) (by decide +kernel)
theorem ml_X7_146 : Cond.methodLink RX7 146 yX7_isChild ∈ zT := zw_of _ 814 (by decide +kernel) (by decide +kernel)
theorem cd_X7_isChild : Cond.code yX7_isChild cX7_isChild 2 (some .boolean) ∈ zT := zw_of _ 817 (by decide +kernel) (by decide +kernel)
theorem cw_X7_146 : zCw RX7 146 yX7_isChild cX7_isChild 2 (some .boolean) 1 := ⟨ml_X7_146, ni_X7, cd_X7_isChild, by decide, by decide, by decide +kernel⟩
theorem wi_X7_isChild : Cond.instanceMethod yX7_isChild ∈ zT := zw_of _ 816 (by decide +kernel) (by decide +kernel)
theorem ws_X7_isChild : Cond.selects RX7 yX7_isChild yX7_isChild ∈ zT := zw_of _ 31 (by decide +kernel) (by decide +kernel)
theorem fl_X7_149 : Cond.fieldLink RX7 149 (TX5 6).1 (TX5 6).2.1 (TX5 6).2.2.1 ∈ zT := zw_of _ 422 (by decide +kernel) (by decide +kernel)
theorem fl_X7_152 : Cond.fieldLink RX7 152 (TX5 7).1 (TX5 7).2.1 (TX5 7).2.2.1 ∈ zT := zw_of _ 425 (by decide +kernel) (by decide +kernel)
theorem fl_X7_155 : Cond.fieldLink RX7 155 (TX6 10).1 (TX6 10).2.1 (TX6 10).2.2.1 ∈ zT := zw_of _ 229 (by decide +kernel) (by decide +kernel)
theorem fl_X7_158 : Cond.fieldLink RX7 158 (TX5 8).1 (TX5 8).2.1 (TX5 8).2.2.1 ∈ zT := zw_of _ 427 (by decide +kernel) (by decide +kernel)
theorem ml_X7_161 : Cond.methodLink RX7 161 yX5_ownInSky ∈ zT := zw_of _ 818 (by decide +kernel) (by decide +kernel)
theorem cw_X7_161 : zCw RX7 161 yX5_ownInSky cX5_ownInSky 4 (some .int) 1 := ⟨ml_X7_161, ni_X5, cd_X5_ownInSky, by decide, by decide, by decide +kernel⟩
theorem ml_X7_165 : Cond.methodLink RX7 165 yX5_rainOfOwn ∈ zT := zw_of _ 826 (by decide +kernel) (by decide +kernel)
theorem cw_X7_165 : zCw RX7 165 yX5_rainOfOwn cX5_rainOfOwn 4 (some .int) 1 := ⟨ml_X7_165, ni_X5, cd_X5_rainOfOwn, by decide, by decide, by decide +kernel⟩
theorem fl_X7_109 : Cond.fieldLink RX7 109 (TX6 14).1 (TX6 14).2.1 (TX6 14).2.2.1 ∈ zT := zw_of _ 243 (by decide +kernel) (by decide +kernel)
theorem ml_X7_188 : Cond.methodLink RX7 188 yX5_seenBy ∈ zT := zw_of _ 853 (by decide +kernel) (by decide +kernel)
theorem cd_X5_seenBy : Cond.code yX5_seenBy cX5_seenBy 2 (some .int) ∈ zT := zw_of _ 856 (by decide +kernel) (by decide +kernel)
theorem cw_X7_188 : zCw RX7 188 yX5_seenBy cX5_seenBy 2 (some .int) 1 := ⟨ml_X7_188, ni_X5, cd_X5_seenBy, by decide, by decide, by decide +kernel⟩
theorem wi_X5_seenBy : Cond.instanceMethod yX5_seenBy ∈ zT := zw_of _ 854 (by decide +kernel) (by decide +kernel)
theorem ws_X5_seenBy : Cond.selects RX5 yX5_seenBy yX5_seenBy ∈ zT := zw_of _ 855 (by decide +kernel) (by decide +kernel)
theorem fl_X7_241 : Cond.fieldLink RX7 241 (TX6 18).1 (TX6 18).2.1 (TX6 18).2.2.1 ∈ zT := zw_of _ 259 (by decide +kernel) (by decide +kernel)
theorem ml_X7_244 : Cond.methodLink RX7 244 yJ6_bitCount_0f7a4 ∈ zT := zw_of _ 1046 (by decide +kernel) (by decide +kernel)
theorem cw_X7_244 : zCw RX7 244 yJ6_bitCount_0f7a4 cJ6_bitCount_0f7a4 1 (some .int) 1 := ⟨ml_X7_244, ni_J6, cd_J6_bitCount_0f7a4, by decide, by decide, by decide +kernel⟩
theorem ml_X7_249 : Cond.methodLink RX7 249 Lib.Math.min.name ∈ zT := zw_of _ 1052 (by decide +kernel) (by decide +kernel)
theorem fl_X7_331 : Cond.fieldLink RX7 331 (TX6 16).1 (TX6 16).2.1 (TX6 16).2.2.1 ∈ zT := zw_of _ 253 (by decide +kernel) (by decide +kernel)
theorem fl_X7_334 : Cond.fieldLink RX7 334 (TX6 12).1 (TX6 12).2.1 (TX6 12).2.2.1 ∈ zT := zw_of _ 237 (by decide +kernel) (by decide +kernel)
theorem fl_X7_338 : Cond.fieldLink RX7 338 (TX2 5).1 (TX2 5).2.1 (TX2 5).2.2.1 ∈ zT := zw_of _ 177 (by decide +kernel) (by decide +kernel)
theorem ml_X7_221 : Cond.methodLink RX7 221 yX5_windNow ∈ zT := zw_of _ 957 (by decide +kernel) (by decide +kernel)
theorem cw_X7_221 : zCw RX7 221 yX5_windNow cX5_windNow 1 (some .int) 0 := ⟨ml_X7_221, ni_X5, cd_X5_windNow, by decide, by decide, by decide +kernel⟩
theorem fl_X7_59 : Cond.fieldLink RX7 59 (TX7 8).1 (TX7 8).2.1 (TX7 8).2.2.1 ∈ zT := zw_of _ 579 (by decide +kernel) (by decide +kernel)
theorem fl_X7_299 : Cond.fieldLink RX7 299 (TX3 6).1 (TX3 6).2.1 (TX3 6).2.2.1 ∈ zT := zw_of _ 513 (by decide +kernel) (by decide +kernel)
theorem ml_X7_343 : Cond.methodLink RX7 343 yX3_readable ∈ zT := zw_of _ 1257 (by decide +kernel) (by decide +kernel)
theorem cw_X7_343 : zCw RX7 343 yX3_readable cX3_readable 1 (some .int) 0 := ⟨ml_X7_343, ni_X3, cd_X3_readable, by decide, by decide, by decide +kernel⟩
theorem fl_X7_321 : Cond.fieldLink RX7 321 (TX0 4).1 (TX0 4).2.1 (TX0 4).2.2.1 ∈ zT := zw_of _ 488 (by decide +kernel) (by decide +kernel)
abbrev M_X5_marksInAll : zMt := (RX5, cX5_marksInAll, 3, 1, 60, (some .int), "marksInAll", 0, 0)
theorem d_X5_marksInAll_0 : zDc M_X5_marksInAll 0 (.iconst 0) 1 1 := ⟨by decide +kernel, rfl⟩
theorem d_X5_marksInAll_1 : zDc M_X5_marksInAll 1 (.istore_n 1) 1 2 := ⟨by decide +kernel, rfl⟩
theorem d_X5_marksInAll_2 : zDc M_X5_marksInAll 2 (.iconst 0) 1 3 := ⟨by decide +kernel, rfl⟩
theorem d_X5_marksInAll_3 : zDc M_X5_marksInAll 3 (.istore_n 2) 1 4 := ⟨by decide +kernel, rfl⟩
theorem d_X5_marksInAll_4 : zDc M_X5_marksInAll 4 (.iload_n 2) 1 5 := ⟨by decide +kernel, rfl⟩
theorem d_X5_marksInAll_5 : zDc M_X5_marksInAll 5 (.aload_n 0) 1 6 := ⟨by decide +kernel, rfl⟩
theorem d_X5_marksInAll_6 : zDc M_X5_marksInAll 6 (.getfield 50) 3 9 := ⟨by decide +kernel, rfl⟩
theorem d_X5_marksInAll_9 : zDc M_X5_marksInAll 9 (.getfield 120) 3 12 := ⟨by decide +kernel, rfl⟩
theorem d_X5_marksInAll_12 : zDj M_X5_marksInAll 12 (.if_icmp .ge 18) 18 15 30 := ⟨by decide +kernel, rfl, by decide⟩
theorem d_X5_marksInAll_15 : zDc M_X5_marksInAll 15 (.iload_n 1) 1 16 := ⟨by decide +kernel, rfl⟩
theorem d_X5_marksInAll_16 : zDc M_X5_marksInAll 16 (.aload_n 0) 1 17 := ⟨by decide +kernel, rfl⟩
theorem d_X5_marksInAll_17 : zDc M_X5_marksInAll 17 (.getfield 36) 3 20 := ⟨by decide +kernel, rfl⟩
theorem d_X5_marksInAll_20 : zDc M_X5_marksInAll 20 (.iload_n 2) 1 21 := ⟨by decide +kernel, rfl⟩
theorem d_X5_marksInAll_21 : zDc M_X5_marksInAll 21 (.iaload) 1 22 := ⟨by decide +kernel, rfl⟩
theorem d_X5_marksInAll_22 : zDc M_X5_marksInAll 22 (.iadd) 1 23 := ⟨by decide +kernel, rfl⟩
theorem d_X5_marksInAll_23 : zDc M_X5_marksInAll 23 (.istore_n 1) 1 24 := ⟨by decide +kernel, rfl⟩
theorem d_X5_marksInAll_24 : zDc M_X5_marksInAll 24 (.iinc 2 1) 3 27 := ⟨by decide +kernel, rfl⟩
theorem d_X5_marksInAll_27 : zDj M_X5_marksInAll 27 (.goto (-23)) (-23) 30 4 := ⟨by decide +kernel, rfl, by decide⟩
theorem d_X5_marksInAll_30 : zDc M_X5_marksInAll 30 (.iload_n 1) 1 31 := ⟨by decide +kernel, rfl⟩
theorem d_X5_marksInAll_31 : zDc M_X5_marksInAll 31 (.ireturn) 1 32 := ⟨by decide +kernel, rfl⟩
def f_X5_marksInAll (a0 : Nat) (h0 : zHp) : Option (Int32 × zHp) :=
  zbd (
  zlp (σ := (Int32 × Int32)) (β := (Int32 × Int32)) zLF (fun s1 h2 =>
  zob (zgR h2 a0 5 14) (fun v5 =>
  zob (zgI h2 v5 6 15) (fun v6 =>
  if v6 ≤ s1.2 then
  some ((.inr (s1.1, s1.2)), h2)
  else
  zob (zgR h2 a0 5 8) (fun v7 =>
  zob (zaI 0 h2 v7 s1.2) (fun v8 =>
  some ((.inl ((s1.1 + v8), (s1.2 + 1))), h2)))))) (0, 0) h0) (fun e3 h4 =>
  some (e3.1, h4))
set_option maxRecDepth 100000 in
set_option maxHeartbeats 4000000 in
theorem t_X5_marksInAll (a0 : Nat) (h0 : zHp) : ∀ (r : Int32) (h' : zHp), f_X5_marksInAll a0 h0 = some (r, h') → zCt yX5_marksInAll (.code yX5_marksInAll cX5_marksInAll 3 (some .int)) 1 60 0 0 [.ref a0] h0 (some (.int r)) h' := by
  refine zct_of M_X5_marksInAll yX5_marksInAll (by decide) rfl rfl [.ref a0] h0 (Nat.le_of_ble_eq_true rfl) (fun r => some (.int r)) (fun X => ?_)
  show zG X M_X5_marksInAll (0, 0) 0 [(0, .ref a0)] [] h0 (f_X5_marksInAll a0 h0) (fun (r : Int32) h' => zKe X (some (.int r)) h')
  unfold f_X5_marksInAll
  refine zg_iconst 0 rfl d_X5_marksInAll_0 ?_
  refine zg_istore_n [(1, .int 0), (0, .ref a0)] d_X5_marksInAll_1 rfl (by decide) rfl ?_
  refine zg_iconst 0 rfl d_X5_marksInAll_2 ?_
  refine zg_istore_n [(2, .int 0), (1, .int 0), (0, .ref a0)] d_X5_marksInAll_3 rfl (by decide) rfl ?_
  refine zg_bd (E := 30) (el := (fun (e3 : (Int32 × Int32)) => [(0, .ref a0), (1, .int e3.1), (2, .int e3.2)])) (es := fun _ => []) (zg_sub [2, 1, 0] rfl (zg_lp (el := (fun (s1 : (Int32 × Int32)) => [(0, .ref a0), (1, .int s1.1), (2, .int s1.2)])) (fun s1 h2 => ?_) (0, 0) h0)) (fun e3 h4 => ?_)
  · refine zg_iload_n 2 rfl d_X5_marksInAll_4 ?_
    refine zg_aload_n 0 rfl d_X5_marksInAll_5 ?_
    refine zg_getR d_X5_marksInAll_6 zc_5 (by decide) fl_X5_50 (fun v5 => ?_)
    refine zg_getI d_X5_marksInAll_9 zc_6 (by decide) fl_X5_120 (fun v6 => ?_)
    refine zg_icmp_ge d_X5_marksInAll_12 ?_ ?_
    · exact zg_finK (E := 0) [0, 1, 2] rfl rfl (fun q => q)
    · refine zg_iload_n 1 rfl d_X5_marksInAll_15 ?_
      refine zg_aload_n 0 rfl d_X5_marksInAll_16 ?_
      refine zg_getR d_X5_marksInAll_17 zc_5 (by decide) fl_X5_36 (fun v7 => ?_)
      refine zg_iload_n 2 rfl d_X5_marksInAll_20 ?_
      refine zg_ald0 d_X5_marksInAll_21 (fun v8 => ?_)
      refine zg_iadd d_X5_marksInAll_22 ?_
      refine zg_istore_n [(1, .int (s1.1 + v8)), (0, .ref a0), (2, .int s1.2)] d_X5_marksInAll_23 rfl (by decide) rfl ?_
      refine zg_iinc 2 (s1.2 + 1) [(2, .int (s1.2 + 1)), (1, .int (s1.1 + v8)), (0, .ref a0)] d_X5_marksInAll_24 rfl rfl (by decide) rfl ?_
      refine zg_goto d_X5_marksInAll_27 ?_
      exact zg_finK (E := 0) [2, 1, 0] rfl rfl (fun q => q)
  · refine zg_iload_n 1 rfl d_X5_marksInAll_30 ?_
    exact zg_iretK d_X5_marksInAll_31 rfl ⟨Nat.le_of_ble_eq_true rfl, Nat.le_of_ble_eq_true rfl⟩ (fun q => q)
abbrev M_X5_rainInAll : zMt := (RX5, cX5_rainInAll, 3, 1, 60, (some .int), "rainInAll", 0, 0)
theorem d_X5_rainInAll_0 : zDc M_X5_rainInAll 0 (.iconst 0) 1 1 := ⟨by decide +kernel, rfl⟩
theorem d_X5_rainInAll_1 : zDc M_X5_rainInAll 1 (.istore_n 1) 1 2 := ⟨by decide +kernel, rfl⟩
theorem d_X5_rainInAll_2 : zDc M_X5_rainInAll 2 (.iconst 0) 1 3 := ⟨by decide +kernel, rfl⟩
theorem d_X5_rainInAll_3 : zDc M_X5_rainInAll 3 (.istore_n 2) 1 4 := ⟨by decide +kernel, rfl⟩
theorem d_X5_rainInAll_4 : zDc M_X5_rainInAll 4 (.iload_n 2) 1 5 := ⟨by decide +kernel, rfl⟩
theorem d_X5_rainInAll_5 : zDc M_X5_rainInAll 5 (.aload_n 0) 1 6 := ⟨by decide +kernel, rfl⟩
theorem d_X5_rainInAll_6 : zDc M_X5_rainInAll 6 (.getfield 50) 3 9 := ⟨by decide +kernel, rfl⟩
theorem d_X5_rainInAll_9 : zDc M_X5_rainInAll 9 (.getfield 117) 3 12 := ⟨by decide +kernel, rfl⟩
theorem d_X5_rainInAll_12 : zDj M_X5_rainInAll 12 (.if_icmp .ge 18) 18 15 30 := ⟨by decide +kernel, rfl, by decide⟩
theorem d_X5_rainInAll_15 : zDc M_X5_rainInAll 15 (.iload_n 1) 1 16 := ⟨by decide +kernel, rfl⟩
theorem d_X5_rainInAll_16 : zDc M_X5_rainInAll 16 (.aload_n 0) 1 17 := ⟨by decide +kernel, rfl⟩
theorem d_X5_rainInAll_17 : zDc M_X5_rainInAll 17 (.getfield 39) 3 20 := ⟨by decide +kernel, rfl⟩
theorem d_X5_rainInAll_20 : zDc M_X5_rainInAll 20 (.iload_n 2) 1 21 := ⟨by decide +kernel, rfl⟩
theorem d_X5_rainInAll_21 : zDc M_X5_rainInAll 21 (.iaload) 1 22 := ⟨by decide +kernel, rfl⟩
theorem d_X5_rainInAll_22 : zDc M_X5_rainInAll 22 (.iadd) 1 23 := ⟨by decide +kernel, rfl⟩
theorem d_X5_rainInAll_23 : zDc M_X5_rainInAll 23 (.istore_n 1) 1 24 := ⟨by decide +kernel, rfl⟩
theorem d_X5_rainInAll_24 : zDc M_X5_rainInAll 24 (.iinc 2 1) 3 27 := ⟨by decide +kernel, rfl⟩
theorem d_X5_rainInAll_27 : zDj M_X5_rainInAll 27 (.goto (-23)) (-23) 30 4 := ⟨by decide +kernel, rfl, by decide⟩
theorem d_X5_rainInAll_30 : zDc M_X5_rainInAll 30 (.iload_n 1) 1 31 := ⟨by decide +kernel, rfl⟩
theorem d_X5_rainInAll_31 : zDc M_X5_rainInAll 31 (.ireturn) 1 32 := ⟨by decide +kernel, rfl⟩
def f_X5_rainInAll (a0 : Nat) (h0 : zHp) : Option (Int32 × zHp) :=
  zbd (
  zlp (σ := (Int32 × Int32)) (β := (Int32 × Int32)) zLF (fun s1 h2 =>
  zob (zgR h2 a0 5 14) (fun v5 =>
  zob (zgI h2 v5 6 13) (fun v6 =>
  if v6 ≤ s1.2 then
  some ((.inr (s1.1, s1.2)), h2)
  else
  zob (zgR h2 a0 5 9) (fun v7 =>
  zob (zaI 0 h2 v7 s1.2) (fun v8 =>
  some ((.inl ((s1.1 + v8), (s1.2 + 1))), h2)))))) (0, 0) h0) (fun e3 h4 =>
  some (e3.1, h4))
set_option maxRecDepth 100000 in
set_option maxHeartbeats 4000000 in
theorem t_X5_rainInAll (a0 : Nat) (h0 : zHp) : ∀ (r : Int32) (h' : zHp), f_X5_rainInAll a0 h0 = some (r, h') → zCt yX5_rainInAll (.code yX5_rainInAll cX5_rainInAll 3 (some .int)) 1 60 0 0 [.ref a0] h0 (some (.int r)) h' := by
  refine zct_of M_X5_rainInAll yX5_rainInAll (by decide) rfl rfl [.ref a0] h0 (Nat.le_of_ble_eq_true rfl) (fun r => some (.int r)) (fun X => ?_)
  show zG X M_X5_rainInAll (0, 0) 0 [(0, .ref a0)] [] h0 (f_X5_rainInAll a0 h0) (fun (r : Int32) h' => zKe X (some (.int r)) h')
  unfold f_X5_rainInAll
  refine zg_iconst 0 rfl d_X5_rainInAll_0 ?_
  refine zg_istore_n [(1, .int 0), (0, .ref a0)] d_X5_rainInAll_1 rfl (by decide) rfl ?_
  refine zg_iconst 0 rfl d_X5_rainInAll_2 ?_
  refine zg_istore_n [(2, .int 0), (1, .int 0), (0, .ref a0)] d_X5_rainInAll_3 rfl (by decide) rfl ?_
  refine zg_bd (E := 30) (el := (fun (e3 : (Int32 × Int32)) => [(0, .ref a0), (1, .int e3.1), (2, .int e3.2)])) (es := fun _ => []) (zg_sub [2, 1, 0] rfl (zg_lp (el := (fun (s1 : (Int32 × Int32)) => [(0, .ref a0), (1, .int s1.1), (2, .int s1.2)])) (fun s1 h2 => ?_) (0, 0) h0)) (fun e3 h4 => ?_)
  · refine zg_iload_n 2 rfl d_X5_rainInAll_4 ?_
    refine zg_aload_n 0 rfl d_X5_rainInAll_5 ?_
    refine zg_getR d_X5_rainInAll_6 zc_5 (by decide) fl_X5_50 (fun v5 => ?_)
    refine zg_getI d_X5_rainInAll_9 zc_6 (by decide) fl_X5_117 (fun v6 => ?_)
    refine zg_icmp_ge d_X5_rainInAll_12 ?_ ?_
    · exact zg_finK (E := 0) [0, 1, 2] rfl rfl (fun q => q)
    · refine zg_iload_n 1 rfl d_X5_rainInAll_15 ?_
      refine zg_aload_n 0 rfl d_X5_rainInAll_16 ?_
      refine zg_getR d_X5_rainInAll_17 zc_5 (by decide) fl_X5_39 (fun v7 => ?_)
      refine zg_iload_n 2 rfl d_X5_rainInAll_20 ?_
      refine zg_ald0 d_X5_rainInAll_21 (fun v8 => ?_)
      refine zg_iadd d_X5_rainInAll_22 ?_
      refine zg_istore_n [(1, .int (s1.1 + v8)), (0, .ref a0), (2, .int s1.2)] d_X5_rainInAll_23 rfl (by decide) rfl ?_
      refine zg_iinc 2 (s1.2 + 1) [(2, .int (s1.2 + 1)), (1, .int (s1.1 + v8)), (0, .ref a0)] d_X5_rainInAll_24 rfl rfl (by decide) rfl ?_
      refine zg_goto d_X5_rainInAll_27 ?_
      exact zg_finK (E := 0) [2, 1, 0] rfl rfl (fun q => q)
  · refine zg_iload_n 1 rfl d_X5_rainInAll_30 ?_
    exact zg_iretK d_X5_rainInAll_31 rfl ⟨Nat.le_of_ble_eq_true rfl, Nat.le_of_ble_eq_true rfl⟩ (fun q => q)
abbrev M_X5_seenBy : zMt := (RX5, cX5_seenBy, 2, 3, 106, (some .int), "seenBy", 0, 0)
theorem d_X5_seenBy_0 : zDc M_X5_seenBy 0 (.aload_n 0) 1 1 := ⟨by decide +kernel, rfl⟩
theorem d_X5_seenBy_1 : zDc M_X5_seenBy 1 (.aload_n 0) 1 2 := ⟨by decide +kernel, rfl⟩
theorem d_X5_seenBy_2 : zDc M_X5_seenBy 2 (.getfield 30) 3 5 := ⟨by decide +kernel, rfl⟩
theorem d_X5_seenBy_5 : zDc M_X5_seenBy 5 (.iload_n 1) 1 6 := ⟨by decide +kernel, rfl⟩
theorem d_X5_seenBy_6 : zDc M_X5_seenBy 6 (.iaload) 1 7 := ⟨by decide +kernel, rfl⟩
theorem d_X5_seenBy_7 : zDc M_X5_seenBy 7 (.aload_n 0) 1 8 := ⟨by decide +kernel, rfl⟩
theorem d_X5_seenBy_8 : zDc M_X5_seenBy 8 (.getfield 33) 3 11 := ⟨by decide +kernel, rfl⟩
theorem d_X5_seenBy_11 : zDc M_X5_seenBy 11 (.iload_n 1) 1 12 := ⟨by decide +kernel, rfl⟩
theorem d_X5_seenBy_12 : zDc M_X5_seenBy 12 (.iaload) 1 13 := ⟨by decide +kernel, rfl⟩
theorem d_X5_seenBy_13 : zDc M_X5_seenBy 13 (.aload_n 0) 1 14 := ⟨by decide +kernel, rfl⟩
theorem d_X5_seenBy_14 : zDc M_X5_seenBy 14 (.getfield 50) 3 17 := ⟨by decide +kernel, rfl⟩
theorem d_X5_seenBy_17 : zDc M_X5_seenBy 17 (.getfield 110) 3 20 := ⟨by decide +kernel, rfl⟩
theorem d_X5_seenBy_20 : zDc M_X5_seenBy 20 (.iload_n 1) 1 21 := ⟨by decide +kernel, rfl⟩
theorem d_X5_seenBy_21 : zDc M_X5_seenBy 21 (.iaload) 1 22 := ⟨by decide +kernel, rfl⟩
theorem d_X5_seenBy_22 : zDc M_X5_seenBy 22 (.invokevirtual 113) 3 25 := ⟨by decide +kernel, rfl⟩
theorem d_X5_seenBy_25 : zDc M_X5_seenBy 25 (.ireturn) 1 26 := ⟨by decide +kernel, rfl⟩
def f_X5_seenBy (a0 : Nat) (a1 : Int32) (h0 : zHp) : Option (Int32 × zHp) :=
  zob (zgR h0 a0 5 6) (fun v1 =>
  zob (zaI 0 h0 v1 a1) (fun v2 =>
  zob (zgR h0 a0 5 7) (fun v3 =>
  zob (zaI 0 h0 v3 a1) (fun v4 =>
  zob (zgR h0 a0 5 14) (fun v5 =>
  zob (zgR h0 v5 6 10) (fun v6 =>
  zob (zaI 0 h0 v6 a1) (fun v7 =>
  zbd (zcv 5 a0 h0 (f_X5_seenFrom a0 v2 v4 v7 h0)) (fun v9 h8 =>
  some (v9, h8)))))))))
set_option maxRecDepth 100000 in
set_option maxHeartbeats 4000000 in
theorem t_X5_seenBy (a0 : Nat) (a1 : Int32) (h0 : zHp) : ∀ (r : Int32) (h' : zHp), f_X5_seenBy a0 a1 h0 = some (r, h') → zCt yX5_seenBy (.code yX5_seenBy cX5_seenBy 2 (some .int)) 3 106 0 0 [.ref a0, .int a1] h0 (some (.int r)) h' := by
  refine zct_of M_X5_seenBy yX5_seenBy (by decide) rfl rfl [.ref a0, .int a1] h0 (Nat.le_of_ble_eq_true rfl) (fun r => some (.int r)) (fun X => ?_)
  show zG X M_X5_seenBy (0, 0) 0 [(0, .ref a0), (1, .int a1)] [] h0 (f_X5_seenBy a0 a1 h0) (fun (r : Int32) h' => zKe X (some (.int r)) h')
  unfold f_X5_seenBy
  refine zg_aload_n 0 rfl d_X5_seenBy_0 ?_
  refine zg_aload_n 0 rfl d_X5_seenBy_1 ?_
  refine zg_getR d_X5_seenBy_2 zc_5 (by decide) fl_X5_30 (fun v1 => ?_)
  refine zg_iload_n 1 rfl d_X5_seenBy_5 ?_
  refine zg_ald0 d_X5_seenBy_6 (fun v2 => ?_)
  refine zg_aload_n 0 rfl d_X5_seenBy_7 ?_
  refine zg_getR d_X5_seenBy_8 zc_5 (by decide) fl_X5_33 (fun v3 => ?_)
  refine zg_iload_n 1 rfl d_X5_seenBy_11 ?_
  refine zg_ald0 d_X5_seenBy_12 (fun v4 => ?_)
  refine zg_aload_n 0 rfl d_X5_seenBy_13 ?_
  refine zg_getR d_X5_seenBy_14 zc_5 (by decide) fl_X5_50 (fun v5 => ?_)
  refine zg_getR d_X5_seenBy_17 zc_6 (by decide) fl_X5_110 (fun v6 => ?_)
  refine zg_iload_n 1 rfl d_X5_seenBy_20 ?_
  refine zg_ald0 d_X5_seenBy_21 (fun v7 => ?_)
  refine zg_cVi (b := a0) (As := [.int v2, .int v4, .int v7]) (rest := []) (0, 0) d_X5_seenBy_22 zc_5 rfl cw_X5_113 wi_X5_seenFrom ws_X5_seenFrom rfl rfl (Nat.le_of_ble_eq_true rfl) (by decide) (by decide) ⟨by decide, by decide⟩ rfl (t_X5_seenFrom a0 v2 v4 v7 h0) (fun v9 h8 => ?_)
  exact zg_iretK d_X5_seenBy_25 rfl ⟨Nat.le_of_ble_eq_true rfl, Nat.le_of_ble_eq_true rfl⟩ (fun q => q)
abbrev M_X5_wouldSwap : zMt := (RX5, cX5_wouldSwap, 5, 2, 82, (some .boolean), "wouldSwap", 0, 0)
theorem d_X5_wouldSwap_0 : zDc M_X5_wouldSwap 0 (.aload_n 0) 1 1 := ⟨by decide +kernel, rfl⟩
theorem d_X5_wouldSwap_1 : zDc M_X5_wouldSwap 1 (.getfield 24) 3 4 := ⟨by decide +kernel, rfl⟩
theorem d_X5_wouldSwap_4 : zDc M_X5_wouldSwap 4 (.iload_n 1) 1 5 := ⟨by decide +kernel, rfl⟩
theorem d_X5_wouldSwap_5 : zDc M_X5_wouldSwap 5 (.iaload) 1 6 := ⟨by decide +kernel, rfl⟩
theorem d_X5_wouldSwap_6 : zDc M_X5_wouldSwap 6 (.istore_n 3) 1 7 := ⟨by decide +kernel, rfl⟩
theorem d_X5_wouldSwap_7 : zDc M_X5_wouldSwap 7 (.aload_n 0) 1 8 := ⟨by decide +kernel, rfl⟩
theorem d_X5_wouldSwap_8 : zDc M_X5_wouldSwap 8 (.getfield 24) 3 11 := ⟨by decide +kernel, rfl⟩
theorem d_X5_wouldSwap_11 : zDc M_X5_wouldSwap 11 (.iload_n 2) 1 12 := ⟨by decide +kernel, rfl⟩
theorem d_X5_wouldSwap_12 : zDc M_X5_wouldSwap 12 (.iaload) 1 13 := ⟨by decide +kernel, rfl⟩
theorem d_X5_wouldSwap_13 : zDc M_X5_wouldSwap 13 (.istore 4) 2 15 := ⟨by decide +kernel, rfl⟩
theorem d_X5_wouldSwap_15 : zDc M_X5_wouldSwap 15 (.aload_n 0) 1 16 := ⟨by decide +kernel, rfl⟩
theorem d_X5_wouldSwap_16 : zDc M_X5_wouldSwap 16 (.iload_n 1) 1 17 := ⟨by decide +kernel, rfl⟩
theorem d_X5_wouldSwap_17 : zDc M_X5_wouldSwap 17 (.invokevirtual 93) 3 20 := ⟨by decide +kernel, rfl⟩
theorem d_X5_wouldSwap_20 : zDj M_X5_wouldSwap 20 (.ifCond .eq 28) 28 23 48 := ⟨by decide +kernel, rfl, by decide⟩
theorem d_X5_wouldSwap_23 : zDc M_X5_wouldSwap 23 (.aload_n 0) 1 24 := ⟨by decide +kernel, rfl⟩
theorem d_X5_wouldSwap_24 : zDc M_X5_wouldSwap 24 (.iload_n 2) 1 25 := ⟨by decide +kernel, rfl⟩
theorem d_X5_wouldSwap_25 : zDc M_X5_wouldSwap 25 (.invokevirtual 93) 3 28 := ⟨by decide +kernel, rfl⟩
theorem d_X5_wouldSwap_28 : zDj M_X5_wouldSwap 28 (.ifCond .eq 20) 20 31 48 := ⟨by decide +kernel, rfl, by decide⟩
theorem d_X5_wouldSwap_31 : zDc M_X5_wouldSwap 31 (.iload_n 3) 1 32 := ⟨by decide +kernel, rfl⟩
theorem d_X5_wouldSwap_32 : zDc M_X5_wouldSwap 32 (.iconst (-1)) 1 33 := ⟨by decide +kernel, rfl⟩
theorem d_X5_wouldSwap_33 : zDj M_X5_wouldSwap 33 (.if_icmp .eq 15) 15 36 48 := ⟨by decide +kernel, rfl, by decide⟩
theorem d_X5_wouldSwap_36 : zDc M_X5_wouldSwap 36 (.iload 4) 2 38 := ⟨by decide +kernel, rfl⟩
theorem d_X5_wouldSwap_38 : zDc M_X5_wouldSwap 38 (.iconst (-1)) 1 39 := ⟨by decide +kernel, rfl⟩
theorem d_X5_wouldSwap_39 : zDj M_X5_wouldSwap 39 (.if_icmp .eq 9) 9 42 48 := ⟨by decide +kernel, rfl, by decide⟩
theorem d_X5_wouldSwap_42 : zDc M_X5_wouldSwap 42 (.iload_n 3) 1 43 := ⟨by decide +kernel, rfl⟩
theorem d_X5_wouldSwap_43 : zDc M_X5_wouldSwap 43 (.iload 4) 2 45 := ⟨by decide +kernel, rfl⟩
theorem d_X5_wouldSwap_45 : zDj M_X5_wouldSwap 45 (.if_icmp .ne 5) 5 48 50 := ⟨by decide +kernel, rfl, by decide⟩
theorem d_X5_wouldSwap_48 : zDc M_X5_wouldSwap 48 (.iconst 0) 1 49 := ⟨by decide +kernel, rfl⟩
theorem d_X5_wouldSwap_49 : zDc M_X5_wouldSwap 49 (.ireturn) 1 50 := ⟨by decide +kernel, rfl⟩
theorem d_X5_wouldSwap_50 : zDc M_X5_wouldSwap 50 (.aload_n 0) 1 51 := ⟨by decide +kernel, rfl⟩
theorem d_X5_wouldSwap_51 : zDc M_X5_wouldSwap 51 (.iload_n 3) 1 52 := ⟨by decide +kernel, rfl⟩
theorem d_X5_wouldSwap_52 : zDc M_X5_wouldSwap 52 (.iload_n 2) 1 53 := ⟨by decide +kernel, rfl⟩
theorem d_X5_wouldSwap_53 : zDc M_X5_wouldSwap 53 (.invokevirtual 107) 3 56 := ⟨by decide +kernel, rfl⟩
theorem d_X5_wouldSwap_56 : zDc M_X5_wouldSwap 56 (.aload_n 0) 1 57 := ⟨by decide +kernel, rfl⟩
theorem d_X5_wouldSwap_57 : zDc M_X5_wouldSwap 57 (.iload_n 3) 1 58 := ⟨by decide +kernel, rfl⟩
theorem d_X5_wouldSwap_58 : zDc M_X5_wouldSwap 58 (.iload_n 1) 1 59 := ⟨by decide +kernel, rfl⟩
theorem d_X5_wouldSwap_59 : zDc M_X5_wouldSwap 59 (.invokevirtual 107) 3 62 := ⟨by decide +kernel, rfl⟩
theorem d_X5_wouldSwap_62 : zDj M_X5_wouldSwap 62 (.if_icmp .ge 24) 24 65 86 := ⟨by decide +kernel, rfl, by decide⟩
theorem d_X5_wouldSwap_65 : zDc M_X5_wouldSwap 65 (.aload_n 0) 1 66 := ⟨by decide +kernel, rfl⟩
theorem d_X5_wouldSwap_66 : zDc M_X5_wouldSwap 66 (.iload 4) 2 68 := ⟨by decide +kernel, rfl⟩
theorem d_X5_wouldSwap_68 : zDc M_X5_wouldSwap 68 (.iload_n 1) 1 69 := ⟨by decide +kernel, rfl⟩
theorem d_X5_wouldSwap_69 : zDc M_X5_wouldSwap 69 (.invokevirtual 107) 3 72 := ⟨by decide +kernel, rfl⟩
theorem d_X5_wouldSwap_72 : zDc M_X5_wouldSwap 72 (.aload_n 0) 1 73 := ⟨by decide +kernel, rfl⟩
theorem d_X5_wouldSwap_73 : zDc M_X5_wouldSwap 73 (.iload 4) 2 75 := ⟨by decide +kernel, rfl⟩
theorem d_X5_wouldSwap_75 : zDc M_X5_wouldSwap 75 (.iload_n 2) 1 76 := ⟨by decide +kernel, rfl⟩
theorem d_X5_wouldSwap_76 : zDc M_X5_wouldSwap 76 (.invokevirtual 107) 3 79 := ⟨by decide +kernel, rfl⟩
theorem d_X5_wouldSwap_79 : zDj M_X5_wouldSwap 79 (.if_icmp .ge 7) 7 82 86 := ⟨by decide +kernel, rfl, by decide⟩
theorem d_X5_wouldSwap_82 : zDc M_X5_wouldSwap 82 (.iconst 1) 1 83 := ⟨by decide +kernel, rfl⟩
theorem d_X5_wouldSwap_83 : zDj M_X5_wouldSwap 83 (.goto 4) 4 86 87 := ⟨by decide +kernel, rfl, by decide⟩
theorem d_X5_wouldSwap_86 : zDc M_X5_wouldSwap 86 (.iconst 0) 1 87 := ⟨by decide +kernel, rfl⟩
theorem d_X5_wouldSwap_87 : zDc M_X5_wouldSwap 87 (.ireturn) 1 88 := ⟨by decide +kernel, rfl⟩
def f_X5_wouldSwap (a0 : Nat) (a1 : Int32) (a2 : Int32) (h0 : zHp) : Option (Int32 × zHp) :=
  zob (zgR h0 a0 5 4) (fun v1 =>
  zob (zaI 0 h0 v1 a1) (fun v2 =>
  zob (zgR h0 a0 5 4) (fun v3 =>
  zob (zaI 0 h0 v3 a2) (fun v4 =>
  zbd (zcv 5 a0 h0 (f_X5_isUp a0 a1 h0)) (fun v6 h5 =>
  if v6 = 0 then
  some (0, h5)
  else
  zbd (zcv 5 a0 h5 (f_X5_isUp a0 a2 h5)) (fun v8 h7 =>
  if v8 = 0 then
  some (0, h7)
  else
  if v2 = (-1) then
  some (0, h7)
  else
  if v4 = (-1) then
  some (0, h7)
  else
  if v2 = v4 then
  some (0, h7)
  else
  zbd (zcv 5 a0 h7 (f_X5_howFar a0 v2 a2 h7)) (fun v10 h9 =>
  zbd (zcv 5 a0 h9 (f_X5_howFar a0 v2 a1 h9)) (fun v12 h11 =>
  if v12 ≤ v10 then
  some (0, h11)
  else
  zbd (zcv 5 a0 h11 (f_X5_howFar a0 v4 a1 h11)) (fun v14 h13 =>
  zbd (zcv 5 a0 h13 (f_X5_howFar a0 v4 a2 h13)) (fun v16 h15 =>
  if v16 ≤ v14 then
  some (0, h15)
  else
  some (1, h15)))))))))))
set_option maxRecDepth 100000 in
set_option maxHeartbeats 4000000 in
theorem t_X5_wouldSwap (a0 : Nat) (a1 : Int32) (a2 : Int32) (h0 : zHp) : ∀ (r : Int32) (h' : zHp), f_X5_wouldSwap a0 a1 a2 h0 = some (r, h') → zCt yX5_wouldSwap (.code yX5_wouldSwap cX5_wouldSwap 5 (some .boolean)) 2 82 0 0 [.ref a0, .int a1, .int a2] h0 (some (.int r)) h' := by
  refine zct_of M_X5_wouldSwap yX5_wouldSwap (by decide) rfl rfl [.ref a0, .int a1, .int a2] h0 (Nat.le_of_ble_eq_true rfl) (fun r => some (.int r)) (fun X => ?_)
  show zG X M_X5_wouldSwap (0, 0) 0 [(0, .ref a0), (1, .int a1), (2, .int a2)] [] h0 (f_X5_wouldSwap a0 a1 a2 h0) (fun (r : Int32) h' => zKe X (some (.int r)) h')
  unfold f_X5_wouldSwap
  refine zg_aload_n 0 rfl d_X5_wouldSwap_0 ?_
  refine zg_getR d_X5_wouldSwap_1 zc_5 (by decide) fl_X5_24 (fun v1 => ?_)
  refine zg_iload_n 1 rfl d_X5_wouldSwap_4 ?_
  refine zg_ald0 d_X5_wouldSwap_5 (fun v2 => ?_)
  refine zg_istore_n [(3, .int v2), (0, .ref a0), (1, .int a1), (2, .int a2)] d_X5_wouldSwap_6 rfl (by decide) rfl ?_
  refine zg_aload_n 1 rfl d_X5_wouldSwap_7 ?_
  refine zg_getR d_X5_wouldSwap_8 zc_5 (by decide) fl_X5_24 (fun v3 => ?_)
  refine zg_iload_n 3 rfl d_X5_wouldSwap_11 ?_
  refine zg_ald0 d_X5_wouldSwap_12 (fun v4 => ?_)
  refine zg_istore [(4, .int v4), (3, .int v2), (0, .ref a0), (1, .int a1), (2, .int a2)] d_X5_wouldSwap_13 (by decide) rfl ?_
  refine zg_aload_n 2 rfl d_X5_wouldSwap_15 ?_
  refine zg_iload_n 3 rfl d_X5_wouldSwap_16 ?_
  refine zg_cVi (b := a0) (As := [.int a1]) (rest := []) (0, 0) d_X5_wouldSwap_17 zc_5 rfl cw_X5_93 wi_X5_isUp ws_X5_isUp rfl rfl (Nat.le_of_ble_eq_true rfl) (by decide) (by decide) ⟨by decide, by decide⟩ rfl (t_X5_isUp a0 a1 h0) (fun v6 h5 => ?_)
  refine zg_if_eq d_X5_wouldSwap_20 ?_ ?_
  · refine zg_iconst 0 rfl d_X5_wouldSwap_48 ?_
    exact zg_zretK d_X5_wouldSwap_49 rfl ⟨Nat.le_of_ble_eq_true rfl, Nat.le_of_ble_eq_true rfl⟩ (Or.inl rfl) (fun q => q)
  · refine zg_aload_n 2 rfl d_X5_wouldSwap_23 ?_
    refine zg_iload_n 4 rfl d_X5_wouldSwap_24 ?_
    refine zg_cVi (b := a0) (As := [.int a2]) (rest := []) (0, 0) d_X5_wouldSwap_25 zc_5 rfl cw_X5_93 wi_X5_isUp ws_X5_isUp rfl rfl (Nat.le_of_ble_eq_true rfl) (by decide) (by decide) ⟨by decide, by decide⟩ rfl (t_X5_isUp a0 a2 h5) (fun v8 h7 => ?_)
    refine zg_if_eq d_X5_wouldSwap_28 ?_ ?_
    · refine zg_iconst 0 rfl d_X5_wouldSwap_48 ?_
      exact zg_zretK d_X5_wouldSwap_49 rfl ⟨Nat.le_of_ble_eq_true rfl, Nat.le_of_ble_eq_true rfl⟩ (Or.inl rfl) (fun q => q)
    · refine zg_iload_n 1 rfl d_X5_wouldSwap_31 ?_
      refine zg_iconst (-1) rfl d_X5_wouldSwap_32 ?_
      refine zg_icmp_eq d_X5_wouldSwap_33 ?_ ?_
      · refine zg_iconst 0 rfl d_X5_wouldSwap_48 ?_
        exact zg_zretK d_X5_wouldSwap_49 rfl ⟨Nat.le_of_ble_eq_true rfl, Nat.le_of_ble_eq_true rfl⟩ (Or.inl rfl) (fun q => q)
      · refine zg_iload 0 rfl d_X5_wouldSwap_36 ?_
        refine zg_iconst (-1) rfl d_X5_wouldSwap_38 ?_
        refine zg_icmp_eq d_X5_wouldSwap_39 ?_ ?_
        · refine zg_iconst 0 rfl d_X5_wouldSwap_48 ?_
          exact zg_zretK d_X5_wouldSwap_49 rfl ⟨Nat.le_of_ble_eq_true rfl, Nat.le_of_ble_eq_true rfl⟩ (Or.inl rfl) (fun q => q)
        · refine zg_iload_n 1 rfl d_X5_wouldSwap_42 ?_
          refine zg_iload 0 rfl d_X5_wouldSwap_43 ?_
          refine zg_icmp_ne d_X5_wouldSwap_45 ?_ ?_
          · refine zg_iconst 0 rfl d_X5_wouldSwap_48 ?_
            exact zg_zretK d_X5_wouldSwap_49 rfl ⟨Nat.le_of_ble_eq_true rfl, Nat.le_of_ble_eq_true rfl⟩ (Or.inl rfl) (fun q => q)
          · refine zg_aload_n 2 rfl d_X5_wouldSwap_50 ?_
            refine zg_iload_n 1 rfl d_X5_wouldSwap_51 ?_
            refine zg_iload_n 4 rfl d_X5_wouldSwap_52 ?_
            refine zg_cVi (b := a0) (As := [.int v2, .int a2]) (rest := []) (0, 0) d_X5_wouldSwap_53 zc_5 rfl cw_X5_107 wi_X5_howFar ws_X5_howFar rfl rfl (Nat.le_of_ble_eq_true rfl) (by decide) (by decide) ⟨by decide, by decide⟩ rfl (t_X5_howFar a0 v2 a2 h7) (fun v10 h9 => ?_)
            refine zg_aload_n 2 rfl d_X5_wouldSwap_56 ?_
            refine zg_iload_n 1 rfl d_X5_wouldSwap_57 ?_
            refine zg_iload_n 3 rfl d_X5_wouldSwap_58 ?_
            refine zg_cVi (b := a0) (As := [.int v2, .int a1]) (rest := [.int v10]) (0, 0) d_X5_wouldSwap_59 zc_5 rfl cw_X5_107 wi_X5_howFar ws_X5_howFar rfl rfl (Nat.le_of_ble_eq_true rfl) (by decide) (by decide) ⟨by decide, by decide⟩ rfl (t_X5_howFar a0 v2 a1 h9) (fun v12 h11 => ?_)
            refine zg_icmp_ge d_X5_wouldSwap_62 ?_ ?_
            · refine zg_iconst 0 rfl d_X5_wouldSwap_86 ?_
              exact zg_zretK d_X5_wouldSwap_87 rfl ⟨Nat.le_of_ble_eq_true rfl, Nat.le_of_ble_eq_true rfl⟩ (Or.inl rfl) (fun q => q)
            · refine zg_aload_n 2 rfl d_X5_wouldSwap_65 ?_
              refine zg_iload 0 rfl d_X5_wouldSwap_66 ?_
              refine zg_iload_n 3 rfl d_X5_wouldSwap_68 ?_
              refine zg_cVi (b := a0) (As := [.int v4, .int a1]) (rest := []) (0, 0) d_X5_wouldSwap_69 zc_5 rfl cw_X5_107 wi_X5_howFar ws_X5_howFar rfl rfl (Nat.le_of_ble_eq_true rfl) (by decide) (by decide) ⟨by decide, by decide⟩ rfl (t_X5_howFar a0 v4 a1 h11) (fun v14 h13 => ?_)
              refine zg_aload_n 2 rfl d_X5_wouldSwap_72 ?_
              refine zg_iload 0 rfl d_X5_wouldSwap_73 ?_
              refine zg_iload_n 4 rfl d_X5_wouldSwap_75 ?_
              refine zg_cVi (b := a0) (As := [.int v4, .int a2]) (rest := [.int v14]) (0, 0) d_X5_wouldSwap_76 zc_5 rfl cw_X5_107 wi_X5_howFar ws_X5_howFar rfl rfl (Nat.le_of_ble_eq_true rfl) (by decide) (by decide) ⟨by decide, by decide⟩ rfl (t_X5_howFar a0 v4 a2 h13) (fun v16 h15 => ?_)
              refine zg_icmp_ge d_X5_wouldSwap_79 ?_ ?_
              · refine zg_iconst 0 rfl d_X5_wouldSwap_86 ?_
                exact zg_zretK d_X5_wouldSwap_87 rfl ⟨Nat.le_of_ble_eq_true rfl, Nat.le_of_ble_eq_true rfl⟩ (Or.inl rfl) (fun q => q)
              · refine zg_iconst 1 rfl d_X5_wouldSwap_82 ?_
                refine zg_goto d_X5_wouldSwap_83 ?_
                exact zg_zretK d_X5_wouldSwap_87 rfl ⟨Nat.le_of_ble_eq_true rfl, Nat.le_of_ble_eq_true rfl⟩ (Or.inr rfl) (fun q => q)
abbrev M_X7_isFrom : zMt := (RX7, cX7_isFrom, 3, 1, 60, (some .boolean), "isFrom", 0, 0)
theorem d_X7_isFrom_0 : zDc M_X7_isFrom 0 (.iload_n 1) 1 1 := ⟨by decide +kernel, rfl⟩
theorem d_X7_isFrom_1 : zDc M_X7_isFrom 1 (.iload_n 0) 1 2 := ⟨by decide +kernel, rfl⟩
theorem d_X7_isFrom_2 : zDj M_X7_isFrom 2 (.if_icmp .lt 12) 12 5 14 := ⟨by decide +kernel, rfl, by decide⟩
theorem d_X7_isFrom_5 : zDc M_X7_isFrom 5 (.iload_n 1) 1 6 := ⟨by decide +kernel, rfl⟩
theorem d_X7_isFrom_6 : zDc M_X7_isFrom 6 (.iload_n 2) 1 7 := ⟨by decide +kernel, rfl⟩
theorem d_X7_isFrom_7 : zDj M_X7_isFrom 7 (.if_icmp .gt 7) 7 10 14 := ⟨by decide +kernel, rfl, by decide⟩
theorem d_X7_isFrom_10 : zDc M_X7_isFrom 10 (.iconst 1) 1 11 := ⟨by decide +kernel, rfl⟩
theorem d_X7_isFrom_11 : zDj M_X7_isFrom 11 (.goto 4) 4 14 15 := ⟨by decide +kernel, rfl, by decide⟩
theorem d_X7_isFrom_14 : zDc M_X7_isFrom 14 (.iconst 0) 1 15 := ⟨by decide +kernel, rfl⟩
theorem d_X7_isFrom_15 : zDc M_X7_isFrom 15 (.ireturn) 1 16 := ⟨by decide +kernel, rfl⟩
def f_X7_isFrom (a0 : Int32) (a1 : Int32) (a2 : Int32) (h0 : zHp) : Option (Int32 × zHp) :=
  if a1 < a0 then
  some (0, h0)
  else
  if a2 < a1 then
  some (0, h0)
  else
  some (1, h0)
set_option maxRecDepth 100000 in
set_option maxHeartbeats 4000000 in
theorem t_X7_isFrom (a0 : Int32) (a1 : Int32) (a2 : Int32) (h0 : zHp) : ∀ (r : Int32) (h' : zHp), f_X7_isFrom a0 a1 a2 h0 = some (r, h') → zCt yX7_isFrom (.code yX7_isFrom cX7_isFrom 3 (some .boolean)) 1 60 0 0 [.int a0, .int a1, .int a2] h0 (some (.int r)) h' := by
  refine zct_of M_X7_isFrom yX7_isFrom (by decide) rfl rfl [.int a0, .int a1, .int a2] h0 (Nat.le_of_ble_eq_true rfl) (fun r => some (.int r)) (fun X => ?_)
  show zG X M_X7_isFrom (0, 0) 0 [(0, .int a0), (1, .int a1), (2, .int a2)] [] h0 (f_X7_isFrom a0 a1 a2 h0) (fun (r : Int32) h' => zKe X (some (.int r)) h')
  unfold f_X7_isFrom
  refine zg_iload_n 1 rfl d_X7_isFrom_0 ?_
  refine zg_iload_n 0 rfl d_X7_isFrom_1 ?_
  refine zg_icmp_lt d_X7_isFrom_2 ?_ ?_
  · refine zg_iconst 0 rfl d_X7_isFrom_14 ?_
    exact zg_zretK d_X7_isFrom_15 rfl ⟨Nat.le_of_ble_eq_true rfl, Nat.le_of_ble_eq_true rfl⟩ (Or.inl rfl) (fun q => q)
  · refine zg_iload_n 1 rfl d_X7_isFrom_5 ?_
    refine zg_iload_n 2 rfl d_X7_isFrom_6 ?_
    refine zg_icmp_gt d_X7_isFrom_7 ?_ ?_
    · refine zg_iconst 0 rfl d_X7_isFrom_14 ?_
      exact zg_zretK d_X7_isFrom_15 rfl ⟨Nat.le_of_ble_eq_true rfl, Nat.le_of_ble_eq_true rfl⟩ (Or.inl rfl) (fun q => q)
    · refine zg_iconst 1 rfl d_X7_isFrom_10 ?_
      refine zg_goto d_X7_isFrom_11 ?_
      exact zg_zretK d_X7_isFrom_15 rfl ⟨Nat.le_of_ble_eq_true rfl, Nat.le_of_ble_eq_true rfl⟩ (Or.inr rfl) (fun q => q)
abbrev M_X7_ahead : zMt := (RX7, cX7_ahead, 4, 7, 204, (some .int), "ahead", 0, 0)
theorem d_X7_ahead_0 : zDc M_X7_ahead 0 (.iconst 0) 1 1 := ⟨by decide +kernel, rfl⟩
theorem d_X7_ahead_1 : zDc M_X7_ahead 1 (.iload_n 1) 1 2 := ⟨by decide +kernel, rfl⟩
theorem d_X7_ahead_2 : zDc M_X7_ahead 2 (.bipush 60) 2 4 := ⟨by decide +kernel, rfl⟩
theorem d_X7_ahead_4 : zDc M_X7_ahead 4 (.invokestatic 194) 3 7 := ⟨by decide +kernel, rfl⟩
theorem d_X7_ahead_7 : zDj M_X7_ahead 7 (.ifCond .eq 12) 12 10 19 := ⟨by decide +kernel, rfl, by decide⟩
theorem d_X7_ahead_10 : zDc M_X7_ahead 10 (.iconst 0) 1 11 := ⟨by decide +kernel, rfl⟩
theorem d_X7_ahead_11 : zDc M_X7_ahead 11 (.iload_n 2) 1 12 := ⟨by decide +kernel, rfl⟩
theorem d_X7_ahead_12 : zDc M_X7_ahead 12 (.iconst 3) 1 13 := ⟨by decide +kernel, rfl⟩
theorem d_X7_ahead_13 : zDc M_X7_ahead 13 (.invokestatic 194) 3 16 := ⟨by decide +kernel, rfl⟩
theorem d_X7_ahead_16 : zDj M_X7_ahead 16 (.ifCond .ne 5) 5 19 21 := ⟨by decide +kernel, rfl, by decide⟩
theorem d_X7_ahead_19 : zDc M_X7_ahead 19 (.iconst (-1)) 1 20 := ⟨by decide +kernel, rfl⟩
theorem d_X7_ahead_20 : zDc M_X7_ahead 20 (.ireturn) 1 21 := ⟨by decide +kernel, rfl⟩
theorem d_X7_ahead_21 : zDc M_X7_ahead 21 (.aload_n 0) 1 22 := ⟨by decide +kernel, rfl⟩
theorem d_X7_ahead_22 : zDc M_X7_ahead 22 (.getfield 66) 3 25 := ⟨by decide +kernel, rfl⟩
theorem d_X7_ahead_25 : zDc M_X7_ahead 25 (.aload_n 0) 1 26 := ⟨by decide +kernel, rfl⟩
theorem d_X7_ahead_26 : zDc M_X7_ahead 26 (.getfield 38) 3 29 := ⟨by decide +kernel, rfl⟩
theorem d_X7_ahead_29 : zDc M_X7_ahead 29 (.iconst 0) 1 30 := ⟨by decide +kernel, rfl⟩
theorem d_X7_ahead_30 : zDc M_X7_ahead 30 (.iconst 0) 1 31 := ⟨by decide +kernel, rfl⟩
theorem d_X7_ahead_31 : zDc M_X7_ahead 31 (.iload_n 1) 1 32 := ⟨by decide +kernel, rfl⟩
theorem d_X7_ahead_32 : zDc M_X7_ahead 32 (.invokevirtual 228) 3 35 := ⟨by decide +kernel, rfl⟩
theorem d_X7_ahead_35 : zDc M_X7_ahead 35 (.astore_n 3) 1 36 := ⟨by decide +kernel, rfl⟩
theorem d_X7_ahead_36 : zDc M_X7_ahead 36 (.iload_n 2) 1 37 := ⟨by decide +kernel, rfl⟩
theorem d_X7_ahead_37 : decode M_X7_ahead.2.1 37 = .ok (.tableswitch 59 0 2 #[27, 40, 46], 27) := by decide +kernel
theorem d_X7_ahead_64 : zDc M_X7_ahead 64 (.aload_n 3) 1 65 := ⟨by decide +kernel, rfl⟩
theorem d_X7_ahead_65 : zDc M_X7_ahead 65 (.invokevirtual 232) 3 68 := ⟨by decide +kernel, rfl⟩
theorem d_X7_ahead_68 : zDc M_X7_ahead 68 (.aload_n 0) 1 69 := ⟨by decide +kernel, rfl⟩
theorem d_X7_ahead_69 : zDc M_X7_ahead 69 (.getfield 38) 3 72 := ⟨by decide +kernel, rfl⟩
theorem d_X7_ahead_72 : zDc M_X7_ahead 72 (.invokevirtual 232) 3 75 := ⟨by decide +kernel, rfl⟩
theorem d_X7_ahead_75 : zDc M_X7_ahead 75 (.isub) 1 76 := ⟨by decide +kernel, rfl⟩
theorem d_X7_ahead_76 : zDc M_X7_ahead 76 (.ireturn) 1 77 := ⟨by decide +kernel, rfl⟩
theorem d_X7_ahead_77 : zDc M_X7_ahead 77 (.aload_n 3) 1 78 := ⟨by decide +kernel, rfl⟩
theorem d_X7_ahead_78 : zDc M_X7_ahead 78 (.iconst 1) 1 79 := ⟨by decide +kernel, rfl⟩
theorem d_X7_ahead_79 : zDc M_X7_ahead 79 (.invokevirtual 235) 3 82 := ⟨by decide +kernel, rfl⟩
theorem d_X7_ahead_82 : zDc M_X7_ahead 82 (.ireturn) 1 83 := ⟨by decide +kernel, rfl⟩
theorem d_X7_ahead_83 : zDc M_X7_ahead 83 (.aload_n 3) 1 84 := ⟨by decide +kernel, rfl⟩
theorem d_X7_ahead_84 : zDc M_X7_ahead 84 (.invokevirtual 238) 3 87 := ⟨by decide +kernel, rfl⟩
theorem d_X7_ahead_87 : zDc M_X7_ahead 87 (.aload_n 0) 1 88 := ⟨by decide +kernel, rfl⟩
theorem d_X7_ahead_88 : zDc M_X7_ahead 88 (.getfield 38) 3 91 := ⟨by decide +kernel, rfl⟩
theorem d_X7_ahead_91 : zDc M_X7_ahead 91 (.invokevirtual 238) 3 94 := ⟨by decide +kernel, rfl⟩
theorem d_X7_ahead_94 : zDc M_X7_ahead 94 (.isub) 1 95 := ⟨by decide +kernel, rfl⟩
theorem d_X7_ahead_95 : zDc M_X7_ahead 95 (.ireturn) 1 96 := ⟨by decide +kernel, rfl⟩
theorem d_X7_ahead_96 : zDc M_X7_ahead 96 (.aload_n 3) 1 97 := ⟨by decide +kernel, rfl⟩
theorem d_X7_ahead_97 : zDc M_X7_ahead 97 (.iconst 2) 1 98 := ⟨by decide +kernel, rfl⟩
theorem d_X7_ahead_98 : zDc M_X7_ahead 98 (.invokevirtual 235) 3 101 := ⟨by decide +kernel, rfl⟩
theorem d_X7_ahead_101 : zDc M_X7_ahead 101 (.aload_n 0) 1 102 := ⟨by decide +kernel, rfl⟩
theorem d_X7_ahead_102 : zDc M_X7_ahead 102 (.getfield 38) 3 105 := ⟨by decide +kernel, rfl⟩
theorem d_X7_ahead_105 : zDc M_X7_ahead 105 (.iconst 2) 1 106 := ⟨by decide +kernel, rfl⟩
theorem d_X7_ahead_106 : zDc M_X7_ahead 106 (.invokevirtual 235) 3 109 := ⟨by decide +kernel, rfl⟩
theorem d_X7_ahead_109 : zDc M_X7_ahead 109 (.isub) 1 110 := ⟨by decide +kernel, rfl⟩
theorem d_X7_ahead_110 : zDc M_X7_ahead 110 (.ireturn) 1 111 := ⟨by decide +kernel, rfl⟩
def f_X7_ahead (a0 : Nat) (a1 : Int32) (a2 : Int32) (h0 : zHp) : Option (Int32 × zHp) :=
  zbd ((f_X7_isFrom 0 a1 60 h0)) (fun v2 h1 =>
  if v2 = 0 then
  some ((-1), h1)
  else
  zbd ((f_X7_isFrom 0 a2 3 h1)) (fun v4 h3 =>
  if v4 = 0 then
  some ((-1), h3)
  else
  zob (zgR h3 a0 7 9) (fun v5 =>
  zob (zgR h3 a0 7 4) (fun v6 =>
  zbd (zcv 1 v5 h3 (f_X1_skyAfter v5 v6 0 0 a1 h3)) (fun v8 h7 =>
  if a2 = 0 then
  zbd (zcv 5 v8 h7 (f_X5_rainInAll v8 h7)) (fun v10 h9 =>
  zob (zgR h9 a0 7 4) (fun v11 =>
  zbd (zcv 5 v11 h9 (f_X5_rainInAll v11 h9)) (fun v13 h12 =>
  some ((v10 - v13), h12))))
  else if a2 = 1 then
  zbd (zcv 5 v8 h7 (f_X5_howManyAre v8 1 h7)) (fun v15 h14 =>
  some (v15, h14))
  else if a2 = 2 then
  zbd (zcv 5 v8 h7 (f_X5_marksInAll v8 h7)) (fun v17 h16 =>
  zob (zgR h16 a0 7 4) (fun v18 =>
  zbd (zcv 5 v18 h16 (f_X5_marksInAll v18 h16)) (fun v20 h19 =>
  some ((v17 - v20), h19))))
  else 
  zbd (zcv 5 v8 h7 (f_X5_howManyAre v8 2 h7)) (fun v22 h21 =>
  zob (zgR h21 a0 7 4) (fun v23 =>
  zbd (zcv 5 v23 h21 (f_X5_howManyAre v23 2 h21)) (fun v25 h24 =>
  some ((v22 - v25), h24)))))))))
set_option maxRecDepth 100000 in
set_option maxHeartbeats 4000000 in
theorem t_X7_ahead (a0 : Nat) (a1 : Int32) (a2 : Int32) (h0 : zHp) : ∀ (r : Int32) (h' : zHp), f_X7_ahead a0 a1 a2 h0 = some (r, h') → zCt yX7_ahead (.code yX7_ahead cX7_ahead 4 (some .int)) 7 204 0 0 [.ref a0, .int a1, .int a2] h0 (some (.int r)) h' := by
  refine zct_of M_X7_ahead yX7_ahead (by decide) rfl rfl [.ref a0, .int a1, .int a2] h0 (Nat.le_of_ble_eq_true rfl) (fun r => some (.int r)) (fun X => ?_)
  show zG X M_X7_ahead (0, 0) 0 [(0, .ref a0), (1, .int a1), (2, .int a2)] [] h0 (f_X7_ahead a0 a1 a2 h0) (fun (r : Int32) h' => zKe X (some (.int r)) h')
  unfold f_X7_ahead
  refine zg_iconst 0 rfl d_X7_ahead_0 ?_
  refine zg_iload_n 1 rfl d_X7_ahead_1 ?_
  refine zg_bipush 60 rfl d_X7_ahead_2 ?_
  refine zg_cSi (As := [.int 0, .int a1, .int 60]) (rest := []) (0, 0) d_X7_ahead_4 cw_X7_194 wt_X7_isFrom rfl rfl (Nat.le_of_ble_eq_true rfl) (by decide) (by decide) ⟨by decide, by decide⟩ rfl (t_X7_isFrom 0 a1 60 h0) (fun v2 h1 => ?_)
  refine zg_if_eq d_X7_ahead_7 ?_ ?_
  · refine zg_iconst (-1) rfl d_X7_ahead_19 ?_
    exact zg_iretK d_X7_ahead_20 rfl ⟨Nat.le_of_ble_eq_true rfl, Nat.le_of_ble_eq_true rfl⟩ (fun q => q)
  · refine zg_iconst 0 rfl d_X7_ahead_10 ?_
    refine zg_iload_n 2 rfl d_X7_ahead_11 ?_
    refine zg_iconst 3 rfl d_X7_ahead_12 ?_
    refine zg_cSi (As := [.int 0, .int a2, .int 3]) (rest := []) (0, 0) d_X7_ahead_13 cw_X7_194 wt_X7_isFrom rfl rfl (Nat.le_of_ble_eq_true rfl) (by decide) (by decide) ⟨by decide, by decide⟩ rfl (t_X7_isFrom 0 a2 3 h1) (fun v4 h3 => ?_)
    refine zg_if_ne d_X7_ahead_16 ?_ ?_
    · refine zg_iconst (-1) rfl d_X7_ahead_19 ?_
      exact zg_iretK d_X7_ahead_20 rfl ⟨Nat.le_of_ble_eq_true rfl, Nat.le_of_ble_eq_true rfl⟩ (fun q => q)
    · refine zg_aload_n 0 rfl d_X7_ahead_21 ?_
      refine zg_getR d_X7_ahead_22 zc_7 (by decide) fl_X7_66 (fun v5 => ?_)
      refine zg_aload_n 0 rfl d_X7_ahead_25 ?_
      refine zg_getR d_X7_ahead_26 zc_7 (by decide) fl_X7_38 (fun v6 => ?_)
      refine zg_iconst 0 rfl d_X7_ahead_29 ?_
      refine zg_iconst 0 rfl d_X7_ahead_30 ?_
      refine zg_iload_n 1 rfl d_X7_ahead_31 ?_
      refine zg_cVr (b := v5) (As := [.ref v6, .int 0, .int 0, .int a1]) (rest := []) (0, 0) d_X7_ahead_32 zc_1 rfl cw_X7_228 wi_X1_skyAfter ws_X1_skyAfter rfl rfl (Nat.le_of_ble_eq_true rfl) (by decide) (by decide) ⟨by decide, by decide⟩ rfl (t_X1_skyAfter v5 v6 0 0 a1 h3) (fun v8 h7 => ?_)
      refine zg_astore_n [(3, .ref v8), (0, .ref a0), (1, .int a1), (2, .int a2)] d_X7_ahead_35 rfl (by decide) rfl ?_
      refine zg_iload_n 3 rfl d_X7_ahead_36 ?_
      refine zg_if (fun n26 => ?_) (fun n26 => ?_)
      · refine zg_tabE n26 d_X7_ahead_37 (by decide) (by decide) (off := 27) rfl (tgt := 64) (by decide) ?_
        refine zg_aload_n 0 rfl d_X7_ahead_64 ?_
        refine zg_cVi (b := v8) (As := []) (rest := []) (0, 0) d_X7_ahead_65 zc_5 rfl cw_X7_232 wi_X5_rainInAll ws_X5_rainInAll rfl rfl (Nat.le_of_ble_eq_true rfl) (by decide) (by decide) ⟨by decide, by decide⟩ rfl (t_X5_rainInAll v8 h7) (fun v10 h9 => ?_)
        refine zg_aload_n 1 rfl d_X7_ahead_68 ?_
        refine zg_getR d_X7_ahead_69 zc_7 (by decide) fl_X7_38 (fun v11 => ?_)
        refine zg_cVi (b := v11) (As := []) (rest := [.int v10]) (0, 0) d_X7_ahead_72 zc_5 rfl cw_X7_232 wi_X5_rainInAll ws_X5_rainInAll rfl rfl (Nat.le_of_ble_eq_true rfl) (by decide) (by decide) ⟨by decide, by decide⟩ rfl (t_X5_rainInAll v11 h9) (fun v13 h12 => ?_)
        refine zg_isub d_X7_ahead_75 ?_
        exact zg_iretK d_X7_ahead_76 rfl ⟨Nat.le_of_ble_eq_true rfl, Nat.le_of_ble_eq_true rfl⟩ (fun q => q)
      refine zg_if (fun n27 => ?_) (fun n27 => ?_)
      · refine zg_tabE n27 d_X7_ahead_37 (by decide) (by decide) (off := 40) rfl (tgt := 77) (by decide) ?_
        refine zg_aload_n 0 rfl d_X7_ahead_77 ?_
        refine zg_iconst 1 rfl d_X7_ahead_78 ?_
        refine zg_cVi (b := v8) (As := [.int 1]) (rest := []) (0, 0) d_X7_ahead_79 zc_5 rfl cw_X7_235 wi_X5_howManyAre ws_X5_howManyAre rfl rfl (Nat.le_of_ble_eq_true rfl) (by decide) (by decide) ⟨by decide, by decide⟩ rfl (t_X5_howManyAre v8 1 h7) (fun v15 h14 => ?_)
        exact zg_iretK d_X7_ahead_82 rfl ⟨Nat.le_of_ble_eq_true rfl, Nat.le_of_ble_eq_true rfl⟩ (fun q => q)
      refine zg_if (fun n28 => ?_) (fun n28 => ?_)
      · refine zg_tabE n28 d_X7_ahead_37 (by decide) (by decide) (off := 46) rfl (tgt := 83) (by decide) ?_
        refine zg_aload_n 0 rfl d_X7_ahead_83 ?_
        refine zg_cVi (b := v8) (As := []) (rest := []) (0, 0) d_X7_ahead_84 zc_5 rfl cw_X7_238 wi_X5_marksInAll ws_X5_marksInAll rfl rfl (Nat.le_of_ble_eq_true rfl) (by decide) (by decide) ⟨by decide, by decide⟩ rfl (t_X5_marksInAll v8 h7) (fun v17 h16 => ?_)
        refine zg_aload_n 1 rfl d_X7_ahead_87 ?_
        refine zg_getR d_X7_ahead_88 zc_7 (by decide) fl_X7_38 (fun v18 => ?_)
        refine zg_cVi (b := v18) (As := []) (rest := [.int v17]) (0, 0) d_X7_ahead_91 zc_5 rfl cw_X7_238 wi_X5_marksInAll ws_X5_marksInAll rfl rfl (Nat.le_of_ble_eq_true rfl) (by decide) (by decide) ⟨by decide, by decide⟩ rfl (t_X5_marksInAll v18 h16) (fun v20 h19 => ?_)
        refine zg_isub d_X7_ahead_94 ?_
        exact zg_iretK d_X7_ahead_95 rfl ⟨Nat.le_of_ble_eq_true rfl, Nat.le_of_ble_eq_true rfl⟩ (fun q => q)
      refine zg_tabO d_X7_ahead_37 (by have q0 := lv_neT n26 (a := 0) rfl; have q1 := lv_neT n27 (a := 1) rfl; have q2 := lv_neT n28 (a := 2) rfl; omega) (tgt := 96) (by decide) ?_
      refine zg_aload_n 0 rfl d_X7_ahead_96 ?_
      refine zg_iconst 2 rfl d_X7_ahead_97 ?_
      refine zg_cVi (b := v8) (As := [.int 2]) (rest := []) (0, 0) d_X7_ahead_98 zc_5 rfl cw_X7_235 wi_X5_howManyAre ws_X5_howManyAre rfl rfl (Nat.le_of_ble_eq_true rfl) (by decide) (by decide) ⟨by decide, by decide⟩ rfl (t_X5_howManyAre v8 2 h7) (fun v22 h21 => ?_)
      refine zg_aload_n 1 rfl d_X7_ahead_101 ?_
      refine zg_getR d_X7_ahead_102 zc_7 (by decide) fl_X7_38 (fun v23 => ?_)
      refine zg_iconst 2 rfl d_X7_ahead_105 ?_
      refine zg_cVi (b := v23) (As := [.int 2]) (rest := [.int v22]) (0, 0) d_X7_ahead_106 zc_5 rfl cw_X7_235 wi_X5_howManyAre ws_X5_howManyAre rfl rfl (Nat.le_of_ble_eq_true rfl) (by decide) (by decide) ⟨by decide, by decide⟩ rfl (t_X5_howManyAre v23 2 h21) (fun v25 h24 => ?_)
      refine zg_isub d_X7_ahead_109 ?_
      exact zg_iretK d_X7_ahead_110 rfl ⟨Nat.le_of_ble_eq_true rfl, Nat.le_of_ble_eq_true rfl⟩ (fun q => q)
abbrev M_X7_back : zMt := (RX7, cX7_back, 1, 2, 82, (some .int), "back", 0, 0)
theorem d_X7_back_0 : zDc M_X7_back 0 (.aload_n 0) 1 1 := ⟨by decide +kernel, rfl⟩
theorem d_X7_back_1 : zDc M_X7_back 1 (.getfield 45) 3 4 := ⟨by decide +kernel, rfl⟩
theorem d_X7_back_4 : zDj M_X7_back 4 (.ifCond .ne 5) 5 7 9 := ⟨by decide +kernel, rfl, by decide⟩
theorem d_X7_back_7 : zDc M_X7_back 7 (.iconst (-1)) 1 8 := ⟨by decide +kernel, rfl⟩
theorem d_X7_back_8 : zDc M_X7_back 8 (.ireturn) 1 9 := ⟨by decide +kernel, rfl⟩
theorem d_X7_back_9 : zDc M_X7_back 9 (.aload_n 0) 1 10 := ⟨by decide +kernel, rfl⟩
theorem d_X7_back_10 : zDc M_X7_back 10 (.getfield 38) 3 13 := ⟨by decide +kernel, rfl⟩
theorem d_X7_back_13 : zDc M_X7_back 13 (.aload_n 0) 1 14 := ⟨by decide +kernel, rfl⟩
theorem d_X7_back_14 : zDc M_X7_back 14 (.getfield 42) 3 17 := ⟨by decide +kernel, rfl⟩
theorem d_X7_back_17 : zDc M_X7_back 17 (.invokevirtual 328) 3 20 := ⟨by decide +kernel, rfl⟩
theorem d_X7_back_20 : zDc M_X7_back 20 (.aload_n 0) 1 21 := ⟨by decide +kernel, rfl⟩
theorem d_X7_back_21 : zDc M_X7_back 21 (.getfield 52) 3 24 := ⟨by decide +kernel, rfl⟩
theorem d_X7_back_24 : zDc M_X7_back 24 (.invokevirtual 88) 3 27 := ⟨by decide +kernel, rfl⟩
theorem d_X7_back_27 : zDc M_X7_back 27 (.aload_n 0) 1 28 := ⟨by decide +kernel, rfl⟩
theorem d_X7_back_28 : zDc M_X7_back 28 (.getfield 38) 3 31 := ⟨by decide +kernel, rfl⟩
theorem d_X7_back_31 : zDc M_X7_back 31 (.getfield 218) 3 34 := ⟨by decide +kernel, rfl⟩
theorem d_X7_back_34 : zDc M_X7_back 34 (.ireturn) 1 35 := ⟨by decide +kernel, rfl⟩
def f_X7_back (a0 : Nat) (h0 : zHp) : Option (Int32 × zHp) :=
  zob (zgI h0 a0 7 6) (fun v1 =>
  if v1 = 0 then
  some ((-1), h0)
  else
  zob (zgR h0 a0 7 4) (fun v2 =>
  zob (zgR h0 a0 7 5) (fun v3 =>
  zbd (zcv 5 v2 h0 (f_X5_copyFrom v2 v3 h0)) (fun v5 h4 =>
  zob (zgR h4 a0 7 7) (fun v6 =>
  zbd (zcv 0 v6 h4 (f_X0_forget v6 h4)) (fun v8 h7 =>
  zob (zgR h7 a0 7 4) (fun v9 =>
  zob (zgI h7 v9 5 11) (fun v10 =>
  some (v10, h7)))))))))
set_option maxRecDepth 100000 in
set_option maxHeartbeats 4000000 in
theorem t_X7_back (a0 : Nat) (h0 : zHp) : ∀ (r : Int32) (h' : zHp), f_X7_back a0 h0 = some (r, h') → zCt yX7_back (.code yX7_back cX7_back 1 (some .int)) 2 82 0 0 [.ref a0] h0 (some (.int r)) h' := by
  refine zct_of M_X7_back yX7_back (by decide) rfl rfl [.ref a0] h0 (Nat.le_of_ble_eq_true rfl) (fun r => some (.int r)) (fun X => ?_)
  show zG X M_X7_back (0, 0) 0 [(0, .ref a0)] [] h0 (f_X7_back a0 h0) (fun (r : Int32) h' => zKe X (some (.int r)) h')
  unfold f_X7_back
  refine zg_aload_n 0 rfl d_X7_back_0 ?_
  refine zg_getI d_X7_back_1 zc_7 (by decide) fl_X7_45 (fun v1 => ?_)
  refine zg_if_ne d_X7_back_4 ?_ ?_
  · refine zg_iconst (-1) rfl d_X7_back_7 ?_
    exact zg_iretK d_X7_back_8 rfl ⟨Nat.le_of_ble_eq_true rfl, Nat.le_of_ble_eq_true rfl⟩ (fun q => q)
  · refine zg_aload_n 0 rfl d_X7_back_9 ?_
    refine zg_getR d_X7_back_10 zc_7 (by decide) fl_X7_38 (fun v2 => ?_)
    refine zg_aload_n 0 rfl d_X7_back_13 ?_
    refine zg_getR d_X7_back_14 zc_7 (by decide) fl_X7_42 (fun v3 => ?_)
    refine zg_cVv (b := v2) (As := [.ref v3]) (rest := []) (0, 0) d_X7_back_17 zc_5 rfl cw_X7_328 wi_X5_copyFrom ws_X5_copyFrom rfl rfl (Nat.le_of_ble_eq_true rfl) (by decide) (by decide) ⟨by decide, by decide⟩ rfl (t_X5_copyFrom v2 v3 h0) (fun v5 h4 => ?_)
    refine zg_aload_n 0 rfl d_X7_back_20 ?_
    refine zg_getR d_X7_back_21 zc_7 (by decide) fl_X7_52 (fun v6 => ?_)
    refine zg_cVv (b := v6) (As := []) (rest := []) (0, 0) d_X7_back_24 zc_0 rfl cw_X7_88 wi_X0_forget ws_X0_forget rfl rfl (Nat.le_of_ble_eq_true rfl) (by decide) (by decide) ⟨by decide, by decide⟩ rfl (t_X0_forget v6 h4) (fun v8 h7 => ?_)
    refine zg_aload_n 0 rfl d_X7_back_27 ?_
    refine zg_getR d_X7_back_28 zc_7 (by decide) fl_X7_38 (fun v9 => ?_)
    refine zg_getI d_X7_back_31 zc_5 (by decide) fl_X7_218 (fun v10 => ?_)
    exact zg_iretK d_X7_back_34 rfl ⟨Nat.le_of_ble_eq_true rfl, Nat.le_of_ble_eq_true rfl⟩ (fun q => q)
abbrev M_X7_blow : zMt := (RX7, cX7_blow, 2, 3, 104, (some .boolean), "blow", 0, 0)
theorem d_X7_blow_0 : zDc M_X7_blow 0 (.iconst (-1)) 1 1 := ⟨by decide +kernel, rfl⟩
theorem d_X7_blow_1 : zDc M_X7_blow 1 (.iload_n 1) 1 2 := ⟨by decide +kernel, rfl⟩
theorem d_X7_blow_2 : zDc M_X7_blow 2 (.iconst 4) 1 3 := ⟨by decide +kernel, rfl⟩
theorem d_X7_blow_3 : zDc M_X7_blow 3 (.invokestatic 194) 3 6 := ⟨by decide +kernel, rfl⟩
theorem d_X7_blow_6 : zDj M_X7_blow 6 (.ifCond .eq 14) 14 9 20 := ⟨by decide +kernel, rfl, by decide⟩
theorem d_X7_blow_9 : zDc M_X7_blow 9 (.aload_n 0) 1 10 := ⟨by decide +kernel, rfl⟩
theorem d_X7_blow_10 : zDc M_X7_blow 10 (.getfield 38) 3 13 := ⟨by decide +kernel, rfl⟩
theorem d_X7_blow_13 : zDc M_X7_blow 13 (.getfield 215) 3 16 := ⟨by decide +kernel, rfl⟩
theorem d_X7_blow_16 : zDc M_X7_blow 16 (.iload_n 1) 1 17 := ⟨by decide +kernel, rfl⟩
theorem d_X7_blow_17 : zDj M_X7_blow 17 (.if_icmp .ne 5) 5 20 22 := ⟨by decide +kernel, rfl, by decide⟩
theorem d_X7_blow_20 : zDc M_X7_blow 20 (.iconst 0) 1 21 := ⟨by decide +kernel, rfl⟩
theorem d_X7_blow_21 : zDc M_X7_blow 21 (.ireturn) 1 22 := ⟨by decide +kernel, rfl⟩
theorem d_X7_blow_22 : zDc M_X7_blow 22 (.aload_n 0) 1 23 := ⟨by decide +kernel, rfl⟩
theorem d_X7_blow_23 : zDc M_X7_blow 23 (.getfield 52) 3 26 := ⟨by decide +kernel, rfl⟩
theorem d_X7_blow_26 : zDc M_X7_blow 26 (.iconst 3) 1 27 := ⟨by decide +kernel, rfl⟩
theorem d_X7_blow_27 : zDc M_X7_blow 27 (.iconst 0) 1 28 := ⟨by decide +kernel, rfl⟩
theorem d_X7_blow_28 : zDc M_X7_blow 28 (.aload_n 0) 1 29 := ⟨by decide +kernel, rfl⟩
theorem d_X7_blow_29 : zDc M_X7_blow 29 (.getfield 38) 3 32 := ⟨by decide +kernel, rfl⟩
theorem d_X7_blow_32 : zDc M_X7_blow 32 (.getfield 215) 3 35 := ⟨by decide +kernel, rfl⟩
theorem d_X7_blow_35 : zDc M_X7_blow 35 (.iconst 0) 1 36 := ⟨by decide +kernel, rfl⟩
theorem d_X7_blow_36 : zDc M_X7_blow 36 (.invokevirtual 207) 3 39 := ⟨by decide +kernel, rfl⟩
theorem d_X7_blow_39 : zDc M_X7_blow 39 (.aload_n 0) 1 40 := ⟨by decide +kernel, rfl⟩
theorem d_X7_blow_40 : zDc M_X7_blow 40 (.getfield 38) 3 43 := ⟨by decide +kernel, rfl⟩
theorem d_X7_blow_43 : zDc M_X7_blow 43 (.iload_n 1) 1 44 := ⟨by decide +kernel, rfl⟩
theorem d_X7_blow_44 : zDc M_X7_blow 44 (.putfield 215) 3 47 := ⟨by decide +kernel, rfl⟩
theorem d_X7_blow_47 : zDc M_X7_blow 47 (.iconst 1) 1 48 := ⟨by decide +kernel, rfl⟩
theorem d_X7_blow_48 : zDc M_X7_blow 48 (.ireturn) 1 49 := ⟨by decide +kernel, rfl⟩
def f_X7_blow (a0 : Nat) (a1 : Int32) (h0 : zHp) : Option (Int32 × zHp) :=
  zbd ((f_X7_isFrom (-1) a1 4 h0)) (fun v2 h1 =>
  if v2 = 0 then
  some (0, h1)
  else
  zob (zgR h1 a0 7 4) (fun v3 =>
  zob (zgI h1 v3 5 12) (fun v4 =>
  if v4 = a1 then
  some (0, h1)
  else
  zob (zgR h1 a0 7 7) (fun v5 =>
  zob (zgR h1 a0 7 4) (fun v6 =>
  zob (zgI h1 v6 5 12) (fun v7 =>
  zbd (zcv 0 v5 h1 (f_X0_remember v5 3 0 v7 0 h1)) (fun v9 h8 =>
  zob (zgR h8 a0 7 4) (fun v10 =>
  zob (zpV h8 v10 5 12 (.int a1)) (fun h11 =>
  some (1, h11))))))))))
set_option maxRecDepth 100000 in
set_option maxHeartbeats 4000000 in
theorem t_X7_blow (a0 : Nat) (a1 : Int32) (h0 : zHp) : ∀ (r : Int32) (h' : zHp), f_X7_blow a0 a1 h0 = some (r, h') → zCt yX7_blow (.code yX7_blow cX7_blow 2 (some .boolean)) 3 104 0 0 [.ref a0, .int a1] h0 (some (.int r)) h' := by
  refine zct_of M_X7_blow yX7_blow (by decide) rfl rfl [.ref a0, .int a1] h0 (Nat.le_of_ble_eq_true rfl) (fun r => some (.int r)) (fun X => ?_)
  show zG X M_X7_blow (0, 0) 0 [(0, .ref a0), (1, .int a1)] [] h0 (f_X7_blow a0 a1 h0) (fun (r : Int32) h' => zKe X (some (.int r)) h')
  unfold f_X7_blow
  refine zg_iconst (-1) rfl d_X7_blow_0 ?_
  refine zg_iload_n 1 rfl d_X7_blow_1 ?_
  refine zg_iconst 4 rfl d_X7_blow_2 ?_
  refine zg_cSi (As := [.int (-1), .int a1, .int 4]) (rest := []) (0, 0) d_X7_blow_3 cw_X7_194 wt_X7_isFrom rfl rfl (Nat.le_of_ble_eq_true rfl) (by decide) (by decide) ⟨by decide, by decide⟩ rfl (t_X7_isFrom (-1) a1 4 h0) (fun v2 h1 => ?_)
  refine zg_if_eq d_X7_blow_6 ?_ ?_
  · refine zg_iconst 0 rfl d_X7_blow_20 ?_
    exact zg_zretK d_X7_blow_21 rfl ⟨Nat.le_of_ble_eq_true rfl, Nat.le_of_ble_eq_true rfl⟩ (Or.inl rfl) (fun q => q)
  · refine zg_aload_n 0 rfl d_X7_blow_9 ?_
    refine zg_getR d_X7_blow_10 zc_7 (by decide) fl_X7_38 (fun v3 => ?_)
    refine zg_getI d_X7_blow_13 zc_5 (by decide) fl_X7_215 (fun v4 => ?_)
    refine zg_iload_n 1 rfl d_X7_blow_16 ?_
    refine zg_icmp_ne d_X7_blow_17 ?_ ?_
    · refine zg_iconst 0 rfl d_X7_blow_20 ?_
      exact zg_zretK d_X7_blow_21 rfl ⟨Nat.le_of_ble_eq_true rfl, Nat.le_of_ble_eq_true rfl⟩ (Or.inl rfl) (fun q => q)
    · refine zg_aload_n 0 rfl d_X7_blow_22 ?_
      refine zg_getR d_X7_blow_23 zc_7 (by decide) fl_X7_52 (fun v5 => ?_)
      refine zg_iconst 3 rfl d_X7_blow_26 ?_
      refine zg_iconst 0 rfl d_X7_blow_27 ?_
      refine zg_aload_n 0 rfl d_X7_blow_28 ?_
      refine zg_getR d_X7_blow_29 zc_7 (by decide) fl_X7_38 (fun v6 => ?_)
      refine zg_getI d_X7_blow_32 zc_5 (by decide) fl_X7_215 (fun v7 => ?_)
      refine zg_iconst 0 rfl d_X7_blow_35 ?_
      refine zg_cVv (b := v5) (As := [.int 3, .int 0, .int v7, .int 0]) (rest := []) (0, 0) d_X7_blow_36 zc_0 rfl cw_X7_207 wi_X0_remember ws_X0_remember rfl rfl (Nat.le_of_ble_eq_true rfl) (by decide) (by decide) ⟨by decide, by decide⟩ rfl (t_X0_remember v5 3 0 v7 0 h1) (fun v9 h8 => ?_)
      refine zg_aload_n 0 rfl d_X7_blow_39 ?_
      refine zg_getR d_X7_blow_40 zc_7 (by decide) fl_X7_38 (fun v10 => ?_)
      refine zg_iload_n 1 rfl d_X7_blow_43 ?_
      refine zg_putV d_X7_blow_44 zc_5 (by decide) fl_X7_215 rfl rfl rfl (fun h11 => ?_)
      refine zg_iconst 1 rfl d_X7_blow_47 ?_
      exact zg_zretK d_X7_blow_48 rfl ⟨Nat.le_of_ble_eq_true rfl, Nat.le_of_ble_eq_true rfl⟩ (Or.inr rfl) (fun q => q)
abbrev M_X7_isField : zMt := (RX7, cX7_isField, 2, 1, 60, (some .boolean), "isField", 0, 0)
theorem d_X7_isField_0 : zDc M_X7_isField 0 (.iload_n 1) 1 1 := ⟨by decide +kernel, rfl⟩
theorem d_X7_isField_1 : zDj M_X7_isField 1 (.ifCond .lt 18) 18 4 19 := ⟨by decide +kernel, rfl, by decide⟩
theorem d_X7_isField_4 : zDc M_X7_isField 4 (.iload_n 1) 1 5 := ⟨by decide +kernel, rfl⟩
theorem d_X7_isField_5 : zDc M_X7_isField 5 (.aload_n 0) 1 6 := ⟨by decide +kernel, rfl⟩
theorem d_X7_isField_6 : zDc M_X7_isField 6 (.getfield 29) 3 9 := ⟨by decide +kernel, rfl⟩
theorem d_X7_isField_9 : zDc M_X7_isField 9 (.getfield 99) 3 12 := ⟨by decide +kernel, rfl⟩
theorem d_X7_isField_12 : zDj M_X7_isField 12 (.if_icmp .ge 7) 7 15 19 := ⟨by decide +kernel, rfl, by decide⟩
theorem d_X7_isField_15 : zDc M_X7_isField 15 (.iconst 1) 1 16 := ⟨by decide +kernel, rfl⟩
theorem d_X7_isField_16 : zDj M_X7_isField 16 (.goto 4) 4 19 20 := ⟨by decide +kernel, rfl, by decide⟩
theorem d_X7_isField_19 : zDc M_X7_isField 19 (.iconst 0) 1 20 := ⟨by decide +kernel, rfl⟩
theorem d_X7_isField_20 : zDc M_X7_isField 20 (.ireturn) 1 21 := ⟨by decide +kernel, rfl⟩
def f_X7_isField (a0 : Nat) (a1 : Int32) (h0 : zHp) : Option (Int32 × zHp) :=
  if a1 < 0 then
  some (0, h0)
  else
  zob (zgR h0 a0 7 3) (fun v1 =>
  zob (zgI h0 v1 6 13) (fun v2 =>
  if v2 ≤ a1 then
  some (0, h0)
  else
  some (1, h0)))
set_option maxRecDepth 100000 in
set_option maxHeartbeats 4000000 in
theorem t_X7_isField (a0 : Nat) (a1 : Int32) (h0 : zHp) : ∀ (r : Int32) (h' : zHp), f_X7_isField a0 a1 h0 = some (r, h') → zCt yX7_isField (.code yX7_isField cX7_isField 2 (some .boolean)) 1 60 0 0 [.ref a0, .int a1] h0 (some (.int r)) h' := by
  refine zct_of M_X7_isField yX7_isField (by decide) rfl rfl [.ref a0, .int a1] h0 (Nat.le_of_ble_eq_true rfl) (fun r => some (.int r)) (fun X => ?_)
  show zG X M_X7_isField (0, 0) 0 [(0, .ref a0), (1, .int a1)] [] h0 (f_X7_isField a0 a1 h0) (fun (r : Int32) h' => zKe X (some (.int r)) h')
  unfold f_X7_isField
  refine zg_iload_n 1 rfl d_X7_isField_0 ?_
  refine zg_if_lt d_X7_isField_1 ?_ ?_
  · refine zg_iconst 0 rfl d_X7_isField_19 ?_
    exact zg_zretK d_X7_isField_20 rfl ⟨Nat.le_of_ble_eq_true rfl, Nat.le_of_ble_eq_true rfl⟩ (Or.inl rfl) (fun q => q)
  · refine zg_iload_n 1 rfl d_X7_isField_4 ?_
    refine zg_aload_n 0 rfl d_X7_isField_5 ?_
    refine zg_getR d_X7_isField_6 zc_7 (by decide) fl_X7_29 (fun v1 => ?_)
    refine zg_getI d_X7_isField_9 zc_6 (by decide) fl_X7_99 (fun v2 => ?_)
    refine zg_icmp_ge d_X7_isField_12 ?_ ?_
    · refine zg_iconst 0 rfl d_X7_isField_19 ?_
      exact zg_zretK d_X7_isField_20 rfl ⟨Nat.le_of_ble_eq_true rfl, Nat.le_of_ble_eq_true rfl⟩ (Or.inl rfl) (fun q => q)
    · refine zg_iconst 1 rfl d_X7_isField_15 ?_
      refine zg_goto d_X7_isField_16 ?_
      exact zg_zretK d_X7_isField_20 rfl ⟨Nat.le_of_ble_eq_true rfl, Nat.le_of_ble_eq_true rfl⟩ (Or.inr rfl) (fun q => q)
abbrev M_X7_chance : zMt := (RX7, cX7_chance, 7, 7, 203, (some .int), "chance", 0, 0)
theorem d_X7_chance_0 : zDc M_X7_chance 0 (.iload_n 1) 1 1 := ⟨by decide +kernel, rfl⟩
theorem d_X7_chance_1 : zDj M_X7_chance 1 (.ifCond .lt 33) 33 4 34 := ⟨by decide +kernel, rfl, by decide⟩
theorem d_X7_chance_4 : zDc M_X7_chance 4 (.iconst 1) 1 5 := ⟨by decide +kernel, rfl⟩
theorem d_X7_chance_5 : zDc M_X7_chance 5 (.iload_n 2) 1 6 := ⟨by decide +kernel, rfl⟩
theorem d_X7_chance_6 : zDc M_X7_chance 6 (.bipush 60) 2 8 := ⟨by decide +kernel, rfl⟩
theorem d_X7_chance_8 : zDc M_X7_chance 8 (.invokestatic 194) 3 11 := ⟨by decide +kernel, rfl⟩
theorem d_X7_chance_11 : zDj M_X7_chance 11 (.ifCond .eq 23) 23 14 34 := ⟨by decide +kernel, rfl, by decide⟩
theorem d_X7_chance_14 : zDc M_X7_chance 14 (.aload_n 0) 1 15 := ⟨by decide +kernel, rfl⟩
theorem d_X7_chance_15 : zDc M_X7_chance 15 (.iload_n 3) 1 16 := ⟨by decide +kernel, rfl⟩
theorem d_X7_chance_16 : zDc M_X7_chance 16 (.invokevirtual 168) 3 19 := ⟨by decide +kernel, rfl⟩
theorem d_X7_chance_19 : zDj M_X7_chance 19 (.ifCond .eq 15) 15 22 34 := ⟨by decide +kernel, rfl, by decide⟩
theorem d_X7_chance_22 : zDc M_X7_chance 22 (.iconst 0) 1 23 := ⟨by decide +kernel, rfl⟩
theorem d_X7_chance_23 : zDc M_X7_chance 23 (.iload 4) 2 25 := ⟨by decide +kernel, rfl⟩
theorem d_X7_chance_25 : zDc M_X7_chance 25 (.sipush 999) 3 28 := ⟨by decide +kernel, rfl⟩
theorem d_X7_chance_28 : zDc M_X7_chance 28 (.invokestatic 194) 3 31 := ⟨by decide +kernel, rfl⟩
theorem d_X7_chance_31 : zDj M_X7_chance 31 (.ifCond .ne 5) 5 34 36 := ⟨by decide +kernel, rfl, by decide⟩
theorem d_X7_chance_34 : zDc M_X7_chance 34 (.iconst (-1)) 1 35 := ⟨by decide +kernel, rfl⟩
theorem d_X7_chance_35 : zDc M_X7_chance 35 (.ireturn) 1 36 := ⟨by decide +kernel, rfl⟩
theorem d_X7_chance_36 : zDc M_X7_chance 36 (.aload_n 0) 1 37 := ⟨by decide +kernel, rfl⟩
theorem d_X7_chance_37 : zDc M_X7_chance 37 (.getfield 66) 3 40 := ⟨by decide +kernel, rfl⟩
theorem d_X7_chance_40 : zDc M_X7_chance 40 (.iload_n 1) 1 41 := ⟨by decide +kernel, rfl⟩
theorem d_X7_chance_41 : zDc M_X7_chance 41 (.invokevirtual 315) 3 44 := ⟨by decide +kernel, rfl⟩
theorem d_X7_chance_44 : zDc M_X7_chance 44 (.iconst 0) 1 45 := ⟨by decide +kernel, rfl⟩
theorem d_X7_chance_45 : zDc M_X7_chance 45 (.istore 5) 2 47 := ⟨by decide +kernel, rfl⟩
theorem d_X7_chance_47 : zDc M_X7_chance 47 (.iconst 0) 1 48 := ⟨by decide +kernel, rfl⟩
theorem d_X7_chance_48 : zDc M_X7_chance 48 (.istore 6) 2 50 := ⟨by decide +kernel, rfl⟩
theorem d_X7_chance_50 : zDc M_X7_chance 50 (.iload 6) 2 52 := ⟨by decide +kernel, rfl⟩
theorem d_X7_chance_52 : zDc M_X7_chance 52 (.bipush 10) 2 54 := ⟨by decide +kernel, rfl⟩
theorem d_X7_chance_54 : zDj M_X7_chance 54 (.if_icmp .ge 30) 30 57 84 := ⟨by decide +kernel, rfl, by decide⟩
theorem d_X7_chance_57 : zDc M_X7_chance 57 (.aload_n 0) 1 58 := ⟨by decide +kernel, rfl⟩
theorem d_X7_chance_58 : zDc M_X7_chance 58 (.getfield 66) 3 61 := ⟨by decide +kernel, rfl⟩
theorem d_X7_chance_61 : zDc M_X7_chance 61 (.aload_n 0) 1 62 := ⟨by decide +kernel, rfl⟩
theorem d_X7_chance_62 : zDc M_X7_chance 62 (.getfield 38) 3 65 := ⟨by decide +kernel, rfl⟩
theorem d_X7_chance_65 : zDc M_X7_chance 65 (.iload_n 2) 1 66 := ⟨by decide +kernel, rfl⟩
theorem d_X7_chance_66 : zDc M_X7_chance 66 (.iload_n 3) 1 67 := ⟨by decide +kernel, rfl⟩
theorem d_X7_chance_67 : zDc M_X7_chance 67 (.invokevirtual 318) 3 70 := ⟨by decide +kernel, rfl⟩
theorem d_X7_chance_70 : zDc M_X7_chance 70 (.iload 4) 2 72 := ⟨by decide +kernel, rfl⟩
theorem d_X7_chance_72 : zDj M_X7_chance 72 (.if_icmp .lt 6) 6 75 78 := ⟨by decide +kernel, rfl, by decide⟩
theorem d_X7_chance_75 : zDc M_X7_chance 75 (.iinc 5 1) 3 78 := ⟨by decide +kernel, rfl⟩
theorem d_X7_chance_78 : zDc M_X7_chance 78 (.iinc 6 1) 3 81 := ⟨by decide +kernel, rfl⟩
theorem d_X7_chance_81 : zDj M_X7_chance 81 (.goto (-31)) (-31) 84 50 := ⟨by decide +kernel, rfl, by decide⟩
theorem d_X7_chance_84 : zDc M_X7_chance 84 (.iload 5) 2 86 := ⟨by decide +kernel, rfl⟩
theorem d_X7_chance_86 : zDc M_X7_chance 86 (.ireturn) 1 87 := ⟨by decide +kernel, rfl⟩
def f_X7_chance (a0 : Nat) (a1 : Int32) (a2 : Int32) (a3 : Int32) (a4 : Int32) (h0 : zHp) : Option (Int32 × zHp) :=
  if a1 < 0 then
  some ((-1), h0)
  else
  zbd ((f_X7_isFrom 1 a2 60 h0)) (fun v2 h1 =>
  if v2 = 0 then
  some ((-1), h1)
  else
  zbd (zcv 7 a0 h1 (f_X7_isField a0 a3 h1)) (fun v4 h3 =>
  if v4 = 0 then
  some ((-1), h3)
  else
  zbd ((f_X7_isFrom 0 a4 999 h3)) (fun v6 h5 =>
  if v6 = 0 then
  some ((-1), h5)
  else
  zob (zgR h5 a0 7 9) (fun v7 =>
  zbd (zcv 1 v7 h5 (f_X1_drawFrom v7 a1 h5)) (fun v9 h8 =>
  zbd (
  zlp (σ := (Int32 × Int32)) (β := (Int32 × Int32)) zLF (fun s10 h11 =>
  if 10 ≤ s10.2 then
  some ((.inr (s10.1, s10.2)), h11)
  else
  zob (zgR h11 a0 7 9) (fun v14 =>
  zob (zgR h11 a0 7 4) (fun v15 =>
  zbd (zcv 1 v14 h11 (f_X1_rainByChance v14 v15 a2 a3 h11)) (fun v17 h16 =>
  if v17 < a4 then
  some ((.inl (s10.1, (s10.2 + 1))), h16)
  else
  some ((.inl ((s10.1 + 1), (s10.2 + 1))), h16))))) (0, 0) h8) (fun e12 h13 =>
  some (e12.1, h13)))))))
set_option maxRecDepth 100000 in
set_option maxHeartbeats 4000000 in
theorem t_X7_chance (a0 : Nat) (a1 : Int32) (a2 : Int32) (a3 : Int32) (a4 : Int32) (h0 : zHp) : ∀ (r : Int32) (h' : zHp), f_X7_chance a0 a1 a2 a3 a4 h0 = some (r, h') → zCt yX7_chance (.code yX7_chance cX7_chance 7 (some .int)) 7 203 0 0 [.ref a0, .int a1, .int a2, .int a3, .int a4] h0 (some (.int r)) h' := by
  refine zct_of M_X7_chance yX7_chance (by decide) rfl rfl [.ref a0, .int a1, .int a2, .int a3, .int a4] h0 (Nat.le_of_ble_eq_true rfl) (fun r => some (.int r)) (fun X => ?_)
  show zG X M_X7_chance (0, 0) 0 [(0, .ref a0), (1, .int a1), (2, .int a2), (3, .int a3), (4, .int a4)] [] h0 (f_X7_chance a0 a1 a2 a3 a4 h0) (fun (r : Int32) h' => zKe X (some (.int r)) h')
  unfold f_X7_chance
  refine zg_iload_n 1 rfl d_X7_chance_0 ?_
  refine zg_if_lt d_X7_chance_1 ?_ ?_
  · refine zg_iconst (-1) rfl d_X7_chance_34 ?_
    exact zg_iretK d_X7_chance_35 rfl ⟨Nat.le_of_ble_eq_true rfl, Nat.le_of_ble_eq_true rfl⟩ (fun q => q)
  · refine zg_iconst 1 rfl d_X7_chance_4 ?_
    refine zg_iload_n 2 rfl d_X7_chance_5 ?_
    refine zg_bipush 60 rfl d_X7_chance_6 ?_
    refine zg_cSi (As := [.int 1, .int a2, .int 60]) (rest := []) (0, 0) d_X7_chance_8 cw_X7_194 wt_X7_isFrom rfl rfl (Nat.le_of_ble_eq_true rfl) (by decide) (by decide) ⟨by decide, by decide⟩ rfl (t_X7_isFrom 1 a2 60 h0) (fun v2 h1 => ?_)
    refine zg_if_eq d_X7_chance_11 ?_ ?_
    · refine zg_iconst (-1) rfl d_X7_chance_34 ?_
      exact zg_iretK d_X7_chance_35 rfl ⟨Nat.le_of_ble_eq_true rfl, Nat.le_of_ble_eq_true rfl⟩ (fun q => q)
    · refine zg_aload_n 0 rfl d_X7_chance_14 ?_
      refine zg_iload_n 3 rfl d_X7_chance_15 ?_
      refine zg_cVi (b := a0) (As := [.int a3]) (rest := []) (0, 0) d_X7_chance_16 zc_7 rfl cw_X7_168 wi_X7_isField ws_X7_isField rfl rfl (Nat.le_of_ble_eq_true rfl) (by decide) (by decide) ⟨by decide, by decide⟩ rfl (t_X7_isField a0 a3 h1) (fun v4 h3 => ?_)
      refine zg_if_eq d_X7_chance_19 ?_ ?_
      · refine zg_iconst (-1) rfl d_X7_chance_34 ?_
        exact zg_iretK d_X7_chance_35 rfl ⟨Nat.le_of_ble_eq_true rfl, Nat.le_of_ble_eq_true rfl⟩ (fun q => q)
      · refine zg_iconst 0 rfl d_X7_chance_22 ?_
        refine zg_iload 4 rfl d_X7_chance_23 ?_
        refine zg_sipush 999 rfl d_X7_chance_25 ?_
        refine zg_cSi (As := [.int 0, .int a4, .int 999]) (rest := []) (0, 0) d_X7_chance_28 cw_X7_194 wt_X7_isFrom rfl rfl (Nat.le_of_ble_eq_true rfl) (by decide) (by decide) ⟨by decide, by decide⟩ rfl (t_X7_isFrom 0 a4 999 h3) (fun v6 h5 => ?_)
        refine zg_if_ne d_X7_chance_31 ?_ ?_
        · refine zg_iconst (-1) rfl d_X7_chance_34 ?_
          exact zg_iretK d_X7_chance_35 rfl ⟨Nat.le_of_ble_eq_true rfl, Nat.le_of_ble_eq_true rfl⟩ (fun q => q)
        · refine zg_aload_n 0 rfl d_X7_chance_36 ?_
          refine zg_getR d_X7_chance_37 zc_7 (by decide) fl_X7_66 (fun v7 => ?_)
          refine zg_iload_n 1 rfl d_X7_chance_40 ?_
          refine zg_cVv (b := v7) (As := [.int a1]) (rest := []) (0, 0) d_X7_chance_41 zc_1 rfl cw_X7_315 wi_X1_drawFrom ws_X1_drawFrom rfl rfl (Nat.le_of_ble_eq_true rfl) (by decide) (by decide) ⟨by decide, by decide⟩ rfl (t_X1_drawFrom v7 a1 h5) (fun v9 h8 => ?_)
          refine zg_iconst 0 rfl d_X7_chance_44 ?_
          refine zg_istore [(5, .int 0), (0, .ref a0), (1, .int a1), (2, .int a2), (3, .int a3), (4, .int a4)] d_X7_chance_45 (by decide) rfl ?_
          refine zg_iconst 0 rfl d_X7_chance_47 ?_
          refine zg_istore [(6, .int 0), (5, .int 0), (0, .ref a0), (1, .int a1), (2, .int a2), (3, .int a3), (4, .int a4)] d_X7_chance_48 (by decide) rfl ?_
          refine zg_bd (E := 84) (el := (fun (e12 : (Int32 × Int32)) => [(0, .ref a0), (1, .int a1), (2, .int a2), (3, .int a3), (4, .int a4), (5, .int e12.1), (6, .int e12.2)])) (es := fun _ => []) (zg_sub [2, 3, 4, 5, 6, 1, 0] rfl (zg_lp (el := (fun (s10 : (Int32 × Int32)) => [(0, .ref a0), (1, .int a1), (2, .int a2), (3, .int a3), (4, .int a4), (5, .int s10.1), (6, .int s10.2)])) (fun s10 h11 => ?_) (0, 0) h8)) (fun e12 h13 => ?_)
          · refine zg_iload 6 rfl d_X7_chance_50 ?_
            refine zg_bipush 10 rfl d_X7_chance_52 ?_
            refine zg_icmp_ge d_X7_chance_54 ?_ ?_
            · exact zg_finK (E := 0) [0, 1, 2, 3, 4, 5, 6] rfl rfl (fun q => q)
            · refine zg_aload_n 0 rfl d_X7_chance_57 ?_
              refine zg_getR d_X7_chance_58 zc_7 (by decide) fl_X7_66 (fun v14 => ?_)
              refine zg_aload_n 0 rfl d_X7_chance_61 ?_
              refine zg_getR d_X7_chance_62 zc_7 (by decide) fl_X7_38 (fun v15 => ?_)
              refine zg_iload_n 2 rfl d_X7_chance_65 ?_
              refine zg_iload_n 3 rfl d_X7_chance_66 ?_
              refine zg_cVi (b := v14) (As := [.ref v15, .int a2, .int a3]) (rest := []) (0, 0) d_X7_chance_67 zc_1 rfl cw_X7_318 wi_X1_rainByChance ws_X1_rainByChance rfl rfl (Nat.le_of_ble_eq_true rfl) (by decide) (by decide) ⟨by decide, by decide⟩ rfl (t_X1_rainByChance v14 v15 a2 a3 h11) (fun v17 h16 => ?_)
              refine zg_iload 4 rfl d_X7_chance_70 ?_
              refine zg_icmp_lt d_X7_chance_72 ?_ ?_
              · refine zg_iinc 6 (s10.2 + 1) [(6, .int (s10.2 + 1)), (0, .ref a0), (1, .int a1), (2, .int a2), (3, .int a3), (4, .int a4), (5, .int s10.1)] d_X7_chance_78 rfl rfl (by decide) rfl ?_
                refine zg_goto d_X7_chance_81 ?_
                exact zg_finK (E := 0) [1, 2, 3, 4, 5, 6, 0] rfl rfl (fun q => q)
              · refine zg_iinc 5 (s10.1 + 1) [(5, .int (s10.1 + 1)), (0, .ref a0), (1, .int a1), (2, .int a2), (3, .int a3), (4, .int a4), (6, .int s10.2)] d_X7_chance_75 rfl rfl (by decide) rfl ?_
                refine zg_iinc 6 (s10.2 + 1) [(6, .int (s10.2 + 1)), (5, .int (s10.1 + 1)), (0, .ref a0), (1, .int a1), (2, .int a2), (3, .int a3), (4, .int a4)] d_X7_chance_78 rfl rfl (by decide) rfl ?_
                refine zg_goto d_X7_chance_81 ?_
                exact zg_finK (E := 0) [2, 3, 4, 5, 6, 1, 0] rfl rfl (fun q => q)
          · refine zg_iload 5 rfl d_X7_chance_84 ?_
            exact zg_iretK d_X7_chance_86 rfl ⟨Nat.le_of_ble_eq_true rfl, Nat.le_of_ble_eq_true rfl⟩ (fun q => q)
abbrev M_X7_isChild : zMt := (RX7, cX7_isChild, 2, 1, 60, (some .boolean), "isChild", 0, 0)
theorem d_X7_isChild_0 : zDc M_X7_isChild 0 (.iload_n 1) 1 1 := ⟨by decide +kernel, rfl⟩
theorem d_X7_isChild_1 : zDj M_X7_isChild 1 (.ifCond .lt 18) 18 4 19 := ⟨by decide +kernel, rfl, by decide⟩
theorem d_X7_isChild_4 : zDc M_X7_isChild 4 (.iload_n 1) 1 5 := ⟨by decide +kernel, rfl⟩
theorem d_X7_isChild_5 : zDc M_X7_isChild 5 (.aload_n 0) 1 6 := ⟨by decide +kernel, rfl⟩
theorem d_X7_isChild_6 : zDc M_X7_isChild 6 (.getfield 29) 3 9 := ⟨by decide +kernel, rfl⟩
theorem d_X7_isChild_9 : zDc M_X7_isChild 9 (.getfield 115) 3 12 := ⟨by decide +kernel, rfl⟩
theorem d_X7_isChild_12 : zDj M_X7_isChild 12 (.if_icmp .ge 7) 7 15 19 := ⟨by decide +kernel, rfl, by decide⟩
theorem d_X7_isChild_15 : zDc M_X7_isChild 15 (.iconst 1) 1 16 := ⟨by decide +kernel, rfl⟩
theorem d_X7_isChild_16 : zDj M_X7_isChild 16 (.goto 4) 4 19 20 := ⟨by decide +kernel, rfl, by decide⟩
theorem d_X7_isChild_19 : zDc M_X7_isChild 19 (.iconst 0) 1 20 := ⟨by decide +kernel, rfl⟩
theorem d_X7_isChild_20 : zDc M_X7_isChild 20 (.ireturn) 1 21 := ⟨by decide +kernel, rfl⟩
def f_X7_isChild (a0 : Nat) (a1 : Int32) (h0 : zHp) : Option (Int32 × zHp) :=
  if a1 < 0 then
  some (0, h0)
  else
  zob (zgR h0 a0 7 3) (fun v1 =>
  zob (zgI h0 v1 6 15) (fun v2 =>
  if v2 ≤ a1 then
  some (0, h0)
  else
  some (1, h0)))
set_option maxRecDepth 100000 in
set_option maxHeartbeats 4000000 in
theorem t_X7_isChild (a0 : Nat) (a1 : Int32) (h0 : zHp) : ∀ (r : Int32) (h' : zHp), f_X7_isChild a0 a1 h0 = some (r, h') → zCt yX7_isChild (.code yX7_isChild cX7_isChild 2 (some .boolean)) 1 60 0 0 [.ref a0, .int a1] h0 (some (.int r)) h' := by
  refine zct_of M_X7_isChild yX7_isChild (by decide) rfl rfl [.ref a0, .int a1] h0 (Nat.le_of_ble_eq_true rfl) (fun r => some (.int r)) (fun X => ?_)
  show zG X M_X7_isChild (0, 0) 0 [(0, .ref a0), (1, .int a1)] [] h0 (f_X7_isChild a0 a1 h0) (fun (r : Int32) h' => zKe X (some (.int r)) h')
  unfold f_X7_isChild
  refine zg_iload_n 1 rfl d_X7_isChild_0 ?_
  refine zg_if_lt d_X7_isChild_1 ?_ ?_
  · refine zg_iconst 0 rfl d_X7_isChild_19 ?_
    exact zg_zretK d_X7_isChild_20 rfl ⟨Nat.le_of_ble_eq_true rfl, Nat.le_of_ble_eq_true rfl⟩ (Or.inl rfl) (fun q => q)
  · refine zg_iload_n 1 rfl d_X7_isChild_4 ?_
    refine zg_aload_n 0 rfl d_X7_isChild_5 ?_
    refine zg_getR d_X7_isChild_6 zc_7 (by decide) fl_X7_29 (fun v1 => ?_)
    refine zg_getI d_X7_isChild_9 zc_6 (by decide) fl_X7_115 (fun v2 => ?_)
    refine zg_icmp_ge d_X7_isChild_12 ?_ ?_
    · refine zg_iconst 0 rfl d_X7_isChild_19 ?_
      exact zg_zretK d_X7_isChild_20 rfl ⟨Nat.le_of_ble_eq_true rfl, Nat.le_of_ble_eq_true rfl⟩ (Or.inl rfl) (fun q => q)
    · refine zg_iconst 1 rfl d_X7_isChild_15 ?_
      refine zg_goto d_X7_isChild_16 ?_
      exact zg_zretK d_X7_isChild_20 rfl ⟨Nat.le_of_ble_eq_true rfl, Nat.le_of_ble_eq_true rfl⟩ (Or.inr rfl) (fun q => q)
abbrev M_X7_child : zMt := (RX7, cX7_child, 3, 3, 104, (some .int), "child", 0, 0)
theorem d_X7_child_0 : zDc M_X7_child 0 (.aload_n 0) 1 1 := ⟨by decide +kernel, rfl⟩
theorem d_X7_child_1 : zDc M_X7_child 1 (.iload_n 1) 1 2 := ⟨by decide +kernel, rfl⟩
theorem d_X7_child_2 : zDc M_X7_child 2 (.invokevirtual 146) 3 5 := ⟨by decide +kernel, rfl⟩
theorem d_X7_child_5 : zDj M_X7_child 5 (.ifCond .ne 5) 5 8 10 := ⟨by decide +kernel, rfl, by decide⟩
theorem d_X7_child_8 : zDc M_X7_child 8 (.iconst (-1)) 1 9 := ⟨by decide +kernel, rfl⟩
theorem d_X7_child_9 : zDc M_X7_child 9 (.ireturn) 1 10 := ⟨by decide +kernel, rfl⟩
theorem d_X7_child_10 : zDc M_X7_child 10 (.iload_n 2) 1 11 := ⟨by decide +kernel, rfl⟩
theorem d_X7_child_11 : decode M_X7_child.2.1 11 = .ok (.tableswitch 95 0 5 #[37, 47, 57, 67, 77, 86], 37) := by decide +kernel
theorem d_X7_child_48 : zDc M_X7_child 48 (.aload_n 0) 1 49 := ⟨by decide +kernel, rfl⟩
theorem d_X7_child_49 : zDc M_X7_child 49 (.getfield 38) 3 52 := ⟨by decide +kernel, rfl⟩
theorem d_X7_child_52 : zDc M_X7_child 52 (.getfield 149) 3 55 := ⟨by decide +kernel, rfl⟩
theorem d_X7_child_55 : zDc M_X7_child 55 (.iload_n 1) 1 56 := ⟨by decide +kernel, rfl⟩
theorem d_X7_child_56 : zDc M_X7_child 56 (.iaload) 1 57 := ⟨by decide +kernel, rfl⟩
theorem d_X7_child_57 : zDc M_X7_child 57 (.ireturn) 1 58 := ⟨by decide +kernel, rfl⟩
theorem d_X7_child_58 : zDc M_X7_child 58 (.aload_n 0) 1 59 := ⟨by decide +kernel, rfl⟩
theorem d_X7_child_59 : zDc M_X7_child 59 (.getfield 38) 3 62 := ⟨by decide +kernel, rfl⟩
theorem d_X7_child_62 : zDc M_X7_child 62 (.getfield 152) 3 65 := ⟨by decide +kernel, rfl⟩
theorem d_X7_child_65 : zDc M_X7_child 65 (.iload_n 1) 1 66 := ⟨by decide +kernel, rfl⟩
theorem d_X7_child_66 : zDc M_X7_child 66 (.iaload) 1 67 := ⟨by decide +kernel, rfl⟩
theorem d_X7_child_67 : zDc M_X7_child 67 (.ireturn) 1 68 := ⟨by decide +kernel, rfl⟩
theorem d_X7_child_68 : zDc M_X7_child 68 (.aload_n 0) 1 69 := ⟨by decide +kernel, rfl⟩
theorem d_X7_child_69 : zDc M_X7_child 69 (.getfield 29) 3 72 := ⟨by decide +kernel, rfl⟩
theorem d_X7_child_72 : zDc M_X7_child 72 (.getfield 155) 3 75 := ⟨by decide +kernel, rfl⟩
theorem d_X7_child_75 : zDc M_X7_child 75 (.iload_n 1) 1 76 := ⟨by decide +kernel, rfl⟩
theorem d_X7_child_76 : zDc M_X7_child 76 (.iaload) 1 77 := ⟨by decide +kernel, rfl⟩
theorem d_X7_child_77 : zDc M_X7_child 77 (.ireturn) 1 78 := ⟨by decide +kernel, rfl⟩
theorem d_X7_child_78 : zDc M_X7_child 78 (.aload_n 0) 1 79 := ⟨by decide +kernel, rfl⟩
theorem d_X7_child_79 : zDc M_X7_child 79 (.getfield 38) 3 82 := ⟨by decide +kernel, rfl⟩
theorem d_X7_child_82 : zDc M_X7_child 82 (.getfield 158) 3 85 := ⟨by decide +kernel, rfl⟩
theorem d_X7_child_85 : zDc M_X7_child 85 (.iload_n 1) 1 86 := ⟨by decide +kernel, rfl⟩
theorem d_X7_child_86 : zDc M_X7_child 86 (.iaload) 1 87 := ⟨by decide +kernel, rfl⟩
theorem d_X7_child_87 : zDc M_X7_child 87 (.ireturn) 1 88 := ⟨by decide +kernel, rfl⟩
theorem d_X7_child_88 : zDc M_X7_child 88 (.aload_n 0) 1 89 := ⟨by decide +kernel, rfl⟩
theorem d_X7_child_89 : zDc M_X7_child 89 (.getfield 38) 3 92 := ⟨by decide +kernel, rfl⟩
theorem d_X7_child_92 : zDc M_X7_child 92 (.iload_n 1) 1 93 := ⟨by decide +kernel, rfl⟩
theorem d_X7_child_93 : zDc M_X7_child 93 (.invokevirtual 161) 3 96 := ⟨by decide +kernel, rfl⟩
theorem d_X7_child_96 : zDc M_X7_child 96 (.ireturn) 1 97 := ⟨by decide +kernel, rfl⟩
theorem d_X7_child_97 : zDc M_X7_child 97 (.aload_n 0) 1 98 := ⟨by decide +kernel, rfl⟩
theorem d_X7_child_98 : zDc M_X7_child 98 (.getfield 38) 3 101 := ⟨by decide +kernel, rfl⟩
theorem d_X7_child_101 : zDc M_X7_child 101 (.iload_n 1) 1 102 := ⟨by decide +kernel, rfl⟩
theorem d_X7_child_102 : zDc M_X7_child 102 (.invokevirtual 165) 3 105 := ⟨by decide +kernel, rfl⟩
theorem d_X7_child_105 : zDc M_X7_child 105 (.ireturn) 1 106 := ⟨by decide +kernel, rfl⟩
theorem d_X7_child_106 : zDc M_X7_child 106 (.iconst (-1)) 1 107 := ⟨by decide +kernel, rfl⟩
theorem d_X7_child_107 : zDc M_X7_child 107 (.ireturn) 1 108 := ⟨by decide +kernel, rfl⟩
def f_X7_child (a0 : Nat) (a1 : Int32) (a2 : Int32) (h0 : zHp) : Option (Int32 × zHp) :=
  zbd (zcv 7 a0 h0 (f_X7_isChild a0 a1 h0)) (fun v2 h1 =>
  if v2 = 0 then
  some ((-1), h1)
  else
  if a2 = 0 then
  zob (zgR h1 a0 7 4) (fun v3 =>
  zob (zgR h1 v3 5 6) (fun v4 =>
  zob (zaI 0 h1 v4 a1) (fun v5 =>
  some (v5, h1))))
  else if a2 = 1 then
  zob (zgR h1 a0 7 4) (fun v6 =>
  zob (zgR h1 v6 5 7) (fun v7 =>
  zob (zaI 0 h1 v7 a1) (fun v8 =>
  some (v8, h1))))
  else if a2 = 2 then
  zob (zgR h1 a0 7 3) (fun v9 =>
  zob (zgR h1 v9 6 10) (fun v10 =>
  zob (zaI 0 h1 v10 a1) (fun v11 =>
  some (v11, h1))))
  else if a2 = 3 then
  zob (zgR h1 a0 7 4) (fun v12 =>
  zob (zgR h1 v12 5 8) (fun v13 =>
  zob (zaI 0 h1 v13 a1) (fun v14 =>
  some (v14, h1))))
  else if a2 = 4 then
  zob (zgR h1 a0 7 4) (fun v15 =>
  zbd (zcv 5 v15 h1 (f_X5_ownInSky v15 a1 h1)) (fun v17 h16 =>
  some (v17, h16)))
  else if a2 = 5 then
  zob (zgR h1 a0 7 4) (fun v18 =>
  zbd (zcv 5 v18 h1 (f_X5_rainOfOwn v18 a1 h1)) (fun v20 h19 =>
  some (v20, h19)))
  else 
  some ((-1), h1))
set_option maxRecDepth 100000 in
set_option maxHeartbeats 4000000 in
theorem t_X7_child (a0 : Nat) (a1 : Int32) (a2 : Int32) (h0 : zHp) : ∀ (r : Int32) (h' : zHp), f_X7_child a0 a1 a2 h0 = some (r, h') → zCt yX7_child (.code yX7_child cX7_child 3 (some .int)) 3 104 0 0 [.ref a0, .int a1, .int a2] h0 (some (.int r)) h' := by
  refine zct_of M_X7_child yX7_child (by decide) rfl rfl [.ref a0, .int a1, .int a2] h0 (Nat.le_of_ble_eq_true rfl) (fun r => some (.int r)) (fun X => ?_)
  show zG X M_X7_child (0, 0) 0 [(0, .ref a0), (1, .int a1), (2, .int a2)] [] h0 (f_X7_child a0 a1 a2 h0) (fun (r : Int32) h' => zKe X (some (.int r)) h')
  unfold f_X7_child
  refine zg_aload_n 0 rfl d_X7_child_0 ?_
  refine zg_iload_n 1 rfl d_X7_child_1 ?_
  refine zg_cVi (b := a0) (As := [.int a1]) (rest := []) (0, 0) d_X7_child_2 zc_7 rfl cw_X7_146 wi_X7_isChild ws_X7_isChild rfl rfl (Nat.le_of_ble_eq_true rfl) (by decide) (by decide) ⟨by decide, by decide⟩ rfl (t_X7_isChild a0 a1 h0) (fun v2 h1 => ?_)
  refine zg_if_ne d_X7_child_5 ?_ ?_
  · refine zg_iconst (-1) rfl d_X7_child_8 ?_
    exact zg_iretK d_X7_child_9 rfl ⟨Nat.le_of_ble_eq_true rfl, Nat.le_of_ble_eq_true rfl⟩ (fun q => q)
  · refine zg_iload_n 2 rfl d_X7_child_10 ?_
    refine zg_if (fun n21 => ?_) (fun n21 => ?_)
    · refine zg_tabE n21 d_X7_child_11 (by decide) (by decide) (off := 37) rfl (tgt := 48) (by decide) ?_
      refine zg_aload_n 0 rfl d_X7_child_48 ?_
      refine zg_getR d_X7_child_49 zc_7 (by decide) fl_X7_38 (fun v3 => ?_)
      refine zg_getR d_X7_child_52 zc_5 (by decide) fl_X7_149 (fun v4 => ?_)
      refine zg_iload_n 1 rfl d_X7_child_55 ?_
      refine zg_ald0 d_X7_child_56 (fun v5 => ?_)
      exact zg_iretK d_X7_child_57 rfl ⟨Nat.le_of_ble_eq_true rfl, Nat.le_of_ble_eq_true rfl⟩ (fun q => q)
    refine zg_if (fun n22 => ?_) (fun n22 => ?_)
    · refine zg_tabE n22 d_X7_child_11 (by decide) (by decide) (off := 47) rfl (tgt := 58) (by decide) ?_
      refine zg_aload_n 0 rfl d_X7_child_58 ?_
      refine zg_getR d_X7_child_59 zc_7 (by decide) fl_X7_38 (fun v6 => ?_)
      refine zg_getR d_X7_child_62 zc_5 (by decide) fl_X7_152 (fun v7 => ?_)
      refine zg_iload_n 1 rfl d_X7_child_65 ?_
      refine zg_ald0 d_X7_child_66 (fun v8 => ?_)
      exact zg_iretK d_X7_child_67 rfl ⟨Nat.le_of_ble_eq_true rfl, Nat.le_of_ble_eq_true rfl⟩ (fun q => q)
    refine zg_if (fun n23 => ?_) (fun n23 => ?_)
    · refine zg_tabE n23 d_X7_child_11 (by decide) (by decide) (off := 57) rfl (tgt := 68) (by decide) ?_
      refine zg_aload_n 0 rfl d_X7_child_68 ?_
      refine zg_getR d_X7_child_69 zc_7 (by decide) fl_X7_29 (fun v9 => ?_)
      refine zg_getR d_X7_child_72 zc_6 (by decide) fl_X7_155 (fun v10 => ?_)
      refine zg_iload_n 1 rfl d_X7_child_75 ?_
      refine zg_ald0 d_X7_child_76 (fun v11 => ?_)
      exact zg_iretK d_X7_child_77 rfl ⟨Nat.le_of_ble_eq_true rfl, Nat.le_of_ble_eq_true rfl⟩ (fun q => q)
    refine zg_if (fun n24 => ?_) (fun n24 => ?_)
    · refine zg_tabE n24 d_X7_child_11 (by decide) (by decide) (off := 67) rfl (tgt := 78) (by decide) ?_
      refine zg_aload_n 0 rfl d_X7_child_78 ?_
      refine zg_getR d_X7_child_79 zc_7 (by decide) fl_X7_38 (fun v12 => ?_)
      refine zg_getR d_X7_child_82 zc_5 (by decide) fl_X7_158 (fun v13 => ?_)
      refine zg_iload_n 1 rfl d_X7_child_85 ?_
      refine zg_ald0 d_X7_child_86 (fun v14 => ?_)
      exact zg_iretK d_X7_child_87 rfl ⟨Nat.le_of_ble_eq_true rfl, Nat.le_of_ble_eq_true rfl⟩ (fun q => q)
    refine zg_if (fun n25 => ?_) (fun n25 => ?_)
    · refine zg_tabE n25 d_X7_child_11 (by decide) (by decide) (off := 77) rfl (tgt := 88) (by decide) ?_
      refine zg_aload_n 0 rfl d_X7_child_88 ?_
      refine zg_getR d_X7_child_89 zc_7 (by decide) fl_X7_38 (fun v15 => ?_)
      refine zg_iload_n 1 rfl d_X7_child_92 ?_
      refine zg_cVi (b := v15) (As := [.int a1]) (rest := []) (0, 0) d_X7_child_93 zc_5 rfl cw_X7_161 wi_X5_ownInSky ws_X5_ownInSky rfl rfl (Nat.le_of_ble_eq_true rfl) (by decide) (by decide) ⟨by decide, by decide⟩ rfl (t_X5_ownInSky v15 a1 h1) (fun v17 h16 => ?_)
      exact zg_iretK d_X7_child_96 rfl ⟨Nat.le_of_ble_eq_true rfl, Nat.le_of_ble_eq_true rfl⟩ (fun q => q)
    refine zg_if (fun n26 => ?_) (fun n26 => ?_)
    · refine zg_tabE n26 d_X7_child_11 (by decide) (by decide) (off := 86) rfl (tgt := 97) (by decide) ?_
      refine zg_aload_n 0 rfl d_X7_child_97 ?_
      refine zg_getR d_X7_child_98 zc_7 (by decide) fl_X7_38 (fun v18 => ?_)
      refine zg_iload_n 1 rfl d_X7_child_101 ?_
      refine zg_cVi (b := v18) (As := [.int a1]) (rest := []) (0, 0) d_X7_child_102 zc_5 rfl cw_X7_165 wi_X5_rainOfOwn ws_X5_rainOfOwn rfl rfl (Nat.le_of_ble_eq_true rfl) (by decide) (by decide) ⟨by decide, by decide⟩ rfl (t_X5_rainOfOwn v18 a1 h1) (fun v20 h19 => ?_)
      exact zg_iretK d_X7_child_105 rfl ⟨Nat.le_of_ble_eq_true rfl, Nat.le_of_ble_eq_true rfl⟩ (fun q => q)
    refine zg_tabO d_X7_child_11 (by have q0 := lv_neT n21 (a := 0) rfl; have q1 := lv_neT n22 (a := 1) rfl; have q2 := lv_neT n23 (a := 2) rfl; have q3 := lv_neT n24 (a := 3) rfl; have q4 := lv_neT n25 (a := 4) rfl; have q5 := lv_neT n26 (a := 5) rfl; omega) (tgt := 106) (by decide) ?_
    refine zg_iconst (-1) rfl d_X7_child_106 ?_
    exact zg_iretK d_X7_child_107 rfl ⟨Nat.le_of_ble_eq_true rfl, Nat.le_of_ble_eq_true rfl⟩ (fun q => q)
abbrev M_X7_isCloud : zMt := (RX7, cX7_isCloud, 2, 1, 60, (some .boolean), "isCloud", 0, 0)
theorem d_X7_isCloud_0 : zDc M_X7_isCloud 0 (.iload_n 1) 1 1 := ⟨by decide +kernel, rfl⟩
theorem d_X7_isCloud_1 : zDj M_X7_isCloud 1 (.ifCond .lt 18) 18 4 19 := ⟨by decide +kernel, rfl, by decide⟩
theorem d_X7_isCloud_4 : zDc M_X7_isCloud 4 (.iload_n 1) 1 5 := ⟨by decide +kernel, rfl⟩
theorem d_X7_isCloud_5 : zDc M_X7_isCloud 5 (.aload_n 0) 1 6 := ⟨by decide +kernel, rfl⟩
theorem d_X7_isCloud_6 : zDc M_X7_isCloud 6 (.getfield 29) 3 9 := ⟨by decide +kernel, rfl⟩
theorem d_X7_isCloud_9 : zDc M_X7_isCloud 9 (.getfield 109) 3 12 := ⟨by decide +kernel, rfl⟩
theorem d_X7_isCloud_12 : zDj M_X7_isCloud 12 (.if_icmp .ge 7) 7 15 19 := ⟨by decide +kernel, rfl, by decide⟩
theorem d_X7_isCloud_15 : zDc M_X7_isCloud 15 (.iconst 1) 1 16 := ⟨by decide +kernel, rfl⟩
theorem d_X7_isCloud_16 : zDj M_X7_isCloud 16 (.goto 4) 4 19 20 := ⟨by decide +kernel, rfl, by decide⟩
theorem d_X7_isCloud_19 : zDc M_X7_isCloud 19 (.iconst 0) 1 20 := ⟨by decide +kernel, rfl⟩
theorem d_X7_isCloud_20 : zDc M_X7_isCloud 20 (.ireturn) 1 21 := ⟨by decide +kernel, rfl⟩
def f_X7_isCloud (a0 : Nat) (a1 : Int32) (h0 : zHp) : Option (Int32 × zHp) :=
  if a1 < 0 then
  some (0, h0)
  else
  zob (zgR h0 a0 7 3) (fun v1 =>
  zob (zgI h0 v1 6 14) (fun v2 =>
  if v2 ≤ a1 then
  some (0, h0)
  else
  some (1, h0)))
set_option maxRecDepth 100000 in
set_option maxHeartbeats 4000000 in
theorem t_X7_isCloud (a0 : Nat) (a1 : Int32) (h0 : zHp) : ∀ (r : Int32) (h' : zHp), f_X7_isCloud a0 a1 h0 = some (r, h') → zCt yX7_isCloud (.code yX7_isCloud cX7_isCloud 2 (some .boolean)) 1 60 0 0 [.ref a0, .int a1] h0 (some (.int r)) h' := by
  refine zct_of M_X7_isCloud yX7_isCloud (by decide) rfl rfl [.ref a0, .int a1] h0 (Nat.le_of_ble_eq_true rfl) (fun r => some (.int r)) (fun X => ?_)
  show zG X M_X7_isCloud (0, 0) 0 [(0, .ref a0), (1, .int a1)] [] h0 (f_X7_isCloud a0 a1 h0) (fun (r : Int32) h' => zKe X (some (.int r)) h')
  unfold f_X7_isCloud
  refine zg_iload_n 1 rfl d_X7_isCloud_0 ?_
  refine zg_if_lt d_X7_isCloud_1 ?_ ?_
  · refine zg_iconst 0 rfl d_X7_isCloud_19 ?_
    exact zg_zretK d_X7_isCloud_20 rfl ⟨Nat.le_of_ble_eq_true rfl, Nat.le_of_ble_eq_true rfl⟩ (Or.inl rfl) (fun q => q)
  · refine zg_iload_n 1 rfl d_X7_isCloud_4 ?_
    refine zg_aload_n 0 rfl d_X7_isCloud_5 ?_
    refine zg_getR d_X7_isCloud_6 zc_7 (by decide) fl_X7_29 (fun v1 => ?_)
    refine zg_getI d_X7_isCloud_9 zc_6 (by decide) fl_X7_109 (fun v2 => ?_)
    refine zg_icmp_ge d_X7_isCloud_12 ?_ ?_
    · refine zg_iconst 0 rfl d_X7_isCloud_19 ?_
      exact zg_zretK d_X7_isCloud_20 rfl ⟨Nat.le_of_ble_eq_true rfl, Nat.le_of_ble_eq_true rfl⟩ (Or.inl rfl) (fun q => q)
    · refine zg_iconst 1 rfl d_X7_isCloud_15 ?_
      refine zg_goto d_X7_isCloud_16 ?_
      exact zg_zretK d_X7_isCloud_20 rfl ⟨Nat.le_of_ble_eq_true rfl, Nat.le_of_ble_eq_true rfl⟩ (Or.inr rfl) (fun q => q)
abbrev M_X7_could : zMt := (RX7, cX7_could, 5, 4, 127, (some .int), "could", 0, 0)
theorem d_X7_could_0 : zDc M_X7_could 0 (.bipush 8) 2 2 := ⟨by decide +kernel, rfl⟩
theorem d_X7_could_2 : zDc M_X7_could 2 (.istore_n 1) 1 3 := ⟨by decide +kernel, rfl⟩
theorem d_X7_could_3 : zDc M_X7_could 3 (.iconst 0) 1 4 := ⟨by decide +kernel, rfl⟩
theorem d_X7_could_4 : zDc M_X7_could 4 (.istore_n 2) 1 5 := ⟨by decide +kernel, rfl⟩
theorem d_X7_could_5 : zDc M_X7_could 5 (.iload_n 2) 1 6 := ⟨by decide +kernel, rfl⟩
theorem d_X7_could_6 : zDc M_X7_could 6 (.iconst 1) 1 7 := ⟨by decide +kernel, rfl⟩
theorem d_X7_could_7 : zDc M_X7_could 7 (.aload_n 0) 1 8 := ⟨by decide +kernel, rfl⟩
theorem d_X7_could_8 : zDc M_X7_could 8 (.getfield 29) 3 11 := ⟨by decide +kernel, rfl⟩
theorem d_X7_could_11 : zDc M_X7_could 11 (.getfield 115) 3 14 := ⟨by decide +kernel, rfl⟩
theorem d_X7_could_14 : zDc M_X7_could 14 (.ishl) 1 15 := ⟨by decide +kernel, rfl⟩
theorem d_X7_could_15 : zDj M_X7_could 15 (.if_icmp .ge 75) 75 18 90 := ⟨by decide +kernel, rfl, by decide⟩
theorem d_X7_could_18 : zDc M_X7_could 18 (.iconst 0) 1 19 := ⟨by decide +kernel, rfl⟩
theorem d_X7_could_19 : zDc M_X7_could 19 (.istore_n 3) 1 20 := ⟨by decide +kernel, rfl⟩
theorem d_X7_could_20 : zDc M_X7_could 20 (.iconst 0) 1 21 := ⟨by decide +kernel, rfl⟩
theorem d_X7_could_21 : zDc M_X7_could 21 (.istore 4) 2 23 := ⟨by decide +kernel, rfl⟩
theorem d_X7_could_23 : zDc M_X7_could 23 (.iload 4) 2 25 := ⟨by decide +kernel, rfl⟩
theorem d_X7_could_25 : zDc M_X7_could 25 (.aload_n 0) 1 26 := ⟨by decide +kernel, rfl⟩
theorem d_X7_could_26 : zDc M_X7_could 26 (.getfield 29) 3 29 := ⟨by decide +kernel, rfl⟩
theorem d_X7_could_29 : zDc M_X7_could 29 (.getfield 115) 3 32 := ⟨by decide +kernel, rfl⟩
theorem d_X7_could_32 : zDj M_X7_could 32 (.if_icmp .ge 30) 30 35 62 := ⟨by decide +kernel, rfl, by decide⟩
theorem d_X7_could_35 : zDc M_X7_could 35 (.iload_n 2) 1 36 := ⟨by decide +kernel, rfl⟩
theorem d_X7_could_36 : zDc M_X7_could 36 (.iload 4) 2 38 := ⟨by decide +kernel, rfl⟩
theorem d_X7_could_38 : zDc M_X7_could 38 (.ishr) 1 39 := ⟨by decide +kernel, rfl⟩
theorem d_X7_could_39 : zDc M_X7_could 39 (.iconst 1) 1 40 := ⟨by decide +kernel, rfl⟩
theorem d_X7_could_40 : zDc M_X7_could 40 (.iand) 1 41 := ⟨by decide +kernel, rfl⟩
theorem d_X7_could_41 : zDj M_X7_could 41 (.ifCond .ne 15) 15 44 56 := ⟨by decide +kernel, rfl, by decide⟩
theorem d_X7_could_44 : zDc M_X7_could 44 (.iload_n 3) 1 45 := ⟨by decide +kernel, rfl⟩
theorem d_X7_could_45 : zDc M_X7_could 45 (.aload_n 0) 1 46 := ⟨by decide +kernel, rfl⟩
theorem d_X7_could_46 : zDc M_X7_could 46 (.getfield 38) 3 49 := ⟨by decide +kernel, rfl⟩
theorem d_X7_could_49 : zDc M_X7_could 49 (.iload 4) 2 51 := ⟨by decide +kernel, rfl⟩
theorem d_X7_could_51 : zDc M_X7_could 51 (.invokevirtual 188) 3 54 := ⟨by decide +kernel, rfl⟩
theorem d_X7_could_54 : zDc M_X7_could 54 (.ior) 1 55 := ⟨by decide +kernel, rfl⟩
theorem d_X7_could_55 : zDc M_X7_could 55 (.istore_n 3) 1 56 := ⟨by decide +kernel, rfl⟩
theorem d_X7_could_56 : zDc M_X7_could 56 (.iinc 4 1) 3 59 := ⟨by decide +kernel, rfl⟩
theorem d_X7_could_59 : zDj M_X7_could 59 (.goto (-36)) (-36) 62 23 := ⟨by decide +kernel, rfl, by decide⟩
theorem d_X7_could_62 : zDc M_X7_could 62 (.iload_n 1) 1 63 := ⟨by decide +kernel, rfl⟩
theorem d_X7_could_63 : zDc M_X7_could 63 (.aload_n 0) 1 64 := ⟨by decide +kernel, rfl⟩
theorem d_X7_could_64 : zDc M_X7_could 64 (.getfield 29) 3 67 := ⟨by decide +kernel, rfl⟩
theorem d_X7_could_67 : zDc M_X7_could 67 (.getfield 241) 3 70 := ⟨by decide +kernel, rfl⟩
theorem d_X7_could_70 : zDc M_X7_could 70 (.iload_n 2) 1 71 := ⟨by decide +kernel, rfl⟩
theorem d_X7_could_71 : zDc M_X7_could 71 (.invokestatic 244) 3 74 := ⟨by decide +kernel, rfl⟩
theorem d_X7_could_74 : zDc M_X7_could 74 (.imul) 1 75 := ⟨by decide +kernel, rfl⟩
theorem d_X7_could_75 : zDc M_X7_could 75 (.iload_n 3) 1 76 := ⟨by decide +kernel, rfl⟩
theorem d_X7_could_76 : zDc M_X7_could 76 (.invokestatic 244) 3 79 := ⟨by decide +kernel, rfl⟩
theorem d_X7_could_79 : zDc M_X7_could 79 (.iadd) 1 80 := ⟨by decide +kernel, rfl⟩
theorem d_X7_could_80 : zDc M_X7_could 80 (.invokestatic 249) 3 83 := ⟨by decide +kernel, rfl⟩
theorem d_X7_could_83 : zDc M_X7_could 83 (.istore_n 1) 1 84 := ⟨by decide +kernel, rfl⟩
theorem d_X7_could_84 : zDc M_X7_could 84 (.iinc 2 1) 3 87 := ⟨by decide +kernel, rfl⟩
theorem d_X7_could_87 : zDj M_X7_could 87 (.goto (-82)) (-82) 90 5 := ⟨by decide +kernel, rfl, by decide⟩
theorem d_X7_could_90 : zDc M_X7_could 90 (.iload_n 1) 1 91 := ⟨by decide +kernel, rfl⟩
theorem d_X7_could_91 : zDc M_X7_could 91 (.ireturn) 1 92 := ⟨by decide +kernel, rfl⟩
def f_X7_could (a0 : Nat) (h0 : zHp) : Option (Int32 × zHp) :=
  zbd (
  zlp (σ := (Int32 × Int32)) (β := (Int32 × Int32)) zLF (fun s1 h2 =>
  zob (zgR h2 a0 7 3) (fun v5 =>
  zob (zgI h2 v5 6 15) (fun v6 =>
  if (1 <<< (v6 &&& 31)) ≤ s1.2 then
  some ((.inr (s1.1, s1.2)), h2)
  else
  zbd (
  zlp (σ := (Int32 × Int32)) (β := (Int32 × Int32)) zLF (fun s7 h8 =>
  zob (zgR h8 a0 7 3) (fun v11 =>
  zob (zgI h8 v11 6 15) (fun v12 =>
  if v12 ≤ s7.2 then
  some ((.inr (s7.1, s7.2)), h8)
  else
  if ((s1.2 >>> (s7.2 &&& 31)) &&& 1) = 0 then
  zob (zgR h8 a0 7 4) (fun v13 =>
  zbd (zcv 5 v13 h8 (f_X5_seenBy v13 s7.2 h8)) (fun v15 h14 =>
  some ((.inl ((s7.1 ||| v15), (s7.2 + 1))), h14)))
  else
  some ((.inl (s7.1, (s7.2 + 1))), h8)))) (0, 0) h2) (fun e9 h10 =>
  zob (zgR h10 a0 7 3) (fun v16 =>
  zob (zgI h10 v16 6 18) (fun v17 =>
  zbd ((f_J6_bitCount_0f7a4 s1.2 h10)) (fun v19 h18 =>
  zbd ((f_J6_bitCount_0f7a4 e9.1 h18)) (fun v21 h20 =>
  some ((.inl ((zmn s1.1 ((v17 * v19) + v21)), (s1.2 + 1))), h20))))))))) (8, 0) h0) (fun e3 h4 =>
  some (e3.1, h4))
set_option maxRecDepth 100000 in
set_option maxHeartbeats 4000000 in
theorem t_X7_could (a0 : Nat) (h0 : zHp) : ∀ (r : Int32) (h' : zHp), f_X7_could a0 h0 = some (r, h') → zCt yX7_could (.code yX7_could cX7_could 5 (some .int)) 4 127 0 0 [.ref a0] h0 (some (.int r)) h' := by
  refine zct_of M_X7_could yX7_could (by decide) rfl rfl [.ref a0] h0 (Nat.le_of_ble_eq_true rfl) (fun r => some (.int r)) (fun X => ?_)
  show zG X M_X7_could (0, 0) 0 [(0, .ref a0)] [] h0 (f_X7_could a0 h0) (fun (r : Int32) h' => zKe X (some (.int r)) h')
  unfold f_X7_could
  refine zg_bipush 8 rfl d_X7_could_0 ?_
  refine zg_istore_n [(1, .int 8), (0, .ref a0)] d_X7_could_2 rfl (by decide) rfl ?_
  refine zg_iconst 0 rfl d_X7_could_3 ?_
  refine zg_istore_n [(2, .int 0), (1, .int 8), (0, .ref a0)] d_X7_could_4 rfl (by decide) rfl ?_
  refine zg_bd (E := 90) (el := (fun (e3 : (Int32 × Int32)) => [(0, .ref a0), (1, .int e3.1), (2, .int e3.2)])) (es := fun _ => []) (zg_sub [2, 1, 0] rfl (zg_lp (el := (fun (s1 : (Int32 × Int32)) => [(0, .ref a0), (1, .int s1.1), (2, .int s1.2)])) (fun s1 h2 => ?_) (8, 0) h0)) (fun e3 h4 => ?_)
  · refine zg_iload_n 2 rfl d_X7_could_5 ?_
    refine zg_iconst 1 rfl d_X7_could_6 ?_
    refine zg_aload_n 0 rfl d_X7_could_7 ?_
    refine zg_getR d_X7_could_8 zc_7 (by decide) fl_X7_29 (fun v5 => ?_)
    refine zg_getI d_X7_could_11 zc_6 (by decide) fl_X7_115 (fun v6 => ?_)
    refine zg_ishl d_X7_could_14 ?_
    refine zg_icmp_ge d_X7_could_15 ?_ ?_
    · exact zg_finK (E := 0) [0, 1, 2] rfl rfl (fun q => q)
    · refine zg_iconst 0 rfl d_X7_could_18 ?_
      refine zg_istore_n [(3, .int 0), (0, .ref a0), (1, .int s1.1), (2, .int s1.2)] d_X7_could_19 rfl (by decide) rfl ?_
      refine zg_iconst 0 rfl d_X7_could_20 ?_
      refine zg_istore [(4, .int 0), (3, .int 0), (0, .ref a0), (1, .int s1.1), (2, .int s1.2)] d_X7_could_21 (by decide) rfl ?_
      refine zg_bd (E := 62) (el := (fun (e9 : (Int32 × Int32)) => [(0, .ref a0), (1, .int s1.1), (2, .int s1.2), (3, .int e9.1), (4, .int e9.2)])) (es := fun _ => []) (zg_sub [2, 3, 4, 1, 0] rfl (zg_lp (el := (fun (s7 : (Int32 × Int32)) => [(0, .ref a0), (1, .int s1.1), (2, .int s1.2), (3, .int s7.1), (4, .int s7.2)])) (fun s7 h8 => ?_) (0, 0) h2)) (fun e9 h10 => ?_)
      · refine zg_iload 4 rfl d_X7_could_23 ?_
        refine zg_aload_n 0 rfl d_X7_could_25 ?_
        refine zg_getR d_X7_could_26 zc_7 (by decide) fl_X7_29 (fun v11 => ?_)
        refine zg_getI d_X7_could_29 zc_6 (by decide) fl_X7_115 (fun v12 => ?_)
        refine zg_icmp_ge d_X7_could_32 ?_ ?_
        · exact zg_finK (E := 0) [0, 1, 2, 3, 4] rfl rfl (fun q => q)
        · refine zg_iload_n 2 rfl d_X7_could_35 ?_
          refine zg_iload 4 rfl d_X7_could_36 ?_
          refine zg_ishr d_X7_could_38 ?_
          refine zg_iconst 1 rfl d_X7_could_39 ?_
          refine zg_iand d_X7_could_40 ?_
          refine zg_if_ne d_X7_could_41 ?_ ?_
          · refine zg_iload_n 3 rfl d_X7_could_44 ?_
            refine zg_aload_n 0 rfl d_X7_could_45 ?_
            refine zg_getR d_X7_could_46 zc_7 (by decide) fl_X7_38 (fun v13 => ?_)
            refine zg_iload 4 rfl d_X7_could_49 ?_
            refine zg_cVi (b := v13) (As := [.int s7.2]) (rest := [.int s7.1]) (0, 0) d_X7_could_51 zc_5 rfl cw_X7_188 wi_X5_seenBy ws_X5_seenBy rfl rfl (Nat.le_of_ble_eq_true rfl) (by decide) (by decide) ⟨by decide, by decide⟩ rfl (t_X5_seenBy v13 s7.2 h8) (fun v15 h14 => ?_)
            refine zg_ior d_X7_could_54 ?_
            refine zg_istore_n [(3, .int (s7.1 ||| v15)), (0, .ref a0), (1, .int s1.1), (2, .int s1.2), (4, .int s7.2)] d_X7_could_55 rfl (by decide) rfl ?_
            refine zg_iinc 4 (s7.2 + 1) [(4, .int (s7.2 + 1)), (3, .int (s7.1 ||| v15)), (0, .ref a0), (1, .int s1.1), (2, .int s1.2)] d_X7_could_56 rfl rfl (by decide) rfl ?_
            refine zg_goto d_X7_could_59 ?_
            exact zg_finK (E := 0) [2, 3, 4, 1, 0] rfl rfl (fun q => q)
          · refine zg_iinc 4 (s7.2 + 1) [(4, .int (s7.2 + 1)), (0, .ref a0), (1, .int s1.1), (2, .int s1.2), (3, .int s7.1)] d_X7_could_56 rfl rfl (by decide) rfl ?_
            refine zg_goto d_X7_could_59 ?_
            exact zg_finK (E := 0) [1, 2, 3, 4, 0] rfl rfl (fun q => q)
      · refine zg_iload_n 1 rfl d_X7_could_62 ?_
        refine zg_aload_n 0 rfl d_X7_could_63 ?_
        refine zg_getR d_X7_could_64 zc_7 (by decide) fl_X7_29 (fun v16 => ?_)
        refine zg_getI d_X7_could_67 zc_6 (by decide) fl_X7_241 (fun v17 => ?_)
        refine zg_iload_n 2 rfl d_X7_could_70 ?_
        refine zg_cSi (As := [.int s1.2]) (rest := [.int v17, .int s1.1]) (0, 0) d_X7_could_71 cw_X7_244 wt_J6_bitCount_0f7a4 rfl rfl (Nat.le_of_ble_eq_true rfl) (by decide) (by decide) ⟨by decide, by decide⟩ rfl (t_J6_bitCount_0f7a4 s1.2 h10) (fun v19 h18 => ?_)
        refine zg_imul d_X7_could_74 ?_
        refine zg_iload_n 3 rfl d_X7_could_75 ?_
        refine zg_cSi (As := [.int e9.1]) (rest := [.int (v17 * v19), .int s1.1]) (0, 0) d_X7_could_76 cw_X7_244 wt_J6_bitCount_0f7a4 rfl rfl (Nat.le_of_ble_eq_true rfl) (by decide) (by decide) ⟨by decide, by decide⟩ rfl (t_J6_bitCount_0f7a4 e9.1 h18) (fun v21 h20 => ?_)
        refine zg_iadd d_X7_could_79 ?_
        refine zg_mmin d_X7_could_80 ml_X7_249 (by decide) (Nat.le_of_ble_eq_true rfl) ⟨Nat.le_of_ble_eq_true rfl, Nat.le_of_ble_eq_true rfl⟩ ?_
        refine zg_istore_n [(1, .int (zmn s1.1 ((v17 * v19) + v21))), (0, .ref a0), (2, .int s1.2), (3, .int e9.1), (4, .int e9.2)] d_X7_could_83 rfl (by decide) rfl ?_
        refine zg_iinc 2 (s1.2 + 1) [(2, .int (s1.2 + 1)), (1, .int (zmn s1.1 ((v17 * v19) + v21))), (0, .ref a0), (3, .int e9.1), (4, .int e9.2)] d_X7_could_84 rfl rfl (by decide) rfl ?_
        refine zg_goto d_X7_could_87 ?_
        exact zg_finK (E := 0) [2, 1, 0] rfl rfl (fun q => q)
  · refine zg_iload_n 1 rfl d_X7_could_90 ?_
    exact zg_iretK d_X7_could_91 rfl ⟨Nat.le_of_ble_eq_true rfl, Nat.le_of_ble_eq_true rfl⟩ (fun q => q)
abbrev M_X7_count : zMt := (RX7, cX7_count, 2, 2, 83, (some .int), "count", 0, 0)
theorem d_X7_count_0 : zDc M_X7_count 0 (.iload_n 1) 1 1 := ⟨by decide +kernel, rfl⟩
theorem d_X7_count_1 : decode M_X7_count.2.1 1 = .ok (.tableswitch 201 0 14 #[75, 83, 91, 99, 107, 118, 126, 134, 143, 152, 161, 169, 177, 185, 193], 75) := by decide +kernel
theorem d_X7_count_76 : zDc M_X7_count 76 (.aload_n 0) 1 77 := ⟨by decide +kernel, rfl⟩
theorem d_X7_count_77 : zDc M_X7_count 77 (.getfield 29) 3 80 := ⟨by decide +kernel, rfl⟩
theorem d_X7_count_80 : zDc M_X7_count 80 (.getfield 99) 3 83 := ⟨by decide +kernel, rfl⟩
theorem d_X7_count_83 : zDc M_X7_count 83 (.ireturn) 1 84 := ⟨by decide +kernel, rfl⟩
theorem d_X7_count_84 : zDc M_X7_count 84 (.aload_n 0) 1 85 := ⟨by decide +kernel, rfl⟩
theorem d_X7_count_85 : zDc M_X7_count 85 (.getfield 29) 3 88 := ⟨by decide +kernel, rfl⟩
theorem d_X7_count_88 : zDc M_X7_count 88 (.getfield 109) 3 91 := ⟨by decide +kernel, rfl⟩
theorem d_X7_count_91 : zDc M_X7_count 91 (.ireturn) 1 92 := ⟨by decide +kernel, rfl⟩
theorem d_X7_count_92 : zDc M_X7_count 92 (.aload_n 0) 1 93 := ⟨by decide +kernel, rfl⟩
theorem d_X7_count_93 : zDc M_X7_count 93 (.getfield 29) 3 96 := ⟨by decide +kernel, rfl⟩
theorem d_X7_count_96 : zDc M_X7_count 96 (.getfield 115) 3 99 := ⟨by decide +kernel, rfl⟩
theorem d_X7_count_99 : zDc M_X7_count 99 (.ireturn) 1 100 := ⟨by decide +kernel, rfl⟩
theorem d_X7_count_100 : zDc M_X7_count 100 (.aload_n 0) 1 101 := ⟨by decide +kernel, rfl⟩
theorem d_X7_count_101 : zDc M_X7_count 101 (.getfield 29) 3 104 := ⟨by decide +kernel, rfl⟩
theorem d_X7_count_104 : zDc M_X7_count 104 (.getfield 331) 3 107 := ⟨by decide +kernel, rfl⟩
theorem d_X7_count_107 : zDc M_X7_count 107 (.ireturn) 1 108 := ⟨by decide +kernel, rfl⟩
theorem d_X7_count_108 : zDc M_X7_count 108 (.aload_n 0) 1 109 := ⟨by decide +kernel, rfl⟩
theorem d_X7_count_109 : zDc M_X7_count 109 (.getfield 29) 3 112 := ⟨by decide +kernel, rfl⟩
theorem d_X7_count_112 : zDc M_X7_count 112 (.getfield 334) 3 115 := ⟨by decide +kernel, rfl⟩
theorem d_X7_count_115 : zDc M_X7_count 115 (.getfield 338) 3 118 := ⟨by decide +kernel, rfl⟩
theorem d_X7_count_118 : zDc M_X7_count 118 (.ireturn) 1 119 := ⟨by decide +kernel, rfl⟩
theorem d_X7_count_119 : zDc M_X7_count 119 (.aload_n 0) 1 120 := ⟨by decide +kernel, rfl⟩
theorem d_X7_count_120 : zDc M_X7_count 120 (.getfield 38) 3 123 := ⟨by decide +kernel, rfl⟩
theorem d_X7_count_123 : zDc M_X7_count 123 (.getfield 218) 3 126 := ⟨by decide +kernel, rfl⟩
theorem d_X7_count_126 : zDc M_X7_count 126 (.ireturn) 1 127 := ⟨by decide +kernel, rfl⟩
theorem d_X7_count_127 : zDc M_X7_count 127 (.aload_n 0) 1 128 := ⟨by decide +kernel, rfl⟩
theorem d_X7_count_128 : zDc M_X7_count 128 (.getfield 38) 3 131 := ⟨by decide +kernel, rfl⟩
theorem d_X7_count_131 : zDc M_X7_count 131 (.invokevirtual 221) 3 134 := ⟨by decide +kernel, rfl⟩
theorem d_X7_count_134 : zDc M_X7_count 134 (.ireturn) 1 135 := ⟨by decide +kernel, rfl⟩
theorem d_X7_count_135 : zDc M_X7_count 135 (.aload_n 0) 1 136 := ⟨by decide +kernel, rfl⟩
theorem d_X7_count_136 : zDc M_X7_count 136 (.getfield 38) 3 139 := ⟨by decide +kernel, rfl⟩
theorem d_X7_count_139 : zDc M_X7_count 139 (.iconst 1) 1 140 := ⟨by decide +kernel, rfl⟩
theorem d_X7_count_140 : zDc M_X7_count 140 (.invokevirtual 235) 3 143 := ⟨by decide +kernel, rfl⟩
theorem d_X7_count_143 : zDc M_X7_count 143 (.ireturn) 1 144 := ⟨by decide +kernel, rfl⟩
theorem d_X7_count_144 : zDc M_X7_count 144 (.aload_n 0) 1 145 := ⟨by decide +kernel, rfl⟩
theorem d_X7_count_145 : zDc M_X7_count 145 (.getfield 38) 3 148 := ⟨by decide +kernel, rfl⟩
theorem d_X7_count_148 : zDc M_X7_count 148 (.iconst 0) 1 149 := ⟨by decide +kernel, rfl⟩
theorem d_X7_count_149 : zDc M_X7_count 149 (.invokevirtual 235) 3 152 := ⟨by decide +kernel, rfl⟩
theorem d_X7_count_152 : zDc M_X7_count 152 (.ireturn) 1 153 := ⟨by decide +kernel, rfl⟩
theorem d_X7_count_153 : zDc M_X7_count 153 (.aload_n 0) 1 154 := ⟨by decide +kernel, rfl⟩
theorem d_X7_count_154 : zDc M_X7_count 154 (.getfield 38) 3 157 := ⟨by decide +kernel, rfl⟩
theorem d_X7_count_157 : zDc M_X7_count 157 (.iconst 2) 1 158 := ⟨by decide +kernel, rfl⟩
theorem d_X7_count_158 : zDc M_X7_count 158 (.invokevirtual 235) 3 161 := ⟨by decide +kernel, rfl⟩
theorem d_X7_count_161 : zDc M_X7_count 161 (.ireturn) 1 162 := ⟨by decide +kernel, rfl⟩
theorem d_X7_count_162 : zDc M_X7_count 162 (.aload_n 0) 1 163 := ⟨by decide +kernel, rfl⟩
theorem d_X7_count_163 : zDc M_X7_count 163 (.getfield 38) 3 166 := ⟨by decide +kernel, rfl⟩
theorem d_X7_count_166 : zDc M_X7_count 166 (.invokevirtual 232) 3 169 := ⟨by decide +kernel, rfl⟩
theorem d_X7_count_169 : zDc M_X7_count 169 (.ireturn) 1 170 := ⟨by decide +kernel, rfl⟩
theorem d_X7_count_170 : zDc M_X7_count 170 (.aload_n 0) 1 171 := ⟨by decide +kernel, rfl⟩
theorem d_X7_count_171 : zDc M_X7_count 171 (.getfield 38) 3 174 := ⟨by decide +kernel, rfl⟩
theorem d_X7_count_174 : zDc M_X7_count 174 (.invokevirtual 238) 3 177 := ⟨by decide +kernel, rfl⟩
theorem d_X7_count_177 : zDc M_X7_count 177 (.ireturn) 1 178 := ⟨by decide +kernel, rfl⟩
theorem d_X7_count_178 : zDc M_X7_count 178 (.aload_n 0) 1 179 := ⟨by decide +kernel, rfl⟩
theorem d_X7_count_179 : zDc M_X7_count 179 (.getfield 59) 3 182 := ⟨by decide +kernel, rfl⟩
theorem d_X7_count_182 : zDc M_X7_count 182 (.getfield 299) 3 185 := ⟨by decide +kernel, rfl⟩
theorem d_X7_count_185 : zDc M_X7_count 185 (.ireturn) 1 186 := ⟨by decide +kernel, rfl⟩
theorem d_X7_count_186 : zDc M_X7_count 186 (.aload_n 0) 1 187 := ⟨by decide +kernel, rfl⟩
theorem d_X7_count_187 : zDc M_X7_count 187 (.getfield 59) 3 190 := ⟨by decide +kernel, rfl⟩
theorem d_X7_count_190 : zDc M_X7_count 190 (.invokevirtual 343) 3 193 := ⟨by decide +kernel, rfl⟩
theorem d_X7_count_193 : zDc M_X7_count 193 (.ireturn) 1 194 := ⟨by decide +kernel, rfl⟩
theorem d_X7_count_194 : zDc M_X7_count 194 (.aload_n 0) 1 195 := ⟨by decide +kernel, rfl⟩
theorem d_X7_count_195 : zDc M_X7_count 195 (.getfield 52) 3 198 := ⟨by decide +kernel, rfl⟩
theorem d_X7_count_198 : zDc M_X7_count 198 (.getfield 321) 3 201 := ⟨by decide +kernel, rfl⟩
theorem d_X7_count_201 : zDc M_X7_count 201 (.ireturn) 1 202 := ⟨by decide +kernel, rfl⟩
theorem d_X7_count_202 : zDc M_X7_count 202 (.iconst (-1)) 1 203 := ⟨by decide +kernel, rfl⟩
theorem d_X7_count_203 : zDc M_X7_count 203 (.ireturn) 1 204 := ⟨by decide +kernel, rfl⟩
def f_X7_count (a0 : Nat) (a1 : Int32) (h0 : zHp) : Option (Int32 × zHp) :=
  if a1 = 0 then
  zob (zgR h0 a0 7 3) (fun v1 =>
  zob (zgI h0 v1 6 13) (fun v2 =>
  some (v2, h0)))
  else if a1 = 1 then
  zob (zgR h0 a0 7 3) (fun v3 =>
  zob (zgI h0 v3 6 14) (fun v4 =>
  some (v4, h0)))
  else if a1 = 2 then
  zob (zgR h0 a0 7 3) (fun v5 =>
  zob (zgI h0 v5 6 15) (fun v6 =>
  some (v6, h0)))
  else if a1 = 3 then
  zob (zgR h0 a0 7 3) (fun v7 =>
  zob (zgI h0 v7 6 16) (fun v8 =>
  some (v8, h0)))
  else if a1 = 4 then
  zob (zgR h0 a0 7 3) (fun v9 =>
  zob (zgR h0 v9 6 12) (fun v10 =>
  zob (zgI h0 v10 2 5) (fun v11 =>
  some (v11, h0))))
  else if a1 = 5 then
  zob (zgR h0 a0 7 4) (fun v12 =>
  zob (zgI h0 v12 5 11) (fun v13 =>
  some (v13, h0)))
  else if a1 = 6 then
  zob (zgR h0 a0 7 4) (fun v14 =>
  zbd (zcv 5 v14 h0 (f_X5_windNow v14 h0)) (fun v16 h15 =>
  some (v16, h15)))
  else if a1 = 7 then
  zob (zgR h0 a0 7 4) (fun v17 =>
  zbd (zcv 5 v17 h0 (f_X5_howManyAre v17 1 h0)) (fun v19 h18 =>
  some (v19, h18)))
  else if a1 = 8 then
  zob (zgR h0 a0 7 4) (fun v20 =>
  zbd (zcv 5 v20 h0 (f_X5_howManyAre v20 0 h0)) (fun v22 h21 =>
  some (v22, h21)))
  else if a1 = 9 then
  zob (zgR h0 a0 7 4) (fun v23 =>
  zbd (zcv 5 v23 h0 (f_X5_howManyAre v23 2 h0)) (fun v25 h24 =>
  some (v25, h24)))
  else if a1 = 10 then
  zob (zgR h0 a0 7 4) (fun v26 =>
  zbd (zcv 5 v26 h0 (f_X5_rainInAll v26 h0)) (fun v28 h27 =>
  some (v28, h27)))
  else if a1 = 11 then
  zob (zgR h0 a0 7 4) (fun v29 =>
  zbd (zcv 5 v29 h0 (f_X5_marksInAll v29 h0)) (fun v31 h30 =>
  some (v31, h30)))
  else if a1 = 12 then
  zob (zgR h0 a0 7 8) (fun v32 =>
  zob (zgI h0 v32 3 6) (fun v33 =>
  some (v33, h0)))
  else if a1 = 13 then
  zob (zgR h0 a0 7 8) (fun v34 =>
  zbd (zcv 3 v34 h0 (f_X3_readable v34 h0)) (fun v36 h35 =>
  some (v36, h35)))
  else if a1 = 14 then
  zob (zgR h0 a0 7 7) (fun v37 =>
  zob (zgI h0 v37 0 4) (fun v38 =>
  some (v38, h0)))
  else 
  some ((-1), h0)
set_option maxRecDepth 100000 in
set_option maxHeartbeats 4000000 in
theorem t_X7_count (a0 : Nat) (a1 : Int32) (h0 : zHp) : ∀ (r : Int32) (h' : zHp), f_X7_count a0 a1 h0 = some (r, h') → zCt yX7_count (.code yX7_count cX7_count 2 (some .int)) 2 83 0 0 [.ref a0, .int a1] h0 (some (.int r)) h' := by
  refine zct_of M_X7_count yX7_count (by decide) rfl rfl [.ref a0, .int a1] h0 (Nat.le_of_ble_eq_true rfl) (fun r => some (.int r)) (fun X => ?_)
  show zG X M_X7_count (0, 0) 0 [(0, .ref a0), (1, .int a1)] [] h0 (f_X7_count a0 a1 h0) (fun (r : Int32) h' => zKe X (some (.int r)) h')
  unfold f_X7_count
  refine zg_iload_n 1 rfl d_X7_count_0 ?_
  refine zg_if (fun n39 => ?_) (fun n39 => ?_)
  · refine zg_tabE n39 d_X7_count_1 (by decide) (by decide) (off := 75) rfl (tgt := 76) (by decide) ?_
    refine zg_aload_n 0 rfl d_X7_count_76 ?_
    refine zg_getR d_X7_count_77 zc_7 (by decide) fl_X7_29 (fun v1 => ?_)
    refine zg_getI d_X7_count_80 zc_6 (by decide) fl_X7_99 (fun v2 => ?_)
    exact zg_iretK d_X7_count_83 rfl ⟨Nat.le_of_ble_eq_true rfl, Nat.le_of_ble_eq_true rfl⟩ (fun q => q)
  refine zg_if (fun n40 => ?_) (fun n40 => ?_)
  · refine zg_tabE n40 d_X7_count_1 (by decide) (by decide) (off := 83) rfl (tgt := 84) (by decide) ?_
    refine zg_aload_n 0 rfl d_X7_count_84 ?_
    refine zg_getR d_X7_count_85 zc_7 (by decide) fl_X7_29 (fun v3 => ?_)
    refine zg_getI d_X7_count_88 zc_6 (by decide) fl_X7_109 (fun v4 => ?_)
    exact zg_iretK d_X7_count_91 rfl ⟨Nat.le_of_ble_eq_true rfl, Nat.le_of_ble_eq_true rfl⟩ (fun q => q)
  refine zg_if (fun n41 => ?_) (fun n41 => ?_)
  · refine zg_tabE n41 d_X7_count_1 (by decide) (by decide) (off := 91) rfl (tgt := 92) (by decide) ?_
    refine zg_aload_n 0 rfl d_X7_count_92 ?_
    refine zg_getR d_X7_count_93 zc_7 (by decide) fl_X7_29 (fun v5 => ?_)
    refine zg_getI d_X7_count_96 zc_6 (by decide) fl_X7_115 (fun v6 => ?_)
    exact zg_iretK d_X7_count_99 rfl ⟨Nat.le_of_ble_eq_true rfl, Nat.le_of_ble_eq_true rfl⟩ (fun q => q)
  refine zg_if (fun n42 => ?_) (fun n42 => ?_)
  · refine zg_tabE n42 d_X7_count_1 (by decide) (by decide) (off := 99) rfl (tgt := 100) (by decide) ?_
    refine zg_aload_n 0 rfl d_X7_count_100 ?_
    refine zg_getR d_X7_count_101 zc_7 (by decide) fl_X7_29 (fun v7 => ?_)
    refine zg_getI d_X7_count_104 zc_6 (by decide) fl_X7_331 (fun v8 => ?_)
    exact zg_iretK d_X7_count_107 rfl ⟨Nat.le_of_ble_eq_true rfl, Nat.le_of_ble_eq_true rfl⟩ (fun q => q)
  refine zg_if (fun n43 => ?_) (fun n43 => ?_)
  · refine zg_tabE n43 d_X7_count_1 (by decide) (by decide) (off := 107) rfl (tgt := 108) (by decide) ?_
    refine zg_aload_n 0 rfl d_X7_count_108 ?_
    refine zg_getR d_X7_count_109 zc_7 (by decide) fl_X7_29 (fun v9 => ?_)
    refine zg_getR d_X7_count_112 zc_6 (by decide) fl_X7_334 (fun v10 => ?_)
    refine zg_getI d_X7_count_115 zc_2 (by decide) fl_X7_338 (fun v11 => ?_)
    exact zg_iretK d_X7_count_118 rfl ⟨Nat.le_of_ble_eq_true rfl, Nat.le_of_ble_eq_true rfl⟩ (fun q => q)
  refine zg_if (fun n44 => ?_) (fun n44 => ?_)
  · refine zg_tabE n44 d_X7_count_1 (by decide) (by decide) (off := 118) rfl (tgt := 119) (by decide) ?_
    refine zg_aload_n 0 rfl d_X7_count_119 ?_
    refine zg_getR d_X7_count_120 zc_7 (by decide) fl_X7_38 (fun v12 => ?_)
    refine zg_getI d_X7_count_123 zc_5 (by decide) fl_X7_218 (fun v13 => ?_)
    exact zg_iretK d_X7_count_126 rfl ⟨Nat.le_of_ble_eq_true rfl, Nat.le_of_ble_eq_true rfl⟩ (fun q => q)
  refine zg_if (fun n45 => ?_) (fun n45 => ?_)
  · refine zg_tabE n45 d_X7_count_1 (by decide) (by decide) (off := 126) rfl (tgt := 127) (by decide) ?_
    refine zg_aload_n 0 rfl d_X7_count_127 ?_
    refine zg_getR d_X7_count_128 zc_7 (by decide) fl_X7_38 (fun v14 => ?_)
    refine zg_cVi (b := v14) (As := []) (rest := []) (0, 0) d_X7_count_131 zc_5 rfl cw_X7_221 wi_X5_windNow ws_X5_windNow rfl rfl (Nat.le_of_ble_eq_true rfl) (by decide) (by decide) ⟨by decide, by decide⟩ rfl (t_X5_windNow v14 h0) (fun v16 h15 => ?_)
    exact zg_iretK d_X7_count_134 rfl ⟨Nat.le_of_ble_eq_true rfl, Nat.le_of_ble_eq_true rfl⟩ (fun q => q)
  refine zg_if (fun n46 => ?_) (fun n46 => ?_)
  · refine zg_tabE n46 d_X7_count_1 (by decide) (by decide) (off := 134) rfl (tgt := 135) (by decide) ?_
    refine zg_aload_n 0 rfl d_X7_count_135 ?_
    refine zg_getR d_X7_count_136 zc_7 (by decide) fl_X7_38 (fun v17 => ?_)
    refine zg_iconst 1 rfl d_X7_count_139 ?_
    refine zg_cVi (b := v17) (As := [.int 1]) (rest := []) (0, 0) d_X7_count_140 zc_5 rfl cw_X7_235 wi_X5_howManyAre ws_X5_howManyAre rfl rfl (Nat.le_of_ble_eq_true rfl) (by decide) (by decide) ⟨by decide, by decide⟩ rfl (t_X5_howManyAre v17 1 h0) (fun v19 h18 => ?_)
    exact zg_iretK d_X7_count_143 rfl ⟨Nat.le_of_ble_eq_true rfl, Nat.le_of_ble_eq_true rfl⟩ (fun q => q)
  refine zg_if (fun n47 => ?_) (fun n47 => ?_)
  · refine zg_tabE n47 d_X7_count_1 (by decide) (by decide) (off := 143) rfl (tgt := 144) (by decide) ?_
    refine zg_aload_n 0 rfl d_X7_count_144 ?_
    refine zg_getR d_X7_count_145 zc_7 (by decide) fl_X7_38 (fun v20 => ?_)
    refine zg_iconst 0 rfl d_X7_count_148 ?_
    refine zg_cVi (b := v20) (As := [.int 0]) (rest := []) (0, 0) d_X7_count_149 zc_5 rfl cw_X7_235 wi_X5_howManyAre ws_X5_howManyAre rfl rfl (Nat.le_of_ble_eq_true rfl) (by decide) (by decide) ⟨by decide, by decide⟩ rfl (t_X5_howManyAre v20 0 h0) (fun v22 h21 => ?_)
    exact zg_iretK d_X7_count_152 rfl ⟨Nat.le_of_ble_eq_true rfl, Nat.le_of_ble_eq_true rfl⟩ (fun q => q)
  refine zg_if (fun n48 => ?_) (fun n48 => ?_)
  · refine zg_tabE n48 d_X7_count_1 (by decide) (by decide) (off := 152) rfl (tgt := 153) (by decide) ?_
    refine zg_aload_n 0 rfl d_X7_count_153 ?_
    refine zg_getR d_X7_count_154 zc_7 (by decide) fl_X7_38 (fun v23 => ?_)
    refine zg_iconst 2 rfl d_X7_count_157 ?_
    refine zg_cVi (b := v23) (As := [.int 2]) (rest := []) (0, 0) d_X7_count_158 zc_5 rfl cw_X7_235 wi_X5_howManyAre ws_X5_howManyAre rfl rfl (Nat.le_of_ble_eq_true rfl) (by decide) (by decide) ⟨by decide, by decide⟩ rfl (t_X5_howManyAre v23 2 h0) (fun v25 h24 => ?_)
    exact zg_iretK d_X7_count_161 rfl ⟨Nat.le_of_ble_eq_true rfl, Nat.le_of_ble_eq_true rfl⟩ (fun q => q)
  refine zg_if (fun n49 => ?_) (fun n49 => ?_)
  · refine zg_tabE n49 d_X7_count_1 (by decide) (by decide) (off := 161) rfl (tgt := 162) (by decide) ?_
    refine zg_aload_n 0 rfl d_X7_count_162 ?_
    refine zg_getR d_X7_count_163 zc_7 (by decide) fl_X7_38 (fun v26 => ?_)
    refine zg_cVi (b := v26) (As := []) (rest := []) (0, 0) d_X7_count_166 zc_5 rfl cw_X7_232 wi_X5_rainInAll ws_X5_rainInAll rfl rfl (Nat.le_of_ble_eq_true rfl) (by decide) (by decide) ⟨by decide, by decide⟩ rfl (t_X5_rainInAll v26 h0) (fun v28 h27 => ?_)
    exact zg_iretK d_X7_count_169 rfl ⟨Nat.le_of_ble_eq_true rfl, Nat.le_of_ble_eq_true rfl⟩ (fun q => q)
  refine zg_if (fun n50 => ?_) (fun n50 => ?_)
  · refine zg_tabE n50 d_X7_count_1 (by decide) (by decide) (off := 169) rfl (tgt := 170) (by decide) ?_
    refine zg_aload_n 0 rfl d_X7_count_170 ?_
    refine zg_getR d_X7_count_171 zc_7 (by decide) fl_X7_38 (fun v29 => ?_)
    refine zg_cVi (b := v29) (As := []) (rest := []) (0, 0) d_X7_count_174 zc_5 rfl cw_X7_238 wi_X5_marksInAll ws_X5_marksInAll rfl rfl (Nat.le_of_ble_eq_true rfl) (by decide) (by decide) ⟨by decide, by decide⟩ rfl (t_X5_marksInAll v29 h0) (fun v31 h30 => ?_)
    exact zg_iretK d_X7_count_177 rfl ⟨Nat.le_of_ble_eq_true rfl, Nat.le_of_ble_eq_true rfl⟩ (fun q => q)
  refine zg_if (fun n51 => ?_) (fun n51 => ?_)
  · refine zg_tabE n51 d_X7_count_1 (by decide) (by decide) (off := 177) rfl (tgt := 178) (by decide) ?_
    refine zg_aload_n 0 rfl d_X7_count_178 ?_
    refine zg_getR d_X7_count_179 zc_7 (by decide) fl_X7_59 (fun v32 => ?_)
    refine zg_getI d_X7_count_182 zc_3 (by decide) fl_X7_299 (fun v33 => ?_)
    exact zg_iretK d_X7_count_185 rfl ⟨Nat.le_of_ble_eq_true rfl, Nat.le_of_ble_eq_true rfl⟩ (fun q => q)
  refine zg_if (fun n52 => ?_) (fun n52 => ?_)
  · refine zg_tabE n52 d_X7_count_1 (by decide) (by decide) (off := 185) rfl (tgt := 186) (by decide) ?_
    refine zg_aload_n 0 rfl d_X7_count_186 ?_
    refine zg_getR d_X7_count_187 zc_7 (by decide) fl_X7_59 (fun v34 => ?_)
    refine zg_cVi (b := v34) (As := []) (rest := []) (0, 0) d_X7_count_190 zc_3 rfl cw_X7_343 wi_X3_readable ws_X3_readable rfl rfl (Nat.le_of_ble_eq_true rfl) (by decide) (by decide) ⟨by decide, by decide⟩ rfl (t_X3_readable v34 h0) (fun v36 h35 => ?_)
    exact zg_iretK d_X7_count_193 rfl ⟨Nat.le_of_ble_eq_true rfl, Nat.le_of_ble_eq_true rfl⟩ (fun q => q)
  refine zg_if (fun n53 => ?_) (fun n53 => ?_)
  · refine zg_tabE n53 d_X7_count_1 (by decide) (by decide) (off := 193) rfl (tgt := 194) (by decide) ?_
    refine zg_aload_n 0 rfl d_X7_count_194 ?_
    refine zg_getR d_X7_count_195 zc_7 (by decide) fl_X7_52 (fun v37 => ?_)
    refine zg_getI d_X7_count_198 zc_0 (by decide) fl_X7_321 (fun v38 => ?_)
    exact zg_iretK d_X7_count_201 rfl ⟨Nat.le_of_ble_eq_true rfl, Nat.le_of_ble_eq_true rfl⟩ (fun q => q)
  refine zg_tabO d_X7_count_1 (by have q0 := lv_neT n39 (a := 0) rfl; have q1 := lv_neT n40 (a := 1) rfl; have q2 := lv_neT n41 (a := 2) rfl; have q3 := lv_neT n42 (a := 3) rfl; have q4 := lv_neT n43 (a := 4) rfl; have q5 := lv_neT n44 (a := 5) rfl; have q6 := lv_neT n45 (a := 6) rfl; have q7 := lv_neT n46 (a := 7) rfl; have q8 := lv_neT n47 (a := 8) rfl; have q9 := lv_neT n48 (a := 9) rfl; have q10 := lv_neT n49 (a := 10) rfl; have q11 := lv_neT n50 (a := 11) rfl; have q12 := lv_neT n51 (a := 12) rfl; have q13 := lv_neT n52 (a := 13) rfl; have q14 := lv_neT n53 (a := 14) rfl; omega) (tgt := 202) (by decide) ?_
  refine zg_iconst (-1) rfl d_X7_count_202 ?_
  exact zg_iretK d_X7_count_203 rfl ⟨Nat.le_of_ble_eq_true rfl, Nat.le_of_ble_eq_true rfl⟩ (fun q => q)

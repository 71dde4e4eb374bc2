theorem fl_X4_33 : Cond.fieldLink RX4 33 (TX4 15).1 (TX4 15).2.1 (TX4 15).2.2.1 ∈ zT := zw_of _ 357 (by decide +kernel) (by decide +kernel)
theorem ml_X4_78 : Cond.methodLink RX4 78 yX4_failAt ∈ zT := zw_of _ 675 (by decide +kernel) (by decide +kernel)
theorem cd_X4_failAt : Cond.code yX4_failAt cX4_failAt 3 none ∈ zT := zw_of _ 678 (by decide +kernel) (by decide +kernel)
theorem cw_X4_78 : zCw RX4 78 yX4_failAt cX4_failAt 3 none 2 := ⟨ml_X4_78, ni_X4, cd_X4_failAt, by decide, by decide, by decide +kernel⟩
theorem wi_X4_failAt : Cond.instanceMethod yX4_failAt ∈ zT := zw_of _ 677 (by decide +kernel) (by decide +kernel)
theorem ws_X4_failAt : Cond.selects RX4 yX4_failAt yX4_failAt ∈ zT := zw_of _ 10 (by decide +kernel) (by decide +kernel)
theorem fl_X4_22 : Cond.fieldLink RX4 22 (TX4 10).1 (TX4 10).2.1 (TX4 10).2.2.1 ∈ zT := zw_of _ 351 (by decide +kernel) (by decide +kernel)
theorem fl_X4_218 : Cond.fieldLink RX4 218 (TX6 12).1 (TX6 12).2.1 (TX6 12).2.2.1 ∈ zT := zw_of _ 236 (by decide +kernel) (by decide +kernel)
theorem fl_X4_252 : Cond.fieldLink RX4 252 (TX2 5).1 (TX2 5).2.1 (TX2 5).2.2.1 ∈ zT := zw_of _ 176 (by decide +kernel) (by decide +kernel)
theorem ml_X4_82 : Cond.methodLink RX4 82 yX4_fail ∈ zT := zw_of _ 671 (by decide +kernel) (by decide +kernel)
theorem cd_X4_fail : Cond.code yX4_fail cX4_fail 2 none ∈ zT := zw_of _ 674 (by decide +kernel) (by decide +kernel)
theorem cw_X4_82 : zCw RX4 82 yX4_fail cX4_fail 2 none 1 := ⟨ml_X4_82, ni_X4, cd_X4_fail, by decide, by decide, by decide +kernel⟩
theorem wi_X4_fail : Cond.instanceMethod yX4_fail ∈ zT := zw_of _ 673 (by decide +kernel) (by decide +kernel)
theorem ws_X4_fail : Cond.selects RX4 yX4_fail yX4_fail ∈ zT := zw_of _ 9 (by decide +kernel) (by decide +kernel)
theorem ml_X4_62 : Cond.methodLink RX4 62 yX4_advance ∈ zT := zw_of _ 629 (by decide +kernel) (by decide +kernel)
theorem cd_X4_advance : Cond.code yX4_advance cX4_advance 1 none ∈ zT := zw_of _ 632 (by decide +kernel) (by decide +kernel)
theorem cw_X4_62 : zCw RX4 62 yX4_advance cX4_advance 1 none 0 := ⟨ml_X4_62, ni_X4, cd_X4_advance, by decide, by decide, by decide +kernel⟩
theorem wi_X4_advance : Cond.instanceMethod yX4_advance ∈ zT := zw_of _ 631 (by decide +kernel) (by decide +kernel)
theorem ws_X4_advance : Cond.selects RX4 yX4_advance yX4_advance ∈ zT := zw_of _ 1 (by decide +kernel) (by decide +kernel)
theorem fl_X4_230 : Cond.fieldLink RX4 230 (TX4 12).1 (TX4 12).2.1 (TX4 12).2.2.1 ∈ zT := zw_of _ 353 (by decide +kernel) (by decide +kernel)
theorem fl_X4_26 : Cond.fieldLink RX4 26 (TX4 11).1 (TX4 11).2.1 (TX4 11).2.2.1 ∈ zT := zw_of _ 352 (by decide +kernel) (by decide +kernel)
theorem ml_X4_267 : Cond.methodLink RX4 267 yX4_rankOf ∈ zT := zw_of _ 747 (by decide +kernel) (by decide +kernel)
theorem cd_X4_rankOf : Cond.code yX4_rankOf cX4_rankOf 1 (some .int) ∈ zT := zw_of _ 749 (by decide +kernel) (by decide +kernel)
theorem cw_X4_267 : zCw RX4 267 yX4_rankOf cX4_rankOf 1 (some .int) 1 := ⟨ml_X4_267, ni_X4, cd_X4_rankOf, by decide, by decide, by decide +kernel⟩
theorem wt_X4_rankOf : Cond.static yX4_rankOf ∈ zT := zw_of _ 748 (by decide +kernel) (by decide +kernel)
theorem fl_X4_233 : Cond.fieldLink RX4 233 (TX4 13).1 (TX4 13).2.1 (TX4 13).2.2.1 ∈ zT := zw_of _ 354 (by decide +kernel) (by decide +kernel)
theorem ml_X4_271 : Cond.methodLink RX4 271 yX2_place ∈ zT := zw_of _ 762 (by decide +kernel) (by decide +kernel)
theorem cd_X2_place : Cond.code yX2_place cX2_place 2 none ∈ zT := zw_of _ 765 (by decide +kernel) (by decide +kernel)
theorem cw_X4_271 : zCw RX4 271 yX2_place cX2_place 2 none 1 := ⟨ml_X4_271, ni_X2, cd_X2_place, by decide, by decide, by decide +kernel⟩
theorem wi_X2_place : Cond.instanceMethod yX2_place ∈ zT := zw_of _ 763 (by decide +kernel) (by decide +kernel)
theorem ws_X2_place : Cond.selects RX2 yX2_place yX2_place ∈ zT := zw_of _ 764 (by decide +kernel) (by decide +kernel)
theorem ml_X4_255 : Cond.methodLink RX4 255 yX4_openOne ∈ zT := zw_of _ 739 (by decide +kernel) (by decide +kernel)
theorem cd_X4_openOne : Cond.code yX4_openOne cX4_openOne 1 none ∈ zT := zw_of _ 742 (by decide +kernel) (by decide +kernel)
theorem cw_X4_255 : zCw RX4 255 yX4_openOne cX4_openOne 1 none 0 := ⟨ml_X4_255, ni_X4, cd_X4_openOne, by decide, by decide, by decide +kernel⟩
theorem wi_X4_openOne : Cond.instanceMethod yX4_openOne ∈ zT := zw_of _ 741 (by decide +kernel) (by decide +kernel)
theorem ws_X4_openOne : Cond.selects RX4 yX4_openOne yX4_openOne ∈ zT := zw_of _ 23 (by decide +kernel) (by decide +kernel)
theorem ml_X4_258 : Cond.methodLink RX4 258 yX4_mayTurn ∈ zT := zw_of _ 743 (by decide +kernel) (by decide +kernel)
theorem cd_X4_mayTurn : Cond.code yX4_mayTurn cX4_mayTurn 1 (some .boolean) ∈ zT := zw_of _ 746 (by decide +kernel) (by decide +kernel)
theorem cw_X4_258 : zCw RX4 258 yX4_mayTurn cX4_mayTurn 1 (some .boolean) 0 := ⟨ml_X4_258, ni_X4, cd_X4_mayTurn, by decide, by decide, by decide +kernel⟩
theorem wi_X4_mayTurn : Cond.instanceMethod yX4_mayTurn ∈ zT := zw_of _ 745 (by decide +kernel) (by decide +kernel)
theorem ws_X4_mayTurn : Cond.selects RX4 yX4_mayTurn yX4_mayTurn ∈ zT := zw_of _ 24 (by decide +kernel) (by decide +kernel)
theorem ml_X4_261 : Cond.methodLink RX4 261 yX4_countKnot ∈ zT := zw_of _ 750 (by decide +kernel) (by decide +kernel)
theorem cd_X4_countKnot : Cond.code yX4_countKnot cX4_countKnot 1 none ∈ zT := zw_of _ 753 (by decide +kernel) (by decide +kernel)
theorem cw_X4_261 : zCw RX4 261 yX4_countKnot cX4_countKnot 1 none 0 := ⟨ml_X4_261, ni_X4, cd_X4_countKnot, by decide, by decide, by decide +kernel⟩
theorem wi_X4_countKnot : Cond.instanceMethod yX4_countKnot ∈ zT := zw_of _ 752 (by decide +kernel) (by decide +kernel)
theorem ws_X4_countKnot : Cond.selects RX4 yX4_countKnot yX4_countKnot ∈ zT := zw_of _ 25 (by decide +kernel) (by decide +kernel)
theorem ml_X4_264 : Cond.methodLink RX4 264 yX4_letWait ∈ zT := zw_of _ 754 (by decide +kernel) (by decide +kernel)
theorem cd_X4_letWait : Cond.code yX4_letWait cX4_letWait 2 none ∈ zT := zw_of _ 757 (by decide +kernel) (by decide +kernel)
theorem cw_X4_264 : zCw RX4 264 yX4_letWait cX4_letWait 2 none 1 := ⟨ml_X4_264, ni_X4, cd_X4_letWait, by decide, by decide, by decide +kernel⟩
theorem wi_X4_letWait : Cond.instanceMethod yX4_letWait ∈ zT := zw_of _ 756 (by decide +kernel) (by decide +kernel)
theorem ws_X4_letWait : Cond.selects RX4 yX4_letWait yX4_letWait ∈ zT := zw_of _ 26 (by decide +kernel) (by decide +kernel)
theorem fl_X4_139 : Cond.fieldLink RX4 139 (TX4 8).1 (TX4 8).2.1 (TX4 8).2.2.1 ∈ zT := zw_of _ 349 (by decide +kernel) (by decide +kernel)
theorem ml_X4_142 : Cond.methodLink RX4 142 yX4_readNumber ∈ zT := zw_of _ 667 (by decide +kernel) (by decide +kernel)
theorem cd_X4_readNumber : Cond.code yX4_readNumber cX4_readNumber 4 (some .int) ∈ zT := zw_of _ 670 (by decide +kernel) (by decide +kernel)
theorem cw_X4_142 : zCw RX4 142 yX4_readNumber cX4_readNumber 4 (some .int) 2 := ⟨ml_X4_142, ni_X4, cd_X4_readNumber, by decide, by decide, by decide +kernel⟩
theorem wi_X4_readNumber : Cond.instanceMethod yX4_readNumber ∈ zT := zw_of _ 669 (by decide +kernel) (by decide +kernel)
theorem ws_X4_readNumber : Cond.selects RX4 yX4_readNumber yX4_readNumber ∈ zT := zw_of _ 8 (by decide +kernel) (by decide +kernel)
theorem cd_X7_numberOf : Cond.code yX7_numberOf cX7_numberOf 4 (some .int) ∈ zT := zw_of _ 693 (by decide +kernel) (by decide +kernel)
theorem cn_X4_145 : zCn RX4 145 yX7_numberOf cX7_numberOf 4 (some .int) 3 := ⟨fun _ q => q.2.2.2.2.2.2.1, ni_X7, cd_X7_numberOf, by decide, by decide, by decide +kernel⟩
theorem wt_X7_numberOf : Cond.static yX7_numberOf ∈ zT := zw_of _ 692 (by decide +kernel) (by decide +kernel)
theorem fl_X4_190 : Cond.fieldLink RX4 190 (TX6 15).1 (TX6 15).2.1 (TX6 15).2.2.1 ∈ zT := zw_of _ 249 (by decide +kernel) (by decide +kernel)
theorem ml_X4_158 : Cond.methodLink RX4 158 yX4_hasRoom ∈ zT := zw_of _ 683 (by decide +kernel) (by decide +kernel)
theorem cd_X4_hasRoom : Cond.code yX4_hasRoom cX4_hasRoom 3 (some .boolean) ∈ zT := zw_of _ 686 (by decide +kernel) (by decide +kernel)
theorem cw_X4_158 : zCw RX4 158 yX4_hasRoom cX4_hasRoom 3 (some .boolean) 2 := ⟨ml_X4_158, ni_X4, cd_X4_hasRoom, by decide, by decide, by decide +kernel⟩
theorem wi_X4_hasRoom : Cond.instanceMethod yX4_hasRoom ∈ zT := zw_of _ 685 (by decide +kernel) (by decide +kernel)
theorem ws_X4_hasRoom : Cond.selects RX4 yX4_hasRoom yX4_hasRoom ∈ zT := zw_of _ 12 (by decide +kernel) (by decide +kernel)
theorem fl_X4_193 : Cond.fieldLink RX4 193 (TX6 8).1 (TX6 8).2.1 (TX6 8).2.2.1 ∈ zT := zw_of _ 222 (by decide +kernel) (by decide +kernel)
theorem ml_X4_165 : Cond.methodLink RX4 165 yX4_readName ∈ zT := zw_of _ 687 (by decide +kernel) (by decide +kernel)
theorem cd_X4_readName : Cond.code yX4_readName cX4_readName 4 (some .int) ∈ zT := zw_of _ 690 (by decide +kernel) (by decide +kernel)
theorem cw_X4_165 : zCw RX4 165 yX4_readName cX4_readName 4 (some .int) 2 := ⟨ml_X4_165, ni_X4, cd_X4_readName, by decide, by decide, by decide +kernel⟩
theorem wi_X4_readName : Cond.instanceMethod yX4_readName ∈ zT := zw_of _ 689 (by decide +kernel) (by decide +kernel)
theorem ws_X4_readName : Cond.selects RX4 yX4_readName yX4_readName ∈ zT := zw_of _ 13 (by decide +kernel) (by decide +kernel)
theorem fl_X4_196 : Cond.fieldLink RX4 196 (TX6 9).1 (TX6 9).2.1 (TX6 9).2.2.1 ∈ zT := zw_of _ 225 (by decide +kernel) (by decide +kernel)
theorem ml_X4_149 : Cond.methodLink RX4 149 yX4_readCell ∈ zT := zw_of _ 663 (by decide +kernel) (by decide +kernel)
theorem cd_X4_readCell : Cond.code yX4_readCell cX4_readCell 3 (some .int) ∈ zT := zw_of _ 666 (by decide +kernel) (by decide +kernel)
theorem cw_X4_149 : zCw RX4 149 yX4_readCell cX4_readCell 3 (some .int) 0 := ⟨ml_X4_149, ni_X4, cd_X4_readCell, by decide, by decide, by decide +kernel⟩
theorem wi_X4_readCell : Cond.instanceMethod yX4_readCell ∈ zT := zw_of _ 665 (by decide +kernel) (by decide +kernel)
theorem ws_X4_readCell : Cond.selects RX4 yX4_readCell yX4_readCell ∈ zT := zw_of _ 7 (by decide +kernel) (by decide +kernel)
theorem fl_X4_199 : Cond.fieldLink RX4 199 (TX6 10).1 (TX6 10).2.1 (TX6 10).2.2.1 ∈ zT := zw_of _ 230 (by decide +kernel) (by decide +kernel)
theorem fl_X4_175 : Cond.fieldLink RX4 175 (TX6 14).1 (TX6 14).2.1 (TX6 14).2.2.1 ∈ zT := zw_of _ 245 (by decide +kernel) (by decide +kernel)
theorem fl_X4_178 : Cond.fieldLink RX4 178 (TX6 4).1 (TX6 4).2.1 (TX6 4).2.2.1 ∈ zT := zw_of _ 210 (by decide +kernel) (by decide +kernel)
theorem fl_X4_181 : Cond.fieldLink RX4 181 (TX6 5).1 (TX6 5).2.1 (TX6 5).2.2.1 ∈ zT := zw_of _ 213 (by decide +kernel) (by decide +kernel)
theorem fl_X4_184 : Cond.fieldLink RX4 184 (TX6 6).1 (TX6 6).2.1 (TX6 6).2.2.1 ∈ zT := zw_of _ 216 (by decide +kernel) (by decide +kernel)
theorem fl_X4_187 : Cond.fieldLink RX4 187 (TX6 7).1 (TX6 7).2.1 (TX6 7).2.2.1 ∈ zT := zw_of _ 218 (by decide +kernel) (by decide +kernel)
theorem fl_X4_155 : Cond.fieldLink RX4 155 (TX6 13).1 (TX6 13).2.1 (TX6 13).2.2.1 ∈ zT := zw_of _ 241 (by decide +kernel) (by decide +kernel)
theorem fl_X4_162 : Cond.fieldLink RX4 162 (TX6 1).1 (TX6 1).2.1 (TX6 1).2.2.1 ∈ zT := zw_of _ 199 (by decide +kernel) (by decide +kernel)
theorem fl_X4_169 : Cond.fieldLink RX4 169 (TX6 2).1 (TX6 2).2.1 (TX6 2).2.2.1 ∈ zT := zw_of _ 202 (by decide +kernel) (by decide +kernel)
theorem fl_X4_172 : Cond.fieldLink RX4 172 (TX6 3).1 (TX6 3).2.1 (TX6 3).2.2.1 ∈ zT := zw_of _ 207 (by decide +kernel) (by decide +kernel)
abbrev M_X4_failAt : zMt := (RX4, cX4_failAt, 3, 1, 60, none, "failAt", 0, 0)
theorem d_X4_failAt_0 : zDc M_X4_failAt 0 (.aload_n 0) 1 1 := ⟨by decide +kernel, rfl⟩
theorem d_X4_failAt_1 : zDc M_X4_failAt 1 (.getfield 29) 3 4 := ⟨by decide +kernel, rfl⟩
theorem d_X4_failAt_4 : zDj M_X4_failAt 4 (.ifCond .ne 19) 19 7 23 := ⟨by decide +kernel, rfl, by decide⟩
theorem d_X4_failAt_7 : zDc M_X4_failAt 7 (.aload_n 0) 1 8 := ⟨by decide +kernel, rfl⟩
theorem d_X4_failAt_8 : zDc M_X4_failAt 8 (.iload_n 1) 1 9 := ⟨by decide +kernel, rfl⟩
theorem d_X4_failAt_9 : zDc M_X4_failAt 9 (.putfield 29) 3 12 := ⟨by decide +kernel, rfl⟩
theorem d_X4_failAt_12 : zDc M_X4_failAt 12 (.aload_n 0) 1 13 := ⟨by decide +kernel, rfl⟩
theorem d_X4_failAt_13 : zDc M_X4_failAt 13 (.iload_n 2) 1 14 := ⟨by decide +kernel, rfl⟩
theorem d_X4_failAt_14 : zDc M_X4_failAt 14 (.putfield 33) 3 17 := ⟨by decide +kernel, rfl⟩
theorem d_X4_failAt_17 : zDc M_X4_failAt 17 (.aload_n 0) 1 18 := ⟨by decide +kernel, rfl⟩
theorem d_X4_failAt_18 : zDc M_X4_failAt 18 (.bipush 39) 2 20 := ⟨by decide +kernel, rfl⟩
theorem d_X4_failAt_20 : zDc M_X4_failAt 20 (.putfield 65) 3 23 := ⟨by decide +kernel, rfl⟩
theorem d_X4_failAt_23 : zDc M_X4_failAt 23 (.return_) 1 24 := ⟨by decide +kernel, rfl⟩
def f_X4_failAt (a0 : Nat) (a1 : Int32) (a2 : Int32) (h0 : zHp) : Option (Unit × zHp) :=
  zob (zgI h0 a0 4 14) (fun v1 =>
  if v1 = 0 then
  zob (zpV h0 a0 4 14 (.int a1)) (fun h2 =>
  zob (zpV h2 a0 4 15 (.int a2)) (fun h3 =>
  zob (zpV h3 a0 4 4 (.int 39)) (fun h4 =>
  some ((), h4))))
  else
  some ((), h0))
set_option maxRecDepth 100000 in
set_option maxHeartbeats 4000000 in
theorem t_X4_failAt (a0 : Nat) (a1 : Int32) (a2 : Int32) (h0 : zHp) : ∀ (r : Unit) (h' : zHp), f_X4_failAt a0 a1 a2 h0 = some (r, h') → zCt yX4_failAt (.code yX4_failAt cX4_failAt 3 none) 1 60 0 0 [.ref a0, .int a1, .int a2] h0 (none) h' := by
  refine zct_of M_X4_failAt yX4_failAt (by decide) rfl rfl [.ref a0, .int a1, .int a2] h0 (Nat.le_of_ble_eq_true rfl) (fun _ => none) (fun X => ?_)
  show zG X M_X4_failAt (0, 0) 0 [(0, .ref a0), (1, .int a1), (2, .int a2)] [] h0 (f_X4_failAt a0 a1 a2 h0) (fun (_ : Unit) h' => zKe X (none) h')
  unfold f_X4_failAt
  refine zg_aload_n 0 rfl d_X4_failAt_0 ?_
  refine zg_getI d_X4_failAt_1 zc_4 (by decide) fl_X4_29 (fun v1 => ?_)
  refine zg_if_ne d_X4_failAt_4 ?_ ?_
  · refine zg_aload_n 0 rfl d_X4_failAt_7 ?_
    refine zg_iload_n 1 rfl d_X4_failAt_8 ?_
    refine zg_putV d_X4_failAt_9 zc_4 (by decide) fl_X4_29 rfl rfl rfl (fun h2 => ?_)
    refine zg_aload_n 0 rfl d_X4_failAt_12 ?_
    refine zg_iload_n 2 rfl d_X4_failAt_13 ?_
    refine zg_putV d_X4_failAt_14 zc_4 (by decide) fl_X4_33 rfl rfl rfl (fun h3 => ?_)
    refine zg_aload_n 0 rfl d_X4_failAt_17 ?_
    refine zg_bipush 39 rfl d_X4_failAt_18 ?_
    refine zg_putV d_X4_failAt_20 zc_4 (by decide) fl_X4_65 rfl rfl rfl (fun h4 => ?_)
    exact zg_vretK d_X4_failAt_23 rfl ⟨Nat.le_of_ble_eq_true rfl, Nat.le_of_ble_eq_true rfl⟩ (fun q => q)
  · exact zg_vretK d_X4_failAt_23 rfl ⟨Nat.le_of_ble_eq_true rfl, Nat.le_of_ble_eq_true rfl⟩ (fun q => q)
abbrev M_X4_fail : zMt := (RX4, cX4_fail, 2, 2, 82, none, "fail", 0, 0)
theorem d_X4_fail_0 : zDc M_X4_fail 0 (.aload_n 0) 1 1 := ⟨by decide +kernel, rfl⟩
theorem d_X4_fail_1 : zDc M_X4_fail 1 (.iload_n 1) 1 2 := ⟨by decide +kernel, rfl⟩
theorem d_X4_fail_2 : zDc M_X4_fail 2 (.aload_n 0) 1 3 := ⟨by decide +kernel, rfl⟩
theorem d_X4_fail_3 : zDc M_X4_fail 3 (.getfield 75) 3 6 := ⟨by decide +kernel, rfl⟩
theorem d_X4_fail_6 : zDc M_X4_fail 6 (.invokevirtual 78) 3 9 := ⟨by decide +kernel, rfl⟩
theorem d_X4_fail_9 : zDc M_X4_fail 9 (.return_) 1 10 := ⟨by decide +kernel, rfl⟩
def f_X4_fail (a0 : Nat) (a1 : Int32) (h0 : zHp) : Option (Unit × zHp) :=
  zob (zgI h0 a0 4 5) (fun v1 =>
  zbd (zcv 4 a0 h0 (f_X4_failAt a0 a1 v1 h0)) (fun v3 h2 =>
  some ((), h2)))
set_option maxRecDepth 100000 in
set_option maxHeartbeats 4000000 in
theorem t_X4_fail (a0 : Nat) (a1 : Int32) (h0 : zHp) : ∀ (r : Unit) (h' : zHp), f_X4_fail a0 a1 h0 = some (r, h') → zCt yX4_fail (.code yX4_fail cX4_fail 2 none) 2 82 0 0 [.ref a0, .int a1] h0 (none) h' := by
  refine zct_of M_X4_fail yX4_fail (by decide) rfl rfl [.ref a0, .int a1] h0 (Nat.le_of_ble_eq_true rfl) (fun _ => none) (fun X => ?_)
  show zG X M_X4_fail (0, 0) 0 [(0, .ref a0), (1, .int a1)] [] h0 (f_X4_fail a0 a1 h0) (fun (_ : Unit) h' => zKe X (none) h')
  unfold f_X4_fail
  refine zg_aload_n 0 rfl d_X4_fail_0 ?_
  refine zg_iload_n 1 rfl d_X4_fail_1 ?_
  refine zg_aload_n 0 rfl d_X4_fail_2 ?_
  refine zg_getI d_X4_fail_3 zc_4 (by decide) fl_X4_75 (fun v1 => ?_)
  refine zg_cVv (b := a0) (As := [.int a1, .int v1]) (rest := []) (0, 0) d_X4_fail_6 zc_4 rfl cw_X4_78 wi_X4_failAt ws_X4_failAt rfl rfl (Nat.le_of_ble_eq_true rfl) (by decide) (by decide) ⟨by decide, by decide⟩ rfl (t_X4_failAt a0 a1 v1 h0) (fun v3 h2 => ?_)
  exact zg_vretK d_X4_fail_9 rfl ⟨Nat.le_of_ble_eq_true rfl, Nat.le_of_ble_eq_true rfl⟩ (fun q => q)
abbrev M_X4_countKnot : zMt := (RX4, cX4_countKnot, 1, 3, 103, none, "countKnot", 0, 0)
theorem d_X4_countKnot_0 : zDc M_X4_countKnot 0 (.aload_n 0) 1 1 := ⟨by decide +kernel, rfl⟩
theorem d_X4_countKnot_1 : zDc M_X4_countKnot 1 (.getfield 22) 3 4 := ⟨by decide +kernel, rfl⟩
theorem d_X4_countKnot_4 : zDc M_X4_countKnot 4 (.getfield 218) 3 7 := ⟨by decide +kernel, rfl⟩
theorem d_X4_countKnot_7 : zDc M_X4_countKnot 7 (.getfield 252) 3 10 := ⟨by decide +kernel, rfl⟩
theorem d_X4_countKnot_10 : zDc M_X4_countKnot 10 (.bipush 64) 2 12 := ⟨by decide +kernel, rfl⟩
theorem d_X4_countKnot_12 : zDj M_X4_countKnot 12 (.if_icmp .lt 11) 11 15 23 := ⟨by decide +kernel, rfl, by decide⟩
theorem d_X4_countKnot_15 : zDc M_X4_countKnot 15 (.aload_n 0) 1 16 := ⟨by decide +kernel, rfl⟩
theorem d_X4_countKnot_16 : zDc M_X4_countKnot 16 (.iconst 2) 1 17 := ⟨by decide +kernel, rfl⟩
theorem d_X4_countKnot_17 : zDc M_X4_countKnot 17 (.invokevirtual 82) 3 20 := ⟨by decide +kernel, rfl⟩
theorem d_X4_countKnot_20 : zDj M_X4_countKnot 20 (.goto 19) 19 23 39 := ⟨by decide +kernel, rfl, by decide⟩
theorem d_X4_countKnot_23 : zDc M_X4_countKnot 23 (.aload_n 0) 1 24 := ⟨by decide +kernel, rfl⟩
theorem d_X4_countKnot_24 : zDc M_X4_countKnot 24 (.getfield 22) 3 27 := ⟨by decide +kernel, rfl⟩
theorem d_X4_countKnot_27 : zDc M_X4_countKnot 27 (.getfield 218) 3 30 := ⟨by decide +kernel, rfl⟩
theorem d_X4_countKnot_30 : zDc M_X4_countKnot 30 (.dup) 1 31 := ⟨by decide +kernel, rfl⟩
theorem d_X4_countKnot_31 : zDc M_X4_countKnot 31 (.getfield 252) 3 34 := ⟨by decide +kernel, rfl⟩
theorem d_X4_countKnot_34 : zDc M_X4_countKnot 34 (.iconst 1) 1 35 := ⟨by decide +kernel, rfl⟩
theorem d_X4_countKnot_35 : zDc M_X4_countKnot 35 (.iadd) 1 36 := ⟨by decide +kernel, rfl⟩
theorem d_X4_countKnot_36 : zDc M_X4_countKnot 36 (.putfield 252) 3 39 := ⟨by decide +kernel, rfl⟩
theorem d_X4_countKnot_39 : zDc M_X4_countKnot 39 (.return_) 1 40 := ⟨by decide +kernel, rfl⟩
def f_X4_countKnot (a0 : Nat) (h0 : zHp) : Option (Unit × zHp) :=
  zob (zgR h0 a0 4 10) (fun v1 =>
  zob (zgR h0 v1 6 12) (fun v2 =>
  zob (zgI h0 v2 2 5) (fun v3 =>
  if v3 < 64 then
  zob (zgR h0 a0 4 10) (fun v4 =>
  zob (zgR h0 v4 6 12) (fun v5 =>
  zob (zgI h0 v5 2 5) (fun v6 =>
  zob (zpV h0 v5 2 5 (.int (v6 + 1))) (fun h7 =>
  some ((), h7)))))
  else
  zbd (zcv 4 a0 h0 (f_X4_fail a0 2 h0)) (fun v9 h8 =>
  some ((), h8)))))
set_option maxRecDepth 100000 in
set_option maxHeartbeats 4000000 in
theorem t_X4_countKnot (a0 : Nat) (h0 : zHp) : ∀ (r : Unit) (h' : zHp), f_X4_countKnot a0 h0 = some (r, h') → zCt yX4_countKnot (.code yX4_countKnot cX4_countKnot 1 none) 3 103 0 0 [.ref a0] h0 (none) h' := by
  refine zct_of M_X4_countKnot yX4_countKnot (by decide) rfl rfl [.ref a0] h0 (Nat.le_of_ble_eq_true rfl) (fun _ => none) (fun X => ?_)
  show zG X M_X4_countKnot (0, 0) 0 [(0, .ref a0)] [] h0 (f_X4_countKnot a0 h0) (fun (_ : Unit) h' => zKe X (none) h')
  unfold f_X4_countKnot
  refine zg_aload_n 0 rfl d_X4_countKnot_0 ?_
  refine zg_getR d_X4_countKnot_1 zc_4 (by decide) fl_X4_22 (fun v1 => ?_)
  refine zg_getR d_X4_countKnot_4 zc_6 (by decide) fl_X4_218 (fun v2 => ?_)
  refine zg_getI d_X4_countKnot_7 zc_2 (by decide) fl_X4_252 (fun v3 => ?_)
  refine zg_bipush 64 rfl d_X4_countKnot_10 ?_
  refine zg_icmp_lt d_X4_countKnot_12 ?_ ?_
  · refine zg_aload_n 0 rfl d_X4_countKnot_23 ?_
    refine zg_getR d_X4_countKnot_24 zc_4 (by decide) fl_X4_22 (fun v4 => ?_)
    refine zg_getR d_X4_countKnot_27 zc_6 (by decide) fl_X4_218 (fun v5 => ?_)
    refine zg_dup rfl d_X4_countKnot_30 ?_
    refine zg_getI d_X4_countKnot_31 zc_2 (by decide) fl_X4_252 (fun v6 => ?_)
    refine zg_iconst 1 rfl d_X4_countKnot_34 ?_
    refine zg_iadd d_X4_countKnot_35 ?_
    refine zg_putV d_X4_countKnot_36 zc_2 (by decide) fl_X4_252 rfl rfl rfl (fun h7 => ?_)
    exact zg_vretK d_X4_countKnot_39 rfl ⟨Nat.le_of_ble_eq_true rfl, Nat.le_of_ble_eq_true rfl⟩ (fun q => q)
  · refine zg_aload_n 0 rfl d_X4_countKnot_15 ?_
    refine zg_iconst 2 rfl d_X4_countKnot_16 ?_
    refine zg_cVv (b := a0) (As := [.int 2]) (rest := []) (0, 0) d_X4_countKnot_17 zc_4 rfl cw_X4_82 wi_X4_fail ws_X4_fail rfl rfl (Nat.le_of_ble_eq_true rfl) (by decide) (by decide) ⟨by decide, by decide⟩ rfl (t_X4_fail a0 2 h0) (fun v9 h8 => ?_)
    refine zg_goto d_X4_countKnot_20 ?_
    exact zg_vretK d_X4_countKnot_39 rfl ⟨Nat.le_of_ble_eq_true rfl, Nat.le_of_ble_eq_true rfl⟩ (fun q => q)
abbrev M_X4_expect : zMt := (RX4, cX4_expect, 2, 3, 103, none, "expect", 0, 0)
theorem d_X4_expect_0 : zDc M_X4_expect 0 (.aload_n 0) 1 1 := ⟨by decide +kernel, rfl⟩
theorem d_X4_expect_1 : zDc M_X4_expect 1 (.getfield 65) 3 4 := ⟨by decide +kernel, rfl⟩
theorem d_X4_expect_4 : zDc M_X4_expect 4 (.iload_n 1) 1 5 := ⟨by decide +kernel, rfl⟩
theorem d_X4_expect_5 : zDj M_X4_expect 5 (.if_icmp .ne 10) 10 8 15 := ⟨by decide +kernel, rfl, by decide⟩
theorem d_X4_expect_8 : zDc M_X4_expect 8 (.aload_n 0) 1 9 := ⟨by decide +kernel, rfl⟩
theorem d_X4_expect_9 : zDc M_X4_expect 9 (.invokevirtual 62) 3 12 := ⟨by decide +kernel, rfl⟩
theorem d_X4_expect_12 : zDj M_X4_expect 12 (.goto 8) 8 15 20 := ⟨by decide +kernel, rfl, by decide⟩
theorem d_X4_expect_15 : zDc M_X4_expect 15 (.aload_n 0) 1 16 := ⟨by decide +kernel, rfl⟩
theorem d_X4_expect_16 : zDc M_X4_expect 16 (.iconst 1) 1 17 := ⟨by decide +kernel, rfl⟩
theorem d_X4_expect_17 : zDc M_X4_expect 17 (.invokevirtual 82) 3 20 := ⟨by decide +kernel, rfl⟩
theorem d_X4_expect_20 : zDc M_X4_expect 20 (.return_) 1 21 := ⟨by decide +kernel, rfl⟩
def f_X4_expect (a0 : Nat) (a1 : Int32) (h0 : zHp) : Option (Unit × zHp) :=
  zob (zgI h0 a0 4 4) (fun v1 =>
  if v1 = a1 then
  zbd (zcv 4 a0 h0 (f_X4_advance a0 h0)) (fun v3 h2 =>
  some ((), h2))
  else
  zbd (zcv 4 a0 h0 (f_X4_fail a0 1 h0)) (fun v5 h4 =>
  some ((), h4)))
set_option maxRecDepth 100000 in
set_option maxHeartbeats 4000000 in
theorem t_X4_expect (a0 : Nat) (a1 : Int32) (h0 : zHp) : ∀ (r : Unit) (h' : zHp), f_X4_expect a0 a1 h0 = some (r, h') → zCt yX4_expect (.code yX4_expect cX4_expect 2 none) 3 103 0 0 [.ref a0, .int a1] h0 (none) h' := by
  refine zct_of M_X4_expect yX4_expect (by decide) rfl rfl [.ref a0, .int a1] h0 (Nat.le_of_ble_eq_true rfl) (fun _ => none) (fun X => ?_)
  show zG X M_X4_expect (0, 0) 0 [(0, .ref a0), (1, .int a1)] [] h0 (f_X4_expect a0 a1 h0) (fun (_ : Unit) h' => zKe X (none) h')
  unfold f_X4_expect
  refine zg_aload_n 0 rfl d_X4_expect_0 ?_
  refine zg_getI d_X4_expect_1 zc_4 (by decide) fl_X4_65 (fun v1 => ?_)
  refine zg_iload_n 1 rfl d_X4_expect_4 ?_
  refine zg_icmp_ne d_X4_expect_5 ?_ ?_
  · refine zg_aload_n 0 rfl d_X4_expect_8 ?_
    refine zg_cVv (b := a0) (As := []) (rest := []) (0, 0) d_X4_expect_9 zc_4 rfl cw_X4_62 wi_X4_advance ws_X4_advance rfl rfl (Nat.le_of_ble_eq_true rfl) (by decide) (by decide) ⟨by decide, by decide⟩ rfl (t_X4_advance a0 h0) (fun v3 h2 => ?_)
    refine zg_goto d_X4_expect_12 ?_
    exact zg_vretK d_X4_expect_20 rfl ⟨Nat.le_of_ble_eq_true rfl, Nat.le_of_ble_eq_true rfl⟩ (fun q => q)
  · refine zg_aload_n 0 rfl d_X4_expect_15 ?_
    refine zg_iconst 1 rfl d_X4_expect_16 ?_
    refine zg_cVv (b := a0) (As := [.int 1]) (rest := []) (0, 0) d_X4_expect_17 zc_4 rfl cw_X4_82 wi_X4_fail ws_X4_fail rfl rfl (Nat.le_of_ble_eq_true rfl) (by decide) (by decide) ⟨by decide, by decide⟩ rfl (t_X4_fail a0 1 h0) (fun v5 h4 => ?_)
    exact zg_vretK d_X4_expect_20 rfl ⟨Nat.le_of_ble_eq_true rfl, Nat.le_of_ble_eq_true rfl⟩ (fun q => q)
abbrev M_X4_hasRoom : zMt := (RX4, cX4_hasRoom, 3, 3, 103, (some .boolean), "hasRoom", 0, 0)
theorem d_X4_hasRoom_0 : zDc M_X4_hasRoom 0 (.iload_n 1) 1 1 := ⟨by decide +kernel, rfl⟩
theorem d_X4_hasRoom_1 : zDc M_X4_hasRoom 1 (.iload_n 2) 1 2 := ⟨by decide +kernel, rfl⟩
theorem d_X4_hasRoom_2 : zDj M_X4_hasRoom 2 (.if_icmp .lt 10) 10 5 12 := ⟨by decide +kernel, rfl, by decide⟩
theorem d_X4_hasRoom_5 : zDc M_X4_hasRoom 5 (.aload_n 0) 1 6 := ⟨by decide +kernel, rfl⟩
theorem d_X4_hasRoom_6 : zDc M_X4_hasRoom 6 (.iconst 2) 1 7 := ⟨by decide +kernel, rfl⟩
theorem d_X4_hasRoom_7 : zDc M_X4_hasRoom 7 (.invokevirtual 82) 3 10 := ⟨by decide +kernel, rfl⟩
theorem d_X4_hasRoom_10 : zDc M_X4_hasRoom 10 (.iconst 0) 1 11 := ⟨by decide +kernel, rfl⟩
theorem d_X4_hasRoom_11 : zDc M_X4_hasRoom 11 (.ireturn) 1 12 := ⟨by decide +kernel, rfl⟩
theorem d_X4_hasRoom_12 : zDc M_X4_hasRoom 12 (.aload_n 0) 1 13 := ⟨by decide +kernel, rfl⟩
theorem d_X4_hasRoom_13 : zDc M_X4_hasRoom 13 (.invokevirtual 62) 3 16 := ⟨by decide +kernel, rfl⟩
theorem d_X4_hasRoom_16 : zDc M_X4_hasRoom 16 (.iconst 1) 1 17 := ⟨by decide +kernel, rfl⟩
theorem d_X4_hasRoom_17 : zDc M_X4_hasRoom 17 (.ireturn) 1 18 := ⟨by decide +kernel, rfl⟩
def f_X4_hasRoom (a0 : Nat) (a1 : Int32) (a2 : Int32) (h0 : zHp) : Option (Int32 × zHp) :=
  if a1 < a2 then
  zbd (zcv 4 a0 h0 (f_X4_advance a0 h0)) (fun v2 h1 =>
  some (1, h1))
  else
  zbd (zcv 4 a0 h0 (f_X4_fail a0 2 h0)) (fun v4 h3 =>
  some (0, h3))
set_option maxRecDepth 100000 in
set_option maxHeartbeats 4000000 in
theorem t_X4_hasRoom (a0 : Nat) (a1 : Int32) (a2 : Int32) (h0 : zHp) : ∀ (r : Int32) (h' : zHp), f_X4_hasRoom a0 a1 a2 h0 = some (r, h') → zCt yX4_hasRoom (.code yX4_hasRoom cX4_hasRoom 3 (some .boolean)) 3 103 0 0 [.ref a0, .int a1, .int a2] h0 (some (.int r)) h' := by
  refine zct_of M_X4_hasRoom yX4_hasRoom (by decide) rfl rfl [.ref a0, .int a1, .int a2] h0 (Nat.le_of_ble_eq_true rfl) (fun r => some (.int r)) (fun X => ?_)
  show zG X M_X4_hasRoom (0, 0) 0 [(0, .ref a0), (1, .int a1), (2, .int a2)] [] h0 (f_X4_hasRoom a0 a1 a2 h0) (fun (r : Int32) h' => zKe X (some (.int r)) h')
  unfold f_X4_hasRoom
  refine zg_iload_n 1 rfl d_X4_hasRoom_0 ?_
  refine zg_iload_n 2 rfl d_X4_hasRoom_1 ?_
  refine zg_icmp_lt d_X4_hasRoom_2 ?_ ?_
  · refine zg_aload_n 0 rfl d_X4_hasRoom_12 ?_
    refine zg_cVv (b := a0) (As := []) (rest := []) (0, 0) d_X4_hasRoom_13 zc_4 rfl cw_X4_62 wi_X4_advance ws_X4_advance rfl rfl (Nat.le_of_ble_eq_true rfl) (by decide) (by decide) ⟨by decide, by decide⟩ rfl (t_X4_advance a0 h0) (fun v2 h1 => ?_)
    refine zg_iconst 1 rfl d_X4_hasRoom_16 ?_
    exact zg_zretK d_X4_hasRoom_17 rfl ⟨Nat.le_of_ble_eq_true rfl, Nat.le_of_ble_eq_true rfl⟩ (Or.inr rfl) (fun q => q)
  · refine zg_aload_n 0 rfl d_X4_hasRoom_5 ?_
    refine zg_iconst 2 rfl d_X4_hasRoom_6 ?_
    refine zg_cVv (b := a0) (As := [.int 2]) (rest := []) (0, 0) d_X4_hasRoom_7 zc_4 rfl cw_X4_82 wi_X4_fail ws_X4_fail rfl rfl (Nat.le_of_ble_eq_true rfl) (by decide) (by decide) ⟨by decide, by decide⟩ rfl (t_X4_fail a0 2 h0) (fun v4 h3 => ?_)
    refine zg_iconst 0 rfl d_X4_hasRoom_10 ?_
    exact zg_zretK d_X4_hasRoom_11 rfl ⟨Nat.le_of_ble_eq_true rfl, Nat.le_of_ble_eq_true rfl⟩ (Or.inl rfl) (fun q => q)
abbrev M_X4_letWait : zMt := (RX4, cX4_letWait, 2, 1, 60, none, "letWait", 0, 0)
theorem d_X4_letWait_0 : zDc M_X4_letWait 0 (.aload_n 0) 1 1 := ⟨by decide +kernel, rfl⟩
theorem d_X4_letWait_1 : zDc M_X4_letWait 1 (.getfield 230) 3 4 := ⟨by decide +kernel, rfl⟩
theorem d_X4_letWait_4 : zDc M_X4_letWait 4 (.aload_n 0) 1 5 := ⟨by decide +kernel, rfl⟩
theorem d_X4_letWait_5 : zDc M_X4_letWait 5 (.getfield 26) 3 8 := ⟨by decide +kernel, rfl⟩
theorem d_X4_letWait_8 : zDc M_X4_letWait 8 (.arraylength) 1 9 := ⟨by decide +kernel, rfl⟩
theorem d_X4_letWait_9 : zDj M_X4_letWait 9 (.if_icmp .ge 23) 23 12 32 := ⟨by decide +kernel, rfl, by decide⟩
theorem d_X4_letWait_12 : zDc M_X4_letWait 12 (.aload_n 0) 1 13 := ⟨by decide +kernel, rfl⟩
theorem d_X4_letWait_13 : zDc M_X4_letWait 13 (.getfield 26) 3 16 := ⟨by decide +kernel, rfl⟩
theorem d_X4_letWait_16 : zDc M_X4_letWait 16 (.aload_n 0) 1 17 := ⟨by decide +kernel, rfl⟩
theorem d_X4_letWait_17 : zDc M_X4_letWait 17 (.getfield 230) 3 20 := ⟨by decide +kernel, rfl⟩
theorem d_X4_letWait_20 : zDc M_X4_letWait 20 (.iload_n 1) 1 21 := ⟨by decide +kernel, rfl⟩
theorem d_X4_letWait_21 : zDc M_X4_letWait 21 (.iastore) 1 22 := ⟨by decide +kernel, rfl⟩
theorem d_X4_letWait_22 : zDc M_X4_letWait 22 (.aload_n 0) 1 23 := ⟨by decide +kernel, rfl⟩
theorem d_X4_letWait_23 : zDc M_X4_letWait 23 (.dup) 1 24 := ⟨by decide +kernel, rfl⟩
theorem d_X4_letWait_24 : zDc M_X4_letWait 24 (.getfield 230) 3 27 := ⟨by decide +kernel, rfl⟩
theorem d_X4_letWait_27 : zDc M_X4_letWait 27 (.iconst 1) 1 28 := ⟨by decide +kernel, rfl⟩
theorem d_X4_letWait_28 : zDc M_X4_letWait 28 (.iadd) 1 29 := ⟨by decide +kernel, rfl⟩
theorem d_X4_letWait_29 : zDc M_X4_letWait 29 (.putfield 230) 3 32 := ⟨by decide +kernel, rfl⟩
theorem d_X4_letWait_32 : zDc M_X4_letWait 32 (.return_) 1 33 := ⟨by decide +kernel, rfl⟩
def f_X4_letWait (a0 : Nat) (a1 : Int32) (h0 : zHp) : Option (Unit × zHp) :=
  zob (zgI h0 a0 4 12) (fun v1 =>
  zob (zgR h0 a0 4 11) (fun v2 =>
  zob (zln h0 v2) (fun v3 =>
  if v3 ≤ v1 then
  some ((), h0)
  else
  zob (zgR h0 a0 4 11) (fun v4 =>
  zob (zgI h0 a0 4 12) (fun v5 =>
  zob (zsI 0 h0 v4 v5 a1) (fun h6 =>
  zob (zgI h6 a0 4 12) (fun v7 =>
  zob (zpV h6 a0 4 12 (.int (v7 + 1))) (fun h8 =>
  some ((), h8)))))))))
set_option maxRecDepth 100000 in
set_option maxHeartbeats 4000000 in
theorem t_X4_letWait (a0 : Nat) (a1 : Int32) (h0 : zHp) : ∀ (r : Unit) (h' : zHp), f_X4_letWait a0 a1 h0 = some (r, h') → zCt yX4_letWait (.code yX4_letWait cX4_letWait 2 none) 1 60 0 0 [.ref a0, .int a1] h0 (none) h' := by
  refine zct_of M_X4_letWait yX4_letWait (by decide) rfl rfl [.ref a0, .int a1] h0 (Nat.le_of_ble_eq_true rfl) (fun _ => none) (fun X => ?_)
  show zG X M_X4_letWait (0, 0) 0 [(0, .ref a0), (1, .int a1)] [] h0 (f_X4_letWait a0 a1 h0) (fun (_ : Unit) h' => zKe X (none) h')
  unfold f_X4_letWait
  refine zg_aload_n 0 rfl d_X4_letWait_0 ?_
  refine zg_getI d_X4_letWait_1 zc_4 (by decide) fl_X4_230 (fun v1 => ?_)
  refine zg_aload_n 0 rfl d_X4_letWait_4 ?_
  refine zg_getR d_X4_letWait_5 zc_4 (by decide) fl_X4_26 (fun v2 => ?_)
  refine zg_len d_X4_letWait_8 (fun v3 => ?_)
  refine zg_icmp_ge d_X4_letWait_9 ?_ ?_
  · exact zg_vretK d_X4_letWait_32 rfl ⟨Nat.le_of_ble_eq_true rfl, Nat.le_of_ble_eq_true rfl⟩ (fun q => q)
  · refine zg_aload_n 0 rfl d_X4_letWait_12 ?_
    refine zg_getR d_X4_letWait_13 zc_4 (by decide) fl_X4_26 (fun v4 => ?_)
    refine zg_aload_n 0 rfl d_X4_letWait_16 ?_
    refine zg_getI d_X4_letWait_17 zc_4 (by decide) fl_X4_230 (fun v5 => ?_)
    refine zg_iload_n 1 rfl d_X4_letWait_20 ?_
    refine zg_ast0 d_X4_letWait_21 (fun h6 => ?_)
    refine zg_aload_n 0 rfl d_X4_letWait_22 ?_
    refine zg_dup rfl d_X4_letWait_23 ?_
    refine zg_getI d_X4_letWait_24 zc_4 (by decide) fl_X4_230 (fun v7 => ?_)
    refine zg_iconst 1 rfl d_X4_letWait_27 ?_
    refine zg_iadd d_X4_letWait_28 ?_
    refine zg_putV d_X4_letWait_29 zc_4 (by decide) fl_X4_230 rfl rfl rfl (fun h8 => ?_)
    exact zg_vretK d_X4_letWait_32 rfl ⟨Nat.le_of_ble_eq_true rfl, Nat.le_of_ble_eq_true rfl⟩ (fun q => q)
abbrev M_X4_rankOf : zMt := (RX4, cX4_rankOf, 1, 1, 60, (some .int), "rankOf", 0, 0)
theorem d_X4_rankOf_0 : zDc M_X4_rankOf 0 (.iload_n 0) 1 1 := ⟨by decide +kernel, rfl⟩
theorem d_X4_rankOf_1 : decode M_X4_rankOf.2.1 1 = .ok (.tableswitch 108 13 32 #[95, 97, 99, 108, 108, 108, 108, 108, 108, 108, 103, 103, 105, 105, 101, 101, 101, 101, 101, 101], 95) := by decide +kernel
theorem d_X4_rankOf_96 : zDc M_X4_rankOf 96 (.iconst 1) 1 97 := ⟨by decide +kernel, rfl⟩
theorem d_X4_rankOf_97 : zDc M_X4_rankOf 97 (.ireturn) 1 98 := ⟨by decide +kernel, rfl⟩
theorem d_X4_rankOf_98 : zDc M_X4_rankOf 98 (.iconst 2) 1 99 := ⟨by decide +kernel, rfl⟩
theorem d_X4_rankOf_99 : zDc M_X4_rankOf 99 (.ireturn) 1 100 := ⟨by decide +kernel, rfl⟩
theorem d_X4_rankOf_100 : zDc M_X4_rankOf 100 (.iconst 3) 1 101 := ⟨by decide +kernel, rfl⟩
theorem d_X4_rankOf_101 : zDc M_X4_rankOf 101 (.ireturn) 1 102 := ⟨by decide +kernel, rfl⟩
theorem d_X4_rankOf_102 : zDc M_X4_rankOf 102 (.iconst 4) 1 103 := ⟨by decide +kernel, rfl⟩
theorem d_X4_rankOf_103 : zDc M_X4_rankOf 103 (.ireturn) 1 104 := ⟨by decide +kernel, rfl⟩
theorem d_X4_rankOf_104 : zDc M_X4_rankOf 104 (.iconst 5) 1 105 := ⟨by decide +kernel, rfl⟩
theorem d_X4_rankOf_105 : zDc M_X4_rankOf 105 (.ireturn) 1 106 := ⟨by decide +kernel, rfl⟩
theorem d_X4_rankOf_106 : zDc M_X4_rankOf 106 (.bipush 6) 2 108 := ⟨by decide +kernel, rfl⟩
theorem d_X4_rankOf_108 : zDc M_X4_rankOf 108 (.ireturn) 1 109 := ⟨by decide +kernel, rfl⟩
theorem d_X4_rankOf_109 : zDc M_X4_rankOf 109 (.iconst 0) 1 110 := ⟨by decide +kernel, rfl⟩
theorem d_X4_rankOf_110 : zDc M_X4_rankOf 110 (.ireturn) 1 111 := ⟨by decide +kernel, rfl⟩
def f_X4_rankOf (a0 : Int32) (h0 : zHp) : Option (Int32 × zHp) :=
  if a0 = 13 then
  some (1, h0)
  else if a0 = 14 then
  some (2, h0)
  else if a0 = 15 then
  some (3, h0)
  else if a0 = 16 then
  some (0, h0)
  else if a0 = 17 then
  some (0, h0)
  else if a0 = 18 then
  some (0, h0)
  else if a0 = 19 then
  some (0, h0)
  else if a0 = 20 then
  some (0, h0)
  else if a0 = 21 then
  some (0, h0)
  else if a0 = 22 then
  some (0, h0)
  else if a0 = 23 then
  some (5, h0)
  else if a0 = 24 then
  some (5, h0)
  else if a0 = 25 then
  some (6, h0)
  else if a0 = 26 then
  some (6, h0)
  else if a0 = 27 then
  some (4, h0)
  else if a0 = 28 then
  some (4, h0)
  else if a0 = 29 then
  some (4, h0)
  else if a0 = 30 then
  some (4, h0)
  else if a0 = 31 then
  some (4, h0)
  else if a0 = 32 then
  some (4, h0)
  else 
  some (0, h0)
set_option maxRecDepth 100000 in
set_option maxHeartbeats 4000000 in
theorem t_X4_rankOf (a0 : Int32) (h0 : zHp) : ∀ (r : Int32) (h' : zHp), f_X4_rankOf a0 h0 = some (r, h') → zCt yX4_rankOf (.code yX4_rankOf cX4_rankOf 1 (some .int)) 1 60 0 0 [.int a0] h0 (some (.int r)) h' := by
  refine zct_of M_X4_rankOf yX4_rankOf (by decide) rfl rfl [.int a0] h0 (Nat.le_of_ble_eq_true rfl) (fun r => some (.int r)) (fun X => ?_)
  show zG X M_X4_rankOf (0, 0) 0 [(0, .int a0)] [] h0 (f_X4_rankOf a0 h0) (fun (r : Int32) h' => zKe X (some (.int r)) h')
  unfold f_X4_rankOf
  refine zg_iload_n 0 rfl d_X4_rankOf_0 ?_
  refine zg_if (fun n1 => ?_) (fun n1 => ?_)
  · refine zg_tabE n1 d_X4_rankOf_1 (by decide) (by decide) (off := 95) rfl (tgt := 96) (by decide) ?_
    refine zg_iconst 1 rfl d_X4_rankOf_96 ?_
    exact zg_iretK d_X4_rankOf_97 rfl ⟨Nat.le_of_ble_eq_true rfl, Nat.le_of_ble_eq_true rfl⟩ (fun q => q)
  refine zg_if (fun n2 => ?_) (fun n2 => ?_)
  · refine zg_tabE n2 d_X4_rankOf_1 (by decide) (by decide) (off := 97) rfl (tgt := 98) (by decide) ?_
    refine zg_iconst 2 rfl d_X4_rankOf_98 ?_
    exact zg_iretK d_X4_rankOf_99 rfl ⟨Nat.le_of_ble_eq_true rfl, Nat.le_of_ble_eq_true rfl⟩ (fun q => q)
  refine zg_if (fun n3 => ?_) (fun n3 => ?_)
  · refine zg_tabE n3 d_X4_rankOf_1 (by decide) (by decide) (off := 99) rfl (tgt := 100) (by decide) ?_
    refine zg_iconst 3 rfl d_X4_rankOf_100 ?_
    exact zg_iretK d_X4_rankOf_101 rfl ⟨Nat.le_of_ble_eq_true rfl, Nat.le_of_ble_eq_true rfl⟩ (fun q => q)
  refine zg_if (fun n4 => ?_) (fun n4 => ?_)
  · refine zg_tabE n4 d_X4_rankOf_1 (by decide) (by decide) (off := 108) rfl (tgt := 109) (by decide) ?_
    refine zg_iconst 0 rfl d_X4_rankOf_109 ?_
    exact zg_iretK d_X4_rankOf_110 rfl ⟨Nat.le_of_ble_eq_true rfl, Nat.le_of_ble_eq_true rfl⟩ (fun q => q)
  refine zg_if (fun n5 => ?_) (fun n5 => ?_)
  · refine zg_tabE n5 d_X4_rankOf_1 (by decide) (by decide) (off := 108) rfl (tgt := 109) (by decide) ?_
    refine zg_iconst 0 rfl d_X4_rankOf_109 ?_
    exact zg_iretK d_X4_rankOf_110 rfl ⟨Nat.le_of_ble_eq_true rfl, Nat.le_of_ble_eq_true rfl⟩ (fun q => q)
  refine zg_if (fun n6 => ?_) (fun n6 => ?_)
  · refine zg_tabE n6 d_X4_rankOf_1 (by decide) (by decide) (off := 108) rfl (tgt := 109) (by decide) ?_
    refine zg_iconst 0 rfl d_X4_rankOf_109 ?_
    exact zg_iretK d_X4_rankOf_110 rfl ⟨Nat.le_of_ble_eq_true rfl, Nat.le_of_ble_eq_true rfl⟩ (fun q => q)
  refine zg_if (fun n7 => ?_) (fun n7 => ?_)
  · refine zg_tabE n7 d_X4_rankOf_1 (by decide) (by decide) (off := 108) rfl (tgt := 109) (by decide) ?_
    refine zg_iconst 0 rfl d_X4_rankOf_109 ?_
    exact zg_iretK d_X4_rankOf_110 rfl ⟨Nat.le_of_ble_eq_true rfl, Nat.le_of_ble_eq_true rfl⟩ (fun q => q)
  refine zg_if (fun n8 => ?_) (fun n8 => ?_)
  · refine zg_tabE n8 d_X4_rankOf_1 (by decide) (by decide) (off := 108) rfl (tgt := 109) (by decide) ?_
    refine zg_iconst 0 rfl d_X4_rankOf_109 ?_
    exact zg_iretK d_X4_rankOf_110 rfl ⟨Nat.le_of_ble_eq_true rfl, Nat.le_of_ble_eq_true rfl⟩ (fun q => q)
  refine zg_if (fun n9 => ?_) (fun n9 => ?_)
  · refine zg_tabE n9 d_X4_rankOf_1 (by decide) (by decide) (off := 108) rfl (tgt := 109) (by decide) ?_
    refine zg_iconst 0 rfl d_X4_rankOf_109 ?_
    exact zg_iretK d_X4_rankOf_110 rfl ⟨Nat.le_of_ble_eq_true rfl, Nat.le_of_ble_eq_true rfl⟩ (fun q => q)
  refine zg_if (fun n10 => ?_) (fun n10 => ?_)
  · refine zg_tabE n10 d_X4_rankOf_1 (by decide) (by decide) (off := 108) rfl (tgt := 109) (by decide) ?_
    refine zg_iconst 0 rfl d_X4_rankOf_109 ?_
    exact zg_iretK d_X4_rankOf_110 rfl ⟨Nat.le_of_ble_eq_true rfl, Nat.le_of_ble_eq_true rfl⟩ (fun q => q)
  refine zg_if (fun n11 => ?_) (fun n11 => ?_)
  · refine zg_tabE n11 d_X4_rankOf_1 (by decide) (by decide) (off := 103) rfl (tgt := 104) (by decide) ?_
    refine zg_iconst 5 rfl d_X4_rankOf_104 ?_
    exact zg_iretK d_X4_rankOf_105 rfl ⟨Nat.le_of_ble_eq_true rfl, Nat.le_of_ble_eq_true rfl⟩ (fun q => q)
  refine zg_if (fun n12 => ?_) (fun n12 => ?_)
  · refine zg_tabE n12 d_X4_rankOf_1 (by decide) (by decide) (off := 103) rfl (tgt := 104) (by decide) ?_
    refine zg_iconst 5 rfl d_X4_rankOf_104 ?_
    exact zg_iretK d_X4_rankOf_105 rfl ⟨Nat.le_of_ble_eq_true rfl, Nat.le_of_ble_eq_true rfl⟩ (fun q => q)
  refine zg_if (fun n13 => ?_) (fun n13 => ?_)
  · refine zg_tabE n13 d_X4_rankOf_1 (by decide) (by decide) (off := 105) rfl (tgt := 106) (by decide) ?_
    refine zg_bipush 6 rfl d_X4_rankOf_106 ?_
    exact zg_iretK d_X4_rankOf_108 rfl ⟨Nat.le_of_ble_eq_true rfl, Nat.le_of_ble_eq_true rfl⟩ (fun q => q)
  refine zg_if (fun n14 => ?_) (fun n14 => ?_)
  · refine zg_tabE n14 d_X4_rankOf_1 (by decide) (by decide) (off := 105) rfl (tgt := 106) (by decide) ?_
    refine zg_bipush 6 rfl d_X4_rankOf_106 ?_
    exact zg_iretK d_X4_rankOf_108 rfl ⟨Nat.le_of_ble_eq_true rfl, Nat.le_of_ble_eq_true rfl⟩ (fun q => q)
  refine zg_if (fun n15 => ?_) (fun n15 => ?_)
  · refine zg_tabE n15 d_X4_rankOf_1 (by decide) (by decide) (off := 101) rfl (tgt := 102) (by decide) ?_
    refine zg_iconst 4 rfl d_X4_rankOf_102 ?_
    exact zg_iretK d_X4_rankOf_103 rfl ⟨Nat.le_of_ble_eq_true rfl, Nat.le_of_ble_eq_true rfl⟩ (fun q => q)
  refine zg_if (fun n16 => ?_) (fun n16 => ?_)
  · refine zg_tabE n16 d_X4_rankOf_1 (by decide) (by decide) (off := 101) rfl (tgt := 102) (by decide) ?_
    refine zg_iconst 4 rfl d_X4_rankOf_102 ?_
    exact zg_iretK d_X4_rankOf_103 rfl ⟨Nat.le_of_ble_eq_true rfl, Nat.le_of_ble_eq_true rfl⟩ (fun q => q)
  refine zg_if (fun n17 => ?_) (fun n17 => ?_)
  · refine zg_tabE n17 d_X4_rankOf_1 (by decide) (by decide) (off := 101) rfl (tgt := 102) (by decide) ?_
    refine zg_iconst 4 rfl d_X4_rankOf_102 ?_
    exact zg_iretK d_X4_rankOf_103 rfl ⟨Nat.le_of_ble_eq_true rfl, Nat.le_of_ble_eq_true rfl⟩ (fun q => q)
  refine zg_if (fun n18 => ?_) (fun n18 => ?_)
  · refine zg_tabE n18 d_X4_rankOf_1 (by decide) (by decide) (off := 101) rfl (tgt := 102) (by decide) ?_
    refine zg_iconst 4 rfl d_X4_rankOf_102 ?_
    exact zg_iretK d_X4_rankOf_103 rfl ⟨Nat.le_of_ble_eq_true rfl, Nat.le_of_ble_eq_true rfl⟩ (fun q => q)
  refine zg_if (fun n19 => ?_) (fun n19 => ?_)
  · refine zg_tabE n19 d_X4_rankOf_1 (by decide) (by decide) (off := 101) rfl (tgt := 102) (by decide) ?_
    refine zg_iconst 4 rfl d_X4_rankOf_102 ?_
    exact zg_iretK d_X4_rankOf_103 rfl ⟨Nat.le_of_ble_eq_true rfl, Nat.le_of_ble_eq_true rfl⟩ (fun q => q)
  refine zg_if (fun n20 => ?_) (fun n20 => ?_)
  · refine zg_tabE n20 d_X4_rankOf_1 (by decide) (by decide) (off := 101) rfl (tgt := 102) (by decide) ?_
    refine zg_iconst 4 rfl d_X4_rankOf_102 ?_
    exact zg_iretK d_X4_rankOf_103 rfl ⟨Nat.le_of_ble_eq_true rfl, Nat.le_of_ble_eq_true rfl⟩ (fun q => q)
  refine zg_tabO d_X4_rankOf_1 (by have q0 := lv_neT n1 (a := 13) rfl; have q1 := lv_neT n2 (a := 14) rfl; have q2 := lv_neT n3 (a := 15) rfl; have q3 := lv_neT n4 (a := 16) rfl; have q4 := lv_neT n5 (a := 17) rfl; have q5 := lv_neT n6 (a := 18) rfl; have q6 := lv_neT n7 (a := 19) rfl; have q7 := lv_neT n8 (a := 20) rfl; have q8 := lv_neT n9 (a := 21) rfl; have q9 := lv_neT n10 (a := 22) rfl; have q10 := lv_neT n11 (a := 23) rfl; have q11 := lv_neT n12 (a := 24) rfl; have q12 := lv_neT n13 (a := 25) rfl; have q13 := lv_neT n14 (a := 26) rfl; have q14 := lv_neT n15 (a := 27) rfl; have q15 := lv_neT n16 (a := 28) rfl; have q16 := lv_neT n17 (a := 29) rfl; have q17 := lv_neT n18 (a := 30) rfl; have q18 := lv_neT n19 (a := 31) rfl; have q19 := lv_neT n20 (a := 32) rfl; omega) (tgt := 109) (by decide) ?_
  refine zg_iconst 0 rfl d_X4_rankOf_109 ?_
  exact zg_iretK d_X4_rankOf_110 rfl ⟨Nat.le_of_ble_eq_true rfl, Nat.le_of_ble_eq_true rfl⟩ (fun q => q)
abbrev M_X4_mayTurn : zMt := (RX4, cX4_mayTurn, 1, 2, 80, (some .boolean), "mayTurn", 0, 0)
theorem d_X4_mayTurn_0 : zDc M_X4_mayTurn 0 (.aload_n 0) 1 1 := ⟨by decide +kernel, rfl⟩
theorem d_X4_mayTurn_1 : zDc M_X4_mayTurn 1 (.getfield 230) 3 4 := ⟨by decide +kernel, rfl⟩
theorem d_X4_mayTurn_4 : zDj M_X4_mayTurn 4 (.ifCond .eq 21) 21 7 25 := ⟨by decide +kernel, rfl, by decide⟩
theorem d_X4_mayTurn_7 : zDc M_X4_mayTurn 7 (.aload_n 0) 1 8 := ⟨by decide +kernel, rfl⟩
theorem d_X4_mayTurn_8 : zDc M_X4_mayTurn 8 (.getfield 26) 3 11 := ⟨by decide +kernel, rfl⟩
theorem d_X4_mayTurn_11 : zDc M_X4_mayTurn 11 (.aload_n 0) 1 12 := ⟨by decide +kernel, rfl⟩
theorem d_X4_mayTurn_12 : zDc M_X4_mayTurn 12 (.getfield 230) 3 15 := ⟨by decide +kernel, rfl⟩
theorem d_X4_mayTurn_15 : zDc M_X4_mayTurn 15 (.iconst 1) 1 16 := ⟨by decide +kernel, rfl⟩
theorem d_X4_mayTurn_16 : zDc M_X4_mayTurn 16 (.isub) 1 17 := ⟨by decide +kernel, rfl⟩
theorem d_X4_mayTurn_17 : zDc M_X4_mayTurn 17 (.iaload) 1 18 := ⟨by decide +kernel, rfl⟩
theorem d_X4_mayTurn_18 : zDc M_X4_mayTurn 18 (.invokestatic 267) 3 21 := ⟨by decide +kernel, rfl⟩
theorem d_X4_mayTurn_21 : zDc M_X4_mayTurn 21 (.iconst 4) 1 22 := ⟨by decide +kernel, rfl⟩
theorem d_X4_mayTurn_22 : zDj M_X4_mayTurn 22 (.if_icmp .ge 7) 7 25 29 := ⟨by decide +kernel, rfl, by decide⟩
theorem d_X4_mayTurn_25 : zDc M_X4_mayTurn 25 (.iconst 1) 1 26 := ⟨by decide +kernel, rfl⟩
theorem d_X4_mayTurn_26 : zDj M_X4_mayTurn 26 (.goto 4) 4 29 30 := ⟨by decide +kernel, rfl, by decide⟩
theorem d_X4_mayTurn_29 : zDc M_X4_mayTurn 29 (.iconst 0) 1 30 := ⟨by decide +kernel, rfl⟩
theorem d_X4_mayTurn_30 : zDc M_X4_mayTurn 30 (.ireturn) 1 31 := ⟨by decide +kernel, rfl⟩
def f_X4_mayTurn (a0 : Nat) (h0 : zHp) : Option (Int32 × zHp) :=
  zob (zgI h0 a0 4 12) (fun v1 =>
  if v1 = 0 then
  some (1, h0)
  else
  zob (zgR h0 a0 4 11) (fun v2 =>
  zob (zgI h0 a0 4 12) (fun v3 =>
  zob (zaI 0 h0 v2 (v3 - 1)) (fun v4 =>
  zbd ((f_X4_rankOf v4 h0)) (fun v6 h5 =>
  if 4 ≤ v6 then
  some (0, h5)
  else
  some (1, h5))))))
set_option maxRecDepth 100000 in
set_option maxHeartbeats 4000000 in
theorem t_X4_mayTurn (a0 : Nat) (h0 : zHp) : ∀ (r : Int32) (h' : zHp), f_X4_mayTurn a0 h0 = some (r, h') → zCt yX4_mayTurn (.code yX4_mayTurn cX4_mayTurn 1 (some .boolean)) 2 80 0 0 [.ref a0] h0 (some (.int r)) h' := by
  refine zct_of M_X4_mayTurn yX4_mayTurn (by decide) rfl rfl [.ref a0] h0 (Nat.le_of_ble_eq_true rfl) (fun r => some (.int r)) (fun X => ?_)
  show zG X M_X4_mayTurn (0, 0) 0 [(0, .ref a0)] [] h0 (f_X4_mayTurn a0 h0) (fun (r : Int32) h' => zKe X (some (.int r)) h')
  unfold f_X4_mayTurn
  refine zg_aload_n 0 rfl d_X4_mayTurn_0 ?_
  refine zg_getI d_X4_mayTurn_1 zc_4 (by decide) fl_X4_230 (fun v1 => ?_)
  refine zg_if_eq d_X4_mayTurn_4 ?_ ?_
  · refine zg_iconst 1 rfl d_X4_mayTurn_25 ?_
    refine zg_goto d_X4_mayTurn_26 ?_
    exact zg_zretK d_X4_mayTurn_30 rfl ⟨Nat.le_of_ble_eq_true rfl, Nat.le_of_ble_eq_true rfl⟩ (Or.inr rfl) (fun q => q)
  · refine zg_aload_n 0 rfl d_X4_mayTurn_7 ?_
    refine zg_getR d_X4_mayTurn_8 zc_4 (by decide) fl_X4_26 (fun v2 => ?_)
    refine zg_aload_n 0 rfl d_X4_mayTurn_11 ?_
    refine zg_getI d_X4_mayTurn_12 zc_4 (by decide) fl_X4_230 (fun v3 => ?_)
    refine zg_iconst 1 rfl d_X4_mayTurn_15 ?_
    refine zg_isub d_X4_mayTurn_16 ?_
    refine zg_ald0 d_X4_mayTurn_17 (fun v4 => ?_)
    refine zg_cSi (As := [.int v4]) (rest := []) (0, 0) d_X4_mayTurn_18 cw_X4_267 wt_X4_rankOf rfl rfl (Nat.le_of_ble_eq_true rfl) (by decide) (by decide) ⟨by decide, by decide⟩ rfl (t_X4_rankOf v4 h0) (fun v6 h5 => ?_)
    refine zg_iconst 4 rfl d_X4_mayTurn_21 ?_
    refine zg_icmp_ge d_X4_mayTurn_22 ?_ ?_
    · refine zg_iconst 0 rfl d_X4_mayTurn_29 ?_
      exact zg_zretK d_X4_mayTurn_30 rfl ⟨Nat.le_of_ble_eq_true rfl, Nat.le_of_ble_eq_true rfl⟩ (Or.inl rfl) (fun q => q)
    · refine zg_iconst 1 rfl d_X4_mayTurn_25 ?_
      refine zg_goto d_X4_mayTurn_26 ?_
      exact zg_zretK d_X4_mayTurn_30 rfl ⟨Nat.le_of_ble_eq_true rfl, Nat.le_of_ble_eq_true rfl⟩ (Or.inr rfl) (fun q => q)
abbrev M_X4_openOne : zMt := (RX4, cX4_openOne, 1, 3, 103, none, "openOne", 0, 0)
theorem d_X4_openOne_0 : zDc M_X4_openOne 0 (.aload_n 0) 1 1 := ⟨by decide +kernel, rfl⟩
theorem d_X4_openOne_1 : zDc M_X4_openOne 1 (.getfield 233) 3 4 := ⟨by decide +kernel, rfl⟩
theorem d_X4_openOne_4 : zDc M_X4_openOne 4 (.bipush 8) 2 6 := ⟨by decide +kernel, rfl⟩
theorem d_X4_openOne_6 : zDj M_X4_openOne 6 (.if_icmp .lt 11) 11 9 17 := ⟨by decide +kernel, rfl, by decide⟩
theorem d_X4_openOne_9 : zDc M_X4_openOne 9 (.aload_n 0) 1 10 := ⟨by decide +kernel, rfl⟩
theorem d_X4_openOne_10 : zDc M_X4_openOne 10 (.iconst 2) 1 11 := ⟨by decide +kernel, rfl⟩
theorem d_X4_openOne_11 : zDc M_X4_openOne 11 (.invokevirtual 82) 3 14 := ⟨by decide +kernel, rfl⟩
theorem d_X4_openOne_14 : zDj M_X4_openOne 14 (.goto 13) 13 17 27 := ⟨by decide +kernel, rfl, by decide⟩
theorem d_X4_openOne_17 : zDc M_X4_openOne 17 (.aload_n 0) 1 18 := ⟨by decide +kernel, rfl⟩
theorem d_X4_openOne_18 : zDc M_X4_openOne 18 (.dup) 1 19 := ⟨by decide +kernel, rfl⟩
theorem d_X4_openOne_19 : zDc M_X4_openOne 19 (.getfield 233) 3 22 := ⟨by decide +kernel, rfl⟩
theorem d_X4_openOne_22 : zDc M_X4_openOne 22 (.iconst 1) 1 23 := ⟨by decide +kernel, rfl⟩
theorem d_X4_openOne_23 : zDc M_X4_openOne 23 (.iadd) 1 24 := ⟨by decide +kernel, rfl⟩
theorem d_X4_openOne_24 : zDc M_X4_openOne 24 (.putfield 233) 3 27 := ⟨by decide +kernel, rfl⟩
theorem d_X4_openOne_27 : zDc M_X4_openOne 27 (.return_) 1 28 := ⟨by decide +kernel, rfl⟩
def f_X4_openOne (a0 : Nat) (h0 : zHp) : Option (Unit × zHp) :=
  zob (zgI h0 a0 4 13) (fun v1 =>
  if v1 < 8 then
  zob (zgI h0 a0 4 13) (fun v2 =>
  zob (zpV h0 a0 4 13 (.int (v2 + 1))) (fun h3 =>
  some ((), h3)))
  else
  zbd (zcv 4 a0 h0 (f_X4_fail a0 2 h0)) (fun v5 h4 =>
  some ((), h4)))
set_option maxRecDepth 100000 in
set_option maxHeartbeats 4000000 in
theorem t_X4_openOne (a0 : Nat) (h0 : zHp) : ∀ (r : Unit) (h' : zHp), f_X4_openOne a0 h0 = some (r, h') → zCt yX4_openOne (.code yX4_openOne cX4_openOne 1 none) 3 103 0 0 [.ref a0] h0 (none) h' := by
  refine zct_of M_X4_openOne yX4_openOne (by decide) rfl rfl [.ref a0] h0 (Nat.le_of_ble_eq_true rfl) (fun _ => none) (fun X => ?_)
  show zG X M_X4_openOne (0, 0) 0 [(0, .ref a0)] [] h0 (f_X4_openOne a0 h0) (fun (_ : Unit) h' => zKe X (none) h')
  unfold f_X4_openOne
  refine zg_aload_n 0 rfl d_X4_openOne_0 ?_
  refine zg_getI d_X4_openOne_1 zc_4 (by decide) fl_X4_233 (fun v1 => ?_)
  refine zg_bipush 8 rfl d_X4_openOne_4 ?_
  refine zg_icmp_lt d_X4_openOne_6 ?_ ?_
  · refine zg_aload_n 0 rfl d_X4_openOne_17 ?_
    refine zg_dup rfl d_X4_openOne_18 ?_
    refine zg_getI d_X4_openOne_19 zc_4 (by decide) fl_X4_233 (fun v2 => ?_)
    refine zg_iconst 1 rfl d_X4_openOne_22 ?_
    refine zg_iadd d_X4_openOne_23 ?_
    refine zg_putV d_X4_openOne_24 zc_4 (by decide) fl_X4_233 rfl rfl rfl (fun h3 => ?_)
    exact zg_vretK d_X4_openOne_27 rfl ⟨Nat.le_of_ble_eq_true rfl, Nat.le_of_ble_eq_true rfl⟩ (fun q => q)
  · refine zg_aload_n 0 rfl d_X4_openOne_9 ?_
    refine zg_iconst 2 rfl d_X4_openOne_10 ?_
    refine zg_cVv (b := a0) (As := [.int 2]) (rest := []) (0, 0) d_X4_openOne_11 zc_4 rfl cw_X4_82 wi_X4_fail ws_X4_fail rfl rfl (Nat.le_of_ble_eq_true rfl) (by decide) (by decide) ⟨by decide, by decide⟩ rfl (t_X4_fail a0 2 h0) (fun v5 h4 => ?_)
    refine zg_goto d_X4_openOne_14 ?_
    exact zg_vretK d_X4_openOne_27 rfl ⟨Nat.le_of_ble_eq_true rfl, Nat.le_of_ble_eq_true rfl⟩ (fun q => q)
abbrev M_X4_placeAbove : zMt := (RX4, cX4_placeAbove, 2, 2, 81, none, "placeAbove", 0, 0)
theorem d_X4_placeAbove_0 : zDc M_X4_placeAbove 0 (.aload_n 0) 1 1 := ⟨by decide +kernel, rfl⟩
theorem d_X4_placeAbove_1 : zDc M_X4_placeAbove 1 (.getfield 230) 3 4 := ⟨by decide +kernel, rfl⟩
theorem d_X4_placeAbove_4 : zDj M_X4_placeAbove 4 (.ifCond .le 55) 55 7 59 := ⟨by decide +kernel, rfl, by decide⟩
theorem d_X4_placeAbove_7 : zDc M_X4_placeAbove 7 (.aload_n 0) 1 8 := ⟨by decide +kernel, rfl⟩
theorem d_X4_placeAbove_8 : zDc M_X4_placeAbove 8 (.getfield 26) 3 11 := ⟨by decide +kernel, rfl⟩
theorem d_X4_placeAbove_11 : zDc M_X4_placeAbove 11 (.aload_n 0) 1 12 := ⟨by decide +kernel, rfl⟩
theorem d_X4_placeAbove_12 : zDc M_X4_placeAbove 12 (.getfield 230) 3 15 := ⟨by decide +kernel, rfl⟩
theorem d_X4_placeAbove_15 : zDc M_X4_placeAbove 15 (.iconst 1) 1 16 := ⟨by decide +kernel, rfl⟩
theorem d_X4_placeAbove_16 : zDc M_X4_placeAbove 16 (.isub) 1 17 := ⟨by decide +kernel, rfl⟩
theorem d_X4_placeAbove_17 : zDc M_X4_placeAbove 17 (.iaload) 1 18 := ⟨by decide +kernel, rfl⟩
theorem d_X4_placeAbove_18 : zDc M_X4_placeAbove 18 (.invokestatic 267) 3 21 := ⟨by decide +kernel, rfl⟩
theorem d_X4_placeAbove_21 : zDc M_X4_placeAbove 21 (.iload_n 1) 1 22 := ⟨by decide +kernel, rfl⟩
theorem d_X4_placeAbove_22 : zDj M_X4_placeAbove 22 (.if_icmp .le 37) 37 25 59 := ⟨by decide +kernel, rfl, by decide⟩
theorem d_X4_placeAbove_25 : zDc M_X4_placeAbove 25 (.aload_n 0) 1 26 := ⟨by decide +kernel, rfl⟩
theorem d_X4_placeAbove_26 : zDc M_X4_placeAbove 26 (.dup) 1 27 := ⟨by decide +kernel, rfl⟩
theorem d_X4_placeAbove_27 : zDc M_X4_placeAbove 27 (.getfield 230) 3 30 := ⟨by decide +kernel, rfl⟩
theorem d_X4_placeAbove_30 : zDc M_X4_placeAbove 30 (.iconst 1) 1 31 := ⟨by decide +kernel, rfl⟩
theorem d_X4_placeAbove_31 : zDc M_X4_placeAbove 31 (.isub) 1 32 := ⟨by decide +kernel, rfl⟩
theorem d_X4_placeAbove_32 : zDc M_X4_placeAbove 32 (.putfield 230) 3 35 := ⟨by decide +kernel, rfl⟩
theorem d_X4_placeAbove_35 : zDc M_X4_placeAbove 35 (.aload_n 0) 1 36 := ⟨by decide +kernel, rfl⟩
theorem d_X4_placeAbove_36 : zDc M_X4_placeAbove 36 (.getfield 22) 3 39 := ⟨by decide +kernel, rfl⟩
theorem d_X4_placeAbove_39 : zDc M_X4_placeAbove 39 (.getfield 218) 3 42 := ⟨by decide +kernel, rfl⟩
theorem d_X4_placeAbove_42 : zDc M_X4_placeAbove 42 (.aload_n 0) 1 43 := ⟨by decide +kernel, rfl⟩
theorem d_X4_placeAbove_43 : zDc M_X4_placeAbove 43 (.getfield 26) 3 46 := ⟨by decide +kernel, rfl⟩
theorem d_X4_placeAbove_46 : zDc M_X4_placeAbove 46 (.aload_n 0) 1 47 := ⟨by decide +kernel, rfl⟩
theorem d_X4_placeAbove_47 : zDc M_X4_placeAbove 47 (.getfield 230) 3 50 := ⟨by decide +kernel, rfl⟩
theorem d_X4_placeAbove_50 : zDc M_X4_placeAbove 50 (.iaload) 1 51 := ⟨by decide +kernel, rfl⟩
theorem d_X4_placeAbove_51 : zDc M_X4_placeAbove 51 (.iconst (-1)) 1 52 := ⟨by decide +kernel, rfl⟩
theorem d_X4_placeAbove_52 : zDc M_X4_placeAbove 52 (.ixor) 1 53 := ⟨by decide +kernel, rfl⟩
theorem d_X4_placeAbove_53 : zDc M_X4_placeAbove 53 (.invokevirtual 271) 3 56 := ⟨by decide +kernel, rfl⟩
theorem d_X4_placeAbove_56 : zDj M_X4_placeAbove 56 (.goto (-56)) (-56) 59 0 := ⟨by decide +kernel, rfl, by decide⟩
theorem d_X4_placeAbove_59 : zDc M_X4_placeAbove 59 (.return_) 1 60 := ⟨by decide +kernel, rfl⟩
def f_X4_placeAbove (a0 : Nat) (a1 : Int32) (h0 : zHp) : Option (Unit × zHp) :=
  zbd (
  zlp (σ := Unit) (β := Unit) zLF (fun s1 h2 =>
  zob (zgI h2 a0 4 12) (fun v5 =>
  if v5 ≤ 0 then
  some ((.inr ()), h2)
  else
  zob (zgR h2 a0 4 11) (fun v6 =>
  zob (zgI h2 a0 4 12) (fun v7 =>
  zob (zaI 0 h2 v6 (v7 - 1)) (fun v8 =>
  zbd ((f_X4_rankOf v8 h2)) (fun v10 h9 =>
  if v10 ≤ a1 then
  some ((.inr ()), h9)
  else
  zob (zgI h9 a0 4 12) (fun v11 =>
  zob (zpV h9 a0 4 12 (.int (v11 - 1))) (fun h12 =>
  zob (zgR h12 a0 4 10) (fun v13 =>
  zob (zgR h12 v13 6 12) (fun v14 =>
  zob (zgR h12 a0 4 11) (fun v15 =>
  zob (zgI h12 a0 4 12) (fun v16 =>
  zob (zaI 0 h12 v15 v16) (fun v17 =>
  zbd (zcv 2 v14 h12 (f_X2_place v14 (v17 ^^^ (-1)) h12)) (fun v19 h18 =>
  some ((.inl ()), h18))))))))))))))) () h0) (fun e3 h4 =>
  some ((), h4))
set_option maxRecDepth 100000 in
set_option maxHeartbeats 4000000 in
theorem t_X4_placeAbove (a0 : Nat) (a1 : Int32) (h0 : zHp) : ∀ (r : Unit) (h' : zHp), f_X4_placeAbove a0 a1 h0 = some (r, h') → zCt yX4_placeAbove (.code yX4_placeAbove cX4_placeAbove 2 none) 2 81 0 0 [.ref a0, .int a1] h0 (none) h' := by
  refine zct_of M_X4_placeAbove yX4_placeAbove (by decide) rfl rfl [.ref a0, .int a1] h0 (Nat.le_of_ble_eq_true rfl) (fun _ => none) (fun X => ?_)
  show zG X M_X4_placeAbove (0, 0) 0 [(0, .ref a0), (1, .int a1)] [] h0 (f_X4_placeAbove a0 a1 h0) (fun (_ : Unit) h' => zKe X (none) h')
  unfold f_X4_placeAbove
  refine zg_bd (E := 59) (el := (fun (e3 : Unit) => [(0, .ref a0), (1, .int a1)])) (es := fun _ => []) (zg_sub [0, 1] rfl (zg_lp (el := (fun (s1 : Unit) => [(0, .ref a0), (1, .int a1)])) (fun s1 h2 => ?_) () h0)) (fun e3 h4 => ?_)
  · refine zg_aload_n 0 rfl d_X4_placeAbove_0 ?_
    refine zg_getI d_X4_placeAbove_1 zc_4 (by decide) fl_X4_230 (fun v5 => ?_)
    refine zg_if_le d_X4_placeAbove_4 ?_ ?_
    · exact zg_finK (E := 0) [0, 1] rfl rfl (fun q => q)
    · refine zg_aload_n 0 rfl d_X4_placeAbove_7 ?_
      refine zg_getR d_X4_placeAbove_8 zc_4 (by decide) fl_X4_26 (fun v6 => ?_)
      refine zg_aload_n 0 rfl d_X4_placeAbove_11 ?_
      refine zg_getI d_X4_placeAbove_12 zc_4 (by decide) fl_X4_230 (fun v7 => ?_)
      refine zg_iconst 1 rfl d_X4_placeAbove_15 ?_
      refine zg_isub d_X4_placeAbove_16 ?_
      refine zg_ald0 d_X4_placeAbove_17 (fun v8 => ?_)
      refine zg_cSi (As := [.int v8]) (rest := []) (0, 0) d_X4_placeAbove_18 cw_X4_267 wt_X4_rankOf rfl rfl (Nat.le_of_ble_eq_true rfl) (by decide) (by decide) ⟨by decide, by decide⟩ rfl (t_X4_rankOf v8 h2) (fun v10 h9 => ?_)
      refine zg_iload_n 1 rfl d_X4_placeAbove_21 ?_
      refine zg_icmp_le d_X4_placeAbove_22 ?_ ?_
      · exact zg_finK (E := 0) [0, 1] rfl rfl (fun q => q)
      · refine zg_aload_n 0 rfl d_X4_placeAbove_25 ?_
        refine zg_dup rfl d_X4_placeAbove_26 ?_
        refine zg_getI d_X4_placeAbove_27 zc_4 (by decide) fl_X4_230 (fun v11 => ?_)
        refine zg_iconst 1 rfl d_X4_placeAbove_30 ?_
        refine zg_isub d_X4_placeAbove_31 ?_
        refine zg_putV d_X4_placeAbove_32 zc_4 (by decide) fl_X4_230 rfl rfl rfl (fun h12 => ?_)
        refine zg_aload_n 0 rfl d_X4_placeAbove_35 ?_
        refine zg_getR d_X4_placeAbove_36 zc_4 (by decide) fl_X4_22 (fun v13 => ?_)
        refine zg_getR d_X4_placeAbove_39 zc_6 (by decide) fl_X4_218 (fun v14 => ?_)
        refine zg_aload_n 0 rfl d_X4_placeAbove_42 ?_
        refine zg_getR d_X4_placeAbove_43 zc_4 (by decide) fl_X4_26 (fun v15 => ?_)
        refine zg_aload_n 0 rfl d_X4_placeAbove_46 ?_
        refine zg_getI d_X4_placeAbove_47 zc_4 (by decide) fl_X4_230 (fun v16 => ?_)
        refine zg_ald0 d_X4_placeAbove_50 (fun v17 => ?_)
        refine zg_iconst (-1) rfl d_X4_placeAbove_51 ?_
        refine zg_ixor d_X4_placeAbove_52 ?_
        refine zg_cVv (b := v14) (As := [.int (v17 ^^^ (-1))]) (rest := []) (0, 0) d_X4_placeAbove_53 zc_2 rfl cw_X4_271 wi_X2_place ws_X2_place rfl rfl (Nat.le_of_ble_eq_true rfl) (by decide) (by decide) ⟨by decide, by decide⟩ rfl (t_X2_place v14 (v17 ^^^ (-1)) h12) (fun v19 h18 => ?_)
        refine zg_goto d_X4_placeAbove_56 ?_
        exact zg_finK (E := 0) [0, 1] rfl rfl (fun q => q)
  · exact zg_vretK d_X4_placeAbove_59 rfl ⟨Nat.le_of_ble_eq_true rfl, Nat.le_of_ble_eq_true rfl⟩ (fun q => q)
abbrev M_X4_readAheadOfPart : zMt := (RX4, cX4_readAheadOfPart, 2, 4, 123, none, "readAheadOfPart", 0, 0)
theorem d_X4_readAheadOfPart_0 : zDc M_X4_readAheadOfPart 0 (.iconst 0) 1 1 := ⟨by decide +kernel, rfl⟩
theorem d_X4_readAheadOfPart_1 : zDc M_X4_readAheadOfPart 1 (.istore_n 1) 1 2 := ⟨by decide +kernel, rfl⟩
theorem d_X4_readAheadOfPart_2 : zDc M_X4_readAheadOfPart 2 (.iload_n 1) 1 3 := ⟨by decide +kernel, rfl⟩
theorem d_X4_readAheadOfPart_3 : zDc M_X4_readAheadOfPart 3 (.bipush 72) 2 5 := ⟨by decide +kernel, rfl⟩
theorem d_X4_readAheadOfPart_5 : zDj M_X4_readAheadOfPart 5 (.if_icmp .gt 74) 74 8 79 := ⟨by decide +kernel, rfl, by decide⟩
theorem d_X4_readAheadOfPart_8 : zDc M_X4_readAheadOfPart 8 (.aload_n 0) 1 9 := ⟨by decide +kernel, rfl⟩
theorem d_X4_readAheadOfPart_9 : zDc M_X4_readAheadOfPart 9 (.getfield 65) 3 12 := ⟨by decide +kernel, rfl⟩
theorem d_X4_readAheadOfPart_12 : zDc M_X4_readAheadOfPart 12 (.bipush 33) 2 14 := ⟨by decide +kernel, rfl⟩
theorem d_X4_readAheadOfPart_14 : zDj M_X4_readAheadOfPart 14 (.if_icmp .eq 12) 12 17 26 := ⟨by decide +kernel, rfl, by decide⟩
theorem d_X4_readAheadOfPart_17 : zDc M_X4_readAheadOfPart 17 (.aload_n 0) 1 18 := ⟨by decide +kernel, rfl⟩
theorem d_X4_readAheadOfPart_18 : zDc M_X4_readAheadOfPart 18 (.getfield 65) 3 21 := ⟨by decide +kernel, rfl⟩
theorem d_X4_readAheadOfPart_21 : zDc M_X4_readAheadOfPart 21 (.bipush 15) 2 23 := ⟨by decide +kernel, rfl⟩
theorem d_X4_readAheadOfPart_23 : zDj M_X4_readAheadOfPart 23 (.if_icmp .ne 56) 56 26 79 := ⟨by decide +kernel, rfl, by decide⟩
theorem d_X4_readAheadOfPart_26 : zDc M_X4_readAheadOfPart 26 (.aload_n 0) 1 27 := ⟨by decide +kernel, rfl⟩
theorem d_X4_readAheadOfPart_27 : zDc M_X4_readAheadOfPart 27 (.getfield 65) 3 30 := ⟨by decide +kernel, rfl⟩
theorem d_X4_readAheadOfPart_30 : zDc M_X4_readAheadOfPart 30 (.bipush 33) 2 32 := ⟨by decide +kernel, rfl⟩
theorem d_X4_readAheadOfPart_32 : zDj M_X4_readAheadOfPart 32 (.if_icmp .ne 10) 10 35 42 := ⟨by decide +kernel, rfl, by decide⟩
theorem d_X4_readAheadOfPart_35 : zDc M_X4_readAheadOfPart 35 (.aload_n 0) 1 36 := ⟨by decide +kernel, rfl⟩
theorem d_X4_readAheadOfPart_36 : zDc M_X4_readAheadOfPart 36 (.invokevirtual 255) 3 39 := ⟨by decide +kernel, rfl⟩
theorem d_X4_readAheadOfPart_39 : zDj M_X4_readAheadOfPart 39 (.goto 22) 22 42 61 := ⟨by decide +kernel, rfl, by decide⟩
theorem d_X4_readAheadOfPart_42 : zDc M_X4_readAheadOfPart 42 (.aload_n 0) 1 43 := ⟨by decide +kernel, rfl⟩
theorem d_X4_readAheadOfPart_43 : zDc M_X4_readAheadOfPart 43 (.invokevirtual 258) 3 46 := ⟨by decide +kernel, rfl⟩
theorem d_X4_readAheadOfPart_46 : zDj M_X4_readAheadOfPart 46 (.ifCond .eq 10) 10 49 56 := ⟨by decide +kernel, rfl, by decide⟩
theorem d_X4_readAheadOfPart_49 : zDc M_X4_readAheadOfPart 49 (.aload_n 0) 1 50 := ⟨by decide +kernel, rfl⟩
theorem d_X4_readAheadOfPart_50 : zDc M_X4_readAheadOfPart 50 (.invokevirtual 261) 3 53 := ⟨by decide +kernel, rfl⟩
theorem d_X4_readAheadOfPart_53 : zDj M_X4_readAheadOfPart 53 (.goto 8) 8 56 61 := ⟨by decide +kernel, rfl, by decide⟩
theorem d_X4_readAheadOfPart_56 : zDc M_X4_readAheadOfPart 56 (.aload_n 0) 1 57 := ⟨by decide +kernel, rfl⟩
theorem d_X4_readAheadOfPart_57 : zDc M_X4_readAheadOfPart 57 (.iconst 1) 1 58 := ⟨by decide +kernel, rfl⟩
theorem d_X4_readAheadOfPart_58 : zDc M_X4_readAheadOfPart 58 (.invokevirtual 82) 3 61 := ⟨by decide +kernel, rfl⟩
theorem d_X4_readAheadOfPart_61 : zDc M_X4_readAheadOfPart 61 (.aload_n 0) 1 62 := ⟨by decide +kernel, rfl⟩
theorem d_X4_readAheadOfPart_62 : zDc M_X4_readAheadOfPart 62 (.aload_n 0) 1 63 := ⟨by decide +kernel, rfl⟩
theorem d_X4_readAheadOfPart_63 : zDc M_X4_readAheadOfPart 63 (.getfield 65) 3 66 := ⟨by decide +kernel, rfl⟩
theorem d_X4_readAheadOfPart_66 : zDc M_X4_readAheadOfPart 66 (.invokevirtual 264) 3 69 := ⟨by decide +kernel, rfl⟩
theorem d_X4_readAheadOfPart_69 : zDc M_X4_readAheadOfPart 69 (.aload_n 0) 1 70 := ⟨by decide +kernel, rfl⟩
theorem d_X4_readAheadOfPart_70 : zDc M_X4_readAheadOfPart 70 (.invokevirtual 62) 3 73 := ⟨by decide +kernel, rfl⟩
theorem d_X4_readAheadOfPart_73 : zDc M_X4_readAheadOfPart 73 (.iinc 1 1) 3 76 := ⟨by decide +kernel, rfl⟩
theorem d_X4_readAheadOfPart_76 : zDj M_X4_readAheadOfPart 76 (.goto (-74)) (-74) 79 2 := ⟨by decide +kernel, rfl, by decide⟩
theorem d_X4_readAheadOfPart_79 : zDc M_X4_readAheadOfPart 79 (.return_) 1 80 := ⟨by decide +kernel, rfl⟩
def f_X4_readAheadOfPart (a0 : Nat) (h0 : zHp) : Option (Unit × zHp) :=
  zbd (
  zlp (σ := Int32) (β := Int32) zLF (fun s1 h2 =>
  if 72 < s1 then
  some ((.inr s1), h2)
  else
  zob (zgI h2 a0 4 4) (fun v5 =>
  zbd (α := (Unit ⊕ (Int32 ⊕ Int32))) (
  if v5 = 33 then
  some ((.inl ()), h2)
  else
  zob (zgI h2 a0 4 4) (fun v6 =>
  if v6 = 15 then
  some ((.inl ()), h2)
  else
  some ((.inr (.inr s1)), h2))) (fun b25 h8 => zsl b25 (fun e7 =>
  zob (zgI h8 a0 4 4) (fun v9 =>
  zbd (α := Unit) (
  if v9 = 33 then
  zbd (zcv 4 a0 h8 (f_X4_openOne a0 h8)) (fun v11 h10 =>
  some ((), h10))
  else
  zbd (zcv 4 a0 h8 (f_X4_mayTurn a0 h8)) (fun v13 h12 =>
  if v13 = 0 then
  zbd (zcv 4 a0 h12 (f_X4_fail a0 1 h12)) (fun v15 h14 =>
  some ((), h14))
  else
  zbd (zcv 4 a0 h12 (f_X4_countKnot a0 h12)) (fun v17 h16 =>
  some ((), h16)))) (fun e18 h19 =>
  zob (zgI h19 a0 4 4) (fun v20 =>
  zbd (zcv 4 a0 h19 (f_X4_letWait a0 v20 h19)) (fun v22 h21 =>
  zbd (zcv 4 a0 h21 (f_X4_advance a0 h21)) (fun v24 h23 =>
  some ((.inl (s1 + 1)), h23))))))) (fun r => some (r, h8))))) 0 h0) (fun e3 h4 =>
  some ((), h4))
set_option maxRecDepth 100000 in
set_option maxHeartbeats 4000000 in
theorem t_X4_readAheadOfPart (a0 : Nat) (h0 : zHp) : ∀ (r : Unit) (h' : zHp), f_X4_readAheadOfPart a0 h0 = some (r, h') → zCt yX4_readAheadOfPart (.code yX4_readAheadOfPart cX4_readAheadOfPart 2 none) 4 123 0 0 [.ref a0] h0 (none) h' := by
  refine zct_of M_X4_readAheadOfPart yX4_readAheadOfPart (by decide) rfl rfl [.ref a0] h0 (Nat.le_of_ble_eq_true rfl) (fun _ => none) (fun X => ?_)
  show zG X M_X4_readAheadOfPart (0, 0) 0 [(0, .ref a0)] [] h0 (f_X4_readAheadOfPart a0 h0) (fun (_ : Unit) h' => zKe X (none) h')
  unfold f_X4_readAheadOfPart
  refine zg_iconst 0 rfl d_X4_readAheadOfPart_0 ?_
  refine zg_istore_n [(1, .int 0), (0, .ref a0)] d_X4_readAheadOfPart_1 rfl (by decide) rfl ?_
  refine zg_bd (E := 79) (el := (fun (e3 : Int32) => [(0, .ref a0), (1, .int e3)])) (es := fun _ => []) (zg_sub [1, 0] rfl (zg_lp (el := (fun (s1 : Int32) => [(0, .ref a0), (1, .int s1)])) (fun s1 h2 => ?_) 0 h0)) (fun e3 h4 => ?_)
  · refine zg_iload_n 1 rfl d_X4_readAheadOfPart_2 ?_
    refine zg_bipush 72 rfl d_X4_readAheadOfPart_3 ?_
    refine zg_icmp_gt d_X4_readAheadOfPart_5 ?_ ?_
    · exact zg_finK (E := 0) [0, 1] rfl rfl (fun q => q)
    · refine zg_aload_n 0 rfl d_X4_readAheadOfPart_8 ?_
      refine zg_getI d_X4_readAheadOfPart_9 zc_4 (by decide) fl_X4_65 (fun v5 => ?_)
      refine zg_bipush 33 rfl d_X4_readAheadOfPart_12 ?_
      refine zg_bdr (E := 26) (el := (fun (e7 : Unit) => [(0, .ref a0), (1, .int s1)])) (es := (fun (e7 : Unit) => [])) ?_ (fun e7 h8 => ?_)
      · refine zg_icmp_eq d_X4_readAheadOfPart_14 ?_ ?_
        · exact zg_finK (E := 0) [0, 1] rfl rfl (fun q => q)
        · refine zg_aload_n 0 rfl d_X4_readAheadOfPart_17 ?_
          refine zg_getI d_X4_readAheadOfPart_18 zc_4 (by decide) fl_X4_65 (fun v6 => ?_)
          refine zg_bipush 15 rfl d_X4_readAheadOfPart_21 ?_
          refine zg_icmp_ne d_X4_readAheadOfPart_23 ?_ ?_
          · exact zg_finK (E := 0) [0, 1] rfl rfl (fun q => q)
          · exact zg_finK (E := 0) [0, 1] rfl rfl (fun q => q)
      · refine zg_aload_n 0 rfl d_X4_readAheadOfPart_26 ?_
        refine zg_getI d_X4_readAheadOfPart_27 zc_4 (by decide) fl_X4_65 (fun v9 => ?_)
        refine zg_bipush 33 rfl d_X4_readAheadOfPart_30 ?_
        refine zg_bd (E := 61) (el := (fun (e18 : Unit) => [(0, .ref a0), (1, .int s1)])) (es := (fun (e18 : Unit) => [])) ?_ (fun e18 h19 => ?_)
        · refine zg_icmp_ne d_X4_readAheadOfPart_32 ?_ ?_
          · refine zg_aload_n 0 rfl d_X4_readAheadOfPart_35 ?_
            refine zg_cVv (b := a0) (As := []) (rest := []) (0, 0) d_X4_readAheadOfPart_36 zc_4 rfl cw_X4_255 wi_X4_openOne ws_X4_openOne rfl rfl (Nat.le_of_ble_eq_true rfl) (by decide) (by decide) ⟨by decide, by decide⟩ rfl (t_X4_openOne a0 h8) (fun v11 h10 => ?_)
            refine zg_goto d_X4_readAheadOfPart_39 ?_
            exact zg_finK (E := 0) [0, 1] rfl rfl (fun q => q)
          · refine zg_aload_n 0 rfl d_X4_readAheadOfPart_42 ?_
            refine zg_cVi (b := a0) (As := []) (rest := []) (0, 0) d_X4_readAheadOfPart_43 zc_4 rfl cw_X4_258 wi_X4_mayTurn ws_X4_mayTurn rfl rfl (Nat.le_of_ble_eq_true rfl) (by decide) (by decide) ⟨by decide, by decide⟩ rfl (t_X4_mayTurn a0 h8) (fun v13 h12 => ?_)
            refine zg_if_eq d_X4_readAheadOfPart_46 ?_ ?_
            · refine zg_aload_n 0 rfl d_X4_readAheadOfPart_56 ?_
              refine zg_iconst 1 rfl d_X4_readAheadOfPart_57 ?_
              refine zg_cVv (b := a0) (As := [.int 1]) (rest := []) (0, 0) d_X4_readAheadOfPart_58 zc_4 rfl cw_X4_82 wi_X4_fail ws_X4_fail rfl rfl (Nat.le_of_ble_eq_true rfl) (by decide) (by decide) ⟨by decide, by decide⟩ rfl (t_X4_fail a0 1 h12) (fun v15 h14 => ?_)
              exact zg_finK (E := 0) [0, 1] rfl rfl (fun q => q)
            · refine zg_aload_n 0 rfl d_X4_readAheadOfPart_49 ?_
              refine zg_cVv (b := a0) (As := []) (rest := []) (0, 0) d_X4_readAheadOfPart_50 zc_4 rfl cw_X4_261 wi_X4_countKnot ws_X4_countKnot rfl rfl (Nat.le_of_ble_eq_true rfl) (by decide) (by decide) ⟨by decide, by decide⟩ rfl (t_X4_countKnot a0 h12) (fun v17 h16 => ?_)
              refine zg_goto d_X4_readAheadOfPart_53 ?_
              exact zg_finK (E := 0) [0, 1] rfl rfl (fun q => q)
        · refine zg_aload_n 0 rfl d_X4_readAheadOfPart_61 ?_
          refine zg_aload_n 0 rfl d_X4_readAheadOfPart_62 ?_
          refine zg_getI d_X4_readAheadOfPart_63 zc_4 (by decide) fl_X4_65 (fun v20 => ?_)
          refine zg_cVv (b := a0) (As := [.int v20]) (rest := []) (0, 0) d_X4_readAheadOfPart_66 zc_4 rfl cw_X4_264 wi_X4_letWait ws_X4_letWait rfl rfl (Nat.le_of_ble_eq_true rfl) (by decide) (by decide) ⟨by decide, by decide⟩ rfl (t_X4_letWait a0 v20 h19) (fun v22 h21 => ?_)
          refine zg_aload_n 0 rfl d_X4_readAheadOfPart_69 ?_
          refine zg_cVv (b := a0) (As := []) (rest := []) (0, 0) d_X4_readAheadOfPart_70 zc_4 rfl cw_X4_62 wi_X4_advance ws_X4_advance rfl rfl (Nat.le_of_ble_eq_true rfl) (by decide) (by decide) ⟨by decide, by decide⟩ rfl (t_X4_advance a0 h21) (fun v24 h23 => ?_)
          refine zg_iinc 1 (s1 + 1) [(1, .int (s1 + 1)), (0, .ref a0)] d_X4_readAheadOfPart_73 rfl rfl (by decide) rfl ?_
          refine zg_goto d_X4_readAheadOfPart_76 ?_
          exact zg_finK (E := 0) [1, 0] rfl rfl (fun q => q)
  · exact zg_vretK d_X4_readAheadOfPart_79 rfl ⟨Nat.le_of_ble_eq_true rfl, Nat.le_of_ble_eq_true rfl⟩ (fun q => q)
abbrev M_X4_readNumber : zMt := (RX4, cX4_readNumber, 4, 3, 103, (some .int), "readNumber", 0, 0)
theorem d_X4_readNumber_0 : zDc M_X4_readNumber 0 (.aload_n 0) 1 1 := ⟨by decide +kernel, rfl⟩
theorem d_X4_readNumber_1 : zDc M_X4_readNumber 1 (.getfield 65) 3 4 := ⟨by decide +kernel, rfl⟩
theorem d_X4_readNumber_4 : zDc M_X4_readNumber 4 (.bipush 37) 2 6 := ⟨by decide +kernel, rfl⟩
theorem d_X4_readNumber_6 : zDj M_X4_readNumber 6 (.if_icmp .eq 11) 11 9 17 := ⟨by decide +kernel, rfl, by decide⟩
theorem d_X4_readNumber_9 : zDc M_X4_readNumber 9 (.aload_n 0) 1 10 := ⟨by decide +kernel, rfl⟩
theorem d_X4_readNumber_10 : zDc M_X4_readNumber 10 (.iconst 1) 1 11 := ⟨by decide +kernel, rfl⟩
theorem d_X4_readNumber_11 : zDc M_X4_readNumber 11 (.invokevirtual 82) 3 14 := ⟨by decide +kernel, rfl⟩
theorem d_X4_readNumber_14 : zDj M_X4_readNumber 14 (.goto 24) 24 17 38 := ⟨by decide +kernel, rfl, by decide⟩
theorem d_X4_readNumber_17 : zDc M_X4_readNumber 17 (.aload_n 0) 1 18 := ⟨by decide +kernel, rfl⟩
theorem d_X4_readNumber_18 : zDc M_X4_readNumber 18 (.getfield 108) 3 21 := ⟨by decide +kernel, rfl⟩
theorem d_X4_readNumber_21 : zDc M_X4_readNumber 21 (.iload_n 1) 1 22 := ⟨by decide +kernel, rfl⟩
theorem d_X4_readNumber_22 : zDj M_X4_readNumber 22 (.if_icmp .lt 11) 11 25 33 := ⟨by decide +kernel, rfl, by decide⟩
theorem d_X4_readNumber_25 : zDc M_X4_readNumber 25 (.aload_n 0) 1 26 := ⟨by decide +kernel, rfl⟩
theorem d_X4_readNumber_26 : zDc M_X4_readNumber 26 (.getfield 108) 3 29 := ⟨by decide +kernel, rfl⟩
theorem d_X4_readNumber_29 : zDc M_X4_readNumber 29 (.iload_n 2) 1 30 := ⟨by decide +kernel, rfl⟩
theorem d_X4_readNumber_30 : zDj M_X4_readNumber 30 (.if_icmp .le 8) 8 33 38 := ⟨by decide +kernel, rfl, by decide⟩
theorem d_X4_readNumber_33 : zDc M_X4_readNumber 33 (.aload_n 0) 1 34 := ⟨by decide +kernel, rfl⟩
theorem d_X4_readNumber_34 : zDc M_X4_readNumber 34 (.iconst 2) 1 35 := ⟨by decide +kernel, rfl⟩
theorem d_X4_readNumber_35 : zDc M_X4_readNumber 35 (.invokevirtual 82) 3 38 := ⟨by decide +kernel, rfl⟩
theorem d_X4_readNumber_38 : zDc M_X4_readNumber 38 (.aload_n 0) 1 39 := ⟨by decide +kernel, rfl⟩
theorem d_X4_readNumber_39 : zDc M_X4_readNumber 39 (.getfield 29) 3 42 := ⟨by decide +kernel, rfl⟩
theorem d_X4_readNumber_42 : zDj M_X4_readNumber 42 (.ifCond .eq 5) 5 45 47 := ⟨by decide +kernel, rfl, by decide⟩
theorem d_X4_readNumber_45 : zDc M_X4_readNumber 45 (.iconst (-1)) 1 46 := ⟨by decide +kernel, rfl⟩
theorem d_X4_readNumber_46 : zDc M_X4_readNumber 46 (.ireturn) 1 47 := ⟨by decide +kernel, rfl⟩
theorem d_X4_readNumber_47 : zDc M_X4_readNumber 47 (.aload_n 0) 1 48 := ⟨by decide +kernel, rfl⟩
theorem d_X4_readNumber_48 : zDc M_X4_readNumber 48 (.getfield 108) 3 51 := ⟨by decide +kernel, rfl⟩
theorem d_X4_readNumber_51 : zDc M_X4_readNumber 51 (.istore_n 3) 1 52 := ⟨by decide +kernel, rfl⟩
theorem d_X4_readNumber_52 : zDc M_X4_readNumber 52 (.aload_n 0) 1 53 := ⟨by decide +kernel, rfl⟩
theorem d_X4_readNumber_53 : zDc M_X4_readNumber 53 (.aload_n 0) 1 54 := ⟨by decide +kernel, rfl⟩
theorem d_X4_readNumber_54 : zDc M_X4_readNumber 54 (.getfield 75) 3 57 := ⟨by decide +kernel, rfl⟩
theorem d_X4_readNumber_57 : zDc M_X4_readNumber 57 (.putfield 139) 3 60 := ⟨by decide +kernel, rfl⟩
theorem d_X4_readNumber_60 : zDc M_X4_readNumber 60 (.aload_n 0) 1 61 := ⟨by decide +kernel, rfl⟩
theorem d_X4_readNumber_61 : zDc M_X4_readNumber 61 (.invokevirtual 62) 3 64 := ⟨by decide +kernel, rfl⟩
theorem d_X4_readNumber_64 : zDc M_X4_readNumber 64 (.iload_n 3) 1 65 := ⟨by decide +kernel, rfl⟩
theorem d_X4_readNumber_65 : zDc M_X4_readNumber 65 (.ireturn) 1 66 := ⟨by decide +kernel, rfl⟩
def f_X4_readNumber (a0 : Nat) (a1 : Int32) (a2 : Int32) (h0 : zHp) : Option (Int32 × zHp) :=
  zob (zgI h0 a0 4 4) (fun v1 =>
  zbd (α := Unit) (
  if v1 = 37 then
  zob (zgI h0 a0 4 6) (fun v2 =>
  zbd (α := (Unit ⊕ Unit)) (
  if v2 < a1 then
  some ((.inl ()), h0)
  else
  zob (zgI h0 a0 4 6) (fun v3 =>
  if v3 ≤ a2 then
  some ((.inr ()), h0)
  else
  some ((.inl ()), h0))) (fun b18 h5 => zsl b18 (fun e4 =>
  zbd (zcv 4 a0 h5 (f_X4_fail a0 2 h5)) (fun v7 h6 =>
  some ((), h6))) (fun r => some (r, h5))))
  else
  zbd (zcv 4 a0 h0 (f_X4_fail a0 1 h0)) (fun v9 h8 =>
  some ((), h8))) (fun e10 h11 =>
  zob (zgI h11 a0 4 14) (fun v12 =>
  if v12 = 0 then
  zob (zgI h11 a0 4 6) (fun v13 =>
  zob (zgI h11 a0 4 5) (fun v14 =>
  zob (zpV h11 a0 4 8 (.int v14)) (fun h15 =>
  zbd (zcv 4 a0 h15 (f_X4_advance a0 h15)) (fun v17 h16 =>
  some (v13, h16)))))
  else
  some ((-1), h11))))
set_option maxRecDepth 100000 in
set_option maxHeartbeats 4000000 in
theorem t_X4_readNumber (a0 : Nat) (a1 : Int32) (a2 : Int32) (h0 : zHp) : ∀ (r : Int32) (h' : zHp), f_X4_readNumber a0 a1 a2 h0 = some (r, h') → zCt yX4_readNumber (.code yX4_readNumber cX4_readNumber 4 (some .int)) 3 103 0 0 [.ref a0, .int a1, .int a2] h0 (some (.int r)) h' := by
  refine zct_of M_X4_readNumber yX4_readNumber (by decide) rfl rfl [.ref a0, .int a1, .int a2] h0 (Nat.le_of_ble_eq_true rfl) (fun r => some (.int r)) (fun X => ?_)
  show zG X M_X4_readNumber (0, 0) 0 [(0, .ref a0), (1, .int a1), (2, .int a2)] [] h0 (f_X4_readNumber a0 a1 a2 h0) (fun (r : Int32) h' => zKe X (some (.int r)) h')
  unfold f_X4_readNumber
  refine zg_aload_n 0 rfl d_X4_readNumber_0 ?_
  refine zg_getI d_X4_readNumber_1 zc_4 (by decide) fl_X4_65 (fun v1 => ?_)
  refine zg_bipush 37 rfl d_X4_readNumber_4 ?_
  refine zg_bd (E := 38) (el := (fun (e10 : Unit) => [(0, .ref a0), (1, .int a1), (2, .int a2)])) (es := (fun (e10 : Unit) => [])) ?_ (fun e10 h11 => ?_)
  · refine zg_icmp_eq d_X4_readNumber_6 ?_ ?_
    · refine zg_aload_n 0 rfl d_X4_readNumber_17 ?_
      refine zg_getI d_X4_readNumber_18 zc_4 (by decide) fl_X4_108 (fun v2 => ?_)
      refine zg_iload_n 1 rfl d_X4_readNumber_21 ?_
      refine zg_bdr (E := 33) (el := (fun (e4 : Unit) => [(0, .ref a0), (1, .int a1), (2, .int a2)])) (es := (fun (e4 : Unit) => [])) ?_ (fun e4 h5 => ?_)
      · refine zg_icmp_lt d_X4_readNumber_22 ?_ ?_
        · exact zg_finK (E := 0) [0, 1, 2] rfl rfl (fun q => q)
        · refine zg_aload_n 0 rfl d_X4_readNumber_25 ?_
          refine zg_getI d_X4_readNumber_26 zc_4 (by decide) fl_X4_108 (fun v3 => ?_)
          refine zg_iload_n 2 rfl d_X4_readNumber_29 ?_
          refine zg_icmp_le d_X4_readNumber_30 ?_ ?_
          · exact zg_finK (E := 0) [0, 1, 2] rfl rfl (fun q => q)
          · exact zg_finK (E := 0) [0, 1, 2] rfl rfl (fun q => q)
      · refine zg_aload_n 0 rfl d_X4_readNumber_33 ?_
        refine zg_iconst 2 rfl d_X4_readNumber_34 ?_
        refine zg_cVv (b := a0) (As := [.int 2]) (rest := []) (0, 0) d_X4_readNumber_35 zc_4 rfl cw_X4_82 wi_X4_fail ws_X4_fail rfl rfl (Nat.le_of_ble_eq_true rfl) (by decide) (by decide) ⟨by decide, by decide⟩ rfl (t_X4_fail a0 2 h5) (fun v7 h6 => ?_)
        exact zg_finK (E := 0) [0, 1, 2] rfl rfl (fun q => q)
    · refine zg_aload_n 0 rfl d_X4_readNumber_9 ?_
      refine zg_iconst 1 rfl d_X4_readNumber_10 ?_
      refine zg_cVv (b := a0) (As := [.int 1]) (rest := []) (0, 0) d_X4_readNumber_11 zc_4 rfl cw_X4_82 wi_X4_fail ws_X4_fail rfl rfl (Nat.le_of_ble_eq_true rfl) (by decide) (by decide) ⟨by decide, by decide⟩ rfl (t_X4_fail a0 1 h0) (fun v9 h8 => ?_)
      refine zg_goto d_X4_readNumber_14 ?_
      exact zg_finK (E := 0) [0, 1, 2] rfl rfl (fun q => q)
  · refine zg_aload_n 0 rfl d_X4_readNumber_38 ?_
    refine zg_getI d_X4_readNumber_39 zc_4 (by decide) fl_X4_29 (fun v12 => ?_)
    refine zg_if_eq d_X4_readNumber_42 ?_ ?_
    · refine zg_aload_n 0 rfl d_X4_readNumber_47 ?_
      refine zg_getI d_X4_readNumber_48 zc_4 (by decide) fl_X4_108 (fun v13 => ?_)
      refine zg_istore_n [(3, .int v13), (0, .ref a0), (1, .int a1), (2, .int a2)] d_X4_readNumber_51 rfl (by decide) rfl ?_
      refine zg_aload_n 1 rfl d_X4_readNumber_52 ?_
      refine zg_aload_n 1 rfl d_X4_readNumber_53 ?_
      refine zg_getI d_X4_readNumber_54 zc_4 (by decide) fl_X4_75 (fun v14 => ?_)
      refine zg_putV d_X4_readNumber_57 zc_4 (by decide) fl_X4_139 rfl rfl rfl (fun h15 => ?_)
      refine zg_aload_n 1 rfl d_X4_readNumber_60 ?_
      refine zg_cVv (b := a0) (As := []) (rest := []) (0, 0) d_X4_readNumber_61 zc_4 rfl cw_X4_62 wi_X4_advance ws_X4_advance rfl rfl (Nat.le_of_ble_eq_true rfl) (by decide) (by decide) ⟨by decide, by decide⟩ rfl (t_X4_advance a0 h15) (fun v17 h16 => ?_)
      refine zg_iload_n 0 rfl d_X4_readNumber_64 ?_
      exact zg_iretK d_X4_readNumber_65 rfl ⟨Nat.le_of_ble_eq_true rfl, Nat.le_of_ble_eq_true rfl⟩ (fun q => q)
    · refine zg_iconst (-1) rfl d_X4_readNumber_45 ?_
      exact zg_iretK d_X4_readNumber_46 rfl ⟨Nat.le_of_ble_eq_true rfl, Nat.le_of_ble_eq_true rfl⟩ (fun q => q)
abbrev M_X4_readCell : zMt := (RX4, cX4_readCell, 3, 4, 126, (some .int), "readCell", 0, 0)
theorem d_X4_readCell_0 : zDc M_X4_readCell 0 (.aload_n 0) 1 1 := ⟨by decide +kernel, rfl⟩
theorem d_X4_readCell_1 : zDc M_X4_readCell 1 (.iconst 0) 1 2 := ⟨by decide +kernel, rfl⟩
theorem d_X4_readCell_2 : zDc M_X4_readCell 2 (.iconst 5) 1 3 := ⟨by decide +kernel, rfl⟩
theorem d_X4_readCell_3 : zDc M_X4_readCell 3 (.invokevirtual 142) 3 6 := ⟨by decide +kernel, rfl⟩
theorem d_X4_readCell_6 : zDc M_X4_readCell 6 (.istore_n 1) 1 7 := ⟨by decide +kernel, rfl⟩
theorem d_X4_readCell_7 : zDc M_X4_readCell 7 (.aload_n 0) 1 8 := ⟨by decide +kernel, rfl⟩
theorem d_X4_readCell_8 : zDc M_X4_readCell 8 (.iconst 0) 1 9 := ⟨by decide +kernel, rfl⟩
theorem d_X4_readCell_9 : zDc M_X4_readCell 9 (.iconst 3) 1 10 := ⟨by decide +kernel, rfl⟩
theorem d_X4_readCell_10 : zDc M_X4_readCell 10 (.invokevirtual 142) 3 13 := ⟨by decide +kernel, rfl⟩
theorem d_X4_readCell_13 : zDc M_X4_readCell 13 (.istore_n 2) 1 14 := ⟨by decide +kernel, rfl⟩
theorem d_X4_readCell_14 : zDc M_X4_readCell 14 (.aload_n 0) 1 15 := ⟨by decide +kernel, rfl⟩
theorem d_X4_readCell_15 : zDc M_X4_readCell 15 (.getfield 29) 3 18 := ⟨by decide +kernel, rfl⟩
theorem d_X4_readCell_18 : zDj M_X4_readCell 18 (.ifCond .ne 12) 12 21 30 := ⟨by decide +kernel, rfl, by decide⟩
theorem d_X4_readCell_21 : zDc M_X4_readCell 21 (.bipush 6) 2 23 := ⟨by decide +kernel, rfl⟩
theorem d_X4_readCell_23 : zDc M_X4_readCell 23 (.iload_n 2) 1 24 := ⟨by decide +kernel, rfl⟩
theorem d_X4_readCell_24 : zDc M_X4_readCell 24 (.imul) 1 25 := ⟨by decide +kernel, rfl⟩
theorem d_X4_readCell_25 : zDc M_X4_readCell 25 (.iload_n 1) 1 26 := ⟨by decide +kernel, rfl⟩
theorem d_X4_readCell_26 : zDc M_X4_readCell 26 (.iadd) 1 27 := ⟨by decide +kernel, rfl⟩
theorem d_X4_readCell_27 : zDj M_X4_readCell 27 (.goto 4) 4 30 31 := ⟨by decide +kernel, rfl, by decide⟩
theorem d_X4_readCell_30 : zDc M_X4_readCell 30 (.iconst (-1)) 1 31 := ⟨by decide +kernel, rfl⟩
theorem d_X4_readCell_31 : zDc M_X4_readCell 31 (.ireturn) 1 32 := ⟨by decide +kernel, rfl⟩
def f_X4_readCell (a0 : Nat) (h0 : zHp) : Option (Int32 × zHp) :=
  zbd (zcv 4 a0 h0 (f_X4_readNumber a0 0 5 h0)) (fun v2 h1 =>
  zbd (zcv 4 a0 h1 (f_X4_readNumber a0 0 3 h1)) (fun v4 h3 =>
  zob (zgI h3 a0 4 14) (fun v5 =>
  if v5 = 0 then
  some (((6 * v4) + v2), h3)
  else
  some ((-1), h3))))
set_option maxRecDepth 100000 in
set_option maxHeartbeats 4000000 in
theorem t_X4_readCell (a0 : Nat) (h0 : zHp) : ∀ (r : Int32) (h' : zHp), f_X4_readCell a0 h0 = some (r, h') → zCt yX4_readCell (.code yX4_readCell cX4_readCell 3 (some .int)) 4 126 0 0 [.ref a0] h0 (some (.int r)) h' := by
  refine zct_of M_X4_readCell yX4_readCell (by decide) rfl rfl [.ref a0] h0 (Nat.le_of_ble_eq_true rfl) (fun r => some (.int r)) (fun X => ?_)
  show zG X M_X4_readCell (0, 0) 0 [(0, .ref a0)] [] h0 (f_X4_readCell a0 h0) (fun (r : Int32) h' => zKe X (some (.int r)) h')
  unfold f_X4_readCell
  refine zg_aload_n 0 rfl d_X4_readCell_0 ?_
  refine zg_iconst 0 rfl d_X4_readCell_1 ?_
  refine zg_iconst 5 rfl d_X4_readCell_2 ?_
  refine zg_cVi (b := a0) (As := [.int 0, .int 5]) (rest := []) (0, 0) d_X4_readCell_3 zc_4 rfl cw_X4_142 wi_X4_readNumber ws_X4_readNumber rfl rfl (Nat.le_of_ble_eq_true rfl) (by decide) (by decide) ⟨by decide, by decide⟩ rfl (t_X4_readNumber a0 0 5 h0) (fun v2 h1 => ?_)
  refine zg_istore_n [(1, .int v2), (0, .ref a0)] d_X4_readCell_6 rfl (by decide) rfl ?_
  refine zg_aload_n 1 rfl d_X4_readCell_7 ?_
  refine zg_iconst 0 rfl d_X4_readCell_8 ?_
  refine zg_iconst 3 rfl d_X4_readCell_9 ?_
  refine zg_cVi (b := a0) (As := [.int 0, .int 3]) (rest := []) (0, 0) d_X4_readCell_10 zc_4 rfl cw_X4_142 wi_X4_readNumber ws_X4_readNumber rfl rfl (Nat.le_of_ble_eq_true rfl) (by decide) (by decide) ⟨by decide, by decide⟩ rfl (t_X4_readNumber a0 0 3 h1) (fun v4 h3 => ?_)
  refine zg_istore_n [(2, .int v4), (1, .int v2), (0, .ref a0)] d_X4_readCell_13 rfl (by decide) rfl ?_
  refine zg_aload_n 2 rfl d_X4_readCell_14 ?_
  refine zg_getI d_X4_readCell_15 zc_4 (by decide) fl_X4_29 (fun v5 => ?_)
  refine zg_if_ne d_X4_readCell_18 ?_ ?_
  · refine zg_bipush 6 rfl d_X4_readCell_21 ?_
    refine zg_iload_n 0 rfl d_X4_readCell_23 ?_
    refine zg_imul d_X4_readCell_24 ?_
    refine zg_iload_n 1 rfl d_X4_readCell_25 ?_
    refine zg_iadd d_X4_readCell_26 ?_
    refine zg_goto d_X4_readCell_27 ?_
    exact zg_iretK d_X4_readCell_31 rfl ⟨Nat.le_of_ble_eq_true rfl, Nat.le_of_ble_eq_true rfl⟩ (fun q => q)
  · refine zg_iconst (-1) rfl d_X4_readCell_30 ?_
    exact zg_iretK d_X4_readCell_31 rfl ⟨Nat.le_of_ble_eq_true rfl, Nat.le_of_ble_eq_true rfl⟩ (fun q => q)
abbrev M_X7_numberOf : zMt := (RX7, cX7_numberOf, 4, 1, 60, (some .int), "numberOf", 0, 0)
theorem d_X7_numberOf_0 : zDc M_X7_numberOf 0 (.iconst 0) 1 1 := ⟨by decide +kernel, rfl⟩
theorem d_X7_numberOf_1 : zDc M_X7_numberOf 1 (.istore_n 3) 1 2 := ⟨by decide +kernel, rfl⟩
theorem d_X7_numberOf_2 : zDc M_X7_numberOf 2 (.iload_n 3) 1 3 := ⟨by decide +kernel, rfl⟩
theorem d_X7_numberOf_3 : zDc M_X7_numberOf 3 (.iload_n 1) 1 4 := ⟨by decide +kernel, rfl⟩
theorem d_X7_numberOf_4 : zDj M_X7_numberOf 4 (.if_icmp .ge 24) 24 7 28 := ⟨by decide +kernel, rfl, by decide⟩
theorem d_X7_numberOf_7 : zDc M_X7_numberOf 7 (.iload_n 3) 1 8 := ⟨by decide +kernel, rfl⟩
theorem d_X7_numberOf_8 : zDc M_X7_numberOf 8 (.aload_n 0) 1 9 := ⟨by decide +kernel, rfl⟩
theorem d_X7_numberOf_9 : zDc M_X7_numberOf 9 (.arraylength) 1 10 := ⟨by decide +kernel, rfl⟩
theorem d_X7_numberOf_10 : zDj M_X7_numberOf 10 (.if_icmp .ge 18) 18 13 28 := ⟨by decide +kernel, rfl, by decide⟩
theorem d_X7_numberOf_13 : zDc M_X7_numberOf 13 (.aload_n 0) 1 14 := ⟨by decide +kernel, rfl⟩
theorem d_X7_numberOf_14 : zDc M_X7_numberOf 14 (.iload_n 3) 1 15 := ⟨by decide +kernel, rfl⟩
theorem d_X7_numberOf_15 : zDc M_X7_numberOf 15 (.iaload) 1 16 := ⟨by decide +kernel, rfl⟩
theorem d_X7_numberOf_16 : zDc M_X7_numberOf 16 (.iload_n 2) 1 17 := ⟨by decide +kernel, rfl⟩
theorem d_X7_numberOf_17 : zDj M_X7_numberOf 17 (.if_icmp .ne 5) 5 20 22 := ⟨by decide +kernel, rfl, by decide⟩
theorem d_X7_numberOf_20 : zDc M_X7_numberOf 20 (.iload_n 3) 1 21 := ⟨by decide +kernel, rfl⟩
theorem d_X7_numberOf_21 : zDc M_X7_numberOf 21 (.ireturn) 1 22 := ⟨by decide +kernel, rfl⟩
theorem d_X7_numberOf_22 : zDc M_X7_numberOf 22 (.iinc 3 1) 3 25 := ⟨by decide +kernel, rfl⟩
theorem d_X7_numberOf_25 : zDj M_X7_numberOf 25 (.goto (-23)) (-23) 28 2 := ⟨by decide +kernel, rfl, by decide⟩
theorem d_X7_numberOf_28 : zDc M_X7_numberOf 28 (.iconst (-1)) 1 29 := ⟨by decide +kernel, rfl⟩
theorem d_X7_numberOf_29 : zDc M_X7_numberOf 29 (.ireturn) 1 30 := ⟨by decide +kernel, rfl⟩
def f_X7_numberOf (a0 : Nat) (a1 : Int32) (a2 : Int32) (h0 : zHp) : Option (Int32 × zHp) :=
  zbd (
  zlp (σ := Int32) (β := (Int32 ⊕ Int32)) zLF (fun s1 h2 =>
  if a1 ≤ s1 then
  some ((.inr (.inl s1)), h2)
  else
  zob (zln h2 a0) (fun v5 =>
  if v5 ≤ s1 then
  some ((.inr (.inl s1)), h2)
  else
  zob (zaI 0 h2 a0 s1) (fun v6 =>
  if v6 = a2 then
  some ((.inr (.inr s1)), h2)
  else
  some ((.inl (s1 + 1)), h2)))) 0 h0) (fun b7 h4 => zsl b7 (fun e3 =>
  some ((-1), h4)) (fun r => some (r, h4)))
set_option maxRecDepth 100000 in
set_option maxHeartbeats 4000000 in
theorem t_X7_numberOf (a0 : Nat) (a1 : Int32) (a2 : Int32) (h0 : zHp) : ∀ (r : Int32) (h' : zHp), f_X7_numberOf a0 a1 a2 h0 = some (r, h') → zCt yX7_numberOf (.code yX7_numberOf cX7_numberOf 4 (some .int)) 1 60 0 0 [.ref a0, .int a1, .int a2] h0 (some (.int r)) h' := by
  refine zct_of M_X7_numberOf yX7_numberOf (by decide) rfl rfl [.ref a0, .int a1, .int a2] h0 (Nat.le_of_ble_eq_true rfl) (fun r => some (.int r)) (fun X => ?_)
  show zG X M_X7_numberOf (0, 0) 0 [(0, .ref a0), (1, .int a1), (2, .int a2)] [] h0 (f_X7_numberOf a0 a1 a2 h0) (fun (r : Int32) h' => zKe X (some (.int r)) h')
  unfold f_X7_numberOf
  refine zg_iconst 0 rfl d_X7_numberOf_0 ?_
  refine zg_istore_n [(3, .int 0), (0, .ref a0), (1, .int a1), (2, .int a2)] d_X7_numberOf_1 rfl (by decide) rfl ?_
  refine zg_bdr (E := 28) (el := (fun (e3 : Int32) => [(0, .ref a0), (1, .int a1), (2, .int a2), (3, .int e3)])) (es := fun _ => []) (zg_sub [1, 2, 3, 0] rfl (zg_lp (el := (fun (s1 : Int32) => [(0, .ref a0), (1, .int a1), (2, .int a2), (3, .int s1)])) (fun s1 h2 => ?_) 0 h0)) (fun e3 h4 => ?_)
  · refine zg_iload_n 3 rfl d_X7_numberOf_2 ?_
    refine zg_iload_n 1 rfl d_X7_numberOf_3 ?_
    refine zg_icmp_ge d_X7_numberOf_4 ?_ ?_
    · exact zg_finK (E := 0) [0, 1, 2, 3] rfl rfl (fun q => q)
    · refine zg_iload_n 3 rfl d_X7_numberOf_7 ?_
      refine zg_aload_n 0 rfl d_X7_numberOf_8 ?_
      refine zg_len d_X7_numberOf_9 (fun v5 => ?_)
      refine zg_icmp_ge d_X7_numberOf_10 ?_ ?_
      · exact zg_finK (E := 0) [0, 1, 2, 3] rfl rfl (fun q => q)
      · refine zg_aload_n 0 rfl d_X7_numberOf_13 ?_
        refine zg_iload_n 3 rfl d_X7_numberOf_14 ?_
        refine zg_ald0 d_X7_numberOf_15 (fun v6 => ?_)
        refine zg_iload_n 2 rfl d_X7_numberOf_16 ?_
        refine zg_icmp_ne d_X7_numberOf_17 ?_ ?_
        · refine zg_iload_n 3 rfl d_X7_numberOf_20 ?_
          exact zg_iretK d_X7_numberOf_21 rfl ⟨Nat.le_of_ble_eq_true rfl, Nat.le_of_ble_eq_true rfl⟩ (fun q => q)
        · refine zg_iinc 3 (s1 + 1) [(3, .int (s1 + 1)), (0, .ref a0), (1, .int a1), (2, .int a2)] d_X7_numberOf_22 rfl rfl (by decide) rfl ?_
          refine zg_goto d_X7_numberOf_25 ?_
          exact zg_finK (E := 0) [1, 2, 3, 0] rfl rfl (fun q => q)
  · refine zg_iconst (-1) rfl d_X7_numberOf_28 ?_
    exact zg_iretK d_X7_numberOf_29 rfl ⟨Nat.le_of_ble_eq_true rfl, Nat.le_of_ble_eq_true rfl⟩ (fun q => q)
abbrev M_X4_readName : zMt := (RX4, cX4_readName, 4, 3, 103, (some .int), "readName", 0, 0)
theorem d_X4_readName_0 : zDc M_X4_readName 0 (.aload_n 0) 1 1 := ⟨by decide +kernel, rfl⟩
theorem d_X4_readName_1 : zDc M_X4_readName 1 (.getfield 65) 3 4 := ⟨by decide +kernel, rfl⟩
theorem d_X4_readName_4 : zDc M_X4_readName 4 (.bipush 36) 2 6 := ⟨by decide +kernel, rfl⟩
theorem d_X4_readName_6 : zDj M_X4_readName 6 (.if_icmp .eq 10) 10 9 16 := ⟨by decide +kernel, rfl, by decide⟩
theorem d_X4_readName_9 : zDc M_X4_readName 9 (.aload_n 0) 1 10 := ⟨by decide +kernel, rfl⟩
theorem d_X4_readName_10 : zDc M_X4_readName 10 (.iconst 1) 1 11 := ⟨by decide +kernel, rfl⟩
theorem d_X4_readName_11 : zDc M_X4_readName 11 (.invokevirtual 82) 3 14 := ⟨by decide +kernel, rfl⟩
theorem d_X4_readName_14 : zDc M_X4_readName 14 (.iconst 0) 1 15 := ⟨by decide +kernel, rfl⟩
theorem d_X4_readName_15 : zDc M_X4_readName 15 (.ireturn) 1 16 := ⟨by decide +kernel, rfl⟩
theorem d_X4_readName_16 : zDc M_X4_readName 16 (.aload_n 1) 1 17 := ⟨by decide +kernel, rfl⟩
theorem d_X4_readName_17 : zDc M_X4_readName 17 (.iload_n 2) 1 18 := ⟨by decide +kernel, rfl⟩
theorem d_X4_readName_18 : zDc M_X4_readName 18 (.aload_n 0) 1 19 := ⟨by decide +kernel, rfl⟩
theorem d_X4_readName_19 : zDc M_X4_readName 19 (.getfield 105) 3 22 := ⟨by decide +kernel, rfl⟩
theorem d_X4_readName_22 : zDc M_X4_readName 22 (.invokestatic 145) 3 25 := ⟨by decide +kernel, rfl⟩
theorem d_X4_readName_25 : zDc M_X4_readName 25 (.iconst (-1)) 1 26 := ⟨by decide +kernel, rfl⟩
theorem d_X4_readName_26 : zDj M_X4_readName 26 (.if_icmp .eq 8) 8 29 34 := ⟨by decide +kernel, rfl, by decide⟩
theorem d_X4_readName_29 : zDc M_X4_readName 29 (.aload_n 0) 1 30 := ⟨by decide +kernel, rfl⟩
theorem d_X4_readName_30 : zDc M_X4_readName 30 (.iconst 3) 1 31 := ⟨by decide +kernel, rfl⟩
theorem d_X4_readName_31 : zDc M_X4_readName 31 (.invokevirtual 82) 3 34 := ⟨by decide +kernel, rfl⟩
theorem d_X4_readName_34 : zDc M_X4_readName 34 (.aload_n 0) 1 35 := ⟨by decide +kernel, rfl⟩
theorem d_X4_readName_35 : zDc M_X4_readName 35 (.getfield 105) 3 38 := ⟨by decide +kernel, rfl⟩
theorem d_X4_readName_38 : zDc M_X4_readName 38 (.istore_n 3) 1 39 := ⟨by decide +kernel, rfl⟩
theorem d_X4_readName_39 : zDc M_X4_readName 39 (.aload_n 0) 1 40 := ⟨by decide +kernel, rfl⟩
theorem d_X4_readName_40 : zDc M_X4_readName 40 (.invokevirtual 62) 3 43 := ⟨by decide +kernel, rfl⟩
theorem d_X4_readName_43 : zDc M_X4_readName 43 (.iload_n 3) 1 44 := ⟨by decide +kernel, rfl⟩
theorem d_X4_readName_44 : zDc M_X4_readName 44 (.ireturn) 1 45 := ⟨by decide +kernel, rfl⟩
def f_X4_readName (a0 : Nat) (a1 : Nat) (a2 : Int32) (h0 : zHp) : Option (Int32 × zHp) :=
  zob (zgI h0 a0 4 4) (fun v1 =>
  if v1 = 36 then
  zob (zgI h0 a0 4 7) (fun v2 =>
  zbd ((f_X7_numberOf a1 a2 v2 h0)) (fun v4 h3 =>
  zbd (α := Unit) (
  if v4 = (-1) then
  some ((), h3)
  else
  zbd (zcv 4 a0 h3 (f_X4_fail a0 3 h3)) (fun v6 h5 =>
  some ((), h5))) (fun e7 h8 =>
  zob (zgI h8 a0 4 7) (fun v9 =>
  zbd (zcv 4 a0 h8 (f_X4_advance a0 h8)) (fun v11 h10 =>
  some (v9, h10))))))
  else
  zbd (zcv 4 a0 h0 (f_X4_fail a0 1 h0)) (fun v13 h12 =>
  some (0, h12)))
set_option maxRecDepth 100000 in
set_option maxHeartbeats 4000000 in
theorem t_X4_readName (a0 : Nat) (a1 : Nat) (a2 : Int32) (h0 : zHp) : ∀ (r : Int32) (h' : zHp), f_X4_readName a0 a1 a2 h0 = some (r, h') → zCt yX4_readName (.code yX4_readName cX4_readName 4 (some .int)) 3 103 0 0 [.ref a0, .ref a1, .int a2] h0 (some (.int r)) h' := by
  refine zct_of M_X4_readName yX4_readName (by decide) rfl rfl [.ref a0, .ref a1, .int a2] h0 (Nat.le_of_ble_eq_true rfl) (fun r => some (.int r)) (fun X => ?_)
  show zG X M_X4_readName (0, 0) 0 [(0, .ref a0), (1, .ref a1), (2, .int a2)] [] h0 (f_X4_readName a0 a1 a2 h0) (fun (r : Int32) h' => zKe X (some (.int r)) h')
  unfold f_X4_readName
  refine zg_aload_n 0 rfl d_X4_readName_0 ?_
  refine zg_getI d_X4_readName_1 zc_4 (by decide) fl_X4_65 (fun v1 => ?_)
  refine zg_bipush 36 rfl d_X4_readName_4 ?_
  refine zg_icmp_eq d_X4_readName_6 ?_ ?_
  · refine zg_aload_n 1 rfl d_X4_readName_16 ?_
    refine zg_iload_n 2 rfl d_X4_readName_17 ?_
    refine zg_aload_n 0 rfl d_X4_readName_18 ?_
    refine zg_getI d_X4_readName_19 zc_4 (by decide) fl_X4_105 (fun v2 => ?_)
    refine zg_cSNi (As := [.ref a1, .int a2, .int v2]) (rest := []) (0, 0) d_X4_readName_22 cn_X4_145 wt_X7_numberOf rfl rfl (Nat.le_of_ble_eq_true rfl) (by decide) (by decide) ⟨by decide, by decide⟩ rfl (t_X7_numberOf a1 a2 v2 h0) (fun v4 h3 => ?_)
    refine zg_iconst (-1) rfl d_X4_readName_25 ?_
    refine zg_bd (E := 34) (el := (fun (e7 : Unit) => [(0, .ref a0), (1, .ref a1), (2, .int a2)])) (es := (fun (e7 : Unit) => [])) ?_ (fun e7 h8 => ?_)
    · refine zg_icmp_eq d_X4_readName_26 ?_ ?_
      · exact zg_finK (E := 0) [0, 1, 2] rfl rfl (fun q => q)
      · refine zg_aload_n 0 rfl d_X4_readName_29 ?_
        refine zg_iconst 3 rfl d_X4_readName_30 ?_
        refine zg_cVv (b := a0) (As := [.int 3]) (rest := []) (0, 0) d_X4_readName_31 zc_4 rfl cw_X4_82 wi_X4_fail ws_X4_fail rfl rfl (Nat.le_of_ble_eq_true rfl) (by decide) (by decide) ⟨by decide, by decide⟩ rfl (t_X4_fail a0 3 h3) (fun v6 h5 => ?_)
        exact zg_finK (E := 0) [0, 1, 2] rfl rfl (fun q => q)
    · refine zg_aload_n 0 rfl d_X4_readName_34 ?_
      refine zg_getI d_X4_readName_35 zc_4 (by decide) fl_X4_105 (fun v9 => ?_)
      refine zg_istore_n [(3, .int v9), (0, .ref a0), (1, .ref a1), (2, .int a2)] d_X4_readName_38 rfl (by decide) rfl ?_
      refine zg_aload_n 1 rfl d_X4_readName_39 ?_
      refine zg_cVv (b := a0) (As := []) (rest := []) (0, 0) d_X4_readName_40 zc_4 rfl cw_X4_62 wi_X4_advance ws_X4_advance rfl rfl (Nat.le_of_ble_eq_true rfl) (by decide) (by decide) ⟨by decide, by decide⟩ rfl (t_X4_advance a0 h8) (fun v11 h10 => ?_)
      refine zg_iload_n 0 rfl d_X4_readName_43 ?_
      exact zg_iretK d_X4_readName_44 rfl ⟨Nat.le_of_ble_eq_true rfl, Nat.le_of_ble_eq_true rfl⟩ (fun q => q)
  · refine zg_aload_n 0 rfl d_X4_readName_9 ?_
    refine zg_iconst 1 rfl d_X4_readName_10 ?_
    refine zg_cVv (b := a0) (As := [.int 1]) (rest := []) (0, 0) d_X4_readName_11 zc_4 rfl cw_X4_82 wi_X4_fail ws_X4_fail rfl rfl (Nat.le_of_ble_eq_true rfl) (by decide) (by decide) ⟨by decide, by decide⟩ rfl (t_X4_fail a0 1 h0) (fun v13 h12 => ?_)
    refine zg_iconst 0 rfl d_X4_readName_14 ?_
    exact zg_iretK d_X4_readName_15 rfl ⟨Nat.le_of_ble_eq_true rfl, Nat.le_of_ble_eq_true rfl⟩ (fun q => q)
abbrev M_X4_readChild : zMt := (RX4, cX4_readChild, 2, 5, 148, none, "readChild", 0, 0)
theorem d_X4_readChild_0 : zDc M_X4_readChild 0 (.aload_n 0) 1 1 := ⟨by decide +kernel, rfl⟩
theorem d_X4_readChild_1 : zDc M_X4_readChild 1 (.getfield 22) 3 4 := ⟨by decide +kernel, rfl⟩
theorem d_X4_readChild_4 : zDc M_X4_readChild 4 (.getfield 190) 3 7 := ⟨by decide +kernel, rfl⟩
theorem d_X4_readChild_7 : zDc M_X4_readChild 7 (.istore_n 1) 1 8 := ⟨by decide +kernel, rfl⟩
theorem d_X4_readChild_8 : zDc M_X4_readChild 8 (.aload_n 0) 1 9 := ⟨by decide +kernel, rfl⟩
theorem d_X4_readChild_9 : zDc M_X4_readChild 9 (.iload_n 1) 1 10 := ⟨by decide +kernel, rfl⟩
theorem d_X4_readChild_10 : zDc M_X4_readChild 10 (.bipush 6) 2 12 := ⟨by decide +kernel, rfl⟩
theorem d_X4_readChild_12 : zDc M_X4_readChild 12 (.invokevirtual 158) 3 15 := ⟨by decide +kernel, rfl⟩
theorem d_X4_readChild_15 : zDj M_X4_readChild 15 (.ifCond .ne 4) 4 18 19 := ⟨by decide +kernel, rfl, by decide⟩
theorem d_X4_readChild_18 : zDc M_X4_readChild 18 (.return_) 1 19 := ⟨by decide +kernel, rfl⟩
theorem d_X4_readChild_19 : zDc M_X4_readChild 19 (.aload_n 0) 1 20 := ⟨by decide +kernel, rfl⟩
theorem d_X4_readChild_20 : zDc M_X4_readChild 20 (.getfield 22) 3 23 := ⟨by decide +kernel, rfl⟩
theorem d_X4_readChild_23 : zDc M_X4_readChild 23 (.getfield 193) 3 26 := ⟨by decide +kernel, rfl⟩
theorem d_X4_readChild_26 : zDc M_X4_readChild 26 (.iload_n 1) 1 27 := ⟨by decide +kernel, rfl⟩
theorem d_X4_readChild_27 : zDc M_X4_readChild 27 (.aload_n 0) 1 28 := ⟨by decide +kernel, rfl⟩
theorem d_X4_readChild_28 : zDc M_X4_readChild 28 (.aload_n 0) 1 29 := ⟨by decide +kernel, rfl⟩
theorem d_X4_readChild_29 : zDc M_X4_readChild 29 (.getfield 22) 3 32 := ⟨by decide +kernel, rfl⟩
theorem d_X4_readChild_32 : zDc M_X4_readChild 32 (.getfield 193) 3 35 := ⟨by decide +kernel, rfl⟩
theorem d_X4_readChild_35 : zDc M_X4_readChild 35 (.iload_n 1) 1 36 := ⟨by decide +kernel, rfl⟩
theorem d_X4_readChild_36 : zDc M_X4_readChild 36 (.invokevirtual 165) 3 39 := ⟨by decide +kernel, rfl⟩
theorem d_X4_readChild_39 : zDc M_X4_readChild 39 (.iastore) 1 40 := ⟨by decide +kernel, rfl⟩
theorem d_X4_readChild_40 : zDc M_X4_readChild 40 (.aload_n 0) 1 41 := ⟨by decide +kernel, rfl⟩
theorem d_X4_readChild_41 : zDc M_X4_readChild 41 (.getfield 22) 3 44 := ⟨by decide +kernel, rfl⟩
theorem d_X4_readChild_44 : zDc M_X4_readChild 44 (.getfield 196) 3 47 := ⟨by decide +kernel, rfl⟩
theorem d_X4_readChild_47 : zDc M_X4_readChild 47 (.iload_n 1) 1 48 := ⟨by decide +kernel, rfl⟩
theorem d_X4_readChild_48 : zDc M_X4_readChild 48 (.aload_n 0) 1 49 := ⟨by decide +kernel, rfl⟩
theorem d_X4_readChild_49 : zDc M_X4_readChild 49 (.invokevirtual 149) 3 52 := ⟨by decide +kernel, rfl⟩
theorem d_X4_readChild_52 : zDc M_X4_readChild 52 (.iastore) 1 53 := ⟨by decide +kernel, rfl⟩
theorem d_X4_readChild_53 : zDc M_X4_readChild 53 (.aload_n 0) 1 54 := ⟨by decide +kernel, rfl⟩
theorem d_X4_readChild_54 : zDc M_X4_readChild 54 (.getfield 22) 3 57 := ⟨by decide +kernel, rfl⟩
theorem d_X4_readChild_57 : zDc M_X4_readChild 57 (.getfield 199) 3 60 := ⟨by decide +kernel, rfl⟩
theorem d_X4_readChild_60 : zDc M_X4_readChild 60 (.iload_n 1) 1 61 := ⟨by decide +kernel, rfl⟩
theorem d_X4_readChild_61 : zDc M_X4_readChild 61 (.aload_n 0) 1 62 := ⟨by decide +kernel, rfl⟩
theorem d_X4_readChild_62 : zDc M_X4_readChild 62 (.iconst 0) 1 63 := ⟨by decide +kernel, rfl⟩
theorem d_X4_readChild_63 : zDc M_X4_readChild 63 (.bipush 9) 2 65 := ⟨by decide +kernel, rfl⟩
theorem d_X4_readChild_65 : zDc M_X4_readChild 65 (.invokevirtual 142) 3 68 := ⟨by decide +kernel, rfl⟩
theorem d_X4_readChild_68 : zDc M_X4_readChild 68 (.iastore) 1 69 := ⟨by decide +kernel, rfl⟩
theorem d_X4_readChild_69 : zDc M_X4_readChild 69 (.aload_n 0) 1 70 := ⟨by decide +kernel, rfl⟩
theorem d_X4_readChild_70 : zDc M_X4_readChild 70 (.getfield 22) 3 73 := ⟨by decide +kernel, rfl⟩
theorem d_X4_readChild_73 : zDc M_X4_readChild 73 (.dup) 1 74 := ⟨by decide +kernel, rfl⟩
theorem d_X4_readChild_74 : zDc M_X4_readChild 74 (.getfield 190) 3 77 := ⟨by decide +kernel, rfl⟩
theorem d_X4_readChild_77 : zDc M_X4_readChild 77 (.iconst 1) 1 78 := ⟨by decide +kernel, rfl⟩
theorem d_X4_readChild_78 : zDc M_X4_readChild 78 (.iadd) 1 79 := ⟨by decide +kernel, rfl⟩
theorem d_X4_readChild_79 : zDc M_X4_readChild 79 (.putfield 190) 3 82 := ⟨by decide +kernel, rfl⟩
theorem d_X4_readChild_82 : zDc M_X4_readChild 82 (.return_) 1 83 := ⟨by decide +kernel, rfl⟩
def f_X4_readChild (a0 : Nat) (h0 : zHp) : Option (Unit × zHp) :=
  zob (zgR h0 a0 4 10) (fun v1 =>
  zob (zgI h0 v1 6 15) (fun v2 =>
  zbd (zcv 4 a0 h0 (f_X4_hasRoom a0 v2 6 h0)) (fun v4 h3 =>
  if v4 = 0 then
  some ((), h3)
  else
  zob (zgR h3 a0 4 10) (fun v5 =>
  zob (zgR h3 v5 6 8) (fun v6 =>
  zob (zgR h3 a0 4 10) (fun v7 =>
  zob (zgR h3 v7 6 8) (fun v8 =>
  zbd (zcv 4 a0 h3 (f_X4_readName a0 v8 v2 h3)) (fun v10 h9 =>
  zob (zsI 0 h9 v6 v2 v10) (fun h11 =>
  zob (zgR h11 a0 4 10) (fun v12 =>
  zob (zgR h11 v12 6 9) (fun v13 =>
  zbd (zcv 4 a0 h11 (f_X4_readCell a0 h11)) (fun v15 h14 =>
  zob (zsI 0 h14 v13 v2 v15) (fun h16 =>
  zob (zgR h16 a0 4 10) (fun v17 =>
  zob (zgR h16 v17 6 10) (fun v18 =>
  zbd (zcv 4 a0 h16 (f_X4_readNumber a0 0 9 h16)) (fun v20 h19 =>
  zob (zsI 0 h19 v18 v2 v20) (fun h21 =>
  zob (zgR h21 a0 4 10) (fun v22 =>
  zob (zgI h21 v22 6 15) (fun v23 =>
  zob (zpV h21 v22 6 15 (.int (v23 + 1))) (fun h24 =>
  some ((), h24)))))))))))))))))))))
set_option maxRecDepth 100000 in
set_option maxHeartbeats 4000000 in
theorem t_X4_readChild (a0 : Nat) (h0 : zHp) : ∀ (r : Unit) (h' : zHp), f_X4_readChild a0 h0 = some (r, h') → zCt yX4_readChild (.code yX4_readChild cX4_readChild 2 none) 5 148 0 0 [.ref a0] h0 (none) h' := by
  refine zct_of M_X4_readChild yX4_readChild (by decide) rfl rfl [.ref a0] h0 (Nat.le_of_ble_eq_true rfl) (fun _ => none) (fun X => ?_)
  show zG X M_X4_readChild (0, 0) 0 [(0, .ref a0)] [] h0 (f_X4_readChild a0 h0) (fun (_ : Unit) h' => zKe X (none) h')
  unfold f_X4_readChild
  refine zg_aload_n 0 rfl d_X4_readChild_0 ?_
  refine zg_getR d_X4_readChild_1 zc_4 (by decide) fl_X4_22 (fun v1 => ?_)
  refine zg_getI d_X4_readChild_4 zc_6 (by decide) fl_X4_190 (fun v2 => ?_)
  refine zg_istore_n [(1, .int v2), (0, .ref a0)] d_X4_readChild_7 rfl (by decide) rfl ?_
  refine zg_aload_n 1 rfl d_X4_readChild_8 ?_
  refine zg_iload_n 0 rfl d_X4_readChild_9 ?_
  refine zg_bipush 6 rfl d_X4_readChild_10 ?_
  refine zg_cVi (b := a0) (As := [.int v2, .int 6]) (rest := []) (0, 0) d_X4_readChild_12 zc_4 rfl cw_X4_158 wi_X4_hasRoom ws_X4_hasRoom rfl rfl (Nat.le_of_ble_eq_true rfl) (by decide) (by decide) ⟨by decide, by decide⟩ rfl (t_X4_hasRoom a0 v2 6 h0) (fun v4 h3 => ?_)
  refine zg_if_ne d_X4_readChild_15 ?_ ?_
  · exact zg_vretK d_X4_readChild_18 rfl ⟨Nat.le_of_ble_eq_true rfl, Nat.le_of_ble_eq_true rfl⟩ (fun q => q)
  · refine zg_aload_n 1 rfl d_X4_readChild_19 ?_
    refine zg_getR d_X4_readChild_20 zc_4 (by decide) fl_X4_22 (fun v5 => ?_)
    refine zg_getR d_X4_readChild_23 zc_6 (by decide) fl_X4_193 (fun v6 => ?_)
    refine zg_iload_n 0 rfl d_X4_readChild_26 ?_
    refine zg_aload_n 1 rfl d_X4_readChild_27 ?_
    refine zg_aload_n 1 rfl d_X4_readChild_28 ?_
    refine zg_getR d_X4_readChild_29 zc_4 (by decide) fl_X4_22 (fun v7 => ?_)
    refine zg_getR d_X4_readChild_32 zc_6 (by decide) fl_X4_193 (fun v8 => ?_)
    refine zg_iload_n 0 rfl d_X4_readChild_35 ?_
    refine zg_cVi (b := a0) (As := [.ref v8, .int v2]) (rest := [.int v2, .ref v6]) (0, 0) d_X4_readChild_36 zc_4 rfl cw_X4_165 wi_X4_readName ws_X4_readName rfl rfl (Nat.le_of_ble_eq_true rfl) (by decide) (by decide) ⟨by decide, by decide⟩ rfl (t_X4_readName a0 v8 v2 h3) (fun v10 h9 => ?_)
    refine zg_ast0 d_X4_readChild_39 (fun h11 => ?_)
    refine zg_aload_n 1 rfl d_X4_readChild_40 ?_
    refine zg_getR d_X4_readChild_41 zc_4 (by decide) fl_X4_22 (fun v12 => ?_)
    refine zg_getR d_X4_readChild_44 zc_6 (by decide) fl_X4_196 (fun v13 => ?_)
    refine zg_iload_n 0 rfl d_X4_readChild_47 ?_
    refine zg_aload_n 1 rfl d_X4_readChild_48 ?_
    refine zg_cVi (b := a0) (As := []) (rest := [.int v2, .ref v13]) (0, 0) d_X4_readChild_49 zc_4 rfl cw_X4_149 wi_X4_readCell ws_X4_readCell rfl rfl (Nat.le_of_ble_eq_true rfl) (by decide) (by decide) ⟨by decide, by decide⟩ rfl (t_X4_readCell a0 h11) (fun v15 h14 => ?_)
    refine zg_ast0 d_X4_readChild_52 (fun h16 => ?_)
    refine zg_aload_n 1 rfl d_X4_readChild_53 ?_
    refine zg_getR d_X4_readChild_54 zc_4 (by decide) fl_X4_22 (fun v17 => ?_)
    refine zg_getR d_X4_readChild_57 zc_6 (by decide) fl_X4_199 (fun v18 => ?_)
    refine zg_iload_n 0 rfl d_X4_readChild_60 ?_
    refine zg_aload_n 1 rfl d_X4_readChild_61 ?_
    refine zg_iconst 0 rfl d_X4_readChild_62 ?_
    refine zg_bipush 9 rfl d_X4_readChild_63 ?_
    refine zg_cVi (b := a0) (As := [.int 0, .int 9]) (rest := [.int v2, .ref v18]) (0, 0) d_X4_readChild_65 zc_4 rfl cw_X4_142 wi_X4_readNumber ws_X4_readNumber rfl rfl (Nat.le_of_ble_eq_true rfl) (by decide) (by decide) ⟨by decide, by decide⟩ rfl (t_X4_readNumber a0 0 9 h16) (fun v20 h19 => ?_)
    refine zg_ast0 d_X4_readChild_68 (fun h21 => ?_)
    refine zg_aload_n 1 rfl d_X4_readChild_69 ?_
    refine zg_getR d_X4_readChild_70 zc_4 (by decide) fl_X4_22 (fun v22 => ?_)
    refine zg_dup rfl d_X4_readChild_73 ?_
    refine zg_getI d_X4_readChild_74 zc_6 (by decide) fl_X4_190 (fun v23 => ?_)
    refine zg_iconst 1 rfl d_X4_readChild_77 ?_
    refine zg_iadd d_X4_readChild_78 ?_
    refine zg_putV d_X4_readChild_79 zc_6 (by decide) fl_X4_190 rfl rfl rfl (fun h24 => ?_)
    exact zg_vretK d_X4_readChild_82 rfl ⟨Nat.le_of_ble_eq_true rfl, Nat.le_of_ble_eq_true rfl⟩ (fun q => q)
abbrev M_X4_readCloud : zMt := (RX4, cX4_readCloud, 2, 5, 148, none, "readCloud", 0, 0)
theorem d_X4_readCloud_0 : zDc M_X4_readCloud 0 (.aload_n 0) 1 1 := ⟨by decide +kernel, rfl⟩
theorem d_X4_readCloud_1 : zDc M_X4_readCloud 1 (.getfield 22) 3 4 := ⟨by decide +kernel, rfl⟩
theorem d_X4_readCloud_4 : zDc M_X4_readCloud 4 (.getfield 175) 3 7 := ⟨by decide +kernel, rfl⟩
theorem d_X4_readCloud_7 : zDc M_X4_readCloud 7 (.istore_n 1) 1 8 := ⟨by decide +kernel, rfl⟩
theorem d_X4_readCloud_8 : zDc M_X4_readCloud 8 (.aload_n 0) 1 9 := ⟨by decide +kernel, rfl⟩
theorem d_X4_readCloud_9 : zDc M_X4_readCloud 9 (.iload_n 1) 1 10 := ⟨by decide +kernel, rfl⟩
theorem d_X4_readCloud_10 : zDc M_X4_readCloud 10 (.bipush 8) 2 12 := ⟨by decide +kernel, rfl⟩
theorem d_X4_readCloud_12 : zDc M_X4_readCloud 12 (.invokevirtual 158) 3 15 := ⟨by decide +kernel, rfl⟩
theorem d_X4_readCloud_15 : zDj M_X4_readCloud 15 (.ifCond .ne 4) 4 18 19 := ⟨by decide +kernel, rfl, by decide⟩
theorem d_X4_readCloud_18 : zDc M_X4_readCloud 18 (.return_) 1 19 := ⟨by decide +kernel, rfl⟩
theorem d_X4_readCloud_19 : zDc M_X4_readCloud 19 (.aload_n 0) 1 20 := ⟨by decide +kernel, rfl⟩
theorem d_X4_readCloud_20 : zDc M_X4_readCloud 20 (.getfield 22) 3 23 := ⟨by decide +kernel, rfl⟩
theorem d_X4_readCloud_23 : zDc M_X4_readCloud 23 (.getfield 178) 3 26 := ⟨by decide +kernel, rfl⟩
theorem d_X4_readCloud_26 : zDc M_X4_readCloud 26 (.iload_n 1) 1 27 := ⟨by decide +kernel, rfl⟩
theorem d_X4_readCloud_27 : zDc M_X4_readCloud 27 (.aload_n 0) 1 28 := ⟨by decide +kernel, rfl⟩
theorem d_X4_readCloud_28 : zDc M_X4_readCloud 28 (.aload_n 0) 1 29 := ⟨by decide +kernel, rfl⟩
theorem d_X4_readCloud_29 : zDc M_X4_readCloud 29 (.getfield 22) 3 32 := ⟨by decide +kernel, rfl⟩
theorem d_X4_readCloud_32 : zDc M_X4_readCloud 32 (.getfield 178) 3 35 := ⟨by decide +kernel, rfl⟩
theorem d_X4_readCloud_35 : zDc M_X4_readCloud 35 (.iload_n 1) 1 36 := ⟨by decide +kernel, rfl⟩
theorem d_X4_readCloud_36 : zDc M_X4_readCloud 36 (.invokevirtual 165) 3 39 := ⟨by decide +kernel, rfl⟩
theorem d_X4_readCloud_39 : zDc M_X4_readCloud 39 (.iastore) 1 40 := ⟨by decide +kernel, rfl⟩
theorem d_X4_readCloud_40 : zDc M_X4_readCloud 40 (.aload_n 0) 1 41 := ⟨by decide +kernel, rfl⟩
theorem d_X4_readCloud_41 : zDc M_X4_readCloud 41 (.getfield 22) 3 44 := ⟨by decide +kernel, rfl⟩
theorem d_X4_readCloud_44 : zDc M_X4_readCloud 44 (.getfield 181) 3 47 := ⟨by decide +kernel, rfl⟩
theorem d_X4_readCloud_47 : zDc M_X4_readCloud 47 (.iload_n 1) 1 48 := ⟨by decide +kernel, rfl⟩
theorem d_X4_readCloud_48 : zDc M_X4_readCloud 48 (.aload_n 0) 1 49 := ⟨by decide +kernel, rfl⟩
theorem d_X4_readCloud_49 : zDc M_X4_readCloud 49 (.invokevirtual 149) 3 52 := ⟨by decide +kernel, rfl⟩
theorem d_X4_readCloud_52 : zDc M_X4_readCloud 52 (.iastore) 1 53 := ⟨by decide +kernel, rfl⟩
theorem d_X4_readCloud_53 : zDc M_X4_readCloud 53 (.aload_n 0) 1 54 := ⟨by decide +kernel, rfl⟩
theorem d_X4_readCloud_54 : zDc M_X4_readCloud 54 (.getfield 22) 3 57 := ⟨by decide +kernel, rfl⟩
theorem d_X4_readCloud_57 : zDc M_X4_readCloud 57 (.getfield 184) 3 60 := ⟨by decide +kernel, rfl⟩
theorem d_X4_readCloud_60 : zDc M_X4_readCloud 60 (.iload_n 1) 1 61 := ⟨by decide +kernel, rfl⟩
theorem d_X4_readCloud_61 : zDc M_X4_readCloud 61 (.aload_n 0) 1 62 := ⟨by decide +kernel, rfl⟩
theorem d_X4_readCloud_62 : zDc M_X4_readCloud 62 (.iconst 1) 1 63 := ⟨by decide +kernel, rfl⟩
theorem d_X4_readCloud_63 : zDc M_X4_readCloud 63 (.bipush 9) 2 65 := ⟨by decide +kernel, rfl⟩
theorem d_X4_readCloud_65 : zDc M_X4_readCloud 65 (.invokevirtual 142) 3 68 := ⟨by decide +kernel, rfl⟩
theorem d_X4_readCloud_68 : zDc M_X4_readCloud 68 (.iastore) 1 69 := ⟨by decide +kernel, rfl⟩
theorem d_X4_readCloud_69 : zDc M_X4_readCloud 69 (.aload_n 0) 1 70 := ⟨by decide +kernel, rfl⟩
theorem d_X4_readCloud_70 : zDc M_X4_readCloud 70 (.getfield 22) 3 73 := ⟨by decide +kernel, rfl⟩
theorem d_X4_readCloud_73 : zDc M_X4_readCloud 73 (.getfield 187) 3 76 := ⟨by decide +kernel, rfl⟩
theorem d_X4_readCloud_76 : zDc M_X4_readCloud 76 (.iload_n 1) 1 77 := ⟨by decide +kernel, rfl⟩
theorem d_X4_readCloud_77 : zDc M_X4_readCloud 77 (.aload_n 0) 1 78 := ⟨by decide +kernel, rfl⟩
theorem d_X4_readCloud_78 : zDc M_X4_readCloud 78 (.iconst 0) 1 79 := ⟨by decide +kernel, rfl⟩
theorem d_X4_readCloud_79 : zDc M_X4_readCloud 79 (.bipush 99) 2 81 := ⟨by decide +kernel, rfl⟩
theorem d_X4_readCloud_81 : zDc M_X4_readCloud 81 (.invokevirtual 142) 3 84 := ⟨by decide +kernel, rfl⟩
theorem d_X4_readCloud_84 : zDc M_X4_readCloud 84 (.iastore) 1 85 := ⟨by decide +kernel, rfl⟩
theorem d_X4_readCloud_85 : zDc M_X4_readCloud 85 (.aload_n 0) 1 86 := ⟨by decide +kernel, rfl⟩
theorem d_X4_readCloud_86 : zDc M_X4_readCloud 86 (.getfield 22) 3 89 := ⟨by decide +kernel, rfl⟩
theorem d_X4_readCloud_89 : zDc M_X4_readCloud 89 (.dup) 1 90 := ⟨by decide +kernel, rfl⟩
theorem d_X4_readCloud_90 : zDc M_X4_readCloud 90 (.getfield 175) 3 93 := ⟨by decide +kernel, rfl⟩
theorem d_X4_readCloud_93 : zDc M_X4_readCloud 93 (.iconst 1) 1 94 := ⟨by decide +kernel, rfl⟩
theorem d_X4_readCloud_94 : zDc M_X4_readCloud 94 (.iadd) 1 95 := ⟨by decide +kernel, rfl⟩
theorem d_X4_readCloud_95 : zDc M_X4_readCloud 95 (.putfield 175) 3 98 := ⟨by decide +kernel, rfl⟩
theorem d_X4_readCloud_98 : zDc M_X4_readCloud 98 (.return_) 1 99 := ⟨by decide +kernel, rfl⟩
def f_X4_readCloud (a0 : Nat) (h0 : zHp) : Option (Unit × zHp) :=
  zob (zgR h0 a0 4 10) (fun v1 =>
  zob (zgI h0 v1 6 14) (fun v2 =>
  zbd (zcv 4 a0 h0 (f_X4_hasRoom a0 v2 8 h0)) (fun v4 h3 =>
  if v4 = 0 then
  some ((), h3)
  else
  zob (zgR h3 a0 4 10) (fun v5 =>
  zob (zgR h3 v5 6 4) (fun v6 =>
  zob (zgR h3 a0 4 10) (fun v7 =>
  zob (zgR h3 v7 6 4) (fun v8 =>
  zbd (zcv 4 a0 h3 (f_X4_readName a0 v8 v2 h3)) (fun v10 h9 =>
  zob (zsI 0 h9 v6 v2 v10) (fun h11 =>
  zob (zgR h11 a0 4 10) (fun v12 =>
  zob (zgR h11 v12 6 5) (fun v13 =>
  zbd (zcv 4 a0 h11 (f_X4_readCell a0 h11)) (fun v15 h14 =>
  zob (zsI 0 h14 v13 v2 v15) (fun h16 =>
  zob (zgR h16 a0 4 10) (fun v17 =>
  zob (zgR h16 v17 6 6) (fun v18 =>
  zbd (zcv 4 a0 h16 (f_X4_readNumber a0 1 9 h16)) (fun v20 h19 =>
  zob (zsI 0 h19 v18 v2 v20) (fun h21 =>
  zob (zgR h21 a0 4 10) (fun v22 =>
  zob (zgR h21 v22 6 7) (fun v23 =>
  zbd (zcv 4 a0 h21 (f_X4_readNumber a0 0 99 h21)) (fun v25 h24 =>
  zob (zsI 0 h24 v23 v2 v25) (fun h26 =>
  zob (zgR h26 a0 4 10) (fun v27 =>
  zob (zgI h26 v27 6 14) (fun v28 =>
  zob (zpV h26 v27 6 14 (.int (v28 + 1))) (fun h29 =>
  some ((), h29)))))))))))))))))))))))))
set_option maxRecDepth 100000 in
set_option maxHeartbeats 4000000 in
theorem t_X4_readCloud (a0 : Nat) (h0 : zHp) : ∀ (r : Unit) (h' : zHp), f_X4_readCloud a0 h0 = some (r, h') → zCt yX4_readCloud (.code yX4_readCloud cX4_readCloud 2 none) 5 148 0 0 [.ref a0] h0 (none) h' := by
  refine zct_of M_X4_readCloud yX4_readCloud (by decide) rfl rfl [.ref a0] h0 (Nat.le_of_ble_eq_true rfl) (fun _ => none) (fun X => ?_)
  show zG X M_X4_readCloud (0, 0) 0 [(0, .ref a0)] [] h0 (f_X4_readCloud a0 h0) (fun (_ : Unit) h' => zKe X (none) h')
  unfold f_X4_readCloud
  refine zg_aload_n 0 rfl d_X4_readCloud_0 ?_
  refine zg_getR d_X4_readCloud_1 zc_4 (by decide) fl_X4_22 (fun v1 => ?_)
  refine zg_getI d_X4_readCloud_4 zc_6 (by decide) fl_X4_175 (fun v2 => ?_)
  refine zg_istore_n [(1, .int v2), (0, .ref a0)] d_X4_readCloud_7 rfl (by decide) rfl ?_
  refine zg_aload_n 1 rfl d_X4_readCloud_8 ?_
  refine zg_iload_n 0 rfl d_X4_readCloud_9 ?_
  refine zg_bipush 8 rfl d_X4_readCloud_10 ?_
  refine zg_cVi (b := a0) (As := [.int v2, .int 8]) (rest := []) (0, 0) d_X4_readCloud_12 zc_4 rfl cw_X4_158 wi_X4_hasRoom ws_X4_hasRoom rfl rfl (Nat.le_of_ble_eq_true rfl) (by decide) (by decide) ⟨by decide, by decide⟩ rfl (t_X4_hasRoom a0 v2 8 h0) (fun v4 h3 => ?_)
  refine zg_if_ne d_X4_readCloud_15 ?_ ?_
  · exact zg_vretK d_X4_readCloud_18 rfl ⟨Nat.le_of_ble_eq_true rfl, Nat.le_of_ble_eq_true rfl⟩ (fun q => q)
  · refine zg_aload_n 1 rfl d_X4_readCloud_19 ?_
    refine zg_getR d_X4_readCloud_20 zc_4 (by decide) fl_X4_22 (fun v5 => ?_)
    refine zg_getR d_X4_readCloud_23 zc_6 (by decide) fl_X4_178 (fun v6 => ?_)
    refine zg_iload_n 0 rfl d_X4_readCloud_26 ?_
    refine zg_aload_n 1 rfl d_X4_readCloud_27 ?_
    refine zg_aload_n 1 rfl d_X4_readCloud_28 ?_
    refine zg_getR d_X4_readCloud_29 zc_4 (by decide) fl_X4_22 (fun v7 => ?_)
    refine zg_getR d_X4_readCloud_32 zc_6 (by decide) fl_X4_178 (fun v8 => ?_)
    refine zg_iload_n 0 rfl d_X4_readCloud_35 ?_
    refine zg_cVi (b := a0) (As := [.ref v8, .int v2]) (rest := [.int v2, .ref v6]) (0, 0) d_X4_readCloud_36 zc_4 rfl cw_X4_165 wi_X4_readName ws_X4_readName rfl rfl (Nat.le_of_ble_eq_true rfl) (by decide) (by decide) ⟨by decide, by decide⟩ rfl (t_X4_readName a0 v8 v2 h3) (fun v10 h9 => ?_)
    refine zg_ast0 d_X4_readCloud_39 (fun h11 => ?_)
    refine zg_aload_n 1 rfl d_X4_readCloud_40 ?_
    refine zg_getR d_X4_readCloud_41 zc_4 (by decide) fl_X4_22 (fun v12 => ?_)
    refine zg_getR d_X4_readCloud_44 zc_6 (by decide) fl_X4_181 (fun v13 => ?_)
    refine zg_iload_n 0 rfl d_X4_readCloud_47 ?_
    refine zg_aload_n 1 rfl d_X4_readCloud_48 ?_
    refine zg_cVi (b := a0) (As := []) (rest := [.int v2, .ref v13]) (0, 0) d_X4_readCloud_49 zc_4 rfl cw_X4_149 wi_X4_readCell ws_X4_readCell rfl rfl (Nat.le_of_ble_eq_true rfl) (by decide) (by decide) ⟨by decide, by decide⟩ rfl (t_X4_readCell a0 h11) (fun v15 h14 => ?_)
    refine zg_ast0 d_X4_readCloud_52 (fun h16 => ?_)
    refine zg_aload_n 1 rfl d_X4_readCloud_53 ?_
    refine zg_getR d_X4_readCloud_54 zc_4 (by decide) fl_X4_22 (fun v17 => ?_)
    refine zg_getR d_X4_readCloud_57 zc_6 (by decide) fl_X4_184 (fun v18 => ?_)
    refine zg_iload_n 0 rfl d_X4_readCloud_60 ?_
    refine zg_aload_n 1 rfl d_X4_readCloud_61 ?_
    refine zg_iconst 1 rfl d_X4_readCloud_62 ?_
    refine zg_bipush 9 rfl d_X4_readCloud_63 ?_
    refine zg_cVi (b := a0) (As := [.int 1, .int 9]) (rest := [.int v2, .ref v18]) (0, 0) d_X4_readCloud_65 zc_4 rfl cw_X4_142 wi_X4_readNumber ws_X4_readNumber rfl rfl (Nat.le_of_ble_eq_true rfl) (by decide) (by decide) ⟨by decide, by decide⟩ rfl (t_X4_readNumber a0 1 9 h16) (fun v20 h19 => ?_)
    refine zg_ast0 d_X4_readCloud_68 (fun h21 => ?_)
    refine zg_aload_n 1 rfl d_X4_readCloud_69 ?_
    refine zg_getR d_X4_readCloud_70 zc_4 (by decide) fl_X4_22 (fun v22 => ?_)
    refine zg_getR d_X4_readCloud_73 zc_6 (by decide) fl_X4_187 (fun v23 => ?_)
    refine zg_iload_n 0 rfl d_X4_readCloud_76 ?_
    refine zg_aload_n 1 rfl d_X4_readCloud_77 ?_
    refine zg_iconst 0 rfl d_X4_readCloud_78 ?_
    refine zg_bipush 99 rfl d_X4_readCloud_79 ?_
    refine zg_cVi (b := a0) (As := [.int 0, .int 99]) (rest := [.int v2, .ref v23]) (0, 0) d_X4_readCloud_81 zc_4 rfl cw_X4_142 wi_X4_readNumber ws_X4_readNumber rfl rfl (Nat.le_of_ble_eq_true rfl) (by decide) (by decide) ⟨by decide, by decide⟩ rfl (t_X4_readNumber a0 0 99 h21) (fun v25 h24 => ?_)
    refine zg_ast0 d_X4_readCloud_84 (fun h26 => ?_)
    refine zg_aload_n 1 rfl d_X4_readCloud_85 ?_
    refine zg_getR d_X4_readCloud_86 zc_4 (by decide) fl_X4_22 (fun v27 => ?_)
    refine zg_dup rfl d_X4_readCloud_89 ?_
    refine zg_getI d_X4_readCloud_90 zc_6 (by decide) fl_X4_175 (fun v28 => ?_)
    refine zg_iconst 1 rfl d_X4_readCloud_93 ?_
    refine zg_iadd d_X4_readCloud_94 ?_
    refine zg_putV d_X4_readCloud_95 zc_6 (by decide) fl_X4_175 rfl rfl rfl (fun h29 => ?_)
    exact zg_vretK d_X4_readCloud_98 rfl ⟨Nat.le_of_ble_eq_true rfl, Nat.le_of_ble_eq_true rfl⟩ (fun q => q)
abbrev M_X4_readField : zMt := (RX4, cX4_readField, 2, 5, 148, none, "readField", 0, 0)
theorem d_X4_readField_0 : zDc M_X4_readField 0 (.aload_n 0) 1 1 := ⟨by decide +kernel, rfl⟩
theorem d_X4_readField_1 : zDc M_X4_readField 1 (.getfield 22) 3 4 := ⟨by decide +kernel, rfl⟩
theorem d_X4_readField_4 : zDc M_X4_readField 4 (.getfield 155) 3 7 := ⟨by decide +kernel, rfl⟩
theorem d_X4_readField_7 : zDc M_X4_readField 7 (.istore_n 1) 1 8 := ⟨by decide +kernel, rfl⟩
theorem d_X4_readField_8 : zDc M_X4_readField 8 (.aload_n 0) 1 9 := ⟨by decide +kernel, rfl⟩
theorem d_X4_readField_9 : zDc M_X4_readField 9 (.iload_n 1) 1 10 := ⟨by decide +kernel, rfl⟩
theorem d_X4_readField_10 : zDc M_X4_readField 10 (.iconst 5) 1 11 := ⟨by decide +kernel, rfl⟩
theorem d_X4_readField_11 : zDc M_X4_readField 11 (.invokevirtual 158) 3 14 := ⟨by decide +kernel, rfl⟩
theorem d_X4_readField_14 : zDj M_X4_readField 14 (.ifCond .ne 4) 4 17 18 := ⟨by decide +kernel, rfl, by decide⟩
theorem d_X4_readField_17 : zDc M_X4_readField 17 (.return_) 1 18 := ⟨by decide +kernel, rfl⟩
theorem d_X4_readField_18 : zDc M_X4_readField 18 (.aload_n 0) 1 19 := ⟨by decide +kernel, rfl⟩
theorem d_X4_readField_19 : zDc M_X4_readField 19 (.getfield 22) 3 22 := ⟨by decide +kernel, rfl⟩
theorem d_X4_readField_22 : zDc M_X4_readField 22 (.getfield 162) 3 25 := ⟨by decide +kernel, rfl⟩
theorem d_X4_readField_25 : zDc M_X4_readField 25 (.iload_n 1) 1 26 := ⟨by decide +kernel, rfl⟩
theorem d_X4_readField_26 : zDc M_X4_readField 26 (.aload_n 0) 1 27 := ⟨by decide +kernel, rfl⟩
theorem d_X4_readField_27 : zDc M_X4_readField 27 (.aload_n 0) 1 28 := ⟨by decide +kernel, rfl⟩
theorem d_X4_readField_28 : zDc M_X4_readField 28 (.getfield 22) 3 31 := ⟨by decide +kernel, rfl⟩
theorem d_X4_readField_31 : zDc M_X4_readField 31 (.getfield 162) 3 34 := ⟨by decide +kernel, rfl⟩
theorem d_X4_readField_34 : zDc M_X4_readField 34 (.iload_n 1) 1 35 := ⟨by decide +kernel, rfl⟩
theorem d_X4_readField_35 : zDc M_X4_readField 35 (.invokevirtual 165) 3 38 := ⟨by decide +kernel, rfl⟩
theorem d_X4_readField_38 : zDc M_X4_readField 38 (.iastore) 1 39 := ⟨by decide +kernel, rfl⟩
theorem d_X4_readField_39 : zDc M_X4_readField 39 (.aload_n 0) 1 40 := ⟨by decide +kernel, rfl⟩
theorem d_X4_readField_40 : zDc M_X4_readField 40 (.getfield 22) 3 43 := ⟨by decide +kernel, rfl⟩
theorem d_X4_readField_43 : zDc M_X4_readField 43 (.getfield 169) 3 46 := ⟨by decide +kernel, rfl⟩
theorem d_X4_readField_46 : zDc M_X4_readField 46 (.iload_n 1) 1 47 := ⟨by decide +kernel, rfl⟩
theorem d_X4_readField_47 : zDc M_X4_readField 47 (.aload_n 0) 1 48 := ⟨by decide +kernel, rfl⟩
theorem d_X4_readField_48 : zDc M_X4_readField 48 (.invokevirtual 149) 3 51 := ⟨by decide +kernel, rfl⟩
theorem d_X4_readField_51 : zDc M_X4_readField 51 (.iastore) 1 52 := ⟨by decide +kernel, rfl⟩
theorem d_X4_readField_52 : zDc M_X4_readField 52 (.aload_n 0) 1 53 := ⟨by decide +kernel, rfl⟩
theorem d_X4_readField_53 : zDc M_X4_readField 53 (.getfield 22) 3 56 := ⟨by decide +kernel, rfl⟩
theorem d_X4_readField_56 : zDc M_X4_readField 56 (.getfield 172) 3 59 := ⟨by decide +kernel, rfl⟩
theorem d_X4_readField_59 : zDc M_X4_readField 59 (.iload_n 1) 1 60 := ⟨by decide +kernel, rfl⟩
theorem d_X4_readField_60 : zDc M_X4_readField 60 (.aload_n 0) 1 61 := ⟨by decide +kernel, rfl⟩
theorem d_X4_readField_61 : zDc M_X4_readField 61 (.iconst 0) 1 62 := ⟨by decide +kernel, rfl⟩
theorem d_X4_readField_62 : zDc M_X4_readField 62 (.bipush 99) 2 64 := ⟨by decide +kernel, rfl⟩
theorem d_X4_readField_64 : zDc M_X4_readField 64 (.invokevirtual 142) 3 67 := ⟨by decide +kernel, rfl⟩
theorem d_X4_readField_67 : zDc M_X4_readField 67 (.iastore) 1 68 := ⟨by decide +kernel, rfl⟩
theorem d_X4_readField_68 : zDc M_X4_readField 68 (.aload_n 0) 1 69 := ⟨by decide +kernel, rfl⟩
theorem d_X4_readField_69 : zDc M_X4_readField 69 (.getfield 22) 3 72 := ⟨by decide +kernel, rfl⟩
theorem d_X4_readField_72 : zDc M_X4_readField 72 (.dup) 1 73 := ⟨by decide +kernel, rfl⟩
theorem d_X4_readField_73 : zDc M_X4_readField 73 (.getfield 155) 3 76 := ⟨by decide +kernel, rfl⟩
theorem d_X4_readField_76 : zDc M_X4_readField 76 (.iconst 1) 1 77 := ⟨by decide +kernel, rfl⟩
theorem d_X4_readField_77 : zDc M_X4_readField 77 (.iadd) 1 78 := ⟨by decide +kernel, rfl⟩
theorem d_X4_readField_78 : zDc M_X4_readField 78 (.putfield 155) 3 81 := ⟨by decide +kernel, rfl⟩
theorem d_X4_readField_81 : zDc M_X4_readField 81 (.return_) 1 82 := ⟨by decide +kernel, rfl⟩
def f_X4_readField (a0 : Nat) (h0 : zHp) : Option (Unit × zHp) :=
  zob (zgR h0 a0 4 10) (fun v1 =>
  zob (zgI h0 v1 6 13) (fun v2 =>
  zbd (zcv 4 a0 h0 (f_X4_hasRoom a0 v2 5 h0)) (fun v4 h3 =>
  if v4 = 0 then
  some ((), h3)
  else
  zob (zgR h3 a0 4 10) (fun v5 =>
  zob (zgR h3 v5 6 1) (fun v6 =>
  zob (zgR h3 a0 4 10) (fun v7 =>
  zob (zgR h3 v7 6 1) (fun v8 =>
  zbd (zcv 4 a0 h3 (f_X4_readName a0 v8 v2 h3)) (fun v10 h9 =>
  zob (zsI 0 h9 v6 v2 v10) (fun h11 =>
  zob (zgR h11 a0 4 10) (fun v12 =>
  zob (zgR h11 v12 6 2) (fun v13 =>
  zbd (zcv 4 a0 h11 (f_X4_readCell a0 h11)) (fun v15 h14 =>
  zob (zsI 0 h14 v13 v2 v15) (fun h16 =>
  zob (zgR h16 a0 4 10) (fun v17 =>
  zob (zgR h16 v17 6 3) (fun v18 =>
  zbd (zcv 4 a0 h16 (f_X4_readNumber a0 0 99 h16)) (fun v20 h19 =>
  zob (zsI 0 h19 v18 v2 v20) (fun h21 =>
  zob (zgR h21 a0 4 10) (fun v22 =>
  zob (zgI h21 v22 6 13) (fun v23 =>
  zob (zpV h21 v22 6 13 (.int (v23 + 1))) (fun h24 =>
  some ((), h24)))))))))))))))))))))
set_option maxRecDepth 100000 in
set_option maxHeartbeats 4000000 in
theorem t_X4_readField (a0 : Nat) (h0 : zHp) : ∀ (r : Unit) (h' : zHp), f_X4_readField a0 h0 = some (r, h') → zCt yX4_readField (.code yX4_readField cX4_readField 2 none) 5 148 0 0 [.ref a0] h0 (none) h' := by
  refine zct_of M_X4_readField yX4_readField (by decide) rfl rfl [.ref a0] h0 (Nat.le_of_ble_eq_true rfl) (fun _ => none) (fun X => ?_)
  show zG X M_X4_readField (0, 0) 0 [(0, .ref a0)] [] h0 (f_X4_readField a0 h0) (fun (_ : Unit) h' => zKe X (none) h')
  unfold f_X4_readField
  refine zg_aload_n 0 rfl d_X4_readField_0 ?_
  refine zg_getR d_X4_readField_1 zc_4 (by decide) fl_X4_22 (fun v1 => ?_)
  refine zg_getI d_X4_readField_4 zc_6 (by decide) fl_X4_155 (fun v2 => ?_)
  refine zg_istore_n [(1, .int v2), (0, .ref a0)] d_X4_readField_7 rfl (by decide) rfl ?_
  refine zg_aload_n 1 rfl d_X4_readField_8 ?_
  refine zg_iload_n 0 rfl d_X4_readField_9 ?_
  refine zg_iconst 5 rfl d_X4_readField_10 ?_
  refine zg_cVi (b := a0) (As := [.int v2, .int 5]) (rest := []) (0, 0) d_X4_readField_11 zc_4 rfl cw_X4_158 wi_X4_hasRoom ws_X4_hasRoom rfl rfl (Nat.le_of_ble_eq_true rfl) (by decide) (by decide) ⟨by decide, by decide⟩ rfl (t_X4_hasRoom a0 v2 5 h0) (fun v4 h3 => ?_)
  refine zg_if_ne d_X4_readField_14 ?_ ?_
  · exact zg_vretK d_X4_readField_17 rfl ⟨Nat.le_of_ble_eq_true rfl, Nat.le_of_ble_eq_true rfl⟩ (fun q => q)
  · refine zg_aload_n 1 rfl d_X4_readField_18 ?_
    refine zg_getR d_X4_readField_19 zc_4 (by decide) fl_X4_22 (fun v5 => ?_)
    refine zg_getR d_X4_readField_22 zc_6 (by decide) fl_X4_162 (fun v6 => ?_)
    refine zg_iload_n 0 rfl d_X4_readField_25 ?_
    refine zg_aload_n 1 rfl d_X4_readField_26 ?_
    refine zg_aload_n 1 rfl d_X4_readField_27 ?_
    refine zg_getR d_X4_readField_28 zc_4 (by decide) fl_X4_22 (fun v7 => ?_)
    refine zg_getR d_X4_readField_31 zc_6 (by decide) fl_X4_162 (fun v8 => ?_)
    refine zg_iload_n 0 rfl d_X4_readField_34 ?_
    refine zg_cVi (b := a0) (As := [.ref v8, .int v2]) (rest := [.int v2, .ref v6]) (0, 0) d_X4_readField_35 zc_4 rfl cw_X4_165 wi_X4_readName ws_X4_readName rfl rfl (Nat.le_of_ble_eq_true rfl) (by decide) (by decide) ⟨by decide, by decide⟩ rfl (t_X4_readName a0 v8 v2 h3) (fun v10 h9 => ?_)
    refine zg_ast0 d_X4_readField_38 (fun h11 => ?_)
    refine zg_aload_n 1 rfl d_X4_readField_39 ?_
    refine zg_getR d_X4_readField_40 zc_4 (by decide) fl_X4_22 (fun v12 => ?_)
    refine zg_getR d_X4_readField_43 zc_6 (by decide) fl_X4_169 (fun v13 => ?_)
    refine zg_iload_n 0 rfl d_X4_readField_46 ?_
    refine zg_aload_n 1 rfl d_X4_readField_47 ?_
    refine zg_cVi (b := a0) (As := []) (rest := [.int v2, .ref v13]) (0, 0) d_X4_readField_48 zc_4 rfl cw_X4_149 wi_X4_readCell ws_X4_readCell rfl rfl (Nat.le_of_ble_eq_true rfl) (by decide) (by decide) ⟨by decide, by decide⟩ rfl (t_X4_readCell a0 h11) (fun v15 h14 => ?_)
    refine zg_ast0 d_X4_readField_51 (fun h16 => ?_)
    refine zg_aload_n 1 rfl d_X4_readField_52 ?_
    refine zg_getR d_X4_readField_53 zc_4 (by decide) fl_X4_22 (fun v17 => ?_)
    refine zg_getR d_X4_readField_56 zc_6 (by decide) fl_X4_172 (fun v18 => ?_)
    refine zg_iload_n 0 rfl d_X4_readField_59 ?_
    refine zg_aload_n 1 rfl d_X4_readField_60 ?_
    refine zg_iconst 0 rfl d_X4_readField_61 ?_
    refine zg_bipush 99 rfl d_X4_readField_62 ?_
    refine zg_cVi (b := a0) (As := [.int 0, .int 99]) (rest := [.int v2, .ref v18]) (0, 0) d_X4_readField_64 zc_4 rfl cw_X4_142 wi_X4_readNumber ws_X4_readNumber rfl rfl (Nat.le_of_ble_eq_true rfl) (by decide) (by decide) ⟨by decide, by decide⟩ rfl (t_X4_readNumber a0 0 99 h16) (fun v20 h19 => ?_)
    refine zg_ast0 d_X4_readField_67 (fun h21 => ?_)
    refine zg_aload_n 1 rfl d_X4_readField_68 ?_
    refine zg_getR d_X4_readField_69 zc_4 (by decide) fl_X4_22 (fun v22 => ?_)
    refine zg_dup rfl d_X4_readField_72 ?_
    refine zg_getI d_X4_readField_73 zc_6 (by decide) fl_X4_155 (fun v23 => ?_)
    refine zg_iconst 1 rfl d_X4_readField_76 ?_
    refine zg_iadd d_X4_readField_77 ?_
    refine zg_putV d_X4_readField_78 zc_6 (by decide) fl_X4_155 rfl rfl rfl (fun h24 => ?_)
    exact zg_vretK d_X4_readField_81 rfl ⟨Nat.le_of_ble_eq_true rfl, Nat.le_of_ble_eq_true rfl⟩ (fun q => q)

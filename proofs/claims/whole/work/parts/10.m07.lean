theorem ml_X4_142 : Cond.methodLink RX4 142 yX4_readNumber ∈ zT := zw_of _ 667 (by decide +kernel) (by decide +kernel)
theorem cd_X4_readNumber : Cond.code yX4_readNumber cX4_readNumber 4 (some .int) ∈ zT := zw_of _ 670 (by decide +kernel) (by decide +kernel)
theorem cw_X4_142 : zCw RX4 142 yX4_readNumber cX4_readNumber 4 (some .int) 2 := ⟨ml_X4_142, ni_X4, cd_X4_readNumber, by decide, by decide, by decide +kernel⟩
theorem wi_X4_readNumber : Cond.instanceMethod yX4_readNumber ∈ zT := zw_of _ 669 (by decide +kernel) (by decide +kernel)
theorem ws_X4_readNumber : Cond.selects RX4 yX4_readNumber yX4_readNumber ∈ zT := zw_of _ 8 (by decide +kernel) (by decide +kernel)
theorem cd_X7_numberOf : Cond.code yX7_numberOf cX7_numberOf 4 (some .int) ∈ zT := zw_of _ 693 (by decide +kernel) (by decide +kernel)
theorem cn_X4_145 : zCn RX4 145 yX7_numberOf cX7_numberOf 4 (some .int) 3 := ⟨fun _ q => q.2.2.2.2.2.2.1, ni_X7, cd_X7_numberOf, by decide, by decide, by decide +kernel⟩
theorem wt_X7_numberOf : Cond.static yX7_numberOf ∈ zT := zw_of _ 692 (by decide +kernel) (by decide +kernel)
theorem fl_X4_190 : Cond.fieldLink RX4 190 (TX6 15).1 (TX6 15).2.1 (TX6 15).2.2.1 ∈ zT := zw_of _ 249 (by decide +kernel) (by decide +kernel)
theorem ml_X4_158 : Cond.methodLink RX4 158 yX4_hasRoom ∈ zT := zw_of _ 683 (by decide +kernel) (by decide +kernel)
theorem cd_X4_hasRoom : Cond.code yX4_hasRoom cX4_hasRoom 3 (some .boolean) ∈ zT := zw_of _ 686 (by decide +kernel) (by decide +kernel)
theorem cw_X4_158 : zCw RX4 158 yX4_hasRoom cX4_hasRoom 3 (some .boolean) 2 := ⟨ml_X4_158, ni_X4, cd_X4_hasRoom, by decide, by decide, by decide +kernel⟩
theorem wi_X4_hasRoom : Cond.instanceMethod yX4_hasRoom ∈ zT := zw_of _ 685 (by decide +kernel) (by decide +kernel)
theorem ws_X4_hasRoom : Cond.selects RX4 yX4_hasRoom yX4_hasRoom ∈ zT := zw_of _ 12 (by decide +kernel) (by decide +kernel)
theorem fl_X4_193 : Cond.fieldLink RX4 193 (TX6 8).1 (TX6 8).2.1 (TX6 8).2.2.1 ∈ zT := zw_of _ 222 (by decide +kernel) (by decide +kernel)
theorem ml_X4_165 : Cond.methodLink RX4 165 yX4_readName ∈ zT := zw_of _ 687 (by decide +kernel) (by decide +kernel)
theorem cd_X4_readName : Cond.code yX4_readName cX4_readName 4 (some .int) ∈ zT := zw_of _ 690 (by decide +kernel) (by decide +kernel)
theorem cw_X4_165 : zCw RX4 165 yX4_readName cX4_readName 4 (some .int) 2 := ⟨ml_X4_165, ni_X4, cd_X4_readName, by decide, by decide, by decide +kernel⟩
theorem wi_X4_readName : Cond.instanceMethod yX4_readName ∈ zT := zw_of _ 689 (by decide +kernel) (by decide +kernel)
theorem ws_X4_readName : Cond.selects RX4 yX4_readName yX4_readName ∈ zT := zw_of _ 13 (by decide +kernel) (by decide +kernel)
theorem fl_X4_196 : Cond.fieldLink RX4 196 (TX6 9).1 (TX6 9).2.1 (TX6 9).2.2.1 ∈ zT := zw_of _ 225 (by decide +kernel) (by decide +kernel)
theorem ml_X4_149 : Cond.methodLink RX4 149 yX4_readCell ∈ zT := zw_of _ 663 (by decide +kernel) (by decide +kernel)
theorem cd_X4_readCell : Cond.code yX4_readCell cX4_readCell 3 (some .int) ∈ zT := zw_of _ 666 (by decide +kernel) (by decide +kernel)
theorem cw_X4_149 : zCw RX4 149 yX4_readCell cX4_readCell 3 (some .int) 0 := ⟨ml_X4_149, ni_X4, cd_X4_readCell, by decide, by decide, by decide +kernel⟩
theorem wi_X4_readCell : Cond.instanceMethod yX4_readCell ∈ zT := zw_of _ 665 (by decide +kernel) (by decide +kernel)
theorem ws_X4_readCell : Cond.selects RX4 yX4_readCell yX4_readCell ∈ zT := zw_of _ 7 (by decide +kernel) (by decide +kernel)
theorem fl_X4_199 : Cond.fieldLink RX4 199 (TX6 10).1 (TX6 10).2.1 (TX6 10).2.2.1 ∈ zT := zw_of _ 230 (by decide +kernel) (by decide +kernel)
theorem fl_X4_175 : Cond.fieldLink RX4 175 (TX6 14).1 (TX6 14).2.1 (TX6 14).2.2.1 ∈ zT := zw_of _ 245 (by decide +kernel) (by decide +kernel)
theorem fl_X4_178 : Cond.fieldLink RX4 178 (TX6 4).1 (TX6 4).2.1 (TX6 4).2.2.1 ∈ zT := zw_of _ 210 (by decide +kernel) (by decide +kernel)
theorem fl_X4_181 : Cond.fieldLink RX4 181 (TX6 5).1 (TX6 5).2.1 (TX6 5).2.2.1 ∈ zT := zw_of _ 213 (by decide +kernel) (by decide +kernel)
theorem fl_X4_184 : Cond.fieldLink RX4 184 (TX6 6).1 (TX6 6).2.1 (TX6 6).2.2.1 ∈ zT := zw_of _ 216 (by decide +kernel) (by decide +kernel)
theorem fl_X4_187 : Cond.fieldLink RX4 187 (TX6 7).1 (TX6 7).2.1 (TX6 7).2.2.1 ∈ zT := zw_of _ 218 (by decide +kernel) (by decide +kernel)
theorem fl_X4_155 : Cond.fieldLink RX4 155 (TX6 13).1 (TX6 13).2.1 (TX6 13).2.2.1 ∈ zT := zw_of _ 241 (by decide +kernel) (by decide +kernel)
theorem fl_X4_162 : Cond.fieldLink RX4 162 (TX6 1).1 (TX6 1).2.1 (TX6 1).2.2.1 ∈ zT := zw_of _ 199 (by decide +kernel) (by decide +kernel)
theorem fl_X4_169 : Cond.fieldLink RX4 169 (TX6 2).1 (TX6 2).2.1 (TX6 2).2.2.1 ∈ zT := zw_of _ 202 (by decide +kernel) (by decide +kernel)
theorem fl_X4_172 : Cond.fieldLink RX4 172 (TX6 3).1 (TX6 3).2.1 (TX6 3).2.2.1 ∈ zT := zw_of _ 207 (by decide +kernel) (by decide +kernel)
theorem fl_X4_152 : Cond.fieldLink RX4 152 (TX6 0).1 (TX6 0).2.1 (TX6 0).2.2.1 ∈ zT := zw_of _ 196 (by decide +kernel) (by decide +kernel)
theorem ml_X4_246 : Cond.methodLink RX4 246 yX4_placeAbove ∈ zT := zw_of _ 770 (by decide +kernel) (by decide +kernel)
theorem cd_X4_placeAbove : Cond.code yX4_placeAbove cX4_placeAbove 2 none ∈ zT := zw_of _ 773 (by decide +kernel) (by decide +kernel)
theorem cw_X4_246 : zCw RX4 246 yX4_placeAbove cX4_placeAbove 2 none 1 := ⟨ml_X4_246, ni_X4, cd_X4_placeAbove, by decide, by decide, by decide +kernel⟩
theorem wi_X4_placeAbove : Cond.instanceMethod yX4_placeAbove ∈ zT := zw_of _ 772 (by decide +kernel) (by decide +kernel)
theorem ws_X4_placeAbove : Cond.selects RX4 yX4_placeAbove yX4_placeAbove ∈ zT := zw_of _ 29 (by decide +kernel) (by decide +kernel)
theorem ml_X4_273 : Cond.methodLink RX4 273 Lib.Math.max.name ∈ zT := zw_of _ 774 (by decide +kernel) (by decide +kernel)
theorem ml_X4_222 : Cond.methodLink RX4 222 yX2_isTold ∈ zT := zw_of _ 727 (by decide +kernel) (by decide +kernel)
theorem cw_X4_222 : zCw RX4 222 yX2_isTold cX2_isTold 2 (some .boolean) 1 := ⟨ml_X4_222, ni_X2, cd_X2_isTold, by decide, by decide, by decide +kernel⟩
theorem ml_X4_227 : Cond.methodLink RX4 227 yX2_open ∈ zT := zw_of _ 731 (by decide +kernel) (by decide +kernel)
theorem cd_X2_open : Cond.code yX2_open cX2_open 2 none ∈ zT := zw_of _ 734 (by decide +kernel) (by decide +kernel)
theorem cw_X4_227 : zCw RX4 227 yX2_open cX2_open 2 none 1 := ⟨ml_X4_227, ni_X2, cd_X2_open, by decide, by decide, by decide +kernel⟩
theorem wi_X2_open : Cond.instanceMethod yX2_open ∈ zT := zw_of _ 732 (by decide +kernel) (by decide +kernel)
theorem ws_X2_open : Cond.selects RX2 yX2_open yX2_open ∈ zT := zw_of _ 733 (by decide +kernel) (by decide +kernel)
theorem ml_X4_236 : Cond.methodLink RX4 236 yX4_readAheadOfPart ∈ zT := zw_of _ 735 (by decide +kernel) (by decide +kernel)
theorem cd_X4_readAheadOfPart : Cond.code yX4_readAheadOfPart cX4_readAheadOfPart 2 none ∈ zT := zw_of _ 738 (by decide +kernel) (by decide +kernel)
theorem cw_X4_236 : zCw RX4 236 yX4_readAheadOfPart cX4_readAheadOfPart 2 none 0 := ⟨ml_X4_236, ni_X4, cd_X4_readAheadOfPart, by decide, by decide, by decide +kernel⟩
theorem wi_X4_readAheadOfPart : Cond.instanceMethod yX4_readAheadOfPart ∈ zT := zw_of _ 737 (by decide +kernel) (by decide +kernel)
theorem ws_X4_readAheadOfPart : Cond.selects RX4 yX4_readAheadOfPart yX4_readAheadOfPart ∈ zT := zw_of _ 22 (by decide +kernel) (by decide +kernel)
theorem ml_X4_239 : Cond.methodLink RX4 239 yX4_readPart ∈ zT := zw_of _ 758 (by decide +kernel) (by decide +kernel)
theorem cd_X4_readPart : Cond.code yX4_readPart cX4_readPart 1 none ∈ zT := zw_of _ 761 (by decide +kernel) (by decide +kernel)
theorem cw_X4_239 : zCw RX4 239 yX4_readPart cX4_readPart 1 none 0 := ⟨ml_X4_239, ni_X4, cd_X4_readPart, by decide, by decide, by decide +kernel⟩
theorem wi_X4_readPart : Cond.instanceMethod yX4_readPart ∈ zT := zw_of _ 760 (by decide +kernel) (by decide +kernel)
theorem ws_X4_readPart : Cond.selects RX4 yX4_readPart yX4_readPart ∈ zT := zw_of _ 27 (by decide +kernel) (by decide +kernel)
theorem ml_X4_242 : Cond.methodLink RX4 242 yX4_readSign ∈ zT := zw_of _ 766 (by decide +kernel) (by decide +kernel)
theorem cd_X4_readSign : Cond.code yX4_readSign cX4_readSign 2 (some .boolean) ∈ zT := zw_of _ 769 (by decide +kernel) (by decide +kernel)
theorem cw_X4_242 : zCw RX4 242 yX4_readSign cX4_readSign 2 (some .boolean) 0 := ⟨ml_X4_242, ni_X4, cd_X4_readSign, by decide, by decide, by decide +kernel⟩
theorem wi_X4_readSign : Cond.instanceMethod yX4_readSign ∈ zT := zw_of _ 768 (by decide +kernel) (by decide +kernel)
theorem ws_X4_readSign : Cond.selects RX4 yX4_readSign yX4_readSign ∈ zT := zw_of _ 28 (by decide +kernel) (by decide +kernel)
theorem ml_X4_249 : Cond.methodLink RX4 249 yX2_close ∈ zT := zw_of _ 777 (by decide +kernel) (by decide +kernel)
theorem cd_X2_close : Cond.code yX2_close cX2_close 2 none ∈ zT := zw_of _ 780 (by decide +kernel) (by decide +kernel)
theorem cw_X4_249 : zCw RX4 249 yX2_close cX2_close 2 none 1 := ⟨ml_X4_249, ni_X2, cd_X2_close, by decide, by decide, by decide +kernel⟩
theorem wi_X2_close : Cond.instanceMethod yX2_close ∈ zT := zw_of _ 778 (by decide +kernel) (by decide +kernel)
theorem ws_X2_close : Cond.selects RX2 yX2_close yX2_close ∈ zT := zw_of _ 779 (by decide +kernel) (by decide +kernel)
theorem fl_X4_59 : Cond.fieldLink RX4 59 (TX4 9).1 (TX4 9).2.1 (TX4 9).2.2.1 ∈ zT := zw_of _ 350 (by decide +kernel) (by decide +kernel)
theorem ml_X4_208 : Cond.methodLink RX4 208 yX4_readOnceWord ∈ zT := zw_of _ 710 (by decide +kernel) (by decide +kernel)
theorem cd_X4_readOnceWord : Cond.code yX4_readOnceWord cX4_readOnceWord 2 none ∈ zT := zw_of _ 713 (by decide +kernel) (by decide +kernel)
theorem cw_X4_208 : zCw RX4 208 yX4_readOnceWord cX4_readOnceWord 2 none 0 := ⟨ml_X4_208, ni_X4, cd_X4_readOnceWord, by decide, by decide, by decide +kernel⟩
theorem wi_X4_readOnceWord : Cond.instanceMethod yX4_readOnceWord ∈ zT := zw_of _ 712 (by decide +kernel) (by decide +kernel)
theorem ws_X4_readOnceWord : Cond.selects RX4 yX4_readOnceWord yX4_readOnceWord ∈ zT := zw_of _ 18 (by decide +kernel) (by decide +kernel)
theorem fl_X4_214 : Cond.fieldLink RX4 214 (TX6 18).1 (TX6 18).2.1 (TX6 18).2.2.1 ∈ zT := zw_of _ 258 (by decide +kernel) (by decide +kernel)
abbrev M_X4_readCell : zMt := (RX4, cX4_readCell, 3, 4, 126, (some .int), "readCell", 0, 0)
theorem d_X4_readCell_0 : zDc M_X4_readCell 0 (.aload_n 0) 1 1 := ⟨by decide +kernel, rfl⟩
theorem d_X4_readCell_1 : zDc M_X4_readCell 1 (.iconst 0) 1 2 := ⟨by decide +kernel, rfl⟩
theorem d_X4_readCell_2 : zDc M_X4_readCell 2 (.iconst 5) 1 3 := ⟨by decide +kernel, rfl⟩
theorem d_X4_readCell_3 : zDc M_X4_readCell 3 (.invokevirtual 142) 3 6 := ⟨by decide +kernel, rfl⟩
theorem d_X4_readCell_6 : zDc M_X4_readCell 6 (.istore_n 1) 1 7 := ⟨by decide +kernel, rfl⟩
theorem d_X4_readCell_7 : zDc M_X4_readCell 7 (.aload_n 0) 1 8 := ⟨by decide +kernel, rfl⟩
theorem d_X4_readCell_8 : zDc M_X4_readCell 8 (.iconst 0) 1 9 := ⟨by decide +kernel, rfl⟩
theorem d_X4_readCell_9 : zDc M_X4_readCell 9 (.iconst 3) 1 10 := ⟨by decide +kernel, rfl⟩
theorem d_X4_readCell_10 : zDc M_X4_readCell 10 (.invokevirtual 142) 3 13 := ⟨by decide +kernel, rfl⟩
theorem d_X4_readCell_13 : zDc M_X4_readCell 13 (.istore_n 2) 1 14 := ⟨by decide +kernel, rfl⟩
theorem d_X4_readCell_14 : zDc M_X4_readCell 14 (.aload_n 0) 1 15 := ⟨by decide +kernel, rfl⟩
theorem d_X4_readCell_15 : zDc M_X4_readCell 15 (.getfield 29) 3 18 := ⟨by decide +kernel, rfl⟩
theorem d_X4_readCell_18 : zDj M_X4_readCell 18 (.ifCond .ne 12) 12 21 30 := ⟨by decide +kernel, rfl, by decide⟩
theorem d_X4_readCell_21 : zDc M_X4_readCell 21 (.bipush 6) 2 23 := ⟨by decide +kernel, rfl⟩
theorem d_X4_readCell_23 : zDc M_X4_readCell 23 (.iload_n 2) 1 24 := ⟨by decide +kernel, rfl⟩
theorem d_X4_readCell_24 : zDc M_X4_readCell 24 (.imul) 1 25 := ⟨by decide +kernel, rfl⟩
theorem d_X4_readCell_25 : zDc M_X4_readCell 25 (.iload_n 1) 1 26 := ⟨by decide +kernel, rfl⟩
theorem d_X4_readCell_26 : zDc M_X4_readCell 26 (.iadd) 1 27 := ⟨by decide +kernel, rfl⟩
theorem d_X4_readCell_27 : zDj M_X4_readCell 27 (.goto 4) 4 30 31 := ⟨by decide +kernel, rfl, by decide⟩
theorem d_X4_readCell_30 : zDc M_X4_readCell 30 (.iconst (-1)) 1 31 := ⟨by decide +kernel, rfl⟩
theorem d_X4_readCell_31 : zDc M_X4_readCell 31 (.ireturn) 1 32 := ⟨by decide +kernel, rfl⟩
def f_X4_readCell (a0 : Nat) (h0 : zHp) : Option (Int32 × zHp) :=
  zbd (zcv 4 a0 h0 (f_X4_readNumber a0 0 5 h0)) (fun v2 h1 =>
  zbd (zcv 4 a0 h1 (f_X4_readNumber a0 0 3 h1)) (fun v4 h3 =>
  zob (zgI h3 a0 4 14) (fun v5 =>
  if v5 = 0 then
  some (((6 * v4) + v2), h3)
  else
  some ((-1), h3))))
set_option maxRecDepth 100000 in
set_option maxHeartbeats 4000000 in
theorem t_X4_readCell (a0 : Nat) (h0 : zHp) : ∀ (r : Int32) (h' : zHp), f_X4_readCell a0 h0 = some (r, h') → zCt yX4_readCell (.code yX4_readCell cX4_readCell 3 (some .int)) 4 126 0 0 [.ref a0] h0 (some (.int r)) h' := by
  refine zct_of M_X4_readCell yX4_readCell (by decide) rfl rfl [.ref a0] h0 (Nat.le_of_ble_eq_true rfl) (fun r => some (.int r)) (fun X => ?_)
  show zG X M_X4_readCell (0, 0) 0 [(0, .ref a0)] [] h0 (f_X4_readCell a0 h0) (fun (r : Int32) h' => zKe X (some (.int r)) h')
  unfold f_X4_readCell
  refine zg_aload_n 0 rfl d_X4_readCell_0 ?_
  refine zg_iconst 0 rfl d_X4_readCell_1 ?_
  refine zg_iconst 5 rfl d_X4_readCell_2 ?_
  refine zg_cVi (b := a0) (As := [.int 0, .int 5]) (rest := []) (0, 0) d_X4_readCell_3 zc_4 rfl cw_X4_142 wi_X4_readNumber ws_X4_readNumber rfl rfl (Nat.le_of_ble_eq_true rfl) (by decide) (by decide) ⟨by decide, by decide⟩ rfl (t_X4_readNumber a0 0 5 h0) (fun v2 h1 => ?_)
  refine zg_istore_n [(1, .int v2), (0, .ref a0)] d_X4_readCell_6 rfl (by decide) rfl ?_
  refine zg_aload_n 1 rfl d_X4_readCell_7 ?_
  refine zg_iconst 0 rfl d_X4_readCell_8 ?_
  refine zg_iconst 3 rfl d_X4_readCell_9 ?_
  refine zg_cVi (b := a0) (As := [.int 0, .int 3]) (rest := []) (0, 0) d_X4_readCell_10 zc_4 rfl cw_X4_142 wi_X4_readNumber ws_X4_readNumber rfl rfl (Nat.le_of_ble_eq_true rfl) (by decide) (by decide) ⟨by decide, by decide⟩ rfl (t_X4_readNumber a0 0 3 h1) (fun v4 h3 => ?_)
  refine zg_istore_n [(2, .int v4), (1, .int v2), (0, .ref a0)] d_X4_readCell_13 rfl (by decide) rfl ?_
  refine zg_aload_n 2 rfl d_X4_readCell_14 ?_
  refine zg_getI d_X4_readCell_15 zc_4 (by decide) fl_X4_29 (fun v5 => ?_)
  refine zg_if_ne d_X4_readCell_18 ?_ ?_
  · refine zg_bipush 6 rfl d_X4_readCell_21 ?_
    refine zg_iload_n 0 rfl d_X4_readCell_23 ?_
    refine zg_imul d_X4_readCell_24 ?_
    refine zg_iload_n 1 rfl d_X4_readCell_25 ?_
    refine zg_iadd d_X4_readCell_26 ?_
    refine zg_goto d_X4_readCell_27 ?_
    exact zg_iretK d_X4_readCell_31 rfl ⟨Nat.le_of_ble_eq_true rfl, Nat.le_of_ble_eq_true rfl⟩ (fun q => q)
  · refine zg_iconst (-1) rfl d_X4_readCell_30 ?_
    exact zg_iretK d_X4_readCell_31 rfl ⟨Nat.le_of_ble_eq_true rfl, Nat.le_of_ble_eq_true rfl⟩ (fun q => q)
abbrev M_X7_numberOf : zMt := (RX7, cX7_numberOf, 4, 1, 60, (some .int), "numberOf", 0, 0)
theorem d_X7_numberOf_0 : zDc M_X7_numberOf 0 (.iconst 0) 1 1 := ⟨by decide +kernel, rfl⟩
theorem d_X7_numberOf_1 : zDc M_X7_numberOf 1 (.istore_n 3) 1 2 := ⟨by decide +kernel, rfl⟩
theorem d_X7_numberOf_2 : zDc M_X7_numberOf 2 (.iload_n 3) 1 3 := ⟨by decide +kernel, rfl⟩
theorem d_X7_numberOf_3 : zDc M_X7_numberOf 3 (.iload_n 1) 1 4 := ⟨by decide +kernel, rfl⟩
theorem d_X7_numberOf_4 : zDj M_X7_numberOf 4 (.if_icmp .ge 24) 24 7 28 := ⟨by decide +kernel, rfl, by decide⟩
theorem d_X7_numberOf_7 : zDc M_X7_numberOf 7 (.iload_n 3) 1 8 := ⟨by decide +kernel, rfl⟩
theorem d_X7_numberOf_8 : zDc M_X7_numberOf 8 (.aload_n 0) 1 9 := ⟨by decide +kernel, rfl⟩
theorem d_X7_numberOf_9 : zDc M_X7_numberOf 9 (.arraylength) 1 10 := ⟨by decide +kernel, rfl⟩
theorem d_X7_numberOf_10 : zDj M_X7_numberOf 10 (.if_icmp .ge 18) 18 13 28 := ⟨by decide +kernel, rfl, by decide⟩
theorem d_X7_numberOf_13 : zDc M_X7_numberOf 13 (.aload_n 0) 1 14 := ⟨by decide +kernel, rfl⟩
theorem d_X7_numberOf_14 : zDc M_X7_numberOf 14 (.iload_n 3) 1 15 := ⟨by decide +kernel, rfl⟩
theorem d_X7_numberOf_15 : zDc M_X7_numberOf 15 (.iaload) 1 16 := ⟨by decide +kernel, rfl⟩
theorem d_X7_numberOf_16 : zDc M_X7_numberOf 16 (.iload_n 2) 1 17 := ⟨by decide +kernel, rfl⟩
theorem d_X7_numberOf_17 : zDj M_X7_numberOf 17 (.if_icmp .ne 5) 5 20 22 := ⟨by decide +kernel, rfl, by decide⟩
theorem d_X7_numberOf_20 : zDc M_X7_numberOf 20 (.iload_n 3) 1 21 := ⟨by decide +kernel, rfl⟩
theorem d_X7_numberOf_21 : zDc M_X7_numberOf 21 (.ireturn) 1 22 := ⟨by decide +kernel, rfl⟩
theorem d_X7_numberOf_22 : zDc M_X7_numberOf 22 (.iinc 3 1) 3 25 := ⟨by decide +kernel, rfl⟩
theorem d_X7_numberOf_25 : zDj M_X7_numberOf 25 (.goto (-23)) (-23) 28 2 := ⟨by decide +kernel, rfl, by decide⟩
theorem d_X7_numberOf_28 : zDc M_X7_numberOf 28 (.iconst (-1)) 1 29 := ⟨by decide +kernel, rfl⟩
theorem d_X7_numberOf_29 : zDc M_X7_numberOf 29 (.ireturn) 1 30 := ⟨by decide +kernel, rfl⟩
def f_X7_numberOf (a0 : Nat) (a1 : Int32) (a2 : Int32) (h0 : zHp) : Option (Int32 × zHp) :=
  zbd (
  zlp (σ := Int32) (β := (Int32 ⊕ Int32)) zLF (fun s1 h2 =>
  if a1 ≤ s1 then
  some ((.inr (.inl s1)), h2)
  else
  zob (zln h2 a0) (fun v5 =>
  if v5 ≤ s1 then
  some ((.inr (.inl s1)), h2)
  else
  zob (zaI 0 h2 a0 s1) (fun v6 =>
  if v6 = a2 then
  some ((.inr (.inr s1)), h2)
  else
  some ((.inl (s1 + 1)), h2)))) 0 h0) (fun b7 h4 => zsl b7 (fun e3 =>
  some ((-1), h4)) (fun r => some (r, h4)))
set_option maxRecDepth 100000 in
set_option maxHeartbeats 4000000 in
theorem t_X7_numberOf (a0 : Nat) (a1 : Int32) (a2 : Int32) (h0 : zHp) : ∀ (r : Int32) (h' : zHp), f_X7_numberOf a0 a1 a2 h0 = some (r, h') → zCt yX7_numberOf (.code yX7_numberOf cX7_numberOf 4 (some .int)) 1 60 0 0 [.ref a0, .int a1, .int a2] h0 (some (.int r)) h' := by
  refine zct_of M_X7_numberOf yX7_numberOf (by decide) rfl rfl [.ref a0, .int a1, .int a2] h0 (Nat.le_of_ble_eq_true rfl) (fun r => some (.int r)) (fun X => ?_)
  show zG X M_X7_numberOf (0, 0) 0 [(0, .ref a0), (1, .int a1), (2, .int a2)] [] h0 (f_X7_numberOf a0 a1 a2 h0) (fun (r : Int32) h' => zKe X (some (.int r)) h')
  unfold f_X7_numberOf
  refine zg_iconst 0 rfl d_X7_numberOf_0 ?_
  refine zg_istore_n [(3, .int 0), (0, .ref a0), (1, .int a1), (2, .int a2)] d_X7_numberOf_1 rfl (by decide) rfl ?_
  refine zg_bdr (E := 28) (el := (fun (e3 : Int32) => [(0, .ref a0), (1, .int a1), (2, .int a2), (3, .int e3)])) (es := fun _ => []) (zg_sub [1, 2, 3, 0] rfl (zg_lp (el := (fun (s1 : Int32) => [(0, .ref a0), (1, .int a1), (2, .int a2), (3, .int s1)])) (fun s1 h2 => ?_) 0 h0)) (fun e3 h4 => ?_)
  · refine zg_iload_n 3 rfl d_X7_numberOf_2 ?_
    refine zg_iload_n 1 rfl d_X7_numberOf_3 ?_
    refine zg_icmp_ge d_X7_numberOf_4 ?_ ?_
    · exact zg_finK (E := 0) [0, 1, 2, 3] rfl rfl (fun q => q)
    · refine zg_iload_n 3 rfl d_X7_numberOf_7 ?_
      refine zg_aload_n 0 rfl d_X7_numberOf_8 ?_
      refine zg_len d_X7_numberOf_9 (fun v5 => ?_)
      refine zg_icmp_ge d_X7_numberOf_10 ?_ ?_
      · exact zg_finK (E := 0) [0, 1, 2, 3] rfl rfl (fun q => q)
      · refine zg_aload_n 0 rfl d_X7_numberOf_13 ?_
        refine zg_iload_n 3 rfl d_X7_numberOf_14 ?_
        refine zg_ald0 d_X7_numberOf_15 (fun v6 => ?_)
        refine zg_iload_n 2 rfl d_X7_numberOf_16 ?_
        refine zg_icmp_ne d_X7_numberOf_17 ?_ ?_
        · refine zg_iload_n 3 rfl d_X7_numberOf_20 ?_
          exact zg_iretK d_X7_numberOf_21 rfl ⟨Nat.le_of_ble_eq_true rfl, Nat.le_of_ble_eq_true rfl⟩ (fun q => q)
        · refine zg_iinc 3 (s1 + 1) [(3, .int (s1 + 1)), (0, .ref a0), (1, .int a1), (2, .int a2)] d_X7_numberOf_22 rfl rfl (by decide) rfl ?_
          refine zg_goto d_X7_numberOf_25 ?_
          exact zg_finK (E := 0) [1, 2, 3, 0] rfl rfl (fun q => q)
  · refine zg_iconst (-1) rfl d_X7_numberOf_28 ?_
    exact zg_iretK d_X7_numberOf_29 rfl ⟨Nat.le_of_ble_eq_true rfl, Nat.le_of_ble_eq_true rfl⟩ (fun q => q)
abbrev M_X4_readName : zMt := (RX4, cX4_readName, 4, 3, 103, (some .int), "readName", 0, 0)
theorem d_X4_readName_0 : zDc M_X4_readName 0 (.aload_n 0) 1 1 := ⟨by decide +kernel, rfl⟩
theorem d_X4_readName_1 : zDc M_X4_readName 1 (.getfield 65) 3 4 := ⟨by decide +kernel, rfl⟩
theorem d_X4_readName_4 : zDc M_X4_readName 4 (.bipush 36) 2 6 := ⟨by decide +kernel, rfl⟩
theorem d_X4_readName_6 : zDj M_X4_readName 6 (.if_icmp .eq 10) 10 9 16 := ⟨by decide +kernel, rfl, by decide⟩
theorem d_X4_readName_9 : zDc M_X4_readName 9 (.aload_n 0) 1 10 := ⟨by decide +kernel, rfl⟩
theorem d_X4_readName_10 : zDc M_X4_readName 10 (.iconst 1) 1 11 := ⟨by decide +kernel, rfl⟩
theorem d_X4_readName_11 : zDc M_X4_readName 11 (.invokevirtual 82) 3 14 := ⟨by decide +kernel, rfl⟩
theorem d_X4_readName_14 : zDc M_X4_readName 14 (.iconst 0) 1 15 := ⟨by decide +kernel, rfl⟩
theorem d_X4_readName_15 : zDc M_X4_readName 15 (.ireturn) 1 16 := ⟨by decide +kernel, rfl⟩
theorem d_X4_readName_16 : zDc M_X4_readName 16 (.aload_n 1) 1 17 := ⟨by decide +kernel, rfl⟩
theorem d_X4_readName_17 : zDc M_X4_readName 17 (.iload_n 2) 1 18 := ⟨by decide +kernel, rfl⟩
theorem d_X4_readName_18 : zDc M_X4_readName 18 (.aload_n 0) 1 19 := ⟨by decide +kernel, rfl⟩
theorem d_X4_readName_19 : zDc M_X4_readName 19 (.getfield 105) 3 22 := ⟨by decide +kernel, rfl⟩
theorem d_X4_readName_22 : zDc M_X4_readName 22 (.invokestatic 145) 3 25 := ⟨by decide +kernel, rfl⟩
theorem d_X4_readName_25 : zDc M_X4_readName 25 (.iconst (-1)) 1 26 := ⟨by decide +kernel, rfl⟩
theorem d_X4_readName_26 : zDj M_X4_readName 26 (.if_icmp .eq 8) 8 29 34 := ⟨by decide +kernel, rfl, by decide⟩
theorem d_X4_readName_29 : zDc M_X4_readName 29 (.aload_n 0) 1 30 := ⟨by decide +kernel, rfl⟩
theorem d_X4_readName_30 : zDc M_X4_readName 30 (.iconst 3) 1 31 := ⟨by decide +kernel, rfl⟩
theorem d_X4_readName_31 : zDc M_X4_readName 31 (.invokevirtual 82) 3 34 := ⟨by decide +kernel, rfl⟩
theorem d_X4_readName_34 : zDc M_X4_readName 34 (.aload_n 0) 1 35 := ⟨by decide +kernel, rfl⟩
theorem d_X4_readName_35 : zDc M_X4_readName 35 (.getfield 105) 3 38 := ⟨by decide +kernel, rfl⟩
theorem d_X4_readName_38 : zDc M_X4_readName 38 (.istore_n 3) 1 39 := ⟨by decide +kernel, rfl⟩
theorem d_X4_readName_39 : zDc M_X4_readName 39 (.aload_n 0) 1 40 := ⟨by decide +kernel, rfl⟩
theorem d_X4_readName_40 : zDc M_X4_readName 40 (.invokevirtual 62) 3 43 := ⟨by decide +kernel, rfl⟩
theorem d_X4_readName_43 : zDc M_X4_readName 43 (.iload_n 3) 1 44 := ⟨by decide +kernel, rfl⟩
theorem d_X4_readName_44 : zDc M_X4_readName 44 (.ireturn) 1 45 := ⟨by decide +kernel, rfl⟩
def f_X4_readName (a0 : Nat) (a1 : Nat) (a2 : Int32) (h0 : zHp) : Option (Int32 × zHp) :=
  zob (zgI h0 a0 4 4) (fun v1 =>
  if v1 = 36 then
  zob (zgI h0 a0 4 7) (fun v2 =>
  zbd ((f_X7_numberOf a1 a2 v2 h0)) (fun v4 h3 =>
  zbd (α := Unit) (
  if v4 = (-1) then
  some ((), h3)
  else
  zbd (zcv 4 a0 h3 (f_X4_fail a0 3 h3)) (fun v6 h5 =>
  some ((), h5))) (fun e7 h8 =>
  zob (zgI h8 a0 4 7) (fun v9 =>
  zbd (zcv 4 a0 h8 (f_X4_advance a0 h8)) (fun v11 h10 =>
  some (v9, h10))))))
  else
  zbd (zcv 4 a0 h0 (f_X4_fail a0 1 h0)) (fun v13 h12 =>
  some (0, h12)))
set_option maxRecDepth 100000 in
set_option maxHeartbeats 4000000 in
theorem t_X4_readName (a0 : Nat) (a1 : Nat) (a2 : Int32) (h0 : zHp) : ∀ (r : Int32) (h' : zHp), f_X4_readName a0 a1 a2 h0 = some (r, h') → zCt yX4_readName (.code yX4_readName cX4_readName 4 (some .int)) 3 103 0 0 [.ref a0, .ref a1, .int a2] h0 (some (.int r)) h' := by
  refine zct_of M_X4_readName yX4_readName (by decide) rfl rfl [.ref a0, .ref a1, .int a2] h0 (Nat.le_of_ble_eq_true rfl) (fun r => some (.int r)) (fun X => ?_)
  show zG X M_X4_readName (0, 0) 0 [(0, .ref a0), (1, .ref a1), (2, .int a2)] [] h0 (f_X4_readName a0 a1 a2 h0) (fun (r : Int32) h' => zKe X (some (.int r)) h')
  unfold f_X4_readName
  refine zg_aload_n 0 rfl d_X4_readName_0 ?_
  refine zg_getI d_X4_readName_1 zc_4 (by decide) fl_X4_65 (fun v1 => ?_)
  refine zg_bipush 36 rfl d_X4_readName_4 ?_
  refine zg_icmp_eq d_X4_readName_6 ?_ ?_
  · refine zg_aload_n 1 rfl d_X4_readName_16 ?_
    refine zg_iload_n 2 rfl d_X4_readName_17 ?_
    refine zg_aload_n 0 rfl d_X4_readName_18 ?_
    refine zg_getI d_X4_readName_19 zc_4 (by decide) fl_X4_105 (fun v2 => ?_)
    refine zg_cSNi (As := [.ref a1, .int a2, .int v2]) (rest := []) (0, 0) d_X4_readName_22 cn_X4_145 wt_X7_numberOf rfl rfl (Nat.le_of_ble_eq_true rfl) (by decide) (by decide) ⟨by decide, by decide⟩ rfl (t_X7_numberOf a1 a2 v2 h0) (fun v4 h3 => ?_)
    refine zg_iconst (-1) rfl d_X4_readName_25 ?_
    refine zg_bd (E := 34) (el := (fun (e7 : Unit) => [(0, .ref a0), (1, .ref a1), (2, .int a2)])) (es := (fun (e7 : Unit) => [])) ?_ (fun e7 h8 => ?_)
    · refine zg_icmp_eq d_X4_readName_26 ?_ ?_
      · exact zg_finK (E := 0) [0, 1, 2] rfl rfl (fun q => q)
      · refine zg_aload_n 0 rfl d_X4_readName_29 ?_
        refine zg_iconst 3 rfl d_X4_readName_30 ?_
        refine zg_cVv (b := a0) (As := [.int 3]) (rest := []) (0, 0) d_X4_readName_31 zc_4 rfl cw_X4_82 wi_X4_fail ws_X4_fail rfl rfl (Nat.le_of_ble_eq_true rfl) (by decide) (by decide) ⟨by decide, by decide⟩ rfl (t_X4_fail a0 3 h3) (fun v6 h5 => ?_)
        exact zg_finK (E := 0) [0, 1, 2] rfl rfl (fun q => q)
    · refine zg_aload_n 0 rfl d_X4_readName_34 ?_
      refine zg_getI d_X4_readName_35 zc_4 (by decide) fl_X4_105 (fun v9 => ?_)
      refine zg_istore_n [(3, .int v9), (0, .ref a0), (1, .ref a1), (2, .int a2)] d_X4_readName_38 rfl (by decide) rfl ?_
      refine zg_aload_n 1 rfl d_X4_readName_39 ?_
      refine zg_cVv (b := a0) (As := []) (rest := []) (0, 0) d_X4_readName_40 zc_4 rfl cw_X4_62 wi_X4_advance ws_X4_advance rfl rfl (Nat.le_of_ble_eq_true rfl) (by decide) (by decide) ⟨by decide, by decide⟩ rfl (t_X4_advance a0 h8) (fun v11 h10 => ?_)
      refine zg_iload_n 0 rfl d_X4_readName_43 ?_
      exact zg_iretK d_X4_readName_44 rfl ⟨Nat.le_of_ble_eq_true rfl, Nat.le_of_ble_eq_true rfl⟩ (fun q => q)
  · refine zg_aload_n 0 rfl d_X4_readName_9 ?_
    refine zg_iconst 1 rfl d_X4_readName_10 ?_
    refine zg_cVv (b := a0) (As := [.int 1]) (rest := []) (0, 0) d_X4_readName_11 zc_4 rfl cw_X4_82 wi_X4_fail ws_X4_fail rfl rfl (Nat.le_of_ble_eq_true rfl) (by decide) (by decide) ⟨by decide, by decide⟩ rfl (t_X4_fail a0 1 h0) (fun v13 h12 => ?_)
    refine zg_iconst 0 rfl d_X4_readName_14 ?_
    exact zg_iretK d_X4_readName_15 rfl ⟨Nat.le_of_ble_eq_true rfl, Nat.le_of_ble_eq_true rfl⟩ (fun q => q)
abbrev M_X4_readChild : zMt := (RX4, cX4_readChild, 2, 5, 148, none, "readChild", 0, 0)
theorem d_X4_readChild_0 : zDc M_X4_readChild 0 (.aload_n 0) 1 1 := ⟨by decide +kernel, rfl⟩
theorem d_X4_readChild_1 : zDc M_X4_readChild 1 (.getfield 22) 3 4 := ⟨by decide +kernel, rfl⟩
theorem d_X4_readChild_4 : zDc M_X4_readChild 4 (.getfield 190) 3 7 := ⟨by decide +kernel, rfl⟩
theorem d_X4_readChild_7 : zDc M_X4_readChild 7 (.istore_n 1) 1 8 := ⟨by decide +kernel, rfl⟩
theorem d_X4_readChild_8 : zDc M_X4_readChild 8 (.aload_n 0) 1 9 := ⟨by decide +kernel, rfl⟩
theorem d_X4_readChild_9 : zDc M_X4_readChild 9 (.iload_n 1) 1 10 := ⟨by decide +kernel, rfl⟩
theorem d_X4_readChild_10 : zDc M_X4_readChild 10 (.bipush 6) 2 12 := ⟨by decide +kernel, rfl⟩
theorem d_X4_readChild_12 : zDc M_X4_readChild 12 (.invokevirtual 158) 3 15 := ⟨by decide +kernel, rfl⟩
theorem d_X4_readChild_15 : zDj M_X4_readChild 15 (.ifCond .ne 4) 4 18 19 := ⟨by decide +kernel, rfl, by decide⟩
theorem d_X4_readChild_18 : zDc M_X4_readChild 18 (.return_) 1 19 := ⟨by decide +kernel, rfl⟩
theorem d_X4_readChild_19 : zDc M_X4_readChild 19 (.aload_n 0) 1 20 := ⟨by decide +kernel, rfl⟩
theorem d_X4_readChild_20 : zDc M_X4_readChild 20 (.getfield 22) 3 23 := ⟨by decide +kernel, rfl⟩
theorem d_X4_readChild_23 : zDc M_X4_readChild 23 (.getfield 193) 3 26 := ⟨by decide +kernel, rfl⟩
theorem d_X4_readChild_26 : zDc M_X4_readChild 26 (.iload_n 1) 1 27 := ⟨by decide +kernel, rfl⟩
theorem d_X4_readChild_27 : zDc M_X4_readChild 27 (.aload_n 0) 1 28 := ⟨by decide +kernel, rfl⟩
theorem d_X4_readChild_28 : zDc M_X4_readChild 28 (.aload_n 0) 1 29 := ⟨by decide +kernel, rfl⟩
theorem d_X4_readChild_29 : zDc M_X4_readChild 29 (.getfield 22) 3 32 := ⟨by decide +kernel, rfl⟩
theorem d_X4_readChild_32 : zDc M_X4_readChild 32 (.getfield 193) 3 35 := ⟨by decide +kernel, rfl⟩
theorem d_X4_readChild_35 : zDc M_X4_readChild 35 (.iload_n 1) 1 36 := ⟨by decide +kernel, rfl⟩
theorem d_X4_readChild_36 : zDc M_X4_readChild 36 (.invokevirtual 165) 3 39 := ⟨by decide +kernel, rfl⟩
theorem d_X4_readChild_39 : zDc M_X4_readChild 39 (.iastore) 1 40 := ⟨by decide +kernel, rfl⟩
theorem d_X4_readChild_40 : zDc M_X4_readChild 40 (.aload_n 0) 1 41 := ⟨by decide +kernel, rfl⟩
theorem d_X4_readChild_41 : zDc M_X4_readChild 41 (.getfield 22) 3 44 := ⟨by decide +kernel, rfl⟩
theorem d_X4_readChild_44 : zDc M_X4_readChild 44 (.getfield 196) 3 47 := ⟨by decide +kernel, rfl⟩
theorem d_X4_readChild_47 : zDc M_X4_readChild 47 (.iload_n 1) 1 48 := ⟨by decide +kernel, rfl⟩
theorem d_X4_readChild_48 : zDc M_X4_readChild 48 (.aload_n 0) 1 49 := ⟨by decide +kernel, rfl⟩
theorem d_X4_readChild_49 : zDc M_X4_readChild 49 (.invokevirtual 149) 3 52 := ⟨by decide +kernel, rfl⟩
theorem d_X4_readChild_52 : zDc M_X4_readChild 52 (.iastore) 1 53 := ⟨by decide +kernel, rfl⟩
theorem d_X4_readChild_53 : zDc M_X4_readChild 53 (.aload_n 0) 1 54 := ⟨by decide +kernel, rfl⟩
theorem d_X4_readChild_54 : zDc M_X4_readChild 54 (.getfield 22) 3 57 := ⟨by decide +kernel, rfl⟩
theorem d_X4_readChild_57 : zDc M_X4_readChild 57 (.getfield 199) 3 60 := ⟨by decide +kernel, rfl⟩
theorem d_X4_readChild_60 : zDc M_X4_readChild 60 (.iload_n 1) 1 61 := ⟨by decide +kernel, rfl⟩
theorem d_X4_readChild_61 : zDc M_X4_readChild 61 (.aload_n 0) 1 62 := ⟨by decide +kernel, rfl⟩
theorem d_X4_readChild_62 : zDc M_X4_readChild 62 (.iconst 0) 1 63 := ⟨by decide +kernel, rfl⟩
theorem d_X4_readChild_63 : zDc M_X4_readChild 63 (.bipush 9) 2 65 := ⟨by decide +kernel, rfl⟩
theorem d_X4_readChild_65 : zDc M_X4_readChild 65 (.invokevirtual 142) 3 68 := ⟨by decide +kernel, rfl⟩
theorem d_X4_readChild_68 : zDc M_X4_readChild 68 (.iastore) 1 69 := ⟨by decide +kernel, rfl⟩
theorem d_X4_readChild_69 : zDc M_X4_readChild 69 (.aload_n 0) 1 70 := ⟨by decide +kernel, rfl⟩
theorem d_X4_readChild_70 : zDc M_X4_readChild 70 (.getfield 22) 3 73 := ⟨by decide +kernel, rfl⟩
theorem d_X4_readChild_73 : zDc M_X4_readChild 73 (.dup) 1 74 := ⟨by decide +kernel, rfl⟩
theorem d_X4_readChild_74 : zDc M_X4_readChild 74 (.getfield 190) 3 77 := ⟨by decide +kernel, rfl⟩
theorem d_X4_readChild_77 : zDc M_X4_readChild 77 (.iconst 1) 1 78 := ⟨by decide +kernel, rfl⟩
theorem d_X4_readChild_78 : zDc M_X4_readChild 78 (.iadd) 1 79 := ⟨by decide +kernel, rfl⟩
theorem d_X4_readChild_79 : zDc M_X4_readChild 79 (.putfield 190) 3 82 := ⟨by decide +kernel, rfl⟩
theorem d_X4_readChild_82 : zDc M_X4_readChild 82 (.return_) 1 83 := ⟨by decide +kernel, rfl⟩
def f_X4_readChild (a0 : Nat) (h0 : zHp) : Option (Unit × zHp) :=
  zob (zgR h0 a0 4 10) (fun v1 =>
  zob (zgI h0 v1 6 15) (fun v2 =>
  zbd (zcv 4 a0 h0 (f_X4_hasRoom a0 v2 6 h0)) (fun v4 h3 =>
  if v4 = 0 then
  some ((), h3)
  else
  zob (zgR h3 a0 4 10) (fun v5 =>
  zob (zgR h3 v5 6 8) (fun v6 =>
  zob (zgR h3 a0 4 10) (fun v7 =>
  zob (zgR h3 v7 6 8) (fun v8 =>
  zbd (zcv 4 a0 h3 (f_X4_readName a0 v8 v2 h3)) (fun v10 h9 =>
  zob (zsI 0 h9 v6 v2 v10) (fun h11 =>
  zob (zgR h11 a0 4 10) (fun v12 =>
  zob (zgR h11 v12 6 9) (fun v13 =>
  zbd (zcv 4 a0 h11 (f_X4_readCell a0 h11)) (fun v15 h14 =>
  zob (zsI 0 h14 v13 v2 v15) (fun h16 =>
  zob (zgR h16 a0 4 10) (fun v17 =>
  zob (zgR h16 v17 6 10) (fun v18 =>
  zbd (zcv 4 a0 h16 (f_X4_readNumber a0 0 9 h16)) (fun v20 h19 =>
  zob (zsI 0 h19 v18 v2 v20) (fun h21 =>
  zob (zgR h21 a0 4 10) (fun v22 =>
  zob (zgI h21 v22 6 15) (fun v23 =>
  zob (zpV h21 v22 6 15 (.int (v23 + 1))) (fun h24 =>
  some ((), h24)))))))))))))))))))))
set_option maxRecDepth 100000 in
set_option maxHeartbeats 4000000 in
theorem t_X4_readChild (a0 : Nat) (h0 : zHp) : ∀ (r : Unit) (h' : zHp), f_X4_readChild a0 h0 = some (r, h') → zCt yX4_readChild (.code yX4_readChild cX4_readChild 2 none) 5 148 0 0 [.ref a0] h0 (none) h' := by
  refine zct_of M_X4_readChild yX4_readChild (by decide) rfl rfl [.ref a0] h0 (Nat.le_of_ble_eq_true rfl) (fun _ => none) (fun X => ?_)
  show zG X M_X4_readChild (0, 0) 0 [(0, .ref a0)] [] h0 (f_X4_readChild a0 h0) (fun (_ : Unit) h' => zKe X (none) h')
  unfold f_X4_readChild
  refine zg_aload_n 0 rfl d_X4_readChild_0 ?_
  refine zg_getR d_X4_readChild_1 zc_4 (by decide) fl_X4_22 (fun v1 => ?_)
  refine zg_getI d_X4_readChild_4 zc_6 (by decide) fl_X4_190 (fun v2 => ?_)
  refine zg_istore_n [(1, .int v2), (0, .ref a0)] d_X4_readChild_7 rfl (by decide) rfl ?_
  refine zg_aload_n 1 rfl d_X4_readChild_8 ?_
  refine zg_iload_n 0 rfl d_X4_readChild_9 ?_
  refine zg_bipush 6 rfl d_X4_readChild_10 ?_
  refine zg_cVi (b := a0) (As := [.int v2, .int 6]) (rest := []) (0, 0) d_X4_readChild_12 zc_4 rfl cw_X4_158 wi_X4_hasRoom ws_X4_hasRoom rfl rfl (Nat.le_of_ble_eq_true rfl) (by decide) (by decide) ⟨by decide, by decide⟩ rfl (t_X4_hasRoom a0 v2 6 h0) (fun v4 h3 => ?_)
  refine zg_if_ne d_X4_readChild_15 ?_ ?_
  · exact zg_vretK d_X4_readChild_18 rfl ⟨Nat.le_of_ble_eq_true rfl, Nat.le_of_ble_eq_true rfl⟩ (fun q => q)
  · refine zg_aload_n 1 rfl d_X4_readChild_19 ?_
    refine zg_getR d_X4_readChild_20 zc_4 (by decide) fl_X4_22 (fun v5 => ?_)
    refine zg_getR d_X4_readChild_23 zc_6 (by decide) fl_X4_193 (fun v6 => ?_)
    refine zg_iload_n 0 rfl d_X4_readChild_26 ?_
    refine zg_aload_n 1 rfl d_X4_readChild_27 ?_
    refine zg_aload_n 1 rfl d_X4_readChild_28 ?_
    refine zg_getR d_X4_readChild_29 zc_4 (by decide) fl_X4_22 (fun v7 => ?_)
    refine zg_getR d_X4_readChild_32 zc_6 (by decide) fl_X4_193 (fun v8 => ?_)
    refine zg_iload_n 0 rfl d_X4_readChild_35 ?_
    refine zg_cVi (b := a0) (As := [.ref v8, .int v2]) (rest := [.int v2, .ref v6]) (0, 0) d_X4_readChild_36 zc_4 rfl cw_X4_165 wi_X4_readName ws_X4_readName rfl rfl (Nat.le_of_ble_eq_true rfl) (by decide) (by decide) ⟨by decide, by decide⟩ rfl (t_X4_readName a0 v8 v2 h3) (fun v10 h9 => ?_)
    refine zg_ast0 d_X4_readChild_39 (fun h11 => ?_)
    refine zg_aload_n 1 rfl d_X4_readChild_40 ?_
    refine zg_getR d_X4_readChild_41 zc_4 (by decide) fl_X4_22 (fun v12 => ?_)
    refine zg_getR d_X4_readChild_44 zc_6 (by decide) fl_X4_196 (fun v13 => ?_)
    refine zg_iload_n 0 rfl d_X4_readChild_47 ?_
    refine zg_aload_n 1 rfl d_X4_readChild_48 ?_
    refine zg_cVi (b := a0) (As := []) (rest := [.int v2, .ref v13]) (0, 0) d_X4_readChild_49 zc_4 rfl cw_X4_149 wi_X4_readCell ws_X4_readCell rfl rfl (Nat.le_of_ble_eq_true rfl) (by decide) (by decide) ⟨by decide, by decide⟩ rfl (t_X4_readCell a0 h11) (fun v15 h14 => ?_)
    refine zg_ast0 d_X4_readChild_52 (fun h16 => ?_)
    refine zg_aload_n 1 rfl d_X4_readChild_53 ?_
    refine zg_getR d_X4_readChild_54 zc_4 (by decide) fl_X4_22 (fun v17 => ?_)
    refine zg_getR d_X4_readChild_57 zc_6 (by decide) fl_X4_199 (fun v18 => ?_)
    refine zg_iload_n 0 rfl d_X4_readChild_60 ?_
    refine zg_aload_n 1 rfl d_X4_readChild_61 ?_
    refine zg_iconst 0 rfl d_X4_readChild_62 ?_
    refine zg_bipush 9 rfl d_X4_readChild_63 ?_
    refine zg_cVi (b := a0) (As := [.int 0, .int 9]) (rest := [.int v2, .ref v18]) (0, 0) d_X4_readChild_65 zc_4 rfl cw_X4_142 wi_X4_readNumber ws_X4_readNumber rfl rfl (Nat.le_of_ble_eq_true rfl) (by decide) (by decide) ⟨by decide, by decide⟩ rfl (t_X4_readNumber a0 0 9 h16) (fun v20 h19 => ?_)
    refine zg_ast0 d_X4_readChild_68 (fun h21 => ?_)
    refine zg_aload_n 1 rfl d_X4_readChild_69 ?_
    refine zg_getR d_X4_readChild_70 zc_4 (by decide) fl_X4_22 (fun v22 => ?_)
    refine zg_dup rfl d_X4_readChild_73 ?_
    refine zg_getI d_X4_readChild_74 zc_6 (by decide) fl_X4_190 (fun v23 => ?_)
    refine zg_iconst 1 rfl d_X4_readChild_77 ?_
    refine zg_iadd d_X4_readChild_78 ?_
    refine zg_putV d_X4_readChild_79 zc_6 (by decide) fl_X4_190 rfl rfl rfl (fun h24 => ?_)
    exact zg_vretK d_X4_readChild_82 rfl ⟨Nat.le_of_ble_eq_true rfl, Nat.le_of_ble_eq_true rfl⟩ (fun q => q)
abbrev M_X4_readCloud : zMt := (RX4, cX4_readCloud, 2, 5, 148, none, "readCloud", 0, 0)
theorem d_X4_readCloud_0 : zDc M_X4_readCloud 0 (.aload_n 0) 1 1 := ⟨by decide +kernel, rfl⟩
theorem d_X4_readCloud_1 : zDc M_X4_readCloud 1 (.getfield 22) 3 4 := ⟨by decide +kernel, rfl⟩
theorem d_X4_readCloud_4 : zDc M_X4_readCloud 4 (.getfield 175) 3 7 := ⟨by decide +kernel, rfl⟩
theorem d_X4_readCloud_7 : zDc M_X4_readCloud 7 (.istore_n 1) 1 8 := ⟨by decide +kernel, rfl⟩
theorem d_X4_readCloud_8 : zDc M_X4_readCloud 8 (.aload_n 0) 1 9 := ⟨by decide +kernel, rfl⟩
theorem d_X4_readCloud_9 : zDc M_X4_readCloud 9 (.iload_n 1) 1 10 := ⟨by decide +kernel, rfl⟩
theorem d_X4_readCloud_10 : zDc M_X4_readCloud 10 (.bipush 8) 2 12 := ⟨by decide +kernel, rfl⟩
theorem d_X4_readCloud_12 : zDc M_X4_readCloud 12 (.invokevirtual 158) 3 15 := ⟨by decide +kernel, rfl⟩
theorem d_X4_readCloud_15 : zDj M_X4_readCloud 15 (.ifCond .ne 4) 4 18 19 := ⟨by decide +kernel, rfl, by decide⟩
theorem d_X4_readCloud_18 : zDc M_X4_readCloud 18 (.return_) 1 19 := ⟨by decide +kernel, rfl⟩
theorem d_X4_readCloud_19 : zDc M_X4_readCloud 19 (.aload_n 0) 1 20 := ⟨by decide +kernel, rfl⟩
theorem d_X4_readCloud_20 : zDc M_X4_readCloud 20 (.getfield 22) 3 23 := ⟨by decide +kernel, rfl⟩
theorem d_X4_readCloud_23 : zDc M_X4_readCloud 23 (.getfield 178) 3 26 := ⟨by decide +kernel, rfl⟩
theorem d_X4_readCloud_26 : zDc M_X4_readCloud 26 (.iload_n 1) 1 27 := ⟨by decide +kernel, rfl⟩
theorem d_X4_readCloud_27 : zDc M_X4_readCloud 27 (.aload_n 0) 1 28 := ⟨by decide +kernel, rfl⟩
theorem d_X4_readCloud_28 : zDc M_X4_readCloud 28 (.aload_n 0) 1 29 := ⟨by decide +kernel, rfl⟩
theorem d_X4_readCloud_29 : zDc M_X4_readCloud 29 (.getfield 22) 3 32 := ⟨by decide +kernel, rfl⟩
theorem d_X4_readCloud_32 : zDc M_X4_readCloud 32 (.getfield 178) 3 35 := ⟨by decide +kernel, rfl⟩
theorem d_X4_readCloud_35 : zDc M_X4_readCloud 35 (.iload_n 1) 1 36 := ⟨by decide +kernel, rfl⟩
theorem d_X4_readCloud_36 : zDc M_X4_readCloud 36 (.invokevirtual 165) 3 39 := ⟨by decide +kernel, rfl⟩
theorem d_X4_readCloud_39 : zDc M_X4_readCloud 39 (.iastore) 1 40 := ⟨by decide +kernel, rfl⟩
theorem d_X4_readCloud_40 : zDc M_X4_readCloud 40 (.aload_n 0) 1 41 := ⟨by decide +kernel, rfl⟩
theorem d_X4_readCloud_41 : zDc M_X4_readCloud 41 (.getfield 22) 3 44 := ⟨by decide +kernel, rfl⟩
theorem d_X4_readCloud_44 : zDc M_X4_readCloud 44 (.getfield 181) 3 47 := ⟨by decide +kernel, rfl⟩
theorem d_X4_readCloud_47 : zDc M_X4_readCloud 47 (.iload_n 1) 1 48 := ⟨by decide +kernel, rfl⟩
theorem d_X4_readCloud_48 : zDc M_X4_readCloud 48 (.aload_n 0) 1 49 := ⟨by decide +kernel, rfl⟩
theorem d_X4_readCloud_49 : zDc M_X4_readCloud 49 (.invokevirtual 149) 3 52 := ⟨by decide +kernel, rfl⟩
theorem d_X4_readCloud_52 : zDc M_X4_readCloud 52 (.iastore) 1 53 := ⟨by decide +kernel, rfl⟩
theorem d_X4_readCloud_53 : zDc M_X4_readCloud 53 (.aload_n 0) 1 54 := ⟨by decide +kernel, rfl⟩
theorem d_X4_readCloud_54 : zDc M_X4_readCloud 54 (.getfield 22) 3 57 := ⟨by decide +kernel, rfl⟩
theorem d_X4_readCloud_57 : zDc M_X4_readCloud 57 (.getfield 184) 3 60 := ⟨by decide +kernel, rfl⟩
theorem d_X4_readCloud_60 : zDc M_X4_readCloud 60 (.iload_n 1) 1 61 := ⟨by decide +kernel, rfl⟩
theorem d_X4_readCloud_61 : zDc M_X4_readCloud 61 (.aload_n 0) 1 62 := ⟨by decide +kernel, rfl⟩
theorem d_X4_readCloud_62 : zDc M_X4_readCloud 62 (.iconst 1) 1 63 := ⟨by decide +kernel, rfl⟩
theorem d_X4_readCloud_63 : zDc M_X4_readCloud 63 (.bipush 9) 2 65 := ⟨by decide +kernel, rfl⟩
theorem d_X4_readCloud_65 : zDc M_X4_readCloud 65 (.invokevirtual 142) 3 68 := ⟨by decide +kernel, rfl⟩
theorem d_X4_readCloud_68 : zDc M_X4_readCloud 68 (.iastore) 1 69 := ⟨by decide +kernel, rfl⟩
theorem d_X4_readCloud_69 : zDc M_X4_readCloud 69 (.aload_n 0) 1 70 := ⟨by decide +kernel, rfl⟩
theorem d_X4_readCloud_70 : zDc M_X4_readCloud 70 (.getfield 22) 3 73 := ⟨by decide +kernel, rfl⟩
theorem d_X4_readCloud_73 : zDc M_X4_readCloud 73 (.getfield 187) 3 76 := ⟨by decide +kernel, rfl⟩
theorem d_X4_readCloud_76 : zDc M_X4_readCloud 76 (.iload_n 1) 1 77 := ⟨by decide +kernel, rfl⟩
theorem d_X4_readCloud_77 : zDc M_X4_readCloud 77 (.aload_n 0) 1 78 := ⟨by decide +kernel, rfl⟩
theorem d_X4_readCloud_78 : zDc M_X4_readCloud 78 (.iconst 0) 1 79 := ⟨by decide +kernel, rfl⟩
theorem d_X4_readCloud_79 : zDc M_X4_readCloud 79 (.bipush 99) 2 81 := ⟨by decide +kernel, rfl⟩
theorem d_X4_readCloud_81 : zDc M_X4_readCloud 81 (.invokevirtual 142) 3 84 := ⟨by decide +kernel, rfl⟩
theorem d_X4_readCloud_84 : zDc M_X4_readCloud 84 (.iastore) 1 85 := ⟨by decide +kernel, rfl⟩
theorem d_X4_readCloud_85 : zDc M_X4_readCloud 85 (.aload_n 0) 1 86 := ⟨by decide +kernel, rfl⟩
theorem d_X4_readCloud_86 : zDc M_X4_readCloud 86 (.getfield 22) 3 89 := ⟨by decide +kernel, rfl⟩
theorem d_X4_readCloud_89 : zDc M_X4_readCloud 89 (.dup) 1 90 := ⟨by decide +kernel, rfl⟩
theorem d_X4_readCloud_90 : zDc M_X4_readCloud 90 (.getfield 175) 3 93 := ⟨by decide +kernel, rfl⟩
theorem d_X4_readCloud_93 : zDc M_X4_readCloud 93 (.iconst 1) 1 94 := ⟨by decide +kernel, rfl⟩
theorem d_X4_readCloud_94 : zDc M_X4_readCloud 94 (.iadd) 1 95 := ⟨by decide +kernel, rfl⟩
theorem d_X4_readCloud_95 : zDc M_X4_readCloud 95 (.putfield 175) 3 98 := ⟨by decide +kernel, rfl⟩
theorem d_X4_readCloud_98 : zDc M_X4_readCloud 98 (.return_) 1 99 := ⟨by decide +kernel, rfl⟩
def f_X4_readCloud (a0 : Nat) (h0 : zHp) : Option (Unit × zHp) :=
  zob (zgR h0 a0 4 10) (fun v1 =>
  zob (zgI h0 v1 6 14) (fun v2 =>
  zbd (zcv 4 a0 h0 (f_X4_hasRoom a0 v2 8 h0)) (fun v4 h3 =>
  if v4 = 0 then
  some ((), h3)
  else
  zob (zgR h3 a0 4 10) (fun v5 =>
  zob (zgR h3 v5 6 4) (fun v6 =>
  zob (zgR h3 a0 4 10) (fun v7 =>
  zob (zgR h3 v7 6 4) (fun v8 =>
  zbd (zcv 4 a0 h3 (f_X4_readName a0 v8 v2 h3)) (fun v10 h9 =>
  zob (zsI 0 h9 v6 v2 v10) (fun h11 =>
  zob (zgR h11 a0 4 10) (fun v12 =>
  zob (zgR h11 v12 6 5) (fun v13 =>
  zbd (zcv 4 a0 h11 (f_X4_readCell a0 h11)) (fun v15 h14 =>
  zob (zsI 0 h14 v13 v2 v15) (fun h16 =>
  zob (zgR h16 a0 4 10) (fun v17 =>
  zob (zgR h16 v17 6 6) (fun v18 =>
  zbd (zcv 4 a0 h16 (f_X4_readNumber a0 1 9 h16)) (fun v20 h19 =>
  zob (zsI 0 h19 v18 v2 v20) (fun h21 =>
  zob (zgR h21 a0 4 10) (fun v22 =>
  zob (zgR h21 v22 6 7) (fun v23 =>
  zbd (zcv 4 a0 h21 (f_X4_readNumber a0 0 99 h21)) (fun v25 h24 =>
  zob (zsI 0 h24 v23 v2 v25) (fun h26 =>
  zob (zgR h26 a0 4 10) (fun v27 =>
  zob (zgI h26 v27 6 14) (fun v28 =>
  zob (zpV h26 v27 6 14 (.int (v28 + 1))) (fun h29 =>
  some ((), h29)))))))))))))))))))))))))
set_option maxRecDepth 100000 in
set_option maxHeartbeats 4000000 in
theorem t_X4_readCloud (a0 : Nat) (h0 : zHp) : ∀ (r : Unit) (h' : zHp), f_X4_readCloud a0 h0 = some (r, h') → zCt yX4_readCloud (.code yX4_readCloud cX4_readCloud 2 none) 5 148 0 0 [.ref a0] h0 (none) h' := by
  refine zct_of M_X4_readCloud yX4_readCloud (by decide) rfl rfl [.ref a0] h0 (Nat.le_of_ble_eq_true rfl) (fun _ => none) (fun X => ?_)
  show zG X M_X4_readCloud (0, 0) 0 [(0, .ref a0)] [] h0 (f_X4_readCloud a0 h0) (fun (_ : Unit) h' => zKe X (none) h')
  unfold f_X4_readCloud
  refine zg_aload_n 0 rfl d_X4_readCloud_0 ?_
  refine zg_getR d_X4_readCloud_1 zc_4 (by decide) fl_X4_22 (fun v1 => ?_)
  refine zg_getI d_X4_readCloud_4 zc_6 (by decide) fl_X4_175 (fun v2 => ?_)
  refine zg_istore_n [(1, .int v2), (0, .ref a0)] d_X4_readCloud_7 rfl (by decide) rfl ?_
  refine zg_aload_n 1 rfl d_X4_readCloud_8 ?_
  refine zg_iload_n 0 rfl d_X4_readCloud_9 ?_
  refine zg_bipush 8 rfl d_X4_readCloud_10 ?_
  refine zg_cVi (b := a0) (As := [.int v2, .int 8]) (rest := []) (0, 0) d_X4_readCloud_12 zc_4 rfl cw_X4_158 wi_X4_hasRoom ws_X4_hasRoom rfl rfl (Nat.le_of_ble_eq_true rfl) (by decide) (by decide) ⟨by decide, by decide⟩ rfl (t_X4_hasRoom a0 v2 8 h0) (fun v4 h3 => ?_)
  refine zg_if_ne d_X4_readCloud_15 ?_ ?_
  · exact zg_vretK d_X4_readCloud_18 rfl ⟨Nat.le_of_ble_eq_true rfl, Nat.le_of_ble_eq_true rfl⟩ (fun q => q)
  · refine zg_aload_n 1 rfl d_X4_readCloud_19 ?_
    refine zg_getR d_X4_readCloud_20 zc_4 (by decide) fl_X4_22 (fun v5 => ?_)
    refine zg_getR d_X4_readCloud_23 zc_6 (by decide) fl_X4_178 (fun v6 => ?_)
    refine zg_iload_n 0 rfl d_X4_readCloud_26 ?_
    refine zg_aload_n 1 rfl d_X4_readCloud_27 ?_
    refine zg_aload_n 1 rfl d_X4_readCloud_28 ?_
    refine zg_getR d_X4_readCloud_29 zc_4 (by decide) fl_X4_22 (fun v7 => ?_)
    refine zg_getR d_X4_readCloud_32 zc_6 (by decide) fl_X4_178 (fun v8 => ?_)
    refine zg_iload_n 0 rfl d_X4_readCloud_35 ?_
    refine zg_cVi (b := a0) (As := [.ref v8, .int v2]) (rest := [.int v2, .ref v6]) (0, 0) d_X4_readCloud_36 zc_4 rfl cw_X4_165 wi_X4_readName ws_X4_readName rfl rfl (Nat.le_of_ble_eq_true rfl) (by decide) (by decide) ⟨by decide, by decide⟩ rfl (t_X4_readName a0 v8 v2 h3) (fun v10 h9 => ?_)
    refine zg_ast0 d_X4_readCloud_39 (fun h11 => ?_)
    refine zg_aload_n 1 rfl d_X4_readCloud_40 ?_
    refine zg_getR d_X4_readCloud_41 zc_4 (by decide) fl_X4_22 (fun v12 => ?_)
    refine zg_getR d_X4_readCloud_44 zc_6 (by decide) fl_X4_181 (fun v13 => ?_)
    refine zg_iload_n 0 rfl d_X4_readCloud_47 ?_
    refine zg_aload_n 1 rfl d_X4_readCloud_48 ?_
    refine zg_cVi (b := a0) (As := []) (rest := [.int v2, .ref v13]) (0, 0) d_X4_readCloud_49 zc_4 rfl cw_X4_149 wi_X4_readCell ws_X4_readCell rfl rfl (Nat.le_of_ble_eq_true rfl) (by decide) (by decide) ⟨by decide, by decide⟩ rfl (t_X4_readCell a0 h11) (fun v15 h14 => ?_)
    refine zg_ast0 d_X4_readCloud_52 (fun h16 => ?_)
    refine zg_aload_n 1 rfl d_X4_readCloud_53 ?_
    refine zg_getR d_X4_readCloud_54 zc_4 (by decide) fl_X4_22 (fun v17 => ?_)
    refine zg_getR d_X4_readCloud_57 zc_6 (by decide) fl_X4_184 (fun v18 => ?_)
    refine zg_iload_n 0 rfl d_X4_readCloud_60 ?_
    refine zg_aload_n 1 rfl d_X4_readCloud_61 ?_
    refine zg_iconst 1 rfl d_X4_readCloud_62 ?_
    refine zg_bipush 9 rfl d_X4_readCloud_63 ?_
    refine zg_cVi (b := a0) (As := [.int 1, .int 9]) (rest := [.int v2, .ref v18]) (0, 0) d_X4_readCloud_65 zc_4 rfl cw_X4_142 wi_X4_readNumber ws_X4_readNumber rfl rfl (Nat.le_of_ble_eq_true rfl) (by decide) (by decide) ⟨by decide, by decide⟩ rfl (t_X4_readNumber a0 1 9 h16) (fun v20 h19 => ?_)
    refine zg_ast0 d_X4_readCloud_68 (fun h21 => ?_)
    refine zg_aload_n 1 rfl d_X4_readCloud_69 ?_
    refine zg_getR d_X4_readCloud_70 zc_4 (by decide) fl_X4_22 (fun v22 => ?_)
    refine zg_getR d_X4_readCloud_73 zc_6 (by decide) fl_X4_187 (fun v23 => ?_)
    refine zg_iload_n 0 rfl d_X4_readCloud_76 ?_
    refine zg_aload_n 1 rfl d_X4_readCloud_77 ?_
    refine zg_iconst 0 rfl d_X4_readCloud_78 ?_
    refine zg_bipush 99 rfl d_X4_readCloud_79 ?_
    refine zg_cVi (b := a0) (As := [.int 0, .int 99]) (rest := [.int v2, .ref v23]) (0, 0) d_X4_readCloud_81 zc_4 rfl cw_X4_142 wi_X4_readNumber ws_X4_readNumber rfl rfl (Nat.le_of_ble_eq_true rfl) (by decide) (by decide) ⟨by decide, by decide⟩ rfl (t_X4_readNumber a0 0 99 h21) (fun v25 h24 => ?_)
    refine zg_ast0 d_X4_readCloud_84 (fun h26 => ?_)
    refine zg_aload_n 1 rfl d_X4_readCloud_85 ?_
    refine zg_getR d_X4_readCloud_86 zc_4 (by decide) fl_X4_22 (fun v27 => ?_)
    refine zg_dup rfl d_X4_readCloud_89 ?_
    refine zg_getI d_X4_readCloud_90 zc_6 (by decide) fl_X4_175 (fun v28 => ?_)
    refine zg_iconst 1 rfl d_X4_readCloud_93 ?_
    refine zg_iadd d_X4_readCloud_94 ?_
    refine zg_putV d_X4_readCloud_95 zc_6 (by decide) fl_X4_175 rfl rfl rfl (fun h29 => ?_)
    exact zg_vretK d_X4_readCloud_98 rfl ⟨Nat.le_of_ble_eq_true rfl, Nat.le_of_ble_eq_true rfl⟩ (fun q => q)
abbrev M_X4_readField : zMt := (RX4, cX4_readField, 2, 5, 148, none, "readField", 0, 0)
theorem d_X4_readField_0 : zDc M_X4_readField 0 (.aload_n 0) 1 1 := ⟨by decide +kernel, rfl⟩
theorem d_X4_readField_1 : zDc M_X4_readField 1 (.getfield 22) 3 4 := ⟨by decide +kernel, rfl⟩
theorem d_X4_readField_4 : zDc M_X4_readField 4 (.getfield 155) 3 7 := ⟨by decide +kernel, rfl⟩
theorem d_X4_readField_7 : zDc M_X4_readField 7 (.istore_n 1) 1 8 := ⟨by decide +kernel, rfl⟩
theorem d_X4_readField_8 : zDc M_X4_readField 8 (.aload_n 0) 1 9 := ⟨by decide +kernel, rfl⟩
theorem d_X4_readField_9 : zDc M_X4_readField 9 (.iload_n 1) 1 10 := ⟨by decide +kernel, rfl⟩
theorem d_X4_readField_10 : zDc M_X4_readField 10 (.iconst 5) 1 11 := ⟨by decide +kernel, rfl⟩
theorem d_X4_readField_11 : zDc M_X4_readField 11 (.invokevirtual 158) 3 14 := ⟨by decide +kernel, rfl⟩
theorem d_X4_readField_14 : zDj M_X4_readField 14 (.ifCond .ne 4) 4 17 18 := ⟨by decide +kernel, rfl, by decide⟩
theorem d_X4_readField_17 : zDc M_X4_readField 17 (.return_) 1 18 := ⟨by decide +kernel, rfl⟩
theorem d_X4_readField_18 : zDc M_X4_readField 18 (.aload_n 0) 1 19 := ⟨by decide +kernel, rfl⟩
theorem d_X4_readField_19 : zDc M_X4_readField 19 (.getfield 22) 3 22 := ⟨by decide +kernel, rfl⟩
theorem d_X4_readField_22 : zDc M_X4_readField 22 (.getfield 162) 3 25 := ⟨by decide +kernel, rfl⟩
theorem d_X4_readField_25 : zDc M_X4_readField 25 (.iload_n 1) 1 26 := ⟨by decide +kernel, rfl⟩
theorem d_X4_readField_26 : zDc M_X4_readField 26 (.aload_n 0) 1 27 := ⟨by decide +kernel, rfl⟩
theorem d_X4_readField_27 : zDc M_X4_readField 27 (.aload_n 0) 1 28 := ⟨by decide +kernel, rfl⟩
theorem d_X4_readField_28 : zDc M_X4_readField 28 (.getfield 22) 3 31 := ⟨by decide +kernel, rfl⟩
theorem d_X4_readField_31 : zDc M_X4_readField 31 (.getfield 162) 3 34 := ⟨by decide +kernel, rfl⟩
theorem d_X4_readField_34 : zDc M_X4_readField 34 (.iload_n 1) 1 35 := ⟨by decide +kernel, rfl⟩
theorem d_X4_readField_35 : zDc M_X4_readField 35 (.invokevirtual 165) 3 38 := ⟨by decide +kernel, rfl⟩
theorem d_X4_readField_38 : zDc M_X4_readField 38 (.iastore) 1 39 := ⟨by decide +kernel, rfl⟩
theorem d_X4_readField_39 : zDc M_X4_readField 39 (.aload_n 0) 1 40 := ⟨by decide +kernel, rfl⟩
theorem d_X4_readField_40 : zDc M_X4_readField 40 (.getfield 22) 3 43 := ⟨by decide +kernel, rfl⟩
theorem d_X4_readField_43 : zDc M_X4_readField 43 (.getfield 169) 3 46 := ⟨by decide +kernel, rfl⟩
theorem d_X4_readField_46 : zDc M_X4_readField 46 (.iload_n 1) 1 47 := ⟨by decide +kernel, rfl⟩
theorem d_X4_readField_47 : zDc M_X4_readField 47 (.aload_n 0) 1 48 := ⟨by decide +kernel, rfl⟩
theorem d_X4_readField_48 : zDc M_X4_readField 48 (.invokevirtual 149) 3 51 := ⟨by decide +kernel, rfl⟩
theorem d_X4_readField_51 : zDc M_X4_readField 51 (.iastore) 1 52 := ⟨by decide +kernel, rfl⟩
theorem d_X4_readField_52 : zDc M_X4_readField 52 (.aload_n 0) 1 53 := ⟨by decide +kernel, rfl⟩
theorem d_X4_readField_53 : zDc M_X4_readField 53 (.getfield 22) 3 56 := ⟨by decide +kernel, rfl⟩
theorem d_X4_readField_56 : zDc M_X4_readField 56 (.getfield 172) 3 59 := ⟨by decide +kernel, rfl⟩
theorem d_X4_readField_59 : zDc M_X4_readField 59 (.iload_n 1) 1 60 := ⟨by decide +kernel, rfl⟩
theorem d_X4_readField_60 : zDc M_X4_readField 60 (.aload_n 0) 1 61 := ⟨by decide +kernel, rfl⟩
theorem d_X4_readField_61 : zDc M_X4_readField 61 (.iconst 0) 1 62 := ⟨by decide +kernel, rfl⟩
theorem d_X4_readField_62 : zDc M_X4_readField 62 (.bipush 99) 2 64 := ⟨by decide +kernel, rfl⟩
theorem d_X4_readField_64 : zDc M_X4_readField 64 (.invokevirtual 142) 3 67 := ⟨by decide +kernel, rfl⟩
theorem d_X4_readField_67 : zDc M_X4_readField 67 (.iastore) 1 68 := ⟨by decide +kernel, rfl⟩
theorem d_X4_readField_68 : zDc M_X4_readField 68 (.aload_n 0) 1 69 := ⟨by decide +kernel, rfl⟩
theorem d_X4_readField_69 : zDc M_X4_readField 69 (.getfield 22) 3 72 := ⟨by decide +kernel, rfl⟩
theorem d_X4_readField_72 : zDc M_X4_readField 72 (.dup) 1 73 := ⟨by decide +kernel, rfl⟩
theorem d_X4_readField_73 : zDc M_X4_readField 73 (.getfield 155) 3 76 := ⟨by decide +kernel, rfl⟩
theorem d_X4_readField_76 : zDc M_X4_readField 76 (.iconst 1) 1 77 := ⟨by decide +kernel, rfl⟩
theorem d_X4_readField_77 : zDc M_X4_readField 77 (.iadd) 1 78 := ⟨by decide +kernel, rfl⟩
theorem d_X4_readField_78 : zDc M_X4_readField 78 (.putfield 155) 3 81 := ⟨by decide +kernel, rfl⟩
theorem d_X4_readField_81 : zDc M_X4_readField 81 (.return_) 1 82 := ⟨by decide +kernel, rfl⟩
def f_X4_readField (a0 : Nat) (h0 : zHp) : Option (Unit × zHp) :=
  zob (zgR h0 a0 4 10) (fun v1 =>
  zob (zgI h0 v1 6 13) (fun v2 =>
  zbd (zcv 4 a0 h0 (f_X4_hasRoom a0 v2 5 h0)) (fun v4 h3 =>
  if v4 = 0 then
  some ((), h3)
  else
  zob (zgR h3 a0 4 10) (fun v5 =>
  zob (zgR h3 v5 6 1) (fun v6 =>
  zob (zgR h3 a0 4 10) (fun v7 =>
  zob (zgR h3 v7 6 1) (fun v8 =>
  zbd (zcv 4 a0 h3 (f_X4_readName a0 v8 v2 h3)) (fun v10 h9 =>
  zob (zsI 0 h9 v6 v2 v10) (fun h11 =>
  zob (zgR h11 a0 4 10) (fun v12 =>
  zob (zgR h11 v12 6 2) (fun v13 =>
  zbd (zcv 4 a0 h11 (f_X4_readCell a0 h11)) (fun v15 h14 =>
  zob (zsI 0 h14 v13 v2 v15) (fun h16 =>
  zob (zgR h16 a0 4 10) (fun v17 =>
  zob (zgR h16 v17 6 3) (fun v18 =>
  zbd (zcv 4 a0 h16 (f_X4_readNumber a0 0 99 h16)) (fun v20 h19 =>
  zob (zsI 0 h19 v18 v2 v20) (fun h21 =>
  zob (zgR h21 a0 4 10) (fun v22 =>
  zob (zgI h21 v22 6 13) (fun v23 =>
  zob (zpV h21 v22 6 13 (.int (v23 + 1))) (fun h24 =>
  some ((), h24)))))))))))))))))))))
set_option maxRecDepth 100000 in
set_option maxHeartbeats 4000000 in
theorem t_X4_readField (a0 : Nat) (h0 : zHp) : ∀ (r : Unit) (h' : zHp), f_X4_readField a0 h0 = some (r, h') → zCt yX4_readField (.code yX4_readField cX4_readField 2 none) 5 148 0 0 [.ref a0] h0 (none) h' := by
  refine zct_of M_X4_readField yX4_readField (by decide) rfl rfl [.ref a0] h0 (Nat.le_of_ble_eq_true rfl) (fun _ => none) (fun X => ?_)
  show zG X M_X4_readField (0, 0) 0 [(0, .ref a0)] [] h0 (f_X4_readField a0 h0) (fun (_ : Unit) h' => zKe X (none) h')
  unfold f_X4_readField
  refine zg_aload_n 0 rfl d_X4_readField_0 ?_
  refine zg_getR d_X4_readField_1 zc_4 (by decide) fl_X4_22 (fun v1 => ?_)
  refine zg_getI d_X4_readField_4 zc_6 (by decide) fl_X4_155 (fun v2 => ?_)
  refine zg_istore_n [(1, .int v2), (0, .ref a0)] d_X4_readField_7 rfl (by decide) rfl ?_
  refine zg_aload_n 1 rfl d_X4_readField_8 ?_
  refine zg_iload_n 0 rfl d_X4_readField_9 ?_
  refine zg_iconst 5 rfl d_X4_readField_10 ?_
  refine zg_cVi (b := a0) (As := [.int v2, .int 5]) (rest := []) (0, 0) d_X4_readField_11 zc_4 rfl cw_X4_158 wi_X4_hasRoom ws_X4_hasRoom rfl rfl (Nat.le_of_ble_eq_true rfl) (by decide) (by decide) ⟨by decide, by decide⟩ rfl (t_X4_hasRoom a0 v2 5 h0) (fun v4 h3 => ?_)
  refine zg_if_ne d_X4_readField_14 ?_ ?_
  · exact zg_vretK d_X4_readField_17 rfl ⟨Nat.le_of_ble_eq_true rfl, Nat.le_of_ble_eq_true rfl⟩ (fun q => q)
  · refine zg_aload_n 1 rfl d_X4_readField_18 ?_
    refine zg_getR d_X4_readField_19 zc_4 (by decide) fl_X4_22 (fun v5 => ?_)
    refine zg_getR d_X4_readField_22 zc_6 (by decide) fl_X4_162 (fun v6 => ?_)
    refine zg_iload_n 0 rfl d_X4_readField_25 ?_
    refine zg_aload_n 1 rfl d_X4_readField_26 ?_
    refine zg_aload_n 1 rfl d_X4_readField_27 ?_
    refine zg_getR d_X4_readField_28 zc_4 (by decide) fl_X4_22 (fun v7 => ?_)
    refine zg_getR d_X4_readField_31 zc_6 (by decide) fl_X4_162 (fun v8 => ?_)
    refine zg_iload_n 0 rfl d_X4_readField_34 ?_
    refine zg_cVi (b := a0) (As := [.ref v8, .int v2]) (rest := [.int v2, .ref v6]) (0, 0) d_X4_readField_35 zc_4 rfl cw_X4_165 wi_X4_readName ws_X4_readName rfl rfl (Nat.le_of_ble_eq_true rfl) (by decide) (by decide) ⟨by decide, by decide⟩ rfl (t_X4_readName a0 v8 v2 h3) (fun v10 h9 => ?_)
    refine zg_ast0 d_X4_readField_38 (fun h11 => ?_)
    refine zg_aload_n 1 rfl d_X4_readField_39 ?_
    refine zg_getR d_X4_readField_40 zc_4 (by decide) fl_X4_22 (fun v12 => ?_)
    refine zg_getR d_X4_readField_43 zc_6 (by decide) fl_X4_169 (fun v13 => ?_)
    refine zg_iload_n 0 rfl d_X4_readField_46 ?_
    refine zg_aload_n 1 rfl d_X4_readField_47 ?_
    refine zg_cVi (b := a0) (As := []) (rest := [.int v2, .ref v13]) (0, 0) d_X4_readField_48 zc_4 rfl cw_X4_149 wi_X4_readCell ws_X4_readCell rfl rfl (Nat.le_of_ble_eq_true rfl) (by decide) (by decide) ⟨by decide, by decide⟩ rfl (t_X4_readCell a0 h11) (fun v15 h14 => ?_)
    refine zg_ast0 d_X4_readField_51 (fun h16 => ?_)
    refine zg_aload_n 1 rfl d_X4_readField_52 ?_
    refine zg_getR d_X4_readField_53 zc_4 (by decide) fl_X4_22 (fun v17 => ?_)
    refine zg_getR d_X4_readField_56 zc_6 (by decide) fl_X4_172 (fun v18 => ?_)
    refine zg_iload_n 0 rfl d_X4_readField_59 ?_
    refine zg_aload_n 1 rfl d_X4_readField_60 ?_
    refine zg_iconst 0 rfl d_X4_readField_61 ?_
    refine zg_bipush 99 rfl d_X4_readField_62 ?_
    refine zg_cVi (b := a0) (As := [.int 0, .int 99]) (rest := [.int v2, .ref v18]) (0, 0) d_X4_readField_64 zc_4 rfl cw_X4_142 wi_X4_readNumber ws_X4_readNumber rfl rfl (Nat.le_of_ble_eq_true rfl) (by decide) (by decide) ⟨by decide, by decide⟩ rfl (t_X4_readNumber a0 0 99 h16) (fun v20 h19 => ?_)
    refine zg_ast0 d_X4_readField_67 (fun h21 => ?_)
    refine zg_aload_n 1 rfl d_X4_readField_68 ?_
    refine zg_getR d_X4_readField_69 zc_4 (by decide) fl_X4_22 (fun v22 => ?_)
    refine zg_dup rfl d_X4_readField_72 ?_
    refine zg_getI d_X4_readField_73 zc_6 (by decide) fl_X4_155 (fun v23 => ?_)
    refine zg_iconst 1 rfl d_X4_readField_76 ?_
    refine zg_iadd d_X4_readField_77 ?_
    refine zg_putV d_X4_readField_78 zc_6 (by decide) fl_X4_155 rfl rfl rfl (fun h24 => ?_)
    exact zg_vretK d_X4_readField_81 rfl ⟨Nat.le_of_ble_eq_true rfl, Nat.le_of_ble_eq_true rfl⟩ (fun q => q)
abbrev M_X4_readGround : zMt := (RX4, cX4_readGround, 3, 5, 148, none, "readGround", 0, 0)
theorem d_X4_readGround_0 : zDc M_X4_readGround 0 (.aload_n 0) 1 1 := ⟨by decide +kernel, rfl⟩
theorem d_X4_readGround_1 : zDc M_X4_readGround 1 (.invokevirtual 62) 3 4 := ⟨by decide +kernel, rfl⟩
theorem d_X4_readGround_4 : zDc M_X4_readGround 4 (.aload_n 0) 1 5 := ⟨by decide +kernel, rfl⟩
theorem d_X4_readGround_5 : zDc M_X4_readGround 5 (.invokevirtual 149) 3 8 := ⟨by decide +kernel, rfl⟩
theorem d_X4_readGround_8 : zDc M_X4_readGround 8 (.istore_n 2) 1 9 := ⟨by decide +kernel, rfl⟩
theorem d_X4_readGround_9 : zDc M_X4_readGround 9 (.iload_n 2) 1 10 := ⟨by decide +kernel, rfl⟩
theorem d_X4_readGround_10 : zDj M_X4_readGround 10 (.ifCond .lt 9) 9 13 19 := ⟨by decide +kernel, rfl, by decide⟩
theorem d_X4_readGround_13 : zDc M_X4_readGround 13 (.iload_n 2) 1 14 := ⟨by decide +kernel, rfl⟩
theorem d_X4_readGround_14 : zDc M_X4_readGround 14 (.bipush 24) 2 16 := ⟨by decide +kernel, rfl⟩
theorem d_X4_readGround_16 : zDj M_X4_readGround 16 (.if_icmp .lt 4) 4 19 20 := ⟨by decide +kernel, rfl, by decide⟩
theorem d_X4_readGround_19 : zDc M_X4_readGround 19 (.return_) 1 20 := ⟨by decide +kernel, rfl⟩
theorem d_X4_readGround_20 : zDc M_X4_readGround 20 (.aload_n 0) 1 21 := ⟨by decide +kernel, rfl⟩
theorem d_X4_readGround_21 : zDc M_X4_readGround 21 (.getfield 22) 3 24 := ⟨by decide +kernel, rfl⟩
theorem d_X4_readGround_24 : zDc M_X4_readGround 24 (.getfield 152) 3 27 := ⟨by decide +kernel, rfl⟩
theorem d_X4_readGround_27 : zDc M_X4_readGround 27 (.iload_n 2) 1 28 := ⟨by decide +kernel, rfl⟩
theorem d_X4_readGround_28 : zDc M_X4_readGround 28 (.iaload) 1 29 := ⟨by decide +kernel, rfl⟩
theorem d_X4_readGround_29 : zDj M_X4_readGround 29 (.ifCond .eq 12) 12 32 41 := ⟨by decide +kernel, rfl, by decide⟩
theorem d_X4_readGround_32 : zDc M_X4_readGround 32 (.aload_n 0) 1 33 := ⟨by decide +kernel, rfl⟩
theorem d_X4_readGround_33 : zDc M_X4_readGround 33 (.iconst 3) 1 34 := ⟨by decide +kernel, rfl⟩
theorem d_X4_readGround_34 : zDc M_X4_readGround 34 (.aload_n 0) 1 35 := ⟨by decide +kernel, rfl⟩
theorem d_X4_readGround_35 : zDc M_X4_readGround 35 (.getfield 139) 3 38 := ⟨by decide +kernel, rfl⟩
theorem d_X4_readGround_38 : zDc M_X4_readGround 38 (.invokevirtual 78) 3 41 := ⟨by decide +kernel, rfl⟩
theorem d_X4_readGround_41 : zDc M_X4_readGround 41 (.aload_n 0) 1 42 := ⟨by decide +kernel, rfl⟩
theorem d_X4_readGround_42 : zDc M_X4_readGround 42 (.getfield 22) 3 45 := ⟨by decide +kernel, rfl⟩
theorem d_X4_readGround_45 : zDc M_X4_readGround 45 (.getfield 152) 3 48 := ⟨by decide +kernel, rfl⟩
theorem d_X4_readGround_48 : zDc M_X4_readGround 48 (.iload_n 2) 1 49 := ⟨by decide +kernel, rfl⟩
theorem d_X4_readGround_49 : zDc M_X4_readGround 49 (.iload_n 1) 1 50 := ⟨by decide +kernel, rfl⟩
theorem d_X4_readGround_50 : zDc M_X4_readGround 50 (.iastore) 1 51 := ⟨by decide +kernel, rfl⟩
theorem d_X4_readGround_51 : zDc M_X4_readGround 51 (.return_) 1 52 := ⟨by decide +kernel, rfl⟩
def f_X4_readGround (a0 : Nat) (a1 : Int32) (h0 : zHp) : Option (Unit × zHp) :=
  zbd (zcv 4 a0 h0 (f_X4_advance a0 h0)) (fun v2 h1 =>
  zbd (zcv 4 a0 h1 (f_X4_readCell a0 h1)) (fun v4 h3 =>
  if v4 < 0 then
  some ((), h3)
  else
  if v4 < 24 then
  zob (zgR h3 a0 4 10) (fun v5 =>
  zob (zgR h3 v5 6 0) (fun v6 =>
  zob (zaI 0 h3 v6 v4) (fun v7 =>
  zbd (α := Unit) (
  if v7 = 0 then
  some ((), h3)
  else
  zob (zgI h3 a0 4 8) (fun v8 =>
  zbd (zcv 4 a0 h3 (f_X4_failAt a0 3 v8 h3)) (fun v10 h9 =>
  some ((), h9)))) (fun e11 h12 =>
  zob (zgR h12 a0 4 10) (fun v13 =>
  zob (zgR h12 v13 6 0) (fun v14 =>
  zob (zsI 0 h12 v14 v4 a1) (fun h15 =>
  some ((), h15))))))))
  else
  some ((), h3)))
set_option maxRecDepth 100000 in
set_option maxHeartbeats 4000000 in
theorem t_X4_readGround (a0 : Nat) (a1 : Int32) (h0 : zHp) : ∀ (r : Unit) (h' : zHp), f_X4_readGround a0 a1 h0 = some (r, h') → zCt yX4_readGround (.code yX4_readGround cX4_readGround 3 none) 5 148 0 0 [.ref a0, .int a1] h0 (none) h' := by
  refine zct_of M_X4_readGround yX4_readGround (by decide) rfl rfl [.ref a0, .int a1] h0 (Nat.le_of_ble_eq_true rfl) (fun _ => none) (fun X => ?_)
  show zG X M_X4_readGround (0, 0) 0 [(0, .ref a0), (1, .int a1)] [] h0 (f_X4_readGround a0 a1 h0) (fun (_ : Unit) h' => zKe X (none) h')
  unfold f_X4_readGround
  refine zg_aload_n 0 rfl d_X4_readGround_0 ?_
  refine zg_cVv (b := a0) (As := []) (rest := []) (0, 0) d_X4_readGround_1 zc_4 rfl cw_X4_62 wi_X4_advance ws_X4_advance rfl rfl (Nat.le_of_ble_eq_true rfl) (by decide) (by decide) ⟨by decide, by decide⟩ rfl (t_X4_advance a0 h0) (fun v2 h1 => ?_)
  refine zg_aload_n 0 rfl d_X4_readGround_4 ?_
  refine zg_cVi (b := a0) (As := []) (rest := []) (0, 0) d_X4_readGround_5 zc_4 rfl cw_X4_149 wi_X4_readCell ws_X4_readCell rfl rfl (Nat.le_of_ble_eq_true rfl) (by decide) (by decide) ⟨by decide, by decide⟩ rfl (t_X4_readCell a0 h1) (fun v4 h3 => ?_)
  refine zg_istore_n [(2, .int v4), (0, .ref a0), (1, .int a1)] d_X4_readGround_8 rfl (by decide) rfl ?_
  refine zg_iload_n 0 rfl d_X4_readGround_9 ?_
  refine zg_if_lt d_X4_readGround_10 ?_ ?_
  · exact zg_vretK d_X4_readGround_19 rfl ⟨Nat.le_of_ble_eq_true rfl, Nat.le_of_ble_eq_true rfl⟩ (fun q => q)
  · refine zg_iload_n 0 rfl d_X4_readGround_13 ?_
    refine zg_bipush 24 rfl d_X4_readGround_14 ?_
    refine zg_icmp_lt d_X4_readGround_16 ?_ ?_
    · refine zg_aload_n 1 rfl d_X4_readGround_20 ?_
      refine zg_getR d_X4_readGround_21 zc_4 (by decide) fl_X4_22 (fun v5 => ?_)
      refine zg_getR d_X4_readGround_24 zc_6 (by decide) fl_X4_152 (fun v6 => ?_)
      refine zg_iload_n 0 rfl d_X4_readGround_27 ?_
      refine zg_ald0 d_X4_readGround_28 (fun v7 => ?_)
      refine zg_bd (E := 41) (el := (fun (e11 : Unit) => [(0, .ref a0), (1, .int a1), (2, .int v4)])) (es := (fun (e11 : Unit) => [])) ?_ (fun e11 h12 => ?_)
      · refine zg_if_eq d_X4_readGround_29 ?_ ?_
        · exact zg_finK (E := 0) [1, 2, 0] rfl rfl (fun q => q)
        · refine zg_aload_n 1 rfl d_X4_readGround_32 ?_
          refine zg_iconst 3 rfl d_X4_readGround_33 ?_
          refine zg_aload_n 1 rfl d_X4_readGround_34 ?_
          refine zg_getI d_X4_readGround_35 zc_4 (by decide) fl_X4_139 (fun v8 => ?_)
          refine zg_cVv (b := a0) (As := [.int 3, .int v8]) (rest := []) (0, 0) d_X4_readGround_38 zc_4 rfl cw_X4_78 wi_X4_failAt ws_X4_failAt rfl rfl (Nat.le_of_ble_eq_true rfl) (by decide) (by decide) ⟨by decide, by decide⟩ rfl (t_X4_failAt a0 3 v8 h3) (fun v10 h9 => ?_)
          exact zg_finK (E := 0) [1, 2, 0] rfl rfl (fun q => q)
      · refine zg_aload_n 0 rfl d_X4_readGround_41 ?_
        refine zg_getR d_X4_readGround_42 zc_4 (by decide) fl_X4_22 (fun v13 => ?_)
        refine zg_getR d_X4_readGround_45 zc_6 (by decide) fl_X4_152 (fun v14 => ?_)
        refine zg_iload_n 2 rfl d_X4_readGround_48 ?_
        refine zg_iload_n 1 rfl d_X4_readGround_49 ?_
        refine zg_ast0 d_X4_readGround_50 (fun h15 => ?_)
        exact zg_vretK d_X4_readGround_51 rfl ⟨Nat.le_of_ble_eq_true rfl, Nat.le_of_ble_eq_true rfl⟩ (fun q => q)
    · exact zg_vretK d_X4_readGround_19 rfl ⟨Nat.le_of_ble_eq_true rfl, Nat.le_of_ble_eq_true rfl⟩ (fun q => q)
abbrev M_X4_readPart : zMt := (RX4, cX4_readPart, 1, 4, 126, none, "readPart", 0, 0)
theorem d_X4_readPart_0 : zDc M_X4_readPart 0 (.aload_n 0) 1 1 := ⟨by decide +kernel, rfl⟩
theorem d_X4_readPart_1 : zDc M_X4_readPart 1 (.getfield 65) 3 4 := ⟨by decide +kernel, rfl⟩
theorem d_X4_readPart_4 : zDc M_X4_readPart 4 (.bipush 37) 2 6 := ⟨by decide +kernel, rfl⟩
theorem d_X4_readPart_6 : zDj M_X4_readPart 6 (.if_icmp .ne 28) 28 9 34 := ⟨by decide +kernel, rfl, by decide⟩
theorem d_X4_readPart_9 : zDc M_X4_readPart 9 (.aload_n 0) 1 10 := ⟨by decide +kernel, rfl⟩
theorem d_X4_readPart_10 : zDc M_X4_readPart 10 (.invokevirtual 261) 3 13 := ⟨by decide +kernel, rfl⟩
theorem d_X4_readPart_13 : zDc M_X4_readPart 13 (.aload_n 0) 1 14 := ⟨by decide +kernel, rfl⟩
theorem d_X4_readPart_14 : zDc M_X4_readPart 14 (.getfield 22) 3 17 := ⟨by decide +kernel, rfl⟩
theorem d_X4_readPart_17 : zDc M_X4_readPart 17 (.getfield 218) 3 20 := ⟨by decide +kernel, rfl⟩
theorem d_X4_readPart_20 : zDc M_X4_readPart 20 (.aload_n 0) 1 21 := ⟨by decide +kernel, rfl⟩
theorem d_X4_readPart_21 : zDc M_X4_readPart 21 (.iconst 0) 1 22 := ⟨by decide +kernel, rfl⟩
theorem d_X4_readPart_22 : zDc M_X4_readPart 22 (.sipush 9999) 3 25 := ⟨by decide +kernel, rfl⟩
theorem d_X4_readPart_25 : zDc M_X4_readPart 25 (.invokevirtual 142) 3 28 := ⟨by decide +kernel, rfl⟩
theorem d_X4_readPart_28 : zDc M_X4_readPart 28 (.invokevirtual 271) 3 31 := ⟨by decide +kernel, rfl⟩
theorem d_X4_readPart_31 : zDj M_X4_readPart 31 (.goto 53) 53 34 84 := ⟨by decide +kernel, rfl, by decide⟩
theorem d_X4_readPart_34 : zDc M_X4_readPart 34 (.aload_n 0) 1 35 := ⟨by decide +kernel, rfl⟩
theorem d_X4_readPart_35 : zDc M_X4_readPart 35 (.getfield 65) 3 38 := ⟨by decide +kernel, rfl⟩
theorem d_X4_readPart_38 : zDc M_X4_readPart 38 (.bipush 16) 2 40 := ⟨by decide +kernel, rfl⟩
theorem d_X4_readPart_40 : zDj M_X4_readPart 40 (.if_icmp .lt 39) 39 43 79 := ⟨by decide +kernel, rfl, by decide⟩
theorem d_X4_readPart_43 : zDc M_X4_readPart 43 (.aload_n 0) 1 44 := ⟨by decide +kernel, rfl⟩
theorem d_X4_readPart_44 : zDc M_X4_readPart 44 (.getfield 65) 3 47 := ⟨by decide +kernel, rfl⟩
theorem d_X4_readPart_47 : zDc M_X4_readPart 47 (.bipush 22) 2 49 := ⟨by decide +kernel, rfl⟩
theorem d_X4_readPart_49 : zDj M_X4_readPart 49 (.if_icmp .gt 30) 30 52 79 := ⟨by decide +kernel, rfl, by decide⟩
theorem d_X4_readPart_52 : zDc M_X4_readPart 52 (.aload_n 0) 1 53 := ⟨by decide +kernel, rfl⟩
theorem d_X4_readPart_53 : zDc M_X4_readPart 53 (.getfield 22) 3 56 := ⟨by decide +kernel, rfl⟩
theorem d_X4_readPart_56 : zDc M_X4_readPart 56 (.getfield 218) 3 59 := ⟨by decide +kernel, rfl⟩
theorem d_X4_readPart_59 : zDc M_X4_readPart 59 (.aload_n 0) 1 60 := ⟨by decide +kernel, rfl⟩
theorem d_X4_readPart_60 : zDc M_X4_readPart 60 (.getfield 65) 3 63 := ⟨by decide +kernel, rfl⟩
theorem d_X4_readPart_63 : zDc M_X4_readPart 63 (.iconst (-1)) 1 64 := ⟨by decide +kernel, rfl⟩
theorem d_X4_readPart_64 : zDc M_X4_readPart 64 (.ixor) 1 65 := ⟨by decide +kernel, rfl⟩
theorem d_X4_readPart_65 : zDc M_X4_readPart 65 (.invokevirtual 271) 3 68 := ⟨by decide +kernel, rfl⟩
theorem d_X4_readPart_68 : zDc M_X4_readPart 68 (.aload_n 0) 1 69 := ⟨by decide +kernel, rfl⟩
theorem d_X4_readPart_69 : zDc M_X4_readPart 69 (.invokevirtual 261) 3 72 := ⟨by decide +kernel, rfl⟩
theorem d_X4_readPart_72 : zDc M_X4_readPart 72 (.aload_n 0) 1 73 := ⟨by decide +kernel, rfl⟩
theorem d_X4_readPart_73 : zDc M_X4_readPart 73 (.invokevirtual 62) 3 76 := ⟨by decide +kernel, rfl⟩
theorem d_X4_readPart_76 : zDj M_X4_readPart 76 (.goto 8) 8 79 84 := ⟨by decide +kernel, rfl, by decide⟩
theorem d_X4_readPart_79 : zDc M_X4_readPart 79 (.aload_n 0) 1 80 := ⟨by decide +kernel, rfl⟩
theorem d_X4_readPart_80 : zDc M_X4_readPart 80 (.iconst 1) 1 81 := ⟨by decide +kernel, rfl⟩
theorem d_X4_readPart_81 : zDc M_X4_readPart 81 (.invokevirtual 82) 3 84 := ⟨by decide +kernel, rfl⟩
theorem d_X4_readPart_84 : zDc M_X4_readPart 84 (.return_) 1 85 := ⟨by decide +kernel, rfl⟩
def f_X4_readPart (a0 : Nat) (h0 : zHp) : Option (Unit × zHp) :=
  zob (zgI h0 a0 4 4) (fun v1 =>
  if v1 = 37 then
  zbd (zcv 4 a0 h0 (f_X4_countKnot a0 h0)) (fun v3 h2 =>
  zob (zgR h2 a0 4 10) (fun v4 =>
  zob (zgR h2 v4 6 12) (fun v5 =>
  zbd (zcv 4 a0 h2 (f_X4_readNumber a0 0 9999 h2)) (fun v7 h6 =>
  zbd (zcv 2 v5 h6 (f_X2_place v5 v7 h6)) (fun v9 h8 =>
  some ((), h8))))))
  else
  zob (zgI h0 a0 4 4) (fun v10 =>
  if v10 < 16 then
  zbd (zcv 4 a0 h0 (f_X4_fail a0 1 h0)) (fun v12 h11 =>
  some ((), h11))
  else
  zob (zgI h0 a0 4 4) (fun v13 =>
  if 22 < v13 then
  zbd (zcv 4 a0 h0 (f_X4_fail a0 1 h0)) (fun v15 h14 =>
  some ((), h14))
  else
  zob (zgR h0 a0 4 10) (fun v16 =>
  zob (zgR h0 v16 6 12) (fun v17 =>
  zob (zgI h0 a0 4 4) (fun v18 =>
  zbd (zcv 2 v17 h0 (f_X2_place v17 (v18 ^^^ (-1)) h0)) (fun v20 h19 =>
  zbd (zcv 4 a0 h19 (f_X4_countKnot a0 h19)) (fun v22 h21 =>
  zbd (zcv 4 a0 h21 (f_X4_advance a0 h21)) (fun v24 h23 =>
  some ((), h23))))))))))
set_option maxRecDepth 100000 in
set_option maxHeartbeats 4000000 in
theorem t_X4_readPart (a0 : Nat) (h0 : zHp) : ∀ (r : Unit) (h' : zHp), f_X4_readPart a0 h0 = some (r, h') → zCt yX4_readPart (.code yX4_readPart cX4_readPart 1 none) 4 126 0 0 [.ref a0] h0 (none) h' := by
  refine zct_of M_X4_readPart yX4_readPart (by decide) rfl rfl [.ref a0] h0 (Nat.le_of_ble_eq_true rfl) (fun _ => none) (fun X => ?_)
  show zG X M_X4_readPart (0, 0) 0 [(0, .ref a0)] [] h0 (f_X4_readPart a0 h0) (fun (_ : Unit) h' => zKe X (none) h')
  unfold f_X4_readPart
  refine zg_aload_n 0 rfl d_X4_readPart_0 ?_
  refine zg_getI d_X4_readPart_1 zc_4 (by decide) fl_X4_65 (fun v1 => ?_)
  refine zg_bipush 37 rfl d_X4_readPart_4 ?_
  refine zg_icmp_ne d_X4_readPart_6 ?_ ?_
  · refine zg_aload_n 0 rfl d_X4_readPart_9 ?_
    refine zg_cVv (b := a0) (As := []) (rest := []) (0, 0) d_X4_readPart_10 zc_4 rfl cw_X4_261 wi_X4_countKnot ws_X4_countKnot rfl rfl (Nat.le_of_ble_eq_true rfl) (by decide) (by decide) ⟨by decide, by decide⟩ rfl (t_X4_countKnot a0 h0) (fun v3 h2 => ?_)
    refine zg_aload_n 0 rfl d_X4_readPart_13 ?_
    refine zg_getR d_X4_readPart_14 zc_4 (by decide) fl_X4_22 (fun v4 => ?_)
    refine zg_getR d_X4_readPart_17 zc_6 (by decide) fl_X4_218 (fun v5 => ?_)
    refine zg_aload_n 0 rfl d_X4_readPart_20 ?_
    refine zg_iconst 0 rfl d_X4_readPart_21 ?_
    refine zg_sipush 9999 rfl d_X4_readPart_22 ?_
    refine zg_cVi (b := a0) (As := [.int 0, .int 9999]) (rest := [.ref v5]) (0, 0) d_X4_readPart_25 zc_4 rfl cw_X4_142 wi_X4_readNumber ws_X4_readNumber rfl rfl (Nat.le_of_ble_eq_true rfl) (by decide) (by decide) ⟨by decide, by decide⟩ rfl (t_X4_readNumber a0 0 9999 h2) (fun v7 h6 => ?_)
    refine zg_cVv (b := v5) (As := [.int v7]) (rest := []) (0, 0) d_X4_readPart_28 zc_2 rfl cw_X4_271 wi_X2_place ws_X2_place rfl rfl (Nat.le_of_ble_eq_true rfl) (by decide) (by decide) ⟨by decide, by decide⟩ rfl (t_X2_place v5 v7 h6) (fun v9 h8 => ?_)
    refine zg_goto d_X4_readPart_31 ?_
    exact zg_vretK d_X4_readPart_84 rfl ⟨Nat.le_of_ble_eq_true rfl, Nat.le_of_ble_eq_true rfl⟩ (fun q => q)
  · refine zg_aload_n 0 rfl d_X4_readPart_34 ?_
    refine zg_getI d_X4_readPart_35 zc_4 (by decide) fl_X4_65 (fun v10 => ?_)
    refine zg_bipush 16 rfl d_X4_readPart_38 ?_
    refine zg_icmp_lt d_X4_readPart_40 ?_ ?_
    · refine zg_aload_n 0 rfl d_X4_readPart_79 ?_
      refine zg_iconst 1 rfl d_X4_readPart_80 ?_
      refine zg_cVv (b := a0) (As := [.int 1]) (rest := []) (0, 0) d_X4_readPart_81 zc_4 rfl cw_X4_82 wi_X4_fail ws_X4_fail rfl rfl (Nat.le_of_ble_eq_true rfl) (by decide) (by decide) ⟨by decide, by decide⟩ rfl (t_X4_fail a0 1 h0) (fun v12 h11 => ?_)
      exact zg_vretK d_X4_readPart_84 rfl ⟨Nat.le_of_ble_eq_true rfl, Nat.le_of_ble_eq_true rfl⟩ (fun q => q)
    · refine zg_aload_n 0 rfl d_X4_readPart_43 ?_
      refine zg_getI d_X4_readPart_44 zc_4 (by decide) fl_X4_65 (fun v13 => ?_)
      refine zg_bipush 22 rfl d_X4_readPart_47 ?_
      refine zg_icmp_gt d_X4_readPart_49 ?_ ?_
      · refine zg_aload_n 0 rfl d_X4_readPart_79 ?_
        refine zg_iconst 1 rfl d_X4_readPart_80 ?_
        refine zg_cVv (b := a0) (As := [.int 1]) (rest := []) (0, 0) d_X4_readPart_81 zc_4 rfl cw_X4_82 wi_X4_fail ws_X4_fail rfl rfl (Nat.le_of_ble_eq_true rfl) (by decide) (by decide) ⟨by decide, by decide⟩ rfl (t_X4_fail a0 1 h0) (fun v15 h14 => ?_)
        exact zg_vretK d_X4_readPart_84 rfl ⟨Nat.le_of_ble_eq_true rfl, Nat.le_of_ble_eq_true rfl⟩ (fun q => q)
      · refine zg_aload_n 0 rfl d_X4_readPart_52 ?_
        refine zg_getR d_X4_readPart_53 zc_4 (by decide) fl_X4_22 (fun v16 => ?_)
        refine zg_getR d_X4_readPart_56 zc_6 (by decide) fl_X4_218 (fun v17 => ?_)
        refine zg_aload_n 0 rfl d_X4_readPart_59 ?_
        refine zg_getI d_X4_readPart_60 zc_4 (by decide) fl_X4_65 (fun v18 => ?_)
        refine zg_iconst (-1) rfl d_X4_readPart_63 ?_
        refine zg_ixor d_X4_readPart_64 ?_
        refine zg_cVv (b := v17) (As := [.int (v18 ^^^ (-1))]) (rest := []) (0, 0) d_X4_readPart_65 zc_2 rfl cw_X4_271 wi_X2_place ws_X2_place rfl rfl (Nat.le_of_ble_eq_true rfl) (by decide) (by decide) ⟨by decide, by decide⟩ rfl (t_X2_place v17 (v18 ^^^ (-1)) h0) (fun v20 h19 => ?_)
        refine zg_aload_n 0 rfl d_X4_readPart_68 ?_
        refine zg_cVv (b := a0) (As := []) (rest := []) (0, 0) d_X4_readPart_69 zc_4 rfl cw_X4_261 wi_X4_countKnot ws_X4_countKnot rfl rfl (Nat.le_of_ble_eq_true rfl) (by decide) (by decide) ⟨by decide, by decide⟩ rfl (t_X4_countKnot a0 h19) (fun v22 h21 => ?_)
        refine zg_aload_n 0 rfl d_X4_readPart_72 ?_
        refine zg_cVv (b := a0) (As := []) (rest := []) (0, 0) d_X4_readPart_73 zc_4 rfl cw_X4_62 wi_X4_advance ws_X4_advance rfl rfl (Nat.le_of_ble_eq_true rfl) (by decide) (by decide) ⟨by decide, by decide⟩ rfl (t_X4_advance a0 h21) (fun v24 h23 => ?_)
        refine zg_goto d_X4_readPart_76 ?_
        exact zg_vretK d_X4_readPart_84 rfl ⟨Nat.le_of_ble_eq_true rfl, Nat.le_of_ble_eq_true rfl⟩ (fun q => q)
abbrev M_X4_readSign : zMt := (RX4, cX4_readSign, 2, 4, 123, (some .boolean), "readSign", 0, 0)
theorem d_X4_readSign_0 : zDc M_X4_readSign 0 (.iconst 0) 1 1 := ⟨by decide +kernel, rfl⟩
theorem d_X4_readSign_1 : zDc M_X4_readSign 1 (.istore_n 1) 1 2 := ⟨by decide +kernel, rfl⟩
theorem d_X4_readSign_2 : zDc M_X4_readSign 2 (.iload_n 1) 1 3 := ⟨by decide +kernel, rfl⟩
theorem d_X4_readSign_3 : zDc M_X4_readSign 3 (.bipush 8) 2 5 := ⟨by decide +kernel, rfl⟩
theorem d_X4_readSign_5 : zDj M_X4_readSign 5 (.if_icmp .ge 58) 58 8 63 := ⟨by decide +kernel, rfl, by decide⟩
theorem d_X4_readSign_8 : zDc M_X4_readSign 8 (.aload_n 0) 1 9 := ⟨by decide +kernel, rfl⟩
theorem d_X4_readSign_9 : zDc M_X4_readSign 9 (.getfield 65) 3 12 := ⟨by decide +kernel, rfl⟩
theorem d_X4_readSign_12 : zDc M_X4_readSign 12 (.bipush 34) 2 14 := ⟨by decide +kernel, rfl⟩
theorem d_X4_readSign_14 : zDj M_X4_readSign 14 (.if_icmp .ne 49) 49 17 63 := ⟨by decide +kernel, rfl, by decide⟩
theorem d_X4_readSign_17 : zDc M_X4_readSign 17 (.aload_n 0) 1 18 := ⟨by decide +kernel, rfl⟩
theorem d_X4_readSign_18 : zDc M_X4_readSign 18 (.getfield 233) 3 21 := ⟨by decide +kernel, rfl⟩
theorem d_X4_readSign_21 : zDj M_X4_readSign 21 (.ifCond .le 42) 42 24 63 := ⟨by decide +kernel, rfl, by decide⟩
theorem d_X4_readSign_24 : zDc M_X4_readSign 24 (.aload_n 0) 1 25 := ⟨by decide +kernel, rfl⟩
theorem d_X4_readSign_25 : zDc M_X4_readSign 25 (.iconst 0) 1 26 := ⟨by decide +kernel, rfl⟩
theorem d_X4_readSign_26 : zDc M_X4_readSign 26 (.invokevirtual 246) 3 29 := ⟨by decide +kernel, rfl⟩
theorem d_X4_readSign_29 : zDc M_X4_readSign 29 (.aload_n 0) 1 30 := ⟨by decide +kernel, rfl⟩
theorem d_X4_readSign_30 : zDc M_X4_readSign 30 (.iconst 0) 1 31 := ⟨by decide +kernel, rfl⟩
theorem d_X4_readSign_31 : zDc M_X4_readSign 31 (.aload_n 0) 1 32 := ⟨by decide +kernel, rfl⟩
theorem d_X4_readSign_32 : zDc M_X4_readSign 32 (.getfield 230) 3 35 := ⟨by decide +kernel, rfl⟩
theorem d_X4_readSign_35 : zDc M_X4_readSign 35 (.iconst 1) 1 36 := ⟨by decide +kernel, rfl⟩
theorem d_X4_readSign_36 : zDc M_X4_readSign 36 (.isub) 1 37 := ⟨by decide +kernel, rfl⟩
theorem d_X4_readSign_37 : zDc M_X4_readSign 37 (.invokestatic 273) 3 40 := ⟨by decide +kernel, rfl⟩
theorem d_X4_readSign_40 : zDc M_X4_readSign 40 (.putfield 230) 3 43 := ⟨by decide +kernel, rfl⟩
theorem d_X4_readSign_43 : zDc M_X4_readSign 43 (.aload_n 0) 1 44 := ⟨by decide +kernel, rfl⟩
theorem d_X4_readSign_44 : zDc M_X4_readSign 44 (.dup) 1 45 := ⟨by decide +kernel, rfl⟩
theorem d_X4_readSign_45 : zDc M_X4_readSign 45 (.getfield 233) 3 48 := ⟨by decide +kernel, rfl⟩
theorem d_X4_readSign_48 : zDc M_X4_readSign 48 (.iconst 1) 1 49 := ⟨by decide +kernel, rfl⟩
theorem d_X4_readSign_49 : zDc M_X4_readSign 49 (.isub) 1 50 := ⟨by decide +kernel, rfl⟩
theorem d_X4_readSign_50 : zDc M_X4_readSign 50 (.putfield 233) 3 53 := ⟨by decide +kernel, rfl⟩
theorem d_X4_readSign_53 : zDc M_X4_readSign 53 (.aload_n 0) 1 54 := ⟨by decide +kernel, rfl⟩
theorem d_X4_readSign_54 : zDc M_X4_readSign 54 (.invokevirtual 62) 3 57 := ⟨by decide +kernel, rfl⟩
theorem d_X4_readSign_57 : zDc M_X4_readSign 57 (.iinc 1 1) 3 60 := ⟨by decide +kernel, rfl⟩
theorem d_X4_readSign_60 : zDj M_X4_readSign 60 (.goto (-58)) (-58) 63 2 := ⟨by decide +kernel, rfl, by decide⟩
theorem d_X4_readSign_63 : zDc M_X4_readSign 63 (.aload_n 0) 1 64 := ⟨by decide +kernel, rfl⟩
theorem d_X4_readSign_64 : zDc M_X4_readSign 64 (.getfield 65) 3 67 := ⟨by decide +kernel, rfl⟩
theorem d_X4_readSign_67 : zDc M_X4_readSign 67 (.invokestatic 267) 3 70 := ⟨by decide +kernel, rfl⟩
theorem d_X4_readSign_70 : zDc M_X4_readSign 70 (.istore_n 1) 1 71 := ⟨by decide +kernel, rfl⟩
theorem d_X4_readSign_71 : zDc M_X4_readSign 71 (.iload_n 1) 1 72 := ⟨by decide +kernel, rfl⟩
theorem d_X4_readSign_72 : zDj M_X4_readSign 72 (.ifCond .eq 12) 12 75 84 := ⟨by decide +kernel, rfl, by decide⟩
theorem d_X4_readSign_75 : zDc M_X4_readSign 75 (.aload_n 0) 1 76 := ⟨by decide +kernel, rfl⟩
theorem d_X4_readSign_76 : zDc M_X4_readSign 76 (.getfield 65) 3 79 := ⟨by decide +kernel, rfl⟩
theorem d_X4_readSign_79 : zDc M_X4_readSign 79 (.bipush 15) 2 81 := ⟨by decide +kernel, rfl⟩
theorem d_X4_readSign_81 : zDj M_X4_readSign 81 (.if_icmp .ne 17) 17 84 98 := ⟨by decide +kernel, rfl, by decide⟩
theorem d_X4_readSign_84 : zDc M_X4_readSign 84 (.aload_n 0) 1 85 := ⟨by decide +kernel, rfl⟩
theorem d_X4_readSign_85 : zDc M_X4_readSign 85 (.getfield 233) 3 88 := ⟨by decide +kernel, rfl⟩
theorem d_X4_readSign_88 : zDj M_X4_readSign 88 (.ifCond .le 8) 8 91 96 := ⟨by decide +kernel, rfl, by decide⟩
theorem d_X4_readSign_91 : zDc M_X4_readSign 91 (.aload_n 0) 1 92 := ⟨by decide +kernel, rfl⟩
theorem d_X4_readSign_92 : zDc M_X4_readSign 92 (.iconst 1) 1 93 := ⟨by decide +kernel, rfl⟩
theorem d_X4_readSign_93 : zDc M_X4_readSign 93 (.invokevirtual 82) 3 96 := ⟨by decide +kernel, rfl⟩
theorem d_X4_readSign_96 : zDc M_X4_readSign 96 (.iconst 0) 1 97 := ⟨by decide +kernel, rfl⟩
theorem d_X4_readSign_97 : zDc M_X4_readSign 97 (.ireturn) 1 98 := ⟨by decide +kernel, rfl⟩
theorem d_X4_readSign_98 : zDc M_X4_readSign 98 (.aload_n 0) 1 99 := ⟨by decide +kernel, rfl⟩
theorem d_X4_readSign_99 : zDc M_X4_readSign 99 (.iload_n 1) 1 100 := ⟨by decide +kernel, rfl⟩
theorem d_X4_readSign_100 : zDc M_X4_readSign 100 (.iconst 4) 1 101 := ⟨by decide +kernel, rfl⟩
theorem d_X4_readSign_101 : zDj M_X4_readSign 101 (.if_icmp .ne 7) 7 104 108 := ⟨by decide +kernel, rfl, by decide⟩
theorem d_X4_readSign_104 : zDc M_X4_readSign 104 (.iconst 4) 1 105 := ⟨by decide +kernel, rfl⟩
theorem d_X4_readSign_105 : zDj M_X4_readSign 105 (.goto 6) 6 108 111 := ⟨by decide +kernel, rfl, by decide⟩
theorem d_X4_readSign_108 : zDc M_X4_readSign 108 (.iload_n 1) 1 109 := ⟨by decide +kernel, rfl⟩
theorem d_X4_readSign_109 : zDc M_X4_readSign 109 (.iconst 1) 1 110 := ⟨by decide +kernel, rfl⟩
theorem d_X4_readSign_110 : zDc M_X4_readSign 110 (.isub) 1 111 := ⟨by decide +kernel, rfl⟩
theorem d_X4_readSign_111 : zDc M_X4_readSign 111 (.invokevirtual 246) 3 114 := ⟨by decide +kernel, rfl⟩
theorem d_X4_readSign_114 : zDc M_X4_readSign 114 (.iload_n 1) 1 115 := ⟨by decide +kernel, rfl⟩
theorem d_X4_readSign_115 : zDc M_X4_readSign 115 (.iconst 4) 1 116 := ⟨by decide +kernel, rfl⟩
theorem d_X4_readSign_116 : zDj M_X4_readSign 116 (.if_icmp .ne 36) 36 119 152 := ⟨by decide +kernel, rfl, by decide⟩
theorem d_X4_readSign_119 : zDc M_X4_readSign 119 (.aload_n 0) 1 120 := ⟨by decide +kernel, rfl⟩
theorem d_X4_readSign_120 : zDc M_X4_readSign 120 (.getfield 230) 3 123 := ⟨by decide +kernel, rfl⟩
theorem d_X4_readSign_123 : zDj M_X4_readSign 123 (.ifCond .le 29) 29 126 152 := ⟨by decide +kernel, rfl, by decide⟩
theorem d_X4_readSign_126 : zDc M_X4_readSign 126 (.aload_n 0) 1 127 := ⟨by decide +kernel, rfl⟩
theorem d_X4_readSign_127 : zDc M_X4_readSign 127 (.getfield 26) 3 130 := ⟨by decide +kernel, rfl⟩
theorem d_X4_readSign_130 : zDc M_X4_readSign 130 (.aload_n 0) 1 131 := ⟨by decide +kernel, rfl⟩
theorem d_X4_readSign_131 : zDc M_X4_readSign 131 (.getfield 230) 3 134 := ⟨by decide +kernel, rfl⟩
theorem d_X4_readSign_134 : zDc M_X4_readSign 134 (.iconst 1) 1 135 := ⟨by decide +kernel, rfl⟩
theorem d_X4_readSign_135 : zDc M_X4_readSign 135 (.isub) 1 136 := ⟨by decide +kernel, rfl⟩
theorem d_X4_readSign_136 : zDc M_X4_readSign 136 (.iaload) 1 137 := ⟨by decide +kernel, rfl⟩
theorem d_X4_readSign_137 : zDc M_X4_readSign 137 (.invokestatic 267) 3 140 := ⟨by decide +kernel, rfl⟩
theorem d_X4_readSign_140 : zDc M_X4_readSign 140 (.iconst 4) 1 141 := ⟨by decide +kernel, rfl⟩
theorem d_X4_readSign_141 : zDj M_X4_readSign 141 (.if_icmp .ne 11) 11 144 152 := ⟨by decide +kernel, rfl, by decide⟩
theorem d_X4_readSign_144 : zDc M_X4_readSign 144 (.aload_n 0) 1 145 := ⟨by decide +kernel, rfl⟩
theorem d_X4_readSign_145 : zDc M_X4_readSign 145 (.iconst 1) 1 146 := ⟨by decide +kernel, rfl⟩
theorem d_X4_readSign_146 : zDc M_X4_readSign 146 (.invokevirtual 82) 3 149 := ⟨by decide +kernel, rfl⟩
theorem d_X4_readSign_149 : zDj M_X4_readSign 149 (.goto 7) 7 152 156 := ⟨by decide +kernel, rfl, by decide⟩
theorem d_X4_readSign_152 : zDc M_X4_readSign 152 (.aload_n 0) 1 153 := ⟨by decide +kernel, rfl⟩
theorem d_X4_readSign_153 : zDc M_X4_readSign 153 (.invokevirtual 261) 3 156 := ⟨by decide +kernel, rfl⟩
theorem d_X4_readSign_156 : zDc M_X4_readSign 156 (.aload_n 0) 1 157 := ⟨by decide +kernel, rfl⟩
theorem d_X4_readSign_157 : zDc M_X4_readSign 157 (.aload_n 0) 1 158 := ⟨by decide +kernel, rfl⟩
theorem d_X4_readSign_158 : zDc M_X4_readSign 158 (.getfield 65) 3 161 := ⟨by decide +kernel, rfl⟩
theorem d_X4_readSign_161 : zDc M_X4_readSign 161 (.invokevirtual 264) 3 164 := ⟨by decide +kernel, rfl⟩
theorem d_X4_readSign_164 : zDc M_X4_readSign 164 (.aload_n 0) 1 165 := ⟨by decide +kernel, rfl⟩
theorem d_X4_readSign_165 : zDc M_X4_readSign 165 (.invokevirtual 62) 3 168 := ⟨by decide +kernel, rfl⟩
theorem d_X4_readSign_168 : zDc M_X4_readSign 168 (.aload_n 0) 1 169 := ⟨by decide +kernel, rfl⟩
theorem d_X4_readSign_169 : zDc M_X4_readSign 169 (.getfield 29) 3 172 := ⟨by decide +kernel, rfl⟩
theorem d_X4_readSign_172 : zDj M_X4_readSign 172 (.ifCond .ne 7) 7 175 179 := ⟨by decide +kernel, rfl, by decide⟩
theorem d_X4_readSign_175 : zDc M_X4_readSign 175 (.iconst 1) 1 176 := ⟨by decide +kernel, rfl⟩
theorem d_X4_readSign_176 : zDj M_X4_readSign 176 (.goto 4) 4 179 180 := ⟨by decide +kernel, rfl, by decide⟩
theorem d_X4_readSign_179 : zDc M_X4_readSign 179 (.iconst 0) 1 180 := ⟨by decide +kernel, rfl⟩
theorem d_X4_readSign_180 : zDc M_X4_readSign 180 (.ireturn) 1 181 := ⟨by decide +kernel, rfl⟩
def f_X4_readSign (a0 : Nat) (h0 : zHp) : Option (Int32 × zHp) :=
  zbd (
  zlp (σ := Int32) (β := Int32) zLF (fun s1 h2 =>
  if 8 ≤ s1 then
  some ((.inr s1), h2)
  else
  zob (zgI h2 a0 4 4) (fun v5 =>
  if v5 = 34 then
  zob (zgI h2 a0 4 13) (fun v6 =>
  if v6 ≤ 0 then
  some ((.inr s1), h2)
  else
  zbd (zcv 4 a0 h2 (f_X4_placeAbove a0 0 h2)) (fun v8 h7 =>
  zob (zgI h7 a0 4 12) (fun v9 =>
  zob (zpV h7 a0 4 12 (.int (zmx 0 (v9 - 1)))) (fun h10 =>
  zob (zgI h10 a0 4 13) (fun v11 =>
  zob (zpV h10 a0 4 13 (.int (v11 - 1))) (fun h12 =>
  zbd (zcv 4 a0 h12 (f_X4_advance a0 h12)) (fun v14 h13 =>
  some ((.inl (s1 + 1)), h13))))))))
  else
  some ((.inr s1), h2))) 0 h0) (fun e3 h4 =>
  zob (zgI h4 a0 4 4) (fun v15 =>
  zbd ((f_X4_rankOf v15 h4)) (fun v17 h16 =>
  zbd (α := (Unit ⊕ Int32)) (
  if v17 = 0 then
  some ((.inl ()), h16)
  else
  zob (zgI h16 a0 4 4) (fun v18 =>
  if v18 = 15 then
  some ((.inl ()), h16)
  else
  zbd (α := Int32) (
  if v17 = 4 then
  some (4, h16)
  else
  some ((v17 - 1), h16)) (fun e19 h20 =>
  zbd (zcv 4 a0 h20 (f_X4_placeAbove a0 e19 h20)) (fun v22 h21 =>
  zbd (α := Unit) (
  if v17 = 4 then
  zob (zgI h21 a0 4 12) (fun v23 =>
  zbd (α := (Unit ⊕ Unit)) (
  if v23 ≤ 0 then
  some ((.inl ()), h21)
  else
  zob (zgR h21 a0 4 11) (fun v24 =>
  zob (zgI h21 a0 4 12) (fun v25 =>
  zob (zaI 0 h21 v24 (v25 - 1)) (fun v26 =>
  zbd ((f_X4_rankOf v26 h21)) (fun v28 h27 =>
  if v28 = 4 then
  zbd (zcv 4 a0 h27 (f_X4_fail a0 1 h27)) (fun v30 h29 =>
  some ((.inr ()), h29))
  else
  some ((.inl ()), h27)))))) (fun b50 h32 => zsl b50 (fun e31 =>
  zbd (zcv 4 a0 h32 (f_X4_countKnot a0 h32)) (fun v34 h33 =>
  some ((), h33))) (fun r => some (r, h32))))
  else
  zbd (zcv 4 a0 h21 (f_X4_countKnot a0 h21)) (fun v36 h35 =>
  some ((), h35))) (fun e37 h38 =>
  zob (zgI h38 a0 4 4) (fun v39 =>
  zbd (zcv 4 a0 h38 (f_X4_letWait a0 v39 h38)) (fun v41 h40 =>
  zbd (zcv 4 a0 h40 (f_X4_advance a0 h40)) (fun v43 h42 =>
  zob (zgI h42 a0 4 14) (fun v44 =>
  if v44 = 0 then
  some ((.inr 1), h42)
  else
  some ((.inr 0), h42)))))))))) (fun b51 h46 => zsl b51 (fun e45 =>
  zob (zgI h46 a0 4 13) (fun v47 =>
  if v47 ≤ 0 then
  some (0, h46)
  else
  zbd (zcv 4 a0 h46 (f_X4_fail a0 1 h46)) (fun v49 h48 =>
  some (0, h48)))) (fun r => some (r, h46))))))
set_option maxRecDepth 100000 in
set_option maxHeartbeats 4000000 in
theorem t_X4_readSign (a0 : Nat) (h0 : zHp) : ∀ (r : Int32) (h' : zHp), f_X4_readSign a0 h0 = some (r, h') → zCt yX4_readSign (.code yX4_readSign cX4_readSign 2 (some .boolean)) 4 123 0 0 [.ref a0] h0 (some (.int r)) h' := by
  refine zct_of M_X4_readSign yX4_readSign (by decide) rfl rfl [.ref a0] h0 (Nat.le_of_ble_eq_true rfl) (fun r => some (.int r)) (fun X => ?_)
  show zG X M_X4_readSign (0, 0) 0 [(0, .ref a0)] [] h0 (f_X4_readSign a0 h0) (fun (r : Int32) h' => zKe X (some (.int r)) h')
  unfold f_X4_readSign
  refine zg_iconst 0 rfl d_X4_readSign_0 ?_
  refine zg_istore_n [(1, .int 0), (0, .ref a0)] d_X4_readSign_1 rfl (by decide) rfl ?_
  refine zg_bd (E := 63) (el := (fun (e3 : Int32) => [(0, .ref a0), (1, .int e3)])) (es := fun _ => []) (zg_sub [1, 0] rfl (zg_lp (el := (fun (s1 : Int32) => [(0, .ref a0), (1, .int s1)])) (fun s1 h2 => ?_) 0 h0)) (fun e3 h4 => ?_)
  · refine zg_iload_n 1 rfl d_X4_readSign_2 ?_
    refine zg_bipush 8 rfl d_X4_readSign_3 ?_
    refine zg_icmp_ge d_X4_readSign_5 ?_ ?_
    · exact zg_finK (E := 0) [0, 1] rfl rfl (fun q => q)
    · refine zg_aload_n 0 rfl d_X4_readSign_8 ?_
      refine zg_getI d_X4_readSign_9 zc_4 (by decide) fl_X4_65 (fun v5 => ?_)
      refine zg_bipush 34 rfl d_X4_readSign_12 ?_
      refine zg_icmp_ne d_X4_readSign_14 ?_ ?_
      · refine zg_aload_n 0 rfl d_X4_readSign_17 ?_
        refine zg_getI d_X4_readSign_18 zc_4 (by decide) fl_X4_233 (fun v6 => ?_)
        refine zg_if_le d_X4_readSign_21 ?_ ?_
        · exact zg_finK (E := 0) [0, 1] rfl rfl (fun q => q)
        · refine zg_aload_n 0 rfl d_X4_readSign_24 ?_
          refine zg_iconst 0 rfl d_X4_readSign_25 ?_
          refine zg_cVv (b := a0) (As := [.int 0]) (rest := []) (0, 0) d_X4_readSign_26 zc_4 rfl cw_X4_246 wi_X4_placeAbove ws_X4_placeAbove rfl rfl (Nat.le_of_ble_eq_true rfl) (by decide) (by decide) ⟨by decide, by decide⟩ rfl (t_X4_placeAbove a0 0 h2) (fun v8 h7 => ?_)
          refine zg_aload_n 0 rfl d_X4_readSign_29 ?_
          refine zg_iconst 0 rfl d_X4_readSign_30 ?_
          refine zg_aload_n 0 rfl d_X4_readSign_31 ?_
          refine zg_getI d_X4_readSign_32 zc_4 (by decide) fl_X4_230 (fun v9 => ?_)
          refine zg_iconst 1 rfl d_X4_readSign_35 ?_
          refine zg_isub d_X4_readSign_36 ?_
          refine zg_mmax d_X4_readSign_37 ml_X4_273 (by decide) (Nat.le_of_ble_eq_true rfl) ⟨Nat.le_of_ble_eq_true rfl, Nat.le_of_ble_eq_true rfl⟩ ?_
          refine zg_putV d_X4_readSign_40 zc_4 (by decide) fl_X4_230 rfl rfl rfl (fun h10 => ?_)
          refine zg_aload_n 0 rfl d_X4_readSign_43 ?_
          refine zg_dup rfl d_X4_readSign_44 ?_
          refine zg_getI d_X4_readSign_45 zc_4 (by decide) fl_X4_233 (fun v11 => ?_)
          refine zg_iconst 1 rfl d_X4_readSign_48 ?_
          refine zg_isub d_X4_readSign_49 ?_
          refine zg_putV d_X4_readSign_50 zc_4 (by decide) fl_X4_233 rfl rfl rfl (fun h12 => ?_)
          refine zg_aload_n 0 rfl d_X4_readSign_53 ?_
          refine zg_cVv (b := a0) (As := []) (rest := []) (0, 0) d_X4_readSign_54 zc_4 rfl cw_X4_62 wi_X4_advance ws_X4_advance rfl rfl (Nat.le_of_ble_eq_true rfl) (by decide) (by decide) ⟨by decide, by decide⟩ rfl (t_X4_advance a0 h12) (fun v14 h13 => ?_)
          refine zg_iinc 1 (s1 + 1) [(1, .int (s1 + 1)), (0, .ref a0)] d_X4_readSign_57 rfl rfl (by decide) rfl ?_
          refine zg_goto d_X4_readSign_60 ?_
          exact zg_finK (E := 0) [1, 0] rfl rfl (fun q => q)
      · exact zg_finK (E := 0) [0, 1] rfl rfl (fun q => q)
  · refine zg_aload_n 0 rfl d_X4_readSign_63 ?_
    refine zg_getI d_X4_readSign_64 zc_4 (by decide) fl_X4_65 (fun v15 => ?_)
    refine zg_cSi (As := [.int v15]) (rest := []) (0, 0) d_X4_readSign_67 cw_X4_267 wt_X4_rankOf rfl rfl (Nat.le_of_ble_eq_true rfl) (by decide) (by decide) ⟨by decide, by decide⟩ rfl (t_X4_rankOf v15 h4) (fun v17 h16 => ?_)
    refine zg_istore_n [(1, .int v17), (0, .ref a0)] d_X4_readSign_70 rfl (by decide) rfl ?_
    refine zg_iload_n 0 rfl d_X4_readSign_71 ?_
    refine zg_bdr (E := 84) (el := (fun (e45 : Unit) => [(0, .ref a0), (1, .int v17)])) (es := (fun (e45 : Unit) => [])) ?_ (fun e45 h46 => ?_)
    · refine zg_if_eq d_X4_readSign_72 ?_ ?_
      · exact zg_finK (E := 0) [1, 0] rfl rfl (fun q => q)
      · refine zg_aload_n 1 rfl d_X4_readSign_75 ?_
        refine zg_getI d_X4_readSign_76 zc_4 (by decide) fl_X4_65 (fun v18 => ?_)
        refine zg_bipush 15 rfl d_X4_readSign_79 ?_
        refine zg_icmp_ne d_X4_readSign_81 ?_ ?_
        · exact zg_finK (E := 0) [1, 0] rfl rfl (fun q => q)
        · refine zg_aload_n 1 rfl d_X4_readSign_98 ?_
          refine zg_iload_n 0 rfl d_X4_readSign_99 ?_
          refine zg_iconst 4 rfl d_X4_readSign_100 ?_
          refine zg_bd (E := 111) (el := (fun (e19 : Int32) => [(0, .ref a0), (1, .int v17)])) (es := (fun (e19 : Int32) => [.int e19, .ref a0])) ?_ (fun e19 h20 => ?_)
          · refine zg_icmp_ne d_X4_readSign_101 ?_ ?_
            · refine zg_iconst 4 rfl d_X4_readSign_104 ?_
              refine zg_goto d_X4_readSign_105 ?_
              exact zg_finK (E := 0) [1, 0] rfl rfl (fun q => q)
            · refine zg_iload_n 0 rfl d_X4_readSign_108 ?_
              refine zg_iconst 1 rfl d_X4_readSign_109 ?_
              refine zg_isub d_X4_readSign_110 ?_
              exact zg_finK (E := 0) [1, 0] rfl rfl (fun q => q)
          · refine zg_cVv (b := a0) (As := [.int e19]) (rest := []) (0, 0) d_X4_readSign_111 zc_4 rfl cw_X4_246 wi_X4_placeAbove ws_X4_placeAbove rfl rfl (Nat.le_of_ble_eq_true rfl) (by decide) (by decide) ⟨by decide, by decide⟩ rfl (t_X4_placeAbove a0 e19 h20) (fun v22 h21 => ?_)
            refine zg_iload_n 1 rfl d_X4_readSign_114 ?_
            refine zg_iconst 4 rfl d_X4_readSign_115 ?_
            refine zg_bd (E := 156) (el := (fun (e37 : Unit) => [(0, .ref a0), (1, .int v17)])) (es := (fun (e37 : Unit) => [])) ?_ (fun e37 h38 => ?_)
            · refine zg_icmp_ne d_X4_readSign_116 ?_ ?_
              · refine zg_aload_n 0 rfl d_X4_readSign_119 ?_
                refine zg_getI d_X4_readSign_120 zc_4 (by decide) fl_X4_230 (fun v23 => ?_)
                refine zg_bdr (E := 152) (el := (fun (e31 : Unit) => [(0, .ref a0), (1, .int v17)])) (es := (fun (e31 : Unit) => [])) ?_ (fun e31 h32 => ?_)
                · refine zg_if_le d_X4_readSign_123 ?_ ?_
                  · exact zg_finK (E := 0) [0, 1] rfl rfl (fun q => q)
                  · refine zg_aload_n 0 rfl d_X4_readSign_126 ?_
                    refine zg_getR d_X4_readSign_127 zc_4 (by decide) fl_X4_26 (fun v24 => ?_)
                    refine zg_aload_n 0 rfl d_X4_readSign_130 ?_
                    refine zg_getI d_X4_readSign_131 zc_4 (by decide) fl_X4_230 (fun v25 => ?_)
                    refine zg_iconst 1 rfl d_X4_readSign_134 ?_
                    refine zg_isub d_X4_readSign_135 ?_
                    refine zg_ald0 d_X4_readSign_136 (fun v26 => ?_)
                    refine zg_cSi (As := [.int v26]) (rest := []) (0, 0) d_X4_readSign_137 cw_X4_267 wt_X4_rankOf rfl rfl (Nat.le_of_ble_eq_true rfl) (by decide) (by decide) ⟨by decide, by decide⟩ rfl (t_X4_rankOf v26 h21) (fun v28 h27 => ?_)
                    refine zg_iconst 4 rfl d_X4_readSign_140 ?_
                    refine zg_icmp_ne d_X4_readSign_141 ?_ ?_
                    · refine zg_aload_n 0 rfl d_X4_readSign_144 ?_
                      refine zg_iconst 1 rfl d_X4_readSign_145 ?_
                      refine zg_cVv (b := a0) (As := [.int 1]) (rest := []) (0, 0) d_X4_readSign_146 zc_4 rfl cw_X4_82 wi_X4_fail ws_X4_fail rfl rfl (Nat.le_of_ble_eq_true rfl) (by decide) (by decide) ⟨by decide, by decide⟩ rfl (t_X4_fail a0 1 h27) (fun v30 h29 => ?_)
                      refine zg_goto d_X4_readSign_149 ?_
                      exact zg_finK (E := 0) [0, 1] rfl rfl (fun q => q)
                    · exact zg_finK (E := 0) [0, 1] rfl rfl (fun q => q)
                · refine zg_aload_n 0 rfl d_X4_readSign_152 ?_
                  refine zg_cVv (b := a0) (As := []) (rest := []) (0, 0) d_X4_readSign_153 zc_4 rfl cw_X4_261 wi_X4_countKnot ws_X4_countKnot rfl rfl (Nat.le_of_ble_eq_true rfl) (by decide) (by decide) ⟨by decide, by decide⟩ rfl (t_X4_countKnot a0 h32) (fun v34 h33 => ?_)
                  exact zg_finK (E := 0) [0, 1] rfl rfl (fun q => q)
              · refine zg_aload_n 0 rfl d_X4_readSign_152 ?_
                refine zg_cVv (b := a0) (As := []) (rest := []) (0, 0) d_X4_readSign_153 zc_4 rfl cw_X4_261 wi_X4_countKnot ws_X4_countKnot rfl rfl (Nat.le_of_ble_eq_true rfl) (by decide) (by decide) ⟨by decide, by decide⟩ rfl (t_X4_countKnot a0 h21) (fun v36 h35 => ?_)
                exact zg_finK (E := 0) [0, 1] rfl rfl (fun q => q)
            · refine zg_aload_n 0 rfl d_X4_readSign_156 ?_
              refine zg_aload_n 0 rfl d_X4_readSign_157 ?_
              refine zg_getI d_X4_readSign_158 zc_4 (by decide) fl_X4_65 (fun v39 => ?_)
              refine zg_cVv (b := a0) (As := [.int v39]) (rest := []) (0, 0) d_X4_readSign_161 zc_4 rfl cw_X4_264 wi_X4_letWait ws_X4_letWait rfl rfl (Nat.le_of_ble_eq_true rfl) (by decide) (by decide) ⟨by decide, by decide⟩ rfl (t_X4_letWait a0 v39 h38) (fun v41 h40 => ?_)
              refine zg_aload_n 0 rfl d_X4_readSign_164 ?_
              refine zg_cVv (b := a0) (As := []) (rest := []) (0, 0) d_X4_readSign_165 zc_4 rfl cw_X4_62 wi_X4_advance ws_X4_advance rfl rfl (Nat.le_of_ble_eq_true rfl) (by decide) (by decide) ⟨by decide, by decide⟩ rfl (t_X4_advance a0 h40) (fun v43 h42 => ?_)
              refine zg_aload_n 0 rfl d_X4_readSign_168 ?_
              refine zg_getI d_X4_readSign_169 zc_4 (by decide) fl_X4_29 (fun v44 => ?_)
              refine zg_if_ne d_X4_readSign_172 ?_ ?_
              · refine zg_iconst 1 rfl d_X4_readSign_175 ?_
                refine zg_goto d_X4_readSign_176 ?_
                exact zg_zretK d_X4_readSign_180 rfl ⟨Nat.le_of_ble_eq_true rfl, Nat.le_of_ble_eq_true rfl⟩ (Or.inr rfl) (fun q => q)
              · refine zg_iconst 0 rfl d_X4_readSign_179 ?_
                exact zg_zretK d_X4_readSign_180 rfl ⟨Nat.le_of_ble_eq_true rfl, Nat.le_of_ble_eq_true rfl⟩ (Or.inl rfl) (fun q => q)
    · refine zg_aload_n 0 rfl d_X4_readSign_84 ?_
      refine zg_getI d_X4_readSign_85 zc_4 (by decide) fl_X4_233 (fun v47 => ?_)
      refine zg_if_le d_X4_readSign_88 ?_ ?_
      · refine zg_iconst 0 rfl d_X4_readSign_96 ?_
        exact zg_zretK d_X4_readSign_97 rfl ⟨Nat.le_of_ble_eq_true rfl, Nat.le_of_ble_eq_true rfl⟩ (Or.inl rfl) (fun q => q)
      · refine zg_aload_n 0 rfl d_X4_readSign_91 ?_
        refine zg_iconst 1 rfl d_X4_readSign_92 ?_
        refine zg_cVv (b := a0) (As := [.int 1]) (rest := []) (0, 0) d_X4_readSign_93 zc_4 rfl cw_X4_82 wi_X4_fail ws_X4_fail rfl rfl (Nat.le_of_ble_eq_true rfl) (by decide) (by decide) ⟨by decide, by decide⟩ rfl (t_X4_fail a0 1 h46) (fun v49 h48 => ?_)
        refine zg_iconst 0 rfl d_X4_readSign_96 ?_
        exact zg_zretK d_X4_readSign_97 rfl ⟨Nat.le_of_ble_eq_true rfl, Nat.le_of_ble_eq_true rfl⟩ (Or.inl rfl) (fun q => q)
abbrev M_X4_readLaw : zMt := (RX4, cX4_readLaw, 4, 5, 146, none, "readLaw", 0, 0)
theorem d_X4_readLaw_0 : zDc M_X4_readLaw 0 (.aload_n 0) 1 1 := ⟨by decide +kernel, rfl⟩
theorem d_X4_readLaw_1 : zDc M_X4_readLaw 1 (.invokevirtual 62) 3 4 := ⟨by decide +kernel, rfl⟩
theorem d_X4_readLaw_4 : zDc M_X4_readLaw 4 (.aload_n 0) 1 5 := ⟨by decide +kernel, rfl⟩
theorem d_X4_readLaw_5 : zDc M_X4_readLaw 5 (.getfield 65) 3 8 := ⟨by decide +kernel, rfl⟩
theorem d_X4_readLaw_8 : zDc M_X4_readLaw 8 (.bipush 10) 2 10 := ⟨by decide +kernel, rfl⟩
theorem d_X4_readLaw_10 : zDj M_X4_readLaw 10 (.if_icmp .lt 12) 12 13 22 := ⟨by decide +kernel, rfl, by decide⟩
theorem d_X4_readLaw_13 : zDc M_X4_readLaw 13 (.aload_n 0) 1 14 := ⟨by decide +kernel, rfl⟩
theorem d_X4_readLaw_14 : zDc M_X4_readLaw 14 (.getfield 65) 3 17 := ⟨by decide +kernel, rfl⟩
theorem d_X4_readLaw_17 : zDc M_X4_readLaw 17 (.bipush 12) 2 19 := ⟨by decide +kernel, rfl⟩
theorem d_X4_readLaw_19 : zDj M_X4_readLaw 19 (.if_icmp .le 9) 9 22 28 := ⟨by decide +kernel, rfl, by decide⟩
theorem d_X4_readLaw_22 : zDc M_X4_readLaw 22 (.aload_n 0) 1 23 := ⟨by decide +kernel, rfl⟩
theorem d_X4_readLaw_23 : zDc M_X4_readLaw 23 (.iconst 1) 1 24 := ⟨by decide +kernel, rfl⟩
theorem d_X4_readLaw_24 : zDc M_X4_readLaw 24 (.invokevirtual 82) 3 27 := ⟨by decide +kernel, rfl⟩
theorem d_X4_readLaw_27 : zDc M_X4_readLaw 27 (.return_) 1 28 := ⟨by decide +kernel, rfl⟩
theorem d_X4_readLaw_28 : zDc M_X4_readLaw 28 (.aload_n 0) 1 29 := ⟨by decide +kernel, rfl⟩
theorem d_X4_readLaw_29 : zDc M_X4_readLaw 29 (.getfield 65) 3 32 := ⟨by decide +kernel, rfl⟩
theorem d_X4_readLaw_32 : zDc M_X4_readLaw 32 (.bipush 10) 2 34 := ⟨by decide +kernel, rfl⟩
theorem d_X4_readLaw_34 : zDc M_X4_readLaw 34 (.isub) 1 35 := ⟨by decide +kernel, rfl⟩
theorem d_X4_readLaw_35 : zDc M_X4_readLaw 35 (.istore_n 1) 1 36 := ⟨by decide +kernel, rfl⟩
theorem d_X4_readLaw_36 : zDc M_X4_readLaw 36 (.aload_n 0) 1 37 := ⟨by decide +kernel, rfl⟩
theorem d_X4_readLaw_37 : zDc M_X4_readLaw 37 (.getfield 22) 3 40 := ⟨by decide +kernel, rfl⟩
theorem d_X4_readLaw_40 : zDc M_X4_readLaw 40 (.getfield 218) 3 43 := ⟨by decide +kernel, rfl⟩
theorem d_X4_readLaw_43 : zDc M_X4_readLaw 43 (.iload_n 1) 1 44 := ⟨by decide +kernel, rfl⟩
theorem d_X4_readLaw_44 : zDc M_X4_readLaw 44 (.invokevirtual 222) 3 47 := ⟨by decide +kernel, rfl⟩
theorem d_X4_readLaw_47 : zDj M_X4_readLaw 47 (.ifCond .eq 8) 8 50 55 := ⟨by decide +kernel, rfl, by decide⟩
theorem d_X4_readLaw_50 : zDc M_X4_readLaw 50 (.aload_n 0) 1 51 := ⟨by decide +kernel, rfl⟩
theorem d_X4_readLaw_51 : zDc M_X4_readLaw 51 (.iconst 3) 1 52 := ⟨by decide +kernel, rfl⟩
theorem d_X4_readLaw_52 : zDc M_X4_readLaw 52 (.invokevirtual 82) 3 55 := ⟨by decide +kernel, rfl⟩
theorem d_X4_readLaw_55 : zDc M_X4_readLaw 55 (.aload_n 0) 1 56 := ⟨by decide +kernel, rfl⟩
theorem d_X4_readLaw_56 : zDc M_X4_readLaw 56 (.invokevirtual 62) 3 59 := ⟨by decide +kernel, rfl⟩
theorem d_X4_readLaw_59 : zDc M_X4_readLaw 59 (.aload_n 0) 1 60 := ⟨by decide +kernel, rfl⟩
theorem d_X4_readLaw_60 : zDc M_X4_readLaw 60 (.getfield 22) 3 63 := ⟨by decide +kernel, rfl⟩
theorem d_X4_readLaw_63 : zDc M_X4_readLaw 63 (.getfield 218) 3 66 := ⟨by decide +kernel, rfl⟩
theorem d_X4_readLaw_66 : zDc M_X4_readLaw 66 (.iload_n 1) 1 67 := ⟨by decide +kernel, rfl⟩
theorem d_X4_readLaw_67 : zDc M_X4_readLaw 67 (.invokevirtual 227) 3 70 := ⟨by decide +kernel, rfl⟩
theorem d_X4_readLaw_70 : zDc M_X4_readLaw 70 (.aload_n 0) 1 71 := ⟨by decide +kernel, rfl⟩
theorem d_X4_readLaw_71 : zDc M_X4_readLaw 71 (.iconst 0) 1 72 := ⟨by decide +kernel, rfl⟩
theorem d_X4_readLaw_72 : zDc M_X4_readLaw 72 (.putfield 230) 3 75 := ⟨by decide +kernel, rfl⟩
theorem d_X4_readLaw_75 : zDc M_X4_readLaw 75 (.aload_n 0) 1 76 := ⟨by decide +kernel, rfl⟩
theorem d_X4_readLaw_76 : zDc M_X4_readLaw 76 (.iconst 0) 1 77 := ⟨by decide +kernel, rfl⟩
theorem d_X4_readLaw_77 : zDc M_X4_readLaw 77 (.putfield 233) 3 80 := ⟨by decide +kernel, rfl⟩
theorem d_X4_readLaw_80 : zDc M_X4_readLaw 80 (.iconst 1) 1 81 := ⟨by decide +kernel, rfl⟩
theorem d_X4_readLaw_81 : zDc M_X4_readLaw 81 (.istore_n 2) 1 82 := ⟨by decide +kernel, rfl⟩
theorem d_X4_readLaw_82 : zDc M_X4_readLaw 82 (.iconst 0) 1 83 := ⟨by decide +kernel, rfl⟩
theorem d_X4_readLaw_83 : zDc M_X4_readLaw 83 (.istore_n 3) 1 84 := ⟨by decide +kernel, rfl⟩
theorem d_X4_readLaw_84 : zDc M_X4_readLaw 84 (.iload_n 3) 1 85 := ⟨by decide +kernel, rfl⟩
theorem d_X4_readLaw_85 : zDc M_X4_readLaw 85 (.bipush 64) 2 87 := ⟨by decide +kernel, rfl⟩
theorem d_X4_readLaw_87 : zDj M_X4_readLaw 87 (.if_icmp .gt 26) 26 90 113 := ⟨by decide +kernel, rfl, by decide⟩
theorem d_X4_readLaw_90 : zDc M_X4_readLaw 90 (.iload_n 2) 1 91 := ⟨by decide +kernel, rfl⟩
theorem d_X4_readLaw_91 : zDj M_X4_readLaw 91 (.ifCond .eq 22) 22 94 113 := ⟨by decide +kernel, rfl, by decide⟩
theorem d_X4_readLaw_94 : zDc M_X4_readLaw 94 (.aload_n 0) 1 95 := ⟨by decide +kernel, rfl⟩
theorem d_X4_readLaw_95 : zDc M_X4_readLaw 95 (.invokevirtual 236) 3 98 := ⟨by decide +kernel, rfl⟩
theorem d_X4_readLaw_98 : zDc M_X4_readLaw 98 (.aload_n 0) 1 99 := ⟨by decide +kernel, rfl⟩
theorem d_X4_readLaw_99 : zDc M_X4_readLaw 99 (.invokevirtual 239) 3 102 := ⟨by decide +kernel, rfl⟩
theorem d_X4_readLaw_102 : zDc M_X4_readLaw 102 (.aload_n 0) 1 103 := ⟨by decide +kernel, rfl⟩
theorem d_X4_readLaw_103 : zDc M_X4_readLaw 103 (.invokevirtual 242) 3 106 := ⟨by decide +kernel, rfl⟩
theorem d_X4_readLaw_106 : zDc M_X4_readLaw 106 (.istore_n 2) 1 107 := ⟨by decide +kernel, rfl⟩
theorem d_X4_readLaw_107 : zDc M_X4_readLaw 107 (.iinc 3 1) 3 110 := ⟨by decide +kernel, rfl⟩
theorem d_X4_readLaw_110 : zDj M_X4_readLaw 110 (.goto (-26)) (-26) 113 84 := ⟨by decide +kernel, rfl, by decide⟩
theorem d_X4_readLaw_113 : zDc M_X4_readLaw 113 (.aload_n 0) 1 114 := ⟨by decide +kernel, rfl⟩
theorem d_X4_readLaw_114 : zDc M_X4_readLaw 114 (.iconst 0) 1 115 := ⟨by decide +kernel, rfl⟩
theorem d_X4_readLaw_115 : zDc M_X4_readLaw 115 (.invokevirtual 246) 3 118 := ⟨by decide +kernel, rfl⟩
theorem d_X4_readLaw_118 : zDc M_X4_readLaw 118 (.aload_n 0) 1 119 := ⟨by decide +kernel, rfl⟩
theorem d_X4_readLaw_119 : zDc M_X4_readLaw 119 (.getfield 22) 3 122 := ⟨by decide +kernel, rfl⟩
theorem d_X4_readLaw_122 : zDc M_X4_readLaw 122 (.getfield 218) 3 125 := ⟨by decide +kernel, rfl⟩
theorem d_X4_readLaw_125 : zDc M_X4_readLaw 125 (.iload_n 1) 1 126 := ⟨by decide +kernel, rfl⟩
theorem d_X4_readLaw_126 : zDc M_X4_readLaw 126 (.invokevirtual 249) 3 129 := ⟨by decide +kernel, rfl⟩
theorem d_X4_readLaw_129 : zDc M_X4_readLaw 129 (.return_) 1 130 := ⟨by decide +kernel, rfl⟩
def f_X4_readLaw (a0 : Nat) (h0 : zHp) : Option (Unit × zHp) :=
  zbd (zcv 4 a0 h0 (f_X4_advance a0 h0)) (fun v2 h1 =>
  zob (zgI h1 a0 4 4) (fun v3 =>
  zbd (α := (Unit ⊕ Unit)) (
  if v3 < 10 then
  some ((.inl ()), h1)
  else
  zob (zgI h1 a0 4 4) (fun v4 =>
  if v4 ≤ 12 then
  zob (zgI h1 a0 4 4) (fun v5 =>
  zob (zgR h1 a0 4 10) (fun v6 =>
  zob (zgR h1 v6 6 12) (fun v7 =>
  zbd (zcv 2 v7 h1 (f_X2_isTold v7 (v5 - 10) h1)) (fun v9 h8 =>
  zbd (α := Unit) (
  if v9 = 0 then
  some ((), h8)
  else
  zbd (zcv 4 a0 h8 (f_X4_fail a0 3 h8)) (fun v11 h10 =>
  some ((), h10))) (fun e12 h13 =>
  zbd (zcv 4 a0 h13 (f_X4_advance a0 h13)) (fun v15 h14 =>
  zob (zgR h14 a0 4 10) (fun v16 =>
  zob (zgR h14 v16 6 12) (fun v17 =>
  zbd (zcv 2 v17 h14 (f_X2_open v17 (v5 - 10) h14)) (fun v19 h18 =>
  zob (zpV h18 a0 4 12 (.int 0)) (fun h20 =>
  zob (zpV h20 a0 4 13 (.int 0)) (fun h21 =>
  zbd (
  zlp (σ := (Int32 × Int32)) (β := (Int32 × Int32)) zLF (fun s22 h23 =>
  if 64 < s22.2 then
  some ((.inr (s22.1, s22.2)), h23)
  else
  if s22.1 = 0 then
  some ((.inr (s22.1, s22.2)), h23)
  else
  zbd (zcv 4 a0 h23 (f_X4_readAheadOfPart a0 h23)) (fun v27 h26 =>
  zbd (zcv 4 a0 h26 (f_X4_readPart a0 h26)) (fun v29 h28 =>
  zbd (zcv 4 a0 h28 (f_X4_readSign a0 h28)) (fun v31 h30 =>
  some ((.inl (v31, (s22.2 + 1))), h30))))) (1, 0) h21) (fun e24 h25 =>
  zbd (zcv 4 a0 h25 (f_X4_placeAbove a0 0 h25)) (fun v33 h32 =>
  zob (zgR h32 a0 4 10) (fun v34 =>
  zob (zgR h32 v34 6 12) (fun v35 =>
  zbd (zcv 2 v35 h32 (f_X2_close v35 (v5 - 10) h32)) (fun v37 h36 =>
  some ((.inr ()), h36)))))))))))))))))
  else
  some ((.inl ()), h1))) (fun b42 h39 => zsl b42 (fun e38 =>
  zbd (zcv 4 a0 h39 (f_X4_fail a0 1 h39)) (fun v41 h40 =>
  some ((), h40))) (fun r => some (r, h39)))))
set_option maxRecDepth 100000 in
set_option maxHeartbeats 4000000 in
theorem t_X4_readLaw (a0 : Nat) (h0 : zHp) : ∀ (r : Unit) (h' : zHp), f_X4_readLaw a0 h0 = some (r, h') → zCt yX4_readLaw (.code yX4_readLaw cX4_readLaw 4 none) 5 146 0 0 [.ref a0] h0 (none) h' := by
  refine zct_of M_X4_readLaw yX4_readLaw (by decide) rfl rfl [.ref a0] h0 (Nat.le_of_ble_eq_true rfl) (fun _ => none) (fun X => ?_)
  show zG X M_X4_readLaw (0, 0) 0 [(0, .ref a0)] [] h0 (f_X4_readLaw a0 h0) (fun (_ : Unit) h' => zKe X (none) h')
  unfold f_X4_readLaw
  refine zg_aload_n 0 rfl d_X4_readLaw_0 ?_
  refine zg_cVv (b := a0) (As := []) (rest := []) (0, 0) d_X4_readLaw_1 zc_4 rfl cw_X4_62 wi_X4_advance ws_X4_advance rfl rfl (Nat.le_of_ble_eq_true rfl) (by decide) (by decide) ⟨by decide, by decide⟩ rfl (t_X4_advance a0 h0) (fun v2 h1 => ?_)
  refine zg_aload_n 0 rfl d_X4_readLaw_4 ?_
  refine zg_getI d_X4_readLaw_5 zc_4 (by decide) fl_X4_65 (fun v3 => ?_)
  refine zg_bipush 10 rfl d_X4_readLaw_8 ?_
  refine zg_bdr (E := 22) (el := (fun (e38 : Unit) => [(0, .ref a0)])) (es := (fun (e38 : Unit) => [])) ?_ (fun e38 h39 => ?_)
  · refine zg_icmp_lt d_X4_readLaw_10 ?_ ?_
    · exact zg_finK (E := 0) [0] rfl rfl (fun q => q)
    · refine zg_aload_n 0 rfl d_X4_readLaw_13 ?_
      refine zg_getI d_X4_readLaw_14 zc_4 (by decide) fl_X4_65 (fun v4 => ?_)
      refine zg_bipush 12 rfl d_X4_readLaw_17 ?_
      refine zg_icmp_le d_X4_readLaw_19 ?_ ?_
      · refine zg_aload_n 0 rfl d_X4_readLaw_28 ?_
        refine zg_getI d_X4_readLaw_29 zc_4 (by decide) fl_X4_65 (fun v5 => ?_)
        refine zg_bipush 10 rfl d_X4_readLaw_32 ?_
        refine zg_isub d_X4_readLaw_34 ?_
        refine zg_istore_n [(1, .int (v5 - 10)), (0, .ref a0)] d_X4_readLaw_35 rfl (by decide) rfl ?_
        refine zg_aload_n 1 rfl d_X4_readLaw_36 ?_
        refine zg_getR d_X4_readLaw_37 zc_4 (by decide) fl_X4_22 (fun v6 => ?_)
        refine zg_getR d_X4_readLaw_40 zc_6 (by decide) fl_X4_218 (fun v7 => ?_)
        refine zg_iload_n 0 rfl d_X4_readLaw_43 ?_
        refine zg_cVi (b := v7) (As := [.int (v5 - 10)]) (rest := []) (0, 0) d_X4_readLaw_44 zc_2 rfl cw_X4_222 wi_X2_isTold ws_X2_isTold rfl rfl (Nat.le_of_ble_eq_true rfl) (by decide) (by decide) ⟨by decide, by decide⟩ rfl (t_X2_isTold v7 (v5 - 10) h1) (fun v9 h8 => ?_)
        refine zg_bd (E := 55) (el := (fun (e12 : Unit) => [(0, .ref a0), (1, .int (v5 - 10))])) (es := (fun (e12 : Unit) => [])) ?_ (fun e12 h13 => ?_)
        · refine zg_if_eq d_X4_readLaw_47 ?_ ?_
          · exact zg_finK (E := 0) [1, 0] rfl rfl (fun q => q)
          · refine zg_aload_n 1 rfl d_X4_readLaw_50 ?_
            refine zg_iconst 3 rfl d_X4_readLaw_51 ?_
            refine zg_cVv (b := a0) (As := [.int 3]) (rest := []) (0, 0) d_X4_readLaw_52 zc_4 rfl cw_X4_82 wi_X4_fail ws_X4_fail rfl rfl (Nat.le_of_ble_eq_true rfl) (by decide) (by decide) ⟨by decide, by decide⟩ rfl (t_X4_fail a0 3 h8) (fun v11 h10 => ?_)
            exact zg_finK (E := 0) [1, 0] rfl rfl (fun q => q)
        · refine zg_aload_n 0 rfl d_X4_readLaw_55 ?_
          refine zg_cVv (b := a0) (As := []) (rest := []) (0, 0) d_X4_readLaw_56 zc_4 rfl cw_X4_62 wi_X4_advance ws_X4_advance rfl rfl (Nat.le_of_ble_eq_true rfl) (by decide) (by decide) ⟨by decide, by decide⟩ rfl (t_X4_advance a0 h13) (fun v15 h14 => ?_)
          refine zg_aload_n 0 rfl d_X4_readLaw_59 ?_
          refine zg_getR d_X4_readLaw_60 zc_4 (by decide) fl_X4_22 (fun v16 => ?_)
          refine zg_getR d_X4_readLaw_63 zc_6 (by decide) fl_X4_218 (fun v17 => ?_)
          refine zg_iload_n 1 rfl d_X4_readLaw_66 ?_
          refine zg_cVv (b := v17) (As := [.int (v5 - 10)]) (rest := []) (0, 0) d_X4_readLaw_67 zc_2 rfl cw_X4_227 wi_X2_open ws_X2_open rfl rfl (Nat.le_of_ble_eq_true rfl) (by decide) (by decide) ⟨by decide, by decide⟩ rfl (t_X2_open v17 (v5 - 10) h14) (fun v19 h18 => ?_)
          refine zg_aload_n 0 rfl d_X4_readLaw_70 ?_
          refine zg_iconst 0 rfl d_X4_readLaw_71 ?_
          refine zg_putV d_X4_readLaw_72 zc_4 (by decide) fl_X4_230 rfl rfl rfl (fun h20 => ?_)
          refine zg_aload_n 0 rfl d_X4_readLaw_75 ?_
          refine zg_iconst 0 rfl d_X4_readLaw_76 ?_
          refine zg_putV d_X4_readLaw_77 zc_4 (by decide) fl_X4_233 rfl rfl rfl (fun h21 => ?_)
          refine zg_iconst 1 rfl d_X4_readLaw_80 ?_
          refine zg_istore_n [(2, .int 1), (0, .ref a0), (1, .int (v5 - 10))] d_X4_readLaw_81 rfl (by decide) rfl ?_
          refine zg_iconst 0 rfl d_X4_readLaw_82 ?_
          refine zg_istore_n [(3, .int 0), (2, .int 1), (0, .ref a0), (1, .int (v5 - 10))] d_X4_readLaw_83 rfl (by decide) rfl ?_
          refine zg_bd (E := 113) (el := (fun (e24 : (Int32 × Int32)) => [(0, .ref a0), (1, .int (v5 - 10)), (2, .int e24.1), (3, .int e24.2)])) (es := fun _ => []) (zg_sub [2, 3, 1, 0] rfl (zg_lp (el := (fun (s22 : (Int32 × Int32)) => [(0, .ref a0), (1, .int (v5 - 10)), (2, .int s22.1), (3, .int s22.2)])) (fun s22 h23 => ?_) (1, 0) h21)) (fun e24 h25 => ?_)
          · refine zg_iload_n 3 rfl d_X4_readLaw_84 ?_
            refine zg_bipush 64 rfl d_X4_readLaw_85 ?_
            refine zg_icmp_gt d_X4_readLaw_87 ?_ ?_
            · exact zg_finK (E := 0) [0, 1, 2, 3] rfl rfl (fun q => q)
            · refine zg_iload_n 2 rfl d_X4_readLaw_90 ?_
              refine zg_if_eq d_X4_readLaw_91 ?_ ?_
              · exact zg_finK (E := 0) [0, 1, 2, 3] rfl rfl (fun q => q)
              · refine zg_aload_n 0 rfl d_X4_readLaw_94 ?_
                refine zg_cVv (b := a0) (As := []) (rest := []) (0, 0) d_X4_readLaw_95 zc_4 rfl cw_X4_236 wi_X4_readAheadOfPart ws_X4_readAheadOfPart rfl rfl (Nat.le_of_ble_eq_true rfl) (by decide) (by decide) ⟨by decide, by decide⟩ rfl (t_X4_readAheadOfPart a0 h23) (fun v27 h26 => ?_)
                refine zg_aload_n 0 rfl d_X4_readLaw_98 ?_
                refine zg_cVv (b := a0) (As := []) (rest := []) (0, 0) d_X4_readLaw_99 zc_4 rfl cw_X4_239 wi_X4_readPart ws_X4_readPart rfl rfl (Nat.le_of_ble_eq_true rfl) (by decide) (by decide) ⟨by decide, by decide⟩ rfl (t_X4_readPart a0 h26) (fun v29 h28 => ?_)
                refine zg_aload_n 0 rfl d_X4_readLaw_102 ?_
                refine zg_cVi (b := a0) (As := []) (rest := []) (0, 0) d_X4_readLaw_103 zc_4 rfl cw_X4_242 wi_X4_readSign ws_X4_readSign rfl rfl (Nat.le_of_ble_eq_true rfl) (by decide) (by decide) ⟨by decide, by decide⟩ rfl (t_X4_readSign a0 h28) (fun v31 h30 => ?_)
                refine zg_istore_n [(2, .int v31), (0, .ref a0), (1, .int (v5 - 10)), (3, .int s22.2)] d_X4_readLaw_106 rfl (by decide) rfl ?_
                refine zg_iinc 3 (s22.2 + 1) [(3, .int (s22.2 + 1)), (2, .int v31), (0, .ref a0), (1, .int (v5 - 10))] d_X4_readLaw_107 rfl rfl (by decide) rfl ?_
                refine zg_goto d_X4_readLaw_110 ?_
                exact zg_finK (E := 0) [2, 3, 1, 0] rfl rfl (fun q => q)
          · refine zg_aload_n 0 rfl d_X4_readLaw_113 ?_
            refine zg_iconst 0 rfl d_X4_readLaw_114 ?_
            refine zg_cVv (b := a0) (As := [.int 0]) (rest := []) (0, 0) d_X4_readLaw_115 zc_4 rfl cw_X4_246 wi_X4_placeAbove ws_X4_placeAbove rfl rfl (Nat.le_of_ble_eq_true rfl) (by decide) (by decide) ⟨by decide, by decide⟩ rfl (t_X4_placeAbove a0 0 h25) (fun v33 h32 => ?_)
            refine zg_aload_n 0 rfl d_X4_readLaw_118 ?_
            refine zg_getR d_X4_readLaw_119 zc_4 (by decide) fl_X4_22 (fun v34 => ?_)
            refine zg_getR d_X4_readLaw_122 zc_6 (by decide) fl_X4_218 (fun v35 => ?_)
            refine zg_iload_n 1 rfl d_X4_readLaw_125 ?_
            refine zg_cVv (b := v35) (As := [.int (v5 - 10)]) (rest := []) (0, 0) d_X4_readLaw_126 zc_2 rfl cw_X4_249 wi_X2_close ws_X2_close rfl rfl (Nat.le_of_ble_eq_true rfl) (by decide) (by decide) ⟨by decide, by decide⟩ rfl (t_X2_close v35 (v5 - 10) h32) (fun v37 h36 => ?_)
            exact zg_vretK d_X4_readLaw_129 rfl ⟨Nat.le_of_ble_eq_true rfl, Nat.le_of_ble_eq_true rfl⟩ (fun q => q)
      · exact zg_finK (E := 0) [0] rfl rfl (fun q => q)
  · refine zg_aload_n 0 rfl d_X4_readLaw_22 ?_
    refine zg_iconst 1 rfl d_X4_readLaw_23 ?_
    refine zg_cVv (b := a0) (As := [.int 1]) (rest := []) (0, 0) d_X4_readLaw_24 zc_4 rfl cw_X4_82 wi_X4_fail ws_X4_fail rfl rfl (Nat.le_of_ble_eq_true rfl) (by decide) (by decide) ⟨by decide, by decide⟩ rfl (t_X4_fail a0 1 h39) (fun v41 h40 => ?_)
    exact zg_vretK d_X4_readLaw_27 rfl ⟨Nat.le_of_ble_eq_true rfl, Nat.le_of_ble_eq_true rfl⟩ (fun q => q)
abbrev M_X4_readOnceWord : zMt := (RX4, cX4_readOnceWord, 2, 3, 103, none, "readOnceWord", 0, 0)
theorem d_X4_readOnceWord_0 : zDc M_X4_readOnceWord 0 (.iconst 1) 1 1 := ⟨by decide +kernel, rfl⟩
theorem d_X4_readOnceWord_1 : zDc M_X4_readOnceWord 1 (.aload_n 0) 1 2 := ⟨by decide +kernel, rfl⟩
theorem d_X4_readOnceWord_2 : zDc M_X4_readOnceWord 2 (.getfield 65) 3 5 := ⟨by decide +kernel, rfl⟩
theorem d_X4_readOnceWord_5 : zDc M_X4_readOnceWord 5 (.ishl) 1 6 := ⟨by decide +kernel, rfl⟩
theorem d_X4_readOnceWord_6 : zDc M_X4_readOnceWord 6 (.istore_n 1) 1 7 := ⟨by decide +kernel, rfl⟩
theorem d_X4_readOnceWord_7 : zDc M_X4_readOnceWord 7 (.aload_n 0) 1 8 := ⟨by decide +kernel, rfl⟩
theorem d_X4_readOnceWord_8 : zDc M_X4_readOnceWord 8 (.getfield 59) 3 11 := ⟨by decide +kernel, rfl⟩
theorem d_X4_readOnceWord_11 : zDc M_X4_readOnceWord 11 (.iload_n 1) 1 12 := ⟨by decide +kernel, rfl⟩
theorem d_X4_readOnceWord_12 : zDc M_X4_readOnceWord 12 (.iand) 1 13 := ⟨by decide +kernel, rfl⟩
theorem d_X4_readOnceWord_13 : zDj M_X4_readOnceWord 13 (.ifCond .eq 8) 8 16 21 := ⟨by decide +kernel, rfl, by decide⟩
theorem d_X4_readOnceWord_16 : zDc M_X4_readOnceWord 16 (.aload_n 0) 1 17 := ⟨by decide +kernel, rfl⟩
theorem d_X4_readOnceWord_17 : zDc M_X4_readOnceWord 17 (.iconst 3) 1 18 := ⟨by decide +kernel, rfl⟩
theorem d_X4_readOnceWord_18 : zDc M_X4_readOnceWord 18 (.invokevirtual 82) 3 21 := ⟨by decide +kernel, rfl⟩
theorem d_X4_readOnceWord_21 : zDc M_X4_readOnceWord 21 (.aload_n 0) 1 22 := ⟨by decide +kernel, rfl⟩
theorem d_X4_readOnceWord_22 : zDc M_X4_readOnceWord 22 (.dup) 1 23 := ⟨by decide +kernel, rfl⟩
theorem d_X4_readOnceWord_23 : zDc M_X4_readOnceWord 23 (.getfield 59) 3 26 := ⟨by decide +kernel, rfl⟩
theorem d_X4_readOnceWord_26 : zDc M_X4_readOnceWord 26 (.iload_n 1) 1 27 := ⟨by decide +kernel, rfl⟩
theorem d_X4_readOnceWord_27 : zDc M_X4_readOnceWord 27 (.ior) 1 28 := ⟨by decide +kernel, rfl⟩
theorem d_X4_readOnceWord_28 : zDc M_X4_readOnceWord 28 (.putfield 59) 3 31 := ⟨by decide +kernel, rfl⟩
theorem d_X4_readOnceWord_31 : zDc M_X4_readOnceWord 31 (.aload_n 0) 1 32 := ⟨by decide +kernel, rfl⟩
theorem d_X4_readOnceWord_32 : zDc M_X4_readOnceWord 32 (.invokevirtual 62) 3 35 := ⟨by decide +kernel, rfl⟩
theorem d_X4_readOnceWord_35 : zDc M_X4_readOnceWord 35 (.return_) 1 36 := ⟨by decide +kernel, rfl⟩
def f_X4_readOnceWord (a0 : Nat) (h0 : zHp) : Option (Unit × zHp) :=
  zob (zgI h0 a0 4 4) (fun v1 =>
  zob (zgI h0 a0 4 9) (fun v2 =>
  zbd (α := Unit) (
  if (v2 &&& (1 <<< (v1 &&& 31))) = 0 then
  some ((), h0)
  else
  zbd (zcv 4 a0 h0 (f_X4_fail a0 3 h0)) (fun v4 h3 =>
  some ((), h3))) (fun e5 h6 =>
  zob (zgI h6 a0 4 9) (fun v7 =>
  zob (zpV h6 a0 4 9 (.int (v7 ||| (1 <<< (v1 &&& 31))))) (fun h8 =>
  zbd (zcv 4 a0 h8 (f_X4_advance a0 h8)) (fun v10 h9 =>
  some ((), h9)))))))
set_option maxRecDepth 100000 in
set_option maxHeartbeats 4000000 in
theorem t_X4_readOnceWord (a0 : Nat) (h0 : zHp) : ∀ (r : Unit) (h' : zHp), f_X4_readOnceWord a0 h0 = some (r, h') → zCt yX4_readOnceWord (.code yX4_readOnceWord cX4_readOnceWord 2 none) 3 103 0 0 [.ref a0] h0 (none) h' := by
  refine zct_of M_X4_readOnceWord yX4_readOnceWord (by decide) rfl rfl [.ref a0] h0 (Nat.le_of_ble_eq_true rfl) (fun _ => none) (fun X => ?_)
  show zG X M_X4_readOnceWord (0, 0) 0 [(0, .ref a0)] [] h0 (f_X4_readOnceWord a0 h0) (fun (_ : Unit) h' => zKe X (none) h')
  unfold f_X4_readOnceWord
  refine zg_iconst 1 rfl d_X4_readOnceWord_0 ?_
  refine zg_aload_n 0 rfl d_X4_readOnceWord_1 ?_
  refine zg_getI d_X4_readOnceWord_2 zc_4 (by decide) fl_X4_65 (fun v1 => ?_)
  refine zg_ishl d_X4_readOnceWord_5 ?_
  refine zg_istore_n [(1, .int (1 <<< (v1 &&& 31))), (0, .ref a0)] d_X4_readOnceWord_6 rfl (by decide) rfl ?_
  refine zg_aload_n 1 rfl d_X4_readOnceWord_7 ?_
  refine zg_getI d_X4_readOnceWord_8 zc_4 (by decide) fl_X4_59 (fun v2 => ?_)
  refine zg_iload_n 0 rfl d_X4_readOnceWord_11 ?_
  refine zg_iand d_X4_readOnceWord_12 ?_
  refine zg_bd (E := 21) (el := (fun (e5 : Unit) => [(0, .ref a0), (1, .int (1 <<< (v1 &&& 31)))])) (es := (fun (e5 : Unit) => [])) ?_ (fun e5 h6 => ?_)
  · refine zg_if_eq d_X4_readOnceWord_13 ?_ ?_
    · exact zg_finK (E := 0) [1, 0] rfl rfl (fun q => q)
    · refine zg_aload_n 1 rfl d_X4_readOnceWord_16 ?_
      refine zg_iconst 3 rfl d_X4_readOnceWord_17 ?_
      refine zg_cVv (b := a0) (As := [.int 3]) (rest := []) (0, 0) d_X4_readOnceWord_18 zc_4 rfl cw_X4_82 wi_X4_fail ws_X4_fail rfl rfl (Nat.le_of_ble_eq_true rfl) (by decide) (by decide) ⟨by decide, by decide⟩ rfl (t_X4_fail a0 3 h0) (fun v4 h3 => ?_)
      exact zg_finK (E := 0) [1, 0] rfl rfl (fun q => q)
  · refine zg_aload_n 0 rfl d_X4_readOnceWord_21 ?_
    refine zg_dup rfl d_X4_readOnceWord_22 ?_
    refine zg_getI d_X4_readOnceWord_23 zc_4 (by decide) fl_X4_59 (fun v7 => ?_)
    refine zg_iload_n 1 rfl d_X4_readOnceWord_26 ?_
    refine zg_ior d_X4_readOnceWord_27 ?_
    refine zg_putV d_X4_readOnceWord_28 zc_4 (by decide) fl_X4_59 rfl rfl rfl (fun h8 => ?_)
    refine zg_aload_n 0 rfl d_X4_readOnceWord_31 ?_
    refine zg_cVv (b := a0) (As := []) (rest := []) (0, 0) d_X4_readOnceWord_32 zc_4 rfl cw_X4_62 wi_X4_advance ws_X4_advance rfl rfl (Nat.le_of_ble_eq_true rfl) (by decide) (by decide) ⟨by decide, by decide⟩ rfl (t_X4_advance a0 h8) (fun v10 h9 => ?_)
    exact zg_vretK d_X4_readOnceWord_35 rfl ⟨Nat.le_of_ble_eq_true rfl, Nat.le_of_ble_eq_true rfl⟩ (fun q => q)
abbrev M_X4_readMost : zMt := (RX4, cX4_readMost, 1, 4, 126, none, "readMost", 0, 0)
theorem d_X4_readMost_0 : zDc M_X4_readMost 0 (.aload_n 0) 1 1 := ⟨by decide +kernel, rfl⟩
theorem d_X4_readMost_1 : zDc M_X4_readMost 1 (.invokevirtual 208) 3 4 := ⟨by decide +kernel, rfl⟩
theorem d_X4_readMost_4 : zDc M_X4_readMost 4 (.aload_n 0) 1 5 := ⟨by decide +kernel, rfl⟩
theorem d_X4_readMost_5 : zDc M_X4_readMost 5 (.getfield 22) 3 8 := ⟨by decide +kernel, rfl⟩
theorem d_X4_readMost_8 : zDc M_X4_readMost 8 (.aload_n 0) 1 9 := ⟨by decide +kernel, rfl⟩
theorem d_X4_readMost_9 : zDc M_X4_readMost 9 (.iconst 1) 1 10 := ⟨by decide +kernel, rfl⟩
theorem d_X4_readMost_10 : zDc M_X4_readMost 10 (.bipush 9) 2 12 := ⟨by decide +kernel, rfl⟩
theorem d_X4_readMost_12 : zDc M_X4_readMost 12 (.invokevirtual 142) 3 15 := ⟨by decide +kernel, rfl⟩
theorem d_X4_readMost_15 : zDc M_X4_readMost 15 (.putfield 214) 3 18 := ⟨by decide +kernel, rfl⟩
theorem d_X4_readMost_18 : zDc M_X4_readMost 18 (.return_) 1 19 := ⟨by decide +kernel, rfl⟩
def f_X4_readMost (a0 : Nat) (h0 : zHp) : Option (Unit × zHp) :=
  zbd (zcv 4 a0 h0 (f_X4_readOnceWord a0 h0)) (fun v2 h1 =>
  zob (zgR h1 a0 4 10) (fun v3 =>
  zbd (zcv 4 a0 h1 (f_X4_readNumber a0 1 9 h1)) (fun v5 h4 =>
  zob (zpV h4 v3 6 18 (.int v5)) (fun h6 =>
  some ((), h6)))))
set_option maxRecDepth 100000 in
set_option maxHeartbeats 4000000 in
theorem t_X4_readMost (a0 : Nat) (h0 : zHp) : ∀ (r : Unit) (h' : zHp), f_X4_readMost a0 h0 = some (r, h') → zCt yX4_readMost (.code yX4_readMost cX4_readMost 1 none) 4 126 0 0 [.ref a0] h0 (none) h' := by
  refine zct_of M_X4_readMost yX4_readMost (by decide) rfl rfl [.ref a0] h0 (Nat.le_of_ble_eq_true rfl) (fun _ => none) (fun X => ?_)
  show zG X M_X4_readMost (0, 0) 0 [(0, .ref a0)] [] h0 (f_X4_readMost a0 h0) (fun (_ : Unit) h' => zKe X (none) h')
  unfold f_X4_readMost
  refine zg_aload_n 0 rfl d_X4_readMost_0 ?_
  refine zg_cVv (b := a0) (As := []) (rest := []) (0, 0) d_X4_readMost_1 zc_4 rfl cw_X4_208 wi_X4_readOnceWord ws_X4_readOnceWord rfl rfl (Nat.le_of_ble_eq_true rfl) (by decide) (by decide) ⟨by decide, by decide⟩ rfl (t_X4_readOnceWord a0 h0) (fun v2 h1 => ?_)
  refine zg_aload_n 0 rfl d_X4_readMost_4 ?_
  refine zg_getR d_X4_readMost_5 zc_4 (by decide) fl_X4_22 (fun v3 => ?_)
  refine zg_aload_n 0 rfl d_X4_readMost_8 ?_
  refine zg_iconst 1 rfl d_X4_readMost_9 ?_
  refine zg_bipush 9 rfl d_X4_readMost_10 ?_
  refine zg_cVi (b := a0) (As := [.int 1, .int 9]) (rest := [.ref v3]) (0, 0) d_X4_readMost_12 zc_4 rfl cw_X4_142 wi_X4_readNumber ws_X4_readNumber rfl rfl (Nat.le_of_ble_eq_true rfl) (by decide) (by decide) ⟨by decide, by decide⟩ rfl (t_X4_readNumber a0 1 9 h1) (fun v5 h4 => ?_)
  refine zg_putV d_X4_readMost_15 zc_6 (by decide) fl_X4_214 rfl rfl rfl (fun h6 => ?_)
  exact zg_vretK d_X4_readMost_18 rfl ⟨Nat.le_of_ble_eq_true rfl, Nat.le_of_ble_eq_true rfl⟩ (fun q => q)

theorem fl_X4_152 : Cond.fieldLink RX4 152 (TX6 0).1 (TX6 0).2.1 (TX6 0).2.2.1 ∈ zT := zw_of _ 196 (by decide +kernel) (by decide +kernel)
theorem ml_X4_246 : Cond.methodLink RX4 246 yX4_placeAbove ∈ zT := zw_of _ 770 (by decide +kernel) (by decide +kernel)
theorem cd_X4_placeAbove : Cond.code yX4_placeAbove cX4_placeAbove 2 none ∈ zT := zw_of _ 773 (by decide +kernel) (by decide +kernel)
theorem cw_X4_246 : zCw RX4 246 yX4_placeAbove cX4_placeAbove 2 none 1 := ⟨ml_X4_246, ni_X4, cd_X4_placeAbove, by decide, by decide, by decide +kernel⟩
theorem wi_X4_placeAbove : Cond.instanceMethod yX4_placeAbove ∈ zT := zw_of _ 772 (by decide +kernel) (by decide +kernel)
theorem ws_X4_placeAbove : Cond.selects RX4 yX4_placeAbove yX4_placeAbove ∈ zT := zw_of _ 29 (by decide +kernel) (by decide +kernel)
theorem ml_X4_273 : Cond.methodLink RX4 273 Lib.Math.max.name ∈ zT := zw_of _ 774 (by decide +kernel) (by decide +kernel)
theorem ml_X4_222 : Cond.methodLink RX4 222 yX2_isTold ∈ zT := zw_of _ 727 (by decide +kernel) (by decide +kernel)
theorem cw_X4_222 : zCw RX4 222 yX2_isTold cX2_isTold 2 (some .boolean) 1 := ⟨ml_X4_222, ni_X2, cd_X2_isTold, by decide, by decide, by decide +kernel⟩
theorem ml_X4_227 : Cond.methodLink RX4 227 yX2_open ∈ zT := zw_of _ 731 (by decide +kernel) (by decide +kernel)
theorem cd_X2_open : Cond.code yX2_open cX2_open 2 none ∈ zT := zw_of _ 734 (by decide +kernel) (by decide +kernel)
theorem cw_X4_227 : zCw RX4 227 yX2_open cX2_open 2 none 1 := ⟨ml_X4_227, ni_X2, cd_X2_open, by decide, by decide, by decide +kernel⟩
theorem wi_X2_open : Cond.instanceMethod yX2_open ∈ zT := zw_of _ 732 (by decide +kernel) (by decide +kernel)
theorem ws_X2_open : Cond.selects RX2 yX2_open yX2_open ∈ zT := zw_of _ 733 (by decide +kernel) (by decide +kernel)
theorem ml_X4_236 : Cond.methodLink RX4 236 yX4_readAheadOfPart ∈ zT := zw_of _ 735 (by decide +kernel) (by decide +kernel)
theorem cd_X4_readAheadOfPart : Cond.code yX4_readAheadOfPart cX4_readAheadOfPart 2 none ∈ zT := zw_of _ 738 (by decide +kernel) (by decide +kernel)
theorem cw_X4_236 : zCw RX4 236 yX4_readAheadOfPart cX4_readAheadOfPart 2 none 0 := ⟨ml_X4_236, ni_X4, cd_X4_readAheadOfPart, by decide, by decide, by decide +kernel⟩
theorem wi_X4_readAheadOfPart : Cond.instanceMethod yX4_readAheadOfPart ∈ zT := zw_of _ 737 (by decide +kernel) (by decide +kernel)
theorem ws_X4_readAheadOfPart : Cond.selects RX4 yX4_readAheadOfPart yX4_readAheadOfPart ∈ zT := zw_of _ 22 (by decide +kernel) (by decide +kernel)
theorem ml_X4_239 : Cond.methodLink RX4 239 yX4_readPart ∈ zT := zw_of _ 758 (by decide +kernel) (by decide +kernel)
theorem cd_X4_readPart : Cond.code yX4_readPart cX4_readPart 1 none ∈ zT := zw_of _ 761 (by decide +kernel) (by decide +kernel)
theorem cw_X4_239 : zCw RX4 239 yX4_readPart cX4_readPart 1 none 0 := ⟨ml_X4_239, ni_X4, cd_X4_readPart, by decide, by decide, by decide +kernel⟩
theorem wi_X4_readPart : Cond.instanceMethod yX4_readPart ∈ zT := zw_of _ 760 (by decide +kernel) (by decide +kernel)
theorem ws_X4_readPart : Cond.selects RX4 yX4_readPart yX4_readPart ∈ zT := zw_of _ 27 (by decide +kernel) (by decide +kernel)
theorem ml_X4_242 : Cond.methodLink RX4 242 yX4_readSign ∈ zT := zw_of _ 766 (by decide +kernel) (by decide +kernel)
theorem cd_X4_readSign : Cond.code yX4_readSign cX4_readSign 2 (some .boolean) ∈ zT := zw_of _ 769 (by decide +kernel) (by decide +kernel)
theorem cw_X4_242 : zCw RX4 242 yX4_readSign cX4_readSign 2 (some .boolean) 0 := ⟨ml_X4_242, ni_X4, cd_X4_readSign, by decide, by decide, by decide +kernel⟩
theorem wi_X4_readSign : Cond.instanceMethod yX4_readSign ∈ zT := zw_of _ 768 (by decide +kernel) (by decide +kernel)
theorem ws_X4_readSign : Cond.selects RX4 yX4_readSign yX4_readSign ∈ zT := zw_of _ 28 (by decide +kernel) (by decide +kernel)
theorem ml_X4_249 : Cond.methodLink RX4 249 yX2_close ∈ zT := zw_of _ 777 (by decide +kernel) (by decide +kernel)
theorem cd_X2_close : Cond.code yX2_close cX2_close 2 none ∈ zT := zw_of _ 780 (by decide +kernel) (by decide +kernel)
theorem cw_X4_249 : zCw RX4 249 yX2_close cX2_close 2 none 1 := ⟨ml_X4_249, ni_X2, cd_X2_close, by decide, by decide, by decide +kernel⟩
theorem wi_X2_close : Cond.instanceMethod yX2_close ∈ zT := zw_of _ 778 (by decide +kernel) (by decide +kernel)
theorem ws_X2_close : Cond.selects RX2 yX2_close yX2_close ∈ zT := zw_of _ 779 (by decide +kernel) (by decide +kernel)
theorem fl_X4_59 : Cond.fieldLink RX4 59 (TX4 9).1 (TX4 9).2.1 (TX4 9).2.2.1 ∈ zT := zw_of _ 350 (by decide +kernel) (by decide +kernel)
theorem ml_X4_208 : Cond.methodLink RX4 208 yX4_readOnceWord ∈ zT := zw_of _ 710 (by decide +kernel) (by decide +kernel)
theorem cd_X4_readOnceWord : Cond.code yX4_readOnceWord cX4_readOnceWord 2 none ∈ zT := zw_of _ 713 (by decide +kernel) (by decide +kernel)
theorem cw_X4_208 : zCw RX4 208 yX4_readOnceWord cX4_readOnceWord 2 none 0 := ⟨ml_X4_208, ni_X4, cd_X4_readOnceWord, by decide, by decide, by decide +kernel⟩
theorem wi_X4_readOnceWord : Cond.instanceMethod yX4_readOnceWord ∈ zT := zw_of _ 712 (by decide +kernel) (by decide +kernel)
theorem ws_X4_readOnceWord : Cond.selects RX4 yX4_readOnceWord yX4_readOnceWord ∈ zT := zw_of _ 18 (by decide +kernel) (by decide +kernel)
theorem fl_X4_214 : Cond.fieldLink RX4 214 (TX6 18).1 (TX6 18).2.1 (TX6 18).2.2.1 ∈ zT := zw_of _ 258 (by decide +kernel) (by decide +kernel)
theorem fl_X4_211 : Cond.fieldLink RX4 211 (TX6 17).1 (TX6 17).2.1 (TX6 17).2.2.1 ∈ zT := zw_of _ 255 (by decide +kernel) (by decide +kernel)
theorem kc_X4_217 : Cond.constant RX4 217 99999 ∈ zT := zw_of _ 722 (by decide +kernel) (by decide +kernel)
theorem fl_X4_202 : Cond.fieldLink RX4 202 (TX6 16).1 (TX6 16).2.1 (TX6 16).2.2.1 ∈ zT := zw_of _ 252 (by decide +kernel) (by decide +kernel)
theorem fl_X4_205 : Cond.fieldLink RX4 205 (TX6 11).1 (TX6 11).2.1 (TX6 11).2.2.1 ∈ zT := zw_of _ 233 (by decide +kernel) (by decide +kernel)
theorem ml_X4_112 : Cond.methodLink RX4 112 yX4_readGround ∈ zT := zw_of _ 659 (by decide +kernel) (by decide +kernel)
theorem cd_X4_readGround : Cond.code yX4_readGround cX4_readGround 3 none ∈ zT := zw_of _ 662 (by decide +kernel) (by decide +kernel)
theorem cw_X4_112 : zCw RX4 112 yX4_readGround cX4_readGround 3 none 1 := ⟨ml_X4_112, ni_X4, cd_X4_readGround, by decide, by decide, by decide +kernel⟩
theorem wi_X4_readGround : Cond.instanceMethod yX4_readGround ∈ zT := zw_of _ 661 (by decide +kernel) (by decide +kernel)
theorem ws_X4_readGround : Cond.selects RX4 yX4_readGround yX4_readGround ∈ zT := zw_of _ 6 (by decide +kernel) (by decide +kernel)
theorem ml_X4_115 : Cond.methodLink RX4 115 yX4_readField ∈ zT := zw_of _ 679 (by decide +kernel) (by decide +kernel)
theorem cd_X4_readField : Cond.code yX4_readField cX4_readField 2 none ∈ zT := zw_of _ 682 (by decide +kernel) (by decide +kernel)
theorem cw_X4_115 : zCw RX4 115 yX4_readField cX4_readField 2 none 0 := ⟨ml_X4_115, ni_X4, cd_X4_readField, by decide, by decide, by decide +kernel⟩
theorem wi_X4_readField : Cond.instanceMethod yX4_readField ∈ zT := zw_of _ 681 (by decide +kernel) (by decide +kernel)
theorem ws_X4_readField : Cond.selects RX4 yX4_readField yX4_readField ∈ zT := zw_of _ 11 (by decide +kernel) (by decide +kernel)
theorem ml_X4_118 : Cond.methodLink RX4 118 yX4_readCloud ∈ zT := zw_of _ 694 (by decide +kernel) (by decide +kernel)
theorem cd_X4_readCloud : Cond.code yX4_readCloud cX4_readCloud 2 none ∈ zT := zw_of _ 697 (by decide +kernel) (by decide +kernel)
theorem cw_X4_118 : zCw RX4 118 yX4_readCloud cX4_readCloud 2 none 0 := ⟨ml_X4_118, ni_X4, cd_X4_readCloud, by decide, by decide, by decide +kernel⟩
theorem wi_X4_readCloud : Cond.instanceMethod yX4_readCloud ∈ zT := zw_of _ 696 (by decide +kernel) (by decide +kernel)
theorem ws_X4_readCloud : Cond.selects RX4 yX4_readCloud yX4_readCloud ∈ zT := zw_of _ 14 (by decide +kernel) (by decide +kernel)
theorem ml_X4_121 : Cond.methodLink RX4 121 yX4_readChild ∈ zT := zw_of _ 698 (by decide +kernel) (by decide +kernel)
theorem cd_X4_readChild : Cond.code yX4_readChild cX4_readChild 2 none ∈ zT := zw_of _ 701 (by decide +kernel) (by decide +kernel)
theorem cw_X4_121 : zCw RX4 121 yX4_readChild cX4_readChild 2 none 0 := ⟨ml_X4_121, ni_X4, cd_X4_readChild, by decide, by decide, by decide +kernel⟩
theorem wi_X4_readChild : Cond.instanceMethod yX4_readChild ∈ zT := zw_of _ 700 (by decide +kernel) (by decide +kernel)
theorem ws_X4_readChild : Cond.selects RX4 yX4_readChild yX4_readChild ∈ zT := zw_of _ 15 (by decide +kernel) (by decide +kernel)
theorem ml_X4_124 : Cond.methodLink RX4 124 yX4_readWind ∈ zT := zw_of _ 702 (by decide +kernel) (by decide +kernel)
theorem cd_X4_readWind : Cond.code yX4_readWind cX4_readWind 2 none ∈ zT := zw_of _ 705 (by decide +kernel) (by decide +kernel)
theorem cw_X4_124 : zCw RX4 124 yX4_readWind cX4_readWind 2 none 0 := ⟨ml_X4_124, ni_X4, cd_X4_readWind, by decide, by decide, by decide +kernel⟩
theorem wi_X4_readWind : Cond.instanceMethod yX4_readWind ∈ zT := zw_of _ 704 (by decide +kernel) (by decide +kernel)
theorem ws_X4_readWind : Cond.selects RX4 yX4_readWind yX4_readWind ∈ zT := zw_of _ 16 (by decide +kernel) (by decide +kernel)
theorem ml_X4_127 : Cond.methodLink RX4 127 yX4_readRain ∈ zT := zw_of _ 706 (by decide +kernel) (by decide +kernel)
theorem cd_X4_readRain : Cond.code yX4_readRain cX4_readRain 1 none ∈ zT := zw_of _ 709 (by decide +kernel) (by decide +kernel)
theorem cw_X4_127 : zCw RX4 127 yX4_readRain cX4_readRain 1 none 0 := ⟨ml_X4_127, ni_X4, cd_X4_readRain, by decide, by decide, by decide +kernel⟩
theorem wi_X4_readRain : Cond.instanceMethod yX4_readRain ∈ zT := zw_of _ 708 (by decide +kernel) (by decide +kernel)
theorem ws_X4_readRain : Cond.selects RX4 yX4_readRain yX4_readRain ∈ zT := zw_of _ 17 (by decide +kernel) (by decide +kernel)
theorem ml_X4_130 : Cond.methodLink RX4 130 yX4_readMost ∈ zT := zw_of _ 714 (by decide +kernel) (by decide +kernel)
theorem cd_X4_readMost : Cond.code yX4_readMost cX4_readMost 1 none ∈ zT := zw_of _ 717 (by decide +kernel) (by decide +kernel)
theorem cw_X4_130 : zCw RX4 130 yX4_readMost cX4_readMost 1 none 0 := ⟨ml_X4_130, ni_X4, cd_X4_readMost, by decide, by decide, by decide +kernel⟩
theorem wi_X4_readMost : Cond.instanceMethod yX4_readMost ∈ zT := zw_of _ 716 (by decide +kernel) (by decide +kernel)
theorem ws_X4_readMost : Cond.selects RX4 yX4_readMost yX4_readMost ∈ zT := zw_of _ 19 (by decide +kernel) (by decide +kernel)
theorem ml_X4_133 : Cond.methodLink RX4 133 yX4_readSeed ∈ zT := zw_of _ 718 (by decide +kernel) (by decide +kernel)
theorem cd_X4_readSeed : Cond.code yX4_readSeed cX4_readSeed 1 none ∈ zT := zw_of _ 721 (by decide +kernel) (by decide +kernel)
theorem cw_X4_133 : zCw RX4 133 yX4_readSeed cX4_readSeed 1 none 0 := ⟨ml_X4_133, ni_X4, cd_X4_readSeed, by decide, by decide, by decide +kernel⟩
theorem wi_X4_readSeed : Cond.instanceMethod yX4_readSeed ∈ zT := zw_of _ 720 (by decide +kernel) (by decide +kernel)
theorem ws_X4_readSeed : Cond.selects RX4 yX4_readSeed yX4_readSeed ∈ zT := zw_of _ 20 (by decide +kernel) (by decide +kernel)
theorem ml_X4_136 : Cond.methodLink RX4 136 yX4_readLaw ∈ zT := zw_of _ 723 (by decide +kernel) (by decide +kernel)
theorem cd_X4_readLaw : Cond.code yX4_readLaw cX4_readLaw 4 none ∈ zT := zw_of _ 726 (by decide +kernel) (by decide +kernel)
theorem cw_X4_136 : zCw RX4 136 yX4_readLaw cX4_readLaw 4 none 0 := ⟨ml_X4_136, ni_X4, cd_X4_readLaw, by decide, by decide, by decide +kernel⟩
theorem wi_X4_readLaw : Cond.instanceMethod yX4_readLaw ∈ zT := zw_of _ 725 (by decide +kernel) (by decide +kernel)
theorem ws_X4_readLaw : Cond.selects RX4 yX4_readLaw yX4_readLaw ∈ zT := zw_of _ 21 (by decide +kernel) (by decide +kernel)
theorem fl_X6_9 : Cond.fieldLink RX6 9 (TX6 0).1 (TX6 0).2.1 (TX6 0).2.2.1 ∈ zT := zw_of _ 194 (by decide +kernel) (by decide +kernel)
theorem fl_X6_51 : Cond.fieldLink RX6 51 (TX6 12).1 (TX6 12).2.1 (TX6 12).2.2.1 ∈ zT := zw_of _ 234 (by decide +kernel) (by decide +kernel)
theorem ml_X6_74 : Cond.methodLink RX6 74 yX2_forget ∈ zT := zw_of _ 622 (by decide +kernel) (by decide +kernel)
theorem cd_X2_forget : Cond.code yX2_forget cX2_forget 2 none ∈ zT := zw_of _ 625 (by decide +kernel) (by decide +kernel)
theorem cw_X6_74 : zCw RX6 74 yX2_forget cX2_forget 2 none 0 := ⟨ml_X6_74, ni_X2, cd_X2_forget, by decide, by decide, by decide +kernel⟩
theorem wi_X2_forget : Cond.instanceMethod yX2_forget ∈ zT := zw_of _ 623 (by decide +kernel) (by decide +kernel)
theorem ws_X2_forget : Cond.selects RX2 yX2_forget yX2_forget ∈ zT := zw_of _ 624 (by decide +kernel) (by decide +kernel)
theorem fl_X6_55 : Cond.fieldLink RX6 55 (TX6 13).1 (TX6 13).2.1 (TX6 13).2.2.1 ∈ zT := zw_of _ 238 (by decide +kernel) (by decide +kernel)
theorem fl_X6_59 : Cond.fieldLink RX6 59 (TX6 14).1 (TX6 14).2.1 (TX6 14).2.2.1 ∈ zT := zw_of _ 242 (by decide +kernel) (by decide +kernel)
theorem fl_X6_62 : Cond.fieldLink RX6 62 (TX6 15).1 (TX6 15).2.1 (TX6 15).2.2.1 ∈ zT := zw_of _ 246 (by decide +kernel) (by decide +kernel)
theorem fl_X6_65 : Cond.fieldLink RX6 65 (TX6 16).1 (TX6 16).2.1 (TX6 16).2.2.1 ∈ zT := zw_of _ 250 (by decide +kernel) (by decide +kernel)
theorem fl_X6_68 : Cond.fieldLink RX6 68 (TX6 17).1 (TX6 17).2.1 (TX6 17).2.2.1 ∈ zT := zw_of _ 254 (by decide +kernel) (by decide +kernel)
theorem fl_X6_71 : Cond.fieldLink RX6 71 (TX6 18).1 (TX6 18).2.1 (TX6 18).2.2.1 ∈ zT := zw_of _ 257 (by decide +kernel) (by decide +kernel)
theorem ml_X4_44 : Cond.methodLink RX4 44 yX6_forget ∈ zT := zw_of _ 618 (by decide +kernel) (by decide +kernel)
theorem ni_X6 : Cond.initialized RX6 ∈ zT := zw_of _ 125 (by decide +kernel) (by decide +kernel)
theorem cd_X6_forget : Cond.code yX6_forget cX6_forget 2 none ∈ zT := zw_of _ 621 (by decide +kernel) (by decide +kernel)
theorem cw_X4_44 : zCw RX4 44 yX6_forget cX6_forget 2 none 0 := ⟨ml_X4_44, ni_X6, cd_X6_forget, by decide, by decide, by decide +kernel⟩
theorem wi_X6_forget : Cond.instanceMethod yX6_forget ∈ zT := zw_of _ 619 (by decide +kernel) (by decide +kernel)
theorem ws_X6_forget : Cond.selects RX6 yX6_forget yX6_forget ∈ zT := zw_of _ 620 (by decide +kernel) (by decide +kernel)
theorem ml_X4_68 : Cond.methodLink RX4 68 yX4_readLine ∈ zT := zw_of _ 655 (by decide +kernel) (by decide +kernel)
theorem cd_X4_readLine : Cond.code yX4_readLine cX4_readLine 1 none ∈ zT := zw_of _ 658 (by decide +kernel) (by decide +kernel)
theorem cw_X4_68 : zCw RX4 68 yX4_readLine cX4_readLine 1 none 0 := ⟨ml_X4_68, ni_X4, cd_X4_readLine, by decide, by decide, by decide +kernel⟩
theorem wi_X4_readLine : Cond.instanceMethod yX4_readLine ∈ zT := zw_of _ 657 (by decide +kernel) (by decide +kernel)
theorem ws_X4_readLine : Cond.selects RX4 yX4_readLine yX4_readLine ∈ zT := zw_of _ 5 (by decide +kernel) (by decide +kernel)
theorem ml_X4_71 : Cond.methodLink RX4 71 yX4_expect ∈ zT := zw_of _ 781 (by decide +kernel) (by decide +kernel)
theorem cd_X4_expect : Cond.code yX4_expect cX4_expect 2 none ∈ zT := zw_of _ 784 (by decide +kernel) (by decide +kernel)
theorem cw_X4_71 : zCw RX4 71 yX4_expect cX4_expect 2 none 1 := ⟨ml_X4_71, ni_X4, cd_X4_expect, by decide, by decide, by decide +kernel⟩
theorem wi_X4_expect : Cond.instanceMethod yX4_expect ∈ zT := zw_of _ 783 (by decide +kernel) (by decide +kernel)
theorem ws_X4_expect : Cond.selects RX4 yX4_expect yX4_expect ∈ zT := zw_of _ 30 (by decide +kernel) (by decide +kernel)
abbrev M_X4_readGround : zMt := (RX4, cX4_readGround, 3, 5, 148, none, "readGround", 0, 0)
theorem d_X4_readGround_0 : zDc M_X4_readGround 0 (.aload_n 0) 1 1 := ⟨by decide +kernel, rfl⟩
theorem d_X4_readGround_1 : zDc M_X4_readGround 1 (.invokevirtual 62) 3 4 := ⟨by decide +kernel, rfl⟩
theorem d_X4_readGround_4 : zDc M_X4_readGround 4 (.aload_n 0) 1 5 := ⟨by decide +kernel, rfl⟩
theorem d_X4_readGround_5 : zDc M_X4_readGround 5 (.invokevirtual 149) 3 8 := ⟨by decide +kernel, rfl⟩
theorem d_X4_readGround_8 : zDc M_X4_readGround 8 (.istore_n 2) 1 9 := ⟨by decide +kernel, rfl⟩
theorem d_X4_readGround_9 : zDc M_X4_readGround 9 (.iload_n 2) 1 10 := ⟨by decide +kernel, rfl⟩
theorem d_X4_readGround_10 : zDj M_X4_readGround 10 (.ifCond .lt 9) 9 13 19 := ⟨by decide +kernel, rfl, by decide⟩
theorem d_X4_readGround_13 : zDc M_X4_readGround 13 (.iload_n 2) 1 14 := ⟨by decide +kernel, rfl⟩
theorem d_X4_readGround_14 : zDc M_X4_readGround 14 (.bipush 24) 2 16 := ⟨by decide +kernel, rfl⟩
theorem d_X4_readGround_16 : zDj M_X4_readGround 16 (.if_icmp .lt 4) 4 19 20 := ⟨by decide +kernel, rfl, by decide⟩
theorem d_X4_readGround_19 : zDc M_X4_readGround 19 (.return_) 1 20 := ⟨by decide +kernel, rfl⟩
theorem d_X4_readGround_20 : zDc M_X4_readGround 20 (.aload_n 0) 1 21 := ⟨by decide +kernel, rfl⟩
theorem d_X4_readGround_21 : zDc M_X4_readGround 21 (.getfield 22) 3 24 := ⟨by decide +kernel, rfl⟩
theorem d_X4_readGround_24 : zDc M_X4_readGround 24 (.getfield 152) 3 27 := ⟨by decide +kernel, rfl⟩
theorem d_X4_readGround_27 : zDc M_X4_readGround 27 (.iload_n 2) 1 28 := ⟨by decide +kernel, rfl⟩
theorem d_X4_readGround_28 : zDc M_X4_readGround 28 (.iaload) 1 29 := ⟨by decide +kernel, rfl⟩
theorem d_X4_readGround_29 : zDj M_X4_readGround 29 (.ifCond .eq 12) 12 32 41 := ⟨by decide +kernel, rfl, by decide⟩
theorem d_X4_readGround_32 : zDc M_X4_readGround 32 (.aload_n 0) 1 33 := ⟨by decide +kernel, rfl⟩
theorem d_X4_readGround_33 : zDc M_X4_readGround 33 (.iconst 3) 1 34 := ⟨by decide +kernel, rfl⟩
theorem d_X4_readGround_34 : zDc M_X4_readGround 34 (.aload_n 0) 1 35 := ⟨by decide +kernel, rfl⟩
theorem d_X4_readGround_35 : zDc M_X4_readGround 35 (.getfield 139) 3 38 := ⟨by decide +kernel, rfl⟩
theorem d_X4_readGround_38 : zDc M_X4_readGround 38 (.invokevirtual 78) 3 41 := ⟨by decide +kernel, rfl⟩
theorem d_X4_readGround_41 : zDc M_X4_readGround 41 (.aload_n 0) 1 42 := ⟨by decide +kernel, rfl⟩
theorem d_X4_readGround_42 : zDc M_X4_readGround 42 (.getfield 22) 3 45 := ⟨by decide +kernel, rfl⟩
theorem d_X4_readGround_45 : zDc M_X4_readGround 45 (.getfield 152) 3 48 := ⟨by decide +kernel, rfl⟩
theorem d_X4_readGround_48 : zDc M_X4_readGround 48 (.iload_n 2) 1 49 := ⟨by decide +kernel, rfl⟩
theorem d_X4_readGround_49 : zDc M_X4_readGround 49 (.iload_n 1) 1 50 := ⟨by decide +kernel, rfl⟩
theorem d_X4_readGround_50 : zDc M_X4_readGround 50 (.iastore) 1 51 := ⟨by decide +kernel, rfl⟩
theorem d_X4_readGround_51 : zDc M_X4_readGround 51 (.return_) 1 52 := ⟨by decide +kernel, rfl⟩
def f_X4_readGround (a0 : Nat) (a1 : Int32) (h0 : zHp) : Option (Unit × zHp) :=
  zbd (zcv 4 a0 h0 (f_X4_advance a0 h0)) (fun v2 h1 =>
  zbd (zcv 4 a0 h1 (f_X4_readCell a0 h1)) (fun v4 h3 =>
  if v4 < 0 then
  some ((), h3)
  else
  if v4 < 24 then
  zob (zgR h3 a0 4 10) (fun v5 =>
  zob (zgR h3 v5 6 0) (fun v6 =>
  zob (zaI 0 h3 v6 v4) (fun v7 =>
  zbd (α := Unit) (
  if v7 = 0 then
  some ((), h3)
  else
  zob (zgI h3 a0 4 8) (fun v8 =>
  zbd (zcv 4 a0 h3 (f_X4_failAt a0 3 v8 h3)) (fun v10 h9 =>
  some ((), h9)))) (fun e11 h12 =>
  zob (zgR h12 a0 4 10) (fun v13 =>
  zob (zgR h12 v13 6 0) (fun v14 =>
  zob (zsI 0 h12 v14 v4 a1) (fun h15 =>
  some ((), h15))))))))
  else
  some ((), h3)))
set_option maxRecDepth 100000 in
set_option maxHeartbeats 4000000 in
theorem t_X4_readGround (a0 : Nat) (a1 : Int32) (h0 : zHp) : ∀ (r : Unit) (h' : zHp), f_X4_readGround a0 a1 h0 = some (r, h') → zCt yX4_readGround (.code yX4_readGround cX4_readGround 3 none) 5 148 0 0 [.ref a0, .int a1] h0 (none) h' := by
  refine zct_of M_X4_readGround yX4_readGround (by decide) rfl rfl [.ref a0, .int a1] h0 (Nat.le_of_ble_eq_true rfl) (fun _ => none) (fun X => ?_)
  show zG X M_X4_readGround (0, 0) 0 [(0, .ref a0), (1, .int a1)] [] h0 (f_X4_readGround a0 a1 h0) (fun (_ : Unit) h' => zKe X (none) h')
  unfold f_X4_readGround
  refine zg_aload_n 0 rfl d_X4_readGround_0 ?_
  refine zg_cVv (b := a0) (As := []) (rest := []) (0, 0) d_X4_readGround_1 zc_4 rfl cw_X4_62 wi_X4_advance ws_X4_advance rfl rfl (Nat.le_of_ble_eq_true rfl) (by decide) (by decide) ⟨by decide, by decide⟩ rfl (t_X4_advance a0 h0) (fun v2 h1 => ?_)
  refine zg_aload_n 0 rfl d_X4_readGround_4 ?_
  refine zg_cVi (b := a0) (As := []) (rest := []) (0, 0) d_X4_readGround_5 zc_4 rfl cw_X4_149 wi_X4_readCell ws_X4_readCell rfl rfl (Nat.le_of_ble_eq_true rfl) (by decide) (by decide) ⟨by decide, by decide⟩ rfl (t_X4_readCell a0 h1) (fun v4 h3 => ?_)
  refine zg_istore_n [(2, .int v4), (0, .ref a0), (1, .int a1)] d_X4_readGround_8 rfl (by decide) rfl ?_
  refine zg_iload_n 0 rfl d_X4_readGround_9 ?_
  refine zg_if_lt d_X4_readGround_10 ?_ ?_
  · exact zg_vretK d_X4_readGround_19 rfl ⟨Nat.le_of_ble_eq_true rfl, Nat.le_of_ble_eq_true rfl⟩ (fun q => q)
  · refine zg_iload_n 0 rfl d_X4_readGround_13 ?_
    refine zg_bipush 24 rfl d_X4_readGround_14 ?_
    refine zg_icmp_lt d_X4_readGround_16 ?_ ?_
    · refine zg_aload_n 1 rfl d_X4_readGround_20 ?_
      refine zg_getR d_X4_readGround_21 zc_4 (by decide) fl_X4_22 (fun v5 => ?_)
      refine zg_getR d_X4_readGround_24 zc_6 (by decide) fl_X4_152 (fun v6 => ?_)
      refine zg_iload_n 0 rfl d_X4_readGround_27 ?_
      refine zg_ald0 d_X4_readGround_28 (fun v7 => ?_)
      refine zg_bd (E := 41) (el := (fun (e11 : Unit) => [(0, .ref a0), (1, .int a1), (2, .int v4)])) (es := (fun (e11 : Unit) => [])) ?_ (fun e11 h12 => ?_)
      · refine zg_if_eq d_X4_readGround_29 ?_ ?_
        · exact zg_finK (E := 0) [1, 2, 0] rfl rfl (fun q => q)
        · refine zg_aload_n 1 rfl d_X4_readGround_32 ?_
          refine zg_iconst 3 rfl d_X4_readGround_33 ?_
          refine zg_aload_n 1 rfl d_X4_readGround_34 ?_
          refine zg_getI d_X4_readGround_35 zc_4 (by decide) fl_X4_139 (fun v8 => ?_)
          refine zg_cVv (b := a0) (As := [.int 3, .int v8]) (rest := []) (0, 0) d_X4_readGround_38 zc_4 rfl cw_X4_78 wi_X4_failAt ws_X4_failAt rfl rfl (Nat.le_of_ble_eq_true rfl) (by decide) (by decide) ⟨by decide, by decide⟩ rfl (t_X4_failAt a0 3 v8 h3) (fun v10 h9 => ?_)
          exact zg_finK (E := 0) [1, 2, 0] rfl rfl (fun q => q)
      · refine zg_aload_n 0 rfl d_X4_readGround_41 ?_
        refine zg_getR d_X4_readGround_42 zc_4 (by decide) fl_X4_22 (fun v13 => ?_)
        refine zg_getR d_X4_readGround_45 zc_6 (by decide) fl_X4_152 (fun v14 => ?_)
        refine zg_iload_n 2 rfl d_X4_readGround_48 ?_
        refine zg_iload_n 1 rfl d_X4_readGround_49 ?_
        refine zg_ast0 d_X4_readGround_50 (fun h15 => ?_)
        exact zg_vretK d_X4_readGround_51 rfl ⟨Nat.le_of_ble_eq_true rfl, Nat.le_of_ble_eq_true rfl⟩ (fun q => q)
    · exact zg_vretK d_X4_readGround_19 rfl ⟨Nat.le_of_ble_eq_true rfl, Nat.le_of_ble_eq_true rfl⟩ (fun q => q)
abbrev M_X4_readPart : zMt := (RX4, cX4_readPart, 1, 4, 126, none, "readPart", 0, 0)
theorem d_X4_readPart_0 : zDc M_X4_readPart 0 (.aload_n 0) 1 1 := ⟨by decide +kernel, rfl⟩
theorem d_X4_readPart_1 : zDc M_X4_readPart 1 (.getfield 65) 3 4 := ⟨by decide +kernel, rfl⟩
theorem d_X4_readPart_4 : zDc M_X4_readPart 4 (.bipush 37) 2 6 := ⟨by decide +kernel, rfl⟩
theorem d_X4_readPart_6 : zDj M_X4_readPart 6 (.if_icmp .ne 28) 28 9 34 := ⟨by decide +kernel, rfl, by decide⟩
theorem d_X4_readPart_9 : zDc M_X4_readPart 9 (.aload_n 0) 1 10 := ⟨by decide +kernel, rfl⟩
theorem d_X4_readPart_10 : zDc M_X4_readPart 10 (.invokevirtual 261) 3 13 := ⟨by decide +kernel, rfl⟩
theorem d_X4_readPart_13 : zDc M_X4_readPart 13 (.aload_n 0) 1 14 := ⟨by decide +kernel, rfl⟩
theorem d_X4_readPart_14 : zDc M_X4_readPart 14 (.getfield 22) 3 17 := ⟨by decide +kernel, rfl⟩
theorem d_X4_readPart_17 : zDc M_X4_readPart 17 (.getfield 218) 3 20 := ⟨by decide +kernel, rfl⟩
theorem d_X4_readPart_20 : zDc M_X4_readPart 20 (.aload_n 0) 1 21 := ⟨by decide +kernel, rfl⟩
theorem d_X4_readPart_21 : zDc M_X4_readPart 21 (.iconst 0) 1 22 := ⟨by decide +kernel, rfl⟩
theorem d_X4_readPart_22 : zDc M_X4_readPart 22 (.sipush 9999) 3 25 := ⟨by decide +kernel, rfl⟩
theorem d_X4_readPart_25 : zDc M_X4_readPart 25 (.invokevirtual 142) 3 28 := ⟨by decide +kernel, rfl⟩
theorem d_X4_readPart_28 : zDc M_X4_readPart 28 (.invokevirtual 271) 3 31 := ⟨by decide +kernel, rfl⟩
theorem d_X4_readPart_31 : zDj M_X4_readPart 31 (.goto 53) 53 34 84 := ⟨by decide +kernel, rfl, by decide⟩
theorem d_X4_readPart_34 : zDc M_X4_readPart 34 (.aload_n 0) 1 35 := ⟨by decide +kernel, rfl⟩
theorem d_X4_readPart_35 : zDc M_X4_readPart 35 (.getfield 65) 3 38 := ⟨by decide +kernel, rfl⟩
theorem d_X4_readPart_38 : zDc M_X4_readPart 38 (.bipush 16) 2 40 := ⟨by decide +kernel, rfl⟩
theorem d_X4_readPart_40 : zDj M_X4_readPart 40 (.if_icmp .lt 39) 39 43 79 := ⟨by decide +kernel, rfl, by decide⟩
theorem d_X4_readPart_43 : zDc M_X4_readPart 43 (.aload_n 0) 1 44 := ⟨by decide +kernel, rfl⟩
theorem d_X4_readPart_44 : zDc M_X4_readPart 44 (.getfield 65) 3 47 := ⟨by decide +kernel, rfl⟩
theorem d_X4_readPart_47 : zDc M_X4_readPart 47 (.bipush 22) 2 49 := ⟨by decide +kernel, rfl⟩
theorem d_X4_readPart_49 : zDj M_X4_readPart 49 (.if_icmp .gt 30) 30 52 79 := ⟨by decide +kernel, rfl, by decide⟩
theorem d_X4_readPart_52 : zDc M_X4_readPart 52 (.aload_n 0) 1 53 := ⟨by decide +kernel, rfl⟩
theorem d_X4_readPart_53 : zDc M_X4_readPart 53 (.getfield 22) 3 56 := ⟨by decide +kernel, rfl⟩
theorem d_X4_readPart_56 : zDc M_X4_readPart 56 (.getfield 218) 3 59 := ⟨by decide +kernel, rfl⟩
theorem d_X4_readPart_59 : zDc M_X4_readPart 59 (.aload_n 0) 1 60 := ⟨by decide +kernel, rfl⟩
theorem d_X4_readPart_60 : zDc M_X4_readPart 60 (.getfield 65) 3 63 := ⟨by decide +kernel, rfl⟩
theorem d_X4_readPart_63 : zDc M_X4_readPart 63 (.iconst (-1)) 1 64 := ⟨by decide +kernel, rfl⟩
theorem d_X4_readPart_64 : zDc M_X4_readPart 64 (.ixor) 1 65 := ⟨by decide +kernel, rfl⟩
theorem d_X4_readPart_65 : zDc M_X4_readPart 65 (.invokevirtual 271) 3 68 := ⟨by decide +kernel, rfl⟩
theorem d_X4_readPart_68 : zDc M_X4_readPart 68 (.aload_n 0) 1 69 := ⟨by decide +kernel, rfl⟩
theorem d_X4_readPart_69 : zDc M_X4_readPart 69 (.invokevirtual 261) 3 72 := ⟨by decide +kernel, rfl⟩
theorem d_X4_readPart_72 : zDc M_X4_readPart 72 (.aload_n 0) 1 73 := ⟨by decide +kernel, rfl⟩
theorem d_X4_readPart_73 : zDc M_X4_readPart 73 (.invokevirtual 62) 3 76 := ⟨by decide +kernel, rfl⟩
theorem d_X4_readPart_76 : zDj M_X4_readPart 76 (.goto 8) 8 79 84 := ⟨by decide +kernel, rfl, by decide⟩
theorem d_X4_readPart_79 : zDc M_X4_readPart 79 (.aload_n 0) 1 80 := ⟨by decide +kernel, rfl⟩
theorem d_X4_readPart_80 : zDc M_X4_readPart 80 (.iconst 1) 1 81 := ⟨by decide +kernel, rfl⟩
theorem d_X4_readPart_81 : zDc M_X4_readPart 81 (.invokevirtual 82) 3 84 := ⟨by decide +kernel, rfl⟩
theorem d_X4_readPart_84 : zDc M_X4_readPart 84 (.return_) 1 85 := ⟨by decide +kernel, rfl⟩
def f_X4_readPart (a0 : Nat) (h0 : zHp) : Option (Unit × zHp) :=
  zob (zgI h0 a0 4 4) (fun v1 =>
  if v1 = 37 then
  zbd (zcv 4 a0 h0 (f_X4_countKnot a0 h0)) (fun v3 h2 =>
  zob (zgR h2 a0 4 10) (fun v4 =>
  zob (zgR h2 v4 6 12) (fun v5 =>
  zbd (zcv 4 a0 h2 (f_X4_readNumber a0 0 9999 h2)) (fun v7 h6 =>
  zbd (zcv 2 v5 h6 (f_X2_place v5 v7 h6)) (fun v9 h8 =>
  some ((), h8))))))
  else
  zob (zgI h0 a0 4 4) (fun v10 =>
  if v10 < 16 then
  zbd (zcv 4 a0 h0 (f_X4_fail a0 1 h0)) (fun v12 h11 =>
  some ((), h11))
  else
  zob (zgI h0 a0 4 4) (fun v13 =>
  if 22 < v13 then
  zbd (zcv 4 a0 h0 (f_X4_fail a0 1 h0)) (fun v15 h14 =>
  some ((), h14))
  else
  zob (zgR h0 a0 4 10) (fun v16 =>
  zob (zgR h0 v16 6 12) (fun v17 =>
  zob (zgI h0 a0 4 4) (fun v18 =>
  zbd (zcv 2 v17 h0 (f_X2_place v17 (v18 ^^^ (-1)) h0)) (fun v20 h19 =>
  zbd (zcv 4 a0 h19 (f_X4_countKnot a0 h19)) (fun v22 h21 =>
  zbd (zcv 4 a0 h21 (f_X4_advance a0 h21)) (fun v24 h23 =>
  some ((), h23))))))))))
set_option maxRecDepth 100000 in
set_option maxHeartbeats 4000000 in
theorem t_X4_readPart (a0 : Nat) (h0 : zHp) : ∀ (r : Unit) (h' : zHp), f_X4_readPart a0 h0 = some (r, h') → zCt yX4_readPart (.code yX4_readPart cX4_readPart 1 none) 4 126 0 0 [.ref a0] h0 (none) h' := by
  refine zct_of M_X4_readPart yX4_readPart (by decide) rfl rfl [.ref a0] h0 (Nat.le_of_ble_eq_true rfl) (fun _ => none) (fun X => ?_)
  show zG X M_X4_readPart (0, 0) 0 [(0, .ref a0)] [] h0 (f_X4_readPart a0 h0) (fun (_ : Unit) h' => zKe X (none) h')
  unfold f_X4_readPart
  refine zg_aload_n 0 rfl d_X4_readPart_0 ?_
  refine zg_getI d_X4_readPart_1 zc_4 (by decide) fl_X4_65 (fun v1 => ?_)
  refine zg_bipush 37 rfl d_X4_readPart_4 ?_
  refine zg_icmp_ne d_X4_readPart_6 ?_ ?_
  · refine zg_aload_n 0 rfl d_X4_readPart_9 ?_
    refine zg_cVv (b := a0) (As := []) (rest := []) (0, 0) d_X4_readPart_10 zc_4 rfl cw_X4_261 wi_X4_countKnot ws_X4_countKnot rfl rfl (Nat.le_of_ble_eq_true rfl) (by decide) (by decide) ⟨by decide, by decide⟩ rfl (t_X4_countKnot a0 h0) (fun v3 h2 => ?_)
    refine zg_aload_n 0 rfl d_X4_readPart_13 ?_
    refine zg_getR d_X4_readPart_14 zc_4 (by decide) fl_X4_22 (fun v4 => ?_)
    refine zg_getR d_X4_readPart_17 zc_6 (by decide) fl_X4_218 (fun v5 => ?_)
    refine zg_aload_n 0 rfl d_X4_readPart_20 ?_
    refine zg_iconst 0 rfl d_X4_readPart_21 ?_
    refine zg_sipush 9999 rfl d_X4_readPart_22 ?_
    refine zg_cVi (b := a0) (As := [.int 0, .int 9999]) (rest := [.ref v5]) (0, 0) d_X4_readPart_25 zc_4 rfl cw_X4_142 wi_X4_readNumber ws_X4_readNumber rfl rfl (Nat.le_of_ble_eq_true rfl) (by decide) (by decide) ⟨by decide, by decide⟩ rfl (t_X4_readNumber a0 0 9999 h2) (fun v7 h6 => ?_)
    refine zg_cVv (b := v5) (As := [.int v7]) (rest := []) (0, 0) d_X4_readPart_28 zc_2 rfl cw_X4_271 wi_X2_place ws_X2_place rfl rfl (Nat.le_of_ble_eq_true rfl) (by decide) (by decide) ⟨by decide, by decide⟩ rfl (t_X2_place v5 v7 h6) (fun v9 h8 => ?_)
    refine zg_goto d_X4_readPart_31 ?_
    exact zg_vretK d_X4_readPart_84 rfl ⟨Nat.le_of_ble_eq_true rfl, Nat.le_of_ble_eq_true rfl⟩ (fun q => q)
  · refine zg_aload_n 0 rfl d_X4_readPart_34 ?_
    refine zg_getI d_X4_readPart_35 zc_4 (by decide) fl_X4_65 (fun v10 => ?_)
    refine zg_bipush 16 rfl d_X4_readPart_38 ?_
    refine zg_icmp_lt d_X4_readPart_40 ?_ ?_
    · refine zg_aload_n 0 rfl d_X4_readPart_79 ?_
      refine zg_iconst 1 rfl d_X4_readPart_80 ?_
      refine zg_cVv (b := a0) (As := [.int 1]) (rest := []) (0, 0) d_X4_readPart_81 zc_4 rfl cw_X4_82 wi_X4_fail ws_X4_fail rfl rfl (Nat.le_of_ble_eq_true rfl) (by decide) (by decide) ⟨by decide, by decide⟩ rfl (t_X4_fail a0 1 h0) (fun v12 h11 => ?_)
      exact zg_vretK d_X4_readPart_84 rfl ⟨Nat.le_of_ble_eq_true rfl, Nat.le_of_ble_eq_true rfl⟩ (fun q => q)
    · refine zg_aload_n 0 rfl d_X4_readPart_43 ?_
      refine zg_getI d_X4_readPart_44 zc_4 (by decide) fl_X4_65 (fun v13 => ?_)
      refine zg_bipush 22 rfl d_X4_readPart_47 ?_
      refine zg_icmp_gt d_X4_readPart_49 ?_ ?_
      · refine zg_aload_n 0 rfl d_X4_readPart_79 ?_
        refine zg_iconst 1 rfl d_X4_readPart_80 ?_
        refine zg_cVv (b := a0) (As := [.int 1]) (rest := []) (0, 0) d_X4_readPart_81 zc_4 rfl cw_X4_82 wi_X4_fail ws_X4_fail rfl rfl (Nat.le_of_ble_eq_true rfl) (by decide) (by decide) ⟨by decide, by decide⟩ rfl (t_X4_fail a0 1 h0) (fun v15 h14 => ?_)
        exact zg_vretK d_X4_readPart_84 rfl ⟨Nat.le_of_ble_eq_true rfl, Nat.le_of_ble_eq_true rfl⟩ (fun q => q)
      · refine zg_aload_n 0 rfl d_X4_readPart_52 ?_
        refine zg_getR d_X4_readPart_53 zc_4 (by decide) fl_X4_22 (fun v16 => ?_)
        refine zg_getR d_X4_readPart_56 zc_6 (by decide) fl_X4_218 (fun v17 => ?_)
        refine zg_aload_n 0 rfl d_X4_readPart_59 ?_
        refine zg_getI d_X4_readPart_60 zc_4 (by decide) fl_X4_65 (fun v18 => ?_)
        refine zg_iconst (-1) rfl d_X4_readPart_63 ?_
        refine zg_ixor d_X4_readPart_64 ?_
        refine zg_cVv (b := v17) (As := [.int (v18 ^^^ (-1))]) (rest := []) (0, 0) d_X4_readPart_65 zc_2 rfl cw_X4_271 wi_X2_place ws_X2_place rfl rfl (Nat.le_of_ble_eq_true rfl) (by decide) (by decide) ⟨by decide, by decide⟩ rfl (t_X2_place v17 (v18 ^^^ (-1)) h0) (fun v20 h19 => ?_)
        refine zg_aload_n 0 rfl d_X4_readPart_68 ?_
        refine zg_cVv (b := a0) (As := []) (rest := []) (0, 0) d_X4_readPart_69 zc_4 rfl cw_X4_261 wi_X4_countKnot ws_X4_countKnot rfl rfl (Nat.le_of_ble_eq_true rfl) (by decide) (by decide) ⟨by decide, by decide⟩ rfl (t_X4_countKnot a0 h19) (fun v22 h21 => ?_)
        refine zg_aload_n 0 rfl d_X4_readPart_72 ?_
        refine zg_cVv (b := a0) (As := []) (rest := []) (0, 0) d_X4_readPart_73 zc_4 rfl cw_X4_62 wi_X4_advance ws_X4_advance rfl rfl (Nat.le_of_ble_eq_true rfl) (by decide) (by decide) ⟨by decide, by decide⟩ rfl (t_X4_advance a0 h21) (fun v24 h23 => ?_)
        refine zg_goto d_X4_readPart_76 ?_
        exact zg_vretK d_X4_readPart_84 rfl ⟨Nat.le_of_ble_eq_true rfl, Nat.le_of_ble_eq_true rfl⟩ (fun q => q)
abbrev M_X4_readSign : zMt := (RX4, cX4_readSign, 2, 4, 123, (some .boolean), "readSign", 0, 0)
theorem d_X4_readSign_0 : zDc M_X4_readSign 0 (.iconst 0) 1 1 := ⟨by decide +kernel, rfl⟩
theorem d_X4_readSign_1 : zDc M_X4_readSign 1 (.istore_n 1) 1 2 := ⟨by decide +kernel, rfl⟩
theorem d_X4_readSign_2 : zDc M_X4_readSign 2 (.iload_n 1) 1 3 := ⟨by decide +kernel, rfl⟩
theorem d_X4_readSign_3 : zDc M_X4_readSign 3 (.bipush 8) 2 5 := ⟨by decide +kernel, rfl⟩
theorem d_X4_readSign_5 : zDj M_X4_readSign 5 (.if_icmp .ge 58) 58 8 63 := ⟨by decide +kernel, rfl, by decide⟩
theorem d_X4_readSign_8 : zDc M_X4_readSign 8 (.aload_n 0) 1 9 := ⟨by decide +kernel, rfl⟩
theorem d_X4_readSign_9 : zDc M_X4_readSign 9 (.getfield 65) 3 12 := ⟨by decide +kernel, rfl⟩
theorem d_X4_readSign_12 : zDc M_X4_readSign 12 (.bipush 34) 2 14 := ⟨by decide +kernel, rfl⟩
theorem d_X4_readSign_14 : zDj M_X4_readSign 14 (.if_icmp .ne 49) 49 17 63 := ⟨by decide +kernel, rfl, by decide⟩
theorem d_X4_readSign_17 : zDc M_X4_readSign 17 (.aload_n 0) 1 18 := ⟨by decide +kernel, rfl⟩
theorem d_X4_readSign_18 : zDc M_X4_readSign 18 (.getfield 233) 3 21 := ⟨by decide +kernel, rfl⟩
theorem d_X4_readSign_21 : zDj M_X4_readSign 21 (.ifCond .le 42) 42 24 63 := ⟨by decide +kernel, rfl, by decide⟩
theorem d_X4_readSign_24 : zDc M_X4_readSign 24 (.aload_n 0) 1 25 := ⟨by decide +kernel, rfl⟩
theorem d_X4_readSign_25 : zDc M_X4_readSign 25 (.iconst 0) 1 26 := ⟨by decide +kernel, rfl⟩
theorem d_X4_readSign_26 : zDc M_X4_readSign 26 (.invokevirtual 246) 3 29 := ⟨by decide +kernel, rfl⟩
theorem d_X4_readSign_29 : zDc M_X4_readSign 29 (.aload_n 0) 1 30 := ⟨by decide +kernel, rfl⟩
theorem d_X4_readSign_30 : zDc M_X4_readSign 30 (.iconst 0) 1 31 := ⟨by decide +kernel, rfl⟩
theorem d_X4_readSign_31 : zDc M_X4_readSign 31 (.aload_n 0) 1 32 := ⟨by decide +kernel, rfl⟩
theorem d_X4_readSign_32 : zDc M_X4_readSign 32 (.getfield 230) 3 35 := ⟨by decide +kernel, rfl⟩
theorem d_X4_readSign_35 : zDc M_X4_readSign 35 (.iconst 1) 1 36 := ⟨by decide +kernel, rfl⟩
theorem d_X4_readSign_36 : zDc M_X4_readSign 36 (.isub) 1 37 := ⟨by decide +kernel, rfl⟩
theorem d_X4_readSign_37 : zDc M_X4_readSign 37 (.invokestatic 273) 3 40 := ⟨by decide +kernel, rfl⟩
theorem d_X4_readSign_40 : zDc M_X4_readSign 40 (.putfield 230) 3 43 := ⟨by decide +kernel, rfl⟩
theorem d_X4_readSign_43 : zDc M_X4_readSign 43 (.aload_n 0) 1 44 := ⟨by decide +kernel, rfl⟩
theorem d_X4_readSign_44 : zDc M_X4_readSign 44 (.dup) 1 45 := ⟨by decide +kernel, rfl⟩
theorem d_X4_readSign_45 : zDc M_X4_readSign 45 (.getfield 233) 3 48 := ⟨by decide +kernel, rfl⟩
theorem d_X4_readSign_48 : zDc M_X4_readSign 48 (.iconst 1) 1 49 := ⟨by decide +kernel, rfl⟩
theorem d_X4_readSign_49 : zDc M_X4_readSign 49 (.isub) 1 50 := ⟨by decide +kernel, rfl⟩
theorem d_X4_readSign_50 : zDc M_X4_readSign 50 (.putfield 233) 3 53 := ⟨by decide +kernel, rfl⟩
theorem d_X4_readSign_53 : zDc M_X4_readSign 53 (.aload_n 0) 1 54 := ⟨by decide +kernel, rfl⟩
theorem d_X4_readSign_54 : zDc M_X4_readSign 54 (.invokevirtual 62) 3 57 := ⟨by decide +kernel, rfl⟩
theorem d_X4_readSign_57 : zDc M_X4_readSign 57 (.iinc 1 1) 3 60 := ⟨by decide +kernel, rfl⟩
theorem d_X4_readSign_60 : zDj M_X4_readSign 60 (.goto (-58)) (-58) 63 2 := ⟨by decide +kernel, rfl, by decide⟩
theorem d_X4_readSign_63 : zDc M_X4_readSign 63 (.aload_n 0) 1 64 := ⟨by decide +kernel, rfl⟩
theorem d_X4_readSign_64 : zDc M_X4_readSign 64 (.getfield 65) 3 67 := ⟨by decide +kernel, rfl⟩
theorem d_X4_readSign_67 : zDc M_X4_readSign 67 (.invokestatic 267) 3 70 := ⟨by decide +kernel, rfl⟩
theorem d_X4_readSign_70 : zDc M_X4_readSign 70 (.istore_n 1) 1 71 := ⟨by decide +kernel, rfl⟩
theorem d_X4_readSign_71 : zDc M_X4_readSign 71 (.iload_n 1) 1 72 := ⟨by decide +kernel, rfl⟩
theorem d_X4_readSign_72 : zDj M_X4_readSign 72 (.ifCond .eq 12) 12 75 84 := ⟨by decide +kernel, rfl, by decide⟩
theorem d_X4_readSign_75 : zDc M_X4_readSign 75 (.aload_n 0) 1 76 := ⟨by decide +kernel, rfl⟩
theorem d_X4_readSign_76 : zDc M_X4_readSign 76 (.getfield 65) 3 79 := ⟨by decide +kernel, rfl⟩
theorem d_X4_readSign_79 : zDc M_X4_readSign 79 (.bipush 15) 2 81 := ⟨by decide +kernel, rfl⟩
theorem d_X4_readSign_81 : zDj M_X4_readSign 81 (.if_icmp .ne 17) 17 84 98 := ⟨by decide +kernel, rfl, by decide⟩
theorem d_X4_readSign_84 : zDc M_X4_readSign 84 (.aload_n 0) 1 85 := ⟨by decide +kernel, rfl⟩
theorem d_X4_readSign_85 : zDc M_X4_readSign 85 (.getfield 233) 3 88 := ⟨by decide +kernel, rfl⟩
theorem d_X4_readSign_88 : zDj M_X4_readSign 88 (.ifCond .le 8) 8 91 96 := ⟨by decide +kernel, rfl, by decide⟩
theorem d_X4_readSign_91 : zDc M_X4_readSign 91 (.aload_n 0) 1 92 := ⟨by decide +kernel, rfl⟩
theorem d_X4_readSign_92 : zDc M_X4_readSign 92 (.iconst 1) 1 93 := ⟨by decide +kernel, rfl⟩
theorem d_X4_readSign_93 : zDc M_X4_readSign 93 (.invokevirtual 82) 3 96 := ⟨by decide +kernel, rfl⟩
theorem d_X4_readSign_96 : zDc M_X4_readSign 96 (.iconst 0) 1 97 := ⟨by decide +kernel, rfl⟩
theorem d_X4_readSign_97 : zDc M_X4_readSign 97 (.ireturn) 1 98 := ⟨by decide +kernel, rfl⟩
theorem d_X4_readSign_98 : zDc M_X4_readSign 98 (.aload_n 0) 1 99 := ⟨by decide +kernel, rfl⟩
theorem d_X4_readSign_99 : zDc M_X4_readSign 99 (.iload_n 1) 1 100 := ⟨by decide +kernel, rfl⟩
theorem d_X4_readSign_100 : zDc M_X4_readSign 100 (.iconst 4) 1 101 := ⟨by decide +kernel, rfl⟩
theorem d_X4_readSign_101 : zDj M_X4_readSign 101 (.if_icmp .ne 7) 7 104 108 := ⟨by decide +kernel, rfl, by decide⟩
theorem d_X4_readSign_104 : zDc M_X4_readSign 104 (.iconst 4) 1 105 := ⟨by decide +kernel, rfl⟩
theorem d_X4_readSign_105 : zDj M_X4_readSign 105 (.goto 6) 6 108 111 := ⟨by decide +kernel, rfl, by decide⟩
theorem d_X4_readSign_108 : zDc M_X4_readSign 108 (.iload_n 1) 1 109 := ⟨by decide +kernel, rfl⟩
theorem d_X4_readSign_109 : zDc M_X4_readSign 109 (.iconst 1) 1 110 := ⟨by decide +kernel, rfl⟩
theorem d_X4_readSign_110 : zDc M_X4_readSign 110 (.isub) 1 111 := ⟨by decide +kernel, rfl⟩
theorem d_X4_readSign_111 : zDc M_X4_readSign 111 (.invokevirtual 246) 3 114 := ⟨by decide +kernel, rfl⟩
theorem d_X4_readSign_114 : zDc M_X4_readSign 114 (.iload_n 1) 1 115 := ⟨by decide +kernel, rfl⟩
theorem d_X4_readSign_115 : zDc M_X4_readSign 115 (.iconst 4) 1 116 := ⟨by decide +kernel, rfl⟩
theorem d_X4_readSign_116 : zDj M_X4_readSign 116 (.if_icmp .ne 36) 36 119 152 := ⟨by decide +kernel, rfl, by decide⟩
theorem d_X4_readSign_119 : zDc M_X4_readSign 119 (.aload_n 0) 1 120 := ⟨by decide +kernel, rfl⟩
theorem d_X4_readSign_120 : zDc M_X4_readSign 120 (.getfield 230) 3 123 := ⟨by decide +kernel, rfl⟩
theorem d_X4_readSign_123 : zDj M_X4_readSign 123 (.ifCond .le 29) 29 126 152 := ⟨by decide +kernel, rfl, by decide⟩
theorem d_X4_readSign_126 : zDc M_X4_readSign 126 (.aload_n 0) 1 127 := ⟨by decide +kernel, rfl⟩
theorem d_X4_readSign_127 : zDc M_X4_readSign 127 (.getfield 26) 3 130 := ⟨by decide +kernel, rfl⟩
theorem d_X4_readSign_130 : zDc M_X4_readSign 130 (.aload_n 0) 1 131 := ⟨by decide +kernel, rfl⟩
theorem d_X4_readSign_131 : zDc M_X4_readSign 131 (.getfield 230) 3 134 := ⟨by decide +kernel, rfl⟩
theorem d_X4_readSign_134 : zDc M_X4_readSign 134 (.iconst 1) 1 135 := ⟨by decide +kernel, rfl⟩
theorem d_X4_readSign_135 : zDc M_X4_readSign 135 (.isub) 1 136 := ⟨by decide +kernel, rfl⟩
theorem d_X4_readSign_136 : zDc M_X4_readSign 136 (.iaload) 1 137 := ⟨by decide +kernel, rfl⟩
theorem d_X4_readSign_137 : zDc M_X4_readSign 137 (.invokestatic 267) 3 140 := ⟨by decide +kernel, rfl⟩
theorem d_X4_readSign_140 : zDc M_X4_readSign 140 (.iconst 4) 1 141 := ⟨by decide +kernel, rfl⟩
theorem d_X4_readSign_141 : zDj M_X4_readSign 141 (.if_icmp .ne 11) 11 144 152 := ⟨by decide +kernel, rfl, by decide⟩
theorem d_X4_readSign_144 : zDc M_X4_readSign 144 (.aload_n 0) 1 145 := ⟨by decide +kernel, rfl⟩
theorem d_X4_readSign_145 : zDc M_X4_readSign 145 (.iconst 1) 1 146 := ⟨by decide +kernel, rfl⟩
theorem d_X4_readSign_146 : zDc M_X4_readSign 146 (.invokevirtual 82) 3 149 := ⟨by decide +kernel, rfl⟩
theorem d_X4_readSign_149 : zDj M_X4_readSign 149 (.goto 7) 7 152 156 := ⟨by decide +kernel, rfl, by decide⟩
theorem d_X4_readSign_152 : zDc M_X4_readSign 152 (.aload_n 0) 1 153 := ⟨by decide +kernel, rfl⟩
theorem d_X4_readSign_153 : zDc M_X4_readSign 153 (.invokevirtual 261) 3 156 := ⟨by decide +kernel, rfl⟩
theorem d_X4_readSign_156 : zDc M_X4_readSign 156 (.aload_n 0) 1 157 := ⟨by decide +kernel, rfl⟩
theorem d_X4_readSign_157 : zDc M_X4_readSign 157 (.aload_n 0) 1 158 := ⟨by decide +kernel, rfl⟩
theorem d_X4_readSign_158 : zDc M_X4_readSign 158 (.getfield 65) 3 161 := ⟨by decide +kernel, rfl⟩
theorem d_X4_readSign_161 : zDc M_X4_readSign 161 (.invokevirtual 264) 3 164 := ⟨by decide +kernel, rfl⟩
theorem d_X4_readSign_164 : zDc M_X4_readSign 164 (.aload_n 0) 1 165 := ⟨by decide +kernel, rfl⟩
theorem d_X4_readSign_165 : zDc M_X4_readSign 165 (.invokevirtual 62) 3 168 := ⟨by decide +kernel, rfl⟩
theorem d_X4_readSign_168 : zDc M_X4_readSign 168 (.aload_n 0) 1 169 := ⟨by decide +kernel, rfl⟩
theorem d_X4_readSign_169 : zDc M_X4_readSign 169 (.getfield 29) 3 172 := ⟨by decide +kernel, rfl⟩
theorem d_X4_readSign_172 : zDj M_X4_readSign 172 (.ifCond .ne 7) 7 175 179 := ⟨by decide +kernel, rfl, by decide⟩
theorem d_X4_readSign_175 : zDc M_X4_readSign 175 (.iconst 1) 1 176 := ⟨by decide +kernel, rfl⟩
theorem d_X4_readSign_176 : zDj M_X4_readSign 176 (.goto 4) 4 179 180 := ⟨by decide +kernel, rfl, by decide⟩
theorem d_X4_readSign_179 : zDc M_X4_readSign 179 (.iconst 0) 1 180 := ⟨by decide +kernel, rfl⟩
theorem d_X4_readSign_180 : zDc M_X4_readSign 180 (.ireturn) 1 181 := ⟨by decide +kernel, rfl⟩
def f_X4_readSign (a0 : Nat) (h0 : zHp) : Option (Int32 × zHp) :=
  zbd (
  zlp (σ := Int32) (β := Int32) zLF (fun s1 h2 =>
  if 8 ≤ s1 then
  some ((.inr s1), h2)
  else
  zob (zgI h2 a0 4 4) (fun v5 =>
  if v5 = 34 then
  zob (zgI h2 a0 4 13) (fun v6 =>
  if v6 ≤ 0 then
  some ((.inr s1), h2)
  else
  zbd (zcv 4 a0 h2 (f_X4_placeAbove a0 0 h2)) (fun v8 h7 =>
  zob (zgI h7 a0 4 12) (fun v9 =>
  zob (zpV h7 a0 4 12 (.int (zmx 0 (v9 - 1)))) (fun h10 =>
  zob (zgI h10 a0 4 13) (fun v11 =>
  zob (zpV h10 a0 4 13 (.int (v11 - 1))) (fun h12 =>
  zbd (zcv 4 a0 h12 (f_X4_advance a0 h12)) (fun v14 h13 =>
  some ((.inl (s1 + 1)), h13))))))))
  else
  some ((.inr s1), h2))) 0 h0) (fun e3 h4 =>
  zob (zgI h4 a0 4 4) (fun v15 =>
  zbd ((f_X4_rankOf v15 h4)) (fun v17 h16 =>
  zbd (α := (Unit ⊕ Int32)) (
  if v17 = 0 then
  some ((.inl ()), h16)
  else
  zob (zgI h16 a0 4 4) (fun v18 =>
  if v18 = 15 then
  some ((.inl ()), h16)
  else
  zbd (α := Int32) (
  if v17 = 4 then
  some (4, h16)
  else
  some ((v17 - 1), h16)) (fun e19 h20 =>
  zbd (zcv 4 a0 h20 (f_X4_placeAbove a0 e19 h20)) (fun v22 h21 =>
  zbd (α := Unit) (
  if v17 = 4 then
  zob (zgI h21 a0 4 12) (fun v23 =>
  zbd (α := (Unit ⊕ Unit)) (
  if v23 ≤ 0 then
  some ((.inl ()), h21)
  else
  zob (zgR h21 a0 4 11) (fun v24 =>
  zob (zgI h21 a0 4 12) (fun v25 =>
  zob (zaI 0 h21 v24 (v25 - 1)) (fun v26 =>
  zbd ((f_X4_rankOf v26 h21)) (fun v28 h27 =>
  if v28 = 4 then
  zbd (zcv 4 a0 h27 (f_X4_fail a0 1 h27)) (fun v30 h29 =>
  some ((.inr ()), h29))
  else
  some ((.inl ()), h27)))))) (fun b50 h32 => zsl b50 (fun e31 =>
  zbd (zcv 4 a0 h32 (f_X4_countKnot a0 h32)) (fun v34 h33 =>
  some ((), h33))) (fun r => some (r, h32))))
  else
  zbd (zcv 4 a0 h21 (f_X4_countKnot a0 h21)) (fun v36 h35 =>
  some ((), h35))) (fun e37 h38 =>
  zob (zgI h38 a0 4 4) (fun v39 =>
  zbd (zcv 4 a0 h38 (f_X4_letWait a0 v39 h38)) (fun v41 h40 =>
  zbd (zcv 4 a0 h40 (f_X4_advance a0 h40)) (fun v43 h42 =>
  zob (zgI h42 a0 4 14) (fun v44 =>
  if v44 = 0 then
  some ((.inr 1), h42)
  else
  some ((.inr 0), h42)))))))))) (fun b51 h46 => zsl b51 (fun e45 =>
  zob (zgI h46 a0 4 13) (fun v47 =>
  if v47 ≤ 0 then
  some (0, h46)
  else
  zbd (zcv 4 a0 h46 (f_X4_fail a0 1 h46)) (fun v49 h48 =>
  some (0, h48)))) (fun r => some (r, h46))))))
set_option maxRecDepth 100000 in
set_option maxHeartbeats 4000000 in
theorem t_X4_readSign (a0 : Nat) (h0 : zHp) : ∀ (r : Int32) (h' : zHp), f_X4_readSign a0 h0 = some (r, h') → zCt yX4_readSign (.code yX4_readSign cX4_readSign 2 (some .boolean)) 4 123 0 0 [.ref a0] h0 (some (.int r)) h' := by
  refine zct_of M_X4_readSign yX4_readSign (by decide) rfl rfl [.ref a0] h0 (Nat.le_of_ble_eq_true rfl) (fun r => some (.int r)) (fun X => ?_)
  show zG X M_X4_readSign (0, 0) 0 [(0, .ref a0)] [] h0 (f_X4_readSign a0 h0) (fun (r : Int32) h' => zKe X (some (.int r)) h')
  unfold f_X4_readSign
  refine zg_iconst 0 rfl d_X4_readSign_0 ?_
  refine zg_istore_n [(1, .int 0), (0, .ref a0)] d_X4_readSign_1 rfl (by decide) rfl ?_
  refine zg_bd (E := 63) (el := (fun (e3 : Int32) => [(0, .ref a0), (1, .int e3)])) (es := fun _ => []) (zg_sub [1, 0] rfl (zg_lp (el := (fun (s1 : Int32) => [(0, .ref a0), (1, .int s1)])) (fun s1 h2 => ?_) 0 h0)) (fun e3 h4 => ?_)
  · refine zg_iload_n 1 rfl d_X4_readSign_2 ?_
    refine zg_bipush 8 rfl d_X4_readSign_3 ?_
    refine zg_icmp_ge d_X4_readSign_5 ?_ ?_
    · exact zg_finK (E := 0) [0, 1] rfl rfl (fun q => q)
    · refine zg_aload_n 0 rfl d_X4_readSign_8 ?_
      refine zg_getI d_X4_readSign_9 zc_4 (by decide) fl_X4_65 (fun v5 => ?_)
      refine zg_bipush 34 rfl d_X4_readSign_12 ?_
      refine zg_icmp_ne d_X4_readSign_14 ?_ ?_
      · refine zg_aload_n 0 rfl d_X4_readSign_17 ?_
        refine zg_getI d_X4_readSign_18 zc_4 (by decide) fl_X4_233 (fun v6 => ?_)
        refine zg_if_le d_X4_readSign_21 ?_ ?_
        · exact zg_finK (E := 0) [0, 1] rfl rfl (fun q => q)
        · refine zg_aload_n 0 rfl d_X4_readSign_24 ?_
          refine zg_iconst 0 rfl d_X4_readSign_25 ?_
          refine zg_cVv (b := a0) (As := [.int 0]) (rest := []) (0, 0) d_X4_readSign_26 zc_4 rfl cw_X4_246 wi_X4_placeAbove ws_X4_placeAbove rfl rfl (Nat.le_of_ble_eq_true rfl) (by decide) (by decide) ⟨by decide, by decide⟩ rfl (t_X4_placeAbove a0 0 h2) (fun v8 h7 => ?_)
          refine zg_aload_n 0 rfl d_X4_readSign_29 ?_
          refine zg_iconst 0 rfl d_X4_readSign_30 ?_
          refine zg_aload_n 0 rfl d_X4_readSign_31 ?_
          refine zg_getI d_X4_readSign_32 zc_4 (by decide) fl_X4_230 (fun v9 => ?_)
          refine zg_iconst 1 rfl d_X4_readSign_35 ?_
          refine zg_isub d_X4_readSign_36 ?_
          refine zg_mmax d_X4_readSign_37 ml_X4_273 (by decide) (Nat.le_of_ble_eq_true rfl) ⟨Nat.le_of_ble_eq_true rfl, Nat.le_of_ble_eq_true rfl⟩ ?_
          refine zg_putV d_X4_readSign_40 zc_4 (by decide) fl_X4_230 rfl rfl rfl (fun h10 => ?_)
          refine zg_aload_n 0 rfl d_X4_readSign_43 ?_
          refine zg_dup rfl d_X4_readSign_44 ?_
          refine zg_getI d_X4_readSign_45 zc_4 (by decide) fl_X4_233 (fun v11 => ?_)
          refine zg_iconst 1 rfl d_X4_readSign_48 ?_
          refine zg_isub d_X4_readSign_49 ?_
          refine zg_putV d_X4_readSign_50 zc_4 (by decide) fl_X4_233 rfl rfl rfl (fun h12 => ?_)
          refine zg_aload_n 0 rfl d_X4_readSign_53 ?_
          refine zg_cVv (b := a0) (As := []) (rest := []) (0, 0) d_X4_readSign_54 zc_4 rfl cw_X4_62 wi_X4_advance ws_X4_advance rfl rfl (Nat.le_of_ble_eq_true rfl) (by decide) (by decide) ⟨by decide, by decide⟩ rfl (t_X4_advance a0 h12) (fun v14 h13 => ?_)
          refine zg_iinc 1 (s1 + 1) [(1, .int (s1 + 1)), (0, .ref a0)] d_X4_readSign_57 rfl rfl (by decide) rfl ?_
          refine zg_goto d_X4_readSign_60 ?_
          exact zg_finK (E := 0) [1, 0] rfl rfl (fun q => q)
      · exact zg_finK (E := 0) [0, 1] rfl rfl (fun q => q)
  · refine zg_aload_n 0 rfl d_X4_readSign_63 ?_
    refine zg_getI d_X4_readSign_64 zc_4 (by decide) fl_X4_65 (fun v15 => ?_)
    refine zg_cSi (As := [.int v15]) (rest := []) (0, 0) d_X4_readSign_67 cw_X4_267 wt_X4_rankOf rfl rfl (Nat.le_of_ble_eq_true rfl) (by decide) (by decide) ⟨by decide, by decide⟩ rfl (t_X4_rankOf v15 h4) (fun v17 h16 => ?_)
    refine zg_istore_n [(1, .int v17), (0, .ref a0)] d_X4_readSign_70 rfl (by decide) rfl ?_
    refine zg_iload_n 0 rfl d_X4_readSign_71 ?_
    refine zg_bdr (E := 84) (el := (fun (e45 : Unit) => [(0, .ref a0), (1, .int v17)])) (es := (fun (e45 : Unit) => [])) ?_ (fun e45 h46 => ?_)
    · refine zg_if_eq d_X4_readSign_72 ?_ ?_
      · exact zg_finK (E := 0) [1, 0] rfl rfl (fun q => q)
      · refine zg_aload_n 1 rfl d_X4_readSign_75 ?_
        refine zg_getI d_X4_readSign_76 zc_4 (by decide) fl_X4_65 (fun v18 => ?_)
        refine zg_bipush 15 rfl d_X4_readSign_79 ?_
        refine zg_icmp_ne d_X4_readSign_81 ?_ ?_
        · exact zg_finK (E := 0) [1, 0] rfl rfl (fun q => q)
        · refine zg_aload_n 1 rfl d_X4_readSign_98 ?_
          refine zg_iload_n 0 rfl d_X4_readSign_99 ?_
          refine zg_iconst 4 rfl d_X4_readSign_100 ?_
          refine zg_bd (E := 111) (el := (fun (e19 : Int32) => [(0, .ref a0), (1, .int v17)])) (es := (fun (e19 : Int32) => [.int e19, .ref a0])) ?_ (fun e19 h20 => ?_)
          · refine zg_icmp_ne d_X4_readSign_101 ?_ ?_
            · refine zg_iconst 4 rfl d_X4_readSign_104 ?_
              refine zg_goto d_X4_readSign_105 ?_
              exact zg_finK (E := 0) [1, 0] rfl rfl (fun q => q)
            · refine zg_iload_n 0 rfl d_X4_readSign_108 ?_
              refine zg_iconst 1 rfl d_X4_readSign_109 ?_
              refine zg_isub d_X4_readSign_110 ?_
              exact zg_finK (E := 0) [1, 0] rfl rfl (fun q => q)
          · refine zg_cVv (b := a0) (As := [.int e19]) (rest := []) (0, 0) d_X4_readSign_111 zc_4 rfl cw_X4_246 wi_X4_placeAbove ws_X4_placeAbove rfl rfl (Nat.le_of_ble_eq_true rfl) (by decide) (by decide) ⟨by decide, by decide⟩ rfl (t_X4_placeAbove a0 e19 h20) (fun v22 h21 => ?_)
            refine zg_iload_n 1 rfl d_X4_readSign_114 ?_
            refine zg_iconst 4 rfl d_X4_readSign_115 ?_
            refine zg_bd (E := 156) (el := (fun (e37 : Unit) => [(0, .ref a0), (1, .int v17)])) (es := (fun (e37 : Unit) => [])) ?_ (fun e37 h38 => ?_)
            · refine zg_icmp_ne d_X4_readSign_116 ?_ ?_
              · refine zg_aload_n 0 rfl d_X4_readSign_119 ?_
                refine zg_getI d_X4_readSign_120 zc_4 (by decide) fl_X4_230 (fun v23 => ?_)
                refine zg_bdr (E := 152) (el := (fun (e31 : Unit) => [(0, .ref a0), (1, .int v17)])) (es := (fun (e31 : Unit) => [])) ?_ (fun e31 h32 => ?_)
                · refine zg_if_le d_X4_readSign_123 ?_ ?_
                  · exact zg_finK (E := 0) [0, 1] rfl rfl (fun q => q)
                  · refine zg_aload_n 0 rfl d_X4_readSign_126 ?_
                    refine zg_getR d_X4_readSign_127 zc_4 (by decide) fl_X4_26 (fun v24 => ?_)
                    refine zg_aload_n 0 rfl d_X4_readSign_130 ?_
                    refine zg_getI d_X4_readSign_131 zc_4 (by decide) fl_X4_230 (fun v25 => ?_)
                    refine zg_iconst 1 rfl d_X4_readSign_134 ?_
                    refine zg_isub d_X4_readSign_135 ?_
                    refine zg_ald0 d_X4_readSign_136 (fun v26 => ?_)
                    refine zg_cSi (As := [.int v26]) (rest := []) (0, 0) d_X4_readSign_137 cw_X4_267 wt_X4_rankOf rfl rfl (Nat.le_of_ble_eq_true rfl) (by decide) (by decide) ⟨by decide, by decide⟩ rfl (t_X4_rankOf v26 h21) (fun v28 h27 => ?_)
                    refine zg_iconst 4 rfl d_X4_readSign_140 ?_
                    refine zg_icmp_ne d_X4_readSign_141 ?_ ?_
                    · refine zg_aload_n 0 rfl d_X4_readSign_144 ?_
                      refine zg_iconst 1 rfl d_X4_readSign_145 ?_
                      refine zg_cVv (b := a0) (As := [.int 1]) (rest := []) (0, 0) d_X4_readSign_146 zc_4 rfl cw_X4_82 wi_X4_fail ws_X4_fail rfl rfl (Nat.le_of_ble_eq_true rfl) (by decide) (by decide) ⟨by decide, by decide⟩ rfl (t_X4_fail a0 1 h27) (fun v30 h29 => ?_)
                      refine zg_goto d_X4_readSign_149 ?_
                      exact zg_finK (E := 0) [0, 1] rfl rfl (fun q => q)
                    · exact zg_finK (E := 0) [0, 1] rfl rfl (fun q => q)
                · refine zg_aload_n 0 rfl d_X4_readSign_152 ?_
                  refine zg_cVv (b := a0) (As := []) (rest := []) (0, 0) d_X4_readSign_153 zc_4 rfl cw_X4_261 wi_X4_countKnot ws_X4_countKnot rfl rfl (Nat.le_of_ble_eq_true rfl) (by decide) (by decide) ⟨by decide, by decide⟩ rfl (t_X4_countKnot a0 h32) (fun v34 h33 => ?_)
                  exact zg_finK (E := 0) [0, 1] rfl rfl (fun q => q)
              · refine zg_aload_n 0 rfl d_X4_readSign_152 ?_
                refine zg_cVv (b := a0) (As := []) (rest := []) (0, 0) d_X4_readSign_153 zc_4 rfl cw_X4_261 wi_X4_countKnot ws_X4_countKnot rfl rfl (Nat.le_of_ble_eq_true rfl) (by decide) (by decide) ⟨by decide, by decide⟩ rfl (t_X4_countKnot a0 h21) (fun v36 h35 => ?_)
                exact zg_finK (E := 0) [0, 1] rfl rfl (fun q => q)
            · refine zg_aload_n 0 rfl d_X4_readSign_156 ?_
              refine zg_aload_n 0 rfl d_X4_readSign_157 ?_
              refine zg_getI d_X4_readSign_158 zc_4 (by decide) fl_X4_65 (fun v39 => ?_)
              refine zg_cVv (b := a0) (As := [.int v39]) (rest := []) (0, 0) d_X4_readSign_161 zc_4 rfl cw_X4_264 wi_X4_letWait ws_X4_letWait rfl rfl (Nat.le_of_ble_eq_true rfl) (by decide) (by decide) ⟨by decide, by decide⟩ rfl (t_X4_letWait a0 v39 h38) (fun v41 h40 => ?_)
              refine zg_aload_n 0 rfl d_X4_readSign_164 ?_
              refine zg_cVv (b := a0) (As := []) (rest := []) (0, 0) d_X4_readSign_165 zc_4 rfl cw_X4_62 wi_X4_advance ws_X4_advance rfl rfl (Nat.le_of_ble_eq_true rfl) (by decide) (by decide) ⟨by decide, by decide⟩ rfl (t_X4_advance a0 h40) (fun v43 h42 => ?_)
              refine zg_aload_n 0 rfl d_X4_readSign_168 ?_
              refine zg_getI d_X4_readSign_169 zc_4 (by decide) fl_X4_29 (fun v44 => ?_)
              refine zg_if_ne d_X4_readSign_172 ?_ ?_
              · refine zg_iconst 1 rfl d_X4_readSign_175 ?_
                refine zg_goto d_X4_readSign_176 ?_
                exact zg_zretK d_X4_readSign_180 rfl ⟨Nat.le_of_ble_eq_true rfl, Nat.le_of_ble_eq_true rfl⟩ (Or.inr rfl) (fun q => q)
              · refine zg_iconst 0 rfl d_X4_readSign_179 ?_
                exact zg_zretK d_X4_readSign_180 rfl ⟨Nat.le_of_ble_eq_true rfl, Nat.le_of_ble_eq_true rfl⟩ (Or.inl rfl) (fun q => q)
    · refine zg_aload_n 0 rfl d_X4_readSign_84 ?_
      refine zg_getI d_X4_readSign_85 zc_4 (by decide) fl_X4_233 (fun v47 => ?_)
      refine zg_if_le d_X4_readSign_88 ?_ ?_
      · refine zg_iconst 0 rfl d_X4_readSign_96 ?_
        exact zg_zretK d_X4_readSign_97 rfl ⟨Nat.le_of_ble_eq_true rfl, Nat.le_of_ble_eq_true rfl⟩ (Or.inl rfl) (fun q => q)
      · refine zg_aload_n 0 rfl d_X4_readSign_91 ?_
        refine zg_iconst 1 rfl d_X4_readSign_92 ?_
        refine zg_cVv (b := a0) (As := [.int 1]) (rest := []) (0, 0) d_X4_readSign_93 zc_4 rfl cw_X4_82 wi_X4_fail ws_X4_fail rfl rfl (Nat.le_of_ble_eq_true rfl) (by decide) (by decide) ⟨by decide, by decide⟩ rfl (t_X4_fail a0 1 h46) (fun v49 h48 => ?_)
        refine zg_iconst 0 rfl d_X4_readSign_96 ?_
        exact zg_zretK d_X4_readSign_97 rfl ⟨Nat.le_of_ble_eq_true rfl, Nat.le_of_ble_eq_true rfl⟩ (Or.inl rfl) (fun q => q)
abbrev M_X4_readLaw : zMt := (RX4, cX4_readLaw, 4, 5, 146, none, "readLaw", 0, 0)
theorem d_X4_readLaw_0 : zDc M_X4_readLaw 0 (.aload_n 0) 1 1 := ⟨by decide +kernel, rfl⟩
theorem d_X4_readLaw_1 : zDc M_X4_readLaw 1 (.invokevirtual 62) 3 4 := ⟨by decide +kernel, rfl⟩
theorem d_X4_readLaw_4 : zDc M_X4_readLaw 4 (.aload_n 0) 1 5 := ⟨by decide +kernel, rfl⟩
theorem d_X4_readLaw_5 : zDc M_X4_readLaw 5 (.getfield 65) 3 8 := ⟨by decide +kernel, rfl⟩
theorem d_X4_readLaw_8 : zDc M_X4_readLaw 8 (.bipush 10) 2 10 := ⟨by decide +kernel, rfl⟩
theorem d_X4_readLaw_10 : zDj M_X4_readLaw 10 (.if_icmp .lt 12) 12 13 22 := ⟨by decide +kernel, rfl, by decide⟩
theorem d_X4_readLaw_13 : zDc M_X4_readLaw 13 (.aload_n 0) 1 14 := ⟨by decide +kernel, rfl⟩
theorem d_X4_readLaw_14 : zDc M_X4_readLaw 14 (.getfield 65) 3 17 := ⟨by decide +kernel, rfl⟩
theorem d_X4_readLaw_17 : zDc M_X4_readLaw 17 (.bipush 12) 2 19 := ⟨by decide +kernel, rfl⟩
theorem d_X4_readLaw_19 : zDj M_X4_readLaw 19 (.if_icmp .le 9) 9 22 28 := ⟨by decide +kernel, rfl, by decide⟩
theorem d_X4_readLaw_22 : zDc M_X4_readLaw 22 (.aload_n 0) 1 23 := ⟨by decide +kernel, rfl⟩
theorem d_X4_readLaw_23 : zDc M_X4_readLaw 23 (.iconst 1) 1 24 := ⟨by decide +kernel, rfl⟩
theorem d_X4_readLaw_24 : zDc M_X4_readLaw 24 (.invokevirtual 82) 3 27 := ⟨by decide +kernel, rfl⟩
theorem d_X4_readLaw_27 : zDc M_X4_readLaw 27 (.return_) 1 28 := ⟨by decide +kernel, rfl⟩
theorem d_X4_readLaw_28 : zDc M_X4_readLaw 28 (.aload_n 0) 1 29 := ⟨by decide +kernel, rfl⟩
theorem d_X4_readLaw_29 : zDc M_X4_readLaw 29 (.getfield 65) 3 32 := ⟨by decide +kernel, rfl⟩
theorem d_X4_readLaw_32 : zDc M_X4_readLaw 32 (.bipush 10) 2 34 := ⟨by decide +kernel, rfl⟩
theorem d_X4_readLaw_34 : zDc M_X4_readLaw 34 (.isub) 1 35 := ⟨by decide +kernel, rfl⟩
theorem d_X4_readLaw_35 : zDc M_X4_readLaw 35 (.istore_n 1) 1 36 := ⟨by decide +kernel, rfl⟩
theorem d_X4_readLaw_36 : zDc M_X4_readLaw 36 (.aload_n 0) 1 37 := ⟨by decide +kernel, rfl⟩
theorem d_X4_readLaw_37 : zDc M_X4_readLaw 37 (.getfield 22) 3 40 := ⟨by decide +kernel, rfl⟩
theorem d_X4_readLaw_40 : zDc M_X4_readLaw 40 (.getfield 218) 3 43 := ⟨by decide +kernel, rfl⟩
theorem d_X4_readLaw_43 : zDc M_X4_readLaw 43 (.iload_n 1) 1 44 := ⟨by decide +kernel, rfl⟩
theorem d_X4_readLaw_44 : zDc M_X4_readLaw 44 (.invokevirtual 222) 3 47 := ⟨by decide +kernel, rfl⟩
theorem d_X4_readLaw_47 : zDj M_X4_readLaw 47 (.ifCond .eq 8) 8 50 55 := ⟨by decide +kernel, rfl, by decide⟩
theorem d_X4_readLaw_50 : zDc M_X4_readLaw 50 (.aload_n 0) 1 51 := ⟨by decide +kernel, rfl⟩
theorem d_X4_readLaw_51 : zDc M_X4_readLaw 51 (.iconst 3) 1 52 := ⟨by decide +kernel, rfl⟩
theorem d_X4_readLaw_52 : zDc M_X4_readLaw 52 (.invokevirtual 82) 3 55 := ⟨by decide +kernel, rfl⟩
theorem d_X4_readLaw_55 : zDc M_X4_readLaw 55 (.aload_n 0) 1 56 := ⟨by decide +kernel, rfl⟩
theorem d_X4_readLaw_56 : zDc M_X4_readLaw 56 (.invokevirtual 62) 3 59 := ⟨by decide +kernel, rfl⟩
theorem d_X4_readLaw_59 : zDc M_X4_readLaw 59 (.aload_n 0) 1 60 := ⟨by decide +kernel, rfl⟩
theorem d_X4_readLaw_60 : zDc M_X4_readLaw 60 (.getfield 22) 3 63 := ⟨by decide +kernel, rfl⟩
theorem d_X4_readLaw_63 : zDc M_X4_readLaw 63 (.getfield 218) 3 66 := ⟨by decide +kernel, rfl⟩
theorem d_X4_readLaw_66 : zDc M_X4_readLaw 66 (.iload_n 1) 1 67 := ⟨by decide +kernel, rfl⟩
theorem d_X4_readLaw_67 : zDc M_X4_readLaw 67 (.invokevirtual 227) 3 70 := ⟨by decide +kernel, rfl⟩
theorem d_X4_readLaw_70 : zDc M_X4_readLaw 70 (.aload_n 0) 1 71 := ⟨by decide +kernel, rfl⟩
theorem d_X4_readLaw_71 : zDc M_X4_readLaw 71 (.iconst 0) 1 72 := ⟨by decide +kernel, rfl⟩
theorem d_X4_readLaw_72 : zDc M_X4_readLaw 72 (.putfield 230) 3 75 := ⟨by decide +kernel, rfl⟩
theorem d_X4_readLaw_75 : zDc M_X4_readLaw 75 (.aload_n 0) 1 76 := ⟨by decide +kernel, rfl⟩
theorem d_X4_readLaw_76 : zDc M_X4_readLaw 76 (.iconst 0) 1 77 := ⟨by decide +kernel, rfl⟩
theorem d_X4_readLaw_77 : zDc M_X4_readLaw 77 (.putfield 233) 3 80 := ⟨by decide +kernel, rfl⟩
theorem d_X4_readLaw_80 : zDc M_X4_readLaw 80 (.iconst 1) 1 81 := ⟨by decide +kernel, rfl⟩
theorem d_X4_readLaw_81 : zDc M_X4_readLaw 81 (.istore_n 2) 1 82 := ⟨by decide +kernel, rfl⟩
theorem d_X4_readLaw_82 : zDc M_X4_readLaw 82 (.iconst 0) 1 83 := ⟨by decide +kernel, rfl⟩
theorem d_X4_readLaw_83 : zDc M_X4_readLaw 83 (.istore_n 3) 1 84 := ⟨by decide +kernel, rfl⟩
theorem d_X4_readLaw_84 : zDc M_X4_readLaw 84 (.iload_n 3) 1 85 := ⟨by decide +kernel, rfl⟩
theorem d_X4_readLaw_85 : zDc M_X4_readLaw 85 (.bipush 64) 2 87 := ⟨by decide +kernel, rfl⟩
theorem d_X4_readLaw_87 : zDj M_X4_readLaw 87 (.if_icmp .gt 26) 26 90 113 := ⟨by decide +kernel, rfl, by decide⟩
theorem d_X4_readLaw_90 : zDc M_X4_readLaw 90 (.iload_n 2) 1 91 := ⟨by decide +kernel, rfl⟩
theorem d_X4_readLaw_91 : zDj M_X4_readLaw 91 (.ifCond .eq 22) 22 94 113 := ⟨by decide +kernel, rfl, by decide⟩
theorem d_X4_readLaw_94 : zDc M_X4_readLaw 94 (.aload_n 0) 1 95 := ⟨by decide +kernel, rfl⟩
theorem d_X4_readLaw_95 : zDc M_X4_readLaw 95 (.invokevirtual 236) 3 98 := ⟨by decide +kernel, rfl⟩
theorem d_X4_readLaw_98 : zDc M_X4_readLaw 98 (.aload_n 0) 1 99 := ⟨by decide +kernel, rfl⟩
theorem d_X4_readLaw_99 : zDc M_X4_readLaw 99 (.invokevirtual 239) 3 102 := ⟨by decide +kernel, rfl⟩
theorem d_X4_readLaw_102 : zDc M_X4_readLaw 102 (.aload_n 0) 1 103 := ⟨by decide +kernel, rfl⟩
theorem d_X4_readLaw_103 : zDc M_X4_readLaw 103 (.invokevirtual 242) 3 106 := ⟨by decide +kernel, rfl⟩
theorem d_X4_readLaw_106 : zDc M_X4_readLaw 106 (.istore_n 2) 1 107 := ⟨by decide +kernel, rfl⟩
theorem d_X4_readLaw_107 : zDc M_X4_readLaw 107 (.iinc 3 1) 3 110 := ⟨by decide +kernel, rfl⟩
theorem d_X4_readLaw_110 : zDj M_X4_readLaw 110 (.goto (-26)) (-26) 113 84 := ⟨by decide +kernel, rfl, by decide⟩
theorem d_X4_readLaw_113 : zDc M_X4_readLaw 113 (.aload_n 0) 1 114 := ⟨by decide +kernel, rfl⟩
theorem d_X4_readLaw_114 : zDc M_X4_readLaw 114 (.iconst 0) 1 115 := ⟨by decide +kernel, rfl⟩
theorem d_X4_readLaw_115 : zDc M_X4_readLaw 115 (.invokevirtual 246) 3 118 := ⟨by decide +kernel, rfl⟩
theorem d_X4_readLaw_118 : zDc M_X4_readLaw 118 (.aload_n 0) 1 119 := ⟨by decide +kernel, rfl⟩
theorem d_X4_readLaw_119 : zDc M_X4_readLaw 119 (.getfield 22) 3 122 := ⟨by decide +kernel, rfl⟩
theorem d_X4_readLaw_122 : zDc M_X4_readLaw 122 (.getfield 218) 3 125 := ⟨by decide +kernel, rfl⟩
theorem d_X4_readLaw_125 : zDc M_X4_readLaw 125 (.iload_n 1) 1 126 := ⟨by decide +kernel, rfl⟩
theorem d_X4_readLaw_126 : zDc M_X4_readLaw 126 (.invokevirtual 249) 3 129 := ⟨by decide +kernel, rfl⟩
theorem d_X4_readLaw_129 : zDc M_X4_readLaw 129 (.return_) 1 130 := ⟨by decide +kernel, rfl⟩
def f_X4_readLaw (a0 : Nat) (h0 : zHp) : Option (Unit × zHp) :=
  zbd (zcv 4 a0 h0 (f_X4_advance a0 h0)) (fun v2 h1 =>
  zob (zgI h1 a0 4 4) (fun v3 =>
  zbd (α := (Unit ⊕ Unit)) (
  if v3 < 10 then
  some ((.inl ()), h1)
  else
  zob (zgI h1 a0 4 4) (fun v4 =>
  if v4 ≤ 12 then
  zob (zgI h1 a0 4 4) (fun v5 =>
  zob (zgR h1 a0 4 10) (fun v6 =>
  zob (zgR h1 v6 6 12) (fun v7 =>
  zbd (zcv 2 v7 h1 (f_X2_isTold v7 (v5 - 10) h1)) (fun v9 h8 =>
  zbd (α := Unit) (
  if v9 = 0 then
  some ((), h8)
  else
  zbd (zcv 4 a0 h8 (f_X4_fail a0 3 h8)) (fun v11 h10 =>
  some ((), h10))) (fun e12 h13 =>
  zbd (zcv 4 a0 h13 (f_X4_advance a0 h13)) (fun v15 h14 =>
  zob (zgR h14 a0 4 10) (fun v16 =>
  zob (zgR h14 v16 6 12) (fun v17 =>
  zbd (zcv 2 v17 h14 (f_X2_open v17 (v5 - 10) h14)) (fun v19 h18 =>
  zob (zpV h18 a0 4 12 (.int 0)) (fun h20 =>
  zob (zpV h20 a0 4 13 (.int 0)) (fun h21 =>
  zbd (
  zlp (σ := (Int32 × Int32)) (β := (Int32 × Int32)) zLF (fun s22 h23 =>
  if 64 < s22.2 then
  some ((.inr (s22.1, s22.2)), h23)
  else
  if s22.1 = 0 then
  some ((.inr (s22.1, s22.2)), h23)
  else
  zbd (zcv 4 a0 h23 (f_X4_readAheadOfPart a0 h23)) (fun v27 h26 =>
  zbd (zcv 4 a0 h26 (f_X4_readPart a0 h26)) (fun v29 h28 =>
  zbd (zcv 4 a0 h28 (f_X4_readSign a0 h28)) (fun v31 h30 =>
  some ((.inl (v31, (s22.2 + 1))), h30))))) (1, 0) h21) (fun e24 h25 =>
  zbd (zcv 4 a0 h25 (f_X4_placeAbove a0 0 h25)) (fun v33 h32 =>
  zob (zgR h32 a0 4 10) (fun v34 =>
  zob (zgR h32 v34 6 12) (fun v35 =>
  zbd (zcv 2 v35 h32 (f_X2_close v35 (v5 - 10) h32)) (fun v37 h36 =>
  some ((.inr ()), h36)))))))))))))))))
  else
  some ((.inl ()), h1))) (fun b42 h39 => zsl b42 (fun e38 =>
  zbd (zcv 4 a0 h39 (f_X4_fail a0 1 h39)) (fun v41 h40 =>
  some ((), h40))) (fun r => some (r, h39)))))
set_option maxRecDepth 100000 in
set_option maxHeartbeats 4000000 in
theorem t_X4_readLaw (a0 : Nat) (h0 : zHp) : ∀ (r : Unit) (h' : zHp), f_X4_readLaw a0 h0 = some (r, h') → zCt yX4_readLaw (.code yX4_readLaw cX4_readLaw 4 none) 5 146 0 0 [.ref a0] h0 (none) h' := by
  refine zct_of M_X4_readLaw yX4_readLaw (by decide) rfl rfl [.ref a0] h0 (Nat.le_of_ble_eq_true rfl) (fun _ => none) (fun X => ?_)
  show zG X M_X4_readLaw (0, 0) 0 [(0, .ref a0)] [] h0 (f_X4_readLaw a0 h0) (fun (_ : Unit) h' => zKe X (none) h')
  unfold f_X4_readLaw
  refine zg_aload_n 0 rfl d_X4_readLaw_0 ?_
  refine zg_cVv (b := a0) (As := []) (rest := []) (0, 0) d_X4_readLaw_1 zc_4 rfl cw_X4_62 wi_X4_advance ws_X4_advance rfl rfl (Nat.le_of_ble_eq_true rfl) (by decide) (by decide) ⟨by decide, by decide⟩ rfl (t_X4_advance a0 h0) (fun v2 h1 => ?_)
  refine zg_aload_n 0 rfl d_X4_readLaw_4 ?_
  refine zg_getI d_X4_readLaw_5 zc_4 (by decide) fl_X4_65 (fun v3 => ?_)
  refine zg_bipush 10 rfl d_X4_readLaw_8 ?_
  refine zg_bdr (E := 22) (el := (fun (e38 : Unit) => [(0, .ref a0)])) (es := (fun (e38 : Unit) => [])) ?_ (fun e38 h39 => ?_)
  · refine zg_icmp_lt d_X4_readLaw_10 ?_ ?_
    · exact zg_finK (E := 0) [0] rfl rfl (fun q => q)
    · refine zg_aload_n 0 rfl d_X4_readLaw_13 ?_
      refine zg_getI d_X4_readLaw_14 zc_4 (by decide) fl_X4_65 (fun v4 => ?_)
      refine zg_bipush 12 rfl d_X4_readLaw_17 ?_
      refine zg_icmp_le d_X4_readLaw_19 ?_ ?_
      · refine zg_aload_n 0 rfl d_X4_readLaw_28 ?_
        refine zg_getI d_X4_readLaw_29 zc_4 (by decide) fl_X4_65 (fun v5 => ?_)
        refine zg_bipush 10 rfl d_X4_readLaw_32 ?_
        refine zg_isub d_X4_readLaw_34 ?_
        refine zg_istore_n [(1, .int (v5 - 10)), (0, .ref a0)] d_X4_readLaw_35 rfl (by decide) rfl ?_
        refine zg_aload_n 1 rfl d_X4_readLaw_36 ?_
        refine zg_getR d_X4_readLaw_37 zc_4 (by decide) fl_X4_22 (fun v6 => ?_)
        refine zg_getR d_X4_readLaw_40 zc_6 (by decide) fl_X4_218 (fun v7 => ?_)
        refine zg_iload_n 0 rfl d_X4_readLaw_43 ?_
        refine zg_cVi (b := v7) (As := [.int (v5 - 10)]) (rest := []) (0, 0) d_X4_readLaw_44 zc_2 rfl cw_X4_222 wi_X2_isTold ws_X2_isTold rfl rfl (Nat.le_of_ble_eq_true rfl) (by decide) (by decide) ⟨by decide, by decide⟩ rfl (t_X2_isTold v7 (v5 - 10) h1) (fun v9 h8 => ?_)
        refine zg_bd (E := 55) (el := (fun (e12 : Unit) => [(0, .ref a0), (1, .int (v5 - 10))])) (es := (fun (e12 : Unit) => [])) ?_ (fun e12 h13 => ?_)
        · refine zg_if_eq d_X4_readLaw_47 ?_ ?_
          · exact zg_finK (E := 0) [1, 0] rfl rfl (fun q => q)
          · refine zg_aload_n 1 rfl d_X4_readLaw_50 ?_
            refine zg_iconst 3 rfl d_X4_readLaw_51 ?_
            refine zg_cVv (b := a0) (As := [.int 3]) (rest := []) (0, 0) d_X4_readLaw_52 zc_4 rfl cw_X4_82 wi_X4_fail ws_X4_fail rfl rfl (Nat.le_of_ble_eq_true rfl) (by decide) (by decide) ⟨by decide, by decide⟩ rfl (t_X4_fail a0 3 h8) (fun v11 h10 => ?_)
            exact zg_finK (E := 0) [1, 0] rfl rfl (fun q => q)
        · refine zg_aload_n 0 rfl d_X4_readLaw_55 ?_
          refine zg_cVv (b := a0) (As := []) (rest := []) (0, 0) d_X4_readLaw_56 zc_4 rfl cw_X4_62 wi_X4_advance ws_X4_advance rfl rfl (Nat.le_of_ble_eq_true rfl) (by decide) (by decide) ⟨by decide, by decide⟩ rfl (t_X4_advance a0 h13) (fun v15 h14 => ?_)
          refine zg_aload_n 0 rfl d_X4_readLaw_59 ?_
          refine zg_getR d_X4_readLaw_60 zc_4 (by decide) fl_X4_22 (fun v16 => ?_)
          refine zg_getR d_X4_readLaw_63 zc_6 (by decide) fl_X4_218 (fun v17 => ?_)
          refine zg_iload_n 1 rfl d_X4_readLaw_66 ?_
          refine zg_cVv (b := v17) (As := [.int (v5 - 10)]) (rest := []) (0, 0) d_X4_readLaw_67 zc_2 rfl cw_X4_227 wi_X2_open ws_X2_open rfl rfl (Nat.le_of_ble_eq_true rfl) (by decide) (by decide) ⟨by decide, by decide⟩ rfl (t_X2_open v17 (v5 - 10) h14) (fun v19 h18 => ?_)
          refine zg_aload_n 0 rfl d_X4_readLaw_70 ?_
          refine zg_iconst 0 rfl d_X4_readLaw_71 ?_
          refine zg_putV d_X4_readLaw_72 zc_4 (by decide) fl_X4_230 rfl rfl rfl (fun h20 => ?_)
          refine zg_aload_n 0 rfl d_X4_readLaw_75 ?_
          refine zg_iconst 0 rfl d_X4_readLaw_76 ?_
          refine zg_putV d_X4_readLaw_77 zc_4 (by decide) fl_X4_233 rfl rfl rfl (fun h21 => ?_)
          refine zg_iconst 1 rfl d_X4_readLaw_80 ?_
          refine zg_istore_n [(2, .int 1), (0, .ref a0), (1, .int (v5 - 10))] d_X4_readLaw_81 rfl (by decide) rfl ?_
          refine zg_iconst 0 rfl d_X4_readLaw_82 ?_
          refine zg_istore_n [(3, .int 0), (2, .int 1), (0, .ref a0), (1, .int (v5 - 10))] d_X4_readLaw_83 rfl (by decide) rfl ?_
          refine zg_bd (E := 113) (el := (fun (e24 : (Int32 × Int32)) => [(0, .ref a0), (1, .int (v5 - 10)), (2, .int e24.1), (3, .int e24.2)])) (es := fun _ => []) (zg_sub [2, 3, 1, 0] rfl (zg_lp (el := (fun (s22 : (Int32 × Int32)) => [(0, .ref a0), (1, .int (v5 - 10)), (2, .int s22.1), (3, .int s22.2)])) (fun s22 h23 => ?_) (1, 0) h21)) (fun e24 h25 => ?_)
          · refine zg_iload_n 3 rfl d_X4_readLaw_84 ?_
            refine zg_bipush 64 rfl d_X4_readLaw_85 ?_
            refine zg_icmp_gt d_X4_readLaw_87 ?_ ?_
            · exact zg_finK (E := 0) [0, 1, 2, 3] rfl rfl (fun q => q)
            · refine zg_iload_n 2 rfl d_X4_readLaw_90 ?_
              refine zg_if_eq d_X4_readLaw_91 ?_ ?_
              · exact zg_finK (E := 0) [0, 1, 2, 3] rfl rfl (fun q => q)
              · refine zg_aload_n 0 rfl d_X4_readLaw_94 ?_
                refine zg_cVv (b := a0) (As := []) (rest := []) (0, 0) d_X4_readLaw_95 zc_4 rfl cw_X4_236 wi_X4_readAheadOfPart ws_X4_readAheadOfPart rfl rfl (Nat.le_of_ble_eq_true rfl) (by decide) (by decide) ⟨by decide, by decide⟩ rfl (t_X4_readAheadOfPart a0 h23) (fun v27 h26 => ?_)
                refine zg_aload_n 0 rfl d_X4_readLaw_98 ?_
                refine zg_cVv (b := a0) (As := []) (rest := []) (0, 0) d_X4_readLaw_99 zc_4 rfl cw_X4_239 wi_X4_readPart ws_X4_readPart rfl rfl (Nat.le_of_ble_eq_true rfl) (by decide) (by decide) ⟨by decide, by decide⟩ rfl (t_X4_readPart a0 h26) (fun v29 h28 => ?_)
                refine zg_aload_n 0 rfl d_X4_readLaw_102 ?_
                refine zg_cVi (b := a0) (As := []) (rest := []) (0, 0) d_X4_readLaw_103 zc_4 rfl cw_X4_242 wi_X4_readSign ws_X4_readSign rfl rfl (Nat.le_of_ble_eq_true rfl) (by decide) (by decide) ⟨by decide, by decide⟩ rfl (t_X4_readSign a0 h28) (fun v31 h30 => ?_)
                refine zg_istore_n [(2, .int v31), (0, .ref a0), (1, .int (v5 - 10)), (3, .int s22.2)] d_X4_readLaw_106 rfl (by decide) rfl ?_
                refine zg_iinc 3 (s22.2 + 1) [(3, .int (s22.2 + 1)), (2, .int v31), (0, .ref a0), (1, .int (v5 - 10))] d_X4_readLaw_107 rfl rfl (by decide) rfl ?_
                refine zg_goto d_X4_readLaw_110 ?_
                exact zg_finK (E := 0) [2, 3, 1, 0] rfl rfl (fun q => q)
          · refine zg_aload_n 0 rfl d_X4_readLaw_113 ?_
            refine zg_iconst 0 rfl d_X4_readLaw_114 ?_
            refine zg_cVv (b := a0) (As := [.int 0]) (rest := []) (0, 0) d_X4_readLaw_115 zc_4 rfl cw_X4_246 wi_X4_placeAbove ws_X4_placeAbove rfl rfl (Nat.le_of_ble_eq_true rfl) (by decide) (by decide) ⟨by decide, by decide⟩ rfl (t_X4_placeAbove a0 0 h25) (fun v33 h32 => ?_)
            refine zg_aload_n 0 rfl d_X4_readLaw_118 ?_
            refine zg_getR d_X4_readLaw_119 zc_4 (by decide) fl_X4_22 (fun v34 => ?_)
            refine zg_getR d_X4_readLaw_122 zc_6 (by decide) fl_X4_218 (fun v35 => ?_)
            refine zg_iload_n 1 rfl d_X4_readLaw_125 ?_
            refine zg_cVv (b := v35) (As := [.int (v5 - 10)]) (rest := []) (0, 0) d_X4_readLaw_126 zc_2 rfl cw_X4_249 wi_X2_close ws_X2_close rfl rfl (Nat.le_of_ble_eq_true rfl) (by decide) (by decide) ⟨by decide, by decide⟩ rfl (t_X2_close v35 (v5 - 10) h32) (fun v37 h36 => ?_)
            exact zg_vretK d_X4_readLaw_129 rfl ⟨Nat.le_of_ble_eq_true rfl, Nat.le_of_ble_eq_true rfl⟩ (fun q => q)
      · exact zg_finK (E := 0) [0] rfl rfl (fun q => q)
  · refine zg_aload_n 0 rfl d_X4_readLaw_22 ?_
    refine zg_iconst 1 rfl d_X4_readLaw_23 ?_
    refine zg_cVv (b := a0) (As := [.int 1]) (rest := []) (0, 0) d_X4_readLaw_24 zc_4 rfl cw_X4_82 wi_X4_fail ws_X4_fail rfl rfl (Nat.le_of_ble_eq_true rfl) (by decide) (by decide) ⟨by decide, by decide⟩ rfl (t_X4_fail a0 1 h39) (fun v41 h40 => ?_)
    exact zg_vretK d_X4_readLaw_27 rfl ⟨Nat.le_of_ble_eq_true rfl, Nat.le_of_ble_eq_true rfl⟩ (fun q => q)
abbrev M_X4_readOnceWord : zMt := (RX4, cX4_readOnceWord, 2, 3, 103, none, "readOnceWord", 0, 0)
theorem d_X4_readOnceWord_0 : zDc M_X4_readOnceWord 0 (.iconst 1) 1 1 := ⟨by decide +kernel, rfl⟩
theorem d_X4_readOnceWord_1 : zDc M_X4_readOnceWord 1 (.aload_n 0) 1 2 := ⟨by decide +kernel, rfl⟩
theorem d_X4_readOnceWord_2 : zDc M_X4_readOnceWord 2 (.getfield 65) 3 5 := ⟨by decide +kernel, rfl⟩
theorem d_X4_readOnceWord_5 : zDc M_X4_readOnceWord 5 (.ishl) 1 6 := ⟨by decide +kernel, rfl⟩
theorem d_X4_readOnceWord_6 : zDc M_X4_readOnceWord 6 (.istore_n 1) 1 7 := ⟨by decide +kernel, rfl⟩
theorem d_X4_readOnceWord_7 : zDc M_X4_readOnceWord 7 (.aload_n 0) 1 8 := ⟨by decide +kernel, rfl⟩
theorem d_X4_readOnceWord_8 : zDc M_X4_readOnceWord 8 (.getfield 59) 3 11 := ⟨by decide +kernel, rfl⟩
theorem d_X4_readOnceWord_11 : zDc M_X4_readOnceWord 11 (.iload_n 1) 1 12 := ⟨by decide +kernel, rfl⟩
theorem d_X4_readOnceWord_12 : zDc M_X4_readOnceWord 12 (.iand) 1 13 := ⟨by decide +kernel, rfl⟩
theorem d_X4_readOnceWord_13 : zDj M_X4_readOnceWord 13 (.ifCond .eq 8) 8 16 21 := ⟨by decide +kernel, rfl, by decide⟩
theorem d_X4_readOnceWord_16 : zDc M_X4_readOnceWord 16 (.aload_n 0) 1 17 := ⟨by decide +kernel, rfl⟩
theorem d_X4_readOnceWord_17 : zDc M_X4_readOnceWord 17 (.iconst 3) 1 18 := ⟨by decide +kernel, rfl⟩
theorem d_X4_readOnceWord_18 : zDc M_X4_readOnceWord 18 (.invokevirtual 82) 3 21 := ⟨by decide +kernel, rfl⟩
theorem d_X4_readOnceWord_21 : zDc M_X4_readOnceWord 21 (.aload_n 0) 1 22 := ⟨by decide +kernel, rfl⟩
theorem d_X4_readOnceWord_22 : zDc M_X4_readOnceWord 22 (.dup) 1 23 := ⟨by decide +kernel, rfl⟩
theorem d_X4_readOnceWord_23 : zDc M_X4_readOnceWord 23 (.getfield 59) 3 26 := ⟨by decide +kernel, rfl⟩
theorem d_X4_readOnceWord_26 : zDc M_X4_readOnceWord 26 (.iload_n 1) 1 27 := ⟨by decide +kernel, rfl⟩
theorem d_X4_readOnceWord_27 : zDc M_X4_readOnceWord 27 (.ior) 1 28 := ⟨by decide +kernel, rfl⟩
theorem d_X4_readOnceWord_28 : zDc M_X4_readOnceWord 28 (.putfield 59) 3 31 := ⟨by decide +kernel, rfl⟩
theorem d_X4_readOnceWord_31 : zDc M_X4_readOnceWord 31 (.aload_n 0) 1 32 := ⟨by decide +kernel, rfl⟩
theorem d_X4_readOnceWord_32 : zDc M_X4_readOnceWord 32 (.invokevirtual 62) 3 35 := ⟨by decide +kernel, rfl⟩
theorem d_X4_readOnceWord_35 : zDc M_X4_readOnceWord 35 (.return_) 1 36 := ⟨by decide +kernel, rfl⟩
def f_X4_readOnceWord (a0 : Nat) (h0 : zHp) : Option (Unit × zHp) :=
  zob (zgI h0 a0 4 4) (fun v1 =>
  zob (zgI h0 a0 4 9) (fun v2 =>
  zbd (α := Unit) (
  if (v2 &&& (1 <<< (v1 &&& 31))) = 0 then
  some ((), h0)
  else
  zbd (zcv 4 a0 h0 (f_X4_fail a0 3 h0)) (fun v4 h3 =>
  some ((), h3))) (fun e5 h6 =>
  zob (zgI h6 a0 4 9) (fun v7 =>
  zob (zpV h6 a0 4 9 (.int (v7 ||| (1 <<< (v1 &&& 31))))) (fun h8 =>
  zbd (zcv 4 a0 h8 (f_X4_advance a0 h8)) (fun v10 h9 =>
  some ((), h9)))))))
set_option maxRecDepth 100000 in
set_option maxHeartbeats 4000000 in
theorem t_X4_readOnceWord (a0 : Nat) (h0 : zHp) : ∀ (r : Unit) (h' : zHp), f_X4_readOnceWord a0 h0 = some (r, h') → zCt yX4_readOnceWord (.code yX4_readOnceWord cX4_readOnceWord 2 none) 3 103 0 0 [.ref a0] h0 (none) h' := by
  refine zct_of M_X4_readOnceWord yX4_readOnceWord (by decide) rfl rfl [.ref a0] h0 (Nat.le_of_ble_eq_true rfl) (fun _ => none) (fun X => ?_)
  show zG X M_X4_readOnceWord (0, 0) 0 [(0, .ref a0)] [] h0 (f_X4_readOnceWord a0 h0) (fun (_ : Unit) h' => zKe X (none) h')
  unfold f_X4_readOnceWord
  refine zg_iconst 1 rfl d_X4_readOnceWord_0 ?_
  refine zg_aload_n 0 rfl d_X4_readOnceWord_1 ?_
  refine zg_getI d_X4_readOnceWord_2 zc_4 (by decide) fl_X4_65 (fun v1 => ?_)
  refine zg_ishl d_X4_readOnceWord_5 ?_
  refine zg_istore_n [(1, .int (1 <<< (v1 &&& 31))), (0, .ref a0)] d_X4_readOnceWord_6 rfl (by decide) rfl ?_
  refine zg_aload_n 1 rfl d_X4_readOnceWord_7 ?_
  refine zg_getI d_X4_readOnceWord_8 zc_4 (by decide) fl_X4_59 (fun v2 => ?_)
  refine zg_iload_n 0 rfl d_X4_readOnceWord_11 ?_
  refine zg_iand d_X4_readOnceWord_12 ?_
  refine zg_bd (E := 21) (el := (fun (e5 : Unit) => [(0, .ref a0), (1, .int (1 <<< (v1 &&& 31)))])) (es := (fun (e5 : Unit) => [])) ?_ (fun e5 h6 => ?_)
  · refine zg_if_eq d_X4_readOnceWord_13 ?_ ?_
    · exact zg_finK (E := 0) [1, 0] rfl rfl (fun q => q)
    · refine zg_aload_n 1 rfl d_X4_readOnceWord_16 ?_
      refine zg_iconst 3 rfl d_X4_readOnceWord_17 ?_
      refine zg_cVv (b := a0) (As := [.int 3]) (rest := []) (0, 0) d_X4_readOnceWord_18 zc_4 rfl cw_X4_82 wi_X4_fail ws_X4_fail rfl rfl (Nat.le_of_ble_eq_true rfl) (by decide) (by decide) ⟨by decide, by decide⟩ rfl (t_X4_fail a0 3 h0) (fun v4 h3 => ?_)
      exact zg_finK (E := 0) [1, 0] rfl rfl (fun q => q)
  · refine zg_aload_n 0 rfl d_X4_readOnceWord_21 ?_
    refine zg_dup rfl d_X4_readOnceWord_22 ?_
    refine zg_getI d_X4_readOnceWord_23 zc_4 (by decide) fl_X4_59 (fun v7 => ?_)
    refine zg_iload_n 1 rfl d_X4_readOnceWord_26 ?_
    refine zg_ior d_X4_readOnceWord_27 ?_
    refine zg_putV d_X4_readOnceWord_28 zc_4 (by decide) fl_X4_59 rfl rfl rfl (fun h8 => ?_)
    refine zg_aload_n 0 rfl d_X4_readOnceWord_31 ?_
    refine zg_cVv (b := a0) (As := []) (rest := []) (0, 0) d_X4_readOnceWord_32 zc_4 rfl cw_X4_62 wi_X4_advance ws_X4_advance rfl rfl (Nat.le_of_ble_eq_true rfl) (by decide) (by decide) ⟨by decide, by decide⟩ rfl (t_X4_advance a0 h8) (fun v10 h9 => ?_)
    exact zg_vretK d_X4_readOnceWord_35 rfl ⟨Nat.le_of_ble_eq_true rfl, Nat.le_of_ble_eq_true rfl⟩ (fun q => q)
abbrev M_X4_readMost : zMt := (RX4, cX4_readMost, 1, 4, 126, none, "readMost", 0, 0)
theorem d_X4_readMost_0 : zDc M_X4_readMost 0 (.aload_n 0) 1 1 := ⟨by decide +kernel, rfl⟩
theorem d_X4_readMost_1 : zDc M_X4_readMost 1 (.invokevirtual 208) 3 4 := ⟨by decide +kernel, rfl⟩
theorem d_X4_readMost_4 : zDc M_X4_readMost 4 (.aload_n 0) 1 5 := ⟨by decide +kernel, rfl⟩
theorem d_X4_readMost_5 : zDc M_X4_readMost 5 (.getfield 22) 3 8 := ⟨by decide +kernel, rfl⟩
theorem d_X4_readMost_8 : zDc M_X4_readMost 8 (.aload_n 0) 1 9 := ⟨by decide +kernel, rfl⟩
theorem d_X4_readMost_9 : zDc M_X4_readMost 9 (.iconst 1) 1 10 := ⟨by decide +kernel, rfl⟩
theorem d_X4_readMost_10 : zDc M_X4_readMost 10 (.bipush 9) 2 12 := ⟨by decide +kernel, rfl⟩
theorem d_X4_readMost_12 : zDc M_X4_readMost 12 (.invokevirtual 142) 3 15 := ⟨by decide +kernel, rfl⟩
theorem d_X4_readMost_15 : zDc M_X4_readMost 15 (.putfield 214) 3 18 := ⟨by decide +kernel, rfl⟩
theorem d_X4_readMost_18 : zDc M_X4_readMost 18 (.return_) 1 19 := ⟨by decide +kernel, rfl⟩
def f_X4_readMost (a0 : Nat) (h0 : zHp) : Option (Unit × zHp) :=
  zbd (zcv 4 a0 h0 (f_X4_readOnceWord a0 h0)) (fun v2 h1 =>
  zob (zgR h1 a0 4 10) (fun v3 =>
  zbd (zcv 4 a0 h1 (f_X4_readNumber a0 1 9 h1)) (fun v5 h4 =>
  zob (zpV h4 v3 6 18 (.int v5)) (fun h6 =>
  some ((), h6)))))
set_option maxRecDepth 100000 in
set_option maxHeartbeats 4000000 in
theorem t_X4_readMost (a0 : Nat) (h0 : zHp) : ∀ (r : Unit) (h' : zHp), f_X4_readMost a0 h0 = some (r, h') → zCt yX4_readMost (.code yX4_readMost cX4_readMost 1 none) 4 126 0 0 [.ref a0] h0 (none) h' := by
  refine zct_of M_X4_readMost yX4_readMost (by decide) rfl rfl [.ref a0] h0 (Nat.le_of_ble_eq_true rfl) (fun _ => none) (fun X => ?_)
  show zG X M_X4_readMost (0, 0) 0 [(0, .ref a0)] [] h0 (f_X4_readMost a0 h0) (fun (_ : Unit) h' => zKe X (none) h')
  unfold f_X4_readMost
  refine zg_aload_n 0 rfl d_X4_readMost_0 ?_
  refine zg_cVv (b := a0) (As := []) (rest := []) (0, 0) d_X4_readMost_1 zc_4 rfl cw_X4_208 wi_X4_readOnceWord ws_X4_readOnceWord rfl rfl (Nat.le_of_ble_eq_true rfl) (by decide) (by decide) ⟨by decide, by decide⟩ rfl (t_X4_readOnceWord a0 h0) (fun v2 h1 => ?_)
  refine zg_aload_n 0 rfl d_X4_readMost_4 ?_
  refine zg_getR d_X4_readMost_5 zc_4 (by decide) fl_X4_22 (fun v3 => ?_)
  refine zg_aload_n 0 rfl d_X4_readMost_8 ?_
  refine zg_iconst 1 rfl d_X4_readMost_9 ?_
  refine zg_bipush 9 rfl d_X4_readMost_10 ?_
  refine zg_cVi (b := a0) (As := [.int 1, .int 9]) (rest := [.ref v3]) (0, 0) d_X4_readMost_12 zc_4 rfl cw_X4_142 wi_X4_readNumber ws_X4_readNumber rfl rfl (Nat.le_of_ble_eq_true rfl) (by decide) (by decide) ⟨by decide, by decide⟩ rfl (t_X4_readNumber a0 1 9 h1) (fun v5 h4 => ?_)
  refine zg_putV d_X4_readMost_15 zc_6 (by decide) fl_X4_214 rfl rfl rfl (fun h6 => ?_)
  exact zg_vretK d_X4_readMost_18 rfl ⟨Nat.le_of_ble_eq_true rfl, Nat.le_of_ble_eq_true rfl⟩ (fun q => q)
abbrev M_X4_readRain : zMt := (RX4, cX4_readRain, 1, 4, 126, none, "readRain", 0, 0)
theorem d_X4_readRain_0 : zDc M_X4_readRain 0 (.aload_n 0) 1 1 := ⟨by decide +kernel, rfl⟩
theorem d_X4_readRain_1 : zDc M_X4_readRain 1 (.invokevirtual 208) 3 4 := ⟨by decide +kernel, rfl⟩
theorem d_X4_readRain_4 : zDc M_X4_readRain 4 (.aload_n 0) 1 5 := ⟨by decide +kernel, rfl⟩
theorem d_X4_readRain_5 : zDc M_X4_readRain 5 (.getfield 22) 3 8 := ⟨by decide +kernel, rfl⟩
theorem d_X4_readRain_8 : zDc M_X4_readRain 8 (.aload_n 0) 1 9 := ⟨by decide +kernel, rfl⟩
theorem d_X4_readRain_9 : zDc M_X4_readRain 9 (.iconst 1) 1 10 := ⟨by decide +kernel, rfl⟩
theorem d_X4_readRain_10 : zDc M_X4_readRain 10 (.bipush 20) 2 12 := ⟨by decide +kernel, rfl⟩
theorem d_X4_readRain_12 : zDc M_X4_readRain 12 (.invokevirtual 142) 3 15 := ⟨by decide +kernel, rfl⟩
theorem d_X4_readRain_15 : zDc M_X4_readRain 15 (.putfield 211) 3 18 := ⟨by decide +kernel, rfl⟩
theorem d_X4_readRain_18 : zDc M_X4_readRain 18 (.return_) 1 19 := ⟨by decide +kernel, rfl⟩
def f_X4_readRain (a0 : Nat) (h0 : zHp) : Option (Unit × zHp) :=
  zbd (zcv 4 a0 h0 (f_X4_readOnceWord a0 h0)) (fun v2 h1 =>
  zob (zgR h1 a0 4 10) (fun v3 =>
  zbd (zcv 4 a0 h1 (f_X4_readNumber a0 1 20 h1)) (fun v5 h4 =>
  zob (zpV h4 v3 6 17 (.int v5)) (fun h6 =>
  some ((), h6)))))
set_option maxRecDepth 100000 in
set_option maxHeartbeats 4000000 in
theorem t_X4_readRain (a0 : Nat) (h0 : zHp) : ∀ (r : Unit) (h' : zHp), f_X4_readRain a0 h0 = some (r, h') → zCt yX4_readRain (.code yX4_readRain cX4_readRain 1 none) 4 126 0 0 [.ref a0] h0 (none) h' := by
  refine zct_of M_X4_readRain yX4_readRain (by decide) rfl rfl [.ref a0] h0 (Nat.le_of_ble_eq_true rfl) (fun _ => none) (fun X => ?_)
  show zG X M_X4_readRain (0, 0) 0 [(0, .ref a0)] [] h0 (f_X4_readRain a0 h0) (fun (_ : Unit) h' => zKe X (none) h')
  unfold f_X4_readRain
  refine zg_aload_n 0 rfl d_X4_readRain_0 ?_
  refine zg_cVv (b := a0) (As := []) (rest := []) (0, 0) d_X4_readRain_1 zc_4 rfl cw_X4_208 wi_X4_readOnceWord ws_X4_readOnceWord rfl rfl (Nat.le_of_ble_eq_true rfl) (by decide) (by decide) ⟨by decide, by decide⟩ rfl (t_X4_readOnceWord a0 h0) (fun v2 h1 => ?_)
  refine zg_aload_n 0 rfl d_X4_readRain_4 ?_
  refine zg_getR d_X4_readRain_5 zc_4 (by decide) fl_X4_22 (fun v3 => ?_)
  refine zg_aload_n 0 rfl d_X4_readRain_8 ?_
  refine zg_iconst 1 rfl d_X4_readRain_9 ?_
  refine zg_bipush 20 rfl d_X4_readRain_10 ?_
  refine zg_cVi (b := a0) (As := [.int 1, .int 20]) (rest := [.ref v3]) (0, 0) d_X4_readRain_12 zc_4 rfl cw_X4_142 wi_X4_readNumber ws_X4_readNumber rfl rfl (Nat.le_of_ble_eq_true rfl) (by decide) (by decide) ⟨by decide, by decide⟩ rfl (t_X4_readNumber a0 1 20 h1) (fun v5 h4 => ?_)
  refine zg_putV d_X4_readRain_15 zc_6 (by decide) fl_X4_211 rfl rfl rfl (fun h6 => ?_)
  exact zg_vretK d_X4_readRain_18 rfl ⟨Nat.le_of_ble_eq_true rfl, Nat.le_of_ble_eq_true rfl⟩ (fun q => q)
abbrev M_X4_readSeed : zMt := (RX4, cX4_readSeed, 1, 4, 126, none, "readSeed", 0, 0)
theorem d_X4_readSeed_0 : zDc M_X4_readSeed 0 (.aload_n 0) 1 1 := ⟨by decide +kernel, rfl⟩
theorem d_X4_readSeed_1 : zDc M_X4_readSeed 1 (.invokevirtual 208) 3 4 := ⟨by decide +kernel, rfl⟩
theorem d_X4_readSeed_4 : zDc M_X4_readSeed 4 (.aload_n 0) 1 5 := ⟨by decide +kernel, rfl⟩
theorem d_X4_readSeed_5 : zDc M_X4_readSeed 5 (.iconst 0) 1 6 := ⟨by decide +kernel, rfl⟩
theorem d_X4_readSeed_6 : zDc M_X4_readSeed 6 (.ldc 217) 2 8 := ⟨by decide +kernel, rfl⟩
theorem d_X4_readSeed_8 : zDc M_X4_readSeed 8 (.invokevirtual 142) 3 11 := ⟨by decide +kernel, rfl⟩
theorem d_X4_readSeed_11 : zDc M_X4_readSeed 11 (.pop) 1 12 := ⟨by decide +kernel, rfl⟩
theorem d_X4_readSeed_12 : zDc M_X4_readSeed 12 (.return_) 1 13 := ⟨by decide +kernel, rfl⟩
def f_X4_readSeed (a0 : Nat) (h0 : zHp) : Option (Unit × zHp) :=
  zbd (zcv 4 a0 h0 (f_X4_readOnceWord a0 h0)) (fun v2 h1 =>
  zbd (zcv 4 a0 h1 (f_X4_readNumber a0 0 99999 h1)) (fun v4 h3 =>
  some ((), h3)))
set_option maxRecDepth 100000 in
set_option maxHeartbeats 4000000 in
theorem t_X4_readSeed (a0 : Nat) (h0 : zHp) : ∀ (r : Unit) (h' : zHp), f_X4_readSeed a0 h0 = some (r, h') → zCt yX4_readSeed (.code yX4_readSeed cX4_readSeed 1 none) 4 126 0 0 [.ref a0] h0 (none) h' := by
  refine zct_of M_X4_readSeed yX4_readSeed (by decide) rfl rfl [.ref a0] h0 (Nat.le_of_ble_eq_true rfl) (fun _ => none) (fun X => ?_)
  show zG X M_X4_readSeed (0, 0) 0 [(0, .ref a0)] [] h0 (f_X4_readSeed a0 h0) (fun (_ : Unit) h' => zKe X (none) h')
  unfold f_X4_readSeed
  refine zg_aload_n 0 rfl d_X4_readSeed_0 ?_
  refine zg_cVv (b := a0) (As := []) (rest := []) (0, 0) d_X4_readSeed_1 zc_4 rfl cw_X4_208 wi_X4_readOnceWord ws_X4_readOnceWord rfl rfl (Nat.le_of_ble_eq_true rfl) (by decide) (by decide) ⟨by decide, by decide⟩ rfl (t_X4_readOnceWord a0 h0) (fun v2 h1 => ?_)
  refine zg_aload_n 0 rfl d_X4_readSeed_4 ?_
  refine zg_iconst 0 rfl d_X4_readSeed_5 ?_
  refine zg_ldc kc_X4_217 d_X4_readSeed_6 ?_
  refine zg_cVi (b := a0) (As := [.int 0, .int 99999]) (rest := []) (0, 0) d_X4_readSeed_8 zc_4 rfl cw_X4_142 wi_X4_readNumber ws_X4_readNumber rfl rfl (Nat.le_of_ble_eq_true rfl) (by decide) (by decide) ⟨by decide, by decide⟩ rfl (t_X4_readNumber a0 0 99999 h1) (fun v4 h3 => ?_)
  refine zg_pop rfl d_X4_readSeed_11 ?_
  exact zg_vretK d_X4_readSeed_12 rfl ⟨Nat.le_of_ble_eq_true rfl, Nat.le_of_ble_eq_true rfl⟩ (fun q => q)
abbrev M_X4_readWind : zMt := (RX4, cX4_readWind, 2, 4, 126, none, "readWind", 0, 0)
theorem d_X4_readWind_0 : zDc M_X4_readWind 0 (.aload_n 0) 1 1 := ⟨by decide +kernel, rfl⟩
theorem d_X4_readWind_1 : zDc M_X4_readWind 1 (.getfield 22) 3 4 := ⟨by decide +kernel, rfl⟩
theorem d_X4_readWind_4 : zDc M_X4_readWind 4 (.getfield 202) 3 7 := ⟨by decide +kernel, rfl⟩
theorem d_X4_readWind_7 : zDc M_X4_readWind 7 (.istore_n 1) 1 8 := ⟨by decide +kernel, rfl⟩
theorem d_X4_readWind_8 : zDc M_X4_readWind 8 (.aload_n 0) 1 9 := ⟨by decide +kernel, rfl⟩
theorem d_X4_readWind_9 : zDc M_X4_readWind 9 (.iload_n 1) 1 10 := ⟨by decide +kernel, rfl⟩
theorem d_X4_readWind_10 : zDc M_X4_readWind 10 (.bipush 12) 2 12 := ⟨by decide +kernel, rfl⟩
theorem d_X4_readWind_12 : zDc M_X4_readWind 12 (.invokevirtual 158) 3 15 := ⟨by decide +kernel, rfl⟩
theorem d_X4_readWind_15 : zDj M_X4_readWind 15 (.ifCond .ne 4) 4 18 19 := ⟨by decide +kernel, rfl, by decide⟩
theorem d_X4_readWind_18 : zDc M_X4_readWind 18 (.return_) 1 19 := ⟨by decide +kernel, rfl⟩
theorem d_X4_readWind_19 : zDc M_X4_readWind 19 (.aload_n 0) 1 20 := ⟨by decide +kernel, rfl⟩
theorem d_X4_readWind_20 : zDc M_X4_readWind 20 (.getfield 22) 3 23 := ⟨by decide +kernel, rfl⟩
theorem d_X4_readWind_23 : zDc M_X4_readWind 23 (.getfield 205) 3 26 := ⟨by decide +kernel, rfl⟩
theorem d_X4_readWind_26 : zDc M_X4_readWind 26 (.iload_n 1) 1 27 := ⟨by decide +kernel, rfl⟩
theorem d_X4_readWind_27 : zDc M_X4_readWind 27 (.aload_n 0) 1 28 := ⟨by decide +kernel, rfl⟩
theorem d_X4_readWind_28 : zDc M_X4_readWind 28 (.iconst 0) 1 29 := ⟨by decide +kernel, rfl⟩
theorem d_X4_readWind_29 : zDc M_X4_readWind 29 (.iconst 4) 1 30 := ⟨by decide +kernel, rfl⟩
theorem d_X4_readWind_30 : zDc M_X4_readWind 30 (.invokevirtual 142) 3 33 := ⟨by decide +kernel, rfl⟩
theorem d_X4_readWind_33 : zDc M_X4_readWind 33 (.iastore) 1 34 := ⟨by decide +kernel, rfl⟩
theorem d_X4_readWind_34 : zDc M_X4_readWind 34 (.aload_n 0) 1 35 := ⟨by decide +kernel, rfl⟩
theorem d_X4_readWind_35 : zDc M_X4_readWind 35 (.getfield 22) 3 38 := ⟨by decide +kernel, rfl⟩
theorem d_X4_readWind_38 : zDc M_X4_readWind 38 (.dup) 1 39 := ⟨by decide +kernel, rfl⟩
theorem d_X4_readWind_39 : zDc M_X4_readWind 39 (.getfield 202) 3 42 := ⟨by decide +kernel, rfl⟩
theorem d_X4_readWind_42 : zDc M_X4_readWind 42 (.iconst 1) 1 43 := ⟨by decide +kernel, rfl⟩
theorem d_X4_readWind_43 : zDc M_X4_readWind 43 (.iadd) 1 44 := ⟨by decide +kernel, rfl⟩
theorem d_X4_readWind_44 : zDc M_X4_readWind 44 (.putfield 202) 3 47 := ⟨by decide +kernel, rfl⟩
theorem d_X4_readWind_47 : zDc M_X4_readWind 47 (.return_) 1 48 := ⟨by decide +kernel, rfl⟩
def f_X4_readWind (a0 : Nat) (h0 : zHp) : Option (Unit × zHp) :=
  zob (zgR h0 a0 4 10) (fun v1 =>
  zob (zgI h0 v1 6 16) (fun v2 =>
  zbd (zcv 4 a0 h0 (f_X4_hasRoom a0 v2 12 h0)) (fun v4 h3 =>
  if v4 = 0 then
  some ((), h3)
  else
  zob (zgR h3 a0 4 10) (fun v5 =>
  zob (zgR h3 v5 6 11) (fun v6 =>
  zbd (zcv 4 a0 h3 (f_X4_readNumber a0 0 4 h3)) (fun v8 h7 =>
  zob (zsI 0 h7 v6 v2 v8) (fun h9 =>
  zob (zgR h9 a0 4 10) (fun v10 =>
  zob (zgI h9 v10 6 16) (fun v11 =>
  zob (zpV h9 v10 6 16 (.int (v11 + 1))) (fun h12 =>
  some ((), h12)))))))))))
set_option maxRecDepth 100000 in
set_option maxHeartbeats 4000000 in
theorem t_X4_readWind (a0 : Nat) (h0 : zHp) : ∀ (r : Unit) (h' : zHp), f_X4_readWind a0 h0 = some (r, h') → zCt yX4_readWind (.code yX4_readWind cX4_readWind 2 none) 4 126 0 0 [.ref a0] h0 (none) h' := by
  refine zct_of M_X4_readWind yX4_readWind (by decide) rfl rfl [.ref a0] h0 (Nat.le_of_ble_eq_true rfl) (fun _ => none) (fun X => ?_)
  show zG X M_X4_readWind (0, 0) 0 [(0, .ref a0)] [] h0 (f_X4_readWind a0 h0) (fun (_ : Unit) h' => zKe X (none) h')
  unfold f_X4_readWind
  refine zg_aload_n 0 rfl d_X4_readWind_0 ?_
  refine zg_getR d_X4_readWind_1 zc_4 (by decide) fl_X4_22 (fun v1 => ?_)
  refine zg_getI d_X4_readWind_4 zc_6 (by decide) fl_X4_202 (fun v2 => ?_)
  refine zg_istore_n [(1, .int v2), (0, .ref a0)] d_X4_readWind_7 rfl (by decide) rfl ?_
  refine zg_aload_n 1 rfl d_X4_readWind_8 ?_
  refine zg_iload_n 0 rfl d_X4_readWind_9 ?_
  refine zg_bipush 12 rfl d_X4_readWind_10 ?_
  refine zg_cVi (b := a0) (As := [.int v2, .int 12]) (rest := []) (0, 0) d_X4_readWind_12 zc_4 rfl cw_X4_158 wi_X4_hasRoom ws_X4_hasRoom rfl rfl (Nat.le_of_ble_eq_true rfl) (by decide) (by decide) ⟨by decide, by decide⟩ rfl (t_X4_hasRoom a0 v2 12 h0) (fun v4 h3 => ?_)
  refine zg_if_ne d_X4_readWind_15 ?_ ?_
  · exact zg_vretK d_X4_readWind_18 rfl ⟨Nat.le_of_ble_eq_true rfl, Nat.le_of_ble_eq_true rfl⟩ (fun q => q)
  · refine zg_aload_n 1 rfl d_X4_readWind_19 ?_
    refine zg_getR d_X4_readWind_20 zc_4 (by decide) fl_X4_22 (fun v5 => ?_)
    refine zg_getR d_X4_readWind_23 zc_6 (by decide) fl_X4_205 (fun v6 => ?_)
    refine zg_iload_n 0 rfl d_X4_readWind_26 ?_
    refine zg_aload_n 1 rfl d_X4_readWind_27 ?_
    refine zg_iconst 0 rfl d_X4_readWind_28 ?_
    refine zg_iconst 4 rfl d_X4_readWind_29 ?_
    refine zg_cVi (b := a0) (As := [.int 0, .int 4]) (rest := [.int v2, .ref v6]) (0, 0) d_X4_readWind_30 zc_4 rfl cw_X4_142 wi_X4_readNumber ws_X4_readNumber rfl rfl (Nat.le_of_ble_eq_true rfl) (by decide) (by decide) ⟨by decide, by decide⟩ rfl (t_X4_readNumber a0 0 4 h3) (fun v8 h7 => ?_)
    refine zg_ast0 d_X4_readWind_33 (fun h9 => ?_)
    refine zg_aload_n 1 rfl d_X4_readWind_34 ?_
    refine zg_getR d_X4_readWind_35 zc_4 (by decide) fl_X4_22 (fun v10 => ?_)
    refine zg_dup rfl d_X4_readWind_38 ?_
    refine zg_getI d_X4_readWind_39 zc_6 (by decide) fl_X4_202 (fun v11 => ?_)
    refine zg_iconst 1 rfl d_X4_readWind_42 ?_
    refine zg_iadd d_X4_readWind_43 ?_
    refine zg_putV d_X4_readWind_44 zc_6 (by decide) fl_X4_202 rfl rfl rfl (fun h12 => ?_)
    exact zg_vretK d_X4_readWind_47 rfl ⟨Nat.le_of_ble_eq_true rfl, Nat.le_of_ble_eq_true rfl⟩ (fun q => q)
abbrev M_X4_readLine : zMt := (RX4, cX4_readLine, 1, 6, 170, none, "readLine", 0, 0)
theorem d_X4_readLine_0 : zDc M_X4_readLine 0 (.aload_n 0) 1 1 := ⟨by decide +kernel, rfl⟩
theorem d_X4_readLine_1 : zDc M_X4_readLine 1 (.getfield 65) 3 4 := ⟨by decide +kernel, rfl⟩
theorem d_X4_readLine_4 : decode M_X4_readLine.2.1 4 = .ok (.tableswitch 128 0 9 #[56, 64, 72, 79, 86, 93, 100, 107, 114, 121], 56) := by decide +kernel
theorem d_X4_readLine_60 : zDc M_X4_readLine 60 (.aload_n 0) 1 61 := ⟨by decide +kernel, rfl⟩
theorem d_X4_readLine_61 : zDc M_X4_readLine 61 (.iconst 1) 1 62 := ⟨by decide +kernel, rfl⟩
theorem d_X4_readLine_62 : zDc M_X4_readLine 62 (.invokevirtual 112) 3 65 := ⟨by decide +kernel, rfl⟩
theorem d_X4_readLine_65 : zDj M_X4_readLine 65 (.goto 72) 72 68 137 := ⟨by decide +kernel, rfl, by decide⟩
theorem d_X4_readLine_68 : zDc M_X4_readLine 68 (.aload_n 0) 1 69 := ⟨by decide +kernel, rfl⟩
theorem d_X4_readLine_69 : zDc M_X4_readLine 69 (.iconst 2) 1 70 := ⟨by decide +kernel, rfl⟩
theorem d_X4_readLine_70 : zDc M_X4_readLine 70 (.invokevirtual 112) 3 73 := ⟨by decide +kernel, rfl⟩
theorem d_X4_readLine_73 : zDj M_X4_readLine 73 (.goto 64) 64 76 137 := ⟨by decide +kernel, rfl, by decide⟩
theorem d_X4_readLine_76 : zDc M_X4_readLine 76 (.aload_n 0) 1 77 := ⟨by decide +kernel, rfl⟩
theorem d_X4_readLine_77 : zDc M_X4_readLine 77 (.invokevirtual 115) 3 80 := ⟨by decide +kernel, rfl⟩
theorem d_X4_readLine_80 : zDj M_X4_readLine 80 (.goto 57) 57 83 137 := ⟨by decide +kernel, rfl, by decide⟩
theorem d_X4_readLine_83 : zDc M_X4_readLine 83 (.aload_n 0) 1 84 := ⟨by decide +kernel, rfl⟩
theorem d_X4_readLine_84 : zDc M_X4_readLine 84 (.invokevirtual 118) 3 87 := ⟨by decide +kernel, rfl⟩
theorem d_X4_readLine_87 : zDj M_X4_readLine 87 (.goto 50) 50 90 137 := ⟨by decide +kernel, rfl, by decide⟩
theorem d_X4_readLine_90 : zDc M_X4_readLine 90 (.aload_n 0) 1 91 := ⟨by decide +kernel, rfl⟩
theorem d_X4_readLine_91 : zDc M_X4_readLine 91 (.invokevirtual 121) 3 94 := ⟨by decide +kernel, rfl⟩
theorem d_X4_readLine_94 : zDj M_X4_readLine 94 (.goto 43) 43 97 137 := ⟨by decide +kernel, rfl, by decide⟩
theorem d_X4_readLine_97 : zDc M_X4_readLine 97 (.aload_n 0) 1 98 := ⟨by decide +kernel, rfl⟩
theorem d_X4_readLine_98 : zDc M_X4_readLine 98 (.invokevirtual 124) 3 101 := ⟨by decide +kernel, rfl⟩
theorem d_X4_readLine_101 : zDj M_X4_readLine 101 (.goto 36) 36 104 137 := ⟨by decide +kernel, rfl, by decide⟩
theorem d_X4_readLine_104 : zDc M_X4_readLine 104 (.aload_n 0) 1 105 := ⟨by decide +kernel, rfl⟩
theorem d_X4_readLine_105 : zDc M_X4_readLine 105 (.invokevirtual 127) 3 108 := ⟨by decide +kernel, rfl⟩
theorem d_X4_readLine_108 : zDj M_X4_readLine 108 (.goto 29) 29 111 137 := ⟨by decide +kernel, rfl, by decide⟩
theorem d_X4_readLine_111 : zDc M_X4_readLine 111 (.aload_n 0) 1 112 := ⟨by decide +kernel, rfl⟩
theorem d_X4_readLine_112 : zDc M_X4_readLine 112 (.invokevirtual 130) 3 115 := ⟨by decide +kernel, rfl⟩
theorem d_X4_readLine_115 : zDj M_X4_readLine 115 (.goto 22) 22 118 137 := ⟨by decide +kernel, rfl, by decide⟩
theorem d_X4_readLine_118 : zDc M_X4_readLine 118 (.aload_n 0) 1 119 := ⟨by decide +kernel, rfl⟩
theorem d_X4_readLine_119 : zDc M_X4_readLine 119 (.invokevirtual 133) 3 122 := ⟨by decide +kernel, rfl⟩
theorem d_X4_readLine_122 : zDj M_X4_readLine 122 (.goto 15) 15 125 137 := ⟨by decide +kernel, rfl, by decide⟩
theorem d_X4_readLine_125 : zDc M_X4_readLine 125 (.aload_n 0) 1 126 := ⟨by decide +kernel, rfl⟩
theorem d_X4_readLine_126 : zDc M_X4_readLine 126 (.invokevirtual 136) 3 129 := ⟨by decide +kernel, rfl⟩
theorem d_X4_readLine_129 : zDj M_X4_readLine 129 (.goto 8) 8 132 137 := ⟨by decide +kernel, rfl, by decide⟩
theorem d_X4_readLine_132 : zDc M_X4_readLine 132 (.aload_n 0) 1 133 := ⟨by decide +kernel, rfl⟩
theorem d_X4_readLine_133 : zDc M_X4_readLine 133 (.iconst 1) 1 134 := ⟨by decide +kernel, rfl⟩
theorem d_X4_readLine_134 : zDc M_X4_readLine 134 (.invokevirtual 82) 3 137 := ⟨by decide +kernel, rfl⟩
theorem d_X4_readLine_137 : zDc M_X4_readLine 137 (.return_) 1 138 := ⟨by decide +kernel, rfl⟩
def f_X4_readLine (a0 : Nat) (h0 : zHp) : Option (Unit × zHp) :=
  zob (zgI h0 a0 4 4) (fun v1 =>
  if v1 = 0 then
  zbd (zcv 4 a0 h0 (f_X4_readGround a0 1 h0)) (fun v3 h2 =>
  some ((), h2))
  else if v1 = 1 then
  zbd (zcv 4 a0 h0 (f_X4_readGround a0 2 h0)) (fun v5 h4 =>
  some ((), h4))
  else if v1 = 2 then
  zbd (zcv 4 a0 h0 (f_X4_readField a0 h0)) (fun v7 h6 =>
  some ((), h6))
  else if v1 = 3 then
  zbd (zcv 4 a0 h0 (f_X4_readCloud a0 h0)) (fun v9 h8 =>
  some ((), h8))
  else if v1 = 4 then
  zbd (zcv 4 a0 h0 (f_X4_readChild a0 h0)) (fun v11 h10 =>
  some ((), h10))
  else if v1 = 5 then
  zbd (zcv 4 a0 h0 (f_X4_readWind a0 h0)) (fun v13 h12 =>
  some ((), h12))
  else if v1 = 6 then
  zbd (zcv 4 a0 h0 (f_X4_readRain a0 h0)) (fun v15 h14 =>
  some ((), h14))
  else if v1 = 7 then
  zbd (zcv 4 a0 h0 (f_X4_readMost a0 h0)) (fun v17 h16 =>
  some ((), h16))
  else if v1 = 8 then
  zbd (zcv 4 a0 h0 (f_X4_readSeed a0 h0)) (fun v19 h18 =>
  some ((), h18))
  else if v1 = 9 then
  zbd (zcv 4 a0 h0 (f_X4_readLaw a0 h0)) (fun v21 h20 =>
  some ((), h20))
  else 
  zbd (zcv 4 a0 h0 (f_X4_fail a0 1 h0)) (fun v23 h22 =>
  some ((), h22)))
set_option maxRecDepth 100000 in
set_option maxHeartbeats 4000000 in
theorem t_X4_readLine (a0 : Nat) (h0 : zHp) : ∀ (r : Unit) (h' : zHp), f_X4_readLine a0 h0 = some (r, h') → zCt yX4_readLine (.code yX4_readLine cX4_readLine 1 none) 6 170 0 0 [.ref a0] h0 (none) h' := by
  refine zct_of M_X4_readLine yX4_readLine (by decide) rfl rfl [.ref a0] h0 (Nat.le_of_ble_eq_true rfl) (fun _ => none) (fun X => ?_)
  show zG X M_X4_readLine (0, 0) 0 [(0, .ref a0)] [] h0 (f_X4_readLine a0 h0) (fun (_ : Unit) h' => zKe X (none) h')
  unfold f_X4_readLine
  refine zg_aload_n 0 rfl d_X4_readLine_0 ?_
  refine zg_getI d_X4_readLine_1 zc_4 (by decide) fl_X4_65 (fun v1 => ?_)
  refine zg_if (fun n24 => ?_) (fun n24 => ?_)
  · refine zg_tabE n24 d_X4_readLine_4 (by decide) (by decide) (off := 56) rfl (tgt := 60) (by decide) ?_
    refine zg_aload_n 0 rfl d_X4_readLine_60 ?_
    refine zg_iconst 1 rfl d_X4_readLine_61 ?_
    refine zg_cVv (b := a0) (As := [.int 1]) (rest := []) (0, 0) d_X4_readLine_62 zc_4 rfl cw_X4_112 wi_X4_readGround ws_X4_readGround rfl rfl (Nat.le_of_ble_eq_true rfl) (by decide) (by decide) ⟨by decide, by decide⟩ rfl (t_X4_readGround a0 1 h0) (fun v3 h2 => ?_)
    refine zg_goto d_X4_readLine_65 ?_
    exact zg_vretK d_X4_readLine_137 rfl ⟨Nat.le_of_ble_eq_true rfl, Nat.le_of_ble_eq_true rfl⟩ (fun q => q)
  refine zg_if (fun n25 => ?_) (fun n25 => ?_)
  · refine zg_tabE n25 d_X4_readLine_4 (by decide) (by decide) (off := 64) rfl (tgt := 68) (by decide) ?_
    refine zg_aload_n 0 rfl d_X4_readLine_68 ?_
    refine zg_iconst 2 rfl d_X4_readLine_69 ?_
    refine zg_cVv (b := a0) (As := [.int 2]) (rest := []) (0, 0) d_X4_readLine_70 zc_4 rfl cw_X4_112 wi_X4_readGround ws_X4_readGround rfl rfl (Nat.le_of_ble_eq_true rfl) (by decide) (by decide) ⟨by decide, by decide⟩ rfl (t_X4_readGround a0 2 h0) (fun v5 h4 => ?_)
    refine zg_goto d_X4_readLine_73 ?_
    exact zg_vretK d_X4_readLine_137 rfl ⟨Nat.le_of_ble_eq_true rfl, Nat.le_of_ble_eq_true rfl⟩ (fun q => q)
  refine zg_if (fun n26 => ?_) (fun n26 => ?_)
  · refine zg_tabE n26 d_X4_readLine_4 (by decide) (by decide) (off := 72) rfl (tgt := 76) (by decide) ?_
    refine zg_aload_n 0 rfl d_X4_readLine_76 ?_
    refine zg_cVv (b := a0) (As := []) (rest := []) (0, 0) d_X4_readLine_77 zc_4 rfl cw_X4_115 wi_X4_readField ws_X4_readField rfl rfl (Nat.le_of_ble_eq_true rfl) (by decide) (by decide) ⟨by decide, by decide⟩ rfl (t_X4_readField a0 h0) (fun v7 h6 => ?_)
    refine zg_goto d_X4_readLine_80 ?_
    exact zg_vretK d_X4_readLine_137 rfl ⟨Nat.le_of_ble_eq_true rfl, Nat.le_of_ble_eq_true rfl⟩ (fun q => q)
  refine zg_if (fun n27 => ?_) (fun n27 => ?_)
  · refine zg_tabE n27 d_X4_readLine_4 (by decide) (by decide) (off := 79) rfl (tgt := 83) (by decide) ?_
    refine zg_aload_n 0 rfl d_X4_readLine_83 ?_
    refine zg_cVv (b := a0) (As := []) (rest := []) (0, 0) d_X4_readLine_84 zc_4 rfl cw_X4_118 wi_X4_readCloud ws_X4_readCloud rfl rfl (Nat.le_of_ble_eq_true rfl) (by decide) (by decide) ⟨by decide, by decide⟩ rfl (t_X4_readCloud a0 h0) (fun v9 h8 => ?_)
    refine zg_goto d_X4_readLine_87 ?_
    exact zg_vretK d_X4_readLine_137 rfl ⟨Nat.le_of_ble_eq_true rfl, Nat.le_of_ble_eq_true rfl⟩ (fun q => q)
  refine zg_if (fun n28 => ?_) (fun n28 => ?_)
  · refine zg_tabE n28 d_X4_readLine_4 (by decide) (by decide) (off := 86) rfl (tgt := 90) (by decide) ?_
    refine zg_aload_n 0 rfl d_X4_readLine_90 ?_
    refine zg_cVv (b := a0) (As := []) (rest := []) (0, 0) d_X4_readLine_91 zc_4 rfl cw_X4_121 wi_X4_readChild ws_X4_readChild rfl rfl (Nat.le_of_ble_eq_true rfl) (by decide) (by decide) ⟨by decide, by decide⟩ rfl (t_X4_readChild a0 h0) (fun v11 h10 => ?_)
    refine zg_goto d_X4_readLine_94 ?_
    exact zg_vretK d_X4_readLine_137 rfl ⟨Nat.le_of_ble_eq_true rfl, Nat.le_of_ble_eq_true rfl⟩ (fun q => q)
  refine zg_if (fun n29 => ?_) (fun n29 => ?_)
  · refine zg_tabE n29 d_X4_readLine_4 (by decide) (by decide) (off := 93) rfl (tgt := 97) (by decide) ?_
    refine zg_aload_n 0 rfl d_X4_readLine_97 ?_
    refine zg_cVv (b := a0) (As := []) (rest := []) (0, 0) d_X4_readLine_98 zc_4 rfl cw_X4_124 wi_X4_readWind ws_X4_readWind rfl rfl (Nat.le_of_ble_eq_true rfl) (by decide) (by decide) ⟨by decide, by decide⟩ rfl (t_X4_readWind a0 h0) (fun v13 h12 => ?_)
    refine zg_goto d_X4_readLine_101 ?_
    exact zg_vretK d_X4_readLine_137 rfl ⟨Nat.le_of_ble_eq_true rfl, Nat.le_of_ble_eq_true rfl⟩ (fun q => q)
  refine zg_if (fun n30 => ?_) (fun n30 => ?_)
  · refine zg_tabE n30 d_X4_readLine_4 (by decide) (by decide) (off := 100) rfl (tgt := 104) (by decide) ?_
    refine zg_aload_n 0 rfl d_X4_readLine_104 ?_
    refine zg_cVv (b := a0) (As := []) (rest := []) (0, 0) d_X4_readLine_105 zc_4 rfl cw_X4_127 wi_X4_readRain ws_X4_readRain rfl rfl (Nat.le_of_ble_eq_true rfl) (by decide) (by decide) ⟨by decide, by decide⟩ rfl (t_X4_readRain a0 h0) (fun v15 h14 => ?_)
    refine zg_goto d_X4_readLine_108 ?_
    exact zg_vretK d_X4_readLine_137 rfl ⟨Nat.le_of_ble_eq_true rfl, Nat.le_of_ble_eq_true rfl⟩ (fun q => q)
  refine zg_if (fun n31 => ?_) (fun n31 => ?_)
  · refine zg_tabE n31 d_X4_readLine_4 (by decide) (by decide) (off := 107) rfl (tgt := 111) (by decide) ?_
    refine zg_aload_n 0 rfl d_X4_readLine_111 ?_
    refine zg_cVv (b := a0) (As := []) (rest := []) (0, 0) d_X4_readLine_112 zc_4 rfl cw_X4_130 wi_X4_readMost ws_X4_readMost rfl rfl (Nat.le_of_ble_eq_true rfl) (by decide) (by decide) ⟨by decide, by decide⟩ rfl (t_X4_readMost a0 h0) (fun v17 h16 => ?_)
    refine zg_goto d_X4_readLine_115 ?_
    exact zg_vretK d_X4_readLine_137 rfl ⟨Nat.le_of_ble_eq_true rfl, Nat.le_of_ble_eq_true rfl⟩ (fun q => q)
  refine zg_if (fun n32 => ?_) (fun n32 => ?_)
  · refine zg_tabE n32 d_X4_readLine_4 (by decide) (by decide) (off := 114) rfl (tgt := 118) (by decide) ?_
    refine zg_aload_n 0 rfl d_X4_readLine_118 ?_
    refine zg_cVv (b := a0) (As := []) (rest := []) (0, 0) d_X4_readLine_119 zc_4 rfl cw_X4_133 wi_X4_readSeed ws_X4_readSeed rfl rfl (Nat.le_of_ble_eq_true rfl) (by decide) (by decide) ⟨by decide, by decide⟩ rfl (t_X4_readSeed a0 h0) (fun v19 h18 => ?_)
    refine zg_goto d_X4_readLine_122 ?_
    exact zg_vretK d_X4_readLine_137 rfl ⟨Nat.le_of_ble_eq_true rfl, Nat.le_of_ble_eq_true rfl⟩ (fun q => q)
  refine zg_if (fun n33 => ?_) (fun n33 => ?_)
  · refine zg_tabE n33 d_X4_readLine_4 (by decide) (by decide) (off := 121) rfl (tgt := 125) (by decide) ?_
    refine zg_aload_n 0 rfl d_X4_readLine_125 ?_
    refine zg_cVv (b := a0) (As := []) (rest := []) (0, 0) d_X4_readLine_126 zc_4 rfl cw_X4_136 wi_X4_readLaw ws_X4_readLaw rfl rfl (Nat.le_of_ble_eq_true rfl) (by decide) (by decide) ⟨by decide, by decide⟩ rfl (t_X4_readLaw a0 h0) (fun v21 h20 => ?_)
    refine zg_goto d_X4_readLine_129 ?_
    exact zg_vretK d_X4_readLine_137 rfl ⟨Nat.le_of_ble_eq_true rfl, Nat.le_of_ble_eq_true rfl⟩ (fun q => q)
  refine zg_tabO d_X4_readLine_4 (by have q0 := lv_neT n24 (a := 0) rfl; have q1 := lv_neT n25 (a := 1) rfl; have q2 := lv_neT n26 (a := 2) rfl; have q3 := lv_neT n27 (a := 3) rfl; have q4 := lv_neT n28 (a := 4) rfl; have q5 := lv_neT n29 (a := 5) rfl; have q6 := lv_neT n30 (a := 6) rfl; have q7 := lv_neT n31 (a := 7) rfl; have q8 := lv_neT n32 (a := 8) rfl; have q9 := lv_neT n33 (a := 9) rfl; omega) (tgt := 132) (by decide) ?_
  refine zg_aload_n 0 rfl d_X4_readLine_132 ?_
  refine zg_iconst 1 rfl d_X4_readLine_133 ?_
  refine zg_cVv (b := a0) (As := [.int 1]) (rest := []) (0, 0) d_X4_readLine_134 zc_4 rfl cw_X4_82 wi_X4_fail ws_X4_fail rfl rfl (Nat.le_of_ble_eq_true rfl) (by decide) (by decide) ⟨by decide, by decide⟩ rfl (t_X4_fail a0 1 h0) (fun v23 h22 => ?_)
  exact zg_vretK d_X4_readLine_137 rfl ⟨Nat.le_of_ble_eq_true rfl, Nat.le_of_ble_eq_true rfl⟩ (fun q => q)
abbrev M_X6_forget : zMt := (RX6, cX6_forget, 2, 2, 81, none, "forget", 0, 0)
theorem d_X6_forget_0 : zDc M_X6_forget 0 (.iconst 0) 1 1 := ⟨by decide +kernel, rfl⟩
theorem d_X6_forget_1 : zDc M_X6_forget 1 (.istore_n 1) 1 2 := ⟨by decide +kernel, rfl⟩
theorem d_X6_forget_2 : zDc M_X6_forget 2 (.iload_n 1) 1 3 := ⟨by decide +kernel, rfl⟩
theorem d_X6_forget_3 : zDc M_X6_forget 3 (.bipush 24) 2 5 := ⟨by decide +kernel, rfl⟩
theorem d_X6_forget_5 : zDj M_X6_forget 5 (.if_icmp .ge 16) 16 8 21 := ⟨by decide +kernel, rfl, by decide⟩
theorem d_X6_forget_8 : zDc M_X6_forget 8 (.aload_n 0) 1 9 := ⟨by decide +kernel, rfl⟩
theorem d_X6_forget_9 : zDc M_X6_forget 9 (.getfield 9) 3 12 := ⟨by decide +kernel, rfl⟩
theorem d_X6_forget_12 : zDc M_X6_forget 12 (.iload_n 1) 1 13 := ⟨by decide +kernel, rfl⟩
theorem d_X6_forget_13 : zDc M_X6_forget 13 (.iconst 0) 1 14 := ⟨by decide +kernel, rfl⟩
theorem d_X6_forget_14 : zDc M_X6_forget 14 (.iastore) 1 15 := ⟨by decide +kernel, rfl⟩
theorem d_X6_forget_15 : zDc M_X6_forget 15 (.iinc 1 1) 3 18 := ⟨by decide +kernel, rfl⟩
theorem d_X6_forget_18 : zDj M_X6_forget 18 (.goto (-16)) (-16) 21 2 := ⟨by decide +kernel, rfl, by decide⟩
theorem d_X6_forget_21 : zDc M_X6_forget 21 (.aload_n 0) 1 22 := ⟨by decide +kernel, rfl⟩
theorem d_X6_forget_22 : zDc M_X6_forget 22 (.getfield 51) 3 25 := ⟨by decide +kernel, rfl⟩
theorem d_X6_forget_25 : zDc M_X6_forget 25 (.invokevirtual 74) 3 28 := ⟨by decide +kernel, rfl⟩
theorem d_X6_forget_28 : zDc M_X6_forget 28 (.aload_n 0) 1 29 := ⟨by decide +kernel, rfl⟩
theorem d_X6_forget_29 : zDc M_X6_forget 29 (.iconst 0) 1 30 := ⟨by decide +kernel, rfl⟩
theorem d_X6_forget_30 : zDc M_X6_forget 30 (.putfield 55) 3 33 := ⟨by decide +kernel, rfl⟩
theorem d_X6_forget_33 : zDc M_X6_forget 33 (.aload_n 0) 1 34 := ⟨by decide +kernel, rfl⟩
theorem d_X6_forget_34 : zDc M_X6_forget 34 (.iconst 0) 1 35 := ⟨by decide +kernel, rfl⟩
theorem d_X6_forget_35 : zDc M_X6_forget 35 (.putfield 59) 3 38 := ⟨by decide +kernel, rfl⟩
theorem d_X6_forget_38 : zDc M_X6_forget 38 (.aload_n 0) 1 39 := ⟨by decide +kernel, rfl⟩
theorem d_X6_forget_39 : zDc M_X6_forget 39 (.iconst 0) 1 40 := ⟨by decide +kernel, rfl⟩
theorem d_X6_forget_40 : zDc M_X6_forget 40 (.putfield 62) 3 43 := ⟨by decide +kernel, rfl⟩
theorem d_X6_forget_43 : zDc M_X6_forget 43 (.aload_n 0) 1 44 := ⟨by decide +kernel, rfl⟩
theorem d_X6_forget_44 : zDc M_X6_forget 44 (.iconst 0) 1 45 := ⟨by decide +kernel, rfl⟩
theorem d_X6_forget_45 : zDc M_X6_forget 45 (.putfield 65) 3 48 := ⟨by decide +kernel, rfl⟩
theorem d_X6_forget_48 : zDc M_X6_forget 48 (.aload_n 0) 1 49 := ⟨by decide +kernel, rfl⟩
theorem d_X6_forget_49 : zDc M_X6_forget 49 (.bipush 6) 2 51 := ⟨by decide +kernel, rfl⟩
theorem d_X6_forget_51 : zDc M_X6_forget 51 (.putfield 68) 3 54 := ⟨by decide +kernel, rfl⟩
theorem d_X6_forget_54 : zDc M_X6_forget 54 (.aload_n 0) 1 55 := ⟨by decide +kernel, rfl⟩
theorem d_X6_forget_55 : zDc M_X6_forget 55 (.bipush 9) 2 57 := ⟨by decide +kernel, rfl⟩
theorem d_X6_forget_57 : zDc M_X6_forget 57 (.putfield 71) 3 60 := ⟨by decide +kernel, rfl⟩
theorem d_X6_forget_60 : zDc M_X6_forget 60 (.return_) 1 61 := ⟨by decide +kernel, rfl⟩
def f_X6_forget (a0 : Nat) (h0 : zHp) : Option (Unit × zHp) :=
  zbd (
  zlp (σ := Int32) (β := Int32) zLF (fun s1 h2 =>
  if 24 ≤ s1 then
  some ((.inr s1), h2)
  else
  zob (zgR h2 a0 6 0) (fun v5 =>
  zob (zsI 0 h2 v5 s1 0) (fun h6 =>
  some ((.inl (s1 + 1)), h6)))) 0 h0) (fun e3 h4 =>
  zob (zgR h4 a0 6 12) (fun v7 =>
  zbd (zcv 2 v7 h4 (f_X2_forget v7 h4)) (fun v9 h8 =>
  zob (zpV h8 a0 6 13 (.int 0)) (fun h10 =>
  zob (zpV h10 a0 6 14 (.int 0)) (fun h11 =>
  zob (zpV h11 a0 6 15 (.int 0)) (fun h12 =>
  zob (zpV h12 a0 6 16 (.int 0)) (fun h13 =>
  zob (zpV h13 a0 6 17 (.int 6)) (fun h14 =>
  zob (zpV h14 a0 6 18 (.int 9)) (fun h15 =>
  some ((), h15))))))))))
set_option maxRecDepth 100000 in
set_option maxHeartbeats 4000000 in
theorem t_X6_forget (a0 : Nat) (h0 : zHp) : ∀ (r : Unit) (h' : zHp), f_X6_forget a0 h0 = some (r, h') → zCt yX6_forget (.code yX6_forget cX6_forget 2 none) 2 81 0 0 [.ref a0] h0 (none) h' := by
  refine zct_of M_X6_forget yX6_forget (by decide) rfl rfl [.ref a0] h0 (Nat.le_of_ble_eq_true rfl) (fun _ => none) (fun X => ?_)
  show zG X M_X6_forget (0, 0) 0 [(0, .ref a0)] [] h0 (f_X6_forget a0 h0) (fun (_ : Unit) h' => zKe X (none) h')
  unfold f_X6_forget
  refine zg_iconst 0 rfl d_X6_forget_0 ?_
  refine zg_istore_n [(1, .int 0), (0, .ref a0)] d_X6_forget_1 rfl (by decide) rfl ?_
  refine zg_bd (E := 21) (el := (fun (e3 : Int32) => [(0, .ref a0), (1, .int e3)])) (es := fun _ => []) (zg_sub [1, 0] rfl (zg_lp (el := (fun (s1 : Int32) => [(0, .ref a0), (1, .int s1)])) (fun s1 h2 => ?_) 0 h0)) (fun e3 h4 => ?_)
  · refine zg_iload_n 1 rfl d_X6_forget_2 ?_
    refine zg_bipush 24 rfl d_X6_forget_3 ?_
    refine zg_icmp_ge d_X6_forget_5 ?_ ?_
    · exact zg_finK (E := 0) [0, 1] rfl rfl (fun q => q)
    · refine zg_aload_n 0 rfl d_X6_forget_8 ?_
      refine zg_getR d_X6_forget_9 zc_6 (by decide) fl_X6_9 (fun v5 => ?_)
      refine zg_iload_n 1 rfl d_X6_forget_12 ?_
      refine zg_iconst 0 rfl d_X6_forget_13 ?_
      refine zg_ast0 d_X6_forget_14 (fun h6 => ?_)
      refine zg_iinc 1 (s1 + 1) [(1, .int (s1 + 1)), (0, .ref a0)] d_X6_forget_15 rfl rfl (by decide) rfl ?_
      refine zg_goto d_X6_forget_18 ?_
      exact zg_finK (E := 0) [1, 0] rfl rfl (fun q => q)
  · refine zg_aload_n 0 rfl d_X6_forget_21 ?_
    refine zg_getR d_X6_forget_22 zc_6 (by decide) fl_X6_51 (fun v7 => ?_)
    refine zg_cVv (b := v7) (As := []) (rest := []) (0, 0) d_X6_forget_25 zc_2 rfl cw_X6_74 wi_X2_forget ws_X2_forget rfl rfl (Nat.le_of_ble_eq_true rfl) (by decide) (by decide) ⟨by decide, by decide⟩ rfl (t_X2_forget v7 h4) (fun v9 h8 => ?_)
    refine zg_aload_n 0 rfl d_X6_forget_28 ?_
    refine zg_iconst 0 rfl d_X6_forget_29 ?_
    refine zg_putV d_X6_forget_30 zc_6 (by decide) fl_X6_55 rfl rfl rfl (fun h10 => ?_)
    refine zg_aload_n 0 rfl d_X6_forget_33 ?_
    refine zg_iconst 0 rfl d_X6_forget_34 ?_
    refine zg_putV d_X6_forget_35 zc_6 (by decide) fl_X6_59 rfl rfl rfl (fun h11 => ?_)
    refine zg_aload_n 0 rfl d_X6_forget_38 ?_
    refine zg_iconst 0 rfl d_X6_forget_39 ?_
    refine zg_putV d_X6_forget_40 zc_6 (by decide) fl_X6_62 rfl rfl rfl (fun h12 => ?_)
    refine zg_aload_n 0 rfl d_X6_forget_43 ?_
    refine zg_iconst 0 rfl d_X6_forget_44 ?_
    refine zg_putV d_X6_forget_45 zc_6 (by decide) fl_X6_65 rfl rfl rfl (fun h13 => ?_)
    refine zg_aload_n 0 rfl d_X6_forget_48 ?_
    refine zg_bipush 6 rfl d_X6_forget_49 ?_
    refine zg_putV d_X6_forget_51 zc_6 (by decide) fl_X6_68 rfl rfl rfl (fun h14 => ?_)
    refine zg_aload_n 0 rfl d_X6_forget_54 ?_
    refine zg_bipush 9 rfl d_X6_forget_55 ?_
    refine zg_putV d_X6_forget_57 zc_6 (by decide) fl_X6_71 rfl rfl rfl (fun h15 => ?_)
    exact zg_vretK d_X6_forget_60 rfl ⟨Nat.le_of_ble_eq_true rfl, Nat.le_of_ble_eq_true rfl⟩ (fun q => q)
abbrev M_X4_readText : zMt := (RX4, cX4_readText, 5, 7, 190, (some .int), "readText", 0, 0)
theorem d_X4_readText_0 : zDc M_X4_readText 0 (.aload_n 0) 1 1 := ⟨by decide +kernel, rfl⟩
theorem d_X4_readText_1 : zDc M_X4_readText 1 (.getfield 22) 3 4 := ⟨by decide +kernel, rfl⟩
theorem d_X4_readText_4 : zDc M_X4_readText 4 (.invokevirtual 44) 3 7 := ⟨by decide +kernel, rfl⟩
theorem d_X4_readText_7 : zDc M_X4_readText 7 (.aload_n 0) 1 8 := ⟨by decide +kernel, rfl⟩
theorem d_X4_readText_8 : zDc M_X4_readText 8 (.aload_n 1) 1 9 := ⟨by decide +kernel, rfl⟩
theorem d_X4_readText_9 : zDc M_X4_readText 9 (.putfield 15) 3 12 := ⟨by decide +kernel, rfl⟩
theorem d_X4_readText_12 : zDc M_X4_readText 12 (.aload_n 0) 1 13 := ⟨by decide +kernel, rfl⟩
theorem d_X4_readText_13 : zDc M_X4_readText 13 (.iload_n 2) 1 14 := ⟨by decide +kernel, rfl⟩
theorem d_X4_readText_14 : zDc M_X4_readText 14 (.aload_n 1) 1 15 := ⟨by decide +kernel, rfl⟩
theorem d_X4_readText_15 : zDc M_X4_readText 15 (.arraylength) 1 16 := ⟨by decide +kernel, rfl⟩
theorem d_X4_readText_16 : zDc M_X4_readText 16 (.invokestatic 47) 3 19 := ⟨by decide +kernel, rfl⟩
theorem d_X4_readText_19 : zDc M_X4_readText 19 (.putfield 53) 3 22 := ⟨by decide +kernel, rfl⟩
theorem d_X4_readText_22 : zDc M_X4_readText 22 (.aload_n 0) 1 23 := ⟨by decide +kernel, rfl⟩
theorem d_X4_readText_23 : zDc M_X4_readText 23 (.iconst 0) 1 24 := ⟨by decide +kernel, rfl⟩
theorem d_X4_readText_24 : zDc M_X4_readText 24 (.putfield 56) 3 27 := ⟨by decide +kernel, rfl⟩
theorem d_X4_readText_27 : zDc M_X4_readText 27 (.aload_n 0) 1 28 := ⟨by decide +kernel, rfl⟩
theorem d_X4_readText_28 : zDc M_X4_readText 28 (.iconst 0) 1 29 := ⟨by decide +kernel, rfl⟩
theorem d_X4_readText_29 : zDc M_X4_readText 29 (.putfield 59) 3 32 := ⟨by decide +kernel, rfl⟩
theorem d_X4_readText_32 : zDc M_X4_readText 32 (.aload_n 0) 1 33 := ⟨by decide +kernel, rfl⟩
theorem d_X4_readText_33 : zDc M_X4_readText 33 (.iconst 0) 1 34 := ⟨by decide +kernel, rfl⟩
theorem d_X4_readText_34 : zDc M_X4_readText 34 (.putfield 29) 3 37 := ⟨by decide +kernel, rfl⟩
theorem d_X4_readText_37 : zDc M_X4_readText 37 (.aload_n 0) 1 38 := ⟨by decide +kernel, rfl⟩
theorem d_X4_readText_38 : zDc M_X4_readText 38 (.iconst (-1)) 1 39 := ⟨by decide +kernel, rfl⟩
theorem d_X4_readText_39 : zDc M_X4_readText 39 (.putfield 33) 3 42 := ⟨by decide +kernel, rfl⟩
theorem d_X4_readText_42 : zDc M_X4_readText 42 (.aload_n 0) 1 43 := ⟨by decide +kernel, rfl⟩
theorem d_X4_readText_43 : zDc M_X4_readText 43 (.invokevirtual 62) 3 46 := ⟨by decide +kernel, rfl⟩
theorem d_X4_readText_46 : zDc M_X4_readText 46 (.iconst 0) 1 47 := ⟨by decide +kernel, rfl⟩
theorem d_X4_readText_47 : zDc M_X4_readText 47 (.istore_n 3) 1 48 := ⟨by decide +kernel, rfl⟩
theorem d_X4_readText_48 : zDc M_X4_readText 48 (.iconst 0) 1 49 := ⟨by decide +kernel, rfl⟩
theorem d_X4_readText_49 : zDc M_X4_readText 49 (.istore 4) 2 51 := ⟨by decide +kernel, rfl⟩
theorem d_X4_readText_51 : zDc M_X4_readText 51 (.iload 4) 2 53 := ⟨by decide +kernel, rfl⟩
theorem d_X4_readText_53 : zDc M_X4_readText 53 (.aload_n 0) 1 54 := ⟨by decide +kernel, rfl⟩
theorem d_X4_readText_54 : zDc M_X4_readText 54 (.getfield 53) 3 57 := ⟨by decide +kernel, rfl⟩
theorem d_X4_readText_57 : zDj M_X4_readText 57 (.if_icmp .ge 38) 38 60 95 := ⟨by decide +kernel, rfl, by decide⟩
theorem d_X4_readText_60 : zDc M_X4_readText 60 (.aload_n 0) 1 61 := ⟨by decide +kernel, rfl⟩
theorem d_X4_readText_61 : zDc M_X4_readText 61 (.getfield 29) 3 64 := ⟨by decide +kernel, rfl⟩
theorem d_X4_readText_64 : zDj M_X4_readText 64 (.ifCond .ne 31) 31 67 95 := ⟨by decide +kernel, rfl, by decide⟩
theorem d_X4_readText_67 : zDc M_X4_readText 67 (.aload_n 0) 1 68 := ⟨by decide +kernel, rfl⟩
theorem d_X4_readText_68 : zDc M_X4_readText 68 (.getfield 65) 3 71 := ⟨by decide +kernel, rfl⟩
theorem d_X4_readText_71 : zDc M_X4_readText 71 (.bipush 38) 2 73 := ⟨by decide +kernel, rfl⟩
theorem d_X4_readText_73 : zDj M_X4_readText 73 (.if_icmp .eq 22) 22 76 95 := ⟨by decide +kernel, rfl, by decide⟩
theorem d_X4_readText_76 : zDc M_X4_readText 76 (.aload_n 0) 1 77 := ⟨by decide +kernel, rfl⟩
theorem d_X4_readText_77 : zDc M_X4_readText 77 (.invokevirtual 68) 3 80 := ⟨by decide +kernel, rfl⟩
theorem d_X4_readText_80 : zDc M_X4_readText 80 (.aload_n 0) 1 81 := ⟨by decide +kernel, rfl⟩
theorem d_X4_readText_81 : zDc M_X4_readText 81 (.bipush 35) 2 83 := ⟨by decide +kernel, rfl⟩
theorem d_X4_readText_83 : zDc M_X4_readText 83 (.invokevirtual 71) 3 86 := ⟨by decide +kernel, rfl⟩
theorem d_X4_readText_86 : zDc M_X4_readText 86 (.iinc 3 1) 3 89 := ⟨by decide +kernel, rfl⟩
theorem d_X4_readText_89 : zDc M_X4_readText 89 (.iinc 4 1) 3 92 := ⟨by decide +kernel, rfl⟩
theorem d_X4_readText_92 : zDj M_X4_readText 92 (.goto (-41)) (-41) 95 51 := ⟨by decide +kernel, rfl, by decide⟩
theorem d_X4_readText_95 : zDc M_X4_readText 95 (.aload_n 0) 1 96 := ⟨by decide +kernel, rfl⟩
theorem d_X4_readText_96 : zDc M_X4_readText 96 (.getfield 29) 3 99 := ⟨by decide +kernel, rfl⟩
theorem d_X4_readText_99 : zDj M_X4_readText 99 (.ifCond .ne 7) 7 102 106 := ⟨by decide +kernel, rfl, by decide⟩
theorem d_X4_readText_102 : zDc M_X4_readText 102 (.iload_n 3) 1 103 := ⟨by decide +kernel, rfl⟩
theorem d_X4_readText_103 : zDj M_X4_readText 103 (.goto 4) 4 106 107 := ⟨by decide +kernel, rfl, by decide⟩
theorem d_X4_readText_106 : zDc M_X4_readText 106 (.iconst (-1)) 1 107 := ⟨by decide +kernel, rfl⟩
theorem d_X4_readText_107 : zDc M_X4_readText 107 (.ireturn) 1 108 := ⟨by decide +kernel, rfl⟩
def f_X4_readText (a0 : Nat) (a1 : Nat) (a2 : Int32) (h0 : zHp) : Option (Int32 × zHp) :=
  zob (zgR h0 a0 4 10) (fun v1 =>
  zbd (zcv 6 v1 h0 (f_X6_forget v1 h0)) (fun v3 h2 =>
  zob (zpV h2 a0 4 1 (.ref a1)) (fun h4 =>
  zob (zln h4 a1) (fun v5 =>
  zob (zpV h4 a0 4 2 (.int (zmn a2 v5))) (fun h6 =>
  zob (zpV h6 a0 4 3 (.int 0)) (fun h7 =>
  zob (zpV h7 a0 4 9 (.int 0)) (fun h8 =>
  zob (zpV h8 a0 4 14 (.int 0)) (fun h9 =>
  zob (zpV h9 a0 4 15 (.int (-1))) (fun h10 =>
  zbd (zcv 4 a0 h10 (f_X4_advance a0 h10)) (fun v12 h11 =>
  zbd (
  zlp (σ := (Int32 × Int32)) (β := (Int32 × Int32)) zLF (fun s13 h14 =>
  zob (zgI h14 a0 4 2) (fun v17 =>
  if v17 ≤ s13.2 then
  some ((.inr (s13.1, s13.2)), h14)
  else
  zob (zgI h14 a0 4 14) (fun v18 =>
  if v18 = 0 then
  zob (zgI h14 a0 4 4) (fun v19 =>
  if v19 = 38 then
  some ((.inr (s13.1, s13.2)), h14)
  else
  zbd (zcv 4 a0 h14 (f_X4_readLine a0 h14)) (fun v21 h20 =>
  zbd (zcv 4 a0 h20 (f_X4_expect a0 35 h20)) (fun v23 h22 =>
  some ((.inl ((s13.1 + 1), (s13.2 + 1))), h22))))
  else
  some ((.inr (s13.1, s13.2)), h14)))) (0, 0) h11) (fun e15 h16 =>
  zob (zgI h16 a0 4 14) (fun v24 =>
  if v24 = 0 then
  some (e15.1, h16)
  else
  some ((-1), h16)))))))))))))
set_option maxRecDepth 100000 in
set_option maxHeartbeats 4000000 in
theorem t_X4_readText (a0 : Nat) (a1 : Nat) (a2 : Int32) (h0 : zHp) : ∀ (r : Int32) (h' : zHp), f_X4_readText a0 a1 a2 h0 = some (r, h') → zCt yX4_readText (.code yX4_readText cX4_readText 5 (some .int)) 7 190 0 0 [.ref a0, .ref a1, .int a2] h0 (some (.int r)) h' := by
  refine zct_of M_X4_readText yX4_readText (by decide) rfl rfl [.ref a0, .ref a1, .int a2] h0 (Nat.le_of_ble_eq_true rfl) (fun r => some (.int r)) (fun X => ?_)
  show zG X M_X4_readText (0, 0) 0 [(0, .ref a0), (1, .ref a1), (2, .int a2)] [] h0 (f_X4_readText a0 a1 a2 h0) (fun (r : Int32) h' => zKe X (some (.int r)) h')
  unfold f_X4_readText
  refine zg_aload_n 0 rfl d_X4_readText_0 ?_
  refine zg_getR d_X4_readText_1 zc_4 (by decide) fl_X4_22 (fun v1 => ?_)
  refine zg_cVv (b := v1) (As := []) (rest := []) (0, 0) d_X4_readText_4 zc_6 rfl cw_X4_44 wi_X6_forget ws_X6_forget rfl rfl (Nat.le_of_ble_eq_true rfl) (by decide) (by decide) ⟨by decide, by decide⟩ rfl (t_X6_forget v1 h0) (fun v3 h2 => ?_)
  refine zg_aload_n 0 rfl d_X4_readText_7 ?_
  refine zg_aload_n 1 rfl d_X4_readText_8 ?_
  refine zg_putV d_X4_readText_9 zc_4 (by decide) fl_X4_15 rfl rfl rfl (fun h4 => ?_)
  refine zg_aload_n 0 rfl d_X4_readText_12 ?_
  refine zg_iload_n 2 rfl d_X4_readText_13 ?_
  refine zg_aload_n 1 rfl d_X4_readText_14 ?_
  refine zg_len d_X4_readText_15 (fun v5 => ?_)
  refine zg_mmin d_X4_readText_16 ml_X4_47 (by decide) (Nat.le_of_ble_eq_true rfl) ⟨Nat.le_of_ble_eq_true rfl, Nat.le_of_ble_eq_true rfl⟩ ?_
  refine zg_putV d_X4_readText_19 zc_4 (by decide) fl_X4_53 rfl rfl rfl (fun h6 => ?_)
  refine zg_aload_n 0 rfl d_X4_readText_22 ?_
  refine zg_iconst 0 rfl d_X4_readText_23 ?_
  refine zg_putV d_X4_readText_24 zc_4 (by decide) fl_X4_56 rfl rfl rfl (fun h7 => ?_)
  refine zg_aload_n 0 rfl d_X4_readText_27 ?_
  refine zg_iconst 0 rfl d_X4_readText_28 ?_
  refine zg_putV d_X4_readText_29 zc_4 (by decide) fl_X4_59 rfl rfl rfl (fun h8 => ?_)
  refine zg_aload_n 0 rfl d_X4_readText_32 ?_
  refine zg_iconst 0 rfl d_X4_readText_33 ?_
  refine zg_putV d_X4_readText_34 zc_4 (by decide) fl_X4_29 rfl rfl rfl (fun h9 => ?_)
  refine zg_aload_n 0 rfl d_X4_readText_37 ?_
  refine zg_iconst (-1) rfl d_X4_readText_38 ?_
  refine zg_putV d_X4_readText_39 zc_4 (by decide) fl_X4_33 rfl rfl rfl (fun h10 => ?_)
  refine zg_aload_n 0 rfl d_X4_readText_42 ?_
  refine zg_cVv (b := a0) (As := []) (rest := []) (0, 0) d_X4_readText_43 zc_4 rfl cw_X4_62 wi_X4_advance ws_X4_advance rfl rfl (Nat.le_of_ble_eq_true rfl) (by decide) (by decide) ⟨by decide, by decide⟩ rfl (t_X4_advance a0 h10) (fun v12 h11 => ?_)
  refine zg_iconst 0 rfl d_X4_readText_46 ?_
  refine zg_istore_n [(3, .int 0), (0, .ref a0), (1, .ref a1), (2, .int a2)] d_X4_readText_47 rfl (by decide) rfl ?_
  refine zg_iconst 0 rfl d_X4_readText_48 ?_
  refine zg_istore [(4, .int 0), (3, .int 0), (0, .ref a0), (1, .ref a1), (2, .int a2)] d_X4_readText_49 (by decide) rfl ?_
  refine zg_bd (E := 95) (el := (fun (e15 : (Int32 × Int32)) => [(0, .ref a0), (1, .ref a1), (2, .int a2), (3, .int e15.1), (4, .int e15.2)])) (es := fun _ => []) (zg_sub [2, 3, 4, 1, 0] rfl (zg_lp (el := (fun (s13 : (Int32 × Int32)) => [(0, .ref a0), (1, .ref a1), (2, .int a2), (3, .int s13.1), (4, .int s13.2)])) (fun s13 h14 => ?_) (0, 0) h11)) (fun e15 h16 => ?_)
  · refine zg_iload 4 rfl d_X4_readText_51 ?_
    refine zg_aload_n 0 rfl d_X4_readText_53 ?_
    refine zg_getI d_X4_readText_54 zc_4 (by decide) fl_X4_53 (fun v17 => ?_)
    refine zg_icmp_ge d_X4_readText_57 ?_ ?_
    · exact zg_finK (E := 0) [0, 1, 2, 3, 4] rfl rfl (fun q => q)
    · refine zg_aload_n 0 rfl d_X4_readText_60 ?_
      refine zg_getI d_X4_readText_61 zc_4 (by decide) fl_X4_29 (fun v18 => ?_)
      refine zg_if_ne d_X4_readText_64 ?_ ?_
      · refine zg_aload_n 0 rfl d_X4_readText_67 ?_
        refine zg_getI d_X4_readText_68 zc_4 (by decide) fl_X4_65 (fun v19 => ?_)
        refine zg_bipush 38 rfl d_X4_readText_71 ?_
        refine zg_icmp_eq d_X4_readText_73 ?_ ?_
        · exact zg_finK (E := 0) [0, 1, 2, 3, 4] rfl rfl (fun q => q)
        · refine zg_aload_n 0 rfl d_X4_readText_76 ?_
          refine zg_cVv (b := a0) (As := []) (rest := []) (0, 0) d_X4_readText_77 zc_4 rfl cw_X4_68 wi_X4_readLine ws_X4_readLine rfl rfl (Nat.le_of_ble_eq_true rfl) (by decide) (by decide) ⟨by decide, by decide⟩ rfl (t_X4_readLine a0 h14) (fun v21 h20 => ?_)
          refine zg_aload_n 0 rfl d_X4_readText_80 ?_
          refine zg_bipush 35 rfl d_X4_readText_81 ?_
          refine zg_cVv (b := a0) (As := [.int 35]) (rest := []) (0, 0) d_X4_readText_83 zc_4 rfl cw_X4_71 wi_X4_expect ws_X4_expect rfl rfl (Nat.le_of_ble_eq_true rfl) (by decide) (by decide) ⟨by decide, by decide⟩ rfl (t_X4_expect a0 35 h20) (fun v23 h22 => ?_)
          refine zg_iinc 3 (s13.1 + 1) [(3, .int (s13.1 + 1)), (0, .ref a0), (1, .ref a1), (2, .int a2), (4, .int s13.2)] d_X4_readText_86 rfl rfl (by decide) rfl ?_
          refine zg_iinc 4 (s13.2 + 1) [(4, .int (s13.2 + 1)), (3, .int (s13.1 + 1)), (0, .ref a0), (1, .ref a1), (2, .int a2)] d_X4_readText_89 rfl rfl (by decide) rfl ?_
          refine zg_goto d_X4_readText_92 ?_
          exact zg_finK (E := 0) [2, 3, 4, 1, 0] rfl rfl (fun q => q)
      · exact zg_finK (E := 0) [0, 1, 2, 3, 4] rfl rfl (fun q => q)
  · refine zg_aload_n 0 rfl d_X4_readText_95 ?_
    refine zg_getI d_X4_readText_96 zc_4 (by decide) fl_X4_29 (fun v24 => ?_)
    refine zg_if_ne d_X4_readText_99 ?_ ?_
    · refine zg_iload_n 3 rfl d_X4_readText_102 ?_
      refine zg_goto d_X4_readText_103 ?_
      exact zg_iretK d_X4_readText_107 rfl ⟨Nat.le_of_ble_eq_true rfl, Nat.le_of_ble_eq_true rfl⟩ (fun q => q)
    · refine zg_iconst (-1) rfl d_X4_readText_106 ?_
      exact zg_iretK d_X4_readText_107 rfl ⟨Nat.le_of_ble_eq_true rfl, Nat.le_of_ble_eq_true rfl⟩ (fun q => q)
abbrev M_X4_takeTold : zMt := (RX4, cX4_takeTold, 3, 1, 60, (some (.object "CloudSchool$Told")), "takeTold", 0, 0)
theorem d_X4_takeTold_0 : zDc M_X4_takeTold 0 (.aload_n 0) 1 1 := ⟨by decide +kernel, rfl⟩
theorem d_X4_takeTold_1 : zDc M_X4_takeTold 1 (.getfield 22) 3 4 := ⟨by decide +kernel, rfl⟩
theorem d_X4_takeTold_4 : zDc M_X4_takeTold 4 (.astore_n 2) 1 5 := ⟨by decide +kernel, rfl⟩
theorem d_X4_takeTold_5 : zDc M_X4_takeTold 5 (.aload_n 0) 1 6 := ⟨by decide +kernel, rfl⟩
theorem d_X4_takeTold_6 : zDc M_X4_takeTold 6 (.aload_n 1) 1 7 := ⟨by decide +kernel, rfl⟩
theorem d_X4_takeTold_7 : zDc M_X4_takeTold 7 (.putfield 22) 3 10 := ⟨by decide +kernel, rfl⟩
theorem d_X4_takeTold_10 : zDc M_X4_takeTold 10 (.aload_n 2) 1 11 := ⟨by decide +kernel, rfl⟩
theorem d_X4_takeTold_11 : zDc M_X4_takeTold 11 (.areturn) 1 12 := ⟨by decide +kernel, rfl⟩
def f_X4_takeTold (a0 : Nat) (a1 : Nat) (h0 : zHp) : Option (Nat × zHp) :=
  zob (zgR h0 a0 4 10) (fun v1 =>
  zob (zpV h0 a0 4 10 (.ref a1)) (fun h2 =>
  some (v1, h2)))
set_option maxRecDepth 100000 in
set_option maxHeartbeats 4000000 in
theorem t_X4_takeTold (a0 : Nat) (a1 : Nat) (h0 : zHp) : ∀ (r : Nat) (h' : zHp), f_X4_takeTold a0 a1 h0 = some (r, h') → zCt yX4_takeTold (.code yX4_takeTold cX4_takeTold 3 (some (.object "CloudSchool$Told"))) 1 60 0 0 [.ref a0, .ref a1] h0 (some (.ref r)) h' := by
  refine zct_of M_X4_takeTold yX4_takeTold (by decide) rfl rfl [.ref a0, .ref a1] h0 (Nat.le_of_ble_eq_true rfl) (fun r => some (.ref r)) (fun X => ?_)
  show zG X M_X4_takeTold (0, 0) 0 [(0, .ref a0), (1, .ref a1)] [] h0 (f_X4_takeTold a0 a1 h0) (fun (r : Nat) h' => zKe X (some (.ref r)) h')
  unfold f_X4_takeTold
  refine zg_aload_n 0 rfl d_X4_takeTold_0 ?_
  refine zg_getR d_X4_takeTold_1 zc_4 (by decide) fl_X4_22 (fun v1 => ?_)
  refine zg_astore_n [(2, .ref v1), (0, .ref a0), (1, .ref a1)] d_X4_takeTold_4 rfl (by decide) rfl ?_
  refine zg_aload_n 1 rfl d_X4_takeTold_5 ?_
  refine zg_aload_n 2 rfl d_X4_takeTold_6 ?_
  refine zg_putV d_X4_takeTold_7 zc_4 (by decide) fl_X4_22 rfl rfl rfl (fun h2 => ?_)
  refine zg_aload_n 0 rfl d_X4_takeTold_10 ?_
  exact zg_aretK d_X4_takeTold_11 rfl ⟨Nat.le_of_ble_eq_true rfl, Nat.le_of_ble_eq_true rfl⟩ (fun q => q)

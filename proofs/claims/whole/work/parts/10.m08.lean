theorem fl_X4_211 : Cond.fieldLink RX4 211 (TX6 17).1 (TX6 17).2.1 (TX6 17).2.2.1 ∈ zT := zw_of _ 255 (by decide +kernel) (by decide +kernel)
theorem kc_X4_217 : Cond.constant RX4 217 99999 ∈ zT := zw_of _ 722 (by decide +kernel) (by decide +kernel)
theorem fl_X4_202 : Cond.fieldLink RX4 202 (TX6 16).1 (TX6 16).2.1 (TX6 16).2.2.1 ∈ zT := zw_of _ 252 (by decide +kernel) (by decide +kernel)
theorem fl_X4_205 : Cond.fieldLink RX4 205 (TX6 11).1 (TX6 11).2.1 (TX6 11).2.2.1 ∈ zT := zw_of _ 233 (by decide +kernel) (by decide +kernel)
theorem ml_X4_112 : Cond.methodLink RX4 112 yX4_readGround ∈ zT := zw_of _ 659 (by decide +kernel) (by decide +kernel)
theorem cd_X4_readGround : Cond.code yX4_readGround cX4_readGround 3 none ∈ zT := zw_of _ 662 (by decide +kernel) (by decide +kernel)
theorem cw_X4_112 : zCw RX4 112 yX4_readGround cX4_readGround 3 none 1 := ⟨ml_X4_112, ni_X4, cd_X4_readGround, by decide, by decide, by decide +kernel⟩
theorem wi_X4_readGround : Cond.instanceMethod yX4_readGround ∈ zT := zw_of _ 661 (by decide +kernel) (by decide +kernel)
theorem ws_X4_readGround : Cond.selects RX4 yX4_readGround yX4_readGround ∈ zT := zw_of _ 6 (by decide +kernel) (by decide +kernel)
theorem ml_X4_115 : Cond.methodLink RX4 115 yX4_readField ∈ zT := zw_of _ 679 (by decide +kernel) (by decide +kernel)
theorem cd_X4_readField : Cond.code yX4_readField cX4_readField 2 none ∈ zT := zw_of _ 682 (by decide +kernel) (by decide +kernel)
theorem cw_X4_115 : zCw RX4 115 yX4_readField cX4_readField 2 none 0 := ⟨ml_X4_115, ni_X4, cd_X4_readField, by decide, by decide, by decide +kernel⟩
theorem wi_X4_readField : Cond.instanceMethod yX4_readField ∈ zT := zw_of _ 681 (by decide +kernel) (by decide +kernel)
theorem ws_X4_readField : Cond.selects RX4 yX4_readField yX4_readField ∈ zT := zw_of _ 11 (by decide +kernel) (by decide +kernel)
theorem ml_X4_118 : Cond.methodLink RX4 118 yX4_readCloud ∈ zT := zw_of _ 694 (by decide +kernel) (by decide +kernel)
theorem cd_X4_readCloud : Cond.code yX4_readCloud cX4_readCloud 2 none ∈ zT := zw_of _ 697 (by decide +kernel) (by decide +kernel)
theorem cw_X4_118 : zCw RX4 118 yX4_readCloud cX4_readCloud 2 none 0 := ⟨ml_X4_118, ni_X4, cd_X4_readCloud, by decide, by decide, by decide +kernel⟩
theorem wi_X4_readCloud : Cond.instanceMethod yX4_readCloud ∈ zT := zw_of _ 696 (by decide +kernel) (by decide +kernel)
theorem ws_X4_readCloud : Cond.selects RX4 yX4_readCloud yX4_readCloud ∈ zT := zw_of _ 14 (by decide +kernel) (by decide +kernel)
theorem ml_X4_121 : Cond.methodLink RX4 121 yX4_readChild ∈ zT := zw_of _ 698 (by decide +kernel) (by decide +kernel)
theorem cd_X4_readChild : Cond.code yX4_readChild cX4_readChild 2 none ∈ zT := zw_of _ 701 (by decide +kernel) (by decide +kernel)
theorem cw_X4_121 : zCw RX4 121 yX4_readChild cX4_readChild 2 none 0 := ⟨ml_X4_121, ni_X4, cd_X4_readChild, by decide, by decide, by decide +kernel⟩
theorem wi_X4_readChild : Cond.instanceMethod yX4_readChild ∈ zT := zw_of _ 700 (by decide +kernel) (by decide +kernel)
theorem ws_X4_readChild : Cond.selects RX4 yX4_readChild yX4_readChild ∈ zT := zw_of _ 15 (by decide +kernel) (by decide +kernel)
theorem ml_X4_124 : Cond.methodLink RX4 124 yX4_readWind ∈ zT := zw_of _ 702 (by decide +kernel) (by decide +kernel)
theorem cd_X4_readWind : Cond.code yX4_readWind cX4_readWind 2 none ∈ zT := zw_of _ 705 (by decide +kernel) (by decide +kernel)
theorem cw_X4_124 : zCw RX4 124 yX4_readWind cX4_readWind 2 none 0 := ⟨ml_X4_124, ni_X4, cd_X4_readWind, by decide, by decide, by decide +kernel⟩
theorem wi_X4_readWind : Cond.instanceMethod yX4_readWind ∈ zT := zw_of _ 704 (by decide +kernel) (by decide +kernel)
theorem ws_X4_readWind : Cond.selects RX4 yX4_readWind yX4_readWind ∈ zT := zw_of _ 16 (by decide +kernel) (by decide +kernel)
theorem ml_X4_127 : Cond.methodLink RX4 127 yX4_readRain ∈ zT := zw_of _ 706 (by decide +kernel) (by decide +kernel)
theorem cd_X4_readRain : Cond.code yX4_readRain cX4_readRain 1 none ∈ zT := zw_of _ 709 (by decide +kernel) (by decide +kernel)
theorem cw_X4_127 : zCw RX4 127 yX4_readRain cX4_readRain 1 none 0 := ⟨ml_X4_127, ni_X4, cd_X4_readRain, by decide, by decide, by decide +kernel⟩
theorem wi_X4_readRain : Cond.instanceMethod yX4_readRain ∈ zT := zw_of _ 708 (by decide +kernel) (by decide +kernel)
theorem ws_X4_readRain : Cond.selects RX4 yX4_readRain yX4_readRain ∈ zT := zw_of _ 17 (by decide +kernel) (by decide +kernel)
theorem ml_X4_130 : Cond.methodLink RX4 130 yX4_readMost ∈ zT := zw_of _ 714 (by decide +kernel) (by decide +kernel)
theorem cd_X4_readMost : Cond.code yX4_readMost cX4_readMost 1 none ∈ zT := zw_of _ 717 (by decide +kernel) (by decide +kernel)
theorem cw_X4_130 : zCw RX4 130 yX4_readMost cX4_readMost 1 none 0 := ⟨ml_X4_130, ni_X4, cd_X4_readMost, by decide, by decide, by decide +kernel⟩
theorem wi_X4_readMost : Cond.instanceMethod yX4_readMost ∈ zT := zw_of _ 716 (by decide +kernel) (by decide +kernel)
theorem ws_X4_readMost : Cond.selects RX4 yX4_readMost yX4_readMost ∈ zT := zw_of _ 19 (by decide +kernel) (by decide +kernel)
theorem ml_X4_133 : Cond.methodLink RX4 133 yX4_readSeed ∈ zT := zw_of _ 718 (by decide +kernel) (by decide +kernel)
theorem cd_X4_readSeed : Cond.code yX4_readSeed cX4_readSeed 1 none ∈ zT := zw_of _ 721 (by decide +kernel) (by decide +kernel)
theorem cw_X4_133 : zCw RX4 133 yX4_readSeed cX4_readSeed 1 none 0 := ⟨ml_X4_133, ni_X4, cd_X4_readSeed, by decide, by decide, by decide +kernel⟩
theorem wi_X4_readSeed : Cond.instanceMethod yX4_readSeed ∈ zT := zw_of _ 720 (by decide +kernel) (by decide +kernel)
theorem ws_X4_readSeed : Cond.selects RX4 yX4_readSeed yX4_readSeed ∈ zT := zw_of _ 20 (by decide +kernel) (by decide +kernel)
theorem ml_X4_136 : Cond.methodLink RX4 136 yX4_readLaw ∈ zT := zw_of _ 723 (by decide +kernel) (by decide +kernel)
theorem cd_X4_readLaw : Cond.code yX4_readLaw cX4_readLaw 4 none ∈ zT := zw_of _ 726 (by decide +kernel) (by decide +kernel)
theorem cw_X4_136 : zCw RX4 136 yX4_readLaw cX4_readLaw 4 none 0 := ⟨ml_X4_136, ni_X4, cd_X4_readLaw, by decide, by decide, by decide +kernel⟩
theorem wi_X4_readLaw : Cond.instanceMethod yX4_readLaw ∈ zT := zw_of _ 725 (by decide +kernel) (by decide +kernel)
theorem ws_X4_readLaw : Cond.selects RX4 yX4_readLaw yX4_readLaw ∈ zT := zw_of _ 21 (by decide +kernel) (by decide +kernel)
theorem fl_X6_9 : Cond.fieldLink RX6 9 (TX6 0).1 (TX6 0).2.1 (TX6 0).2.2.1 ∈ zT := zw_of _ 194 (by decide +kernel) (by decide +kernel)
theorem fl_X6_51 : Cond.fieldLink RX6 51 (TX6 12).1 (TX6 12).2.1 (TX6 12).2.2.1 ∈ zT := zw_of _ 234 (by decide +kernel) (by decide +kernel)
theorem ml_X6_74 : Cond.methodLink RX6 74 yX2_forget ∈ zT := zw_of _ 622 (by decide +kernel) (by decide +kernel)
theorem cd_X2_forget : Cond.code yX2_forget cX2_forget 2 none ∈ zT := zw_of _ 625 (by decide +kernel) (by decide +kernel)
theorem cw_X6_74 : zCw RX6 74 yX2_forget cX2_forget 2 none 0 := ⟨ml_X6_74, ni_X2, cd_X2_forget, by decide, by decide, by decide +kernel⟩
theorem wi_X2_forget : Cond.instanceMethod yX2_forget ∈ zT := zw_of _ 623 (by decide +kernel) (by decide +kernel)
theorem ws_X2_forget : Cond.selects RX2 yX2_forget yX2_forget ∈ zT := zw_of _ 624 (by decide +kernel) (by decide +kernel)
theorem fl_X6_55 : Cond.fieldLink RX6 55 (TX6 13).1 (TX6 13).2.1 (TX6 13).2.2.1 ∈ zT := zw_of _ 238 (by decide +kernel) (by decide +kernel)
theorem fl_X6_59 : Cond.fieldLink RX6 59 (TX6 14).1 (TX6 14).2.1 (TX6 14).2.2.1 ∈ zT := zw_of _ 242 (by decide +kernel) (by decide +kernel)
theorem fl_X6_62 : Cond.fieldLink RX6 62 (TX6 15).1 (TX6 15).2.1 (TX6 15).2.2.1 ∈ zT := zw_of _ 246 (by decide +kernel) (by decide +kernel)
theorem fl_X6_65 : Cond.fieldLink RX6 65 (TX6 16).1 (TX6 16).2.1 (TX6 16).2.2.1 ∈ zT := zw_of _ 250 (by decide +kernel) (by decide +kernel)
theorem fl_X6_68 : Cond.fieldLink RX6 68 (TX6 17).1 (TX6 17).2.1 (TX6 17).2.2.1 ∈ zT := zw_of _ 254 (by decide +kernel) (by decide +kernel)
theorem fl_X6_71 : Cond.fieldLink RX6 71 (TX6 18).1 (TX6 18).2.1 (TX6 18).2.2.1 ∈ zT := zw_of _ 257 (by decide +kernel) (by decide +kernel)
theorem ml_X4_44 : Cond.methodLink RX4 44 yX6_forget ∈ zT := zw_of _ 618 (by decide +kernel) (by decide +kernel)
theorem ni_X6 : Cond.initialized RX6 ∈ zT := zw_of _ 125 (by decide +kernel) (by decide +kernel)
theorem cd_X6_forget : Cond.code yX6_forget cX6_forget 2 none ∈ zT := zw_of _ 621 (by decide +kernel) (by decide +kernel)
theorem cw_X4_44 : zCw RX4 44 yX6_forget cX6_forget 2 none 0 := ⟨ml_X4_44, ni_X6, cd_X6_forget, by decide, by decide, by decide +kernel⟩
theorem wi_X6_forget : Cond.instanceMethod yX6_forget ∈ zT := zw_of _ 619 (by decide +kernel) (by decide +kernel)
theorem ws_X6_forget : Cond.selects RX6 yX6_forget yX6_forget ∈ zT := zw_of _ 620 (by decide +kernel) (by decide +kernel)
theorem ml_X4_47 : Cond.methodLink RX4 47 Lib.Math.min.name ∈ zT := zw_of _ 626 (by decide +kernel) (by decide +kernel)
theorem ml_X4_68 : Cond.methodLink RX4 68 yX4_readLine ∈ zT := zw_of _ 655 (by decide +kernel) (by decide +kernel)
theorem cd_X4_readLine : Cond.code yX4_readLine cX4_readLine 1 none ∈ zT := zw_of _ 658 (by decide +kernel) (by decide +kernel)
theorem cw_X4_68 : zCw RX4 68 yX4_readLine cX4_readLine 1 none 0 := ⟨ml_X4_68, ni_X4, cd_X4_readLine, by decide, by decide, by decide +kernel⟩
theorem wi_X4_readLine : Cond.instanceMethod yX4_readLine ∈ zT := zw_of _ 657 (by decide +kernel) (by decide +kernel)
theorem ws_X4_readLine : Cond.selects RX4 yX4_readLine yX4_readLine ∈ zT := zw_of _ 5 (by decide +kernel) (by decide +kernel)
theorem ml_X4_71 : Cond.methodLink RX4 71 yX4_expect ∈ zT := zw_of _ 781 (by decide +kernel) (by decide +kernel)
theorem cd_X4_expect : Cond.code yX4_expect cX4_expect 2 none ∈ zT := zw_of _ 784 (by decide +kernel) (by decide +kernel)
theorem cw_X4_71 : zCw RX4 71 yX4_expect cX4_expect 2 none 1 := ⟨ml_X4_71, ni_X4, cd_X4_expect, by decide, by decide, by decide +kernel⟩
theorem wi_X4_expect : Cond.instanceMethod yX4_expect ∈ zT := zw_of _ 783 (by decide +kernel) (by decide +kernel)
theorem ws_X4_expect : Cond.selects RX4 yX4_expect yX4_expect ∈ zT := zw_of _ 30 (by decide +kernel) (by decide +kernel)
theorem ml_X5_104 : Cond.methodLink RX5 104 yX5_seenFrom ∈ zT := zw_of _ 857 (by decide +kernel) (by decide +kernel)
theorem cw_X5_104 : zCw RX5 104 yX5_seenFrom cX5_seenFrom 6 (some .int) 3 := ⟨ml_X5_104, ni_X5, cd_X5_seenFrom, by decide, by decide, by decide +kernel⟩
theorem ml_X7_194 : Cond.methodLink RX7 194 yX7_isFrom ∈ zT := zw_of _ 876 (by decide +kernel) (by decide +kernel)
theorem cd_X7_isFrom : Cond.code yX7_isFrom cX7_isFrom 3 (some .boolean) ∈ zT := zw_of _ 878 (by decide +kernel) (by decide +kernel)
theorem cw_X7_194 : zCw RX7 194 yX7_isFrom cX7_isFrom 3 (some .boolean) 3 := ⟨ml_X7_194, ni_X7, cd_X7_isFrom, by decide, by decide, by decide +kernel⟩
theorem wt_X7_isFrom : Cond.static yX7_isFrom ∈ zT := zw_of _ 877 (by decide +kernel) (by decide +kernel)
theorem fl_X7_66 : Cond.fieldLink RX7 66 (TX7 9).1 (TX7 9).2.1 (TX7 9).2.2.1 ∈ zT := zw_of _ 580 (by decide +kernel) (by decide +kernel)
theorem fl_X7_38 : Cond.fieldLink RX7 38 (TX7 4).1 (TX7 4).2.1 (TX7 4).2.2.1 ∈ zT := zw_of _ 575 (by decide +kernel) (by decide +kernel)
theorem ml_X7_228 : Cond.methodLink RX7 228 yX1_skyAfter ∈ zT := zw_of _ 1019 (by decide +kernel) (by decide +kernel)
theorem cd_X1_skyAfter : Cond.code yX1_skyAfter cX1_skyAfter 6 (some (.object "CloudSchool$Sky")) ∈ zT := zw_of _ 1022 (by decide +kernel) (by decide +kernel)
theorem cw_X7_228 : zCw RX7 228 yX1_skyAfter cX1_skyAfter 6 (some (.object "CloudSchool$Sky")) 4 := ⟨ml_X7_228, ni_X1, cd_X1_skyAfter, by decide, by decide, by decide +kernel⟩
theorem wi_X1_skyAfter : Cond.instanceMethod yX1_skyAfter ∈ zT := zw_of _ 1020 (by decide +kernel) (by decide +kernel)
theorem ws_X1_skyAfter : Cond.selects RX1 yX1_skyAfter yX1_skyAfter ∈ zT := zw_of _ 1021 (by decide +kernel) (by decide +kernel)
theorem ml_X7_232 : Cond.methodLink RX7 232 yX5_rainInAll ∈ zT := zw_of _ 1030 (by decide +kernel) (by decide +kernel)
theorem cd_X5_rainInAll : Cond.code yX5_rainInAll cX5_rainInAll 3 (some .int) ∈ zT := zw_of _ 1033 (by decide +kernel) (by decide +kernel)
theorem cw_X7_232 : zCw RX7 232 yX5_rainInAll cX5_rainInAll 3 (some .int) 0 := ⟨ml_X7_232, ni_X5, cd_X5_rainInAll, by decide, by decide, by decide +kernel⟩
theorem wi_X5_rainInAll : Cond.instanceMethod yX5_rainInAll ∈ zT := zw_of _ 1031 (by decide +kernel) (by decide +kernel)
theorem ws_X5_rainInAll : Cond.selects RX5 yX5_rainInAll yX5_rainInAll ∈ zT := zw_of _ 1032 (by decide +kernel) (by decide +kernel)
theorem ml_X7_235 : Cond.methodLink RX7 235 yX5_howManyAre ∈ zT := zw_of _ 1034 (by decide +kernel) (by decide +kernel)
theorem cw_X7_235 : zCw RX7 235 yX5_howManyAre cX5_howManyAre 4 (some .int) 1 := ⟨ml_X7_235, ni_X5, cd_X5_howManyAre, by decide, by decide, by decide +kernel⟩
theorem ml_X7_238 : Cond.methodLink RX7 238 yX5_marksInAll ∈ zT := zw_of _ 1035 (by decide +kernel) (by decide +kernel)
theorem cd_X5_marksInAll : Cond.code yX5_marksInAll cX5_marksInAll 3 (some .int) ∈ zT := zw_of _ 1038 (by decide +kernel) (by decide +kernel)
theorem cw_X7_238 : zCw RX7 238 yX5_marksInAll cX5_marksInAll 3 (some .int) 0 := ⟨ml_X7_238, ni_X5, cd_X5_marksInAll, by decide, by decide, by decide +kernel⟩
theorem wi_X5_marksInAll : Cond.instanceMethod yX5_marksInAll ∈ zT := zw_of _ 1036 (by decide +kernel) (by decide +kernel)
theorem ws_X5_marksInAll : Cond.selects RX5 yX5_marksInAll yX5_marksInAll ∈ zT := zw_of _ 1037 (by decide +kernel) (by decide +kernel)
theorem fl_X7_45 : Cond.fieldLink RX7 45 (TX7 6).1 (TX7 6).2.1 (TX7 6).2.2.1 ∈ zT := zw_of _ 577 (by decide +kernel) (by decide +kernel)
theorem fl_X7_42 : Cond.fieldLink RX7 42 (TX7 5).1 (TX7 5).2.1 (TX7 5).2.2.1 ∈ zT := zw_of _ 576 (by decide +kernel) (by decide +kernel)
theorem ml_X7_328 : Cond.methodLink RX7 328 yX5_copyFrom ∈ zT := zw_of _ 1245 (by decide +kernel) (by decide +kernel)
theorem cw_X7_328 : zCw RX7 328 yX5_copyFrom cX5_copyFrom 3 none 1 := ⟨ml_X7_328, ni_X5, cd_X5_copyFrom, by decide, by decide, by decide +kernel⟩
theorem fl_X7_52 : Cond.fieldLink RX7 52 (TX7 7).1 (TX7 7).2.1 (TX7 7).2.2.1 ∈ zT := zw_of _ 578 (by decide +kernel) (by decide +kernel)
theorem ml_X7_88 : Cond.methodLink RX7 88 yX0_forget ∈ zT := zw_of _ 797 (by decide +kernel) (by decide +kernel)
theorem cd_X0_forget : Cond.code yX0_forget cX0_forget 1 none ∈ zT := zw_of _ 800 (by decide +kernel) (by decide +kernel)
theorem cw_X7_88 : zCw RX7 88 yX0_forget cX0_forget 1 none 0 := ⟨ml_X7_88, ni_X0, cd_X0_forget, by decide, by decide, by decide +kernel⟩
theorem wi_X0_forget : Cond.instanceMethod yX0_forget ∈ zT := zw_of _ 798 (by decide +kernel) (by decide +kernel)
theorem ws_X0_forget : Cond.selects RX0 yX0_forget yX0_forget ∈ zT := zw_of _ 799 (by decide +kernel) (by decide +kernel)
theorem fl_X7_218 : Cond.fieldLink RX7 218 (TX5 11).1 (TX5 11).2.1 (TX5 11).2.2.1 ∈ zT := zw_of _ 435 (by decide +kernel) (by decide +kernel)
theorem fl_X7_215 : Cond.fieldLink RX7 215 (TX5 12).1 (TX5 12).2.1 (TX5 12).2.2.1 ∈ zT := zw_of _ 438 (by decide +kernel) (by decide +kernel)
theorem ml_X7_207 : Cond.methodLink RX7 207 yX0_remember ∈ zT := zw_of _ 921 (by decide +kernel) (by decide +kernel)
theorem cd_X0_remember : Cond.code yX0_remember cX0_remember 5 none ∈ zT := zw_of _ 924 (by decide +kernel) (by decide +kernel)
theorem cw_X7_207 : zCw RX7 207 yX0_remember cX0_remember 5 none 4 := ⟨ml_X7_207, ni_X0, cd_X0_remember, by decide, by decide, by decide +kernel⟩
theorem wi_X0_remember : Cond.instanceMethod yX0_remember ∈ zT := zw_of _ 922 (by decide +kernel) (by decide +kernel)
theorem ws_X0_remember : Cond.selects RX0 yX0_remember yX0_remember ∈ zT := zw_of _ 923 (by decide +kernel) (by decide +kernel)
theorem fl_X7_29 : Cond.fieldLink RX7 29 (TX7 3).1 (TX7 3).2.1 (TX7 3).2.2.1 ∈ zT := zw_of _ 574 (by decide +kernel) (by decide +kernel)
theorem fl_X7_99 : Cond.fieldLink RX7 99 (TX6 13).1 (TX6 13).2.1 (TX6 13).2.2.1 ∈ zT := zw_of _ 239 (by decide +kernel) (by decide +kernel)
theorem ml_X7_168 : Cond.methodLink RX7 168 yX7_isField ∈ zT := zw_of _ 834 (by decide +kernel) (by decide +kernel)
theorem cd_X7_isField : Cond.code yX7_isField cX7_isField 2 (some .boolean) ∈ zT := zw_of _ 837 (by decide +kernel) (by decide +kernel)
theorem cw_X7_168 : zCw RX7 168 yX7_isField cX7_isField 2 (some .boolean) 1 := ⟨ml_X7_168, ni_X7, cd_X7_isField, by decide, by decide, by decide +kernel⟩
theorem wi_X7_isField : Cond.instanceMethod yX7_isField ∈ zT := zw_of _ 836 (by decide +kernel) (by decide +kernel)
theorem ws_X7_isField : Cond.selects RX7 yX7_isField yX7_isField ∈ zT := zw_of _ 32 (by decide +kernel) (by decide +kernel)
theorem ml_X7_315 : Cond.methodLink RX7 315 yX1_drawFrom ∈ zT := zw_of _ 1214 (by decide +kernel) (by decide +kernel)
theorem cd_X1_drawFrom : Cond.code yX1_drawFrom cX1_drawFrom 2 none ∈ zT := zw_of _ 1217 (by decide +kernel) (by decide +kernel)
theorem cw_X7_315 : zCw RX7 315 yX1_drawFrom cX1_drawFrom 2 none 1 := ⟨ml_X7_315, ni_X1, cd_X1_drawFrom, by decide, by decide, by decide +kernel⟩
theorem wi_X1_drawFrom : Cond.instanceMethod yX1_drawFrom ∈ zT := zw_of _ 1215 (by decide +kernel) (by decide +kernel)
theorem ws_X1_drawFrom : Cond.selects RX1 yX1_drawFrom yX1_drawFrom ∈ zT := zw_of _ 1216 (by decide +kernel) (by decide +kernel)
theorem ml_X7_318 : Cond.methodLink RX7 318 yX1_rainByChance ∈ zT := zw_of _ 1218 (by decide +kernel) (by decide +kernel)
theorem cd_X1_rainByChance : Cond.code yX1_rainByChance cX1_rainByChance 5 (some .int) ∈ zT := zw_of _ 1221 (by decide +kernel) (by decide +kernel)
theorem cw_X7_318 : zCw RX7 318 yX1_rainByChance cX1_rainByChance 5 (some .int) 3 := ⟨ml_X7_318, ni_X1, cd_X1_rainByChance, by decide, by decide, by decide +kernel⟩
theorem wi_X1_rainByChance : Cond.instanceMethod yX1_rainByChance ∈ zT := zw_of _ 1219 (by decide +kernel) (by decide +kernel)
theorem ws_X1_rainByChance : Cond.selects RX1 yX1_rainByChance yX1_rainByChance ∈ zT := zw_of _ 1220 (by decide +kernel) (by decide +kernel)
abbrev M_X4_readRain : zMt := (RX4, cX4_readRain, 1, 4, 126, none, "readRain", 0, 0)
theorem d_X4_readRain_0 : zDc M_X4_readRain 0 (.aload_n 0) 1 1 := ⟨by decide +kernel, rfl⟩
theorem d_X4_readRain_1 : zDc M_X4_readRain 1 (.invokevirtual 208) 3 4 := ⟨by decide +kernel, rfl⟩
theorem d_X4_readRain_4 : zDc M_X4_readRain 4 (.aload_n 0) 1 5 := ⟨by decide +kernel, rfl⟩
theorem d_X4_readRain_5 : zDc M_X4_readRain 5 (.getfield 22) 3 8 := ⟨by decide +kernel, rfl⟩
theorem d_X4_readRain_8 : zDc M_X4_readRain 8 (.aload_n 0) 1 9 := ⟨by decide +kernel, rfl⟩
theorem d_X4_readRain_9 : zDc M_X4_readRain 9 (.iconst 1) 1 10 := ⟨by decide +kernel, rfl⟩
theorem d_X4_readRain_10 : zDc M_X4_readRain 10 (.bipush 20) 2 12 := ⟨by decide +kernel, rfl⟩
theorem d_X4_readRain_12 : zDc M_X4_readRain 12 (.invokevirtual 142) 3 15 := ⟨by decide +kernel, rfl⟩
theorem d_X4_readRain_15 : zDc M_X4_readRain 15 (.putfield 211) 3 18 := ⟨by decide +kernel, rfl⟩
theorem d_X4_readRain_18 : zDc M_X4_readRain 18 (.return_) 1 19 := ⟨by decide +kernel, rfl⟩
def f_X4_readRain (a0 : Nat) (h0 : zHp) : Option (Unit × zHp) :=
  zbd (zcv 4 a0 h0 (f_X4_readOnceWord a0 h0)) (fun v2 h1 =>
  zob (zgR h1 a0 4 10) (fun v3 =>
  zbd (zcv 4 a0 h1 (f_X4_readNumber a0 1 20 h1)) (fun v5 h4 =>
  zob (zpV h4 v3 6 17 (.int v5)) (fun h6 =>
  some ((), h6)))))
set_option maxRecDepth 100000 in
set_option maxHeartbeats 4000000 in
theorem t_X4_readRain (a0 : Nat) (h0 : zHp) : ∀ (r : Unit) (h' : zHp), f_X4_readRain a0 h0 = some (r, h') → zCt yX4_readRain (.code yX4_readRain cX4_readRain 1 none) 4 126 0 0 [.ref a0] h0 (none) h' := by
  refine zct_of M_X4_readRain yX4_readRain (by decide) rfl rfl [.ref a0] h0 (Nat.le_of_ble_eq_true rfl) (fun _ => none) (fun X => ?_)
  show zG X M_X4_readRain (0, 0) 0 [(0, .ref a0)] [] h0 (f_X4_readRain a0 h0) (fun (_ : Unit) h' => zKe X (none) h')
  unfold f_X4_readRain
  refine zg_aload_n 0 rfl d_X4_readRain_0 ?_
  refine zg_cVv (b := a0) (As := []) (rest := []) (0, 0) d_X4_readRain_1 zc_4 rfl cw_X4_208 wi_X4_readOnceWord ws_X4_readOnceWord rfl rfl (Nat.le_of_ble_eq_true rfl) (by decide) (by decide) ⟨by decide, by decide⟩ rfl (t_X4_readOnceWord a0 h0) (fun v2 h1 => ?_)
  refine zg_aload_n 0 rfl d_X4_readRain_4 ?_
  refine zg_getR d_X4_readRain_5 zc_4 (by decide) fl_X4_22 (fun v3 => ?_)
  refine zg_aload_n 0 rfl d_X4_readRain_8 ?_
  refine zg_iconst 1 rfl d_X4_readRain_9 ?_
  refine zg_bipush 20 rfl d_X4_readRain_10 ?_
  refine zg_cVi (b := a0) (As := [.int 1, .int 20]) (rest := [.ref v3]) (0, 0) d_X4_readRain_12 zc_4 rfl cw_X4_142 wi_X4_readNumber ws_X4_readNumber rfl rfl (Nat.le_of_ble_eq_true rfl) (by decide) (by decide) ⟨by decide, by decide⟩ rfl (t_X4_readNumber a0 1 20 h1) (fun v5 h4 => ?_)
  refine zg_putV d_X4_readRain_15 zc_6 (by decide) fl_X4_211 rfl rfl rfl (fun h6 => ?_)
  exact zg_vretK d_X4_readRain_18 rfl ⟨Nat.le_of_ble_eq_true rfl, Nat.le_of_ble_eq_true rfl⟩ (fun q => q)
abbrev M_X4_readSeed : zMt := (RX4, cX4_readSeed, 1, 4, 126, none, "readSeed", 0, 0)
theorem d_X4_readSeed_0 : zDc M_X4_readSeed 0 (.aload_n 0) 1 1 := ⟨by decide +kernel, rfl⟩
theorem d_X4_readSeed_1 : zDc M_X4_readSeed 1 (.invokevirtual 208) 3 4 := ⟨by decide +kernel, rfl⟩
theorem d_X4_readSeed_4 : zDc M_X4_readSeed 4 (.aload_n 0) 1 5 := ⟨by decide +kernel, rfl⟩
theorem d_X4_readSeed_5 : zDc M_X4_readSeed 5 (.iconst 0) 1 6 := ⟨by decide +kernel, rfl⟩
theorem d_X4_readSeed_6 : zDc M_X4_readSeed 6 (.ldc 217) 2 8 := ⟨by decide +kernel, rfl⟩
theorem d_X4_readSeed_8 : zDc M_X4_readSeed 8 (.invokevirtual 142) 3 11 := ⟨by decide +kernel, rfl⟩
theorem d_X4_readSeed_11 : zDc M_X4_readSeed 11 (.pop) 1 12 := ⟨by decide +kernel, rfl⟩
theorem d_X4_readSeed_12 : zDc M_X4_readSeed 12 (.return_) 1 13 := ⟨by decide +kernel, rfl⟩
def f_X4_readSeed (a0 : Nat) (h0 : zHp) : Option (Unit × zHp) :=
  zbd (zcv 4 a0 h0 (f_X4_readOnceWord a0 h0)) (fun v2 h1 =>
  zbd (zcv 4 a0 h1 (f_X4_readNumber a0 0 99999 h1)) (fun v4 h3 =>
  some ((), h3)))
set_option maxRecDepth 100000 in
set_option maxHeartbeats 4000000 in
theorem t_X4_readSeed (a0 : Nat) (h0 : zHp) : ∀ (r : Unit) (h' : zHp), f_X4_readSeed a0 h0 = some (r, h') → zCt yX4_readSeed (.code yX4_readSeed cX4_readSeed 1 none) 4 126 0 0 [.ref a0] h0 (none) h' := by
  refine zct_of M_X4_readSeed yX4_readSeed (by decide) rfl rfl [.ref a0] h0 (Nat.le_of_ble_eq_true rfl) (fun _ => none) (fun X => ?_)
  show zG X M_X4_readSeed (0, 0) 0 [(0, .ref a0)] [] h0 (f_X4_readSeed a0 h0) (fun (_ : Unit) h' => zKe X (none) h')
  unfold f_X4_readSeed
  refine zg_aload_n 0 rfl d_X4_readSeed_0 ?_
  refine zg_cVv (b := a0) (As := []) (rest := []) (0, 0) d_X4_readSeed_1 zc_4 rfl cw_X4_208 wi_X4_readOnceWord ws_X4_readOnceWord rfl rfl (Nat.le_of_ble_eq_true rfl) (by decide) (by decide) ⟨by decide, by decide⟩ rfl (t_X4_readOnceWord a0 h0) (fun v2 h1 => ?_)
  refine zg_aload_n 0 rfl d_X4_readSeed_4 ?_
  refine zg_iconst 0 rfl d_X4_readSeed_5 ?_
  refine zg_ldc kc_X4_217 d_X4_readSeed_6 ?_
  refine zg_cVi (b := a0) (As := [.int 0, .int 99999]) (rest := []) (0, 0) d_X4_readSeed_8 zc_4 rfl cw_X4_142 wi_X4_readNumber ws_X4_readNumber rfl rfl (Nat.le_of_ble_eq_true rfl) (by decide) (by decide) ⟨by decide, by decide⟩ rfl (t_X4_readNumber a0 0 99999 h1) (fun v4 h3 => ?_)
  refine zg_pop rfl d_X4_readSeed_11 ?_
  exact zg_vretK d_X4_readSeed_12 rfl ⟨Nat.le_of_ble_eq_true rfl, Nat.le_of_ble_eq_true rfl⟩ (fun q => q)
abbrev M_X4_readWind : zMt := (RX4, cX4_readWind, 2, 4, 126, none, "readWind", 0, 0)
theorem d_X4_readWind_0 : zDc M_X4_readWind 0 (.aload_n 0) 1 1 := ⟨by decide +kernel, rfl⟩
theorem d_X4_readWind_1 : zDc M_X4_readWind 1 (.getfield 22) 3 4 := ⟨by decide +kernel, rfl⟩
theorem d_X4_readWind_4 : zDc M_X4_readWind 4 (.getfield 202) 3 7 := ⟨by decide +kernel, rfl⟩
theorem d_X4_readWind_7 : zDc M_X4_readWind 7 (.istore_n 1) 1 8 := ⟨by decide +kernel, rfl⟩
theorem d_X4_readWind_8 : zDc M_X4_readWind 8 (.aload_n 0) 1 9 := ⟨by decide +kernel, rfl⟩
theorem d_X4_readWind_9 : zDc M_X4_readWind 9 (.iload_n 1) 1 10 := ⟨by decide +kernel, rfl⟩
theorem d_X4_readWind_10 : zDc M_X4_readWind 10 (.bipush 12) 2 12 := ⟨by decide +kernel, rfl⟩
theorem d_X4_readWind_12 : zDc M_X4_readWind 12 (.invokevirtual 158) 3 15 := ⟨by decide +kernel, rfl⟩
theorem d_X4_readWind_15 : zDj M_X4_readWind 15 (.ifCond .ne 4) 4 18 19 := ⟨by decide +kernel, rfl, by decide⟩
theorem d_X4_readWind_18 : zDc M_X4_readWind 18 (.return_) 1 19 := ⟨by decide +kernel, rfl⟩
theorem d_X4_readWind_19 : zDc M_X4_readWind 19 (.aload_n 0) 1 20 := ⟨by decide +kernel, rfl⟩
theorem d_X4_readWind_20 : zDc M_X4_readWind 20 (.getfield 22) 3 23 := ⟨by decide +kernel, rfl⟩
theorem d_X4_readWind_23 : zDc M_X4_readWind 23 (.getfield 205) 3 26 := ⟨by decide +kernel, rfl⟩
theorem d_X4_readWind_26 : zDc M_X4_readWind 26 (.iload_n 1) 1 27 := ⟨by decide +kernel, rfl⟩
theorem d_X4_readWind_27 : zDc M_X4_readWind 27 (.aload_n 0) 1 28 := ⟨by decide +kernel, rfl⟩
theorem d_X4_readWind_28 : zDc M_X4_readWind 28 (.iconst 0) 1 29 := ⟨by decide +kernel, rfl⟩
theorem d_X4_readWind_29 : zDc M_X4_readWind 29 (.iconst 4) 1 30 := ⟨by decide +kernel, rfl⟩
theorem d_X4_readWind_30 : zDc M_X4_readWind 30 (.invokevirtual 142) 3 33 := ⟨by decide +kernel, rfl⟩
theorem d_X4_readWind_33 : zDc M_X4_readWind 33 (.iastore) 1 34 := ⟨by decide +kernel, rfl⟩
theorem d_X4_readWind_34 : zDc M_X4_readWind 34 (.aload_n 0) 1 35 := ⟨by decide +kernel, rfl⟩
theorem d_X4_readWind_35 : zDc M_X4_readWind 35 (.getfield 22) 3 38 := ⟨by decide +kernel, rfl⟩
theorem d_X4_readWind_38 : zDc M_X4_readWind 38 (.dup) 1 39 := ⟨by decide +kernel, rfl⟩
theorem d_X4_readWind_39 : zDc M_X4_readWind 39 (.getfield 202) 3 42 := ⟨by decide +kernel, rfl⟩
theorem d_X4_readWind_42 : zDc M_X4_readWind 42 (.iconst 1) 1 43 := ⟨by decide +kernel, rfl⟩
theorem d_X4_readWind_43 : zDc M_X4_readWind 43 (.iadd) 1 44 := ⟨by decide +kernel, rfl⟩
theorem d_X4_readWind_44 : zDc M_X4_readWind 44 (.putfield 202) 3 47 := ⟨by decide +kernel, rfl⟩
theorem d_X4_readWind_47 : zDc M_X4_readWind 47 (.return_) 1 48 := ⟨by decide +kernel, rfl⟩
def f_X4_readWind (a0 : Nat) (h0 : zHp) : Option (Unit × zHp) :=
  zob (zgR h0 a0 4 10) (fun v1 =>
  zob (zgI h0 v1 6 16) (fun v2 =>
  zbd (zcv 4 a0 h0 (f_X4_hasRoom a0 v2 12 h0)) (fun v4 h3 =>
  if v4 = 0 then
  some ((), h3)
  else
  zob (zgR h3 a0 4 10) (fun v5 =>
  zob (zgR h3 v5 6 11) (fun v6 =>
  zbd (zcv 4 a0 h3 (f_X4_readNumber a0 0 4 h3)) (fun v8 h7 =>
  zob (zsI 0 h7 v6 v2 v8) (fun h9 =>
  zob (zgR h9 a0 4 10) (fun v10 =>
  zob (zgI h9 v10 6 16) (fun v11 =>
  zob (zpV h9 v10 6 16 (.int (v11 + 1))) (fun h12 =>
  some ((), h12)))))))))))
set_option maxRecDepth 100000 in
set_option maxHeartbeats 4000000 in
theorem t_X4_readWind (a0 : Nat) (h0 : zHp) : ∀ (r : Unit) (h' : zHp), f_X4_readWind a0 h0 = some (r, h') → zCt yX4_readWind (.code yX4_readWind cX4_readWind 2 none) 4 126 0 0 [.ref a0] h0 (none) h' := by
  refine zct_of M_X4_readWind yX4_readWind (by decide) rfl rfl [.ref a0] h0 (Nat.le_of_ble_eq_true rfl) (fun _ => none) (fun X => ?_)
  show zG X M_X4_readWind (0, 0) 0 [(0, .ref a0)] [] h0 (f_X4_readWind a0 h0) (fun (_ : Unit) h' => zKe X (none) h')
  unfold f_X4_readWind
  refine zg_aload_n 0 rfl d_X4_readWind_0 ?_
  refine zg_getR d_X4_readWind_1 zc_4 (by decide) fl_X4_22 (fun v1 => ?_)
  refine zg_getI d_X4_readWind_4 zc_6 (by decide) fl_X4_202 (fun v2 => ?_)
  refine zg_istore_n [(1, .int v2), (0, .ref a0)] d_X4_readWind_7 rfl (by decide) rfl ?_
  refine zg_aload_n 1 rfl d_X4_readWind_8 ?_
  refine zg_iload_n 0 rfl d_X4_readWind_9 ?_
  refine zg_bipush 12 rfl d_X4_readWind_10 ?_
  refine zg_cVi (b := a0) (As := [.int v2, .int 12]) (rest := []) (0, 0) d_X4_readWind_12 zc_4 rfl cw_X4_158 wi_X4_hasRoom ws_X4_hasRoom rfl rfl (Nat.le_of_ble_eq_true rfl) (by decide) (by decide) ⟨by decide, by decide⟩ rfl (t_X4_hasRoom a0 v2 12 h0) (fun v4 h3 => ?_)
  refine zg_if_ne d_X4_readWind_15 ?_ ?_
  · exact zg_vretK d_X4_readWind_18 rfl ⟨Nat.le_of_ble_eq_true rfl, Nat.le_of_ble_eq_true rfl⟩ (fun q => q)
  · refine zg_aload_n 1 rfl d_X4_readWind_19 ?_
    refine zg_getR d_X4_readWind_20 zc_4 (by decide) fl_X4_22 (fun v5 => ?_)
    refine zg_getR d_X4_readWind_23 zc_6 (by decide) fl_X4_205 (fun v6 => ?_)
    refine zg_iload_n 0 rfl d_X4_readWind_26 ?_
    refine zg_aload_n 1 rfl d_X4_readWind_27 ?_
    refine zg_iconst 0 rfl d_X4_readWind_28 ?_
    refine zg_iconst 4 rfl d_X4_readWind_29 ?_
    refine zg_cVi (b := a0) (As := [.int 0, .int 4]) (rest := [.int v2, .ref v6]) (0, 0) d_X4_readWind_30 zc_4 rfl cw_X4_142 wi_X4_readNumber ws_X4_readNumber rfl rfl (Nat.le_of_ble_eq_true rfl) (by decide) (by decide) ⟨by decide, by decide⟩ rfl (t_X4_readNumber a0 0 4 h3) (fun v8 h7 => ?_)
    refine zg_ast0 d_X4_readWind_33 (fun h9 => ?_)
    refine zg_aload_n 1 rfl d_X4_readWind_34 ?_
    refine zg_getR d_X4_readWind_35 zc_4 (by decide) fl_X4_22 (fun v10 => ?_)
    refine zg_dup rfl d_X4_readWind_38 ?_
    refine zg_getI d_X4_readWind_39 zc_6 (by decide) fl_X4_202 (fun v11 => ?_)
    refine zg_iconst 1 rfl d_X4_readWind_42 ?_
    refine zg_iadd d_X4_readWind_43 ?_
    refine zg_putV d_X4_readWind_44 zc_6 (by decide) fl_X4_202 rfl rfl rfl (fun h12 => ?_)
    exact zg_vretK d_X4_readWind_47 rfl ⟨Nat.le_of_ble_eq_true rfl, Nat.le_of_ble_eq_true rfl⟩ (fun q => q)
abbrev M_X4_readLine : zMt := (RX4, cX4_readLine, 1, 6, 170, none, "readLine", 0, 0)
theorem d_X4_readLine_0 : zDc M_X4_readLine 0 (.aload_n 0) 1 1 := ⟨by decide +kernel, rfl⟩
theorem d_X4_readLine_1 : zDc M_X4_readLine 1 (.getfield 65) 3 4 := ⟨by decide +kernel, rfl⟩
theorem d_X4_readLine_4 : decode M_X4_readLine.2.1 4 = .ok (.tableswitch 128 0 9 #[56, 64, 72, 79, 86, 93, 100, 107, 114, 121], 56) := by decide +kernel
theorem d_X4_readLine_60 : zDc M_X4_readLine 60 (.aload_n 0) 1 61 := ⟨by decide +kernel, rfl⟩
theorem d_X4_readLine_61 : zDc M_X4_readLine 61 (.iconst 1) 1 62 := ⟨by decide +kernel, rfl⟩
theorem d_X4_readLine_62 : zDc M_X4_readLine 62 (.invokevirtual 112) 3 65 := ⟨by decide +kernel, rfl⟩
theorem d_X4_readLine_65 : zDj M_X4_readLine 65 (.goto 72) 72 68 137 := ⟨by decide +kernel, rfl, by decide⟩
theorem d_X4_readLine_68 : zDc M_X4_readLine 68 (.aload_n 0) 1 69 := ⟨by decide +kernel, rfl⟩
theorem d_X4_readLine_69 : zDc M_X4_readLine 69 (.iconst 2) 1 70 := ⟨by decide +kernel, rfl⟩
theorem d_X4_readLine_70 : zDc M_X4_readLine 70 (.invokevirtual 112) 3 73 := ⟨by decide +kernel, rfl⟩
theorem d_X4_readLine_73 : zDj M_X4_readLine 73 (.goto 64) 64 76 137 := ⟨by decide +kernel, rfl, by decide⟩
theorem d_X4_readLine_76 : zDc M_X4_readLine 76 (.aload_n 0) 1 77 := ⟨by decide +kernel, rfl⟩
theorem d_X4_readLine_77 : zDc M_X4_readLine 77 (.invokevirtual 115) 3 80 := ⟨by decide +kernel, rfl⟩
theorem d_X4_readLine_80 : zDj M_X4_readLine 80 (.goto 57) 57 83 137 := ⟨by decide +kernel, rfl, by decide⟩
theorem d_X4_readLine_83 : zDc M_X4_readLine 83 (.aload_n 0) 1 84 := ⟨by decide +kernel, rfl⟩
theorem d_X4_readLine_84 : zDc M_X4_readLine 84 (.invokevirtual 118) 3 87 := ⟨by decide +kernel, rfl⟩
theorem d_X4_readLine_87 : zDj M_X4_readLine 87 (.goto 50) 50 90 137 := ⟨by decide +kernel, rfl, by decide⟩
theorem d_X4_readLine_90 : zDc M_X4_readLine 90 (.aload_n 0) 1 91 := ⟨by decide +kernel, rfl⟩
theorem d_X4_readLine_91 : zDc M_X4_readLine 91 (.invokevirtual 121) 3 94 := ⟨by decide +kernel, rfl⟩
theorem d_X4_readLine_94 : zDj M_X4_readLine 94 (.goto 43) 43 97 137 := ⟨by decide +kernel, rfl, by decide⟩
theorem d_X4_readLine_97 : zDc M_X4_readLine 97 (.aload_n 0) 1 98 := ⟨by decide +kernel, rfl⟩
theorem d_X4_readLine_98 : zDc M_X4_readLine 98 (.invokevirtual 124) 3 101 := ⟨by decide +kernel, rfl⟩
theorem d_X4_readLine_101 : zDj M_X4_readLine 101 (.goto 36) 36 104 137 := ⟨by decide +kernel, rfl, by decide⟩
theorem d_X4_readLine_104 : zDc M_X4_readLine 104 (.aload_n 0) 1 105 := ⟨by decide +kernel, rfl⟩
theorem d_X4_readLine_105 : zDc M_X4_readLine 105 (.invokevirtual 127) 3 108 := ⟨by decide +kernel, rfl⟩
theorem d_X4_readLine_108 : zDj M_X4_readLine 108 (.goto 29) 29 111 137 := ⟨by decide +kernel, rfl, by decide⟩
theorem d_X4_readLine_111 : zDc M_X4_readLine 111 (.aload_n 0) 1 112 := ⟨by decide +kernel, rfl⟩
theorem d_X4_readLine_112 : zDc M_X4_readLine 112 (.invokevirtual 130) 3 115 := ⟨by decide +kernel, rfl⟩
theorem d_X4_readLine_115 : zDj M_X4_readLine 115 (.goto 22) 22 118 137 := ⟨by decide +kernel, rfl, by decide⟩
theorem d_X4_readLine_118 : zDc M_X4_readLine 118 (.aload_n 0) 1 119 := ⟨by decide +kernel, rfl⟩
theorem d_X4_readLine_119 : zDc M_X4_readLine 119 (.invokevirtual 133) 3 122 := ⟨by decide +kernel, rfl⟩
theorem d_X4_readLine_122 : zDj M_X4_readLine 122 (.goto 15) 15 125 137 := ⟨by decide +kernel, rfl, by decide⟩
theorem d_X4_readLine_125 : zDc M_X4_readLine 125 (.aload_n 0) 1 126 := ⟨by decide +kernel, rfl⟩
theorem d_X4_readLine_126 : zDc M_X4_readLine 126 (.invokevirtual 136) 3 129 := ⟨by decide +kernel, rfl⟩
theorem d_X4_readLine_129 : zDj M_X4_readLine 129 (.goto 8) 8 132 137 := ⟨by decide +kernel, rfl, by decide⟩
theorem d_X4_readLine_132 : zDc M_X4_readLine 132 (.aload_n 0) 1 133 := ⟨by decide +kernel, rfl⟩
theorem d_X4_readLine_133 : zDc M_X4_readLine 133 (.iconst 1) 1 134 := ⟨by decide +kernel, rfl⟩
theorem d_X4_readLine_134 : zDc M_X4_readLine 134 (.invokevirtual 82) 3 137 := ⟨by decide +kernel, rfl⟩
theorem d_X4_readLine_137 : zDc M_X4_readLine 137 (.return_) 1 138 := ⟨by decide +kernel, rfl⟩
def f_X4_readLine (a0 : Nat) (h0 : zHp) : Option (Unit × zHp) :=
  zob (zgI h0 a0 4 4) (fun v1 =>
  if v1 = 0 then
  zbd (zcv 4 a0 h0 (f_X4_readGround a0 1 h0)) (fun v3 h2 =>
  some ((), h2))
  else if v1 = 1 then
  zbd (zcv 4 a0 h0 (f_X4_readGround a0 2 h0)) (fun v5 h4 =>
  some ((), h4))
  else if v1 = 2 then
  zbd (zcv 4 a0 h0 (f_X4_readField a0 h0)) (fun v7 h6 =>
  some ((), h6))
  else if v1 = 3 then
  zbd (zcv 4 a0 h0 (f_X4_readCloud a0 h0)) (fun v9 h8 =>
  some ((), h8))
  else if v1 = 4 then
  zbd (zcv 4 a0 h0 (f_X4_readChild a0 h0)) (fun v11 h10 =>
  some ((), h10))
  else if v1 = 5 then
  zbd (zcv 4 a0 h0 (f_X4_readWind a0 h0)) (fun v13 h12 =>
  some ((), h12))
  else if v1 = 6 then
  zbd (zcv 4 a0 h0 (f_X4_readRain a0 h0)) (fun v15 h14 =>
  some ((), h14))
  else if v1 = 7 then
  zbd (zcv 4 a0 h0 (f_X4_readMost a0 h0)) (fun v17 h16 =>
  some ((), h16))
  else if v1 = 8 then
  zbd (zcv 4 a0 h0 (f_X4_readSeed a0 h0)) (fun v19 h18 =>
  some ((), h18))
  else if v1 = 9 then
  zbd (zcv 4 a0 h0 (f_X4_readLaw a0 h0)) (fun v21 h20 =>
  some ((), h20))
  else 
  zbd (zcv 4 a0 h0 (f_X4_fail a0 1 h0)) (fun v23 h22 =>
  some ((), h22)))
set_option maxRecDepth 100000 in
set_option maxHeartbeats 4000000 in
theorem t_X4_readLine (a0 : Nat) (h0 : zHp) : ∀ (r : Unit) (h' : zHp), f_X4_readLine a0 h0 = some (r, h') → zCt yX4_readLine (.code yX4_readLine cX4_readLine 1 none) 6 170 0 0 [.ref a0] h0 (none) h' := by
  refine zct_of M_X4_readLine yX4_readLine (by decide) rfl rfl [.ref a0] h0 (Nat.le_of_ble_eq_true rfl) (fun _ => none) (fun X => ?_)
  show zG X M_X4_readLine (0, 0) 0 [(0, .ref a0)] [] h0 (f_X4_readLine a0 h0) (fun (_ : Unit) h' => zKe X (none) h')
  unfold f_X4_readLine
  refine zg_aload_n 0 rfl d_X4_readLine_0 ?_
  refine zg_getI d_X4_readLine_1 zc_4 (by decide) fl_X4_65 (fun v1 => ?_)
  refine zg_if (fun n24 => ?_) (fun n24 => ?_)
  · refine zg_tabE n24 d_X4_readLine_4 (by decide) (by decide) (off := 56) rfl (tgt := 60) (by decide) ?_
    refine zg_aload_n 0 rfl d_X4_readLine_60 ?_
    refine zg_iconst 1 rfl d_X4_readLine_61 ?_
    refine zg_cVv (b := a0) (As := [.int 1]) (rest := []) (0, 0) d_X4_readLine_62 zc_4 rfl cw_X4_112 wi_X4_readGround ws_X4_readGround rfl rfl (Nat.le_of_ble_eq_true rfl) (by decide) (by decide) ⟨by decide, by decide⟩ rfl (t_X4_readGround a0 1 h0) (fun v3 h2 => ?_)
    refine zg_goto d_X4_readLine_65 ?_
    exact zg_vretK d_X4_readLine_137 rfl ⟨Nat.le_of_ble_eq_true rfl, Nat.le_of_ble_eq_true rfl⟩ (fun q => q)
  refine zg_if (fun n25 => ?_) (fun n25 => ?_)
  · refine zg_tabE n25 d_X4_readLine_4 (by decide) (by decide) (off := 64) rfl (tgt := 68) (by decide) ?_
    refine zg_aload_n 0 rfl d_X4_readLine_68 ?_
    refine zg_iconst 2 rfl d_X4_readLine_69 ?_
    refine zg_cVv (b := a0) (As := [.int 2]) (rest := []) (0, 0) d_X4_readLine_70 zc_4 rfl cw_X4_112 wi_X4_readGround ws_X4_readGround rfl rfl (Nat.le_of_ble_eq_true rfl) (by decide) (by decide) ⟨by decide, by decide⟩ rfl (t_X4_readGround a0 2 h0) (fun v5 h4 => ?_)
    refine zg_goto d_X4_readLine_73 ?_
    exact zg_vretK d_X4_readLine_137 rfl ⟨Nat.le_of_ble_eq_true rfl, Nat.le_of_ble_eq_true rfl⟩ (fun q => q)
  refine zg_if (fun n26 => ?_) (fun n26 => ?_)
  · refine zg_tabE n26 d_X4_readLine_4 (by decide) (by decide) (off := 72) rfl (tgt := 76) (by decide) ?_
    refine zg_aload_n 0 rfl d_X4_readLine_76 ?_
    refine zg_cVv (b := a0) (As := []) (rest := []) (0, 0) d_X4_readLine_77 zc_4 rfl cw_X4_115 wi_X4_readField ws_X4_readField rfl rfl (Nat.le_of_ble_eq_true rfl) (by decide) (by decide) ⟨by decide, by decide⟩ rfl (t_X4_readField a0 h0) (fun v7 h6 => ?_)
    refine zg_goto d_X4_readLine_80 ?_
    exact zg_vretK d_X4_readLine_137 rfl ⟨Nat.le_of_ble_eq_true rfl, Nat.le_of_ble_eq_true rfl⟩ (fun q => q)
  refine zg_if (fun n27 => ?_) (fun n27 => ?_)
  · refine zg_tabE n27 d_X4_readLine_4 (by decide) (by decide) (off := 79) rfl (tgt := 83) (by decide) ?_
    refine zg_aload_n 0 rfl d_X4_readLine_83 ?_
    refine zg_cVv (b := a0) (As := []) (rest := []) (0, 0) d_X4_readLine_84 zc_4 rfl cw_X4_118 wi_X4_readCloud ws_X4_readCloud rfl rfl (Nat.le_of_ble_eq_true rfl) (by decide) (by decide) ⟨by decide, by decide⟩ rfl (t_X4_readCloud a0 h0) (fun v9 h8 => ?_)
    refine zg_goto d_X4_readLine_87 ?_
    exact zg_vretK d_X4_readLine_137 rfl ⟨Nat.le_of_ble_eq_true rfl, Nat.le_of_ble_eq_true rfl⟩ (fun q => q)
  refine zg_if (fun n28 => ?_) (fun n28 => ?_)
  · refine zg_tabE n28 d_X4_readLine_4 (by decide) (by decide) (off := 86) rfl (tgt := 90) (by decide) ?_
    refine zg_aload_n 0 rfl d_X4_readLine_90 ?_
    refine zg_cVv (b := a0) (As := []) (rest := []) (0, 0) d_X4_readLine_91 zc_4 rfl cw_X4_121 wi_X4_readChild ws_X4_readChild rfl rfl (Nat.le_of_ble_eq_true rfl) (by decide) (by decide) ⟨by decide, by decide⟩ rfl (t_X4_readChild a0 h0) (fun v11 h10 => ?_)
    refine zg_goto d_X4_readLine_94 ?_
    exact zg_vretK d_X4_readLine_137 rfl ⟨Nat.le_of_ble_eq_true rfl, Nat.le_of_ble_eq_true rfl⟩ (fun q => q)
  refine zg_if (fun n29 => ?_) (fun n29 => ?_)
  · refine zg_tabE n29 d_X4_readLine_4 (by decide) (by decide) (off := 93) rfl (tgt := 97) (by decide) ?_
    refine zg_aload_n 0 rfl d_X4_readLine_97 ?_
    refine zg_cVv (b := a0) (As := []) (rest := []) (0, 0) d_X4_readLine_98 zc_4 rfl cw_X4_124 wi_X4_readWind ws_X4_readWind rfl rfl (Nat.le_of_ble_eq_true rfl) (by decide) (by decide) ⟨by decide, by decide⟩ rfl (t_X4_readWind a0 h0) (fun v13 h12 => ?_)
    refine zg_goto d_X4_readLine_101 ?_
    exact zg_vretK d_X4_readLine_137 rfl ⟨Nat.le_of_ble_eq_true rfl, Nat.le_of_ble_eq_true rfl⟩ (fun q => q)
  refine zg_if (fun n30 => ?_) (fun n30 => ?_)
  · refine zg_tabE n30 d_X4_readLine_4 (by decide) (by decide) (off := 100) rfl (tgt := 104) (by decide) ?_
    refine zg_aload_n 0 rfl d_X4_readLine_104 ?_
    refine zg_cVv (b := a0) (As := []) (rest := []) (0, 0) d_X4_readLine_105 zc_4 rfl cw_X4_127 wi_X4_readRain ws_X4_readRain rfl rfl (Nat.le_of_ble_eq_true rfl) (by decide) (by decide) ⟨by decide, by decide⟩ rfl (t_X4_readRain a0 h0) (fun v15 h14 => ?_)
    refine zg_goto d_X4_readLine_108 ?_
    exact zg_vretK d_X4_readLine_137 rfl ⟨Nat.le_of_ble_eq_true rfl, Nat.le_of_ble_eq_true rfl⟩ (fun q => q)
  refine zg_if (fun n31 => ?_) (fun n31 => ?_)
  · refine zg_tabE n31 d_X4_readLine_4 (by decide) (by decide) (off := 107) rfl (tgt := 111) (by decide) ?_
    refine zg_aload_n 0 rfl d_X4_readLine_111 ?_
    refine zg_cVv (b := a0) (As := []) (rest := []) (0, 0) d_X4_readLine_112 zc_4 rfl cw_X4_130 wi_X4_readMost ws_X4_readMost rfl rfl (Nat.le_of_ble_eq_true rfl) (by decide) (by decide) ⟨by decide, by decide⟩ rfl (t_X4_readMost a0 h0) (fun v17 h16 => ?_)
    refine zg_goto d_X4_readLine_115 ?_
    exact zg_vretK d_X4_readLine_137 rfl ⟨Nat.le_of_ble_eq_true rfl, Nat.le_of_ble_eq_true rfl⟩ (fun q => q)
  refine zg_if (fun n32 => ?_) (fun n32 => ?_)
  · refine zg_tabE n32 d_X4_readLine_4 (by decide) (by decide) (off := 114) rfl (tgt := 118) (by decide) ?_
    refine zg_aload_n 0 rfl d_X4_readLine_118 ?_
    refine zg_cVv (b := a0) (As := []) (rest := []) (0, 0) d_X4_readLine_119 zc_4 rfl cw_X4_133 wi_X4_readSeed ws_X4_readSeed rfl rfl (Nat.le_of_ble_eq_true rfl) (by decide) (by decide) ⟨by decide, by decide⟩ rfl (t_X4_readSeed a0 h0) (fun v19 h18 => ?_)
    refine zg_goto d_X4_readLine_122 ?_
    exact zg_vretK d_X4_readLine_137 rfl ⟨Nat.le_of_ble_eq_true rfl, Nat.le_of_ble_eq_true rfl⟩ (fun q => q)
  refine zg_if (fun n33 => ?_) (fun n33 => ?_)
  · refine zg_tabE n33 d_X4_readLine_4 (by decide) (by decide) (off := 121) rfl (tgt := 125) (by decide) ?_
    refine zg_aload_n 0 rfl d_X4_readLine_125 ?_
    refine zg_cVv (b := a0) (As := []) (rest := []) (0, 0) d_X4_readLine_126 zc_4 rfl cw_X4_136 wi_X4_readLaw ws_X4_readLaw rfl rfl (Nat.le_of_ble_eq_true rfl) (by decide) (by decide) ⟨by decide, by decide⟩ rfl (t_X4_readLaw a0 h0) (fun v21 h20 => ?_)
    refine zg_goto d_X4_readLine_129 ?_
    exact zg_vretK d_X4_readLine_137 rfl ⟨Nat.le_of_ble_eq_true rfl, Nat.le_of_ble_eq_true rfl⟩ (fun q => q)
  refine zg_tabO d_X4_readLine_4 (by have q0 := lv_neT n24 (a := 0) rfl; have q1 := lv_neT n25 (a := 1) rfl; have q2 := lv_neT n26 (a := 2) rfl; have q3 := lv_neT n27 (a := 3) rfl; have q4 := lv_neT n28 (a := 4) rfl; have q5 := lv_neT n29 (a := 5) rfl; have q6 := lv_neT n30 (a := 6) rfl; have q7 := lv_neT n31 (a := 7) rfl; have q8 := lv_neT n32 (a := 8) rfl; have q9 := lv_neT n33 (a := 9) rfl; omega) (tgt := 132) (by decide) ?_
  refine zg_aload_n 0 rfl d_X4_readLine_132 ?_
  refine zg_iconst 1 rfl d_X4_readLine_133 ?_
  refine zg_cVv (b := a0) (As := [.int 1]) (rest := []) (0, 0) d_X4_readLine_134 zc_4 rfl cw_X4_82 wi_X4_fail ws_X4_fail rfl rfl (Nat.le_of_ble_eq_true rfl) (by decide) (by decide) ⟨by decide, by decide⟩ rfl (t_X4_fail a0 1 h0) (fun v23 h22 => ?_)
  exact zg_vretK d_X4_readLine_137 rfl ⟨Nat.le_of_ble_eq_true rfl, Nat.le_of_ble_eq_true rfl⟩ (fun q => q)
abbrev M_X6_forget : zMt := (RX6, cX6_forget, 2, 2, 81, none, "forget", 0, 0)
theorem d_X6_forget_0 : zDc M_X6_forget 0 (.iconst 0) 1 1 := ⟨by decide +kernel, rfl⟩
theorem d_X6_forget_1 : zDc M_X6_forget 1 (.istore_n 1) 1 2 := ⟨by decide +kernel, rfl⟩
theorem d_X6_forget_2 : zDc M_X6_forget 2 (.iload_n 1) 1 3 := ⟨by decide +kernel, rfl⟩
theorem d_X6_forget_3 : zDc M_X6_forget 3 (.bipush 24) 2 5 := ⟨by decide +kernel, rfl⟩
theorem d_X6_forget_5 : zDj M_X6_forget 5 (.if_icmp .ge 16) 16 8 21 := ⟨by decide +kernel, rfl, by decide⟩
theorem d_X6_forget_8 : zDc M_X6_forget 8 (.aload_n 0) 1 9 := ⟨by decide +kernel, rfl⟩
theorem d_X6_forget_9 : zDc M_X6_forget 9 (.getfield 9) 3 12 := ⟨by decide +kernel, rfl⟩
theorem d_X6_forget_12 : zDc M_X6_forget 12 (.iload_n 1) 1 13 := ⟨by decide +kernel, rfl⟩
theorem d_X6_forget_13 : zDc M_X6_forget 13 (.iconst 0) 1 14 := ⟨by decide +kernel, rfl⟩
theorem d_X6_forget_14 : zDc M_X6_forget 14 (.iastore) 1 15 := ⟨by decide +kernel, rfl⟩
theorem d_X6_forget_15 : zDc M_X6_forget 15 (.iinc 1 1) 3 18 := ⟨by decide +kernel, rfl⟩
theorem d_X6_forget_18 : zDj M_X6_forget 18 (.goto (-16)) (-16) 21 2 := ⟨by decide +kernel, rfl, by decide⟩
theorem d_X6_forget_21 : zDc M_X6_forget 21 (.aload_n 0) 1 22 := ⟨by decide +kernel, rfl⟩
theorem d_X6_forget_22 : zDc M_X6_forget 22 (.getfield 51) 3 25 := ⟨by decide +kernel, rfl⟩
theorem d_X6_forget_25 : zDc M_X6_forget 25 (.invokevirtual 74) 3 28 := ⟨by decide +kernel, rfl⟩
theorem d_X6_forget_28 : zDc M_X6_forget 28 (.aload_n 0) 1 29 := ⟨by decide +kernel, rfl⟩
theorem d_X6_forget_29 : zDc M_X6_forget 29 (.iconst 0) 1 30 := ⟨by decide +kernel, rfl⟩
theorem d_X6_forget_30 : zDc M_X6_forget 30 (.putfield 55) 3 33 := ⟨by decide +kernel, rfl⟩
theorem d_X6_forget_33 : zDc M_X6_forget 33 (.aload_n 0) 1 34 := ⟨by decide +kernel, rfl⟩
theorem d_X6_forget_34 : zDc M_X6_forget 34 (.iconst 0) 1 35 := ⟨by decide +kernel, rfl⟩
theorem d_X6_forget_35 : zDc M_X6_forget 35 (.putfield 59) 3 38 := ⟨by decide +kernel, rfl⟩
theorem d_X6_forget_38 : zDc M_X6_forget 38 (.aload_n 0) 1 39 := ⟨by decide +kernel, rfl⟩
theorem d_X6_forget_39 : zDc M_X6_forget 39 (.iconst 0) 1 40 := ⟨by decide +kernel, rfl⟩
theorem d_X6_forget_40 : zDc M_X6_forget 40 (.putfield 62) 3 43 := ⟨by decide +kernel, rfl⟩
theorem d_X6_forget_43 : zDc M_X6_forget 43 (.aload_n 0) 1 44 := ⟨by decide +kernel, rfl⟩
theorem d_X6_forget_44 : zDc M_X6_forget 44 (.iconst 0) 1 45 := ⟨by decide +kernel, rfl⟩
theorem d_X6_forget_45 : zDc M_X6_forget 45 (.putfield 65) 3 48 := ⟨by decide +kernel, rfl⟩
theorem d_X6_forget_48 : zDc M_X6_forget 48 (.aload_n 0) 1 49 := ⟨by decide +kernel, rfl⟩
theorem d_X6_forget_49 : zDc M_X6_forget 49 (.bipush 6) 2 51 := ⟨by decide +kernel, rfl⟩
theorem d_X6_forget_51 : zDc M_X6_forget 51 (.putfield 68) 3 54 := ⟨by decide +kernel, rfl⟩
theorem d_X6_forget_54 : zDc M_X6_forget 54 (.aload_n 0) 1 55 := ⟨by decide +kernel, rfl⟩
theorem d_X6_forget_55 : zDc M_X6_forget 55 (.bipush 9) 2 57 := ⟨by decide +kernel, rfl⟩
theorem d_X6_forget_57 : zDc M_X6_forget 57 (.putfield 71) 3 60 := ⟨by decide +kernel, rfl⟩
theorem d_X6_forget_60 : zDc M_X6_forget 60 (.return_) 1 61 := ⟨by decide +kernel, rfl⟩
def f_X6_forget (a0 : Nat) (h0 : zHp) : Option (Unit × zHp) :=
  zbd (
  zlp (σ := Int32) (β := Int32) zLF (fun s1 h2 =>
  if 24 ≤ s1 then
  some ((.inr s1), h2)
  else
  zob (zgR h2 a0 6 0) (fun v5 =>
  zob (zsI 0 h2 v5 s1 0) (fun h6 =>
  some ((.inl (s1 + 1)), h6)))) 0 h0) (fun e3 h4 =>
  zob (zgR h4 a0 6 12) (fun v7 =>
  zbd (zcv 2 v7 h4 (f_X2_forget v7 h4)) (fun v9 h8 =>
  zob (zpV h8 a0 6 13 (.int 0)) (fun h10 =>
  zob (zpV h10 a0 6 14 (.int 0)) (fun h11 =>
  zob (zpV h11 a0 6 15 (.int 0)) (fun h12 =>
  zob (zpV h12 a0 6 16 (.int 0)) (fun h13 =>
  zob (zpV h13 a0 6 17 (.int 6)) (fun h14 =>
  zob (zpV h14 a0 6 18 (.int 9)) (fun h15 =>
  some ((), h15))))))))))
set_option maxRecDepth 100000 in
set_option maxHeartbeats 4000000 in
theorem t_X6_forget (a0 : Nat) (h0 : zHp) : ∀ (r : Unit) (h' : zHp), f_X6_forget a0 h0 = some (r, h') → zCt yX6_forget (.code yX6_forget cX6_forget 2 none) 2 81 0 0 [.ref a0] h0 (none) h' := by
  refine zct_of M_X6_forget yX6_forget (by decide) rfl rfl [.ref a0] h0 (Nat.le_of_ble_eq_true rfl) (fun _ => none) (fun X => ?_)
  show zG X M_X6_forget (0, 0) 0 [(0, .ref a0)] [] h0 (f_X6_forget a0 h0) (fun (_ : Unit) h' => zKe X (none) h')
  unfold f_X6_forget
  refine zg_iconst 0 rfl d_X6_forget_0 ?_
  refine zg_istore_n [(1, .int 0), (0, .ref a0)] d_X6_forget_1 rfl (by decide) rfl ?_
  refine zg_bd (E := 21) (el := (fun (e3 : Int32) => [(0, .ref a0), (1, .int e3)])) (es := fun _ => []) (zg_sub [1, 0] rfl (zg_lp (el := (fun (s1 : Int32) => [(0, .ref a0), (1, .int s1)])) (fun s1 h2 => ?_) 0 h0)) (fun e3 h4 => ?_)
  · refine zg_iload_n 1 rfl d_X6_forget_2 ?_
    refine zg_bipush 24 rfl d_X6_forget_3 ?_
    refine zg_icmp_ge d_X6_forget_5 ?_ ?_
    · exact zg_finK (E := 0) [0, 1] rfl rfl (fun q => q)
    · refine zg_aload_n 0 rfl d_X6_forget_8 ?_
      refine zg_getR d_X6_forget_9 zc_6 (by decide) fl_X6_9 (fun v5 => ?_)
      refine zg_iload_n 1 rfl d_X6_forget_12 ?_
      refine zg_iconst 0 rfl d_X6_forget_13 ?_
      refine zg_ast0 d_X6_forget_14 (fun h6 => ?_)
      refine zg_iinc 1 (s1 + 1) [(1, .int (s1 + 1)), (0, .ref a0)] d_X6_forget_15 rfl rfl (by decide) rfl ?_
      refine zg_goto d_X6_forget_18 ?_
      exact zg_finK (E := 0) [1, 0] rfl rfl (fun q => q)
  · refine zg_aload_n 0 rfl d_X6_forget_21 ?_
    refine zg_getR d_X6_forget_22 zc_6 (by decide) fl_X6_51 (fun v7 => ?_)
    refine zg_cVv (b := v7) (As := []) (rest := []) (0, 0) d_X6_forget_25 zc_2 rfl cw_X6_74 wi_X2_forget ws_X2_forget rfl rfl (Nat.le_of_ble_eq_true rfl) (by decide) (by decide) ⟨by decide, by decide⟩ rfl (t_X2_forget v7 h4) (fun v9 h8 => ?_)
    refine zg_aload_n 0 rfl d_X6_forget_28 ?_
    refine zg_iconst 0 rfl d_X6_forget_29 ?_
    refine zg_putV d_X6_forget_30 zc_6 (by decide) fl_X6_55 rfl rfl rfl (fun h10 => ?_)
    refine zg_aload_n 0 rfl d_X6_forget_33 ?_
    refine zg_iconst 0 rfl d_X6_forget_34 ?_
    refine zg_putV d_X6_forget_35 zc_6 (by decide) fl_X6_59 rfl rfl rfl (fun h11 => ?_)
    refine zg_aload_n 0 rfl d_X6_forget_38 ?_
    refine zg_iconst 0 rfl d_X6_forget_39 ?_
    refine zg_putV d_X6_forget_40 zc_6 (by decide) fl_X6_62 rfl rfl rfl (fun h12 => ?_)
    refine zg_aload_n 0 rfl d_X6_forget_43 ?_
    refine zg_iconst 0 rfl d_X6_forget_44 ?_
    refine zg_putV d_X6_forget_45 zc_6 (by decide) fl_X6_65 rfl rfl rfl (fun h13 => ?_)
    refine zg_aload_n 0 rfl d_X6_forget_48 ?_
    refine zg_bipush 6 rfl d_X6_forget_49 ?_
    refine zg_putV d_X6_forget_51 zc_6 (by decide) fl_X6_68 rfl rfl rfl (fun h14 => ?_)
    refine zg_aload_n 0 rfl d_X6_forget_54 ?_
    refine zg_bipush 9 rfl d_X6_forget_55 ?_
    refine zg_putV d_X6_forget_57 zc_6 (by decide) fl_X6_71 rfl rfl rfl (fun h15 => ?_)
    exact zg_vretK d_X6_forget_60 rfl ⟨Nat.le_of_ble_eq_true rfl, Nat.le_of_ble_eq_true rfl⟩ (fun q => q)
abbrev M_X4_readText : zMt := (RX4, cX4_readText, 5, 7, 190, (some .int), "readText", 0, 0)
theorem d_X4_readText_0 : zDc M_X4_readText 0 (.aload_n 0) 1 1 := ⟨by decide +kernel, rfl⟩
theorem d_X4_readText_1 : zDc M_X4_readText 1 (.getfield 22) 3 4 := ⟨by decide +kernel, rfl⟩
theorem d_X4_readText_4 : zDc M_X4_readText 4 (.invokevirtual 44) 3 7 := ⟨by decide +kernel, rfl⟩
theorem d_X4_readText_7 : zDc M_X4_readText 7 (.aload_n 0) 1 8 := ⟨by decide +kernel, rfl⟩
theorem d_X4_readText_8 : zDc M_X4_readText 8 (.aload_n 1) 1 9 := ⟨by decide +kernel, rfl⟩
theorem d_X4_readText_9 : zDc M_X4_readText 9 (.putfield 15) 3 12 := ⟨by decide +kernel, rfl⟩
theorem d_X4_readText_12 : zDc M_X4_readText 12 (.aload_n 0) 1 13 := ⟨by decide +kernel, rfl⟩
theorem d_X4_readText_13 : zDc M_X4_readText 13 (.iload_n 2) 1 14 := ⟨by decide +kernel, rfl⟩
theorem d_X4_readText_14 : zDc M_X4_readText 14 (.aload_n 1) 1 15 := ⟨by decide +kernel, rfl⟩
theorem d_X4_readText_15 : zDc M_X4_readText 15 (.arraylength) 1 16 := ⟨by decide +kernel, rfl⟩
theorem d_X4_readText_16 : zDc M_X4_readText 16 (.invokestatic 47) 3 19 := ⟨by decide +kernel, rfl⟩
theorem d_X4_readText_19 : zDc M_X4_readText 19 (.putfield 53) 3 22 := ⟨by decide +kernel, rfl⟩
theorem d_X4_readText_22 : zDc M_X4_readText 22 (.aload_n 0) 1 23 := ⟨by decide +kernel, rfl⟩
theorem d_X4_readText_23 : zDc M_X4_readText 23 (.iconst 0) 1 24 := ⟨by decide +kernel, rfl⟩
theorem d_X4_readText_24 : zDc M_X4_readText 24 (.putfield 56) 3 27 := ⟨by decide +kernel, rfl⟩
theorem d_X4_readText_27 : zDc M_X4_readText 27 (.aload_n 0) 1 28 := ⟨by decide +kernel, rfl⟩
theorem d_X4_readText_28 : zDc M_X4_readText 28 (.iconst 0) 1 29 := ⟨by decide +kernel, rfl⟩
theorem d_X4_readText_29 : zDc M_X4_readText 29 (.putfield 59) 3 32 := ⟨by decide +kernel, rfl⟩
theorem d_X4_readText_32 : zDc M_X4_readText 32 (.aload_n 0) 1 33 := ⟨by decide +kernel, rfl⟩
theorem d_X4_readText_33 : zDc M_X4_readText 33 (.iconst 0) 1 34 := ⟨by decide +kernel, rfl⟩
theorem d_X4_readText_34 : zDc M_X4_readText 34 (.putfield 29) 3 37 := ⟨by decide +kernel, rfl⟩
theorem d_X4_readText_37 : zDc M_X4_readText 37 (.aload_n 0) 1 38 := ⟨by decide +kernel, rfl⟩
theorem d_X4_readText_38 : zDc M_X4_readText 38 (.iconst (-1)) 1 39 := ⟨by decide +kernel, rfl⟩
theorem d_X4_readText_39 : zDc M_X4_readText 39 (.putfield 33) 3 42 := ⟨by decide +kernel, rfl⟩
theorem d_X4_readText_42 : zDc M_X4_readText 42 (.aload_n 0) 1 43 := ⟨by decide +kernel, rfl⟩
theorem d_X4_readText_43 : zDc M_X4_readText 43 (.invokevirtual 62) 3 46 := ⟨by decide +kernel, rfl⟩
theorem d_X4_readText_46 : zDc M_X4_readText 46 (.iconst 0) 1 47 := ⟨by decide +kernel, rfl⟩
theorem d_X4_readText_47 : zDc M_X4_readText 47 (.istore_n 3) 1 48 := ⟨by decide +kernel, rfl⟩
theorem d_X4_readText_48 : zDc M_X4_readText 48 (.iconst 0) 1 49 := ⟨by decide +kernel, rfl⟩
theorem d_X4_readText_49 : zDc M_X4_readText 49 (.istore 4) 2 51 := ⟨by decide +kernel, rfl⟩
theorem d_X4_readText_51 : zDc M_X4_readText 51 (.iload 4) 2 53 := ⟨by decide +kernel, rfl⟩
theorem d_X4_readText_53 : zDc M_X4_readText 53 (.aload_n 0) 1 54 := ⟨by decide +kernel, rfl⟩
theorem d_X4_readText_54 : zDc M_X4_readText 54 (.getfield 53) 3 57 := ⟨by decide +kernel, rfl⟩
theorem d_X4_readText_57 : zDj M_X4_readText 57 (.if_icmp .ge 38) 38 60 95 := ⟨by decide +kernel, rfl, by decide⟩
theorem d_X4_readText_60 : zDc M_X4_readText 60 (.aload_n 0) 1 61 := ⟨by decide +kernel, rfl⟩
theorem d_X4_readText_61 : zDc M_X4_readText 61 (.getfield 29) 3 64 := ⟨by decide +kernel, rfl⟩
theorem d_X4_readText_64 : zDj M_X4_readText 64 (.ifCond .ne 31) 31 67 95 := ⟨by decide +kernel, rfl, by decide⟩
theorem d_X4_readText_67 : zDc M_X4_readText 67 (.aload_n 0) 1 68 := ⟨by decide +kernel, rfl⟩
theorem d_X4_readText_68 : zDc M_X4_readText 68 (.getfield 65) 3 71 := ⟨by decide +kernel, rfl⟩
theorem d_X4_readText_71 : zDc M_X4_readText 71 (.bipush 38) 2 73 := ⟨by decide +kernel, rfl⟩
theorem d_X4_readText_73 : zDj M_X4_readText 73 (.if_icmp .eq 22) 22 76 95 := ⟨by decide +kernel, rfl, by decide⟩
theorem d_X4_readText_76 : zDc M_X4_readText 76 (.aload_n 0) 1 77 := ⟨by decide +kernel, rfl⟩
theorem d_X4_readText_77 : zDc M_X4_readText 77 (.invokevirtual 68) 3 80 := ⟨by decide +kernel, rfl⟩
theorem d_X4_readText_80 : zDc M_X4_readText 80 (.aload_n 0) 1 81 := ⟨by decide +kernel, rfl⟩
theorem d_X4_readText_81 : zDc M_X4_readText 81 (.bipush 35) 2 83 := ⟨by decide +kernel, rfl⟩
theorem d_X4_readText_83 : zDc M_X4_readText 83 (.invokevirtual 71) 3 86 := ⟨by decide +kernel, rfl⟩
theorem d_X4_readText_86 : zDc M_X4_readText 86 (.iinc 3 1) 3 89 := ⟨by decide +kernel, rfl⟩
theorem d_X4_readText_89 : zDc M_X4_readText 89 (.iinc 4 1) 3 92 := ⟨by decide +kernel, rfl⟩
theorem d_X4_readText_92 : zDj M_X4_readText 92 (.goto (-41)) (-41) 95 51 := ⟨by decide +kernel, rfl, by decide⟩
theorem d_X4_readText_95 : zDc M_X4_readText 95 (.aload_n 0) 1 96 := ⟨by decide +kernel, rfl⟩
theorem d_X4_readText_96 : zDc M_X4_readText 96 (.getfield 29) 3 99 := ⟨by decide +kernel, rfl⟩
theorem d_X4_readText_99 : zDj M_X4_readText 99 (.ifCond .ne 7) 7 102 106 := ⟨by decide +kernel, rfl, by decide⟩
theorem d_X4_readText_102 : zDc M_X4_readText 102 (.iload_n 3) 1 103 := ⟨by decide +kernel, rfl⟩
theorem d_X4_readText_103 : zDj M_X4_readText 103 (.goto 4) 4 106 107 := ⟨by decide +kernel, rfl, by decide⟩
theorem d_X4_readText_106 : zDc M_X4_readText 106 (.iconst (-1)) 1 107 := ⟨by decide +kernel, rfl⟩
theorem d_X4_readText_107 : zDc M_X4_readText 107 (.ireturn) 1 108 := ⟨by decide +kernel, rfl⟩
def f_X4_readText (a0 : Nat) (a1 : Nat) (a2 : Int32) (h0 : zHp) : Option (Int32 × zHp) :=
  zob (zgR h0 a0 4 10) (fun v1 =>
  zbd (zcv 6 v1 h0 (f_X6_forget v1 h0)) (fun v3 h2 =>
  zob (zpV h2 a0 4 1 (.ref a1)) (fun h4 =>
  zob (zln h4 a1) (fun v5 =>
  zob (zpV h4 a0 4 2 (.int (zmn a2 v5))) (fun h6 =>
  zob (zpV h6 a0 4 3 (.int 0)) (fun h7 =>
  zob (zpV h7 a0 4 9 (.int 0)) (fun h8 =>
  zob (zpV h8 a0 4 14 (.int 0)) (fun h9 =>
  zob (zpV h9 a0 4 15 (.int (-1))) (fun h10 =>
  zbd (zcv 4 a0 h10 (f_X4_advance a0 h10)) (fun v12 h11 =>
  zbd (
  zlp (σ := (Int32 × Int32)) (β := (Int32 × Int32)) zLF (fun s13 h14 =>
  zob (zgI h14 a0 4 2) (fun v17 =>
  if v17 ≤ s13.2 then
  some ((.inr (s13.1, s13.2)), h14)
  else
  zob (zgI h14 a0 4 14) (fun v18 =>
  if v18 = 0 then
  zob (zgI h14 a0 4 4) (fun v19 =>
  if v19 = 38 then
  some ((.inr (s13.1, s13.2)), h14)
  else
  zbd (zcv 4 a0 h14 (f_X4_readLine a0 h14)) (fun v21 h20 =>
  zbd (zcv 4 a0 h20 (f_X4_expect a0 35 h20)) (fun v23 h22 =>
  some ((.inl ((s13.1 + 1), (s13.2 + 1))), h22))))
  else
  some ((.inr (s13.1, s13.2)), h14)))) (0, 0) h11) (fun e15 h16 =>
  zob (zgI h16 a0 4 14) (fun v24 =>
  if v24 = 0 then
  some (e15.1, h16)
  else
  some ((-1), h16)))))))))))))
set_option maxRecDepth 100000 in
set_option maxHeartbeats 4000000 in
theorem t_X4_readText (a0 : Nat) (a1 : Nat) (a2 : Int32) (h0 : zHp) : ∀ (r : Int32) (h' : zHp), f_X4_readText a0 a1 a2 h0 = some (r, h') → zCt yX4_readText (.code yX4_readText cX4_readText 5 (some .int)) 7 190 0 0 [.ref a0, .ref a1, .int a2] h0 (some (.int r)) h' := by
  refine zct_of M_X4_readText yX4_readText (by decide) rfl rfl [.ref a0, .ref a1, .int a2] h0 (Nat.le_of_ble_eq_true rfl) (fun r => some (.int r)) (fun X => ?_)
  show zG X M_X4_readText (0, 0) 0 [(0, .ref a0), (1, .ref a1), (2, .int a2)] [] h0 (f_X4_readText a0 a1 a2 h0) (fun (r : Int32) h' => zKe X (some (.int r)) h')
  unfold f_X4_readText
  refine zg_aload_n 0 rfl d_X4_readText_0 ?_
  refine zg_getR d_X4_readText_1 zc_4 (by decide) fl_X4_22 (fun v1 => ?_)
  refine zg_cVv (b := v1) (As := []) (rest := []) (0, 0) d_X4_readText_4 zc_6 rfl cw_X4_44 wi_X6_forget ws_X6_forget rfl rfl (Nat.le_of_ble_eq_true rfl) (by decide) (by decide) ⟨by decide, by decide⟩ rfl (t_X6_forget v1 h0) (fun v3 h2 => ?_)
  refine zg_aload_n 0 rfl d_X4_readText_7 ?_
  refine zg_aload_n 1 rfl d_X4_readText_8 ?_
  refine zg_putV d_X4_readText_9 zc_4 (by decide) fl_X4_15 rfl rfl rfl (fun h4 => ?_)
  refine zg_aload_n 0 rfl d_X4_readText_12 ?_
  refine zg_iload_n 2 rfl d_X4_readText_13 ?_
  refine zg_aload_n 1 rfl d_X4_readText_14 ?_
  refine zg_len d_X4_readText_15 (fun v5 => ?_)
  refine zg_mmin d_X4_readText_16 ml_X4_47 (by decide) (Nat.le_of_ble_eq_true rfl) ⟨Nat.le_of_ble_eq_true rfl, Nat.le_of_ble_eq_true rfl⟩ ?_
  refine zg_putV d_X4_readText_19 zc_4 (by decide) fl_X4_53 rfl rfl rfl (fun h6 => ?_)
  refine zg_aload_n 0 rfl d_X4_readText_22 ?_
  refine zg_iconst 0 rfl d_X4_readText_23 ?_
  refine zg_putV d_X4_readText_24 zc_4 (by decide) fl_X4_56 rfl rfl rfl (fun h7 => ?_)
  refine zg_aload_n 0 rfl d_X4_readText_27 ?_
  refine zg_iconst 0 rfl d_X4_readText_28 ?_
  refine zg_putV d_X4_readText_29 zc_4 (by decide) fl_X4_59 rfl rfl rfl (fun h8 => ?_)
  refine zg_aload_n 0 rfl d_X4_readText_32 ?_
  refine zg_iconst 0 rfl d_X4_readText_33 ?_
  refine zg_putV d_X4_readText_34 zc_4 (by decide) fl_X4_29 rfl rfl rfl (fun h9 => ?_)
  refine zg_aload_n 0 rfl d_X4_readText_37 ?_
  refine zg_iconst (-1) rfl d_X4_readText_38 ?_
  refine zg_putV d_X4_readText_39 zc_4 (by decide) fl_X4_33 rfl rfl rfl (fun h10 => ?_)
  refine zg_aload_n 0 rfl d_X4_readText_42 ?_
  refine zg_cVv (b := a0) (As := []) (rest := []) (0, 0) d_X4_readText_43 zc_4 rfl cw_X4_62 wi_X4_advance ws_X4_advance rfl rfl (Nat.le_of_ble_eq_true rfl) (by decide) (by decide) ⟨by decide, by decide⟩ rfl (t_X4_advance a0 h10) (fun v12 h11 => ?_)
  refine zg_iconst 0 rfl d_X4_readText_46 ?_
  refine zg_istore_n [(3, .int 0), (0, .ref a0), (1, .ref a1), (2, .int a2)] d_X4_readText_47 rfl (by decide) rfl ?_
  refine zg_iconst 0 rfl d_X4_readText_48 ?_
  refine zg_istore [(4, .int 0), (3, .int 0), (0, .ref a0), (1, .ref a1), (2, .int a2)] d_X4_readText_49 (by decide) rfl ?_
  refine zg_bd (E := 95) (el := (fun (e15 : (Int32 × Int32)) => [(0, .ref a0), (1, .ref a1), (2, .int a2), (3, .int e15.1), (4, .int e15.2)])) (es := fun _ => []) (zg_sub [2, 3, 4, 1, 0] rfl (zg_lp (el := (fun (s13 : (Int32 × Int32)) => [(0, .ref a0), (1, .ref a1), (2, .int a2), (3, .int s13.1), (4, .int s13.2)])) (fun s13 h14 => ?_) (0, 0) h11)) (fun e15 h16 => ?_)
  · refine zg_iload 4 rfl d_X4_readText_51 ?_
    refine zg_aload_n 0 rfl d_X4_readText_53 ?_
    refine zg_getI d_X4_readText_54 zc_4 (by decide) fl_X4_53 (fun v17 => ?_)
    refine zg_icmp_ge d_X4_readText_57 ?_ ?_
    · exact zg_finK (E := 0) [0, 1, 2, 3, 4] rfl rfl (fun q => q)
    · refine zg_aload_n 0 rfl d_X4_readText_60 ?_
      refine zg_getI d_X4_readText_61 zc_4 (by decide) fl_X4_29 (fun v18 => ?_)
      refine zg_if_ne d_X4_readText_64 ?_ ?_
      · refine zg_aload_n 0 rfl d_X4_readText_67 ?_
        refine zg_getI d_X4_readText_68 zc_4 (by decide) fl_X4_65 (fun v19 => ?_)
        refine zg_bipush 38 rfl d_X4_readText_71 ?_
        refine zg_icmp_eq d_X4_readText_73 ?_ ?_
        · exact zg_finK (E := 0) [0, 1, 2, 3, 4] rfl rfl (fun q => q)
        · refine zg_aload_n 0 rfl d_X4_readText_76 ?_
          refine zg_cVv (b := a0) (As := []) (rest := []) (0, 0) d_X4_readText_77 zc_4 rfl cw_X4_68 wi_X4_readLine ws_X4_readLine rfl rfl (Nat.le_of_ble_eq_true rfl) (by decide) (by decide) ⟨by decide, by decide⟩ rfl (t_X4_readLine a0 h14) (fun v21 h20 => ?_)
          refine zg_aload_n 0 rfl d_X4_readText_80 ?_
          refine zg_bipush 35 rfl d_X4_readText_81 ?_
          refine zg_cVv (b := a0) (As := [.int 35]) (rest := []) (0, 0) d_X4_readText_83 zc_4 rfl cw_X4_71 wi_X4_expect ws_X4_expect rfl rfl (Nat.le_of_ble_eq_true rfl) (by decide) (by decide) ⟨by decide, by decide⟩ rfl (t_X4_expect a0 35 h20) (fun v23 h22 => ?_)
          refine zg_iinc 3 (s13.1 + 1) [(3, .int (s13.1 + 1)), (0, .ref a0), (1, .ref a1), (2, .int a2), (4, .int s13.2)] d_X4_readText_86 rfl rfl (by decide) rfl ?_
          refine zg_iinc 4 (s13.2 + 1) [(4, .int (s13.2 + 1)), (3, .int (s13.1 + 1)), (0, .ref a0), (1, .ref a1), (2, .int a2)] d_X4_readText_89 rfl rfl (by decide) rfl ?_
          refine zg_goto d_X4_readText_92 ?_
          exact zg_finK (E := 0) [2, 3, 4, 1, 0] rfl rfl (fun q => q)
      · exact zg_finK (E := 0) [0, 1, 2, 3, 4] rfl rfl (fun q => q)
  · refine zg_aload_n 0 rfl d_X4_readText_95 ?_
    refine zg_getI d_X4_readText_96 zc_4 (by decide) fl_X4_29 (fun v24 => ?_)
    refine zg_if_ne d_X4_readText_99 ?_ ?_
    · refine zg_iload_n 3 rfl d_X4_readText_102 ?_
      refine zg_goto d_X4_readText_103 ?_
      exact zg_iretK d_X4_readText_107 rfl ⟨Nat.le_of_ble_eq_true rfl, Nat.le_of_ble_eq_true rfl⟩ (fun q => q)
    · refine zg_iconst (-1) rfl d_X4_readText_106 ?_
      exact zg_iretK d_X4_readText_107 rfl ⟨Nat.le_of_ble_eq_true rfl, Nat.le_of_ble_eq_true rfl⟩ (fun q => q)
abbrev M_X4_takeTold : zMt := (RX4, cX4_takeTold, 3, 1, 60, (some (.object "CloudSchool$Told")), "takeTold", 0, 0)
theorem d_X4_takeTold_0 : zDc M_X4_takeTold 0 (.aload_n 0) 1 1 := ⟨by decide +kernel, rfl⟩
theorem d_X4_takeTold_1 : zDc M_X4_takeTold 1 (.getfield 22) 3 4 := ⟨by decide +kernel, rfl⟩
theorem d_X4_takeTold_4 : zDc M_X4_takeTold 4 (.astore_n 2) 1 5 := ⟨by decide +kernel, rfl⟩
theorem d_X4_takeTold_5 : zDc M_X4_takeTold 5 (.aload_n 0) 1 6 := ⟨by decide +kernel, rfl⟩
theorem d_X4_takeTold_6 : zDc M_X4_takeTold 6 (.aload_n 1) 1 7 := ⟨by decide +kernel, rfl⟩
theorem d_X4_takeTold_7 : zDc M_X4_takeTold 7 (.putfield 22) 3 10 := ⟨by decide +kernel, rfl⟩
theorem d_X4_takeTold_10 : zDc M_X4_takeTold 10 (.aload_n 2) 1 11 := ⟨by decide +kernel, rfl⟩
theorem d_X4_takeTold_11 : zDc M_X4_takeTold 11 (.areturn) 1 12 := ⟨by decide +kernel, rfl⟩
def f_X4_takeTold (a0 : Nat) (a1 : Nat) (h0 : zHp) : Option (Nat × zHp) :=
  zob (zgR h0 a0 4 10) (fun v1 =>
  zob (zpV h0 a0 4 10 (.ref a1)) (fun h2 =>
  some (v1, h2)))
set_option maxRecDepth 100000 in
set_option maxHeartbeats 4000000 in
theorem t_X4_takeTold (a0 : Nat) (a1 : Nat) (h0 : zHp) : ∀ (r : Nat) (h' : zHp), f_X4_takeTold a0 a1 h0 = some (r, h') → zCt yX4_takeTold (.code yX4_takeTold cX4_takeTold 3 (some (.object "CloudSchool$Told"))) 1 60 0 0 [.ref a0, .ref a1] h0 (some (.ref r)) h' := by
  refine zct_of M_X4_takeTold yX4_takeTold (by decide) rfl rfl [.ref a0, .ref a1] h0 (Nat.le_of_ble_eq_true rfl) (fun r => some (.ref r)) (fun X => ?_)
  show zG X M_X4_takeTold (0, 0) 0 [(0, .ref a0), (1, .ref a1)] [] h0 (f_X4_takeTold a0 a1 h0) (fun (r : Nat) h' => zKe X (some (.ref r)) h')
  unfold f_X4_takeTold
  refine zg_aload_n 0 rfl d_X4_takeTold_0 ?_
  refine zg_getR d_X4_takeTold_1 zc_4 (by decide) fl_X4_22 (fun v1 => ?_)
  refine zg_astore_n [(2, .ref v1), (0, .ref a0), (1, .ref a1)] d_X4_takeTold_4 rfl (by decide) rfl ?_
  refine zg_aload_n 1 rfl d_X4_takeTold_5 ?_
  refine zg_aload_n 2 rfl d_X4_takeTold_6 ?_
  refine zg_putV d_X4_takeTold_7 zc_4 (by decide) fl_X4_22 rfl rfl rfl (fun h2 => ?_)
  refine zg_aload_n 0 rfl d_X4_takeTold_10 ?_
  exact zg_aretK d_X4_takeTold_11 rfl ⟨Nat.le_of_ble_eq_true rfl, Nat.le_of_ble_eq_true rfl⟩ (fun q => q)
abbrev M_X5_marksInAll : zMt := (RX5, cX5_marksInAll, 3, 1, 60, (some .int), "marksInAll", 0, 0)
theorem d_X5_marksInAll_0 : zDc M_X5_marksInAll 0 (.iconst 0) 1 1 := ⟨by decide +kernel, rfl⟩
theorem d_X5_marksInAll_1 : zDc M_X5_marksInAll 1 (.istore_n 1) 1 2 := ⟨by decide +kernel, rfl⟩
theorem d_X5_marksInAll_2 : zDc M_X5_marksInAll 2 (.iconst 0) 1 3 := ⟨by decide +kernel, rfl⟩
theorem d_X5_marksInAll_3 : zDc M_X5_marksInAll 3 (.istore_n 2) 1 4 := ⟨by decide +kernel, rfl⟩
theorem d_X5_marksInAll_4 : zDc M_X5_marksInAll 4 (.iload_n 2) 1 5 := ⟨by decide +kernel, rfl⟩
theorem d_X5_marksInAll_5 : zDc M_X5_marksInAll 5 (.aload_n 0) 1 6 := ⟨by decide +kernel, rfl⟩
theorem d_X5_marksInAll_6 : zDc M_X5_marksInAll 6 (.getfield 50) 3 9 := ⟨by decide +kernel, rfl⟩
theorem d_X5_marksInAll_9 : zDc M_X5_marksInAll 9 (.getfield 117) 3 12 := ⟨by decide +kernel, rfl⟩
theorem d_X5_marksInAll_12 : zDj M_X5_marksInAll 12 (.if_icmp .ge 18) 18 15 30 := ⟨by decide +kernel, rfl, by decide⟩
theorem d_X5_marksInAll_15 : zDc M_X5_marksInAll 15 (.iload_n 1) 1 16 := ⟨by decide +kernel, rfl⟩
theorem d_X5_marksInAll_16 : zDc M_X5_marksInAll 16 (.aload_n 0) 1 17 := ⟨by decide +kernel, rfl⟩
theorem d_X5_marksInAll_17 : zDc M_X5_marksInAll 17 (.getfield 36) 3 20 := ⟨by decide +kernel, rfl⟩
theorem d_X5_marksInAll_20 : zDc M_X5_marksInAll 20 (.iload_n 2) 1 21 := ⟨by decide +kernel, rfl⟩
theorem d_X5_marksInAll_21 : zDc M_X5_marksInAll 21 (.iaload) 1 22 := ⟨by decide +kernel, rfl⟩
theorem d_X5_marksInAll_22 : zDc M_X5_marksInAll 22 (.iadd) 1 23 := ⟨by decide +kernel, rfl⟩
theorem d_X5_marksInAll_23 : zDc M_X5_marksInAll 23 (.istore_n 1) 1 24 := ⟨by decide +kernel, rfl⟩
theorem d_X5_marksInAll_24 : zDc M_X5_marksInAll 24 (.iinc 2 1) 3 27 := ⟨by decide +kernel, rfl⟩
theorem d_X5_marksInAll_27 : zDj M_X5_marksInAll 27 (.goto (-23)) (-23) 30 4 := ⟨by decide +kernel, rfl, by decide⟩
theorem d_X5_marksInAll_30 : zDc M_X5_marksInAll 30 (.iload_n 1) 1 31 := ⟨by decide +kernel, rfl⟩
theorem d_X5_marksInAll_31 : zDc M_X5_marksInAll 31 (.ireturn) 1 32 := ⟨by decide +kernel, rfl⟩
def f_X5_marksInAll (a0 : Nat) (h0 : zHp) : Option (Int32 × zHp) :=
  zbd (
  zlp (σ := (Int32 × Int32)) (β := (Int32 × Int32)) zLF (fun s1 h2 =>
  zob (zgR h2 a0 5 14) (fun v5 =>
  zob (zgI h2 v5 6 15) (fun v6 =>
  if v6 ≤ s1.2 then
  some ((.inr (s1.1, s1.2)), h2)
  else
  zob (zgR h2 a0 5 8) (fun v7 =>
  zob (zaI 0 h2 v7 s1.2) (fun v8 =>
  some ((.inl ((s1.1 + v8), (s1.2 + 1))), h2)))))) (0, 0) h0) (fun e3 h4 =>
  some (e3.1, h4))
set_option maxRecDepth 100000 in
set_option maxHeartbeats 4000000 in
theorem t_X5_marksInAll (a0 : Nat) (h0 : zHp) : ∀ (r : Int32) (h' : zHp), f_X5_marksInAll a0 h0 = some (r, h') → zCt yX5_marksInAll (.code yX5_marksInAll cX5_marksInAll 3 (some .int)) 1 60 0 0 [.ref a0] h0 (some (.int r)) h' := by
  refine zct_of M_X5_marksInAll yX5_marksInAll (by decide) rfl rfl [.ref a0] h0 (Nat.le_of_ble_eq_true rfl) (fun r => some (.int r)) (fun X => ?_)
  show zG X M_X5_marksInAll (0, 0) 0 [(0, .ref a0)] [] h0 (f_X5_marksInAll a0 h0) (fun (r : Int32) h' => zKe X (some (.int r)) h')
  unfold f_X5_marksInAll
  refine zg_iconst 0 rfl d_X5_marksInAll_0 ?_
  refine zg_istore_n [(1, .int 0), (0, .ref a0)] d_X5_marksInAll_1 rfl (by decide) rfl ?_
  refine zg_iconst 0 rfl d_X5_marksInAll_2 ?_
  refine zg_istore_n [(2, .int 0), (1, .int 0), (0, .ref a0)] d_X5_marksInAll_3 rfl (by decide) rfl ?_
  refine zg_bd (E := 30) (el := (fun (e3 : (Int32 × Int32)) => [(0, .ref a0), (1, .int e3.1), (2, .int e3.2)])) (es := fun _ => []) (zg_sub [2, 1, 0] rfl (zg_lp (el := (fun (s1 : (Int32 × Int32)) => [(0, .ref a0), (1, .int s1.1), (2, .int s1.2)])) (fun s1 h2 => ?_) (0, 0) h0)) (fun e3 h4 => ?_)
  · refine zg_iload_n 2 rfl d_X5_marksInAll_4 ?_
    refine zg_aload_n 0 rfl d_X5_marksInAll_5 ?_
    refine zg_getR d_X5_marksInAll_6 zc_5 (by decide) fl_X5_50 (fun v5 => ?_)
    refine zg_getI d_X5_marksInAll_9 zc_6 (by decide) fl_X5_117 (fun v6 => ?_)
    refine zg_icmp_ge d_X5_marksInAll_12 ?_ ?_
    · exact zg_finK (E := 0) [0, 1, 2] rfl rfl (fun q => q)
    · refine zg_iload_n 1 rfl d_X5_marksInAll_15 ?_
      refine zg_aload_n 0 rfl d_X5_marksInAll_16 ?_
      refine zg_getR d_X5_marksInAll_17 zc_5 (by decide) fl_X5_36 (fun v7 => ?_)
      refine zg_iload_n 2 rfl d_X5_marksInAll_20 ?_
      refine zg_ald0 d_X5_marksInAll_21 (fun v8 => ?_)
      refine zg_iadd d_X5_marksInAll_22 ?_
      refine zg_istore_n [(1, .int (s1.1 + v8)), (0, .ref a0), (2, .int s1.2)] d_X5_marksInAll_23 rfl (by decide) rfl ?_
      refine zg_iinc 2 (s1.2 + 1) [(2, .int (s1.2 + 1)), (1, .int (s1.1 + v8)), (0, .ref a0)] d_X5_marksInAll_24 rfl rfl (by decide) rfl ?_
      refine zg_goto d_X5_marksInAll_27 ?_
      exact zg_finK (E := 0) [2, 1, 0] rfl rfl (fun q => q)
  · refine zg_iload_n 1 rfl d_X5_marksInAll_30 ?_
    exact zg_iretK d_X5_marksInAll_31 rfl ⟨Nat.le_of_ble_eq_true rfl, Nat.le_of_ble_eq_true rfl⟩ (fun q => q)
abbrev M_X5_rainInAll : zMt := (RX5, cX5_rainInAll, 3, 1, 60, (some .int), "rainInAll", 0, 0)
theorem d_X5_rainInAll_0 : zDc M_X5_rainInAll 0 (.iconst 0) 1 1 := ⟨by decide +kernel, rfl⟩
theorem d_X5_rainInAll_1 : zDc M_X5_rainInAll 1 (.istore_n 1) 1 2 := ⟨by decide +kernel, rfl⟩
theorem d_X5_rainInAll_2 : zDc M_X5_rainInAll 2 (.iconst 0) 1 3 := ⟨by decide +kernel, rfl⟩
theorem d_X5_rainInAll_3 : zDc M_X5_rainInAll 3 (.istore_n 2) 1 4 := ⟨by decide +kernel, rfl⟩
theorem d_X5_rainInAll_4 : zDc M_X5_rainInAll 4 (.iload_n 2) 1 5 := ⟨by decide +kernel, rfl⟩
theorem d_X5_rainInAll_5 : zDc M_X5_rainInAll 5 (.aload_n 0) 1 6 := ⟨by decide +kernel, rfl⟩
theorem d_X5_rainInAll_6 : zDc M_X5_rainInAll 6 (.getfield 50) 3 9 := ⟨by decide +kernel, rfl⟩
theorem d_X5_rainInAll_9 : zDc M_X5_rainInAll 9 (.getfield 114) 3 12 := ⟨by decide +kernel, rfl⟩
theorem d_X5_rainInAll_12 : zDj M_X5_rainInAll 12 (.if_icmp .ge 18) 18 15 30 := ⟨by decide +kernel, rfl, by decide⟩
theorem d_X5_rainInAll_15 : zDc M_X5_rainInAll 15 (.iload_n 1) 1 16 := ⟨by decide +kernel, rfl⟩
theorem d_X5_rainInAll_16 : zDc M_X5_rainInAll 16 (.aload_n 0) 1 17 := ⟨by decide +kernel, rfl⟩
theorem d_X5_rainInAll_17 : zDc M_X5_rainInAll 17 (.getfield 39) 3 20 := ⟨by decide +kernel, rfl⟩
theorem d_X5_rainInAll_20 : zDc M_X5_rainInAll 20 (.iload_n 2) 1 21 := ⟨by decide +kernel, rfl⟩
theorem d_X5_rainInAll_21 : zDc M_X5_rainInAll 21 (.iaload) 1 22 := ⟨by decide +kernel, rfl⟩
theorem d_X5_rainInAll_22 : zDc M_X5_rainInAll 22 (.iadd) 1 23 := ⟨by decide +kernel, rfl⟩
theorem d_X5_rainInAll_23 : zDc M_X5_rainInAll 23 (.istore_n 1) 1 24 := ⟨by decide +kernel, rfl⟩
theorem d_X5_rainInAll_24 : zDc M_X5_rainInAll 24 (.iinc 2 1) 3 27 := ⟨by decide +kernel, rfl⟩
theorem d_X5_rainInAll_27 : zDj M_X5_rainInAll 27 (.goto (-23)) (-23) 30 4 := ⟨by decide +kernel, rfl, by decide⟩
theorem d_X5_rainInAll_30 : zDc M_X5_rainInAll 30 (.iload_n 1) 1 31 := ⟨by decide +kernel, rfl⟩
theorem d_X5_rainInAll_31 : zDc M_X5_rainInAll 31 (.ireturn) 1 32 := ⟨by decide +kernel, rfl⟩
def f_X5_rainInAll (a0 : Nat) (h0 : zHp) : Option (Int32 × zHp) :=
  zbd (
  zlp (σ := (Int32 × Int32)) (β := (Int32 × Int32)) zLF (fun s1 h2 =>
  zob (zgR h2 a0 5 14) (fun v5 =>
  zob (zgI h2 v5 6 13) (fun v6 =>
  if v6 ≤ s1.2 then
  some ((.inr (s1.1, s1.2)), h2)
  else
  zob (zgR h2 a0 5 9) (fun v7 =>
  zob (zaI 0 h2 v7 s1.2) (fun v8 =>
  some ((.inl ((s1.1 + v8), (s1.2 + 1))), h2)))))) (0, 0) h0) (fun e3 h4 =>
  some (e3.1, h4))
set_option maxRecDepth 100000 in
set_option maxHeartbeats 4000000 in
theorem t_X5_rainInAll (a0 : Nat) (h0 : zHp) : ∀ (r : Int32) (h' : zHp), f_X5_rainInAll a0 h0 = some (r, h') → zCt yX5_rainInAll (.code yX5_rainInAll cX5_rainInAll 3 (some .int)) 1 60 0 0 [.ref a0] h0 (some (.int r)) h' := by
  refine zct_of M_X5_rainInAll yX5_rainInAll (by decide) rfl rfl [.ref a0] h0 (Nat.le_of_ble_eq_true rfl) (fun r => some (.int r)) (fun X => ?_)
  show zG X M_X5_rainInAll (0, 0) 0 [(0, .ref a0)] [] h0 (f_X5_rainInAll a0 h0) (fun (r : Int32) h' => zKe X (some (.int r)) h')
  unfold f_X5_rainInAll
  refine zg_iconst 0 rfl d_X5_rainInAll_0 ?_
  refine zg_istore_n [(1, .int 0), (0, .ref a0)] d_X5_rainInAll_1 rfl (by decide) rfl ?_
  refine zg_iconst 0 rfl d_X5_rainInAll_2 ?_
  refine zg_istore_n [(2, .int 0), (1, .int 0), (0, .ref a0)] d_X5_rainInAll_3 rfl (by decide) rfl ?_
  refine zg_bd (E := 30) (el := (fun (e3 : (Int32 × Int32)) => [(0, .ref a0), (1, .int e3.1), (2, .int e3.2)])) (es := fun _ => []) (zg_sub [2, 1, 0] rfl (zg_lp (el := (fun (s1 : (Int32 × Int32)) => [(0, .ref a0), (1, .int s1.1), (2, .int s1.2)])) (fun s1 h2 => ?_) (0, 0) h0)) (fun e3 h4 => ?_)
  · refine zg_iload_n 2 rfl d_X5_rainInAll_4 ?_
    refine zg_aload_n 0 rfl d_X5_rainInAll_5 ?_
    refine zg_getR d_X5_rainInAll_6 zc_5 (by decide) fl_X5_50 (fun v5 => ?_)
    refine zg_getI d_X5_rainInAll_9 zc_6 (by decide) fl_X5_114 (fun v6 => ?_)
    refine zg_icmp_ge d_X5_rainInAll_12 ?_ ?_
    · exact zg_finK (E := 0) [0, 1, 2] rfl rfl (fun q => q)
    · refine zg_iload_n 1 rfl d_X5_rainInAll_15 ?_
      refine zg_aload_n 0 rfl d_X5_rainInAll_16 ?_
      refine zg_getR d_X5_rainInAll_17 zc_5 (by decide) fl_X5_39 (fun v7 => ?_)
      refine zg_iload_n 2 rfl d_X5_rainInAll_20 ?_
      refine zg_ald0 d_X5_rainInAll_21 (fun v8 => ?_)
      refine zg_iadd d_X5_rainInAll_22 ?_
      refine zg_istore_n [(1, .int (s1.1 + v8)), (0, .ref a0), (2, .int s1.2)] d_X5_rainInAll_23 rfl (by decide) rfl ?_
      refine zg_iinc 2 (s1.2 + 1) [(2, .int (s1.2 + 1)), (1, .int (s1.1 + v8)), (0, .ref a0)] d_X5_rainInAll_24 rfl rfl (by decide) rfl ?_
      refine zg_goto d_X5_rainInAll_27 ?_
      exact zg_finK (E := 0) [2, 1, 0] rfl rfl (fun q => q)
  · refine zg_iload_n 1 rfl d_X5_rainInAll_30 ?_
    exact zg_iretK d_X5_rainInAll_31 rfl ⟨Nat.le_of_ble_eq_true rfl, Nat.le_of_ble_eq_true rfl⟩ (fun q => q)
abbrev M_X5_seenBy : zMt := (RX5, cX5_seenBy, 2, 3, 106, (some .int), "seenBy", 0, 0)
theorem d_X5_seenBy_0 : zDc M_X5_seenBy 0 (.aload_n 0) 1 1 := ⟨by decide +kernel, rfl⟩
theorem d_X5_seenBy_1 : zDc M_X5_seenBy 1 (.aload_n 0) 1 2 := ⟨by decide +kernel, rfl⟩
theorem d_X5_seenBy_2 : zDc M_X5_seenBy 2 (.getfield 30) 3 5 := ⟨by decide +kernel, rfl⟩
theorem d_X5_seenBy_5 : zDc M_X5_seenBy 5 (.iload_n 1) 1 6 := ⟨by decide +kernel, rfl⟩
theorem d_X5_seenBy_6 : zDc M_X5_seenBy 6 (.iaload) 1 7 := ⟨by decide +kernel, rfl⟩
theorem d_X5_seenBy_7 : zDc M_X5_seenBy 7 (.aload_n 0) 1 8 := ⟨by decide +kernel, rfl⟩
theorem d_X5_seenBy_8 : zDc M_X5_seenBy 8 (.getfield 33) 3 11 := ⟨by decide +kernel, rfl⟩
theorem d_X5_seenBy_11 : zDc M_X5_seenBy 11 (.iload_n 1) 1 12 := ⟨by decide +kernel, rfl⟩
theorem d_X5_seenBy_12 : zDc M_X5_seenBy 12 (.iaload) 1 13 := ⟨by decide +kernel, rfl⟩
theorem d_X5_seenBy_13 : zDc M_X5_seenBy 13 (.aload_n 0) 1 14 := ⟨by decide +kernel, rfl⟩
theorem d_X5_seenBy_14 : zDc M_X5_seenBy 14 (.getfield 50) 3 17 := ⟨by decide +kernel, rfl⟩
theorem d_X5_seenBy_17 : zDc M_X5_seenBy 17 (.getfield 101) 3 20 := ⟨by decide +kernel, rfl⟩
theorem d_X5_seenBy_20 : zDc M_X5_seenBy 20 (.iload_n 1) 1 21 := ⟨by decide +kernel, rfl⟩
theorem d_X5_seenBy_21 : zDc M_X5_seenBy 21 (.iaload) 1 22 := ⟨by decide +kernel, rfl⟩
theorem d_X5_seenBy_22 : zDc M_X5_seenBy 22 (.invokevirtual 104) 3 25 := ⟨by decide +kernel, rfl⟩
theorem d_X5_seenBy_25 : zDc M_X5_seenBy 25 (.ireturn) 1 26 := ⟨by decide +kernel, rfl⟩
def f_X5_seenBy (a0 : Nat) (a1 : Int32) (h0 : zHp) : Option (Int32 × zHp) :=
  zob (zgR h0 a0 5 6) (fun v1 =>
  zob (zaI 0 h0 v1 a1) (fun v2 =>
  zob (zgR h0 a0 5 7) (fun v3 =>
  zob (zaI 0 h0 v3 a1) (fun v4 =>
  zob (zgR h0 a0 5 14) (fun v5 =>
  zob (zgR h0 v5 6 10) (fun v6 =>
  zob (zaI 0 h0 v6 a1) (fun v7 =>
  zbd (zcv 5 a0 h0 (f_X5_seenFrom a0 v2 v4 v7 h0)) (fun v9 h8 =>
  some (v9, h8)))))))))
set_option maxRecDepth 100000 in
set_option maxHeartbeats 4000000 in
theorem t_X5_seenBy (a0 : Nat) (a1 : Int32) (h0 : zHp) : ∀ (r : Int32) (h' : zHp), f_X5_seenBy a0 a1 h0 = some (r, h') → zCt yX5_seenBy (.code yX5_seenBy cX5_seenBy 2 (some .int)) 3 106 0 0 [.ref a0, .int a1] h0 (some (.int r)) h' := by
  refine zct_of M_X5_seenBy yX5_seenBy (by decide) rfl rfl [.ref a0, .int a1] h0 (Nat.le_of_ble_eq_true rfl) (fun r => some (.int r)) (fun X => ?_)
  show zG X M_X5_seenBy (0, 0) 0 [(0, .ref a0), (1, .int a1)] [] h0 (f_X5_seenBy a0 a1 h0) (fun (r : Int32) h' => zKe X (some (.int r)) h')
  unfold f_X5_seenBy
  refine zg_aload_n 0 rfl d_X5_seenBy_0 ?_
  refine zg_aload_n 0 rfl d_X5_seenBy_1 ?_
  refine zg_getR d_X5_seenBy_2 zc_5 (by decide) fl_X5_30 (fun v1 => ?_)
  refine zg_iload_n 1 rfl d_X5_seenBy_5 ?_
  refine zg_ald0 d_X5_seenBy_6 (fun v2 => ?_)
  refine zg_aload_n 0 rfl d_X5_seenBy_7 ?_
  refine zg_getR d_X5_seenBy_8 zc_5 (by decide) fl_X5_33 (fun v3 => ?_)
  refine zg_iload_n 1 rfl d_X5_seenBy_11 ?_
  refine zg_ald0 d_X5_seenBy_12 (fun v4 => ?_)
  refine zg_aload_n 0 rfl d_X5_seenBy_13 ?_
  refine zg_getR d_X5_seenBy_14 zc_5 (by decide) fl_X5_50 (fun v5 => ?_)
  refine zg_getR d_X5_seenBy_17 zc_6 (by decide) fl_X5_101 (fun v6 => ?_)
  refine zg_iload_n 1 rfl d_X5_seenBy_20 ?_
  refine zg_ald0 d_X5_seenBy_21 (fun v7 => ?_)
  refine zg_cVi (b := a0) (As := [.int v2, .int v4, .int v7]) (rest := []) (0, 0) d_X5_seenBy_22 zc_5 rfl cw_X5_104 wi_X5_seenFrom ws_X5_seenFrom rfl rfl (Nat.le_of_ble_eq_true rfl) (by decide) (by decide) ⟨by decide, by decide⟩ rfl (t_X5_seenFrom a0 v2 v4 v7 h0) (fun v9 h8 => ?_)
  exact zg_iretK d_X5_seenBy_25 rfl ⟨Nat.le_of_ble_eq_true rfl, Nat.le_of_ble_eq_true rfl⟩ (fun q => q)
abbrev M_X5_wouldSwap : zMt := (RX5, cX5_wouldSwap, 5, 2, 84, (some .boolean), "wouldSwap", 0, 0)
theorem d_X5_wouldSwap_0 : zDc M_X5_wouldSwap 0 (.aload_n 0) 1 1 := ⟨by decide +kernel, rfl⟩
theorem d_X5_wouldSwap_1 : zDc M_X5_wouldSwap 1 (.getfield 24) 3 4 := ⟨by decide +kernel, rfl⟩
theorem d_X5_wouldSwap_4 : zDc M_X5_wouldSwap 4 (.iload_n 1) 1 5 := ⟨by decide +kernel, rfl⟩
theorem d_X5_wouldSwap_5 : zDc M_X5_wouldSwap 5 (.iaload) 1 6 := ⟨by decide +kernel, rfl⟩
theorem d_X5_wouldSwap_6 : zDc M_X5_wouldSwap 6 (.istore_n 3) 1 7 := ⟨by decide +kernel, rfl⟩
theorem d_X5_wouldSwap_7 : zDc M_X5_wouldSwap 7 (.aload_n 0) 1 8 := ⟨by decide +kernel, rfl⟩
theorem d_X5_wouldSwap_8 : zDc M_X5_wouldSwap 8 (.getfield 24) 3 11 := ⟨by decide +kernel, rfl⟩
theorem d_X5_wouldSwap_11 : zDc M_X5_wouldSwap 11 (.iload_n 2) 1 12 := ⟨by decide +kernel, rfl⟩
theorem d_X5_wouldSwap_12 : zDc M_X5_wouldSwap 12 (.iaload) 1 13 := ⟨by decide +kernel, rfl⟩
theorem d_X5_wouldSwap_13 : zDc M_X5_wouldSwap 13 (.istore 4) 2 15 := ⟨by decide +kernel, rfl⟩
theorem d_X5_wouldSwap_15 : zDc M_X5_wouldSwap 15 (.aload_n 0) 1 16 := ⟨by decide +kernel, rfl⟩
theorem d_X5_wouldSwap_16 : zDc M_X5_wouldSwap 16 (.iload_n 1) 1 17 := ⟨by decide +kernel, rfl⟩
theorem d_X5_wouldSwap_17 : zDc M_X5_wouldSwap 17 (.invokevirtual 93) 3 20 := ⟨by decide +kernel, rfl⟩
theorem d_X5_wouldSwap_20 : zDj M_X5_wouldSwap 20 (.ifCond .eq 28) 28 23 48 := ⟨by decide +kernel, rfl, by decide⟩
theorem d_X5_wouldSwap_23 : zDc M_X5_wouldSwap 23 (.aload_n 0) 1 24 := ⟨by decide +kernel, rfl⟩
theorem d_X5_wouldSwap_24 : zDc M_X5_wouldSwap 24 (.iload_n 2) 1 25 := ⟨by decide +kernel, rfl⟩
theorem d_X5_wouldSwap_25 : zDc M_X5_wouldSwap 25 (.invokevirtual 93) 3 28 := ⟨by decide +kernel, rfl⟩
theorem d_X5_wouldSwap_28 : zDj M_X5_wouldSwap 28 (.ifCond .eq 20) 20 31 48 := ⟨by decide +kernel, rfl, by decide⟩
theorem d_X5_wouldSwap_31 : zDc M_X5_wouldSwap 31 (.iload_n 3) 1 32 := ⟨by decide +kernel, rfl⟩
theorem d_X5_wouldSwap_32 : zDc M_X5_wouldSwap 32 (.iconst (-1)) 1 33 := ⟨by decide +kernel, rfl⟩
theorem d_X5_wouldSwap_33 : zDj M_X5_wouldSwap 33 (.if_icmp .eq 15) 15 36 48 := ⟨by decide +kernel, rfl, by decide⟩
theorem d_X5_wouldSwap_36 : zDc M_X5_wouldSwap 36 (.iload 4) 2 38 := ⟨by decide +kernel, rfl⟩
theorem d_X5_wouldSwap_38 : zDc M_X5_wouldSwap 38 (.iconst (-1)) 1 39 := ⟨by decide +kernel, rfl⟩
theorem d_X5_wouldSwap_39 : zDj M_X5_wouldSwap 39 (.if_icmp .eq 9) 9 42 48 := ⟨by decide +kernel, rfl, by decide⟩
theorem d_X5_wouldSwap_42 : zDc M_X5_wouldSwap 42 (.iload_n 3) 1 43 := ⟨by decide +kernel, rfl⟩
theorem d_X5_wouldSwap_43 : zDc M_X5_wouldSwap 43 (.iload 4) 2 45 := ⟨by decide +kernel, rfl⟩
theorem d_X5_wouldSwap_45 : zDj M_X5_wouldSwap 45 (.if_icmp .ne 5) 5 48 50 := ⟨by decide +kernel, rfl, by decide⟩
theorem d_X5_wouldSwap_48 : zDc M_X5_wouldSwap 48 (.iconst 0) 1 49 := ⟨by decide +kernel, rfl⟩
theorem d_X5_wouldSwap_49 : zDc M_X5_wouldSwap 49 (.ireturn) 1 50 := ⟨by decide +kernel, rfl⟩
theorem d_X5_wouldSwap_50 : zDc M_X5_wouldSwap 50 (.aload_n 0) 1 51 := ⟨by decide +kernel, rfl⟩
theorem d_X5_wouldSwap_51 : zDc M_X5_wouldSwap 51 (.iload_n 3) 1 52 := ⟨by decide +kernel, rfl⟩
theorem d_X5_wouldSwap_52 : zDc M_X5_wouldSwap 52 (.iload_n 2) 1 53 := ⟨by decide +kernel, rfl⟩
theorem d_X5_wouldSwap_53 : zDc M_X5_wouldSwap 53 (.invokevirtual 97) 3 56 := ⟨by decide +kernel, rfl⟩
theorem d_X5_wouldSwap_56 : zDc M_X5_wouldSwap 56 (.aload_n 0) 1 57 := ⟨by decide +kernel, rfl⟩
theorem d_X5_wouldSwap_57 : zDc M_X5_wouldSwap 57 (.iload_n 3) 1 58 := ⟨by decide +kernel, rfl⟩
theorem d_X5_wouldSwap_58 : zDc M_X5_wouldSwap 58 (.iload_n 1) 1 59 := ⟨by decide +kernel, rfl⟩
theorem d_X5_wouldSwap_59 : zDc M_X5_wouldSwap 59 (.invokevirtual 97) 3 62 := ⟨by decide +kernel, rfl⟩
theorem d_X5_wouldSwap_62 : zDj M_X5_wouldSwap 62 (.if_icmp .ge 24) 24 65 86 := ⟨by decide +kernel, rfl, by decide⟩
theorem d_X5_wouldSwap_65 : zDc M_X5_wouldSwap 65 (.aload_n 0) 1 66 := ⟨by decide +kernel, rfl⟩
theorem d_X5_wouldSwap_66 : zDc M_X5_wouldSwap 66 (.iload 4) 2 68 := ⟨by decide +kernel, rfl⟩
theorem d_X5_wouldSwap_68 : zDc M_X5_wouldSwap 68 (.iload_n 1) 1 69 := ⟨by decide +kernel, rfl⟩
theorem d_X5_wouldSwap_69 : zDc M_X5_wouldSwap 69 (.invokevirtual 97) 3 72 := ⟨by decide +kernel, rfl⟩
theorem d_X5_wouldSwap_72 : zDc M_X5_wouldSwap 72 (.aload_n 0) 1 73 := ⟨by decide +kernel, rfl⟩
theorem d_X5_wouldSwap_73 : zDc M_X5_wouldSwap 73 (.iload 4) 2 75 := ⟨by decide +kernel, rfl⟩
theorem d_X5_wouldSwap_75 : zDc M_X5_wouldSwap 75 (.iload_n 2) 1 76 := ⟨by decide +kernel, rfl⟩
theorem d_X5_wouldSwap_76 : zDc M_X5_wouldSwap 76 (.invokevirtual 97) 3 79 := ⟨by decide +kernel, rfl⟩
theorem d_X5_wouldSwap_79 : zDj M_X5_wouldSwap 79 (.if_icmp .ge 7) 7 82 86 := ⟨by decide +kernel, rfl, by decide⟩
theorem d_X5_wouldSwap_82 : zDc M_X5_wouldSwap 82 (.iconst 1) 1 83 := ⟨by decide +kernel, rfl⟩
theorem d_X5_wouldSwap_83 : zDj M_X5_wouldSwap 83 (.goto 4) 4 86 87 := ⟨by decide +kernel, rfl, by decide⟩
theorem d_X5_wouldSwap_86 : zDc M_X5_wouldSwap 86 (.iconst 0) 1 87 := ⟨by decide +kernel, rfl⟩
theorem d_X5_wouldSwap_87 : zDc M_X5_wouldSwap 87 (.ireturn) 1 88 := ⟨by decide +kernel, rfl⟩
def f_X5_wouldSwap (a0 : Nat) (a1 : Int32) (a2 : Int32) (h0 : zHp) : Option (Int32 × zHp) :=
  zob (zgR h0 a0 5 4) (fun v1 =>
  zob (zaI 0 h0 v1 a1) (fun v2 =>
  zob (zgR h0 a0 5 4) (fun v3 =>
  zob (zaI 0 h0 v3 a2) (fun v4 =>
  zbd (zcv 5 a0 h0 (f_X5_isUp a0 a1 h0)) (fun v6 h5 =>
  if v6 = 0 then
  some (0, h5)
  else
  zbd (zcv 5 a0 h5 (f_X5_isUp a0 a2 h5)) (fun v8 h7 =>
  if v8 = 0 then
  some (0, h7)
  else
  if v2 = (-1) then
  some (0, h7)
  else
  if v4 = (-1) then
  some (0, h7)
  else
  if v2 = v4 then
  some (0, h7)
  else
  zbd (zcv 5 a0 h7 (f_X5_howFar a0 v2 a2 h7)) (fun v10 h9 =>
  zbd (zcv 5 a0 h9 (f_X5_howFar a0 v2 a1 h9)) (fun v12 h11 =>
  if v12 ≤ v10 then
  some (0, h11)
  else
  zbd (zcv 5 a0 h11 (f_X5_howFar a0 v4 a1 h11)) (fun v14 h13 =>
  zbd (zcv 5 a0 h13 (f_X5_howFar a0 v4 a2 h13)) (fun v16 h15 =>
  if v16 ≤ v14 then
  some (0, h15)
  else
  some (1, h15)))))))))))
set_option maxRecDepth 100000 in
set_option maxHeartbeats 4000000 in
theorem t_X5_wouldSwap (a0 : Nat) (a1 : Int32) (a2 : Int32) (h0 : zHp) : ∀ (r : Int32) (h' : zHp), f_X5_wouldSwap a0 a1 a2 h0 = some (r, h') → zCt yX5_wouldSwap (.code yX5_wouldSwap cX5_wouldSwap 5 (some .boolean)) 2 84 0 0 [.ref a0, .int a1, .int a2] h0 (some (.int r)) h' := by
  refine zct_of M_X5_wouldSwap yX5_wouldSwap (by decide) rfl rfl [.ref a0, .int a1, .int a2] h0 (Nat.le_of_ble_eq_true rfl) (fun r => some (.int r)) (fun X => ?_)
  show zG X M_X5_wouldSwap (0, 0) 0 [(0, .ref a0), (1, .int a1), (2, .int a2)] [] h0 (f_X5_wouldSwap a0 a1 a2 h0) (fun (r : Int32) h' => zKe X (some (.int r)) h')
  unfold f_X5_wouldSwap
  refine zg_aload_n 0 rfl d_X5_wouldSwap_0 ?_
  refine zg_getR d_X5_wouldSwap_1 zc_5 (by decide) fl_X5_24 (fun v1 => ?_)
  refine zg_iload_n 1 rfl d_X5_wouldSwap_4 ?_
  refine zg_ald0 d_X5_wouldSwap_5 (fun v2 => ?_)
  refine zg_istore_n [(3, .int v2), (0, .ref a0), (1, .int a1), (2, .int a2)] d_X5_wouldSwap_6 rfl (by decide) rfl ?_
  refine zg_aload_n 1 rfl d_X5_wouldSwap_7 ?_
  refine zg_getR d_X5_wouldSwap_8 zc_5 (by decide) fl_X5_24 (fun v3 => ?_)
  refine zg_iload_n 3 rfl d_X5_wouldSwap_11 ?_
  refine zg_ald0 d_X5_wouldSwap_12 (fun v4 => ?_)
  refine zg_istore [(4, .int v4), (3, .int v2), (0, .ref a0), (1, .int a1), (2, .int a2)] d_X5_wouldSwap_13 (by decide) rfl ?_
  refine zg_aload_n 2 rfl d_X5_wouldSwap_15 ?_
  refine zg_iload_n 3 rfl d_X5_wouldSwap_16 ?_
  refine zg_cVi (b := a0) (As := [.int a1]) (rest := []) (0, 0) d_X5_wouldSwap_17 zc_5 rfl cw_X5_93 wi_X5_isUp ws_X5_isUp rfl rfl (Nat.le_of_ble_eq_true rfl) (by decide) (by decide) ⟨by decide, by decide⟩ rfl (t_X5_isUp a0 a1 h0) (fun v6 h5 => ?_)
  refine zg_if_eq d_X5_wouldSwap_20 ?_ ?_
  · refine zg_iconst 0 rfl d_X5_wouldSwap_48 ?_
    exact zg_zretK d_X5_wouldSwap_49 rfl ⟨Nat.le_of_ble_eq_true rfl, Nat.le_of_ble_eq_true rfl⟩ (Or.inl rfl) (fun q => q)
  · refine zg_aload_n 2 rfl d_X5_wouldSwap_23 ?_
    refine zg_iload_n 4 rfl d_X5_wouldSwap_24 ?_
    refine zg_cVi (b := a0) (As := [.int a2]) (rest := []) (0, 0) d_X5_wouldSwap_25 zc_5 rfl cw_X5_93 wi_X5_isUp ws_X5_isUp rfl rfl (Nat.le_of_ble_eq_true rfl) (by decide) (by decide) ⟨by decide, by decide⟩ rfl (t_X5_isUp a0 a2 h5) (fun v8 h7 => ?_)
    refine zg_if_eq d_X5_wouldSwap_28 ?_ ?_
    · refine zg_iconst 0 rfl d_X5_wouldSwap_48 ?_
      exact zg_zretK d_X5_wouldSwap_49 rfl ⟨Nat.le_of_ble_eq_true rfl, Nat.le_of_ble_eq_true rfl⟩ (Or.inl rfl) (fun q => q)
    · refine zg_iload_n 1 rfl d_X5_wouldSwap_31 ?_
      refine zg_iconst (-1) rfl d_X5_wouldSwap_32 ?_
      refine zg_icmp_eq d_X5_wouldSwap_33 ?_ ?_
      · refine zg_iconst 0 rfl d_X5_wouldSwap_48 ?_
        exact zg_zretK d_X5_wouldSwap_49 rfl ⟨Nat.le_of_ble_eq_true rfl, Nat.le_of_ble_eq_true rfl⟩ (Or.inl rfl) (fun q => q)
      · refine zg_iload 0 rfl d_X5_wouldSwap_36 ?_
        refine zg_iconst (-1) rfl d_X5_wouldSwap_38 ?_
        refine zg_icmp_eq d_X5_wouldSwap_39 ?_ ?_
        · refine zg_iconst 0 rfl d_X5_wouldSwap_48 ?_
          exact zg_zretK d_X5_wouldSwap_49 rfl ⟨Nat.le_of_ble_eq_true rfl, Nat.le_of_ble_eq_true rfl⟩ (Or.inl rfl) (fun q => q)
        · refine zg_iload_n 1 rfl d_X5_wouldSwap_42 ?_
          refine zg_iload 0 rfl d_X5_wouldSwap_43 ?_
          refine zg_icmp_ne d_X5_wouldSwap_45 ?_ ?_
          · refine zg_iconst 0 rfl d_X5_wouldSwap_48 ?_
            exact zg_zretK d_X5_wouldSwap_49 rfl ⟨Nat.le_of_ble_eq_true rfl, Nat.le_of_ble_eq_true rfl⟩ (Or.inl rfl) (fun q => q)
          · refine zg_aload_n 2 rfl d_X5_wouldSwap_50 ?_
            refine zg_iload_n 1 rfl d_X5_wouldSwap_51 ?_
            refine zg_iload_n 4 rfl d_X5_wouldSwap_52 ?_
            refine zg_cVi (b := a0) (As := [.int v2, .int a2]) (rest := []) (0, 0) d_X5_wouldSwap_53 zc_5 rfl cw_X5_97 wi_X5_howFar ws_X5_howFar rfl rfl (Nat.le_of_ble_eq_true rfl) (by decide) (by decide) ⟨by decide, by decide⟩ rfl (t_X5_howFar a0 v2 a2 h7) (fun v10 h9 => ?_)
            refine zg_aload_n 2 rfl d_X5_wouldSwap_56 ?_
            refine zg_iload_n 1 rfl d_X5_wouldSwap_57 ?_
            refine zg_iload_n 3 rfl d_X5_wouldSwap_58 ?_
            refine zg_cVi (b := a0) (As := [.int v2, .int a1]) (rest := [.int v10]) (0, 0) d_X5_wouldSwap_59 zc_5 rfl cw_X5_97 wi_X5_howFar ws_X5_howFar rfl rfl (Nat.le_of_ble_eq_true rfl) (by decide) (by decide) ⟨by decide, by decide⟩ rfl (t_X5_howFar a0 v2 a1 h9) (fun v12 h11 => ?_)
            refine zg_icmp_ge d_X5_wouldSwap_62 ?_ ?_
            · refine zg_iconst 0 rfl d_X5_wouldSwap_86 ?_
              exact zg_zretK d_X5_wouldSwap_87 rfl ⟨Nat.le_of_ble_eq_true rfl, Nat.le_of_ble_eq_true rfl⟩ (Or.inl rfl) (fun q => q)
            · refine zg_aload_n 2 rfl d_X5_wouldSwap_65 ?_
              refine zg_iload 0 rfl d_X5_wouldSwap_66 ?_
              refine zg_iload_n 3 rfl d_X5_wouldSwap_68 ?_
              refine zg_cVi (b := a0) (As := [.int v4, .int a1]) (rest := []) (0, 0) d_X5_wouldSwap_69 zc_5 rfl cw_X5_97 wi_X5_howFar ws_X5_howFar rfl rfl (Nat.le_of_ble_eq_true rfl) (by decide) (by decide) ⟨by decide, by decide⟩ rfl (t_X5_howFar a0 v4 a1 h11) (fun v14 h13 => ?_)
              refine zg_aload_n 2 rfl d_X5_wouldSwap_72 ?_
              refine zg_iload 0 rfl d_X5_wouldSwap_73 ?_
              refine zg_iload_n 4 rfl d_X5_wouldSwap_75 ?_
              refine zg_cVi (b := a0) (As := [.int v4, .int a2]) (rest := [.int v14]) (0, 0) d_X5_wouldSwap_76 zc_5 rfl cw_X5_97 wi_X5_howFar ws_X5_howFar rfl rfl (Nat.le_of_ble_eq_true rfl) (by decide) (by decide) ⟨by decide, by decide⟩ rfl (t_X5_howFar a0 v4 a2 h13) (fun v16 h15 => ?_)
              refine zg_icmp_ge d_X5_wouldSwap_79 ?_ ?_
              · refine zg_iconst 0 rfl d_X5_wouldSwap_86 ?_
                exact zg_zretK d_X5_wouldSwap_87 rfl ⟨Nat.le_of_ble_eq_true rfl, Nat.le_of_ble_eq_true rfl⟩ (Or.inl rfl) (fun q => q)
              · refine zg_iconst 1 rfl d_X5_wouldSwap_82 ?_
                refine zg_goto d_X5_wouldSwap_83 ?_
                exact zg_zretK d_X5_wouldSwap_87 rfl ⟨Nat.le_of_ble_eq_true rfl, Nat.le_of_ble_eq_true rfl⟩ (Or.inr rfl) (fun q => q)
abbrev M_X7_isFrom : zMt := (RX7, cX7_isFrom, 3, 1, 60, (some .boolean), "isFrom", 0, 0)
theorem d_X7_isFrom_0 : zDc M_X7_isFrom 0 (.iload_n 1) 1 1 := ⟨by decide +kernel, rfl⟩
theorem d_X7_isFrom_1 : zDc M_X7_isFrom 1 (.iload_n 0) 1 2 := ⟨by decide +kernel, rfl⟩
theorem d_X7_isFrom_2 : zDj M_X7_isFrom 2 (.if_icmp .lt 12) 12 5 14 := ⟨by decide +kernel, rfl, by decide⟩
theorem d_X7_isFrom_5 : zDc M_X7_isFrom 5 (.iload_n 1) 1 6 := ⟨by decide +kernel, rfl⟩
theorem d_X7_isFrom_6 : zDc M_X7_isFrom 6 (.iload_n 2) 1 7 := ⟨by decide +kernel, rfl⟩
theorem d_X7_isFrom_7 : zDj M_X7_isFrom 7 (.if_icmp .gt 7) 7 10 14 := ⟨by decide +kernel, rfl, by decide⟩
theorem d_X7_isFrom_10 : zDc M_X7_isFrom 10 (.iconst 1) 1 11 := ⟨by decide +kernel, rfl⟩
theorem d_X7_isFrom_11 : zDj M_X7_isFrom 11 (.goto 4) 4 14 15 := ⟨by decide +kernel, rfl, by decide⟩
theorem d_X7_isFrom_14 : zDc M_X7_isFrom 14 (.iconst 0) 1 15 := ⟨by decide +kernel, rfl⟩
theorem d_X7_isFrom_15 : zDc M_X7_isFrom 15 (.ireturn) 1 16 := ⟨by decide +kernel, rfl⟩
def f_X7_isFrom (a0 : Int32) (a1 : Int32) (a2 : Int32) (h0 : zHp) : Option (Int32 × zHp) :=
  if a1 < a0 then
  some (0, h0)
  else
  if a2 < a1 then
  some (0, h0)
  else
  some (1, h0)
set_option maxRecDepth 100000 in
set_option maxHeartbeats 4000000 in
theorem t_X7_isFrom (a0 : Int32) (a1 : Int32) (a2 : Int32) (h0 : zHp) : ∀ (r : Int32) (h' : zHp), f_X7_isFrom a0 a1 a2 h0 = some (r, h') → zCt yX7_isFrom (.code yX7_isFrom cX7_isFrom 3 (some .boolean)) 1 60 0 0 [.int a0, .int a1, .int a2] h0 (some (.int r)) h' := by
  refine zct_of M_X7_isFrom yX7_isFrom (by decide) rfl rfl [.int a0, .int a1, .int a2] h0 (Nat.le_of_ble_eq_true rfl) (fun r => some (.int r)) (fun X => ?_)
  show zG X M_X7_isFrom (0, 0) 0 [(0, .int a0), (1, .int a1), (2, .int a2)] [] h0 (f_X7_isFrom a0 a1 a2 h0) (fun (r : Int32) h' => zKe X (some (.int r)) h')
  unfold f_X7_isFrom
  refine zg_iload_n 1 rfl d_X7_isFrom_0 ?_
  refine zg_iload_n 0 rfl d_X7_isFrom_1 ?_
  refine zg_icmp_lt d_X7_isFrom_2 ?_ ?_
  · refine zg_iconst 0 rfl d_X7_isFrom_14 ?_
    exact zg_zretK d_X7_isFrom_15 rfl ⟨Nat.le_of_ble_eq_true rfl, Nat.le_of_ble_eq_true rfl⟩ (Or.inl rfl) (fun q => q)
  · refine zg_iload_n 1 rfl d_X7_isFrom_5 ?_
    refine zg_iload_n 2 rfl d_X7_isFrom_6 ?_
    refine zg_icmp_gt d_X7_isFrom_7 ?_ ?_
    · refine zg_iconst 0 rfl d_X7_isFrom_14 ?_
      exact zg_zretK d_X7_isFrom_15 rfl ⟨Nat.le_of_ble_eq_true rfl, Nat.le_of_ble_eq_true rfl⟩ (Or.inl rfl) (fun q => q)
    · refine zg_iconst 1 rfl d_X7_isFrom_10 ?_
      refine zg_goto d_X7_isFrom_11 ?_
      exact zg_zretK d_X7_isFrom_15 rfl ⟨Nat.le_of_ble_eq_true rfl, Nat.le_of_ble_eq_true rfl⟩ (Or.inr rfl) (fun q => q)
abbrev M_X7_ahead : zMt := (RX7, cX7_ahead, 4, 7, 208, (some .int), "ahead", 0, 0)
theorem d_X7_ahead_0 : zDc M_X7_ahead 0 (.iconst 0) 1 1 := ⟨by decide +kernel, rfl⟩
theorem d_X7_ahead_1 : zDc M_X7_ahead 1 (.iload_n 1) 1 2 := ⟨by decide +kernel, rfl⟩
theorem d_X7_ahead_2 : zDc M_X7_ahead 2 (.bipush 60) 2 4 := ⟨by decide +kernel, rfl⟩
theorem d_X7_ahead_4 : zDc M_X7_ahead 4 (.invokestatic 194) 3 7 := ⟨by decide +kernel, rfl⟩
theorem d_X7_ahead_7 : zDj M_X7_ahead 7 (.ifCond .eq 12) 12 10 19 := ⟨by decide +kernel, rfl, by decide⟩
theorem d_X7_ahead_10 : zDc M_X7_ahead 10 (.iconst 0) 1 11 := ⟨by decide +kernel, rfl⟩
theorem d_X7_ahead_11 : zDc M_X7_ahead 11 (.iload_n 2) 1 12 := ⟨by decide +kernel, rfl⟩
theorem d_X7_ahead_12 : zDc M_X7_ahead 12 (.iconst 3) 1 13 := ⟨by decide +kernel, rfl⟩
theorem d_X7_ahead_13 : zDc M_X7_ahead 13 (.invokestatic 194) 3 16 := ⟨by decide +kernel, rfl⟩
theorem d_X7_ahead_16 : zDj M_X7_ahead 16 (.ifCond .ne 5) 5 19 21 := ⟨by decide +kernel, rfl, by decide⟩
theorem d_X7_ahead_19 : zDc M_X7_ahead 19 (.iconst (-1)) 1 20 := ⟨by decide +kernel, rfl⟩
theorem d_X7_ahead_20 : zDc M_X7_ahead 20 (.ireturn) 1 21 := ⟨by decide +kernel, rfl⟩
theorem d_X7_ahead_21 : zDc M_X7_ahead 21 (.aload_n 0) 1 22 := ⟨by decide +kernel, rfl⟩
theorem d_X7_ahead_22 : zDc M_X7_ahead 22 (.getfield 66) 3 25 := ⟨by decide +kernel, rfl⟩
theorem d_X7_ahead_25 : zDc M_X7_ahead 25 (.aload_n 0) 1 26 := ⟨by decide +kernel, rfl⟩
theorem d_X7_ahead_26 : zDc M_X7_ahead 26 (.getfield 38) 3 29 := ⟨by decide +kernel, rfl⟩
theorem d_X7_ahead_29 : zDc M_X7_ahead 29 (.iconst 0) 1 30 := ⟨by decide +kernel, rfl⟩
theorem d_X7_ahead_30 : zDc M_X7_ahead 30 (.iconst 0) 1 31 := ⟨by decide +kernel, rfl⟩
theorem d_X7_ahead_31 : zDc M_X7_ahead 31 (.iload_n 1) 1 32 := ⟨by decide +kernel, rfl⟩
theorem d_X7_ahead_32 : zDc M_X7_ahead 32 (.invokevirtual 228) 3 35 := ⟨by decide +kernel, rfl⟩
theorem d_X7_ahead_35 : zDc M_X7_ahead 35 (.astore_n 3) 1 36 := ⟨by decide +kernel, rfl⟩
theorem d_X7_ahead_36 : zDc M_X7_ahead 36 (.iload_n 2) 1 37 := ⟨by decide +kernel, rfl⟩
theorem d_X7_ahead_37 : decode M_X7_ahead.2.1 37 = .ok (.tableswitch 59 0 2 #[27, 40, 46], 27) := by decide +kernel
theorem d_X7_ahead_64 : zDc M_X7_ahead 64 (.aload_n 3) 1 65 := ⟨by decide +kernel, rfl⟩
theorem d_X7_ahead_65 : zDc M_X7_ahead 65 (.invokevirtual 232) 3 68 := ⟨by decide +kernel, rfl⟩
theorem d_X7_ahead_68 : zDc M_X7_ahead 68 (.aload_n 0) 1 69 := ⟨by decide +kernel, rfl⟩
theorem d_X7_ahead_69 : zDc M_X7_ahead 69 (.getfield 38) 3 72 := ⟨by decide +kernel, rfl⟩
theorem d_X7_ahead_72 : zDc M_X7_ahead 72 (.invokevirtual 232) 3 75 := ⟨by decide +kernel, rfl⟩
theorem d_X7_ahead_75 : zDc M_X7_ahead 75 (.isub) 1 76 := ⟨by decide +kernel, rfl⟩
theorem d_X7_ahead_76 : zDc M_X7_ahead 76 (.ireturn) 1 77 := ⟨by decide +kernel, rfl⟩
theorem d_X7_ahead_77 : zDc M_X7_ahead 77 (.aload_n 3) 1 78 := ⟨by decide +kernel, rfl⟩
theorem d_X7_ahead_78 : zDc M_X7_ahead 78 (.iconst 1) 1 79 := ⟨by decide +kernel, rfl⟩
theorem d_X7_ahead_79 : zDc M_X7_ahead 79 (.invokevirtual 235) 3 82 := ⟨by decide +kernel, rfl⟩
theorem d_X7_ahead_82 : zDc M_X7_ahead 82 (.ireturn) 1 83 := ⟨by decide +kernel, rfl⟩
theorem d_X7_ahead_83 : zDc M_X7_ahead 83 (.aload_n 3) 1 84 := ⟨by decide +kernel, rfl⟩
theorem d_X7_ahead_84 : zDc M_X7_ahead 84 (.invokevirtual 238) 3 87 := ⟨by decide +kernel, rfl⟩
theorem d_X7_ahead_87 : zDc M_X7_ahead 87 (.aload_n 0) 1 88 := ⟨by decide +kernel, rfl⟩
theorem d_X7_ahead_88 : zDc M_X7_ahead 88 (.getfield 38) 3 91 := ⟨by decide +kernel, rfl⟩
theorem d_X7_ahead_91 : zDc M_X7_ahead 91 (.invokevirtual 238) 3 94 := ⟨by decide +kernel, rfl⟩
theorem d_X7_ahead_94 : zDc M_X7_ahead 94 (.isub) 1 95 := ⟨by decide +kernel, rfl⟩
theorem d_X7_ahead_95 : zDc M_X7_ahead 95 (.ireturn) 1 96 := ⟨by decide +kernel, rfl⟩
theorem d_X7_ahead_96 : zDc M_X7_ahead 96 (.aload_n 3) 1 97 := ⟨by decide +kernel, rfl⟩
theorem d_X7_ahead_97 : zDc M_X7_ahead 97 (.iconst 2) 1 98 := ⟨by decide +kernel, rfl⟩
theorem d_X7_ahead_98 : zDc M_X7_ahead 98 (.invokevirtual 235) 3 101 := ⟨by decide +kernel, rfl⟩
theorem d_X7_ahead_101 : zDc M_X7_ahead 101 (.aload_n 0) 1 102 := ⟨by decide +kernel, rfl⟩
theorem d_X7_ahead_102 : zDc M_X7_ahead 102 (.getfield 38) 3 105 := ⟨by decide +kernel, rfl⟩
theorem d_X7_ahead_105 : zDc M_X7_ahead 105 (.iconst 2) 1 106 := ⟨by decide +kernel, rfl⟩
theorem d_X7_ahead_106 : zDc M_X7_ahead 106 (.invokevirtual 235) 3 109 := ⟨by decide +kernel, rfl⟩
theorem d_X7_ahead_109 : zDc M_X7_ahead 109 (.isub) 1 110 := ⟨by decide +kernel, rfl⟩
theorem d_X7_ahead_110 : zDc M_X7_ahead 110 (.ireturn) 1 111 := ⟨by decide +kernel, rfl⟩
def f_X7_ahead (a0 : Nat) (a1 : Int32) (a2 : Int32) (h0 : zHp) : Option (Int32 × zHp) :=
  zbd ((f_X7_isFrom 0 a1 60 h0)) (fun v2 h1 =>
  if v2 = 0 then
  some ((-1), h1)
  else
  zbd ((f_X7_isFrom 0 a2 3 h1)) (fun v4 h3 =>
  if v4 = 0 then
  some ((-1), h3)
  else
  zob (zgR h3 a0 7 9) (fun v5 =>
  zob (zgR h3 a0 7 4) (fun v6 =>
  zbd (zcv 1 v5 h3 (f_X1_skyAfter v5 v6 0 0 a1 h3)) (fun v8 h7 =>
  if a2 = 0 then
  zbd (zcv 5 v8 h7 (f_X5_rainInAll v8 h7)) (fun v10 h9 =>
  zob (zgR h9 a0 7 4) (fun v11 =>
  zbd (zcv 5 v11 h9 (f_X5_rainInAll v11 h9)) (fun v13 h12 =>
  some ((v10 - v13), h12))))
  else if a2 = 1 then
  zbd (zcv 5 v8 h7 (f_X5_howManyAre v8 1 h7)) (fun v15 h14 =>
  some (v15, h14))
  else if a2 = 2 then
  zbd (zcv 5 v8 h7 (f_X5_marksInAll v8 h7)) (fun v17 h16 =>
  zob (zgR h16 a0 7 4) (fun v18 =>
  zbd (zcv 5 v18 h16 (f_X5_marksInAll v18 h16)) (fun v20 h19 =>
  some ((v17 - v20), h19))))
  else 
  zbd (zcv 5 v8 h7 (f_X5_howManyAre v8 2 h7)) (fun v22 h21 =>
  zob (zgR h21 a0 7 4) (fun v23 =>
  zbd (zcv 5 v23 h21 (f_X5_howManyAre v23 2 h21)) (fun v25 h24 =>
  some ((v22 - v25), h24)))))))))
set_option maxRecDepth 100000 in
set_option maxHeartbeats 4000000 in
theorem t_X7_ahead (a0 : Nat) (a1 : Int32) (a2 : Int32) (h0 : zHp) : ∀ (r : Int32) (h' : zHp), f_X7_ahead a0 a1 a2 h0 = some (r, h') → zCt yX7_ahead (.code yX7_ahead cX7_ahead 4 (some .int)) 7 208 0 0 [.ref a0, .int a1, .int a2] h0 (some (.int r)) h' := by
  refine zct_of M_X7_ahead yX7_ahead (by decide) rfl rfl [.ref a0, .int a1, .int a2] h0 (Nat.le_of_ble_eq_true rfl) (fun r => some (.int r)) (fun X => ?_)
  show zG X M_X7_ahead (0, 0) 0 [(0, .ref a0), (1, .int a1), (2, .int a2)] [] h0 (f_X7_ahead a0 a1 a2 h0) (fun (r : Int32) h' => zKe X (some (.int r)) h')
  unfold f_X7_ahead
  refine zg_iconst 0 rfl d_X7_ahead_0 ?_
  refine zg_iload_n 1 rfl d_X7_ahead_1 ?_
  refine zg_bipush 60 rfl d_X7_ahead_2 ?_
  refine zg_cSi (As := [.int 0, .int a1, .int 60]) (rest := []) (0, 0) d_X7_ahead_4 cw_X7_194 wt_X7_isFrom rfl rfl (Nat.le_of_ble_eq_true rfl) (by decide) (by decide) ⟨by decide, by decide⟩ rfl (t_X7_isFrom 0 a1 60 h0) (fun v2 h1 => ?_)
  refine zg_if_eq d_X7_ahead_7 ?_ ?_
  · refine zg_iconst (-1) rfl d_X7_ahead_19 ?_
    exact zg_iretK d_X7_ahead_20 rfl ⟨Nat.le_of_ble_eq_true rfl, Nat.le_of_ble_eq_true rfl⟩ (fun q => q)
  · refine zg_iconst 0 rfl d_X7_ahead_10 ?_
    refine zg_iload_n 2 rfl d_X7_ahead_11 ?_
    refine zg_iconst 3 rfl d_X7_ahead_12 ?_
    refine zg_cSi (As := [.int 0, .int a2, .int 3]) (rest := []) (0, 0) d_X7_ahead_13 cw_X7_194 wt_X7_isFrom rfl rfl (Nat.le_of_ble_eq_true rfl) (by decide) (by decide) ⟨by decide, by decide⟩ rfl (t_X7_isFrom 0 a2 3 h1) (fun v4 h3 => ?_)
    refine zg_if_ne d_X7_ahead_16 ?_ ?_
    · refine zg_iconst (-1) rfl d_X7_ahead_19 ?_
      exact zg_iretK d_X7_ahead_20 rfl ⟨Nat.le_of_ble_eq_true rfl, Nat.le_of_ble_eq_true rfl⟩ (fun q => q)
    · refine zg_aload_n 0 rfl d_X7_ahead_21 ?_
      refine zg_getR d_X7_ahead_22 zc_7 (by decide) fl_X7_66 (fun v5 => ?_)
      refine zg_aload_n 0 rfl d_X7_ahead_25 ?_
      refine zg_getR d_X7_ahead_26 zc_7 (by decide) fl_X7_38 (fun v6 => ?_)
      refine zg_iconst 0 rfl d_X7_ahead_29 ?_
      refine zg_iconst 0 rfl d_X7_ahead_30 ?_
      refine zg_iload_n 1 rfl d_X7_ahead_31 ?_
      refine zg_cVr (b := v5) (As := [.ref v6, .int 0, .int 0, .int a1]) (rest := []) (0, 0) d_X7_ahead_32 zc_1 rfl cw_X7_228 wi_X1_skyAfter ws_X1_skyAfter rfl rfl (Nat.le_of_ble_eq_true rfl) (by decide) (by decide) ⟨by decide, by decide⟩ rfl (t_X1_skyAfter v5 v6 0 0 a1 h3) (fun v8 h7 => ?_)
      refine zg_astore_n [(3, .ref v8), (0, .ref a0), (1, .int a1), (2, .int a2)] d_X7_ahead_35 rfl (by decide) rfl ?_
      refine zg_iload_n 3 rfl d_X7_ahead_36 ?_
      refine zg_if (fun n26 => ?_) (fun n26 => ?_)
      · refine zg_tabE n26 d_X7_ahead_37 (by decide) (by decide) (off := 27) rfl (tgt := 64) (by decide) ?_
        refine zg_aload_n 0 rfl d_X7_ahead_64 ?_
        refine zg_cVi (b := v8) (As := []) (rest := []) (0, 0) d_X7_ahead_65 zc_5 rfl cw_X7_232 wi_X5_rainInAll ws_X5_rainInAll rfl rfl (Nat.le_of_ble_eq_true rfl) (by decide) (by decide) ⟨by decide, by decide⟩ rfl (t_X5_rainInAll v8 h7) (fun v10 h9 => ?_)
        refine zg_aload_n 1 rfl d_X7_ahead_68 ?_
        refine zg_getR d_X7_ahead_69 zc_7 (by decide) fl_X7_38 (fun v11 => ?_)
        refine zg_cVi (b := v11) (As := []) (rest := [.int v10]) (0, 0) d_X7_ahead_72 zc_5 rfl cw_X7_232 wi_X5_rainInAll ws_X5_rainInAll rfl rfl (Nat.le_of_ble_eq_true rfl) (by decide) (by decide) ⟨by decide, by decide⟩ rfl (t_X5_rainInAll v11 h9) (fun v13 h12 => ?_)
        refine zg_isub d_X7_ahead_75 ?_
        exact zg_iretK d_X7_ahead_76 rfl ⟨Nat.le_of_ble_eq_true rfl, Nat.le_of_ble_eq_true rfl⟩ (fun q => q)
      refine zg_if (fun n27 => ?_) (fun n27 => ?_)
      · refine zg_tabE n27 d_X7_ahead_37 (by decide) (by decide) (off := 40) rfl (tgt := 77) (by decide) ?_
        refine zg_aload_n 0 rfl d_X7_ahead_77 ?_
        refine zg_iconst 1 rfl d_X7_ahead_78 ?_
        refine zg_cVi (b := v8) (As := [.int 1]) (rest := []) (0, 0) d_X7_ahead_79 zc_5 rfl cw_X7_235 wi_X5_howManyAre ws_X5_howManyAre rfl rfl (Nat.le_of_ble_eq_true rfl) (by decide) (by decide) ⟨by decide, by decide⟩ rfl (t_X5_howManyAre v8 1 h7) (fun v15 h14 => ?_)
        exact zg_iretK d_X7_ahead_82 rfl ⟨Nat.le_of_ble_eq_true rfl, Nat.le_of_ble_eq_true rfl⟩ (fun q => q)
      refine zg_if (fun n28 => ?_) (fun n28 => ?_)
      · refine zg_tabE n28 d_X7_ahead_37 (by decide) (by decide) (off := 46) rfl (tgt := 83) (by decide) ?_
        refine zg_aload_n 0 rfl d_X7_ahead_83 ?_
        refine zg_cVi (b := v8) (As := []) (rest := []) (0, 0) d_X7_ahead_84 zc_5 rfl cw_X7_238 wi_X5_marksInAll ws_X5_marksInAll rfl rfl (Nat.le_of_ble_eq_true rfl) (by decide) (by decide) ⟨by decide, by decide⟩ rfl (t_X5_marksInAll v8 h7) (fun v17 h16 => ?_)
        refine zg_aload_n 1 rfl d_X7_ahead_87 ?_
        refine zg_getR d_X7_ahead_88 zc_7 (by decide) fl_X7_38 (fun v18 => ?_)
        refine zg_cVi (b := v18) (As := []) (rest := [.int v17]) (0, 0) d_X7_ahead_91 zc_5 rfl cw_X7_238 wi_X5_marksInAll ws_X5_marksInAll rfl rfl (Nat.le_of_ble_eq_true rfl) (by decide) (by decide) ⟨by decide, by decide⟩ rfl (t_X5_marksInAll v18 h16) (fun v20 h19 => ?_)
        refine zg_isub d_X7_ahead_94 ?_
        exact zg_iretK d_X7_ahead_95 rfl ⟨Nat.le_of_ble_eq_true rfl, Nat.le_of_ble_eq_true rfl⟩ (fun q => q)
      refine zg_tabO d_X7_ahead_37 (by have q0 := lv_neT n26 (a := 0) rfl; have q1 := lv_neT n27 (a := 1) rfl; have q2 := lv_neT n28 (a := 2) rfl; omega) (tgt := 96) (by decide) ?_
      refine zg_aload_n 0 rfl d_X7_ahead_96 ?_
      refine zg_iconst 2 rfl d_X7_ahead_97 ?_
      refine zg_cVi (b := v8) (As := [.int 2]) (rest := []) (0, 0) d_X7_ahead_98 zc_5 rfl cw_X7_235 wi_X5_howManyAre ws_X5_howManyAre rfl rfl (Nat.le_of_ble_eq_true rfl) (by decide) (by decide) ⟨by decide, by decide⟩ rfl (t_X5_howManyAre v8 2 h7) (fun v22 h21 => ?_)
      refine zg_aload_n 1 rfl d_X7_ahead_101 ?_
      refine zg_getR d_X7_ahead_102 zc_7 (by decide) fl_X7_38 (fun v23 => ?_)
      refine zg_iconst 2 rfl d_X7_ahead_105 ?_
      refine zg_cVi (b := v23) (As := [.int 2]) (rest := [.int v22]) (0, 0) d_X7_ahead_106 zc_5 rfl cw_X7_235 wi_X5_howManyAre ws_X5_howManyAre rfl rfl (Nat.le_of_ble_eq_true rfl) (by decide) (by decide) ⟨by decide, by decide⟩ rfl (t_X5_howManyAre v23 2 h21) (fun v25 h24 => ?_)
      refine zg_isub d_X7_ahead_109 ?_
      exact zg_iretK d_X7_ahead_110 rfl ⟨Nat.le_of_ble_eq_true rfl, Nat.le_of_ble_eq_true rfl⟩ (fun q => q)
abbrev M_X7_back : zMt := (RX7, cX7_back, 1, 2, 82, (some .int), "back", 0, 0)
theorem d_X7_back_0 : zDc M_X7_back 0 (.aload_n 0) 1 1 := ⟨by decide +kernel, rfl⟩
theorem d_X7_back_1 : zDc M_X7_back 1 (.getfield 45) 3 4 := ⟨by decide +kernel, rfl⟩
theorem d_X7_back_4 : zDj M_X7_back 4 (.ifCond .ne 5) 5 7 9 := ⟨by decide +kernel, rfl, by decide⟩
theorem d_X7_back_7 : zDc M_X7_back 7 (.iconst (-1)) 1 8 := ⟨by decide +kernel, rfl⟩
theorem d_X7_back_8 : zDc M_X7_back 8 (.ireturn) 1 9 := ⟨by decide +kernel, rfl⟩
theorem d_X7_back_9 : zDc M_X7_back 9 (.aload_n 0) 1 10 := ⟨by decide +kernel, rfl⟩
theorem d_X7_back_10 : zDc M_X7_back 10 (.getfield 38) 3 13 := ⟨by decide +kernel, rfl⟩
theorem d_X7_back_13 : zDc M_X7_back 13 (.aload_n 0) 1 14 := ⟨by decide +kernel, rfl⟩
theorem d_X7_back_14 : zDc M_X7_back 14 (.getfield 42) 3 17 := ⟨by decide +kernel, rfl⟩
theorem d_X7_back_17 : zDc M_X7_back 17 (.invokevirtual 328) 3 20 := ⟨by decide +kernel, rfl⟩
theorem d_X7_back_20 : zDc M_X7_back 20 (.aload_n 0) 1 21 := ⟨by decide +kernel, rfl⟩
theorem d_X7_back_21 : zDc M_X7_back 21 (.getfield 52) 3 24 := ⟨by decide +kernel, rfl⟩
theorem d_X7_back_24 : zDc M_X7_back 24 (.invokevirtual 88) 3 27 := ⟨by decide +kernel, rfl⟩
theorem d_X7_back_27 : zDc M_X7_back 27 (.aload_n 0) 1 28 := ⟨by decide +kernel, rfl⟩
theorem d_X7_back_28 : zDc M_X7_back 28 (.getfield 38) 3 31 := ⟨by decide +kernel, rfl⟩
theorem d_X7_back_31 : zDc M_X7_back 31 (.getfield 218) 3 34 := ⟨by decide +kernel, rfl⟩
theorem d_X7_back_34 : zDc M_X7_back 34 (.ireturn) 1 35 := ⟨by decide +kernel, rfl⟩
def f_X7_back (a0 : Nat) (h0 : zHp) : Option (Int32 × zHp) :=
  zob (zgI h0 a0 7 6) (fun v1 =>
  if v1 = 0 then
  some ((-1), h0)
  else
  zob (zgR h0 a0 7 4) (fun v2 =>
  zob (zgR h0 a0 7 5) (fun v3 =>
  zbd (zcv 5 v2 h0 (f_X5_copyFrom v2 v3 h0)) (fun v5 h4 =>
  zob (zgR h4 a0 7 7) (fun v6 =>
  zbd (zcv 0 v6 h4 (f_X0_forget v6 h4)) (fun v8 h7 =>
  zob (zgR h7 a0 7 4) (fun v9 =>
  zob (zgI h7 v9 5 11) (fun v10 =>
  some (v10, h7)))))))))
set_option maxRecDepth 100000 in
set_option maxHeartbeats 4000000 in
theorem t_X7_back (a0 : Nat) (h0 : zHp) : ∀ (r : Int32) (h' : zHp), f_X7_back a0 h0 = some (r, h') → zCt yX7_back (.code yX7_back cX7_back 1 (some .int)) 2 82 0 0 [.ref a0] h0 (some (.int r)) h' := by
  refine zct_of M_X7_back yX7_back (by decide) rfl rfl [.ref a0] h0 (Nat.le_of_ble_eq_true rfl) (fun r => some (.int r)) (fun X => ?_)
  show zG X M_X7_back (0, 0) 0 [(0, .ref a0)] [] h0 (f_X7_back a0 h0) (fun (r : Int32) h' => zKe X (some (.int r)) h')
  unfold f_X7_back
  refine zg_aload_n 0 rfl d_X7_back_0 ?_
  refine zg_getI d_X7_back_1 zc_7 (by decide) fl_X7_45 (fun v1 => ?_)
  refine zg_if_ne d_X7_back_4 ?_ ?_
  · refine zg_iconst (-1) rfl d_X7_back_7 ?_
    exact zg_iretK d_X7_back_8 rfl ⟨Nat.le_of_ble_eq_true rfl, Nat.le_of_ble_eq_true rfl⟩ (fun q => q)
  · refine zg_aload_n 0 rfl d_X7_back_9 ?_
    refine zg_getR d_X7_back_10 zc_7 (by decide) fl_X7_38 (fun v2 => ?_)
    refine zg_aload_n 0 rfl d_X7_back_13 ?_
    refine zg_getR d_X7_back_14 zc_7 (by decide) fl_X7_42 (fun v3 => ?_)
    refine zg_cVv (b := v2) (As := [.ref v3]) (rest := []) (0, 0) d_X7_back_17 zc_5 rfl cw_X7_328 wi_X5_copyFrom ws_X5_copyFrom rfl rfl (Nat.le_of_ble_eq_true rfl) (by decide) (by decide) ⟨by decide, by decide⟩ rfl (t_X5_copyFrom v2 v3 h0) (fun v5 h4 => ?_)
    refine zg_aload_n 0 rfl d_X7_back_20 ?_
    refine zg_getR d_X7_back_21 zc_7 (by decide) fl_X7_52 (fun v6 => ?_)
    refine zg_cVv (b := v6) (As := []) (rest := []) (0, 0) d_X7_back_24 zc_0 rfl cw_X7_88 wi_X0_forget ws_X0_forget rfl rfl (Nat.le_of_ble_eq_true rfl) (by decide) (by decide) ⟨by decide, by decide⟩ rfl (t_X0_forget v6 h4) (fun v8 h7 => ?_)
    refine zg_aload_n 0 rfl d_X7_back_27 ?_
    refine zg_getR d_X7_back_28 zc_7 (by decide) fl_X7_38 (fun v9 => ?_)
    refine zg_getI d_X7_back_31 zc_5 (by decide) fl_X7_218 (fun v10 => ?_)
    exact zg_iretK d_X7_back_34 rfl ⟨Nat.le_of_ble_eq_true rfl, Nat.le_of_ble_eq_true rfl⟩ (fun q => q)
abbrev M_X7_blow : zMt := (RX7, cX7_blow, 2, 3, 104, (some .boolean), "blow", 0, 0)
theorem d_X7_blow_0 : zDc M_X7_blow 0 (.iconst (-1)) 1 1 := ⟨by decide +kernel, rfl⟩
theorem d_X7_blow_1 : zDc M_X7_blow 1 (.iload_n 1) 1 2 := ⟨by decide +kernel, rfl⟩
theorem d_X7_blow_2 : zDc M_X7_blow 2 (.iconst 4) 1 3 := ⟨by decide +kernel, rfl⟩
theorem d_X7_blow_3 : zDc M_X7_blow 3 (.invokestatic 194) 3 6 := ⟨by decide +kernel, rfl⟩
theorem d_X7_blow_6 : zDj M_X7_blow 6 (.ifCond .eq 14) 14 9 20 := ⟨by decide +kernel, rfl, by decide⟩
theorem d_X7_blow_9 : zDc M_X7_blow 9 (.aload_n 0) 1 10 := ⟨by decide +kernel, rfl⟩
theorem d_X7_blow_10 : zDc M_X7_blow 10 (.getfield 38) 3 13 := ⟨by decide +kernel, rfl⟩
theorem d_X7_blow_13 : zDc M_X7_blow 13 (.getfield 215) 3 16 := ⟨by decide +kernel, rfl⟩
theorem d_X7_blow_16 : zDc M_X7_blow 16 (.iload_n 1) 1 17 := ⟨by decide +kernel, rfl⟩
theorem d_X7_blow_17 : zDj M_X7_blow 17 (.if_icmp .ne 5) 5 20 22 := ⟨by decide +kernel, rfl, by decide⟩
theorem d_X7_blow_20 : zDc M_X7_blow 20 (.iconst 0) 1 21 := ⟨by decide +kernel, rfl⟩
theorem d_X7_blow_21 : zDc M_X7_blow 21 (.ireturn) 1 22 := ⟨by decide +kernel, rfl⟩
theorem d_X7_blow_22 : zDc M_X7_blow 22 (.aload_n 0) 1 23 := ⟨by decide +kernel, rfl⟩
theorem d_X7_blow_23 : zDc M_X7_blow 23 (.getfield 52) 3 26 := ⟨by decide +kernel, rfl⟩
theorem d_X7_blow_26 : zDc M_X7_blow 26 (.iconst 3) 1 27 := ⟨by decide +kernel, rfl⟩
theorem d_X7_blow_27 : zDc M_X7_blow 27 (.iconst 0) 1 28 := ⟨by decide +kernel, rfl⟩
theorem d_X7_blow_28 : zDc M_X7_blow 28 (.aload_n 0) 1 29 := ⟨by decide +kernel, rfl⟩
theorem d_X7_blow_29 : zDc M_X7_blow 29 (.getfield 38) 3 32 := ⟨by decide +kernel, rfl⟩
theorem d_X7_blow_32 : zDc M_X7_blow 32 (.getfield 215) 3 35 := ⟨by decide +kernel, rfl⟩
theorem d_X7_blow_35 : zDc M_X7_blow 35 (.iconst 0) 1 36 := ⟨by decide +kernel, rfl⟩
theorem d_X7_blow_36 : zDc M_X7_blow 36 (.invokevirtual 207) 3 39 := ⟨by decide +kernel, rfl⟩
theorem d_X7_blow_39 : zDc M_X7_blow 39 (.aload_n 0) 1 40 := ⟨by decide +kernel, rfl⟩
theorem d_X7_blow_40 : zDc M_X7_blow 40 (.getfield 38) 3 43 := ⟨by decide +kernel, rfl⟩
theorem d_X7_blow_43 : zDc M_X7_blow 43 (.iload_n 1) 1 44 := ⟨by decide +kernel, rfl⟩
theorem d_X7_blow_44 : zDc M_X7_blow 44 (.putfield 215) 3 47 := ⟨by decide +kernel, rfl⟩
theorem d_X7_blow_47 : zDc M_X7_blow 47 (.iconst 1) 1 48 := ⟨by decide +kernel, rfl⟩
theorem d_X7_blow_48 : zDc M_X7_blow 48 (.ireturn) 1 49 := ⟨by decide +kernel, rfl⟩
def f_X7_blow (a0 : Nat) (a1 : Int32) (h0 : zHp) : Option (Int32 × zHp) :=
  zbd ((f_X7_isFrom (-1) a1 4 h0)) (fun v2 h1 =>
  if v2 = 0 then
  some (0, h1)
  else
  zob (zgR h1 a0 7 4) (fun v3 =>
  zob (zgI h1 v3 5 12) (fun v4 =>
  if v4 = a1 then
  some (0, h1)
  else
  zob (zgR h1 a0 7 7) (fun v5 =>
  zob (zgR h1 a0 7 4) (fun v6 =>
  zob (zgI h1 v6 5 12) (fun v7 =>
  zbd (zcv 0 v5 h1 (f_X0_remember v5 3 0 v7 0 h1)) (fun v9 h8 =>
  zob (zgR h8 a0 7 4) (fun v10 =>
  zob (zpV h8 v10 5 12 (.int a1)) (fun h11 =>
  some (1, h11))))))))))
set_option maxRecDepth 100000 in
set_option maxHeartbeats 4000000 in
theorem t_X7_blow (a0 : Nat) (a1 : Int32) (h0 : zHp) : ∀ (r : Int32) (h' : zHp), f_X7_blow a0 a1 h0 = some (r, h') → zCt yX7_blow (.code yX7_blow cX7_blow 2 (some .boolean)) 3 104 0 0 [.ref a0, .int a1] h0 (some (.int r)) h' := by
  refine zct_of M_X7_blow yX7_blow (by decide) rfl rfl [.ref a0, .int a1] h0 (Nat.le_of_ble_eq_true rfl) (fun r => some (.int r)) (fun X => ?_)
  show zG X M_X7_blow (0, 0) 0 [(0, .ref a0), (1, .int a1)] [] h0 (f_X7_blow a0 a1 h0) (fun (r : Int32) h' => zKe X (some (.int r)) h')
  unfold f_X7_blow
  refine zg_iconst (-1) rfl d_X7_blow_0 ?_
  refine zg_iload_n 1 rfl d_X7_blow_1 ?_
  refine zg_iconst 4 rfl d_X7_blow_2 ?_
  refine zg_cSi (As := [.int (-1), .int a1, .int 4]) (rest := []) (0, 0) d_X7_blow_3 cw_X7_194 wt_X7_isFrom rfl rfl (Nat.le_of_ble_eq_true rfl) (by decide) (by decide) ⟨by decide, by decide⟩ rfl (t_X7_isFrom (-1) a1 4 h0) (fun v2 h1 => ?_)
  refine zg_if_eq d_X7_blow_6 ?_ ?_
  · refine zg_iconst 0 rfl d_X7_blow_20 ?_
    exact zg_zretK d_X7_blow_21 rfl ⟨Nat.le_of_ble_eq_true rfl, Nat.le_of_ble_eq_true rfl⟩ (Or.inl rfl) (fun q => q)
  · refine zg_aload_n 0 rfl d_X7_blow_9 ?_
    refine zg_getR d_X7_blow_10 zc_7 (by decide) fl_X7_38 (fun v3 => ?_)
    refine zg_getI d_X7_blow_13 zc_5 (by decide) fl_X7_215 (fun v4 => ?_)
    refine zg_iload_n 1 rfl d_X7_blow_16 ?_
    refine zg_icmp_ne d_X7_blow_17 ?_ ?_
    · refine zg_iconst 0 rfl d_X7_blow_20 ?_
      exact zg_zretK d_X7_blow_21 rfl ⟨Nat.le_of_ble_eq_true rfl, Nat.le_of_ble_eq_true rfl⟩ (Or.inl rfl) (fun q => q)
    · refine zg_aload_n 0 rfl d_X7_blow_22 ?_
      refine zg_getR d_X7_blow_23 zc_7 (by decide) fl_X7_52 (fun v5 => ?_)
      refine zg_iconst 3 rfl d_X7_blow_26 ?_
      refine zg_iconst 0 rfl d_X7_blow_27 ?_
      refine zg_aload_n 0 rfl d_X7_blow_28 ?_
      refine zg_getR d_X7_blow_29 zc_7 (by decide) fl_X7_38 (fun v6 => ?_)
      refine zg_getI d_X7_blow_32 zc_5 (by decide) fl_X7_215 (fun v7 => ?_)
      refine zg_iconst 0 rfl d_X7_blow_35 ?_
      refine zg_cVv (b := v5) (As := [.int 3, .int 0, .int v7, .int 0]) (rest := []) (0, 0) d_X7_blow_36 zc_0 rfl cw_X7_207 wi_X0_remember ws_X0_remember rfl rfl (Nat.le_of_ble_eq_true rfl) (by decide) (by decide) ⟨by decide, by decide⟩ rfl (t_X0_remember v5 3 0 v7 0 h1) (fun v9 h8 => ?_)
      refine zg_aload_n 0 rfl d_X7_blow_39 ?_
      refine zg_getR d_X7_blow_40 zc_7 (by decide) fl_X7_38 (fun v10 => ?_)
      refine zg_iload_n 1 rfl d_X7_blow_43 ?_
      refine zg_putV d_X7_blow_44 zc_5 (by decide) fl_X7_215 rfl rfl rfl (fun h11 => ?_)
      refine zg_iconst 1 rfl d_X7_blow_47 ?_
      exact zg_zretK d_X7_blow_48 rfl ⟨Nat.le_of_ble_eq_true rfl, Nat.le_of_ble_eq_true rfl⟩ (Or.inr rfl) (fun q => q)
abbrev M_X7_isField : zMt := (RX7, cX7_isField, 2, 1, 60, (some .boolean), "isField", 0, 0)
theorem d_X7_isField_0 : zDc M_X7_isField 0 (.iload_n 1) 1 1 := ⟨by decide +kernel, rfl⟩
theorem d_X7_isField_1 : zDj M_X7_isField 1 (.ifCond .lt 18) 18 4 19 := ⟨by decide +kernel, rfl, by decide⟩
theorem d_X7_isField_4 : zDc M_X7_isField 4 (.iload_n 1) 1 5 := ⟨by decide +kernel, rfl⟩
theorem d_X7_isField_5 : zDc M_X7_isField 5 (.aload_n 0) 1 6 := ⟨by decide +kernel, rfl⟩
theorem d_X7_isField_6 : zDc M_X7_isField 6 (.getfield 29) 3 9 := ⟨by decide +kernel, rfl⟩
theorem d_X7_isField_9 : zDc M_X7_isField 9 (.getfield 99) 3 12 := ⟨by decide +kernel, rfl⟩
theorem d_X7_isField_12 : zDj M_X7_isField 12 (.if_icmp .ge 7) 7 15 19 := ⟨by decide +kernel, rfl, by decide⟩
theorem d_X7_isField_15 : zDc M_X7_isField 15 (.iconst 1) 1 16 := ⟨by decide +kernel, rfl⟩
theorem d_X7_isField_16 : zDj M_X7_isField 16 (.goto 4) 4 19 20 := ⟨by decide +kernel, rfl, by decide⟩
theorem d_X7_isField_19 : zDc M_X7_isField 19 (.iconst 0) 1 20 := ⟨by decide +kernel, rfl⟩
theorem d_X7_isField_20 : zDc M_X7_isField 20 (.ireturn) 1 21 := ⟨by decide +kernel, rfl⟩
def f_X7_isField (a0 : Nat) (a1 : Int32) (h0 : zHp) : Option (Int32 × zHp) :=
  if a1 < 0 then
  some (0, h0)
  else
  zob (zgR h0 a0 7 3) (fun v1 =>
  zob (zgI h0 v1 6 13) (fun v2 =>
  if v2 ≤ a1 then
  some (0, h0)
  else
  some (1, h0)))
set_option maxRecDepth 100000 in
set_option maxHeartbeats 4000000 in
theorem t_X7_isField (a0 : Nat) (a1 : Int32) (h0 : zHp) : ∀ (r : Int32) (h' : zHp), f_X7_isField a0 a1 h0 = some (r, h') → zCt yX7_isField (.code yX7_isField cX7_isField 2 (some .boolean)) 1 60 0 0 [.ref a0, .int a1] h0 (some (.int r)) h' := by
  refine zct_of M_X7_isField yX7_isField (by decide) rfl rfl [.ref a0, .int a1] h0 (Nat.le_of_ble_eq_true rfl) (fun r => some (.int r)) (fun X => ?_)
  show zG X M_X7_isField (0, 0) 0 [(0, .ref a0), (1, .int a1)] [] h0 (f_X7_isField a0 a1 h0) (fun (r : Int32) h' => zKe X (some (.int r)) h')
  unfold f_X7_isField
  refine zg_iload_n 1 rfl d_X7_isField_0 ?_
  refine zg_if_lt d_X7_isField_1 ?_ ?_
  · refine zg_iconst 0 rfl d_X7_isField_19 ?_
    exact zg_zretK d_X7_isField_20 rfl ⟨Nat.le_of_ble_eq_true rfl, Nat.le_of_ble_eq_true rfl⟩ (Or.inl rfl) (fun q => q)
  · refine zg_iload_n 1 rfl d_X7_isField_4 ?_
    refine zg_aload_n 0 rfl d_X7_isField_5 ?_
    refine zg_getR d_X7_isField_6 zc_7 (by decide) fl_X7_29 (fun v1 => ?_)
    refine zg_getI d_X7_isField_9 zc_6 (by decide) fl_X7_99 (fun v2 => ?_)
    refine zg_icmp_ge d_X7_isField_12 ?_ ?_
    · refine zg_iconst 0 rfl d_X7_isField_19 ?_
      exact zg_zretK d_X7_isField_20 rfl ⟨Nat.le_of_ble_eq_true rfl, Nat.le_of_ble_eq_true rfl⟩ (Or.inl rfl) (fun q => q)
    · refine zg_iconst 1 rfl d_X7_isField_15 ?_
      refine zg_goto d_X7_isField_16 ?_
      exact zg_zretK d_X7_isField_20 rfl ⟨Nat.le_of_ble_eq_true rfl, Nat.le_of_ble_eq_true rfl⟩ (Or.inr rfl) (fun q => q)
abbrev M_X7_chance : zMt := (RX7, cX7_chance, 7, 7, 207, (some .int), "chance", 0, 0)
theorem d_X7_chance_0 : zDc M_X7_chance 0 (.iload_n 1) 1 1 := ⟨by decide +kernel, rfl⟩
theorem d_X7_chance_1 : zDj M_X7_chance 1 (.ifCond .lt 33) 33 4 34 := ⟨by decide +kernel, rfl, by decide⟩
theorem d_X7_chance_4 : zDc M_X7_chance 4 (.iconst 1) 1 5 := ⟨by decide +kernel, rfl⟩
theorem d_X7_chance_5 : zDc M_X7_chance 5 (.iload_n 2) 1 6 := ⟨by decide +kernel, rfl⟩
theorem d_X7_chance_6 : zDc M_X7_chance 6 (.bipush 60) 2 8 := ⟨by decide +kernel, rfl⟩
theorem d_X7_chance_8 : zDc M_X7_chance 8 (.invokestatic 194) 3 11 := ⟨by decide +kernel, rfl⟩
theorem d_X7_chance_11 : zDj M_X7_chance 11 (.ifCond .eq 23) 23 14 34 := ⟨by decide +kernel, rfl, by decide⟩
theorem d_X7_chance_14 : zDc M_X7_chance 14 (.aload_n 0) 1 15 := ⟨by decide +kernel, rfl⟩
theorem d_X7_chance_15 : zDc M_X7_chance 15 (.iload_n 3) 1 16 := ⟨by decide +kernel, rfl⟩
theorem d_X7_chance_16 : zDc M_X7_chance 16 (.invokevirtual 168) 3 19 := ⟨by decide +kernel, rfl⟩
theorem d_X7_chance_19 : zDj M_X7_chance 19 (.ifCond .eq 15) 15 22 34 := ⟨by decide +kernel, rfl, by decide⟩
theorem d_X7_chance_22 : zDc M_X7_chance 22 (.iconst 0) 1 23 := ⟨by decide +kernel, rfl⟩
theorem d_X7_chance_23 : zDc M_X7_chance 23 (.iload 4) 2 25 := ⟨by decide +kernel, rfl⟩
theorem d_X7_chance_25 : zDc M_X7_chance 25 (.sipush 999) 3 28 := ⟨by decide +kernel, rfl⟩
theorem d_X7_chance_28 : zDc M_X7_chance 28 (.invokestatic 194) 3 31 := ⟨by decide +kernel, rfl⟩
theorem d_X7_chance_31 : zDj M_X7_chance 31 (.ifCond .ne 5) 5 34 36 := ⟨by decide +kernel, rfl, by decide⟩
theorem d_X7_chance_34 : zDc M_X7_chance 34 (.iconst (-1)) 1 35 := ⟨by decide +kernel, rfl⟩
theorem d_X7_chance_35 : zDc M_X7_chance 35 (.ireturn) 1 36 := ⟨by decide +kernel, rfl⟩
theorem d_X7_chance_36 : zDc M_X7_chance 36 (.aload_n 0) 1 37 := ⟨by decide +kernel, rfl⟩
theorem d_X7_chance_37 : zDc M_X7_chance 37 (.getfield 66) 3 40 := ⟨by decide +kernel, rfl⟩
theorem d_X7_chance_40 : zDc M_X7_chance 40 (.iload_n 1) 1 41 := ⟨by decide +kernel, rfl⟩
theorem d_X7_chance_41 : zDc M_X7_chance 41 (.invokevirtual 315) 3 44 := ⟨by decide +kernel, rfl⟩
theorem d_X7_chance_44 : zDc M_X7_chance 44 (.iconst 0) 1 45 := ⟨by decide +kernel, rfl⟩
theorem d_X7_chance_45 : zDc M_X7_chance 45 (.istore 5) 2 47 := ⟨by decide +kernel, rfl⟩
theorem d_X7_chance_47 : zDc M_X7_chance 47 (.iconst 0) 1 48 := ⟨by decide +kernel, rfl⟩
theorem d_X7_chance_48 : zDc M_X7_chance 48 (.istore 6) 2 50 := ⟨by decide +kernel, rfl⟩
theorem d_X7_chance_50 : zDc M_X7_chance 50 (.iload 6) 2 52 := ⟨by decide +kernel, rfl⟩
theorem d_X7_chance_52 : zDc M_X7_chance 52 (.bipush 10) 2 54 := ⟨by decide +kernel, rfl⟩
theorem d_X7_chance_54 : zDj M_X7_chance 54 (.if_icmp .ge 30) 30 57 84 := ⟨by decide +kernel, rfl, by decide⟩
theorem d_X7_chance_57 : zDc M_X7_chance 57 (.aload_n 0) 1 58 := ⟨by decide +kernel, rfl⟩
theorem d_X7_chance_58 : zDc M_X7_chance 58 (.getfield 66) 3 61 := ⟨by decide +kernel, rfl⟩
theorem d_X7_chance_61 : zDc M_X7_chance 61 (.aload_n 0) 1 62 := ⟨by decide +kernel, rfl⟩
theorem d_X7_chance_62 : zDc M_X7_chance 62 (.getfield 38) 3 65 := ⟨by decide +kernel, rfl⟩
theorem d_X7_chance_65 : zDc M_X7_chance 65 (.iload_n 2) 1 66 := ⟨by decide +kernel, rfl⟩
theorem d_X7_chance_66 : zDc M_X7_chance 66 (.iload_n 3) 1 67 := ⟨by decide +kernel, rfl⟩
theorem d_X7_chance_67 : zDc M_X7_chance 67 (.invokevirtual 318) 3 70 := ⟨by decide +kernel, rfl⟩
theorem d_X7_chance_70 : zDc M_X7_chance 70 (.iload 4) 2 72 := ⟨by decide +kernel, rfl⟩
theorem d_X7_chance_72 : zDj M_X7_chance 72 (.if_icmp .lt 6) 6 75 78 := ⟨by decide +kernel, rfl, by decide⟩
theorem d_X7_chance_75 : zDc M_X7_chance 75 (.iinc 5 1) 3 78 := ⟨by decide +kernel, rfl⟩
theorem d_X7_chance_78 : zDc M_X7_chance 78 (.iinc 6 1) 3 81 := ⟨by decide +kernel, rfl⟩
theorem d_X7_chance_81 : zDj M_X7_chance 81 (.goto (-31)) (-31) 84 50 := ⟨by decide +kernel, rfl, by decide⟩
theorem d_X7_chance_84 : zDc M_X7_chance 84 (.iload 5) 2 86 := ⟨by decide +kernel, rfl⟩
theorem d_X7_chance_86 : zDc M_X7_chance 86 (.ireturn) 1 87 := ⟨by decide +kernel, rfl⟩
def f_X7_chance (a0 : Nat) (a1 : Int32) (a2 : Int32) (a3 : Int32) (a4 : Int32) (h0 : zHp) : Option (Int32 × zHp) :=
  if a1 < 0 then
  some ((-1), h0)
  else
  zbd ((f_X7_isFrom 1 a2 60 h0)) (fun v2 h1 =>
  if v2 = 0 then
  some ((-1), h1)
  else
  zbd (zcv 7 a0 h1 (f_X7_isField a0 a3 h1)) (fun v4 h3 =>
  if v4 = 0 then
  some ((-1), h3)
  else
  zbd ((f_X7_isFrom 0 a4 999 h3)) (fun v6 h5 =>
  if v6 = 0 then
  some ((-1), h5)
  else
  zob (zgR h5 a0 7 9) (fun v7 =>
  zbd (zcv 1 v7 h5 (f_X1_drawFrom v7 a1 h5)) (fun v9 h8 =>
  zbd (
  zlp (σ := (Int32 × Int32)) (β := (Int32 × Int32)) zLF (fun s10 h11 =>
  if 10 ≤ s10.2 then
  some ((.inr (s10.1, s10.2)), h11)
  else
  zob (zgR h11 a0 7 9) (fun v14 =>
  zob (zgR h11 a0 7 4) (fun v15 =>
  zbd (zcv 1 v14 h11 (f_X1_rainByChance v14 v15 a2 a3 h11)) (fun v17 h16 =>
  if v17 < a4 then
  some ((.inl (s10.1, (s10.2 + 1))), h16)
  else
  some ((.inl ((s10.1 + 1), (s10.2 + 1))), h16))))) (0, 0) h8) (fun e12 h13 =>
  some (e12.1, h13)))))))
set_option maxRecDepth 100000 in
set_option maxHeartbeats 4000000 in
theorem t_X7_chance (a0 : Nat) (a1 : Int32) (a2 : Int32) (a3 : Int32) (a4 : Int32) (h0 : zHp) : ∀ (r : Int32) (h' : zHp), f_X7_chance a0 a1 a2 a3 a4 h0 = some (r, h') → zCt yX7_chance (.code yX7_chance cX7_chance 7 (some .int)) 7 207 0 0 [.ref a0, .int a1, .int a2, .int a3, .int a4] h0 (some (.int r)) h' := by
  refine zct_of M_X7_chance yX7_chance (by decide) rfl rfl [.ref a0, .int a1, .int a2, .int a3, .int a4] h0 (Nat.le_of_ble_eq_true rfl) (fun r => some (.int r)) (fun X => ?_)
  show zG X M_X7_chance (0, 0) 0 [(0, .ref a0), (1, .int a1), (2, .int a2), (3, .int a3), (4, .int a4)] [] h0 (f_X7_chance a0 a1 a2 a3 a4 h0) (fun (r : Int32) h' => zKe X (some (.int r)) h')
  unfold f_X7_chance
  refine zg_iload_n 1 rfl d_X7_chance_0 ?_
  refine zg_if_lt d_X7_chance_1 ?_ ?_
  · refine zg_iconst (-1) rfl d_X7_chance_34 ?_
    exact zg_iretK d_X7_chance_35 rfl ⟨Nat.le_of_ble_eq_true rfl, Nat.le_of_ble_eq_true rfl⟩ (fun q => q)
  · refine zg_iconst 1 rfl d_X7_chance_4 ?_
    refine zg_iload_n 2 rfl d_X7_chance_5 ?_
    refine zg_bipush 60 rfl d_X7_chance_6 ?_
    refine zg_cSi (As := [.int 1, .int a2, .int 60]) (rest := []) (0, 0) d_X7_chance_8 cw_X7_194 wt_X7_isFrom rfl rfl (Nat.le_of_ble_eq_true rfl) (by decide) (by decide) ⟨by decide, by decide⟩ rfl (t_X7_isFrom 1 a2 60 h0) (fun v2 h1 => ?_)
    refine zg_if_eq d_X7_chance_11 ?_ ?_
    · refine zg_iconst (-1) rfl d_X7_chance_34 ?_
      exact zg_iretK d_X7_chance_35 rfl ⟨Nat.le_of_ble_eq_true rfl, Nat.le_of_ble_eq_true rfl⟩ (fun q => q)
    · refine zg_aload_n 0 rfl d_X7_chance_14 ?_
      refine zg_iload_n 3 rfl d_X7_chance_15 ?_
      refine zg_cVi (b := a0) (As := [.int a3]) (rest := []) (0, 0) d_X7_chance_16 zc_7 rfl cw_X7_168 wi_X7_isField ws_X7_isField rfl rfl (Nat.le_of_ble_eq_true rfl) (by decide) (by decide) ⟨by decide, by decide⟩ rfl (t_X7_isField a0 a3 h1) (fun v4 h3 => ?_)
      refine zg_if_eq d_X7_chance_19 ?_ ?_
      · refine zg_iconst (-1) rfl d_X7_chance_34 ?_
        exact zg_iretK d_X7_chance_35 rfl ⟨Nat.le_of_ble_eq_true rfl, Nat.le_of_ble_eq_true rfl⟩ (fun q => q)
      · refine zg_iconst 0 rfl d_X7_chance_22 ?_
        refine zg_iload 4 rfl d_X7_chance_23 ?_
        refine zg_sipush 999 rfl d_X7_chance_25 ?_
        refine zg_cSi (As := [.int 0, .int a4, .int 999]) (rest := []) (0, 0) d_X7_chance_28 cw_X7_194 wt_X7_isFrom rfl rfl (Nat.le_of_ble_eq_true rfl) (by decide) (by decide) ⟨by decide, by decide⟩ rfl (t_X7_isFrom 0 a4 999 h3) (fun v6 h5 => ?_)
        refine zg_if_ne d_X7_chance_31 ?_ ?_
        · refine zg_iconst (-1) rfl d_X7_chance_34 ?_
          exact zg_iretK d_X7_chance_35 rfl ⟨Nat.le_of_ble_eq_true rfl, Nat.le_of_ble_eq_true rfl⟩ (fun q => q)
        · refine zg_aload_n 0 rfl d_X7_chance_36 ?_
          refine zg_getR d_X7_chance_37 zc_7 (by decide) fl_X7_66 (fun v7 => ?_)
          refine zg_iload_n 1 rfl d_X7_chance_40 ?_
          refine zg_cVv (b := v7) (As := [.int a1]) (rest := []) (0, 0) d_X7_chance_41 zc_1 rfl cw_X7_315 wi_X1_drawFrom ws_X1_drawFrom rfl rfl (Nat.le_of_ble_eq_true rfl) (by decide) (by decide) ⟨by decide, by decide⟩ rfl (t_X1_drawFrom v7 a1 h5) (fun v9 h8 => ?_)
          refine zg_iconst 0 rfl d_X7_chance_44 ?_
          refine zg_istore [(5, .int 0), (0, .ref a0), (1, .int a1), (2, .int a2), (3, .int a3), (4, .int a4)] d_X7_chance_45 (by decide) rfl ?_
          refine zg_iconst 0 rfl d_X7_chance_47 ?_
          refine zg_istore [(6, .int 0), (5, .int 0), (0, .ref a0), (1, .int a1), (2, .int a2), (3, .int a3), (4, .int a4)] d_X7_chance_48 (by decide) rfl ?_
          refine zg_bd (E := 84) (el := (fun (e12 : (Int32 × Int32)) => [(0, .ref a0), (1, .int a1), (2, .int a2), (3, .int a3), (4, .int a4), (5, .int e12.1), (6, .int e12.2)])) (es := fun _ => []) (zg_sub [2, 3, 4, 5, 6, 1, 0] rfl (zg_lp (el := (fun (s10 : (Int32 × Int32)) => [(0, .ref a0), (1, .int a1), (2, .int a2), (3, .int a3), (4, .int a4), (5, .int s10.1), (6, .int s10.2)])) (fun s10 h11 => ?_) (0, 0) h8)) (fun e12 h13 => ?_)
          · refine zg_iload 6 rfl d_X7_chance_50 ?_
            refine zg_bipush 10 rfl d_X7_chance_52 ?_
            refine zg_icmp_ge d_X7_chance_54 ?_ ?_
            · exact zg_finK (E := 0) [0, 1, 2, 3, 4, 5, 6] rfl rfl (fun q => q)
            · refine zg_aload_n 0 rfl d_X7_chance_57 ?_
              refine zg_getR d_X7_chance_58 zc_7 (by decide) fl_X7_66 (fun v14 => ?_)
              refine zg_aload_n 0 rfl d_X7_chance_61 ?_
              refine zg_getR d_X7_chance_62 zc_7 (by decide) fl_X7_38 (fun v15 => ?_)
              refine zg_iload_n 2 rfl d_X7_chance_65 ?_
              refine zg_iload_n 3 rfl d_X7_chance_66 ?_
              refine zg_cVi (b := v14) (As := [.ref v15, .int a2, .int a3]) (rest := []) (0, 0) d_X7_chance_67 zc_1 rfl cw_X7_318 wi_X1_rainByChance ws_X1_rainByChance rfl rfl (Nat.le_of_ble_eq_true rfl) (by decide) (by decide) ⟨by decide, by decide⟩ rfl (t_X1_rainByChance v14 v15 a2 a3 h11) (fun v17 h16 => ?_)
              refine zg_iload 4 rfl d_X7_chance_70 ?_
              refine zg_icmp_lt d_X7_chance_72 ?_ ?_
              · refine zg_iinc 6 (s10.2 + 1) [(6, .int (s10.2 + 1)), (0, .ref a0), (1, .int a1), (2, .int a2), (3, .int a3), (4, .int a4), (5, .int s10.1)] d_X7_chance_78 rfl rfl (by decide) rfl ?_
                refine zg_goto d_X7_chance_81 ?_
                exact zg_finK (E := 0) [1, 2, 3, 4, 5, 6, 0] rfl rfl (fun q => q)
              · refine zg_iinc 5 (s10.1 + 1) [(5, .int (s10.1 + 1)), (0, .ref a0), (1, .int a1), (2, .int a2), (3, .int a3), (4, .int a4), (6, .int s10.2)] d_X7_chance_75 rfl rfl (by decide) rfl ?_
                refine zg_iinc 6 (s10.2 + 1) [(6, .int (s10.2 + 1)), (5, .int (s10.1 + 1)), (0, .ref a0), (1, .int a1), (2, .int a2), (3, .int a3), (4, .int a4)] d_X7_chance_78 rfl rfl (by decide) rfl ?_
                refine zg_goto d_X7_chance_81 ?_
                exact zg_finK (E := 0) [2, 3, 4, 5, 6, 1, 0] rfl rfl (fun q => q)
          · refine zg_iload 5 rfl d_X7_chance_84 ?_
            exact zg_iretK d_X7_chance_86 rfl ⟨Nat.le_of_ble_eq_true rfl, Nat.le_of_ble_eq_true rfl⟩ (fun q => q)

theorem fl_X5_54 : Cond.fieldLink RX5 54 (TX5 12).1 (TX5 12).2.1 (TX5 12).2.2.1 ∈ zT := zw_of _ 436 (by decide +kernel) (by decide +kernel)
theorem fl_X5_64 : Cond.fieldLink RX5 64 (TX6 5).1 (TX6 5).2.1 (TX6 5).2.2.1 ∈ zT := zw_of _ 212 (by decide +kernel) (by decide +kernel)
theorem fl_X5_69 : Cond.fieldLink RX5 69 (TX6 6).1 (TX6 6).2.1 (TX6 6).2.2.1 ∈ zT := zw_of _ 215 (by decide +kernel) (by decide +kernel)
theorem fl_X5_72 : Cond.fieldLink RX5 72 (TX6 9).1 (TX6 9).2.1 (TX6 9).2.2.1 ∈ zT := zw_of _ 224 (by decide +kernel) (by decide +kernel)
theorem fl_X5_81 : Cond.fieldLink RX5 81 (TX6 16).1 (TX6 16).2.1 (TX6 16).2.2.1 ∈ zT := zw_of _ 251 (by decide +kernel) (by decide +kernel)
theorem fl_X5_84 : Cond.fieldLink RX5 84 (TX6 11).1 (TX6 11).2.1 (TX6 11).2.2.1 ∈ zT := zw_of _ 232 (by decide +kernel) (by decide +kernel)
theorem fl_X1_36 : Cond.fieldLink RX1 36 (TX1 1).1 (TX1 1).2.1 (TX1 1).2.2.1 ∈ zT := zw_of _ 544 (by decide +kernel) (by decide +kernel)
theorem ml_X1_120 : Cond.methodLink RX1 120 yX5_startOf ∈ zT := zw_of _ 1195 (by decide +kernel) (by decide +kernel)
theorem cd_X5_startOf : Cond.code yX5_startOf cX5_startOf 4 none ∈ zT := zw_of _ 792 (by decide +kernel) (by decide +kernel)
theorem cw_X1_120 : zCw RX1 120 yX5_startOf cX5_startOf 4 none 1 := ⟨ml_X1_120, ni_X5, cd_X5_startOf, by decide, by decide, by decide +kernel⟩
theorem wi_X5_startOf : Cond.instanceMethod yX5_startOf ∈ zT := zw_of _ 790 (by decide +kernel) (by decide +kernel)
theorem ws_X5_startOf : Cond.selects RX5 yX5_startOf yX5_startOf ∈ zT := zw_of _ 791 (by decide +kernel) (by decide +kernel)
theorem fl_X1_123 : Cond.fieldLink RX1 123 (TX5 2).1 (TX5 2).2.1 (TX5 2).2.2.1 ∈ zT := zw_of _ 410 (by decide +kernel) (by decide +kernel)
theorem ml_X1_126 : Cond.methodLink RX1 126 yX3_lastHour ∈ zT := zw_of _ 1196 (by decide +kernel) (by decide +kernel)
theorem cd_X3_lastHour : Cond.code yX3_lastHour cX3_lastHour 3 (some .int) ∈ zT := zw_of _ 1199 (by decide +kernel) (by decide +kernel)
theorem cw_X1_126 : zCw RX1 126 yX3_lastHour cX3_lastHour 3 (some .int) 0 := ⟨ml_X1_126, ni_X3, cd_X3_lastHour, by decide, by decide, by decide +kernel⟩
theorem wi_X3_lastHour : Cond.instanceMethod yX3_lastHour ∈ zT := zw_of _ 1197 (by decide +kernel) (by decide +kernel)
theorem ws_X3_lastHour : Cond.selects RX3 yX3_lastHour yX3_lastHour ∈ zT := zw_of _ 1198 (by decide +kernel) (by decide +kernel)
theorem ml_X1_51 : Cond.methodLink RX1 51 yX5_windNow ∈ zT := zw_of _ 1028 (by decide +kernel) (by decide +kernel)
theorem cd_X5_windNow : Cond.code yX5_windNow cX5_windNow 1 (some .int) ∈ zT := zw_of _ 956 (by decide +kernel) (by decide +kernel)
theorem cw_X1_51 : zCw RX1 51 yX5_windNow cX5_windNow 1 (some .int) 0 := ⟨ml_X1_51, ni_X5, cd_X5_windNow, by decide, by decide, by decide +kernel⟩
theorem wi_X5_windNow : Cond.instanceMethod yX5_windNow ∈ zT := zw_of _ 954 (by decide +kernel) (by decide +kernel)
theorem ws_X5_windNow : Cond.selects RX5 yX5_windNow yX5_windNow ∈ zT := zw_of _ 955 (by decide +kernel) (by decide +kernel)
theorem ml_X1_55 : Cond.methodLink RX1 55 yX5_passHour ∈ zT := zw_of _ 1029 (by decide +kernel) (by decide +kernel)
theorem cd_X5_passHour : Cond.code yX5_passHour cX5_passHour 3 none ∈ zT := zw_of _ 960 (by decide +kernel) (by decide +kernel)
theorem cw_X1_55 : zCw RX1 55 yX5_passHour cX5_passHour 3 none 1 := ⟨ml_X1_55, ni_X5, cd_X5_passHour, by decide, by decide, by decide +kernel⟩
theorem wi_X5_passHour : Cond.instanceMethod yX5_passHour ∈ zT := zw_of _ 958 (by decide +kernel) (by decide +kernel)
theorem ws_X5_passHour : Cond.selects RX5 yX5_passHour yX5_passHour ∈ zT := zw_of _ 959 (by decide +kernel) (by decide +kernel)
theorem ml_X1_131 : Cond.methodLink RX1 131 yX3_fits ∈ zT := zw_of _ 1205 (by decide +kernel) (by decide +kernel)
theorem cd_X3_fits : Cond.code yX3_fits cX3_fits 3 (some .boolean) ∈ zT := zw_of _ 1208 (by decide +kernel) (by decide +kernel)
theorem cw_X1_131 : zCw RX1 131 yX3_fits cX3_fits 3 (some .boolean) 1 := ⟨ml_X1_131, ni_X3, cd_X3_fits, by decide, by decide, by decide +kernel⟩
theorem wi_X3_fits : Cond.instanceMethod yX3_fits ∈ zT := zw_of _ 1206 (by decide +kernel) (by decide +kernel)
theorem ws_X3_fits : Cond.selects RX3 yX3_fits yX3_fits ∈ zT := zw_of _ 1207 (by decide +kernel) (by decide +kernel)
theorem fl_X1_135 : Cond.fieldLink RX1 135 (TX1 8).1 (TX1 8).2.1 (TX1 8).2.2.1 ∈ zT := zw_of _ 551 (by decide +kernel) (by decide +kernel)
theorem kc_X1_138 : Cond.constant RX1 138 1103515245 ∈ zT := zw_of _ 1226 (by decide +kernel) (by decide +kernel)
theorem kc_X1_139 : Cond.constant RX1 139 2147483647 ∈ zT := zw_of _ 1227 (by decide +kernel) (by decide +kernel)
theorem kc_X1_140 : Cond.constant RX1 140 65536 ∈ zT := zw_of _ 1228 (by decide +kernel) (by decide +kernel)
theorem ml_X5_75 : Cond.methodLink RX5 75 arraycopyName ∈ zT := zw_of _ 1027 (by decide +kernel) (by decide +kernel)
theorem fl_X5_120 : Cond.fieldLink RX5 120 (TX6 3).1 (TX6 3).2.1 (TX6 3).2.2.1 ∈ zT := zw_of _ 206 (by decide +kernel) (by decide +kernel)
theorem ml_X1_40 : Cond.methodLink RX1 40 yX5_copyFrom ∈ zT := zw_of _ 1023 (by decide +kernel) (by decide +kernel)
theorem cd_X5_copyFrom : Cond.code yX5_copyFrom cX5_copyFrom 3 none ∈ zT := zw_of _ 1026 (by decide +kernel) (by decide +kernel)
theorem cw_X1_40 : zCw RX1 40 yX5_copyFrom cX5_copyFrom 3 none 1 := ⟨ml_X1_40, ni_X5, cd_X5_copyFrom, by decide, by decide, by decide +kernel⟩
theorem wi_X5_copyFrom : Cond.instanceMethod yX5_copyFrom ∈ zT := zw_of _ 1024 (by decide +kernel) (by decide +kernel)
theorem ws_X5_copyFrom : Cond.selects RX5 yX5_copyFrom yX5_copyFrom ∈ zT := zw_of _ 1025 (by decide +kernel) (by decide +kernel)
theorem ml_X1_78 : Cond.methodLink RX1 78 yX5_lacksRain ∈ zT := zw_of _ 1080 (by decide +kernel) (by decide +kernel)
theorem cd_X5_lacksRain : Cond.code yX5_lacksRain cX5_lacksRain 2 (some .boolean) ∈ zT := zw_of _ 1071 (by decide +kernel) (by decide +kernel)
theorem cw_X1_78 : zCw RX1 78 yX5_lacksRain cX5_lacksRain 2 (some .boolean) 1 := ⟨ml_X1_78, ni_X5, cd_X5_lacksRain, by decide, by decide, by decide +kernel⟩
theorem wi_X5_lacksRain : Cond.instanceMethod yX5_lacksRain ∈ zT := zw_of _ 1069 (by decide +kernel) (by decide +kernel)
theorem ws_X5_lacksRain : Cond.selects RX5 yX5_lacksRain yX5_lacksRain ∈ zT := zw_of _ 1070 (by decide +kernel) (by decide +kernel)
theorem fl_X1_27 : Cond.fieldLink RX1 27 (TX1 5).1 (TX1 5).2.1 (TX1 5).2.2.1 ∈ zT := zw_of _ 548 (by decide +kernel) (by decide +kernel)
theorem fl_X1_30 : Cond.fieldLink RX1 30 (TX1 6).1 (TX1 6).2.1 (TX1 6).2.2.1 ∈ zT := zw_of _ 549 (by decide +kernel) (by decide +kernel)
theorem ml_X5_127 : Cond.methodLink RX5 127 yX5_firstToPush ∈ zT := zw_of _ 1132 (by decide +kernel) (by decide +kernel)
theorem cd_X5_firstToPush : Cond.code yX5_firstToPush cX5_firstToPush 3 (some .int) ∈ zT := zw_of _ 916 (by decide +kernel) (by decide +kernel)
theorem cw_X5_127 : zCw RX5 127 yX5_firstToPush cX5_firstToPush 3 (some .int) 1 := ⟨ml_X5_127, ni_X5, cd_X5_firstToPush, by decide, by decide, by decide +kernel⟩
theorem wi_X5_firstToPush : Cond.instanceMethod yX5_firstToPush ∈ zT := zw_of _ 914 (by decide +kernel) (by decide +kernel)
theorem ws_X5_firstToPush : Cond.selects RX5 yX5_firstToPush yX5_firstToPush ∈ zT := zw_of _ 915 (by decide +kernel) (by decide +kernel)
theorem fl_X1_24 : Cond.fieldLink RX1 24 (TX1 4).1 (TX1 4).2.1 (TX1 4).2.2.1 ∈ zT := zw_of _ 547 (by decide +kernel) (by decide +kernel)
theorem ml_X1_141 : Cond.methodLink RX1 141 yX1_drawNumber ∈ zT := zw_of _ 1222 (by decide +kernel) (by decide +kernel)
theorem ni_X1 : Cond.initialized RX1 ∈ zT := zw_of _ 134 (by decide +kernel) (by decide +kernel)
theorem cd_X1_drawNumber : Cond.code yX1_drawNumber cX1_drawNumber 1 (some .int) ∈ zT := zw_of _ 1225 (by decide +kernel) (by decide +kernel)
theorem cw_X1_141 : zCw RX1 141 yX1_drawNumber cX1_drawNumber 1 (some .int) 0 := ⟨ml_X1_141, ni_X1, cd_X1_drawNumber, by decide, by decide, by decide +kernel⟩
theorem wi_X1_drawNumber : Cond.instanceMethod yX1_drawNumber ∈ zT := zw_of _ 1224 (by decide +kernel) (by decide +kernel)
theorem ws_X1_drawNumber : Cond.selects RX1 yX1_drawNumber yX1_drawNumber ∈ zT := zw_of _ 48 (by decide +kernel) (by decide +kernel)
theorem fl_X1_91 : Cond.fieldLink RX1 91 (TX5 9).1 (TX5 9).2.1 (TX5 9).2.2.1 ∈ zT := zw_of _ 429 (by decide +kernel) (by decide +kernel)
theorem fl_X1_17 : Cond.fieldLink RX1 17 (TX1 2).1 (TX1 2).2.1 (TX1 2).2.2.1 ∈ zT := zw_of _ 545 (by decide +kernel) (by decide +kernel)
abbrev M_X5_startOf : zMt := (RX5, cX5_startOf, 4, 1, 60, none, "startOf", 0, 0)
theorem d_X5_startOf_0 : zDc M_X5_startOf 0 (.aload_n 0) 1 1 := ⟨by decide +kernel, rfl⟩
theorem d_X5_startOf_1 : zDc M_X5_startOf 1 (.aload_n 1) 1 2 := ⟨by decide +kernel, rfl⟩
theorem d_X5_startOf_2 : zDc M_X5_startOf 2 (.putfield 50) 3 5 := ⟨by decide +kernel, rfl⟩
theorem d_X5_startOf_5 : zDc M_X5_startOf 5 (.aload_n 0) 1 6 := ⟨by decide +kernel, rfl⟩
theorem d_X5_startOf_6 : zDc M_X5_startOf 6 (.iconst 0) 1 7 := ⟨by decide +kernel, rfl⟩
theorem d_X5_startOf_7 : zDc M_X5_startOf 7 (.putfield 58) 3 10 := ⟨by decide +kernel, rfl⟩
theorem d_X5_startOf_10 : zDc M_X5_startOf 10 (.aload_n 0) 1 11 := ⟨by decide +kernel, rfl⟩
theorem d_X5_startOf_11 : zDc M_X5_startOf 11 (.iconst (-1)) 1 12 := ⟨by decide +kernel, rfl⟩
theorem d_X5_startOf_12 : zDc M_X5_startOf 12 (.putfield 54) 3 15 := ⟨by decide +kernel, rfl⟩
theorem d_X5_startOf_15 : zDc M_X5_startOf 15 (.aload_n 0) 1 16 := ⟨by decide +kernel, rfl⟩
theorem d_X5_startOf_16 : zDc M_X5_startOf 16 (.iconst 0) 1 17 := ⟨by decide +kernel, rfl⟩
theorem d_X5_startOf_17 : zDc M_X5_startOf 17 (.putfield 61) 3 20 := ⟨by decide +kernel, rfl⟩
theorem d_X5_startOf_20 : zDc M_X5_startOf 20 (.iconst 0) 1 21 := ⟨by decide +kernel, rfl⟩
theorem d_X5_startOf_21 : zDc M_X5_startOf 21 (.istore_n 2) 1 22 := ⟨by decide +kernel, rfl⟩
theorem d_X5_startOf_22 : zDc M_X5_startOf 22 (.iload_n 2) 1 23 := ⟨by decide +kernel, rfl⟩
theorem d_X5_startOf_23 : zDc M_X5_startOf 23 (.bipush 8) 2 25 := ⟨by decide +kernel, rfl⟩
theorem d_X5_startOf_25 : zDj M_X5_startOf 25 (.if_icmp .ge 72) 72 28 97 := ⟨by decide +kernel, rfl, by decide⟩
theorem d_X5_startOf_28 : zDc M_X5_startOf 28 (.aload_n 0) 1 29 := ⟨by decide +kernel, rfl⟩
theorem d_X5_startOf_29 : zDc M_X5_startOf 29 (.getfield 9) 3 32 := ⟨by decide +kernel, rfl⟩
theorem d_X5_startOf_32 : zDc M_X5_startOf 32 (.iload_n 2) 1 33 := ⟨by decide +kernel, rfl⟩
theorem d_X5_startOf_33 : zDc M_X5_startOf 33 (.aload_n 1) 1 34 := ⟨by decide +kernel, rfl⟩
theorem d_X5_startOf_34 : zDc M_X5_startOf 34 (.getfield 64) 3 37 := ⟨by decide +kernel, rfl⟩
theorem d_X5_startOf_37 : zDc M_X5_startOf 37 (.iload_n 2) 1 38 := ⟨by decide +kernel, rfl⟩
theorem d_X5_startOf_38 : zDc M_X5_startOf 38 (.iaload) 1 39 := ⟨by decide +kernel, rfl⟩
theorem d_X5_startOf_39 : zDc M_X5_startOf 39 (.bipush 6) 2 41 := ⟨by decide +kernel, rfl⟩
theorem d_X5_startOf_41 : zDc M_X5_startOf 41 (.irem) 1 42 := ⟨by decide +kernel, rfl⟩
theorem d_X5_startOf_42 : zDc M_X5_startOf 42 (.iastore) 1 43 := ⟨by decide +kernel, rfl⟩
theorem d_X5_startOf_43 : zDc M_X5_startOf 43 (.aload_n 0) 1 44 := ⟨by decide +kernel, rfl⟩
theorem d_X5_startOf_44 : zDc M_X5_startOf 44 (.getfield 15) 3 47 := ⟨by decide +kernel, rfl⟩
theorem d_X5_startOf_47 : zDc M_X5_startOf 47 (.iload_n 2) 1 48 := ⟨by decide +kernel, rfl⟩
theorem d_X5_startOf_48 : zDc M_X5_startOf 48 (.aload_n 1) 1 49 := ⟨by decide +kernel, rfl⟩
theorem d_X5_startOf_49 : zDc M_X5_startOf 49 (.getfield 64) 3 52 := ⟨by decide +kernel, rfl⟩
theorem d_X5_startOf_52 : zDc M_X5_startOf 52 (.iload_n 2) 1 53 := ⟨by decide +kernel, rfl⟩
theorem d_X5_startOf_53 : zDc M_X5_startOf 53 (.iaload) 1 54 := ⟨by decide +kernel, rfl⟩
theorem d_X5_startOf_54 : zDc M_X5_startOf 54 (.bipush 6) 2 56 := ⟨by decide +kernel, rfl⟩
theorem d_X5_startOf_56 : zDc M_X5_startOf 56 (.idiv) 1 57 := ⟨by decide +kernel, rfl⟩
theorem d_X5_startOf_57 : zDc M_X5_startOf 57 (.iastore) 1 58 := ⟨by decide +kernel, rfl⟩
theorem d_X5_startOf_58 : zDc M_X5_startOf 58 (.aload_n 0) 1 59 := ⟨by decide +kernel, rfl⟩
theorem d_X5_startOf_59 : zDc M_X5_startOf 59 (.getfield 18) 3 62 := ⟨by decide +kernel, rfl⟩
theorem d_X5_startOf_62 : zDc M_X5_startOf 62 (.iload_n 2) 1 63 := ⟨by decide +kernel, rfl⟩
theorem d_X5_startOf_63 : zDc M_X5_startOf 63 (.aload_n 1) 1 64 := ⟨by decide +kernel, rfl⟩
theorem d_X5_startOf_64 : zDc M_X5_startOf 64 (.getfield 69) 3 67 := ⟨by decide +kernel, rfl⟩
theorem d_X5_startOf_67 : zDc M_X5_startOf 67 (.iload_n 2) 1 68 := ⟨by decide +kernel, rfl⟩
theorem d_X5_startOf_68 : zDc M_X5_startOf 68 (.iaload) 1 69 := ⟨by decide +kernel, rfl⟩
theorem d_X5_startOf_69 : zDc M_X5_startOf 69 (.iastore) 1 70 := ⟨by decide +kernel, rfl⟩
theorem d_X5_startOf_70 : zDc M_X5_startOf 70 (.aload_n 0) 1 71 := ⟨by decide +kernel, rfl⟩
theorem d_X5_startOf_71 : zDc M_X5_startOf 71 (.getfield 21) 3 74 := ⟨by decide +kernel, rfl⟩
theorem d_X5_startOf_74 : zDc M_X5_startOf 74 (.iload_n 2) 1 75 := ⟨by decide +kernel, rfl⟩
theorem d_X5_startOf_75 : zDc M_X5_startOf 75 (.iconst 0) 1 76 := ⟨by decide +kernel, rfl⟩
theorem d_X5_startOf_76 : zDc M_X5_startOf 76 (.iastore) 1 77 := ⟨by decide +kernel, rfl⟩
theorem d_X5_startOf_77 : zDc M_X5_startOf 77 (.aload_n 0) 1 78 := ⟨by decide +kernel, rfl⟩
theorem d_X5_startOf_78 : zDc M_X5_startOf 78 (.getfield 24) 3 81 := ⟨by decide +kernel, rfl⟩
theorem d_X5_startOf_81 : zDc M_X5_startOf 81 (.iload_n 2) 1 82 := ⟨by decide +kernel, rfl⟩
theorem d_X5_startOf_82 : zDc M_X5_startOf 82 (.iconst (-1)) 1 83 := ⟨by decide +kernel, rfl⟩
theorem d_X5_startOf_83 : zDc M_X5_startOf 83 (.iastore) 1 84 := ⟨by decide +kernel, rfl⟩
theorem d_X5_startOf_84 : zDc M_X5_startOf 84 (.aload_n 0) 1 85 := ⟨by decide +kernel, rfl⟩
theorem d_X5_startOf_85 : zDc M_X5_startOf 85 (.getfield 27) 3 88 := ⟨by decide +kernel, rfl⟩
theorem d_X5_startOf_88 : zDc M_X5_startOf 88 (.iload_n 2) 1 89 := ⟨by decide +kernel, rfl⟩
theorem d_X5_startOf_89 : zDc M_X5_startOf 89 (.iconst 0) 1 90 := ⟨by decide +kernel, rfl⟩
theorem d_X5_startOf_90 : zDc M_X5_startOf 90 (.iastore) 1 91 := ⟨by decide +kernel, rfl⟩
theorem d_X5_startOf_91 : zDc M_X5_startOf 91 (.iinc 2 1) 3 94 := ⟨by decide +kernel, rfl⟩
theorem d_X5_startOf_94 : zDj M_X5_startOf 94 (.goto (-72)) (-72) 97 22 := ⟨by decide +kernel, rfl, by decide⟩
theorem d_X5_startOf_97 : zDc M_X5_startOf 97 (.iconst 0) 1 98 := ⟨by decide +kernel, rfl⟩
theorem d_X5_startOf_98 : zDc M_X5_startOf 98 (.istore_n 2) 1 99 := ⟨by decide +kernel, rfl⟩
theorem d_X5_startOf_99 : zDc M_X5_startOf 99 (.iload_n 2) 1 100 := ⟨by decide +kernel, rfl⟩
theorem d_X5_startOf_100 : zDc M_X5_startOf 100 (.bipush 6) 2 102 := ⟨by decide +kernel, rfl⟩
theorem d_X5_startOf_102 : zDj M_X5_startOf 102 (.if_icmp .ge 68) 68 105 170 := ⟨by decide +kernel, rfl, by decide⟩
theorem d_X5_startOf_105 : zDc M_X5_startOf 105 (.aload_n 0) 1 106 := ⟨by decide +kernel, rfl⟩
theorem d_X5_startOf_106 : zDc M_X5_startOf 106 (.getfield 30) 3 109 := ⟨by decide +kernel, rfl⟩
theorem d_X5_startOf_109 : zDc M_X5_startOf 109 (.iload_n 2) 1 110 := ⟨by decide +kernel, rfl⟩
theorem d_X5_startOf_110 : zDc M_X5_startOf 110 (.aload_n 1) 1 111 := ⟨by decide +kernel, rfl⟩
theorem d_X5_startOf_111 : zDc M_X5_startOf 111 (.getfield 72) 3 114 := ⟨by decide +kernel, rfl⟩
theorem d_X5_startOf_114 : zDc M_X5_startOf 114 (.iload_n 2) 1 115 := ⟨by decide +kernel, rfl⟩
theorem d_X5_startOf_115 : zDc M_X5_startOf 115 (.iaload) 1 116 := ⟨by decide +kernel, rfl⟩
theorem d_X5_startOf_116 : zDc M_X5_startOf 116 (.bipush 6) 2 118 := ⟨by decide +kernel, rfl⟩
theorem d_X5_startOf_118 : zDc M_X5_startOf 118 (.irem) 1 119 := ⟨by decide +kernel, rfl⟩
theorem d_X5_startOf_119 : zDc M_X5_startOf 119 (.iastore) 1 120 := ⟨by decide +kernel, rfl⟩
theorem d_X5_startOf_120 : zDc M_X5_startOf 120 (.aload_n 0) 1 121 := ⟨by decide +kernel, rfl⟩
theorem d_X5_startOf_121 : zDc M_X5_startOf 121 (.getfield 33) 3 124 := ⟨by decide +kernel, rfl⟩
theorem d_X5_startOf_124 : zDc M_X5_startOf 124 (.iload_n 2) 1 125 := ⟨by decide +kernel, rfl⟩
theorem d_X5_startOf_125 : zDc M_X5_startOf 125 (.aload_n 1) 1 126 := ⟨by decide +kernel, rfl⟩
theorem d_X5_startOf_126 : zDc M_X5_startOf 126 (.getfield 72) 3 129 := ⟨by decide +kernel, rfl⟩
theorem d_X5_startOf_129 : zDc M_X5_startOf 129 (.iload_n 2) 1 130 := ⟨by decide +kernel, rfl⟩
theorem d_X5_startOf_130 : zDc M_X5_startOf 130 (.iaload) 1 131 := ⟨by decide +kernel, rfl⟩
theorem d_X5_startOf_131 : zDc M_X5_startOf 131 (.bipush 6) 2 133 := ⟨by decide +kernel, rfl⟩
theorem d_X5_startOf_133 : zDc M_X5_startOf 133 (.idiv) 1 134 := ⟨by decide +kernel, rfl⟩
theorem d_X5_startOf_134 : zDc M_X5_startOf 134 (.iastore) 1 135 := ⟨by decide +kernel, rfl⟩
theorem d_X5_startOf_135 : zDc M_X5_startOf 135 (.aload_n 0) 1 136 := ⟨by decide +kernel, rfl⟩
theorem d_X5_startOf_136 : zDc M_X5_startOf 136 (.getfield 36) 3 139 := ⟨by decide +kernel, rfl⟩
theorem d_X5_startOf_139 : zDc M_X5_startOf 139 (.iload_n 2) 1 140 := ⟨by decide +kernel, rfl⟩
theorem d_X5_startOf_140 : zDc M_X5_startOf 140 (.iconst 0) 1 141 := ⟨by decide +kernel, rfl⟩
theorem d_X5_startOf_141 : zDc M_X5_startOf 141 (.iastore) 1 142 := ⟨by decide +kernel, rfl⟩
theorem d_X5_startOf_142 : zDc M_X5_startOf 142 (.iconst 0) 1 143 := ⟨by decide +kernel, rfl⟩
theorem d_X5_startOf_143 : zDc M_X5_startOf 143 (.istore_n 3) 1 144 := ⟨by decide +kernel, rfl⟩
theorem d_X5_startOf_144 : zDc M_X5_startOf 144 (.iload_n 3) 1 145 := ⟨by decide +kernel, rfl⟩
theorem d_X5_startOf_145 : zDc M_X5_startOf 145 (.iconst 5) 1 146 := ⟨by decide +kernel, rfl⟩
theorem d_X5_startOf_146 : zDj M_X5_startOf 146 (.if_icmp .ge 18) 18 149 164 := ⟨by decide +kernel, rfl, by decide⟩
theorem d_X5_startOf_149 : zDc M_X5_startOf 149 (.aload_n 0) 1 150 := ⟨by decide +kernel, rfl⟩
theorem d_X5_startOf_150 : zDc M_X5_startOf 150 (.getfield 44) 3 153 := ⟨by decide +kernel, rfl⟩
theorem d_X5_startOf_153 : zDc M_X5_startOf 153 (.iload_n 2) 1 154 := ⟨by decide +kernel, rfl⟩
theorem d_X5_startOf_154 : zDc M_X5_startOf 154 (.aaload) 1 155 := ⟨by decide +kernel, rfl⟩
theorem d_X5_startOf_155 : zDc M_X5_startOf 155 (.iload_n 3) 1 156 := ⟨by decide +kernel, rfl⟩
theorem d_X5_startOf_156 : zDc M_X5_startOf 156 (.iconst 0) 1 157 := ⟨by decide +kernel, rfl⟩
theorem d_X5_startOf_157 : zDc M_X5_startOf 157 (.iastore) 1 158 := ⟨by decide +kernel, rfl⟩
theorem d_X5_startOf_158 : zDc M_X5_startOf 158 (.iinc 3 1) 3 161 := ⟨by decide +kernel, rfl⟩
theorem d_X5_startOf_161 : zDj M_X5_startOf 161 (.goto (-17)) (-17) 164 144 := ⟨by decide +kernel, rfl, by decide⟩
theorem d_X5_startOf_164 : zDc M_X5_startOf 164 (.iinc 2 1) 3 167 := ⟨by decide +kernel, rfl⟩
theorem d_X5_startOf_167 : zDj M_X5_startOf 167 (.goto (-68)) (-68) 170 99 := ⟨by decide +kernel, rfl, by decide⟩
theorem d_X5_startOf_170 : zDc M_X5_startOf 170 (.iconst 0) 1 171 := ⟨by decide +kernel, rfl⟩
theorem d_X5_startOf_171 : zDc M_X5_startOf 171 (.istore_n 2) 1 172 := ⟨by decide +kernel, rfl⟩
theorem d_X5_startOf_172 : zDc M_X5_startOf 172 (.iload_n 2) 1 173 := ⟨by decide +kernel, rfl⟩
theorem d_X5_startOf_173 : zDc M_X5_startOf 173 (.iconst 5) 1 174 := ⟨by decide +kernel, rfl⟩
theorem d_X5_startOf_174 : zDj M_X5_startOf 174 (.if_icmp .ge 16) 16 177 190 := ⟨by decide +kernel, rfl, by decide⟩
theorem d_X5_startOf_177 : zDc M_X5_startOf 177 (.aload_n 0) 1 178 := ⟨by decide +kernel, rfl⟩
theorem d_X5_startOf_178 : zDc M_X5_startOf 178 (.getfield 39) 3 181 := ⟨by decide +kernel, rfl⟩
theorem d_X5_startOf_181 : zDc M_X5_startOf 181 (.iload_n 2) 1 182 := ⟨by decide +kernel, rfl⟩
theorem d_X5_startOf_182 : zDc M_X5_startOf 182 (.iconst 0) 1 183 := ⟨by decide +kernel, rfl⟩
theorem d_X5_startOf_183 : zDc M_X5_startOf 183 (.iastore) 1 184 := ⟨by decide +kernel, rfl⟩
theorem d_X5_startOf_184 : zDc M_X5_startOf 184 (.iinc 2 1) 3 187 := ⟨by decide +kernel, rfl⟩
theorem d_X5_startOf_187 : zDj M_X5_startOf 187 (.goto (-15)) (-15) 190 172 := ⟨by decide +kernel, rfl, by decide⟩
theorem d_X5_startOf_190 : zDc M_X5_startOf 190 (.return_) 1 191 := ⟨by decide +kernel, rfl⟩
def f_X5_startOf (a0 : Nat) (a1 : Nat) (h0 : zHp) : Option (Unit × zHp) :=
  zob (zpV h0 a0 5 14 (.ref a1)) (fun h1 =>
  zob (zpV h1 a0 5 11 (.int 0)) (fun h2 =>
  zob (zpV h2 a0 5 12 (.int (-1))) (fun h3 =>
  zob (zpV h3 a0 5 13 (.int 0)) (fun h4 =>
  zbd (
  zlp (σ := Int32) (β := Int32) zLF (fun s5 h6 =>
  if 8 ≤ s5 then
  some ((.inr s5), h6)
  else
  zob (zgR h6 a0 5 0) (fun v9 =>
  zob (zgR h6 a1 6 5) (fun v10 =>
  zob (zaI 0 h6 v10 s5) (fun v11 =>
  zob (zsI 0 h6 v9 s5 (zrm v11 6)) (fun h12 =>
  zob (zgR h12 a0 5 1) (fun v13 =>
  zob (zgR h12 a1 6 5) (fun v14 =>
  zob (zaI 0 h12 v14 s5) (fun v15 =>
  zob (zsI 0 h12 v13 s5 (v15 / 6)) (fun h16 =>
  zob (zgR h16 a0 5 2) (fun v17 =>
  zob (zgR h16 a1 6 6) (fun v18 =>
  zob (zaI 0 h16 v18 s5) (fun v19 =>
  zob (zsI 0 h16 v17 s5 v19) (fun h20 =>
  zob (zgR h20 a0 5 3) (fun v21 =>
  zob (zsI 0 h20 v21 s5 0) (fun h22 =>
  zob (zgR h22 a0 5 4) (fun v23 =>
  zob (zsI 0 h22 v23 s5 (-1)) (fun h24 =>
  zob (zgR h24 a0 5 5) (fun v25 =>
  zob (zsI 0 h24 v25 s5 0) (fun h26 =>
  some ((.inl (s5 + 1)), h26)))))))))))))))))))) 0 h4) (fun e7 h8 =>
  zbd (
  zlp (σ := Int32) (β := Int32) zLF (fun s27 h28 =>
  if 6 ≤ s27 then
  some ((.inr s27), h28)
  else
  zob (zgR h28 a0 5 6) (fun v31 =>
  zob (zgR h28 a1 6 9) (fun v32 =>
  zob (zaI 0 h28 v32 s27) (fun v33 =>
  zob (zsI 0 h28 v31 s27 (zrm v33 6)) (fun h34 =>
  zob (zgR h34 a0 5 7) (fun v35 =>
  zob (zgR h34 a1 6 9) (fun v36 =>
  zob (zaI 0 h34 v36 s27) (fun v37 =>
  zob (zsI 0 h34 v35 s27 (v37 / 6)) (fun h38 =>
  zob (zgR h38 a0 5 8) (fun v39 =>
  zob (zsI 0 h38 v39 s27 0) (fun h40 =>
  zbd (
  zlp (σ := Int32) (β := Int32) zLF (fun s41 h42 =>
  if 5 ≤ s41 then
  some ((.inr s41), h42)
  else
  zob (zgR h42 a0 5 10) (fun v45 =>
  zob (zaA 5 h42 v45 s27) (fun v46 =>
  zob (zsI 0 h42 v46 s41 0) (fun h47 =>
  some ((.inl (s41 + 1)), h47))))) 0 h40) (fun e43 h44 =>
  some ((.inl (s27 + 1)), h44))))))))))))) 0 h8) (fun e29 h30 =>
  zbd (
  zlp (σ := Int32) (β := Int32) zLF (fun s48 h49 =>
  if 5 ≤ s48 then
  some ((.inr s48), h49)
  else
  zob (zgR h49 a0 5 9) (fun v52 =>
  zob (zsI 0 h49 v52 s48 0) (fun h53 =>
  some ((.inl (s48 + 1)), h53)))) 0 h30) (fun e50 h51 =>
  some ((), h51))))))))
set_option maxRecDepth 100000 in
set_option maxHeartbeats 4000000 in
theorem t_X5_startOf (a0 : Nat) (a1 : Nat) (h0 : zHp) : ∀ (r : Unit) (h' : zHp), f_X5_startOf a0 a1 h0 = some (r, h') → zCt yX5_startOf (.code yX5_startOf cX5_startOf 4 none) 1 60 0 0 [.ref a0, .ref a1] h0 (none) h' := by
  refine zct_of M_X5_startOf yX5_startOf (by decide) rfl rfl [.ref a0, .ref a1] h0 (Nat.le_of_ble_eq_true rfl) (fun _ => none) (fun X => ?_)
  show zG X M_X5_startOf (0, 0) 0 [(0, .ref a0), (1, .ref a1)] [] h0 (f_X5_startOf a0 a1 h0) (fun (_ : Unit) h' => zKe X (none) h')
  unfold f_X5_startOf
  refine zg_aload_n 0 rfl d_X5_startOf_0 ?_
  refine zg_aload_n 1 rfl d_X5_startOf_1 ?_
  refine zg_putV d_X5_startOf_2 zc_5 (by decide) fl_X5_50 rfl rfl rfl (fun h1 => ?_)
  refine zg_aload_n 0 rfl d_X5_startOf_5 ?_
  refine zg_iconst 0 rfl d_X5_startOf_6 ?_
  refine zg_putV d_X5_startOf_7 zc_5 (by decide) fl_X5_58 rfl rfl rfl (fun h2 => ?_)
  refine zg_aload_n 0 rfl d_X5_startOf_10 ?_
  refine zg_iconst (-1) rfl d_X5_startOf_11 ?_
  refine zg_putV d_X5_startOf_12 zc_5 (by decide) fl_X5_54 rfl rfl rfl (fun h3 => ?_)
  refine zg_aload_n 0 rfl d_X5_startOf_15 ?_
  refine zg_iconst 0 rfl d_X5_startOf_16 ?_
  refine zg_putV d_X5_startOf_17 zc_5 (by decide) fl_X5_61 rfl rfl rfl (fun h4 => ?_)
  refine zg_iconst 0 rfl d_X5_startOf_20 ?_
  refine zg_istore_n [(2, .int 0), (0, .ref a0), (1, .ref a1)] d_X5_startOf_21 rfl (by decide) rfl ?_
  refine zg_bd (E := 97) (el := (fun (e7 : Int32) => [(0, .ref a0), (1, .ref a1), (2, .int e7)])) (es := fun _ => []) (zg_sub [1, 2, 0] rfl (zg_lp (el := (fun (s5 : Int32) => [(0, .ref a0), (1, .ref a1), (2, .int s5)])) (fun s5 h6 => ?_) 0 h4)) (fun e7 h8 => ?_)
  · refine zg_iload_n 2 rfl d_X5_startOf_22 ?_
    refine zg_bipush 8 rfl d_X5_startOf_23 ?_
    refine zg_icmp_ge d_X5_startOf_25 ?_ ?_
    · exact zg_finK (E := 0) [0, 1, 2] rfl rfl (fun q => q)
    · refine zg_aload_n 0 rfl d_X5_startOf_28 ?_
      refine zg_getR d_X5_startOf_29 zc_5 (by decide) fl_X5_9 (fun v9 => ?_)
      refine zg_iload_n 2 rfl d_X5_startOf_32 ?_
      refine zg_aload_n 1 rfl d_X5_startOf_33 ?_
      refine zg_getR d_X5_startOf_34 zc_6 (by decide) fl_X5_64 (fun v10 => ?_)
      refine zg_iload_n 2 rfl d_X5_startOf_37 ?_
      refine zg_ald0 d_X5_startOf_38 (fun v11 => ?_)
      refine zg_bipush 6 rfl d_X5_startOf_39 ?_
      refine zg_irem (by decide) d_X5_startOf_41 ?_
      refine zg_ast0 d_X5_startOf_42 (fun h12 => ?_)
      refine zg_aload_n 0 rfl d_X5_startOf_43 ?_
      refine zg_getR d_X5_startOf_44 zc_5 (by decide) fl_X5_15 (fun v13 => ?_)
      refine zg_iload_n 2 rfl d_X5_startOf_47 ?_
      refine zg_aload_n 1 rfl d_X5_startOf_48 ?_
      refine zg_getR d_X5_startOf_49 zc_6 (by decide) fl_X5_64 (fun v14 => ?_)
      refine zg_iload_n 2 rfl d_X5_startOf_52 ?_
      refine zg_ald0 d_X5_startOf_53 (fun v15 => ?_)
      refine zg_bipush 6 rfl d_X5_startOf_54 ?_
      refine zg_idiv (by decide) d_X5_startOf_56 ?_
      refine zg_ast0 d_X5_startOf_57 (fun h16 => ?_)
      refine zg_aload_n 0 rfl d_X5_startOf_58 ?_
      refine zg_getR d_X5_startOf_59 zc_5 (by decide) fl_X5_18 (fun v17 => ?_)
      refine zg_iload_n 2 rfl d_X5_startOf_62 ?_
      refine zg_aload_n 1 rfl d_X5_startOf_63 ?_
      refine zg_getR d_X5_startOf_64 zc_6 (by decide) fl_X5_69 (fun v18 => ?_)
      refine zg_iload_n 2 rfl d_X5_startOf_67 ?_
      refine zg_ald0 d_X5_startOf_68 (fun v19 => ?_)
      refine zg_ast0 d_X5_startOf_69 (fun h20 => ?_)
      refine zg_aload_n 0 rfl d_X5_startOf_70 ?_
      refine zg_getR d_X5_startOf_71 zc_5 (by decide) fl_X5_21 (fun v21 => ?_)
      refine zg_iload_n 2 rfl d_X5_startOf_74 ?_
      refine zg_iconst 0 rfl d_X5_startOf_75 ?_
      refine zg_ast0 d_X5_startOf_76 (fun h22 => ?_)
      refine zg_aload_n 0 rfl d_X5_startOf_77 ?_
      refine zg_getR d_X5_startOf_78 zc_5 (by decide) fl_X5_24 (fun v23 => ?_)
      refine zg_iload_n 2 rfl d_X5_startOf_81 ?_
      refine zg_iconst (-1) rfl d_X5_startOf_82 ?_
      refine zg_ast0 d_X5_startOf_83 (fun h24 => ?_)
      refine zg_aload_n 0 rfl d_X5_startOf_84 ?_
      refine zg_getR d_X5_startOf_85 zc_5 (by decide) fl_X5_27 (fun v25 => ?_)
      refine zg_iload_n 2 rfl d_X5_startOf_88 ?_
      refine zg_iconst 0 rfl d_X5_startOf_89 ?_
      refine zg_ast0 d_X5_startOf_90 (fun h26 => ?_)
      refine zg_iinc 2 (s5 + 1) [(2, .int (s5 + 1)), (0, .ref a0), (1, .ref a1)] d_X5_startOf_91 rfl rfl (by decide) rfl ?_
      refine zg_goto d_X5_startOf_94 ?_
      exact zg_finK (E := 0) [1, 2, 0] rfl rfl (fun q => q)
  · refine zg_iconst 0 rfl d_X5_startOf_97 ?_
    refine zg_istore_n [(2, .int 0), (0, .ref a0), (1, .ref a1)] d_X5_startOf_98 rfl (by decide) rfl ?_
    refine zg_bd (E := 170) (el := (fun (e29 : Int32) => [(0, .ref a0), (1, .ref a1), (2, .int e29)])) (es := fun _ => []) (zg_sub [1, 2, 0] rfl (zg_lp (el := (fun (s27 : Int32) => [(0, .ref a0), (1, .ref a1), (2, .int s27)])) (fun s27 h28 => ?_) 0 h8)) (fun e29 h30 => ?_)
    · refine zg_iload_n 2 rfl d_X5_startOf_99 ?_
      refine zg_bipush 6 rfl d_X5_startOf_100 ?_
      refine zg_icmp_ge d_X5_startOf_102 ?_ ?_
      · exact zg_finK (E := 0) [0, 1, 2] rfl rfl (fun q => q)
      · refine zg_aload_n 0 rfl d_X5_startOf_105 ?_
        refine zg_getR d_X5_startOf_106 zc_5 (by decide) fl_X5_30 (fun v31 => ?_)
        refine zg_iload_n 2 rfl d_X5_startOf_109 ?_
        refine zg_aload_n 1 rfl d_X5_startOf_110 ?_
        refine zg_getR d_X5_startOf_111 zc_6 (by decide) fl_X5_72 (fun v32 => ?_)
        refine zg_iload_n 2 rfl d_X5_startOf_114 ?_
        refine zg_ald0 d_X5_startOf_115 (fun v33 => ?_)
        refine zg_bipush 6 rfl d_X5_startOf_116 ?_
        refine zg_irem (by decide) d_X5_startOf_118 ?_
        refine zg_ast0 d_X5_startOf_119 (fun h34 => ?_)
        refine zg_aload_n 0 rfl d_X5_startOf_120 ?_
        refine zg_getR d_X5_startOf_121 zc_5 (by decide) fl_X5_33 (fun v35 => ?_)
        refine zg_iload_n 2 rfl d_X5_startOf_124 ?_
        refine zg_aload_n 1 rfl d_X5_startOf_125 ?_
        refine zg_getR d_X5_startOf_126 zc_6 (by decide) fl_X5_72 (fun v36 => ?_)
        refine zg_iload_n 2 rfl d_X5_startOf_129 ?_
        refine zg_ald0 d_X5_startOf_130 (fun v37 => ?_)
        refine zg_bipush 6 rfl d_X5_startOf_131 ?_
        refine zg_idiv (by decide) d_X5_startOf_133 ?_
        refine zg_ast0 d_X5_startOf_134 (fun h38 => ?_)
        refine zg_aload_n 0 rfl d_X5_startOf_135 ?_
        refine zg_getR d_X5_startOf_136 zc_5 (by decide) fl_X5_36 (fun v39 => ?_)
        refine zg_iload_n 2 rfl d_X5_startOf_139 ?_
        refine zg_iconst 0 rfl d_X5_startOf_140 ?_
        refine zg_ast0 d_X5_startOf_141 (fun h40 => ?_)
        refine zg_iconst 0 rfl d_X5_startOf_142 ?_
        refine zg_istore_n [(3, .int 0), (0, .ref a0), (1, .ref a1), (2, .int s27)] d_X5_startOf_143 rfl (by decide) rfl ?_
        refine zg_bd (E := 164) (el := (fun (e43 : Int32) => [(0, .ref a0), (1, .ref a1), (2, .int s27), (3, .int e43)])) (es := fun _ => []) (zg_sub [1, 2, 3, 0] rfl (zg_lp (el := (fun (s41 : Int32) => [(0, .ref a0), (1, .ref a1), (2, .int s27), (3, .int s41)])) (fun s41 h42 => ?_) 0 h40)) (fun e43 h44 => ?_)
        · refine zg_iload_n 3 rfl d_X5_startOf_144 ?_
          refine zg_iconst 5 rfl d_X5_startOf_145 ?_
          refine zg_icmp_ge d_X5_startOf_146 ?_ ?_
          · exact zg_finK (E := 0) [0, 1, 2, 3] rfl rfl (fun q => q)
          · refine zg_aload_n 0 rfl d_X5_startOf_149 ?_
            refine zg_getR d_X5_startOf_150 zc_5 (by decide) fl_X5_44 (fun v45 => ?_)
            refine zg_iload_n 2 rfl d_X5_startOf_153 ?_
            refine zg_ald5 d_X5_startOf_154 (fun v46 => ?_)
            refine zg_iload_n 3 rfl d_X5_startOf_155 ?_
            refine zg_iconst 0 rfl d_X5_startOf_156 ?_
            refine zg_ast0 d_X5_startOf_157 (fun h47 => ?_)
            refine zg_iinc 3 (s41 + 1) [(3, .int (s41 + 1)), (0, .ref a0), (1, .ref a1), (2, .int s27)] d_X5_startOf_158 rfl rfl (by decide) rfl ?_
            refine zg_goto d_X5_startOf_161 ?_
            exact zg_finK (E := 0) [1, 2, 3, 0] rfl rfl (fun q => q)
        · refine zg_iinc 2 (s27 + 1) [(2, .int (s27 + 1)), (0, .ref a0), (1, .ref a1), (3, .int e43)] d_X5_startOf_164 rfl rfl (by decide) rfl ?_
          refine zg_goto d_X5_startOf_167 ?_
          exact zg_finK (E := 0) [1, 2, 0] rfl rfl (fun q => q)
    · refine zg_iconst 0 rfl d_X5_startOf_170 ?_
      refine zg_istore_n [(2, .int 0), (0, .ref a0), (1, .ref a1)] d_X5_startOf_171 rfl (by decide) rfl ?_
      refine zg_bd (E := 190) (el := (fun (e50 : Int32) => [(0, .ref a0), (1, .ref a1), (2, .int e50)])) (es := fun _ => []) (zg_sub [1, 2, 0] rfl (zg_lp (el := (fun (s48 : Int32) => [(0, .ref a0), (1, .ref a1), (2, .int s48)])) (fun s48 h49 => ?_) 0 h30)) (fun e50 h51 => ?_)
      · refine zg_iload_n 2 rfl d_X5_startOf_172 ?_
        refine zg_iconst 5 rfl d_X5_startOf_173 ?_
        refine zg_icmp_ge d_X5_startOf_174 ?_ ?_
        · exact zg_finK (E := 0) [0, 1, 2] rfl rfl (fun q => q)
        · refine zg_aload_n 0 rfl d_X5_startOf_177 ?_
          refine zg_getR d_X5_startOf_178 zc_5 (by decide) fl_X5_39 (fun v52 => ?_)
          refine zg_iload_n 2 rfl d_X5_startOf_181 ?_
          refine zg_iconst 0 rfl d_X5_startOf_182 ?_
          refine zg_ast0 d_X5_startOf_183 (fun h53 => ?_)
          refine zg_iinc 2 (s48 + 1) [(2, .int (s48 + 1)), (0, .ref a0), (1, .ref a1)] d_X5_startOf_184 rfl rfl (by decide) rfl ?_
          refine zg_goto d_X5_startOf_187 ?_
          exact zg_finK (E := 0) [1, 2, 0] rfl rfl (fun q => q)
      · exact zg_vretK d_X5_startOf_190 rfl ⟨Nat.le_of_ble_eq_true rfl, Nat.le_of_ble_eq_true rfl⟩ (fun q => q)
abbrev M_X5_windNow : zMt := (RX5, cX5_windNow, 1, 1, 60, (some .int), "windNow", 0, 0)
theorem d_X5_windNow_0 : zDc M_X5_windNow 0 (.aload_n 0) 1 1 := ⟨by decide +kernel, rfl⟩
theorem d_X5_windNow_1 : zDc M_X5_windNow 1 (.getfield 61) 3 4 := ⟨by decide +kernel, rfl⟩
theorem d_X5_windNow_4 : zDc M_X5_windNow 4 (.iconst 1) 1 5 := ⟨by decide +kernel, rfl⟩
theorem d_X5_windNow_5 : zDj M_X5_windNow 5 (.if_icmp .ne 5) 5 8 10 := ⟨by decide +kernel, rfl, by decide⟩
theorem d_X5_windNow_8 : zDc M_X5_windNow 8 (.iconst 0) 1 9 := ⟨by decide +kernel, rfl⟩
theorem d_X5_windNow_9 : zDc M_X5_windNow 9 (.ireturn) 1 10 := ⟨by decide +kernel, rfl⟩
theorem d_X5_windNow_10 : zDc M_X5_windNow 10 (.aload_n 0) 1 11 := ⟨by decide +kernel, rfl⟩
theorem d_X5_windNow_11 : zDc M_X5_windNow 11 (.getfield 54) 3 14 := ⟨by decide +kernel, rfl⟩
theorem d_X5_windNow_14 : zDc M_X5_windNow 14 (.iconst (-1)) 1 15 := ⟨by decide +kernel, rfl⟩
theorem d_X5_windNow_15 : zDj M_X5_windNow 15 (.if_icmp .eq 8) 8 18 23 := ⟨by decide +kernel, rfl, by decide⟩
theorem d_X5_windNow_18 : zDc M_X5_windNow 18 (.aload_n 0) 1 19 := ⟨by decide +kernel, rfl⟩
theorem d_X5_windNow_19 : zDc M_X5_windNow 19 (.getfield 54) 3 22 := ⟨by decide +kernel, rfl⟩
theorem d_X5_windNow_22 : zDc M_X5_windNow 22 (.ireturn) 1 23 := ⟨by decide +kernel, rfl⟩
theorem d_X5_windNow_23 : zDc M_X5_windNow 23 (.aload_n 0) 1 24 := ⟨by decide +kernel, rfl⟩
theorem d_X5_windNow_24 : zDc M_X5_windNow 24 (.getfield 50) 3 27 := ⟨by decide +kernel, rfl⟩
theorem d_X5_windNow_27 : zDc M_X5_windNow 27 (.getfield 81) 3 30 := ⟨by decide +kernel, rfl⟩
theorem d_X5_windNow_30 : zDj M_X5_windNow 30 (.ifCond .le 26) 26 33 56 := ⟨by decide +kernel, rfl, by decide⟩
theorem d_X5_windNow_33 : zDc M_X5_windNow 33 (.aload_n 0) 1 34 := ⟨by decide +kernel, rfl⟩
theorem d_X5_windNow_34 : zDc M_X5_windNow 34 (.getfield 50) 3 37 := ⟨by decide +kernel, rfl⟩
theorem d_X5_windNow_37 : zDc M_X5_windNow 37 (.getfield 84) 3 40 := ⟨by decide +kernel, rfl⟩
theorem d_X5_windNow_40 : zDc M_X5_windNow 40 (.aload_n 0) 1 41 := ⟨by decide +kernel, rfl⟩
theorem d_X5_windNow_41 : zDc M_X5_windNow 41 (.getfield 58) 3 44 := ⟨by decide +kernel, rfl⟩
theorem d_X5_windNow_44 : zDc M_X5_windNow 44 (.aload_n 0) 1 45 := ⟨by decide +kernel, rfl⟩
theorem d_X5_windNow_45 : zDc M_X5_windNow 45 (.getfield 50) 3 48 := ⟨by decide +kernel, rfl⟩
theorem d_X5_windNow_48 : zDc M_X5_windNow 48 (.getfield 81) 3 51 := ⟨by decide +kernel, rfl⟩
theorem d_X5_windNow_51 : zDc M_X5_windNow 51 (.irem) 1 52 := ⟨by decide +kernel, rfl⟩
theorem d_X5_windNow_52 : zDc M_X5_windNow 52 (.iaload) 1 53 := ⟨by decide +kernel, rfl⟩
theorem d_X5_windNow_53 : zDj M_X5_windNow 53 (.goto 4) 4 56 57 := ⟨by decide +kernel, rfl, by decide⟩
theorem d_X5_windNow_56 : zDc M_X5_windNow 56 (.iconst 0) 1 57 := ⟨by decide +kernel, rfl⟩
theorem d_X5_windNow_57 : zDc M_X5_windNow 57 (.ireturn) 1 58 := ⟨by decide +kernel, rfl⟩
def f_X5_windNow (a0 : Nat) (h0 : zHp) : Option (Int32 × zHp) :=
  zob (zgI h0 a0 5 13) (fun v1 =>
  if v1 = 1 then
  some (0, h0)
  else
  zob (zgI h0 a0 5 12) (fun v2 =>
  if v2 = (-1) then
  zob (zgR h0 a0 5 14) (fun v3 =>
  zob (zgI h0 v3 6 16) (fun v4 =>
  if v4 ≤ 0 then
  some (0, h0)
  else
  zob (zgR h0 a0 5 14) (fun v5 =>
  zob (zgR h0 v5 6 11) (fun v6 =>
  zob (zgI h0 a0 5 11) (fun v7 =>
  zob (zgR h0 a0 5 14) (fun v8 =>
  zob (zgI h0 v8 6 16) (fun v9 =>
  zob (zrp v7 v9) (fun v10 =>
  zob (zaI 0 h0 v6 v10) (fun v11 =>
  some (v11, h0))))))))))
  else
  zob (zgI h0 a0 5 12) (fun v12 =>
  some (v12, h0))))
set_option maxRecDepth 100000 in
set_option maxHeartbeats 4000000 in
theorem t_X5_windNow (a0 : Nat) (h0 : zHp) : ∀ (r : Int32) (h' : zHp), f_X5_windNow a0 h0 = some (r, h') → zCt yX5_windNow (.code yX5_windNow cX5_windNow 1 (some .int)) 1 60 0 0 [.ref a0] h0 (some (.int r)) h' := by
  refine zct_of M_X5_windNow yX5_windNow (by decide) rfl rfl [.ref a0] h0 (Nat.le_of_ble_eq_true rfl) (fun r => some (.int r)) (fun X => ?_)
  show zG X M_X5_windNow (0, 0) 0 [(0, .ref a0)] [] h0 (f_X5_windNow a0 h0) (fun (r : Int32) h' => zKe X (some (.int r)) h')
  unfold f_X5_windNow
  refine zg_aload_n 0 rfl d_X5_windNow_0 ?_
  refine zg_getI d_X5_windNow_1 zc_5 (by decide) fl_X5_61 (fun v1 => ?_)
  refine zg_iconst 1 rfl d_X5_windNow_4 ?_
  refine zg_icmp_ne d_X5_windNow_5 ?_ ?_
  · refine zg_iconst 0 rfl d_X5_windNow_8 ?_
    exact zg_iretK d_X5_windNow_9 rfl ⟨Nat.le_of_ble_eq_true rfl, Nat.le_of_ble_eq_true rfl⟩ (fun q => q)
  · refine zg_aload_n 0 rfl d_X5_windNow_10 ?_
    refine zg_getI d_X5_windNow_11 zc_5 (by decide) fl_X5_54 (fun v2 => ?_)
    refine zg_iconst (-1) rfl d_X5_windNow_14 ?_
    refine zg_icmp_eq d_X5_windNow_15 ?_ ?_
    · refine zg_aload_n 0 rfl d_X5_windNow_23 ?_
      refine zg_getR d_X5_windNow_24 zc_5 (by decide) fl_X5_50 (fun v3 => ?_)
      refine zg_getI d_X5_windNow_27 zc_6 (by decide) fl_X5_81 (fun v4 => ?_)
      refine zg_if_le d_X5_windNow_30 ?_ ?_
      · refine zg_iconst 0 rfl d_X5_windNow_56 ?_
        exact zg_iretK d_X5_windNow_57 rfl ⟨Nat.le_of_ble_eq_true rfl, Nat.le_of_ble_eq_true rfl⟩ (fun q => q)
      · refine zg_aload_n 0 rfl d_X5_windNow_33 ?_
        refine zg_getR d_X5_windNow_34 zc_5 (by decide) fl_X5_50 (fun v5 => ?_)
        refine zg_getR d_X5_windNow_37 zc_6 (by decide) fl_X5_84 (fun v6 => ?_)
        refine zg_aload_n 0 rfl d_X5_windNow_40 ?_
        refine zg_getI d_X5_windNow_41 zc_5 (by decide) fl_X5_58 (fun v7 => ?_)
        refine zg_aload_n 0 rfl d_X5_windNow_44 ?_
        refine zg_getR d_X5_windNow_45 zc_5 (by decide) fl_X5_50 (fun v8 => ?_)
        refine zg_getI d_X5_windNow_48 zc_6 (by decide) fl_X5_81 (fun v9 => ?_)
        refine zg_iremP d_X5_windNow_51 (fun v10 => ?_)
        refine zg_ald0 d_X5_windNow_52 (fun v11 => ?_)
        refine zg_goto d_X5_windNow_53 ?_
        exact zg_iretK d_X5_windNow_57 rfl ⟨Nat.le_of_ble_eq_true rfl, Nat.le_of_ble_eq_true rfl⟩ (fun q => q)
    · refine zg_aload_n 0 rfl d_X5_windNow_18 ?_
      refine zg_getI d_X5_windNow_19 zc_5 (by decide) fl_X5_54 (fun v12 => ?_)
      exact zg_iretK d_X5_windNow_22 rfl ⟨Nat.le_of_ble_eq_true rfl, Nat.le_of_ble_eq_true rfl⟩ (fun q => q)
abbrev M_X1_agrees : zMt := (RX1, cX1_agrees, 7, 6, 183, (some .boolean), "agrees", 0, 0)
theorem d_X1_agrees_0 : zDc M_X1_agrees 0 (.aload_n 0) 1 1 := ⟨by decide +kernel, rfl⟩
theorem d_X1_agrees_1 : zDc M_X1_agrees 1 (.getfield 36) 3 4 := ⟨by decide +kernel, rfl⟩
theorem d_X1_agrees_4 : zDc M_X1_agrees 4 (.aload_n 1) 1 5 := ⟨by decide +kernel, rfl⟩
theorem d_X1_agrees_5 : zDc M_X1_agrees 5 (.invokevirtual 120) 3 8 := ⟨by decide +kernel, rfl⟩
theorem d_X1_agrees_8 : zDc M_X1_agrees 8 (.aload_n 0) 1 9 := ⟨by decide +kernel, rfl⟩
theorem d_X1_agrees_9 : zDc M_X1_agrees 9 (.getfield 36) 3 12 := ⟨by decide +kernel, rfl⟩
theorem d_X1_agrees_12 : zDc M_X1_agrees 12 (.getfield 123) 3 15 := ⟨by decide +kernel, rfl⟩
theorem d_X1_agrees_15 : zDc M_X1_agrees 15 (.iload_n 3) 1 16 := ⟨by decide +kernel, rfl⟩
theorem d_X1_agrees_16 : zDc M_X1_agrees 16 (.iload 4) 2 18 := ⟨by decide +kernel, rfl⟩
theorem d_X1_agrees_18 : zDc M_X1_agrees 18 (.iastore) 1 19 := ⟨by decide +kernel, rfl⟩
theorem d_X1_agrees_19 : zDc M_X1_agrees 19 (.aload_n 2) 1 20 := ⟨by decide +kernel, rfl⟩
theorem d_X1_agrees_20 : zDc M_X1_agrees 20 (.invokevirtual 126) 3 23 := ⟨by decide +kernel, rfl⟩
theorem d_X1_agrees_23 : zDc M_X1_agrees 23 (.istore 5) 2 25 := ⟨by decide +kernel, rfl⟩
theorem d_X1_agrees_25 : zDc M_X1_agrees 25 (.iconst 1) 1 26 := ⟨by decide +kernel, rfl⟩
theorem d_X1_agrees_26 : zDc M_X1_agrees 26 (.istore 6) 2 28 := ⟨by decide +kernel, rfl⟩
theorem d_X1_agrees_28 : zDc M_X1_agrees 28 (.iload 6) 2 30 := ⟨by decide +kernel, rfl⟩
theorem d_X1_agrees_30 : zDc M_X1_agrees 30 (.iload 5) 2 32 := ⟨by decide +kernel, rfl⟩
theorem d_X1_agrees_32 : zDj M_X1_agrees 32 (.if_icmp .gt 36) 36 35 68 := ⟨by decide +kernel, rfl, by decide⟩
theorem d_X1_agrees_35 : zDc M_X1_agrees 35 (.aload_n 0) 1 36 := ⟨by decide +kernel, rfl⟩
theorem d_X1_agrees_36 : zDc M_X1_agrees 36 (.getfield 36) 3 39 := ⟨by decide +kernel, rfl⟩
theorem d_X1_agrees_39 : zDc M_X1_agrees 39 (.aload_n 0) 1 40 := ⟨by decide +kernel, rfl⟩
theorem d_X1_agrees_40 : zDc M_X1_agrees 40 (.getfield 36) 3 43 := ⟨by decide +kernel, rfl⟩
theorem d_X1_agrees_43 : zDc M_X1_agrees 43 (.invokevirtual 51) 3 46 := ⟨by decide +kernel, rfl⟩
theorem d_X1_agrees_46 : zDc M_X1_agrees 46 (.invokevirtual 55) 3 49 := ⟨by decide +kernel, rfl⟩
theorem d_X1_agrees_49 : zDc M_X1_agrees 49 (.aload_n 2) 1 50 := ⟨by decide +kernel, rfl⟩
theorem d_X1_agrees_50 : zDc M_X1_agrees 50 (.aload_n 0) 1 51 := ⟨by decide +kernel, rfl⟩
theorem d_X1_agrees_51 : zDc M_X1_agrees 51 (.getfield 36) 3 54 := ⟨by decide +kernel, rfl⟩
theorem d_X1_agrees_54 : zDc M_X1_agrees 54 (.invokevirtual 131) 3 57 := ⟨by decide +kernel, rfl⟩
theorem d_X1_agrees_57 : zDj M_X1_agrees 57 (.ifCond .ne 5) 5 60 62 := ⟨by decide +kernel, rfl, by decide⟩
theorem d_X1_agrees_60 : zDc M_X1_agrees 60 (.iconst 0) 1 61 := ⟨by decide +kernel, rfl⟩
theorem d_X1_agrees_61 : zDc M_X1_agrees 61 (.ireturn) 1 62 := ⟨by decide +kernel, rfl⟩
theorem d_X1_agrees_62 : zDc M_X1_agrees 62 (.iinc 6 1) 3 65 := ⟨by decide +kernel, rfl⟩
theorem d_X1_agrees_65 : zDj M_X1_agrees 65 (.goto (-37)) (-37) 68 28 := ⟨by decide +kernel, rfl, by decide⟩
theorem d_X1_agrees_68 : zDc M_X1_agrees 68 (.iconst 1) 1 69 := ⟨by decide +kernel, rfl⟩
theorem d_X1_agrees_69 : zDc M_X1_agrees 69 (.ireturn) 1 70 := ⟨by decide +kernel, rfl⟩
def f_X1_agrees (a0 : Nat) (a1 : Nat) (a2 : Nat) (a3 : Int32) (a4 : Int32) (h0 : zHp) : Option (Int32 × zHp) :=
  zob (zgR h0 a0 1 1) (fun v1 =>
  zbd (zcv 5 v1 h0 (f_X5_startOf v1 a1 h0)) (fun v3 h2 =>
  zob (zgR h2 a0 1 1) (fun v4 =>
  zob (zgR h2 v4 5 2) (fun v5 =>
  zob (zsI 0 h2 v5 a3 a4) (fun h6 =>
  zbd (zcv 3 a2 h6 (f_X3_lastHour a2 h6)) (fun v8 h7 =>
  zbd (
  zlp (σ := Int32) (β := (Int32 ⊕ Int32)) zLF (fun s9 h10 =>
  if v8 < s9 then
  some ((.inr (.inl s9)), h10)
  else
  zob (zgR h10 a0 1 1) (fun v13 =>
  zob (zgR h10 a0 1 1) (fun v14 =>
  zbd (zcv 5 v14 h10 (f_X5_windNow v14 h10)) (fun v16 h15 =>
  zbd (zcv 5 v13 h15 (f_X5_passHour v13 v16 h15)) (fun v18 h17 =>
  zob (zgR h17 a0 1 1) (fun v19 =>
  zbd (zcv 3 a2 h17 (f_X3_fits a2 v19 h17)) (fun v21 h20 =>
  if v21 = 0 then
  some ((.inr (.inr 0)), h20)
  else
  some ((.inl (s9 + 1)), h20)))))))) 1 h7) (fun b22 h12 => zsl b22 (fun e11 =>
  some (1, h12)) (fun r => some (r, h12)))))))))
set_option maxRecDepth 100000 in
set_option maxHeartbeats 4000000 in
theorem t_X1_agrees (a0 : Nat) (a1 : Nat) (a2 : Nat) (a3 : Int32) (a4 : Int32) (h0 : zHp) : ∀ (r : Int32) (h' : zHp), f_X1_agrees a0 a1 a2 a3 a4 h0 = some (r, h') → zCt yX1_agrees (.code yX1_agrees cX1_agrees 7 (some .boolean)) 6 183 0 0 [.ref a0, .ref a1, .ref a2, .int a3, .int a4] h0 (some (.int r)) h' := by
  refine zct_of M_X1_agrees yX1_agrees (by decide) rfl rfl [.ref a0, .ref a1, .ref a2, .int a3, .int a4] h0 (Nat.le_of_ble_eq_true rfl) (fun r => some (.int r)) (fun X => ?_)
  show zG X M_X1_agrees (0, 0) 0 [(0, .ref a0), (1, .ref a1), (2, .ref a2), (3, .int a3), (4, .int a4)] [] h0 (f_X1_agrees a0 a1 a2 a3 a4 h0) (fun (r : Int32) h' => zKe X (some (.int r)) h')
  unfold f_X1_agrees
  refine zg_aload_n 0 rfl d_X1_agrees_0 ?_
  refine zg_getR d_X1_agrees_1 zc_1 (by decide) fl_X1_36 (fun v1 => ?_)
  refine zg_aload_n 1 rfl d_X1_agrees_4 ?_
  refine zg_cVv (b := v1) (As := [.ref a1]) (rest := []) (0, 0) d_X1_agrees_5 zc_5 rfl cw_X1_120 wi_X5_startOf ws_X5_startOf rfl rfl (Nat.le_of_ble_eq_true rfl) (by decide) (by decide) ⟨by decide, by decide⟩ rfl (t_X5_startOf v1 a1 h0) (fun v3 h2 => ?_)
  refine zg_aload_n 0 rfl d_X1_agrees_8 ?_
  refine zg_getR d_X1_agrees_9 zc_1 (by decide) fl_X1_36 (fun v4 => ?_)
  refine zg_getR d_X1_agrees_12 zc_5 (by decide) fl_X1_123 (fun v5 => ?_)
  refine zg_iload_n 3 rfl d_X1_agrees_15 ?_
  refine zg_iload 4 rfl d_X1_agrees_16 ?_
  refine zg_ast0 d_X1_agrees_18 (fun h6 => ?_)
  refine zg_aload_n 2 rfl d_X1_agrees_19 ?_
  refine zg_cVi (b := a2) (As := []) (rest := []) (0, 0) d_X1_agrees_20 zc_3 rfl cw_X1_126 wi_X3_lastHour ws_X3_lastHour rfl rfl (Nat.le_of_ble_eq_true rfl) (by decide) (by decide) ⟨by decide, by decide⟩ rfl (t_X3_lastHour a2 h6) (fun v8 h7 => ?_)
  refine zg_istore [(5, .int v8), (0, .ref a0), (1, .ref a1), (2, .ref a2), (3, .int a3), (4, .int a4)] d_X1_agrees_23 (by decide) rfl ?_
  refine zg_iconst 1 rfl d_X1_agrees_25 ?_
  refine zg_istore [(6, .int 1), (5, .int v8), (0, .ref a0), (1, .ref a1), (2, .ref a2), (3, .int a3), (4, .int a4)] d_X1_agrees_26 (by decide) rfl ?_
  refine zg_bdr (E := 68) (el := (fun (e11 : Int32) => [(0, .ref a0), (1, .ref a1), (2, .ref a2), (3, .int a3), (4, .int a4), (5, .int v8), (6, .int e11)])) (es := fun _ => []) (zg_sub [2, 3, 4, 5, 6, 1, 0] rfl (zg_lp (el := (fun (s9 : Int32) => [(0, .ref a0), (1, .ref a1), (2, .ref a2), (3, .int a3), (4, .int a4), (5, .int v8), (6, .int s9)])) (fun s9 h10 => ?_) 1 h7)) (fun e11 h12 => ?_)
  · refine zg_iload 6 rfl d_X1_agrees_28 ?_
    refine zg_iload 5 rfl d_X1_agrees_30 ?_
    refine zg_icmp_gt d_X1_agrees_32 ?_ ?_
    · exact zg_finK (E := 0) [0, 1, 2, 3, 4, 5, 6] rfl rfl (fun q => q)
    · refine zg_aload_n 0 rfl d_X1_agrees_35 ?_
      refine zg_getR d_X1_agrees_36 zc_1 (by decide) fl_X1_36 (fun v13 => ?_)
      refine zg_aload_n 0 rfl d_X1_agrees_39 ?_
      refine zg_getR d_X1_agrees_40 zc_1 (by decide) fl_X1_36 (fun v14 => ?_)
      refine zg_cVi (b := v14) (As := []) (rest := [.ref v13]) (0, 0) d_X1_agrees_43 zc_5 rfl cw_X1_51 wi_X5_windNow ws_X5_windNow rfl rfl (Nat.le_of_ble_eq_true rfl) (by decide) (by decide) ⟨by decide, by decide⟩ rfl (t_X5_windNow v14 h10) (fun v16 h15 => ?_)
      refine zg_cVv (b := v13) (As := [.int v16]) (rest := []) (0, 0) d_X1_agrees_46 zc_5 rfl cw_X1_55 wi_X5_passHour ws_X5_passHour rfl rfl (Nat.le_of_ble_eq_true rfl) (by decide) (by decide) ⟨by decide, by decide⟩ rfl (t_X5_passHour v13 v16 h15) (fun v18 h17 => ?_)
      refine zg_aload_n 2 rfl d_X1_agrees_49 ?_
      refine zg_aload_n 0 rfl d_X1_agrees_50 ?_
      refine zg_getR d_X1_agrees_51 zc_1 (by decide) fl_X1_36 (fun v19 => ?_)
      refine zg_cVi (b := a2) (As := [.ref v19]) (rest := []) (0, 0) d_X1_agrees_54 zc_3 rfl cw_X1_131 wi_X3_fits ws_X3_fits rfl rfl (Nat.le_of_ble_eq_true rfl) (by decide) (by decide) ⟨by decide, by decide⟩ rfl (t_X3_fits a2 v19 h17) (fun v21 h20 => ?_)
      refine zg_if_ne d_X1_agrees_57 ?_ ?_
      · refine zg_iconst 0 rfl d_X1_agrees_60 ?_
        exact zg_zretK d_X1_agrees_61 rfl ⟨Nat.le_of_ble_eq_true rfl, Nat.le_of_ble_eq_true rfl⟩ (Or.inl rfl) (fun q => q)
      · refine zg_iinc 6 (s9 + 1) [(6, .int (s9 + 1)), (0, .ref a0), (1, .ref a1), (2, .ref a2), (3, .int a3), (4, .int a4), (5, .int v8)] d_X1_agrees_62 rfl rfl (by decide) rfl ?_
        refine zg_goto d_X1_agrees_65 ?_
        exact zg_finK (E := 0) [1, 2, 3, 4, 5, 6, 0] rfl rfl (fun q => q)
  · refine zg_iconst 1 rfl d_X1_agrees_68 ?_
    exact zg_zretK d_X1_agrees_69 rfl ⟨Nat.le_of_ble_eq_true rfl, Nat.le_of_ble_eq_true rfl⟩ (Or.inr rfl) (fun q => q)
abbrev M_X1_drawFrom : zMt := (RX1, cX1_drawFrom, 2, 1, 60, none, "drawFrom", 0, 0)
theorem d_X1_drawFrom_0 : zDc M_X1_drawFrom 0 (.aload_n 0) 1 1 := ⟨by decide +kernel, rfl⟩
theorem d_X1_drawFrom_1 : zDc M_X1_drawFrom 1 (.iload_n 1) 1 2 := ⟨by decide +kernel, rfl⟩
theorem d_X1_drawFrom_2 : zDc M_X1_drawFrom 2 (.putfield 135) 3 5 := ⟨by decide +kernel, rfl⟩
theorem d_X1_drawFrom_5 : zDc M_X1_drawFrom 5 (.return_) 1 6 := ⟨by decide +kernel, rfl⟩
def f_X1_drawFrom (a0 : Nat) (a1 : Int32) (h0 : zHp) : Option (Unit × zHp) :=
  zob (zpV h0 a0 1 8 (.int a1)) (fun h1 =>
  some ((), h1))
set_option maxRecDepth 100000 in
set_option maxHeartbeats 4000000 in
theorem t_X1_drawFrom (a0 : Nat) (a1 : Int32) (h0 : zHp) : ∀ (r : Unit) (h' : zHp), f_X1_drawFrom a0 a1 h0 = some (r, h') → zCt yX1_drawFrom (.code yX1_drawFrom cX1_drawFrom 2 none) 1 60 0 0 [.ref a0, .int a1] h0 (none) h' := by
  refine zct_of M_X1_drawFrom yX1_drawFrom (by decide) rfl rfl [.ref a0, .int a1] h0 (Nat.le_of_ble_eq_true rfl) (fun _ => none) (fun X => ?_)
  show zG X M_X1_drawFrom (0, 0) 0 [(0, .ref a0), (1, .int a1)] [] h0 (f_X1_drawFrom a0 a1 h0) (fun (_ : Unit) h' => zKe X (none) h')
  unfold f_X1_drawFrom
  refine zg_aload_n 0 rfl d_X1_drawFrom_0 ?_
  refine zg_iload_n 1 rfl d_X1_drawFrom_1 ?_
  refine zg_putV d_X1_drawFrom_2 zc_1 (by decide) fl_X1_135 rfl rfl rfl (fun h1 => ?_)
  exact zg_vretK d_X1_drawFrom_5 rfl ⟨Nat.le_of_ble_eq_true rfl, Nat.le_of_ble_eq_true rfl⟩ (fun q => q)
abbrev M_X1_drawNumber : zMt := (RX1, cX1_drawNumber, 1, 1, 60, (some .int), "drawNumber", 0, 0)
theorem d_X1_drawNumber_0 : zDc M_X1_drawNumber 0 (.aload_n 0) 1 1 := ⟨by decide +kernel, rfl⟩
theorem d_X1_drawNumber_1 : zDc M_X1_drawNumber 1 (.aload_n 0) 1 2 := ⟨by decide +kernel, rfl⟩
theorem d_X1_drawNumber_2 : zDc M_X1_drawNumber 2 (.getfield 135) 3 5 := ⟨by decide +kernel, rfl⟩
theorem d_X1_drawNumber_5 : zDc M_X1_drawNumber 5 (.ldc 138) 2 7 := ⟨by decide +kernel, rfl⟩
theorem d_X1_drawNumber_7 : zDc M_X1_drawNumber 7 (.imul) 1 8 := ⟨by decide +kernel, rfl⟩
theorem d_X1_drawNumber_8 : zDc M_X1_drawNumber 8 (.sipush 12345) 3 11 := ⟨by decide +kernel, rfl⟩
theorem d_X1_drawNumber_11 : zDc M_X1_drawNumber 11 (.iadd) 1 12 := ⟨by decide +kernel, rfl⟩
theorem d_X1_drawNumber_12 : zDc M_X1_drawNumber 12 (.ldc 139) 2 14 := ⟨by decide +kernel, rfl⟩
theorem d_X1_drawNumber_14 : zDc M_X1_drawNumber 14 (.iand) 1 15 := ⟨by decide +kernel, rfl⟩
theorem d_X1_drawNumber_15 : zDc M_X1_drawNumber 15 (.putfield 135) 3 18 := ⟨by decide +kernel, rfl⟩
theorem d_X1_drawNumber_18 : zDc M_X1_drawNumber 18 (.aload_n 0) 1 19 := ⟨by decide +kernel, rfl⟩
theorem d_X1_drawNumber_19 : zDc M_X1_drawNumber 19 (.getfield 135) 3 22 := ⟨by decide +kernel, rfl⟩
theorem d_X1_drawNumber_22 : zDc M_X1_drawNumber 22 (.ldc 140) 2 24 := ⟨by decide +kernel, rfl⟩
theorem d_X1_drawNumber_24 : zDc M_X1_drawNumber 24 (.idiv) 1 25 := ⟨by decide +kernel, rfl⟩
theorem d_X1_drawNumber_25 : zDc M_X1_drawNumber 25 (.ireturn) 1 26 := ⟨by decide +kernel, rfl⟩
def f_X1_drawNumber (a0 : Nat) (h0 : zHp) : Option (Int32 × zHp) :=
  zob (zgI h0 a0 1 8) (fun v1 =>
  zob (zpV h0 a0 1 8 (.int (((v1 * 1103515245) + 12345) &&& 2147483647))) (fun h2 =>
  zob (zgI h2 a0 1 8) (fun v3 =>
  some ((v3 / 65536), h2))))
set_option maxRecDepth 100000 in
set_option maxHeartbeats 4000000 in
theorem t_X1_drawNumber (a0 : Nat) (h0 : zHp) : ∀ (r : Int32) (h' : zHp), f_X1_drawNumber a0 h0 = some (r, h') → zCt yX1_drawNumber (.code yX1_drawNumber cX1_drawNumber 1 (some .int)) 1 60 0 0 [.ref a0] h0 (some (.int r)) h' := by
  refine zct_of M_X1_drawNumber yX1_drawNumber (by decide) rfl rfl [.ref a0] h0 (Nat.le_of_ble_eq_true rfl) (fun r => some (.int r)) (fun X => ?_)
  show zG X M_X1_drawNumber (0, 0) 0 [(0, .ref a0)] [] h0 (f_X1_drawNumber a0 h0) (fun (r : Int32) h' => zKe X (some (.int r)) h')
  unfold f_X1_drawNumber
  refine zg_aload_n 0 rfl d_X1_drawNumber_0 ?_
  refine zg_aload_n 0 rfl d_X1_drawNumber_1 ?_
  refine zg_getI d_X1_drawNumber_2 zc_1 (by decide) fl_X1_135 (fun v1 => ?_)
  refine zg_ldc kc_X1_138 d_X1_drawNumber_5 ?_
  refine zg_imul d_X1_drawNumber_7 ?_
  refine zg_sipush 12345 rfl d_X1_drawNumber_8 ?_
  refine zg_iadd d_X1_drawNumber_11 ?_
  refine zg_ldc kc_X1_139 d_X1_drawNumber_12 ?_
  refine zg_iand d_X1_drawNumber_14 ?_
  refine zg_putV d_X1_drawNumber_15 zc_1 (by decide) fl_X1_135 rfl rfl rfl (fun h2 => ?_)
  refine zg_aload_n 0 rfl d_X1_drawNumber_18 ?_
  refine zg_getI d_X1_drawNumber_19 zc_1 (by decide) fl_X1_135 (fun v3 => ?_)
  refine zg_ldc kc_X1_140 d_X1_drawNumber_22 ?_
  refine zg_idiv (by decide) d_X1_drawNumber_24 ?_
  exact zg_iretK d_X1_drawNumber_25 rfl ⟨Nat.le_of_ble_eq_true rfl, Nat.le_of_ble_eq_true rfl⟩ (fun q => q)
abbrev M_X5_copyFrom : zMt := (RX5, cX5_copyFrom, 3, 1, 60, none, "copyFrom", 0, 0)
theorem d_X5_copyFrom_0 : zDc M_X5_copyFrom 0 (.aload_n 0) 1 1 := ⟨by decide +kernel, rfl⟩
theorem d_X5_copyFrom_1 : zDc M_X5_copyFrom 1 (.aload_n 1) 1 2 := ⟨by decide +kernel, rfl⟩
theorem d_X5_copyFrom_2 : zDc M_X5_copyFrom 2 (.getfield 50) 3 5 := ⟨by decide +kernel, rfl⟩
theorem d_X5_copyFrom_5 : zDc M_X5_copyFrom 5 (.putfield 50) 3 8 := ⟨by decide +kernel, rfl⟩
theorem d_X5_copyFrom_8 : zDc M_X5_copyFrom 8 (.aload_n 0) 1 9 := ⟨by decide +kernel, rfl⟩
theorem d_X5_copyFrom_9 : zDc M_X5_copyFrom 9 (.aload_n 1) 1 10 := ⟨by decide +kernel, rfl⟩
theorem d_X5_copyFrom_10 : zDc M_X5_copyFrom 10 (.getfield 58) 3 13 := ⟨by decide +kernel, rfl⟩
theorem d_X5_copyFrom_13 : zDc M_X5_copyFrom 13 (.putfield 58) 3 16 := ⟨by decide +kernel, rfl⟩
theorem d_X5_copyFrom_16 : zDc M_X5_copyFrom 16 (.aload_n 0) 1 17 := ⟨by decide +kernel, rfl⟩
theorem d_X5_copyFrom_17 : zDc M_X5_copyFrom 17 (.aload_n 1) 1 18 := ⟨by decide +kernel, rfl⟩
theorem d_X5_copyFrom_18 : zDc M_X5_copyFrom 18 (.getfield 54) 3 21 := ⟨by decide +kernel, rfl⟩
theorem d_X5_copyFrom_21 : zDc M_X5_copyFrom 21 (.putfield 54) 3 24 := ⟨by decide +kernel, rfl⟩
theorem d_X5_copyFrom_24 : zDc M_X5_copyFrom 24 (.aload_n 0) 1 25 := ⟨by decide +kernel, rfl⟩
theorem d_X5_copyFrom_25 : zDc M_X5_copyFrom 25 (.aload_n 1) 1 26 := ⟨by decide +kernel, rfl⟩
theorem d_X5_copyFrom_26 : zDc M_X5_copyFrom 26 (.getfield 61) 3 29 := ⟨by decide +kernel, rfl⟩
theorem d_X5_copyFrom_29 : zDc M_X5_copyFrom 29 (.putfield 61) 3 32 := ⟨by decide +kernel, rfl⟩
theorem d_X5_copyFrom_32 : zDc M_X5_copyFrom 32 (.aload_n 1) 1 33 := ⟨by decide +kernel, rfl⟩
theorem d_X5_copyFrom_33 : zDc M_X5_copyFrom 33 (.getfield 9) 3 36 := ⟨by decide +kernel, rfl⟩
theorem d_X5_copyFrom_36 : zDc M_X5_copyFrom 36 (.iconst 0) 1 37 := ⟨by decide +kernel, rfl⟩
theorem d_X5_copyFrom_37 : zDc M_X5_copyFrom 37 (.aload_n 0) 1 38 := ⟨by decide +kernel, rfl⟩
theorem d_X5_copyFrom_38 : zDc M_X5_copyFrom 38 (.getfield 9) 3 41 := ⟨by decide +kernel, rfl⟩
theorem d_X5_copyFrom_41 : zDc M_X5_copyFrom 41 (.iconst 0) 1 42 := ⟨by decide +kernel, rfl⟩
theorem d_X5_copyFrom_42 : zDc M_X5_copyFrom 42 (.bipush 8) 2 44 := ⟨by decide +kernel, rfl⟩
theorem d_X5_copyFrom_44 : zDc M_X5_copyFrom 44 (.invokestatic 75) 3 47 := ⟨by decide +kernel, rfl⟩
theorem d_X5_copyFrom_47 : zDc M_X5_copyFrom 47 (.aload_n 1) 1 48 := ⟨by decide +kernel, rfl⟩
theorem d_X5_copyFrom_48 : zDc M_X5_copyFrom 48 (.getfield 15) 3 51 := ⟨by decide +kernel, rfl⟩
theorem d_X5_copyFrom_51 : zDc M_X5_copyFrom 51 (.iconst 0) 1 52 := ⟨by decide +kernel, rfl⟩
theorem d_X5_copyFrom_52 : zDc M_X5_copyFrom 52 (.aload_n 0) 1 53 := ⟨by decide +kernel, rfl⟩
theorem d_X5_copyFrom_53 : zDc M_X5_copyFrom 53 (.getfield 15) 3 56 := ⟨by decide +kernel, rfl⟩
theorem d_X5_copyFrom_56 : zDc M_X5_copyFrom 56 (.iconst 0) 1 57 := ⟨by decide +kernel, rfl⟩
theorem d_X5_copyFrom_57 : zDc M_X5_copyFrom 57 (.bipush 8) 2 59 := ⟨by decide +kernel, rfl⟩
theorem d_X5_copyFrom_59 : zDc M_X5_copyFrom 59 (.invokestatic 75) 3 62 := ⟨by decide +kernel, rfl⟩
theorem d_X5_copyFrom_62 : zDc M_X5_copyFrom 62 (.aload_n 1) 1 63 := ⟨by decide +kernel, rfl⟩
theorem d_X5_copyFrom_63 : zDc M_X5_copyFrom 63 (.getfield 18) 3 66 := ⟨by decide +kernel, rfl⟩
theorem d_X5_copyFrom_66 : zDc M_X5_copyFrom 66 (.iconst 0) 1 67 := ⟨by decide +kernel, rfl⟩
theorem d_X5_copyFrom_67 : zDc M_X5_copyFrom 67 (.aload_n 0) 1 68 := ⟨by decide +kernel, rfl⟩
theorem d_X5_copyFrom_68 : zDc M_X5_copyFrom 68 (.getfield 18) 3 71 := ⟨by decide +kernel, rfl⟩
theorem d_X5_copyFrom_71 : zDc M_X5_copyFrom 71 (.iconst 0) 1 72 := ⟨by decide +kernel, rfl⟩
theorem d_X5_copyFrom_72 : zDc M_X5_copyFrom 72 (.bipush 8) 2 74 := ⟨by decide +kernel, rfl⟩
theorem d_X5_copyFrom_74 : zDc M_X5_copyFrom 74 (.invokestatic 75) 3 77 := ⟨by decide +kernel, rfl⟩
theorem d_X5_copyFrom_77 : zDc M_X5_copyFrom 77 (.aload_n 1) 1 78 := ⟨by decide +kernel, rfl⟩
theorem d_X5_copyFrom_78 : zDc M_X5_copyFrom 78 (.getfield 21) 3 81 := ⟨by decide +kernel, rfl⟩
theorem d_X5_copyFrom_81 : zDc M_X5_copyFrom 81 (.iconst 0) 1 82 := ⟨by decide +kernel, rfl⟩
theorem d_X5_copyFrom_82 : zDc M_X5_copyFrom 82 (.aload_n 0) 1 83 := ⟨by decide +kernel, rfl⟩
theorem d_X5_copyFrom_83 : zDc M_X5_copyFrom 83 (.getfield 21) 3 86 := ⟨by decide +kernel, rfl⟩
theorem d_X5_copyFrom_86 : zDc M_X5_copyFrom 86 (.iconst 0) 1 87 := ⟨by decide +kernel, rfl⟩
theorem d_X5_copyFrom_87 : zDc M_X5_copyFrom 87 (.bipush 8) 2 89 := ⟨by decide +kernel, rfl⟩
theorem d_X5_copyFrom_89 : zDc M_X5_copyFrom 89 (.invokestatic 75) 3 92 := ⟨by decide +kernel, rfl⟩
theorem d_X5_copyFrom_92 : zDc M_X5_copyFrom 92 (.aload_n 1) 1 93 := ⟨by decide +kernel, rfl⟩
theorem d_X5_copyFrom_93 : zDc M_X5_copyFrom 93 (.getfield 24) 3 96 := ⟨by decide +kernel, rfl⟩
theorem d_X5_copyFrom_96 : zDc M_X5_copyFrom 96 (.iconst 0) 1 97 := ⟨by decide +kernel, rfl⟩
theorem d_X5_copyFrom_97 : zDc M_X5_copyFrom 97 (.aload_n 0) 1 98 := ⟨by decide +kernel, rfl⟩
theorem d_X5_copyFrom_98 : zDc M_X5_copyFrom 98 (.getfield 24) 3 101 := ⟨by decide +kernel, rfl⟩
theorem d_X5_copyFrom_101 : zDc M_X5_copyFrom 101 (.iconst 0) 1 102 := ⟨by decide +kernel, rfl⟩
theorem d_X5_copyFrom_102 : zDc M_X5_copyFrom 102 (.bipush 8) 2 104 := ⟨by decide +kernel, rfl⟩
theorem d_X5_copyFrom_104 : zDc M_X5_copyFrom 104 (.invokestatic 75) 3 107 := ⟨by decide +kernel, rfl⟩
theorem d_X5_copyFrom_107 : zDc M_X5_copyFrom 107 (.aload_n 1) 1 108 := ⟨by decide +kernel, rfl⟩
theorem d_X5_copyFrom_108 : zDc M_X5_copyFrom 108 (.getfield 27) 3 111 := ⟨by decide +kernel, rfl⟩
theorem d_X5_copyFrom_111 : zDc M_X5_copyFrom 111 (.iconst 0) 1 112 := ⟨by decide +kernel, rfl⟩
theorem d_X5_copyFrom_112 : zDc M_X5_copyFrom 112 (.aload_n 0) 1 113 := ⟨by decide +kernel, rfl⟩
theorem d_X5_copyFrom_113 : zDc M_X5_copyFrom 113 (.getfield 27) 3 116 := ⟨by decide +kernel, rfl⟩
theorem d_X5_copyFrom_116 : zDc M_X5_copyFrom 116 (.iconst 0) 1 117 := ⟨by decide +kernel, rfl⟩
theorem d_X5_copyFrom_117 : zDc M_X5_copyFrom 117 (.bipush 8) 2 119 := ⟨by decide +kernel, rfl⟩
theorem d_X5_copyFrom_119 : zDc M_X5_copyFrom 119 (.invokestatic 75) 3 122 := ⟨by decide +kernel, rfl⟩
theorem d_X5_copyFrom_122 : zDc M_X5_copyFrom 122 (.aload_n 1) 1 123 := ⟨by decide +kernel, rfl⟩
theorem d_X5_copyFrom_123 : zDc M_X5_copyFrom 123 (.getfield 30) 3 126 := ⟨by decide +kernel, rfl⟩
theorem d_X5_copyFrom_126 : zDc M_X5_copyFrom 126 (.iconst 0) 1 127 := ⟨by decide +kernel, rfl⟩
theorem d_X5_copyFrom_127 : zDc M_X5_copyFrom 127 (.aload_n 0) 1 128 := ⟨by decide +kernel, rfl⟩
theorem d_X5_copyFrom_128 : zDc M_X5_copyFrom 128 (.getfield 30) 3 131 := ⟨by decide +kernel, rfl⟩
theorem d_X5_copyFrom_131 : zDc M_X5_copyFrom 131 (.iconst 0) 1 132 := ⟨by decide +kernel, rfl⟩
theorem d_X5_copyFrom_132 : zDc M_X5_copyFrom 132 (.bipush 6) 2 134 := ⟨by decide +kernel, rfl⟩
theorem d_X5_copyFrom_134 : zDc M_X5_copyFrom 134 (.invokestatic 75) 3 137 := ⟨by decide +kernel, rfl⟩
theorem d_X5_copyFrom_137 : zDc M_X5_copyFrom 137 (.aload_n 1) 1 138 := ⟨by decide +kernel, rfl⟩
theorem d_X5_copyFrom_138 : zDc M_X5_copyFrom 138 (.getfield 33) 3 141 := ⟨by decide +kernel, rfl⟩
theorem d_X5_copyFrom_141 : zDc M_X5_copyFrom 141 (.iconst 0) 1 142 := ⟨by decide +kernel, rfl⟩
theorem d_X5_copyFrom_142 : zDc M_X5_copyFrom 142 (.aload_n 0) 1 143 := ⟨by decide +kernel, rfl⟩
theorem d_X5_copyFrom_143 : zDc M_X5_copyFrom 143 (.getfield 33) 3 146 := ⟨by decide +kernel, rfl⟩
theorem d_X5_copyFrom_146 : zDc M_X5_copyFrom 146 (.iconst 0) 1 147 := ⟨by decide +kernel, rfl⟩
theorem d_X5_copyFrom_147 : zDc M_X5_copyFrom 147 (.bipush 6) 2 149 := ⟨by decide +kernel, rfl⟩
theorem d_X5_copyFrom_149 : zDc M_X5_copyFrom 149 (.invokestatic 75) 3 152 := ⟨by decide +kernel, rfl⟩
theorem d_X5_copyFrom_152 : zDc M_X5_copyFrom 152 (.aload_n 1) 1 153 := ⟨by decide +kernel, rfl⟩
theorem d_X5_copyFrom_153 : zDc M_X5_copyFrom 153 (.getfield 36) 3 156 := ⟨by decide +kernel, rfl⟩
theorem d_X5_copyFrom_156 : zDc M_X5_copyFrom 156 (.iconst 0) 1 157 := ⟨by decide +kernel, rfl⟩
theorem d_X5_copyFrom_157 : zDc M_X5_copyFrom 157 (.aload_n 0) 1 158 := ⟨by decide +kernel, rfl⟩
theorem d_X5_copyFrom_158 : zDc M_X5_copyFrom 158 (.getfield 36) 3 161 := ⟨by decide +kernel, rfl⟩
theorem d_X5_copyFrom_161 : zDc M_X5_copyFrom 161 (.iconst 0) 1 162 := ⟨by decide +kernel, rfl⟩
theorem d_X5_copyFrom_162 : zDc M_X5_copyFrom 162 (.bipush 6) 2 164 := ⟨by decide +kernel, rfl⟩
theorem d_X5_copyFrom_164 : zDc M_X5_copyFrom 164 (.invokestatic 75) 3 167 := ⟨by decide +kernel, rfl⟩
theorem d_X5_copyFrom_167 : zDc M_X5_copyFrom 167 (.aload_n 1) 1 168 := ⟨by decide +kernel, rfl⟩
theorem d_X5_copyFrom_168 : zDc M_X5_copyFrom 168 (.getfield 39) 3 171 := ⟨by decide +kernel, rfl⟩
theorem d_X5_copyFrom_171 : zDc M_X5_copyFrom 171 (.iconst 0) 1 172 := ⟨by decide +kernel, rfl⟩
theorem d_X5_copyFrom_172 : zDc M_X5_copyFrom 172 (.aload_n 0) 1 173 := ⟨by decide +kernel, rfl⟩
theorem d_X5_copyFrom_173 : zDc M_X5_copyFrom 173 (.getfield 39) 3 176 := ⟨by decide +kernel, rfl⟩
theorem d_X5_copyFrom_176 : zDc M_X5_copyFrom 176 (.iconst 0) 1 177 := ⟨by decide +kernel, rfl⟩
theorem d_X5_copyFrom_177 : zDc M_X5_copyFrom 177 (.iconst 5) 1 178 := ⟨by decide +kernel, rfl⟩
theorem d_X5_copyFrom_178 : zDc M_X5_copyFrom 178 (.invokestatic 75) 3 181 := ⟨by decide +kernel, rfl⟩
theorem d_X5_copyFrom_181 : zDc M_X5_copyFrom 181 (.iconst 0) 1 182 := ⟨by decide +kernel, rfl⟩
theorem d_X5_copyFrom_182 : zDc M_X5_copyFrom 182 (.istore_n 2) 1 183 := ⟨by decide +kernel, rfl⟩
theorem d_X5_copyFrom_183 : zDc M_X5_copyFrom 183 (.iload_n 2) 1 184 := ⟨by decide +kernel, rfl⟩
theorem d_X5_copyFrom_184 : zDc M_X5_copyFrom 184 (.bipush 6) 2 186 := ⟨by decide +kernel, rfl⟩
theorem d_X5_copyFrom_186 : zDj M_X5_copyFrom 186 (.if_icmp .ge 27) 27 189 213 := ⟨by decide +kernel, rfl, by decide⟩
theorem d_X5_copyFrom_189 : zDc M_X5_copyFrom 189 (.aload_n 1) 1 190 := ⟨by decide +kernel, rfl⟩
theorem d_X5_copyFrom_190 : zDc M_X5_copyFrom 190 (.getfield 44) 3 193 := ⟨by decide +kernel, rfl⟩
theorem d_X5_copyFrom_193 : zDc M_X5_copyFrom 193 (.iload_n 2) 1 194 := ⟨by decide +kernel, rfl⟩
theorem d_X5_copyFrom_194 : zDc M_X5_copyFrom 194 (.aaload) 1 195 := ⟨by decide +kernel, rfl⟩
theorem d_X5_copyFrom_195 : zDc M_X5_copyFrom 195 (.iconst 0) 1 196 := ⟨by decide +kernel, rfl⟩
theorem d_X5_copyFrom_196 : zDc M_X5_copyFrom 196 (.aload_n 0) 1 197 := ⟨by decide +kernel, rfl⟩
theorem d_X5_copyFrom_197 : zDc M_X5_copyFrom 197 (.getfield 44) 3 200 := ⟨by decide +kernel, rfl⟩
theorem d_X5_copyFrom_200 : zDc M_X5_copyFrom 200 (.iload_n 2) 1 201 := ⟨by decide +kernel, rfl⟩
theorem d_X5_copyFrom_201 : zDc M_X5_copyFrom 201 (.aaload) 1 202 := ⟨by decide +kernel, rfl⟩
theorem d_X5_copyFrom_202 : zDc M_X5_copyFrom 202 (.iconst 0) 1 203 := ⟨by decide +kernel, rfl⟩
theorem d_X5_copyFrom_203 : zDc M_X5_copyFrom 203 (.iconst 5) 1 204 := ⟨by decide +kernel, rfl⟩
theorem d_X5_copyFrom_204 : zDc M_X5_copyFrom 204 (.invokestatic 75) 3 207 := ⟨by decide +kernel, rfl⟩
theorem d_X5_copyFrom_207 : zDc M_X5_copyFrom 207 (.iinc 2 1) 3 210 := ⟨by decide +kernel, rfl⟩
theorem d_X5_copyFrom_210 : zDj M_X5_copyFrom 210 (.goto (-27)) (-27) 213 183 := ⟨by decide +kernel, rfl, by decide⟩
theorem d_X5_copyFrom_213 : zDc M_X5_copyFrom 213 (.return_) 1 214 := ⟨by decide +kernel, rfl⟩
def f_X5_copyFrom (a0 : Nat) (a1 : Nat) (h0 : zHp) : Option (Unit × zHp) :=
  zob (zgR h0 a1 5 14) (fun v1 =>
  zob (zpV h0 a0 5 14 (.ref v1)) (fun h2 =>
  zob (zgI h2 a1 5 11) (fun v3 =>
  zob (zpV h2 a0 5 11 (.int v3)) (fun h4 =>
  zob (zgI h4 a1 5 12) (fun v5 =>
  zob (zpV h4 a0 5 12 (.int v5)) (fun h6 =>
  zob (zgI h6 a1 5 13) (fun v7 =>
  zob (zpV h6 a0 5 13 (.int v7)) (fun h8 =>
  zob (zgR h8 a1 5 0) (fun v9 =>
  zob (zgR h8 a0 5 0) (fun v10 =>
  zob (zcp h8 v9 0 v10 0 8) (fun h11 =>
  zob (zgR h11 a1 5 1) (fun v12 =>
  zob (zgR h11 a0 5 1) (fun v13 =>
  zob (zcp h11 v12 0 v13 0 8) (fun h14 =>
  zob (zgR h14 a1 5 2) (fun v15 =>
  zob (zgR h14 a0 5 2) (fun v16 =>
  zob (zcp h14 v15 0 v16 0 8) (fun h17 =>
  zob (zgR h17 a1 5 3) (fun v18 =>
  zob (zgR h17 a0 5 3) (fun v19 =>
  zob (zcp h17 v18 0 v19 0 8) (fun h20 =>
  zob (zgR h20 a1 5 4) (fun v21 =>
  zob (zgR h20 a0 5 4) (fun v22 =>
  zob (zcp h20 v21 0 v22 0 8) (fun h23 =>
  zob (zgR h23 a1 5 5) (fun v24 =>
  zob (zgR h23 a0 5 5) (fun v25 =>
  zob (zcp h23 v24 0 v25 0 8) (fun h26 =>
  zob (zgR h26 a1 5 6) (fun v27 =>
  zob (zgR h26 a0 5 6) (fun v28 =>
  zob (zcp h26 v27 0 v28 0 6) (fun h29 =>
  zob (zgR h29 a1 5 7) (fun v30 =>
  zob (zgR h29 a0 5 7) (fun v31 =>
  zob (zcp h29 v30 0 v31 0 6) (fun h32 =>
  zob (zgR h32 a1 5 8) (fun v33 =>
  zob (zgR h32 a0 5 8) (fun v34 =>
  zob (zcp h32 v33 0 v34 0 6) (fun h35 =>
  zob (zgR h35 a1 5 9) (fun v36 =>
  zob (zgR h35 a0 5 9) (fun v37 =>
  zob (zcp h35 v36 0 v37 0 5) (fun h38 =>
  zbd (
  zlp (σ := Int32) (β := Int32) zLF (fun s39 h40 =>
  if 6 ≤ s39 then
  some ((.inr s39), h40)
  else
  zob (zgR h40 a1 5 10) (fun v43 =>
  zob (zaA 5 h40 v43 s39) (fun v44 =>
  zob (zgR h40 a0 5 10) (fun v45 =>
  zob (zaA 5 h40 v45 s39) (fun v46 =>
  zob (zcp h40 v44 0 v46 0 5) (fun h47 =>
  some ((.inl (s39 + 1)), h47))))))) 0 h38) (fun e41 h42 =>
  some ((), h42))))))))))))))))))))))))))))))))))))))))
set_option maxRecDepth 100000 in
set_option maxHeartbeats 4000000 in
theorem t_X5_copyFrom (a0 : Nat) (a1 : Nat) (h0 : zHp) : ∀ (r : Unit) (h' : zHp), f_X5_copyFrom a0 a1 h0 = some (r, h') → zCt yX5_copyFrom (.code yX5_copyFrom cX5_copyFrom 3 none) 1 60 0 0 [.ref a0, .ref a1] h0 (none) h' := by
  refine zct_of M_X5_copyFrom yX5_copyFrom (by decide) rfl rfl [.ref a0, .ref a1] h0 (Nat.le_of_ble_eq_true rfl) (fun _ => none) (fun X => ?_)
  show zG X M_X5_copyFrom (0, 0) 0 [(0, .ref a0), (1, .ref a1)] [] h0 (f_X5_copyFrom a0 a1 h0) (fun (_ : Unit) h' => zKe X (none) h')
  unfold f_X5_copyFrom
  refine zg_aload_n 0 rfl d_X5_copyFrom_0 ?_
  refine zg_aload_n 1 rfl d_X5_copyFrom_1 ?_
  refine zg_getR d_X5_copyFrom_2 zc_5 (by decide) fl_X5_50 (fun v1 => ?_)
  refine zg_putV d_X5_copyFrom_5 zc_5 (by decide) fl_X5_50 rfl rfl rfl (fun h2 => ?_)
  refine zg_aload_n 0 rfl d_X5_copyFrom_8 ?_
  refine zg_aload_n 1 rfl d_X5_copyFrom_9 ?_
  refine zg_getI d_X5_copyFrom_10 zc_5 (by decide) fl_X5_58 (fun v3 => ?_)
  refine zg_putV d_X5_copyFrom_13 zc_5 (by decide) fl_X5_58 rfl rfl rfl (fun h4 => ?_)
  refine zg_aload_n 0 rfl d_X5_copyFrom_16 ?_
  refine zg_aload_n 1 rfl d_X5_copyFrom_17 ?_
  refine zg_getI d_X5_copyFrom_18 zc_5 (by decide) fl_X5_54 (fun v5 => ?_)
  refine zg_putV d_X5_copyFrom_21 zc_5 (by decide) fl_X5_54 rfl rfl rfl (fun h6 => ?_)
  refine zg_aload_n 0 rfl d_X5_copyFrom_24 ?_
  refine zg_aload_n 1 rfl d_X5_copyFrom_25 ?_
  refine zg_getI d_X5_copyFrom_26 zc_5 (by decide) fl_X5_61 (fun v7 => ?_)
  refine zg_putV d_X5_copyFrom_29 zc_5 (by decide) fl_X5_61 rfl rfl rfl (fun h8 => ?_)
  refine zg_aload_n 1 rfl d_X5_copyFrom_32 ?_
  refine zg_getR d_X5_copyFrom_33 zc_5 (by decide) fl_X5_9 (fun v9 => ?_)
  refine zg_iconst 0 rfl d_X5_copyFrom_36 ?_
  refine zg_aload_n 0 rfl d_X5_copyFrom_37 ?_
  refine zg_getR d_X5_copyFrom_38 zc_5 (by decide) fl_X5_9 (fun v10 => ?_)
  refine zg_iconst 0 rfl d_X5_copyFrom_41 ?_
  refine zg_bipush 8 rfl d_X5_copyFrom_42 ?_
  refine zg_copy d_X5_copyFrom_44 ml_X5_75 wn_copy wt_copy wi_System (by decide) (Nat.le_of_ble_eq_true rfl) (fun h11 => ?_)
  refine zg_aload_n 1 rfl d_X5_copyFrom_47 ?_
  refine zg_getR d_X5_copyFrom_48 zc_5 (by decide) fl_X5_15 (fun v12 => ?_)
  refine zg_iconst 0 rfl d_X5_copyFrom_51 ?_
  refine zg_aload_n 0 rfl d_X5_copyFrom_52 ?_
  refine zg_getR d_X5_copyFrom_53 zc_5 (by decide) fl_X5_15 (fun v13 => ?_)
  refine zg_iconst 0 rfl d_X5_copyFrom_56 ?_
  refine zg_bipush 8 rfl d_X5_copyFrom_57 ?_
  refine zg_copy d_X5_copyFrom_59 ml_X5_75 wn_copy wt_copy wi_System (by decide) (Nat.le_of_ble_eq_true rfl) (fun h14 => ?_)
  refine zg_aload_n 1 rfl d_X5_copyFrom_62 ?_
  refine zg_getR d_X5_copyFrom_63 zc_5 (by decide) fl_X5_18 (fun v15 => ?_)
  refine zg_iconst 0 rfl d_X5_copyFrom_66 ?_
  refine zg_aload_n 0 rfl d_X5_copyFrom_67 ?_
  refine zg_getR d_X5_copyFrom_68 zc_5 (by decide) fl_X5_18 (fun v16 => ?_)
  refine zg_iconst 0 rfl d_X5_copyFrom_71 ?_
  refine zg_bipush 8 rfl d_X5_copyFrom_72 ?_
  refine zg_copy d_X5_copyFrom_74 ml_X5_75 wn_copy wt_copy wi_System (by decide) (Nat.le_of_ble_eq_true rfl) (fun h17 => ?_)
  refine zg_aload_n 1 rfl d_X5_copyFrom_77 ?_
  refine zg_getR d_X5_copyFrom_78 zc_5 (by decide) fl_X5_21 (fun v18 => ?_)
  refine zg_iconst 0 rfl d_X5_copyFrom_81 ?_
  refine zg_aload_n 0 rfl d_X5_copyFrom_82 ?_
  refine zg_getR d_X5_copyFrom_83 zc_5 (by decide) fl_X5_21 (fun v19 => ?_)
  refine zg_iconst 0 rfl d_X5_copyFrom_86 ?_
  refine zg_bipush 8 rfl d_X5_copyFrom_87 ?_
  refine zg_copy d_X5_copyFrom_89 ml_X5_75 wn_copy wt_copy wi_System (by decide) (Nat.le_of_ble_eq_true rfl) (fun h20 => ?_)
  refine zg_aload_n 1 rfl d_X5_copyFrom_92 ?_
  refine zg_getR d_X5_copyFrom_93 zc_5 (by decide) fl_X5_24 (fun v21 => ?_)
  refine zg_iconst 0 rfl d_X5_copyFrom_96 ?_
  refine zg_aload_n 0 rfl d_X5_copyFrom_97 ?_
  refine zg_getR d_X5_copyFrom_98 zc_5 (by decide) fl_X5_24 (fun v22 => ?_)
  refine zg_iconst 0 rfl d_X5_copyFrom_101 ?_
  refine zg_bipush 8 rfl d_X5_copyFrom_102 ?_
  refine zg_copy d_X5_copyFrom_104 ml_X5_75 wn_copy wt_copy wi_System (by decide) (Nat.le_of_ble_eq_true rfl) (fun h23 => ?_)
  refine zg_aload_n 1 rfl d_X5_copyFrom_107 ?_
  refine zg_getR d_X5_copyFrom_108 zc_5 (by decide) fl_X5_27 (fun v24 => ?_)
  refine zg_iconst 0 rfl d_X5_copyFrom_111 ?_
  refine zg_aload_n 0 rfl d_X5_copyFrom_112 ?_
  refine zg_getR d_X5_copyFrom_113 zc_5 (by decide) fl_X5_27 (fun v25 => ?_)
  refine zg_iconst 0 rfl d_X5_copyFrom_116 ?_
  refine zg_bipush 8 rfl d_X5_copyFrom_117 ?_
  refine zg_copy d_X5_copyFrom_119 ml_X5_75 wn_copy wt_copy wi_System (by decide) (Nat.le_of_ble_eq_true rfl) (fun h26 => ?_)
  refine zg_aload_n 1 rfl d_X5_copyFrom_122 ?_
  refine zg_getR d_X5_copyFrom_123 zc_5 (by decide) fl_X5_30 (fun v27 => ?_)
  refine zg_iconst 0 rfl d_X5_copyFrom_126 ?_
  refine zg_aload_n 0 rfl d_X5_copyFrom_127 ?_
  refine zg_getR d_X5_copyFrom_128 zc_5 (by decide) fl_X5_30 (fun v28 => ?_)
  refine zg_iconst 0 rfl d_X5_copyFrom_131 ?_
  refine zg_bipush 6 rfl d_X5_copyFrom_132 ?_
  refine zg_copy d_X5_copyFrom_134 ml_X5_75 wn_copy wt_copy wi_System (by decide) (Nat.le_of_ble_eq_true rfl) (fun h29 => ?_)
  refine zg_aload_n 1 rfl d_X5_copyFrom_137 ?_
  refine zg_getR d_X5_copyFrom_138 zc_5 (by decide) fl_X5_33 (fun v30 => ?_)
  refine zg_iconst 0 rfl d_X5_copyFrom_141 ?_
  refine zg_aload_n 0 rfl d_X5_copyFrom_142 ?_
  refine zg_getR d_X5_copyFrom_143 zc_5 (by decide) fl_X5_33 (fun v31 => ?_)
  refine zg_iconst 0 rfl d_X5_copyFrom_146 ?_
  refine zg_bipush 6 rfl d_X5_copyFrom_147 ?_
  refine zg_copy d_X5_copyFrom_149 ml_X5_75 wn_copy wt_copy wi_System (by decide) (Nat.le_of_ble_eq_true rfl) (fun h32 => ?_)
  refine zg_aload_n 1 rfl d_X5_copyFrom_152 ?_
  refine zg_getR d_X5_copyFrom_153 zc_5 (by decide) fl_X5_36 (fun v33 => ?_)
  refine zg_iconst 0 rfl d_X5_copyFrom_156 ?_
  refine zg_aload_n 0 rfl d_X5_copyFrom_157 ?_
  refine zg_getR d_X5_copyFrom_158 zc_5 (by decide) fl_X5_36 (fun v34 => ?_)
  refine zg_iconst 0 rfl d_X5_copyFrom_161 ?_
  refine zg_bipush 6 rfl d_X5_copyFrom_162 ?_
  refine zg_copy d_X5_copyFrom_164 ml_X5_75 wn_copy wt_copy wi_System (by decide) (Nat.le_of_ble_eq_true rfl) (fun h35 => ?_)
  refine zg_aload_n 1 rfl d_X5_copyFrom_167 ?_
  refine zg_getR d_X5_copyFrom_168 zc_5 (by decide) fl_X5_39 (fun v36 => ?_)
  refine zg_iconst 0 rfl d_X5_copyFrom_171 ?_
  refine zg_aload_n 0 rfl d_X5_copyFrom_172 ?_
  refine zg_getR d_X5_copyFrom_173 zc_5 (by decide) fl_X5_39 (fun v37 => ?_)
  refine zg_iconst 0 rfl d_X5_copyFrom_176 ?_
  refine zg_iconst 5 rfl d_X5_copyFrom_177 ?_
  refine zg_copy d_X5_copyFrom_178 ml_X5_75 wn_copy wt_copy wi_System (by decide) (Nat.le_of_ble_eq_true rfl) (fun h38 => ?_)
  refine zg_iconst 0 rfl d_X5_copyFrom_181 ?_
  refine zg_istore_n [(2, .int 0), (0, .ref a0), (1, .ref a1)] d_X5_copyFrom_182 rfl (by decide) rfl ?_
  refine zg_bd (E := 213) (el := (fun (e41 : Int32) => [(0, .ref a0), (1, .ref a1), (2, .int e41)])) (es := fun _ => []) (zg_sub [1, 2, 0] rfl (zg_lp (el := (fun (s39 : Int32) => [(0, .ref a0), (1, .ref a1), (2, .int s39)])) (fun s39 h40 => ?_) 0 h38)) (fun e41 h42 => ?_)
  · refine zg_iload_n 2 rfl d_X5_copyFrom_183 ?_
    refine zg_bipush 6 rfl d_X5_copyFrom_184 ?_
    refine zg_icmp_ge d_X5_copyFrom_186 ?_ ?_
    · exact zg_finK (E := 0) [0, 1, 2] rfl rfl (fun q => q)
    · refine zg_aload_n 1 rfl d_X5_copyFrom_189 ?_
      refine zg_getR d_X5_copyFrom_190 zc_5 (by decide) fl_X5_44 (fun v43 => ?_)
      refine zg_iload_n 2 rfl d_X5_copyFrom_193 ?_
      refine zg_ald5 d_X5_copyFrom_194 (fun v44 => ?_)
      refine zg_iconst 0 rfl d_X5_copyFrom_195 ?_
      refine zg_aload_n 0 rfl d_X5_copyFrom_196 ?_
      refine zg_getR d_X5_copyFrom_197 zc_5 (by decide) fl_X5_44 (fun v45 => ?_)
      refine zg_iload_n 2 rfl d_X5_copyFrom_200 ?_
      refine zg_ald5 d_X5_copyFrom_201 (fun v46 => ?_)
      refine zg_iconst 0 rfl d_X5_copyFrom_202 ?_
      refine zg_iconst 5 rfl d_X5_copyFrom_203 ?_
      refine zg_copy d_X5_copyFrom_204 ml_X5_75 wn_copy wt_copy wi_System (by decide) (Nat.le_of_ble_eq_true rfl) (fun h47 => ?_)
      refine zg_iinc 2 (s39 + 1) [(2, .int (s39 + 1)), (0, .ref a0), (1, .ref a1)] d_X5_copyFrom_207 rfl rfl (by decide) rfl ?_
      refine zg_goto d_X5_copyFrom_210 ?_
      exact zg_finK (E := 0) [1, 2, 0] rfl rfl (fun q => q)
  · exact zg_vretK d_X5_copyFrom_213 rfl ⟨Nat.le_of_ble_eq_true rfl, Nat.le_of_ble_eq_true rfl⟩ (fun q => q)
abbrev M_X5_lacksRain : zMt := (RX5, cX5_lacksRain, 2, 1, 60, (some .boolean), "lacksRain", 0, 0)
theorem d_X5_lacksRain_0 : zDc M_X5_lacksRain 0 (.aload_n 0) 1 1 := ⟨by decide +kernel, rfl⟩
theorem d_X5_lacksRain_1 : zDc M_X5_lacksRain 1 (.getfield 39) 3 4 := ⟨by decide +kernel, rfl⟩
theorem d_X5_lacksRain_4 : zDc M_X5_lacksRain 4 (.iload_n 1) 1 5 := ⟨by decide +kernel, rfl⟩
theorem d_X5_lacksRain_5 : zDc M_X5_lacksRain 5 (.iaload) 1 6 := ⟨by decide +kernel, rfl⟩
theorem d_X5_lacksRain_6 : zDc M_X5_lacksRain 6 (.aload_n 0) 1 7 := ⟨by decide +kernel, rfl⟩
theorem d_X5_lacksRain_7 : zDc M_X5_lacksRain 7 (.getfield 50) 3 10 := ⟨by decide +kernel, rfl⟩
theorem d_X5_lacksRain_10 : zDc M_X5_lacksRain 10 (.getfield 120) 3 13 := ⟨by decide +kernel, rfl⟩
theorem d_X5_lacksRain_13 : zDc M_X5_lacksRain 13 (.iload_n 1) 1 14 := ⟨by decide +kernel, rfl⟩
theorem d_X5_lacksRain_14 : zDc M_X5_lacksRain 14 (.iaload) 1 15 := ⟨by decide +kernel, rfl⟩
theorem d_X5_lacksRain_15 : zDj M_X5_lacksRain 15 (.if_icmp .ge 7) 7 18 22 := ⟨by decide +kernel, rfl, by decide⟩
theorem d_X5_lacksRain_18 : zDc M_X5_lacksRain 18 (.iconst 1) 1 19 := ⟨by decide +kernel, rfl⟩
theorem d_X5_lacksRain_19 : zDj M_X5_lacksRain 19 (.goto 4) 4 22 23 := ⟨by decide +kernel, rfl, by decide⟩
theorem d_X5_lacksRain_22 : zDc M_X5_lacksRain 22 (.iconst 0) 1 23 := ⟨by decide +kernel, rfl⟩
theorem d_X5_lacksRain_23 : zDc M_X5_lacksRain 23 (.ireturn) 1 24 := ⟨by decide +kernel, rfl⟩
def f_X5_lacksRain (a0 : Nat) (a1 : Int32) (h0 : zHp) : Option (Int32 × zHp) :=
  zob (zgR h0 a0 5 9) (fun v1 =>
  zob (zaI 0 h0 v1 a1) (fun v2 =>
  zob (zgR h0 a0 5 14) (fun v3 =>
  zob (zgR h0 v3 6 3) (fun v4 =>
  zob (zaI 0 h0 v4 a1) (fun v5 =>
  if v5 ≤ v2 then
  some (0, h0)
  else
  some (1, h0))))))
set_option maxRecDepth 100000 in
set_option maxHeartbeats 4000000 in
theorem t_X5_lacksRain (a0 : Nat) (a1 : Int32) (h0 : zHp) : ∀ (r : Int32) (h' : zHp), f_X5_lacksRain a0 a1 h0 = some (r, h') → zCt yX5_lacksRain (.code yX5_lacksRain cX5_lacksRain 2 (some .boolean)) 1 60 0 0 [.ref a0, .int a1] h0 (some (.int r)) h' := by
  refine zct_of M_X5_lacksRain yX5_lacksRain (by decide) rfl rfl [.ref a0, .int a1] h0 (Nat.le_of_ble_eq_true rfl) (fun r => some (.int r)) (fun X => ?_)
  show zG X M_X5_lacksRain (0, 0) 0 [(0, .ref a0), (1, .int a1)] [] h0 (f_X5_lacksRain a0 a1 h0) (fun (r : Int32) h' => zKe X (some (.int r)) h')
  unfold f_X5_lacksRain
  refine zg_aload_n 0 rfl d_X5_lacksRain_0 ?_
  refine zg_getR d_X5_lacksRain_1 zc_5 (by decide) fl_X5_39 (fun v1 => ?_)
  refine zg_iload_n 1 rfl d_X5_lacksRain_4 ?_
  refine zg_ald0 d_X5_lacksRain_5 (fun v2 => ?_)
  refine zg_aload_n 0 rfl d_X5_lacksRain_6 ?_
  refine zg_getR d_X5_lacksRain_7 zc_5 (by decide) fl_X5_50 (fun v3 => ?_)
  refine zg_getR d_X5_lacksRain_10 zc_6 (by decide) fl_X5_120 (fun v4 => ?_)
  refine zg_iload_n 1 rfl d_X5_lacksRain_13 ?_
  refine zg_ald0 d_X5_lacksRain_14 (fun v5 => ?_)
  refine zg_icmp_ge d_X5_lacksRain_15 ?_ ?_
  · refine zg_iconst 0 rfl d_X5_lacksRain_22 ?_
    exact zg_zretK d_X5_lacksRain_23 rfl ⟨Nat.le_of_ble_eq_true rfl, Nat.le_of_ble_eq_true rfl⟩ (Or.inl rfl) (fun q => q)
  · refine zg_iconst 1 rfl d_X5_lacksRain_18 ?_
    refine zg_goto d_X5_lacksRain_19 ?_
    exact zg_zretK d_X5_lacksRain_23 rfl ⟨Nat.le_of_ble_eq_true rfl, Nat.le_of_ble_eq_true rfl⟩ (Or.inr rfl) (fun q => q)
abbrev M_X1_hoursUntilEnough : zMt := (RX1, cX1_hoursUntilEnough, 4, 6, 183, (some .int), "hoursUntilEnough", 0, 0)
theorem d_X1_hoursUntilEnough_0 : zDc M_X1_hoursUntilEnough 0 (.aload_n 0) 1 1 := ⟨by decide +kernel, rfl⟩
theorem d_X1_hoursUntilEnough_1 : zDc M_X1_hoursUntilEnough 1 (.getfield 36) 3 4 := ⟨by decide +kernel, rfl⟩
theorem d_X1_hoursUntilEnough_4 : zDc M_X1_hoursUntilEnough 4 (.aload_n 1) 1 5 := ⟨by decide +kernel, rfl⟩
theorem d_X1_hoursUntilEnough_5 : zDc M_X1_hoursUntilEnough 5 (.invokevirtual 40) 3 8 := ⟨by decide +kernel, rfl⟩
theorem d_X1_hoursUntilEnough_8 : zDc M_X1_hoursUntilEnough 8 (.iconst 0) 1 9 := ⟨by decide +kernel, rfl⟩
theorem d_X1_hoursUntilEnough_9 : zDc M_X1_hoursUntilEnough 9 (.istore_n 3) 1 10 := ⟨by decide +kernel, rfl⟩
theorem d_X1_hoursUntilEnough_10 : zDc M_X1_hoursUntilEnough 10 (.iload_n 3) 1 11 := ⟨by decide +kernel, rfl⟩
theorem d_X1_hoursUntilEnough_11 : zDc M_X1_hoursUntilEnough 11 (.bipush 99) 2 13 := ⟨by decide +kernel, rfl⟩
theorem d_X1_hoursUntilEnough_13 : zDj M_X1_hoursUntilEnough 13 (.if_icmp .gt 36) 36 16 49 := ⟨by decide +kernel, rfl, by decide⟩
theorem d_X1_hoursUntilEnough_16 : zDc M_X1_hoursUntilEnough 16 (.aload_n 0) 1 17 := ⟨by decide +kernel, rfl⟩
theorem d_X1_hoursUntilEnough_17 : zDc M_X1_hoursUntilEnough 17 (.getfield 36) 3 20 := ⟨by decide +kernel, rfl⟩
theorem d_X1_hoursUntilEnough_20 : zDc M_X1_hoursUntilEnough 20 (.iload_n 2) 1 21 := ⟨by decide +kernel, rfl⟩
theorem d_X1_hoursUntilEnough_21 : zDc M_X1_hoursUntilEnough 21 (.invokevirtual 78) 3 24 := ⟨by decide +kernel, rfl⟩
theorem d_X1_hoursUntilEnough_24 : zDj M_X1_hoursUntilEnough 24 (.ifCond .ne 5) 5 27 29 := ⟨by decide +kernel, rfl, by decide⟩
theorem d_X1_hoursUntilEnough_27 : zDc M_X1_hoursUntilEnough 27 (.iload_n 3) 1 28 := ⟨by decide +kernel, rfl⟩
theorem d_X1_hoursUntilEnough_28 : zDc M_X1_hoursUntilEnough 28 (.ireturn) 1 29 := ⟨by decide +kernel, rfl⟩
theorem d_X1_hoursUntilEnough_29 : zDc M_X1_hoursUntilEnough 29 (.aload_n 0) 1 30 := ⟨by decide +kernel, rfl⟩
theorem d_X1_hoursUntilEnough_30 : zDc M_X1_hoursUntilEnough 30 (.getfield 36) 3 33 := ⟨by decide +kernel, rfl⟩
theorem d_X1_hoursUntilEnough_33 : zDc M_X1_hoursUntilEnough 33 (.aload_n 0) 1 34 := ⟨by decide +kernel, rfl⟩
theorem d_X1_hoursUntilEnough_34 : zDc M_X1_hoursUntilEnough 34 (.getfield 36) 3 37 := ⟨by decide +kernel, rfl⟩
theorem d_X1_hoursUntilEnough_37 : zDc M_X1_hoursUntilEnough 37 (.invokevirtual 51) 3 40 := ⟨by decide +kernel, rfl⟩
theorem d_X1_hoursUntilEnough_40 : zDc M_X1_hoursUntilEnough 40 (.invokevirtual 55) 3 43 := ⟨by decide +kernel, rfl⟩
theorem d_X1_hoursUntilEnough_43 : zDc M_X1_hoursUntilEnough 43 (.iinc 3 1) 3 46 := ⟨by decide +kernel, rfl⟩
theorem d_X1_hoursUntilEnough_46 : zDj M_X1_hoursUntilEnough 46 (.goto (-36)) (-36) 49 10 := ⟨by decide +kernel, rfl, by decide⟩
theorem d_X1_hoursUntilEnough_49 : zDc M_X1_hoursUntilEnough 49 (.bipush (-2)) 2 51 := ⟨by decide +kernel, rfl⟩
theorem d_X1_hoursUntilEnough_51 : zDc M_X1_hoursUntilEnough 51 (.ireturn) 1 52 := ⟨by decide +kernel, rfl⟩
def f_X1_hoursUntilEnough (a0 : Nat) (a1 : Nat) (a2 : Int32) (h0 : zHp) : Option (Int32 × zHp) :=
  zob (zgR h0 a0 1 1) (fun v1 =>
  zbd (zcv 5 v1 h0 (f_X5_copyFrom v1 a1 h0)) (fun v3 h2 =>
  zbd (
  zlp (σ := Int32) (β := (Int32 ⊕ Int32)) zLF (fun s4 h5 =>
  if 99 < s4 then
  some ((.inr (.inl s4)), h5)
  else
  zob (zgR h5 a0 1 1) (fun v8 =>
  zbd (zcv 5 v8 h5 (f_X5_lacksRain v8 a2 h5)) (fun v10 h9 =>
  if v10 = 0 then
  some ((.inr (.inr s4)), h9)
  else
  zob (zgR h9 a0 1 1) (fun v11 =>
  zob (zgR h9 a0 1 1) (fun v12 =>
  zbd (zcv 5 v12 h9 (f_X5_windNow v12 h9)) (fun v14 h13 =>
  zbd (zcv 5 v11 h13 (f_X5_passHour v11 v14 h13)) (fun v16 h15 =>
  some ((.inl (s4 + 1)), h15)))))))) 0 h2) (fun b17 h7 => zsl b17 (fun e6 =>
  some ((-2), h7)) (fun r => some (r, h7)))))
set_option maxRecDepth 100000 in
set_option maxHeartbeats 4000000 in
theorem t_X1_hoursUntilEnough (a0 : Nat) (a1 : Nat) (a2 : Int32) (h0 : zHp) : ∀ (r : Int32) (h' : zHp), f_X1_hoursUntilEnough a0 a1 a2 h0 = some (r, h') → zCt yX1_hoursUntilEnough (.code yX1_hoursUntilEnough cX1_hoursUntilEnough 4 (some .int)) 6 183 0 0 [.ref a0, .ref a1, .int a2] h0 (some (.int r)) h' := by
  refine zct_of M_X1_hoursUntilEnough yX1_hoursUntilEnough (by decide) rfl rfl [.ref a0, .ref a1, .int a2] h0 (Nat.le_of_ble_eq_true rfl) (fun r => some (.int r)) (fun X => ?_)
  show zG X M_X1_hoursUntilEnough (0, 0) 0 [(0, .ref a0), (1, .ref a1), (2, .int a2)] [] h0 (f_X1_hoursUntilEnough a0 a1 a2 h0) (fun (r : Int32) h' => zKe X (some (.int r)) h')
  unfold f_X1_hoursUntilEnough
  refine zg_aload_n 0 rfl d_X1_hoursUntilEnough_0 ?_
  refine zg_getR d_X1_hoursUntilEnough_1 zc_1 (by decide) fl_X1_36 (fun v1 => ?_)
  refine zg_aload_n 1 rfl d_X1_hoursUntilEnough_4 ?_
  refine zg_cVv (b := v1) (As := [.ref a1]) (rest := []) (0, 0) d_X1_hoursUntilEnough_5 zc_5 rfl cw_X1_40 wi_X5_copyFrom ws_X5_copyFrom rfl rfl (Nat.le_of_ble_eq_true rfl) (by decide) (by decide) ⟨by decide, by decide⟩ rfl (t_X5_copyFrom v1 a1 h0) (fun v3 h2 => ?_)
  refine zg_iconst 0 rfl d_X1_hoursUntilEnough_8 ?_
  refine zg_istore_n [(3, .int 0), (0, .ref a0), (1, .ref a1), (2, .int a2)] d_X1_hoursUntilEnough_9 rfl (by decide) rfl ?_
  refine zg_bdr (E := 49) (el := (fun (e6 : Int32) => [(0, .ref a0), (1, .ref a1), (2, .int a2), (3, .int e6)])) (es := fun _ => []) (zg_sub [1, 2, 3, 0] rfl (zg_lp (el := (fun (s4 : Int32) => [(0, .ref a0), (1, .ref a1), (2, .int a2), (3, .int s4)])) (fun s4 h5 => ?_) 0 h2)) (fun e6 h7 => ?_)
  · refine zg_iload_n 3 rfl d_X1_hoursUntilEnough_10 ?_
    refine zg_bipush 99 rfl d_X1_hoursUntilEnough_11 ?_
    refine zg_icmp_gt d_X1_hoursUntilEnough_13 ?_ ?_
    · exact zg_finK (E := 0) [0, 1, 2, 3] rfl rfl (fun q => q)
    · refine zg_aload_n 0 rfl d_X1_hoursUntilEnough_16 ?_
      refine zg_getR d_X1_hoursUntilEnough_17 zc_1 (by decide) fl_X1_36 (fun v8 => ?_)
      refine zg_iload_n 2 rfl d_X1_hoursUntilEnough_20 ?_
      refine zg_cVi (b := v8) (As := [.int a2]) (rest := []) (0, 0) d_X1_hoursUntilEnough_21 zc_5 rfl cw_X1_78 wi_X5_lacksRain ws_X5_lacksRain rfl rfl (Nat.le_of_ble_eq_true rfl) (by decide) (by decide) ⟨by decide, by decide⟩ rfl (t_X5_lacksRain v8 a2 h5) (fun v10 h9 => ?_)
      refine zg_if_ne d_X1_hoursUntilEnough_24 ?_ ?_
      · refine zg_iload_n 3 rfl d_X1_hoursUntilEnough_27 ?_
        exact zg_iretK d_X1_hoursUntilEnough_28 rfl ⟨Nat.le_of_ble_eq_true rfl, Nat.le_of_ble_eq_true rfl⟩ (fun q => q)
      · refine zg_aload_n 0 rfl d_X1_hoursUntilEnough_29 ?_
        refine zg_getR d_X1_hoursUntilEnough_30 zc_1 (by decide) fl_X1_36 (fun v11 => ?_)
        refine zg_aload_n 0 rfl d_X1_hoursUntilEnough_33 ?_
        refine zg_getR d_X1_hoursUntilEnough_34 zc_1 (by decide) fl_X1_36 (fun v12 => ?_)
        refine zg_cVi (b := v12) (As := []) (rest := [.ref v11]) (0, 0) d_X1_hoursUntilEnough_37 zc_5 rfl cw_X1_51 wi_X5_windNow ws_X5_windNow rfl rfl (Nat.le_of_ble_eq_true rfl) (by decide) (by decide) ⟨by decide, by decide⟩ rfl (t_X5_windNow v12 h9) (fun v14 h13 => ?_)
        refine zg_cVv (b := v11) (As := [.int v14]) (rest := []) (0, 0) d_X1_hoursUntilEnough_40 zc_5 rfl cw_X1_55 wi_X5_passHour ws_X5_passHour rfl rfl (Nat.le_of_ble_eq_true rfl) (by decide) (by decide) ⟨by decide, by decide⟩ rfl (t_X5_passHour v11 v14 h13) (fun v16 h15 => ?_)
        refine zg_iinc 3 (s4 + 1) [(3, .int (s4 + 1)), (0, .ref a0), (1, .ref a1), (2, .int a2)] d_X1_hoursUntilEnough_43 rfl rfl (by decide) rfl ?_
        refine zg_goto d_X1_hoursUntilEnough_46 ?_
        exact zg_finK (E := 0) [1, 2, 3, 0] rfl rfl (fun q => q)
  · refine zg_bipush (-2) rfl d_X1_hoursUntilEnough_49 ?_
    exact zg_iretK d_X1_hoursUntilEnough_51 rfl ⟨Nat.le_of_ble_eq_true rfl, Nat.le_of_ble_eq_true rfl⟩ (fun q => q)
abbrev M_X1_isRest : zMt := (RX1, cX1_isRest, 5, 1, 60, (some .boolean), "isRest", 0, 0)
theorem d_X1_isRest_0 : zDc M_X1_isRest 0 (.iload_n 1) 1 1 := ⟨by decide +kernel, rfl⟩
theorem d_X1_isRest_1 : zDc M_X1_isRest 1 (.iconst 5) 1 2 := ⟨by decide +kernel, rfl⟩
theorem d_X1_isRest_2 : zDc M_X1_isRest 2 (.idiv) 1 3 := ⟨by decide +kernel, rfl⟩
theorem d_X1_isRest_3 : zDc M_X1_isRest 3 (.istore_n 2) 1 4 := ⟨by decide +kernel, rfl⟩
theorem d_X1_isRest_4 : zDc M_X1_isRest 4 (.iload_n 1) 1 5 := ⟨by decide +kernel, rfl⟩
theorem d_X1_isRest_5 : zDc M_X1_isRest 5 (.iconst 5) 1 6 := ⟨by decide +kernel, rfl⟩
theorem d_X1_isRest_6 : zDc M_X1_isRest 6 (.irem) 1 7 := ⟨by decide +kernel, rfl⟩
theorem d_X1_isRest_7 : zDc M_X1_isRest 7 (.istore_n 3) 1 8 := ⟨by decide +kernel, rfl⟩
theorem d_X1_isRest_8 : zDc M_X1_isRest 8 (.iconst 0) 1 9 := ⟨by decide +kernel, rfl⟩
theorem d_X1_isRest_9 : zDc M_X1_isRest 9 (.istore 4) 2 11 := ⟨by decide +kernel, rfl⟩
theorem d_X1_isRest_11 : zDc M_X1_isRest 11 (.iload 4) 2 13 := ⟨by decide +kernel, rfl⟩
theorem d_X1_isRest_13 : zDc M_X1_isRest 13 (.iconst 5) 1 14 := ⟨by decide +kernel, rfl⟩
theorem d_X1_isRest_14 : zDj M_X1_isRest 14 (.if_icmp .ge 51) 51 17 65 := ⟨by decide +kernel, rfl, by decide⟩
theorem d_X1_isRest_17 : zDc M_X1_isRest 17 (.aload_n 0) 1 18 := ⟨by decide +kernel, rfl⟩
theorem d_X1_isRest_18 : zDc M_X1_isRest 18 (.getfield 27) 3 21 := ⟨by decide +kernel, rfl⟩
theorem d_X1_isRest_21 : zDc M_X1_isRest 21 (.iconst 5) 1 22 := ⟨by decide +kernel, rfl⟩
theorem d_X1_isRest_22 : zDc M_X1_isRest 22 (.iload 4) 2 24 := ⟨by decide +kernel, rfl⟩
theorem d_X1_isRest_24 : zDc M_X1_isRest 24 (.imul) 1 25 := ⟨by decide +kernel, rfl⟩
theorem d_X1_isRest_25 : zDc M_X1_isRest 25 (.iload_n 3) 1 26 := ⟨by decide +kernel, rfl⟩
theorem d_X1_isRest_26 : zDc M_X1_isRest 26 (.iadd) 1 27 := ⟨by decide +kernel, rfl⟩
theorem d_X1_isRest_27 : zDc M_X1_isRest 27 (.iaload) 1 28 := ⟨by decide +kernel, rfl⟩
theorem d_X1_isRest_28 : zDc M_X1_isRest 28 (.aload_n 0) 1 29 := ⟨by decide +kernel, rfl⟩
theorem d_X1_isRest_29 : zDc M_X1_isRest 29 (.getfield 27) 3 32 := ⟨by decide +kernel, rfl⟩
theorem d_X1_isRest_32 : zDc M_X1_isRest 32 (.iload_n 1) 1 33 := ⟨by decide +kernel, rfl⟩
theorem d_X1_isRest_33 : zDc M_X1_isRest 33 (.iaload) 1 34 := ⟨by decide +kernel, rfl⟩
theorem d_X1_isRest_34 : zDj M_X1_isRest 34 (.if_icmp .gt 23) 23 37 57 := ⟨by decide +kernel, rfl, by decide⟩
theorem d_X1_isRest_37 : zDc M_X1_isRest 37 (.aload_n 0) 1 38 := ⟨by decide +kernel, rfl⟩
theorem d_X1_isRest_38 : zDc M_X1_isRest 38 (.getfield 30) 3 41 := ⟨by decide +kernel, rfl⟩
theorem d_X1_isRest_41 : zDc M_X1_isRest 41 (.iconst 5) 1 42 := ⟨by decide +kernel, rfl⟩
theorem d_X1_isRest_42 : zDc M_X1_isRest 42 (.iload_n 2) 1 43 := ⟨by decide +kernel, rfl⟩
theorem d_X1_isRest_43 : zDc M_X1_isRest 43 (.imul) 1 44 := ⟨by decide +kernel, rfl⟩
theorem d_X1_isRest_44 : zDc M_X1_isRest 44 (.iload 4) 2 46 := ⟨by decide +kernel, rfl⟩
theorem d_X1_isRest_46 : zDc M_X1_isRest 46 (.iadd) 1 47 := ⟨by decide +kernel, rfl⟩
theorem d_X1_isRest_47 : zDc M_X1_isRest 47 (.iaload) 1 48 := ⟨by decide +kernel, rfl⟩
theorem d_X1_isRest_48 : zDc M_X1_isRest 48 (.aload_n 0) 1 49 := ⟨by decide +kernel, rfl⟩
theorem d_X1_isRest_49 : zDc M_X1_isRest 49 (.getfield 30) 3 52 := ⟨by decide +kernel, rfl⟩
theorem d_X1_isRest_52 : zDc M_X1_isRest 52 (.iload_n 1) 1 53 := ⟨by decide +kernel, rfl⟩
theorem d_X1_isRest_53 : zDc M_X1_isRest 53 (.iaload) 1 54 := ⟨by decide +kernel, rfl⟩
theorem d_X1_isRest_54 : zDj M_X1_isRest 54 (.if_icmp .le 5) 5 57 59 := ⟨by decide +kernel, rfl, by decide⟩
theorem d_X1_isRest_57 : zDc M_X1_isRest 57 (.iconst 0) 1 58 := ⟨by decide +kernel, rfl⟩
theorem d_X1_isRest_58 : zDc M_X1_isRest 58 (.ireturn) 1 59 := ⟨by decide +kernel, rfl⟩
theorem d_X1_isRest_59 : zDc M_X1_isRest 59 (.iinc 4 1) 3 62 := ⟨by decide +kernel, rfl⟩
theorem d_X1_isRest_62 : zDj M_X1_isRest 62 (.goto (-51)) (-51) 65 11 := ⟨by decide +kernel, rfl, by decide⟩
theorem d_X1_isRest_65 : zDc M_X1_isRest 65 (.iconst 1) 1 66 := ⟨by decide +kernel, rfl⟩
theorem d_X1_isRest_66 : zDc M_X1_isRest 66 (.ireturn) 1 67 := ⟨by decide +kernel, rfl⟩
def f_X1_isRest (a0 : Nat) (a1 : Int32) (h0 : zHp) : Option (Int32 × zHp) :=
  zbd (
  zlp (σ := Int32) (β := (Int32 ⊕ Int32)) zLF (fun s1 h2 =>
  if 5 ≤ s1 then
  some ((.inr (.inl s1)), h2)
  else
  zob (zgR h2 a0 1 5) (fun v5 =>
  zob (zaI 0 h2 v5 ((5 * s1) + (zrm a1 5))) (fun v6 =>
  zob (zgR h2 a0 1 5) (fun v7 =>
  zob (zaI 0 h2 v7 a1) (fun v8 =>
  if v8 < v6 then
  some ((.inr (.inr 0)), h2)
  else
  zob (zgR h2 a0 1 6) (fun v9 =>
  zob (zaI 0 h2 v9 ((5 * (a1 / 5)) + s1)) (fun v10 =>
  zob (zgR h2 a0 1 6) (fun v11 =>
  zob (zaI 0 h2 v11 a1) (fun v12 =>
  if v10 ≤ v12 then
  some ((.inl (s1 + 1)), h2)
  else
  some ((.inr (.inr 0)), h2)))))))))) 0 h0) (fun b13 h4 => zsl b13 (fun e3 =>
  some (1, h4)) (fun r => some (r, h4)))
set_option maxRecDepth 100000 in
set_option maxHeartbeats 4000000 in
theorem t_X1_isRest (a0 : Nat) (a1 : Int32) (h0 : zHp) : ∀ (r : Int32) (h' : zHp), f_X1_isRest a0 a1 h0 = some (r, h') → zCt yX1_isRest (.code yX1_isRest cX1_isRest 5 (some .boolean)) 1 60 0 0 [.ref a0, .int a1] h0 (some (.int r)) h' := by
  refine zct_of M_X1_isRest yX1_isRest (by decide) rfl rfl [.ref a0, .int a1] h0 (Nat.le_of_ble_eq_true rfl) (fun r => some (.int r)) (fun X => ?_)
  show zG X M_X1_isRest (0, 0) 0 [(0, .ref a0), (1, .int a1)] [] h0 (f_X1_isRest a0 a1 h0) (fun (r : Int32) h' => zKe X (some (.int r)) h')
  unfold f_X1_isRest
  refine zg_iload_n 1 rfl d_X1_isRest_0 ?_
  refine zg_iconst 5 rfl d_X1_isRest_1 ?_
  refine zg_idiv (by decide) d_X1_isRest_2 ?_
  refine zg_istore_n [(2, .int (a1 / 5)), (0, .ref a0), (1, .int a1)] d_X1_isRest_3 rfl (by decide) rfl ?_
  refine zg_iload_n 2 rfl d_X1_isRest_4 ?_
  refine zg_iconst 5 rfl d_X1_isRest_5 ?_
  refine zg_irem (by decide) d_X1_isRest_6 ?_
  refine zg_istore_n [(3, .int (zrm a1 5)), (2, .int (a1 / 5)), (0, .ref a0), (1, .int a1)] d_X1_isRest_7 rfl (by decide) rfl ?_
  refine zg_iconst 0 rfl d_X1_isRest_8 ?_
  refine zg_istore [(4, .int 0), (3, .int (zrm a1 5)), (2, .int (a1 / 5)), (0, .ref a0), (1, .int a1)] d_X1_isRest_9 (by decide) rfl ?_
  refine zg_bdr (E := 65) (el := (fun (e3 : Int32) => [(0, .ref a0), (1, .int a1), (2, .int (a1 / 5)), (3, .int (zrm a1 5)), (4, .int e3)])) (es := fun _ => []) (zg_sub [3, 4, 2, 1, 0] rfl (zg_lp (el := (fun (s1 : Int32) => [(0, .ref a0), (1, .int a1), (2, .int (a1 / 5)), (3, .int (zrm a1 5)), (4, .int s1)])) (fun s1 h2 => ?_) 0 h0)) (fun e3 h4 => ?_)
  · refine zg_iload 4 rfl d_X1_isRest_11 ?_
    refine zg_iconst 5 rfl d_X1_isRest_13 ?_
    refine zg_icmp_ge d_X1_isRest_14 ?_ ?_
    · exact zg_finK (E := 0) [0, 1, 2, 3, 4] rfl rfl (fun q => q)
    · refine zg_aload_n 0 rfl d_X1_isRest_17 ?_
      refine zg_getR d_X1_isRest_18 zc_1 (by decide) fl_X1_27 (fun v5 => ?_)
      refine zg_iconst 5 rfl d_X1_isRest_21 ?_
      refine zg_iload 4 rfl d_X1_isRest_22 ?_
      refine zg_imul d_X1_isRest_24 ?_
      refine zg_iload_n 3 rfl d_X1_isRest_25 ?_
      refine zg_iadd d_X1_isRest_26 ?_
      refine zg_ald0 d_X1_isRest_27 (fun v6 => ?_)
      refine zg_aload_n 0 rfl d_X1_isRest_28 ?_
      refine zg_getR d_X1_isRest_29 zc_1 (by decide) fl_X1_27 (fun v7 => ?_)
      refine zg_iload_n 1 rfl d_X1_isRest_32 ?_
      refine zg_ald0 d_X1_isRest_33 (fun v8 => ?_)
      refine zg_icmp_gt d_X1_isRest_34 ?_ ?_
      · refine zg_iconst 0 rfl d_X1_isRest_57 ?_
        exact zg_zretK d_X1_isRest_58 rfl ⟨Nat.le_of_ble_eq_true rfl, Nat.le_of_ble_eq_true rfl⟩ (Or.inl rfl) (fun q => q)
      · refine zg_aload_n 0 rfl d_X1_isRest_37 ?_
        refine zg_getR d_X1_isRest_38 zc_1 (by decide) fl_X1_30 (fun v9 => ?_)
        refine zg_iconst 5 rfl d_X1_isRest_41 ?_
        refine zg_iload_n 2 rfl d_X1_isRest_42 ?_
        refine zg_imul d_X1_isRest_43 ?_
        refine zg_iload 4 rfl d_X1_isRest_44 ?_
        refine zg_iadd d_X1_isRest_46 ?_
        refine zg_ald0 d_X1_isRest_47 (fun v10 => ?_)
        refine zg_aload_n 0 rfl d_X1_isRest_48 ?_
        refine zg_getR d_X1_isRest_49 zc_1 (by decide) fl_X1_30 (fun v11 => ?_)
        refine zg_iload_n 1 rfl d_X1_isRest_52 ?_
        refine zg_ald0 d_X1_isRest_53 (fun v12 => ?_)
        refine zg_icmp_le d_X1_isRest_54 ?_ ?_
        · refine zg_iinc 4 (s1 + 1) [(4, .int (s1 + 1)), (0, .ref a0), (1, .int a1), (2, .int (a1 / 5)), (3, .int (zrm a1 5))] d_X1_isRest_59 rfl rfl (by decide) rfl ?_
          refine zg_goto d_X1_isRest_62 ?_
          exact zg_finK (E := 0) [1, 2, 3, 4, 0] rfl rfl (fun q => q)
        · refine zg_iconst 0 rfl d_X1_isRest_57 ?_
          exact zg_zretK d_X1_isRest_58 rfl ⟨Nat.le_of_ble_eq_true rfl, Nat.le_of_ble_eq_true rfl⟩ (Or.inl rfl) (fun q => q)
  · refine zg_iconst 1 rfl d_X1_isRest_65 ?_
    exact zg_zretK d_X1_isRest_66 rfl ⟨Nat.le_of_ble_eq_true rfl, Nat.le_of_ble_eq_true rfl⟩ (Or.inr rfl) (fun q => q)
abbrev M_X5_firstToPush : zMt := (RX5, cX5_firstToPush, 3, 3, 106, (some .int), "firstToPush", 0, 0)
theorem d_X5_firstToPush_0 : zDc M_X5_firstToPush 0 (.iconst 0) 1 1 := ⟨by decide +kernel, rfl⟩
theorem d_X5_firstToPush_1 : zDc M_X5_firstToPush 1 (.istore_n 2) 1 2 := ⟨by decide +kernel, rfl⟩
theorem d_X5_firstToPush_2 : zDc M_X5_firstToPush 2 (.iload_n 2) 1 3 := ⟨by decide +kernel, rfl⟩
theorem d_X5_firstToPush_3 : zDc M_X5_firstToPush 3 (.aload_n 0) 1 4 := ⟨by decide +kernel, rfl⟩
theorem d_X5_firstToPush_4 : zDc M_X5_firstToPush 4 (.getfield 50) 3 7 := ⟨by decide +kernel, rfl⟩
theorem d_X5_firstToPush_7 : zDc M_X5_firstToPush 7 (.getfield 90) 3 10 := ⟨by decide +kernel, rfl⟩
theorem d_X5_firstToPush_10 : zDj M_X5_firstToPush 10 (.if_icmp .ge 38) 38 13 48 := ⟨by decide +kernel, rfl, by decide⟩
theorem d_X5_firstToPush_13 : zDc M_X5_firstToPush 13 (.aload_n 0) 1 14 := ⟨by decide +kernel, rfl⟩
theorem d_X5_firstToPush_14 : zDc M_X5_firstToPush 14 (.iload_n 2) 1 15 := ⟨by decide +kernel, rfl⟩
theorem d_X5_firstToPush_15 : zDc M_X5_firstToPush 15 (.invokevirtual 93) 3 18 := ⟨by decide +kernel, rfl⟩
theorem d_X5_firstToPush_18 : zDj M_X5_firstToPush 18 (.ifCond .eq 24) 24 21 42 := ⟨by decide +kernel, rfl, by decide⟩
theorem d_X5_firstToPush_21 : zDc M_X5_firstToPush 21 (.aload_n 0) 1 22 := ⟨by decide +kernel, rfl⟩
theorem d_X5_firstToPush_22 : zDc M_X5_firstToPush 22 (.getfield 24) 3 25 := ⟨by decide +kernel, rfl⟩
theorem d_X5_firstToPush_25 : zDc M_X5_firstToPush 25 (.iload_n 2) 1 26 := ⟨by decide +kernel, rfl⟩
theorem d_X5_firstToPush_26 : zDc M_X5_firstToPush 26 (.iaload) 1 27 := ⟨by decide +kernel, rfl⟩
theorem d_X5_firstToPush_27 : zDc M_X5_firstToPush 27 (.iload_n 1) 1 28 := ⟨by decide +kernel, rfl⟩
theorem d_X5_firstToPush_28 : zDj M_X5_firstToPush 28 (.if_icmp .ne 14) 14 31 42 := ⟨by decide +kernel, rfl, by decide⟩
theorem d_X5_firstToPush_31 : zDc M_X5_firstToPush 31 (.aload_n 0) 1 32 := ⟨by decide +kernel, rfl⟩
theorem d_X5_firstToPush_32 : zDc M_X5_firstToPush 32 (.iload_n 1) 1 33 := ⟨by decide +kernel, rfl⟩
theorem d_X5_firstToPush_33 : zDc M_X5_firstToPush 33 (.iload_n 2) 1 34 := ⟨by decide +kernel, rfl⟩
theorem d_X5_firstToPush_34 : zDc M_X5_firstToPush 34 (.invokevirtual 123) 3 37 := ⟨by decide +kernel, rfl⟩
theorem d_X5_firstToPush_37 : zDj M_X5_firstToPush 37 (.ifCond .eq 5) 5 40 42 := ⟨by decide +kernel, rfl, by decide⟩
theorem d_X5_firstToPush_40 : zDc M_X5_firstToPush 40 (.iload_n 2) 1 41 := ⟨by decide +kernel, rfl⟩
theorem d_X5_firstToPush_41 : zDc M_X5_firstToPush 41 (.ireturn) 1 42 := ⟨by decide +kernel, rfl⟩
theorem d_X5_firstToPush_42 : zDc M_X5_firstToPush 42 (.iinc 2 1) 3 45 := ⟨by decide +kernel, rfl⟩
theorem d_X5_firstToPush_45 : zDj M_X5_firstToPush 45 (.goto (-43)) (-43) 48 2 := ⟨by decide +kernel, rfl, by decide⟩
theorem d_X5_firstToPush_48 : zDc M_X5_firstToPush 48 (.iconst (-1)) 1 49 := ⟨by decide +kernel, rfl⟩
theorem d_X5_firstToPush_49 : zDc M_X5_firstToPush 49 (.ireturn) 1 50 := ⟨by decide +kernel, rfl⟩
def f_X5_firstToPush (a0 : Nat) (a1 : Int32) (h0 : zHp) : Option (Int32 × zHp) :=
  zbd (
  zlp (σ := Int32) (β := (Int32 ⊕ Int32)) zLF (fun s1 h2 =>
  zob (zgR h2 a0 5 14) (fun v5 =>
  zob (zgI h2 v5 6 14) (fun v6 =>
  if v6 ≤ s1 then
  some ((.inr (.inl s1)), h2)
  else
  zbd (zcv 5 a0 h2 (f_X5_isUp a0 s1 h2)) (fun v8 h7 =>
  if v8 = 0 then
  some ((.inl (s1 + 1)), h7)
  else
  zob (zgR h7 a0 5 4) (fun v9 =>
  zob (zaI 0 h7 v9 s1) (fun v10 =>
  if v10 = a1 then
  zbd (zcv 5 a0 h7 (f_X5_canSee a0 a1 s1 h7)) (fun v12 h11 =>
  if v12 = 0 then
  some ((.inl (s1 + 1)), h11)
  else
  some ((.inr (.inr s1)), h11))
  else
  some ((.inl (s1 + 1)), h7))))))) 0 h0) (fun b13 h4 => zsl b13 (fun e3 =>
  some ((-1), h4)) (fun r => some (r, h4)))
set_option maxRecDepth 100000 in
set_option maxHeartbeats 4000000 in
theorem t_X5_firstToPush (a0 : Nat) (a1 : Int32) (h0 : zHp) : ∀ (r : Int32) (h' : zHp), f_X5_firstToPush a0 a1 h0 = some (r, h') → zCt yX5_firstToPush (.code yX5_firstToPush cX5_firstToPush 3 (some .int)) 3 106 0 0 [.ref a0, .int a1] h0 (some (.int r)) h' := by
  refine zct_of M_X5_firstToPush yX5_firstToPush (by decide) rfl rfl [.ref a0, .int a1] h0 (Nat.le_of_ble_eq_true rfl) (fun r => some (.int r)) (fun X => ?_)
  show zG X M_X5_firstToPush (0, 0) 0 [(0, .ref a0), (1, .int a1)] [] h0 (f_X5_firstToPush a0 a1 h0) (fun (r : Int32) h' => zKe X (some (.int r)) h')
  unfold f_X5_firstToPush
  refine zg_iconst 0 rfl d_X5_firstToPush_0 ?_
  refine zg_istore_n [(2, .int 0), (0, .ref a0), (1, .int a1)] d_X5_firstToPush_1 rfl (by decide) rfl ?_
  refine zg_bdr (E := 48) (el := (fun (e3 : Int32) => [(0, .ref a0), (1, .int a1), (2, .int e3)])) (es := fun _ => []) (zg_sub [1, 2, 0] rfl (zg_lp (el := (fun (s1 : Int32) => [(0, .ref a0), (1, .int a1), (2, .int s1)])) (fun s1 h2 => ?_) 0 h0)) (fun e3 h4 => ?_)
  · refine zg_iload_n 2 rfl d_X5_firstToPush_2 ?_
    refine zg_aload_n 0 rfl d_X5_firstToPush_3 ?_
    refine zg_getR d_X5_firstToPush_4 zc_5 (by decide) fl_X5_50 (fun v5 => ?_)
    refine zg_getI d_X5_firstToPush_7 zc_6 (by decide) fl_X5_90 (fun v6 => ?_)
    refine zg_icmp_ge d_X5_firstToPush_10 ?_ ?_
    · exact zg_finK (E := 0) [0, 1, 2] rfl rfl (fun q => q)
    · refine zg_aload_n 0 rfl d_X5_firstToPush_13 ?_
      refine zg_iload_n 2 rfl d_X5_firstToPush_14 ?_
      refine zg_cVi (b := a0) (As := [.int s1]) (rest := []) (0, 0) d_X5_firstToPush_15 zc_5 rfl cw_X5_93 wi_X5_isUp ws_X5_isUp rfl rfl (Nat.le_of_ble_eq_true rfl) (by decide) (by decide) ⟨by decide, by decide⟩ rfl (t_X5_isUp a0 s1 h2) (fun v8 h7 => ?_)
      refine zg_if_eq d_X5_firstToPush_18 ?_ ?_
      · refine zg_iinc 2 (s1 + 1) [(2, .int (s1 + 1)), (0, .ref a0), (1, .int a1)] d_X5_firstToPush_42 rfl rfl (by decide) rfl ?_
        refine zg_goto d_X5_firstToPush_45 ?_
        exact zg_finK (E := 0) [1, 2, 0] rfl rfl (fun q => q)
      · refine zg_aload_n 0 rfl d_X5_firstToPush_21 ?_
        refine zg_getR d_X5_firstToPush_22 zc_5 (by decide) fl_X5_24 (fun v9 => ?_)
        refine zg_iload_n 2 rfl d_X5_firstToPush_25 ?_
        refine zg_ald0 d_X5_firstToPush_26 (fun v10 => ?_)
        refine zg_iload_n 1 rfl d_X5_firstToPush_27 ?_
        refine zg_icmp_ne d_X5_firstToPush_28 ?_ ?_
        · refine zg_aload_n 0 rfl d_X5_firstToPush_31 ?_
          refine zg_iload_n 1 rfl d_X5_firstToPush_32 ?_
          refine zg_iload_n 2 rfl d_X5_firstToPush_33 ?_
          refine zg_cVi (b := a0) (As := [.int a1, .int s1]) (rest := []) (0, 0) d_X5_firstToPush_34 zc_5 rfl cw_X5_123 wi_X5_canSee ws_X5_canSee rfl rfl (Nat.le_of_ble_eq_true rfl) (by decide) (by decide) ⟨by decide, by decide⟩ rfl (t_X5_canSee a0 a1 s1 h7) (fun v12 h11 => ?_)
          refine zg_if_eq d_X5_firstToPush_37 ?_ ?_
          · refine zg_iinc 2 (s1 + 1) [(2, .int (s1 + 1)), (0, .ref a0), (1, .int a1)] d_X5_firstToPush_42 rfl rfl (by decide) rfl ?_
            refine zg_goto d_X5_firstToPush_45 ?_
            exact zg_finK (E := 0) [1, 2, 0] rfl rfl (fun q => q)
          · refine zg_iload_n 2 rfl d_X5_firstToPush_40 ?_
            exact zg_iretK d_X5_firstToPush_41 rfl ⟨Nat.le_of_ble_eq_true rfl, Nat.le_of_ble_eq_true rfl⟩ (fun q => q)
        · refine zg_iinc 2 (s1 + 1) [(2, .int (s1 + 1)), (0, .ref a0), (1, .int a1)] d_X5_firstToPush_42 rfl rfl (by decide) rfl ?_
          refine zg_goto d_X5_firstToPush_45 ?_
          exact zg_finK (E := 0) [1, 2, 0] rfl rfl (fun q => q)
  · refine zg_iconst (-1) rfl d_X5_firstToPush_48 ?_
    exact zg_iretK d_X5_firstToPush_49 rfl ⟨Nat.le_of_ble_eq_true rfl, Nat.le_of_ble_eq_true rfl⟩ (fun q => q)
abbrev M_X5_pushBy : zMt := (RX5, cX5_pushBy, 4, 4, 128, none, "pushBy", 0, 0)
theorem d_X5_pushBy_0 : zDc M_X5_pushBy 0 (.aload_n 0) 1 1 := ⟨by decide +kernel, rfl⟩
theorem d_X5_pushBy_1 : zDc M_X5_pushBy 1 (.iload_n 1) 1 2 := ⟨by decide +kernel, rfl⟩
theorem d_X5_pushBy_2 : zDc M_X5_pushBy 2 (.invokevirtual 127) 3 5 := ⟨by decide +kernel, rfl⟩
theorem d_X5_pushBy_5 : zDc M_X5_pushBy 5 (.istore_n 3) 1 6 := ⟨by decide +kernel, rfl⟩
theorem d_X5_pushBy_6 : zDc M_X5_pushBy 6 (.iload_n 3) 1 7 := ⟨by decide +kernel, rfl⟩
theorem d_X5_pushBy_7 : zDc M_X5_pushBy 7 (.iconst (-1)) 1 8 := ⟨by decide +kernel, rfl⟩
theorem d_X5_pushBy_8 : zDj M_X5_pushBy 8 (.if_icmp .eq 9) 9 11 17 := ⟨by decide +kernel, rfl, by decide⟩
theorem d_X5_pushBy_11 : zDc M_X5_pushBy 11 (.aload_n 0) 1 12 := ⟨by decide +kernel, rfl⟩
theorem d_X5_pushBy_12 : zDc M_X5_pushBy 12 (.iload_n 3) 1 13 := ⟨by decide +kernel, rfl⟩
theorem d_X5_pushBy_13 : zDc M_X5_pushBy 13 (.iload_n 2) 1 14 := ⟨by decide +kernel, rfl⟩
theorem d_X5_pushBy_14 : zDc M_X5_pushBy 14 (.invokevirtual 130) 3 17 := ⟨by decide +kernel, rfl⟩
theorem d_X5_pushBy_17 : zDc M_X5_pushBy 17 (.return_) 1 18 := ⟨by decide +kernel, rfl⟩
def f_X5_pushBy (a0 : Nat) (a1 : Int32) (a2 : Int32) (h0 : zHp) : Option (Unit × zHp) :=
  zbd (zcv 5 a0 h0 (f_X5_firstToPush a0 a1 h0)) (fun v2 h1 =>
  if v2 = (-1) then
  some ((), h1)
  else
  zbd (zcv 5 a0 h1 (f_X5_moveCloud a0 v2 a2 h1)) (fun v4 h3 =>
  some ((), h3)))
set_option maxRecDepth 100000 in
set_option maxHeartbeats 4000000 in
theorem t_X5_pushBy (a0 : Nat) (a1 : Int32) (a2 : Int32) (h0 : zHp) : ∀ (r : Unit) (h' : zHp), f_X5_pushBy a0 a1 a2 h0 = some (r, h') → zCt yX5_pushBy (.code yX5_pushBy cX5_pushBy 4 none) 4 128 0 0 [.ref a0, .int a1, .int a2] h0 (none) h' := by
  refine zct_of M_X5_pushBy yX5_pushBy (by decide) rfl rfl [.ref a0, .int a1, .int a2] h0 (Nat.le_of_ble_eq_true rfl) (fun _ => none) (fun X => ?_)
  show zG X M_X5_pushBy (0, 0) 0 [(0, .ref a0), (1, .int a1), (2, .int a2)] [] h0 (f_X5_pushBy a0 a1 a2 h0) (fun (_ : Unit) h' => zKe X (none) h')
  unfold f_X5_pushBy
  refine zg_aload_n 0 rfl d_X5_pushBy_0 ?_
  refine zg_iload_n 1 rfl d_X5_pushBy_1 ?_
  refine zg_cVi (b := a0) (As := [.int a1]) (rest := []) (0, 0) d_X5_pushBy_2 zc_5 rfl cw_X5_127 wi_X5_firstToPush ws_X5_firstToPush rfl rfl (Nat.le_of_ble_eq_true rfl) (by decide) (by decide) ⟨by decide, by decide⟩ rfl (t_X5_firstToPush a0 a1 h0) (fun v2 h1 => ?_)
  refine zg_istore_n [(3, .int v2), (0, .ref a0), (1, .int a1), (2, .int a2)] d_X5_pushBy_5 rfl (by decide) rfl ?_
  refine zg_iload_n 0 rfl d_X5_pushBy_6 ?_
  refine zg_iconst (-1) rfl d_X5_pushBy_7 ?_
  refine zg_icmp_eq d_X5_pushBy_8 ?_ ?_
  · exact zg_vretK d_X5_pushBy_17 rfl ⟨Nat.le_of_ble_eq_true rfl, Nat.le_of_ble_eq_true rfl⟩ (fun q => q)
  · refine zg_aload_n 1 rfl d_X5_pushBy_11 ?_
    refine zg_iload_n 0 rfl d_X5_pushBy_12 ?_
    refine zg_iload_n 3 rfl d_X5_pushBy_13 ?_
    refine zg_cVv (b := a0) (As := [.int v2, .int a2]) (rest := []) (0, 0) d_X5_pushBy_14 zc_5 rfl cw_X5_130 wi_X5_moveCloud ws_X5_moveCloud rfl rfl (Nat.le_of_ble_eq_true rfl) (by decide) (by decide) ⟨by decide, by decide⟩ rfl (t_X5_moveCloud a0 v2 a2 h1) (fun v4 h3 => ?_)
    exact zg_vretK d_X5_pushBy_17 rfl ⟨Nat.le_of_ble_eq_true rfl, Nat.le_of_ble_eq_true rfl⟩ (fun q => q)
abbrev M_X1_plannedPush : zMt := (RX1, cX1_plannedPush, 2, 1, 60, (some .int), "plannedPush", 0, 0)
theorem d_X1_plannedPush_0 : zDc M_X1_plannedPush 0 (.iload_n 1) 1 1 := ⟨by decide +kernel, rfl⟩
theorem d_X1_plannedPush_1 : zDj M_X1_plannedPush 1 (.ifCond .lt 17) 17 4 18 := ⟨by decide +kernel, rfl, by decide⟩
theorem d_X1_plannedPush_4 : zDc M_X1_plannedPush 4 (.iload_n 1) 1 5 := ⟨by decide +kernel, rfl⟩
theorem d_X1_plannedPush_5 : zDc M_X1_plannedPush 5 (.iconst 4) 1 6 := ⟨by decide +kernel, rfl⟩
theorem d_X1_plannedPush_6 : zDj M_X1_plannedPush 6 (.if_icmp .ge 12) 12 9 18 := ⟨by decide +kernel, rfl, by decide⟩
theorem d_X1_plannedPush_9 : zDc M_X1_plannedPush 9 (.aload_n 0) 1 10 := ⟨by decide +kernel, rfl⟩
theorem d_X1_plannedPush_10 : zDc M_X1_plannedPush 10 (.getfield 24) 3 13 := ⟨by decide +kernel, rfl⟩
theorem d_X1_plannedPush_13 : zDc M_X1_plannedPush 13 (.iload_n 1) 1 14 := ⟨by decide +kernel, rfl⟩
theorem d_X1_plannedPush_14 : zDc M_X1_plannedPush 14 (.iaload) 1 15 := ⟨by decide +kernel, rfl⟩
theorem d_X1_plannedPush_15 : zDj M_X1_plannedPush 15 (.goto 4) 4 18 19 := ⟨by decide +kernel, rfl, by decide⟩
theorem d_X1_plannedPush_18 : zDc M_X1_plannedPush 18 (.iconst (-1)) 1 19 := ⟨by decide +kernel, rfl⟩
theorem d_X1_plannedPush_19 : zDc M_X1_plannedPush 19 (.ireturn) 1 20 := ⟨by decide +kernel, rfl⟩
def f_X1_plannedPush (a0 : Nat) (a1 : Int32) (h0 : zHp) : Option (Int32 × zHp) :=
  if a1 < 0 then
  some ((-1), h0)
  else
  if 4 ≤ a1 then
  some ((-1), h0)
  else
  zob (zgR h0 a0 1 4) (fun v1 =>
  zob (zaI 0 h0 v1 a1) (fun v2 =>
  some (v2, h0)))
set_option maxRecDepth 100000 in
set_option maxHeartbeats 4000000 in
theorem t_X1_plannedPush (a0 : Nat) (a1 : Int32) (h0 : zHp) : ∀ (r : Int32) (h' : zHp), f_X1_plannedPush a0 a1 h0 = some (r, h') → zCt yX1_plannedPush (.code yX1_plannedPush cX1_plannedPush 2 (some .int)) 1 60 0 0 [.ref a0, .int a1] h0 (some (.int r)) h' := by
  refine zct_of M_X1_plannedPush yX1_plannedPush (by decide) rfl rfl [.ref a0, .int a1] h0 (Nat.le_of_ble_eq_true rfl) (fun r => some (.int r)) (fun X => ?_)
  show zG X M_X1_plannedPush (0, 0) 0 [(0, .ref a0), (1, .int a1)] [] h0 (f_X1_plannedPush a0 a1 h0) (fun (r : Int32) h' => zKe X (some (.int r)) h')
  unfold f_X1_plannedPush
  refine zg_iload_n 1 rfl d_X1_plannedPush_0 ?_
  refine zg_if_lt d_X1_plannedPush_1 ?_ ?_
  · refine zg_iconst (-1) rfl d_X1_plannedPush_18 ?_
    exact zg_iretK d_X1_plannedPush_19 rfl ⟨Nat.le_of_ble_eq_true rfl, Nat.le_of_ble_eq_true rfl⟩ (fun q => q)
  · refine zg_iload_n 1 rfl d_X1_plannedPush_4 ?_
    refine zg_iconst 4 rfl d_X1_plannedPush_5 ?_
    refine zg_icmp_ge d_X1_plannedPush_6 ?_ ?_
    · refine zg_iconst (-1) rfl d_X1_plannedPush_18 ?_
      exact zg_iretK d_X1_plannedPush_19 rfl ⟨Nat.le_of_ble_eq_true rfl, Nat.le_of_ble_eq_true rfl⟩ (fun q => q)
    · refine zg_aload_n 0 rfl d_X1_plannedPush_9 ?_
      refine zg_getR d_X1_plannedPush_10 zc_1 (by decide) fl_X1_24 (fun v1 => ?_)
      refine zg_iload_n 1 rfl d_X1_plannedPush_13 ?_
      refine zg_ald0 d_X1_plannedPush_14 (fun v2 => ?_)
      refine zg_goto d_X1_plannedPush_15 ?_
      exact zg_iretK d_X1_plannedPush_19 rfl ⟨Nat.le_of_ble_eq_true rfl, Nat.le_of_ble_eq_true rfl⟩ (fun q => q)
abbrev M_X1_rainByChance : zMt := (RX1, cX1_rainByChance, 5, 6, 183, (some .int), "rainByChance", 0, 0)
theorem d_X1_rainByChance_0 : zDc M_X1_rainByChance 0 (.aload_n 0) 1 1 := ⟨by decide +kernel, rfl⟩
theorem d_X1_rainByChance_1 : zDc M_X1_rainByChance 1 (.getfield 36) 3 4 := ⟨by decide +kernel, rfl⟩
theorem d_X1_rainByChance_4 : zDc M_X1_rainByChance 4 (.aload_n 1) 1 5 := ⟨by decide +kernel, rfl⟩
theorem d_X1_rainByChance_5 : zDc M_X1_rainByChance 5 (.invokevirtual 40) 3 8 := ⟨by decide +kernel, rfl⟩
theorem d_X1_rainByChance_8 : zDc M_X1_rainByChance 8 (.iconst 0) 1 9 := ⟨by decide +kernel, rfl⟩
theorem d_X1_rainByChance_9 : zDc M_X1_rainByChance 9 (.istore 4) 2 11 := ⟨by decide +kernel, rfl⟩
theorem d_X1_rainByChance_11 : zDc M_X1_rainByChance 11 (.iload 4) 2 13 := ⟨by decide +kernel, rfl⟩
theorem d_X1_rainByChance_13 : zDc M_X1_rainByChance 13 (.iload_n 2) 1 14 := ⟨by decide +kernel, rfl⟩
theorem d_X1_rainByChance_14 : zDj M_X1_rainByChance 14 (.if_icmp .ge 22) 22 17 36 := ⟨by decide +kernel, rfl, by decide⟩
theorem d_X1_rainByChance_17 : zDc M_X1_rainByChance 17 (.aload_n 0) 1 18 := ⟨by decide +kernel, rfl⟩
theorem d_X1_rainByChance_18 : zDc M_X1_rainByChance 18 (.getfield 36) 3 21 := ⟨by decide +kernel, rfl⟩
theorem d_X1_rainByChance_21 : zDc M_X1_rainByChance 21 (.aload_n 0) 1 22 := ⟨by decide +kernel, rfl⟩
theorem d_X1_rainByChance_22 : zDc M_X1_rainByChance 22 (.invokevirtual 141) 3 25 := ⟨by decide +kernel, rfl⟩
theorem d_X1_rainByChance_25 : zDc M_X1_rainByChance 25 (.iconst 5) 1 26 := ⟨by decide +kernel, rfl⟩
theorem d_X1_rainByChance_26 : zDc M_X1_rainByChance 26 (.irem) 1 27 := ⟨by decide +kernel, rfl⟩
theorem d_X1_rainByChance_27 : zDc M_X1_rainByChance 27 (.invokevirtual 55) 3 30 := ⟨by decide +kernel, rfl⟩
theorem d_X1_rainByChance_30 : zDc M_X1_rainByChance 30 (.iinc 4 1) 3 33 := ⟨by decide +kernel, rfl⟩
theorem d_X1_rainByChance_33 : zDj M_X1_rainByChance 33 (.goto (-22)) (-22) 36 11 := ⟨by decide +kernel, rfl, by decide⟩
theorem d_X1_rainByChance_36 : zDc M_X1_rainByChance 36 (.aload_n 0) 1 37 := ⟨by decide +kernel, rfl⟩
theorem d_X1_rainByChance_37 : zDc M_X1_rainByChance 37 (.getfield 36) 3 40 := ⟨by decide +kernel, rfl⟩
theorem d_X1_rainByChance_40 : zDc M_X1_rainByChance 40 (.getfield 91) 3 43 := ⟨by decide +kernel, rfl⟩
theorem d_X1_rainByChance_43 : zDc M_X1_rainByChance 43 (.iload_n 3) 1 44 := ⟨by decide +kernel, rfl⟩
theorem d_X1_rainByChance_44 : zDc M_X1_rainByChance 44 (.iaload) 1 45 := ⟨by decide +kernel, rfl⟩
theorem d_X1_rainByChance_45 : zDc M_X1_rainByChance 45 (.aload_n 1) 1 46 := ⟨by decide +kernel, rfl⟩
theorem d_X1_rainByChance_46 : zDc M_X1_rainByChance 46 (.getfield 91) 3 49 := ⟨by decide +kernel, rfl⟩
theorem d_X1_rainByChance_49 : zDc M_X1_rainByChance 49 (.iload_n 3) 1 50 := ⟨by decide +kernel, rfl⟩
theorem d_X1_rainByChance_50 : zDc M_X1_rainByChance 50 (.iaload) 1 51 := ⟨by decide +kernel, rfl⟩
theorem d_X1_rainByChance_51 : zDc M_X1_rainByChance 51 (.isub) 1 52 := ⟨by decide +kernel, rfl⟩
theorem d_X1_rainByChance_52 : zDc M_X1_rainByChance 52 (.ireturn) 1 53 := ⟨by decide +kernel, rfl⟩
def f_X1_rainByChance (a0 : Nat) (a1 : Nat) (a2 : Int32) (a3 : Int32) (h0 : zHp) : Option (Int32 × zHp) :=
  zob (zgR h0 a0 1 1) (fun v1 =>
  zbd (zcv 5 v1 h0 (f_X5_copyFrom v1 a1 h0)) (fun v3 h2 =>
  zbd (
  zlp (σ := Int32) (β := Int32) zLF (fun s4 h5 =>
  if a2 ≤ s4 then
  some ((.inr s4), h5)
  else
  zob (zgR h5 a0 1 1) (fun v8 =>
  zbd (zcv 1 a0 h5 (f_X1_drawNumber a0 h5)) (fun v10 h9 =>
  zbd (zcv 5 v8 h9 (f_X5_passHour v8 (zrm v10 5) h9)) (fun v12 h11 =>
  some ((.inl (s4 + 1)), h11))))) 0 h2) (fun e6 h7 =>
  zob (zgR h7 a0 1 1) (fun v13 =>
  zob (zgR h7 v13 5 9) (fun v14 =>
  zob (zaI 0 h7 v14 a3) (fun v15 =>
  zob (zgR h7 a1 5 9) (fun v16 =>
  zob (zaI 0 h7 v16 a3) (fun v17 =>
  some ((v15 - v17), h7)))))))))
set_option maxRecDepth 100000 in
set_option maxHeartbeats 4000000 in
theorem t_X1_rainByChance (a0 : Nat) (a1 : Nat) (a2 : Int32) (a3 : Int32) (h0 : zHp) : ∀ (r : Int32) (h' : zHp), f_X1_rainByChance a0 a1 a2 a3 h0 = some (r, h') → zCt yX1_rainByChance (.code yX1_rainByChance cX1_rainByChance 5 (some .int)) 6 183 0 0 [.ref a0, .ref a1, .int a2, .int a3] h0 (some (.int r)) h' := by
  refine zct_of M_X1_rainByChance yX1_rainByChance (by decide) rfl rfl [.ref a0, .ref a1, .int a2, .int a3] h0 (Nat.le_of_ble_eq_true rfl) (fun r => some (.int r)) (fun X => ?_)
  show zG X M_X1_rainByChance (0, 0) 0 [(0, .ref a0), (1, .ref a1), (2, .int a2), (3, .int a3)] [] h0 (f_X1_rainByChance a0 a1 a2 a3 h0) (fun (r : Int32) h' => zKe X (some (.int r)) h')
  unfold f_X1_rainByChance
  refine zg_aload_n 0 rfl d_X1_rainByChance_0 ?_
  refine zg_getR d_X1_rainByChance_1 zc_1 (by decide) fl_X1_36 (fun v1 => ?_)
  refine zg_aload_n 1 rfl d_X1_rainByChance_4 ?_
  refine zg_cVv (b := v1) (As := [.ref a1]) (rest := []) (0, 0) d_X1_rainByChance_5 zc_5 rfl cw_X1_40 wi_X5_copyFrom ws_X5_copyFrom rfl rfl (Nat.le_of_ble_eq_true rfl) (by decide) (by decide) ⟨by decide, by decide⟩ rfl (t_X5_copyFrom v1 a1 h0) (fun v3 h2 => ?_)
  refine zg_iconst 0 rfl d_X1_rainByChance_8 ?_
  refine zg_istore [(4, .int 0), (0, .ref a0), (1, .ref a1), (2, .int a2), (3, .int a3)] d_X1_rainByChance_9 (by decide) rfl ?_
  refine zg_bd (E := 36) (el := (fun (e6 : Int32) => [(0, .ref a0), (1, .ref a1), (2, .int a2), (3, .int a3), (4, .int e6)])) (es := fun _ => []) (zg_sub [1, 2, 3, 4, 0] rfl (zg_lp (el := (fun (s4 : Int32) => [(0, .ref a0), (1, .ref a1), (2, .int a2), (3, .int a3), (4, .int s4)])) (fun s4 h5 => ?_) 0 h2)) (fun e6 h7 => ?_)
  · refine zg_iload 4 rfl d_X1_rainByChance_11 ?_
    refine zg_iload_n 2 rfl d_X1_rainByChance_13 ?_
    refine zg_icmp_ge d_X1_rainByChance_14 ?_ ?_
    · exact zg_finK (E := 0) [0, 1, 2, 3, 4] rfl rfl (fun q => q)
    · refine zg_aload_n 0 rfl d_X1_rainByChance_17 ?_
      refine zg_getR d_X1_rainByChance_18 zc_1 (by decide) fl_X1_36 (fun v8 => ?_)
      refine zg_aload_n 0 rfl d_X1_rainByChance_21 ?_
      refine zg_cVi (b := a0) (As := []) (rest := [.ref v8]) (0, 0) d_X1_rainByChance_22 zc_1 rfl cw_X1_141 wi_X1_drawNumber ws_X1_drawNumber rfl rfl (Nat.le_of_ble_eq_true rfl) (by decide) (by decide) ⟨by decide, by decide⟩ rfl (t_X1_drawNumber a0 h5) (fun v10 h9 => ?_)
      refine zg_iconst 5 rfl d_X1_rainByChance_25 ?_
      refine zg_irem (by decide) d_X1_rainByChance_26 ?_
      refine zg_cVv (b := v8) (As := [.int (zrm v10 5)]) (rest := []) (0, 0) d_X1_rainByChance_27 zc_5 rfl cw_X1_55 wi_X5_passHour ws_X5_passHour rfl rfl (Nat.le_of_ble_eq_true rfl) (by decide) (by decide) ⟨by decide, by decide⟩ rfl (t_X5_passHour v8 (zrm v10 5) h9) (fun v12 h11 => ?_)
      refine zg_iinc 4 (s4 + 1) [(4, .int (s4 + 1)), (0, .ref a0), (1, .ref a1), (2, .int a2), (3, .int a3)] d_X1_rainByChance_30 rfl rfl (by decide) rfl ?_
      refine zg_goto d_X1_rainByChance_33 ?_
      exact zg_finK (E := 0) [1, 2, 3, 4, 0] rfl rfl (fun q => q)
  · refine zg_aload_n 0 rfl d_X1_rainByChance_36 ?_
    refine zg_getR d_X1_rainByChance_37 zc_1 (by decide) fl_X1_36 (fun v13 => ?_)
    refine zg_getR d_X1_rainByChance_40 zc_5 (by decide) fl_X1_91 (fun v14 => ?_)
    refine zg_iload_n 3 rfl d_X1_rainByChance_43 ?_
    refine zg_ald0 d_X1_rainByChance_44 (fun v15 => ?_)
    refine zg_aload_n 1 rfl d_X1_rainByChance_45 ?_
    refine zg_getR d_X1_rainByChance_46 zc_5 (by decide) fl_X1_91 (fun v16 => ?_)
    refine zg_iload_n 3 rfl d_X1_rainByChance_49 ?_
    refine zg_ald0 d_X1_rainByChance_50 (fun v17 => ?_)
    refine zg_isub d_X1_rainByChance_51 ?_
    exact zg_iretK d_X1_rainByChance_52 rfl ⟨Nat.le_of_ble_eq_true rfl, Nat.le_of_ble_eq_true rfl⟩ (fun q => q)
abbrev M_X1_rowsOf : zMt := (RX1, cX1_rowsOf, 3, 1, 60, (some .int), "rowsOf", 0, 0)
theorem d_X1_rowsOf_0 : zDc M_X1_rowsOf 0 (.iconst 1) 1 1 := ⟨by decide +kernel, rfl⟩
theorem d_X1_rowsOf_1 : zDc M_X1_rowsOf 1 (.istore_n 1) 1 2 := ⟨by decide +kernel, rfl⟩
theorem d_X1_rowsOf_2 : zDc M_X1_rowsOf 2 (.iconst 0) 1 3 := ⟨by decide +kernel, rfl⟩
theorem d_X1_rowsOf_3 : zDc M_X1_rowsOf 3 (.istore_n 2) 1 4 := ⟨by decide +kernel, rfl⟩
theorem d_X1_rowsOf_4 : zDc M_X1_rowsOf 4 (.iload_n 2) 1 5 := ⟨by decide +kernel, rfl⟩
theorem d_X1_rowsOf_5 : zDc M_X1_rowsOf 5 (.iload_n 0) 1 6 := ⟨by decide +kernel, rfl⟩
theorem d_X1_rowsOf_6 : zDj M_X1_rowsOf 6 (.if_icmp .ge 13) 13 9 19 := ⟨by decide +kernel, rfl, by decide⟩
theorem d_X1_rowsOf_9 : zDc M_X1_rowsOf 9 (.iload_n 1) 1 10 := ⟨by decide +kernel, rfl⟩
theorem d_X1_rowsOf_10 : zDc M_X1_rowsOf 10 (.iconst 5) 1 11 := ⟨by decide +kernel, rfl⟩
theorem d_X1_rowsOf_11 : zDc M_X1_rowsOf 11 (.imul) 1 12 := ⟨by decide +kernel, rfl⟩
theorem d_X1_rowsOf_12 : zDc M_X1_rowsOf 12 (.istore_n 1) 1 13 := ⟨by decide +kernel, rfl⟩
theorem d_X1_rowsOf_13 : zDc M_X1_rowsOf 13 (.iinc 2 1) 3 16 := ⟨by decide +kernel, rfl⟩
theorem d_X1_rowsOf_16 : zDj M_X1_rowsOf 16 (.goto (-12)) (-12) 19 4 := ⟨by decide +kernel, rfl, by decide⟩
theorem d_X1_rowsOf_19 : zDc M_X1_rowsOf 19 (.iload_n 1) 1 20 := ⟨by decide +kernel, rfl⟩
theorem d_X1_rowsOf_20 : zDc M_X1_rowsOf 20 (.ireturn) 1 21 := ⟨by decide +kernel, rfl⟩
def f_X1_rowsOf (a0 : Int32) (h0 : zHp) : Option (Int32 × zHp) :=
  zbd (
  zlp (σ := (Int32 × Int32)) (β := (Int32 × Int32)) zLF (fun s1 h2 =>
  if a0 ≤ s1.2 then
  some ((.inr (s1.1, s1.2)), h2)
  else
  some ((.inl ((s1.1 * 5), (s1.2 + 1))), h2)) (1, 0) h0) (fun e3 h4 =>
  some (e3.1, h4))
set_option maxRecDepth 100000 in
set_option maxHeartbeats 4000000 in
theorem t_X1_rowsOf (a0 : Int32) (h0 : zHp) : ∀ (r : Int32) (h' : zHp), f_X1_rowsOf a0 h0 = some (r, h') → zCt yX1_rowsOf (.code yX1_rowsOf cX1_rowsOf 3 (some .int)) 1 60 0 0 [.int a0] h0 (some (.int r)) h' := by
  refine zct_of M_X1_rowsOf yX1_rowsOf (by decide) rfl rfl [.int a0] h0 (Nat.le_of_ble_eq_true rfl) (fun r => some (.int r)) (fun X => ?_)
  show zG X M_X1_rowsOf (0, 0) 0 [(0, .int a0)] [] h0 (f_X1_rowsOf a0 h0) (fun (r : Int32) h' => zKe X (some (.int r)) h')
  unfold f_X1_rowsOf
  refine zg_iconst 1 rfl d_X1_rowsOf_0 ?_
  refine zg_istore_n [(1, .int 1), (0, .int a0)] d_X1_rowsOf_1 rfl (by decide) rfl ?_
  refine zg_iconst 0 rfl d_X1_rowsOf_2 ?_
  refine zg_istore_n [(2, .int 0), (1, .int 1), (0, .int a0)] d_X1_rowsOf_3 rfl (by decide) rfl ?_
  refine zg_bd (E := 19) (el := (fun (e3 : (Int32 × Int32)) => [(0, .int a0), (1, .int e3.1), (2, .int e3.2)])) (es := fun _ => []) (zg_sub [2, 1, 0] rfl (zg_lp (el := (fun (s1 : (Int32 × Int32)) => [(0, .int a0), (1, .int s1.1), (2, .int s1.2)])) (fun s1 h2 => ?_) (1, 0) h0)) (fun e3 h4 => ?_)
  · refine zg_iload_n 2 rfl d_X1_rowsOf_4 ?_
    refine zg_iload_n 0 rfl d_X1_rowsOf_5 ?_
    refine zg_icmp_ge d_X1_rowsOf_6 ?_ ?_
    · exact zg_finK (E := 0) [0, 1, 2] rfl rfl (fun q => q)
    · refine zg_iload_n 1 rfl d_X1_rowsOf_9 ?_
      refine zg_iconst 5 rfl d_X1_rowsOf_10 ?_
      refine zg_imul d_X1_rowsOf_11 ?_
      refine zg_istore_n [(1, .int (s1.1 * 5)), (0, .int a0), (2, .int s1.2)] d_X1_rowsOf_12 rfl (by decide) rfl ?_
      refine zg_iinc 2 (s1.2 + 1) [(2, .int (s1.2 + 1)), (1, .int (s1.1 * 5)), (0, .int a0)] d_X1_rowsOf_13 rfl rfl (by decide) rfl ?_
      refine zg_goto d_X1_rowsOf_16 ?_
      exact zg_finK (E := 0) [2, 1, 0] rfl rfl (fun q => q)
  · refine zg_iload_n 1 rfl d_X1_rowsOf_19 ?_
    exact zg_iretK d_X1_rowsOf_20 rfl ⟨Nat.le_of_ble_eq_true rfl, Nat.le_of_ble_eq_true rfl⟩ (fun q => q)
abbrev M_X1_seenFrom : zMt := (RX1, cX1_seenFrom, 2, 1, 60, (some .int), "seenFrom", 0, 0)
theorem d_X1_seenFrom_0 : zDc M_X1_seenFrom 0 (.iload_n 1) 1 1 := ⟨by decide +kernel, rfl⟩
theorem d_X1_seenFrom_1 : zDj M_X1_seenFrom 1 (.ifCond .lt 18) 18 4 19 := ⟨by decide +kernel, rfl, by decide⟩
theorem d_X1_seenFrom_4 : zDc M_X1_seenFrom 4 (.iload_n 1) 1 5 := ⟨by decide +kernel, rfl⟩
theorem d_X1_seenFrom_5 : zDc M_X1_seenFrom 5 (.bipush 24) 2 7 := ⟨by decide +kernel, rfl⟩
theorem d_X1_seenFrom_7 : zDj M_X1_seenFrom 7 (.if_icmp .ge 12) 12 10 19 := ⟨by decide +kernel, rfl, by decide⟩
theorem d_X1_seenFrom_10 : zDc M_X1_seenFrom 10 (.aload_n 0) 1 11 := ⟨by decide +kernel, rfl⟩
theorem d_X1_seenFrom_11 : zDc M_X1_seenFrom 11 (.getfield 17) 3 14 := ⟨by decide +kernel, rfl⟩
theorem d_X1_seenFrom_14 : zDc M_X1_seenFrom 14 (.iload_n 1) 1 15 := ⟨by decide +kernel, rfl⟩
theorem d_X1_seenFrom_15 : zDc M_X1_seenFrom 15 (.iaload) 1 16 := ⟨by decide +kernel, rfl⟩
theorem d_X1_seenFrom_16 : zDj M_X1_seenFrom 16 (.goto 4) 4 19 20 := ⟨by decide +kernel, rfl, by decide⟩
theorem d_X1_seenFrom_19 : zDc M_X1_seenFrom 19 (.iconst 0) 1 20 := ⟨by decide +kernel, rfl⟩
theorem d_X1_seenFrom_20 : zDc M_X1_seenFrom 20 (.ireturn) 1 21 := ⟨by decide +kernel, rfl⟩
def f_X1_seenFrom (a0 : Nat) (a1 : Int32) (h0 : zHp) : Option (Int32 × zHp) :=
  if a1 < 0 then
  some (0, h0)
  else
  if 24 ≤ a1 then
  some (0, h0)
  else
  zob (zgR h0 a0 1 2) (fun v1 =>
  zob (zaI 0 h0 v1 a1) (fun v2 =>
  some (v2, h0)))
set_option maxRecDepth 100000 in
set_option maxHeartbeats 4000000 in
theorem t_X1_seenFrom (a0 : Nat) (a1 : Int32) (h0 : zHp) : ∀ (r : Int32) (h' : zHp), f_X1_seenFrom a0 a1 h0 = some (r, h') → zCt yX1_seenFrom (.code yX1_seenFrom cX1_seenFrom 2 (some .int)) 1 60 0 0 [.ref a0, .int a1] h0 (some (.int r)) h' := by
  refine zct_of M_X1_seenFrom yX1_seenFrom (by decide) rfl rfl [.ref a0, .int a1] h0 (Nat.le_of_ble_eq_true rfl) (fun r => some (.int r)) (fun X => ?_)
  show zG X M_X1_seenFrom (0, 0) 0 [(0, .ref a0), (1, .int a1)] [] h0 (f_X1_seenFrom a0 a1 h0) (fun (r : Int32) h' => zKe X (some (.int r)) h')
  unfold f_X1_seenFrom
  refine zg_iload_n 1 rfl d_X1_seenFrom_0 ?_
  refine zg_if_lt d_X1_seenFrom_1 ?_ ?_
  · refine zg_iconst 0 rfl d_X1_seenFrom_19 ?_
    exact zg_iretK d_X1_seenFrom_20 rfl ⟨Nat.le_of_ble_eq_true rfl, Nat.le_of_ble_eq_true rfl⟩ (fun q => q)
  · refine zg_iload_n 1 rfl d_X1_seenFrom_4 ?_
    refine zg_bipush 24 rfl d_X1_seenFrom_5 ?_
    refine zg_icmp_ge d_X1_seenFrom_7 ?_ ?_
    · refine zg_iconst 0 rfl d_X1_seenFrom_19 ?_
      exact zg_iretK d_X1_seenFrom_20 rfl ⟨Nat.le_of_ble_eq_true rfl, Nat.le_of_ble_eq_true rfl⟩ (fun q => q)
    · refine zg_aload_n 0 rfl d_X1_seenFrom_10 ?_
      refine zg_getR d_X1_seenFrom_11 zc_1 (by decide) fl_X1_17 (fun v1 => ?_)
      refine zg_iload_n 1 rfl d_X1_seenFrom_14 ?_
      refine zg_ald0 d_X1_seenFrom_15 (fun v2 => ?_)
      refine zg_goto d_X1_seenFrom_16 ?_
      exact zg_iretK d_X1_seenFrom_20 rfl ⟨Nat.le_of_ble_eq_true rfl, Nat.le_of_ble_eq_true rfl⟩ (fun q => q)

theorem fl_X4_108 : Cond.fieldLink RX4 108 (TX4 6).1 (TX4 6).2.1 (TX4 6).2.2.1 ∈ zT := zw_of _ 347 (by decide +kernel) (by decide +kernel)
theorem fl_X4_56 : Cond.fieldLink RX4 56 (TX4 3).1 (TX4 3).2.1 (TX4 3).2.2.1 ∈ zT := zw_of _ 344 (by decide +kernel) (by decide +kernel)
theorem fl_X4_53 : Cond.fieldLink RX4 53 (TX4 2).1 (TX4 2).2.1 (TX4 2).2.2.1 ∈ zT := zw_of _ 343 (by decide +kernel) (by decide +kernel)
theorem fl_X4_15 : Cond.fieldLink RX4 15 (TX4 1).1 (TX4 1).2.1 (TX4 1).2.2.1 ∈ zT := zw_of _ 342 (by decide +kernel) (by decide +kernel)
theorem kc_X4_111 : Cond.constant RX4 111 1000000 ∈ zT := zw_of _ 651 (by decide +kernel) (by decide +kernel)
theorem fl_X4_105 : Cond.fieldLink RX4 105 (TX4 7).1 (TX4 7).2.1 (TX4 7).2.2.1 ∈ zT := zw_of _ 348 (by decide +kernel) (by decide +kernel)
theorem fl_X4_9 : Cond.fieldLink RX4 9 (TX4 0).1 (TX4 0).2.1 (TX4 0).2.2.1 ∈ zT := zw_of _ 341 (by decide +kernel) (by decide +kernel)
theorem fl_X4_29 : Cond.fieldLink RX4 29 (TX4 14).1 (TX4 14).2.1 (TX4 14).2.2.1 ∈ zT := zw_of _ 355 (by decide +kernel) (by decide +kernel)
theorem fl_X4_75 : Cond.fieldLink RX4 75 (TX4 5).1 (TX4 5).2.1 (TX4 5).2.2.1 ∈ zT := zw_of _ 346 (by decide +kernel) (by decide +kernel)
theorem ml_X4_85 : Cond.methodLink RX4 85 yX4_isLetter ∈ zT := zw_of _ 633 (by decide +kernel) (by decide +kernel)
theorem ni_X4 : Cond.initialized RX4 ∈ zT := zw_of _ 124 (by decide +kernel) (by decide +kernel)
theorem cd_X4_isLetter : Cond.code yX4_isLetter cX4_isLetter 1 (some .boolean) ∈ zT := zw_of _ 635 (by decide +kernel) (by decide +kernel)
theorem cw_X4_85 : zCw RX4 85 yX4_isLetter cX4_isLetter 1 (some .boolean) 1 := ⟨ml_X4_85, ni_X4, cd_X4_isLetter, by decide, by decide, by decide +kernel⟩
theorem wt_X4_isLetter : Cond.static yX4_isLetter ∈ zT := zw_of _ 634 (by decide +kernel) (by decide +kernel)
theorem ml_X4_96 : Cond.methodLink RX4 96 yX4_isDigit ∈ zT := zw_of _ 644 (by decide +kernel) (by decide +kernel)
theorem cd_X4_isDigit : Cond.code yX4_isDigit cX4_isDigit 1 (some .boolean) ∈ zT := zw_of _ 646 (by decide +kernel) (by decide +kernel)
theorem cw_X4_96 : zCw RX4 96 yX4_isDigit cX4_isDigit 1 (some .boolean) 1 := ⟨ml_X4_96, ni_X4, cd_X4_isDigit, by decide, by decide, by decide +kernel⟩
theorem wt_X4_isDigit : Cond.static yX4_isDigit ∈ zT := zw_of _ 645 (by decide +kernel) (by decide +kernel)
theorem ml_X4_102 : Cond.methodLink RX4 102 yX4_signToken ∈ zT := zw_of _ 652 (by decide +kernel) (by decide +kernel)
theorem cd_X4_signToken : Cond.code yX4_signToken cX4_signToken 2 (some .int) ∈ zT := zw_of _ 654 (by decide +kernel) (by decide +kernel)
theorem cw_X4_102 : zCw RX4 102 yX4_signToken cX4_signToken 2 (some .int) 2 := ⟨ml_X4_102, ni_X4, cd_X4_signToken, by decide, by decide, by decide +kernel⟩
theorem wt_X4_signToken : Cond.static yX4_signToken ∈ zT := zw_of _ 653 (by decide +kernel) (by decide +kernel)
theorem fl_X4_65 : Cond.fieldLink RX4 65 (TX4 4).1 (TX4 4).2.1 (TX4 4).2.2.1 ∈ zT := zw_of _ 345 (by decide +kernel) (by decide +kernel)
theorem ml_X4_99 : Cond.methodLink RX4 99 yX4_takeNumber ∈ zT := zw_of _ 647 (by decide +kernel) (by decide +kernel)
theorem cd_X4_takeNumber : Cond.code yX4_takeNumber cX4_takeNumber 2 none ∈ zT := zw_of _ 650 (by decide +kernel) (by decide +kernel)
theorem cw_X4_99 : zCw RX4 99 yX4_takeNumber cX4_takeNumber 2 none 0 := ⟨ml_X4_99, ni_X4, cd_X4_takeNumber, by decide, by decide, by decide +kernel⟩
theorem wi_X4_takeNumber : Cond.instanceMethod yX4_takeNumber ∈ zT := zw_of _ 649 (by decide +kernel) (by decide +kernel)
theorem ws_X4_takeNumber : Cond.selects RX4 yX4_takeNumber yX4_takeNumber ∈ zT := zw_of _ 4 (by decide +kernel) (by decide +kernel)
theorem ml_X4_89 : Cond.methodLink RX4 89 yX4_takeWord ∈ zT := zw_of _ 636 (by decide +kernel) (by decide +kernel)
theorem cd_X4_takeWord : Cond.code yX4_takeWord cX4_takeWord 2 none ∈ zT := zw_of _ 639 (by decide +kernel) (by decide +kernel)
theorem cw_X4_89 : zCw RX4 89 yX4_takeWord cX4_takeWord 2 none 0 := ⟨ml_X4_89, ni_X4, cd_X4_takeWord, by decide, by decide, by decide +kernel⟩
theorem wi_X4_takeWord : Cond.instanceMethod yX4_takeWord ∈ zT := zw_of _ 638 (by decide +kernel) (by decide +kernel)
theorem ws_X4_takeWord : Cond.selects RX4 yX4_takeWord yX4_takeWord ∈ zT := zw_of _ 2 (by decide +kernel) (by decide +kernel)
theorem ml_X4_92 : Cond.methodLink RX4 92 yX4_wordToken ∈ zT := zw_of _ 640 (by decide +kernel) (by decide +kernel)
theorem cd_X4_wordToken : Cond.code yX4_wordToken cX4_wordToken 2 (some .int) ∈ zT := zw_of _ 643 (by decide +kernel) (by decide +kernel)
theorem cw_X4_92 : zCw RX4 92 yX4_wordToken cX4_wordToken 2 (some .int) 0 := ⟨ml_X4_92, ni_X4, cd_X4_wordToken, by decide, by decide, by decide +kernel⟩
theorem wi_X4_wordToken : Cond.instanceMethod yX4_wordToken ∈ zT := zw_of _ 642 (by decide +kernel) (by decide +kernel)
theorem ws_X4_wordToken : Cond.selects RX4 yX4_wordToken yX4_wordToken ∈ zT := zw_of _ 3 (by decide +kernel) (by decide +kernel)
theorem fl_X4_33 : Cond.fieldLink RX4 33 (TX4 15).1 (TX4 15).2.1 (TX4 15).2.2.1 ∈ zT := zw_of _ 357 (by decide +kernel) (by decide +kernel)
theorem ml_X4_78 : Cond.methodLink RX4 78 yX4_failAt ∈ zT := zw_of _ 675 (by decide +kernel) (by decide +kernel)
theorem cd_X4_failAt : Cond.code yX4_failAt cX4_failAt 3 none ∈ zT := zw_of _ 678 (by decide +kernel) (by decide +kernel)
theorem cw_X4_78 : zCw RX4 78 yX4_failAt cX4_failAt 3 none 2 := ⟨ml_X4_78, ni_X4, cd_X4_failAt, by decide, by decide, by decide +kernel⟩
theorem wi_X4_failAt : Cond.instanceMethod yX4_failAt ∈ zT := zw_of _ 677 (by decide +kernel) (by decide +kernel)
theorem ws_X4_failAt : Cond.selects RX4 yX4_failAt yX4_failAt ∈ zT := zw_of _ 10 (by decide +kernel) (by decide +kernel)
theorem fl_X4_22 : Cond.fieldLink RX4 22 (TX4 10).1 (TX4 10).2.1 (TX4 10).2.2.1 ∈ zT := zw_of _ 351 (by decide +kernel) (by decide +kernel)
theorem fl_X4_218 : Cond.fieldLink RX4 218 (TX6 12).1 (TX6 12).2.1 (TX6 12).2.2.1 ∈ zT := zw_of _ 236 (by decide +kernel) (by decide +kernel)
theorem fl_X4_252 : Cond.fieldLink RX4 252 (TX2 5).1 (TX2 5).2.1 (TX2 5).2.2.1 ∈ zT := zw_of _ 176 (by decide +kernel) (by decide +kernel)
theorem ml_X4_82 : Cond.methodLink RX4 82 yX4_fail ∈ zT := zw_of _ 671 (by decide +kernel) (by decide +kernel)
theorem cd_X4_fail : Cond.code yX4_fail cX4_fail 2 none ∈ zT := zw_of _ 674 (by decide +kernel) (by decide +kernel)
theorem cw_X4_82 : zCw RX4 82 yX4_fail cX4_fail 2 none 1 := ⟨ml_X4_82, ni_X4, cd_X4_fail, by decide, by decide, by decide +kernel⟩
theorem wi_X4_fail : Cond.instanceMethod yX4_fail ∈ zT := zw_of _ 673 (by decide +kernel) (by decide +kernel)
theorem ws_X4_fail : Cond.selects RX4 yX4_fail yX4_fail ∈ zT := zw_of _ 9 (by decide +kernel) (by decide +kernel)
theorem ml_X4_62 : Cond.methodLink RX4 62 yX4_advance ∈ zT := zw_of _ 629 (by decide +kernel) (by decide +kernel)
theorem cd_X4_advance : Cond.code yX4_advance cX4_advance 1 none ∈ zT := zw_of _ 632 (by decide +kernel) (by decide +kernel)
theorem cw_X4_62 : zCw RX4 62 yX4_advance cX4_advance 1 none 0 := ⟨ml_X4_62, ni_X4, cd_X4_advance, by decide, by decide, by decide +kernel⟩
theorem wi_X4_advance : Cond.instanceMethod yX4_advance ∈ zT := zw_of _ 631 (by decide +kernel) (by decide +kernel)
theorem ws_X4_advance : Cond.selects RX4 yX4_advance yX4_advance ∈ zT := zw_of _ 1 (by decide +kernel) (by decide +kernel)
theorem fl_X4_230 : Cond.fieldLink RX4 230 (TX4 12).1 (TX4 12).2.1 (TX4 12).2.2.1 ∈ zT := zw_of _ 353 (by decide +kernel) (by decide +kernel)
theorem fl_X4_26 : Cond.fieldLink RX4 26 (TX4 11).1 (TX4 11).2.1 (TX4 11).2.2.1 ∈ zT := zw_of _ 352 (by decide +kernel) (by decide +kernel)
theorem ml_X4_267 : Cond.methodLink RX4 267 yX4_rankOf ∈ zT := zw_of _ 747 (by decide +kernel) (by decide +kernel)
theorem cd_X4_rankOf : Cond.code yX4_rankOf cX4_rankOf 1 (some .int) ∈ zT := zw_of _ 749 (by decide +kernel) (by decide +kernel)
theorem cw_X4_267 : zCw RX4 267 yX4_rankOf cX4_rankOf 1 (some .int) 1 := ⟨ml_X4_267, ni_X4, cd_X4_rankOf, by decide, by decide, by decide +kernel⟩
theorem wt_X4_rankOf : Cond.static yX4_rankOf ∈ zT := zw_of _ 748 (by decide +kernel) (by decide +kernel)
theorem fl_X4_233 : Cond.fieldLink RX4 233 (TX4 13).1 (TX4 13).2.1 (TX4 13).2.2.1 ∈ zT := zw_of _ 354 (by decide +kernel) (by decide +kernel)
theorem ml_X4_271 : Cond.methodLink RX4 271 yX2_place ∈ zT := zw_of _ 762 (by decide +kernel) (by decide +kernel)
theorem cd_X2_place : Cond.code yX2_place cX2_place 2 none ∈ zT := zw_of _ 765 (by decide +kernel) (by decide +kernel)
theorem cw_X4_271 : zCw RX4 271 yX2_place cX2_place 2 none 1 := ⟨ml_X4_271, ni_X2, cd_X2_place, by decide, by decide, by decide +kernel⟩
theorem wi_X2_place : Cond.instanceMethod yX2_place ∈ zT := zw_of _ 763 (by decide +kernel) (by decide +kernel)
theorem ws_X2_place : Cond.selects RX2 yX2_place yX2_place ∈ zT := zw_of _ 764 (by decide +kernel) (by decide +kernel)
theorem ml_X4_255 : Cond.methodLink RX4 255 yX4_openOne ∈ zT := zw_of _ 739 (by decide +kernel) (by decide +kernel)
theorem cd_X4_openOne : Cond.code yX4_openOne cX4_openOne 1 none ∈ zT := zw_of _ 742 (by decide +kernel) (by decide +kernel)
theorem cw_X4_255 : zCw RX4 255 yX4_openOne cX4_openOne 1 none 0 := ⟨ml_X4_255, ni_X4, cd_X4_openOne, by decide, by decide, by decide +kernel⟩
theorem wi_X4_openOne : Cond.instanceMethod yX4_openOne ∈ zT := zw_of _ 741 (by decide +kernel) (by decide +kernel)
theorem ws_X4_openOne : Cond.selects RX4 yX4_openOne yX4_openOne ∈ zT := zw_of _ 23 (by decide +kernel) (by decide +kernel)
theorem ml_X4_258 : Cond.methodLink RX4 258 yX4_mayTurn ∈ zT := zw_of _ 743 (by decide +kernel) (by decide +kernel)
theorem cd_X4_mayTurn : Cond.code yX4_mayTurn cX4_mayTurn 1 (some .boolean) ∈ zT := zw_of _ 746 (by decide +kernel) (by decide +kernel)
theorem cw_X4_258 : zCw RX4 258 yX4_mayTurn cX4_mayTurn 1 (some .boolean) 0 := ⟨ml_X4_258, ni_X4, cd_X4_mayTurn, by decide, by decide, by decide +kernel⟩
theorem wi_X4_mayTurn : Cond.instanceMethod yX4_mayTurn ∈ zT := zw_of _ 745 (by decide +kernel) (by decide +kernel)
theorem ws_X4_mayTurn : Cond.selects RX4 yX4_mayTurn yX4_mayTurn ∈ zT := zw_of _ 24 (by decide +kernel) (by decide +kernel)
theorem ml_X4_261 : Cond.methodLink RX4 261 yX4_countKnot ∈ zT := zw_of _ 750 (by decide +kernel) (by decide +kernel)
theorem cd_X4_countKnot : Cond.code yX4_countKnot cX4_countKnot 1 none ∈ zT := zw_of _ 753 (by decide +kernel) (by decide +kernel)
theorem cw_X4_261 : zCw RX4 261 yX4_countKnot cX4_countKnot 1 none 0 := ⟨ml_X4_261, ni_X4, cd_X4_countKnot, by decide, by decide, by decide +kernel⟩
theorem wi_X4_countKnot : Cond.instanceMethod yX4_countKnot ∈ zT := zw_of _ 752 (by decide +kernel) (by decide +kernel)
theorem ws_X4_countKnot : Cond.selects RX4 yX4_countKnot yX4_countKnot ∈ zT := zw_of _ 25 (by decide +kernel) (by decide +kernel)
theorem ml_X4_264 : Cond.methodLink RX4 264 yX4_letWait ∈ zT := zw_of _ 754 (by decide +kernel) (by decide +kernel)
theorem cd_X4_letWait : Cond.code yX4_letWait cX4_letWait 2 none ∈ zT := zw_of _ 757 (by decide +kernel) (by decide +kernel)
theorem cw_X4_264 : zCw RX4 264 yX4_letWait cX4_letWait 2 none 1 := ⟨ml_X4_264, ni_X4, cd_X4_letWait, by decide, by decide, by decide +kernel⟩
theorem wi_X4_letWait : Cond.instanceMethod yX4_letWait ∈ zT := zw_of _ 756 (by decide +kernel) (by decide +kernel)
theorem ws_X4_letWait : Cond.selects RX4 yX4_letWait yX4_letWait ∈ zT := zw_of _ 26 (by decide +kernel) (by decide +kernel)
theorem fl_X4_139 : Cond.fieldLink RX4 139 (TX4 8).1 (TX4 8).2.1 (TX4 8).2.2.1 ∈ zT := zw_of _ 349 (by decide +kernel) (by decide +kernel)
abbrev M_X4_takeNumber : zMt := (RX4, cX4_takeNumber, 2, 1, 60, none, "takeNumber", 0, 0)
theorem d_X4_takeNumber_0 : zDc M_X4_takeNumber 0 (.aload_n 0) 1 1 := ⟨by decide +kernel, rfl⟩
theorem d_X4_takeNumber_1 : zDc M_X4_takeNumber 1 (.iconst 0) 1 2 := ⟨by decide +kernel, rfl⟩
theorem d_X4_takeNumber_2 : zDc M_X4_takeNumber 2 (.putfield 108) 3 5 := ⟨by decide +kernel, rfl⟩
theorem d_X4_takeNumber_5 : zDc M_X4_takeNumber 5 (.aload_n 0) 1 6 := ⟨by decide +kernel, rfl⟩
theorem d_X4_takeNumber_6 : zDc M_X4_takeNumber 6 (.getfield 56) 3 9 := ⟨by decide +kernel, rfl⟩
theorem d_X4_takeNumber_9 : zDc M_X4_takeNumber 9 (.aload_n 0) 1 10 := ⟨by decide +kernel, rfl⟩
theorem d_X4_takeNumber_10 : zDc M_X4_takeNumber 10 (.getfield 53) 3 13 := ⟨by decide +kernel, rfl⟩
theorem d_X4_takeNumber_13 : zDj M_X4_takeNumber 13 (.if_icmp .ge 81) 81 16 94 := ⟨by decide +kernel, rfl, by decide⟩
theorem d_X4_takeNumber_16 : zDc M_X4_takeNumber 16 (.aload_n 0) 1 17 := ⟨by decide +kernel, rfl⟩
theorem d_X4_takeNumber_17 : zDc M_X4_takeNumber 17 (.getfield 15) 3 20 := ⟨by decide +kernel, rfl⟩
theorem d_X4_takeNumber_20 : zDc M_X4_takeNumber 20 (.aload_n 0) 1 21 := ⟨by decide +kernel, rfl⟩
theorem d_X4_takeNumber_21 : zDc M_X4_takeNumber 21 (.getfield 56) 3 24 := ⟨by decide +kernel, rfl⟩
theorem d_X4_takeNumber_24 : zDc M_X4_takeNumber 24 (.baload) 1 25 := ⟨by decide +kernel, rfl⟩
theorem d_X4_takeNumber_25 : zDc M_X4_takeNumber 25 (.bipush 48) 2 27 := ⟨by decide +kernel, rfl⟩
theorem d_X4_takeNumber_27 : zDj M_X4_takeNumber 27 (.if_icmp .lt 67) 67 30 94 := ⟨by decide +kernel, rfl, by decide⟩
theorem d_X4_takeNumber_30 : zDc M_X4_takeNumber 30 (.aload_n 0) 1 31 := ⟨by decide +kernel, rfl⟩
theorem d_X4_takeNumber_31 : zDc M_X4_takeNumber 31 (.getfield 15) 3 34 := ⟨by decide +kernel, rfl⟩
theorem d_X4_takeNumber_34 : zDc M_X4_takeNumber 34 (.aload_n 0) 1 35 := ⟨by decide +kernel, rfl⟩
theorem d_X4_takeNumber_35 : zDc M_X4_takeNumber 35 (.getfield 56) 3 38 := ⟨by decide +kernel, rfl⟩
theorem d_X4_takeNumber_38 : zDc M_X4_takeNumber 38 (.baload) 1 39 := ⟨by decide +kernel, rfl⟩
theorem d_X4_takeNumber_39 : zDc M_X4_takeNumber 39 (.bipush 57) 2 41 := ⟨by decide +kernel, rfl⟩
theorem d_X4_takeNumber_41 : zDj M_X4_takeNumber 41 (.if_icmp .gt 53) 53 44 94 := ⟨by decide +kernel, rfl, by decide⟩
theorem d_X4_takeNumber_44 : zDc M_X4_takeNumber 44 (.aload_n 0) 1 45 := ⟨by decide +kernel, rfl⟩
theorem d_X4_takeNumber_45 : zDc M_X4_takeNumber 45 (.getfield 108) 3 48 := ⟨by decide +kernel, rfl⟩
theorem d_X4_takeNumber_48 : zDc M_X4_takeNumber 48 (.bipush 10) 2 50 := ⟨by decide +kernel, rfl⟩
theorem d_X4_takeNumber_50 : zDc M_X4_takeNumber 50 (.imul) 1 51 := ⟨by decide +kernel, rfl⟩
theorem d_X4_takeNumber_51 : zDc M_X4_takeNumber 51 (.aload_n 0) 1 52 := ⟨by decide +kernel, rfl⟩
theorem d_X4_takeNumber_52 : zDc M_X4_takeNumber 52 (.getfield 15) 3 55 := ⟨by decide +kernel, rfl⟩
theorem d_X4_takeNumber_55 : zDc M_X4_takeNumber 55 (.aload_n 0) 1 56 := ⟨by decide +kernel, rfl⟩
theorem d_X4_takeNumber_56 : zDc M_X4_takeNumber 56 (.getfield 56) 3 59 := ⟨by decide +kernel, rfl⟩
theorem d_X4_takeNumber_59 : zDc M_X4_takeNumber 59 (.baload) 1 60 := ⟨by decide +kernel, rfl⟩
theorem d_X4_takeNumber_60 : zDc M_X4_takeNumber 60 (.iadd) 1 61 := ⟨by decide +kernel, rfl⟩
theorem d_X4_takeNumber_61 : zDc M_X4_takeNumber 61 (.bipush 48) 2 63 := ⟨by decide +kernel, rfl⟩
theorem d_X4_takeNumber_63 : zDc M_X4_takeNumber 63 (.isub) 1 64 := ⟨by decide +kernel, rfl⟩
theorem d_X4_takeNumber_64 : zDc M_X4_takeNumber 64 (.istore_n 1) 1 65 := ⟨by decide +kernel, rfl⟩
theorem d_X4_takeNumber_65 : zDc M_X4_takeNumber 65 (.aload_n 0) 1 66 := ⟨by decide +kernel, rfl⟩
theorem d_X4_takeNumber_66 : zDc M_X4_takeNumber 66 (.iload_n 1) 1 67 := ⟨by decide +kernel, rfl⟩
theorem d_X4_takeNumber_67 : zDc M_X4_takeNumber 67 (.ldc 111) 2 69 := ⟨by decide +kernel, rfl⟩
theorem d_X4_takeNumber_69 : zDj M_X4_takeNumber 69 (.if_icmp .le 8) 8 72 77 := ⟨by decide +kernel, rfl, by decide⟩
theorem d_X4_takeNumber_72 : zDc M_X4_takeNumber 72 (.ldc 111) 2 74 := ⟨by decide +kernel, rfl⟩
theorem d_X4_takeNumber_74 : zDj M_X4_takeNumber 74 (.goto 4) 4 77 78 := ⟨by decide +kernel, rfl, by decide⟩
theorem d_X4_takeNumber_77 : zDc M_X4_takeNumber 77 (.iload_n 1) 1 78 := ⟨by decide +kernel, rfl⟩
theorem d_X4_takeNumber_78 : zDc M_X4_takeNumber 78 (.putfield 108) 3 81 := ⟨by decide +kernel, rfl⟩
theorem d_X4_takeNumber_81 : zDc M_X4_takeNumber 81 (.aload_n 0) 1 82 := ⟨by decide +kernel, rfl⟩
theorem d_X4_takeNumber_82 : zDc M_X4_takeNumber 82 (.dup) 1 83 := ⟨by decide +kernel, rfl⟩
theorem d_X4_takeNumber_83 : zDc M_X4_takeNumber 83 (.getfield 56) 3 86 := ⟨by decide +kernel, rfl⟩
theorem d_X4_takeNumber_86 : zDc M_X4_takeNumber 86 (.iconst 1) 1 87 := ⟨by decide +kernel, rfl⟩
theorem d_X4_takeNumber_87 : zDc M_X4_takeNumber 87 (.iadd) 1 88 := ⟨by decide +kernel, rfl⟩
theorem d_X4_takeNumber_88 : zDc M_X4_takeNumber 88 (.putfield 56) 3 91 := ⟨by decide +kernel, rfl⟩
theorem d_X4_takeNumber_91 : zDj M_X4_takeNumber 91 (.goto (-86)) (-86) 94 5 := ⟨by decide +kernel, rfl, by decide⟩
theorem d_X4_takeNumber_94 : zDc M_X4_takeNumber 94 (.return_) 1 95 := ⟨by decide +kernel, rfl⟩
def f_X4_takeNumber (a0 : Nat) (h0 : zHp) : Option (Unit × zHp) :=
  zob (zpV h0 a0 4 6 (.int 0)) (fun h1 =>
  zbd (
  zlp (σ := Unit) (β := Unit) zLF (fun s2 h3 =>
  zob (zgI h3 a0 4 3) (fun v6 =>
  zob (zgI h3 a0 4 2) (fun v7 =>
  if v7 ≤ v6 then
  some ((.inr ()), h3)
  else
  zob (zgR h3 a0 4 1) (fun v8 =>
  zob (zgI h3 a0 4 3) (fun v9 =>
  zob (zaI 1 h3 v8 v9) (fun v10 =>
  if v10 < 48 then
  some ((.inr ()), h3)
  else
  zob (zgR h3 a0 4 1) (fun v11 =>
  zob (zgI h3 a0 4 3) (fun v12 =>
  zob (zaI 1 h3 v11 v12) (fun v13 =>
  if 57 < v13 then
  some ((.inr ()), h3)
  else
  zob (zgI h3 a0 4 6) (fun v14 =>
  zob (zgR h3 a0 4 1) (fun v15 =>
  zob (zgI h3 a0 4 3) (fun v16 =>
  zob (zaI 1 h3 v15 v16) (fun v17 =>
  zbd (α := Int32) (
  if (((v14 * 10) + v17) - 48) ≤ 1000000 then
  some ((((v14 * 10) + v17) - 48), h3)
  else
  some (1000000, h3)) (fun e18 h19 =>
  zob (zpV h19 a0 4 6 (.int e18)) (fun h20 =>
  zob (zgI h20 a0 4 3) (fun v21 =>
  zob (zpV h20 a0 4 3 (.int (v21 + 1))) (fun h22 =>
  some ((.inl ()), h22)))))))))))))))))) () h1) (fun e4 h5 =>
  some ((), h5)))
set_option maxRecDepth 100000 in
set_option maxHeartbeats 4000000 in
theorem t_X4_takeNumber (a0 : Nat) (h0 : zHp) : ∀ (r : Unit) (h' : zHp), f_X4_takeNumber a0 h0 = some (r, h') → zCt yX4_takeNumber (.code yX4_takeNumber cX4_takeNumber 2 none) 1 60 0 0 [.ref a0] h0 (none) h' := by
  refine zct_of M_X4_takeNumber yX4_takeNumber (by decide) rfl rfl [.ref a0] h0 (Nat.le_of_ble_eq_true rfl) (fun _ => none) (fun X => ?_)
  show zG X M_X4_takeNumber (0, 0) 0 [(0, .ref a0)] [] h0 (f_X4_takeNumber a0 h0) (fun (_ : Unit) h' => zKe X (none) h')
  unfold f_X4_takeNumber
  refine zg_aload_n 0 rfl d_X4_takeNumber_0 ?_
  refine zg_iconst 0 rfl d_X4_takeNumber_1 ?_
  refine zg_putV d_X4_takeNumber_2 zc_4 (by decide) fl_X4_108 rfl rfl rfl (fun h1 => ?_)
  refine zg_bd (E := 94) (el := (fun (e4 : Unit) => [(0, .ref a0)])) (es := fun _ => []) (zg_sub [0] rfl (zg_lp (el := (fun (s2 : Unit) => [(0, .ref a0)])) (fun s2 h3 => ?_) () h1)) (fun e4 h5 => ?_)
  · refine zg_aload_n 0 rfl d_X4_takeNumber_5 ?_
    refine zg_getI d_X4_takeNumber_6 zc_4 (by decide) fl_X4_56 (fun v6 => ?_)
    refine zg_aload_n 0 rfl d_X4_takeNumber_9 ?_
    refine zg_getI d_X4_takeNumber_10 zc_4 (by decide) fl_X4_53 (fun v7 => ?_)
    refine zg_icmp_ge d_X4_takeNumber_13 ?_ ?_
    · exact zg_finK (E := 0) [0] rfl rfl (fun q => q)
    · refine zg_aload_n 0 rfl d_X4_takeNumber_16 ?_
      refine zg_getR d_X4_takeNumber_17 zc_4 (by decide) fl_X4_15 (fun v8 => ?_)
      refine zg_aload_n 0 rfl d_X4_takeNumber_20 ?_
      refine zg_getI d_X4_takeNumber_21 zc_4 (by decide) fl_X4_56 (fun v9 => ?_)
      refine zg_ald1 d_X4_takeNumber_24 (fun v10 => ?_)
      refine zg_bipush 48 rfl d_X4_takeNumber_25 ?_
      refine zg_icmp_lt d_X4_takeNumber_27 ?_ ?_
      · exact zg_finK (E := 0) [0] rfl rfl (fun q => q)
      · refine zg_aload_n 0 rfl d_X4_takeNumber_30 ?_
        refine zg_getR d_X4_takeNumber_31 zc_4 (by decide) fl_X4_15 (fun v11 => ?_)
        refine zg_aload_n 0 rfl d_X4_takeNumber_34 ?_
        refine zg_getI d_X4_takeNumber_35 zc_4 (by decide) fl_X4_56 (fun v12 => ?_)
        refine zg_ald1 d_X4_takeNumber_38 (fun v13 => ?_)
        refine zg_bipush 57 rfl d_X4_takeNumber_39 ?_
        refine zg_icmp_gt d_X4_takeNumber_41 ?_ ?_
        · exact zg_finK (E := 0) [0] rfl rfl (fun q => q)
        · refine zg_aload_n 0 rfl d_X4_takeNumber_44 ?_
          refine zg_getI d_X4_takeNumber_45 zc_4 (by decide) fl_X4_108 (fun v14 => ?_)
          refine zg_bipush 10 rfl d_X4_takeNumber_48 ?_
          refine zg_imul d_X4_takeNumber_50 ?_
          refine zg_aload_n 0 rfl d_X4_takeNumber_51 ?_
          refine zg_getR d_X4_takeNumber_52 zc_4 (by decide) fl_X4_15 (fun v15 => ?_)
          refine zg_aload_n 0 rfl d_X4_takeNumber_55 ?_
          refine zg_getI d_X4_takeNumber_56 zc_4 (by decide) fl_X4_56 (fun v16 => ?_)
          refine zg_ald1 d_X4_takeNumber_59 (fun v17 => ?_)
          refine zg_iadd d_X4_takeNumber_60 ?_
          refine zg_bipush 48 rfl d_X4_takeNumber_61 ?_
          refine zg_isub d_X4_takeNumber_63 ?_
          refine zg_istore_n [(1, .int (((v14 * 10) + v17) - 48)), (0, .ref a0)] d_X4_takeNumber_64 rfl (by decide) rfl ?_
          refine zg_aload_n 1 rfl d_X4_takeNumber_65 ?_
          refine zg_iload_n 0 rfl d_X4_takeNumber_66 ?_
          refine zg_ldc kc_X4_111 d_X4_takeNumber_67 ?_
          refine zg_bd (E := 78) (el := (fun (e18 : Int32) => [(0, .ref a0), (1, .int (((v14 * 10) + v17) - 48))])) (es := (fun (e18 : Int32) => [.int e18, .ref a0])) ?_ (fun e18 h19 => ?_)
          · refine zg_icmp_le d_X4_takeNumber_69 ?_ ?_
            · refine zg_iload_n 0 rfl d_X4_takeNumber_77 ?_
              exact zg_finK (E := 0) [1, 0] rfl rfl (fun q => q)
            · refine zg_ldc kc_X4_111 d_X4_takeNumber_72 ?_
              refine zg_goto d_X4_takeNumber_74 ?_
              exact zg_finK (E := 0) [1, 0] rfl rfl (fun q => q)
          · refine zg_putV d_X4_takeNumber_78 zc_4 (by decide) fl_X4_108 rfl rfl rfl (fun h20 => ?_)
            refine zg_aload_n 0 rfl d_X4_takeNumber_81 ?_
            refine zg_dup rfl d_X4_takeNumber_82 ?_
            refine zg_getI d_X4_takeNumber_83 zc_4 (by decide) fl_X4_56 (fun v21 => ?_)
            refine zg_iconst 1 rfl d_X4_takeNumber_86 ?_
            refine zg_iadd d_X4_takeNumber_87 ?_
            refine zg_putV d_X4_takeNumber_88 zc_4 (by decide) fl_X4_56 rfl rfl rfl (fun h22 => ?_)
            refine zg_goto d_X4_takeNumber_91 ?_
            exact zg_finK (E := 0) [0] rfl rfl (fun q => q)
  · exact zg_vretK d_X4_takeNumber_94 rfl ⟨Nat.le_of_ble_eq_true rfl, Nat.le_of_ble_eq_true rfl⟩ (fun q => q)
abbrev M_X4_takeWord : zMt := (RX4, cX4_takeWord, 2, 1, 60, none, "takeWord", 0, 0)
theorem d_X4_takeWord_0 : zDc M_X4_takeWord 0 (.aload_n 0) 1 1 := ⟨by decide +kernel, rfl⟩
theorem d_X4_takeWord_1 : zDc M_X4_takeWord 1 (.iconst 0) 1 2 := ⟨by decide +kernel, rfl⟩
theorem d_X4_takeWord_2 : zDc M_X4_takeWord 2 (.putfield 105) 3 5 := ⟨by decide +kernel, rfl⟩
theorem d_X4_takeWord_5 : zDc M_X4_takeWord 5 (.iconst 0) 1 6 := ⟨by decide +kernel, rfl⟩
theorem d_X4_takeWord_6 : zDc M_X4_takeWord 6 (.istore_n 1) 1 7 := ⟨by decide +kernel, rfl⟩
theorem d_X4_takeWord_7 : zDc M_X4_takeWord 7 (.aload_n 0) 1 8 := ⟨by decide +kernel, rfl⟩
theorem d_X4_takeWord_8 : zDc M_X4_takeWord 8 (.getfield 56) 3 11 := ⟨by decide +kernel, rfl⟩
theorem d_X4_takeWord_11 : zDc M_X4_takeWord 11 (.aload_n 0) 1 12 := ⟨by decide +kernel, rfl⟩
theorem d_X4_takeWord_12 : zDc M_X4_takeWord 12 (.getfield 53) 3 15 := ⟨by decide +kernel, rfl⟩
theorem d_X4_takeWord_15 : zDj M_X4_takeWord 15 (.if_icmp .ge 82) 82 18 97 := ⟨by decide +kernel, rfl, by decide⟩
theorem d_X4_takeWord_18 : zDc M_X4_takeWord 18 (.aload_n 0) 1 19 := ⟨by decide +kernel, rfl⟩
theorem d_X4_takeWord_19 : zDc M_X4_takeWord 19 (.getfield 15) 3 22 := ⟨by decide +kernel, rfl⟩
theorem d_X4_takeWord_22 : zDc M_X4_takeWord 22 (.aload_n 0) 1 23 := ⟨by decide +kernel, rfl⟩
theorem d_X4_takeWord_23 : zDc M_X4_takeWord 23 (.getfield 56) 3 26 := ⟨by decide +kernel, rfl⟩
theorem d_X4_takeWord_26 : zDc M_X4_takeWord 26 (.baload) 1 27 := ⟨by decide +kernel, rfl⟩
theorem d_X4_takeWord_27 : zDc M_X4_takeWord 27 (.bipush 97) 2 29 := ⟨by decide +kernel, rfl⟩
theorem d_X4_takeWord_29 : zDj M_X4_takeWord 29 (.if_icmp .lt 68) 68 32 97 := ⟨by decide +kernel, rfl, by decide⟩
theorem d_X4_takeWord_32 : zDc M_X4_takeWord 32 (.aload_n 0) 1 33 := ⟨by decide +kernel, rfl⟩
theorem d_X4_takeWord_33 : zDc M_X4_takeWord 33 (.getfield 15) 3 36 := ⟨by decide +kernel, rfl⟩
theorem d_X4_takeWord_36 : zDc M_X4_takeWord 36 (.aload_n 0) 1 37 := ⟨by decide +kernel, rfl⟩
theorem d_X4_takeWord_37 : zDc M_X4_takeWord 37 (.getfield 56) 3 40 := ⟨by decide +kernel, rfl⟩
theorem d_X4_takeWord_40 : zDc M_X4_takeWord 40 (.baload) 1 41 := ⟨by decide +kernel, rfl⟩
theorem d_X4_takeWord_41 : zDc M_X4_takeWord 41 (.bipush 122) 2 43 := ⟨by decide +kernel, rfl⟩
theorem d_X4_takeWord_43 : zDj M_X4_takeWord 43 (.if_icmp .gt 54) 54 46 97 := ⟨by decide +kernel, rfl, by decide⟩
theorem d_X4_takeWord_46 : zDc M_X4_takeWord 46 (.iload_n 1) 1 47 := ⟨by decide +kernel, rfl⟩
theorem d_X4_takeWord_47 : zDc M_X4_takeWord 47 (.bipush 6) 2 49 := ⟨by decide +kernel, rfl⟩
theorem d_X4_takeWord_49 : zDj M_X4_takeWord 49 (.if_icmp .ge 32) 32 52 81 := ⟨by decide +kernel, rfl, by decide⟩
theorem d_X4_takeWord_52 : zDc M_X4_takeWord 52 (.aload_n 0) 1 53 := ⟨by decide +kernel, rfl⟩
theorem d_X4_takeWord_53 : zDc M_X4_takeWord 53 (.dup) 1 54 := ⟨by decide +kernel, rfl⟩
theorem d_X4_takeWord_54 : zDc M_X4_takeWord 54 (.getfield 105) 3 57 := ⟨by decide +kernel, rfl⟩
theorem d_X4_takeWord_57 : zDc M_X4_takeWord 57 (.aload_n 0) 1 58 := ⟨by decide +kernel, rfl⟩
theorem d_X4_takeWord_58 : zDc M_X4_takeWord 58 (.getfield 15) 3 61 := ⟨by decide +kernel, rfl⟩
theorem d_X4_takeWord_61 : zDc M_X4_takeWord 61 (.aload_n 0) 1 62 := ⟨by decide +kernel, rfl⟩
theorem d_X4_takeWord_62 : zDc M_X4_takeWord 62 (.getfield 56) 3 65 := ⟨by decide +kernel, rfl⟩
theorem d_X4_takeWord_65 : zDc M_X4_takeWord 65 (.baload) 1 66 := ⟨by decide +kernel, rfl⟩
theorem d_X4_takeWord_66 : zDc M_X4_takeWord 66 (.bipush 97) 2 68 := ⟨by decide +kernel, rfl⟩
theorem d_X4_takeWord_68 : zDc M_X4_takeWord 68 (.isub) 1 69 := ⟨by decide +kernel, rfl⟩
theorem d_X4_takeWord_69 : zDc M_X4_takeWord 69 (.iconst 1) 1 70 := ⟨by decide +kernel, rfl⟩
theorem d_X4_takeWord_70 : zDc M_X4_takeWord 70 (.iadd) 1 71 := ⟨by decide +kernel, rfl⟩
theorem d_X4_takeWord_71 : zDc M_X4_takeWord 71 (.iconst 5) 1 72 := ⟨by decide +kernel, rfl⟩
theorem d_X4_takeWord_72 : zDc M_X4_takeWord 72 (.iconst 5) 1 73 := ⟨by decide +kernel, rfl⟩
theorem d_X4_takeWord_73 : zDc M_X4_takeWord 73 (.iload_n 1) 1 74 := ⟨by decide +kernel, rfl⟩
theorem d_X4_takeWord_74 : zDc M_X4_takeWord 74 (.isub) 1 75 := ⟨by decide +kernel, rfl⟩
theorem d_X4_takeWord_75 : zDc M_X4_takeWord 75 (.imul) 1 76 := ⟨by decide +kernel, rfl⟩
theorem d_X4_takeWord_76 : zDc M_X4_takeWord 76 (.ishl) 1 77 := ⟨by decide +kernel, rfl⟩
theorem d_X4_takeWord_77 : zDc M_X4_takeWord 77 (.ior) 1 78 := ⟨by decide +kernel, rfl⟩
theorem d_X4_takeWord_78 : zDc M_X4_takeWord 78 (.putfield 105) 3 81 := ⟨by decide +kernel, rfl⟩
theorem d_X4_takeWord_81 : zDc M_X4_takeWord 81 (.aload_n 0) 1 82 := ⟨by decide +kernel, rfl⟩
theorem d_X4_takeWord_82 : zDc M_X4_takeWord 82 (.dup) 1 83 := ⟨by decide +kernel, rfl⟩
theorem d_X4_takeWord_83 : zDc M_X4_takeWord 83 (.getfield 56) 3 86 := ⟨by decide +kernel, rfl⟩
theorem d_X4_takeWord_86 : zDc M_X4_takeWord 86 (.iconst 1) 1 87 := ⟨by decide +kernel, rfl⟩
theorem d_X4_takeWord_87 : zDc M_X4_takeWord 87 (.iadd) 1 88 := ⟨by decide +kernel, rfl⟩
theorem d_X4_takeWord_88 : zDc M_X4_takeWord 88 (.putfield 56) 3 91 := ⟨by decide +kernel, rfl⟩
theorem d_X4_takeWord_91 : zDc M_X4_takeWord 91 (.iinc 1 1) 3 94 := ⟨by decide +kernel, rfl⟩
theorem d_X4_takeWord_94 : zDj M_X4_takeWord 94 (.goto (-87)) (-87) 97 7 := ⟨by decide +kernel, rfl, by decide⟩
theorem d_X4_takeWord_97 : zDc M_X4_takeWord 97 (.return_) 1 98 := ⟨by decide +kernel, rfl⟩
def f_X4_takeWord (a0 : Nat) (h0 : zHp) : Option (Unit × zHp) :=
  zob (zpV h0 a0 4 7 (.int 0)) (fun h1 =>
  zbd (
  zlp (σ := Int32) (β := Int32) zLF (fun s2 h3 =>
  zob (zgI h3 a0 4 3) (fun v6 =>
  zob (zgI h3 a0 4 2) (fun v7 =>
  if v7 ≤ v6 then
  some ((.inr s2), h3)
  else
  zob (zgR h3 a0 4 1) (fun v8 =>
  zob (zgI h3 a0 4 3) (fun v9 =>
  zob (zaI 1 h3 v8 v9) (fun v10 =>
  if v10 < 97 then
  some ((.inr s2), h3)
  else
  zob (zgR h3 a0 4 1) (fun v11 =>
  zob (zgI h3 a0 4 3) (fun v12 =>
  zob (zaI 1 h3 v11 v12) (fun v13 =>
  if 122 < v13 then
  some ((.inr s2), h3)
  else
  zbd (α := Unit) (
  if 6 ≤ s2 then
  some ((), h3)
  else
  zob (zgI h3 a0 4 7) (fun v14 =>
  zob (zgR h3 a0 4 1) (fun v15 =>
  zob (zgI h3 a0 4 3) (fun v16 =>
  zob (zaI 1 h3 v15 v16) (fun v17 =>
  zob (zpV h3 a0 4 7 (.int (v14 ||| (((v17 - 97) + 1) <<< ((5 * (5 - s2)) &&& 31))))) (fun h18 =>
  some ((), h18))))))) (fun e19 h20 =>
  zob (zgI h20 a0 4 3) (fun v21 =>
  zob (zpV h20 a0 4 3 (.int (v21 + 1))) (fun h22 =>
  some ((.inl (s2 + 1)), h22))))))))))))) 0 h1) (fun e4 h5 =>
  some ((), h5)))
set_option maxRecDepth 100000 in
set_option maxHeartbeats 4000000 in
theorem t_X4_takeWord (a0 : Nat) (h0 : zHp) : ∀ (r : Unit) (h' : zHp), f_X4_takeWord a0 h0 = some (r, h') → zCt yX4_takeWord (.code yX4_takeWord cX4_takeWord 2 none) 1 60 0 0 [.ref a0] h0 (none) h' := by
  refine zct_of M_X4_takeWord yX4_takeWord (by decide) rfl rfl [.ref a0] h0 (Nat.le_of_ble_eq_true rfl) (fun _ => none) (fun X => ?_)
  show zG X M_X4_takeWord (0, 0) 0 [(0, .ref a0)] [] h0 (f_X4_takeWord a0 h0) (fun (_ : Unit) h' => zKe X (none) h')
  unfold f_X4_takeWord
  refine zg_aload_n 0 rfl d_X4_takeWord_0 ?_
  refine zg_iconst 0 rfl d_X4_takeWord_1 ?_
  refine zg_putV d_X4_takeWord_2 zc_4 (by decide) fl_X4_105 rfl rfl rfl (fun h1 => ?_)
  refine zg_iconst 0 rfl d_X4_takeWord_5 ?_
  refine zg_istore_n [(1, .int 0), (0, .ref a0)] d_X4_takeWord_6 rfl (by decide) rfl ?_
  refine zg_bd (E := 97) (el := (fun (e4 : Int32) => [(0, .ref a0), (1, .int e4)])) (es := fun _ => []) (zg_sub [1, 0] rfl (zg_lp (el := (fun (s2 : Int32) => [(0, .ref a0), (1, .int s2)])) (fun s2 h3 => ?_) 0 h1)) (fun e4 h5 => ?_)
  · refine zg_aload_n 0 rfl d_X4_takeWord_7 ?_
    refine zg_getI d_X4_takeWord_8 zc_4 (by decide) fl_X4_56 (fun v6 => ?_)
    refine zg_aload_n 0 rfl d_X4_takeWord_11 ?_
    refine zg_getI d_X4_takeWord_12 zc_4 (by decide) fl_X4_53 (fun v7 => ?_)
    refine zg_icmp_ge d_X4_takeWord_15 ?_ ?_
    · exact zg_finK (E := 0) [0, 1] rfl rfl (fun q => q)
    · refine zg_aload_n 0 rfl d_X4_takeWord_18 ?_
      refine zg_getR d_X4_takeWord_19 zc_4 (by decide) fl_X4_15 (fun v8 => ?_)
      refine zg_aload_n 0 rfl d_X4_takeWord_22 ?_
      refine zg_getI d_X4_takeWord_23 zc_4 (by decide) fl_X4_56 (fun v9 => ?_)
      refine zg_ald1 d_X4_takeWord_26 (fun v10 => ?_)
      refine zg_bipush 97 rfl d_X4_takeWord_27 ?_
      refine zg_icmp_lt d_X4_takeWord_29 ?_ ?_
      · exact zg_finK (E := 0) [0, 1] rfl rfl (fun q => q)
      · refine zg_aload_n 0 rfl d_X4_takeWord_32 ?_
        refine zg_getR d_X4_takeWord_33 zc_4 (by decide) fl_X4_15 (fun v11 => ?_)
        refine zg_aload_n 0 rfl d_X4_takeWord_36 ?_
        refine zg_getI d_X4_takeWord_37 zc_4 (by decide) fl_X4_56 (fun v12 => ?_)
        refine zg_ald1 d_X4_takeWord_40 (fun v13 => ?_)
        refine zg_bipush 122 rfl d_X4_takeWord_41 ?_
        refine zg_icmp_gt d_X4_takeWord_43 ?_ ?_
        · exact zg_finK (E := 0) [0, 1] rfl rfl (fun q => q)
        · refine zg_iload_n 1 rfl d_X4_takeWord_46 ?_
          refine zg_bipush 6 rfl d_X4_takeWord_47 ?_
          refine zg_bd (E := 81) (el := (fun (e19 : Unit) => [(0, .ref a0), (1, .int s2)])) (es := (fun (e19 : Unit) => [])) ?_ (fun e19 h20 => ?_)
          · refine zg_icmp_ge d_X4_takeWord_49 ?_ ?_
            · exact zg_finK (E := 0) [0, 1] rfl rfl (fun q => q)
            · refine zg_aload_n 0 rfl d_X4_takeWord_52 ?_
              refine zg_dup rfl d_X4_takeWord_53 ?_
              refine zg_getI d_X4_takeWord_54 zc_4 (by decide) fl_X4_105 (fun v14 => ?_)
              refine zg_aload_n 0 rfl d_X4_takeWord_57 ?_
              refine zg_getR d_X4_takeWord_58 zc_4 (by decide) fl_X4_15 (fun v15 => ?_)
              refine zg_aload_n 0 rfl d_X4_takeWord_61 ?_
              refine zg_getI d_X4_takeWord_62 zc_4 (by decide) fl_X4_56 (fun v16 => ?_)
              refine zg_ald1 d_X4_takeWord_65 (fun v17 => ?_)
              refine zg_bipush 97 rfl d_X4_takeWord_66 ?_
              refine zg_isub d_X4_takeWord_68 ?_
              refine zg_iconst 1 rfl d_X4_takeWord_69 ?_
              refine zg_iadd d_X4_takeWord_70 ?_
              refine zg_iconst 5 rfl d_X4_takeWord_71 ?_
              refine zg_iconst 5 rfl d_X4_takeWord_72 ?_
              refine zg_iload_n 1 rfl d_X4_takeWord_73 ?_
              refine zg_isub d_X4_takeWord_74 ?_
              refine zg_imul d_X4_takeWord_75 ?_
              refine zg_ishl d_X4_takeWord_76 ?_
              refine zg_ior d_X4_takeWord_77 ?_
              refine zg_putV d_X4_takeWord_78 zc_4 (by decide) fl_X4_105 rfl rfl rfl (fun h18 => ?_)
              exact zg_finK (E := 0) [0, 1] rfl rfl (fun q => q)
          · refine zg_aload_n 0 rfl d_X4_takeWord_81 ?_
            refine zg_dup rfl d_X4_takeWord_82 ?_
            refine zg_getI d_X4_takeWord_83 zc_4 (by decide) fl_X4_56 (fun v21 => ?_)
            refine zg_iconst 1 rfl d_X4_takeWord_86 ?_
            refine zg_iadd d_X4_takeWord_87 ?_
            refine zg_putV d_X4_takeWord_88 zc_4 (by decide) fl_X4_56 rfl rfl rfl (fun h22 => ?_)
            refine zg_iinc 1 (s2 + 1) [(1, .int (s2 + 1)), (0, .ref a0)] d_X4_takeWord_91 rfl rfl (by decide) rfl ?_
            refine zg_goto d_X4_takeWord_94 ?_
            exact zg_finK (E := 0) [1, 0] rfl rfl (fun q => q)
  · exact zg_vretK d_X4_takeWord_97 rfl ⟨Nat.le_of_ble_eq_true rfl, Nat.le_of_ble_eq_true rfl⟩ (fun q => q)
abbrev M_X4_wordToken : zMt := (RX4, cX4_wordToken, 2, 1, 60, (some .int), "wordToken", 0, 0)
theorem d_X4_wordToken_0 : zDc M_X4_wordToken 0 (.iconst 0) 1 1 := ⟨by decide +kernel, rfl⟩
theorem d_X4_wordToken_1 : zDc M_X4_wordToken 1 (.istore_n 1) 1 2 := ⟨by decide +kernel, rfl⟩
theorem d_X4_wordToken_2 : zDc M_X4_wordToken 2 (.iload_n 1) 1 3 := ⟨by decide +kernel, rfl⟩
theorem d_X4_wordToken_3 : zDc M_X4_wordToken 3 (.bipush 23) 2 5 := ⟨by decide +kernel, rfl⟩
theorem d_X4_wordToken_5 : zDj M_X4_wordToken 5 (.if_icmp .ge 24) 24 8 29 := ⟨by decide +kernel, rfl, by decide⟩
theorem d_X4_wordToken_8 : zDc M_X4_wordToken 8 (.aload_n 0) 1 9 := ⟨by decide +kernel, rfl⟩
theorem d_X4_wordToken_9 : zDc M_X4_wordToken 9 (.getfield 9) 3 12 := ⟨by decide +kernel, rfl⟩
theorem d_X4_wordToken_12 : zDc M_X4_wordToken 12 (.iload_n 1) 1 13 := ⟨by decide +kernel, rfl⟩
theorem d_X4_wordToken_13 : zDc M_X4_wordToken 13 (.iaload) 1 14 := ⟨by decide +kernel, rfl⟩
theorem d_X4_wordToken_14 : zDc M_X4_wordToken 14 (.aload_n 0) 1 15 := ⟨by decide +kernel, rfl⟩
theorem d_X4_wordToken_15 : zDc M_X4_wordToken 15 (.getfield 105) 3 18 := ⟨by decide +kernel, rfl⟩
theorem d_X4_wordToken_18 : zDj M_X4_wordToken 18 (.if_icmp .ne 5) 5 21 23 := ⟨by decide +kernel, rfl, by decide⟩
theorem d_X4_wordToken_21 : zDc M_X4_wordToken 21 (.iload_n 1) 1 22 := ⟨by decide +kernel, rfl⟩
theorem d_X4_wordToken_22 : zDc M_X4_wordToken 22 (.ireturn) 1 23 := ⟨by decide +kernel, rfl⟩
theorem d_X4_wordToken_23 : zDc M_X4_wordToken 23 (.iinc 1 1) 3 26 := ⟨by decide +kernel, rfl⟩
theorem d_X4_wordToken_26 : zDj M_X4_wordToken 26 (.goto (-24)) (-24) 29 2 := ⟨by decide +kernel, rfl, by decide⟩
theorem d_X4_wordToken_29 : zDc M_X4_wordToken 29 (.bipush 36) 2 31 := ⟨by decide +kernel, rfl⟩
theorem d_X4_wordToken_31 : zDc M_X4_wordToken 31 (.ireturn) 1 32 := ⟨by decide +kernel, rfl⟩
def f_X4_wordToken (a0 : Nat) (h0 : zHp) : Option (Int32 × zHp) :=
  zbd (
  zlp (σ := Int32) (β := (Int32 ⊕ Int32)) zLF (fun s1 h2 =>
  if 23 ≤ s1 then
  some ((.inr (.inl s1)), h2)
  else
  zob (zgR h2 a0 4 0) (fun v5 =>
  zob (zaI 0 h2 v5 s1) (fun v6 =>
  zob (zgI h2 a0 4 7) (fun v7 =>
  if v6 = v7 then
  some ((.inr (.inr s1)), h2)
  else
  some ((.inl (s1 + 1)), h2))))) 0 h0) (fun b8 h4 => zsl b8 (fun e3 =>
  some (36, h4)) (fun r => some (r, h4)))
set_option maxRecDepth 100000 in
set_option maxHeartbeats 4000000 in
theorem t_X4_wordToken (a0 : Nat) (h0 : zHp) : ∀ (r : Int32) (h' : zHp), f_X4_wordToken a0 h0 = some (r, h') → zCt yX4_wordToken (.code yX4_wordToken cX4_wordToken 2 (some .int)) 1 60 0 0 [.ref a0] h0 (some (.int r)) h' := by
  refine zct_of M_X4_wordToken yX4_wordToken (by decide) rfl rfl [.ref a0] h0 (Nat.le_of_ble_eq_true rfl) (fun r => some (.int r)) (fun X => ?_)
  show zG X M_X4_wordToken (0, 0) 0 [(0, .ref a0)] [] h0 (f_X4_wordToken a0 h0) (fun (r : Int32) h' => zKe X (some (.int r)) h')
  unfold f_X4_wordToken
  refine zg_iconst 0 rfl d_X4_wordToken_0 ?_
  refine zg_istore_n [(1, .int 0), (0, .ref a0)] d_X4_wordToken_1 rfl (by decide) rfl ?_
  refine zg_bdr (E := 29) (el := (fun (e3 : Int32) => [(0, .ref a0), (1, .int e3)])) (es := fun _ => []) (zg_sub [1, 0] rfl (zg_lp (el := (fun (s1 : Int32) => [(0, .ref a0), (1, .int s1)])) (fun s1 h2 => ?_) 0 h0)) (fun e3 h4 => ?_)
  · refine zg_iload_n 1 rfl d_X4_wordToken_2 ?_
    refine zg_bipush 23 rfl d_X4_wordToken_3 ?_
    refine zg_icmp_ge d_X4_wordToken_5 ?_ ?_
    · exact zg_finK (E := 0) [0, 1] rfl rfl (fun q => q)
    · refine zg_aload_n 0 rfl d_X4_wordToken_8 ?_
      refine zg_getR d_X4_wordToken_9 zc_4 (by decide) fl_X4_9 (fun v5 => ?_)
      refine zg_iload_n 1 rfl d_X4_wordToken_12 ?_
      refine zg_ald0 d_X4_wordToken_13 (fun v6 => ?_)
      refine zg_aload_n 0 rfl d_X4_wordToken_14 ?_
      refine zg_getI d_X4_wordToken_15 zc_4 (by decide) fl_X4_105 (fun v7 => ?_)
      refine zg_icmp_ne d_X4_wordToken_18 ?_ ?_
      · refine zg_iload_n 1 rfl d_X4_wordToken_21 ?_
        exact zg_iretK d_X4_wordToken_22 rfl ⟨Nat.le_of_ble_eq_true rfl, Nat.le_of_ble_eq_true rfl⟩ (fun q => q)
      · refine zg_iinc 1 (s1 + 1) [(1, .int (s1 + 1)), (0, .ref a0)] d_X4_wordToken_23 rfl rfl (by decide) rfl ?_
        refine zg_goto d_X4_wordToken_26 ?_
        exact zg_finK (E := 0) [1, 0] rfl rfl (fun q => q)
  · refine zg_bipush 36 rfl d_X4_wordToken_29 ?_
    exact zg_iretK d_X4_wordToken_31 rfl ⟨Nat.le_of_ble_eq_true rfl, Nat.le_of_ble_eq_true rfl⟩ (fun q => q)
abbrev M_X4_advance : zMt := (RX4, cX4_advance, 1, 2, 81, none, "advance", 0, 0)
theorem d_X4_advance_0 : zDc M_X4_advance 0 (.aload_n 0) 1 1 := ⟨by decide +kernel, rfl⟩
theorem d_X4_advance_1 : zDc M_X4_advance 1 (.getfield 29) 3 4 := ⟨by decide +kernel, rfl⟩
theorem d_X4_advance_4 : zDj M_X4_advance 4 (.ifCond .eq 4) 4 7 8 := ⟨by decide +kernel, rfl, by decide⟩
theorem d_X4_advance_7 : zDc M_X4_advance 7 (.return_) 1 8 := ⟨by decide +kernel, rfl⟩
theorem d_X4_advance_8 : zDc M_X4_advance 8 (.aload_n 0) 1 9 := ⟨by decide +kernel, rfl⟩
theorem d_X4_advance_9 : zDc M_X4_advance 9 (.getfield 56) 3 12 := ⟨by decide +kernel, rfl⟩
theorem d_X4_advance_12 : zDc M_X4_advance 12 (.aload_n 0) 1 13 := ⟨by decide +kernel, rfl⟩
theorem d_X4_advance_13 : zDc M_X4_advance 13 (.getfield 53) 3 16 := ⟨by decide +kernel, rfl⟩
theorem d_X4_advance_16 : zDj M_X4_advance 16 (.if_icmp .ge 44) 44 19 60 := ⟨by decide +kernel, rfl, by decide⟩
theorem d_X4_advance_19 : zDc M_X4_advance 19 (.aload_n 0) 1 20 := ⟨by decide +kernel, rfl⟩
theorem d_X4_advance_20 : zDc M_X4_advance 20 (.getfield 15) 3 23 := ⟨by decide +kernel, rfl⟩
theorem d_X4_advance_23 : zDc M_X4_advance 23 (.aload_n 0) 1 24 := ⟨by decide +kernel, rfl⟩
theorem d_X4_advance_24 : zDc M_X4_advance 24 (.getfield 56) 3 27 := ⟨by decide +kernel, rfl⟩
theorem d_X4_advance_27 : zDc M_X4_advance 27 (.baload) 1 28 := ⟨by decide +kernel, rfl⟩
theorem d_X4_advance_28 : zDc M_X4_advance 28 (.bipush 10) 2 30 := ⟨by decide +kernel, rfl⟩
theorem d_X4_advance_30 : zDj M_X4_advance 30 (.if_icmp .eq 17) 17 33 47 := ⟨by decide +kernel, rfl, by decide⟩
theorem d_X4_advance_33 : zDc M_X4_advance 33 (.aload_n 0) 1 34 := ⟨by decide +kernel, rfl⟩
theorem d_X4_advance_34 : zDc M_X4_advance 34 (.getfield 15) 3 37 := ⟨by decide +kernel, rfl⟩
theorem d_X4_advance_37 : zDc M_X4_advance 37 (.aload_n 0) 1 38 := ⟨by decide +kernel, rfl⟩
theorem d_X4_advance_38 : zDc M_X4_advance 38 (.getfield 56) 3 41 := ⟨by decide +kernel, rfl⟩
theorem d_X4_advance_41 : zDc M_X4_advance 41 (.baload) 1 42 := ⟨by decide +kernel, rfl⟩
theorem d_X4_advance_42 : zDc M_X4_advance 42 (.bipush 32) 2 44 := ⟨by decide +kernel, rfl⟩
theorem d_X4_advance_44 : zDj M_X4_advance 44 (.if_icmp .ne 16) 16 47 60 := ⟨by decide +kernel, rfl, by decide⟩
theorem d_X4_advance_47 : zDc M_X4_advance 47 (.aload_n 0) 1 48 := ⟨by decide +kernel, rfl⟩
theorem d_X4_advance_48 : zDc M_X4_advance 48 (.dup) 1 49 := ⟨by decide +kernel, rfl⟩
theorem d_X4_advance_49 : zDc M_X4_advance 49 (.getfield 56) 3 52 := ⟨by decide +kernel, rfl⟩
theorem d_X4_advance_52 : zDc M_X4_advance 52 (.iconst 1) 1 53 := ⟨by decide +kernel, rfl⟩
theorem d_X4_advance_53 : zDc M_X4_advance 53 (.iadd) 1 54 := ⟨by decide +kernel, rfl⟩
theorem d_X4_advance_54 : zDc M_X4_advance 54 (.putfield 56) 3 57 := ⟨by decide +kernel, rfl⟩
theorem d_X4_advance_57 : zDj M_X4_advance 57 (.goto (-49)) (-49) 60 8 := ⟨by decide +kernel, rfl, by decide⟩
theorem d_X4_advance_60 : zDc M_X4_advance 60 (.aload_n 0) 1 61 := ⟨by decide +kernel, rfl⟩
theorem d_X4_advance_61 : zDc M_X4_advance 61 (.aload_n 0) 1 62 := ⟨by decide +kernel, rfl⟩
theorem d_X4_advance_62 : zDc M_X4_advance 62 (.getfield 56) 3 65 := ⟨by decide +kernel, rfl⟩
theorem d_X4_advance_65 : zDc M_X4_advance 65 (.putfield 75) 3 68 := ⟨by decide +kernel, rfl⟩
theorem d_X4_advance_68 : zDc M_X4_advance 68 (.aload_n 0) 1 69 := ⟨by decide +kernel, rfl⟩
theorem d_X4_advance_69 : zDc M_X4_advance 69 (.getfield 56) 3 72 := ⟨by decide +kernel, rfl⟩
theorem d_X4_advance_72 : zDc M_X4_advance 72 (.aload_n 0) 1 73 := ⟨by decide +kernel, rfl⟩
theorem d_X4_advance_73 : zDc M_X4_advance 73 (.getfield 53) 3 76 := ⟨by decide +kernel, rfl⟩
theorem d_X4_advance_76 : zDj M_X4_advance 76 (.if_icmp .lt 12) 12 79 88 := ⟨by decide +kernel, rfl, by decide⟩
theorem d_X4_advance_79 : zDc M_X4_advance 79 (.aload_n 0) 1 80 := ⟨by decide +kernel, rfl⟩
theorem d_X4_advance_80 : zDc M_X4_advance 80 (.bipush 38) 2 82 := ⟨by decide +kernel, rfl⟩
theorem d_X4_advance_82 : zDc M_X4_advance 82 (.putfield 65) 3 85 := ⟨by decide +kernel, rfl⟩
theorem d_X4_advance_85 : zDj M_X4_advance 85 (.goto 165) 165 88 250 := ⟨by decide +kernel, rfl, by decide⟩
theorem d_X4_advance_88 : zDc M_X4_advance 88 (.aload_n 0) 1 89 := ⟨by decide +kernel, rfl⟩
theorem d_X4_advance_89 : zDc M_X4_advance 89 (.getfield 15) 3 92 := ⟨by decide +kernel, rfl⟩
theorem d_X4_advance_92 : zDc M_X4_advance 92 (.aload_n 0) 1 93 := ⟨by decide +kernel, rfl⟩
theorem d_X4_advance_93 : zDc M_X4_advance 93 (.getfield 56) 3 96 := ⟨by decide +kernel, rfl⟩
theorem d_X4_advance_96 : zDc M_X4_advance 96 (.baload) 1 97 := ⟨by decide +kernel, rfl⟩
theorem d_X4_advance_97 : zDc M_X4_advance 97 (.invokestatic 85) 3 100 := ⟨by decide +kernel, rfl⟩
theorem d_X4_advance_100 : zDj M_X4_advance 100 (.ifCond .eq 37) 37 103 137 := ⟨by decide +kernel, rfl, by decide⟩
theorem d_X4_advance_103 : zDc M_X4_advance 103 (.aload_n 0) 1 104 := ⟨by decide +kernel, rfl⟩
theorem d_X4_advance_104 : zDc M_X4_advance 104 (.invokevirtual 89) 3 107 := ⟨by decide +kernel, rfl⟩
theorem d_X4_advance_107 : zDc M_X4_advance 107 (.aload_n 0) 1 108 := ⟨by decide +kernel, rfl⟩
theorem d_X4_advance_108 : zDc M_X4_advance 108 (.aload_n 0) 1 109 := ⟨by decide +kernel, rfl⟩
theorem d_X4_advance_109 : zDc M_X4_advance 109 (.getfield 56) 3 112 := ⟨by decide +kernel, rfl⟩
theorem d_X4_advance_112 : zDc M_X4_advance 112 (.aload_n 0) 1 113 := ⟨by decide +kernel, rfl⟩
theorem d_X4_advance_113 : zDc M_X4_advance 113 (.getfield 75) 3 116 := ⟨by decide +kernel, rfl⟩
theorem d_X4_advance_116 : zDc M_X4_advance 116 (.isub) 1 117 := ⟨by decide +kernel, rfl⟩
theorem d_X4_advance_117 : zDc M_X4_advance 117 (.bipush 6) 2 119 := ⟨by decide +kernel, rfl⟩
theorem d_X4_advance_119 : zDj M_X4_advance 119 (.if_icmp .le 8) 8 122 127 := ⟨by decide +kernel, rfl, by decide⟩
theorem d_X4_advance_122 : zDc M_X4_advance 122 (.bipush 39) 2 124 := ⟨by decide +kernel, rfl⟩
theorem d_X4_advance_124 : zDj M_X4_advance 124 (.goto 7) 7 127 131 := ⟨by decide +kernel, rfl, by decide⟩
theorem d_X4_advance_127 : zDc M_X4_advance 127 (.aload_n 0) 1 128 := ⟨by decide +kernel, rfl⟩
theorem d_X4_advance_128 : zDc M_X4_advance 128 (.invokevirtual 92) 3 131 := ⟨by decide +kernel, rfl⟩
theorem d_X4_advance_131 : zDc M_X4_advance 131 (.putfield 65) 3 134 := ⟨by decide +kernel, rfl⟩
theorem d_X4_advance_134 : zDj M_X4_advance 134 (.goto 116) 116 137 250 := ⟨by decide +kernel, rfl, by decide⟩
theorem d_X4_advance_137 : zDc M_X4_advance 137 (.aload_n 0) 1 138 := ⟨by decide +kernel, rfl⟩
theorem d_X4_advance_138 : zDc M_X4_advance 138 (.getfield 15) 3 141 := ⟨by decide +kernel, rfl⟩
theorem d_X4_advance_141 : zDc M_X4_advance 141 (.aload_n 0) 1 142 := ⟨by decide +kernel, rfl⟩
theorem d_X4_advance_142 : zDc M_X4_advance 142 (.getfield 56) 3 145 := ⟨by decide +kernel, rfl⟩
theorem d_X4_advance_145 : zDc M_X4_advance 145 (.baload) 1 146 := ⟨by decide +kernel, rfl⟩
theorem d_X4_advance_146 : zDc M_X4_advance 146 (.invokestatic 96) 3 149 := ⟨by decide +kernel, rfl⟩
theorem d_X4_advance_149 : zDj M_X4_advance 149 (.ifCond .eq 16) 16 152 165 := ⟨by decide +kernel, rfl, by decide⟩
theorem d_X4_advance_152 : zDc M_X4_advance 152 (.aload_n 0) 1 153 := ⟨by decide +kernel, rfl⟩
theorem d_X4_advance_153 : zDc M_X4_advance 153 (.invokevirtual 99) 3 156 := ⟨by decide +kernel, rfl⟩
theorem d_X4_advance_156 : zDc M_X4_advance 156 (.aload_n 0) 1 157 := ⟨by decide +kernel, rfl⟩
theorem d_X4_advance_157 : zDc M_X4_advance 157 (.bipush 37) 2 159 := ⟨by decide +kernel, rfl⟩
theorem d_X4_advance_159 : zDc M_X4_advance 159 (.putfield 65) 3 162 := ⟨by decide +kernel, rfl⟩
theorem d_X4_advance_162 : zDj M_X4_advance 162 (.goto 88) 88 165 250 := ⟨by decide +kernel, rfl, by decide⟩
theorem d_X4_advance_165 : zDc M_X4_advance 165 (.aload_n 0) 1 166 := ⟨by decide +kernel, rfl⟩
theorem d_X4_advance_166 : zDc M_X4_advance 166 (.aload_n 0) 1 167 := ⟨by decide +kernel, rfl⟩
theorem d_X4_advance_167 : zDc M_X4_advance 167 (.getfield 15) 3 170 := ⟨by decide +kernel, rfl⟩
theorem d_X4_advance_170 : zDc M_X4_advance 170 (.aload_n 0) 1 171 := ⟨by decide +kernel, rfl⟩
theorem d_X4_advance_171 : zDc M_X4_advance 171 (.getfield 56) 3 174 := ⟨by decide +kernel, rfl⟩
theorem d_X4_advance_174 : zDc M_X4_advance 174 (.baload) 1 175 := ⟨by decide +kernel, rfl⟩
theorem d_X4_advance_175 : zDc M_X4_advance 175 (.aload_n 0) 1 176 := ⟨by decide +kernel, rfl⟩
theorem d_X4_advance_176 : zDc M_X4_advance 176 (.getfield 56) 3 179 := ⟨by decide +kernel, rfl⟩
theorem d_X4_advance_179 : zDc M_X4_advance 179 (.iconst 1) 1 180 := ⟨by decide +kernel, rfl⟩
theorem d_X4_advance_180 : zDc M_X4_advance 180 (.iadd) 1 181 := ⟨by decide +kernel, rfl⟩
theorem d_X4_advance_181 : zDc M_X4_advance 181 (.aload_n 0) 1 182 := ⟨by decide +kernel, rfl⟩
theorem d_X4_advance_182 : zDc M_X4_advance 182 (.getfield 53) 3 185 := ⟨by decide +kernel, rfl⟩
theorem d_X4_advance_185 : zDj M_X4_advance 185 (.if_icmp .ge 17) 17 188 202 := ⟨by decide +kernel, rfl, by decide⟩
theorem d_X4_advance_188 : zDc M_X4_advance 188 (.aload_n 0) 1 189 := ⟨by decide +kernel, rfl⟩
theorem d_X4_advance_189 : zDc M_X4_advance 189 (.getfield 15) 3 192 := ⟨by decide +kernel, rfl⟩
theorem d_X4_advance_192 : zDc M_X4_advance 192 (.aload_n 0) 1 193 := ⟨by decide +kernel, rfl⟩
theorem d_X4_advance_193 : zDc M_X4_advance 193 (.getfield 56) 3 196 := ⟨by decide +kernel, rfl⟩
theorem d_X4_advance_196 : zDc M_X4_advance 196 (.iconst 1) 1 197 := ⟨by decide +kernel, rfl⟩
theorem d_X4_advance_197 : zDc M_X4_advance 197 (.iadd) 1 198 := ⟨by decide +kernel, rfl⟩
theorem d_X4_advance_198 : zDc M_X4_advance 198 (.baload) 1 199 := ⟨by decide +kernel, rfl⟩
theorem d_X4_advance_199 : zDj M_X4_advance 199 (.goto 4) 4 202 203 := ⟨by decide +kernel, rfl, by decide⟩
theorem d_X4_advance_202 : zDc M_X4_advance 202 (.iconst 0) 1 203 := ⟨by decide +kernel, rfl⟩
theorem d_X4_advance_203 : zDc M_X4_advance 203 (.invokestatic 102) 3 206 := ⟨by decide +kernel, rfl⟩
theorem d_X4_advance_206 : zDc M_X4_advance 206 (.putfield 65) 3 209 := ⟨by decide +kernel, rfl⟩
theorem d_X4_advance_209 : zDc M_X4_advance 209 (.aload_n 0) 1 210 := ⟨by decide +kernel, rfl⟩
theorem d_X4_advance_210 : zDc M_X4_advance 210 (.dup) 1 211 := ⟨by decide +kernel, rfl⟩
theorem d_X4_advance_211 : zDc M_X4_advance 211 (.getfield 56) 3 214 := ⟨by decide +kernel, rfl⟩
theorem d_X4_advance_214 : zDc M_X4_advance 214 (.aload_n 0) 1 215 := ⟨by decide +kernel, rfl⟩
theorem d_X4_advance_215 : zDc M_X4_advance 215 (.getfield 65) 3 218 := ⟨by decide +kernel, rfl⟩
theorem d_X4_advance_218 : zDc M_X4_advance 218 (.bipush 28) 2 220 := ⟨by decide +kernel, rfl⟩
theorem d_X4_advance_220 : zDj M_X4_advance 220 (.if_icmp .eq 21) 21 223 241 := ⟨by decide +kernel, rfl, by decide⟩
theorem d_X4_advance_223 : zDc M_X4_advance 223 (.aload_n 0) 1 224 := ⟨by decide +kernel, rfl⟩
theorem d_X4_advance_224 : zDc M_X4_advance 224 (.getfield 65) 3 227 := ⟨by decide +kernel, rfl⟩
theorem d_X4_advance_227 : zDc M_X4_advance 227 (.bipush 30) 2 229 := ⟨by decide +kernel, rfl⟩
theorem d_X4_advance_229 : zDj M_X4_advance 229 (.if_icmp .eq 12) 12 232 241 := ⟨by decide +kernel, rfl, by decide⟩
theorem d_X4_advance_232 : zDc M_X4_advance 232 (.aload_n 0) 1 233 := ⟨by decide +kernel, rfl⟩
theorem d_X4_advance_233 : zDc M_X4_advance 233 (.getfield 65) 3 236 := ⟨by decide +kernel, rfl⟩
theorem d_X4_advance_236 : zDc M_X4_advance 236 (.bipush 31) 2 238 := ⟨by decide +kernel, rfl⟩
theorem d_X4_advance_238 : zDj M_X4_advance 238 (.if_icmp .ne 7) 7 241 245 := ⟨by decide +kernel, rfl, by decide⟩
theorem d_X4_advance_241 : zDc M_X4_advance 241 (.iconst 2) 1 242 := ⟨by decide +kernel, rfl⟩
theorem d_X4_advance_242 : zDj M_X4_advance 242 (.goto 4) 4 245 246 := ⟨by decide +kernel, rfl, by decide⟩
theorem d_X4_advance_245 : zDc M_X4_advance 245 (.iconst 1) 1 246 := ⟨by decide +kernel, rfl⟩
theorem d_X4_advance_246 : zDc M_X4_advance 246 (.iadd) 1 247 := ⟨by decide +kernel, rfl⟩
theorem d_X4_advance_247 : zDc M_X4_advance 247 (.putfield 56) 3 250 := ⟨by decide +kernel, rfl⟩
theorem d_X4_advance_250 : zDc M_X4_advance 250 (.return_) 1 251 := ⟨by decide +kernel, rfl⟩
def f_X4_advance (a0 : Nat) (h0 : zHp) : Option (Unit × zHp) :=
  zob (zgI h0 a0 4 14) (fun v1 =>
  if v1 = 0 then
  zbd (
  zlp (σ := Unit) (β := Unit) zLF (fun s2 h3 =>
  zob (zgI h3 a0 4 3) (fun v6 =>
  zob (zgI h3 a0 4 2) (fun v7 =>
  if v7 ≤ v6 then
  some ((.inr ()), h3)
  else
  zob (zgR h3 a0 4 1) (fun v8 =>
  zob (zgI h3 a0 4 3) (fun v9 =>
  zob (zaI 1 h3 v8 v9) (fun v10 =>
  zbd (α := (Unit ⊕ (Unit ⊕ Unit))) (
  if v10 = 10 then
  some ((.inl ()), h3)
  else
  zob (zgR h3 a0 4 1) (fun v11 =>
  zob (zgI h3 a0 4 3) (fun v12 =>
  zob (zaI 1 h3 v11 v12) (fun v13 =>
  if v13 = 32 then
  some ((.inl ()), h3)
  else
  some ((.inr (.inr ())), h3))))) (fun b65 h15 => zsl b65 (fun e14 =>
  zob (zgI h15 a0 4 3) (fun v16 =>
  zob (zpV h15 a0 4 3 (.int (v16 + 1))) (fun h17 =>
  some ((.inl ()), h17)))) (fun r => some (r, h15))))))))) () h0) (fun e4 h5 =>
  zob (zgI h5 a0 4 3) (fun v18 =>
  zob (zpV h5 a0 4 5 (.int v18)) (fun h19 =>
  zob (zgI h19 a0 4 3) (fun v20 =>
  zob (zgI h19 a0 4 2) (fun v21 =>
  if v20 < v21 then
  zob (zgR h19 a0 4 1) (fun v22 =>
  zob (zgI h19 a0 4 3) (fun v23 =>
  zob (zaI 1 h19 v22 v23) (fun v24 =>
  zbd ((f_X4_isLetter v24 h19)) (fun v26 h25 =>
  if v26 = 0 then
  zob (zgR h25 a0 4 1) (fun v27 =>
  zob (zgI h25 a0 4 3) (fun v28 =>
  zob (zaI 1 h25 v27 v28) (fun v29 =>
  zbd ((f_X4_isDigit v29 h25)) (fun v31 h30 =>
  if v31 = 0 then
  zob (zgR h30 a0 4 1) (fun v32 =>
  zob (zgI h30 a0 4 3) (fun v33 =>
  zob (zaI 1 h30 v32 v33) (fun v34 =>
  zob (zgI h30 a0 4 3) (fun v35 =>
  zob (zgI h30 a0 4 2) (fun v36 =>
  zbd (α := Int32) (
  if v36 ≤ (v35 + 1) then
  some (0, h30)
  else
  zob (zgR h30 a0 4 1) (fun v37 =>
  zob (zgI h30 a0 4 3) (fun v38 =>
  zob (zaI 1 h30 v37 (v38 + 1)) (fun v39 =>
  some (v39, h30))))) (fun e40 h41 =>
  zbd ((f_X4_signToken v34 e40 h41)) (fun v43 h42 =>
  zob (zpV h42 a0 4 4 (.int v43)) (fun h44 =>
  zob (zgI h44 a0 4 3) (fun v45 =>
  zob (zgI h44 a0 4 4) (fun v46 =>
  zbd (α := Int32) (
  if v46 = 28 then
  some (2, h44)
  else
  zob (zgI h44 a0 4 4) (fun v47 =>
  if v47 = 30 then
  some (2, h44)
  else
  zob (zgI h44 a0 4 4) (fun v48 =>
  if v48 = 31 then
  some (2, h44)
  else
  some (1, h44)))) (fun e49 h50 =>
  zob (zpV h50 a0 4 3 (.int (v45 + e49))) (fun h51 =>
  some ((), h51)))))))))))))
  else
  zbd (zcv 4 a0 h30 (f_X4_takeNumber a0 h30)) (fun v53 h52 =>
  zob (zpV h52 a0 4 4 (.int 37)) (fun h54 =>
  some ((), h54)))))))
  else
  zbd (zcv 4 a0 h25 (f_X4_takeWord a0 h25)) (fun v56 h55 =>
  zob (zgI h55 a0 4 3) (fun v57 =>
  zob (zgI h55 a0 4 5) (fun v58 =>
  zbd (α := Int32) (
  if (v57 - v58) ≤ 6 then
  zbd (zcv 4 a0 h55 (f_X4_wordToken a0 h55)) (fun v60 h59 =>
  some (v60, h59))
  else
  some (39, h55)) (fun e61 h62 =>
  zob (zpV h62 a0 4 4 (.int e61)) (fun h63 =>
  some ((), h63))))))))))
  else
  zob (zpV h19 a0 4 4 (.int 38)) (fun h64 =>
  some ((), h64)))))))
  else
  some ((), h0))
set_option maxRecDepth 100000 in
set_option maxHeartbeats 4000000 in
theorem t_X4_advance (a0 : Nat) (h0 : zHp) : ∀ (r : Unit) (h' : zHp), f_X4_advance a0 h0 = some (r, h') → zCt yX4_advance (.code yX4_advance cX4_advance 1 none) 2 81 0 0 [.ref a0] h0 (none) h' := by
  refine zct_of M_X4_advance yX4_advance (by decide) rfl rfl [.ref a0] h0 (Nat.le_of_ble_eq_true rfl) (fun _ => none) (fun X => ?_)
  show zG X M_X4_advance (0, 0) 0 [(0, .ref a0)] [] h0 (f_X4_advance a0 h0) (fun (_ : Unit) h' => zKe X (none) h')
  unfold f_X4_advance
  refine zg_aload_n 0 rfl d_X4_advance_0 ?_
  refine zg_getI d_X4_advance_1 zc_4 (by decide) fl_X4_29 (fun v1 => ?_)
  refine zg_if_eq d_X4_advance_4 ?_ ?_
  · refine zg_bd (E := 60) (el := (fun (e4 : Unit) => [(0, .ref a0)])) (es := fun _ => []) (zg_sub [0] rfl (zg_lp (el := (fun (s2 : Unit) => [(0, .ref a0)])) (fun s2 h3 => ?_) () h0)) (fun e4 h5 => ?_)
    · refine zg_aload_n 0 rfl d_X4_advance_8 ?_
      refine zg_getI d_X4_advance_9 zc_4 (by decide) fl_X4_56 (fun v6 => ?_)
      refine zg_aload_n 0 rfl d_X4_advance_12 ?_
      refine zg_getI d_X4_advance_13 zc_4 (by decide) fl_X4_53 (fun v7 => ?_)
      refine zg_icmp_ge d_X4_advance_16 ?_ ?_
      · exact zg_finK (E := 0) [0] rfl rfl (fun q => q)
      · refine zg_aload_n 0 rfl d_X4_advance_19 ?_
        refine zg_getR d_X4_advance_20 zc_4 (by decide) fl_X4_15 (fun v8 => ?_)
        refine zg_aload_n 0 rfl d_X4_advance_23 ?_
        refine zg_getI d_X4_advance_24 zc_4 (by decide) fl_X4_56 (fun v9 => ?_)
        refine zg_ald1 d_X4_advance_27 (fun v10 => ?_)
        refine zg_bipush 10 rfl d_X4_advance_28 ?_
        refine zg_bdr (E := 47) (el := (fun (e14 : Unit) => [(0, .ref a0)])) (es := (fun (e14 : Unit) => [])) ?_ (fun e14 h15 => ?_)
        · refine zg_icmp_eq d_X4_advance_30 ?_ ?_
          · exact zg_finK (E := 0) [0] rfl rfl (fun q => q)
          · refine zg_aload_n 0 rfl d_X4_advance_33 ?_
            refine zg_getR d_X4_advance_34 zc_4 (by decide) fl_X4_15 (fun v11 => ?_)
            refine zg_aload_n 0 rfl d_X4_advance_37 ?_
            refine zg_getI d_X4_advance_38 zc_4 (by decide) fl_X4_56 (fun v12 => ?_)
            refine zg_ald1 d_X4_advance_41 (fun v13 => ?_)
            refine zg_bipush 32 rfl d_X4_advance_42 ?_
            refine zg_icmp_ne d_X4_advance_44 ?_ ?_
            · exact zg_finK (E := 0) [0] rfl rfl (fun q => q)
            · exact zg_finK (E := 0) [0] rfl rfl (fun q => q)
        · refine zg_aload_n 0 rfl d_X4_advance_47 ?_
          refine zg_dup rfl d_X4_advance_48 ?_
          refine zg_getI d_X4_advance_49 zc_4 (by decide) fl_X4_56 (fun v16 => ?_)
          refine zg_iconst 1 rfl d_X4_advance_52 ?_
          refine zg_iadd d_X4_advance_53 ?_
          refine zg_putV d_X4_advance_54 zc_4 (by decide) fl_X4_56 rfl rfl rfl (fun h17 => ?_)
          refine zg_goto d_X4_advance_57 ?_
          exact zg_finK (E := 0) [0] rfl rfl (fun q => q)
    · refine zg_aload_n 0 rfl d_X4_advance_60 ?_
      refine zg_aload_n 0 rfl d_X4_advance_61 ?_
      refine zg_getI d_X4_advance_62 zc_4 (by decide) fl_X4_56 (fun v18 => ?_)
      refine zg_putV d_X4_advance_65 zc_4 (by decide) fl_X4_75 rfl rfl rfl (fun h19 => ?_)
      refine zg_aload_n 0 rfl d_X4_advance_68 ?_
      refine zg_getI d_X4_advance_69 zc_4 (by decide) fl_X4_56 (fun v20 => ?_)
      refine zg_aload_n 0 rfl d_X4_advance_72 ?_
      refine zg_getI d_X4_advance_73 zc_4 (by decide) fl_X4_53 (fun v21 => ?_)
      refine zg_icmp_lt d_X4_advance_76 ?_ ?_
      · refine zg_aload_n 0 rfl d_X4_advance_88 ?_
        refine zg_getR d_X4_advance_89 zc_4 (by decide) fl_X4_15 (fun v22 => ?_)
        refine zg_aload_n 0 rfl d_X4_advance_92 ?_
        refine zg_getI d_X4_advance_93 zc_4 (by decide) fl_X4_56 (fun v23 => ?_)
        refine zg_ald1 d_X4_advance_96 (fun v24 => ?_)
        refine zg_cSi (As := [.int v24]) (rest := []) (0, 0) d_X4_advance_97 cw_X4_85 wt_X4_isLetter rfl rfl (Nat.le_of_ble_eq_true rfl) (by decide) (by decide) ⟨by decide, by decide⟩ rfl (t_X4_isLetter v24 h19) (fun v26 h25 => ?_)
        refine zg_if_eq d_X4_advance_100 ?_ ?_
        · refine zg_aload_n 0 rfl d_X4_advance_137 ?_
          refine zg_getR d_X4_advance_138 zc_4 (by decide) fl_X4_15 (fun v27 => ?_)
          refine zg_aload_n 0 rfl d_X4_advance_141 ?_
          refine zg_getI d_X4_advance_142 zc_4 (by decide) fl_X4_56 (fun v28 => ?_)
          refine zg_ald1 d_X4_advance_145 (fun v29 => ?_)
          refine zg_cSi (As := [.int v29]) (rest := []) (0, 0) d_X4_advance_146 cw_X4_96 wt_X4_isDigit rfl rfl (Nat.le_of_ble_eq_true rfl) (by decide) (by decide) ⟨by decide, by decide⟩ rfl (t_X4_isDigit v29 h25) (fun v31 h30 => ?_)
          refine zg_if_eq d_X4_advance_149 ?_ ?_
          · refine zg_aload_n 0 rfl d_X4_advance_165 ?_
            refine zg_aload_n 0 rfl d_X4_advance_166 ?_
            refine zg_getR d_X4_advance_167 zc_4 (by decide) fl_X4_15 (fun v32 => ?_)
            refine zg_aload_n 0 rfl d_X4_advance_170 ?_
            refine zg_getI d_X4_advance_171 zc_4 (by decide) fl_X4_56 (fun v33 => ?_)
            refine zg_ald1 d_X4_advance_174 (fun v34 => ?_)
            refine zg_aload_n 0 rfl d_X4_advance_175 ?_
            refine zg_getI d_X4_advance_176 zc_4 (by decide) fl_X4_56 (fun v35 => ?_)
            refine zg_iconst 1 rfl d_X4_advance_179 ?_
            refine zg_iadd d_X4_advance_180 ?_
            refine zg_aload_n 0 rfl d_X4_advance_181 ?_
            refine zg_getI d_X4_advance_182 zc_4 (by decide) fl_X4_53 (fun v36 => ?_)
            refine zg_bd (E := 203) (el := (fun (e40 : Int32) => [(0, .ref a0)])) (es := (fun (e40 : Int32) => [.int e40, .int v34, .ref a0])) ?_ (fun e40 h41 => ?_)
            · refine zg_icmp_ge d_X4_advance_185 ?_ ?_
              · refine zg_iconst 0 rfl d_X4_advance_202 ?_
                exact zg_finK (E := 0) [0] rfl rfl (fun q => q)
              · refine zg_aload_n 0 rfl d_X4_advance_188 ?_
                refine zg_getR d_X4_advance_189 zc_4 (by decide) fl_X4_15 (fun v37 => ?_)
                refine zg_aload_n 0 rfl d_X4_advance_192 ?_
                refine zg_getI d_X4_advance_193 zc_4 (by decide) fl_X4_56 (fun v38 => ?_)
                refine zg_iconst 1 rfl d_X4_advance_196 ?_
                refine zg_iadd d_X4_advance_197 ?_
                refine zg_ald1 d_X4_advance_198 (fun v39 => ?_)
                refine zg_goto d_X4_advance_199 ?_
                exact zg_finK (E := 0) [0] rfl rfl (fun q => q)
            · refine zg_cSi (As := [.int v34, .int e40]) (rest := [.ref a0]) (0, 0) d_X4_advance_203 cw_X4_102 wt_X4_signToken rfl rfl (Nat.le_of_ble_eq_true rfl) (by decide) (by decide) ⟨by decide, by decide⟩ rfl (t_X4_signToken v34 e40 h41) (fun v43 h42 => ?_)
              refine zg_putV d_X4_advance_206 zc_4 (by decide) fl_X4_65 rfl rfl rfl (fun h44 => ?_)
              refine zg_aload_n 0 rfl d_X4_advance_209 ?_
              refine zg_dup rfl d_X4_advance_210 ?_
              refine zg_getI d_X4_advance_211 zc_4 (by decide) fl_X4_56 (fun v45 => ?_)
              refine zg_aload_n 0 rfl d_X4_advance_214 ?_
              refine zg_getI d_X4_advance_215 zc_4 (by decide) fl_X4_65 (fun v46 => ?_)
              refine zg_bipush 28 rfl d_X4_advance_218 ?_
              refine zg_bd (E := 246) (el := (fun (e49 : Int32) => [(0, .ref a0)])) (es := (fun (e49 : Int32) => [.int e49, .int v45, .ref a0])) ?_ (fun e49 h50 => ?_)
              · refine zg_icmp_eq d_X4_advance_220 ?_ ?_
                · refine zg_iconst 2 rfl d_X4_advance_241 ?_
                  refine zg_goto d_X4_advance_242 ?_
                  exact zg_finK (E := 0) [0] rfl rfl (fun q => q)
                · refine zg_aload_n 0 rfl d_X4_advance_223 ?_
                  refine zg_getI d_X4_advance_224 zc_4 (by decide) fl_X4_65 (fun v47 => ?_)
                  refine zg_bipush 30 rfl d_X4_advance_227 ?_
                  refine zg_icmp_eq d_X4_advance_229 ?_ ?_
                  · refine zg_iconst 2 rfl d_X4_advance_241 ?_
                    refine zg_goto d_X4_advance_242 ?_
                    exact zg_finK (E := 0) [0] rfl rfl (fun q => q)
                  · refine zg_aload_n 0 rfl d_X4_advance_232 ?_
                    refine zg_getI d_X4_advance_233 zc_4 (by decide) fl_X4_65 (fun v48 => ?_)
                    refine zg_bipush 31 rfl d_X4_advance_236 ?_
                    refine zg_icmp_ne d_X4_advance_238 ?_ ?_
                    · refine zg_iconst 2 rfl d_X4_advance_241 ?_
                      refine zg_goto d_X4_advance_242 ?_
                      exact zg_finK (E := 0) [0] rfl rfl (fun q => q)
                    · refine zg_iconst 1 rfl d_X4_advance_245 ?_
                      exact zg_finK (E := 0) [0] rfl rfl (fun q => q)
              · refine zg_iadd d_X4_advance_246 ?_
                refine zg_putV d_X4_advance_247 zc_4 (by decide) fl_X4_56 rfl rfl rfl (fun h51 => ?_)
                exact zg_vretK d_X4_advance_250 rfl ⟨Nat.le_of_ble_eq_true rfl, Nat.le_of_ble_eq_true rfl⟩ (fun q => q)
          · refine zg_aload_n 0 rfl d_X4_advance_152 ?_
            refine zg_cVv (b := a0) (As := []) (rest := []) (0, 0) d_X4_advance_153 zc_4 rfl cw_X4_99 wi_X4_takeNumber ws_X4_takeNumber rfl rfl (Nat.le_of_ble_eq_true rfl) (by decide) (by decide) ⟨by decide, by decide⟩ rfl (t_X4_takeNumber a0 h30) (fun v53 h52 => ?_)
            refine zg_aload_n 0 rfl d_X4_advance_156 ?_
            refine zg_bipush 37 rfl d_X4_advance_157 ?_
            refine zg_putV d_X4_advance_159 zc_4 (by decide) fl_X4_65 rfl rfl rfl (fun h54 => ?_)
            refine zg_goto d_X4_advance_162 ?_
            exact zg_vretK d_X4_advance_250 rfl ⟨Nat.le_of_ble_eq_true rfl, Nat.le_of_ble_eq_true rfl⟩ (fun q => q)
        · refine zg_aload_n 0 rfl d_X4_advance_103 ?_
          refine zg_cVv (b := a0) (As := []) (rest := []) (0, 0) d_X4_advance_104 zc_4 rfl cw_X4_89 wi_X4_takeWord ws_X4_takeWord rfl rfl (Nat.le_of_ble_eq_true rfl) (by decide) (by decide) ⟨by decide, by decide⟩ rfl (t_X4_takeWord a0 h25) (fun v56 h55 => ?_)
          refine zg_aload_n 0 rfl d_X4_advance_107 ?_
          refine zg_aload_n 0 rfl d_X4_advance_108 ?_
          refine zg_getI d_X4_advance_109 zc_4 (by decide) fl_X4_56 (fun v57 => ?_)
          refine zg_aload_n 0 rfl d_X4_advance_112 ?_
          refine zg_getI d_X4_advance_113 zc_4 (by decide) fl_X4_75 (fun v58 => ?_)
          refine zg_isub d_X4_advance_116 ?_
          refine zg_bipush 6 rfl d_X4_advance_117 ?_
          refine zg_bd (E := 131) (el := (fun (e61 : Int32) => [(0, .ref a0)])) (es := (fun (e61 : Int32) => [.int e61, .ref a0])) ?_ (fun e61 h62 => ?_)
          · refine zg_icmp_le d_X4_advance_119 ?_ ?_
            · refine zg_aload_n 0 rfl d_X4_advance_127 ?_
              refine zg_cVi (b := a0) (As := []) (rest := [.ref a0]) (0, 0) d_X4_advance_128 zc_4 rfl cw_X4_92 wi_X4_wordToken ws_X4_wordToken rfl rfl (Nat.le_of_ble_eq_true rfl) (by decide) (by decide) ⟨by decide, by decide⟩ rfl (t_X4_wordToken a0 h55) (fun v60 h59 => ?_)
              exact zg_finK (E := 0) [0] rfl rfl (fun q => q)
            · refine zg_bipush 39 rfl d_X4_advance_122 ?_
              refine zg_goto d_X4_advance_124 ?_
              exact zg_finK (E := 0) [0] rfl rfl (fun q => q)
          · refine zg_putV d_X4_advance_131 zc_4 (by decide) fl_X4_65 rfl rfl rfl (fun h63 => ?_)
            refine zg_goto d_X4_advance_134 ?_
            exact zg_vretK d_X4_advance_250 rfl ⟨Nat.le_of_ble_eq_true rfl, Nat.le_of_ble_eq_true rfl⟩ (fun q => q)
      · refine zg_aload_n 0 rfl d_X4_advance_79 ?_
        refine zg_bipush 38 rfl d_X4_advance_80 ?_
        refine zg_putV d_X4_advance_82 zc_4 (by decide) fl_X4_65 rfl rfl rfl (fun h64 => ?_)
        refine zg_goto d_X4_advance_85 ?_
        exact zg_vretK d_X4_advance_250 rfl ⟨Nat.le_of_ble_eq_true rfl, Nat.le_of_ble_eq_true rfl⟩ (fun q => q)
  · exact zg_vretK d_X4_advance_7 rfl ⟨Nat.le_of_ble_eq_true rfl, Nat.le_of_ble_eq_true rfl⟩ (fun q => q)
abbrev M_X4_failAt : zMt := (RX4, cX4_failAt, 3, 1, 60, none, "failAt", 0, 0)
theorem d_X4_failAt_0 : zDc M_X4_failAt 0 (.aload_n 0) 1 1 := ⟨by decide +kernel, rfl⟩
theorem d_X4_failAt_1 : zDc M_X4_failAt 1 (.getfield 29) 3 4 := ⟨by decide +kernel, rfl⟩
theorem d_X4_failAt_4 : zDj M_X4_failAt 4 (.ifCond .ne 19) 19 7 23 := ⟨by decide +kernel, rfl, by decide⟩
theorem d_X4_failAt_7 : zDc M_X4_failAt 7 (.aload_n 0) 1 8 := ⟨by decide +kernel, rfl⟩
theorem d_X4_failAt_8 : zDc M_X4_failAt 8 (.iload_n 1) 1 9 := ⟨by decide +kernel, rfl⟩
theorem d_X4_failAt_9 : zDc M_X4_failAt 9 (.putfield 29) 3 12 := ⟨by decide +kernel, rfl⟩
theorem d_X4_failAt_12 : zDc M_X4_failAt 12 (.aload_n 0) 1 13 := ⟨by decide +kernel, rfl⟩
theorem d_X4_failAt_13 : zDc M_X4_failAt 13 (.iload_n 2) 1 14 := ⟨by decide +kernel, rfl⟩
theorem d_X4_failAt_14 : zDc M_X4_failAt 14 (.putfield 33) 3 17 := ⟨by decide +kernel, rfl⟩
theorem d_X4_failAt_17 : zDc M_X4_failAt 17 (.aload_n 0) 1 18 := ⟨by decide +kernel, rfl⟩
theorem d_X4_failAt_18 : zDc M_X4_failAt 18 (.bipush 39) 2 20 := ⟨by decide +kernel, rfl⟩
theorem d_X4_failAt_20 : zDc M_X4_failAt 20 (.putfield 65) 3 23 := ⟨by decide +kernel, rfl⟩
theorem d_X4_failAt_23 : zDc M_X4_failAt 23 (.return_) 1 24 := ⟨by decide +kernel, rfl⟩
def f_X4_failAt (a0 : Nat) (a1 : Int32) (a2 : Int32) (h0 : zHp) : Option (Unit × zHp) :=
  zob (zgI h0 a0 4 14) (fun v1 =>
  if v1 = 0 then
  zob (zpV h0 a0 4 14 (.int a1)) (fun h2 =>
  zob (zpV h2 a0 4 15 (.int a2)) (fun h3 =>
  zob (zpV h3 a0 4 4 (.int 39)) (fun h4 =>
  some ((), h4))))
  else
  some ((), h0))
set_option maxRecDepth 100000 in
set_option maxHeartbeats 4000000 in
theorem t_X4_failAt (a0 : Nat) (a1 : Int32) (a2 : Int32) (h0 : zHp) : ∀ (r : Unit) (h' : zHp), f_X4_failAt a0 a1 a2 h0 = some (r, h') → zCt yX4_failAt (.code yX4_failAt cX4_failAt 3 none) 1 60 0 0 [.ref a0, .int a1, .int a2] h0 (none) h' := by
  refine zct_of M_X4_failAt yX4_failAt (by decide) rfl rfl [.ref a0, .int a1, .int a2] h0 (Nat.le_of_ble_eq_true rfl) (fun _ => none) (fun X => ?_)
  show zG X M_X4_failAt (0, 0) 0 [(0, .ref a0), (1, .int a1), (2, .int a2)] [] h0 (f_X4_failAt a0 a1 a2 h0) (fun (_ : Unit) h' => zKe X (none) h')
  unfold f_X4_failAt
  refine zg_aload_n 0 rfl d_X4_failAt_0 ?_
  refine zg_getI d_X4_failAt_1 zc_4 (by decide) fl_X4_29 (fun v1 => ?_)
  refine zg_if_ne d_X4_failAt_4 ?_ ?_
  · refine zg_aload_n 0 rfl d_X4_failAt_7 ?_
    refine zg_iload_n 1 rfl d_X4_failAt_8 ?_
    refine zg_putV d_X4_failAt_9 zc_4 (by decide) fl_X4_29 rfl rfl rfl (fun h2 => ?_)
    refine zg_aload_n 0 rfl d_X4_failAt_12 ?_
    refine zg_iload_n 2 rfl d_X4_failAt_13 ?_
    refine zg_putV d_X4_failAt_14 zc_4 (by decide) fl_X4_33 rfl rfl rfl (fun h3 => ?_)
    refine zg_aload_n 0 rfl d_X4_failAt_17 ?_
    refine zg_bipush 39 rfl d_X4_failAt_18 ?_
    refine zg_putV d_X4_failAt_20 zc_4 (by decide) fl_X4_65 rfl rfl rfl (fun h4 => ?_)
    exact zg_vretK d_X4_failAt_23 rfl ⟨Nat.le_of_ble_eq_true rfl, Nat.le_of_ble_eq_true rfl⟩ (fun q => q)
  · exact zg_vretK d_X4_failAt_23 rfl ⟨Nat.le_of_ble_eq_true rfl, Nat.le_of_ble_eq_true rfl⟩ (fun q => q)
abbrev M_X4_fail : zMt := (RX4, cX4_fail, 2, 2, 82, none, "fail", 0, 0)
theorem d_X4_fail_0 : zDc M_X4_fail 0 (.aload_n 0) 1 1 := ⟨by decide +kernel, rfl⟩
theorem d_X4_fail_1 : zDc M_X4_fail 1 (.iload_n 1) 1 2 := ⟨by decide +kernel, rfl⟩
theorem d_X4_fail_2 : zDc M_X4_fail 2 (.aload_n 0) 1 3 := ⟨by decide +kernel, rfl⟩
theorem d_X4_fail_3 : zDc M_X4_fail 3 (.getfield 75) 3 6 := ⟨by decide +kernel, rfl⟩
theorem d_X4_fail_6 : zDc M_X4_fail 6 (.invokevirtual 78) 3 9 := ⟨by decide +kernel, rfl⟩
theorem d_X4_fail_9 : zDc M_X4_fail 9 (.return_) 1 10 := ⟨by decide +kernel, rfl⟩
def f_X4_fail (a0 : Nat) (a1 : Int32) (h0 : zHp) : Option (Unit × zHp) :=
  zob (zgI h0 a0 4 5) (fun v1 =>
  zbd (zcv 4 a0 h0 (f_X4_failAt a0 a1 v1 h0)) (fun v3 h2 =>
  some ((), h2)))
set_option maxRecDepth 100000 in
set_option maxHeartbeats 4000000 in
theorem t_X4_fail (a0 : Nat) (a1 : Int32) (h0 : zHp) : ∀ (r : Unit) (h' : zHp), f_X4_fail a0 a1 h0 = some (r, h') → zCt yX4_fail (.code yX4_fail cX4_fail 2 none) 2 82 0 0 [.ref a0, .int a1] h0 (none) h' := by
  refine zct_of M_X4_fail yX4_fail (by decide) rfl rfl [.ref a0, .int a1] h0 (Nat.le_of_ble_eq_true rfl) (fun _ => none) (fun X => ?_)
  show zG X M_X4_fail (0, 0) 0 [(0, .ref a0), (1, .int a1)] [] h0 (f_X4_fail a0 a1 h0) (fun (_ : Unit) h' => zKe X (none) h')
  unfold f_X4_fail
  refine zg_aload_n 0 rfl d_X4_fail_0 ?_
  refine zg_iload_n 1 rfl d_X4_fail_1 ?_
  refine zg_aload_n 0 rfl d_X4_fail_2 ?_
  refine zg_getI d_X4_fail_3 zc_4 (by decide) fl_X4_75 (fun v1 => ?_)
  refine zg_cVv (b := a0) (As := [.int a1, .int v1]) (rest := []) (0, 0) d_X4_fail_6 zc_4 rfl cw_X4_78 wi_X4_failAt ws_X4_failAt rfl rfl (Nat.le_of_ble_eq_true rfl) (by decide) (by decide) ⟨by decide, by decide⟩ rfl (t_X4_failAt a0 a1 v1 h0) (fun v3 h2 => ?_)
  exact zg_vretK d_X4_fail_9 rfl ⟨Nat.le_of_ble_eq_true rfl, Nat.le_of_ble_eq_true rfl⟩ (fun q => q)
abbrev M_X4_countKnot : zMt := (RX4, cX4_countKnot, 1, 3, 103, none, "countKnot", 0, 0)
theorem d_X4_countKnot_0 : zDc M_X4_countKnot 0 (.aload_n 0) 1 1 := ⟨by decide +kernel, rfl⟩
theorem d_X4_countKnot_1 : zDc M_X4_countKnot 1 (.getfield 22) 3 4 := ⟨by decide +kernel, rfl⟩
theorem d_X4_countKnot_4 : zDc M_X4_countKnot 4 (.getfield 218) 3 7 := ⟨by decide +kernel, rfl⟩
theorem d_X4_countKnot_7 : zDc M_X4_countKnot 7 (.getfield 252) 3 10 := ⟨by decide +kernel, rfl⟩
theorem d_X4_countKnot_10 : zDc M_X4_countKnot 10 (.bipush 64) 2 12 := ⟨by decide +kernel, rfl⟩
theorem d_X4_countKnot_12 : zDj M_X4_countKnot 12 (.if_icmp .lt 11) 11 15 23 := ⟨by decide +kernel, rfl, by decide⟩
theorem d_X4_countKnot_15 : zDc M_X4_countKnot 15 (.aload_n 0) 1 16 := ⟨by decide +kernel, rfl⟩
theorem d_X4_countKnot_16 : zDc M_X4_countKnot 16 (.iconst 2) 1 17 := ⟨by decide +kernel, rfl⟩
theorem d_X4_countKnot_17 : zDc M_X4_countKnot 17 (.invokevirtual 82) 3 20 := ⟨by decide +kernel, rfl⟩
theorem d_X4_countKnot_20 : zDj M_X4_countKnot 20 (.goto 19) 19 23 39 := ⟨by decide +kernel, rfl, by decide⟩
theorem d_X4_countKnot_23 : zDc M_X4_countKnot 23 (.aload_n 0) 1 24 := ⟨by decide +kernel, rfl⟩
theorem d_X4_countKnot_24 : zDc M_X4_countKnot 24 (.getfield 22) 3 27 := ⟨by decide +kernel, rfl⟩
theorem d_X4_countKnot_27 : zDc M_X4_countKnot 27 (.getfield 218) 3 30 := ⟨by decide +kernel, rfl⟩
theorem d_X4_countKnot_30 : zDc M_X4_countKnot 30 (.dup) 1 31 := ⟨by decide +kernel, rfl⟩
theorem d_X4_countKnot_31 : zDc M_X4_countKnot 31 (.getfield 252) 3 34 := ⟨by decide +kernel, rfl⟩
theorem d_X4_countKnot_34 : zDc M_X4_countKnot 34 (.iconst 1) 1 35 := ⟨by decide +kernel, rfl⟩
theorem d_X4_countKnot_35 : zDc M_X4_countKnot 35 (.iadd) 1 36 := ⟨by decide +kernel, rfl⟩
theorem d_X4_countKnot_36 : zDc M_X4_countKnot 36 (.putfield 252) 3 39 := ⟨by decide +kernel, rfl⟩
theorem d_X4_countKnot_39 : zDc M_X4_countKnot 39 (.return_) 1 40 := ⟨by decide +kernel, rfl⟩
def f_X4_countKnot (a0 : Nat) (h0 : zHp) : Option (Unit × zHp) :=
  zob (zgR h0 a0 4 10) (fun v1 =>
  zob (zgR h0 v1 6 12) (fun v2 =>
  zob (zgI h0 v2 2 5) (fun v3 =>
  if v3 < 64 then
  zob (zgR h0 a0 4 10) (fun v4 =>
  zob (zgR h0 v4 6 12) (fun v5 =>
  zob (zgI h0 v5 2 5) (fun v6 =>
  zob (zpV h0 v5 2 5 (.int (v6 + 1))) (fun h7 =>
  some ((), h7)))))
  else
  zbd (zcv 4 a0 h0 (f_X4_fail a0 2 h0)) (fun v9 h8 =>
  some ((), h8)))))
set_option maxRecDepth 100000 in
set_option maxHeartbeats 4000000 in
theorem t_X4_countKnot (a0 : Nat) (h0 : zHp) : ∀ (r : Unit) (h' : zHp), f_X4_countKnot a0 h0 = some (r, h') → zCt yX4_countKnot (.code yX4_countKnot cX4_countKnot 1 none) 3 103 0 0 [.ref a0] h0 (none) h' := by
  refine zct_of M_X4_countKnot yX4_countKnot (by decide) rfl rfl [.ref a0] h0 (Nat.le_of_ble_eq_true rfl) (fun _ => none) (fun X => ?_)
  show zG X M_X4_countKnot (0, 0) 0 [(0, .ref a0)] [] h0 (f_X4_countKnot a0 h0) (fun (_ : Unit) h' => zKe X (none) h')
  unfold f_X4_countKnot
  refine zg_aload_n 0 rfl d_X4_countKnot_0 ?_
  refine zg_getR d_X4_countKnot_1 zc_4 (by decide) fl_X4_22 (fun v1 => ?_)
  refine zg_getR d_X4_countKnot_4 zc_6 (by decide) fl_X4_218 (fun v2 => ?_)
  refine zg_getI d_X4_countKnot_7 zc_2 (by decide) fl_X4_252 (fun v3 => ?_)
  refine zg_bipush 64 rfl d_X4_countKnot_10 ?_
  refine zg_icmp_lt d_X4_countKnot_12 ?_ ?_
  · refine zg_aload_n 0 rfl d_X4_countKnot_23 ?_
    refine zg_getR d_X4_countKnot_24 zc_4 (by decide) fl_X4_22 (fun v4 => ?_)
    refine zg_getR d_X4_countKnot_27 zc_6 (by decide) fl_X4_218 (fun v5 => ?_)
    refine zg_dup rfl d_X4_countKnot_30 ?_
    refine zg_getI d_X4_countKnot_31 zc_2 (by decide) fl_X4_252 (fun v6 => ?_)
    refine zg_iconst 1 rfl d_X4_countKnot_34 ?_
    refine zg_iadd d_X4_countKnot_35 ?_
    refine zg_putV d_X4_countKnot_36 zc_2 (by decide) fl_X4_252 rfl rfl rfl (fun h7 => ?_)
    exact zg_vretK d_X4_countKnot_39 rfl ⟨Nat.le_of_ble_eq_true rfl, Nat.le_of_ble_eq_true rfl⟩ (fun q => q)
  · refine zg_aload_n 0 rfl d_X4_countKnot_15 ?_
    refine zg_iconst 2 rfl d_X4_countKnot_16 ?_
    refine zg_cVv (b := a0) (As := [.int 2]) (rest := []) (0, 0) d_X4_countKnot_17 zc_4 rfl cw_X4_82 wi_X4_fail ws_X4_fail rfl rfl (Nat.le_of_ble_eq_true rfl) (by decide) (by decide) ⟨by decide, by decide⟩ rfl (t_X4_fail a0 2 h0) (fun v9 h8 => ?_)
    refine zg_goto d_X4_countKnot_20 ?_
    exact zg_vretK d_X4_countKnot_39 rfl ⟨Nat.le_of_ble_eq_true rfl, Nat.le_of_ble_eq_true rfl⟩ (fun q => q)
abbrev M_X4_expect : zMt := (RX4, cX4_expect, 2, 3, 103, none, "expect", 0, 0)
theorem d_X4_expect_0 : zDc M_X4_expect 0 (.aload_n 0) 1 1 := ⟨by decide +kernel, rfl⟩
theorem d_X4_expect_1 : zDc M_X4_expect 1 (.getfield 65) 3 4 := ⟨by decide +kernel, rfl⟩
theorem d_X4_expect_4 : zDc M_X4_expect 4 (.iload_n 1) 1 5 := ⟨by decide +kernel, rfl⟩
theorem d_X4_expect_5 : zDj M_X4_expect 5 (.if_icmp .ne 10) 10 8 15 := ⟨by decide +kernel, rfl, by decide⟩
theorem d_X4_expect_8 : zDc M_X4_expect 8 (.aload_n 0) 1 9 := ⟨by decide +kernel, rfl⟩
theorem d_X4_expect_9 : zDc M_X4_expect 9 (.invokevirtual 62) 3 12 := ⟨by decide +kernel, rfl⟩
theorem d_X4_expect_12 : zDj M_X4_expect 12 (.goto 8) 8 15 20 := ⟨by decide +kernel, rfl, by decide⟩
theorem d_X4_expect_15 : zDc M_X4_expect 15 (.aload_n 0) 1 16 := ⟨by decide +kernel, rfl⟩
theorem d_X4_expect_16 : zDc M_X4_expect 16 (.iconst 1) 1 17 := ⟨by decide +kernel, rfl⟩
theorem d_X4_expect_17 : zDc M_X4_expect 17 (.invokevirtual 82) 3 20 := ⟨by decide +kernel, rfl⟩
theorem d_X4_expect_20 : zDc M_X4_expect 20 (.return_) 1 21 := ⟨by decide +kernel, rfl⟩
def f_X4_expect (a0 : Nat) (a1 : Int32) (h0 : zHp) : Option (Unit × zHp) :=
  zob (zgI h0 a0 4 4) (fun v1 =>
  if v1 = a1 then
  zbd (zcv 4 a0 h0 (f_X4_advance a0 h0)) (fun v3 h2 =>
  some ((), h2))
  else
  zbd (zcv 4 a0 h0 (f_X4_fail a0 1 h0)) (fun v5 h4 =>
  some ((), h4)))
set_option maxRecDepth 100000 in
set_option maxHeartbeats 4000000 in
theorem t_X4_expect (a0 : Nat) (a1 : Int32) (h0 : zHp) : ∀ (r : Unit) (h' : zHp), f_X4_expect a0 a1 h0 = some (r, h') → zCt yX4_expect (.code yX4_expect cX4_expect 2 none) 3 103 0 0 [.ref a0, .int a1] h0 (none) h' := by
  refine zct_of M_X4_expect yX4_expect (by decide) rfl rfl [.ref a0, .int a1] h0 (Nat.le_of_ble_eq_true rfl) (fun _ => none) (fun X => ?_)
  show zG X M_X4_expect (0, 0) 0 [(0, .ref a0), (1, .int a1)] [] h0 (f_X4_expect a0 a1 h0) (fun (_ : Unit) h' => zKe X (none) h')
  unfold f_X4_expect
  refine zg_aload_n 0 rfl d_X4_expect_0 ?_
  refine zg_getI d_X4_expect_1 zc_4 (by decide) fl_X4_65 (fun v1 => ?_)
  refine zg_iload_n 1 rfl d_X4_expect_4 ?_
  refine zg_icmp_ne d_X4_expect_5 ?_ ?_
  · refine zg_aload_n 0 rfl d_X4_expect_8 ?_
    refine zg_cVv (b := a0) (As := []) (rest := []) (0, 0) d_X4_expect_9 zc_4 rfl cw_X4_62 wi_X4_advance ws_X4_advance rfl rfl (Nat.le_of_ble_eq_true rfl) (by decide) (by decide) ⟨by decide, by decide⟩ rfl (t_X4_advance a0 h0) (fun v3 h2 => ?_)
    refine zg_goto d_X4_expect_12 ?_
    exact zg_vretK d_X4_expect_20 rfl ⟨Nat.le_of_ble_eq_true rfl, Nat.le_of_ble_eq_true rfl⟩ (fun q => q)
  · refine zg_aload_n 0 rfl d_X4_expect_15 ?_
    refine zg_iconst 1 rfl d_X4_expect_16 ?_
    refine zg_cVv (b := a0) (As := [.int 1]) (rest := []) (0, 0) d_X4_expect_17 zc_4 rfl cw_X4_82 wi_X4_fail ws_X4_fail rfl rfl (Nat.le_of_ble_eq_true rfl) (by decide) (by decide) ⟨by decide, by decide⟩ rfl (t_X4_fail a0 1 h0) (fun v5 h4 => ?_)
    exact zg_vretK d_X4_expect_20 rfl ⟨Nat.le_of_ble_eq_true rfl, Nat.le_of_ble_eq_true rfl⟩ (fun q => q)
abbrev M_X4_hasRoom : zMt := (RX4, cX4_hasRoom, 3, 3, 103, (some .boolean), "hasRoom", 0, 0)
theorem d_X4_hasRoom_0 : zDc M_X4_hasRoom 0 (.iload_n 1) 1 1 := ⟨by decide +kernel, rfl⟩
theorem d_X4_hasRoom_1 : zDc M_X4_hasRoom 1 (.iload_n 2) 1 2 := ⟨by decide +kernel, rfl⟩
theorem d_X4_hasRoom_2 : zDj M_X4_hasRoom 2 (.if_icmp .lt 10) 10 5 12 := ⟨by decide +kernel, rfl, by decide⟩
theorem d_X4_hasRoom_5 : zDc M_X4_hasRoom 5 (.aload_n 0) 1 6 := ⟨by decide +kernel, rfl⟩
theorem d_X4_hasRoom_6 : zDc M_X4_hasRoom 6 (.iconst 2) 1 7 := ⟨by decide +kernel, rfl⟩
theorem d_X4_hasRoom_7 : zDc M_X4_hasRoom 7 (.invokevirtual 82) 3 10 := ⟨by decide +kernel, rfl⟩
theorem d_X4_hasRoom_10 : zDc M_X4_hasRoom 10 (.iconst 0) 1 11 := ⟨by decide +kernel, rfl⟩
theorem d_X4_hasRoom_11 : zDc M_X4_hasRoom 11 (.ireturn) 1 12 := ⟨by decide +kernel, rfl⟩
theorem d_X4_hasRoom_12 : zDc M_X4_hasRoom 12 (.aload_n 0) 1 13 := ⟨by decide +kernel, rfl⟩
theorem d_X4_hasRoom_13 : zDc M_X4_hasRoom 13 (.invokevirtual 62) 3 16 := ⟨by decide +kernel, rfl⟩
theorem d_X4_hasRoom_16 : zDc M_X4_hasRoom 16 (.iconst 1) 1 17 := ⟨by decide +kernel, rfl⟩
theorem d_X4_hasRoom_17 : zDc M_X4_hasRoom 17 (.ireturn) 1 18 := ⟨by decide +kernel, rfl⟩
def f_X4_hasRoom (a0 : Nat) (a1 : Int32) (a2 : Int32) (h0 : zHp) : Option (Int32 × zHp) :=
  if a1 < a2 then
  zbd (zcv 4 a0 h0 (f_X4_advance a0 h0)) (fun v2 h1 =>
  some (1, h1))
  else
  zbd (zcv 4 a0 h0 (f_X4_fail a0 2 h0)) (fun v4 h3 =>
  some (0, h3))
set_option maxRecDepth 100000 in
set_option maxHeartbeats 4000000 in
theorem t_X4_hasRoom (a0 : Nat) (a1 : Int32) (a2 : Int32) (h0 : zHp) : ∀ (r : Int32) (h' : zHp), f_X4_hasRoom a0 a1 a2 h0 = some (r, h') → zCt yX4_hasRoom (.code yX4_hasRoom cX4_hasRoom 3 (some .boolean)) 3 103 0 0 [.ref a0, .int a1, .int a2] h0 (some (.int r)) h' := by
  refine zct_of M_X4_hasRoom yX4_hasRoom (by decide) rfl rfl [.ref a0, .int a1, .int a2] h0 (Nat.le_of_ble_eq_true rfl) (fun r => some (.int r)) (fun X => ?_)
  show zG X M_X4_hasRoom (0, 0) 0 [(0, .ref a0), (1, .int a1), (2, .int a2)] [] h0 (f_X4_hasRoom a0 a1 a2 h0) (fun (r : Int32) h' => zKe X (some (.int r)) h')
  unfold f_X4_hasRoom
  refine zg_iload_n 1 rfl d_X4_hasRoom_0 ?_
  refine zg_iload_n 2 rfl d_X4_hasRoom_1 ?_
  refine zg_icmp_lt d_X4_hasRoom_2 ?_ ?_
  · refine zg_aload_n 0 rfl d_X4_hasRoom_12 ?_
    refine zg_cVv (b := a0) (As := []) (rest := []) (0, 0) d_X4_hasRoom_13 zc_4 rfl cw_X4_62 wi_X4_advance ws_X4_advance rfl rfl (Nat.le_of_ble_eq_true rfl) (by decide) (by decide) ⟨by decide, by decide⟩ rfl (t_X4_advance a0 h0) (fun v2 h1 => ?_)
    refine zg_iconst 1 rfl d_X4_hasRoom_16 ?_
    exact zg_zretK d_X4_hasRoom_17 rfl ⟨Nat.le_of_ble_eq_true rfl, Nat.le_of_ble_eq_true rfl⟩ (Or.inr rfl) (fun q => q)
  · refine zg_aload_n 0 rfl d_X4_hasRoom_5 ?_
    refine zg_iconst 2 rfl d_X4_hasRoom_6 ?_
    refine zg_cVv (b := a0) (As := [.int 2]) (rest := []) (0, 0) d_X4_hasRoom_7 zc_4 rfl cw_X4_82 wi_X4_fail ws_X4_fail rfl rfl (Nat.le_of_ble_eq_true rfl) (by decide) (by decide) ⟨by decide, by decide⟩ rfl (t_X4_fail a0 2 h0) (fun v4 h3 => ?_)
    refine zg_iconst 0 rfl d_X4_hasRoom_10 ?_
    exact zg_zretK d_X4_hasRoom_11 rfl ⟨Nat.le_of_ble_eq_true rfl, Nat.le_of_ble_eq_true rfl⟩ (Or.inl rfl) (fun q => q)
abbrev M_X4_letWait : zMt := (RX4, cX4_letWait, 2, 1, 60, none, "letWait", 0, 0)
theorem d_X4_letWait_0 : zDc M_X4_letWait 0 (.aload_n 0) 1 1 := ⟨by decide +kernel, rfl⟩
theorem d_X4_letWait_1 : zDc M_X4_letWait 1 (.getfield 230) 3 4 := ⟨by decide +kernel, rfl⟩
theorem d_X4_letWait_4 : zDc M_X4_letWait 4 (.aload_n 0) 1 5 := ⟨by decide +kernel, rfl⟩
theorem d_X4_letWait_5 : zDc M_X4_letWait 5 (.getfield 26) 3 8 := ⟨by decide +kernel, rfl⟩
theorem d_X4_letWait_8 : zDc M_X4_letWait 8 (.arraylength) 1 9 := ⟨by decide +kernel, rfl⟩
theorem d_X4_letWait_9 : zDj M_X4_letWait 9 (.if_icmp .ge 23) 23 12 32 := ⟨by decide +kernel, rfl, by decide⟩
theorem d_X4_letWait_12 : zDc M_X4_letWait 12 (.aload_n 0) 1 13 := ⟨by decide +kernel, rfl⟩
theorem d_X4_letWait_13 : zDc M_X4_letWait 13 (.getfield 26) 3 16 := ⟨by decide +kernel, rfl⟩
theorem d_X4_letWait_16 : zDc M_X4_letWait 16 (.aload_n 0) 1 17 := ⟨by decide +kernel, rfl⟩
theorem d_X4_letWait_17 : zDc M_X4_letWait 17 (.getfield 230) 3 20 := ⟨by decide +kernel, rfl⟩
theorem d_X4_letWait_20 : zDc M_X4_letWait 20 (.iload_n 1) 1 21 := ⟨by decide +kernel, rfl⟩
theorem d_X4_letWait_21 : zDc M_X4_letWait 21 (.iastore) 1 22 := ⟨by decide +kernel, rfl⟩
theorem d_X4_letWait_22 : zDc M_X4_letWait 22 (.aload_n 0) 1 23 := ⟨by decide +kernel, rfl⟩
theorem d_X4_letWait_23 : zDc M_X4_letWait 23 (.dup) 1 24 := ⟨by decide +kernel, rfl⟩
theorem d_X4_letWait_24 : zDc M_X4_letWait 24 (.getfield 230) 3 27 := ⟨by decide +kernel, rfl⟩
theorem d_X4_letWait_27 : zDc M_X4_letWait 27 (.iconst 1) 1 28 := ⟨by decide +kernel, rfl⟩
theorem d_X4_letWait_28 : zDc M_X4_letWait 28 (.iadd) 1 29 := ⟨by decide +kernel, rfl⟩
theorem d_X4_letWait_29 : zDc M_X4_letWait 29 (.putfield 230) 3 32 := ⟨by decide +kernel, rfl⟩
theorem d_X4_letWait_32 : zDc M_X4_letWait 32 (.return_) 1 33 := ⟨by decide +kernel, rfl⟩
def f_X4_letWait (a0 : Nat) (a1 : Int32) (h0 : zHp) : Option (Unit × zHp) :=
  zob (zgI h0 a0 4 12) (fun v1 =>
  zob (zgR h0 a0 4 11) (fun v2 =>
  zob (zln h0 v2) (fun v3 =>
  if v3 ≤ v1 then
  some ((), h0)
  else
  zob (zgR h0 a0 4 11) (fun v4 =>
  zob (zgI h0 a0 4 12) (fun v5 =>
  zob (zsI 0 h0 v4 v5 a1) (fun h6 =>
  zob (zgI h6 a0 4 12) (fun v7 =>
  zob (zpV h6 a0 4 12 (.int (v7 + 1))) (fun h8 =>
  some ((), h8)))))))))
set_option maxRecDepth 100000 in
set_option maxHeartbeats 4000000 in
theorem t_X4_letWait (a0 : Nat) (a1 : Int32) (h0 : zHp) : ∀ (r : Unit) (h' : zHp), f_X4_letWait a0 a1 h0 = some (r, h') → zCt yX4_letWait (.code yX4_letWait cX4_letWait 2 none) 1 60 0 0 [.ref a0, .int a1] h0 (none) h' := by
  refine zct_of M_X4_letWait yX4_letWait (by decide) rfl rfl [.ref a0, .int a1] h0 (Nat.le_of_ble_eq_true rfl) (fun _ => none) (fun X => ?_)
  show zG X M_X4_letWait (0, 0) 0 [(0, .ref a0), (1, .int a1)] [] h0 (f_X4_letWait a0 a1 h0) (fun (_ : Unit) h' => zKe X (none) h')
  unfold f_X4_letWait
  refine zg_aload_n 0 rfl d_X4_letWait_0 ?_
  refine zg_getI d_X4_letWait_1 zc_4 (by decide) fl_X4_230 (fun v1 => ?_)
  refine zg_aload_n 0 rfl d_X4_letWait_4 ?_
  refine zg_getR d_X4_letWait_5 zc_4 (by decide) fl_X4_26 (fun v2 => ?_)
  refine zg_len d_X4_letWait_8 (fun v3 => ?_)
  refine zg_icmp_ge d_X4_letWait_9 ?_ ?_
  · exact zg_vretK d_X4_letWait_32 rfl ⟨Nat.le_of_ble_eq_true rfl, Nat.le_of_ble_eq_true rfl⟩ (fun q => q)
  · refine zg_aload_n 0 rfl d_X4_letWait_12 ?_
    refine zg_getR d_X4_letWait_13 zc_4 (by decide) fl_X4_26 (fun v4 => ?_)
    refine zg_aload_n 0 rfl d_X4_letWait_16 ?_
    refine zg_getI d_X4_letWait_17 zc_4 (by decide) fl_X4_230 (fun v5 => ?_)
    refine zg_iload_n 1 rfl d_X4_letWait_20 ?_
    refine zg_ast0 d_X4_letWait_21 (fun h6 => ?_)
    refine zg_aload_n 0 rfl d_X4_letWait_22 ?_
    refine zg_dup rfl d_X4_letWait_23 ?_
    refine zg_getI d_X4_letWait_24 zc_4 (by decide) fl_X4_230 (fun v7 => ?_)
    refine zg_iconst 1 rfl d_X4_letWait_27 ?_
    refine zg_iadd d_X4_letWait_28 ?_
    refine zg_putV d_X4_letWait_29 zc_4 (by decide) fl_X4_230 rfl rfl rfl (fun h8 => ?_)
    exact zg_vretK d_X4_letWait_32 rfl ⟨Nat.le_of_ble_eq_true rfl, Nat.le_of_ble_eq_true rfl⟩ (fun q => q)
abbrev M_X4_rankOf : zMt := (RX4, cX4_rankOf, 1, 1, 60, (some .int), "rankOf", 0, 0)
theorem d_X4_rankOf_0 : zDc M_X4_rankOf 0 (.iload_n 0) 1 1 := ⟨by decide +kernel, rfl⟩
theorem d_X4_rankOf_1 : decode M_X4_rankOf.2.1 1 = .ok (.tableswitch 108 13 32 #[95, 97, 99, 108, 108, 108, 108, 108, 108, 108, 103, 103, 105, 105, 101, 101, 101, 101, 101, 101], 95) := by decide +kernel
theorem d_X4_rankOf_96 : zDc M_X4_rankOf 96 (.iconst 1) 1 97 := ⟨by decide +kernel, rfl⟩
theorem d_X4_rankOf_97 : zDc M_X4_rankOf 97 (.ireturn) 1 98 := ⟨by decide +kernel, rfl⟩
theorem d_X4_rankOf_98 : zDc M_X4_rankOf 98 (.iconst 2) 1 99 := ⟨by decide +kernel, rfl⟩
theorem d_X4_rankOf_99 : zDc M_X4_rankOf 99 (.ireturn) 1 100 := ⟨by decide +kernel, rfl⟩
theorem d_X4_rankOf_100 : zDc M_X4_rankOf 100 (.iconst 3) 1 101 := ⟨by decide +kernel, rfl⟩
theorem d_X4_rankOf_101 : zDc M_X4_rankOf 101 (.ireturn) 1 102 := ⟨by decide +kernel, rfl⟩
theorem d_X4_rankOf_102 : zDc M_X4_rankOf 102 (.iconst 4) 1 103 := ⟨by decide +kernel, rfl⟩
theorem d_X4_rankOf_103 : zDc M_X4_rankOf 103 (.ireturn) 1 104 := ⟨by decide +kernel, rfl⟩
theorem d_X4_rankOf_104 : zDc M_X4_rankOf 104 (.iconst 5) 1 105 := ⟨by decide +kernel, rfl⟩
theorem d_X4_rankOf_105 : zDc M_X4_rankOf 105 (.ireturn) 1 106 := ⟨by decide +kernel, rfl⟩
theorem d_X4_rankOf_106 : zDc M_X4_rankOf 106 (.bipush 6) 2 108 := ⟨by decide +kernel, rfl⟩
theorem d_X4_rankOf_108 : zDc M_X4_rankOf 108 (.ireturn) 1 109 := ⟨by decide +kernel, rfl⟩
theorem d_X4_rankOf_109 : zDc M_X4_rankOf 109 (.iconst 0) 1 110 := ⟨by decide +kernel, rfl⟩
theorem d_X4_rankOf_110 : zDc M_X4_rankOf 110 (.ireturn) 1 111 := ⟨by decide +kernel, rfl⟩
def f_X4_rankOf (a0 : Int32) (h0 : zHp) : Option (Int32 × zHp) :=
  if a0 = 13 then
  some (1, h0)
  else if a0 = 14 then
  some (2, h0)
  else if a0 = 15 then
  some (3, h0)
  else if a0 = 16 then
  some (0, h0)
  else if a0 = 17 then
  some (0, h0)
  else if a0 = 18 then
  some (0, h0)
  else if a0 = 19 then
  some (0, h0)
  else if a0 = 20 then
  some (0, h0)
  else if a0 = 21 then
  some (0, h0)
  else if a0 = 22 then
  some (0, h0)
  else if a0 = 23 then
  some (5, h0)
  else if a0 = 24 then
  some (5, h0)
  else if a0 = 25 then
  some (6, h0)
  else if a0 = 26 then
  some (6, h0)
  else if a0 = 27 then
  some (4, h0)
  else if a0 = 28 then
  some (4, h0)
  else if a0 = 29 then
  some (4, h0)
  else if a0 = 30 then
  some (4, h0)
  else if a0 = 31 then
  some (4, h0)
  else if a0 = 32 then
  some (4, h0)
  else 
  some (0, h0)
set_option maxRecDepth 100000 in
set_option maxHeartbeats 4000000 in
theorem t_X4_rankOf (a0 : Int32) (h0 : zHp) : ∀ (r : Int32) (h' : zHp), f_X4_rankOf a0 h0 = some (r, h') → zCt yX4_rankOf (.code yX4_rankOf cX4_rankOf 1 (some .int)) 1 60 0 0 [.int a0] h0 (some (.int r)) h' := by
  refine zct_of M_X4_rankOf yX4_rankOf (by decide) rfl rfl [.int a0] h0 (Nat.le_of_ble_eq_true rfl) (fun r => some (.int r)) (fun X => ?_)
  show zG X M_X4_rankOf (0, 0) 0 [(0, .int a0)] [] h0 (f_X4_rankOf a0 h0) (fun (r : Int32) h' => zKe X (some (.int r)) h')
  unfold f_X4_rankOf
  refine zg_iload_n 0 rfl d_X4_rankOf_0 ?_
  refine zg_if (fun n1 => ?_) (fun n1 => ?_)
  · refine zg_tabE n1 d_X4_rankOf_1 (by decide) (by decide) (off := 95) rfl (tgt := 96) (by decide) ?_
    refine zg_iconst 1 rfl d_X4_rankOf_96 ?_
    exact zg_iretK d_X4_rankOf_97 rfl ⟨Nat.le_of_ble_eq_true rfl, Nat.le_of_ble_eq_true rfl⟩ (fun q => q)
  refine zg_if (fun n2 => ?_) (fun n2 => ?_)
  · refine zg_tabE n2 d_X4_rankOf_1 (by decide) (by decide) (off := 97) rfl (tgt := 98) (by decide) ?_
    refine zg_iconst 2 rfl d_X4_rankOf_98 ?_
    exact zg_iretK d_X4_rankOf_99 rfl ⟨Nat.le_of_ble_eq_true rfl, Nat.le_of_ble_eq_true rfl⟩ (fun q => q)
  refine zg_if (fun n3 => ?_) (fun n3 => ?_)
  · refine zg_tabE n3 d_X4_rankOf_1 (by decide) (by decide) (off := 99) rfl (tgt := 100) (by decide) ?_
    refine zg_iconst 3 rfl d_X4_rankOf_100 ?_
    exact zg_iretK d_X4_rankOf_101 rfl ⟨Nat.le_of_ble_eq_true rfl, Nat.le_of_ble_eq_true rfl⟩ (fun q => q)
  refine zg_if (fun n4 => ?_) (fun n4 => ?_)
  · refine zg_tabE n4 d_X4_rankOf_1 (by decide) (by decide) (off := 108) rfl (tgt := 109) (by decide) ?_
    refine zg_iconst 0 rfl d_X4_rankOf_109 ?_
    exact zg_iretK d_X4_rankOf_110 rfl ⟨Nat.le_of_ble_eq_true rfl, Nat.le_of_ble_eq_true rfl⟩ (fun q => q)
  refine zg_if (fun n5 => ?_) (fun n5 => ?_)
  · refine zg_tabE n5 d_X4_rankOf_1 (by decide) (by decide) (off := 108) rfl (tgt := 109) (by decide) ?_
    refine zg_iconst 0 rfl d_X4_rankOf_109 ?_
    exact zg_iretK d_X4_rankOf_110 rfl ⟨Nat.le_of_ble_eq_true rfl, Nat.le_of_ble_eq_true rfl⟩ (fun q => q)
  refine zg_if (fun n6 => ?_) (fun n6 => ?_)
  · refine zg_tabE n6 d_X4_rankOf_1 (by decide) (by decide) (off := 108) rfl (tgt := 109) (by decide) ?_
    refine zg_iconst 0 rfl d_X4_rankOf_109 ?_
    exact zg_iretK d_X4_rankOf_110 rfl ⟨Nat.le_of_ble_eq_true rfl, Nat.le_of_ble_eq_true rfl⟩ (fun q => q)
  refine zg_if (fun n7 => ?_) (fun n7 => ?_)
  · refine zg_tabE n7 d_X4_rankOf_1 (by decide) (by decide) (off := 108) rfl (tgt := 109) (by decide) ?_
    refine zg_iconst 0 rfl d_X4_rankOf_109 ?_
    exact zg_iretK d_X4_rankOf_110 rfl ⟨Nat.le_of_ble_eq_true rfl, Nat.le_of_ble_eq_true rfl⟩ (fun q => q)
  refine zg_if (fun n8 => ?_) (fun n8 => ?_)
  · refine zg_tabE n8 d_X4_rankOf_1 (by decide) (by decide) (off := 108) rfl (tgt := 109) (by decide) ?_
    refine zg_iconst 0 rfl d_X4_rankOf_109 ?_
    exact zg_iretK d_X4_rankOf_110 rfl ⟨Nat.le_of_ble_eq_true rfl, Nat.le_of_ble_eq_true rfl⟩ (fun q => q)
  refine zg_if (fun n9 => ?_) (fun n9 => ?_)
  · refine zg_tabE n9 d_X4_rankOf_1 (by decide) (by decide) (off := 108) rfl (tgt := 109) (by decide) ?_
    refine zg_iconst 0 rfl d_X4_rankOf_109 ?_
    exact zg_iretK d_X4_rankOf_110 rfl ⟨Nat.le_of_ble_eq_true rfl, Nat.le_of_ble_eq_true rfl⟩ (fun q => q)
  refine zg_if (fun n10 => ?_) (fun n10 => ?_)
  · refine zg_tabE n10 d_X4_rankOf_1 (by decide) (by decide) (off := 108) rfl (tgt := 109) (by decide) ?_
    refine zg_iconst 0 rfl d_X4_rankOf_109 ?_
    exact zg_iretK d_X4_rankOf_110 rfl ⟨Nat.le_of_ble_eq_true rfl, Nat.le_of_ble_eq_true rfl⟩ (fun q => q)
  refine zg_if (fun n11 => ?_) (fun n11 => ?_)
  · refine zg_tabE n11 d_X4_rankOf_1 (by decide) (by decide) (off := 103) rfl (tgt := 104) (by decide) ?_
    refine zg_iconst 5 rfl d_X4_rankOf_104 ?_
    exact zg_iretK d_X4_rankOf_105 rfl ⟨Nat.le_of_ble_eq_true rfl, Nat.le_of_ble_eq_true rfl⟩ (fun q => q)
  refine zg_if (fun n12 => ?_) (fun n12 => ?_)
  · refine zg_tabE n12 d_X4_rankOf_1 (by decide) (by decide) (off := 103) rfl (tgt := 104) (by decide) ?_
    refine zg_iconst 5 rfl d_X4_rankOf_104 ?_
    exact zg_iretK d_X4_rankOf_105 rfl ⟨Nat.le_of_ble_eq_true rfl, Nat.le_of_ble_eq_true rfl⟩ (fun q => q)
  refine zg_if (fun n13 => ?_) (fun n13 => ?_)
  · refine zg_tabE n13 d_X4_rankOf_1 (by decide) (by decide) (off := 105) rfl (tgt := 106) (by decide) ?_
    refine zg_bipush 6 rfl d_X4_rankOf_106 ?_
    exact zg_iretK d_X4_rankOf_108 rfl ⟨Nat.le_of_ble_eq_true rfl, Nat.le_of_ble_eq_true rfl⟩ (fun q => q)
  refine zg_if (fun n14 => ?_) (fun n14 => ?_)
  · refine zg_tabE n14 d_X4_rankOf_1 (by decide) (by decide) (off := 105) rfl (tgt := 106) (by decide) ?_
    refine zg_bipush 6 rfl d_X4_rankOf_106 ?_
    exact zg_iretK d_X4_rankOf_108 rfl ⟨Nat.le_of_ble_eq_true rfl, Nat.le_of_ble_eq_true rfl⟩ (fun q => q)
  refine zg_if (fun n15 => ?_) (fun n15 => ?_)
  · refine zg_tabE n15 d_X4_rankOf_1 (by decide) (by decide) (off := 101) rfl (tgt := 102) (by decide) ?_
    refine zg_iconst 4 rfl d_X4_rankOf_102 ?_
    exact zg_iretK d_X4_rankOf_103 rfl ⟨Nat.le_of_ble_eq_true rfl, Nat.le_of_ble_eq_true rfl⟩ (fun q => q)
  refine zg_if (fun n16 => ?_) (fun n16 => ?_)
  · refine zg_tabE n16 d_X4_rankOf_1 (by decide) (by decide) (off := 101) rfl (tgt := 102) (by decide) ?_
    refine zg_iconst 4 rfl d_X4_rankOf_102 ?_
    exact zg_iretK d_X4_rankOf_103 rfl ⟨Nat.le_of_ble_eq_true rfl, Nat.le_of_ble_eq_true rfl⟩ (fun q => q)
  refine zg_if (fun n17 => ?_) (fun n17 => ?_)
  · refine zg_tabE n17 d_X4_rankOf_1 (by decide) (by decide) (off := 101) rfl (tgt := 102) (by decide) ?_
    refine zg_iconst 4 rfl d_X4_rankOf_102 ?_
    exact zg_iretK d_X4_rankOf_103 rfl ⟨Nat.le_of_ble_eq_true rfl, Nat.le_of_ble_eq_true rfl⟩ (fun q => q)
  refine zg_if (fun n18 => ?_) (fun n18 => ?_)
  · refine zg_tabE n18 d_X4_rankOf_1 (by decide) (by decide) (off := 101) rfl (tgt := 102) (by decide) ?_
    refine zg_iconst 4 rfl d_X4_rankOf_102 ?_
    exact zg_iretK d_X4_rankOf_103 rfl ⟨Nat.le_of_ble_eq_true rfl, Nat.le_of_ble_eq_true rfl⟩ (fun q => q)
  refine zg_if (fun n19 => ?_) (fun n19 => ?_)
  · refine zg_tabE n19 d_X4_rankOf_1 (by decide) (by decide) (off := 101) rfl (tgt := 102) (by decide) ?_
    refine zg_iconst 4 rfl d_X4_rankOf_102 ?_
    exact zg_iretK d_X4_rankOf_103 rfl ⟨Nat.le_of_ble_eq_true rfl, Nat.le_of_ble_eq_true rfl⟩ (fun q => q)
  refine zg_if (fun n20 => ?_) (fun n20 => ?_)
  · refine zg_tabE n20 d_X4_rankOf_1 (by decide) (by decide) (off := 101) rfl (tgt := 102) (by decide) ?_
    refine zg_iconst 4 rfl d_X4_rankOf_102 ?_
    exact zg_iretK d_X4_rankOf_103 rfl ⟨Nat.le_of_ble_eq_true rfl, Nat.le_of_ble_eq_true rfl⟩ (fun q => q)
  refine zg_tabO d_X4_rankOf_1 (by have q0 := lv_neT n1 (a := 13) rfl; have q1 := lv_neT n2 (a := 14) rfl; have q2 := lv_neT n3 (a := 15) rfl; have q3 := lv_neT n4 (a := 16) rfl; have q4 := lv_neT n5 (a := 17) rfl; have q5 := lv_neT n6 (a := 18) rfl; have q6 := lv_neT n7 (a := 19) rfl; have q7 := lv_neT n8 (a := 20) rfl; have q8 := lv_neT n9 (a := 21) rfl; have q9 := lv_neT n10 (a := 22) rfl; have q10 := lv_neT n11 (a := 23) rfl; have q11 := lv_neT n12 (a := 24) rfl; have q12 := lv_neT n13 (a := 25) rfl; have q13 := lv_neT n14 (a := 26) rfl; have q14 := lv_neT n15 (a := 27) rfl; have q15 := lv_neT n16 (a := 28) rfl; have q16 := lv_neT n17 (a := 29) rfl; have q17 := lv_neT n18 (a := 30) rfl; have q18 := lv_neT n19 (a := 31) rfl; have q19 := lv_neT n20 (a := 32) rfl; omega) (tgt := 109) (by decide) ?_
  refine zg_iconst 0 rfl d_X4_rankOf_109 ?_
  exact zg_iretK d_X4_rankOf_110 rfl ⟨Nat.le_of_ble_eq_true rfl, Nat.le_of_ble_eq_true rfl⟩ (fun q => q)
abbrev M_X4_mayTurn : zMt := (RX4, cX4_mayTurn, 1, 2, 80, (some .boolean), "mayTurn", 0, 0)
theorem d_X4_mayTurn_0 : zDc M_X4_mayTurn 0 (.aload_n 0) 1 1 := ⟨by decide +kernel, rfl⟩
theorem d_X4_mayTurn_1 : zDc M_X4_mayTurn 1 (.getfield 230) 3 4 := ⟨by decide +kernel, rfl⟩
theorem d_X4_mayTurn_4 : zDj M_X4_mayTurn 4 (.ifCond .eq 21) 21 7 25 := ⟨by decide +kernel, rfl, by decide⟩
theorem d_X4_mayTurn_7 : zDc M_X4_mayTurn 7 (.aload_n 0) 1 8 := ⟨by decide +kernel, rfl⟩
theorem d_X4_mayTurn_8 : zDc M_X4_mayTurn 8 (.getfield 26) 3 11 := ⟨by decide +kernel, rfl⟩
theorem d_X4_mayTurn_11 : zDc M_X4_mayTurn 11 (.aload_n 0) 1 12 := ⟨by decide +kernel, rfl⟩
theorem d_X4_mayTurn_12 : zDc M_X4_mayTurn 12 (.getfield 230) 3 15 := ⟨by decide +kernel, rfl⟩
theorem d_X4_mayTurn_15 : zDc M_X4_mayTurn 15 (.iconst 1) 1 16 := ⟨by decide +kernel, rfl⟩
theorem d_X4_mayTurn_16 : zDc M_X4_mayTurn 16 (.isub) 1 17 := ⟨by decide +kernel, rfl⟩
theorem d_X4_mayTurn_17 : zDc M_X4_mayTurn 17 (.iaload) 1 18 := ⟨by decide +kernel, rfl⟩
theorem d_X4_mayTurn_18 : zDc M_X4_mayTurn 18 (.invokestatic 267) 3 21 := ⟨by decide +kernel, rfl⟩
theorem d_X4_mayTurn_21 : zDc M_X4_mayTurn 21 (.iconst 4) 1 22 := ⟨by decide +kernel, rfl⟩
theorem d_X4_mayTurn_22 : zDj M_X4_mayTurn 22 (.if_icmp .ge 7) 7 25 29 := ⟨by decide +kernel, rfl, by decide⟩
theorem d_X4_mayTurn_25 : zDc M_X4_mayTurn 25 (.iconst 1) 1 26 := ⟨by decide +kernel, rfl⟩
theorem d_X4_mayTurn_26 : zDj M_X4_mayTurn 26 (.goto 4) 4 29 30 := ⟨by decide +kernel, rfl, by decide⟩
theorem d_X4_mayTurn_29 : zDc M_X4_mayTurn 29 (.iconst 0) 1 30 := ⟨by decide +kernel, rfl⟩
theorem d_X4_mayTurn_30 : zDc M_X4_mayTurn 30 (.ireturn) 1 31 := ⟨by decide +kernel, rfl⟩
def f_X4_mayTurn (a0 : Nat) (h0 : zHp) : Option (Int32 × zHp) :=
  zob (zgI h0 a0 4 12) (fun v1 =>
  if v1 = 0 then
  some (1, h0)
  else
  zob (zgR h0 a0 4 11) (fun v2 =>
  zob (zgI h0 a0 4 12) (fun v3 =>
  zob (zaI 0 h0 v2 (v3 - 1)) (fun v4 =>
  zbd ((f_X4_rankOf v4 h0)) (fun v6 h5 =>
  if 4 ≤ v6 then
  some (0, h5)
  else
  some (1, h5))))))
set_option maxRecDepth 100000 in
set_option maxHeartbeats 4000000 in
theorem t_X4_mayTurn (a0 : Nat) (h0 : zHp) : ∀ (r : Int32) (h' : zHp), f_X4_mayTurn a0 h0 = some (r, h') → zCt yX4_mayTurn (.code yX4_mayTurn cX4_mayTurn 1 (some .boolean)) 2 80 0 0 [.ref a0] h0 (some (.int r)) h' := by
  refine zct_of M_X4_mayTurn yX4_mayTurn (by decide) rfl rfl [.ref a0] h0 (Nat.le_of_ble_eq_true rfl) (fun r => some (.int r)) (fun X => ?_)
  show zG X M_X4_mayTurn (0, 0) 0 [(0, .ref a0)] [] h0 (f_X4_mayTurn a0 h0) (fun (r : Int32) h' => zKe X (some (.int r)) h')
  unfold f_X4_mayTurn
  refine zg_aload_n 0 rfl d_X4_mayTurn_0 ?_
  refine zg_getI d_X4_mayTurn_1 zc_4 (by decide) fl_X4_230 (fun v1 => ?_)
  refine zg_if_eq d_X4_mayTurn_4 ?_ ?_
  · refine zg_iconst 1 rfl d_X4_mayTurn_25 ?_
    refine zg_goto d_X4_mayTurn_26 ?_
    exact zg_zretK d_X4_mayTurn_30 rfl ⟨Nat.le_of_ble_eq_true rfl, Nat.le_of_ble_eq_true rfl⟩ (Or.inr rfl) (fun q => q)
  · refine zg_aload_n 0 rfl d_X4_mayTurn_7 ?_
    refine zg_getR d_X4_mayTurn_8 zc_4 (by decide) fl_X4_26 (fun v2 => ?_)
    refine zg_aload_n 0 rfl d_X4_mayTurn_11 ?_
    refine zg_getI d_X4_mayTurn_12 zc_4 (by decide) fl_X4_230 (fun v3 => ?_)
    refine zg_iconst 1 rfl d_X4_mayTurn_15 ?_
    refine zg_isub d_X4_mayTurn_16 ?_
    refine zg_ald0 d_X4_mayTurn_17 (fun v4 => ?_)
    refine zg_cSi (As := [.int v4]) (rest := []) (0, 0) d_X4_mayTurn_18 cw_X4_267 wt_X4_rankOf rfl rfl (Nat.le_of_ble_eq_true rfl) (by decide) (by decide) ⟨by decide, by decide⟩ rfl (t_X4_rankOf v4 h0) (fun v6 h5 => ?_)
    refine zg_iconst 4 rfl d_X4_mayTurn_21 ?_
    refine zg_icmp_ge d_X4_mayTurn_22 ?_ ?_
    · refine zg_iconst 0 rfl d_X4_mayTurn_29 ?_
      exact zg_zretK d_X4_mayTurn_30 rfl ⟨Nat.le_of_ble_eq_true rfl, Nat.le_of_ble_eq_true rfl⟩ (Or.inl rfl) (fun q => q)
    · refine zg_iconst 1 rfl d_X4_mayTurn_25 ?_
      refine zg_goto d_X4_mayTurn_26 ?_
      exact zg_zretK d_X4_mayTurn_30 rfl ⟨Nat.le_of_ble_eq_true rfl, Nat.le_of_ble_eq_true rfl⟩ (Or.inr rfl) (fun q => q)
abbrev M_X4_openOne : zMt := (RX4, cX4_openOne, 1, 3, 103, none, "openOne", 0, 0)
theorem d_X4_openOne_0 : zDc M_X4_openOne 0 (.aload_n 0) 1 1 := ⟨by decide +kernel, rfl⟩
theorem d_X4_openOne_1 : zDc M_X4_openOne 1 (.getfield 233) 3 4 := ⟨by decide +kernel, rfl⟩
theorem d_X4_openOne_4 : zDc M_X4_openOne 4 (.bipush 8) 2 6 := ⟨by decide +kernel, rfl⟩
theorem d_X4_openOne_6 : zDj M_X4_openOne 6 (.if_icmp .lt 11) 11 9 17 := ⟨by decide +kernel, rfl, by decide⟩
theorem d_X4_openOne_9 : zDc M_X4_openOne 9 (.aload_n 0) 1 10 := ⟨by decide +kernel, rfl⟩
theorem d_X4_openOne_10 : zDc M_X4_openOne 10 (.iconst 2) 1 11 := ⟨by decide +kernel, rfl⟩
theorem d_X4_openOne_11 : zDc M_X4_openOne 11 (.invokevirtual 82) 3 14 := ⟨by decide +kernel, rfl⟩
theorem d_X4_openOne_14 : zDj M_X4_openOne 14 (.goto 13) 13 17 27 := ⟨by decide +kernel, rfl, by decide⟩
theorem d_X4_openOne_17 : zDc M_X4_openOne 17 (.aload_n 0) 1 18 := ⟨by decide +kernel, rfl⟩
theorem d_X4_openOne_18 : zDc M_X4_openOne 18 (.dup) 1 19 := ⟨by decide +kernel, rfl⟩
theorem d_X4_openOne_19 : zDc M_X4_openOne 19 (.getfield 233) 3 22 := ⟨by decide +kernel, rfl⟩
theorem d_X4_openOne_22 : zDc M_X4_openOne 22 (.iconst 1) 1 23 := ⟨by decide +kernel, rfl⟩
theorem d_X4_openOne_23 : zDc M_X4_openOne 23 (.iadd) 1 24 := ⟨by decide +kernel, rfl⟩
theorem d_X4_openOne_24 : zDc M_X4_openOne 24 (.putfield 233) 3 27 := ⟨by decide +kernel, rfl⟩
theorem d_X4_openOne_27 : zDc M_X4_openOne 27 (.return_) 1 28 := ⟨by decide +kernel, rfl⟩
def f_X4_openOne (a0 : Nat) (h0 : zHp) : Option (Unit × zHp) :=
  zob (zgI h0 a0 4 13) (fun v1 =>
  if v1 < 8 then
  zob (zgI h0 a0 4 13) (fun v2 =>
  zob (zpV h0 a0 4 13 (.int (v2 + 1))) (fun h3 =>
  some ((), h3)))
  else
  zbd (zcv 4 a0 h0 (f_X4_fail a0 2 h0)) (fun v5 h4 =>
  some ((), h4)))
set_option maxRecDepth 100000 in
set_option maxHeartbeats 4000000 in
theorem t_X4_openOne (a0 : Nat) (h0 : zHp) : ∀ (r : Unit) (h' : zHp), f_X4_openOne a0 h0 = some (r, h') → zCt yX4_openOne (.code yX4_openOne cX4_openOne 1 none) 3 103 0 0 [.ref a0] h0 (none) h' := by
  refine zct_of M_X4_openOne yX4_openOne (by decide) rfl rfl [.ref a0] h0 (Nat.le_of_ble_eq_true rfl) (fun _ => none) (fun X => ?_)
  show zG X M_X4_openOne (0, 0) 0 [(0, .ref a0)] [] h0 (f_X4_openOne a0 h0) (fun (_ : Unit) h' => zKe X (none) h')
  unfold f_X4_openOne
  refine zg_aload_n 0 rfl d_X4_openOne_0 ?_
  refine zg_getI d_X4_openOne_1 zc_4 (by decide) fl_X4_233 (fun v1 => ?_)
  refine zg_bipush 8 rfl d_X4_openOne_4 ?_
  refine zg_icmp_lt d_X4_openOne_6 ?_ ?_
  · refine zg_aload_n 0 rfl d_X4_openOne_17 ?_
    refine zg_dup rfl d_X4_openOne_18 ?_
    refine zg_getI d_X4_openOne_19 zc_4 (by decide) fl_X4_233 (fun v2 => ?_)
    refine zg_iconst 1 rfl d_X4_openOne_22 ?_
    refine zg_iadd d_X4_openOne_23 ?_
    refine zg_putV d_X4_openOne_24 zc_4 (by decide) fl_X4_233 rfl rfl rfl (fun h3 => ?_)
    exact zg_vretK d_X4_openOne_27 rfl ⟨Nat.le_of_ble_eq_true rfl, Nat.le_of_ble_eq_true rfl⟩ (fun q => q)
  · refine zg_aload_n 0 rfl d_X4_openOne_9 ?_
    refine zg_iconst 2 rfl d_X4_openOne_10 ?_
    refine zg_cVv (b := a0) (As := [.int 2]) (rest := []) (0, 0) d_X4_openOne_11 zc_4 rfl cw_X4_82 wi_X4_fail ws_X4_fail rfl rfl (Nat.le_of_ble_eq_true rfl) (by decide) (by decide) ⟨by decide, by decide⟩ rfl (t_X4_fail a0 2 h0) (fun v5 h4 => ?_)
    refine zg_goto d_X4_openOne_14 ?_
    exact zg_vretK d_X4_openOne_27 rfl ⟨Nat.le_of_ble_eq_true rfl, Nat.le_of_ble_eq_true rfl⟩ (fun q => q)
abbrev M_X4_placeAbove : zMt := (RX4, cX4_placeAbove, 2, 2, 81, none, "placeAbove", 0, 0)
theorem d_X4_placeAbove_0 : zDc M_X4_placeAbove 0 (.aload_n 0) 1 1 := ⟨by decide +kernel, rfl⟩
theorem d_X4_placeAbove_1 : zDc M_X4_placeAbove 1 (.getfield 230) 3 4 := ⟨by decide +kernel, rfl⟩
theorem d_X4_placeAbove_4 : zDj M_X4_placeAbove 4 (.ifCond .le 55) 55 7 59 := ⟨by decide +kernel, rfl, by decide⟩
theorem d_X4_placeAbove_7 : zDc M_X4_placeAbove 7 (.aload_n 0) 1 8 := ⟨by decide +kernel, rfl⟩
theorem d_X4_placeAbove_8 : zDc M_X4_placeAbove 8 (.getfield 26) 3 11 := ⟨by decide +kernel, rfl⟩
theorem d_X4_placeAbove_11 : zDc M_X4_placeAbove 11 (.aload_n 0) 1 12 := ⟨by decide +kernel, rfl⟩
theorem d_X4_placeAbove_12 : zDc M_X4_placeAbove 12 (.getfield 230) 3 15 := ⟨by decide +kernel, rfl⟩
theorem d_X4_placeAbove_15 : zDc M_X4_placeAbove 15 (.iconst 1) 1 16 := ⟨by decide +kernel, rfl⟩
theorem d_X4_placeAbove_16 : zDc M_X4_placeAbove 16 (.isub) 1 17 := ⟨by decide +kernel, rfl⟩
theorem d_X4_placeAbove_17 : zDc M_X4_placeAbove 17 (.iaload) 1 18 := ⟨by decide +kernel, rfl⟩
theorem d_X4_placeAbove_18 : zDc M_X4_placeAbove 18 (.invokestatic 267) 3 21 := ⟨by decide +kernel, rfl⟩
theorem d_X4_placeAbove_21 : zDc M_X4_placeAbove 21 (.iload_n 1) 1 22 := ⟨by decide +kernel, rfl⟩
theorem d_X4_placeAbove_22 : zDj M_X4_placeAbove 22 (.if_icmp .le 37) 37 25 59 := ⟨by decide +kernel, rfl, by decide⟩
theorem d_X4_placeAbove_25 : zDc M_X4_placeAbove 25 (.aload_n 0) 1 26 := ⟨by decide +kernel, rfl⟩
theorem d_X4_placeAbove_26 : zDc M_X4_placeAbove 26 (.dup) 1 27 := ⟨by decide +kernel, rfl⟩
theorem d_X4_placeAbove_27 : zDc M_X4_placeAbove 27 (.getfield 230) 3 30 := ⟨by decide +kernel, rfl⟩
theorem d_X4_placeAbove_30 : zDc M_X4_placeAbove 30 (.iconst 1) 1 31 := ⟨by decide +kernel, rfl⟩
theorem d_X4_placeAbove_31 : zDc M_X4_placeAbove 31 (.isub) 1 32 := ⟨by decide +kernel, rfl⟩
theorem d_X4_placeAbove_32 : zDc M_X4_placeAbove 32 (.putfield 230) 3 35 := ⟨by decide +kernel, rfl⟩
theorem d_X4_placeAbove_35 : zDc M_X4_placeAbove 35 (.aload_n 0) 1 36 := ⟨by decide +kernel, rfl⟩
theorem d_X4_placeAbove_36 : zDc M_X4_placeAbove 36 (.getfield 22) 3 39 := ⟨by decide +kernel, rfl⟩
theorem d_X4_placeAbove_39 : zDc M_X4_placeAbove 39 (.getfield 218) 3 42 := ⟨by decide +kernel, rfl⟩
theorem d_X4_placeAbove_42 : zDc M_X4_placeAbove 42 (.aload_n 0) 1 43 := ⟨by decide +kernel, rfl⟩
theorem d_X4_placeAbove_43 : zDc M_X4_placeAbove 43 (.getfield 26) 3 46 := ⟨by decide +kernel, rfl⟩
theorem d_X4_placeAbove_46 : zDc M_X4_placeAbove 46 (.aload_n 0) 1 47 := ⟨by decide +kernel, rfl⟩
theorem d_X4_placeAbove_47 : zDc M_X4_placeAbove 47 (.getfield 230) 3 50 := ⟨by decide +kernel, rfl⟩
theorem d_X4_placeAbove_50 : zDc M_X4_placeAbove 50 (.iaload) 1 51 := ⟨by decide +kernel, rfl⟩
theorem d_X4_placeAbove_51 : zDc M_X4_placeAbove 51 (.iconst (-1)) 1 52 := ⟨by decide +kernel, rfl⟩
theorem d_X4_placeAbove_52 : zDc M_X4_placeAbove 52 (.ixor) 1 53 := ⟨by decide +kernel, rfl⟩
theorem d_X4_placeAbove_53 : zDc M_X4_placeAbove 53 (.invokevirtual 271) 3 56 := ⟨by decide +kernel, rfl⟩
theorem d_X4_placeAbove_56 : zDj M_X4_placeAbove 56 (.goto (-56)) (-56) 59 0 := ⟨by decide +kernel, rfl, by decide⟩
theorem d_X4_placeAbove_59 : zDc M_X4_placeAbove 59 (.return_) 1 60 := ⟨by decide +kernel, rfl⟩
def f_X4_placeAbove (a0 : Nat) (a1 : Int32) (h0 : zHp) : Option (Unit × zHp) :=
  zbd (
  zlp (σ := Unit) (β := Unit) zLF (fun s1 h2 =>
  zob (zgI h2 a0 4 12) (fun v5 =>
  if v5 ≤ 0 then
  some ((.inr ()), h2)
  else
  zob (zgR h2 a0 4 11) (fun v6 =>
  zob (zgI h2 a0 4 12) (fun v7 =>
  zob (zaI 0 h2 v6 (v7 - 1)) (fun v8 =>
  zbd ((f_X4_rankOf v8 h2)) (fun v10 h9 =>
  if v10 ≤ a1 then
  some ((.inr ()), h9)
  else
  zob (zgI h9 a0 4 12) (fun v11 =>
  zob (zpV h9 a0 4 12 (.int (v11 - 1))) (fun h12 =>
  zob (zgR h12 a0 4 10) (fun v13 =>
  zob (zgR h12 v13 6 12) (fun v14 =>
  zob (zgR h12 a0 4 11) (fun v15 =>
  zob (zgI h12 a0 4 12) (fun v16 =>
  zob (zaI 0 h12 v15 v16) (fun v17 =>
  zbd (zcv 2 v14 h12 (f_X2_place v14 (v17 ^^^ (-1)) h12)) (fun v19 h18 =>
  some ((.inl ()), h18))))))))))))))) () h0) (fun e3 h4 =>
  some ((), h4))
set_option maxRecDepth 100000 in
set_option maxHeartbeats 4000000 in
theorem t_X4_placeAbove (a0 : Nat) (a1 : Int32) (h0 : zHp) : ∀ (r : Unit) (h' : zHp), f_X4_placeAbove a0 a1 h0 = some (r, h') → zCt yX4_placeAbove (.code yX4_placeAbove cX4_placeAbove 2 none) 2 81 0 0 [.ref a0, .int a1] h0 (none) h' := by
  refine zct_of M_X4_placeAbove yX4_placeAbove (by decide) rfl rfl [.ref a0, .int a1] h0 (Nat.le_of_ble_eq_true rfl) (fun _ => none) (fun X => ?_)
  show zG X M_X4_placeAbove (0, 0) 0 [(0, .ref a0), (1, .int a1)] [] h0 (f_X4_placeAbove a0 a1 h0) (fun (_ : Unit) h' => zKe X (none) h')
  unfold f_X4_placeAbove
  refine zg_bd (E := 59) (el := (fun (e3 : Unit) => [(0, .ref a0), (1, .int a1)])) (es := fun _ => []) (zg_sub [0, 1] rfl (zg_lp (el := (fun (s1 : Unit) => [(0, .ref a0), (1, .int a1)])) (fun s1 h2 => ?_) () h0)) (fun e3 h4 => ?_)
  · refine zg_aload_n 0 rfl d_X4_placeAbove_0 ?_
    refine zg_getI d_X4_placeAbove_1 zc_4 (by decide) fl_X4_230 (fun v5 => ?_)
    refine zg_if_le d_X4_placeAbove_4 ?_ ?_
    · exact zg_finK (E := 0) [0, 1] rfl rfl (fun q => q)
    · refine zg_aload_n 0 rfl d_X4_placeAbove_7 ?_
      refine zg_getR d_X4_placeAbove_8 zc_4 (by decide) fl_X4_26 (fun v6 => ?_)
      refine zg_aload_n 0 rfl d_X4_placeAbove_11 ?_
      refine zg_getI d_X4_placeAbove_12 zc_4 (by decide) fl_X4_230 (fun v7 => ?_)
      refine zg_iconst 1 rfl d_X4_placeAbove_15 ?_
      refine zg_isub d_X4_placeAbove_16 ?_
      refine zg_ald0 d_X4_placeAbove_17 (fun v8 => ?_)
      refine zg_cSi (As := [.int v8]) (rest := []) (0, 0) d_X4_placeAbove_18 cw_X4_267 wt_X4_rankOf rfl rfl (Nat.le_of_ble_eq_true rfl) (by decide) (by decide) ⟨by decide, by decide⟩ rfl (t_X4_rankOf v8 h2) (fun v10 h9 => ?_)
      refine zg_iload_n 1 rfl d_X4_placeAbove_21 ?_
      refine zg_icmp_le d_X4_placeAbove_22 ?_ ?_
      · exact zg_finK (E := 0) [0, 1] rfl rfl (fun q => q)
      · refine zg_aload_n 0 rfl d_X4_placeAbove_25 ?_
        refine zg_dup rfl d_X4_placeAbove_26 ?_
        refine zg_getI d_X4_placeAbove_27 zc_4 (by decide) fl_X4_230 (fun v11 => ?_)
        refine zg_iconst 1 rfl d_X4_placeAbove_30 ?_
        refine zg_isub d_X4_placeAbove_31 ?_
        refine zg_putV d_X4_placeAbove_32 zc_4 (by decide) fl_X4_230 rfl rfl rfl (fun h12 => ?_)
        refine zg_aload_n 0 rfl d_X4_placeAbove_35 ?_
        refine zg_getR d_X4_placeAbove_36 zc_4 (by decide) fl_X4_22 (fun v13 => ?_)
        refine zg_getR d_X4_placeAbove_39 zc_6 (by decide) fl_X4_218 (fun v14 => ?_)
        refine zg_aload_n 0 rfl d_X4_placeAbove_42 ?_
        refine zg_getR d_X4_placeAbove_43 zc_4 (by decide) fl_X4_26 (fun v15 => ?_)
        refine zg_aload_n 0 rfl d_X4_placeAbove_46 ?_
        refine zg_getI d_X4_placeAbove_47 zc_4 (by decide) fl_X4_230 (fun v16 => ?_)
        refine zg_ald0 d_X4_placeAbove_50 (fun v17 => ?_)
        refine zg_iconst (-1) rfl d_X4_placeAbove_51 ?_
        refine zg_ixor d_X4_placeAbove_52 ?_
        refine zg_cVv (b := v14) (As := [.int (v17 ^^^ (-1))]) (rest := []) (0, 0) d_X4_placeAbove_53 zc_2 rfl cw_X4_271 wi_X2_place ws_X2_place rfl rfl (Nat.le_of_ble_eq_true rfl) (by decide) (by decide) ⟨by decide, by decide⟩ rfl (t_X2_place v14 (v17 ^^^ (-1)) h12) (fun v19 h18 => ?_)
        refine zg_goto d_X4_placeAbove_56 ?_
        exact zg_finK (E := 0) [0, 1] rfl rfl (fun q => q)
  · exact zg_vretK d_X4_placeAbove_59 rfl ⟨Nat.le_of_ble_eq_true rfl, Nat.le_of_ble_eq_true rfl⟩ (fun q => q)
abbrev M_X4_readAheadOfPart : zMt := (RX4, cX4_readAheadOfPart, 2, 4, 123, none, "readAheadOfPart", 0, 0)
theorem d_X4_readAheadOfPart_0 : zDc M_X4_readAheadOfPart 0 (.iconst 0) 1 1 := ⟨by decide +kernel, rfl⟩
theorem d_X4_readAheadOfPart_1 : zDc M_X4_readAheadOfPart 1 (.istore_n 1) 1 2 := ⟨by decide +kernel, rfl⟩
theorem d_X4_readAheadOfPart_2 : zDc M_X4_readAheadOfPart 2 (.iload_n 1) 1 3 := ⟨by decide +kernel, rfl⟩
theorem d_X4_readAheadOfPart_3 : zDc M_X4_readAheadOfPart 3 (.bipush 72) 2 5 := ⟨by decide +kernel, rfl⟩
theorem d_X4_readAheadOfPart_5 : zDj M_X4_readAheadOfPart 5 (.if_icmp .gt 74) 74 8 79 := ⟨by decide +kernel, rfl, by decide⟩
theorem d_X4_readAheadOfPart_8 : zDc M_X4_readAheadOfPart 8 (.aload_n 0) 1 9 := ⟨by decide +kernel, rfl⟩
theorem d_X4_readAheadOfPart_9 : zDc M_X4_readAheadOfPart 9 (.getfield 65) 3 12 := ⟨by decide +kernel, rfl⟩
theorem d_X4_readAheadOfPart_12 : zDc M_X4_readAheadOfPart 12 (.bipush 33) 2 14 := ⟨by decide +kernel, rfl⟩
theorem d_X4_readAheadOfPart_14 : zDj M_X4_readAheadOfPart 14 (.if_icmp .eq 12) 12 17 26 := ⟨by decide +kernel, rfl, by decide⟩
theorem d_X4_readAheadOfPart_17 : zDc M_X4_readAheadOfPart 17 (.aload_n 0) 1 18 := ⟨by decide +kernel, rfl⟩
theorem d_X4_readAheadOfPart_18 : zDc M_X4_readAheadOfPart 18 (.getfield 65) 3 21 := ⟨by decide +kernel, rfl⟩
theorem d_X4_readAheadOfPart_21 : zDc M_X4_readAheadOfPart 21 (.bipush 15) 2 23 := ⟨by decide +kernel, rfl⟩
theorem d_X4_readAheadOfPart_23 : zDj M_X4_readAheadOfPart 23 (.if_icmp .ne 56) 56 26 79 := ⟨by decide +kernel, rfl, by decide⟩
theorem d_X4_readAheadOfPart_26 : zDc M_X4_readAheadOfPart 26 (.aload_n 0) 1 27 := ⟨by decide +kernel, rfl⟩
theorem d_X4_readAheadOfPart_27 : zDc M_X4_readAheadOfPart 27 (.getfield 65) 3 30 := ⟨by decide +kernel, rfl⟩
theorem d_X4_readAheadOfPart_30 : zDc M_X4_readAheadOfPart 30 (.bipush 33) 2 32 := ⟨by decide +kernel, rfl⟩
theorem d_X4_readAheadOfPart_32 : zDj M_X4_readAheadOfPart 32 (.if_icmp .ne 10) 10 35 42 := ⟨by decide +kernel, rfl, by decide⟩
theorem d_X4_readAheadOfPart_35 : zDc M_X4_readAheadOfPart 35 (.aload_n 0) 1 36 := ⟨by decide +kernel, rfl⟩
theorem d_X4_readAheadOfPart_36 : zDc M_X4_readAheadOfPart 36 (.invokevirtual 255) 3 39 := ⟨by decide +kernel, rfl⟩
theorem d_X4_readAheadOfPart_39 : zDj M_X4_readAheadOfPart 39 (.goto 22) 22 42 61 := ⟨by decide +kernel, rfl, by decide⟩
theorem d_X4_readAheadOfPart_42 : zDc M_X4_readAheadOfPart 42 (.aload_n 0) 1 43 := ⟨by decide +kernel, rfl⟩
theorem d_X4_readAheadOfPart_43 : zDc M_X4_readAheadOfPart 43 (.invokevirtual 258) 3 46 := ⟨by decide +kernel, rfl⟩
theorem d_X4_readAheadOfPart_46 : zDj M_X4_readAheadOfPart 46 (.ifCond .eq 10) 10 49 56 := ⟨by decide +kernel, rfl, by decide⟩
theorem d_X4_readAheadOfPart_49 : zDc M_X4_readAheadOfPart 49 (.aload_n 0) 1 50 := ⟨by decide +kernel, rfl⟩
theorem d_X4_readAheadOfPart_50 : zDc M_X4_readAheadOfPart 50 (.invokevirtual 261) 3 53 := ⟨by decide +kernel, rfl⟩
theorem d_X4_readAheadOfPart_53 : zDj M_X4_readAheadOfPart 53 (.goto 8) 8 56 61 := ⟨by decide +kernel, rfl, by decide⟩
theorem d_X4_readAheadOfPart_56 : zDc M_X4_readAheadOfPart 56 (.aload_n 0) 1 57 := ⟨by decide +kernel, rfl⟩
theorem d_X4_readAheadOfPart_57 : zDc M_X4_readAheadOfPart 57 (.iconst 1) 1 58 := ⟨by decide +kernel, rfl⟩
theorem d_X4_readAheadOfPart_58 : zDc M_X4_readAheadOfPart 58 (.invokevirtual 82) 3 61 := ⟨by decide +kernel, rfl⟩
theorem d_X4_readAheadOfPart_61 : zDc M_X4_readAheadOfPart 61 (.aload_n 0) 1 62 := ⟨by decide +kernel, rfl⟩
theorem d_X4_readAheadOfPart_62 : zDc M_X4_readAheadOfPart 62 (.aload_n 0) 1 63 := ⟨by decide +kernel, rfl⟩
theorem d_X4_readAheadOfPart_63 : zDc M_X4_readAheadOfPart 63 (.getfield 65) 3 66 := ⟨by decide +kernel, rfl⟩
theorem d_X4_readAheadOfPart_66 : zDc M_X4_readAheadOfPart 66 (.invokevirtual 264) 3 69 := ⟨by decide +kernel, rfl⟩
theorem d_X4_readAheadOfPart_69 : zDc M_X4_readAheadOfPart 69 (.aload_n 0) 1 70 := ⟨by decide +kernel, rfl⟩
theorem d_X4_readAheadOfPart_70 : zDc M_X4_readAheadOfPart 70 (.invokevirtual 62) 3 73 := ⟨by decide +kernel, rfl⟩
theorem d_X4_readAheadOfPart_73 : zDc M_X4_readAheadOfPart 73 (.iinc 1 1) 3 76 := ⟨by decide +kernel, rfl⟩
theorem d_X4_readAheadOfPart_76 : zDj M_X4_readAheadOfPart 76 (.goto (-74)) (-74) 79 2 := ⟨by decide +kernel, rfl, by decide⟩
theorem d_X4_readAheadOfPart_79 : zDc M_X4_readAheadOfPart 79 (.return_) 1 80 := ⟨by decide +kernel, rfl⟩
def f_X4_readAheadOfPart (a0 : Nat) (h0 : zHp) : Option (Unit × zHp) :=
  zbd (
  zlp (σ := Int32) (β := Int32) zLF (fun s1 h2 =>
  if 72 < s1 then
  some ((.inr s1), h2)
  else
  zob (zgI h2 a0 4 4) (fun v5 =>
  zbd (α := (Unit ⊕ (Int32 ⊕ Int32))) (
  if v5 = 33 then
  some ((.inl ()), h2)
  else
  zob (zgI h2 a0 4 4) (fun v6 =>
  if v6 = 15 then
  some ((.inl ()), h2)
  else
  some ((.inr (.inr s1)), h2))) (fun b25 h8 => zsl b25 (fun e7 =>
  zob (zgI h8 a0 4 4) (fun v9 =>
  zbd (α := Unit) (
  if v9 = 33 then
  zbd (zcv 4 a0 h8 (f_X4_openOne a0 h8)) (fun v11 h10 =>
  some ((), h10))
  else
  zbd (zcv 4 a0 h8 (f_X4_mayTurn a0 h8)) (fun v13 h12 =>
  if v13 = 0 then
  zbd (zcv 4 a0 h12 (f_X4_fail a0 1 h12)) (fun v15 h14 =>
  some ((), h14))
  else
  zbd (zcv 4 a0 h12 (f_X4_countKnot a0 h12)) (fun v17 h16 =>
  some ((), h16)))) (fun e18 h19 =>
  zob (zgI h19 a0 4 4) (fun v20 =>
  zbd (zcv 4 a0 h19 (f_X4_letWait a0 v20 h19)) (fun v22 h21 =>
  zbd (zcv 4 a0 h21 (f_X4_advance a0 h21)) (fun v24 h23 =>
  some ((.inl (s1 + 1)), h23))))))) (fun r => some (r, h8))))) 0 h0) (fun e3 h4 =>
  some ((), h4))
set_option maxRecDepth 100000 in
set_option maxHeartbeats 4000000 in
theorem t_X4_readAheadOfPart (a0 : Nat) (h0 : zHp) : ∀ (r : Unit) (h' : zHp), f_X4_readAheadOfPart a0 h0 = some (r, h') → zCt yX4_readAheadOfPart (.code yX4_readAheadOfPart cX4_readAheadOfPart 2 none) 4 123 0 0 [.ref a0] h0 (none) h' := by
  refine zct_of M_X4_readAheadOfPart yX4_readAheadOfPart (by decide) rfl rfl [.ref a0] h0 (Nat.le_of_ble_eq_true rfl) (fun _ => none) (fun X => ?_)
  show zG X M_X4_readAheadOfPart (0, 0) 0 [(0, .ref a0)] [] h0 (f_X4_readAheadOfPart a0 h0) (fun (_ : Unit) h' => zKe X (none) h')
  unfold f_X4_readAheadOfPart
  refine zg_iconst 0 rfl d_X4_readAheadOfPart_0 ?_
  refine zg_istore_n [(1, .int 0), (0, .ref a0)] d_X4_readAheadOfPart_1 rfl (by decide) rfl ?_
  refine zg_bd (E := 79) (el := (fun (e3 : Int32) => [(0, .ref a0), (1, .int e3)])) (es := fun _ => []) (zg_sub [1, 0] rfl (zg_lp (el := (fun (s1 : Int32) => [(0, .ref a0), (1, .int s1)])) (fun s1 h2 => ?_) 0 h0)) (fun e3 h4 => ?_)
  · refine zg_iload_n 1 rfl d_X4_readAheadOfPart_2 ?_
    refine zg_bipush 72 rfl d_X4_readAheadOfPart_3 ?_
    refine zg_icmp_gt d_X4_readAheadOfPart_5 ?_ ?_
    · exact zg_finK (E := 0) [0, 1] rfl rfl (fun q => q)
    · refine zg_aload_n 0 rfl d_X4_readAheadOfPart_8 ?_
      refine zg_getI d_X4_readAheadOfPart_9 zc_4 (by decide) fl_X4_65 (fun v5 => ?_)
      refine zg_bipush 33 rfl d_X4_readAheadOfPart_12 ?_
      refine zg_bdr (E := 26) (el := (fun (e7 : Unit) => [(0, .ref a0), (1, .int s1)])) (es := (fun (e7 : Unit) => [])) ?_ (fun e7 h8 => ?_)
      · refine zg_icmp_eq d_X4_readAheadOfPart_14 ?_ ?_
        · exact zg_finK (E := 0) [0, 1] rfl rfl (fun q => q)
        · refine zg_aload_n 0 rfl d_X4_readAheadOfPart_17 ?_
          refine zg_getI d_X4_readAheadOfPart_18 zc_4 (by decide) fl_X4_65 (fun v6 => ?_)
          refine zg_bipush 15 rfl d_X4_readAheadOfPart_21 ?_
          refine zg_icmp_ne d_X4_readAheadOfPart_23 ?_ ?_
          · exact zg_finK (E := 0) [0, 1] rfl rfl (fun q => q)
          · exact zg_finK (E := 0) [0, 1] rfl rfl (fun q => q)
      · refine zg_aload_n 0 rfl d_X4_readAheadOfPart_26 ?_
        refine zg_getI d_X4_readAheadOfPart_27 zc_4 (by decide) fl_X4_65 (fun v9 => ?_)
        refine zg_bipush 33 rfl d_X4_readAheadOfPart_30 ?_
        refine zg_bd (E := 61) (el := (fun (e18 : Unit) => [(0, .ref a0), (1, .int s1)])) (es := (fun (e18 : Unit) => [])) ?_ (fun e18 h19 => ?_)
        · refine zg_icmp_ne d_X4_readAheadOfPart_32 ?_ ?_
          · refine zg_aload_n 0 rfl d_X4_readAheadOfPart_35 ?_
            refine zg_cVv (b := a0) (As := []) (rest := []) (0, 0) d_X4_readAheadOfPart_36 zc_4 rfl cw_X4_255 wi_X4_openOne ws_X4_openOne rfl rfl (Nat.le_of_ble_eq_true rfl) (by decide) (by decide) ⟨by decide, by decide⟩ rfl (t_X4_openOne a0 h8) (fun v11 h10 => ?_)
            refine zg_goto d_X4_readAheadOfPart_39 ?_
            exact zg_finK (E := 0) [0, 1] rfl rfl (fun q => q)
          · refine zg_aload_n 0 rfl d_X4_readAheadOfPart_42 ?_
            refine zg_cVi (b := a0) (As := []) (rest := []) (0, 0) d_X4_readAheadOfPart_43 zc_4 rfl cw_X4_258 wi_X4_mayTurn ws_X4_mayTurn rfl rfl (Nat.le_of_ble_eq_true rfl) (by decide) (by decide) ⟨by decide, by decide⟩ rfl (t_X4_mayTurn a0 h8) (fun v13 h12 => ?_)
            refine zg_if_eq d_X4_readAheadOfPart_46 ?_ ?_
            · refine zg_aload_n 0 rfl d_X4_readAheadOfPart_56 ?_
              refine zg_iconst 1 rfl d_X4_readAheadOfPart_57 ?_
              refine zg_cVv (b := a0) (As := [.int 1]) (rest := []) (0, 0) d_X4_readAheadOfPart_58 zc_4 rfl cw_X4_82 wi_X4_fail ws_X4_fail rfl rfl (Nat.le_of_ble_eq_true rfl) (by decide) (by decide) ⟨by decide, by decide⟩ rfl (t_X4_fail a0 1 h12) (fun v15 h14 => ?_)
              exact zg_finK (E := 0) [0, 1] rfl rfl (fun q => q)
            · refine zg_aload_n 0 rfl d_X4_readAheadOfPart_49 ?_
              refine zg_cVv (b := a0) (As := []) (rest := []) (0, 0) d_X4_readAheadOfPart_50 zc_4 rfl cw_X4_261 wi_X4_countKnot ws_X4_countKnot rfl rfl (Nat.le_of_ble_eq_true rfl) (by decide) (by decide) ⟨by decide, by decide⟩ rfl (t_X4_countKnot a0 h12) (fun v17 h16 => ?_)
              refine zg_goto d_X4_readAheadOfPart_53 ?_
              exact zg_finK (E := 0) [0, 1] rfl rfl (fun q => q)
        · refine zg_aload_n 0 rfl d_X4_readAheadOfPart_61 ?_
          refine zg_aload_n 0 rfl d_X4_readAheadOfPart_62 ?_
          refine zg_getI d_X4_readAheadOfPart_63 zc_4 (by decide) fl_X4_65 (fun v20 => ?_)
          refine zg_cVv (b := a0) (As := [.int v20]) (rest := []) (0, 0) d_X4_readAheadOfPart_66 zc_4 rfl cw_X4_264 wi_X4_letWait ws_X4_letWait rfl rfl (Nat.le_of_ble_eq_true rfl) (by decide) (by decide) ⟨by decide, by decide⟩ rfl (t_X4_letWait a0 v20 h19) (fun v22 h21 => ?_)
          refine zg_aload_n 0 rfl d_X4_readAheadOfPart_69 ?_
          refine zg_cVv (b := a0) (As := []) (rest := []) (0, 0) d_X4_readAheadOfPart_70 zc_4 rfl cw_X4_62 wi_X4_advance ws_X4_advance rfl rfl (Nat.le_of_ble_eq_true rfl) (by decide) (by decide) ⟨by decide, by decide⟩ rfl (t_X4_advance a0 h21) (fun v24 h23 => ?_)
          refine zg_iinc 1 (s1 + 1) [(1, .int (s1 + 1)), (0, .ref a0)] d_X4_readAheadOfPart_73 rfl rfl (by decide) rfl ?_
          refine zg_goto d_X4_readAheadOfPart_76 ?_
          exact zg_finK (E := 0) [1, 0] rfl rfl (fun q => q)
  · exact zg_vretK d_X4_readAheadOfPart_79 rfl ⟨Nat.le_of_ble_eq_true rfl, Nat.le_of_ble_eq_true rfl⟩ (fun q => q)
abbrev M_X4_readNumber : zMt := (RX4, cX4_readNumber, 4, 3, 103, (some .int), "readNumber", 0, 0)
theorem d_X4_readNumber_0 : zDc M_X4_readNumber 0 (.aload_n 0) 1 1 := ⟨by decide +kernel, rfl⟩
theorem d_X4_readNumber_1 : zDc M_X4_readNumber 1 (.getfield 65) 3 4 := ⟨by decide +kernel, rfl⟩
theorem d_X4_readNumber_4 : zDc M_X4_readNumber 4 (.bipush 37) 2 6 := ⟨by decide +kernel, rfl⟩
theorem d_X4_readNumber_6 : zDj M_X4_readNumber 6 (.if_icmp .eq 11) 11 9 17 := ⟨by decide +kernel, rfl, by decide⟩
theorem d_X4_readNumber_9 : zDc M_X4_readNumber 9 (.aload_n 0) 1 10 := ⟨by decide +kernel, rfl⟩
theorem d_X4_readNumber_10 : zDc M_X4_readNumber 10 (.iconst 1) 1 11 := ⟨by decide +kernel, rfl⟩
theorem d_X4_readNumber_11 : zDc M_X4_readNumber 11 (.invokevirtual 82) 3 14 := ⟨by decide +kernel, rfl⟩
theorem d_X4_readNumber_14 : zDj M_X4_readNumber 14 (.goto 24) 24 17 38 := ⟨by decide +kernel, rfl, by decide⟩
theorem d_X4_readNumber_17 : zDc M_X4_readNumber 17 (.aload_n 0) 1 18 := ⟨by decide +kernel, rfl⟩
theorem d_X4_readNumber_18 : zDc M_X4_readNumber 18 (.getfield 108) 3 21 := ⟨by decide +kernel, rfl⟩
theorem d_X4_readNumber_21 : zDc M_X4_readNumber 21 (.iload_n 1) 1 22 := ⟨by decide +kernel, rfl⟩
theorem d_X4_readNumber_22 : zDj M_X4_readNumber 22 (.if_icmp .lt 11) 11 25 33 := ⟨by decide +kernel, rfl, by decide⟩
theorem d_X4_readNumber_25 : zDc M_X4_readNumber 25 (.aload_n 0) 1 26 := ⟨by decide +kernel, rfl⟩
theorem d_X4_readNumber_26 : zDc M_X4_readNumber 26 (.getfield 108) 3 29 := ⟨by decide +kernel, rfl⟩
theorem d_X4_readNumber_29 : zDc M_X4_readNumber 29 (.iload_n 2) 1 30 := ⟨by decide +kernel, rfl⟩
theorem d_X4_readNumber_30 : zDj M_X4_readNumber 30 (.if_icmp .le 8) 8 33 38 := ⟨by decide +kernel, rfl, by decide⟩
theorem d_X4_readNumber_33 : zDc M_X4_readNumber 33 (.aload_n 0) 1 34 := ⟨by decide +kernel, rfl⟩
theorem d_X4_readNumber_34 : zDc M_X4_readNumber 34 (.iconst 2) 1 35 := ⟨by decide +kernel, rfl⟩
theorem d_X4_readNumber_35 : zDc M_X4_readNumber 35 (.invokevirtual 82) 3 38 := ⟨by decide +kernel, rfl⟩
theorem d_X4_readNumber_38 : zDc M_X4_readNumber 38 (.aload_n 0) 1 39 := ⟨by decide +kernel, rfl⟩
theorem d_X4_readNumber_39 : zDc M_X4_readNumber 39 (.getfield 29) 3 42 := ⟨by decide +kernel, rfl⟩
theorem d_X4_readNumber_42 : zDj M_X4_readNumber 42 (.ifCond .eq 5) 5 45 47 := ⟨by decide +kernel, rfl, by decide⟩
theorem d_X4_readNumber_45 : zDc M_X4_readNumber 45 (.iconst (-1)) 1 46 := ⟨by decide +kernel, rfl⟩
theorem d_X4_readNumber_46 : zDc M_X4_readNumber 46 (.ireturn) 1 47 := ⟨by decide +kernel, rfl⟩
theorem d_X4_readNumber_47 : zDc M_X4_readNumber 47 (.aload_n 0) 1 48 := ⟨by decide +kernel, rfl⟩
theorem d_X4_readNumber_48 : zDc M_X4_readNumber 48 (.getfield 108) 3 51 := ⟨by decide +kernel, rfl⟩
theorem d_X4_readNumber_51 : zDc M_X4_readNumber 51 (.istore_n 3) 1 52 := ⟨by decide +kernel, rfl⟩
theorem d_X4_readNumber_52 : zDc M_X4_readNumber 52 (.aload_n 0) 1 53 := ⟨by decide +kernel, rfl⟩
theorem d_X4_readNumber_53 : zDc M_X4_readNumber 53 (.aload_n 0) 1 54 := ⟨by decide +kernel, rfl⟩
theorem d_X4_readNumber_54 : zDc M_X4_readNumber 54 (.getfield 75) 3 57 := ⟨by decide +kernel, rfl⟩
theorem d_X4_readNumber_57 : zDc M_X4_readNumber 57 (.putfield 139) 3 60 := ⟨by decide +kernel, rfl⟩
theorem d_X4_readNumber_60 : zDc M_X4_readNumber 60 (.aload_n 0) 1 61 := ⟨by decide +kernel, rfl⟩
theorem d_X4_readNumber_61 : zDc M_X4_readNumber 61 (.invokevirtual 62) 3 64 := ⟨by decide +kernel, rfl⟩
theorem d_X4_readNumber_64 : zDc M_X4_readNumber 64 (.iload_n 3) 1 65 := ⟨by decide +kernel, rfl⟩
theorem d_X4_readNumber_65 : zDc M_X4_readNumber 65 (.ireturn) 1 66 := ⟨by decide +kernel, rfl⟩
def f_X4_readNumber (a0 : Nat) (a1 : Int32) (a2 : Int32) (h0 : zHp) : Option (Int32 × zHp) :=
  zob (zgI h0 a0 4 4) (fun v1 =>
  zbd (α := Unit) (
  if v1 = 37 then
  zob (zgI h0 a0 4 6) (fun v2 =>
  zbd (α := (Unit ⊕ Unit)) (
  if v2 < a1 then
  some ((.inl ()), h0)
  else
  zob (zgI h0 a0 4 6) (fun v3 =>
  if v3 ≤ a2 then
  some ((.inr ()), h0)
  else
  some ((.inl ()), h0))) (fun b18 h5 => zsl b18 (fun e4 =>
  zbd (zcv 4 a0 h5 (f_X4_fail a0 2 h5)) (fun v7 h6 =>
  some ((), h6))) (fun r => some (r, h5))))
  else
  zbd (zcv 4 a0 h0 (f_X4_fail a0 1 h0)) (fun v9 h8 =>
  some ((), h8))) (fun e10 h11 =>
  zob (zgI h11 a0 4 14) (fun v12 =>
  if v12 = 0 then
  zob (zgI h11 a0 4 6) (fun v13 =>
  zob (zgI h11 a0 4 5) (fun v14 =>
  zob (zpV h11 a0 4 8 (.int v14)) (fun h15 =>
  zbd (zcv 4 a0 h15 (f_X4_advance a0 h15)) (fun v17 h16 =>
  some (v13, h16)))))
  else
  some ((-1), h11))))
set_option maxRecDepth 100000 in
set_option maxHeartbeats 4000000 in
theorem t_X4_readNumber (a0 : Nat) (a1 : Int32) (a2 : Int32) (h0 : zHp) : ∀ (r : Int32) (h' : zHp), f_X4_readNumber a0 a1 a2 h0 = some (r, h') → zCt yX4_readNumber (.code yX4_readNumber cX4_readNumber 4 (some .int)) 3 103 0 0 [.ref a0, .int a1, .int a2] h0 (some (.int r)) h' := by
  refine zct_of M_X4_readNumber yX4_readNumber (by decide) rfl rfl [.ref a0, .int a1, .int a2] h0 (Nat.le_of_ble_eq_true rfl) (fun r => some (.int r)) (fun X => ?_)
  show zG X M_X4_readNumber (0, 0) 0 [(0, .ref a0), (1, .int a1), (2, .int a2)] [] h0 (f_X4_readNumber a0 a1 a2 h0) (fun (r : Int32) h' => zKe X (some (.int r)) h')
  unfold f_X4_readNumber
  refine zg_aload_n 0 rfl d_X4_readNumber_0 ?_
  refine zg_getI d_X4_readNumber_1 zc_4 (by decide) fl_X4_65 (fun v1 => ?_)
  refine zg_bipush 37 rfl d_X4_readNumber_4 ?_
  refine zg_bd (E := 38) (el := (fun (e10 : Unit) => [(0, .ref a0), (1, .int a1), (2, .int a2)])) (es := (fun (e10 : Unit) => [])) ?_ (fun e10 h11 => ?_)
  · refine zg_icmp_eq d_X4_readNumber_6 ?_ ?_
    · refine zg_aload_n 0 rfl d_X4_readNumber_17 ?_
      refine zg_getI d_X4_readNumber_18 zc_4 (by decide) fl_X4_108 (fun v2 => ?_)
      refine zg_iload_n 1 rfl d_X4_readNumber_21 ?_
      refine zg_bdr (E := 33) (el := (fun (e4 : Unit) => [(0, .ref a0), (1, .int a1), (2, .int a2)])) (es := (fun (e4 : Unit) => [])) ?_ (fun e4 h5 => ?_)
      · refine zg_icmp_lt d_X4_readNumber_22 ?_ ?_
        · exact zg_finK (E := 0) [0, 1, 2] rfl rfl (fun q => q)
        · refine zg_aload_n 0 rfl d_X4_readNumber_25 ?_
          refine zg_getI d_X4_readNumber_26 zc_4 (by decide) fl_X4_108 (fun v3 => ?_)
          refine zg_iload_n 2 rfl d_X4_readNumber_29 ?_
          refine zg_icmp_le d_X4_readNumber_30 ?_ ?_
          · exact zg_finK (E := 0) [0, 1, 2] rfl rfl (fun q => q)
          · exact zg_finK (E := 0) [0, 1, 2] rfl rfl (fun q => q)
      · refine zg_aload_n 0 rfl d_X4_readNumber_33 ?_
        refine zg_iconst 2 rfl d_X4_readNumber_34 ?_
        refine zg_cVv (b := a0) (As := [.int 2]) (rest := []) (0, 0) d_X4_readNumber_35 zc_4 rfl cw_X4_82 wi_X4_fail ws_X4_fail rfl rfl (Nat.le_of_ble_eq_true rfl) (by decide) (by decide) ⟨by decide, by decide⟩ rfl (t_X4_fail a0 2 h5) (fun v7 h6 => ?_)
        exact zg_finK (E := 0) [0, 1, 2] rfl rfl (fun q => q)
    · refine zg_aload_n 0 rfl d_X4_readNumber_9 ?_
      refine zg_iconst 1 rfl d_X4_readNumber_10 ?_
      refine zg_cVv (b := a0) (As := [.int 1]) (rest := []) (0, 0) d_X4_readNumber_11 zc_4 rfl cw_X4_82 wi_X4_fail ws_X4_fail rfl rfl (Nat.le_of_ble_eq_true rfl) (by decide) (by decide) ⟨by decide, by decide⟩ rfl (t_X4_fail a0 1 h0) (fun v9 h8 => ?_)
      refine zg_goto d_X4_readNumber_14 ?_
      exact zg_finK (E := 0) [0, 1, 2] rfl rfl (fun q => q)
  · refine zg_aload_n 0 rfl d_X4_readNumber_38 ?_
    refine zg_getI d_X4_readNumber_39 zc_4 (by decide) fl_X4_29 (fun v12 => ?_)
    refine zg_if_eq d_X4_readNumber_42 ?_ ?_
    · refine zg_aload_n 0 rfl d_X4_readNumber_47 ?_
      refine zg_getI d_X4_readNumber_48 zc_4 (by decide) fl_X4_108 (fun v13 => ?_)
      refine zg_istore_n [(3, .int v13), (0, .ref a0), (1, .int a1), (2, .int a2)] d_X4_readNumber_51 rfl (by decide) rfl ?_
      refine zg_aload_n 1 rfl d_X4_readNumber_52 ?_
      refine zg_aload_n 1 rfl d_X4_readNumber_53 ?_
      refine zg_getI d_X4_readNumber_54 zc_4 (by decide) fl_X4_75 (fun v14 => ?_)
      refine zg_putV d_X4_readNumber_57 zc_4 (by decide) fl_X4_139 rfl rfl rfl (fun h15 => ?_)
      refine zg_aload_n 1 rfl d_X4_readNumber_60 ?_
      refine zg_cVv (b := a0) (As := []) (rest := []) (0, 0) d_X4_readNumber_61 zc_4 rfl cw_X4_62 wi_X4_advance ws_X4_advance rfl rfl (Nat.le_of_ble_eq_true rfl) (by decide) (by decide) ⟨by decide, by decide⟩ rfl (t_X4_advance a0 h15) (fun v17 h16 => ?_)
      refine zg_iload_n 0 rfl d_X4_readNumber_64 ?_
      exact zg_iretK d_X4_readNumber_65 rfl ⟨Nat.le_of_ble_eq_true rfl, Nat.le_of_ble_eq_true rfl⟩ (fun q => q)
    · refine zg_iconst (-1) rfl d_X4_readNumber_45 ?_
      exact zg_iretK d_X4_readNumber_46 rfl ⟨Nat.le_of_ble_eq_true rfl, Nat.le_of_ble_eq_true rfl⟩ (fun q => q)

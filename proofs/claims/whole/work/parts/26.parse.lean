theorem ml_X8_173 : Cond.methodLink RX8 173 yX8_isSmall ∈ zT := zw_of _ 1588 (by decide +kernel) (by decide +kernel)
theorem cd_X8_isSmall : Cond.code yX8_isSmall cX8_isSmall 1 (some .boolean) ∈ zT := zw_of _ 1590 (by decide +kernel) (by decide +kernel)
theorem cw_X8_173 : zCw RX8 173 yX8_isSmall cX8_isSmall 1 (some .boolean) 1 := ⟨ml_X8_173, ni_X8, cd_X8_isSmall, by decide, by decide, by decide +kernel⟩
theorem wt_X8_isSmall : Cond.static yX8_isSmall ∈ zT := zw_of _ 1589 (by decide +kernel) (by decide +kernel)
theorem ml_X8_186 : Cond.methodLink RX8 186 yX8_isDigit ∈ zT := zw_of _ 1609 (by decide +kernel) (by decide +kernel)
theorem cd_X8_isDigit : Cond.code yX8_isDigit cX8_isDigit 1 (some .boolean) ∈ zT := zw_of _ 1611 (by decide +kernel) (by decide +kernel)
theorem cw_X8_186 : zCw RX8 186 yX8_isDigit cX8_isDigit 1 (some .boolean) 1 := ⟨ml_X8_186, ni_X8, cd_X8_isDigit, by decide, by decide, by decide +kernel⟩
theorem wt_X8_isDigit : Cond.static yX8_isDigit ∈ zT := zw_of _ 1610 (by decide +kernel) (by decide +kernel)
theorem ml_X8_190 : Cond.methodLink RX8 190 yX8_sign ∈ zT := zw_of _ 1613 (by decide +kernel) (by decide +kernel)
theorem cd_X8_sign : Cond.code yX8_sign cX8_sign 2 none ∈ zT := zw_of _ 1616 (by decide +kernel) (by decide +kernel)
theorem cw_X8_190 : zCw RX8 190 yX8_sign cX8_sign 2 none 1 := ⟨ml_X8_190, ni_X8, cd_X8_sign, by decide, by decide, by decide +kernel⟩
theorem wi_X8_sign : Cond.instanceMethod yX8_sign ∈ zT := zw_of _ 1615 (by decide +kernel) (by decide +kernel)
theorem ws_X8_sign : Cond.selects RX8 yX8_sign yX8_sign ∈ zT := zw_of _ 58 (by decide +kernel) (by decide +kernel)
theorem kc_X8_189 : Cond.constant RX8 189 99999 ∈ zT := zw_of _ 1612 (by decide +kernel) (by decide +kernel)
theorem ml_X8_177 : Cond.methodLink RX8 177 yX8_word ∈ zT := zw_of _ 1591 (by decide +kernel) (by decide +kernel)
theorem cd_X8_word : Cond.code yX8_word cX8_word 4 (some .int) ∈ zT := zw_of _ 1594 (by decide +kernel) (by decide +kernel)
theorem cw_X8_177 : zCw RX8 177 yX8_word cX8_word 4 (some .int) 0 := ⟨ml_X8_177, ni_X8, cd_X8_word, by decide, by decide, by decide +kernel⟩
theorem wi_X8_word : Cond.instanceMethod yX8_word ∈ zT := zw_of _ 1593 (by decide +kernel) (by decide +kernel)
theorem ws_X8_word : Cond.selects RX8 yX8_word yX8_word ∈ zT := zw_of _ 56 (by decide +kernel) (by decide +kernel)
theorem ml_X8_183 : Cond.methodLink RX8 183 yX8_name ∈ zT := zw_of _ 1605 (by decide +kernel) (by decide +kernel)
theorem cd_X8_name : Cond.code yX8_name cX8_name 2 none ∈ zT := zw_of _ 1608 (by decide +kernel) (by decide +kernel)
theorem cw_X8_183 : zCw RX8 183 yX8_name cX8_name 2 none 0 := ⟨ml_X8_183, ni_X8, cd_X8_name, by decide, by decide, by decide +kernel⟩
theorem wi_X8_name : Cond.instanceMethod yX8_name ∈ zT := zw_of _ 1607 (by decide +kernel) (by decide +kernel)
theorem ws_X8_name : Cond.selects RX8 yX8_name yX8_name ∈ zT := zw_of _ 57 (by decide +kernel) (by decide +kernel)
theorem ml_X8_211 : Cond.methodLink RX8 211 yX8_token ∈ zT := zw_of _ 1580 (by decide +kernel) (by decide +kernel)
theorem cd_X8_token : Cond.code yX8_token cX8_token 2 none ∈ zT := zw_of _ 1583 (by decide +kernel) (by decide +kernel)
theorem cw_X8_211 : zCw RX8 211 yX8_token cX8_token 2 none 0 := ⟨ml_X8_211, ni_X8, cd_X8_token, by decide, by decide, by decide +kernel⟩
theorem wi_X8_token : Cond.instanceMethod yX8_token ∈ zT := zw_of _ 1582 (by decide +kernel) (by decide +kernel)
theorem ws_X8_token : Cond.selects RX8 yX8_token yX8_token ∈ zT := zw_of _ 54 (by decide +kernel) (by decide +kernel)
theorem ml_X8_221 : Cond.methodLink RX8 221 yX8_numeral ∈ zT := zw_of _ 1637 (by decide +kernel) (by decide +kernel)
theorem cd_X8_numeral : Cond.code yX8_numeral cX8_numeral 4 (some .int) ∈ zT := zw_of _ 1640 (by decide +kernel) (by decide +kernel)
theorem cw_X8_221 : zCw RX8 221 yX8_numeral cX8_numeral 4 (some .int) 2 := ⟨ml_X8_221, ni_X8, cd_X8_numeral, by decide, by decide, by decide +kernel⟩
theorem wi_X8_numeral : Cond.instanceMethod yX8_numeral ∈ zT := zw_of _ 1639 (by decide +kernel) (by decide +kernel)
theorem ws_X8_numeral : Cond.selects RX8 yX8_numeral yX8_numeral ∈ zT := zw_of _ 64 (by decide +kernel) (by decide +kernel)
theorem ml_X8_264 : Cond.methodLink RX8 264 yX8_conjunction ∈ zT := zw_of _ 1660 (by decide +kernel) (by decide +kernel)
theorem cd_X8_conjunction : Cond.code yX8_conjunction cX8_conjunction 1 none ∈ zT := zw_of _ 1663 (by decide +kernel) (by decide +kernel)
theorem cw_X8_264 : zCw RX8 264 yX8_conjunction cX8_conjunction 1 none 0 := ⟨ml_X8_264, ni_X8, cd_X8_conjunction, by decide, by decide, by decide +kernel⟩
theorem wi_X8_conjunction : Cond.instanceMethod yX8_conjunction ∈ zT := zw_of _ 1662 (by decide +kernel) (by decide +kernel)
theorem ws_X8_conjunction : Cond.selects RX8 yX8_conjunction yX8_conjunction ∈ zT := zw_of _ 69 (by decide +kernel) (by decide +kernel)
theorem ml_X8_267 : Cond.methodLink RX8 267 yX8_isWord ∈ zT := zw_of _ 1668 (by decide +kernel) (by decide +kernel)
theorem cd_X8_isWord : Cond.code yX8_isWord cX8_isWord 2 (some .boolean) ∈ zT := zw_of _ 1671 (by decide +kernel) (by decide +kernel)
theorem cw_X8_267 : zCw RX8 267 yX8_isWord cX8_isWord 2 (some .boolean) 1 := ⟨ml_X8_267, ni_X8, cd_X8_isWord, by decide, by decide, by decide +kernel⟩
theorem wi_X8_isWord : Cond.instanceMethod yX8_isWord ∈ zT := zw_of _ 1670 (by decide +kernel) (by decide +kernel)
theorem ws_X8_isWord : Cond.selects RX8 yX8_isWord yX8_isWord ∈ zT := zw_of _ 71 (by decide +kernel) (by decide +kernel)
theorem ml_X8_270 : Cond.methodLink RX8 270 yX8_knot ∈ zT := zw_of _ 1672 (by decide +kernel) (by decide +kernel)
theorem cd_X8_knot : Cond.code yX8_knot cX8_knot 1 none ∈ zT := zw_of _ 1675 (by decide +kernel) (by decide +kernel)
theorem cw_X8_270 : zCw RX8 270 yX8_knot cX8_knot 1 none 0 := ⟨ml_X8_270, ni_X8, cd_X8_knot, by decide, by decide, by decide +kernel⟩
theorem wi_X8_knot : Cond.instanceMethod yX8_knot ∈ zT := zw_of _ 1674 (by decide +kernel) (by decide +kernel)
theorem ws_X8_knot : Cond.selects RX8 yX8_knot yX8_knot ∈ zT := zw_of _ 72 (by decide +kernel) (by decide +kernel)
theorem ml_X8_273 : Cond.methodLink RX8 273 yX8_goOn ∈ zT := zw_of _ 1676 (by decide +kernel) (by decide +kernel)
theorem cd_X8_goOn : Cond.code yX8_goOn cX8_goOn 1 none ∈ zT := zw_of _ 1679 (by decide +kernel) (by decide +kernel)
theorem cw_X8_273 : zCw RX8 273 yX8_goOn cX8_goOn 1 none 0 := ⟨ml_X8_273, ni_X8, cd_X8_goOn, by decide, by decide, by decide +kernel⟩
theorem wi_X8_goOn : Cond.instanceMethod yX8_goOn ∈ zT := zw_of _ 1678 (by decide +kernel) (by decide +kernel)
theorem ws_X8_goOn : Cond.selects RX8 yX8_goOn yX8_goOn ∈ zT := zw_of _ 73 (by decide +kernel) (by decide +kernel)
theorem ml_X8_276 : Cond.methodLink RX8 276 yX8_puts ∈ zT := zw_of _ 1680 (by decide +kernel) (by decide +kernel)
theorem cd_X8_puts : Cond.code yX8_puts cX8_puts 3 none ∈ zT := zw_of _ 1683 (by decide +kernel) (by decide +kernel)
theorem cw_X8_276 : zCw RX8 276 yX8_puts cX8_puts 3 none 2 := ⟨ml_X8_276, ni_X8, cd_X8_puts, by decide, by decide, by decide +kernel⟩
theorem wi_X8_puts : Cond.instanceMethod yX8_puts ∈ zT := zw_of _ 1682 (by decide +kernel) (by decide +kernel)
theorem ws_X8_puts : Cond.selects RX8 yX8_puts yX8_puts ∈ zT := zw_of _ 74 (by decide +kernel) (by decide +kernel)
theorem ml_X8_279 : Cond.methodLink RX8 279 yX8_negation ∈ zT := zw_of _ 1664 (by decide +kernel) (by decide +kernel)
theorem cd_X8_negation : Cond.code yX8_negation cX8_negation 2 none ∈ zT := zw_of _ 1667 (by decide +kernel) (by decide +kernel)
theorem cw_X8_279 : zCw RX8 279 yX8_negation cX8_negation 2 none 0 := ⟨ml_X8_279, ni_X8, cd_X8_negation, by decide, by decide, by decide +kernel⟩
theorem wi_X8_negation : Cond.instanceMethod yX8_negation ∈ zT := zw_of _ 1666 (by decide +kernel) (by decide +kernel)
theorem ws_X8_negation : Cond.selects RX8 yX8_negation yX8_negation ∈ zT := zw_of _ 70 (by decide +kernel) (by decide +kernel)
theorem ml_X8_282 : Cond.methodLink RX8 282 yX8_sum ∈ zT := zw_of _ 1684 (by decide +kernel) (by decide +kernel)
theorem cd_X8_sum : Cond.code yX8_sum cX8_sum 2 none ∈ zT := zw_of _ 1687 (by decide +kernel) (by decide +kernel)
theorem cw_X8_282 : zCw RX8 282 yX8_sum cX8_sum 2 none 0 := ⟨ml_X8_282, ni_X8, cd_X8_sum, by decide, by decide, by decide +kernel⟩
theorem wi_X8_sum : Cond.instanceMethod yX8_sum ∈ zT := zw_of _ 1686 (by decide +kernel) (by decide +kernel)
theorem ws_X8_sum : Cond.selects RX8 yX8_sum yX8_sum ∈ zT := zw_of _ 75 (by decide +kernel) (by decide +kernel)
theorem ml_X8_285 : Cond.methodLink RX8 285 yX8_product ∈ zT := zw_of _ 1688 (by decide +kernel) (by decide +kernel)
theorem cd_X8_product : Cond.code yX8_product cX8_product 2 none ∈ zT := zw_of _ 1691 (by decide +kernel) (by decide +kernel)
theorem cw_X8_285 : zCw RX8 285 yX8_product cX8_product 2 none 0 := ⟨ml_X8_285, ni_X8, cd_X8_product, by decide, by decide, by decide +kernel⟩
theorem wi_X8_product : Cond.instanceMethod yX8_product ∈ zT := zw_of _ 1690 (by decide +kernel) (by decide +kernel)
theorem ws_X8_product : Cond.selects RX8 yX8_product yX8_product ∈ zT := zw_of _ 76 (by decide +kernel) (by decide +kernel)
theorem ml_X8_252 : Cond.methodLink RX8 252 yX8_isSign ∈ zT := zw_of _ 1696 (by decide +kernel) (by decide +kernel)
theorem cd_X8_isSign : Cond.code yX8_isSign cX8_isSign 2 (some .boolean) ∈ zT := zw_of _ 1699 (by decide +kernel) (by decide +kernel)
theorem cw_X8_252 : zCw RX8 252 yX8_isSign cX8_isSign 2 (some .boolean) 1 := ⟨ml_X8_252, ni_X8, cd_X8_isSign, by decide, by decide, by decide +kernel⟩
theorem wi_X8_isSign : Cond.instanceMethod yX8_isSign ∈ zT := zw_of _ 1698 (by decide +kernel) (by decide +kernel)
theorem ws_X8_isSign : Cond.selects RX8 yX8_isSign yX8_isSign ∈ zT := zw_of _ 78 (by decide +kernel) (by decide +kernel)
theorem ml_X8_288 : Cond.methodLink RX8 288 yX8_primary ∈ zT := zw_of _ 1692 (by decide +kernel) (by decide +kernel)
theorem cd_X8_primary : Cond.code yX8_primary cX8_primary 2 none ∈ zT := zw_of _ 1695 (by decide +kernel) (by decide +kernel)
theorem cw_X8_288 : zCw RX8 288 yX8_primary cX8_primary 2 none 0 := ⟨ml_X8_288, ni_X8, cd_X8_primary, by decide, by decide, by decide +kernel⟩
theorem wi_X8_primary : Cond.instanceMethod yX8_primary ∈ zT := zw_of _ 1694 (by decide +kernel) (by decide +kernel)
theorem ws_X8_primary : Cond.selects RX8 yX8_primary yX8_primary ∈ zT := zw_of _ 77 (by decide +kernel) (by decide +kernel)
theorem fl_X8_291 : Cond.fieldLink RX8 291 (TX8 31).1 (TX8 31).2.1 (TX8 31).2.2.1 ∈ zT := zw_of _ 1390 (by decide +kernel) (by decide +kernel)
theorem ml_X8_258 : Cond.methodLink RX8 258 yX8_expression ∈ zT := zw_of _ 1656 (by decide +kernel) (by decide +kernel)
theorem cd_X8_expression : Cond.code yX8_expression cX8_expression 1 none ∈ zT := zw_of _ 1659 (by decide +kernel) (by decide +kernel)
theorem cw_X8_258 : zCw RX8 258 yX8_expression cX8_expression 1 none 0 := ⟨ml_X8_258, ni_X8, cd_X8_expression, by decide, by decide, by decide +kernel⟩
theorem wi_X8_expression : Cond.instanceMethod yX8_expression ∈ zT := zw_of _ 1658 (by decide +kernel) (by decide +kernel)
theorem ws_X8_expression : Cond.selects RX8 yX8_expression yX8_expression ∈ zT := zw_of _ 68 (by decide +kernel) (by decide +kernel)
abbrev M_X8_word : zMt := (RX8, cX8_word, 4, 5, 201, (some .int), "word", 0, 0)
theorem d_X8_word_0 : zDc M_X8_word 0 (.iconst 0) 1 1 := ⟨by decide +kernel, rfl⟩
theorem d_X8_word_1 : zDc M_X8_word 1 (.istore_n 1) 1 2 := ⟨by decide +kernel, rfl⟩
theorem d_X8_word_2 : zDc M_X8_word 2 (.iconst 0) 1 3 := ⟨by decide +kernel, rfl⟩
theorem d_X8_word_3 : zDc M_X8_word 3 (.istore_n 2) 1 4 := ⟨by decide +kernel, rfl⟩
theorem d_X8_word_4 : zDc M_X8_word 4 (.iload_n 2) 1 5 := ⟨by decide +kernel, rfl⟩
theorem d_X8_word_5 : zDc M_X8_word 5 (.ldc 194) 2 7 := ⟨by decide +kernel, rfl⟩
theorem d_X8_word_7 : zDc M_X8_word 7 (.invokevirtual 196) 3 10 := ⟨by decide +kernel, rfl⟩
theorem d_X8_word_10 : zDj M_X8_word 10 (.if_icmp .ge 113) 113 13 123 := ⟨by decide +kernel, rfl, by decide⟩
theorem d_X8_word_13 : zDc M_X8_word 13 (.iconst 0) 1 14 := ⟨by decide +kernel, rfl⟩
theorem d_X8_word_14 : zDc M_X8_word 14 (.istore_n 3) 1 15 := ⟨by decide +kernel, rfl⟩
theorem d_X8_word_15 : zDc M_X8_word 15 (.ldc 194) 2 17 := ⟨by decide +kernel, rfl⟩
theorem d_X8_word_17 : zDc M_X8_word 17 (.iload_n 2) 1 18 := ⟨by decide +kernel, rfl⟩
theorem d_X8_word_18 : zDc M_X8_word 18 (.iload_n 3) 1 19 := ⟨by decide +kernel, rfl⟩
theorem d_X8_word_19 : zDc M_X8_word 19 (.iadd) 1 20 := ⟨by decide +kernel, rfl⟩
theorem d_X8_word_20 : zDc M_X8_word 20 (.invokevirtual 201) 3 23 := ⟨by decide +kernel, rfl⟩
theorem d_X8_word_23 : zDc M_X8_word 23 (.bipush 32) 2 25 := ⟨by decide +kernel, rfl⟩
theorem d_X8_word_25 : zDj M_X8_word 25 (.if_icmp .eq 44) 44 28 69 := ⟨by decide +kernel, rfl, by decide⟩
theorem d_X8_word_28 : zDc M_X8_word 28 (.aload_n 0) 1 29 := ⟨by decide +kernel, rfl⟩
theorem d_X8_word_29 : zDc M_X8_word 29 (.getfield 167) 3 32 := ⟨by decide +kernel, rfl⟩
theorem d_X8_word_32 : zDc M_X8_word 32 (.iload_n 3) 1 33 := ⟨by decide +kernel, rfl⟩
theorem d_X8_word_33 : zDc M_X8_word 33 (.iadd) 1 34 := ⟨by decide +kernel, rfl⟩
theorem d_X8_word_34 : zDc M_X8_word 34 (.aload_n 0) 1 35 := ⟨by decide +kernel, rfl⟩
theorem d_X8_word_35 : zDc M_X8_word 35 (.getfield 157) 3 38 := ⟨by decide +kernel, rfl⟩
theorem d_X8_word_38 : zDj M_X8_word 38 (.if_icmp .ge 31) 31 41 69 := ⟨by decide +kernel, rfl, by decide⟩
theorem d_X8_word_41 : zDc M_X8_word 41 (.aload_n 0) 1 42 := ⟨by decide +kernel, rfl⟩
theorem d_X8_word_42 : zDc M_X8_word 42 (.getfield 7) 3 45 := ⟨by decide +kernel, rfl⟩
theorem d_X8_word_45 : zDc M_X8_word 45 (.aload_n 0) 1 46 := ⟨by decide +kernel, rfl⟩
theorem d_X8_word_46 : zDc M_X8_word 46 (.getfield 167) 3 49 := ⟨by decide +kernel, rfl⟩
theorem d_X8_word_49 : zDc M_X8_word 49 (.iload_n 3) 1 50 := ⟨by decide +kernel, rfl⟩
theorem d_X8_word_50 : zDc M_X8_word 50 (.iadd) 1 51 := ⟨by decide +kernel, rfl⟩
theorem d_X8_word_51 : zDc M_X8_word 51 (.iaload) 1 52 := ⟨by decide +kernel, rfl⟩
theorem d_X8_word_52 : zDc M_X8_word 52 (.ldc 194) 2 54 := ⟨by decide +kernel, rfl⟩
theorem d_X8_word_54 : zDc M_X8_word 54 (.iload_n 2) 1 55 := ⟨by decide +kernel, rfl⟩
theorem d_X8_word_55 : zDc M_X8_word 55 (.iload_n 3) 1 56 := ⟨by decide +kernel, rfl⟩
theorem d_X8_word_56 : zDc M_X8_word 56 (.iadd) 1 57 := ⟨by decide +kernel, rfl⟩
theorem d_X8_word_57 : zDc M_X8_word 57 (.invokevirtual 201) 3 60 := ⟨by decide +kernel, rfl⟩
theorem d_X8_word_60 : zDj M_X8_word 60 (.if_icmp .ne 9) 9 63 69 := ⟨by decide +kernel, rfl, by decide⟩
theorem d_X8_word_63 : zDc M_X8_word 63 (.iinc 3 1) 3 66 := ⟨by decide +kernel, rfl⟩
theorem d_X8_word_66 : zDj M_X8_word 66 (.goto (-51)) (-51) 69 15 := ⟨by decide +kernel, rfl, by decide⟩
theorem d_X8_word_69 : zDc M_X8_word 69 (.ldc 194) 2 71 := ⟨by decide +kernel, rfl⟩
theorem d_X8_word_71 : zDc M_X8_word 71 (.iload_n 2) 1 72 := ⟨by decide +kernel, rfl⟩
theorem d_X8_word_72 : zDc M_X8_word 72 (.iload_n 3) 1 73 := ⟨by decide +kernel, rfl⟩
theorem d_X8_word_73 : zDc M_X8_word 73 (.iadd) 1 74 := ⟨by decide +kernel, rfl⟩
theorem d_X8_word_74 : zDc M_X8_word 74 (.invokevirtual 201) 3 77 := ⟨by decide +kernel, rfl⟩
theorem d_X8_word_77 : zDc M_X8_word 77 (.bipush 32) 2 79 := ⟨by decide +kernel, rfl⟩
theorem d_X8_word_79 : zDj M_X8_word 79 (.if_icmp .ne 18) 18 82 97 := ⟨by decide +kernel, rfl, by decide⟩
theorem d_X8_word_82 : zDc M_X8_word 82 (.aload_n 0) 1 83 := ⟨by decide +kernel, rfl⟩
theorem d_X8_word_83 : zDc M_X8_word 83 (.getfield 167) 3 86 := ⟨by decide +kernel, rfl⟩
theorem d_X8_word_86 : zDc M_X8_word 86 (.iload_n 3) 1 87 := ⟨by decide +kernel, rfl⟩
theorem d_X8_word_87 : zDc M_X8_word 87 (.iadd) 1 88 := ⟨by decide +kernel, rfl⟩
theorem d_X8_word_88 : zDc M_X8_word 88 (.aload_n 0) 1 89 := ⟨by decide +kernel, rfl⟩
theorem d_X8_word_89 : zDc M_X8_word 89 (.getfield 157) 3 92 := ⟨by decide +kernel, rfl⟩
theorem d_X8_word_92 : zDj M_X8_word 92 (.if_icmp .ne 5) 5 95 97 := ⟨by decide +kernel, rfl, by decide⟩
theorem d_X8_word_95 : zDc M_X8_word 95 (.iload_n 1) 1 96 := ⟨by decide +kernel, rfl⟩
theorem d_X8_word_96 : zDc M_X8_word 96 (.ireturn) 1 97 := ⟨by decide +kernel, rfl⟩
theorem d_X8_word_97 : zDc M_X8_word 97 (.ldc 194) 2 99 := ⟨by decide +kernel, rfl⟩
theorem d_X8_word_99 : zDc M_X8_word 99 (.iload_n 2) 1 100 := ⟨by decide +kernel, rfl⟩
theorem d_X8_word_100 : zDc M_X8_word 100 (.invokevirtual 201) 3 103 := ⟨by decide +kernel, rfl⟩
theorem d_X8_word_103 : zDc M_X8_word 103 (.bipush 32) 2 105 := ⟨by decide +kernel, rfl⟩
theorem d_X8_word_105 : zDj M_X8_word 105 (.if_icmp .eq 9) 9 108 114 := ⟨by decide +kernel, rfl, by decide⟩
theorem d_X8_word_108 : zDc M_X8_word 108 (.iinc 2 1) 3 111 := ⟨by decide +kernel, rfl⟩
theorem d_X8_word_111 : zDj M_X8_word 111 (.goto (-14)) (-14) 114 97 := ⟨by decide +kernel, rfl, by decide⟩
theorem d_X8_word_114 : zDc M_X8_word 114 (.iinc 2 1) 3 117 := ⟨by decide +kernel, rfl⟩
theorem d_X8_word_117 : zDc M_X8_word 117 (.iinc 1 1) 3 120 := ⟨by decide +kernel, rfl⟩
theorem d_X8_word_120 : zDj M_X8_word 120 (.goto (-116)) (-116) 123 4 := ⟨by decide +kernel, rfl, by decide⟩
theorem d_X8_word_123 : zDc M_X8_word 123 (.iconst (-1)) 1 124 := ⟨by decide +kernel, rfl⟩
theorem d_X8_word_124 : zDc M_X8_word 124 (.ireturn) 1 125 := ⟨by decide +kernel, rfl⟩
def f_X8_word (a0 : Nat) (h0 : zHp) : Option (Int32 × zHp) :=
  zbd (
  zlp (σ := (Int32 × Int32)) (β := ((Int32 × Int32) ⊕ Int32)) zLF (fun s1 h2 =>
  if 115 ≤ s1.2 then
  some ((.inr (.inl (s1.1, s1.2))), h2)
  else
  zbd (
  zlp (σ := Int32) (β := Int32) zLF (fun s5 h6 =>
  zob (zco 1 (s1.2 + s5)) (fun v9 =>
  if v9 = 32 then
  some ((.inr s5), h6)
  else
  zob (zgI h6 a0 8 24) (fun v10 =>
  zob (zgI h6 a0 8 23) (fun v11 =>
  if v11 ≤ (v10 + s5) then
  some ((.inr s5), h6)
  else
  zob (zgR h6 a0 8 1) (fun v12 =>
  zob (zgI h6 a0 8 24) (fun v13 =>
  zob (zaI 0 h6 v12 (v13 + s5)) (fun v14 =>
  zob (zco 1 (s1.2 + s5)) (fun v15 =>
  if v14 = v15 then
  some ((.inl (s5 + 1)), h6)
  else
  some ((.inr s5), h6))))))))) 0 h2) (fun e7 h8 =>
  zob (zco 1 (s1.2 + e7)) (fun v16 =>
  zbd (α := (Unit ⊕ ((Int32 × Int32) ⊕ ((Int32 × Int32) ⊕ Int32)))) (
  if v16 = 32 then
  zob (zgI h8 a0 8 24) (fun v17 =>
  zob (zgI h8 a0 8 23) (fun v18 =>
  if (v17 + e7) = v18 then
  some ((.inr (.inr (.inr s1.1))), h8)
  else
  some ((.inl ()), h8)))
  else
  some ((.inl ()), h8)) (fun b26 h20 => zsl b26 (fun e19 =>
  zbd (
  zlp (σ := Int32) (β := Int32) zLF (fun s21 h22 =>
  zob (zco 1 s21) (fun v25 =>
  if v25 = 32 then
  some ((.inr s21), h22)
  else
  some ((.inl (s21 + 1)), h22))) s1.2 h20) (fun e23 h24 =>
  some ((.inl ((s1.1 + 1), (e23 + 1))), h24))) (fun r => some (r, h20)))))) (0, 0) h0) (fun b27 h4 => zsl b27 (fun e3 =>
  some ((-1), h4)) (fun r => some (r, h4)))
set_option maxRecDepth 100000 in
set_option maxHeartbeats 4000000 in
theorem t_X8_word (a0 : Nat) (h0 : zHp) : ∀ (r : Int32) (h' : zHp), f_X8_word a0 h0 = some (r, h') → zCt yX8_word (.code yX8_word cX8_word 4 (some .int)) 5 201 0 0 [.ref a0] h0 (some (.int r)) h' := by
  refine zct_of M_X8_word yX8_word (by decide) rfl rfl [.ref a0] h0 (Nat.le_of_ble_eq_true rfl) (fun r => some (.int r)) (fun X => ?_)
  show zG X M_X8_word (0, 0) 0 [(0, .ref a0)] [] h0 (f_X8_word a0 h0) (fun (r : Int32) h' => zKe X (some (.int r)) h')
  unfold f_X8_word
  refine zg_iconst 0 rfl d_X8_word_0 ?_
  refine zg_istore_n [(1, .int 0), (0, .ref a0)] d_X8_word_1 rfl (by decide) rfl ?_
  refine zg_iconst 0 rfl d_X8_word_2 ?_
  refine zg_istore_n [(2, .int 0), (1, .int 0), (0, .ref a0)] d_X8_word_3 rfl (by decide) rfl ?_
  refine zg_bdr (E := 123) (el := (fun (e3 : (Int32 × Int32)) => [(0, .ref a0), (1, .int e3.1), (2, .int e3.2)])) (es := fun _ => []) (zg_sub [2, 1, 0] rfl (zg_lp (el := (fun (s1 : (Int32 × Int32)) => [(0, .ref a0), (1, .int s1.1), (2, .int s1.2)])) (fun s1 h2 => ?_) (0, 0) h0)) (fun e3 h4 => ?_)
  · refine zg_iload_n 2 rfl d_X8_word_4 ?_
    refine zg_ldc1 rfl d_X8_word_5 ?_
    refine zg_sln (by decide) d_X8_word_7 jw_X8_196 (Nat.le_of_ble_eq_true rfl) (by decide) (by decide) ⟨Nat.le_of_ble_eq_true rfl, Nat.le_of_ble_eq_true rfl⟩ ?_
    refine zg_icmp_ge d_X8_word_10 ?_ ?_
    · exact zg_finK (E := 0) [0, 1, 2] rfl rfl (fun q => q)
    · refine zg_iconst 0 rfl d_X8_word_13 ?_
      refine zg_istore_n [(3, .int 0), (0, .ref a0), (1, .int s1.1), (2, .int s1.2)] d_X8_word_14 rfl (by decide) rfl ?_
      refine zg_bd (E := 69) (el := (fun (e7 : Int32) => [(0, .ref a0), (1, .int s1.1), (2, .int s1.2), (3, .int e7)])) (es := fun _ => []) (zg_sub [1, 2, 3, 0] rfl (zg_lp (el := (fun (s5 : Int32) => [(0, .ref a0), (1, .int s1.1), (2, .int s1.2), (3, .int s5)])) (fun s5 h6 => ?_) 0 h2)) (fun e7 h8 => ?_)
      · refine zg_ldc1 rfl d_X8_word_15 ?_
        refine zg_iload_n 2 rfl d_X8_word_17 ?_
        refine zg_iload_n 3 rfl d_X8_word_18 ?_
        refine zg_iadd d_X8_word_19 ?_
        refine zg_chr (by decide) d_X8_word_20 jw_X8_201 (Nat.le_of_ble_eq_true rfl) (by decide) (by decide) ⟨Nat.le_of_ble_eq_true rfl, Nat.le_of_ble_eq_true rfl⟩ (fun v9 => ?_)
        refine zg_bipush 32 rfl d_X8_word_23 ?_
        refine zg_icmp_eq d_X8_word_25 ?_ ?_
        · exact zg_finK (E := 0) [0, 1, 2, 3] rfl rfl (fun q => q)
        · refine zg_aload_n 0 rfl d_X8_word_28 ?_
          refine zg_getI d_X8_word_29 zc_8 (by decide) fl_X8_167 (fun v10 => ?_)
          refine zg_iload_n 3 rfl d_X8_word_32 ?_
          refine zg_iadd d_X8_word_33 ?_
          refine zg_aload_n 0 rfl d_X8_word_34 ?_
          refine zg_getI d_X8_word_35 zc_8 (by decide) fl_X8_157 (fun v11 => ?_)
          refine zg_icmp_ge d_X8_word_38 ?_ ?_
          · exact zg_finK (E := 0) [0, 1, 2, 3] rfl rfl (fun q => q)
          · refine zg_aload_n 0 rfl d_X8_word_41 ?_
            refine zg_getR d_X8_word_42 zc_8 (by decide) fl_X8_7 (fun v12 => ?_)
            refine zg_aload_n 0 rfl d_X8_word_45 ?_
            refine zg_getI d_X8_word_46 zc_8 (by decide) fl_X8_167 (fun v13 => ?_)
            refine zg_iload_n 3 rfl d_X8_word_49 ?_
            refine zg_iadd d_X8_word_50 ?_
            refine zg_ald0 d_X8_word_51 (fun v14 => ?_)
            refine zg_ldc1 rfl d_X8_word_52 ?_
            refine zg_iload_n 2 rfl d_X8_word_54 ?_
            refine zg_iload_n 3 rfl d_X8_word_55 ?_
            refine zg_iadd d_X8_word_56 ?_
            refine zg_chr (by decide) d_X8_word_57 jw_X8_201 (Nat.le_of_ble_eq_true rfl) (by decide) (by decide) ⟨Nat.le_of_ble_eq_true rfl, Nat.le_of_ble_eq_true rfl⟩ (fun v15 => ?_)
            refine zg_icmp_ne d_X8_word_60 ?_ ?_
            · refine zg_iinc 3 (s5 + 1) [(3, .int (s5 + 1)), (0, .ref a0), (1, .int s1.1), (2, .int s1.2)] d_X8_word_63 rfl rfl (by decide) rfl ?_
              refine zg_goto d_X8_word_66 ?_
              exact zg_finK (E := 0) [1, 2, 3, 0] rfl rfl (fun q => q)
            · exact zg_finK (E := 0) [0, 1, 2, 3] rfl rfl (fun q => q)
      · refine zg_ldc1 rfl d_X8_word_69 ?_
        refine zg_iload_n 2 rfl d_X8_word_71 ?_
        refine zg_iload_n 3 rfl d_X8_word_72 ?_
        refine zg_iadd d_X8_word_73 ?_
        refine zg_chr (by decide) d_X8_word_74 jw_X8_201 (Nat.le_of_ble_eq_true rfl) (by decide) (by decide) ⟨Nat.le_of_ble_eq_true rfl, Nat.le_of_ble_eq_true rfl⟩ (fun v16 => ?_)
        refine zg_bipush 32 rfl d_X8_word_77 ?_
        refine zg_bdr (E := 97) (el := (fun (e19 : Unit) => [(0, .ref a0), (1, .int s1.1), (2, .int s1.2), (3, .int e7)])) (es := (fun (e19 : Unit) => [])) ?_ (fun e19 h20 => ?_)
        · refine zg_icmp_ne d_X8_word_79 ?_ ?_
          · refine zg_aload_n 0 rfl d_X8_word_82 ?_
            refine zg_getI d_X8_word_83 zc_8 (by decide) fl_X8_167 (fun v17 => ?_)
            refine zg_iload_n 3 rfl d_X8_word_86 ?_
            refine zg_iadd d_X8_word_87 ?_
            refine zg_aload_n 0 rfl d_X8_word_88 ?_
            refine zg_getI d_X8_word_89 zc_8 (by decide) fl_X8_157 (fun v18 => ?_)
            refine zg_icmp_ne d_X8_word_92 ?_ ?_
            · refine zg_iload_n 1 rfl d_X8_word_95 ?_
              exact zg_iretK d_X8_word_96 rfl ⟨Nat.le_of_ble_eq_true rfl, Nat.le_of_ble_eq_true rfl⟩ (fun q => q)
            · exact zg_finK (E := 0) [0, 1, 2, 3] rfl rfl (fun q => q)
          · exact zg_finK (E := 0) [0, 1, 2, 3] rfl rfl (fun q => q)
        · refine zg_bd (E := 114) (el := (fun (e23 : Int32) => [(0, .ref a0), (1, .int s1.1), (2, .int e23), (3, .int e7)])) (es := fun _ => []) (zg_sub [0, 1, 2, 3] rfl (zg_lp (el := (fun (s21 : Int32) => [(0, .ref a0), (1, .int s1.1), (2, .int s21), (3, .int e7)])) (fun s21 h22 => ?_) s1.2 h20)) (fun e23 h24 => ?_)
          · refine zg_ldc1 rfl d_X8_word_97 ?_
            refine zg_iload_n 2 rfl d_X8_word_99 ?_
            refine zg_chr (by decide) d_X8_word_100 jw_X8_201 (Nat.le_of_ble_eq_true rfl) (by decide) (by decide) ⟨Nat.le_of_ble_eq_true rfl, Nat.le_of_ble_eq_true rfl⟩ (fun v25 => ?_)
            refine zg_bipush 32 rfl d_X8_word_103 ?_
            refine zg_icmp_eq d_X8_word_105 ?_ ?_
            · exact zg_finK (E := 0) [0, 1, 2, 3] rfl rfl (fun q => q)
            · refine zg_iinc 2 (s21 + 1) [(2, .int (s21 + 1)), (0, .ref a0), (1, .int s1.1), (3, .int e7)] d_X8_word_108 rfl rfl (by decide) rfl ?_
              refine zg_goto d_X8_word_111 ?_
              exact zg_finK (E := 0) [1, 2, 0, 3] rfl rfl (fun q => q)
          · refine zg_iinc 2 (e23 + 1) [(2, .int (e23 + 1)), (0, .ref a0), (1, .int s1.1), (3, .int e7)] d_X8_word_114 rfl rfl (by decide) rfl ?_
            refine zg_iinc 2 (s1.1 + 1) [(1, .int (s1.1 + 1)), (2, .int (e23 + 1)), (0, .ref a0), (3, .int e7)] d_X8_word_117 rfl rfl (by decide) rfl ?_
            refine zg_goto d_X8_word_120 ?_
            exact zg_finK (E := 0) [2, 0, 1] rfl rfl (fun q => q)
  · refine zg_iconst (-1) rfl d_X8_word_123 ?_
    exact zg_iretK d_X8_word_124 rfl ⟨Nat.le_of_ble_eq_true rfl, Nat.le_of_ble_eq_true rfl⟩ (fun q => q)
abbrev M_X8_token : zMt := (RX8, cX8_token, 2, 6, 224, none, "token", 0, 0)
theorem d_X8_token_0 : zDc M_X8_token 0 (.aload_n 0) 1 1 := ⟨by decide +kernel, rfl⟩
theorem d_X8_token_1 : zDc M_X8_token 1 (.invokevirtual 163) 3 4 := ⟨by decide +kernel, rfl⟩
theorem d_X8_token_4 : zDc M_X8_token 4 (.bipush 10) 2 6 := ⟨by decide +kernel, rfl⟩
theorem d_X8_token_6 : zDj M_X8_token 6 (.if_icmp .eq 12) 12 9 18 := ⟨by decide +kernel, rfl, by decide⟩
theorem d_X8_token_9 : zDc M_X8_token 9 (.aload_n 0) 1 10 := ⟨by decide +kernel, rfl⟩
theorem d_X8_token_10 : zDc M_X8_token 10 (.invokevirtual 163) 3 13 := ⟨by decide +kernel, rfl⟩
theorem d_X8_token_13 : zDc M_X8_token 13 (.bipush 32) 2 15 := ⟨by decide +kernel, rfl⟩
theorem d_X8_token_15 : zDj M_X8_token 15 (.if_icmp .ne 16) 16 18 31 := ⟨by decide +kernel, rfl, by decide⟩
theorem d_X8_token_18 : zDc M_X8_token 18 (.aload_n 0) 1 19 := ⟨by decide +kernel, rfl⟩
theorem d_X8_token_19 : zDc M_X8_token 19 (.dup) 1 20 := ⟨by decide +kernel, rfl⟩
theorem d_X8_token_20 : zDc M_X8_token 20 (.getfield 157) 3 23 := ⟨by decide +kernel, rfl⟩
theorem d_X8_token_23 : zDc M_X8_token 23 (.iconst 1) 1 24 := ⟨by decide +kernel, rfl⟩
theorem d_X8_token_24 : zDc M_X8_token 24 (.iadd) 1 25 := ⟨by decide +kernel, rfl⟩
theorem d_X8_token_25 : zDc M_X8_token 25 (.putfield 157) 3 28 := ⟨by decide +kernel, rfl⟩
theorem d_X8_token_28 : zDj M_X8_token 28 (.goto (-28)) (-28) 31 0 := ⟨by decide +kernel, rfl, by decide⟩
theorem d_X8_token_31 : zDc M_X8_token 31 (.aload_n 0) 1 32 := ⟨by decide +kernel, rfl⟩
theorem d_X8_token_32 : zDc M_X8_token 32 (.aload_n 0) 1 33 := ⟨by decide +kernel, rfl⟩
theorem d_X8_token_33 : zDc M_X8_token 33 (.getfield 157) 3 36 := ⟨by decide +kernel, rfl⟩
theorem d_X8_token_36 : zDc M_X8_token 36 (.putfield 167) 3 39 := ⟨by decide +kernel, rfl⟩
theorem d_X8_token_39 : zDc M_X8_token 39 (.aload_n 0) 1 40 := ⟨by decide +kernel, rfl⟩
theorem d_X8_token_40 : zDc M_X8_token 40 (.invokevirtual 163) 3 43 := ⟨by decide +kernel, rfl⟩
theorem d_X8_token_43 : zDc M_X8_token 43 (.istore_n 1) 1 44 := ⟨by decide +kernel, rfl⟩
theorem d_X8_token_44 : zDc M_X8_token 44 (.iload_n 1) 1 45 := ⟨by decide +kernel, rfl⟩
theorem d_X8_token_45 : zDc M_X8_token 45 (.iconst (-1)) 1 46 := ⟨by decide +kernel, rfl⟩
theorem d_X8_token_46 : zDj M_X8_token 46 (.if_icmp .ne 11) 11 49 57 := ⟨by decide +kernel, rfl, by decide⟩
theorem d_X8_token_49 : zDc M_X8_token 49 (.aload_n 0) 1 50 := ⟨by decide +kernel, rfl⟩
theorem d_X8_token_50 : zDc M_X8_token 50 (.iconst 4) 1 51 := ⟨by decide +kernel, rfl⟩
theorem d_X8_token_51 : zDc M_X8_token 51 (.putfield 170) 3 54 := ⟨by decide +kernel, rfl⟩
theorem d_X8_token_54 : zDj M_X8_token 54 (.goto 171) 171 57 225 := ⟨by decide +kernel, rfl, by decide⟩
theorem d_X8_token_57 : zDc M_X8_token 57 (.iload_n 1) 1 58 := ⟨by decide +kernel, rfl⟩
theorem d_X8_token_58 : zDc M_X8_token 58 (.invokestatic 173) 3 61 := ⟨by decide +kernel, rfl⟩
theorem d_X8_token_61 : zDj M_X8_token 61 (.ifCond .eq 84) 84 64 145 := ⟨by decide +kernel, rfl, by decide⟩
theorem d_X8_token_64 : zDc M_X8_token 64 (.aload_n 0) 1 65 := ⟨by decide +kernel, rfl⟩
theorem d_X8_token_65 : zDc M_X8_token 65 (.invokevirtual 163) 3 68 := ⟨by decide +kernel, rfl⟩
theorem d_X8_token_68 : zDc M_X8_token 68 (.invokestatic 173) 3 71 := ⟨by decide +kernel, rfl⟩
theorem d_X8_token_71 : zDj M_X8_token 71 (.ifCond .eq 16) 16 74 87 := ⟨by decide +kernel, rfl, by decide⟩
theorem d_X8_token_74 : zDc M_X8_token 74 (.aload_n 0) 1 75 := ⟨by decide +kernel, rfl⟩
theorem d_X8_token_75 : zDc M_X8_token 75 (.dup) 1 76 := ⟨by decide +kernel, rfl⟩
theorem d_X8_token_76 : zDc M_X8_token 76 (.getfield 157) 3 79 := ⟨by decide +kernel, rfl⟩
theorem d_X8_token_79 : zDc M_X8_token 79 (.iconst 1) 1 80 := ⟨by decide +kernel, rfl⟩
theorem d_X8_token_80 : zDc M_X8_token 80 (.iadd) 1 81 := ⟨by decide +kernel, rfl⟩
theorem d_X8_token_81 : zDc M_X8_token 81 (.putfield 157) 3 84 := ⟨by decide +kernel, rfl⟩
theorem d_X8_token_84 : zDj M_X8_token 84 (.goto (-20)) (-20) 87 64 := ⟨by decide +kernel, rfl, by decide⟩
theorem d_X8_token_87 : zDc M_X8_token 87 (.aload_n 0) 1 88 := ⟨by decide +kernel, rfl⟩
theorem d_X8_token_88 : zDc M_X8_token 88 (.aload_n 0) 1 89 := ⟨by decide +kernel, rfl⟩
theorem d_X8_token_89 : zDc M_X8_token 89 (.invokevirtual 177) 3 92 := ⟨by decide +kernel, rfl⟩
theorem d_X8_token_92 : zDc M_X8_token 92 (.putfield 180) 3 95 := ⟨by decide +kernel, rfl⟩
theorem d_X8_token_95 : zDc M_X8_token 95 (.aload_n 0) 1 96 := ⟨by decide +kernel, rfl⟩
theorem d_X8_token_96 : zDc M_X8_token 96 (.aload_n 0) 1 97 := ⟨by decide +kernel, rfl⟩
theorem d_X8_token_97 : zDc M_X8_token 97 (.getfield 180) 3 100 := ⟨by decide +kernel, rfl⟩
theorem d_X8_token_100 : zDc M_X8_token 100 (.iconst (-1)) 1 101 := ⟨by decide +kernel, rfl⟩
theorem d_X8_token_101 : zDj M_X8_token 101 (.if_icmp .eq 7) 7 104 108 := ⟨by decide +kernel, rfl, by decide⟩
theorem d_X8_token_104 : zDc M_X8_token 104 (.iconst 0) 1 105 := ⟨by decide +kernel, rfl⟩
theorem d_X8_token_105 : zDj M_X8_token 105 (.goto 22) 22 108 127 := ⟨by decide +kernel, rfl, by decide⟩
theorem d_X8_token_108 : zDc M_X8_token 108 (.aload_n 0) 1 109 := ⟨by decide +kernel, rfl⟩
theorem d_X8_token_109 : zDc M_X8_token 109 (.getfield 157) 3 112 := ⟨by decide +kernel, rfl⟩
theorem d_X8_token_112 : zDc M_X8_token 112 (.aload_n 0) 1 113 := ⟨by decide +kernel, rfl⟩
theorem d_X8_token_113 : zDc M_X8_token 113 (.getfield 167) 3 116 := ⟨by decide +kernel, rfl⟩
theorem d_X8_token_116 : zDc M_X8_token 116 (.isub) 1 117 := ⟨by decide +kernel, rfl⟩
theorem d_X8_token_117 : zDc M_X8_token 117 (.bipush 6) 2 119 := ⟨by decide +kernel, rfl⟩
theorem d_X8_token_119 : zDj M_X8_token 119 (.if_icmp .le 7) 7 122 126 := ⟨by decide +kernel, rfl, by decide⟩
theorem d_X8_token_122 : zDc M_X8_token 122 (.iconst 5) 1 123 := ⟨by decide +kernel, rfl⟩
theorem d_X8_token_123 : zDj M_X8_token 123 (.goto 4) 4 126 127 := ⟨by decide +kernel, rfl, by decide⟩
theorem d_X8_token_126 : zDc M_X8_token 126 (.iconst 1) 1 127 := ⟨by decide +kernel, rfl⟩
theorem d_X8_token_127 : zDc M_X8_token 127 (.putfield 170) 3 130 := ⟨by decide +kernel, rfl⟩
theorem d_X8_token_130 : zDc M_X8_token 130 (.aload_n 0) 1 131 := ⟨by decide +kernel, rfl⟩
theorem d_X8_token_131 : zDc M_X8_token 131 (.getfield 170) 3 134 := ⟨by decide +kernel, rfl⟩
theorem d_X8_token_134 : zDc M_X8_token 134 (.iconst 1) 1 135 := ⟨by decide +kernel, rfl⟩
theorem d_X8_token_135 : zDj M_X8_token 135 (.if_icmp .ne 90) 90 138 225 := ⟨by decide +kernel, rfl, by decide⟩
theorem d_X8_token_138 : zDc M_X8_token 138 (.aload_n 0) 1 139 := ⟨by decide +kernel, rfl⟩
theorem d_X8_token_139 : zDc M_X8_token 139 (.invokevirtual 183) 3 142 := ⟨by decide +kernel, rfl⟩
theorem d_X8_token_142 : zDj M_X8_token 142 (.goto 83) 83 145 225 := ⟨by decide +kernel, rfl, by decide⟩
theorem d_X8_token_145 : zDc M_X8_token 145 (.iload_n 1) 1 146 := ⟨by decide +kernel, rfl⟩
theorem d_X8_token_146 : zDc M_X8_token 146 (.invokestatic 186) 3 149 := ⟨by decide +kernel, rfl⟩
theorem d_X8_token_149 : zDj M_X8_token 149 (.ifCond .eq 71) 71 152 220 := ⟨by decide +kernel, rfl, by decide⟩
theorem d_X8_token_152 : zDc M_X8_token 152 (.aload_n 0) 1 153 := ⟨by decide +kernel, rfl⟩
theorem d_X8_token_153 : zDc M_X8_token 153 (.iconst 2) 1 154 := ⟨by decide +kernel, rfl⟩
theorem d_X8_token_154 : zDc M_X8_token 154 (.putfield 170) 3 157 := ⟨by decide +kernel, rfl⟩
theorem d_X8_token_157 : zDc M_X8_token 157 (.aload_n 0) 1 158 := ⟨by decide +kernel, rfl⟩
theorem d_X8_token_158 : zDc M_X8_token 158 (.iconst 0) 1 159 := ⟨by decide +kernel, rfl⟩
theorem d_X8_token_159 : zDc M_X8_token 159 (.putfield 180) 3 162 := ⟨by decide +kernel, rfl⟩
theorem d_X8_token_162 : zDc M_X8_token 162 (.aload_n 0) 1 163 := ⟨by decide +kernel, rfl⟩
theorem d_X8_token_163 : zDc M_X8_token 163 (.invokevirtual 163) 3 166 := ⟨by decide +kernel, rfl⟩
theorem d_X8_token_166 : zDc M_X8_token 166 (.invokestatic 186) 3 169 := ⟨by decide +kernel, rfl⟩
theorem d_X8_token_169 : zDj M_X8_token 169 (.ifCond .eq 56) 56 172 225 := ⟨by decide +kernel, rfl, by decide⟩
theorem d_X8_token_172 : zDc M_X8_token 172 (.aload_n 0) 1 173 := ⟨by decide +kernel, rfl⟩
theorem d_X8_token_173 : zDc M_X8_token 173 (.aload_n 0) 1 174 := ⟨by decide +kernel, rfl⟩
theorem d_X8_token_174 : zDc M_X8_token 174 (.getfield 180) 3 177 := ⟨by decide +kernel, rfl⟩
theorem d_X8_token_177 : zDc M_X8_token 177 (.ldc 189) 2 179 := ⟨by decide +kernel, rfl⟩
theorem d_X8_token_179 : zDj M_X8_token 179 (.if_icmp .le 10) 10 182 189 := ⟨by decide +kernel, rfl, by decide⟩
theorem d_X8_token_182 : zDc M_X8_token 182 (.aload_n 0) 1 183 := ⟨by decide +kernel, rfl⟩
theorem d_X8_token_183 : zDc M_X8_token 183 (.getfield 180) 3 186 := ⟨by decide +kernel, rfl⟩
theorem d_X8_token_186 : zDj M_X8_token 186 (.goto 18) 18 189 204 := ⟨by decide +kernel, rfl, by decide⟩
theorem d_X8_token_189 : zDc M_X8_token 189 (.bipush 10) 2 191 := ⟨by decide +kernel, rfl⟩
theorem d_X8_token_191 : zDc M_X8_token 191 (.aload_n 0) 1 192 := ⟨by decide +kernel, rfl⟩
theorem d_X8_token_192 : zDc M_X8_token 192 (.getfield 180) 3 195 := ⟨by decide +kernel, rfl⟩
theorem d_X8_token_195 : zDc M_X8_token 195 (.imul) 1 196 := ⟨by decide +kernel, rfl⟩
theorem d_X8_token_196 : zDc M_X8_token 196 (.aload_n 0) 1 197 := ⟨by decide +kernel, rfl⟩
theorem d_X8_token_197 : zDc M_X8_token 197 (.invokevirtual 163) 3 200 := ⟨by decide +kernel, rfl⟩
theorem d_X8_token_200 : zDc M_X8_token 200 (.iadd) 1 201 := ⟨by decide +kernel, rfl⟩
theorem d_X8_token_201 : zDc M_X8_token 201 (.bipush 48) 2 203 := ⟨by decide +kernel, rfl⟩
theorem d_X8_token_203 : zDc M_X8_token 203 (.isub) 1 204 := ⟨by decide +kernel, rfl⟩
theorem d_X8_token_204 : zDc M_X8_token 204 (.putfield 180) 3 207 := ⟨by decide +kernel, rfl⟩
theorem d_X8_token_207 : zDc M_X8_token 207 (.aload_n 0) 1 208 := ⟨by decide +kernel, rfl⟩
theorem d_X8_token_208 : zDc M_X8_token 208 (.dup) 1 209 := ⟨by decide +kernel, rfl⟩
theorem d_X8_token_209 : zDc M_X8_token 209 (.getfield 157) 3 212 := ⟨by decide +kernel, rfl⟩
theorem d_X8_token_212 : zDc M_X8_token 212 (.iconst 1) 1 213 := ⟨by decide +kernel, rfl⟩
theorem d_X8_token_213 : zDc M_X8_token 213 (.iadd) 1 214 := ⟨by decide +kernel, rfl⟩
theorem d_X8_token_214 : zDc M_X8_token 214 (.putfield 157) 3 217 := ⟨by decide +kernel, rfl⟩
theorem d_X8_token_217 : zDj M_X8_token 217 (.goto (-55)) (-55) 220 162 := ⟨by decide +kernel, rfl, by decide⟩
theorem d_X8_token_220 : zDc M_X8_token 220 (.aload_n 0) 1 221 := ⟨by decide +kernel, rfl⟩
theorem d_X8_token_221 : zDc M_X8_token 221 (.iload_n 1) 1 222 := ⟨by decide +kernel, rfl⟩
theorem d_X8_token_222 : zDc M_X8_token 222 (.invokevirtual 190) 3 225 := ⟨by decide +kernel, rfl⟩
theorem d_X8_token_225 : zDc M_X8_token 225 (.return_) 1 226 := ⟨by decide +kernel, rfl⟩
def f_X8_token (a0 : Nat) (h0 : zHp) : Option (Unit × zHp) :=
  zbd (
  zlp (σ := Unit) (β := Unit) zLF (fun s1 h2 =>
  zbd (zcv 8 a0 h2 (f_X8_here a0 h2)) (fun v6 h5 =>
  zbd (α := (Unit ⊕ (Unit ⊕ Unit))) (
  if v6 = 10 then
  some ((.inl ()), h5)
  else
  zbd (zcv 8 a0 h5 (f_X8_here a0 h5)) (fun v8 h7 =>
  if v8 = 32 then
  some ((.inl ()), h7)
  else
  some ((.inr (.inr ())), h7))) (fun b66 h10 => zsl b66 (fun e9 =>
  zob (zgI h10 a0 8 23) (fun v11 =>
  zob (zpV h10 a0 8 23 (.int (v11 + 1))) (fun h12 =>
  some ((.inl ()), h12)))) (fun r => some (r, h10))))) () h0) (fun e3 h4 =>
  zob (zgI h4 a0 8 23) (fun v13 =>
  zob (zpV h4 a0 8 24 (.int v13)) (fun h14 =>
  zbd (zcv 8 a0 h14 (f_X8_here a0 h14)) (fun v16 h15 =>
  if v16 = (-1) then
  zob (zpV h15 a0 8 25 (.int 4)) (fun h17 =>
  some ((), h17))
  else
  zbd ((f_X8_isSmall v16 h15)) (fun v19 h18 =>
  if v19 = 0 then
  zbd ((f_X8_isDigit v16 h18)) (fun v21 h20 =>
  if v21 = 0 then
  zbd (zcv 8 a0 h20 (f_X8_sign a0 v16 h20)) (fun v23 h22 =>
  some ((), h22))
  else
  zob (zpV h20 a0 8 25 (.int 2)) (fun h24 =>
  zob (zpV h24 a0 8 26 (.int 0)) (fun h25 =>
  zbd (
  zlp (σ := Unit) (β := Unit) zLF (fun s26 h27 =>
  zbd (zcv 8 a0 h27 (f_X8_here a0 h27)) (fun v31 h30 =>
  zbd ((f_X8_isDigit v31 h30)) (fun v33 h32 =>
  if v33 = 0 then
  some ((.inr ()), h32)
  else
  zob (zgI h32 a0 8 26) (fun v34 =>
  zbd (α := Int32) (
  if v34 ≤ 99999 then
  zob (zgI h32 a0 8 26) (fun v35 =>
  zbd (zcv 8 a0 h32 (f_X8_here a0 h32)) (fun v37 h36 =>
  some ((((10 * v35) + v37) - 48), h36)))
  else
  zob (zgI h32 a0 8 26) (fun v38 =>
  some (v38, h32))) (fun e39 h40 =>
  zob (zpV h40 a0 8 26 (.int e39)) (fun h41 =>
  zob (zgI h41 a0 8 23) (fun v42 =>
  zob (zpV h41 a0 8 23 (.int (v42 + 1))) (fun h43 =>
  some ((.inl ()), h43))))))))) () h25) (fun e28 h29 =>
  some ((), h29)))))
  else
  zbd (
  zlp (σ := Unit) (β := Unit) zLF (fun s44 h45 =>
  zbd (zcv 8 a0 h45 (f_X8_here a0 h45)) (fun v49 h48 =>
  zbd ((f_X8_isSmall v49 h48)) (fun v51 h50 =>
  if v51 = 0 then
  some ((.inr ()), h50)
  else
  zob (zgI h50 a0 8 23) (fun v52 =>
  zob (zpV h50 a0 8 23 (.int (v52 + 1))) (fun h53 =>
  some ((.inl ()), h53)))))) () h18) (fun e46 h47 =>
  zbd (zcv 8 a0 h47 (f_X8_word a0 h47)) (fun v55 h54 =>
  zob (zpV h54 a0 8 26 (.int v55)) (fun h56 =>
  zob (zgI h56 a0 8 26) (fun v57 =>
  zbd (α := Int32) (
  if v57 = (-1) then
  zob (zgI h56 a0 8 23) (fun v58 =>
  zob (zgI h56 a0 8 24) (fun v59 =>
  if (v58 - v59) ≤ 6 then
  some (1, h56)
  else
  some (5, h56)))
  else
  some (0, h56)) (fun e60 h61 =>
  zob (zpV h61 a0 8 25 (.int e60)) (fun h62 =>
  zob (zgI h62 a0 8 25) (fun v63 =>
  if v63 = 1 then
  zbd (zcv 8 a0 h62 (f_X8_name a0 h62)) (fun v65 h64 =>
  some ((), h64))
  else
  some ((), h62)))))))))))))
set_option maxRecDepth 100000 in
set_option maxHeartbeats 4000000 in
theorem t_X8_token (a0 : Nat) (h0 : zHp) : ∀ (r : Unit) (h' : zHp), f_X8_token a0 h0 = some (r, h') → zCt yX8_token (.code yX8_token cX8_token 2 none) 6 224 0 0 [.ref a0] h0 (none) h' := by
  refine zct_of M_X8_token yX8_token (by decide) rfl rfl [.ref a0] h0 (Nat.le_of_ble_eq_true rfl) (fun _ => none) (fun X => ?_)
  show zG X M_X8_token (0, 0) 0 [(0, .ref a0)] [] h0 (f_X8_token a0 h0) (fun (_ : Unit) h' => zKe X (none) h')
  unfold f_X8_token
  refine zg_bd (E := 31) (el := (fun (e3 : Unit) => [(0, .ref a0)])) (es := fun _ => []) (zg_sub [0] rfl (zg_lp (el := (fun (s1 : Unit) => [(0, .ref a0)])) (fun s1 h2 => ?_) () h0)) (fun e3 h4 => ?_)
  · refine zg_aload_n 0 rfl d_X8_token_0 ?_
    refine zg_cVi (b := a0) (As := []) (rest := []) (0, 0) d_X8_token_1 zc_8 rfl cw_X8_163 wi_X8_here ws_X8_here rfl rfl (Nat.le_of_ble_eq_true rfl) (by decide) (by decide) ⟨by decide, by decide⟩ rfl (t_X8_here a0 h2) (fun v6 h5 => ?_)
    refine zg_bipush 10 rfl d_X8_token_4 ?_
    refine zg_bdr (E := 18) (el := (fun (e9 : Unit) => [(0, .ref a0)])) (es := (fun (e9 : Unit) => [])) ?_ (fun e9 h10 => ?_)
    · refine zg_icmp_eq d_X8_token_6 ?_ ?_
      · exact zg_finK (E := 0) [0] rfl rfl (fun q => q)
      · refine zg_aload_n 0 rfl d_X8_token_9 ?_
        refine zg_cVi (b := a0) (As := []) (rest := []) (0, 0) d_X8_token_10 zc_8 rfl cw_X8_163 wi_X8_here ws_X8_here rfl rfl (Nat.le_of_ble_eq_true rfl) (by decide) (by decide) ⟨by decide, by decide⟩ rfl (t_X8_here a0 h5) (fun v8 h7 => ?_)
        refine zg_bipush 32 rfl d_X8_token_13 ?_
        refine zg_icmp_ne d_X8_token_15 ?_ ?_
        · exact zg_finK (E := 0) [0] rfl rfl (fun q => q)
        · exact zg_finK (E := 0) [0] rfl rfl (fun q => q)
    · refine zg_aload_n 0 rfl d_X8_token_18 ?_
      refine zg_dup rfl d_X8_token_19 ?_
      refine zg_getI d_X8_token_20 zc_8 (by decide) fl_X8_157 (fun v11 => ?_)
      refine zg_iconst 1 rfl d_X8_token_23 ?_
      refine zg_iadd d_X8_token_24 ?_
      refine zg_putV d_X8_token_25 zc_8 (by decide) fl_X8_157 rfl rfl rfl (fun h12 => ?_)
      refine zg_goto d_X8_token_28 ?_
      exact zg_finK (E := 0) [0] rfl rfl (fun q => q)
  · refine zg_aload_n 0 rfl d_X8_token_31 ?_
    refine zg_aload_n 0 rfl d_X8_token_32 ?_
    refine zg_getI d_X8_token_33 zc_8 (by decide) fl_X8_157 (fun v13 => ?_)
    refine zg_putV d_X8_token_36 zc_8 (by decide) fl_X8_167 rfl rfl rfl (fun h14 => ?_)
    refine zg_aload_n 0 rfl d_X8_token_39 ?_
    refine zg_cVi (b := a0) (As := []) (rest := []) (0, 0) d_X8_token_40 zc_8 rfl cw_X8_163 wi_X8_here ws_X8_here rfl rfl (Nat.le_of_ble_eq_true rfl) (by decide) (by decide) ⟨by decide, by decide⟩ rfl (t_X8_here a0 h14) (fun v16 h15 => ?_)
    refine zg_istore_n [(1, .int v16), (0, .ref a0)] d_X8_token_43 rfl (by decide) rfl ?_
    refine zg_iload_n 0 rfl d_X8_token_44 ?_
    refine zg_iconst (-1) rfl d_X8_token_45 ?_
    refine zg_icmp_ne d_X8_token_46 ?_ ?_
    · refine zg_aload_n 1 rfl d_X8_token_49 ?_
      refine zg_iconst 4 rfl d_X8_token_50 ?_
      refine zg_putV d_X8_token_51 zc_8 (by decide) fl_X8_170 rfl rfl rfl (fun h17 => ?_)
      refine zg_goto d_X8_token_54 ?_
      exact zg_vretK d_X8_token_225 rfl ⟨Nat.le_of_ble_eq_true rfl, Nat.le_of_ble_eq_true rfl⟩ (fun q => q)
    · refine zg_iload_n 0 rfl d_X8_token_57 ?_
      refine zg_cSi (As := [.int v16]) (rest := []) (0, 0) d_X8_token_58 cw_X8_173 wt_X8_isSmall rfl rfl (Nat.le_of_ble_eq_true rfl) (by decide) (by decide) ⟨by decide, by decide⟩ rfl (t_X8_isSmall v16 h15) (fun v19 h18 => ?_)
      refine zg_if_eq d_X8_token_61 ?_ ?_
      · refine zg_iload_n 0 rfl d_X8_token_145 ?_
        refine zg_cSi (As := [.int v16]) (rest := []) (0, 0) d_X8_token_146 cw_X8_186 wt_X8_isDigit rfl rfl (Nat.le_of_ble_eq_true rfl) (by decide) (by decide) ⟨by decide, by decide⟩ rfl (t_X8_isDigit v16 h18) (fun v21 h20 => ?_)
        refine zg_if_eq d_X8_token_149 ?_ ?_
        · refine zg_aload_n 1 rfl d_X8_token_220 ?_
          refine zg_iload_n 0 rfl d_X8_token_221 ?_
          refine zg_cVv (b := a0) (As := [.int v16]) (rest := []) (0, 0) d_X8_token_222 zc_8 rfl cw_X8_190 wi_X8_sign ws_X8_sign rfl rfl (Nat.le_of_ble_eq_true rfl) (by decide) (by decide) ⟨by decide, by decide⟩ rfl (t_X8_sign a0 v16 h20) (fun v23 h22 => ?_)
          exact zg_vretK d_X8_token_225 rfl ⟨Nat.le_of_ble_eq_true rfl, Nat.le_of_ble_eq_true rfl⟩ (fun q => q)
        · refine zg_aload_n 1 rfl d_X8_token_152 ?_
          refine zg_iconst 2 rfl d_X8_token_153 ?_
          refine zg_putV d_X8_token_154 zc_8 (by decide) fl_X8_170 rfl rfl rfl (fun h24 => ?_)
          refine zg_aload_n 1 rfl d_X8_token_157 ?_
          refine zg_iconst 0 rfl d_X8_token_158 ?_
          refine zg_putV d_X8_token_159 zc_8 (by decide) fl_X8_180 rfl rfl rfl (fun h25 => ?_)
          refine zg_bd (E := 225) (el := (fun (e28 : Unit) => [(0, .ref a0), (1, .int v16)])) (es := fun _ => []) (zg_sub [1, 0] rfl (zg_lp (el := (fun (s26 : Unit) => [(0, .ref a0), (1, .int v16)])) (fun s26 h27 => ?_) () h25)) (fun e28 h29 => ?_)
          · refine zg_aload_n 0 rfl d_X8_token_162 ?_
            refine zg_cVi (b := a0) (As := []) (rest := []) (0, 0) d_X8_token_163 zc_8 rfl cw_X8_163 wi_X8_here ws_X8_here rfl rfl (Nat.le_of_ble_eq_true rfl) (by decide) (by decide) ⟨by decide, by decide⟩ rfl (t_X8_here a0 h27) (fun v31 h30 => ?_)
            refine zg_cSi (As := [.int v31]) (rest := []) (0, 0) d_X8_token_166 cw_X8_186 wt_X8_isDigit rfl rfl (Nat.le_of_ble_eq_true rfl) (by decide) (by decide) ⟨by decide, by decide⟩ rfl (t_X8_isDigit v31 h30) (fun v33 h32 => ?_)
            refine zg_if_eq d_X8_token_169 ?_ ?_
            · exact zg_finK (E := 0) [0, 1] rfl rfl (fun q => q)
            · refine zg_aload_n 0 rfl d_X8_token_172 ?_
              refine zg_aload_n 0 rfl d_X8_token_173 ?_
              refine zg_getI d_X8_token_174 zc_8 (by decide) fl_X8_180 (fun v34 => ?_)
              refine zg_ldc kc_X8_189 d_X8_token_177 ?_
              refine zg_bd (E := 204) (el := (fun (e39 : Int32) => [(0, .ref a0), (1, .int v16)])) (es := (fun (e39 : Int32) => [.int e39, .ref a0])) ?_ (fun e39 h40 => ?_)
              · refine zg_icmp_le d_X8_token_179 ?_ ?_
                · refine zg_bipush 10 rfl d_X8_token_189 ?_
                  refine zg_aload_n 0 rfl d_X8_token_191 ?_
                  refine zg_getI d_X8_token_192 zc_8 (by decide) fl_X8_180 (fun v35 => ?_)
                  refine zg_imul d_X8_token_195 ?_
                  refine zg_aload_n 0 rfl d_X8_token_196 ?_
                  refine zg_cVi (b := a0) (As := []) (rest := [.int (10 * v35), .ref a0]) (0, 0) d_X8_token_197 zc_8 rfl cw_X8_163 wi_X8_here ws_X8_here rfl rfl (Nat.le_of_ble_eq_true rfl) (by decide) (by decide) ⟨by decide, by decide⟩ rfl (t_X8_here a0 h32) (fun v37 h36 => ?_)
                  refine zg_iadd d_X8_token_200 ?_
                  refine zg_bipush 48 rfl d_X8_token_201 ?_
                  refine zg_isub d_X8_token_203 ?_
                  exact zg_finK (E := 0) [0, 1] rfl rfl (fun q => q)
                · refine zg_aload_n 0 rfl d_X8_token_182 ?_
                  refine zg_getI d_X8_token_183 zc_8 (by decide) fl_X8_180 (fun v38 => ?_)
                  refine zg_goto d_X8_token_186 ?_
                  exact zg_finK (E := 0) [0, 1] rfl rfl (fun q => q)
              · refine zg_putV d_X8_token_204 zc_8 (by decide) fl_X8_180 rfl rfl rfl (fun h41 => ?_)
                refine zg_aload_n 0 rfl d_X8_token_207 ?_
                refine zg_dup rfl d_X8_token_208 ?_
                refine zg_getI d_X8_token_209 zc_8 (by decide) fl_X8_157 (fun v42 => ?_)
                refine zg_iconst 1 rfl d_X8_token_212 ?_
                refine zg_iadd d_X8_token_213 ?_
                refine zg_putV d_X8_token_214 zc_8 (by decide) fl_X8_157 rfl rfl rfl (fun h43 => ?_)
                refine zg_goto d_X8_token_217 ?_
                exact zg_finK (E := 0) [0, 1] rfl rfl (fun q => q)
          · exact zg_vretK d_X8_token_225 rfl ⟨Nat.le_of_ble_eq_true rfl, Nat.le_of_ble_eq_true rfl⟩ (fun q => q)
      · refine zg_bd (E := 87) (el := (fun (e46 : Unit) => [(0, .ref a0), (1, .int v16)])) (es := fun _ => []) (zg_sub [1, 0] rfl (zg_lp (el := (fun (s44 : Unit) => [(0, .ref a0), (1, .int v16)])) (fun s44 h45 => ?_) () h18)) (fun e46 h47 => ?_)
        · refine zg_aload_n 0 rfl d_X8_token_64 ?_
          refine zg_cVi (b := a0) (As := []) (rest := []) (0, 0) d_X8_token_65 zc_8 rfl cw_X8_163 wi_X8_here ws_X8_here rfl rfl (Nat.le_of_ble_eq_true rfl) (by decide) (by decide) ⟨by decide, by decide⟩ rfl (t_X8_here a0 h45) (fun v49 h48 => ?_)
          refine zg_cSi (As := [.int v49]) (rest := []) (0, 0) d_X8_token_68 cw_X8_173 wt_X8_isSmall rfl rfl (Nat.le_of_ble_eq_true rfl) (by decide) (by decide) ⟨by decide, by decide⟩ rfl (t_X8_isSmall v49 h48) (fun v51 h50 => ?_)
          refine zg_if_eq d_X8_token_71 ?_ ?_
          · exact zg_finK (E := 0) [0, 1] rfl rfl (fun q => q)
          · refine zg_aload_n 0 rfl d_X8_token_74 ?_
            refine zg_dup rfl d_X8_token_75 ?_
            refine zg_getI d_X8_token_76 zc_8 (by decide) fl_X8_157 (fun v52 => ?_)
            refine zg_iconst 1 rfl d_X8_token_79 ?_
            refine zg_iadd d_X8_token_80 ?_
            refine zg_putV d_X8_token_81 zc_8 (by decide) fl_X8_157 rfl rfl rfl (fun h53 => ?_)
            refine zg_goto d_X8_token_84 ?_
            exact zg_finK (E := 0) [0, 1] rfl rfl (fun q => q)
        · refine zg_aload_n 0 rfl d_X8_token_87 ?_
          refine zg_aload_n 0 rfl d_X8_token_88 ?_
          refine zg_cVi (b := a0) (As := []) (rest := [.ref a0]) (0, 0) d_X8_token_89 zc_8 rfl cw_X8_177 wi_X8_word ws_X8_word rfl rfl (Nat.le_of_ble_eq_true rfl) (by decide) (by decide) ⟨by decide, by decide⟩ rfl (t_X8_word a0 h47) (fun v55 h54 => ?_)
          refine zg_putV d_X8_token_92 zc_8 (by decide) fl_X8_180 rfl rfl rfl (fun h56 => ?_)
          refine zg_aload_n 0 rfl d_X8_token_95 ?_
          refine zg_aload_n 0 rfl d_X8_token_96 ?_
          refine zg_getI d_X8_token_97 zc_8 (by decide) fl_X8_180 (fun v57 => ?_)
          refine zg_iconst (-1) rfl d_X8_token_100 ?_
          refine zg_bd (E := 127) (el := (fun (e60 : Int32) => [(0, .ref a0), (1, .int v16)])) (es := (fun (e60 : Int32) => [.int e60, .ref a0])) ?_ (fun e60 h61 => ?_)
          · refine zg_icmp_eq d_X8_token_101 ?_ ?_
            · refine zg_aload_n 0 rfl d_X8_token_108 ?_
              refine zg_getI d_X8_token_109 zc_8 (by decide) fl_X8_157 (fun v58 => ?_)
              refine zg_aload_n 0 rfl d_X8_token_112 ?_
              refine zg_getI d_X8_token_113 zc_8 (by decide) fl_X8_167 (fun v59 => ?_)
              refine zg_isub d_X8_token_116 ?_
              refine zg_bipush 6 rfl d_X8_token_117 ?_
              refine zg_icmp_le d_X8_token_119 ?_ ?_
              · refine zg_iconst 1 rfl d_X8_token_126 ?_
                exact zg_finK (E := 0) [0, 1] rfl rfl (fun q => q)
              · refine zg_iconst 5 rfl d_X8_token_122 ?_
                refine zg_goto d_X8_token_123 ?_
                exact zg_finK (E := 0) [0, 1] rfl rfl (fun q => q)
            · refine zg_iconst 0 rfl d_X8_token_104 ?_
              refine zg_goto d_X8_token_105 ?_
              exact zg_finK (E := 0) [0, 1] rfl rfl (fun q => q)
          · refine zg_putV d_X8_token_127 zc_8 (by decide) fl_X8_170 rfl rfl rfl (fun h62 => ?_)
            refine zg_aload_n 0 rfl d_X8_token_130 ?_
            refine zg_getI d_X8_token_131 zc_8 (by decide) fl_X8_170 (fun v63 => ?_)
            refine zg_iconst 1 rfl d_X8_token_134 ?_
            refine zg_icmp_ne d_X8_token_135 ?_ ?_
            · refine zg_aload_n 0 rfl d_X8_token_138 ?_
              refine zg_cVv (b := a0) (As := []) (rest := []) (0, 0) d_X8_token_139 zc_8 rfl cw_X8_183 wi_X8_name ws_X8_name rfl rfl (Nat.le_of_ble_eq_true rfl) (by decide) (by decide) ⟨by decide, by decide⟩ rfl (t_X8_name a0 h62) (fun v65 h64 => ?_)
              refine zg_goto d_X8_token_142 ?_
              exact zg_vretK d_X8_token_225 rfl ⟨Nat.le_of_ble_eq_true rfl, Nat.le_of_ble_eq_true rfl⟩ (fun q => q)
            · exact zg_vretK d_X8_token_225 rfl ⟨Nat.le_of_ble_eq_true rfl, Nat.le_of_ble_eq_true rfl⟩ (fun q => q)
abbrev M_X8_numeral : zMt := (RX8, cX8_numeral, 4, 7, 245, (some .int), "numeral", 0, 0)
theorem d_X8_numeral_0 : zDc M_X8_numeral 0 (.aload_n 0) 1 1 := ⟨by decide +kernel, rfl⟩
theorem d_X8_numeral_1 : zDc M_X8_numeral 1 (.getfield 205) 3 4 := ⟨by decide +kernel, rfl⟩
theorem d_X8_numeral_4 : zDj M_X8_numeral 4 (.ifCond .eq 5) 5 7 9 := ⟨by decide +kernel, rfl, by decide⟩
theorem d_X8_numeral_7 : zDc M_X8_numeral 7 (.iload_n 1) 1 8 := ⟨by decide +kernel, rfl⟩
theorem d_X8_numeral_8 : zDc M_X8_numeral 8 (.ireturn) 1 9 := ⟨by decide +kernel, rfl⟩
theorem d_X8_numeral_9 : zDc M_X8_numeral 9 (.aload_n 0) 1 10 := ⟨by decide +kernel, rfl⟩
theorem d_X8_numeral_10 : zDc M_X8_numeral 10 (.getfield 170) 3 13 := ⟨by decide +kernel, rfl⟩
theorem d_X8_numeral_13 : zDc M_X8_numeral 13 (.iconst 2) 1 14 := ⟨by decide +kernel, rfl⟩
theorem d_X8_numeral_14 : zDj M_X8_numeral 14 (.if_icmp .eq 11) 11 17 25 := ⟨by decide +kernel, rfl, by decide⟩
theorem d_X8_numeral_17 : zDc M_X8_numeral 17 (.aload_n 0) 1 18 := ⟨by decide +kernel, rfl⟩
theorem d_X8_numeral_18 : zDc M_X8_numeral 18 (.iconst 1) 1 19 := ⟨by decide +kernel, rfl⟩
theorem d_X8_numeral_19 : zDc M_X8_numeral 19 (.invokevirtual 214) 3 22 := ⟨by decide +kernel, rfl⟩
theorem d_X8_numeral_22 : zDj M_X8_numeral 22 (.goto 24) 24 25 46 := ⟨by decide +kernel, rfl, by decide⟩
theorem d_X8_numeral_25 : zDc M_X8_numeral 25 (.aload_n 0) 1 26 := ⟨by decide +kernel, rfl⟩
theorem d_X8_numeral_26 : zDc M_X8_numeral 26 (.getfield 180) 3 29 := ⟨by decide +kernel, rfl⟩
theorem d_X8_numeral_29 : zDc M_X8_numeral 29 (.iload_n 1) 1 30 := ⟨by decide +kernel, rfl⟩
theorem d_X8_numeral_30 : zDj M_X8_numeral 30 (.if_icmp .lt 11) 11 33 41 := ⟨by decide +kernel, rfl, by decide⟩
theorem d_X8_numeral_33 : zDc M_X8_numeral 33 (.aload_n 0) 1 34 := ⟨by decide +kernel, rfl⟩
theorem d_X8_numeral_34 : zDc M_X8_numeral 34 (.getfield 180) 3 37 := ⟨by decide +kernel, rfl⟩
theorem d_X8_numeral_37 : zDc M_X8_numeral 37 (.iload_n 2) 1 38 := ⟨by decide +kernel, rfl⟩
theorem d_X8_numeral_38 : zDj M_X8_numeral 38 (.if_icmp .le 8) 8 41 46 := ⟨by decide +kernel, rfl, by decide⟩
theorem d_X8_numeral_41 : zDc M_X8_numeral 41 (.aload_n 0) 1 42 := ⟨by decide +kernel, rfl⟩
theorem d_X8_numeral_42 : zDc M_X8_numeral 42 (.iconst 2) 1 43 := ⟨by decide +kernel, rfl⟩
theorem d_X8_numeral_43 : zDc M_X8_numeral 43 (.invokevirtual 214) 3 46 := ⟨by decide +kernel, rfl⟩
theorem d_X8_numeral_46 : zDc M_X8_numeral 46 (.aload_n 0) 1 47 := ⟨by decide +kernel, rfl⟩
theorem d_X8_numeral_47 : zDc M_X8_numeral 47 (.getfield 205) 3 50 := ⟨by decide +kernel, rfl⟩
theorem d_X8_numeral_50 : zDj M_X8_numeral 50 (.ifCond .eq 5) 5 53 55 := ⟨by decide +kernel, rfl, by decide⟩
theorem d_X8_numeral_53 : zDc M_X8_numeral 53 (.iload_n 1) 1 54 := ⟨by decide +kernel, rfl⟩
theorem d_X8_numeral_54 : zDc M_X8_numeral 54 (.ireturn) 1 55 := ⟨by decide +kernel, rfl⟩
theorem d_X8_numeral_55 : zDc M_X8_numeral 55 (.aload_n 0) 1 56 := ⟨by decide +kernel, rfl⟩
theorem d_X8_numeral_56 : zDc M_X8_numeral 56 (.getfield 180) 3 59 := ⟨by decide +kernel, rfl⟩
theorem d_X8_numeral_59 : zDc M_X8_numeral 59 (.istore_n 3) 1 60 := ⟨by decide +kernel, rfl⟩
theorem d_X8_numeral_60 : zDc M_X8_numeral 60 (.aload_n 0) 1 61 := ⟨by decide +kernel, rfl⟩
theorem d_X8_numeral_61 : zDc M_X8_numeral 61 (.invokevirtual 211) 3 64 := ⟨by decide +kernel, rfl⟩
theorem d_X8_numeral_64 : zDc M_X8_numeral 64 (.iload_n 3) 1 65 := ⟨by decide +kernel, rfl⟩
theorem d_X8_numeral_65 : zDc M_X8_numeral 65 (.ireturn) 1 66 := ⟨by decide +kernel, rfl⟩
def f_X8_numeral (a0 : Nat) (a1 : Int32) (a2 : Int32) (h0 : zHp) : Option (Int32 × zHp) :=
  zob (zgI h0 a0 8 27) (fun v1 =>
  if v1 = 0 then
  zob (zgI h0 a0 8 25) (fun v2 =>
  zbd (α := Unit) (
  if v2 = 2 then
  zob (zgI h0 a0 8 26) (fun v3 =>
  zbd (α := (Unit ⊕ Unit)) (
  if v3 < a1 then
  some ((.inl ()), h0)
  else
  zob (zgI h0 a0 8 26) (fun v4 =>
  if v4 ≤ a2 then
  some ((.inr ()), h0)
  else
  some ((.inl ()), h0))) (fun b17 h6 => zsl b17 (fun e5 =>
  zbd (zcv 8 a0 h6 (f_X8_wrong a0 2 h6)) (fun v8 h7 =>
  some ((), h7))) (fun r => some (r, h6))))
  else
  zbd (zcv 8 a0 h0 (f_X8_wrong a0 1 h0)) (fun v10 h9 =>
  some ((), h9))) (fun e11 h12 =>
  zob (zgI h12 a0 8 27) (fun v13 =>
  if v13 = 0 then
  zob (zgI h12 a0 8 26) (fun v14 =>
  zbd (zcv 8 a0 h12 (f_X8_token a0 h12)) (fun v16 h15 =>
  some (v14, h15)))
  else
  some (a1, h12))))
  else
  some (a1, h0))
set_option maxRecDepth 100000 in
set_option maxHeartbeats 4000000 in
theorem t_X8_numeral (a0 : Nat) (a1 : Int32) (a2 : Int32) (h0 : zHp) : ∀ (r : Int32) (h' : zHp), f_X8_numeral a0 a1 a2 h0 = some (r, h') → zCt yX8_numeral (.code yX8_numeral cX8_numeral 4 (some .int)) 7 245 0 0 [.ref a0, .int a1, .int a2] h0 (some (.int r)) h' := by
  refine zct_of M_X8_numeral yX8_numeral (by decide) rfl rfl [.ref a0, .int a1, .int a2] h0 (Nat.le_of_ble_eq_true rfl) (fun r => some (.int r)) (fun X => ?_)
  show zG X M_X8_numeral (0, 0) 0 [(0, .ref a0), (1, .int a1), (2, .int a2)] [] h0 (f_X8_numeral a0 a1 a2 h0) (fun (r : Int32) h' => zKe X (some (.int r)) h')
  unfold f_X8_numeral
  refine zg_aload_n 0 rfl d_X8_numeral_0 ?_
  refine zg_getI d_X8_numeral_1 zc_8 (by decide) fl_X8_205 (fun v1 => ?_)
  refine zg_if_eq d_X8_numeral_4 ?_ ?_
  · refine zg_aload_n 0 rfl d_X8_numeral_9 ?_
    refine zg_getI d_X8_numeral_10 zc_8 (by decide) fl_X8_170 (fun v2 => ?_)
    refine zg_iconst 2 rfl d_X8_numeral_13 ?_
    refine zg_bd (E := 46) (el := (fun (e11 : Unit) => [(0, .ref a0), (1, .int a1), (2, .int a2)])) (es := (fun (e11 : Unit) => [])) ?_ (fun e11 h12 => ?_)
    · refine zg_icmp_eq d_X8_numeral_14 ?_ ?_
      · refine zg_aload_n 0 rfl d_X8_numeral_25 ?_
        refine zg_getI d_X8_numeral_26 zc_8 (by decide) fl_X8_180 (fun v3 => ?_)
        refine zg_iload_n 1 rfl d_X8_numeral_29 ?_
        refine zg_bdr (E := 41) (el := (fun (e5 : Unit) => [(0, .ref a0), (1, .int a1), (2, .int a2)])) (es := (fun (e5 : Unit) => [])) ?_ (fun e5 h6 => ?_)
        · refine zg_icmp_lt d_X8_numeral_30 ?_ ?_
          · exact zg_finK (E := 0) [0, 1, 2] rfl rfl (fun q => q)
          · refine zg_aload_n 0 rfl d_X8_numeral_33 ?_
            refine zg_getI d_X8_numeral_34 zc_8 (by decide) fl_X8_180 (fun v4 => ?_)
            refine zg_iload_n 2 rfl d_X8_numeral_37 ?_
            refine zg_icmp_le d_X8_numeral_38 ?_ ?_
            · exact zg_finK (E := 0) [0, 1, 2] rfl rfl (fun q => q)
            · exact zg_finK (E := 0) [0, 1, 2] rfl rfl (fun q => q)
        · refine zg_aload_n 0 rfl d_X8_numeral_41 ?_
          refine zg_iconst 2 rfl d_X8_numeral_42 ?_
          refine zg_cVv (b := a0) (As := [.int 2]) (rest := []) (0, 0) d_X8_numeral_43 zc_8 rfl cw_X8_214 wi_X8_wrong ws_X8_wrong rfl rfl (Nat.le_of_ble_eq_true rfl) (by decide) (by decide) ⟨by decide, by decide⟩ rfl (t_X8_wrong a0 2 h6) (fun v8 h7 => ?_)
          exact zg_finK (E := 0) [0, 1, 2] rfl rfl (fun q => q)
      · refine zg_aload_n 0 rfl d_X8_numeral_17 ?_
        refine zg_iconst 1 rfl d_X8_numeral_18 ?_
        refine zg_cVv (b := a0) (As := [.int 1]) (rest := []) (0, 0) d_X8_numeral_19 zc_8 rfl cw_X8_214 wi_X8_wrong ws_X8_wrong rfl rfl (Nat.le_of_ble_eq_true rfl) (by decide) (by decide) ⟨by decide, by decide⟩ rfl (t_X8_wrong a0 1 h0) (fun v10 h9 => ?_)
        refine zg_goto d_X8_numeral_22 ?_
        exact zg_finK (E := 0) [0, 1, 2] rfl rfl (fun q => q)
    · refine zg_aload_n 0 rfl d_X8_numeral_46 ?_
      refine zg_getI d_X8_numeral_47 zc_8 (by decide) fl_X8_205 (fun v13 => ?_)
      refine zg_if_eq d_X8_numeral_50 ?_ ?_
      · refine zg_aload_n 0 rfl d_X8_numeral_55 ?_
        refine zg_getI d_X8_numeral_56 zc_8 (by decide) fl_X8_180 (fun v14 => ?_)
        refine zg_istore_n [(3, .int v14), (0, .ref a0), (1, .int a1), (2, .int a2)] d_X8_numeral_59 rfl (by decide) rfl ?_
        refine zg_aload_n 1 rfl d_X8_numeral_60 ?_
        refine zg_cVv (b := a0) (As := []) (rest := []) (0, 0) d_X8_numeral_61 zc_8 rfl cw_X8_211 wi_X8_token ws_X8_token rfl rfl (Nat.le_of_ble_eq_true rfl) (by decide) (by decide) ⟨by decide, by decide⟩ rfl (t_X8_token a0 h12) (fun v16 h15 => ?_)
        refine zg_iload_n 0 rfl d_X8_numeral_64 ?_
        exact zg_iretK d_X8_numeral_65 rfl ⟨Nat.le_of_ble_eq_true rfl, Nat.le_of_ble_eq_true rfl⟩ (fun q => q)
      · refine zg_iload_n 1 rfl d_X8_numeral_53 ?_
        exact zg_iretK d_X8_numeral_54 rfl ⟨Nat.le_of_ble_eq_true rfl, Nat.le_of_ble_eq_true rfl⟩ (fun q => q)
  · refine zg_iload_n 1 rfl d_X8_numeral_7 ?_
    exact zg_iretK d_X8_numeral_8 rfl ⟨Nat.le_of_ble_eq_true rfl, Nat.le_of_ble_eq_true rfl⟩ (fun q => q)
abbrev M_X8_cellAhead : zMt := (RX8, cX8_cellAhead, 2, 8, 268, (some .int), "cellAhead", 0, 0)
theorem d_X8_cellAhead_0 : zDc M_X8_cellAhead 0 (.aload_n 0) 1 1 := ⟨by decide +kernel, rfl⟩
theorem d_X8_cellAhead_1 : zDc M_X8_cellAhead 1 (.iconst 0) 1 2 := ⟨by decide +kernel, rfl⟩
theorem d_X8_cellAhead_2 : zDc M_X8_cellAhead 2 (.iconst 5) 1 3 := ⟨by decide +kernel, rfl⟩
theorem d_X8_cellAhead_3 : zDc M_X8_cellAhead 3 (.invokevirtual 221) 3 6 := ⟨by decide +kernel, rfl⟩
theorem d_X8_cellAhead_6 : zDc M_X8_cellAhead 6 (.istore_n 1) 1 7 := ⟨by decide +kernel, rfl⟩
theorem d_X8_cellAhead_7 : zDc M_X8_cellAhead 7 (.bipush 6) 2 9 := ⟨by decide +kernel, rfl⟩
theorem d_X8_cellAhead_9 : zDc M_X8_cellAhead 9 (.aload_n 0) 1 10 := ⟨by decide +kernel, rfl⟩
theorem d_X8_cellAhead_10 : zDc M_X8_cellAhead 10 (.iconst 0) 1 11 := ⟨by decide +kernel, rfl⟩
theorem d_X8_cellAhead_11 : zDc M_X8_cellAhead 11 (.iconst 3) 1 12 := ⟨by decide +kernel, rfl⟩
theorem d_X8_cellAhead_12 : zDc M_X8_cellAhead 12 (.invokevirtual 221) 3 15 := ⟨by decide +kernel, rfl⟩
theorem d_X8_cellAhead_15 : zDc M_X8_cellAhead 15 (.imul) 1 16 := ⟨by decide +kernel, rfl⟩
theorem d_X8_cellAhead_16 : zDc M_X8_cellAhead 16 (.iload_n 1) 1 17 := ⟨by decide +kernel, rfl⟩
theorem d_X8_cellAhead_17 : zDc M_X8_cellAhead 17 (.iadd) 1 18 := ⟨by decide +kernel, rfl⟩
theorem d_X8_cellAhead_18 : zDc M_X8_cellAhead 18 (.ireturn) 1 19 := ⟨by decide +kernel, rfl⟩
def f_X8_cellAhead (a0 : Nat) (h0 : zHp) : Option (Int32 × zHp) :=
  zbd (zcv 8 a0 h0 (f_X8_numeral a0 0 5 h0)) (fun v2 h1 =>
  zbd (zcv 8 a0 h1 (f_X8_numeral a0 0 3 h1)) (fun v4 h3 =>
  some (((6 * v4) + v2), h3)))
set_option maxRecDepth 100000 in
set_option maxHeartbeats 4000000 in
theorem t_X8_cellAhead (a0 : Nat) (h0 : zHp) : ∀ (r : Int32) (h' : zHp), f_X8_cellAhead a0 h0 = some (r, h') → zCt yX8_cellAhead (.code yX8_cellAhead cX8_cellAhead 2 (some .int)) 8 268 0 0 [.ref a0] h0 (some (.int r)) h' := by
  refine zct_of M_X8_cellAhead yX8_cellAhead (by decide) rfl rfl [.ref a0] h0 (Nat.le_of_ble_eq_true rfl) (fun r => some (.int r)) (fun X => ?_)
  show zG X M_X8_cellAhead (0, 0) 0 [(0, .ref a0)] [] h0 (f_X8_cellAhead a0 h0) (fun (r : Int32) h' => zKe X (some (.int r)) h')
  unfold f_X8_cellAhead
  refine zg_aload_n 0 rfl d_X8_cellAhead_0 ?_
  refine zg_iconst 0 rfl d_X8_cellAhead_1 ?_
  refine zg_iconst 5 rfl d_X8_cellAhead_2 ?_
  refine zg_cVi (b := a0) (As := [.int 0, .int 5]) (rest := []) (0, 0) d_X8_cellAhead_3 zc_8 rfl cw_X8_221 wi_X8_numeral ws_X8_numeral rfl rfl (Nat.le_of_ble_eq_true rfl) (by decide) (by decide) ⟨by decide, by decide⟩ rfl (t_X8_numeral a0 0 5 h0) (fun v2 h1 => ?_)
  refine zg_istore_n [(1, .int v2), (0, .ref a0)] d_X8_cellAhead_6 rfl (by decide) rfl ?_
  refine zg_bipush 6 rfl d_X8_cellAhead_7 ?_
  refine zg_aload_n 1 rfl d_X8_cellAhead_9 ?_
  refine zg_iconst 0 rfl d_X8_cellAhead_10 ?_
  refine zg_iconst 3 rfl d_X8_cellAhead_11 ?_
  refine zg_cVi (b := a0) (As := [.int 0, .int 3]) (rest := [.int 6]) (0, 0) d_X8_cellAhead_12 zc_8 rfl cw_X8_221 wi_X8_numeral ws_X8_numeral rfl rfl (Nat.le_of_ble_eq_true rfl) (by decide) (by decide) ⟨by decide, by decide⟩ rfl (t_X8_numeral a0 0 3 h1) (fun v4 h3 => ?_)
  refine zg_imul d_X8_cellAhead_15 ?_
  refine zg_iload_n 0 rfl d_X8_cellAhead_16 ?_
  refine zg_iadd d_X8_cellAhead_17 ?_
  exact zg_iretK d_X8_cellAhead_18 rfl ⟨Nat.le_of_ble_eq_true rfl, Nat.le_of_ble_eq_true rfl⟩ (fun q => q)
abbrev M_X8_goOn : zMt := (RX8, cX8_goOn, 1, 7, 245, none, "goOn", 0, 0)
theorem d_X8_goOn_0 : zDc M_X8_goOn 0 (.aload_n 0) 1 1 := ⟨by decide +kernel, rfl⟩
theorem d_X8_goOn_1 : zDc M_X8_goOn 1 (.getfield 205) 3 4 := ⟨by decide +kernel, rfl⟩
theorem d_X8_goOn_4 : zDj M_X8_goOn 4 (.ifCond .ne 7) 7 7 11 := ⟨by decide +kernel, rfl, by decide⟩
theorem d_X8_goOn_7 : zDc M_X8_goOn 7 (.aload_n 0) 1 8 := ⟨by decide +kernel, rfl⟩
theorem d_X8_goOn_8 : zDc M_X8_goOn 8 (.invokevirtual 211) 3 11 := ⟨by decide +kernel, rfl⟩
theorem d_X8_goOn_11 : zDc M_X8_goOn 11 (.return_) 1 12 := ⟨by decide +kernel, rfl⟩
def f_X8_goOn (a0 : Nat) (h0 : zHp) : Option (Unit × zHp) :=
  zob (zgI h0 a0 8 27) (fun v1 =>
  if v1 = 0 then
  zbd (zcv 8 a0 h0 (f_X8_token a0 h0)) (fun v3 h2 =>
  some ((), h2))
  else
  some ((), h0))
set_option maxRecDepth 100000 in
set_option maxHeartbeats 4000000 in
theorem t_X8_goOn (a0 : Nat) (h0 : zHp) : ∀ (r : Unit) (h' : zHp), f_X8_goOn a0 h0 = some (r, h') → zCt yX8_goOn (.code yX8_goOn cX8_goOn 1 none) 7 245 0 0 [.ref a0] h0 (none) h' := by
  refine zct_of M_X8_goOn yX8_goOn (by decide) rfl rfl [.ref a0] h0 (Nat.le_of_ble_eq_true rfl) (fun _ => none) (fun X => ?_)
  show zG X M_X8_goOn (0, 0) 0 [(0, .ref a0)] [] h0 (f_X8_goOn a0 h0) (fun (_ : Unit) h' => zKe X (none) h')
  unfold f_X8_goOn
  refine zg_aload_n 0 rfl d_X8_goOn_0 ?_
  refine zg_getI d_X8_goOn_1 zc_8 (by decide) fl_X8_205 (fun v1 => ?_)
  refine zg_if_ne d_X8_goOn_4 ?_ ?_
  · refine zg_aload_n 0 rfl d_X8_goOn_7 ?_
    refine zg_cVv (b := a0) (As := []) (rest := []) (0, 0) d_X8_goOn_8 zc_8 rfl cw_X8_211 wi_X8_token ws_X8_token rfl rfl (Nat.le_of_ble_eq_true rfl) (by decide) (by decide) ⟨by decide, by decide⟩ rfl (t_X8_token a0 h0) (fun v3 h2 => ?_)
    exact zg_vretK d_X8_goOn_11 rfl ⟨Nat.le_of_ble_eq_true rfl, Nat.le_of_ble_eq_true rfl⟩ (fun q => q)
  · exact zg_vretK d_X8_goOn_11 rfl ⟨Nat.le_of_ble_eq_true rfl, Nat.le_of_ble_eq_true rfl⟩ (fun q => q)
abbrev M_X8_fresh : zMt := (RX8, cX8_fresh, 5, 7, 245, (some .int), "fresh", 0, 0)
theorem d_X8_fresh_0 : zDc M_X8_fresh 0 (.aload_n 0) 1 1 := ⟨by decide +kernel, rfl⟩
theorem d_X8_fresh_1 : zDc M_X8_fresh 1 (.getfield 205) 3 4 := ⟨by decide +kernel, rfl⟩
theorem d_X8_fresh_4 : zDj M_X8_fresh 4 (.ifCond .eq 5) 5 7 9 := ⟨by decide +kernel, rfl, by decide⟩
theorem d_X8_fresh_7 : zDc M_X8_fresh 7 (.iconst 0) 1 8 := ⟨by decide +kernel, rfl⟩
theorem d_X8_fresh_8 : zDc M_X8_fresh 8 (.ireturn) 1 9 := ⟨by decide +kernel, rfl⟩
theorem d_X8_fresh_9 : zDc M_X8_fresh 9 (.aload_n 0) 1 10 := ⟨by decide +kernel, rfl⟩
theorem d_X8_fresh_10 : zDc M_X8_fresh 10 (.getfield 170) 3 13 := ⟨by decide +kernel, rfl⟩
theorem d_X8_fresh_13 : zDc M_X8_fresh 13 (.iconst 1) 1 14 := ⟨by decide +kernel, rfl⟩
theorem d_X8_fresh_14 : zDj M_X8_fresh 14 (.if_icmp .eq 11) 11 17 25 := ⟨by decide +kernel, rfl, by decide⟩
theorem d_X8_fresh_17 : zDc M_X8_fresh 17 (.aload_n 0) 1 18 := ⟨by decide +kernel, rfl⟩
theorem d_X8_fresh_18 : zDc M_X8_fresh 18 (.iconst 1) 1 19 := ⟨by decide +kernel, rfl⟩
theorem d_X8_fresh_19 : zDc M_X8_fresh 19 (.invokevirtual 214) 3 22 := ⟨by decide +kernel, rfl⟩
theorem d_X8_fresh_22 : zDj M_X8_fresh 22 (.goto 22) 22 25 44 := ⟨by decide +kernel, rfl, by decide⟩
theorem d_X8_fresh_25 : zDc M_X8_fresh 25 (.aload_n 1) 1 26 := ⟨by decide +kernel, rfl⟩
theorem d_X8_fresh_26 : zDc M_X8_fresh 26 (.iload_n 2) 1 27 := ⟨by decide +kernel, rfl⟩
theorem d_X8_fresh_27 : zDc M_X8_fresh 27 (.iload_n 3) 1 28 := ⟨by decide +kernel, rfl⟩
theorem d_X8_fresh_28 : zDc M_X8_fresh 28 (.aload_n 0) 1 29 := ⟨by decide +kernel, rfl⟩
theorem d_X8_fresh_29 : zDc M_X8_fresh 29 (.getfield 180) 3 32 := ⟨by decide +kernel, rfl⟩
theorem d_X8_fresh_32 : zDc M_X8_fresh 32 (.invokestatic 217) 3 35 := ⟨by decide +kernel, rfl⟩
theorem d_X8_fresh_35 : zDc M_X8_fresh 35 (.iconst (-1)) 1 36 := ⟨by decide +kernel, rfl⟩
theorem d_X8_fresh_36 : zDj M_X8_fresh 36 (.if_icmp .eq 8) 8 39 44 := ⟨by decide +kernel, rfl, by decide⟩
theorem d_X8_fresh_39 : zDc M_X8_fresh 39 (.aload_n 0) 1 40 := ⟨by decide +kernel, rfl⟩
theorem d_X8_fresh_40 : zDc M_X8_fresh 40 (.iconst 3) 1 41 := ⟨by decide +kernel, rfl⟩
theorem d_X8_fresh_41 : zDc M_X8_fresh 41 (.invokevirtual 214) 3 44 := ⟨by decide +kernel, rfl⟩
theorem d_X8_fresh_44 : zDc M_X8_fresh 44 (.aload_n 0) 1 45 := ⟨by decide +kernel, rfl⟩
theorem d_X8_fresh_45 : zDc M_X8_fresh 45 (.getfield 205) 3 48 := ⟨by decide +kernel, rfl⟩
theorem d_X8_fresh_48 : zDj M_X8_fresh 48 (.ifCond .eq 5) 5 51 53 := ⟨by decide +kernel, rfl, by decide⟩
theorem d_X8_fresh_51 : zDc M_X8_fresh 51 (.iconst 0) 1 52 := ⟨by decide +kernel, rfl⟩
theorem d_X8_fresh_52 : zDc M_X8_fresh 52 (.ireturn) 1 53 := ⟨by decide +kernel, rfl⟩
theorem d_X8_fresh_53 : zDc M_X8_fresh 53 (.aload_n 0) 1 54 := ⟨by decide +kernel, rfl⟩
theorem d_X8_fresh_54 : zDc M_X8_fresh 54 (.getfield 180) 3 57 := ⟨by decide +kernel, rfl⟩
theorem d_X8_fresh_57 : zDc M_X8_fresh 57 (.istore 4) 2 59 := ⟨by decide +kernel, rfl⟩
theorem d_X8_fresh_59 : zDc M_X8_fresh 59 (.aload_n 0) 1 60 := ⟨by decide +kernel, rfl⟩
theorem d_X8_fresh_60 : zDc M_X8_fresh 60 (.invokevirtual 211) 3 63 := ⟨by decide +kernel, rfl⟩
theorem d_X8_fresh_63 : zDc M_X8_fresh 63 (.iload 4) 2 65 := ⟨by decide +kernel, rfl⟩
theorem d_X8_fresh_65 : zDc M_X8_fresh 65 (.ireturn) 1 66 := ⟨by decide +kernel, rfl⟩
def f_X8_fresh (a0 : Nat) (a1 : Nat) (a2 : Int32) (a3 : Int32) (h0 : zHp) : Option (Int32 × zHp) :=
  zob (zgI h0 a0 8 27) (fun v1 =>
  if v1 = 0 then
  zob (zgI h0 a0 8 25) (fun v2 =>
  zbd (α := Unit) (
  if v2 = 1 then
  zob (zgI h0 a0 8 26) (fun v3 =>
  zbd ((f_X8_found a1 a2 a3 v3 h0)) (fun v5 h4 =>
  if v5 = (-1) then
  some ((), h4)
  else
  zbd (zcv 8 a0 h4 (f_X8_wrong a0 3 h4)) (fun v7 h6 =>
  some ((), h6))))
  else
  zbd (zcv 8 a0 h0 (f_X8_wrong a0 1 h0)) (fun v9 h8 =>
  some ((), h8))) (fun e10 h11 =>
  zob (zgI h11 a0 8 27) (fun v12 =>
  if v12 = 0 then
  zob (zgI h11 a0 8 26) (fun v13 =>
  zbd (zcv 8 a0 h11 (f_X8_token a0 h11)) (fun v15 h14 =>
  some (v13, h14)))
  else
  some (0, h11))))
  else
  some (0, h0))
set_option maxRecDepth 100000 in
set_option maxHeartbeats 4000000 in
theorem t_X8_fresh (a0 : Nat) (a1 : Nat) (a2 : Int32) (a3 : Int32) (h0 : zHp) : ∀ (r : Int32) (h' : zHp), f_X8_fresh a0 a1 a2 a3 h0 = some (r, h') → zCt yX8_fresh (.code yX8_fresh cX8_fresh 5 (some .int)) 7 245 0 0 [.ref a0, .ref a1, .int a2, .int a3] h0 (some (.int r)) h' := by
  refine zct_of M_X8_fresh yX8_fresh (by decide) rfl rfl [.ref a0, .ref a1, .int a2, .int a3] h0 (Nat.le_of_ble_eq_true rfl) (fun r => some (.int r)) (fun X => ?_)
  show zG X M_X8_fresh (0, 0) 0 [(0, .ref a0), (1, .ref a1), (2, .int a2), (3, .int a3)] [] h0 (f_X8_fresh a0 a1 a2 a3 h0) (fun (r : Int32) h' => zKe X (some (.int r)) h')
  unfold f_X8_fresh
  refine zg_aload_n 0 rfl d_X8_fresh_0 ?_
  refine zg_getI d_X8_fresh_1 zc_8 (by decide) fl_X8_205 (fun v1 => ?_)
  refine zg_if_eq d_X8_fresh_4 ?_ ?_
  · refine zg_aload_n 0 rfl d_X8_fresh_9 ?_
    refine zg_getI d_X8_fresh_10 zc_8 (by decide) fl_X8_170 (fun v2 => ?_)
    refine zg_iconst 1 rfl d_X8_fresh_13 ?_
    refine zg_bd (E := 44) (el := (fun (e10 : Unit) => [(0, .ref a0), (1, .ref a1), (2, .int a2), (3, .int a3)])) (es := (fun (e10 : Unit) => [])) ?_ (fun e10 h11 => ?_)
    · refine zg_icmp_eq d_X8_fresh_14 ?_ ?_
      · refine zg_aload_n 1 rfl d_X8_fresh_25 ?_
        refine zg_iload_n 2 rfl d_X8_fresh_26 ?_
        refine zg_iload_n 3 rfl d_X8_fresh_27 ?_
        refine zg_aload_n 0 rfl d_X8_fresh_28 ?_
        refine zg_getI d_X8_fresh_29 zc_8 (by decide) fl_X8_180 (fun v3 => ?_)
        refine zg_cSi (As := [.ref a1, .int a2, .int a3, .int v3]) (rest := []) (0, 0) d_X8_fresh_32 cw_X8_217 wt_X8_found rfl rfl (Nat.le_of_ble_eq_true rfl) (by decide) (by decide) ⟨by decide, by decide⟩ rfl (t_X8_found a1 a2 a3 v3 h0) (fun v5 h4 => ?_)
        refine zg_iconst (-1) rfl d_X8_fresh_35 ?_
        refine zg_icmp_eq d_X8_fresh_36 ?_ ?_
        · exact zg_finK (E := 0) [0, 1, 2, 3] rfl rfl (fun q => q)
        · refine zg_aload_n 0 rfl d_X8_fresh_39 ?_
          refine zg_iconst 3 rfl d_X8_fresh_40 ?_
          refine zg_cVv (b := a0) (As := [.int 3]) (rest := []) (0, 0) d_X8_fresh_41 zc_8 rfl cw_X8_214 wi_X8_wrong ws_X8_wrong rfl rfl (Nat.le_of_ble_eq_true rfl) (by decide) (by decide) ⟨by decide, by decide⟩ rfl (t_X8_wrong a0 3 h4) (fun v7 h6 => ?_)
          exact zg_finK (E := 0) [0, 1, 2, 3] rfl rfl (fun q => q)
      · refine zg_aload_n 0 rfl d_X8_fresh_17 ?_
        refine zg_iconst 1 rfl d_X8_fresh_18 ?_
        refine zg_cVv (b := a0) (As := [.int 1]) (rest := []) (0, 0) d_X8_fresh_19 zc_8 rfl cw_X8_214 wi_X8_wrong ws_X8_wrong rfl rfl (Nat.le_of_ble_eq_true rfl) (by decide) (by decide) ⟨by decide, by decide⟩ rfl (t_X8_wrong a0 1 h0) (fun v9 h8 => ?_)
        refine zg_goto d_X8_fresh_22 ?_
        exact zg_finK (E := 0) [0, 1, 2, 3] rfl rfl (fun q => q)
    · refine zg_aload_n 0 rfl d_X8_fresh_44 ?_
      refine zg_getI d_X8_fresh_45 zc_8 (by decide) fl_X8_205 (fun v12 => ?_)
      refine zg_if_eq d_X8_fresh_48 ?_ ?_
      · refine zg_aload_n 0 rfl d_X8_fresh_53 ?_
        refine zg_getI d_X8_fresh_54 zc_8 (by decide) fl_X8_180 (fun v13 => ?_)
        refine zg_istore [(4, .int v13), (0, .ref a0), (1, .ref a1), (2, .int a2), (3, .int a3)] d_X8_fresh_57 (by decide) rfl ?_
        refine zg_aload_n 1 rfl d_X8_fresh_59 ?_
        refine zg_cVv (b := a0) (As := []) (rest := []) (0, 0) d_X8_fresh_60 zc_8 rfl cw_X8_211 wi_X8_token ws_X8_token rfl rfl (Nat.le_of_ble_eq_true rfl) (by decide) (by decide) ⟨by decide, by decide⟩ rfl (t_X8_token a0 h11) (fun v15 h14 => ?_)
        refine zg_iload 0 rfl d_X8_fresh_63 ?_
        exact zg_iretK d_X8_fresh_65 rfl ⟨Nat.le_of_ble_eq_true rfl, Nat.le_of_ble_eq_true rfl⟩ (fun q => q)
      · refine zg_iconst 0 rfl d_X8_fresh_51 ?_
        exact zg_iretK d_X8_fresh_52 rfl ⟨Nat.le_of_ble_eq_true rfl, Nat.le_of_ble_eq_true rfl⟩ (fun q => q)
  · refine zg_iconst 0 rfl d_X8_fresh_7 ?_
    exact zg_iretK d_X8_fresh_8 rfl ⟨Nat.le_of_ble_eq_true rfl, Nat.le_of_ble_eq_true rfl⟩ (fun q => q)
abbrev M_X8_groundLine : zMt := (RX8, cX8_groundLine, 3, 8, 268, none, "groundLine", 0, 0)
theorem d_X8_groundLine_0 : zDc M_X8_groundLine 0 (.aload_n 0) 1 1 := ⟨by decide +kernel, rfl⟩
theorem d_X8_groundLine_1 : zDc M_X8_groundLine 1 (.iconst 0) 1 2 := ⟨by decide +kernel, rfl⟩
theorem d_X8_groundLine_2 : zDc M_X8_groundLine 2 (.iconst 5) 1 3 := ⟨by decide +kernel, rfl⟩
theorem d_X8_groundLine_3 : zDc M_X8_groundLine 3 (.invokevirtual 221) 3 6 := ⟨by decide +kernel, rfl⟩
theorem d_X8_groundLine_6 : zDc M_X8_groundLine 6 (.istore_n 2) 1 7 := ⟨by decide +kernel, rfl⟩
theorem d_X8_groundLine_7 : zDc M_X8_groundLine 7 (.aload_n 0) 1 8 := ⟨by decide +kernel, rfl⟩
theorem d_X8_groundLine_8 : zDc M_X8_groundLine 8 (.getfield 205) 3 11 := ⟨by decide +kernel, rfl⟩
theorem d_X8_groundLine_11 : zDj M_X8_groundLine 11 (.ifCond .eq 4) 4 14 15 := ⟨by decide +kernel, rfl, by decide⟩
theorem d_X8_groundLine_14 : zDc M_X8_groundLine 14 (.return_) 1 15 := ⟨by decide +kernel, rfl⟩
theorem d_X8_groundLine_15 : zDc M_X8_groundLine 15 (.aload_n 0) 1 16 := ⟨by decide +kernel, rfl⟩
theorem d_X8_groundLine_16 : zDc M_X8_groundLine 16 (.getfield 170) 3 19 := ⟨by decide +kernel, rfl⟩
theorem d_X8_groundLine_19 : zDc M_X8_groundLine 19 (.iconst 2) 1 20 := ⟨by decide +kernel, rfl⟩
theorem d_X8_groundLine_20 : zDj M_X8_groundLine 20 (.if_icmp .eq 11) 11 23 31 := ⟨by decide +kernel, rfl, by decide⟩
theorem d_X8_groundLine_23 : zDc M_X8_groundLine 23 (.aload_n 0) 1 24 := ⟨by decide +kernel, rfl⟩
theorem d_X8_groundLine_24 : zDc M_X8_groundLine 24 (.iconst 1) 1 25 := ⟨by decide +kernel, rfl⟩
theorem d_X8_groundLine_25 : zDc M_X8_groundLine 25 (.invokevirtual 214) 3 28 := ⟨by decide +kernel, rfl⟩
theorem d_X8_groundLine_28 : zDj M_X8_groundLine 28 (.goto 44) 44 31 72 := ⟨by decide +kernel, rfl, by decide⟩
theorem d_X8_groundLine_31 : zDc M_X8_groundLine 31 (.aload_n 0) 1 32 := ⟨by decide +kernel, rfl⟩
theorem d_X8_groundLine_32 : zDc M_X8_groundLine 32 (.getfield 180) 3 35 := ⟨by decide +kernel, rfl⟩
theorem d_X8_groundLine_35 : zDc M_X8_groundLine 35 (.iconst 3) 1 36 := ⟨by decide +kernel, rfl⟩
theorem d_X8_groundLine_36 : zDj M_X8_groundLine 36 (.if_icmp .le 11) 11 39 47 := ⟨by decide +kernel, rfl, by decide⟩
theorem d_X8_groundLine_39 : zDc M_X8_groundLine 39 (.aload_n 0) 1 40 := ⟨by decide +kernel, rfl⟩
theorem d_X8_groundLine_40 : zDc M_X8_groundLine 40 (.iconst 2) 1 41 := ⟨by decide +kernel, rfl⟩
theorem d_X8_groundLine_41 : zDc M_X8_groundLine 41 (.invokevirtual 214) 3 44 := ⟨by decide +kernel, rfl⟩
theorem d_X8_groundLine_44 : zDj M_X8_groundLine 44 (.goto 28) 28 47 72 := ⟨by decide +kernel, rfl, by decide⟩
theorem d_X8_groundLine_47 : zDc M_X8_groundLine 47 (.aload_n 0) 1 48 := ⟨by decide +kernel, rfl⟩
theorem d_X8_groundLine_48 : zDc M_X8_groundLine 48 (.getfield 16) 3 51 := ⟨by decide +kernel, rfl⟩
theorem d_X8_groundLine_51 : zDc M_X8_groundLine 51 (.bipush 24) 2 53 := ⟨by decide +kernel, rfl⟩
theorem d_X8_groundLine_53 : zDc M_X8_groundLine 53 (.bipush 6) 2 55 := ⟨by decide +kernel, rfl⟩
theorem d_X8_groundLine_55 : zDc M_X8_groundLine 55 (.aload_n 0) 1 56 := ⟨by decide +kernel, rfl⟩
theorem d_X8_groundLine_56 : zDc M_X8_groundLine 56 (.getfield 180) 3 59 := ⟨by decide +kernel, rfl⟩
theorem d_X8_groundLine_59 : zDc M_X8_groundLine 59 (.imul) 1 60 := ⟨by decide +kernel, rfl⟩
theorem d_X8_groundLine_60 : zDc M_X8_groundLine 60 (.iadd) 1 61 := ⟨by decide +kernel, rfl⟩
theorem d_X8_groundLine_61 : zDc M_X8_groundLine 61 (.iload_n 2) 1 62 := ⟨by decide +kernel, rfl⟩
theorem d_X8_groundLine_62 : zDc M_X8_groundLine 62 (.iadd) 1 63 := ⟨by decide +kernel, rfl⟩
theorem d_X8_groundLine_63 : zDc M_X8_groundLine 63 (.iaload) 1 64 := ⟨by decide +kernel, rfl⟩
theorem d_X8_groundLine_64 : zDj M_X8_groundLine 64 (.ifCond .le 8) 8 67 72 := ⟨by decide +kernel, rfl, by decide⟩
theorem d_X8_groundLine_67 : zDc M_X8_groundLine 67 (.aload_n 0) 1 68 := ⟨by decide +kernel, rfl⟩
theorem d_X8_groundLine_68 : zDc M_X8_groundLine 68 (.iconst 3) 1 69 := ⟨by decide +kernel, rfl⟩
theorem d_X8_groundLine_69 : zDc M_X8_groundLine 69 (.invokevirtual 214) 3 72 := ⟨by decide +kernel, rfl⟩
theorem d_X8_groundLine_72 : zDc M_X8_groundLine 72 (.aload_n 0) 1 73 := ⟨by decide +kernel, rfl⟩
theorem d_X8_groundLine_73 : zDc M_X8_groundLine 73 (.getfield 205) 3 76 := ⟨by decide +kernel, rfl⟩
theorem d_X8_groundLine_76 : zDj M_X8_groundLine 76 (.ifCond .eq 4) 4 79 80 := ⟨by decide +kernel, rfl, by decide⟩
theorem d_X8_groundLine_79 : zDc M_X8_groundLine 79 (.return_) 1 80 := ⟨by decide +kernel, rfl⟩
theorem d_X8_groundLine_80 : zDc M_X8_groundLine 80 (.aload_n 0) 1 81 := ⟨by decide +kernel, rfl⟩
theorem d_X8_groundLine_81 : zDc M_X8_groundLine 81 (.getfield 16) 3 84 := ⟨by decide +kernel, rfl⟩
theorem d_X8_groundLine_84 : zDc M_X8_groundLine 84 (.bipush 24) 2 86 := ⟨by decide +kernel, rfl⟩
theorem d_X8_groundLine_86 : zDc M_X8_groundLine 86 (.bipush 6) 2 88 := ⟨by decide +kernel, rfl⟩
theorem d_X8_groundLine_88 : zDc M_X8_groundLine 88 (.aload_n 0) 1 89 := ⟨by decide +kernel, rfl⟩
theorem d_X8_groundLine_89 : zDc M_X8_groundLine 89 (.getfield 180) 3 92 := ⟨by decide +kernel, rfl⟩
theorem d_X8_groundLine_92 : zDc M_X8_groundLine 92 (.imul) 1 93 := ⟨by decide +kernel, rfl⟩
theorem d_X8_groundLine_93 : zDc M_X8_groundLine 93 (.iadd) 1 94 := ⟨by decide +kernel, rfl⟩
theorem d_X8_groundLine_94 : zDc M_X8_groundLine 94 (.iload_n 2) 1 95 := ⟨by decide +kernel, rfl⟩
theorem d_X8_groundLine_95 : zDc M_X8_groundLine 95 (.iadd) 1 96 := ⟨by decide +kernel, rfl⟩
theorem d_X8_groundLine_96 : zDc M_X8_groundLine 96 (.iload_n 1) 1 97 := ⟨by decide +kernel, rfl⟩
theorem d_X8_groundLine_97 : zDc M_X8_groundLine 97 (.iastore) 1 98 := ⟨by decide +kernel, rfl⟩
theorem d_X8_groundLine_98 : zDc M_X8_groundLine 98 (.aload_n 0) 1 99 := ⟨by decide +kernel, rfl⟩
theorem d_X8_groundLine_99 : zDc M_X8_groundLine 99 (.invokevirtual 211) 3 102 := ⟨by decide +kernel, rfl⟩
theorem d_X8_groundLine_102 : zDc M_X8_groundLine 102 (.return_) 1 103 := ⟨by decide +kernel, rfl⟩
def f_X8_groundLine (a0 : Nat) (a1 : Int32) (h0 : zHp) : Option (Unit × zHp) :=
  zbd (zcv 8 a0 h0 (f_X8_numeral a0 0 5 h0)) (fun v2 h1 =>
  zob (zgI h1 a0 8 27) (fun v3 =>
  if v3 = 0 then
  zob (zgI h1 a0 8 25) (fun v4 =>
  zbd (α := Unit) (
  if v4 = 2 then
  zob (zgI h1 a0 8 26) (fun v5 =>
  if v5 ≤ 3 then
  zob (zgR h1 a0 8 4) (fun v6 =>
  zob (zgI h1 a0 8 26) (fun v7 =>
  zob (zaI 0 h1 v6 ((24 + (6 * v7)) + v2)) (fun v8 =>
  if v8 ≤ 0 then
  some ((), h1)
  else
  zbd (zcv 8 a0 h1 (f_X8_wrong a0 3 h1)) (fun v10 h9 =>
  some ((), h9)))))
  else
  zbd (zcv 8 a0 h1 (f_X8_wrong a0 2 h1)) (fun v12 h11 =>
  some ((), h11)))
  else
  zbd (zcv 8 a0 h1 (f_X8_wrong a0 1 h1)) (fun v14 h13 =>
  some ((), h13))) (fun e15 h16 =>
  zob (zgI h16 a0 8 27) (fun v17 =>
  if v17 = 0 then
  zob (zgR h16 a0 8 4) (fun v18 =>
  zob (zgI h16 a0 8 26) (fun v19 =>
  zob (zsI 0 h16 v18 ((24 + (6 * v19)) + v2) a1) (fun h20 =>
  zbd (zcv 8 a0 h20 (f_X8_token a0 h20)) (fun v22 h21 =>
  some ((), h21)))))
  else
  some ((), h16))))
  else
  some ((), h1)))
set_option maxRecDepth 100000 in
set_option maxHeartbeats 4000000 in
theorem t_X8_groundLine (a0 : Nat) (a1 : Int32) (h0 : zHp) : ∀ (r : Unit) (h' : zHp), f_X8_groundLine a0 a1 h0 = some (r, h') → zCt yX8_groundLine (.code yX8_groundLine cX8_groundLine 3 none) 8 268 0 0 [.ref a0, .int a1] h0 (none) h' := by
  refine zct_of M_X8_groundLine yX8_groundLine (by decide) rfl rfl [.ref a0, .int a1] h0 (Nat.le_of_ble_eq_true rfl) (fun _ => none) (fun X => ?_)
  show zG X M_X8_groundLine (0, 0) 0 [(0, .ref a0), (1, .int a1)] [] h0 (f_X8_groundLine a0 a1 h0) (fun (_ : Unit) h' => zKe X (none) h')
  unfold f_X8_groundLine
  refine zg_aload_n 0 rfl d_X8_groundLine_0 ?_
  refine zg_iconst 0 rfl d_X8_groundLine_1 ?_
  refine zg_iconst 5 rfl d_X8_groundLine_2 ?_
  refine zg_cVi (b := a0) (As := [.int 0, .int 5]) (rest := []) (0, 0) d_X8_groundLine_3 zc_8 rfl cw_X8_221 wi_X8_numeral ws_X8_numeral rfl rfl (Nat.le_of_ble_eq_true rfl) (by decide) (by decide) ⟨by decide, by decide⟩ rfl (t_X8_numeral a0 0 5 h0) (fun v2 h1 => ?_)
  refine zg_istore_n [(2, .int v2), (0, .ref a0), (1, .int a1)] d_X8_groundLine_6 rfl (by decide) rfl ?_
  refine zg_aload_n 1 rfl d_X8_groundLine_7 ?_
  refine zg_getI d_X8_groundLine_8 zc_8 (by decide) fl_X8_205 (fun v3 => ?_)
  refine zg_if_eq d_X8_groundLine_11 ?_ ?_
  · refine zg_aload_n 1 rfl d_X8_groundLine_15 ?_
    refine zg_getI d_X8_groundLine_16 zc_8 (by decide) fl_X8_170 (fun v4 => ?_)
    refine zg_iconst 2 rfl d_X8_groundLine_19 ?_
    refine zg_bd (E := 72) (el := (fun (e15 : Unit) => [(0, .ref a0), (1, .int a1), (2, .int v2)])) (es := (fun (e15 : Unit) => [])) ?_ (fun e15 h16 => ?_)
    · refine zg_icmp_eq d_X8_groundLine_20 ?_ ?_
      · refine zg_aload_n 1 rfl d_X8_groundLine_31 ?_
        refine zg_getI d_X8_groundLine_32 zc_8 (by decide) fl_X8_180 (fun v5 => ?_)
        refine zg_iconst 3 rfl d_X8_groundLine_35 ?_
        refine zg_icmp_le d_X8_groundLine_36 ?_ ?_
        · refine zg_aload_n 1 rfl d_X8_groundLine_47 ?_
          refine zg_getR d_X8_groundLine_48 zc_8 (by decide) fl_X8_16 (fun v6 => ?_)
          refine zg_bipush 24 rfl d_X8_groundLine_51 ?_
          refine zg_bipush 6 rfl d_X8_groundLine_53 ?_
          refine zg_aload_n 1 rfl d_X8_groundLine_55 ?_
          refine zg_getI d_X8_groundLine_56 zc_8 (by decide) fl_X8_180 (fun v7 => ?_)
          refine zg_imul d_X8_groundLine_59 ?_
          refine zg_iadd d_X8_groundLine_60 ?_
          refine zg_iload_n 0 rfl d_X8_groundLine_61 ?_
          refine zg_iadd d_X8_groundLine_62 ?_
          refine zg_ald0 d_X8_groundLine_63 (fun v8 => ?_)
          refine zg_if_le d_X8_groundLine_64 ?_ ?_
          · exact zg_finK (E := 0) [1, 2, 0] rfl rfl (fun q => q)
          · refine zg_aload_n 1 rfl d_X8_groundLine_67 ?_
            refine zg_iconst 3 rfl d_X8_groundLine_68 ?_
            refine zg_cVv (b := a0) (As := [.int 3]) (rest := []) (0, 0) d_X8_groundLine_69 zc_8 rfl cw_X8_214 wi_X8_wrong ws_X8_wrong rfl rfl (Nat.le_of_ble_eq_true rfl) (by decide) (by decide) ⟨by decide, by decide⟩ rfl (t_X8_wrong a0 3 h1) (fun v10 h9 => ?_)
            exact zg_finK (E := 0) [1, 2, 0] rfl rfl (fun q => q)
        · refine zg_aload_n 1 rfl d_X8_groundLine_39 ?_
          refine zg_iconst 2 rfl d_X8_groundLine_40 ?_
          refine zg_cVv (b := a0) (As := [.int 2]) (rest := []) (0, 0) d_X8_groundLine_41 zc_8 rfl cw_X8_214 wi_X8_wrong ws_X8_wrong rfl rfl (Nat.le_of_ble_eq_true rfl) (by decide) (by decide) ⟨by decide, by decide⟩ rfl (t_X8_wrong a0 2 h1) (fun v12 h11 => ?_)
          refine zg_goto d_X8_groundLine_44 ?_
          exact zg_finK (E := 0) [1, 2, 0] rfl rfl (fun q => q)
      · refine zg_aload_n 1 rfl d_X8_groundLine_23 ?_
        refine zg_iconst 1 rfl d_X8_groundLine_24 ?_
        refine zg_cVv (b := a0) (As := [.int 1]) (rest := []) (0, 0) d_X8_groundLine_25 zc_8 rfl cw_X8_214 wi_X8_wrong ws_X8_wrong rfl rfl (Nat.le_of_ble_eq_true rfl) (by decide) (by decide) ⟨by decide, by decide⟩ rfl (t_X8_wrong a0 1 h1) (fun v14 h13 => ?_)
        refine zg_goto d_X8_groundLine_28 ?_
        exact zg_finK (E := 0) [1, 2, 0] rfl rfl (fun q => q)
    · refine zg_aload_n 0 rfl d_X8_groundLine_72 ?_
      refine zg_getI d_X8_groundLine_73 zc_8 (by decide) fl_X8_205 (fun v17 => ?_)
      refine zg_if_eq d_X8_groundLine_76 ?_ ?_
      · refine zg_aload_n 0 rfl d_X8_groundLine_80 ?_
        refine zg_getR d_X8_groundLine_81 zc_8 (by decide) fl_X8_16 (fun v18 => ?_)
        refine zg_bipush 24 rfl d_X8_groundLine_84 ?_
        refine zg_bipush 6 rfl d_X8_groundLine_86 ?_
        refine zg_aload_n 0 rfl d_X8_groundLine_88 ?_
        refine zg_getI d_X8_groundLine_89 zc_8 (by decide) fl_X8_180 (fun v19 => ?_)
        refine zg_imul d_X8_groundLine_92 ?_
        refine zg_iadd d_X8_groundLine_93 ?_
        refine zg_iload_n 2 rfl d_X8_groundLine_94 ?_
        refine zg_iadd d_X8_groundLine_95 ?_
        refine zg_iload_n 1 rfl d_X8_groundLine_96 ?_
        refine zg_ast0 d_X8_groundLine_97 (fun h20 => ?_)
        refine zg_aload_n 0 rfl d_X8_groundLine_98 ?_
        refine zg_cVv (b := a0) (As := []) (rest := []) (0, 0) d_X8_groundLine_99 zc_8 rfl cw_X8_211 wi_X8_token ws_X8_token rfl rfl (Nat.le_of_ble_eq_true rfl) (by decide) (by decide) ⟨by decide, by decide⟩ rfl (t_X8_token a0 h20) (fun v22 h21 => ?_)
        exact zg_vretK d_X8_groundLine_102 rfl ⟨Nat.le_of_ble_eq_true rfl, Nat.le_of_ble_eq_true rfl⟩ (fun q => q)
      · exact zg_vretK d_X8_groundLine_79 rfl ⟨Nat.le_of_ble_eq_true rfl, Nat.le_of_ble_eq_true rfl⟩ (fun q => q)
  · exact zg_vretK d_X8_groundLine_14 rfl ⟨Nat.le_of_ble_eq_true rfl, Nat.le_of_ble_eq_true rfl⟩ (fun q => q)
abbrev M_X8_expression (n : Nat) : zMt := (RX8, cX8_expression, 1, 8 + n, 265 + n * 21, none, "expression", 0, 0)
theorem d_X8_expression_0 (n : Nat) : zDc (M_X8_expression n) 0 (.aload_n 0) 1 1 := ⟨(by decide +kernel : decode cX8_expression 0 = .ok (.aload_n 0, 1)), rfl⟩
theorem d_X8_expression_1 (n : Nat) : zDc (M_X8_expression n) 1 (.invokevirtual 264) 3 4 := ⟨(by decide +kernel : decode cX8_expression 1 = .ok (.invokevirtual 264, 3)), rfl⟩
theorem d_X8_expression_4 (n : Nat) : zDc (M_X8_expression n) 4 (.aload_n 0) 1 5 := ⟨(by decide +kernel : decode cX8_expression 4 = .ok (.aload_n 0, 1)), rfl⟩
theorem d_X8_expression_5 (n : Nat) : zDc (M_X8_expression n) 5 (.bipush 13) 2 7 := ⟨(by decide +kernel : decode cX8_expression 5 = .ok (.bipush 13, 2)), rfl⟩
theorem d_X8_expression_7 (n : Nat) : zDc (M_X8_expression n) 7 (.invokevirtual 267) 3 10 := ⟨(by decide +kernel : decode cX8_expression 7 = .ok (.invokevirtual 267, 3)), rfl⟩
theorem d_X8_expression_10 (n : Nat) : zDj (M_X8_expression n) 10 (.ifCond .eq 26) 26 13 36 := ⟨(by decide +kernel : decode cX8_expression 10 = .ok (.ifCond .eq 26, 3)), rfl, by decide⟩
theorem d_X8_expression_13 (n : Nat) : zDc (M_X8_expression n) 13 (.aload_n 0) 1 14 := ⟨(by decide +kernel : decode cX8_expression 13 = .ok (.aload_n 0, 1)), rfl⟩
theorem d_X8_expression_14 (n : Nat) : zDc (M_X8_expression n) 14 (.invokevirtual 270) 3 17 := ⟨(by decide +kernel : decode cX8_expression 14 = .ok (.invokevirtual 270, 3)), rfl⟩
theorem d_X8_expression_17 (n : Nat) : zDc (M_X8_expression n) 17 (.aload_n 0) 1 18 := ⟨(by decide +kernel : decode cX8_expression 17 = .ok (.aload_n 0, 1)), rfl⟩
theorem d_X8_expression_18 (n : Nat) : zDc (M_X8_expression n) 18 (.invokevirtual 273) 3 21 := ⟨(by decide +kernel : decode cX8_expression 18 = .ok (.invokevirtual 273, 3)), rfl⟩
theorem d_X8_expression_21 (n : Nat) : zDc (M_X8_expression n) 21 (.aload_n 0) 1 22 := ⟨(by decide +kernel : decode cX8_expression 21 = .ok (.aload_n 0, 1)), rfl⟩
theorem d_X8_expression_22 (n : Nat) : zDc (M_X8_expression n) 22 (.invokevirtual 264) 3 25 := ⟨(by decide +kernel : decode cX8_expression 22 = .ok (.invokevirtual 264, 3)), rfl⟩
theorem d_X8_expression_25 (n : Nat) : zDc (M_X8_expression n) 25 (.aload_n 0) 1 26 := ⟨(by decide +kernel : decode cX8_expression 25 = .ok (.aload_n 0, 1)), rfl⟩
theorem d_X8_expression_26 (n : Nat) : zDc (M_X8_expression n) 26 (.iconst 2) 1 27 := ⟨(by decide +kernel : decode cX8_expression 26 = .ok (.iconst 2, 1)), rfl⟩
theorem d_X8_expression_27 (n : Nat) : zDc (M_X8_expression n) 27 (.sipush 262) 3 30 := ⟨(by decide +kernel : decode cX8_expression 27 = .ok (.sipush 262, 3)), rfl⟩
theorem d_X8_expression_30 (n : Nat) : zDc (M_X8_expression n) 30 (.invokevirtual 276) 3 33 := ⟨(by decide +kernel : decode cX8_expression 30 = .ok (.invokevirtual 276, 3)), rfl⟩
theorem d_X8_expression_33 (n : Nat) : zDj (M_X8_expression n) 33 (.goto (-29)) (-29) 36 4 := ⟨(by decide +kernel : decode cX8_expression 33 = .ok (.goto (-29), 3)), rfl, by decide⟩
theorem d_X8_expression_36 (n : Nat) : zDc (M_X8_expression n) 36 (.return_) 1 37 := ⟨(by decide +kernel : decode cX8_expression 36 = .ok (.return_, 1)), rfl⟩
def b_X8_expression (F : (Nat → Nat → zHp → Option (Unit × zHp))) (a0 : Nat) (h0 : zHp) : Option (Unit × zHp) :=
  zbd (zcv 8 a0 h0 (F 1 a0 h0)) (fun v2 h1 =>
  zbd (
  zlp (σ := Unit) (β := Unit) zLF (fun s3 h4 =>
  zbd (zcv 8 a0 h4 (f_X8_isWord a0 13 h4)) (fun v8 h7 =>
  if v8 = 0 then
  some ((.inr ()), h7)
  else
  zbd (zcv 8 a0 h7 (f_X8_knot a0 h7)) (fun v10 h9 =>
  zbd (zcv 8 a0 h9 (f_X8_goOn a0 h9)) (fun v12 h11 =>
  zbd (zcv 8 a0 h11 (F 1 a0 h11)) (fun v14 h13 =>
  zbd (zcv 8 a0 h13 (f_X8_puts a0 2 262 h13)) (fun v16 h15 =>
  some ((.inl ()), h15))))))) () h1) (fun e5 h6 =>
  some ((), h6)))
abbrev M_X8_conjunction (n : Nat) : zMt := (RX8, cX8_conjunction, 1, 8 + n, 265 + n * 21, none, "conjunction", 0, 0)
theorem d_X8_conjunction_0 (n : Nat) : zDc (M_X8_conjunction n) 0 (.aload_n 0) 1 1 := ⟨(by decide +kernel : decode cX8_conjunction 0 = .ok (.aload_n 0, 1)), rfl⟩
theorem d_X8_conjunction_1 (n : Nat) : zDc (M_X8_conjunction n) 1 (.invokevirtual 279) 3 4 := ⟨(by decide +kernel : decode cX8_conjunction 1 = .ok (.invokevirtual 279, 3)), rfl⟩
theorem d_X8_conjunction_4 (n : Nat) : zDc (M_X8_conjunction n) 4 (.aload_n 0) 1 5 := ⟨(by decide +kernel : decode cX8_conjunction 4 = .ok (.aload_n 0, 1)), rfl⟩
theorem d_X8_conjunction_5 (n : Nat) : zDc (M_X8_conjunction n) 5 (.bipush 14) 2 7 := ⟨(by decide +kernel : decode cX8_conjunction 5 = .ok (.bipush 14, 2)), rfl⟩
theorem d_X8_conjunction_7 (n : Nat) : zDc (M_X8_conjunction n) 7 (.invokevirtual 267) 3 10 := ⟨(by decide +kernel : decode cX8_conjunction 7 = .ok (.invokevirtual 267, 3)), rfl⟩
theorem d_X8_conjunction_10 (n : Nat) : zDj (M_X8_conjunction n) 10 (.ifCond .eq 26) 26 13 36 := ⟨(by decide +kernel : decode cX8_conjunction 10 = .ok (.ifCond .eq 26, 3)), rfl, by decide⟩
theorem d_X8_conjunction_13 (n : Nat) : zDc (M_X8_conjunction n) 13 (.aload_n 0) 1 14 := ⟨(by decide +kernel : decode cX8_conjunction 13 = .ok (.aload_n 0, 1)), rfl⟩
theorem d_X8_conjunction_14 (n : Nat) : zDc (M_X8_conjunction n) 14 (.invokevirtual 270) 3 17 := ⟨(by decide +kernel : decode cX8_conjunction 14 = .ok (.invokevirtual 270, 3)), rfl⟩
theorem d_X8_conjunction_17 (n : Nat) : zDc (M_X8_conjunction n) 17 (.aload_n 0) 1 18 := ⟨(by decide +kernel : decode cX8_conjunction 17 = .ok (.aload_n 0, 1)), rfl⟩
theorem d_X8_conjunction_18 (n : Nat) : zDc (M_X8_conjunction n) 18 (.invokevirtual 273) 3 21 := ⟨(by decide +kernel : decode cX8_conjunction 18 = .ok (.invokevirtual 273, 3)), rfl⟩
theorem d_X8_conjunction_21 (n : Nat) : zDc (M_X8_conjunction n) 21 (.aload_n 0) 1 22 := ⟨(by decide +kernel : decode cX8_conjunction 21 = .ok (.aload_n 0, 1)), rfl⟩
theorem d_X8_conjunction_22 (n : Nat) : zDc (M_X8_conjunction n) 22 (.invokevirtual 279) 3 25 := ⟨(by decide +kernel : decode cX8_conjunction 22 = .ok (.invokevirtual 279, 3)), rfl⟩
theorem d_X8_conjunction_25 (n : Nat) : zDc (M_X8_conjunction n) 25 (.aload_n 0) 1 26 := ⟨(by decide +kernel : decode cX8_conjunction 25 = .ok (.aload_n 0, 1)), rfl⟩
theorem d_X8_conjunction_26 (n : Nat) : zDc (M_X8_conjunction n) 26 (.iconst 2) 1 27 := ⟨(by decide +kernel : decode cX8_conjunction 26 = .ok (.iconst 2, 1)), rfl⟩
theorem d_X8_conjunction_27 (n : Nat) : zDc (M_X8_conjunction n) 27 (.sipush 261) 3 30 := ⟨(by decide +kernel : decode cX8_conjunction 27 = .ok (.sipush 261, 3)), rfl⟩
theorem d_X8_conjunction_30 (n : Nat) : zDc (M_X8_conjunction n) 30 (.invokevirtual 276) 3 33 := ⟨(by decide +kernel : decode cX8_conjunction 30 = .ok (.invokevirtual 276, 3)), rfl⟩
theorem d_X8_conjunction_33 (n : Nat) : zDj (M_X8_conjunction n) 33 (.goto (-29)) (-29) 36 4 := ⟨(by decide +kernel : decode cX8_conjunction 33 = .ok (.goto (-29), 3)), rfl, by decide⟩
theorem d_X8_conjunction_36 (n : Nat) : zDc (M_X8_conjunction n) 36 (.return_) 1 37 := ⟨(by decide +kernel : decode cX8_conjunction 36 = .ok (.return_, 1)), rfl⟩
def b_X8_conjunction (F : (Nat → Nat → zHp → Option (Unit × zHp))) (a0 : Nat) (h0 : zHp) : Option (Unit × zHp) :=
  zbd (zcv 8 a0 h0 (F 2 a0 h0)) (fun v2 h1 =>
  zbd (
  zlp (σ := Unit) (β := Unit) zLF (fun s3 h4 =>
  zbd (zcv 8 a0 h4 (f_X8_isWord a0 14 h4)) (fun v8 h7 =>
  if v8 = 0 then
  some ((.inr ()), h7)
  else
  zbd (zcv 8 a0 h7 (f_X8_knot a0 h7)) (fun v10 h9 =>
  zbd (zcv 8 a0 h9 (f_X8_goOn a0 h9)) (fun v12 h11 =>
  zbd (zcv 8 a0 h11 (F 2 a0 h11)) (fun v14 h13 =>
  zbd (zcv 8 a0 h13 (f_X8_puts a0 2 261 h13)) (fun v16 h15 =>
  some ((.inl ()), h15))))))) () h1) (fun e5 h6 =>
  some ((), h6)))
abbrev M_X8_negation (n : Nat) : zMt := (RX8, cX8_negation, 2, 8 + n, 265 + n * 21, none, "negation", 0, 0)
theorem d_X8_negation_0 (n : Nat) : zDc (M_X8_negation n) 0 (.aload_n 0) 1 1 := ⟨(by decide +kernel : decode cX8_negation 0 = .ok (.aload_n 0, 1)), rfl⟩
theorem d_X8_negation_1 (n : Nat) : zDc (M_X8_negation n) 1 (.bipush 15) 2 3 := ⟨(by decide +kernel : decode cX8_negation 1 = .ok (.bipush 15, 2)), rfl⟩
theorem d_X8_negation_3 (n : Nat) : zDc (M_X8_negation n) 3 (.invokevirtual 267) 3 6 := ⟨(by decide +kernel : decode cX8_negation 3 = .ok (.invokevirtual 267, 3)), rfl⟩
theorem d_X8_negation_6 (n : Nat) : zDj (M_X8_negation n) 6 (.ifCond .eq 24) 24 9 30 := ⟨(by decide +kernel : decode cX8_negation 6 = .ok (.ifCond .eq 24, 3)), rfl, by decide⟩
theorem d_X8_negation_9 (n : Nat) : zDc (M_X8_negation n) 9 (.aload_n 0) 1 10 := ⟨(by decide +kernel : decode cX8_negation 9 = .ok (.aload_n 0, 1)), rfl⟩
theorem d_X8_negation_10 (n : Nat) : zDc (M_X8_negation n) 10 (.invokevirtual 270) 3 13 := ⟨(by decide +kernel : decode cX8_negation 10 = .ok (.invokevirtual 270, 3)), rfl⟩
theorem d_X8_negation_13 (n : Nat) : zDc (M_X8_negation n) 13 (.aload_n 0) 1 14 := ⟨(by decide +kernel : decode cX8_negation 13 = .ok (.aload_n 0, 1)), rfl⟩
theorem d_X8_negation_14 (n : Nat) : zDc (M_X8_negation n) 14 (.invokevirtual 273) 3 17 := ⟨(by decide +kernel : decode cX8_negation 14 = .ok (.invokevirtual 273, 3)), rfl⟩
theorem d_X8_negation_17 (n : Nat) : zDc (M_X8_negation n) 17 (.aload_n 0) 1 18 := ⟨(by decide +kernel : decode cX8_negation 17 = .ok (.aload_n 0, 1)), rfl⟩
theorem d_X8_negation_18 (n : Nat) : zDc (M_X8_negation n) 18 (.invokevirtual 279) 3 21 := ⟨(by decide +kernel : decode cX8_negation 18 = .ok (.invokevirtual 279, 3)), rfl⟩
theorem d_X8_negation_21 (n : Nat) : zDc (M_X8_negation n) 21 (.aload_n 0) 1 22 := ⟨(by decide +kernel : decode cX8_negation 21 = .ok (.aload_n 0, 1)), rfl⟩
theorem d_X8_negation_22 (n : Nat) : zDc (M_X8_negation n) 22 (.iconst 2) 1 23 := ⟨(by decide +kernel : decode cX8_negation 22 = .ok (.iconst 2, 1)), rfl⟩
theorem d_X8_negation_23 (n : Nat) : zDc (M_X8_negation n) 23 (.sipush 260) 3 26 := ⟨(by decide +kernel : decode cX8_negation 23 = .ok (.sipush 260, 3)), rfl⟩
theorem d_X8_negation_26 (n : Nat) : zDc (M_X8_negation n) 26 (.invokevirtual 276) 3 29 := ⟨(by decide +kernel : decode cX8_negation 26 = .ok (.invokevirtual 276, 3)), rfl⟩
theorem d_X8_negation_29 (n : Nat) : zDc (M_X8_negation n) 29 (.return_) 1 30 := ⟨(by decide +kernel : decode cX8_negation 29 = .ok (.return_, 1)), rfl⟩
theorem d_X8_negation_30 (n : Nat) : zDc (M_X8_negation n) 30 (.aload_n 0) 1 31 := ⟨(by decide +kernel : decode cX8_negation 30 = .ok (.aload_n 0, 1)), rfl⟩
theorem d_X8_negation_31 (n : Nat) : zDc (M_X8_negation n) 31 (.invokevirtual 282) 3 34 := ⟨(by decide +kernel : decode cX8_negation 31 = .ok (.invokevirtual 282, 3)), rfl⟩
theorem d_X8_negation_34 (n : Nat) : zDc (M_X8_negation n) 34 (.aload_n 0) 1 35 := ⟨(by decide +kernel : decode cX8_negation 34 = .ok (.aload_n 0, 1)), rfl⟩
theorem d_X8_negation_35 (n : Nat) : zDc (M_X8_negation n) 35 (.getfield 205) 3 38 := ⟨(by decide +kernel : decode cX8_negation 35 = .ok (.getfield 205, 3)), rfl⟩
theorem d_X8_negation_38 (n : Nat) : zDj (M_X8_negation n) 38 (.ifCond .ne 48) 48 41 86 := ⟨(by decide +kernel : decode cX8_negation 38 = .ok (.ifCond .ne 48, 3)), rfl, by decide⟩
theorem d_X8_negation_41 (n : Nat) : zDc (M_X8_negation n) 41 (.aload_n 0) 1 42 := ⟨(by decide +kernel : decode cX8_negation 41 = .ok (.aload_n 0, 1)), rfl⟩
theorem d_X8_negation_42 (n : Nat) : zDc (M_X8_negation n) 42 (.getfield 170) 3 45 := ⟨(by decide +kernel : decode cX8_negation 42 = .ok (.getfield 170, 3)), rfl⟩
theorem d_X8_negation_45 (n : Nat) : zDc (M_X8_negation n) 45 (.iconst 3) 1 46 := ⟨(by decide +kernel : decode cX8_negation 45 = .ok (.iconst 3, 1)), rfl⟩
theorem d_X8_negation_46 (n : Nat) : zDj (M_X8_negation n) 46 (.if_icmp .ne 40) 40 49 86 := ⟨(by decide +kernel : decode cX8_negation 46 = .ok (.if_icmp .ne 40, 3)), rfl, by decide⟩
theorem d_X8_negation_49 (n : Nat) : zDc (M_X8_negation n) 49 (.aload_n 0) 1 50 := ⟨(by decide +kernel : decode cX8_negation 49 = .ok (.aload_n 0, 1)), rfl⟩
theorem d_X8_negation_50 (n : Nat) : zDc (M_X8_negation n) 50 (.getfield 180) 3 53 := ⟨(by decide +kernel : decode cX8_negation 50 = .ok (.getfield 180, 3)), rfl⟩
theorem d_X8_negation_53 (n : Nat) : zDc (M_X8_negation n) 53 (.bipush 60) 2 55 := ⟨(by decide +kernel : decode cX8_negation 53 = .ok (.bipush 60, 2)), rfl⟩
theorem d_X8_negation_55 (n : Nat) : zDj (M_X8_negation n) 55 (.if_icmp .eq 32) 32 58 87 := ⟨(by decide +kernel : decode cX8_negation 55 = .ok (.if_icmp .eq 32, 3)), rfl, by decide⟩
theorem d_X8_negation_58 (n : Nat) : zDc (M_X8_negation n) 58 (.aload_n 0) 1 59 := ⟨(by decide +kernel : decode cX8_negation 58 = .ok (.aload_n 0, 1)), rfl⟩
theorem d_X8_negation_59 (n : Nat) : zDc (M_X8_negation n) 59 (.getfield 180) 3 62 := ⟨(by decide +kernel : decode cX8_negation 59 = .ok (.getfield 180, 3)), rfl⟩
theorem d_X8_negation_62 (n : Nat) : zDc (M_X8_negation n) 62 (.bipush 62) 2 64 := ⟨(by decide +kernel : decode cX8_negation 62 = .ok (.bipush 62, 2)), rfl⟩
theorem d_X8_negation_64 (n : Nat) : zDj (M_X8_negation n) 64 (.if_icmp .eq 23) 23 67 87 := ⟨(by decide +kernel : decode cX8_negation 64 = .ok (.if_icmp .eq 23, 3)), rfl, by decide⟩
theorem d_X8_negation_67 (n : Nat) : zDc (M_X8_negation n) 67 (.aload_n 0) 1 68 := ⟨(by decide +kernel : decode cX8_negation 67 = .ok (.aload_n 0, 1)), rfl⟩
theorem d_X8_negation_68 (n : Nat) : zDc (M_X8_negation n) 68 (.getfield 180) 3 71 := ⟨(by decide +kernel : decode cX8_negation 68 = .ok (.getfield 180, 3)), rfl⟩
theorem d_X8_negation_71 (n : Nat) : zDc (M_X8_negation n) 71 (.bipush 61) 2 73 := ⟨(by decide +kernel : decode cX8_negation 71 = .ok (.bipush 61, 2)), rfl⟩
theorem d_X8_negation_73 (n : Nat) : zDj (M_X8_negation n) 73 (.if_icmp .eq 14) 14 76 87 := ⟨(by decide +kernel : decode cX8_negation 73 = .ok (.if_icmp .eq 14, 3)), rfl, by decide⟩
theorem d_X8_negation_76 (n : Nat) : zDc (M_X8_negation n) 76 (.aload_n 0) 1 77 := ⟨(by decide +kernel : decode cX8_negation 76 = .ok (.aload_n 0, 1)), rfl⟩
theorem d_X8_negation_77 (n : Nat) : zDc (M_X8_negation n) 77 (.getfield 180) 3 80 := ⟨(by decide +kernel : decode cX8_negation 77 = .ok (.getfield 180, 3)), rfl⟩
theorem d_X8_negation_80 (n : Nat) : zDc (M_X8_negation n) 80 (.sipush 256) 3 83 := ⟨(by decide +kernel : decode cX8_negation 80 = .ok (.sipush 256, 3)), rfl⟩
theorem d_X8_negation_83 (n : Nat) : zDj (M_X8_negation n) 83 (.if_icmp .ge 4) 4 86 87 := ⟨(by decide +kernel : decode cX8_negation 83 = .ok (.if_icmp .ge 4, 3)), rfl, by decide⟩
theorem d_X8_negation_86 (n : Nat) : zDc (M_X8_negation n) 86 (.return_) 1 87 := ⟨(by decide +kernel : decode cX8_negation 86 = .ok (.return_, 1)), rfl⟩
theorem d_X8_negation_87 (n : Nat) : zDc (M_X8_negation n) 87 (.aload_n 0) 1 88 := ⟨(by decide +kernel : decode cX8_negation 87 = .ok (.aload_n 0, 1)), rfl⟩
theorem d_X8_negation_88 (n : Nat) : zDc (M_X8_negation n) 88 (.getfield 180) 3 91 := ⟨(by decide +kernel : decode cX8_negation 88 = .ok (.getfield 180, 3)), rfl⟩
theorem d_X8_negation_91 (n : Nat) : zDc (M_X8_negation n) 91 (.istore_n 1) 1 92 := ⟨(by decide +kernel : decode cX8_negation 91 = .ok (.istore_n 1, 1)), rfl⟩
theorem d_X8_negation_92 (n : Nat) : zDc (M_X8_negation n) 92 (.aload_n 0) 1 93 := ⟨(by decide +kernel : decode cX8_negation 92 = .ok (.aload_n 0, 1)), rfl⟩
theorem d_X8_negation_93 (n : Nat) : zDc (M_X8_negation n) 93 (.invokevirtual 270) 3 96 := ⟨(by decide +kernel : decode cX8_negation 93 = .ok (.invokevirtual 270, 3)), rfl⟩
theorem d_X8_negation_96 (n : Nat) : zDc (M_X8_negation n) 96 (.aload_n 0) 1 97 := ⟨(by decide +kernel : decode cX8_negation 96 = .ok (.aload_n 0, 1)), rfl⟩
theorem d_X8_negation_97 (n : Nat) : zDc (M_X8_negation n) 97 (.invokevirtual 273) 3 100 := ⟨(by decide +kernel : decode cX8_negation 97 = .ok (.invokevirtual 273, 3)), rfl⟩
theorem d_X8_negation_100 (n : Nat) : zDc (M_X8_negation n) 100 (.aload_n 0) 1 101 := ⟨(by decide +kernel : decode cX8_negation 100 = .ok (.aload_n 0, 1)), rfl⟩
theorem d_X8_negation_101 (n : Nat) : zDc (M_X8_negation n) 101 (.invokevirtual 282) 3 104 := ⟨(by decide +kernel : decode cX8_negation 101 = .ok (.invokevirtual 282, 3)), rfl⟩
theorem d_X8_negation_104 (n : Nat) : zDc (M_X8_negation n) 104 (.aload_n 0) 1 105 := ⟨(by decide +kernel : decode cX8_negation 104 = .ok (.aload_n 0, 1)), rfl⟩
theorem d_X8_negation_105 (n : Nat) : zDc (M_X8_negation n) 105 (.iconst 2) 1 106 := ⟨(by decide +kernel : decode cX8_negation 105 = .ok (.iconst 2, 1)), rfl⟩
theorem d_X8_negation_106 (n : Nat) : zDc (M_X8_negation n) 106 (.iload_n 1) 1 107 := ⟨(by decide +kernel : decode cX8_negation 106 = .ok (.iload_n 1, 1)), rfl⟩
theorem d_X8_negation_107 (n : Nat) : zDc (M_X8_negation n) 107 (.invokevirtual 276) 3 110 := ⟨(by decide +kernel : decode cX8_negation 107 = .ok (.invokevirtual 276, 3)), rfl⟩
theorem d_X8_negation_110 (n : Nat) : zDc (M_X8_negation n) 110 (.return_) 1 111 := ⟨(by decide +kernel : decode cX8_negation 110 = .ok (.return_, 1)), rfl⟩
def b_X8_negation (F : (Nat → Nat → zHp → Option (Unit × zHp))) (a0 : Nat) (h0 : zHp) : Option (Unit × zHp) :=
  zbd (zcv 8 a0 h0 (f_X8_isWord a0 15 h0)) (fun v2 h1 =>
  if v2 = 0 then
  zbd (zcv 8 a0 h1 (F 3 a0 h1)) (fun v4 h3 =>
  zob (zgI h3 a0 8 27) (fun v5 =>
  if v5 = 0 then
  zob (zgI h3 a0 8 25) (fun v6 =>
  if v6 = 3 then
  zob (zgI h3 a0 8 26) (fun v7 =>
  zbd (α := (Unit ⊕ Unit)) (
  if v7 = 60 then
  some ((.inl ()), h3)
  else
  zob (zgI h3 a0 8 26) (fun v8 =>
  if v8 = 62 then
  some ((.inl ()), h3)
  else
  zob (zgI h3 a0 8 26) (fun v9 =>
  if v9 = 61 then
  some ((.inl ()), h3)
  else
  zob (zgI h3 a0 8 26) (fun v10 =>
  if 256 ≤ v10 then
  some ((.inl ()), h3)
  else
  some ((.inr ()), h3))))) (fun b30 h12 => zsl b30 (fun e11 =>
  zob (zgI h12 a0 8 26) (fun v13 =>
  zbd (zcv 8 a0 h12 (f_X8_knot a0 h12)) (fun v15 h14 =>
  zbd (zcv 8 a0 h14 (f_X8_goOn a0 h14)) (fun v17 h16 =>
  zbd (zcv 8 a0 h16 (F 3 a0 h16)) (fun v19 h18 =>
  zbd (zcv 8 a0 h18 (f_X8_puts a0 2 v13 h18)) (fun v21 h20 =>
  some ((), h20))))))) (fun r => some (r, h12))))
  else
  some ((), h3))
  else
  some ((), h3)))
  else
  zbd (zcv 8 a0 h1 (f_X8_knot a0 h1)) (fun v23 h22 =>
  zbd (zcv 8 a0 h22 (f_X8_goOn a0 h22)) (fun v25 h24 =>
  zbd (zcv 8 a0 h24 (F 2 a0 h24)) (fun v27 h26 =>
  zbd (zcv 8 a0 h26 (f_X8_puts a0 2 260 h26)) (fun v29 h28 =>
  some ((), h28))))))
abbrev M_X8_sum (n : Nat) : zMt := (RX8, cX8_sum, 2, 8 + n, 265 + n * 21, none, "sum", 0, 0)
theorem d_X8_sum_0 (n : Nat) : zDc (M_X8_sum n) 0 (.aload_n 0) 1 1 := ⟨(by decide +kernel : decode cX8_sum 0 = .ok (.aload_n 0, 1)), rfl⟩
theorem d_X8_sum_1 (n : Nat) : zDc (M_X8_sum n) 1 (.invokevirtual 285) 3 4 := ⟨(by decide +kernel : decode cX8_sum 1 = .ok (.invokevirtual 285, 3)), rfl⟩
theorem d_X8_sum_4 (n : Nat) : zDc (M_X8_sum n) 4 (.aload_n 0) 1 5 := ⟨(by decide +kernel : decode cX8_sum 4 = .ok (.aload_n 0, 1)), rfl⟩
theorem d_X8_sum_5 (n : Nat) : zDc (M_X8_sum n) 5 (.bipush 43) 2 7 := ⟨(by decide +kernel : decode cX8_sum 5 = .ok (.bipush 43, 2)), rfl⟩
theorem d_X8_sum_7 (n : Nat) : zDc (M_X8_sum n) 7 (.invokevirtual 252) 3 10 := ⟨(by decide +kernel : decode cX8_sum 7 = .ok (.invokevirtual 252, 3)), rfl⟩
theorem d_X8_sum_10 (n : Nat) : zDj (M_X8_sum n) 10 (.ifCond .ne 12) 12 13 22 := ⟨(by decide +kernel : decode cX8_sum 10 = .ok (.ifCond .ne 12, 3)), rfl, by decide⟩
theorem d_X8_sum_13 (n : Nat) : zDc (M_X8_sum n) 13 (.aload_n 0) 1 14 := ⟨(by decide +kernel : decode cX8_sum 13 = .ok (.aload_n 0, 1)), rfl⟩
theorem d_X8_sum_14 (n : Nat) : zDc (M_X8_sum n) 14 (.bipush 45) 2 16 := ⟨(by decide +kernel : decode cX8_sum 14 = .ok (.bipush 45, 2)), rfl⟩
theorem d_X8_sum_16 (n : Nat) : zDc (M_X8_sum n) 16 (.invokevirtual 252) 3 19 := ⟨(by decide +kernel : decode cX8_sum 16 = .ok (.invokevirtual 252, 3)), rfl⟩
theorem d_X8_sum_19 (n : Nat) : zDj (M_X8_sum n) 19 (.ifCond .eq 29) 29 22 48 := ⟨(by decide +kernel : decode cX8_sum 19 = .ok (.ifCond .eq 29, 3)), rfl, by decide⟩
theorem d_X8_sum_22 (n : Nat) : zDc (M_X8_sum n) 22 (.aload_n 0) 1 23 := ⟨(by decide +kernel : decode cX8_sum 22 = .ok (.aload_n 0, 1)), rfl⟩
theorem d_X8_sum_23 (n : Nat) : zDc (M_X8_sum n) 23 (.getfield 180) 3 26 := ⟨(by decide +kernel : decode cX8_sum 23 = .ok (.getfield 180, 3)), rfl⟩
theorem d_X8_sum_26 (n : Nat) : zDc (M_X8_sum n) 26 (.istore_n 1) 1 27 := ⟨(by decide +kernel : decode cX8_sum 26 = .ok (.istore_n 1, 1)), rfl⟩
theorem d_X8_sum_27 (n : Nat) : zDc (M_X8_sum n) 27 (.aload_n 0) 1 28 := ⟨(by decide +kernel : decode cX8_sum 27 = .ok (.aload_n 0, 1)), rfl⟩
theorem d_X8_sum_28 (n : Nat) : zDc (M_X8_sum n) 28 (.invokevirtual 270) 3 31 := ⟨(by decide +kernel : decode cX8_sum 28 = .ok (.invokevirtual 270, 3)), rfl⟩
theorem d_X8_sum_31 (n : Nat) : zDc (M_X8_sum n) 31 (.aload_n 0) 1 32 := ⟨(by decide +kernel : decode cX8_sum 31 = .ok (.aload_n 0, 1)), rfl⟩
theorem d_X8_sum_32 (n : Nat) : zDc (M_X8_sum n) 32 (.invokevirtual 273) 3 35 := ⟨(by decide +kernel : decode cX8_sum 32 = .ok (.invokevirtual 273, 3)), rfl⟩
theorem d_X8_sum_35 (n : Nat) : zDc (M_X8_sum n) 35 (.aload_n 0) 1 36 := ⟨(by decide +kernel : decode cX8_sum 35 = .ok (.aload_n 0, 1)), rfl⟩
theorem d_X8_sum_36 (n : Nat) : zDc (M_X8_sum n) 36 (.invokevirtual 285) 3 39 := ⟨(by decide +kernel : decode cX8_sum 36 = .ok (.invokevirtual 285, 3)), rfl⟩
theorem d_X8_sum_39 (n : Nat) : zDc (M_X8_sum n) 39 (.aload_n 0) 1 40 := ⟨(by decide +kernel : decode cX8_sum 39 = .ok (.aload_n 0, 1)), rfl⟩
theorem d_X8_sum_40 (n : Nat) : zDc (M_X8_sum n) 40 (.iconst 2) 1 41 := ⟨(by decide +kernel : decode cX8_sum 40 = .ok (.iconst 2, 1)), rfl⟩
theorem d_X8_sum_41 (n : Nat) : zDc (M_X8_sum n) 41 (.iload_n 1) 1 42 := ⟨(by decide +kernel : decode cX8_sum 41 = .ok (.iload_n 1, 1)), rfl⟩
theorem d_X8_sum_42 (n : Nat) : zDc (M_X8_sum n) 42 (.invokevirtual 276) 3 45 := ⟨(by decide +kernel : decode cX8_sum 42 = .ok (.invokevirtual 276, 3)), rfl⟩
theorem d_X8_sum_45 (n : Nat) : zDj (M_X8_sum n) 45 (.goto (-41)) (-41) 48 4 := ⟨(by decide +kernel : decode cX8_sum 45 = .ok (.goto (-41), 3)), rfl, by decide⟩
theorem d_X8_sum_48 (n : Nat) : zDc (M_X8_sum n) 48 (.return_) 1 49 := ⟨(by decide +kernel : decode cX8_sum 48 = .ok (.return_, 1)), rfl⟩
def b_X8_sum (F : (Nat → Nat → zHp → Option (Unit × zHp))) (a0 : Nat) (h0 : zHp) : Option (Unit × zHp) :=
  zbd (zcv 8 a0 h0 (F 4 a0 h0)) (fun v2 h1 =>
  zbd (
  zlp (σ := Unit) (β := Unit) zLF (fun s3 h4 =>
  zbd (zcv 8 a0 h4 (f_X8_isSign a0 43 h4)) (fun v8 h7 =>
  zbd (α := (Unit ⊕ (Unit ⊕ Unit))) (
  if v8 = 0 then
  zbd (zcv 8 a0 h7 (f_X8_isSign a0 45 h7)) (fun v10 h9 =>
  if v10 = 0 then
  some ((.inr (.inr ())), h9)
  else
  some ((.inl ()), h9))
  else
  some ((.inl ()), h7)) (fun b22 h12 => zsl b22 (fun e11 =>
  zob (zgI h12 a0 8 26) (fun v13 =>
  zbd (zcv 8 a0 h12 (f_X8_knot a0 h12)) (fun v15 h14 =>
  zbd (zcv 8 a0 h14 (f_X8_goOn a0 h14)) (fun v17 h16 =>
  zbd (zcv 8 a0 h16 (F 4 a0 h16)) (fun v19 h18 =>
  zbd (zcv 8 a0 h18 (f_X8_puts a0 2 v13 h18)) (fun v21 h20 =>
  some ((.inl ()), h20))))))) (fun r => some (r, h12))))) () h1) (fun e5 h6 =>
  some ((), h6)))
abbrev M_X8_product (n : Nat) : zMt := (RX8, cX8_product, 2, 8 + n, 265 + n * 21, none, "product", 0, 0)
theorem d_X8_product_0 (n : Nat) : zDc (M_X8_product n) 0 (.aload_n 0) 1 1 := ⟨(by decide +kernel : decode cX8_product 0 = .ok (.aload_n 0, 1)), rfl⟩
theorem d_X8_product_1 (n : Nat) : zDc (M_X8_product n) 1 (.invokevirtual 288) 3 4 := ⟨(by decide +kernel : decode cX8_product 1 = .ok (.invokevirtual 288, 3)), rfl⟩
theorem d_X8_product_4 (n : Nat) : zDc (M_X8_product n) 4 (.aload_n 0) 1 5 := ⟨(by decide +kernel : decode cX8_product 4 = .ok (.aload_n 0, 1)), rfl⟩
theorem d_X8_product_5 (n : Nat) : zDc (M_X8_product n) 5 (.bipush 42) 2 7 := ⟨(by decide +kernel : decode cX8_product 5 = .ok (.bipush 42, 2)), rfl⟩
theorem d_X8_product_7 (n : Nat) : zDc (M_X8_product n) 7 (.invokevirtual 252) 3 10 := ⟨(by decide +kernel : decode cX8_product 7 = .ok (.invokevirtual 252, 3)), rfl⟩
theorem d_X8_product_10 (n : Nat) : zDj (M_X8_product n) 10 (.ifCond .ne 12) 12 13 22 := ⟨(by decide +kernel : decode cX8_product 10 = .ok (.ifCond .ne 12, 3)), rfl, by decide⟩
theorem d_X8_product_13 (n : Nat) : zDc (M_X8_product n) 13 (.aload_n 0) 1 14 := ⟨(by decide +kernel : decode cX8_product 13 = .ok (.aload_n 0, 1)), rfl⟩
theorem d_X8_product_14 (n : Nat) : zDc (M_X8_product n) 14 (.bipush 47) 2 16 := ⟨(by decide +kernel : decode cX8_product 14 = .ok (.bipush 47, 2)), rfl⟩
theorem d_X8_product_16 (n : Nat) : zDc (M_X8_product n) 16 (.invokevirtual 252) 3 19 := ⟨(by decide +kernel : decode cX8_product 16 = .ok (.invokevirtual 252, 3)), rfl⟩
theorem d_X8_product_19 (n : Nat) : zDj (M_X8_product n) 19 (.ifCond .eq 29) 29 22 48 := ⟨(by decide +kernel : decode cX8_product 19 = .ok (.ifCond .eq 29, 3)), rfl, by decide⟩
theorem d_X8_product_22 (n : Nat) : zDc (M_X8_product n) 22 (.aload_n 0) 1 23 := ⟨(by decide +kernel : decode cX8_product 22 = .ok (.aload_n 0, 1)), rfl⟩
theorem d_X8_product_23 (n : Nat) : zDc (M_X8_product n) 23 (.getfield 180) 3 26 := ⟨(by decide +kernel : decode cX8_product 23 = .ok (.getfield 180, 3)), rfl⟩
theorem d_X8_product_26 (n : Nat) : zDc (M_X8_product n) 26 (.istore_n 1) 1 27 := ⟨(by decide +kernel : decode cX8_product 26 = .ok (.istore_n 1, 1)), rfl⟩
theorem d_X8_product_27 (n : Nat) : zDc (M_X8_product n) 27 (.aload_n 0) 1 28 := ⟨(by decide +kernel : decode cX8_product 27 = .ok (.aload_n 0, 1)), rfl⟩
theorem d_X8_product_28 (n : Nat) : zDc (M_X8_product n) 28 (.invokevirtual 270) 3 31 := ⟨(by decide +kernel : decode cX8_product 28 = .ok (.invokevirtual 270, 3)), rfl⟩
theorem d_X8_product_31 (n : Nat) : zDc (M_X8_product n) 31 (.aload_n 0) 1 32 := ⟨(by decide +kernel : decode cX8_product 31 = .ok (.aload_n 0, 1)), rfl⟩
theorem d_X8_product_32 (n : Nat) : zDc (M_X8_product n) 32 (.invokevirtual 273) 3 35 := ⟨(by decide +kernel : decode cX8_product 32 = .ok (.invokevirtual 273, 3)), rfl⟩
theorem d_X8_product_35 (n : Nat) : zDc (M_X8_product n) 35 (.aload_n 0) 1 36 := ⟨(by decide +kernel : decode cX8_product 35 = .ok (.aload_n 0, 1)), rfl⟩
theorem d_X8_product_36 (n : Nat) : zDc (M_X8_product n) 36 (.invokevirtual 288) 3 39 := ⟨(by decide +kernel : decode cX8_product 36 = .ok (.invokevirtual 288, 3)), rfl⟩
theorem d_X8_product_39 (n : Nat) : zDc (M_X8_product n) 39 (.aload_n 0) 1 40 := ⟨(by decide +kernel : decode cX8_product 39 = .ok (.aload_n 0, 1)), rfl⟩
theorem d_X8_product_40 (n : Nat) : zDc (M_X8_product n) 40 (.iconst 2) 1 41 := ⟨(by decide +kernel : decode cX8_product 40 = .ok (.iconst 2, 1)), rfl⟩
theorem d_X8_product_41 (n : Nat) : zDc (M_X8_product n) 41 (.iload_n 1) 1 42 := ⟨(by decide +kernel : decode cX8_product 41 = .ok (.iload_n 1, 1)), rfl⟩
theorem d_X8_product_42 (n : Nat) : zDc (M_X8_product n) 42 (.invokevirtual 276) 3 45 := ⟨(by decide +kernel : decode cX8_product 42 = .ok (.invokevirtual 276, 3)), rfl⟩
theorem d_X8_product_45 (n : Nat) : zDj (M_X8_product n) 45 (.goto (-41)) (-41) 48 4 := ⟨(by decide +kernel : decode cX8_product 45 = .ok (.goto (-41), 3)), rfl, by decide⟩
theorem d_X8_product_48 (n : Nat) : zDc (M_X8_product n) 48 (.return_) 1 49 := ⟨(by decide +kernel : decode cX8_product 48 = .ok (.return_, 1)), rfl⟩
def b_X8_product (F : (Nat → Nat → zHp → Option (Unit × zHp))) (a0 : Nat) (h0 : zHp) : Option (Unit × zHp) :=
  zbd (zcv 8 a0 h0 (F 5 a0 h0)) (fun v2 h1 =>
  zbd (
  zlp (σ := Unit) (β := Unit) zLF (fun s3 h4 =>
  zbd (zcv 8 a0 h4 (f_X8_isSign a0 42 h4)) (fun v8 h7 =>
  zbd (α := (Unit ⊕ (Unit ⊕ Unit))) (
  if v8 = 0 then
  zbd (zcv 8 a0 h7 (f_X8_isSign a0 47 h7)) (fun v10 h9 =>
  if v10 = 0 then
  some ((.inr (.inr ())), h9)
  else
  some ((.inl ()), h9))
  else
  some ((.inl ()), h7)) (fun b22 h12 => zsl b22 (fun e11 =>
  zob (zgI h12 a0 8 26) (fun v13 =>
  zbd (zcv 8 a0 h12 (f_X8_knot a0 h12)) (fun v15 h14 =>
  zbd (zcv 8 a0 h14 (f_X8_goOn a0 h14)) (fun v17 h16 =>
  zbd (zcv 8 a0 h16 (F 5 a0 h16)) (fun v19 h18 =>
  zbd (zcv 8 a0 h18 (f_X8_puts a0 2 v13 h18)) (fun v21 h20 =>
  some ((.inl ()), h20))))))) (fun r => some (r, h12))))) () h1) (fun e5 h6 =>
  some ((), h6)))
abbrev M_X8_primary (n : Nat) : zMt := (RX8, cX8_primary, 2, 8 + n, 265 + n * 21, none, "primary", 0, 0)
theorem d_X8_primary_0 (n : Nat) : zDc (M_X8_primary n) 0 (.aload_n 0) 1 1 := ⟨(by decide +kernel : decode cX8_primary 0 = .ok (.aload_n 0, 1)), rfl⟩
theorem d_X8_primary_1 (n : Nat) : zDc (M_X8_primary n) 1 (.getfield 205) 3 4 := ⟨(by decide +kernel : decode cX8_primary 1 = .ok (.getfield 205, 3)), rfl⟩
theorem d_X8_primary_4 (n : Nat) : zDj (M_X8_primary n) 4 (.ifCond .eq 4) 4 7 8 := ⟨(by decide +kernel : decode cX8_primary 4 = .ok (.ifCond .eq 4, 3)), rfl, by decide⟩
theorem d_X8_primary_7 (n : Nat) : zDc (M_X8_primary n) 7 (.return_) 1 8 := ⟨(by decide +kernel : decode cX8_primary 7 = .ok (.return_, 1)), rfl⟩
theorem d_X8_primary_8 (n : Nat) : zDc (M_X8_primary n) 8 (.aload_n 0) 1 9 := ⟨(by decide +kernel : decode cX8_primary 8 = .ok (.aload_n 0, 1)), rfl⟩
theorem d_X8_primary_9 (n : Nat) : zDc (M_X8_primary n) 9 (.bipush 40) 2 11 := ⟨(by decide +kernel : decode cX8_primary 9 = .ok (.bipush 40, 2)), rfl⟩
theorem d_X8_primary_11 (n : Nat) : zDc (M_X8_primary n) 11 (.invokevirtual 252) 3 14 := ⟨(by decide +kernel : decode cX8_primary 11 = .ok (.invokevirtual 252, 3)), rfl⟩
theorem d_X8_primary_14 (n : Nat) : zDj (M_X8_primary n) 14 (.ifCond .eq 87) 87 17 101 := ⟨(by decide +kernel : decode cX8_primary 14 = .ok (.ifCond .eq 87, 3)), rfl, by decide⟩
theorem d_X8_primary_17 (n : Nat) : zDc (M_X8_primary n) 17 (.aload_n 0) 1 18 := ⟨(by decide +kernel : decode cX8_primary 17 = .ok (.aload_n 0, 1)), rfl⟩
theorem d_X8_primary_18 (n : Nat) : zDc (M_X8_primary n) 18 (.getfield 291) 3 21 := ⟨(by decide +kernel : decode cX8_primary 18 = .ok (.getfield 291, 3)), rfl⟩
theorem d_X8_primary_21 (n : Nat) : zDc (M_X8_primary n) 21 (.bipush 8) 2 23 := ⟨(by decide +kernel : decode cX8_primary 21 = .ok (.bipush 8, 2)), rfl⟩
theorem d_X8_primary_23 (n : Nat) : zDj (M_X8_primary n) 23 (.if_icmp .ne 8) 8 26 31 := ⟨(by decide +kernel : decode cX8_primary 23 = .ok (.if_icmp .ne 8, 3)), rfl, by decide⟩
theorem d_X8_primary_26 (n : Nat) : zDc (M_X8_primary n) 26 (.aload_n 0) 1 27 := ⟨(by decide +kernel : decode cX8_primary 26 = .ok (.aload_n 0, 1)), rfl⟩
theorem d_X8_primary_27 (n : Nat) : zDc (M_X8_primary n) 27 (.iconst 2) 1 28 := ⟨(by decide +kernel : decode cX8_primary 27 = .ok (.iconst 2, 1)), rfl⟩
theorem d_X8_primary_28 (n : Nat) : zDc (M_X8_primary n) 28 (.invokevirtual 214) 3 31 := ⟨(by decide +kernel : decode cX8_primary 28 = .ok (.invokevirtual 214, 3)), rfl⟩
theorem d_X8_primary_31 (n : Nat) : zDc (M_X8_primary n) 31 (.aload_n 0) 1 32 := ⟨(by decide +kernel : decode cX8_primary 31 = .ok (.aload_n 0, 1)), rfl⟩
theorem d_X8_primary_32 (n : Nat) : zDc (M_X8_primary n) 32 (.getfield 205) 3 35 := ⟨(by decide +kernel : decode cX8_primary 32 = .ok (.getfield 205, 3)), rfl⟩
theorem d_X8_primary_35 (n : Nat) : zDj (M_X8_primary n) 35 (.ifCond .eq 4) 4 38 39 := ⟨(by decide +kernel : decode cX8_primary 35 = .ok (.ifCond .eq 4, 3)), rfl, by decide⟩
theorem d_X8_primary_38 (n : Nat) : zDc (M_X8_primary n) 38 (.return_) 1 39 := ⟨(by decide +kernel : decode cX8_primary 38 = .ok (.return_, 1)), rfl⟩
theorem d_X8_primary_39 (n : Nat) : zDc (M_X8_primary n) 39 (.aload_n 0) 1 40 := ⟨(by decide +kernel : decode cX8_primary 39 = .ok (.aload_n 0, 1)), rfl⟩
theorem d_X8_primary_40 (n : Nat) : zDc (M_X8_primary n) 40 (.dup) 1 41 := ⟨(by decide +kernel : decode cX8_primary 40 = .ok (.dup, 1)), rfl⟩
theorem d_X8_primary_41 (n : Nat) : zDc (M_X8_primary n) 41 (.getfield 291) 3 44 := ⟨(by decide +kernel : decode cX8_primary 41 = .ok (.getfield 291, 3)), rfl⟩
theorem d_X8_primary_44 (n : Nat) : zDc (M_X8_primary n) 44 (.iconst 1) 1 45 := ⟨(by decide +kernel : decode cX8_primary 44 = .ok (.iconst 1, 1)), rfl⟩
theorem d_X8_primary_45 (n : Nat) : zDc (M_X8_primary n) 45 (.iadd) 1 46 := ⟨(by decide +kernel : decode cX8_primary 45 = .ok (.iadd, 1)), rfl⟩
theorem d_X8_primary_46 (n : Nat) : zDc (M_X8_primary n) 46 (.putfield 291) 3 49 := ⟨(by decide +kernel : decode cX8_primary 46 = .ok (.putfield 291, 3)), rfl⟩
theorem d_X8_primary_49 (n : Nat) : zDc (M_X8_primary n) 49 (.aload_n 0) 1 50 := ⟨(by decide +kernel : decode cX8_primary 49 = .ok (.aload_n 0, 1)), rfl⟩
theorem d_X8_primary_50 (n : Nat) : zDc (M_X8_primary n) 50 (.invokevirtual 211) 3 53 := ⟨(by decide +kernel : decode cX8_primary 50 = .ok (.invokevirtual 211, 3)), rfl⟩
theorem d_X8_primary_53 (n : Nat) : zDc (M_X8_primary n) 53 (.aload_n 0) 1 54 := ⟨(by decide +kernel : decode cX8_primary 53 = .ok (.aload_n 0, 1)), rfl⟩
theorem d_X8_primary_54 (n : Nat) : zDc (M_X8_primary n) 54 (.invokevirtual 258) 3 57 := ⟨(by decide +kernel : decode cX8_primary 54 = .ok (.invokevirtual 258, 3)), rfl⟩
theorem d_X8_primary_57 (n : Nat) : zDc (M_X8_primary n) 57 (.aload_n 0) 1 58 := ⟨(by decide +kernel : decode cX8_primary 57 = .ok (.aload_n 0, 1)), rfl⟩
theorem d_X8_primary_58 (n : Nat) : zDc (M_X8_primary n) 58 (.getfield 205) 3 61 := ⟨(by decide +kernel : decode cX8_primary 58 = .ok (.getfield 205, 3)), rfl⟩
theorem d_X8_primary_61 (n : Nat) : zDj (M_X8_primary n) 61 (.ifCond .ne 17) 17 64 78 := ⟨(by decide +kernel : decode cX8_primary 61 = .ok (.ifCond .ne 17, 3)), rfl, by decide⟩
theorem d_X8_primary_64 (n : Nat) : zDc (M_X8_primary n) 64 (.aload_n 0) 1 65 := ⟨(by decide +kernel : decode cX8_primary 64 = .ok (.aload_n 0, 1)), rfl⟩
theorem d_X8_primary_65 (n : Nat) : zDc (M_X8_primary n) 65 (.bipush 41) 2 67 := ⟨(by decide +kernel : decode cX8_primary 65 = .ok (.bipush 41, 2)), rfl⟩
theorem d_X8_primary_67 (n : Nat) : zDc (M_X8_primary n) 67 (.invokevirtual 252) 3 70 := ⟨(by decide +kernel : decode cX8_primary 67 = .ok (.invokevirtual 252, 3)), rfl⟩
theorem d_X8_primary_70 (n : Nat) : zDj (M_X8_primary n) 70 (.ifCond .ne 8) 8 73 78 := ⟨(by decide +kernel : decode cX8_primary 70 = .ok (.ifCond .ne 8, 3)), rfl, by decide⟩
theorem d_X8_primary_73 (n : Nat) : zDc (M_X8_primary n) 73 (.aload_n 0) 1 74 := ⟨(by decide +kernel : decode cX8_primary 73 = .ok (.aload_n 0, 1)), rfl⟩
theorem d_X8_primary_74 (n : Nat) : zDc (M_X8_primary n) 74 (.iconst 1) 1 75 := ⟨(by decide +kernel : decode cX8_primary 74 = .ok (.iconst 1, 1)), rfl⟩
theorem d_X8_primary_75 (n : Nat) : zDc (M_X8_primary n) 75 (.invokevirtual 214) 3 78 := ⟨(by decide +kernel : decode cX8_primary 75 = .ok (.invokevirtual 214, 3)), rfl⟩
theorem d_X8_primary_78 (n : Nat) : zDc (M_X8_primary n) 78 (.aload_n 0) 1 79 := ⟨(by decide +kernel : decode cX8_primary 78 = .ok (.aload_n 0, 1)), rfl⟩
theorem d_X8_primary_79 (n : Nat) : zDc (M_X8_primary n) 79 (.getfield 205) 3 82 := ⟨(by decide +kernel : decode cX8_primary 79 = .ok (.getfield 205, 3)), rfl⟩
theorem d_X8_primary_82 (n : Nat) : zDj (M_X8_primary n) 82 (.ifCond .eq 4) 4 85 86 := ⟨(by decide +kernel : decode cX8_primary 82 = .ok (.ifCond .eq 4, 3)), rfl, by decide⟩
theorem d_X8_primary_85 (n : Nat) : zDc (M_X8_primary n) 85 (.return_) 1 86 := ⟨(by decide +kernel : decode cX8_primary 85 = .ok (.return_, 1)), rfl⟩
theorem d_X8_primary_86 (n : Nat) : zDc (M_X8_primary n) 86 (.aload_n 0) 1 87 := ⟨(by decide +kernel : decode cX8_primary 86 = .ok (.aload_n 0, 1)), rfl⟩
theorem d_X8_primary_87 (n : Nat) : zDc (M_X8_primary n) 87 (.dup) 1 88 := ⟨(by decide +kernel : decode cX8_primary 87 = .ok (.dup, 1)), rfl⟩
theorem d_X8_primary_88 (n : Nat) : zDc (M_X8_primary n) 88 (.getfield 291) 3 91 := ⟨(by decide +kernel : decode cX8_primary 88 = .ok (.getfield 291, 3)), rfl⟩
theorem d_X8_primary_91 (n : Nat) : zDc (M_X8_primary n) 91 (.iconst 1) 1 92 := ⟨(by decide +kernel : decode cX8_primary 91 = .ok (.iconst 1, 1)), rfl⟩
theorem d_X8_primary_92 (n : Nat) : zDc (M_X8_primary n) 92 (.isub) 1 93 := ⟨(by decide +kernel : decode cX8_primary 92 = .ok (.isub, 1)), rfl⟩
theorem d_X8_primary_93 (n : Nat) : zDc (M_X8_primary n) 93 (.putfield 291) 3 96 := ⟨(by decide +kernel : decode cX8_primary 93 = .ok (.putfield 291, 3)), rfl⟩
theorem d_X8_primary_96 (n : Nat) : zDc (M_X8_primary n) 96 (.aload_n 0) 1 97 := ⟨(by decide +kernel : decode cX8_primary 96 = .ok (.aload_n 0, 1)), rfl⟩
theorem d_X8_primary_97 (n : Nat) : zDc (M_X8_primary n) 97 (.invokevirtual 211) 3 100 := ⟨(by decide +kernel : decode cX8_primary 97 = .ok (.invokevirtual 211, 3)), rfl⟩
theorem d_X8_primary_100 (n : Nat) : zDc (M_X8_primary n) 100 (.return_) 1 101 := ⟨(by decide +kernel : decode cX8_primary 100 = .ok (.return_, 1)), rfl⟩
theorem d_X8_primary_101 (n : Nat) : zDc (M_X8_primary n) 101 (.aload_n 0) 1 102 := ⟨(by decide +kernel : decode cX8_primary 101 = .ok (.aload_n 0, 1)), rfl⟩
theorem d_X8_primary_102 (n : Nat) : zDc (M_X8_primary n) 102 (.getfield 170) 3 105 := ⟨(by decide +kernel : decode cX8_primary 102 = .ok (.getfield 170, 3)), rfl⟩
theorem d_X8_primary_105 (n : Nat) : zDc (M_X8_primary n) 105 (.iconst 2) 1 106 := ⟨(by decide +kernel : decode cX8_primary 105 = .ok (.iconst 2, 1)), rfl⟩
theorem d_X8_primary_106 (n : Nat) : zDj (M_X8_primary n) 106 (.if_icmp .ne 7) 7 109 113 := ⟨(by decide +kernel : decode cX8_primary 106 = .ok (.if_icmp .ne 7, 3)), rfl, by decide⟩
theorem d_X8_primary_109 (n : Nat) : zDc (M_X8_primary n) 109 (.iconst 1) 1 110 := ⟨(by decide +kernel : decode cX8_primary 109 = .ok (.iconst 1, 1)), rfl⟩
theorem d_X8_primary_110 (n : Nat) : zDj (M_X8_primary n) 110 (.goto 4) 4 113 114 := ⟨(by decide +kernel : decode cX8_primary 110 = .ok (.goto 4, 3)), rfl, by decide⟩
theorem d_X8_primary_113 (n : Nat) : zDc (M_X8_primary n) 113 (.iconst 0) 1 114 := ⟨(by decide +kernel : decode cX8_primary 113 = .ok (.iconst 0, 1)), rfl⟩
theorem d_X8_primary_114 (n : Nat) : zDc (M_X8_primary n) 114 (.istore_n 1) 1 115 := ⟨(by decide +kernel : decode cX8_primary 114 = .ok (.istore_n 1, 1)), rfl⟩
theorem d_X8_primary_115 (n : Nat) : zDc (M_X8_primary n) 115 (.iload_n 1) 1 116 := ⟨(by decide +kernel : decode cX8_primary 115 = .ok (.iload_n 1, 1)), rfl⟩
theorem d_X8_primary_116 (n : Nat) : zDj (M_X8_primary n) 116 (.ifCond .eq 21) 21 119 137 := ⟨(by decide +kernel : decode cX8_primary 116 = .ok (.ifCond .eq 21, 3)), rfl, by decide⟩
theorem d_X8_primary_119 (n : Nat) : zDc (M_X8_primary n) 119 (.aload_n 0) 1 120 := ⟨(by decide +kernel : decode cX8_primary 119 = .ok (.aload_n 0, 1)), rfl⟩
theorem d_X8_primary_120 (n : Nat) : zDc (M_X8_primary n) 120 (.getfield 180) 3 123 := ⟨(by decide +kernel : decode cX8_primary 120 = .ok (.getfield 180, 3)), rfl⟩
theorem d_X8_primary_123 (n : Nat) : zDc (M_X8_primary n) 123 (.sipush 9999) 3 126 := ⟨(by decide +kernel : decode cX8_primary 123 = .ok (.sipush 9999, 3)), rfl⟩
theorem d_X8_primary_126 (n : Nat) : zDj (M_X8_primary n) 126 (.if_icmp .le 11) 11 129 137 := ⟨(by decide +kernel : decode cX8_primary 126 = .ok (.if_icmp .le 11, 3)), rfl, by decide⟩
theorem d_X8_primary_129 (n : Nat) : zDc (M_X8_primary n) 129 (.aload_n 0) 1 130 := ⟨(by decide +kernel : decode cX8_primary 129 = .ok (.aload_n 0, 1)), rfl⟩
theorem d_X8_primary_130 (n : Nat) : zDc (M_X8_primary n) 130 (.iconst 2) 1 131 := ⟨(by decide +kernel : decode cX8_primary 130 = .ok (.iconst 2, 1)), rfl⟩
theorem d_X8_primary_131 (n : Nat) : zDc (M_X8_primary n) 131 (.invokevirtual 214) 3 134 := ⟨(by decide +kernel : decode cX8_primary 131 = .ok (.invokevirtual 214, 3)), rfl⟩
theorem d_X8_primary_134 (n : Nat) : zDj (M_X8_primary n) 134 (.goto 28) 28 137 162 := ⟨(by decide +kernel : decode cX8_primary 134 = .ok (.goto 28, 3)), rfl, by decide⟩
theorem d_X8_primary_137 (n : Nat) : zDc (M_X8_primary n) 137 (.iload_n 1) 1 138 := ⟨(by decide +kernel : decode cX8_primary 137 = .ok (.iload_n 1, 1)), rfl⟩
theorem d_X8_primary_138 (n : Nat) : zDj (M_X8_primary n) 138 (.ifCond .ne 24) 24 141 162 := ⟨(by decide +kernel : decode cX8_primary 138 = .ok (.ifCond .ne 24, 3)), rfl, by decide⟩
theorem d_X8_primary_141 (n : Nat) : zDc (M_X8_primary n) 141 (.aload_n 0) 1 142 := ⟨(by decide +kernel : decode cX8_primary 141 = .ok (.aload_n 0, 1)), rfl⟩
theorem d_X8_primary_142 (n : Nat) : zDc (M_X8_primary n) 142 (.getfield 170) 3 145 := ⟨(by decide +kernel : decode cX8_primary 142 = .ok (.getfield 170, 3)), rfl⟩
theorem d_X8_primary_145 (n : Nat) : zDj (M_X8_primary n) 145 (.ifCond .ne 12) 12 148 157 := ⟨(by decide +kernel : decode cX8_primary 145 = .ok (.ifCond .ne 12, 3)), rfl, by decide⟩
theorem d_X8_primary_148 (n : Nat) : zDc (M_X8_primary n) 148 (.aload_n 0) 1 149 := ⟨(by decide +kernel : decode cX8_primary 148 = .ok (.aload_n 0, 1)), rfl⟩
theorem d_X8_primary_149 (n : Nat) : zDc (M_X8_primary n) 149 (.getfield 180) 3 152 := ⟨(by decide +kernel : decode cX8_primary 149 = .ok (.getfield 180, 3)), rfl⟩
theorem d_X8_primary_152 (n : Nat) : zDc (M_X8_primary n) 152 (.bipush 16) 2 154 := ⟨(by decide +kernel : decode cX8_primary 152 = .ok (.bipush 16, 2)), rfl⟩
theorem d_X8_primary_154 (n : Nat) : zDj (M_X8_primary n) 154 (.if_icmp .ge 8) 8 157 162 := ⟨(by decide +kernel : decode cX8_primary 154 = .ok (.if_icmp .ge 8, 3)), rfl, by decide⟩
theorem d_X8_primary_157 (n : Nat) : zDc (M_X8_primary n) 157 (.aload_n 0) 1 158 := ⟨(by decide +kernel : decode cX8_primary 157 = .ok (.aload_n 0, 1)), rfl⟩
theorem d_X8_primary_158 (n : Nat) : zDc (M_X8_primary n) 158 (.iconst 1) 1 159 := ⟨(by decide +kernel : decode cX8_primary 158 = .ok (.iconst 1, 1)), rfl⟩
theorem d_X8_primary_159 (n : Nat) : zDc (M_X8_primary n) 159 (.invokevirtual 214) 3 162 := ⟨(by decide +kernel : decode cX8_primary 159 = .ok (.invokevirtual 214, 3)), rfl⟩
theorem d_X8_primary_162 (n : Nat) : zDc (M_X8_primary n) 162 (.aload_n 0) 1 163 := ⟨(by decide +kernel : decode cX8_primary 162 = .ok (.aload_n 0, 1)), rfl⟩
theorem d_X8_primary_163 (n : Nat) : zDc (M_X8_primary n) 163 (.invokevirtual 270) 3 166 := ⟨(by decide +kernel : decode cX8_primary 163 = .ok (.invokevirtual 270, 3)), rfl⟩
theorem d_X8_primary_166 (n : Nat) : zDc (M_X8_primary n) 166 (.aload_n 0) 1 167 := ⟨(by decide +kernel : decode cX8_primary 166 = .ok (.aload_n 0, 1)), rfl⟩
theorem d_X8_primary_167 (n : Nat) : zDc (M_X8_primary n) 167 (.iload_n 1) 1 168 := ⟨(by decide +kernel : decode cX8_primary 167 = .ok (.iload_n 1, 1)), rfl⟩
theorem d_X8_primary_168 (n : Nat) : zDj (M_X8_primary n) 168 (.ifCond .eq 7) 7 171 175 := ⟨(by decide +kernel : decode cX8_primary 168 = .ok (.ifCond .eq 7, 3)), rfl, by decide⟩
theorem d_X8_primary_171 (n : Nat) : zDc (M_X8_primary n) 171 (.iconst 0) 1 172 := ⟨(by decide +kernel : decode cX8_primary 171 = .ok (.iconst 0, 1)), rfl⟩
theorem d_X8_primary_172 (n : Nat) : zDj (M_X8_primary n) 172 (.goto 4) 4 175 176 := ⟨(by decide +kernel : decode cX8_primary 172 = .ok (.goto 4, 3)), rfl, by decide⟩
theorem d_X8_primary_175 (n : Nat) : zDc (M_X8_primary n) 175 (.iconst 1) 1 176 := ⟨(by decide +kernel : decode cX8_primary 175 = .ok (.iconst 1, 1)), rfl⟩
theorem d_X8_primary_176 (n : Nat) : zDc (M_X8_primary n) 176 (.iload_n 1) 1 177 := ⟨(by decide +kernel : decode cX8_primary 176 = .ok (.iload_n 1, 1)), rfl⟩
theorem d_X8_primary_177 (n : Nat) : zDj (M_X8_primary n) 177 (.ifCond .eq 10) 10 180 187 := ⟨(by decide +kernel : decode cX8_primary 177 = .ok (.ifCond .eq 10, 3)), rfl, by decide⟩
theorem d_X8_primary_180 (n : Nat) : zDc (M_X8_primary n) 180 (.aload_n 0) 1 181 := ⟨(by decide +kernel : decode cX8_primary 180 = .ok (.aload_n 0, 1)), rfl⟩
theorem d_X8_primary_181 (n : Nat) : zDc (M_X8_primary n) 181 (.getfield 180) 3 184 := ⟨(by decide +kernel : decode cX8_primary 181 = .ok (.getfield 180, 3)), rfl⟩
theorem d_X8_primary_184 (n : Nat) : zDj (M_X8_primary n) 184 (.goto 10) 10 187 194 := ⟨(by decide +kernel : decode cX8_primary 184 = .ok (.goto 10, 3)), rfl, by decide⟩
theorem d_X8_primary_187 (n : Nat) : zDc (M_X8_primary n) 187 (.aload_n 0) 1 188 := ⟨(by decide +kernel : decode cX8_primary 187 = .ok (.aload_n 0, 1)), rfl⟩
theorem d_X8_primary_188 (n : Nat) : zDc (M_X8_primary n) 188 (.getfield 180) 3 191 := ⟨(by decide +kernel : decode cX8_primary 188 = .ok (.getfield 180, 3)), rfl⟩
theorem d_X8_primary_191 (n : Nat) : zDc (M_X8_primary n) 191 (.bipush 16) 2 193 := ⟨(by decide +kernel : decode cX8_primary 191 = .ok (.bipush 16, 2)), rfl⟩
theorem d_X8_primary_193 (n : Nat) : zDc (M_X8_primary n) 193 (.isub) 1 194 := ⟨(by decide +kernel : decode cX8_primary 193 = .ok (.isub, 1)), rfl⟩
theorem d_X8_primary_194 (n : Nat) : zDc (M_X8_primary n) 194 (.invokevirtual 276) 3 197 := ⟨(by decide +kernel : decode cX8_primary 194 = .ok (.invokevirtual 276, 3)), rfl⟩
theorem d_X8_primary_197 (n : Nat) : zDc (M_X8_primary n) 197 (.aload_n 0) 1 198 := ⟨(by decide +kernel : decode cX8_primary 197 = .ok (.aload_n 0, 1)), rfl⟩
theorem d_X8_primary_198 (n : Nat) : zDc (M_X8_primary n) 198 (.invokevirtual 273) 3 201 := ⟨(by decide +kernel : decode cX8_primary 198 = .ok (.invokevirtual 273, 3)), rfl⟩
theorem d_X8_primary_201 (n : Nat) : zDc (M_X8_primary n) 201 (.return_) 1 202 := ⟨(by decide +kernel : decode cX8_primary 201 = .ok (.return_, 1)), rfl⟩
def b_X8_primary (F : (Nat → Nat → zHp → Option (Unit × zHp))) (a0 : Nat) (h0 : zHp) : Option (Unit × zHp) :=
  zob (zgI h0 a0 8 27) (fun v1 =>
  if v1 = 0 then
  zbd (zcv 8 a0 h0 (f_X8_isSign a0 40 h0)) (fun v3 h2 =>
  if v3 = 0 then
  zob (zgI h2 a0 8 25) (fun v4 =>
  zbd (α := Int32) (
  if v4 = 2 then
  some (1, h2)
  else
  some (0, h2)) (fun e5 h6 =>
  zbd (α := Unit) (
  if e5 = 0 then
  if e5 = 0 then
  zob (zgI h6 a0 8 25) (fun v7 =>
  zbd (α := (Unit ⊕ Unit)) (
  if v7 = 0 then
  zob (zgI h6 a0 8 26) (fun v8 =>
  if 16 ≤ v8 then
  some ((.inr ()), h6)
  else
  some ((.inl ()), h6))
  else
  some ((.inl ()), h6)) (fun b60 h10 => zsl b60 (fun e9 =>
  zbd (zcv 8 a0 h10 (f_X8_wrong a0 1 h10)) (fun v12 h11 =>
  some ((), h11))) (fun r => some (r, h10))))
  else
  some ((), h6)
  else
  zob (zgI h6 a0 8 26) (fun v13 =>
  if v13 ≤ 9999 then
  if e5 = 0 then
  zob (zgI h6 a0 8 25) (fun v14 =>
  zbd (α := (Unit ⊕ Unit)) (
  if v14 = 0 then
  zob (zgI h6 a0 8 26) (fun v15 =>
  if 16 ≤ v15 then
  some ((.inr ()), h6)
  else
  some ((.inl ()), h6))
  else
  some ((.inl ()), h6)) (fun b61 h17 => zsl b61 (fun e16 =>
  zbd (zcv 8 a0 h17 (f_X8_wrong a0 1 h17)) (fun v19 h18 =>
  some ((), h18))) (fun r => some (r, h17))))
  else
  some ((), h6)
  else
  zbd (zcv 8 a0 h6 (f_X8_wrong a0 2 h6)) (fun v21 h20 =>
  some ((), h20)))) (fun e22 h23 =>
  zbd (zcv 8 a0 h23 (f_X8_knot a0 h23)) (fun v25 h24 =>
  zbd (α := Int32) (
  if e5 = 0 then
  some (1, h24)
  else
  some (0, h24)) (fun e26 h27 =>
  zbd (α := Int32) (
  if e5 = 0 then
  zob (zgI h27 a0 8 26) (fun v28 =>
  some ((v28 - 16), h27))
  else
  zob (zgI h27 a0 8 26) (fun v29 =>
  some (v29, h27))) (fun e30 h31 =>
  zbd (zcv 8 a0 h31 (f_X8_puts a0 e26 e30 h31)) (fun v33 h32 =>
  zbd (zcv 8 a0 h32 (f_X8_goOn a0 h32)) (fun v35 h34 =>
  some ((), h34)))))))))
  else
  zob (zgI h2 a0 8 31) (fun v36 =>
  zbd (α := Unit) (
  if v36 = 8 then
  zbd (zcv 8 a0 h2 (f_X8_wrong a0 2 h2)) (fun v38 h37 =>
  some ((), h37))
  else
  some ((), h2)) (fun e39 h40 =>
  zob (zgI h40 a0 8 27) (fun v41 =>
  if v41 = 0 then
  zob (zgI h40 a0 8 31) (fun v42 =>
  zob (zpV h40 a0 8 31 (.int (v42 + 1))) (fun h43 =>
  zbd (zcv 8 a0 h43 (f_X8_token a0 h43)) (fun v45 h44 =>
  zbd (zcv 8 a0 h44 (F 0 a0 h44)) (fun v47 h46 =>
  zob (zgI h46 a0 8 27) (fun v48 =>
  zbd (α := Unit) (
  if v48 = 0 then
  zbd (zcv 8 a0 h46 (f_X8_isSign a0 41 h46)) (fun v50 h49 =>
  if v50 = 0 then
  zbd (zcv 8 a0 h49 (f_X8_wrong a0 1 h49)) (fun v52 h51 =>
  some ((), h51))
  else
  some ((), h49))
  else
  some ((), h46)) (fun e53 h54 =>
  zob (zgI h54 a0 8 27) (fun v55 =>
  if v55 = 0 then
  zob (zgI h54 a0 8 31) (fun v56 =>
  zob (zpV h54 a0 8 31 (.int (v56 - 1))) (fun h57 =>
  zbd (zcv 8 a0 h57 (f_X8_token a0 h57)) (fun v59 h58 =>
  some ((), h58))))
  else
  some ((), h54))))))))
  else
  some ((), h40)))))
  else
  some ((), h0))
def f_E : Nat → Nat → Nat → zHp → Option (Unit × zHp)
  | 0 => fun _ _ _ => none
  | n + 1 => fun k => match k with
    | 0 => b_X8_expression (f_E n)
    | 1 => b_X8_conjunction (f_E n)
    | 2 => b_X8_negation (f_E n)
    | 3 => b_X8_sum (f_E n)
    | 4 => b_X8_product (f_E n)
    | _ => b_X8_primary (f_E n)
set_option maxRecDepth 100000 in
set_option maxHeartbeats 4000000 in
theorem t_E : ∀ n : Nat, (∀ (a0 : Nat) (h0 : zHp) (r : Unit) (h' : zHp), f_E n 0 a0 h0 = some (r, h') → zCt yX8_expression (.code yX8_expression cX8_expression 1 none) (8 + n) (265 + n * 21) 0 0 [.ref a0] h0 (none) h') ∧ (∀ (a0 : Nat) (h0 : zHp) (r : Unit) (h' : zHp), f_E n 1 a0 h0 = some (r, h') → zCt yX8_conjunction (.code yX8_conjunction cX8_conjunction 1 none) (8 + n) (265 + n * 21) 0 0 [.ref a0] h0 (none) h') ∧ (∀ (a0 : Nat) (h0 : zHp) (r : Unit) (h' : zHp), f_E n 2 a0 h0 = some (r, h') → zCt yX8_negation (.code yX8_negation cX8_negation 2 none) (8 + n) (265 + n * 21) 0 0 [.ref a0] h0 (none) h') ∧ (∀ (a0 : Nat) (h0 : zHp) (r : Unit) (h' : zHp), f_E n 3 a0 h0 = some (r, h') → zCt yX8_sum (.code yX8_sum cX8_sum 2 none) (8 + n) (265 + n * 21) 0 0 [.ref a0] h0 (none) h') ∧ (∀ (a0 : Nat) (h0 : zHp) (r : Unit) (h' : zHp), f_E n 4 a0 h0 = some (r, h') → zCt yX8_product (.code yX8_product cX8_product 2 none) (8 + n) (265 + n * 21) 0 0 [.ref a0] h0 (none) h') ∧ (∀ (a0 : Nat) (h0 : zHp) (r : Unit) (h' : zHp), f_E n 5 a0 h0 = some (r, h') → zCt yX8_primary (.code yX8_primary cX8_primary 2 none) (8 + n) (265 + n * 21) 0 0 [.ref a0] h0 (none) h') := by
  intro n
  induction n with
  | zero => exact ⟨(by intro a0 h0 r h' hc; cases hc), (by intro a0 h0 r h' hc; cases hc), (by intro a0 h0 r h' hc; cases hc), (by intro a0 h0 r h' hc; cases hc), (by intro a0 h0 r h' hc; cases hc), (by intro a0 h0 r h' hc; cases hc)⟩
  | succ n ih =>
    refine ⟨?_, ?_, ?_, ?_, ?_, ?_⟩
    · intro a0 h0
      refine zct_of (M_X8_expression (n + 1)) yX8_expression (by decide) rfl rfl [.ref a0] h0 (Nat.le_of_ble_eq_true rfl) (fun _ => none) (fun X => ?_)
      show zG X (M_X8_expression (n + 1)) (0, 0) 0 [(0, .ref a0)] [] h0 (b_X8_expression (f_E n) a0 h0) (fun (_ : Unit) h' => zKe X (none) h')
      unfold b_X8_expression
      refine zg_aload_n 0 rfl (d_X8_expression_0 _) ?_
      refine zg_cVv (b := a0) (As := []) (rest := []) (0, 0) (d_X8_expression_1 _) zc_8 rfl cw_X8_264 wi_X8_conjunction ws_X8_conjunction rfl rfl (Nat.le_of_ble_eq_true rfl) (Nat.le_refl _) (by show 8 + (1 + 11) + (265 + n * 21) ≤ 265 + (n + 1) * 21; omega) ⟨Nat.le_refl _, Nat.le_refl _⟩ rfl (ih.2.1 a0 h0) (fun v2 h1 => ?_)
      refine zg_bd (E := 36) (el := (fun (e5 : Unit) => [(0, .ref a0)])) (es := fun _ => []) (zg_sub [0] rfl (zg_lp (el := (fun (s3 : Unit) => [(0, .ref a0)])) (fun s3 h4 => ?_) () h1)) (fun e5 h6 => ?_)
      · refine zg_aload_n 0 rfl (d_X8_expression_4 _) ?_
        refine zg_bipush 13 rfl (d_X8_expression_5 _) ?_
        refine zg_cVi (b := a0) (As := [.int 13]) (rest := []) (0, 0) (d_X8_expression_7 _) zc_8 rfl cw_X8_267 wi_X8_isWord ws_X8_isWord rfl rfl (Nat.le_of_ble_eq_true rfl) (Nat.le_trans (Nat.le_of_ble_eq_true rfl : 1 + 1 ≤ 8) (Nat.le_add_right _ _)) (Nat.le_trans (Nat.le_of_ble_eq_true rfl : 8 + (2 + 11) + 60 ≤ 265) (Nat.le_add_right _ _)) ⟨Nat.le_refl _, Nat.le_refl _⟩ rfl (t_X8_isWord a0 13 h4) (fun v8 h7 => ?_)
        refine zg_if_eq (d_X8_expression_10 _) ?_ ?_
        · exact zg_finK (E := 0) [0] rfl rfl (fun q => q)
        · refine zg_aload_n 0 rfl (d_X8_expression_13 _) ?_
          refine zg_cVv (b := a0) (As := []) (rest := []) (0, 0) (d_X8_expression_14 _) zc_8 rfl cw_X8_270 wi_X8_knot ws_X8_knot rfl rfl (Nat.le_of_ble_eq_true rfl) (Nat.le_trans (Nat.le_of_ble_eq_true rfl : 2 + 1 ≤ 8) (Nat.le_add_right _ _)) (Nat.le_trans (Nat.le_of_ble_eq_true rfl : 8 + (1 + 11) + 81 ≤ 265) (Nat.le_add_right _ _)) ⟨Nat.le_refl _, Nat.le_refl _⟩ rfl (t_X8_knot a0 h7) (fun v10 h9 => ?_)
          refine zg_aload_n 0 rfl (d_X8_expression_17 _) ?_
          refine zg_cVv (b := a0) (As := []) (rest := []) (0, 0) (d_X8_expression_18 _) zc_8 rfl cw_X8_273 wi_X8_goOn ws_X8_goOn rfl rfl (Nat.le_of_ble_eq_true rfl) (Nat.le_trans (Nat.le_of_ble_eq_true rfl : 7 + 1 ≤ 8) (Nat.le_add_right _ _)) (Nat.le_trans (Nat.le_of_ble_eq_true rfl : 8 + (1 + 11) + 245 ≤ 265) (Nat.le_add_right _ _)) ⟨Nat.le_refl _, Nat.le_refl _⟩ rfl (t_X8_goOn a0 h9) (fun v12 h11 => ?_)
          refine zg_aload_n 0 rfl (d_X8_expression_21 _) ?_
          refine zg_cVv (b := a0) (As := []) (rest := []) (0, 0) (d_X8_expression_22 _) zc_8 rfl cw_X8_264 wi_X8_conjunction ws_X8_conjunction rfl rfl (Nat.le_of_ble_eq_true rfl) (Nat.le_refl _) (by show 8 + (1 + 11) + (265 + n * 21) ≤ 265 + (n + 1) * 21; omega) ⟨Nat.le_refl _, Nat.le_refl _⟩ rfl (ih.2.1 a0 h11) (fun v14 h13 => ?_)
          refine zg_aload_n 0 rfl (d_X8_expression_25 _) ?_
          refine zg_iconst 2 rfl (d_X8_expression_26 _) ?_
          refine zg_sipush 262 rfl (d_X8_expression_27 _) ?_
          refine zg_cVv (b := a0) (As := [.int 2, .int 262]) (rest := []) (0, 0) (d_X8_expression_30 _) zc_8 rfl cw_X8_276 wi_X8_puts ws_X8_puts rfl rfl (Nat.le_of_ble_eq_true rfl) (Nat.le_trans (Nat.le_of_ble_eq_true rfl : 2 + 1 ≤ 8) (Nat.le_add_right _ _)) (Nat.le_trans (Nat.le_of_ble_eq_true rfl : 8 + (3 + 11) + 82 ≤ 265) (Nat.le_add_right _ _)) ⟨Nat.le_refl _, Nat.le_refl _⟩ rfl (t_X8_puts a0 2 262 h13) (fun v16 h15 => ?_)
          refine zg_goto (d_X8_expression_33 _) ?_
          exact zg_finK (E := 0) [0] rfl rfl (fun q => q)
      · exact zg_vretK (d_X8_expression_36 _) rfl ⟨Nat.le_of_ble_eq_true rfl, Nat.le_of_ble_eq_true rfl⟩ (fun q => q)
    · intro a0 h0
      refine zct_of (M_X8_conjunction (n + 1)) yX8_conjunction (by decide) rfl rfl [.ref a0] h0 (Nat.le_of_ble_eq_true rfl) (fun _ => none) (fun X => ?_)
      show zG X (M_X8_conjunction (n + 1)) (0, 0) 0 [(0, .ref a0)] [] h0 (b_X8_conjunction (f_E n) a0 h0) (fun (_ : Unit) h' => zKe X (none) h')
      unfold b_X8_conjunction
      refine zg_aload_n 0 rfl (d_X8_conjunction_0 _) ?_
      refine zg_cVv (b := a0) (As := []) (rest := []) (0, 0) (d_X8_conjunction_1 _) zc_8 rfl cw_X8_279 wi_X8_negation ws_X8_negation rfl rfl (Nat.le_of_ble_eq_true rfl) (Nat.le_refl _) (by show 8 + (2 + 11) + (265 + n * 21) ≤ 265 + (n + 1) * 21; omega) ⟨Nat.le_refl _, Nat.le_refl _⟩ rfl (ih.2.2.1 a0 h0) (fun v2 h1 => ?_)
      refine zg_bd (E := 36) (el := (fun (e5 : Unit) => [(0, .ref a0)])) (es := fun _ => []) (zg_sub [0] rfl (zg_lp (el := (fun (s3 : Unit) => [(0, .ref a0)])) (fun s3 h4 => ?_) () h1)) (fun e5 h6 => ?_)
      · refine zg_aload_n 0 rfl (d_X8_conjunction_4 _) ?_
        refine zg_bipush 14 rfl (d_X8_conjunction_5 _) ?_
        refine zg_cVi (b := a0) (As := [.int 14]) (rest := []) (0, 0) (d_X8_conjunction_7 _) zc_8 rfl cw_X8_267 wi_X8_isWord ws_X8_isWord rfl rfl (Nat.le_of_ble_eq_true rfl) (Nat.le_trans (Nat.le_of_ble_eq_true rfl : 1 + 1 ≤ 8) (Nat.le_add_right _ _)) (Nat.le_trans (Nat.le_of_ble_eq_true rfl : 8 + (2 + 11) + 60 ≤ 265) (Nat.le_add_right _ _)) ⟨Nat.le_refl _, Nat.le_refl _⟩ rfl (t_X8_isWord a0 14 h4) (fun v8 h7 => ?_)
        refine zg_if_eq (d_X8_conjunction_10 _) ?_ ?_
        · exact zg_finK (E := 0) [0] rfl rfl (fun q => q)
        · refine zg_aload_n 0 rfl (d_X8_conjunction_13 _) ?_
          refine zg_cVv (b := a0) (As := []) (rest := []) (0, 0) (d_X8_conjunction_14 _) zc_8 rfl cw_X8_270 wi_X8_knot ws_X8_knot rfl rfl (Nat.le_of_ble_eq_true rfl) (Nat.le_trans (Nat.le_of_ble_eq_true rfl : 2 + 1 ≤ 8) (Nat.le_add_right _ _)) (Nat.le_trans (Nat.le_of_ble_eq_true rfl : 8 + (1 + 11) + 81 ≤ 265) (Nat.le_add_right _ _)) ⟨Nat.le_refl _, Nat.le_refl _⟩ rfl (t_X8_knot a0 h7) (fun v10 h9 => ?_)
          refine zg_aload_n 0 rfl (d_X8_conjunction_17 _) ?_
          refine zg_cVv (b := a0) (As := []) (rest := []) (0, 0) (d_X8_conjunction_18 _) zc_8 rfl cw_X8_273 wi_X8_goOn ws_X8_goOn rfl rfl (Nat.le_of_ble_eq_true rfl) (Nat.le_trans (Nat.le_of_ble_eq_true rfl : 7 + 1 ≤ 8) (Nat.le_add_right _ _)) (Nat.le_trans (Nat.le_of_ble_eq_true rfl : 8 + (1 + 11) + 245 ≤ 265) (Nat.le_add_right _ _)) ⟨Nat.le_refl _, Nat.le_refl _⟩ rfl (t_X8_goOn a0 h9) (fun v12 h11 => ?_)
          refine zg_aload_n 0 rfl (d_X8_conjunction_21 _) ?_
          refine zg_cVv (b := a0) (As := []) (rest := []) (0, 0) (d_X8_conjunction_22 _) zc_8 rfl cw_X8_279 wi_X8_negation ws_X8_negation rfl rfl (Nat.le_of_ble_eq_true rfl) (Nat.le_refl _) (by show 8 + (2 + 11) + (265 + n * 21) ≤ 265 + (n + 1) * 21; omega) ⟨Nat.le_refl _, Nat.le_refl _⟩ rfl (ih.2.2.1 a0 h11) (fun v14 h13 => ?_)
          refine zg_aload_n 0 rfl (d_X8_conjunction_25 _) ?_
          refine zg_iconst 2 rfl (d_X8_conjunction_26 _) ?_
          refine zg_sipush 261 rfl (d_X8_conjunction_27 _) ?_
          refine zg_cVv (b := a0) (As := [.int 2, .int 261]) (rest := []) (0, 0) (d_X8_conjunction_30 _) zc_8 rfl cw_X8_276 wi_X8_puts ws_X8_puts rfl rfl (Nat.le_of_ble_eq_true rfl) (Nat.le_trans (Nat.le_of_ble_eq_true rfl : 2 + 1 ≤ 8) (Nat.le_add_right _ _)) (Nat.le_trans (Nat.le_of_ble_eq_true rfl : 8 + (3 + 11) + 82 ≤ 265) (Nat.le_add_right _ _)) ⟨Nat.le_refl _, Nat.le_refl _⟩ rfl (t_X8_puts a0 2 261 h13) (fun v16 h15 => ?_)
          refine zg_goto (d_X8_conjunction_33 _) ?_
          exact zg_finK (E := 0) [0] rfl rfl (fun q => q)
      · exact zg_vretK (d_X8_conjunction_36 _) rfl ⟨Nat.le_of_ble_eq_true rfl, Nat.le_of_ble_eq_true rfl⟩ (fun q => q)
    · intro a0 h0
      refine zct_of (M_X8_negation (n + 1)) yX8_negation (by decide) rfl rfl [.ref a0] h0 (Nat.le_of_ble_eq_true rfl) (fun _ => none) (fun X => ?_)
      show zG X (M_X8_negation (n + 1)) (0, 0) 0 [(0, .ref a0)] [] h0 (b_X8_negation (f_E n) a0 h0) (fun (_ : Unit) h' => zKe X (none) h')
      unfold b_X8_negation
      refine zg_aload_n 0 rfl (d_X8_negation_0 _) ?_
      refine zg_bipush 15 rfl (d_X8_negation_1 _) ?_
      refine zg_cVi (b := a0) (As := [.int 15]) (rest := []) (0, 0) (d_X8_negation_3 _) zc_8 rfl cw_X8_267 wi_X8_isWord ws_X8_isWord rfl rfl (Nat.le_of_ble_eq_true rfl) (Nat.le_trans (Nat.le_of_ble_eq_true rfl : 1 + 1 ≤ 8) (Nat.le_add_right _ _)) (Nat.le_trans (Nat.le_of_ble_eq_true rfl : 8 + (2 + 11) + 60 ≤ 265) (Nat.le_add_right _ _)) ⟨Nat.le_refl _, Nat.le_refl _⟩ rfl (t_X8_isWord a0 15 h0) (fun v2 h1 => ?_)
      refine zg_if_eq (d_X8_negation_6 _) ?_ ?_
      · refine zg_aload_n 0 rfl (d_X8_negation_30 _) ?_
        refine zg_cVv (b := a0) (As := []) (rest := []) (0, 0) (d_X8_negation_31 _) zc_8 rfl cw_X8_282 wi_X8_sum ws_X8_sum rfl rfl (Nat.le_of_ble_eq_true rfl) (Nat.le_refl _) (by show 8 + (2 + 11) + (265 + n * 21) ≤ 265 + (n + 1) * 21; omega) ⟨Nat.le_refl _, Nat.le_refl _⟩ rfl (ih.2.2.2.1 a0 h1) (fun v4 h3 => ?_)
        refine zg_aload_n 0 rfl (d_X8_negation_34 _) ?_
        refine zg_getI (d_X8_negation_35 _) zc_8 (by decide) fl_X8_205 (fun v5 => ?_)
        refine zg_if_ne (d_X8_negation_38 _) ?_ ?_
        · refine zg_aload_n 0 rfl (d_X8_negation_41 _) ?_
          refine zg_getI (d_X8_negation_42 _) zc_8 (by decide) fl_X8_170 (fun v6 => ?_)
          refine zg_iconst 3 rfl (d_X8_negation_45 _) ?_
          refine zg_icmp_ne (d_X8_negation_46 _) ?_ ?_
          · refine zg_aload_n 0 rfl (d_X8_negation_49 _) ?_
            refine zg_getI (d_X8_negation_50 _) zc_8 (by decide) fl_X8_180 (fun v7 => ?_)
            refine zg_bipush 60 rfl (d_X8_negation_53 _) ?_
            refine zg_bdr (E := 87) (el := (fun (e11 : Unit) => [(0, .ref a0)])) (es := (fun (e11 : Unit) => [])) ?_ (fun e11 h12 => ?_)
            · refine zg_icmp_eq (d_X8_negation_55 _) ?_ ?_
              · exact zg_finK (E := 0) [0] rfl rfl (fun q => q)
              · refine zg_aload_n 0 rfl (d_X8_negation_58 _) ?_
                refine zg_getI (d_X8_negation_59 _) zc_8 (by decide) fl_X8_180 (fun v8 => ?_)
                refine zg_bipush 62 rfl (d_X8_negation_62 _) ?_
                refine zg_icmp_eq (d_X8_negation_64 _) ?_ ?_
                · exact zg_finK (E := 0) [0] rfl rfl (fun q => q)
                · refine zg_aload_n 0 rfl (d_X8_negation_67 _) ?_
                  refine zg_getI (d_X8_negation_68 _) zc_8 (by decide) fl_X8_180 (fun v9 => ?_)
                  refine zg_bipush 61 rfl (d_X8_negation_71 _) ?_
                  refine zg_icmp_eq (d_X8_negation_73 _) ?_ ?_
                  · exact zg_finK (E := 0) [0] rfl rfl (fun q => q)
                  · refine zg_aload_n 0 rfl (d_X8_negation_76 _) ?_
                    refine zg_getI (d_X8_negation_77 _) zc_8 (by decide) fl_X8_180 (fun v10 => ?_)
                    refine zg_sipush 256 rfl (d_X8_negation_80 _) ?_
                    refine zg_icmp_ge (d_X8_negation_83 _) ?_ ?_
                    · exact zg_finK (E := 0) [0] rfl rfl (fun q => q)
                    · exact zg_vretK (d_X8_negation_86 _) rfl ⟨Nat.le_of_ble_eq_true rfl, Nat.le_of_ble_eq_true rfl⟩ (fun q => q)
            · refine zg_aload_n 0 rfl (d_X8_negation_87 _) ?_
              refine zg_getI (d_X8_negation_88 _) zc_8 (by decide) fl_X8_180 (fun v13 => ?_)
              refine zg_istore_n [(1, .int v13), (0, .ref a0)] (d_X8_negation_91 _) rfl (Nat.le_of_ble_eq_true rfl) rfl ?_
              refine zg_aload_n 1 rfl (d_X8_negation_92 _) ?_
              refine zg_cVv (b := a0) (As := []) (rest := []) (0, 0) (d_X8_negation_93 _) zc_8 rfl cw_X8_270 wi_X8_knot ws_X8_knot rfl rfl (Nat.le_of_ble_eq_true rfl) (Nat.le_trans (Nat.le_of_ble_eq_true rfl : 2 + 1 ≤ 8) (Nat.le_add_right _ _)) (Nat.le_trans (Nat.le_of_ble_eq_true rfl : 8 + (1 + 11) + 81 ≤ 265) (Nat.le_add_right _ _)) ⟨Nat.le_refl _, Nat.le_refl _⟩ rfl (t_X8_knot a0 h12) (fun v15 h14 => ?_)
              refine zg_aload_n 1 rfl (d_X8_negation_96 _) ?_
              refine zg_cVv (b := a0) (As := []) (rest := []) (0, 0) (d_X8_negation_97 _) zc_8 rfl cw_X8_273 wi_X8_goOn ws_X8_goOn rfl rfl (Nat.le_of_ble_eq_true rfl) (Nat.le_trans (Nat.le_of_ble_eq_true rfl : 7 + 1 ≤ 8) (Nat.le_add_right _ _)) (Nat.le_trans (Nat.le_of_ble_eq_true rfl : 8 + (1 + 11) + 245 ≤ 265) (Nat.le_add_right _ _)) ⟨Nat.le_refl _, Nat.le_refl _⟩ rfl (t_X8_goOn a0 h14) (fun v17 h16 => ?_)
              refine zg_aload_n 1 rfl (d_X8_negation_100 _) ?_
              refine zg_cVv (b := a0) (As := []) (rest := []) (0, 0) (d_X8_negation_101 _) zc_8 rfl cw_X8_282 wi_X8_sum ws_X8_sum rfl rfl (Nat.le_of_ble_eq_true rfl) (Nat.le_refl _) (by show 8 + (2 + 11) + (265 + n * 21) ≤ 265 + (n + 1) * 21; omega) ⟨Nat.le_refl _, Nat.le_refl _⟩ rfl (ih.2.2.2.1 a0 h16) (fun v19 h18 => ?_)
              refine zg_aload_n 1 rfl (d_X8_negation_104 _) ?_
              refine zg_iconst 2 rfl (d_X8_negation_105 _) ?_
              refine zg_iload_n 0 rfl (d_X8_negation_106 _) ?_
              refine zg_cVv (b := a0) (As := [.int 2, .int v13]) (rest := []) (0, 0) (d_X8_negation_107 _) zc_8 rfl cw_X8_276 wi_X8_puts ws_X8_puts rfl rfl (Nat.le_of_ble_eq_true rfl) (Nat.le_trans (Nat.le_of_ble_eq_true rfl : 2 + 1 ≤ 8) (Nat.le_add_right _ _)) (Nat.le_trans (Nat.le_of_ble_eq_true rfl : 8 + (3 + 11) + 82 ≤ 265) (Nat.le_add_right _ _)) ⟨Nat.le_refl _, Nat.le_refl _⟩ rfl (t_X8_puts a0 2 v13 h18) (fun v21 h20 => ?_)
              exact zg_vretK (d_X8_negation_110 _) rfl ⟨Nat.le_of_ble_eq_true rfl, Nat.le_of_ble_eq_true rfl⟩ (fun q => q)
          · exact zg_vretK (d_X8_negation_86 _) rfl ⟨Nat.le_of_ble_eq_true rfl, Nat.le_of_ble_eq_true rfl⟩ (fun q => q)
        · exact zg_vretK (d_X8_negation_86 _) rfl ⟨Nat.le_of_ble_eq_true rfl, Nat.le_of_ble_eq_true rfl⟩ (fun q => q)
      · refine zg_aload_n 0 rfl (d_X8_negation_9 _) ?_
        refine zg_cVv (b := a0) (As := []) (rest := []) (0, 0) (d_X8_negation_10 _) zc_8 rfl cw_X8_270 wi_X8_knot ws_X8_knot rfl rfl (Nat.le_of_ble_eq_true rfl) (Nat.le_trans (Nat.le_of_ble_eq_true rfl : 2 + 1 ≤ 8) (Nat.le_add_right _ _)) (Nat.le_trans (Nat.le_of_ble_eq_true rfl : 8 + (1 + 11) + 81 ≤ 265) (Nat.le_add_right _ _)) ⟨Nat.le_refl _, Nat.le_refl _⟩ rfl (t_X8_knot a0 h1) (fun v23 h22 => ?_)
        refine zg_aload_n 0 rfl (d_X8_negation_13 _) ?_
        refine zg_cVv (b := a0) (As := []) (rest := []) (0, 0) (d_X8_negation_14 _) zc_8 rfl cw_X8_273 wi_X8_goOn ws_X8_goOn rfl rfl (Nat.le_of_ble_eq_true rfl) (Nat.le_trans (Nat.le_of_ble_eq_true rfl : 7 + 1 ≤ 8) (Nat.le_add_right _ _)) (Nat.le_trans (Nat.le_of_ble_eq_true rfl : 8 + (1 + 11) + 245 ≤ 265) (Nat.le_add_right _ _)) ⟨Nat.le_refl _, Nat.le_refl _⟩ rfl (t_X8_goOn a0 h22) (fun v25 h24 => ?_)
        refine zg_aload_n 0 rfl (d_X8_negation_17 _) ?_
        refine zg_cVv (b := a0) (As := []) (rest := []) (0, 0) (d_X8_negation_18 _) zc_8 rfl cw_X8_279 wi_X8_negation ws_X8_negation rfl rfl (Nat.le_of_ble_eq_true rfl) (Nat.le_refl _) (by show 8 + (2 + 11) + (265 + n * 21) ≤ 265 + (n + 1) * 21; omega) ⟨Nat.le_refl _, Nat.le_refl _⟩ rfl (ih.2.2.1 a0 h24) (fun v27 h26 => ?_)
        refine zg_aload_n 0 rfl (d_X8_negation_21 _) ?_
        refine zg_iconst 2 rfl (d_X8_negation_22 _) ?_
        refine zg_sipush 260 rfl (d_X8_negation_23 _) ?_
        refine zg_cVv (b := a0) (As := [.int 2, .int 260]) (rest := []) (0, 0) (d_X8_negation_26 _) zc_8 rfl cw_X8_276 wi_X8_puts ws_X8_puts rfl rfl (Nat.le_of_ble_eq_true rfl) (Nat.le_trans (Nat.le_of_ble_eq_true rfl : 2 + 1 ≤ 8) (Nat.le_add_right _ _)) (Nat.le_trans (Nat.le_of_ble_eq_true rfl : 8 + (3 + 11) + 82 ≤ 265) (Nat.le_add_right _ _)) ⟨Nat.le_refl _, Nat.le_refl _⟩ rfl (t_X8_puts a0 2 260 h26) (fun v29 h28 => ?_)
        exact zg_vretK (d_X8_negation_29 _) rfl ⟨Nat.le_of_ble_eq_true rfl, Nat.le_of_ble_eq_true rfl⟩ (fun q => q)
    · intro a0 h0
      refine zct_of (M_X8_sum (n + 1)) yX8_sum (by decide) rfl rfl [.ref a0] h0 (Nat.le_of_ble_eq_true rfl) (fun _ => none) (fun X => ?_)
      show zG X (M_X8_sum (n + 1)) (0, 0) 0 [(0, .ref a0)] [] h0 (b_X8_sum (f_E n) a0 h0) (fun (_ : Unit) h' => zKe X (none) h')
      unfold b_X8_sum
      refine zg_aload_n 0 rfl (d_X8_sum_0 _) ?_
      refine zg_cVv (b := a0) (As := []) (rest := []) (0, 0) (d_X8_sum_1 _) zc_8 rfl cw_X8_285 wi_X8_product ws_X8_product rfl rfl (Nat.le_of_ble_eq_true rfl) (Nat.le_refl _) (by show 8 + (2 + 11) + (265 + n * 21) ≤ 265 + (n + 1) * 21; omega) ⟨Nat.le_refl _, Nat.le_refl _⟩ rfl (ih.2.2.2.2.1 a0 h0) (fun v2 h1 => ?_)
      refine zg_bd (E := 48) (el := (fun (e5 : Unit) => [(0, .ref a0)])) (es := fun _ => []) (zg_sub [0] rfl (zg_lp (el := (fun (s3 : Unit) => [(0, .ref a0)])) (fun s3 h4 => ?_) () h1)) (fun e5 h6 => ?_)
      · refine zg_aload_n 0 rfl (d_X8_sum_4 _) ?_
        refine zg_bipush 43 rfl (d_X8_sum_5 _) ?_
        refine zg_cVi (b := a0) (As := [.int 43]) (rest := []) (0, 0) (d_X8_sum_7 _) zc_8 rfl cw_X8_252 wi_X8_isSign ws_X8_isSign rfl rfl (Nat.le_of_ble_eq_true rfl) (Nat.le_trans (Nat.le_of_ble_eq_true rfl : 1 + 1 ≤ 8) (Nat.le_add_right _ _)) (Nat.le_trans (Nat.le_of_ble_eq_true rfl : 8 + (2 + 11) + 60 ≤ 265) (Nat.le_add_right _ _)) ⟨Nat.le_refl _, Nat.le_refl _⟩ rfl (t_X8_isSign a0 43 h4) (fun v8 h7 => ?_)
        refine zg_bdr (E := 22) (el := (fun (e11 : Unit) => [(0, .ref a0)])) (es := (fun (e11 : Unit) => [])) ?_ (fun e11 h12 => ?_)
        · refine zg_if_ne (d_X8_sum_10 _) ?_ ?_
          · refine zg_aload_n 0 rfl (d_X8_sum_13 _) ?_
            refine zg_bipush 45 rfl (d_X8_sum_14 _) ?_
            refine zg_cVi (b := a0) (As := [.int 45]) (rest := []) (0, 0) (d_X8_sum_16 _) zc_8 rfl cw_X8_252 wi_X8_isSign ws_X8_isSign rfl rfl (Nat.le_of_ble_eq_true rfl) (Nat.le_trans (Nat.le_of_ble_eq_true rfl : 1 + 1 ≤ 8) (Nat.le_add_right _ _)) (Nat.le_trans (Nat.le_of_ble_eq_true rfl : 8 + (2 + 11) + 60 ≤ 265) (Nat.le_add_right _ _)) ⟨Nat.le_refl _, Nat.le_refl _⟩ rfl (t_X8_isSign a0 45 h7) (fun v10 h9 => ?_)
            refine zg_if_eq (d_X8_sum_19 _) ?_ ?_
            · exact zg_finK (E := 0) [0] rfl rfl (fun q => q)
            · exact zg_finK (E := 0) [0] rfl rfl (fun q => q)
          · exact zg_finK (E := 0) [0] rfl rfl (fun q => q)
        · refine zg_aload_n 0 rfl (d_X8_sum_22 _) ?_
          refine zg_getI (d_X8_sum_23 _) zc_8 (by decide) fl_X8_180 (fun v13 => ?_)
          refine zg_istore_n [(1, .int v13), (0, .ref a0)] (d_X8_sum_26 _) rfl (Nat.le_of_ble_eq_true rfl) rfl ?_
          refine zg_aload_n 1 rfl (d_X8_sum_27 _) ?_
          refine zg_cVv (b := a0) (As := []) (rest := []) (0, 0) (d_X8_sum_28 _) zc_8 rfl cw_X8_270 wi_X8_knot ws_X8_knot rfl rfl (Nat.le_of_ble_eq_true rfl) (Nat.le_trans (Nat.le_of_ble_eq_true rfl : 2 + 1 ≤ 8) (Nat.le_add_right _ _)) (Nat.le_trans (Nat.le_of_ble_eq_true rfl : 8 + (1 + 11) + 81 ≤ 265) (Nat.le_add_right _ _)) ⟨Nat.le_refl _, Nat.le_refl _⟩ rfl (t_X8_knot a0 h12) (fun v15 h14 => ?_)
          refine zg_aload_n 1 rfl (d_X8_sum_31 _) ?_
          refine zg_cVv (b := a0) (As := []) (rest := []) (0, 0) (d_X8_sum_32 _) zc_8 rfl cw_X8_273 wi_X8_goOn ws_X8_goOn rfl rfl (Nat.le_of_ble_eq_true rfl) (Nat.le_trans (Nat.le_of_ble_eq_true rfl : 7 + 1 ≤ 8) (Nat.le_add_right _ _)) (Nat.le_trans (Nat.le_of_ble_eq_true rfl : 8 + (1 + 11) + 245 ≤ 265) (Nat.le_add_right _ _)) ⟨Nat.le_refl _, Nat.le_refl _⟩ rfl (t_X8_goOn a0 h14) (fun v17 h16 => ?_)
          refine zg_aload_n 1 rfl (d_X8_sum_35 _) ?_
          refine zg_cVv (b := a0) (As := []) (rest := []) (0, 0) (d_X8_sum_36 _) zc_8 rfl cw_X8_285 wi_X8_product ws_X8_product rfl rfl (Nat.le_of_ble_eq_true rfl) (Nat.le_refl _) (by show 8 + (2 + 11) + (265 + n * 21) ≤ 265 + (n + 1) * 21; omega) ⟨Nat.le_refl _, Nat.le_refl _⟩ rfl (ih.2.2.2.2.1 a0 h16) (fun v19 h18 => ?_)
          refine zg_aload_n 1 rfl (d_X8_sum_39 _) ?_
          refine zg_iconst 2 rfl (d_X8_sum_40 _) ?_
          refine zg_iload_n 0 rfl (d_X8_sum_41 _) ?_
          refine zg_cVv (b := a0) (As := [.int 2, .int v13]) (rest := []) (0, 0) (d_X8_sum_42 _) zc_8 rfl cw_X8_276 wi_X8_puts ws_X8_puts rfl rfl (Nat.le_of_ble_eq_true rfl) (Nat.le_trans (Nat.le_of_ble_eq_true rfl : 2 + 1 ≤ 8) (Nat.le_add_right _ _)) (Nat.le_trans (Nat.le_of_ble_eq_true rfl : 8 + (3 + 11) + 82 ≤ 265) (Nat.le_add_right _ _)) ⟨Nat.le_refl _, Nat.le_refl _⟩ rfl (t_X8_puts a0 2 v13 h18) (fun v21 h20 => ?_)
          refine zg_goto (d_X8_sum_45 _) ?_
          exact zg_finK (E := 0) [1] rfl rfl (fun q => q)
      · exact zg_vretK (d_X8_sum_48 _) rfl ⟨Nat.le_of_ble_eq_true rfl, Nat.le_of_ble_eq_true rfl⟩ (fun q => q)
    · intro a0 h0
      refine zct_of (M_X8_product (n + 1)) yX8_product (by decide) rfl rfl [.ref a0] h0 (Nat.le_of_ble_eq_true rfl) (fun _ => none) (fun X => ?_)
      show zG X (M_X8_product (n + 1)) (0, 0) 0 [(0, .ref a0)] [] h0 (b_X8_product (f_E n) a0 h0) (fun (_ : Unit) h' => zKe X (none) h')
      unfold b_X8_product
      refine zg_aload_n 0 rfl (d_X8_product_0 _) ?_
      refine zg_cVv (b := a0) (As := []) (rest := []) (0, 0) (d_X8_product_1 _) zc_8 rfl cw_X8_288 wi_X8_primary ws_X8_primary rfl rfl (Nat.le_of_ble_eq_true rfl) (Nat.le_refl _) (by show 8 + (2 + 11) + (265 + n * 21) ≤ 265 + (n + 1) * 21; omega) ⟨Nat.le_refl _, Nat.le_refl _⟩ rfl (ih.2.2.2.2.2 a0 h0) (fun v2 h1 => ?_)
      refine zg_bd (E := 48) (el := (fun (e5 : Unit) => [(0, .ref a0)])) (es := fun _ => []) (zg_sub [0] rfl (zg_lp (el := (fun (s3 : Unit) => [(0, .ref a0)])) (fun s3 h4 => ?_) () h1)) (fun e5 h6 => ?_)
      · refine zg_aload_n 0 rfl (d_X8_product_4 _) ?_
        refine zg_bipush 42 rfl (d_X8_product_5 _) ?_
        refine zg_cVi (b := a0) (As := [.int 42]) (rest := []) (0, 0) (d_X8_product_7 _) zc_8 rfl cw_X8_252 wi_X8_isSign ws_X8_isSign rfl rfl (Nat.le_of_ble_eq_true rfl) (Nat.le_trans (Nat.le_of_ble_eq_true rfl : 1 + 1 ≤ 8) (Nat.le_add_right _ _)) (Nat.le_trans (Nat.le_of_ble_eq_true rfl : 8 + (2 + 11) + 60 ≤ 265) (Nat.le_add_right _ _)) ⟨Nat.le_refl _, Nat.le_refl _⟩ rfl (t_X8_isSign a0 42 h4) (fun v8 h7 => ?_)
        refine zg_bdr (E := 22) (el := (fun (e11 : Unit) => [(0, .ref a0)])) (es := (fun (e11 : Unit) => [])) ?_ (fun e11 h12 => ?_)
        · refine zg_if_ne (d_X8_product_10 _) ?_ ?_
          · refine zg_aload_n 0 rfl (d_X8_product_13 _) ?_
            refine zg_bipush 47 rfl (d_X8_product_14 _) ?_
            refine zg_cVi (b := a0) (As := [.int 47]) (rest := []) (0, 0) (d_X8_product_16 _) zc_8 rfl cw_X8_252 wi_X8_isSign ws_X8_isSign rfl rfl (Nat.le_of_ble_eq_true rfl) (Nat.le_trans (Nat.le_of_ble_eq_true rfl : 1 + 1 ≤ 8) (Nat.le_add_right _ _)) (Nat.le_trans (Nat.le_of_ble_eq_true rfl : 8 + (2 + 11) + 60 ≤ 265) (Nat.le_add_right _ _)) ⟨Nat.le_refl _, Nat.le_refl _⟩ rfl (t_X8_isSign a0 47 h7) (fun v10 h9 => ?_)
            refine zg_if_eq (d_X8_product_19 _) ?_ ?_
            · exact zg_finK (E := 0) [0] rfl rfl (fun q => q)
            · exact zg_finK (E := 0) [0] rfl rfl (fun q => q)
          · exact zg_finK (E := 0) [0] rfl rfl (fun q => q)
        · refine zg_aload_n 0 rfl (d_X8_product_22 _) ?_
          refine zg_getI (d_X8_product_23 _) zc_8 (by decide) fl_X8_180 (fun v13 => ?_)
          refine zg_istore_n [(1, .int v13), (0, .ref a0)] (d_X8_product_26 _) rfl (Nat.le_of_ble_eq_true rfl) rfl ?_
          refine zg_aload_n 1 rfl (d_X8_product_27 _) ?_
          refine zg_cVv (b := a0) (As := []) (rest := []) (0, 0) (d_X8_product_28 _) zc_8 rfl cw_X8_270 wi_X8_knot ws_X8_knot rfl rfl (Nat.le_of_ble_eq_true rfl) (Nat.le_trans (Nat.le_of_ble_eq_true rfl : 2 + 1 ≤ 8) (Nat.le_add_right _ _)) (Nat.le_trans (Nat.le_of_ble_eq_true rfl : 8 + (1 + 11) + 81 ≤ 265) (Nat.le_add_right _ _)) ⟨Nat.le_refl _, Nat.le_refl _⟩ rfl (t_X8_knot a0 h12) (fun v15 h14 => ?_)
          refine zg_aload_n 1 rfl (d_X8_product_31 _) ?_
          refine zg_cVv (b := a0) (As := []) (rest := []) (0, 0) (d_X8_product_32 _) zc_8 rfl cw_X8_273 wi_X8_goOn ws_X8_goOn rfl rfl (Nat.le_of_ble_eq_true rfl) (Nat.le_trans (Nat.le_of_ble_eq_true rfl : 7 + 1 ≤ 8) (Nat.le_add_right _ _)) (Nat.le_trans (Nat.le_of_ble_eq_true rfl : 8 + (1 + 11) + 245 ≤ 265) (Nat.le_add_right _ _)) ⟨Nat.le_refl _, Nat.le_refl _⟩ rfl (t_X8_goOn a0 h14) (fun v17 h16 => ?_)
          refine zg_aload_n 1 rfl (d_X8_product_35 _) ?_
          refine zg_cVv (b := a0) (As := []) (rest := []) (0, 0) (d_X8_product_36 _) zc_8 rfl cw_X8_288 wi_X8_primary ws_X8_primary rfl rfl (Nat.le_of_ble_eq_true rfl) (Nat.le_refl _) (by show 8 + (2 + 11) + (265 + n * 21) ≤ 265 + (n + 1) * 21; omega) ⟨Nat.le_refl _, Nat.le_refl _⟩ rfl (ih.2.2.2.2.2 a0 h16) (fun v19 h18 => ?_)
          refine zg_aload_n 1 rfl (d_X8_product_39 _) ?_
          refine zg_iconst 2 rfl (d_X8_product_40 _) ?_
          refine zg_iload_n 0 rfl (d_X8_product_41 _) ?_
          refine zg_cVv (b := a0) (As := [.int 2, .int v13]) (rest := []) (0, 0) (d_X8_product_42 _) zc_8 rfl cw_X8_276 wi_X8_puts ws_X8_puts rfl rfl (Nat.le_of_ble_eq_true rfl) (Nat.le_trans (Nat.le_of_ble_eq_true rfl : 2 + 1 ≤ 8) (Nat.le_add_right _ _)) (Nat.le_trans (Nat.le_of_ble_eq_true rfl : 8 + (3 + 11) + 82 ≤ 265) (Nat.le_add_right _ _)) ⟨Nat.le_refl _, Nat.le_refl _⟩ rfl (t_X8_puts a0 2 v13 h18) (fun v21 h20 => ?_)
          refine zg_goto (d_X8_product_45 _) ?_
          exact zg_finK (E := 0) [1] rfl rfl (fun q => q)
      · exact zg_vretK (d_X8_product_48 _) rfl ⟨Nat.le_of_ble_eq_true rfl, Nat.le_of_ble_eq_true rfl⟩ (fun q => q)
    · intro a0 h0
      refine zct_of (M_X8_primary (n + 1)) yX8_primary (by decide) rfl rfl [.ref a0] h0 (Nat.le_of_ble_eq_true rfl) (fun _ => none) (fun X => ?_)
      show zG X (M_X8_primary (n + 1)) (0, 0) 0 [(0, .ref a0)] [] h0 (b_X8_primary (f_E n) a0 h0) (fun (_ : Unit) h' => zKe X (none) h')
      unfold b_X8_primary
      refine zg_aload_n 0 rfl (d_X8_primary_0 _) ?_
      refine zg_getI (d_X8_primary_1 _) zc_8 (by decide) fl_X8_205 (fun v1 => ?_)
      refine zg_if_eq (d_X8_primary_4 _) ?_ ?_
      · refine zg_aload_n 0 rfl (d_X8_primary_8 _) ?_
        refine zg_bipush 40 rfl (d_X8_primary_9 _) ?_
        refine zg_cVi (b := a0) (As := [.int 40]) (rest := []) (0, 0) (d_X8_primary_11 _) zc_8 rfl cw_X8_252 wi_X8_isSign ws_X8_isSign rfl rfl (Nat.le_of_ble_eq_true rfl) (Nat.le_trans (Nat.le_of_ble_eq_true rfl : 1 + 1 ≤ 8) (Nat.le_add_right _ _)) (Nat.le_trans (Nat.le_of_ble_eq_true rfl : 8 + (2 + 11) + 60 ≤ 265) (Nat.le_add_right _ _)) ⟨Nat.le_refl _, Nat.le_refl _⟩ rfl (t_X8_isSign a0 40 h0) (fun v3 h2 => ?_)
        refine zg_if_eq (d_X8_primary_14 _) ?_ ?_
        · refine zg_aload_n 0 rfl (d_X8_primary_101 _) ?_
          refine zg_getI (d_X8_primary_102 _) zc_8 (by decide) fl_X8_170 (fun v4 => ?_)
          refine zg_iconst 2 rfl (d_X8_primary_105 _) ?_
          refine zg_bd (E := 114) (el := (fun (e5 : Int32) => [(0, .ref a0)])) (es := (fun (e5 : Int32) => [.int e5])) ?_ (fun e5 h6 => ?_)
          · refine zg_icmp_ne (d_X8_primary_106 _) ?_ ?_
            · refine zg_iconst 1 rfl (d_X8_primary_109 _) ?_
              refine zg_goto (d_X8_primary_110 _) ?_
              exact zg_finK (E := 0) [0] rfl rfl (fun q => q)
            · refine zg_iconst 0 rfl (d_X8_primary_113 _) ?_
              exact zg_finK (E := 0) [0] rfl rfl (fun q => q)
          · refine zg_istore_n [(1, .int e5), (0, .ref a0)] (d_X8_primary_114 _) rfl (Nat.le_of_ble_eq_true rfl) rfl ?_
            refine zg_iload_n 0 rfl (d_X8_primary_115 _) ?_
            refine zg_bd (E := 162) (el := (fun (e22 : Unit) => [(0, .ref a0), (1, .int e5)])) (es := (fun (e22 : Unit) => [])) ?_ (fun e22 h23 => ?_)
            · refine zg_if_eq (d_X8_primary_116 _) ?_ ?_
              · refine zg_iload_n 0 rfl (d_X8_primary_137 _) ?_
                refine zg_if_ne (d_X8_primary_138 _) ?_ ?_
                · refine zg_aload_n 1 rfl (d_X8_primary_141 _) ?_
                  refine zg_getI (d_X8_primary_142 _) zc_8 (by decide) fl_X8_170 (fun v7 => ?_)
                  refine zg_bdr (E := 157) (el := (fun (e9 : Unit) => [(0, .ref a0), (1, .int e5)])) (es := (fun (e9 : Unit) => [])) ?_ (fun e9 h10 => ?_)
                  · refine zg_if_ne (d_X8_primary_145 _) ?_ ?_
                    · refine zg_aload_n 1 rfl (d_X8_primary_148 _) ?_
                      refine zg_getI (d_X8_primary_149 _) zc_8 (by decide) fl_X8_180 (fun v8 => ?_)
                      refine zg_bipush 16 rfl (d_X8_primary_152 _) ?_
                      refine zg_icmp_ge (d_X8_primary_154 _) ?_ ?_
                      · exact zg_finK (E := 0) [1, 0] rfl rfl (fun q => q)
                      · exact zg_finK (E := 0) [1, 0] rfl rfl (fun q => q)
                    · exact zg_finK (E := 0) [1, 0] rfl rfl (fun q => q)
                  · refine zg_aload_n 0 rfl (d_X8_primary_157 _) ?_
                    refine zg_iconst 1 rfl (d_X8_primary_158 _) ?_
                    refine zg_cVv (b := a0) (As := [.int 1]) (rest := []) (0, 0) (d_X8_primary_159 _) zc_8 rfl cw_X8_214 wi_X8_wrong ws_X8_wrong rfl rfl (Nat.le_of_ble_eq_true rfl) (Nat.le_trans (Nat.le_of_ble_eq_true rfl : 1 + 1 ≤ 8) (Nat.le_add_right _ _)) (Nat.le_trans (Nat.le_of_ble_eq_true rfl : 8 + (2 + 11) + 60 ≤ 265) (Nat.le_add_right _ _)) ⟨Nat.le_refl _, Nat.le_refl _⟩ rfl (t_X8_wrong a0 1 h10) (fun v12 h11 => ?_)
                    exact zg_finK (E := 0) [0, 1] rfl rfl (fun q => q)
                · exact zg_finK (E := 0) [1, 0] rfl rfl (fun q => q)
              · refine zg_aload_n 1 rfl (d_X8_primary_119 _) ?_
                refine zg_getI (d_X8_primary_120 _) zc_8 (by decide) fl_X8_180 (fun v13 => ?_)
                refine zg_sipush 9999 rfl (d_X8_primary_123 _) ?_
                refine zg_icmp_le (d_X8_primary_126 _) ?_ ?_
                · refine zg_iload_n 0 rfl (d_X8_primary_137 _) ?_
                  refine zg_if_ne (d_X8_primary_138 _) ?_ ?_
                  · refine zg_aload_n 1 rfl (d_X8_primary_141 _) ?_
                    refine zg_getI (d_X8_primary_142 _) zc_8 (by decide) fl_X8_170 (fun v14 => ?_)
                    refine zg_bdr (E := 157) (el := (fun (e16 : Unit) => [(0, .ref a0), (1, .int e5)])) (es := (fun (e16 : Unit) => [])) ?_ (fun e16 h17 => ?_)
                    · refine zg_if_ne (d_X8_primary_145 _) ?_ ?_
                      · refine zg_aload_n 1 rfl (d_X8_primary_148 _) ?_
                        refine zg_getI (d_X8_primary_149 _) zc_8 (by decide) fl_X8_180 (fun v15 => ?_)
                        refine zg_bipush 16 rfl (d_X8_primary_152 _) ?_
                        refine zg_icmp_ge (d_X8_primary_154 _) ?_ ?_
                        · exact zg_finK (E := 0) [1, 0] rfl rfl (fun q => q)
                        · exact zg_finK (E := 0) [1, 0] rfl rfl (fun q => q)
                      · exact zg_finK (E := 0) [1, 0] rfl rfl (fun q => q)
                    · refine zg_aload_n 0 rfl (d_X8_primary_157 _) ?_
                      refine zg_iconst 1 rfl (d_X8_primary_158 _) ?_
                      refine zg_cVv (b := a0) (As := [.int 1]) (rest := []) (0, 0) (d_X8_primary_159 _) zc_8 rfl cw_X8_214 wi_X8_wrong ws_X8_wrong rfl rfl (Nat.le_of_ble_eq_true rfl) (Nat.le_trans (Nat.le_of_ble_eq_true rfl : 1 + 1 ≤ 8) (Nat.le_add_right _ _)) (Nat.le_trans (Nat.le_of_ble_eq_true rfl : 8 + (2 + 11) + 60 ≤ 265) (Nat.le_add_right _ _)) ⟨Nat.le_refl _, Nat.le_refl _⟩ rfl (t_X8_wrong a0 1 h17) (fun v19 h18 => ?_)
                      exact zg_finK (E := 0) [0, 1] rfl rfl (fun q => q)
                  · exact zg_finK (E := 0) [1, 0] rfl rfl (fun q => q)
                · refine zg_aload_n 1 rfl (d_X8_primary_129 _) ?_
                  refine zg_iconst 2 rfl (d_X8_primary_130 _) ?_
                  refine zg_cVv (b := a0) (As := [.int 2]) (rest := []) (0, 0) (d_X8_primary_131 _) zc_8 rfl cw_X8_214 wi_X8_wrong ws_X8_wrong rfl rfl (Nat.le_of_ble_eq_true rfl) (Nat.le_trans (Nat.le_of_ble_eq_true rfl : 1 + 1 ≤ 8) (Nat.le_add_right _ _)) (Nat.le_trans (Nat.le_of_ble_eq_true rfl : 8 + (2 + 11) + 60 ≤ 265) (Nat.le_add_right _ _)) ⟨Nat.le_refl _, Nat.le_refl _⟩ rfl (t_X8_wrong a0 2 h6) (fun v21 h20 => ?_)
                  refine zg_goto (d_X8_primary_134 _) ?_
                  exact zg_finK (E := 0) [1, 0] rfl rfl (fun q => q)
            · refine zg_aload_n 0 rfl (d_X8_primary_162 _) ?_
              refine zg_cVv (b := a0) (As := []) (rest := []) (0, 0) (d_X8_primary_163 _) zc_8 rfl cw_X8_270 wi_X8_knot ws_X8_knot rfl rfl (Nat.le_of_ble_eq_true rfl) (Nat.le_trans (Nat.le_of_ble_eq_true rfl : 2 + 1 ≤ 8) (Nat.le_add_right _ _)) (Nat.le_trans (Nat.le_of_ble_eq_true rfl : 8 + (1 + 11) + 81 ≤ 265) (Nat.le_add_right _ _)) ⟨Nat.le_refl _, Nat.le_refl _⟩ rfl (t_X8_knot a0 h23) (fun v25 h24 => ?_)
              refine zg_aload_n 0 rfl (d_X8_primary_166 _) ?_
              refine zg_iload_n 1 rfl (d_X8_primary_167 _) ?_
              refine zg_bd (E := 176) (el := (fun (e26 : Int32) => [(0, .ref a0), (1, .int e5)])) (es := (fun (e26 : Int32) => [.int e26, .ref a0])) ?_ (fun e26 h27 => ?_)
              · refine zg_if_eq (d_X8_primary_168 _) ?_ ?_
                · refine zg_iconst 1 rfl (d_X8_primary_175 _) ?_
                  exact zg_finK (E := 0) [0, 1] rfl rfl (fun q => q)
                · refine zg_iconst 0 rfl (d_X8_primary_171 _) ?_
                  refine zg_goto (d_X8_primary_172 _) ?_
                  exact zg_finK (E := 0) [0, 1] rfl rfl (fun q => q)
              · refine zg_iload_n 1 rfl (d_X8_primary_176 _) ?_
                refine zg_bd (E := 194) (el := (fun (e30 : Int32) => [(0, .ref a0), (1, .int e5)])) (es := (fun (e30 : Int32) => [.int e30, .int e26, .ref a0])) ?_ (fun e30 h31 => ?_)
                · refine zg_if_eq (d_X8_primary_177 _) ?_ ?_
                  · refine zg_aload_n 0 rfl (d_X8_primary_187 _) ?_
                    refine zg_getI (d_X8_primary_188 _) zc_8 (by decide) fl_X8_180 (fun v28 => ?_)
                    refine zg_bipush 16 rfl (d_X8_primary_191 _) ?_
                    refine zg_isub (d_X8_primary_193 _) ?_
                    exact zg_finK (E := 0) [0, 1] rfl rfl (fun q => q)
                  · refine zg_aload_n 0 rfl (d_X8_primary_180 _) ?_
                    refine zg_getI (d_X8_primary_181 _) zc_8 (by decide) fl_X8_180 (fun v29 => ?_)
                    refine zg_goto (d_X8_primary_184 _) ?_
                    exact zg_finK (E := 0) [0, 1] rfl rfl (fun q => q)
                · refine zg_cVv (b := a0) (As := [.int e26, .int e30]) (rest := []) (0, 0) (d_X8_primary_194 _) zc_8 rfl cw_X8_276 wi_X8_puts ws_X8_puts rfl rfl (Nat.le_of_ble_eq_true rfl) (Nat.le_trans (Nat.le_of_ble_eq_true rfl : 2 + 1 ≤ 8) (Nat.le_add_right _ _)) (Nat.le_trans (Nat.le_of_ble_eq_true rfl : 8 + (3 + 11) + 82 ≤ 265) (Nat.le_add_right _ _)) ⟨Nat.le_refl _, Nat.le_refl _⟩ rfl (t_X8_puts a0 e26 e30 h31) (fun v33 h32 => ?_)
                  refine zg_aload_n 0 rfl (d_X8_primary_197 _) ?_
                  refine zg_cVv (b := a0) (As := []) (rest := []) (0, 0) (d_X8_primary_198 _) zc_8 rfl cw_X8_273 wi_X8_goOn ws_X8_goOn rfl rfl (Nat.le_of_ble_eq_true rfl) (Nat.le_trans (Nat.le_of_ble_eq_true rfl : 7 + 1 ≤ 8) (Nat.le_add_right _ _)) (Nat.le_trans (Nat.le_of_ble_eq_true rfl : 8 + (1 + 11) + 245 ≤ 265) (Nat.le_add_right _ _)) ⟨Nat.le_refl _, Nat.le_refl _⟩ rfl (t_X8_goOn a0 h32) (fun v35 h34 => ?_)
                  exact zg_vretK (d_X8_primary_201 _) rfl ⟨Nat.le_of_ble_eq_true rfl, Nat.le_of_ble_eq_true rfl⟩ (fun q => q)
        · refine zg_aload_n 0 rfl (d_X8_primary_17 _) ?_
          refine zg_getI (d_X8_primary_18 _) zc_8 (by decide) fl_X8_291 (fun v36 => ?_)
          refine zg_bipush 8 rfl (d_X8_primary_21 _) ?_
          refine zg_bd (E := 31) (el := (fun (e39 : Unit) => [(0, .ref a0)])) (es := (fun (e39 : Unit) => [])) ?_ (fun e39 h40 => ?_)
          · refine zg_icmp_ne (d_X8_primary_23 _) ?_ ?_
            · refine zg_aload_n 0 rfl (d_X8_primary_26 _) ?_
              refine zg_iconst 2 rfl (d_X8_primary_27 _) ?_
              refine zg_cVv (b := a0) (As := [.int 2]) (rest := []) (0, 0) (d_X8_primary_28 _) zc_8 rfl cw_X8_214 wi_X8_wrong ws_X8_wrong rfl rfl (Nat.le_of_ble_eq_true rfl) (Nat.le_trans (Nat.le_of_ble_eq_true rfl : 1 + 1 ≤ 8) (Nat.le_add_right _ _)) (Nat.le_trans (Nat.le_of_ble_eq_true rfl : 8 + (2 + 11) + 60 ≤ 265) (Nat.le_add_right _ _)) ⟨Nat.le_refl _, Nat.le_refl _⟩ rfl (t_X8_wrong a0 2 h2) (fun v38 h37 => ?_)
              exact zg_finK (E := 0) [0] rfl rfl (fun q => q)
            · exact zg_finK (E := 0) [0] rfl rfl (fun q => q)
          · refine zg_aload_n 0 rfl (d_X8_primary_31 _) ?_
            refine zg_getI (d_X8_primary_32 _) zc_8 (by decide) fl_X8_205 (fun v41 => ?_)
            refine zg_if_eq (d_X8_primary_35 _) ?_ ?_
            · refine zg_aload_n 0 rfl (d_X8_primary_39 _) ?_
              refine zg_dup rfl (d_X8_primary_40 _) ?_
              refine zg_getI (d_X8_primary_41 _) zc_8 (by decide) fl_X8_291 (fun v42 => ?_)
              refine zg_iconst 1 rfl (d_X8_primary_44 _) ?_
              refine zg_iadd (d_X8_primary_45 _) ?_
              refine zg_putV (d_X8_primary_46 _) zc_8 (by decide) fl_X8_291 rfl rfl rfl (fun h43 => ?_)
              refine zg_aload_n 0 rfl (d_X8_primary_49 _) ?_
              refine zg_cVv (b := a0) (As := []) (rest := []) (0, 0) (d_X8_primary_50 _) zc_8 rfl cw_X8_211 wi_X8_token ws_X8_token rfl rfl (Nat.le_of_ble_eq_true rfl) (Nat.le_trans (Nat.le_of_ble_eq_true rfl : 6 + 1 ≤ 8) (Nat.le_add_right _ _)) (Nat.le_trans (Nat.le_of_ble_eq_true rfl : 8 + (2 + 11) + 224 ≤ 265) (Nat.le_add_right _ _)) ⟨Nat.le_refl _, Nat.le_refl _⟩ rfl (t_X8_token a0 h43) (fun v45 h44 => ?_)
              refine zg_aload_n 0 rfl (d_X8_primary_53 _) ?_
              refine zg_cVv (b := a0) (As := []) (rest := []) (0, 0) (d_X8_primary_54 _) zc_8 rfl cw_X8_258 wi_X8_expression ws_X8_expression rfl rfl (Nat.le_of_ble_eq_true rfl) (Nat.le_refl _) (by show 8 + (1 + 11) + (265 + n * 21) ≤ 265 + (n + 1) * 21; omega) ⟨Nat.le_refl _, Nat.le_refl _⟩ rfl (ih.1 a0 h44) (fun v47 h46 => ?_)
              refine zg_aload_n 0 rfl (d_X8_primary_57 _) ?_
              refine zg_getI (d_X8_primary_58 _) zc_8 (by decide) fl_X8_205 (fun v48 => ?_)
              refine zg_bd (E := 78) (el := (fun (e53 : Unit) => [(0, .ref a0)])) (es := (fun (e53 : Unit) => [])) ?_ (fun e53 h54 => ?_)
              · refine zg_if_ne (d_X8_primary_61 _) ?_ ?_
                · refine zg_aload_n 0 rfl (d_X8_primary_64 _) ?_
                  refine zg_bipush 41 rfl (d_X8_primary_65 _) ?_
                  refine zg_cVi (b := a0) (As := [.int 41]) (rest := []) (0, 0) (d_X8_primary_67 _) zc_8 rfl cw_X8_252 wi_X8_isSign ws_X8_isSign rfl rfl (Nat.le_of_ble_eq_true rfl) (Nat.le_trans (Nat.le_of_ble_eq_true rfl : 1 + 1 ≤ 8) (Nat.le_add_right _ _)) (Nat.le_trans (Nat.le_of_ble_eq_true rfl : 8 + (2 + 11) + 60 ≤ 265) (Nat.le_add_right _ _)) ⟨Nat.le_refl _, Nat.le_refl _⟩ rfl (t_X8_isSign a0 41 h46) (fun v50 h49 => ?_)
                  refine zg_if_ne (d_X8_primary_70 _) ?_ ?_
                  · refine zg_aload_n 0 rfl (d_X8_primary_73 _) ?_
                    refine zg_iconst 1 rfl (d_X8_primary_74 _) ?_
                    refine zg_cVv (b := a0) (As := [.int 1]) (rest := []) (0, 0) (d_X8_primary_75 _) zc_8 rfl cw_X8_214 wi_X8_wrong ws_X8_wrong rfl rfl (Nat.le_of_ble_eq_true rfl) (Nat.le_trans (Nat.le_of_ble_eq_true rfl : 1 + 1 ≤ 8) (Nat.le_add_right _ _)) (Nat.le_trans (Nat.le_of_ble_eq_true rfl : 8 + (2 + 11) + 60 ≤ 265) (Nat.le_add_right _ _)) ⟨Nat.le_refl _, Nat.le_refl _⟩ rfl (t_X8_wrong a0 1 h49) (fun v52 h51 => ?_)
                    exact zg_finK (E := 0) [0] rfl rfl (fun q => q)
                  · exact zg_finK (E := 0) [0] rfl rfl (fun q => q)
                · exact zg_finK (E := 0) [0] rfl rfl (fun q => q)
              · refine zg_aload_n 0 rfl (d_X8_primary_78 _) ?_
                refine zg_getI (d_X8_primary_79 _) zc_8 (by decide) fl_X8_205 (fun v55 => ?_)
                refine zg_if_eq (d_X8_primary_82 _) ?_ ?_
                · refine zg_aload_n 0 rfl (d_X8_primary_86 _) ?_
                  refine zg_dup rfl (d_X8_primary_87 _) ?_
                  refine zg_getI (d_X8_primary_88 _) zc_8 (by decide) fl_X8_291 (fun v56 => ?_)
                  refine zg_iconst 1 rfl (d_X8_primary_91 _) ?_
                  refine zg_isub (d_X8_primary_92 _) ?_
                  refine zg_putV (d_X8_primary_93 _) zc_8 (by decide) fl_X8_291 rfl rfl rfl (fun h57 => ?_)
                  refine zg_aload_n 0 rfl (d_X8_primary_96 _) ?_
                  refine zg_cVv (b := a0) (As := []) (rest := []) (0, 0) (d_X8_primary_97 _) zc_8 rfl cw_X8_211 wi_X8_token ws_X8_token rfl rfl (Nat.le_of_ble_eq_true rfl) (Nat.le_trans (Nat.le_of_ble_eq_true rfl : 6 + 1 ≤ 8) (Nat.le_add_right _ _)) (Nat.le_trans (Nat.le_of_ble_eq_true rfl : 8 + (2 + 11) + 224 ≤ 265) (Nat.le_add_right _ _)) ⟨Nat.le_refl _, Nat.le_refl _⟩ rfl (t_X8_token a0 h57) (fun v59 h58 => ?_)
                  exact zg_vretK (d_X8_primary_100 _) rfl ⟨Nat.le_of_ble_eq_true rfl, Nat.le_of_ble_eq_true rfl⟩ (fun q => q)
                · exact zg_vretK (d_X8_primary_85 _) rfl ⟨Nat.le_of_ble_eq_true rfl, Nat.le_of_ble_eq_true rfl⟩ (fun q => q)
            · exact zg_vretK (d_X8_primary_38 _) rfl ⟨Nat.le_of_ble_eq_true rfl, Nat.le_of_ble_eq_true rfl⟩ (fun q => q)
      · exact zg_vretK (d_X8_primary_7 _) rfl ⟨Nat.le_of_ble_eq_true rfl, Nat.le_of_ble_eq_true rfl⟩ (fun q => q)
theorem t_X8_expression (n : Nat) : (∀ (a0 : Nat) (h0 : zHp) (r : Unit) (h' : zHp), f_E n 0 a0 h0 = some (r, h') → zCt yX8_expression (.code yX8_expression cX8_expression 1 none) (8 + n) (265 + n * 21) 0 0 [.ref a0] h0 (none) h') := (t_E n).1
abbrev f_X8_expression (n : Nat) := f_E n 0
theorem t_X8_conjunction (n : Nat) : (∀ (a0 : Nat) (h0 : zHp) (r : Unit) (h' : zHp), f_E n 1 a0 h0 = some (r, h') → zCt yX8_conjunction (.code yX8_conjunction cX8_conjunction 1 none) (8 + n) (265 + n * 21) 0 0 [.ref a0] h0 (none) h') := (t_E n).2.1
abbrev f_X8_conjunction (n : Nat) := f_E n 1
theorem t_X8_negation (n : Nat) : (∀ (a0 : Nat) (h0 : zHp) (r : Unit) (h' : zHp), f_E n 2 a0 h0 = some (r, h') → zCt yX8_negation (.code yX8_negation cX8_negation 2 none) (8 + n) (265 + n * 21) 0 0 [.ref a0] h0 (none) h') := (t_E n).2.2.1
abbrev f_X8_negation (n : Nat) := f_E n 2
theorem t_X8_sum (n : Nat) : (∀ (a0 : Nat) (h0 : zHp) (r : Unit) (h' : zHp), f_E n 3 a0 h0 = some (r, h') → zCt yX8_sum (.code yX8_sum cX8_sum 2 none) (8 + n) (265 + n * 21) 0 0 [.ref a0] h0 (none) h') := (t_E n).2.2.2.1
abbrev f_X8_sum (n : Nat) := f_E n 3
theorem t_X8_product (n : Nat) : (∀ (a0 : Nat) (h0 : zHp) (r : Unit) (h' : zHp), f_E n 4 a0 h0 = some (r, h') → zCt yX8_product (.code yX8_product cX8_product 2 none) (8 + n) (265 + n * 21) 0 0 [.ref a0] h0 (none) h') := (t_E n).2.2.2.2.1
abbrev f_X8_product (n : Nat) := f_E n 4
theorem t_X8_primary (n : Nat) : (∀ (a0 : Nat) (h0 : zHp) (r : Unit) (h' : zHp), f_E n 5 a0 h0 = some (r, h') → zCt yX8_primary (.code yX8_primary cX8_primary 2 none) (8 + n) (265 + n * 21) 0 0 [.ref a0] h0 (none) h') := (t_E n).2.2.2.2.2
abbrev f_X8_primary (n : Nat) := f_E n 5

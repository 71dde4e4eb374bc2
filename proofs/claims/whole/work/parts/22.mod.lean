theorem fl_X8_72 : Cond.fieldLink RX8 72 (TX8 34).1 (TX8 34).2.1 (TX8 34).2.2.1 ∈ zT := zw_of _ 1393 (by decide +kernel) (by decide +kernel)
theorem fl_X8_314 : Cond.fieldLink RX8 314 (TX8 35).1 (TX8 35).2.1 (TX8 35).2.2.1 ∈ zT := zw_of _ 1394 (by decide +kernel) (by decide +kernel)
theorem ml_X8_317 : Cond.methodLink RX8 317 yX8_is ∈ zT := zw_of _ 1805 (by decide +kernel) (by decide +kernel)
theorem cd_X8_is : Cond.code yX8_is cX8_is 1 (some .long) ∈ zT := zw_of _ 1807 (by decide +kernel) (by decide +kernel)
theorem cw_X8_317 : zCw RX8 317 yX8_is cX8_is 1 (some .long) 1 := ⟨ml_X8_317, ni_X8, cd_X8_is, by decide, by decide, by decide +kernel⟩
theorem wt_X8_is : Cond.static yX8_is ∈ zT := zw_of _ 1806 (by decide +kernel) (by decide +kernel)
theorem ml_X8_321 : Cond.methodLink RX8 321 Lib.MathLoose.abs_long.x ∈ zT := zw_of _ 1808 (by decide +kernel) (by decide +kernel)
theorem kl_X8_327 : Cond.constantLong RX8 327 1000000000000 ∈ zT := zw_of _ 1811 (by decide +kernel) (by decide +kernel)
theorem kl_X8_329 : Cond.constantLong RX8 329 (-1000000000000) ∈ zT := zw_of _ 1812 (by decide +kernel) (by decide +kernel)
theorem ml_X8_331 : Cond.methodLink RX8 331 yX8_works ∈ zT := zw_of _ 1801 (by decide +kernel) (by decide +kernel)
theorem cd_X8_works : Cond.code yX8_works cX8_works 8 (some .boolean) ∈ zT := zw_of _ 1804 (by decide +kernel) (by decide +kernel)
theorem cw_X8_331 : zCw RX8 331 yX8_works cX8_works 8 (some .boolean) 1 := ⟨ml_X8_331, ni_X8, cd_X8_works, by decide, by decide, by decide +kernel⟩
theorem wi_X8_works : Cond.instanceMethod yX8_works ∈ zT := zw_of _ 1803 (by decide +kernel) (by decide +kernel)
theorem ws_X8_works : Cond.selects RX8 yX8_works yX8_works ∈ zT := zw_of _ 92 (by decide +kernel) (by decide +kernel)
theorem ml_X8_366 : Cond.methodLink RX8 366 yX8_hasLaw ∈ zT := zw_of _ 1779 (by decide +kernel) (by decide +kernel)
theorem cd_X8_hasLaw : Cond.code yX8_hasLaw cX8_hasLaw 2 (some .boolean) ∈ zT := zw_of _ 1782 (by decide +kernel) (by decide +kernel)
theorem cw_X8_366 : zCw RX8 366 yX8_hasLaw cX8_hasLaw 2 (some .boolean) 1 := ⟨ml_X8_366, ni_X8, cd_X8_hasLaw, by decide, by decide, by decide +kernel⟩
theorem wi_X8_hasLaw : Cond.instanceMethod yX8_hasLaw ∈ zT := zw_of _ 1781 (by decide +kernel) (by decide +kernel)
theorem ws_X8_hasLaw : Cond.selects RX8 yX8_hasLaw yX8_hasLaw ∈ zT := zw_of _ 87 (by decide +kernel) (by decide +kernel)
theorem ml_X8_369 : Cond.methodLink RX8 369 yX8_goes ∈ zT := zw_of _ 1797 (by decide +kernel) (by decide +kernel)
theorem cd_X8_goes : Cond.code yX8_goes cX8_goes 3 (some .boolean) ∈ zT := zw_of _ 1800 (by decide +kernel) (by decide +kernel)
theorem cw_X8_369 : zCw RX8 369 yX8_goes cX8_goes 3 (some .boolean) 1 := ⟨ml_X8_369, ni_X8, cd_X8_goes, by decide, by decide, by decide +kernel⟩
theorem wi_X8_goes : Cond.instanceMethod yX8_goes ∈ zT := zw_of _ 1799 (by decide +kernel) (by decide +kernel)
theorem ws_X8_goes : Cond.selects RX8 yX8_goes yX8_goes ∈ zT := zw_of _ 91 (by decide +kernel) (by decide +kernel)
theorem ml_X8_372 : Cond.methodLink RX8 372 Lib.MathLoose.min_long.x ∈ zT := zw_of _ 1865 (by decide +kernel) (by decide +kernel)
theorem ml_X8_376 : Cond.methodLink RX8 376 Lib.MathLoose.max_long.x ∈ zT := zw_of _ 1866 (by decide +kernel) (by decide +kernel)
theorem ml_X8_383 : Cond.methodLink RX8 383 yX8_calls ∈ zT := zw_of _ 1784 (by decide +kernel) (by decide +kernel)
theorem cd_X8_calls : Cond.code yX8_calls cX8_calls 5 none ∈ zT := zw_of _ 1787 (by decide +kernel) (by decide +kernel)
theorem cw_X8_383 : zCw RX8 383 yX8_calls cX8_calls 5 none 2 := ⟨ml_X8_383, ni_X8, cd_X8_calls, by decide, by decide, by decide +kernel⟩
theorem wi_X8_calls : Cond.instanceMethod yX8_calls ∈ zT := zw_of _ 1786 (by decide +kernel) (by decide +kernel)
theorem ws_X8_calls : Cond.selects RX8 yX8_calls yX8_calls ∈ zT := zw_of _ 88 (by decide +kernel) (by decide +kernel)
theorem ml_X8_386 : Cond.methodLink RX8 386 yX8_within ∈ zT := zw_of _ 1861 (by decide +kernel) (by decide +kernel)
theorem cd_X8_within : Cond.code yX8_within cX8_within 4 (some .int) ∈ zT := zw_of _ 1864 (by decide +kernel) (by decide +kernel)
theorem cw_X8_386 : zCw RX8 386 yX8_within cX8_within 4 (some .int) 3 := ⟨ml_X8_386, ni_X8, cd_X8_within, by decide, by decide, by decide +kernel⟩
theorem wi_X8_within : Cond.instanceMethod yX8_within ∈ zT := zw_of _ 1863 (by decide +kernel) (by decide +kernel)
theorem ws_X8_within : Cond.selects RX8 yX8_within yX8_within ∈ zT := zw_of _ 100 (by decide +kernel) (by decide +kernel)
theorem fl_X8_37 : Cond.fieldLink RX8 37 (TX8 11).1 (TX8 11).2.1 (TX8 11).2.2.1 ∈ zT := zw_of _ 1370 (by decide +kernel) (by decide +kernel)
theorem ml_X8_404 : Cond.methodLink RX8 404 yX8_joins ∈ zT := zw_of _ 1868 (by decide +kernel) (by decide +kernel)
theorem cd_X8_joins : Cond.code yX8_joins cX8_joins 8 none ∈ zT := zw_of _ 1871 (by decide +kernel) (by decide +kernel)
theorem cw_X8_404 : zCw RX8 404 yX8_joins cX8_joins 8 none 1 := ⟨ml_X8_404, ni_X8, cd_X8_joins, by decide, by decide, by decide +kernel⟩
theorem wi_X8_joins : Cond.instanceMethod yX8_joins ∈ zT := zw_of _ 1870 (by decide +kernel) (by decide +kernel)
theorem ws_X8_joins : Cond.selects RX8 yX8_joins yX8_joins ∈ zT := zw_of _ 101 (by decide +kernel) (by decide +kernel)
theorem ml_X8_407 : Cond.methodLink RX8 407 yX8_falls ∈ zT := zw_of _ 1872 (by decide +kernel) (by decide +kernel)
theorem cd_X8_falls : Cond.code yX8_falls cX8_falls 6 none ∈ zT := zw_of _ 1875 (by decide +kernel) (by decide +kernel)
theorem cw_X8_407 : zCw RX8 407 yX8_falls cX8_falls 6 none 2 := ⟨ml_X8_407, ni_X8, cd_X8_falls, by decide, by decide, by decide +kernel⟩
theorem wi_X8_falls : Cond.instanceMethod yX8_falls ∈ zT := zw_of _ 1874 (by decide +kernel) (by decide +kernel)
theorem ws_X8_falls : Cond.selects RX8 yX8_falls yX8_falls ∈ zT := zw_of _ 102 (by decide +kernel) (by decide +kernel)
theorem ml_X8_410 : Cond.methodLink RX8 410 yX8_isGiven ∈ zT := zw_of _ 1876 (by decide +kernel) (by decide +kernel)
theorem cd_X8_isGiven : Cond.code yX8_isGiven cX8_isGiven 5 none ∈ zT := zw_of _ 1879 (by decide +kernel) (by decide +kernel)
theorem cw_X8_410 : zCw RX8 410 yX8_isGiven cX8_isGiven 5 none 2 := ⟨ml_X8_410, ni_X8, cd_X8_isGiven, by decide, by decide, by decide +kernel⟩
theorem wi_X8_isGiven : Cond.instanceMethod yX8_isGiven ∈ zT := zw_of _ 1878 (by decide +kernel) (by decide +kernel)
theorem ws_X8_isGiven : Cond.selects RX8 yX8_isGiven yX8_isGiven ∈ zT := zw_of _ 103 (by decide +kernel) (by decide +kernel)
theorem ml_X8_413 : Cond.methodLink RX8 413 yX8_marks ∈ zT := zw_of _ 1880 (by decide +kernel) (by decide +kernel)
theorem cd_X8_marks : Cond.code yX8_marks cX8_marks 4 none ∈ zT := zw_of _ 1883 (by decide +kernel) (by decide +kernel)
theorem cw_X8_413 : zCw RX8 413 yX8_marks cX8_marks 4 none 1 := ⟨ml_X8_413, ni_X8, cd_X8_marks, by decide, by decide, by decide +kernel⟩
theorem wi_X8_marks : Cond.instanceMethod yX8_marks ∈ zT := zw_of _ 1882 (by decide +kernel) (by decide +kernel)
theorem ws_X8_marks : Cond.selects RX8 yX8_marks yX8_marks ∈ zT := zw_of _ 104 (by decide +kernel) (by decide +kernel)
theorem ml_X8_419 : Cond.methodLink RX8 419 yX8_passes ∈ zT := zw_of _ 1853 (by decide +kernel) (by decide +kernel)
theorem cd_X8_passes : Cond.code yX8_passes cX8_passes 5 none ∈ zT := zw_of _ 1856 (by decide +kernel) (by decide +kernel)
theorem cw_X8_419 : zCw RX8 419 yX8_passes cX8_passes 5 none 1 := ⟨ml_X8_419, ni_X8, cd_X8_passes, by decide, by decide, by decide +kernel⟩
theorem wi_X8_passes : Cond.instanceMethod yX8_passes ∈ zT := zw_of _ 1855 (by decide +kernel) (by decide +kernel)
theorem ws_X8_passes : Cond.selects RX8 yX8_passes yX8_passes ∈ zT := zw_of _ 98 (by decide +kernel) (by decide +kernel)
theorem ml_X8_450 : Cond.methodLink RX8 450 yX8_runs ∈ zT := zw_of _ 1888 (by decide +kernel) (by decide +kernel)
theorem cd_X8_runs : Cond.code yX8_runs cX8_runs 3 none ∈ zT := zw_of _ 1891 (by decide +kernel) (by decide +kernel)
theorem cw_X8_450 : zCw RX8 450 yX8_runs cX8_runs 3 none 1 := ⟨ml_X8_450, ni_X8, cd_X8_runs, by decide, by decide, by decide +kernel⟩
theorem wi_X8_runs : Cond.instanceMethod yX8_runs ∈ zT := zw_of _ 1890 (by decide +kernel) (by decide +kernel)
theorem ws_X8_runs : Cond.selects RX8 yX8_runs yX8_runs ∈ zT := zw_of _ 105 (by decide +kernel) (by decide +kernel)
theorem fl_X8_462 : Cond.fieldLink RX8 462 (TX8 55).1 (TX8 55).2.1 (TX8 55).2.2.1 ∈ zT := zw_of _ 1414 (by decide +kernel) (by decide +kernel)
theorem ml_X8_465 : Cond.methodLink RX8 465 yX8_givenTo ∈ zT := zw_of _ 1912 (by decide +kernel) (by decide +kernel)
theorem cd_X8_givenTo : Cond.code yX8_givenTo cX8_givenTo 4 (some .int) ∈ zT := zw_of _ 1915 (by decide +kernel) (by decide +kernel)
theorem cw_X8_465 : zCw RX8 465 yX8_givenTo cX8_givenTo 4 (some .int) 1 := ⟨ml_X8_465, ni_X8, cd_X8_givenTo, by decide, by decide, by decide +kernel⟩
theorem wi_X8_givenTo : Cond.instanceMethod yX8_givenTo ∈ zT := zw_of _ 1914 (by decide +kernel) (by decide +kernel)
theorem ws_X8_givenTo : Cond.selects RX8 yX8_givenTo yX8_givenTo ∈ zT := zw_of _ 110 (by decide +kernel) (by decide +kernel)
theorem ml_X8_468 : Cond.methodLink RX8 468 yX8_finds ∈ zT := zw_of _ 1908 (by decide +kernel) (by decide +kernel)
theorem cd_X8_finds : Cond.code yX8_finds cX8_finds 4 (some .boolean) ∈ zT := zw_of _ 1911 (by decide +kernel) (by decide +kernel)
theorem cw_X8_468 : zCw RX8 468 yX8_finds cX8_finds 4 (some .boolean) 1 := ⟨ml_X8_468, ni_X8, cd_X8_finds, by decide, by decide, by decide +kernel⟩
theorem wi_X8_finds : Cond.instanceMethod yX8_finds ∈ zT := zw_of _ 1910 (by decide +kernel) (by decide +kernel)
theorem ws_X8_finds : Cond.selects RX8 yX8_finds yX8_finds ∈ zT := zw_of _ 109 (by decide +kernel) (by decide +kernel)
abbrev M_X8_works : zMt := (RX8, cX8_works, 8, 2, 80, (some .boolean), "works", 0, 0)
theorem d_X8_works_0 : zDc M_X8_works 0 (.aload_n 0) 1 1 := ⟨by decide +kernel, rfl⟩
theorem d_X8_works_1 : zDc M_X8_works 1 (.getfield 72) 3 4 := ⟨by decide +kernel, rfl⟩
theorem d_X8_works_4 : zDc M_X8_works 4 (.aload_n 0) 1 5 := ⟨by decide +kernel, rfl⟩
theorem d_X8_works_5 : zDc M_X8_works 5 (.getfield 314) 3 8 := ⟨by decide +kernel, rfl⟩
theorem d_X8_works_8 : zDc M_X8_works 8 (.iconst 1) 1 9 := ⟨by decide +kernel, rfl⟩
theorem d_X8_works_9 : zDc M_X8_works 9 (.isub) 1 10 := ⟨by decide +kernel, rfl⟩
theorem d_X8_works_10 : zDc M_X8_works 10 (.laload) 1 11 := ⟨by decide +kernel, rfl⟩
theorem d_X8_works_11 : zDc M_X8_works 11 (.lstore_n 2) 1 12 := ⟨by decide +kernel, rfl⟩
theorem d_X8_works_12 : zDc M_X8_works 12 (.iload_n 1) 1 13 := ⟨by decide +kernel, rfl⟩
theorem d_X8_works_13 : zDc M_X8_works 13 (.sipush 260) 3 16 := ⟨by decide +kernel, rfl⟩
theorem d_X8_works_16 : zDj M_X8_works 16 (.if_icmp .ne 30) 30 19 46 := ⟨by decide +kernel, rfl, by decide⟩
theorem d_X8_works_19 : zDc M_X8_works 19 (.aload_n 0) 1 20 := ⟨by decide +kernel, rfl⟩
theorem d_X8_works_20 : zDc M_X8_works 20 (.getfield 72) 3 23 := ⟨by decide +kernel, rfl⟩
theorem d_X8_works_23 : zDc M_X8_works 23 (.aload_n 0) 1 24 := ⟨by decide +kernel, rfl⟩
theorem d_X8_works_24 : zDc M_X8_works 24 (.getfield 314) 3 27 := ⟨by decide +kernel, rfl⟩
theorem d_X8_works_27 : zDc M_X8_works 27 (.iconst 1) 1 28 := ⟨by decide +kernel, rfl⟩
theorem d_X8_works_28 : zDc M_X8_works 28 (.isub) 1 29 := ⟨by decide +kernel, rfl⟩
theorem d_X8_works_29 : zDc M_X8_works 29 (.lload_n 2) 1 30 := ⟨by decide +kernel, rfl⟩
theorem d_X8_works_30 : zDc M_X8_works 30 (.lconst 0) 1 31 := ⟨by decide +kernel, rfl⟩
theorem d_X8_works_31 : zDc M_X8_works 31 (.lcmp) 1 32 := ⟨by decide +kernel, rfl⟩
theorem d_X8_works_32 : zDj M_X8_works 32 (.ifCond .ne 7) 7 35 39 := ⟨by decide +kernel, rfl, by decide⟩
theorem d_X8_works_35 : zDc M_X8_works 35 (.iconst 1) 1 36 := ⟨by decide +kernel, rfl⟩
theorem d_X8_works_36 : zDj M_X8_works 36 (.goto 4) 4 39 40 := ⟨by decide +kernel, rfl, by decide⟩
theorem d_X8_works_39 : zDc M_X8_works 39 (.iconst 0) 1 40 := ⟨by decide +kernel, rfl⟩
theorem d_X8_works_40 : zDc M_X8_works 40 (.invokestatic 317) 3 43 := ⟨by decide +kernel, rfl⟩
theorem d_X8_works_43 : zDc M_X8_works 43 (.lastore) 1 44 := ⟨by decide +kernel, rfl⟩
theorem d_X8_works_44 : zDc M_X8_works 44 (.iconst 1) 1 45 := ⟨by decide +kernel, rfl⟩
theorem d_X8_works_45 : zDc M_X8_works 45 (.ireturn) 1 46 := ⟨by decide +kernel, rfl⟩
theorem d_X8_works_46 : zDc M_X8_works 46 (.aload_n 0) 1 47 := ⟨by decide +kernel, rfl⟩
theorem d_X8_works_47 : zDc M_X8_works 47 (.getfield 72) 3 50 := ⟨by decide +kernel, rfl⟩
theorem d_X8_works_50 : zDc M_X8_works 50 (.aload_n 0) 1 51 := ⟨by decide +kernel, rfl⟩
theorem d_X8_works_51 : zDc M_X8_works 51 (.getfield 314) 3 54 := ⟨by decide +kernel, rfl⟩
theorem d_X8_works_54 : zDc M_X8_works 54 (.iconst 2) 1 55 := ⟨by decide +kernel, rfl⟩
theorem d_X8_works_55 : zDc M_X8_works 55 (.isub) 1 56 := ⟨by decide +kernel, rfl⟩
theorem d_X8_works_56 : zDc M_X8_works 56 (.laload) 1 57 := ⟨by decide +kernel, rfl⟩
theorem d_X8_works_57 : zDc M_X8_works 57 (.lstore 4) 2 59 := ⟨by decide +kernel, rfl⟩
theorem d_X8_works_59 : zDc M_X8_works 59 (.aload_n 0) 1 60 := ⟨by decide +kernel, rfl⟩
theorem d_X8_works_60 : zDc M_X8_works 60 (.dup) 1 61 := ⟨by decide +kernel, rfl⟩
theorem d_X8_works_61 : zDc M_X8_works 61 (.getfield 314) 3 64 := ⟨by decide +kernel, rfl⟩
theorem d_X8_works_64 : zDc M_X8_works 64 (.iconst 1) 1 65 := ⟨by decide +kernel, rfl⟩
theorem d_X8_works_65 : zDc M_X8_works 65 (.isub) 1 66 := ⟨by decide +kernel, rfl⟩
theorem d_X8_works_66 : zDc M_X8_works 66 (.putfield 314) 3 69 := ⟨by decide +kernel, rfl⟩
theorem d_X8_works_69 : zDc M_X8_works 69 (.iload_n 1) 1 70 := ⟨by decide +kernel, rfl⟩
theorem d_X8_works_70 : decode M_X8_works.2.1 70 = .ok (.lookupswitch 314 #[(42, 116), (43, 98), (45, 107), (47, 151), (60, 168), (61, 208), (62, 188), (256, 228), (257, 268), (258, 248), (261, 288)], 98) := by decide +kernel
theorem d_X8_works_168 : zDc M_X8_works 168 (.lload 4) 2 170 := ⟨by decide +kernel, rfl⟩
theorem d_X8_works_170 : zDc M_X8_works 170 (.lload_n 2) 1 171 := ⟨by decide +kernel, rfl⟩
theorem d_X8_works_171 : zDc M_X8_works 171 (.ladd) 1 172 := ⟨by decide +kernel, rfl⟩
theorem d_X8_works_172 : zDc M_X8_works 172 (.lstore 6) 2 174 := ⟨by decide +kernel, rfl⟩
theorem d_X8_works_174 : zDj M_X8_works 174 (.goto 233) 233 177 407 := ⟨by decide +kernel, rfl, by decide⟩
theorem d_X8_works_177 : zDc M_X8_works 177 (.lload 4) 2 179 := ⟨by decide +kernel, rfl⟩
theorem d_X8_works_179 : zDc M_X8_works 179 (.lload_n 2) 1 180 := ⟨by decide +kernel, rfl⟩
theorem d_X8_works_180 : zDc M_X8_works 180 (.lsub) 1 181 := ⟨by decide +kernel, rfl⟩
theorem d_X8_works_181 : zDc M_X8_works 181 (.lstore 6) 2 183 := ⟨by decide +kernel, rfl⟩
theorem d_X8_works_183 : zDj M_X8_works 183 (.goto 224) 224 186 407 := ⟨by decide +kernel, rfl, by decide⟩
theorem d_X8_works_186 : zDc M_X8_works 186 (.lload 4) 2 188 := ⟨by decide +kernel, rfl⟩
theorem d_X8_works_188 : zDc M_X8_works 188 (.lconst 0) 1 189 := ⟨by decide +kernel, rfl⟩
theorem d_X8_works_189 : zDc M_X8_works 189 (.lcmp) 1 190 := ⟨by decide +kernel, rfl⟩
theorem d_X8_works_190 : zDj M_X8_works 190 (.ifCond .eq 22) 22 193 212 := ⟨by decide +kernel, rfl, by decide⟩
theorem d_X8_works_193 : zDc M_X8_works 193 (.lload_n 2) 1 194 := ⟨by decide +kernel, rfl⟩
theorem d_X8_works_194 : zDc M_X8_works 194 (.invokestatic 321) 3 197 := ⟨by decide +kernel, rfl⟩
theorem d_X8_works_197 : zDc M_X8_works 197 (.ldc2_w 327) 3 200 := ⟨by decide +kernel, rfl⟩
theorem d_X8_works_200 : zDc M_X8_works 200 (.lload 4) 2 202 := ⟨by decide +kernel, rfl⟩
theorem d_X8_works_202 : zDc M_X8_works 202 (.invokestatic 321) 3 205 := ⟨by decide +kernel, rfl⟩
theorem d_X8_works_205 : zDc M_X8_works 205 (.ldiv) 1 206 := ⟨by decide +kernel, rfl⟩
theorem d_X8_works_206 : zDc M_X8_works 206 (.lcmp) 1 207 := ⟨by decide +kernel, rfl⟩
theorem d_X8_works_207 : zDj M_X8_works 207 (.ifCond .le 5) 5 210 212 := ⟨by decide +kernel, rfl, by decide⟩
theorem d_X8_works_210 : zDc M_X8_works 210 (.iconst 0) 1 211 := ⟨by decide +kernel, rfl⟩
theorem d_X8_works_211 : zDc M_X8_works 211 (.ireturn) 1 212 := ⟨by decide +kernel, rfl⟩
theorem d_X8_works_212 : zDc M_X8_works 212 (.lload 4) 2 214 := ⟨by decide +kernel, rfl⟩
theorem d_X8_works_214 : zDc M_X8_works 214 (.lload_n 2) 1 215 := ⟨by decide +kernel, rfl⟩
theorem d_X8_works_215 : zDc M_X8_works 215 (.lmul) 1 216 := ⟨by decide +kernel, rfl⟩
theorem d_X8_works_216 : zDc M_X8_works 216 (.lstore 6) 2 218 := ⟨by decide +kernel, rfl⟩
theorem d_X8_works_218 : zDj M_X8_works 218 (.goto 189) 189 221 407 := ⟨by decide +kernel, rfl, by decide⟩
theorem d_X8_works_221 : zDc M_X8_works 221 (.lload_n 2) 1 222 := ⟨by decide +kernel, rfl⟩
theorem d_X8_works_222 : zDc M_X8_works 222 (.lconst 0) 1 223 := ⟨by decide +kernel, rfl⟩
theorem d_X8_works_223 : zDc M_X8_works 223 (.lcmp) 1 224 := ⟨by decide +kernel, rfl⟩
theorem d_X8_works_224 : zDj M_X8_works 224 (.ifCond .ne 5) 5 227 229 := ⟨by decide +kernel, rfl, by decide⟩
theorem d_X8_works_227 : zDc M_X8_works 227 (.iconst 0) 1 228 := ⟨by decide +kernel, rfl⟩
theorem d_X8_works_228 : zDc M_X8_works 228 (.ireturn) 1 229 := ⟨by decide +kernel, rfl⟩
theorem d_X8_works_229 : zDc M_X8_works 229 (.lload 4) 2 231 := ⟨by decide +kernel, rfl⟩
theorem d_X8_works_231 : zDc M_X8_works 231 (.lload_n 2) 1 232 := ⟨by decide +kernel, rfl⟩
theorem d_X8_works_232 : zDc M_X8_works 232 (.ldiv) 1 233 := ⟨by decide +kernel, rfl⟩
theorem d_X8_works_233 : zDc M_X8_works 233 (.lstore 6) 2 235 := ⟨by decide +kernel, rfl⟩
theorem d_X8_works_235 : zDj M_X8_works 235 (.goto 172) 172 238 407 := ⟨by decide +kernel, rfl, by decide⟩
theorem d_X8_works_238 : zDc M_X8_works 238 (.lload 4) 2 240 := ⟨by decide +kernel, rfl⟩
theorem d_X8_works_240 : zDc M_X8_works 240 (.lload_n 2) 1 241 := ⟨by decide +kernel, rfl⟩
theorem d_X8_works_241 : zDc M_X8_works 241 (.lcmp) 1 242 := ⟨by decide +kernel, rfl⟩
theorem d_X8_works_242 : zDj M_X8_works 242 (.ifCond .ge 7) 7 245 249 := ⟨by decide +kernel, rfl, by decide⟩
theorem d_X8_works_245 : zDc M_X8_works 245 (.iconst 1) 1 246 := ⟨by decide +kernel, rfl⟩
theorem d_X8_works_246 : zDj M_X8_works 246 (.goto 4) 4 249 250 := ⟨by decide +kernel, rfl, by decide⟩
theorem d_X8_works_249 : zDc M_X8_works 249 (.iconst 0) 1 250 := ⟨by decide +kernel, rfl⟩
theorem d_X8_works_250 : zDc M_X8_works 250 (.invokestatic 317) 3 253 := ⟨by decide +kernel, rfl⟩
theorem d_X8_works_253 : zDc M_X8_works 253 (.lstore 6) 2 255 := ⟨by decide +kernel, rfl⟩
theorem d_X8_works_255 : zDj M_X8_works 255 (.goto 152) 152 258 407 := ⟨by decide +kernel, rfl, by decide⟩
theorem d_X8_works_258 : zDc M_X8_works 258 (.lload 4) 2 260 := ⟨by decide +kernel, rfl⟩
theorem d_X8_works_260 : zDc M_X8_works 260 (.lload_n 2) 1 261 := ⟨by decide +kernel, rfl⟩
theorem d_X8_works_261 : zDc M_X8_works 261 (.lcmp) 1 262 := ⟨by decide +kernel, rfl⟩
theorem d_X8_works_262 : zDj M_X8_works 262 (.ifCond .le 7) 7 265 269 := ⟨by decide +kernel, rfl, by decide⟩
theorem d_X8_works_265 : zDc M_X8_works 265 (.iconst 1) 1 266 := ⟨by decide +kernel, rfl⟩
theorem d_X8_works_266 : zDj M_X8_works 266 (.goto 4) 4 269 270 := ⟨by decide +kernel, rfl, by decide⟩
theorem d_X8_works_269 : zDc M_X8_works 269 (.iconst 0) 1 270 := ⟨by decide +kernel, rfl⟩
theorem d_X8_works_270 : zDc M_X8_works 270 (.invokestatic 317) 3 273 := ⟨by decide +kernel, rfl⟩
theorem d_X8_works_273 : zDc M_X8_works 273 (.lstore 6) 2 275 := ⟨by decide +kernel, rfl⟩
theorem d_X8_works_275 : zDj M_X8_works 275 (.goto 132) 132 278 407 := ⟨by decide +kernel, rfl, by decide⟩
theorem d_X8_works_278 : zDc M_X8_works 278 (.lload 4) 2 280 := ⟨by decide +kernel, rfl⟩
theorem d_X8_works_280 : zDc M_X8_works 280 (.lload_n 2) 1 281 := ⟨by decide +kernel, rfl⟩
theorem d_X8_works_281 : zDc M_X8_works 281 (.lcmp) 1 282 := ⟨by decide +kernel, rfl⟩
theorem d_X8_works_282 : zDj M_X8_works 282 (.ifCond .ne 7) 7 285 289 := ⟨by decide +kernel, rfl, by decide⟩
theorem d_X8_works_285 : zDc M_X8_works 285 (.iconst 1) 1 286 := ⟨by decide +kernel, rfl⟩
theorem d_X8_works_286 : zDj M_X8_works 286 (.goto 4) 4 289 290 := ⟨by decide +kernel, rfl, by decide⟩
theorem d_X8_works_289 : zDc M_X8_works 289 (.iconst 0) 1 290 := ⟨by decide +kernel, rfl⟩
theorem d_X8_works_290 : zDc M_X8_works 290 (.invokestatic 317) 3 293 := ⟨by decide +kernel, rfl⟩
theorem d_X8_works_293 : zDc M_X8_works 293 (.lstore 6) 2 295 := ⟨by decide +kernel, rfl⟩
theorem d_X8_works_295 : zDj M_X8_works 295 (.goto 112) 112 298 407 := ⟨by decide +kernel, rfl, by decide⟩
theorem d_X8_works_298 : zDc M_X8_works 298 (.lload 4) 2 300 := ⟨by decide +kernel, rfl⟩
theorem d_X8_works_300 : zDc M_X8_works 300 (.lload_n 2) 1 301 := ⟨by decide +kernel, rfl⟩
theorem d_X8_works_301 : zDc M_X8_works 301 (.lcmp) 1 302 := ⟨by decide +kernel, rfl⟩
theorem d_X8_works_302 : zDj M_X8_works 302 (.ifCond .gt 7) 7 305 309 := ⟨by decide +kernel, rfl, by decide⟩
theorem d_X8_works_305 : zDc M_X8_works 305 (.iconst 1) 1 306 := ⟨by decide +kernel, rfl⟩
theorem d_X8_works_306 : zDj M_X8_works 306 (.goto 4) 4 309 310 := ⟨by decide +kernel, rfl, by decide⟩
theorem d_X8_works_309 : zDc M_X8_works 309 (.iconst 0) 1 310 := ⟨by decide +kernel, rfl⟩
theorem d_X8_works_310 : zDc M_X8_works 310 (.invokestatic 317) 3 313 := ⟨by decide +kernel, rfl⟩
theorem d_X8_works_313 : zDc M_X8_works 313 (.lstore 6) 2 315 := ⟨by decide +kernel, rfl⟩
theorem d_X8_works_315 : zDj M_X8_works 315 (.goto 92) 92 318 407 := ⟨by decide +kernel, rfl, by decide⟩
theorem d_X8_works_318 : zDc M_X8_works 318 (.lload 4) 2 320 := ⟨by decide +kernel, rfl⟩
theorem d_X8_works_320 : zDc M_X8_works 320 (.lload_n 2) 1 321 := ⟨by decide +kernel, rfl⟩
theorem d_X8_works_321 : zDc M_X8_works 321 (.lcmp) 1 322 := ⟨by decide +kernel, rfl⟩
theorem d_X8_works_322 : zDj M_X8_works 322 (.ifCond .lt 7) 7 325 329 := ⟨by decide +kernel, rfl, by decide⟩
theorem d_X8_works_325 : zDc M_X8_works 325 (.iconst 1) 1 326 := ⟨by decide +kernel, rfl⟩
theorem d_X8_works_326 : zDj M_X8_works 326 (.goto 4) 4 329 330 := ⟨by decide +kernel, rfl, by decide⟩
theorem d_X8_works_329 : zDc M_X8_works 329 (.iconst 0) 1 330 := ⟨by decide +kernel, rfl⟩
theorem d_X8_works_330 : zDc M_X8_works 330 (.invokestatic 317) 3 333 := ⟨by decide +kernel, rfl⟩
theorem d_X8_works_333 : zDc M_X8_works 333 (.lstore 6) 2 335 := ⟨by decide +kernel, rfl⟩
theorem d_X8_works_335 : zDj M_X8_works 335 (.goto 72) 72 338 407 := ⟨by decide +kernel, rfl, by decide⟩
theorem d_X8_works_338 : zDc M_X8_works 338 (.lload 4) 2 340 := ⟨by decide +kernel, rfl⟩
theorem d_X8_works_340 : zDc M_X8_works 340 (.lload_n 2) 1 341 := ⟨by decide +kernel, rfl⟩
theorem d_X8_works_341 : zDc M_X8_works 341 (.lcmp) 1 342 := ⟨by decide +kernel, rfl⟩
theorem d_X8_works_342 : zDj M_X8_works 342 (.ifCond .eq 7) 7 345 349 := ⟨by decide +kernel, rfl, by decide⟩
theorem d_X8_works_345 : zDc M_X8_works 345 (.iconst 1) 1 346 := ⟨by decide +kernel, rfl⟩
theorem d_X8_works_346 : zDj M_X8_works 346 (.goto 4) 4 349 350 := ⟨by decide +kernel, rfl, by decide⟩
theorem d_X8_works_349 : zDc M_X8_works 349 (.iconst 0) 1 350 := ⟨by decide +kernel, rfl⟩
theorem d_X8_works_350 : zDc M_X8_works 350 (.invokestatic 317) 3 353 := ⟨by decide +kernel, rfl⟩
theorem d_X8_works_353 : zDc M_X8_works 353 (.lstore 6) 2 355 := ⟨by decide +kernel, rfl⟩
theorem d_X8_works_355 : zDj M_X8_works 355 (.goto 52) 52 358 407 := ⟨by decide +kernel, rfl, by decide⟩
theorem d_X8_works_358 : zDc M_X8_works 358 (.lload 4) 2 360 := ⟨by decide +kernel, rfl⟩
theorem d_X8_works_360 : zDc M_X8_works 360 (.lconst 0) 1 361 := ⟨by decide +kernel, rfl⟩
theorem d_X8_works_361 : zDc M_X8_works 361 (.lcmp) 1 362 := ⟨by decide +kernel, rfl⟩
theorem d_X8_works_362 : zDj M_X8_works 362 (.ifCond .eq 13) 13 365 375 := ⟨by decide +kernel, rfl, by decide⟩
theorem d_X8_works_365 : zDc M_X8_works 365 (.lload_n 2) 1 366 := ⟨by decide +kernel, rfl⟩
theorem d_X8_works_366 : zDc M_X8_works 366 (.lconst 0) 1 367 := ⟨by decide +kernel, rfl⟩
theorem d_X8_works_367 : zDc M_X8_works 367 (.lcmp) 1 368 := ⟨by decide +kernel, rfl⟩
theorem d_X8_works_368 : zDj M_X8_works 368 (.ifCond .eq 7) 7 371 375 := ⟨by decide +kernel, rfl, by decide⟩
theorem d_X8_works_371 : zDc M_X8_works 371 (.iconst 1) 1 372 := ⟨by decide +kernel, rfl⟩
theorem d_X8_works_372 : zDj M_X8_works 372 (.goto 4) 4 375 376 := ⟨by decide +kernel, rfl, by decide⟩
theorem d_X8_works_375 : zDc M_X8_works 375 (.iconst 0) 1 376 := ⟨by decide +kernel, rfl⟩
theorem d_X8_works_376 : zDc M_X8_works 376 (.invokestatic 317) 3 379 := ⟨by decide +kernel, rfl⟩
theorem d_X8_works_379 : zDc M_X8_works 379 (.lstore 6) 2 381 := ⟨by decide +kernel, rfl⟩
theorem d_X8_works_381 : zDj M_X8_works 381 (.goto 26) 26 384 407 := ⟨by decide +kernel, rfl, by decide⟩
theorem d_X8_works_384 : zDc M_X8_works 384 (.lload 4) 2 386 := ⟨by decide +kernel, rfl⟩
theorem d_X8_works_386 : zDc M_X8_works 386 (.lconst 0) 1 387 := ⟨by decide +kernel, rfl⟩
theorem d_X8_works_387 : zDc M_X8_works 387 (.lcmp) 1 388 := ⟨by decide +kernel, rfl⟩
theorem d_X8_works_388 : zDj M_X8_works 388 (.ifCond .ne 9) 9 391 397 := ⟨by decide +kernel, rfl, by decide⟩
theorem d_X8_works_391 : zDc M_X8_works 391 (.lload_n 2) 1 392 := ⟨by decide +kernel, rfl⟩
theorem d_X8_works_392 : zDc M_X8_works 392 (.lconst 0) 1 393 := ⟨by decide +kernel, rfl⟩
theorem d_X8_works_393 : zDc M_X8_works 393 (.lcmp) 1 394 := ⟨by decide +kernel, rfl⟩
theorem d_X8_works_394 : zDj M_X8_works 394 (.ifCond .eq 7) 7 397 401 := ⟨by decide +kernel, rfl, by decide⟩
theorem d_X8_works_397 : zDc M_X8_works 397 (.iconst 1) 1 398 := ⟨by decide +kernel, rfl⟩
theorem d_X8_works_398 : zDj M_X8_works 398 (.goto 4) 4 401 402 := ⟨by decide +kernel, rfl, by decide⟩
theorem d_X8_works_401 : zDc M_X8_works 401 (.iconst 0) 1 402 := ⟨by decide +kernel, rfl⟩
theorem d_X8_works_402 : zDc M_X8_works 402 (.invokestatic 317) 3 405 := ⟨by decide +kernel, rfl⟩
theorem d_X8_works_405 : zDc M_X8_works 405 (.lstore 6) 2 407 := ⟨by decide +kernel, rfl⟩
theorem d_X8_works_407 : zDc M_X8_works 407 (.aload_n 0) 1 408 := ⟨by decide +kernel, rfl⟩
theorem d_X8_works_408 : zDc M_X8_works 408 (.getfield 72) 3 411 := ⟨by decide +kernel, rfl⟩
theorem d_X8_works_411 : zDc M_X8_works 411 (.aload_n 0) 1 412 := ⟨by decide +kernel, rfl⟩
theorem d_X8_works_412 : zDc M_X8_works 412 (.getfield 314) 3 415 := ⟨by decide +kernel, rfl⟩
theorem d_X8_works_415 : zDc M_X8_works 415 (.iconst 1) 1 416 := ⟨by decide +kernel, rfl⟩
theorem d_X8_works_416 : zDc M_X8_works 416 (.isub) 1 417 := ⟨by decide +kernel, rfl⟩
theorem d_X8_works_417 : zDc M_X8_works 417 (.lload 6) 2 419 := ⟨by decide +kernel, rfl⟩
theorem d_X8_works_419 : zDc M_X8_works 419 (.lastore) 1 420 := ⟨by decide +kernel, rfl⟩
theorem d_X8_works_420 : zDc M_X8_works 420 (.lload 6) 2 422 := ⟨by decide +kernel, rfl⟩
theorem d_X8_works_422 : zDc M_X8_works 422 (.ldc2_w 327) 3 425 := ⟨by decide +kernel, rfl⟩
theorem d_X8_works_425 : zDc M_X8_works 425 (.lcmp) 1 426 := ⟨by decide +kernel, rfl⟩
theorem d_X8_works_426 : zDj M_X8_works 426 (.ifCond .gt 16) 16 429 442 := ⟨by decide +kernel, rfl, by decide⟩
theorem d_X8_works_429 : zDc M_X8_works 429 (.lload 6) 2 431 := ⟨by decide +kernel, rfl⟩
theorem d_X8_works_431 : zDc M_X8_works 431 (.ldc2_w 329) 3 434 := ⟨by decide +kernel, rfl⟩
theorem d_X8_works_434 : zDc M_X8_works 434 (.lcmp) 1 435 := ⟨by decide +kernel, rfl⟩
theorem d_X8_works_435 : zDj M_X8_works 435 (.ifCond .lt 7) 7 438 442 := ⟨by decide +kernel, rfl, by decide⟩
theorem d_X8_works_438 : zDc M_X8_works 438 (.iconst 1) 1 439 := ⟨by decide +kernel, rfl⟩
theorem d_X8_works_439 : zDj M_X8_works 439 (.goto 4) 4 442 443 := ⟨by decide +kernel, rfl, by decide⟩
theorem d_X8_works_442 : zDc M_X8_works 442 (.iconst 0) 1 443 := ⟨by decide +kernel, rfl⟩
theorem d_X8_works_443 : zDc M_X8_works 443 (.ireturn) 1 444 := ⟨by decide +kernel, rfl⟩
def f_X8_works (a0 : Nat) (a1 : Int32) (h0 : zHp) : Option (Int32 × zHp) :=
  zob (zgR h0 a0 8 34) (fun v1 =>
  zob (zgI h0 a0 8 35) (fun v2 =>
  zob (zaL h0 v1 (v2 - 1)) (fun v3 =>
  if a1 = 260 then
  zob (zgR h0 a0 8 34) (fun v4 =>
  zob (zgI h0 a0 8 35) (fun v5 =>
  zbd (α := Int32) (
  if (lg_cmp v3 0) = 0 then
  some (1, h0)
  else
  some (0, h0)) (fun e6 h7 =>
  zbd ((f_X8_is e6 h7)) (fun v9 h8 =>
  zob (zsL h8 v4 (v5 - 1) v9) (fun h10 =>
  some (1, h10))))))
  else
  zob (zgR h0 a0 8 34) (fun v11 =>
  zob (zgI h0 a0 8 35) (fun v12 =>
  zob (zaL h0 v11 (v12 - 2)) (fun v13 =>
  zob (zgI h0 a0 8 35) (fun v14 =>
  zob (zpV h0 a0 8 35 (.int (v14 - 1))) (fun h15 =>
  zbd (α := (Int64 ⊕ Int32)) (
  if a1 = 42 then
  if (lg_cmp v13 0) = 0 then
  some ((.inl (v13 * v3)), h15)
  else
  zob (zdl 1000000000000 (zabL v13)) (fun v16 =>
  if (lg_cmp (zabL v3) v16) ≤ 0 then
  some ((.inl (v13 * v3)), h15)
  else
  some ((.inr 0), h15))
  else if a1 = 43 then
  some ((.inl (v13 + v3)), h15)
  else if a1 = 45 then
  some ((.inl (v13 - v3)), h15)
  else if a1 = 47 then
  if (lg_cmp v3 0) = 0 then
  some ((.inr 0), h15)
  else
  zob (zdl v13 v3) (fun v17 =>
  some ((.inl v17), h15))
  else if a1 = 60 then
  zbd (α := Int32) (
  if 0 ≤ (lg_cmp v13 v3) then
  some (0, h15)
  else
  some (1, h15)) (fun e18 h19 =>
  zbd ((f_X8_is e18 h19)) (fun v21 h20 =>
  some ((.inl v21), h20)))
  else if a1 = 61 then
  zbd (α := Int32) (
  if (lg_cmp v13 v3) = 0 then
  some (1, h15)
  else
  some (0, h15)) (fun e22 h23 =>
  zbd ((f_X8_is e22 h23)) (fun v25 h24 =>
  some ((.inl v25), h24)))
  else if a1 = 62 then
  zbd (α := Int32) (
  if (lg_cmp v13 v3) ≤ 0 then
  some (0, h15)
  else
  some (1, h15)) (fun e26 h27 =>
  zbd ((f_X8_is e26 h27)) (fun v29 h28 =>
  some ((.inl v29), h28)))
  else if a1 = 256 then
  zbd (α := Int32) (
  if 0 < (lg_cmp v13 v3) then
  some (0, h15)
  else
  some (1, h15)) (fun e30 h31 =>
  zbd ((f_X8_is e30 h31)) (fun v33 h32 =>
  some ((.inl v33), h32)))
  else if a1 = 257 then
  zbd (α := Int32) (
  if (lg_cmp v13 v3) = 0 then
  some (0, h15)
  else
  some (1, h15)) (fun e34 h35 =>
  zbd ((f_X8_is e34 h35)) (fun v37 h36 =>
  some ((.inl v37), h36)))
  else if a1 = 258 then
  zbd (α := Int32) (
  if (lg_cmp v13 v3) < 0 then
  some (0, h15)
  else
  some (1, h15)) (fun e38 h39 =>
  zbd ((f_X8_is e38 h39)) (fun v41 h40 =>
  some ((.inl v41), h40)))
  else if a1 = 261 then
  zbd (α := Int32) (
  if (lg_cmp v13 0) = 0 then
  some (0, h15)
  else
  if (lg_cmp v3 0) = 0 then
  some (0, h15)
  else
  some (1, h15)) (fun e42 h43 =>
  zbd ((f_X8_is e42 h43)) (fun v45 h44 =>
  some ((.inl v45), h44)))
  else 
  zbd (α := Int32) (
  if (lg_cmp v13 0) = 0 then
  if (lg_cmp v3 0) = 0 then
  some (0, h15)
  else
  some (1, h15)
  else
  some (1, h15)) (fun e46 h47 =>
  zbd ((f_X8_is e46 h47)) (fun v49 h48 =>
  some ((.inl v49), h48)))) (fun b66 h51 => zsl b66 (fun e50 =>
  zob (zgR h51 a0 8 34) (fun v52 =>
  zob (zgI h51 a0 8 35) (fun v53 =>
  zob (zsL h51 v52 (v53 - 1) e50) (fun h54 =>
  if 0 < (lg_cmp e50 1000000000000) then
  some (0, h54)
  else
  if (lg_cmp e50 (-1000000000000)) < 0 then
  some (0, h54)
  else
  some (1, h54))))) (fun r => some (r, h51)))))))))))
set_option maxRecDepth 100000 in
set_option maxHeartbeats 4000000 in
theorem t_X8_works (a0 : Nat) (a1 : Int32) (h0 : zHp) : ∀ (r : Int32) (h' : zHp), f_X8_works a0 a1 h0 = some (r, h') → zCt yX8_works (.code yX8_works cX8_works 8 (some .boolean)) 2 80 0 0 [.ref a0, .int a1] h0 (some (.int r)) h' := by
  refine zct_of M_X8_works yX8_works (by decide) rfl rfl [.ref a0, .int a1] h0 (Nat.le_of_ble_eq_true rfl) (fun r => some (.int r)) (fun X => ?_)
  show zG X M_X8_works (0, 0) 0 [(0, .ref a0), (1, .int a1)] [] h0 (f_X8_works a0 a1 h0) (fun (r : Int32) h' => zKe X (some (.int r)) h')
  unfold f_X8_works
  refine zg_aload_n 0 rfl d_X8_works_0 ?_
  refine zg_getR d_X8_works_1 zc_8 (by decide) fl_X8_72 (fun v1 => ?_)
  refine zg_aload_n 0 rfl d_X8_works_4 ?_
  refine zg_getI d_X8_works_5 zc_8 (by decide) fl_X8_314 (fun v2 => ?_)
  refine zg_iconst 1 rfl d_X8_works_8 ?_
  refine zg_isub d_X8_works_9 ?_
  refine zg_ald3 d_X8_works_10 (fun v3 => ?_)
  refine zg_lstore_n [(2, .long v3), (0, .ref a0), (1, .int a1)] d_X8_works_11 rfl (by decide) rfl ?_
  refine zg_iload_n 2 rfl d_X8_works_12 ?_
  refine zg_sipush 260 rfl d_X8_works_13 ?_
  refine zg_icmp_ne d_X8_works_16 ?_ ?_
  · refine zg_aload_n 1 rfl d_X8_works_19 ?_
    refine zg_getR d_X8_works_20 zc_8 (by decide) fl_X8_72 (fun v4 => ?_)
    refine zg_aload_n 1 rfl d_X8_works_23 ?_
    refine zg_getI d_X8_works_24 zc_8 (by decide) fl_X8_314 (fun v5 => ?_)
    refine zg_iconst 1 rfl d_X8_works_27 ?_
    refine zg_isub d_X8_works_28 ?_
    refine zg_lload_n 0 rfl d_X8_works_29 ?_
    refine zg_lconst 0 rfl d_X8_works_30 ?_
    refine zg_lcmp d_X8_works_31 ?_
    refine zg_bd (E := 40) (el := (fun (e6 : Int32) => [(0, .ref a0), (1, .int a1), (2, .long v3)])) (es := (fun (e6 : Int32) => [.int e6, .int (v5 - 1), .ref v4])) ?_ (fun e6 h7 => ?_)
    · refine zg_if_ne d_X8_works_32 ?_ ?_
      · refine zg_iconst 1 rfl d_X8_works_35 ?_
        refine zg_goto d_X8_works_36 ?_
        exact zg_finK (E := 0) [1, 2, 0] rfl rfl (fun q => q)
      · refine zg_iconst 0 rfl d_X8_works_39 ?_
        exact zg_finK (E := 0) [1, 2, 0] rfl rfl (fun q => q)
    · refine zg_cSl (As := [.int e6]) (rest := [.int (v5 - 1), .ref v4]) (0, 0) d_X8_works_40 cw_X8_317 wt_X8_is rfl rfl (Nat.le_of_ble_eq_true rfl) (by decide) (by decide) ⟨by decide, by decide⟩ rfl (t_X8_is e6 h7) (fun v9 h8 => ?_)
      refine zg_ast3 d_X8_works_43 (fun h10 => ?_)
      refine zg_iconst 1 rfl d_X8_works_44 ?_
      exact zg_zretK d_X8_works_45 rfl ⟨Nat.le_of_ble_eq_true rfl, Nat.le_of_ble_eq_true rfl⟩ (Or.inr rfl) (fun q => q)
  · refine zg_aload_n 1 rfl d_X8_works_46 ?_
    refine zg_getR d_X8_works_47 zc_8 (by decide) fl_X8_72 (fun v11 => ?_)
    refine zg_aload_n 1 rfl d_X8_works_50 ?_
    refine zg_getI d_X8_works_51 zc_8 (by decide) fl_X8_314 (fun v12 => ?_)
    refine zg_iconst 2 rfl d_X8_works_54 ?_
    refine zg_isub d_X8_works_55 ?_
    refine zg_ald3 d_X8_works_56 (fun v13 => ?_)
    refine zg_lstore [(4, .long v13), (2, .long v3), (0, .ref a0), (1, .int a1)] d_X8_works_57 (by decide) rfl ?_
    refine zg_aload_n 2 rfl d_X8_works_59 ?_
    refine zg_dup rfl d_X8_works_60 ?_
    refine zg_getI d_X8_works_61 zc_8 (by decide) fl_X8_314 (fun v14 => ?_)
    refine zg_iconst 1 rfl d_X8_works_64 ?_
    refine zg_isub d_X8_works_65 ?_
    refine zg_putV d_X8_works_66 zc_8 (by decide) fl_X8_314 rfl rfl rfl (fun h15 => ?_)
    refine zg_iload_n 3 rfl d_X8_works_69 ?_
    refine zg_bdr (E := 407) (el := (fun (e50 : Int64) => [(0, .ref a0), (1, .int a1), (2, .long v3), (4, .long v13), (6, .long e50)])) (es := (fun (e50 : Int64) => [])) ?_ (fun e50 h51 => ?_)
    · refine zg_if (fun n55 => ?_) (fun n55 => ?_)
      · refine zg_lookE n55 d_X8_works_70 (by decide) (off := 116) (by decide) (tgt := 186) (by decide) ?_
        refine zg_lload 0 rfl d_X8_works_186 ?_
        refine zg_lconst 0 rfl d_X8_works_188 ?_
        refine zg_lcmp d_X8_works_189 ?_
        refine zg_if_eq d_X8_works_190 ?_ ?_
        · refine zg_lload 0 rfl d_X8_works_212 ?_
          refine zg_lload_n 1 rfl d_X8_works_214 ?_
          refine zg_lmul d_X8_works_215 ?_
          refine zg_lstore [(6, .long (v13 * v3)), (4, .long v13), (2, .long v3), (0, .ref a0), (1, .int a1)] d_X8_works_216 (by decide) rfl ?_
          refine zg_goto d_X8_works_218 ?_
          exact zg_finK (E := 0) [3, 4, 2, 1, 0] rfl rfl (fun q => q)
        · refine zg_lload_n 1 rfl d_X8_works_193 ?_
          refine zg_mabsL d_X8_works_194 ml_X8_321 (by decide) (Nat.le_of_ble_eq_true rfl) ⟨Nat.le_of_ble_eq_true rfl, Nat.le_of_ble_eq_true rfl⟩ ?_
          refine zg_ldc2 kl_X8_327 d_X8_works_197 ?_
          refine zg_lload 0 rfl d_X8_works_200 ?_
          refine zg_mabsL d_X8_works_202 ml_X8_321 (by decide) (Nat.le_of_ble_eq_true rfl) ⟨Nat.le_of_ble_eq_true rfl, Nat.le_of_ble_eq_true rfl⟩ ?_
          refine zg_ldivP d_X8_works_205 (fun v16 => ?_)
          refine zg_lcmp d_X8_works_206 ?_
          refine zg_if_le d_X8_works_207 ?_ ?_
          · refine zg_lload 0 rfl d_X8_works_212 ?_
            refine zg_lload_n 1 rfl d_X8_works_214 ?_
            refine zg_lmul d_X8_works_215 ?_
            refine zg_lstore [(6, .long (v13 * v3)), (4, .long v13), (2, .long v3), (0, .ref a0), (1, .int a1)] d_X8_works_216 (by decide) rfl ?_
            refine zg_goto d_X8_works_218 ?_
            exact zg_finK (E := 0) [3, 4, 2, 1, 0] rfl rfl (fun q => q)
          · refine zg_iconst 0 rfl d_X8_works_210 ?_
            exact zg_zretK d_X8_works_211 rfl ⟨Nat.le_of_ble_eq_true rfl, Nat.le_of_ble_eq_true rfl⟩ (Or.inl rfl) (fun q => q)
      refine zg_if (fun n56 => ?_) (fun n56 => ?_)
      · refine zg_lookE n56 d_X8_works_70 (by decide) (off := 98) (by decide) (tgt := 168) (by decide) ?_
        refine zg_lload 0 rfl d_X8_works_168 ?_
        refine zg_lload_n 1 rfl d_X8_works_170 ?_
        refine zg_ladd d_X8_works_171 ?_
        refine zg_lstore [(6, .long (v13 + v3)), (4, .long v13), (2, .long v3), (0, .ref a0), (1, .int a1)] d_X8_works_172 (by decide) rfl ?_
        refine zg_goto d_X8_works_174 ?_
        exact zg_finK (E := 0) [3, 4, 2, 1, 0] rfl rfl (fun q => q)
      refine zg_if (fun n57 => ?_) (fun n57 => ?_)
      · refine zg_lookE n57 d_X8_works_70 (by decide) (off := 107) (by decide) (tgt := 177) (by decide) ?_
        refine zg_lload 0 rfl d_X8_works_177 ?_
        refine zg_lload_n 1 rfl d_X8_works_179 ?_
        refine zg_lsub d_X8_works_180 ?_
        refine zg_lstore [(6, .long (v13 - v3)), (4, .long v13), (2, .long v3), (0, .ref a0), (1, .int a1)] d_X8_works_181 (by decide) rfl ?_
        refine zg_goto d_X8_works_183 ?_
        exact zg_finK (E := 0) [3, 4, 2, 1, 0] rfl rfl (fun q => q)
      refine zg_if (fun n58 => ?_) (fun n58 => ?_)
      · refine zg_lookE n58 d_X8_works_70 (by decide) (off := 151) (by decide) (tgt := 221) (by decide) ?_
        refine zg_lload_n 1 rfl d_X8_works_221 ?_
        refine zg_lconst 0 rfl d_X8_works_222 ?_
        refine zg_lcmp d_X8_works_223 ?_
        refine zg_if_ne d_X8_works_224 ?_ ?_
        · refine zg_iconst 0 rfl d_X8_works_227 ?_
          exact zg_zretK d_X8_works_228 rfl ⟨Nat.le_of_ble_eq_true rfl, Nat.le_of_ble_eq_true rfl⟩ (Or.inl rfl) (fun q => q)
        · refine zg_lload 0 rfl d_X8_works_229 ?_
          refine zg_lload_n 1 rfl d_X8_works_231 ?_
          refine zg_ldivP d_X8_works_232 (fun v17 => ?_)
          refine zg_lstore [(6, .long v17), (4, .long v13), (2, .long v3), (0, .ref a0), (1, .int a1)] d_X8_works_233 (by decide) rfl ?_
          refine zg_goto d_X8_works_235 ?_
          exact zg_finK (E := 0) [3, 4, 2, 1, 0] rfl rfl (fun q => q)
      refine zg_if (fun n59 => ?_) (fun n59 => ?_)
      · refine zg_lookE n59 d_X8_works_70 (by decide) (off := 168) (by decide) (tgt := 238) (by decide) ?_
        refine zg_lload 0 rfl d_X8_works_238 ?_
        refine zg_lload_n 1 rfl d_X8_works_240 ?_
        refine zg_lcmp d_X8_works_241 ?_
        refine zg_bd (E := 250) (el := (fun (e18 : Int32) => [(0, .ref a0), (1, .int a1), (2, .long v3), (4, .long v13)])) (es := (fun (e18 : Int32) => [.int e18])) ?_ (fun e18 h19 => ?_)
        · refine zg_if_ge d_X8_works_242 ?_ ?_
          · refine zg_iconst 0 rfl d_X8_works_249 ?_
            exact zg_finK (E := 0) [2, 3, 1, 0] rfl rfl (fun q => q)
          · refine zg_iconst 1 rfl d_X8_works_245 ?_
            refine zg_goto d_X8_works_246 ?_
            exact zg_finK (E := 0) [2, 3, 1, 0] rfl rfl (fun q => q)
        · refine zg_cSl (As := [.int e18]) (rest := []) (0, 0) d_X8_works_250 cw_X8_317 wt_X8_is rfl rfl (Nat.le_of_ble_eq_true rfl) (by decide) (by decide) ⟨by decide, by decide⟩ rfl (t_X8_is e18 h19) (fun v21 h20 => ?_)
          refine zg_lstore [(6, .long v21), (0, .ref a0), (1, .int a1), (2, .long v3), (4, .long v13)] d_X8_works_253 (by decide) rfl ?_
          refine zg_goto d_X8_works_255 ?_
          exact zg_finK (E := 0) [1, 2, 3, 4, 0] rfl rfl (fun q => q)
      refine zg_if (fun n60 => ?_) (fun n60 => ?_)
      · refine zg_lookE n60 d_X8_works_70 (by decide) (off := 208) (by decide) (tgt := 278) (by decide) ?_
        refine zg_lload 0 rfl d_X8_works_278 ?_
        refine zg_lload_n 1 rfl d_X8_works_280 ?_
        refine zg_lcmp d_X8_works_281 ?_
        refine zg_bd (E := 290) (el := (fun (e22 : Int32) => [(0, .ref a0), (1, .int a1), (2, .long v3), (4, .long v13)])) (es := (fun (e22 : Int32) => [.int e22])) ?_ (fun e22 h23 => ?_)
        · refine zg_if_ne d_X8_works_282 ?_ ?_
          · refine zg_iconst 1 rfl d_X8_works_285 ?_
            refine zg_goto d_X8_works_286 ?_
            exact zg_finK (E := 0) [2, 3, 1, 0] rfl rfl (fun q => q)
          · refine zg_iconst 0 rfl d_X8_works_289 ?_
            exact zg_finK (E := 0) [2, 3, 1, 0] rfl rfl (fun q => q)
        · refine zg_cSl (As := [.int e22]) (rest := []) (0, 0) d_X8_works_290 cw_X8_317 wt_X8_is rfl rfl (Nat.le_of_ble_eq_true rfl) (by decide) (by decide) ⟨by decide, by decide⟩ rfl (t_X8_is e22 h23) (fun v25 h24 => ?_)
          refine zg_lstore [(6, .long v25), (0, .ref a0), (1, .int a1), (2, .long v3), (4, .long v13)] d_X8_works_293 (by decide) rfl ?_
          refine zg_goto d_X8_works_295 ?_
          exact zg_finK (E := 0) [1, 2, 3, 4, 0] rfl rfl (fun q => q)
      refine zg_if (fun n61 => ?_) (fun n61 => ?_)
      · refine zg_lookE n61 d_X8_works_70 (by decide) (off := 188) (by decide) (tgt := 258) (by decide) ?_
        refine zg_lload 0 rfl d_X8_works_258 ?_
        refine zg_lload_n 1 rfl d_X8_works_260 ?_
        refine zg_lcmp d_X8_works_261 ?_
        refine zg_bd (E := 270) (el := (fun (e26 : Int32) => [(0, .ref a0), (1, .int a1), (2, .long v3), (4, .long v13)])) (es := (fun (e26 : Int32) => [.int e26])) ?_ (fun e26 h27 => ?_)
        · refine zg_if_le d_X8_works_262 ?_ ?_
          · refine zg_iconst 0 rfl d_X8_works_269 ?_
            exact zg_finK (E := 0) [2, 3, 1, 0] rfl rfl (fun q => q)
          · refine zg_iconst 1 rfl d_X8_works_265 ?_
            refine zg_goto d_X8_works_266 ?_
            exact zg_finK (E := 0) [2, 3, 1, 0] rfl rfl (fun q => q)
        · refine zg_cSl (As := [.int e26]) (rest := []) (0, 0) d_X8_works_270 cw_X8_317 wt_X8_is rfl rfl (Nat.le_of_ble_eq_true rfl) (by decide) (by decide) ⟨by decide, by decide⟩ rfl (t_X8_is e26 h27) (fun v29 h28 => ?_)
          refine zg_lstore [(6, .long v29), (0, .ref a0), (1, .int a1), (2, .long v3), (4, .long v13)] d_X8_works_273 (by decide) rfl ?_
          refine zg_goto d_X8_works_275 ?_
          exact zg_finK (E := 0) [1, 2, 3, 4, 0] rfl rfl (fun q => q)
      refine zg_if (fun n62 => ?_) (fun n62 => ?_)
      · refine zg_lookE n62 d_X8_works_70 (by decide) (off := 228) (by decide) (tgt := 298) (by decide) ?_
        refine zg_lload 0 rfl d_X8_works_298 ?_
        refine zg_lload_n 1 rfl d_X8_works_300 ?_
        refine zg_lcmp d_X8_works_301 ?_
        refine zg_bd (E := 310) (el := (fun (e30 : Int32) => [(0, .ref a0), (1, .int a1), (2, .long v3), (4, .long v13)])) (es := (fun (e30 : Int32) => [.int e30])) ?_ (fun e30 h31 => ?_)
        · refine zg_if_gt d_X8_works_302 ?_ ?_
          · refine zg_iconst 0 rfl d_X8_works_309 ?_
            exact zg_finK (E := 0) [2, 3, 1, 0] rfl rfl (fun q => q)
          · refine zg_iconst 1 rfl d_X8_works_305 ?_
            refine zg_goto d_X8_works_306 ?_
            exact zg_finK (E := 0) [2, 3, 1, 0] rfl rfl (fun q => q)
        · refine zg_cSl (As := [.int e30]) (rest := []) (0, 0) d_X8_works_310 cw_X8_317 wt_X8_is rfl rfl (Nat.le_of_ble_eq_true rfl) (by decide) (by decide) ⟨by decide, by decide⟩ rfl (t_X8_is e30 h31) (fun v33 h32 => ?_)
          refine zg_lstore [(6, .long v33), (0, .ref a0), (1, .int a1), (2, .long v3), (4, .long v13)] d_X8_works_313 (by decide) rfl ?_
          refine zg_goto d_X8_works_315 ?_
          exact zg_finK (E := 0) [1, 2, 3, 4, 0] rfl rfl (fun q => q)
      refine zg_if (fun n63 => ?_) (fun n63 => ?_)
      · refine zg_lookE n63 d_X8_works_70 (by decide) (off := 268) (by decide) (tgt := 338) (by decide) ?_
        refine zg_lload 0 rfl d_X8_works_338 ?_
        refine zg_lload_n 1 rfl d_X8_works_340 ?_
        refine zg_lcmp d_X8_works_341 ?_
        refine zg_bd (E := 350) (el := (fun (e34 : Int32) => [(0, .ref a0), (1, .int a1), (2, .long v3), (4, .long v13)])) (es := (fun (e34 : Int32) => [.int e34])) ?_ (fun e34 h35 => ?_)
        · refine zg_if_eq d_X8_works_342 ?_ ?_
          · refine zg_iconst 0 rfl d_X8_works_349 ?_
            exact zg_finK (E := 0) [2, 3, 1, 0] rfl rfl (fun q => q)
          · refine zg_iconst 1 rfl d_X8_works_345 ?_
            refine zg_goto d_X8_works_346 ?_
            exact zg_finK (E := 0) [2, 3, 1, 0] rfl rfl (fun q => q)
        · refine zg_cSl (As := [.int e34]) (rest := []) (0, 0) d_X8_works_350 cw_X8_317 wt_X8_is rfl rfl (Nat.le_of_ble_eq_true rfl) (by decide) (by decide) ⟨by decide, by decide⟩ rfl (t_X8_is e34 h35) (fun v37 h36 => ?_)
          refine zg_lstore [(6, .long v37), (0, .ref a0), (1, .int a1), (2, .long v3), (4, .long v13)] d_X8_works_353 (by decide) rfl ?_
          refine zg_goto d_X8_works_355 ?_
          exact zg_finK (E := 0) [1, 2, 3, 4, 0] rfl rfl (fun q => q)
      refine zg_if (fun n64 => ?_) (fun n64 => ?_)
      · refine zg_lookE n64 d_X8_works_70 (by decide) (off := 248) (by decide) (tgt := 318) (by decide) ?_
        refine zg_lload 0 rfl d_X8_works_318 ?_
        refine zg_lload_n 1 rfl d_X8_works_320 ?_
        refine zg_lcmp d_X8_works_321 ?_
        refine zg_bd (E := 330) (el := (fun (e38 : Int32) => [(0, .ref a0), (1, .int a1), (2, .long v3), (4, .long v13)])) (es := (fun (e38 : Int32) => [.int e38])) ?_ (fun e38 h39 => ?_)
        · refine zg_if_lt d_X8_works_322 ?_ ?_
          · refine zg_iconst 0 rfl d_X8_works_329 ?_
            exact zg_finK (E := 0) [2, 3, 1, 0] rfl rfl (fun q => q)
          · refine zg_iconst 1 rfl d_X8_works_325 ?_
            refine zg_goto d_X8_works_326 ?_
            exact zg_finK (E := 0) [2, 3, 1, 0] rfl rfl (fun q => q)
        · refine zg_cSl (As := [.int e38]) (rest := []) (0, 0) d_X8_works_330 cw_X8_317 wt_X8_is rfl rfl (Nat.le_of_ble_eq_true rfl) (by decide) (by decide) ⟨by decide, by decide⟩ rfl (t_X8_is e38 h39) (fun v41 h40 => ?_)
          refine zg_lstore [(6, .long v41), (0, .ref a0), (1, .int a1), (2, .long v3), (4, .long v13)] d_X8_works_333 (by decide) rfl ?_
          refine zg_goto d_X8_works_335 ?_
          exact zg_finK (E := 0) [1, 2, 3, 4, 0] rfl rfl (fun q => q)
      refine zg_if (fun n65 => ?_) (fun n65 => ?_)
      · refine zg_lookE n65 d_X8_works_70 (by decide) (off := 288) (by decide) (tgt := 358) (by decide) ?_
        refine zg_lload 0 rfl d_X8_works_358 ?_
        refine zg_lconst 0 rfl d_X8_works_360 ?_
        refine zg_lcmp d_X8_works_361 ?_
        refine zg_bd (E := 376) (el := (fun (e42 : Int32) => [(0, .ref a0), (1, .int a1), (2, .long v3), (4, .long v13)])) (es := (fun (e42 : Int32) => [.int e42])) ?_ (fun e42 h43 => ?_)
        · refine zg_if_eq d_X8_works_362 ?_ ?_
          · refine zg_iconst 0 rfl d_X8_works_375 ?_
            exact zg_finK (E := 0) [2, 3, 1, 0] rfl rfl (fun q => q)
          · refine zg_lload_n 1 rfl d_X8_works_365 ?_
            refine zg_lconst 0 rfl d_X8_works_366 ?_
            refine zg_lcmp d_X8_works_367 ?_
            refine zg_if_eq d_X8_works_368 ?_ ?_
            · refine zg_iconst 0 rfl d_X8_works_375 ?_
              exact zg_finK (E := 0) [2, 3, 1, 0] rfl rfl (fun q => q)
            · refine zg_iconst 1 rfl d_X8_works_371 ?_
              refine zg_goto d_X8_works_372 ?_
              exact zg_finK (E := 0) [2, 3, 1, 0] rfl rfl (fun q => q)
        · refine zg_cSl (As := [.int e42]) (rest := []) (0, 0) d_X8_works_376 cw_X8_317 wt_X8_is rfl rfl (Nat.le_of_ble_eq_true rfl) (by decide) (by decide) ⟨by decide, by decide⟩ rfl (t_X8_is e42 h43) (fun v45 h44 => ?_)
          refine zg_lstore [(6, .long v45), (0, .ref a0), (1, .int a1), (2, .long v3), (4, .long v13)] d_X8_works_379 (by decide) rfl ?_
          refine zg_goto d_X8_works_381 ?_
          exact zg_finK (E := 0) [1, 2, 3, 4, 0] rfl rfl (fun q => q)
      refine zg_look d_X8_works_70 (by decide) (off := 314) (by show Op.lookupswitch.offset [(42, 116), (43, 98), (45, 107), (47, 151), (60, 168), (61, 208), (62, 188), (256, 228), (257, 268), (258, 248), (261, 288)] 314 _ = _; rw [lv_osw n55 (a := 42) rfl, lv_osw n56 (a := 43) rfl, lv_osw n57 (a := 45) rfl, lv_osw n58 (a := 47) rfl, lv_osw n59 (a := 60) rfl, lv_osw n60 (a := 61) rfl, lv_osw n61 (a := 62) rfl, lv_osw n62 (a := 256) rfl, lv_osw n63 (a := 257) rfl, lv_osw n64 (a := 258) rfl, lv_osw n65 (a := 261) rfl]; rfl) (tgt := 384) (by decide) ?_
      refine zg_lload 0 rfl d_X8_works_384 ?_
      refine zg_lconst 0 rfl d_X8_works_386 ?_
      refine zg_lcmp d_X8_works_387 ?_
      refine zg_bd (E := 402) (el := (fun (e46 : Int32) => [(0, .ref a0), (1, .int a1), (2, .long v3), (4, .long v13)])) (es := (fun (e46 : Int32) => [.int e46])) ?_ (fun e46 h47 => ?_)
      · refine zg_if_ne d_X8_works_388 ?_ ?_
        · refine zg_lload_n 1 rfl d_X8_works_391 ?_
          refine zg_lconst 0 rfl d_X8_works_392 ?_
          refine zg_lcmp d_X8_works_393 ?_
          refine zg_if_eq d_X8_works_394 ?_ ?_
          · refine zg_iconst 0 rfl d_X8_works_401 ?_
            exact zg_finK (E := 0) [2, 3, 1, 0] rfl rfl (fun q => q)
          · refine zg_iconst 1 rfl d_X8_works_397 ?_
            refine zg_goto d_X8_works_398 ?_
            exact zg_finK (E := 0) [2, 3, 1, 0] rfl rfl (fun q => q)
        · refine zg_iconst 1 rfl d_X8_works_397 ?_
          refine zg_goto d_X8_works_398 ?_
          exact zg_finK (E := 0) [2, 3, 1, 0] rfl rfl (fun q => q)
      · refine zg_cSl (As := [.int e46]) (rest := []) (0, 0) d_X8_works_402 cw_X8_317 wt_X8_is rfl rfl (Nat.le_of_ble_eq_true rfl) (by decide) (by decide) ⟨by decide, by decide⟩ rfl (t_X8_is e46 h47) (fun v49 h48 => ?_)
        refine zg_lstore [(6, .long v49), (0, .ref a0), (1, .int a1), (2, .long v3), (4, .long v13)] d_X8_works_405 (by decide) rfl ?_
        exact zg_finK (E := 0) [1, 2, 3, 4, 0] rfl rfl (fun q => q)
    · refine zg_aload_n 0 rfl d_X8_works_407 ?_
      refine zg_getR d_X8_works_408 zc_8 (by decide) fl_X8_72 (fun v52 => ?_)
      refine zg_aload_n 0 rfl d_X8_works_411 ?_
      refine zg_getI d_X8_works_412 zc_8 (by decide) fl_X8_314 (fun v53 => ?_)
      refine zg_iconst 1 rfl d_X8_works_415 ?_
      refine zg_isub d_X8_works_416 ?_
      refine zg_lload 4 rfl d_X8_works_417 ?_
      refine zg_ast3 d_X8_works_419 (fun h54 => ?_)
      refine zg_lload 4 rfl d_X8_works_420 ?_
      refine zg_ldc2 kl_X8_327 d_X8_works_422 ?_
      refine zg_lcmp d_X8_works_425 ?_
      refine zg_if_gt d_X8_works_426 ?_ ?_
      · refine zg_iconst 0 rfl d_X8_works_442 ?_
        exact zg_zretK d_X8_works_443 rfl ⟨Nat.le_of_ble_eq_true rfl, Nat.le_of_ble_eq_true rfl⟩ (Or.inl rfl) (fun q => q)
      · refine zg_lload 4 rfl d_X8_works_429 ?_
        refine zg_ldc2 kl_X8_329 d_X8_works_431 ?_
        refine zg_lcmp d_X8_works_434 ?_
        refine zg_if_lt d_X8_works_435 ?_ ?_
        · refine zg_iconst 0 rfl d_X8_works_442 ?_
          exact zg_zretK d_X8_works_443 rfl ⟨Nat.le_of_ble_eq_true rfl, Nat.le_of_ble_eq_true rfl⟩ (Or.inl rfl) (fun q => q)
        · refine zg_iconst 1 rfl d_X8_works_438 ?_
          refine zg_goto d_X8_works_439 ?_
          exact zg_zretK d_X8_works_443 rfl ⟨Nat.le_of_ble_eq_true rfl, Nat.le_of_ble_eq_true rfl⟩ (Or.inr rfl) (fun q => q)
abbrev M_X8_goes : zMt := (RX8, cX8_goes, 3, 3, 107, (some .boolean), "goes", 0, 0)
theorem d_X8_goes_0 : zDc M_X8_goes 0 (.aload_n 0) 1 1 := ⟨by decide +kernel, rfl⟩
theorem d_X8_goes_1 : zDc M_X8_goes 1 (.iconst 0) 1 2 := ⟨by decide +kernel, rfl⟩
theorem d_X8_goes_2 : zDc M_X8_goes 2 (.putfield 314) 3 5 := ⟨by decide +kernel, rfl⟩
theorem d_X8_goes_5 : zDc M_X8_goes 5 (.aload_n 0) 1 6 := ⟨by decide +kernel, rfl⟩
theorem d_X8_goes_6 : zDc M_X8_goes 6 (.getfield 52) 3 9 := ⟨by decide +kernel, rfl⟩
theorem d_X8_goes_9 : zDc M_X8_goes 9 (.iload_n 1) 1 10 := ⟨by decide +kernel, rfl⟩
theorem d_X8_goes_10 : zDc M_X8_goes 10 (.iaload) 1 11 := ⟨by decide +kernel, rfl⟩
theorem d_X8_goes_11 : zDc M_X8_goes 11 (.istore_n 2) 1 12 := ⟨by decide +kernel, rfl⟩
theorem d_X8_goes_12 : zDc M_X8_goes 12 (.iload_n 2) 1 13 := ⟨by decide +kernel, rfl⟩
theorem d_X8_goes_13 : zDc M_X8_goes 13 (.aload_n 0) 1 14 := ⟨by decide +kernel, rfl⟩
theorem d_X8_goes_14 : zDc M_X8_goes 14 (.getfield 55) 3 17 := ⟨by decide +kernel, rfl⟩
theorem d_X8_goes_17 : zDc M_X8_goes 17 (.iload_n 1) 1 18 := ⟨by decide +kernel, rfl⟩
theorem d_X8_goes_18 : zDc M_X8_goes 18 (.iaload) 1 19 := ⟨by decide +kernel, rfl⟩
theorem d_X8_goes_19 : zDj M_X8_goes 19 (.if_icmp .ge 83) 83 22 102 := ⟨by decide +kernel, rfl, by decide⟩
theorem d_X8_goes_22 : zDc M_X8_goes 22 (.aload_n 0) 1 23 := ⟨by decide +kernel, rfl⟩
theorem d_X8_goes_23 : zDc M_X8_goes 23 (.getfield 58) 3 26 := ⟨by decide +kernel, rfl⟩
theorem d_X8_goes_26 : zDc M_X8_goes 26 (.iload_n 2) 1 27 := ⟨by decide +kernel, rfl⟩
theorem d_X8_goes_27 : zDc M_X8_goes 27 (.iaload) 1 28 := ⟨by decide +kernel, rfl⟩
theorem d_X8_goes_28 : zDc M_X8_goes 28 (.iconst 2) 1 29 := ⟨by decide +kernel, rfl⟩
theorem d_X8_goes_29 : zDj M_X8_goes 29 (.if_icmp .ne 18) 18 32 47 := ⟨by decide +kernel, rfl, by decide⟩
theorem d_X8_goes_32 : zDc M_X8_goes 32 (.aload_n 0) 1 33 := ⟨by decide +kernel, rfl⟩
theorem d_X8_goes_33 : zDc M_X8_goes 33 (.aload_n 0) 1 34 := ⟨by decide +kernel, rfl⟩
theorem d_X8_goes_34 : zDc M_X8_goes 34 (.getfield 61) 3 37 := ⟨by decide +kernel, rfl⟩
theorem d_X8_goes_37 : zDc M_X8_goes 37 (.iload_n 2) 1 38 := ⟨by decide +kernel, rfl⟩
theorem d_X8_goes_38 : zDc M_X8_goes 38 (.iaload) 1 39 := ⟨by decide +kernel, rfl⟩
theorem d_X8_goes_39 : zDc M_X8_goes 39 (.invokevirtual 331) 3 42 := ⟨by decide +kernel, rfl⟩
theorem d_X8_goes_42 : zDj M_X8_goes 42 (.ifCond .ne 54) 54 45 96 := ⟨by decide +kernel, rfl, by decide⟩
theorem d_X8_goes_45 : zDc M_X8_goes 45 (.iconst 0) 1 46 := ⟨by decide +kernel, rfl⟩
theorem d_X8_goes_46 : zDc M_X8_goes 46 (.ireturn) 1 47 := ⟨by decide +kernel, rfl⟩
theorem d_X8_goes_47 : zDc M_X8_goes 47 (.aload_n 0) 1 48 := ⟨by decide +kernel, rfl⟩
theorem d_X8_goes_48 : zDc M_X8_goes 48 (.getfield 72) 3 51 := ⟨by decide +kernel, rfl⟩
theorem d_X8_goes_51 : zDc M_X8_goes 51 (.aload_n 0) 1 52 := ⟨by decide +kernel, rfl⟩
theorem d_X8_goes_52 : zDc M_X8_goes 52 (.getfield 314) 3 55 := ⟨by decide +kernel, rfl⟩
theorem d_X8_goes_55 : zDc M_X8_goes 55 (.aload_n 0) 1 56 := ⟨by decide +kernel, rfl⟩
theorem d_X8_goes_56 : zDc M_X8_goes 56 (.getfield 58) 3 59 := ⟨by decide +kernel, rfl⟩
theorem d_X8_goes_59 : zDc M_X8_goes 59 (.iload_n 2) 1 60 := ⟨by decide +kernel, rfl⟩
theorem d_X8_goes_60 : zDc M_X8_goes 60 (.iaload) 1 61 := ⟨by decide +kernel, rfl⟩
theorem d_X8_goes_61 : zDj M_X8_goes 61 (.ifCond .ne 13) 13 64 74 := ⟨by decide +kernel, rfl, by decide⟩
theorem d_X8_goes_64 : zDc M_X8_goes 64 (.aload_n 0) 1 65 := ⟨by decide +kernel, rfl⟩
theorem d_X8_goes_65 : zDc M_X8_goes 65 (.getfield 61) 3 68 := ⟨by decide +kernel, rfl⟩
theorem d_X8_goes_68 : zDc M_X8_goes 68 (.iload_n 2) 1 69 := ⟨by decide +kernel, rfl⟩
theorem d_X8_goes_69 : zDc M_X8_goes 69 (.iaload) 1 70 := ⟨by decide +kernel, rfl⟩
theorem d_X8_goes_70 : zDc M_X8_goes 70 (.i2l) 1 71 := ⟨by decide +kernel, rfl⟩
theorem d_X8_goes_71 : zDj M_X8_goes 71 (.goto 14) 14 74 85 := ⟨by decide +kernel, rfl, by decide⟩
theorem d_X8_goes_74 : zDc M_X8_goes 74 (.aload_n 0) 1 75 := ⟨by decide +kernel, rfl⟩
theorem d_X8_goes_75 : zDc M_X8_goes 75 (.getfield 68) 3 78 := ⟨by decide +kernel, rfl⟩
theorem d_X8_goes_78 : zDc M_X8_goes 78 (.aload_n 0) 1 79 := ⟨by decide +kernel, rfl⟩
theorem d_X8_goes_79 : zDc M_X8_goes 79 (.getfield 61) 3 82 := ⟨by decide +kernel, rfl⟩
theorem d_X8_goes_82 : zDc M_X8_goes 82 (.iload_n 2) 1 83 := ⟨by decide +kernel, rfl⟩
theorem d_X8_goes_83 : zDc M_X8_goes 83 (.iaload) 1 84 := ⟨by decide +kernel, rfl⟩
theorem d_X8_goes_84 : zDc M_X8_goes 84 (.laload) 1 85 := ⟨by decide +kernel, rfl⟩
theorem d_X8_goes_85 : zDc M_X8_goes 85 (.lastore) 1 86 := ⟨by decide +kernel, rfl⟩
theorem d_X8_goes_86 : zDc M_X8_goes 86 (.aload_n 0) 1 87 := ⟨by decide +kernel, rfl⟩
theorem d_X8_goes_87 : zDc M_X8_goes 87 (.dup) 1 88 := ⟨by decide +kernel, rfl⟩
theorem d_X8_goes_88 : zDc M_X8_goes 88 (.getfield 314) 3 91 := ⟨by decide +kernel, rfl⟩
theorem d_X8_goes_91 : zDc M_X8_goes 91 (.iconst 1) 1 92 := ⟨by decide +kernel, rfl⟩
theorem d_X8_goes_92 : zDc M_X8_goes 92 (.iadd) 1 93 := ⟨by decide +kernel, rfl⟩
theorem d_X8_goes_93 : zDc M_X8_goes 93 (.putfield 314) 3 96 := ⟨by decide +kernel, rfl⟩
theorem d_X8_goes_96 : zDc M_X8_goes 96 (.iinc 2 1) 3 99 := ⟨by decide +kernel, rfl⟩
theorem d_X8_goes_99 : zDj M_X8_goes 99 (.goto (-87)) (-87) 102 12 := ⟨by decide +kernel, rfl, by decide⟩
theorem d_X8_goes_102 : zDc M_X8_goes 102 (.iconst 1) 1 103 := ⟨by decide +kernel, rfl⟩
theorem d_X8_goes_103 : zDc M_X8_goes 103 (.ireturn) 1 104 := ⟨by decide +kernel, rfl⟩
def f_X8_goes (a0 : Nat) (a1 : Int32) (h0 : zHp) : Option (Int32 × zHp) :=
  zob (zpV h0 a0 8 35 (.int 0)) (fun h1 =>
  zob (zgR h1 a0 8 16) (fun v2 =>
  zob (zaI 0 h1 v2 a1) (fun v3 =>
  zbd (
  zlp (σ := Int32) (β := (Int32 ⊕ Int32)) zLF (fun s4 h5 =>
  zob (zgR h5 a0 8 17) (fun v8 =>
  zob (zaI 0 h5 v8 a1) (fun v9 =>
  if v9 ≤ s4 then
  some ((.inr (.inl s4)), h5)
  else
  zob (zgR h5 a0 8 18) (fun v10 =>
  zob (zaI 0 h5 v10 s4) (fun v11 =>
  if v11 = 2 then
  zob (zgR h5 a0 8 19) (fun v12 =>
  zob (zaI 0 h5 v12 s4) (fun v13 =>
  zbd (zcv 8 a0 h5 (f_X8_works a0 v13 h5)) (fun v15 h14 =>
  if v15 = 0 then
  some ((.inr (.inr 0)), h14)
  else
  some ((.inl (s4 + 1)), h14))))
  else
  zob (zgR h5 a0 8 34) (fun v16 =>
  zob (zgI h5 a0 8 35) (fun v17 =>
  zob (zgR h5 a0 8 18) (fun v18 =>
  zob (zaI 0 h5 v18 s4) (fun v19 =>
  zbd (α := Int64) (
  if v19 = 0 then
  zob (zgR h5 a0 8 19) (fun v20 =>
  zob (zaI 0 h5 v20 s4) (fun v21 =>
  some ((Int32.toInt64 v21), h5)))
  else
  zob (zgR h5 a0 8 33) (fun v22 =>
  zob (zgR h5 a0 8 19) (fun v23 =>
  zob (zaI 0 h5 v23 s4) (fun v24 =>
  zob (zaL h5 v22 v24) (fun v25 =>
  some (v25, h5)))))) (fun e26 h27 =>
  zob (zsL h27 v16 v17 e26) (fun h28 =>
  zob (zgI h28 a0 8 35) (fun v29 =>
  zob (zpV h28 a0 8 35 (.int (v29 + 1))) (fun h30 =>
  some ((.inl (s4 + 1)), h30)))))))))))))) v3 h1) (fun b31 h7 => zsl b31 (fun e6 =>
  some (1, h7)) (fun r => some (r, h7))))))
set_option maxRecDepth 100000 in
set_option maxHeartbeats 4000000 in
theorem t_X8_goes (a0 : Nat) (a1 : Int32) (h0 : zHp) : ∀ (r : Int32) (h' : zHp), f_X8_goes a0 a1 h0 = some (r, h') → zCt yX8_goes (.code yX8_goes cX8_goes 3 (some .boolean)) 3 107 0 0 [.ref a0, .int a1] h0 (some (.int r)) h' := by
  refine zct_of M_X8_goes yX8_goes (by decide) rfl rfl [.ref a0, .int a1] h0 (Nat.le_of_ble_eq_true rfl) (fun r => some (.int r)) (fun X => ?_)
  show zG X M_X8_goes (0, 0) 0 [(0, .ref a0), (1, .int a1)] [] h0 (f_X8_goes a0 a1 h0) (fun (r : Int32) h' => zKe X (some (.int r)) h')
  unfold f_X8_goes
  refine zg_aload_n 0 rfl d_X8_goes_0 ?_
  refine zg_iconst 0 rfl d_X8_goes_1 ?_
  refine zg_putV d_X8_goes_2 zc_8 (by decide) fl_X8_314 rfl rfl rfl (fun h1 => ?_)
  refine zg_aload_n 0 rfl d_X8_goes_5 ?_
  refine zg_getR d_X8_goes_6 zc_8 (by decide) fl_X8_52 (fun v2 => ?_)
  refine zg_iload_n 1 rfl d_X8_goes_9 ?_
  refine zg_ald0 d_X8_goes_10 (fun v3 => ?_)
  refine zg_istore_n [(2, .int v3), (0, .ref a0), (1, .int a1)] d_X8_goes_11 rfl (by decide) rfl ?_
  refine zg_bdr (E := 102) (el := (fun (e6 : Int32) => [(0, .ref a0), (1, .int a1), (2, .int e6)])) (es := fun _ => []) (zg_sub [1, 2, 0] rfl (zg_lp (el := (fun (s4 : Int32) => [(0, .ref a0), (1, .int a1), (2, .int s4)])) (fun s4 h5 => ?_) v3 h1)) (fun e6 h7 => ?_)
  · refine zg_iload_n 2 rfl d_X8_goes_12 ?_
    refine zg_aload_n 0 rfl d_X8_goes_13 ?_
    refine zg_getR d_X8_goes_14 zc_8 (by decide) fl_X8_55 (fun v8 => ?_)
    refine zg_iload_n 1 rfl d_X8_goes_17 ?_
    refine zg_ald0 d_X8_goes_18 (fun v9 => ?_)
    refine zg_icmp_ge d_X8_goes_19 ?_ ?_
    · exact zg_finK (E := 0) [0, 1, 2] rfl rfl (fun q => q)
    · refine zg_aload_n 0 rfl d_X8_goes_22 ?_
      refine zg_getR d_X8_goes_23 zc_8 (by decide) fl_X8_58 (fun v10 => ?_)
      refine zg_iload_n 2 rfl d_X8_goes_26 ?_
      refine zg_ald0 d_X8_goes_27 (fun v11 => ?_)
      refine zg_iconst 2 rfl d_X8_goes_28 ?_
      refine zg_icmp_ne d_X8_goes_29 ?_ ?_
      · refine zg_aload_n 0 rfl d_X8_goes_32 ?_
        refine zg_aload_n 0 rfl d_X8_goes_33 ?_
        refine zg_getR d_X8_goes_34 zc_8 (by decide) fl_X8_61 (fun v12 => ?_)
        refine zg_iload_n 2 rfl d_X8_goes_37 ?_
        refine zg_ald0 d_X8_goes_38 (fun v13 => ?_)
        refine zg_cVi (b := a0) (As := [.int v13]) (rest := []) (0, 0) d_X8_goes_39 zc_8 rfl cw_X8_331 wi_X8_works ws_X8_works rfl rfl (Nat.le_of_ble_eq_true rfl) (by decide) (by decide) ⟨by decide, by decide⟩ rfl (t_X8_works a0 v13 h5) (fun v15 h14 => ?_)
        refine zg_if_ne d_X8_goes_42 ?_ ?_
        · refine zg_iconst 0 rfl d_X8_goes_45 ?_
          exact zg_zretK d_X8_goes_46 rfl ⟨Nat.le_of_ble_eq_true rfl, Nat.le_of_ble_eq_true rfl⟩ (Or.inl rfl) (fun q => q)
        · refine zg_iinc 2 (s4 + 1) [(2, .int (s4 + 1)), (0, .ref a0), (1, .int a1)] d_X8_goes_96 rfl rfl (by decide) rfl ?_
          refine zg_goto d_X8_goes_99 ?_
          exact zg_finK (E := 0) [1, 2, 0] rfl rfl (fun q => q)
      · refine zg_aload_n 0 rfl d_X8_goes_47 ?_
        refine zg_getR d_X8_goes_48 zc_8 (by decide) fl_X8_72 (fun v16 => ?_)
        refine zg_aload_n 0 rfl d_X8_goes_51 ?_
        refine zg_getI d_X8_goes_52 zc_8 (by decide) fl_X8_314 (fun v17 => ?_)
        refine zg_aload_n 0 rfl d_X8_goes_55 ?_
        refine zg_getR d_X8_goes_56 zc_8 (by decide) fl_X8_58 (fun v18 => ?_)
        refine zg_iload_n 2 rfl d_X8_goes_59 ?_
        refine zg_ald0 d_X8_goes_60 (fun v19 => ?_)
        refine zg_bd (E := 85) (el := (fun (e26 : Int64) => [(0, .ref a0), (1, .int a1), (2, .int s4)])) (es := (fun (e26 : Int64) => [.long e26, .int v17, .ref v16])) ?_ (fun e26 h27 => ?_)
        · refine zg_if_ne d_X8_goes_61 ?_ ?_
          · refine zg_aload_n 0 rfl d_X8_goes_64 ?_
            refine zg_getR d_X8_goes_65 zc_8 (by decide) fl_X8_61 (fun v20 => ?_)
            refine zg_iload_n 2 rfl d_X8_goes_68 ?_
            refine zg_ald0 d_X8_goes_69 (fun v21 => ?_)
            refine zg_i2l d_X8_goes_70 ?_
            refine zg_goto d_X8_goes_71 ?_
            exact zg_finK (E := 0) [0, 1, 2] rfl rfl (fun q => q)
          · refine zg_aload_n 0 rfl d_X8_goes_74 ?_
            refine zg_getR d_X8_goes_75 zc_8 (by decide) fl_X8_68 (fun v22 => ?_)
            refine zg_aload_n 0 rfl d_X8_goes_78 ?_
            refine zg_getR d_X8_goes_79 zc_8 (by decide) fl_X8_61 (fun v23 => ?_)
            refine zg_iload_n 2 rfl d_X8_goes_82 ?_
            refine zg_ald0 d_X8_goes_83 (fun v24 => ?_)
            refine zg_ald3 d_X8_goes_84 (fun v25 => ?_)
            exact zg_finK (E := 0) [0, 1, 2] rfl rfl (fun q => q)
        · refine zg_ast3 d_X8_goes_85 (fun h28 => ?_)
          refine zg_aload_n 0 rfl d_X8_goes_86 ?_
          refine zg_dup rfl d_X8_goes_87 ?_
          refine zg_getI d_X8_goes_88 zc_8 (by decide) fl_X8_314 (fun v29 => ?_)
          refine zg_iconst 1 rfl d_X8_goes_91 ?_
          refine zg_iadd d_X8_goes_92 ?_
          refine zg_putV d_X8_goes_93 zc_8 (by decide) fl_X8_314 rfl rfl rfl (fun h30 => ?_)
          refine zg_iinc 2 (s4 + 1) [(2, .int (s4 + 1)), (0, .ref a0), (1, .int a1)] d_X8_goes_96 rfl rfl (by decide) rfl ?_
          refine zg_goto d_X8_goes_99 ?_
          exact zg_finK (E := 0) [1, 2, 0] rfl rfl (fun q => q)
  · refine zg_iconst 1 rfl d_X8_goes_102 ?_
    exact zg_zretK d_X8_goes_103 rfl ⟨Nat.le_of_ble_eq_true rfl, Nat.le_of_ble_eq_true rfl⟩ (Or.inr rfl) (fun q => q)
abbrev M_X8_within : zMt := (RX8, cX8_within, 4, 4, 129, (some .int), "within", 0, 0)
theorem d_X8_within_0 : zDc M_X8_within 0 (.aload_n 0) 1 1 := ⟨by decide +kernel, rfl⟩
theorem d_X8_within_1 : zDc M_X8_within 1 (.iload_n 1) 1 2 := ⟨by decide +kernel, rfl⟩
theorem d_X8_within_2 : zDc M_X8_within 2 (.invokevirtual 366) 3 5 := ⟨by decide +kernel, rfl⟩
theorem d_X8_within_5 : zDj M_X8_within 5 (.ifCond .eq 11) 11 8 16 := ⟨by decide +kernel, rfl, by decide⟩
theorem d_X8_within_8 : zDc M_X8_within 8 (.aload_n 0) 1 9 := ⟨by decide +kernel, rfl⟩
theorem d_X8_within_9 : zDc M_X8_within 9 (.iload_n 1) 1 10 := ⟨by decide +kernel, rfl⟩
theorem d_X8_within_10 : zDc M_X8_within 10 (.invokevirtual 369) 3 13 := ⟨by decide +kernel, rfl⟩
theorem d_X8_within_13 : zDj M_X8_within 13 (.ifCond .ne 5) 5 16 18 := ⟨by decide +kernel, rfl, by decide⟩
theorem d_X8_within_16 : zDc M_X8_within 16 (.iload_n 3) 1 17 := ⟨by decide +kernel, rfl⟩
theorem d_X8_within_17 : zDc M_X8_within 17 (.ireturn) 1 18 := ⟨by decide +kernel, rfl⟩
theorem d_X8_within_18 : zDc M_X8_within 18 (.lconst 0) 1 19 := ⟨by decide +kernel, rfl⟩
theorem d_X8_within_19 : zDc M_X8_within 19 (.iload_n 2) 1 20 := ⟨by decide +kernel, rfl⟩
theorem d_X8_within_20 : zDc M_X8_within 20 (.i2l) 1 21 := ⟨by decide +kernel, rfl⟩
theorem d_X8_within_21 : zDc M_X8_within 21 (.aload_n 0) 1 22 := ⟨by decide +kernel, rfl⟩
theorem d_X8_within_22 : zDc M_X8_within 22 (.getfield 72) 3 25 := ⟨by decide +kernel, rfl⟩
theorem d_X8_within_25 : zDc M_X8_within 25 (.iconst 0) 1 26 := ⟨by decide +kernel, rfl⟩
theorem d_X8_within_26 : zDc M_X8_within 26 (.laload) 1 27 := ⟨by decide +kernel, rfl⟩
theorem d_X8_within_27 : zDc M_X8_within 27 (.invokestatic 372) 3 30 := ⟨by decide +kernel, rfl⟩
theorem d_X8_within_30 : zDc M_X8_within 30 (.invokestatic 376) 3 33 := ⟨by decide +kernel, rfl⟩
theorem d_X8_within_33 : zDc M_X8_within 33 (.l2i) 1 34 := ⟨by decide +kernel, rfl⟩
theorem d_X8_within_34 : zDc M_X8_within 34 (.ireturn) 1 35 := ⟨by decide +kernel, rfl⟩
def f_X8_within (a0 : Nat) (a1 : Int32) (a2 : Int32) (a3 : Int32) (h0 : zHp) : Option (Int32 × zHp) :=
  zbd (zcv 8 a0 h0 (f_X8_hasLaw a0 a1 h0)) (fun v2 h1 =>
  if v2 = 0 then
  some (a3, h1)
  else
  zbd (zcv 8 a0 h1 (f_X8_goes a0 a1 h1)) (fun v4 h3 =>
  if v4 = 0 then
  some (a3, h3)
  else
  zob (zgR h3 a0 8 34) (fun v5 =>
  zob (zaL h3 v5 0) (fun v6 =>
  some ((Int64.toInt32 (zmxL 0 (zmnL (Int32.toInt64 a2) v6))), h3)))))
set_option maxRecDepth 100000 in
set_option maxHeartbeats 4000000 in
theorem t_X8_within (a0 : Nat) (a1 : Int32) (a2 : Int32) (a3 : Int32) (h0 : zHp) : ∀ (r : Int32) (h' : zHp), f_X8_within a0 a1 a2 a3 h0 = some (r, h') → zCt yX8_within (.code yX8_within cX8_within 4 (some .int)) 4 129 0 0 [.ref a0, .int a1, .int a2, .int a3] h0 (some (.int r)) h' := by
  refine zct_of M_X8_within yX8_within (by decide) rfl rfl [.ref a0, .int a1, .int a2, .int a3] h0 (Nat.le_of_ble_eq_true rfl) (fun r => some (.int r)) (fun X => ?_)
  show zG X M_X8_within (0, 0) 0 [(0, .ref a0), (1, .int a1), (2, .int a2), (3, .int a3)] [] h0 (f_X8_within a0 a1 a2 a3 h0) (fun (r : Int32) h' => zKe X (some (.int r)) h')
  unfold f_X8_within
  refine zg_aload_n 0 rfl d_X8_within_0 ?_
  refine zg_iload_n 1 rfl d_X8_within_1 ?_
  refine zg_cVi (b := a0) (As := [.int a1]) (rest := []) (0, 0) d_X8_within_2 zc_8 rfl cw_X8_366 wi_X8_hasLaw ws_X8_hasLaw rfl rfl (Nat.le_of_ble_eq_true rfl) (by decide) (by decide) ⟨by decide, by decide⟩ rfl (t_X8_hasLaw a0 a1 h0) (fun v2 h1 => ?_)
  refine zg_if_eq d_X8_within_5 ?_ ?_
  · refine zg_iload_n 3 rfl d_X8_within_16 ?_
    exact zg_iretK d_X8_within_17 rfl ⟨Nat.le_of_ble_eq_true rfl, Nat.le_of_ble_eq_true rfl⟩ (fun q => q)
  · refine zg_aload_n 0 rfl d_X8_within_8 ?_
    refine zg_iload_n 1 rfl d_X8_within_9 ?_
    refine zg_cVi (b := a0) (As := [.int a1]) (rest := []) (0, 0) d_X8_within_10 zc_8 rfl cw_X8_369 wi_X8_goes ws_X8_goes rfl rfl (Nat.le_of_ble_eq_true rfl) (by decide) (by decide) ⟨by decide, by decide⟩ rfl (t_X8_goes a0 a1 h1) (fun v4 h3 => ?_)
    refine zg_if_ne d_X8_within_13 ?_ ?_
    · refine zg_iload_n 3 rfl d_X8_within_16 ?_
      exact zg_iretK d_X8_within_17 rfl ⟨Nat.le_of_ble_eq_true rfl, Nat.le_of_ble_eq_true rfl⟩ (fun q => q)
    · refine zg_lconst 0 rfl d_X8_within_18 ?_
      refine zg_iload_n 2 rfl d_X8_within_19 ?_
      refine zg_i2l d_X8_within_20 ?_
      refine zg_aload_n 0 rfl d_X8_within_21 ?_
      refine zg_getR d_X8_within_22 zc_8 (by decide) fl_X8_72 (fun v5 => ?_)
      refine zg_iconst 0 rfl d_X8_within_25 ?_
      refine zg_ald3 d_X8_within_26 (fun v6 => ?_)
      refine zg_mminL d_X8_within_27 ml_X8_372 (by decide) (Nat.le_of_ble_eq_true rfl) ⟨Nat.le_of_ble_eq_true rfl, Nat.le_of_ble_eq_true rfl⟩ ?_
      refine zg_mmaxL d_X8_within_30 ml_X8_376 (by decide) (Nat.le_of_ble_eq_true rfl) ⟨Nat.le_of_ble_eq_true rfl, Nat.le_of_ble_eq_true rfl⟩ ?_
      refine zg_l2i d_X8_within_33 ?_
      exact zg_iretK d_X8_within_34 rfl ⟨Nat.le_of_ble_eq_true rfl, Nat.le_of_ble_eq_true rfl⟩ (fun q => q)
abbrev M_X8_falls : zMt := (RX8, cX8_falls, 6, 5, 152, none, "falls", 0, 0)
theorem d_X8_falls_0 : zDc M_X8_falls 0 (.bipush 8) 2 2 := ⟨by decide +kernel, rfl⟩
theorem d_X8_falls_2 : zDc M_X8_falls 2 (.iload_n 1) 1 3 := ⟨by decide +kernel, rfl⟩
theorem d_X8_falls_3 : zDc M_X8_falls 3 (.imul) 1 4 := ⟨by decide +kernel, rfl⟩
theorem d_X8_falls_4 : zDc M_X8_falls 4 (.iload_n 2) 1 5 := ⟨by decide +kernel, rfl⟩
theorem d_X8_falls_5 : zDc M_X8_falls 5 (.iadd) 1 6 := ⟨by decide +kernel, rfl⟩
theorem d_X8_falls_6 : zDc M_X8_falls 6 (.istore_n 3) 1 7 := ⟨by decide +kernel, rfl⟩
theorem d_X8_falls_7 : zDc M_X8_falls 7 (.aload_n 0) 1 8 := ⟨by decide +kernel, rfl⟩
theorem d_X8_falls_8 : zDc M_X8_falls 8 (.getfield 84) 3 11 := ⟨by decide +kernel, rfl⟩
theorem d_X8_falls_11 : zDc M_X8_falls 11 (.iload_n 3) 1 12 := ⟨by decide +kernel, rfl⟩
theorem d_X8_falls_12 : zDc M_X8_falls 12 (.iaload) 1 13 := ⟨by decide +kernel, rfl⟩
theorem d_X8_falls_13 : zDc M_X8_falls 13 (.aload_n 0) 1 14 := ⟨by decide +kernel, rfl⟩
theorem d_X8_falls_14 : zDc M_X8_falls 14 (.getfield 13) 3 17 := ⟨by decide +kernel, rfl⟩
theorem d_X8_falls_17 : zDc M_X8_falls 17 (.iconst 4) 1 18 := ⟨by decide +kernel, rfl⟩
theorem d_X8_falls_18 : zDc M_X8_falls 18 (.iaload) 1 19 := ⟨by decide +kernel, rfl⟩
theorem d_X8_falls_19 : zDj M_X8_falls 19 (.if_icmp .ge 18) 18 22 37 := ⟨by decide +kernel, rfl, by decide⟩
theorem d_X8_falls_22 : zDc M_X8_falls 22 (.aload_n 0) 1 23 := ⟨by decide +kernel, rfl⟩
theorem d_X8_falls_23 : zDc M_X8_falls 23 (.aload_n 0) 1 24 := ⟨by decide +kernel, rfl⟩
theorem d_X8_falls_24 : zDc M_X8_falls 24 (.getfield 81) 3 27 := ⟨by decide +kernel, rfl⟩
theorem d_X8_falls_27 : zDc M_X8_falls 27 (.iload_n 3) 1 28 := ⟨by decide +kernel, rfl⟩
theorem d_X8_falls_28 : zDc M_X8_falls 28 (.iaload) 1 29 := ⟨by decide +kernel, rfl⟩
theorem d_X8_falls_29 : zDc M_X8_falls 29 (.invokevirtual 355) 3 32 := ⟨by decide +kernel, rfl⟩
theorem d_X8_falls_32 : zDc M_X8_falls 32 (.iconst 2) 1 33 := ⟨by decide +kernel, rfl⟩
theorem d_X8_falls_33 : zDj M_X8_falls 33 (.if_icmp .eq 4) 4 36 37 := ⟨by decide +kernel, rfl, by decide⟩
theorem d_X8_falls_36 : zDc M_X8_falls 36 (.return_) 1 37 := ⟨by decide +kernel, rfl⟩
theorem d_X8_falls_37 : zDc M_X8_falls 37 (.aload_n 0) 1 38 := ⟨by decide +kernel, rfl⟩
theorem d_X8_falls_38 : zDc M_X8_falls 38 (.iload_n 1) 1 39 := ⟨by decide +kernel, rfl⟩
theorem d_X8_falls_39 : zDc M_X8_falls 39 (.iload_n 2) 1 40 := ⟨by decide +kernel, rfl⟩
theorem d_X8_falls_40 : zDc M_X8_falls 40 (.invokevirtual 383) 3 43 := ⟨by decide +kernel, rfl⟩
theorem d_X8_falls_43 : zDc M_X8_falls 43 (.aload_n 0) 1 44 := ⟨by decide +kernel, rfl⟩
theorem d_X8_falls_44 : zDc M_X8_falls 44 (.iconst 1) 1 45 := ⟨by decide +kernel, rfl⟩
theorem d_X8_falls_45 : zDc M_X8_falls 45 (.aload_n 0) 1 46 := ⟨by decide +kernel, rfl⟩
theorem d_X8_falls_46 : zDc M_X8_falls 46 (.getfield 84) 3 49 := ⟨by decide +kernel, rfl⟩
theorem d_X8_falls_49 : zDc M_X8_falls 49 (.iload_n 3) 1 50 := ⟨by decide +kernel, rfl⟩
theorem d_X8_falls_50 : zDc M_X8_falls 50 (.iaload) 1 51 := ⟨by decide +kernel, rfl⟩
theorem d_X8_falls_51 : zDc M_X8_falls 51 (.iconst 1) 1 52 := ⟨by decide +kernel, rfl⟩
theorem d_X8_falls_52 : zDc M_X8_falls 52 (.aload_n 0) 1 53 := ⟨by decide +kernel, rfl⟩
theorem d_X8_falls_53 : zDc M_X8_falls 53 (.getfield 84) 3 56 := ⟨by decide +kernel, rfl⟩
theorem d_X8_falls_56 : zDc M_X8_falls 56 (.iload_n 3) 1 57 := ⟨by decide +kernel, rfl⟩
theorem d_X8_falls_57 : zDc M_X8_falls 57 (.iaload) 1 58 := ⟨by decide +kernel, rfl⟩
theorem d_X8_falls_58 : zDc M_X8_falls 58 (.iconst 2) 1 59 := ⟨by decide +kernel, rfl⟩
theorem d_X8_falls_59 : zDc M_X8_falls 59 (.idiv) 1 60 := ⟨by decide +kernel, rfl⟩
theorem d_X8_falls_60 : zDc M_X8_falls 60 (.invokestatic 348) 3 63 := ⟨by decide +kernel, rfl⟩
theorem d_X8_falls_63 : zDc M_X8_falls 63 (.invokevirtual 386) 3 66 := ⟨by decide +kernel, rfl⟩
theorem d_X8_falls_66 : zDc M_X8_falls 66 (.istore 4) 2 68 := ⟨by decide +kernel, rfl⟩
theorem d_X8_falls_68 : zDc M_X8_falls 68 (.iconst 0) 1 69 := ⟨by decide +kernel, rfl⟩
theorem d_X8_falls_69 : zDc M_X8_falls 69 (.istore 5) 2 71 := ⟨by decide +kernel, rfl⟩
theorem d_X8_falls_71 : zDc M_X8_falls 71 (.iload 5) 2 73 := ⟨by decide +kernel, rfl⟩
theorem d_X8_falls_73 : zDc M_X8_falls 73 (.aload_n 0) 1 74 := ⟨by decide +kernel, rfl⟩
theorem d_X8_falls_74 : zDc M_X8_falls 74 (.getfield 13) 3 77 := ⟨by decide +kernel, rfl⟩
theorem d_X8_falls_77 : zDc M_X8_falls 77 (.iconst 0) 1 78 := ⟨by decide +kernel, rfl⟩
theorem d_X8_falls_78 : zDc M_X8_falls 78 (.iaload) 1 79 := ⟨by decide +kernel, rfl⟩
theorem d_X8_falls_79 : zDj M_X8_falls 79 (.if_icmp .ge 86) 86 82 165 := ⟨by decide +kernel, rfl, by decide⟩
theorem d_X8_falls_82 : zDc M_X8_falls 82 (.aload_n 0) 1 83 := ⟨by decide +kernel, rfl⟩
theorem d_X8_falls_83 : zDc M_X8_falls 83 (.getfield 22) 3 86 := ⟨by decide +kernel, rfl⟩
theorem d_X8_falls_86 : zDc M_X8_falls 86 (.iload 5) 2 88 := ⟨by decide +kernel, rfl⟩
theorem d_X8_falls_88 : zDc M_X8_falls 88 (.iaload) 1 89 := ⟨by decide +kernel, rfl⟩
theorem d_X8_falls_89 : zDc M_X8_falls 89 (.aload_n 0) 1 90 := ⟨by decide +kernel, rfl⟩
theorem d_X8_falls_90 : zDc M_X8_falls 90 (.getfield 81) 3 93 := ⟨by decide +kernel, rfl⟩
theorem d_X8_falls_93 : zDc M_X8_falls 93 (.iload_n 3) 1 94 := ⟨by decide +kernel, rfl⟩
theorem d_X8_falls_94 : zDc M_X8_falls 94 (.iaload) 1 95 := ⟨by decide +kernel, rfl⟩
theorem d_X8_falls_95 : zDj M_X8_falls 95 (.if_icmp .eq 6) 6 98 101 := ⟨by decide +kernel, rfl, by decide⟩
theorem d_X8_falls_98 : zDj M_X8_falls 98 (.goto 61) 61 101 159 := ⟨by decide +kernel, rfl, by decide⟩
theorem d_X8_falls_101 : zDc M_X8_falls 101 (.aload_n 0) 1 102 := ⟨by decide +kernel, rfl⟩
theorem d_X8_falls_102 : zDc M_X8_falls 102 (.getfield 102) 3 105 := ⟨by decide +kernel, rfl⟩
theorem d_X8_falls_105 : zDc M_X8_falls 105 (.iconst 5) 1 106 := ⟨by decide +kernel, rfl⟩
theorem d_X8_falls_106 : zDc M_X8_falls 106 (.iload_n 1) 1 107 := ⟨by decide +kernel, rfl⟩
theorem d_X8_falls_107 : zDc M_X8_falls 107 (.imul) 1 108 := ⟨by decide +kernel, rfl⟩
theorem d_X8_falls_108 : zDc M_X8_falls 108 (.iload 5) 2 110 := ⟨by decide +kernel, rfl⟩
theorem d_X8_falls_110 : zDc M_X8_falls 110 (.iadd) 1 111 := ⟨by decide +kernel, rfl⟩
theorem d_X8_falls_111 : zDc M_X8_falls 111 (.dup2) 1 112 := ⟨by decide +kernel, rfl⟩
theorem d_X8_falls_112 : zDc M_X8_falls 112 (.iaload) 1 113 := ⟨by decide +kernel, rfl⟩
theorem d_X8_falls_113 : zDc M_X8_falls 113 (.iload 4) 2 115 := ⟨by decide +kernel, rfl⟩
theorem d_X8_falls_115 : zDc M_X8_falls 115 (.iadd) 1 116 := ⟨by decide +kernel, rfl⟩
theorem d_X8_falls_116 : zDc M_X8_falls 116 (.iastore) 1 117 := ⟨by decide +kernel, rfl⟩
theorem d_X8_falls_117 : zDc M_X8_falls 117 (.aload_n 0) 1 118 := ⟨by decide +kernel, rfl⟩
theorem d_X8_falls_118 : zDc M_X8_falls 118 (.getfield 105) 3 121 := ⟨by decide +kernel, rfl⟩
theorem d_X8_falls_121 : zDc M_X8_falls 121 (.bipush 35) 2 123 := ⟨by decide +kernel, rfl⟩
theorem d_X8_falls_123 : zDc M_X8_falls 123 (.iload_n 1) 1 124 := ⟨by decide +kernel, rfl⟩
theorem d_X8_falls_124 : zDc M_X8_falls 124 (.imul) 1 125 := ⟨by decide +kernel, rfl⟩
theorem d_X8_falls_125 : zDc M_X8_falls 125 (.bipush 7) 2 127 := ⟨by decide +kernel, rfl⟩
theorem d_X8_falls_127 : zDc M_X8_falls 127 (.iload 5) 2 129 := ⟨by decide +kernel, rfl⟩
theorem d_X8_falls_129 : zDc M_X8_falls 129 (.imul) 1 130 := ⟨by decide +kernel, rfl⟩
theorem d_X8_falls_130 : zDc M_X8_falls 130 (.iadd) 1 131 := ⟨by decide +kernel, rfl⟩
theorem d_X8_falls_131 : zDc M_X8_falls 131 (.aload_n 0) 1 132 := ⟨by decide +kernel, rfl⟩
theorem d_X8_falls_132 : zDc M_X8_falls 132 (.getfield 90) 3 135 := ⟨by decide +kernel, rfl⟩
theorem d_X8_falls_135 : zDc M_X8_falls 135 (.iload_n 3) 1 136 := ⟨by decide +kernel, rfl⟩
theorem d_X8_falls_136 : zDc M_X8_falls 136 (.iaload) 1 137 := ⟨by decide +kernel, rfl⟩
theorem d_X8_falls_137 : zDc M_X8_falls 137 (.iconst (-1)) 1 138 := ⟨by decide +kernel, rfl⟩
theorem d_X8_falls_138 : zDj M_X8_falls 138 (.if_icmp .ne 8) 8 141 146 := ⟨by decide +kernel, rfl, by decide⟩
theorem d_X8_falls_141 : zDc M_X8_falls 141 (.bipush 6) 2 143 := ⟨by decide +kernel, rfl⟩
theorem d_X8_falls_143 : zDj M_X8_falls 143 (.goto 9) 9 146 152 := ⟨by decide +kernel, rfl, by decide⟩
theorem d_X8_falls_146 : zDc M_X8_falls 146 (.aload_n 0) 1 147 := ⟨by decide +kernel, rfl⟩
theorem d_X8_falls_147 : zDc M_X8_falls 147 (.getfield 90) 3 150 := ⟨by decide +kernel, rfl⟩
theorem d_X8_falls_150 : zDc M_X8_falls 150 (.iload_n 3) 1 151 := ⟨by decide +kernel, rfl⟩
theorem d_X8_falls_151 : zDc M_X8_falls 151 (.iaload) 1 152 := ⟨by decide +kernel, rfl⟩
theorem d_X8_falls_152 : zDc M_X8_falls 152 (.iadd) 1 153 := ⟨by decide +kernel, rfl⟩
theorem d_X8_falls_153 : zDc M_X8_falls 153 (.dup2) 1 154 := ⟨by decide +kernel, rfl⟩
theorem d_X8_falls_154 : zDc M_X8_falls 154 (.iaload) 1 155 := ⟨by decide +kernel, rfl⟩
theorem d_X8_falls_155 : zDc M_X8_falls 155 (.iload 4) 2 157 := ⟨by decide +kernel, rfl⟩
theorem d_X8_falls_157 : zDc M_X8_falls 157 (.iadd) 1 158 := ⟨by decide +kernel, rfl⟩
theorem d_X8_falls_158 : zDc M_X8_falls 158 (.iastore) 1 159 := ⟨by decide +kernel, rfl⟩
theorem d_X8_falls_159 : zDc M_X8_falls 159 (.iinc 5 1) 3 162 := ⟨by decide +kernel, rfl⟩
theorem d_X8_falls_162 : zDj M_X8_falls 162 (.goto (-91)) (-91) 165 71 := ⟨by decide +kernel, rfl, by decide⟩
theorem d_X8_falls_165 : zDc M_X8_falls 165 (.aload_n 0) 1 166 := ⟨by decide +kernel, rfl⟩
theorem d_X8_falls_166 : zDc M_X8_falls 166 (.getfield 84) 3 169 := ⟨by decide +kernel, rfl⟩
theorem d_X8_falls_169 : zDc M_X8_falls 169 (.iload_n 3) 1 170 := ⟨by decide +kernel, rfl⟩
theorem d_X8_falls_170 : zDc M_X8_falls 170 (.dup2) 1 171 := ⟨by decide +kernel, rfl⟩
theorem d_X8_falls_171 : zDc M_X8_falls 171 (.iaload) 1 172 := ⟨by decide +kernel, rfl⟩
theorem d_X8_falls_172 : zDc M_X8_falls 172 (.iload 4) 2 174 := ⟨by decide +kernel, rfl⟩
theorem d_X8_falls_174 : zDc M_X8_falls 174 (.isub) 1 175 := ⟨by decide +kernel, rfl⟩
theorem d_X8_falls_175 : zDc M_X8_falls 175 (.iastore) 1 176 := ⟨by decide +kernel, rfl⟩
theorem d_X8_falls_176 : zDc M_X8_falls 176 (.aload_n 0) 1 177 := ⟨by decide +kernel, rfl⟩
theorem d_X8_falls_177 : zDc M_X8_falls 177 (.getfield 84) 3 180 := ⟨by decide +kernel, rfl⟩
theorem d_X8_falls_180 : zDc M_X8_falls 180 (.iload_n 3) 1 181 := ⟨by decide +kernel, rfl⟩
theorem d_X8_falls_181 : zDc M_X8_falls 181 (.iaload) 1 182 := ⟨by decide +kernel, rfl⟩
theorem d_X8_falls_182 : zDj M_X8_falls 182 (.ifCond .ne 10) 10 185 192 := ⟨by decide +kernel, rfl, by decide⟩
theorem d_X8_falls_185 : zDc M_X8_falls 185 (.aload_n 0) 1 186 := ⟨by decide +kernel, rfl⟩
theorem d_X8_falls_186 : zDc M_X8_falls 186 (.getfield 93) 3 189 := ⟨by decide +kernel, rfl⟩
theorem d_X8_falls_189 : zDc M_X8_falls 189 (.iload_n 3) 1 190 := ⟨by decide +kernel, rfl⟩
theorem d_X8_falls_190 : zDc M_X8_falls 190 (.iconst 4) 1 191 := ⟨by decide +kernel, rfl⟩
theorem d_X8_falls_191 : zDc M_X8_falls 191 (.iastore) 1 192 := ⟨by decide +kernel, rfl⟩
theorem d_X8_falls_192 : zDc M_X8_falls 192 (.return_) 1 193 := ⟨by decide +kernel, rfl⟩
def f_X8_falls (a0 : Nat) (a1 : Int32) (a2 : Int32) (h0 : zHp) : Option (Unit × zHp) :=
  zob (zgR h0 a0 8 39) (fun v1 =>
  zob (zaI 0 h0 v1 ((8 * a1) + a2)) (fun v2 =>
  zob (zgR h0 a0 8 3) (fun v3 =>
  zob (zaI 0 h0 v3 4) (fun v4 =>
  zbd (α := (Unit ⊕ Unit)) (
  if v4 ≤ v2 then
  some ((.inl ()), h0)
  else
  zob (zgR h0 a0 8 38) (fun v5 =>
  zob (zaI 0 h0 v5 ((8 * a1) + a2)) (fun v6 =>
  zbd (zcv 8 a0 h0 (f_X8_groundIn a0 v6 h0)) (fun v8 h7 =>
  if v8 = 2 then
  some ((.inl ()), h7)
  else
  some ((.inr ()), h7))))) (fun b48 h10 => zsl b48 (fun e9 =>
  zbd (zcv 8 a0 h10 (f_X8_calls a0 a1 a2 h10)) (fun v12 h11 =>
  zob (zgR h11 a0 8 39) (fun v13 =>
  zob (zaI 0 h11 v13 ((8 * a1) + a2)) (fun v14 =>
  zob (zgR h11 a0 8 39) (fun v15 =>
  zob (zaI 0 h11 v15 ((8 * a1) + a2)) (fun v16 =>
  zbd (zcv 8 a0 h11 (f_X8_within a0 1 v14 (zmx 1 (v16 / 2)) h11)) (fun v18 h17 =>
  zbd (
  zlp (σ := Int32) (β := Int32) zLF (fun s19 h20 =>
  zob (zgR h20 a0 8 3) (fun v23 =>
  zob (zaI 0 h20 v23 0) (fun v24 =>
  if v24 ≤ s19 then
  some ((.inr s19), h20)
  else
  zob (zgR h20 a0 8 6) (fun v25 =>
  zob (zaI 0 h20 v25 s19) (fun v26 =>
  zob (zgR h20 a0 8 38) (fun v27 =>
  zob (zaI 0 h20 v27 ((8 * a1) + a2)) (fun v28 =>
  if v26 = v28 then
  zob (zgR h20 a0 8 45) (fun v29 =>
  zob (zaI 0 h20 v29 ((5 * a1) + s19)) (fun v30 =>
  zob (zsI 0 h20 v29 ((5 * a1) + s19) (v30 + v18)) (fun h31 =>
  zob (zgR h31 a0 8 46) (fun v32 =>
  zob (zgR h31 a0 8 41) (fun v33 =>
  zob (zaI 0 h31 v33 ((8 * a1) + a2)) (fun v34 =>
  zbd (α := Int32) (
  if v34 = (-1) then
  some (6, h31)
  else
  zob (zgR h31 a0 8 41) (fun v35 =>
  zob (zaI 0 h31 v35 ((8 * a1) + a2)) (fun v36 =>
  some (v36, h31)))) (fun e37 h38 =>
  zob (zaI 0 h38 v32 (((35 * a1) + (7 * s19)) + e37)) (fun v39 =>
  zob (zsI 0 h38 v32 (((35 * a1) + (7 * s19)) + e37) (v39 + v18)) (fun h40 =>
  some ((.inl (s19 + 1)), h40))))))))))
  else
  some ((.inl (s19 + 1)), h20)))))))) 0 h17) (fun e21 h22 =>
  zob (zgR h22 a0 8 39) (fun v41 =>
  zob (zaI 0 h22 v41 ((8 * a1) + a2)) (fun v42 =>
  zob (zsI 0 h22 v41 ((8 * a1) + a2) (v42 - v18)) (fun h43 =>
  zob (zgR h43 a0 8 39) (fun v44 =>
  zob (zaI 0 h43 v44 ((8 * a1) + a2)) (fun v45 =>
  if v45 = 0 then
  zob (zgR h43 a0 8 42) (fun v46 =>
  zob (zsI 0 h43 v46 ((8 * a1) + a2) 4) (fun h47 =>
  some ((), h47)))
  else
  some ((), h43)))))))))))))) (fun r => some (r, h10)))))))
set_option maxRecDepth 100000 in
set_option maxHeartbeats 4000000 in
theorem t_X8_falls (a0 : Nat) (a1 : Int32) (a2 : Int32) (h0 : zHp) : ∀ (r : Unit) (h' : zHp), f_X8_falls a0 a1 a2 h0 = some (r, h') → zCt yX8_falls (.code yX8_falls cX8_falls 6 none) 5 152 0 0 [.ref a0, .int a1, .int a2] h0 (none) h' := by
  refine zct_of M_X8_falls yX8_falls (by decide) rfl rfl [.ref a0, .int a1, .int a2] h0 (Nat.le_of_ble_eq_true rfl) (fun _ => none) (fun X => ?_)
  show zG X M_X8_falls (0, 0) 0 [(0, .ref a0), (1, .int a1), (2, .int a2)] [] h0 (f_X8_falls a0 a1 a2 h0) (fun (_ : Unit) h' => zKe X (none) h')
  unfold f_X8_falls
  refine zg_bipush 8 rfl d_X8_falls_0 ?_
  refine zg_iload_n 1 rfl d_X8_falls_2 ?_
  refine zg_imul d_X8_falls_3 ?_
  refine zg_iload_n 2 rfl d_X8_falls_4 ?_
  refine zg_iadd d_X8_falls_5 ?_
  refine zg_istore_n [(3, .int ((8 * a1) + a2)), (0, .ref a0), (1, .int a1), (2, .int a2)] d_X8_falls_6 rfl (by decide) rfl ?_
  refine zg_aload_n 1 rfl d_X8_falls_7 ?_
  refine zg_getR d_X8_falls_8 zc_8 (by decide) fl_X8_84 (fun v1 => ?_)
  refine zg_iload_n 0 rfl d_X8_falls_11 ?_
  refine zg_ald0 d_X8_falls_12 (fun v2 => ?_)
  refine zg_aload_n 1 rfl d_X8_falls_13 ?_
  refine zg_getR d_X8_falls_14 zc_8 (by decide) fl_X8_13 (fun v3 => ?_)
  refine zg_iconst 4 rfl d_X8_falls_17 ?_
  refine zg_ald0 d_X8_falls_18 (fun v4 => ?_)
  refine zg_bdr (E := 37) (el := (fun (e9 : Unit) => [(0, .ref a0), (1, .int a1), (2, .int a2), (3, .int ((8 * a1) + a2))])) (es := (fun (e9 : Unit) => [])) ?_ (fun e9 h10 => ?_)
  · refine zg_icmp_ge d_X8_falls_19 ?_ ?_
    · exact zg_finK (E := 0) [1, 2, 3, 0] rfl rfl (fun q => q)
    · refine zg_aload_n 1 rfl d_X8_falls_22 ?_
      refine zg_aload_n 1 rfl d_X8_falls_23 ?_
      refine zg_getR d_X8_falls_24 zc_8 (by decide) fl_X8_81 (fun v5 => ?_)
      refine zg_iload_n 0 rfl d_X8_falls_27 ?_
      refine zg_ald0 d_X8_falls_28 (fun v6 => ?_)
      refine zg_cVi (b := a0) (As := [.int v6]) (rest := []) (0, 0) d_X8_falls_29 zc_8 rfl cw_X8_355 wi_X8_groundIn ws_X8_groundIn rfl rfl (Nat.le_of_ble_eq_true rfl) (by decide) (by decide) ⟨by decide, by decide⟩ rfl (t_X8_groundIn a0 v6 h0) (fun v8 h7 => ?_)
      refine zg_iconst 2 rfl d_X8_falls_32 ?_
      refine zg_icmp_eq d_X8_falls_33 ?_ ?_
      · exact zg_finK (E := 0) [1, 2, 3, 0] rfl rfl (fun q => q)
      · exact zg_vretK d_X8_falls_36 rfl ⟨Nat.le_of_ble_eq_true rfl, Nat.le_of_ble_eq_true rfl⟩ (fun q => q)
  · refine zg_aload_n 0 rfl d_X8_falls_37 ?_
    refine zg_iload_n 1 rfl d_X8_falls_38 ?_
    refine zg_iload_n 2 rfl d_X8_falls_39 ?_
    refine zg_cVv (b := a0) (As := [.int a1, .int a2]) (rest := []) (0, 0) d_X8_falls_40 zc_8 rfl cw_X8_383 wi_X8_calls ws_X8_calls rfl rfl (Nat.le_of_ble_eq_true rfl) (by decide) (by decide) ⟨by decide, by decide⟩ rfl (t_X8_calls a0 a1 a2 h10) (fun v12 h11 => ?_)
    refine zg_aload_n 0 rfl d_X8_falls_43 ?_
    refine zg_iconst 1 rfl d_X8_falls_44 ?_
    refine zg_aload_n 0 rfl d_X8_falls_45 ?_
    refine zg_getR d_X8_falls_46 zc_8 (by decide) fl_X8_84 (fun v13 => ?_)
    refine zg_iload_n 3 rfl d_X8_falls_49 ?_
    refine zg_ald0 d_X8_falls_50 (fun v14 => ?_)
    refine zg_iconst 1 rfl d_X8_falls_51 ?_
    refine zg_aload_n 0 rfl d_X8_falls_52 ?_
    refine zg_getR d_X8_falls_53 zc_8 (by decide) fl_X8_84 (fun v15 => ?_)
    refine zg_iload_n 3 rfl d_X8_falls_56 ?_
    refine zg_ald0 d_X8_falls_57 (fun v16 => ?_)
    refine zg_iconst 2 rfl d_X8_falls_58 ?_
    refine zg_idiv (by decide) d_X8_falls_59 ?_
    refine zg_mmax d_X8_falls_60 ml_X8_348 (by decide) (Nat.le_of_ble_eq_true rfl) ⟨Nat.le_of_ble_eq_true rfl, Nat.le_of_ble_eq_true rfl⟩ ?_
    refine zg_cVi (b := a0) (As := [.int 1, .int v14, .int (zmx 1 (v16 / 2))]) (rest := []) (0, 0) d_X8_falls_63 zc_8 rfl cw_X8_386 wi_X8_within ws_X8_within rfl rfl (Nat.le_of_ble_eq_true rfl) (by decide) (by decide) ⟨by decide, by decide⟩ rfl (t_X8_within a0 1 v14 (zmx 1 (v16 / 2)) h11) (fun v18 h17 => ?_)
    refine zg_istore [(4, .int v18), (0, .ref a0), (1, .int a1), (2, .int a2), (3, .int ((8 * a1) + a2))] d_X8_falls_66 (by decide) rfl ?_
    refine zg_iconst 0 rfl d_X8_falls_68 ?_
    refine zg_istore [(5, .int 0), (4, .int v18), (0, .ref a0), (1, .int a1), (2, .int a2), (3, .int ((8 * a1) + a2))] d_X8_falls_69 (by decide) rfl ?_
    refine zg_bd (E := 165) (el := (fun (e21 : Int32) => [(0, .ref a0), (1, .int a1), (2, .int a2), (3, .int ((8 * a1) + a2)), (4, .int v18), (5, .int e21)])) (es := fun _ => []) (zg_sub [2, 3, 4, 5, 1, 0] rfl (zg_lp (el := (fun (s19 : Int32) => [(0, .ref a0), (1, .int a1), (2, .int a2), (3, .int ((8 * a1) + a2)), (4, .int v18), (5, .int s19)])) (fun s19 h20 => ?_) 0 h17)) (fun e21 h22 => ?_)
    · refine zg_iload 5 rfl d_X8_falls_71 ?_
      refine zg_aload_n 0 rfl d_X8_falls_73 ?_
      refine zg_getR d_X8_falls_74 zc_8 (by decide) fl_X8_13 (fun v23 => ?_)
      refine zg_iconst 0 rfl d_X8_falls_77 ?_
      refine zg_ald0 d_X8_falls_78 (fun v24 => ?_)
      refine zg_icmp_ge d_X8_falls_79 ?_ ?_
      · exact zg_finK (E := 0) [0, 1, 2, 3, 4, 5] rfl rfl (fun q => q)
      · refine zg_aload_n 0 rfl d_X8_falls_82 ?_
        refine zg_getR d_X8_falls_83 zc_8 (by decide) fl_X8_22 (fun v25 => ?_)
        refine zg_iload 5 rfl d_X8_falls_86 ?_
        refine zg_ald0 d_X8_falls_88 (fun v26 => ?_)
        refine zg_aload_n 0 rfl d_X8_falls_89 ?_
        refine zg_getR d_X8_falls_90 zc_8 (by decide) fl_X8_81 (fun v27 => ?_)
        refine zg_iload_n 3 rfl d_X8_falls_93 ?_
        refine zg_ald0 d_X8_falls_94 (fun v28 => ?_)
        refine zg_icmp_eq d_X8_falls_95 ?_ ?_
        · refine zg_aload_n 0 rfl d_X8_falls_101 ?_
          refine zg_getR d_X8_falls_102 zc_8 (by decide) fl_X8_102 (fun v29 => ?_)
          refine zg_iconst 5 rfl d_X8_falls_105 ?_
          refine zg_iload_n 1 rfl d_X8_falls_106 ?_
          refine zg_imul d_X8_falls_107 ?_
          refine zg_iload 5 rfl d_X8_falls_108 ?_
          refine zg_iadd d_X8_falls_110 ?_
          refine zg_dup2 rfl rfl d_X8_falls_111 ?_
          refine zg_ald0 d_X8_falls_112 (fun v30 => ?_)
          refine zg_iload 4 rfl d_X8_falls_113 ?_
          refine zg_iadd d_X8_falls_115 ?_
          refine zg_ast0 d_X8_falls_116 (fun h31 => ?_)
          refine zg_aload_n 0 rfl d_X8_falls_117 ?_
          refine zg_getR d_X8_falls_118 zc_8 (by decide) fl_X8_105 (fun v32 => ?_)
          refine zg_bipush 35 rfl d_X8_falls_121 ?_
          refine zg_iload_n 1 rfl d_X8_falls_123 ?_
          refine zg_imul d_X8_falls_124 ?_
          refine zg_bipush 7 rfl d_X8_falls_125 ?_
          refine zg_iload 5 rfl d_X8_falls_127 ?_
          refine zg_imul d_X8_falls_129 ?_
          refine zg_iadd d_X8_falls_130 ?_
          refine zg_aload_n 0 rfl d_X8_falls_131 ?_
          refine zg_getR d_X8_falls_132 zc_8 (by decide) fl_X8_90 (fun v33 => ?_)
          refine zg_iload_n 3 rfl d_X8_falls_135 ?_
          refine zg_ald0 d_X8_falls_136 (fun v34 => ?_)
          refine zg_iconst (-1) rfl d_X8_falls_137 ?_
          refine zg_bd (E := 152) (el := (fun (e37 : Int32) => [(0, .ref a0), (1, .int a1), (2, .int a2), (3, .int ((8 * a1) + a2)), (4, .int v18), (5, .int s19)])) (es := (fun (e37 : Int32) => [.int e37, .int ((35 * a1) + (7 * s19)), .ref v32])) ?_ (fun e37 h38 => ?_)
          · refine zg_icmp_ne d_X8_falls_138 ?_ ?_
            · refine zg_bipush 6 rfl d_X8_falls_141 ?_
              refine zg_goto d_X8_falls_143 ?_
              exact zg_finK (E := 0) [0, 1, 2, 3, 4, 5] rfl rfl (fun q => q)
            · refine zg_aload_n 0 rfl d_X8_falls_146 ?_
              refine zg_getR d_X8_falls_147 zc_8 (by decide) fl_X8_90 (fun v35 => ?_)
              refine zg_iload_n 3 rfl d_X8_falls_150 ?_
              refine zg_ald0 d_X8_falls_151 (fun v36 => ?_)
              exact zg_finK (E := 0) [0, 1, 2, 3, 4, 5] rfl rfl (fun q => q)
          · refine zg_iadd d_X8_falls_152 ?_
            refine zg_dup2 rfl rfl d_X8_falls_153 ?_
            refine zg_ald0 d_X8_falls_154 (fun v39 => ?_)
            refine zg_iload 4 rfl d_X8_falls_155 ?_
            refine zg_iadd d_X8_falls_157 ?_
            refine zg_ast0 d_X8_falls_158 (fun h40 => ?_)
            refine zg_iinc 5 (s19 + 1) [(5, .int (s19 + 1)), (0, .ref a0), (1, .int a1), (2, .int a2), (3, .int ((8 * a1) + a2)), (4, .int v18)] d_X8_falls_159 rfl rfl (by decide) rfl ?_
            refine zg_goto d_X8_falls_162 ?_
            exact zg_finK (E := 0) [1, 2, 3, 4, 5, 0] rfl rfl (fun q => q)
        · refine zg_goto d_X8_falls_98 ?_
          refine zg_iinc 5 (s19 + 1) [(5, .int (s19 + 1)), (0, .ref a0), (1, .int a1), (2, .int a2), (3, .int ((8 * a1) + a2)), (4, .int v18)] d_X8_falls_159 rfl rfl (by decide) rfl ?_
          refine zg_goto d_X8_falls_162 ?_
          exact zg_finK (E := 0) [1, 2, 3, 4, 5, 0] rfl rfl (fun q => q)
    · refine zg_aload_n 0 rfl d_X8_falls_165 ?_
      refine zg_getR d_X8_falls_166 zc_8 (by decide) fl_X8_84 (fun v41 => ?_)
      refine zg_iload_n 3 rfl d_X8_falls_169 ?_
      refine zg_dup2 rfl rfl d_X8_falls_170 ?_
      refine zg_ald0 d_X8_falls_171 (fun v42 => ?_)
      refine zg_iload 4 rfl d_X8_falls_172 ?_
      refine zg_isub d_X8_falls_174 ?_
      refine zg_ast0 d_X8_falls_175 (fun h43 => ?_)
      refine zg_aload_n 0 rfl d_X8_falls_176 ?_
      refine zg_getR d_X8_falls_177 zc_8 (by decide) fl_X8_84 (fun v44 => ?_)
      refine zg_iload_n 3 rfl d_X8_falls_180 ?_
      refine zg_ald0 d_X8_falls_181 (fun v45 => ?_)
      refine zg_if_ne d_X8_falls_182 ?_ ?_
      · refine zg_aload_n 0 rfl d_X8_falls_185 ?_
        refine zg_getR d_X8_falls_186 zc_8 (by decide) fl_X8_93 (fun v46 => ?_)
        refine zg_iload_n 3 rfl d_X8_falls_189 ?_
        refine zg_iconst 4 rfl d_X8_falls_190 ?_
        refine zg_ast0 d_X8_falls_191 (fun h47 => ?_)
        exact zg_vretK d_X8_falls_192 rfl ⟨Nat.le_of_ble_eq_true rfl, Nat.le_of_ble_eq_true rfl⟩ (fun q => q)
      · exact zg_vretK d_X8_falls_192 rfl ⟨Nat.le_of_ble_eq_true rfl, Nat.le_of_ble_eq_true rfl⟩ (fun q => q)
abbrev M_X8_marks : zMt := (RX8, cX8_marks, 4, 5, 152, none, "marks", 0, 0)
theorem d_X8_marks_0 : zDc M_X8_marks 0 (.iconst 0) 1 1 := ⟨by decide +kernel, rfl⟩
theorem d_X8_marks_1 : zDc M_X8_marks 1 (.istore_n 2) 1 2 := ⟨by decide +kernel, rfl⟩
theorem d_X8_marks_2 : zDc M_X8_marks 2 (.iload_n 2) 1 3 := ⟨by decide +kernel, rfl⟩
theorem d_X8_marks_3 : zDc M_X8_marks 3 (.aload_n 0) 1 4 := ⟨by decide +kernel, rfl⟩
theorem d_X8_marks_4 : zDc M_X8_marks 4 (.getfield 13) 3 7 := ⟨by decide +kernel, rfl⟩
theorem d_X8_marks_7 : zDc M_X8_marks 7 (.iconst 2) 1 8 := ⟨by decide +kernel, rfl⟩
theorem d_X8_marks_8 : zDc M_X8_marks 8 (.iaload) 1 9 := ⟨by decide +kernel, rfl⟩
theorem d_X8_marks_9 : zDj M_X8_marks 9 (.if_icmp .ge 106) 106 12 115 := ⟨by decide +kernel, rfl, by decide⟩
theorem d_X8_marks_12 : zDc M_X8_marks 12 (.iconst 0) 1 13 := ⟨by decide +kernel, rfl⟩
theorem d_X8_marks_13 : zDc M_X8_marks 13 (.istore_n 3) 1 14 := ⟨by decide +kernel, rfl⟩
theorem d_X8_marks_14 : zDc M_X8_marks 14 (.iload_n 3) 1 15 := ⟨by decide +kernel, rfl⟩
theorem d_X8_marks_15 : zDc M_X8_marks 15 (.aload_n 0) 1 16 := ⟨by decide +kernel, rfl⟩
theorem d_X8_marks_16 : zDc M_X8_marks 16 (.getfield 13) 3 19 := ⟨by decide +kernel, rfl⟩
theorem d_X8_marks_19 : zDc M_X8_marks 19 (.iconst 1) 1 20 := ⟨by decide +kernel, rfl⟩
theorem d_X8_marks_20 : zDc M_X8_marks 20 (.iaload) 1 21 := ⟨by decide +kernel, rfl⟩
theorem d_X8_marks_21 : zDj M_X8_marks 21 (.if_icmp .ge 88) 88 24 109 := ⟨by decide +kernel, rfl, by decide⟩
theorem d_X8_marks_24 : zDc M_X8_marks 24 (.aload_n 0) 1 25 := ⟨by decide +kernel, rfl⟩
theorem d_X8_marks_25 : zDc M_X8_marks 25 (.iload_n 1) 1 26 := ⟨by decide +kernel, rfl⟩
theorem d_X8_marks_26 : zDc M_X8_marks 26 (.iload_n 3) 1 27 := ⟨by decide +kernel, rfl⟩
theorem d_X8_marks_27 : zDc M_X8_marks 27 (.invokevirtual 351) 3 30 := ⟨by decide +kernel, rfl⟩
theorem d_X8_marks_30 : zDj M_X8_marks 30 (.ifCond .eq 73) 73 33 103 := ⟨by decide +kernel, rfl, by decide⟩
theorem d_X8_marks_33 : zDc M_X8_marks 33 (.aload_n 0) 1 34 := ⟨by decide +kernel, rfl⟩
theorem d_X8_marks_34 : zDc M_X8_marks 34 (.getfield 90) 3 37 := ⟨by decide +kernel, rfl⟩
theorem d_X8_marks_37 : zDc M_X8_marks 37 (.bipush 8) 2 39 := ⟨by decide +kernel, rfl⟩
theorem d_X8_marks_39 : zDc M_X8_marks 39 (.iload_n 1) 1 40 := ⟨by decide +kernel, rfl⟩
theorem d_X8_marks_40 : zDc M_X8_marks 40 (.imul) 1 41 := ⟨by decide +kernel, rfl⟩
theorem d_X8_marks_41 : zDc M_X8_marks 41 (.iload_n 3) 1 42 := ⟨by decide +kernel, rfl⟩
theorem d_X8_marks_42 : zDc M_X8_marks 42 (.iadd) 1 43 := ⟨by decide +kernel, rfl⟩
theorem d_X8_marks_43 : zDc M_X8_marks 43 (.iaload) 1 44 := ⟨by decide +kernel, rfl⟩
theorem d_X8_marks_44 : zDc M_X8_marks 44 (.iload_n 2) 1 45 := ⟨by decide +kernel, rfl⟩
theorem d_X8_marks_45 : zDj M_X8_marks 45 (.if_icmp .eq 6) 6 48 51 := ⟨by decide +kernel, rfl, by decide⟩
theorem d_X8_marks_48 : zDj M_X8_marks 48 (.goto 55) 55 51 103 := ⟨by decide +kernel, rfl, by decide⟩
theorem d_X8_marks_51 : zDc M_X8_marks 51 (.aload_n 0) 1 52 := ⟨by decide +kernel, rfl⟩
theorem d_X8_marks_52 : zDc M_X8_marks 52 (.iload_n 1) 1 53 := ⟨by decide +kernel, rfl⟩
theorem d_X8_marks_53 : zDc M_X8_marks 53 (.iload_n 3) 1 54 := ⟨by decide +kernel, rfl⟩
theorem d_X8_marks_54 : zDc M_X8_marks 54 (.invokevirtual 383) 3 57 := ⟨by decide +kernel, rfl⟩
theorem d_X8_marks_57 : zDc M_X8_marks 57 (.aload_n 0) 1 58 := ⟨by decide +kernel, rfl⟩
theorem d_X8_marks_58 : zDc M_X8_marks 58 (.getfield 99) 3 61 := ⟨by decide +kernel, rfl⟩
theorem d_X8_marks_61 : zDc M_X8_marks 61 (.bipush 6) 2 63 := ⟨by decide +kernel, rfl⟩
theorem d_X8_marks_63 : zDc M_X8_marks 63 (.iload_n 1) 1 64 := ⟨by decide +kernel, rfl⟩
theorem d_X8_marks_64 : zDc M_X8_marks 64 (.imul) 1 65 := ⟨by decide +kernel, rfl⟩
theorem d_X8_marks_65 : zDc M_X8_marks 65 (.iload_n 2) 1 66 := ⟨by decide +kernel, rfl⟩
theorem d_X8_marks_66 : zDc M_X8_marks 66 (.iadd) 1 67 := ⟨by decide +kernel, rfl⟩
theorem d_X8_marks_67 : zDc M_X8_marks 67 (.dup2) 1 68 := ⟨by decide +kernel, rfl⟩
theorem d_X8_marks_68 : zDc M_X8_marks 68 (.iaload) 1 69 := ⟨by decide +kernel, rfl⟩
theorem d_X8_marks_69 : zDc M_X8_marks 69 (.aload_n 0) 1 70 := ⟨by decide +kernel, rfl⟩
theorem d_X8_marks_70 : zDc M_X8_marks 70 (.iconst 2) 1 71 := ⟨by decide +kernel, rfl⟩
theorem d_X8_marks_71 : zDc M_X8_marks 71 (.bipush 9) 2 73 := ⟨by decide +kernel, rfl⟩
theorem d_X8_marks_73 : zDc M_X8_marks 73 (.aload_n 0) 1 74 := ⟨by decide +kernel, rfl⟩
theorem d_X8_marks_74 : zDc M_X8_marks 74 (.iload_n 1) 1 75 := ⟨by decide +kernel, rfl⟩
theorem d_X8_marks_75 : zDc M_X8_marks 75 (.iload_n 2) 1 76 := ⟨by decide +kernel, rfl⟩
theorem d_X8_marks_76 : zDc M_X8_marks 76 (.aload_n 0) 1 77 := ⟨by decide +kernel, rfl⟩
theorem d_X8_marks_77 : zDc M_X8_marks 77 (.getfield 81) 3 80 := ⟨by decide +kernel, rfl⟩
theorem d_X8_marks_80 : zDc M_X8_marks 80 (.bipush 8) 2 82 := ⟨by decide +kernel, rfl⟩
theorem d_X8_marks_82 : zDc M_X8_marks 82 (.iload_n 1) 1 83 := ⟨by decide +kernel, rfl⟩
theorem d_X8_marks_83 : zDc M_X8_marks 83 (.imul) 1 84 := ⟨by decide +kernel, rfl⟩
theorem d_X8_marks_84 : zDc M_X8_marks 84 (.iload_n 3) 1 85 := ⟨by decide +kernel, rfl⟩
theorem d_X8_marks_85 : zDc M_X8_marks 85 (.iadd) 1 86 := ⟨by decide +kernel, rfl⟩
theorem d_X8_marks_86 : zDc M_X8_marks 86 (.iaload) 1 87 := ⟨by decide +kernel, rfl⟩
theorem d_X8_marks_87 : zDc M_X8_marks 87 (.invokevirtual 390) 3 90 := ⟨by decide +kernel, rfl⟩
theorem d_X8_marks_90 : zDj M_X8_marks 90 (.ifCond .eq 7) 7 93 97 := ⟨by decide +kernel, rfl, by decide⟩
theorem d_X8_marks_93 : zDc M_X8_marks 93 (.iconst 1) 1 94 := ⟨by decide +kernel, rfl⟩
theorem d_X8_marks_94 : zDj M_X8_marks 94 (.goto 4) 4 97 98 := ⟨by decide +kernel, rfl, by decide⟩
theorem d_X8_marks_97 : zDc M_X8_marks 97 (.iconst 0) 1 98 := ⟨by decide +kernel, rfl⟩
theorem d_X8_marks_98 : zDc M_X8_marks 98 (.invokevirtual 386) 3 101 := ⟨by decide +kernel, rfl⟩
theorem d_X8_marks_101 : zDc M_X8_marks 101 (.iadd) 1 102 := ⟨by decide +kernel, rfl⟩
theorem d_X8_marks_102 : zDc M_X8_marks 102 (.iastore) 1 103 := ⟨by decide +kernel, rfl⟩
theorem d_X8_marks_103 : zDc M_X8_marks 103 (.iinc 3 1) 3 106 := ⟨by decide +kernel, rfl⟩
theorem d_X8_marks_106 : zDj M_X8_marks 106 (.goto (-92)) (-92) 109 14 := ⟨by decide +kernel, rfl, by decide⟩
theorem d_X8_marks_109 : zDc M_X8_marks 109 (.iinc 2 1) 3 112 := ⟨by decide +kernel, rfl⟩
theorem d_X8_marks_112 : zDj M_X8_marks 112 (.goto (-110)) (-110) 115 2 := ⟨by decide +kernel, rfl, by decide⟩
theorem d_X8_marks_115 : zDc M_X8_marks 115 (.return_) 1 116 := ⟨by decide +kernel, rfl⟩
def f_X8_marks (a0 : Nat) (a1 : Int32) (h0 : zHp) : Option (Unit × zHp) :=
  zbd (
  zlp (σ := Int32) (β := Int32) zLF (fun s1 h2 =>
  zob (zgR h2 a0 8 3) (fun v5 =>
  zob (zaI 0 h2 v5 2) (fun v6 =>
  if v6 ≤ s1 then
  some ((.inr s1), h2)
  else
  zbd (
  zlp (σ := Int32) (β := Int32) zLF (fun s7 h8 =>
  zob (zgR h8 a0 8 3) (fun v11 =>
  zob (zaI 0 h8 v11 1) (fun v12 =>
  if v12 ≤ s7 then
  some ((.inr s7), h8)
  else
  zbd (zcv 8 a0 h8 (f_X8_isUp a0 a1 s7 h8)) (fun v14 h13 =>
  if v14 = 0 then
  some ((.inl (s7 + 1)), h13)
  else
  zob (zgR h13 a0 8 41) (fun v15 =>
  zob (zaI 0 h13 v15 ((8 * a1) + s7)) (fun v16 =>
  if v16 = s1 then
  zbd (zcv 8 a0 h13 (f_X8_calls a0 a1 s7 h13)) (fun v18 h17 =>
  zob (zgR h17 a0 8 44) (fun v19 =>
  zob (zaI 0 h17 v19 ((6 * a1) + s1)) (fun v20 =>
  zob (zgR h17 a0 8 38) (fun v21 =>
  zob (zaI 0 h17 v21 ((8 * a1) + s7)) (fun v22 =>
  zbd (zcv 8 a0 h17 (f_X8_doesSee a0 a1 s1 v22 h17)) (fun v24 h23 =>
  zbd (α := Int32) (
  if v24 = 0 then
  some (0, h23)
  else
  some (1, h23)) (fun e25 h26 =>
  zbd (zcv 8 a0 h26 (f_X8_within a0 2 9 e25 h26)) (fun v28 h27 =>
  zob (zsI 0 h27 v19 ((6 * a1) + s1) (v20 + v28)) (fun h29 =>
  some ((.inl (s7 + 1)), h29))))))))))
  else
  some ((.inl (s7 + 1)), h13))))))) 0 h2) (fun e9 h10 =>
  some ((.inl (s1 + 1)), h10))))) 0 h0) (fun e3 h4 =>
  some ((), h4))
set_option maxRecDepth 100000 in
set_option maxHeartbeats 4000000 in
theorem t_X8_marks (a0 : Nat) (a1 : Int32) (h0 : zHp) : ∀ (r : Unit) (h' : zHp), f_X8_marks a0 a1 h0 = some (r, h') → zCt yX8_marks (.code yX8_marks cX8_marks 4 none) 5 152 0 0 [.ref a0, .int a1] h0 (none) h' := by
  refine zct_of M_X8_marks yX8_marks (by decide) rfl rfl [.ref a0, .int a1] h0 (Nat.le_of_ble_eq_true rfl) (fun _ => none) (fun X => ?_)
  show zG X M_X8_marks (0, 0) 0 [(0, .ref a0), (1, .int a1)] [] h0 (f_X8_marks a0 a1 h0) (fun (_ : Unit) h' => zKe X (none) h')
  unfold f_X8_marks
  refine zg_iconst 0 rfl d_X8_marks_0 ?_
  refine zg_istore_n [(2, .int 0), (0, .ref a0), (1, .int a1)] d_X8_marks_1 rfl (by decide) rfl ?_
  refine zg_bd (E := 115) (el := (fun (e3 : Int32) => [(0, .ref a0), (1, .int a1), (2, .int e3)])) (es := fun _ => []) (zg_sub [1, 2, 0] rfl (zg_lp (el := (fun (s1 : Int32) => [(0, .ref a0), (1, .int a1), (2, .int s1)])) (fun s1 h2 => ?_) 0 h0)) (fun e3 h4 => ?_)
  · refine zg_iload_n 2 rfl d_X8_marks_2 ?_
    refine zg_aload_n 0 rfl d_X8_marks_3 ?_
    refine zg_getR d_X8_marks_4 zc_8 (by decide) fl_X8_13 (fun v5 => ?_)
    refine zg_iconst 2 rfl d_X8_marks_7 ?_
    refine zg_ald0 d_X8_marks_8 (fun v6 => ?_)
    refine zg_icmp_ge d_X8_marks_9 ?_ ?_
    · exact zg_finK (E := 0) [0, 1, 2] rfl rfl (fun q => q)
    · refine zg_iconst 0 rfl d_X8_marks_12 ?_
      refine zg_istore_n [(3, .int 0), (0, .ref a0), (1, .int a1), (2, .int s1)] d_X8_marks_13 rfl (by decide) rfl ?_
      refine zg_bd (E := 109) (el := (fun (e9 : Int32) => [(0, .ref a0), (1, .int a1), (2, .int s1), (3, .int e9)])) (es := fun _ => []) (zg_sub [1, 2, 3, 0] rfl (zg_lp (el := (fun (s7 : Int32) => [(0, .ref a0), (1, .int a1), (2, .int s1), (3, .int s7)])) (fun s7 h8 => ?_) 0 h2)) (fun e9 h10 => ?_)
      · refine zg_iload_n 3 rfl d_X8_marks_14 ?_
        refine zg_aload_n 0 rfl d_X8_marks_15 ?_
        refine zg_getR d_X8_marks_16 zc_8 (by decide) fl_X8_13 (fun v11 => ?_)
        refine zg_iconst 1 rfl d_X8_marks_19 ?_
        refine zg_ald0 d_X8_marks_20 (fun v12 => ?_)
        refine zg_icmp_ge d_X8_marks_21 ?_ ?_
        · exact zg_finK (E := 0) [0, 1, 2, 3] rfl rfl (fun q => q)
        · refine zg_aload_n 0 rfl d_X8_marks_24 ?_
          refine zg_iload_n 1 rfl d_X8_marks_25 ?_
          refine zg_iload_n 3 rfl d_X8_marks_26 ?_
          refine zg_cVi (b := a0) (As := [.int a1, .int s7]) (rest := []) (0, 0) d_X8_marks_27 zc_8 rfl cw_X8_351 wi_X8_isUp ws_X8_isUp rfl rfl (Nat.le_of_ble_eq_true rfl) (by decide) (by decide) ⟨by decide, by decide⟩ rfl (t_X8_isUp a0 a1 s7 h8) (fun v14 h13 => ?_)
          refine zg_if_eq d_X8_marks_30 ?_ ?_
          · refine zg_iinc 3 (s7 + 1) [(3, .int (s7 + 1)), (0, .ref a0), (1, .int a1), (2, .int s1)] d_X8_marks_103 rfl rfl (by decide) rfl ?_
            refine zg_goto d_X8_marks_106 ?_
            exact zg_finK (E := 0) [1, 2, 3, 0] rfl rfl (fun q => q)
          · refine zg_aload_n 0 rfl d_X8_marks_33 ?_
            refine zg_getR d_X8_marks_34 zc_8 (by decide) fl_X8_90 (fun v15 => ?_)
            refine zg_bipush 8 rfl d_X8_marks_37 ?_
            refine zg_iload_n 1 rfl d_X8_marks_39 ?_
            refine zg_imul d_X8_marks_40 ?_
            refine zg_iload_n 3 rfl d_X8_marks_41 ?_
            refine zg_iadd d_X8_marks_42 ?_
            refine zg_ald0 d_X8_marks_43 (fun v16 => ?_)
            refine zg_iload_n 2 rfl d_X8_marks_44 ?_
            refine zg_icmp_eq d_X8_marks_45 ?_ ?_
            · refine zg_aload_n 0 rfl d_X8_marks_51 ?_
              refine zg_iload_n 1 rfl d_X8_marks_52 ?_
              refine zg_iload_n 3 rfl d_X8_marks_53 ?_
              refine zg_cVv (b := a0) (As := [.int a1, .int s7]) (rest := []) (0, 0) d_X8_marks_54 zc_8 rfl cw_X8_383 wi_X8_calls ws_X8_calls rfl rfl (Nat.le_of_ble_eq_true rfl) (by decide) (by decide) ⟨by decide, by decide⟩ rfl (t_X8_calls a0 a1 s7 h13) (fun v18 h17 => ?_)
              refine zg_aload_n 0 rfl d_X8_marks_57 ?_
              refine zg_getR d_X8_marks_58 zc_8 (by decide) fl_X8_99 (fun v19 => ?_)
              refine zg_bipush 6 rfl d_X8_marks_61 ?_
              refine zg_iload_n 1 rfl d_X8_marks_63 ?_
              refine zg_imul d_X8_marks_64 ?_
              refine zg_iload_n 2 rfl d_X8_marks_65 ?_
              refine zg_iadd d_X8_marks_66 ?_
              refine zg_dup2 rfl rfl d_X8_marks_67 ?_
              refine zg_ald0 d_X8_marks_68 (fun v20 => ?_)
              refine zg_aload_n 0 rfl d_X8_marks_69 ?_
              refine zg_iconst 2 rfl d_X8_marks_70 ?_
              refine zg_bipush 9 rfl d_X8_marks_71 ?_
              refine zg_aload_n 0 rfl d_X8_marks_73 ?_
              refine zg_iload_n 1 rfl d_X8_marks_74 ?_
              refine zg_iload_n 2 rfl d_X8_marks_75 ?_
              refine zg_aload_n 0 rfl d_X8_marks_76 ?_
              refine zg_getR d_X8_marks_77 zc_8 (by decide) fl_X8_81 (fun v21 => ?_)
              refine zg_bipush 8 rfl d_X8_marks_80 ?_
              refine zg_iload_n 1 rfl d_X8_marks_82 ?_
              refine zg_imul d_X8_marks_83 ?_
              refine zg_iload_n 3 rfl d_X8_marks_84 ?_
              refine zg_iadd d_X8_marks_85 ?_
              refine zg_ald0 d_X8_marks_86 (fun v22 => ?_)
              refine zg_cVi (b := a0) (As := [.int a1, .int s1, .int v22]) (rest := [.int 9, .int 2, .ref a0, .int v20, .int ((6 * a1) + s1), .ref v19]) (0, 0) d_X8_marks_87 zc_8 rfl cw_X8_390 wi_X8_doesSee ws_X8_doesSee rfl rfl (Nat.le_of_ble_eq_true rfl) (by decide) (by decide) ⟨by decide, by decide⟩ rfl (t_X8_doesSee a0 a1 s1 v22 h17) (fun v24 h23 => ?_)
              refine zg_bd (E := 98) (el := (fun (e25 : Int32) => [(0, .ref a0), (1, .int a1), (2, .int s1), (3, .int s7)])) (es := (fun (e25 : Int32) => [.int e25, .int 9, .int 2, .ref a0, .int v20, .int ((6 * a1) + s1), .ref v19])) ?_ (fun e25 h26 => ?_)
              · refine zg_if_eq d_X8_marks_90 ?_ ?_
                · refine zg_iconst 0 rfl d_X8_marks_97 ?_
                  exact zg_finK (E := 0) [0, 1, 2, 3] rfl rfl (fun q => q)
                · refine zg_iconst 1 rfl d_X8_marks_93 ?_
                  refine zg_goto d_X8_marks_94 ?_
                  exact zg_finK (E := 0) [0, 1, 2, 3] rfl rfl (fun q => q)
              · refine zg_cVi (b := a0) (As := [.int 2, .int 9, .int e25]) (rest := [.int v20, .int ((6 * a1) + s1), .ref v19]) (0, 0) d_X8_marks_98 zc_8 rfl cw_X8_386 wi_X8_within ws_X8_within rfl rfl (Nat.le_of_ble_eq_true rfl) (by decide) (by decide) ⟨by decide, by decide⟩ rfl (t_X8_within a0 2 9 e25 h26) (fun v28 h27 => ?_)
                refine zg_iadd d_X8_marks_101 ?_
                refine zg_ast0 d_X8_marks_102 (fun h29 => ?_)
                refine zg_iinc 3 (s7 + 1) [(3, .int (s7 + 1)), (0, .ref a0), (1, .int a1), (2, .int s1)] d_X8_marks_103 rfl rfl (by decide) rfl ?_
                refine zg_goto d_X8_marks_106 ?_
                exact zg_finK (E := 0) [1, 2, 3, 0] rfl rfl (fun q => q)
            · refine zg_goto d_X8_marks_48 ?_
              refine zg_iinc 3 (s7 + 1) [(3, .int (s7 + 1)), (0, .ref a0), (1, .int a1), (2, .int s1)] d_X8_marks_103 rfl rfl (by decide) rfl ?_
              refine zg_goto d_X8_marks_106 ?_
              exact zg_finK (E := 0) [1, 2, 3, 0] rfl rfl (fun q => q)
      · refine zg_iinc 2 (s1 + 1) [(2, .int (s1 + 1)), (0, .ref a0), (1, .int a1), (3, .int e9)] d_X8_marks_109 rfl rfl (by decide) rfl ?_
        refine zg_goto d_X8_marks_112 ?_
        exact zg_finK (E := 0) [1, 2, 0] rfl rfl (fun q => q)
  · exact zg_vretK d_X8_marks_115 rfl ⟨Nat.le_of_ble_eq_true rfl, Nat.le_of_ble_eq_true rfl⟩ (fun q => q)
abbrev M_X8_passes : zMt := (RX8, cX8_passes, 5, 6, 177, none, "passes", 0, 0)
theorem d_X8_passes_0 : zDc M_X8_passes 0 (.aload_n 0) 1 1 := ⟨by decide +kernel, rfl⟩
theorem d_X8_passes_1 : zDc M_X8_passes 1 (.iload_n 1) 1 2 := ⟨by decide +kernel, rfl⟩
theorem d_X8_passes_2 : zDc M_X8_passes 2 (.invokevirtual 397) 3 5 := ⟨by decide +kernel, rfl⟩
theorem d_X8_passes_5 : zDc M_X8_passes 5 (.istore_n 2) 1 6 := ⟨by decide +kernel, rfl⟩
theorem d_X8_passes_6 : zDc M_X8_passes 6 (.iconst 0) 1 7 := ⟨by decide +kernel, rfl⟩
theorem d_X8_passes_7 : zDc M_X8_passes 7 (.istore_n 3) 1 8 := ⟨by decide +kernel, rfl⟩
theorem d_X8_passes_8 : zDc M_X8_passes 8 (.iload_n 3) 1 9 := ⟨by decide +kernel, rfl⟩
theorem d_X8_passes_9 : zDc M_X8_passes 9 (.aload_n 0) 1 10 := ⟨by decide +kernel, rfl⟩
theorem d_X8_passes_10 : zDc M_X8_passes 10 (.getfield 13) 3 13 := ⟨by decide +kernel, rfl⟩
theorem d_X8_passes_13 : zDc M_X8_passes 13 (.iconst 1) 1 14 := ⟨by decide +kernel, rfl⟩
theorem d_X8_passes_14 : zDc M_X8_passes 14 (.iaload) 1 15 := ⟨by decide +kernel, rfl⟩
theorem d_X8_passes_15 : zDj M_X8_passes 15 (.if_icmp .ge 70) 70 18 85 := ⟨by decide +kernel, rfl, by decide⟩
theorem d_X8_passes_18 : zDc M_X8_passes 18 (.bipush 8) 2 20 := ⟨by decide +kernel, rfl⟩
theorem d_X8_passes_20 : zDc M_X8_passes 20 (.iload_n 1) 1 21 := ⟨by decide +kernel, rfl⟩
theorem d_X8_passes_21 : zDc M_X8_passes 21 (.imul) 1 22 := ⟨by decide +kernel, rfl⟩
theorem d_X8_passes_22 : zDc M_X8_passes 22 (.iload_n 3) 1 23 := ⟨by decide +kernel, rfl⟩
theorem d_X8_passes_23 : zDc M_X8_passes 23 (.iadd) 1 24 := ⟨by decide +kernel, rfl⟩
theorem d_X8_passes_24 : zDc M_X8_passes 24 (.istore 4) 2 26 := ⟨by decide +kernel, rfl⟩
theorem d_X8_passes_26 : zDc M_X8_passes 26 (.aload_n 0) 1 27 := ⟨by decide +kernel, rfl⟩
theorem d_X8_passes_27 : zDc M_X8_passes 27 (.getfield 37) 3 30 := ⟨by decide +kernel, rfl⟩
theorem d_X8_passes_30 : zDc M_X8_passes 30 (.iload_n 3) 1 31 := ⟨by decide +kernel, rfl⟩
theorem d_X8_passes_31 : zDc M_X8_passes 31 (.iaload) 1 32 := ⟨by decide +kernel, rfl⟩
theorem d_X8_passes_32 : zDc M_X8_passes 32 (.aload_n 0) 1 33 := ⟨by decide +kernel, rfl⟩
theorem d_X8_passes_33 : zDc M_X8_passes 33 (.getfield 75) 3 36 := ⟨by decide +kernel, rfl⟩
theorem d_X8_passes_36 : zDc M_X8_passes 36 (.iload_n 1) 1 37 := ⟨by decide +kernel, rfl⟩
theorem d_X8_passes_37 : zDc M_X8_passes 37 (.iaload) 1 38 := ⟨by decide +kernel, rfl⟩
theorem d_X8_passes_38 : zDj M_X8_passes 38 (.if_icmp .ne 21) 21 41 59 := ⟨by decide +kernel, rfl, by decide⟩
theorem d_X8_passes_41 : zDc M_X8_passes 41 (.aload_n 0) 1 42 := ⟨by decide +kernel, rfl⟩
theorem d_X8_passes_42 : zDc M_X8_passes 42 (.getfield 93) 3 45 := ⟨by decide +kernel, rfl⟩
theorem d_X8_passes_45 : zDc M_X8_passes 45 (.iload 4) 2 47 := ⟨by decide +kernel, rfl⟩
theorem d_X8_passes_47 : zDc M_X8_passes 47 (.iaload) 1 48 := ⟨by decide +kernel, rfl⟩
theorem d_X8_passes_48 : zDj M_X8_passes 48 (.ifCond .ne 11) 11 51 59 := ⟨by decide +kernel, rfl, by decide⟩
theorem d_X8_passes_51 : zDc M_X8_passes 51 (.aload_n 0) 1 52 := ⟨by decide +kernel, rfl⟩
theorem d_X8_passes_52 : zDc M_X8_passes 52 (.getfield 93) 3 55 := ⟨by decide +kernel, rfl⟩
theorem d_X8_passes_55 : zDc M_X8_passes 55 (.iload 4) 2 57 := ⟨by decide +kernel, rfl⟩
theorem d_X8_passes_57 : zDc M_X8_passes 57 (.iconst 1) 1 58 := ⟨by decide +kernel, rfl⟩
theorem d_X8_passes_58 : zDc M_X8_passes 58 (.iastore) 1 59 := ⟨by decide +kernel, rfl⟩
theorem d_X8_passes_59 : zDc M_X8_passes 59 (.aload_n 0) 1 60 := ⟨by decide +kernel, rfl⟩
theorem d_X8_passes_60 : zDc M_X8_passes 60 (.iload_n 1) 1 61 := ⟨by decide +kernel, rfl⟩
theorem d_X8_passes_61 : zDc M_X8_passes 61 (.iload_n 3) 1 62 := ⟨by decide +kernel, rfl⟩
theorem d_X8_passes_62 : zDc M_X8_passes 62 (.invokevirtual 351) 3 65 := ⟨by decide +kernel, rfl⟩
theorem d_X8_passes_65 : zDj M_X8_passes 65 (.ifCond .eq 14) 14 68 79 := ⟨by decide +kernel, rfl, by decide⟩
theorem d_X8_passes_68 : zDc M_X8_passes 68 (.iload_n 2) 1 69 := ⟨by decide +kernel, rfl⟩
theorem d_X8_passes_69 : zDj M_X8_passes 69 (.ifCond .le 10) 10 72 79 := ⟨by decide +kernel, rfl, by decide⟩
theorem d_X8_passes_72 : zDc M_X8_passes 72 (.aload_n 0) 1 73 := ⟨by decide +kernel, rfl⟩
theorem d_X8_passes_73 : zDc M_X8_passes 73 (.iload_n 1) 1 74 := ⟨by decide +kernel, rfl⟩
theorem d_X8_passes_74 : zDc M_X8_passes 74 (.iload_n 3) 1 75 := ⟨by decide +kernel, rfl⟩
theorem d_X8_passes_75 : zDc M_X8_passes 75 (.iload_n 2) 1 76 := ⟨by decide +kernel, rfl⟩
theorem d_X8_passes_76 : zDc M_X8_passes 76 (.invokevirtual 400) 3 79 := ⟨by decide +kernel, rfl⟩
theorem d_X8_passes_79 : zDc M_X8_passes 79 (.iinc 3 1) 3 82 := ⟨by decide +kernel, rfl⟩
theorem d_X8_passes_82 : zDj M_X8_passes 82 (.goto (-74)) (-74) 85 8 := ⟨by decide +kernel, rfl, by decide⟩
theorem d_X8_passes_85 : zDc M_X8_passes 85 (.iconst 0) 1 86 := ⟨by decide +kernel, rfl⟩
theorem d_X8_passes_86 : zDc M_X8_passes 86 (.istore_n 3) 1 87 := ⟨by decide +kernel, rfl⟩
theorem d_X8_passes_87 : zDc M_X8_passes 87 (.iload_n 3) 1 88 := ⟨by decide +kernel, rfl⟩
theorem d_X8_passes_88 : zDc M_X8_passes 88 (.aload_n 0) 1 89 := ⟨by decide +kernel, rfl⟩
theorem d_X8_passes_89 : zDc M_X8_passes 89 (.getfield 13) 3 92 := ⟨by decide +kernel, rfl⟩
theorem d_X8_passes_92 : zDc M_X8_passes 92 (.iconst 1) 1 93 := ⟨by decide +kernel, rfl⟩
theorem d_X8_passes_93 : zDc M_X8_passes 93 (.iaload) 1 94 := ⟨by decide +kernel, rfl⟩
theorem d_X8_passes_94 : zDj M_X8_passes 94 (.if_icmp .ge 82) 82 97 176 := ⟨by decide +kernel, rfl, by decide⟩
theorem d_X8_passes_97 : zDc M_X8_passes 97 (.aload_n 0) 1 98 := ⟨by decide +kernel, rfl⟩
theorem d_X8_passes_98 : zDc M_X8_passes 98 (.iload_n 1) 1 99 := ⟨by decide +kernel, rfl⟩
theorem d_X8_passes_99 : zDc M_X8_passes 99 (.iload_n 3) 1 100 := ⟨by decide +kernel, rfl⟩
theorem d_X8_passes_100 : zDc M_X8_passes 100 (.invokevirtual 351) 3 103 := ⟨by decide +kernel, rfl⟩
theorem d_X8_passes_103 : zDj M_X8_passes 103 (.ifCond .ne 6) 6 106 109 := ⟨by decide +kernel, rfl, by decide⟩
theorem d_X8_passes_106 : zDj M_X8_passes 106 (.goto 64) 64 109 170 := ⟨by decide +kernel, rfl, by decide⟩
theorem d_X8_passes_109 : zDc M_X8_passes 109 (.bipush 8) 2 111 := ⟨by decide +kernel, rfl⟩
theorem d_X8_passes_111 : zDc M_X8_passes 111 (.iload_n 1) 1 112 := ⟨by decide +kernel, rfl⟩
theorem d_X8_passes_112 : zDc M_X8_passes 112 (.imul) 1 113 := ⟨by decide +kernel, rfl⟩
theorem d_X8_passes_113 : zDc M_X8_passes 113 (.iload_n 3) 1 114 := ⟨by decide +kernel, rfl⟩
theorem d_X8_passes_114 : zDc M_X8_passes 114 (.iadd) 1 115 := ⟨by decide +kernel, rfl⟩
theorem d_X8_passes_115 : zDc M_X8_passes 115 (.istore 4) 2 117 := ⟨by decide +kernel, rfl⟩
theorem d_X8_passes_117 : zDc M_X8_passes 117 (.aload_n 0) 1 118 := ⟨by decide +kernel, rfl⟩
theorem d_X8_passes_118 : zDc M_X8_passes 118 (.iload_n 1) 1 119 := ⟨by decide +kernel, rfl⟩
theorem d_X8_passes_119 : zDc M_X8_passes 119 (.iload_n 3) 1 120 := ⟨by decide +kernel, rfl⟩
theorem d_X8_passes_120 : zDc M_X8_passes 120 (.invokevirtual 383) 3 123 := ⟨by decide +kernel, rfl⟩
theorem d_X8_passes_123 : zDc M_X8_passes 123 (.aload_n 0) 1 124 := ⟨by decide +kernel, rfl⟩
theorem d_X8_passes_124 : zDc M_X8_passes 124 (.getfield 84) 3 127 := ⟨by decide +kernel, rfl⟩
theorem d_X8_passes_127 : zDc M_X8_passes 127 (.iload 4) 2 129 := ⟨by decide +kernel, rfl⟩
theorem d_X8_passes_129 : zDc M_X8_passes 129 (.bipush 20) 2 131 := ⟨by decide +kernel, rfl⟩
theorem d_X8_passes_131 : zDc M_X8_passes 131 (.aload_n 0) 1 132 := ⟨by decide +kernel, rfl⟩
theorem d_X8_passes_132 : zDc M_X8_passes 132 (.getfield 84) 3 135 := ⟨by decide +kernel, rfl⟩
theorem d_X8_passes_135 : zDc M_X8_passes 135 (.iload 4) 2 137 := ⟨by decide +kernel, rfl⟩
theorem d_X8_passes_137 : zDc M_X8_passes 137 (.iaload) 1 138 := ⟨by decide +kernel, rfl⟩
theorem d_X8_passes_138 : zDc M_X8_passes 138 (.aload_n 0) 1 139 := ⟨by decide +kernel, rfl⟩
theorem d_X8_passes_139 : zDc M_X8_passes 139 (.iconst 0) 1 140 := ⟨by decide +kernel, rfl⟩
theorem d_X8_passes_140 : zDc M_X8_passes 140 (.bipush 9) 2 142 := ⟨by decide +kernel, rfl⟩
theorem d_X8_passes_142 : zDc M_X8_passes 142 (.aload_n 0) 1 143 := ⟨by decide +kernel, rfl⟩
theorem d_X8_passes_143 : zDc M_X8_passes 143 (.aload_n 0) 1 144 := ⟨by decide +kernel, rfl⟩
theorem d_X8_passes_144 : zDc M_X8_passes 144 (.getfield 81) 3 147 := ⟨by decide +kernel, rfl⟩
theorem d_X8_passes_147 : zDc M_X8_passes 147 (.iload 4) 2 149 := ⟨by decide +kernel, rfl⟩
theorem d_X8_passes_149 : zDc M_X8_passes 149 (.iaload) 1 150 := ⟨by decide +kernel, rfl⟩
theorem d_X8_passes_150 : zDc M_X8_passes 150 (.invokevirtual 355) 3 153 := ⟨by decide +kernel, rfl⟩
theorem d_X8_passes_153 : zDc M_X8_passes 153 (.iconst 1) 1 154 := ⟨by decide +kernel, rfl⟩
theorem d_X8_passes_154 : zDj M_X8_passes 154 (.if_icmp .ne 7) 7 157 161 := ⟨by decide +kernel, rfl, by decide⟩
theorem d_X8_passes_157 : zDc M_X8_passes 157 (.iconst 1) 1 158 := ⟨by decide +kernel, rfl⟩
theorem d_X8_passes_158 : zDj M_X8_passes 158 (.goto 4) 4 161 162 := ⟨by decide +kernel, rfl, by decide⟩
theorem d_X8_passes_161 : zDc M_X8_passes 161 (.iconst 0) 1 162 := ⟨by decide +kernel, rfl⟩
theorem d_X8_passes_162 : zDc M_X8_passes 162 (.invokevirtual 386) 3 165 := ⟨by decide +kernel, rfl⟩
theorem d_X8_passes_165 : zDc M_X8_passes 165 (.iadd) 1 166 := ⟨by decide +kernel, rfl⟩
theorem d_X8_passes_166 : zDc M_X8_passes 166 (.invokestatic 381) 3 169 := ⟨by decide +kernel, rfl⟩
theorem d_X8_passes_169 : zDc M_X8_passes 169 (.iastore) 1 170 := ⟨by decide +kernel, rfl⟩
theorem d_X8_passes_170 : zDc M_X8_passes 170 (.iinc 3 1) 3 173 := ⟨by decide +kernel, rfl⟩
theorem d_X8_passes_173 : zDj M_X8_passes 173 (.goto (-86)) (-86) 176 87 := ⟨by decide +kernel, rfl, by decide⟩
theorem d_X8_passes_176 : zDc M_X8_passes 176 (.aload_n 0) 1 177 := ⟨by decide +kernel, rfl⟩
theorem d_X8_passes_177 : zDc M_X8_passes 177 (.iload_n 1) 1 178 := ⟨by decide +kernel, rfl⟩
theorem d_X8_passes_178 : zDc M_X8_passes 178 (.invokevirtual 404) 3 181 := ⟨by decide +kernel, rfl⟩
theorem d_X8_passes_181 : zDc M_X8_passes 181 (.iconst 0) 1 182 := ⟨by decide +kernel, rfl⟩
theorem d_X8_passes_182 : zDc M_X8_passes 182 (.istore_n 3) 1 183 := ⟨by decide +kernel, rfl⟩
theorem d_X8_passes_183 : zDc M_X8_passes 183 (.iload_n 3) 1 184 := ⟨by decide +kernel, rfl⟩
theorem d_X8_passes_184 : zDc M_X8_passes 184 (.aload_n 0) 1 185 := ⟨by decide +kernel, rfl⟩
theorem d_X8_passes_185 : zDc M_X8_passes 185 (.getfield 13) 3 188 := ⟨by decide +kernel, rfl⟩
theorem d_X8_passes_188 : zDc M_X8_passes 188 (.iconst 1) 1 189 := ⟨by decide +kernel, rfl⟩
theorem d_X8_passes_189 : zDc M_X8_passes 189 (.iaload) 1 190 := ⟨by decide +kernel, rfl⟩
theorem d_X8_passes_190 : zDj M_X8_passes 190 (.if_icmp .ge 24) 24 193 214 := ⟨by decide +kernel, rfl, by decide⟩
theorem d_X8_passes_193 : zDc M_X8_passes 193 (.aload_n 0) 1 194 := ⟨by decide +kernel, rfl⟩
theorem d_X8_passes_194 : zDc M_X8_passes 194 (.iload_n 1) 1 195 := ⟨by decide +kernel, rfl⟩
theorem d_X8_passes_195 : zDc M_X8_passes 195 (.iload_n 3) 1 196 := ⟨by decide +kernel, rfl⟩
theorem d_X8_passes_196 : zDc M_X8_passes 196 (.invokevirtual 351) 3 199 := ⟨by decide +kernel, rfl⟩
theorem d_X8_passes_199 : zDj M_X8_passes 199 (.ifCond .eq 9) 9 202 208 := ⟨by decide +kernel, rfl, by decide⟩
theorem d_X8_passes_202 : zDc M_X8_passes 202 (.aload_n 0) 1 203 := ⟨by decide +kernel, rfl⟩
theorem d_X8_passes_203 : zDc M_X8_passes 203 (.iload_n 1) 1 204 := ⟨by decide +kernel, rfl⟩
theorem d_X8_passes_204 : zDc M_X8_passes 204 (.iload_n 3) 1 205 := ⟨by decide +kernel, rfl⟩
theorem d_X8_passes_205 : zDc M_X8_passes 205 (.invokevirtual 407) 3 208 := ⟨by decide +kernel, rfl⟩
theorem d_X8_passes_208 : zDc M_X8_passes 208 (.iinc 3 1) 3 211 := ⟨by decide +kernel, rfl⟩
theorem d_X8_passes_211 : zDj M_X8_passes 211 (.goto (-28)) (-28) 214 183 := ⟨by decide +kernel, rfl, by decide⟩
theorem d_X8_passes_214 : zDc M_X8_passes 214 (.iconst 0) 1 215 := ⟨by decide +kernel, rfl⟩
theorem d_X8_passes_215 : zDc M_X8_passes 215 (.istore_n 3) 1 216 := ⟨by decide +kernel, rfl⟩
theorem d_X8_passes_216 : zDc M_X8_passes 216 (.iload_n 3) 1 217 := ⟨by decide +kernel, rfl⟩
theorem d_X8_passes_217 : zDc M_X8_passes 217 (.aload_n 0) 1 218 := ⟨by decide +kernel, rfl⟩
theorem d_X8_passes_218 : zDc M_X8_passes 218 (.getfield 13) 3 221 := ⟨by decide +kernel, rfl⟩
theorem d_X8_passes_221 : zDc M_X8_passes 221 (.iconst 1) 1 222 := ⟨by decide +kernel, rfl⟩
theorem d_X8_passes_222 : zDc M_X8_passes 222 (.iaload) 1 223 := ⟨by decide +kernel, rfl⟩
theorem d_X8_passes_223 : zDj M_X8_passes 223 (.if_icmp .ge 39) 39 226 262 := ⟨by decide +kernel, rfl, by decide⟩
theorem d_X8_passes_226 : zDc M_X8_passes 226 (.aload_n 0) 1 227 := ⟨by decide +kernel, rfl⟩
theorem d_X8_passes_227 : zDc M_X8_passes 227 (.iload_n 1) 1 228 := ⟨by decide +kernel, rfl⟩
theorem d_X8_passes_228 : zDc M_X8_passes 228 (.iload_n 3) 1 229 := ⟨by decide +kernel, rfl⟩
theorem d_X8_passes_229 : zDc M_X8_passes 229 (.invokevirtual 351) 3 232 := ⟨by decide +kernel, rfl⟩
theorem d_X8_passes_232 : zDj M_X8_passes 232 (.ifCond .eq 24) 24 235 256 := ⟨by decide +kernel, rfl, by decide⟩
theorem d_X8_passes_235 : zDc M_X8_passes 235 (.aload_n 0) 1 236 := ⟨by decide +kernel, rfl⟩
theorem d_X8_passes_236 : zDc M_X8_passes 236 (.getfield 90) 3 239 := ⟨by decide +kernel, rfl⟩
theorem d_X8_passes_239 : zDc M_X8_passes 239 (.bipush 8) 2 241 := ⟨by decide +kernel, rfl⟩
theorem d_X8_passes_241 : zDc M_X8_passes 241 (.iload_n 1) 1 242 := ⟨by decide +kernel, rfl⟩
theorem d_X8_passes_242 : zDc M_X8_passes 242 (.imul) 1 243 := ⟨by decide +kernel, rfl⟩
theorem d_X8_passes_243 : zDc M_X8_passes 243 (.iload_n 3) 1 244 := ⟨by decide +kernel, rfl⟩
theorem d_X8_passes_244 : zDc M_X8_passes 244 (.iadd) 1 245 := ⟨by decide +kernel, rfl⟩
theorem d_X8_passes_245 : zDc M_X8_passes 245 (.iaload) 1 246 := ⟨by decide +kernel, rfl⟩
theorem d_X8_passes_246 : zDc M_X8_passes 246 (.iconst (-1)) 1 247 := ⟨by decide +kernel, rfl⟩
theorem d_X8_passes_247 : zDj M_X8_passes 247 (.if_icmp .ne 9) 9 250 256 := ⟨by decide +kernel, rfl, by decide⟩
theorem d_X8_passes_250 : zDc M_X8_passes 250 (.aload_n 0) 1 251 := ⟨by decide +kernel, rfl⟩
theorem d_X8_passes_251 : zDc M_X8_passes 251 (.iload_n 1) 1 252 := ⟨by decide +kernel, rfl⟩
theorem d_X8_passes_252 : zDc M_X8_passes 252 (.iload_n 3) 1 253 := ⟨by decide +kernel, rfl⟩
theorem d_X8_passes_253 : zDc M_X8_passes 253 (.invokevirtual 410) 3 256 := ⟨by decide +kernel, rfl⟩
theorem d_X8_passes_256 : zDc M_X8_passes 256 (.iinc 3 1) 3 259 := ⟨by decide +kernel, rfl⟩
theorem d_X8_passes_259 : zDj M_X8_passes 259 (.goto (-43)) (-43) 262 216 := ⟨by decide +kernel, rfl, by decide⟩
theorem d_X8_passes_262 : zDc M_X8_passes 262 (.aload_n 0) 1 263 := ⟨by decide +kernel, rfl⟩
theorem d_X8_passes_263 : zDc M_X8_passes 263 (.iload_n 1) 1 264 := ⟨by decide +kernel, rfl⟩
theorem d_X8_passes_264 : zDc M_X8_passes 264 (.invokevirtual 413) 3 267 := ⟨by decide +kernel, rfl⟩
theorem d_X8_passes_267 : zDc M_X8_passes 267 (.iconst 0) 1 268 := ⟨by decide +kernel, rfl⟩
theorem d_X8_passes_268 : zDc M_X8_passes 268 (.istore_n 3) 1 269 := ⟨by decide +kernel, rfl⟩
theorem d_X8_passes_269 : zDc M_X8_passes 269 (.iload_n 3) 1 270 := ⟨by decide +kernel, rfl⟩
theorem d_X8_passes_270 : zDc M_X8_passes 270 (.aload_n 0) 1 271 := ⟨by decide +kernel, rfl⟩
theorem d_X8_passes_271 : zDc M_X8_passes 271 (.getfield 13) 3 274 := ⟨by decide +kernel, rfl⟩
theorem d_X8_passes_274 : zDc M_X8_passes 274 (.iconst 1) 1 275 := ⟨by decide +kernel, rfl⟩
theorem d_X8_passes_275 : zDc M_X8_passes 275 (.iaload) 1 276 := ⟨by decide +kernel, rfl⟩
theorem d_X8_passes_276 : zDj M_X8_passes 276 (.if_icmp .ge 33) 33 279 309 := ⟨by decide +kernel, rfl, by decide⟩
theorem d_X8_passes_279 : zDc M_X8_passes 279 (.aload_n 0) 1 280 := ⟨by decide +kernel, rfl⟩
theorem d_X8_passes_280 : zDc M_X8_passes 280 (.iload_n 1) 1 281 := ⟨by decide +kernel, rfl⟩
theorem d_X8_passes_281 : zDc M_X8_passes 281 (.iload_n 3) 1 282 := ⟨by decide +kernel, rfl⟩
theorem d_X8_passes_282 : zDc M_X8_passes 282 (.invokevirtual 351) 3 285 := ⟨by decide +kernel, rfl⟩
theorem d_X8_passes_285 : zDj M_X8_passes 285 (.ifCond .eq 18) 18 288 303 := ⟨by decide +kernel, rfl, by decide⟩
theorem d_X8_passes_288 : zDc M_X8_passes 288 (.aload_n 0) 1 289 := ⟨by decide +kernel, rfl⟩
theorem d_X8_passes_289 : zDc M_X8_passes 289 (.getfield 87) 3 292 := ⟨by decide +kernel, rfl⟩
theorem d_X8_passes_292 : zDc M_X8_passes 292 (.bipush 8) 2 294 := ⟨by decide +kernel, rfl⟩
theorem d_X8_passes_294 : zDc M_X8_passes 294 (.iload_n 1) 1 295 := ⟨by decide +kernel, rfl⟩
theorem d_X8_passes_295 : zDc M_X8_passes 295 (.imul) 1 296 := ⟨by decide +kernel, rfl⟩
theorem d_X8_passes_296 : zDc M_X8_passes 296 (.iload_n 3) 1 297 := ⟨by decide +kernel, rfl⟩
theorem d_X8_passes_297 : zDc M_X8_passes 297 (.iadd) 1 298 := ⟨by decide +kernel, rfl⟩
theorem d_X8_passes_298 : zDc M_X8_passes 298 (.dup2) 1 299 := ⟨by decide +kernel, rfl⟩
theorem d_X8_passes_299 : zDc M_X8_passes 299 (.iaload) 1 300 := ⟨by decide +kernel, rfl⟩
theorem d_X8_passes_300 : zDc M_X8_passes 300 (.iconst 1) 1 301 := ⟨by decide +kernel, rfl⟩
theorem d_X8_passes_301 : zDc M_X8_passes 301 (.iadd) 1 302 := ⟨by decide +kernel, rfl⟩
theorem d_X8_passes_302 : zDc M_X8_passes 302 (.iastore) 1 303 := ⟨by decide +kernel, rfl⟩
theorem d_X8_passes_303 : zDc M_X8_passes 303 (.iinc 3 1) 3 306 := ⟨by decide +kernel, rfl⟩
theorem d_X8_passes_306 : zDj M_X8_passes 306 (.goto (-37)) (-37) 309 269 := ⟨by decide +kernel, rfl, by decide⟩
theorem d_X8_passes_309 : zDc M_X8_passes 309 (.aload_n 0) 1 310 := ⟨by decide +kernel, rfl⟩
theorem d_X8_passes_310 : zDc M_X8_passes 310 (.getfield 75) 3 313 := ⟨by decide +kernel, rfl⟩
theorem d_X8_passes_313 : zDc M_X8_passes 313 (.iload_n 1) 1 314 := ⟨by decide +kernel, rfl⟩
theorem d_X8_passes_314 : zDc M_X8_passes 314 (.dup2) 1 315 := ⟨by decide +kernel, rfl⟩
theorem d_X8_passes_315 : zDc M_X8_passes 315 (.iaload) 1 316 := ⟨by decide +kernel, rfl⟩
theorem d_X8_passes_316 : zDc M_X8_passes 316 (.iconst 1) 1 317 := ⟨by decide +kernel, rfl⟩
theorem d_X8_passes_317 : zDc M_X8_passes 317 (.iadd) 1 318 := ⟨by decide +kernel, rfl⟩
theorem d_X8_passes_318 : zDc M_X8_passes 318 (.iastore) 1 319 := ⟨by decide +kernel, rfl⟩
theorem d_X8_passes_319 : zDc M_X8_passes 319 (.return_) 1 320 := ⟨by decide +kernel, rfl⟩
def f_X8_passes (a0 : Nat) (a1 : Int32) (h0 : zHp) : Option (Unit × zHp) :=
  zbd (zcv 8 a0 h0 (f_X8_windIn a0 a1 h0)) (fun v2 h1 =>
  zbd (
  zlp (σ := Int32) (β := Int32) zLF (fun s3 h4 =>
  zob (zgR h4 a0 8 3) (fun v7 =>
  zob (zaI 0 h4 v7 1) (fun v8 =>
  if v8 ≤ s3 then
  some ((.inr s3), h4)
  else
  zob (zgR h4 a0 8 11) (fun v9 =>
  zob (zaI 0 h4 v9 s3) (fun v10 =>
  zob (zgR h4 a0 8 36) (fun v11 =>
  zob (zaI 0 h4 v11 a1) (fun v12 =>
  zbd (α := Unit) (
  if v10 = v12 then
  zob (zgR h4 a0 8 42) (fun v13 =>
  zob (zaI 0 h4 v13 ((8 * a1) + s3)) (fun v14 =>
  if v14 = 0 then
  zob (zgR h4 a0 8 42) (fun v15 =>
  zob (zsI 0 h4 v15 ((8 * a1) + s3) 1) (fun h16 =>
  some ((), h16)))
  else
  some ((), h4)))
  else
  some ((), h4)) (fun e17 h18 =>
  zbd (zcv 8 a0 h18 (f_X8_isUp a0 a1 s3 h18)) (fun v20 h19 =>
  if v20 = 0 then
  some ((.inl (s3 + 1)), h19)
  else
  if v2 ≤ 0 then
  some ((.inl (s3 + 1)), h19)
  else
  zbd (zcv 8 a0 h19 (f_X8_drifts a0 a1 s3 v2 h19)) (fun v22 h21 =>
  some ((.inl (s3 + 1)), h21))))))))))) 0 h1) (fun e5 h6 =>
  zbd (
  zlp (σ := Int32) (β := Int32) zLF (fun s23 h24 =>
  zob (zgR h24 a0 8 3) (fun v27 =>
  zob (zaI 0 h24 v27 1) (fun v28 =>
  if v28 ≤ s23 then
  some ((.inr s23), h24)
  else
  zbd (zcv 8 a0 h24 (f_X8_isUp a0 a1 s23 h24)) (fun v30 h29 =>
  if v30 = 0 then
  some ((.inl (s23 + 1)), h29)
  else
  zbd (zcv 8 a0 h29 (f_X8_calls a0 a1 s23 h29)) (fun v32 h31 =>
  zob (zgR h31 a0 8 39) (fun v33 =>
  zob (zgR h31 a0 8 39) (fun v34 =>
  zob (zaI 0 h31 v34 ((8 * a1) + s23)) (fun v35 =>
  zob (zgR h31 a0 8 38) (fun v36 =>
  zob (zaI 0 h31 v36 ((8 * a1) + s23)) (fun v37 =>
  zbd (zcv 8 a0 h31 (f_X8_groundIn a0 v37 h31)) (fun v39 h38 =>
  zbd (α := Int32) (
  if v39 = 1 then
  some (1, h38)
  else
  some (0, h38)) (fun e40 h41 =>
  zbd (zcv 8 a0 h41 (f_X8_within a0 0 9 e40 h41)) (fun v43 h42 =>
  zob (zsI 0 h42 v33 ((8 * a1) + s23) (zmn 20 (v35 + v43))) (fun h44 =>
  some ((.inl (s23 + 1)), h44))))))))))))))) 0 h6) (fun e25 h26 =>
  zbd (zcv 8 a0 h26 (f_X8_joins a0 a1 h26)) (fun v46 h45 =>
  zbd (
  zlp (σ := Int32) (β := Int32) zLF (fun s47 h48 =>
  zob (zgR h48 a0 8 3) (fun v51 =>
  zob (zaI 0 h48 v51 1) (fun v52 =>
  if v52 ≤ s47 then
  some ((.inr s47), h48)
  else
  zbd (zcv 8 a0 h48 (f_X8_isUp a0 a1 s47 h48)) (fun v54 h53 =>
  if v54 = 0 then
  some ((.inl (s47 + 1)), h53)
  else
  zbd (zcv 8 a0 h53 (f_X8_falls a0 a1 s47 h53)) (fun v56 h55 =>
  some ((.inl (s47 + 1)), h55)))))) 0 h45) (fun e49 h50 =>
  zbd (
  zlp (σ := Int32) (β := Int32) zLF (fun s57 h58 =>
  zob (zgR h58 a0 8 3) (fun v61 =>
  zob (zaI 0 h58 v61 1) (fun v62 =>
  if v62 ≤ s57 then
  some ((.inr s57), h58)
  else
  zbd (zcv 8 a0 h58 (f_X8_isUp a0 a1 s57 h58)) (fun v64 h63 =>
  if v64 = 0 then
  some ((.inl (s57 + 1)), h63)
  else
  zob (zgR h63 a0 8 41) (fun v65 =>
  zob (zaI 0 h63 v65 ((8 * a1) + s57)) (fun v66 =>
  if v66 = (-1) then
  zbd (zcv 8 a0 h63 (f_X8_isGiven a0 a1 s57 h63)) (fun v68 h67 =>
  some ((.inl (s57 + 1)), h67))
  else
  some ((.inl (s57 + 1)), h63))))))) 0 h50) (fun e59 h60 =>
  zbd (zcv 8 a0 h60 (f_X8_marks a0 a1 h60)) (fun v70 h69 =>
  zbd (
  zlp (σ := Int32) (β := Int32) zLF (fun s71 h72 =>
  zob (zgR h72 a0 8 3) (fun v75 =>
  zob (zaI 0 h72 v75 1) (fun v76 =>
  if v76 ≤ s71 then
  some ((.inr s71), h72)
  else
  zbd (zcv 8 a0 h72 (f_X8_isUp a0 a1 s71 h72)) (fun v78 h77 =>
  if v78 = 0 then
  some ((.inl (s71 + 1)), h77)
  else
  zob (zgR h77 a0 8 40) (fun v79 =>
  zob (zaI 0 h77 v79 ((8 * a1) + s71)) (fun v80 =>
  zob (zsI 0 h77 v79 ((8 * a1) + s71) (v80 + 1)) (fun h81 =>
  some ((.inl (s71 + 1)), h81)))))))) 0 h69) (fun e73 h74 =>
  zob (zgR h74 a0 8 36) (fun v82 =>
  zob (zaI 0 h74 v82 a1) (fun v83 =>
  zob (zsI 0 h74 v82 a1 (v83 + 1)) (fun h84 =>
  some ((), h84))))))))))))
set_option maxRecDepth 100000 in
set_option maxHeartbeats 4000000 in
theorem t_X8_passes (a0 : Nat) (a1 : Int32) (h0 : zHp) : ∀ (r : Unit) (h' : zHp), f_X8_passes a0 a1 h0 = some (r, h') → zCt yX8_passes (.code yX8_passes cX8_passes 5 none) 6 177 0 0 [.ref a0, .int a1] h0 (none) h' := by
  refine zct_of M_X8_passes yX8_passes (by decide) rfl rfl [.ref a0, .int a1] h0 (Nat.le_of_ble_eq_true rfl) (fun _ => none) (fun X => ?_)
  show zG X M_X8_passes (0, 0) 0 [(0, .ref a0), (1, .int a1)] [] h0 (f_X8_passes a0 a1 h0) (fun (_ : Unit) h' => zKe X (none) h')
  unfold f_X8_passes
  refine zg_aload_n 0 rfl d_X8_passes_0 ?_
  refine zg_iload_n 1 rfl d_X8_passes_1 ?_
  refine zg_cVi (b := a0) (As := [.int a1]) (rest := []) (0, 0) d_X8_passes_2 zc_8 rfl cw_X8_397 wi_X8_windIn ws_X8_windIn rfl rfl (Nat.le_of_ble_eq_true rfl) (by decide) (by decide) ⟨by decide, by decide⟩ rfl (t_X8_windIn a0 a1 h0) (fun v2 h1 => ?_)
  refine zg_istore_n [(2, .int v2), (0, .ref a0), (1, .int a1)] d_X8_passes_5 rfl (by decide) rfl ?_
  refine zg_iconst 0 rfl d_X8_passes_6 ?_
  refine zg_istore_n [(3, .int 0), (2, .int v2), (0, .ref a0), (1, .int a1)] d_X8_passes_7 rfl (by decide) rfl ?_
  refine zg_bd (E := 85) (el := (fun (e5 : Int32) => [(0, .ref a0), (1, .int a1), (2, .int v2), (3, .int e5)])) (es := fun _ => []) (zg_sub [2, 3, 1, 0] rfl (zg_lp (el := (fun (s3 : Int32) => [(0, .ref a0), (1, .int a1), (2, .int v2), (3, .int s3)])) (fun s3 h4 => ?_) 0 h1)) (fun e5 h6 => ?_)
  · refine zg_iload_n 3 rfl d_X8_passes_8 ?_
    refine zg_aload_n 0 rfl d_X8_passes_9 ?_
    refine zg_getR d_X8_passes_10 zc_8 (by decide) fl_X8_13 (fun v7 => ?_)
    refine zg_iconst 1 rfl d_X8_passes_13 ?_
    refine zg_ald0 d_X8_passes_14 (fun v8 => ?_)
    refine zg_icmp_ge d_X8_passes_15 ?_ ?_
    · exact zg_finK (E := 0) [0, 1, 2, 3] rfl rfl (fun q => q)
    · refine zg_bipush 8 rfl d_X8_passes_18 ?_
      refine zg_iload_n 1 rfl d_X8_passes_20 ?_
      refine zg_imul d_X8_passes_21 ?_
      refine zg_iload_n 3 rfl d_X8_passes_22 ?_
      refine zg_iadd d_X8_passes_23 ?_
      refine zg_istore [(4, .int ((8 * a1) + s3)), (0, .ref a0), (1, .int a1), (2, .int v2), (3, .int s3)] d_X8_passes_24 (by decide) rfl ?_
      refine zg_aload_n 1 rfl d_X8_passes_26 ?_
      refine zg_getR d_X8_passes_27 zc_8 (by decide) fl_X8_37 (fun v9 => ?_)
      refine zg_iload_n 4 rfl d_X8_passes_30 ?_
      refine zg_ald0 d_X8_passes_31 (fun v10 => ?_)
      refine zg_aload_n 1 rfl d_X8_passes_32 ?_
      refine zg_getR d_X8_passes_33 zc_8 (by decide) fl_X8_75 (fun v11 => ?_)
      refine zg_iload_n 2 rfl d_X8_passes_36 ?_
      refine zg_ald0 d_X8_passes_37 (fun v12 => ?_)
      refine zg_bd (E := 59) (el := (fun (e17 : Unit) => [(0, .ref a0), (1, .int a1), (2, .int v2), (3, .int s3), (4, .int ((8 * a1) + s3))])) (es := (fun (e17 : Unit) => [])) ?_ (fun e17 h18 => ?_)
      · refine zg_icmp_ne d_X8_passes_38 ?_ ?_
        · refine zg_aload_n 1 rfl d_X8_passes_41 ?_
          refine zg_getR d_X8_passes_42 zc_8 (by decide) fl_X8_93 (fun v13 => ?_)
          refine zg_iload 0 rfl d_X8_passes_45 ?_
          refine zg_ald0 d_X8_passes_47 (fun v14 => ?_)
          refine zg_if_ne d_X8_passes_48 ?_ ?_
          · refine zg_aload_n 1 rfl d_X8_passes_51 ?_
            refine zg_getR d_X8_passes_52 zc_8 (by decide) fl_X8_93 (fun v15 => ?_)
            refine zg_iload 0 rfl d_X8_passes_55 ?_
            refine zg_iconst 1 rfl d_X8_passes_57 ?_
            refine zg_ast0 d_X8_passes_58 (fun h16 => ?_)
            exact zg_finK (E := 0) [1, 2, 3, 4, 0] rfl rfl (fun q => q)
          · exact zg_finK (E := 0) [1, 2, 3, 4, 0] rfl rfl (fun q => q)
        · exact zg_finK (E := 0) [1, 2, 3, 4, 0] rfl rfl (fun q => q)
      · refine zg_aload_n 0 rfl d_X8_passes_59 ?_
        refine zg_iload_n 1 rfl d_X8_passes_60 ?_
        refine zg_iload_n 3 rfl d_X8_passes_61 ?_
        refine zg_cVi (b := a0) (As := [.int a1, .int s3]) (rest := []) (0, 0) d_X8_passes_62 zc_8 rfl cw_X8_351 wi_X8_isUp ws_X8_isUp rfl rfl (Nat.le_of_ble_eq_true rfl) (by decide) (by decide) ⟨by decide, by decide⟩ rfl (t_X8_isUp a0 a1 s3 h18) (fun v20 h19 => ?_)
        refine zg_if_eq d_X8_passes_65 ?_ ?_
        · refine zg_iinc 3 (s3 + 1) [(3, .int (s3 + 1)), (0, .ref a0), (1, .int a1), (2, .int v2), (4, .int ((8 * a1) + s3))] d_X8_passes_79 rfl rfl (by decide) rfl ?_
          refine zg_goto d_X8_passes_82 ?_
          exact zg_finK (E := 0) [1, 2, 3, 0] rfl rfl (fun q => q)
        · refine zg_iload_n 2 rfl d_X8_passes_68 ?_
          refine zg_if_le d_X8_passes_69 ?_ ?_
          · refine zg_iinc 3 (s3 + 1) [(3, .int (s3 + 1)), (0, .ref a0), (1, .int a1), (2, .int v2), (4, .int ((8 * a1) + s3))] d_X8_passes_79 rfl rfl (by decide) rfl ?_
            refine zg_goto d_X8_passes_82 ?_
            exact zg_finK (E := 0) [1, 2, 3, 0] rfl rfl (fun q => q)
          · refine zg_aload_n 0 rfl d_X8_passes_72 ?_
            refine zg_iload_n 1 rfl d_X8_passes_73 ?_
            refine zg_iload_n 3 rfl d_X8_passes_74 ?_
            refine zg_iload_n 2 rfl d_X8_passes_75 ?_
            refine zg_cVv (b := a0) (As := [.int a1, .int s3, .int v2]) (rest := []) (0, 0) d_X8_passes_76 zc_8 rfl cw_X8_400 wi_X8_drifts ws_X8_drifts rfl rfl (Nat.le_of_ble_eq_true rfl) (by decide) (by decide) ⟨by decide, by decide⟩ rfl (t_X8_drifts a0 a1 s3 v2 h19) (fun v22 h21 => ?_)
            refine zg_iinc 3 (s3 + 1) [(3, .int (s3 + 1)), (0, .ref a0), (1, .int a1), (2, .int v2), (4, .int ((8 * a1) + s3))] d_X8_passes_79 rfl rfl (by decide) rfl ?_
            refine zg_goto d_X8_passes_82 ?_
            exact zg_finK (E := 0) [1, 2, 3, 0] rfl rfl (fun q => q)
  · refine zg_iconst 0 rfl d_X8_passes_85 ?_
    refine zg_istore_n [(3, .int 0), (0, .ref a0), (1, .int a1), (2, .int v2)] d_X8_passes_86 rfl (by decide) rfl ?_
    refine zg_bd (E := 176) (el := (fun (e25 : Int32) => [(0, .ref a0), (1, .int a1), (2, .int v2), (3, .int e25)])) (es := fun _ => []) (zg_sub [1, 2, 3, 0] rfl (zg_lp (el := (fun (s23 : Int32) => [(0, .ref a0), (1, .int a1), (2, .int v2), (3, .int s23)])) (fun s23 h24 => ?_) 0 h6)) (fun e25 h26 => ?_)
    · refine zg_iload_n 3 rfl d_X8_passes_87 ?_
      refine zg_aload_n 0 rfl d_X8_passes_88 ?_
      refine zg_getR d_X8_passes_89 zc_8 (by decide) fl_X8_13 (fun v27 => ?_)
      refine zg_iconst 1 rfl d_X8_passes_92 ?_
      refine zg_ald0 d_X8_passes_93 (fun v28 => ?_)
      refine zg_icmp_ge d_X8_passes_94 ?_ ?_
      · exact zg_finK (E := 0) [0, 1, 2, 3] rfl rfl (fun q => q)
      · refine zg_aload_n 0 rfl d_X8_passes_97 ?_
        refine zg_iload_n 1 rfl d_X8_passes_98 ?_
        refine zg_iload_n 3 rfl d_X8_passes_99 ?_
        refine zg_cVi (b := a0) (As := [.int a1, .int s23]) (rest := []) (0, 0) d_X8_passes_100 zc_8 rfl cw_X8_351 wi_X8_isUp ws_X8_isUp rfl rfl (Nat.le_of_ble_eq_true rfl) (by decide) (by decide) ⟨by decide, by decide⟩ rfl (t_X8_isUp a0 a1 s23 h24) (fun v30 h29 => ?_)
        refine zg_if_ne d_X8_passes_103 ?_ ?_
        · refine zg_goto d_X8_passes_106 ?_
          refine zg_iinc 3 (s23 + 1) [(3, .int (s23 + 1)), (0, .ref a0), (1, .int a1), (2, .int v2)] d_X8_passes_170 rfl rfl (by decide) rfl ?_
          refine zg_goto d_X8_passes_173 ?_
          exact zg_finK (E := 0) [1, 2, 3, 0] rfl rfl (fun q => q)
        · refine zg_bipush 8 rfl d_X8_passes_109 ?_
          refine zg_iload_n 1 rfl d_X8_passes_111 ?_
          refine zg_imul d_X8_passes_112 ?_
          refine zg_iload_n 3 rfl d_X8_passes_113 ?_
          refine zg_iadd d_X8_passes_114 ?_
          refine zg_istore [(4, .int ((8 * a1) + s23)), (0, .ref a0), (1, .int a1), (2, .int v2), (3, .int s23)] d_X8_passes_115 (by decide) rfl ?_
          refine zg_aload_n 1 rfl d_X8_passes_117 ?_
          refine zg_iload_n 2 rfl d_X8_passes_118 ?_
          refine zg_iload_n 4 rfl d_X8_passes_119 ?_
          refine zg_cVv (b := a0) (As := [.int a1, .int s23]) (rest := []) (0, 0) d_X8_passes_120 zc_8 rfl cw_X8_383 wi_X8_calls ws_X8_calls rfl rfl (Nat.le_of_ble_eq_true rfl) (by decide) (by decide) ⟨by decide, by decide⟩ rfl (t_X8_calls a0 a1 s23 h29) (fun v32 h31 => ?_)
          refine zg_aload_n 1 rfl d_X8_passes_123 ?_
          refine zg_getR d_X8_passes_124 zc_8 (by decide) fl_X8_84 (fun v33 => ?_)
          refine zg_iload 0 rfl d_X8_passes_127 ?_
          refine zg_bipush 20 rfl d_X8_passes_129 ?_
          refine zg_aload_n 1 rfl d_X8_passes_131 ?_
          refine zg_getR d_X8_passes_132 zc_8 (by decide) fl_X8_84 (fun v34 => ?_)
          refine zg_iload 0 rfl d_X8_passes_135 ?_
          refine zg_ald0 d_X8_passes_137 (fun v35 => ?_)
          refine zg_aload_n 1 rfl d_X8_passes_138 ?_
          refine zg_iconst 0 rfl d_X8_passes_139 ?_
          refine zg_bipush 9 rfl d_X8_passes_140 ?_
          refine zg_aload_n 1 rfl d_X8_passes_142 ?_
          refine zg_aload_n 1 rfl d_X8_passes_143 ?_
          refine zg_getR d_X8_passes_144 zc_8 (by decide) fl_X8_81 (fun v36 => ?_)
          refine zg_iload 0 rfl d_X8_passes_147 ?_
          refine zg_ald0 d_X8_passes_149 (fun v37 => ?_)
          refine zg_cVi (b := a0) (As := [.int v37]) (rest := [.int 9, .int 0, .ref a0, .int v35, .int 20, .int ((8 * a1) + s23), .ref v33]) (0, 0) d_X8_passes_150 zc_8 rfl cw_X8_355 wi_X8_groundIn ws_X8_groundIn rfl rfl (Nat.le_of_ble_eq_true rfl) (by decide) (by decide) ⟨by decide, by decide⟩ rfl (t_X8_groundIn a0 v37 h31) (fun v39 h38 => ?_)
          refine zg_iconst 1 rfl d_X8_passes_153 ?_
          refine zg_bd (E := 162) (el := (fun (e40 : Int32) => [(0, .ref a0), (1, .int a1), (2, .int v2), (3, .int s23), (4, .int ((8 * a1) + s23))])) (es := (fun (e40 : Int32) => [.int e40, .int 9, .int 0, .ref a0, .int v35, .int 20, .int ((8 * a1) + s23), .ref v33])) ?_ (fun e40 h41 => ?_)
          · refine zg_icmp_ne d_X8_passes_154 ?_ ?_
            · refine zg_iconst 1 rfl d_X8_passes_157 ?_
              refine zg_goto d_X8_passes_158 ?_
              exact zg_finK (E := 0) [1, 2, 3, 4, 0] rfl rfl (fun q => q)
            · refine zg_iconst 0 rfl d_X8_passes_161 ?_
              exact zg_finK (E := 0) [1, 2, 3, 4, 0] rfl rfl (fun q => q)
          · refine zg_cVi (b := a0) (As := [.int 0, .int 9, .int e40]) (rest := [.int v35, .int 20, .int ((8 * a1) + s23), .ref v33]) (0, 0) d_X8_passes_162 zc_8 rfl cw_X8_386 wi_X8_within ws_X8_within rfl rfl (Nat.le_of_ble_eq_true rfl) (by decide) (by decide) ⟨by decide, by decide⟩ rfl (t_X8_within a0 0 9 e40 h41) (fun v43 h42 => ?_)
            refine zg_iadd d_X8_passes_165 ?_
            refine zg_mmin d_X8_passes_166 ml_X8_381 (by decide) (Nat.le_of_ble_eq_true rfl) ⟨Nat.le_of_ble_eq_true rfl, Nat.le_of_ble_eq_true rfl⟩ ?_
            refine zg_ast0 d_X8_passes_169 (fun h44 => ?_)
            refine zg_iinc 3 (s23 + 1) [(3, .int (s23 + 1)), (0, .ref a0), (1, .int a1), (2, .int v2), (4, .int ((8 * a1) + s23))] d_X8_passes_170 rfl rfl (by decide) rfl ?_
            refine zg_goto d_X8_passes_173 ?_
            exact zg_finK (E := 0) [1, 2, 3, 0] rfl rfl (fun q => q)
    · refine zg_aload_n 0 rfl d_X8_passes_176 ?_
      refine zg_iload_n 1 rfl d_X8_passes_177 ?_
      refine zg_cVv (b := a0) (As := [.int a1]) (rest := []) (0, 0) d_X8_passes_178 zc_8 rfl cw_X8_404 wi_X8_joins ws_X8_joins rfl rfl (Nat.le_of_ble_eq_true rfl) (by decide) (by decide) ⟨by decide, by decide⟩ rfl (t_X8_joins a0 a1 h26) (fun v46 h45 => ?_)
      refine zg_iconst 0 rfl d_X8_passes_181 ?_
      refine zg_istore_n [(3, .int 0), (0, .ref a0), (1, .int a1), (2, .int v2)] d_X8_passes_182 rfl (by decide) rfl ?_
      refine zg_bd (E := 214) (el := (fun (e49 : Int32) => [(0, .ref a0), (1, .int a1), (2, .int v2), (3, .int e49)])) (es := fun _ => []) (zg_sub [1, 2, 3, 0] rfl (zg_lp (el := (fun (s47 : Int32) => [(0, .ref a0), (1, .int a1), (2, .int v2), (3, .int s47)])) (fun s47 h48 => ?_) 0 h45)) (fun e49 h50 => ?_)
      · refine zg_iload_n 3 rfl d_X8_passes_183 ?_
        refine zg_aload_n 0 rfl d_X8_passes_184 ?_
        refine zg_getR d_X8_passes_185 zc_8 (by decide) fl_X8_13 (fun v51 => ?_)
        refine zg_iconst 1 rfl d_X8_passes_188 ?_
        refine zg_ald0 d_X8_passes_189 (fun v52 => ?_)
        refine zg_icmp_ge d_X8_passes_190 ?_ ?_
        · exact zg_finK (E := 0) [0, 1, 2, 3] rfl rfl (fun q => q)
        · refine zg_aload_n 0 rfl d_X8_passes_193 ?_
          refine zg_iload_n 1 rfl d_X8_passes_194 ?_
          refine zg_iload_n 3 rfl d_X8_passes_195 ?_
          refine zg_cVi (b := a0) (As := [.int a1, .int s47]) (rest := []) (0, 0) d_X8_passes_196 zc_8 rfl cw_X8_351 wi_X8_isUp ws_X8_isUp rfl rfl (Nat.le_of_ble_eq_true rfl) (by decide) (by decide) ⟨by decide, by decide⟩ rfl (t_X8_isUp a0 a1 s47 h48) (fun v54 h53 => ?_)
          refine zg_if_eq d_X8_passes_199 ?_ ?_
          · refine zg_iinc 3 (s47 + 1) [(3, .int (s47 + 1)), (0, .ref a0), (1, .int a1), (2, .int v2)] d_X8_passes_208 rfl rfl (by decide) rfl ?_
            refine zg_goto d_X8_passes_211 ?_
            exact zg_finK (E := 0) [1, 2, 3, 0] rfl rfl (fun q => q)
          · refine zg_aload_n 0 rfl d_X8_passes_202 ?_
            refine zg_iload_n 1 rfl d_X8_passes_203 ?_
            refine zg_iload_n 3 rfl d_X8_passes_204 ?_
            refine zg_cVv (b := a0) (As := [.int a1, .int s47]) (rest := []) (0, 0) d_X8_passes_205 zc_8 rfl cw_X8_407 wi_X8_falls ws_X8_falls rfl rfl (Nat.le_of_ble_eq_true rfl) (by decide) (by decide) ⟨by decide, by decide⟩ rfl (t_X8_falls a0 a1 s47 h53) (fun v56 h55 => ?_)
            refine zg_iinc 3 (s47 + 1) [(3, .int (s47 + 1)), (0, .ref a0), (1, .int a1), (2, .int v2)] d_X8_passes_208 rfl rfl (by decide) rfl ?_
            refine zg_goto d_X8_passes_211 ?_
            exact zg_finK (E := 0) [1, 2, 3, 0] rfl rfl (fun q => q)
      · refine zg_iconst 0 rfl d_X8_passes_214 ?_
        refine zg_istore_n [(3, .int 0), (0, .ref a0), (1, .int a1), (2, .int v2)] d_X8_passes_215 rfl (by decide) rfl ?_
        refine zg_bd (E := 262) (el := (fun (e59 : Int32) => [(0, .ref a0), (1, .int a1), (2, .int v2), (3, .int e59)])) (es := fun _ => []) (zg_sub [1, 2, 3, 0] rfl (zg_lp (el := (fun (s57 : Int32) => [(0, .ref a0), (1, .int a1), (2, .int v2), (3, .int s57)])) (fun s57 h58 => ?_) 0 h50)) (fun e59 h60 => ?_)
        · refine zg_iload_n 3 rfl d_X8_passes_216 ?_
          refine zg_aload_n 0 rfl d_X8_passes_217 ?_
          refine zg_getR d_X8_passes_218 zc_8 (by decide) fl_X8_13 (fun v61 => ?_)
          refine zg_iconst 1 rfl d_X8_passes_221 ?_
          refine zg_ald0 d_X8_passes_222 (fun v62 => ?_)
          refine zg_icmp_ge d_X8_passes_223 ?_ ?_
          · exact zg_finK (E := 0) [0, 1, 2, 3] rfl rfl (fun q => q)
          · refine zg_aload_n 0 rfl d_X8_passes_226 ?_
            refine zg_iload_n 1 rfl d_X8_passes_227 ?_
            refine zg_iload_n 3 rfl d_X8_passes_228 ?_
            refine zg_cVi (b := a0) (As := [.int a1, .int s57]) (rest := []) (0, 0) d_X8_passes_229 zc_8 rfl cw_X8_351 wi_X8_isUp ws_X8_isUp rfl rfl (Nat.le_of_ble_eq_true rfl) (by decide) (by decide) ⟨by decide, by decide⟩ rfl (t_X8_isUp a0 a1 s57 h58) (fun v64 h63 => ?_)
            refine zg_if_eq d_X8_passes_232 ?_ ?_
            · refine zg_iinc 3 (s57 + 1) [(3, .int (s57 + 1)), (0, .ref a0), (1, .int a1), (2, .int v2)] d_X8_passes_256 rfl rfl (by decide) rfl ?_
              refine zg_goto d_X8_passes_259 ?_
              exact zg_finK (E := 0) [1, 2, 3, 0] rfl rfl (fun q => q)
            · refine zg_aload_n 0 rfl d_X8_passes_235 ?_
              refine zg_getR d_X8_passes_236 zc_8 (by decide) fl_X8_90 (fun v65 => ?_)
              refine zg_bipush 8 rfl d_X8_passes_239 ?_
              refine zg_iload_n 1 rfl d_X8_passes_241 ?_
              refine zg_imul d_X8_passes_242 ?_
              refine zg_iload_n 3 rfl d_X8_passes_243 ?_
              refine zg_iadd d_X8_passes_244 ?_
              refine zg_ald0 d_X8_passes_245 (fun v66 => ?_)
              refine zg_iconst (-1) rfl d_X8_passes_246 ?_
              refine zg_icmp_ne d_X8_passes_247 ?_ ?_
              · refine zg_aload_n 0 rfl d_X8_passes_250 ?_
                refine zg_iload_n 1 rfl d_X8_passes_251 ?_
                refine zg_iload_n 3 rfl d_X8_passes_252 ?_
                refine zg_cVv (b := a0) (As := [.int a1, .int s57]) (rest := []) (0, 0) d_X8_passes_253 zc_8 rfl cw_X8_410 wi_X8_isGiven ws_X8_isGiven rfl rfl (Nat.le_of_ble_eq_true rfl) (by decide) (by decide) ⟨by decide, by decide⟩ rfl (t_X8_isGiven a0 a1 s57 h63) (fun v68 h67 => ?_)
                refine zg_iinc 3 (s57 + 1) [(3, .int (s57 + 1)), (0, .ref a0), (1, .int a1), (2, .int v2)] d_X8_passes_256 rfl rfl (by decide) rfl ?_
                refine zg_goto d_X8_passes_259 ?_
                exact zg_finK (E := 0) [1, 2, 3, 0] rfl rfl (fun q => q)
              · refine zg_iinc 3 (s57 + 1) [(3, .int (s57 + 1)), (0, .ref a0), (1, .int a1), (2, .int v2)] d_X8_passes_256 rfl rfl (by decide) rfl ?_
                refine zg_goto d_X8_passes_259 ?_
                exact zg_finK (E := 0) [1, 2, 3, 0] rfl rfl (fun q => q)
        · refine zg_aload_n 0 rfl d_X8_passes_262 ?_
          refine zg_iload_n 1 rfl d_X8_passes_263 ?_
          refine zg_cVv (b := a0) (As := [.int a1]) (rest := []) (0, 0) d_X8_passes_264 zc_8 rfl cw_X8_413 wi_X8_marks ws_X8_marks rfl rfl (Nat.le_of_ble_eq_true rfl) (by decide) (by decide) ⟨by decide, by decide⟩ rfl (t_X8_marks a0 a1 h60) (fun v70 h69 => ?_)
          refine zg_iconst 0 rfl d_X8_passes_267 ?_
          refine zg_istore_n [(3, .int 0), (0, .ref a0), (1, .int a1), (2, .int v2)] d_X8_passes_268 rfl (by decide) rfl ?_
          refine zg_bd (E := 309) (el := (fun (e73 : Int32) => [(0, .ref a0), (1, .int a1), (2, .int v2), (3, .int e73)])) (es := fun _ => []) (zg_sub [1, 2, 3, 0] rfl (zg_lp (el := (fun (s71 : Int32) => [(0, .ref a0), (1, .int a1), (2, .int v2), (3, .int s71)])) (fun s71 h72 => ?_) 0 h69)) (fun e73 h74 => ?_)
          · refine zg_iload_n 3 rfl d_X8_passes_269 ?_
            refine zg_aload_n 0 rfl d_X8_passes_270 ?_
            refine zg_getR d_X8_passes_271 zc_8 (by decide) fl_X8_13 (fun v75 => ?_)
            refine zg_iconst 1 rfl d_X8_passes_274 ?_
            refine zg_ald0 d_X8_passes_275 (fun v76 => ?_)
            refine zg_icmp_ge d_X8_passes_276 ?_ ?_
            · exact zg_finK (E := 0) [0, 1, 2, 3] rfl rfl (fun q => q)
            · refine zg_aload_n 0 rfl d_X8_passes_279 ?_
              refine zg_iload_n 1 rfl d_X8_passes_280 ?_
              refine zg_iload_n 3 rfl d_X8_passes_281 ?_
              refine zg_cVi (b := a0) (As := [.int a1, .int s71]) (rest := []) (0, 0) d_X8_passes_282 zc_8 rfl cw_X8_351 wi_X8_isUp ws_X8_isUp rfl rfl (Nat.le_of_ble_eq_true rfl) (by decide) (by decide) ⟨by decide, by decide⟩ rfl (t_X8_isUp a0 a1 s71 h72) (fun v78 h77 => ?_)
              refine zg_if_eq d_X8_passes_285 ?_ ?_
              · refine zg_iinc 3 (s71 + 1) [(3, .int (s71 + 1)), (0, .ref a0), (1, .int a1), (2, .int v2)] d_X8_passes_303 rfl rfl (by decide) rfl ?_
                refine zg_goto d_X8_passes_306 ?_
                exact zg_finK (E := 0) [1, 2, 3, 0] rfl rfl (fun q => q)
              · refine zg_aload_n 0 rfl d_X8_passes_288 ?_
                refine zg_getR d_X8_passes_289 zc_8 (by decide) fl_X8_87 (fun v79 => ?_)
                refine zg_bipush 8 rfl d_X8_passes_292 ?_
                refine zg_iload_n 1 rfl d_X8_passes_294 ?_
                refine zg_imul d_X8_passes_295 ?_
                refine zg_iload_n 3 rfl d_X8_passes_296 ?_
                refine zg_iadd d_X8_passes_297 ?_
                refine zg_dup2 rfl rfl d_X8_passes_298 ?_
                refine zg_ald0 d_X8_passes_299 (fun v80 => ?_)
                refine zg_iconst 1 rfl d_X8_passes_300 ?_
                refine zg_iadd d_X8_passes_301 ?_
                refine zg_ast0 d_X8_passes_302 (fun h81 => ?_)
                refine zg_iinc 3 (s71 + 1) [(3, .int (s71 + 1)), (0, .ref a0), (1, .int a1), (2, .int v2)] d_X8_passes_303 rfl rfl (by decide) rfl ?_
                refine zg_goto d_X8_passes_306 ?_
                exact zg_finK (E := 0) [1, 2, 3, 0] rfl rfl (fun q => q)
          · refine zg_aload_n 0 rfl d_X8_passes_309 ?_
            refine zg_getR d_X8_passes_310 zc_8 (by decide) fl_X8_75 (fun v82 => ?_)
            refine zg_iload_n 1 rfl d_X8_passes_313 ?_
            refine zg_dup2 rfl rfl d_X8_passes_314 ?_
            refine zg_ald0 d_X8_passes_315 (fun v83 => ?_)
            refine zg_iconst 1 rfl d_X8_passes_316 ?_
            refine zg_iadd d_X8_passes_317 ?_
            refine zg_ast0 d_X8_passes_318 (fun h84 => ?_)
            exact zg_vretK d_X8_passes_319 rfl ⟨Nat.le_of_ble_eq_true rfl, Nat.le_of_ble_eq_true rfl⟩ (fun q => q)
abbrev M_X8_runs : zMt := (RX8, cX8_runs, 3, 7, 201, none, "runs", 0, 0)
theorem d_X8_runs_0 : zDc M_X8_runs 0 (.aload_n 0) 1 1 := ⟨by decide +kernel, rfl⟩
theorem d_X8_runs_1 : zDc M_X8_runs 1 (.iconst 1) 1 2 := ⟨by decide +kernel, rfl⟩
theorem d_X8_runs_2 : zDc M_X8_runs 2 (.iconst 0) 1 3 := ⟨by decide +kernel, rfl⟩
theorem d_X8_runs_3 : zDc M_X8_runs 3 (.invokevirtual 416) 3 6 := ⟨by decide +kernel, rfl⟩
theorem d_X8_runs_6 : zDc M_X8_runs 6 (.iconst 0) 1 7 := ⟨by decide +kernel, rfl⟩
theorem d_X8_runs_7 : zDc M_X8_runs 7 (.istore_n 2) 1 8 := ⟨by decide +kernel, rfl⟩
theorem d_X8_runs_8 : zDc M_X8_runs 8 (.iload_n 2) 1 9 := ⟨by decide +kernel, rfl⟩
theorem d_X8_runs_9 : zDc M_X8_runs 9 (.iload_n 1) 1 10 := ⟨by decide +kernel, rfl⟩
theorem d_X8_runs_10 : zDj M_X8_runs 10 (.if_icmp .ge 14) 14 13 24 := ⟨by decide +kernel, rfl, by decide⟩
theorem d_X8_runs_13 : zDc M_X8_runs 13 (.aload_n 0) 1 14 := ⟨by decide +kernel, rfl⟩
theorem d_X8_runs_14 : zDc M_X8_runs 14 (.iconst 1) 1 15 := ⟨by decide +kernel, rfl⟩
theorem d_X8_runs_15 : zDc M_X8_runs 15 (.invokevirtual 419) 3 18 := ⟨by decide +kernel, rfl⟩
theorem d_X8_runs_18 : zDc M_X8_runs 18 (.iinc 2 1) 3 21 := ⟨by decide +kernel, rfl⟩
theorem d_X8_runs_21 : zDj M_X8_runs 21 (.goto (-13)) (-13) 24 8 := ⟨by decide +kernel, rfl, by decide⟩
theorem d_X8_runs_24 : zDc M_X8_runs 24 (.return_) 1 25 := ⟨by decide +kernel, rfl⟩
def f_X8_runs (a0 : Nat) (a1 : Int32) (h0 : zHp) : Option (Unit × zHp) :=
  zbd (zcv 8 a0 h0 (f_X8_copies a0 1 0 h0)) (fun v2 h1 =>
  zbd (
  zlp (σ := Int32) (β := Int32) zLF (fun s3 h4 =>
  if a1 ≤ s3 then
  some ((.inr s3), h4)
  else
  zbd (zcv 8 a0 h4 (f_X8_passes a0 1 h4)) (fun v8 h7 =>
  some ((.inl (s3 + 1)), h7))) 0 h1) (fun e5 h6 =>
  some ((), h6)))
set_option maxRecDepth 100000 in
set_option maxHeartbeats 4000000 in
theorem t_X8_runs (a0 : Nat) (a1 : Int32) (h0 : zHp) : ∀ (r : Unit) (h' : zHp), f_X8_runs a0 a1 h0 = some (r, h') → zCt yX8_runs (.code yX8_runs cX8_runs 3 none) 7 201 0 0 [.ref a0, .int a1] h0 (none) h' := by
  refine zct_of M_X8_runs yX8_runs (by decide) rfl rfl [.ref a0, .int a1] h0 (Nat.le_of_ble_eq_true rfl) (fun _ => none) (fun X => ?_)
  show zG X M_X8_runs (0, 0) 0 [(0, .ref a0), (1, .int a1)] [] h0 (f_X8_runs a0 a1 h0) (fun (_ : Unit) h' => zKe X (none) h')
  unfold f_X8_runs
  refine zg_aload_n 0 rfl d_X8_runs_0 ?_
  refine zg_iconst 1 rfl d_X8_runs_1 ?_
  refine zg_iconst 0 rfl d_X8_runs_2 ?_
  refine zg_cVv (b := a0) (As := [.int 1, .int 0]) (rest := []) (0, 0) d_X8_runs_3 zc_8 rfl cw_X8_416 wi_X8_copies ws_X8_copies rfl rfl (Nat.le_of_ble_eq_true rfl) (by decide) (by decide) ⟨by decide, by decide⟩ rfl (t_X8_copies a0 1 0 h0) (fun v2 h1 => ?_)
  refine zg_iconst 0 rfl d_X8_runs_6 ?_
  refine zg_istore_n [(2, .int 0), (0, .ref a0), (1, .int a1)] d_X8_runs_7 rfl (by decide) rfl ?_
  refine zg_bd (E := 24) (el := (fun (e5 : Int32) => [(0, .ref a0), (1, .int a1), (2, .int e5)])) (es := fun _ => []) (zg_sub [1, 2, 0] rfl (zg_lp (el := (fun (s3 : Int32) => [(0, .ref a0), (1, .int a1), (2, .int s3)])) (fun s3 h4 => ?_) 0 h1)) (fun e5 h6 => ?_)
  · refine zg_iload_n 2 rfl d_X8_runs_8 ?_
    refine zg_iload_n 1 rfl d_X8_runs_9 ?_
    refine zg_icmp_ge d_X8_runs_10 ?_ ?_
    · exact zg_finK (E := 0) [0, 1, 2] rfl rfl (fun q => q)
    · refine zg_aload_n 0 rfl d_X8_runs_13 ?_
      refine zg_iconst 1 rfl d_X8_runs_14 ?_
      refine zg_cVv (b := a0) (As := [.int 1]) (rest := []) (0, 0) d_X8_runs_15 zc_8 rfl cw_X8_419 wi_X8_passes ws_X8_passes rfl rfl (Nat.le_of_ble_eq_true rfl) (by decide) (by decide) ⟨by decide, by decide⟩ rfl (t_X8_passes a0 1 h4) (fun v8 h7 => ?_)
      refine zg_iinc 2 (s3 + 1) [(2, .int (s3 + 1)), (0, .ref a0), (1, .int a1)] d_X8_runs_18 rfl rfl (by decide) rfl ?_
      refine zg_goto d_X8_runs_21 ?_
      exact zg_finK (E := 0) [1, 2, 0] rfl rfl (fun q => q)
  · exact zg_vretK d_X8_runs_24 rfl ⟨Nat.le_of_ble_eq_true rfl, Nat.le_of_ble_eq_true rfl⟩ (fun q => q)
abbrev M_X8_ahead : zMt := (RX8, cX8_ahead, 3, 8, 223, (some .int), "ahead", 0, 0)
theorem d_X8_ahead_0 : zDc M_X8_ahead 0 (.aload_n 0) 1 1 := ⟨by decide +kernel, rfl⟩
theorem d_X8_ahead_1 : zDc M_X8_ahead 1 (.iconst 0) 1 2 := ⟨by decide +kernel, rfl⟩
theorem d_X8_ahead_2 : zDc M_X8_ahead 2 (.putfield 151) 3 5 := ⟨by decide +kernel, rfl⟩
theorem d_X8_ahead_5 : zDc M_X8_ahead 5 (.iload_n 1) 1 6 := ⟨by decide +kernel, rfl⟩
theorem d_X8_ahead_6 : zDj M_X8_ahead 6 (.ifCond .lt 18) 18 9 24 := ⟨by decide +kernel, rfl, by decide⟩
theorem d_X8_ahead_9 : zDc M_X8_ahead 9 (.iload_n 1) 1 10 := ⟨by decide +kernel, rfl⟩
theorem d_X8_ahead_10 : zDc M_X8_ahead 10 (.bipush 60) 2 12 := ⟨by decide +kernel, rfl⟩
theorem d_X8_ahead_12 : zDj M_X8_ahead 12 (.if_icmp .gt 12) 12 15 24 := ⟨by decide +kernel, rfl, by decide⟩
theorem d_X8_ahead_15 : zDc M_X8_ahead 15 (.iload_n 2) 1 16 := ⟨by decide +kernel, rfl⟩
theorem d_X8_ahead_16 : zDj M_X8_ahead 16 (.ifCond .lt 8) 8 19 24 := ⟨by decide +kernel, rfl, by decide⟩
theorem d_X8_ahead_19 : zDc M_X8_ahead 19 (.iload_n 2) 1 20 := ⟨by decide +kernel, rfl⟩
theorem d_X8_ahead_20 : zDc M_X8_ahead 20 (.iconst 3) 1 21 := ⟨by decide +kernel, rfl⟩
theorem d_X8_ahead_21 : zDj M_X8_ahead 21 (.if_icmp .le 5) 5 24 26 := ⟨by decide +kernel, rfl, by decide⟩
theorem d_X8_ahead_24 : zDc M_X8_ahead 24 (.iconst (-1)) 1 25 := ⟨by decide +kernel, rfl⟩
theorem d_X8_ahead_25 : zDc M_X8_ahead 25 (.ireturn) 1 26 := ⟨by decide +kernel, rfl⟩
theorem d_X8_ahead_26 : zDc M_X8_ahead 26 (.aload_n 0) 1 27 := ⟨by decide +kernel, rfl⟩
theorem d_X8_ahead_27 : zDc M_X8_ahead 27 (.iload_n 1) 1 28 := ⟨by decide +kernel, rfl⟩
theorem d_X8_ahead_28 : zDc M_X8_ahead 28 (.invokevirtual 450) 3 31 := ⟨by decide +kernel, rfl⟩
theorem d_X8_ahead_31 : zDc M_X8_ahead 31 (.iload_n 2) 1 32 := ⟨by decide +kernel, rfl⟩
theorem d_X8_ahead_32 : decode M_X8_ahead.2.1 32 = .ok (.tableswitch 58 0 2 #[28, 40, 46], 28) := by decide +kernel
theorem d_X8_ahead_60 : zDc M_X8_ahead 60 (.aload_n 0) 1 61 := ⟨by decide +kernel, rfl⟩
theorem d_X8_ahead_61 : zDc M_X8_ahead 61 (.iconst 1) 1 62 := ⟨by decide +kernel, rfl⟩
theorem d_X8_ahead_62 : zDc M_X8_ahead 62 (.invokevirtual 453) 3 65 := ⟨by decide +kernel, rfl⟩
theorem d_X8_ahead_65 : zDc M_X8_ahead 65 (.aload_n 0) 1 66 := ⟨by decide +kernel, rfl⟩
theorem d_X8_ahead_66 : zDc M_X8_ahead 66 (.iconst 0) 1 67 := ⟨by decide +kernel, rfl⟩
theorem d_X8_ahead_67 : zDc M_X8_ahead 67 (.invokevirtual 453) 3 70 := ⟨by decide +kernel, rfl⟩
theorem d_X8_ahead_70 : zDc M_X8_ahead 70 (.isub) 1 71 := ⟨by decide +kernel, rfl⟩
theorem d_X8_ahead_71 : zDc M_X8_ahead 71 (.ireturn) 1 72 := ⟨by decide +kernel, rfl⟩
theorem d_X8_ahead_72 : zDc M_X8_ahead 72 (.aload_n 0) 1 73 := ⟨by decide +kernel, rfl⟩
theorem d_X8_ahead_73 : zDc M_X8_ahead 73 (.iconst 1) 1 74 := ⟨by decide +kernel, rfl⟩
theorem d_X8_ahead_74 : zDc M_X8_ahead 74 (.invokevirtual 363) 3 77 := ⟨by decide +kernel, rfl⟩
theorem d_X8_ahead_77 : zDc M_X8_ahead 77 (.ireturn) 1 78 := ⟨by decide +kernel, rfl⟩
theorem d_X8_ahead_78 : zDc M_X8_ahead 78 (.aload_n 0) 1 79 := ⟨by decide +kernel, rfl⟩
theorem d_X8_ahead_79 : zDc M_X8_ahead 79 (.iconst 1) 1 80 := ⟨by decide +kernel, rfl⟩
theorem d_X8_ahead_80 : zDc M_X8_ahead 80 (.invokevirtual 456) 3 83 := ⟨by decide +kernel, rfl⟩
theorem d_X8_ahead_83 : zDc M_X8_ahead 83 (.aload_n 0) 1 84 := ⟨by decide +kernel, rfl⟩
theorem d_X8_ahead_84 : zDc M_X8_ahead 84 (.iconst 0) 1 85 := ⟨by decide +kernel, rfl⟩
theorem d_X8_ahead_85 : zDc M_X8_ahead 85 (.invokevirtual 456) 3 88 := ⟨by decide +kernel, rfl⟩
theorem d_X8_ahead_88 : zDc M_X8_ahead 88 (.isub) 1 89 := ⟨by decide +kernel, rfl⟩
theorem d_X8_ahead_89 : zDc M_X8_ahead 89 (.ireturn) 1 90 := ⟨by decide +kernel, rfl⟩
theorem d_X8_ahead_90 : zDc M_X8_ahead 90 (.aload_n 0) 1 91 := ⟨by decide +kernel, rfl⟩
theorem d_X8_ahead_91 : zDc M_X8_ahead 91 (.iconst 1) 1 92 := ⟨by decide +kernel, rfl⟩
theorem d_X8_ahead_92 : zDc M_X8_ahead 92 (.iconst 2) 1 93 := ⟨by decide +kernel, rfl⟩
theorem d_X8_ahead_93 : zDc M_X8_ahead 93 (.invokevirtual 459) 3 96 := ⟨by decide +kernel, rfl⟩
theorem d_X8_ahead_96 : zDc M_X8_ahead 96 (.aload_n 0) 1 97 := ⟨by decide +kernel, rfl⟩
theorem d_X8_ahead_97 : zDc M_X8_ahead 97 (.iconst 0) 1 98 := ⟨by decide +kernel, rfl⟩
theorem d_X8_ahead_98 : zDc M_X8_ahead 98 (.iconst 2) 1 99 := ⟨by decide +kernel, rfl⟩
theorem d_X8_ahead_99 : zDc M_X8_ahead 99 (.invokevirtual 459) 3 102 := ⟨by decide +kernel, rfl⟩
theorem d_X8_ahead_102 : zDc M_X8_ahead 102 (.isub) 1 103 := ⟨by decide +kernel, rfl⟩
theorem d_X8_ahead_103 : zDc M_X8_ahead 103 (.ireturn) 1 104 := ⟨by decide +kernel, rfl⟩
def f_X8_ahead (a0 : Nat) (a1 : Int32) (a2 : Int32) (h0 : zHp) : Option (Int32 × zHp) :=
  zob (zpV h0 a0 8 0 (.int 0)) (fun h1 =>
  if a1 < 0 then
  some ((-1), h1)
  else
  if 60 < a1 then
  some ((-1), h1)
  else
  if a2 < 0 then
  some ((-1), h1)
  else
  if a2 ≤ 3 then
  zbd (zcv 8 a0 h1 (f_X8_runs a0 a1 h1)) (fun v3 h2 =>
  if a2 = 0 then
  zbd (zcv 8 a0 h2 (f_X8_rainAll a0 1 h2)) (fun v5 h4 =>
  zbd (zcv 8 a0 h4 (f_X8_rainAll a0 0 h4)) (fun v7 h6 =>
  some ((v5 - v7), h6)))
  else if a2 = 1 then
  zbd (zcv 8 a0 h2 (f_X8_upMany a0 1 h2)) (fun v9 h8 =>
  some (v9, h8))
  else if a2 = 2 then
  zbd (zcv 8 a0 h2 (f_X8_marksAll a0 1 h2)) (fun v11 h10 =>
  zbd (zcv 8 a0 h10 (f_X8_marksAll a0 0 h10)) (fun v13 h12 =>
  some ((v11 - v13), h12)))
  else 
  zbd (zcv 8 a0 h2 (f_X8_howMany a0 1 2 h2)) (fun v15 h14 =>
  zbd (zcv 8 a0 h14 (f_X8_howMany a0 0 2 h14)) (fun v17 h16 =>
  some ((v15 - v17), h16))))
  else
  some ((-1), h1))
set_option maxRecDepth 100000 in
set_option maxHeartbeats 4000000 in
theorem t_X8_ahead (a0 : Nat) (a1 : Int32) (a2 : Int32) (h0 : zHp) : ∀ (r : Int32) (h' : zHp), f_X8_ahead a0 a1 a2 h0 = some (r, h') → zCt yX8_ahead (.code yX8_ahead cX8_ahead 3 (some .int)) 8 223 0 0 [.ref a0, .int a1, .int a2] h0 (some (.int r)) h' := by
  refine zct_of M_X8_ahead yX8_ahead (by decide) rfl rfl [.ref a0, .int a1, .int a2] h0 (Nat.le_of_ble_eq_true rfl) (fun r => some (.int r)) (fun X => ?_)
  show zG X M_X8_ahead (0, 0) 0 [(0, .ref a0), (1, .int a1), (2, .int a2)] [] h0 (f_X8_ahead a0 a1 a2 h0) (fun (r : Int32) h' => zKe X (some (.int r)) h')
  unfold f_X8_ahead
  refine zg_aload_n 0 rfl d_X8_ahead_0 ?_
  refine zg_iconst 0 rfl d_X8_ahead_1 ?_
  refine zg_putV d_X8_ahead_2 zc_8 (by decide) fl_X8_151 rfl rfl rfl (fun h1 => ?_)
  refine zg_iload_n 1 rfl d_X8_ahead_5 ?_
  refine zg_if_lt d_X8_ahead_6 ?_ ?_
  · refine zg_iconst (-1) rfl d_X8_ahead_24 ?_
    exact zg_iretK d_X8_ahead_25 rfl ⟨Nat.le_of_ble_eq_true rfl, Nat.le_of_ble_eq_true rfl⟩ (fun q => q)
  · refine zg_iload_n 1 rfl d_X8_ahead_9 ?_
    refine zg_bipush 60 rfl d_X8_ahead_10 ?_
    refine zg_icmp_gt d_X8_ahead_12 ?_ ?_
    · refine zg_iconst (-1) rfl d_X8_ahead_24 ?_
      exact zg_iretK d_X8_ahead_25 rfl ⟨Nat.le_of_ble_eq_true rfl, Nat.le_of_ble_eq_true rfl⟩ (fun q => q)
    · refine zg_iload_n 2 rfl d_X8_ahead_15 ?_
      refine zg_if_lt d_X8_ahead_16 ?_ ?_
      · refine zg_iconst (-1) rfl d_X8_ahead_24 ?_
        exact zg_iretK d_X8_ahead_25 rfl ⟨Nat.le_of_ble_eq_true rfl, Nat.le_of_ble_eq_true rfl⟩ (fun q => q)
      · refine zg_iload_n 2 rfl d_X8_ahead_19 ?_
        refine zg_iconst 3 rfl d_X8_ahead_20 ?_
        refine zg_icmp_le d_X8_ahead_21 ?_ ?_
        · refine zg_aload_n 0 rfl d_X8_ahead_26 ?_
          refine zg_iload_n 1 rfl d_X8_ahead_27 ?_
          refine zg_cVv (b := a0) (As := [.int a1]) (rest := []) (0, 0) d_X8_ahead_28 zc_8 rfl cw_X8_450 wi_X8_runs ws_X8_runs rfl rfl (Nat.le_of_ble_eq_true rfl) (by decide) (by decide) ⟨by decide, by decide⟩ rfl (t_X8_runs a0 a1 h1) (fun v3 h2 => ?_)
          refine zg_iload_n 2 rfl d_X8_ahead_31 ?_
          refine zg_if (fun n18 => ?_) (fun n18 => ?_)
          · refine zg_tabE n18 d_X8_ahead_32 (by decide) (by decide) (off := 28) rfl (tgt := 60) (by decide) ?_
            refine zg_aload_n 0 rfl d_X8_ahead_60 ?_
            refine zg_iconst 1 rfl d_X8_ahead_61 ?_
            refine zg_cVi (b := a0) (As := [.int 1]) (rest := []) (0, 0) d_X8_ahead_62 zc_8 rfl cw_X8_453 wi_X8_rainAll ws_X8_rainAll rfl rfl (Nat.le_of_ble_eq_true rfl) (by decide) (by decide) ⟨by decide, by decide⟩ rfl (t_X8_rainAll a0 1 h2) (fun v5 h4 => ?_)
            refine zg_aload_n 0 rfl d_X8_ahead_65 ?_
            refine zg_iconst 0 rfl d_X8_ahead_66 ?_
            refine zg_cVi (b := a0) (As := [.int 0]) (rest := [.int v5]) (0, 0) d_X8_ahead_67 zc_8 rfl cw_X8_453 wi_X8_rainAll ws_X8_rainAll rfl rfl (Nat.le_of_ble_eq_true rfl) (by decide) (by decide) ⟨by decide, by decide⟩ rfl (t_X8_rainAll a0 0 h4) (fun v7 h6 => ?_)
            refine zg_isub d_X8_ahead_70 ?_
            exact zg_iretK d_X8_ahead_71 rfl ⟨Nat.le_of_ble_eq_true rfl, Nat.le_of_ble_eq_true rfl⟩ (fun q => q)
          refine zg_if (fun n19 => ?_) (fun n19 => ?_)
          · refine zg_tabE n19 d_X8_ahead_32 (by decide) (by decide) (off := 40) rfl (tgt := 72) (by decide) ?_
            refine zg_aload_n 0 rfl d_X8_ahead_72 ?_
            refine zg_iconst 1 rfl d_X8_ahead_73 ?_
            refine zg_cVi (b := a0) (As := [.int 1]) (rest := []) (0, 0) d_X8_ahead_74 zc_8 rfl cw_X8_363 wi_X8_upMany ws_X8_upMany rfl rfl (Nat.le_of_ble_eq_true rfl) (by decide) (by decide) ⟨by decide, by decide⟩ rfl (t_X8_upMany a0 1 h2) (fun v9 h8 => ?_)
            exact zg_iretK d_X8_ahead_77 rfl ⟨Nat.le_of_ble_eq_true rfl, Nat.le_of_ble_eq_true rfl⟩ (fun q => q)
          refine zg_if (fun n20 => ?_) (fun n20 => ?_)
          · refine zg_tabE n20 d_X8_ahead_32 (by decide) (by decide) (off := 46) rfl (tgt := 78) (by decide) ?_
            refine zg_aload_n 0 rfl d_X8_ahead_78 ?_
            refine zg_iconst 1 rfl d_X8_ahead_79 ?_
            refine zg_cVi (b := a0) (As := [.int 1]) (rest := []) (0, 0) d_X8_ahead_80 zc_8 rfl cw_X8_456 wi_X8_marksAll ws_X8_marksAll rfl rfl (Nat.le_of_ble_eq_true rfl) (by decide) (by decide) ⟨by decide, by decide⟩ rfl (t_X8_marksAll a0 1 h2) (fun v11 h10 => ?_)
            refine zg_aload_n 0 rfl d_X8_ahead_83 ?_
            refine zg_iconst 0 rfl d_X8_ahead_84 ?_
            refine zg_cVi (b := a0) (As := [.int 0]) (rest := [.int v11]) (0, 0) d_X8_ahead_85 zc_8 rfl cw_X8_456 wi_X8_marksAll ws_X8_marksAll rfl rfl (Nat.le_of_ble_eq_true rfl) (by decide) (by decide) ⟨by decide, by decide⟩ rfl (t_X8_marksAll a0 0 h10) (fun v13 h12 => ?_)
            refine zg_isub d_X8_ahead_88 ?_
            exact zg_iretK d_X8_ahead_89 rfl ⟨Nat.le_of_ble_eq_true rfl, Nat.le_of_ble_eq_true rfl⟩ (fun q => q)
          refine zg_tabO d_X8_ahead_32 (by have q0 := lv_neT n18 (a := 0) rfl; have q1 := lv_neT n19 (a := 1) rfl; have q2 := lv_neT n20 (a := 2) rfl; omega) (tgt := 90) (by decide) ?_
          refine zg_aload_n 0 rfl d_X8_ahead_90 ?_
          refine zg_iconst 1 rfl d_X8_ahead_91 ?_
          refine zg_iconst 2 rfl d_X8_ahead_92 ?_
          refine zg_cVi (b := a0) (As := [.int 1, .int 2]) (rest := []) (0, 0) d_X8_ahead_93 zc_8 rfl cw_X8_459 wi_X8_howMany ws_X8_howMany rfl rfl (Nat.le_of_ble_eq_true rfl) (by decide) (by decide) ⟨by decide, by decide⟩ rfl (t_X8_howMany a0 1 2 h2) (fun v15 h14 => ?_)
          refine zg_aload_n 0 rfl d_X8_ahead_96 ?_
          refine zg_iconst 0 rfl d_X8_ahead_97 ?_
          refine zg_iconst 2 rfl d_X8_ahead_98 ?_
          refine zg_cVi (b := a0) (As := [.int 0, .int 2]) (rest := [.int v15]) (0, 0) d_X8_ahead_99 zc_8 rfl cw_X8_459 wi_X8_howMany ws_X8_howMany rfl rfl (Nat.le_of_ble_eq_true rfl) (by decide) (by decide) ⟨by decide, by decide⟩ rfl (t_X8_howMany a0 0 2 h14) (fun v17 h16 => ?_)
          refine zg_isub d_X8_ahead_102 ?_
          exact zg_iretK d_X8_ahead_103 rfl ⟨Nat.le_of_ble_eq_true rfl, Nat.le_of_ble_eq_true rfl⟩ (fun q => q)
        · refine zg_iconst (-1) rfl d_X8_ahead_24 ?_
          exact zg_iretK d_X8_ahead_25 rfl ⟨Nat.le_of_ble_eq_true rfl, Nat.le_of_ble_eq_true rfl⟩ (fun q => q)
abbrev M_X8_finds (n : Nat) : zMt := (RX8, cX8_finds, 4, 3 + n, 104 + n * 23, (some .boolean), "finds", 0, 0)
theorem d_X8_finds_0 (n : Nat) : zDc (M_X8_finds n) 0 (.iconst 0) 1 1 := ⟨(by decide +kernel : decode cX8_finds 0 = .ok (.iconst 0, 1)), rfl⟩
theorem d_X8_finds_1 (n : Nat) : zDc (M_X8_finds n) 1 (.istore_n 2) 1 2 := ⟨(by decide +kernel : decode cX8_finds 1 = .ok (.istore_n 2, 1)), rfl⟩
theorem d_X8_finds_2 (n : Nat) : zDc (M_X8_finds n) 2 (.iload_n 2) 1 3 := ⟨(by decide +kernel : decode cX8_finds 2 = .ok (.iload_n 2, 1)), rfl⟩
theorem d_X8_finds_3 (n : Nat) : zDc (M_X8_finds n) 3 (.aload_n 0) 1 4 := ⟨(by decide +kernel : decode cX8_finds 3 = .ok (.aload_n 0, 1)), rfl⟩
theorem d_X8_finds_4 (n : Nat) : zDc (M_X8_finds n) 4 (.getfield 13) 3 7 := ⟨(by decide +kernel : decode cX8_finds 4 = .ok (.getfield 13, 3)), rfl⟩
theorem d_X8_finds_7 (n : Nat) : zDc (M_X8_finds n) 7 (.iconst 2) 1 8 := ⟨(by decide +kernel : decode cX8_finds 7 = .ok (.iconst 2, 1)), rfl⟩
theorem d_X8_finds_8 (n : Nat) : zDc (M_X8_finds n) 8 (.iaload) 1 9 := ⟨(by decide +kernel : decode cX8_finds 8 = .ok (.iaload, 1)), rfl⟩
theorem d_X8_finds_9 (n : Nat) : zDj (M_X8_finds n) 9 (.if_icmp .ge 122) 122 12 131 := ⟨(by decide +kernel : decode cX8_finds 9 = .ok (.if_icmp .ge 122, 3)), rfl, by decide⟩
theorem d_X8_finds_12 (n : Nat) : zDc (M_X8_finds n) 12 (.aload_n 0) 1 13 := ⟨(by decide +kernel : decode cX8_finds 12 = .ok (.aload_n 0, 1)), rfl⟩
theorem d_X8_finds_13 (n : Nat) : zDc (M_X8_finds n) 13 (.getfield 462) 3 16 := ⟨(by decide +kernel : decode cX8_finds 13 = .ok (.getfield 462, 3)), rfl⟩
theorem d_X8_finds_16 (n : Nat) : zDc (M_X8_finds n) 16 (.iload_n 2) 1 17 := ⟨(by decide +kernel : decode cX8_finds 16 = .ok (.iload_n 2, 1)), rfl⟩
theorem d_X8_finds_17 (n : Nat) : zDc (M_X8_finds n) 17 (.ishr) 1 18 := ⟨(by decide +kernel : decode cX8_finds 17 = .ok (.ishr, 1)), rfl⟩
theorem d_X8_finds_18 (n : Nat) : zDc (M_X8_finds n) 18 (.iconst 1) 1 19 := ⟨(by decide +kernel : decode cX8_finds 18 = .ok (.iconst 1, 1)), rfl⟩
theorem d_X8_finds_19 (n : Nat) : zDc (M_X8_finds n) 19 (.iand) 1 20 := ⟨(by decide +kernel : decode cX8_finds 19 = .ok (.iand, 1)), rfl⟩
theorem d_X8_finds_20 (n : Nat) : zDc (M_X8_finds n) 20 (.iconst 1) 1 21 := ⟨(by decide +kernel : decode cX8_finds 20 = .ok (.iconst 1, 1)), rfl⟩
theorem d_X8_finds_21 (n : Nat) : zDj (M_X8_finds n) 21 (.if_icmp .eq 104) 104 24 125 := ⟨(by decide +kernel : decode cX8_finds 21 = .ok (.if_icmp .eq 104, 3)), rfl, by decide⟩
theorem d_X8_finds_24 (n : Nat) : zDc (M_X8_finds n) 24 (.aload_n 0) 1 25 := ⟨(by decide +kernel : decode cX8_finds 24 = .ok (.aload_n 0, 1)), rfl⟩
theorem d_X8_finds_25 (n : Nat) : zDc (M_X8_finds n) 25 (.iconst 0) 1 26 := ⟨(by decide +kernel : decode cX8_finds 25 = .ok (.iconst 0, 1)), rfl⟩
theorem d_X8_finds_26 (n : Nat) : zDc (M_X8_finds n) 26 (.iload_n 2) 1 27 := ⟨(by decide +kernel : decode cX8_finds 26 = .ok (.iload_n 2, 1)), rfl⟩
theorem d_X8_finds_27 (n : Nat) : zDc (M_X8_finds n) 27 (.aload_n 0) 1 28 := ⟨(by decide +kernel : decode cX8_finds 27 = .ok (.aload_n 0, 1)), rfl⟩
theorem d_X8_finds_28 (n : Nat) : zDc (M_X8_finds n) 28 (.getfield 81) 3 31 := ⟨(by decide +kernel : decode cX8_finds 28 = .ok (.getfield 81, 3)), rfl⟩
theorem d_X8_finds_31 (n : Nat) : zDc (M_X8_finds n) 31 (.iload_n 1) 1 32 := ⟨(by decide +kernel : decode cX8_finds 31 = .ok (.iload_n 1, 1)), rfl⟩
theorem d_X8_finds_32 (n : Nat) : zDc (M_X8_finds n) 32 (.iaload) 1 33 := ⟨(by decide +kernel : decode cX8_finds 32 = .ok (.iaload, 1)), rfl⟩
theorem d_X8_finds_33 (n : Nat) : zDc (M_X8_finds n) 33 (.invokevirtual 390) 3 36 := ⟨(by decide +kernel : decode cX8_finds 33 = .ok (.invokevirtual 390, 3)), rfl⟩
theorem d_X8_finds_36 (n : Nat) : zDj (M_X8_finds n) 36 (.ifCond .ne 6) 6 39 42 := ⟨(by decide +kernel : decode cX8_finds 36 = .ok (.ifCond .ne 6, 3)), rfl, by decide⟩
theorem d_X8_finds_39 (n : Nat) : zDj (M_X8_finds n) 39 (.goto 86) 86 42 125 := ⟨(by decide +kernel : decode cX8_finds 39 = .ok (.goto 86, 3)), rfl, by decide⟩
theorem d_X8_finds_42 (n : Nat) : zDc (M_X8_finds n) 42 (.aload_n 0) 1 43 := ⟨(by decide +kernel : decode cX8_finds 42 = .ok (.aload_n 0, 1)), rfl⟩
theorem d_X8_finds_43 (n : Nat) : zDc (M_X8_finds n) 43 (.dup) 1 44 := ⟨(by decide +kernel : decode cX8_finds 43 = .ok (.dup, 1)), rfl⟩
theorem d_X8_finds_44 (n : Nat) : zDc (M_X8_finds n) 44 (.getfield 462) 3 47 := ⟨(by decide +kernel : decode cX8_finds 44 = .ok (.getfield 462, 3)), rfl⟩
theorem d_X8_finds_47 (n : Nat) : zDc (M_X8_finds n) 47 (.iconst 1) 1 48 := ⟨(by decide +kernel : decode cX8_finds 47 = .ok (.iconst 1, 1)), rfl⟩
theorem d_X8_finds_48 (n : Nat) : zDc (M_X8_finds n) 48 (.iload_n 2) 1 49 := ⟨(by decide +kernel : decode cX8_finds 48 = .ok (.iload_n 2, 1)), rfl⟩
theorem d_X8_finds_49 (n : Nat) : zDc (M_X8_finds n) 49 (.ishl) 1 50 := ⟨(by decide +kernel : decode cX8_finds 49 = .ok (.ishl, 1)), rfl⟩
theorem d_X8_finds_50 (n : Nat) : zDc (M_X8_finds n) 50 (.ior) 1 51 := ⟨(by decide +kernel : decode cX8_finds 50 = .ok (.ior, 1)), rfl⟩
theorem d_X8_finds_51 (n : Nat) : zDc (M_X8_finds n) 51 (.putfield 462) 3 54 := ⟨(by decide +kernel : decode cX8_finds 51 = .ok (.putfield 462, 3)), rfl⟩
theorem d_X8_finds_54 (n : Nat) : zDc (M_X8_finds n) 54 (.aload_n 0) 1 55 := ⟨(by decide +kernel : decode cX8_finds 54 = .ok (.aload_n 0, 1)), rfl⟩
theorem d_X8_finds_55 (n : Nat) : zDc (M_X8_finds n) 55 (.iload_n 2) 1 56 := ⟨(by decide +kernel : decode cX8_finds 55 = .ok (.iload_n 2, 1)), rfl⟩
theorem d_X8_finds_56 (n : Nat) : zDc (M_X8_finds n) 56 (.invokevirtual 465) 3 59 := ⟨(by decide +kernel : decode cX8_finds 56 = .ok (.invokevirtual 465, 3)), rfl⟩
theorem d_X8_finds_59 (n : Nat) : zDc (M_X8_finds n) 59 (.aload_n 0) 1 60 := ⟨(by decide +kernel : decode cX8_finds 59 = .ok (.aload_n 0, 1)), rfl⟩
theorem d_X8_finds_60 (n : Nat) : zDc (M_X8_finds n) 60 (.getfield 13) 3 63 := ⟨(by decide +kernel : decode cX8_finds 60 = .ok (.getfield 13, 3)), rfl⟩
theorem d_X8_finds_63 (n : Nat) : zDc (M_X8_finds n) 63 (.iconst 5) 1 64 := ⟨(by decide +kernel : decode cX8_finds 63 = .ok (.iconst 5, 1)), rfl⟩
theorem d_X8_finds_64 (n : Nat) : zDc (M_X8_finds n) 64 (.iaload) 1 65 := ⟨(by decide +kernel : decode cX8_finds 64 = .ok (.iaload, 1)), rfl⟩
theorem d_X8_finds_65 (n : Nat) : zDj (M_X8_finds n) 65 (.if_icmp .ge 12) 12 68 77 := ⟨(by decide +kernel : decode cX8_finds 65 = .ok (.if_icmp .ge 12, 3)), rfl, by decide⟩
theorem d_X8_finds_68 (n : Nat) : zDc (M_X8_finds n) 68 (.aload_n 0) 1 69 := ⟨(by decide +kernel : decode cX8_finds 68 = .ok (.aload_n 0, 1)), rfl⟩
theorem d_X8_finds_69 (n : Nat) : zDc (M_X8_finds n) 69 (.getfield 117) 3 72 := ⟨(by decide +kernel : decode cX8_finds 69 = .ok (.getfield 117, 3)), rfl⟩
theorem d_X8_finds_72 (n : Nat) : zDc (M_X8_finds n) 72 (.iload_n 1) 1 73 := ⟨(by decide +kernel : decode cX8_finds 72 = .ok (.iload_n 1, 1)), rfl⟩
theorem d_X8_finds_73 (n : Nat) : zDc (M_X8_finds n) 73 (.iload_n 2) 1 74 := ⟨(by decide +kernel : decode cX8_finds 73 = .ok (.iload_n 2, 1)), rfl⟩
theorem d_X8_finds_74 (n : Nat) : zDc (M_X8_finds n) 74 (.iastore) 1 75 := ⟨(by decide +kernel : decode cX8_finds 74 = .ok (.iastore, 1)), rfl⟩
theorem d_X8_finds_75 (n : Nat) : zDc (M_X8_finds n) 75 (.iconst 1) 1 76 := ⟨(by decide +kernel : decode cX8_finds 75 = .ok (.iconst 1, 1)), rfl⟩
theorem d_X8_finds_76 (n : Nat) : zDc (M_X8_finds n) 76 (.ireturn) 1 77 := ⟨(by decide +kernel : decode cX8_finds 76 = .ok (.ireturn, 1)), rfl⟩
theorem d_X8_finds_77 (n : Nat) : zDc (M_X8_finds n) 77 (.iconst 0) 1 78 := ⟨(by decide +kernel : decode cX8_finds 77 = .ok (.iconst 0, 1)), rfl⟩
theorem d_X8_finds_78 (n : Nat) : zDc (M_X8_finds n) 78 (.istore_n 3) 1 79 := ⟨(by decide +kernel : decode cX8_finds 78 = .ok (.istore_n 3, 1)), rfl⟩
theorem d_X8_finds_79 (n : Nat) : zDc (M_X8_finds n) 79 (.iload_n 3) 1 80 := ⟨(by decide +kernel : decode cX8_finds 79 = .ok (.iload_n 3, 1)), rfl⟩
theorem d_X8_finds_80 (n : Nat) : zDc (M_X8_finds n) 80 (.aload_n 0) 1 81 := ⟨(by decide +kernel : decode cX8_finds 80 = .ok (.aload_n 0, 1)), rfl⟩
theorem d_X8_finds_81 (n : Nat) : zDc (M_X8_finds n) 81 (.getfield 13) 3 84 := ⟨(by decide +kernel : decode cX8_finds 81 = .ok (.getfield 13, 3)), rfl⟩
theorem d_X8_finds_84 (n : Nat) : zDc (M_X8_finds n) 84 (.iconst 1) 1 85 := ⟨(by decide +kernel : decode cX8_finds 84 = .ok (.iconst 1, 1)), rfl⟩
theorem d_X8_finds_85 (n : Nat) : zDc (M_X8_finds n) 85 (.iaload) 1 86 := ⟨(by decide +kernel : decode cX8_finds 85 = .ok (.iaload, 1)), rfl⟩
theorem d_X8_finds_86 (n : Nat) : zDj (M_X8_finds n) 86 (.if_icmp .ge 39) 39 89 125 := ⟨(by decide +kernel : decode cX8_finds 86 = .ok (.if_icmp .ge 39, 3)), rfl, by decide⟩
theorem d_X8_finds_89 (n : Nat) : zDc (M_X8_finds n) 89 (.aload_n 0) 1 90 := ⟨(by decide +kernel : decode cX8_finds 89 = .ok (.aload_n 0, 1)), rfl⟩
theorem d_X8_finds_90 (n : Nat) : zDc (M_X8_finds n) 90 (.getfield 117) 3 93 := ⟨(by decide +kernel : decode cX8_finds 90 = .ok (.getfield 117, 3)), rfl⟩
theorem d_X8_finds_93 (n : Nat) : zDc (M_X8_finds n) 93 (.iload_n 3) 1 94 := ⟨(by decide +kernel : decode cX8_finds 93 = .ok (.iload_n 3, 1)), rfl⟩
theorem d_X8_finds_94 (n : Nat) : zDc (M_X8_finds n) 94 (.iaload) 1 95 := ⟨(by decide +kernel : decode cX8_finds 94 = .ok (.iaload, 1)), rfl⟩
theorem d_X8_finds_95 (n : Nat) : zDc (M_X8_finds n) 95 (.iload_n 2) 1 96 := ⟨(by decide +kernel : decode cX8_finds 95 = .ok (.iload_n 2, 1)), rfl⟩
theorem d_X8_finds_96 (n : Nat) : zDj (M_X8_finds n) 96 (.if_icmp .ne 23) 23 99 119 := ⟨(by decide +kernel : decode cX8_finds 96 = .ok (.if_icmp .ne 23, 3)), rfl, by decide⟩
theorem d_X8_finds_99 (n : Nat) : zDc (M_X8_finds n) 99 (.aload_n 0) 1 100 := ⟨(by decide +kernel : decode cX8_finds 99 = .ok (.aload_n 0, 1)), rfl⟩
theorem d_X8_finds_100 (n : Nat) : zDc (M_X8_finds n) 100 (.iload_n 3) 1 101 := ⟨(by decide +kernel : decode cX8_finds 100 = .ok (.iload_n 3, 1)), rfl⟩
theorem d_X8_finds_101 (n : Nat) : zDc (M_X8_finds n) 101 (.invokevirtual 468) 3 104 := ⟨(by decide +kernel : decode cX8_finds 101 = .ok (.invokevirtual 468, 3)), rfl⟩
theorem d_X8_finds_104 (n : Nat) : zDj (M_X8_finds n) 104 (.ifCond .ne 6) 6 107 110 := ⟨(by decide +kernel : decode cX8_finds 104 = .ok (.ifCond .ne 6, 3)), rfl, by decide⟩
theorem d_X8_finds_107 (n : Nat) : zDj (M_X8_finds n) 107 (.goto 12) 12 110 119 := ⟨(by decide +kernel : decode cX8_finds 107 = .ok (.goto 12, 3)), rfl, by decide⟩
theorem d_X8_finds_110 (n : Nat) : zDc (M_X8_finds n) 110 (.aload_n 0) 1 111 := ⟨(by decide +kernel : decode cX8_finds 110 = .ok (.aload_n 0, 1)), rfl⟩
theorem d_X8_finds_111 (n : Nat) : zDc (M_X8_finds n) 111 (.getfield 117) 3 114 := ⟨(by decide +kernel : decode cX8_finds 111 = .ok (.getfield 117, 3)), rfl⟩
theorem d_X8_finds_114 (n : Nat) : zDc (M_X8_finds n) 114 (.iload_n 1) 1 115 := ⟨(by decide +kernel : decode cX8_finds 114 = .ok (.iload_n 1, 1)), rfl⟩
theorem d_X8_finds_115 (n : Nat) : zDc (M_X8_finds n) 115 (.iload_n 2) 1 116 := ⟨(by decide +kernel : decode cX8_finds 115 = .ok (.iload_n 2, 1)), rfl⟩
theorem d_X8_finds_116 (n : Nat) : zDc (M_X8_finds n) 116 (.iastore) 1 117 := ⟨(by decide +kernel : decode cX8_finds 116 = .ok (.iastore, 1)), rfl⟩
theorem d_X8_finds_117 (n : Nat) : zDc (M_X8_finds n) 117 (.iconst 1) 1 118 := ⟨(by decide +kernel : decode cX8_finds 117 = .ok (.iconst 1, 1)), rfl⟩
theorem d_X8_finds_118 (n : Nat) : zDc (M_X8_finds n) 118 (.ireturn) 1 119 := ⟨(by decide +kernel : decode cX8_finds 118 = .ok (.ireturn, 1)), rfl⟩
theorem d_X8_finds_119 (n : Nat) : zDc (M_X8_finds n) 119 (.iinc 3 1) 3 122 := ⟨(by decide +kernel : decode cX8_finds 119 = .ok (.iinc 3 1, 3)), rfl⟩
theorem d_X8_finds_122 (n : Nat) : zDj (M_X8_finds n) 122 (.goto (-43)) (-43) 125 79 := ⟨(by decide +kernel : decode cX8_finds 122 = .ok (.goto (-43), 3)), rfl, by decide⟩
theorem d_X8_finds_125 (n : Nat) : zDc (M_X8_finds n) 125 (.iinc 2 1) 3 128 := ⟨(by decide +kernel : decode cX8_finds 125 = .ok (.iinc 2 1, 3)), rfl⟩
theorem d_X8_finds_128 (n : Nat) : zDj (M_X8_finds n) 128 (.goto (-126)) (-126) 131 2 := ⟨(by decide +kernel : decode cX8_finds 128 = .ok (.goto (-126), 3)), rfl, by decide⟩
theorem d_X8_finds_131 (n : Nat) : zDc (M_X8_finds n) 131 (.iconst 0) 1 132 := ⟨(by decide +kernel : decode cX8_finds 131 = .ok (.iconst 0, 1)), rfl⟩
theorem d_X8_finds_132 (n : Nat) : zDc (M_X8_finds n) 132 (.ireturn) 1 133 := ⟨(by decide +kernel : decode cX8_finds 132 = .ok (.ireturn, 1)), rfl⟩
def b_X8_finds (F : (Nat → Int32 → zHp → Option (Int32 × zHp))) (a0 : Nat) (a1 : Int32) (h0 : zHp) : Option (Int32 × zHp) :=
  zbd (
  zlp (σ := Int32) (β := (Int32 ⊕ Int32)) zLF (fun s1 h2 =>
  zob (zgR h2 a0 8 3) (fun v5 =>
  zob (zaI 0 h2 v5 2) (fun v6 =>
  if v6 ≤ s1 then
  some ((.inr (.inl s1)), h2)
  else
  zob (zgI h2 a0 8 55) (fun v7 =>
  if ((v7 >>> (s1 &&& 31)) &&& 1) = 1 then
  some ((.inl (s1 + 1)), h2)
  else
  zob (zgR h2 a0 8 38) (fun v8 =>
  zob (zaI 0 h2 v8 a1) (fun v9 =>
  zbd (zcv 8 a0 h2 (f_X8_doesSee a0 0 s1 v9 h2)) (fun v11 h10 =>
  if v11 = 0 then
  some ((.inl (s1 + 1)), h10)
  else
  zob (zgI h10 a0 8 55) (fun v12 =>
  zob (zpV h10 a0 8 55 (.int (v12 ||| (1 <<< (s1 &&& 31))))) (fun h13 =>
  zbd (zcv 8 a0 h13 (f_X8_givenTo a0 s1 h13)) (fun v15 h14 =>
  zob (zgR h14 a0 8 3) (fun v16 =>
  zob (zaI 0 h14 v16 5) (fun v17 =>
  if v17 ≤ v15 then
  zbd (
  zlp (σ := Int32) (β := (Int32 ⊕ (Int32 ⊕ (Int32 ⊕ Int32)))) zLF (fun s18 h19 =>
  zob (zgR h19 a0 8 3) (fun v22 =>
  zob (zaI 0 h19 v22 1) (fun v23 =>
  if v23 ≤ s18 then
  some ((.inr (.inl s18)), h19)
  else
  zob (zgR h19 a0 8 54) (fun v24 =>
  zob (zaI 0 h19 v24 s18) (fun v25 =>
  if v25 = s1 then
  zbd (zcv 8 a0 h19 (F a0 s18 h19)) (fun v27 h26 =>
  if v27 = 0 then
  some ((.inl (s18 + 1)), h26)
  else
  zob (zgR h26 a0 8 54) (fun v28 =>
  zob (zsI 0 h26 v28 a1 s1) (fun h29 =>
  some ((.inr (.inr (.inr (.inr 1)))), h29))))
  else
  some ((.inl (s18 + 1)), h19)))))) 0 h14) (fun b32 h21 => zsl b32 (fun e20 =>
  some ((.inl (s1 + 1)), h21)) (fun r => some (r, h21)))
  else
  zob (zgR h14 a0 8 54) (fun v30 =>
  zob (zsI 0 h14 v30 a1 s1) (fun h31 =>
  some ((.inr (.inr 1)), h31))))))))))))))) 0 h0) (fun b33 h4 => zsl b33 (fun e3 =>
  some (0, h4)) (fun r => some (r, h4)))
def f_X8_finds : Nat → Nat → Int32 → zHp → Option (Int32 × zHp)
  | 0 => fun _ _ _ => none
  | n + 1 => b_X8_finds (f_X8_finds n)
set_option maxRecDepth 100000 in
set_option maxHeartbeats 4000000 in
theorem t_X8_finds : ∀ n : Nat, (∀ (a0 : Nat) (a1 : Int32) (h0 : zHp) (r : Int32) (h' : zHp), f_X8_finds n a0 a1 h0 = some (r, h') → zCt yX8_finds (.code yX8_finds cX8_finds 4 (some .boolean)) (3 + n) (104 + n * 23) 0 0 [.ref a0, .int a1] h0 (some (.int r)) h') := by
  intro n
  induction n with
  | zero => intro a0 a1 h0 r h' hc; cases hc
  | succ n ih =>
    intro a0 a1 h0
    refine zct_of (M_X8_finds (n + 1)) yX8_finds (by decide) rfl rfl [.ref a0, .int a1] h0 (Nat.le_of_ble_eq_true rfl) (fun r => some (.int r)) (fun X => ?_)
    show zG X (M_X8_finds (n + 1)) (0, 0) 0 [(0, .ref a0), (1, .int a1)] [] h0 (b_X8_finds (f_X8_finds n) a0 a1 h0) (fun (r : Int32) h' => zKe X (some (.int r)) h')
    unfold b_X8_finds
    refine zg_iconst 0 rfl (d_X8_finds_0 _) ?_
    refine zg_istore_n [(2, .int 0), (0, .ref a0), (1, .int a1)] (d_X8_finds_1 _) rfl (Nat.le_of_ble_eq_true rfl) rfl ?_
    refine zg_bdr (E := 131) (el := (fun (e3 : Int32) => [(0, .ref a0), (1, .int a1), (2, .int e3)])) (es := fun _ => []) (zg_sub [1, 2, 0] rfl (zg_lp (el := (fun (s1 : Int32) => [(0, .ref a0), (1, .int a1), (2, .int s1)])) (fun s1 h2 => ?_) 0 h0)) (fun e3 h4 => ?_)
    · refine zg_iload_n 2 rfl (d_X8_finds_2 _) ?_
      refine zg_aload_n 0 rfl (d_X8_finds_3 _) ?_
      refine zg_getR (d_X8_finds_4 _) zc_8 (by decide) fl_X8_13 (fun v5 => ?_)
      refine zg_iconst 2 rfl (d_X8_finds_7 _) ?_
      refine zg_ald0 (d_X8_finds_8 _) (fun v6 => ?_)
      refine zg_icmp_ge (d_X8_finds_9 _) ?_ ?_
      · exact zg_finK (E := 0) [0, 1, 2] rfl rfl (fun q => q)
      · refine zg_aload_n 0 rfl (d_X8_finds_12 _) ?_
        refine zg_getI (d_X8_finds_13 _) zc_8 (by decide) fl_X8_462 (fun v7 => ?_)
        refine zg_iload_n 2 rfl (d_X8_finds_16 _) ?_
        refine zg_ishr (d_X8_finds_17 _) ?_
        refine zg_iconst 1 rfl (d_X8_finds_18 _) ?_
        refine zg_iand (d_X8_finds_19 _) ?_
        refine zg_iconst 1 rfl (d_X8_finds_20 _) ?_
        refine zg_icmp_eq (d_X8_finds_21 _) ?_ ?_
        · refine zg_iinc 2 (s1 + 1) [(2, .int (s1 + 1)), (0, .ref a0), (1, .int a1)] (d_X8_finds_125 _) rfl rfl (Nat.le_of_ble_eq_true rfl) rfl ?_
          refine zg_goto (d_X8_finds_128 _) ?_
          exact zg_finK (E := 0) [1, 2, 0] rfl rfl (fun q => q)
        · refine zg_aload_n 0 rfl (d_X8_finds_24 _) ?_
          refine zg_iconst 0 rfl (d_X8_finds_25 _) ?_
          refine zg_iload_n 2 rfl (d_X8_finds_26 _) ?_
          refine zg_aload_n 0 rfl (d_X8_finds_27 _) ?_
          refine zg_getR (d_X8_finds_28 _) zc_8 (by decide) fl_X8_81 (fun v8 => ?_)
          refine zg_iload_n 1 rfl (d_X8_finds_31 _) ?_
          refine zg_ald0 (d_X8_finds_32 _) (fun v9 => ?_)
          refine zg_cVi (b := a0) (As := [.int 0, .int s1, .int v9]) (rest := []) (0, 0) (d_X8_finds_33 _) zc_8 rfl cw_X8_390 wi_X8_doesSee ws_X8_doesSee rfl rfl (Nat.le_of_ble_eq_true rfl) (Nat.le_trans (Nat.le_of_ble_eq_true rfl : 2 + 1 ≤ 3) (Nat.le_add_right _ _)) (Nat.le_trans (Nat.le_of_ble_eq_true rfl : 8 + (4 + 11) + 81 ≤ 104) (Nat.le_add_right _ _)) ⟨Nat.le_refl _, Nat.le_refl _⟩ rfl (t_X8_doesSee a0 0 s1 v9 h2) (fun v11 h10 => ?_)
          refine zg_if_ne (d_X8_finds_36 _) ?_ ?_
          · refine zg_goto (d_X8_finds_39 _) ?_
            refine zg_iinc 2 (s1 + 1) [(2, .int (s1 + 1)), (0, .ref a0), (1, .int a1)] (d_X8_finds_125 _) rfl rfl (Nat.le_of_ble_eq_true rfl) rfl ?_
            refine zg_goto (d_X8_finds_128 _) ?_
            exact zg_finK (E := 0) [1, 2, 0] rfl rfl (fun q => q)
          · refine zg_aload_n 0 rfl (d_X8_finds_42 _) ?_
            refine zg_dup rfl (d_X8_finds_43 _) ?_
            refine zg_getI (d_X8_finds_44 _) zc_8 (by decide) fl_X8_462 (fun v12 => ?_)
            refine zg_iconst 1 rfl (d_X8_finds_47 _) ?_
            refine zg_iload_n 2 rfl (d_X8_finds_48 _) ?_
            refine zg_ishl (d_X8_finds_49 _) ?_
            refine zg_ior (d_X8_finds_50 _) ?_
            refine zg_putV (d_X8_finds_51 _) zc_8 (by decide) fl_X8_462 rfl rfl rfl (fun h13 => ?_)
            refine zg_aload_n 0 rfl (d_X8_finds_54 _) ?_
            refine zg_iload_n 2 rfl (d_X8_finds_55 _) ?_
            refine zg_cVi (b := a0) (As := [.int s1]) (rest := []) (0, 0) (d_X8_finds_56 _) zc_8 rfl cw_X8_465 wi_X8_givenTo ws_X8_givenTo rfl rfl (Nat.le_of_ble_eq_true rfl) (Nat.le_trans (Nat.le_of_ble_eq_true rfl : 1 + 1 ≤ 3) (Nat.le_add_right _ _)) (Nat.le_trans (Nat.le_of_ble_eq_true rfl : 8 + (4 + 11) + 60 ≤ 104) (Nat.le_add_right _ _)) ⟨Nat.le_refl _, Nat.le_refl _⟩ rfl (t_X8_givenTo a0 s1 h13) (fun v15 h14 => ?_)
            refine zg_aload_n 0 rfl (d_X8_finds_59 _) ?_
            refine zg_getR (d_X8_finds_60 _) zc_8 (by decide) fl_X8_13 (fun v16 => ?_)
            refine zg_iconst 5 rfl (d_X8_finds_63 _) ?_
            refine zg_ald0 (d_X8_finds_64 _) (fun v17 => ?_)
            refine zg_icmp_ge (d_X8_finds_65 _) ?_ ?_
            · refine zg_iconst 0 rfl (d_X8_finds_77 _) ?_
              refine zg_istore_n [(3, .int 0), (0, .ref a0), (1, .int a1), (2, .int s1)] (d_X8_finds_78 _) rfl (Nat.le_of_ble_eq_true rfl) rfl ?_
              refine zg_bdr (E := 125) (el := (fun (e20 : Int32) => [(0, .ref a0), (1, .int a1), (2, .int s1), (3, .int e20)])) (es := fun _ => []) (zg_sub [1, 2, 3, 0] rfl (zg_lp (el := (fun (s18 : Int32) => [(0, .ref a0), (1, .int a1), (2, .int s1), (3, .int s18)])) (fun s18 h19 => ?_) 0 h14)) (fun e20 h21 => ?_)
              · refine zg_iload_n 3 rfl (d_X8_finds_79 _) ?_
                refine zg_aload_n 0 rfl (d_X8_finds_80 _) ?_
                refine zg_getR (d_X8_finds_81 _) zc_8 (by decide) fl_X8_13 (fun v22 => ?_)
                refine zg_iconst 1 rfl (d_X8_finds_84 _) ?_
                refine zg_ald0 (d_X8_finds_85 _) (fun v23 => ?_)
                refine zg_icmp_ge (d_X8_finds_86 _) ?_ ?_
                · exact zg_finK (E := 0) [0, 1, 2, 3] rfl rfl (fun q => q)
                · refine zg_aload_n 0 rfl (d_X8_finds_89 _) ?_
                  refine zg_getR (d_X8_finds_90 _) zc_8 (by decide) fl_X8_117 (fun v24 => ?_)
                  refine zg_iload_n 3 rfl (d_X8_finds_93 _) ?_
                  refine zg_ald0 (d_X8_finds_94 _) (fun v25 => ?_)
                  refine zg_iload_n 2 rfl (d_X8_finds_95 _) ?_
                  refine zg_icmp_ne (d_X8_finds_96 _) ?_ ?_
                  · refine zg_aload_n 0 rfl (d_X8_finds_99 _) ?_
                    refine zg_iload_n 3 rfl (d_X8_finds_100 _) ?_
                    refine zg_cVi (b := a0) (As := [.int s18]) (rest := []) (0, 0) (d_X8_finds_101 _) zc_8 rfl cw_X8_468 wi_X8_finds ws_X8_finds rfl rfl (Nat.le_of_ble_eq_true rfl) (Nat.le_refl _) (by show 8 + (4 + 11) + (104 + n * 23) ≤ 104 + (n + 1) * 23; omega) ⟨Nat.le_refl _, Nat.le_refl _⟩ rfl (ih a0 s18 h19) (fun v27 h26 => ?_)
                    refine zg_if_ne (d_X8_finds_104 _) ?_ ?_
                    · refine zg_goto (d_X8_finds_107 _) ?_
                      refine zg_iinc 3 (s18 + 1) [(3, .int (s18 + 1)), (0, .ref a0), (1, .int a1), (2, .int s1)] (d_X8_finds_119 _) rfl rfl (Nat.le_of_ble_eq_true rfl) rfl ?_
                      refine zg_goto (d_X8_finds_122 _) ?_
                      exact zg_finK (E := 0) [1, 2, 3, 0] rfl rfl (fun q => q)
                    · refine zg_aload_n 0 rfl (d_X8_finds_110 _) ?_
                      refine zg_getR (d_X8_finds_111 _) zc_8 (by decide) fl_X8_117 (fun v28 => ?_)
                      refine zg_iload_n 1 rfl (d_X8_finds_114 _) ?_
                      refine zg_iload_n 2 rfl (d_X8_finds_115 _) ?_
                      refine zg_ast0 (d_X8_finds_116 _) (fun h29 => ?_)
                      refine zg_iconst 1 rfl (d_X8_finds_117 _) ?_
                      exact zg_zretK (d_X8_finds_118 _) rfl ⟨Nat.le_of_ble_eq_true rfl, Nat.le_of_ble_eq_true rfl⟩ (Or.inr rfl) (fun q => q)
                  · refine zg_iinc 3 (s18 + 1) [(3, .int (s18 + 1)), (0, .ref a0), (1, .int a1), (2, .int s1)] (d_X8_finds_119 _) rfl rfl (Nat.le_of_ble_eq_true rfl) rfl ?_
                    refine zg_goto (d_X8_finds_122 _) ?_
                    exact zg_finK (E := 0) [1, 2, 3, 0] rfl rfl (fun q => q)
              · refine zg_iinc 2 (s1 + 1) [(2, .int (s1 + 1)), (0, .ref a0), (1, .int a1), (3, .int e20)] (d_X8_finds_125 _) rfl rfl (Nat.le_of_ble_eq_true rfl) rfl ?_
                refine zg_goto (d_X8_finds_128 _) ?_
                exact zg_finK (E := 0) [1, 2, 0] rfl rfl (fun q => q)
            · refine zg_aload_n 0 rfl (d_X8_finds_68 _) ?_
              refine zg_getR (d_X8_finds_69 _) zc_8 (by decide) fl_X8_117 (fun v30 => ?_)
              refine zg_iload_n 1 rfl (d_X8_finds_72 _) ?_
              refine zg_iload_n 2 rfl (d_X8_finds_73 _) ?_
              refine zg_ast0 (d_X8_finds_74 _) (fun h31 => ?_)
              refine zg_iconst 1 rfl (d_X8_finds_75 _) ?_
              exact zg_zretK (d_X8_finds_76 _) rfl ⟨Nat.le_of_ble_eq_true rfl, Nat.le_of_ble_eq_true rfl⟩ (Or.inr rfl) (fun q => q)
    · refine zg_iconst 0 rfl (d_X8_finds_131 _) ?_
      exact zg_zretK (d_X8_finds_132 _) rfl ⟨Nat.le_of_ble_eq_true rfl, Nat.le_of_ble_eq_true rfl⟩ (Or.inl rfl) (fun q => q)
abbrev M_X8_could : zMt := (RX8, cX8_could, 3, 14, 357, (some .int), "could", 0, 0)
theorem d_X8_could_0 : zDc M_X8_could 0 (.aload_n 0) 1 1 := ⟨by decide +kernel, rfl⟩
theorem d_X8_could_1 : zDc M_X8_could 1 (.iconst 0) 1 2 := ⟨by decide +kernel, rfl⟩
theorem d_X8_could_2 : zDc M_X8_could 2 (.putfield 151) 3 5 := ⟨by decide +kernel, rfl⟩
theorem d_X8_could_5 : zDc M_X8_could 5 (.iconst 0) 1 6 := ⟨by decide +kernel, rfl⟩
theorem d_X8_could_6 : zDc M_X8_could 6 (.istore_n 1) 1 7 := ⟨by decide +kernel, rfl⟩
theorem d_X8_could_7 : zDc M_X8_could 7 (.iload_n 1) 1 8 := ⟨by decide +kernel, rfl⟩
theorem d_X8_could_8 : zDc M_X8_could 8 (.bipush 8) 2 10 := ⟨by decide +kernel, rfl⟩
theorem d_X8_could_10 : zDj M_X8_could 10 (.if_icmp .ge 16) 16 13 26 := ⟨by decide +kernel, rfl, by decide⟩
theorem d_X8_could_13 : zDc M_X8_could 13 (.aload_n 0) 1 14 := ⟨by decide +kernel, rfl⟩
theorem d_X8_could_14 : zDc M_X8_could 14 (.getfield 117) 3 17 := ⟨by decide +kernel, rfl⟩
theorem d_X8_could_17 : zDc M_X8_could 17 (.iload_n 1) 1 18 := ⟨by decide +kernel, rfl⟩
theorem d_X8_could_18 : zDc M_X8_could 18 (.iconst (-1)) 1 19 := ⟨by decide +kernel, rfl⟩
theorem d_X8_could_19 : zDc M_X8_could 19 (.iastore) 1 20 := ⟨by decide +kernel, rfl⟩
theorem d_X8_could_20 : zDc M_X8_could 20 (.iinc 1 1) 3 23 := ⟨by decide +kernel, rfl⟩
theorem d_X8_could_23 : zDj M_X8_could 23 (.goto (-16)) (-16) 26 7 := ⟨by decide +kernel, rfl, by decide⟩
theorem d_X8_could_26 : zDc M_X8_could 26 (.iconst 0) 1 27 := ⟨by decide +kernel, rfl⟩
theorem d_X8_could_27 : zDc M_X8_could 27 (.istore_n 1) 1 28 := ⟨by decide +kernel, rfl⟩
theorem d_X8_could_28 : zDc M_X8_could 28 (.iconst 0) 1 29 := ⟨by decide +kernel, rfl⟩
theorem d_X8_could_29 : zDc M_X8_could 29 (.istore_n 2) 1 30 := ⟨by decide +kernel, rfl⟩
theorem d_X8_could_30 : zDc M_X8_could 30 (.iload_n 2) 1 31 := ⟨by decide +kernel, rfl⟩
theorem d_X8_could_31 : zDc M_X8_could 31 (.aload_n 0) 1 32 := ⟨by decide +kernel, rfl⟩
theorem d_X8_could_32 : zDc M_X8_could 32 (.getfield 13) 3 35 := ⟨by decide +kernel, rfl⟩
theorem d_X8_could_35 : zDc M_X8_could 35 (.iconst 1) 1 36 := ⟨by decide +kernel, rfl⟩
theorem d_X8_could_36 : zDc M_X8_could 36 (.iaload) 1 37 := ⟨by decide +kernel, rfl⟩
theorem d_X8_could_37 : zDj M_X8_could 37 (.if_icmp .ge 39) 39 40 76 := ⟨by decide +kernel, rfl, by decide⟩
theorem d_X8_could_40 : zDc M_X8_could 40 (.aload_n 0) 1 41 := ⟨by decide +kernel, rfl⟩
theorem d_X8_could_41 : zDc M_X8_could 41 (.iconst 0) 1 42 := ⟨by decide +kernel, rfl⟩
theorem d_X8_could_42 : zDc M_X8_could 42 (.putfield 462) 3 45 := ⟨by decide +kernel, rfl⟩
theorem d_X8_could_45 : zDc M_X8_could 45 (.iload_n 1) 1 46 := ⟨by decide +kernel, rfl⟩
theorem d_X8_could_46 : zDc M_X8_could 46 (.aload_n 0) 1 47 := ⟨by decide +kernel, rfl⟩
theorem d_X8_could_47 : zDc M_X8_could 47 (.iconst 0) 1 48 := ⟨by decide +kernel, rfl⟩
theorem d_X8_could_48 : zDc M_X8_could 48 (.iload_n 2) 1 49 := ⟨by decide +kernel, rfl⟩
theorem d_X8_could_49 : zDc M_X8_could 49 (.invokevirtual 351) 3 52 := ⟨by decide +kernel, rfl⟩
theorem d_X8_could_52 : zDj M_X8_could 52 (.ifCond .eq 15) 15 55 67 := ⟨by decide +kernel, rfl, by decide⟩
theorem d_X8_could_55 : zDc M_X8_could 55 (.aload_n 0) 1 56 := ⟨by decide +kernel, rfl⟩
theorem d_X8_could_56 : zDc M_X8_could 56 (.iload_n 2) 1 57 := ⟨by decide +kernel, rfl⟩
theorem d_X8_could_57 : zDc M_X8_could 57 (.invokevirtual 468) 3 60 := ⟨by decide +kernel, rfl⟩
theorem d_X8_could_60 : zDj M_X8_could 60 (.ifCond .eq 7) 7 63 67 := ⟨by decide +kernel, rfl, by decide⟩
theorem d_X8_could_63 : zDc M_X8_could 63 (.iconst 1) 1 64 := ⟨by decide +kernel, rfl⟩
theorem d_X8_could_64 : zDj M_X8_could 64 (.goto 4) 4 67 68 := ⟨by decide +kernel, rfl, by decide⟩
theorem d_X8_could_67 : zDc M_X8_could 67 (.iconst 0) 1 68 := ⟨by decide +kernel, rfl⟩
theorem d_X8_could_68 : zDc M_X8_could 68 (.iadd) 1 69 := ⟨by decide +kernel, rfl⟩
theorem d_X8_could_69 : zDc M_X8_could 69 (.istore_n 1) 1 70 := ⟨by decide +kernel, rfl⟩
theorem d_X8_could_70 : zDc M_X8_could 70 (.iinc 2 1) 3 73 := ⟨by decide +kernel, rfl⟩
theorem d_X8_could_73 : zDj M_X8_could 73 (.goto (-43)) (-43) 76 30 := ⟨by decide +kernel, rfl, by decide⟩
theorem d_X8_could_76 : zDc M_X8_could 76 (.iload_n 1) 1 77 := ⟨by decide +kernel, rfl⟩
theorem d_X8_could_77 : zDc M_X8_could 77 (.ireturn) 1 78 := ⟨by decide +kernel, rfl⟩
def f_X8_could (a0 : Nat) (h0 : zHp) : Option (Int32 × zHp) :=
  zob (zpV h0 a0 8 0 (.int 0)) (fun h1 =>
  zbd (
  zlp (σ := Int32) (β := Int32) zLF (fun s2 h3 =>
  if 8 ≤ s2 then
  some ((.inr s2), h3)
  else
  zob (zgR h3 a0 8 54) (fun v6 =>
  zob (zsI 0 h3 v6 s2 (-1)) (fun h7 =>
  some ((.inl (s2 + 1)), h7)))) 0 h1) (fun e4 h5 =>
  zbd (
  zlp (σ := (Int32 × Int32)) (β := (Int32 × Int32)) zLF (fun s8 h9 =>
  zob (zgR h9 a0 8 3) (fun v12 =>
  zob (zaI 0 h9 v12 1) (fun v13 =>
  if v13 ≤ s8.2 then
  some ((.inr (s8.1, s8.2)), h9)
  else
  zob (zpV h9 a0 8 55 (.int 0)) (fun h14 =>
  zbd (zcv 8 a0 h14 (f_X8_isUp a0 0 s8.2 h14)) (fun v16 h15 =>
  if v16 = 0 then
  some ((.inl ((s8.1 + 0), (s8.2 + 1))), h15)
  else
  zbd (zcv 8 a0 h15 (f_X8_finds 10 a0 s8.2 h15)) (fun v18 h17 =>
  if v18 = 0 then
  some ((.inl ((s8.1 + 0), (s8.2 + 1))), h17)
  else
  some ((.inl ((s8.1 + 1), (s8.2 + 1))), h17))))))) (0, 0) h5) (fun e10 h11 =>
  some (e10.1, h11))))
set_option maxRecDepth 100000 in
set_option maxHeartbeats 4000000 in
theorem t_X8_could (a0 : Nat) (h0 : zHp) : ∀ (r : Int32) (h' : zHp), f_X8_could a0 h0 = some (r, h') → zCt yX8_could (.code yX8_could cX8_could 3 (some .int)) 14 357 0 0 [.ref a0] h0 (some (.int r)) h' := by
  refine zct_of M_X8_could yX8_could (by decide) rfl rfl [.ref a0] h0 (Nat.le_of_ble_eq_true rfl) (fun r => some (.int r)) (fun X => ?_)
  show zG X M_X8_could (0, 0) 0 [(0, .ref a0)] [] h0 (f_X8_could a0 h0) (fun (r : Int32) h' => zKe X (some (.int r)) h')
  unfold f_X8_could
  refine zg_aload_n 0 rfl d_X8_could_0 ?_
  refine zg_iconst 0 rfl d_X8_could_1 ?_
  refine zg_putV d_X8_could_2 zc_8 (by decide) fl_X8_151 rfl rfl rfl (fun h1 => ?_)
  refine zg_iconst 0 rfl d_X8_could_5 ?_
  refine zg_istore_n [(1, .int 0), (0, .ref a0)] d_X8_could_6 rfl (by decide) rfl ?_
  refine zg_bd (E := 26) (el := (fun (e4 : Int32) => [(0, .ref a0), (1, .int e4)])) (es := fun _ => []) (zg_sub [1, 0] rfl (zg_lp (el := (fun (s2 : Int32) => [(0, .ref a0), (1, .int s2)])) (fun s2 h3 => ?_) 0 h1)) (fun e4 h5 => ?_)
  · refine zg_iload_n 1 rfl d_X8_could_7 ?_
    refine zg_bipush 8 rfl d_X8_could_8 ?_
    refine zg_icmp_ge d_X8_could_10 ?_ ?_
    · exact zg_finK (E := 0) [0, 1] rfl rfl (fun q => q)
    · refine zg_aload_n 0 rfl d_X8_could_13 ?_
      refine zg_getR d_X8_could_14 zc_8 (by decide) fl_X8_117 (fun v6 => ?_)
      refine zg_iload_n 1 rfl d_X8_could_17 ?_
      refine zg_iconst (-1) rfl d_X8_could_18 ?_
      refine zg_ast0 d_X8_could_19 (fun h7 => ?_)
      refine zg_iinc 1 (s2 + 1) [(1, .int (s2 + 1)), (0, .ref a0)] d_X8_could_20 rfl rfl (by decide) rfl ?_
      refine zg_goto d_X8_could_23 ?_
      exact zg_finK (E := 0) [1, 0] rfl rfl (fun q => q)
  · refine zg_iconst 0 rfl d_X8_could_26 ?_
    refine zg_istore_n [(1, .int 0), (0, .ref a0)] d_X8_could_27 rfl (by decide) rfl ?_
    refine zg_iconst 0 rfl d_X8_could_28 ?_
    refine zg_istore_n [(2, .int 0), (1, .int 0), (0, .ref a0)] d_X8_could_29 rfl (by decide) rfl ?_
    refine zg_bd (E := 76) (el := (fun (e10 : (Int32 × Int32)) => [(0, .ref a0), (1, .int e10.1), (2, .int e10.2)])) (es := fun _ => []) (zg_sub [2, 1, 0] rfl (zg_lp (el := (fun (s8 : (Int32 × Int32)) => [(0, .ref a0), (1, .int s8.1), (2, .int s8.2)])) (fun s8 h9 => ?_) (0, 0) h5)) (fun e10 h11 => ?_)
    · refine zg_iload_n 2 rfl d_X8_could_30 ?_
      refine zg_aload_n 0 rfl d_X8_could_31 ?_
      refine zg_getR d_X8_could_32 zc_8 (by decide) fl_X8_13 (fun v12 => ?_)
      refine zg_iconst 1 rfl d_X8_could_35 ?_
      refine zg_ald0 d_X8_could_36 (fun v13 => ?_)
      refine zg_icmp_ge d_X8_could_37 ?_ ?_
      · exact zg_finK (E := 0) [0, 1, 2] rfl rfl (fun q => q)
      · refine zg_aload_n 0 rfl d_X8_could_40 ?_
        refine zg_iconst 0 rfl d_X8_could_41 ?_
        refine zg_putV d_X8_could_42 zc_8 (by decide) fl_X8_462 rfl rfl rfl (fun h14 => ?_)
        refine zg_iload_n 1 rfl d_X8_could_45 ?_
        refine zg_aload_n 0 rfl d_X8_could_46 ?_
        refine zg_iconst 0 rfl d_X8_could_47 ?_
        refine zg_iload_n 2 rfl d_X8_could_48 ?_
        refine zg_cVi (b := a0) (As := [.int 0, .int s8.2]) (rest := [.int s8.1]) (0, 0) d_X8_could_49 zc_8 rfl cw_X8_351 wi_X8_isUp ws_X8_isUp rfl rfl (Nat.le_of_ble_eq_true rfl) (by decide) (by decide) ⟨by decide, by decide⟩ rfl (t_X8_isUp a0 0 s8.2 h14) (fun v16 h15 => ?_)
        refine zg_if_eq d_X8_could_52 ?_ ?_
        · refine zg_iconst 0 rfl d_X8_could_67 ?_
          refine zg_iadd d_X8_could_68 ?_
          refine zg_istore_n [(1, .int (s8.1 + 0)), (0, .ref a0), (2, .int s8.2)] d_X8_could_69 rfl (by decide) rfl ?_
          refine zg_iinc 2 (s8.2 + 1) [(2, .int (s8.2 + 1)), (1, .int (s8.1 + 0)), (0, .ref a0)] d_X8_could_70 rfl rfl (by decide) rfl ?_
          refine zg_goto d_X8_could_73 ?_
          exact zg_finK (E := 0) [2, 1, 0] rfl rfl (fun q => q)
        · refine zg_aload_n 0 rfl d_X8_could_55 ?_
          refine zg_iload_n 2 rfl d_X8_could_56 ?_
          refine zg_cVi (b := a0) (As := [.int s8.2]) (rest := [.int s8.1]) (0, 0) d_X8_could_57 zc_8 rfl cw_X8_468 wi_X8_finds ws_X8_finds rfl rfl (Nat.le_of_ble_eq_true rfl) (by decide) (by decide) ⟨by decide, by decide⟩ rfl (t_X8_finds 10 a0 s8.2 h15) (fun v18 h17 => ?_)
          refine zg_if_eq d_X8_could_60 ?_ ?_
          · refine zg_iconst 0 rfl d_X8_could_67 ?_
            refine zg_iadd d_X8_could_68 ?_
            refine zg_istore_n [(1, .int (s8.1 + 0)), (0, .ref a0), (2, .int s8.2)] d_X8_could_69 rfl (by decide) rfl ?_
            refine zg_iinc 2 (s8.2 + 1) [(2, .int (s8.2 + 1)), (1, .int (s8.1 + 0)), (0, .ref a0)] d_X8_could_70 rfl rfl (by decide) rfl ?_
            refine zg_goto d_X8_could_73 ?_
            exact zg_finK (E := 0) [2, 1, 0] rfl rfl (fun q => q)
          · refine zg_iconst 1 rfl d_X8_could_63 ?_
            refine zg_goto d_X8_could_64 ?_
            refine zg_iadd d_X8_could_68 ?_
            refine zg_istore_n [(1, .int (s8.1 + 1)), (0, .ref a0), (2, .int s8.2)] d_X8_could_69 rfl (by decide) rfl ?_
            refine zg_iinc 2 (s8.2 + 1) [(2, .int (s8.2 + 1)), (1, .int (s8.1 + 1)), (0, .ref a0)] d_X8_could_70 rfl rfl (by decide) rfl ?_
            refine zg_goto d_X8_could_73 ?_
            exact zg_finK (E := 0) [2, 1, 0] rfl rfl (fun q => q)
    · refine zg_iload_n 1 rfl d_X8_could_76 ?_
      exact zg_iretK d_X8_could_77 rfl ⟨Nat.le_of_ble_eq_true rfl, Nat.le_of_ble_eq_true rfl⟩ (fun q => q)

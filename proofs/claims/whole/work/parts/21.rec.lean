theorem ml_X1_88 : Cond.methodLink RX1 88 yX1_rowsFrom ∈ zT := zw_of _ 1106 (by decide +kernel) (by decide +kernel)
theorem cd_X1_rowsFrom : Cond.code yX1_rowsFrom cX1_rowsFrom 7 (some .int) ∈ zT := zw_of _ 1109 (by decide +kernel) (by decide +kernel)
theorem cw_X1_88 : zCw RX1 88 yX1_rowsFrom cX1_rowsFrom 7 (some .int) 3 := ⟨ml_X1_88, ni_X1, cd_X1_rowsFrom, by decide, by decide, by decide +kernel⟩
theorem wi_X1_rowsFrom : Cond.instanceMethod yX1_rowsFrom ∈ zT := zw_of _ 1108 (by decide +kernel) (by decide +kernel)
theorem ws_X1_rowsFrom : Cond.selects RX1 yX1_rowsFrom yX1_rowsFrom ∈ zT := zw_of _ 45 (by decide +kernel) (by decide +kernel)
theorem ml_X1_94 : Cond.methodLink RX1 94 yX1_rowsOf ∈ zT := zw_of _ 1110 (by decide +kernel) (by decide +kernel)
theorem cd_X1_rowsOf : Cond.code yX1_rowsOf cX1_rowsOf 3 (some .int) ∈ zT := zw_of _ 1112 (by decide +kernel) (by decide +kernel)
theorem cw_X1_94 : zCw RX1 94 yX1_rowsOf cX1_rowsOf 3 (some .int) 1 := ⟨ml_X1_94, ni_X1, cd_X1_rowsOf, by decide, by decide, by decide +kernel⟩
theorem wt_X1_rowsOf : Cond.static yX1_rowsOf ∈ zT := zw_of _ 1111 (by decide +kernel) (by decide +kernel)
theorem ml_X1_110 : Cond.methodLink RX1 110 yX5_firstToPush ∈ zT := zw_of _ 1127 (by decide +kernel) (by decide +kernel)
theorem cw_X1_110 : zCw RX1 110 yX5_firstToPush cX5_firstToPush 3 (some .int) 1 := ⟨ml_X1_110, ni_X5, cd_X5_firstToPush, by decide, by decide, by decide +kernel⟩
theorem ml_X1_100 : Cond.methodLink RX1 100 yX1_planFrom ∈ zT := zw_of _ 1122 (by decide +kernel) (by decide +kernel)
theorem cd_X1_planFrom : Cond.code yX1_planFrom cX1_planFrom 8 none ∈ zT := zw_of _ 1125 (by decide +kernel) (by decide +kernel)
theorem cw_X1_100 : zCw RX1 100 yX1_planFrom cX1_planFrom 8 none 4 := ⟨ml_X1_100, ni_X1, cd_X1_planFrom, by decide, by decide, by decide +kernel⟩
theorem wi_X1_planFrom : Cond.instanceMethod yX1_planFrom ∈ zT := zw_of _ 1124 (by decide +kernel) (by decide +kernel)
theorem ws_X1_planFrom : Cond.selects RX1 yX1_planFrom yX1_planFrom ∈ zT := zw_of _ 46 (by decide +kernel) (by decide +kernel)
theorem fl_X1_97 : Cond.fieldLink RX1 97 (TX1 7).1 (TX1 7).2.1 (TX1 7).2.2.1 ∈ zT := zw_of _ 550 (by decide +kernel) (by decide +kernel)
theorem ml_X1_104 : Cond.methodLink RX1 104 arraycopyName ∈ zT := zw_of _ 1126 (by decide +kernel) (by decide +kernel)
theorem ml_X1_82 : Cond.methodLink RX1 82 Lib.Math.min.name ∈ zT := zw_of _ 1105 (by decide +kernel) (by decide +kernel)
theorem ml_X7_275 : Cond.methodLink RX7 275 yX1_rowsWithRain ∈ zT := zw_of _ 1101 (by decide +kernel) (by decide +kernel)
theorem cd_X1_rowsWithRain : Cond.code yX1_rowsWithRain cX1_rowsWithRain 4 (some .int) ∈ zT := zw_of _ 1104 (by decide +kernel) (by decide +kernel)
theorem cw_X7_275 : zCw RX7 275 yX1_rowsWithRain cX1_rowsWithRain 4 (some .int) 3 := ⟨ml_X7_275, ni_X1, cd_X1_rowsWithRain, by decide, by decide, by decide +kernel⟩
theorem wi_X1_rowsWithRain : Cond.instanceMethod yX1_rowsWithRain ∈ zT := zw_of _ 1102 (by decide +kernel) (by decide +kernel)
theorem ws_X1_rowsWithRain : Cond.selects RX1 yX1_rowsWithRain yX1_rowsWithRain ∈ zT := zw_of _ 1103 (by decide +kernel) (by decide +kernel)
theorem ml_X7_278 : Cond.methodLink RX7 278 yX1_rowsOf ∈ zT := zw_of _ 1113 (by decide +kernel) (by decide +kernel)
theorem cw_X7_278 : zCw RX7 278 yX1_rowsOf cX1_rowsOf 3 (some .int) 1 := ⟨ml_X7_278, ni_X1, cd_X1_rowsOf, by decide, by decide, by decide +kernel⟩
theorem ml_X7_281 : Cond.methodLink RX7 281 yX1_planOf ∈ zT := zw_of _ 1118 (by decide +kernel) (by decide +kernel)
theorem cd_X1_planOf : Cond.code yX1_planOf cX1_planOf 5 (some .int) ∈ zT := zw_of _ 1121 (by decide +kernel) (by decide +kernel)
theorem cw_X7_281 : zCw RX7 281 yX1_planOf cX1_planOf 5 (some .int) 4 := ⟨ml_X7_281, ni_X1, cd_X1_planOf, by decide, by decide, by decide +kernel⟩
theorem wi_X1_planOf : Cond.instanceMethod yX1_planOf ∈ zT := zw_of _ 1119 (by decide +kernel) (by decide +kernel)
theorem ws_X1_planOf : Cond.selects RX1 yX1_planOf yX1_planOf ∈ zT := zw_of _ 1120 (by decide +kernel) (by decide +kernel)
theorem ml_X7_285 : Cond.methodLink RX7 285 yX1_plannedPush ∈ zT := zw_of _ 1137 (by decide +kernel) (by decide +kernel)
theorem cd_X1_plannedPush : Cond.code yX1_plannedPush cX1_plannedPush 2 (some .int) ∈ zT := zw_of _ 1140 (by decide +kernel) (by decide +kernel)
theorem cw_X7_285 : zCw RX7 285 yX1_plannedPush cX1_plannedPush 2 (some .int) 1 := ⟨ml_X7_285, ni_X1, cd_X1_plannedPush, by decide, by decide, by decide +kernel⟩
theorem wi_X1_plannedPush : Cond.instanceMethod yX1_plannedPush ∈ zT := zw_of _ 1138 (by decide +kernel) (by decide +kernel)
theorem ws_X1_plannedPush : Cond.selects RX1 yX1_plannedPush yX1_plannedPush ∈ zT := zw_of _ 1139 (by decide +kernel) (by decide +kernel)
abbrev M_X1_rowsFrom (n : Nat) : zMt := (RX1, cX1_rowsFrom, 7, 6 + n, 183 + n * 26, (some .int), "rowsFrom", 0, 0)
theorem d_X1_rowsFrom_0 (n : Nat) : zDc (M_X1_rowsFrom n) 0 (.iload_n 1) 1 1 := ⟨(by decide +kernel : decode cX1_rowsFrom 0 = .ok (.iload_n 1, 1)), rfl⟩
theorem d_X1_rowsFrom_1 (n : Nat) : zDc (M_X1_rowsFrom n) 1 (.iload_n 3) 1 2 := ⟨(by decide +kernel : decode cX1_rowsFrom 1 = .ok (.iload_n 3, 1)), rfl⟩
theorem d_X1_rowsFrom_2 (n : Nat) : zDj (M_X1_rowsFrom n) 2 (.if_icmp .lt 5) 5 5 7 := ⟨(by decide +kernel : decode cX1_rowsFrom 2 = .ok (.if_icmp .lt 5, 3)), rfl, by decide⟩
theorem d_X1_rowsFrom_5 (n : Nat) : zDc (M_X1_rowsFrom n) 5 (.iconst 0) 1 6 := ⟨(by decide +kernel : decode cX1_rowsFrom 5 = .ok (.iconst 0, 1)), rfl⟩
theorem d_X1_rowsFrom_6 (n : Nat) : zDc (M_X1_rowsFrom n) 6 (.ireturn) 1 7 := ⟨(by decide +kernel : decode cX1_rowsFrom 6 = .ok (.ireturn, 1)), rfl⟩
theorem d_X1_rowsFrom_7 (n : Nat) : zDc (M_X1_rowsFrom n) 7 (.iconst 0) 1 8 := ⟨(by decide +kernel : decode cX1_rowsFrom 7 = .ok (.iconst 0, 1)), rfl⟩
theorem d_X1_rowsFrom_8 (n : Nat) : zDc (M_X1_rowsFrom n) 8 (.istore 4) 2 10 := ⟨(by decide +kernel : decode cX1_rowsFrom 8 = .ok (.istore 4, 2)), rfl⟩
theorem d_X1_rowsFrom_10 (n : Nat) : zDc (M_X1_rowsFrom n) 10 (.aload_n 0) 1 11 := ⟨(by decide +kernel : decode cX1_rowsFrom 10 = .ok (.aload_n 0, 1)), rfl⟩
theorem d_X1_rowsFrom_11 (n : Nat) : zDc (M_X1_rowsFrom n) 11 (.getfield 11) 3 14 := ⟨(by decide +kernel : decode cX1_rowsFrom 11 = .ok (.getfield 11, 3)), rfl⟩
theorem d_X1_rowsFrom_14 (n : Nat) : zDc (M_X1_rowsFrom n) 14 (.iload_n 1) 1 15 := ⟨(by decide +kernel : decode cX1_rowsFrom 14 = .ok (.iload_n 1, 1)), rfl⟩
theorem d_X1_rowsFrom_15 (n : Nat) : zDc (M_X1_rowsFrom n) 15 (.iconst 1) 1 16 := ⟨(by decide +kernel : decode cX1_rowsFrom 15 = .ok (.iconst 1, 1)), rfl⟩
theorem d_X1_rowsFrom_16 (n : Nat) : zDc (M_X1_rowsFrom n) 16 (.iadd) 1 17 := ⟨(by decide +kernel : decode cX1_rowsFrom 16 = .ok (.iadd, 1)), rfl⟩
theorem d_X1_rowsFrom_17 (n : Nat) : zDc (M_X1_rowsFrom n) 17 (.aaload) 1 18 := ⟨(by decide +kernel : decode cX1_rowsFrom 17 = .ok (.aaload, 1)), rfl⟩
theorem d_X1_rowsFrom_18 (n : Nat) : zDc (M_X1_rowsFrom n) 18 (.astore 5) 2 20 := ⟨(by decide +kernel : decode cX1_rowsFrom 18 = .ok (.astore 5, 2)), rfl⟩
theorem d_X1_rowsFrom_20 (n : Nat) : zDc (M_X1_rowsFrom n) 20 (.iconst 0) 1 21 := ⟨(by decide +kernel : decode cX1_rowsFrom 20 = .ok (.iconst 0, 1)), rfl⟩
theorem d_X1_rowsFrom_21 (n : Nat) : zDc (M_X1_rowsFrom n) 21 (.istore 6) 2 23 := ⟨(by decide +kernel : decode cX1_rowsFrom 21 = .ok (.istore 6, 2)), rfl⟩
theorem d_X1_rowsFrom_23 (n : Nat) : zDc (M_X1_rowsFrom n) 23 (.iload 6) 2 25 := ⟨(by decide +kernel : decode cX1_rowsFrom 23 = .ok (.iload 6, 2)), rfl⟩
theorem d_X1_rowsFrom_25 (n : Nat) : zDc (M_X1_rowsFrom n) 25 (.iconst 5) 1 26 := ⟨(by decide +kernel : decode cX1_rowsFrom 25 = .ok (.iconst 5, 1)), rfl⟩
theorem d_X1_rowsFrom_26 (n : Nat) : zDj (M_X1_rowsFrom n) 26 (.if_icmp .ge 78) 78 29 104 := ⟨(by decide +kernel : decode cX1_rowsFrom 26 = .ok (.if_icmp .ge 78, 3)), rfl, by decide⟩
theorem d_X1_rowsFrom_29 (n : Nat) : zDc (M_X1_rowsFrom n) 29 (.aload 5) 2 31 := ⟨(by decide +kernel : decode cX1_rowsFrom 29 = .ok (.aload 5, 2)), rfl⟩
theorem d_X1_rowsFrom_31 (n : Nat) : zDc (M_X1_rowsFrom n) 31 (.aload_n 0) 1 32 := ⟨(by decide +kernel : decode cX1_rowsFrom 31 = .ok (.aload_n 0, 1)), rfl⟩
theorem d_X1_rowsFrom_32 (n : Nat) : zDc (M_X1_rowsFrom n) 32 (.getfield 11) 3 35 := ⟨(by decide +kernel : decode cX1_rowsFrom 32 = .ok (.getfield 11, 3)), rfl⟩
theorem d_X1_rowsFrom_35 (n : Nat) : zDc (M_X1_rowsFrom n) 35 (.iload_n 1) 1 36 := ⟨(by decide +kernel : decode cX1_rowsFrom 35 = .ok (.iload_n 1, 1)), rfl⟩
theorem d_X1_rowsFrom_36 (n : Nat) : zDc (M_X1_rowsFrom n) 36 (.aaload) 1 37 := ⟨(by decide +kernel : decode cX1_rowsFrom 36 = .ok (.aaload, 1)), rfl⟩
theorem d_X1_rowsFrom_37 (n : Nat) : zDc (M_X1_rowsFrom n) 37 (.invokevirtual 40) 3 40 := ⟨(by decide +kernel : decode cX1_rowsFrom 37 = .ok (.invokevirtual 40, 3)), rfl⟩
theorem d_X1_rowsFrom_40 (n : Nat) : zDc (M_X1_rowsFrom n) 40 (.aload 5) 2 42 := ⟨(by decide +kernel : decode cX1_rowsFrom 40 = .ok (.aload 5, 2)), rfl⟩
theorem d_X1_rowsFrom_42 (n : Nat) : zDc (M_X1_rowsFrom n) 42 (.iload 6) 2 44 := ⟨(by decide +kernel : decode cX1_rowsFrom 42 = .ok (.iload 6, 2)), rfl⟩
theorem d_X1_rowsFrom_44 (n : Nat) : zDc (M_X1_rowsFrom n) 44 (.invokevirtual 55) 3 47 := ⟨(by decide +kernel : decode cX1_rowsFrom 44 = .ok (.invokevirtual 55, 3)), rfl⟩
theorem d_X1_rowsFrom_47 (n : Nat) : zDc (M_X1_rowsFrom n) 47 (.aload 5) 2 49 := ⟨(by decide +kernel : decode cX1_rowsFrom 47 = .ok (.aload 5, 2)), rfl⟩
theorem d_X1_rowsFrom_49 (n : Nat) : zDc (M_X1_rowsFrom n) 49 (.getfield 91) 3 52 := ⟨(by decide +kernel : decode cX1_rowsFrom 49 = .ok (.getfield 91, 3)), rfl⟩
theorem d_X1_rowsFrom_52 (n : Nat) : zDc (M_X1_rowsFrom n) 52 (.iload_n 2) 1 53 := ⟨(by decide +kernel : decode cX1_rowsFrom 52 = .ok (.iload_n 2, 1)), rfl⟩
theorem d_X1_rowsFrom_53 (n : Nat) : zDc (M_X1_rowsFrom n) 53 (.iaload) 1 54 := ⟨(by decide +kernel : decode cX1_rowsFrom 53 = .ok (.iaload, 1)), rfl⟩
theorem d_X1_rowsFrom_54 (n : Nat) : zDc (M_X1_rowsFrom n) 54 (.aload_n 0) 1 55 := ⟨(by decide +kernel : decode cX1_rowsFrom 54 = .ok (.aload_n 0, 1)), rfl⟩
theorem d_X1_rowsFrom_55 (n : Nat) : zDc (M_X1_rowsFrom n) 55 (.getfield 11) 3 58 := ⟨(by decide +kernel : decode cX1_rowsFrom 55 = .ok (.getfield 11, 3)), rfl⟩
theorem d_X1_rowsFrom_58 (n : Nat) : zDc (M_X1_rowsFrom n) 58 (.iload_n 1) 1 59 := ⟨(by decide +kernel : decode cX1_rowsFrom 58 = .ok (.iload_n 1, 1)), rfl⟩
theorem d_X1_rowsFrom_59 (n : Nat) : zDc (M_X1_rowsFrom n) 59 (.aaload) 1 60 := ⟨(by decide +kernel : decode cX1_rowsFrom 59 = .ok (.aaload, 1)), rfl⟩
theorem d_X1_rowsFrom_60 (n : Nat) : zDc (M_X1_rowsFrom n) 60 (.getfield 91) 3 63 := ⟨(by decide +kernel : decode cX1_rowsFrom 60 = .ok (.getfield 91, 3)), rfl⟩
theorem d_X1_rowsFrom_63 (n : Nat) : zDc (M_X1_rowsFrom n) 63 (.iload_n 2) 1 64 := ⟨(by decide +kernel : decode cX1_rowsFrom 63 = .ok (.iload_n 2, 1)), rfl⟩
theorem d_X1_rowsFrom_64 (n : Nat) : zDc (M_X1_rowsFrom n) 64 (.iaload) 1 65 := ⟨(by decide +kernel : decode cX1_rowsFrom 64 = .ok (.iaload, 1)), rfl⟩
theorem d_X1_rowsFrom_65 (n : Nat) : zDj (M_X1_rowsFrom n) 65 (.if_icmp .le 19) 19 68 84 := ⟨(by decide +kernel : decode cX1_rowsFrom 65 = .ok (.if_icmp .le 19, 3)), rfl, by decide⟩
theorem d_X1_rowsFrom_68 (n : Nat) : zDc (M_X1_rowsFrom n) 68 (.iload 4) 2 70 := ⟨(by decide +kernel : decode cX1_rowsFrom 68 = .ok (.iload 4, 2)), rfl⟩
theorem d_X1_rowsFrom_70 (n : Nat) : zDc (M_X1_rowsFrom n) 70 (.iload_n 3) 1 71 := ⟨(by decide +kernel : decode cX1_rowsFrom 70 = .ok (.iload_n 3, 1)), rfl⟩
theorem d_X1_rowsFrom_71 (n : Nat) : zDc (M_X1_rowsFrom n) 71 (.iload_n 1) 1 72 := ⟨(by decide +kernel : decode cX1_rowsFrom 71 = .ok (.iload_n 1, 1)), rfl⟩
theorem d_X1_rowsFrom_72 (n : Nat) : zDc (M_X1_rowsFrom n) 72 (.isub) 1 73 := ⟨(by decide +kernel : decode cX1_rowsFrom 72 = .ok (.isub, 1)), rfl⟩
theorem d_X1_rowsFrom_73 (n : Nat) : zDc (M_X1_rowsFrom n) 73 (.iconst 1) 1 74 := ⟨(by decide +kernel : decode cX1_rowsFrom 73 = .ok (.iconst 1, 1)), rfl⟩
theorem d_X1_rowsFrom_74 (n : Nat) : zDc (M_X1_rowsFrom n) 74 (.isub) 1 75 := ⟨(by decide +kernel : decode cX1_rowsFrom 74 = .ok (.isub, 1)), rfl⟩
theorem d_X1_rowsFrom_75 (n : Nat) : zDc (M_X1_rowsFrom n) 75 (.invokestatic 94) 3 78 := ⟨(by decide +kernel : decode cX1_rowsFrom 75 = .ok (.invokestatic 94, 3)), rfl⟩
theorem d_X1_rowsFrom_78 (n : Nat) : zDc (M_X1_rowsFrom n) 78 (.iadd) 1 79 := ⟨(by decide +kernel : decode cX1_rowsFrom 78 = .ok (.iadd, 1)), rfl⟩
theorem d_X1_rowsFrom_79 (n : Nat) : zDc (M_X1_rowsFrom n) 79 (.istore 4) 2 81 := ⟨(by decide +kernel : decode cX1_rowsFrom 79 = .ok (.istore 4, 2)), rfl⟩
theorem d_X1_rowsFrom_81 (n : Nat) : zDj (M_X1_rowsFrom n) 81 (.goto 17) 17 84 98 := ⟨(by decide +kernel : decode cX1_rowsFrom 81 = .ok (.goto 17, 3)), rfl, by decide⟩
theorem d_X1_rowsFrom_84 (n : Nat) : zDc (M_X1_rowsFrom n) 84 (.iload 4) 2 86 := ⟨(by decide +kernel : decode cX1_rowsFrom 84 = .ok (.iload 4, 2)), rfl⟩
theorem d_X1_rowsFrom_86 (n : Nat) : zDc (M_X1_rowsFrom n) 86 (.aload_n 0) 1 87 := ⟨(by decide +kernel : decode cX1_rowsFrom 86 = .ok (.aload_n 0, 1)), rfl⟩
theorem d_X1_rowsFrom_87 (n : Nat) : zDc (M_X1_rowsFrom n) 87 (.iload_n 1) 1 88 := ⟨(by decide +kernel : decode cX1_rowsFrom 87 = .ok (.iload_n 1, 1)), rfl⟩
theorem d_X1_rowsFrom_88 (n : Nat) : zDc (M_X1_rowsFrom n) 88 (.iconst 1) 1 89 := ⟨(by decide +kernel : decode cX1_rowsFrom 88 = .ok (.iconst 1, 1)), rfl⟩
theorem d_X1_rowsFrom_89 (n : Nat) : zDc (M_X1_rowsFrom n) 89 (.iadd) 1 90 := ⟨(by decide +kernel : decode cX1_rowsFrom 89 = .ok (.iadd, 1)), rfl⟩
theorem d_X1_rowsFrom_90 (n : Nat) : zDc (M_X1_rowsFrom n) 90 (.iload_n 2) 1 91 := ⟨(by decide +kernel : decode cX1_rowsFrom 90 = .ok (.iload_n 2, 1)), rfl⟩
theorem d_X1_rowsFrom_91 (n : Nat) : zDc (M_X1_rowsFrom n) 91 (.iload_n 3) 1 92 := ⟨(by decide +kernel : decode cX1_rowsFrom 91 = .ok (.iload_n 3, 1)), rfl⟩
theorem d_X1_rowsFrom_92 (n : Nat) : zDc (M_X1_rowsFrom n) 92 (.invokevirtual 88) 3 95 := ⟨(by decide +kernel : decode cX1_rowsFrom 92 = .ok (.invokevirtual 88, 3)), rfl⟩
theorem d_X1_rowsFrom_95 (n : Nat) : zDc (M_X1_rowsFrom n) 95 (.iadd) 1 96 := ⟨(by decide +kernel : decode cX1_rowsFrom 95 = .ok (.iadd, 1)), rfl⟩
theorem d_X1_rowsFrom_96 (n : Nat) : zDc (M_X1_rowsFrom n) 96 (.istore 4) 2 98 := ⟨(by decide +kernel : decode cX1_rowsFrom 96 = .ok (.istore 4, 2)), rfl⟩
theorem d_X1_rowsFrom_98 (n : Nat) : zDc (M_X1_rowsFrom n) 98 (.iinc 6 1) 3 101 := ⟨(by decide +kernel : decode cX1_rowsFrom 98 = .ok (.iinc 6 1, 3)), rfl⟩
theorem d_X1_rowsFrom_101 (n : Nat) : zDj (M_X1_rowsFrom n) 101 (.goto (-78)) (-78) 104 23 := ⟨(by decide +kernel : decode cX1_rowsFrom 101 = .ok (.goto (-78), 3)), rfl, by decide⟩
theorem d_X1_rowsFrom_104 (n : Nat) : zDc (M_X1_rowsFrom n) 104 (.iload 4) 2 106 := ⟨(by decide +kernel : decode cX1_rowsFrom 104 = .ok (.iload 4, 2)), rfl⟩
theorem d_X1_rowsFrom_106 (n : Nat) : zDc (M_X1_rowsFrom n) 106 (.ireturn) 1 107 := ⟨(by decide +kernel : decode cX1_rowsFrom 106 = .ok (.ireturn, 1)), rfl⟩
def b_X1_rowsFrom (F : (Nat → Int32 → Int32 → Int32 → zHp → Option (Int32 × zHp))) (a0 : Nat) (a1 : Int32) (a2 : Int32) (a3 : Int32) (h0 : zHp) : Option (Int32 × zHp) :=
  if a1 < a3 then
  zob (zgR h0 a0 1 0) (fun v1 =>
  zob (zaA 4 h0 v1 (a1 + 1)) (fun v2 =>
  zbd (
  zlp (σ := (Int32 × Int32)) (β := (Int32 × Int32)) zLF (fun s3 h4 =>
  if 5 ≤ s3.2 then
  some ((.inr (s3.1, s3.2)), h4)
  else
  zob (zgR h4 a0 1 0) (fun v7 =>
  zob (zaA 4 h4 v7 a1) (fun v8 =>
  zbd (zcv 5 v2 h4 (f_X5_copyFrom v2 v8 h4)) (fun v10 h9 =>
  zbd (zcv 5 v2 h9 (f_X5_passHour v2 s3.2 h9)) (fun v12 h11 =>
  zob (zgR h11 v2 5 9) (fun v13 =>
  zob (zaI 0 h11 v13 a2) (fun v14 =>
  zob (zgR h11 a0 1 0) (fun v15 =>
  zob (zaA 4 h11 v15 a1) (fun v16 =>
  zob (zgR h11 v16 5 9) (fun v17 =>
  zob (zaI 0 h11 v17 a2) (fun v18 =>
  if v14 ≤ v18 then
  zbd (zcv 1 a0 h11 (F a0 (a1 + 1) a2 a3 h11)) (fun v20 h19 =>
  some ((.inl ((s3.1 + v20), (s3.2 + 1))), h19))
  else
  zbd ((f_X1_rowsOf ((a3 - a1) - 1) h11)) (fun v22 h21 =>
  some ((.inl ((s3.1 + v22), (s3.2 + 1))), h21))))))))))))) (0, 0) h0) (fun e5 h6 =>
  some (e5.1, h6))))
  else
  some (0, h0)
def f_X1_rowsFrom : Nat → Nat → Int32 → Int32 → Int32 → zHp → Option (Int32 × zHp)
  | 0 => fun _ _ _ _ _ => none
  | n + 1 => b_X1_rowsFrom (f_X1_rowsFrom n)
set_option maxRecDepth 100000 in
set_option maxHeartbeats 4000000 in
theorem t_X1_rowsFrom : ∀ n : Nat, (∀ (a0 : Nat) (a1 : Int32) (a2 : Int32) (a3 : Int32) (h0 : zHp) (r : Int32) (h' : zHp), f_X1_rowsFrom n a0 a1 a2 a3 h0 = some (r, h') → zCt yX1_rowsFrom (.code yX1_rowsFrom cX1_rowsFrom 7 (some .int)) (6 + n) (183 + n * 26) 0 0 [.ref a0, .int a1, .int a2, .int a3] h0 (some (.int r)) h') := by
  intro n
  induction n with
  | zero => intro a0 a1 a2 a3 h0 r h' hc; cases hc
  | succ n ih =>
    intro a0 a1 a2 a3 h0
    refine zct_of (M_X1_rowsFrom (n + 1)) yX1_rowsFrom (by decide) rfl rfl [.ref a0, .int a1, .int a2, .int a3] h0 (Nat.le_of_ble_eq_true rfl) (fun r => some (.int r)) (fun X => ?_)
    show zG X (M_X1_rowsFrom (n + 1)) (0, 0) 0 [(0, .ref a0), (1, .int a1), (2, .int a2), (3, .int a3)] [] h0 (b_X1_rowsFrom (f_X1_rowsFrom n) a0 a1 a2 a3 h0) (fun (r : Int32) h' => zKe X (some (.int r)) h')
    unfold b_X1_rowsFrom
    refine zg_iload_n 1 rfl (d_X1_rowsFrom_0 _) ?_
    refine zg_iload_n 3 rfl (d_X1_rowsFrom_1 _) ?_
    refine zg_icmp_lt (d_X1_rowsFrom_2 _) ?_ ?_
    · refine zg_iconst 0 rfl (d_X1_rowsFrom_7 _) ?_
      refine zg_istore [(4, .int 0), (0, .ref a0), (1, .int a1), (2, .int a2), (3, .int a3)] (d_X1_rowsFrom_8 _) (Nat.le_of_ble_eq_true rfl) rfl ?_
      refine zg_aload_n 1 rfl (d_X1_rowsFrom_10 _) ?_
      refine zg_getR (d_X1_rowsFrom_11 _) zc_1 (by decide) fl_X1_11 (fun v1 => ?_)
      refine zg_iload_n 2 rfl (d_X1_rowsFrom_14 _) ?_
      refine zg_iconst 1 rfl (d_X1_rowsFrom_15 _) ?_
      refine zg_iadd (d_X1_rowsFrom_16 _) ?_
      refine zg_ald4 (d_X1_rowsFrom_17 _) (fun v2 => ?_)
      refine zg_astore [(5, .ref v2), (4, .int 0), (0, .ref a0), (1, .int a1), (2, .int a2), (3, .int a3)] (d_X1_rowsFrom_18 _) (Nat.le_of_ble_eq_true rfl) rfl ?_
      refine zg_iconst 0 rfl (d_X1_rowsFrom_20 _) ?_
      refine zg_istore [(6, .int 0), (5, .ref v2), (4, .int 0), (0, .ref a0), (1, .int a1), (2, .int a2), (3, .int a3)] (d_X1_rowsFrom_21 _) (Nat.le_of_ble_eq_true rfl) rfl ?_
      refine zg_bd (E := 104) (el := (fun (e5 : (Int32 × Int32)) => [(0, .ref a0), (1, .int a1), (2, .int a2), (3, .int a3), (4, .int e5.1), (5, .ref v2), (6, .int e5.2)])) (es := fun _ => []) (zg_sub [3, 4, 5, 6, 2, 1, 0] rfl (zg_lp (el := (fun (s3 : (Int32 × Int32)) => [(0, .ref a0), (1, .int a1), (2, .int a2), (3, .int a3), (4, .int s3.1), (5, .ref v2), (6, .int s3.2)])) (fun s3 h4 => ?_) (0, 0) h0)) (fun e5 h6 => ?_)
      · refine zg_iload 6 rfl (d_X1_rowsFrom_23 _) ?_
        refine zg_iconst 5 rfl (d_X1_rowsFrom_25 _) ?_
        refine zg_icmp_ge (d_X1_rowsFrom_26 _) ?_ ?_
        · exact zg_finK (E := 0) [0, 1, 2, 3, 4, 5, 6] rfl rfl (fun q => q)
        · refine zg_aload 5 rfl (d_X1_rowsFrom_29 _) ?_
          refine zg_aload_n 0 rfl (d_X1_rowsFrom_31 _) ?_
          refine zg_getR (d_X1_rowsFrom_32 _) zc_1 (by decide) fl_X1_11 (fun v7 => ?_)
          refine zg_iload_n 1 rfl (d_X1_rowsFrom_35 _) ?_
          refine zg_ald4 (d_X1_rowsFrom_36 _) (fun v8 => ?_)
          refine zg_cVv (b := v2) (As := [.ref v8]) (rest := []) (0, 0) (d_X1_rowsFrom_37 _) zc_5 rfl cw_X1_40 wi_X5_copyFrom ws_X5_copyFrom rfl rfl (Nat.le_of_ble_eq_true rfl) (Nat.le_trans (Nat.le_of_ble_eq_true rfl : 1 + 1 ≤ 6) (Nat.le_add_right _ _)) (Nat.le_trans (Nat.le_of_ble_eq_true rfl : 8 + (3 + 11) + 60 ≤ 183) (Nat.le_add_right _ _)) ⟨Nat.le_refl _, Nat.le_refl _⟩ rfl (t_X5_copyFrom v2 v8 h4) (fun v10 h9 => ?_)
          refine zg_aload 5 rfl (d_X1_rowsFrom_40 _) ?_
          refine zg_iload 6 rfl (d_X1_rowsFrom_42 _) ?_
          refine zg_cVv (b := v2) (As := [.int s3.2]) (rest := []) (0, 0) (d_X1_rowsFrom_44 _) zc_5 rfl cw_X1_55 wi_X5_passHour ws_X5_passHour rfl rfl (Nat.le_of_ble_eq_true rfl) (Nat.le_trans (Nat.le_of_ble_eq_true rfl : 5 + 1 ≤ 6) (Nat.le_add_right _ _)) (Nat.le_trans (Nat.le_of_ble_eq_true rfl : 8 + (3 + 11) + 161 ≤ 183) (Nat.le_add_right _ _)) ⟨Nat.le_refl _, Nat.le_refl _⟩ rfl (t_X5_passHour v2 s3.2 h9) (fun v12 h11 => ?_)
          refine zg_aload 5 rfl (d_X1_rowsFrom_47 _) ?_
          refine zg_getR (d_X1_rowsFrom_49 _) zc_5 (by decide) fl_X1_91 (fun v13 => ?_)
          refine zg_iload_n 2 rfl (d_X1_rowsFrom_52 _) ?_
          refine zg_ald0 (d_X1_rowsFrom_53 _) (fun v14 => ?_)
          refine zg_aload_n 0 rfl (d_X1_rowsFrom_54 _) ?_
          refine zg_getR (d_X1_rowsFrom_55 _) zc_1 (by decide) fl_X1_11 (fun v15 => ?_)
          refine zg_iload_n 1 rfl (d_X1_rowsFrom_58 _) ?_
          refine zg_ald4 (d_X1_rowsFrom_59 _) (fun v16 => ?_)
          refine zg_getR (d_X1_rowsFrom_60 _) zc_5 (by decide) fl_X1_91 (fun v17 => ?_)
          refine zg_iload_n 2 rfl (d_X1_rowsFrom_63 _) ?_
          refine zg_ald0 (d_X1_rowsFrom_64 _) (fun v18 => ?_)
          refine zg_icmp_le (d_X1_rowsFrom_65 _) ?_ ?_
          · refine zg_iload 4 rfl (d_X1_rowsFrom_84 _) ?_
            refine zg_aload_n 0 rfl (d_X1_rowsFrom_86 _) ?_
            refine zg_iload_n 1 rfl (d_X1_rowsFrom_87 _) ?_
            refine zg_iconst 1 rfl (d_X1_rowsFrom_88 _) ?_
            refine zg_iadd (d_X1_rowsFrom_89 _) ?_
            refine zg_iload_n 2 rfl (d_X1_rowsFrom_90 _) ?_
            refine zg_iload_n 3 rfl (d_X1_rowsFrom_91 _) ?_
            refine zg_cVi (b := a0) (As := [.int (a1 + 1), .int a2, .int a3]) (rest := [.int s3.1]) (0, 0) (d_X1_rowsFrom_92 _) zc_1 rfl cw_X1_88 wi_X1_rowsFrom ws_X1_rowsFrom rfl rfl (Nat.le_of_ble_eq_true rfl) (Nat.le_refl _) (by show 8 + (7 + 11) + (183 + n * 26) ≤ 183 + (n + 1) * 26; omega) ⟨Nat.le_refl _, Nat.le_refl _⟩ rfl (ih a0 (a1 + 1) a2 a3 h11) (fun v20 h19 => ?_)
            refine zg_iadd (d_X1_rowsFrom_95 _) ?_
            refine zg_istore [(4, .int (s3.1 + v20)), (0, .ref a0), (1, .int a1), (2, .int a2), (3, .int a3), (5, .ref v2), (6, .int s3.2)] (d_X1_rowsFrom_96 _) (Nat.le_of_ble_eq_true rfl) rfl ?_
            refine zg_iinc 6 (s3.2 + 1) [(6, .int (s3.2 + 1)), (4, .int (s3.1 + v20)), (0, .ref a0), (1, .int a1), (2, .int a2), (3, .int a3), (5, .ref v2)] (d_X1_rowsFrom_98 _) rfl rfl (Nat.le_of_ble_eq_true rfl) rfl ?_
            refine zg_goto (d_X1_rowsFrom_101 _) ?_
            exact zg_finK (E := 0) [2, 3, 4, 5, 1, 6, 0] rfl rfl (fun q => q)
          · refine zg_iload 4 rfl (d_X1_rowsFrom_68 _) ?_
            refine zg_iload_n 3 rfl (d_X1_rowsFrom_70 _) ?_
            refine zg_iload_n 1 rfl (d_X1_rowsFrom_71 _) ?_
            refine zg_isub (d_X1_rowsFrom_72 _) ?_
            refine zg_iconst 1 rfl (d_X1_rowsFrom_73 _) ?_
            refine zg_isub (d_X1_rowsFrom_74 _) ?_
            refine zg_cSi (As := [.int ((a3 - a1) - 1)]) (rest := [.int s3.1]) (0, 0) (d_X1_rowsFrom_75 _) cw_X1_94 wt_X1_rowsOf rfl rfl (Nat.le_of_ble_eq_true rfl) (Nat.le_trans (Nat.le_of_ble_eq_true rfl : 1 + 1 ≤ 6) (Nat.le_add_right _ _)) (Nat.le_trans (Nat.le_of_ble_eq_true rfl : 8 + (3 + 11) + 60 ≤ 183) (Nat.le_add_right _ _)) ⟨Nat.le_refl _, Nat.le_refl _⟩ rfl (t_X1_rowsOf ((a3 - a1) - 1) h11) (fun v22 h21 => ?_)
            refine zg_iadd (d_X1_rowsFrom_78 _) ?_
            refine zg_istore [(4, .int (s3.1 + v22)), (0, .ref a0), (1, .int a1), (2, .int a2), (3, .int a3), (5, .ref v2), (6, .int s3.2)] (d_X1_rowsFrom_79 _) (Nat.le_of_ble_eq_true rfl) rfl ?_
            refine zg_goto (d_X1_rowsFrom_81 _) ?_
            refine zg_iinc 6 (s3.2 + 1) [(6, .int (s3.2 + 1)), (4, .int (s3.1 + v22)), (0, .ref a0), (1, .int a1), (2, .int a2), (3, .int a3), (5, .ref v2)] (d_X1_rowsFrom_98 _) rfl rfl (Nat.le_of_ble_eq_true rfl) rfl ?_
            refine zg_goto (d_X1_rowsFrom_101 _) ?_
            exact zg_finK (E := 0) [2, 3, 4, 5, 1, 6, 0] rfl rfl (fun q => q)
      · refine zg_iload 4 rfl (d_X1_rowsFrom_104 _) ?_
        exact zg_iretK (d_X1_rowsFrom_106 _) rfl ⟨Nat.le_of_ble_eq_true rfl, Nat.le_of_ble_eq_true rfl⟩ (fun q => q)
    · refine zg_iconst 0 rfl (d_X1_rowsFrom_5 _) ?_
      exact zg_iretK (d_X1_rowsFrom_6 _) rfl ⟨Nat.le_of_ble_eq_true rfl, Nat.le_of_ble_eq_true rfl⟩ (fun q => q)
abbrev M_X1_planFrom (n : Nat) : zMt := (RX1, cX1_planFrom, 8, 6 + n, 183 + n * 27, none, "planFrom", 0, 0)
theorem d_X1_planFrom_0 (n : Nat) : zDc (M_X1_planFrom n) 0 (.iload_n 1) 1 1 := ⟨(by decide +kernel : decode cX1_planFrom 0 = .ok (.iload_n 1, 1)), rfl⟩
theorem d_X1_planFrom_1 (n : Nat) : zDc (M_X1_planFrom n) 1 (.iload 4) 2 3 := ⟨(by decide +kernel : decode cX1_planFrom 1 = .ok (.iload 4, 2)), rfl⟩
theorem d_X1_planFrom_3 (n : Nat) : zDj (M_X1_planFrom n) 3 (.if_icmp .lt 58) 58 6 61 := ⟨(by decide +kernel : decode cX1_planFrom 3 = .ok (.if_icmp .lt 58, 3)), rfl, by decide⟩
theorem d_X1_planFrom_6 (n : Nat) : zDc (M_X1_planFrom n) 6 (.aload_n 0) 1 7 := ⟨(by decide +kernel : decode cX1_planFrom 6 = .ok (.aload_n 0, 1)), rfl⟩
theorem d_X1_planFrom_7 (n : Nat) : zDc (M_X1_planFrom n) 7 (.getfield 11) 3 10 := ⟨(by decide +kernel : decode cX1_planFrom 7 = .ok (.getfield 11, 3)), rfl⟩
theorem d_X1_planFrom_10 (n : Nat) : zDc (M_X1_planFrom n) 10 (.iload_n 1) 1 11 := ⟨(by decide +kernel : decode cX1_planFrom 10 = .ok (.iload_n 1, 1)), rfl⟩
theorem d_X1_planFrom_11 (n : Nat) : zDc (M_X1_planFrom n) 11 (.aaload) 1 12 := ⟨(by decide +kernel : decode cX1_planFrom 11 = .ok (.aaload, 1)), rfl⟩
theorem d_X1_planFrom_12 (n : Nat) : zDc (M_X1_planFrom n) 12 (.getfield 91) 3 15 := ⟨(by decide +kernel : decode cX1_planFrom 12 = .ok (.getfield 91, 3)), rfl⟩
theorem d_X1_planFrom_15 (n : Nat) : zDc (M_X1_planFrom n) 15 (.iload_n 3) 1 16 := ⟨(by decide +kernel : decode cX1_planFrom 15 = .ok (.iload_n 3, 1)), rfl⟩
theorem d_X1_planFrom_16 (n : Nat) : zDc (M_X1_planFrom n) 16 (.iaload) 1 17 := ⟨(by decide +kernel : decode cX1_planFrom 16 = .ok (.iaload, 1)), rfl⟩
theorem d_X1_planFrom_17 (n : Nat) : zDc (M_X1_planFrom n) 17 (.aload_n 0) 1 18 := ⟨(by decide +kernel : decode cX1_planFrom 17 = .ok (.aload_n 0, 1)), rfl⟩
theorem d_X1_planFrom_18 (n : Nat) : zDc (M_X1_planFrom n) 18 (.getfield 11) 3 21 := ⟨(by decide +kernel : decode cX1_planFrom 18 = .ok (.getfield 11, 3)), rfl⟩
theorem d_X1_planFrom_21 (n : Nat) : zDc (M_X1_planFrom n) 21 (.iconst 0) 1 22 := ⟨(by decide +kernel : decode cX1_planFrom 21 = .ok (.iconst 0, 1)), rfl⟩
theorem d_X1_planFrom_22 (n : Nat) : zDc (M_X1_planFrom n) 22 (.aaload) 1 23 := ⟨(by decide +kernel : decode cX1_planFrom 22 = .ok (.aaload, 1)), rfl⟩
theorem d_X1_planFrom_23 (n : Nat) : zDc (M_X1_planFrom n) 23 (.getfield 91) 3 26 := ⟨(by decide +kernel : decode cX1_planFrom 23 = .ok (.getfield 91, 3)), rfl⟩
theorem d_X1_planFrom_26 (n : Nat) : zDc (M_X1_planFrom n) 26 (.iload_n 3) 1 27 := ⟨(by decide +kernel : decode cX1_planFrom 26 = .ok (.iload_n 3, 1)), rfl⟩
theorem d_X1_planFrom_27 (n : Nat) : zDc (M_X1_planFrom n) 27 (.iaload) 1 28 := ⟨(by decide +kernel : decode cX1_planFrom 27 = .ok (.iaload, 1)), rfl⟩
theorem d_X1_planFrom_28 (n : Nat) : zDc (M_X1_planFrom n) 28 (.isub) 1 29 := ⟨(by decide +kernel : decode cX1_planFrom 28 = .ok (.isub, 1)), rfl⟩
theorem d_X1_planFrom_29 (n : Nat) : zDc (M_X1_planFrom n) 29 (.istore 5) 2 31 := ⟨(by decide +kernel : decode cX1_planFrom 29 = .ok (.istore 5, 2)), rfl⟩
theorem d_X1_planFrom_31 (n : Nat) : zDc (M_X1_planFrom n) 31 (.iload 5) 2 33 := ⟨(by decide +kernel : decode cX1_planFrom 31 = .ok (.iload 5, 2)), rfl⟩
theorem d_X1_planFrom_33 (n : Nat) : zDc (M_X1_planFrom n) 33 (.aload_n 0) 1 34 := ⟨(by decide +kernel : decode cX1_planFrom 33 = .ok (.aload_n 0, 1)), rfl⟩
theorem d_X1_planFrom_34 (n : Nat) : zDc (M_X1_planFrom n) 34 (.getfield 97) 3 37 := ⟨(by decide +kernel : decode cX1_planFrom 34 = .ok (.getfield 97, 3)), rfl⟩
theorem d_X1_planFrom_37 (n : Nat) : zDj (M_X1_planFrom n) 37 (.if_icmp .le 23) 23 40 60 := ⟨(by decide +kernel : decode cX1_planFrom 37 = .ok (.if_icmp .le 23, 3)), rfl, by decide⟩
theorem d_X1_planFrom_40 (n : Nat) : zDc (M_X1_planFrom n) 40 (.aload_n 0) 1 41 := ⟨(by decide +kernel : decode cX1_planFrom 40 = .ok (.aload_n 0, 1)), rfl⟩
theorem d_X1_planFrom_41 (n : Nat) : zDc (M_X1_planFrom n) 41 (.iload 5) 2 43 := ⟨(by decide +kernel : decode cX1_planFrom 41 = .ok (.iload 5, 2)), rfl⟩
theorem d_X1_planFrom_43 (n : Nat) : zDc (M_X1_planFrom n) 43 (.putfield 97) 3 46 := ⟨(by decide +kernel : decode cX1_planFrom 43 = .ok (.putfield 97, 3)), rfl⟩
theorem d_X1_planFrom_46 (n : Nat) : zDc (M_X1_planFrom n) 46 (.aload_n 0) 1 47 := ⟨(by decide +kernel : decode cX1_planFrom 46 = .ok (.aload_n 0, 1)), rfl⟩
theorem d_X1_planFrom_47 (n : Nat) : zDc (M_X1_planFrom n) 47 (.getfield 21) 3 50 := ⟨(by decide +kernel : decode cX1_planFrom 47 = .ok (.getfield 21, 3)), rfl⟩
theorem d_X1_planFrom_50 (n : Nat) : zDc (M_X1_planFrom n) 50 (.iconst 0) 1 51 := ⟨(by decide +kernel : decode cX1_planFrom 50 = .ok (.iconst 0, 1)), rfl⟩
theorem d_X1_planFrom_51 (n : Nat) : zDc (M_X1_planFrom n) 51 (.aload_n 0) 1 52 := ⟨(by decide +kernel : decode cX1_planFrom 51 = .ok (.aload_n 0, 1)), rfl⟩
theorem d_X1_planFrom_52 (n : Nat) : zDc (M_X1_planFrom n) 52 (.getfield 24) 3 55 := ⟨(by decide +kernel : decode cX1_planFrom 52 = .ok (.getfield 24, 3)), rfl⟩
theorem d_X1_planFrom_55 (n : Nat) : zDc (M_X1_planFrom n) 55 (.iconst 0) 1 56 := ⟨(by decide +kernel : decode cX1_planFrom 55 = .ok (.iconst 0, 1)), rfl⟩
theorem d_X1_planFrom_56 (n : Nat) : zDc (M_X1_planFrom n) 56 (.iconst 4) 1 57 := ⟨(by decide +kernel : decode cX1_planFrom 56 = .ok (.iconst 4, 1)), rfl⟩
theorem d_X1_planFrom_57 (n : Nat) : zDc (M_X1_planFrom n) 57 (.invokestatic 104) 3 60 := ⟨(by decide +kernel : decode cX1_planFrom 57 = .ok (.invokestatic 104, 3)), rfl⟩
theorem d_X1_planFrom_60 (n : Nat) : zDc (M_X1_planFrom n) 60 (.return_) 1 61 := ⟨(by decide +kernel : decode cX1_planFrom 60 = .ok (.return_, 1)), rfl⟩
theorem d_X1_planFrom_61 (n : Nat) : zDc (M_X1_planFrom n) 61 (.aload_n 0) 1 62 := ⟨(by decide +kernel : decode cX1_planFrom 61 = .ok (.aload_n 0, 1)), rfl⟩
theorem d_X1_planFrom_62 (n : Nat) : zDc (M_X1_planFrom n) 62 (.getfield 11) 3 65 := ⟨(by decide +kernel : decode cX1_planFrom 62 = .ok (.getfield 11, 3)), rfl⟩
theorem d_X1_planFrom_65 (n : Nat) : zDc (M_X1_planFrom n) 65 (.iload_n 1) 1 66 := ⟨(by decide +kernel : decode cX1_planFrom 65 = .ok (.iload_n 1, 1)), rfl⟩
theorem d_X1_planFrom_66 (n : Nat) : zDc (M_X1_planFrom n) 66 (.aaload) 1 67 := ⟨(by decide +kernel : decode cX1_planFrom 66 = .ok (.aaload, 1)), rfl⟩
theorem d_X1_planFrom_67 (n : Nat) : zDc (M_X1_planFrom n) 67 (.iload_n 2) 1 68 := ⟨(by decide +kernel : decode cX1_planFrom 67 = .ok (.iload_n 2, 1)), rfl⟩
theorem d_X1_planFrom_68 (n : Nat) : zDc (M_X1_planFrom n) 68 (.invokevirtual 110) 3 71 := ⟨(by decide +kernel : decode cX1_planFrom 68 = .ok (.invokevirtual 110, 3)), rfl⟩
theorem d_X1_planFrom_71 (n : Nat) : zDc (M_X1_planFrom n) 71 (.iconst (-1)) 1 72 := ⟨(by decide +kernel : decode cX1_planFrom 71 = .ok (.iconst (-1), 1)), rfl⟩
theorem d_X1_planFrom_72 (n : Nat) : zDj (M_X1_planFrom n) 72 (.if_icmp .ne 7) 7 75 79 := ⟨(by decide +kernel : decode cX1_planFrom 72 = .ok (.if_icmp .ne 7, 3)), rfl, by decide⟩
theorem d_X1_planFrom_75 (n : Nat) : zDc (M_X1_planFrom n) 75 (.iconst 1) 1 76 := ⟨(by decide +kernel : decode cX1_planFrom 75 = .ok (.iconst 1, 1)), rfl⟩
theorem d_X1_planFrom_76 (n : Nat) : zDj (M_X1_planFrom n) 76 (.goto 4) 4 79 80 := ⟨(by decide +kernel : decode cX1_planFrom 76 = .ok (.goto 4, 3)), rfl, by decide⟩
theorem d_X1_planFrom_79 (n : Nat) : zDc (M_X1_planFrom n) 79 (.iconst 5) 1 80 := ⟨(by decide +kernel : decode cX1_planFrom 79 = .ok (.iconst 5, 1)), rfl⟩
theorem d_X1_planFrom_80 (n : Nat) : zDc (M_X1_planFrom n) 80 (.istore 5) 2 82 := ⟨(by decide +kernel : decode cX1_planFrom 80 = .ok (.istore 5, 2)), rfl⟩
theorem d_X1_planFrom_82 (n : Nat) : zDc (M_X1_planFrom n) 82 (.aload_n 0) 1 83 := ⟨(by decide +kernel : decode cX1_planFrom 82 = .ok (.aload_n 0, 1)), rfl⟩
theorem d_X1_planFrom_83 (n : Nat) : zDc (M_X1_planFrom n) 83 (.getfield 11) 3 86 := ⟨(by decide +kernel : decode cX1_planFrom 83 = .ok (.getfield 11, 3)), rfl⟩
theorem d_X1_planFrom_86 (n : Nat) : zDc (M_X1_planFrom n) 86 (.iload_n 1) 1 87 := ⟨(by decide +kernel : decode cX1_planFrom 86 = .ok (.iload_n 1, 1)), rfl⟩
theorem d_X1_planFrom_87 (n : Nat) : zDc (M_X1_planFrom n) 87 (.iconst 1) 1 88 := ⟨(by decide +kernel : decode cX1_planFrom 87 = .ok (.iconst 1, 1)), rfl⟩
theorem d_X1_planFrom_88 (n : Nat) : zDc (M_X1_planFrom n) 88 (.iadd) 1 89 := ⟨(by decide +kernel : decode cX1_planFrom 88 = .ok (.iadd, 1)), rfl⟩
theorem d_X1_planFrom_89 (n : Nat) : zDc (M_X1_planFrom n) 89 (.aaload) 1 90 := ⟨(by decide +kernel : decode cX1_planFrom 89 = .ok (.aaload, 1)), rfl⟩
theorem d_X1_planFrom_90 (n : Nat) : zDc (M_X1_planFrom n) 90 (.astore 6) 2 92 := ⟨(by decide +kernel : decode cX1_planFrom 90 = .ok (.astore 6, 2)), rfl⟩
theorem d_X1_planFrom_92 (n : Nat) : zDc (M_X1_planFrom n) 92 (.iconst 0) 1 93 := ⟨(by decide +kernel : decode cX1_planFrom 92 = .ok (.iconst 0, 1)), rfl⟩
theorem d_X1_planFrom_93 (n : Nat) : zDc (M_X1_planFrom n) 93 (.istore 7) 2 95 := ⟨(by decide +kernel : decode cX1_planFrom 93 = .ok (.istore 7, 2)), rfl⟩
theorem d_X1_planFrom_95 (n : Nat) : zDc (M_X1_planFrom n) 95 (.iload 7) 2 97 := ⟨(by decide +kernel : decode cX1_planFrom 95 = .ok (.iload 7, 2)), rfl⟩
theorem d_X1_planFrom_97 (n : Nat) : zDc (M_X1_planFrom n) 97 (.iload 5) 2 99 := ⟨(by decide +kernel : decode cX1_planFrom 97 = .ok (.iload 5, 2)), rfl⟩
theorem d_X1_planFrom_99 (n : Nat) : zDj (M_X1_planFrom n) 99 (.if_icmp .ge 57) 57 102 156 := ⟨(by decide +kernel : decode cX1_planFrom 99 = .ok (.if_icmp .ge 57, 3)), rfl, by decide⟩
theorem d_X1_planFrom_102 (n : Nat) : zDc (M_X1_planFrom n) 102 (.aload_n 0) 1 103 := ⟨(by decide +kernel : decode cX1_planFrom 102 = .ok (.aload_n 0, 1)), rfl⟩
theorem d_X1_planFrom_103 (n : Nat) : zDc (M_X1_planFrom n) 103 (.getfield 21) 3 106 := ⟨(by decide +kernel : decode cX1_planFrom 103 = .ok (.getfield 21, 3)), rfl⟩
theorem d_X1_planFrom_106 (n : Nat) : zDc (M_X1_planFrom n) 106 (.iload_n 1) 1 107 := ⟨(by decide +kernel : decode cX1_planFrom 106 = .ok (.iload_n 1, 1)), rfl⟩
theorem d_X1_planFrom_107 (n : Nat) : zDc (M_X1_planFrom n) 107 (.iload 7) 2 109 := ⟨(by decide +kernel : decode cX1_planFrom 107 = .ok (.iload 7, 2)), rfl⟩
theorem d_X1_planFrom_109 (n : Nat) : zDc (M_X1_planFrom n) 109 (.iastore) 1 110 := ⟨(by decide +kernel : decode cX1_planFrom 109 = .ok (.iastore, 1)), rfl⟩
theorem d_X1_planFrom_110 (n : Nat) : zDc (M_X1_planFrom n) 110 (.aload 6) 2 112 := ⟨(by decide +kernel : decode cX1_planFrom 110 = .ok (.aload 6, 2)), rfl⟩
theorem d_X1_planFrom_112 (n : Nat) : zDc (M_X1_planFrom n) 112 (.aload_n 0) 1 113 := ⟨(by decide +kernel : decode cX1_planFrom 112 = .ok (.aload_n 0, 1)), rfl⟩
theorem d_X1_planFrom_113 (n : Nat) : zDc (M_X1_planFrom n) 113 (.getfield 11) 3 116 := ⟨(by decide +kernel : decode cX1_planFrom 113 = .ok (.getfield 11, 3)), rfl⟩
theorem d_X1_planFrom_116 (n : Nat) : zDc (M_X1_planFrom n) 116 (.iload_n 1) 1 117 := ⟨(by decide +kernel : decode cX1_planFrom 116 = .ok (.iload_n 1, 1)), rfl⟩
theorem d_X1_planFrom_117 (n : Nat) : zDc (M_X1_planFrom n) 117 (.aaload) 1 118 := ⟨(by decide +kernel : decode cX1_planFrom 117 = .ok (.aaload, 1)), rfl⟩
theorem d_X1_planFrom_118 (n : Nat) : zDc (M_X1_planFrom n) 118 (.invokevirtual 40) 3 121 := ⟨(by decide +kernel : decode cX1_planFrom 118 = .ok (.invokevirtual 40, 3)), rfl⟩
theorem d_X1_planFrom_121 (n : Nat) : zDc (M_X1_planFrom n) 121 (.aload 6) 2 123 := ⟨(by decide +kernel : decode cX1_planFrom 121 = .ok (.aload 6, 2)), rfl⟩
theorem d_X1_planFrom_123 (n : Nat) : zDc (M_X1_planFrom n) 123 (.iload_n 2) 1 124 := ⟨(by decide +kernel : decode cX1_planFrom 123 = .ok (.iload_n 2, 1)), rfl⟩
theorem d_X1_planFrom_124 (n : Nat) : zDc (M_X1_planFrom n) 124 (.iload 7) 2 126 := ⟨(by decide +kernel : decode cX1_planFrom 124 = .ok (.iload 7, 2)), rfl⟩
theorem d_X1_planFrom_126 (n : Nat) : zDc (M_X1_planFrom n) 126 (.invokevirtual 113) 3 129 := ⟨(by decide +kernel : decode cX1_planFrom 126 = .ok (.invokevirtual 113, 3)), rfl⟩
theorem d_X1_planFrom_129 (n : Nat) : zDc (M_X1_planFrom n) 129 (.aload 6) 2 131 := ⟨(by decide +kernel : decode cX1_planFrom 129 = .ok (.aload 6, 2)), rfl⟩
theorem d_X1_planFrom_131 (n : Nat) : zDc (M_X1_planFrom n) 131 (.aload 6) 2 133 := ⟨(by decide +kernel : decode cX1_planFrom 131 = .ok (.aload 6, 2)), rfl⟩
theorem d_X1_planFrom_133 (n : Nat) : zDc (M_X1_planFrom n) 133 (.invokevirtual 51) 3 136 := ⟨(by decide +kernel : decode cX1_planFrom 133 = .ok (.invokevirtual 51, 3)), rfl⟩
theorem d_X1_planFrom_136 (n : Nat) : zDc (M_X1_planFrom n) 136 (.invokevirtual 55) 3 139 := ⟨(by decide +kernel : decode cX1_planFrom 136 = .ok (.invokevirtual 55, 3)), rfl⟩
theorem d_X1_planFrom_139 (n : Nat) : zDc (M_X1_planFrom n) 139 (.aload_n 0) 1 140 := ⟨(by decide +kernel : decode cX1_planFrom 139 = .ok (.aload_n 0, 1)), rfl⟩
theorem d_X1_planFrom_140 (n : Nat) : zDc (M_X1_planFrom n) 140 (.iload_n 1) 1 141 := ⟨(by decide +kernel : decode cX1_planFrom 140 = .ok (.iload_n 1, 1)), rfl⟩
theorem d_X1_planFrom_141 (n : Nat) : zDc (M_X1_planFrom n) 141 (.iconst 1) 1 142 := ⟨(by decide +kernel : decode cX1_planFrom 141 = .ok (.iconst 1, 1)), rfl⟩
theorem d_X1_planFrom_142 (n : Nat) : zDc (M_X1_planFrom n) 142 (.iadd) 1 143 := ⟨(by decide +kernel : decode cX1_planFrom 142 = .ok (.iadd, 1)), rfl⟩
theorem d_X1_planFrom_143 (n : Nat) : zDc (M_X1_planFrom n) 143 (.iload_n 2) 1 144 := ⟨(by decide +kernel : decode cX1_planFrom 143 = .ok (.iload_n 2, 1)), rfl⟩
theorem d_X1_planFrom_144 (n : Nat) : zDc (M_X1_planFrom n) 144 (.iload_n 3) 1 145 := ⟨(by decide +kernel : decode cX1_planFrom 144 = .ok (.iload_n 3, 1)), rfl⟩
theorem d_X1_planFrom_145 (n : Nat) : zDc (M_X1_planFrom n) 145 (.iload 4) 2 147 := ⟨(by decide +kernel : decode cX1_planFrom 145 = .ok (.iload 4, 2)), rfl⟩
theorem d_X1_planFrom_147 (n : Nat) : zDc (M_X1_planFrom n) 147 (.invokevirtual 100) 3 150 := ⟨(by decide +kernel : decode cX1_planFrom 147 = .ok (.invokevirtual 100, 3)), rfl⟩
theorem d_X1_planFrom_150 (n : Nat) : zDc (M_X1_planFrom n) 150 (.iinc 7 1) 3 153 := ⟨(by decide +kernel : decode cX1_planFrom 150 = .ok (.iinc 7 1, 3)), rfl⟩
theorem d_X1_planFrom_153 (n : Nat) : zDj (M_X1_planFrom n) 153 (.goto (-58)) (-58) 156 95 := ⟨(by decide +kernel : decode cX1_planFrom 153 = .ok (.goto (-58), 3)), rfl, by decide⟩
theorem d_X1_planFrom_156 (n : Nat) : zDc (M_X1_planFrom n) 156 (.return_) 1 157 := ⟨(by decide +kernel : decode cX1_planFrom 156 = .ok (.return_, 1)), rfl⟩
def b_X1_planFrom (F : (Nat → Int32 → Int32 → Int32 → Int32 → zHp → Option (Unit × zHp))) (a0 : Nat) (a1 : Int32) (a2 : Int32) (a3 : Int32) (a4 : Int32) (h0 : zHp) : Option (Unit × zHp) :=
  if a1 < a4 then
  zob (zgR h0 a0 1 0) (fun v1 =>
  zob (zaA 4 h0 v1 a1) (fun v2 =>
  zbd (zcv 5 v2 h0 (f_X5_firstToPush v2 a2 h0)) (fun v4 h3 =>
  zbd (α := Int32) (
  if v4 = (-1) then
  some (1, h3)
  else
  some (5, h3)) (fun e5 h6 =>
  zob (zgR h6 a0 1 0) (fun v7 =>
  zob (zaA 4 h6 v7 (a1 + 1)) (fun v8 =>
  zbd (
  zlp (σ := Int32) (β := Int32) zLF (fun s9 h10 =>
  if e5 ≤ s9 then
  some ((.inr s9), h10)
  else
  zob (zgR h10 a0 1 3) (fun v13 =>
  zob (zsI 0 h10 v13 a1 s9) (fun h14 =>
  zob (zgR h14 a0 1 0) (fun v15 =>
  zob (zaA 4 h14 v15 a1) (fun v16 =>
  zbd (zcv 5 v8 h14 (f_X5_copyFrom v8 v16 h14)) (fun v18 h17 =>
  zbd (zcv 5 v8 h17 (f_X5_pushBy v8 a2 s9 h17)) (fun v20 h19 =>
  zbd (zcv 5 v8 h19 (f_X5_windNow v8 h19)) (fun v22 h21 =>
  zbd (zcv 5 v8 h21 (f_X5_passHour v8 v22 h21)) (fun v24 h23 =>
  zbd (zcv 1 a0 h23 (F a0 (a1 + 1) a2 a3 a4 h23)) (fun v26 h25 =>
  some ((.inl (s9 + 1)), h25))))))))))) 0 h6) (fun e11 h12 =>
  some ((), h12))))))))
  else
  zob (zgR h0 a0 1 0) (fun v27 =>
  zob (zaA 4 h0 v27 a1) (fun v28 =>
  zob (zgR h0 v28 5 9) (fun v29 =>
  zob (zaI 0 h0 v29 a3) (fun v30 =>
  zob (zgR h0 a0 1 0) (fun v31 =>
  zob (zaA 4 h0 v31 0) (fun v32 =>
  zob (zgR h0 v32 5 9) (fun v33 =>
  zob (zaI 0 h0 v33 a3) (fun v34 =>
  zob (zgI h0 a0 1 7) (fun v35 =>
  if (v30 - v34) ≤ v35 then
  some ((), h0)
  else
  zob (zpV h0 a0 1 7 (.int (v30 - v34))) (fun h36 =>
  zob (zgR h36 a0 1 3) (fun v37 =>
  zob (zgR h36 a0 1 4) (fun v38 =>
  zob (zcp h36 v37 0 v38 0 4) (fun h39 =>
  some ((), h39))))))))))))))
def f_X1_planFrom : Nat → Nat → Int32 → Int32 → Int32 → Int32 → zHp → Option (Unit × zHp)
  | 0 => fun _ _ _ _ _ _ => none
  | n + 1 => b_X1_planFrom (f_X1_planFrom n)
set_option maxRecDepth 100000 in
set_option maxHeartbeats 4000000 in
theorem t_X1_planFrom : ∀ n : Nat, (∀ (a0 : Nat) (a1 : Int32) (a2 : Int32) (a3 : Int32) (a4 : Int32) (h0 : zHp) (r : Unit) (h' : zHp), f_X1_planFrom n a0 a1 a2 a3 a4 h0 = some (r, h') → zCt yX1_planFrom (.code yX1_planFrom cX1_planFrom 8 none) (6 + n) (183 + n * 27) 0 0 [.ref a0, .int a1, .int a2, .int a3, .int a4] h0 (none) h') := by
  intro n
  induction n with
  | zero => intro a0 a1 a2 a3 a4 h0 r h' hc; cases hc
  | succ n ih =>
    intro a0 a1 a2 a3 a4 h0
    refine zct_of (M_X1_planFrom (n + 1)) yX1_planFrom (by decide) rfl rfl [.ref a0, .int a1, .int a2, .int a3, .int a4] h0 (Nat.le_of_ble_eq_true rfl) (fun _ => none) (fun X => ?_)
    show zG X (M_X1_planFrom (n + 1)) (0, 0) 0 [(0, .ref a0), (1, .int a1), (2, .int a2), (3, .int a3), (4, .int a4)] [] h0 (b_X1_planFrom (f_X1_planFrom n) a0 a1 a2 a3 a4 h0) (fun (_ : Unit) h' => zKe X (none) h')
    unfold b_X1_planFrom
    refine zg_iload_n 1 rfl (d_X1_planFrom_0 _) ?_
    refine zg_iload 4 rfl (d_X1_planFrom_1 _) ?_
    refine zg_icmp_lt (d_X1_planFrom_3 _) ?_ ?_
    · refine zg_aload_n 0 rfl (d_X1_planFrom_61 _) ?_
      refine zg_getR (d_X1_planFrom_62 _) zc_1 (by decide) fl_X1_11 (fun v1 => ?_)
      refine zg_iload_n 1 rfl (d_X1_planFrom_65 _) ?_
      refine zg_ald4 (d_X1_planFrom_66 _) (fun v2 => ?_)
      refine zg_iload_n 2 rfl (d_X1_planFrom_67 _) ?_
      refine zg_cVi (b := v2) (As := [.int a2]) (rest := []) (0, 0) (d_X1_planFrom_68 _) zc_5 rfl cw_X1_110 wi_X5_firstToPush ws_X5_firstToPush rfl rfl (Nat.le_of_ble_eq_true rfl) (Nat.le_trans (Nat.le_of_ble_eq_true rfl : 3 + 1 ≤ 6) (Nat.le_add_right _ _)) (Nat.le_trans (Nat.le_of_ble_eq_true rfl : 8 + (3 + 11) + 106 ≤ 183) (Nat.le_add_right _ _)) ⟨Nat.le_refl _, Nat.le_refl _⟩ rfl (t_X5_firstToPush v2 a2 h0) (fun v4 h3 => ?_)
      refine zg_iconst (-1) rfl (d_X1_planFrom_71 _) ?_
      refine zg_bd (E := 80) (el := (fun (e5 : Int32) => [(0, .ref a0), (1, .int a1), (2, .int a2), (3, .int a3), (4, .int a4)])) (es := (fun (e5 : Int32) => [.int e5])) ?_ (fun e5 h6 => ?_)
      · refine zg_icmp_ne (d_X1_planFrom_72 _) ?_ ?_
        · refine zg_iconst 1 rfl (d_X1_planFrom_75 _) ?_
          refine zg_goto (d_X1_planFrom_76 _) ?_
          exact zg_finK (E := 0) [0, 1, 2, 3, 4] rfl rfl (fun q => q)
        · refine zg_iconst 5 rfl (d_X1_planFrom_79 _) ?_
          exact zg_finK (E := 0) [0, 1, 2, 3, 4] rfl rfl (fun q => q)
      · refine zg_istore [(5, .int e5), (0, .ref a0), (1, .int a1), (2, .int a2), (3, .int a3), (4, .int a4)] (d_X1_planFrom_80 _) (Nat.le_of_ble_eq_true rfl) rfl ?_
        refine zg_aload_n 1 rfl (d_X1_planFrom_82 _) ?_
        refine zg_getR (d_X1_planFrom_83 _) zc_1 (by decide) fl_X1_11 (fun v7 => ?_)
        refine zg_iload_n 2 rfl (d_X1_planFrom_86 _) ?_
        refine zg_iconst 1 rfl (d_X1_planFrom_87 _) ?_
        refine zg_iadd (d_X1_planFrom_88 _) ?_
        refine zg_ald4 (d_X1_planFrom_89 _) (fun v8 => ?_)
        refine zg_astore [(6, .ref v8), (5, .int e5), (0, .ref a0), (1, .int a1), (2, .int a2), (3, .int a3), (4, .int a4)] (d_X1_planFrom_90 _) (Nat.le_of_ble_eq_true rfl) rfl ?_
        refine zg_iconst 0 rfl (d_X1_planFrom_92 _) ?_
        refine zg_istore [(7, .int 0), (6, .ref v8), (5, .int e5), (0, .ref a0), (1, .int a1), (2, .int a2), (3, .int a3), (4, .int a4)] (d_X1_planFrom_93 _) (Nat.le_of_ble_eq_true rfl) rfl ?_
        refine zg_bd (E := 156) (el := (fun (e11 : Int32) => [(0, .ref a0), (1, .int a1), (2, .int a2), (3, .int a3), (4, .int a4), (5, .int e5), (6, .ref v8), (7, .int e11)])) (es := fun _ => []) (zg_sub [3, 4, 5, 6, 7, 2, 1, 0] rfl (zg_lp (el := (fun (s9 : Int32) => [(0, .ref a0), (1, .int a1), (2, .int a2), (3, .int a3), (4, .int a4), (5, .int e5), (6, .ref v8), (7, .int s9)])) (fun s9 h10 => ?_) 0 h6)) (fun e11 h12 => ?_)
        · refine zg_iload 7 rfl (d_X1_planFrom_95 _) ?_
          refine zg_iload 5 rfl (d_X1_planFrom_97 _) ?_
          refine zg_icmp_ge (d_X1_planFrom_99 _) ?_ ?_
          · exact zg_finK (E := 0) [0, 1, 2, 3, 4, 5, 6, 7] rfl rfl (fun q => q)
          · refine zg_aload_n 0 rfl (d_X1_planFrom_102 _) ?_
            refine zg_getR (d_X1_planFrom_103 _) zc_1 (by decide) fl_X1_21 (fun v13 => ?_)
            refine zg_iload_n 1 rfl (d_X1_planFrom_106 _) ?_
            refine zg_iload 7 rfl (d_X1_planFrom_107 _) ?_
            refine zg_ast0 (d_X1_planFrom_109 _) (fun h14 => ?_)
            refine zg_aload 6 rfl (d_X1_planFrom_110 _) ?_
            refine zg_aload_n 0 rfl (d_X1_planFrom_112 _) ?_
            refine zg_getR (d_X1_planFrom_113 _) zc_1 (by decide) fl_X1_11 (fun v15 => ?_)
            refine zg_iload_n 1 rfl (d_X1_planFrom_116 _) ?_
            refine zg_ald4 (d_X1_planFrom_117 _) (fun v16 => ?_)
            refine zg_cVv (b := v8) (As := [.ref v16]) (rest := []) (0, 0) (d_X1_planFrom_118 _) zc_5 rfl cw_X1_40 wi_X5_copyFrom ws_X5_copyFrom rfl rfl (Nat.le_of_ble_eq_true rfl) (Nat.le_trans (Nat.le_of_ble_eq_true rfl : 1 + 1 ≤ 6) (Nat.le_add_right _ _)) (Nat.le_trans (Nat.le_of_ble_eq_true rfl : 8 + (3 + 11) + 60 ≤ 183) (Nat.le_add_right _ _)) ⟨Nat.le_refl _, Nat.le_refl _⟩ rfl (t_X5_copyFrom v8 v16 h14) (fun v18 h17 => ?_)
            refine zg_aload 6 rfl (d_X1_planFrom_121 _) ?_
            refine zg_iload_n 2 rfl (d_X1_planFrom_123 _) ?_
            refine zg_iload 7 rfl (d_X1_planFrom_124 _) ?_
            refine zg_cVv (b := v8) (As := [.int a2, .int s9]) (rest := []) (0, 0) (d_X1_planFrom_126 _) zc_5 rfl cw_X1_113 wi_X5_pushBy ws_X5_pushBy rfl rfl (Nat.le_of_ble_eq_true rfl) (Nat.le_trans (Nat.le_of_ble_eq_true rfl : 4 + 1 ≤ 6) (Nat.le_add_right _ _)) (Nat.le_trans (Nat.le_of_ble_eq_true rfl : 8 + (4 + 11) + 128 ≤ 183) (Nat.le_add_right _ _)) ⟨Nat.le_refl _, Nat.le_refl _⟩ rfl (t_X5_pushBy v8 a2 s9 h17) (fun v20 h19 => ?_)
            refine zg_aload 6 rfl (d_X1_planFrom_129 _) ?_
            refine zg_aload 6 rfl (d_X1_planFrom_131 _) ?_
            refine zg_cVi (b := v8) (As := []) (rest := [.ref v8]) (0, 0) (d_X1_planFrom_133 _) zc_5 rfl cw_X1_51 wi_X5_windNow ws_X5_windNow rfl rfl (Nat.le_of_ble_eq_true rfl) (Nat.le_trans (Nat.le_of_ble_eq_true rfl : 1 + 1 ≤ 6) (Nat.le_add_right _ _)) (Nat.le_trans (Nat.le_of_ble_eq_true rfl : 8 + (1 + 11) + 60 ≤ 183) (Nat.le_add_right _ _)) ⟨Nat.le_refl _, Nat.le_refl _⟩ rfl (t_X5_windNow v8 h19) (fun v22 h21 => ?_)
            refine zg_cVv (b := v8) (As := [.int v22]) (rest := []) (0, 0) (d_X1_planFrom_136 _) zc_5 rfl cw_X1_55 wi_X5_passHour ws_X5_passHour rfl rfl (Nat.le_of_ble_eq_true rfl) (Nat.le_trans (Nat.le_of_ble_eq_true rfl : 5 + 1 ≤ 6) (Nat.le_add_right _ _)) (Nat.le_trans (Nat.le_of_ble_eq_true rfl : 8 + (3 + 11) + 161 ≤ 183) (Nat.le_add_right _ _)) ⟨Nat.le_refl _, Nat.le_refl _⟩ rfl (t_X5_passHour v8 v22 h21) (fun v24 h23 => ?_)
            refine zg_aload_n 0 rfl (d_X1_planFrom_139 _) ?_
            refine zg_iload_n 1 rfl (d_X1_planFrom_140 _) ?_
            refine zg_iconst 1 rfl (d_X1_planFrom_141 _) ?_
            refine zg_iadd (d_X1_planFrom_142 _) ?_
            refine zg_iload_n 2 rfl (d_X1_planFrom_143 _) ?_
            refine zg_iload_n 3 rfl (d_X1_planFrom_144 _) ?_
            refine zg_iload 4 rfl (d_X1_planFrom_145 _) ?_
            refine zg_cVv (b := a0) (As := [.int (a1 + 1), .int a2, .int a3, .int a4]) (rest := []) (0, 0) (d_X1_planFrom_147 _) zc_1 rfl cw_X1_100 wi_X1_planFrom ws_X1_planFrom rfl rfl (Nat.le_of_ble_eq_true rfl) (Nat.le_refl _) (by show 8 + (8 + 11) + (183 + n * 27) ≤ 183 + (n + 1) * 27; omega) ⟨Nat.le_refl _, Nat.le_refl _⟩ rfl (ih a0 (a1 + 1) a2 a3 a4 h23) (fun v26 h25 => ?_)
            refine zg_iinc 7 (s9 + 1) [(7, .int (s9 + 1)), (0, .ref a0), (1, .int a1), (2, .int a2), (3, .int a3), (4, .int a4), (5, .int e5), (6, .ref v8)] (d_X1_planFrom_150 _) rfl rfl (Nat.le_of_ble_eq_true rfl) rfl ?_
            refine zg_goto (d_X1_planFrom_153 _) ?_
            exact zg_finK (E := 0) [1, 2, 3, 4, 5, 6, 7, 0] rfl rfl (fun q => q)
        · exact zg_vretK (d_X1_planFrom_156 _) rfl ⟨Nat.le_of_ble_eq_true rfl, Nat.le_of_ble_eq_true rfl⟩ (fun q => q)
    · refine zg_aload_n 0 rfl (d_X1_planFrom_6 _) ?_
      refine zg_getR (d_X1_planFrom_7 _) zc_1 (by decide) fl_X1_11 (fun v27 => ?_)
      refine zg_iload_n 1 rfl (d_X1_planFrom_10 _) ?_
      refine zg_ald4 (d_X1_planFrom_11 _) (fun v28 => ?_)
      refine zg_getR (d_X1_planFrom_12 _) zc_5 (by decide) fl_X1_91 (fun v29 => ?_)
      refine zg_iload_n 3 rfl (d_X1_planFrom_15 _) ?_
      refine zg_ald0 (d_X1_planFrom_16 _) (fun v30 => ?_)
      refine zg_aload_n 0 rfl (d_X1_planFrom_17 _) ?_
      refine zg_getR (d_X1_planFrom_18 _) zc_1 (by decide) fl_X1_11 (fun v31 => ?_)
      refine zg_iconst 0 rfl (d_X1_planFrom_21 _) ?_
      refine zg_ald4 (d_X1_planFrom_22 _) (fun v32 => ?_)
      refine zg_getR (d_X1_planFrom_23 _) zc_5 (by decide) fl_X1_91 (fun v33 => ?_)
      refine zg_iload_n 3 rfl (d_X1_planFrom_26 _) ?_
      refine zg_ald0 (d_X1_planFrom_27 _) (fun v34 => ?_)
      refine zg_isub (d_X1_planFrom_28 _) ?_
      refine zg_istore [(5, .int (v30 - v34)), (0, .ref a0), (1, .int a1), (2, .int a2), (3, .int a3), (4, .int a4)] (d_X1_planFrom_29 _) (Nat.le_of_ble_eq_true rfl) rfl ?_
      refine zg_iload 0 rfl (d_X1_planFrom_31 _) ?_
      refine zg_aload_n 1 rfl (d_X1_planFrom_33 _) ?_
      refine zg_getI (d_X1_planFrom_34 _) zc_1 (by decide) fl_X1_97 (fun v35 => ?_)
      refine zg_icmp_le (d_X1_planFrom_37 _) ?_ ?_
      · exact zg_vretK (d_X1_planFrom_60 _) rfl ⟨Nat.le_of_ble_eq_true rfl, Nat.le_of_ble_eq_true rfl⟩ (fun q => q)
      · refine zg_aload_n 1 rfl (d_X1_planFrom_40 _) ?_
        refine zg_iload 0 rfl (d_X1_planFrom_41 _) ?_
        refine zg_putV (d_X1_planFrom_43 _) zc_1 (by decide) fl_X1_97 rfl rfl rfl (fun h36 => ?_)
        refine zg_aload_n 1 rfl (d_X1_planFrom_46 _) ?_
        refine zg_getR (d_X1_planFrom_47 _) zc_1 (by decide) fl_X1_21 (fun v37 => ?_)
        refine zg_iconst 0 rfl (d_X1_planFrom_50 _) ?_
        refine zg_aload_n 1 rfl (d_X1_planFrom_51 _) ?_
        refine zg_getR (d_X1_planFrom_52 _) zc_1 (by decide) fl_X1_24 (fun v38 => ?_)
        refine zg_iconst 0 rfl (d_X1_planFrom_55 _) ?_
        refine zg_iconst 4 rfl (d_X1_planFrom_56 _) ?_
        refine zg_copy (d_X1_planFrom_57 _) ml_X1_104 wn_copy wt_copy wi_System (Nat.le_trans (Nat.le_of_ble_eq_true rfl : 1 ≤ 6) (Nat.le_add_right _ _)) (Nat.le_trans (Nat.le_of_ble_eq_true rfl : _ ≤ 183) (Nat.le_add_right _ _)) (fun h39 => ?_)
        exact zg_vretK (d_X1_planFrom_60 _) rfl ⟨Nat.le_of_ble_eq_true rfl, Nat.le_of_ble_eq_true rfl⟩ (fun q => q)
abbrev M_X1_rowsWithRain : zMt := (RX1, cX1_rowsWithRain, 4, 15, 417, (some .int), "rowsWithRain", 0, 0)
theorem d_X1_rowsWithRain_0 : zDc M_X1_rowsWithRain 0 (.aload_n 0) 1 1 := ⟨by decide +kernel, rfl⟩
theorem d_X1_rowsWithRain_1 : zDc M_X1_rowsWithRain 1 (.getfield 11) 3 4 := ⟨by decide +kernel, rfl⟩
theorem d_X1_rowsWithRain_4 : zDc M_X1_rowsWithRain 4 (.iconst 0) 1 5 := ⟨by decide +kernel, rfl⟩
theorem d_X1_rowsWithRain_5 : zDc M_X1_rowsWithRain 5 (.aaload) 1 6 := ⟨by decide +kernel, rfl⟩
theorem d_X1_rowsWithRain_6 : zDc M_X1_rowsWithRain 6 (.aload_n 1) 1 7 := ⟨by decide +kernel, rfl⟩
theorem d_X1_rowsWithRain_7 : zDc M_X1_rowsWithRain 7 (.invokevirtual 40) 3 10 := ⟨by decide +kernel, rfl⟩
theorem d_X1_rowsWithRain_10 : zDc M_X1_rowsWithRain 10 (.aload_n 0) 1 11 := ⟨by decide +kernel, rfl⟩
theorem d_X1_rowsWithRain_11 : zDc M_X1_rowsWithRain 11 (.iconst 0) 1 12 := ⟨by decide +kernel, rfl⟩
theorem d_X1_rowsWithRain_12 : zDc M_X1_rowsWithRain 12 (.iload_n 2) 1 13 := ⟨by decide +kernel, rfl⟩
theorem d_X1_rowsWithRain_13 : zDc M_X1_rowsWithRain 13 (.iload_n 3) 1 14 := ⟨by decide +kernel, rfl⟩
theorem d_X1_rowsWithRain_14 : zDc M_X1_rowsWithRain 14 (.iconst 5) 1 15 := ⟨by decide +kernel, rfl⟩
theorem d_X1_rowsWithRain_15 : zDc M_X1_rowsWithRain 15 (.invokestatic 82) 3 18 := ⟨by decide +kernel, rfl⟩
theorem d_X1_rowsWithRain_18 : zDc M_X1_rowsWithRain 18 (.invokevirtual 88) 3 21 := ⟨by decide +kernel, rfl⟩
theorem d_X1_rowsWithRain_21 : zDc M_X1_rowsWithRain 21 (.ireturn) 1 22 := ⟨by decide +kernel, rfl⟩
def f_X1_rowsWithRain (a0 : Nat) (a1 : Nat) (a2 : Int32) (a3 : Int32) (h0 : zHp) : Option (Int32 × zHp) :=
  zob (zgR h0 a0 1 0) (fun v1 =>
  zob (zaA 4 h0 v1 0) (fun v2 =>
  zbd (zcv 5 v2 h0 (f_X5_copyFrom v2 a1 h0)) (fun v4 h3 =>
  zbd (zcv 1 a0 h3 (f_X1_rowsFrom 8 a0 0 a2 (zmn a3 5) h3)) (fun v6 h5 =>
  some (v6, h5)))))
set_option maxRecDepth 100000 in
set_option maxHeartbeats 4000000 in
theorem t_X1_rowsWithRain (a0 : Nat) (a1 : Nat) (a2 : Int32) (a3 : Int32) (h0 : zHp) : ∀ (r : Int32) (h' : zHp), f_X1_rowsWithRain a0 a1 a2 a3 h0 = some (r, h') → zCt yX1_rowsWithRain (.code yX1_rowsWithRain cX1_rowsWithRain 4 (some .int)) 15 417 0 0 [.ref a0, .ref a1, .int a2, .int a3] h0 (some (.int r)) h' := by
  refine zct_of M_X1_rowsWithRain yX1_rowsWithRain (by decide) rfl rfl [.ref a0, .ref a1, .int a2, .int a3] h0 (Nat.le_of_ble_eq_true rfl) (fun r => some (.int r)) (fun X => ?_)
  show zG X M_X1_rowsWithRain (0, 0) 0 [(0, .ref a0), (1, .ref a1), (2, .int a2), (3, .int a3)] [] h0 (f_X1_rowsWithRain a0 a1 a2 a3 h0) (fun (r : Int32) h' => zKe X (some (.int r)) h')
  unfold f_X1_rowsWithRain
  refine zg_aload_n 0 rfl d_X1_rowsWithRain_0 ?_
  refine zg_getR d_X1_rowsWithRain_1 zc_1 (by decide) fl_X1_11 (fun v1 => ?_)
  refine zg_iconst 0 rfl d_X1_rowsWithRain_4 ?_
  refine zg_ald4 d_X1_rowsWithRain_5 (fun v2 => ?_)
  refine zg_aload_n 1 rfl d_X1_rowsWithRain_6 ?_
  refine zg_cVv (b := v2) (As := [.ref a1]) (rest := []) (0, 0) d_X1_rowsWithRain_7 zc_5 rfl cw_X1_40 wi_X5_copyFrom ws_X5_copyFrom rfl rfl (Nat.le_of_ble_eq_true rfl) (by decide) (by decide) ⟨by decide, by decide⟩ rfl (t_X5_copyFrom v2 a1 h0) (fun v4 h3 => ?_)
  refine zg_aload_n 0 rfl d_X1_rowsWithRain_10 ?_
  refine zg_iconst 0 rfl d_X1_rowsWithRain_11 ?_
  refine zg_iload_n 2 rfl d_X1_rowsWithRain_12 ?_
  refine zg_iload_n 3 rfl d_X1_rowsWithRain_13 ?_
  refine zg_iconst 5 rfl d_X1_rowsWithRain_14 ?_
  refine zg_mmin d_X1_rowsWithRain_15 ml_X1_82 (by decide) (Nat.le_of_ble_eq_true rfl) ⟨Nat.le_of_ble_eq_true rfl, Nat.le_of_ble_eq_true rfl⟩ ?_
  refine zg_cVi (b := a0) (As := [.int 0, .int a2, .int (zmn a3 5)]) (rest := []) (0, 0) d_X1_rowsWithRain_18 zc_1 rfl cw_X1_88 wi_X1_rowsFrom ws_X1_rowsFrom rfl rfl (Nat.le_of_ble_eq_true rfl) (by decide) (by decide) ⟨by decide, by decide⟩ rfl (t_X1_rowsFrom 8 a0 0 a2 (zmn a3 5) h3) (fun v6 h5 => ?_)
  exact zg_iretK d_X1_rowsWithRain_21 rfl ⟨Nat.le_of_ble_eq_true rfl, Nat.le_of_ble_eq_true rfl⟩ (fun q => q)
abbrev M_X1_planOf : zMt := (RX1, cX1_planOf, 5, 15, 426, (some .int), "planOf", 0, 0)
theorem d_X1_planOf_0 : zDc M_X1_planOf 0 (.aload_n 0) 1 1 := ⟨by decide +kernel, rfl⟩
theorem d_X1_planOf_1 : zDc M_X1_planOf 1 (.getfield 11) 3 4 := ⟨by decide +kernel, rfl⟩
theorem d_X1_planOf_4 : zDc M_X1_planOf 4 (.iconst 0) 1 5 := ⟨by decide +kernel, rfl⟩
theorem d_X1_planOf_5 : zDc M_X1_planOf 5 (.aaload) 1 6 := ⟨by decide +kernel, rfl⟩
theorem d_X1_planOf_6 : zDc M_X1_planOf 6 (.aload_n 1) 1 7 := ⟨by decide +kernel, rfl⟩
theorem d_X1_planOf_7 : zDc M_X1_planOf 7 (.invokevirtual 40) 3 10 := ⟨by decide +kernel, rfl⟩
theorem d_X1_planOf_10 : zDc M_X1_planOf 10 (.aload_n 0) 1 11 := ⟨by decide +kernel, rfl⟩
theorem d_X1_planOf_11 : zDc M_X1_planOf 11 (.iconst (-1)) 1 12 := ⟨by decide +kernel, rfl⟩
theorem d_X1_planOf_12 : zDc M_X1_planOf 12 (.putfield 97) 3 15 := ⟨by decide +kernel, rfl⟩
theorem d_X1_planOf_15 : zDc M_X1_planOf 15 (.aload_n 0) 1 16 := ⟨by decide +kernel, rfl⟩
theorem d_X1_planOf_16 : zDc M_X1_planOf 16 (.iconst 0) 1 17 := ⟨by decide +kernel, rfl⟩
theorem d_X1_planOf_17 : zDc M_X1_planOf 17 (.iload_n 2) 1 18 := ⟨by decide +kernel, rfl⟩
theorem d_X1_planOf_18 : zDc M_X1_planOf 18 (.iload_n 3) 1 19 := ⟨by decide +kernel, rfl⟩
theorem d_X1_planOf_19 : zDc M_X1_planOf 19 (.iload 4) 2 21 := ⟨by decide +kernel, rfl⟩
theorem d_X1_planOf_21 : zDc M_X1_planOf 21 (.iconst 4) 1 22 := ⟨by decide +kernel, rfl⟩
theorem d_X1_planOf_22 : zDc M_X1_planOf 22 (.invokestatic 82) 3 25 := ⟨by decide +kernel, rfl⟩
theorem d_X1_planOf_25 : zDc M_X1_planOf 25 (.invokevirtual 100) 3 28 := ⟨by decide +kernel, rfl⟩
theorem d_X1_planOf_28 : zDc M_X1_planOf 28 (.aload_n 0) 1 29 := ⟨by decide +kernel, rfl⟩
theorem d_X1_planOf_29 : zDc M_X1_planOf 29 (.getfield 97) 3 32 := ⟨by decide +kernel, rfl⟩
theorem d_X1_planOf_32 : zDc M_X1_planOf 32 (.ireturn) 1 33 := ⟨by decide +kernel, rfl⟩
def f_X1_planOf (a0 : Nat) (a1 : Nat) (a2 : Int32) (a3 : Int32) (a4 : Int32) (h0 : zHp) : Option (Int32 × zHp) :=
  zob (zgR h0 a0 1 0) (fun v1 =>
  zob (zaA 4 h0 v1 0) (fun v2 =>
  zbd (zcv 5 v2 h0 (f_X5_copyFrom v2 a1 h0)) (fun v4 h3 =>
  zob (zpV h3 a0 1 7 (.int (-1))) (fun h5 =>
  zbd (zcv 1 a0 h5 (f_X1_planFrom 8 a0 0 a2 a3 (zmn a4 4) h5)) (fun v7 h6 =>
  zob (zgI h6 a0 1 7) (fun v8 =>
  some (v8, h6)))))))
set_option maxRecDepth 100000 in
set_option maxHeartbeats 4000000 in
theorem t_X1_planOf (a0 : Nat) (a1 : Nat) (a2 : Int32) (a3 : Int32) (a4 : Int32) (h0 : zHp) : ∀ (r : Int32) (h' : zHp), f_X1_planOf a0 a1 a2 a3 a4 h0 = some (r, h') → zCt yX1_planOf (.code yX1_planOf cX1_planOf 5 (some .int)) 15 426 0 0 [.ref a0, .ref a1, .int a2, .int a3, .int a4] h0 (some (.int r)) h' := by
  refine zct_of M_X1_planOf yX1_planOf (by decide) rfl rfl [.ref a0, .ref a1, .int a2, .int a3, .int a4] h0 (Nat.le_of_ble_eq_true rfl) (fun r => some (.int r)) (fun X => ?_)
  show zG X M_X1_planOf (0, 0) 0 [(0, .ref a0), (1, .ref a1), (2, .int a2), (3, .int a3), (4, .int a4)] [] h0 (f_X1_planOf a0 a1 a2 a3 a4 h0) (fun (r : Int32) h' => zKe X (some (.int r)) h')
  unfold f_X1_planOf
  refine zg_aload_n 0 rfl d_X1_planOf_0 ?_
  refine zg_getR d_X1_planOf_1 zc_1 (by decide) fl_X1_11 (fun v1 => ?_)
  refine zg_iconst 0 rfl d_X1_planOf_4 ?_
  refine zg_ald4 d_X1_planOf_5 (fun v2 => ?_)
  refine zg_aload_n 1 rfl d_X1_planOf_6 ?_
  refine zg_cVv (b := v2) (As := [.ref a1]) (rest := []) (0, 0) d_X1_planOf_7 zc_5 rfl cw_X1_40 wi_X5_copyFrom ws_X5_copyFrom rfl rfl (Nat.le_of_ble_eq_true rfl) (by decide) (by decide) ⟨by decide, by decide⟩ rfl (t_X5_copyFrom v2 a1 h0) (fun v4 h3 => ?_)
  refine zg_aload_n 0 rfl d_X1_planOf_10 ?_
  refine zg_iconst (-1) rfl d_X1_planOf_11 ?_
  refine zg_putV d_X1_planOf_12 zc_1 (by decide) fl_X1_97 rfl rfl rfl (fun h5 => ?_)
  refine zg_aload_n 0 rfl d_X1_planOf_15 ?_
  refine zg_iconst 0 rfl d_X1_planOf_16 ?_
  refine zg_iload_n 2 rfl d_X1_planOf_17 ?_
  refine zg_iload_n 3 rfl d_X1_planOf_18 ?_
  refine zg_iload 4 rfl d_X1_planOf_19 ?_
  refine zg_iconst 4 rfl d_X1_planOf_21 ?_
  refine zg_mmin d_X1_planOf_22 ml_X1_82 (by decide) (Nat.le_of_ble_eq_true rfl) ⟨Nat.le_of_ble_eq_true rfl, Nat.le_of_ble_eq_true rfl⟩ ?_
  refine zg_cVv (b := a0) (As := [.int 0, .int a2, .int a3, .int (zmn a4 4)]) (rest := []) (0, 0) d_X1_planOf_25 zc_1 rfl cw_X1_100 wi_X1_planFrom ws_X1_planFrom rfl rfl (Nat.le_of_ble_eq_true rfl) (by decide) (by decide) ⟨by decide, by decide⟩ rfl (t_X1_planFrom 8 a0 0 a2 a3 (zmn a4 4) h5) (fun v7 h6 => ?_)
  refine zg_aload_n 0 rfl d_X1_planOf_28 ?_
  refine zg_getI d_X1_planOf_29 zc_1 (by decide) fl_X1_97 (fun v8 => ?_)
  exact zg_iretK d_X1_planOf_32 rfl ⟨Nat.le_of_ble_eq_true rfl, Nat.le_of_ble_eq_true rfl⟩ (fun q => q)
abbrev M_X7_likely : zMt := (RX7, cX7_likely, 7, 16, 440, (some .int), "likely", 0, 0)
theorem d_X7_likely_0 : zDc M_X7_likely 0 (.aload_n 0) 1 1 := ⟨by decide +kernel, rfl⟩
theorem d_X7_likely_1 : zDc M_X7_likely 1 (.iload_n 1) 1 2 := ⟨by decide +kernel, rfl⟩
theorem d_X7_likely_2 : zDc M_X7_likely 2 (.invokevirtual 168) 3 5 := ⟨by decide +kernel, rfl⟩
theorem d_X7_likely_5 : zDj M_X7_likely 5 (.ifCond .eq 21) 21 8 26 := ⟨by decide +kernel, rfl, by decide⟩
theorem d_X7_likely_8 : zDc M_X7_likely 8 (.iconst 1) 1 9 := ⟨by decide +kernel, rfl⟩
theorem d_X7_likely_9 : zDc M_X7_likely 9 (.iload_n 2) 1 10 := ⟨by decide +kernel, rfl⟩
theorem d_X7_likely_10 : zDc M_X7_likely 10 (.iconst 5) 1 11 := ⟨by decide +kernel, rfl⟩
theorem d_X7_likely_11 : zDc M_X7_likely 11 (.invokestatic 194) 3 14 := ⟨by decide +kernel, rfl⟩
theorem d_X7_likely_14 : zDj M_X7_likely 14 (.ifCond .eq 12) 12 17 26 := ⟨by decide +kernel, rfl, by decide⟩
theorem d_X7_likely_17 : zDc M_X7_likely 17 (.iconst 0) 1 18 := ⟨by decide +kernel, rfl⟩
theorem d_X7_likely_18 : zDc M_X7_likely 18 (.iload_n 3) 1 19 := ⟨by decide +kernel, rfl⟩
theorem d_X7_likely_19 : zDc M_X7_likely 19 (.iconst 1) 1 20 := ⟨by decide +kernel, rfl⟩
theorem d_X7_likely_20 : zDc M_X7_likely 20 (.invokestatic 194) 3 23 := ⟨by decide +kernel, rfl⟩
theorem d_X7_likely_23 : zDj M_X7_likely 23 (.ifCond .ne 5) 5 26 28 := ⟨by decide +kernel, rfl, by decide⟩
theorem d_X7_likely_26 : zDc M_X7_likely 26 (.iconst (-1)) 1 27 := ⟨by decide +kernel, rfl⟩
theorem d_X7_likely_27 : zDc M_X7_likely 27 (.ireturn) 1 28 := ⟨by decide +kernel, rfl⟩
theorem d_X7_likely_28 : zDc M_X7_likely 28 (.aload_n 0) 1 29 := ⟨by decide +kernel, rfl⟩
theorem d_X7_likely_29 : zDc M_X7_likely 29 (.getfield 66) 3 32 := ⟨by decide +kernel, rfl⟩
theorem d_X7_likely_32 : zDc M_X7_likely 32 (.aload_n 0) 1 33 := ⟨by decide +kernel, rfl⟩
theorem d_X7_likely_33 : zDc M_X7_likely 33 (.getfield 38) 3 36 := ⟨by decide +kernel, rfl⟩
theorem d_X7_likely_36 : zDc M_X7_likely 36 (.iload_n 1) 1 37 := ⟨by decide +kernel, rfl⟩
theorem d_X7_likely_37 : zDc M_X7_likely 37 (.iload_n 2) 1 38 := ⟨by decide +kernel, rfl⟩
theorem d_X7_likely_38 : zDc M_X7_likely 38 (.invokevirtual 275) 3 41 := ⟨by decide +kernel, rfl⟩
theorem d_X7_likely_41 : zDc M_X7_likely 41 (.istore 4) 2 43 := ⟨by decide +kernel, rfl⟩
theorem d_X7_likely_43 : zDc M_X7_likely 43 (.iload_n 2) 1 44 := ⟨by decide +kernel, rfl⟩
theorem d_X7_likely_44 : zDc M_X7_likely 44 (.invokestatic 278) 3 47 := ⟨by decide +kernel, rfl⟩
theorem d_X7_likely_47 : zDc M_X7_likely 47 (.istore 5) 2 49 := ⟨by decide +kernel, rfl⟩
theorem d_X7_likely_49 : zDc M_X7_likely 49 (.iconst 0) 1 50 := ⟨by decide +kernel, rfl⟩
theorem d_X7_likely_50 : zDc M_X7_likely 50 (.istore 6) 2 52 := ⟨by decide +kernel, rfl⟩
theorem d_X7_likely_52 : zDc M_X7_likely 52 (.iload 6) 2 54 := ⟨by decide +kernel, rfl⟩
theorem d_X7_likely_54 : zDc M_X7_likely 54 (.iload_n 2) 1 55 := ⟨by decide +kernel, rfl⟩
theorem d_X7_likely_55 : zDj M_X7_likely 55 (.if_icmp .ge 28) 28 58 83 := ⟨by decide +kernel, rfl, by decide⟩
theorem d_X7_likely_58 : zDc M_X7_likely 58 (.iload 4) 2 60 := ⟨by decide +kernel, rfl⟩
theorem d_X7_likely_60 : zDc M_X7_likely 60 (.iconst 5) 1 61 := ⟨by decide +kernel, rfl⟩
theorem d_X7_likely_61 : zDc M_X7_likely 61 (.irem) 1 62 := ⟨by decide +kernel, rfl⟩
theorem d_X7_likely_62 : zDj M_X7_likely 62 (.ifCond .ne 21) 21 65 83 := ⟨by decide +kernel, rfl, by decide⟩
theorem d_X7_likely_65 : zDc M_X7_likely 65 (.iload 4) 2 67 := ⟨by decide +kernel, rfl⟩
theorem d_X7_likely_67 : zDc M_X7_likely 67 (.iconst 5) 1 68 := ⟨by decide +kernel, rfl⟩
theorem d_X7_likely_68 : zDc M_X7_likely 68 (.idiv) 1 69 := ⟨by decide +kernel, rfl⟩
theorem d_X7_likely_69 : zDc M_X7_likely 69 (.istore 4) 2 71 := ⟨by decide +kernel, rfl⟩
theorem d_X7_likely_71 : zDc M_X7_likely 71 (.iload 5) 2 73 := ⟨by decide +kernel, rfl⟩
theorem d_X7_likely_73 : zDc M_X7_likely 73 (.iconst 5) 1 74 := ⟨by decide +kernel, rfl⟩
theorem d_X7_likely_74 : zDc M_X7_likely 74 (.idiv) 1 75 := ⟨by decide +kernel, rfl⟩
theorem d_X7_likely_75 : zDc M_X7_likely 75 (.istore 5) 2 77 := ⟨by decide +kernel, rfl⟩
theorem d_X7_likely_77 : zDc M_X7_likely 77 (.iinc 6 1) 3 80 := ⟨by decide +kernel, rfl⟩
theorem d_X7_likely_80 : zDj M_X7_likely 80 (.goto (-28)) (-28) 83 52 := ⟨by decide +kernel, rfl, by decide⟩
theorem d_X7_likely_83 : zDc M_X7_likely 83 (.iload_n 3) 1 84 := ⟨by decide +kernel, rfl⟩
theorem d_X7_likely_84 : zDj M_X7_likely 84 (.ifCond .ne 8) 8 87 92 := ⟨by decide +kernel, rfl, by decide⟩
theorem d_X7_likely_87 : zDc M_X7_likely 87 (.iload 4) 2 89 := ⟨by decide +kernel, rfl⟩
theorem d_X7_likely_89 : zDj M_X7_likely 89 (.goto 5) 5 92 94 := ⟨by decide +kernel, rfl, by decide⟩
theorem d_X7_likely_92 : zDc M_X7_likely 92 (.iload 5) 2 94 := ⟨by decide +kernel, rfl⟩
theorem d_X7_likely_94 : zDc M_X7_likely 94 (.ireturn) 1 95 := ⟨by decide +kernel, rfl⟩
def f_X7_likely (a0 : Nat) (a1 : Int32) (a2 : Int32) (a3 : Int32) (h0 : zHp) : Option (Int32 × zHp) :=
  zbd (zcv 7 a0 h0 (f_X7_isField a0 a1 h0)) (fun v2 h1 =>
  if v2 = 0 then
  some ((-1), h1)
  else
  zbd ((f_X7_isFrom 1 a2 5 h1)) (fun v4 h3 =>
  if v4 = 0 then
  some ((-1), h3)
  else
  zbd ((f_X7_isFrom 0 a3 1 h3)) (fun v6 h5 =>
  if v6 = 0 then
  some ((-1), h5)
  else
  zob (zgR h5 a0 7 9) (fun v7 =>
  zob (zgR h5 a0 7 4) (fun v8 =>
  zbd (zcv 1 v7 h5 (f_X1_rowsWithRain v7 v8 a1 a2 h5)) (fun v10 h9 =>
  zbd ((f_X1_rowsOf a2 h9)) (fun v12 h11 =>
  zbd (
  zlp (σ := (Int32 × Int32 × Int32)) (β := (Int32 × Int32 × Int32)) zLF (fun s13 h14 =>
  if a2 ≤ s13.2.2 then
  some ((.inr (s13.1, s13.2.1, s13.2.2)), h14)
  else
  if (zrm s13.1 5) = 0 then
  some ((.inl ((s13.1 / 5), (s13.2.1 / 5), (s13.2.2 + 1))), h14)
  else
  some ((.inr (s13.1, s13.2.1, s13.2.2)), h14)) (v10, v12, 0) h11) (fun e15 h16 =>
  if a3 = 0 then
  some (e15.1, h16)
  else
  some (e15.2.1, h16)))))))))
set_option maxRecDepth 100000 in
set_option maxHeartbeats 4000000 in
theorem t_X7_likely (a0 : Nat) (a1 : Int32) (a2 : Int32) (a3 : Int32) (h0 : zHp) : ∀ (r : Int32) (h' : zHp), f_X7_likely a0 a1 a2 a3 h0 = some (r, h') → zCt yX7_likely (.code yX7_likely cX7_likely 7 (some .int)) 16 440 0 0 [.ref a0, .int a1, .int a2, .int a3] h0 (some (.int r)) h' := by
  refine zct_of M_X7_likely yX7_likely (by decide) rfl rfl [.ref a0, .int a1, .int a2, .int a3] h0 (Nat.le_of_ble_eq_true rfl) (fun r => some (.int r)) (fun X => ?_)
  show zG X M_X7_likely (0, 0) 0 [(0, .ref a0), (1, .int a1), (2, .int a2), (3, .int a3)] [] h0 (f_X7_likely a0 a1 a2 a3 h0) (fun (r : Int32) h' => zKe X (some (.int r)) h')
  unfold f_X7_likely
  refine zg_aload_n 0 rfl d_X7_likely_0 ?_
  refine zg_iload_n 1 rfl d_X7_likely_1 ?_
  refine zg_cVi (b := a0) (As := [.int a1]) (rest := []) (0, 0) d_X7_likely_2 zc_7 rfl cw_X7_168 wi_X7_isField ws_X7_isField rfl rfl (Nat.le_of_ble_eq_true rfl) (by decide) (by decide) ⟨by decide, by decide⟩ rfl (t_X7_isField a0 a1 h0) (fun v2 h1 => ?_)
  refine zg_if_eq d_X7_likely_5 ?_ ?_
  · refine zg_iconst (-1) rfl d_X7_likely_26 ?_
    exact zg_iretK d_X7_likely_27 rfl ⟨Nat.le_of_ble_eq_true rfl, Nat.le_of_ble_eq_true rfl⟩ (fun q => q)
  · refine zg_iconst 1 rfl d_X7_likely_8 ?_
    refine zg_iload_n 2 rfl d_X7_likely_9 ?_
    refine zg_iconst 5 rfl d_X7_likely_10 ?_
    refine zg_cSi (As := [.int 1, .int a2, .int 5]) (rest := []) (0, 0) d_X7_likely_11 cw_X7_194 wt_X7_isFrom rfl rfl (Nat.le_of_ble_eq_true rfl) (by decide) (by decide) ⟨by decide, by decide⟩ rfl (t_X7_isFrom 1 a2 5 h1) (fun v4 h3 => ?_)
    refine zg_if_eq d_X7_likely_14 ?_ ?_
    · refine zg_iconst (-1) rfl d_X7_likely_26 ?_
      exact zg_iretK d_X7_likely_27 rfl ⟨Nat.le_of_ble_eq_true rfl, Nat.le_of_ble_eq_true rfl⟩ (fun q => q)
    · refine zg_iconst 0 rfl d_X7_likely_17 ?_
      refine zg_iload_n 3 rfl d_X7_likely_18 ?_
      refine zg_iconst 1 rfl d_X7_likely_19 ?_
      refine zg_cSi (As := [.int 0, .int a3, .int 1]) (rest := []) (0, 0) d_X7_likely_20 cw_X7_194 wt_X7_isFrom rfl rfl (Nat.le_of_ble_eq_true rfl) (by decide) (by decide) ⟨by decide, by decide⟩ rfl (t_X7_isFrom 0 a3 1 h3) (fun v6 h5 => ?_)
      refine zg_if_ne d_X7_likely_23 ?_ ?_
      · refine zg_iconst (-1) rfl d_X7_likely_26 ?_
        exact zg_iretK d_X7_likely_27 rfl ⟨Nat.le_of_ble_eq_true rfl, Nat.le_of_ble_eq_true rfl⟩ (fun q => q)
      · refine zg_aload_n 0 rfl d_X7_likely_28 ?_
        refine zg_getR d_X7_likely_29 zc_7 (by decide) fl_X7_66 (fun v7 => ?_)
        refine zg_aload_n 0 rfl d_X7_likely_32 ?_
        refine zg_getR d_X7_likely_33 zc_7 (by decide) fl_X7_38 (fun v8 => ?_)
        refine zg_iload_n 1 rfl d_X7_likely_36 ?_
        refine zg_iload_n 2 rfl d_X7_likely_37 ?_
        refine zg_cVi (b := v7) (As := [.ref v8, .int a1, .int a2]) (rest := []) (0, 0) d_X7_likely_38 zc_1 rfl cw_X7_275 wi_X1_rowsWithRain ws_X1_rowsWithRain rfl rfl (Nat.le_of_ble_eq_true rfl) (by decide) (by decide) ⟨by decide, by decide⟩ rfl (t_X1_rowsWithRain v7 v8 a1 a2 h5) (fun v10 h9 => ?_)
        refine zg_istore [(4, .int v10), (0, .ref a0), (1, .int a1), (2, .int a2), (3, .int a3)] d_X7_likely_41 (by decide) rfl ?_
        refine zg_iload_n 3 rfl d_X7_likely_43 ?_
        refine zg_cSi (As := [.int a2]) (rest := []) (0, 0) d_X7_likely_44 cw_X7_278 wt_X1_rowsOf rfl rfl (Nat.le_of_ble_eq_true rfl) (by decide) (by decide) ⟨by decide, by decide⟩ rfl (t_X1_rowsOf a2 h9) (fun v12 h11 => ?_)
        refine zg_istore [(5, .int v12), (4, .int v10), (0, .ref a0), (1, .int a1), (2, .int a2), (3, .int a3)] d_X7_likely_47 (by decide) rfl ?_
        refine zg_iconst 0 rfl d_X7_likely_49 ?_
        refine zg_istore [(6, .int 0), (5, .int v12), (4, .int v10), (0, .ref a0), (1, .int a1), (2, .int a2), (3, .int a3)] d_X7_likely_50 (by decide) rfl ?_
        refine zg_bd (E := 83) (el := (fun (e15 : (Int32 × Int32 × Int32)) => [(0, .ref a0), (1, .int a1), (2, .int a2), (3, .int a3), (4, .int e15.1), (5, .int e15.2.1), (6, .int e15.2.2)])) (es := fun _ => []) (zg_sub [3, 4, 5, 6, 2, 1, 0] rfl (zg_lp (el := (fun (s13 : (Int32 × Int32 × Int32)) => [(0, .ref a0), (1, .int a1), (2, .int a2), (3, .int a3), (4, .int s13.1), (5, .int s13.2.1), (6, .int s13.2.2)])) (fun s13 h14 => ?_) (v10, v12, 0) h11)) (fun e15 h16 => ?_)
        · refine zg_iload 6 rfl d_X7_likely_52 ?_
          refine zg_iload_n 2 rfl d_X7_likely_54 ?_
          refine zg_icmp_ge d_X7_likely_55 ?_ ?_
          · exact zg_finK (E := 0) [0, 1, 2, 3, 4, 5, 6] rfl rfl (fun q => q)
          · refine zg_iload 4 rfl d_X7_likely_58 ?_
            refine zg_iconst 5 rfl d_X7_likely_60 ?_
            refine zg_irem (by decide) d_X7_likely_61 ?_
            refine zg_if_ne d_X7_likely_62 ?_ ?_
            · refine zg_iload 4 rfl d_X7_likely_65 ?_
              refine zg_iconst 5 rfl d_X7_likely_67 ?_
              refine zg_idiv (by decide) d_X7_likely_68 ?_
              refine zg_istore [(4, .int (s13.1 / 5)), (0, .ref a0), (1, .int a1), (2, .int a2), (3, .int a3), (5, .int s13.2.1), (6, .int s13.2.2)] d_X7_likely_69 (by decide) rfl ?_
              refine zg_iload 5 rfl d_X7_likely_71 ?_
              refine zg_iconst 5 rfl d_X7_likely_73 ?_
              refine zg_idiv (by decide) d_X7_likely_74 ?_
              refine zg_istore [(5, .int (s13.2.1 / 5)), (4, .int (s13.1 / 5)), (0, .ref a0), (1, .int a1), (2, .int a2), (3, .int a3), (6, .int s13.2.2)] d_X7_likely_75 (by decide) rfl ?_
              refine zg_iinc 6 (s13.2.2 + 1) [(6, .int (s13.2.2 + 1)), (5, .int (s13.2.1 / 5)), (4, .int (s13.1 / 5)), (0, .ref a0), (1, .int a1), (2, .int a2), (3, .int a3)] d_X7_likely_77 rfl rfl (by decide) rfl ?_
              refine zg_goto d_X7_likely_80 ?_
              exact zg_finK (E := 0) [3, 4, 5, 6, 2, 1, 0] rfl rfl (fun q => q)
            · exact zg_finK (E := 0) [0, 1, 2, 3, 4, 5, 6] rfl rfl (fun q => q)
        · refine zg_iload_n 3 rfl d_X7_likely_83 ?_
          refine zg_if_ne d_X7_likely_84 ?_ ?_
          · refine zg_iload 4 rfl d_X7_likely_87 ?_
            refine zg_goto d_X7_likely_89 ?_
            exact zg_iretK d_X7_likely_94 rfl ⟨Nat.le_of_ble_eq_true rfl, Nat.le_of_ble_eq_true rfl⟩ (fun q => q)
          · refine zg_iload 5 rfl d_X7_likely_92 ?_
            exact zg_iretK d_X7_likely_94 rfl ⟨Nat.le_of_ble_eq_true rfl, Nat.le_of_ble_eq_true rfl⟩ (fun q => q)
abbrev M_X7_plan : zMt := (RX7, cX7_plan, 4, 16, 450, (some .int), "plan", 0, 0)
theorem d_X7_plan_0 : zDc M_X7_plan 0 (.aload_n 0) 1 1 := ⟨by decide +kernel, rfl⟩
theorem d_X7_plan_1 : zDc M_X7_plan 1 (.iload_n 1) 1 2 := ⟨by decide +kernel, rfl⟩
theorem d_X7_plan_2 : zDc M_X7_plan 2 (.invokevirtual 146) 3 5 := ⟨by decide +kernel, rfl⟩
theorem d_X7_plan_5 : zDj M_X7_plan 5 (.ifCond .eq 20) 20 8 25 := ⟨by decide +kernel, rfl, by decide⟩
theorem d_X7_plan_8 : zDc M_X7_plan 8 (.aload_n 0) 1 9 := ⟨by decide +kernel, rfl⟩
theorem d_X7_plan_9 : zDc M_X7_plan 9 (.iload_n 2) 1 10 := ⟨by decide +kernel, rfl⟩
theorem d_X7_plan_10 : zDc M_X7_plan 10 (.invokevirtual 168) 3 13 := ⟨by decide +kernel, rfl⟩
theorem d_X7_plan_13 : zDj M_X7_plan 13 (.ifCond .eq 12) 12 16 25 := ⟨by decide +kernel, rfl, by decide⟩
theorem d_X7_plan_16 : zDc M_X7_plan 16 (.iconst 1) 1 17 := ⟨by decide +kernel, rfl⟩
theorem d_X7_plan_17 : zDc M_X7_plan 17 (.iload_n 3) 1 18 := ⟨by decide +kernel, rfl⟩
theorem d_X7_plan_18 : zDc M_X7_plan 18 (.iconst 4) 1 19 := ⟨by decide +kernel, rfl⟩
theorem d_X7_plan_19 : zDc M_X7_plan 19 (.invokestatic 194) 3 22 := ⟨by decide +kernel, rfl⟩
theorem d_X7_plan_22 : zDj M_X7_plan 22 (.ifCond .ne 5) 5 25 27 := ⟨by decide +kernel, rfl, by decide⟩
theorem d_X7_plan_25 : zDc M_X7_plan 25 (.iconst (-1)) 1 26 := ⟨by decide +kernel, rfl⟩
theorem d_X7_plan_26 : zDc M_X7_plan 26 (.ireturn) 1 27 := ⟨by decide +kernel, rfl⟩
theorem d_X7_plan_27 : zDc M_X7_plan 27 (.aload_n 0) 1 28 := ⟨by decide +kernel, rfl⟩
theorem d_X7_plan_28 : zDc M_X7_plan 28 (.getfield 66) 3 31 := ⟨by decide +kernel, rfl⟩
theorem d_X7_plan_31 : zDc M_X7_plan 31 (.aload_n 0) 1 32 := ⟨by decide +kernel, rfl⟩
theorem d_X7_plan_32 : zDc M_X7_plan 32 (.getfield 38) 3 35 := ⟨by decide +kernel, rfl⟩
theorem d_X7_plan_35 : zDc M_X7_plan 35 (.iload_n 1) 1 36 := ⟨by decide +kernel, rfl⟩
theorem d_X7_plan_36 : zDc M_X7_plan 36 (.iload_n 2) 1 37 := ⟨by decide +kernel, rfl⟩
theorem d_X7_plan_37 : zDc M_X7_plan 37 (.iload_n 3) 1 38 := ⟨by decide +kernel, rfl⟩
theorem d_X7_plan_38 : zDc M_X7_plan 38 (.invokevirtual 281) 3 41 := ⟨by decide +kernel, rfl⟩
theorem d_X7_plan_41 : zDc M_X7_plan 41 (.ireturn) 1 42 := ⟨by decide +kernel, rfl⟩
def f_X7_plan (a0 : Nat) (a1 : Int32) (a2 : Int32) (a3 : Int32) (h0 : zHp) : Option (Int32 × zHp) :=
  zbd (zcv 7 a0 h0 (f_X7_isChild a0 a1 h0)) (fun v2 h1 =>
  if v2 = 0 then
  some ((-1), h1)
  else
  zbd (zcv 7 a0 h1 (f_X7_isField a0 a2 h1)) (fun v4 h3 =>
  if v4 = 0 then
  some ((-1), h3)
  else
  zbd ((f_X7_isFrom 1 a3 4 h3)) (fun v6 h5 =>
  if v6 = 0 then
  some ((-1), h5)
  else
  zob (zgR h5 a0 7 9) (fun v7 =>
  zob (zgR h5 a0 7 4) (fun v8 =>
  zbd (zcv 1 v7 h5 (f_X1_planOf v7 v8 a1 a2 a3 h5)) (fun v10 h9 =>
  some (v10, h9)))))))
set_option maxRecDepth 100000 in
set_option maxHeartbeats 4000000 in
theorem t_X7_plan (a0 : Nat) (a1 : Int32) (a2 : Int32) (a3 : Int32) (h0 : zHp) : ∀ (r : Int32) (h' : zHp), f_X7_plan a0 a1 a2 a3 h0 = some (r, h') → zCt yX7_plan (.code yX7_plan cX7_plan 4 (some .int)) 16 450 0 0 [.ref a0, .int a1, .int a2, .int a3] h0 (some (.int r)) h' := by
  refine zct_of M_X7_plan yX7_plan (by decide) rfl rfl [.ref a0, .int a1, .int a2, .int a3] h0 (Nat.le_of_ble_eq_true rfl) (fun r => some (.int r)) (fun X => ?_)
  show zG X M_X7_plan (0, 0) 0 [(0, .ref a0), (1, .int a1), (2, .int a2), (3, .int a3)] [] h0 (f_X7_plan a0 a1 a2 a3 h0) (fun (r : Int32) h' => zKe X (some (.int r)) h')
  unfold f_X7_plan
  refine zg_aload_n 0 rfl d_X7_plan_0 ?_
  refine zg_iload_n 1 rfl d_X7_plan_1 ?_
  refine zg_cVi (b := a0) (As := [.int a1]) (rest := []) (0, 0) d_X7_plan_2 zc_7 rfl cw_X7_146 wi_X7_isChild ws_X7_isChild rfl rfl (Nat.le_of_ble_eq_true rfl) (by decide) (by decide) ⟨by decide, by decide⟩ rfl (t_X7_isChild a0 a1 h0) (fun v2 h1 => ?_)
  refine zg_if_eq d_X7_plan_5 ?_ ?_
  · refine zg_iconst (-1) rfl d_X7_plan_25 ?_
    exact zg_iretK d_X7_plan_26 rfl ⟨Nat.le_of_ble_eq_true rfl, Nat.le_of_ble_eq_true rfl⟩ (fun q => q)
  · refine zg_aload_n 0 rfl d_X7_plan_8 ?_
    refine zg_iload_n 2 rfl d_X7_plan_9 ?_
    refine zg_cVi (b := a0) (As := [.int a2]) (rest := []) (0, 0) d_X7_plan_10 zc_7 rfl cw_X7_168 wi_X7_isField ws_X7_isField rfl rfl (Nat.le_of_ble_eq_true rfl) (by decide) (by decide) ⟨by decide, by decide⟩ rfl (t_X7_isField a0 a2 h1) (fun v4 h3 => ?_)
    refine zg_if_eq d_X7_plan_13 ?_ ?_
    · refine zg_iconst (-1) rfl d_X7_plan_25 ?_
      exact zg_iretK d_X7_plan_26 rfl ⟨Nat.le_of_ble_eq_true rfl, Nat.le_of_ble_eq_true rfl⟩ (fun q => q)
    · refine zg_iconst 1 rfl d_X7_plan_16 ?_
      refine zg_iload_n 3 rfl d_X7_plan_17 ?_
      refine zg_iconst 4 rfl d_X7_plan_18 ?_
      refine zg_cSi (As := [.int 1, .int a3, .int 4]) (rest := []) (0, 0) d_X7_plan_19 cw_X7_194 wt_X7_isFrom rfl rfl (Nat.le_of_ble_eq_true rfl) (by decide) (by decide) ⟨by decide, by decide⟩ rfl (t_X7_isFrom 1 a3 4 h3) (fun v6 h5 => ?_)
      refine zg_if_ne d_X7_plan_22 ?_ ?_
      · refine zg_iconst (-1) rfl d_X7_plan_25 ?_
        exact zg_iretK d_X7_plan_26 rfl ⟨Nat.le_of_ble_eq_true rfl, Nat.le_of_ble_eq_true rfl⟩ (fun q => q)
      · refine zg_aload_n 0 rfl d_X7_plan_27 ?_
        refine zg_getR d_X7_plan_28 zc_7 (by decide) fl_X7_66 (fun v7 => ?_)
        refine zg_aload_n 0 rfl d_X7_plan_31 ?_
        refine zg_getR d_X7_plan_32 zc_7 (by decide) fl_X7_38 (fun v8 => ?_)
        refine zg_iload_n 1 rfl d_X7_plan_35 ?_
        refine zg_iload_n 2 rfl d_X7_plan_36 ?_
        refine zg_iload_n 3 rfl d_X7_plan_37 ?_
        refine zg_cVi (b := v7) (As := [.ref v8, .int a1, .int a2, .int a3]) (rest := []) (0, 0) d_X7_plan_38 zc_1 rfl cw_X7_281 wi_X1_planOf ws_X1_planOf rfl rfl (Nat.le_of_ble_eq_true rfl) (by decide) (by decide) ⟨by decide, by decide⟩ rfl (t_X1_planOf v7 v8 a1 a2 a3 h5) (fun v10 h9 => ?_)
        exact zg_iretK d_X7_plan_41 rfl ⟨Nat.le_of_ble_eq_true rfl, Nat.le_of_ble_eq_true rfl⟩ (fun q => q)
abbrev M_X7_step : zMt := (RX7, cX7_step, 5, 16, 450, (some .int), "step", 0, 0)
theorem d_X7_step_0 : zDc M_X7_step 0 (.aload_n 0) 1 1 := ⟨by decide +kernel, rfl⟩
theorem d_X7_step_1 : zDc M_X7_step 1 (.iload_n 1) 1 2 := ⟨by decide +kernel, rfl⟩
theorem d_X7_step_2 : zDc M_X7_step 2 (.invokevirtual 146) 3 5 := ⟨by decide +kernel, rfl⟩
theorem d_X7_step_5 : zDj M_X7_step 5 (.ifCond .eq 25) 25 8 30 := ⟨by decide +kernel, rfl, by decide⟩
theorem d_X7_step_8 : zDc M_X7_step 8 (.aload_n 0) 1 9 := ⟨by decide +kernel, rfl⟩
theorem d_X7_step_9 : zDc M_X7_step 9 (.iload_n 2) 1 10 := ⟨by decide +kernel, rfl⟩
theorem d_X7_step_10 : zDc M_X7_step 10 (.invokevirtual 168) 3 13 := ⟨by decide +kernel, rfl⟩
theorem d_X7_step_13 : zDj M_X7_step 13 (.ifCond .eq 17) 17 16 30 := ⟨by decide +kernel, rfl, by decide⟩
theorem d_X7_step_16 : zDc M_X7_step 16 (.iconst 1) 1 17 := ⟨by decide +kernel, rfl⟩
theorem d_X7_step_17 : zDc M_X7_step 17 (.iload_n 3) 1 18 := ⟨by decide +kernel, rfl⟩
theorem d_X7_step_18 : zDc M_X7_step 18 (.iconst 4) 1 19 := ⟨by decide +kernel, rfl⟩
theorem d_X7_step_19 : zDc M_X7_step 19 (.invokestatic 194) 3 22 := ⟨by decide +kernel, rfl⟩
theorem d_X7_step_22 : zDj M_X7_step 22 (.ifCond .eq 8) 8 25 30 := ⟨by decide +kernel, rfl, by decide⟩
theorem d_X7_step_25 : zDc M_X7_step 25 (.iload 4) 2 27 := ⟨by decide +kernel, rfl⟩
theorem d_X7_step_27 : zDj M_X7_step 27 (.ifCond .ge 5) 5 30 32 := ⟨by decide +kernel, rfl, by decide⟩
theorem d_X7_step_30 : zDc M_X7_step 30 (.iconst (-1)) 1 31 := ⟨by decide +kernel, rfl⟩
theorem d_X7_step_31 : zDc M_X7_step 31 (.ireturn) 1 32 := ⟨by decide +kernel, rfl⟩
theorem d_X7_step_32 : zDc M_X7_step 32 (.iload 4) 2 34 := ⟨by decide +kernel, rfl⟩
theorem d_X7_step_34 : zDc M_X7_step 34 (.iload_n 3) 1 35 := ⟨by decide +kernel, rfl⟩
theorem d_X7_step_35 : zDj M_X7_step 35 (.if_icmp .lt 6) 6 38 41 := ⟨by decide +kernel, rfl, by decide⟩
theorem d_X7_step_38 : zDc M_X7_step 38 (.bipush (-2)) 2 40 := ⟨by decide +kernel, rfl⟩
theorem d_X7_step_40 : zDc M_X7_step 40 (.ireturn) 1 41 := ⟨by decide +kernel, rfl⟩
theorem d_X7_step_41 : zDc M_X7_step 41 (.aload_n 0) 1 42 := ⟨by decide +kernel, rfl⟩
theorem d_X7_step_42 : zDc M_X7_step 42 (.getfield 66) 3 45 := ⟨by decide +kernel, rfl⟩
theorem d_X7_step_45 : zDc M_X7_step 45 (.aload_n 0) 1 46 := ⟨by decide +kernel, rfl⟩
theorem d_X7_step_46 : zDc M_X7_step 46 (.getfield 38) 3 49 := ⟨by decide +kernel, rfl⟩
theorem d_X7_step_49 : zDc M_X7_step 49 (.iload_n 1) 1 50 := ⟨by decide +kernel, rfl⟩
theorem d_X7_step_50 : zDc M_X7_step 50 (.iload_n 2) 1 51 := ⟨by decide +kernel, rfl⟩
theorem d_X7_step_51 : zDc M_X7_step 51 (.iload_n 3) 1 52 := ⟨by decide +kernel, rfl⟩
theorem d_X7_step_52 : zDc M_X7_step 52 (.invokevirtual 281) 3 55 := ⟨by decide +kernel, rfl⟩
theorem d_X7_step_55 : zDc M_X7_step 55 (.pop) 1 56 := ⟨by decide +kernel, rfl⟩
theorem d_X7_step_56 : zDc M_X7_step 56 (.aload_n 0) 1 57 := ⟨by decide +kernel, rfl⟩
theorem d_X7_step_57 : zDc M_X7_step 57 (.getfield 66) 3 60 := ⟨by decide +kernel, rfl⟩
theorem d_X7_step_60 : zDc M_X7_step 60 (.iload 4) 2 62 := ⟨by decide +kernel, rfl⟩
theorem d_X7_step_62 : zDc M_X7_step 62 (.invokevirtual 285) 3 65 := ⟨by decide +kernel, rfl⟩
theorem d_X7_step_65 : zDc M_X7_step 65 (.ireturn) 1 66 := ⟨by decide +kernel, rfl⟩
def f_X7_step (a0 : Nat) (a1 : Int32) (a2 : Int32) (a3 : Int32) (a4 : Int32) (h0 : zHp) : Option (Int32 × zHp) :=
  zbd (zcv 7 a0 h0 (f_X7_isChild a0 a1 h0)) (fun v2 h1 =>
  if v2 = 0 then
  some ((-1), h1)
  else
  zbd (zcv 7 a0 h1 (f_X7_isField a0 a2 h1)) (fun v4 h3 =>
  if v4 = 0 then
  some ((-1), h3)
  else
  zbd ((f_X7_isFrom 1 a3 4 h3)) (fun v6 h5 =>
  if v6 = 0 then
  some ((-1), h5)
  else
  if 0 ≤ a4 then
  if a4 < a3 then
  zob (zgR h5 a0 7 9) (fun v7 =>
  zob (zgR h5 a0 7 4) (fun v8 =>
  zbd (zcv 1 v7 h5 (f_X1_planOf v7 v8 a1 a2 a3 h5)) (fun v10 h9 =>
  zob (zgR h9 a0 7 9) (fun v11 =>
  zbd (zcv 1 v11 h9 (f_X1_plannedPush v11 a4 h9)) (fun v13 h12 =>
  some (v13, h12))))))
  else
  some ((-2), h5)
  else
  some ((-1), h5))))
set_option maxRecDepth 100000 in
set_option maxHeartbeats 4000000 in
theorem t_X7_step (a0 : Nat) (a1 : Int32) (a2 : Int32) (a3 : Int32) (a4 : Int32) (h0 : zHp) : ∀ (r : Int32) (h' : zHp), f_X7_step a0 a1 a2 a3 a4 h0 = some (r, h') → zCt yX7_step (.code yX7_step cX7_step 5 (some .int)) 16 450 0 0 [.ref a0, .int a1, .int a2, .int a3, .int a4] h0 (some (.int r)) h' := by
  refine zct_of M_X7_step yX7_step (by decide) rfl rfl [.ref a0, .int a1, .int a2, .int a3, .int a4] h0 (Nat.le_of_ble_eq_true rfl) (fun r => some (.int r)) (fun X => ?_)
  show zG X M_X7_step (0, 0) 0 [(0, .ref a0), (1, .int a1), (2, .int a2), (3, .int a3), (4, .int a4)] [] h0 (f_X7_step a0 a1 a2 a3 a4 h0) (fun (r : Int32) h' => zKe X (some (.int r)) h')
  unfold f_X7_step
  refine zg_aload_n 0 rfl d_X7_step_0 ?_
  refine zg_iload_n 1 rfl d_X7_step_1 ?_
  refine zg_cVi (b := a0) (As := [.int a1]) (rest := []) (0, 0) d_X7_step_2 zc_7 rfl cw_X7_146 wi_X7_isChild ws_X7_isChild rfl rfl (Nat.le_of_ble_eq_true rfl) (by decide) (by decide) ⟨by decide, by decide⟩ rfl (t_X7_isChild a0 a1 h0) (fun v2 h1 => ?_)
  refine zg_if_eq d_X7_step_5 ?_ ?_
  · refine zg_iconst (-1) rfl d_X7_step_30 ?_
    exact zg_iretK d_X7_step_31 rfl ⟨Nat.le_of_ble_eq_true rfl, Nat.le_of_ble_eq_true rfl⟩ (fun q => q)
  · refine zg_aload_n 0 rfl d_X7_step_8 ?_
    refine zg_iload_n 2 rfl d_X7_step_9 ?_
    refine zg_cVi (b := a0) (As := [.int a2]) (rest := []) (0, 0) d_X7_step_10 zc_7 rfl cw_X7_168 wi_X7_isField ws_X7_isField rfl rfl (Nat.le_of_ble_eq_true rfl) (by decide) (by decide) ⟨by decide, by decide⟩ rfl (t_X7_isField a0 a2 h1) (fun v4 h3 => ?_)
    refine zg_if_eq d_X7_step_13 ?_ ?_
    · refine zg_iconst (-1) rfl d_X7_step_30 ?_
      exact zg_iretK d_X7_step_31 rfl ⟨Nat.le_of_ble_eq_true rfl, Nat.le_of_ble_eq_true rfl⟩ (fun q => q)
    · refine zg_iconst 1 rfl d_X7_step_16 ?_
      refine zg_iload_n 3 rfl d_X7_step_17 ?_
      refine zg_iconst 4 rfl d_X7_step_18 ?_
      refine zg_cSi (As := [.int 1, .int a3, .int 4]) (rest := []) (0, 0) d_X7_step_19 cw_X7_194 wt_X7_isFrom rfl rfl (Nat.le_of_ble_eq_true rfl) (by decide) (by decide) ⟨by decide, by decide⟩ rfl (t_X7_isFrom 1 a3 4 h3) (fun v6 h5 => ?_)
      refine zg_if_eq d_X7_step_22 ?_ ?_
      · refine zg_iconst (-1) rfl d_X7_step_30 ?_
        exact zg_iretK d_X7_step_31 rfl ⟨Nat.le_of_ble_eq_true rfl, Nat.le_of_ble_eq_true rfl⟩ (fun q => q)
      · refine zg_iload 4 rfl d_X7_step_25 ?_
        refine zg_if_ge d_X7_step_27 ?_ ?_
        · refine zg_iload 4 rfl d_X7_step_32 ?_
          refine zg_iload_n 3 rfl d_X7_step_34 ?_
          refine zg_icmp_lt d_X7_step_35 ?_ ?_
          · refine zg_aload_n 0 rfl d_X7_step_41 ?_
            refine zg_getR d_X7_step_42 zc_7 (by decide) fl_X7_66 (fun v7 => ?_)
            refine zg_aload_n 0 rfl d_X7_step_45 ?_
            refine zg_getR d_X7_step_46 zc_7 (by decide) fl_X7_38 (fun v8 => ?_)
            refine zg_iload_n 1 rfl d_X7_step_49 ?_
            refine zg_iload_n 2 rfl d_X7_step_50 ?_
            refine zg_iload_n 3 rfl d_X7_step_51 ?_
            refine zg_cVi (b := v7) (As := [.ref v8, .int a1, .int a2, .int a3]) (rest := []) (0, 0) d_X7_step_52 zc_1 rfl cw_X7_281 wi_X1_planOf ws_X1_planOf rfl rfl (Nat.le_of_ble_eq_true rfl) (by decide) (by decide) ⟨by decide, by decide⟩ rfl (t_X1_planOf v7 v8 a1 a2 a3 h5) (fun v10 h9 => ?_)
            refine zg_pop rfl d_X7_step_55 ?_
            refine zg_aload_n 0 rfl d_X7_step_56 ?_
            refine zg_getR d_X7_step_57 zc_7 (by decide) fl_X7_66 (fun v11 => ?_)
            refine zg_iload 4 rfl d_X7_step_60 ?_
            refine zg_cVi (b := v11) (As := [.int a4]) (rest := []) (0, 0) d_X7_step_62 zc_1 rfl cw_X7_285 wi_X1_plannedPush ws_X1_plannedPush rfl rfl (Nat.le_of_ble_eq_true rfl) (by decide) (by decide) ⟨by decide, by decide⟩ rfl (t_X1_plannedPush v11 a4 h9) (fun v13 h12 => ?_)
            exact zg_iretK d_X7_step_65 rfl ⟨Nat.le_of_ble_eq_true rfl, Nat.le_of_ble_eq_true rfl⟩ (fun q => q)
          · refine zg_bipush (-2) rfl d_X7_step_38 ?_
            exact zg_iretK d_X7_step_40 rfl ⟨Nat.le_of_ble_eq_true rfl, Nat.le_of_ble_eq_true rfl⟩ (fun q => q)
        · refine zg_iconst (-1) rfl d_X7_step_30 ?_
          exact zg_iretK d_X7_step_31 rfl ⟨Nat.le_of_ble_eq_true rfl, Nat.le_of_ble_eq_true rfl⟩ (fun q => q)

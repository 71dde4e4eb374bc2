theorem ml_X8_422 : Cond.methodLink RX8 422 yX8_isCloud ∈ zT := zw_of _ 1718 (by decide +kernel) (by decide +kernel)
theorem cd_X8_isCloud : Cond.code yX8_isCloud cX8_isCloud 2 (some .boolean) ∈ zT := zw_of _ 1721 (by decide +kernel) (by decide +kernel)
theorem cw_X8_422 : zCw RX8 422 yX8_isCloud cX8_isCloud 2 (some .boolean) 1 := ⟨ml_X8_422, ni_X8, cd_X8_isCloud, by decide, by decide, by decide +kernel⟩
theorem wi_X8_isCloud : Cond.instanceMethod yX8_isCloud ∈ zT := zw_of _ 1720 (by decide +kernel) (by decide +kernel)
theorem ws_X8_isCloud : Cond.selects RX8 yX8_isCloud yX8_isCloud ∈ zT := zw_of _ 79 (by decide +kernel) (by decide +kernel)
theorem fl_X8_261 : Cond.fieldLink RX8 261 (TX8 32).1 (TX8 32).2.1 (TX8 32).2.2.1 ∈ zT := zw_of _ 1394 (by decide +kernel) (by decide +kernel)
theorem ml_X8_214 : Cond.methodLink RX8 214 yX8_wrong ∈ zT := zw_of _ 1624 (by decide +kernel) (by decide +kernel)
theorem cd_X8_wrong : Cond.code yX8_wrong cX8_wrong 2 none ∈ zT := zw_of _ 1627 (by decide +kernel) (by decide +kernel)
theorem cw_X8_214 : zCw RX8 214 yX8_wrong cX8_wrong 2 none 1 := ⟨ml_X8_214, ni_X8, cd_X8_wrong, by decide, by decide, by decide +kernel⟩
theorem wi_X8_wrong : Cond.instanceMethod yX8_wrong ∈ zT := zw_of _ 1626 (by decide +kernel) (by decide +kernel)
theorem ws_X8_wrong : Cond.selects RX8 yX8_wrong yX8_wrong ∈ zT := zw_of _ 60 (by decide +kernel) (by decide +kernel)
theorem fl_X8_58 : Cond.fieldLink RX8 58 (TX8 18).1 (TX8 18).2.1 (TX8 18).2.2.1 ∈ zT := zw_of _ 1380 (by decide +kernel) (by decide +kernel)
theorem ml_X8_225 : Cond.methodLink RX8 225 yX8_fresher ∈ zT := zw_of _ 1632 (by decide +kernel) (by decide +kernel)
theorem cd_X8_fresher : Cond.code yX8_fresher cX8_fresher 2 (some .int) ∈ zT := zw_of _ 1635 (by decide +kernel) (by decide +kernel)
theorem cw_X8_225 : zCw RX8 225 yX8_fresher cX8_fresher 2 (some .int) 1 := ⟨ml_X8_225, ni_X8, cd_X8_fresher, by decide, by decide, by decide +kernel⟩
theorem wi_X8_fresher : Cond.instanceMethod yX8_fresher ∈ zT := zw_of _ 1634 (by decide +kernel) (by decide +kernel)
theorem ws_X8_fresher : Cond.selects RX8 yX8_fresher yX8_fresher ∈ zT := zw_of _ 62 (by decide +kernel) (by decide +kernel)
theorem fl_X8_61 : Cond.fieldLink RX8 61 (TX8 19).1 (TX8 19).2.1 (TX8 19).2.2.1 ∈ zT := zw_of _ 1381 (by decide +kernel) (by decide +kernel)
theorem ml_X8_245 : Cond.methodLink RX8 245 yX8_reads ∈ zT := zw_of _ 1579 (by decide +kernel) (by decide +kernel)
theorem cd_X8_reads : Cond.code yX8_reads cX8_reads 3 none ∈ zT := zw_of _ 1582 (by decide +kernel) (by decide +kernel)
theorem cw_X8_245 : zCw RX8 245 yX8_reads cX8_reads 3 none 2 := ⟨ml_X8_245, ni_X8, cd_X8_reads, by decide, by decide, by decide +kernel⟩
theorem wi_X8_reads : Cond.instanceMethod yX8_reads ∈ zT := zw_of _ 1581 (by decide +kernel) (by decide +kernel)
theorem ws_X8_reads : Cond.selects RX8 yX8_reads yX8_reads ∈ zT := zw_of _ 53 (by decide +kernel) (by decide +kernel)
theorem fl_X8_117 : Cond.fieldLink RX8 117 (TX8 54).1 (TX8 54).2.1 (TX8 54).2.2.1 ∈ zT := zw_of _ 1416 (by decide +kernel) (by decide +kernel)
theorem fl_X8_129 : Cond.fieldLink RX8 129 (TX8 62).1 (TX8 62).2.1 (TX8 62).2.2.1 ∈ zT := zw_of _ 1424 (by decide +kernel) (by decide +kernel)
theorem fl_X8_304 : Cond.fieldLink RX8 304 (TX8 61).1 (TX8 61).2.1 (TX8 61).2.2.1 ∈ zT := zw_of _ 1423 (by decide +kernel) (by decide +kernel)
theorem ml_X8_397 : Cond.methodLink RX8 397 yX8_windIn ∈ zT := zw_of _ 1858 (by decide +kernel) (by decide +kernel)
theorem cd_X8_windIn : Cond.code yX8_windIn cX8_windIn 2 (some .int) ∈ zT := zw_of _ 1861 (by decide +kernel) (by decide +kernel)
theorem cw_X8_397 : zCw RX8 397 yX8_windIn cX8_windIn 2 (some .int) 1 := ⟨ml_X8_397, ni_X8, cd_X8_windIn, by decide, by decide, by decide +kernel⟩
theorem wi_X8_windIn : Cond.instanceMethod yX8_windIn ∈ zT := zw_of _ 1860 (by decide +kernel) (by decide +kernel)
theorem ws_X8_windIn : Cond.selects RX8 yX8_windIn yX8_windIn ∈ zT := zw_of _ 99 (by decide +kernel) (by decide +kernel)
theorem ml_X8_459 : Cond.methodLink RX8 459 yX8_howMany ∈ zT := zw_of _ 1901 (by decide +kernel) (by decide +kernel)
theorem cd_X8_howMany : Cond.code yX8_howMany cX8_howMany 5 (some .int) ∈ zT := zw_of _ 1904 (by decide +kernel) (by decide +kernel)
theorem cw_X8_459 : zCw RX8 459 yX8_howMany cX8_howMany 5 (some .int) 2 := ⟨ml_X8_459, ni_X8, cd_X8_howMany, by decide, by decide, by decide +kernel⟩
theorem wi_X8_howMany : Cond.instanceMethod yX8_howMany ∈ zT := zw_of _ 1903 (by decide +kernel) (by decide +kernel)
theorem ws_X8_howMany : Cond.selects RX8 yX8_howMany yX8_howMany ∈ zT := zw_of _ 108 (by decide +kernel) (by decide +kernel)
theorem ml_X8_453 : Cond.methodLink RX8 453 yX8_rainAll ∈ zT := zw_of _ 1893 (by decide +kernel) (by decide +kernel)
theorem cd_X8_rainAll : Cond.code yX8_rainAll cX8_rainAll 4 (some .int) ∈ zT := zw_of _ 1896 (by decide +kernel) (by decide +kernel)
theorem cw_X8_453 : zCw RX8 453 yX8_rainAll cX8_rainAll 4 (some .int) 1 := ⟨ml_X8_453, ni_X8, cd_X8_rainAll, by decide, by decide, by decide +kernel⟩
theorem wi_X8_rainAll : Cond.instanceMethod yX8_rainAll ∈ zT := zw_of _ 1895 (by decide +kernel) (by decide +kernel)
theorem ws_X8_rainAll : Cond.selects RX8 yX8_rainAll yX8_rainAll ∈ zT := zw_of _ 106 (by decide +kernel) (by decide +kernel)
theorem ml_X8_456 : Cond.methodLink RX8 456 yX8_marksAll ∈ zT := zw_of _ 1897 (by decide +kernel) (by decide +kernel)
theorem cd_X8_marksAll : Cond.code yX8_marksAll cX8_marksAll 4 (some .int) ∈ zT := zw_of _ 1900 (by decide +kernel) (by decide +kernel)
theorem cw_X8_456 : zCw RX8 456 yX8_marksAll cX8_marksAll 4 (some .int) 1 := ⟨ml_X8_456, ni_X8, cd_X8_marksAll, by decide, by decide, by decide +kernel⟩
theorem wi_X8_marksAll : Cond.instanceMethod yX8_marksAll ∈ zT := zw_of _ 1899 (by decide +kernel) (by decide +kernel)
theorem ws_X8_marksAll : Cond.selects RX8 yX8_marksAll yX8_marksAll ∈ zT := zw_of _ 107 (by decide +kernel) (by decide +kernel)
theorem ml_X8_507 : Cond.methodLink RX8 507 yX8_knownMany ∈ zT := zw_of _ 2015 (by decide +kernel) (by decide +kernel)
theorem cd_X8_knownMany : Cond.code yX8_knownMany cX8_knownMany 1 (some .int) ∈ zT := zw_of _ 2018 (by decide +kernel) (by decide +kernel)
theorem cw_X8_507 : zCw RX8 507 yX8_knownMany cX8_knownMany 1 (some .int) 0 := ⟨ml_X8_507, ni_X8, cd_X8_knownMany, by decide, by decide, by decide +kernel⟩
theorem wi_X8_knownMany : Cond.instanceMethod yX8_knownMany ∈ zT := zw_of _ 2017 (by decide +kernel) (by decide +kernel)
theorem ws_X8_knownMany : Cond.selects RX8 yX8_knownMany yX8_knownMany ∈ zT := zw_of _ 119 (by decide +kernel) (by decide +kernel)
theorem fl_X8_297 : Cond.fieldLink RX8 297 (TX8 29).1 (TX8 29).2.1 (TX8 29).2.2.1 ∈ zT := zw_of _ 1391 (by decide +kernel) (by decide +kernel)
theorem fl_X8_64 : Cond.fieldLink RX8 64 (TX8 30).1 (TX8 30).2.1 (TX8 30).2.2.1 ∈ zT := zw_of _ 1392 (by decide +kernel) (by decide +kernel)
theorem fl_X8_154 : Cond.fieldLink RX8 154 (TX8 2).1 (TX8 2).2.1 (TX8 2).2.2.1 ∈ zT := zw_of _ 1364 (by decide +kernel) (by decide +kernel)
theorem ml_X8_431 : Cond.methodLink RX8 431 yX8_isField ∈ zT := zw_of _ 1746 (by decide +kernel) (by decide +kernel)
theorem cd_X8_isField : Cond.code yX8_isField cX8_isField 2 (some .boolean) ∈ zT := zw_of _ 1749 (by decide +kernel) (by decide +kernel)
theorem cw_X8_431 : zCw RX8 431 yX8_isField cX8_isField 2 (some .boolean) 1 := ⟨ml_X8_431, ni_X8, cd_X8_isField, by decide, by decide, by decide +kernel⟩
theorem wi_X8_isField : Cond.instanceMethod yX8_isField ∈ zT := zw_of _ 1748 (by decide +kernel) (by decide +kernel)
theorem ws_X8_isField : Cond.selects RX8 yX8_isField yX8_isField ∈ zT := zw_of _ 84 (by decide +kernel) (by decide +kernel)
theorem fl_X8_22 : Cond.fieldLink RX8 22 (TX8 6).1 (TX8 6).2.1 (TX8 6).2.2.1 ∈ zT := zw_of _ 1368 (by decide +kernel) (by decide +kernel)
theorem fl_X8_25 : Cond.fieldLink RX8 25 (TX8 7).1 (TX8 7).2.1 (TX8 7).2.2.1 ∈ zT := zw_of _ 1369 (by decide +kernel) (by decide +kernel)
theorem fl_X8_145 : Cond.fieldLink RX8 145 (TX8 67).1 (TX8 67).2.1 (TX8 67).2.2.1 ∈ zT := zw_of _ 1429 (by decide +kernel) (by decide +kernel)
theorem fl_X8_142 : Cond.fieldLink RX8 142 (TX8 66).1 (TX8 66).2.1 (TX8 66).2.2.1 ∈ zT := zw_of _ 1428 (by decide +kernel) (by decide +kernel)
theorem fl_X8_132 : Cond.fieldLink RX8 132 (TX8 63).1 (TX8 63).2.1 (TX8 63).2.2.1 ∈ zT := zw_of _ 1425 (by decide +kernel) (by decide +kernel)
theorem fl_X8_135 : Cond.fieldLink RX8 135 (TX8 64).1 (TX8 64).2.1 (TX8 64).2.2.1 ∈ zT := zw_of _ 1426 (by decide +kernel) (by decide +kernel)
theorem ml_X8_434 : Cond.methodLink RX8 434 yX8_upIn ∈ zT := zw_of _ 1774 (by decide +kernel) (by decide +kernel)
theorem cd_X8_upIn : Cond.code yX8_upIn cX8_upIn 5 (some .int) ∈ zT := zw_of _ 1777 (by decide +kernel) (by decide +kernel)
theorem cw_X8_434 : zCw RX8 434 yX8_upIn cX8_upIn 5 (some .int) 2 := ⟨ml_X8_434, ni_X8, cd_X8_upIn, by decide, by decide, by decide +kernel⟩
theorem wi_X8_upIn : Cond.instanceMethod yX8_upIn ∈ zT := zw_of _ 1776 (by decide +kernel) (by decide +kernel)
theorem ws_X8_upIn : Cond.selects RX8 yX8_upIn yX8_upIn ∈ zT := zw_of _ 86 (by decide +kernel) (by decide +kernel)
theorem fl_X8_138 : Cond.fieldLink RX8 138 (TX8 65).1 (TX8 65).2.1 (TX8 65).2.2.1 ∈ zT := zw_of _ 1427 (by decide +kernel) (by decide +kernel)
abbrev M_X8_isCloud : zMt := (RX8, cX8_isCloud, 2, 1, 60, (some .boolean), "isCloud", 0, 0)
theorem d_X8_isCloud_0 : zDc M_X8_isCloud 0 (.iload_n 1) 1 1 := ⟨by decide +kernel, rfl⟩
theorem d_X8_isCloud_1 : zDj M_X8_isCloud 1 (.ifCond .lt 17) 17 4 18 := ⟨by decide +kernel, rfl, by decide⟩
theorem d_X8_isCloud_4 : zDc M_X8_isCloud 4 (.iload_n 1) 1 5 := ⟨by decide +kernel, rfl⟩
theorem d_X8_isCloud_5 : zDc M_X8_isCloud 5 (.aload_n 0) 1 6 := ⟨by decide +kernel, rfl⟩
theorem d_X8_isCloud_6 : zDc M_X8_isCloud 6 (.getfield 13) 3 9 := ⟨by decide +kernel, rfl⟩
theorem d_X8_isCloud_9 : zDc M_X8_isCloud 9 (.iconst 1) 1 10 := ⟨by decide +kernel, rfl⟩
theorem d_X8_isCloud_10 : zDc M_X8_isCloud 10 (.iaload) 1 11 := ⟨by decide +kernel, rfl⟩
theorem d_X8_isCloud_11 : zDj M_X8_isCloud 11 (.if_icmp .ge 7) 7 14 18 := ⟨by decide +kernel, rfl, by decide⟩
theorem d_X8_isCloud_14 : zDc M_X8_isCloud 14 (.iconst 1) 1 15 := ⟨by decide +kernel, rfl⟩
theorem d_X8_isCloud_15 : zDj M_X8_isCloud 15 (.goto 4) 4 18 19 := ⟨by decide +kernel, rfl, by decide⟩
theorem d_X8_isCloud_18 : zDc M_X8_isCloud 18 (.iconst 0) 1 19 := ⟨by decide +kernel, rfl⟩
theorem d_X8_isCloud_19 : zDc M_X8_isCloud 19 (.ireturn) 1 20 := ⟨by decide +kernel, rfl⟩
def f_X8_isCloud (a0 : Nat) (a1 : Int32) (h0 : zHp) : Option (Int32 × zHp) :=
  if a1 < 0 then
  some (0, h0)
  else
  zob (zgR h0 a0 8 3) (fun v1 =>
  zob (zaI 0 h0 v1 1) (fun v2 =>
  if v2 ≤ a1 then
  some (0, h0)
  else
  some (1, h0)))
set_option maxRecDepth 100000 in
set_option maxHeartbeats 4000000 in
theorem t_X8_isCloud (a0 : Nat) (a1 : Int32) (h0 : zHp) : ∀ (r : Int32) (h' : zHp), f_X8_isCloud a0 a1 h0 = some (r, h') → zCt yX8_isCloud (.code yX8_isCloud cX8_isCloud 2 (some .boolean)) 1 60 0 0 [.ref a0, .int a1] h0 (some (.int r)) h' := by
  refine zct_of M_X8_isCloud yX8_isCloud (by decide) rfl rfl [.ref a0, .int a1] h0 (Nat.le_of_ble_eq_true rfl) (fun r => some (.int r)) (fun X => ?_)
  show zG X M_X8_isCloud (0, 0) 0 [(0, .ref a0), (1, .int a1)] [] h0 (f_X8_isCloud a0 a1 h0) (fun (r : Int32) h' => zKe X (some (.int r)) h')
  unfold f_X8_isCloud
  refine zg_iload_n 1 rfl d_X8_isCloud_0 ?_
  refine zg_if_lt d_X8_isCloud_1 ?_ ?_
  · refine zg_iconst 0 rfl d_X8_isCloud_18 ?_
    exact zg_zretK d_X8_isCloud_19 rfl ⟨Nat.le_of_ble_eq_true rfl, Nat.le_of_ble_eq_true rfl⟩ (Or.inl rfl) (fun q => q)
  · refine zg_iload_n 1 rfl d_X8_isCloud_4 ?_
    refine zg_aload_n 0 rfl d_X8_isCloud_5 ?_
    refine zg_getR d_X8_isCloud_6 zc_8 (by decide) fl_X8_13 (fun v1 => ?_)
    refine zg_iconst 1 rfl d_X8_isCloud_9 ?_
    refine zg_ald0 d_X8_isCloud_10 (fun v2 => ?_)
    refine zg_icmp_ge d_X8_isCloud_11 ?_ ?_
    · refine zg_iconst 0 rfl d_X8_isCloud_18 ?_
      exact zg_zretK d_X8_isCloud_19 rfl ⟨Nat.le_of_ble_eq_true rfl, Nat.le_of_ble_eq_true rfl⟩ (Or.inl rfl) (fun q => q)
    · refine zg_iconst 1 rfl d_X8_isCloud_14 ?_
      refine zg_goto d_X8_isCloud_15 ?_
      exact zg_zretK d_X8_isCloud_19 rfl ⟨Nat.le_of_ble_eq_true rfl, Nat.le_of_ble_eq_true rfl⟩ (Or.inr rfl) (fun q => q)
abbrev M_X8_cloud : zMt := (RX8, cX8_cloud, 3, 2, 81, (some .int), "cloud", 0, 0)
theorem d_X8_cloud_0 : zDc M_X8_cloud 0 (.aload_n 0) 1 1 := ⟨by decide +kernel, rfl⟩
theorem d_X8_cloud_1 : zDc M_X8_cloud 1 (.aload_n 0) 1 2 := ⟨by decide +kernel, rfl⟩
theorem d_X8_cloud_2 : zDc M_X8_cloud 2 (.iload_n 1) 1 3 := ⟨by decide +kernel, rfl⟩
theorem d_X8_cloud_3 : zDc M_X8_cloud 3 (.invokevirtual 422) 3 6 := ⟨by decide +kernel, rfl⟩
theorem d_X8_cloud_6 : zDj M_X8_cloud 6 (.ifCond .ne 7) 7 9 13 := ⟨by decide +kernel, rfl, by decide⟩
theorem d_X8_cloud_9 : zDc M_X8_cloud 9 (.iconst 1) 1 10 := ⟨by decide +kernel, rfl⟩
theorem d_X8_cloud_10 : zDj M_X8_cloud 10 (.goto 17) 17 13 27 := ⟨by decide +kernel, rfl, by decide⟩
theorem d_X8_cloud_13 : zDc M_X8_cloud 13 (.iload_n 2) 1 14 := ⟨by decide +kernel, rfl⟩
theorem d_X8_cloud_14 : zDj M_X8_cloud 14 (.ifCond .lt 8) 8 17 22 := ⟨by decide +kernel, rfl, by decide⟩
theorem d_X8_cloud_17 : zDc M_X8_cloud 17 (.iload_n 2) 1 18 := ⟨by decide +kernel, rfl⟩
theorem d_X8_cloud_18 : zDc M_X8_cloud 18 (.iconst 5) 1 19 := ⟨by decide +kernel, rfl⟩
theorem d_X8_cloud_19 : zDj M_X8_cloud 19 (.if_icmp .le 7) 7 22 26 := ⟨by decide +kernel, rfl, by decide⟩
theorem d_X8_cloud_22 : zDc M_X8_cloud 22 (.iconst 2) 1 23 := ⟨by decide +kernel, rfl⟩
theorem d_X8_cloud_23 : zDj M_X8_cloud 23 (.goto 4) 4 26 27 := ⟨by decide +kernel, rfl, by decide⟩
theorem d_X8_cloud_26 : zDc M_X8_cloud 26 (.iconst 0) 1 27 := ⟨by decide +kernel, rfl⟩
theorem d_X8_cloud_27 : zDc M_X8_cloud 27 (.putfield 151) 3 30 := ⟨by decide +kernel, rfl⟩
theorem d_X8_cloud_30 : zDc M_X8_cloud 30 (.aload_n 0) 1 31 := ⟨by decide +kernel, rfl⟩
theorem d_X8_cloud_31 : zDc M_X8_cloud 31 (.getfield 151) 3 34 := ⟨by decide +kernel, rfl⟩
theorem d_X8_cloud_34 : zDj M_X8_cloud 34 (.ifCond .eq 5) 5 37 39 := ⟨by decide +kernel, rfl, by decide⟩
theorem d_X8_cloud_37 : zDc M_X8_cloud 37 (.iconst 0) 1 38 := ⟨by decide +kernel, rfl⟩
theorem d_X8_cloud_38 : zDc M_X8_cloud 38 (.ireturn) 1 39 := ⟨by decide +kernel, rfl⟩
theorem d_X8_cloud_39 : zDc M_X8_cloud 39 (.iload_n 2) 1 40 := ⟨by decide +kernel, rfl⟩
theorem d_X8_cloud_40 : decode M_X8_cloud.2.1 40 = .ok (.tableswitch 77 0 4 #[36, 46, 56, 63, 70], 36) := by decide +kernel
theorem d_X8_cloud_76 : zDc M_X8_cloud 76 (.aload_n 0) 1 77 := ⟨by decide +kernel, rfl⟩
theorem d_X8_cloud_77 : zDc M_X8_cloud 77 (.getfield 81) 3 80 := ⟨by decide +kernel, rfl⟩
theorem d_X8_cloud_80 : zDc M_X8_cloud 80 (.iload_n 1) 1 81 := ⟨by decide +kernel, rfl⟩
theorem d_X8_cloud_81 : zDc M_X8_cloud 81 (.iaload) 1 82 := ⟨by decide +kernel, rfl⟩
theorem d_X8_cloud_82 : zDc M_X8_cloud 82 (.bipush 6) 2 84 := ⟨by decide +kernel, rfl⟩
theorem d_X8_cloud_84 : zDc M_X8_cloud 84 (.irem) 1 85 := ⟨by decide +kernel, rfl⟩
theorem d_X8_cloud_85 : zDc M_X8_cloud 85 (.ireturn) 1 86 := ⟨by decide +kernel, rfl⟩
theorem d_X8_cloud_86 : zDc M_X8_cloud 86 (.aload_n 0) 1 87 := ⟨by decide +kernel, rfl⟩
theorem d_X8_cloud_87 : zDc M_X8_cloud 87 (.getfield 81) 3 90 := ⟨by decide +kernel, rfl⟩
theorem d_X8_cloud_90 : zDc M_X8_cloud 90 (.iload_n 1) 1 91 := ⟨by decide +kernel, rfl⟩
theorem d_X8_cloud_91 : zDc M_X8_cloud 91 (.iaload) 1 92 := ⟨by decide +kernel, rfl⟩
theorem d_X8_cloud_92 : zDc M_X8_cloud 92 (.bipush 6) 2 94 := ⟨by decide +kernel, rfl⟩
theorem d_X8_cloud_94 : zDc M_X8_cloud 94 (.idiv) 1 95 := ⟨by decide +kernel, rfl⟩
theorem d_X8_cloud_95 : zDc M_X8_cloud 95 (.ireturn) 1 96 := ⟨by decide +kernel, rfl⟩
theorem d_X8_cloud_96 : zDc M_X8_cloud 96 (.aload_n 0) 1 97 := ⟨by decide +kernel, rfl⟩
theorem d_X8_cloud_97 : zDc M_X8_cloud 97 (.getfield 84) 3 100 := ⟨by decide +kernel, rfl⟩
theorem d_X8_cloud_100 : zDc M_X8_cloud 100 (.iload_n 1) 1 101 := ⟨by decide +kernel, rfl⟩
theorem d_X8_cloud_101 : zDc M_X8_cloud 101 (.iaload) 1 102 := ⟨by decide +kernel, rfl⟩
theorem d_X8_cloud_102 : zDc M_X8_cloud 102 (.ireturn) 1 103 := ⟨by decide +kernel, rfl⟩
theorem d_X8_cloud_103 : zDc M_X8_cloud 103 (.aload_n 0) 1 104 := ⟨by decide +kernel, rfl⟩
theorem d_X8_cloud_104 : zDc M_X8_cloud 104 (.getfield 87) 3 107 := ⟨by decide +kernel, rfl⟩
theorem d_X8_cloud_107 : zDc M_X8_cloud 107 (.iload_n 1) 1 108 := ⟨by decide +kernel, rfl⟩
theorem d_X8_cloud_108 : zDc M_X8_cloud 108 (.iaload) 1 109 := ⟨by decide +kernel, rfl⟩
theorem d_X8_cloud_109 : zDc M_X8_cloud 109 (.ireturn) 1 110 := ⟨by decide +kernel, rfl⟩
theorem d_X8_cloud_110 : zDc M_X8_cloud 110 (.aload_n 0) 1 111 := ⟨by decide +kernel, rfl⟩
theorem d_X8_cloud_111 : zDc M_X8_cloud 111 (.getfield 90) 3 114 := ⟨by decide +kernel, rfl⟩
theorem d_X8_cloud_114 : zDc M_X8_cloud 114 (.iload_n 1) 1 115 := ⟨by decide +kernel, rfl⟩
theorem d_X8_cloud_115 : zDc M_X8_cloud 115 (.iaload) 1 116 := ⟨by decide +kernel, rfl⟩
theorem d_X8_cloud_116 : zDc M_X8_cloud 116 (.ireturn) 1 117 := ⟨by decide +kernel, rfl⟩
theorem d_X8_cloud_117 : zDc M_X8_cloud 117 (.aload_n 0) 1 118 := ⟨by decide +kernel, rfl⟩
theorem d_X8_cloud_118 : zDc M_X8_cloud 118 (.getfield 93) 3 121 := ⟨by decide +kernel, rfl⟩
theorem d_X8_cloud_121 : zDc M_X8_cloud 121 (.iload_n 1) 1 122 := ⟨by decide +kernel, rfl⟩
theorem d_X8_cloud_122 : zDc M_X8_cloud 122 (.iaload) 1 123 := ⟨by decide +kernel, rfl⟩
theorem d_X8_cloud_123 : zDc M_X8_cloud 123 (.ireturn) 1 124 := ⟨by decide +kernel, rfl⟩
def f_X8_cloud (a0 : Nat) (a1 : Int32) (a2 : Int32) (h0 : zHp) : Option (Int32 × zHp) :=
  zbd (zcv 8 a0 h0 (f_X8_isCloud a0 a1 h0)) (fun v2 h1 =>
  zbd (α := Int32) (
  if v2 = 0 then
  some (1, h1)
  else
  if a2 < 0 then
  some (2, h1)
  else
  if a2 ≤ 5 then
  some (0, h1)
  else
  some (2, h1)) (fun e3 h4 =>
  zob (zpV h4 a0 8 0 (.int e3)) (fun h5 =>
  zob (zgI h5 a0 8 0) (fun v6 =>
  if v6 = 0 then
  if a2 = 0 then
  zob (zgR h5 a0 8 38) (fun v7 =>
  zob (zaI 0 h5 v7 a1) (fun v8 =>
  some ((zrm v8 6), h5)))
  else if a2 = 1 then
  zob (zgR h5 a0 8 38) (fun v9 =>
  zob (zaI 0 h5 v9 a1) (fun v10 =>
  some ((v10 / 6), h5)))
  else if a2 = 2 then
  zob (zgR h5 a0 8 39) (fun v11 =>
  zob (zaI 0 h5 v11 a1) (fun v12 =>
  some (v12, h5)))
  else if a2 = 3 then
  zob (zgR h5 a0 8 40) (fun v13 =>
  zob (zaI 0 h5 v13 a1) (fun v14 =>
  some (v14, h5)))
  else if a2 = 4 then
  zob (zgR h5 a0 8 41) (fun v15 =>
  zob (zaI 0 h5 v15 a1) (fun v16 =>
  some (v16, h5)))
  else 
  zob (zgR h5 a0 8 42) (fun v17 =>
  zob (zaI 0 h5 v17 a1) (fun v18 =>
  some (v18, h5)))
  else
  some (0, h5)))))
set_option maxRecDepth 100000 in
set_option maxHeartbeats 4000000 in
theorem t_X8_cloud (a0 : Nat) (a1 : Int32) (a2 : Int32) (h0 : zHp) : ∀ (r : Int32) (h' : zHp), f_X8_cloud a0 a1 a2 h0 = some (r, h') → zCt yX8_cloud (.code yX8_cloud cX8_cloud 3 (some .int)) 2 81 0 0 [.ref a0, .int a1, .int a2] h0 (some (.int r)) h' := by
  refine zct_of M_X8_cloud yX8_cloud (by decide) rfl rfl [.ref a0, .int a1, .int a2] h0 (Nat.le_of_ble_eq_true rfl) (fun r => some (.int r)) (fun X => ?_)
  show zG X M_X8_cloud (0, 0) 0 [(0, .ref a0), (1, .int a1), (2, .int a2)] [] h0 (f_X8_cloud a0 a1 a2 h0) (fun (r : Int32) h' => zKe X (some (.int r)) h')
  unfold f_X8_cloud
  refine zg_aload_n 0 rfl d_X8_cloud_0 ?_
  refine zg_aload_n 0 rfl d_X8_cloud_1 ?_
  refine zg_iload_n 1 rfl d_X8_cloud_2 ?_
  refine zg_cVi (b := a0) (As := [.int a1]) (rest := [.ref a0]) (0, 0) d_X8_cloud_3 zc_8 rfl cw_X8_422 wi_X8_isCloud ws_X8_isCloud rfl rfl (Nat.le_of_ble_eq_true rfl) (by decide) (by decide) ⟨by decide, by decide⟩ rfl (t_X8_isCloud a0 a1 h0) (fun v2 h1 => ?_)
  refine zg_bd (E := 27) (el := (fun (e3 : Int32) => [(0, .ref a0), (1, .int a1), (2, .int a2)])) (es := (fun (e3 : Int32) => [.int e3, .ref a0])) ?_ (fun e3 h4 => ?_)
  · refine zg_if_ne d_X8_cloud_6 ?_ ?_
    · refine zg_iconst 1 rfl d_X8_cloud_9 ?_
      refine zg_goto d_X8_cloud_10 ?_
      exact zg_finK (E := 0) [0, 1, 2] rfl rfl (fun q => q)
    · refine zg_iload_n 2 rfl d_X8_cloud_13 ?_
      refine zg_if_lt d_X8_cloud_14 ?_ ?_
      · refine zg_iconst 2 rfl d_X8_cloud_22 ?_
        refine zg_goto d_X8_cloud_23 ?_
        exact zg_finK (E := 0) [0, 1, 2] rfl rfl (fun q => q)
      · refine zg_iload_n 2 rfl d_X8_cloud_17 ?_
        refine zg_iconst 5 rfl d_X8_cloud_18 ?_
        refine zg_icmp_le d_X8_cloud_19 ?_ ?_
        · refine zg_iconst 0 rfl d_X8_cloud_26 ?_
          exact zg_finK (E := 0) [0, 1, 2] rfl rfl (fun q => q)
        · refine zg_iconst 2 rfl d_X8_cloud_22 ?_
          refine zg_goto d_X8_cloud_23 ?_
          exact zg_finK (E := 0) [0, 1, 2] rfl rfl (fun q => q)
  · refine zg_putV d_X8_cloud_27 zc_8 (by decide) fl_X8_151 rfl rfl rfl (fun h5 => ?_)
    refine zg_aload_n 0 rfl d_X8_cloud_30 ?_
    refine zg_getI d_X8_cloud_31 zc_8 (by decide) fl_X8_151 (fun v6 => ?_)
    refine zg_if_eq d_X8_cloud_34 ?_ ?_
    · refine zg_iload_n 2 rfl d_X8_cloud_39 ?_
      refine zg_if (fun n19 => ?_) (fun n19 => ?_)
      · refine zg_tabE n19 d_X8_cloud_40 (by decide) (by decide) (off := 36) rfl (tgt := 76) (by decide) ?_
        refine zg_aload_n 0 rfl d_X8_cloud_76 ?_
        refine zg_getR d_X8_cloud_77 zc_8 (by decide) fl_X8_81 (fun v7 => ?_)
        refine zg_iload_n 1 rfl d_X8_cloud_80 ?_
        refine zg_ald0 d_X8_cloud_81 (fun v8 => ?_)
        refine zg_bipush 6 rfl d_X8_cloud_82 ?_
        refine zg_irem (by decide) d_X8_cloud_84 ?_
        exact zg_iretK d_X8_cloud_85 rfl ⟨Nat.le_of_ble_eq_true rfl, Nat.le_of_ble_eq_true rfl⟩ (fun q => q)
      refine zg_if (fun n20 => ?_) (fun n20 => ?_)
      · refine zg_tabE n20 d_X8_cloud_40 (by decide) (by decide) (off := 46) rfl (tgt := 86) (by decide) ?_
        refine zg_aload_n 0 rfl d_X8_cloud_86 ?_
        refine zg_getR d_X8_cloud_87 zc_8 (by decide) fl_X8_81 (fun v9 => ?_)
        refine zg_iload_n 1 rfl d_X8_cloud_90 ?_
        refine zg_ald0 d_X8_cloud_91 (fun v10 => ?_)
        refine zg_bipush 6 rfl d_X8_cloud_92 ?_
        refine zg_idiv (by decide) d_X8_cloud_94 ?_
        exact zg_iretK d_X8_cloud_95 rfl ⟨Nat.le_of_ble_eq_true rfl, Nat.le_of_ble_eq_true rfl⟩ (fun q => q)
      refine zg_if (fun n21 => ?_) (fun n21 => ?_)
      · refine zg_tabE n21 d_X8_cloud_40 (by decide) (by decide) (off := 56) rfl (tgt := 96) (by decide) ?_
        refine zg_aload_n 0 rfl d_X8_cloud_96 ?_
        refine zg_getR d_X8_cloud_97 zc_8 (by decide) fl_X8_84 (fun v11 => ?_)
        refine zg_iload_n 1 rfl d_X8_cloud_100 ?_
        refine zg_ald0 d_X8_cloud_101 (fun v12 => ?_)
        exact zg_iretK d_X8_cloud_102 rfl ⟨Nat.le_of_ble_eq_true rfl, Nat.le_of_ble_eq_true rfl⟩ (fun q => q)
      refine zg_if (fun n22 => ?_) (fun n22 => ?_)
      · refine zg_tabE n22 d_X8_cloud_40 (by decide) (by decide) (off := 63) rfl (tgt := 103) (by decide) ?_
        refine zg_aload_n 0 rfl d_X8_cloud_103 ?_
        refine zg_getR d_X8_cloud_104 zc_8 (by decide) fl_X8_87 (fun v13 => ?_)
        refine zg_iload_n 1 rfl d_X8_cloud_107 ?_
        refine zg_ald0 d_X8_cloud_108 (fun v14 => ?_)
        exact zg_iretK d_X8_cloud_109 rfl ⟨Nat.le_of_ble_eq_true rfl, Nat.le_of_ble_eq_true rfl⟩ (fun q => q)
      refine zg_if (fun n23 => ?_) (fun n23 => ?_)
      · refine zg_tabE n23 d_X8_cloud_40 (by decide) (by decide) (off := 70) rfl (tgt := 110) (by decide) ?_
        refine zg_aload_n 0 rfl d_X8_cloud_110 ?_
        refine zg_getR d_X8_cloud_111 zc_8 (by decide) fl_X8_90 (fun v15 => ?_)
        refine zg_iload_n 1 rfl d_X8_cloud_114 ?_
        refine zg_ald0 d_X8_cloud_115 (fun v16 => ?_)
        exact zg_iretK d_X8_cloud_116 rfl ⟨Nat.le_of_ble_eq_true rfl, Nat.le_of_ble_eq_true rfl⟩ (fun q => q)
      refine zg_tabO d_X8_cloud_40 (by have q0 := lv_neT n19 (a := 0) rfl; have q1 := lv_neT n20 (a := 1) rfl; have q2 := lv_neT n21 (a := 2) rfl; have q3 := lv_neT n22 (a := 3) rfl; have q4 := lv_neT n23 (a := 4) rfl; omega) (tgt := 117) (by decide) ?_
      refine zg_aload_n 0 rfl d_X8_cloud_117 ?_
      refine zg_getR d_X8_cloud_118 zc_8 (by decide) fl_X8_93 (fun v17 => ?_)
      refine zg_iload_n 1 rfl d_X8_cloud_121 ?_
      refine zg_ald0 d_X8_cloud_122 (fun v18 => ?_)
      exact zg_iretK d_X8_cloud_123 rfl ⟨Nat.le_of_ble_eq_true rfl, Nat.le_of_ble_eq_true rfl⟩ (fun q => q)
    · refine zg_iconst 0 rfl d_X8_cloud_37 ?_
      exact zg_iretK d_X8_cloud_38 rfl ⟨Nat.le_of_ble_eq_true rfl, Nat.le_of_ble_eq_true rfl⟩ (fun q => q)
abbrev M_X8_common : zMt := (RX8, cX8_common, 5, 1, 60, (some .int), "common", 0, 0)
theorem d_X8_common_0 : zDc M_X8_common 0 (.iload_n 0) 1 1 := ⟨by decide +kernel, rfl⟩
theorem d_X8_common_1 : zDc M_X8_common 1 (.istore_n 2) 1 2 := ⟨by decide +kernel, rfl⟩
theorem d_X8_common_2 : zDc M_X8_common 2 (.iload_n 1) 1 3 := ⟨by decide +kernel, rfl⟩
theorem d_X8_common_3 : zDc M_X8_common 3 (.istore_n 3) 1 4 := ⟨by decide +kernel, rfl⟩
theorem d_X8_common_4 : zDc M_X8_common 4 (.iload_n 3) 1 5 := ⟨by decide +kernel, rfl⟩
theorem d_X8_common_5 : zDj M_X8_common 5 (.ifCond .eq 16) 16 8 21 := ⟨by decide +kernel, rfl, by decide⟩
theorem d_X8_common_8 : zDc M_X8_common 8 (.iload_n 2) 1 9 := ⟨by decide +kernel, rfl⟩
theorem d_X8_common_9 : zDc M_X8_common 9 (.iload_n 3) 1 10 := ⟨by decide +kernel, rfl⟩
theorem d_X8_common_10 : zDc M_X8_common 10 (.irem) 1 11 := ⟨by decide +kernel, rfl⟩
theorem d_X8_common_11 : zDc M_X8_common 11 (.istore 4) 2 13 := ⟨by decide +kernel, rfl⟩
theorem d_X8_common_13 : zDc M_X8_common 13 (.iload_n 3) 1 14 := ⟨by decide +kernel, rfl⟩
theorem d_X8_common_14 : zDc M_X8_common 14 (.istore_n 2) 1 15 := ⟨by decide +kernel, rfl⟩
theorem d_X8_common_15 : zDc M_X8_common 15 (.iload 4) 2 17 := ⟨by decide +kernel, rfl⟩
theorem d_X8_common_17 : zDc M_X8_common 17 (.istore_n 3) 1 18 := ⟨by decide +kernel, rfl⟩
theorem d_X8_common_18 : zDj M_X8_common 18 (.goto (-14)) (-14) 21 4 := ⟨by decide +kernel, rfl, by decide⟩
theorem d_X8_common_21 : zDc M_X8_common 21 (.iload_n 2) 1 22 := ⟨by decide +kernel, rfl⟩
theorem d_X8_common_22 : zDc M_X8_common 22 (.ireturn) 1 23 := ⟨by decide +kernel, rfl⟩
def f_X8_common (a0 : Int32) (a1 : Int32) (h0 : zHp) : Option (Int32 × zHp) :=
  zbd (
  zlp (σ := (Int32 × Int32)) (β := (Int32 × Int32)) zLF (fun s1 h2 =>
  if s1.2 = 0 then
  some ((.inr (s1.1, s1.2)), h2)
  else
  zob (zrp s1.1 s1.2) (fun v5 =>
  some ((.inl (s1.2, v5)), h2))) (a0, a1) h0) (fun e3 h4 =>
  some (e3.1, h4))
set_option maxRecDepth 100000 in
set_option maxHeartbeats 4000000 in
theorem t_X8_common (a0 : Int32) (a1 : Int32) (h0 : zHp) : ∀ (r : Int32) (h' : zHp), f_X8_common a0 a1 h0 = some (r, h') → zCt yX8_common (.code yX8_common cX8_common 5 (some .int)) 1 60 0 0 [.int a0, .int a1] h0 (some (.int r)) h' := by
  refine zct_of M_X8_common yX8_common (by decide) rfl rfl [.int a0, .int a1] h0 (Nat.le_of_ble_eq_true rfl) (fun r => some (.int r)) (fun X => ?_)
  show zG X M_X8_common (0, 0) 0 [(0, .int a0), (1, .int a1)] [] h0 (f_X8_common a0 a1 h0) (fun (r : Int32) h' => zKe X (some (.int r)) h')
  unfold f_X8_common
  refine zg_iload_n 0 rfl d_X8_common_0 ?_
  refine zg_istore_n [(2, .int a0), (0, .int a0), (1, .int a1)] d_X8_common_1 rfl (by decide) rfl ?_
  refine zg_iload_n 2 rfl d_X8_common_2 ?_
  refine zg_istore_n [(3, .int a1), (2, .int a0), (0, .int a0), (1, .int a1)] d_X8_common_3 rfl (by decide) rfl ?_
  refine zg_bd (E := 21) (el := (fun (e3 : (Int32 × Int32)) => [(0, .int a0), (1, .int a1), (2, .int e3.1), (3, .int e3.2)])) (es := fun _ => []) (zg_sub [2, 3, 1, 0] rfl (zg_lp (el := (fun (s1 : (Int32 × Int32)) => [(0, .int a0), (1, .int a1), (2, .int s1.1), (3, .int s1.2)])) (fun s1 h2 => ?_) (a0, a1) h0)) (fun e3 h4 => ?_)
  · refine zg_iload_n 3 rfl d_X8_common_4 ?_
    refine zg_if_eq d_X8_common_5 ?_ ?_
    · exact zg_finK (E := 0) [0, 1, 2, 3] rfl rfl (fun q => q)
    · refine zg_iload_n 2 rfl d_X8_common_8 ?_
      refine zg_iload_n 3 rfl d_X8_common_9 ?_
      refine zg_iremP d_X8_common_10 (fun v5 => ?_)
      refine zg_istore [(4, .int v5), (0, .int a0), (1, .int a1), (2, .int s1.1), (3, .int s1.2)] d_X8_common_11 (by decide) rfl ?_
      refine zg_iload_n 4 rfl d_X8_common_13 ?_
      refine zg_istore_n [(2, .int s1.2), (4, .int v5), (0, .int a0), (1, .int a1), (3, .int s1.2)] d_X8_common_14 rfl (by decide) rfl ?_
      refine zg_iload 1 rfl d_X8_common_15 ?_
      refine zg_istore_n [(3, .int v5), (2, .int s1.2), (4, .int v5), (0, .int a0), (1, .int a1)] d_X8_common_17 rfl (by decide) rfl ?_
      refine zg_goto d_X8_common_18 ?_
      exact zg_finK (E := 0) [3, 4, 1, 0] rfl rfl (fun q => q)
  · refine zg_iload_n 2 rfl d_X8_common_21 ?_
    exact zg_iretK d_X8_common_22 rfl ⟨Nat.le_of_ble_eq_true rfl, Nat.le_of_ble_eq_true rfl⟩ (fun q => q)
abbrev M_X8_isWord : zMt := (RX8, cX8_isWord, 2, 1, 60, (some .boolean), "isWord", 0, 0)
theorem d_X8_isWord_0 : zDc M_X8_isWord 0 (.aload_n 0) 1 1 := ⟨by decide +kernel, rfl⟩
theorem d_X8_isWord_1 : zDc M_X8_isWord 1 (.getfield 205) 3 4 := ⟨by decide +kernel, rfl⟩
theorem d_X8_isWord_4 : zDj M_X8_isWord 4 (.ifCond .ne 22) 22 7 26 := ⟨by decide +kernel, rfl, by decide⟩
theorem d_X8_isWord_7 : zDc M_X8_isWord 7 (.aload_n 0) 1 8 := ⟨by decide +kernel, rfl⟩
theorem d_X8_isWord_8 : zDc M_X8_isWord 8 (.getfield 170) 3 11 := ⟨by decide +kernel, rfl⟩
theorem d_X8_isWord_11 : zDj M_X8_isWord 11 (.ifCond .ne 15) 15 14 26 := ⟨by decide +kernel, rfl, by decide⟩
theorem d_X8_isWord_14 : zDc M_X8_isWord 14 (.aload_n 0) 1 15 := ⟨by decide +kernel, rfl⟩
theorem d_X8_isWord_15 : zDc M_X8_isWord 15 (.getfield 180) 3 18 := ⟨by decide +kernel, rfl⟩
theorem d_X8_isWord_18 : zDc M_X8_isWord 18 (.iload_n 1) 1 19 := ⟨by decide +kernel, rfl⟩
theorem d_X8_isWord_19 : zDj M_X8_isWord 19 (.if_icmp .ne 7) 7 22 26 := ⟨by decide +kernel, rfl, by decide⟩
theorem d_X8_isWord_22 : zDc M_X8_isWord 22 (.iconst 1) 1 23 := ⟨by decide +kernel, rfl⟩
theorem d_X8_isWord_23 : zDj M_X8_isWord 23 (.goto 4) 4 26 27 := ⟨by decide +kernel, rfl, by decide⟩
theorem d_X8_isWord_26 : zDc M_X8_isWord 26 (.iconst 0) 1 27 := ⟨by decide +kernel, rfl⟩
theorem d_X8_isWord_27 : zDc M_X8_isWord 27 (.ireturn) 1 28 := ⟨by decide +kernel, rfl⟩
def f_X8_isWord (a0 : Nat) (a1 : Int32) (h0 : zHp) : Option (Int32 × zHp) :=
  zob (zgI h0 a0 8 27) (fun v1 =>
  if v1 = 0 then
  zob (zgI h0 a0 8 25) (fun v2 =>
  if v2 = 0 then
  zob (zgI h0 a0 8 26) (fun v3 =>
  if v3 = a1 then
  some (1, h0)
  else
  some (0, h0))
  else
  some (0, h0))
  else
  some (0, h0))
set_option maxRecDepth 100000 in
set_option maxHeartbeats 4000000 in
theorem t_X8_isWord (a0 : Nat) (a1 : Int32) (h0 : zHp) : ∀ (r : Int32) (h' : zHp), f_X8_isWord a0 a1 h0 = some (r, h') → zCt yX8_isWord (.code yX8_isWord cX8_isWord 2 (some .boolean)) 1 60 0 0 [.ref a0, .int a1] h0 (some (.int r)) h' := by
  refine zct_of M_X8_isWord yX8_isWord (by decide) rfl rfl [.ref a0, .int a1] h0 (Nat.le_of_ble_eq_true rfl) (fun r => some (.int r)) (fun X => ?_)
  show zG X M_X8_isWord (0, 0) 0 [(0, .ref a0), (1, .int a1)] [] h0 (f_X8_isWord a0 a1 h0) (fun (r : Int32) h' => zKe X (some (.int r)) h')
  unfold f_X8_isWord
  refine zg_aload_n 0 rfl d_X8_isWord_0 ?_
  refine zg_getI d_X8_isWord_1 zc_8 (by decide) fl_X8_205 (fun v1 => ?_)
  refine zg_if_ne d_X8_isWord_4 ?_ ?_
  · refine zg_aload_n 0 rfl d_X8_isWord_7 ?_
    refine zg_getI d_X8_isWord_8 zc_8 (by decide) fl_X8_170 (fun v2 => ?_)
    refine zg_if_ne d_X8_isWord_11 ?_ ?_
    · refine zg_aload_n 0 rfl d_X8_isWord_14 ?_
      refine zg_getI d_X8_isWord_15 zc_8 (by decide) fl_X8_180 (fun v3 => ?_)
      refine zg_iload_n 1 rfl d_X8_isWord_18 ?_
      refine zg_icmp_ne d_X8_isWord_19 ?_ ?_
      · refine zg_iconst 1 rfl d_X8_isWord_22 ?_
        refine zg_goto d_X8_isWord_23 ?_
        exact zg_zretK d_X8_isWord_27 rfl ⟨Nat.le_of_ble_eq_true rfl, Nat.le_of_ble_eq_true rfl⟩ (Or.inr rfl) (fun q => q)
      · refine zg_iconst 0 rfl d_X8_isWord_26 ?_
        exact zg_zretK d_X8_isWord_27 rfl ⟨Nat.le_of_ble_eq_true rfl, Nat.le_of_ble_eq_true rfl⟩ (Or.inl rfl) (fun q => q)
    · refine zg_iconst 0 rfl d_X8_isWord_26 ?_
      exact zg_zretK d_X8_isWord_27 rfl ⟨Nat.le_of_ble_eq_true rfl, Nat.le_of_ble_eq_true rfl⟩ (Or.inl rfl) (fun q => q)
  · refine zg_iconst 0 rfl d_X8_isWord_26 ?_
    exact zg_zretK d_X8_isWord_27 rfl ⟨Nat.le_of_ble_eq_true rfl, Nat.le_of_ble_eq_true rfl⟩ (Or.inl rfl) (fun q => q)
abbrev M_X8_knot : zMt := (RX8, cX8_knot, 1, 2, 81, none, "knot", 0, 0)
theorem d_X8_knot_0 : zDc M_X8_knot 0 (.aload_n 0) 1 1 := ⟨by decide +kernel, rfl⟩
theorem d_X8_knot_1 : zDc M_X8_knot 1 (.getfield 205) 3 4 := ⟨by decide +kernel, rfl⟩
theorem d_X8_knot_4 : zDj M_X8_knot 4 (.ifCond .eq 4) 4 7 8 := ⟨by decide +kernel, rfl, by decide⟩
theorem d_X8_knot_7 : zDc M_X8_knot 7 (.return_) 1 8 := ⟨by decide +kernel, rfl⟩
theorem d_X8_knot_8 : zDc M_X8_knot 8 (.aload_n 0) 1 9 := ⟨by decide +kernel, rfl⟩
theorem d_X8_knot_9 : zDc M_X8_knot 9 (.getfield 261) 3 12 := ⟨by decide +kernel, rfl⟩
theorem d_X8_knot_12 : zDc M_X8_knot 12 (.bipush 64) 2 14 := ⟨by decide +kernel, rfl⟩
theorem d_X8_knot_14 : zDj M_X8_knot 14 (.if_icmp .ne 11) 11 17 25 := ⟨by decide +kernel, rfl, by decide⟩
theorem d_X8_knot_17 : zDc M_X8_knot 17 (.aload_n 0) 1 18 := ⟨by decide +kernel, rfl⟩
theorem d_X8_knot_18 : zDc M_X8_knot 18 (.iconst 2) 1 19 := ⟨by decide +kernel, rfl⟩
theorem d_X8_knot_19 : zDc M_X8_knot 19 (.invokevirtual 214) 3 22 := ⟨by decide +kernel, rfl⟩
theorem d_X8_knot_22 : zDj M_X8_knot 22 (.goto 13) 13 25 35 := ⟨by decide +kernel, rfl, by decide⟩
theorem d_X8_knot_25 : zDc M_X8_knot 25 (.aload_n 0) 1 26 := ⟨by decide +kernel, rfl⟩
theorem d_X8_knot_26 : zDc M_X8_knot 26 (.dup) 1 27 := ⟨by decide +kernel, rfl⟩
theorem d_X8_knot_27 : zDc M_X8_knot 27 (.getfield 261) 3 30 := ⟨by decide +kernel, rfl⟩
theorem d_X8_knot_30 : zDc M_X8_knot 30 (.iconst 1) 1 31 := ⟨by decide +kernel, rfl⟩
theorem d_X8_knot_31 : zDc M_X8_knot 31 (.iadd) 1 32 := ⟨by decide +kernel, rfl⟩
theorem d_X8_knot_32 : zDc M_X8_knot 32 (.putfield 261) 3 35 := ⟨by decide +kernel, rfl⟩
theorem d_X8_knot_35 : zDc M_X8_knot 35 (.return_) 1 36 := ⟨by decide +kernel, rfl⟩
def f_X8_knot (a0 : Nat) (h0 : zHp) : Option (Unit × zHp) :=
  zob (zgI h0 a0 8 27) (fun v1 =>
  if v1 = 0 then
  zob (zgI h0 a0 8 32) (fun v2 =>
  if v2 = 64 then
  zbd (zcv 8 a0 h0 (f_X8_wrong a0 2 h0)) (fun v4 h3 =>
  some ((), h3))
  else
  zob (zgI h0 a0 8 32) (fun v5 =>
  zob (zpV h0 a0 8 32 (.int (v5 + 1))) (fun h6 =>
  some ((), h6))))
  else
  some ((), h0))
set_option maxRecDepth 100000 in
set_option maxHeartbeats 4000000 in
theorem t_X8_knot (a0 : Nat) (h0 : zHp) : ∀ (r : Unit) (h' : zHp), f_X8_knot a0 h0 = some (r, h') → zCt yX8_knot (.code yX8_knot cX8_knot 1 none) 2 81 0 0 [.ref a0] h0 (none) h' := by
  refine zct_of M_X8_knot yX8_knot (by decide) rfl rfl [.ref a0] h0 (Nat.le_of_ble_eq_true rfl) (fun _ => none) (fun X => ?_)
  show zG X M_X8_knot (0, 0) 0 [(0, .ref a0)] [] h0 (f_X8_knot a0 h0) (fun (_ : Unit) h' => zKe X (none) h')
  unfold f_X8_knot
  refine zg_aload_n 0 rfl d_X8_knot_0 ?_
  refine zg_getI d_X8_knot_1 zc_8 (by decide) fl_X8_205 (fun v1 => ?_)
  refine zg_if_eq d_X8_knot_4 ?_ ?_
  · refine zg_aload_n 0 rfl d_X8_knot_8 ?_
    refine zg_getI d_X8_knot_9 zc_8 (by decide) fl_X8_261 (fun v2 => ?_)
    refine zg_bipush 64 rfl d_X8_knot_12 ?_
    refine zg_icmp_ne d_X8_knot_14 ?_ ?_
    · refine zg_aload_n 0 rfl d_X8_knot_17 ?_
      refine zg_iconst 2 rfl d_X8_knot_18 ?_
      refine zg_cVv (b := a0) (As := [.int 2]) (rest := []) (0, 0) d_X8_knot_19 zc_8 rfl cw_X8_214 wi_X8_wrong ws_X8_wrong rfl rfl (Nat.le_of_ble_eq_true rfl) (by decide) (by decide) ⟨by decide, by decide⟩ rfl (t_X8_wrong a0 2 h0) (fun v4 h3 => ?_)
      refine zg_goto d_X8_knot_22 ?_
      exact zg_vretK d_X8_knot_35 rfl ⟨Nat.le_of_ble_eq_true rfl, Nat.le_of_ble_eq_true rfl⟩ (fun q => q)
    · refine zg_aload_n 0 rfl d_X8_knot_25 ?_
      refine zg_dup rfl d_X8_knot_26 ?_
      refine zg_getI d_X8_knot_27 zc_8 (by decide) fl_X8_261 (fun v5 => ?_)
      refine zg_iconst 1 rfl d_X8_knot_30 ?_
      refine zg_iadd d_X8_knot_31 ?_
      refine zg_putV d_X8_knot_32 zc_8 (by decide) fl_X8_261 rfl rfl rfl (fun h6 => ?_)
      exact zg_vretK d_X8_knot_35 rfl ⟨Nat.le_of_ble_eq_true rfl, Nat.le_of_ble_eq_true rfl⟩ (fun q => q)
  · exact zg_vretK d_X8_knot_7 rfl ⟨Nat.le_of_ble_eq_true rfl, Nat.le_of_ble_eq_true rfl⟩ (fun q => q)
abbrev M_X8_fresher : zMt := (RX8, cX8_fresher, 2, 1, 60, (some .int), "fresher", 0, 0)
theorem d_X8_fresher_0 : zDc M_X8_fresher 0 (.aload_n 0) 1 1 := ⟨by decide +kernel, rfl⟩
theorem d_X8_fresher_1 : zDc M_X8_fresher 1 (.getfield 13) 3 4 := ⟨by decide +kernel, rfl⟩
theorem d_X8_fresher_4 : zDc M_X8_fresher 4 (.bipush 8) 2 6 := ⟨by decide +kernel, rfl⟩
theorem d_X8_fresher_6 : zDc M_X8_fresher 6 (.iload_n 1) 1 7 := ⟨by decide +kernel, rfl⟩
theorem d_X8_fresher_7 : zDc M_X8_fresher 7 (.iadd) 1 8 := ⟨by decide +kernel, rfl⟩
theorem d_X8_fresher_8 : zDc M_X8_fresher 8 (.iaload) 1 9 := ⟨by decide +kernel, rfl⟩
theorem d_X8_fresher_9 : zDc M_X8_fresher 9 (.ireturn) 1 10 := ⟨by decide +kernel, rfl⟩
def f_X8_fresher (a0 : Nat) (a1 : Int32) (h0 : zHp) : Option (Int32 × zHp) :=
  zob (zgR h0 a0 8 3) (fun v1 =>
  zob (zaI 0 h0 v1 (8 + a1)) (fun v2 =>
  some (v2, h0)))
set_option maxRecDepth 100000 in
set_option maxHeartbeats 4000000 in
theorem t_X8_fresher (a0 : Nat) (a1 : Int32) (h0 : zHp) : ∀ (r : Int32) (h' : zHp), f_X8_fresher a0 a1 h0 = some (r, h') → zCt yX8_fresher (.code yX8_fresher cX8_fresher 2 (some .int)) 1 60 0 0 [.ref a0, .int a1] h0 (some (.int r)) h' := by
  refine zct_of M_X8_fresher yX8_fresher (by decide) rfl rfl [.ref a0, .int a1] h0 (Nat.le_of_ble_eq_true rfl) (fun r => some (.int r)) (fun X => ?_)
  show zG X M_X8_fresher (0, 0) 0 [(0, .ref a0), (1, .int a1)] [] h0 (f_X8_fresher a0 a1 h0) (fun (r : Int32) h' => zKe X (some (.int r)) h')
  unfold f_X8_fresher
  refine zg_aload_n 0 rfl d_X8_fresher_0 ?_
  refine zg_getR d_X8_fresher_1 zc_8 (by decide) fl_X8_13 (fun v1 => ?_)
  refine zg_bipush 8 rfl d_X8_fresher_4 ?_
  refine zg_iload_n 1 rfl d_X8_fresher_6 ?_
  refine zg_iadd d_X8_fresher_7 ?_
  refine zg_ald0 d_X8_fresher_8 (fun v2 => ?_)
  exact zg_iretK d_X8_fresher_9 rfl ⟨Nat.le_of_ble_eq_true rfl, Nat.le_of_ble_eq_true rfl⟩ (fun q => q)
abbrev M_X8_reads : zMt := (RX8, cX8_reads, 3, 1, 60, none, "reads", 0, 0)
theorem d_X8_reads_0 : zDc M_X8_reads 0 (.aload_n 0) 1 1 := ⟨by decide +kernel, rfl⟩
theorem d_X8_reads_1 : zDc M_X8_reads 1 (.getfield 13) 3 4 := ⟨by decide +kernel, rfl⟩
theorem d_X8_reads_4 : zDc M_X8_reads 4 (.bipush 8) 2 6 := ⟨by decide +kernel, rfl⟩
theorem d_X8_reads_6 : zDc M_X8_reads 6 (.iload_n 1) 1 7 := ⟨by decide +kernel, rfl⟩
theorem d_X8_reads_7 : zDc M_X8_reads 7 (.iadd) 1 8 := ⟨by decide +kernel, rfl⟩
theorem d_X8_reads_8 : zDc M_X8_reads 8 (.iload_n 2) 1 9 := ⟨by decide +kernel, rfl⟩
theorem d_X8_reads_9 : zDc M_X8_reads 9 (.iastore) 1 10 := ⟨by decide +kernel, rfl⟩
theorem d_X8_reads_10 : zDc M_X8_reads 10 (.return_) 1 11 := ⟨by decide +kernel, rfl⟩
def f_X8_reads (a0 : Nat) (a1 : Int32) (a2 : Int32) (h0 : zHp) : Option (Unit × zHp) :=
  zob (zgR h0 a0 8 3) (fun v1 =>
  zob (zsI 0 h0 v1 (8 + a1) a2) (fun h2 =>
  some ((), h2)))
set_option maxRecDepth 100000 in
set_option maxHeartbeats 4000000 in
theorem t_X8_reads (a0 : Nat) (a1 : Int32) (a2 : Int32) (h0 : zHp) : ∀ (r : Unit) (h' : zHp), f_X8_reads a0 a1 a2 h0 = some (r, h') → zCt yX8_reads (.code yX8_reads cX8_reads 3 none) 1 60 0 0 [.ref a0, .int a1, .int a2] h0 (none) h' := by
  refine zct_of M_X8_reads yX8_reads (by decide) rfl rfl [.ref a0, .int a1, .int a2] h0 (Nat.le_of_ble_eq_true rfl) (fun _ => none) (fun X => ?_)
  show zG X M_X8_reads (0, 0) 0 [(0, .ref a0), (1, .int a1), (2, .int a2)] [] h0 (f_X8_reads a0 a1 a2 h0) (fun (_ : Unit) h' => zKe X (none) h')
  unfold f_X8_reads
  refine zg_aload_n 0 rfl d_X8_reads_0 ?_
  refine zg_getR d_X8_reads_1 zc_8 (by decide) fl_X8_13 (fun v1 => ?_)
  refine zg_bipush 8 rfl d_X8_reads_4 ?_
  refine zg_iload_n 1 rfl d_X8_reads_6 ?_
  refine zg_iadd d_X8_reads_7 ?_
  refine zg_iload_n 2 rfl d_X8_reads_8 ?_
  refine zg_ast0 d_X8_reads_9 (fun h2 => ?_)
  exact zg_vretK d_X8_reads_10 rfl ⟨Nat.le_of_ble_eq_true rfl, Nat.le_of_ble_eq_true rfl⟩ (fun q => q)
abbrev M_X8_puts : zMt := (RX8, cX8_puts, 3, 2, 82, none, "puts", 0, 0)
theorem d_X8_puts_0 : zDc M_X8_puts 0 (.aload_n 0) 1 1 := ⟨by decide +kernel, rfl⟩
theorem d_X8_puts_1 : zDc M_X8_puts 1 (.getfield 205) 3 4 := ⟨by decide +kernel, rfl⟩
theorem d_X8_puts_4 : zDj M_X8_puts 4 (.ifCond .eq 4) 4 7 8 := ⟨by decide +kernel, rfl, by decide⟩
theorem d_X8_puts_7 : zDc M_X8_puts 7 (.return_) 1 8 := ⟨by decide +kernel, rfl⟩
theorem d_X8_puts_8 : zDc M_X8_puts 8 (.aload_n 0) 1 9 := ⟨by decide +kernel, rfl⟩
theorem d_X8_puts_9 : zDc M_X8_puts 9 (.getfield 58) 3 12 := ⟨by decide +kernel, rfl⟩
theorem d_X8_puts_12 : zDc M_X8_puts 12 (.bipush 64) 2 14 := ⟨by decide +kernel, rfl⟩
theorem d_X8_puts_14 : zDc M_X8_puts 14 (.aload_n 0) 1 15 := ⟨by decide +kernel, rfl⟩
theorem d_X8_puts_15 : zDc M_X8_puts 15 (.bipush 7) 2 17 := ⟨by decide +kernel, rfl⟩
theorem d_X8_puts_17 : zDc M_X8_puts 17 (.invokevirtual 225) 3 20 := ⟨by decide +kernel, rfl⟩
theorem d_X8_puts_20 : zDc M_X8_puts 20 (.iadd) 1 21 := ⟨by decide +kernel, rfl⟩
theorem d_X8_puts_21 : zDc M_X8_puts 21 (.iload_n 1) 1 22 := ⟨by decide +kernel, rfl⟩
theorem d_X8_puts_22 : zDc M_X8_puts 22 (.iastore) 1 23 := ⟨by decide +kernel, rfl⟩
theorem d_X8_puts_23 : zDc M_X8_puts 23 (.aload_n 0) 1 24 := ⟨by decide +kernel, rfl⟩
theorem d_X8_puts_24 : zDc M_X8_puts 24 (.getfield 61) 3 27 := ⟨by decide +kernel, rfl⟩
theorem d_X8_puts_27 : zDc M_X8_puts 27 (.bipush 64) 2 29 := ⟨by decide +kernel, rfl⟩
theorem d_X8_puts_29 : zDc M_X8_puts 29 (.aload_n 0) 1 30 := ⟨by decide +kernel, rfl⟩
theorem d_X8_puts_30 : zDc M_X8_puts 30 (.bipush 7) 2 32 := ⟨by decide +kernel, rfl⟩
theorem d_X8_puts_32 : zDc M_X8_puts 32 (.invokevirtual 225) 3 35 := ⟨by decide +kernel, rfl⟩
theorem d_X8_puts_35 : zDc M_X8_puts 35 (.iadd) 1 36 := ⟨by decide +kernel, rfl⟩
theorem d_X8_puts_36 : zDc M_X8_puts 36 (.iload_n 2) 1 37 := ⟨by decide +kernel, rfl⟩
theorem d_X8_puts_37 : zDc M_X8_puts 37 (.iastore) 1 38 := ⟨by decide +kernel, rfl⟩
theorem d_X8_puts_38 : zDc M_X8_puts 38 (.aload_n 0) 1 39 := ⟨by decide +kernel, rfl⟩
theorem d_X8_puts_39 : zDc M_X8_puts 39 (.bipush 7) 2 41 := ⟨by decide +kernel, rfl⟩
theorem d_X8_puts_41 : zDc M_X8_puts 41 (.aload_n 0) 1 42 := ⟨by decide +kernel, rfl⟩
theorem d_X8_puts_42 : zDc M_X8_puts 42 (.bipush 7) 2 44 := ⟨by decide +kernel, rfl⟩
theorem d_X8_puts_44 : zDc M_X8_puts 44 (.invokevirtual 225) 3 47 := ⟨by decide +kernel, rfl⟩
theorem d_X8_puts_47 : zDc M_X8_puts 47 (.iconst 1) 1 48 := ⟨by decide +kernel, rfl⟩
theorem d_X8_puts_48 : zDc M_X8_puts 48 (.iadd) 1 49 := ⟨by decide +kernel, rfl⟩
theorem d_X8_puts_49 : zDc M_X8_puts 49 (.invokevirtual 245) 3 52 := ⟨by decide +kernel, rfl⟩
theorem d_X8_puts_52 : zDc M_X8_puts 52 (.return_) 1 53 := ⟨by decide +kernel, rfl⟩
def f_X8_puts (a0 : Nat) (a1 : Int32) (a2 : Int32) (h0 : zHp) : Option (Unit × zHp) :=
  zob (zgI h0 a0 8 27) (fun v1 =>
  if v1 = 0 then
  zob (zgR h0 a0 8 18) (fun v2 =>
  zbd (zcv 8 a0 h0 (f_X8_fresher a0 7 h0)) (fun v4 h3 =>
  zob (zsI 0 h3 v2 (64 + v4) a1) (fun h5 =>
  zob (zgR h5 a0 8 19) (fun v6 =>
  zbd (zcv 8 a0 h5 (f_X8_fresher a0 7 h5)) (fun v8 h7 =>
  zob (zsI 0 h7 v6 (64 + v8) a2) (fun h9 =>
  zbd (zcv 8 a0 h9 (f_X8_fresher a0 7 h9)) (fun v11 h10 =>
  zbd (zcv 8 a0 h10 (f_X8_reads a0 7 (v11 + 1) h10)) (fun v13 h12 =>
  some ((), h12)))))))))
  else
  some ((), h0))
set_option maxRecDepth 100000 in
set_option maxHeartbeats 4000000 in
theorem t_X8_puts (a0 : Nat) (a1 : Int32) (a2 : Int32) (h0 : zHp) : ∀ (r : Unit) (h' : zHp), f_X8_puts a0 a1 a2 h0 = some (r, h') → zCt yX8_puts (.code yX8_puts cX8_puts 3 none) 2 82 0 0 [.ref a0, .int a1, .int a2] h0 (none) h' := by
  refine zct_of M_X8_puts yX8_puts (by decide) rfl rfl [.ref a0, .int a1, .int a2] h0 (Nat.le_of_ble_eq_true rfl) (fun _ => none) (fun X => ?_)
  show zG X M_X8_puts (0, 0) 0 [(0, .ref a0), (1, .int a1), (2, .int a2)] [] h0 (f_X8_puts a0 a1 a2 h0) (fun (_ : Unit) h' => zKe X (none) h')
  unfold f_X8_puts
  refine zg_aload_n 0 rfl d_X8_puts_0 ?_
  refine zg_getI d_X8_puts_1 zc_8 (by decide) fl_X8_205 (fun v1 => ?_)
  refine zg_if_eq d_X8_puts_4 ?_ ?_
  · refine zg_aload_n 0 rfl d_X8_puts_8 ?_
    refine zg_getR d_X8_puts_9 zc_8 (by decide) fl_X8_58 (fun v2 => ?_)
    refine zg_bipush 64 rfl d_X8_puts_12 ?_
    refine zg_aload_n 0 rfl d_X8_puts_14 ?_
    refine zg_bipush 7 rfl d_X8_puts_15 ?_
    refine zg_cVi (b := a0) (As := [.int 7]) (rest := [.int 64, .ref v2]) (0, 0) d_X8_puts_17 zc_8 rfl cw_X8_225 wi_X8_fresher ws_X8_fresher rfl rfl (Nat.le_of_ble_eq_true rfl) (by decide) (by decide) ⟨by decide, by decide⟩ rfl (t_X8_fresher a0 7 h0) (fun v4 h3 => ?_)
    refine zg_iadd d_X8_puts_20 ?_
    refine zg_iload_n 1 rfl d_X8_puts_21 ?_
    refine zg_ast0 d_X8_puts_22 (fun h5 => ?_)
    refine zg_aload_n 0 rfl d_X8_puts_23 ?_
    refine zg_getR d_X8_puts_24 zc_8 (by decide) fl_X8_61 (fun v6 => ?_)
    refine zg_bipush 64 rfl d_X8_puts_27 ?_
    refine zg_aload_n 0 rfl d_X8_puts_29 ?_
    refine zg_bipush 7 rfl d_X8_puts_30 ?_
    refine zg_cVi (b := a0) (As := [.int 7]) (rest := [.int 64, .ref v6]) (0, 0) d_X8_puts_32 zc_8 rfl cw_X8_225 wi_X8_fresher ws_X8_fresher rfl rfl (Nat.le_of_ble_eq_true rfl) (by decide) (by decide) ⟨by decide, by decide⟩ rfl (t_X8_fresher a0 7 h5) (fun v8 h7 => ?_)
    refine zg_iadd d_X8_puts_35 ?_
    refine zg_iload_n 2 rfl d_X8_puts_36 ?_
    refine zg_ast0 d_X8_puts_37 (fun h9 => ?_)
    refine zg_aload_n 0 rfl d_X8_puts_38 ?_
    refine zg_bipush 7 rfl d_X8_puts_39 ?_
    refine zg_aload_n 0 rfl d_X8_puts_41 ?_
    refine zg_bipush 7 rfl d_X8_puts_42 ?_
    refine zg_cVi (b := a0) (As := [.int 7]) (rest := [.int 7, .ref a0]) (0, 0) d_X8_puts_44 zc_8 rfl cw_X8_225 wi_X8_fresher ws_X8_fresher rfl rfl (Nat.le_of_ble_eq_true rfl) (by decide) (by decide) ⟨by decide, by decide⟩ rfl (t_X8_fresher a0 7 h9) (fun v11 h10 => ?_)
    refine zg_iconst 1 rfl d_X8_puts_47 ?_
    refine zg_iadd d_X8_puts_48 ?_
    refine zg_cVv (b := a0) (As := [.int 7, .int (v11 + 1)]) (rest := []) (0, 0) d_X8_puts_49 zc_8 rfl cw_X8_245 wi_X8_reads ws_X8_reads rfl rfl (Nat.le_of_ble_eq_true rfl) (by decide) (by decide) ⟨by decide, by decide⟩ rfl (t_X8_reads a0 7 (v11 + 1) h10) (fun v13 h12 => ?_)
    exact zg_vretK d_X8_puts_52 rfl ⟨Nat.le_of_ble_eq_true rfl, Nat.le_of_ble_eq_true rfl⟩ (fun q => q)
  · exact zg_vretK d_X8_puts_7 rfl ⟨Nat.le_of_ble_eq_true rfl, Nat.le_of_ble_eq_true rfl⟩ (fun q => q)
abbrev M_X8_isSign : zMt := (RX8, cX8_isSign, 2, 1, 60, (some .boolean), "isSign", 0, 0)
theorem d_X8_isSign_0 : zDc M_X8_isSign 0 (.aload_n 0) 1 1 := ⟨by decide +kernel, rfl⟩
theorem d_X8_isSign_1 : zDc M_X8_isSign 1 (.getfield 205) 3 4 := ⟨by decide +kernel, rfl⟩
theorem d_X8_isSign_4 : zDj M_X8_isSign 4 (.ifCond .ne 23) 23 7 27 := ⟨by decide +kernel, rfl, by decide⟩
theorem d_X8_isSign_7 : zDc M_X8_isSign 7 (.aload_n 0) 1 8 := ⟨by decide +kernel, rfl⟩
theorem d_X8_isSign_8 : zDc M_X8_isSign 8 (.getfield 170) 3 11 := ⟨by decide +kernel, rfl⟩
theorem d_X8_isSign_11 : zDc M_X8_isSign 11 (.iconst 3) 1 12 := ⟨by decide +kernel, rfl⟩
theorem d_X8_isSign_12 : zDj M_X8_isSign 12 (.if_icmp .ne 15) 15 15 27 := ⟨by decide +kernel, rfl, by decide⟩
theorem d_X8_isSign_15 : zDc M_X8_isSign 15 (.aload_n 0) 1 16 := ⟨by decide +kernel, rfl⟩
theorem d_X8_isSign_16 : zDc M_X8_isSign 16 (.getfield 180) 3 19 := ⟨by decide +kernel, rfl⟩
theorem d_X8_isSign_19 : zDc M_X8_isSign 19 (.iload_n 1) 1 20 := ⟨by decide +kernel, rfl⟩
theorem d_X8_isSign_20 : zDj M_X8_isSign 20 (.if_icmp .ne 7) 7 23 27 := ⟨by decide +kernel, rfl, by decide⟩
theorem d_X8_isSign_23 : zDc M_X8_isSign 23 (.iconst 1) 1 24 := ⟨by decide +kernel, rfl⟩
theorem d_X8_isSign_24 : zDj M_X8_isSign 24 (.goto 4) 4 27 28 := ⟨by decide +kernel, rfl, by decide⟩
theorem d_X8_isSign_27 : zDc M_X8_isSign 27 (.iconst 0) 1 28 := ⟨by decide +kernel, rfl⟩
theorem d_X8_isSign_28 : zDc M_X8_isSign 28 (.ireturn) 1 29 := ⟨by decide +kernel, rfl⟩
def f_X8_isSign (a0 : Nat) (a1 : Int32) (h0 : zHp) : Option (Int32 × zHp) :=
  zob (zgI h0 a0 8 27) (fun v1 =>
  if v1 = 0 then
  zob (zgI h0 a0 8 25) (fun v2 =>
  if v2 = 3 then
  zob (zgI h0 a0 8 26) (fun v3 =>
  if v3 = a1 then
  some (1, h0)
  else
  some (0, h0))
  else
  some (0, h0))
  else
  some (0, h0))
set_option maxRecDepth 100000 in
set_option maxHeartbeats 4000000 in
theorem t_X8_isSign (a0 : Nat) (a1 : Int32) (h0 : zHp) : ∀ (r : Int32) (h' : zHp), f_X8_isSign a0 a1 h0 = some (r, h') → zCt yX8_isSign (.code yX8_isSign cX8_isSign 2 (some .boolean)) 1 60 0 0 [.ref a0, .int a1] h0 (some (.int r)) h' := by
  refine zct_of M_X8_isSign yX8_isSign (by decide) rfl rfl [.ref a0, .int a1] h0 (Nat.le_of_ble_eq_true rfl) (fun r => some (.int r)) (fun X => ?_)
  show zG X M_X8_isSign (0, 0) 0 [(0, .ref a0), (1, .int a1)] [] h0 (f_X8_isSign a0 a1 h0) (fun (r : Int32) h' => zKe X (some (.int r)) h')
  unfold f_X8_isSign
  refine zg_aload_n 0 rfl d_X8_isSign_0 ?_
  refine zg_getI d_X8_isSign_1 zc_8 (by decide) fl_X8_205 (fun v1 => ?_)
  refine zg_if_ne d_X8_isSign_4 ?_ ?_
  · refine zg_aload_n 0 rfl d_X8_isSign_7 ?_
    refine zg_getI d_X8_isSign_8 zc_8 (by decide) fl_X8_170 (fun v2 => ?_)
    refine zg_iconst 3 rfl d_X8_isSign_11 ?_
    refine zg_icmp_ne d_X8_isSign_12 ?_ ?_
    · refine zg_aload_n 0 rfl d_X8_isSign_15 ?_
      refine zg_getI d_X8_isSign_16 zc_8 (by decide) fl_X8_180 (fun v3 => ?_)
      refine zg_iload_n 1 rfl d_X8_isSign_19 ?_
      refine zg_icmp_ne d_X8_isSign_20 ?_ ?_
      · refine zg_iconst 1 rfl d_X8_isSign_23 ?_
        refine zg_goto d_X8_isSign_24 ?_
        exact zg_zretK d_X8_isSign_28 rfl ⟨Nat.le_of_ble_eq_true rfl, Nat.le_of_ble_eq_true rfl⟩ (Or.inr rfl) (fun q => q)
      · refine zg_iconst 0 rfl d_X8_isSign_27 ?_
        exact zg_zretK d_X8_isSign_28 rfl ⟨Nat.le_of_ble_eq_true rfl, Nat.le_of_ble_eq_true rfl⟩ (Or.inl rfl) (fun q => q)
    · refine zg_iconst 0 rfl d_X8_isSign_27 ?_
      exact zg_zretK d_X8_isSign_28 rfl ⟨Nat.le_of_ble_eq_true rfl, Nat.le_of_ble_eq_true rfl⟩ (Or.inl rfl) (fun q => q)
  · refine zg_iconst 0 rfl d_X8_isSign_27 ?_
    exact zg_zretK d_X8_isSign_28 rfl ⟨Nat.le_of_ble_eq_true rfl, Nat.le_of_ble_eq_true rfl⟩ (Or.inl rfl) (fun q => q)
abbrev M_X8_givenTo : zMt := (RX8, cX8_givenTo, 4, 1, 60, (some .int), "givenTo", 0, 0)
theorem d_X8_givenTo_0 : zDc M_X8_givenTo 0 (.iconst 0) 1 1 := ⟨by decide +kernel, rfl⟩
theorem d_X8_givenTo_1 : zDc M_X8_givenTo 1 (.istore_n 2) 1 2 := ⟨by decide +kernel, rfl⟩
theorem d_X8_givenTo_2 : zDc M_X8_givenTo 2 (.iconst 0) 1 3 := ⟨by decide +kernel, rfl⟩
theorem d_X8_givenTo_3 : zDc M_X8_givenTo 3 (.istore_n 3) 1 4 := ⟨by decide +kernel, rfl⟩
theorem d_X8_givenTo_4 : zDc M_X8_givenTo 4 (.iload_n 3) 1 5 := ⟨by decide +kernel, rfl⟩
theorem d_X8_givenTo_5 : zDc M_X8_givenTo 5 (.aload_n 0) 1 6 := ⟨by decide +kernel, rfl⟩
theorem d_X8_givenTo_6 : zDc M_X8_givenTo 6 (.getfield 13) 3 9 := ⟨by decide +kernel, rfl⟩
theorem d_X8_givenTo_9 : zDc M_X8_givenTo 9 (.iconst 1) 1 10 := ⟨by decide +kernel, rfl⟩
theorem d_X8_givenTo_10 : zDc M_X8_givenTo 10 (.iaload) 1 11 := ⟨by decide +kernel, rfl⟩
theorem d_X8_givenTo_11 : zDj M_X8_givenTo 11 (.if_icmp .ge 27) 27 14 38 := ⟨by decide +kernel, rfl, by decide⟩
theorem d_X8_givenTo_14 : zDc M_X8_givenTo 14 (.iload_n 2) 1 15 := ⟨by decide +kernel, rfl⟩
theorem d_X8_givenTo_15 : zDc M_X8_givenTo 15 (.aload_n 0) 1 16 := ⟨by decide +kernel, rfl⟩
theorem d_X8_givenTo_16 : zDc M_X8_givenTo 16 (.getfield 117) 3 19 := ⟨by decide +kernel, rfl⟩
theorem d_X8_givenTo_19 : zDc M_X8_givenTo 19 (.iload_n 3) 1 20 := ⟨by decide +kernel, rfl⟩
theorem d_X8_givenTo_20 : zDc M_X8_givenTo 20 (.iaload) 1 21 := ⟨by decide +kernel, rfl⟩
theorem d_X8_givenTo_21 : zDc M_X8_givenTo 21 (.iload_n 1) 1 22 := ⟨by decide +kernel, rfl⟩
theorem d_X8_givenTo_22 : zDj M_X8_givenTo 22 (.if_icmp .ne 7) 7 25 29 := ⟨by decide +kernel, rfl, by decide⟩
theorem d_X8_givenTo_25 : zDc M_X8_givenTo 25 (.iconst 1) 1 26 := ⟨by decide +kernel, rfl⟩
theorem d_X8_givenTo_26 : zDj M_X8_givenTo 26 (.goto 4) 4 29 30 := ⟨by decide +kernel, rfl, by decide⟩
theorem d_X8_givenTo_29 : zDc M_X8_givenTo 29 (.iconst 0) 1 30 := ⟨by decide +kernel, rfl⟩
theorem d_X8_givenTo_30 : zDc M_X8_givenTo 30 (.iadd) 1 31 := ⟨by decide +kernel, rfl⟩
theorem d_X8_givenTo_31 : zDc M_X8_givenTo 31 (.istore_n 2) 1 32 := ⟨by decide +kernel, rfl⟩
theorem d_X8_givenTo_32 : zDc M_X8_givenTo 32 (.iinc 3 1) 3 35 := ⟨by decide +kernel, rfl⟩
theorem d_X8_givenTo_35 : zDj M_X8_givenTo 35 (.goto (-31)) (-31) 38 4 := ⟨by decide +kernel, rfl, by decide⟩
theorem d_X8_givenTo_38 : zDc M_X8_givenTo 38 (.iload_n 2) 1 39 := ⟨by decide +kernel, rfl⟩
theorem d_X8_givenTo_39 : zDc M_X8_givenTo 39 (.ireturn) 1 40 := ⟨by decide +kernel, rfl⟩
def f_X8_givenTo (a0 : Nat) (a1 : Int32) (h0 : zHp) : Option (Int32 × zHp) :=
  zbd (
  zlp (σ := (Int32 × Int32)) (β := (Int32 × Int32)) zLF (fun s1 h2 =>
  zob (zgR h2 a0 8 3) (fun v5 =>
  zob (zaI 0 h2 v5 1) (fun v6 =>
  if v6 ≤ s1.2 then
  some ((.inr (s1.1, s1.2)), h2)
  else
  zob (zgR h2 a0 8 54) (fun v7 =>
  zob (zaI 0 h2 v7 s1.2) (fun v8 =>
  if v8 = a1 then
  some ((.inl ((s1.1 + 1), (s1.2 + 1))), h2)
  else
  some ((.inl ((s1.1 + 0), (s1.2 + 1))), h2)))))) (0, 0) h0) (fun e3 h4 =>
  some (e3.1, h4))
set_option maxRecDepth 100000 in
set_option maxHeartbeats 4000000 in
theorem t_X8_givenTo (a0 : Nat) (a1 : Int32) (h0 : zHp) : ∀ (r : Int32) (h' : zHp), f_X8_givenTo a0 a1 h0 = some (r, h') → zCt yX8_givenTo (.code yX8_givenTo cX8_givenTo 4 (some .int)) 1 60 0 0 [.ref a0, .int a1] h0 (some (.int r)) h' := by
  refine zct_of M_X8_givenTo yX8_givenTo (by decide) rfl rfl [.ref a0, .int a1] h0 (Nat.le_of_ble_eq_true rfl) (fun r => some (.int r)) (fun X => ?_)
  show zG X M_X8_givenTo (0, 0) 0 [(0, .ref a0), (1, .int a1)] [] h0 (f_X8_givenTo a0 a1 h0) (fun (r : Int32) h' => zKe X (some (.int r)) h')
  unfold f_X8_givenTo
  refine zg_iconst 0 rfl d_X8_givenTo_0 ?_
  refine zg_istore_n [(2, .int 0), (0, .ref a0), (1, .int a1)] d_X8_givenTo_1 rfl (by decide) rfl ?_
  refine zg_iconst 0 rfl d_X8_givenTo_2 ?_
  refine zg_istore_n [(3, .int 0), (2, .int 0), (0, .ref a0), (1, .int a1)] d_X8_givenTo_3 rfl (by decide) rfl ?_
  refine zg_bd (E := 38) (el := (fun (e3 : (Int32 × Int32)) => [(0, .ref a0), (1, .int a1), (2, .int e3.1), (3, .int e3.2)])) (es := fun _ => []) (zg_sub [2, 3, 1, 0] rfl (zg_lp (el := (fun (s1 : (Int32 × Int32)) => [(0, .ref a0), (1, .int a1), (2, .int s1.1), (3, .int s1.2)])) (fun s1 h2 => ?_) (0, 0) h0)) (fun e3 h4 => ?_)
  · refine zg_iload_n 3 rfl d_X8_givenTo_4 ?_
    refine zg_aload_n 0 rfl d_X8_givenTo_5 ?_
    refine zg_getR d_X8_givenTo_6 zc_8 (by decide) fl_X8_13 (fun v5 => ?_)
    refine zg_iconst 1 rfl d_X8_givenTo_9 ?_
    refine zg_ald0 d_X8_givenTo_10 (fun v6 => ?_)
    refine zg_icmp_ge d_X8_givenTo_11 ?_ ?_
    · exact zg_finK (E := 0) [0, 1, 2, 3] rfl rfl (fun q => q)
    · refine zg_iload_n 2 rfl d_X8_givenTo_14 ?_
      refine zg_aload_n 0 rfl d_X8_givenTo_15 ?_
      refine zg_getR d_X8_givenTo_16 zc_8 (by decide) fl_X8_117 (fun v7 => ?_)
      refine zg_iload_n 3 rfl d_X8_givenTo_19 ?_
      refine zg_ald0 d_X8_givenTo_20 (fun v8 => ?_)
      refine zg_iload_n 1 rfl d_X8_givenTo_21 ?_
      refine zg_icmp_ne d_X8_givenTo_22 ?_ ?_
      · refine zg_iconst 1 rfl d_X8_givenTo_25 ?_
        refine zg_goto d_X8_givenTo_26 ?_
        refine zg_iadd d_X8_givenTo_30 ?_
        refine zg_istore_n [(2, .int (s1.1 + 1)), (0, .ref a0), (1, .int a1), (3, .int s1.2)] d_X8_givenTo_31 rfl (by decide) rfl ?_
        refine zg_iinc 3 (s1.2 + 1) [(3, .int (s1.2 + 1)), (2, .int (s1.1 + 1)), (0, .ref a0), (1, .int a1)] d_X8_givenTo_32 rfl rfl (by decide) rfl ?_
        refine zg_goto d_X8_givenTo_35 ?_
        exact zg_finK (E := 0) [2, 3, 1, 0] rfl rfl (fun q => q)
      · refine zg_iconst 0 rfl d_X8_givenTo_29 ?_
        refine zg_iadd d_X8_givenTo_30 ?_
        refine zg_istore_n [(2, .int (s1.1 + 0)), (0, .ref a0), (1, .int a1), (3, .int s1.2)] d_X8_givenTo_31 rfl (by decide) rfl ?_
        refine zg_iinc 3 (s1.2 + 1) [(3, .int (s1.2 + 1)), (2, .int (s1.1 + 0)), (0, .ref a0), (1, .int a1)] d_X8_givenTo_32 rfl rfl (by decide) rfl ?_
        refine zg_goto d_X8_givenTo_35 ?_
        exact zg_finK (E := 0) [2, 3, 1, 0] rfl rfl (fun q => q)
  · refine zg_iload_n 2 rfl d_X8_givenTo_38 ?_
    exact zg_iretK d_X8_givenTo_39 rfl ⟨Nat.le_of_ble_eq_true rfl, Nat.le_of_ble_eq_true rfl⟩ (fun q => q)
abbrev M_X8_knownMany : zMt := (RX8, cX8_knownMany, 1, 1, 60, (some .int), "knownMany", 0, 0)
theorem d_X8_knownMany_0 : zDc M_X8_knownMany 0 (.aload_n 0) 1 1 := ⟨by decide +kernel, rfl⟩
theorem d_X8_knownMany_1 : zDc M_X8_knownMany 1 (.getfield 129) 3 4 := ⟨by decide +kernel, rfl⟩
theorem d_X8_knownMany_4 : zDc M_X8_knownMany 4 (.iconst (-1)) 1 5 := ⟨by decide +kernel, rfl⟩
theorem d_X8_knownMany_5 : zDj M_X8_knownMany 5 (.if_icmp .ne 10) 10 8 15 := ⟨by decide +kernel, rfl, by decide⟩
theorem d_X8_knownMany_8 : zDc M_X8_knownMany 8 (.aload_n 0) 1 9 := ⟨by decide +kernel, rfl⟩
theorem d_X8_knownMany_9 : zDc M_X8_knownMany 9 (.getfield 304) 3 12 := ⟨by decide +kernel, rfl⟩
theorem d_X8_knownMany_12 : zDj M_X8_knownMany 12 (.goto 7) 7 15 19 := ⟨by decide +kernel, rfl, by decide⟩
theorem d_X8_knownMany_15 : zDc M_X8_knownMany 15 (.aload_n 0) 1 16 := ⟨by decide +kernel, rfl⟩
theorem d_X8_knownMany_16 : zDc M_X8_knownMany 16 (.getfield 129) 3 19 := ⟨by decide +kernel, rfl⟩
theorem d_X8_knownMany_19 : zDc M_X8_knownMany 19 (.ireturn) 1 20 := ⟨by decide +kernel, rfl⟩
def f_X8_knownMany (a0 : Nat) (h0 : zHp) : Option (Int32 × zHp) :=
  zob (zgI h0 a0 8 62) (fun v1 =>
  if v1 = (-1) then
  zob (zgI h0 a0 8 61) (fun v2 =>
  some (v2, h0))
  else
  zob (zgI h0 a0 8 62) (fun v3 =>
  some (v3, h0)))
set_option maxRecDepth 100000 in
set_option maxHeartbeats 4000000 in
theorem t_X8_knownMany (a0 : Nat) (h0 : zHp) : ∀ (r : Int32) (h' : zHp), f_X8_knownMany a0 h0 = some (r, h') → zCt yX8_knownMany (.code yX8_knownMany cX8_knownMany 1 (some .int)) 1 60 0 0 [.ref a0] h0 (some (.int r)) h' := by
  refine zct_of M_X8_knownMany yX8_knownMany (by decide) rfl rfl [.ref a0] h0 (Nat.le_of_ble_eq_true rfl) (fun r => some (.int r)) (fun X => ?_)
  show zG X M_X8_knownMany (0, 0) 0 [(0, .ref a0)] [] h0 (f_X8_knownMany a0 h0) (fun (r : Int32) h' => zKe X (some (.int r)) h')
  unfold f_X8_knownMany
  refine zg_aload_n 0 rfl d_X8_knownMany_0 ?_
  refine zg_getI d_X8_knownMany_1 zc_8 (by decide) fl_X8_129 (fun v1 => ?_)
  refine zg_iconst (-1) rfl d_X8_knownMany_4 ?_
  refine zg_icmp_ne d_X8_knownMany_5 ?_ ?_
  · refine zg_aload_n 0 rfl d_X8_knownMany_8 ?_
    refine zg_getI d_X8_knownMany_9 zc_8 (by decide) fl_X8_304 (fun v2 => ?_)
    refine zg_goto d_X8_knownMany_12 ?_
    exact zg_iretK d_X8_knownMany_19 rfl ⟨Nat.le_of_ble_eq_true rfl, Nat.le_of_ble_eq_true rfl⟩ (fun q => q)
  · refine zg_aload_n 0 rfl d_X8_knownMany_15 ?_
    refine zg_getI d_X8_knownMany_16 zc_8 (by decide) fl_X8_129 (fun v3 => ?_)
    exact zg_iretK d_X8_knownMany_19 rfl ⟨Nat.le_of_ble_eq_true rfl, Nat.le_of_ble_eq_true rfl⟩ (fun q => q)
abbrev M_X8_count : zMt := (RX8, cX8_count, 2, 3, 105, (some .int), "count", 0, 0)
theorem d_X8_count_0 : zDc M_X8_count 0 (.aload_n 0) 1 1 := ⟨by decide +kernel, rfl⟩
theorem d_X8_count_1 : zDc M_X8_count 1 (.iconst 0) 1 2 := ⟨by decide +kernel, rfl⟩
theorem d_X8_count_2 : zDc M_X8_count 2 (.putfield 151) 3 5 := ⟨by decide +kernel, rfl⟩
theorem d_X8_count_5 : zDc M_X8_count 5 (.iload_n 1) 1 6 := ⟨by decide +kernel, rfl⟩
theorem d_X8_count_6 : decode M_X8_count.2.1 6 = .ok (.tableswitch 170 0 14 #[74, 81, 88, 95, 102, 110, 117, 123, 129, 136, 143, 149, 155, 160, 165], 74) := by decide +kernel
theorem d_X8_count_80 : zDc M_X8_count 80 (.aload_n 0) 1 81 := ⟨by decide +kernel, rfl⟩
theorem d_X8_count_81 : zDc M_X8_count 81 (.getfield 13) 3 84 := ⟨by decide +kernel, rfl⟩
theorem d_X8_count_84 : zDc M_X8_count 84 (.iconst 0) 1 85 := ⟨by decide +kernel, rfl⟩
theorem d_X8_count_85 : zDc M_X8_count 85 (.iaload) 1 86 := ⟨by decide +kernel, rfl⟩
theorem d_X8_count_86 : zDc M_X8_count 86 (.ireturn) 1 87 := ⟨by decide +kernel, rfl⟩
theorem d_X8_count_87 : zDc M_X8_count 87 (.aload_n 0) 1 88 := ⟨by decide +kernel, rfl⟩
theorem d_X8_count_88 : zDc M_X8_count 88 (.getfield 13) 3 91 := ⟨by decide +kernel, rfl⟩
theorem d_X8_count_91 : zDc M_X8_count 91 (.iconst 1) 1 92 := ⟨by decide +kernel, rfl⟩
theorem d_X8_count_92 : zDc M_X8_count 92 (.iaload) 1 93 := ⟨by decide +kernel, rfl⟩
theorem d_X8_count_93 : zDc M_X8_count 93 (.ireturn) 1 94 := ⟨by decide +kernel, rfl⟩
theorem d_X8_count_94 : zDc M_X8_count 94 (.aload_n 0) 1 95 := ⟨by decide +kernel, rfl⟩
theorem d_X8_count_95 : zDc M_X8_count 95 (.getfield 13) 3 98 := ⟨by decide +kernel, rfl⟩
theorem d_X8_count_98 : zDc M_X8_count 98 (.iconst 2) 1 99 := ⟨by decide +kernel, rfl⟩
theorem d_X8_count_99 : zDc M_X8_count 99 (.iaload) 1 100 := ⟨by decide +kernel, rfl⟩
theorem d_X8_count_100 : zDc M_X8_count 100 (.ireturn) 1 101 := ⟨by decide +kernel, rfl⟩
theorem d_X8_count_101 : zDc M_X8_count 101 (.aload_n 0) 1 102 := ⟨by decide +kernel, rfl⟩
theorem d_X8_count_102 : zDc M_X8_count 102 (.getfield 13) 3 105 := ⟨by decide +kernel, rfl⟩
theorem d_X8_count_105 : zDc M_X8_count 105 (.iconst 3) 1 106 := ⟨by decide +kernel, rfl⟩
theorem d_X8_count_106 : zDc M_X8_count 106 (.iaload) 1 107 := ⟨by decide +kernel, rfl⟩
theorem d_X8_count_107 : zDc M_X8_count 107 (.ireturn) 1 108 := ⟨by decide +kernel, rfl⟩
theorem d_X8_count_108 : zDc M_X8_count 108 (.aload_n 0) 1 109 := ⟨by decide +kernel, rfl⟩
theorem d_X8_count_109 : zDc M_X8_count 109 (.getfield 13) 3 112 := ⟨by decide +kernel, rfl⟩
theorem d_X8_count_112 : zDc M_X8_count 112 (.bipush 7) 2 114 := ⟨by decide +kernel, rfl⟩
theorem d_X8_count_114 : zDc M_X8_count 114 (.iaload) 1 115 := ⟨by decide +kernel, rfl⟩
theorem d_X8_count_115 : zDc M_X8_count 115 (.ireturn) 1 116 := ⟨by decide +kernel, rfl⟩
theorem d_X8_count_116 : zDc M_X8_count 116 (.aload_n 0) 1 117 := ⟨by decide +kernel, rfl⟩
theorem d_X8_count_117 : zDc M_X8_count 117 (.getfield 75) 3 120 := ⟨by decide +kernel, rfl⟩
theorem d_X8_count_120 : zDc M_X8_count 120 (.iconst 0) 1 121 := ⟨by decide +kernel, rfl⟩
theorem d_X8_count_121 : zDc M_X8_count 121 (.iaload) 1 122 := ⟨by decide +kernel, rfl⟩
theorem d_X8_count_122 : zDc M_X8_count 122 (.ireturn) 1 123 := ⟨by decide +kernel, rfl⟩
theorem d_X8_count_123 : zDc M_X8_count 123 (.aload_n 0) 1 124 := ⟨by decide +kernel, rfl⟩
theorem d_X8_count_124 : zDc M_X8_count 124 (.iconst 0) 1 125 := ⟨by decide +kernel, rfl⟩
theorem d_X8_count_125 : zDc M_X8_count 125 (.invokevirtual 397) 3 128 := ⟨by decide +kernel, rfl⟩
theorem d_X8_count_128 : zDc M_X8_count 128 (.ireturn) 1 129 := ⟨by decide +kernel, rfl⟩
theorem d_X8_count_129 : zDc M_X8_count 129 (.aload_n 0) 1 130 := ⟨by decide +kernel, rfl⟩
theorem d_X8_count_130 : zDc M_X8_count 130 (.iconst 0) 1 131 := ⟨by decide +kernel, rfl⟩
theorem d_X8_count_131 : zDc M_X8_count 131 (.invokevirtual 363) 3 134 := ⟨by decide +kernel, rfl⟩
theorem d_X8_count_134 : zDc M_X8_count 134 (.ireturn) 1 135 := ⟨by decide +kernel, rfl⟩
theorem d_X8_count_135 : zDc M_X8_count 135 (.aload_n 0) 1 136 := ⟨by decide +kernel, rfl⟩
theorem d_X8_count_136 : zDc M_X8_count 136 (.iconst 0) 1 137 := ⟨by decide +kernel, rfl⟩
theorem d_X8_count_137 : zDc M_X8_count 137 (.iconst 0) 1 138 := ⟨by decide +kernel, rfl⟩
theorem d_X8_count_138 : zDc M_X8_count 138 (.invokevirtual 459) 3 141 := ⟨by decide +kernel, rfl⟩
theorem d_X8_count_141 : zDc M_X8_count 141 (.ireturn) 1 142 := ⟨by decide +kernel, rfl⟩
theorem d_X8_count_142 : zDc M_X8_count 142 (.aload_n 0) 1 143 := ⟨by decide +kernel, rfl⟩
theorem d_X8_count_143 : zDc M_X8_count 143 (.iconst 0) 1 144 := ⟨by decide +kernel, rfl⟩
theorem d_X8_count_144 : zDc M_X8_count 144 (.iconst 2) 1 145 := ⟨by decide +kernel, rfl⟩
theorem d_X8_count_145 : zDc M_X8_count 145 (.invokevirtual 459) 3 148 := ⟨by decide +kernel, rfl⟩
theorem d_X8_count_148 : zDc M_X8_count 148 (.ireturn) 1 149 := ⟨by decide +kernel, rfl⟩
theorem d_X8_count_149 : zDc M_X8_count 149 (.aload_n 0) 1 150 := ⟨by decide +kernel, rfl⟩
theorem d_X8_count_150 : zDc M_X8_count 150 (.iconst 0) 1 151 := ⟨by decide +kernel, rfl⟩
theorem d_X8_count_151 : zDc M_X8_count 151 (.invokevirtual 453) 3 154 := ⟨by decide +kernel, rfl⟩
theorem d_X8_count_154 : zDc M_X8_count 154 (.ireturn) 1 155 := ⟨by decide +kernel, rfl⟩
theorem d_X8_count_155 : zDc M_X8_count 155 (.aload_n 0) 1 156 := ⟨by decide +kernel, rfl⟩
theorem d_X8_count_156 : zDc M_X8_count 156 (.iconst 0) 1 157 := ⟨by decide +kernel, rfl⟩
theorem d_X8_count_157 : zDc M_X8_count 157 (.invokevirtual 456) 3 160 := ⟨by decide +kernel, rfl⟩
theorem d_X8_count_160 : zDc M_X8_count 160 (.ireturn) 1 161 := ⟨by decide +kernel, rfl⟩
theorem d_X8_count_161 : zDc M_X8_count 161 (.aload_n 0) 1 162 := ⟨by decide +kernel, rfl⟩
theorem d_X8_count_162 : zDc M_X8_count 162 (.getfield 304) 3 165 := ⟨by decide +kernel, rfl⟩
theorem d_X8_count_165 : zDc M_X8_count 165 (.ireturn) 1 166 := ⟨by decide +kernel, rfl⟩
theorem d_X8_count_166 : zDc M_X8_count 166 (.aload_n 0) 1 167 := ⟨by decide +kernel, rfl⟩
theorem d_X8_count_167 : zDc M_X8_count 167 (.invokevirtual 507) 3 170 := ⟨by decide +kernel, rfl⟩
theorem d_X8_count_170 : zDc M_X8_count 170 (.ireturn) 1 171 := ⟨by decide +kernel, rfl⟩
theorem d_X8_count_171 : zDc M_X8_count 171 (.aload_n 0) 1 172 := ⟨by decide +kernel, rfl⟩
theorem d_X8_count_172 : zDc M_X8_count 172 (.getfield 311) 3 175 := ⟨by decide +kernel, rfl⟩
theorem d_X8_count_175 : zDc M_X8_count 175 (.ireturn) 1 176 := ⟨by decide +kernel, rfl⟩
theorem d_X8_count_176 : zDc M_X8_count 176 (.iconst (-1)) 1 177 := ⟨by decide +kernel, rfl⟩
theorem d_X8_count_177 : zDc M_X8_count 177 (.ireturn) 1 178 := ⟨by decide +kernel, rfl⟩
def f_X8_count (a0 : Nat) (a1 : Int32) (h0 : zHp) : Option (Int32 × zHp) :=
  zob (zpV h0 a0 8 0 (.int 0)) (fun h1 =>
  if a1 = 0 then
  zob (zgR h1 a0 8 3) (fun v2 =>
  zob (zaI 0 h1 v2 0) (fun v3 =>
  some (v3, h1)))
  else if a1 = 1 then
  zob (zgR h1 a0 8 3) (fun v4 =>
  zob (zaI 0 h1 v4 1) (fun v5 =>
  some (v5, h1)))
  else if a1 = 2 then
  zob (zgR h1 a0 8 3) (fun v6 =>
  zob (zaI 0 h1 v6 2) (fun v7 =>
  some (v7, h1)))
  else if a1 = 3 then
  zob (zgR h1 a0 8 3) (fun v8 =>
  zob (zaI 0 h1 v8 3) (fun v9 =>
  some (v9, h1)))
  else if a1 = 4 then
  zob (zgR h1 a0 8 3) (fun v10 =>
  zob (zaI 0 h1 v10 7) (fun v11 =>
  some (v11, h1)))
  else if a1 = 5 then
  zob (zgR h1 a0 8 36) (fun v12 =>
  zob (zaI 0 h1 v12 0) (fun v13 =>
  some (v13, h1)))
  else if a1 = 6 then
  zbd (zcv 8 a0 h1 (f_X8_windIn a0 0 h1)) (fun v15 h14 =>
  some (v15, h14))
  else if a1 = 7 then
  zbd (zcv 8 a0 h1 (f_X8_upMany a0 0 h1)) (fun v17 h16 =>
  some (v17, h16))
  else if a1 = 8 then
  zbd (zcv 8 a0 h1 (f_X8_howMany a0 0 0 h1)) (fun v19 h18 =>
  some (v19, h18))
  else if a1 = 9 then
  zbd (zcv 8 a0 h1 (f_X8_howMany a0 0 2 h1)) (fun v21 h20 =>
  some (v21, h20))
  else if a1 = 10 then
  zbd (zcv 8 a0 h1 (f_X8_rainAll a0 0 h1)) (fun v23 h22 =>
  some (v23, h22))
  else if a1 = 11 then
  zbd (zcv 8 a0 h1 (f_X8_marksAll a0 0 h1)) (fun v25 h24 =>
  some (v25, h24))
  else if a1 = 12 then
  zob (zgI h1 a0 8 61) (fun v26 =>
  some (v26, h1))
  else if a1 = 13 then
  zbd (zcv 8 a0 h1 (f_X8_knownMany a0 h1)) (fun v28 h27 =>
  some (v28, h27))
  else if a1 = 14 then
  zob (zgI h1 a0 8 48) (fun v29 =>
  some (v29, h1))
  else 
  some ((-1), h1))
set_option maxRecDepth 100000 in
set_option maxHeartbeats 4000000 in
theorem t_X8_count (a0 : Nat) (a1 : Int32) (h0 : zHp) : ∀ (r : Int32) (h' : zHp), f_X8_count a0 a1 h0 = some (r, h') → zCt yX8_count (.code yX8_count cX8_count 2 (some .int)) 3 105 0 0 [.ref a0, .int a1] h0 (some (.int r)) h' := by
  refine zct_of M_X8_count yX8_count (by decide) rfl rfl [.ref a0, .int a1] h0 (Nat.le_of_ble_eq_true rfl) (fun r => some (.int r)) (fun X => ?_)
  show zG X M_X8_count (0, 0) 0 [(0, .ref a0), (1, .int a1)] [] h0 (f_X8_count a0 a1 h0) (fun (r : Int32) h' => zKe X (some (.int r)) h')
  unfold f_X8_count
  refine zg_aload_n 0 rfl d_X8_count_0 ?_
  refine zg_iconst 0 rfl d_X8_count_1 ?_
  refine zg_putV d_X8_count_2 zc_8 (by decide) fl_X8_151 rfl rfl rfl (fun h1 => ?_)
  refine zg_iload_n 1 rfl d_X8_count_5 ?_
  refine zg_if (fun n30 => ?_) (fun n30 => ?_)
  · refine zg_tabE n30 d_X8_count_6 (by decide) (by decide) (off := 74) rfl (tgt := 80) (by decide) ?_
    refine zg_aload_n 0 rfl d_X8_count_80 ?_
    refine zg_getR d_X8_count_81 zc_8 (by decide) fl_X8_13 (fun v2 => ?_)
    refine zg_iconst 0 rfl d_X8_count_84 ?_
    refine zg_ald0 d_X8_count_85 (fun v3 => ?_)
    exact zg_iretK d_X8_count_86 rfl ⟨Nat.le_of_ble_eq_true rfl, Nat.le_of_ble_eq_true rfl⟩ (fun q => q)
  refine zg_if (fun n31 => ?_) (fun n31 => ?_)
  · refine zg_tabE n31 d_X8_count_6 (by decide) (by decide) (off := 81) rfl (tgt := 87) (by decide) ?_
    refine zg_aload_n 0 rfl d_X8_count_87 ?_
    refine zg_getR d_X8_count_88 zc_8 (by decide) fl_X8_13 (fun v4 => ?_)
    refine zg_iconst 1 rfl d_X8_count_91 ?_
    refine zg_ald0 d_X8_count_92 (fun v5 => ?_)
    exact zg_iretK d_X8_count_93 rfl ⟨Nat.le_of_ble_eq_true rfl, Nat.le_of_ble_eq_true rfl⟩ (fun q => q)
  refine zg_if (fun n32 => ?_) (fun n32 => ?_)
  · refine zg_tabE n32 d_X8_count_6 (by decide) (by decide) (off := 88) rfl (tgt := 94) (by decide) ?_
    refine zg_aload_n 0 rfl d_X8_count_94 ?_
    refine zg_getR d_X8_count_95 zc_8 (by decide) fl_X8_13 (fun v6 => ?_)
    refine zg_iconst 2 rfl d_X8_count_98 ?_
    refine zg_ald0 d_X8_count_99 (fun v7 => ?_)
    exact zg_iretK d_X8_count_100 rfl ⟨Nat.le_of_ble_eq_true rfl, Nat.le_of_ble_eq_true rfl⟩ (fun q => q)
  refine zg_if (fun n33 => ?_) (fun n33 => ?_)
  · refine zg_tabE n33 d_X8_count_6 (by decide) (by decide) (off := 95) rfl (tgt := 101) (by decide) ?_
    refine zg_aload_n 0 rfl d_X8_count_101 ?_
    refine zg_getR d_X8_count_102 zc_8 (by decide) fl_X8_13 (fun v8 => ?_)
    refine zg_iconst 3 rfl d_X8_count_105 ?_
    refine zg_ald0 d_X8_count_106 (fun v9 => ?_)
    exact zg_iretK d_X8_count_107 rfl ⟨Nat.le_of_ble_eq_true rfl, Nat.le_of_ble_eq_true rfl⟩ (fun q => q)
  refine zg_if (fun n34 => ?_) (fun n34 => ?_)
  · refine zg_tabE n34 d_X8_count_6 (by decide) (by decide) (off := 102) rfl (tgt := 108) (by decide) ?_
    refine zg_aload_n 0 rfl d_X8_count_108 ?_
    refine zg_getR d_X8_count_109 zc_8 (by decide) fl_X8_13 (fun v10 => ?_)
    refine zg_bipush 7 rfl d_X8_count_112 ?_
    refine zg_ald0 d_X8_count_114 (fun v11 => ?_)
    exact zg_iretK d_X8_count_115 rfl ⟨Nat.le_of_ble_eq_true rfl, Nat.le_of_ble_eq_true rfl⟩ (fun q => q)
  refine zg_if (fun n35 => ?_) (fun n35 => ?_)
  · refine zg_tabE n35 d_X8_count_6 (by decide) (by decide) (off := 110) rfl (tgt := 116) (by decide) ?_
    refine zg_aload_n 0 rfl d_X8_count_116 ?_
    refine zg_getR d_X8_count_117 zc_8 (by decide) fl_X8_75 (fun v12 => ?_)
    refine zg_iconst 0 rfl d_X8_count_120 ?_
    refine zg_ald0 d_X8_count_121 (fun v13 => ?_)
    exact zg_iretK d_X8_count_122 rfl ⟨Nat.le_of_ble_eq_true rfl, Nat.le_of_ble_eq_true rfl⟩ (fun q => q)
  refine zg_if (fun n36 => ?_) (fun n36 => ?_)
  · refine zg_tabE n36 d_X8_count_6 (by decide) (by decide) (off := 117) rfl (tgt := 123) (by decide) ?_
    refine zg_aload_n 0 rfl d_X8_count_123 ?_
    refine zg_iconst 0 rfl d_X8_count_124 ?_
    refine zg_cVi (b := a0) (As := [.int 0]) (rest := []) (0, 0) d_X8_count_125 zc_8 rfl cw_X8_397 wi_X8_windIn ws_X8_windIn rfl rfl (Nat.le_of_ble_eq_true rfl) (by decide) (by decide) ⟨by decide, by decide⟩ rfl (t_X8_windIn a0 0 h1) (fun v15 h14 => ?_)
    exact zg_iretK d_X8_count_128 rfl ⟨Nat.le_of_ble_eq_true rfl, Nat.le_of_ble_eq_true rfl⟩ (fun q => q)
  refine zg_if (fun n37 => ?_) (fun n37 => ?_)
  · refine zg_tabE n37 d_X8_count_6 (by decide) (by decide) (off := 123) rfl (tgt := 129) (by decide) ?_
    refine zg_aload_n 0 rfl d_X8_count_129 ?_
    refine zg_iconst 0 rfl d_X8_count_130 ?_
    refine zg_cVi (b := a0) (As := [.int 0]) (rest := []) (0, 0) d_X8_count_131 zc_8 rfl cw_X8_363 wi_X8_upMany ws_X8_upMany rfl rfl (Nat.le_of_ble_eq_true rfl) (by decide) (by decide) ⟨by decide, by decide⟩ rfl (t_X8_upMany a0 0 h1) (fun v17 h16 => ?_)
    exact zg_iretK d_X8_count_134 rfl ⟨Nat.le_of_ble_eq_true rfl, Nat.le_of_ble_eq_true rfl⟩ (fun q => q)
  refine zg_if (fun n38 => ?_) (fun n38 => ?_)
  · refine zg_tabE n38 d_X8_count_6 (by decide) (by decide) (off := 129) rfl (tgt := 135) (by decide) ?_
    refine zg_aload_n 0 rfl d_X8_count_135 ?_
    refine zg_iconst 0 rfl d_X8_count_136 ?_
    refine zg_iconst 0 rfl d_X8_count_137 ?_
    refine zg_cVi (b := a0) (As := [.int 0, .int 0]) (rest := []) (0, 0) d_X8_count_138 zc_8 rfl cw_X8_459 wi_X8_howMany ws_X8_howMany rfl rfl (Nat.le_of_ble_eq_true rfl) (by decide) (by decide) ⟨by decide, by decide⟩ rfl (t_X8_howMany a0 0 0 h1) (fun v19 h18 => ?_)
    exact zg_iretK d_X8_count_141 rfl ⟨Nat.le_of_ble_eq_true rfl, Nat.le_of_ble_eq_true rfl⟩ (fun q => q)
  refine zg_if (fun n39 => ?_) (fun n39 => ?_)
  · refine zg_tabE n39 d_X8_count_6 (by decide) (by decide) (off := 136) rfl (tgt := 142) (by decide) ?_
    refine zg_aload_n 0 rfl d_X8_count_142 ?_
    refine zg_iconst 0 rfl d_X8_count_143 ?_
    refine zg_iconst 2 rfl d_X8_count_144 ?_
    refine zg_cVi (b := a0) (As := [.int 0, .int 2]) (rest := []) (0, 0) d_X8_count_145 zc_8 rfl cw_X8_459 wi_X8_howMany ws_X8_howMany rfl rfl (Nat.le_of_ble_eq_true rfl) (by decide) (by decide) ⟨by decide, by decide⟩ rfl (t_X8_howMany a0 0 2 h1) (fun v21 h20 => ?_)
    exact zg_iretK d_X8_count_148 rfl ⟨Nat.le_of_ble_eq_true rfl, Nat.le_of_ble_eq_true rfl⟩ (fun q => q)
  refine zg_if (fun n40 => ?_) (fun n40 => ?_)
  · refine zg_tabE n40 d_X8_count_6 (by decide) (by decide) (off := 143) rfl (tgt := 149) (by decide) ?_
    refine zg_aload_n 0 rfl d_X8_count_149 ?_
    refine zg_iconst 0 rfl d_X8_count_150 ?_
    refine zg_cVi (b := a0) (As := [.int 0]) (rest := []) (0, 0) d_X8_count_151 zc_8 rfl cw_X8_453 wi_X8_rainAll ws_X8_rainAll rfl rfl (Nat.le_of_ble_eq_true rfl) (by decide) (by decide) ⟨by decide, by decide⟩ rfl (t_X8_rainAll a0 0 h1) (fun v23 h22 => ?_)
    exact zg_iretK d_X8_count_154 rfl ⟨Nat.le_of_ble_eq_true rfl, Nat.le_of_ble_eq_true rfl⟩ (fun q => q)
  refine zg_if (fun n41 => ?_) (fun n41 => ?_)
  · refine zg_tabE n41 d_X8_count_6 (by decide) (by decide) (off := 149) rfl (tgt := 155) (by decide) ?_
    refine zg_aload_n 0 rfl d_X8_count_155 ?_
    refine zg_iconst 0 rfl d_X8_count_156 ?_
    refine zg_cVi (b := a0) (As := [.int 0]) (rest := []) (0, 0) d_X8_count_157 zc_8 rfl cw_X8_456 wi_X8_marksAll ws_X8_marksAll rfl rfl (Nat.le_of_ble_eq_true rfl) (by decide) (by decide) ⟨by decide, by decide⟩ rfl (t_X8_marksAll a0 0 h1) (fun v25 h24 => ?_)
    exact zg_iretK d_X8_count_160 rfl ⟨Nat.le_of_ble_eq_true rfl, Nat.le_of_ble_eq_true rfl⟩ (fun q => q)
  refine zg_if (fun n42 => ?_) (fun n42 => ?_)
  · refine zg_tabE n42 d_X8_count_6 (by decide) (by decide) (off := 155) rfl (tgt := 161) (by decide) ?_
    refine zg_aload_n 0 rfl d_X8_count_161 ?_
    refine zg_getI d_X8_count_162 zc_8 (by decide) fl_X8_304 (fun v26 => ?_)
    exact zg_iretK d_X8_count_165 rfl ⟨Nat.le_of_ble_eq_true rfl, Nat.le_of_ble_eq_true rfl⟩ (fun q => q)
  refine zg_if (fun n43 => ?_) (fun n43 => ?_)
  · refine zg_tabE n43 d_X8_count_6 (by decide) (by decide) (off := 160) rfl (tgt := 166) (by decide) ?_
    refine zg_aload_n 0 rfl d_X8_count_166 ?_
    refine zg_cVi (b := a0) (As := []) (rest := []) (0, 0) d_X8_count_167 zc_8 rfl cw_X8_507 wi_X8_knownMany ws_X8_knownMany rfl rfl (Nat.le_of_ble_eq_true rfl) (by decide) (by decide) ⟨by decide, by decide⟩ rfl (t_X8_knownMany a0 h1) (fun v28 h27 => ?_)
    exact zg_iretK d_X8_count_170 rfl ⟨Nat.le_of_ble_eq_true rfl, Nat.le_of_ble_eq_true rfl⟩ (fun q => q)
  refine zg_if (fun n44 => ?_) (fun n44 => ?_)
  · refine zg_tabE n44 d_X8_count_6 (by decide) (by decide) (off := 165) rfl (tgt := 171) (by decide) ?_
    refine zg_aload_n 0 rfl d_X8_count_171 ?_
    refine zg_getI d_X8_count_172 zc_8 (by decide) fl_X8_311 (fun v29 => ?_)
    exact zg_iretK d_X8_count_175 rfl ⟨Nat.le_of_ble_eq_true rfl, Nat.le_of_ble_eq_true rfl⟩ (fun q => q)
  refine zg_tabO d_X8_count_6 (by have q0 := lv_neT n30 (a := 0) rfl; have q1 := lv_neT n31 (a := 1) rfl; have q2 := lv_neT n32 (a := 2) rfl; have q3 := lv_neT n33 (a := 3) rfl; have q4 := lv_neT n34 (a := 4) rfl; have q5 := lv_neT n35 (a := 5) rfl; have q6 := lv_neT n36 (a := 6) rfl; have q7 := lv_neT n37 (a := 7) rfl; have q8 := lv_neT n38 (a := 8) rfl; have q9 := lv_neT n39 (a := 9) rfl; have q10 := lv_neT n40 (a := 10) rfl; have q11 := lv_neT n41 (a := 11) rfl; have q12 := lv_neT n42 (a := 12) rfl; have q13 := lv_neT n43 (a := 13) rfl; have q14 := lv_neT n44 (a := 14) rfl; omega) (tgt := 176) (by decide) ?_
  refine zg_iconst (-1) rfl d_X8_count_176 ?_
  exact zg_iretK d_X8_count_177 rfl ⟨Nat.le_of_ble_eq_true rfl, Nat.le_of_ble_eq_true rfl⟩ (fun q => q)
abbrev M_X8_fault : zMt := (RX8, cX8_fault, 2, 1, 60, (some .int), "fault", 0, 0)
theorem d_X8_fault_0 : zDc M_X8_fault 0 (.aload_n 0) 1 1 := ⟨by decide +kernel, rfl⟩
theorem d_X8_fault_1 : zDc M_X8_fault 1 (.iconst 0) 1 2 := ⟨by decide +kernel, rfl⟩
theorem d_X8_fault_2 : zDc M_X8_fault 2 (.putfield 151) 3 5 := ⟨by decide +kernel, rfl⟩
theorem d_X8_fault_5 : zDc M_X8_fault 5 (.iload_n 1) 1 6 := ⟨by decide +kernel, rfl⟩
theorem d_X8_fault_6 : zDj M_X8_fault 6 (.ifCond .ne 10) 10 9 16 := ⟨by decide +kernel, rfl, by decide⟩
theorem d_X8_fault_9 : zDc M_X8_fault 9 (.aload_n 0) 1 10 := ⟨by decide +kernel, rfl⟩
theorem d_X8_fault_10 : zDc M_X8_fault 10 (.getfield 297) 3 13 := ⟨by decide +kernel, rfl⟩
theorem d_X8_fault_13 : zDj M_X8_fault 13 (.goto 16) 16 16 29 := ⟨by decide +kernel, rfl, by decide⟩
theorem d_X8_fault_16 : zDc M_X8_fault 16 (.iload_n 1) 1 17 := ⟨by decide +kernel, rfl⟩
theorem d_X8_fault_17 : zDc M_X8_fault 17 (.iconst 1) 1 18 := ⟨by decide +kernel, rfl⟩
theorem d_X8_fault_18 : zDj M_X8_fault 18 (.if_icmp .ne 10) 10 21 28 := ⟨by decide +kernel, rfl, by decide⟩
theorem d_X8_fault_21 : zDc M_X8_fault 21 (.aload_n 0) 1 22 := ⟨by decide +kernel, rfl⟩
theorem d_X8_fault_22 : zDc M_X8_fault 22 (.getfield 64) 3 25 := ⟨by decide +kernel, rfl⟩
theorem d_X8_fault_25 : zDj M_X8_fault 25 (.goto 4) 4 28 29 := ⟨by decide +kernel, rfl, by decide⟩
theorem d_X8_fault_28 : zDc M_X8_fault 28 (.iconst (-1)) 1 29 := ⟨by decide +kernel, rfl⟩
theorem d_X8_fault_29 : zDc M_X8_fault 29 (.ireturn) 1 30 := ⟨by decide +kernel, rfl⟩
def f_X8_fault (a0 : Nat) (a1 : Int32) (h0 : zHp) : Option (Int32 × zHp) :=
  zob (zpV h0 a0 8 0 (.int 0)) (fun h1 =>
  if a1 = 0 then
  zob (zgI h1 a0 8 29) (fun v2 =>
  some (v2, h1))
  else
  if a1 = 1 then
  zob (zgI h1 a0 8 30) (fun v3 =>
  some (v3, h1))
  else
  some ((-1), h1))
set_option maxRecDepth 100000 in
set_option maxHeartbeats 4000000 in
theorem t_X8_fault (a0 : Nat) (a1 : Int32) (h0 : zHp) : ∀ (r : Int32) (h' : zHp), f_X8_fault a0 a1 h0 = some (r, h') → zCt yX8_fault (.code yX8_fault cX8_fault 2 (some .int)) 1 60 0 0 [.ref a0, .int a1] h0 (some (.int r)) h' := by
  refine zct_of M_X8_fault yX8_fault (by decide) rfl rfl [.ref a0, .int a1] h0 (Nat.le_of_ble_eq_true rfl) (fun r => some (.int r)) (fun X => ?_)
  show zG X M_X8_fault (0, 0) 0 [(0, .ref a0), (1, .int a1)] [] h0 (f_X8_fault a0 a1 h0) (fun (r : Int32) h' => zKe X (some (.int r)) h')
  unfold f_X8_fault
  refine zg_aload_n 0 rfl d_X8_fault_0 ?_
  refine zg_iconst 0 rfl d_X8_fault_1 ?_
  refine zg_putV d_X8_fault_2 zc_8 (by decide) fl_X8_151 rfl rfl rfl (fun h1 => ?_)
  refine zg_iload_n 1 rfl d_X8_fault_5 ?_
  refine zg_if_ne d_X8_fault_6 ?_ ?_
  · refine zg_aload_n 0 rfl d_X8_fault_9 ?_
    refine zg_getI d_X8_fault_10 zc_8 (by decide) fl_X8_297 (fun v2 => ?_)
    refine zg_goto d_X8_fault_13 ?_
    exact zg_iretK d_X8_fault_29 rfl ⟨Nat.le_of_ble_eq_true rfl, Nat.le_of_ble_eq_true rfl⟩ (fun q => q)
  · refine zg_iload_n 1 rfl d_X8_fault_16 ?_
    refine zg_iconst 1 rfl d_X8_fault_17 ?_
    refine zg_icmp_ne d_X8_fault_18 ?_ ?_
    · refine zg_aload_n 0 rfl d_X8_fault_21 ?_
      refine zg_getI d_X8_fault_22 zc_8 (by decide) fl_X8_64 (fun v3 => ?_)
      refine zg_goto d_X8_fault_25 ?_
      exact zg_iretK d_X8_fault_29 rfl ⟨Nat.le_of_ble_eq_true rfl, Nat.le_of_ble_eq_true rfl⟩ (fun q => q)
    · refine zg_iconst (-1) rfl d_X8_fault_28 ?_
      exact zg_iretK d_X8_fault_29 rfl ⟨Nat.le_of_ble_eq_true rfl, Nat.le_of_ble_eq_true rfl⟩ (fun q => q)
abbrev M_X8_feed : zMt := (RX8, cX8_feed, 8, 1, 60, (some .int), "feed", 0, 0)
theorem d_X8_feed_0 : zDc M_X8_feed 0 (.aload_n 0) 1 1 := ⟨by decide +kernel, rfl⟩
theorem d_X8_feed_1 : zDc M_X8_feed 1 (.iconst 0) 1 2 := ⟨by decide +kernel, rfl⟩
theorem d_X8_feed_2 : zDc M_X8_feed 2 (.putfield 151) 3 5 := ⟨by decide +kernel, rfl⟩
theorem d_X8_feed_5 : zDc M_X8_feed 5 (.aload_n 0) 1 6 := ⟨by decide +kernel, rfl⟩
theorem d_X8_feed_6 : zDc M_X8_feed 6 (.getfield 154) 3 9 := ⟨by decide +kernel, rfl⟩
theorem d_X8_feed_9 : zDc M_X8_feed 9 (.sipush 680) 3 12 := ⟨by decide +kernel, rfl⟩
theorem d_X8_feed_12 : zDj M_X8_feed 12 (.if_icmp .le 5) 5 15 17 := ⟨by decide +kernel, rfl, by decide⟩
theorem d_X8_feed_15 : zDc M_X8_feed 15 (.iconst (-1)) 1 16 := ⟨by decide +kernel, rfl⟩
theorem d_X8_feed_16 : zDc M_X8_feed 16 (.ireturn) 1 17 := ⟨by decide +kernel, rfl⟩
theorem d_X8_feed_17 : zDc M_X8_feed 17 (.iconst 0) 1 18 := ⟨by decide +kernel, rfl⟩
theorem d_X8_feed_18 : zDc M_X8_feed 18 (.istore 6) 2 20 := ⟨by decide +kernel, rfl⟩
theorem d_X8_feed_20 : zDc M_X8_feed 20 (.iload 6) 2 22 := ⟨by decide +kernel, rfl⟩
theorem d_X8_feed_22 : zDc M_X8_feed 22 (.bipush 20) 2 24 := ⟨by decide +kernel, rfl⟩
theorem d_X8_feed_24 : zDj M_X8_feed 24 (.if_icmp .ge 86) 86 27 110 := ⟨by decide +kernel, rfl, by decide⟩
theorem d_X8_feed_27 : zDc M_X8_feed 27 (.iload 6) 2 29 := ⟨by decide +kernel, rfl⟩
theorem d_X8_feed_29 : zDc M_X8_feed 29 (.iconst 4) 1 30 := ⟨by decide +kernel, rfl⟩
theorem d_X8_feed_30 : zDj M_X8_feed 30 (.if_icmp .ge 7) 7 33 37 := ⟨by decide +kernel, rfl, by decide⟩
theorem d_X8_feed_33 : zDc M_X8_feed 33 (.iload_n 1) 1 34 := ⟨by decide +kernel, rfl⟩
theorem d_X8_feed_34 : zDj M_X8_feed 34 (.goto 39) 39 37 73 := ⟨by decide +kernel, rfl, by decide⟩
theorem d_X8_feed_37 : zDc M_X8_feed 37 (.iload 6) 2 39 := ⟨by decide +kernel, rfl⟩
theorem d_X8_feed_39 : zDc M_X8_feed 39 (.bipush 8) 2 41 := ⟨by decide +kernel, rfl⟩
theorem d_X8_feed_41 : zDj M_X8_feed 41 (.if_icmp .ge 7) 7 44 48 := ⟨by decide +kernel, rfl, by decide⟩
theorem d_X8_feed_44 : zDc M_X8_feed 44 (.iload_n 2) 1 45 := ⟨by decide +kernel, rfl⟩
theorem d_X8_feed_45 : zDj M_X8_feed 45 (.goto 28) 28 48 73 := ⟨by decide +kernel, rfl, by decide⟩
theorem d_X8_feed_48 : zDc M_X8_feed 48 (.iload 6) 2 50 := ⟨by decide +kernel, rfl⟩
theorem d_X8_feed_50 : zDc M_X8_feed 50 (.bipush 12) 2 52 := ⟨by decide +kernel, rfl⟩
theorem d_X8_feed_52 : zDj M_X8_feed 52 (.if_icmp .ge 7) 7 55 59 := ⟨by decide +kernel, rfl, by decide⟩
theorem d_X8_feed_55 : zDc M_X8_feed 55 (.iload_n 3) 1 56 := ⟨by decide +kernel, rfl⟩
theorem d_X8_feed_56 : zDj M_X8_feed 56 (.goto 17) 17 59 73 := ⟨by decide +kernel, rfl, by decide⟩
theorem d_X8_feed_59 : zDc M_X8_feed 59 (.iload 6) 2 61 := ⟨by decide +kernel, rfl⟩
theorem d_X8_feed_61 : zDc M_X8_feed 61 (.bipush 16) 2 63 := ⟨by decide +kernel, rfl⟩
theorem d_X8_feed_63 : zDj M_X8_feed 63 (.if_icmp .ge 8) 8 66 71 := ⟨by decide +kernel, rfl, by decide⟩
theorem d_X8_feed_66 : zDc M_X8_feed 66 (.iload 4) 2 68 := ⟨by decide +kernel, rfl⟩
theorem d_X8_feed_68 : zDj M_X8_feed 68 (.goto 5) 5 71 73 := ⟨by decide +kernel, rfl, by decide⟩
theorem d_X8_feed_71 : zDc M_X8_feed 71 (.iload 5) 2 73 := ⟨by decide +kernel, rfl⟩
theorem d_X8_feed_73 : zDc M_X8_feed 73 (.istore 7) 2 75 := ⟨by decide +kernel, rfl⟩
theorem d_X8_feed_75 : zDc M_X8_feed 75 (.aload_n 0) 1 76 := ⟨by decide +kernel, rfl⟩
theorem d_X8_feed_76 : zDc M_X8_feed 76 (.getfield 7) 3 79 := ⟨by decide +kernel, rfl⟩
theorem d_X8_feed_79 : zDc M_X8_feed 79 (.aload_n 0) 1 80 := ⟨by decide +kernel, rfl⟩
theorem d_X8_feed_80 : zDc M_X8_feed 80 (.getfield 154) 3 83 := ⟨by decide +kernel, rfl⟩
theorem d_X8_feed_83 : zDc M_X8_feed 83 (.iload 6) 2 85 := ⟨by decide +kernel, rfl⟩
theorem d_X8_feed_85 : zDc M_X8_feed 85 (.iadd) 1 86 := ⟨by decide +kernel, rfl⟩
theorem d_X8_feed_86 : zDc M_X8_feed 86 (.iload 7) 2 88 := ⟨by decide +kernel, rfl⟩
theorem d_X8_feed_88 : zDc M_X8_feed 88 (.bipush 24) 2 90 := ⟨by decide +kernel, rfl⟩
theorem d_X8_feed_90 : zDc M_X8_feed 90 (.bipush 8) 2 92 := ⟨by decide +kernel, rfl⟩
theorem d_X8_feed_92 : zDc M_X8_feed 92 (.iload 6) 2 94 := ⟨by decide +kernel, rfl⟩
theorem d_X8_feed_94 : zDc M_X8_feed 94 (.iconst 4) 1 95 := ⟨by decide +kernel, rfl⟩
theorem d_X8_feed_95 : zDc M_X8_feed 95 (.irem) 1 96 := ⟨by decide +kernel, rfl⟩
theorem d_X8_feed_96 : zDc M_X8_feed 96 (.imul) 1 97 := ⟨by decide +kernel, rfl⟩
theorem d_X8_feed_97 : zDc M_X8_feed 97 (.isub) 1 98 := ⟨by decide +kernel, rfl⟩
theorem d_X8_feed_98 : zDc M_X8_feed 98 (.ishr) 1 99 := ⟨by decide +kernel, rfl⟩
theorem d_X8_feed_99 : zDc M_X8_feed 99 (.sipush 255) 3 102 := ⟨by decide +kernel, rfl⟩
theorem d_X8_feed_102 : zDc M_X8_feed 102 (.iand) 1 103 := ⟨by decide +kernel, rfl⟩
theorem d_X8_feed_103 : zDc M_X8_feed 103 (.iastore) 1 104 := ⟨by decide +kernel, rfl⟩
theorem d_X8_feed_104 : zDc M_X8_feed 104 (.iinc 6 1) 3 107 := ⟨by decide +kernel, rfl⟩
theorem d_X8_feed_107 : zDj M_X8_feed 107 (.goto (-87)) (-87) 110 20 := ⟨by decide +kernel, rfl, by decide⟩
theorem d_X8_feed_110 : zDc M_X8_feed 110 (.aload_n 0) 1 111 := ⟨by decide +kernel, rfl⟩
theorem d_X8_feed_111 : zDc M_X8_feed 111 (.dup) 1 112 := ⟨by decide +kernel, rfl⟩
theorem d_X8_feed_112 : zDc M_X8_feed 112 (.getfield 154) 3 115 := ⟨by decide +kernel, rfl⟩
theorem d_X8_feed_115 : zDc M_X8_feed 115 (.bipush 20) 2 117 := ⟨by decide +kernel, rfl⟩
theorem d_X8_feed_117 : zDc M_X8_feed 117 (.iadd) 1 118 := ⟨by decide +kernel, rfl⟩
theorem d_X8_feed_118 : zDc M_X8_feed 118 (.putfield 154) 3 121 := ⟨by decide +kernel, rfl⟩
theorem d_X8_feed_121 : zDc M_X8_feed 121 (.aload_n 0) 1 122 := ⟨by decide +kernel, rfl⟩
theorem d_X8_feed_122 : zDc M_X8_feed 122 (.getfield 154) 3 125 := ⟨by decide +kernel, rfl⟩
theorem d_X8_feed_125 : zDc M_X8_feed 125 (.ireturn) 1 126 := ⟨by decide +kernel, rfl⟩
def f_X8_feed (a0 : Nat) (a1 : Int32) (a2 : Int32) (a3 : Int32) (a4 : Int32) (a5 : Int32) (h0 : zHp) : Option (Int32 × zHp) :=
  zob (zpV h0 a0 8 0 (.int 0)) (fun h1 =>
  zob (zgI h1 a0 8 2) (fun v2 =>
  if v2 ≤ 680 then
  zbd (
  zlp (σ := Int32) (β := Int32) zLF (fun s3 h4 =>
  if 20 ≤ s3 then
  some ((.inr s3), h4)
  else
  zbd (α := Int32) (
  if 4 ≤ s3 then
  if 8 ≤ s3 then
  if 12 ≤ s3 then
  if 16 ≤ s3 then
  some (a5, h4)
  else
  some (a4, h4)
  else
  some (a3, h4)
  else
  some (a2, h4)
  else
  some (a1, h4)) (fun e7 h8 =>
  zob (zgR h8 a0 8 1) (fun v9 =>
  zob (zgI h8 a0 8 2) (fun v10 =>
  zob (zsI 0 h8 v9 (v10 + s3) ((e7 >>> ((24 - (8 * (zrm s3 4))) &&& 31)) &&& 255)) (fun h11 =>
  some ((.inl (s3 + 1)), h11)))))) 0 h1) (fun e5 h6 =>
  zob (zgI h6 a0 8 2) (fun v12 =>
  zob (zpV h6 a0 8 2 (.int (v12 + 20))) (fun h13 =>
  zob (zgI h13 a0 8 2) (fun v14 =>
  some (v14, h13)))))
  else
  some ((-1), h1)))
set_option maxRecDepth 100000 in
set_option maxHeartbeats 4000000 in
theorem t_X8_feed (a0 : Nat) (a1 : Int32) (a2 : Int32) (a3 : Int32) (a4 : Int32) (a5 : Int32) (h0 : zHp) : ∀ (r : Int32) (h' : zHp), f_X8_feed a0 a1 a2 a3 a4 a5 h0 = some (r, h') → zCt yX8_feed (.code yX8_feed cX8_feed 8 (some .int)) 1 60 0 0 [.ref a0, .int a1, .int a2, .int a3, .int a4, .int a5] h0 (some (.int r)) h' := by
  refine zct_of M_X8_feed yX8_feed (by decide) rfl rfl [.ref a0, .int a1, .int a2, .int a3, .int a4, .int a5] h0 (Nat.le_of_ble_eq_true rfl) (fun r => some (.int r)) (fun X => ?_)
  show zG X M_X8_feed (0, 0) 0 [(0, .ref a0), (1, .int a1), (2, .int a2), (3, .int a3), (4, .int a4), (5, .int a5)] [] h0 (f_X8_feed a0 a1 a2 a3 a4 a5 h0) (fun (r : Int32) h' => zKe X (some (.int r)) h')
  unfold f_X8_feed
  refine zg_aload_n 0 rfl d_X8_feed_0 ?_
  refine zg_iconst 0 rfl d_X8_feed_1 ?_
  refine zg_putV d_X8_feed_2 zc_8 (by decide) fl_X8_151 rfl rfl rfl (fun h1 => ?_)
  refine zg_aload_n 0 rfl d_X8_feed_5 ?_
  refine zg_getI d_X8_feed_6 zc_8 (by decide) fl_X8_154 (fun v2 => ?_)
  refine zg_sipush 680 rfl d_X8_feed_9 ?_
  refine zg_icmp_le d_X8_feed_12 ?_ ?_
  · refine zg_iconst 0 rfl d_X8_feed_17 ?_
    refine zg_istore [(6, .int 0), (0, .ref a0), (1, .int a1), (2, .int a2), (3, .int a3), (4, .int a4), (5, .int a5)] d_X8_feed_18 (by decide) rfl ?_
    refine zg_bd (E := 110) (el := (fun (e5 : Int32) => [(0, .ref a0), (1, .int a1), (2, .int a2), (3, .int a3), (4, .int a4), (5, .int a5), (6, .int e5)])) (es := fun _ => []) (zg_sub [1, 2, 3, 4, 5, 6, 0] rfl (zg_lp (el := (fun (s3 : Int32) => [(0, .ref a0), (1, .int a1), (2, .int a2), (3, .int a3), (4, .int a4), (5, .int a5), (6, .int s3)])) (fun s3 h4 => ?_) 0 h1)) (fun e5 h6 => ?_)
    · refine zg_iload 6 rfl d_X8_feed_20 ?_
      refine zg_bipush 20 rfl d_X8_feed_22 ?_
      refine zg_icmp_ge d_X8_feed_24 ?_ ?_
      · exact zg_finK (E := 0) [0, 1, 2, 3, 4, 5, 6] rfl rfl (fun q => q)
      · refine zg_iload 6 rfl d_X8_feed_27 ?_
        refine zg_iconst 4 rfl d_X8_feed_29 ?_
        refine zg_bd (E := 73) (el := (fun (e7 : Int32) => [(0, .ref a0), (1, .int a1), (2, .int a2), (3, .int a3), (4, .int a4), (5, .int a5), (6, .int s3)])) (es := (fun (e7 : Int32) => [.int e7])) ?_ (fun e7 h8 => ?_)
        · refine zg_icmp_ge d_X8_feed_30 ?_ ?_
          · refine zg_iload 6 rfl d_X8_feed_37 ?_
            refine zg_bipush 8 rfl d_X8_feed_39 ?_
            refine zg_icmp_ge d_X8_feed_41 ?_ ?_
            · refine zg_iload 6 rfl d_X8_feed_48 ?_
              refine zg_bipush 12 rfl d_X8_feed_50 ?_
              refine zg_icmp_ge d_X8_feed_52 ?_ ?_
              · refine zg_iload 6 rfl d_X8_feed_59 ?_
                refine zg_bipush 16 rfl d_X8_feed_61 ?_
                refine zg_icmp_ge d_X8_feed_63 ?_ ?_
                · refine zg_iload 5 rfl d_X8_feed_71 ?_
                  exact zg_finK (E := 0) [0, 1, 2, 3, 4, 5, 6] rfl rfl (fun q => q)
                · refine zg_iload 4 rfl d_X8_feed_66 ?_
                  refine zg_goto d_X8_feed_68 ?_
                  exact zg_finK (E := 0) [0, 1, 2, 3, 4, 5, 6] rfl rfl (fun q => q)
              · refine zg_iload_n 3 rfl d_X8_feed_55 ?_
                refine zg_goto d_X8_feed_56 ?_
                exact zg_finK (E := 0) [0, 1, 2, 3, 4, 5, 6] rfl rfl (fun q => q)
            · refine zg_iload_n 2 rfl d_X8_feed_44 ?_
              refine zg_goto d_X8_feed_45 ?_
              exact zg_finK (E := 0) [0, 1, 2, 3, 4, 5, 6] rfl rfl (fun q => q)
          · refine zg_iload_n 1 rfl d_X8_feed_33 ?_
            refine zg_goto d_X8_feed_34 ?_
            exact zg_finK (E := 0) [0, 1, 2, 3, 4, 5, 6] rfl rfl (fun q => q)
        · refine zg_istore [(7, .int e7), (0, .ref a0), (1, .int a1), (2, .int a2), (3, .int a3), (4, .int a4), (5, .int a5), (6, .int s3)] d_X8_feed_73 (by decide) rfl ?_
          refine zg_aload_n 1 rfl d_X8_feed_75 ?_
          refine zg_getR d_X8_feed_76 zc_8 (by decide) fl_X8_7 (fun v9 => ?_)
          refine zg_aload_n 1 rfl d_X8_feed_79 ?_
          refine zg_getI d_X8_feed_80 zc_8 (by decide) fl_X8_154 (fun v10 => ?_)
          refine zg_iload 7 rfl d_X8_feed_83 ?_
          refine zg_iadd d_X8_feed_85 ?_
          refine zg_iload 0 rfl d_X8_feed_86 ?_
          refine zg_bipush 24 rfl d_X8_feed_88 ?_
          refine zg_bipush 8 rfl d_X8_feed_90 ?_
          refine zg_iload 7 rfl d_X8_feed_92 ?_
          refine zg_iconst 4 rfl d_X8_feed_94 ?_
          refine zg_irem (by decide) d_X8_feed_95 ?_
          refine zg_imul d_X8_feed_96 ?_
          refine zg_isub d_X8_feed_97 ?_
          refine zg_ishr d_X8_feed_98 ?_
          refine zg_sipush 255 rfl d_X8_feed_99 ?_
          refine zg_iand d_X8_feed_102 ?_
          refine zg_ast0 d_X8_feed_103 (fun h11 => ?_)
          refine zg_iinc 7 (s3 + 1) [(6, .int (s3 + 1)), (7, .int e7), (0, .ref a0), (1, .int a1), (2, .int a2), (3, .int a3), (4, .int a4), (5, .int a5)] d_X8_feed_104 rfl rfl (by decide) rfl ?_
          refine zg_goto d_X8_feed_107 ?_
          exact zg_finK (E := 0) [2, 3, 4, 5, 6, 7, 0] rfl rfl (fun q => q)
    · refine zg_aload_n 0 rfl d_X8_feed_110 ?_
      refine zg_dup rfl d_X8_feed_111 ?_
      refine zg_getI d_X8_feed_112 zc_8 (by decide) fl_X8_154 (fun v12 => ?_)
      refine zg_bipush 20 rfl d_X8_feed_115 ?_
      refine zg_iadd d_X8_feed_117 ?_
      refine zg_putV d_X8_feed_118 zc_8 (by decide) fl_X8_154 rfl rfl rfl (fun h13 => ?_)
      refine zg_aload_n 0 rfl d_X8_feed_121 ?_
      refine zg_getI d_X8_feed_122 zc_8 (by decide) fl_X8_154 (fun v14 => ?_)
      exact zg_iretK d_X8_feed_125 rfl ⟨Nat.le_of_ble_eq_true rfl, Nat.le_of_ble_eq_true rfl⟩ (fun q => q)
  · refine zg_iconst (-1) rfl d_X8_feed_15 ?_
    exact zg_iretK d_X8_feed_16 rfl ⟨Nat.le_of_ble_eq_true rfl, Nat.le_of_ble_eq_true rfl⟩ (fun q => q)
abbrev M_X8_field : zMt := (RX8, cX8_field, 3, 2, 81, (some .int), "field", 0, 0)
theorem d_X8_field_0 : zDc M_X8_field 0 (.aload_n 0) 1 1 := ⟨by decide +kernel, rfl⟩
theorem d_X8_field_1 : zDc M_X8_field 1 (.iconst 0) 1 2 := ⟨by decide +kernel, rfl⟩
theorem d_X8_field_2 : zDc M_X8_field 2 (.putfield 151) 3 5 := ⟨by decide +kernel, rfl⟩
theorem d_X8_field_5 : zDc M_X8_field 5 (.aload_n 0) 1 6 := ⟨by decide +kernel, rfl⟩
theorem d_X8_field_6 : zDc M_X8_field 6 (.iload_n 1) 1 7 := ⟨by decide +kernel, rfl⟩
theorem d_X8_field_7 : zDc M_X8_field 7 (.invokevirtual 431) 3 10 := ⟨by decide +kernel, rfl⟩
theorem d_X8_field_10 : zDj M_X8_field 10 (.ifCond .ne 5) 5 13 15 := ⟨by decide +kernel, rfl, by decide⟩
theorem d_X8_field_13 : zDc M_X8_field 13 (.iconst (-1)) 1 14 := ⟨by decide +kernel, rfl⟩
theorem d_X8_field_14 : zDc M_X8_field 14 (.ireturn) 1 15 := ⟨by decide +kernel, rfl⟩
theorem d_X8_field_15 : zDc M_X8_field 15 (.iload_n 2) 1 16 := ⟨by decide +kernel, rfl⟩
theorem d_X8_field_16 : zDj M_X8_field 16 (.ifCond .ne 15) 15 19 31 := ⟨by decide +kernel, rfl, by decide⟩
theorem d_X8_field_19 : zDc M_X8_field 19 (.aload_n 0) 1 20 := ⟨by decide +kernel, rfl⟩
theorem d_X8_field_20 : zDc M_X8_field 20 (.getfield 22) 3 23 := ⟨by decide +kernel, rfl⟩
theorem d_X8_field_23 : zDc M_X8_field 23 (.iload_n 1) 1 24 := ⟨by decide +kernel, rfl⟩
theorem d_X8_field_24 : zDc M_X8_field 24 (.iaload) 1 25 := ⟨by decide +kernel, rfl⟩
theorem d_X8_field_25 : zDc M_X8_field 25 (.bipush 6) 2 27 := ⟨by decide +kernel, rfl⟩
theorem d_X8_field_27 : zDc M_X8_field 27 (.irem) 1 28 := ⟨by decide +kernel, rfl⟩
theorem d_X8_field_28 : zDj M_X8_field 28 (.goto 49) 49 31 77 := ⟨by decide +kernel, rfl, by decide⟩
theorem d_X8_field_31 : zDc M_X8_field 31 (.iload_n 2) 1 32 := ⟨by decide +kernel, rfl⟩
theorem d_X8_field_32 : zDc M_X8_field 32 (.iconst 1) 1 33 := ⟨by decide +kernel, rfl⟩
theorem d_X8_field_33 : zDj M_X8_field 33 (.if_icmp .ne 15) 15 36 48 := ⟨by decide +kernel, rfl, by decide⟩
theorem d_X8_field_36 : zDc M_X8_field 36 (.aload_n 0) 1 37 := ⟨by decide +kernel, rfl⟩
theorem d_X8_field_37 : zDc M_X8_field 37 (.getfield 22) 3 40 := ⟨by decide +kernel, rfl⟩
theorem d_X8_field_40 : zDc M_X8_field 40 (.iload_n 1) 1 41 := ⟨by decide +kernel, rfl⟩
theorem d_X8_field_41 : zDc M_X8_field 41 (.iaload) 1 42 := ⟨by decide +kernel, rfl⟩
theorem d_X8_field_42 : zDc M_X8_field 42 (.bipush 6) 2 44 := ⟨by decide +kernel, rfl⟩
theorem d_X8_field_44 : zDc M_X8_field 44 (.idiv) 1 45 := ⟨by decide +kernel, rfl⟩
theorem d_X8_field_45 : zDj M_X8_field 45 (.goto 32) 32 48 77 := ⟨by decide +kernel, rfl, by decide⟩
theorem d_X8_field_48 : zDc M_X8_field 48 (.iload_n 2) 1 49 := ⟨by decide +kernel, rfl⟩
theorem d_X8_field_49 : zDc M_X8_field 49 (.iconst 2) 1 50 := ⟨by decide +kernel, rfl⟩
theorem d_X8_field_50 : zDj M_X8_field 50 (.if_icmp .ne 12) 12 53 62 := ⟨by decide +kernel, rfl, by decide⟩
theorem d_X8_field_53 : zDc M_X8_field 53 (.aload_n 0) 1 54 := ⟨by decide +kernel, rfl⟩
theorem d_X8_field_54 : zDc M_X8_field 54 (.getfield 25) 3 57 := ⟨by decide +kernel, rfl⟩
theorem d_X8_field_57 : zDc M_X8_field 57 (.iload_n 1) 1 58 := ⟨by decide +kernel, rfl⟩
theorem d_X8_field_58 : zDc M_X8_field 58 (.iaload) 1 59 := ⟨by decide +kernel, rfl⟩
theorem d_X8_field_59 : zDj M_X8_field 59 (.goto 18) 18 62 77 := ⟨by decide +kernel, rfl, by decide⟩
theorem d_X8_field_62 : zDc M_X8_field 62 (.iload_n 2) 1 63 := ⟨by decide +kernel, rfl⟩
theorem d_X8_field_63 : zDc M_X8_field 63 (.iconst 3) 1 64 := ⟨by decide +kernel, rfl⟩
theorem d_X8_field_64 : zDj M_X8_field 64 (.if_icmp .ne 12) 12 67 76 := ⟨by decide +kernel, rfl, by decide⟩
theorem d_X8_field_67 : zDc M_X8_field 67 (.aload_n 0) 1 68 := ⟨by decide +kernel, rfl⟩
theorem d_X8_field_68 : zDc M_X8_field 68 (.getfield 102) 3 71 := ⟨by decide +kernel, rfl⟩
theorem d_X8_field_71 : zDc M_X8_field 71 (.iload_n 1) 1 72 := ⟨by decide +kernel, rfl⟩
theorem d_X8_field_72 : zDc M_X8_field 72 (.iaload) 1 73 := ⟨by decide +kernel, rfl⟩
theorem d_X8_field_73 : zDj M_X8_field 73 (.goto 4) 4 76 77 := ⟨by decide +kernel, rfl, by decide⟩
theorem d_X8_field_76 : zDc M_X8_field 76 (.iconst (-1)) 1 77 := ⟨by decide +kernel, rfl⟩
theorem d_X8_field_77 : zDc M_X8_field 77 (.ireturn) 1 78 := ⟨by decide +kernel, rfl⟩
def f_X8_field (a0 : Nat) (a1 : Int32) (a2 : Int32) (h0 : zHp) : Option (Int32 × zHp) :=
  zob (zpV h0 a0 8 0 (.int 0)) (fun h1 =>
  zbd (zcv 8 a0 h1 (f_X8_isField a0 a1 h1)) (fun v3 h2 =>
  if v3 = 0 then
  some ((-1), h2)
  else
  if a2 = 0 then
  zob (zgR h2 a0 8 6) (fun v4 =>
  zob (zaI 0 h2 v4 a1) (fun v5 =>
  some ((zrm v5 6), h2)))
  else
  if a2 = 1 then
  zob (zgR h2 a0 8 6) (fun v6 =>
  zob (zaI 0 h2 v6 a1) (fun v7 =>
  some ((v7 / 6), h2)))
  else
  if a2 = 2 then
  zob (zgR h2 a0 8 7) (fun v8 =>
  zob (zaI 0 h2 v8 a1) (fun v9 =>
  some (v9, h2)))
  else
  if a2 = 3 then
  zob (zgR h2 a0 8 45) (fun v10 =>
  zob (zaI 0 h2 v10 a1) (fun v11 =>
  some (v11, h2)))
  else
  some ((-1), h2)))
set_option maxRecDepth 100000 in
set_option maxHeartbeats 4000000 in
theorem t_X8_field (a0 : Nat) (a1 : Int32) (a2 : Int32) (h0 : zHp) : ∀ (r : Int32) (h' : zHp), f_X8_field a0 a1 a2 h0 = some (r, h') → zCt yX8_field (.code yX8_field cX8_field 3 (some .int)) 2 81 0 0 [.ref a0, .int a1, .int a2] h0 (some (.int r)) h' := by
  refine zct_of M_X8_field yX8_field (by decide) rfl rfl [.ref a0, .int a1, .int a2] h0 (Nat.le_of_ble_eq_true rfl) (fun r => some (.int r)) (fun X => ?_)
  show zG X M_X8_field (0, 0) 0 [(0, .ref a0), (1, .int a1), (2, .int a2)] [] h0 (f_X8_field a0 a1 a2 h0) (fun (r : Int32) h' => zKe X (some (.int r)) h')
  unfold f_X8_field
  refine zg_aload_n 0 rfl d_X8_field_0 ?_
  refine zg_iconst 0 rfl d_X8_field_1 ?_
  refine zg_putV d_X8_field_2 zc_8 (by decide) fl_X8_151 rfl rfl rfl (fun h1 => ?_)
  refine zg_aload_n 0 rfl d_X8_field_5 ?_
  refine zg_iload_n 1 rfl d_X8_field_6 ?_
  refine zg_cVi (b := a0) (As := [.int a1]) (rest := []) (0, 0) d_X8_field_7 zc_8 rfl cw_X8_431 wi_X8_isField ws_X8_isField rfl rfl (Nat.le_of_ble_eq_true rfl) (by decide) (by decide) ⟨by decide, by decide⟩ rfl (t_X8_isField a0 a1 h1) (fun v3 h2 => ?_)
  refine zg_if_ne d_X8_field_10 ?_ ?_
  · refine zg_iconst (-1) rfl d_X8_field_13 ?_
    exact zg_iretK d_X8_field_14 rfl ⟨Nat.le_of_ble_eq_true rfl, Nat.le_of_ble_eq_true rfl⟩ (fun q => q)
  · refine zg_iload_n 2 rfl d_X8_field_15 ?_
    refine zg_if_ne d_X8_field_16 ?_ ?_
    · refine zg_aload_n 0 rfl d_X8_field_19 ?_
      refine zg_getR d_X8_field_20 zc_8 (by decide) fl_X8_22 (fun v4 => ?_)
      refine zg_iload_n 1 rfl d_X8_field_23 ?_
      refine zg_ald0 d_X8_field_24 (fun v5 => ?_)
      refine zg_bipush 6 rfl d_X8_field_25 ?_
      refine zg_irem (by decide) d_X8_field_27 ?_
      refine zg_goto d_X8_field_28 ?_
      exact zg_iretK d_X8_field_77 rfl ⟨Nat.le_of_ble_eq_true rfl, Nat.le_of_ble_eq_true rfl⟩ (fun q => q)
    · refine zg_iload_n 2 rfl d_X8_field_31 ?_
      refine zg_iconst 1 rfl d_X8_field_32 ?_
      refine zg_icmp_ne d_X8_field_33 ?_ ?_
      · refine zg_aload_n 0 rfl d_X8_field_36 ?_
        refine zg_getR d_X8_field_37 zc_8 (by decide) fl_X8_22 (fun v6 => ?_)
        refine zg_iload_n 1 rfl d_X8_field_40 ?_
        refine zg_ald0 d_X8_field_41 (fun v7 => ?_)
        refine zg_bipush 6 rfl d_X8_field_42 ?_
        refine zg_idiv (by decide) d_X8_field_44 ?_
        refine zg_goto d_X8_field_45 ?_
        exact zg_iretK d_X8_field_77 rfl ⟨Nat.le_of_ble_eq_true rfl, Nat.le_of_ble_eq_true rfl⟩ (fun q => q)
      · refine zg_iload_n 2 rfl d_X8_field_48 ?_
        refine zg_iconst 2 rfl d_X8_field_49 ?_
        refine zg_icmp_ne d_X8_field_50 ?_ ?_
        · refine zg_aload_n 0 rfl d_X8_field_53 ?_
          refine zg_getR d_X8_field_54 zc_8 (by decide) fl_X8_25 (fun v8 => ?_)
          refine zg_iload_n 1 rfl d_X8_field_57 ?_
          refine zg_ald0 d_X8_field_58 (fun v9 => ?_)
          refine zg_goto d_X8_field_59 ?_
          exact zg_iretK d_X8_field_77 rfl ⟨Nat.le_of_ble_eq_true rfl, Nat.le_of_ble_eq_true rfl⟩ (fun q => q)
        · refine zg_iload_n 2 rfl d_X8_field_62 ?_
          refine zg_iconst 3 rfl d_X8_field_63 ?_
          refine zg_icmp_ne d_X8_field_64 ?_ ?_
          · refine zg_aload_n 0 rfl d_X8_field_67 ?_
            refine zg_getR d_X8_field_68 zc_8 (by decide) fl_X8_102 (fun v10 => ?_)
            refine zg_iload_n 1 rfl d_X8_field_71 ?_
            refine zg_ald0 d_X8_field_72 (fun v11 => ?_)
            refine zg_goto d_X8_field_73 ?_
            exact zg_iretK d_X8_field_77 rfl ⟨Nat.le_of_ble_eq_true rfl, Nat.le_of_ble_eq_true rfl⟩ (fun q => q)
          · refine zg_iconst (-1) rfl d_X8_field_76 ?_
            exact zg_iretK d_X8_field_77 rfl ⟨Nat.le_of_ble_eq_true rfl, Nat.le_of_ble_eq_true rfl⟩ (fun q => q)
abbrev M_X8_upIn : zMt := (RX8, cX8_upIn, 5, 2, 82, (some .int), "upIn", 0, 0)
theorem d_X8_upIn_0 : zDc M_X8_upIn 0 (.iconst 0) 1 1 := ⟨by decide +kernel, rfl⟩
theorem d_X8_upIn_1 : zDc M_X8_upIn 1 (.istore_n 3) 1 2 := ⟨by decide +kernel, rfl⟩
theorem d_X8_upIn_2 : zDc M_X8_upIn 2 (.iconst 0) 1 3 := ⟨by decide +kernel, rfl⟩
theorem d_X8_upIn_3 : zDc M_X8_upIn 3 (.istore 4) 2 5 := ⟨by decide +kernel, rfl⟩
theorem d_X8_upIn_5 : zDc M_X8_upIn 5 (.iload 4) 2 7 := ⟨by decide +kernel, rfl⟩
theorem d_X8_upIn_7 : zDc M_X8_upIn 7 (.aload_n 0) 1 8 := ⟨by decide +kernel, rfl⟩
theorem d_X8_upIn_8 : zDc M_X8_upIn 8 (.getfield 13) 3 11 := ⟨by decide +kernel, rfl⟩
theorem d_X8_upIn_11 : zDc M_X8_upIn 11 (.iconst 1) 1 12 := ⟨by decide +kernel, rfl⟩
theorem d_X8_upIn_12 : zDc M_X8_upIn 12 (.iaload) 1 13 := ⟨by decide +kernel, rfl⟩
theorem d_X8_upIn_13 : zDj M_X8_upIn 13 (.if_icmp .ge 46) 46 16 59 := ⟨by decide +kernel, rfl, by decide⟩
theorem d_X8_upIn_16 : zDc M_X8_upIn 16 (.iload_n 3) 1 17 := ⟨by decide +kernel, rfl⟩
theorem d_X8_upIn_17 : zDc M_X8_upIn 17 (.aload_n 0) 1 18 := ⟨by decide +kernel, rfl⟩
theorem d_X8_upIn_18 : zDc M_X8_upIn 18 (.iload_n 1) 1 19 := ⟨by decide +kernel, rfl⟩
theorem d_X8_upIn_19 : zDc M_X8_upIn 19 (.iload 4) 2 21 := ⟨by decide +kernel, rfl⟩
theorem d_X8_upIn_21 : zDc M_X8_upIn 21 (.invokevirtual 351) 3 24 := ⟨by decide +kernel, rfl⟩
theorem d_X8_upIn_24 : zDj M_X8_upIn 24 (.ifCond .eq 26) 26 27 50 := ⟨by decide +kernel, rfl, by decide⟩
theorem d_X8_upIn_27 : zDc M_X8_upIn 27 (.aload_n 0) 1 28 := ⟨by decide +kernel, rfl⟩
theorem d_X8_upIn_28 : zDc M_X8_upIn 28 (.getfield 81) 3 31 := ⟨by decide +kernel, rfl⟩
theorem d_X8_upIn_31 : zDc M_X8_upIn 31 (.bipush 8) 2 33 := ⟨by decide +kernel, rfl⟩
theorem d_X8_upIn_33 : zDc M_X8_upIn 33 (.iload_n 1) 1 34 := ⟨by decide +kernel, rfl⟩
theorem d_X8_upIn_34 : zDc M_X8_upIn 34 (.imul) 1 35 := ⟨by decide +kernel, rfl⟩
theorem d_X8_upIn_35 : zDc M_X8_upIn 35 (.iload 4) 2 37 := ⟨by decide +kernel, rfl⟩
theorem d_X8_upIn_37 : zDc M_X8_upIn 37 (.iadd) 1 38 := ⟨by decide +kernel, rfl⟩
theorem d_X8_upIn_38 : zDc M_X8_upIn 38 (.iaload) 1 39 := ⟨by decide +kernel, rfl⟩
theorem d_X8_upIn_39 : zDc M_X8_upIn 39 (.iload_n 2) 1 40 := ⟨by decide +kernel, rfl⟩
theorem d_X8_upIn_40 : zDj M_X8_upIn 40 (.if_icmp .ne 10) 10 43 50 := ⟨by decide +kernel, rfl, by decide⟩
theorem d_X8_upIn_43 : zDc M_X8_upIn 43 (.iconst 1) 1 44 := ⟨by decide +kernel, rfl⟩
theorem d_X8_upIn_44 : zDc M_X8_upIn 44 (.iload 4) 2 46 := ⟨by decide +kernel, rfl⟩
theorem d_X8_upIn_46 : zDc M_X8_upIn 46 (.ishl) 1 47 := ⟨by decide +kernel, rfl⟩
theorem d_X8_upIn_47 : zDj M_X8_upIn 47 (.goto 4) 4 50 51 := ⟨by decide +kernel, rfl, by decide⟩
theorem d_X8_upIn_50 : zDc M_X8_upIn 50 (.iconst 0) 1 51 := ⟨by decide +kernel, rfl⟩
theorem d_X8_upIn_51 : zDc M_X8_upIn 51 (.ior) 1 52 := ⟨by decide +kernel, rfl⟩
theorem d_X8_upIn_52 : zDc M_X8_upIn 52 (.istore_n 3) 1 53 := ⟨by decide +kernel, rfl⟩
theorem d_X8_upIn_53 : zDc M_X8_upIn 53 (.iinc 4 1) 3 56 := ⟨by decide +kernel, rfl⟩
theorem d_X8_upIn_56 : zDj M_X8_upIn 56 (.goto (-51)) (-51) 59 5 := ⟨by decide +kernel, rfl, by decide⟩
theorem d_X8_upIn_59 : zDc M_X8_upIn 59 (.iload_n 3) 1 60 := ⟨by decide +kernel, rfl⟩
theorem d_X8_upIn_60 : zDc M_X8_upIn 60 (.ireturn) 1 61 := ⟨by decide +kernel, rfl⟩
def f_X8_upIn (a0 : Nat) (a1 : Int32) (a2 : Int32) (h0 : zHp) : Option (Int32 × zHp) :=
  zbd (
  zlp (σ := (Int32 × Int32)) (β := (Int32 × Int32)) zLF (fun s1 h2 =>
  zob (zgR h2 a0 8 3) (fun v5 =>
  zob (zaI 0 h2 v5 1) (fun v6 =>
  if v6 ≤ s1.2 then
  some ((.inr (s1.1, s1.2)), h2)
  else
  zbd (zcv 8 a0 h2 (f_X8_isUp a0 a1 s1.2 h2)) (fun v8 h7 =>
  if v8 = 0 then
  some ((.inl ((s1.1 ||| 0), (s1.2 + 1))), h7)
  else
  zob (zgR h7 a0 8 38) (fun v9 =>
  zob (zaI 0 h7 v9 ((8 * a1) + s1.2)) (fun v10 =>
  if v10 = a2 then
  some ((.inl ((s1.1 ||| (1 <<< (s1.2 &&& 31))), (s1.2 + 1))), h7)
  else
  some ((.inl ((s1.1 ||| 0), (s1.2 + 1))), h7))))))) (0, 0) h0) (fun e3 h4 =>
  some (e3.1, h4))
set_option maxRecDepth 100000 in
set_option maxHeartbeats 4000000 in
theorem t_X8_upIn (a0 : Nat) (a1 : Int32) (a2 : Int32) (h0 : zHp) : ∀ (r : Int32) (h' : zHp), f_X8_upIn a0 a1 a2 h0 = some (r, h') → zCt yX8_upIn (.code yX8_upIn cX8_upIn 5 (some .int)) 2 82 0 0 [.ref a0, .int a1, .int a2] h0 (some (.int r)) h' := by
  refine zct_of M_X8_upIn yX8_upIn (by decide) rfl rfl [.ref a0, .int a1, .int a2] h0 (Nat.le_of_ble_eq_true rfl) (fun r => some (.int r)) (fun X => ?_)
  show zG X M_X8_upIn (0, 0) 0 [(0, .ref a0), (1, .int a1), (2, .int a2)] [] h0 (f_X8_upIn a0 a1 a2 h0) (fun (r : Int32) h' => zKe X (some (.int r)) h')
  unfold f_X8_upIn
  refine zg_iconst 0 rfl d_X8_upIn_0 ?_
  refine zg_istore_n [(3, .int 0), (0, .ref a0), (1, .int a1), (2, .int a2)] d_X8_upIn_1 rfl (by decide) rfl ?_
  refine zg_iconst 0 rfl d_X8_upIn_2 ?_
  refine zg_istore [(4, .int 0), (3, .int 0), (0, .ref a0), (1, .int a1), (2, .int a2)] d_X8_upIn_3 (by decide) rfl ?_
  refine zg_bd (E := 59) (el := (fun (e3 : (Int32 × Int32)) => [(0, .ref a0), (1, .int a1), (2, .int a2), (3, .int e3.1), (4, .int e3.2)])) (es := fun _ => []) (zg_sub [2, 3, 4, 1, 0] rfl (zg_lp (el := (fun (s1 : (Int32 × Int32)) => [(0, .ref a0), (1, .int a1), (2, .int a2), (3, .int s1.1), (4, .int s1.2)])) (fun s1 h2 => ?_) (0, 0) h0)) (fun e3 h4 => ?_)
  · refine zg_iload 4 rfl d_X8_upIn_5 ?_
    refine zg_aload_n 0 rfl d_X8_upIn_7 ?_
    refine zg_getR d_X8_upIn_8 zc_8 (by decide) fl_X8_13 (fun v5 => ?_)
    refine zg_iconst 1 rfl d_X8_upIn_11 ?_
    refine zg_ald0 d_X8_upIn_12 (fun v6 => ?_)
    refine zg_icmp_ge d_X8_upIn_13 ?_ ?_
    · exact zg_finK (E := 0) [0, 1, 2, 3, 4] rfl rfl (fun q => q)
    · refine zg_iload_n 3 rfl d_X8_upIn_16 ?_
      refine zg_aload_n 0 rfl d_X8_upIn_17 ?_
      refine zg_iload_n 1 rfl d_X8_upIn_18 ?_
      refine zg_iload 4 rfl d_X8_upIn_19 ?_
      refine zg_cVi (b := a0) (As := [.int a1, .int s1.2]) (rest := [.int s1.1]) (0, 0) d_X8_upIn_21 zc_8 rfl cw_X8_351 wi_X8_isUp ws_X8_isUp rfl rfl (Nat.le_of_ble_eq_true rfl) (by decide) (by decide) ⟨by decide, by decide⟩ rfl (t_X8_isUp a0 a1 s1.2 h2) (fun v8 h7 => ?_)
      refine zg_if_eq d_X8_upIn_24 ?_ ?_
      · refine zg_iconst 0 rfl d_X8_upIn_50 ?_
        refine zg_ior d_X8_upIn_51 ?_
        refine zg_istore_n [(3, .int (s1.1 ||| 0)), (0, .ref a0), (1, .int a1), (2, .int a2), (4, .int s1.2)] d_X8_upIn_52 rfl (by decide) rfl ?_
        refine zg_iinc 4 (s1.2 + 1) [(4, .int (s1.2 + 1)), (3, .int (s1.1 ||| 0)), (0, .ref a0), (1, .int a1), (2, .int a2)] d_X8_upIn_53 rfl rfl (by decide) rfl ?_
        refine zg_goto d_X8_upIn_56 ?_
        exact zg_finK (E := 0) [2, 3, 4, 1, 0] rfl rfl (fun q => q)
      · refine zg_aload_n 0 rfl d_X8_upIn_27 ?_
        refine zg_getR d_X8_upIn_28 zc_8 (by decide) fl_X8_81 (fun v9 => ?_)
        refine zg_bipush 8 rfl d_X8_upIn_31 ?_
        refine zg_iload_n 1 rfl d_X8_upIn_33 ?_
        refine zg_imul d_X8_upIn_34 ?_
        refine zg_iload 4 rfl d_X8_upIn_35 ?_
        refine zg_iadd d_X8_upIn_37 ?_
        refine zg_ald0 d_X8_upIn_38 (fun v10 => ?_)
        refine zg_iload_n 2 rfl d_X8_upIn_39 ?_
        refine zg_icmp_ne d_X8_upIn_40 ?_ ?_
        · refine zg_iconst 1 rfl d_X8_upIn_43 ?_
          refine zg_iload 4 rfl d_X8_upIn_44 ?_
          refine zg_ishl d_X8_upIn_46 ?_
          refine zg_goto d_X8_upIn_47 ?_
          refine zg_ior d_X8_upIn_51 ?_
          refine zg_istore_n [(3, .int (s1.1 ||| (1 <<< (s1.2 &&& 31)))), (0, .ref a0), (1, .int a1), (2, .int a2), (4, .int s1.2)] d_X8_upIn_52 rfl (by decide) rfl ?_
          refine zg_iinc 4 (s1.2 + 1) [(4, .int (s1.2 + 1)), (3, .int (s1.1 ||| (1 <<< (s1.2 &&& 31)))), (0, .ref a0), (1, .int a1), (2, .int a2)] d_X8_upIn_53 rfl rfl (by decide) rfl ?_
          refine zg_goto d_X8_upIn_56 ?_
          exact zg_finK (E := 0) [2, 3, 4, 1, 0] rfl rfl (fun q => q)
        · refine zg_iconst 0 rfl d_X8_upIn_50 ?_
          refine zg_ior d_X8_upIn_51 ?_
          refine zg_istore_n [(3, .int (s1.1 ||| 0)), (0, .ref a0), (1, .int a1), (2, .int a2), (4, .int s1.2)] d_X8_upIn_52 rfl (by decide) rfl ?_
          refine zg_iinc 4 (s1.2 + 1) [(4, .int (s1.2 + 1)), (3, .int (s1.1 ||| 0)), (0, .ref a0), (1, .int a1), (2, .int a2)] d_X8_upIn_53 rfl rfl (by decide) rfl ?_
          refine zg_goto d_X8_upIn_56 ?_
          exact zg_finK (E := 0) [2, 3, 4, 1, 0] rfl rfl (fun q => q)
  · refine zg_iload_n 3 rfl d_X8_upIn_59 ?_
    exact zg_iretK d_X8_upIn_60 rfl ⟨Nat.le_of_ble_eq_true rfl, Nat.le_of_ble_eq_true rfl⟩ (fun q => q)
abbrev M_X8_isSo : zMt := (RX8, cX8_isSo, 3, 3, 106, (some .boolean), "isSo", 0, 0)
theorem d_X8_isSo_0 : zDc M_X8_isSo 0 (.iconst 0) 1 1 := ⟨by decide +kernel, rfl⟩
theorem d_X8_isSo_1 : zDc M_X8_isSo 1 (.istore_n 2) 1 2 := ⟨by decide +kernel, rfl⟩
theorem d_X8_isSo_2 : zDc M_X8_isSo 2 (.iload_n 2) 1 3 := ⟨by decide +kernel, rfl⟩
theorem d_X8_isSo_3 : zDc M_X8_isSo 3 (.aload_n 0) 1 4 := ⟨by decide +kernel, rfl⟩
theorem d_X8_isSo_4 : zDc M_X8_isSo 4 (.invokevirtual 507) 3 7 := ⟨by decide +kernel, rfl⟩
theorem d_X8_isSo_7 : zDj M_X8_isSo 7 (.if_icmp .ge 71) 71 10 78 := ⟨by decide +kernel, rfl, by decide⟩
theorem d_X8_isSo_10 : zDc M_X8_isSo 10 (.aload_n 0) 1 11 := ⟨by decide +kernel, rfl⟩
theorem d_X8_isSo_11 : zDc M_X8_isSo 11 (.getfield 145) 3 14 := ⟨by decide +kernel, rfl⟩
theorem d_X8_isSo_14 : zDc M_X8_isSo 14 (.iload_n 2) 1 15 := ⟨by decide +kernel, rfl⟩
theorem d_X8_isSo_15 : zDc M_X8_isSo 15 (.baload) 1 16 := ⟨by decide +kernel, rfl⟩
theorem d_X8_isSo_16 : zDj M_X8_isSo 16 (.ifCond .ne 56) 56 19 72 := ⟨by decide +kernel, rfl, by decide⟩
theorem d_X8_isSo_19 : zDc M_X8_isSo 19 (.aload_n 0) 1 20 := ⟨by decide +kernel, rfl⟩
theorem d_X8_isSo_20 : zDc M_X8_isSo 20 (.getfield 142) 3 23 := ⟨by decide +kernel, rfl⟩
theorem d_X8_isSo_23 : zDc M_X8_isSo 23 (.iload_n 2) 1 24 := ⟨by decide +kernel, rfl⟩
theorem d_X8_isSo_24 : zDc M_X8_isSo 24 (.iaload) 1 25 := ⟨by decide +kernel, rfl⟩
theorem d_X8_isSo_25 : zDc M_X8_isSo 25 (.iconst (-1)) 1 26 := ⟨by decide +kernel, rfl⟩
theorem d_X8_isSo_26 : zDj M_X8_isSo 26 (.if_icmp .ne 46) 46 29 72 := ⟨by decide +kernel, rfl, by decide⟩
theorem d_X8_isSo_29 : zDc M_X8_isSo 29 (.aload_n 0) 1 30 := ⟨by decide +kernel, rfl⟩
theorem d_X8_isSo_30 : zDc M_X8_isSo 30 (.getfield 132) 3 33 := ⟨by decide +kernel, rfl⟩
theorem d_X8_isSo_33 : zDc M_X8_isSo 33 (.iload_n 2) 1 34 := ⟨by decide +kernel, rfl⟩
theorem d_X8_isSo_34 : zDc M_X8_isSo 34 (.iaload) 1 35 := ⟨by decide +kernel, rfl⟩
theorem d_X8_isSo_35 : zDc M_X8_isSo 35 (.iload_n 1) 1 36 := ⟨by decide +kernel, rfl⟩
theorem d_X8_isSo_36 : zDj M_X8_isSo 36 (.if_icmp .eq 6) 6 39 42 := ⟨by decide +kernel, rfl, by decide⟩
theorem d_X8_isSo_39 : zDj M_X8_isSo 39 (.goto 33) 33 42 72 := ⟨by decide +kernel, rfl, by decide⟩
theorem d_X8_isSo_42 : zDc M_X8_isSo 42 (.aload_n 0) 1 43 := ⟨by decide +kernel, rfl⟩
theorem d_X8_isSo_43 : zDc M_X8_isSo 43 (.iconst 1) 1 44 := ⟨by decide +kernel, rfl⟩
theorem d_X8_isSo_44 : zDc M_X8_isSo 44 (.aload_n 0) 1 45 := ⟨by decide +kernel, rfl⟩
theorem d_X8_isSo_45 : zDc M_X8_isSo 45 (.getfield 135) 3 48 := ⟨by decide +kernel, rfl⟩
theorem d_X8_isSo_48 : zDc M_X8_isSo 48 (.iload_n 2) 1 49 := ⟨by decide +kernel, rfl⟩
theorem d_X8_isSo_49 : zDc M_X8_isSo 49 (.iaload) 1 50 := ⟨by decide +kernel, rfl⟩
theorem d_X8_isSo_50 : zDc M_X8_isSo 50 (.invokevirtual 434) 3 53 := ⟨by decide +kernel, rfl⟩
theorem d_X8_isSo_53 : zDj M_X8_isSo 53 (.ifCond .eq 7) 7 56 60 := ⟨by decide +kernel, rfl, by decide⟩
theorem d_X8_isSo_56 : zDc M_X8_isSo 56 (.iconst 1) 1 57 := ⟨by decide +kernel, rfl⟩
theorem d_X8_isSo_57 : zDj M_X8_isSo 57 (.goto 4) 4 60 61 := ⟨by decide +kernel, rfl, by decide⟩
theorem d_X8_isSo_60 : zDc M_X8_isSo 60 (.iconst 0) 1 61 := ⟨by decide +kernel, rfl⟩
theorem d_X8_isSo_61 : zDc M_X8_isSo 61 (.aload_n 0) 1 62 := ⟨by decide +kernel, rfl⟩
theorem d_X8_isSo_62 : zDc M_X8_isSo 62 (.getfield 138) 3 65 := ⟨by decide +kernel, rfl⟩
theorem d_X8_isSo_65 : zDc M_X8_isSo 65 (.iload_n 2) 1 66 := ⟨by decide +kernel, rfl⟩
theorem d_X8_isSo_66 : zDc M_X8_isSo 66 (.baload) 1 67 := ⟨by decide +kernel, rfl⟩
theorem d_X8_isSo_67 : zDj M_X8_isSo 67 (.if_icmp .eq 5) 5 70 72 := ⟨by decide +kernel, rfl, by decide⟩
theorem d_X8_isSo_70 : zDc M_X8_isSo 70 (.iconst 0) 1 71 := ⟨by decide +kernel, rfl⟩
theorem d_X8_isSo_71 : zDc M_X8_isSo 71 (.ireturn) 1 72 := ⟨by decide +kernel, rfl⟩
theorem d_X8_isSo_72 : zDc M_X8_isSo 72 (.iinc 2 1) 3 75 := ⟨by decide +kernel, rfl⟩
theorem d_X8_isSo_75 : zDj M_X8_isSo 75 (.goto (-73)) (-73) 78 2 := ⟨by decide +kernel, rfl, by decide⟩
theorem d_X8_isSo_78 : zDc M_X8_isSo 78 (.iconst 1) 1 79 := ⟨by decide +kernel, rfl⟩
theorem d_X8_isSo_79 : zDc M_X8_isSo 79 (.ireturn) 1 80 := ⟨by decide +kernel, rfl⟩
def f_X8_isSo (a0 : Nat) (a1 : Int32) (h0 : zHp) : Option (Int32 × zHp) :=
  zbd (
  zlp (σ := Int32) (β := (Int32 ⊕ Int32)) zLF (fun s1 h2 =>
  zbd (zcv 8 a0 h2 (f_X8_knownMany a0 h2)) (fun v6 h5 =>
  if v6 ≤ s1 then
  some ((.inr (.inl s1)), h5)
  else
  zob (zgR h5 a0 8 67) (fun v7 =>
  zob (zaI 2 h5 v7 s1) (fun v8 =>
  if v8 = 0 then
  zob (zgR h5 a0 8 66) (fun v9 =>
  zob (zaI 0 h5 v9 s1) (fun v10 =>
  if v10 = (-1) then
  zob (zgR h5 a0 8 63) (fun v11 =>
  zob (zaI 0 h5 v11 s1) (fun v12 =>
  if v12 = a1 then
  zob (zgR h5 a0 8 64) (fun v13 =>
  zob (zaI 0 h5 v13 s1) (fun v14 =>
  zbd (zcv 8 a0 h5 (f_X8_upIn a0 1 v14 h5)) (fun v16 h15 =>
  zbd (α := Int32) (
  if v16 = 0 then
  some (0, h15)
  else
  some (1, h15)) (fun e17 h18 =>
  zob (zgR h18 a0 8 65) (fun v19 =>
  zob (zaI 2 h18 v19 s1) (fun v20 =>
  if e17 = v20 then
  some ((.inl (s1 + 1)), h18)
  else
  some ((.inr (.inr 0)), h18)))))))
  else
  some ((.inl (s1 + 1)), h5)))
  else
  some ((.inl (s1 + 1)), h5)))
  else
  some ((.inl (s1 + 1)), h5))))) 0 h0) (fun b21 h4 => zsl b21 (fun e3 =>
  some (1, h4)) (fun r => some (r, h4)))
set_option maxRecDepth 100000 in
set_option maxHeartbeats 4000000 in
theorem t_X8_isSo (a0 : Nat) (a1 : Int32) (h0 : zHp) : ∀ (r : Int32) (h' : zHp), f_X8_isSo a0 a1 h0 = some (r, h') → zCt yX8_isSo (.code yX8_isSo cX8_isSo 3 (some .boolean)) 3 106 0 0 [.ref a0, .int a1] h0 (some (.int r)) h' := by
  refine zct_of M_X8_isSo yX8_isSo (by decide) rfl rfl [.ref a0, .int a1] h0 (Nat.le_of_ble_eq_true rfl) (fun r => some (.int r)) (fun X => ?_)
  show zG X M_X8_isSo (0, 0) 0 [(0, .ref a0), (1, .int a1)] [] h0 (f_X8_isSo a0 a1 h0) (fun (r : Int32) h' => zKe X (some (.int r)) h')
  unfold f_X8_isSo
  refine zg_iconst 0 rfl d_X8_isSo_0 ?_
  refine zg_istore_n [(2, .int 0), (0, .ref a0), (1, .int a1)] d_X8_isSo_1 rfl (by decide) rfl ?_
  refine zg_bdr (E := 78) (el := (fun (e3 : Int32) => [(0, .ref a0), (1, .int a1), (2, .int e3)])) (es := fun _ => []) (zg_sub [1, 2, 0] rfl (zg_lp (el := (fun (s1 : Int32) => [(0, .ref a0), (1, .int a1), (2, .int s1)])) (fun s1 h2 => ?_) 0 h0)) (fun e3 h4 => ?_)
  · refine zg_iload_n 2 rfl d_X8_isSo_2 ?_
    refine zg_aload_n 0 rfl d_X8_isSo_3 ?_
    refine zg_cVi (b := a0) (As := []) (rest := [.int s1]) (0, 0) d_X8_isSo_4 zc_8 rfl cw_X8_507 wi_X8_knownMany ws_X8_knownMany rfl rfl (Nat.le_of_ble_eq_true rfl) (by decide) (by decide) ⟨by decide, by decide⟩ rfl (t_X8_knownMany a0 h2) (fun v6 h5 => ?_)
    refine zg_icmp_ge d_X8_isSo_7 ?_ ?_
    · exact zg_finK (E := 0) [0, 1, 2] rfl rfl (fun q => q)
    · refine zg_aload_n 0 rfl d_X8_isSo_10 ?_
      refine zg_getR d_X8_isSo_11 zc_8 (by decide) fl_X8_145 (fun v7 => ?_)
      refine zg_iload_n 2 rfl d_X8_isSo_14 ?_
      refine zg_ald2 d_X8_isSo_15 (fun v8 => ?_)
      refine zg_if_ne d_X8_isSo_16 ?_ ?_
      · refine zg_aload_n 0 rfl d_X8_isSo_19 ?_
        refine zg_getR d_X8_isSo_20 zc_8 (by decide) fl_X8_142 (fun v9 => ?_)
        refine zg_iload_n 2 rfl d_X8_isSo_23 ?_
        refine zg_ald0 d_X8_isSo_24 (fun v10 => ?_)
        refine zg_iconst (-1) rfl d_X8_isSo_25 ?_
        refine zg_icmp_ne d_X8_isSo_26 ?_ ?_
        · refine zg_aload_n 0 rfl d_X8_isSo_29 ?_
          refine zg_getR d_X8_isSo_30 zc_8 (by decide) fl_X8_132 (fun v11 => ?_)
          refine zg_iload_n 2 rfl d_X8_isSo_33 ?_
          refine zg_ald0 d_X8_isSo_34 (fun v12 => ?_)
          refine zg_iload_n 1 rfl d_X8_isSo_35 ?_
          refine zg_icmp_eq d_X8_isSo_36 ?_ ?_
          · refine zg_aload_n 0 rfl d_X8_isSo_42 ?_
            refine zg_iconst 1 rfl d_X8_isSo_43 ?_
            refine zg_aload_n 0 rfl d_X8_isSo_44 ?_
            refine zg_getR d_X8_isSo_45 zc_8 (by decide) fl_X8_135 (fun v13 => ?_)
            refine zg_iload_n 2 rfl d_X8_isSo_48 ?_
            refine zg_ald0 d_X8_isSo_49 (fun v14 => ?_)
            refine zg_cVi (b := a0) (As := [.int 1, .int v14]) (rest := []) (0, 0) d_X8_isSo_50 zc_8 rfl cw_X8_434 wi_X8_upIn ws_X8_upIn rfl rfl (Nat.le_of_ble_eq_true rfl) (by decide) (by decide) ⟨by decide, by decide⟩ rfl (t_X8_upIn a0 1 v14 h5) (fun v16 h15 => ?_)
            refine zg_bd (E := 61) (el := (fun (e17 : Int32) => [(0, .ref a0), (1, .int a1), (2, .int s1)])) (es := (fun (e17 : Int32) => [.int e17])) ?_ (fun e17 h18 => ?_)
            · refine zg_if_eq d_X8_isSo_53 ?_ ?_
              · refine zg_iconst 0 rfl d_X8_isSo_60 ?_
                exact zg_finK (E := 0) [0, 1, 2] rfl rfl (fun q => q)
              · refine zg_iconst 1 rfl d_X8_isSo_56 ?_
                refine zg_goto d_X8_isSo_57 ?_
                exact zg_finK (E := 0) [0, 1, 2] rfl rfl (fun q => q)
            · refine zg_aload_n 0 rfl d_X8_isSo_61 ?_
              refine zg_getR d_X8_isSo_62 zc_8 (by decide) fl_X8_138 (fun v19 => ?_)
              refine zg_iload_n 2 rfl d_X8_isSo_65 ?_
              refine zg_ald2 d_X8_isSo_66 (fun v20 => ?_)
              refine zg_icmp_eq d_X8_isSo_67 ?_ ?_
              · refine zg_iinc 2 (s1 + 1) [(2, .int (s1 + 1)), (0, .ref a0), (1, .int a1)] d_X8_isSo_72 rfl rfl (by decide) rfl ?_
                refine zg_goto d_X8_isSo_75 ?_
                exact zg_finK (E := 0) [1, 2, 0] rfl rfl (fun q => q)
              · refine zg_iconst 0 rfl d_X8_isSo_70 ?_
                exact zg_zretK d_X8_isSo_71 rfl ⟨Nat.le_of_ble_eq_true rfl, Nat.le_of_ble_eq_true rfl⟩ (Or.inl rfl) (fun q => q)
          · refine zg_goto d_X8_isSo_39 ?_
            refine zg_iinc 2 (s1 + 1) [(2, .int (s1 + 1)), (0, .ref a0), (1, .int a1)] d_X8_isSo_72 rfl rfl (by decide) rfl ?_
            refine zg_goto d_X8_isSo_75 ?_
            exact zg_finK (E := 0) [1, 2, 0] rfl rfl (fun q => q)
        · refine zg_iinc 2 (s1 + 1) [(2, .int (s1 + 1)), (0, .ref a0), (1, .int a1)] d_X8_isSo_72 rfl rfl (by decide) rfl ?_
          refine zg_goto d_X8_isSo_75 ?_
          exact zg_finK (E := 0) [1, 2, 0] rfl rfl (fun q => q)
      · refine zg_iinc 2 (s1 + 1) [(2, .int (s1 + 1)), (0, .ref a0), (1, .int a1)] d_X8_isSo_72 rfl rfl (by decide) rfl ?_
        refine zg_goto d_X8_isSo_75 ?_
        exact zg_finK (E := 0) [1, 2, 0] rfl rfl (fun q => q)
  · refine zg_iconst 1 rfl d_X8_isSo_78 ?_
    exact zg_zretK d_X8_isSo_79 rfl ⟨Nat.le_of_ble_eq_true rfl, Nat.le_of_ble_eq_true rfl⟩ (Or.inr rfl) (fun q => q)

theorem fl_X8_55 : Cond.fieldLink RX8 55 (TX8 17).1 (TX8 17).2.1 (TX8 17).2.2.1 ∈ zT := zw_of _ 1376 (by decide +kernel) (by decide +kernel)
theorem fl_X8_52 : Cond.fieldLink RX8 52 (TX8 16).1 (TX8 16).2.1 (TX8 16).2.2.1 ∈ zT := zw_of _ 1375 (by decide +kernel) (by decide +kernel)
theorem fl_X8_46 : Cond.fieldLink RX8 46 (TX8 14).1 (TX8 14).2.1 (TX8 14).2.2.1 ∈ zT := zw_of _ 1373 (by decide +kernel) (by decide +kernel)
theorem ml_X8_390 : Cond.methodLink RX8 390 yX8_doesSee ∈ zT := zw_of _ 1758 (by decide +kernel) (by decide +kernel)
theorem cd_X8_doesSee : Cond.code yX8_doesSee cX8_doesSee 4 (some .boolean) ∈ zT := zw_of _ 1761 (by decide +kernel) (by decide +kernel)
theorem cw_X8_390 : zCw RX8 390 yX8_doesSee cX8_doesSee 4 (some .boolean) 3 := ⟨ml_X8_390, ni_X8, cd_X8_doesSee, by decide, by decide, by decide +kernel⟩
theorem wi_X8_doesSee : Cond.instanceMethod yX8_doesSee ∈ zT := zw_of _ 1760 (by decide +kernel) (by decide +kernel)
theorem ws_X8_doesSee : Cond.selects RX8 yX8_doesSee yX8_doesSee ∈ zT := zw_of _ 85 (by decide +kernel) (by decide +kernel)
theorem ml_X8_394 : Cond.methodLink RX8 394 yX8_ownUp ∈ zT := zw_of _ 1727 (by decide +kernel) (by decide +kernel)
theorem cd_X8_ownUp : Cond.code yX8_ownUp cX8_ownUp 5 (some .int) ∈ zT := zw_of _ 1730 (by decide +kernel) (by decide +kernel)
theorem cw_X8_394 : zCw RX8 394 yX8_ownUp cX8_ownUp 5 (some .int) 2 := ⟨ml_X8_394, ni_X8, cd_X8_ownUp, by decide, by decide, by decide +kernel⟩
theorem wi_X8_ownUp : Cond.instanceMethod yX8_ownUp ∈ zT := zw_of _ 1729 (by decide +kernel) (by decide +kernel)
theorem ws_X8_ownUp : Cond.selects RX8 yX8_ownUp yX8_ownUp ∈ zT := zw_of _ 81 (by decide +kernel) (by decide +kernel)
theorem ml_X8_381 : Cond.methodLink RX8 381 Lib.Math.min.name ∈ zT := zw_of _ 1867 (by decide +kernel) (by decide +kernel)
theorem fl_X8_111 : Cond.fieldLink RX8 111 (TX8 51).1 (TX8 51).2.1 (TX8 51).2.2.1 ∈ zT := zw_of _ 1410 (by decide +kernel) (by decide +kernel)
theorem fl_X8_49 : Cond.fieldLink RX8 49 (TX8 15).1 (TX8 15).2.1 (TX8 15).2.2.1 ∈ zT := zw_of _ 1374 (by decide +kernel) (by decide +kernel)
theorem ml_X8_425 : Cond.methodLink RX8 425 yX8_isChild ∈ zT := zw_of _ 1723 (by decide +kernel) (by decide +kernel)
theorem cd_X8_isChild : Cond.code yX8_isChild cX8_isChild 2 (some .boolean) ∈ zT := zw_of _ 1726 (by decide +kernel) (by decide +kernel)
theorem cw_X8_425 : zCw RX8 425 yX8_isChild cX8_isChild 2 (some .boolean) 1 := ⟨ml_X8_425, ni_X8, cd_X8_isChild, by decide, by decide, by decide +kernel⟩
theorem wi_X8_isChild : Cond.instanceMethod yX8_isChild ∈ zT := zw_of _ 1725 (by decide +kernel) (by decide +kernel)
theorem ws_X8_isChild : Cond.selects RX8 yX8_isChild yX8_isChild ∈ zT := zw_of _ 80 (by decide +kernel) (by decide +kernel)
theorem fl_X8_151 : Cond.fieldLink RX8 151 (TX8 0).1 (TX8 0).2.1 (TX8 0).2.2.1 ∈ zT := zw_of _ 1359 (by decide +kernel) (by decide +kernel)
theorem fl_X8_307 : Cond.fieldLink RX8 307 (TX8 47).1 (TX8 47).2.1 (TX8 47).2.2.1 ∈ zT := zw_of _ 1406 (by decide +kernel) (by decide +kernel)
theorem ml_X8_416 : Cond.methodLink RX8 416 yX8_copies ∈ zT := zw_of _ 1825 (by decide +kernel) (by decide +kernel)
theorem cd_X8_copies : Cond.code yX8_copies cX8_copies 6 none ∈ zT := zw_of _ 1828 (by decide +kernel) (by decide +kernel)
theorem cw_X8_416 : zCw RX8 416 yX8_copies cX8_copies 6 none 2 := ⟨ml_X8_416, ni_X8, cd_X8_copies, by decide, by decide, by decide +kernel⟩
theorem wi_X8_copies : Cond.instanceMethod yX8_copies ∈ zT := zw_of _ 1827 (by decide +kernel) (by decide +kernel)
theorem ws_X8_copies : Cond.selects RX8 yX8_copies yX8_copies ∈ zT := zw_of _ 95 (by decide +kernel) (by decide +kernel)
theorem fl_X8_311 : Cond.fieldLink RX8 311 (TX8 48).1 (TX8 48).2.1 (TX8 48).2.2.1 ∈ zT := zw_of _ 1407 (by decide +kernel) (by decide +kernel)
theorem fl_X8_114 : Cond.fieldLink RX8 114 (TX8 52).1 (TX8 52).2.1 (TX8 52).2.2.1 ∈ zT := zw_of _ 1411 (by decide +kernel) (by decide +kernel)
theorem fl_X8_340 : Cond.fieldLink RX8 340 (TX8 53).1 (TX8 53).2.1 (TX8 53).2.2.1 ∈ zT := zw_of _ 1412 (by decide +kernel) (by decide +kernel)
theorem fl_X8_34 : Cond.fieldLink RX8 34 (TX8 10).1 (TX8 10).2.1 (TX8 10).2.2.1 ∈ zT := zw_of _ 1369 (by decide +kernel) (by decide +kernel)
theorem fl_X8_31 : Cond.fieldLink RX8 31 (TX8 9).1 (TX8 9).2.1 (TX8 9).2.2.1 ∈ zT := zw_of _ 1368 (by decide +kernel) (by decide +kernel)
theorem ml_X8_334 : Cond.methodLink RX8 334 yX8_sizeIn ∈ zT := zw_of _ 1355 (by decide +kernel) (by decide +kernel)
theorem cd_X8_sizeIn : Cond.code yX8_sizeIn cX8_sizeIn 2 (some .int) ∈ zT := zw_of _ 1358 (by decide +kernel) (by decide +kernel)
theorem cw_X8_334 : zCw RX8 334 yX8_sizeIn cX8_sizeIn 2 (some .int) 1 := ⟨ml_X8_334, ni_X8, cd_X8_sizeIn, by decide, by decide, by decide +kernel⟩
theorem wi_X8_sizeIn : Cond.instanceMethod yX8_sizeIn ∈ zT := zw_of _ 1357 (by decide +kernel) (by decide +kernel)
theorem ws_X8_sizeIn : Cond.selects RX8 yX8_sizeIn yX8_sizeIn ∈ zT := zw_of _ 52 (by decide +kernel) (by decide +kernel)
theorem fl_X8_43 : Cond.fieldLink RX8 43 (TX8 13).1 (TX8 13).2.1 (TX8 13).2.2.1 ∈ zT := zw_of _ 1372 (by decide +kernel) (by decide +kernel)
theorem ml_X8_337 : Cond.methodLink RX8 337 yX8_starts ∈ zT := zw_of _ 1351 (by decide +kernel) (by decide +kernel)
theorem cd_X8_starts : Cond.code yX8_starts cX8_starts 4 none ∈ zT := zw_of _ 1354 (by decide +kernel) (by decide +kernel)
theorem cw_X8_337 : zCw RX8 337 yX8_starts cX8_starts 4 none 1 := ⟨ml_X8_337, ni_X8, cd_X8_starts, by decide, by decide, by decide +kernel⟩
theorem wi_X8_starts : Cond.instanceMethod yX8_starts ∈ zT := zw_of _ 1353 (by decide +kernel) (by decide +kernel)
theorem ws_X8_starts : Cond.selects RX8 yX8_starts yX8_starts ∈ zT := zw_of _ 51 (by decide +kernel) (by decide +kernel)
abbrev M_X8_is : zMt := (RX8, cX8_is, 1, 1, 60, (some .long), "is", 0, 0)
theorem d_X8_is_0 : zDc M_X8_is 0 (.iload_n 0) 1 1 := ⟨by decide +kernel, rfl⟩
theorem d_X8_is_1 : zDj M_X8_is 1 (.ifCond .eq 7) 7 4 8 := ⟨by decide +kernel, rfl, by decide⟩
theorem d_X8_is_4 : zDc M_X8_is 4 (.lconst 1) 1 5 := ⟨by decide +kernel, rfl⟩
theorem d_X8_is_5 : zDj M_X8_is 5 (.goto 4) 4 8 9 := ⟨by decide +kernel, rfl, by decide⟩
theorem d_X8_is_8 : zDc M_X8_is 8 (.lconst 0) 1 9 := ⟨by decide +kernel, rfl⟩
theorem d_X8_is_9 : zDc M_X8_is 9 (.lreturn) 1 10 := ⟨by decide +kernel, rfl⟩
def f_X8_is (a0 : Int32) (h0 : zHp) : Option (Int64 × zHp) :=
  if a0 = 0 then
  some (0, h0)
  else
  some (1, h0)
set_option maxRecDepth 100000 in
set_option maxHeartbeats 4000000 in
theorem t_X8_is (a0 : Int32) (h0 : zHp) : ∀ (r : Int64) (h' : zHp), f_X8_is a0 h0 = some (r, h') → zCt yX8_is (.code yX8_is cX8_is 1 (some .long)) 1 60 0 0 [.int a0] h0 (some (.long r)) h' := by
  refine zct_of M_X8_is yX8_is (by decide) rfl rfl [.int a0] h0 (Nat.le_of_ble_eq_true rfl) (fun r => some (.long r)) (fun X => ?_)
  show zG X M_X8_is (0, 0) 0 [(0, .int a0)] [] h0 (f_X8_is a0 h0) (fun (r : Int64) h' => zKe X (some (.long r)) h')
  unfold f_X8_is
  refine zg_iload_n 0 rfl d_X8_is_0 ?_
  refine zg_if_eq d_X8_is_1 ?_ ?_
  · refine zg_lconst 0 rfl d_X8_is_8 ?_
    exact zg_lretK d_X8_is_9 rfl ⟨Nat.le_of_ble_eq_true rfl, Nat.le_of_ble_eq_true rfl⟩ (fun q => q)
  · refine zg_lconst 1 rfl d_X8_is_4 ?_
    refine zg_goto d_X8_is_5 ?_
    exact zg_lretK d_X8_is_9 rfl ⟨Nat.le_of_ble_eq_true rfl, Nat.le_of_ble_eq_true rfl⟩ (fun q => q)
abbrev M_X8_hasLaw : zMt := (RX8, cX8_hasLaw, 2, 1, 60, (some .boolean), "hasLaw", 0, 0)
theorem d_X8_hasLaw_0 : zDc M_X8_hasLaw 0 (.aload_n 0) 1 1 := ⟨by decide +kernel, rfl⟩
theorem d_X8_hasLaw_1 : zDc M_X8_hasLaw 1 (.getfield 55) 3 4 := ⟨by decide +kernel, rfl⟩
theorem d_X8_hasLaw_4 : zDc M_X8_hasLaw 4 (.iload_n 1) 1 5 := ⟨by decide +kernel, rfl⟩
theorem d_X8_hasLaw_5 : zDc M_X8_hasLaw 5 (.iaload) 1 6 := ⟨by decide +kernel, rfl⟩
theorem d_X8_hasLaw_6 : zDc M_X8_hasLaw 6 (.aload_n 0) 1 7 := ⟨by decide +kernel, rfl⟩
theorem d_X8_hasLaw_7 : zDc M_X8_hasLaw 7 (.getfield 52) 3 10 := ⟨by decide +kernel, rfl⟩
theorem d_X8_hasLaw_10 : zDc M_X8_hasLaw 10 (.iload_n 1) 1 11 := ⟨by decide +kernel, rfl⟩
theorem d_X8_hasLaw_11 : zDc M_X8_hasLaw 11 (.iaload) 1 12 := ⟨by decide +kernel, rfl⟩
theorem d_X8_hasLaw_12 : zDj M_X8_hasLaw 12 (.if_icmp .le 7) 7 15 19 := ⟨by decide +kernel, rfl, by decide⟩
theorem d_X8_hasLaw_15 : zDc M_X8_hasLaw 15 (.iconst 1) 1 16 := ⟨by decide +kernel, rfl⟩
theorem d_X8_hasLaw_16 : zDj M_X8_hasLaw 16 (.goto 4) 4 19 20 := ⟨by decide +kernel, rfl, by decide⟩
theorem d_X8_hasLaw_19 : zDc M_X8_hasLaw 19 (.iconst 0) 1 20 := ⟨by decide +kernel, rfl⟩
theorem d_X8_hasLaw_20 : zDc M_X8_hasLaw 20 (.ireturn) 1 21 := ⟨by decide +kernel, rfl⟩
def f_X8_hasLaw (a0 : Nat) (a1 : Int32) (h0 : zHp) : Option (Int32 × zHp) :=
  zob (zgR h0 a0 8 17) (fun v1 =>
  zob (zaI 0 h0 v1 a1) (fun v2 =>
  zob (zgR h0 a0 8 16) (fun v3 =>
  zob (zaI 0 h0 v3 a1) (fun v4 =>
  if v2 ≤ v4 then
  some (0, h0)
  else
  some (1, h0)))))
set_option maxRecDepth 100000 in
set_option maxHeartbeats 4000000 in
theorem t_X8_hasLaw (a0 : Nat) (a1 : Int32) (h0 : zHp) : ∀ (r : Int32) (h' : zHp), f_X8_hasLaw a0 a1 h0 = some (r, h') → zCt yX8_hasLaw (.code yX8_hasLaw cX8_hasLaw 2 (some .boolean)) 1 60 0 0 [.ref a0, .int a1] h0 (some (.int r)) h' := by
  refine zct_of M_X8_hasLaw yX8_hasLaw (by decide) rfl rfl [.ref a0, .int a1] h0 (Nat.le_of_ble_eq_true rfl) (fun r => some (.int r)) (fun X => ?_)
  show zG X M_X8_hasLaw (0, 0) 0 [(0, .ref a0), (1, .int a1)] [] h0 (f_X8_hasLaw a0 a1 h0) (fun (r : Int32) h' => zKe X (some (.int r)) h')
  unfold f_X8_hasLaw
  refine zg_aload_n 0 rfl d_X8_hasLaw_0 ?_
  refine zg_getR d_X8_hasLaw_1 zc_8 (by decide) fl_X8_55 (fun v1 => ?_)
  refine zg_iload_n 1 rfl d_X8_hasLaw_4 ?_
  refine zg_ald0 d_X8_hasLaw_5 (fun v2 => ?_)
  refine zg_aload_n 0 rfl d_X8_hasLaw_6 ?_
  refine zg_getR d_X8_hasLaw_7 zc_8 (by decide) fl_X8_52 (fun v3 => ?_)
  refine zg_iload_n 1 rfl d_X8_hasLaw_10 ?_
  refine zg_ald0 d_X8_hasLaw_11 (fun v4 => ?_)
  refine zg_icmp_le d_X8_hasLaw_12 ?_ ?_
  · refine zg_iconst 0 rfl d_X8_hasLaw_19 ?_
    exact zg_zretK d_X8_hasLaw_20 rfl ⟨Nat.le_of_ble_eq_true rfl, Nat.le_of_ble_eq_true rfl⟩ (Or.inl rfl) (fun q => q)
  · refine zg_iconst 1 rfl d_X8_hasLaw_15 ?_
    refine zg_goto d_X8_hasLaw_16 ?_
    exact zg_zretK d_X8_hasLaw_20 rfl ⟨Nat.le_of_ble_eq_true rfl, Nat.le_of_ble_eq_true rfl⟩ (Or.inr rfl) (fun q => q)
abbrev M_X8_doesSee : zMt := (RX8, cX8_doesSee, 4, 2, 81, (some .boolean), "doesSee", 0, 0)
theorem d_X8_doesSee_0 : zDc M_X8_doesSee 0 (.aload_n 0) 1 1 := ⟨by decide +kernel, rfl⟩
theorem d_X8_doesSee_1 : zDc M_X8_doesSee 1 (.getfield 96) 3 4 := ⟨by decide +kernel, rfl⟩
theorem d_X8_doesSee_4 : zDc M_X8_doesSee 4 (.bipush 6) 2 6 := ⟨by decide +kernel, rfl⟩
theorem d_X8_doesSee_6 : zDc M_X8_doesSee 6 (.iload_n 1) 1 7 := ⟨by decide +kernel, rfl⟩
theorem d_X8_doesSee_7 : zDc M_X8_doesSee 7 (.imul) 1 8 := ⟨by decide +kernel, rfl⟩
theorem d_X8_doesSee_8 : zDc M_X8_doesSee 8 (.iload_n 2) 1 9 := ⟨by decide +kernel, rfl⟩
theorem d_X8_doesSee_9 : zDc M_X8_doesSee 9 (.iadd) 1 10 := ⟨by decide +kernel, rfl⟩
theorem d_X8_doesSee_10 : zDc M_X8_doesSee 10 (.iaload) 1 11 := ⟨by decide +kernel, rfl⟩
theorem d_X8_doesSee_11 : zDc M_X8_doesSee 11 (.iload_n 3) 1 12 := ⟨by decide +kernel, rfl⟩
theorem d_X8_doesSee_12 : zDc M_X8_doesSee 12 (.invokestatic 360) 3 15 := ⟨by decide +kernel, rfl⟩
theorem d_X8_doesSee_15 : zDc M_X8_doesSee 15 (.aload_n 0) 1 16 := ⟨by decide +kernel, rfl⟩
theorem d_X8_doesSee_16 : zDc M_X8_doesSee 16 (.getfield 46) 3 19 := ⟨by decide +kernel, rfl⟩
theorem d_X8_doesSee_19 : zDc M_X8_doesSee 19 (.iload_n 2) 1 20 := ⟨by decide +kernel, rfl⟩
theorem d_X8_doesSee_20 : zDc M_X8_doesSee 20 (.iaload) 1 21 := ⟨by decide +kernel, rfl⟩
theorem d_X8_doesSee_21 : zDj M_X8_doesSee 21 (.if_icmp .gt 7) 7 24 28 := ⟨by decide +kernel, rfl, by decide⟩
theorem d_X8_doesSee_24 : zDc M_X8_doesSee 24 (.iconst 1) 1 25 := ⟨by decide +kernel, rfl⟩
theorem d_X8_doesSee_25 : zDj M_X8_doesSee 25 (.goto 4) 4 28 29 := ⟨by decide +kernel, rfl, by decide⟩
theorem d_X8_doesSee_28 : zDc M_X8_doesSee 28 (.iconst 0) 1 29 := ⟨by decide +kernel, rfl⟩
theorem d_X8_doesSee_29 : zDc M_X8_doesSee 29 (.ireturn) 1 30 := ⟨by decide +kernel, rfl⟩
def f_X8_doesSee (a0 : Nat) (a1 : Int32) (a2 : Int32) (a3 : Int32) (h0 : zHp) : Option (Int32 × zHp) :=
  zob (zgR h0 a0 8 43) (fun v1 =>
  zob (zaI 0 h0 v1 ((6 * a1) + a2)) (fun v2 =>
  zbd ((f_X8_farOf v2 a3 h0)) (fun v4 h3 =>
  zob (zgR h3 a0 8 14) (fun v5 =>
  zob (zaI 0 h3 v5 a2) (fun v6 =>
  if v6 < v4 then
  some (0, h3)
  else
  some (1, h3))))))
set_option maxRecDepth 100000 in
set_option maxHeartbeats 4000000 in
theorem t_X8_doesSee (a0 : Nat) (a1 : Int32) (a2 : Int32) (a3 : Int32) (h0 : zHp) : ∀ (r : Int32) (h' : zHp), f_X8_doesSee a0 a1 a2 a3 h0 = some (r, h') → zCt yX8_doesSee (.code yX8_doesSee cX8_doesSee 4 (some .boolean)) 2 81 0 0 [.ref a0, .int a1, .int a2, .int a3] h0 (some (.int r)) h' := by
  refine zct_of M_X8_doesSee yX8_doesSee (by decide) rfl rfl [.ref a0, .int a1, .int a2, .int a3] h0 (Nat.le_of_ble_eq_true rfl) (fun r => some (.int r)) (fun X => ?_)
  show zG X M_X8_doesSee (0, 0) 0 [(0, .ref a0), (1, .int a1), (2, .int a2), (3, .int a3)] [] h0 (f_X8_doesSee a0 a1 a2 a3 h0) (fun (r : Int32) h' => zKe X (some (.int r)) h')
  unfold f_X8_doesSee
  refine zg_aload_n 0 rfl d_X8_doesSee_0 ?_
  refine zg_getR d_X8_doesSee_1 zc_8 (by decide) fl_X8_96 (fun v1 => ?_)
  refine zg_bipush 6 rfl d_X8_doesSee_4 ?_
  refine zg_iload_n 1 rfl d_X8_doesSee_6 ?_
  refine zg_imul d_X8_doesSee_7 ?_
  refine zg_iload_n 2 rfl d_X8_doesSee_8 ?_
  refine zg_iadd d_X8_doesSee_9 ?_
  refine zg_ald0 d_X8_doesSee_10 (fun v2 => ?_)
  refine zg_iload_n 3 rfl d_X8_doesSee_11 ?_
  refine zg_cSi (As := [.int v2, .int a3]) (rest := []) (0, 0) d_X8_doesSee_12 cw_X8_360 wt_X8_farOf rfl rfl (Nat.le_of_ble_eq_true rfl) (by decide) (by decide) ⟨by decide, by decide⟩ rfl (t_X8_farOf v2 a3 h0) (fun v4 h3 => ?_)
  refine zg_aload_n 0 rfl d_X8_doesSee_15 ?_
  refine zg_getR d_X8_doesSee_16 zc_8 (by decide) fl_X8_46 (fun v5 => ?_)
  refine zg_iload_n 2 rfl d_X8_doesSee_19 ?_
  refine zg_ald0 d_X8_doesSee_20 (fun v6 => ?_)
  refine zg_icmp_gt d_X8_doesSee_21 ?_ ?_
  · refine zg_iconst 0 rfl d_X8_doesSee_28 ?_
    exact zg_zretK d_X8_doesSee_29 rfl ⟨Nat.le_of_ble_eq_true rfl, Nat.le_of_ble_eq_true rfl⟩ (Or.inl rfl) (fun q => q)
  · refine zg_iconst 1 rfl d_X8_doesSee_24 ?_
    refine zg_goto d_X8_doesSee_25 ?_
    exact zg_zretK d_X8_doesSee_29 rfl ⟨Nat.le_of_ble_eq_true rfl, Nat.le_of_ble_eq_true rfl⟩ (Or.inr rfl) (fun q => q)
abbrev M_X8_ownUp : zMt := (RX8, cX8_ownUp, 5, 2, 82, (some .int), "ownUp", 0, 0)
theorem d_X8_ownUp_0 : zDc M_X8_ownUp 0 (.iconst 0) 1 1 := ⟨by decide +kernel, rfl⟩
theorem d_X8_ownUp_1 : zDc M_X8_ownUp 1 (.istore_n 3) 1 2 := ⟨by decide +kernel, rfl⟩
theorem d_X8_ownUp_2 : zDc M_X8_ownUp 2 (.iconst 0) 1 3 := ⟨by decide +kernel, rfl⟩
theorem d_X8_ownUp_3 : zDc M_X8_ownUp 3 (.istore 4) 2 5 := ⟨by decide +kernel, rfl⟩
theorem d_X8_ownUp_5 : zDc M_X8_ownUp 5 (.iload 4) 2 7 := ⟨by decide +kernel, rfl⟩
theorem d_X8_ownUp_7 : zDc M_X8_ownUp 7 (.aload_n 0) 1 8 := ⟨by decide +kernel, rfl⟩
theorem d_X8_ownUp_8 : zDc M_X8_ownUp 8 (.getfield 13) 3 11 := ⟨by decide +kernel, rfl⟩
theorem d_X8_ownUp_11 : zDc M_X8_ownUp 11 (.iconst 1) 1 12 := ⟨by decide +kernel, rfl⟩
theorem d_X8_ownUp_12 : zDc M_X8_ownUp 12 (.iaload) 1 13 := ⟨by decide +kernel, rfl⟩
theorem d_X8_ownUp_13 : zDj M_X8_ownUp 13 (.if_icmp .ge 43) 43 16 56 := ⟨by decide +kernel, rfl, by decide⟩
theorem d_X8_ownUp_16 : zDc M_X8_ownUp 16 (.iload_n 3) 1 17 := ⟨by decide +kernel, rfl⟩
theorem d_X8_ownUp_17 : zDc M_X8_ownUp 17 (.aload_n 0) 1 18 := ⟨by decide +kernel, rfl⟩
theorem d_X8_ownUp_18 : zDc M_X8_ownUp 18 (.iload_n 1) 1 19 := ⟨by decide +kernel, rfl⟩
theorem d_X8_ownUp_19 : zDc M_X8_ownUp 19 (.iload 4) 2 21 := ⟨by decide +kernel, rfl⟩
theorem d_X8_ownUp_21 : zDc M_X8_ownUp 21 (.invokevirtual 351) 3 24 := ⟨by decide +kernel, rfl⟩
theorem d_X8_ownUp_24 : zDj M_X8_ownUp 24 (.ifCond .eq 23) 23 27 47 := ⟨by decide +kernel, rfl, by decide⟩
theorem d_X8_ownUp_27 : zDc M_X8_ownUp 27 (.aload_n 0) 1 28 := ⟨by decide +kernel, rfl⟩
theorem d_X8_ownUp_28 : zDc M_X8_ownUp 28 (.getfield 90) 3 31 := ⟨by decide +kernel, rfl⟩
theorem d_X8_ownUp_31 : zDc M_X8_ownUp 31 (.bipush 8) 2 33 := ⟨by decide +kernel, rfl⟩
theorem d_X8_ownUp_33 : zDc M_X8_ownUp 33 (.iload_n 1) 1 34 := ⟨by decide +kernel, rfl⟩
theorem d_X8_ownUp_34 : zDc M_X8_ownUp 34 (.imul) 1 35 := ⟨by decide +kernel, rfl⟩
theorem d_X8_ownUp_35 : zDc M_X8_ownUp 35 (.iload 4) 2 37 := ⟨by decide +kernel, rfl⟩
theorem d_X8_ownUp_37 : zDc M_X8_ownUp 37 (.iadd) 1 38 := ⟨by decide +kernel, rfl⟩
theorem d_X8_ownUp_38 : zDc M_X8_ownUp 38 (.iaload) 1 39 := ⟨by decide +kernel, rfl⟩
theorem d_X8_ownUp_39 : zDc M_X8_ownUp 39 (.iload_n 2) 1 40 := ⟨by decide +kernel, rfl⟩
theorem d_X8_ownUp_40 : zDj M_X8_ownUp 40 (.if_icmp .ne 7) 7 43 47 := ⟨by decide +kernel, rfl, by decide⟩
theorem d_X8_ownUp_43 : zDc M_X8_ownUp 43 (.iconst 1) 1 44 := ⟨by decide +kernel, rfl⟩
theorem d_X8_ownUp_44 : zDj M_X8_ownUp 44 (.goto 4) 4 47 48 := ⟨by decide +kernel, rfl, by decide⟩
theorem d_X8_ownUp_47 : zDc M_X8_ownUp 47 (.iconst 0) 1 48 := ⟨by decide +kernel, rfl⟩
theorem d_X8_ownUp_48 : zDc M_X8_ownUp 48 (.iadd) 1 49 := ⟨by decide +kernel, rfl⟩
theorem d_X8_ownUp_49 : zDc M_X8_ownUp 49 (.istore_n 3) 1 50 := ⟨by decide +kernel, rfl⟩
theorem d_X8_ownUp_50 : zDc M_X8_ownUp 50 (.iinc 4 1) 3 53 := ⟨by decide +kernel, rfl⟩
theorem d_X8_ownUp_53 : zDj M_X8_ownUp 53 (.goto (-48)) (-48) 56 5 := ⟨by decide +kernel, rfl, by decide⟩
theorem d_X8_ownUp_56 : zDc M_X8_ownUp 56 (.iload_n 3) 1 57 := ⟨by decide +kernel, rfl⟩
theorem d_X8_ownUp_57 : zDc M_X8_ownUp 57 (.ireturn) 1 58 := ⟨by decide +kernel, rfl⟩
def f_X8_ownUp (a0 : Nat) (a1 : Int32) (a2 : Int32) (h0 : zHp) : Option (Int32 × zHp) :=
  zbd (
  zlp (σ := (Int32 × Int32)) (β := (Int32 × Int32)) zLF (fun s1 h2 =>
  zob (zgR h2 a0 8 3) (fun v5 =>
  zob (zaI 0 h2 v5 1) (fun v6 =>
  if v6 ≤ s1.2 then
  some ((.inr (s1.1, s1.2)), h2)
  else
  zbd (zcv 8 a0 h2 (f_X8_isUp a0 a1 s1.2 h2)) (fun v8 h7 =>
  if v8 = 0 then
  some ((.inl ((s1.1 + 0), (s1.2 + 1))), h7)
  else
  zob (zgR h7 a0 8 41) (fun v9 =>
  zob (zaI 0 h7 v9 ((8 * a1) + s1.2)) (fun v10 =>
  if v10 = a2 then
  some ((.inl ((s1.1 + 1), (s1.2 + 1))), h7)
  else
  some ((.inl ((s1.1 + 0), (s1.2 + 1))), h7))))))) (0, 0) h0) (fun e3 h4 =>
  some (e3.1, h4))
set_option maxRecDepth 100000 in
set_option maxHeartbeats 4000000 in
theorem t_X8_ownUp (a0 : Nat) (a1 : Int32) (a2 : Int32) (h0 : zHp) : ∀ (r : Int32) (h' : zHp), f_X8_ownUp a0 a1 a2 h0 = some (r, h') → zCt yX8_ownUp (.code yX8_ownUp cX8_ownUp 5 (some .int)) 2 82 0 0 [.ref a0, .int a1, .int a2] h0 (some (.int r)) h' := by
  refine zct_of M_X8_ownUp yX8_ownUp (by decide) rfl rfl [.ref a0, .int a1, .int a2] h0 (Nat.le_of_ble_eq_true rfl) (fun r => some (.int r)) (fun X => ?_)
  show zG X M_X8_ownUp (0, 0) 0 [(0, .ref a0), (1, .int a1), (2, .int a2)] [] h0 (f_X8_ownUp a0 a1 a2 h0) (fun (r : Int32) h' => zKe X (some (.int r)) h')
  unfold f_X8_ownUp
  refine zg_iconst 0 rfl d_X8_ownUp_0 ?_
  refine zg_istore_n [(3, .int 0), (0, .ref a0), (1, .int a1), (2, .int a2)] d_X8_ownUp_1 rfl (by decide) rfl ?_
  refine zg_iconst 0 rfl d_X8_ownUp_2 ?_
  refine zg_istore [(4, .int 0), (3, .int 0), (0, .ref a0), (1, .int a1), (2, .int a2)] d_X8_ownUp_3 (by decide) rfl ?_
  refine zg_bd (E := 56) (el := (fun (e3 : (Int32 × Int32)) => [(0, .ref a0), (1, .int a1), (2, .int a2), (3, .int e3.1), (4, .int e3.2)])) (es := fun _ => []) (zg_sub [2, 3, 4, 1, 0] rfl (zg_lp (el := (fun (s1 : (Int32 × Int32)) => [(0, .ref a0), (1, .int a1), (2, .int a2), (3, .int s1.1), (4, .int s1.2)])) (fun s1 h2 => ?_) (0, 0) h0)) (fun e3 h4 => ?_)
  · refine zg_iload 4 rfl d_X8_ownUp_5 ?_
    refine zg_aload_n 0 rfl d_X8_ownUp_7 ?_
    refine zg_getR d_X8_ownUp_8 zc_8 (by decide) fl_X8_13 (fun v5 => ?_)
    refine zg_iconst 1 rfl d_X8_ownUp_11 ?_
    refine zg_ald0 d_X8_ownUp_12 (fun v6 => ?_)
    refine zg_icmp_ge d_X8_ownUp_13 ?_ ?_
    · exact zg_finK (E := 0) [0, 1, 2, 3, 4] rfl rfl (fun q => q)
    · refine zg_iload_n 3 rfl d_X8_ownUp_16 ?_
      refine zg_aload_n 0 rfl d_X8_ownUp_17 ?_
      refine zg_iload_n 1 rfl d_X8_ownUp_18 ?_
      refine zg_iload 4 rfl d_X8_ownUp_19 ?_
      refine zg_cVi (b := a0) (As := [.int a1, .int s1.2]) (rest := [.int s1.1]) (0, 0) d_X8_ownUp_21 zc_8 rfl cw_X8_351 wi_X8_isUp ws_X8_isUp rfl rfl (Nat.le_of_ble_eq_true rfl) (by decide) (by decide) ⟨by decide, by decide⟩ rfl (t_X8_isUp a0 a1 s1.2 h2) (fun v8 h7 => ?_)
      refine zg_if_eq d_X8_ownUp_24 ?_ ?_
      · refine zg_iconst 0 rfl d_X8_ownUp_47 ?_
        refine zg_iadd d_X8_ownUp_48 ?_
        refine zg_istore_n [(3, .int (s1.1 + 0)), (0, .ref a0), (1, .int a1), (2, .int a2), (4, .int s1.2)] d_X8_ownUp_49 rfl (by decide) rfl ?_
        refine zg_iinc 4 (s1.2 + 1) [(4, .int (s1.2 + 1)), (3, .int (s1.1 + 0)), (0, .ref a0), (1, .int a1), (2, .int a2)] d_X8_ownUp_50 rfl rfl (by decide) rfl ?_
        refine zg_goto d_X8_ownUp_53 ?_
        exact zg_finK (E := 0) [2, 3, 4, 1, 0] rfl rfl (fun q => q)
      · refine zg_aload_n 0 rfl d_X8_ownUp_27 ?_
        refine zg_getR d_X8_ownUp_28 zc_8 (by decide) fl_X8_90 (fun v9 => ?_)
        refine zg_bipush 8 rfl d_X8_ownUp_31 ?_
        refine zg_iload_n 1 rfl d_X8_ownUp_33 ?_
        refine zg_imul d_X8_ownUp_34 ?_
        refine zg_iload 4 rfl d_X8_ownUp_35 ?_
        refine zg_iadd d_X8_ownUp_37 ?_
        refine zg_ald0 d_X8_ownUp_38 (fun v10 => ?_)
        refine zg_iload_n 2 rfl d_X8_ownUp_39 ?_
        refine zg_icmp_ne d_X8_ownUp_40 ?_ ?_
        · refine zg_iconst 1 rfl d_X8_ownUp_43 ?_
          refine zg_goto d_X8_ownUp_44 ?_
          refine zg_iadd d_X8_ownUp_48 ?_
          refine zg_istore_n [(3, .int (s1.1 + 1)), (0, .ref a0), (1, .int a1), (2, .int a2), (4, .int s1.2)] d_X8_ownUp_49 rfl (by decide) rfl ?_
          refine zg_iinc 4 (s1.2 + 1) [(4, .int (s1.2 + 1)), (3, .int (s1.1 + 1)), (0, .ref a0), (1, .int a1), (2, .int a2)] d_X8_ownUp_50 rfl rfl (by decide) rfl ?_
          refine zg_goto d_X8_ownUp_53 ?_
          exact zg_finK (E := 0) [2, 3, 4, 1, 0] rfl rfl (fun q => q)
        · refine zg_iconst 0 rfl d_X8_ownUp_47 ?_
          refine zg_iadd d_X8_ownUp_48 ?_
          refine zg_istore_n [(3, .int (s1.1 + 0)), (0, .ref a0), (1, .int a1), (2, .int a2), (4, .int s1.2)] d_X8_ownUp_49 rfl (by decide) rfl ?_
          refine zg_iinc 4 (s1.2 + 1) [(4, .int (s1.2 + 1)), (3, .int (s1.1 + 0)), (0, .ref a0), (1, .int a1), (2, .int a2)] d_X8_ownUp_50 rfl rfl (by decide) rfl ?_
          refine zg_goto d_X8_ownUp_53 ?_
          exact zg_finK (E := 0) [2, 3, 4, 1, 0] rfl rfl (fun q => q)
  · refine zg_iload_n 3 rfl d_X8_ownUp_56 ?_
    exact zg_iretK d_X8_ownUp_57 rfl ⟨Nat.le_of_ble_eq_true rfl, Nat.le_of_ble_eq_true rfl⟩ (fun q => q)
abbrev M_X8_isGiven : zMt := (RX8, cX8_isGiven, 5, 3, 106, none, "isGiven", 0, 0)
theorem d_X8_isGiven_0 : zDc M_X8_isGiven 0 (.iconst (-1)) 1 1 := ⟨by decide +kernel, rfl⟩
theorem d_X8_isGiven_1 : zDc M_X8_isGiven 1 (.istore_n 3) 1 2 := ⟨by decide +kernel, rfl⟩
theorem d_X8_isGiven_2 : zDc M_X8_isGiven 2 (.iconst 0) 1 3 := ⟨by decide +kernel, rfl⟩
theorem d_X8_isGiven_3 : zDc M_X8_isGiven 3 (.istore 4) 2 5 := ⟨by decide +kernel, rfl⟩
theorem d_X8_isGiven_5 : zDc M_X8_isGiven 5 (.iload 4) 2 7 := ⟨by decide +kernel, rfl⟩
theorem d_X8_isGiven_7 : zDc M_X8_isGiven 7 (.aload_n 0) 1 8 := ⟨by decide +kernel, rfl⟩
theorem d_X8_isGiven_8 : zDc M_X8_isGiven 8 (.getfield 13) 3 11 := ⟨by decide +kernel, rfl⟩
theorem d_X8_isGiven_11 : zDc M_X8_isGiven 11 (.iconst 2) 1 12 := ⟨by decide +kernel, rfl⟩
theorem d_X8_isGiven_12 : zDc M_X8_isGiven 12 (.iaload) 1 13 := ⟨by decide +kernel, rfl⟩
theorem d_X8_isGiven_13 : zDj M_X8_isGiven 13 (.if_icmp .ge 73) 73 16 86 := ⟨by decide +kernel, rfl, by decide⟩
theorem d_X8_isGiven_16 : zDc M_X8_isGiven 16 (.aload_n 0) 1 17 := ⟨by decide +kernel, rfl⟩
theorem d_X8_isGiven_17 : zDc M_X8_isGiven 17 (.iload_n 1) 1 18 := ⟨by decide +kernel, rfl⟩
theorem d_X8_isGiven_18 : zDc M_X8_isGiven 18 (.iload 4) 2 20 := ⟨by decide +kernel, rfl⟩
theorem d_X8_isGiven_20 : zDc M_X8_isGiven 20 (.aload_n 0) 1 21 := ⟨by decide +kernel, rfl⟩
theorem d_X8_isGiven_21 : zDc M_X8_isGiven 21 (.getfield 81) 3 24 := ⟨by decide +kernel, rfl⟩
theorem d_X8_isGiven_24 : zDc M_X8_isGiven 24 (.bipush 8) 2 26 := ⟨by decide +kernel, rfl⟩
theorem d_X8_isGiven_26 : zDc M_X8_isGiven 26 (.iload_n 1) 1 27 := ⟨by decide +kernel, rfl⟩
theorem d_X8_isGiven_27 : zDc M_X8_isGiven 27 (.imul) 1 28 := ⟨by decide +kernel, rfl⟩
theorem d_X8_isGiven_28 : zDc M_X8_isGiven 28 (.iload_n 2) 1 29 := ⟨by decide +kernel, rfl⟩
theorem d_X8_isGiven_29 : zDc M_X8_isGiven 29 (.iadd) 1 30 := ⟨by decide +kernel, rfl⟩
theorem d_X8_isGiven_30 : zDc M_X8_isGiven 30 (.iaload) 1 31 := ⟨by decide +kernel, rfl⟩
theorem d_X8_isGiven_31 : zDc M_X8_isGiven 31 (.invokevirtual 390) 3 34 := ⟨by decide +kernel, rfl⟩
theorem d_X8_isGiven_34 : zDj M_X8_isGiven 34 (.ifCond .eq 46) 46 37 80 := ⟨by decide +kernel, rfl, by decide⟩
theorem d_X8_isGiven_37 : zDc M_X8_isGiven 37 (.aload_n 0) 1 38 := ⟨by decide +kernel, rfl⟩
theorem d_X8_isGiven_38 : zDc M_X8_isGiven 38 (.iload_n 1) 1 39 := ⟨by decide +kernel, rfl⟩
theorem d_X8_isGiven_39 : zDc M_X8_isGiven 39 (.iload 4) 2 41 := ⟨by decide +kernel, rfl⟩
theorem d_X8_isGiven_41 : zDc M_X8_isGiven 41 (.invokevirtual 394) 3 44 := ⟨by decide +kernel, rfl⟩
theorem d_X8_isGiven_44 : zDc M_X8_isGiven 44 (.aload_n 0) 1 45 := ⟨by decide +kernel, rfl⟩
theorem d_X8_isGiven_45 : zDc M_X8_isGiven 45 (.getfield 13) 3 48 := ⟨by decide +kernel, rfl⟩
theorem d_X8_isGiven_48 : zDc M_X8_isGiven 48 (.iconst 5) 1 49 := ⟨by decide +kernel, rfl⟩
theorem d_X8_isGiven_49 : zDc M_X8_isGiven 49 (.iaload) 1 50 := ⟨by decide +kernel, rfl⟩
theorem d_X8_isGiven_50 : zDj M_X8_isGiven 50 (.if_icmp .lt 6) 6 53 56 := ⟨by decide +kernel, rfl, by decide⟩
theorem d_X8_isGiven_53 : zDj M_X8_isGiven 53 (.goto 27) 27 56 80 := ⟨by decide +kernel, rfl, by decide⟩
theorem d_X8_isGiven_56 : zDc M_X8_isGiven 56 (.iload_n 3) 1 57 := ⟨by decide +kernel, rfl⟩
theorem d_X8_isGiven_57 : zDc M_X8_isGiven 57 (.iconst (-1)) 1 58 := ⟨by decide +kernel, rfl⟩
theorem d_X8_isGiven_58 : zDj M_X8_isGiven 58 (.if_icmp .eq 19) 19 61 77 := ⟨by decide +kernel, rfl, by decide⟩
theorem d_X8_isGiven_61 : zDc M_X8_isGiven 61 (.aload_n 0) 1 62 := ⟨by decide +kernel, rfl⟩
theorem d_X8_isGiven_62 : zDc M_X8_isGiven 62 (.iload_n 1) 1 63 := ⟨by decide +kernel, rfl⟩
theorem d_X8_isGiven_63 : zDc M_X8_isGiven 63 (.iload 4) 2 65 := ⟨by decide +kernel, rfl⟩
theorem d_X8_isGiven_65 : zDc M_X8_isGiven 65 (.invokevirtual 394) 3 68 := ⟨by decide +kernel, rfl⟩
theorem d_X8_isGiven_68 : zDc M_X8_isGiven 68 (.aload_n 0) 1 69 := ⟨by decide +kernel, rfl⟩
theorem d_X8_isGiven_69 : zDc M_X8_isGiven 69 (.iload_n 1) 1 70 := ⟨by decide +kernel, rfl⟩
theorem d_X8_isGiven_70 : zDc M_X8_isGiven 70 (.iload_n 3) 1 71 := ⟨by decide +kernel, rfl⟩
theorem d_X8_isGiven_71 : zDc M_X8_isGiven 71 (.invokevirtual 394) 3 74 := ⟨by decide +kernel, rfl⟩
theorem d_X8_isGiven_74 : zDj M_X8_isGiven 74 (.if_icmp .ge 6) 6 77 80 := ⟨by decide +kernel, rfl, by decide⟩
theorem d_X8_isGiven_77 : zDc M_X8_isGiven 77 (.iload 4) 2 79 := ⟨by decide +kernel, rfl⟩
theorem d_X8_isGiven_79 : zDc M_X8_isGiven 79 (.istore_n 3) 1 80 := ⟨by decide +kernel, rfl⟩
theorem d_X8_isGiven_80 : zDc M_X8_isGiven 80 (.iinc 4 1) 3 83 := ⟨by decide +kernel, rfl⟩
theorem d_X8_isGiven_83 : zDj M_X8_isGiven 83 (.goto (-78)) (-78) 86 5 := ⟨by decide +kernel, rfl, by decide⟩
theorem d_X8_isGiven_86 : zDc M_X8_isGiven 86 (.aload_n 0) 1 87 := ⟨by decide +kernel, rfl⟩
theorem d_X8_isGiven_87 : zDc M_X8_isGiven 87 (.getfield 90) 3 90 := ⟨by decide +kernel, rfl⟩
theorem d_X8_isGiven_90 : zDc M_X8_isGiven 90 (.bipush 8) 2 92 := ⟨by decide +kernel, rfl⟩
theorem d_X8_isGiven_92 : zDc M_X8_isGiven 92 (.iload_n 1) 1 93 := ⟨by decide +kernel, rfl⟩
theorem d_X8_isGiven_93 : zDc M_X8_isGiven 93 (.imul) 1 94 := ⟨by decide +kernel, rfl⟩
theorem d_X8_isGiven_94 : zDc M_X8_isGiven 94 (.iload_n 2) 1 95 := ⟨by decide +kernel, rfl⟩
theorem d_X8_isGiven_95 : zDc M_X8_isGiven 95 (.iadd) 1 96 := ⟨by decide +kernel, rfl⟩
theorem d_X8_isGiven_96 : zDc M_X8_isGiven 96 (.iload_n 3) 1 97 := ⟨by decide +kernel, rfl⟩
theorem d_X8_isGiven_97 : zDc M_X8_isGiven 97 (.iastore) 1 98 := ⟨by decide +kernel, rfl⟩
theorem d_X8_isGiven_98 : zDc M_X8_isGiven 98 (.return_) 1 99 := ⟨by decide +kernel, rfl⟩
def f_X8_isGiven (a0 : Nat) (a1 : Int32) (a2 : Int32) (h0 : zHp) : Option (Unit × zHp) :=
  zbd (
  zlp (σ := (Int32 × Int32)) (β := (Int32 × Int32)) zLF (fun s1 h2 =>
  zob (zgR h2 a0 8 3) (fun v5 =>
  zob (zaI 0 h2 v5 2) (fun v6 =>
  if v6 ≤ s1.2 then
  some ((.inr (s1.1, s1.2)), h2)
  else
  zob (zgR h2 a0 8 38) (fun v7 =>
  zob (zaI 0 h2 v7 ((8 * a1) + a2)) (fun v8 =>
  zbd (zcv 8 a0 h2 (f_X8_doesSee a0 a1 s1.2 v8 h2)) (fun v10 h9 =>
  if v10 = 0 then
  some ((.inl (s1.1, (s1.2 + 1))), h9)
  else
  zbd (zcv 8 a0 h9 (f_X8_ownUp a0 a1 s1.2 h9)) (fun v12 h11 =>
  zob (zgR h11 a0 8 3) (fun v13 =>
  zob (zaI 0 h11 v13 5) (fun v14 =>
  if v12 < v14 then
  if s1.1 = (-1) then
  some ((.inl (s1.2, (s1.2 + 1))), h11)
  else
  zbd (zcv 8 a0 h11 (f_X8_ownUp a0 a1 s1.2 h11)) (fun v16 h15 =>
  zbd (zcv 8 a0 h15 (f_X8_ownUp a0 a1 s1.1 h15)) (fun v18 h17 =>
  if v18 ≤ v16 then
  some ((.inl (s1.1, (s1.2 + 1))), h17)
  else
  some ((.inl (s1.2, (s1.2 + 1))), h17)))
  else
  some ((.inl (s1.1, (s1.2 + 1))), h11)))))))))) ((-1), 0) h0) (fun e3 h4 =>
  zob (zgR h4 a0 8 41) (fun v19 =>
  zob (zsI 0 h4 v19 ((8 * a1) + a2) e3.1) (fun h20 =>
  some ((), h20))))
set_option maxRecDepth 100000 in
set_option maxHeartbeats 4000000 in
theorem t_X8_isGiven (a0 : Nat) (a1 : Int32) (a2 : Int32) (h0 : zHp) : ∀ (r : Unit) (h' : zHp), f_X8_isGiven a0 a1 a2 h0 = some (r, h') → zCt yX8_isGiven (.code yX8_isGiven cX8_isGiven 5 none) 3 106 0 0 [.ref a0, .int a1, .int a2] h0 (none) h' := by
  refine zct_of M_X8_isGiven yX8_isGiven (by decide) rfl rfl [.ref a0, .int a1, .int a2] h0 (Nat.le_of_ble_eq_true rfl) (fun _ => none) (fun X => ?_)
  show zG X M_X8_isGiven (0, 0) 0 [(0, .ref a0), (1, .int a1), (2, .int a2)] [] h0 (f_X8_isGiven a0 a1 a2 h0) (fun (_ : Unit) h' => zKe X (none) h')
  unfold f_X8_isGiven
  refine zg_iconst (-1) rfl d_X8_isGiven_0 ?_
  refine zg_istore_n [(3, .int (-1)), (0, .ref a0), (1, .int a1), (2, .int a2)] d_X8_isGiven_1 rfl (by decide) rfl ?_
  refine zg_iconst 0 rfl d_X8_isGiven_2 ?_
  refine zg_istore [(4, .int 0), (3, .int (-1)), (0, .ref a0), (1, .int a1), (2, .int a2)] d_X8_isGiven_3 (by decide) rfl ?_
  refine zg_bd (E := 86) (el := (fun (e3 : (Int32 × Int32)) => [(0, .ref a0), (1, .int a1), (2, .int a2), (3, .int e3.1), (4, .int e3.2)])) (es := fun _ => []) (zg_sub [2, 3, 4, 1, 0] rfl (zg_lp (el := (fun (s1 : (Int32 × Int32)) => [(0, .ref a0), (1, .int a1), (2, .int a2), (3, .int s1.1), (4, .int s1.2)])) (fun s1 h2 => ?_) ((-1), 0) h0)) (fun e3 h4 => ?_)
  · refine zg_iload 4 rfl d_X8_isGiven_5 ?_
    refine zg_aload_n 0 rfl d_X8_isGiven_7 ?_
    refine zg_getR d_X8_isGiven_8 zc_8 (by decide) fl_X8_13 (fun v5 => ?_)
    refine zg_iconst 2 rfl d_X8_isGiven_11 ?_
    refine zg_ald0 d_X8_isGiven_12 (fun v6 => ?_)
    refine zg_icmp_ge d_X8_isGiven_13 ?_ ?_
    · exact zg_finK (E := 0) [0, 1, 2, 3, 4] rfl rfl (fun q => q)
    · refine zg_aload_n 0 rfl d_X8_isGiven_16 ?_
      refine zg_iload_n 1 rfl d_X8_isGiven_17 ?_
      refine zg_iload 4 rfl d_X8_isGiven_18 ?_
      refine zg_aload_n 0 rfl d_X8_isGiven_20 ?_
      refine zg_getR d_X8_isGiven_21 zc_8 (by decide) fl_X8_81 (fun v7 => ?_)
      refine zg_bipush 8 rfl d_X8_isGiven_24 ?_
      refine zg_iload_n 1 rfl d_X8_isGiven_26 ?_
      refine zg_imul d_X8_isGiven_27 ?_
      refine zg_iload_n 2 rfl d_X8_isGiven_28 ?_
      refine zg_iadd d_X8_isGiven_29 ?_
      refine zg_ald0 d_X8_isGiven_30 (fun v8 => ?_)
      refine zg_cVi (b := a0) (As := [.int a1, .int s1.2, .int v8]) (rest := []) (0, 0) d_X8_isGiven_31 zc_8 rfl cw_X8_390 wi_X8_doesSee ws_X8_doesSee rfl rfl (Nat.le_of_ble_eq_true rfl) (by decide) (by decide) ⟨by decide, by decide⟩ rfl (t_X8_doesSee a0 a1 s1.2 v8 h2) (fun v10 h9 => ?_)
      refine zg_if_eq d_X8_isGiven_34 ?_ ?_
      · refine zg_iinc 4 (s1.2 + 1) [(4, .int (s1.2 + 1)), (0, .ref a0), (1, .int a1), (2, .int a2), (3, .int s1.1)] d_X8_isGiven_80 rfl rfl (by decide) rfl ?_
        refine zg_goto d_X8_isGiven_83 ?_
        exact zg_finK (E := 0) [1, 2, 3, 4, 0] rfl rfl (fun q => q)
      · refine zg_aload_n 0 rfl d_X8_isGiven_37 ?_
        refine zg_iload_n 1 rfl d_X8_isGiven_38 ?_
        refine zg_iload 4 rfl d_X8_isGiven_39 ?_
        refine zg_cVi (b := a0) (As := [.int a1, .int s1.2]) (rest := []) (0, 0) d_X8_isGiven_41 zc_8 rfl cw_X8_394 wi_X8_ownUp ws_X8_ownUp rfl rfl (Nat.le_of_ble_eq_true rfl) (by decide) (by decide) ⟨by decide, by decide⟩ rfl (t_X8_ownUp a0 a1 s1.2 h9) (fun v12 h11 => ?_)
        refine zg_aload_n 0 rfl d_X8_isGiven_44 ?_
        refine zg_getR d_X8_isGiven_45 zc_8 (by decide) fl_X8_13 (fun v13 => ?_)
        refine zg_iconst 5 rfl d_X8_isGiven_48 ?_
        refine zg_ald0 d_X8_isGiven_49 (fun v14 => ?_)
        refine zg_icmp_lt d_X8_isGiven_50 ?_ ?_
        · refine zg_iload_n 3 rfl d_X8_isGiven_56 ?_
          refine zg_iconst (-1) rfl d_X8_isGiven_57 ?_
          refine zg_icmp_eq d_X8_isGiven_58 ?_ ?_
          · refine zg_iload 4 rfl d_X8_isGiven_77 ?_
            refine zg_istore_n [(3, .int s1.2), (0, .ref a0), (1, .int a1), (2, .int a2), (4, .int s1.2)] d_X8_isGiven_79 rfl (by decide) rfl ?_
            refine zg_iinc 4 (s1.2 + 1) [(4, .int (s1.2 + 1)), (3, .int s1.2), (0, .ref a0), (1, .int a1), (2, .int a2)] d_X8_isGiven_80 rfl rfl (by decide) rfl ?_
            refine zg_goto d_X8_isGiven_83 ?_
            exact zg_finK (E := 0) [2, 3, 4, 1, 0] rfl rfl (fun q => q)
          · refine zg_aload_n 0 rfl d_X8_isGiven_61 ?_
            refine zg_iload_n 1 rfl d_X8_isGiven_62 ?_
            refine zg_iload 4 rfl d_X8_isGiven_63 ?_
            refine zg_cVi (b := a0) (As := [.int a1, .int s1.2]) (rest := []) (0, 0) d_X8_isGiven_65 zc_8 rfl cw_X8_394 wi_X8_ownUp ws_X8_ownUp rfl rfl (Nat.le_of_ble_eq_true rfl) (by decide) (by decide) ⟨by decide, by decide⟩ rfl (t_X8_ownUp a0 a1 s1.2 h11) (fun v16 h15 => ?_)
            refine zg_aload_n 0 rfl d_X8_isGiven_68 ?_
            refine zg_iload_n 1 rfl d_X8_isGiven_69 ?_
            refine zg_iload_n 3 rfl d_X8_isGiven_70 ?_
            refine zg_cVi (b := a0) (As := [.int a1, .int s1.1]) (rest := [.int v16]) (0, 0) d_X8_isGiven_71 zc_8 rfl cw_X8_394 wi_X8_ownUp ws_X8_ownUp rfl rfl (Nat.le_of_ble_eq_true rfl) (by decide) (by decide) ⟨by decide, by decide⟩ rfl (t_X8_ownUp a0 a1 s1.1 h15) (fun v18 h17 => ?_)
            refine zg_icmp_ge d_X8_isGiven_74 ?_ ?_
            · refine zg_iinc 4 (s1.2 + 1) [(4, .int (s1.2 + 1)), (0, .ref a0), (1, .int a1), (2, .int a2), (3, .int s1.1)] d_X8_isGiven_80 rfl rfl (by decide) rfl ?_
              refine zg_goto d_X8_isGiven_83 ?_
              exact zg_finK (E := 0) [1, 2, 3, 4, 0] rfl rfl (fun q => q)
            · refine zg_iload 4 rfl d_X8_isGiven_77 ?_
              refine zg_istore_n [(3, .int s1.2), (0, .ref a0), (1, .int a1), (2, .int a2), (4, .int s1.2)] d_X8_isGiven_79 rfl (by decide) rfl ?_
              refine zg_iinc 4 (s1.2 + 1) [(4, .int (s1.2 + 1)), (3, .int s1.2), (0, .ref a0), (1, .int a1), (2, .int a2)] d_X8_isGiven_80 rfl rfl (by decide) rfl ?_
              refine zg_goto d_X8_isGiven_83 ?_
              exact zg_finK (E := 0) [2, 3, 4, 1, 0] rfl rfl (fun q => q)
        · refine zg_goto d_X8_isGiven_53 ?_
          refine zg_iinc 4 (s1.2 + 1) [(4, .int (s1.2 + 1)), (0, .ref a0), (1, .int a1), (2, .int a2), (3, .int s1.1)] d_X8_isGiven_80 rfl rfl (by decide) rfl ?_
          refine zg_goto d_X8_isGiven_83 ?_
          exact zg_finK (E := 0) [1, 2, 3, 4, 0] rfl rfl (fun q => q)
  · refine zg_aload_n 0 rfl d_X8_isGiven_86 ?_
    refine zg_getR d_X8_isGiven_87 zc_8 (by decide) fl_X8_90 (fun v19 => ?_)
    refine zg_bipush 8 rfl d_X8_isGiven_90 ?_
    refine zg_iload_n 1 rfl d_X8_isGiven_92 ?_
    refine zg_imul d_X8_isGiven_93 ?_
    refine zg_iload_n 2 rfl d_X8_isGiven_94 ?_
    refine zg_iadd d_X8_isGiven_95 ?_
    refine zg_iload_n 3 rfl d_X8_isGiven_96 ?_
    refine zg_ast0 d_X8_isGiven_97 (fun h20 => ?_)
    exact zg_vretK d_X8_isGiven_98 rfl ⟨Nat.le_of_ble_eq_true rfl, Nat.le_of_ble_eq_true rfl⟩ (fun q => q)
abbrev M_X8_joins : zMt := (RX8, cX8_joins, 8, 2, 82, none, "joins", 0, 0)
theorem d_X8_joins_0 : zDc M_X8_joins 0 (.iconst 0) 1 1 := ⟨by decide +kernel, rfl⟩
theorem d_X8_joins_1 : zDc M_X8_joins 1 (.istore_n 2) 1 2 := ⟨by decide +kernel, rfl⟩
theorem d_X8_joins_2 : zDc M_X8_joins 2 (.iload_n 2) 1 3 := ⟨by decide +kernel, rfl⟩
theorem d_X8_joins_3 : zDc M_X8_joins 3 (.aload_n 0) 1 4 := ⟨by decide +kernel, rfl⟩
theorem d_X8_joins_4 : zDc M_X8_joins 4 (.getfield 13) 3 7 := ⟨by decide +kernel, rfl⟩
theorem d_X8_joins_7 : zDc M_X8_joins 7 (.iconst 1) 1 8 := ⟨by decide +kernel, rfl⟩
theorem d_X8_joins_8 : zDc M_X8_joins 8 (.iaload) 1 9 := ⟨by decide +kernel, rfl⟩
theorem d_X8_joins_9 : zDj M_X8_joins 9 (.if_icmp .ge 182) 182 12 191 := ⟨by decide +kernel, rfl, by decide⟩
theorem d_X8_joins_12 : zDc M_X8_joins 12 (.aload_n 0) 1 13 := ⟨by decide +kernel, rfl⟩
theorem d_X8_joins_13 : zDc M_X8_joins 13 (.getfield 343) 3 16 := ⟨by decide +kernel, rfl⟩
theorem d_X8_joins_16 : zDc M_X8_joins 16 (.iconst 4) 1 17 := ⟨by decide +kernel, rfl⟩
theorem d_X8_joins_17 : zDj M_X8_joins 17 (.if_icmp .eq 174) 174 20 191 := ⟨by decide +kernel, rfl, by decide⟩
theorem d_X8_joins_20 : zDc M_X8_joins 20 (.iload_n 2) 1 21 := ⟨by decide +kernel, rfl⟩
theorem d_X8_joins_21 : zDc M_X8_joins 21 (.iconst 1) 1 22 := ⟨by decide +kernel, rfl⟩
theorem d_X8_joins_22 : zDc M_X8_joins 22 (.iadd) 1 23 := ⟨by decide +kernel, rfl⟩
theorem d_X8_joins_23 : zDc M_X8_joins 23 (.istore_n 3) 1 24 := ⟨by decide +kernel, rfl⟩
theorem d_X8_joins_24 : zDc M_X8_joins 24 (.iload_n 3) 1 25 := ⟨by decide +kernel, rfl⟩
theorem d_X8_joins_25 : zDc M_X8_joins 25 (.aload_n 0) 1 26 := ⟨by decide +kernel, rfl⟩
theorem d_X8_joins_26 : zDc M_X8_joins 26 (.getfield 13) 3 29 := ⟨by decide +kernel, rfl⟩
theorem d_X8_joins_29 : zDc M_X8_joins 29 (.iconst 1) 1 30 := ⟨by decide +kernel, rfl⟩
theorem d_X8_joins_30 : zDc M_X8_joins 30 (.iaload) 1 31 := ⟨by decide +kernel, rfl⟩
theorem d_X8_joins_31 : zDj M_X8_joins 31 (.if_icmp .ge 154) 154 34 185 := ⟨by decide +kernel, rfl, by decide⟩
theorem d_X8_joins_34 : zDc M_X8_joins 34 (.aload_n 0) 1 35 := ⟨by decide +kernel, rfl⟩
theorem d_X8_joins_35 : zDc M_X8_joins 35 (.iload_n 1) 1 36 := ⟨by decide +kernel, rfl⟩
theorem d_X8_joins_36 : zDc M_X8_joins 36 (.iload_n 2) 1 37 := ⟨by decide +kernel, rfl⟩
theorem d_X8_joins_37 : zDc M_X8_joins 37 (.invokevirtual 351) 3 40 := ⟨by decide +kernel, rfl⟩
theorem d_X8_joins_40 : zDj M_X8_joins 40 (.ifCond .eq 139) 139 43 179 := ⟨by decide +kernel, rfl, by decide⟩
theorem d_X8_joins_43 : zDc M_X8_joins 43 (.aload_n 0) 1 44 := ⟨by decide +kernel, rfl⟩
theorem d_X8_joins_44 : zDc M_X8_joins 44 (.iload_n 1) 1 45 := ⟨by decide +kernel, rfl⟩
theorem d_X8_joins_45 : zDc M_X8_joins 45 (.iload_n 3) 1 46 := ⟨by decide +kernel, rfl⟩
theorem d_X8_joins_46 : zDc M_X8_joins 46 (.invokevirtual 351) 3 49 := ⟨by decide +kernel, rfl⟩
theorem d_X8_joins_49 : zDj M_X8_joins 49 (.ifCond .eq 130) 130 52 179 := ⟨by decide +kernel, rfl, by decide⟩
theorem d_X8_joins_52 : zDc M_X8_joins 52 (.aload_n 0) 1 53 := ⟨by decide +kernel, rfl⟩
theorem d_X8_joins_53 : zDc M_X8_joins 53 (.getfield 81) 3 56 := ⟨by decide +kernel, rfl⟩
theorem d_X8_joins_56 : zDc M_X8_joins 56 (.bipush 8) 2 58 := ⟨by decide +kernel, rfl⟩
theorem d_X8_joins_58 : zDc M_X8_joins 58 (.iload_n 1) 1 59 := ⟨by decide +kernel, rfl⟩
theorem d_X8_joins_59 : zDc M_X8_joins 59 (.imul) 1 60 := ⟨by decide +kernel, rfl⟩
theorem d_X8_joins_60 : zDc M_X8_joins 60 (.iload_n 2) 1 61 := ⟨by decide +kernel, rfl⟩
theorem d_X8_joins_61 : zDc M_X8_joins 61 (.iadd) 1 62 := ⟨by decide +kernel, rfl⟩
theorem d_X8_joins_62 : zDc M_X8_joins 62 (.iaload) 1 63 := ⟨by decide +kernel, rfl⟩
theorem d_X8_joins_63 : zDc M_X8_joins 63 (.aload_n 0) 1 64 := ⟨by decide +kernel, rfl⟩
theorem d_X8_joins_64 : zDc M_X8_joins 64 (.getfield 81) 3 67 := ⟨by decide +kernel, rfl⟩
theorem d_X8_joins_67 : zDc M_X8_joins 67 (.bipush 8) 2 69 := ⟨by decide +kernel, rfl⟩
theorem d_X8_joins_69 : zDc M_X8_joins 69 (.iload_n 1) 1 70 := ⟨by decide +kernel, rfl⟩
theorem d_X8_joins_70 : zDc M_X8_joins 70 (.imul) 1 71 := ⟨by decide +kernel, rfl⟩
theorem d_X8_joins_71 : zDc M_X8_joins 71 (.iload_n 3) 1 72 := ⟨by decide +kernel, rfl⟩
theorem d_X8_joins_72 : zDc M_X8_joins 72 (.iadd) 1 73 := ⟨by decide +kernel, rfl⟩
theorem d_X8_joins_73 : zDc M_X8_joins 73 (.iaload) 1 74 := ⟨by decide +kernel, rfl⟩
theorem d_X8_joins_74 : zDj M_X8_joins 74 (.if_icmp .eq 6) 6 77 80 := ⟨by decide +kernel, rfl, by decide⟩
theorem d_X8_joins_77 : zDj M_X8_joins 77 (.goto 102) 102 80 179 := ⟨by decide +kernel, rfl, by decide⟩
theorem d_X8_joins_80 : zDc M_X8_joins 80 (.bipush 8) 2 82 := ⟨by decide +kernel, rfl⟩
theorem d_X8_joins_82 : zDc M_X8_joins 82 (.iload_n 1) 1 83 := ⟨by decide +kernel, rfl⟩
theorem d_X8_joins_83 : zDc M_X8_joins 83 (.imul) 1 84 := ⟨by decide +kernel, rfl⟩
theorem d_X8_joins_84 : zDc M_X8_joins 84 (.iload_n 2) 1 85 := ⟨by decide +kernel, rfl⟩
theorem d_X8_joins_85 : zDc M_X8_joins 85 (.iadd) 1 86 := ⟨by decide +kernel, rfl⟩
theorem d_X8_joins_86 : zDc M_X8_joins 86 (.istore 4) 2 88 := ⟨by decide +kernel, rfl⟩
theorem d_X8_joins_88 : zDc M_X8_joins 88 (.bipush 8) 2 90 := ⟨by decide +kernel, rfl⟩
theorem d_X8_joins_90 : zDc M_X8_joins 90 (.iload_n 1) 1 91 := ⟨by decide +kernel, rfl⟩
theorem d_X8_joins_91 : zDc M_X8_joins 91 (.imul) 1 92 := ⟨by decide +kernel, rfl⟩
theorem d_X8_joins_92 : zDc M_X8_joins 92 (.iload_n 3) 1 93 := ⟨by decide +kernel, rfl⟩
theorem d_X8_joins_93 : zDc M_X8_joins 93 (.iadd) 1 94 := ⟨by decide +kernel, rfl⟩
theorem d_X8_joins_94 : zDc M_X8_joins 94 (.istore 5) 2 96 := ⟨by decide +kernel, rfl⟩
theorem d_X8_joins_96 : zDc M_X8_joins 96 (.bipush 20) 2 98 := ⟨by decide +kernel, rfl⟩
theorem d_X8_joins_98 : zDc M_X8_joins 98 (.aload_n 0) 1 99 := ⟨by decide +kernel, rfl⟩
theorem d_X8_joins_99 : zDc M_X8_joins 99 (.getfield 84) 3 102 := ⟨by decide +kernel, rfl⟩
theorem d_X8_joins_102 : zDc M_X8_joins 102 (.iload 4) 2 104 := ⟨by decide +kernel, rfl⟩
theorem d_X8_joins_104 : zDc M_X8_joins 104 (.iaload) 1 105 := ⟨by decide +kernel, rfl⟩
theorem d_X8_joins_105 : zDc M_X8_joins 105 (.aload_n 0) 1 106 := ⟨by decide +kernel, rfl⟩
theorem d_X8_joins_106 : zDc M_X8_joins 106 (.getfield 84) 3 109 := ⟨by decide +kernel, rfl⟩
theorem d_X8_joins_109 : zDc M_X8_joins 109 (.iload 5) 2 111 := ⟨by decide +kernel, rfl⟩
theorem d_X8_joins_111 : zDc M_X8_joins 111 (.iaload) 1 112 := ⟨by decide +kernel, rfl⟩
theorem d_X8_joins_112 : zDc M_X8_joins 112 (.iadd) 1 113 := ⟨by decide +kernel, rfl⟩
theorem d_X8_joins_113 : zDc M_X8_joins 113 (.invokestatic 381) 3 116 := ⟨by decide +kernel, rfl⟩
theorem d_X8_joins_116 : zDc M_X8_joins 116 (.istore 6) 2 118 := ⟨by decide +kernel, rfl⟩
theorem d_X8_joins_118 : zDc M_X8_joins 118 (.aload_n 0) 1 119 := ⟨by decide +kernel, rfl⟩
theorem d_X8_joins_119 : zDc M_X8_joins 119 (.getfield 84) 3 122 := ⟨by decide +kernel, rfl⟩
theorem d_X8_joins_122 : zDc M_X8_joins 122 (.iload 4) 2 124 := ⟨by decide +kernel, rfl⟩
theorem d_X8_joins_124 : zDc M_X8_joins 124 (.iaload) 1 125 := ⟨by decide +kernel, rfl⟩
theorem d_X8_joins_125 : zDc M_X8_joins 125 (.aload_n 0) 1 126 := ⟨by decide +kernel, rfl⟩
theorem d_X8_joins_126 : zDc M_X8_joins 126 (.getfield 84) 3 129 := ⟨by decide +kernel, rfl⟩
theorem d_X8_joins_129 : zDc M_X8_joins 129 (.iload 5) 2 131 := ⟨by decide +kernel, rfl⟩
theorem d_X8_joins_131 : zDc M_X8_joins 131 (.iaload) 1 132 := ⟨by decide +kernel, rfl⟩
theorem d_X8_joins_132 : zDj M_X8_joins 132 (.if_icmp .lt 7) 7 135 139 := ⟨by decide +kernel, rfl, by decide⟩
theorem d_X8_joins_135 : zDc M_X8_joins 135 (.iconst 1) 1 136 := ⟨by decide +kernel, rfl⟩
theorem d_X8_joins_136 : zDj M_X8_joins 136 (.goto 4) 4 139 140 := ⟨by decide +kernel, rfl, by decide⟩
theorem d_X8_joins_139 : zDc M_X8_joins 139 (.iconst 0) 1 140 := ⟨by decide +kernel, rfl⟩
theorem d_X8_joins_140 : zDc M_X8_joins 140 (.istore 7) 2 142 := ⟨by decide +kernel, rfl⟩
theorem d_X8_joins_142 : zDc M_X8_joins 142 (.aload_n 0) 1 143 := ⟨by decide +kernel, rfl⟩
theorem d_X8_joins_143 : zDc M_X8_joins 143 (.getfield 84) 3 146 := ⟨by decide +kernel, rfl⟩
theorem d_X8_joins_146 : zDc M_X8_joins 146 (.iload 7) 2 148 := ⟨by decide +kernel, rfl⟩
theorem d_X8_joins_148 : zDj M_X8_joins 148 (.ifCond .eq 8) 8 151 156 := ⟨by decide +kernel, rfl, by decide⟩
theorem d_X8_joins_151 : zDc M_X8_joins 151 (.iload 4) 2 153 := ⟨by decide +kernel, rfl⟩
theorem d_X8_joins_153 : zDj M_X8_joins 153 (.goto 5) 5 156 158 := ⟨by decide +kernel, rfl, by decide⟩
theorem d_X8_joins_156 : zDc M_X8_joins 156 (.iload 5) 2 158 := ⟨by decide +kernel, rfl⟩
theorem d_X8_joins_158 : zDc M_X8_joins 158 (.iload 6) 2 160 := ⟨by decide +kernel, rfl⟩
theorem d_X8_joins_160 : zDc M_X8_joins 160 (.iastore) 1 161 := ⟨by decide +kernel, rfl⟩
theorem d_X8_joins_161 : zDc M_X8_joins 161 (.aload_n 0) 1 162 := ⟨by decide +kernel, rfl⟩
theorem d_X8_joins_162 : zDc M_X8_joins 162 (.getfield 93) 3 165 := ⟨by decide +kernel, rfl⟩
theorem d_X8_joins_165 : zDc M_X8_joins 165 (.iload 7) 2 167 := ⟨by decide +kernel, rfl⟩
theorem d_X8_joins_167 : zDj M_X8_joins 167 (.ifCond .eq 8) 8 170 175 := ⟨by decide +kernel, rfl, by decide⟩
theorem d_X8_joins_170 : zDc M_X8_joins 170 (.iload 5) 2 172 := ⟨by decide +kernel, rfl⟩
theorem d_X8_joins_172 : zDj M_X8_joins 172 (.goto 5) 5 175 177 := ⟨by decide +kernel, rfl, by decide⟩
theorem d_X8_joins_175 : zDc M_X8_joins 175 (.iload 4) 2 177 := ⟨by decide +kernel, rfl⟩
theorem d_X8_joins_177 : zDc M_X8_joins 177 (.iconst 3) 1 178 := ⟨by decide +kernel, rfl⟩
theorem d_X8_joins_178 : zDc M_X8_joins 178 (.iastore) 1 179 := ⟨by decide +kernel, rfl⟩
theorem d_X8_joins_179 : zDc M_X8_joins 179 (.iinc 3 1) 3 182 := ⟨by decide +kernel, rfl⟩
theorem d_X8_joins_182 : zDj M_X8_joins 182 (.goto (-158)) (-158) 185 24 := ⟨by decide +kernel, rfl, by decide⟩
theorem d_X8_joins_185 : zDc M_X8_joins 185 (.iinc 2 1) 3 188 := ⟨by decide +kernel, rfl⟩
theorem d_X8_joins_188 : zDj M_X8_joins 188 (.goto (-186)) (-186) 191 2 := ⟨by decide +kernel, rfl, by decide⟩
theorem d_X8_joins_191 : zDc M_X8_joins 191 (.return_) 1 192 := ⟨by decide +kernel, rfl⟩
def f_X8_joins (a0 : Nat) (a1 : Int32) (h0 : zHp) : Option (Unit × zHp) :=
  zbd (
  zlp (σ := Int32) (β := Int32) zLF (fun s1 h2 =>
  zob (zgR h2 a0 8 3) (fun v5 =>
  zob (zaI 0 h2 v5 1) (fun v6 =>
  if v6 ≤ s1 then
  some ((.inr s1), h2)
  else
  zob (zgI h2 a0 8 49) (fun v7 =>
  if v7 = 4 then
  some ((.inr s1), h2)
  else
  zbd (
  zlp (σ := Int32) (β := Int32) zLF (fun s8 h9 =>
  zob (zgR h9 a0 8 3) (fun v12 =>
  zob (zaI 0 h9 v12 1) (fun v13 =>
  if v13 ≤ s8 then
  some ((.inr s8), h9)
  else
  zbd (zcv 8 a0 h9 (f_X8_isUp a0 a1 s1 h9)) (fun v15 h14 =>
  if v15 = 0 then
  some ((.inl (s8 + 1)), h14)
  else
  zbd (zcv 8 a0 h14 (f_X8_isUp a0 a1 s8 h14)) (fun v17 h16 =>
  if v17 = 0 then
  some ((.inl (s8 + 1)), h16)
  else
  zob (zgR h16 a0 8 38) (fun v18 =>
  zob (zaI 0 h16 v18 ((8 * a1) + s1)) (fun v19 =>
  zob (zgR h16 a0 8 38) (fun v20 =>
  zob (zaI 0 h16 v20 ((8 * a1) + s8)) (fun v21 =>
  if v19 = v21 then
  zob (zgR h16 a0 8 39) (fun v22 =>
  zob (zaI 0 h16 v22 ((8 * a1) + s1)) (fun v23 =>
  zob (zgR h16 a0 8 39) (fun v24 =>
  zob (zaI 0 h16 v24 ((8 * a1) + s8)) (fun v25 =>
  zob (zgR h16 a0 8 39) (fun v26 =>
  zob (zaI 0 h16 v26 ((8 * a1) + s1)) (fun v27 =>
  zob (zgR h16 a0 8 39) (fun v28 =>
  zob (zaI 0 h16 v28 ((8 * a1) + s8)) (fun v29 =>
  zbd (α := Int32) (
  if v27 < v29 then
  some (0, h16)
  else
  some (1, h16)) (fun e30 h31 =>
  zob (zgR h31 a0 8 39) (fun v32 =>
  zbd (α := Int32) (
  if e30 = 0 then
  some (((8 * a1) + s8), h31)
  else
  some (((8 * a1) + s1), h31)) (fun e33 h34 =>
  zob (zsI 0 h34 v32 e33 (zmn 20 (v23 + v25))) (fun h35 =>
  zob (zgR h35 a0 8 42) (fun v36 =>
  zbd (α := Int32) (
  if e30 = 0 then
  some (((8 * a1) + s1), h35)
  else
  some (((8 * a1) + s8), h35)) (fun e37 h38 =>
  zob (zsI 0 h38 v36 e37 3) (fun h39 =>
  some ((.inl (s8 + 1)), h39))))))))))))))))
  else
  some ((.inl (s8 + 1)), h16)))))))))) (s1 + 1) h2) (fun e10 h11 =>
  some ((.inl (s1 + 1)), h11)))))) 0 h0) (fun e3 h4 =>
  some ((), h4))
set_option maxRecDepth 100000 in
set_option maxHeartbeats 4000000 in
theorem t_X8_joins (a0 : Nat) (a1 : Int32) (h0 : zHp) : ∀ (r : Unit) (h' : zHp), f_X8_joins a0 a1 h0 = some (r, h') → zCt yX8_joins (.code yX8_joins cX8_joins 8 none) 2 82 0 0 [.ref a0, .int a1] h0 (none) h' := by
  refine zct_of M_X8_joins yX8_joins (by decide) rfl rfl [.ref a0, .int a1] h0 (Nat.le_of_ble_eq_true rfl) (fun _ => none) (fun X => ?_)
  show zG X M_X8_joins (0, 0) 0 [(0, .ref a0), (1, .int a1)] [] h0 (f_X8_joins a0 a1 h0) (fun (_ : Unit) h' => zKe X (none) h')
  unfold f_X8_joins
  refine zg_iconst 0 rfl d_X8_joins_0 ?_
  refine zg_istore_n [(2, .int 0), (0, .ref a0), (1, .int a1)] d_X8_joins_1 rfl (by decide) rfl ?_
  refine zg_bd (E := 191) (el := (fun (e3 : Int32) => [(0, .ref a0), (1, .int a1), (2, .int e3)])) (es := fun _ => []) (zg_sub [1, 2, 0] rfl (zg_lp (el := (fun (s1 : Int32) => [(0, .ref a0), (1, .int a1), (2, .int s1)])) (fun s1 h2 => ?_) 0 h0)) (fun e3 h4 => ?_)
  · refine zg_iload_n 2 rfl d_X8_joins_2 ?_
    refine zg_aload_n 0 rfl d_X8_joins_3 ?_
    refine zg_getR d_X8_joins_4 zc_8 (by decide) fl_X8_13 (fun v5 => ?_)
    refine zg_iconst 1 rfl d_X8_joins_7 ?_
    refine zg_ald0 d_X8_joins_8 (fun v6 => ?_)
    refine zg_icmp_ge d_X8_joins_9 ?_ ?_
    · exact zg_finK (E := 0) [0, 1, 2] rfl rfl (fun q => q)
    · refine zg_aload_n 0 rfl d_X8_joins_12 ?_
      refine zg_getI d_X8_joins_13 zc_8 (by decide) fl_X8_343 (fun v7 => ?_)
      refine zg_iconst 4 rfl d_X8_joins_16 ?_
      refine zg_icmp_eq d_X8_joins_17 ?_ ?_
      · exact zg_finK (E := 0) [0, 1, 2] rfl rfl (fun q => q)
      · refine zg_iload_n 2 rfl d_X8_joins_20 ?_
        refine zg_iconst 1 rfl d_X8_joins_21 ?_
        refine zg_iadd d_X8_joins_22 ?_
        refine zg_istore_n [(3, .int (s1 + 1)), (0, .ref a0), (1, .int a1), (2, .int s1)] d_X8_joins_23 rfl (by decide) rfl ?_
        refine zg_bd (E := 185) (el := (fun (e10 : Int32) => [(0, .ref a0), (1, .int a1), (2, .int s1), (3, .int e10)])) (es := fun _ => []) (zg_sub [1, 2, 3, 0] rfl (zg_lp (el := (fun (s8 : Int32) => [(0, .ref a0), (1, .int a1), (2, .int s1), (3, .int s8)])) (fun s8 h9 => ?_) (s1 + 1) h2)) (fun e10 h11 => ?_)
        · refine zg_iload_n 3 rfl d_X8_joins_24 ?_
          refine zg_aload_n 0 rfl d_X8_joins_25 ?_
          refine zg_getR d_X8_joins_26 zc_8 (by decide) fl_X8_13 (fun v12 => ?_)
          refine zg_iconst 1 rfl d_X8_joins_29 ?_
          refine zg_ald0 d_X8_joins_30 (fun v13 => ?_)
          refine zg_icmp_ge d_X8_joins_31 ?_ ?_
          · exact zg_finK (E := 0) [0, 1, 2, 3] rfl rfl (fun q => q)
          · refine zg_aload_n 0 rfl d_X8_joins_34 ?_
            refine zg_iload_n 1 rfl d_X8_joins_35 ?_
            refine zg_iload_n 2 rfl d_X8_joins_36 ?_
            refine zg_cVi (b := a0) (As := [.int a1, .int s1]) (rest := []) (0, 0) d_X8_joins_37 zc_8 rfl cw_X8_351 wi_X8_isUp ws_X8_isUp rfl rfl (Nat.le_of_ble_eq_true rfl) (by decide) (by decide) ⟨by decide, by decide⟩ rfl (t_X8_isUp a0 a1 s1 h9) (fun v15 h14 => ?_)
            refine zg_if_eq d_X8_joins_40 ?_ ?_
            · refine zg_iinc 3 (s8 + 1) [(3, .int (s8 + 1)), (0, .ref a0), (1, .int a1), (2, .int s1)] d_X8_joins_179 rfl rfl (by decide) rfl ?_
              refine zg_goto d_X8_joins_182 ?_
              exact zg_finK (E := 0) [1, 2, 3, 0] rfl rfl (fun q => q)
            · refine zg_aload_n 0 rfl d_X8_joins_43 ?_
              refine zg_iload_n 1 rfl d_X8_joins_44 ?_
              refine zg_iload_n 3 rfl d_X8_joins_45 ?_
              refine zg_cVi (b := a0) (As := [.int a1, .int s8]) (rest := []) (0, 0) d_X8_joins_46 zc_8 rfl cw_X8_351 wi_X8_isUp ws_X8_isUp rfl rfl (Nat.le_of_ble_eq_true rfl) (by decide) (by decide) ⟨by decide, by decide⟩ rfl (t_X8_isUp a0 a1 s8 h14) (fun v17 h16 => ?_)
              refine zg_if_eq d_X8_joins_49 ?_ ?_
              · refine zg_iinc 3 (s8 + 1) [(3, .int (s8 + 1)), (0, .ref a0), (1, .int a1), (2, .int s1)] d_X8_joins_179 rfl rfl (by decide) rfl ?_
                refine zg_goto d_X8_joins_182 ?_
                exact zg_finK (E := 0) [1, 2, 3, 0] rfl rfl (fun q => q)
              · refine zg_aload_n 0 rfl d_X8_joins_52 ?_
                refine zg_getR d_X8_joins_53 zc_8 (by decide) fl_X8_81 (fun v18 => ?_)
                refine zg_bipush 8 rfl d_X8_joins_56 ?_
                refine zg_iload_n 1 rfl d_X8_joins_58 ?_
                refine zg_imul d_X8_joins_59 ?_
                refine zg_iload_n 2 rfl d_X8_joins_60 ?_
                refine zg_iadd d_X8_joins_61 ?_
                refine zg_ald0 d_X8_joins_62 (fun v19 => ?_)
                refine zg_aload_n 0 rfl d_X8_joins_63 ?_
                refine zg_getR d_X8_joins_64 zc_8 (by decide) fl_X8_81 (fun v20 => ?_)
                refine zg_bipush 8 rfl d_X8_joins_67 ?_
                refine zg_iload_n 1 rfl d_X8_joins_69 ?_
                refine zg_imul d_X8_joins_70 ?_
                refine zg_iload_n 3 rfl d_X8_joins_71 ?_
                refine zg_iadd d_X8_joins_72 ?_
                refine zg_ald0 d_X8_joins_73 (fun v21 => ?_)
                refine zg_icmp_eq d_X8_joins_74 ?_ ?_
                · refine zg_bipush 8 rfl d_X8_joins_80 ?_
                  refine zg_iload_n 1 rfl d_X8_joins_82 ?_
                  refine zg_imul d_X8_joins_83 ?_
                  refine zg_iload_n 2 rfl d_X8_joins_84 ?_
                  refine zg_iadd d_X8_joins_85 ?_
                  refine zg_istore [(4, .int ((8 * a1) + s1)), (0, .ref a0), (1, .int a1), (2, .int s1), (3, .int s8)] d_X8_joins_86 (by decide) rfl ?_
                  refine zg_bipush 8 rfl d_X8_joins_88 ?_
                  refine zg_iload_n 2 rfl d_X8_joins_90 ?_
                  refine zg_imul d_X8_joins_91 ?_
                  refine zg_iload_n 4 rfl d_X8_joins_92 ?_
                  refine zg_iadd d_X8_joins_93 ?_
                  refine zg_istore [(5, .int ((8 * a1) + s8)), (4, .int ((8 * a1) + s1)), (0, .ref a0), (1, .int a1), (2, .int s1), (3, .int s8)] d_X8_joins_94 (by decide) rfl ?_
                  refine zg_bipush 20 rfl d_X8_joins_96 ?_
                  refine zg_aload_n 2 rfl d_X8_joins_98 ?_
                  refine zg_getR d_X8_joins_99 zc_8 (by decide) fl_X8_84 (fun v22 => ?_)
                  refine zg_iload 1 rfl d_X8_joins_102 ?_
                  refine zg_ald0 d_X8_joins_104 (fun v23 => ?_)
                  refine zg_aload_n 2 rfl d_X8_joins_105 ?_
                  refine zg_getR d_X8_joins_106 zc_8 (by decide) fl_X8_84 (fun v24 => ?_)
                  refine zg_iload 0 rfl d_X8_joins_109 ?_
                  refine zg_ald0 d_X8_joins_111 (fun v25 => ?_)
                  refine zg_iadd d_X8_joins_112 ?_
                  refine zg_mmin d_X8_joins_113 ml_X8_381 (by decide) (Nat.le_of_ble_eq_true rfl) ⟨Nat.le_of_ble_eq_true rfl, Nat.le_of_ble_eq_true rfl⟩ ?_
                  refine zg_istore [(6, .int (zmn 20 (v23 + v25))), (5, .int ((8 * a1) + s8)), (4, .int ((8 * a1) + s1)), (0, .ref a0), (1, .int a1), (2, .int s1), (3, .int s8)] d_X8_joins_116 (by decide) rfl ?_
                  refine zg_aload_n 3 rfl d_X8_joins_118 ?_
                  refine zg_getR d_X8_joins_119 zc_8 (by decide) fl_X8_84 (fun v26 => ?_)
                  refine zg_iload 2 rfl d_X8_joins_122 ?_
                  refine zg_ald0 d_X8_joins_124 (fun v27 => ?_)
                  refine zg_aload_n 3 rfl d_X8_joins_125 ?_
                  refine zg_getR d_X8_joins_126 zc_8 (by decide) fl_X8_84 (fun v28 => ?_)
                  refine zg_iload 1 rfl d_X8_joins_129 ?_
                  refine zg_ald0 d_X8_joins_131 (fun v29 => ?_)
                  refine zg_bd (E := 140) (el := (fun (e30 : Int32) => [(0, .ref a0), (1, .int a1), (2, .int s1), (3, .int s8), (4, .int ((8 * a1) + s1)), (5, .int ((8 * a1) + s8)), (6, .int (zmn 20 (v23 + v25)))])) (es := (fun (e30 : Int32) => [.int e30])) ?_ (fun e30 h31 => ?_)
                  · refine zg_icmp_lt d_X8_joins_132 ?_ ?_
                    · refine zg_iconst 0 rfl d_X8_joins_139 ?_
                      exact zg_finK (E := 0) [3, 4, 5, 6, 2, 1, 0] rfl rfl (fun q => q)
                    · refine zg_iconst 1 rfl d_X8_joins_135 ?_
                      refine zg_goto d_X8_joins_136 ?_
                      exact zg_finK (E := 0) [3, 4, 5, 6, 2, 1, 0] rfl rfl (fun q => q)
                  · refine zg_istore [(7, .int e30), (0, .ref a0), (1, .int a1), (2, .int s1), (3, .int s8), (4, .int ((8 * a1) + s1)), (5, .int ((8 * a1) + s8)), (6, .int (zmn 20 (v23 + v25)))] d_X8_joins_140 (by decide) rfl ?_
                    refine zg_aload_n 1 rfl d_X8_joins_142 ?_
                    refine zg_getR d_X8_joins_143 zc_8 (by decide) fl_X8_84 (fun v32 => ?_)
                    refine zg_iload 0 rfl d_X8_joins_146 ?_
                    refine zg_bd (E := 158) (el := (fun (e33 : Int32) => [(0, .ref a0), (1, .int a1), (2, .int s1), (3, .int s8), (4, .int ((8 * a1) + s1)), (5, .int ((8 * a1) + s8)), (6, .int (zmn 20 (v23 + v25))), (7, .int e30)])) (es := (fun (e33 : Int32) => [.int e33, .ref v32])) ?_ (fun e33 h34 => ?_)
                    · refine zg_if_eq d_X8_joins_148 ?_ ?_
                      · refine zg_iload 6 rfl d_X8_joins_156 ?_
                        exact zg_finK (E := 0) [1, 2, 3, 4, 5, 6, 7, 0] rfl rfl (fun q => q)
                      · refine zg_iload 5 rfl d_X8_joins_151 ?_
                        refine zg_goto d_X8_joins_153 ?_
                        exact zg_finK (E := 0) [1, 2, 3, 4, 5, 6, 7, 0] rfl rfl (fun q => q)
                    · refine zg_iload 6 rfl d_X8_joins_158 ?_
                      refine zg_ast0 d_X8_joins_160 (fun h35 => ?_)
                      refine zg_aload_n 0 rfl d_X8_joins_161 ?_
                      refine zg_getR d_X8_joins_162 zc_8 (by decide) fl_X8_93 (fun v36 => ?_)
                      refine zg_iload 7 rfl d_X8_joins_165 ?_
                      refine zg_bd (E := 177) (el := (fun (e37 : Int32) => [(0, .ref a0), (1, .int a1), (2, .int s1), (3, .int s8), (4, .int ((8 * a1) + s1)), (5, .int ((8 * a1) + s8)), (6, .int (zmn 20 (v23 + v25))), (7, .int e30)])) (es := (fun (e37 : Int32) => [.int e37, .ref v36])) ?_ (fun e37 h38 => ?_)
                      · refine zg_if_eq d_X8_joins_167 ?_ ?_
                        · refine zg_iload 4 rfl d_X8_joins_175 ?_
                          exact zg_finK (E := 0) [0, 1, 2, 3, 4, 5, 6, 7] rfl rfl (fun q => q)
                        · refine zg_iload 5 rfl d_X8_joins_170 ?_
                          refine zg_goto d_X8_joins_172 ?_
                          exact zg_finK (E := 0) [0, 1, 2, 3, 4, 5, 6, 7] rfl rfl (fun q => q)
                      · refine zg_iconst 3 rfl d_X8_joins_177 ?_
                        refine zg_ast0 d_X8_joins_178 (fun h39 => ?_)
                        refine zg_iinc 3 (s8 + 1) [(3, .int (s8 + 1)), (0, .ref a0), (1, .int a1), (2, .int s1), (4, .int ((8 * a1) + s1)), (5, .int ((8 * a1) + s8)), (6, .int (zmn 20 (v23 + v25))), (7, .int e30)] d_X8_joins_179 rfl rfl (by decide) rfl ?_
                        refine zg_goto d_X8_joins_182 ?_
                        exact zg_finK (E := 0) [1, 2, 3, 0] rfl rfl (fun q => q)
                · refine zg_goto d_X8_joins_77 ?_
                  refine zg_iinc 3 (s8 + 1) [(3, .int (s8 + 1)), (0, .ref a0), (1, .int a1), (2, .int s1)] d_X8_joins_179 rfl rfl (by decide) rfl ?_
                  refine zg_goto d_X8_joins_182 ?_
                  exact zg_finK (E := 0) [1, 2, 3, 0] rfl rfl (fun q => q)
        · refine zg_iinc 2 (s1 + 1) [(2, .int (s1 + 1)), (0, .ref a0), (1, .int a1), (3, .int e10)] d_X8_joins_185 rfl rfl (by decide) rfl ?_
          refine zg_goto d_X8_joins_188 ?_
          exact zg_finK (E := 0) [1, 2, 0] rfl rfl (fun q => q)
  · exact zg_vretK d_X8_joins_191 rfl ⟨Nat.le_of_ble_eq_true rfl, Nat.le_of_ble_eq_true rfl⟩ (fun q => q)
abbrev M_X8_windIn : zMt := (RX8, cX8_windIn, 2, 1, 60, (some .int), "windIn", 0, 0)
theorem d_X8_windIn_0 : zDc M_X8_windIn 0 (.aload_n 0) 1 1 := ⟨by decide +kernel, rfl⟩
theorem d_X8_windIn_1 : zDc M_X8_windIn 1 (.getfield 343) 3 4 := ⟨by decide +kernel, rfl⟩
theorem d_X8_windIn_4 : zDc M_X8_windIn 4 (.iconst 1) 1 5 := ⟨by decide +kernel, rfl⟩
theorem d_X8_windIn_5 : zDj M_X8_windIn 5 (.if_icmp .ne 5) 5 8 10 := ⟨by decide +kernel, rfl, by decide⟩
theorem d_X8_windIn_8 : zDc M_X8_windIn 8 (.iconst 0) 1 9 := ⟨by decide +kernel, rfl⟩
theorem d_X8_windIn_9 : zDc M_X8_windIn 9 (.ireturn) 1 10 := ⟨by decide +kernel, rfl⟩
theorem d_X8_windIn_10 : zDc M_X8_windIn 10 (.aload_n 0) 1 11 := ⟨by decide +kernel, rfl⟩
theorem d_X8_windIn_11 : zDc M_X8_windIn 11 (.getfield 111) 3 14 := ⟨by decide +kernel, rfl⟩
theorem d_X8_windIn_14 : zDc M_X8_windIn 14 (.iconst (-1)) 1 15 := ⟨by decide +kernel, rfl⟩
theorem d_X8_windIn_15 : zDj M_X8_windIn 15 (.if_icmp .eq 8) 8 18 23 := ⟨by decide +kernel, rfl, by decide⟩
theorem d_X8_windIn_18 : zDc M_X8_windIn 18 (.aload_n 0) 1 19 := ⟨by decide +kernel, rfl⟩
theorem d_X8_windIn_19 : zDc M_X8_windIn 19 (.getfield 111) 3 22 := ⟨by decide +kernel, rfl⟩
theorem d_X8_windIn_22 : zDc M_X8_windIn 22 (.ireturn) 1 23 := ⟨by decide +kernel, rfl⟩
theorem d_X8_windIn_23 : zDc M_X8_windIn 23 (.aload_n 0) 1 24 := ⟨by decide +kernel, rfl⟩
theorem d_X8_windIn_24 : zDc M_X8_windIn 24 (.getfield 78) 3 27 := ⟨by decide +kernel, rfl⟩
theorem d_X8_windIn_27 : zDc M_X8_windIn 27 (.iload_n 1) 1 28 := ⟨by decide +kernel, rfl⟩
theorem d_X8_windIn_28 : zDc M_X8_windIn 28 (.iaload) 1 29 := ⟨by decide +kernel, rfl⟩
theorem d_X8_windIn_29 : zDc M_X8_windIn 29 (.iconst (-1)) 1 30 := ⟨by decide +kernel, rfl⟩
theorem d_X8_windIn_30 : zDj M_X8_windIn 30 (.if_icmp .eq 10) 10 33 40 := ⟨by decide +kernel, rfl, by decide⟩
theorem d_X8_windIn_33 : zDc M_X8_windIn 33 (.aload_n 0) 1 34 := ⟨by decide +kernel, rfl⟩
theorem d_X8_windIn_34 : zDc M_X8_windIn 34 (.getfield 78) 3 37 := ⟨by decide +kernel, rfl⟩
theorem d_X8_windIn_37 : zDc M_X8_windIn 37 (.iload_n 1) 1 38 := ⟨by decide +kernel, rfl⟩
theorem d_X8_windIn_38 : zDc M_X8_windIn 38 (.iaload) 1 39 := ⟨by decide +kernel, rfl⟩
theorem d_X8_windIn_39 : zDc M_X8_windIn 39 (.ireturn) 1 40 := ⟨by decide +kernel, rfl⟩
theorem d_X8_windIn_40 : zDc M_X8_windIn 40 (.aload_n 0) 1 41 := ⟨by decide +kernel, rfl⟩
theorem d_X8_windIn_41 : zDc M_X8_windIn 41 (.getfield 13) 3 44 := ⟨by decide +kernel, rfl⟩
theorem d_X8_windIn_44 : zDc M_X8_windIn 44 (.iconst 3) 1 45 := ⟨by decide +kernel, rfl⟩
theorem d_X8_windIn_45 : zDc M_X8_windIn 45 (.iaload) 1 46 := ⟨by decide +kernel, rfl⟩
theorem d_X8_windIn_46 : zDj M_X8_windIn 46 (.ifCond .ne 7) 7 49 53 := ⟨by decide +kernel, rfl, by decide⟩
theorem d_X8_windIn_49 : zDc M_X8_windIn 49 (.iconst 0) 1 50 := ⟨by decide +kernel, rfl⟩
theorem d_X8_windIn_50 : zDj M_X8_windIn 50 (.goto 21) 21 53 71 := ⟨by decide +kernel, rfl, by decide⟩
theorem d_X8_windIn_53 : zDc M_X8_windIn 53 (.aload_n 0) 1 54 := ⟨by decide +kernel, rfl⟩
theorem d_X8_windIn_54 : zDc M_X8_windIn 54 (.getfield 49) 3 57 := ⟨by decide +kernel, rfl⟩
theorem d_X8_windIn_57 : zDc M_X8_windIn 57 (.aload_n 0) 1 58 := ⟨by decide +kernel, rfl⟩
theorem d_X8_windIn_58 : zDc M_X8_windIn 58 (.getfield 75) 3 61 := ⟨by decide +kernel, rfl⟩
theorem d_X8_windIn_61 : zDc M_X8_windIn 61 (.iload_n 1) 1 62 := ⟨by decide +kernel, rfl⟩
theorem d_X8_windIn_62 : zDc M_X8_windIn 62 (.iaload) 1 63 := ⟨by decide +kernel, rfl⟩
theorem d_X8_windIn_63 : zDc M_X8_windIn 63 (.aload_n 0) 1 64 := ⟨by decide +kernel, rfl⟩
theorem d_X8_windIn_64 : zDc M_X8_windIn 64 (.getfield 13) 3 67 := ⟨by decide +kernel, rfl⟩
theorem d_X8_windIn_67 : zDc M_X8_windIn 67 (.iconst 3) 1 68 := ⟨by decide +kernel, rfl⟩
theorem d_X8_windIn_68 : zDc M_X8_windIn 68 (.iaload) 1 69 := ⟨by decide +kernel, rfl⟩
theorem d_X8_windIn_69 : zDc M_X8_windIn 69 (.irem) 1 70 := ⟨by decide +kernel, rfl⟩
theorem d_X8_windIn_70 : zDc M_X8_windIn 70 (.iaload) 1 71 := ⟨by decide +kernel, rfl⟩
theorem d_X8_windIn_71 : zDc M_X8_windIn 71 (.ireturn) 1 72 := ⟨by decide +kernel, rfl⟩
def f_X8_windIn (a0 : Nat) (a1 : Int32) (h0 : zHp) : Option (Int32 × zHp) :=
  zob (zgI h0 a0 8 49) (fun v1 =>
  if v1 = 1 then
  some (0, h0)
  else
  zob (zgI h0 a0 8 51) (fun v2 =>
  if v2 = (-1) then
  zob (zgR h0 a0 8 37) (fun v3 =>
  zob (zaI 0 h0 v3 a1) (fun v4 =>
  if v4 = (-1) then
  zob (zgR h0 a0 8 3) (fun v5 =>
  zob (zaI 0 h0 v5 3) (fun v6 =>
  if v6 = 0 then
  some (0, h0)
  else
  zob (zgR h0 a0 8 15) (fun v7 =>
  zob (zgR h0 a0 8 36) (fun v8 =>
  zob (zaI 0 h0 v8 a1) (fun v9 =>
  zob (zgR h0 a0 8 3) (fun v10 =>
  zob (zaI 0 h0 v10 3) (fun v11 =>
  zob (zrp v9 v11) (fun v12 =>
  zob (zaI 0 h0 v7 v12) (fun v13 =>
  some (v13, h0))))))))))
  else
  zob (zgR h0 a0 8 37) (fun v14 =>
  zob (zaI 0 h0 v14 a1) (fun v15 =>
  some (v15, h0)))))
  else
  zob (zgI h0 a0 8 51) (fun v16 =>
  some (v16, h0))))
set_option maxRecDepth 100000 in
set_option maxHeartbeats 4000000 in
theorem t_X8_windIn (a0 : Nat) (a1 : Int32) (h0 : zHp) : ∀ (r : Int32) (h' : zHp), f_X8_windIn a0 a1 h0 = some (r, h') → zCt yX8_windIn (.code yX8_windIn cX8_windIn 2 (some .int)) 1 60 0 0 [.ref a0, .int a1] h0 (some (.int r)) h' := by
  refine zct_of M_X8_windIn yX8_windIn (by decide) rfl rfl [.ref a0, .int a1] h0 (Nat.le_of_ble_eq_true rfl) (fun r => some (.int r)) (fun X => ?_)
  show zG X M_X8_windIn (0, 0) 0 [(0, .ref a0), (1, .int a1)] [] h0 (f_X8_windIn a0 a1 h0) (fun (r : Int32) h' => zKe X (some (.int r)) h')
  unfold f_X8_windIn
  refine zg_aload_n 0 rfl d_X8_windIn_0 ?_
  refine zg_getI d_X8_windIn_1 zc_8 (by decide) fl_X8_343 (fun v1 => ?_)
  refine zg_iconst 1 rfl d_X8_windIn_4 ?_
  refine zg_icmp_ne d_X8_windIn_5 ?_ ?_
  · refine zg_iconst 0 rfl d_X8_windIn_8 ?_
    exact zg_iretK d_X8_windIn_9 rfl ⟨Nat.le_of_ble_eq_true rfl, Nat.le_of_ble_eq_true rfl⟩ (fun q => q)
  · refine zg_aload_n 0 rfl d_X8_windIn_10 ?_
    refine zg_getI d_X8_windIn_11 zc_8 (by decide) fl_X8_111 (fun v2 => ?_)
    refine zg_iconst (-1) rfl d_X8_windIn_14 ?_
    refine zg_icmp_eq d_X8_windIn_15 ?_ ?_
    · refine zg_aload_n 0 rfl d_X8_windIn_23 ?_
      refine zg_getR d_X8_windIn_24 zc_8 (by decide) fl_X8_78 (fun v3 => ?_)
      refine zg_iload_n 1 rfl d_X8_windIn_27 ?_
      refine zg_ald0 d_X8_windIn_28 (fun v4 => ?_)
      refine zg_iconst (-1) rfl d_X8_windIn_29 ?_
      refine zg_icmp_eq d_X8_windIn_30 ?_ ?_
      · refine zg_aload_n 0 rfl d_X8_windIn_40 ?_
        refine zg_getR d_X8_windIn_41 zc_8 (by decide) fl_X8_13 (fun v5 => ?_)
        refine zg_iconst 3 rfl d_X8_windIn_44 ?_
        refine zg_ald0 d_X8_windIn_45 (fun v6 => ?_)
        refine zg_if_ne d_X8_windIn_46 ?_ ?_
        · refine zg_iconst 0 rfl d_X8_windIn_49 ?_
          refine zg_goto d_X8_windIn_50 ?_
          exact zg_iretK d_X8_windIn_71 rfl ⟨Nat.le_of_ble_eq_true rfl, Nat.le_of_ble_eq_true rfl⟩ (fun q => q)
        · refine zg_aload_n 0 rfl d_X8_windIn_53 ?_
          refine zg_getR d_X8_windIn_54 zc_8 (by decide) fl_X8_49 (fun v7 => ?_)
          refine zg_aload_n 0 rfl d_X8_windIn_57 ?_
          refine zg_getR d_X8_windIn_58 zc_8 (by decide) fl_X8_75 (fun v8 => ?_)
          refine zg_iload_n 1 rfl d_X8_windIn_61 ?_
          refine zg_ald0 d_X8_windIn_62 (fun v9 => ?_)
          refine zg_aload_n 0 rfl d_X8_windIn_63 ?_
          refine zg_getR d_X8_windIn_64 zc_8 (by decide) fl_X8_13 (fun v10 => ?_)
          refine zg_iconst 3 rfl d_X8_windIn_67 ?_
          refine zg_ald0 d_X8_windIn_68 (fun v11 => ?_)
          refine zg_iremP d_X8_windIn_69 (fun v12 => ?_)
          refine zg_ald0 d_X8_windIn_70 (fun v13 => ?_)
          exact zg_iretK d_X8_windIn_71 rfl ⟨Nat.le_of_ble_eq_true rfl, Nat.le_of_ble_eq_true rfl⟩ (fun q => q)
      · refine zg_aload_n 0 rfl d_X8_windIn_33 ?_
        refine zg_getR d_X8_windIn_34 zc_8 (by decide) fl_X8_78 (fun v14 => ?_)
        refine zg_iload_n 1 rfl d_X8_windIn_37 ?_
        refine zg_ald0 d_X8_windIn_38 (fun v15 => ?_)
        exact zg_iretK d_X8_windIn_39 rfl ⟨Nat.le_of_ble_eq_true rfl, Nat.le_of_ble_eq_true rfl⟩ (fun q => q)
    · refine zg_aload_n 0 rfl d_X8_windIn_18 ?_
      refine zg_getI d_X8_windIn_19 zc_8 (by decide) fl_X8_111 (fun v16 => ?_)
      exact zg_iretK d_X8_windIn_22 rfl ⟨Nat.le_of_ble_eq_true rfl, Nat.le_of_ble_eq_true rfl⟩ (fun q => q)
abbrev M_X8_isChild : zMt := (RX8, cX8_isChild, 2, 1, 60, (some .boolean), "isChild", 0, 0)
theorem d_X8_isChild_0 : zDc M_X8_isChild 0 (.iload_n 1) 1 1 := ⟨by decide +kernel, rfl⟩
theorem d_X8_isChild_1 : zDj M_X8_isChild 1 (.ifCond .lt 17) 17 4 18 := ⟨by decide +kernel, rfl, by decide⟩
theorem d_X8_isChild_4 : zDc M_X8_isChild 4 (.iload_n 1) 1 5 := ⟨by decide +kernel, rfl⟩
theorem d_X8_isChild_5 : zDc M_X8_isChild 5 (.aload_n 0) 1 6 := ⟨by decide +kernel, rfl⟩
theorem d_X8_isChild_6 : zDc M_X8_isChild 6 (.getfield 13) 3 9 := ⟨by decide +kernel, rfl⟩
theorem d_X8_isChild_9 : zDc M_X8_isChild 9 (.iconst 2) 1 10 := ⟨by decide +kernel, rfl⟩
theorem d_X8_isChild_10 : zDc M_X8_isChild 10 (.iaload) 1 11 := ⟨by decide +kernel, rfl⟩
theorem d_X8_isChild_11 : zDj M_X8_isChild 11 (.if_icmp .ge 7) 7 14 18 := ⟨by decide +kernel, rfl, by decide⟩
theorem d_X8_isChild_14 : zDc M_X8_isChild 14 (.iconst 1) 1 15 := ⟨by decide +kernel, rfl⟩
theorem d_X8_isChild_15 : zDj M_X8_isChild 15 (.goto 4) 4 18 19 := ⟨by decide +kernel, rfl, by decide⟩
theorem d_X8_isChild_18 : zDc M_X8_isChild 18 (.iconst 0) 1 19 := ⟨by decide +kernel, rfl⟩
theorem d_X8_isChild_19 : zDc M_X8_isChild 19 (.ireturn) 1 20 := ⟨by decide +kernel, rfl⟩
def f_X8_isChild (a0 : Nat) (a1 : Int32) (h0 : zHp) : Option (Int32 × zHp) :=
  if a1 < 0 then
  some (0, h0)
  else
  zob (zgR h0 a0 8 3) (fun v1 =>
  zob (zaI 0 h0 v1 2) (fun v2 =>
  if v2 ≤ a1 then
  some (0, h0)
  else
  some (1, h0)))
set_option maxRecDepth 100000 in
set_option maxHeartbeats 4000000 in
theorem t_X8_isChild (a0 : Nat) (a1 : Int32) (h0 : zHp) : ∀ (r : Int32) (h' : zHp), f_X8_isChild a0 a1 h0 = some (r, h') → zCt yX8_isChild (.code yX8_isChild cX8_isChild 2 (some .boolean)) 1 60 0 0 [.ref a0, .int a1] h0 (some (.int r)) h' := by
  refine zct_of M_X8_isChild yX8_isChild (by decide) rfl rfl [.ref a0, .int a1] h0 (Nat.le_of_ble_eq_true rfl) (fun r => some (.int r)) (fun X => ?_)
  show zG X M_X8_isChild (0, 0) 0 [(0, .ref a0), (1, .int a1)] [] h0 (f_X8_isChild a0 a1 h0) (fun (r : Int32) h' => zKe X (some (.int r)) h')
  unfold f_X8_isChild
  refine zg_iload_n 1 rfl d_X8_isChild_0 ?_
  refine zg_if_lt d_X8_isChild_1 ?_ ?_
  · refine zg_iconst 0 rfl d_X8_isChild_18 ?_
    exact zg_zretK d_X8_isChild_19 rfl ⟨Nat.le_of_ble_eq_true rfl, Nat.le_of_ble_eq_true rfl⟩ (Or.inl rfl) (fun q => q)
  · refine zg_iload_n 1 rfl d_X8_isChild_4 ?_
    refine zg_aload_n 0 rfl d_X8_isChild_5 ?_
    refine zg_getR d_X8_isChild_6 zc_8 (by decide) fl_X8_13 (fun v1 => ?_)
    refine zg_iconst 2 rfl d_X8_isChild_9 ?_
    refine zg_ald0 d_X8_isChild_10 (fun v2 => ?_)
    refine zg_icmp_ge d_X8_isChild_11 ?_ ?_
    · refine zg_iconst 0 rfl d_X8_isChild_18 ?_
      exact zg_zretK d_X8_isChild_19 rfl ⟨Nat.le_of_ble_eq_true rfl, Nat.le_of_ble_eq_true rfl⟩ (Or.inl rfl) (fun q => q)
    · refine zg_iconst 1 rfl d_X8_isChild_14 ?_
      refine zg_goto d_X8_isChild_15 ?_
      exact zg_zretK d_X8_isChild_19 rfl ⟨Nat.le_of_ble_eq_true rfl, Nat.le_of_ble_eq_true rfl⟩ (Or.inr rfl) (fun q => q)
abbrev M_X8_areTwo : zMt := (RX8, cX8_areTwo, 3, 2, 81, (some .boolean), "areTwo", 0, 0)
theorem d_X8_areTwo_0 : zDc M_X8_areTwo 0 (.aload_n 0) 1 1 := ⟨by decide +kernel, rfl⟩
theorem d_X8_areTwo_1 : zDc M_X8_areTwo 1 (.iload_n 1) 1 2 := ⟨by decide +kernel, rfl⟩
theorem d_X8_areTwo_2 : zDc M_X8_areTwo 2 (.invokevirtual 425) 3 5 := ⟨by decide +kernel, rfl⟩
theorem d_X8_areTwo_5 : zDj M_X8_areTwo 5 (.ifCond .eq 20) 20 8 25 := ⟨by decide +kernel, rfl, by decide⟩
theorem d_X8_areTwo_8 : zDc M_X8_areTwo 8 (.aload_n 0) 1 9 := ⟨by decide +kernel, rfl⟩
theorem d_X8_areTwo_9 : zDc M_X8_areTwo 9 (.iload_n 2) 1 10 := ⟨by decide +kernel, rfl⟩
theorem d_X8_areTwo_10 : zDc M_X8_areTwo 10 (.invokevirtual 425) 3 13 := ⟨by decide +kernel, rfl⟩
theorem d_X8_areTwo_13 : zDj M_X8_areTwo 13 (.ifCond .eq 12) 12 16 25 := ⟨by decide +kernel, rfl, by decide⟩
theorem d_X8_areTwo_16 : zDc M_X8_areTwo 16 (.iload_n 1) 1 17 := ⟨by decide +kernel, rfl⟩
theorem d_X8_areTwo_17 : zDc M_X8_areTwo 17 (.iload_n 2) 1 18 := ⟨by decide +kernel, rfl⟩
theorem d_X8_areTwo_18 : zDj M_X8_areTwo 18 (.if_icmp .eq 7) 7 21 25 := ⟨by decide +kernel, rfl, by decide⟩
theorem d_X8_areTwo_21 : zDc M_X8_areTwo 21 (.iconst 1) 1 22 := ⟨by decide +kernel, rfl⟩
theorem d_X8_areTwo_22 : zDj M_X8_areTwo 22 (.goto 4) 4 25 26 := ⟨by decide +kernel, rfl, by decide⟩
theorem d_X8_areTwo_25 : zDc M_X8_areTwo 25 (.iconst 0) 1 26 := ⟨by decide +kernel, rfl⟩
theorem d_X8_areTwo_26 : zDc M_X8_areTwo 26 (.ireturn) 1 27 := ⟨by decide +kernel, rfl⟩
def f_X8_areTwo (a0 : Nat) (a1 : Int32) (a2 : Int32) (h0 : zHp) : Option (Int32 × zHp) :=
  zbd (zcv 8 a0 h0 (f_X8_isChild a0 a1 h0)) (fun v2 h1 =>
  if v2 = 0 then
  some (0, h1)
  else
  zbd (zcv 8 a0 h1 (f_X8_isChild a0 a2 h1)) (fun v4 h3 =>
  if v4 = 0 then
  some (0, h3)
  else
  if a1 = a2 then
  some (0, h3)
  else
  some (1, h3)))
set_option maxRecDepth 100000 in
set_option maxHeartbeats 4000000 in
theorem t_X8_areTwo (a0 : Nat) (a1 : Int32) (a2 : Int32) (h0 : zHp) : ∀ (r : Int32) (h' : zHp), f_X8_areTwo a0 a1 a2 h0 = some (r, h') → zCt yX8_areTwo (.code yX8_areTwo cX8_areTwo 3 (some .boolean)) 2 81 0 0 [.ref a0, .int a1, .int a2] h0 (some (.int r)) h' := by
  refine zct_of M_X8_areTwo yX8_areTwo (by decide) rfl rfl [.ref a0, .int a1, .int a2] h0 (Nat.le_of_ble_eq_true rfl) (fun r => some (.int r)) (fun X => ?_)
  show zG X M_X8_areTwo (0, 0) 0 [(0, .ref a0), (1, .int a1), (2, .int a2)] [] h0 (f_X8_areTwo a0 a1 a2 h0) (fun (r : Int32) h' => zKe X (some (.int r)) h')
  unfold f_X8_areTwo
  refine zg_aload_n 0 rfl d_X8_areTwo_0 ?_
  refine zg_iload_n 1 rfl d_X8_areTwo_1 ?_
  refine zg_cVi (b := a0) (As := [.int a1]) (rest := []) (0, 0) d_X8_areTwo_2 zc_8 rfl cw_X8_425 wi_X8_isChild ws_X8_isChild rfl rfl (Nat.le_of_ble_eq_true rfl) (by decide) (by decide) ⟨by decide, by decide⟩ rfl (t_X8_isChild a0 a1 h0) (fun v2 h1 => ?_)
  refine zg_if_eq d_X8_areTwo_5 ?_ ?_
  · refine zg_iconst 0 rfl d_X8_areTwo_25 ?_
    exact zg_zretK d_X8_areTwo_26 rfl ⟨Nat.le_of_ble_eq_true rfl, Nat.le_of_ble_eq_true rfl⟩ (Or.inl rfl) (fun q => q)
  · refine zg_aload_n 0 rfl d_X8_areTwo_8 ?_
    refine zg_iload_n 2 rfl d_X8_areTwo_9 ?_
    refine zg_cVi (b := a0) (As := [.int a2]) (rest := []) (0, 0) d_X8_areTwo_10 zc_8 rfl cw_X8_425 wi_X8_isChild ws_X8_isChild rfl rfl (Nat.le_of_ble_eq_true rfl) (by decide) (by decide) ⟨by decide, by decide⟩ rfl (t_X8_isChild a0 a2 h1) (fun v4 h3 => ?_)
    refine zg_if_eq d_X8_areTwo_13 ?_ ?_
    · refine zg_iconst 0 rfl d_X8_areTwo_25 ?_
      exact zg_zretK d_X8_areTwo_26 rfl ⟨Nat.le_of_ble_eq_true rfl, Nat.le_of_ble_eq_true rfl⟩ (Or.inl rfl) (fun q => q)
    · refine zg_iload_n 1 rfl d_X8_areTwo_16 ?_
      refine zg_iload_n 2 rfl d_X8_areTwo_17 ?_
      refine zg_icmp_eq d_X8_areTwo_18 ?_ ?_
      · refine zg_iconst 0 rfl d_X8_areTwo_25 ?_
        exact zg_zretK d_X8_areTwo_26 rfl ⟨Nat.le_of_ble_eq_true rfl, Nat.le_of_ble_eq_true rfl⟩ (Or.inl rfl) (fun q => q)
      · refine zg_iconst 1 rfl d_X8_areTwo_21 ?_
        refine zg_goto d_X8_areTwo_22 ?_
        exact zg_zretK d_X8_areTwo_26 rfl ⟨Nat.le_of_ble_eq_true rfl, Nat.le_of_ble_eq_true rfl⟩ (Or.inr rfl) (fun q => q)
abbrev M_X8_back : zMt := (RX8, cX8_back, 1, 2, 85, (some .int), "back", 0, 0)
theorem d_X8_back_0 : zDc M_X8_back 0 (.aload_n 0) 1 1 := ⟨by decide +kernel, rfl⟩
theorem d_X8_back_1 : zDc M_X8_back 1 (.iconst 0) 1 2 := ⟨by decide +kernel, rfl⟩
theorem d_X8_back_2 : zDc M_X8_back 2 (.putfield 151) 3 5 := ⟨by decide +kernel, rfl⟩
theorem d_X8_back_5 : zDc M_X8_back 5 (.aload_n 0) 1 6 := ⟨by decide +kernel, rfl⟩
theorem d_X8_back_6 : zDc M_X8_back 6 (.getfield 307) 3 9 := ⟨by decide +kernel, rfl⟩
theorem d_X8_back_9 : zDj M_X8_back 9 (.ifCond .ne 5) 5 12 14 := ⟨by decide +kernel, rfl, by decide⟩
theorem d_X8_back_12 : zDc M_X8_back 12 (.iconst (-1)) 1 13 := ⟨by decide +kernel, rfl⟩
theorem d_X8_back_13 : zDc M_X8_back 13 (.ireturn) 1 14 := ⟨by decide +kernel, rfl⟩
theorem d_X8_back_14 : zDc M_X8_back 14 (.aload_n 0) 1 15 := ⟨by decide +kernel, rfl⟩
theorem d_X8_back_15 : zDc M_X8_back 15 (.iconst 0) 1 16 := ⟨by decide +kernel, rfl⟩
theorem d_X8_back_16 : zDc M_X8_back 16 (.iconst 2) 1 17 := ⟨by decide +kernel, rfl⟩
theorem d_X8_back_17 : zDc M_X8_back 17 (.invokevirtual 416) 3 20 := ⟨by decide +kernel, rfl⟩
theorem d_X8_back_20 : zDc M_X8_back 20 (.aload_n 0) 1 21 := ⟨by decide +kernel, rfl⟩
theorem d_X8_back_21 : zDc M_X8_back 21 (.iconst 0) 1 22 := ⟨by decide +kernel, rfl⟩
theorem d_X8_back_22 : zDc M_X8_back 22 (.putfield 311) 3 25 := ⟨by decide +kernel, rfl⟩
theorem d_X8_back_25 : zDc M_X8_back 25 (.aload_n 0) 1 26 := ⟨by decide +kernel, rfl⟩
theorem d_X8_back_26 : zDc M_X8_back 26 (.getfield 75) 3 29 := ⟨by decide +kernel, rfl⟩
theorem d_X8_back_29 : zDc M_X8_back 29 (.iconst 0) 1 30 := ⟨by decide +kernel, rfl⟩
theorem d_X8_back_30 : zDc M_X8_back 30 (.iaload) 1 31 := ⟨by decide +kernel, rfl⟩
theorem d_X8_back_31 : zDc M_X8_back 31 (.ireturn) 1 32 := ⟨by decide +kernel, rfl⟩
def f_X8_back (a0 : Nat) (h0 : zHp) : Option (Int32 × zHp) :=
  zob (zpV h0 a0 8 0 (.int 0)) (fun h1 =>
  zob (zgI h1 a0 8 47) (fun v2 =>
  if v2 = 0 then
  some ((-1), h1)
  else
  zbd (zcv 8 a0 h1 (f_X8_copies a0 0 2 h1)) (fun v4 h3 =>
  zob (zpV h3 a0 8 48 (.int 0)) (fun h5 =>
  zob (zgR h5 a0 8 36) (fun v6 =>
  zob (zaI 0 h5 v6 0) (fun v7 =>
  some (v7, h5)))))))
set_option maxRecDepth 100000 in
set_option maxHeartbeats 4000000 in
theorem t_X8_back (a0 : Nat) (h0 : zHp) : ∀ (r : Int32) (h' : zHp), f_X8_back a0 h0 = some (r, h') → zCt yX8_back (.code yX8_back cX8_back 1 (some .int)) 2 85 0 0 [.ref a0] h0 (some (.int r)) h' := by
  refine zct_of M_X8_back yX8_back (by decide) rfl rfl [.ref a0] h0 (Nat.le_of_ble_eq_true rfl) (fun r => some (.int r)) (fun X => ?_)
  show zG X M_X8_back (0, 0) 0 [(0, .ref a0)] [] h0 (f_X8_back a0 h0) (fun (r : Int32) h' => zKe X (some (.int r)) h')
  unfold f_X8_back
  refine zg_aload_n 0 rfl d_X8_back_0 ?_
  refine zg_iconst 0 rfl d_X8_back_1 ?_
  refine zg_putV d_X8_back_2 zc_8 (by decide) fl_X8_151 rfl rfl rfl (fun h1 => ?_)
  refine zg_aload_n 0 rfl d_X8_back_5 ?_
  refine zg_getI d_X8_back_6 zc_8 (by decide) fl_X8_307 (fun v2 => ?_)
  refine zg_if_ne d_X8_back_9 ?_ ?_
  · refine zg_iconst (-1) rfl d_X8_back_12 ?_
    exact zg_iretK d_X8_back_13 rfl ⟨Nat.le_of_ble_eq_true rfl, Nat.le_of_ble_eq_true rfl⟩ (fun q => q)
  · refine zg_aload_n 0 rfl d_X8_back_14 ?_
    refine zg_iconst 0 rfl d_X8_back_15 ?_
    refine zg_iconst 2 rfl d_X8_back_16 ?_
    refine zg_cVv (b := a0) (As := [.int 0, .int 2]) (rest := []) (0, 0) d_X8_back_17 zc_8 rfl cw_X8_416 wi_X8_copies ws_X8_copies rfl rfl (Nat.le_of_ble_eq_true rfl) (by decide) (by decide) ⟨by decide, by decide⟩ rfl (t_X8_copies a0 0 2 h1) (fun v4 h3 => ?_)
    refine zg_aload_n 0 rfl d_X8_back_20 ?_
    refine zg_iconst 0 rfl d_X8_back_21 ?_
    refine zg_putV d_X8_back_22 zc_8 (by decide) fl_X8_311 rfl rfl rfl (fun h5 => ?_)
    refine zg_aload_n 0 rfl d_X8_back_25 ?_
    refine zg_getR d_X8_back_26 zc_8 (by decide) fl_X8_75 (fun v6 => ?_)
    refine zg_iconst 0 rfl d_X8_back_29 ?_
    refine zg_ald0 d_X8_back_30 (fun v7 => ?_)
    exact zg_iretK d_X8_back_31 rfl ⟨Nat.le_of_ble_eq_true rfl, Nat.le_of_ble_eq_true rfl⟩ (fun q => q)
abbrev M_X8_sizeIn : zMt := (RX8, cX8_sizeIn, 2, 1, 60, (some .int), "sizeIn", 0, 0)
theorem d_X8_sizeIn_0 : zDc M_X8_sizeIn 0 (.iload_n 1) 1 1 := ⟨by decide +kernel, rfl⟩
theorem d_X8_sizeIn_1 : zDc M_X8_sizeIn 1 (.aload_n 0) 1 2 := ⟨by decide +kernel, rfl⟩
theorem d_X8_sizeIn_2 : zDc M_X8_sizeIn 2 (.getfield 114) 3 5 := ⟨by decide +kernel, rfl⟩
theorem d_X8_sizeIn_5 : zDj M_X8_sizeIn 5 (.if_icmp .ne 10) 10 8 15 := ⟨by decide +kernel, rfl, by decide⟩
theorem d_X8_sizeIn_8 : zDc M_X8_sizeIn 8 (.aload_n 0) 1 9 := ⟨by decide +kernel, rfl⟩
theorem d_X8_sizeIn_9 : zDc M_X8_sizeIn 9 (.getfield 340) 3 12 := ⟨by decide +kernel, rfl⟩
theorem d_X8_sizeIn_12 : zDj M_X8_sizeIn 12 (.goto 9) 9 15 21 := ⟨by decide +kernel, rfl, by decide⟩
theorem d_X8_sizeIn_15 : zDc M_X8_sizeIn 15 (.aload_n 0) 1 16 := ⟨by decide +kernel, rfl⟩
theorem d_X8_sizeIn_16 : zDc M_X8_sizeIn 16 (.getfield 34) 3 19 := ⟨by decide +kernel, rfl⟩
theorem d_X8_sizeIn_19 : zDc M_X8_sizeIn 19 (.iload_n 1) 1 20 := ⟨by decide +kernel, rfl⟩
theorem d_X8_sizeIn_20 : zDc M_X8_sizeIn 20 (.iaload) 1 21 := ⟨by decide +kernel, rfl⟩
theorem d_X8_sizeIn_21 : zDc M_X8_sizeIn 21 (.ireturn) 1 22 := ⟨by decide +kernel, rfl⟩
def f_X8_sizeIn (a0 : Nat) (a1 : Int32) (h0 : zHp) : Option (Int32 × zHp) :=
  zob (zgI h0 a0 8 52) (fun v1 =>
  if a1 = v1 then
  zob (zgI h0 a0 8 53) (fun v2 =>
  some (v2, h0))
  else
  zob (zgR h0 a0 8 10) (fun v3 =>
  zob (zaI 0 h0 v3 a1) (fun v4 =>
  some (v4, h0))))
set_option maxRecDepth 100000 in
set_option maxHeartbeats 4000000 in
theorem t_X8_sizeIn (a0 : Nat) (a1 : Int32) (h0 : zHp) : ∀ (r : Int32) (h' : zHp), f_X8_sizeIn a0 a1 h0 = some (r, h') → zCt yX8_sizeIn (.code yX8_sizeIn cX8_sizeIn 2 (some .int)) 1 60 0 0 [.ref a0, .int a1] h0 (some (.int r)) h' := by
  refine zct_of M_X8_sizeIn yX8_sizeIn (by decide) rfl rfl [.ref a0, .int a1] h0 (Nat.le_of_ble_eq_true rfl) (fun r => some (.int r)) (fun X => ?_)
  show zG X M_X8_sizeIn (0, 0) 0 [(0, .ref a0), (1, .int a1)] [] h0 (f_X8_sizeIn a0 a1 h0) (fun (r : Int32) h' => zKe X (some (.int r)) h')
  unfold f_X8_sizeIn
  refine zg_iload_n 1 rfl d_X8_sizeIn_0 ?_
  refine zg_aload_n 0 rfl d_X8_sizeIn_1 ?_
  refine zg_getI d_X8_sizeIn_2 zc_8 (by decide) fl_X8_114 (fun v1 => ?_)
  refine zg_icmp_ne d_X8_sizeIn_5 ?_ ?_
  · refine zg_aload_n 0 rfl d_X8_sizeIn_8 ?_
    refine zg_getI d_X8_sizeIn_9 zc_8 (by decide) fl_X8_340 (fun v2 => ?_)
    refine zg_goto d_X8_sizeIn_12 ?_
    exact zg_iretK d_X8_sizeIn_21 rfl ⟨Nat.le_of_ble_eq_true rfl, Nat.le_of_ble_eq_true rfl⟩ (fun q => q)
  · refine zg_aload_n 0 rfl d_X8_sizeIn_15 ?_
    refine zg_getR d_X8_sizeIn_16 zc_8 (by decide) fl_X8_34 (fun v3 => ?_)
    refine zg_iload_n 1 rfl d_X8_sizeIn_19 ?_
    refine zg_ald0 d_X8_sizeIn_20 (fun v4 => ?_)
    exact zg_iretK d_X8_sizeIn_21 rfl ⟨Nat.le_of_ble_eq_true rfl, Nat.le_of_ble_eq_true rfl⟩ (fun q => q)
abbrev M_X8_starts : zMt := (RX8, cX8_starts, 4, 2, 81, none, "starts", 0, 0)
theorem d_X8_starts_0 : zDc M_X8_starts 0 (.aload_n 0) 1 1 := ⟨by decide +kernel, rfl⟩
theorem d_X8_starts_1 : zDc M_X8_starts 1 (.getfield 75) 3 4 := ⟨by decide +kernel, rfl⟩
theorem d_X8_starts_4 : zDc M_X8_starts 4 (.iload_n 1) 1 5 := ⟨by decide +kernel, rfl⟩
theorem d_X8_starts_5 : zDc M_X8_starts 5 (.iconst 0) 1 6 := ⟨by decide +kernel, rfl⟩
theorem d_X8_starts_6 : zDc M_X8_starts 6 (.iastore) 1 7 := ⟨by decide +kernel, rfl⟩
theorem d_X8_starts_7 : zDc M_X8_starts 7 (.aload_n 0) 1 8 := ⟨by decide +kernel, rfl⟩
theorem d_X8_starts_8 : zDc M_X8_starts 8 (.getfield 78) 3 11 := ⟨by decide +kernel, rfl⟩
theorem d_X8_starts_11 : zDc M_X8_starts 11 (.iload_n 1) 1 12 := ⟨by decide +kernel, rfl⟩
theorem d_X8_starts_12 : zDc M_X8_starts 12 (.iconst (-1)) 1 13 := ⟨by decide +kernel, rfl⟩
theorem d_X8_starts_13 : zDc M_X8_starts 13 (.iastore) 1 14 := ⟨by decide +kernel, rfl⟩
theorem d_X8_starts_14 : zDc M_X8_starts 14 (.iconst 0) 1 15 := ⟨by decide +kernel, rfl⟩
theorem d_X8_starts_15 : zDc M_X8_starts 15 (.istore_n 2) 1 16 := ⟨by decide +kernel, rfl⟩
theorem d_X8_starts_16 : zDc M_X8_starts 16 (.iload_n 2) 1 17 := ⟨by decide +kernel, rfl⟩
theorem d_X8_starts_17 : zDc M_X8_starts 17 (.bipush 8) 2 19 := ⟨by decide +kernel, rfl⟩
theorem d_X8_starts_19 : zDj M_X8_starts 19 (.if_icmp .ge 88) 88 22 107 := ⟨by decide +kernel, rfl, by decide⟩
theorem d_X8_starts_22 : zDc M_X8_starts 22 (.bipush 8) 2 24 := ⟨by decide +kernel, rfl⟩
theorem d_X8_starts_24 : zDc M_X8_starts 24 (.iload_n 1) 1 25 := ⟨by decide +kernel, rfl⟩
theorem d_X8_starts_25 : zDc M_X8_starts 25 (.imul) 1 26 := ⟨by decide +kernel, rfl⟩
theorem d_X8_starts_26 : zDc M_X8_starts 26 (.iload_n 2) 1 27 := ⟨by decide +kernel, rfl⟩
theorem d_X8_starts_27 : zDc M_X8_starts 27 (.iadd) 1 28 := ⟨by decide +kernel, rfl⟩
theorem d_X8_starts_28 : zDc M_X8_starts 28 (.istore_n 3) 1 29 := ⟨by decide +kernel, rfl⟩
theorem d_X8_starts_29 : zDc M_X8_starts 29 (.aload_n 0) 1 30 := ⟨by decide +kernel, rfl⟩
theorem d_X8_starts_30 : zDc M_X8_starts 30 (.getfield 81) 3 33 := ⟨by decide +kernel, rfl⟩
theorem d_X8_starts_33 : zDc M_X8_starts 33 (.iload_n 3) 1 34 := ⟨by decide +kernel, rfl⟩
theorem d_X8_starts_34 : zDc M_X8_starts 34 (.iload_n 2) 1 35 := ⟨by decide +kernel, rfl⟩
theorem d_X8_starts_35 : zDc M_X8_starts 35 (.aload_n 0) 1 36 := ⟨by decide +kernel, rfl⟩
theorem d_X8_starts_36 : zDc M_X8_starts 36 (.getfield 13) 3 39 := ⟨by decide +kernel, rfl⟩
theorem d_X8_starts_39 : zDc M_X8_starts 39 (.iconst 1) 1 40 := ⟨by decide +kernel, rfl⟩
theorem d_X8_starts_40 : zDc M_X8_starts 40 (.iaload) 1 41 := ⟨by decide +kernel, rfl⟩
theorem d_X8_starts_41 : zDj M_X8_starts 41 (.if_icmp .ge 12) 12 44 53 := ⟨by decide +kernel, rfl, by decide⟩
theorem d_X8_starts_44 : zDc M_X8_starts 44 (.aload_n 0) 1 45 := ⟨by decide +kernel, rfl⟩
theorem d_X8_starts_45 : zDc M_X8_starts 45 (.getfield 31) 3 48 := ⟨by decide +kernel, rfl⟩
theorem d_X8_starts_48 : zDc M_X8_starts 48 (.iload_n 2) 1 49 := ⟨by decide +kernel, rfl⟩
theorem d_X8_starts_49 : zDc M_X8_starts 49 (.iaload) 1 50 := ⟨by decide +kernel, rfl⟩
theorem d_X8_starts_50 : zDj M_X8_starts 50 (.goto 4) 4 53 54 := ⟨by decide +kernel, rfl, by decide⟩
theorem d_X8_starts_53 : zDc M_X8_starts 53 (.iconst 0) 1 54 := ⟨by decide +kernel, rfl⟩
theorem d_X8_starts_54 : zDc M_X8_starts 54 (.iastore) 1 55 := ⟨by decide +kernel, rfl⟩
theorem d_X8_starts_55 : zDc M_X8_starts 55 (.aload_n 0) 1 56 := ⟨by decide +kernel, rfl⟩
theorem d_X8_starts_56 : zDc M_X8_starts 56 (.getfield 84) 3 59 := ⟨by decide +kernel, rfl⟩
theorem d_X8_starts_59 : zDc M_X8_starts 59 (.iload_n 3) 1 60 := ⟨by decide +kernel, rfl⟩
theorem d_X8_starts_60 : zDc M_X8_starts 60 (.iload_n 2) 1 61 := ⟨by decide +kernel, rfl⟩
theorem d_X8_starts_61 : zDc M_X8_starts 61 (.aload_n 0) 1 62 := ⟨by decide +kernel, rfl⟩
theorem d_X8_starts_62 : zDc M_X8_starts 62 (.getfield 13) 3 65 := ⟨by decide +kernel, rfl⟩
theorem d_X8_starts_65 : zDc M_X8_starts 65 (.iconst 1) 1 66 := ⟨by decide +kernel, rfl⟩
theorem d_X8_starts_66 : zDc M_X8_starts 66 (.iaload) 1 67 := ⟨by decide +kernel, rfl⟩
theorem d_X8_starts_67 : zDj M_X8_starts 67 (.if_icmp .ge 11) 11 70 78 := ⟨by decide +kernel, rfl, by decide⟩
theorem d_X8_starts_70 : zDc M_X8_starts 70 (.aload_n 0) 1 71 := ⟨by decide +kernel, rfl⟩
theorem d_X8_starts_71 : zDc M_X8_starts 71 (.iload_n 2) 1 72 := ⟨by decide +kernel, rfl⟩
theorem d_X8_starts_72 : zDc M_X8_starts 72 (.invokevirtual 334) 3 75 := ⟨by decide +kernel, rfl⟩
theorem d_X8_starts_75 : zDj M_X8_starts 75 (.goto 4) 4 78 79 := ⟨by decide +kernel, rfl, by decide⟩
theorem d_X8_starts_78 : zDc M_X8_starts 78 (.iconst 0) 1 79 := ⟨by decide +kernel, rfl⟩
theorem d_X8_starts_79 : zDc M_X8_starts 79 (.iastore) 1 80 := ⟨by decide +kernel, rfl⟩
theorem d_X8_starts_80 : zDc M_X8_starts 80 (.aload_n 0) 1 81 := ⟨by decide +kernel, rfl⟩
theorem d_X8_starts_81 : zDc M_X8_starts 81 (.getfield 87) 3 84 := ⟨by decide +kernel, rfl⟩
theorem d_X8_starts_84 : zDc M_X8_starts 84 (.iload_n 3) 1 85 := ⟨by decide +kernel, rfl⟩
theorem d_X8_starts_85 : zDc M_X8_starts 85 (.iconst 0) 1 86 := ⟨by decide +kernel, rfl⟩
theorem d_X8_starts_86 : zDc M_X8_starts 86 (.iastore) 1 87 := ⟨by decide +kernel, rfl⟩
theorem d_X8_starts_87 : zDc M_X8_starts 87 (.aload_n 0) 1 88 := ⟨by decide +kernel, rfl⟩
theorem d_X8_starts_88 : zDc M_X8_starts 88 (.getfield 90) 3 91 := ⟨by decide +kernel, rfl⟩
theorem d_X8_starts_91 : zDc M_X8_starts 91 (.iload_n 3) 1 92 := ⟨by decide +kernel, rfl⟩
theorem d_X8_starts_92 : zDc M_X8_starts 92 (.iconst (-1)) 1 93 := ⟨by decide +kernel, rfl⟩
theorem d_X8_starts_93 : zDc M_X8_starts 93 (.iastore) 1 94 := ⟨by decide +kernel, rfl⟩
theorem d_X8_starts_94 : zDc M_X8_starts 94 (.aload_n 0) 1 95 := ⟨by decide +kernel, rfl⟩
theorem d_X8_starts_95 : zDc M_X8_starts 95 (.getfield 93) 3 98 := ⟨by decide +kernel, rfl⟩
theorem d_X8_starts_98 : zDc M_X8_starts 98 (.iload_n 3) 1 99 := ⟨by decide +kernel, rfl⟩
theorem d_X8_starts_99 : zDc M_X8_starts 99 (.iconst 0) 1 100 := ⟨by decide +kernel, rfl⟩
theorem d_X8_starts_100 : zDc M_X8_starts 100 (.iastore) 1 101 := ⟨by decide +kernel, rfl⟩
theorem d_X8_starts_101 : zDc M_X8_starts 101 (.iinc 2 1) 3 104 := ⟨by decide +kernel, rfl⟩
theorem d_X8_starts_104 : zDj M_X8_starts 104 (.goto (-88)) (-88) 107 16 := ⟨by decide +kernel, rfl, by decide⟩
theorem d_X8_starts_107 : zDc M_X8_starts 107 (.iconst 0) 1 108 := ⟨by decide +kernel, rfl⟩
theorem d_X8_starts_108 : zDc M_X8_starts 108 (.istore_n 2) 1 109 := ⟨by decide +kernel, rfl⟩
theorem d_X8_starts_109 : zDc M_X8_starts 109 (.iload_n 2) 1 110 := ⟨by decide +kernel, rfl⟩
theorem d_X8_starts_110 : zDc M_X8_starts 110 (.bipush 6) 2 112 := ⟨by decide +kernel, rfl⟩
theorem d_X8_starts_112 : zDj M_X8_starts 112 (.if_icmp .ge 52) 52 115 164 := ⟨by decide +kernel, rfl, by decide⟩
theorem d_X8_starts_115 : zDc M_X8_starts 115 (.aload_n 0) 1 116 := ⟨by decide +kernel, rfl⟩
theorem d_X8_starts_116 : zDc M_X8_starts 116 (.getfield 96) 3 119 := ⟨by decide +kernel, rfl⟩
theorem d_X8_starts_119 : zDc M_X8_starts 119 (.bipush 6) 2 121 := ⟨by decide +kernel, rfl⟩
theorem d_X8_starts_121 : zDc M_X8_starts 121 (.iload_n 1) 1 122 := ⟨by decide +kernel, rfl⟩
theorem d_X8_starts_122 : zDc M_X8_starts 122 (.imul) 1 123 := ⟨by decide +kernel, rfl⟩
theorem d_X8_starts_123 : zDc M_X8_starts 123 (.iload_n 2) 1 124 := ⟨by decide +kernel, rfl⟩
theorem d_X8_starts_124 : zDc M_X8_starts 124 (.iadd) 1 125 := ⟨by decide +kernel, rfl⟩
theorem d_X8_starts_125 : zDc M_X8_starts 125 (.iload_n 2) 1 126 := ⟨by decide +kernel, rfl⟩
theorem d_X8_starts_126 : zDc M_X8_starts 126 (.aload_n 0) 1 127 := ⟨by decide +kernel, rfl⟩
theorem d_X8_starts_127 : zDc M_X8_starts 127 (.getfield 13) 3 130 := ⟨by decide +kernel, rfl⟩
theorem d_X8_starts_130 : zDc M_X8_starts 130 (.iconst 2) 1 131 := ⟨by decide +kernel, rfl⟩
theorem d_X8_starts_131 : zDc M_X8_starts 131 (.iaload) 1 132 := ⟨by decide +kernel, rfl⟩
theorem d_X8_starts_132 : zDj M_X8_starts 132 (.if_icmp .ge 12) 12 135 144 := ⟨by decide +kernel, rfl, by decide⟩
theorem d_X8_starts_135 : zDc M_X8_starts 135 (.aload_n 0) 1 136 := ⟨by decide +kernel, rfl⟩
theorem d_X8_starts_136 : zDc M_X8_starts 136 (.getfield 43) 3 139 := ⟨by decide +kernel, rfl⟩
theorem d_X8_starts_139 : zDc M_X8_starts 139 (.iload_n 2) 1 140 := ⟨by decide +kernel, rfl⟩
theorem d_X8_starts_140 : zDc M_X8_starts 140 (.iaload) 1 141 := ⟨by decide +kernel, rfl⟩
theorem d_X8_starts_141 : zDj M_X8_starts 141 (.goto 4) 4 144 145 := ⟨by decide +kernel, rfl, by decide⟩
theorem d_X8_starts_144 : zDc M_X8_starts 144 (.iconst 0) 1 145 := ⟨by decide +kernel, rfl⟩
theorem d_X8_starts_145 : zDc M_X8_starts 145 (.iastore) 1 146 := ⟨by decide +kernel, rfl⟩
theorem d_X8_starts_146 : zDc M_X8_starts 146 (.aload_n 0) 1 147 := ⟨by decide +kernel, rfl⟩
theorem d_X8_starts_147 : zDc M_X8_starts 147 (.getfield 99) 3 150 := ⟨by decide +kernel, rfl⟩
theorem d_X8_starts_150 : zDc M_X8_starts 150 (.bipush 6) 2 152 := ⟨by decide +kernel, rfl⟩
theorem d_X8_starts_152 : zDc M_X8_starts 152 (.iload_n 1) 1 153 := ⟨by decide +kernel, rfl⟩
theorem d_X8_starts_153 : zDc M_X8_starts 153 (.imul) 1 154 := ⟨by decide +kernel, rfl⟩
theorem d_X8_starts_154 : zDc M_X8_starts 154 (.iload_n 2) 1 155 := ⟨by decide +kernel, rfl⟩
theorem d_X8_starts_155 : zDc M_X8_starts 155 (.iadd) 1 156 := ⟨by decide +kernel, rfl⟩
theorem d_X8_starts_156 : zDc M_X8_starts 156 (.iconst 0) 1 157 := ⟨by decide +kernel, rfl⟩
theorem d_X8_starts_157 : zDc M_X8_starts 157 (.iastore) 1 158 := ⟨by decide +kernel, rfl⟩
theorem d_X8_starts_158 : zDc M_X8_starts 158 (.iinc 2 1) 3 161 := ⟨by decide +kernel, rfl⟩
theorem d_X8_starts_161 : zDj M_X8_starts 161 (.goto (-52)) (-52) 164 109 := ⟨by decide +kernel, rfl, by decide⟩
theorem d_X8_starts_164 : zDc M_X8_starts 164 (.iconst 0) 1 165 := ⟨by decide +kernel, rfl⟩
theorem d_X8_starts_165 : zDc M_X8_starts 165 (.istore_n 2) 1 166 := ⟨by decide +kernel, rfl⟩
theorem d_X8_starts_166 : zDc M_X8_starts 166 (.iload_n 2) 1 167 := ⟨by decide +kernel, rfl⟩
theorem d_X8_starts_167 : zDc M_X8_starts 167 (.iconst 5) 1 168 := ⟨by decide +kernel, rfl⟩
theorem d_X8_starts_168 : zDj M_X8_starts 168 (.if_icmp .ge 20) 20 171 188 := ⟨by decide +kernel, rfl, by decide⟩
theorem d_X8_starts_171 : zDc M_X8_starts 171 (.aload_n 0) 1 172 := ⟨by decide +kernel, rfl⟩
theorem d_X8_starts_172 : zDc M_X8_starts 172 (.getfield 102) 3 175 := ⟨by decide +kernel, rfl⟩
theorem d_X8_starts_175 : zDc M_X8_starts 175 (.iconst 5) 1 176 := ⟨by decide +kernel, rfl⟩
theorem d_X8_starts_176 : zDc M_X8_starts 176 (.iload_n 1) 1 177 := ⟨by decide +kernel, rfl⟩
theorem d_X8_starts_177 : zDc M_X8_starts 177 (.imul) 1 178 := ⟨by decide +kernel, rfl⟩
theorem d_X8_starts_178 : zDc M_X8_starts 178 (.iload_n 2) 1 179 := ⟨by decide +kernel, rfl⟩
theorem d_X8_starts_179 : zDc M_X8_starts 179 (.iadd) 1 180 := ⟨by decide +kernel, rfl⟩
theorem d_X8_starts_180 : zDc M_X8_starts 180 (.iconst 0) 1 181 := ⟨by decide +kernel, rfl⟩
theorem d_X8_starts_181 : zDc M_X8_starts 181 (.iastore) 1 182 := ⟨by decide +kernel, rfl⟩
theorem d_X8_starts_182 : zDc M_X8_starts 182 (.iinc 2 1) 3 185 := ⟨by decide +kernel, rfl⟩
theorem d_X8_starts_185 : zDj M_X8_starts 185 (.goto (-19)) (-19) 188 166 := ⟨by decide +kernel, rfl, by decide⟩
theorem d_X8_starts_188 : zDc M_X8_starts 188 (.iconst 0) 1 189 := ⟨by decide +kernel, rfl⟩
theorem d_X8_starts_189 : zDc M_X8_starts 189 (.istore_n 2) 1 190 := ⟨by decide +kernel, rfl⟩
theorem d_X8_starts_190 : zDc M_X8_starts 190 (.iload_n 2) 1 191 := ⟨by decide +kernel, rfl⟩
theorem d_X8_starts_191 : zDc M_X8_starts 191 (.bipush 35) 2 193 := ⟨by decide +kernel, rfl⟩
theorem d_X8_starts_193 : zDj M_X8_starts 193 (.if_icmp .ge 21) 21 196 214 := ⟨by decide +kernel, rfl, by decide⟩
theorem d_X8_starts_196 : zDc M_X8_starts 196 (.aload_n 0) 1 197 := ⟨by decide +kernel, rfl⟩
theorem d_X8_starts_197 : zDc M_X8_starts 197 (.getfield 105) 3 200 := ⟨by decide +kernel, rfl⟩
theorem d_X8_starts_200 : zDc M_X8_starts 200 (.bipush 35) 2 202 := ⟨by decide +kernel, rfl⟩
theorem d_X8_starts_202 : zDc M_X8_starts 202 (.iload_n 1) 1 203 := ⟨by decide +kernel, rfl⟩
theorem d_X8_starts_203 : zDc M_X8_starts 203 (.imul) 1 204 := ⟨by decide +kernel, rfl⟩
theorem d_X8_starts_204 : zDc M_X8_starts 204 (.iload_n 2) 1 205 := ⟨by decide +kernel, rfl⟩
theorem d_X8_starts_205 : zDc M_X8_starts 205 (.iadd) 1 206 := ⟨by decide +kernel, rfl⟩
theorem d_X8_starts_206 : zDc M_X8_starts 206 (.iconst 0) 1 207 := ⟨by decide +kernel, rfl⟩
theorem d_X8_starts_207 : zDc M_X8_starts 207 (.iastore) 1 208 := ⟨by decide +kernel, rfl⟩
theorem d_X8_starts_208 : zDc M_X8_starts 208 (.iinc 2 1) 3 211 := ⟨by decide +kernel, rfl⟩
theorem d_X8_starts_211 : zDj M_X8_starts 211 (.goto (-21)) (-21) 214 190 := ⟨by decide +kernel, rfl, by decide⟩
theorem d_X8_starts_214 : zDc M_X8_starts 214 (.return_) 1 215 := ⟨by decide +kernel, rfl⟩
def f_X8_starts (a0 : Nat) (a1 : Int32) (h0 : zHp) : Option (Unit × zHp) :=
  zob (zgR h0 a0 8 36) (fun v1 =>
  zob (zsI 0 h0 v1 a1 0) (fun h2 =>
  zob (zgR h2 a0 8 37) (fun v3 =>
  zob (zsI 0 h2 v3 a1 (-1)) (fun h4 =>
  zbd (
  zlp (σ := Int32) (β := Int32) zLF (fun s5 h6 =>
  if 8 ≤ s5 then
  some ((.inr s5), h6)
  else
  zob (zgR h6 a0 8 38) (fun v9 =>
  zob (zgR h6 a0 8 3) (fun v10 =>
  zob (zaI 0 h6 v10 1) (fun v11 =>
  zbd (α := Int32) (
  if v11 ≤ s5 then
  some (0, h6)
  else
  zob (zgR h6 a0 8 9) (fun v12 =>
  zob (zaI 0 h6 v12 s5) (fun v13 =>
  some (v13, h6)))) (fun e14 h15 =>
  zob (zsI 0 h15 v9 ((8 * a1) + s5) e14) (fun h16 =>
  zob (zgR h16 a0 8 39) (fun v17 =>
  zob (zgR h16 a0 8 3) (fun v18 =>
  zob (zaI 0 h16 v18 1) (fun v19 =>
  zbd (α := Int32) (
  if v19 ≤ s5 then
  some (0, h16)
  else
  zbd (zcv 8 a0 h16 (f_X8_sizeIn a0 s5 h16)) (fun v21 h20 =>
  some (v21, h20))) (fun e22 h23 =>
  zob (zsI 0 h23 v17 ((8 * a1) + s5) e22) (fun h24 =>
  zob (zgR h24 a0 8 40) (fun v25 =>
  zob (zsI 0 h24 v25 ((8 * a1) + s5) 0) (fun h26 =>
  zob (zgR h26 a0 8 41) (fun v27 =>
  zob (zsI 0 h26 v27 ((8 * a1) + s5) (-1)) (fun h28 =>
  zob (zgR h28 a0 8 42) (fun v29 =>
  zob (zsI 0 h28 v29 ((8 * a1) + s5) 0) (fun h30 =>
  some ((.inl (s5 + 1)), h30)))))))))))))))))) 0 h4) (fun e7 h8 =>
  zbd (
  zlp (σ := Int32) (β := Int32) zLF (fun s31 h32 =>
  if 6 ≤ s31 then
  some ((.inr s31), h32)
  else
  zob (zgR h32 a0 8 43) (fun v35 =>
  zob (zgR h32 a0 8 3) (fun v36 =>
  zob (zaI 0 h32 v36 2) (fun v37 =>
  zbd (α := Int32) (
  if v37 ≤ s31 then
  some (0, h32)
  else
  zob (zgR h32 a0 8 13) (fun v38 =>
  zob (zaI 0 h32 v38 s31) (fun v39 =>
  some (v39, h32)))) (fun e40 h41 =>
  zob (zsI 0 h41 v35 ((6 * a1) + s31) e40) (fun h42 =>
  zob (zgR h42 a0 8 44) (fun v43 =>
  zob (zsI 0 h42 v43 ((6 * a1) + s31) 0) (fun h44 =>
  some ((.inl (s31 + 1)), h44))))))))) 0 h8) (fun e33 h34 =>
  zbd (
  zlp (σ := Int32) (β := Int32) zLF (fun s45 h46 =>
  if 5 ≤ s45 then
  some ((.inr s45), h46)
  else
  zob (zgR h46 a0 8 45) (fun v49 =>
  zob (zsI 0 h46 v49 ((5 * a1) + s45) 0) (fun h50 =>
  some ((.inl (s45 + 1)), h50)))) 0 h34) (fun e47 h48 =>
  zbd (
  zlp (σ := Int32) (β := Int32) zLF (fun s51 h52 =>
  if 35 ≤ s51 then
  some ((.inr s51), h52)
  else
  zob (zgR h52 a0 8 46) (fun v55 =>
  zob (zsI 0 h52 v55 ((35 * a1) + s51) 0) (fun h56 =>
  some ((.inl (s51 + 1)), h56)))) 0 h48) (fun e53 h54 =>
  some ((), h54)))))))))
set_option maxRecDepth 100000 in
set_option maxHeartbeats 4000000 in
theorem t_X8_starts (a0 : Nat) (a1 : Int32) (h0 : zHp) : ∀ (r : Unit) (h' : zHp), f_X8_starts a0 a1 h0 = some (r, h') → zCt yX8_starts (.code yX8_starts cX8_starts 4 none) 2 81 0 0 [.ref a0, .int a1] h0 (none) h' := by
  refine zct_of M_X8_starts yX8_starts (by decide) rfl rfl [.ref a0, .int a1] h0 (Nat.le_of_ble_eq_true rfl) (fun _ => none) (fun X => ?_)
  show zG X M_X8_starts (0, 0) 0 [(0, .ref a0), (1, .int a1)] [] h0 (f_X8_starts a0 a1 h0) (fun (_ : Unit) h' => zKe X (none) h')
  unfold f_X8_starts
  refine zg_aload_n 0 rfl d_X8_starts_0 ?_
  refine zg_getR d_X8_starts_1 zc_8 (by decide) fl_X8_75 (fun v1 => ?_)
  refine zg_iload_n 1 rfl d_X8_starts_4 ?_
  refine zg_iconst 0 rfl d_X8_starts_5 ?_
  refine zg_ast0 d_X8_starts_6 (fun h2 => ?_)
  refine zg_aload_n 0 rfl d_X8_starts_7 ?_
  refine zg_getR d_X8_starts_8 zc_8 (by decide) fl_X8_78 (fun v3 => ?_)
  refine zg_iload_n 1 rfl d_X8_starts_11 ?_
  refine zg_iconst (-1) rfl d_X8_starts_12 ?_
  refine zg_ast0 d_X8_starts_13 (fun h4 => ?_)
  refine zg_iconst 0 rfl d_X8_starts_14 ?_
  refine zg_istore_n [(2, .int 0), (0, .ref a0), (1, .int a1)] d_X8_starts_15 rfl (by decide) rfl ?_
  refine zg_bd (E := 107) (el := (fun (e7 : Int32) => [(0, .ref a0), (1, .int a1), (2, .int e7)])) (es := fun _ => []) (zg_sub [1, 2, 0] rfl (zg_lp (el := (fun (s5 : Int32) => [(0, .ref a0), (1, .int a1), (2, .int s5)])) (fun s5 h6 => ?_) 0 h4)) (fun e7 h8 => ?_)
  · refine zg_iload_n 2 rfl d_X8_starts_16 ?_
    refine zg_bipush 8 rfl d_X8_starts_17 ?_
    refine zg_icmp_ge d_X8_starts_19 ?_ ?_
    · exact zg_finK (E := 0) [0, 1, 2] rfl rfl (fun q => q)
    · refine zg_bipush 8 rfl d_X8_starts_22 ?_
      refine zg_iload_n 1 rfl d_X8_starts_24 ?_
      refine zg_imul d_X8_starts_25 ?_
      refine zg_iload_n 2 rfl d_X8_starts_26 ?_
      refine zg_iadd d_X8_starts_27 ?_
      refine zg_istore_n [(3, .int ((8 * a1) + s5)), (0, .ref a0), (1, .int a1), (2, .int s5)] d_X8_starts_28 rfl (by decide) rfl ?_
      refine zg_aload_n 1 rfl d_X8_starts_29 ?_
      refine zg_getR d_X8_starts_30 zc_8 (by decide) fl_X8_81 (fun v9 => ?_)
      refine zg_iload_n 0 rfl d_X8_starts_33 ?_
      refine zg_iload_n 3 rfl d_X8_starts_34 ?_
      refine zg_aload_n 1 rfl d_X8_starts_35 ?_
      refine zg_getR d_X8_starts_36 zc_8 (by decide) fl_X8_13 (fun v10 => ?_)
      refine zg_iconst 1 rfl d_X8_starts_39 ?_
      refine zg_ald0 d_X8_starts_40 (fun v11 => ?_)
      refine zg_bd (E := 54) (el := (fun (e14 : Int32) => [(0, .ref a0), (1, .int a1), (2, .int s5), (3, .int ((8 * a1) + s5))])) (es := (fun (e14 : Int32) => [.int e14, .int ((8 * a1) + s5), .ref v9])) ?_ (fun e14 h15 => ?_)
      · refine zg_icmp_ge d_X8_starts_41 ?_ ?_
        · refine zg_iconst 0 rfl d_X8_starts_53 ?_
          exact zg_finK (E := 0) [1, 2, 3, 0] rfl rfl (fun q => q)
        · refine zg_aload_n 1 rfl d_X8_starts_44 ?_
          refine zg_getR d_X8_starts_45 zc_8 (by decide) fl_X8_31 (fun v12 => ?_)
          refine zg_iload_n 3 rfl d_X8_starts_48 ?_
          refine zg_ald0 d_X8_starts_49 (fun v13 => ?_)
          refine zg_goto d_X8_starts_50 ?_
          exact zg_finK (E := 0) [1, 2, 3, 0] rfl rfl (fun q => q)
      · refine zg_ast0 d_X8_starts_54 (fun h16 => ?_)
        refine zg_aload_n 0 rfl d_X8_starts_55 ?_
        refine zg_getR d_X8_starts_56 zc_8 (by decide) fl_X8_84 (fun v17 => ?_)
        refine zg_iload_n 3 rfl d_X8_starts_59 ?_
        refine zg_iload_n 2 rfl d_X8_starts_60 ?_
        refine zg_aload_n 0 rfl d_X8_starts_61 ?_
        refine zg_getR d_X8_starts_62 zc_8 (by decide) fl_X8_13 (fun v18 => ?_)
        refine zg_iconst 1 rfl d_X8_starts_65 ?_
        refine zg_ald0 d_X8_starts_66 (fun v19 => ?_)
        refine zg_bd (E := 79) (el := (fun (e22 : Int32) => [(0, .ref a0), (1, .int a1), (2, .int s5), (3, .int ((8 * a1) + s5))])) (es := (fun (e22 : Int32) => [.int e22, .int ((8 * a1) + s5), .ref v17])) ?_ (fun e22 h23 => ?_)
        · refine zg_icmp_ge d_X8_starts_67 ?_ ?_
          · refine zg_iconst 0 rfl d_X8_starts_78 ?_
            exact zg_finK (E := 0) [0, 1, 2, 3] rfl rfl (fun q => q)
          · refine zg_aload_n 0 rfl d_X8_starts_70 ?_
            refine zg_iload_n 2 rfl d_X8_starts_71 ?_
            refine zg_cVi (b := a0) (As := [.int s5]) (rest := [.int ((8 * a1) + s5), .ref v17]) (0, 0) d_X8_starts_72 zc_8 rfl cw_X8_334 wi_X8_sizeIn ws_X8_sizeIn rfl rfl (Nat.le_of_ble_eq_true rfl) (by decide) (by decide) ⟨by decide, by decide⟩ rfl (t_X8_sizeIn a0 s5 h16) (fun v21 h20 => ?_)
            refine zg_goto d_X8_starts_75 ?_
            exact zg_finK (E := 0) [0, 1, 2, 3] rfl rfl (fun q => q)
        · refine zg_ast0 d_X8_starts_79 (fun h24 => ?_)
          refine zg_aload_n 0 rfl d_X8_starts_80 ?_
          refine zg_getR d_X8_starts_81 zc_8 (by decide) fl_X8_87 (fun v25 => ?_)
          refine zg_iload_n 3 rfl d_X8_starts_84 ?_
          refine zg_iconst 0 rfl d_X8_starts_85 ?_
          refine zg_ast0 d_X8_starts_86 (fun h26 => ?_)
          refine zg_aload_n 0 rfl d_X8_starts_87 ?_
          refine zg_getR d_X8_starts_88 zc_8 (by decide) fl_X8_90 (fun v27 => ?_)
          refine zg_iload_n 3 rfl d_X8_starts_91 ?_
          refine zg_iconst (-1) rfl d_X8_starts_92 ?_
          refine zg_ast0 d_X8_starts_93 (fun h28 => ?_)
          refine zg_aload_n 0 rfl d_X8_starts_94 ?_
          refine zg_getR d_X8_starts_95 zc_8 (by decide) fl_X8_93 (fun v29 => ?_)
          refine zg_iload_n 3 rfl d_X8_starts_98 ?_
          refine zg_iconst 0 rfl d_X8_starts_99 ?_
          refine zg_ast0 d_X8_starts_100 (fun h30 => ?_)
          refine zg_iinc 2 (s5 + 1) [(2, .int (s5 + 1)), (0, .ref a0), (1, .int a1), (3, .int ((8 * a1) + s5))] d_X8_starts_101 rfl rfl (by decide) rfl ?_
          refine zg_goto d_X8_starts_104 ?_
          exact zg_finK (E := 0) [1, 2, 0] rfl rfl (fun q => q)
  · refine zg_iconst 0 rfl d_X8_starts_107 ?_
    refine zg_istore_n [(2, .int 0), (0, .ref a0), (1, .int a1)] d_X8_starts_108 rfl (by decide) rfl ?_
    refine zg_bd (E := 164) (el := (fun (e33 : Int32) => [(0, .ref a0), (1, .int a1), (2, .int e33)])) (es := fun _ => []) (zg_sub [1, 2, 0] rfl (zg_lp (el := (fun (s31 : Int32) => [(0, .ref a0), (1, .int a1), (2, .int s31)])) (fun s31 h32 => ?_) 0 h8)) (fun e33 h34 => ?_)
    · refine zg_iload_n 2 rfl d_X8_starts_109 ?_
      refine zg_bipush 6 rfl d_X8_starts_110 ?_
      refine zg_icmp_ge d_X8_starts_112 ?_ ?_
      · exact zg_finK (E := 0) [0, 1, 2] rfl rfl (fun q => q)
      · refine zg_aload_n 0 rfl d_X8_starts_115 ?_
        refine zg_getR d_X8_starts_116 zc_8 (by decide) fl_X8_96 (fun v35 => ?_)
        refine zg_bipush 6 rfl d_X8_starts_119 ?_
        refine zg_iload_n 1 rfl d_X8_starts_121 ?_
        refine zg_imul d_X8_starts_122 ?_
        refine zg_iload_n 2 rfl d_X8_starts_123 ?_
        refine zg_iadd d_X8_starts_124 ?_
        refine zg_iload_n 2 rfl d_X8_starts_125 ?_
        refine zg_aload_n 0 rfl d_X8_starts_126 ?_
        refine zg_getR d_X8_starts_127 zc_8 (by decide) fl_X8_13 (fun v36 => ?_)
        refine zg_iconst 2 rfl d_X8_starts_130 ?_
        refine zg_ald0 d_X8_starts_131 (fun v37 => ?_)
        refine zg_bd (E := 145) (el := (fun (e40 : Int32) => [(0, .ref a0), (1, .int a1), (2, .int s31)])) (es := (fun (e40 : Int32) => [.int e40, .int ((6 * a1) + s31), .ref v35])) ?_ (fun e40 h41 => ?_)
        · refine zg_icmp_ge d_X8_starts_132 ?_ ?_
          · refine zg_iconst 0 rfl d_X8_starts_144 ?_
            exact zg_finK (E := 0) [0, 1, 2] rfl rfl (fun q => q)
          · refine zg_aload_n 0 rfl d_X8_starts_135 ?_
            refine zg_getR d_X8_starts_136 zc_8 (by decide) fl_X8_43 (fun v38 => ?_)
            refine zg_iload_n 2 rfl d_X8_starts_139 ?_
            refine zg_ald0 d_X8_starts_140 (fun v39 => ?_)
            refine zg_goto d_X8_starts_141 ?_
            exact zg_finK (E := 0) [0, 1, 2] rfl rfl (fun q => q)
        · refine zg_ast0 d_X8_starts_145 (fun h42 => ?_)
          refine zg_aload_n 0 rfl d_X8_starts_146 ?_
          refine zg_getR d_X8_starts_147 zc_8 (by decide) fl_X8_99 (fun v43 => ?_)
          refine zg_bipush 6 rfl d_X8_starts_150 ?_
          refine zg_iload_n 1 rfl d_X8_starts_152 ?_
          refine zg_imul d_X8_starts_153 ?_
          refine zg_iload_n 2 rfl d_X8_starts_154 ?_
          refine zg_iadd d_X8_starts_155 ?_
          refine zg_iconst 0 rfl d_X8_starts_156 ?_
          refine zg_ast0 d_X8_starts_157 (fun h44 => ?_)
          refine zg_iinc 2 (s31 + 1) [(2, .int (s31 + 1)), (0, .ref a0), (1, .int a1)] d_X8_starts_158 rfl rfl (by decide) rfl ?_
          refine zg_goto d_X8_starts_161 ?_
          exact zg_finK (E := 0) [1, 2, 0] rfl rfl (fun q => q)
    · refine zg_iconst 0 rfl d_X8_starts_164 ?_
      refine zg_istore_n [(2, .int 0), (0, .ref a0), (1, .int a1)] d_X8_starts_165 rfl (by decide) rfl ?_
      refine zg_bd (E := 188) (el := (fun (e47 : Int32) => [(0, .ref a0), (1, .int a1), (2, .int e47)])) (es := fun _ => []) (zg_sub [1, 2, 0] rfl (zg_lp (el := (fun (s45 : Int32) => [(0, .ref a0), (1, .int a1), (2, .int s45)])) (fun s45 h46 => ?_) 0 h34)) (fun e47 h48 => ?_)
      · refine zg_iload_n 2 rfl d_X8_starts_166 ?_
        refine zg_iconst 5 rfl d_X8_starts_167 ?_
        refine zg_icmp_ge d_X8_starts_168 ?_ ?_
        · exact zg_finK (E := 0) [0, 1, 2] rfl rfl (fun q => q)
        · refine zg_aload_n 0 rfl d_X8_starts_171 ?_
          refine zg_getR d_X8_starts_172 zc_8 (by decide) fl_X8_102 (fun v49 => ?_)
          refine zg_iconst 5 rfl d_X8_starts_175 ?_
          refine zg_iload_n 1 rfl d_X8_starts_176 ?_
          refine zg_imul d_X8_starts_177 ?_
          refine zg_iload_n 2 rfl d_X8_starts_178 ?_
          refine zg_iadd d_X8_starts_179 ?_
          refine zg_iconst 0 rfl d_X8_starts_180 ?_
          refine zg_ast0 d_X8_starts_181 (fun h50 => ?_)
          refine zg_iinc 2 (s45 + 1) [(2, .int (s45 + 1)), (0, .ref a0), (1, .int a1)] d_X8_starts_182 rfl rfl (by decide) rfl ?_
          refine zg_goto d_X8_starts_185 ?_
          exact zg_finK (E := 0) [1, 2, 0] rfl rfl (fun q => q)
      · refine zg_iconst 0 rfl d_X8_starts_188 ?_
        refine zg_istore_n [(2, .int 0), (0, .ref a0), (1, .int a1)] d_X8_starts_189 rfl (by decide) rfl ?_
        refine zg_bd (E := 214) (el := (fun (e53 : Int32) => [(0, .ref a0), (1, .int a1), (2, .int e53)])) (es := fun _ => []) (zg_sub [1, 2, 0] rfl (zg_lp (el := (fun (s51 : Int32) => [(0, .ref a0), (1, .int a1), (2, .int s51)])) (fun s51 h52 => ?_) 0 h48)) (fun e53 h54 => ?_)
        · refine zg_iload_n 2 rfl d_X8_starts_190 ?_
          refine zg_bipush 35 rfl d_X8_starts_191 ?_
          refine zg_icmp_ge d_X8_starts_193 ?_ ?_
          · exact zg_finK (E := 0) [0, 1, 2] rfl rfl (fun q => q)
          · refine zg_aload_n 0 rfl d_X8_starts_196 ?_
            refine zg_getR d_X8_starts_197 zc_8 (by decide) fl_X8_105 (fun v55 => ?_)
            refine zg_bipush 35 rfl d_X8_starts_200 ?_
            refine zg_iload_n 1 rfl d_X8_starts_202 ?_
            refine zg_imul d_X8_starts_203 ?_
            refine zg_iload_n 2 rfl d_X8_starts_204 ?_
            refine zg_iadd d_X8_starts_205 ?_
            refine zg_iconst 0 rfl d_X8_starts_206 ?_
            refine zg_ast0 d_X8_starts_207 (fun h56 => ?_)
            refine zg_iinc 2 (s51 + 1) [(2, .int (s51 + 1)), (0, .ref a0), (1, .int a1)] d_X8_starts_208 rfl rfl (by decide) rfl ?_
            refine zg_goto d_X8_starts_211 ?_
            exact zg_finK (E := 0) [1, 2, 0] rfl rfl (fun q => q)
        · exact zg_vretK d_X8_starts_214 rfl ⟨Nat.le_of_ble_eq_true rfl, Nat.le_of_ble_eq_true rfl⟩ (fun q => q)
abbrev M_X8_begins : zMt := (RX8, cX8_begins, 1, 3, 104, none, "begins", 0, 0)
theorem d_X8_begins_0 : zDc M_X8_begins 0 (.aload_n 0) 1 1 := ⟨by decide +kernel, rfl⟩
theorem d_X8_begins_1 : zDc M_X8_begins 1 (.iconst 0) 1 2 := ⟨by decide +kernel, rfl⟩
theorem d_X8_begins_2 : zDc M_X8_begins 2 (.invokevirtual 337) 3 5 := ⟨by decide +kernel, rfl⟩
theorem d_X8_begins_5 : zDc M_X8_begins 5 (.return_) 1 6 := ⟨by decide +kernel, rfl⟩
def f_X8_begins (a0 : Nat) (h0 : zHp) : Option (Unit × zHp) :=
  zbd (zcv 8 a0 h0 (f_X8_starts a0 0 h0)) (fun v2 h1 =>
  some ((), h1))
set_option maxRecDepth 100000 in
set_option maxHeartbeats 4000000 in
theorem t_X8_begins (a0 : Nat) (h0 : zHp) : ∀ (r : Unit) (h' : zHp), f_X8_begins a0 h0 = some (r, h') → zCt yX8_begins (.code yX8_begins cX8_begins 1 none) 3 104 0 0 [.ref a0] h0 (none) h' := by
  refine zct_of M_X8_begins yX8_begins (by decide) rfl rfl [.ref a0] h0 (Nat.le_of_ble_eq_true rfl) (fun _ => none) (fun X => ?_)
  show zG X M_X8_begins (0, 0) 0 [(0, .ref a0)] [] h0 (f_X8_begins a0 h0) (fun (_ : Unit) h' => zKe X (none) h')
  unfold f_X8_begins
  refine zg_aload_n 0 rfl d_X8_begins_0 ?_
  refine zg_iconst 0 rfl d_X8_begins_1 ?_
  refine zg_cVv (b := a0) (As := [.int 0]) (rest := []) (0, 0) d_X8_begins_2 zc_8 rfl cw_X8_337 wi_X8_starts ws_X8_starts rfl rfl (Nat.le_of_ble_eq_true rfl) (by decide) (by decide) ⟨by decide, by decide⟩ rfl (t_X8_starts a0 0 h0) (fun v2 h1 => ?_)
  exact zg_vretK d_X8_begins_5 rfl ⟨Nat.le_of_ble_eq_true rfl, Nat.le_of_ble_eq_true rfl⟩ (fun q => q)
abbrev M_X8_keepNow : zMt := (RX8, cX8_keepNow, 2, 2, 85, none, "keepNow", 0, 0)
theorem d_X8_keepNow_0 : zDc M_X8_keepNow 0 (.aload_n 0) 1 1 := ⟨by decide +kernel, rfl⟩
theorem d_X8_keepNow_1 : zDc M_X8_keepNow 1 (.getfield 311) 3 4 := ⟨by decide +kernel, rfl⟩
theorem d_X8_keepNow_4 : zDc M_X8_keepNow 4 (.bipush 20) 2 6 := ⟨by decide +kernel, rfl⟩
theorem d_X8_keepNow_6 : zDj M_X8_keepNow 6 (.if_icmp .ne 39) 39 9 45 := ⟨by decide +kernel, rfl, by decide⟩
theorem d_X8_keepNow_9 : zDc M_X8_keepNow 9 (.iconst 1) 1 10 := ⟨by decide +kernel, rfl⟩
theorem d_X8_keepNow_10 : zDc M_X8_keepNow 10 (.istore_n 1) 1 11 := ⟨by decide +kernel, rfl⟩
theorem d_X8_keepNow_11 : zDc M_X8_keepNow 11 (.iload_n 1) 1 12 := ⟨by decide +kernel, rfl⟩
theorem d_X8_keepNow_12 : zDc M_X8_keepNow 12 (.bipush 20) 2 14 := ⟨by decide +kernel, rfl⟩
theorem d_X8_keepNow_14 : zDj M_X8_keepNow 14 (.if_icmp .ge 21) 21 17 35 := ⟨by decide +kernel, rfl, by decide⟩
theorem d_X8_keepNow_17 : zDc M_X8_keepNow 17 (.aload_n 0) 1 18 := ⟨by decide +kernel, rfl⟩
theorem d_X8_keepNow_18 : zDc M_X8_keepNow 18 (.iconst 3) 1 19 := ⟨by decide +kernel, rfl⟩
theorem d_X8_keepNow_19 : zDc M_X8_keepNow 19 (.iload_n 1) 1 20 := ⟨by decide +kernel, rfl⟩
theorem d_X8_keepNow_20 : zDc M_X8_keepNow 20 (.iadd) 1 21 := ⟨by decide +kernel, rfl⟩
theorem d_X8_keepNow_21 : zDc M_X8_keepNow 21 (.iconst 1) 1 22 := ⟨by decide +kernel, rfl⟩
theorem d_X8_keepNow_22 : zDc M_X8_keepNow 22 (.isub) 1 23 := ⟨by decide +kernel, rfl⟩
theorem d_X8_keepNow_23 : zDc M_X8_keepNow 23 (.iconst 3) 1 24 := ⟨by decide +kernel, rfl⟩
theorem d_X8_keepNow_24 : zDc M_X8_keepNow 24 (.iload_n 1) 1 25 := ⟨by decide +kernel, rfl⟩
theorem d_X8_keepNow_25 : zDc M_X8_keepNow 25 (.iadd) 1 26 := ⟨by decide +kernel, rfl⟩
theorem d_X8_keepNow_26 : zDc M_X8_keepNow 26 (.invokevirtual 416) 3 29 := ⟨by decide +kernel, rfl⟩
theorem d_X8_keepNow_29 : zDc M_X8_keepNow 29 (.iinc 1 1) 3 32 := ⟨by decide +kernel, rfl⟩
theorem d_X8_keepNow_32 : zDj M_X8_keepNow 32 (.goto (-21)) (-21) 35 11 := ⟨by decide +kernel, rfl, by decide⟩
theorem d_X8_keepNow_35 : zDc M_X8_keepNow 35 (.aload_n 0) 1 36 := ⟨by decide +kernel, rfl⟩
theorem d_X8_keepNow_36 : zDc M_X8_keepNow 36 (.dup) 1 37 := ⟨by decide +kernel, rfl⟩
theorem d_X8_keepNow_37 : zDc M_X8_keepNow 37 (.getfield 311) 3 40 := ⟨by decide +kernel, rfl⟩
theorem d_X8_keepNow_40 : zDc M_X8_keepNow 40 (.iconst 1) 1 41 := ⟨by decide +kernel, rfl⟩
theorem d_X8_keepNow_41 : zDc M_X8_keepNow 41 (.isub) 1 42 := ⟨by decide +kernel, rfl⟩
theorem d_X8_keepNow_42 : zDc M_X8_keepNow 42 (.putfield 311) 3 45 := ⟨by decide +kernel, rfl⟩
theorem d_X8_keepNow_45 : zDc M_X8_keepNow 45 (.aload_n 0) 1 46 := ⟨by decide +kernel, rfl⟩
theorem d_X8_keepNow_46 : zDc M_X8_keepNow 46 (.iconst 3) 1 47 := ⟨by decide +kernel, rfl⟩
theorem d_X8_keepNow_47 : zDc M_X8_keepNow 47 (.aload_n 0) 1 48 := ⟨by decide +kernel, rfl⟩
theorem d_X8_keepNow_48 : zDc M_X8_keepNow 48 (.getfield 311) 3 51 := ⟨by decide +kernel, rfl⟩
theorem d_X8_keepNow_51 : zDc M_X8_keepNow 51 (.iadd) 1 52 := ⟨by decide +kernel, rfl⟩
theorem d_X8_keepNow_52 : zDc M_X8_keepNow 52 (.iconst 0) 1 53 := ⟨by decide +kernel, rfl⟩
theorem d_X8_keepNow_53 : zDc M_X8_keepNow 53 (.invokevirtual 416) 3 56 := ⟨by decide +kernel, rfl⟩
theorem d_X8_keepNow_56 : zDc M_X8_keepNow 56 (.aload_n 0) 1 57 := ⟨by decide +kernel, rfl⟩
theorem d_X8_keepNow_57 : zDc M_X8_keepNow 57 (.dup) 1 58 := ⟨by decide +kernel, rfl⟩
theorem d_X8_keepNow_58 : zDc M_X8_keepNow 58 (.getfield 311) 3 61 := ⟨by decide +kernel, rfl⟩
theorem d_X8_keepNow_61 : zDc M_X8_keepNow 61 (.iconst 1) 1 62 := ⟨by decide +kernel, rfl⟩
theorem d_X8_keepNow_62 : zDc M_X8_keepNow 62 (.iadd) 1 63 := ⟨by decide +kernel, rfl⟩
theorem d_X8_keepNow_63 : zDc M_X8_keepNow 63 (.putfield 311) 3 66 := ⟨by decide +kernel, rfl⟩
theorem d_X8_keepNow_66 : zDc M_X8_keepNow 66 (.return_) 1 67 := ⟨by decide +kernel, rfl⟩
def f_X8_keepNow (a0 : Nat) (h0 : zHp) : Option (Unit × zHp) :=
  zob (zgI h0 a0 8 48) (fun v1 =>
  zbd (α := Unit) (
  if v1 = 20 then
  zbd (
  zlp (σ := Int32) (β := Int32) zLF (fun s2 h3 =>
  if 20 ≤ s2 then
  some ((.inr s2), h3)
  else
  zbd (zcv 8 a0 h3 (f_X8_copies a0 ((3 + s2) - 1) (3 + s2) h3)) (fun v7 h6 =>
  some ((.inl (s2 + 1)), h6))) 1 h0) (fun e4 h5 =>
  zob (zgI h5 a0 8 48) (fun v8 =>
  zob (zpV h5 a0 8 48 (.int (v8 - 1))) (fun h9 =>
  some ((), h9))))
  else
  some ((), h0)) (fun e10 h11 =>
  zob (zgI h11 a0 8 48) (fun v12 =>
  zbd (zcv 8 a0 h11 (f_X8_copies a0 (3 + v12) 0 h11)) (fun v14 h13 =>
  zob (zgI h13 a0 8 48) (fun v15 =>
  zob (zpV h13 a0 8 48 (.int (v15 + 1))) (fun h16 =>
  some ((), h16)))))))
set_option maxRecDepth 100000 in
set_option maxHeartbeats 4000000 in
theorem t_X8_keepNow (a0 : Nat) (h0 : zHp) : ∀ (r : Unit) (h' : zHp), f_X8_keepNow a0 h0 = some (r, h') → zCt yX8_keepNow (.code yX8_keepNow cX8_keepNow 2 none) 2 85 0 0 [.ref a0] h0 (none) h' := by
  refine zct_of M_X8_keepNow yX8_keepNow (by decide) rfl rfl [.ref a0] h0 (Nat.le_of_ble_eq_true rfl) (fun _ => none) (fun X => ?_)
  show zG X M_X8_keepNow (0, 0) 0 [(0, .ref a0)] [] h0 (f_X8_keepNow a0 h0) (fun (_ : Unit) h' => zKe X (none) h')
  unfold f_X8_keepNow
  refine zg_aload_n 0 rfl d_X8_keepNow_0 ?_
  refine zg_getI d_X8_keepNow_1 zc_8 (by decide) fl_X8_311 (fun v1 => ?_)
  refine zg_bipush 20 rfl d_X8_keepNow_4 ?_
  refine zg_bd (E := 45) (el := (fun (e10 : Unit) => [(0, .ref a0)])) (es := (fun (e10 : Unit) => [])) ?_ (fun e10 h11 => ?_)
  · refine zg_icmp_ne d_X8_keepNow_6 ?_ ?_
    · refine zg_iconst 1 rfl d_X8_keepNow_9 ?_
      refine zg_istore_n [(1, .int 1), (0, .ref a0)] d_X8_keepNow_10 rfl (by decide) rfl ?_
      refine zg_bd (E := 35) (el := (fun (e4 : Int32) => [(0, .ref a0), (1, .int e4)])) (es := fun _ => []) (zg_sub [1, 0] rfl (zg_lp (el := (fun (s2 : Int32) => [(0, .ref a0), (1, .int s2)])) (fun s2 h3 => ?_) 1 h0)) (fun e4 h5 => ?_)
      · refine zg_iload_n 1 rfl d_X8_keepNow_11 ?_
        refine zg_bipush 20 rfl d_X8_keepNow_12 ?_
        refine zg_icmp_ge d_X8_keepNow_14 ?_ ?_
        · exact zg_finK (E := 0) [0, 1] rfl rfl (fun q => q)
        · refine zg_aload_n 0 rfl d_X8_keepNow_17 ?_
          refine zg_iconst 3 rfl d_X8_keepNow_18 ?_
          refine zg_iload_n 1 rfl d_X8_keepNow_19 ?_
          refine zg_iadd d_X8_keepNow_20 ?_
          refine zg_iconst 1 rfl d_X8_keepNow_21 ?_
          refine zg_isub d_X8_keepNow_22 ?_
          refine zg_iconst 3 rfl d_X8_keepNow_23 ?_
          refine zg_iload_n 1 rfl d_X8_keepNow_24 ?_
          refine zg_iadd d_X8_keepNow_25 ?_
          refine zg_cVv (b := a0) (As := [.int ((3 + s2) - 1), .int (3 + s2)]) (rest := []) (0, 0) d_X8_keepNow_26 zc_8 rfl cw_X8_416 wi_X8_copies ws_X8_copies rfl rfl (Nat.le_of_ble_eq_true rfl) (by decide) (by decide) ⟨by decide, by decide⟩ rfl (t_X8_copies a0 ((3 + s2) - 1) (3 + s2) h3) (fun v7 h6 => ?_)
          refine zg_iinc 1 (s2 + 1) [(1, .int (s2 + 1)), (0, .ref a0)] d_X8_keepNow_29 rfl rfl (by decide) rfl ?_
          refine zg_goto d_X8_keepNow_32 ?_
          exact zg_finK (E := 0) [1, 0] rfl rfl (fun q => q)
      · refine zg_aload_n 0 rfl d_X8_keepNow_35 ?_
        refine zg_dup rfl d_X8_keepNow_36 ?_
        refine zg_getI d_X8_keepNow_37 zc_8 (by decide) fl_X8_311 (fun v8 => ?_)
        refine zg_iconst 1 rfl d_X8_keepNow_40 ?_
        refine zg_isub d_X8_keepNow_41 ?_
        refine zg_putV d_X8_keepNow_42 zc_8 (by decide) fl_X8_311 rfl rfl rfl (fun h9 => ?_)
        exact zg_finK (E := 0) [0] rfl rfl (fun q => q)
    · exact zg_finK (E := 0) [0] rfl rfl (fun q => q)
  · refine zg_aload_n 0 rfl d_X8_keepNow_45 ?_
    refine zg_iconst 3 rfl d_X8_keepNow_46 ?_
    refine zg_aload_n 0 rfl d_X8_keepNow_47 ?_
    refine zg_getI d_X8_keepNow_48 zc_8 (by decide) fl_X8_311 (fun v12 => ?_)
    refine zg_iadd d_X8_keepNow_51 ?_
    refine zg_iconst 0 rfl d_X8_keepNow_52 ?_
    refine zg_cVv (b := a0) (As := [.int (3 + v12), .int 0]) (rest := []) (0, 0) d_X8_keepNow_53 zc_8 rfl cw_X8_416 wi_X8_copies ws_X8_copies rfl rfl (Nat.le_of_ble_eq_true rfl) (by decide) (by decide) ⟨by decide, by decide⟩ rfl (t_X8_copies a0 (3 + v12) 0 h11) (fun v14 h13 => ?_)
    refine zg_aload_n 0 rfl d_X8_keepNow_56 ?_
    refine zg_dup rfl d_X8_keepNow_57 ?_
    refine zg_getI d_X8_keepNow_58 zc_8 (by decide) fl_X8_311 (fun v15 => ?_)
    refine zg_iconst 1 rfl d_X8_keepNow_61 ?_
    refine zg_iadd d_X8_keepNow_62 ?_
    refine zg_putV d_X8_keepNow_63 zc_8 (by decide) fl_X8_311 rfl rfl rfl (fun h16 => ?_)
    exact zg_vretK d_X8_keepNow_66 rfl ⟨Nat.le_of_ble_eq_true rfl, Nat.le_of_ble_eq_true rfl⟩ (fun q => q)

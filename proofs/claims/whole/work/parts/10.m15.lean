theorem fl_X8_123 : Cond.fieldLink RX8 123 (TX8 59).1 (TX8 59).2.1 (TX8 59).2.2.1 ∈ zT := zw_of _ 1418 (by decide +kernel) (by decide +kernel)
theorem fl_X8_126 : Cond.fieldLink RX8 126 (TX8 60).1 (TX8 60).2.1 (TX8 60).2.2.1 ∈ zT := zw_of _ 1419 (by decide +kernel) (by decide +kernel)
theorem ml_X8_441 : Cond.methodLink RX8 441 yX8_ownSeen ∈ zT := zw_of _ 1817 (by decide +kernel) (by decide +kernel)
theorem cd_X8_ownSeen : Cond.code yX8_ownSeen cX8_ownSeen 4 (some .int) ∈ zT := zw_of _ 1820 (by decide +kernel) (by decide +kernel)
theorem cw_X8_441 : zCw RX8 441 yX8_ownSeen cX8_ownSeen 4 (some .int) 2 := ⟨ml_X8_441, ni_X8, cd_X8_ownSeen, by decide, by decide, by decide +kernel⟩
theorem wi_X8_ownSeen : Cond.instanceMethod yX8_ownSeen ∈ zT := zw_of _ 1819 (by decide +kernel) (by decide +kernel)
theorem ws_X8_ownSeen : Cond.selects RX8 yX8_ownSeen yX8_ownSeen ∈ zT := zw_of _ 93 (by decide +kernel) (by decide +kernel)
theorem ml_X8_400 : Cond.methodLink RX8 400 yX8_drifts ∈ zT := zw_of _ 1833 (by decide +kernel) (by decide +kernel)
theorem cd_X8_drifts : Cond.code yX8_drifts cX8_drifts 7 none ∈ zT := zw_of _ 1836 (by decide +kernel) (by decide +kernel)
theorem cw_X8_400 : zCw RX8 400 yX8_drifts cX8_drifts 7 none 3 := ⟨ml_X8_400, ni_X8, cd_X8_drifts, by decide, by decide, by decide +kernel⟩
theorem wi_X8_drifts : Cond.instanceMethod yX8_drifts ∈ zT := zw_of _ 1835 (by decide +kernel) (by decide +kernel)
theorem ws_X8_drifts : Cond.selects RX8 yX8_drifts yX8_drifts ∈ zT := zw_of _ 97 (by decide +kernel) (by decide +kernel)
theorem fl_X8_19 : Cond.fieldLink RX8 19 (TX8 5).1 (TX8 5).2.1 (TX8 5).2.2.1 ∈ zT := zw_of _ 1364 (by decide +kernel) (by decide +kernel)
theorem ml_X8_217 : Cond.methodLink RX8 217 yX8_found ∈ zT := zw_of _ 1645 (by decide +kernel) (by decide +kernel)
theorem cd_X8_found : Cond.code yX8_found cX8_found 5 (some .int) ∈ zT := zw_of _ 1647 (by decide +kernel) (by decide +kernel)
theorem cw_X8_217 : zCw RX8 217 yX8_found cX8_found 5 (some .int) 4 := ⟨ml_X8_217, ni_X8, cd_X8_found, by decide, by decide, by decide +kernel⟩
theorem wt_X8_found : Cond.static yX8_found ∈ zT := zw_of _ 1646 (by decide +kernel) (by decide +kernel)
theorem fl_X8_28 : Cond.fieldLink RX8 28 (TX8 8).1 (TX8 8).2.1 (TX8 8).2.2.1 ∈ zT := zw_of _ 1367 (by decide +kernel) (by decide +kernel)
theorem fl_X8_40 : Cond.fieldLink RX8 40 (TX8 12).1 (TX8 12).2.1 (TX8 12).2.2.1 ∈ zT := zw_of _ 1371 (by decide +kernel) (by decide +kernel)
theorem ml_X8_447 : Cond.methodLink RX8 447 yX8_pushes ∈ zT := zw_of _ 1829 (by decide +kernel) (by decide +kernel)
theorem cd_X8_pushes : Cond.code yX8_pushes cX8_pushes 5 none ∈ zT := zw_of _ 1832 (by decide +kernel) (by decide +kernel)
theorem cw_X8_447 : zCw RX8 447 yX8_pushes cX8_pushes 5 none 3 := ⟨ml_X8_447, ni_X8, cd_X8_pushes, by decide, by decide, by decide +kernel⟩
theorem wi_X8_pushes : Cond.instanceMethod yX8_pushes ∈ zT := zw_of _ 1831 (by decide +kernel) (by decide +kernel)
theorem ws_X8_pushes : Cond.selects RX8 yX8_pushes yX8_pushes ∈ zT := zw_of _ 96 (by decide +kernel) (by decide +kernel)
theorem ml_X8_495 : Cond.methodLink RX8 495 yX8_isRest ∈ zT := zw_of _ 1990 (by decide +kernel) (by decide +kernel)
theorem cd_X8_isRest : Cond.code yX8_isRest cX8_isRest 3 (some .boolean) ∈ zT := zw_of _ 1993 (by decide +kernel) (by decide +kernel)
theorem cw_X8_495 : zCw RX8 495 yX8_isRest cX8_isRest 3 (some .boolean) 1 := ⟨ml_X8_495, ni_X8, cd_X8_isRest, by decide, by decide, by decide +kernel⟩
theorem wi_X8_isRest : Cond.instanceMethod yX8_isRest ∈ zT := zw_of _ 1992 (by decide +kernel) (by decide +kernel)
theorem ws_X8_isRest : Cond.selects RX8 yX8_isRest yX8_isRest ∈ zT := zw_of _ 118 (by decide +kernel) (by decide +kernel)
abbrev M_X8_isPlan : zMt := (RX8, cX8_isPlan, 4, 2, 81, (some .boolean), "isPlan", 0, 0)
theorem d_X8_isPlan_0 : zDc M_X8_isPlan 0 (.aload_n 0) 1 1 := ⟨by decide +kernel, rfl⟩
theorem d_X8_isPlan_1 : zDc M_X8_isPlan 1 (.iload_n 1) 1 2 := ⟨by decide +kernel, rfl⟩
theorem d_X8_isPlan_2 : zDc M_X8_isPlan 2 (.invokevirtual 425) 3 5 := ⟨by decide +kernel, rfl⟩
theorem d_X8_isPlan_5 : zDj M_X8_isPlan 5 (.ifCond .eq 25) 25 8 30 := ⟨by decide +kernel, rfl, by decide⟩
theorem d_X8_isPlan_8 : zDc M_X8_isPlan 8 (.aload_n 0) 1 9 := ⟨by decide +kernel, rfl⟩
theorem d_X8_isPlan_9 : zDc M_X8_isPlan 9 (.iload_n 2) 1 10 := ⟨by decide +kernel, rfl⟩
theorem d_X8_isPlan_10 : zDc M_X8_isPlan 10 (.invokevirtual 431) 3 13 := ⟨by decide +kernel, rfl⟩
theorem d_X8_isPlan_13 : zDj M_X8_isPlan 13 (.ifCond .eq 17) 17 16 30 := ⟨by decide +kernel, rfl, by decide⟩
theorem d_X8_isPlan_16 : zDc M_X8_isPlan 16 (.iload_n 3) 1 17 := ⟨by decide +kernel, rfl⟩
theorem d_X8_isPlan_17 : zDc M_X8_isPlan 17 (.iconst 1) 1 18 := ⟨by decide +kernel, rfl⟩
theorem d_X8_isPlan_18 : zDj M_X8_isPlan 18 (.if_icmp .lt 12) 12 21 30 := ⟨by decide +kernel, rfl, by decide⟩
theorem d_X8_isPlan_21 : zDc M_X8_isPlan 21 (.iload_n 3) 1 22 := ⟨by decide +kernel, rfl⟩
theorem d_X8_isPlan_22 : zDc M_X8_isPlan 22 (.iconst 4) 1 23 := ⟨by decide +kernel, rfl⟩
theorem d_X8_isPlan_23 : zDj M_X8_isPlan 23 (.if_icmp .gt 7) 7 26 30 := ⟨by decide +kernel, rfl, by decide⟩
theorem d_X8_isPlan_26 : zDc M_X8_isPlan 26 (.iconst 1) 1 27 := ⟨by decide +kernel, rfl⟩
theorem d_X8_isPlan_27 : zDj M_X8_isPlan 27 (.goto 4) 4 30 31 := ⟨by decide +kernel, rfl, by decide⟩
theorem d_X8_isPlan_30 : zDc M_X8_isPlan 30 (.iconst 0) 1 31 := ⟨by decide +kernel, rfl⟩
theorem d_X8_isPlan_31 : zDc M_X8_isPlan 31 (.ireturn) 1 32 := ⟨by decide +kernel, rfl⟩
def f_X8_isPlan (a0 : Nat) (a1 : Int32) (a2 : Int32) (a3 : Int32) (h0 : zHp) : Option (Int32 × zHp) :=
  zbd (zcv 8 a0 h0 (f_X8_isChild a0 a1 h0)) (fun v2 h1 =>
  if v2 = 0 then
  some (0, h1)
  else
  zbd (zcv 8 a0 h1 (f_X8_isField a0 a2 h1)) (fun v4 h3 =>
  if v4 = 0 then
  some (0, h3)
  else
  if a3 < 1 then
  some (0, h3)
  else
  if 4 < a3 then
  some (0, h3)
  else
  some (1, h3)))
set_option maxRecDepth 100000 in
set_option maxHeartbeats 4000000 in
theorem t_X8_isPlan (a0 : Nat) (a1 : Int32) (a2 : Int32) (a3 : Int32) (h0 : zHp) : ∀ (r : Int32) (h' : zHp), f_X8_isPlan a0 a1 a2 a3 h0 = some (r, h') → zCt yX8_isPlan (.code yX8_isPlan cX8_isPlan 4 (some .boolean)) 2 81 0 0 [.ref a0, .int a1, .int a2, .int a3] h0 (some (.int r)) h' := by
  refine zct_of M_X8_isPlan yX8_isPlan (by decide) rfl rfl [.ref a0, .int a1, .int a2, .int a3] h0 (Nat.le_of_ble_eq_true rfl) (fun r => some (.int r)) (fun X => ?_)
  show zG X M_X8_isPlan (0, 0) 0 [(0, .ref a0), (1, .int a1), (2, .int a2), (3, .int a3)] [] h0 (f_X8_isPlan a0 a1 a2 a3 h0) (fun (r : Int32) h' => zKe X (some (.int r)) h')
  unfold f_X8_isPlan
  refine zg_aload_n 0 rfl d_X8_isPlan_0 ?_
  refine zg_iload_n 1 rfl d_X8_isPlan_1 ?_
  refine zg_cVi (b := a0) (As := [.int a1]) (rest := []) (0, 0) d_X8_isPlan_2 zc_8 rfl cw_X8_425 wi_X8_isChild ws_X8_isChild rfl rfl (Nat.le_of_ble_eq_true rfl) (by decide) (by decide) ⟨by decide, by decide⟩ rfl (t_X8_isChild a0 a1 h0) (fun v2 h1 => ?_)
  refine zg_if_eq d_X8_isPlan_5 ?_ ?_
  · refine zg_iconst 0 rfl d_X8_isPlan_30 ?_
    exact zg_zretK d_X8_isPlan_31 rfl ⟨Nat.le_of_ble_eq_true rfl, Nat.le_of_ble_eq_true rfl⟩ (Or.inl rfl) (fun q => q)
  · refine zg_aload_n 0 rfl d_X8_isPlan_8 ?_
    refine zg_iload_n 2 rfl d_X8_isPlan_9 ?_
    refine zg_cVi (b := a0) (As := [.int a2]) (rest := []) (0, 0) d_X8_isPlan_10 zc_8 rfl cw_X8_431 wi_X8_isField ws_X8_isField rfl rfl (Nat.le_of_ble_eq_true rfl) (by decide) (by decide) ⟨by decide, by decide⟩ rfl (t_X8_isField a0 a2 h1) (fun v4 h3 => ?_)
    refine zg_if_eq d_X8_isPlan_13 ?_ ?_
    · refine zg_iconst 0 rfl d_X8_isPlan_30 ?_
      exact zg_zretK d_X8_isPlan_31 rfl ⟨Nat.le_of_ble_eq_true rfl, Nat.le_of_ble_eq_true rfl⟩ (Or.inl rfl) (fun q => q)
    · refine zg_iload_n 3 rfl d_X8_isPlan_16 ?_
      refine zg_iconst 1 rfl d_X8_isPlan_17 ?_
      refine zg_icmp_lt d_X8_isPlan_18 ?_ ?_
      · refine zg_iconst 0 rfl d_X8_isPlan_30 ?_
        exact zg_zretK d_X8_isPlan_31 rfl ⟨Nat.le_of_ble_eq_true rfl, Nat.le_of_ble_eq_true rfl⟩ (Or.inl rfl) (fun q => q)
      · refine zg_iload_n 3 rfl d_X8_isPlan_21 ?_
        refine zg_iconst 4 rfl d_X8_isPlan_22 ?_
        refine zg_icmp_gt d_X8_isPlan_23 ?_ ?_
        · refine zg_iconst 0 rfl d_X8_isPlan_30 ?_
          exact zg_zretK d_X8_isPlan_31 rfl ⟨Nat.le_of_ble_eq_true rfl, Nat.le_of_ble_eq_true rfl⟩ (Or.inl rfl) (fun q => q)
        · refine zg_iconst 1 rfl d_X8_isPlan_26 ?_
          refine zg_goto d_X8_isPlan_27 ?_
          exact zg_zretK d_X8_isPlan_31 rfl ⟨Nat.le_of_ble_eq_true rfl, Nat.le_of_ble_eq_true rfl⟩ (Or.inr rfl) (fun q => q)
abbrev M_X8_isRest : zMt := (RX8, cX8_isRest, 3, 1, 60, (some .boolean), "isRest", 0, 0)
theorem d_X8_isRest_0 : zDc M_X8_isRest 0 (.iconst 0) 1 1 := ⟨by decide +kernel, rfl⟩
theorem d_X8_isRest_1 : zDc M_X8_isRest 1 (.istore_n 2) 1 2 := ⟨by decide +kernel, rfl⟩
theorem d_X8_isRest_2 : zDc M_X8_isRest 2 (.iload_n 2) 1 3 := ⟨by decide +kernel, rfl⟩
theorem d_X8_isRest_3 : zDc M_X8_isRest 3 (.iconst 5) 1 4 := ⟨by decide +kernel, rfl⟩
theorem d_X8_isRest_4 : zDj M_X8_isRest 4 (.if_icmp .ge 53) 53 7 57 := ⟨by decide +kernel, rfl, by decide⟩
theorem d_X8_isRest_7 : zDc M_X8_isRest 7 (.aload_n 0) 1 8 := ⟨by decide +kernel, rfl⟩
theorem d_X8_isRest_8 : zDc M_X8_isRest 8 (.getfield 123) 3 11 := ⟨by decide +kernel, rfl⟩
theorem d_X8_isRest_11 : zDc M_X8_isRest 11 (.iconst 5) 1 12 := ⟨by decide +kernel, rfl⟩
theorem d_X8_isRest_12 : zDc M_X8_isRest 12 (.iload_n 2) 1 13 := ⟨by decide +kernel, rfl⟩
theorem d_X8_isRest_13 : zDc M_X8_isRest 13 (.imul) 1 14 := ⟨by decide +kernel, rfl⟩
theorem d_X8_isRest_14 : zDc M_X8_isRest 14 (.iload_n 1) 1 15 := ⟨by decide +kernel, rfl⟩
theorem d_X8_isRest_15 : zDc M_X8_isRest 15 (.iconst 5) 1 16 := ⟨by decide +kernel, rfl⟩
theorem d_X8_isRest_16 : zDc M_X8_isRest 16 (.irem) 1 17 := ⟨by decide +kernel, rfl⟩
theorem d_X8_isRest_17 : zDc M_X8_isRest 17 (.iadd) 1 18 := ⟨by decide +kernel, rfl⟩
theorem d_X8_isRest_18 : zDc M_X8_isRest 18 (.iaload) 1 19 := ⟨by decide +kernel, rfl⟩
theorem d_X8_isRest_19 : zDc M_X8_isRest 19 (.aload_n 0) 1 20 := ⟨by decide +kernel, rfl⟩
theorem d_X8_isRest_20 : zDc M_X8_isRest 20 (.getfield 123) 3 23 := ⟨by decide +kernel, rfl⟩
theorem d_X8_isRest_23 : zDc M_X8_isRest 23 (.iload_n 1) 1 24 := ⟨by decide +kernel, rfl⟩
theorem d_X8_isRest_24 : zDc M_X8_isRest 24 (.iaload) 1 25 := ⟨by decide +kernel, rfl⟩
theorem d_X8_isRest_25 : zDj M_X8_isRest 25 (.if_icmp .gt 24) 24 28 49 := ⟨by decide +kernel, rfl, by decide⟩
theorem d_X8_isRest_28 : zDc M_X8_isRest 28 (.aload_n 0) 1 29 := ⟨by decide +kernel, rfl⟩
theorem d_X8_isRest_29 : zDc M_X8_isRest 29 (.getfield 126) 3 32 := ⟨by decide +kernel, rfl⟩
theorem d_X8_isRest_32 : zDc M_X8_isRest 32 (.iload_n 1) 1 33 := ⟨by decide +kernel, rfl⟩
theorem d_X8_isRest_33 : zDc M_X8_isRest 33 (.iconst 5) 1 34 := ⟨by decide +kernel, rfl⟩
theorem d_X8_isRest_34 : zDc M_X8_isRest 34 (.idiv) 1 35 := ⟨by decide +kernel, rfl⟩
theorem d_X8_isRest_35 : zDc M_X8_isRest 35 (.iconst 5) 1 36 := ⟨by decide +kernel, rfl⟩
theorem d_X8_isRest_36 : zDc M_X8_isRest 36 (.imul) 1 37 := ⟨by decide +kernel, rfl⟩
theorem d_X8_isRest_37 : zDc M_X8_isRest 37 (.iload_n 2) 1 38 := ⟨by decide +kernel, rfl⟩
theorem d_X8_isRest_38 : zDc M_X8_isRest 38 (.iadd) 1 39 := ⟨by decide +kernel, rfl⟩
theorem d_X8_isRest_39 : zDc M_X8_isRest 39 (.iaload) 1 40 := ⟨by decide +kernel, rfl⟩
theorem d_X8_isRest_40 : zDc M_X8_isRest 40 (.aload_n 0) 1 41 := ⟨by decide +kernel, rfl⟩
theorem d_X8_isRest_41 : zDc M_X8_isRest 41 (.getfield 126) 3 44 := ⟨by decide +kernel, rfl⟩
theorem d_X8_isRest_44 : zDc M_X8_isRest 44 (.iload_n 1) 1 45 := ⟨by decide +kernel, rfl⟩
theorem d_X8_isRest_45 : zDc M_X8_isRest 45 (.iaload) 1 46 := ⟨by decide +kernel, rfl⟩
theorem d_X8_isRest_46 : zDj M_X8_isRest 46 (.if_icmp .le 5) 5 49 51 := ⟨by decide +kernel, rfl, by decide⟩
theorem d_X8_isRest_49 : zDc M_X8_isRest 49 (.iconst 0) 1 50 := ⟨by decide +kernel, rfl⟩
theorem d_X8_isRest_50 : zDc M_X8_isRest 50 (.ireturn) 1 51 := ⟨by decide +kernel, rfl⟩
theorem d_X8_isRest_51 : zDc M_X8_isRest 51 (.iinc 2 1) 3 54 := ⟨by decide +kernel, rfl⟩
theorem d_X8_isRest_54 : zDj M_X8_isRest 54 (.goto (-52)) (-52) 57 2 := ⟨by decide +kernel, rfl, by decide⟩
theorem d_X8_isRest_57 : zDc M_X8_isRest 57 (.iconst 1) 1 58 := ⟨by decide +kernel, rfl⟩
theorem d_X8_isRest_58 : zDc M_X8_isRest 58 (.ireturn) 1 59 := ⟨by decide +kernel, rfl⟩
def f_X8_isRest (a0 : Nat) (a1 : Int32) (h0 : zHp) : Option (Int32 × zHp) :=
  zbd (
  zlp (σ := Int32) (β := (Int32 ⊕ Int32)) zLF (fun s1 h2 =>
  if 5 ≤ s1 then
  some ((.inr (.inl s1)), h2)
  else
  zob (zgR h2 a0 8 59) (fun v5 =>
  zob (zaI 0 h2 v5 ((5 * s1) + (zrm a1 5))) (fun v6 =>
  zob (zgR h2 a0 8 59) (fun v7 =>
  zob (zaI 0 h2 v7 a1) (fun v8 =>
  if v8 < v6 then
  some ((.inr (.inr 0)), h2)
  else
  zob (zgR h2 a0 8 60) (fun v9 =>
  zob (zaI 0 h2 v9 (((a1 / 5) * 5) + s1)) (fun v10 =>
  zob (zgR h2 a0 8 60) (fun v11 =>
  zob (zaI 0 h2 v11 a1) (fun v12 =>
  if v10 ≤ v12 then
  some ((.inl (s1 + 1)), h2)
  else
  some ((.inr (.inr 0)), h2)))))))))) 0 h0) (fun b13 h4 => zsl b13 (fun e3 =>
  some (1, h4)) (fun r => some (r, h4)))
set_option maxRecDepth 100000 in
set_option maxHeartbeats 4000000 in
theorem t_X8_isRest (a0 : Nat) (a1 : Int32) (h0 : zHp) : ∀ (r : Int32) (h' : zHp), f_X8_isRest a0 a1 h0 = some (r, h') → zCt yX8_isRest (.code yX8_isRest cX8_isRest 3 (some .boolean)) 1 60 0 0 [.ref a0, .int a1] h0 (some (.int r)) h' := by
  refine zct_of M_X8_isRest yX8_isRest (by decide) rfl rfl [.ref a0, .int a1] h0 (Nat.le_of_ble_eq_true rfl) (fun r => some (.int r)) (fun X => ?_)
  show zG X M_X8_isRest (0, 0) 0 [(0, .ref a0), (1, .int a1)] [] h0 (f_X8_isRest a0 a1 h0) (fun (r : Int32) h' => zKe X (some (.int r)) h')
  unfold f_X8_isRest
  refine zg_iconst 0 rfl d_X8_isRest_0 ?_
  refine zg_istore_n [(2, .int 0), (0, .ref a0), (1, .int a1)] d_X8_isRest_1 rfl (by decide) rfl ?_
  refine zg_bdr (E := 57) (el := (fun (e3 : Int32) => [(0, .ref a0), (1, .int a1), (2, .int e3)])) (es := fun _ => []) (zg_sub [1, 2, 0] rfl (zg_lp (el := (fun (s1 : Int32) => [(0, .ref a0), (1, .int a1), (2, .int s1)])) (fun s1 h2 => ?_) 0 h0)) (fun e3 h4 => ?_)
  · refine zg_iload_n 2 rfl d_X8_isRest_2 ?_
    refine zg_iconst 5 rfl d_X8_isRest_3 ?_
    refine zg_icmp_ge d_X8_isRest_4 ?_ ?_
    · exact zg_finK (E := 0) [0, 1, 2] rfl rfl (fun q => q)
    · refine zg_aload_n 0 rfl d_X8_isRest_7 ?_
      refine zg_getR d_X8_isRest_8 zc_8 (by decide) fl_X8_123 (fun v5 => ?_)
      refine zg_iconst 5 rfl d_X8_isRest_11 ?_
      refine zg_iload_n 2 rfl d_X8_isRest_12 ?_
      refine zg_imul d_X8_isRest_13 ?_
      refine zg_iload_n 1 rfl d_X8_isRest_14 ?_
      refine zg_iconst 5 rfl d_X8_isRest_15 ?_
      refine zg_irem (by decide) d_X8_isRest_16 ?_
      refine zg_iadd d_X8_isRest_17 ?_
      refine zg_ald0 d_X8_isRest_18 (fun v6 => ?_)
      refine zg_aload_n 0 rfl d_X8_isRest_19 ?_
      refine zg_getR d_X8_isRest_20 zc_8 (by decide) fl_X8_123 (fun v7 => ?_)
      refine zg_iload_n 1 rfl d_X8_isRest_23 ?_
      refine zg_ald0 d_X8_isRest_24 (fun v8 => ?_)
      refine zg_icmp_gt d_X8_isRest_25 ?_ ?_
      · refine zg_iconst 0 rfl d_X8_isRest_49 ?_
        exact zg_zretK d_X8_isRest_50 rfl ⟨Nat.le_of_ble_eq_true rfl, Nat.le_of_ble_eq_true rfl⟩ (Or.inl rfl) (fun q => q)
      · refine zg_aload_n 0 rfl d_X8_isRest_28 ?_
        refine zg_getR d_X8_isRest_29 zc_8 (by decide) fl_X8_126 (fun v9 => ?_)
        refine zg_iload_n 1 rfl d_X8_isRest_32 ?_
        refine zg_iconst 5 rfl d_X8_isRest_33 ?_
        refine zg_idiv (by decide) d_X8_isRest_34 ?_
        refine zg_iconst 5 rfl d_X8_isRest_35 ?_
        refine zg_imul d_X8_isRest_36 ?_
        refine zg_iload_n 2 rfl d_X8_isRest_37 ?_
        refine zg_iadd d_X8_isRest_38 ?_
        refine zg_ald0 d_X8_isRest_39 (fun v10 => ?_)
        refine zg_aload_n 0 rfl d_X8_isRest_40 ?_
        refine zg_getR d_X8_isRest_41 zc_8 (by decide) fl_X8_126 (fun v11 => ?_)
        refine zg_iload_n 1 rfl d_X8_isRest_44 ?_
        refine zg_ald0 d_X8_isRest_45 (fun v12 => ?_)
        refine zg_icmp_le d_X8_isRest_46 ?_ ?_
        · refine zg_iinc 2 (s1 + 1) [(2, .int (s1 + 1)), (0, .ref a0), (1, .int a1)] d_X8_isRest_51 rfl rfl (by decide) rfl ?_
          refine zg_goto d_X8_isRest_54 ?_
          exact zg_finK (E := 0) [1, 2, 0] rfl rfl (fun q => q)
        · refine zg_iconst 0 rfl d_X8_isRest_49 ?_
          exact zg_zretK d_X8_isRest_50 rfl ⟨Nat.le_of_ble_eq_true rfl, Nat.le_of_ble_eq_true rfl⟩ (Or.inl rfl) (fun q => q)
  · refine zg_iconst 1 rfl d_X8_isRest_57 ?_
    exact zg_zretK d_X8_isRest_58 rfl ⟨Nat.le_of_ble_eq_true rfl, Nat.le_of_ble_eq_true rfl⟩ (Or.inr rfl) (fun q => q)
abbrev M_X8_keep : zMt := (RX8, cX8_keep, 1, 2, 85, (some .int), "keep", 0, 0)
theorem d_X8_keep_0 : zDc M_X8_keep 0 (.aload_n 0) 1 1 := ⟨by decide +kernel, rfl⟩
theorem d_X8_keep_1 : zDc M_X8_keep 1 (.iconst 0) 1 2 := ⟨by decide +kernel, rfl⟩
theorem d_X8_keep_2 : zDc M_X8_keep 2 (.putfield 151) 3 5 := ⟨by decide +kernel, rfl⟩
theorem d_X8_keep_5 : zDc M_X8_keep 5 (.aload_n 0) 1 6 := ⟨by decide +kernel, rfl⟩
theorem d_X8_keep_6 : zDc M_X8_keep 6 (.iconst 2) 1 7 := ⟨by decide +kernel, rfl⟩
theorem d_X8_keep_7 : zDc M_X8_keep 7 (.iconst 0) 1 8 := ⟨by decide +kernel, rfl⟩
theorem d_X8_keep_8 : zDc M_X8_keep 8 (.invokevirtual 416) 3 11 := ⟨by decide +kernel, rfl⟩
theorem d_X8_keep_11 : zDc M_X8_keep 11 (.aload_n 0) 1 12 := ⟨by decide +kernel, rfl⟩
theorem d_X8_keep_12 : zDc M_X8_keep 12 (.iconst 1) 1 13 := ⟨by decide +kernel, rfl⟩
theorem d_X8_keep_13 : zDc M_X8_keep 13 (.putfield 307) 3 16 := ⟨by decide +kernel, rfl⟩
theorem d_X8_keep_16 : zDc M_X8_keep 16 (.aload_n 0) 1 17 := ⟨by decide +kernel, rfl⟩
theorem d_X8_keep_17 : zDc M_X8_keep 17 (.getfield 75) 3 20 := ⟨by decide +kernel, rfl⟩
theorem d_X8_keep_20 : zDc M_X8_keep 20 (.iconst 0) 1 21 := ⟨by decide +kernel, rfl⟩
theorem d_X8_keep_21 : zDc M_X8_keep 21 (.iaload) 1 22 := ⟨by decide +kernel, rfl⟩
theorem d_X8_keep_22 : zDc M_X8_keep 22 (.ireturn) 1 23 := ⟨by decide +kernel, rfl⟩
def f_X8_keep (a0 : Nat) (h0 : zHp) : Option (Int32 × zHp) :=
  zob (zpV h0 a0 8 0 (.int 0)) (fun h1 =>
  zbd (zcv 8 a0 h1 (f_X8_copies a0 2 0 h1)) (fun v3 h2 =>
  zob (zpV h2 a0 8 47 (.int 1)) (fun h4 =>
  zob (zgR h4 a0 8 36) (fun v5 =>
  zob (zaI 0 h4 v5 0) (fun v6 =>
  some (v6, h4))))))
set_option maxRecDepth 100000 in
set_option maxHeartbeats 4000000 in
theorem t_X8_keep (a0 : Nat) (h0 : zHp) : ∀ (r : Int32) (h' : zHp), f_X8_keep a0 h0 = some (r, h') → zCt yX8_keep (.code yX8_keep cX8_keep 1 (some .int)) 2 85 0 0 [.ref a0] h0 (some (.int r)) h' := by
  refine zct_of M_X8_keep yX8_keep (by decide) rfl rfl [.ref a0] h0 (Nat.le_of_ble_eq_true rfl) (fun r => some (.int r)) (fun X => ?_)
  show zG X M_X8_keep (0, 0) 0 [(0, .ref a0)] [] h0 (f_X8_keep a0 h0) (fun (r : Int32) h' => zKe X (some (.int r)) h')
  unfold f_X8_keep
  refine zg_aload_n 0 rfl d_X8_keep_0 ?_
  refine zg_iconst 0 rfl d_X8_keep_1 ?_
  refine zg_putV d_X8_keep_2 zc_8 (by decide) fl_X8_151 rfl rfl rfl (fun h1 => ?_)
  refine zg_aload_n 0 rfl d_X8_keep_5 ?_
  refine zg_iconst 2 rfl d_X8_keep_6 ?_
  refine zg_iconst 0 rfl d_X8_keep_7 ?_
  refine zg_cVv (b := a0) (As := [.int 2, .int 0]) (rest := []) (0, 0) d_X8_keep_8 zc_8 rfl cw_X8_416 wi_X8_copies ws_X8_copies rfl rfl (Nat.le_of_ble_eq_true rfl) (by decide) (by decide) ⟨by decide, by decide⟩ rfl (t_X8_copies a0 2 0 h1) (fun v3 h2 => ?_)
  refine zg_aload_n 0 rfl d_X8_keep_11 ?_
  refine zg_iconst 1 rfl d_X8_keep_12 ?_
  refine zg_putV d_X8_keep_13 zc_8 (by decide) fl_X8_307 rfl rfl rfl (fun h4 => ?_)
  refine zg_aload_n 0 rfl d_X8_keep_16 ?_
  refine zg_getR d_X8_keep_17 zc_8 (by decide) fl_X8_75 (fun v5 => ?_)
  refine zg_iconst 0 rfl d_X8_keep_20 ?_
  refine zg_ald0 d_X8_keep_21 (fun v6 => ?_)
  exact zg_iretK d_X8_keep_22 rfl ⟨Nat.le_of_ble_eq_true rfl, Nat.le_of_ble_eq_true rfl⟩ (fun q => q)
abbrev M_X8_known : zMt := (RX8, cX8_known, 2, 1, 60, (some .boolean), "known", 0, 0)
theorem d_X8_known_0 : zDc M_X8_known 0 (.aload_n 0) 1 1 := ⟨by decide +kernel, rfl⟩
theorem d_X8_known_1 : zDc M_X8_known 1 (.iconst 0) 1 2 := ⟨by decide +kernel, rfl⟩
theorem d_X8_known_2 : zDc M_X8_known 2 (.putfield 151) 3 5 := ⟨by decide +kernel, rfl⟩
theorem d_X8_known_5 : zDc M_X8_known 5 (.iload_n 1) 1 6 := ⟨by decide +kernel, rfl⟩
theorem d_X8_known_6 : zDc M_X8_known 6 (.iconst (-1)) 1 7 := ⟨by decide +kernel, rfl⟩
theorem d_X8_known_7 : zDj M_X8_known 7 (.if_icmp .lt 11) 11 10 18 := ⟨by decide +kernel, rfl, by decide⟩
theorem d_X8_known_10 : zDc M_X8_known 10 (.iload_n 1) 1 11 := ⟨by decide +kernel, rfl⟩
theorem d_X8_known_11 : zDc M_X8_known 11 (.aload_n 0) 1 12 := ⟨by decide +kernel, rfl⟩
theorem d_X8_known_12 : zDc M_X8_known 12 (.getfield 304) 3 15 := ⟨by decide +kernel, rfl⟩
theorem d_X8_known_15 : zDj M_X8_known 15 (.if_icmp .le 5) 5 18 20 := ⟨by decide +kernel, rfl, by decide⟩
theorem d_X8_known_18 : zDc M_X8_known 18 (.iconst 0) 1 19 := ⟨by decide +kernel, rfl⟩
theorem d_X8_known_19 : zDc M_X8_known 19 (.ireturn) 1 20 := ⟨by decide +kernel, rfl⟩
theorem d_X8_known_20 : zDc M_X8_known 20 (.aload_n 0) 1 21 := ⟨by decide +kernel, rfl⟩
theorem d_X8_known_21 : zDc M_X8_known 21 (.iload_n 1) 1 22 := ⟨by decide +kernel, rfl⟩
theorem d_X8_known_22 : zDc M_X8_known 22 (.putfield 129) 3 25 := ⟨by decide +kernel, rfl⟩
theorem d_X8_known_25 : zDc M_X8_known 25 (.iconst 1) 1 26 := ⟨by decide +kernel, rfl⟩
theorem d_X8_known_26 : zDc M_X8_known 26 (.ireturn) 1 27 := ⟨by decide +kernel, rfl⟩
def f_X8_known (a0 : Nat) (a1 : Int32) (h0 : zHp) : Option (Int32 × zHp) :=
  zob (zpV h0 a0 8 0 (.int 0)) (fun h1 =>
  if a1 < (-1) then
  some (0, h1)
  else
  zob (zgI h1 a0 8 61) (fun v2 =>
  if a1 ≤ v2 then
  zob (zpV h1 a0 8 62 (.int a1)) (fun h3 =>
  some (1, h3))
  else
  some (0, h1)))
set_option maxRecDepth 100000 in
set_option maxHeartbeats 4000000 in
theorem t_X8_known (a0 : Nat) (a1 : Int32) (h0 : zHp) : ∀ (r : Int32) (h' : zHp), f_X8_known a0 a1 h0 = some (r, h') → zCt yX8_known (.code yX8_known cX8_known 2 (some .boolean)) 1 60 0 0 [.ref a0, .int a1] h0 (some (.int r)) h' := by
  refine zct_of M_X8_known yX8_known (by decide) rfl rfl [.ref a0, .int a1] h0 (Nat.le_of_ble_eq_true rfl) (fun r => some (.int r)) (fun X => ?_)
  show zG X M_X8_known (0, 0) 0 [(0, .ref a0), (1, .int a1)] [] h0 (f_X8_known a0 a1 h0) (fun (r : Int32) h' => zKe X (some (.int r)) h')
  unfold f_X8_known
  refine zg_aload_n 0 rfl d_X8_known_0 ?_
  refine zg_iconst 0 rfl d_X8_known_1 ?_
  refine zg_putV d_X8_known_2 zc_8 (by decide) fl_X8_151 rfl rfl rfl (fun h1 => ?_)
  refine zg_iload_n 1 rfl d_X8_known_5 ?_
  refine zg_iconst (-1) rfl d_X8_known_6 ?_
  refine zg_icmp_lt d_X8_known_7 ?_ ?_
  · refine zg_iconst 0 rfl d_X8_known_18 ?_
    exact zg_zretK d_X8_known_19 rfl ⟨Nat.le_of_ble_eq_true rfl, Nat.le_of_ble_eq_true rfl⟩ (Or.inl rfl) (fun q => q)
  · refine zg_iload_n 1 rfl d_X8_known_10 ?_
    refine zg_aload_n 0 rfl d_X8_known_11 ?_
    refine zg_getI d_X8_known_12 zc_8 (by decide) fl_X8_304 (fun v2 => ?_)
    refine zg_icmp_le d_X8_known_15 ?_ ?_
    · refine zg_aload_n 0 rfl d_X8_known_20 ?_
      refine zg_iload_n 1 rfl d_X8_known_21 ?_
      refine zg_putV d_X8_known_22 zc_8 (by decide) fl_X8_129 rfl rfl rfl (fun h3 => ?_)
      refine zg_iconst 1 rfl d_X8_known_25 ?_
      exact zg_zretK d_X8_known_26 rfl ⟨Nat.le_of_ble_eq_true rfl, Nat.le_of_ble_eq_true rfl⟩ (Or.inr rfl) (fun q => q)
    · refine zg_iconst 0 rfl d_X8_known_18 ?_
      exact zg_zretK d_X8_known_19 rfl ⟨Nat.le_of_ble_eq_true rfl, Nat.le_of_ble_eq_true rfl⟩ (Or.inl rfl) (fun q => q)
abbrev M_X8_lacks : zMt := (RX8, cX8_lacks, 3, 1, 60, (some .int), "lacks", 0, 0)
theorem d_X8_lacks_0 : zDc M_X8_lacks 0 (.aload_n 0) 1 1 := ⟨by decide +kernel, rfl⟩
theorem d_X8_lacks_1 : zDc M_X8_lacks 1 (.iconst 0) 1 2 := ⟨by decide +kernel, rfl⟩
theorem d_X8_lacks_2 : zDc M_X8_lacks 2 (.putfield 151) 3 5 := ⟨by decide +kernel, rfl⟩
theorem d_X8_lacks_5 : zDc M_X8_lacks 5 (.iconst 0) 1 6 := ⟨by decide +kernel, rfl⟩
theorem d_X8_lacks_6 : zDc M_X8_lacks 6 (.istore_n 1) 1 7 := ⟨by decide +kernel, rfl⟩
theorem d_X8_lacks_7 : zDc M_X8_lacks 7 (.iconst 0) 1 8 := ⟨by decide +kernel, rfl⟩
theorem d_X8_lacks_8 : zDc M_X8_lacks 8 (.istore_n 2) 1 9 := ⟨by decide +kernel, rfl⟩
theorem d_X8_lacks_9 : zDc M_X8_lacks 9 (.iload_n 2) 1 10 := ⟨by decide +kernel, rfl⟩
theorem d_X8_lacks_10 : zDc M_X8_lacks 10 (.aload_n 0) 1 11 := ⟨by decide +kernel, rfl⟩
theorem d_X8_lacks_11 : zDc M_X8_lacks 11 (.getfield 13) 3 14 := ⟨by decide +kernel, rfl⟩
theorem d_X8_lacks_14 : zDc M_X8_lacks 14 (.iconst 0) 1 15 := ⟨by decide +kernel, rfl⟩
theorem d_X8_lacks_15 : zDc M_X8_lacks 15 (.iaload) 1 16 := ⟨by decide +kernel, rfl⟩
theorem d_X8_lacks_16 : zDj M_X8_lacks 16 (.if_icmp .ge 34) 34 19 50 := ⟨by decide +kernel, rfl, by decide⟩
theorem d_X8_lacks_19 : zDc M_X8_lacks 19 (.iload_n 1) 1 20 := ⟨by decide +kernel, rfl⟩
theorem d_X8_lacks_20 : zDc M_X8_lacks 20 (.aload_n 0) 1 21 := ⟨by decide +kernel, rfl⟩
theorem d_X8_lacks_21 : zDc M_X8_lacks 21 (.getfield 102) 3 24 := ⟨by decide +kernel, rfl⟩
theorem d_X8_lacks_24 : zDc M_X8_lacks 24 (.iload_n 2) 1 25 := ⟨by decide +kernel, rfl⟩
theorem d_X8_lacks_25 : zDc M_X8_lacks 25 (.iaload) 1 26 := ⟨by decide +kernel, rfl⟩
theorem d_X8_lacks_26 : zDc M_X8_lacks 26 (.aload_n 0) 1 27 := ⟨by decide +kernel, rfl⟩
theorem d_X8_lacks_27 : zDc M_X8_lacks 27 (.getfield 25) 3 30 := ⟨by decide +kernel, rfl⟩
theorem d_X8_lacks_30 : zDc M_X8_lacks 30 (.iload_n 2) 1 31 := ⟨by decide +kernel, rfl⟩
theorem d_X8_lacks_31 : zDc M_X8_lacks 31 (.iaload) 1 32 := ⟨by decide +kernel, rfl⟩
theorem d_X8_lacks_32 : zDj M_X8_lacks 32 (.if_icmp .ge 9) 9 35 41 := ⟨by decide +kernel, rfl, by decide⟩
theorem d_X8_lacks_35 : zDc M_X8_lacks 35 (.iconst 1) 1 36 := ⟨by decide +kernel, rfl⟩
theorem d_X8_lacks_36 : zDc M_X8_lacks 36 (.iload_n 2) 1 37 := ⟨by decide +kernel, rfl⟩
theorem d_X8_lacks_37 : zDc M_X8_lacks 37 (.ishl) 1 38 := ⟨by decide +kernel, rfl⟩
theorem d_X8_lacks_38 : zDj M_X8_lacks 38 (.goto 4) 4 41 42 := ⟨by decide +kernel, rfl, by decide⟩
theorem d_X8_lacks_41 : zDc M_X8_lacks 41 (.iconst 0) 1 42 := ⟨by decide +kernel, rfl⟩
theorem d_X8_lacks_42 : zDc M_X8_lacks 42 (.ior) 1 43 := ⟨by decide +kernel, rfl⟩
theorem d_X8_lacks_43 : zDc M_X8_lacks 43 (.istore_n 1) 1 44 := ⟨by decide +kernel, rfl⟩
theorem d_X8_lacks_44 : zDc M_X8_lacks 44 (.iinc 2 1) 3 47 := ⟨by decide +kernel, rfl⟩
theorem d_X8_lacks_47 : zDj M_X8_lacks 47 (.goto (-38)) (-38) 50 9 := ⟨by decide +kernel, rfl, by decide⟩
theorem d_X8_lacks_50 : zDc M_X8_lacks 50 (.iload_n 1) 1 51 := ⟨by decide +kernel, rfl⟩
theorem d_X8_lacks_51 : zDc M_X8_lacks 51 (.ireturn) 1 52 := ⟨by decide +kernel, rfl⟩
def f_X8_lacks (a0 : Nat) (h0 : zHp) : Option (Int32 × zHp) :=
  zob (zpV h0 a0 8 0 (.int 0)) (fun h1 =>
  zbd (
  zlp (σ := (Int32 × Int32)) (β := (Int32 × Int32)) zLF (fun s2 h3 =>
  zob (zgR h3 a0 8 3) (fun v6 =>
  zob (zaI 0 h3 v6 0) (fun v7 =>
  if v7 ≤ s2.2 then
  some ((.inr (s2.1, s2.2)), h3)
  else
  zob (zgR h3 a0 8 45) (fun v8 =>
  zob (zaI 0 h3 v8 s2.2) (fun v9 =>
  zob (zgR h3 a0 8 7) (fun v10 =>
  zob (zaI 0 h3 v10 s2.2) (fun v11 =>
  if v11 ≤ v9 then
  some ((.inl ((s2.1 ||| 0), (s2.2 + 1))), h3)
  else
  some ((.inl ((s2.1 ||| (1 <<< (s2.2 &&& 31))), (s2.2 + 1))), h3)))))))) (0, 0) h1) (fun e4 h5 =>
  some (e4.1, h5)))
set_option maxRecDepth 100000 in
set_option maxHeartbeats 4000000 in
theorem t_X8_lacks (a0 : Nat) (h0 : zHp) : ∀ (r : Int32) (h' : zHp), f_X8_lacks a0 h0 = some (r, h') → zCt yX8_lacks (.code yX8_lacks cX8_lacks 3 (some .int)) 1 60 0 0 [.ref a0] h0 (some (.int r)) h' := by
  refine zct_of M_X8_lacks yX8_lacks (by decide) rfl rfl [.ref a0] h0 (Nat.le_of_ble_eq_true rfl) (fun r => some (.int r)) (fun X => ?_)
  show zG X M_X8_lacks (0, 0) 0 [(0, .ref a0)] [] h0 (f_X8_lacks a0 h0) (fun (r : Int32) h' => zKe X (some (.int r)) h')
  unfold f_X8_lacks
  refine zg_aload_n 0 rfl d_X8_lacks_0 ?_
  refine zg_iconst 0 rfl d_X8_lacks_1 ?_
  refine zg_putV d_X8_lacks_2 zc_8 (by decide) fl_X8_151 rfl rfl rfl (fun h1 => ?_)
  refine zg_iconst 0 rfl d_X8_lacks_5 ?_
  refine zg_istore_n [(1, .int 0), (0, .ref a0)] d_X8_lacks_6 rfl (by decide) rfl ?_
  refine zg_iconst 0 rfl d_X8_lacks_7 ?_
  refine zg_istore_n [(2, .int 0), (1, .int 0), (0, .ref a0)] d_X8_lacks_8 rfl (by decide) rfl ?_
  refine zg_bd (E := 50) (el := (fun (e4 : (Int32 × Int32)) => [(0, .ref a0), (1, .int e4.1), (2, .int e4.2)])) (es := fun _ => []) (zg_sub [2, 1, 0] rfl (zg_lp (el := (fun (s2 : (Int32 × Int32)) => [(0, .ref a0), (1, .int s2.1), (2, .int s2.2)])) (fun s2 h3 => ?_) (0, 0) h1)) (fun e4 h5 => ?_)
  · refine zg_iload_n 2 rfl d_X8_lacks_9 ?_
    refine zg_aload_n 0 rfl d_X8_lacks_10 ?_
    refine zg_getR d_X8_lacks_11 zc_8 (by decide) fl_X8_13 (fun v6 => ?_)
    refine zg_iconst 0 rfl d_X8_lacks_14 ?_
    refine zg_ald0 d_X8_lacks_15 (fun v7 => ?_)
    refine zg_icmp_ge d_X8_lacks_16 ?_ ?_
    · exact zg_finK (E := 0) [0, 1, 2] rfl rfl (fun q => q)
    · refine zg_iload_n 1 rfl d_X8_lacks_19 ?_
      refine zg_aload_n 0 rfl d_X8_lacks_20 ?_
      refine zg_getR d_X8_lacks_21 zc_8 (by decide) fl_X8_102 (fun v8 => ?_)
      refine zg_iload_n 2 rfl d_X8_lacks_24 ?_
      refine zg_ald0 d_X8_lacks_25 (fun v9 => ?_)
      refine zg_aload_n 0 rfl d_X8_lacks_26 ?_
      refine zg_getR d_X8_lacks_27 zc_8 (by decide) fl_X8_25 (fun v10 => ?_)
      refine zg_iload_n 2 rfl d_X8_lacks_30 ?_
      refine zg_ald0 d_X8_lacks_31 (fun v11 => ?_)
      refine zg_icmp_ge d_X8_lacks_32 ?_ ?_
      · refine zg_iconst 0 rfl d_X8_lacks_41 ?_
        refine zg_ior d_X8_lacks_42 ?_
        refine zg_istore_n [(1, .int (s2.1 ||| 0)), (0, .ref a0), (2, .int s2.2)] d_X8_lacks_43 rfl (by decide) rfl ?_
        refine zg_iinc 2 (s2.2 + 1) [(2, .int (s2.2 + 1)), (1, .int (s2.1 ||| 0)), (0, .ref a0)] d_X8_lacks_44 rfl rfl (by decide) rfl ?_
        refine zg_goto d_X8_lacks_47 ?_
        exact zg_finK (E := 0) [2, 1, 0] rfl rfl (fun q => q)
      · refine zg_iconst 1 rfl d_X8_lacks_35 ?_
        refine zg_iload_n 2 rfl d_X8_lacks_36 ?_
        refine zg_ishl d_X8_lacks_37 ?_
        refine zg_goto d_X8_lacks_38 ?_
        refine zg_ior d_X8_lacks_42 ?_
        refine zg_istore_n [(1, .int (s2.1 ||| (1 <<< (s2.2 &&& 31)))), (0, .ref a0), (2, .int s2.2)] d_X8_lacks_43 rfl (by decide) rfl ?_
        refine zg_iinc 2 (s2.2 + 1) [(2, .int (s2.2 + 1)), (1, .int (s2.1 ||| (1 <<< (s2.2 &&& 31)))), (0, .ref a0)] d_X8_lacks_44 rfl rfl (by decide) rfl ?_
        refine zg_goto d_X8_lacks_47 ?_
        exact zg_finK (E := 0) [2, 1, 0] rfl rfl (fun q => q)
  · refine zg_iload_n 1 rfl d_X8_lacks_50 ?_
    exact zg_iretK d_X8_lacks_51 rfl ⟨Nat.le_of_ble_eq_true rfl, Nat.le_of_ble_eq_true rfl⟩ (fun q => q)
abbrev M_X8_ownSeen : zMt := (RX8, cX8_ownSeen, 4, 3, 104, (some .int), "ownSeen", 0, 0)
theorem d_X8_ownSeen_0 : zDc M_X8_ownSeen 0 (.iconst 0) 1 1 := ⟨by decide +kernel, rfl⟩
theorem d_X8_ownSeen_1 : zDc M_X8_ownSeen 1 (.istore_n 3) 1 2 := ⟨by decide +kernel, rfl⟩
theorem d_X8_ownSeen_2 : zDc M_X8_ownSeen 2 (.iload_n 3) 1 3 := ⟨by decide +kernel, rfl⟩
theorem d_X8_ownSeen_3 : zDc M_X8_ownSeen 3 (.aload_n 0) 1 4 := ⟨by decide +kernel, rfl⟩
theorem d_X8_ownSeen_4 : zDc M_X8_ownSeen 4 (.getfield 13) 3 7 := ⟨by decide +kernel, rfl⟩
theorem d_X8_ownSeen_7 : zDc M_X8_ownSeen 7 (.iconst 1) 1 8 := ⟨by decide +kernel, rfl⟩
theorem d_X8_ownSeen_8 : zDc M_X8_ownSeen 8 (.iaload) 1 9 := ⟨by decide +kernel, rfl⟩
theorem d_X8_ownSeen_9 : zDj M_X8_ownSeen 9 (.if_icmp .ge 55) 55 12 64 := ⟨by decide +kernel, rfl, by decide⟩
theorem d_X8_ownSeen_12 : zDc M_X8_ownSeen 12 (.aload_n 0) 1 13 := ⟨by decide +kernel, rfl⟩
theorem d_X8_ownSeen_13 : zDc M_X8_ownSeen 13 (.iload_n 1) 1 14 := ⟨by decide +kernel, rfl⟩
theorem d_X8_ownSeen_14 : zDc M_X8_ownSeen 14 (.iload_n 3) 1 15 := ⟨by decide +kernel, rfl⟩
theorem d_X8_ownSeen_15 : zDc M_X8_ownSeen 15 (.invokevirtual 351) 3 18 := ⟨by decide +kernel, rfl⟩
theorem d_X8_ownSeen_18 : zDj M_X8_ownSeen 18 (.ifCond .eq 40) 40 21 58 := ⟨by decide +kernel, rfl, by decide⟩
theorem d_X8_ownSeen_21 : zDc M_X8_ownSeen 21 (.aload_n 0) 1 22 := ⟨by decide +kernel, rfl⟩
theorem d_X8_ownSeen_22 : zDc M_X8_ownSeen 22 (.getfield 90) 3 25 := ⟨by decide +kernel, rfl⟩
theorem d_X8_ownSeen_25 : zDc M_X8_ownSeen 25 (.bipush 8) 2 27 := ⟨by decide +kernel, rfl⟩
theorem d_X8_ownSeen_27 : zDc M_X8_ownSeen 27 (.iload_n 1) 1 28 := ⟨by decide +kernel, rfl⟩
theorem d_X8_ownSeen_28 : zDc M_X8_ownSeen 28 (.imul) 1 29 := ⟨by decide +kernel, rfl⟩
theorem d_X8_ownSeen_29 : zDc M_X8_ownSeen 29 (.iload_n 3) 1 30 := ⟨by decide +kernel, rfl⟩
theorem d_X8_ownSeen_30 : zDc M_X8_ownSeen 30 (.iadd) 1 31 := ⟨by decide +kernel, rfl⟩
theorem d_X8_ownSeen_31 : zDc M_X8_ownSeen 31 (.iaload) 1 32 := ⟨by decide +kernel, rfl⟩
theorem d_X8_ownSeen_32 : zDc M_X8_ownSeen 32 (.iload_n 2) 1 33 := ⟨by decide +kernel, rfl⟩
theorem d_X8_ownSeen_33 : zDj M_X8_ownSeen 33 (.if_icmp .ne 25) 25 36 58 := ⟨by decide +kernel, rfl, by decide⟩
theorem d_X8_ownSeen_36 : zDc M_X8_ownSeen 36 (.aload_n 0) 1 37 := ⟨by decide +kernel, rfl⟩
theorem d_X8_ownSeen_37 : zDc M_X8_ownSeen 37 (.iload_n 1) 1 38 := ⟨by decide +kernel, rfl⟩
theorem d_X8_ownSeen_38 : zDc M_X8_ownSeen 38 (.iload_n 2) 1 39 := ⟨by decide +kernel, rfl⟩
theorem d_X8_ownSeen_39 : zDc M_X8_ownSeen 39 (.aload_n 0) 1 40 := ⟨by decide +kernel, rfl⟩
theorem d_X8_ownSeen_40 : zDc M_X8_ownSeen 40 (.getfield 81) 3 43 := ⟨by decide +kernel, rfl⟩
theorem d_X8_ownSeen_43 : zDc M_X8_ownSeen 43 (.bipush 8) 2 45 := ⟨by decide +kernel, rfl⟩
theorem d_X8_ownSeen_45 : zDc M_X8_ownSeen 45 (.iload_n 1) 1 46 := ⟨by decide +kernel, rfl⟩
theorem d_X8_ownSeen_46 : zDc M_X8_ownSeen 46 (.imul) 1 47 := ⟨by decide +kernel, rfl⟩
theorem d_X8_ownSeen_47 : zDc M_X8_ownSeen 47 (.iload_n 3) 1 48 := ⟨by decide +kernel, rfl⟩
theorem d_X8_ownSeen_48 : zDc M_X8_ownSeen 48 (.iadd) 1 49 := ⟨by decide +kernel, rfl⟩
theorem d_X8_ownSeen_49 : zDc M_X8_ownSeen 49 (.iaload) 1 50 := ⟨by decide +kernel, rfl⟩
theorem d_X8_ownSeen_50 : zDc M_X8_ownSeen 50 (.invokevirtual 390) 3 53 := ⟨by decide +kernel, rfl⟩
theorem d_X8_ownSeen_53 : zDj M_X8_ownSeen 53 (.ifCond .eq 5) 5 56 58 := ⟨by decide +kernel, rfl, by decide⟩
theorem d_X8_ownSeen_56 : zDc M_X8_ownSeen 56 (.iload_n 3) 1 57 := ⟨by decide +kernel, rfl⟩
theorem d_X8_ownSeen_57 : zDc M_X8_ownSeen 57 (.ireturn) 1 58 := ⟨by decide +kernel, rfl⟩
theorem d_X8_ownSeen_58 : zDc M_X8_ownSeen 58 (.iinc 3 1) 3 61 := ⟨by decide +kernel, rfl⟩
theorem d_X8_ownSeen_61 : zDj M_X8_ownSeen 61 (.goto (-59)) (-59) 64 2 := ⟨by decide +kernel, rfl, by decide⟩
theorem d_X8_ownSeen_64 : zDc M_X8_ownSeen 64 (.iconst (-1)) 1 65 := ⟨by decide +kernel, rfl⟩
theorem d_X8_ownSeen_65 : zDc M_X8_ownSeen 65 (.ireturn) 1 66 := ⟨by decide +kernel, rfl⟩
def f_X8_ownSeen (a0 : Nat) (a1 : Int32) (a2 : Int32) (h0 : zHp) : Option (Int32 × zHp) :=
  zbd (
  zlp (σ := Int32) (β := (Int32 ⊕ Int32)) zLF (fun s1 h2 =>
  zob (zgR h2 a0 8 3) (fun v5 =>
  zob (zaI 0 h2 v5 1) (fun v6 =>
  if v6 ≤ s1 then
  some ((.inr (.inl s1)), h2)
  else
  zbd (zcv 8 a0 h2 (f_X8_isUp a0 a1 s1 h2)) (fun v8 h7 =>
  if v8 = 0 then
  some ((.inl (s1 + 1)), h7)
  else
  zob (zgR h7 a0 8 41) (fun v9 =>
  zob (zaI 0 h7 v9 ((8 * a1) + s1)) (fun v10 =>
  if v10 = a2 then
  zob (zgR h7 a0 8 38) (fun v11 =>
  zob (zaI 0 h7 v11 ((8 * a1) + s1)) (fun v12 =>
  zbd (zcv 8 a0 h7 (f_X8_doesSee a0 a1 a2 v12 h7)) (fun v14 h13 =>
  if v14 = 0 then
  some ((.inl (s1 + 1)), h13)
  else
  some ((.inr (.inr s1)), h13))))
  else
  some ((.inl (s1 + 1)), h7))))))) 0 h0) (fun b15 h4 => zsl b15 (fun e3 =>
  some ((-1), h4)) (fun r => some (r, h4)))
set_option maxRecDepth 100000 in
set_option maxHeartbeats 4000000 in
theorem t_X8_ownSeen (a0 : Nat) (a1 : Int32) (a2 : Int32) (h0 : zHp) : ∀ (r : Int32) (h' : zHp), f_X8_ownSeen a0 a1 a2 h0 = some (r, h') → zCt yX8_ownSeen (.code yX8_ownSeen cX8_ownSeen 4 (some .int)) 3 104 0 0 [.ref a0, .int a1, .int a2] h0 (some (.int r)) h' := by
  refine zct_of M_X8_ownSeen yX8_ownSeen (by decide) rfl rfl [.ref a0, .int a1, .int a2] h0 (Nat.le_of_ble_eq_true rfl) (fun r => some (.int r)) (fun X => ?_)
  show zG X M_X8_ownSeen (0, 0) 0 [(0, .ref a0), (1, .int a1), (2, .int a2)] [] h0 (f_X8_ownSeen a0 a1 a2 h0) (fun (r : Int32) h' => zKe X (some (.int r)) h')
  unfold f_X8_ownSeen
  refine zg_iconst 0 rfl d_X8_ownSeen_0 ?_
  refine zg_istore_n [(3, .int 0), (0, .ref a0), (1, .int a1), (2, .int a2)] d_X8_ownSeen_1 rfl (by decide) rfl ?_
  refine zg_bdr (E := 64) (el := (fun (e3 : Int32) => [(0, .ref a0), (1, .int a1), (2, .int a2), (3, .int e3)])) (es := fun _ => []) (zg_sub [1, 2, 3, 0] rfl (zg_lp (el := (fun (s1 : Int32) => [(0, .ref a0), (1, .int a1), (2, .int a2), (3, .int s1)])) (fun s1 h2 => ?_) 0 h0)) (fun e3 h4 => ?_)
  · refine zg_iload_n 3 rfl d_X8_ownSeen_2 ?_
    refine zg_aload_n 0 rfl d_X8_ownSeen_3 ?_
    refine zg_getR d_X8_ownSeen_4 zc_8 (by decide) fl_X8_13 (fun v5 => ?_)
    refine zg_iconst 1 rfl d_X8_ownSeen_7 ?_
    refine zg_ald0 d_X8_ownSeen_8 (fun v6 => ?_)
    refine zg_icmp_ge d_X8_ownSeen_9 ?_ ?_
    · exact zg_finK (E := 0) [0, 1, 2, 3] rfl rfl (fun q => q)
    · refine zg_aload_n 0 rfl d_X8_ownSeen_12 ?_
      refine zg_iload_n 1 rfl d_X8_ownSeen_13 ?_
      refine zg_iload_n 3 rfl d_X8_ownSeen_14 ?_
      refine zg_cVi (b := a0) (As := [.int a1, .int s1]) (rest := []) (0, 0) d_X8_ownSeen_15 zc_8 rfl cw_X8_351 wi_X8_isUp ws_X8_isUp rfl rfl (Nat.le_of_ble_eq_true rfl) (by decide) (by decide) ⟨by decide, by decide⟩ rfl (t_X8_isUp a0 a1 s1 h2) (fun v8 h7 => ?_)
      refine zg_if_eq d_X8_ownSeen_18 ?_ ?_
      · refine zg_iinc 3 (s1 + 1) [(3, .int (s1 + 1)), (0, .ref a0), (1, .int a1), (2, .int a2)] d_X8_ownSeen_58 rfl rfl (by decide) rfl ?_
        refine zg_goto d_X8_ownSeen_61 ?_
        exact zg_finK (E := 0) [1, 2, 3, 0] rfl rfl (fun q => q)
      · refine zg_aload_n 0 rfl d_X8_ownSeen_21 ?_
        refine zg_getR d_X8_ownSeen_22 zc_8 (by decide) fl_X8_90 (fun v9 => ?_)
        refine zg_bipush 8 rfl d_X8_ownSeen_25 ?_
        refine zg_iload_n 1 rfl d_X8_ownSeen_27 ?_
        refine zg_imul d_X8_ownSeen_28 ?_
        refine zg_iload_n 3 rfl d_X8_ownSeen_29 ?_
        refine zg_iadd d_X8_ownSeen_30 ?_
        refine zg_ald0 d_X8_ownSeen_31 (fun v10 => ?_)
        refine zg_iload_n 2 rfl d_X8_ownSeen_32 ?_
        refine zg_icmp_ne d_X8_ownSeen_33 ?_ ?_
        · refine zg_aload_n 0 rfl d_X8_ownSeen_36 ?_
          refine zg_iload_n 1 rfl d_X8_ownSeen_37 ?_
          refine zg_iload_n 2 rfl d_X8_ownSeen_38 ?_
          refine zg_aload_n 0 rfl d_X8_ownSeen_39 ?_
          refine zg_getR d_X8_ownSeen_40 zc_8 (by decide) fl_X8_81 (fun v11 => ?_)
          refine zg_bipush 8 rfl d_X8_ownSeen_43 ?_
          refine zg_iload_n 1 rfl d_X8_ownSeen_45 ?_
          refine zg_imul d_X8_ownSeen_46 ?_
          refine zg_iload_n 3 rfl d_X8_ownSeen_47 ?_
          refine zg_iadd d_X8_ownSeen_48 ?_
          refine zg_ald0 d_X8_ownSeen_49 (fun v12 => ?_)
          refine zg_cVi (b := a0) (As := [.int a1, .int a2, .int v12]) (rest := []) (0, 0) d_X8_ownSeen_50 zc_8 rfl cw_X8_390 wi_X8_doesSee ws_X8_doesSee rfl rfl (Nat.le_of_ble_eq_true rfl) (by decide) (by decide) ⟨by decide, by decide⟩ rfl (t_X8_doesSee a0 a1 a2 v12 h7) (fun v14 h13 => ?_)
          refine zg_if_eq d_X8_ownSeen_53 ?_ ?_
          · refine zg_iinc 3 (s1 + 1) [(3, .int (s1 + 1)), (0, .ref a0), (1, .int a1), (2, .int a2)] d_X8_ownSeen_58 rfl rfl (by decide) rfl ?_
            refine zg_goto d_X8_ownSeen_61 ?_
            exact zg_finK (E := 0) [1, 2, 3, 0] rfl rfl (fun q => q)
          · refine zg_iload_n 3 rfl d_X8_ownSeen_56 ?_
            exact zg_iretK d_X8_ownSeen_57 rfl ⟨Nat.le_of_ble_eq_true rfl, Nat.le_of_ble_eq_true rfl⟩ (fun q => q)
        · refine zg_iinc 3 (s1 + 1) [(3, .int (s1 + 1)), (0, .ref a0), (1, .int a1), (2, .int a2)] d_X8_ownSeen_58 rfl rfl (by decide) rfl ?_
          refine zg_goto d_X8_ownSeen_61 ?_
          exact zg_finK (E := 0) [1, 2, 3, 0] rfl rfl (fun q => q)
  · refine zg_iconst (-1) rfl d_X8_ownSeen_64 ?_
    exact zg_iretK d_X8_ownSeen_65 rfl ⟨Nat.le_of_ble_eq_true rfl, Nat.le_of_ble_eq_true rfl⟩ (fun q => q)
abbrev M_X8_pushes : zMt := (RX8, cX8_pushes, 5, 4, 127, none, "pushes", 0, 0)
theorem d_X8_pushes_0 : zDc M_X8_pushes 0 (.aload_n 0) 1 1 := ⟨by decide +kernel, rfl⟩
theorem d_X8_pushes_1 : zDc M_X8_pushes 1 (.iload_n 1) 1 2 := ⟨by decide +kernel, rfl⟩
theorem d_X8_pushes_2 : zDc M_X8_pushes 2 (.iload_n 2) 1 3 := ⟨by decide +kernel, rfl⟩
theorem d_X8_pushes_3 : zDc M_X8_pushes 3 (.invokevirtual 441) 3 6 := ⟨by decide +kernel, rfl⟩
theorem d_X8_pushes_6 : zDc M_X8_pushes 6 (.istore 4) 2 8 := ⟨by decide +kernel, rfl⟩
theorem d_X8_pushes_8 : zDc M_X8_pushes 8 (.iload 4) 2 10 := ⟨by decide +kernel, rfl⟩
theorem d_X8_pushes_10 : zDc M_X8_pushes 10 (.iconst (-1)) 1 11 := ⟨by decide +kernel, rfl⟩
theorem d_X8_pushes_11 : zDj M_X8_pushes 11 (.if_icmp .eq 15) 15 14 26 := ⟨by decide +kernel, rfl, by decide⟩
theorem d_X8_pushes_14 : zDc M_X8_pushes 14 (.iload_n 3) 1 15 := ⟨by decide +kernel, rfl⟩
theorem d_X8_pushes_15 : zDj M_X8_pushes 15 (.ifCond .le 11) 11 18 26 := ⟨by decide +kernel, rfl, by decide⟩
theorem d_X8_pushes_18 : zDc M_X8_pushes 18 (.aload_n 0) 1 19 := ⟨by decide +kernel, rfl⟩
theorem d_X8_pushes_19 : zDc M_X8_pushes 19 (.iload_n 1) 1 20 := ⟨by decide +kernel, rfl⟩
theorem d_X8_pushes_20 : zDc M_X8_pushes 20 (.iload 4) 2 22 := ⟨by decide +kernel, rfl⟩
theorem d_X8_pushes_22 : zDc M_X8_pushes 22 (.iload_n 3) 1 23 := ⟨by decide +kernel, rfl⟩
theorem d_X8_pushes_23 : zDc M_X8_pushes 23 (.invokevirtual 400) 3 26 := ⟨by decide +kernel, rfl⟩
theorem d_X8_pushes_26 : zDc M_X8_pushes 26 (.return_) 1 27 := ⟨by decide +kernel, rfl⟩
def f_X8_pushes (a0 : Nat) (a1 : Int32) (a2 : Int32) (a3 : Int32) (h0 : zHp) : Option (Unit × zHp) :=
  zbd (zcv 8 a0 h0 (f_X8_ownSeen a0 a1 a2 h0)) (fun v2 h1 =>
  if v2 = (-1) then
  some ((), h1)
  else
  if a3 ≤ 0 then
  some ((), h1)
  else
  zbd (zcv 8 a0 h1 (f_X8_drifts a0 a1 v2 a3 h1)) (fun v4 h3 =>
  some ((), h3)))
set_option maxRecDepth 100000 in
set_option maxHeartbeats 4000000 in
theorem t_X8_pushes (a0 : Nat) (a1 : Int32) (a2 : Int32) (a3 : Int32) (h0 : zHp) : ∀ (r : Unit) (h' : zHp), f_X8_pushes a0 a1 a2 a3 h0 = some (r, h') → zCt yX8_pushes (.code yX8_pushes cX8_pushes 5 none) 4 127 0 0 [.ref a0, .int a1, .int a2, .int a3] h0 (none) h' := by
  refine zct_of M_X8_pushes yX8_pushes (by decide) rfl rfl [.ref a0, .int a1, .int a2, .int a3] h0 (Nat.le_of_ble_eq_true rfl) (fun _ => none) (fun X => ?_)
  show zG X M_X8_pushes (0, 0) 0 [(0, .ref a0), (1, .int a1), (2, .int a2), (3, .int a3)] [] h0 (f_X8_pushes a0 a1 a2 a3 h0) (fun (_ : Unit) h' => zKe X (none) h')
  unfold f_X8_pushes
  refine zg_aload_n 0 rfl d_X8_pushes_0 ?_
  refine zg_iload_n 1 rfl d_X8_pushes_1 ?_
  refine zg_iload_n 2 rfl d_X8_pushes_2 ?_
  refine zg_cVi (b := a0) (As := [.int a1, .int a2]) (rest := []) (0, 0) d_X8_pushes_3 zc_8 rfl cw_X8_441 wi_X8_ownSeen ws_X8_ownSeen rfl rfl (Nat.le_of_ble_eq_true rfl) (by decide) (by decide) ⟨by decide, by decide⟩ rfl (t_X8_ownSeen a0 a1 a2 h0) (fun v2 h1 => ?_)
  refine zg_istore [(4, .int v2), (0, .ref a0), (1, .int a1), (2, .int a2), (3, .int a3)] d_X8_pushes_6 (by decide) rfl ?_
  refine zg_iload 0 rfl d_X8_pushes_8 ?_
  refine zg_iconst (-1) rfl d_X8_pushes_10 ?_
  refine zg_icmp_eq d_X8_pushes_11 ?_ ?_
  · exact zg_vretK d_X8_pushes_26 rfl ⟨Nat.le_of_ble_eq_true rfl, Nat.le_of_ble_eq_true rfl⟩ (fun q => q)
  · refine zg_iload_n 4 rfl d_X8_pushes_14 ?_
    refine zg_if_le d_X8_pushes_15 ?_ ?_
    · exact zg_vretK d_X8_pushes_26 rfl ⟨Nat.le_of_ble_eq_true rfl, Nat.le_of_ble_eq_true rfl⟩ (fun q => q)
    · refine zg_aload_n 1 rfl d_X8_pushes_18 ?_
      refine zg_iload_n 2 rfl d_X8_pushes_19 ?_
      refine zg_iload 0 rfl d_X8_pushes_20 ?_
      refine zg_iload_n 4 rfl d_X8_pushes_22 ?_
      refine zg_cVv (b := a0) (As := [.int a1, .int v2, .int a3]) (rest := []) (0, 0) d_X8_pushes_23 zc_8 rfl cw_X8_400 wi_X8_drifts ws_X8_drifts rfl rfl (Nat.le_of_ble_eq_true rfl) (by decide) (by decide) ⟨by decide, by decide⟩ rfl (t_X8_drifts a0 a1 v2 a3 h1) (fun v4 h3 => ?_)
      exact zg_vretK d_X8_pushes_26 rfl ⟨Nat.le_of_ble_eq_true rfl, Nat.le_of_ble_eq_true rfl⟩ (fun q => q)
abbrev M_X8_named : zMt := (RX8, cX8_named, 3, 2, 84, (some .int), "named", 0, 0)
theorem d_X8_named_0 : zDc M_X8_named 0 (.aload_n 0) 1 1 := ⟨by decide +kernel, rfl⟩
theorem d_X8_named_1 : zDc M_X8_named 1 (.iconst 0) 1 2 := ⟨by decide +kernel, rfl⟩
theorem d_X8_named_2 : zDc M_X8_named 2 (.putfield 151) 3 5 := ⟨by decide +kernel, rfl⟩
theorem d_X8_named_5 : zDc M_X8_named 5 (.iload_n 1) 1 6 := ⟨by decide +kernel, rfl⟩
theorem d_X8_named_6 : decode M_X8_named.2.1 6 = .ok (.tableswitch 74 0 2 #[26, 42, 58], 26) := by decide +kernel
theorem d_X8_named_32 : zDc M_X8_named 32 (.aload_n 0) 1 33 := ⟨by decide +kernel, rfl⟩
theorem d_X8_named_33 : zDc M_X8_named 33 (.getfield 19) 3 36 := ⟨by decide +kernel, rfl⟩
theorem d_X8_named_36 : zDc M_X8_named 36 (.iconst 0) 1 37 := ⟨by decide +kernel, rfl⟩
theorem d_X8_named_37 : zDc M_X8_named 37 (.aload_n 0) 1 38 := ⟨by decide +kernel, rfl⟩
theorem d_X8_named_38 : zDc M_X8_named 38 (.getfield 13) 3 41 := ⟨by decide +kernel, rfl⟩
theorem d_X8_named_41 : zDc M_X8_named 41 (.iconst 0) 1 42 := ⟨by decide +kernel, rfl⟩
theorem d_X8_named_42 : zDc M_X8_named 42 (.iaload) 1 43 := ⟨by decide +kernel, rfl⟩
theorem d_X8_named_43 : zDc M_X8_named 43 (.iload_n 2) 1 44 := ⟨by decide +kernel, rfl⟩
theorem d_X8_named_44 : zDc M_X8_named 44 (.invokestatic 217) 3 47 := ⟨by decide +kernel, rfl⟩
theorem d_X8_named_47 : zDc M_X8_named 47 (.ireturn) 1 48 := ⟨by decide +kernel, rfl⟩
theorem d_X8_named_48 : zDc M_X8_named 48 (.aload_n 0) 1 49 := ⟨by decide +kernel, rfl⟩
theorem d_X8_named_49 : zDc M_X8_named 49 (.getfield 28) 3 52 := ⟨by decide +kernel, rfl⟩
theorem d_X8_named_52 : zDc M_X8_named 52 (.iconst 0) 1 53 := ⟨by decide +kernel, rfl⟩
theorem d_X8_named_53 : zDc M_X8_named 53 (.aload_n 0) 1 54 := ⟨by decide +kernel, rfl⟩
theorem d_X8_named_54 : zDc M_X8_named 54 (.getfield 13) 3 57 := ⟨by decide +kernel, rfl⟩
theorem d_X8_named_57 : zDc M_X8_named 57 (.iconst 1) 1 58 := ⟨by decide +kernel, rfl⟩
theorem d_X8_named_58 : zDc M_X8_named 58 (.iaload) 1 59 := ⟨by decide +kernel, rfl⟩
theorem d_X8_named_59 : zDc M_X8_named 59 (.iload_n 2) 1 60 := ⟨by decide +kernel, rfl⟩
theorem d_X8_named_60 : zDc M_X8_named 60 (.invokestatic 217) 3 63 := ⟨by decide +kernel, rfl⟩
theorem d_X8_named_63 : zDc M_X8_named 63 (.ireturn) 1 64 := ⟨by decide +kernel, rfl⟩
theorem d_X8_named_64 : zDc M_X8_named 64 (.aload_n 0) 1 65 := ⟨by decide +kernel, rfl⟩
theorem d_X8_named_65 : zDc M_X8_named 65 (.getfield 40) 3 68 := ⟨by decide +kernel, rfl⟩
theorem d_X8_named_68 : zDc M_X8_named 68 (.iconst 0) 1 69 := ⟨by decide +kernel, rfl⟩
theorem d_X8_named_69 : zDc M_X8_named 69 (.aload_n 0) 1 70 := ⟨by decide +kernel, rfl⟩
theorem d_X8_named_70 : zDc M_X8_named 70 (.getfield 13) 3 73 := ⟨by decide +kernel, rfl⟩
theorem d_X8_named_73 : zDc M_X8_named 73 (.iconst 2) 1 74 := ⟨by decide +kernel, rfl⟩
theorem d_X8_named_74 : zDc M_X8_named 74 (.iaload) 1 75 := ⟨by decide +kernel, rfl⟩
theorem d_X8_named_75 : zDc M_X8_named 75 (.iload_n 2) 1 76 := ⟨by decide +kernel, rfl⟩
theorem d_X8_named_76 : zDc M_X8_named 76 (.invokestatic 217) 3 79 := ⟨by decide +kernel, rfl⟩
theorem d_X8_named_79 : zDc M_X8_named 79 (.ireturn) 1 80 := ⟨by decide +kernel, rfl⟩
theorem d_X8_named_80 : zDc M_X8_named 80 (.iconst (-1)) 1 81 := ⟨by decide +kernel, rfl⟩
theorem d_X8_named_81 : zDc M_X8_named 81 (.ireturn) 1 82 := ⟨by decide +kernel, rfl⟩
def f_X8_named (a0 : Nat) (a1 : Int32) (a2 : Int32) (h0 : zHp) : Option (Int32 × zHp) :=
  zob (zpV h0 a0 8 0 (.int 0)) (fun h1 =>
  if a1 = 0 then
  zob (zgR h1 a0 8 5) (fun v2 =>
  zob (zgR h1 a0 8 3) (fun v3 =>
  zob (zaI 0 h1 v3 0) (fun v4 =>
  zbd ((f_X8_found v2 0 v4 a2 h1)) (fun v6 h5 =>
  some (v6, h5)))))
  else if a1 = 1 then
  zob (zgR h1 a0 8 8) (fun v7 =>
  zob (zgR h1 a0 8 3) (fun v8 =>
  zob (zaI 0 h1 v8 1) (fun v9 =>
  zbd ((f_X8_found v7 0 v9 a2 h1)) (fun v11 h10 =>
  some (v11, h10)))))
  else if a1 = 2 then
  zob (zgR h1 a0 8 12) (fun v12 =>
  zob (zgR h1 a0 8 3) (fun v13 =>
  zob (zaI 0 h1 v13 2) (fun v14 =>
  zbd ((f_X8_found v12 0 v14 a2 h1)) (fun v16 h15 =>
  some (v16, h15)))))
  else 
  some ((-1), h1))
set_option maxRecDepth 100000 in
set_option maxHeartbeats 4000000 in
theorem t_X8_named (a0 : Nat) (a1 : Int32) (a2 : Int32) (h0 : zHp) : ∀ (r : Int32) (h' : zHp), f_X8_named a0 a1 a2 h0 = some (r, h') → zCt yX8_named (.code yX8_named cX8_named 3 (some .int)) 2 84 0 0 [.ref a0, .int a1, .int a2] h0 (some (.int r)) h' := by
  refine zct_of M_X8_named yX8_named (by decide) rfl rfl [.ref a0, .int a1, .int a2] h0 (Nat.le_of_ble_eq_true rfl) (fun r => some (.int r)) (fun X => ?_)
  show zG X M_X8_named (0, 0) 0 [(0, .ref a0), (1, .int a1), (2, .int a2)] [] h0 (f_X8_named a0 a1 a2 h0) (fun (r : Int32) h' => zKe X (some (.int r)) h')
  unfold f_X8_named
  refine zg_aload_n 0 rfl d_X8_named_0 ?_
  refine zg_iconst 0 rfl d_X8_named_1 ?_
  refine zg_putV d_X8_named_2 zc_8 (by decide) fl_X8_151 rfl rfl rfl (fun h1 => ?_)
  refine zg_iload_n 1 rfl d_X8_named_5 ?_
  refine zg_if (fun n17 => ?_) (fun n17 => ?_)
  · refine zg_tabE n17 d_X8_named_6 (by decide) (by decide) (off := 26) rfl (tgt := 32) (by decide) ?_
    refine zg_aload_n 0 rfl d_X8_named_32 ?_
    refine zg_getR d_X8_named_33 zc_8 (by decide) fl_X8_19 (fun v2 => ?_)
    refine zg_iconst 0 rfl d_X8_named_36 ?_
    refine zg_aload_n 0 rfl d_X8_named_37 ?_
    refine zg_getR d_X8_named_38 zc_8 (by decide) fl_X8_13 (fun v3 => ?_)
    refine zg_iconst 0 rfl d_X8_named_41 ?_
    refine zg_ald0 d_X8_named_42 (fun v4 => ?_)
    refine zg_iload_n 2 rfl d_X8_named_43 ?_
    refine zg_cSi (As := [.ref v2, .int 0, .int v4, .int a2]) (rest := []) (0, 0) d_X8_named_44 cw_X8_217 wt_X8_found rfl rfl (Nat.le_of_ble_eq_true rfl) (by decide) (by decide) ⟨by decide, by decide⟩ rfl (t_X8_found v2 0 v4 a2 h1) (fun v6 h5 => ?_)
    exact zg_iretK d_X8_named_47 rfl ⟨Nat.le_of_ble_eq_true rfl, Nat.le_of_ble_eq_true rfl⟩ (fun q => q)
  refine zg_if (fun n18 => ?_) (fun n18 => ?_)
  · refine zg_tabE n18 d_X8_named_6 (by decide) (by decide) (off := 42) rfl (tgt := 48) (by decide) ?_
    refine zg_aload_n 0 rfl d_X8_named_48 ?_
    refine zg_getR d_X8_named_49 zc_8 (by decide) fl_X8_28 (fun v7 => ?_)
    refine zg_iconst 0 rfl d_X8_named_52 ?_
    refine zg_aload_n 0 rfl d_X8_named_53 ?_
    refine zg_getR d_X8_named_54 zc_8 (by decide) fl_X8_13 (fun v8 => ?_)
    refine zg_iconst 1 rfl d_X8_named_57 ?_
    refine zg_ald0 d_X8_named_58 (fun v9 => ?_)
    refine zg_iload_n 2 rfl d_X8_named_59 ?_
    refine zg_cSi (As := [.ref v7, .int 0, .int v9, .int a2]) (rest := []) (0, 0) d_X8_named_60 cw_X8_217 wt_X8_found rfl rfl (Nat.le_of_ble_eq_true rfl) (by decide) (by decide) ⟨by decide, by decide⟩ rfl (t_X8_found v7 0 v9 a2 h1) (fun v11 h10 => ?_)
    exact zg_iretK d_X8_named_63 rfl ⟨Nat.le_of_ble_eq_true rfl, Nat.le_of_ble_eq_true rfl⟩ (fun q => q)
  refine zg_if (fun n19 => ?_) (fun n19 => ?_)
  · refine zg_tabE n19 d_X8_named_6 (by decide) (by decide) (off := 58) rfl (tgt := 64) (by decide) ?_
    refine zg_aload_n 0 rfl d_X8_named_64 ?_
    refine zg_getR d_X8_named_65 zc_8 (by decide) fl_X8_40 (fun v12 => ?_)
    refine zg_iconst 0 rfl d_X8_named_68 ?_
    refine zg_aload_n 0 rfl d_X8_named_69 ?_
    refine zg_getR d_X8_named_70 zc_8 (by decide) fl_X8_13 (fun v13 => ?_)
    refine zg_iconst 2 rfl d_X8_named_73 ?_
    refine zg_ald0 d_X8_named_74 (fun v14 => ?_)
    refine zg_iload_n 2 rfl d_X8_named_75 ?_
    refine zg_cSi (As := [.ref v12, .int 0, .int v14, .int a2]) (rest := []) (0, 0) d_X8_named_76 cw_X8_217 wt_X8_found rfl rfl (Nat.le_of_ble_eq_true rfl) (by decide) (by decide) ⟨by decide, by decide⟩ rfl (t_X8_found v12 0 v14 a2 h1) (fun v16 h15 => ?_)
    exact zg_iretK d_X8_named_79 rfl ⟨Nat.le_of_ble_eq_true rfl, Nat.le_of_ble_eq_true rfl⟩ (fun q => q)
  refine zg_tabO d_X8_named_6 (by have q0 := lv_neT n17 (a := 0) rfl; have q1 := lv_neT n18 (a := 1) rfl; have q2 := lv_neT n19 (a := 2) rfl; omega) (tgt := 80) (by decide) ?_
  refine zg_iconst (-1) rfl d_X8_named_80 ?_
  exact zg_iretK d_X8_named_81 rfl ⟨Nat.le_of_ble_eq_true rfl, Nat.le_of_ble_eq_true rfl⟩ (fun q => q)
abbrev M_X8_note : zMt := (RX8, cX8_note, 5, 2, 81, (some .int), "note", 0, 0)
theorem d_X8_note_0 : zDc M_X8_note 0 (.aload_n 0) 1 1 := ⟨by decide +kernel, rfl⟩
theorem d_X8_note_1 : zDc M_X8_note 1 (.iconst 0) 1 2 := ⟨by decide +kernel, rfl⟩
theorem d_X8_note_2 : zDc M_X8_note 2 (.putfield 151) 3 5 := ⟨by decide +kernel, rfl⟩
theorem d_X8_note_5 : zDc M_X8_note 5 (.iload_n 1) 1 6 := ⟨by decide +kernel, rfl⟩
theorem d_X8_note_6 : zDc M_X8_note 6 (.iconst 1) 1 7 := ⟨by decide +kernel, rfl⟩
theorem d_X8_note_7 : zDj M_X8_note 7 (.if_icmp .lt 26) 26 10 33 := ⟨by decide +kernel, rfl, by decide⟩
theorem d_X8_note_10 : zDc M_X8_note 10 (.iload_n 1) 1 11 := ⟨by decide +kernel, rfl⟩
theorem d_X8_note_11 : zDc M_X8_note 11 (.bipush 40) 2 13 := ⟨by decide +kernel, rfl⟩
theorem d_X8_note_13 : zDj M_X8_note 13 (.if_icmp .gt 20) 20 16 33 := ⟨by decide +kernel, rfl, by decide⟩
theorem d_X8_note_16 : zDc M_X8_note 16 (.iload_n 2) 1 17 := ⟨by decide +kernel, rfl⟩
theorem d_X8_note_17 : zDc M_X8_note 17 (.iload_n 3) 1 18 := ⟨by decide +kernel, rfl⟩
theorem d_X8_note_18 : zDc M_X8_note 18 (.invokestatic 378) 3 21 := ⟨by decide +kernel, rfl⟩
theorem d_X8_note_21 : zDj M_X8_note 21 (.ifCond .eq 12) 12 24 33 := ⟨by decide +kernel, rfl, by decide⟩
theorem d_X8_note_24 : zDc M_X8_note 24 (.aload_n 0) 1 25 := ⟨by decide +kernel, rfl⟩
theorem d_X8_note_25 : zDc M_X8_note 25 (.getfield 304) 3 28 := ⟨by decide +kernel, rfl⟩
theorem d_X8_note_28 : zDc M_X8_note 28 (.bipush 24) 2 30 := ⟨by decide +kernel, rfl⟩
theorem d_X8_note_30 : zDj M_X8_note 30 (.if_icmp .ne 5) 5 33 35 := ⟨by decide +kernel, rfl, by decide⟩
theorem d_X8_note_33 : zDc M_X8_note 33 (.iconst (-1)) 1 34 := ⟨by decide +kernel, rfl⟩
theorem d_X8_note_34 : zDc M_X8_note 34 (.ireturn) 1 35 := ⟨by decide +kernel, rfl⟩
theorem d_X8_note_35 : zDc M_X8_note 35 (.aload_n 0) 1 36 := ⟨by decide +kernel, rfl⟩
theorem d_X8_note_36 : zDc M_X8_note 36 (.getfield 132) 3 39 := ⟨by decide +kernel, rfl⟩
theorem d_X8_note_39 : zDc M_X8_note 39 (.aload_n 0) 1 40 := ⟨by decide +kernel, rfl⟩
theorem d_X8_note_40 : zDc M_X8_note 40 (.getfield 304) 3 43 := ⟨by decide +kernel, rfl⟩
theorem d_X8_note_43 : zDc M_X8_note 43 (.iload_n 1) 1 44 := ⟨by decide +kernel, rfl⟩
theorem d_X8_note_44 : zDc M_X8_note 44 (.iastore) 1 45 := ⟨by decide +kernel, rfl⟩
theorem d_X8_note_45 : zDc M_X8_note 45 (.aload_n 0) 1 46 := ⟨by decide +kernel, rfl⟩
theorem d_X8_note_46 : zDc M_X8_note 46 (.getfield 135) 3 49 := ⟨by decide +kernel, rfl⟩
theorem d_X8_note_49 : zDc M_X8_note 49 (.aload_n 0) 1 50 := ⟨by decide +kernel, rfl⟩
theorem d_X8_note_50 : zDc M_X8_note 50 (.getfield 304) 3 53 := ⟨by decide +kernel, rfl⟩
theorem d_X8_note_53 : zDc M_X8_note 53 (.bipush 6) 2 55 := ⟨by decide +kernel, rfl⟩
theorem d_X8_note_55 : zDc M_X8_note 55 (.iload_n 3) 1 56 := ⟨by decide +kernel, rfl⟩
theorem d_X8_note_56 : zDc M_X8_note 56 (.imul) 1 57 := ⟨by decide +kernel, rfl⟩
theorem d_X8_note_57 : zDc M_X8_note 57 (.iload_n 2) 1 58 := ⟨by decide +kernel, rfl⟩
theorem d_X8_note_58 : zDc M_X8_note 58 (.iadd) 1 59 := ⟨by decide +kernel, rfl⟩
theorem d_X8_note_59 : zDc M_X8_note 59 (.iastore) 1 60 := ⟨by decide +kernel, rfl⟩
theorem d_X8_note_60 : zDc M_X8_note 60 (.aload_n 0) 1 61 := ⟨by decide +kernel, rfl⟩
theorem d_X8_note_61 : zDc M_X8_note 61 (.getfield 138) 3 64 := ⟨by decide +kernel, rfl⟩
theorem d_X8_note_64 : zDc M_X8_note 64 (.aload_n 0) 1 65 := ⟨by decide +kernel, rfl⟩
theorem d_X8_note_65 : zDc M_X8_note 65 (.getfield 304) 3 68 := ⟨by decide +kernel, rfl⟩
theorem d_X8_note_68 : zDc M_X8_note 68 (.iload 4) 2 70 := ⟨by decide +kernel, rfl⟩
theorem d_X8_note_70 : zDc M_X8_note 70 (.bastore) 1 71 := ⟨by decide +kernel, rfl⟩
theorem d_X8_note_71 : zDc M_X8_note 71 (.aload_n 0) 1 72 := ⟨by decide +kernel, rfl⟩
theorem d_X8_note_72 : zDc M_X8_note 72 (.getfield 142) 3 75 := ⟨by decide +kernel, rfl⟩
theorem d_X8_note_75 : zDc M_X8_note 75 (.aload_n 0) 1 76 := ⟨by decide +kernel, rfl⟩
theorem d_X8_note_76 : zDc M_X8_note 76 (.getfield 304) 3 79 := ⟨by decide +kernel, rfl⟩
theorem d_X8_note_79 : zDc M_X8_note 79 (.iconst (-1)) 1 80 := ⟨by decide +kernel, rfl⟩
theorem d_X8_note_80 : zDc M_X8_note 80 (.iastore) 1 81 := ⟨by decide +kernel, rfl⟩
theorem d_X8_note_81 : zDc M_X8_note 81 (.aload_n 0) 1 82 := ⟨by decide +kernel, rfl⟩
theorem d_X8_note_82 : zDc M_X8_note 82 (.dup) 1 83 := ⟨by decide +kernel, rfl⟩
theorem d_X8_note_83 : zDc M_X8_note 83 (.getfield 304) 3 86 := ⟨by decide +kernel, rfl⟩
theorem d_X8_note_86 : zDc M_X8_note 86 (.iconst 1) 1 87 := ⟨by decide +kernel, rfl⟩
theorem d_X8_note_87 : zDc M_X8_note 87 (.iadd) 1 88 := ⟨by decide +kernel, rfl⟩
theorem d_X8_note_88 : zDc M_X8_note 88 (.putfield 304) 3 91 := ⟨by decide +kernel, rfl⟩
theorem d_X8_note_91 : zDc M_X8_note 91 (.aload_n 0) 1 92 := ⟨by decide +kernel, rfl⟩
theorem d_X8_note_92 : zDc M_X8_note 92 (.getfield 304) 3 95 := ⟨by decide +kernel, rfl⟩
theorem d_X8_note_95 : zDc M_X8_note 95 (.iconst 1) 1 96 := ⟨by decide +kernel, rfl⟩
theorem d_X8_note_96 : zDc M_X8_note 96 (.isub) 1 97 := ⟨by decide +kernel, rfl⟩
theorem d_X8_note_97 : zDc M_X8_note 97 (.ireturn) 1 98 := ⟨by decide +kernel, rfl⟩
def f_X8_note (a0 : Nat) (a1 : Int32) (a2 : Int32) (a3 : Int32) (a4 : Int32) (h0 : zHp) : Option (Int32 × zHp) :=
  zob (zpV h0 a0 8 0 (.int 0)) (fun h1 =>
  if a1 < 1 then
  some ((-1), h1)
  else
  if 40 < a1 then
  some ((-1), h1)
  else
  zbd ((f_X8_isCell a2 a3 h1)) (fun v3 h2 =>
  if v3 = 0 then
  some ((-1), h2)
  else
  zob (zgI h2 a0 8 61) (fun v4 =>
  if v4 = 24 then
  some ((-1), h2)
  else
  zob (zgR h2 a0 8 63) (fun v5 =>
  zob (zgI h2 a0 8 61) (fun v6 =>
  zob (zsI 0 h2 v5 v6 a1) (fun h7 =>
  zob (zgR h7 a0 8 64) (fun v8 =>
  zob (zgI h7 a0 8 61) (fun v9 =>
  zob (zsI 0 h7 v8 v9 ((6 * a3) + a2)) (fun h10 =>
  zob (zgR h10 a0 8 65) (fun v11 =>
  zob (zgI h10 a0 8 61) (fun v12 =>
  zob (zsI 2 h10 v11 v12 a4) (fun h13 =>
  zob (zgR h13 a0 8 66) (fun v14 =>
  zob (zgI h13 a0 8 61) (fun v15 =>
  zob (zsI 0 h13 v14 v15 (-1)) (fun h16 =>
  zob (zgI h16 a0 8 61) (fun v17 =>
  zob (zpV h16 a0 8 61 (.int (v17 + 1))) (fun h18 =>
  zob (zgI h18 a0 8 61) (fun v19 =>
  some ((v19 - 1), h18)))))))))))))))))))
set_option maxRecDepth 100000 in
set_option maxHeartbeats 4000000 in
theorem t_X8_note (a0 : Nat) (a1 : Int32) (a2 : Int32) (a3 : Int32) (a4 : Int32) (h0 : zHp) : ∀ (r : Int32) (h' : zHp), f_X8_note a0 a1 a2 a3 a4 h0 = some (r, h') → zCt yX8_note (.code yX8_note cX8_note 5 (some .int)) 2 81 0 0 [.ref a0, .int a1, .int a2, .int a3, .int a4] h0 (some (.int r)) h' := by
  refine zct_of M_X8_note yX8_note (by decide) rfl rfl [.ref a0, .int a1, .int a2, .int a3, .int a4] h0 (Nat.le_of_ble_eq_true rfl) (fun r => some (.int r)) (fun X => ?_)
  show zG X M_X8_note (0, 0) 0 [(0, .ref a0), (1, .int a1), (2, .int a2), (3, .int a3), (4, .int a4)] [] h0 (f_X8_note a0 a1 a2 a3 a4 h0) (fun (r : Int32) h' => zKe X (some (.int r)) h')
  unfold f_X8_note
  refine zg_aload_n 0 rfl d_X8_note_0 ?_
  refine zg_iconst 0 rfl d_X8_note_1 ?_
  refine zg_putV d_X8_note_2 zc_8 (by decide) fl_X8_151 rfl rfl rfl (fun h1 => ?_)
  refine zg_iload_n 1 rfl d_X8_note_5 ?_
  refine zg_iconst 1 rfl d_X8_note_6 ?_
  refine zg_icmp_lt d_X8_note_7 ?_ ?_
  · refine zg_iconst (-1) rfl d_X8_note_33 ?_
    exact zg_iretK d_X8_note_34 rfl ⟨Nat.le_of_ble_eq_true rfl, Nat.le_of_ble_eq_true rfl⟩ (fun q => q)
  · refine zg_iload_n 1 rfl d_X8_note_10 ?_
    refine zg_bipush 40 rfl d_X8_note_11 ?_
    refine zg_icmp_gt d_X8_note_13 ?_ ?_
    · refine zg_iconst (-1) rfl d_X8_note_33 ?_
      exact zg_iretK d_X8_note_34 rfl ⟨Nat.le_of_ble_eq_true rfl, Nat.le_of_ble_eq_true rfl⟩ (fun q => q)
    · refine zg_iload_n 2 rfl d_X8_note_16 ?_
      refine zg_iload_n 3 rfl d_X8_note_17 ?_
      refine zg_cSi (As := [.int a2, .int a3]) (rest := []) (0, 0) d_X8_note_18 cw_X8_378 wt_X8_isCell rfl rfl (Nat.le_of_ble_eq_true rfl) (by decide) (by decide) ⟨by decide, by decide⟩ rfl (t_X8_isCell a2 a3 h1) (fun v3 h2 => ?_)
      refine zg_if_eq d_X8_note_21 ?_ ?_
      · refine zg_iconst (-1) rfl d_X8_note_33 ?_
        exact zg_iretK d_X8_note_34 rfl ⟨Nat.le_of_ble_eq_true rfl, Nat.le_of_ble_eq_true rfl⟩ (fun q => q)
      · refine zg_aload_n 0 rfl d_X8_note_24 ?_
        refine zg_getI d_X8_note_25 zc_8 (by decide) fl_X8_304 (fun v4 => ?_)
        refine zg_bipush 24 rfl d_X8_note_28 ?_
        refine zg_icmp_ne d_X8_note_30 ?_ ?_
        · refine zg_iconst (-1) rfl d_X8_note_33 ?_
          exact zg_iretK d_X8_note_34 rfl ⟨Nat.le_of_ble_eq_true rfl, Nat.le_of_ble_eq_true rfl⟩ (fun q => q)
        · refine zg_aload_n 0 rfl d_X8_note_35 ?_
          refine zg_getR d_X8_note_36 zc_8 (by decide) fl_X8_132 (fun v5 => ?_)
          refine zg_aload_n 0 rfl d_X8_note_39 ?_
          refine zg_getI d_X8_note_40 zc_8 (by decide) fl_X8_304 (fun v6 => ?_)
          refine zg_iload_n 1 rfl d_X8_note_43 ?_
          refine zg_ast0 d_X8_note_44 (fun h7 => ?_)
          refine zg_aload_n 0 rfl d_X8_note_45 ?_
          refine zg_getR d_X8_note_46 zc_8 (by decide) fl_X8_135 (fun v8 => ?_)
          refine zg_aload_n 0 rfl d_X8_note_49 ?_
          refine zg_getI d_X8_note_50 zc_8 (by decide) fl_X8_304 (fun v9 => ?_)
          refine zg_bipush 6 rfl d_X8_note_53 ?_
          refine zg_iload_n 3 rfl d_X8_note_55 ?_
          refine zg_imul d_X8_note_56 ?_
          refine zg_iload_n 2 rfl d_X8_note_57 ?_
          refine zg_iadd d_X8_note_58 ?_
          refine zg_ast0 d_X8_note_59 (fun h10 => ?_)
          refine zg_aload_n 0 rfl d_X8_note_60 ?_
          refine zg_getR d_X8_note_61 zc_8 (by decide) fl_X8_138 (fun v11 => ?_)
          refine zg_aload_n 0 rfl d_X8_note_64 ?_
          refine zg_getI d_X8_note_65 zc_8 (by decide) fl_X8_304 (fun v12 => ?_)
          refine zg_iload 4 rfl d_X8_note_68 ?_
          refine zg_ast2 d_X8_note_70 (fun h13 => ?_)
          refine zg_aload_n 0 rfl d_X8_note_71 ?_
          refine zg_getR d_X8_note_72 zc_8 (by decide) fl_X8_142 (fun v14 => ?_)
          refine zg_aload_n 0 rfl d_X8_note_75 ?_
          refine zg_getI d_X8_note_76 zc_8 (by decide) fl_X8_304 (fun v15 => ?_)
          refine zg_iconst (-1) rfl d_X8_note_79 ?_
          refine zg_ast0 d_X8_note_80 (fun h16 => ?_)
          refine zg_aload_n 0 rfl d_X8_note_81 ?_
          refine zg_dup rfl d_X8_note_82 ?_
          refine zg_getI d_X8_note_83 zc_8 (by decide) fl_X8_304 (fun v17 => ?_)
          refine zg_iconst 1 rfl d_X8_note_86 ?_
          refine zg_iadd d_X8_note_87 ?_
          refine zg_putV d_X8_note_88 zc_8 (by decide) fl_X8_304 rfl rfl rfl (fun h18 => ?_)
          refine zg_aload_n 0 rfl d_X8_note_91 ?_
          refine zg_getI d_X8_note_92 zc_8 (by decide) fl_X8_304 (fun v19 => ?_)
          refine zg_iconst 1 rfl d_X8_note_95 ?_
          refine zg_isub d_X8_note_96 ?_
          exact zg_iretK d_X8_note_97 rfl ⟨Nat.le_of_ble_eq_true rfl, Nat.le_of_ble_eq_true rfl⟩ (fun q => q)
abbrev M_X8_out : zMt := (RX8, cX8_out, 2, 1, 60, (some .int), "out", 0, 0)
theorem d_X8_out_0 : zDc M_X8_out 0 (.aload_n 0) 1 1 := ⟨by decide +kernel, rfl⟩
theorem d_X8_out_1 : zDc M_X8_out 1 (.iconst 0) 1 2 := ⟨by decide +kernel, rfl⟩
theorem d_X8_out_2 : zDc M_X8_out 2 (.putfield 151) 3 5 := ⟨by decide +kernel, rfl⟩
theorem d_X8_out_5 : zDc M_X8_out 5 (.iload_n 1) 1 6 := ⟨by decide +kernel, rfl⟩
theorem d_X8_out_6 : zDj M_X8_out 6 (.ifCond .lt 20) 20 9 26 := ⟨by decide +kernel, rfl, by decide⟩
theorem d_X8_out_9 : zDc M_X8_out 9 (.iload_n 1) 1 10 := ⟨by decide +kernel, rfl⟩
theorem d_X8_out_10 : zDc M_X8_out 10 (.aload_n 0) 1 11 := ⟨by decide +kernel, rfl⟩
theorem d_X8_out_11 : zDc M_X8_out 11 (.getfield 304) 3 14 := ⟨by decide +kernel, rfl⟩
theorem d_X8_out_14 : zDj M_X8_out 14 (.if_icmp .ge 12) 12 17 26 := ⟨by decide +kernel, rfl, by decide⟩
theorem d_X8_out_17 : zDc M_X8_out 17 (.aload_n 0) 1 18 := ⟨by decide +kernel, rfl⟩
theorem d_X8_out_18 : zDc M_X8_out 18 (.getfield 304) 3 21 := ⟨by decide +kernel, rfl⟩
theorem d_X8_out_21 : zDc M_X8_out 21 (.bipush 24) 2 23 := ⟨by decide +kernel, rfl⟩
theorem d_X8_out_23 : zDj M_X8_out 23 (.if_icmp .ne 5) 5 26 28 := ⟨by decide +kernel, rfl, by decide⟩
theorem d_X8_out_26 : zDc M_X8_out 26 (.iconst (-1)) 1 27 := ⟨by decide +kernel, rfl⟩
theorem d_X8_out_27 : zDc M_X8_out 27 (.ireturn) 1 28 := ⟨by decide +kernel, rfl⟩
theorem d_X8_out_28 : zDc M_X8_out 28 (.aload_n 0) 1 29 := ⟨by decide +kernel, rfl⟩
theorem d_X8_out_29 : zDc M_X8_out 29 (.getfield 142) 3 32 := ⟨by decide +kernel, rfl⟩
theorem d_X8_out_32 : zDc M_X8_out 32 (.aload_n 0) 1 33 := ⟨by decide +kernel, rfl⟩
theorem d_X8_out_33 : zDc M_X8_out 33 (.getfield 304) 3 36 := ⟨by decide +kernel, rfl⟩
theorem d_X8_out_36 : zDc M_X8_out 36 (.iload_n 1) 1 37 := ⟨by decide +kernel, rfl⟩
theorem d_X8_out_37 : zDc M_X8_out 37 (.iastore) 1 38 := ⟨by decide +kernel, rfl⟩
theorem d_X8_out_38 : zDc M_X8_out 38 (.aload_n 0) 1 39 := ⟨by decide +kernel, rfl⟩
theorem d_X8_out_39 : zDc M_X8_out 39 (.dup) 1 40 := ⟨by decide +kernel, rfl⟩
theorem d_X8_out_40 : zDc M_X8_out 40 (.getfield 304) 3 43 := ⟨by decide +kernel, rfl⟩
theorem d_X8_out_43 : zDc M_X8_out 43 (.iconst 1) 1 44 := ⟨by decide +kernel, rfl⟩
theorem d_X8_out_44 : zDc M_X8_out 44 (.iadd) 1 45 := ⟨by decide +kernel, rfl⟩
theorem d_X8_out_45 : zDc M_X8_out 45 (.putfield 304) 3 48 := ⟨by decide +kernel, rfl⟩
theorem d_X8_out_48 : zDc M_X8_out 48 (.aload_n 0) 1 49 := ⟨by decide +kernel, rfl⟩
theorem d_X8_out_49 : zDc M_X8_out 49 (.getfield 304) 3 52 := ⟨by decide +kernel, rfl⟩
theorem d_X8_out_52 : zDc M_X8_out 52 (.iconst 1) 1 53 := ⟨by decide +kernel, rfl⟩
theorem d_X8_out_53 : zDc M_X8_out 53 (.isub) 1 54 := ⟨by decide +kernel, rfl⟩
theorem d_X8_out_54 : zDc M_X8_out 54 (.ireturn) 1 55 := ⟨by decide +kernel, rfl⟩
def f_X8_out (a0 : Nat) (a1 : Int32) (h0 : zHp) : Option (Int32 × zHp) :=
  zob (zpV h0 a0 8 0 (.int 0)) (fun h1 =>
  if a1 < 0 then
  some ((-1), h1)
  else
  zob (zgI h1 a0 8 61) (fun v2 =>
  if v2 ≤ a1 then
  some ((-1), h1)
  else
  zob (zgI h1 a0 8 61) (fun v3 =>
  if v3 = 24 then
  some ((-1), h1)
  else
  zob (zgR h1 a0 8 66) (fun v4 =>
  zob (zgI h1 a0 8 61) (fun v5 =>
  zob (zsI 0 h1 v4 v5 a1) (fun h6 =>
  zob (zgI h6 a0 8 61) (fun v7 =>
  zob (zpV h6 a0 8 61 (.int (v7 + 1))) (fun h8 =>
  zob (zgI h8 a0 8 61) (fun v9 =>
  some ((v9 - 1), h8))))))))))
set_option maxRecDepth 100000 in
set_option maxHeartbeats 4000000 in
theorem t_X8_out (a0 : Nat) (a1 : Int32) (h0 : zHp) : ∀ (r : Int32) (h' : zHp), f_X8_out a0 a1 h0 = some (r, h') → zCt yX8_out (.code yX8_out cX8_out 2 (some .int)) 1 60 0 0 [.ref a0, .int a1] h0 (some (.int r)) h' := by
  refine zct_of M_X8_out yX8_out (by decide) rfl rfl [.ref a0, .int a1] h0 (Nat.le_of_ble_eq_true rfl) (fun r => some (.int r)) (fun X => ?_)
  show zG X M_X8_out (0, 0) 0 [(0, .ref a0), (1, .int a1)] [] h0 (f_X8_out a0 a1 h0) (fun (r : Int32) h' => zKe X (some (.int r)) h')
  unfold f_X8_out
  refine zg_aload_n 0 rfl d_X8_out_0 ?_
  refine zg_iconst 0 rfl d_X8_out_1 ?_
  refine zg_putV d_X8_out_2 zc_8 (by decide) fl_X8_151 rfl rfl rfl (fun h1 => ?_)
  refine zg_iload_n 1 rfl d_X8_out_5 ?_
  refine zg_if_lt d_X8_out_6 ?_ ?_
  · refine zg_iconst (-1) rfl d_X8_out_26 ?_
    exact zg_iretK d_X8_out_27 rfl ⟨Nat.le_of_ble_eq_true rfl, Nat.le_of_ble_eq_true rfl⟩ (fun q => q)
  · refine zg_iload_n 1 rfl d_X8_out_9 ?_
    refine zg_aload_n 0 rfl d_X8_out_10 ?_
    refine zg_getI d_X8_out_11 zc_8 (by decide) fl_X8_304 (fun v2 => ?_)
    refine zg_icmp_ge d_X8_out_14 ?_ ?_
    · refine zg_iconst (-1) rfl d_X8_out_26 ?_
      exact zg_iretK d_X8_out_27 rfl ⟨Nat.le_of_ble_eq_true rfl, Nat.le_of_ble_eq_true rfl⟩ (fun q => q)
    · refine zg_aload_n 0 rfl d_X8_out_17 ?_
      refine zg_getI d_X8_out_18 zc_8 (by decide) fl_X8_304 (fun v3 => ?_)
      refine zg_bipush 24 rfl d_X8_out_21 ?_
      refine zg_icmp_ne d_X8_out_23 ?_ ?_
      · refine zg_iconst (-1) rfl d_X8_out_26 ?_
        exact zg_iretK d_X8_out_27 rfl ⟨Nat.le_of_ble_eq_true rfl, Nat.le_of_ble_eq_true rfl⟩ (fun q => q)
      · refine zg_aload_n 0 rfl d_X8_out_28 ?_
        refine zg_getR d_X8_out_29 zc_8 (by decide) fl_X8_142 (fun v4 => ?_)
        refine zg_aload_n 0 rfl d_X8_out_32 ?_
        refine zg_getI d_X8_out_33 zc_8 (by decide) fl_X8_304 (fun v5 => ?_)
        refine zg_iload_n 1 rfl d_X8_out_36 ?_
        refine zg_ast0 d_X8_out_37 (fun h6 => ?_)
        refine zg_aload_n 0 rfl d_X8_out_38 ?_
        refine zg_dup rfl d_X8_out_39 ?_
        refine zg_getI d_X8_out_40 zc_8 (by decide) fl_X8_304 (fun v7 => ?_)
        refine zg_iconst 1 rfl d_X8_out_43 ?_
        refine zg_iadd d_X8_out_44 ?_
        refine zg_putV d_X8_out_45 zc_8 (by decide) fl_X8_304 rfl rfl rfl (fun h8 => ?_)
        refine zg_aload_n 0 rfl d_X8_out_48 ?_
        refine zg_getI d_X8_out_49 zc_8 (by decide) fl_X8_304 (fun v9 => ?_)
        refine zg_iconst 1 rfl d_X8_out_52 ?_
        refine zg_isub d_X8_out_53 ?_
        exact zg_iretK d_X8_out_54 rfl ⟨Nat.le_of_ble_eq_true rfl, Nat.le_of_ble_eq_true rfl⟩ (fun q => q)
abbrev M_X8_push : zMt := (RX8, cX8_push, 4, 5, 151, (some .int), "push", 0, 0)
theorem d_X8_push_0 : zDc M_X8_push 0 (.aload_n 0) 1 1 := ⟨by decide +kernel, rfl⟩
theorem d_X8_push_1 : zDc M_X8_push 1 (.iconst 0) 1 2 := ⟨by decide +kernel, rfl⟩
theorem d_X8_push_2 : zDc M_X8_push 2 (.putfield 151) 3 5 := ⟨by decide +kernel, rfl⟩
theorem d_X8_push_5 : zDc M_X8_push 5 (.aload_n 0) 1 6 := ⟨by decide +kernel, rfl⟩
theorem d_X8_push_6 : zDc M_X8_push 6 (.iload_n 1) 1 7 := ⟨by decide +kernel, rfl⟩
theorem d_X8_push_7 : zDc M_X8_push 7 (.invokevirtual 425) 3 10 := ⟨by decide +kernel, rfl⟩
theorem d_X8_push_10 : zDj M_X8_push 10 (.ifCond .eq 13) 13 13 23 := ⟨by decide +kernel, rfl, by decide⟩
theorem d_X8_push_13 : zDc M_X8_push 13 (.iload_n 2) 1 14 := ⟨by decide +kernel, rfl⟩
theorem d_X8_push_14 : zDc M_X8_push 14 (.iconst 1) 1 15 := ⟨by decide +kernel, rfl⟩
theorem d_X8_push_15 : zDj M_X8_push 15 (.if_icmp .lt 8) 8 18 23 := ⟨by decide +kernel, rfl, by decide⟩
theorem d_X8_push_18 : zDc M_X8_push 18 (.iload_n 2) 1 19 := ⟨by decide +kernel, rfl⟩
theorem d_X8_push_19 : zDc M_X8_push 19 (.iconst 4) 1 20 := ⟨by decide +kernel, rfl⟩
theorem d_X8_push_20 : zDj M_X8_push 20 (.if_icmp .le 5) 5 23 25 := ⟨by decide +kernel, rfl, by decide⟩
theorem d_X8_push_23 : zDc M_X8_push 23 (.iconst (-1)) 1 24 := ⟨by decide +kernel, rfl⟩
theorem d_X8_push_24 : zDc M_X8_push 24 (.ireturn) 1 25 := ⟨by decide +kernel, rfl⟩
theorem d_X8_push_25 : zDc M_X8_push 25 (.aload_n 0) 1 26 := ⟨by decide +kernel, rfl⟩
theorem d_X8_push_26 : zDc M_X8_push 26 (.iconst 0) 1 27 := ⟨by decide +kernel, rfl⟩
theorem d_X8_push_27 : zDc M_X8_push 27 (.iload_n 1) 1 28 := ⟨by decide +kernel, rfl⟩
theorem d_X8_push_28 : zDc M_X8_push 28 (.invokevirtual 441) 3 31 := ⟨by decide +kernel, rfl⟩
theorem d_X8_push_31 : zDc M_X8_push 31 (.istore_n 3) 1 32 := ⟨by decide +kernel, rfl⟩
theorem d_X8_push_32 : zDc M_X8_push 32 (.iload_n 3) 1 33 := ⟨by decide +kernel, rfl⟩
theorem d_X8_push_33 : zDc M_X8_push 33 (.iconst (-1)) 1 34 := ⟨by decide +kernel, rfl⟩
theorem d_X8_push_34 : zDj M_X8_push 34 (.if_icmp .ne 6) 6 37 40 := ⟨by decide +kernel, rfl, by decide⟩
theorem d_X8_push_37 : zDc M_X8_push 37 (.bipush (-2)) 2 39 := ⟨by decide +kernel, rfl⟩
theorem d_X8_push_39 : zDc M_X8_push 39 (.ireturn) 1 40 := ⟨by decide +kernel, rfl⟩
theorem d_X8_push_40 : zDc M_X8_push 40 (.aload_n 0) 1 41 := ⟨by decide +kernel, rfl⟩
theorem d_X8_push_41 : zDc M_X8_push 41 (.invokevirtual 444) 3 44 := ⟨by decide +kernel, rfl⟩
theorem d_X8_push_44 : zDc M_X8_push 44 (.aload_n 0) 1 45 := ⟨by decide +kernel, rfl⟩
theorem d_X8_push_45 : zDc M_X8_push 45 (.iconst 0) 1 46 := ⟨by decide +kernel, rfl⟩
theorem d_X8_push_46 : zDc M_X8_push 46 (.iload_n 1) 1 47 := ⟨by decide +kernel, rfl⟩
theorem d_X8_push_47 : zDc M_X8_push 47 (.iload_n 2) 1 48 := ⟨by decide +kernel, rfl⟩
theorem d_X8_push_48 : zDc M_X8_push 48 (.invokevirtual 447) 3 51 := ⟨by decide +kernel, rfl⟩
theorem d_X8_push_51 : zDc M_X8_push 51 (.iload_n 3) 1 52 := ⟨by decide +kernel, rfl⟩
theorem d_X8_push_52 : zDc M_X8_push 52 (.ireturn) 1 53 := ⟨by decide +kernel, rfl⟩
def f_X8_push (a0 : Nat) (a1 : Int32) (a2 : Int32) (h0 : zHp) : Option (Int32 × zHp) :=
  zob (zpV h0 a0 8 0 (.int 0)) (fun h1 =>
  zbd (zcv 8 a0 h1 (f_X8_isChild a0 a1 h1)) (fun v3 h2 =>
  if v3 = 0 then
  some ((-1), h2)
  else
  if a2 < 1 then
  some ((-1), h2)
  else
  if a2 ≤ 4 then
  zbd (zcv 8 a0 h2 (f_X8_ownSeen a0 0 a1 h2)) (fun v5 h4 =>
  if v5 = (-1) then
  some ((-2), h4)
  else
  zbd (zcv 8 a0 h4 (f_X8_keepNow a0 h4)) (fun v7 h6 =>
  zbd (zcv 8 a0 h6 (f_X8_pushes a0 0 a1 a2 h6)) (fun v9 h8 =>
  some (v5, h8))))
  else
  some ((-1), h2)))
set_option maxRecDepth 100000 in
set_option maxHeartbeats 4000000 in
theorem t_X8_push (a0 : Nat) (a1 : Int32) (a2 : Int32) (h0 : zHp) : ∀ (r : Int32) (h' : zHp), f_X8_push a0 a1 a2 h0 = some (r, h') → zCt yX8_push (.code yX8_push cX8_push 4 (some .int)) 5 151 0 0 [.ref a0, .int a1, .int a2] h0 (some (.int r)) h' := by
  refine zct_of M_X8_push yX8_push (by decide) rfl rfl [.ref a0, .int a1, .int a2] h0 (Nat.le_of_ble_eq_true rfl) (fun r => some (.int r)) (fun X => ?_)
  show zG X M_X8_push (0, 0) 0 [(0, .ref a0), (1, .int a1), (2, .int a2)] [] h0 (f_X8_push a0 a1 a2 h0) (fun (r : Int32) h' => zKe X (some (.int r)) h')
  unfold f_X8_push
  refine zg_aload_n 0 rfl d_X8_push_0 ?_
  refine zg_iconst 0 rfl d_X8_push_1 ?_
  refine zg_putV d_X8_push_2 zc_8 (by decide) fl_X8_151 rfl rfl rfl (fun h1 => ?_)
  refine zg_aload_n 0 rfl d_X8_push_5 ?_
  refine zg_iload_n 1 rfl d_X8_push_6 ?_
  refine zg_cVi (b := a0) (As := [.int a1]) (rest := []) (0, 0) d_X8_push_7 zc_8 rfl cw_X8_425 wi_X8_isChild ws_X8_isChild rfl rfl (Nat.le_of_ble_eq_true rfl) (by decide) (by decide) ⟨by decide, by decide⟩ rfl (t_X8_isChild a0 a1 h1) (fun v3 h2 => ?_)
  refine zg_if_eq d_X8_push_10 ?_ ?_
  · refine zg_iconst (-1) rfl d_X8_push_23 ?_
    exact zg_iretK d_X8_push_24 rfl ⟨Nat.le_of_ble_eq_true rfl, Nat.le_of_ble_eq_true rfl⟩ (fun q => q)
  · refine zg_iload_n 2 rfl d_X8_push_13 ?_
    refine zg_iconst 1 rfl d_X8_push_14 ?_
    refine zg_icmp_lt d_X8_push_15 ?_ ?_
    · refine zg_iconst (-1) rfl d_X8_push_23 ?_
      exact zg_iretK d_X8_push_24 rfl ⟨Nat.le_of_ble_eq_true rfl, Nat.le_of_ble_eq_true rfl⟩ (fun q => q)
    · refine zg_iload_n 2 rfl d_X8_push_18 ?_
      refine zg_iconst 4 rfl d_X8_push_19 ?_
      refine zg_icmp_le d_X8_push_20 ?_ ?_
      · refine zg_aload_n 0 rfl d_X8_push_25 ?_
        refine zg_iconst 0 rfl d_X8_push_26 ?_
        refine zg_iload_n 1 rfl d_X8_push_27 ?_
        refine zg_cVi (b := a0) (As := [.int 0, .int a1]) (rest := []) (0, 0) d_X8_push_28 zc_8 rfl cw_X8_441 wi_X8_ownSeen ws_X8_ownSeen rfl rfl (Nat.le_of_ble_eq_true rfl) (by decide) (by decide) ⟨by decide, by decide⟩ rfl (t_X8_ownSeen a0 0 a1 h2) (fun v5 h4 => ?_)
        refine zg_istore_n [(3, .int v5), (0, .ref a0), (1, .int a1), (2, .int a2)] d_X8_push_31 rfl (by decide) rfl ?_
        refine zg_iload_n 0 rfl d_X8_push_32 ?_
        refine zg_iconst (-1) rfl d_X8_push_33 ?_
        refine zg_icmp_ne d_X8_push_34 ?_ ?_
        · refine zg_bipush (-2) rfl d_X8_push_37 ?_
          exact zg_iretK d_X8_push_39 rfl ⟨Nat.le_of_ble_eq_true rfl, Nat.le_of_ble_eq_true rfl⟩ (fun q => q)
        · refine zg_aload_n 1 rfl d_X8_push_40 ?_
          refine zg_cVv (b := a0) (As := []) (rest := []) (0, 0) d_X8_push_41 zc_8 rfl cw_X8_444 wi_X8_keepNow ws_X8_keepNow rfl rfl (Nat.le_of_ble_eq_true rfl) (by decide) (by decide) ⟨by decide, by decide⟩ rfl (t_X8_keepNow a0 h4) (fun v7 h6 => ?_)
          refine zg_aload_n 1 rfl d_X8_push_44 ?_
          refine zg_iconst 0 rfl d_X8_push_45 ?_
          refine zg_iload_n 2 rfl d_X8_push_46 ?_
          refine zg_iload_n 3 rfl d_X8_push_47 ?_
          refine zg_cVv (b := a0) (As := [.int 0, .int a1, .int a2]) (rest := []) (0, 0) d_X8_push_48 zc_8 rfl cw_X8_447 wi_X8_pushes ws_X8_pushes rfl rfl (Nat.le_of_ble_eq_true rfl) (by decide) (by decide) ⟨by decide, by decide⟩ rfl (t_X8_pushes a0 0 a1 a2 h6) (fun v9 h8 => ?_)
          refine zg_iload_n 0 rfl d_X8_push_51 ?_
          exact zg_iretK d_X8_push_52 rfl ⟨Nat.le_of_ble_eq_true rfl, Nat.le_of_ble_eq_true rfl⟩ (fun q => q)
      · refine zg_iconst (-1) rfl d_X8_push_23 ?_
        exact zg_iretK d_X8_push_24 rfl ⟨Nat.le_of_ble_eq_true rfl, Nat.le_of_ble_eq_true rfl⟩ (fun q => q)
abbrev M_X8_restOf : zMt := (RX8, cX8_restOf, 4, 2, 82, (some .int), "restOf", 0, 0)
theorem d_X8_restOf_0 : zDc M_X8_restOf 0 (.iconst 0) 1 1 := ⟨by decide +kernel, rfl⟩
theorem d_X8_restOf_1 : zDc M_X8_restOf 1 (.istore_n 2) 1 2 := ⟨by decide +kernel, rfl⟩
theorem d_X8_restOf_2 : zDc M_X8_restOf 2 (.iconst 0) 1 3 := ⟨by decide +kernel, rfl⟩
theorem d_X8_restOf_3 : zDc M_X8_restOf 3 (.istore_n 3) 1 4 := ⟨by decide +kernel, rfl⟩
theorem d_X8_restOf_4 : zDc M_X8_restOf 4 (.iload_n 3) 1 5 := ⟨by decide +kernel, rfl⟩
theorem d_X8_restOf_5 : zDc M_X8_restOf 5 (.bipush 25) 2 7 := ⟨by decide +kernel, rfl⟩
theorem d_X8_restOf_7 : zDj M_X8_restOf 7 (.if_icmp .ge 39) 39 10 46 := ⟨by decide +kernel, rfl, by decide⟩
theorem d_X8_restOf_10 : zDc M_X8_restOf 10 (.aload_n 0) 1 11 := ⟨by decide +kernel, rfl⟩
theorem d_X8_restOf_11 : zDc M_X8_restOf 11 (.iload_n 3) 1 12 := ⟨by decide +kernel, rfl⟩
theorem d_X8_restOf_12 : zDc M_X8_restOf 12 (.invokevirtual 495) 3 15 := ⟨by decide +kernel, rfl⟩
theorem d_X8_restOf_15 : zDj M_X8_restOf 15 (.ifCond .ne 6) 6 18 21 := ⟨by decide +kernel, rfl, by decide⟩
theorem d_X8_restOf_18 : zDj M_X8_restOf 18 (.goto 22) 22 21 40 := ⟨by decide +kernel, rfl, by decide⟩
theorem d_X8_restOf_21 : zDc M_X8_restOf 21 (.iload_n 2) 1 22 := ⟨by decide +kernel, rfl⟩
theorem d_X8_restOf_22 : zDc M_X8_restOf 22 (.iload_n 1) 1 23 := ⟨by decide +kernel, rfl⟩
theorem d_X8_restOf_23 : zDj M_X8_restOf 23 (.if_icmp .ne 14) 14 26 37 := ⟨by decide +kernel, rfl, by decide⟩
theorem d_X8_restOf_26 : zDc M_X8_restOf 26 (.bipush 10) 2 28 := ⟨by decide +kernel, rfl⟩
theorem d_X8_restOf_28 : zDc M_X8_restOf 28 (.iload_n 3) 1 29 := ⟨by decide +kernel, rfl⟩
theorem d_X8_restOf_29 : zDc M_X8_restOf 29 (.iconst 5) 1 30 := ⟨by decide +kernel, rfl⟩
theorem d_X8_restOf_30 : zDc M_X8_restOf 30 (.idiv) 1 31 := ⟨by decide +kernel, rfl⟩
theorem d_X8_restOf_31 : zDc M_X8_restOf 31 (.imul) 1 32 := ⟨by decide +kernel, rfl⟩
theorem d_X8_restOf_32 : zDc M_X8_restOf 32 (.iload_n 3) 1 33 := ⟨by decide +kernel, rfl⟩
theorem d_X8_restOf_33 : zDc M_X8_restOf 33 (.iconst 5) 1 34 := ⟨by decide +kernel, rfl⟩
theorem d_X8_restOf_34 : zDc M_X8_restOf 34 (.irem) 1 35 := ⟨by decide +kernel, rfl⟩
theorem d_X8_restOf_35 : zDc M_X8_restOf 35 (.iadd) 1 36 := ⟨by decide +kernel, rfl⟩
theorem d_X8_restOf_36 : zDc M_X8_restOf 36 (.ireturn) 1 37 := ⟨by decide +kernel, rfl⟩
theorem d_X8_restOf_37 : zDc M_X8_restOf 37 (.iinc 2 1) 3 40 := ⟨by decide +kernel, rfl⟩
theorem d_X8_restOf_40 : zDc M_X8_restOf 40 (.iinc 3 1) 3 43 := ⟨by decide +kernel, rfl⟩
theorem d_X8_restOf_43 : zDj M_X8_restOf 43 (.goto (-39)) (-39) 46 4 := ⟨by decide +kernel, rfl, by decide⟩
theorem d_X8_restOf_46 : zDc M_X8_restOf 46 (.iload_n 1) 1 47 := ⟨by decide +kernel, rfl⟩
theorem d_X8_restOf_47 : zDc M_X8_restOf 47 (.iconst (-1)) 1 48 := ⟨by decide +kernel, rfl⟩
theorem d_X8_restOf_48 : zDj M_X8_restOf 48 (.if_icmp .ne 7) 7 51 55 := ⟨by decide +kernel, rfl, by decide⟩
theorem d_X8_restOf_51 : zDc M_X8_restOf 51 (.iload_n 2) 1 52 := ⟨by decide +kernel, rfl⟩
theorem d_X8_restOf_52 : zDj M_X8_restOf 52 (.goto 5) 5 55 57 := ⟨by decide +kernel, rfl, by decide⟩
theorem d_X8_restOf_55 : zDc M_X8_restOf 55 (.bipush (-2)) 2 57 := ⟨by decide +kernel, rfl⟩
theorem d_X8_restOf_57 : zDc M_X8_restOf 57 (.ireturn) 1 58 := ⟨by decide +kernel, rfl⟩
def f_X8_restOf (a0 : Nat) (a1 : Int32) (h0 : zHp) : Option (Int32 × zHp) :=
  zbd (
  zlp (σ := (Int32 × Int32)) (β := ((Int32 × Int32) ⊕ Int32)) zLF (fun s1 h2 =>
  if 25 ≤ s1.2 then
  some ((.inr (.inl (s1.1, s1.2))), h2)
  else
  zbd (zcv 8 a0 h2 (f_X8_isRest a0 s1.2 h2)) (fun v6 h5 =>
  if v6 = 0 then
  some ((.inl (s1.1, (s1.2 + 1))), h5)
  else
  if s1.1 = a1 then
  some ((.inr (.inr ((10 * (s1.2 / 5)) + (zrm s1.2 5)))), h5)
  else
  some ((.inl ((s1.1 + 1), (s1.2 + 1))), h5))) (0, 0) h0) (fun b7 h4 => zsl b7 (fun e3 =>
  if a1 = (-1) then
  some (e3.1, h4)
  else
  some ((-2), h4)) (fun r => some (r, h4)))
set_option maxRecDepth 100000 in
set_option maxHeartbeats 4000000 in
theorem t_X8_restOf (a0 : Nat) (a1 : Int32) (h0 : zHp) : ∀ (r : Int32) (h' : zHp), f_X8_restOf a0 a1 h0 = some (r, h') → zCt yX8_restOf (.code yX8_restOf cX8_restOf 4 (some .int)) 2 82 0 0 [.ref a0, .int a1] h0 (some (.int r)) h' := by
  refine zct_of M_X8_restOf yX8_restOf (by decide) rfl rfl [.ref a0, .int a1] h0 (Nat.le_of_ble_eq_true rfl) (fun r => some (.int r)) (fun X => ?_)
  show zG X M_X8_restOf (0, 0) 0 [(0, .ref a0), (1, .int a1)] [] h0 (f_X8_restOf a0 a1 h0) (fun (r : Int32) h' => zKe X (some (.int r)) h')
  unfold f_X8_restOf
  refine zg_iconst 0 rfl d_X8_restOf_0 ?_
  refine zg_istore_n [(2, .int 0), (0, .ref a0), (1, .int a1)] d_X8_restOf_1 rfl (by decide) rfl ?_
  refine zg_iconst 0 rfl d_X8_restOf_2 ?_
  refine zg_istore_n [(3, .int 0), (2, .int 0), (0, .ref a0), (1, .int a1)] d_X8_restOf_3 rfl (by decide) rfl ?_
  refine zg_bdr (E := 46) (el := (fun (e3 : (Int32 × Int32)) => [(0, .ref a0), (1, .int a1), (2, .int e3.1), (3, .int e3.2)])) (es := fun _ => []) (zg_sub [2, 3, 1, 0] rfl (zg_lp (el := (fun (s1 : (Int32 × Int32)) => [(0, .ref a0), (1, .int a1), (2, .int s1.1), (3, .int s1.2)])) (fun s1 h2 => ?_) (0, 0) h0)) (fun e3 h4 => ?_)
  · refine zg_iload_n 3 rfl d_X8_restOf_4 ?_
    refine zg_bipush 25 rfl d_X8_restOf_5 ?_
    refine zg_icmp_ge d_X8_restOf_7 ?_ ?_
    · exact zg_finK (E := 0) [0, 1, 2, 3] rfl rfl (fun q => q)
    · refine zg_aload_n 0 rfl d_X8_restOf_10 ?_
      refine zg_iload_n 3 rfl d_X8_restOf_11 ?_
      refine zg_cVi (b := a0) (As := [.int s1.2]) (rest := []) (0, 0) d_X8_restOf_12 zc_8 rfl cw_X8_495 wi_X8_isRest ws_X8_isRest rfl rfl (Nat.le_of_ble_eq_true rfl) (by decide) (by decide) ⟨by decide, by decide⟩ rfl (t_X8_isRest a0 s1.2 h2) (fun v6 h5 => ?_)
      refine zg_if_ne d_X8_restOf_15 ?_ ?_
      · refine zg_goto d_X8_restOf_18 ?_
        refine zg_iinc 3 (s1.2 + 1) [(3, .int (s1.2 + 1)), (0, .ref a0), (1, .int a1), (2, .int s1.1)] d_X8_restOf_40 rfl rfl (by decide) rfl ?_
        refine zg_goto d_X8_restOf_43 ?_
        exact zg_finK (E := 0) [1, 2, 3, 0] rfl rfl (fun q => q)
      · refine zg_iload_n 2 rfl d_X8_restOf_21 ?_
        refine zg_iload_n 1 rfl d_X8_restOf_22 ?_
        refine zg_icmp_ne d_X8_restOf_23 ?_ ?_
        · refine zg_bipush 10 rfl d_X8_restOf_26 ?_
          refine zg_iload_n 3 rfl d_X8_restOf_28 ?_
          refine zg_iconst 5 rfl d_X8_restOf_29 ?_
          refine zg_idiv (by decide) d_X8_restOf_30 ?_
          refine zg_imul d_X8_restOf_31 ?_
          refine zg_iload_n 3 rfl d_X8_restOf_32 ?_
          refine zg_iconst 5 rfl d_X8_restOf_33 ?_
          refine zg_irem (by decide) d_X8_restOf_34 ?_
          refine zg_iadd d_X8_restOf_35 ?_
          exact zg_iretK d_X8_restOf_36 rfl ⟨Nat.le_of_ble_eq_true rfl, Nat.le_of_ble_eq_true rfl⟩ (fun q => q)
        · refine zg_iinc 2 (s1.1 + 1) [(2, .int (s1.1 + 1)), (0, .ref a0), (1, .int a1), (3, .int s1.2)] d_X8_restOf_37 rfl rfl (by decide) rfl ?_
          refine zg_iinc 3 (s1.2 + 1) [(3, .int (s1.2 + 1)), (2, .int (s1.1 + 1)), (0, .ref a0), (1, .int a1)] d_X8_restOf_40 rfl rfl (by decide) rfl ?_
          refine zg_goto d_X8_restOf_43 ?_
          exact zg_finK (E := 0) [2, 3, 1, 0] rfl rfl (fun q => q)
  · refine zg_iload_n 1 rfl d_X8_restOf_46 ?_
    refine zg_iconst (-1) rfl d_X8_restOf_47 ?_
    refine zg_icmp_ne d_X8_restOf_48 ?_ ?_
    · refine zg_iload_n 2 rfl d_X8_restOf_51 ?_
      refine zg_goto d_X8_restOf_52 ?_
      exact zg_iretK d_X8_restOf_57 rfl ⟨Nat.le_of_ble_eq_true rfl, Nat.le_of_ble_eq_true rfl⟩ (fun q => q)
    · refine zg_bipush (-2) rfl d_X8_restOf_55 ?_
      exact zg_iretK d_X8_restOf_57 rfl ⟨Nat.le_of_ble_eq_true rfl, Nat.le_of_ble_eq_true rfl⟩ (fun q => q)
abbrev M_X8_sees : zMt := (RX8, cX8_sees, 4, 3, 104, (some .int), "sees", 0, 0)
theorem d_X8_sees_0 : zDc M_X8_sees 0 (.aload_n 0) 1 1 := ⟨by decide +kernel, rfl⟩
theorem d_X8_sees_1 : zDc M_X8_sees 1 (.iconst 0) 1 2 := ⟨by decide +kernel, rfl⟩
theorem d_X8_sees_2 : zDc M_X8_sees 2 (.putfield 151) 3 5 := ⟨by decide +kernel, rfl⟩
theorem d_X8_sees_5 : zDc M_X8_sees 5 (.aload_n 0) 1 6 := ⟨by decide +kernel, rfl⟩
theorem d_X8_sees_6 : zDc M_X8_sees 6 (.iload_n 1) 1 7 := ⟨by decide +kernel, rfl⟩
theorem d_X8_sees_7 : zDc M_X8_sees 7 (.invokevirtual 425) 3 10 := ⟨by decide +kernel, rfl⟩
theorem d_X8_sees_10 : zDj M_X8_sees 10 (.ifCond .ne 5) 5 13 15 := ⟨by decide +kernel, rfl, by decide⟩
theorem d_X8_sees_13 : zDc M_X8_sees 13 (.iconst (-1)) 1 14 := ⟨by decide +kernel, rfl⟩
theorem d_X8_sees_14 : zDc M_X8_sees 14 (.ireturn) 1 15 := ⟨by decide +kernel, rfl⟩
theorem d_X8_sees_15 : zDc M_X8_sees 15 (.iconst 0) 1 16 := ⟨by decide +kernel, rfl⟩
theorem d_X8_sees_16 : zDc M_X8_sees 16 (.istore_n 2) 1 17 := ⟨by decide +kernel, rfl⟩
theorem d_X8_sees_17 : zDc M_X8_sees 17 (.iconst 0) 1 18 := ⟨by decide +kernel, rfl⟩
theorem d_X8_sees_18 : zDc M_X8_sees 18 (.istore_n 3) 1 19 := ⟨by decide +kernel, rfl⟩
theorem d_X8_sees_19 : zDc M_X8_sees 19 (.iload_n 3) 1 20 := ⟨by decide +kernel, rfl⟩
theorem d_X8_sees_20 : zDc M_X8_sees 20 (.aload_n 0) 1 21 := ⟨by decide +kernel, rfl⟩
theorem d_X8_sees_21 : zDc M_X8_sees 21 (.getfield 13) 3 24 := ⟨by decide +kernel, rfl⟩
theorem d_X8_sees_24 : zDc M_X8_sees 24 (.iconst 1) 1 25 := ⟨by decide +kernel, rfl⟩
theorem d_X8_sees_25 : zDc M_X8_sees 25 (.iaload) 1 26 := ⟨by decide +kernel, rfl⟩
theorem d_X8_sees_26 : zDj M_X8_sees 26 (.if_icmp .ge 43) 43 29 69 := ⟨by decide +kernel, rfl, by decide⟩
theorem d_X8_sees_29 : zDc M_X8_sees 29 (.iload_n 2) 1 30 := ⟨by decide +kernel, rfl⟩
theorem d_X8_sees_30 : zDc M_X8_sees 30 (.aload_n 0) 1 31 := ⟨by decide +kernel, rfl⟩
theorem d_X8_sees_31 : zDc M_X8_sees 31 (.iconst 0) 1 32 := ⟨by decide +kernel, rfl⟩
theorem d_X8_sees_32 : zDc M_X8_sees 32 (.iload_n 3) 1 33 := ⟨by decide +kernel, rfl⟩
theorem d_X8_sees_33 : zDc M_X8_sees 33 (.invokevirtual 351) 3 36 := ⟨by decide +kernel, rfl⟩
theorem d_X8_sees_36 : zDj M_X8_sees 36 (.ifCond .eq 24) 24 39 60 := ⟨by decide +kernel, rfl, by decide⟩
theorem d_X8_sees_39 : zDc M_X8_sees 39 (.aload_n 0) 1 40 := ⟨by decide +kernel, rfl⟩
theorem d_X8_sees_40 : zDc M_X8_sees 40 (.iconst 0) 1 41 := ⟨by decide +kernel, rfl⟩
theorem d_X8_sees_41 : zDc M_X8_sees 41 (.iload_n 1) 1 42 := ⟨by decide +kernel, rfl⟩
theorem d_X8_sees_42 : zDc M_X8_sees 42 (.aload_n 0) 1 43 := ⟨by decide +kernel, rfl⟩
theorem d_X8_sees_43 : zDc M_X8_sees 43 (.getfield 81) 3 46 := ⟨by decide +kernel, rfl⟩
theorem d_X8_sees_46 : zDc M_X8_sees 46 (.iload_n 3) 1 47 := ⟨by decide +kernel, rfl⟩
theorem d_X8_sees_47 : zDc M_X8_sees 47 (.iaload) 1 48 := ⟨by decide +kernel, rfl⟩
theorem d_X8_sees_48 : zDc M_X8_sees 48 (.invokevirtual 390) 3 51 := ⟨by decide +kernel, rfl⟩
theorem d_X8_sees_51 : zDj M_X8_sees 51 (.ifCond .eq 9) 9 54 60 := ⟨by decide +kernel, rfl, by decide⟩
theorem d_X8_sees_54 : zDc M_X8_sees 54 (.iconst 1) 1 55 := ⟨by decide +kernel, rfl⟩
theorem d_X8_sees_55 : zDc M_X8_sees 55 (.iload_n 3) 1 56 := ⟨by decide +kernel, rfl⟩
theorem d_X8_sees_56 : zDc M_X8_sees 56 (.ishl) 1 57 := ⟨by decide +kernel, rfl⟩
theorem d_X8_sees_57 : zDj M_X8_sees 57 (.goto 4) 4 60 61 := ⟨by decide +kernel, rfl, by decide⟩
theorem d_X8_sees_60 : zDc M_X8_sees 60 (.iconst 0) 1 61 := ⟨by decide +kernel, rfl⟩
theorem d_X8_sees_61 : zDc M_X8_sees 61 (.ior) 1 62 := ⟨by decide +kernel, rfl⟩
theorem d_X8_sees_62 : zDc M_X8_sees 62 (.istore_n 2) 1 63 := ⟨by decide +kernel, rfl⟩
theorem d_X8_sees_63 : zDc M_X8_sees 63 (.iinc 3 1) 3 66 := ⟨by decide +kernel, rfl⟩
theorem d_X8_sees_66 : zDj M_X8_sees 66 (.goto (-47)) (-47) 69 19 := ⟨by decide +kernel, rfl, by decide⟩
theorem d_X8_sees_69 : zDc M_X8_sees 69 (.iload_n 2) 1 70 := ⟨by decide +kernel, rfl⟩
theorem d_X8_sees_70 : zDc M_X8_sees 70 (.ireturn) 1 71 := ⟨by decide +kernel, rfl⟩
def f_X8_sees (a0 : Nat) (a1 : Int32) (h0 : zHp) : Option (Int32 × zHp) :=
  zob (zpV h0 a0 8 0 (.int 0)) (fun h1 =>
  zbd (zcv 8 a0 h1 (f_X8_isChild a0 a1 h1)) (fun v3 h2 =>
  if v3 = 0 then
  some ((-1), h2)
  else
  zbd (
  zlp (σ := (Int32 × Int32)) (β := (Int32 × Int32)) zLF (fun s4 h5 =>
  zob (zgR h5 a0 8 3) (fun v8 =>
  zob (zaI 0 h5 v8 1) (fun v9 =>
  if v9 ≤ s4.2 then
  some ((.inr (s4.1, s4.2)), h5)
  else
  zbd (zcv 8 a0 h5 (f_X8_isUp a0 0 s4.2 h5)) (fun v11 h10 =>
  if v11 = 0 then
  some ((.inl ((s4.1 ||| 0), (s4.2 + 1))), h10)
  else
  zob (zgR h10 a0 8 38) (fun v12 =>
  zob (zaI 0 h10 v12 s4.2) (fun v13 =>
  zbd (zcv 8 a0 h10 (f_X8_doesSee a0 0 a1 v13 h10)) (fun v15 h14 =>
  if v15 = 0 then
  some ((.inl ((s4.1 ||| 0), (s4.2 + 1))), h14)
  else
  some ((.inl ((s4.1 ||| (1 <<< (s4.2 &&& 31))), (s4.2 + 1))), h14)))))))) (0, 0) h2) (fun e6 h7 =>
  some (e6.1, h7))))
set_option maxRecDepth 100000 in
set_option maxHeartbeats 4000000 in
theorem t_X8_sees (a0 : Nat) (a1 : Int32) (h0 : zHp) : ∀ (r : Int32) (h' : zHp), f_X8_sees a0 a1 h0 = some (r, h') → zCt yX8_sees (.code yX8_sees cX8_sees 4 (some .int)) 3 104 0 0 [.ref a0, .int a1] h0 (some (.int r)) h' := by
  refine zct_of M_X8_sees yX8_sees (by decide) rfl rfl [.ref a0, .int a1] h0 (Nat.le_of_ble_eq_true rfl) (fun r => some (.int r)) (fun X => ?_)
  show zG X M_X8_sees (0, 0) 0 [(0, .ref a0), (1, .int a1)] [] h0 (f_X8_sees a0 a1 h0) (fun (r : Int32) h' => zKe X (some (.int r)) h')
  unfold f_X8_sees
  refine zg_aload_n 0 rfl d_X8_sees_0 ?_
  refine zg_iconst 0 rfl d_X8_sees_1 ?_
  refine zg_putV d_X8_sees_2 zc_8 (by decide) fl_X8_151 rfl rfl rfl (fun h1 => ?_)
  refine zg_aload_n 0 rfl d_X8_sees_5 ?_
  refine zg_iload_n 1 rfl d_X8_sees_6 ?_
  refine zg_cVi (b := a0) (As := [.int a1]) (rest := []) (0, 0) d_X8_sees_7 zc_8 rfl cw_X8_425 wi_X8_isChild ws_X8_isChild rfl rfl (Nat.le_of_ble_eq_true rfl) (by decide) (by decide) ⟨by decide, by decide⟩ rfl (t_X8_isChild a0 a1 h1) (fun v3 h2 => ?_)
  refine zg_if_ne d_X8_sees_10 ?_ ?_
  · refine zg_iconst (-1) rfl d_X8_sees_13 ?_
    exact zg_iretK d_X8_sees_14 rfl ⟨Nat.le_of_ble_eq_true rfl, Nat.le_of_ble_eq_true rfl⟩ (fun q => q)
  · refine zg_iconst 0 rfl d_X8_sees_15 ?_
    refine zg_istore_n [(2, .int 0), (0, .ref a0), (1, .int a1)] d_X8_sees_16 rfl (by decide) rfl ?_
    refine zg_iconst 0 rfl d_X8_sees_17 ?_
    refine zg_istore_n [(3, .int 0), (2, .int 0), (0, .ref a0), (1, .int a1)] d_X8_sees_18 rfl (by decide) rfl ?_
    refine zg_bd (E := 69) (el := (fun (e6 : (Int32 × Int32)) => [(0, .ref a0), (1, .int a1), (2, .int e6.1), (3, .int e6.2)])) (es := fun _ => []) (zg_sub [2, 3, 1, 0] rfl (zg_lp (el := (fun (s4 : (Int32 × Int32)) => [(0, .ref a0), (1, .int a1), (2, .int s4.1), (3, .int s4.2)])) (fun s4 h5 => ?_) (0, 0) h2)) (fun e6 h7 => ?_)
    · refine zg_iload_n 3 rfl d_X8_sees_19 ?_
      refine zg_aload_n 0 rfl d_X8_sees_20 ?_
      refine zg_getR d_X8_sees_21 zc_8 (by decide) fl_X8_13 (fun v8 => ?_)
      refine zg_iconst 1 rfl d_X8_sees_24 ?_
      refine zg_ald0 d_X8_sees_25 (fun v9 => ?_)
      refine zg_icmp_ge d_X8_sees_26 ?_ ?_
      · exact zg_finK (E := 0) [0, 1, 2, 3] rfl rfl (fun q => q)
      · refine zg_iload_n 2 rfl d_X8_sees_29 ?_
        refine zg_aload_n 0 rfl d_X8_sees_30 ?_
        refine zg_iconst 0 rfl d_X8_sees_31 ?_
        refine zg_iload_n 3 rfl d_X8_sees_32 ?_
        refine zg_cVi (b := a0) (As := [.int 0, .int s4.2]) (rest := [.int s4.1]) (0, 0) d_X8_sees_33 zc_8 rfl cw_X8_351 wi_X8_isUp ws_X8_isUp rfl rfl (Nat.le_of_ble_eq_true rfl) (by decide) (by decide) ⟨by decide, by decide⟩ rfl (t_X8_isUp a0 0 s4.2 h5) (fun v11 h10 => ?_)
        refine zg_if_eq d_X8_sees_36 ?_ ?_
        · refine zg_iconst 0 rfl d_X8_sees_60 ?_
          refine zg_ior d_X8_sees_61 ?_
          refine zg_istore_n [(2, .int (s4.1 ||| 0)), (0, .ref a0), (1, .int a1), (3, .int s4.2)] d_X8_sees_62 rfl (by decide) rfl ?_
          refine zg_iinc 3 (s4.2 + 1) [(3, .int (s4.2 + 1)), (2, .int (s4.1 ||| 0)), (0, .ref a0), (1, .int a1)] d_X8_sees_63 rfl rfl (by decide) rfl ?_
          refine zg_goto d_X8_sees_66 ?_
          exact zg_finK (E := 0) [2, 3, 1, 0] rfl rfl (fun q => q)
        · refine zg_aload_n 0 rfl d_X8_sees_39 ?_
          refine zg_iconst 0 rfl d_X8_sees_40 ?_
          refine zg_iload_n 1 rfl d_X8_sees_41 ?_
          refine zg_aload_n 0 rfl d_X8_sees_42 ?_
          refine zg_getR d_X8_sees_43 zc_8 (by decide) fl_X8_81 (fun v12 => ?_)
          refine zg_iload_n 3 rfl d_X8_sees_46 ?_
          refine zg_ald0 d_X8_sees_47 (fun v13 => ?_)
          refine zg_cVi (b := a0) (As := [.int 0, .int a1, .int v13]) (rest := [.int s4.1]) (0, 0) d_X8_sees_48 zc_8 rfl cw_X8_390 wi_X8_doesSee ws_X8_doesSee rfl rfl (Nat.le_of_ble_eq_true rfl) (by decide) (by decide) ⟨by decide, by decide⟩ rfl (t_X8_doesSee a0 0 a1 v13 h10) (fun v15 h14 => ?_)
          refine zg_if_eq d_X8_sees_51 ?_ ?_
          · refine zg_iconst 0 rfl d_X8_sees_60 ?_
            refine zg_ior d_X8_sees_61 ?_
            refine zg_istore_n [(2, .int (s4.1 ||| 0)), (0, .ref a0), (1, .int a1), (3, .int s4.2)] d_X8_sees_62 rfl (by decide) rfl ?_
            refine zg_iinc 3 (s4.2 + 1) [(3, .int (s4.2 + 1)), (2, .int (s4.1 ||| 0)), (0, .ref a0), (1, .int a1)] d_X8_sees_63 rfl rfl (by decide) rfl ?_
            refine zg_goto d_X8_sees_66 ?_
            exact zg_finK (E := 0) [2, 3, 1, 0] rfl rfl (fun q => q)
          · refine zg_iconst 1 rfl d_X8_sees_54 ?_
            refine zg_iload_n 3 rfl d_X8_sees_55 ?_
            refine zg_ishl d_X8_sees_56 ?_
            refine zg_goto d_X8_sees_57 ?_
            refine zg_ior d_X8_sees_61 ?_
            refine zg_istore_n [(2, .int (s4.1 ||| (1 <<< (s4.2 &&& 31)))), (0, .ref a0), (1, .int a1), (3, .int s4.2)] d_X8_sees_62 rfl (by decide) rfl ?_
            refine zg_iinc 3 (s4.2 + 1) [(3, .int (s4.2 + 1)), (2, .int (s4.1 ||| (1 <<< (s4.2 &&& 31)))), (0, .ref a0), (1, .int a1)] d_X8_sees_63 rfl rfl (by decide) rfl ?_
            refine zg_goto d_X8_sees_66 ?_
            exact zg_finK (E := 0) [2, 3, 1, 0] rfl rfl (fun q => q)
    · refine zg_iload_n 2 rfl d_X8_sees_69 ?_
      exact zg_iretK d_X8_sees_70 rfl ⟨Nat.le_of_ble_eq_true rfl, Nat.le_of_ble_eq_true rfl⟩ (fun q => q)
abbrev M_X8_stand : zMt := (RX8, cX8_stand, 4, 3, 106, (some .boolean), "stand", 0, 0)
theorem d_X8_stand_0 : zDc M_X8_stand 0 (.aload_n 0) 1 1 := ⟨by decide +kernel, rfl⟩
theorem d_X8_stand_1 : zDc M_X8_stand 1 (.iconst 0) 1 2 := ⟨by decide +kernel, rfl⟩
theorem d_X8_stand_2 : zDc M_X8_stand 2 (.putfield 151) 3 5 := ⟨by decide +kernel, rfl⟩
theorem d_X8_stand_5 : zDc M_X8_stand 5 (.aload_n 0) 1 6 := ⟨by decide +kernel, rfl⟩
theorem d_X8_stand_6 : zDc M_X8_stand 6 (.iload_n 1) 1 7 := ⟨by decide +kernel, rfl⟩
theorem d_X8_stand_7 : zDc M_X8_stand 7 (.invokevirtual 425) 3 10 := ⟨by decide +kernel, rfl⟩
theorem d_X8_stand_10 : zDj M_X8_stand 10 (.ifCond .eq 26) 26 13 36 := ⟨by decide +kernel, rfl, by decide⟩
theorem d_X8_stand_13 : zDc M_X8_stand 13 (.iload_n 2) 1 14 := ⟨by decide +kernel, rfl⟩
theorem d_X8_stand_14 : zDc M_X8_stand 14 (.iload_n 3) 1 15 := ⟨by decide +kernel, rfl⟩
theorem d_X8_stand_15 : zDc M_X8_stand 15 (.invokestatic 378) 3 18 := ⟨by decide +kernel, rfl⟩
theorem d_X8_stand_18 : zDj M_X8_stand 18 (.ifCond .eq 18) 18 21 36 := ⟨by decide +kernel, rfl, by decide⟩
theorem d_X8_stand_21 : zDc M_X8_stand 21 (.aload_n 0) 1 22 := ⟨by decide +kernel, rfl⟩
theorem d_X8_stand_22 : zDc M_X8_stand 22 (.getfield 96) 3 25 := ⟨by decide +kernel, rfl⟩
theorem d_X8_stand_25 : zDc M_X8_stand 25 (.iload_n 1) 1 26 := ⟨by decide +kernel, rfl⟩
theorem d_X8_stand_26 : zDc M_X8_stand 26 (.iaload) 1 27 := ⟨by decide +kernel, rfl⟩
theorem d_X8_stand_27 : zDc M_X8_stand 27 (.bipush 6) 2 29 := ⟨by decide +kernel, rfl⟩
theorem d_X8_stand_29 : zDc M_X8_stand 29 (.iload_n 3) 1 30 := ⟨by decide +kernel, rfl⟩
theorem d_X8_stand_30 : zDc M_X8_stand 30 (.imul) 1 31 := ⟨by decide +kernel, rfl⟩
theorem d_X8_stand_31 : zDc M_X8_stand 31 (.iload_n 2) 1 32 := ⟨by decide +kernel, rfl⟩
theorem d_X8_stand_32 : zDc M_X8_stand 32 (.iadd) 1 33 := ⟨by decide +kernel, rfl⟩
theorem d_X8_stand_33 : zDj M_X8_stand 33 (.if_icmp .ne 5) 5 36 38 := ⟨by decide +kernel, rfl, by decide⟩
theorem d_X8_stand_36 : zDc M_X8_stand 36 (.iconst 0) 1 37 := ⟨by decide +kernel, rfl⟩
theorem d_X8_stand_37 : zDc M_X8_stand 37 (.ireturn) 1 38 := ⟨by decide +kernel, rfl⟩
theorem d_X8_stand_38 : zDc M_X8_stand 38 (.aload_n 0) 1 39 := ⟨by decide +kernel, rfl⟩
theorem d_X8_stand_39 : zDc M_X8_stand 39 (.invokevirtual 444) 3 42 := ⟨by decide +kernel, rfl⟩
theorem d_X8_stand_42 : zDc M_X8_stand 42 (.aload_n 0) 1 43 := ⟨by decide +kernel, rfl⟩
theorem d_X8_stand_43 : zDc M_X8_stand 43 (.getfield 96) 3 46 := ⟨by decide +kernel, rfl⟩
theorem d_X8_stand_46 : zDc M_X8_stand 46 (.iload_n 1) 1 47 := ⟨by decide +kernel, rfl⟩
theorem d_X8_stand_47 : zDc M_X8_stand 47 (.bipush 6) 2 49 := ⟨by decide +kernel, rfl⟩
theorem d_X8_stand_49 : zDc M_X8_stand 49 (.iload_n 3) 1 50 := ⟨by decide +kernel, rfl⟩
theorem d_X8_stand_50 : zDc M_X8_stand 50 (.imul) 1 51 := ⟨by decide +kernel, rfl⟩
theorem d_X8_stand_51 : zDc M_X8_stand 51 (.iload_n 2) 1 52 := ⟨by decide +kernel, rfl⟩
theorem d_X8_stand_52 : zDc M_X8_stand 52 (.iadd) 1 53 := ⟨by decide +kernel, rfl⟩
theorem d_X8_stand_53 : zDc M_X8_stand 53 (.iastore) 1 54 := ⟨by decide +kernel, rfl⟩
theorem d_X8_stand_54 : zDc M_X8_stand 54 (.iconst 1) 1 55 := ⟨by decide +kernel, rfl⟩
theorem d_X8_stand_55 : zDc M_X8_stand 55 (.ireturn) 1 56 := ⟨by decide +kernel, rfl⟩
def f_X8_stand (a0 : Nat) (a1 : Int32) (a2 : Int32) (a3 : Int32) (h0 : zHp) : Option (Int32 × zHp) :=
  zob (zpV h0 a0 8 0 (.int 0)) (fun h1 =>
  zbd (zcv 8 a0 h1 (f_X8_isChild a0 a1 h1)) (fun v3 h2 =>
  if v3 = 0 then
  some (0, h2)
  else
  zbd ((f_X8_isCell a2 a3 h2)) (fun v5 h4 =>
  if v5 = 0 then
  some (0, h4)
  else
  zob (zgR h4 a0 8 43) (fun v6 =>
  zob (zaI 0 h4 v6 a1) (fun v7 =>
  if v7 = ((6 * a3) + a2) then
  some (0, h4)
  else
  zbd (zcv 8 a0 h4 (f_X8_keepNow a0 h4)) (fun v9 h8 =>
  zob (zgR h8 a0 8 43) (fun v10 =>
  zob (zsI 0 h8 v10 a1 ((6 * a3) + a2)) (fun h11 =>
  some (1, h11)))))))))
set_option maxRecDepth 100000 in
set_option maxHeartbeats 4000000 in
theorem t_X8_stand (a0 : Nat) (a1 : Int32) (a2 : Int32) (a3 : Int32) (h0 : zHp) : ∀ (r : Int32) (h' : zHp), f_X8_stand a0 a1 a2 a3 h0 = some (r, h') → zCt yX8_stand (.code yX8_stand cX8_stand 4 (some .boolean)) 3 106 0 0 [.ref a0, .int a1, .int a2, .int a3] h0 (some (.int r)) h' := by
  refine zct_of M_X8_stand yX8_stand (by decide) rfl rfl [.ref a0, .int a1, .int a2, .int a3] h0 (Nat.le_of_ble_eq_true rfl) (fun r => some (.int r)) (fun X => ?_)
  show zG X M_X8_stand (0, 0) 0 [(0, .ref a0), (1, .int a1), (2, .int a2), (3, .int a3)] [] h0 (f_X8_stand a0 a1 a2 a3 h0) (fun (r : Int32) h' => zKe X (some (.int r)) h')
  unfold f_X8_stand
  refine zg_aload_n 0 rfl d_X8_stand_0 ?_
  refine zg_iconst 0 rfl d_X8_stand_1 ?_
  refine zg_putV d_X8_stand_2 zc_8 (by decide) fl_X8_151 rfl rfl rfl (fun h1 => ?_)
  refine zg_aload_n 0 rfl d_X8_stand_5 ?_
  refine zg_iload_n 1 rfl d_X8_stand_6 ?_
  refine zg_cVi (b := a0) (As := [.int a1]) (rest := []) (0, 0) d_X8_stand_7 zc_8 rfl cw_X8_425 wi_X8_isChild ws_X8_isChild rfl rfl (Nat.le_of_ble_eq_true rfl) (by decide) (by decide) ⟨by decide, by decide⟩ rfl (t_X8_isChild a0 a1 h1) (fun v3 h2 => ?_)
  refine zg_if_eq d_X8_stand_10 ?_ ?_
  · refine zg_iconst 0 rfl d_X8_stand_36 ?_
    exact zg_zretK d_X8_stand_37 rfl ⟨Nat.le_of_ble_eq_true rfl, Nat.le_of_ble_eq_true rfl⟩ (Or.inl rfl) (fun q => q)
  · refine zg_iload_n 2 rfl d_X8_stand_13 ?_
    refine zg_iload_n 3 rfl d_X8_stand_14 ?_
    refine zg_cSi (As := [.int a2, .int a3]) (rest := []) (0, 0) d_X8_stand_15 cw_X8_378 wt_X8_isCell rfl rfl (Nat.le_of_ble_eq_true rfl) (by decide) (by decide) ⟨by decide, by decide⟩ rfl (t_X8_isCell a2 a3 h2) (fun v5 h4 => ?_)
    refine zg_if_eq d_X8_stand_18 ?_ ?_
    · refine zg_iconst 0 rfl d_X8_stand_36 ?_
      exact zg_zretK d_X8_stand_37 rfl ⟨Nat.le_of_ble_eq_true rfl, Nat.le_of_ble_eq_true rfl⟩ (Or.inl rfl) (fun q => q)
    · refine zg_aload_n 0 rfl d_X8_stand_21 ?_
      refine zg_getR d_X8_stand_22 zc_8 (by decide) fl_X8_96 (fun v6 => ?_)
      refine zg_iload_n 1 rfl d_X8_stand_25 ?_
      refine zg_ald0 d_X8_stand_26 (fun v7 => ?_)
      refine zg_bipush 6 rfl d_X8_stand_27 ?_
      refine zg_iload_n 3 rfl d_X8_stand_29 ?_
      refine zg_imul d_X8_stand_30 ?_
      refine zg_iload_n 2 rfl d_X8_stand_31 ?_
      refine zg_iadd d_X8_stand_32 ?_
      refine zg_icmp_ne d_X8_stand_33 ?_ ?_
      · refine zg_iconst 0 rfl d_X8_stand_36 ?_
        exact zg_zretK d_X8_stand_37 rfl ⟨Nat.le_of_ble_eq_true rfl, Nat.le_of_ble_eq_true rfl⟩ (Or.inl rfl) (fun q => q)
      · refine zg_aload_n 0 rfl d_X8_stand_38 ?_
        refine zg_cVv (b := a0) (As := []) (rest := []) (0, 0) d_X8_stand_39 zc_8 rfl cw_X8_444 wi_X8_keepNow ws_X8_keepNow rfl rfl (Nat.le_of_ble_eq_true rfl) (by decide) (by decide) ⟨by decide, by decide⟩ rfl (t_X8_keepNow a0 h4) (fun v9 h8 => ?_)
        refine zg_aload_n 0 rfl d_X8_stand_42 ?_
        refine zg_getR d_X8_stand_43 zc_8 (by decide) fl_X8_96 (fun v10 => ?_)
        refine zg_iload_n 1 rfl d_X8_stand_46 ?_
        refine zg_bipush 6 rfl d_X8_stand_47 ?_
        refine zg_iload_n 3 rfl d_X8_stand_49 ?_
        refine zg_imul d_X8_stand_50 ?_
        refine zg_iload_n 2 rfl d_X8_stand_51 ?_
        refine zg_iadd d_X8_stand_52 ?_
        refine zg_ast0 d_X8_stand_53 (fun h11 => ?_)
        refine zg_iconst 1 rfl d_X8_stand_54 ?_
        exact zg_zretK d_X8_stand_55 rfl ⟨Nat.le_of_ble_eq_true rfl, Nat.le_of_ble_eq_true rfl⟩ (Or.inr rfl) (fun q => q)
abbrev M_X8_wouldSwap : zMt := (RX8, cX8_wouldSwap, 5, 2, 82, (some .boolean), "wouldSwap", 0, 0)
theorem d_X8_wouldSwap_0 : zDc M_X8_wouldSwap 0 (.aload_n 0) 1 1 := ⟨by decide +kernel, rfl⟩
theorem d_X8_wouldSwap_1 : zDc M_X8_wouldSwap 1 (.iconst 0) 1 2 := ⟨by decide +kernel, rfl⟩
theorem d_X8_wouldSwap_2 : zDc M_X8_wouldSwap 2 (.iload_n 1) 1 3 := ⟨by decide +kernel, rfl⟩
theorem d_X8_wouldSwap_3 : zDc M_X8_wouldSwap 3 (.invokevirtual 351) 3 6 := ⟨by decide +kernel, rfl⟩
theorem d_X8_wouldSwap_6 : zDj M_X8_wouldSwap 6 (.ifCond .eq 12) 12 9 18 := ⟨by decide +kernel, rfl, by decide⟩
theorem d_X8_wouldSwap_9 : zDc M_X8_wouldSwap 9 (.aload_n 0) 1 10 := ⟨by decide +kernel, rfl⟩
theorem d_X8_wouldSwap_10 : zDc M_X8_wouldSwap 10 (.iconst 0) 1 11 := ⟨by decide +kernel, rfl⟩
theorem d_X8_wouldSwap_11 : zDc M_X8_wouldSwap 11 (.iload_n 2) 1 12 := ⟨by decide +kernel, rfl⟩
theorem d_X8_wouldSwap_12 : zDc M_X8_wouldSwap 12 (.invokevirtual 351) 3 15 := ⟨by decide +kernel, rfl⟩
theorem d_X8_wouldSwap_15 : zDj M_X8_wouldSwap 15 (.ifCond .ne 5) 5 18 20 := ⟨by decide +kernel, rfl, by decide⟩
theorem d_X8_wouldSwap_18 : zDc M_X8_wouldSwap 18 (.iconst 0) 1 19 := ⟨by decide +kernel, rfl⟩
theorem d_X8_wouldSwap_19 : zDc M_X8_wouldSwap 19 (.ireturn) 1 20 := ⟨by decide +kernel, rfl⟩
theorem d_X8_wouldSwap_20 : zDc M_X8_wouldSwap 20 (.aload_n 0) 1 21 := ⟨by decide +kernel, rfl⟩
theorem d_X8_wouldSwap_21 : zDc M_X8_wouldSwap 21 (.getfield 90) 3 24 := ⟨by decide +kernel, rfl⟩
theorem d_X8_wouldSwap_24 : zDc M_X8_wouldSwap 24 (.iload_n 1) 1 25 := ⟨by decide +kernel, rfl⟩
theorem d_X8_wouldSwap_25 : zDc M_X8_wouldSwap 25 (.iaload) 1 26 := ⟨by decide +kernel, rfl⟩
theorem d_X8_wouldSwap_26 : zDc M_X8_wouldSwap 26 (.istore_n 3) 1 27 := ⟨by decide +kernel, rfl⟩
theorem d_X8_wouldSwap_27 : zDc M_X8_wouldSwap 27 (.aload_n 0) 1 28 := ⟨by decide +kernel, rfl⟩
theorem d_X8_wouldSwap_28 : zDc M_X8_wouldSwap 28 (.getfield 90) 3 31 := ⟨by decide +kernel, rfl⟩
theorem d_X8_wouldSwap_31 : zDc M_X8_wouldSwap 31 (.iload_n 2) 1 32 := ⟨by decide +kernel, rfl⟩
theorem d_X8_wouldSwap_32 : zDc M_X8_wouldSwap 32 (.iaload) 1 33 := ⟨by decide +kernel, rfl⟩
theorem d_X8_wouldSwap_33 : zDc M_X8_wouldSwap 33 (.istore 4) 2 35 := ⟨by decide +kernel, rfl⟩
theorem d_X8_wouldSwap_35 : zDc M_X8_wouldSwap 35 (.iload_n 3) 1 36 := ⟨by decide +kernel, rfl⟩
theorem d_X8_wouldSwap_36 : zDc M_X8_wouldSwap 36 (.iconst (-1)) 1 37 := ⟨by decide +kernel, rfl⟩
theorem d_X8_wouldSwap_37 : zDj M_X8_wouldSwap 37 (.if_icmp .eq 15) 15 40 52 := ⟨by decide +kernel, rfl, by decide⟩
theorem d_X8_wouldSwap_40 : zDc M_X8_wouldSwap 40 (.iload 4) 2 42 := ⟨by decide +kernel, rfl⟩
theorem d_X8_wouldSwap_42 : zDc M_X8_wouldSwap 42 (.iconst (-1)) 1 43 := ⟨by decide +kernel, rfl⟩
theorem d_X8_wouldSwap_43 : zDj M_X8_wouldSwap 43 (.if_icmp .eq 9) 9 46 52 := ⟨by decide +kernel, rfl, by decide⟩
theorem d_X8_wouldSwap_46 : zDc M_X8_wouldSwap 46 (.iload_n 3) 1 47 := ⟨by decide +kernel, rfl⟩
theorem d_X8_wouldSwap_47 : zDc M_X8_wouldSwap 47 (.iload 4) 2 49 := ⟨by decide +kernel, rfl⟩
theorem d_X8_wouldSwap_49 : zDj M_X8_wouldSwap 49 (.if_icmp .ne 5) 5 52 54 := ⟨by decide +kernel, rfl, by decide⟩
theorem d_X8_wouldSwap_52 : zDc M_X8_wouldSwap 52 (.iconst 0) 1 53 := ⟨by decide +kernel, rfl⟩
theorem d_X8_wouldSwap_53 : zDc M_X8_wouldSwap 53 (.ireturn) 1 54 := ⟨by decide +kernel, rfl⟩
theorem d_X8_wouldSwap_54 : zDc M_X8_wouldSwap 54 (.aload_n 0) 1 55 := ⟨by decide +kernel, rfl⟩
theorem d_X8_wouldSwap_55 : zDc M_X8_wouldSwap 55 (.getfield 96) 3 58 := ⟨by decide +kernel, rfl⟩
theorem d_X8_wouldSwap_58 : zDc M_X8_wouldSwap 58 (.iload_n 3) 1 59 := ⟨by decide +kernel, rfl⟩
theorem d_X8_wouldSwap_59 : zDc M_X8_wouldSwap 59 (.iaload) 1 60 := ⟨by decide +kernel, rfl⟩
theorem d_X8_wouldSwap_60 : zDc M_X8_wouldSwap 60 (.aload_n 0) 1 61 := ⟨by decide +kernel, rfl⟩
theorem d_X8_wouldSwap_61 : zDc M_X8_wouldSwap 61 (.getfield 81) 3 64 := ⟨by decide +kernel, rfl⟩
theorem d_X8_wouldSwap_64 : zDc M_X8_wouldSwap 64 (.iload_n 2) 1 65 := ⟨by decide +kernel, rfl⟩
theorem d_X8_wouldSwap_65 : zDc M_X8_wouldSwap 65 (.iaload) 1 66 := ⟨by decide +kernel, rfl⟩
theorem d_X8_wouldSwap_66 : zDc M_X8_wouldSwap 66 (.invokestatic 360) 3 69 := ⟨by decide +kernel, rfl⟩
theorem d_X8_wouldSwap_69 : zDc M_X8_wouldSwap 69 (.aload_n 0) 1 70 := ⟨by decide +kernel, rfl⟩
theorem d_X8_wouldSwap_70 : zDc M_X8_wouldSwap 70 (.getfield 96) 3 73 := ⟨by decide +kernel, rfl⟩
theorem d_X8_wouldSwap_73 : zDc M_X8_wouldSwap 73 (.iload_n 3) 1 74 := ⟨by decide +kernel, rfl⟩
theorem d_X8_wouldSwap_74 : zDc M_X8_wouldSwap 74 (.iaload) 1 75 := ⟨by decide +kernel, rfl⟩
theorem d_X8_wouldSwap_75 : zDc M_X8_wouldSwap 75 (.aload_n 0) 1 76 := ⟨by decide +kernel, rfl⟩
theorem d_X8_wouldSwap_76 : zDc M_X8_wouldSwap 76 (.getfield 81) 3 79 := ⟨by decide +kernel, rfl⟩
theorem d_X8_wouldSwap_79 : zDc M_X8_wouldSwap 79 (.iload_n 1) 1 80 := ⟨by decide +kernel, rfl⟩
theorem d_X8_wouldSwap_80 : zDc M_X8_wouldSwap 80 (.iaload) 1 81 := ⟨by decide +kernel, rfl⟩
theorem d_X8_wouldSwap_81 : zDc M_X8_wouldSwap 81 (.invokestatic 360) 3 84 := ⟨by decide +kernel, rfl⟩
theorem d_X8_wouldSwap_84 : zDj M_X8_wouldSwap 84 (.if_icmp .ge 42) 42 87 126 := ⟨by decide +kernel, rfl, by decide⟩
theorem d_X8_wouldSwap_87 : zDc M_X8_wouldSwap 87 (.aload_n 0) 1 88 := ⟨by decide +kernel, rfl⟩
theorem d_X8_wouldSwap_88 : zDc M_X8_wouldSwap 88 (.getfield 96) 3 91 := ⟨by decide +kernel, rfl⟩
theorem d_X8_wouldSwap_91 : zDc M_X8_wouldSwap 91 (.iload 4) 2 93 := ⟨by decide +kernel, rfl⟩
theorem d_X8_wouldSwap_93 : zDc M_X8_wouldSwap 93 (.iaload) 1 94 := ⟨by decide +kernel, rfl⟩
theorem d_X8_wouldSwap_94 : zDc M_X8_wouldSwap 94 (.aload_n 0) 1 95 := ⟨by decide +kernel, rfl⟩
theorem d_X8_wouldSwap_95 : zDc M_X8_wouldSwap 95 (.getfield 81) 3 98 := ⟨by decide +kernel, rfl⟩
theorem d_X8_wouldSwap_98 : zDc M_X8_wouldSwap 98 (.iload_n 1) 1 99 := ⟨by decide +kernel, rfl⟩
theorem d_X8_wouldSwap_99 : zDc M_X8_wouldSwap 99 (.iaload) 1 100 := ⟨by decide +kernel, rfl⟩
theorem d_X8_wouldSwap_100 : zDc M_X8_wouldSwap 100 (.invokestatic 360) 3 103 := ⟨by decide +kernel, rfl⟩
theorem d_X8_wouldSwap_103 : zDc M_X8_wouldSwap 103 (.aload_n 0) 1 104 := ⟨by decide +kernel, rfl⟩
theorem d_X8_wouldSwap_104 : zDc M_X8_wouldSwap 104 (.getfield 96) 3 107 := ⟨by decide +kernel, rfl⟩
theorem d_X8_wouldSwap_107 : zDc M_X8_wouldSwap 107 (.iload 4) 2 109 := ⟨by decide +kernel, rfl⟩
theorem d_X8_wouldSwap_109 : zDc M_X8_wouldSwap 109 (.iaload) 1 110 := ⟨by decide +kernel, rfl⟩
theorem d_X8_wouldSwap_110 : zDc M_X8_wouldSwap 110 (.aload_n 0) 1 111 := ⟨by decide +kernel, rfl⟩
theorem d_X8_wouldSwap_111 : zDc M_X8_wouldSwap 111 (.getfield 81) 3 114 := ⟨by decide +kernel, rfl⟩
theorem d_X8_wouldSwap_114 : zDc M_X8_wouldSwap 114 (.iload_n 2) 1 115 := ⟨by decide +kernel, rfl⟩
theorem d_X8_wouldSwap_115 : zDc M_X8_wouldSwap 115 (.iaload) 1 116 := ⟨by decide +kernel, rfl⟩
theorem d_X8_wouldSwap_116 : zDc M_X8_wouldSwap 116 (.invokestatic 360) 3 119 := ⟨by decide +kernel, rfl⟩
theorem d_X8_wouldSwap_119 : zDj M_X8_wouldSwap 119 (.if_icmp .ge 7) 7 122 126 := ⟨by decide +kernel, rfl, by decide⟩
theorem d_X8_wouldSwap_122 : zDc M_X8_wouldSwap 122 (.iconst 1) 1 123 := ⟨by decide +kernel, rfl⟩
theorem d_X8_wouldSwap_123 : zDj M_X8_wouldSwap 123 (.goto 4) 4 126 127 := ⟨by decide +kernel, rfl, by decide⟩
theorem d_X8_wouldSwap_126 : zDc M_X8_wouldSwap 126 (.iconst 0) 1 127 := ⟨by decide +kernel, rfl⟩
theorem d_X8_wouldSwap_127 : zDc M_X8_wouldSwap 127 (.ireturn) 1 128 := ⟨by decide +kernel, rfl⟩
def f_X8_wouldSwap (a0 : Nat) (a1 : Int32) (a2 : Int32) (h0 : zHp) : Option (Int32 × zHp) :=
  zbd (zcv 8 a0 h0 (f_X8_isUp a0 0 a1 h0)) (fun v2 h1 =>
  if v2 = 0 then
  some (0, h1)
  else
  zbd (zcv 8 a0 h1 (f_X8_isUp a0 0 a2 h1)) (fun v4 h3 =>
  if v4 = 0 then
  some (0, h3)
  else
  zob (zgR h3 a0 8 41) (fun v5 =>
  zob (zaI 0 h3 v5 a1) (fun v6 =>
  zob (zgR h3 a0 8 41) (fun v7 =>
  zob (zaI 0 h3 v7 a2) (fun v8 =>
  if v6 = (-1) then
  some (0, h3)
  else
  if v8 = (-1) then
  some (0, h3)
  else
  if v6 = v8 then
  some (0, h3)
  else
  zob (zgR h3 a0 8 43) (fun v9 =>
  zob (zaI 0 h3 v9 v6) (fun v10 =>
  zob (zgR h3 a0 8 38) (fun v11 =>
  zob (zaI 0 h3 v11 a2) (fun v12 =>
  zbd ((f_X8_farOf v10 v12 h3)) (fun v14 h13 =>
  zob (zgR h13 a0 8 43) (fun v15 =>
  zob (zaI 0 h13 v15 v6) (fun v16 =>
  zob (zgR h13 a0 8 38) (fun v17 =>
  zob (zaI 0 h13 v17 a1) (fun v18 =>
  zbd ((f_X8_farOf v16 v18 h13)) (fun v20 h19 =>
  if v20 ≤ v14 then
  some (0, h19)
  else
  zob (zgR h19 a0 8 43) (fun v21 =>
  zob (zaI 0 h19 v21 v8) (fun v22 =>
  zob (zgR h19 a0 8 38) (fun v23 =>
  zob (zaI 0 h19 v23 a1) (fun v24 =>
  zbd ((f_X8_farOf v22 v24 h19)) (fun v26 h25 =>
  zob (zgR h25 a0 8 43) (fun v27 =>
  zob (zaI 0 h25 v27 v8) (fun v28 =>
  zob (zgR h25 a0 8 38) (fun v29 =>
  zob (zaI 0 h25 v29 a2) (fun v30 =>
  zbd ((f_X8_farOf v28 v30 h25)) (fun v32 h31 =>
  if v32 ≤ v26 then
  some (0, h31)
  else
  some (1, h31)))))))))))))))))))))))))))
set_option maxRecDepth 100000 in
set_option maxHeartbeats 4000000 in
theorem t_X8_wouldSwap (a0 : Nat) (a1 : Int32) (a2 : Int32) (h0 : zHp) : ∀ (r : Int32) (h' : zHp), f_X8_wouldSwap a0 a1 a2 h0 = some (r, h') → zCt yX8_wouldSwap (.code yX8_wouldSwap cX8_wouldSwap 5 (some .boolean)) 2 82 0 0 [.ref a0, .int a1, .int a2] h0 (some (.int r)) h' := by
  refine zct_of M_X8_wouldSwap yX8_wouldSwap (by decide) rfl rfl [.ref a0, .int a1, .int a2] h0 (Nat.le_of_ble_eq_true rfl) (fun r => some (.int r)) (fun X => ?_)
  show zG X M_X8_wouldSwap (0, 0) 0 [(0, .ref a0), (1, .int a1), (2, .int a2)] [] h0 (f_X8_wouldSwap a0 a1 a2 h0) (fun (r : Int32) h' => zKe X (some (.int r)) h')
  unfold f_X8_wouldSwap
  refine zg_aload_n 0 rfl d_X8_wouldSwap_0 ?_
  refine zg_iconst 0 rfl d_X8_wouldSwap_1 ?_
  refine zg_iload_n 1 rfl d_X8_wouldSwap_2 ?_
  refine zg_cVi (b := a0) (As := [.int 0, .int a1]) (rest := []) (0, 0) d_X8_wouldSwap_3 zc_8 rfl cw_X8_351 wi_X8_isUp ws_X8_isUp rfl rfl (Nat.le_of_ble_eq_true rfl) (by decide) (by decide) ⟨by decide, by decide⟩ rfl (t_X8_isUp a0 0 a1 h0) (fun v2 h1 => ?_)
  refine zg_if_eq d_X8_wouldSwap_6 ?_ ?_
  · refine zg_iconst 0 rfl d_X8_wouldSwap_18 ?_
    exact zg_zretK d_X8_wouldSwap_19 rfl ⟨Nat.le_of_ble_eq_true rfl, Nat.le_of_ble_eq_true rfl⟩ (Or.inl rfl) (fun q => q)
  · refine zg_aload_n 0 rfl d_X8_wouldSwap_9 ?_
    refine zg_iconst 0 rfl d_X8_wouldSwap_10 ?_
    refine zg_iload_n 2 rfl d_X8_wouldSwap_11 ?_
    refine zg_cVi (b := a0) (As := [.int 0, .int a2]) (rest := []) (0, 0) d_X8_wouldSwap_12 zc_8 rfl cw_X8_351 wi_X8_isUp ws_X8_isUp rfl rfl (Nat.le_of_ble_eq_true rfl) (by decide) (by decide) ⟨by decide, by decide⟩ rfl (t_X8_isUp a0 0 a2 h1) (fun v4 h3 => ?_)
    refine zg_if_ne d_X8_wouldSwap_15 ?_ ?_
    · refine zg_iconst 0 rfl d_X8_wouldSwap_18 ?_
      exact zg_zretK d_X8_wouldSwap_19 rfl ⟨Nat.le_of_ble_eq_true rfl, Nat.le_of_ble_eq_true rfl⟩ (Or.inl rfl) (fun q => q)
    · refine zg_aload_n 0 rfl d_X8_wouldSwap_20 ?_
      refine zg_getR d_X8_wouldSwap_21 zc_8 (by decide) fl_X8_90 (fun v5 => ?_)
      refine zg_iload_n 1 rfl d_X8_wouldSwap_24 ?_
      refine zg_ald0 d_X8_wouldSwap_25 (fun v6 => ?_)
      refine zg_istore_n [(3, .int v6), (0, .ref a0), (1, .int a1), (2, .int a2)] d_X8_wouldSwap_26 rfl (by decide) rfl ?_
      refine zg_aload_n 1 rfl d_X8_wouldSwap_27 ?_
      refine zg_getR d_X8_wouldSwap_28 zc_8 (by decide) fl_X8_90 (fun v7 => ?_)
      refine zg_iload_n 3 rfl d_X8_wouldSwap_31 ?_
      refine zg_ald0 d_X8_wouldSwap_32 (fun v8 => ?_)
      refine zg_istore [(4, .int v8), (3, .int v6), (0, .ref a0), (1, .int a1), (2, .int a2)] d_X8_wouldSwap_33 (by decide) rfl ?_
      refine zg_iload_n 1 rfl d_X8_wouldSwap_35 ?_
      refine zg_iconst (-1) rfl d_X8_wouldSwap_36 ?_
      refine zg_icmp_eq d_X8_wouldSwap_37 ?_ ?_
      · refine zg_iconst 0 rfl d_X8_wouldSwap_52 ?_
        exact zg_zretK d_X8_wouldSwap_53 rfl ⟨Nat.le_of_ble_eq_true rfl, Nat.le_of_ble_eq_true rfl⟩ (Or.inl rfl) (fun q => q)
      · refine zg_iload 0 rfl d_X8_wouldSwap_40 ?_
        refine zg_iconst (-1) rfl d_X8_wouldSwap_42 ?_
        refine zg_icmp_eq d_X8_wouldSwap_43 ?_ ?_
        · refine zg_iconst 0 rfl d_X8_wouldSwap_52 ?_
          exact zg_zretK d_X8_wouldSwap_53 rfl ⟨Nat.le_of_ble_eq_true rfl, Nat.le_of_ble_eq_true rfl⟩ (Or.inl rfl) (fun q => q)
        · refine zg_iload_n 1 rfl d_X8_wouldSwap_46 ?_
          refine zg_iload 0 rfl d_X8_wouldSwap_47 ?_
          refine zg_icmp_ne d_X8_wouldSwap_49 ?_ ?_
          · refine zg_iconst 0 rfl d_X8_wouldSwap_52 ?_
            exact zg_zretK d_X8_wouldSwap_53 rfl ⟨Nat.le_of_ble_eq_true rfl, Nat.le_of_ble_eq_true rfl⟩ (Or.inl rfl) (fun q => q)
          · refine zg_aload_n 2 rfl d_X8_wouldSwap_54 ?_
            refine zg_getR d_X8_wouldSwap_55 zc_8 (by decide) fl_X8_96 (fun v9 => ?_)
            refine zg_iload_n 1 rfl d_X8_wouldSwap_58 ?_
            refine zg_ald0 d_X8_wouldSwap_59 (fun v10 => ?_)
            refine zg_aload_n 2 rfl d_X8_wouldSwap_60 ?_
            refine zg_getR d_X8_wouldSwap_61 zc_8 (by decide) fl_X8_81 (fun v11 => ?_)
            refine zg_iload_n 4 rfl d_X8_wouldSwap_64 ?_
            refine zg_ald0 d_X8_wouldSwap_65 (fun v12 => ?_)
            refine zg_cSi (As := [.int v10, .int v12]) (rest := []) (0, 0) d_X8_wouldSwap_66 cw_X8_360 wt_X8_farOf rfl rfl (Nat.le_of_ble_eq_true rfl) (by decide) (by decide) ⟨by decide, by decide⟩ rfl (t_X8_farOf v10 v12 h3) (fun v14 h13 => ?_)
            refine zg_aload_n 2 rfl d_X8_wouldSwap_69 ?_
            refine zg_getR d_X8_wouldSwap_70 zc_8 (by decide) fl_X8_96 (fun v15 => ?_)
            refine zg_iload_n 1 rfl d_X8_wouldSwap_73 ?_
            refine zg_ald0 d_X8_wouldSwap_74 (fun v16 => ?_)
            refine zg_aload_n 2 rfl d_X8_wouldSwap_75 ?_
            refine zg_getR d_X8_wouldSwap_76 zc_8 (by decide) fl_X8_81 (fun v17 => ?_)
            refine zg_iload_n 3 rfl d_X8_wouldSwap_79 ?_
            refine zg_ald0 d_X8_wouldSwap_80 (fun v18 => ?_)
            refine zg_cSi (As := [.int v16, .int v18]) (rest := [.int v14]) (0, 0) d_X8_wouldSwap_81 cw_X8_360 wt_X8_farOf rfl rfl (Nat.le_of_ble_eq_true rfl) (by decide) (by decide) ⟨by decide, by decide⟩ rfl (t_X8_farOf v16 v18 h13) (fun v20 h19 => ?_)
            refine zg_icmp_ge d_X8_wouldSwap_84 ?_ ?_
            · refine zg_iconst 0 rfl d_X8_wouldSwap_126 ?_
              exact zg_zretK d_X8_wouldSwap_127 rfl ⟨Nat.le_of_ble_eq_true rfl, Nat.le_of_ble_eq_true rfl⟩ (Or.inl rfl) (fun q => q)
            · refine zg_aload_n 2 rfl d_X8_wouldSwap_87 ?_
              refine zg_getR d_X8_wouldSwap_88 zc_8 (by decide) fl_X8_96 (fun v21 => ?_)
              refine zg_iload 0 rfl d_X8_wouldSwap_91 ?_
              refine zg_ald0 d_X8_wouldSwap_93 (fun v22 => ?_)
              refine zg_aload_n 2 rfl d_X8_wouldSwap_94 ?_
              refine zg_getR d_X8_wouldSwap_95 zc_8 (by decide) fl_X8_81 (fun v23 => ?_)
              refine zg_iload_n 3 rfl d_X8_wouldSwap_98 ?_
              refine zg_ald0 d_X8_wouldSwap_99 (fun v24 => ?_)
              refine zg_cSi (As := [.int v22, .int v24]) (rest := []) (0, 0) d_X8_wouldSwap_100 cw_X8_360 wt_X8_farOf rfl rfl (Nat.le_of_ble_eq_true rfl) (by decide) (by decide) ⟨by decide, by decide⟩ rfl (t_X8_farOf v22 v24 h19) (fun v26 h25 => ?_)
              refine zg_aload_n 2 rfl d_X8_wouldSwap_103 ?_
              refine zg_getR d_X8_wouldSwap_104 zc_8 (by decide) fl_X8_96 (fun v27 => ?_)
              refine zg_iload 0 rfl d_X8_wouldSwap_107 ?_
              refine zg_ald0 d_X8_wouldSwap_109 (fun v28 => ?_)
              refine zg_aload_n 2 rfl d_X8_wouldSwap_110 ?_
              refine zg_getR d_X8_wouldSwap_111 zc_8 (by decide) fl_X8_81 (fun v29 => ?_)
              refine zg_iload_n 4 rfl d_X8_wouldSwap_114 ?_
              refine zg_ald0 d_X8_wouldSwap_115 (fun v30 => ?_)
              refine zg_cSi (As := [.int v28, .int v30]) (rest := [.int v26]) (0, 0) d_X8_wouldSwap_116 cw_X8_360 wt_X8_farOf rfl rfl (Nat.le_of_ble_eq_true rfl) (by decide) (by decide) ⟨by decide, by decide⟩ rfl (t_X8_farOf v28 v30 h25) (fun v32 h31 => ?_)
              refine zg_icmp_ge d_X8_wouldSwap_119 ?_ ?_
              · refine zg_iconst 0 rfl d_X8_wouldSwap_126 ?_
                exact zg_zretK d_X8_wouldSwap_127 rfl ⟨Nat.le_of_ble_eq_true rfl, Nat.le_of_ble_eq_true rfl⟩ (Or.inl rfl) (fun q => q)
              · refine zg_iconst 1 rfl d_X8_wouldSwap_122 ?_
                refine zg_goto d_X8_wouldSwap_123 ?_
                exact zg_zretK d_X8_wouldSwap_127 rfl ⟨Nat.le_of_ble_eq_true rfl, Nat.le_of_ble_eq_true rfl⟩ (Or.inr rfl) (fun q => q)

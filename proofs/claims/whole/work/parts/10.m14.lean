theorem fl_X8_123 : Cond.fieldLink RX8 123 (TX8 59).1 (TX8 59).2.1 (TX8 59).2.2.1 ∈ zT := zw_of _ 1421 (by decide +kernel) (by decide +kernel)
theorem fl_X8_126 : Cond.fieldLink RX8 126 (TX8 60).1 (TX8 60).2.1 (TX8 60).2.2.1 ∈ zT := zw_of _ 1422 (by decide +kernel) (by decide +kernel)
theorem ml_X8_441 : Cond.methodLink RX8 441 yX8_ownSeen ∈ zT := zw_of _ 1818 (by decide +kernel) (by decide +kernel)
theorem cd_X8_ownSeen : Cond.code yX8_ownSeen cX8_ownSeen 4 (some .int) ∈ zT := zw_of _ 1821 (by decide +kernel) (by decide +kernel)
theorem cw_X8_441 : zCw RX8 441 yX8_ownSeen cX8_ownSeen 4 (some .int) 2 := ⟨ml_X8_441, ni_X8, cd_X8_ownSeen, by decide, by decide, by decide +kernel⟩
theorem wi_X8_ownSeen : Cond.instanceMethod yX8_ownSeen ∈ zT := zw_of _ 1820 (by decide +kernel) (by decide +kernel)
theorem ws_X8_ownSeen : Cond.selects RX8 yX8_ownSeen yX8_ownSeen ∈ zT := zw_of _ 93 (by decide +kernel) (by decide +kernel)
theorem ml_X8_400 : Cond.methodLink RX8 400 yX8_drifts ∈ zT := zw_of _ 1834 (by decide +kernel) (by decide +kernel)
theorem cd_X8_drifts : Cond.code yX8_drifts cX8_drifts 7 none ∈ zT := zw_of _ 1837 (by decide +kernel) (by decide +kernel)
theorem cw_X8_400 : zCw RX8 400 yX8_drifts cX8_drifts 7 none 3 := ⟨ml_X8_400, ni_X8, cd_X8_drifts, by decide, by decide, by decide +kernel⟩
theorem wi_X8_drifts : Cond.instanceMethod yX8_drifts ∈ zT := zw_of _ 1836 (by decide +kernel) (by decide +kernel)
theorem ws_X8_drifts : Cond.selects RX8 yX8_drifts yX8_drifts ∈ zT := zw_of _ 97 (by decide +kernel) (by decide +kernel)
theorem fl_X8_19 : Cond.fieldLink RX8 19 (TX8 5).1 (TX8 5).2.1 (TX8 5).2.2.1 ∈ zT := zw_of _ 1367 (by decide +kernel) (by decide +kernel)
theorem ml_X8_217 : Cond.methodLink RX8 217 yX8_found ∈ zT := zw_of _ 1648 (by decide +kernel) (by decide +kernel)
theorem cd_X8_found : Cond.code yX8_found cX8_found 5 (some .int) ∈ zT := zw_of _ 1650 (by decide +kernel) (by decide +kernel)
theorem cw_X8_217 : zCw RX8 217 yX8_found cX8_found 5 (some .int) 4 := ⟨ml_X8_217, ni_X8, cd_X8_found, by decide, by decide, by decide +kernel⟩
theorem wt_X8_found : Cond.static yX8_found ∈ zT := zw_of _ 1649 (by decide +kernel) (by decide +kernel)
theorem fl_X8_28 : Cond.fieldLink RX8 28 (TX8 8).1 (TX8 8).2.1 (TX8 8).2.2.1 ∈ zT := zw_of _ 1370 (by decide +kernel) (by decide +kernel)
theorem fl_X8_40 : Cond.fieldLink RX8 40 (TX8 12).1 (TX8 12).2.1 (TX8 12).2.2.1 ∈ zT := zw_of _ 1374 (by decide +kernel) (by decide +kernel)
abbrev M_X8_fives : zMt := (RX8, cX8_fives, 3, 1, 60, (some .int), "fives", 0, 0)
theorem d_X8_fives_0 : zDc M_X8_fives 0 (.iconst 1) 1 1 := ⟨by decide +kernel, rfl⟩
theorem d_X8_fives_1 : zDc M_X8_fives 1 (.istore_n 1) 1 2 := ⟨by decide +kernel, rfl⟩
theorem d_X8_fives_2 : zDc M_X8_fives 2 (.iconst 0) 1 3 := ⟨by decide +kernel, rfl⟩
theorem d_X8_fives_3 : zDc M_X8_fives 3 (.istore_n 2) 1 4 := ⟨by decide +kernel, rfl⟩
theorem d_X8_fives_4 : zDc M_X8_fives 4 (.iload_n 2) 1 5 := ⟨by decide +kernel, rfl⟩
theorem d_X8_fives_5 : zDc M_X8_fives 5 (.iload_n 0) 1 6 := ⟨by decide +kernel, rfl⟩
theorem d_X8_fives_6 : zDj M_X8_fives 6 (.if_icmp .ge 13) 13 9 19 := ⟨by decide +kernel, rfl, by decide⟩
theorem d_X8_fives_9 : zDc M_X8_fives 9 (.iload_n 1) 1 10 := ⟨by decide +kernel, rfl⟩
theorem d_X8_fives_10 : zDc M_X8_fives 10 (.iconst 5) 1 11 := ⟨by decide +kernel, rfl⟩
theorem d_X8_fives_11 : zDc M_X8_fives 11 (.imul) 1 12 := ⟨by decide +kernel, rfl⟩
theorem d_X8_fives_12 : zDc M_X8_fives 12 (.istore_n 1) 1 13 := ⟨by decide +kernel, rfl⟩
theorem d_X8_fives_13 : zDc M_X8_fives 13 (.iinc 2 1) 3 16 := ⟨by decide +kernel, rfl⟩
theorem d_X8_fives_16 : zDj M_X8_fives 16 (.goto (-12)) (-12) 19 4 := ⟨by decide +kernel, rfl, by decide⟩
theorem d_X8_fives_19 : zDc M_X8_fives 19 (.iload_n 1) 1 20 := ⟨by decide +kernel, rfl⟩
theorem d_X8_fives_20 : zDc M_X8_fives 20 (.ireturn) 1 21 := ⟨by decide +kernel, rfl⟩
def f_X8_fives (a0 : Int32) (h0 : zHp) : Option (Int32 × zHp) :=
  zbd (
  zlp (σ := (Int32 × Int32)) (β := (Int32 × Int32)) zLF (fun s1 h2 =>
  if a0 ≤ s1.2 then
  some ((.inr (s1.1, s1.2)), h2)
  else
  some ((.inl ((s1.1 * 5), (s1.2 + 1))), h2)) (1, 0) h0) (fun e3 h4 =>
  some (e3.1, h4))
set_option maxRecDepth 100000 in
set_option maxHeartbeats 4000000 in
theorem t_X8_fives (a0 : Int32) (h0 : zHp) : ∀ (r : Int32) (h' : zHp), f_X8_fives a0 h0 = some (r, h') → zCt yX8_fives (.code yX8_fives cX8_fives 3 (some .int)) 1 60 0 0 [.int a0] h0 (some (.int r)) h' := by
  refine zct_of M_X8_fives yX8_fives (by decide) rfl rfl [.int a0] h0 (Nat.le_of_ble_eq_true rfl) (fun r => some (.int r)) (fun X => ?_)
  show zG X M_X8_fives (0, 0) 0 [(0, .int a0)] [] h0 (f_X8_fives a0 h0) (fun (r : Int32) h' => zKe X (some (.int r)) h')
  unfold f_X8_fives
  refine zg_iconst 1 rfl d_X8_fives_0 ?_
  refine zg_istore_n [(1, .int 1), (0, .int a0)] d_X8_fives_1 rfl (by decide) rfl ?_
  refine zg_iconst 0 rfl d_X8_fives_2 ?_
  refine zg_istore_n [(2, .int 0), (1, .int 1), (0, .int a0)] d_X8_fives_3 rfl (by decide) rfl ?_
  refine zg_bd (E := 19) (el := (fun (e3 : (Int32 × Int32)) => [(0, .int a0), (1, .int e3.1), (2, .int e3.2)])) (es := fun _ => []) (zg_sub [2, 1, 0] rfl (zg_lp (el := (fun (s1 : (Int32 × Int32)) => [(0, .int a0), (1, .int s1.1), (2, .int s1.2)])) (fun s1 h2 => ?_) (1, 0) h0)) (fun e3 h4 => ?_)
  · refine zg_iload_n 2 rfl d_X8_fives_4 ?_
    refine zg_iload_n 0 rfl d_X8_fives_5 ?_
    refine zg_icmp_ge d_X8_fives_6 ?_ ?_
    · exact zg_finK (E := 0) [0, 1, 2] rfl rfl (fun q => q)
    · refine zg_iload_n 1 rfl d_X8_fives_9 ?_
      refine zg_iconst 5 rfl d_X8_fives_10 ?_
      refine zg_imul d_X8_fives_11 ?_
      refine zg_istore_n [(1, .int (s1.1 * 5)), (0, .int a0), (2, .int s1.2)] d_X8_fives_12 rfl (by decide) rfl ?_
      refine zg_iinc 2 (s1.2 + 1) [(2, .int (s1.2 + 1)), (1, .int (s1.1 * 5)), (0, .int a0)] d_X8_fives_13 rfl rfl (by decide) rfl ?_
      refine zg_goto d_X8_fives_16 ?_
      exact zg_finK (E := 0) [2, 1, 0] rfl rfl (fun q => q)
  · refine zg_iload_n 1 rfl d_X8_fives_19 ?_
    exact zg_iretK d_X8_fives_20 rfl ⟨Nat.le_of_ble_eq_true rfl, Nat.le_of_ble_eq_true rfl⟩ (fun q => q)
abbrev M_X8_found : zMt := (RX8, cX8_found, 5, 1, 60, (some .int), "found", 0, 0)
theorem d_X8_found_0 : zDc M_X8_found 0 (.iconst 0) 1 1 := ⟨by decide +kernel, rfl⟩
theorem d_X8_found_1 : zDc M_X8_found 1 (.istore 4) 2 3 := ⟨by decide +kernel, rfl⟩
theorem d_X8_found_3 : zDc M_X8_found 3 (.iload 4) 2 5 := ⟨by decide +kernel, rfl⟩
theorem d_X8_found_5 : zDc M_X8_found 5 (.iload_n 2) 1 6 := ⟨by decide +kernel, rfl⟩
theorem d_X8_found_6 : zDj M_X8_found 6 (.if_icmp .ge 22) 22 9 28 := ⟨by decide +kernel, rfl, by decide⟩
theorem d_X8_found_9 : zDc M_X8_found 9 (.aload_n 0) 1 10 := ⟨by decide +kernel, rfl⟩
theorem d_X8_found_10 : zDc M_X8_found 10 (.iload_n 1) 1 11 := ⟨by decide +kernel, rfl⟩
theorem d_X8_found_11 : zDc M_X8_found 11 (.iload 4) 2 13 := ⟨by decide +kernel, rfl⟩
theorem d_X8_found_13 : zDc M_X8_found 13 (.iadd) 1 14 := ⟨by decide +kernel, rfl⟩
theorem d_X8_found_14 : zDc M_X8_found 14 (.iaload) 1 15 := ⟨by decide +kernel, rfl⟩
theorem d_X8_found_15 : zDc M_X8_found 15 (.iload_n 3) 1 16 := ⟨by decide +kernel, rfl⟩
theorem d_X8_found_16 : zDj M_X8_found 16 (.if_icmp .ne 6) 6 19 22 := ⟨by decide +kernel, rfl, by decide⟩
theorem d_X8_found_19 : zDc M_X8_found 19 (.iload 4) 2 21 := ⟨by decide +kernel, rfl⟩
theorem d_X8_found_21 : zDc M_X8_found 21 (.ireturn) 1 22 := ⟨by decide +kernel, rfl⟩
theorem d_X8_found_22 : zDc M_X8_found 22 (.iinc 4 1) 3 25 := ⟨by decide +kernel, rfl⟩
theorem d_X8_found_25 : zDj M_X8_found 25 (.goto (-22)) (-22) 28 3 := ⟨by decide +kernel, rfl, by decide⟩
theorem d_X8_found_28 : zDc M_X8_found 28 (.iconst (-1)) 1 29 := ⟨by decide +kernel, rfl⟩
theorem d_X8_found_29 : zDc M_X8_found 29 (.ireturn) 1 30 := ⟨by decide +kernel, rfl⟩
def f_X8_found (a0 : Nat) (a1 : Int32) (a2 : Int32) (a3 : Int32) (h0 : zHp) : Option (Int32 × zHp) :=
  zbd (
  zlp (σ := Int32) (β := (Int32 ⊕ Int32)) zLF (fun s1 h2 =>
  if a2 ≤ s1 then
  some ((.inr (.inl s1)), h2)
  else
  zob (zaI 0 h2 a0 (a1 + s1)) (fun v5 =>
  if v5 = a3 then
  some ((.inr (.inr s1)), h2)
  else
  some ((.inl (s1 + 1)), h2))) 0 h0) (fun b6 h4 => zsl b6 (fun e3 =>
  some ((-1), h4)) (fun r => some (r, h4)))
set_option maxRecDepth 100000 in
set_option maxHeartbeats 4000000 in
theorem t_X8_found (a0 : Nat) (a1 : Int32) (a2 : Int32) (a3 : Int32) (h0 : zHp) : ∀ (r : Int32) (h' : zHp), f_X8_found a0 a1 a2 a3 h0 = some (r, h') → zCt yX8_found (.code yX8_found cX8_found 5 (some .int)) 1 60 0 0 [.ref a0, .int a1, .int a2, .int a3] h0 (some (.int r)) h' := by
  refine zct_of M_X8_found yX8_found (by decide) rfl rfl [.ref a0, .int a1, .int a2, .int a3] h0 (Nat.le_of_ble_eq_true rfl) (fun r => some (.int r)) (fun X => ?_)
  show zG X M_X8_found (0, 0) 0 [(0, .ref a0), (1, .int a1), (2, .int a2), (3, .int a3)] [] h0 (f_X8_found a0 a1 a2 a3 h0) (fun (r : Int32) h' => zKe X (some (.int r)) h')
  unfold f_X8_found
  refine zg_iconst 0 rfl d_X8_found_0 ?_
  refine zg_istore [(4, .int 0), (0, .ref a0), (1, .int a1), (2, .int a2), (3, .int a3)] d_X8_found_1 (by decide) rfl ?_
  refine zg_bdr (E := 28) (el := (fun (e3 : Int32) => [(0, .ref a0), (1, .int a1), (2, .int a2), (3, .int a3), (4, .int e3)])) (es := fun _ => []) (zg_sub [1, 2, 3, 4, 0] rfl (zg_lp (el := (fun (s1 : Int32) => [(0, .ref a0), (1, .int a1), (2, .int a2), (3, .int a3), (4, .int s1)])) (fun s1 h2 => ?_) 0 h0)) (fun e3 h4 => ?_)
  · refine zg_iload 4 rfl d_X8_found_3 ?_
    refine zg_iload_n 2 rfl d_X8_found_5 ?_
    refine zg_icmp_ge d_X8_found_6 ?_ ?_
    · exact zg_finK (E := 0) [0, 1, 2, 3, 4] rfl rfl (fun q => q)
    · refine zg_aload_n 0 rfl d_X8_found_9 ?_
      refine zg_iload_n 1 rfl d_X8_found_10 ?_
      refine zg_iload 4 rfl d_X8_found_11 ?_
      refine zg_iadd d_X8_found_13 ?_
      refine zg_ald0 d_X8_found_14 (fun v5 => ?_)
      refine zg_iload_n 3 rfl d_X8_found_15 ?_
      refine zg_icmp_ne d_X8_found_16 ?_ ?_
      · refine zg_iload 4 rfl d_X8_found_19 ?_
        exact zg_iretK d_X8_found_21 rfl ⟨Nat.le_of_ble_eq_true rfl, Nat.le_of_ble_eq_true rfl⟩ (fun q => q)
      · refine zg_iinc 4 (s1 + 1) [(4, .int (s1 + 1)), (0, .ref a0), (1, .int a1), (2, .int a2), (3, .int a3)] d_X8_found_22 rfl rfl (by decide) rfl ?_
        refine zg_goto d_X8_found_25 ?_
        exact zg_finK (E := 0) [1, 2, 3, 4, 0] rfl rfl (fun q => q)
  · refine zg_iconst (-1) rfl d_X8_found_28 ?_
    exact zg_iretK d_X8_found_29 rfl ⟨Nat.le_of_ble_eq_true rfl, Nat.le_of_ble_eq_true rfl⟩ (fun q => q)
abbrev M_X8_give : zMt := (RX8, cX8_give, 3, 3, 106, (some .boolean), "give", 0, 0)
theorem d_X8_give_0 : zDc M_X8_give 0 (.aload_n 0) 1 1 := ⟨by decide +kernel, rfl⟩
theorem d_X8_give_1 : zDc M_X8_give 1 (.iconst 0) 1 2 := ⟨by decide +kernel, rfl⟩
theorem d_X8_give_2 : zDc M_X8_give 2 (.putfield 151) 3 5 := ⟨by decide +kernel, rfl⟩
theorem d_X8_give_5 : zDc M_X8_give 5 (.aload_n 0) 1 6 := ⟨by decide +kernel, rfl⟩
theorem d_X8_give_6 : zDc M_X8_give 6 (.iload_n 1) 1 7 := ⟨by decide +kernel, rfl⟩
theorem d_X8_give_7 : zDc M_X8_give 7 (.invokevirtual 422) 3 10 := ⟨by decide +kernel, rfl⟩
theorem d_X8_give_10 : zDj M_X8_give 10 (.ifCond .eq 35) 35 13 45 := ⟨by decide +kernel, rfl, by decide⟩
theorem d_X8_give_13 : zDc M_X8_give 13 (.iload_n 2) 1 14 := ⟨by decide +kernel, rfl⟩
theorem d_X8_give_14 : zDc M_X8_give 14 (.iconst (-1)) 1 15 := ⟨by decide +kernel, rfl⟩
theorem d_X8_give_15 : zDj M_X8_give 15 (.if_icmp .eq 11) 11 18 26 := ⟨by decide +kernel, rfl, by decide⟩
theorem d_X8_give_18 : zDc M_X8_give 18 (.aload_n 0) 1 19 := ⟨by decide +kernel, rfl⟩
theorem d_X8_give_19 : zDc M_X8_give 19 (.iload_n 2) 1 20 := ⟨by decide +kernel, rfl⟩
theorem d_X8_give_20 : zDc M_X8_give 20 (.invokevirtual 425) 3 23 := ⟨by decide +kernel, rfl⟩
theorem d_X8_give_23 : zDj M_X8_give 23 (.ifCond .eq 22) 22 26 45 := ⟨by decide +kernel, rfl, by decide⟩
theorem d_X8_give_26 : zDc M_X8_give 26 (.aload_n 0) 1 27 := ⟨by decide +kernel, rfl⟩
theorem d_X8_give_27 : zDc M_X8_give 27 (.iconst 0) 1 28 := ⟨by decide +kernel, rfl⟩
theorem d_X8_give_28 : zDc M_X8_give 28 (.iload_n 1) 1 29 := ⟨by decide +kernel, rfl⟩
theorem d_X8_give_29 : zDc M_X8_give 29 (.invokevirtual 351) 3 32 := ⟨by decide +kernel, rfl⟩
theorem d_X8_give_32 : zDj M_X8_give 32 (.ifCond .eq 13) 13 35 45 := ⟨by decide +kernel, rfl, by decide⟩
theorem d_X8_give_35 : zDc M_X8_give 35 (.aload_n 0) 1 36 := ⟨by decide +kernel, rfl⟩
theorem d_X8_give_36 : zDc M_X8_give 36 (.getfield 90) 3 39 := ⟨by decide +kernel, rfl⟩
theorem d_X8_give_39 : zDc M_X8_give 39 (.iload_n 1) 1 40 := ⟨by decide +kernel, rfl⟩
theorem d_X8_give_40 : zDc M_X8_give 40 (.iaload) 1 41 := ⟨by decide +kernel, rfl⟩
theorem d_X8_give_41 : zDc M_X8_give 41 (.iload_n 2) 1 42 := ⟨by decide +kernel, rfl⟩
theorem d_X8_give_42 : zDj M_X8_give 42 (.if_icmp .ne 5) 5 45 47 := ⟨by decide +kernel, rfl, by decide⟩
theorem d_X8_give_45 : zDc M_X8_give 45 (.iconst 0) 1 46 := ⟨by decide +kernel, rfl⟩
theorem d_X8_give_46 : zDc M_X8_give 46 (.ireturn) 1 47 := ⟨by decide +kernel, rfl⟩
theorem d_X8_give_47 : zDc M_X8_give 47 (.aload_n 0) 1 48 := ⟨by decide +kernel, rfl⟩
theorem d_X8_give_48 : zDc M_X8_give 48 (.invokevirtual 444) 3 51 := ⟨by decide +kernel, rfl⟩
theorem d_X8_give_51 : zDc M_X8_give 51 (.aload_n 0) 1 52 := ⟨by decide +kernel, rfl⟩
theorem d_X8_give_52 : zDc M_X8_give 52 (.getfield 90) 3 55 := ⟨by decide +kernel, rfl⟩
theorem d_X8_give_55 : zDc M_X8_give 55 (.iload_n 1) 1 56 := ⟨by decide +kernel, rfl⟩
theorem d_X8_give_56 : zDc M_X8_give 56 (.iload_n 2) 1 57 := ⟨by decide +kernel, rfl⟩
theorem d_X8_give_57 : zDc M_X8_give 57 (.iastore) 1 58 := ⟨by decide +kernel, rfl⟩
theorem d_X8_give_58 : zDc M_X8_give 58 (.iconst 1) 1 59 := ⟨by decide +kernel, rfl⟩
theorem d_X8_give_59 : zDc M_X8_give 59 (.ireturn) 1 60 := ⟨by decide +kernel, rfl⟩
def f_X8_give (a0 : Nat) (a1 : Int32) (a2 : Int32) (h0 : zHp) : Option (Int32 × zHp) :=
  zob (zpV h0 a0 8 0 (.int 0)) (fun h1 =>
  zbd (zcv 8 a0 h1 (f_X8_isCloud a0 a1 h1)) (fun v3 h2 =>
  if v3 = 0 then
  some (0, h2)
  else
  if a2 = (-1) then
  zbd (zcv 8 a0 h2 (f_X8_isUp a0 0 a1 h2)) (fun v5 h4 =>
  if v5 = 0 then
  some (0, h4)
  else
  zob (zgR h4 a0 8 41) (fun v6 =>
  zob (zaI 0 h4 v6 a1) (fun v7 =>
  if v7 = a2 then
  some (0, h4)
  else
  zbd (zcv 8 a0 h4 (f_X8_keepNow a0 h4)) (fun v9 h8 =>
  zob (zgR h8 a0 8 41) (fun v10 =>
  zob (zsI 0 h8 v10 a1 a2) (fun h11 =>
  some (1, h11)))))))
  else
  zbd (zcv 8 a0 h2 (f_X8_isChild a0 a2 h2)) (fun v13 h12 =>
  if v13 = 0 then
  some (0, h12)
  else
  zbd (zcv 8 a0 h12 (f_X8_isUp a0 0 a1 h12)) (fun v15 h14 =>
  if v15 = 0 then
  some (0, h14)
  else
  zob (zgR h14 a0 8 41) (fun v16 =>
  zob (zaI 0 h14 v16 a1) (fun v17 =>
  if v17 = a2 then
  some (0, h14)
  else
  zbd (zcv 8 a0 h14 (f_X8_keepNow a0 h14)) (fun v19 h18 =>
  zob (zgR h18 a0 8 41) (fun v20 =>
  zob (zsI 0 h18 v20 a1 a2) (fun h21 =>
  some (1, h21))))))))))
set_option maxRecDepth 100000 in
set_option maxHeartbeats 4000000 in
theorem t_X8_give (a0 : Nat) (a1 : Int32) (a2 : Int32) (h0 : zHp) : ∀ (r : Int32) (h' : zHp), f_X8_give a0 a1 a2 h0 = some (r, h') → zCt yX8_give (.code yX8_give cX8_give 3 (some .boolean)) 3 106 0 0 [.ref a0, .int a1, .int a2] h0 (some (.int r)) h' := by
  refine zct_of M_X8_give yX8_give (by decide) rfl rfl [.ref a0, .int a1, .int a2] h0 (Nat.le_of_ble_eq_true rfl) (fun r => some (.int r)) (fun X => ?_)
  show zG X M_X8_give (0, 0) 0 [(0, .ref a0), (1, .int a1), (2, .int a2)] [] h0 (f_X8_give a0 a1 a2 h0) (fun (r : Int32) h' => zKe X (some (.int r)) h')
  unfold f_X8_give
  refine zg_aload_n 0 rfl d_X8_give_0 ?_
  refine zg_iconst 0 rfl d_X8_give_1 ?_
  refine zg_putV d_X8_give_2 zc_8 (by decide) fl_X8_151 rfl rfl rfl (fun h1 => ?_)
  refine zg_aload_n 0 rfl d_X8_give_5 ?_
  refine zg_iload_n 1 rfl d_X8_give_6 ?_
  refine zg_cVi (b := a0) (As := [.int a1]) (rest := []) (0, 0) d_X8_give_7 zc_8 rfl cw_X8_422 wi_X8_isCloud ws_X8_isCloud rfl rfl (Nat.le_of_ble_eq_true rfl) (by decide) (by decide) ⟨by decide, by decide⟩ rfl (t_X8_isCloud a0 a1 h1) (fun v3 h2 => ?_)
  refine zg_if_eq d_X8_give_10 ?_ ?_
  · refine zg_iconst 0 rfl d_X8_give_45 ?_
    exact zg_zretK d_X8_give_46 rfl ⟨Nat.le_of_ble_eq_true rfl, Nat.le_of_ble_eq_true rfl⟩ (Or.inl rfl) (fun q => q)
  · refine zg_iload_n 2 rfl d_X8_give_13 ?_
    refine zg_iconst (-1) rfl d_X8_give_14 ?_
    refine zg_icmp_eq d_X8_give_15 ?_ ?_
    · refine zg_aload_n 0 rfl d_X8_give_26 ?_
      refine zg_iconst 0 rfl d_X8_give_27 ?_
      refine zg_iload_n 1 rfl d_X8_give_28 ?_
      refine zg_cVi (b := a0) (As := [.int 0, .int a1]) (rest := []) (0, 0) d_X8_give_29 zc_8 rfl cw_X8_351 wi_X8_isUp ws_X8_isUp rfl rfl (Nat.le_of_ble_eq_true rfl) (by decide) (by decide) ⟨by decide, by decide⟩ rfl (t_X8_isUp a0 0 a1 h2) (fun v5 h4 => ?_)
      refine zg_if_eq d_X8_give_32 ?_ ?_
      · refine zg_iconst 0 rfl d_X8_give_45 ?_
        exact zg_zretK d_X8_give_46 rfl ⟨Nat.le_of_ble_eq_true rfl, Nat.le_of_ble_eq_true rfl⟩ (Or.inl rfl) (fun q => q)
      · refine zg_aload_n 0 rfl d_X8_give_35 ?_
        refine zg_getR d_X8_give_36 zc_8 (by decide) fl_X8_90 (fun v6 => ?_)
        refine zg_iload_n 1 rfl d_X8_give_39 ?_
        refine zg_ald0 d_X8_give_40 (fun v7 => ?_)
        refine zg_iload_n 2 rfl d_X8_give_41 ?_
        refine zg_icmp_ne d_X8_give_42 ?_ ?_
        · refine zg_iconst 0 rfl d_X8_give_45 ?_
          exact zg_zretK d_X8_give_46 rfl ⟨Nat.le_of_ble_eq_true rfl, Nat.le_of_ble_eq_true rfl⟩ (Or.inl rfl) (fun q => q)
        · refine zg_aload_n 0 rfl d_X8_give_47 ?_
          refine zg_cVv (b := a0) (As := []) (rest := []) (0, 0) d_X8_give_48 zc_8 rfl cw_X8_444 wi_X8_keepNow ws_X8_keepNow rfl rfl (Nat.le_of_ble_eq_true rfl) (by decide) (by decide) ⟨by decide, by decide⟩ rfl (t_X8_keepNow a0 h4) (fun v9 h8 => ?_)
          refine zg_aload_n 0 rfl d_X8_give_51 ?_
          refine zg_getR d_X8_give_52 zc_8 (by decide) fl_X8_90 (fun v10 => ?_)
          refine zg_iload_n 1 rfl d_X8_give_55 ?_
          refine zg_iload_n 2 rfl d_X8_give_56 ?_
          refine zg_ast0 d_X8_give_57 (fun h11 => ?_)
          refine zg_iconst 1 rfl d_X8_give_58 ?_
          exact zg_zretK d_X8_give_59 rfl ⟨Nat.le_of_ble_eq_true rfl, Nat.le_of_ble_eq_true rfl⟩ (Or.inr rfl) (fun q => q)
    · refine zg_aload_n 0 rfl d_X8_give_18 ?_
      refine zg_iload_n 2 rfl d_X8_give_19 ?_
      refine zg_cVi (b := a0) (As := [.int a2]) (rest := []) (0, 0) d_X8_give_20 zc_8 rfl cw_X8_425 wi_X8_isChild ws_X8_isChild rfl rfl (Nat.le_of_ble_eq_true rfl) (by decide) (by decide) ⟨by decide, by decide⟩ rfl (t_X8_isChild a0 a2 h2) (fun v13 h12 => ?_)
      refine zg_if_eq d_X8_give_23 ?_ ?_
      · refine zg_iconst 0 rfl d_X8_give_45 ?_
        exact zg_zretK d_X8_give_46 rfl ⟨Nat.le_of_ble_eq_true rfl, Nat.le_of_ble_eq_true rfl⟩ (Or.inl rfl) (fun q => q)
      · refine zg_aload_n 0 rfl d_X8_give_26 ?_
        refine zg_iconst 0 rfl d_X8_give_27 ?_
        refine zg_iload_n 1 rfl d_X8_give_28 ?_
        refine zg_cVi (b := a0) (As := [.int 0, .int a1]) (rest := []) (0, 0) d_X8_give_29 zc_8 rfl cw_X8_351 wi_X8_isUp ws_X8_isUp rfl rfl (Nat.le_of_ble_eq_true rfl) (by decide) (by decide) ⟨by decide, by decide⟩ rfl (t_X8_isUp a0 0 a1 h12) (fun v15 h14 => ?_)
        refine zg_if_eq d_X8_give_32 ?_ ?_
        · refine zg_iconst 0 rfl d_X8_give_45 ?_
          exact zg_zretK d_X8_give_46 rfl ⟨Nat.le_of_ble_eq_true rfl, Nat.le_of_ble_eq_true rfl⟩ (Or.inl rfl) (fun q => q)
        · refine zg_aload_n 0 rfl d_X8_give_35 ?_
          refine zg_getR d_X8_give_36 zc_8 (by decide) fl_X8_90 (fun v16 => ?_)
          refine zg_iload_n 1 rfl d_X8_give_39 ?_
          refine zg_ald0 d_X8_give_40 (fun v17 => ?_)
          refine zg_iload_n 2 rfl d_X8_give_41 ?_
          refine zg_icmp_ne d_X8_give_42 ?_ ?_
          · refine zg_iconst 0 rfl d_X8_give_45 ?_
            exact zg_zretK d_X8_give_46 rfl ⟨Nat.le_of_ble_eq_true rfl, Nat.le_of_ble_eq_true rfl⟩ (Or.inl rfl) (fun q => q)
          · refine zg_aload_n 0 rfl d_X8_give_47 ?_
            refine zg_cVv (b := a0) (As := []) (rest := []) (0, 0) d_X8_give_48 zc_8 rfl cw_X8_444 wi_X8_keepNow ws_X8_keepNow rfl rfl (Nat.le_of_ble_eq_true rfl) (by decide) (by decide) ⟨by decide, by decide⟩ rfl (t_X8_keepNow a0 h14) (fun v19 h18 => ?_)
            refine zg_aload_n 0 rfl d_X8_give_51 ?_
            refine zg_getR d_X8_give_52 zc_8 (by decide) fl_X8_90 (fun v20 => ?_)
            refine zg_iload_n 1 rfl d_X8_give_55 ?_
            refine zg_iload_n 2 rfl d_X8_give_56 ?_
            refine zg_ast0 d_X8_give_57 (fun h21 => ?_)
            refine zg_iconst 1 rfl d_X8_give_58 ?_
            exact zg_zretK d_X8_give_59 rfl ⟨Nat.le_of_ble_eq_true rfl, Nat.le_of_ble_eq_true rfl⟩ (Or.inr rfl) (fun q => q)
abbrev M_X8_ground : zMt := (RX8, cX8_ground, 3, 2, 81, (some .int), "ground", 0, 0)
theorem d_X8_ground_0 : zDc M_X8_ground 0 (.aload_n 0) 1 1 := ⟨by decide +kernel, rfl⟩
theorem d_X8_ground_1 : zDc M_X8_ground 1 (.iconst 0) 1 2 := ⟨by decide +kernel, rfl⟩
theorem d_X8_ground_2 : zDc M_X8_ground 2 (.putfield 151) 3 5 := ⟨by decide +kernel, rfl⟩
theorem d_X8_ground_5 : zDc M_X8_ground 5 (.iload_n 1) 1 6 := ⟨by decide +kernel, rfl⟩
theorem d_X8_ground_6 : zDc M_X8_ground 6 (.iload_n 2) 1 7 := ⟨by decide +kernel, rfl⟩
theorem d_X8_ground_7 : zDc M_X8_ground 7 (.invokestatic 378) 3 10 := ⟨by decide +kernel, rfl⟩
theorem d_X8_ground_10 : zDj M_X8_ground 10 (.ifCond .eq 17) 17 13 27 := ⟨by decide +kernel, rfl, by decide⟩
theorem d_X8_ground_13 : zDc M_X8_ground 13 (.aload_n 0) 1 14 := ⟨by decide +kernel, rfl⟩
theorem d_X8_ground_14 : zDc M_X8_ground 14 (.getfield 16) 3 17 := ⟨by decide +kernel, rfl⟩
theorem d_X8_ground_17 : zDc M_X8_ground 17 (.bipush 6) 2 19 := ⟨by decide +kernel, rfl⟩
theorem d_X8_ground_19 : zDc M_X8_ground 19 (.iload_n 2) 1 20 := ⟨by decide +kernel, rfl⟩
theorem d_X8_ground_20 : zDc M_X8_ground 20 (.imul) 1 21 := ⟨by decide +kernel, rfl⟩
theorem d_X8_ground_21 : zDc M_X8_ground 21 (.iload_n 1) 1 22 := ⟨by decide +kernel, rfl⟩
theorem d_X8_ground_22 : zDc M_X8_ground 22 (.iadd) 1 23 := ⟨by decide +kernel, rfl⟩
theorem d_X8_ground_23 : zDc M_X8_ground 23 (.iaload) 1 24 := ⟨by decide +kernel, rfl⟩
theorem d_X8_ground_24 : zDj M_X8_ground 24 (.goto 4) 4 27 28 := ⟨by decide +kernel, rfl, by decide⟩
theorem d_X8_ground_27 : zDc M_X8_ground 27 (.iconst (-1)) 1 28 := ⟨by decide +kernel, rfl⟩
theorem d_X8_ground_28 : zDc M_X8_ground 28 (.ireturn) 1 29 := ⟨by decide +kernel, rfl⟩
def f_X8_ground (a0 : Nat) (a1 : Int32) (a2 : Int32) (h0 : zHp) : Option (Int32 × zHp) :=
  zob (zpV h0 a0 8 0 (.int 0)) (fun h1 =>
  zbd ((f_X8_isCell a1 a2 h1)) (fun v3 h2 =>
  if v3 = 0 then
  some ((-1), h2)
  else
  zob (zgR h2 a0 8 4) (fun v4 =>
  zob (zaI 0 h2 v4 ((6 * a2) + a1)) (fun v5 =>
  some (v5, h2)))))
set_option maxRecDepth 100000 in
set_option maxHeartbeats 4000000 in
theorem t_X8_ground (a0 : Nat) (a1 : Int32) (a2 : Int32) (h0 : zHp) : ∀ (r : Int32) (h' : zHp), f_X8_ground a0 a1 a2 h0 = some (r, h') → zCt yX8_ground (.code yX8_ground cX8_ground 3 (some .int)) 2 81 0 0 [.ref a0, .int a1, .int a2] h0 (some (.int r)) h' := by
  refine zct_of M_X8_ground yX8_ground (by decide) rfl rfl [.ref a0, .int a1, .int a2] h0 (Nat.le_of_ble_eq_true rfl) (fun r => some (.int r)) (fun X => ?_)
  show zG X M_X8_ground (0, 0) 0 [(0, .ref a0), (1, .int a1), (2, .int a2)] [] h0 (f_X8_ground a0 a1 a2 h0) (fun (r : Int32) h' => zKe X (some (.int r)) h')
  unfold f_X8_ground
  refine zg_aload_n 0 rfl d_X8_ground_0 ?_
  refine zg_iconst 0 rfl d_X8_ground_1 ?_
  refine zg_putV d_X8_ground_2 zc_8 (by decide) fl_X8_151 rfl rfl rfl (fun h1 => ?_)
  refine zg_iload_n 1 rfl d_X8_ground_5 ?_
  refine zg_iload_n 2 rfl d_X8_ground_6 ?_
  refine zg_cSi (As := [.int a1, .int a2]) (rest := []) (0, 0) d_X8_ground_7 cw_X8_378 wt_X8_isCell rfl rfl (Nat.le_of_ble_eq_true rfl) (by decide) (by decide) ⟨by decide, by decide⟩ rfl (t_X8_isCell a1 a2 h1) (fun v3 h2 => ?_)
  refine zg_if_eq d_X8_ground_10 ?_ ?_
  · refine zg_iconst (-1) rfl d_X8_ground_27 ?_
    exact zg_iretK d_X8_ground_28 rfl ⟨Nat.le_of_ble_eq_true rfl, Nat.le_of_ble_eq_true rfl⟩ (fun q => q)
  · refine zg_aload_n 0 rfl d_X8_ground_13 ?_
    refine zg_getR d_X8_ground_14 zc_8 (by decide) fl_X8_16 (fun v4 => ?_)
    refine zg_bipush 6 rfl d_X8_ground_17 ?_
    refine zg_iload_n 2 rfl d_X8_ground_19 ?_
    refine zg_imul d_X8_ground_20 ?_
    refine zg_iload_n 1 rfl d_X8_ground_21 ?_
    refine zg_iadd d_X8_ground_22 ?_
    refine zg_ald0 d_X8_ground_23 (fun v5 => ?_)
    refine zg_goto d_X8_ground_24 ?_
    exact zg_iretK d_X8_ground_28 rfl ⟨Nat.le_of_ble_eq_true rfl, Nat.le_of_ble_eq_true rfl⟩ (fun q => q)
abbrev M_X8_half : zMt := (RX8, cX8_half, 3, 1, 60, none, "half", 0, 0)
theorem d_X8_half_0 : zDc M_X8_half 0 (.aload_n 0) 1 1 := ⟨by decide +kernel, rfl⟩
theorem d_X8_half_1 : zDc M_X8_half 1 (.arraylength) 1 2 := ⟨by decide +kernel, rfl⟩
theorem d_X8_half_2 : zDc M_X8_half 2 (.iconst 2) 1 3 := ⟨by decide +kernel, rfl⟩
theorem d_X8_half_3 : zDc M_X8_half 3 (.idiv) 1 4 := ⟨by decide +kernel, rfl⟩
theorem d_X8_half_4 : zDc M_X8_half 4 (.istore_n 1) 1 5 := ⟨by decide +kernel, rfl⟩
theorem d_X8_half_5 : zDc M_X8_half 5 (.iconst 0) 1 6 := ⟨by decide +kernel, rfl⟩
theorem d_X8_half_6 : zDc M_X8_half 6 (.istore_n 2) 1 7 := ⟨by decide +kernel, rfl⟩
theorem d_X8_half_7 : zDc M_X8_half 7 (.iload_n 2) 1 8 := ⟨by decide +kernel, rfl⟩
theorem d_X8_half_8 : zDc M_X8_half 8 (.iload_n 1) 1 9 := ⟨by decide +kernel, rfl⟩
theorem d_X8_half_9 : zDj M_X8_half 9 (.if_icmp .ge 17) 17 12 26 := ⟨by decide +kernel, rfl, by decide⟩
theorem d_X8_half_12 : zDc M_X8_half 12 (.aload_n 0) 1 13 := ⟨by decide +kernel, rfl⟩
theorem d_X8_half_13 : zDc M_X8_half 13 (.iload_n 2) 1 14 := ⟨by decide +kernel, rfl⟩
theorem d_X8_half_14 : zDc M_X8_half 14 (.aload_n 0) 1 15 := ⟨by decide +kernel, rfl⟩
theorem d_X8_half_15 : zDc M_X8_half 15 (.iload_n 1) 1 16 := ⟨by decide +kernel, rfl⟩
theorem d_X8_half_16 : zDc M_X8_half 16 (.iload_n 2) 1 17 := ⟨by decide +kernel, rfl⟩
theorem d_X8_half_17 : zDc M_X8_half 17 (.iadd) 1 18 := ⟨by decide +kernel, rfl⟩
theorem d_X8_half_18 : zDc M_X8_half 18 (.iaload) 1 19 := ⟨by decide +kernel, rfl⟩
theorem d_X8_half_19 : zDc M_X8_half 19 (.iastore) 1 20 := ⟨by decide +kernel, rfl⟩
theorem d_X8_half_20 : zDc M_X8_half 20 (.iinc 2 1) 3 23 := ⟨by decide +kernel, rfl⟩
theorem d_X8_half_23 : zDj M_X8_half 23 (.goto (-16)) (-16) 26 7 := ⟨by decide +kernel, rfl, by decide⟩
theorem d_X8_half_26 : zDc M_X8_half 26 (.return_) 1 27 := ⟨by decide +kernel, rfl⟩
def f_X8_half (a0 : Nat) (h0 : zHp) : Option (Unit × zHp) :=
  zob (zln h0 a0) (fun v1 =>
  zbd (
  zlp (σ := Int32) (β := Int32) zLF (fun s2 h3 =>
  if (v1 / 2) ≤ s2 then
  some ((.inr s2), h3)
  else
  zob (zaI 0 h3 a0 ((v1 / 2) + s2)) (fun v6 =>
  zob (zsI 0 h3 a0 s2 v6) (fun h7 =>
  some ((.inl (s2 + 1)), h7)))) 0 h0) (fun e4 h5 =>
  some ((), h5)))
set_option maxRecDepth 100000 in
set_option maxHeartbeats 4000000 in
theorem t_X8_half (a0 : Nat) (h0 : zHp) : ∀ (r : Unit) (h' : zHp), f_X8_half a0 h0 = some (r, h') → zCt yX8_half (.code yX8_half cX8_half 3 none) 1 60 0 0 [.ref a0] h0 (none) h' := by
  refine zct_of M_X8_half yX8_half (by decide) rfl rfl [.ref a0] h0 (Nat.le_of_ble_eq_true rfl) (fun _ => none) (fun X => ?_)
  show zG X M_X8_half (0, 0) 0 [(0, .ref a0)] [] h0 (f_X8_half a0 h0) (fun (_ : Unit) h' => zKe X (none) h')
  unfold f_X8_half
  refine zg_aload_n 0 rfl d_X8_half_0 ?_
  refine zg_len d_X8_half_1 (fun v1 => ?_)
  refine zg_iconst 2 rfl d_X8_half_2 ?_
  refine zg_idiv (by decide) d_X8_half_3 ?_
  refine zg_istore_n [(1, .int (v1 / 2)), (0, .ref a0)] d_X8_half_4 rfl (by decide) rfl ?_
  refine zg_iconst 0 rfl d_X8_half_5 ?_
  refine zg_istore_n [(2, .int 0), (1, .int (v1 / 2)), (0, .ref a0)] d_X8_half_6 rfl (by decide) rfl ?_
  refine zg_bd (E := 26) (el := (fun (e4 : Int32) => [(0, .ref a0), (1, .int (v1 / 2)), (2, .int e4)])) (es := fun _ => []) (zg_sub [2, 1, 0] rfl (zg_lp (el := (fun (s2 : Int32) => [(0, .ref a0), (1, .int (v1 / 2)), (2, .int s2)])) (fun s2 h3 => ?_) 0 h0)) (fun e4 h5 => ?_)
  · refine zg_iload_n 2 rfl d_X8_half_7 ?_
    refine zg_iload_n 1 rfl d_X8_half_8 ?_
    refine zg_icmp_ge d_X8_half_9 ?_ ?_
    · exact zg_finK (E := 0) [0, 1, 2] rfl rfl (fun q => q)
    · refine zg_aload_n 0 rfl d_X8_half_12 ?_
      refine zg_iload_n 2 rfl d_X8_half_13 ?_
      refine zg_aload_n 0 rfl d_X8_half_14 ?_
      refine zg_iload_n 1 rfl d_X8_half_15 ?_
      refine zg_iload_n 2 rfl d_X8_half_16 ?_
      refine zg_iadd d_X8_half_17 ?_
      refine zg_ald0 d_X8_half_18 (fun v6 => ?_)
      refine zg_ast0 d_X8_half_19 (fun h7 => ?_)
      refine zg_iinc 2 (s2 + 1) [(2, .int (s2 + 1)), (0, .ref a0), (1, .int (v1 / 2))] d_X8_half_20 rfl rfl (by decide) rfl ?_
      refine zg_goto d_X8_half_23 ?_
      exact zg_finK (E := 0) [1, 2, 0] rfl rfl (fun q => q)
  · exact zg_vretK d_X8_half_26 rfl ⟨Nat.le_of_ble_eq_true rfl, Nat.le_of_ble_eq_true rfl⟩ (fun q => q)
abbrev M_X8_in : zMt := (RX8, cX8_in, 3, 3, 106, (some .int), "in", 0, 0)
theorem d_X8_in_0 : zDc M_X8_in 0 (.aload_n 0) 1 1 := ⟨by decide +kernel, rfl⟩
theorem d_X8_in_1 : zDc M_X8_in 1 (.iconst 0) 1 2 := ⟨by decide +kernel, rfl⟩
theorem d_X8_in_2 : zDc M_X8_in 2 (.putfield 151) 3 5 := ⟨by decide +kernel, rfl⟩
theorem d_X8_in_5 : zDc M_X8_in 5 (.iload_n 1) 1 6 := ⟨by decide +kernel, rfl⟩
theorem d_X8_in_6 : zDc M_X8_in 6 (.iload_n 2) 1 7 := ⟨by decide +kernel, rfl⟩
theorem d_X8_in_7 : zDc M_X8_in 7 (.invokestatic 378) 3 10 := ⟨by decide +kernel, rfl⟩
theorem d_X8_in_10 : zDj M_X8_in 10 (.ifCond .eq 17) 17 13 27 := ⟨by decide +kernel, rfl, by decide⟩
theorem d_X8_in_13 : zDc M_X8_in 13 (.aload_n 0) 1 14 := ⟨by decide +kernel, rfl⟩
theorem d_X8_in_14 : zDc M_X8_in 14 (.iconst 0) 1 15 := ⟨by decide +kernel, rfl⟩
theorem d_X8_in_15 : zDc M_X8_in 15 (.bipush 6) 2 17 := ⟨by decide +kernel, rfl⟩
theorem d_X8_in_17 : zDc M_X8_in 17 (.iload_n 2) 1 18 := ⟨by decide +kernel, rfl⟩
theorem d_X8_in_18 : zDc M_X8_in 18 (.imul) 1 19 := ⟨by decide +kernel, rfl⟩
theorem d_X8_in_19 : zDc M_X8_in 19 (.iload_n 1) 1 20 := ⟨by decide +kernel, rfl⟩
theorem d_X8_in_20 : zDc M_X8_in 20 (.iadd) 1 21 := ⟨by decide +kernel, rfl⟩
theorem d_X8_in_21 : zDc M_X8_in 21 (.invokevirtual 434) 3 24 := ⟨by decide +kernel, rfl⟩
theorem d_X8_in_24 : zDj M_X8_in 24 (.goto 4) 4 27 28 := ⟨by decide +kernel, rfl, by decide⟩
theorem d_X8_in_27 : zDc M_X8_in 27 (.iconst (-1)) 1 28 := ⟨by decide +kernel, rfl⟩
theorem d_X8_in_28 : zDc M_X8_in 28 (.ireturn) 1 29 := ⟨by decide +kernel, rfl⟩
def f_X8_in (a0 : Nat) (a1 : Int32) (a2 : Int32) (h0 : zHp) : Option (Int32 × zHp) :=
  zob (zpV h0 a0 8 0 (.int 0)) (fun h1 =>
  zbd ((f_X8_isCell a1 a2 h1)) (fun v3 h2 =>
  if v3 = 0 then
  some ((-1), h2)
  else
  zbd (zcv 8 a0 h2 (f_X8_upIn a0 0 ((6 * a2) + a1) h2)) (fun v5 h4 =>
  some (v5, h4))))
set_option maxRecDepth 100000 in
set_option maxHeartbeats 4000000 in
theorem t_X8_in (a0 : Nat) (a1 : Int32) (a2 : Int32) (h0 : zHp) : ∀ (r : Int32) (h' : zHp), f_X8_in a0 a1 a2 h0 = some (r, h') → zCt yX8_in (.code yX8_in cX8_in 3 (some .int)) 3 106 0 0 [.ref a0, .int a1, .int a2] h0 (some (.int r)) h' := by
  refine zct_of M_X8_in yX8_in (by decide) rfl rfl [.ref a0, .int a1, .int a2] h0 (Nat.le_of_ble_eq_true rfl) (fun r => some (.int r)) (fun X => ?_)
  show zG X M_X8_in (0, 0) 0 [(0, .ref a0), (1, .int a1), (2, .int a2)] [] h0 (f_X8_in a0 a1 a2 h0) (fun (r : Int32) h' => zKe X (some (.int r)) h')
  unfold f_X8_in
  refine zg_aload_n 0 rfl d_X8_in_0 ?_
  refine zg_iconst 0 rfl d_X8_in_1 ?_
  refine zg_putV d_X8_in_2 zc_8 (by decide) fl_X8_151 rfl rfl rfl (fun h1 => ?_)
  refine zg_iload_n 1 rfl d_X8_in_5 ?_
  refine zg_iload_n 2 rfl d_X8_in_6 ?_
  refine zg_cSi (As := [.int a1, .int a2]) (rest := []) (0, 0) d_X8_in_7 cw_X8_378 wt_X8_isCell rfl rfl (Nat.le_of_ble_eq_true rfl) (by decide) (by decide) ⟨by decide, by decide⟩ rfl (t_X8_isCell a1 a2 h1) (fun v3 h2 => ?_)
  refine zg_if_eq d_X8_in_10 ?_ ?_
  · refine zg_iconst (-1) rfl d_X8_in_27 ?_
    exact zg_iretK d_X8_in_28 rfl ⟨Nat.le_of_ble_eq_true rfl, Nat.le_of_ble_eq_true rfl⟩ (fun q => q)
  · refine zg_aload_n 0 rfl d_X8_in_13 ?_
    refine zg_iconst 0 rfl d_X8_in_14 ?_
    refine zg_bipush 6 rfl d_X8_in_15 ?_
    refine zg_iload_n 2 rfl d_X8_in_17 ?_
    refine zg_imul d_X8_in_18 ?_
    refine zg_iload_n 1 rfl d_X8_in_19 ?_
    refine zg_iadd d_X8_in_20 ?_
    refine zg_cVi (b := a0) (As := [.int 0, .int ((6 * a2) + a1)]) (rest := []) (0, 0) d_X8_in_21 zc_8 rfl cw_X8_434 wi_X8_upIn ws_X8_upIn rfl rfl (Nat.le_of_ble_eq_true rfl) (by decide) (by decide) ⟨by decide, by decide⟩ rfl (t_X8_upIn a0 0 ((6 * a2) + a1) h2) (fun v5 h4 => ?_)
    refine zg_goto d_X8_in_24 ?_
    exact zg_iretK d_X8_in_28 rfl ⟨Nat.le_of_ble_eq_true rfl, Nat.le_of_ble_eq_true rfl⟩ (fun q => q)
abbrev M_X8_isFull : zMt := (RX8, cX8_isFull, 2, 2, 81, (some .boolean), "isFull", 0, 0)
theorem d_X8_isFull_0 : zDc M_X8_isFull 0 (.iload_n 1) 1 1 := ⟨by decide +kernel, rfl⟩
theorem d_X8_isFull_1 : zDc M_X8_isFull 1 (.iconst 2) 1 2 := ⟨by decide +kernel, rfl⟩
theorem d_X8_isFull_2 : zDj M_X8_isFull 2 (.if_icmp .ne 12) 12 5 14 := ⟨by decide +kernel, rfl, by decide⟩
theorem d_X8_isFull_5 : zDc M_X8_isFull 5 (.aload_n 0) 1 6 := ⟨by decide +kernel, rfl⟩
theorem d_X8_isFull_6 : zDc M_X8_isFull 6 (.iconst 0) 1 7 := ⟨by decide +kernel, rfl⟩
theorem d_X8_isFull_7 : zDc M_X8_isFull 7 (.invokevirtual 225) 3 10 := ⟨by decide +kernel, rfl⟩
theorem d_X8_isFull_10 : zDc M_X8_isFull 10 (.iconst 5) 1 11 := ⟨by decide +kernel, rfl⟩
theorem d_X8_isFull_11 : zDj M_X8_isFull 11 (.if_icmp .eq 48) 48 14 59 := ⟨by decide +kernel, rfl, by decide⟩
theorem d_X8_isFull_14 : zDc M_X8_isFull 14 (.iload_n 1) 1 15 := ⟨by decide +kernel, rfl⟩
theorem d_X8_isFull_15 : zDc M_X8_isFull 15 (.iconst 3) 1 16 := ⟨by decide +kernel, rfl⟩
theorem d_X8_isFull_16 : zDj M_X8_isFull 16 (.if_icmp .ne 13) 13 19 29 := ⟨by decide +kernel, rfl, by decide⟩
theorem d_X8_isFull_19 : zDc M_X8_isFull 19 (.aload_n 0) 1 20 := ⟨by decide +kernel, rfl⟩
theorem d_X8_isFull_20 : zDc M_X8_isFull 20 (.iconst 1) 1 21 := ⟨by decide +kernel, rfl⟩
theorem d_X8_isFull_21 : zDc M_X8_isFull 21 (.invokevirtual 225) 3 24 := ⟨by decide +kernel, rfl⟩
theorem d_X8_isFull_24 : zDc M_X8_isFull 24 (.bipush 8) 2 26 := ⟨by decide +kernel, rfl⟩
theorem d_X8_isFull_26 : zDj M_X8_isFull 26 (.if_icmp .eq 33) 33 29 59 := ⟨by decide +kernel, rfl, by decide⟩
theorem d_X8_isFull_29 : zDc M_X8_isFull 29 (.iload_n 1) 1 30 := ⟨by decide +kernel, rfl⟩
theorem d_X8_isFull_30 : zDc M_X8_isFull 30 (.iconst 4) 1 31 := ⟨by decide +kernel, rfl⟩
theorem d_X8_isFull_31 : zDj M_X8_isFull 31 (.if_icmp .ne 13) 13 34 44 := ⟨by decide +kernel, rfl, by decide⟩
theorem d_X8_isFull_34 : zDc M_X8_isFull 34 (.aload_n 0) 1 35 := ⟨by decide +kernel, rfl⟩
theorem d_X8_isFull_35 : zDc M_X8_isFull 35 (.iconst 2) 1 36 := ⟨by decide +kernel, rfl⟩
theorem d_X8_isFull_36 : zDc M_X8_isFull 36 (.invokevirtual 225) 3 39 := ⟨by decide +kernel, rfl⟩
theorem d_X8_isFull_39 : zDc M_X8_isFull 39 (.bipush 6) 2 41 := ⟨by decide +kernel, rfl⟩
theorem d_X8_isFull_41 : zDj M_X8_isFull 41 (.if_icmp .eq 18) 18 44 59 := ⟨by decide +kernel, rfl, by decide⟩
theorem d_X8_isFull_44 : zDc M_X8_isFull 44 (.iload_n 1) 1 45 := ⟨by decide +kernel, rfl⟩
theorem d_X8_isFull_45 : zDc M_X8_isFull 45 (.iconst 5) 1 46 := ⟨by decide +kernel, rfl⟩
theorem d_X8_isFull_46 : zDj M_X8_isFull 46 (.if_icmp .ne 17) 17 49 63 := ⟨by decide +kernel, rfl, by decide⟩
theorem d_X8_isFull_49 : zDc M_X8_isFull 49 (.aload_n 0) 1 50 := ⟨by decide +kernel, rfl⟩
theorem d_X8_isFull_50 : zDc M_X8_isFull 50 (.iconst 3) 1 51 := ⟨by decide +kernel, rfl⟩
theorem d_X8_isFull_51 : zDc M_X8_isFull 51 (.invokevirtual 225) 3 54 := ⟨by decide +kernel, rfl⟩
theorem d_X8_isFull_54 : zDc M_X8_isFull 54 (.bipush 12) 2 56 := ⟨by decide +kernel, rfl⟩
theorem d_X8_isFull_56 : zDj M_X8_isFull 56 (.if_icmp .ne 7) 7 59 63 := ⟨by decide +kernel, rfl, by decide⟩
theorem d_X8_isFull_59 : zDc M_X8_isFull 59 (.iconst 1) 1 60 := ⟨by decide +kernel, rfl⟩
theorem d_X8_isFull_60 : zDj M_X8_isFull 60 (.goto 4) 4 63 64 := ⟨by decide +kernel, rfl, by decide⟩
theorem d_X8_isFull_63 : zDc M_X8_isFull 63 (.iconst 0) 1 64 := ⟨by decide +kernel, rfl⟩
theorem d_X8_isFull_64 : zDc M_X8_isFull 64 (.ireturn) 1 65 := ⟨by decide +kernel, rfl⟩
def f_X8_isFull (a0 : Nat) (a1 : Int32) (h0 : zHp) : Option (Int32 × zHp) :=
  if a1 = 2 then
  zbd (zcv 8 a0 h0 (f_X8_fresher a0 0 h0)) (fun v2 h1 =>
  if v2 = 5 then
  some (1, h1)
  else
  if a1 = 3 then
  zbd (zcv 8 a0 h1 (f_X8_fresher a0 1 h1)) (fun v4 h3 =>
  if v4 = 8 then
  some (1, h3)
  else
  if a1 = 4 then
  zbd (zcv 8 a0 h3 (f_X8_fresher a0 2 h3)) (fun v6 h5 =>
  if v6 = 6 then
  some (1, h5)
  else
  if a1 = 5 then
  zbd (zcv 8 a0 h5 (f_X8_fresher a0 3 h5)) (fun v8 h7 =>
  if v8 = 12 then
  some (1, h7)
  else
  some (0, h7))
  else
  some (0, h5))
  else
  if a1 = 5 then
  zbd (zcv 8 a0 h3 (f_X8_fresher a0 3 h3)) (fun v10 h9 =>
  if v10 = 12 then
  some (1, h9)
  else
  some (0, h9))
  else
  some (0, h3))
  else
  if a1 = 4 then
  zbd (zcv 8 a0 h1 (f_X8_fresher a0 2 h1)) (fun v12 h11 =>
  if v12 = 6 then
  some (1, h11)
  else
  if a1 = 5 then
  zbd (zcv 8 a0 h11 (f_X8_fresher a0 3 h11)) (fun v14 h13 =>
  if v14 = 12 then
  some (1, h13)
  else
  some (0, h13))
  else
  some (0, h11))
  else
  if a1 = 5 then
  zbd (zcv 8 a0 h1 (f_X8_fresher a0 3 h1)) (fun v16 h15 =>
  if v16 = 12 then
  some (1, h15)
  else
  some (0, h15))
  else
  some (0, h1))
  else
  if a1 = 3 then
  zbd (zcv 8 a0 h0 (f_X8_fresher a0 1 h0)) (fun v18 h17 =>
  if v18 = 8 then
  some (1, h17)
  else
  if a1 = 4 then
  zbd (zcv 8 a0 h17 (f_X8_fresher a0 2 h17)) (fun v20 h19 =>
  if v20 = 6 then
  some (1, h19)
  else
  if a1 = 5 then
  zbd (zcv 8 a0 h19 (f_X8_fresher a0 3 h19)) (fun v22 h21 =>
  if v22 = 12 then
  some (1, h21)
  else
  some (0, h21))
  else
  some (0, h19))
  else
  if a1 = 5 then
  zbd (zcv 8 a0 h17 (f_X8_fresher a0 3 h17)) (fun v24 h23 =>
  if v24 = 12 then
  some (1, h23)
  else
  some (0, h23))
  else
  some (0, h17))
  else
  if a1 = 4 then
  zbd (zcv 8 a0 h0 (f_X8_fresher a0 2 h0)) (fun v26 h25 =>
  if v26 = 6 then
  some (1, h25)
  else
  if a1 = 5 then
  zbd (zcv 8 a0 h25 (f_X8_fresher a0 3 h25)) (fun v28 h27 =>
  if v28 = 12 then
  some (1, h27)
  else
  some (0, h27))
  else
  some (0, h25))
  else
  if a1 = 5 then
  zbd (zcv 8 a0 h0 (f_X8_fresher a0 3 h0)) (fun v30 h29 =>
  if v30 = 12 then
  some (1, h29)
  else
  some (0, h29))
  else
  some (0, h0)
set_option maxRecDepth 100000 in
set_option maxHeartbeats 4000000 in
theorem t_X8_isFull (a0 : Nat) (a1 : Int32) (h0 : zHp) : ∀ (r : Int32) (h' : zHp), f_X8_isFull a0 a1 h0 = some (r, h') → zCt yX8_isFull (.code yX8_isFull cX8_isFull 2 (some .boolean)) 2 81 0 0 [.ref a0, .int a1] h0 (some (.int r)) h' := by
  refine zct_of M_X8_isFull yX8_isFull (by decide) rfl rfl [.ref a0, .int a1] h0 (Nat.le_of_ble_eq_true rfl) (fun r => some (.int r)) (fun X => ?_)
  show zG X M_X8_isFull (0, 0) 0 [(0, .ref a0), (1, .int a1)] [] h0 (f_X8_isFull a0 a1 h0) (fun (r : Int32) h' => zKe X (some (.int r)) h')
  unfold f_X8_isFull
  refine zg_iload_n 1 rfl d_X8_isFull_0 ?_
  refine zg_iconst 2 rfl d_X8_isFull_1 ?_
  refine zg_icmp_ne d_X8_isFull_2 ?_ ?_
  · refine zg_aload_n 0 rfl d_X8_isFull_5 ?_
    refine zg_iconst 0 rfl d_X8_isFull_6 ?_
    refine zg_cVi (b := a0) (As := [.int 0]) (rest := []) (0, 0) d_X8_isFull_7 zc_8 rfl cw_X8_225 wi_X8_fresher ws_X8_fresher rfl rfl (Nat.le_of_ble_eq_true rfl) (by decide) (by decide) ⟨by decide, by decide⟩ rfl (t_X8_fresher a0 0 h0) (fun v2 h1 => ?_)
    refine zg_iconst 5 rfl d_X8_isFull_10 ?_
    refine zg_icmp_eq d_X8_isFull_11 ?_ ?_
    · refine zg_iconst 1 rfl d_X8_isFull_59 ?_
      refine zg_goto d_X8_isFull_60 ?_
      exact zg_zretK d_X8_isFull_64 rfl ⟨Nat.le_of_ble_eq_true rfl, Nat.le_of_ble_eq_true rfl⟩ (Or.inr rfl) (fun q => q)
    · refine zg_iload_n 1 rfl d_X8_isFull_14 ?_
      refine zg_iconst 3 rfl d_X8_isFull_15 ?_
      refine zg_icmp_ne d_X8_isFull_16 ?_ ?_
      · refine zg_aload_n 0 rfl d_X8_isFull_19 ?_
        refine zg_iconst 1 rfl d_X8_isFull_20 ?_
        refine zg_cVi (b := a0) (As := [.int 1]) (rest := []) (0, 0) d_X8_isFull_21 zc_8 rfl cw_X8_225 wi_X8_fresher ws_X8_fresher rfl rfl (Nat.le_of_ble_eq_true rfl) (by decide) (by decide) ⟨by decide, by decide⟩ rfl (t_X8_fresher a0 1 h1) (fun v4 h3 => ?_)
        refine zg_bipush 8 rfl d_X8_isFull_24 ?_
        refine zg_icmp_eq d_X8_isFull_26 ?_ ?_
        · refine zg_iconst 1 rfl d_X8_isFull_59 ?_
          refine zg_goto d_X8_isFull_60 ?_
          exact zg_zretK d_X8_isFull_64 rfl ⟨Nat.le_of_ble_eq_true rfl, Nat.le_of_ble_eq_true rfl⟩ (Or.inr rfl) (fun q => q)
        · refine zg_iload_n 1 rfl d_X8_isFull_29 ?_
          refine zg_iconst 4 rfl d_X8_isFull_30 ?_
          refine zg_icmp_ne d_X8_isFull_31 ?_ ?_
          · refine zg_aload_n 0 rfl d_X8_isFull_34 ?_
            refine zg_iconst 2 rfl d_X8_isFull_35 ?_
            refine zg_cVi (b := a0) (As := [.int 2]) (rest := []) (0, 0) d_X8_isFull_36 zc_8 rfl cw_X8_225 wi_X8_fresher ws_X8_fresher rfl rfl (Nat.le_of_ble_eq_true rfl) (by decide) (by decide) ⟨by decide, by decide⟩ rfl (t_X8_fresher a0 2 h3) (fun v6 h5 => ?_)
            refine zg_bipush 6 rfl d_X8_isFull_39 ?_
            refine zg_icmp_eq d_X8_isFull_41 ?_ ?_
            · refine zg_iconst 1 rfl d_X8_isFull_59 ?_
              refine zg_goto d_X8_isFull_60 ?_
              exact zg_zretK d_X8_isFull_64 rfl ⟨Nat.le_of_ble_eq_true rfl, Nat.le_of_ble_eq_true rfl⟩ (Or.inr rfl) (fun q => q)
            · refine zg_iload_n 1 rfl d_X8_isFull_44 ?_
              refine zg_iconst 5 rfl d_X8_isFull_45 ?_
              refine zg_icmp_ne d_X8_isFull_46 ?_ ?_
              · refine zg_aload_n 0 rfl d_X8_isFull_49 ?_
                refine zg_iconst 3 rfl d_X8_isFull_50 ?_
                refine zg_cVi (b := a0) (As := [.int 3]) (rest := []) (0, 0) d_X8_isFull_51 zc_8 rfl cw_X8_225 wi_X8_fresher ws_X8_fresher rfl rfl (Nat.le_of_ble_eq_true rfl) (by decide) (by decide) ⟨by decide, by decide⟩ rfl (t_X8_fresher a0 3 h5) (fun v8 h7 => ?_)
                refine zg_bipush 12 rfl d_X8_isFull_54 ?_
                refine zg_icmp_ne d_X8_isFull_56 ?_ ?_
                · refine zg_iconst 1 rfl d_X8_isFull_59 ?_
                  refine zg_goto d_X8_isFull_60 ?_
                  exact zg_zretK d_X8_isFull_64 rfl ⟨Nat.le_of_ble_eq_true rfl, Nat.le_of_ble_eq_true rfl⟩ (Or.inr rfl) (fun q => q)
                · refine zg_iconst 0 rfl d_X8_isFull_63 ?_
                  exact zg_zretK d_X8_isFull_64 rfl ⟨Nat.le_of_ble_eq_true rfl, Nat.le_of_ble_eq_true rfl⟩ (Or.inl rfl) (fun q => q)
              · refine zg_iconst 0 rfl d_X8_isFull_63 ?_
                exact zg_zretK d_X8_isFull_64 rfl ⟨Nat.le_of_ble_eq_true rfl, Nat.le_of_ble_eq_true rfl⟩ (Or.inl rfl) (fun q => q)
          · refine zg_iload_n 1 rfl d_X8_isFull_44 ?_
            refine zg_iconst 5 rfl d_X8_isFull_45 ?_
            refine zg_icmp_ne d_X8_isFull_46 ?_ ?_
            · refine zg_aload_n 0 rfl d_X8_isFull_49 ?_
              refine zg_iconst 3 rfl d_X8_isFull_50 ?_
              refine zg_cVi (b := a0) (As := [.int 3]) (rest := []) (0, 0) d_X8_isFull_51 zc_8 rfl cw_X8_225 wi_X8_fresher ws_X8_fresher rfl rfl (Nat.le_of_ble_eq_true rfl) (by decide) (by decide) ⟨by decide, by decide⟩ rfl (t_X8_fresher a0 3 h3) (fun v10 h9 => ?_)
              refine zg_bipush 12 rfl d_X8_isFull_54 ?_
              refine zg_icmp_ne d_X8_isFull_56 ?_ ?_
              · refine zg_iconst 1 rfl d_X8_isFull_59 ?_
                refine zg_goto d_X8_isFull_60 ?_
                exact zg_zretK d_X8_isFull_64 rfl ⟨Nat.le_of_ble_eq_true rfl, Nat.le_of_ble_eq_true rfl⟩ (Or.inr rfl) (fun q => q)
              · refine zg_iconst 0 rfl d_X8_isFull_63 ?_
                exact zg_zretK d_X8_isFull_64 rfl ⟨Nat.le_of_ble_eq_true rfl, Nat.le_of_ble_eq_true rfl⟩ (Or.inl rfl) (fun q => q)
            · refine zg_iconst 0 rfl d_X8_isFull_63 ?_
              exact zg_zretK d_X8_isFull_64 rfl ⟨Nat.le_of_ble_eq_true rfl, Nat.le_of_ble_eq_true rfl⟩ (Or.inl rfl) (fun q => q)
      · refine zg_iload_n 1 rfl d_X8_isFull_29 ?_
        refine zg_iconst 4 rfl d_X8_isFull_30 ?_
        refine zg_icmp_ne d_X8_isFull_31 ?_ ?_
        · refine zg_aload_n 0 rfl d_X8_isFull_34 ?_
          refine zg_iconst 2 rfl d_X8_isFull_35 ?_
          refine zg_cVi (b := a0) (As := [.int 2]) (rest := []) (0, 0) d_X8_isFull_36 zc_8 rfl cw_X8_225 wi_X8_fresher ws_X8_fresher rfl rfl (Nat.le_of_ble_eq_true rfl) (by decide) (by decide) ⟨by decide, by decide⟩ rfl (t_X8_fresher a0 2 h1) (fun v12 h11 => ?_)
          refine zg_bipush 6 rfl d_X8_isFull_39 ?_
          refine zg_icmp_eq d_X8_isFull_41 ?_ ?_
          · refine zg_iconst 1 rfl d_X8_isFull_59 ?_
            refine zg_goto d_X8_isFull_60 ?_
            exact zg_zretK d_X8_isFull_64 rfl ⟨Nat.le_of_ble_eq_true rfl, Nat.le_of_ble_eq_true rfl⟩ (Or.inr rfl) (fun q => q)
          · refine zg_iload_n 1 rfl d_X8_isFull_44 ?_
            refine zg_iconst 5 rfl d_X8_isFull_45 ?_
            refine zg_icmp_ne d_X8_isFull_46 ?_ ?_
            · refine zg_aload_n 0 rfl d_X8_isFull_49 ?_
              refine zg_iconst 3 rfl d_X8_isFull_50 ?_
              refine zg_cVi (b := a0) (As := [.int 3]) (rest := []) (0, 0) d_X8_isFull_51 zc_8 rfl cw_X8_225 wi_X8_fresher ws_X8_fresher rfl rfl (Nat.le_of_ble_eq_true rfl) (by decide) (by decide) ⟨by decide, by decide⟩ rfl (t_X8_fresher a0 3 h11) (fun v14 h13 => ?_)
              refine zg_bipush 12 rfl d_X8_isFull_54 ?_
              refine zg_icmp_ne d_X8_isFull_56 ?_ ?_
              · refine zg_iconst 1 rfl d_X8_isFull_59 ?_
                refine zg_goto d_X8_isFull_60 ?_
                exact zg_zretK d_X8_isFull_64 rfl ⟨Nat.le_of_ble_eq_true rfl, Nat.le_of_ble_eq_true rfl⟩ (Or.inr rfl) (fun q => q)
              · refine zg_iconst 0 rfl d_X8_isFull_63 ?_
                exact zg_zretK d_X8_isFull_64 rfl ⟨Nat.le_of_ble_eq_true rfl, Nat.le_of_ble_eq_true rfl⟩ (Or.inl rfl) (fun q => q)
            · refine zg_iconst 0 rfl d_X8_isFull_63 ?_
              exact zg_zretK d_X8_isFull_64 rfl ⟨Nat.le_of_ble_eq_true rfl, Nat.le_of_ble_eq_true rfl⟩ (Or.inl rfl) (fun q => q)
        · refine zg_iload_n 1 rfl d_X8_isFull_44 ?_
          refine zg_iconst 5 rfl d_X8_isFull_45 ?_
          refine zg_icmp_ne d_X8_isFull_46 ?_ ?_
          · refine zg_aload_n 0 rfl d_X8_isFull_49 ?_
            refine zg_iconst 3 rfl d_X8_isFull_50 ?_
            refine zg_cVi (b := a0) (As := [.int 3]) (rest := []) (0, 0) d_X8_isFull_51 zc_8 rfl cw_X8_225 wi_X8_fresher ws_X8_fresher rfl rfl (Nat.le_of_ble_eq_true rfl) (by decide) (by decide) ⟨by decide, by decide⟩ rfl (t_X8_fresher a0 3 h1) (fun v16 h15 => ?_)
            refine zg_bipush 12 rfl d_X8_isFull_54 ?_
            refine zg_icmp_ne d_X8_isFull_56 ?_ ?_
            · refine zg_iconst 1 rfl d_X8_isFull_59 ?_
              refine zg_goto d_X8_isFull_60 ?_
              exact zg_zretK d_X8_isFull_64 rfl ⟨Nat.le_of_ble_eq_true rfl, Nat.le_of_ble_eq_true rfl⟩ (Or.inr rfl) (fun q => q)
            · refine zg_iconst 0 rfl d_X8_isFull_63 ?_
              exact zg_zretK d_X8_isFull_64 rfl ⟨Nat.le_of_ble_eq_true rfl, Nat.le_of_ble_eq_true rfl⟩ (Or.inl rfl) (fun q => q)
          · refine zg_iconst 0 rfl d_X8_isFull_63 ?_
            exact zg_zretK d_X8_isFull_64 rfl ⟨Nat.le_of_ble_eq_true rfl, Nat.le_of_ble_eq_true rfl⟩ (Or.inl rfl) (fun q => q)
  · refine zg_iload_n 1 rfl d_X8_isFull_14 ?_
    refine zg_iconst 3 rfl d_X8_isFull_15 ?_
    refine zg_icmp_ne d_X8_isFull_16 ?_ ?_
    · refine zg_aload_n 0 rfl d_X8_isFull_19 ?_
      refine zg_iconst 1 rfl d_X8_isFull_20 ?_
      refine zg_cVi (b := a0) (As := [.int 1]) (rest := []) (0, 0) d_X8_isFull_21 zc_8 rfl cw_X8_225 wi_X8_fresher ws_X8_fresher rfl rfl (Nat.le_of_ble_eq_true rfl) (by decide) (by decide) ⟨by decide, by decide⟩ rfl (t_X8_fresher a0 1 h0) (fun v18 h17 => ?_)
      refine zg_bipush 8 rfl d_X8_isFull_24 ?_
      refine zg_icmp_eq d_X8_isFull_26 ?_ ?_
      · refine zg_iconst 1 rfl d_X8_isFull_59 ?_
        refine zg_goto d_X8_isFull_60 ?_
        exact zg_zretK d_X8_isFull_64 rfl ⟨Nat.le_of_ble_eq_true rfl, Nat.le_of_ble_eq_true rfl⟩ (Or.inr rfl) (fun q => q)
      · refine zg_iload_n 1 rfl d_X8_isFull_29 ?_
        refine zg_iconst 4 rfl d_X8_isFull_30 ?_
        refine zg_icmp_ne d_X8_isFull_31 ?_ ?_
        · refine zg_aload_n 0 rfl d_X8_isFull_34 ?_
          refine zg_iconst 2 rfl d_X8_isFull_35 ?_
          refine zg_cVi (b := a0) (As := [.int 2]) (rest := []) (0, 0) d_X8_isFull_36 zc_8 rfl cw_X8_225 wi_X8_fresher ws_X8_fresher rfl rfl (Nat.le_of_ble_eq_true rfl) (by decide) (by decide) ⟨by decide, by decide⟩ rfl (t_X8_fresher a0 2 h17) (fun v20 h19 => ?_)
          refine zg_bipush 6 rfl d_X8_isFull_39 ?_
          refine zg_icmp_eq d_X8_isFull_41 ?_ ?_
          · refine zg_iconst 1 rfl d_X8_isFull_59 ?_
            refine zg_goto d_X8_isFull_60 ?_
            exact zg_zretK d_X8_isFull_64 rfl ⟨Nat.le_of_ble_eq_true rfl, Nat.le_of_ble_eq_true rfl⟩ (Or.inr rfl) (fun q => q)
          · refine zg_iload_n 1 rfl d_X8_isFull_44 ?_
            refine zg_iconst 5 rfl d_X8_isFull_45 ?_
            refine zg_icmp_ne d_X8_isFull_46 ?_ ?_
            · refine zg_aload_n 0 rfl d_X8_isFull_49 ?_
              refine zg_iconst 3 rfl d_X8_isFull_50 ?_
              refine zg_cVi (b := a0) (As := [.int 3]) (rest := []) (0, 0) d_X8_isFull_51 zc_8 rfl cw_X8_225 wi_X8_fresher ws_X8_fresher rfl rfl (Nat.le_of_ble_eq_true rfl) (by decide) (by decide) ⟨by decide, by decide⟩ rfl (t_X8_fresher a0 3 h19) (fun v22 h21 => ?_)
              refine zg_bipush 12 rfl d_X8_isFull_54 ?_
              refine zg_icmp_ne d_X8_isFull_56 ?_ ?_
              · refine zg_iconst 1 rfl d_X8_isFull_59 ?_
                refine zg_goto d_X8_isFull_60 ?_
                exact zg_zretK d_X8_isFull_64 rfl ⟨Nat.le_of_ble_eq_true rfl, Nat.le_of_ble_eq_true rfl⟩ (Or.inr rfl) (fun q => q)
              · refine zg_iconst 0 rfl d_X8_isFull_63 ?_
                exact zg_zretK d_X8_isFull_64 rfl ⟨Nat.le_of_ble_eq_true rfl, Nat.le_of_ble_eq_true rfl⟩ (Or.inl rfl) (fun q => q)
            · refine zg_iconst 0 rfl d_X8_isFull_63 ?_
              exact zg_zretK d_X8_isFull_64 rfl ⟨Nat.le_of_ble_eq_true rfl, Nat.le_of_ble_eq_true rfl⟩ (Or.inl rfl) (fun q => q)
        · refine zg_iload_n 1 rfl d_X8_isFull_44 ?_
          refine zg_iconst 5 rfl d_X8_isFull_45 ?_
          refine zg_icmp_ne d_X8_isFull_46 ?_ ?_
          · refine zg_aload_n 0 rfl d_X8_isFull_49 ?_
            refine zg_iconst 3 rfl d_X8_isFull_50 ?_
            refine zg_cVi (b := a0) (As := [.int 3]) (rest := []) (0, 0) d_X8_isFull_51 zc_8 rfl cw_X8_225 wi_X8_fresher ws_X8_fresher rfl rfl (Nat.le_of_ble_eq_true rfl) (by decide) (by decide) ⟨by decide, by decide⟩ rfl (t_X8_fresher a0 3 h17) (fun v24 h23 => ?_)
            refine zg_bipush 12 rfl d_X8_isFull_54 ?_
            refine zg_icmp_ne d_X8_isFull_56 ?_ ?_
            · refine zg_iconst 1 rfl d_X8_isFull_59 ?_
              refine zg_goto d_X8_isFull_60 ?_
              exact zg_zretK d_X8_isFull_64 rfl ⟨Nat.le_of_ble_eq_true rfl, Nat.le_of_ble_eq_true rfl⟩ (Or.inr rfl) (fun q => q)
            · refine zg_iconst 0 rfl d_X8_isFull_63 ?_
              exact zg_zretK d_X8_isFull_64 rfl ⟨Nat.le_of_ble_eq_true rfl, Nat.le_of_ble_eq_true rfl⟩ (Or.inl rfl) (fun q => q)
          · refine zg_iconst 0 rfl d_X8_isFull_63 ?_
            exact zg_zretK d_X8_isFull_64 rfl ⟨Nat.le_of_ble_eq_true rfl, Nat.le_of_ble_eq_true rfl⟩ (Or.inl rfl) (fun q => q)
    · refine zg_iload_n 1 rfl d_X8_isFull_29 ?_
      refine zg_iconst 4 rfl d_X8_isFull_30 ?_
      refine zg_icmp_ne d_X8_isFull_31 ?_ ?_
      · refine zg_aload_n 0 rfl d_X8_isFull_34 ?_
        refine zg_iconst 2 rfl d_X8_isFull_35 ?_
        refine zg_cVi (b := a0) (As := [.int 2]) (rest := []) (0, 0) d_X8_isFull_36 zc_8 rfl cw_X8_225 wi_X8_fresher ws_X8_fresher rfl rfl (Nat.le_of_ble_eq_true rfl) (by decide) (by decide) ⟨by decide, by decide⟩ rfl (t_X8_fresher a0 2 h0) (fun v26 h25 => ?_)
        refine zg_bipush 6 rfl d_X8_isFull_39 ?_
        refine zg_icmp_eq d_X8_isFull_41 ?_ ?_
        · refine zg_iconst 1 rfl d_X8_isFull_59 ?_
          refine zg_goto d_X8_isFull_60 ?_
          exact zg_zretK d_X8_isFull_64 rfl ⟨Nat.le_of_ble_eq_true rfl, Nat.le_of_ble_eq_true rfl⟩ (Or.inr rfl) (fun q => q)
        · refine zg_iload_n 1 rfl d_X8_isFull_44 ?_
          refine zg_iconst 5 rfl d_X8_isFull_45 ?_
          refine zg_icmp_ne d_X8_isFull_46 ?_ ?_
          · refine zg_aload_n 0 rfl d_X8_isFull_49 ?_
            refine zg_iconst 3 rfl d_X8_isFull_50 ?_
            refine zg_cVi (b := a0) (As := [.int 3]) (rest := []) (0, 0) d_X8_isFull_51 zc_8 rfl cw_X8_225 wi_X8_fresher ws_X8_fresher rfl rfl (Nat.le_of_ble_eq_true rfl) (by decide) (by decide) ⟨by decide, by decide⟩ rfl (t_X8_fresher a0 3 h25) (fun v28 h27 => ?_)
            refine zg_bipush 12 rfl d_X8_isFull_54 ?_
            refine zg_icmp_ne d_X8_isFull_56 ?_ ?_
            · refine zg_iconst 1 rfl d_X8_isFull_59 ?_
              refine zg_goto d_X8_isFull_60 ?_
              exact zg_zretK d_X8_isFull_64 rfl ⟨Nat.le_of_ble_eq_true rfl, Nat.le_of_ble_eq_true rfl⟩ (Or.inr rfl) (fun q => q)
            · refine zg_iconst 0 rfl d_X8_isFull_63 ?_
              exact zg_zretK d_X8_isFull_64 rfl ⟨Nat.le_of_ble_eq_true rfl, Nat.le_of_ble_eq_true rfl⟩ (Or.inl rfl) (fun q => q)
          · refine zg_iconst 0 rfl d_X8_isFull_63 ?_
            exact zg_zretK d_X8_isFull_64 rfl ⟨Nat.le_of_ble_eq_true rfl, Nat.le_of_ble_eq_true rfl⟩ (Or.inl rfl) (fun q => q)
      · refine zg_iload_n 1 rfl d_X8_isFull_44 ?_
        refine zg_iconst 5 rfl d_X8_isFull_45 ?_
        refine zg_icmp_ne d_X8_isFull_46 ?_ ?_
        · refine zg_aload_n 0 rfl d_X8_isFull_49 ?_
          refine zg_iconst 3 rfl d_X8_isFull_50 ?_
          refine zg_cVi (b := a0) (As := [.int 3]) (rest := []) (0, 0) d_X8_isFull_51 zc_8 rfl cw_X8_225 wi_X8_fresher ws_X8_fresher rfl rfl (Nat.le_of_ble_eq_true rfl) (by decide) (by decide) ⟨by decide, by decide⟩ rfl (t_X8_fresher a0 3 h0) (fun v30 h29 => ?_)
          refine zg_bipush 12 rfl d_X8_isFull_54 ?_
          refine zg_icmp_ne d_X8_isFull_56 ?_ ?_
          · refine zg_iconst 1 rfl d_X8_isFull_59 ?_
            refine zg_goto d_X8_isFull_60 ?_
            exact zg_zretK d_X8_isFull_64 rfl ⟨Nat.le_of_ble_eq_true rfl, Nat.le_of_ble_eq_true rfl⟩ (Or.inr rfl) (fun q => q)
          · refine zg_iconst 0 rfl d_X8_isFull_63 ?_
            exact zg_zretK d_X8_isFull_64 rfl ⟨Nat.le_of_ble_eq_true rfl, Nat.le_of_ble_eq_true rfl⟩ (Or.inl rfl) (fun q => q)
        · refine zg_iconst 0 rfl d_X8_isFull_63 ?_
          exact zg_zretK d_X8_isFull_64 rfl ⟨Nat.le_of_ble_eq_true rfl, Nat.le_of_ble_eq_true rfl⟩ (Or.inl rfl) (fun q => q)
abbrev M_X8_isPlan : zMt := (RX8, cX8_isPlan, 4, 2, 81, (some .boolean), "isPlan", 0, 0)
theorem d_X8_isPlan_0 : zDc M_X8_isPlan 0 (.aload_n 0) 1 1 := ⟨by decide +kernel, rfl⟩
theorem d_X8_isPlan_1 : zDc M_X8_isPlan 1 (.iload_n 1) 1 2 := ⟨by decide +kernel, rfl⟩
theorem d_X8_isPlan_2 : zDc M_X8_isPlan 2 (.invokevirtual 425) 3 5 := ⟨by decide +kernel, rfl⟩
theorem d_X8_isPlan_5 : zDj M_X8_isPlan 5 (.ifCond .eq 25) 25 8 30 := ⟨by decide +kernel, rfl, by decide⟩
theorem d_X8_isPlan_8 : zDc M_X8_isPlan 8 (.aload_n 0) 1 9 := ⟨by decide +kernel, rfl⟩
theorem d_X8_isPlan_9 : zDc M_X8_isPlan 9 (.iload_n 2) 1 10 := ⟨by decide +kernel, rfl⟩
theorem d_X8_isPlan_10 : zDc M_X8_isPlan 10 (.invokevirtual 431) 3 13 := ⟨by decide +kernel, rfl⟩
theorem d_X8_isPlan_13 : zDj M_X8_isPlan 13 (.ifCond .eq 17) 17 16 30 := ⟨by decide +kernel, rfl, by decide⟩
theorem d_X8_isPlan_16 : zDc M_X8_isPlan 16 (.iload_n 3) 1 17 := ⟨by decide +kernel, rfl⟩
theorem d_X8_isPlan_17 : zDc M_X8_isPlan 17 (.iconst 1) 1 18 := ⟨by decide +kernel, rfl⟩
theorem d_X8_isPlan_18 : zDj M_X8_isPlan 18 (.if_icmp .lt 12) 12 21 30 := ⟨by decide +kernel, rfl, by decide⟩
theorem d_X8_isPlan_21 : zDc M_X8_isPlan 21 (.iload_n 3) 1 22 := ⟨by decide +kernel, rfl⟩
theorem d_X8_isPlan_22 : zDc M_X8_isPlan 22 (.iconst 4) 1 23 := ⟨by decide +kernel, rfl⟩
theorem d_X8_isPlan_23 : zDj M_X8_isPlan 23 (.if_icmp .gt 7) 7 26 30 := ⟨by decide +kernel, rfl, by decide⟩
theorem d_X8_isPlan_26 : zDc M_X8_isPlan 26 (.iconst 1) 1 27 := ⟨by decide +kernel, rfl⟩
theorem d_X8_isPlan_27 : zDj M_X8_isPlan 27 (.goto 4) 4 30 31 := ⟨by decide +kernel, rfl, by decide⟩
theorem d_X8_isPlan_30 : zDc M_X8_isPlan 30 (.iconst 0) 1 31 := ⟨by decide +kernel, rfl⟩
theorem d_X8_isPlan_31 : zDc M_X8_isPlan 31 (.ireturn) 1 32 := ⟨by decide +kernel, rfl⟩
def f_X8_isPlan (a0 : Nat) (a1 : Int32) (a2 : Int32) (a3 : Int32) (h0 : zHp) : Option (Int32 × zHp) :=
  zbd (zcv 8 a0 h0 (f_X8_isChild a0 a1 h0)) (fun v2 h1 =>
  if v2 = 0 then
  some (0, h1)
  else
  zbd (zcv 8 a0 h1 (f_X8_isField a0 a2 h1)) (fun v4 h3 =>
  if v4 = 0 then
  some (0, h3)
  else
  if a3 < 1 then
  some (0, h3)
  else
  if 4 < a3 then
  some (0, h3)
  else
  some (1, h3)))
set_option maxRecDepth 100000 in
set_option maxHeartbeats 4000000 in
theorem t_X8_isPlan (a0 : Nat) (a1 : Int32) (a2 : Int32) (a3 : Int32) (h0 : zHp) : ∀ (r : Int32) (h' : zHp), f_X8_isPlan a0 a1 a2 a3 h0 = some (r, h') → zCt yX8_isPlan (.code yX8_isPlan cX8_isPlan 4 (some .boolean)) 2 81 0 0 [.ref a0, .int a1, .int a2, .int a3] h0 (some (.int r)) h' := by
  refine zct_of M_X8_isPlan yX8_isPlan (by decide) rfl rfl [.ref a0, .int a1, .int a2, .int a3] h0 (Nat.le_of_ble_eq_true rfl) (fun r => some (.int r)) (fun X => ?_)
  show zG X M_X8_isPlan (0, 0) 0 [(0, .ref a0), (1, .int a1), (2, .int a2), (3, .int a3)] [] h0 (f_X8_isPlan a0 a1 a2 a3 h0) (fun (r : Int32) h' => zKe X (some (.int r)) h')
  unfold f_X8_isPlan
  refine zg_aload_n 0 rfl d_X8_isPlan_0 ?_
  refine zg_iload_n 1 rfl d_X8_isPlan_1 ?_
  refine zg_cVi (b := a0) (As := [.int a1]) (rest := []) (0, 0) d_X8_isPlan_2 zc_8 rfl cw_X8_425 wi_X8_isChild ws_X8_isChild rfl rfl (Nat.le_of_ble_eq_true rfl) (by decide) (by decide) ⟨by decide, by decide⟩ rfl (t_X8_isChild a0 a1 h0) (fun v2 h1 => ?_)
  refine zg_if_eq d_X8_isPlan_5 ?_ ?_
  · refine zg_iconst 0 rfl d_X8_isPlan_30 ?_
    exact zg_zretK d_X8_isPlan_31 rfl ⟨Nat.le_of_ble_eq_true rfl, Nat.le_of_ble_eq_true rfl⟩ (Or.inl rfl) (fun q => q)
  · refine zg_aload_n 0 rfl d_X8_isPlan_8 ?_
    refine zg_iload_n 2 rfl d_X8_isPlan_9 ?_
    refine zg_cVi (b := a0) (As := [.int a2]) (rest := []) (0, 0) d_X8_isPlan_10 zc_8 rfl cw_X8_431 wi_X8_isField ws_X8_isField rfl rfl (Nat.le_of_ble_eq_true rfl) (by decide) (by decide) ⟨by decide, by decide⟩ rfl (t_X8_isField a0 a2 h1) (fun v4 h3 => ?_)
    refine zg_if_eq d_X8_isPlan_13 ?_ ?_
    · refine zg_iconst 0 rfl d_X8_isPlan_30 ?_
      exact zg_zretK d_X8_isPlan_31 rfl ⟨Nat.le_of_ble_eq_true rfl, Nat.le_of_ble_eq_true rfl⟩ (Or.inl rfl) (fun q => q)
    · refine zg_iload_n 3 rfl d_X8_isPlan_16 ?_
      refine zg_iconst 1 rfl d_X8_isPlan_17 ?_
      refine zg_icmp_lt d_X8_isPlan_18 ?_ ?_
      · refine zg_iconst 0 rfl d_X8_isPlan_30 ?_
        exact zg_zretK d_X8_isPlan_31 rfl ⟨Nat.le_of_ble_eq_true rfl, Nat.le_of_ble_eq_true rfl⟩ (Or.inl rfl) (fun q => q)
      · refine zg_iload_n 3 rfl d_X8_isPlan_21 ?_
        refine zg_iconst 4 rfl d_X8_isPlan_22 ?_
        refine zg_icmp_gt d_X8_isPlan_23 ?_ ?_
        · refine zg_iconst 0 rfl d_X8_isPlan_30 ?_
          exact zg_zretK d_X8_isPlan_31 rfl ⟨Nat.le_of_ble_eq_true rfl, Nat.le_of_ble_eq_true rfl⟩ (Or.inl rfl) (fun q => q)
        · refine zg_iconst 1 rfl d_X8_isPlan_26 ?_
          refine zg_goto d_X8_isPlan_27 ?_
          exact zg_zretK d_X8_isPlan_31 rfl ⟨Nat.le_of_ble_eq_true rfl, Nat.le_of_ble_eq_true rfl⟩ (Or.inr rfl) (fun q => q)
abbrev M_X8_isRest : zMt := (RX8, cX8_isRest, 3, 1, 60, (some .boolean), "isRest", 0, 0)
theorem d_X8_isRest_0 : zDc M_X8_isRest 0 (.iconst 0) 1 1 := ⟨by decide +kernel, rfl⟩
theorem d_X8_isRest_1 : zDc M_X8_isRest 1 (.istore_n 2) 1 2 := ⟨by decide +kernel, rfl⟩
theorem d_X8_isRest_2 : zDc M_X8_isRest 2 (.iload_n 2) 1 3 := ⟨by decide +kernel, rfl⟩
theorem d_X8_isRest_3 : zDc M_X8_isRest 3 (.iconst 5) 1 4 := ⟨by decide +kernel, rfl⟩
theorem d_X8_isRest_4 : zDj M_X8_isRest 4 (.if_icmp .ge 53) 53 7 57 := ⟨by decide +kernel, rfl, by decide⟩
theorem d_X8_isRest_7 : zDc M_X8_isRest 7 (.aload_n 0) 1 8 := ⟨by decide +kernel, rfl⟩
theorem d_X8_isRest_8 : zDc M_X8_isRest 8 (.getfield 123) 3 11 := ⟨by decide +kernel, rfl⟩
theorem d_X8_isRest_11 : zDc M_X8_isRest 11 (.iconst 5) 1 12 := ⟨by decide +kernel, rfl⟩
theorem d_X8_isRest_12 : zDc M_X8_isRest 12 (.iload_n 2) 1 13 := ⟨by decide +kernel, rfl⟩
theorem d_X8_isRest_13 : zDc M_X8_isRest 13 (.imul) 1 14 := ⟨by decide +kernel, rfl⟩
theorem d_X8_isRest_14 : zDc M_X8_isRest 14 (.iload_n 1) 1 15 := ⟨by decide +kernel, rfl⟩
theorem d_X8_isRest_15 : zDc M_X8_isRest 15 (.iconst 5) 1 16 := ⟨by decide +kernel, rfl⟩
theorem d_X8_isRest_16 : zDc M_X8_isRest 16 (.irem) 1 17 := ⟨by decide +kernel, rfl⟩
theorem d_X8_isRest_17 : zDc M_X8_isRest 17 (.iadd) 1 18 := ⟨by decide +kernel, rfl⟩
theorem d_X8_isRest_18 : zDc M_X8_isRest 18 (.iaload) 1 19 := ⟨by decide +kernel, rfl⟩
theorem d_X8_isRest_19 : zDc M_X8_isRest 19 (.aload_n 0) 1 20 := ⟨by decide +kernel, rfl⟩
theorem d_X8_isRest_20 : zDc M_X8_isRest 20 (.getfield 123) 3 23 := ⟨by decide +kernel, rfl⟩
theorem d_X8_isRest_23 : zDc M_X8_isRest 23 (.iload_n 1) 1 24 := ⟨by decide +kernel, rfl⟩
theorem d_X8_isRest_24 : zDc M_X8_isRest 24 (.iaload) 1 25 := ⟨by decide +kernel, rfl⟩
theorem d_X8_isRest_25 : zDj M_X8_isRest 25 (.if_icmp .gt 24) 24 28 49 := ⟨by decide +kernel, rfl, by decide⟩
theorem d_X8_isRest_28 : zDc M_X8_isRest 28 (.aload_n 0) 1 29 := ⟨by decide +kernel, rfl⟩
theorem d_X8_isRest_29 : zDc M_X8_isRest 29 (.getfield 126) 3 32 := ⟨by decide +kernel, rfl⟩
theorem d_X8_isRest_32 : zDc M_X8_isRest 32 (.iload_n 1) 1 33 := ⟨by decide +kernel, rfl⟩
theorem d_X8_isRest_33 : zDc M_X8_isRest 33 (.iconst 5) 1 34 := ⟨by decide +kernel, rfl⟩
theorem d_X8_isRest_34 : zDc M_X8_isRest 34 (.idiv) 1 35 := ⟨by decide +kernel, rfl⟩
theorem d_X8_isRest_35 : zDc M_X8_isRest 35 (.iconst 5) 1 36 := ⟨by decide +kernel, rfl⟩
theorem d_X8_isRest_36 : zDc M_X8_isRest 36 (.imul) 1 37 := ⟨by decide +kernel, rfl⟩
theorem d_X8_isRest_37 : zDc M_X8_isRest 37 (.iload_n 2) 1 38 := ⟨by decide +kernel, rfl⟩
theorem d_X8_isRest_38 : zDc M_X8_isRest 38 (.iadd) 1 39 := ⟨by decide +kernel, rfl⟩
theorem d_X8_isRest_39 : zDc M_X8_isRest 39 (.iaload) 1 40 := ⟨by decide +kernel, rfl⟩
theorem d_X8_isRest_40 : zDc M_X8_isRest 40 (.aload_n 0) 1 41 := ⟨by decide +kernel, rfl⟩
theorem d_X8_isRest_41 : zDc M_X8_isRest 41 (.getfield 126) 3 44 := ⟨by decide +kernel, rfl⟩
theorem d_X8_isRest_44 : zDc M_X8_isRest 44 (.iload_n 1) 1 45 := ⟨by decide +kernel, rfl⟩
theorem d_X8_isRest_45 : zDc M_X8_isRest 45 (.iaload) 1 46 := ⟨by decide +kernel, rfl⟩
theorem d_X8_isRest_46 : zDj M_X8_isRest 46 (.if_icmp .le 5) 5 49 51 := ⟨by decide +kernel, rfl, by decide⟩
theorem d_X8_isRest_49 : zDc M_X8_isRest 49 (.iconst 0) 1 50 := ⟨by decide +kernel, rfl⟩
theorem d_X8_isRest_50 : zDc M_X8_isRest 50 (.ireturn) 1 51 := ⟨by decide +kernel, rfl⟩
theorem d_X8_isRest_51 : zDc M_X8_isRest 51 (.iinc 2 1) 3 54 := ⟨by decide +kernel, rfl⟩
theorem d_X8_isRest_54 : zDj M_X8_isRest 54 (.goto (-52)) (-52) 57 2 := ⟨by decide +kernel, rfl, by decide⟩
theorem d_X8_isRest_57 : zDc M_X8_isRest 57 (.iconst 1) 1 58 := ⟨by decide +kernel, rfl⟩
theorem d_X8_isRest_58 : zDc M_X8_isRest 58 (.ireturn) 1 59 := ⟨by decide +kernel, rfl⟩
def f_X8_isRest (a0 : Nat) (a1 : Int32) (h0 : zHp) : Option (Int32 × zHp) :=
  zbd (
  zlp (σ := Int32) (β := (Int32 ⊕ Int32)) zLF (fun s1 h2 =>
  if 5 ≤ s1 then
  some ((.inr (.inl s1)), h2)
  else
  zob (zgR h2 a0 8 59) (fun v5 =>
  zob (zaI 0 h2 v5 ((5 * s1) + (zrm a1 5))) (fun v6 =>
  zob (zgR h2 a0 8 59) (fun v7 =>
  zob (zaI 0 h2 v7 a1) (fun v8 =>
  if v8 < v6 then
  some ((.inr (.inr 0)), h2)
  else
  zob (zgR h2 a0 8 60) (fun v9 =>
  zob (zaI 0 h2 v9 (((a1 / 5) * 5) + s1)) (fun v10 =>
  zob (zgR h2 a0 8 60) (fun v11 =>
  zob (zaI 0 h2 v11 a1) (fun v12 =>
  if v10 ≤ v12 then
  some ((.inl (s1 + 1)), h2)
  else
  some ((.inr (.inr 0)), h2)))))))))) 0 h0) (fun b13 h4 => zsl b13 (fun e3 =>
  some (1, h4)) (fun r => some (r, h4)))
set_option maxRecDepth 100000 in
set_option maxHeartbeats 4000000 in
theorem t_X8_isRest (a0 : Nat) (a1 : Int32) (h0 : zHp) : ∀ (r : Int32) (h' : zHp), f_X8_isRest a0 a1 h0 = some (r, h') → zCt yX8_isRest (.code yX8_isRest cX8_isRest 3 (some .boolean)) 1 60 0 0 [.ref a0, .int a1] h0 (some (.int r)) h' := by
  refine zct_of M_X8_isRest yX8_isRest (by decide) rfl rfl [.ref a0, .int a1] h0 (Nat.le_of_ble_eq_true rfl) (fun r => some (.int r)) (fun X => ?_)
  show zG X M_X8_isRest (0, 0) 0 [(0, .ref a0), (1, .int a1)] [] h0 (f_X8_isRest a0 a1 h0) (fun (r : Int32) h' => zKe X (some (.int r)) h')
  unfold f_X8_isRest
  refine zg_iconst 0 rfl d_X8_isRest_0 ?_
  refine zg_istore_n [(2, .int 0), (0, .ref a0), (1, .int a1)] d_X8_isRest_1 rfl (by decide) rfl ?_
  refine zg_bdr (E := 57) (el := (fun (e3 : Int32) => [(0, .ref a0), (1, .int a1), (2, .int e3)])) (es := fun _ => []) (zg_sub [1, 2, 0] rfl (zg_lp (el := (fun (s1 : Int32) => [(0, .ref a0), (1, .int a1), (2, .int s1)])) (fun s1 h2 => ?_) 0 h0)) (fun e3 h4 => ?_)
  · refine zg_iload_n 2 rfl d_X8_isRest_2 ?_
    refine zg_iconst 5 rfl d_X8_isRest_3 ?_
    refine zg_icmp_ge d_X8_isRest_4 ?_ ?_
    · exact zg_finK (E := 0) [0, 1, 2] rfl rfl (fun q => q)
    · refine zg_aload_n 0 rfl d_X8_isRest_7 ?_
      refine zg_getR d_X8_isRest_8 zc_8 (by decide) fl_X8_123 (fun v5 => ?_)
      refine zg_iconst 5 rfl d_X8_isRest_11 ?_
      refine zg_iload_n 2 rfl d_X8_isRest_12 ?_
      refine zg_imul d_X8_isRest_13 ?_
      refine zg_iload_n 1 rfl d_X8_isRest_14 ?_
      refine zg_iconst 5 rfl d_X8_isRest_15 ?_
      refine zg_irem (by decide) d_X8_isRest_16 ?_
      refine zg_iadd d_X8_isRest_17 ?_
      refine zg_ald0 d_X8_isRest_18 (fun v6 => ?_)
      refine zg_aload_n 0 rfl d_X8_isRest_19 ?_
      refine zg_getR d_X8_isRest_20 zc_8 (by decide) fl_X8_123 (fun v7 => ?_)
      refine zg_iload_n 1 rfl d_X8_isRest_23 ?_
      refine zg_ald0 d_X8_isRest_24 (fun v8 => ?_)
      refine zg_icmp_gt d_X8_isRest_25 ?_ ?_
      · refine zg_iconst 0 rfl d_X8_isRest_49 ?_
        exact zg_zretK d_X8_isRest_50 rfl ⟨Nat.le_of_ble_eq_true rfl, Nat.le_of_ble_eq_true rfl⟩ (Or.inl rfl) (fun q => q)
      · refine zg_aload_n 0 rfl d_X8_isRest_28 ?_
        refine zg_getR d_X8_isRest_29 zc_8 (by decide) fl_X8_126 (fun v9 => ?_)
        refine zg_iload_n 1 rfl d_X8_isRest_32 ?_
        refine zg_iconst 5 rfl d_X8_isRest_33 ?_
        refine zg_idiv (by decide) d_X8_isRest_34 ?_
        refine zg_iconst 5 rfl d_X8_isRest_35 ?_
        refine zg_imul d_X8_isRest_36 ?_
        refine zg_iload_n 2 rfl d_X8_isRest_37 ?_
        refine zg_iadd d_X8_isRest_38 ?_
        refine zg_ald0 d_X8_isRest_39 (fun v10 => ?_)
        refine zg_aload_n 0 rfl d_X8_isRest_40 ?_
        refine zg_getR d_X8_isRest_41 zc_8 (by decide) fl_X8_126 (fun v11 => ?_)
        refine zg_iload_n 1 rfl d_X8_isRest_44 ?_
        refine zg_ald0 d_X8_isRest_45 (fun v12 => ?_)
        refine zg_icmp_le d_X8_isRest_46 ?_ ?_
        · refine zg_iinc 2 (s1 + 1) [(2, .int (s1 + 1)), (0, .ref a0), (1, .int a1)] d_X8_isRest_51 rfl rfl (by decide) rfl ?_
          refine zg_goto d_X8_isRest_54 ?_
          exact zg_finK (E := 0) [1, 2, 0] rfl rfl (fun q => q)
        · refine zg_iconst 0 rfl d_X8_isRest_49 ?_
          exact zg_zretK d_X8_isRest_50 rfl ⟨Nat.le_of_ble_eq_true rfl, Nat.le_of_ble_eq_true rfl⟩ (Or.inl rfl) (fun q => q)
  · refine zg_iconst 1 rfl d_X8_isRest_57 ?_
    exact zg_zretK d_X8_isRest_58 rfl ⟨Nat.le_of_ble_eq_true rfl, Nat.le_of_ble_eq_true rfl⟩ (Or.inr rfl) (fun q => q)
abbrev M_X8_keep : zMt := (RX8, cX8_keep, 1, 2, 85, (some .int), "keep", 0, 0)
theorem d_X8_keep_0 : zDc M_X8_keep 0 (.aload_n 0) 1 1 := ⟨by decide +kernel, rfl⟩
theorem d_X8_keep_1 : zDc M_X8_keep 1 (.iconst 0) 1 2 := ⟨by decide +kernel, rfl⟩
theorem d_X8_keep_2 : zDc M_X8_keep 2 (.putfield 151) 3 5 := ⟨by decide +kernel, rfl⟩
theorem d_X8_keep_5 : zDc M_X8_keep 5 (.aload_n 0) 1 6 := ⟨by decide +kernel, rfl⟩
theorem d_X8_keep_6 : zDc M_X8_keep 6 (.iconst 2) 1 7 := ⟨by decide +kernel, rfl⟩
theorem d_X8_keep_7 : zDc M_X8_keep 7 (.iconst 0) 1 8 := ⟨by decide +kernel, rfl⟩
theorem d_X8_keep_8 : zDc M_X8_keep 8 (.invokevirtual 416) 3 11 := ⟨by decide +kernel, rfl⟩
theorem d_X8_keep_11 : zDc M_X8_keep 11 (.aload_n 0) 1 12 := ⟨by decide +kernel, rfl⟩
theorem d_X8_keep_12 : zDc M_X8_keep 12 (.iconst 1) 1 13 := ⟨by decide +kernel, rfl⟩
theorem d_X8_keep_13 : zDc M_X8_keep 13 (.putfield 307) 3 16 := ⟨by decide +kernel, rfl⟩
theorem d_X8_keep_16 : zDc M_X8_keep 16 (.aload_n 0) 1 17 := ⟨by decide +kernel, rfl⟩
theorem d_X8_keep_17 : zDc M_X8_keep 17 (.getfield 75) 3 20 := ⟨by decide +kernel, rfl⟩
theorem d_X8_keep_20 : zDc M_X8_keep 20 (.iconst 0) 1 21 := ⟨by decide +kernel, rfl⟩
theorem d_X8_keep_21 : zDc M_X8_keep 21 (.iaload) 1 22 := ⟨by decide +kernel, rfl⟩
theorem d_X8_keep_22 : zDc M_X8_keep 22 (.ireturn) 1 23 := ⟨by decide +kernel, rfl⟩
def f_X8_keep (a0 : Nat) (h0 : zHp) : Option (Int32 × zHp) :=
  zob (zpV h0 a0 8 0 (.int 0)) (fun h1 =>
  zbd (zcv 8 a0 h1 (f_X8_copies a0 2 0 h1)) (fun v3 h2 =>
  zob (zpV h2 a0 8 47 (.int 1)) (fun h4 =>
  zob (zgR h4 a0 8 36) (fun v5 =>
  zob (zaI 0 h4 v5 0) (fun v6 =>
  some (v6, h4))))))
set_option maxRecDepth 100000 in
set_option maxHeartbeats 4000000 in
theorem t_X8_keep (a0 : Nat) (h0 : zHp) : ∀ (r : Int32) (h' : zHp), f_X8_keep a0 h0 = some (r, h') → zCt yX8_keep (.code yX8_keep cX8_keep 1 (some .int)) 2 85 0 0 [.ref a0] h0 (some (.int r)) h' := by
  refine zct_of M_X8_keep yX8_keep (by decide) rfl rfl [.ref a0] h0 (Nat.le_of_ble_eq_true rfl) (fun r => some (.int r)) (fun X => ?_)
  show zG X M_X8_keep (0, 0) 0 [(0, .ref a0)] [] h0 (f_X8_keep a0 h0) (fun (r : Int32) h' => zKe X (some (.int r)) h')
  unfold f_X8_keep
  refine zg_aload_n 0 rfl d_X8_keep_0 ?_
  refine zg_iconst 0 rfl d_X8_keep_1 ?_
  refine zg_putV d_X8_keep_2 zc_8 (by decide) fl_X8_151 rfl rfl rfl (fun h1 => ?_)
  refine zg_aload_n 0 rfl d_X8_keep_5 ?_
  refine zg_iconst 2 rfl d_X8_keep_6 ?_
  refine zg_iconst 0 rfl d_X8_keep_7 ?_
  refine zg_cVv (b := a0) (As := [.int 2, .int 0]) (rest := []) (0, 0) d_X8_keep_8 zc_8 rfl cw_X8_416 wi_X8_copies ws_X8_copies rfl rfl (Nat.le_of_ble_eq_true rfl) (by decide) (by decide) ⟨by decide, by decide⟩ rfl (t_X8_copies a0 2 0 h1) (fun v3 h2 => ?_)
  refine zg_aload_n 0 rfl d_X8_keep_11 ?_
  refine zg_iconst 1 rfl d_X8_keep_12 ?_
  refine zg_putV d_X8_keep_13 zc_8 (by decide) fl_X8_307 rfl rfl rfl (fun h4 => ?_)
  refine zg_aload_n 0 rfl d_X8_keep_16 ?_
  refine zg_getR d_X8_keep_17 zc_8 (by decide) fl_X8_75 (fun v5 => ?_)
  refine zg_iconst 0 rfl d_X8_keep_20 ?_
  refine zg_ald0 d_X8_keep_21 (fun v6 => ?_)
  exact zg_iretK d_X8_keep_22 rfl ⟨Nat.le_of_ble_eq_true rfl, Nat.le_of_ble_eq_true rfl⟩ (fun q => q)
abbrev M_X8_known : zMt := (RX8, cX8_known, 2, 1, 60, (some .boolean), "known", 0, 0)
theorem d_X8_known_0 : zDc M_X8_known 0 (.aload_n 0) 1 1 := ⟨by decide +kernel, rfl⟩
theorem d_X8_known_1 : zDc M_X8_known 1 (.iconst 0) 1 2 := ⟨by decide +kernel, rfl⟩
theorem d_X8_known_2 : zDc M_X8_known 2 (.putfield 151) 3 5 := ⟨by decide +kernel, rfl⟩
theorem d_X8_known_5 : zDc M_X8_known 5 (.iload_n 1) 1 6 := ⟨by decide +kernel, rfl⟩
theorem d_X8_known_6 : zDc M_X8_known 6 (.iconst (-1)) 1 7 := ⟨by decide +kernel, rfl⟩
theorem d_X8_known_7 : zDj M_X8_known 7 (.if_icmp .lt 11) 11 10 18 := ⟨by decide +kernel, rfl, by decide⟩
theorem d_X8_known_10 : zDc M_X8_known 10 (.iload_n 1) 1 11 := ⟨by decide +kernel, rfl⟩
theorem d_X8_known_11 : zDc M_X8_known 11 (.aload_n 0) 1 12 := ⟨by decide +kernel, rfl⟩
theorem d_X8_known_12 : zDc M_X8_known 12 (.getfield 304) 3 15 := ⟨by decide +kernel, rfl⟩
theorem d_X8_known_15 : zDj M_X8_known 15 (.if_icmp .le 5) 5 18 20 := ⟨by decide +kernel, rfl, by decide⟩
theorem d_X8_known_18 : zDc M_X8_known 18 (.iconst 0) 1 19 := ⟨by decide +kernel, rfl⟩
theorem d_X8_known_19 : zDc M_X8_known 19 (.ireturn) 1 20 := ⟨by decide +kernel, rfl⟩
theorem d_X8_known_20 : zDc M_X8_known 20 (.aload_n 0) 1 21 := ⟨by decide +kernel, rfl⟩
theorem d_X8_known_21 : zDc M_X8_known 21 (.iload_n 1) 1 22 := ⟨by decide +kernel, rfl⟩
theorem d_X8_known_22 : zDc M_X8_known 22 (.putfield 129) 3 25 := ⟨by decide +kernel, rfl⟩
theorem d_X8_known_25 : zDc M_X8_known 25 (.iconst 1) 1 26 := ⟨by decide +kernel, rfl⟩
theorem d_X8_known_26 : zDc M_X8_known 26 (.ireturn) 1 27 := ⟨by decide +kernel, rfl⟩
def f_X8_known (a0 : Nat) (a1 : Int32) (h0 : zHp) : Option (Int32 × zHp) :=
  zob (zpV h0 a0 8 0 (.int 0)) (fun h1 =>
  if a1 < (-1) then
  some (0, h1)
  else
  zob (zgI h1 a0 8 61) (fun v2 =>
  if a1 ≤ v2 then
  zob (zpV h1 a0 8 62 (.int a1)) (fun h3 =>
  some (1, h3))
  else
  some (0, h1)))
set_option maxRecDepth 100000 in
set_option maxHeartbeats 4000000 in
theorem t_X8_known (a0 : Nat) (a1 : Int32) (h0 : zHp) : ∀ (r : Int32) (h' : zHp), f_X8_known a0 a1 h0 = some (r, h') → zCt yX8_known (.code yX8_known cX8_known 2 (some .boolean)) 1 60 0 0 [.ref a0, .int a1] h0 (some (.int r)) h' := by
  refine zct_of M_X8_known yX8_known (by decide) rfl rfl [.ref a0, .int a1] h0 (Nat.le_of_ble_eq_true rfl) (fun r => some (.int r)) (fun X => ?_)
  show zG X M_X8_known (0, 0) 0 [(0, .ref a0), (1, .int a1)] [] h0 (f_X8_known a0 a1 h0) (fun (r : Int32) h' => zKe X (some (.int r)) h')
  unfold f_X8_known
  refine zg_aload_n 0 rfl d_X8_known_0 ?_
  refine zg_iconst 0 rfl d_X8_known_1 ?_
  refine zg_putV d_X8_known_2 zc_8 (by decide) fl_X8_151 rfl rfl rfl (fun h1 => ?_)
  refine zg_iload_n 1 rfl d_X8_known_5 ?_
  refine zg_iconst (-1) rfl d_X8_known_6 ?_
  refine zg_icmp_lt d_X8_known_7 ?_ ?_
  · refine zg_iconst 0 rfl d_X8_known_18 ?_
    exact zg_zretK d_X8_known_19 rfl ⟨Nat.le_of_ble_eq_true rfl, Nat.le_of_ble_eq_true rfl⟩ (Or.inl rfl) (fun q => q)
  · refine zg_iload_n 1 rfl d_X8_known_10 ?_
    refine zg_aload_n 0 rfl d_X8_known_11 ?_
    refine zg_getI d_X8_known_12 zc_8 (by decide) fl_X8_304 (fun v2 => ?_)
    refine zg_icmp_le d_X8_known_15 ?_ ?_
    · refine zg_aload_n 0 rfl d_X8_known_20 ?_
      refine zg_iload_n 1 rfl d_X8_known_21 ?_
      refine zg_putV d_X8_known_22 zc_8 (by decide) fl_X8_129 rfl rfl rfl (fun h3 => ?_)
      refine zg_iconst 1 rfl d_X8_known_25 ?_
      exact zg_zretK d_X8_known_26 rfl ⟨Nat.le_of_ble_eq_true rfl, Nat.le_of_ble_eq_true rfl⟩ (Or.inr rfl) (fun q => q)
    · refine zg_iconst 0 rfl d_X8_known_18 ?_
      exact zg_zretK d_X8_known_19 rfl ⟨Nat.le_of_ble_eq_true rfl, Nat.le_of_ble_eq_true rfl⟩ (Or.inl rfl) (fun q => q)
abbrev M_X8_lacks : zMt := (RX8, cX8_lacks, 3, 1, 60, (some .int), "lacks", 0, 0)
theorem d_X8_lacks_0 : zDc M_X8_lacks 0 (.aload_n 0) 1 1 := ⟨by decide +kernel, rfl⟩
theorem d_X8_lacks_1 : zDc M_X8_lacks 1 (.iconst 0) 1 2 := ⟨by decide +kernel, rfl⟩
theorem d_X8_lacks_2 : zDc M_X8_lacks 2 (.putfield 151) 3 5 := ⟨by decide +kernel, rfl⟩
theorem d_X8_lacks_5 : zDc M_X8_lacks 5 (.iconst 0) 1 6 := ⟨by decide +kernel, rfl⟩
theorem d_X8_lacks_6 : zDc M_X8_lacks 6 (.istore_n 1) 1 7 := ⟨by decide +kernel, rfl⟩
theorem d_X8_lacks_7 : zDc M_X8_lacks 7 (.iconst 0) 1 8 := ⟨by decide +kernel, rfl⟩
theorem d_X8_lacks_8 : zDc M_X8_lacks 8 (.istore_n 2) 1 9 := ⟨by decide +kernel, rfl⟩
theorem d_X8_lacks_9 : zDc M_X8_lacks 9 (.iload_n 2) 1 10 := ⟨by decide +kernel, rfl⟩
theorem d_X8_lacks_10 : zDc M_X8_lacks 10 (.aload_n 0) 1 11 := ⟨by decide +kernel, rfl⟩
theorem d_X8_lacks_11 : zDc M_X8_lacks 11 (.getfield 13) 3 14 := ⟨by decide +kernel, rfl⟩
theorem d_X8_lacks_14 : zDc M_X8_lacks 14 (.iconst 0) 1 15 := ⟨by decide +kernel, rfl⟩
theorem d_X8_lacks_15 : zDc M_X8_lacks 15 (.iaload) 1 16 := ⟨by decide +kernel, rfl⟩
theorem d_X8_lacks_16 : zDj M_X8_lacks 16 (.if_icmp .ge 34) 34 19 50 := ⟨by decide +kernel, rfl, by decide⟩
theorem d_X8_lacks_19 : zDc M_X8_lacks 19 (.iload_n 1) 1 20 := ⟨by decide +kernel, rfl⟩
theorem d_X8_lacks_20 : zDc M_X8_lacks 20 (.aload_n 0) 1 21 := ⟨by decide +kernel, rfl⟩
theorem d_X8_lacks_21 : zDc M_X8_lacks 21 (.getfield 102) 3 24 := ⟨by decide +kernel, rfl⟩
theorem d_X8_lacks_24 : zDc M_X8_lacks 24 (.iload_n 2) 1 25 := ⟨by decide +kernel, rfl⟩
theorem d_X8_lacks_25 : zDc M_X8_lacks 25 (.iaload) 1 26 := ⟨by decide +kernel, rfl⟩
theorem d_X8_lacks_26 : zDc M_X8_lacks 26 (.aload_n 0) 1 27 := ⟨by decide +kernel, rfl⟩
theorem d_X8_lacks_27 : zDc M_X8_lacks 27 (.getfield 25) 3 30 := ⟨by decide +kernel, rfl⟩
theorem d_X8_lacks_30 : zDc M_X8_lacks 30 (.iload_n 2) 1 31 := ⟨by decide +kernel, rfl⟩
theorem d_X8_lacks_31 : zDc M_X8_lacks 31 (.iaload) 1 32 := ⟨by decide +kernel, rfl⟩
theorem d_X8_lacks_32 : zDj M_X8_lacks 32 (.if_icmp .ge 9) 9 35 41 := ⟨by decide +kernel, rfl, by decide⟩
theorem d_X8_lacks_35 : zDc M_X8_lacks 35 (.iconst 1) 1 36 := ⟨by decide +kernel, rfl⟩
theorem d_X8_lacks_36 : zDc M_X8_lacks 36 (.iload_n 2) 1 37 := ⟨by decide +kernel, rfl⟩
theorem d_X8_lacks_37 : zDc M_X8_lacks 37 (.ishl) 1 38 := ⟨by decide +kernel, rfl⟩
theorem d_X8_lacks_38 : zDj M_X8_lacks 38 (.goto 4) 4 41 42 := ⟨by decide +kernel, rfl, by decide⟩
theorem d_X8_lacks_41 : zDc M_X8_lacks 41 (.iconst 0) 1 42 := ⟨by decide +kernel, rfl⟩
theorem d_X8_lacks_42 : zDc M_X8_lacks 42 (.ior) 1 43 := ⟨by decide +kernel, rfl⟩
theorem d_X8_lacks_43 : zDc M_X8_lacks 43 (.istore_n 1) 1 44 := ⟨by decide +kernel, rfl⟩
theorem d_X8_lacks_44 : zDc M_X8_lacks 44 (.iinc 2 1) 3 47 := ⟨by decide +kernel, rfl⟩
theorem d_X8_lacks_47 : zDj M_X8_lacks 47 (.goto (-38)) (-38) 50 9 := ⟨by decide +kernel, rfl, by decide⟩
theorem d_X8_lacks_50 : zDc M_X8_lacks 50 (.iload_n 1) 1 51 := ⟨by decide +kernel, rfl⟩
theorem d_X8_lacks_51 : zDc M_X8_lacks 51 (.ireturn) 1 52 := ⟨by decide +kernel, rfl⟩
def f_X8_lacks (a0 : Nat) (h0 : zHp) : Option (Int32 × zHp) :=
  zob (zpV h0 a0 8 0 (.int 0)) (fun h1 =>
  zbd (
  zlp (σ := (Int32 × Int32)) (β := (Int32 × Int32)) zLF (fun s2 h3 =>
  zob (zgR h3 a0 8 3) (fun v6 =>
  zob (zaI 0 h3 v6 0) (fun v7 =>
  if v7 ≤ s2.2 then
  some ((.inr (s2.1, s2.2)), h3)
  else
  zob (zgR h3 a0 8 45) (fun v8 =>
  zob (zaI 0 h3 v8 s2.2) (fun v9 =>
  zob (zgR h3 a0 8 7) (fun v10 =>
  zob (zaI 0 h3 v10 s2.2) (fun v11 =>
  if v11 ≤ v9 then
  some ((.inl ((s2.1 ||| 0), (s2.2 + 1))), h3)
  else
  some ((.inl ((s2.1 ||| (1 <<< (s2.2 &&& 31))), (s2.2 + 1))), h3)))))))) (0, 0) h1) (fun e4 h5 =>
  some (e4.1, h5)))
set_option maxRecDepth 100000 in
set_option maxHeartbeats 4000000 in
theorem t_X8_lacks (a0 : Nat) (h0 : zHp) : ∀ (r : Int32) (h' : zHp), f_X8_lacks a0 h0 = some (r, h') → zCt yX8_lacks (.code yX8_lacks cX8_lacks 3 (some .int)) 1 60 0 0 [.ref a0] h0 (some (.int r)) h' := by
  refine zct_of M_X8_lacks yX8_lacks (by decide) rfl rfl [.ref a0] h0 (Nat.le_of_ble_eq_true rfl) (fun r => some (.int r)) (fun X => ?_)
  show zG X M_X8_lacks (0, 0) 0 [(0, .ref a0)] [] h0 (f_X8_lacks a0 h0) (fun (r : Int32) h' => zKe X (some (.int r)) h')
  unfold f_X8_lacks
  refine zg_aload_n 0 rfl d_X8_lacks_0 ?_
  refine zg_iconst 0 rfl d_X8_lacks_1 ?_
  refine zg_putV d_X8_lacks_2 zc_8 (by decide) fl_X8_151 rfl rfl rfl (fun h1 => ?_)
  refine zg_iconst 0 rfl d_X8_lacks_5 ?_
  refine zg_istore_n [(1, .int 0), (0, .ref a0)] d_X8_lacks_6 rfl (by decide) rfl ?_
  refine zg_iconst 0 rfl d_X8_lacks_7 ?_
  refine zg_istore_n [(2, .int 0), (1, .int 0), (0, .ref a0)] d_X8_lacks_8 rfl (by decide) rfl ?_
  refine zg_bd (E := 50) (el := (fun (e4 : (Int32 × Int32)) => [(0, .ref a0), (1, .int e4.1), (2, .int e4.2)])) (es := fun _ => []) (zg_sub [2, 1, 0] rfl (zg_lp (el := (fun (s2 : (Int32 × Int32)) => [(0, .ref a0), (1, .int s2.1), (2, .int s2.2)])) (fun s2 h3 => ?_) (0, 0) h1)) (fun e4 h5 => ?_)
  · refine zg_iload_n 2 rfl d_X8_lacks_9 ?_
    refine zg_aload_n 0 rfl d_X8_lacks_10 ?_
    refine zg_getR d_X8_lacks_11 zc_8 (by decide) fl_X8_13 (fun v6 => ?_)
    refine zg_iconst 0 rfl d_X8_lacks_14 ?_
    refine zg_ald0 d_X8_lacks_15 (fun v7 => ?_)
    refine zg_icmp_ge d_X8_lacks_16 ?_ ?_
    · exact zg_finK (E := 0) [0, 1, 2] rfl rfl (fun q => q)
    · refine zg_iload_n 1 rfl d_X8_lacks_19 ?_
      refine zg_aload_n 0 rfl d_X8_lacks_20 ?_
      refine zg_getR d_X8_lacks_21 zc_8 (by decide) fl_X8_102 (fun v8 => ?_)
      refine zg_iload_n 2 rfl d_X8_lacks_24 ?_
      refine zg_ald0 d_X8_lacks_25 (fun v9 => ?_)
      refine zg_aload_n 0 rfl d_X8_lacks_26 ?_
      refine zg_getR d_X8_lacks_27 zc_8 (by decide) fl_X8_25 (fun v10 => ?_)
      refine zg_iload_n 2 rfl d_X8_lacks_30 ?_
      refine zg_ald0 d_X8_lacks_31 (fun v11 => ?_)
      refine zg_icmp_ge d_X8_lacks_32 ?_ ?_
      · refine zg_iconst 0 rfl d_X8_lacks_41 ?_
        refine zg_ior d_X8_lacks_42 ?_
        refine zg_istore_n [(1, .int (s2.1 ||| 0)), (0, .ref a0), (2, .int s2.2)] d_X8_lacks_43 rfl (by decide) rfl ?_
        refine zg_iinc 2 (s2.2 + 1) [(2, .int (s2.2 + 1)), (1, .int (s2.1 ||| 0)), (0, .ref a0)] d_X8_lacks_44 rfl rfl (by decide) rfl ?_
        refine zg_goto d_X8_lacks_47 ?_
        exact zg_finK (E := 0) [2, 1, 0] rfl rfl (fun q => q)
      · refine zg_iconst 1 rfl d_X8_lacks_35 ?_
        refine zg_iload_n 2 rfl d_X8_lacks_36 ?_
        refine zg_ishl d_X8_lacks_37 ?_
        refine zg_goto d_X8_lacks_38 ?_
        refine zg_ior d_X8_lacks_42 ?_
        refine zg_istore_n [(1, .int (s2.1 ||| (1 <<< (s2.2 &&& 31)))), (0, .ref a0), (2, .int s2.2)] d_X8_lacks_43 rfl (by decide) rfl ?_
        refine zg_iinc 2 (s2.2 + 1) [(2, .int (s2.2 + 1)), (1, .int (s2.1 ||| (1 <<< (s2.2 &&& 31)))), (0, .ref a0)] d_X8_lacks_44 rfl rfl (by decide) rfl ?_
        refine zg_goto d_X8_lacks_47 ?_
        exact zg_finK (E := 0) [2, 1, 0] rfl rfl (fun q => q)
  · refine zg_iload_n 1 rfl d_X8_lacks_50 ?_
    exact zg_iretK d_X8_lacks_51 rfl ⟨Nat.le_of_ble_eq_true rfl, Nat.le_of_ble_eq_true rfl⟩ (fun q => q)
abbrev M_X8_ownSeen : zMt := (RX8, cX8_ownSeen, 4, 3, 104, (some .int), "ownSeen", 0, 0)
theorem d_X8_ownSeen_0 : zDc M_X8_ownSeen 0 (.iconst 0) 1 1 := ⟨by decide +kernel, rfl⟩
theorem d_X8_ownSeen_1 : zDc M_X8_ownSeen 1 (.istore_n 3) 1 2 := ⟨by decide +kernel, rfl⟩
theorem d_X8_ownSeen_2 : zDc M_X8_ownSeen 2 (.iload_n 3) 1 3 := ⟨by decide +kernel, rfl⟩
theorem d_X8_ownSeen_3 : zDc M_X8_ownSeen 3 (.aload_n 0) 1 4 := ⟨by decide +kernel, rfl⟩
theorem d_X8_ownSeen_4 : zDc M_X8_ownSeen 4 (.getfield 13) 3 7 := ⟨by decide +kernel, rfl⟩
theorem d_X8_ownSeen_7 : zDc M_X8_ownSeen 7 (.iconst 1) 1 8 := ⟨by decide +kernel, rfl⟩
theorem d_X8_ownSeen_8 : zDc M_X8_ownSeen 8 (.iaload) 1 9 := ⟨by decide +kernel, rfl⟩
theorem d_X8_ownSeen_9 : zDj M_X8_ownSeen 9 (.if_icmp .ge 55) 55 12 64 := ⟨by decide +kernel, rfl, by decide⟩
theorem d_X8_ownSeen_12 : zDc M_X8_ownSeen 12 (.aload_n 0) 1 13 := ⟨by decide +kernel, rfl⟩
theorem d_X8_ownSeen_13 : zDc M_X8_ownSeen 13 (.iload_n 1) 1 14 := ⟨by decide +kernel, rfl⟩
theorem d_X8_ownSeen_14 : zDc M_X8_ownSeen 14 (.iload_n 3) 1 15 := ⟨by decide +kernel, rfl⟩
theorem d_X8_ownSeen_15 : zDc M_X8_ownSeen 15 (.invokevirtual 351) 3 18 := ⟨by decide +kernel, rfl⟩
theorem d_X8_ownSeen_18 : zDj M_X8_ownSeen 18 (.ifCond .eq 40) 40 21 58 := ⟨by decide +kernel, rfl, by decide⟩
theorem d_X8_ownSeen_21 : zDc M_X8_ownSeen 21 (.aload_n 0) 1 22 := ⟨by decide +kernel, rfl⟩
theorem d_X8_ownSeen_22 : zDc M_X8_ownSeen 22 (.getfield 90) 3 25 := ⟨by decide +kernel, rfl⟩
theorem d_X8_ownSeen_25 : zDc M_X8_ownSeen 25 (.bipush 8) 2 27 := ⟨by decide +kernel, rfl⟩
theorem d_X8_ownSeen_27 : zDc M_X8_ownSeen 27 (.iload_n 1) 1 28 := ⟨by decide +kernel, rfl⟩
theorem d_X8_ownSeen_28 : zDc M_X8_ownSeen 28 (.imul) 1 29 := ⟨by decide +kernel, rfl⟩
theorem d_X8_ownSeen_29 : zDc M_X8_ownSeen 29 (.iload_n 3) 1 30 := ⟨by decide +kernel, rfl⟩
theorem d_X8_ownSeen_30 : zDc M_X8_ownSeen 30 (.iadd) 1 31 := ⟨by decide +kernel, rfl⟩
theorem d_X8_ownSeen_31 : zDc M_X8_ownSeen 31 (.iaload) 1 32 := ⟨by decide +kernel, rfl⟩
theorem d_X8_ownSeen_32 : zDc M_X8_ownSeen 32 (.iload_n 2) 1 33 := ⟨by decide +kernel, rfl⟩
theorem d_X8_ownSeen_33 : zDj M_X8_ownSeen 33 (.if_icmp .ne 25) 25 36 58 := ⟨by decide +kernel, rfl, by decide⟩
theorem d_X8_ownSeen_36 : zDc M_X8_ownSeen 36 (.aload_n 0) 1 37 := ⟨by decide +kernel, rfl⟩
theorem d_X8_ownSeen_37 : zDc M_X8_ownSeen 37 (.iload_n 1) 1 38 := ⟨by decide +kernel, rfl⟩
theorem d_X8_ownSeen_38 : zDc M_X8_ownSeen 38 (.iload_n 2) 1 39 := ⟨by decide +kernel, rfl⟩
theorem d_X8_ownSeen_39 : zDc M_X8_ownSeen 39 (.aload_n 0) 1 40 := ⟨by decide +kernel, rfl⟩
theorem d_X8_ownSeen_40 : zDc M_X8_ownSeen 40 (.getfield 81) 3 43 := ⟨by decide +kernel, rfl⟩
theorem d_X8_ownSeen_43 : zDc M_X8_ownSeen 43 (.bipush 8) 2 45 := ⟨by decide +kernel, rfl⟩
theorem d_X8_ownSeen_45 : zDc M_X8_ownSeen 45 (.iload_n 1) 1 46 := ⟨by decide +kernel, rfl⟩
theorem d_X8_ownSeen_46 : zDc M_X8_ownSeen 46 (.imul) 1 47 := ⟨by decide +kernel, rfl⟩
theorem d_X8_ownSeen_47 : zDc M_X8_ownSeen 47 (.iload_n 3) 1 48 := ⟨by decide +kernel, rfl⟩
theorem d_X8_ownSeen_48 : zDc M_X8_ownSeen 48 (.iadd) 1 49 := ⟨by decide +kernel, rfl⟩
theorem d_X8_ownSeen_49 : zDc M_X8_ownSeen 49 (.iaload) 1 50 := ⟨by decide +kernel, rfl⟩
theorem d_X8_ownSeen_50 : zDc M_X8_ownSeen 50 (.invokevirtual 390) 3 53 := ⟨by decide +kernel, rfl⟩
theorem d_X8_ownSeen_53 : zDj M_X8_ownSeen 53 (.ifCond .eq 5) 5 56 58 := ⟨by decide +kernel, rfl, by decide⟩
theorem d_X8_ownSeen_56 : zDc M_X8_ownSeen 56 (.iload_n 3) 1 57 := ⟨by decide +kernel, rfl⟩
theorem d_X8_ownSeen_57 : zDc M_X8_ownSeen 57 (.ireturn) 1 58 := ⟨by decide +kernel, rfl⟩
theorem d_X8_ownSeen_58 : zDc M_X8_ownSeen 58 (.iinc 3 1) 3 61 := ⟨by decide +kernel, rfl⟩
theorem d_X8_ownSeen_61 : zDj M_X8_ownSeen 61 (.goto (-59)) (-59) 64 2 := ⟨by decide +kernel, rfl, by decide⟩
theorem d_X8_ownSeen_64 : zDc M_X8_ownSeen 64 (.iconst (-1)) 1 65 := ⟨by decide +kernel, rfl⟩
theorem d_X8_ownSeen_65 : zDc M_X8_ownSeen 65 (.ireturn) 1 66 := ⟨by decide +kernel, rfl⟩
def f_X8_ownSeen (a0 : Nat) (a1 : Int32) (a2 : Int32) (h0 : zHp) : Option (Int32 × zHp) :=
  zbd (
  zlp (σ := Int32) (β := (Int32 ⊕ Int32)) zLF (fun s1 h2 =>
  zob (zgR h2 a0 8 3) (fun v5 =>
  zob (zaI 0 h2 v5 1) (fun v6 =>
  if v6 ≤ s1 then
  some ((.inr (.inl s1)), h2)
  else
  zbd (zcv 8 a0 h2 (f_X8_isUp a0 a1 s1 h2)) (fun v8 h7 =>
  if v8 = 0 then
  some ((.inl (s1 + 1)), h7)
  else
  zob (zgR h7 a0 8 41) (fun v9 =>
  zob (zaI 0 h7 v9 ((8 * a1) + s1)) (fun v10 =>
  if v10 = a2 then
  zob (zgR h7 a0 8 38) (fun v11 =>
  zob (zaI 0 h7 v11 ((8 * a1) + s1)) (fun v12 =>
  zbd (zcv 8 a0 h7 (f_X8_doesSee a0 a1 a2 v12 h7)) (fun v14 h13 =>
  if v14 = 0 then
  some ((.inl (s1 + 1)), h13)
  else
  some ((.inr (.inr s1)), h13))))
  else
  some ((.inl (s1 + 1)), h7))))))) 0 h0) (fun b15 h4 => zsl b15 (fun e3 =>
  some ((-1), h4)) (fun r => some (r, h4)))
set_option maxRecDepth 100000 in
set_option maxHeartbeats 4000000 in
theorem t_X8_ownSeen (a0 : Nat) (a1 : Int32) (a2 : Int32) (h0 : zHp) : ∀ (r : Int32) (h' : zHp), f_X8_ownSeen a0 a1 a2 h0 = some (r, h') → zCt yX8_ownSeen (.code yX8_ownSeen cX8_ownSeen 4 (some .int)) 3 104 0 0 [.ref a0, .int a1, .int a2] h0 (some (.int r)) h' := by
  refine zct_of M_X8_ownSeen yX8_ownSeen (by decide) rfl rfl [.ref a0, .int a1, .int a2] h0 (Nat.le_of_ble_eq_true rfl) (fun r => some (.int r)) (fun X => ?_)
  show zG X M_X8_ownSeen (0, 0) 0 [(0, .ref a0), (1, .int a1), (2, .int a2)] [] h0 (f_X8_ownSeen a0 a1 a2 h0) (fun (r : Int32) h' => zKe X (some (.int r)) h')
  unfold f_X8_ownSeen
  refine zg_iconst 0 rfl d_X8_ownSeen_0 ?_
  refine zg_istore_n [(3, .int 0), (0, .ref a0), (1, .int a1), (2, .int a2)] d_X8_ownSeen_1 rfl (by decide) rfl ?_
  refine zg_bdr (E := 64) (el := (fun (e3 : Int32) => [(0, .ref a0), (1, .int a1), (2, .int a2), (3, .int e3)])) (es := fun _ => []) (zg_sub [1, 2, 3, 0] rfl (zg_lp (el := (fun (s1 : Int32) => [(0, .ref a0), (1, .int a1), (2, .int a2), (3, .int s1)])) (fun s1 h2 => ?_) 0 h0)) (fun e3 h4 => ?_)
  · refine zg_iload_n 3 rfl d_X8_ownSeen_2 ?_
    refine zg_aload_n 0 rfl d_X8_ownSeen_3 ?_
    refine zg_getR d_X8_ownSeen_4 zc_8 (by decide) fl_X8_13 (fun v5 => ?_)
    refine zg_iconst 1 rfl d_X8_ownSeen_7 ?_
    refine zg_ald0 d_X8_ownSeen_8 (fun v6 => ?_)
    refine zg_icmp_ge d_X8_ownSeen_9 ?_ ?_
    · exact zg_finK (E := 0) [0, 1, 2, 3] rfl rfl (fun q => q)
    · refine zg_aload_n 0 rfl d_X8_ownSeen_12 ?_
      refine zg_iload_n 1 rfl d_X8_ownSeen_13 ?_
      refine zg_iload_n 3 rfl d_X8_ownSeen_14 ?_
      refine zg_cVi (b := a0) (As := [.int a1, .int s1]) (rest := []) (0, 0) d_X8_ownSeen_15 zc_8 rfl cw_X8_351 wi_X8_isUp ws_X8_isUp rfl rfl (Nat.le_of_ble_eq_true rfl) (by decide) (by decide) ⟨by decide, by decide⟩ rfl (t_X8_isUp a0 a1 s1 h2) (fun v8 h7 => ?_)
      refine zg_if_eq d_X8_ownSeen_18 ?_ ?_
      · refine zg_iinc 3 (s1 + 1) [(3, .int (s1 + 1)), (0, .ref a0), (1, .int a1), (2, .int a2)] d_X8_ownSeen_58 rfl rfl (by decide) rfl ?_
        refine zg_goto d_X8_ownSeen_61 ?_
        exact zg_finK (E := 0) [1, 2, 3, 0] rfl rfl (fun q => q)
      · refine zg_aload_n 0 rfl d_X8_ownSeen_21 ?_
        refine zg_getR d_X8_ownSeen_22 zc_8 (by decide) fl_X8_90 (fun v9 => ?_)
        refine zg_bipush 8 rfl d_X8_ownSeen_25 ?_
        refine zg_iload_n 1 rfl d_X8_ownSeen_27 ?_
        refine zg_imul d_X8_ownSeen_28 ?_
        refine zg_iload_n 3 rfl d_X8_ownSeen_29 ?_
        refine zg_iadd d_X8_ownSeen_30 ?_
        refine zg_ald0 d_X8_ownSeen_31 (fun v10 => ?_)
        refine zg_iload_n 2 rfl d_X8_ownSeen_32 ?_
        refine zg_icmp_ne d_X8_ownSeen_33 ?_ ?_
        · refine zg_aload_n 0 rfl d_X8_ownSeen_36 ?_
          refine zg_iload_n 1 rfl d_X8_ownSeen_37 ?_
          refine zg_iload_n 2 rfl d_X8_ownSeen_38 ?_
          refine zg_aload_n 0 rfl d_X8_ownSeen_39 ?_
          refine zg_getR d_X8_ownSeen_40 zc_8 (by decide) fl_X8_81 (fun v11 => ?_)
          refine zg_bipush 8 rfl d_X8_ownSeen_43 ?_
          refine zg_iload_n 1 rfl d_X8_ownSeen_45 ?_
          refine zg_imul d_X8_ownSeen_46 ?_
          refine zg_iload_n 3 rfl d_X8_ownSeen_47 ?_
          refine zg_iadd d_X8_ownSeen_48 ?_
          refine zg_ald0 d_X8_ownSeen_49 (fun v12 => ?_)
          refine zg_cVi (b := a0) (As := [.int a1, .int a2, .int v12]) (rest := []) (0, 0) d_X8_ownSeen_50 zc_8 rfl cw_X8_390 wi_X8_doesSee ws_X8_doesSee rfl rfl (Nat.le_of_ble_eq_true rfl) (by decide) (by decide) ⟨by decide, by decide⟩ rfl (t_X8_doesSee a0 a1 a2 v12 h7) (fun v14 h13 => ?_)
          refine zg_if_eq d_X8_ownSeen_53 ?_ ?_
          · refine zg_iinc 3 (s1 + 1) [(3, .int (s1 + 1)), (0, .ref a0), (1, .int a1), (2, .int a2)] d_X8_ownSeen_58 rfl rfl (by decide) rfl ?_
            refine zg_goto d_X8_ownSeen_61 ?_
            exact zg_finK (E := 0) [1, 2, 3, 0] rfl rfl (fun q => q)
          · refine zg_iload_n 3 rfl d_X8_ownSeen_56 ?_
            exact zg_iretK d_X8_ownSeen_57 rfl ⟨Nat.le_of_ble_eq_true rfl, Nat.le_of_ble_eq_true rfl⟩ (fun q => q)
        · refine zg_iinc 3 (s1 + 1) [(3, .int (s1 + 1)), (0, .ref a0), (1, .int a1), (2, .int a2)] d_X8_ownSeen_58 rfl rfl (by decide) rfl ?_
          refine zg_goto d_X8_ownSeen_61 ?_
          exact zg_finK (E := 0) [1, 2, 3, 0] rfl rfl (fun q => q)
  · refine zg_iconst (-1) rfl d_X8_ownSeen_64 ?_
    exact zg_iretK d_X8_ownSeen_65 rfl ⟨Nat.le_of_ble_eq_true rfl, Nat.le_of_ble_eq_true rfl⟩ (fun q => q)
abbrev M_X8_pushes : zMt := (RX8, cX8_pushes, 5, 4, 127, none, "pushes", 0, 0)
theorem d_X8_pushes_0 : zDc M_X8_pushes 0 (.aload_n 0) 1 1 := ⟨by decide +kernel, rfl⟩
theorem d_X8_pushes_1 : zDc M_X8_pushes 1 (.iload_n 1) 1 2 := ⟨by decide +kernel, rfl⟩
theorem d_X8_pushes_2 : zDc M_X8_pushes 2 (.iload_n 2) 1 3 := ⟨by decide +kernel, rfl⟩
theorem d_X8_pushes_3 : zDc M_X8_pushes 3 (.invokevirtual 441) 3 6 := ⟨by decide +kernel, rfl⟩
theorem d_X8_pushes_6 : zDc M_X8_pushes 6 (.istore 4) 2 8 := ⟨by decide +kernel, rfl⟩
theorem d_X8_pushes_8 : zDc M_X8_pushes 8 (.iload 4) 2 10 := ⟨by decide +kernel, rfl⟩
theorem d_X8_pushes_10 : zDc M_X8_pushes 10 (.iconst (-1)) 1 11 := ⟨by decide +kernel, rfl⟩
theorem d_X8_pushes_11 : zDj M_X8_pushes 11 (.if_icmp .eq 15) 15 14 26 := ⟨by decide +kernel, rfl, by decide⟩
theorem d_X8_pushes_14 : zDc M_X8_pushes 14 (.iload_n 3) 1 15 := ⟨by decide +kernel, rfl⟩
theorem d_X8_pushes_15 : zDj M_X8_pushes 15 (.ifCond .le 11) 11 18 26 := ⟨by decide +kernel, rfl, by decide⟩
theorem d_X8_pushes_18 : zDc M_X8_pushes 18 (.aload_n 0) 1 19 := ⟨by decide +kernel, rfl⟩
theorem d_X8_pushes_19 : zDc M_X8_pushes 19 (.iload_n 1) 1 20 := ⟨by decide +kernel, rfl⟩
theorem d_X8_pushes_20 : zDc M_X8_pushes 20 (.iload 4) 2 22 := ⟨by decide +kernel, rfl⟩
theorem d_X8_pushes_22 : zDc M_X8_pushes 22 (.iload_n 3) 1 23 := ⟨by decide +kernel, rfl⟩
theorem d_X8_pushes_23 : zDc M_X8_pushes 23 (.invokevirtual 400) 3 26 := ⟨by decide +kernel, rfl⟩
theorem d_X8_pushes_26 : zDc M_X8_pushes 26 (.return_) 1 27 := ⟨by decide +kernel, rfl⟩
def f_X8_pushes (a0 : Nat) (a1 : Int32) (a2 : Int32) (a3 : Int32) (h0 : zHp) : Option (Unit × zHp) :=
  zbd (zcv 8 a0 h0 (f_X8_ownSeen a0 a1 a2 h0)) (fun v2 h1 =>
  if v2 = (-1) then
  some ((), h1)
  else
  if a3 ≤ 0 then
  some ((), h1)
  else
  zbd (zcv 8 a0 h1 (f_X8_drifts a0 a1 v2 a3 h1)) (fun v4 h3 =>
  some ((), h3)))
set_option maxRecDepth 100000 in
set_option maxHeartbeats 4000000 in
theorem t_X8_pushes (a0 : Nat) (a1 : Int32) (a2 : Int32) (a3 : Int32) (h0 : zHp) : ∀ (r : Unit) (h' : zHp), f_X8_pushes a0 a1 a2 a3 h0 = some (r, h') → zCt yX8_pushes (.code yX8_pushes cX8_pushes 5 none) 4 127 0 0 [.ref a0, .int a1, .int a2, .int a3] h0 (none) h' := by
  refine zct_of M_X8_pushes yX8_pushes (by decide) rfl rfl [.ref a0, .int a1, .int a2, .int a3] h0 (Nat.le_of_ble_eq_true rfl) (fun _ => none) (fun X => ?_)
  show zG X M_X8_pushes (0, 0) 0 [(0, .ref a0), (1, .int a1), (2, .int a2), (3, .int a3)] [] h0 (f_X8_pushes a0 a1 a2 a3 h0) (fun (_ : Unit) h' => zKe X (none) h')
  unfold f_X8_pushes
  refine zg_aload_n 0 rfl d_X8_pushes_0 ?_
  refine zg_iload_n 1 rfl d_X8_pushes_1 ?_
  refine zg_iload_n 2 rfl d_X8_pushes_2 ?_
  refine zg_cVi (b := a0) (As := [.int a1, .int a2]) (rest := []) (0, 0) d_X8_pushes_3 zc_8 rfl cw_X8_441 wi_X8_ownSeen ws_X8_ownSeen rfl rfl (Nat.le_of_ble_eq_true rfl) (by decide) (by decide) ⟨by decide, by decide⟩ rfl (t_X8_ownSeen a0 a1 a2 h0) (fun v2 h1 => ?_)
  refine zg_istore [(4, .int v2), (0, .ref a0), (1, .int a1), (2, .int a2), (3, .int a3)] d_X8_pushes_6 (by decide) rfl ?_
  refine zg_iload 0 rfl d_X8_pushes_8 ?_
  refine zg_iconst (-1) rfl d_X8_pushes_10 ?_
  refine zg_icmp_eq d_X8_pushes_11 ?_ ?_
  · exact zg_vretK d_X8_pushes_26 rfl ⟨Nat.le_of_ble_eq_true rfl, Nat.le_of_ble_eq_true rfl⟩ (fun q => q)
  · refine zg_iload_n 4 rfl d_X8_pushes_14 ?_
    refine zg_if_le d_X8_pushes_15 ?_ ?_
    · exact zg_vretK d_X8_pushes_26 rfl ⟨Nat.le_of_ble_eq_true rfl, Nat.le_of_ble_eq_true rfl⟩ (fun q => q)
    · refine zg_aload_n 1 rfl d_X8_pushes_18 ?_
      refine zg_iload_n 2 rfl d_X8_pushes_19 ?_
      refine zg_iload 0 rfl d_X8_pushes_20 ?_
      refine zg_iload_n 4 rfl d_X8_pushes_22 ?_
      refine zg_cVv (b := a0) (As := [.int a1, .int v2, .int a3]) (rest := []) (0, 0) d_X8_pushes_23 zc_8 rfl cw_X8_400 wi_X8_drifts ws_X8_drifts rfl rfl (Nat.le_of_ble_eq_true rfl) (by decide) (by decide) ⟨by decide, by decide⟩ rfl (t_X8_drifts a0 a1 v2 a3 h1) (fun v4 h3 => ?_)
      exact zg_vretK d_X8_pushes_26 rfl ⟨Nat.le_of_ble_eq_true rfl, Nat.le_of_ble_eq_true rfl⟩ (fun q => q)
abbrev M_X8_named : zMt := (RX8, cX8_named, 3, 2, 84, (some .int), "named", 0, 0)
theorem d_X8_named_0 : zDc M_X8_named 0 (.aload_n 0) 1 1 := ⟨by decide +kernel, rfl⟩
theorem d_X8_named_1 : zDc M_X8_named 1 (.iconst 0) 1 2 := ⟨by decide +kernel, rfl⟩
theorem d_X8_named_2 : zDc M_X8_named 2 (.putfield 151) 3 5 := ⟨by decide +kernel, rfl⟩
theorem d_X8_named_5 : zDc M_X8_named 5 (.iload_n 1) 1 6 := ⟨by decide +kernel, rfl⟩
theorem d_X8_named_6 : decode M_X8_named.2.1 6 = .ok (.tableswitch 74 0 2 #[26, 42, 58], 26) := by decide +kernel
theorem d_X8_named_32 : zDc M_X8_named 32 (.aload_n 0) 1 33 := ⟨by decide +kernel, rfl⟩
theorem d_X8_named_33 : zDc M_X8_named 33 (.getfield 19) 3 36 := ⟨by decide +kernel, rfl⟩
theorem d_X8_named_36 : zDc M_X8_named 36 (.iconst 0) 1 37 := ⟨by decide +kernel, rfl⟩
theorem d_X8_named_37 : zDc M_X8_named 37 (.aload_n 0) 1 38 := ⟨by decide +kernel, rfl⟩
theorem d_X8_named_38 : zDc M_X8_named 38 (.getfield 13) 3 41 := ⟨by decide +kernel, rfl⟩
theorem d_X8_named_41 : zDc M_X8_named 41 (.iconst 0) 1 42 := ⟨by decide +kernel, rfl⟩
theorem d_X8_named_42 : zDc M_X8_named 42 (.iaload) 1 43 := ⟨by decide +kernel, rfl⟩
theorem d_X8_named_43 : zDc M_X8_named 43 (.iload_n 2) 1 44 := ⟨by decide +kernel, rfl⟩
theorem d_X8_named_44 : zDc M_X8_named 44 (.invokestatic 217) 3 47 := ⟨by decide +kernel, rfl⟩
theorem d_X8_named_47 : zDc M_X8_named 47 (.ireturn) 1 48 := ⟨by decide +kernel, rfl⟩
theorem d_X8_named_48 : zDc M_X8_named 48 (.aload_n 0) 1 49 := ⟨by decide +kernel, rfl⟩
theorem d_X8_named_49 : zDc M_X8_named 49 (.getfield 28) 3 52 := ⟨by decide +kernel, rfl⟩
theorem d_X8_named_52 : zDc M_X8_named 52 (.iconst 0) 1 53 := ⟨by decide +kernel, rfl⟩
theorem d_X8_named_53 : zDc M_X8_named 53 (.aload_n 0) 1 54 := ⟨by decide +kernel, rfl⟩
theorem d_X8_named_54 : zDc M_X8_named 54 (.getfield 13) 3 57 := ⟨by decide +kernel, rfl⟩
theorem d_X8_named_57 : zDc M_X8_named 57 (.iconst 1) 1 58 := ⟨by decide +kernel, rfl⟩
theorem d_X8_named_58 : zDc M_X8_named 58 (.iaload) 1 59 := ⟨by decide +kernel, rfl⟩
theorem d_X8_named_59 : zDc M_X8_named 59 (.iload_n 2) 1 60 := ⟨by decide +kernel, rfl⟩
theorem d_X8_named_60 : zDc M_X8_named 60 (.invokestatic 217) 3 63 := ⟨by decide +kernel, rfl⟩
theorem d_X8_named_63 : zDc M_X8_named 63 (.ireturn) 1 64 := ⟨by decide +kernel, rfl⟩
theorem d_X8_named_64 : zDc M_X8_named 64 (.aload_n 0) 1 65 := ⟨by decide +kernel, rfl⟩
theorem d_X8_named_65 : zDc M_X8_named 65 (.getfield 40) 3 68 := ⟨by decide +kernel, rfl⟩
theorem d_X8_named_68 : zDc M_X8_named 68 (.iconst 0) 1 69 := ⟨by decide +kernel, rfl⟩
theorem d_X8_named_69 : zDc M_X8_named 69 (.aload_n 0) 1 70 := ⟨by decide +kernel, rfl⟩
theorem d_X8_named_70 : zDc M_X8_named 70 (.getfield 13) 3 73 := ⟨by decide +kernel, rfl⟩
theorem d_X8_named_73 : zDc M_X8_named 73 (.iconst 2) 1 74 := ⟨by decide +kernel, rfl⟩
theorem d_X8_named_74 : zDc M_X8_named 74 (.iaload) 1 75 := ⟨by decide +kernel, rfl⟩
theorem d_X8_named_75 : zDc M_X8_named 75 (.iload_n 2) 1 76 := ⟨by decide +kernel, rfl⟩
theorem d_X8_named_76 : zDc M_X8_named 76 (.invokestatic 217) 3 79 := ⟨by decide +kernel, rfl⟩
theorem d_X8_named_79 : zDc M_X8_named 79 (.ireturn) 1 80 := ⟨by decide +kernel, rfl⟩
theorem d_X8_named_80 : zDc M_X8_named 80 (.iconst (-1)) 1 81 := ⟨by decide +kernel, rfl⟩
theorem d_X8_named_81 : zDc M_X8_named 81 (.ireturn) 1 82 := ⟨by decide +kernel, rfl⟩
def f_X8_named (a0 : Nat) (a1 : Int32) (a2 : Int32) (h0 : zHp) : Option (Int32 × zHp) :=
  zob (zpV h0 a0 8 0 (.int 0)) (fun h1 =>
  if a1 = 0 then
  zob (zgR h1 a0 8 5) (fun v2 =>
  zob (zgR h1 a0 8 3) (fun v3 =>
  zob (zaI 0 h1 v3 0) (fun v4 =>
  zbd ((f_X8_found v2 0 v4 a2 h1)) (fun v6 h5 =>
  some (v6, h5)))))
  else if a1 = 1 then
  zob (zgR h1 a0 8 8) (fun v7 =>
  zob (zgR h1 a0 8 3) (fun v8 =>
  zob (zaI 0 h1 v8 1) (fun v9 =>
  zbd ((f_X8_found v7 0 v9 a2 h1)) (fun v11 h10 =>
  some (v11, h10)))))
  else if a1 = 2 then
  zob (zgR h1 a0 8 12) (fun v12 =>
  zob (zgR h1 a0 8 3) (fun v13 =>
  zob (zaI 0 h1 v13 2) (fun v14 =>
  zbd ((f_X8_found v12 0 v14 a2 h1)) (fun v16 h15 =>
  some (v16, h15)))))
  else 
  some ((-1), h1))
set_option maxRecDepth 100000 in
set_option maxHeartbeats 4000000 in
theorem t_X8_named (a0 : Nat) (a1 : Int32) (a2 : Int32) (h0 : zHp) : ∀ (r : Int32) (h' : zHp), f_X8_named a0 a1 a2 h0 = some (r, h') → zCt yX8_named (.code yX8_named cX8_named 3 (some .int)) 2 84 0 0 [.ref a0, .int a1, .int a2] h0 (some (.int r)) h' := by
  refine zct_of M_X8_named yX8_named (by decide) rfl rfl [.ref a0, .int a1, .int a2] h0 (Nat.le_of_ble_eq_true rfl) (fun r => some (.int r)) (fun X => ?_)
  show zG X M_X8_named (0, 0) 0 [(0, .ref a0), (1, .int a1), (2, .int a2)] [] h0 (f_X8_named a0 a1 a2 h0) (fun (r : Int32) h' => zKe X (some (.int r)) h')
  unfold f_X8_named
  refine zg_aload_n 0 rfl d_X8_named_0 ?_
  refine zg_iconst 0 rfl d_X8_named_1 ?_
  refine zg_putV d_X8_named_2 zc_8 (by decide) fl_X8_151 rfl rfl rfl (fun h1 => ?_)
  refine zg_iload_n 1 rfl d_X8_named_5 ?_
  refine zg_if (fun n17 => ?_) (fun n17 => ?_)
  · refine zg_tabE n17 d_X8_named_6 (by decide) (by decide) (off := 26) rfl (tgt := 32) (by decide) ?_
    refine zg_aload_n 0 rfl d_X8_named_32 ?_
    refine zg_getR d_X8_named_33 zc_8 (by decide) fl_X8_19 (fun v2 => ?_)
    refine zg_iconst 0 rfl d_X8_named_36 ?_
    refine zg_aload_n 0 rfl d_X8_named_37 ?_
    refine zg_getR d_X8_named_38 zc_8 (by decide) fl_X8_13 (fun v3 => ?_)
    refine zg_iconst 0 rfl d_X8_named_41 ?_
    refine zg_ald0 d_X8_named_42 (fun v4 => ?_)
    refine zg_iload_n 2 rfl d_X8_named_43 ?_
    refine zg_cSi (As := [.ref v2, .int 0, .int v4, .int a2]) (rest := []) (0, 0) d_X8_named_44 cw_X8_217 wt_X8_found rfl rfl (Nat.le_of_ble_eq_true rfl) (by decide) (by decide) ⟨by decide, by decide⟩ rfl (t_X8_found v2 0 v4 a2 h1) (fun v6 h5 => ?_)
    exact zg_iretK d_X8_named_47 rfl ⟨Nat.le_of_ble_eq_true rfl, Nat.le_of_ble_eq_true rfl⟩ (fun q => q)
  refine zg_if (fun n18 => ?_) (fun n18 => ?_)
  · refine zg_tabE n18 d_X8_named_6 (by decide) (by decide) (off := 42) rfl (tgt := 48) (by decide) ?_
    refine zg_aload_n 0 rfl d_X8_named_48 ?_
    refine zg_getR d_X8_named_49 zc_8 (by decide) fl_X8_28 (fun v7 => ?_)
    refine zg_iconst 0 rfl d_X8_named_52 ?_
    refine zg_aload_n 0 rfl d_X8_named_53 ?_
    refine zg_getR d_X8_named_54 zc_8 (by decide) fl_X8_13 (fun v8 => ?_)
    refine zg_iconst 1 rfl d_X8_named_57 ?_
    refine zg_ald0 d_X8_named_58 (fun v9 => ?_)
    refine zg_iload_n 2 rfl d_X8_named_59 ?_
    refine zg_cSi (As := [.ref v7, .int 0, .int v9, .int a2]) (rest := []) (0, 0) d_X8_named_60 cw_X8_217 wt_X8_found rfl rfl (Nat.le_of_ble_eq_true rfl) (by decide) (by decide) ⟨by decide, by decide⟩ rfl (t_X8_found v7 0 v9 a2 h1) (fun v11 h10 => ?_)
    exact zg_iretK d_X8_named_63 rfl ⟨Nat.le_of_ble_eq_true rfl, Nat.le_of_ble_eq_true rfl⟩ (fun q => q)
  refine zg_if (fun n19 => ?_) (fun n19 => ?_)
  · refine zg_tabE n19 d_X8_named_6 (by decide) (by decide) (off := 58) rfl (tgt := 64) (by decide) ?_
    refine zg_aload_n 0 rfl d_X8_named_64 ?_
    refine zg_getR d_X8_named_65 zc_8 (by decide) fl_X8_40 (fun v12 => ?_)
    refine zg_iconst 0 rfl d_X8_named_68 ?_
    refine zg_aload_n 0 rfl d_X8_named_69 ?_
    refine zg_getR d_X8_named_70 zc_8 (by decide) fl_X8_13 (fun v13 => ?_)
    refine zg_iconst 2 rfl d_X8_named_73 ?_
    refine zg_ald0 d_X8_named_74 (fun v14 => ?_)
    refine zg_iload_n 2 rfl d_X8_named_75 ?_
    refine zg_cSi (As := [.ref v12, .int 0, .int v14, .int a2]) (rest := []) (0, 0) d_X8_named_76 cw_X8_217 wt_X8_found rfl rfl (Nat.le_of_ble_eq_true rfl) (by decide) (by decide) ⟨by decide, by decide⟩ rfl (t_X8_found v12 0 v14 a2 h1) (fun v16 h15 => ?_)
    exact zg_iretK d_X8_named_79 rfl ⟨Nat.le_of_ble_eq_true rfl, Nat.le_of_ble_eq_true rfl⟩ (fun q => q)
  refine zg_tabO d_X8_named_6 (by have q0 := lv_neT n17 (a := 0) rfl; have q1 := lv_neT n18 (a := 1) rfl; have q2 := lv_neT n19 (a := 2) rfl; omega) (tgt := 80) (by decide) ?_
  refine zg_iconst (-1) rfl d_X8_named_80 ?_
  exact zg_iretK d_X8_named_81 rfl ⟨Nat.le_of_ble_eq_true rfl, Nat.le_of_ble_eq_true rfl⟩ (fun q => q)
abbrev M_X8_note : zMt := (RX8, cX8_note, 5, 2, 81, (some .int), "note", 0, 0)
theorem d_X8_note_0 : zDc M_X8_note 0 (.aload_n 0) 1 1 := ⟨by decide +kernel, rfl⟩
theorem d_X8_note_1 : zDc M_X8_note 1 (.iconst 0) 1 2 := ⟨by decide +kernel, rfl⟩
theorem d_X8_note_2 : zDc M_X8_note 2 (.putfield 151) 3 5 := ⟨by decide +kernel, rfl⟩
theorem d_X8_note_5 : zDc M_X8_note 5 (.iload_n 1) 1 6 := ⟨by decide +kernel, rfl⟩
theorem d_X8_note_6 : zDc M_X8_note 6 (.iconst 1) 1 7 := ⟨by decide +kernel, rfl⟩
theorem d_X8_note_7 : zDj M_X8_note 7 (.if_icmp .lt 26) 26 10 33 := ⟨by decide +kernel, rfl, by decide⟩
theorem d_X8_note_10 : zDc M_X8_note 10 (.iload_n 1) 1 11 := ⟨by decide +kernel, rfl⟩
theorem d_X8_note_11 : zDc M_X8_note 11 (.bipush 40) 2 13 := ⟨by decide +kernel, rfl⟩
theorem d_X8_note_13 : zDj M_X8_note 13 (.if_icmp .gt 20) 20 16 33 := ⟨by decide +kernel, rfl, by decide⟩
theorem d_X8_note_16 : zDc M_X8_note 16 (.iload_n 2) 1 17 := ⟨by decide +kernel, rfl⟩
theorem d_X8_note_17 : zDc M_X8_note 17 (.iload_n 3) 1 18 := ⟨by decide +kernel, rfl⟩
theorem d_X8_note_18 : zDc M_X8_note 18 (.invokestatic 378) 3 21 := ⟨by decide +kernel, rfl⟩
theorem d_X8_note_21 : zDj M_X8_note 21 (.ifCond .eq 12) 12 24 33 := ⟨by decide +kernel, rfl, by decide⟩
theorem d_X8_note_24 : zDc M_X8_note 24 (.aload_n 0) 1 25 := ⟨by decide +kernel, rfl⟩
theorem d_X8_note_25 : zDc M_X8_note 25 (.getfield 304) 3 28 := ⟨by decide +kernel, rfl⟩
theorem d_X8_note_28 : zDc M_X8_note 28 (.bipush 24) 2 30 := ⟨by decide +kernel, rfl⟩
theorem d_X8_note_30 : zDj M_X8_note 30 (.if_icmp .ne 5) 5 33 35 := ⟨by decide +kernel, rfl, by decide⟩
theorem d_X8_note_33 : zDc M_X8_note 33 (.iconst (-1)) 1 34 := ⟨by decide +kernel, rfl⟩
theorem d_X8_note_34 : zDc M_X8_note 34 (.ireturn) 1 35 := ⟨by decide +kernel, rfl⟩
theorem d_X8_note_35 : zDc M_X8_note 35 (.aload_n 0) 1 36 := ⟨by decide +kernel, rfl⟩
theorem d_X8_note_36 : zDc M_X8_note 36 (.getfield 132) 3 39 := ⟨by decide +kernel, rfl⟩
theorem d_X8_note_39 : zDc M_X8_note 39 (.aload_n 0) 1 40 := ⟨by decide +kernel, rfl⟩
theorem d_X8_note_40 : zDc M_X8_note 40 (.getfield 304) 3 43 := ⟨by decide +kernel, rfl⟩
theorem d_X8_note_43 : zDc M_X8_note 43 (.iload_n 1) 1 44 := ⟨by decide +kernel, rfl⟩
theorem d_X8_note_44 : zDc M_X8_note 44 (.iastore) 1 45 := ⟨by decide +kernel, rfl⟩
theorem d_X8_note_45 : zDc M_X8_note 45 (.aload_n 0) 1 46 := ⟨by decide +kernel, rfl⟩
theorem d_X8_note_46 : zDc M_X8_note 46 (.getfield 135) 3 49 := ⟨by decide +kernel, rfl⟩
theorem d_X8_note_49 : zDc M_X8_note 49 (.aload_n 0) 1 50 := ⟨by decide +kernel, rfl⟩
theorem d_X8_note_50 : zDc M_X8_note 50 (.getfield 304) 3 53 := ⟨by decide +kernel, rfl⟩
theorem d_X8_note_53 : zDc M_X8_note 53 (.bipush 6) 2 55 := ⟨by decide +kernel, rfl⟩
theorem d_X8_note_55 : zDc M_X8_note 55 (.iload_n 3) 1 56 := ⟨by decide +kernel, rfl⟩
theorem d_X8_note_56 : zDc M_X8_note 56 (.imul) 1 57 := ⟨by decide +kernel, rfl⟩
theorem d_X8_note_57 : zDc M_X8_note 57 (.iload_n 2) 1 58 := ⟨by decide +kernel, rfl⟩
theorem d_X8_note_58 : zDc M_X8_note 58 (.iadd) 1 59 := ⟨by decide +kernel, rfl⟩
theorem d_X8_note_59 : zDc M_X8_note 59 (.iastore) 1 60 := ⟨by decide +kernel, rfl⟩
theorem d_X8_note_60 : zDc M_X8_note 60 (.aload_n 0) 1 61 := ⟨by decide +kernel, rfl⟩
theorem d_X8_note_61 : zDc M_X8_note 61 (.getfield 138) 3 64 := ⟨by decide +kernel, rfl⟩
theorem d_X8_note_64 : zDc M_X8_note 64 (.aload_n 0) 1 65 := ⟨by decide +kernel, rfl⟩
theorem d_X8_note_65 : zDc M_X8_note 65 (.getfield 304) 3 68 := ⟨by decide +kernel, rfl⟩
theorem d_X8_note_68 : zDc M_X8_note 68 (.iload 4) 2 70 := ⟨by decide +kernel, rfl⟩
theorem d_X8_note_70 : zDc M_X8_note 70 (.bastore) 1 71 := ⟨by decide +kernel, rfl⟩
theorem d_X8_note_71 : zDc M_X8_note 71 (.aload_n 0) 1 72 := ⟨by decide +kernel, rfl⟩
theorem d_X8_note_72 : zDc M_X8_note 72 (.getfield 142) 3 75 := ⟨by decide +kernel, rfl⟩
theorem d_X8_note_75 : zDc M_X8_note 75 (.aload_n 0) 1 76 := ⟨by decide +kernel, rfl⟩
theorem d_X8_note_76 : zDc M_X8_note 76 (.getfield 304) 3 79 := ⟨by decide +kernel, rfl⟩
theorem d_X8_note_79 : zDc M_X8_note 79 (.iconst (-1)) 1 80 := ⟨by decide +kernel, rfl⟩
theorem d_X8_note_80 : zDc M_X8_note 80 (.iastore) 1 81 := ⟨by decide +kernel, rfl⟩
theorem d_X8_note_81 : zDc M_X8_note 81 (.aload_n 0) 1 82 := ⟨by decide +kernel, rfl⟩
theorem d_X8_note_82 : zDc M_X8_note 82 (.dup) 1 83 := ⟨by decide +kernel, rfl⟩
theorem d_X8_note_83 : zDc M_X8_note 83 (.getfield 304) 3 86 := ⟨by decide +kernel, rfl⟩
theorem d_X8_note_86 : zDc M_X8_note 86 (.iconst 1) 1 87 := ⟨by decide +kernel, rfl⟩
theorem d_X8_note_87 : zDc M_X8_note 87 (.iadd) 1 88 := ⟨by decide +kernel, rfl⟩
theorem d_X8_note_88 : zDc M_X8_note 88 (.putfield 304) 3 91 := ⟨by decide +kernel, rfl⟩
theorem d_X8_note_91 : zDc M_X8_note 91 (.aload_n 0) 1 92 := ⟨by decide +kernel, rfl⟩
theorem d_X8_note_92 : zDc M_X8_note 92 (.getfield 304) 3 95 := ⟨by decide +kernel, rfl⟩
theorem d_X8_note_95 : zDc M_X8_note 95 (.iconst 1) 1 96 := ⟨by decide +kernel, rfl⟩
theorem d_X8_note_96 : zDc M_X8_note 96 (.isub) 1 97 := ⟨by decide +kernel, rfl⟩
theorem d_X8_note_97 : zDc M_X8_note 97 (.ireturn) 1 98 := ⟨by decide +kernel, rfl⟩
def f_X8_note (a0 : Nat) (a1 : Int32) (a2 : Int32) (a3 : Int32) (a4 : Int32) (h0 : zHp) : Option (Int32 × zHp) :=
  zob (zpV h0 a0 8 0 (.int 0)) (fun h1 =>
  if a1 < 1 then
  some ((-1), h1)
  else
  if 40 < a1 then
  some ((-1), h1)
  else
  zbd ((f_X8_isCell a2 a3 h1)) (fun v3 h2 =>
  if v3 = 0 then
  some ((-1), h2)
  else
  zob (zgI h2 a0 8 61) (fun v4 =>
  if v4 = 24 then
  some ((-1), h2)
  else
  zob (zgR h2 a0 8 63) (fun v5 =>
  zob (zgI h2 a0 8 61) (fun v6 =>
  zob (zsI 0 h2 v5 v6 a1) (fun h7 =>
  zob (zgR h7 a0 8 64) (fun v8 =>
  zob (zgI h7 a0 8 61) (fun v9 =>
  zob (zsI 0 h7 v8 v9 ((6 * a3) + a2)) (fun h10 =>
  zob (zgR h10 a0 8 65) (fun v11 =>
  zob (zgI h10 a0 8 61) (fun v12 =>
  zob (zsI 2 h10 v11 v12 a4) (fun h13 =>
  zob (zgR h13 a0 8 66) (fun v14 =>
  zob (zgI h13 a0 8 61) (fun v15 =>
  zob (zsI 0 h13 v14 v15 (-1)) (fun h16 =>
  zob (zgI h16 a0 8 61) (fun v17 =>
  zob (zpV h16 a0 8 61 (.int (v17 + 1))) (fun h18 =>
  zob (zgI h18 a0 8 61) (fun v19 =>
  some ((v19 - 1), h18)))))))))))))))))))
set_option maxRecDepth 100000 in
set_option maxHeartbeats 4000000 in
theorem t_X8_note (a0 : Nat) (a1 : Int32) (a2 : Int32) (a3 : Int32) (a4 : Int32) (h0 : zHp) : ∀ (r : Int32) (h' : zHp), f_X8_note a0 a1 a2 a3 a4 h0 = some (r, h') → zCt yX8_note (.code yX8_note cX8_note 5 (some .int)) 2 81 0 0 [.ref a0, .int a1, .int a2, .int a3, .int a4] h0 (some (.int r)) h' := by
  refine zct_of M_X8_note yX8_note (by decide) rfl rfl [.ref a0, .int a1, .int a2, .int a3, .int a4] h0 (Nat.le_of_ble_eq_true rfl) (fun r => some (.int r)) (fun X => ?_)
  show zG X M_X8_note (0, 0) 0 [(0, .ref a0), (1, .int a1), (2, .int a2), (3, .int a3), (4, .int a4)] [] h0 (f_X8_note a0 a1 a2 a3 a4 h0) (fun (r : Int32) h' => zKe X (some (.int r)) h')
  unfold f_X8_note
  refine zg_aload_n 0 rfl d_X8_note_0 ?_
  refine zg_iconst 0 rfl d_X8_note_1 ?_
  refine zg_putV d_X8_note_2 zc_8 (by decide) fl_X8_151 rfl rfl rfl (fun h1 => ?_)
  refine zg_iload_n 1 rfl d_X8_note_5 ?_
  refine zg_iconst 1 rfl d_X8_note_6 ?_
  refine zg_icmp_lt d_X8_note_7 ?_ ?_
  · refine zg_iconst (-1) rfl d_X8_note_33 ?_
    exact zg_iretK d_X8_note_34 rfl ⟨Nat.le_of_ble_eq_true rfl, Nat.le_of_ble_eq_true rfl⟩ (fun q => q)
  · refine zg_iload_n 1 rfl d_X8_note_10 ?_
    refine zg_bipush 40 rfl d_X8_note_11 ?_
    refine zg_icmp_gt d_X8_note_13 ?_ ?_
    · refine zg_iconst (-1) rfl d_X8_note_33 ?_
      exact zg_iretK d_X8_note_34 rfl ⟨Nat.le_of_ble_eq_true rfl, Nat.le_of_ble_eq_true rfl⟩ (fun q => q)
    · refine zg_iload_n 2 rfl d_X8_note_16 ?_
      refine zg_iload_n 3 rfl d_X8_note_17 ?_
      refine zg_cSi (As := [.int a2, .int a3]) (rest := []) (0, 0) d_X8_note_18 cw_X8_378 wt_X8_isCell rfl rfl (Nat.le_of_ble_eq_true rfl) (by decide) (by decide) ⟨by decide, by decide⟩ rfl (t_X8_isCell a2 a3 h1) (fun v3 h2 => ?_)
      refine zg_if_eq d_X8_note_21 ?_ ?_
      · refine zg_iconst (-1) rfl d_X8_note_33 ?_
        exact zg_iretK d_X8_note_34 rfl ⟨Nat.le_of_ble_eq_true rfl, Nat.le_of_ble_eq_true rfl⟩ (fun q => q)
      · refine zg_aload_n 0 rfl d_X8_note_24 ?_
        refine zg_getI d_X8_note_25 zc_8 (by decide) fl_X8_304 (fun v4 => ?_)
        refine zg_bipush 24 rfl d_X8_note_28 ?_
        refine zg_icmp_ne d_X8_note_30 ?_ ?_
        · refine zg_iconst (-1) rfl d_X8_note_33 ?_
          exact zg_iretK d_X8_note_34 rfl ⟨Nat.le_of_ble_eq_true rfl, Nat.le_of_ble_eq_true rfl⟩ (fun q => q)
        · refine zg_aload_n 0 rfl d_X8_note_35 ?_
          refine zg_getR d_X8_note_36 zc_8 (by decide) fl_X8_132 (fun v5 => ?_)
          refine zg_aload_n 0 rfl d_X8_note_39 ?_
          refine zg_getI d_X8_note_40 zc_8 (by decide) fl_X8_304 (fun v6 => ?_)
          refine zg_iload_n 1 rfl d_X8_note_43 ?_
          refine zg_ast0 d_X8_note_44 (fun h7 => ?_)
          refine zg_aload_n 0 rfl d_X8_note_45 ?_
          refine zg_getR d_X8_note_46 zc_8 (by decide) fl_X8_135 (fun v8 => ?_)
          refine zg_aload_n 0 rfl d_X8_note_49 ?_
          refine zg_getI d_X8_note_50 zc_8 (by decide) fl_X8_304 (fun v9 => ?_)
          refine zg_bipush 6 rfl d_X8_note_53 ?_
          refine zg_iload_n 3 rfl d_X8_note_55 ?_
          refine zg_imul d_X8_note_56 ?_
          refine zg_iload_n 2 rfl d_X8_note_57 ?_
          refine zg_iadd d_X8_note_58 ?_
          refine zg_ast0 d_X8_note_59 (fun h10 => ?_)
          refine zg_aload_n 0 rfl d_X8_note_60 ?_
          refine zg_getR d_X8_note_61 zc_8 (by decide) fl_X8_138 (fun v11 => ?_)
          refine zg_aload_n 0 rfl d_X8_note_64 ?_
          refine zg_getI d_X8_note_65 zc_8 (by decide) fl_X8_304 (fun v12 => ?_)
          refine zg_iload 4 rfl d_X8_note_68 ?_
          refine zg_ast2 d_X8_note_70 (fun h13 => ?_)
          refine zg_aload_n 0 rfl d_X8_note_71 ?_
          refine zg_getR d_X8_note_72 zc_8 (by decide) fl_X8_142 (fun v14 => ?_)
          refine zg_aload_n 0 rfl d_X8_note_75 ?_
          refine zg_getI d_X8_note_76 zc_8 (by decide) fl_X8_304 (fun v15 => ?_)
          refine zg_iconst (-1) rfl d_X8_note_79 ?_
          refine zg_ast0 d_X8_note_80 (fun h16 => ?_)
          refine zg_aload_n 0 rfl d_X8_note_81 ?_
          refine zg_dup rfl d_X8_note_82 ?_
          refine zg_getI d_X8_note_83 zc_8 (by decide) fl_X8_304 (fun v17 => ?_)
          refine zg_iconst 1 rfl d_X8_note_86 ?_
          refine zg_iadd d_X8_note_87 ?_
          refine zg_putV d_X8_note_88 zc_8 (by decide) fl_X8_304 rfl rfl rfl (fun h18 => ?_)
          refine zg_aload_n 0 rfl d_X8_note_91 ?_
          refine zg_getI d_X8_note_92 zc_8 (by decide) fl_X8_304 (fun v19 => ?_)
          refine zg_iconst 1 rfl d_X8_note_95 ?_
          refine zg_isub d_X8_note_96 ?_
          exact zg_iretK d_X8_note_97 rfl ⟨Nat.le_of_ble_eq_true rfl, Nat.le_of_ble_eq_true rfl⟩ (fun q => q)

theorem ml_X8_471 : Cond.methodLink RX8 471 yX8_wouldSwap ∈ zT := zw_of _ 1940 (by decide +kernel) (by decide +kernel)
theorem cd_X8_wouldSwap : Cond.code yX8_wouldSwap cX8_wouldSwap 5 (some .boolean) ∈ zT := zw_of _ 1943 (by decide +kernel) (by decide +kernel)
theorem cw_X8_471 : zCw RX8 471 yX8_wouldSwap cX8_wouldSwap 5 (some .boolean) 2 := ⟨ml_X8_471, ni_X8, cd_X8_wouldSwap, by decide, by decide, by decide +kernel⟩
theorem wi_X8_wouldSwap : Cond.instanceMethod yX8_wouldSwap ∈ zT := zw_of _ 1942 (by decide +kernel) (by decide +kernel)
theorem ws_X8_wouldSwap : Cond.selects RX8 yX8_wouldSwap yX8_wouldSwap ∈ zT := zw_of _ 112 (by decide +kernel) (by decide +kernel)
theorem ml_X8_474 : Cond.methodLink RX8 474 yX8_swapOf ∈ zT := zw_of _ 1936 (by decide +kernel) (by decide +kernel)
theorem cd_X8_swapOf : Cond.code yX8_swapOf cX8_swapOf 5 (some .int) ∈ zT := zw_of _ 1939 (by decide +kernel) (by decide +kernel)
theorem cw_X8_474 : zCw RX8 474 yX8_swapOf cX8_swapOf 5 (some .int) 1 := ⟨ml_X8_474, ni_X8, cd_X8_swapOf, by decide, by decide, by decide +kernel⟩
theorem wi_X8_swapOf : Cond.instanceMethod yX8_swapOf ∈ zT := zw_of _ 1938 (by decide +kernel) (by decide +kernel)
theorem ws_X8_swapOf : Cond.selects RX8 yX8_swapOf yX8_swapOf ∈ zT := zw_of _ 111 (by decide +kernel) (by decide +kernel)
abbrev M_X8_swapOf : zMt := (RX8, cX8_swapOf, 5, 3, 106, (some .int), "swapOf", 0, 0)
theorem d_X8_swapOf_0 : zDc M_X8_swapOf 0 (.iconst 0) 1 1 := ⟨by decide +kernel, rfl⟩
theorem d_X8_swapOf_1 : zDc M_X8_swapOf 1 (.istore_n 2) 1 2 := ⟨by decide +kernel, rfl⟩
theorem d_X8_swapOf_2 : zDc M_X8_swapOf 2 (.iconst 0) 1 3 := ⟨by decide +kernel, rfl⟩
theorem d_X8_swapOf_3 : zDc M_X8_swapOf 3 (.istore_n 3) 1 4 := ⟨by decide +kernel, rfl⟩
theorem d_X8_swapOf_4 : zDc M_X8_swapOf 4 (.iload_n 3) 1 5 := ⟨by decide +kernel, rfl⟩
theorem d_X8_swapOf_5 : zDc M_X8_swapOf 5 (.aload_n 0) 1 6 := ⟨by decide +kernel, rfl⟩
theorem d_X8_swapOf_6 : zDc M_X8_swapOf 6 (.getfield 13) 3 9 := ⟨by decide +kernel, rfl⟩
theorem d_X8_swapOf_9 : zDc M_X8_swapOf 9 (.iconst 1) 1 10 := ⟨by decide +kernel, rfl⟩
theorem d_X8_swapOf_10 : zDc M_X8_swapOf 10 (.iaload) 1 11 := ⟨by decide +kernel, rfl⟩
theorem d_X8_swapOf_11 : zDj M_X8_swapOf 11 (.if_icmp .ge 60) 60 14 71 := ⟨by decide +kernel, rfl, by decide⟩
theorem d_X8_swapOf_14 : zDc M_X8_swapOf 14 (.iload_n 3) 1 15 := ⟨by decide +kernel, rfl⟩
theorem d_X8_swapOf_15 : zDc M_X8_swapOf 15 (.iconst 1) 1 16 := ⟨by decide +kernel, rfl⟩
theorem d_X8_swapOf_16 : zDc M_X8_swapOf 16 (.iadd) 1 17 := ⟨by decide +kernel, rfl⟩
theorem d_X8_swapOf_17 : zDc M_X8_swapOf 17 (.istore 4) 2 19 := ⟨by decide +kernel, rfl⟩
theorem d_X8_swapOf_19 : zDc M_X8_swapOf 19 (.iload 4) 2 21 := ⟨by decide +kernel, rfl⟩
theorem d_X8_swapOf_21 : zDc M_X8_swapOf 21 (.aload_n 0) 1 22 := ⟨by decide +kernel, rfl⟩
theorem d_X8_swapOf_22 : zDc M_X8_swapOf 22 (.getfield 13) 3 25 := ⟨by decide +kernel, rfl⟩
theorem d_X8_swapOf_25 : zDc M_X8_swapOf 25 (.iconst 1) 1 26 := ⟨by decide +kernel, rfl⟩
theorem d_X8_swapOf_26 : zDc M_X8_swapOf 26 (.iaload) 1 27 := ⟨by decide +kernel, rfl⟩
theorem d_X8_swapOf_27 : zDj M_X8_swapOf 27 (.if_icmp .ge 38) 38 30 65 := ⟨by decide +kernel, rfl, by decide⟩
theorem d_X8_swapOf_30 : zDc M_X8_swapOf 30 (.aload_n 0) 1 31 := ⟨by decide +kernel, rfl⟩
theorem d_X8_swapOf_31 : zDc M_X8_swapOf 31 (.iload_n 3) 1 32 := ⟨by decide +kernel, rfl⟩
theorem d_X8_swapOf_32 : zDc M_X8_swapOf 32 (.iload 4) 2 34 := ⟨by decide +kernel, rfl⟩
theorem d_X8_swapOf_34 : zDc M_X8_swapOf 34 (.invokevirtual 471) 3 37 := ⟨by decide +kernel, rfl⟩
theorem d_X8_swapOf_37 : zDj M_X8_swapOf 37 (.ifCond .ne 6) 6 40 43 := ⟨by decide +kernel, rfl, by decide⟩
theorem d_X8_swapOf_40 : zDj M_X8_swapOf 40 (.goto 19) 19 43 59 := ⟨by decide +kernel, rfl, by decide⟩
theorem d_X8_swapOf_43 : zDc M_X8_swapOf 43 (.iload_n 2) 1 44 := ⟨by decide +kernel, rfl⟩
theorem d_X8_swapOf_44 : zDc M_X8_swapOf 44 (.iload_n 1) 1 45 := ⟨by decide +kernel, rfl⟩
theorem d_X8_swapOf_45 : zDj M_X8_swapOf 45 (.if_icmp .ne 11) 11 48 56 := ⟨by decide +kernel, rfl, by decide⟩
theorem d_X8_swapOf_48 : zDc M_X8_swapOf 48 (.bipush 10) 2 50 := ⟨by decide +kernel, rfl⟩
theorem d_X8_swapOf_50 : zDc M_X8_swapOf 50 (.iload_n 3) 1 51 := ⟨by decide +kernel, rfl⟩
theorem d_X8_swapOf_51 : zDc M_X8_swapOf 51 (.imul) 1 52 := ⟨by decide +kernel, rfl⟩
theorem d_X8_swapOf_52 : zDc M_X8_swapOf 52 (.iload 4) 2 54 := ⟨by decide +kernel, rfl⟩
theorem d_X8_swapOf_54 : zDc M_X8_swapOf 54 (.iadd) 1 55 := ⟨by decide +kernel, rfl⟩
theorem d_X8_swapOf_55 : zDc M_X8_swapOf 55 (.ireturn) 1 56 := ⟨by decide +kernel, rfl⟩
theorem d_X8_swapOf_56 : zDc M_X8_swapOf 56 (.iinc 2 1) 3 59 := ⟨by decide +kernel, rfl⟩
theorem d_X8_swapOf_59 : zDc M_X8_swapOf 59 (.iinc 4 1) 3 62 := ⟨by decide +kernel, rfl⟩
theorem d_X8_swapOf_62 : zDj M_X8_swapOf 62 (.goto (-43)) (-43) 65 19 := ⟨by decide +kernel, rfl, by decide⟩
theorem d_X8_swapOf_65 : zDc M_X8_swapOf 65 (.iinc 3 1) 3 68 := ⟨by decide +kernel, rfl⟩
theorem d_X8_swapOf_68 : zDj M_X8_swapOf 68 (.goto (-64)) (-64) 71 4 := ⟨by decide +kernel, rfl, by decide⟩
theorem d_X8_swapOf_71 : zDc M_X8_swapOf 71 (.iload_n 1) 1 72 := ⟨by decide +kernel, rfl⟩
theorem d_X8_swapOf_72 : zDc M_X8_swapOf 72 (.iconst (-1)) 1 73 := ⟨by decide +kernel, rfl⟩
theorem d_X8_swapOf_73 : zDj M_X8_swapOf 73 (.if_icmp .ne 7) 7 76 80 := ⟨by decide +kernel, rfl, by decide⟩
theorem d_X8_swapOf_76 : zDc M_X8_swapOf 76 (.iload_n 2) 1 77 := ⟨by decide +kernel, rfl⟩
theorem d_X8_swapOf_77 : zDj M_X8_swapOf 77 (.goto 5) 5 80 82 := ⟨by decide +kernel, rfl, by decide⟩
theorem d_X8_swapOf_80 : zDc M_X8_swapOf 80 (.bipush (-2)) 2 82 := ⟨by decide +kernel, rfl⟩
theorem d_X8_swapOf_82 : zDc M_X8_swapOf 82 (.ireturn) 1 83 := ⟨by decide +kernel, rfl⟩
def f_X8_swapOf (a0 : Nat) (a1 : Int32) (h0 : zHp) : Option (Int32 × zHp) :=
  zbd (
  zlp (σ := (Int32 × Int32)) (β := ((Int32 × Int32) ⊕ Int32)) zLF (fun s1 h2 =>
  zob (zgR h2 a0 8 3) (fun v5 =>
  zob (zaI 0 h2 v5 1) (fun v6 =>
  if v6 ≤ s1.2 then
  some ((.inr (.inl (s1.1, s1.2))), h2)
  else
  zbd (
  zlp (σ := (Int32 × Int32)) (β := ((Int32 × Int32) ⊕ ((Int32 × Int32) ⊕ ((Int32 × Int32) ⊕ Int32)))) zLF (fun s7 h8 =>
  zob (zgR h8 a0 8 3) (fun v11 =>
  zob (zaI 0 h8 v11 1) (fun v12 =>
  if v12 ≤ s7.2 then
  some ((.inr (.inl (s7.1, s7.2))), h8)
  else
  zbd (zcv 8 a0 h8 (f_X8_wouldSwap a0 s1.2 s7.2 h8)) (fun v14 h13 =>
  if v14 = 0 then
  some ((.inl (s7.1, (s7.2 + 1))), h13)
  else
  if s7.1 = a1 then
  some ((.inr (.inr (.inr (.inr ((10 * s1.2) + s7.2))))), h13)
  else
  some ((.inl ((s7.1 + 1), (s7.2 + 1))), h13))))) (s1.1, (s1.2 + 1)) h2) (fun b15 h10 => zsl b15 (fun e9 =>
  some ((.inl (e9.1, (s1.2 + 1))), h10)) (fun r => some (r, h10)))))) (0, 0) h0) (fun b16 h4 => zsl b16 (fun e3 =>
  if a1 = (-1) then
  some (e3.1, h4)
  else
  some ((-2), h4)) (fun r => some (r, h4)))
set_option maxRecDepth 100000 in
set_option maxHeartbeats 4000000 in
theorem t_X8_swapOf (a0 : Nat) (a1 : Int32) (h0 : zHp) : ∀ (r : Int32) (h' : zHp), f_X8_swapOf a0 a1 h0 = some (r, h') → zCt yX8_swapOf (.code yX8_swapOf cX8_swapOf 5 (some .int)) 3 106 0 0 [.ref a0, .int a1] h0 (some (.int r)) h' := by
  refine zct_of M_X8_swapOf yX8_swapOf (by decide) rfl rfl [.ref a0, .int a1] h0 (Nat.le_of_ble_eq_true rfl) (fun r => some (.int r)) (fun X => ?_)
  show zG X M_X8_swapOf (0, 0) 0 [(0, .ref a0), (1, .int a1)] [] h0 (f_X8_swapOf a0 a1 h0) (fun (r : Int32) h' => zKe X (some (.int r)) h')
  unfold f_X8_swapOf
  refine zg_iconst 0 rfl d_X8_swapOf_0 ?_
  refine zg_istore_n [(2, .int 0), (0, .ref a0), (1, .int a1)] d_X8_swapOf_1 rfl (by decide) rfl ?_
  refine zg_iconst 0 rfl d_X8_swapOf_2 ?_
  refine zg_istore_n [(3, .int 0), (2, .int 0), (0, .ref a0), (1, .int a1)] d_X8_swapOf_3 rfl (by decide) rfl ?_
  refine zg_bdr (E := 71) (el := (fun (e3 : (Int32 × Int32)) => [(0, .ref a0), (1, .int a1), (2, .int e3.1), (3, .int e3.2)])) (es := fun _ => []) (zg_sub [2, 3, 1, 0] rfl (zg_lp (el := (fun (s1 : (Int32 × Int32)) => [(0, .ref a0), (1, .int a1), (2, .int s1.1), (3, .int s1.2)])) (fun s1 h2 => ?_) (0, 0) h0)) (fun e3 h4 => ?_)
  · refine zg_iload_n 3 rfl d_X8_swapOf_4 ?_
    refine zg_aload_n 0 rfl d_X8_swapOf_5 ?_
    refine zg_getR d_X8_swapOf_6 zc_8 (by decide) fl_X8_13 (fun v5 => ?_)
    refine zg_iconst 1 rfl d_X8_swapOf_9 ?_
    refine zg_ald0 d_X8_swapOf_10 (fun v6 => ?_)
    refine zg_icmp_ge d_X8_swapOf_11 ?_ ?_
    · exact zg_finK (E := 0) [0, 1, 2, 3] rfl rfl (fun q => q)
    · refine zg_iload_n 3 rfl d_X8_swapOf_14 ?_
      refine zg_iconst 1 rfl d_X8_swapOf_15 ?_
      refine zg_iadd d_X8_swapOf_16 ?_
      refine zg_istore [(4, .int (s1.2 + 1)), (0, .ref a0), (1, .int a1), (2, .int s1.1), (3, .int s1.2)] d_X8_swapOf_17 (by decide) rfl ?_
      refine zg_bdr (E := 65) (el := (fun (e9 : (Int32 × Int32)) => [(0, .ref a0), (1, .int a1), (2, .int e9.1), (3, .int s1.2), (4, .int e9.2)])) (es := fun _ => []) (zg_sub [1, 2, 3, 4, 0] rfl (zg_lp (el := (fun (s7 : (Int32 × Int32)) => [(0, .ref a0), (1, .int a1), (2, .int s7.1), (3, .int s1.2), (4, .int s7.2)])) (fun s7 h8 => ?_) (s1.1, (s1.2 + 1)) h2)) (fun e9 h10 => ?_)
      · refine zg_iload 4 rfl d_X8_swapOf_19 ?_
        refine zg_aload_n 0 rfl d_X8_swapOf_21 ?_
        refine zg_getR d_X8_swapOf_22 zc_8 (by decide) fl_X8_13 (fun v11 => ?_)
        refine zg_iconst 1 rfl d_X8_swapOf_25 ?_
        refine zg_ald0 d_X8_swapOf_26 (fun v12 => ?_)
        refine zg_icmp_ge d_X8_swapOf_27 ?_ ?_
        · exact zg_finK (E := 0) [0, 1, 2, 3, 4] rfl rfl (fun q => q)
        · refine zg_aload_n 0 rfl d_X8_swapOf_30 ?_
          refine zg_iload_n 3 rfl d_X8_swapOf_31 ?_
          refine zg_iload 4 rfl d_X8_swapOf_32 ?_
          refine zg_cVi (b := a0) (As := [.int s1.2, .int s7.2]) (rest := []) (0, 0) d_X8_swapOf_34 zc_8 rfl cw_X8_471 wi_X8_wouldSwap ws_X8_wouldSwap rfl rfl (Nat.le_of_ble_eq_true rfl) (by decide) (by decide) ⟨by decide, by decide⟩ rfl (t_X8_wouldSwap a0 s1.2 s7.2 h8) (fun v14 h13 => ?_)
          refine zg_if_ne d_X8_swapOf_37 ?_ ?_
          · refine zg_goto d_X8_swapOf_40 ?_
            refine zg_iinc 4 (s7.2 + 1) [(4, .int (s7.2 + 1)), (0, .ref a0), (1, .int a1), (2, .int s7.1), (3, .int s1.2)] d_X8_swapOf_59 rfl rfl (by decide) rfl ?_
            refine zg_goto d_X8_swapOf_62 ?_
            exact zg_finK (E := 0) [1, 2, 3, 4, 0] rfl rfl (fun q => q)
          · refine zg_iload_n 2 rfl d_X8_swapOf_43 ?_
            refine zg_iload_n 1 rfl d_X8_swapOf_44 ?_
            refine zg_icmp_ne d_X8_swapOf_45 ?_ ?_
            · refine zg_bipush 10 rfl d_X8_swapOf_48 ?_
              refine zg_iload_n 3 rfl d_X8_swapOf_50 ?_
              refine zg_imul d_X8_swapOf_51 ?_
              refine zg_iload 4 rfl d_X8_swapOf_52 ?_
              refine zg_iadd d_X8_swapOf_54 ?_
              exact zg_iretK d_X8_swapOf_55 rfl ⟨Nat.le_of_ble_eq_true rfl, Nat.le_of_ble_eq_true rfl⟩ (fun q => q)
            · refine zg_iinc 2 (s7.1 + 1) [(2, .int (s7.1 + 1)), (0, .ref a0), (1, .int a1), (3, .int s1.2), (4, .int s7.2)] d_X8_swapOf_56 rfl rfl (by decide) rfl ?_
              refine zg_iinc 4 (s7.2 + 1) [(4, .int (s7.2 + 1)), (2, .int (s7.1 + 1)), (0, .ref a0), (1, .int a1), (3, .int s1.2)] d_X8_swapOf_59 rfl rfl (by decide) rfl ?_
              refine zg_goto d_X8_swapOf_62 ?_
              exact zg_finK (E := 0) [2, 3, 1, 4, 0] rfl rfl (fun q => q)
      · refine zg_iinc 3 (s1.2 + 1) [(3, .int (s1.2 + 1)), (0, .ref a0), (1, .int a1), (2, .int e9.1), (4, .int e9.2)] d_X8_swapOf_65 rfl rfl (by decide) rfl ?_
        refine zg_goto d_X8_swapOf_68 ?_
        exact zg_finK (E := 0) [1, 2, 3, 0] rfl rfl (fun q => q)
  · refine zg_iload_n 1 rfl d_X8_swapOf_71 ?_
    refine zg_iconst (-1) rfl d_X8_swapOf_72 ?_
    refine zg_icmp_ne d_X8_swapOf_73 ?_ ?_
    · refine zg_iload_n 2 rfl d_X8_swapOf_76 ?_
      refine zg_goto d_X8_swapOf_77 ?_
      exact zg_iretK d_X8_swapOf_82 rfl ⟨Nat.le_of_ble_eq_true rfl, Nat.le_of_ble_eq_true rfl⟩ (fun q => q)
    · refine zg_bipush (-2) rfl d_X8_swapOf_80 ?_
      exact zg_iretK d_X8_swapOf_82 rfl ⟨Nat.le_of_ble_eq_true rfl, Nat.le_of_ble_eq_true rfl⟩ (fun q => q)
abbrev M_X8_swap : zMt := (RX8, cX8_swap, 2, 4, 130, (some .int), "swap", 0, 0)
theorem d_X8_swap_0 : zDc M_X8_swap 0 (.aload_n 0) 1 1 := ⟨by decide +kernel, rfl⟩
theorem d_X8_swap_1 : zDc M_X8_swap 1 (.iconst 0) 1 2 := ⟨by decide +kernel, rfl⟩
theorem d_X8_swap_2 : zDc M_X8_swap 2 (.putfield 151) 3 5 := ⟨by decide +kernel, rfl⟩
theorem d_X8_swap_5 : zDc M_X8_swap 5 (.iload_n 1) 1 6 := ⟨by decide +kernel, rfl⟩
theorem d_X8_swap_6 : zDj M_X8_swap 6 (.ifCond .ge 7) 7 9 13 := ⟨by decide +kernel, rfl, by decide⟩
theorem d_X8_swap_9 : zDc M_X8_swap 9 (.iconst (-1)) 1 10 := ⟨by decide +kernel, rfl⟩
theorem d_X8_swap_10 : zDj M_X8_swap 10 (.goto 8) 8 13 18 := ⟨by decide +kernel, rfl, by decide⟩
theorem d_X8_swap_13 : zDc M_X8_swap 13 (.aload_n 0) 1 14 := ⟨by decide +kernel, rfl⟩
theorem d_X8_swap_14 : zDc M_X8_swap 14 (.iload_n 1) 1 15 := ⟨by decide +kernel, rfl⟩
theorem d_X8_swap_15 : zDc M_X8_swap 15 (.invokevirtual 474) 3 18 := ⟨by decide +kernel, rfl⟩
theorem d_X8_swap_18 : zDc M_X8_swap 18 (.ireturn) 1 19 := ⟨by decide +kernel, rfl⟩
def f_X8_swap (a0 : Nat) (a1 : Int32) (h0 : zHp) : Option (Int32 × zHp) :=
  zob (zpV h0 a0 8 0 (.int 0)) (fun h1 =>
  if 0 ≤ a1 then
  zbd (zcv 8 a0 h1 (f_X8_swapOf a0 a1 h1)) (fun v3 h2 =>
  some (v3, h2))
  else
  some ((-1), h1))
set_option maxRecDepth 100000 in
set_option maxHeartbeats 4000000 in
theorem t_X8_swap (a0 : Nat) (a1 : Int32) (h0 : zHp) : ∀ (r : Int32) (h' : zHp), f_X8_swap a0 a1 h0 = some (r, h') → zCt yX8_swap (.code yX8_swap cX8_swap 2 (some .int)) 4 130 0 0 [.ref a0, .int a1] h0 (some (.int r)) h' := by
  refine zct_of M_X8_swap yX8_swap (by decide) rfl rfl [.ref a0, .int a1] h0 (Nat.le_of_ble_eq_true rfl) (fun r => some (.int r)) (fun X => ?_)
  show zG X M_X8_swap (0, 0) 0 [(0, .ref a0), (1, .int a1)] [] h0 (f_X8_swap a0 a1 h0) (fun (r : Int32) h' => zKe X (some (.int r)) h')
  unfold f_X8_swap
  refine zg_aload_n 0 rfl d_X8_swap_0 ?_
  refine zg_iconst 0 rfl d_X8_swap_1 ?_
  refine zg_putV d_X8_swap_2 zc_8 (by decide) fl_X8_151 rfl rfl rfl (fun h1 => ?_)
  refine zg_iload_n 1 rfl d_X8_swap_5 ?_
  refine zg_if_ge d_X8_swap_6 ?_ ?_
  · refine zg_aload_n 0 rfl d_X8_swap_13 ?_
    refine zg_iload_n 1 rfl d_X8_swap_14 ?_
    refine zg_cVi (b := a0) (As := [.int a1]) (rest := []) (0, 0) d_X8_swap_15 zc_8 rfl cw_X8_474 wi_X8_swapOf ws_X8_swapOf rfl rfl (Nat.le_of_ble_eq_true rfl) (by decide) (by decide) ⟨by decide, by decide⟩ rfl (t_X8_swapOf a0 a1 h1) (fun v3 h2 => ?_)
    exact zg_iretK d_X8_swap_18 rfl ⟨Nat.le_of_ble_eq_true rfl, Nat.le_of_ble_eq_true rfl⟩ (fun q => q)
  · refine zg_iconst (-1) rfl d_X8_swap_9 ?_
    refine zg_goto d_X8_swap_10 ?_
    exact zg_iretK d_X8_swap_18 rfl ⟨Nat.le_of_ble_eq_true rfl, Nat.le_of_ble_eq_true rfl⟩ (fun q => q)
abbrev M_X8_swaps : zMt := (RX8, cX8_swaps, 1, 4, 130, (some .int), "swaps", 0, 0)
theorem d_X8_swaps_0 : zDc M_X8_swaps 0 (.aload_n 0) 1 1 := ⟨by decide +kernel, rfl⟩
theorem d_X8_swaps_1 : zDc M_X8_swaps 1 (.iconst 0) 1 2 := ⟨by decide +kernel, rfl⟩
theorem d_X8_swaps_2 : zDc M_X8_swaps 2 (.putfield 151) 3 5 := ⟨by decide +kernel, rfl⟩
theorem d_X8_swaps_5 : zDc M_X8_swaps 5 (.aload_n 0) 1 6 := ⟨by decide +kernel, rfl⟩
theorem d_X8_swaps_6 : zDc M_X8_swaps 6 (.iconst (-1)) 1 7 := ⟨by decide +kernel, rfl⟩
theorem d_X8_swaps_7 : zDc M_X8_swaps 7 (.invokevirtual 474) 3 10 := ⟨by decide +kernel, rfl⟩
theorem d_X8_swaps_10 : zDc M_X8_swaps 10 (.ireturn) 1 11 := ⟨by decide +kernel, rfl⟩
def f_X8_swaps (a0 : Nat) (h0 : zHp) : Option (Int32 × zHp) :=
  zob (zpV h0 a0 8 0 (.int 0)) (fun h1 =>
  zbd (zcv 8 a0 h1 (f_X8_swapOf a0 (-1) h1)) (fun v3 h2 =>
  some (v3, h2)))
set_option maxRecDepth 100000 in
set_option maxHeartbeats 4000000 in
theorem t_X8_swaps (a0 : Nat) (h0 : zHp) : ∀ (r : Int32) (h' : zHp), f_X8_swaps a0 h0 = some (r, h') → zCt yX8_swaps (.code yX8_swaps cX8_swaps 1 (some .int)) 4 130 0 0 [.ref a0] h0 (some (.int r)) h' := by
  refine zct_of M_X8_swaps yX8_swaps (by decide) rfl rfl [.ref a0] h0 (Nat.le_of_ble_eq_true rfl) (fun r => some (.int r)) (fun X => ?_)
  show zG X M_X8_swaps (0, 0) 0 [(0, .ref a0)] [] h0 (f_X8_swaps a0 h0) (fun (r : Int32) h' => zKe X (some (.int r)) h')
  unfold f_X8_swaps
  refine zg_aload_n 0 rfl d_X8_swaps_0 ?_
  refine zg_iconst 0 rfl d_X8_swaps_1 ?_
  refine zg_putV d_X8_swaps_2 zc_8 (by decide) fl_X8_151 rfl rfl rfl (fun h1 => ?_)
  refine zg_aload_n 0 rfl d_X8_swaps_5 ?_
  refine zg_iconst (-1) rfl d_X8_swaps_6 ?_
  refine zg_cVi (b := a0) (As := [.int (-1)]) (rest := []) (0, 0) d_X8_swaps_7 zc_8 rfl cw_X8_474 wi_X8_swapOf ws_X8_swapOf rfl rfl (Nat.le_of_ble_eq_true rfl) (by decide) (by decide) ⟨by decide, by decide⟩ rfl (t_X8_swapOf a0 (-1) h1) (fun v3 h2 => ?_)
  exact zg_iretK d_X8_swaps_10 rfl ⟨Nat.le_of_ble_eq_true rfl, Nat.le_of_ble_eq_true rfl⟩ (fun q => q)
abbrev M_X8_thrown : zMt := (RX8, cX8_thrown, 1, 1, 60, (some .int), "thrown", 0, 0)
theorem d_X8_thrown_0 : zDc M_X8_thrown 0 (.aload_n 0) 1 1 := ⟨by decide +kernel, rfl⟩
theorem d_X8_thrown_1 : zDc M_X8_thrown 1 (.getfield 151) 3 4 := ⟨by decide +kernel, rfl⟩
theorem d_X8_thrown_4 : zDc M_X8_thrown 4 (.ireturn) 1 5 := ⟨by decide +kernel, rfl⟩
def f_X8_thrown (a0 : Nat) (h0 : zHp) : Option (Int32 × zHp) :=
  zob (zgI h0 a0 8 0) (fun v1 =>
  some (v1, h0))
set_option maxRecDepth 100000 in
set_option maxHeartbeats 4000000 in
theorem t_X8_thrown (a0 : Nat) (h0 : zHp) : ∀ (r : Int32) (h' : zHp), f_X8_thrown a0 h0 = some (r, h') → zCt yX8_thrown (.code yX8_thrown cX8_thrown 1 (some .int)) 1 60 0 0 [.ref a0] h0 (some (.int r)) h' := by
  refine zct_of M_X8_thrown yX8_thrown (by decide) rfl rfl [.ref a0] h0 (Nat.le_of_ble_eq_true rfl) (fun r => some (.int r)) (fun X => ?_)
  show zG X M_X8_thrown (0, 0) 0 [(0, .ref a0)] [] h0 (f_X8_thrown a0 h0) (fun (r : Int32) h' => zKe X (some (.int r)) h')
  unfold f_X8_thrown
  refine zg_aload_n 0 rfl d_X8_thrown_0 ?_
  refine zg_getI d_X8_thrown_1 zc_8 (by decide) fl_X8_151 (fun v1 => ?_)
  exact zg_iretK d_X8_thrown_4 rfl ⟨Nat.le_of_ble_eq_true rfl, Nat.le_of_ble_eq_true rfl⟩ (fun q => q)
abbrev M_X8_undo : zMt := (RX8, cX8_undo, 1, 2, 85, (some .int), "undo", 0, 0)
theorem d_X8_undo_0 : zDc M_X8_undo 0 (.aload_n 0) 1 1 := ⟨by decide +kernel, rfl⟩
theorem d_X8_undo_1 : zDc M_X8_undo 1 (.iconst 0) 1 2 := ⟨by decide +kernel, rfl⟩
theorem d_X8_undo_2 : zDc M_X8_undo 2 (.putfield 151) 3 5 := ⟨by decide +kernel, rfl⟩
theorem d_X8_undo_5 : zDc M_X8_undo 5 (.aload_n 0) 1 6 := ⟨by decide +kernel, rfl⟩
theorem d_X8_undo_6 : zDc M_X8_undo 6 (.getfield 311) 3 9 := ⟨by decide +kernel, rfl⟩
theorem d_X8_undo_9 : zDj M_X8_undo 9 (.ifCond .ne 5) 5 12 14 := ⟨by decide +kernel, rfl, by decide⟩
theorem d_X8_undo_12 : zDc M_X8_undo 12 (.iconst (-1)) 1 13 := ⟨by decide +kernel, rfl⟩
theorem d_X8_undo_13 : zDc M_X8_undo 13 (.ireturn) 1 14 := ⟨by decide +kernel, rfl⟩
theorem d_X8_undo_14 : zDc M_X8_undo 14 (.aload_n 0) 1 15 := ⟨by decide +kernel, rfl⟩
theorem d_X8_undo_15 : zDc M_X8_undo 15 (.dup) 1 16 := ⟨by decide +kernel, rfl⟩
theorem d_X8_undo_16 : zDc M_X8_undo 16 (.getfield 311) 3 19 := ⟨by decide +kernel, rfl⟩
theorem d_X8_undo_19 : zDc M_X8_undo 19 (.iconst 1) 1 20 := ⟨by decide +kernel, rfl⟩
theorem d_X8_undo_20 : zDc M_X8_undo 20 (.isub) 1 21 := ⟨by decide +kernel, rfl⟩
theorem d_X8_undo_21 : zDc M_X8_undo 21 (.putfield 311) 3 24 := ⟨by decide +kernel, rfl⟩
theorem d_X8_undo_24 : zDc M_X8_undo 24 (.aload_n 0) 1 25 := ⟨by decide +kernel, rfl⟩
theorem d_X8_undo_25 : zDc M_X8_undo 25 (.iconst 0) 1 26 := ⟨by decide +kernel, rfl⟩
theorem d_X8_undo_26 : zDc M_X8_undo 26 (.iconst 3) 1 27 := ⟨by decide +kernel, rfl⟩
theorem d_X8_undo_27 : zDc M_X8_undo 27 (.aload_n 0) 1 28 := ⟨by decide +kernel, rfl⟩
theorem d_X8_undo_28 : zDc M_X8_undo 28 (.getfield 311) 3 31 := ⟨by decide +kernel, rfl⟩
theorem d_X8_undo_31 : zDc M_X8_undo 31 (.iadd) 1 32 := ⟨by decide +kernel, rfl⟩
theorem d_X8_undo_32 : zDc M_X8_undo 32 (.invokevirtual 416) 3 35 := ⟨by decide +kernel, rfl⟩
theorem d_X8_undo_35 : zDc M_X8_undo 35 (.aload_n 0) 1 36 := ⟨by decide +kernel, rfl⟩
theorem d_X8_undo_36 : zDc M_X8_undo 36 (.getfield 311) 3 39 := ⟨by decide +kernel, rfl⟩
theorem d_X8_undo_39 : zDc M_X8_undo 39 (.ireturn) 1 40 := ⟨by decide +kernel, rfl⟩
def f_X8_undo (a0 : Nat) (h0 : zHp) : Option (Int32 × zHp) :=
  zob (zpV h0 a0 8 0 (.int 0)) (fun h1 =>
  zob (zgI h1 a0 8 48) (fun v2 =>
  if v2 = 0 then
  some ((-1), h1)
  else
  zob (zgI h1 a0 8 48) (fun v3 =>
  zob (zpV h1 a0 8 48 (.int (v3 - 1))) (fun h4 =>
  zob (zgI h4 a0 8 48) (fun v5 =>
  zbd (zcv 8 a0 h4 (f_X8_copies a0 0 (3 + v5) h4)) (fun v7 h6 =>
  zob (zgI h6 a0 8 48) (fun v8 =>
  some (v8, h6))))))))
set_option maxRecDepth 100000 in
set_option maxHeartbeats 4000000 in
theorem t_X8_undo (a0 : Nat) (h0 : zHp) : ∀ (r : Int32) (h' : zHp), f_X8_undo a0 h0 = some (r, h') → zCt yX8_undo (.code yX8_undo cX8_undo 1 (some .int)) 2 85 0 0 [.ref a0] h0 (some (.int r)) h' := by
  refine zct_of M_X8_undo yX8_undo (by decide) rfl rfl [.ref a0] h0 (Nat.le_of_ble_eq_true rfl) (fun r => some (.int r)) (fun X => ?_)
  show zG X M_X8_undo (0, 0) 0 [(0, .ref a0)] [] h0 (f_X8_undo a0 h0) (fun (r : Int32) h' => zKe X (some (.int r)) h')
  unfold f_X8_undo
  refine zg_aload_n 0 rfl d_X8_undo_0 ?_
  refine zg_iconst 0 rfl d_X8_undo_1 ?_
  refine zg_putV d_X8_undo_2 zc_8 (by decide) fl_X8_151 rfl rfl rfl (fun h1 => ?_)
  refine zg_aload_n 0 rfl d_X8_undo_5 ?_
  refine zg_getI d_X8_undo_6 zc_8 (by decide) fl_X8_311 (fun v2 => ?_)
  refine zg_if_ne d_X8_undo_9 ?_ ?_
  · refine zg_iconst (-1) rfl d_X8_undo_12 ?_
    exact zg_iretK d_X8_undo_13 rfl ⟨Nat.le_of_ble_eq_true rfl, Nat.le_of_ble_eq_true rfl⟩ (fun q => q)
  · refine zg_aload_n 0 rfl d_X8_undo_14 ?_
    refine zg_dup rfl d_X8_undo_15 ?_
    refine zg_getI d_X8_undo_16 zc_8 (by decide) fl_X8_311 (fun v3 => ?_)
    refine zg_iconst 1 rfl d_X8_undo_19 ?_
    refine zg_isub d_X8_undo_20 ?_
    refine zg_putV d_X8_undo_21 zc_8 (by decide) fl_X8_311 rfl rfl rfl (fun h4 => ?_)
    refine zg_aload_n 0 rfl d_X8_undo_24 ?_
    refine zg_iconst 0 rfl d_X8_undo_25 ?_
    refine zg_iconst 3 rfl d_X8_undo_26 ?_
    refine zg_aload_n 0 rfl d_X8_undo_27 ?_
    refine zg_getI d_X8_undo_28 zc_8 (by decide) fl_X8_311 (fun v5 => ?_)
    refine zg_iadd d_X8_undo_31 ?_
    refine zg_cVv (b := a0) (As := [.int 0, .int (3 + v5)]) (rest := []) (0, 0) d_X8_undo_32 zc_8 rfl cw_X8_416 wi_X8_copies ws_X8_copies rfl rfl (Nat.le_of_ble_eq_true rfl) (by decide) (by decide) ⟨by decide, by decide⟩ rfl (t_X8_copies a0 0 (3 + v5) h4) (fun v7 h6 => ?_)
    refine zg_aload_n 0 rfl d_X8_undo_35 ?_
    refine zg_getI d_X8_undo_36 zc_8 (by decide) fl_X8_311 (fun v8 => ?_)
    exact zg_iretK d_X8_undo_39 rfl ⟨Nat.le_of_ble_eq_true rfl, Nat.le_of_ble_eq_true rfl⟩ (fun q => q)
abbrev M_X8_whose : zMt := (RX8, cX8_whose, 5, 2, 81, (some .int), "whose", 0, 0)
theorem d_X8_whose_0 : zDc M_X8_whose 0 (.aload_n 0) 1 1 := ⟨by decide +kernel, rfl⟩
theorem d_X8_whose_1 : zDc M_X8_whose 1 (.iconst 0) 1 2 := ⟨by decide +kernel, rfl⟩
theorem d_X8_whose_2 : zDc M_X8_whose 2 (.putfield 151) 3 5 := ⟨by decide +kernel, rfl⟩
theorem d_X8_whose_5 : zDc M_X8_whose 5 (.aload_n 0) 1 6 := ⟨by decide +kernel, rfl⟩
theorem d_X8_whose_6 : zDc M_X8_whose 6 (.iload_n 1) 1 7 := ⟨by decide +kernel, rfl⟩
theorem d_X8_whose_7 : zDc M_X8_whose 7 (.invokevirtual 431) 3 10 := ⟨by decide +kernel, rfl⟩
theorem d_X8_whose_10 : zDj M_X8_whose 10 (.ifCond .ne 5) 5 13 15 := ⟨by decide +kernel, rfl, by decide⟩
theorem d_X8_whose_13 : zDc M_X8_whose 13 (.iconst (-1)) 1 14 := ⟨by decide +kernel, rfl⟩
theorem d_X8_whose_14 : zDc M_X8_whose 14 (.ireturn) 1 15 := ⟨by decide +kernel, rfl⟩
theorem d_X8_whose_15 : zDc M_X8_whose 15 (.bipush (-2)) 2 17 := ⟨by decide +kernel, rfl⟩
theorem d_X8_whose_17 : zDc M_X8_whose 17 (.istore_n 2) 1 18 := ⟨by decide +kernel, rfl⟩
theorem d_X8_whose_18 : zDc M_X8_whose 18 (.iconst 0) 1 19 := ⟨by decide +kernel, rfl⟩
theorem d_X8_whose_19 : zDc M_X8_whose 19 (.istore_n 3) 1 20 := ⟨by decide +kernel, rfl⟩
theorem d_X8_whose_20 : zDc M_X8_whose 20 (.iconst 0) 1 21 := ⟨by decide +kernel, rfl⟩
theorem d_X8_whose_21 : zDc M_X8_whose 21 (.istore 4) 2 23 := ⟨by decide +kernel, rfl⟩
theorem d_X8_whose_23 : zDc M_X8_whose 23 (.iload 4) 2 25 := ⟨by decide +kernel, rfl⟩
theorem d_X8_whose_25 : zDc M_X8_whose 25 (.aload_n 0) 1 26 := ⟨by decide +kernel, rfl⟩
theorem d_X8_whose_26 : zDc M_X8_whose 26 (.getfield 13) 3 29 := ⟨by decide +kernel, rfl⟩
theorem d_X8_whose_29 : zDc M_X8_whose 29 (.iconst 2) 1 30 := ⟨by decide +kernel, rfl⟩
theorem d_X8_whose_30 : zDc M_X8_whose 30 (.iaload) 1 31 := ⟨by decide +kernel, rfl⟩
theorem d_X8_whose_31 : zDj M_X8_whose 31 (.if_icmp .ge 44) 44 34 75 := ⟨by decide +kernel, rfl, by decide⟩
theorem d_X8_whose_34 : zDc M_X8_whose 34 (.aload_n 0) 1 35 := ⟨by decide +kernel, rfl⟩
theorem d_X8_whose_35 : zDc M_X8_whose 35 (.getfield 105) 3 38 := ⟨by decide +kernel, rfl⟩
theorem d_X8_whose_38 : zDc M_X8_whose 38 (.bipush 7) 2 40 := ⟨by decide +kernel, rfl⟩
theorem d_X8_whose_40 : zDc M_X8_whose 40 (.iload_n 1) 1 41 := ⟨by decide +kernel, rfl⟩
theorem d_X8_whose_41 : zDc M_X8_whose 41 (.imul) 1 42 := ⟨by decide +kernel, rfl⟩
theorem d_X8_whose_42 : zDc M_X8_whose 42 (.iload 4) 2 44 := ⟨by decide +kernel, rfl⟩
theorem d_X8_whose_44 : zDc M_X8_whose 44 (.iadd) 1 45 := ⟨by decide +kernel, rfl⟩
theorem d_X8_whose_45 : zDc M_X8_whose 45 (.iaload) 1 46 := ⟨by decide +kernel, rfl⟩
theorem d_X8_whose_46 : zDc M_X8_whose 46 (.iload_n 3) 1 47 := ⟨by decide +kernel, rfl⟩
theorem d_X8_whose_47 : zDj M_X8_whose 47 (.if_icmp .gt 6) 6 50 53 := ⟨by decide +kernel, rfl, by decide⟩
theorem d_X8_whose_50 : zDj M_X8_whose 50 (.goto 19) 19 53 69 := ⟨by decide +kernel, rfl, by decide⟩
theorem d_X8_whose_53 : zDc M_X8_whose 53 (.iload 4) 2 55 := ⟨by decide +kernel, rfl⟩
theorem d_X8_whose_55 : zDc M_X8_whose 55 (.istore_n 2) 1 56 := ⟨by decide +kernel, rfl⟩
theorem d_X8_whose_56 : zDc M_X8_whose 56 (.aload_n 0) 1 57 := ⟨by decide +kernel, rfl⟩
theorem d_X8_whose_57 : zDc M_X8_whose 57 (.getfield 105) 3 60 := ⟨by decide +kernel, rfl⟩
theorem d_X8_whose_60 : zDc M_X8_whose 60 (.bipush 7) 2 62 := ⟨by decide +kernel, rfl⟩
theorem d_X8_whose_62 : zDc M_X8_whose 62 (.iload_n 1) 1 63 := ⟨by decide +kernel, rfl⟩
theorem d_X8_whose_63 : zDc M_X8_whose 63 (.imul) 1 64 := ⟨by decide +kernel, rfl⟩
theorem d_X8_whose_64 : zDc M_X8_whose 64 (.iload 4) 2 66 := ⟨by decide +kernel, rfl⟩
theorem d_X8_whose_66 : zDc M_X8_whose 66 (.iadd) 1 67 := ⟨by decide +kernel, rfl⟩
theorem d_X8_whose_67 : zDc M_X8_whose 67 (.iaload) 1 68 := ⟨by decide +kernel, rfl⟩
theorem d_X8_whose_68 : zDc M_X8_whose 68 (.istore_n 3) 1 69 := ⟨by decide +kernel, rfl⟩
theorem d_X8_whose_69 : zDc M_X8_whose 69 (.iinc 4 1) 3 72 := ⟨by decide +kernel, rfl⟩
theorem d_X8_whose_72 : zDj M_X8_whose 72 (.goto (-49)) (-49) 75 23 := ⟨by decide +kernel, rfl, by decide⟩
theorem d_X8_whose_75 : zDc M_X8_whose 75 (.iload_n 2) 1 76 := ⟨by decide +kernel, rfl⟩
theorem d_X8_whose_76 : zDc M_X8_whose 76 (.ireturn) 1 77 := ⟨by decide +kernel, rfl⟩
def f_X8_whose (a0 : Nat) (a1 : Int32) (h0 : zHp) : Option (Int32 × zHp) :=
  zob (zpV h0 a0 8 0 (.int 0)) (fun h1 =>
  zbd (zcv 8 a0 h1 (f_X8_isField a0 a1 h1)) (fun v3 h2 =>
  if v3 = 0 then
  some ((-1), h2)
  else
  zbd (
  zlp (σ := (Int32 × Int32 × Int32)) (β := (Int32 × Int32 × Int32)) zLF (fun s4 h5 =>
  zob (zgR h5 a0 8 3) (fun v8 =>
  zob (zaI 0 h5 v8 2) (fun v9 =>
  if v9 ≤ s4.2.2 then
  some ((.inr (s4.1, s4.2.1, s4.2.2)), h5)
  else
  zob (zgR h5 a0 8 46) (fun v10 =>
  zob (zaI 0 h5 v10 ((7 * a1) + s4.2.2)) (fun v11 =>
  if s4.2.1 < v11 then
  zob (zgR h5 a0 8 46) (fun v12 =>
  zob (zaI 0 h5 v12 ((7 * a1) + s4.2.2)) (fun v13 =>
  some ((.inl (s4.2.2, v13, (s4.2.2 + 1))), h5)))
  else
  some ((.inl (s4.1, s4.2.1, (s4.2.2 + 1))), h5)))))) ((-2), 0, 0) h2) (fun e6 h7 =>
  some (e6.1, h7))))
set_option maxRecDepth 100000 in
set_option maxHeartbeats 4000000 in
theorem t_X8_whose (a0 : Nat) (a1 : Int32) (h0 : zHp) : ∀ (r : Int32) (h' : zHp), f_X8_whose a0 a1 h0 = some (r, h') → zCt yX8_whose (.code yX8_whose cX8_whose 5 (some .int)) 2 81 0 0 [.ref a0, .int a1] h0 (some (.int r)) h' := by
  refine zct_of M_X8_whose yX8_whose (by decide) rfl rfl [.ref a0, .int a1] h0 (Nat.le_of_ble_eq_true rfl) (fun r => some (.int r)) (fun X => ?_)
  show zG X M_X8_whose (0, 0) 0 [(0, .ref a0), (1, .int a1)] [] h0 (f_X8_whose a0 a1 h0) (fun (r : Int32) h' => zKe X (some (.int r)) h')
  unfold f_X8_whose
  refine zg_aload_n 0 rfl d_X8_whose_0 ?_
  refine zg_iconst 0 rfl d_X8_whose_1 ?_
  refine zg_putV d_X8_whose_2 zc_8 (by decide) fl_X8_151 rfl rfl rfl (fun h1 => ?_)
  refine zg_aload_n 0 rfl d_X8_whose_5 ?_
  refine zg_iload_n 1 rfl d_X8_whose_6 ?_
  refine zg_cVi (b := a0) (As := [.int a1]) (rest := []) (0, 0) d_X8_whose_7 zc_8 rfl cw_X8_431 wi_X8_isField ws_X8_isField rfl rfl (Nat.le_of_ble_eq_true rfl) (by decide) (by decide) ⟨by decide, by decide⟩ rfl (t_X8_isField a0 a1 h1) (fun v3 h2 => ?_)
  refine zg_if_ne d_X8_whose_10 ?_ ?_
  · refine zg_iconst (-1) rfl d_X8_whose_13 ?_
    exact zg_iretK d_X8_whose_14 rfl ⟨Nat.le_of_ble_eq_true rfl, Nat.le_of_ble_eq_true rfl⟩ (fun q => q)
  · refine zg_bipush (-2) rfl d_X8_whose_15 ?_
    refine zg_istore_n [(2, .int (-2)), (0, .ref a0), (1, .int a1)] d_X8_whose_17 rfl (by decide) rfl ?_
    refine zg_iconst 0 rfl d_X8_whose_18 ?_
    refine zg_istore_n [(3, .int 0), (2, .int (-2)), (0, .ref a0), (1, .int a1)] d_X8_whose_19 rfl (by decide) rfl ?_
    refine zg_iconst 0 rfl d_X8_whose_20 ?_
    refine zg_istore [(4, .int 0), (3, .int 0), (2, .int (-2)), (0, .ref a0), (1, .int a1)] d_X8_whose_21 (by decide) rfl ?_
    refine zg_bd (E := 75) (el := (fun (e6 : (Int32 × Int32 × Int32)) => [(0, .ref a0), (1, .int a1), (2, .int e6.1), (3, .int e6.2.1), (4, .int e6.2.2)])) (es := fun _ => []) (zg_sub [3, 4, 2, 1, 0] rfl (zg_lp (el := (fun (s4 : (Int32 × Int32 × Int32)) => [(0, .ref a0), (1, .int a1), (2, .int s4.1), (3, .int s4.2.1), (4, .int s4.2.2)])) (fun s4 h5 => ?_) ((-2), 0, 0) h2)) (fun e6 h7 => ?_)
    · refine zg_iload 4 rfl d_X8_whose_23 ?_
      refine zg_aload_n 0 rfl d_X8_whose_25 ?_
      refine zg_getR d_X8_whose_26 zc_8 (by decide) fl_X8_13 (fun v8 => ?_)
      refine zg_iconst 2 rfl d_X8_whose_29 ?_
      refine zg_ald0 d_X8_whose_30 (fun v9 => ?_)
      refine zg_icmp_ge d_X8_whose_31 ?_ ?_
      · exact zg_finK (E := 0) [0, 1, 2, 3, 4] rfl rfl (fun q => q)
      · refine zg_aload_n 0 rfl d_X8_whose_34 ?_
        refine zg_getR d_X8_whose_35 zc_8 (by decide) fl_X8_105 (fun v10 => ?_)
        refine zg_bipush 7 rfl d_X8_whose_38 ?_
        refine zg_iload_n 1 rfl d_X8_whose_40 ?_
        refine zg_imul d_X8_whose_41 ?_
        refine zg_iload 4 rfl d_X8_whose_42 ?_
        refine zg_iadd d_X8_whose_44 ?_
        refine zg_ald0 d_X8_whose_45 (fun v11 => ?_)
        refine zg_iload_n 3 rfl d_X8_whose_46 ?_
        refine zg_icmp_gt d_X8_whose_47 ?_ ?_
        · refine zg_iload 4 rfl d_X8_whose_53 ?_
          refine zg_istore_n [(2, .int s4.2.2), (0, .ref a0), (1, .int a1), (3, .int s4.2.1), (4, .int s4.2.2)] d_X8_whose_55 rfl (by decide) rfl ?_
          refine zg_aload_n 1 rfl d_X8_whose_56 ?_
          refine zg_getR d_X8_whose_57 zc_8 (by decide) fl_X8_105 (fun v12 => ?_)
          refine zg_bipush 7 rfl d_X8_whose_60 ?_
          refine zg_iload_n 2 rfl d_X8_whose_62 ?_
          refine zg_imul d_X8_whose_63 ?_
          refine zg_iload 4 rfl d_X8_whose_64 ?_
          refine zg_iadd d_X8_whose_66 ?_
          refine zg_ald0 d_X8_whose_67 (fun v13 => ?_)
          refine zg_istore_n [(3, .int v13), (2, .int s4.2.2), (0, .ref a0), (1, .int a1), (4, .int s4.2.2)] d_X8_whose_68 rfl (by decide) rfl ?_
          refine zg_iinc 4 (s4.2.2 + 1) [(4, .int (s4.2.2 + 1)), (3, .int v13), (2, .int s4.2.2), (0, .ref a0), (1, .int a1)] d_X8_whose_69 rfl rfl (by decide) rfl ?_
          refine zg_goto d_X8_whose_72 ?_
          exact zg_finK (E := 0) [3, 4, 2, 1, 0] rfl rfl (fun q => q)
        · refine zg_goto d_X8_whose_50 ?_
          refine zg_iinc 4 (s4.2.2 + 1) [(4, .int (s4.2.2 + 1)), (0, .ref a0), (1, .int a1), (2, .int s4.1), (3, .int s4.2.1)] d_X8_whose_69 rfl rfl (by decide) rfl ?_
          refine zg_goto d_X8_whose_72 ?_
          exact zg_finK (E := 0) [1, 2, 3, 4, 0] rfl rfl (fun q => q)
    · refine zg_iload_n 2 rfl d_X8_whose_75 ?_
      exact zg_iretK d_X8_whose_76 rfl ⟨Nat.le_of_ble_eq_true rfl, Nat.le_of_ble_eq_true rfl⟩ (fun q => q)

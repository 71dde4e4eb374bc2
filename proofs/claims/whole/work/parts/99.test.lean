theorem fl_X5_50 : Cond.fieldLink RX5 50 (TX5 14).1 (TX5 14).2.1 (TX5 14).2.2.1 ∈ zT := zw_of _ 441 (by decide +kernel) (by decide +kernel)
theorem fl_X5_90 : Cond.fieldLink RX5 90 (TX6 14).1 (TX6 14).2.1 (TX6 14).2.2.1 ∈ zT := zw_of _ 244 (by decide +kernel) (by decide +kernel)
theorem fl_X5_27 : Cond.fieldLink RX5 27 (TX5 5).1 (TX5 5).2.1 (TX5 5).2.2.1 ∈ zT := zw_of _ 416 (by decide +kernel) (by decide +kernel)
abbrev M_X5_howManyAre : zMt := (RX5, cX5_howManyAre, 4, 1, 60, (some .int), "howManyAre", 0, 0)
theorem d_X5_howManyAre_0 : zDc M_X5_howManyAre 0 (.iconst 0) 1 1 := ⟨by decide +kernel, rfl⟩
theorem d_X5_howManyAre_1 : zDc M_X5_howManyAre 1 (.istore_n 2) 1 2 := ⟨by decide +kernel, rfl⟩
theorem d_X5_howManyAre_2 : zDc M_X5_howManyAre 2 (.iconst 0) 1 3 := ⟨by decide +kernel, rfl⟩
theorem d_X5_howManyAre_3 : zDc M_X5_howManyAre 3 (.istore_n 3) 1 4 := ⟨by decide +kernel, rfl⟩
theorem d_X5_howManyAre_4 : zDc M_X5_howManyAre 4 (.iload_n 3) 1 5 := ⟨by decide +kernel, rfl⟩
theorem d_X5_howManyAre_5 : zDc M_X5_howManyAre 5 (.aload_n 0) 1 6 := ⟨by decide +kernel, rfl⟩
theorem d_X5_howManyAre_6 : zDc M_X5_howManyAre 6 (.getfield 50) 3 9 := ⟨by decide +kernel, rfl⟩
theorem d_X5_howManyAre_9 : zDc M_X5_howManyAre 9 (.getfield 90) 3 12 := ⟨by decide +kernel, rfl⟩
theorem d_X5_howManyAre_12 : zDj M_X5_howManyAre 12 (.if_icmp .ge 22) 22 15 34 := ⟨by decide +kernel, rfl, by decide⟩
theorem d_X5_howManyAre_15 : zDc M_X5_howManyAre 15 (.aload_n 0) 1 16 := ⟨by decide +kernel, rfl⟩
theorem d_X5_howManyAre_16 : zDc M_X5_howManyAre 16 (.getfield 27) 3 19 := ⟨by decide +kernel, rfl⟩
theorem d_X5_howManyAre_19 : zDc M_X5_howManyAre 19 (.iload_n 3) 1 20 := ⟨by decide +kernel, rfl⟩
theorem d_X5_howManyAre_20 : zDc M_X5_howManyAre 20 (.iaload) 1 21 := ⟨by decide +kernel, rfl⟩
theorem d_X5_howManyAre_21 : zDc M_X5_howManyAre 21 (.iload_n 1) 1 22 := ⟨by decide +kernel, rfl⟩
theorem d_X5_howManyAre_22 : zDj M_X5_howManyAre 22 (.if_icmp .ne 6) 6 25 28 := ⟨by decide +kernel, rfl, by decide⟩
theorem d_X5_howManyAre_25 : zDc M_X5_howManyAre 25 (.iinc 2 1) 3 28 := ⟨by decide +kernel, rfl⟩
theorem d_X5_howManyAre_28 : zDc M_X5_howManyAre 28 (.iinc 3 1) 3 31 := ⟨by decide +kernel, rfl⟩
theorem d_X5_howManyAre_31 : zDj M_X5_howManyAre 31 (.goto (-27)) (-27) 34 4 := ⟨by decide +kernel, rfl, by decide⟩
theorem d_X5_howManyAre_34 : zDc M_X5_howManyAre 34 (.iload_n 2) 1 35 := ⟨by decide +kernel, rfl⟩
theorem d_X5_howManyAre_35 : zDc M_X5_howManyAre 35 (.ireturn) 1 36 := ⟨by decide +kernel, rfl⟩
def f_X5_howManyAre (a0 : Nat) (a1 : Int32) (h0 : zHp) : Option (Int32 × zHp) :=
  zbd (
  zlp (σ := (Int32 × Int32)) (β := (Int32 × Int32)) zLF (fun s1 h2 =>
  zob (zgR h2 a0 5 14) (fun v5 =>
  zob (zgI h2 v5 6 14) (fun v6 =>
  if v6 ≤ s1.2 then
  some ((.inr (s1.1, s1.2)), h2)
  else
  zob (zgR h2 a0 5 5) (fun v7 =>
  zob (zaI 0 h2 v7 s1.2) (fun v8 =>
  if v8 = a1 then
  some ((.inl ((s1.1 + 1), (s1.2 + 1))), h2)
  else
  some ((.inl (s1.1, (s1.2 + 1))), h2)))))) (0, 0) h0) (fun e3 h4 =>
  some (e3.1, h4))
set_option maxRecDepth 100000 in
set_option maxHeartbeats 4000000 in
theorem t_X5_howManyAre (a0 : Nat) (a1 : Int32) (h0 : zHp) : ∀ (r : Int32) (h' : zHp), f_X5_howManyAre a0 a1 h0 = some (r, h') → zCt yX5_howManyAre (.code yX5_howManyAre cX5_howManyAre 4 (some .int)) 1 60 0 0 [.ref a0, .int a1] h0 (some (.int r)) h' := by
  refine zct_of M_X5_howManyAre yX5_howManyAre (by decide) rfl rfl [.ref a0, .int a1] h0 (Nat.le_of_ble_eq_true rfl) (fun r => some (.int r)) (fun X => ?_)
  show zG X M_X5_howManyAre (0, 0) 0 [(0, .ref a0), (1, .int a1)] [] h0 (f_X5_howManyAre a0 a1 h0) (fun (r : Int32) h' => zKe X (some (.int r)) h')
  unfold f_X5_howManyAre
  refine zg_iconst 0 rfl d_X5_howManyAre_0 ?_
  refine zg_istore_n [(2, .int 0), (0, .ref a0), (1, .int a1)] d_X5_howManyAre_1 rfl (by decide) rfl ?_
  refine zg_iconst 0 rfl d_X5_howManyAre_2 ?_
  refine zg_istore_n [(3, .int 0), (2, .int 0), (0, .ref a0), (1, .int a1)] d_X5_howManyAre_3 rfl (by decide) rfl ?_
  refine zg_bd (E := 34) (el := (fun (e3 : (Int32 × Int32)) => [(0, .ref a0), (1, .int a1), (2, .int e3.1), (3, .int e3.2)])) (es := fun _ => []) (zg_sub [2, 3, 1, 0] rfl (zg_lp (el := (fun (s1 : (Int32 × Int32)) => [(0, .ref a0), (1, .int a1), (2, .int s1.1), (3, .int s1.2)])) (fun s1 h2 => ?_) (0, 0) h0)) (fun e3 h4 => ?_)
  · refine zg_iload_n 3 rfl d_X5_howManyAre_4 ?_
    refine zg_aload_n 0 rfl d_X5_howManyAre_5 ?_
    refine zg_getR d_X5_howManyAre_6 zc_5 (by decide) fl_X5_50 (fun v5 => ?_)
    refine zg_getI d_X5_howManyAre_9 zc_6 (by decide) fl_X5_90 (fun v6 => ?_)
    refine zg_icmp_ge d_X5_howManyAre_12 ?_ ?_
    · exact zg_finK (E := 0) [0, 1, 2, 3] rfl rfl (fun q => q)
    · refine zg_aload_n 0 rfl d_X5_howManyAre_15 ?_
      refine zg_getR d_X5_howManyAre_16 zc_5 (by decide) fl_X5_27 (fun v7 => ?_)
      refine zg_iload_n 3 rfl d_X5_howManyAre_19 ?_
      refine zg_ald0 d_X5_howManyAre_20 (fun v8 => ?_)
      refine zg_iload_n 1 rfl d_X5_howManyAre_21 ?_
      refine zg_icmp_ne d_X5_howManyAre_22 ?_ ?_
      · refine zg_iinc 2 (s1.1 + 1) [(2, .int (s1.1 + 1)), (0, .ref a0), (1, .int a1), (3, .int s1.2)] d_X5_howManyAre_25 rfl rfl (by decide) rfl ?_
        refine zg_iinc 3 (s1.2 + 1) [(3, .int (s1.2 + 1)), (2, .int (s1.1 + 1)), (0, .ref a0), (1, .int a1)] d_X5_howManyAre_28 rfl rfl (by decide) rfl ?_
        refine zg_goto d_X5_howManyAre_31 ?_
        exact zg_finK (E := 0) [2, 3, 1, 0] rfl rfl (fun q => q)
      · refine zg_iinc 3 (s1.2 + 1) [(3, .int (s1.2 + 1)), (0, .ref a0), (1, .int a1), (2, .int s1.1)] d_X5_howManyAre_28 rfl rfl (by decide) rfl ?_
        refine zg_goto d_X5_howManyAre_31 ?_
        exact zg_finK (E := 0) [1, 2, 3, 0] rfl rfl (fun q => q)
  · refine zg_iload_n 2 rfl d_X5_howManyAre_34 ?_
    exact zg_iretK d_X5_howManyAre_35 rfl ⟨Nat.le_of_ble_eq_true rfl, Nat.le_of_ble_eq_true rfl⟩ (fun q => q)

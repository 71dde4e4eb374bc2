/-! the law's start: both objects and the cell of a long are made -/
theorem d_L_law_0 : zDc M_L_law 0 (.new 8) 3 3 := ⟨by decide +kernel, rfl⟩
theorem d_L_law_3 : zDc M_L_law 3 .dup 1 4 := ⟨by decide +kernel, rfl⟩
theorem d_L_law_4 : zDc M_L_law 4 (.invokespecial 17) 3 7 := ⟨by decide +kernel, rfl⟩
theorem d_L_law_7 : zDc M_L_law 7 (.astore_n 1) 1 8 := ⟨by decide +kernel, rfl⟩
theorem d_L_law_8 : zDc M_L_law 8 (.new 18) 3 11 := ⟨by decide +kernel, rfl⟩
theorem d_L_law_11 : zDc M_L_law 11 .dup 1 12 := ⟨by decide +kernel, rfl⟩
theorem d_L_law_12 : zDc M_L_law 12 (.invokespecial 20) 3 15 := ⟨by decide +kernel, rfl⟩
theorem d_L_law_15 : zDc M_L_law 15 (.astore_n 2) 1 16 := ⟨by decide +kernel, rfl⟩
theorem d_L_law_16 : zDc M_L_law 16 (.iconst 1) 1 17 := ⟨by decide +kernel, rfl⟩
theorem d_L_law_17 : zDc M_L_law 17 (.newarray .long) 2 19 := ⟨by decide +kernel, rfl⟩
theorem d_L_law_19 : zDc M_L_law 19 (.astore_n 3) 1 20 := ⟨by decide +kernel, rfl⟩
theorem d_L_law_20 : zDc M_L_law 20 (.iconst 0) 1 21 := ⟨by decide +kernel, rfl⟩
theorem d_L_law_21 : zDc M_L_law 21 (.istore 4) 2 23 := ⟨by decide +kernel, rfl⟩
theorem cl_L_8 : Cond.classLink RL 8 RX7 ∈ zT := zw_m (by decide +kernel) (by decide +kernel)
theorem cl_L_18 : Cond.classLink RL 18 RX8 ∈ zT := zw_m (by decide +kernel) (by decide +kernel)
theorem it_X7 : Cond.instantiable RX7 10 ∈ zT := zw_m (by decide +kernel) (by decide +kernel)
theorem it_X8 : Cond.instantiable RX8 68 ∈ zT := zw_m (by decide +kernel) (by decide +kernel)
theorem wi_X7_init : Cond.instanceMethod yX7_init ∈ zT := zw_m (by decide +kernel) (by decide +kernel)
theorem wi_X8_init : Cond.instanceMethod yX8_init ∈ zT := zw_m (by decide +kernel) (by decide +kernel)
theorem cd_X7_init : Cond.code yX7_init cX7_init 1 none ∈ zT := zw_m (by decide +kernel) (by decide +kernel)
theorem cd_X8_init : Cond.code yX8_init cX8_init 1 none ∈ zT := zw_m (by decide +kernel) (by decide +kernel)
theorem cw_L_17 : zCw RL 17 yX7_init cX7_init 1 none 0 := ⟨zw_m (by decide +kernel) (by decide +kernel), ni_X7, cd_X7_init, by decide, by decide, by decide +kernel⟩
theorem cw_L_20 : zCw RL 20 yX8_init cX8_init 1 none 0 := ⟨zw_m (by decide +kernel) (by decide +kernel), ni_X8, cd_X8_init, by decide, by decide, by decide +kernel⟩
def f_L_s (h0 : zHp) : Option ((Nat × Nat × Nat) × zHp) :=
  zbd (znO h0 7 zfs_X7) (fun x h1 => zbd (f_X7_init x h1) (fun _ h2 => zbd (znO h2 8 zfs_X8) (fun y h3 => zbd (f_X8_init y h3) (fun _ h4 =>
  zbd (znA h4 3 (1, .inr (.inl (fun _ => 0)))) (fun o h5 => some ((x, y, o), h5))))))
set_option maxRecDepth 100000 in
set_option maxHeartbeats 4000000 in
theorem t_L_s {X : zCx} {b : Nat} (h0 : zHp) : zG X M_L_law (0, 0) 0 [(0, .ref b)] [] h0 (f_L_s h0) (fun q h' => zSW X M_L_law (274, 6535) 23 [(0, .ref b), (1, .ref q.1), (2, .ref q.2.1), (3, .ref q.2.2), (4, .int 0)] [] h') := by
  unfold f_L_s
  refine zg_new (1, 10) d_L_law_0 zc_7 cl_L_8 it_X7 ni_X7 zfs_X7_ok ⟨by decide, by decide⟩ rfl (fun x h1 => ?_)
  refine zg_dup rfl d_L_law_3 ?_
  refine zg_cI (b := x) (As := []) (rest := [.ref x]) (232, 2845) d_L_law_4 cw_L_17 wi_X7_init rfl rfl rfl (Nat.le_of_ble_eq_true rfl) (by decide) (by decide) ⟨by decide, by decide⟩ rfl (t_X7_init x h1) (fun _ h2 => ?_)
  refine zg_astore_n [(1, .ref x), (0, .ref b)] d_L_law_7 rfl (by decide) rfl ?_
  refine zg_new (233, 2913) d_L_law_8 zc_8 cl_L_18 it_X8 ni_X8 zfs_X8_ok ⟨by decide, by decide⟩ rfl (fun y h3 => ?_)
  refine zg_dup rfl d_L_law_11 ?_
  refine zg_cI (b := y) (As := []) (rest := [.ref y]) (273, 6534) d_L_law_12 cw_L_20 wi_X8_init rfl rfl rfl (Nat.le_of_ble_eq_true rfl) (by decide) (by decide) ⟨by decide, by decide⟩ rfl (t_X8_init y h3) (fun _ h4 => ?_)
  refine zg_astore_n [(2, .ref y), (1, .ref x), (0, .ref b)] d_L_law_15 rfl (by decide) rfl ?_
  refine zg_iconst 1 rfl d_L_law_16 ?_
  refine zg_newa (t := 3) (274, 6535) d_L_law_17 ac_3 rfl (fun _ => rfl) (fun _ _ q => q) (fun _ => rfl) (by decide) rfl (by decide) ⟨by decide, by decide⟩ rfl (fun o h5 => ?_)
  refine zg_astore_n [(3, .ref o), (2, .ref y), (1, .ref x), (0, .ref b)] d_L_law_19 rfl (by decide) rfl ?_
  refine zg_iconst 0 rfl d_L_law_20 ?_
  refine zg_istore [(4, .int 0), (3, .ref o), (2, .ref y), (1, .ref x), (0, .ref b)] d_L_law_21 (by decide) rfl ?_
  exact zg_finK (E := 0) [4, 3, 2, 1, 0] rfl rfl (fun q => q)
theorem z_begun (B : Nat) : ∃ h5 M, f_L_s (fun _ => none, B) = some ((B + 0, B + 213, B + 254), h5) ∧ zW B (B + 255) h5 M ∧ ∃ t T S, yI yWf M t T S := by
  obtain ⟨_, h2, e2, q2⟩ := sp_X7 (B := B) (fun _ => none, B) rfl
  obtain ⟨_, h4, e4, M0, w4, eb⟩ := sp_X8 (B := B) (hb := h2) q2.1 (fun j hj => q2.2.2.1 j (Nat.zero_le _) hj)
  have w5 : zW B (B + 255) (znw h4 (.inl (3, (1, .inr (.inl (fun _ => 0)))))) (M0.1, fun k => if k = 254 then (fun _ => 0) else M0.2 k) := by
    refine ⟨fun k hk => ?_, ?_⟩
    · by_cases h : k = 254
      · subst h
        rw [zcd_3 (n := 1) ⟨by decide +kernel, by decide +kernel⟩]
        unfold znw
        simp only
        rw [w4.2, if_pos rfl, if_pos trivial]
      · have hn : ¬ B + k = h4.2 := by rw [w4.2]; omega
        unfold znw
        simp only
        rw [if_neg hn, w4.1 k (by omega)]
        exact congrArg some (zcd_same rfl (by simp only; rw [if_neg h]))
    · show h4.2 + 1 = B + 255
      rw [w4.2]
  refine ⟨_, _, ?_, w5, 24, yT0, _, z_first eb _⟩
  have s1 : f_L_s (fun _ => none, B) = zbd (f_X7_init (B + 0) (znw (fun _ => none, B) (.inr (7, zfs_X7)))) (fun _ h2 => zbd (f_X8_init h2.2 (znw h2 (.inr (8, zfs_X8)))) (fun _ h4 => some ((B + 0, h2.2, h4.2), znw h4 (.inl (3, (1, .inr (.inl (fun _ => 0)))))))) := rfl
  have s2 : f_X7_init (B + 0) (znw (fun _ => none, B) (.inr (7, zfs_X7))) = _ := e2
  rw [s1, s2]
  have s3 : ∀ (u : Unit) (f : Unit → zHp → Option ((Nat × Nat × Nat) × zHp)) (hh : zHp), zbd (some (u, hh)) f = f u hh := fun _ _ _ => rfl
  rw [s3, q2.1, e4, s3, w4.2]
theorem zs_whole {X : zCx} {b L : Nat} {xs : Nat → Int32} (hX : zScr X b L xs) (hXl : zXl X) (hL : L ≤ 3072) (hK : ∀ h, zKe X (some (.int 1)) h) (B : Nat) : zSW X M_L_law (0, 0) 0 [(0, .ref b)] [] (fun _ => none, B) := by
  obtain ⟨h5, M, e, w, y⟩ := z_begun B
  exact t_L_s (fun _ => none, B) _ _ e (zs_loop hX hXl hL hK 512 0 274 6535 _ h5 M (by omega) (by omega) (by omega) (by omega) w y)

/-! the law's case of cloud -/
theorem d_L_law_372 : zDc M_L_law 372 (.aload_n 1) 1 373 := ⟨by decide +kernel, rfl⟩
theorem d_L_law_373 : zDc M_L_law 373 (.aload_n 0) 1 374 := ⟨by decide +kernel, rfl⟩
theorem d_L_law_374 : zDc M_L_law 374 (.iload 4) 2 376 := ⟨by decide +kernel, rfl⟩
theorem d_L_law_376 : zDc M_L_law 376 (.iconst 1) 1 377 := ⟨by decide +kernel, rfl⟩
theorem d_L_law_377 : zDc M_L_law 377 (.iadd) 1 378 := ⟨by decide +kernel, rfl⟩
theorem d_L_law_378 : zDc M_L_law 378 (.iaload) 1 379 := ⟨by decide +kernel, rfl⟩
theorem d_L_law_379 : zDc M_L_law 379 (.aload_n 0) 1 380 := ⟨by decide +kernel, rfl⟩
theorem d_L_law_380 : zDc M_L_law 380 (.iload 4) 2 382 := ⟨by decide +kernel, rfl⟩
theorem d_L_law_382 : zDc M_L_law 382 (.iconst 2) 1 383 := ⟨by decide +kernel, rfl⟩
theorem d_L_law_383 : zDc M_L_law 383 (.iadd) 1 384 := ⟨by decide +kernel, rfl⟩
theorem d_L_law_384 : zDc M_L_law 384 (.iaload) 1 385 := ⟨by decide +kernel, rfl⟩
theorem d_L_law_385 : zDc M_L_law 385 (.aload_n 3) 1 386 := ⟨by decide +kernel, rfl⟩
theorem d_L_law_386 : zDc M_L_law 386 (.invokestatic 39) 3 389 := ⟨by decide +kernel, rfl⟩
theorem d_L_law_389 : zDc M_L_law 389 (.istore 5) 2 391 := ⟨by decide +kernel, rfl⟩
theorem d_L_law_391 : zDc M_L_law 391 (.aload_n 2) 1 392 := ⟨by decide +kernel, rfl⟩
theorem d_L_law_392 : zDc M_L_law 392 (.aload_n 0) 1 393 := ⟨by decide +kernel, rfl⟩
theorem d_L_law_393 : zDc M_L_law 393 (.iload 4) 2 395 := ⟨by decide +kernel, rfl⟩
theorem d_L_law_395 : zDc M_L_law 395 (.iconst 1) 1 396 := ⟨by decide +kernel, rfl⟩
theorem d_L_law_396 : zDc M_L_law 396 (.iadd) 1 397 := ⟨by decide +kernel, rfl⟩
theorem d_L_law_397 : zDc M_L_law 397 (.iaload) 1 398 := ⟨by decide +kernel, rfl⟩
theorem d_L_law_398 : zDc M_L_law 398 (.aload_n 0) 1 399 := ⟨by decide +kernel, rfl⟩
theorem d_L_law_399 : zDc M_L_law 399 (.iload 4) 2 401 := ⟨by decide +kernel, rfl⟩
theorem d_L_law_401 : zDc M_L_law 401 (.iconst 2) 1 402 := ⟨by decide +kernel, rfl⟩
theorem d_L_law_402 : zDc M_L_law 402 (.iadd) 1 403 := ⟨by decide +kernel, rfl⟩
theorem d_L_law_403 : zDc M_L_law 403 (.iaload) 1 404 := ⟨by decide +kernel, rfl⟩
theorem d_L_law_404 : zDc M_L_law 404 (.invokevirtual 44) 3 407 := ⟨by decide +kernel, rfl⟩
theorem d_L_law_407 : zDc M_L_law 407 (.istore 6) 2 409 := ⟨by decide +kernel, rfl⟩
theorem d_L_law_409 : zDc M_L_law 409 (.aload_n 2) 1 410 := ⟨by decide +kernel, rfl⟩
theorem d_L_law_410 : zDc M_L_law 410 (.invokevirtual 45) 3 413 := ⟨by decide +kernel, rfl⟩
theorem d_L_law_413 : zDc M_L_law 413 (.iload 5) 2 415 := ⟨by decide +kernel, rfl⟩
theorem d_L_law_418 : zDc M_L_law 418 (.iconst 0) 1 419 := ⟨by decide +kernel, rfl⟩
theorem d_L_law_419 : zDc M_L_law 419 (.ireturn) 1 420 := ⟨by decide +kernel, rfl⟩
theorem d_L_law_420 : zDc M_L_law 420 (.iload 5) 2 422 := ⟨by decide +kernel, rfl⟩
theorem d_L_law_425 : zDc M_L_law 425 (.aload_n 3) 1 426 := ⟨by decide +kernel, rfl⟩
theorem d_L_law_426 : zDc M_L_law 426 (.iconst 0) 1 427 := ⟨by decide +kernel, rfl⟩
theorem d_L_law_427 : zDc M_L_law 427 (.laload) 1 428 := ⟨by decide +kernel, rfl⟩
theorem d_L_law_428 : zDc M_L_law 428 (.iload 6) 2 430 := ⟨by decide +kernel, rfl⟩
theorem d_L_law_430 : zDc M_L_law 430 (.i2l) 1 431 := ⟨by decide +kernel, rfl⟩
theorem d_L_law_431 : zDc M_L_law 431 (.lcmp) 1 432 := ⟨by decide +kernel, rfl⟩
theorem d_L_law_435 : zDc M_L_law 435 (.iconst 0) 1 436 := ⟨by decide +kernel, rfl⟩
theorem d_L_law_436 : zDc M_L_law 436 (.ireturn) 1 437 := ⟨by decide +kernel, rfl⟩
theorem d_L_law_415 : zDj M_L_law 415 (.if_icmp .eq 5) 5 418 420 := ⟨by decide +kernel, rfl, by decide⟩
theorem d_L_law_422 : zDj M_L_law 422 (.ifCond .ne 15) 15 425 437 := ⟨by decide +kernel, rfl, by decide⟩
theorem d_L_law_432 : zDj M_L_law 432 (.ifCond .eq 5) 5 435 437 := ⟨by decide +kernel, rfl, by decide⟩
theorem d_L_law_437 : zDj M_L_law 437 (.goto 1158) 1158 440 1595 := ⟨by decide +kernel, rfl, by decide⟩
theorem ml_L_39 : Cond.methodLink RL 39 yL_cloud ∈ zT := zw_m (by decide +kernel) (by decide +kernel)
theorem st_L_cloud : Cond.static yL_cloud ∈ zT := zw_m (by decide +kernel) (by decide +kernel)
theorem ni_L : Cond.initialized RL ∈ zT := zw_m (by decide +kernel) (by decide +kernel)
theorem cd_L_cloud : Cond.codeWith yL_cloud cL_cloud 5 (some .int) [(0, 10, 13, 13), (0, 10, 17, 15)] ∈ zT := zw_m (by decide +kernel) (by decide +kernel)
theorem cd_X8_cloud : Cond.code yX8_cloud cX8_cloud 3 (some .int) ∈ zT := zw_m (by decide +kernel) (by decide +kernel)
theorem cw_L_44 : zCw RL 44 yX8_cloud cX8_cloud 3 (some .int) 2 := ⟨zw_m (by decide +kernel) (by decide +kernel), ni_X8, cd_X8_cloud, by decide, by decide, by decide +kernel⟩
theorem wi_X8_cloud : Cond.instanceMethod yX8_cloud ∈ zT := zw_m (by decide +kernel) (by decide +kernel)
theorem ws_X8_cloud : Cond.selects RX8 yX8_cloud yX8_cloud ∈ zT := zw_m (by decide +kernel) (by decide +kernel)
theorem cd_X8_thrown : Cond.code yX8_thrown cX8_thrown 1 (some .int) ∈ zT := zw_m (by decide +kernel) (by decide +kernel)
theorem cw_L_45 : zCw RL 45 yX8_thrown cX8_thrown 1 (some .int) 0 := ⟨zw_m (by decide +kernel) (by decide +kernel), ni_X8, cd_X8_thrown, by decide, by decide, by decide +kernel⟩
theorem wi_X8_thrown : Cond.instanceMethod yX8_thrown ∈ zT := zw_m (by decide +kernel) (by decide +kernel)
theorem ws_X8_thrown : Cond.selects RX8 yX8_thrown yX8_thrown ∈ zT := zw_m (by decide +kernel) (by decide +kernel)
def zXl (X : zCx) : Prop := match X with
  | (_, l, _, _, s, _, _, _, _, _, g, _) => l.stackTraces = false ∧ zXt g.2.2.1 s
theorem gd_L_39 : GoodIn zT (va_wsS RL 39 yL_cloud (.codeWith yL_cloud cL_cloud 5 (some .int) [(0, 10, 13, 13), (0, 10, 17, 15)] :: zT)) := by
  intro w hw
  refine zT_good w ?_
  rcases List.mem_append.mp hw with z | z
  · simp only [List.mem_cons, List.not_mem_nil, or_false] at z
    rcases z with rfl | rfl | rfl
    · exact ml_L_39
    · exact st_L_cloud
    · exact ni_L
  · rcases List.mem_cons.mp z with rfl | z
    · exact cd_L_cloud
    · exact z
theorem zs_L_386 {X : zCx} {c1 c2 x o : Nat} {a b k : Int32} {h h1 : zHp} {lv : List (Nat × Value)} {fs : List Value} (hXl : zXl X) (hc : c1 ≤ 600000 ∧ c2 ≤ 7200000) (ex : h.1 x = some (.inr (7, fs))) (hw : zLw x o a b h k h1)
    (kk : ∀ n', zSW X M_L_law (c1 + 1, c2 + 6) 389 lv [.int k] (h1.1, n')) : zSW X M_L_law (c1, c2) 386 lv [.ref o, .int b, .int a, .ref x] h := by
  obtain ⟨p, l, e, R, s, m, args, below, meth, cd, g, Qc⟩ := X
  intro hok ls H locs hv hR hS
  obtain ⟨hx, hbc, hml, hown, hts, hE, hlk, hret, hnm, hRf, hRl, hRc, hRs⟩ := id hok
  intro T hT Xs
  have hr := vx_runSW (e := e) (below := below) (meth := meth) (locs := locs) (As := [.ref x, .int a, .int b, .ref o]) (rest := []) (Ts := zT) (g := F0 m 386 ls [.ref o, .int b, .int a, .ref x]) ⟨hx, hbc, hml, hown, hts⟩ (x_L_cloud l hXl.1 g ex hw) (vx_cwSW 4 hts gd_L_39 rfl rfl rfl ⟨by decide, by decide, by decide +kernel⟩ ⟨by rw [hRf]; decide, by rw [hRl]; decide⟩) (zPreX hE hXl.2 hR hS) rfl rfl hv.1 rfl (Nat.le_of_ble_eq_true rfl) d_L_law_386.1 (cells := c1) (slots := c2) ⟨by rw [hRc]; show c1 + 1 ≤ 601024; omega, by rw [hRs]; show c2 + 6 ≤ 7293034; omega⟩
  obtain ⟨v, st₀, t, T', L, h0, X', hL, e1, e2, ⟨hv', ⟨n', hR1⟩, hF⟩, stp⟩ := hr T hT Xs
  cases hv'
  obtain ⟨t2, a1, b1⟩ := kk n' hok ls T'.heap (locs ++ L) hv (by rw [e1]; exact hR1) (vx_keep h0 e1 hS (fun _ _ z => z) (fun _ z => z) hL hF).2.2 T' rfl X'
  exact ⟨t2, stp t2 a1, b1⟩
def f_L_4 (L : Nat) (xs : Nat → Int32) (y o : Nat) (i k : Int32) (h0 : zHp) : Option ((Unit ⊕ Int32) × zHp) :=
  zob (zsc L xs (i + 1)) (fun v1 => zob (zsc L xs (i + 2)) (fun v2 =>
  zbd (zcv 8 y h0 (f_X8_cloud y v1 v2 h0)) (fun v4 h3 =>
  zbd (zcv 8 y h3 (f_X8_thrown y h3)) (fun v6 h5 =>
  if v6 = k then
  if k = 0 then
  zob (zaL h5 o 0) (fun v7 => if lg_cmp v7 v4.toInt64 = 0 then some ((.inl ()), h5) else some ((.inr 0), h5))
  else some ((.inl ()), h5)
  else some ((.inr 0), h5)))))
set_option maxRecDepth 100000 in
set_option maxHeartbeats 4000000 in
theorem t_L_4 {X : zCx} {b L : Nat} {xs : Nat → Int32} {c1 c2 : Nat} (hX : zScr X b L xs) (hc : c1 ≤ 600000 ∧ c2 ≤ 7200000) (x y o : Nat) (i k : Int32) (h0 : zHp) : zG X M_L_law (c1, c2) 389 [(0, .ref b), (1, .ref x), (2, .ref y), (3, .ref o), (4, .int i)] [.int k] h0 (f_L_4 L xs y o i k h0) (fun r h' => zsl r (fun _ => zSW X M_L_law (c1, c2) 1595 [(0, .ref b), (1, .ref x), (2, .ref y), (3, .ref o), (4, .int i)] [] h') (fun v => zKe X (some (.int v)) h')) := by
  unfold f_L_4
  refine zg_istore [(5, .int k), (0, .ref b), (1, .ref x), (2, .ref y), (3, .ref o), (4, .int i)] d_L_law_389 (by decide) rfl ?_
  refine zg_aload_n 3 rfl d_L_law_391 ?_
  refine zg_aload_n 1 rfl d_L_law_392 ?_
  refine zg_iload 5 rfl d_L_law_393 ?_
  refine zg_iconst 1 rfl d_L_law_395 ?_
  refine zg_iadd d_L_law_396 ?_
  refine zg_sld hX d_L_law_397 (fun v1 => ?_)
  refine zg_aload_n 1 rfl d_L_law_398 ?_
  refine zg_iload 5 rfl d_L_law_399 ?_
  refine zg_iconst 2 rfl d_L_law_401 ?_
  refine zg_iadd d_L_law_402 ?_
  refine zg_sld hX d_L_law_403 (fun v2 => ?_)
  refine zg_cVi (b := y) (As := [.int v1, .int v2]) (rest := []) (c1, c2) d_L_law_404 zc_8 rfl cw_L_44 wi_X8_cloud ws_X8_cloud rfl rfl (Nat.le_of_ble_eq_true rfl) (by decide) (by decide) ⟨by show c1 + 0 ≤ 601024; omega, by show c2 + 0 ≤ 7293034; omega⟩ rfl (t_X8_cloud y v1 v2 h0) (fun v4 h3 => ?_)
  refine zg_istore [(6, .int v4), (5, .int k), (0, .ref b), (1, .ref x), (2, .ref y), (3, .ref o), (4, .int i)] d_L_law_407 (by decide) rfl ?_
  refine zg_aload_n 4 rfl d_L_law_409 ?_
  refine zg_cVi (b := y) (As := []) (rest := []) (c1, c2) d_L_law_410 zc_8 rfl cw_L_45 wi_X8_thrown ws_X8_thrown rfl rfl (Nat.le_of_ble_eq_true rfl) (by decide) (by decide) ⟨by show c1 + 0 ≤ 601024; omega, by show c2 + 0 ≤ 7293034; omega⟩ rfl (t_X8_thrown y h3) (fun v6 h5 => ?_)
  refine zg_iload 1 rfl d_L_law_413 ?_
  refine zg_icmp_eq d_L_law_415 ?_ ?_
  · refine zg_iload 1 rfl d_L_law_420 ?_
    refine zg_if_ne d_L_law_422 ?_ ?_
    · refine zg_aload_n 5 rfl d_L_law_425 ?_
      refine zg_iconst 0 rfl d_L_law_426 ?_
      refine zg_ald3 d_L_law_427 (fun v7 => ?_)
      refine zg_iload 0 rfl d_L_law_428 ?_
      refine zg_i2l d_L_law_430 ?_
      refine zg_lcmp d_L_law_431 ?_
      refine zg_if_eq d_L_law_432 ?_ ?_
      · refine zg_goto d_L_law_437 ?_
        exact zg_finK (E := 0) [2, 3, 4, 5, 6] rfl rfl (fun q => q)
      · refine zg_iconst 0 rfl d_L_law_435 ?_
        exact zg_zretK d_L_law_436 rfl ⟨by show c1 ≤ 601024; omega, by show c2 ≤ 7293034; omega⟩ (Or.inl rfl) (fun q => q)
    · refine zg_goto d_L_law_437 ?_
      exact zg_finK (E := 0) [2, 3, 4, 5, 6] rfl rfl (fun q => q)
  · refine zg_iconst 0 rfl d_L_law_418 ?_
    exact zg_zretK d_L_law_419 rfl ⟨by show c1 ≤ 601024; omega, by show c2 ≤ 7293034; omega⟩ (Or.inl rfl) (fun q => q)
/-! the same over the memory -/
def m_X7_cloud (a1 : Int32) (a2 : Int32) (M0 : zMem) : Option (Int32 × zMem) :=
  mbd (m_X7_isCloud a1 M0) (fun v2 M1 => if v2 = 0 then none else
  if a2 = 0 then zob (mrd M1 43 a1) (fun v5 => some (v5, M1)) else
  if a2 = 1 then zob (mrd M1 44 a1) (fun v5 => some (v5, M1)) else
  if a2 = 2 then zob (mrd M1 45 a1) (fun v5 => some (v5, M1)) else
  if a2 = 3 then zob (mrd M1 46 a1) (fun v5 => some (v5, M1)) else
  if a2 = 4 then zob (mrd M1 47 a1) (fun v5 => some (v5, M1)) else
  if a2 = 5 then zob (mrd M1 48 a1) (fun v5 => some (v5, M1)) else
  none)
theorem r_X7_cloud {B n : Nat} {h0 : zHp} {M0 : zMem} (w0 : zW B n h0 M0) (a1 : Int32) (a2 : Int32) : zRR B n (f_X7_cloud (B + 0) a1 a2 h0) (m_X7_cloud a1 a2 M0) := by
  unfold f_X7_cloud m_X7_cloud
  refine zr_cv w0 zio_7 (r_X7_isCloud w0 a1) (fun v2 h1 M1 w1 => ?_)
  refine zr_if zr_none ?_
  refine zr_if ?_ ?_
  · refine zr_gR w1 zio_7 rfl ?_
    refine zr_gR (k := 42) w1 ⟨by decide +kernel, by decide +kernel, by decide +kernel⟩ rfl ?_
    refine zr_a0 (k := 43) (N := 8) w1 ⟨by decide +kernel, by decide +kernel⟩ (fun v5 => ?_)
    exact zr_ok w1
  refine zr_if ?_ ?_
  · refine zr_gR w1 zio_7 rfl ?_
    refine zr_gR (k := 42) w1 ⟨by decide +kernel, by decide +kernel, by decide +kernel⟩ rfl ?_
    refine zr_a0 (k := 44) (N := 8) w1 ⟨by decide +kernel, by decide +kernel⟩ (fun v5 => ?_)
    exact zr_ok w1
  refine zr_if ?_ ?_
  · refine zr_gR w1 zio_7 rfl ?_
    refine zr_gR (k := 42) w1 ⟨by decide +kernel, by decide +kernel, by decide +kernel⟩ rfl ?_
    refine zr_a0 (k := 45) (N := 8) w1 ⟨by decide +kernel, by decide +kernel⟩ (fun v5 => ?_)
    exact zr_ok w1
  refine zr_if ?_ ?_
  · refine zr_gR w1 zio_7 rfl ?_
    refine zr_gR (k := 42) w1 ⟨by decide +kernel, by decide +kernel, by decide +kernel⟩ rfl ?_
    refine zr_a0 (k := 46) (N := 8) w1 ⟨by decide +kernel, by decide +kernel⟩ (fun v5 => ?_)
    exact zr_ok w1
  refine zr_if ?_ ?_
  · refine zr_gR w1 zio_7 rfl ?_
    refine zr_gR (k := 42) w1 ⟨by decide +kernel, by decide +kernel, by decide +kernel⟩ rfl ?_
    refine zr_a0 (k := 47) (N := 8) w1 ⟨by decide +kernel, by decide +kernel⟩ (fun v5 => ?_)
    exact zr_ok w1
  refine zr_if ?_ ?_
  · refine zr_gR w1 zio_7 rfl ?_
    refine zr_gR (k := 42) w1 ⟨by decide +kernel, by decide +kernel, by decide +kernel⟩ rfl ?_
    refine zr_a0 (k := 48) (N := 8) w1 ⟨by decide +kernel, by decide +kernel⟩ (fun v5 => ?_)
    exact zr_ok w1
  exact zr_none
def f_Lc (x o : Nat) (a b : Int32) (h : zHp) : Option (Int32 × zHp) := zbd (f_X7_cloud x a b h) (fun v h2 => zob (zsL h2 o 0 v.toInt64) (fun h3 => some (v, h3)))
def m_Lc (a b : Int32) (M : zMem) : Option (Int32 × zMem) := mbd (m_X7_cloud a b M) (fun v M2 => zob (mwrL M2 254 0 v.toInt64) (fun M3 => some (v, M3)))
theorem r_Lc {B n : Nat} {h0 : zHp} {M0 : zMem} (w0 : zW B n h0 M0) (a b : Int32) : zRR B n (f_Lc (B + 0) (B + 254) a b h0) (m_Lc a b M0) := by
  unfold f_Lc m_Lc
  refine zr_bd (r_X7_cloud w0 a b) (fun v h2 M2 w2 => ?_)
  exact zr_sL (N := 1) w2 ⟨by decide +kernel, by decide +kernel⟩ (fun h3 M3 w3 => zr_ok w3)
def m_L_4 (L : Nat) (xs : Nat → Int32) (i k : Int32) (M0 : zMem) : Option ((Unit ⊕ Int32) × zMem) :=
  zob (zsc L xs (i + 1)) (fun v1 => zob (zsc L xs (i + 2)) (fun v2 =>
  mbd (m_X8_cloud v1 v2 M0) (fun v4 M3 =>
  mbd (m_X8_thrown M3) (fun v6 M5 =>
  if v6 = k then
  if k = 0 then
  zob (mrdL M5 254 0) (fun v7 => if lg_cmp v7 v4.toInt64 = 0 then some ((.inl ()), M5) else some ((.inr 0), M5))
  else some ((.inl ()), M5)
  else some ((.inr 0), M5)))))
theorem r_L_4 {B n : Nat} {h0 : zHp} {M0 : zMem} (w0 : zW B n h0 M0) (L : Nat) (xs : Nat → Int32) (i k : Int32) : zRR B n (f_L_4 L xs (B + 213) (B + 254) i k h0) (m_L_4 L xs i k M0) := by
  unfold f_L_4 m_L_4
  refine zr_obp (fun v1 => ?_)
  refine zr_obp (fun v2 => ?_)
  refine zr_cv w0 zio_8 (r_X8_cloud w0 v1 v2) (fun v4 h3 M3 w3 => ?_)
  refine zr_cv w3 zio_8 (r_X8_thrown w3) (fun v6 h5 M5 w5 => ?_)
  refine zr_if ?_ ?_
  · refine zr_if ?_ ?_
    · refine zr_a3 (N := 1) w5 ⟨by decide +kernel, by decide +kernel⟩ (fun v7 => ?_)
      exact zr_if (zr_ok w5) (zr_ok w5)
    · exact zr_ok w5
  · exact zr_ok w5

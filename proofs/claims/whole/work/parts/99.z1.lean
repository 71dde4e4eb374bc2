/-! the loop of the law, as the machine runs it -/
theorem d_L_law_23 : zDc M_L_law 23 (.iload 4) 2 25 := ⟨by decide +kernel, rfl⟩
theorem d_L_law_25 : zDc M_L_law 25 (.aload_n 0) 1 26 := ⟨by decide +kernel, rfl⟩
theorem d_L_law_26 : zDc M_L_law 26 (.arraylength) 1 27 := ⟨by decide +kernel, rfl⟩
theorem d_L_law_27 : zDc M_L_law 27 (.bipush 6) 2 29 := ⟨by decide +kernel, rfl⟩
theorem d_L_law_29 : zDc M_L_law 29 (.isub) 1 30 := ⟨by decide +kernel, rfl⟩
theorem d_L_law_33 : zDc M_L_law 33 (.aload_n 0) 1 34 := ⟨by decide +kernel, rfl⟩
theorem d_L_law_34 : zDc M_L_law 34 (.iload 4) 2 36 := ⟨by decide +kernel, rfl⟩
theorem d_L_law_36 : zDc M_L_law 36 (.iaload) 1 37 := ⟨by decide +kernel, rfl⟩
theorem d_L_law_37 : zDc M_L_law 37 (.bipush 63) 2 39 := ⟨by decide +kernel, rfl⟩
theorem d_L_law_39 : zDc M_L_law 39 (.iand) 1 40 := ⟨by decide +kernel, rfl⟩
theorem d_L_law_1595 : zDc M_L_law 1595 (.iinc 4 6) 3 1598 := ⟨by decide +kernel, rfl⟩
theorem d_L_law_1601 : zDc M_L_law 1601 (.iconst 1) 1 1602 := ⟨by decide +kernel, rfl⟩
theorem d_L_law_1602 : zDc M_L_law 1602 (.ireturn) 1 1603 := ⟨by decide +kernel, rfl⟩
theorem d_L_law_30 : zDj M_L_law 30 (.if_icmp .gt 1571) 1571 33 1601 := ⟨by decide +kernel, rfl, rfl⟩
theorem d_L_law_1598 : zDj M_L_law 1598 (.goto (-1575)) (-1575) 1601 23 := ⟨by decide +kernel, rfl, rfl⟩
theorem d_L_law_40 : decode M_L_law.2.1 40 = .ok (.tableswitch 1555 0 38 #[172, 245, 270, 295, 332, 400, 437, 474, 511, 536, 573, 611, 648, 685, 734, 759, 784, 821, 834, 883, 896, 921, 946, 959, 984, 1033, 1082, 1143, 1180, 1229, 1306, 1331, 1356, 1381, 1442, 1491, 1504, 1517, 1530], 172) := by decide +kernel
theorem zg_slen {α : Type} {X : zCx} {M : zMt} {cs : Nat × Nat} {pc pc' : Nat} {lv : List (Nat × Value)} {st : List Value} {h : zHp} {c : Option (α × zHp)} {K : α → zHp → Prop} {b L : Nat} {xs : Nat → Int32} (hX : zScr X b L xs) (hd : zDc M pc .arraylength 1 pc') (k : zG X M cs pc' lv (.int (Int32.ofNat L) :: st) h c K) : zG X M cs pc lv (.ref b :: st) h c K := by
  obtain ⟨hd, rfl⟩ := hd
  obtain ⟨p, l, e, R, s, m, args, below, meth, cd, g, Qc⟩ := X
  intro a h' hc hK hok ls H locs hv hR hS
  obtain ⟨hx, hbc, hml, hown, hts, hE, -⟩ := id hok
  exact va_slen hx hbc hX.1 hX.2.1 (Nat.not_le.mpr hX.2.2) hS hd (k a h' hc hK hok ls H locs hv hR hS)
abbrev zll (b B : Nat) (i : Int32) : List (Nat × Value) := [(0, .ref b), (1, .ref (B + 0)), (2, .ref (B + 213)), (3, .ref (B + 254)), (4, .int i)]
theorem zs_case {X : zCx} {B n c1 c2 pc b : Nat} {i : Int32} {st : List Value} {h : zHp} {cf : Option ((Unit ⊕ Int32) × zHp)} {cm : Option ((Unit ⊕ Int32) × zMem)} (r : zRR B n cf cm) (cc : yCase yWf cm) (g : zG X M_L_law (c1, c2) pc (zll b B i) st h cf (fun r h' => zsl r (fun _ => zSW X M_L_law (c1, c2) 1595 (zll b B i) [] h') (fun v => zKe X (some (.int v)) h')))
    (kk : ∀ h' M', zW B n h' M' → (∃ t T S, yI yWf M' t T S) → zSW X M_L_law (c1, c2) 1595 (zll b B i) [] h') : zSW X M_L_law (c1, c2) pc (zll b B i) st h := by
  obtain ⟨r', M', e, rfl, yy⟩ := cc
  obtain ⟨r2, h', e2, e3, w2⟩ := r _ _ e
  subst e3
  exact g _ _ e2 (kk h' M' w2 yy)
theorem zLw_of {B n : Nat} {h : zHp} {M M1 : zMem} {a b k : Int32} (w : zW B n h M) (y : yLw a b M k M1) : ∃ h1, zLw (B + 0) (B + 254) a b h k h1 ∧ zW B n h1 M1 := by
  rcases y with ⟨v, e, rfl⟩ | ⟨e, rfl⟩ | ⟨e, hb, rfl⟩
  · obtain ⟨r, h1, e2, rfl, w1⟩ := r_Lc w a b _ _ e
    refine ⟨h1, Or.inl ?_, w1⟩
    unfold f_Lc at e2
    cases hq : f_X7_cloud (B + 0) a b h with
    | none => rw [hq] at e2; cases e2
    | some q =>
      obtain ⟨v2, h2⟩ := q
      rw [hq] at e2
      change zob (zsL h2 (B + 254) 0 v2.toInt64) (fun h3 => some (v2, h3)) = some (r, h1) at e2
      cases hz : zsL h2 (B + 254) 0 v2.toInt64 with
      | none => rw [hz] at e2; cases e2
      | some h3 =>
        rw [hz] at e2
        cases e2
        exact ⟨_, h2, rfl, hz, rfl⟩
  · obtain ⟨r, h1, e2, rfl, w1⟩ := r_X7_isCloud w a _ _ e
    exact ⟨h1, Or.inr (Or.inl ⟨_, e2, rfl, rfl⟩), w1⟩
  · obtain ⟨r, h1, e2, rfl, w1⟩ := r_X7_isCloud w a _ _ e
    exact ⟨h1, Or.inr (Or.inr ⟨_, e2, by decide, hb, rfl⟩), w1⟩
section
variable {X : zCx} {B n c1 c2 b L t : Nat} {i v w0 w1 w2 w3 w4 w5 : Int32} {xs : Nat → Int32} {h : zHp} {M : zMem} {T : yT} {S : yA}
def zKK (X : zCx) (B c1 c2 b : Nat) (i : Int32) : Prop := ∀ c1' c2' n' h' M', c1' ≤ c1 + 1 → c2' ≤ c2 + 6 → zW B n' h' M' → (∃ t T S, yI yWf M' t T S) → zSW X M_L_law (c1', c2') 1595 (zll b B i) [] h'
theorem zs_c4 (hX : zScr X b L xs) (hXl : zXl X) (hc : c1 ≤ 500000 ∧ c2 ≤ 7100000) (w : zW B n h M) (y : yI yWf M t T S) (e1 : zsc L xs (i + 1) = some w1) (e2 : zsc L xs (i + 2) = some w2) (kk : zKK X B c1 c2 b i) : zSW X M_L_law (c1, c2) 372 (zll b B i) [] h := by
  refine (?_ : zG X M_L_law (c1, c2) 372 (zll b B i) [] h (zob (zsc L xs (i + 1)) (fun v1 => zob (zsc L xs (i + 2)) (fun v2 => some ((v1, v2), h)))) (fun q h' => zSW X M_L_law (c1, c2) 386 (zll b B i) [.ref (B + 254), .int q.2, .int q.1, .ref (B + 0)] h')) (w1, w2) h (by rw [e1, zob_some, e2, zob_some]) ?_
  · refine zg_aload_n 1 rfl d_L_law_372 ?_
    refine zg_aload_n 0 rfl d_L_law_373 ?_
    refine zg_iload 4 rfl d_L_law_374 ?_
    refine zg_iconst 1 rfl d_L_law_376 ?_
    refine zg_iadd d_L_law_377 ?_
    refine zg_sld hX d_L_law_378 (fun v1 => ?_)
    refine zg_aload_n 0 rfl d_L_law_379 ?_
    refine zg_iload 4 rfl d_L_law_380 ?_
    refine zg_iconst 2 rfl d_L_law_382 ?_
    refine zg_iadd d_L_law_383 ?_
    refine zg_sld hX d_L_law_384 (fun v2 => ?_)
    refine zg_aload_n 3 rfl d_L_law_385 ?_
    exact zg_fin (fun q => q)
  · obtain ⟨k, M1, yl, cc⟩ := cs_4 y e1 e2
    obtain ⟨h1, zl, wn⟩ := zLw_of w yl
    refine zs_L_386 hXl ⟨by omega, by omega⟩ ((w.1 0 (by decide)).trans (congrArg some (zcd_o zio_7 B M))) zl (fun n' => ?_)
    have wn' : zW B n' (h1.1, n') M1 := ⟨wn.1, rfl⟩
    exact zs_case (r_L_4 wn' L xs i k) cc (t_L_4 hX ⟨by omega, by omega⟩ (B + 0) (B + 213) (B + 254) i k (h1.1, n')) (fun h' M' w' y' => kk _ _ n' h' M' (Nat.le_refl _) (Nat.le_refl _) w' y')
set_option maxRecDepth 100000 in
set_option maxHeartbeats 4000000 in
theorem zs_sw (hX : zScr X b L xs) (hXl : zXl X) (hc : c1 ≤ 500000 ∧ c2 ≤ 7100000) (w : zW B n h M) (y : yI yWf M t T S) (e1 : zsc L xs (i + 1) = some w1) (e2 : zsc L xs (i + 2) = some w2) (e3 : zsc L xs (i + 3) = some w3) (e4 : zsc L xs (i + 4) = some w4) (e5 : zsc L xs (i + 5) = some w5) (kk : zKK X B c1 c2 b i) : zSW X M_L_law (c1, c2) 40 (zll b B i) [.int v] h := by
  have kn : ∀ h' M', zW B n h' M' → (∃ t T S, yI yWf M' t T S) → zSW X M_L_law (c1, c2) 1595 (zll b B i) [] h' := fun h' M' w' y' => kk c1 c2 n h' M' (by omega) (by omega) w' y'
  by_cases n0 : v = 0
  · refine zs_of (zg_tabE n0 d_L_law_40 (by decide) (by decide) (off := 172) rfl (tgt := 212) (by decide) (zs_fin ?_))
    exact zs_case (r_L_0 w L xs i) (cs_0 y e1 e2 e3 e4 e5) (t_L_0 hX ⟨by omega, by omega⟩ (B + 0) (B + 213) (B + 254) i h) kn
  by_cases n1 : v = 1
  · refine zs_of (zg_tabE n1 d_L_law_40 (by decide) (by decide) (off := 245) rfl (tgt := 285) (by decide) (zs_fin ?_))
    exact zs_case (r_L_1 w L xs i) (cs_1 y e1) (t_L_1 hX ⟨by omega, by omega⟩ (B + 0) (B + 213) (B + 254) i h) kn
  by_cases n2 : v = 2
  · refine zs_of (zg_tabE n2 d_L_law_40 (by decide) (by decide) (off := 270) rfl (tgt := 310) (by decide) (zs_fin ?_))
    exact zs_case (r_L_2 w L xs i) (cs_2 y e1) (t_L_2 hX ⟨by omega, by omega⟩ (B + 0) (B + 213) (B + 254) i h) kn
  by_cases n3 : v = 3
  · refine zs_of (zg_tabE n3 d_L_law_40 (by decide) (by decide) (off := 295) rfl (tgt := 335) (by decide) (zs_fin ?_))
    exact zs_case (r_L_3 w L xs i) (cs_3 y e1 e2) (t_L_3 hX ⟨by omega, by omega⟩ (B + 0) (B + 213) (B + 254) i h) kn
  by_cases n4 : v = 4
  · refine zs_of (zg_tabE n4 d_L_law_40 (by decide) (by decide) (off := 332) rfl (tgt := 372) (by decide) (zs_fin ?_))
    exact zs_c4 hX hXl hc w y e1 e2 kk
  by_cases n5 : v = 5
  · refine zs_of (zg_tabE n5 d_L_law_40 (by decide) (by decide) (off := 400) rfl (tgt := 440) (by decide) (zs_fin ?_))
    exact zs_case (r_L_5 w L xs i) (cs_5 y e1 e2) (t_L_5 hX ⟨by omega, by omega⟩ (B + 0) (B + 213) (B + 254) i h) kn
  by_cases n6 : v = 6
  · refine zs_of (zg_tabE n6 d_L_law_40 (by decide) (by decide) (off := 437) rfl (tgt := 477) (by decide) (zs_fin ?_))
    exact zs_case (r_L_6 w L xs i) (cs_6 y e1 e2) (t_L_6 hX ⟨by omega, by omega⟩ (B + 0) (B + 213) (B + 254) i h) kn
  by_cases n7 : v = 7
  · refine zs_of (zg_tabE n7 d_L_law_40 (by decide) (by decide) (off := 474) rfl (tgt := 514) (by decide) (zs_fin ?_))
    exact zs_case (r_L_7 w L xs i) (cs_7 y e1 e2) (t_L_7 hX ⟨by omega, by omega⟩ (B + 0) (B + 213) (B + 254) i h) kn
  by_cases n8 : v = 8
  · refine zs_of (zg_tabE n8 d_L_law_40 (by decide) (by decide) (off := 511) rfl (tgt := 551) (by decide) (zs_fin ?_))
    exact zs_case (r_L_8 w L xs i) (cs_8 y e1) (t_L_8 hX ⟨by omega, by omega⟩ (B + 0) (B + 213) (B + 254) i h) kn
  by_cases n9 : v = 9
  · refine zs_of (zg_tabE n9 d_L_law_40 (by decide) (by decide) (off := 536) rfl (tgt := 576) (by decide) (zs_fin ?_))
    exact zs_case (r_L_9 w L xs i) (cs_9 y e1 e2) (t_L_9 hX ⟨by omega, by omega⟩ (B + 0) (B + 213) (B + 254) i h) kn
  by_cases n10 : v = 10
  · refine zs_of (zg_tabE n10 d_L_law_40 (by decide) (by decide) (off := 573) rfl (tgt := 613) (by decide) (zs_fin ?_))
    exact zs_case (r_L_10 w L xs i) (cs_10 y e1 e2) (t_L_10 hX ⟨by omega, by omega⟩ (B + 0) (B + 213) (B + 254) i h) kn
  by_cases n11 : v = 11
  · refine zs_of (zg_tabE n11 d_L_law_40 (by decide) (by decide) (off := 611) rfl (tgt := 651) (by decide) (zs_fin ?_))
    exact zs_case (r_L_11 w L xs i) (cs_11 y e1 e2) (t_L_11 hX ⟨by omega, by omega⟩ (B + 0) (B + 213) (B + 254) i h) kn
  by_cases n12 : v = 12
  · refine zs_of (zg_tabE n12 d_L_law_40 (by decide) (by decide) (off := 648) rfl (tgt := 688) (by decide) (zs_fin ?_))
    exact zs_case (r_L_12 w L xs i) (cs_12 y e1 e2) (t_L_12 hX ⟨by omega, by omega⟩ (B + 0) (B + 213) (B + 254) i h) kn
  by_cases n13 : v = 13
  · refine zs_of (zg_tabE n13 d_L_law_40 (by decide) (by decide) (off := 685) rfl (tgt := 725) (by decide) (zs_fin ?_))
    exact zs_case (r_L_13 w L xs i) (cs_13 y e1 e2 e3) (t_L_13 hX ⟨by omega, by omega⟩ (B + 0) (B + 213) (B + 254) i h) kn
  by_cases n14 : v = 14
  · refine zs_of (zg_tabE n14 d_L_law_40 (by decide) (by decide) (off := 734) rfl (tgt := 774) (by decide) (zs_fin ?_))
    exact zs_case (r_L_14 w L xs i) (cs_14 y e1) (t_L_14 hX ⟨by omega, by omega⟩ (B + 0) (B + 213) (B + 254) i h) kn
  by_cases n15 : v = 15
  · refine zs_of (zg_tabE n15 d_L_law_40 (by decide) (by decide) (off := 759) rfl (tgt := 799) (by decide) (zs_fin ?_))
    exact zs_case (r_L_15 w L xs i) (cs_15 y e1) (t_L_15 hX ⟨by omega, by omega⟩ (B + 0) (B + 213) (B + 254) i h) kn
  by_cases n16 : v = 16
  · refine zs_of (zg_tabE n16 d_L_law_40 (by decide) (by decide) (off := 784) rfl (tgt := 824) (by decide) (zs_fin ?_))
    exact zs_case (r_L_16 w L xs i) (cs_16 y e1 e2) (t_L_16 hX ⟨by omega, by omega⟩ (B + 0) (B + 213) (B + 254) i h) kn
  by_cases n17 : v = 17
  · refine zs_of (zg_tabE n17 d_L_law_40 (by decide) (by decide) (off := 821) rfl (tgt := 861) (by decide) (zs_fin ?_))
    exact zs_case (r_L_17 w L xs i) (cs_17 y) (t_L_17 hX ⟨by omega, by omega⟩ (B + 0) (B + 213) (B + 254) i h) kn
  by_cases n18 : v = 18
  · refine zs_of (zg_tabE n18 d_L_law_40 (by decide) (by decide) (off := 834) rfl (tgt := 874) (by decide) (zs_fin ?_))
    exact zs_case (r_L_18 w L xs i) (cs_18 y e1 e2 e3) (t_L_18 hX ⟨by omega, by omega⟩ (B + 0) (B + 213) (B + 254) i h) kn
  by_cases n19 : v = 19
  · refine zs_of (zg_tabE n19 d_L_law_40 (by decide) (by decide) (off := 883) rfl (tgt := 923) (by decide) (zs_fin ?_))
    exact zs_case (r_L_19 w L xs i) (cs_19 y) (t_L_19 hX ⟨by omega, by omega⟩ (B + 0) (B + 213) (B + 254) i h) kn
  by_cases n20 : v = 20
  · refine zs_of (zg_tabE n20 d_L_law_40 (by decide) (by decide) (off := 896) rfl (tgt := 936) (by decide) (zs_fin ?_))
    exact zs_case (r_L_20 w L xs i) (cs_20 y e1) (t_L_20 hX ⟨by omega, by omega⟩ (B + 0) (B + 213) (B + 254) i h) kn
  by_cases n21 : v = 21
  · refine zs_of (zg_tabE n21 d_L_law_40 (by decide) (by decide) (off := 921) rfl (tgt := 961) (by decide) (zs_fin ?_))
    exact zs_case (r_L_21 w L xs i) (cs_21 y e1) (t_L_21 hX ⟨by omega, by omega⟩ (B + 0) (B + 213) (B + 254) i h) kn
  by_cases n22 : v = 22
  · refine zs_of (zg_tabE n22 d_L_law_40 (by decide) (by decide) (off := 946) rfl (tgt := 986) (by decide) (zs_fin ?_))
    exact zs_case (r_L_22 w L xs i) (cs_22 y) (t_L_22 hX ⟨by omega, by omega⟩ (B + 0) (B + 213) (B + 254) i h) kn
  by_cases n23 : v = 23
  · refine zs_of (zg_tabE n23 d_L_law_40 (by decide) (by decide) (off := 959) rfl (tgt := 999) (by decide) (zs_fin ?_))
    exact zs_case (r_L_23 w L xs i) (cs_23 y e1) (t_L_23 hX ⟨by omega, by omega⟩ (B + 0) (B + 213) (B + 254) i h) kn
  by_cases n24 : v = 24
  · refine zs_of (zg_tabE n24 d_L_law_40 (by decide) (by decide) (off := 984) rfl (tgt := 1024) (by decide) (zs_fin ?_))
    exact zs_case (r_L_24 w L xs i) (cs_24 y e1 e2 e3) (t_L_24 hX ⟨by omega, by omega⟩ (B + 0) (B + 213) (B + 254) i h) kn
  by_cases n25 : v = 25
  · refine zs_of (zg_tabE n25 d_L_law_40 (by decide) (by decide) (off := 1033) rfl (tgt := 1073) (by decide) (zs_fin ?_))
    exact zs_case (r_L_25 w L xs i) (cs_25 y e1 e2 e3) (t_L_25 hX ⟨by omega, by omega⟩ (B + 0) (B + 213) (B + 254) i h) kn
  by_cases n26 : v = 26
  · refine zs_of (zg_tabE n26 d_L_law_40 (by decide) (by decide) (off := 1082) rfl (tgt := 1122) (by decide) (zs_fin ?_))
    exact zs_case (r_L_26 w L xs i) (cs_26 y e1 e2 e3 e4) (t_L_26 hX ⟨by omega, by omega⟩ (B + 0) (B + 213) (B + 254) i h) kn
  by_cases n27 : v = 27
  · refine zs_of (zg_tabE n27 d_L_law_40 (by decide) (by decide) (off := 1143) rfl (tgt := 1183) (by decide) (zs_fin ?_))
    exact zs_case (r_L_27 w L xs i) (cs_27 y e1 e2) (t_L_27 hX ⟨by omega, by omega⟩ (B + 0) (B + 213) (B + 254) i h) kn
  by_cases n28 : v = 28
  · refine zs_of (zg_tabE n28 d_L_law_40 (by decide) (by decide) (off := 1180) rfl (tgt := 1220) (by decide) (zs_fin ?_))
    exact zs_case (r_L_28 w L xs i) (cs_28 y e1 e2 e3) (t_L_28 hX ⟨by omega, by omega⟩ (B + 0) (B + 213) (B + 254) i h) kn
  by_cases n29 : v = 29
  · refine zs_of (zg_tabE n29 d_L_law_40 (by decide) (by decide) (off := 1229) rfl (tgt := 1269) (by decide) (zs_fin ?_))
    exact zs_case (r_L_29 w L xs i) (cs_29 y e1 e2 e3 e4) (t_L_29 hX ⟨by omega, by omega⟩ (B + 0) (B + 213) (B + 254) i h) kn
  by_cases n30 : v = 30
  · refine zs_of (zg_tabE n30 d_L_law_40 (by decide) (by decide) (off := 1306) rfl (tgt := 1346) (by decide) (zs_fin ?_))
    exact zs_case (r_L_30 w L xs i) (cs_30 y e1) (t_L_30 hX ⟨by omega, by omega⟩ (B + 0) (B + 213) (B + 254) i h) kn
  by_cases n31 : v = 31
  · refine zs_of (zg_tabE n31 d_L_law_40 (by decide) (by decide) (off := 1331) rfl (tgt := 1371) (by decide) (zs_fin ?_))
    exact zs_case (r_L_31 w L xs i) (cs_31 y e1) (t_L_31 hX ⟨by omega, by omega⟩ (B + 0) (B + 213) (B + 254) i h) kn
  by_cases n32 : v = 32
  · refine zs_of (zg_tabE n32 d_L_law_40 (by decide) (by decide) (off := 1356) rfl (tgt := 1396) (by decide) (zs_fin ?_))
    exact zs_case (r_L_32 w L xs i) (cs_32 y e1) (t_L_32 hX ⟨by omega, by omega⟩ (B + 0) (B + 213) (B + 254) i h) kn
  by_cases n33 : v = 33
  · refine zs_of (zg_tabE n33 d_L_law_40 (by decide) (by decide) (off := 1381) rfl (tgt := 1421) (by decide) (zs_fin ?_))
    exact zs_case (r_L_33 w L xs i) (cs_33 y e1 e2 e3 e4) (t_L_33 hX ⟨by omega, by omega⟩ (B + 0) (B + 213) (B + 254) i h) kn
  by_cases n34 : v = 34
  · refine zs_of (zg_tabE n34 d_L_law_40 (by decide) (by decide) (off := 1442) rfl (tgt := 1482) (by decide) (zs_fin ?_))
    exact zs_case (r_L_34 w L xs i) (cs_34 y e1 e2 e3) (t_L_34 hX ⟨by omega, by omega⟩ (B + 0) (B + 213) (B + 254) i h) kn
  by_cases n35 : v = 35
  · refine zs_of (zg_tabE n35 d_L_law_40 (by decide) (by decide) (off := 1491) rfl (tgt := 1531) (by decide) (zs_fin ?_))
    exact zs_case (r_L_35 w L xs i) (cs_35 y) (t_L_35 hX ⟨by omega, by omega⟩ (B + 0) (B + 213) (B + 254) i h) kn
  by_cases n36 : v = 36
  · refine zs_of (zg_tabE n36 d_L_law_40 (by decide) (by decide) (off := 1504) rfl (tgt := 1544) (by decide) (zs_fin ?_))
    exact zs_case (r_L_36 w L xs i) (cs_36 y) (t_L_36 hX ⟨by omega, by omega⟩ (B + 0) (B + 213) (B + 254) i h) kn
  by_cases n37 : v = 37
  · refine zs_of (zg_tabE n37 d_L_law_40 (by decide) (by decide) (off := 1517) rfl (tgt := 1557) (by decide) (zs_fin ?_))
    exact zs_case (r_L_37 w L xs i) (cs_37 y) (t_L_37 hX ⟨by omega, by omega⟩ (B + 0) (B + 213) (B + 254) i h) kn
  by_cases n38 : v = 38
  · refine zs_of (zg_tabE n38 d_L_law_40 (by decide) (by decide) (off := 1530) rfl (tgt := 1570) (by decide) (zs_fin ?_))
    exact zs_case (r_L_38 w L xs i) (cs_38 y e1) (t_L_38 hX ⟨by omega, by omega⟩ (B + 0) (B + 213) (B + 254) i h) kn
  refine zs_of (zg_tabO d_L_law_40 (by have q0 := lv_neT n0 (a := 0) rfl; have q1 := lv_neT n1 (a := 1) rfl; have q2 := lv_neT n2 (a := 2) rfl; have q3 := lv_neT n3 (a := 3) rfl; have q4 := lv_neT n4 (a := 4) rfl; have q5 := lv_neT n5 (a := 5) rfl; have q6 := lv_neT n6 (a := 6) rfl; have q7 := lv_neT n7 (a := 7) rfl; have q8 := lv_neT n8 (a := 8) rfl; have q9 := lv_neT n9 (a := 9) rfl; have q10 := lv_neT n10 (a := 10) rfl; have q11 := lv_neT n11 (a := 11) rfl; have q12 := lv_neT n12 (a := 12) rfl; have q13 := lv_neT n13 (a := 13) rfl; have q14 := lv_neT n14 (a := 14) rfl; have q15 := lv_neT n15 (a := 15) rfl; have q16 := lv_neT n16 (a := 16) rfl; have q17 := lv_neT n17 (a := 17) rfl; have q18 := lv_neT n18 (a := 18) rfl; have q19 := lv_neT n19 (a := 19) rfl; have q20 := lv_neT n20 (a := 20) rfl; have q21 := lv_neT n21 (a := 21) rfl; have q22 := lv_neT n22 (a := 22) rfl; have q23 := lv_neT n23 (a := 23) rfl; have q24 := lv_neT n24 (a := 24) rfl; have q25 := lv_neT n25 (a := 25) rfl; have q26 := lv_neT n26 (a := 26) rfl; have q27 := lv_neT n27 (a := 27) rfl; have q28 := lv_neT n28 (a := 28) rfl; have q29 := lv_neT n29 (a := 29) rfl; have q30 := lv_neT n30 (a := 30) rfl; have q31 := lv_neT n31 (a := 31) rfl; have q32 := lv_neT n32 (a := 32) rfl; have q33 := lv_neT n33 (a := 33) rfl; have q34 := lv_neT n34 (a := 34) rfl; have q35 := lv_neT n35 (a := 35) rfl; have q36 := lv_neT n36 (a := 36) rfl; have q37 := lv_neT n37 (a := 37) rfl; have q38 := lv_neT n38 (a := 38) rfl; omega) (tgt := 1595) (by decide) (zs_fin ?_))
  exact kn h M w ⟨t, T, S, y⟩
end
theorem z_Lsub {L j : Nat} (hL : L ≤ 3072) (hj : j ≤ 512) : (Int32.ofNat L - 6 < Int32.ofNat (6 * j)) ↔ L < 6 * j + 6 := by
  rw [Int32.lt_iff_toInt_lt, Int32.toInt_sub, Int32.toInt_ofNat_of_lt (by omega), Int32.toInt_ofNat_of_lt (by omega), show (6 : Int32).toInt = 6 from rfl, Int.bmod_eq_of_le (by omega) (by omega)]
  omega
theorem zsc_at {L m : Nat} {xs : Nat → Int32} {i : Int32} (hL : L ≤ 3072) (hm : m < L) (e : i = Int32.ofNat m) : zsc L xs i = some (xs m) := by
  unfold zsc
  rw [e, zi_cl (by omega), if_neg]
  rintro (z | z)
  · exact zi_nn (by omega) z
  · omega
theorem zs_loop {X : zCx} {B b L : Nat} {xs : Nat → Int32} (hX : zScr X b L xs) (hXl : zXl X) (hL : L ≤ 3072) (hK : ∀ h, zKe X (some (.int 1)) h) : ∀ (d j c1 c2 n : Nat) (h : zHp) (M : zMem), 512 ≤ j + d → j ≤ 512 → c1 ≤ 300 + j → c2 ≤ 7000 + 6 * j → zW B n h M → (∃ t T S, yI yWf M t T S) → zSW X M_L_law (c1, c2) 23 (zll b B (Int32.ofNat (6 * j))) [] h := by
  intro d
  induction d with
  | zero =>
    intro j c1 c2 n h M h1 h2 h3 h4 w y
    have hP := (z_Lsub hL h2).mpr (by omega)
    refine (?_ : zG X M_L_law (c1, c2) 23 (zll b B (Int32.ofNat (6 * j))) [] h (if Int32.ofNat L - 6 < Int32.ofNat (6 * j) then some ((), h) else none) (fun _ _ => True)) () h (if_pos hP) trivial
    refine zg_iload 4 rfl d_L_law_23 ?_
    refine zg_aload_n 0 rfl d_L_law_25 ?_
    refine zg_slen hX d_L_law_26 ?_
    refine zg_bipush 6 rfl d_L_law_27 ?_
    refine zg_isub d_L_law_29 ?_
    refine zg_icmp_gt d_L_law_30 ?_ zg_none
    refine zg_iconst 1 rfl d_L_law_1601 ?_
    exact zg_zretK d_L_law_1602 rfl ⟨by show c1 ≤ 601024; omega, by show c2 ≤ 7293034; omega⟩ (Or.inr rfl) (fun _ => hK h)
  | succ d ih =>
    intro j c1 c2 n h M h1 h2 h3 h4 w y
    by_cases hP : Int32.ofNat L - 6 < Int32.ofNat (6 * j)
    · refine (?_ : zG X M_L_law (c1, c2) 23 (zll b B (Int32.ofNat (6 * j))) [] h (if Int32.ofNat L - 6 < Int32.ofNat (6 * j) then some ((), h) else none) (fun _ _ => True)) () h (if_pos hP) trivial
      refine zg_iload 4 rfl d_L_law_23 ?_
      refine zg_aload_n 0 rfl d_L_law_25 ?_
      refine zg_slen hX d_L_law_26 ?_
      refine zg_bipush 6 rfl d_L_law_27 ?_
      refine zg_isub d_L_law_29 ?_
      refine zg_icmp_gt d_L_law_30 ?_ zg_none
      refine zg_iconst 1 rfl d_L_law_1601 ?_
      exact zg_zretK d_L_law_1602 rfl ⟨by show c1 ≤ 601024; omega, by show c2 ≤ 7293034; omega⟩ (Or.inr rfl) (fun _ => hK h)
    · have hj : 6 * j + 6 ≤ L := Nat.not_lt.mp (fun z => hP ((z_Lsub hL h2).mpr z))
      have e0 : zsc L xs (Int32.ofNat (6 * j)) = some (xs (6 * j)) := zsc_at hL (by omega) rfl
      refine (?_ : zG X M_L_law (c1, c2) 23 (zll b B (Int32.ofNat (6 * j))) [] h (if Int32.ofNat L - 6 < Int32.ofNat (6 * j) then none else zob (zsc L xs (Int32.ofNat (6 * j))) (fun v => some (v, h))) (fun v h' => zSW X M_L_law (c1, c2) 40 (zll b B (Int32.ofNat (6 * j))) [.int (v &&& 63)] h')) (xs (6 * j)) h (by rw [if_neg hP, e0, zob_some]) ?_
      · refine zg_iload 4 rfl d_L_law_23 ?_
        refine zg_aload_n 0 rfl d_L_law_25 ?_
        refine zg_slen hX d_L_law_26 ?_
        refine zg_bipush 6 rfl d_L_law_27 ?_
        refine zg_isub d_L_law_29 ?_
        refine zg_icmp_gt d_L_law_30 zg_none ?_
        refine zg_aload_n 0 rfl d_L_law_33 ?_
        refine zg_iload 4 rfl d_L_law_34 ?_
        refine zg_sld hX d_L_law_36 (fun v => ?_)
        refine zg_bipush 63 rfl d_L_law_37 ?_
        refine zg_iand d_L_law_39 ?_
        exact zg_fin (fun q => q)
      · obtain ⟨t, T, S, y⟩ := y
        have ea : ∀ q : Nat, Int32.ofNat (6 * j) + Int32.ofNat q = Int32.ofNat (6 * j + q) := fun q => (Int32.ofNat_add _ _).symm
        refine zs_sw hX hXl ⟨by omega, by omega⟩ w y (zsc_at hL (m := 6 * j + 1) (by omega) (ea 1)) (zsc_at hL (m := 6 * j + 2) (by omega) (ea 2)) (zsc_at hL (m := 6 * j + 3) (by omega) (ea 3)) (zsc_at hL (m := 6 * j + 4) (by omega) (ea 4)) (zsc_at hL (m := 6 * j + 5) (by omega) (ea 5)) ?_
        intro c1' c2' n' h' M' hc1 hc2 w' y'
        have key := ih (j + 1) c1' c2' n' h' M' (by omega) (by omega) (by omega) (by omega) w' y'
        refine zs_of ?_
        refine zg_iinc 4 (Int32.ofNat (6 * (j + 1))) [(4, .int (Int32.ofNat (6 * (j + 1)))), (0, .ref b), (1, .ref (B + 0)), (2, .ref (B + 213)), (3, .ref (B + 254))] d_L_law_1595 rfl (by rw [show Int32.ofInt 6 = Int32.ofNat 6 from rfl, ea 6, Nat.mul_add]) (by decide) rfl ?_
        refine zg_goto d_L_law_1598 ?_
        refine zg_sub [1, 2, 3, 4, 0] rfl ?_
        exact zs_fin key

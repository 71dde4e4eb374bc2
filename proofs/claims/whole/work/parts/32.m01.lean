def m_J6_bitCount_0f7a4 (a0 : Int32) (M0 : zMem) : Option (Int32 × zMem) :=
  some (((((((((a0 - (((Int32.toUInt32 a0) >>> ((Int32.toUInt32 1) &&& Int32.toUInt32 31)).toInt32 &&& 1431655765)) &&& 858993459) + (((Int32.toUInt32 (a0 - (((Int32.toUInt32 a0) >>> ((Int32.toUInt32 1) &&& Int32.toUInt32 31)).toInt32 &&& 1431655765))) >>> ((Int32.toUInt32 2) &&& Int32.toUInt32 31)).toInt32 &&& 858993459)) + ((Int32.toUInt32 (((a0 - (((Int32.toUInt32 a0) >>> ((Int32.toUInt32 1) &&& Int32.toUInt32 31)).toInt32 &&& 1431655765)) &&& 858993459) + (((Int32.toUInt32 (a0 - (((Int32.toUInt32 a0) >>> ((Int32.toUInt32 1) &&& Int32.toUInt32 31)).toInt32 &&& 1431655765))) >>> ((Int32.toUInt32 2) &&& Int32.toUInt32 31)).toInt32 &&& 858993459))) >>> ((Int32.toUInt32 4) &&& Int32.toUInt32 31)).toInt32) &&& 252645135) + ((Int32.toUInt32 (((((a0 - (((Int32.toUInt32 a0) >>> ((Int32.toUInt32 1) &&& Int32.toUInt32 31)).toInt32 &&& 1431655765)) &&& 858993459) + (((Int32.toUInt32 (a0 - (((Int32.toUInt32 a0) >>> ((Int32.toUInt32 1) &&& Int32.toUInt32 31)).toInt32 &&& 1431655765))) >>> ((Int32.toUInt32 2) &&& Int32.toUInt32 31)).toInt32 &&& 858993459)) + ((Int32.toUInt32 (((a0 - (((Int32.toUInt32 a0) >>> ((Int32.toUInt32 1) &&& Int32.toUInt32 31)).toInt32 &&& 1431655765)) &&& 858993459) + (((Int32.toUInt32 (a0 - (((Int32.toUInt32 a0) >>> ((Int32.toUInt32 1) &&& Int32.toUInt32 31)).toInt32 &&& 1431655765))) >>> ((Int32.toUInt32 2) &&& Int32.toUInt32 31)).toInt32 &&& 858993459))) >>> ((Int32.toUInt32 4) &&& Int32.toUInt32 31)).toInt32) &&& 252645135)) >>> ((Int32.toUInt32 8) &&& Int32.toUInt32 31)).toInt32) + ((Int32.toUInt32 ((((((a0 - (((Int32.toUInt32 a0) >>> ((Int32.toUInt32 1) &&& Int32.toUInt32 31)).toInt32 &&& 1431655765)) &&& 858993459) + (((Int32.toUInt32 (a0 - (((Int32.toUInt32 a0) >>> ((Int32.toUInt32 1) &&& Int32.toUInt32 31)).toInt32 &&& 1431655765))) >>> ((Int32.toUInt32 2) &&& Int32.toUInt32 31)).toInt32 &&& 858993459)) + ((Int32.toUInt32 (((a0 - (((Int32.toUInt32 a0) >>> ((Int32.toUInt32 1) &&& Int32.toUInt32 31)).toInt32 &&& 1431655765)) &&& 858993459) + (((Int32.toUInt32 (a0 - (((Int32.toUInt32 a0) >>> ((Int32.toUInt32 1) &&& Int32.toUInt32 31)).toInt32 &&& 1431655765))) >>> ((Int32.toUInt32 2) &&& Int32.toUInt32 31)).toInt32 &&& 858993459))) >>> ((Int32.toUInt32 4) &&& Int32.toUInt32 31)).toInt32) &&& 252645135) + ((Int32.toUInt32 (((((a0 - (((Int32.toUInt32 a0) >>> ((Int32.toUInt32 1) &&& Int32.toUInt32 31)).toInt32 &&& 1431655765)) &&& 858993459) + (((Int32.toUInt32 (a0 - (((Int32.toUInt32 a0) >>> ((Int32.toUInt32 1) &&& Int32.toUInt32 31)).toInt32 &&& 1431655765))) >>> ((Int32.toUInt32 2) &&& Int32.toUInt32 31)).toInt32 &&& 858993459)) + ((Int32.toUInt32 (((a0 - (((Int32.toUInt32 a0) >>> ((Int32.toUInt32 1) &&& Int32.toUInt32 31)).toInt32 &&& 1431655765)) &&& 858993459) + (((Int32.toUInt32 (a0 - (((Int32.toUInt32 a0) >>> ((Int32.toUInt32 1) &&& Int32.toUInt32 31)).toInt32 &&& 1431655765))) >>> ((Int32.toUInt32 2) &&& Int32.toUInt32 31)).toInt32 &&& 858993459))) >>> ((Int32.toUInt32 4) &&& Int32.toUInt32 31)).toInt32) &&& 252645135)) >>> ((Int32.toUInt32 8) &&& Int32.toUInt32 31)).toInt32)) >>> ((Int32.toUInt32 16) &&& Int32.toUInt32 31)).toInt32) &&& 63), M0)
set_option maxRecDepth 100000 in
set_option maxHeartbeats 4000000 in
theorem r_J6_bitCount_0f7a4 {B n : Nat} {h0 : zHp} {M0 : zMem} (w0 : zW B n h0 M0) (a0 : Int32) : zRR B n (f_J6_bitCount_0f7a4 a0 h0) (m_J6_bitCount_0f7a4 a0 M0) := by
  unfold f_J6_bitCount_0f7a4 m_J6_bitCount_0f7a4
  exact zr_ok w0
def m_X0_dropFirst  (M0 : zMem) : Option (Unit × zMem) :=
  mlt (mup M0 80 4 19) (fun M1 =>
  zob (mcp M1 81 1 81 0 (M1.1 80 4)) (fun M5 =>
  zob (mcp M5 82 1 82 0 (M5.1 80 4)) (fun M9 =>
  zob (mcp M9 83 1 83 0 (M9.1 80 4)) (fun M13 =>
  zob (mcp M13 84 1 84 0 (M13.1 80 4)) (fun M17 =>
  some ((), M17))))))
set_option maxRecDepth 100000 in
set_option maxHeartbeats 4000000 in
theorem r_X0_dropFirst {B n : Nat} {h0 : zHp} {M0 : zMem} (w0 : zW B n h0 M0)  : zRR B n (f_X0_dropFirst (B + 80) h0) (m_X0_dropFirst  M0) := by
  unfold f_X0_dropFirst m_X0_dropFirst
  refine zr_pV w0 zio_0 (Nat.le_of_ble_eq_true rfl) rfl (fun h1 M1 w1 => ?_)
  refine zr_gR w1 zio_0 rfl ?_
  refine zr_gR w1 zio_0 rfl ?_
  refine zr_gI w1 zio_0 rfl ?_
  refine zr_cp w1 zca_81 zca_81 (fun h5 M5 w5 => ?_)
  refine zr_gR w5 zio_0 rfl ?_
  refine zr_gR w5 zio_0 rfl ?_
  refine zr_gI w5 zio_0 rfl ?_
  refine zr_cp w5 zca_82 zca_82 (fun h9 M9 w9 => ?_)
  refine zr_gR w9 zio_0 rfl ?_
  refine zr_gR w9 zio_0 rfl ?_
  refine zr_gI w9 zio_0 rfl ?_
  refine zr_cp w9 zca_83 zca_83 (fun h13 M13 w13 => ?_)
  refine zr_gR w13 zio_0 rfl ?_
  refine zr_gR w13 zio_0 rfl ?_
  refine zr_gI w13 zio_0 rfl ?_
  refine zr_cp w13 zca_84 zca_84 (fun h17 M17 w17 => ?_)
  exact zr_ok w17
def m_X0_forget  (M0 : zMem) : Option (Unit × zMem) :=
  mlt (mup M0 80 4 0) (fun M1 =>
  some ((), M1))
set_option maxRecDepth 100000 in
set_option maxHeartbeats 4000000 in
theorem r_X0_forget {B n : Nat} {h0 : zHp} {M0 : zMem} (w0 : zW B n h0 M0)  : zRR B n (f_X0_forget (B + 80) h0) (m_X0_forget  M0) := by
  unfold f_X0_forget m_X0_forget
  refine zr_pV w0 zio_0 (Nat.le_of_ble_eq_true rfl) rfl (fun h1 M1 w1 => ?_)
  exact zr_ok w1
def m_X0_remember (a1 : Int32) (a2 : Int32) (a3 : Int32) (a4 : Int32) (M0 : zMem) : Option (Unit × zMem) :=
  mbd (α := Unit) (
  if (M0.1 80 4) < 20 then
  some ((), M0)
  else
  mbd (m_X0_dropFirst  M0) (fun v3 M2 =>
  some ((), M2))) (fun e4 M5 =>
  zob (mwr M5 81 (M5.1 80 4) a1) (fun M8 =>
  zob (mwr M8 82 (M8.1 80 4) a2) (fun M11 =>
  zob (mwr M11 83 (M11.1 80 4) a3) (fun M14 =>
  zob (mwr M14 84 (M14.1 80 4) a4) (fun M17 =>
  mlt (mup M17 80 4 ((M17.1 80 4) + 1)) (fun M19 =>
  some ((), M19)))))))
set_option maxRecDepth 100000 in
set_option maxHeartbeats 4000000 in
theorem r_X0_remember {B n : Nat} {h0 : zHp} {M0 : zMem} (w0 : zW B n h0 M0) (a1 : Int32) (a2 : Int32) (a3 : Int32) (a4 : Int32) : zRR B n (f_X0_remember (B + 80) a1 a2 a3 a4 h0) (m_X0_remember a1 a2 a3 a4 M0) := by
  unfold f_X0_remember m_X0_remember
  refine zr_gI w0 zio_0 rfl ?_
  refine zr_bd ?_ (fun e4 h5 M5 w5 => ?_)
  · refine zr_if ?_ ?_
    · exact zr_ok w0
    · refine zr_cv w0 zio_0 (r_X0_dropFirst w0 ) (fun v3 h2 M2 w2 => ?_)
      exact zr_ok w2
  · refine zr_gR w5 zio_0 rfl ?_
    refine zr_gI w5 zio_0 rfl ?_
    refine zr_s0 w5 zca_81 (fun h8 M8 w8 => ?_)
    refine zr_gR w8 zio_0 rfl ?_
    refine zr_gI w8 zio_0 rfl ?_
    refine zr_s0 w8 zca_82 (fun h11 M11 w11 => ?_)
    refine zr_gR w11 zio_0 rfl ?_
    refine zr_gI w11 zio_0 rfl ?_
    refine zr_s0 w11 zca_83 (fun h14 M14 w14 => ?_)
    refine zr_gR w14 zio_0 rfl ?_
    refine zr_gI w14 zio_0 rfl ?_
    refine zr_s0 w14 zca_84 (fun h17 M17 w17 => ?_)
    refine zr_gI w17 zio_0 rfl ?_
    refine zr_pV w17 zio_0 (Nat.le_of_ble_eq_true rfl) rfl (fun h19 M19 w19 => ?_)
    exact zr_ok w19
def m_X0_undoLatest (a1 : Nat) (M0 : zMem) : Option (Unit × zMem) :=
  if 1 ≤ (M0.1 80 4) then
  mlt (mup M0 80 4 ((M0.1 80 4) - 1)) (fun M3 =>
  zob (mrd M3 82 (M3.1 80 4)) (fun v6 =>
  zob (mrd M3 81 (M3.1 80 4)) (fun v9 =>
  if v9 = 0 then
  zob (mrd M3 83 (M3.1 80 4)) (fun v13 =>
  zob (mwr M3 (a1 + 1) v6 v13) (fun M14 =>
  zob (mrd M14 84 (M14.1 80 4)) (fun v18 =>
  zob (mwr M14 (a1 + 2) v6 v18) (fun M19 =>
  zob (mwr M19 (a1 + 6) v6 1) (fun M21 =>
  some ((), M21))))))
  else if v9 = 1 then
  zob (mrd M3 83 (M3.1 80 4)) (fun v25 =>
  zob (mwr M3 (a1 + 5) v6 v25) (fun M26 =>
  some ((), M26)))
  else if v9 = 2 then
  zob (mrd M3 83 (M3.1 80 4)) (fun v30 =>
  zob (mwr M3 (a1 + 7) v6 v30) (fun M31 =>
  zob (mrd M31 84 (M31.1 80 4)) (fun v35 =>
  zob (mwr M31 (a1 + 8) v6 v35) (fun M36 =>
  some ((), M36)))))
  else 
  zob (mrd M3 83 (M3.1 80 4)) (fun v39 =>
  mlt (mup M3 a1 12 v39) (fun M40 =>
  some ((), M40))))))
  else
  some ((), M0)
set_option maxRecDepth 100000 in
set_option maxHeartbeats 4000000 in
theorem r_X0_undoLatest {B n : Nat} {h0 : zHp} {M0 : zMem} (w0 : zW B n h0 M0) (a1 : Nat) (p1 : zIS a1) : zRR B n (f_X0_undoLatest (B + 80) (B + a1) h0) (m_X0_undoLatest a1 M0) := by
  unfold f_X0_undoLatest m_X0_undoLatest
  refine zr_gI w0 zio_0 rfl ?_
  refine zr_if ?_ ?_
  · refine zr_gI w0 zio_0 rfl ?_
    refine zr_pV w0 zio_0 (Nat.le_of_ble_eq_true rfl) rfl (fun h3 M3 w3 => ?_)
    refine zr_gR w3 zio_0 rfl ?_
    refine zr_gI w3 zio_0 rfl ?_
    refine zr_a0 w3 zca_82 (fun v6 => ?_)
    refine zr_gR w3 zio_0 rfl ?_
    refine zr_gI w3 zio_0 rfl ?_
    refine zr_a0 w3 zca_81 (fun v9 => ?_)
    refine zr_if ?_ ?_
    · refine zr_gR w3 p1.1 rfl ?_
      refine zr_gR w3 zio_0 rfl ?_
      refine zr_gI w3 zio_0 rfl ?_
      refine zr_a0 w3 zca_83 (fun v13 => ?_)
      refine zr_s0 w3 (p1.2.1 0 (by decide)) (fun h14 M14 w14 => ?_)
      refine zr_gR w14 p1.1 rfl ?_
      refine zr_gR w14 zio_0 rfl ?_
      refine zr_gI w14 zio_0 rfl ?_
      refine zr_a0 w14 zca_84 (fun v18 => ?_)
      refine zr_s0 w14 (p1.2.1 1 (by decide)) (fun h19 M19 w19 => ?_)
      refine zr_gR w19 p1.1 rfl ?_
      refine zr_s0 w19 (p1.2.1 5 (by decide)) (fun h21 M21 w21 => ?_)
      exact zr_ok w21
    refine zr_if ?_ ?_
    · refine zr_gR w3 p1.1 rfl ?_
      refine zr_gR w3 zio_0 rfl ?_
      refine zr_gI w3 zio_0 rfl ?_
      refine zr_a0 w3 zca_83 (fun v25 => ?_)
      refine zr_s0 w3 (p1.2.1 4 (by decide)) (fun h26 M26 w26 => ?_)
      exact zr_ok w26
    refine zr_if ?_ ?_
    · refine zr_gR w3 p1.1 rfl ?_
      refine zr_gR w3 zio_0 rfl ?_
      refine zr_gI w3 zio_0 rfl ?_
      refine zr_a0 w3 zca_83 (fun v30 => ?_)
      refine zr_s0 w3 (p1.2.2.1 0 (by decide)) (fun h31 M31 w31 => ?_)
      refine zr_gR w31 p1.1 rfl ?_
      refine zr_gR w31 zio_0 rfl ?_
      refine zr_gI w31 zio_0 rfl ?_
      refine zr_a0 w31 zca_84 (fun v35 => ?_)
      refine zr_s0 w31 (p1.2.2.1 1 (by decide)) (fun h36 M36 w36 => ?_)
      exact zr_ok w36
    refine zr_gR w3 zio_0 rfl ?_
    refine zr_gI w3 zio_0 rfl ?_
    refine zr_a0 w3 zca_83 (fun v39 => ?_)
    refine zr_pV w3 p1.1 (Nat.le_of_ble_eq_true rfl) rfl (fun h40 M40 w40 => ?_)
    exact zr_ok w40
  · exact zr_ok w0
def m_X3_counts (a1 : Int32) (M0 : zMem) : Option (Int32 × zMem) :=
  zob (mrd M0 91 a1) (fun v2 =>
  if v2 = 0 then
  zob (mrd M0 90 a1) (fun v4 =>
  if v4 = (-1) then
  some (1, M0)
  else
  some (0, M0))
  else
  some (0, M0))
set_option maxRecDepth 100000 in
set_option maxHeartbeats 4000000 in
theorem r_X3_counts {B n : Nat} {h0 : zHp} {M0 : zMem} (w0 : zW B n h0 M0) (a1 : Int32) : zRR B n (f_X3_counts (B + 85) a1 h0) (m_X3_counts a1 M0) := by
  unfold f_X3_counts m_X3_counts
  refine zr_gR w0 zio_3 rfl ?_
  refine zr_a2 w0 zca_91 (fun v2 => ?_)
  refine zr_if ?_ ?_
  · refine zr_gR w0 zio_3 rfl ?_
    refine zr_a0 w0 zca_90 (fun v4 => ?_)
    refine zr_if ?_ ?_
    · exact zr_ok w0
    · exact zr_ok w0
  · exact zr_ok w0
def m_X3_readable  (M0 : zMem) : Option (Int32 × zMem) :=
  if (M0.1 85 7) = (-1) then
  some ((M0.1 85 6), M0)
  else
  some ((M0.1 85 7), M0)
set_option maxRecDepth 100000 in
set_option maxHeartbeats 4000000 in
theorem r_X3_readable {B n : Nat} {h0 : zHp} {M0 : zMem} (w0 : zW B n h0 M0)  : zRR B n (f_X3_readable (B + 85) h0) (m_X3_readable  M0) := by
  unfold f_X3_readable m_X3_readable
  refine zr_gI w0 zio_3 rfl ?_
  refine zr_if ?_ ?_
  · refine zr_gI w0 zio_3 rfl ?_
    exact zr_ok w0
  · refine zr_gI w0 zio_3 rfl ?_
    exact zr_ok w0
def m_X5_isUp (a0 : Nat) (a1 : Int32) (M0 : zMem) : Option (Int32 × zMem) :=
  zob (mrd M0 (a0 + 6) a1) (fun v2 =>
  if v2 = 1 then
  some (1, M0)
  else
  some (0, M0))
set_option maxRecDepth 100000 in
set_option maxHeartbeats 4000000 in
theorem r_X5_isUp {B n : Nat} {h0 : zHp} {M0 : zMem} (w0 : zW B n h0 M0) (a0 : Nat) (p0 : zIS a0) (a1 : Int32) : zRR B n (f_X5_isUp (B + a0) a1 h0) (m_X5_isUp a0 a1 M0) := by
  unfold f_X5_isUp m_X5_isUp
  refine zr_gR w0 p0.1 rfl ?_
  refine zr_a0 w0 (p0.2.1 5 (by decide)) (fun v2 => ?_)
  refine zr_if ?_ ?_
  · exact zr_ok w0
  · exact zr_ok w0
def m_X5_cloudsAt (a0 : Nat) (a1 : Int32) (a2 : Int32) (M0 : zMem) : Option (Int32 × zMem) :=
  mbd (
  mlp (σ := (Int32 × Int32)) (β := (Int32 × Int32)) zLF (fun s1 M2 =>
  mlt (ztof (M2.1 a0 14)) (fun t5 =>
  if (M2.1 t5 14) ≤ s1.2 then
  some ((.inr (s1.1, s1.2)), M2)
  else
  mbd (m_X5_isUp a0 s1.2 M2) (fun v8 M7 =>
  if v8 = 0 then
  some ((.inl (s1.1, (s1.2 + 1))), M7)
  else
  zob (mrd M7 (a0 + 1) s1.2) (fun v10 =>
  if v10 = a1 then
  zob (mrd M7 (a0 + 2) s1.2) (fun v12 =>
  if v12 = a2 then
  some ((.inl ((s1.1 ||| (1 <<< (s1.2 &&& 31))), (s1.2 + 1))), M7)
  else
  some ((.inl (s1.1, (s1.2 + 1))), M7))
  else
  some ((.inl (s1.1, (s1.2 + 1))), M7))))) (0, 0) M0) (fun e3 M4 =>
  some (e3.1, M4))
set_option maxRecDepth 100000 in
set_option maxHeartbeats 4000000 in
theorem r_X5_cloudsAt {B n : Nat} {h0 : zHp} {M0 : zMem} (w0 : zW B n h0 M0) (a0 : Nat) (p0 : zIS a0) (a1 : Int32) (a2 : Int32) : zRR B n (f_X5_cloudsAt (B + a0) a1 a2 h0) (m_X5_cloudsAt a0 a1 a2 M0) := by
  unfold f_X5_cloudsAt m_X5_cloudsAt
  refine zr_bd (zr_lp (fun s1 h2 M2 w2 => ?_) (0, 0) h0 M0 w0) (fun e3 h4 M4 w4 => ?_)
  · refine zr_gT w2 p0.1 rfl (fun t5 q5 => ?_)
    refine zr_gI w2 (zit_o q5) rfl ?_
    refine zr_if ?_ ?_
    · exact zr_ok w2
    · refine zr_cv w2 p0.1 (r_X5_isUp w2 a0 p0 s1.2) (fun v8 h7 M7 w7 => ?_)
      refine zr_if ?_ ?_
      · exact zr_ok w7
      · refine zr_gR w7 p0.1 rfl ?_
        refine zr_a0 w7 (p0.2.1 0 (by decide)) (fun v10 => ?_)
        refine zr_if ?_ ?_
        · refine zr_gR w7 p0.1 rfl ?_
          refine zr_a0 w7 (p0.2.1 1 (by decide)) (fun v12 => ?_)
          refine zr_if ?_ ?_
          · exact zr_ok w7
          · exact zr_ok w7
        · exact zr_ok w7
  · exact zr_ok w4
def m_X3_fits (a1 : Nat) (M0 : zMem) : Option (Int32 × zMem) :=
  mbd (
  mlp (σ := Int32) (β := (Int32 ⊕ Int32)) zLF (fun s1 M2 =>
  mbd (m_X3_readable  M2) (fun v6 M5 =>
  if v6 ≤ s1 then
  some ((.inr (.inl s1)), M5)
  else
  mbd (m_X3_counts s1 M5) (fun v8 M7 =>
  if v8 = 0 then
  some ((.inl (s1 + 1)), M7)
  else
  zob (mrd M7 86 s1) (fun v10 =>
  if v10 = (M7.1 a1 11) then
  zob (mrd M7 89 s1) (fun v13 =>
  zob (mrd M7 87 s1) (fun v15 =>
  zob (mrd M7 88 s1) (fun v17 =>
  mbd (m_X5_cloudsAt a1 v15 v17 M7) (fun v19 M18 =>
  mbd (α := Int32) (
  if v19 = 0 then
  some (0, M18)
  else
  some (1, M18)) (fun e20 M21 =>
  if v13 = e20 then
  some ((.inl (s1 + 1)), M21)
  else
  some ((.inr (.inr 0)), M21))))))
  else
  some ((.inl (s1 + 1)), M7))))) 0 M0) (fun b22 M4 => zsl b22 (fun e3 =>
  some (1, M4)) (fun r => some (r, M4)))
set_option maxRecDepth 100000 in
set_option maxHeartbeats 4000000 in
theorem r_X3_fits {B n : Nat} {h0 : zHp} {M0 : zMem} (w0 : zW B n h0 M0) (a1 : Nat) (p1 : zIS a1) : zRR B n (f_X3_fits (B + 85) (B + a1) h0) (m_X3_fits a1 M0) := by
  unfold f_X3_fits m_X3_fits
  refine zr_bd (zr_lp (fun s1 h2 M2 w2 => ?_) 0 h0 M0 w0) (fun b22 h4 M4 w4 => zr_sl (fun e3 => ?_) (fun r => zr_ok w4))
  · refine zr_cv w2 zio_3 (r_X3_readable w2 ) (fun v6 h5 M5 w5 => ?_)
    refine zr_if ?_ ?_
    · exact zr_ok w5
    · refine zr_cv w5 zio_3 (r_X3_counts w5 s1) (fun v8 h7 M7 w7 => ?_)
      refine zr_if ?_ ?_
      · exact zr_ok w7
      · refine zr_gR w7 zio_3 rfl ?_
        refine zr_a0 w7 zca_86 (fun v10 => ?_)
        refine zr_gI w7 p1.1 rfl ?_
        refine zr_if ?_ ?_
        · refine zr_gR w7 zio_3 rfl ?_
          refine zr_a2 w7 zca_89 (fun v13 => ?_)
          refine zr_gR w7 zio_3 rfl ?_
          refine zr_a0 w7 zca_87 (fun v15 => ?_)
          refine zr_gR w7 zio_3 rfl ?_
          refine zr_a0 w7 zca_88 (fun v17 => ?_)
          refine zr_cv w7 p1.1 (r_X5_cloudsAt w7 a1 p1 v15 v17) (fun v19 h18 M18 w18 => ?_)
          refine zr_bd ?_ (fun e20 h21 M21 w21 => ?_)
          · refine zr_if ?_ ?_
            · exact zr_ok w18
            · exact zr_ok w18
          · refine zr_if ?_ ?_
            · exact zr_ok w21
            · exact zr_ok w21
        · exact zr_ok w7
  · exact zr_ok w4
def m_X3_lastHour  (M0 : zMem) : Option (Int32 × zMem) :=
  mbd (
  mlp (σ := (Int32 × Int32)) (β := (Int32 × Int32)) zLF (fun s1 M2 =>
  mbd (m_X3_readable  M2) (fun v6 M5 =>
  if v6 ≤ s1.2 then
  some ((.inr (s1.1, s1.2)), M5)
  else
  mbd (m_X3_counts s1.2 M5) (fun v8 M7 =>
  if v8 = 0 then
  some ((.inl (s1.1, (s1.2 + 1))), M7)
  else
  zob (mrd M7 86 s1.2) (fun v10 =>
  some ((.inl ((zmx s1.1 v10), (s1.2 + 1))), M7))))) (0, 0) M0) (fun e3 M4 =>
  some (e3.1, M4))
set_option maxRecDepth 100000 in
set_option maxHeartbeats 4000000 in
theorem r_X3_lastHour {B n : Nat} {h0 : zHp} {M0 : zMem} (w0 : zW B n h0 M0)  : zRR B n (f_X3_lastHour (B + 85) h0) (m_X3_lastHour  M0) := by
  unfold f_X3_lastHour m_X3_lastHour
  refine zr_bd (zr_lp (fun s1 h2 M2 w2 => ?_) (0, 0) h0 M0 w0) (fun e3 h4 M4 w4 => ?_)
  · refine zr_cv w2 zio_3 (r_X3_readable w2 ) (fun v6 h5 M5 w5 => ?_)
    refine zr_if ?_ ?_
    · exact zr_ok w5
    · refine zr_cv w5 zio_3 (r_X3_counts w5 s1.2) (fun v8 h7 M7 w7 => ?_)
      refine zr_if ?_ ?_
      · exact zr_ok w7
      · refine zr_gR w7 zio_3 rfl ?_
        refine zr_a0 w7 zca_86 (fun v10 => ?_)
        exact zr_ok w7
  · exact zr_ok w4
def m_X5_bearClouds (a0 : Nat) (M0 : zMem) : Option (Unit × zMem) :=
  mbd (
  mlp (σ := Int32) (β := Int32) zLF (fun s1 M2 =>
  mlt (ztof (M2.1 a0 14)) (fun t5 =>
  if (M2.1 t5 14) ≤ s1 then
  some ((.inr s1), M2)
  else
  zob (mrd M2 (a0 + 6) s1) (fun v8 =>
  if v8 = 0 then
  mlt (ztof (M2.1 a0 14)) (fun t9 =>
  zob (mrd M2 (t9 + 8) s1) (fun v11 =>
  if v11 = (M2.1 a0 11) then
  zob (mwr M2 (a0 + 6) s1 1) (fun M14 =>
  some ((.inl (s1 + 1)), M14))
  else
  some ((.inl (s1 + 1)), M2)))
  else
  some ((.inl (s1 + 1)), M2)))) 0 M0) (fun e3 M4 =>
  some ((), M4))
set_option maxRecDepth 100000 in
set_option maxHeartbeats 4000000 in
theorem r_X5_bearClouds {B n : Nat} {h0 : zHp} {M0 : zMem} (w0 : zW B n h0 M0) (a0 : Nat) (p0 : zIS a0) : zRR B n (f_X5_bearClouds (B + a0) h0) (m_X5_bearClouds a0 M0) := by
  unfold f_X5_bearClouds m_X5_bearClouds
  refine zr_bd (zr_lp (fun s1 h2 M2 w2 => ?_) 0 h0 M0 w0) (fun e3 h4 M4 w4 => ?_)
  · refine zr_gT w2 p0.1 rfl (fun t5 q5 => ?_)
    refine zr_gI w2 (zit_o q5) rfl ?_
    refine zr_if ?_ ?_
    · exact zr_ok w2
    · refine zr_gR w2 p0.1 rfl ?_
      refine zr_a0 w2 (p0.2.1 5 (by decide)) (fun v8 => ?_)
      refine zr_if ?_ ?_
      · refine zr_gT w2 p0.1 rfl (fun t9 q9 => ?_)
        refine zr_gR w2 (zit_o q9) rfl ?_
        refine zr_a0 w2 (zta_7 q9) (fun v11 => ?_)
        refine zr_gI w2 p0.1 rfl ?_
        refine zr_if ?_ ?_
        · refine zr_gR w2 p0.1 rfl ?_
          refine zr_s0 w2 (p0.2.1 5 (by decide)) (fun h14 M14 w14 => ?_)
          exact zr_ok w14
        · exact zr_ok w2
      · exact zr_ok w2
  · exact zr_ok w4
def m_X7_isCell (a0 : Int32) (a1 : Int32) (M0 : zMem) : Option (Int32 × zMem) :=
  if a0 < 0 then
  some (0, M0)
  else
  if 6 ≤ a0 then
  some (0, M0)
  else
  if a1 < 0 then
  some (0, M0)
  else
  if 4 ≤ a1 then
  some (0, M0)
  else
  some (1, M0)
set_option maxRecDepth 100000 in
set_option maxHeartbeats 4000000 in
theorem r_X7_isCell {B n : Nat} {h0 : zHp} {M0 : zMem} (w0 : zW B n h0 M0) (a0 : Int32) (a1 : Int32) : zRR B n (f_X7_isCell a0 a1 h0) (m_X7_isCell a0 a1 M0) := by
  unfold f_X7_isCell m_X7_isCell
  refine zr_if ?_ ?_
  · exact zr_ok w0
  · refine zr_if ?_ ?_
    · exact zr_ok w0
    · refine zr_if ?_ ?_
      · exact zr_ok w0
      · refine zr_if ?_ ?_
        · exact zr_ok w0
        · exact zr_ok w0
def m_X5_moveCloud (a0 : Nat) (a1 : Int32) (a2 : Int32) (M0 : zMem) : Option (Unit × zMem) :=
  zob (mrd M0 (a0 + 1) a1) (fun v2 =>
  mbd (α := Int32) (
  if a2 = 1 then
  some (1, M0)
  else
  if a2 = 3 then
  some ((-1), M0)
  else
  some (0, M0)) (fun e3 M4 =>
  zob (mrd M4 (a0 + 2) a1) (fun v6 =>
  mbd (α := Int32) (
  if a2 = 2 then
  some (1, M4)
  else
  if a2 = 4 then
  some ((-1), M4)
  else
  some (0, M4)) (fun e7 M8 =>
  mbd (m_X7_isCell (v2 + e3) (v6 + e7) M8) (fun v10 M9 =>
  if v10 = 0 then
  zob (mwr M9 (a0 + 6) a1 2) (fun M12 =>
  some ((), M12))
  else
  zob (mwr M9 (a0 + 1) a1 (v2 + e3)) (fun M14 =>
  zob (mwr M14 (a0 + 2) a1 (v6 + e7)) (fun M16 =>
  some ((), M16))))))))
set_option maxRecDepth 100000 in
set_option maxHeartbeats 4000000 in
theorem r_X5_moveCloud {B n : Nat} {h0 : zHp} {M0 : zMem} (w0 : zW B n h0 M0) (a0 : Nat) (p0 : zIS a0) (a1 : Int32) (a2 : Int32) : zRR B n (f_X5_moveCloud (B + a0) a1 a2 h0) (m_X5_moveCloud a0 a1 a2 M0) := by
  unfold f_X5_moveCloud m_X5_moveCloud
  refine zr_gR w0 p0.1 rfl ?_
  refine zr_a0 w0 (p0.2.1 0 (by decide)) (fun v2 => ?_)
  refine zr_bd ?_ (fun e3 h4 M4 w4 => ?_)
  · refine zr_if ?_ ?_
    · exact zr_ok w0
    · refine zr_if ?_ ?_
      · exact zr_ok w0
      · exact zr_ok w0
  · refine zr_gR w4 p0.1 rfl ?_
    refine zr_a0 w4 (p0.2.1 1 (by decide)) (fun v6 => ?_)
    refine zr_bd ?_ (fun e7 h8 M8 w8 => ?_)
    · refine zr_if ?_ ?_
      · exact zr_ok w4
      · refine zr_if ?_ ?_
        · exact zr_ok w4
        · exact zr_ok w4
    · refine zr_bd (r_X7_isCell w8 (v2 + e3) (v6 + e7)) (fun v10 h9 M9 w9 => ?_)
      refine zr_if ?_ ?_
      · refine zr_gR w9 p0.1 rfl ?_
        refine zr_s0 w9 (p0.2.1 5 (by decide)) (fun h12 M12 w12 => ?_)
        exact zr_ok w12
      · refine zr_gR w9 p0.1 rfl ?_
        refine zr_s0 w9 (p0.2.1 0 (by decide)) (fun h14 M14 w14 => ?_)
        refine zr_gR w14 p0.1 rfl ?_
        refine zr_s0 w14 (p0.2.1 1 (by decide)) (fun h16 M16 w16 => ?_)
        exact zr_ok w16
def m_X5_drift (a0 : Nat) (a1 : Int32) (M0 : zMem) : Option (Unit × zMem) :=
  mbd (
  mlp (σ := Int32) (β := Int32) zLF (fun s1 M2 =>
  mlt (ztof (M2.1 a0 14)) (fun t5 =>
  if (M2.1 t5 14) ≤ s1 then
  some ((.inr s1), M2)
  else
  mbd (m_X5_isUp a0 s1 M2) (fun v8 M7 =>
  if v8 = 0 then
  some ((.inl (s1 + 1)), M7)
  else
  mbd (m_X5_moveCloud a0 s1 a1 M7) (fun v10 M9 =>
  some ((.inl (s1 + 1)), M9))))) 0 M0) (fun e3 M4 =>
  some ((), M4))
set_option maxRecDepth 100000 in
set_option maxHeartbeats 4000000 in
theorem r_X5_drift {B n : Nat} {h0 : zHp} {M0 : zMem} (w0 : zW B n h0 M0) (a0 : Nat) (p0 : zIS a0) (a1 : Int32) : zRR B n (f_X5_drift (B + a0) a1 h0) (m_X5_drift a0 a1 M0) := by
  unfold f_X5_drift m_X5_drift
  refine zr_bd (zr_lp (fun s1 h2 M2 w2 => ?_) 0 h0 M0 w0) (fun e3 h4 M4 w4 => ?_)
  · refine zr_gT w2 p0.1 rfl (fun t5 q5 => ?_)
    refine zr_gI w2 (zit_o q5) rfl ?_
    refine zr_if ?_ ?_
    · exact zr_ok w2
    · refine zr_cv w2 p0.1 (r_X5_isUp w2 a0 p0 s1) (fun v8 h7 M7 w7 => ?_)
      refine zr_if ?_ ?_
      · exact zr_ok w7
      · refine zr_cv w7 p0.1 (r_X5_moveCloud w7 a0 p0 s1 a1) (fun v10 h9 M9 w9 => ?_)
        exact zr_ok w9
  · exact zr_ok w4
def m_X5_howFar (a0 : Nat) (a1 : Int32) (a2 : Int32) (M0 : zMem) : Option (Int32 × zMem) :=
  zob (mrd M0 (a0 + 7) a1) (fun v2 =>
  zob (mrd M0 (a0 + 1) a2) (fun v4 =>
  zob (mrd M0 (a0 + 8) a1) (fun v6 =>
  zob (mrd M0 (a0 + 2) a2) (fun v8 =>
  mbd (α := Int32) (
  if 0 ≤ (v2 - v4) then
  some ((v2 - v4), M0)
  else
  some ((0 - (v2 - v4)), M0)) (fun e9 M10 =>
  mbd (α := Int32) (
  if 0 ≤ (v6 - v8) then
  some ((v6 - v8), M10)
  else
  some ((0 - (v6 - v8)), M10)) (fun e11 M12 =>
  if e9 ≤ e11 then
  some (e11, M12)
  else
  some (e9, M12)))))))
set_option maxRecDepth 100000 in
set_option maxHeartbeats 4000000 in
theorem r_X5_howFar {B n : Nat} {h0 : zHp} {M0 : zMem} (w0 : zW B n h0 M0) (a0 : Nat) (p0 : zIS a0) (a1 : Int32) (a2 : Int32) : zRR B n (f_X5_howFar (B + a0) a1 a2 h0) (m_X5_howFar a0 a1 a2 M0) := by
  unfold f_X5_howFar m_X5_howFar
  refine zr_gR w0 p0.1 rfl ?_
  refine zr_a0 w0 (p0.2.2.1 0 (by decide)) (fun v2 => ?_)
  refine zr_gR w0 p0.1 rfl ?_
  refine zr_a0 w0 (p0.2.1 0 (by decide)) (fun v4 => ?_)
  refine zr_gR w0 p0.1 rfl ?_
  refine zr_a0 w0 (p0.2.2.1 1 (by decide)) (fun v6 => ?_)
  refine zr_gR w0 p0.1 rfl ?_
  refine zr_a0 w0 (p0.2.1 1 (by decide)) (fun v8 => ?_)
  refine zr_bd ?_ (fun e9 h10 M10 w10 => ?_)
  · refine zr_if ?_ ?_
    · exact zr_ok w0
    · exact zr_ok w0
  · refine zr_bd ?_ (fun e11 h12 M12 w12 => ?_)
    · refine zr_if ?_ ?_
      · exact zr_ok w10
      · exact zr_ok w10
    · refine zr_if ?_ ?_
      · exact zr_ok w12
      · exact zr_ok w12
def m_X5_canSee (a0 : Nat) (a1 : Int32) (a2 : Int32) (M0 : zMem) : Option (Int32 × zMem) :=
  mbd (m_X5_howFar a0 a1 a2 M0) (fun v2 M1 =>
  mlt (ztof (M1.1 a0 14)) (fun t3 =>
  zob (mrd M1 (t3 + 11) a1) (fun v5 =>
  if v5 < v2 then
  some (0, M1)
  else
  some (1, M1))))
set_option maxRecDepth 100000 in
set_option maxHeartbeats 4000000 in
theorem r_X5_canSee {B n : Nat} {h0 : zHp} {M0 : zMem} (w0 : zW B n h0 M0) (a0 : Nat) (p0 : zIS a0) (a1 : Int32) (a2 : Int32) : zRR B n (f_X5_canSee (B + a0) a1 a2 h0) (m_X5_canSee a0 a1 a2 M0) := by
  unfold f_X5_canSee m_X5_canSee
  refine zr_cv w0 p0.1 (r_X5_howFar w0 a0 p0 a1 a2) (fun v2 h1 M1 w1 => ?_)
  refine zr_gT w1 p0.1 rfl (fun t3 q3 => ?_)
  refine zr_gR w1 (zit_o q3) rfl ?_
  refine zr_a0 w1 (zta_10 q3) (fun v5 => ?_)
  refine zr_if ?_ ?_
  · exact zr_ok w1
  · exact zr_ok w1
def m_X5_ownInSky (a0 : Nat) (a1 : Int32) (M0 : zMem) : Option (Int32 × zMem) :=
  mbd (
  mlp (σ := (Int32 × Int32)) (β := (Int32 × Int32)) zLF (fun s1 M2 =>
  mlt (ztof (M2.1 a0 14)) (fun t5 =>
  if (M2.1 t5 14) ≤ s1.2 then
  some ((.inr (s1.1, s1.2)), M2)
  else
  mbd (m_X5_isUp a0 s1.2 M2) (fun v8 M7 =>
  if v8 = 0 then
  some ((.inl (s1.1, (s1.2 + 1))), M7)
  else
  zob (mrd M7 (a0 + 5) s1.2) (fun v10 =>
  if v10 = a1 then
  some ((.inl ((s1.1 + 1), (s1.2 + 1))), M7)
  else
  some ((.inl (s1.1, (s1.2 + 1))), M7))))) (0, 0) M0) (fun e3 M4 =>
  some (e3.1, M4))
set_option maxRecDepth 100000 in
set_option maxHeartbeats 4000000 in
theorem r_X5_ownInSky {B n : Nat} {h0 : zHp} {M0 : zMem} (w0 : zW B n h0 M0) (a0 : Nat) (p0 : zIS a0) (a1 : Int32) : zRR B n (f_X5_ownInSky (B + a0) a1 h0) (m_X5_ownInSky a0 a1 M0) := by
  unfold f_X5_ownInSky m_X5_ownInSky
  refine zr_bd (zr_lp (fun s1 h2 M2 w2 => ?_) (0, 0) h0 M0 w0) (fun e3 h4 M4 w4 => ?_)
  · refine zr_gT w2 p0.1 rfl (fun t5 q5 => ?_)
    refine zr_gI w2 (zit_o q5) rfl ?_
    refine zr_if ?_ ?_
    · exact zr_ok w2
    · refine zr_cv w2 p0.1 (r_X5_isUp w2 a0 p0 s1.2) (fun v8 h7 M7 w7 => ?_)
      refine zr_if ?_ ?_
      · exact zr_ok w7
      · refine zr_gR w7 p0.1 rfl ?_
        refine zr_a0 w7 (p0.2.1 4 (by decide)) (fun v10 => ?_)
        refine zr_if ?_ ?_
        · exact zr_ok w7
        · exact zr_ok w7
  · exact zr_ok w4
def m_X5_whoTakes (a0 : Nat) (a1 : Int32) (M0 : zMem) : Option (Int32 × zMem) :=
  mlt (ztof (M0.1 a0 14)) (fun t1 =>
  mbd (
  mlp (σ := (Int32 × Int32 × Int32)) (β := (Int32 × Int32 × Int32)) zLF (fun s3 M4 =>
  mlt (ztof (M4.1 a0 14)) (fun t7 =>
  if (M4.1 t7 15) ≤ s3.2.2 then
  some ((.inr (s3.1, s3.2.1, s3.2.2)), M4)
  else
  mbd (m_X5_canSee a0 s3.2.2 a1 M4) (fun v10 M9 =>
  if v10 = 0 then
  some ((.inl (s3.1, s3.2.1, (s3.2.2 + 1))), M9)
  else
  mbd (m_X5_ownInSky a0 s3.2.2 M9) (fun v12 M11 =>
  if s3.2.1 ≤ v12 then
  some ((.inl (s3.1, s3.2.1, (s3.2.2 + 1))), M11)
  else
  mbd (m_X5_ownInSky a0 s3.2.2 M11) (fun v14 M13 =>
  some ((.inl (s3.2.2, v14, (s3.2.2 + 1))), M13)))))) ((-1), (M0.1 t1 18), 0) M0) (fun e5 M6 =>
  some (e5.1, M6)))
set_option maxRecDepth 100000 in
set_option maxHeartbeats 4000000 in
theorem r_X5_whoTakes {B n : Nat} {h0 : zHp} {M0 : zMem} (w0 : zW B n h0 M0) (a0 : Nat) (p0 : zIS a0) (a1 : Int32) : zRR B n (f_X5_whoTakes (B + a0) a1 h0) (m_X5_whoTakes a0 a1 M0) := by
  unfold f_X5_whoTakes m_X5_whoTakes
  refine zr_gT w0 p0.1 rfl (fun t1 q1 => ?_)
  refine zr_gI w0 (zit_o q1) rfl ?_
  refine zr_bd (zr_lp (fun s3 h4 M4 w4 => ?_) ((-1), (M0.1 t1 18), 0) h0 M0 w0) (fun e5 h6 M6 w6 => ?_)
  · refine zr_gT w4 p0.1 rfl (fun t7 q7 => ?_)
    refine zr_gI w4 (zit_o q7) rfl ?_
    refine zr_if ?_ ?_
    · exact zr_ok w4
    · refine zr_cv w4 p0.1 (r_X5_canSee w4 a0 p0 s3.2.2 a1) (fun v10 h9 M9 w9 => ?_)
      refine zr_if ?_ ?_
      · exact zr_ok w9
      · refine zr_cv w9 p0.1 (r_X5_ownInSky w9 a0 p0 s3.2.2) (fun v12 h11 M11 w11 => ?_)
        refine zr_if ?_ ?_
        · exact zr_ok w11
        · refine zr_cv w11 p0.1 (r_X5_ownInSky w11 a0 p0 s3.2.2) (fun v14 h13 M13 w13 => ?_)
          exact zr_ok w13
  · exact zr_ok w6
def m_X5_giveOut (a0 : Nat) (M0 : zMem) : Option (Unit × zMem) :=
  mbd (
  mlp (σ := Int32) (β := Int32) zLF (fun s1 M2 =>
  mlt (ztof (M2.1 a0 14)) (fun t5 =>
  if (M2.1 t5 14) ≤ s1 then
  some ((.inr s1), M2)
  else
  mbd (m_X5_isUp a0 s1 M2) (fun v8 M7 =>
  if v8 = 0 then
  some ((.inl (s1 + 1)), M7)
  else
  zob (mrd M7 (a0 + 5) s1) (fun v10 =>
  if v10 = (-1) then
  mbd (m_X5_whoTakes a0 s1 M7) (fun v13 M12 =>
  zob (mwr M12 (a0 + 5) s1 v13) (fun M14 =>
  some ((.inl (s1 + 1)), M14)))
  else
  some ((.inl (s1 + 1)), M7))))) 0 M0) (fun e3 M4 =>
  some ((), M4))
set_option maxRecDepth 100000 in
set_option maxHeartbeats 4000000 in
theorem r_X5_giveOut {B n : Nat} {h0 : zHp} {M0 : zMem} (w0 : zW B n h0 M0) (a0 : Nat) (p0 : zIS a0) : zRR B n (f_X5_giveOut (B + a0) h0) (m_X5_giveOut a0 M0) := by
  unfold f_X5_giveOut m_X5_giveOut
  refine zr_bd (zr_lp (fun s1 h2 M2 w2 => ?_) 0 h0 M0 w0) (fun e3 h4 M4 w4 => ?_)
  · refine zr_gT w2 p0.1 rfl (fun t5 q5 => ?_)
    refine zr_gI w2 (zit_o q5) rfl ?_
    refine zr_if ?_ ?_
    · exact zr_ok w2
    · refine zr_cv w2 p0.1 (r_X5_isUp w2 a0 p0 s1) (fun v8 h7 M7 w7 => ?_)
      refine zr_if ?_ ?_
      · exact zr_ok w7
      · refine zr_gR w7 p0.1 rfl ?_
        refine zr_a0 w7 (p0.2.1 4 (by decide)) (fun v10 => ?_)
        refine zr_if ?_ ?_
        · refine zr_gR w7 p0.1 rfl ?_
          refine zr_cv w7 p0.1 (r_X5_whoTakes w7 a0 p0 s1) (fun v13 h12 M12 w12 => ?_)
          refine zr_s0 w12 (p0.2.1 4 (by decide)) (fun h14 M14 w14 => ?_)
          exact zr_ok w14
        · exact zr_ok w7
  · exact zr_ok w4
def m_X5_bounded (a0 : Int64) (a1 : Int32) (a2 : Int32) (M0 : zMem) : Option (Int32 × zMem) :=
  if (lg_cmp a0 (-9223372036854775808)) = 0 then
  some (a2, M0)
  else
  some ((Int64.toInt32 (zmxL 0 (zmnL (Int32.toInt64 a1) a0))), M0)
set_option maxRecDepth 100000 in
set_option maxHeartbeats 4000000 in
theorem r_X5_bounded {B n : Nat} {h0 : zHp} {M0 : zMem} (w0 : zW B n h0 M0) (a0 : Int64) (a1 : Int32) (a2 : Int32) : zRR B n (f_X5_bounded a0 a1 a2 h0) (m_X5_bounded a0 a1 a2 M0) := by
  unfold f_X5_bounded m_X5_bounded
  refine zr_if ?_ ?_
  · exact zr_ok w0
  · exact zr_ok w0
def m_X5_groundAt (a0 : Nat) (a1 : Int32) (a2 : Int32) (M0 : zMem) : Option (Int32 × zMem) :=
  if (M0.1 a0 13) = 5 then
  some (1, M0)
  else
  mbd (α := Int32) (
  if ((6 * a2) + a1) < 0 then
  some (0, M0)
  else
  if 24 ≤ ((6 * a2) + a1) then
  some (0, M0)
  else
  mlt (ztof (M0.1 a0 14)) (fun t2 =>
  zob (mrd M0 (t2 + 1) ((6 * a2) + a1)) (fun v4 =>
  some (v4, M0)))) (fun e5 M6 =>
  if (M6.1 a0 13) = 3 then
  if e5 = 2 then
  some (0, M6)
  else
  some (e5, M6)
  else
  some (e5, M6))
set_option maxRecDepth 100000 in
set_option maxHeartbeats 4000000 in
theorem r_X5_groundAt {B n : Nat} {h0 : zHp} {M0 : zMem} (w0 : zW B n h0 M0) (a0 : Nat) (p0 : zIS a0) (a1 : Int32) (a2 : Int32) : zRR B n (f_X5_groundAt (B + a0) a1 a2 h0) (m_X5_groundAt a0 a1 a2 M0) := by
  unfold f_X5_groundAt m_X5_groundAt
  refine zr_gI w0 p0.1 rfl ?_
  refine zr_if ?_ ?_
  · exact zr_ok w0
  · refine zr_bd ?_ (fun e5 h6 M6 w6 => ?_)
    · refine zr_if ?_ ?_
      · exact zr_ok w0
      · refine zr_if ?_ ?_
        · exact zr_ok w0
        · refine zr_gT w0 p0.1 rfl (fun t2 q2 => ?_)
          refine zr_gR w0 (zit_o q2) rfl ?_
          refine zr_a0 w0 (zta_0 q2) (fun v4 => ?_)
          exact zr_ok w0
    · refine zr_gI w6 p0.1 rfl ?_
      refine zr_if ?_ ?_
      · refine zr_if ?_ ?_
        · exact zr_ok w6
        · exact zr_ok w6
      · exact zr_ok w6
def m_X2_isTold (a0 : Nat) (a1 : Int32) (M0 : zMem) : Option (Int32 × zMem) :=
  zob (mrd M0 ((a0 + 13) + 2) a1) (fun v2 =>
  zob (mrd M0 ((a0 + 13) + 3) a1) (fun v4 =>
  if v4 ≤ v2 then
  some (0, M0)
  else
  some (1, M0)))
set_option maxRecDepth 100000 in
set_option maxHeartbeats 4000000 in
theorem r_X2_isTold {B n : Nat} {h0 : zHp} {M0 : zMem} (w0 : zW B n h0 M0) (a0 : Nat) (p0 : zIT a0) (a1 : Int32) : zRR B n (f_X2_isTold (B + (a0 + 13)) a1 h0) (m_X2_isTold a0 a1 M0) := by
  unfold f_X2_isTold m_X2_isTold
  refine zr_gR w0 (zit_l p0) rfl ?_
  refine zr_a0 w0 (zla_1 p0) (fun v2 => ?_)
  refine zr_gR w0 (zit_l p0) rfl ?_
  refine zr_a0 w0 (zla_2 p0) (fun v4 => ?_)
  refine zr_if ?_ ?_
  · exact zr_ok w0
  · exact zr_ok w0
def m_X2_combined (a0 : Int32) (a1 : Int64) (a2 : Int64) (M0 : zMem) : Option (Int64 × zMem) :=
  mbd (α := Int64) (
  if 0 ≤ (lg_cmp a1 0) then
  some (a1, M0)
  else
  some ((-a1), M0)) (fun e1 M2 =>
  mbd (α := Int64) (
  if 0 ≤ (lg_cmp a2 0) then
  some (a2, M2)
  else
  some ((-a2), M2)) (fun e3 M4 =>
  if a0 = 14 then
  if (lg_cmp a1 0) = 0 then
  some (0, M4)
  else
  if (lg_cmp a2 0) = 0 then
  some (0, M4)
  else
  some (1, M4)
  else if a0 = 15 then
  if (lg_cmp a1 0) = 0 then
  if (lg_cmp a2 0) = 0 then
  some (0, M4)
  else
  some (1, M4)
  else
  some (1, M4)
  else if a0 = 16 then
  if (lg_cmp a1 0) = 0 then
  if (lg_cmp a2 0) = 0 then
  some (0, M4)
  else
  some (1, M4)
  else
  some (1, M4)
  else if a0 = 17 then
  if (lg_cmp a1 0) = 0 then
  if (lg_cmp a2 0) = 0 then
  some (0, M4)
  else
  some (1, M4)
  else
  some (1, M4)
  else if a0 = 18 then
  if (lg_cmp a1 0) = 0 then
  if (lg_cmp a2 0) = 0 then
  some (0, M4)
  else
  some (1, M4)
  else
  some (1, M4)
  else if a0 = 19 then
  if (lg_cmp a1 0) = 0 then
  if (lg_cmp a2 0) = 0 then
  some (0, M4)
  else
  some (1, M4)
  else
  some (1, M4)
  else if a0 = 20 then
  if (lg_cmp a1 0) = 0 then
  if (lg_cmp a2 0) = 0 then
  some (0, M4)
  else
  some (1, M4)
  else
  some (1, M4)
  else if a0 = 21 then
  if (lg_cmp a1 0) = 0 then
  if (lg_cmp a2 0) = 0 then
  some (0, M4)
  else
  some (1, M4)
  else
  some (1, M4)
  else if a0 = 22 then
  if (lg_cmp a1 0) = 0 then
  if (lg_cmp a2 0) = 0 then
  some (0, M4)
  else
  some (1, M4)
  else
  some (1, M4)
  else if a0 = 23 then
  some ((a1 + a2), M4)
  else if a0 = 24 then
  some ((a1 - a2), M4)
  else if a0 = 25 then
  if (lg_cmp e1 0) = 0 then
  some ((a1 * a2), M4)
  else
  zob (zdl 1000000000000 e1) (fun v5 =>
  if (lg_cmp e3 v5) ≤ 0 then
  some ((a1 * a2), M4)
  else
  some ((-9223372036854775808), M4))
  else if a0 = 26 then
  if (lg_cmp a2 0) = 0 then
  some ((-9223372036854775808), M4)
  else
  zob (zdl a1 a2) (fun v6 =>
  some (v6, M4))
  else if a0 = 27 then
  if 0 ≤ (lg_cmp a1 a2) then
  some (0, M4)
  else
  some (1, M4)
  else if a0 = 28 then
  if 0 < (lg_cmp a1 a2) then
  some (0, M4)
  else
  some (1, M4)
  else if a0 = 29 then
  if (lg_cmp a1 a2) = 0 then
  some (1, M4)
  else
  some (0, M4)
  else if a0 = 30 then
  if (lg_cmp a1 a2) = 0 then
  some (0, M4)
  else
  some (1, M4)
  else if a0 = 31 then
  if (lg_cmp a1 a2) < 0 then
  some (0, M4)
  else
  some (1, M4)
  else if a0 = 32 then
  if (lg_cmp a1 a2) ≤ 0 then
  some (0, M4)
  else
  some (1, M4)
  else 
  if (lg_cmp a1 0) = 0 then
  if (lg_cmp a2 0) = 0 then
  some (0, M4)
  else
  some (1, M4)
  else
  some (1, M4)))
set_option maxRecDepth 100000 in
set_option maxHeartbeats 4000000 in
theorem r_X2_combined {B n : Nat} {h0 : zHp} {M0 : zMem} (w0 : zW B n h0 M0) (a0 : Int32) (a1 : Int64) (a2 : Int64) : zRR B n (f_X2_combined a0 a1 a2 h0) (m_X2_combined a0 a1 a2 M0) := by
  unfold f_X2_combined m_X2_combined
  refine zr_bd ?_ (fun e1 h2 M2 w2 => ?_)
  · refine zr_if ?_ ?_
    · exact zr_ok w0
    · exact zr_ok w0
  · refine zr_bd ?_ (fun e3 h4 M4 w4 => ?_)
    · refine zr_if ?_ ?_
      · exact zr_ok w2
      · exact zr_ok w2
    · refine zr_if ?_ ?_
      · refine zr_if ?_ ?_
        · exact zr_ok w4
        · refine zr_if ?_ ?_
          · exact zr_ok w4
          · exact zr_ok w4
      refine zr_if ?_ ?_
      · refine zr_if ?_ ?_
        · refine zr_if ?_ ?_
          · exact zr_ok w4
          · exact zr_ok w4
        · exact zr_ok w4
      refine zr_if ?_ ?_
      · refine zr_if ?_ ?_
        · refine zr_if ?_ ?_
          · exact zr_ok w4
          · exact zr_ok w4
        · exact zr_ok w4
      refine zr_if ?_ ?_
      · refine zr_if ?_ ?_
        · refine zr_if ?_ ?_
          · exact zr_ok w4
          · exact zr_ok w4
        · exact zr_ok w4
      refine zr_if ?_ ?_
      · refine zr_if ?_ ?_
        · refine zr_if ?_ ?_
          · exact zr_ok w4
          · exact zr_ok w4
        · exact zr_ok w4
      refine zr_if ?_ ?_
      · refine zr_if ?_ ?_
        · refine zr_if ?_ ?_
          · exact zr_ok w4
          · exact zr_ok w4
        · exact zr_ok w4
      refine zr_if ?_ ?_
      · refine zr_if ?_ ?_
        · refine zr_if ?_ ?_
          · exact zr_ok w4
          · exact zr_ok w4
        · exact zr_ok w4
      refine zr_if ?_ ?_
      · refine zr_if ?_ ?_
        · refine zr_if ?_ ?_
          · exact zr_ok w4
          · exact zr_ok w4
        · exact zr_ok w4
      refine zr_if ?_ ?_
      · refine zr_if ?_ ?_
        · refine zr_if ?_ ?_
          · exact zr_ok w4
          · exact zr_ok w4
        · exact zr_ok w4
      refine zr_if ?_ ?_
      · exact zr_ok w4
      refine zr_if ?_ ?_
      · exact zr_ok w4
      refine zr_if ?_ ?_
      · refine zr_if ?_ ?_
        · exact zr_ok w4
        · refine zr_obp (fun v5 => ?_)
          refine zr_if ?_ ?_
          · exact zr_ok w4
          · exact zr_ok w4
      refine zr_if ?_ ?_
      · refine zr_if ?_ ?_
        · exact zr_ok w4
        · refine zr_obp (fun v6 => ?_)
          exact zr_ok w4
      refine zr_if ?_ ?_
      · refine zr_if ?_ ?_
        · exact zr_ok w4
        · exact zr_ok w4
      refine zr_if ?_ ?_
      · refine zr_if ?_ ?_
        · exact zr_ok w4
        · exact zr_ok w4
      refine zr_if ?_ ?_
      · refine zr_if ?_ ?_
        · exact zr_ok w4
        · exact zr_ok w4
      refine zr_if ?_ ?_
      · refine zr_if ?_ ?_
        · exact zr_ok w4
        · exact zr_ok w4
      refine zr_if ?_ ?_
      · refine zr_if ?_ ?_
        · exact zr_ok w4
        · exact zr_ok w4
      refine zr_if ?_ ?_
      · refine zr_if ?_ ?_
        · exact zr_ok w4
        · exact zr_ok w4
      refine zr_if ?_ ?_
      · refine zr_if ?_ ?_
        · exact zr_ok w4
        · exact zr_ok w4
      · exact zr_ok w4
def m_X2_worth (a0 : Nat) (a1 : Int32) (a2 : Nat) (M0 : zMem) : Option (Int64 × zMem) :=
  zob (mrd M0 ((a0 + 13) + 2) a1) (fun v2 =>
  mbd (
  mlp (σ := (Int32 × Int32)) (β := ((Int32 × Int32) ⊕ Int64)) zLF (fun s3 M4 =>
  zob (mrd M4 ((a0 + 13) + 3) a1) (fun v8 =>
  if v8 ≤ s3.2 then
  some ((.inr (.inl (s3.1, s3.2))), M4)
  else
  zob (mrd M4 ((a0 + 13) + 1) s3.2) (fun v10 =>
  zob (mrd M4 ((a0 + 13) + 1) s3.2) (fun v12 =>
  mbd (α := (Int32 × Int64)) (
  if (v10 ^^^ (-1)) < 16 then
  mbd (α := (Unit ⊕ (Int32 × Int64))) (
  if (v10 ^^^ (-1)) = 15 then
  if s3.1 < 1 then
  some ((.inl ()), M4)
  else
  zob (mrdL M4 ((a0 + 13) + 4) (s3.1 + (-1))) (fun v14 =>
  if (lg_cmp v14 0) = 0 then
  some ((.inr ((s3.1 + (-1)), 1)), M4)
  else
  some ((.inr ((s3.1 + (-1)), 0)), M4))
  else
  some ((.inl ()), M4)) (fun b40 M16 => zsl b40 (fun e15 =>
  if (v10 ^^^ (-1)) < 0 then
  some ((s3.1, (Int32.toInt64 v12)), M16)
  else
  if s3.1 < 2 then
  some ((s3.1, (Int32.toInt64 v12)), M16)
  else
  zob (mrdL M16 ((a0 + 13) + 4) (s3.1 + (-2))) (fun v18 =>
  zob (mrdL M16 ((a0 + 13) + 4) ((s3.1 + (-2)) + 1)) (fun v20 =>
  mbd (m_X2_combined (v10 ^^^ (-1)) v18 v20 M16) (fun v22 M21 =>
  some (((s3.1 + (-2)), v22), M21))))) (fun r => some (r, M16)))
  else
  if 22 < (v10 ^^^ (-1)) then
  mbd (α := (Unit ⊕ (Int32 × Int64))) (
  if (v10 ^^^ (-1)) = 15 then
  if s3.1 < 1 then
  some ((.inl ()), M4)
  else
  zob (mrdL M4 ((a0 + 13) + 4) (s3.1 + (-1))) (fun v24 =>
  if (lg_cmp v24 0) = 0 then
  some ((.inr ((s3.1 + (-1)), 1)), M4)
  else
  some ((.inr ((s3.1 + (-1)), 0)), M4))
  else
  some ((.inl ()), M4)) (fun b41 M26 => zsl b41 (fun e25 =>
  if (v10 ^^^ (-1)) < 0 then
  some ((s3.1, (Int32.toInt64 v12)), M26)
  else
  if s3.1 < 2 then
  some ((s3.1, (Int32.toInt64 v12)), M26)
  else
  zob (mrdL M26 ((a0 + 13) + 4) (s3.1 + (-2))) (fun v28 =>
  zob (mrdL M26 ((a0 + 13) + 4) ((s3.1 + (-2)) + 1)) (fun v30 =>
  mbd (m_X2_combined (v10 ^^^ (-1)) v28 v30 M26) (fun v32 M31 =>
  some (((s3.1 + (-2)), v32), M31))))) (fun r => some (r, M26)))
  else
  zob (mrd M4 a2 ((v10 ^^^ (-1)) - 16)) (fun v33 =>
  some ((s3.1, (Int32.toInt64 v33)), M4))) (fun e34 M35 =>
  if 0 < (lg_cmp e34.2 1000000000000) then
  some ((.inr (.inr (-9223372036854775808))), M35)
  else
  if (lg_cmp e34.2 (-1000000000000)) < 0 then
  some ((.inr (.inr (-9223372036854775808))), M35)
  else
  if e34.1 < 64 then
  zob (mwrL M35 ((a0 + 13) + 4) e34.1 e34.2) (fun M37 =>
  some ((.inl ((e34.1 + 1), (s3.2 + 1))), M37))
  else
  some ((.inr (.inr (-9223372036854775808))), M35)))))) (0, v2) M0) (fun b42 M6 => zsl b42 (fun e5 =>
  if e5.1 = 1 then
  zob (mrdL M6 ((a0 + 13) + 4) 0) (fun v39 =>
  some (v39, M6))
  else
  some ((-9223372036854775808), M6)) (fun r => some (r, M6))))
set_option maxRecDepth 100000 in
set_option maxHeartbeats 4000000 in
theorem r_X2_worth {B n : Nat} {h0 : zHp} {M0 : zMem} (w0 : zW B n h0 M0) (a0 : Nat) (p0 : zIT a0) (a1 : Int32) (a2 : Nat) {Np2 : Nat} (p2 : zIA 0 Np2 a2) : zRR B n (f_X2_worth (B + (a0 + 13)) a1 (B + a2) h0) (m_X2_worth a0 a1 a2 M0) := by
  unfold f_X2_worth m_X2_worth
  refine zr_gR w0 (zit_l p0) rfl ?_
  refine zr_a0 w0 (zla_1 p0) (fun v2 => ?_)
  refine zr_bd (zr_lp (fun s3 h4 M4 w4 => ?_) (0, v2) h0 M0 w0) (fun b42 h6 M6 w6 => zr_sl (fun e5 => ?_) (fun r => zr_ok w6))
  · refine zr_gR w4 (zit_l p0) rfl ?_
    refine zr_a0 w4 (zla_2 p0) (fun v8 => ?_)
    refine zr_if ?_ ?_
    · exact zr_ok w4
    · refine zr_gR w4 (zit_l p0) rfl ?_
      refine zr_a0 w4 (zla_0 p0) (fun v10 => ?_)
      refine zr_gR w4 (zit_l p0) rfl ?_
      refine zr_a0 w4 (zla_0 p0) (fun v12 => ?_)
      refine zr_bd ?_ (fun e34 h35 M35 w35 => ?_)
      · refine zr_if ?_ ?_
        · refine zr_bd ?_ (fun b40 h16 M16 w16 => zr_sl (fun e15 => ?_) (fun r => zr_ok w16))
          · refine zr_if ?_ ?_
            · refine zr_if ?_ ?_
              · exact zr_ok w4
              · refine zr_gR w4 (zit_l p0) rfl ?_
                refine zr_a3 w4 (zit_s p0) (fun v14 => ?_)
                refine zr_if ?_ ?_
                · exact zr_ok w4
                · exact zr_ok w4
            · exact zr_ok w4
          · refine zr_if ?_ ?_
            · exact zr_ok w16
            · refine zr_if ?_ ?_
              · exact zr_ok w16
              · refine zr_gR w16 (zit_l p0) rfl ?_
                refine zr_a3 w16 (zit_s p0) (fun v18 => ?_)
                refine zr_gR w16 (zit_l p0) rfl ?_
                refine zr_a3 w16 (zit_s p0) (fun v20 => ?_)
                refine zr_bd (r_X2_combined w16 (v10 ^^^ (-1)) v18 v20) (fun v22 h21 M21 w21 => ?_)
                exact zr_ok w21
        · refine zr_if ?_ ?_
          · refine zr_bd ?_ (fun b41 h26 M26 w26 => zr_sl (fun e25 => ?_) (fun r => zr_ok w26))
            · refine zr_if ?_ ?_
              · refine zr_if ?_ ?_
                · exact zr_ok w4
                · refine zr_gR w4 (zit_l p0) rfl ?_
                  refine zr_a3 w4 (zit_s p0) (fun v24 => ?_)
                  refine zr_if ?_ ?_
                  · exact zr_ok w4
                  · exact zr_ok w4
              · exact zr_ok w4
            · refine zr_if ?_ ?_
              · exact zr_ok w26
              · refine zr_if ?_ ?_
                · exact zr_ok w26
                · refine zr_gR w26 (zit_l p0) rfl ?_
                  refine zr_a3 w26 (zit_s p0) (fun v28 => ?_)
                  refine zr_gR w26 (zit_l p0) rfl ?_
                  refine zr_a3 w26 (zit_s p0) (fun v30 => ?_)
                  refine zr_bd (r_X2_combined w26 (v10 ^^^ (-1)) v28 v30) (fun v32 h31 M31 w31 => ?_)
                  exact zr_ok w31
          · refine zr_a0 w4 p2 (fun v33 => ?_)
            exact zr_ok w4
      · refine zr_if ?_ ?_
        · exact zr_ok w35
        · refine zr_if ?_ ?_
          · exact zr_ok w35
          · refine zr_if ?_ ?_
            · refine zr_gR w35 (zit_l p0) rfl ?_
              refine zr_sL w35 (zit_s p0) (fun h37 M37 w37 => ?_)
              exact zr_ok w37
            · exact zr_ok w35
  · refine zr_if ?_ ?_
    · refine zr_gR w6 (zit_l p0) rfl ?_
      refine zr_a3 w6 (zit_s p0) (fun v39 => ?_)
      exact zr_ok w6
    · exact zr_ok w6
def m_X5_howManyAre (a0 : Nat) (a1 : Int32) (M0 : zMem) : Option (Int32 × zMem) :=
  mbd (
  mlp (σ := (Int32 × Int32)) (β := (Int32 × Int32)) zLF (fun s1 M2 =>
  mlt (ztof (M2.1 a0 14)) (fun t5 =>
  if (M2.1 t5 14) ≤ s1.2 then
  some ((.inr (s1.1, s1.2)), M2)
  else
  zob (mrd M2 (a0 + 6) s1.2) (fun v8 =>
  if v8 = a1 then
  some ((.inl ((s1.1 + 1), (s1.2 + 1))), M2)
  else
  some ((.inl (s1.1, (s1.2 + 1))), M2)))) (0, 0) M0) (fun e3 M4 =>
  some (e3.1, M4))
set_option maxRecDepth 100000 in
set_option maxHeartbeats 4000000 in
theorem r_X5_howManyAre {B n : Nat} {h0 : zHp} {M0 : zMem} (w0 : zW B n h0 M0) (a0 : Nat) (p0 : zIS a0) (a1 : Int32) : zRR B n (f_X5_howManyAre (B + a0) a1 h0) (m_X5_howManyAre a0 a1 M0) := by
  unfold f_X5_howManyAre m_X5_howManyAre
  refine zr_bd (zr_lp (fun s1 h2 M2 w2 => ?_) (0, 0) h0 M0 w0) (fun e3 h4 M4 w4 => ?_)
  · refine zr_gT w2 p0.1 rfl (fun t5 q5 => ?_)
    refine zr_gI w2 (zit_o q5) rfl ?_
    refine zr_if ?_ ?_
    · exact zr_ok w2
    · refine zr_gR w2 p0.1 rfl ?_
      refine zr_a0 w2 (p0.2.1 5 (by decide)) (fun v8 => ?_)
      refine zr_if ?_ ?_
      · exact zr_ok w2
      · exact zr_ok w2
  · exact zr_ok w4
def m_X5_worthOf (a0 : Nat) (a1 : Int32) (a2 : Int32) (M0 : zMem) : Option (Int64 × zMem) :=
  mlt (ztof (M0.1 a0 14)) (fun t1 =>
  mbd (m_X2_isTold t1 a1 M0) (fun v4 M3 =>
  if v4 = 0 then
  some ((-9223372036854775808), M3)
  else
  zob (mrd M3 (a0 + 5) a2) (fun v6 =>
  zob (mrd M3 (a0 + 3) a2) (fun v9 =>
  zob (mwr M3 (a0 + 18) 0 v9) (fun M10 =>
  zob (mrd M10 (a0 + 1) a2) (fun v13 =>
  zob (mrd M10 (a0 + 2) a2) (fun v15 =>
  mbd (m_X5_groundAt a0 v13 v15 M10) (fun v17 M16 =>
  zob (mwr M16 (a0 + 18) 1 v17) (fun M18 =>
  zob (mrd M18 (a0 + 4) a2) (fun v21 =>
  zob (mwr M18 (a0 + 18) 2 v21) (fun M22 =>
  mbd (α := Int32) (
  if v6 = (-1) then
  some (99, M22)
  else
  mbd (m_X5_howFar a0 v6 a2 M22) (fun v25 M24 =>
  some (v25, M24))) (fun e26 M27 =>
  zob (mwr M27 (a0 + 18) 3 e26) (fun M28 =>
  mbd (m_X5_howManyAre a0 1 M28) (fun v31 M30 =>
  zob (mwr M30 (a0 + 18) 4 v31) (fun M32 =>
  mbd (α := Int32) (
  if v6 = (-1) then
  some (0, M32)
  else
  zob (mrd M32 (a0 + 9) v6) (fun v35 =>
  some (v35, M32))) (fun e36 M37 =>
  zob (mwr M37 (a0 + 18) 5 e36) (fun M38 =>
  zob (mwr M38 (a0 + 18) 6 (M38.1 a0 11)) (fun M41 =>
  mlt (ztof (M41.1 a0 14)) (fun t42 =>
  mbd (m_X2_worth t42 a1 (a0 + 18) M41) (fun v46 M45 =>
  some (v46, M45)))))))))))))))))))))
set_option maxRecDepth 100000 in
set_option maxHeartbeats 4000000 in
theorem r_X5_worthOf {B n : Nat} {h0 : zHp} {M0 : zMem} (w0 : zW B n h0 M0) (a0 : Nat) (p0 : zIS a0) (a1 : Int32) (a2 : Int32) : zRR B n (f_X5_worthOf (B + a0) a1 a2 h0) (m_X5_worthOf a0 a1 a2 M0) := by
  unfold f_X5_worthOf m_X5_worthOf
  refine zr_gT w0 p0.1 rfl (fun t1 q1 => ?_)
  refine zr_gR w0 (zit_o q1) rfl ?_
  refine zr_cv w0 (zit_l q1) (r_X2_isTold w0 t1 q1 a1) (fun v4 h3 M3 w3 => ?_)
  refine zr_if ?_ ?_
  · exact zr_ok w3
  · refine zr_gR w3 p0.1 rfl ?_
    refine zr_a0 w3 (p0.2.1 4 (by decide)) (fun v6 => ?_)
    refine zr_gR w3 p0.1 rfl ?_
    refine zr_gR w3 p0.1 rfl ?_
    refine zr_a0 w3 (p0.2.1 2 (by decide)) (fun v9 => ?_)
    refine zr_s0 w3 p0.2.2.2.2.2.2 (fun h10 M10 w10 => ?_)
    refine zr_gR w10 p0.1 rfl ?_
    refine zr_gR w10 p0.1 rfl ?_
    refine zr_a0 w10 (p0.2.1 0 (by decide)) (fun v13 => ?_)
    refine zr_gR w10 p0.1 rfl ?_
    refine zr_a0 w10 (p0.2.1 1 (by decide)) (fun v15 => ?_)
    refine zr_cv w10 p0.1 (r_X5_groundAt w10 a0 p0 v13 v15) (fun v17 h16 M16 w16 => ?_)
    refine zr_s0 w16 p0.2.2.2.2.2.2 (fun h18 M18 w18 => ?_)
    refine zr_gR w18 p0.1 rfl ?_
    refine zr_gR w18 p0.1 rfl ?_
    refine zr_a0 w18 (p0.2.1 3 (by decide)) (fun v21 => ?_)
    refine zr_s0 w18 p0.2.2.2.2.2.2 (fun h22 M22 w22 => ?_)
    refine zr_gR w22 p0.1 rfl ?_
    refine zr_bd ?_ (fun e26 h27 M27 w27 => ?_)
    · refine zr_if ?_ ?_
      · exact zr_ok w22
      · refine zr_cv w22 p0.1 (r_X5_howFar w22 a0 p0 v6 a2) (fun v25 h24 M24 w24 => ?_)
        exact zr_ok w24
    · refine zr_s0 w27 p0.2.2.2.2.2.2 (fun h28 M28 w28 => ?_)
      refine zr_gR w28 p0.1 rfl ?_
      refine zr_cv w28 p0.1 (r_X5_howManyAre w28 a0 p0 1) (fun v31 h30 M30 w30 => ?_)
      refine zr_s0 w30 p0.2.2.2.2.2.2 (fun h32 M32 w32 => ?_)
      refine zr_gR w32 p0.1 rfl ?_
      refine zr_bd ?_ (fun e36 h37 M37 w37 => ?_)
      · refine zr_if ?_ ?_
        · exact zr_ok w32
        · refine zr_gR w32 p0.1 rfl ?_
          refine zr_a0 w32 (p0.2.2.1 2 (by decide)) (fun v35 => ?_)
          exact zr_ok w32
      · refine zr_s0 w37 p0.2.2.2.2.2.2 (fun h38 M38 w38 => ?_)
        refine zr_gR w38 p0.1 rfl ?_
        refine zr_gI w38 p0.1 rfl ?_
        refine zr_s0 w38 p0.2.2.2.2.2.2 (fun h41 M41 w41 => ?_)
        refine zr_gT w41 p0.1 rfl (fun t42 q42 => ?_)
        refine zr_gR w41 (zit_o q42) rfl ?_
        refine zr_gR w41 p0.1 rfl ?_
        refine zr_cv w41 (zit_l q42) (r_X2_worth w41 t42 q42 a1 (a0 + 18) p0.2.2.2.2.2.2) (fun v46 h45 M45 w45 => ?_)
        exact zr_ok w45
def m_X5_growClouds (a0 : Nat) (M0 : zMem) : Option (Unit × zMem) :=
  mbd (
  mlp (σ := Int32) (β := Int32) zLF (fun s1 M2 =>
  mlt (ztof (M2.1 a0 14)) (fun t5 =>
  if (M2.1 t5 14) ≤ s1 then
  some ((.inr s1), M2)
  else
  mbd (m_X5_isUp a0 s1 M2) (fun v8 M7 =>
  if v8 = 0 then
  some ((.inl (s1 + 1)), M7)
  else
  zob (mrd M7 (a0 + 1) s1) (fun v10 =>
  zob (mrd M7 (a0 + 2) s1) (fun v12 =>
  mbd (m_X5_groundAt a0 v10 v12 M7) (fun v14 M13 =>
  mbd (α := Int32) (
  if v14 = 1 then
  some (1, M13)
  else
  some (0, M13)) (fun e15 M16 =>
  mbd (m_X5_worthOf a0 0 s1 M16) (fun v18 M17 =>
  mbd (m_X5_bounded v18 9 e15 M17) (fun v20 M19 =>
  zob (mrd M19 (a0 + 3) s1) (fun v23 =>
  zob (mwr M19 (a0 + 3) s1 (zmn 20 (v23 + v20))) (fun M24 =>
  some ((.inl (s1 + 1)), M24)))))))))))) 0 M0) (fun e3 M4 =>
  some ((), M4))
set_option maxRecDepth 100000 in
set_option maxHeartbeats 4000000 in
theorem r_X5_growClouds {B n : Nat} {h0 : zHp} {M0 : zMem} (w0 : zW B n h0 M0) (a0 : Nat) (p0 : zIS a0) : zRR B n (f_X5_growClouds (B + a0) h0) (m_X5_growClouds a0 M0) := by
  unfold f_X5_growClouds m_X5_growClouds
  refine zr_bd (zr_lp (fun s1 h2 M2 w2 => ?_) 0 h0 M0 w0) (fun e3 h4 M4 w4 => ?_)
  · refine zr_gT w2 p0.1 rfl (fun t5 q5 => ?_)
    refine zr_gI w2 (zit_o q5) rfl ?_
    refine zr_if ?_ ?_
    · exact zr_ok w2
    · refine zr_cv w2 p0.1 (r_X5_isUp w2 a0 p0 s1) (fun v8 h7 M7 w7 => ?_)
      refine zr_if ?_ ?_
      · exact zr_ok w7
      · refine zr_gR w7 p0.1 rfl ?_
        refine zr_a0 w7 (p0.2.1 0 (by decide)) (fun v10 => ?_)
        refine zr_gR w7 p0.1 rfl ?_
        refine zr_a0 w7 (p0.2.1 1 (by decide)) (fun v12 => ?_)
        refine zr_cv w7 p0.1 (r_X5_groundAt w7 a0 p0 v10 v12) (fun v14 h13 M13 w13 => ?_)
        refine zr_bd ?_ (fun e15 h16 M16 w16 => ?_)
        · refine zr_if ?_ ?_
          · exact zr_ok w13
          · exact zr_ok w13
        · refine zr_cv w16 p0.1 (r_X5_worthOf w16 a0 p0 0 s1) (fun v18 h17 M17 w17 => ?_)
          refine zr_bd (r_X5_bounded w17 v18 9 e15) (fun v20 h19 M19 w19 => ?_)
          refine zr_gR w19 p0.1 rfl ?_
          refine zr_gR w19 p0.1 rfl ?_
          refine zr_a0 w19 (p0.2.1 2 (by decide)) (fun v23 => ?_)
          refine zr_s0 w19 (p0.2.1 2 (by decide)) (fun h24 M24 w24 => ?_)
          exact zr_ok w24
  · exact zr_ok w4
def m_X5_joinTwo (a0 : Nat) (a1 : Int32) (a2 : Int32) (M0 : zMem) : Option (Unit × zMem) :=
  zob (mrd M0 (a0 + 3) a2) (fun v2 =>
  zob (mrd M0 (a0 + 3) a1) (fun v4 =>
  mbd (α := Int32) (
  if v2 ≤ v4 then
  some (a1, M0)
  else
  some (a2, M0)) (fun e5 M6 =>
  mbd (α := Int32) (
  if e5 = a1 then
  some (a2, M6)
  else
  some (a1, M6)) (fun e7 M8 =>
  zob (mrd M8 (a0 + 3) a1) (fun v11 =>
  zob (mrd M8 (a0 + 3) a2) (fun v13 =>
  zob (mwr M8 (a0 + 3) e5 (zmn 20 (v11 + v13))) (fun M14 =>
  zob (mwr M14 (a0 + 6) e7 3) (fun M16 =>
  some ((), M16)))))))))
set_option maxRecDepth 100000 in
set_option maxHeartbeats 4000000 in
theorem r_X5_joinTwo {B n : Nat} {h0 : zHp} {M0 : zMem} (w0 : zW B n h0 M0) (a0 : Nat) (p0 : zIS a0) (a1 : Int32) (a2 : Int32) : zRR B n (f_X5_joinTwo (B + a0) a1 a2 h0) (m_X5_joinTwo a0 a1 a2 M0) := by
  unfold f_X5_joinTwo m_X5_joinTwo
  refine zr_gR w0 p0.1 rfl ?_
  refine zr_a0 w0 (p0.2.1 2 (by decide)) (fun v2 => ?_)
  refine zr_gR w0 p0.1 rfl ?_
  refine zr_a0 w0 (p0.2.1 2 (by decide)) (fun v4 => ?_)
  refine zr_bd ?_ (fun e5 h6 M6 w6 => ?_)
  · refine zr_if ?_ ?_
    · exact zr_ok w0
    · exact zr_ok w0
  · refine zr_bd ?_ (fun e7 h8 M8 w8 => ?_)
    · refine zr_if ?_ ?_
      · exact zr_ok w6
      · exact zr_ok w6
    · refine zr_gR w8 p0.1 rfl ?_
      refine zr_gR w8 p0.1 rfl ?_
      refine zr_a0 w8 (p0.2.1 2 (by decide)) (fun v11 => ?_)
      refine zr_gR w8 p0.1 rfl ?_
      refine zr_a0 w8 (p0.2.1 2 (by decide)) (fun v13 => ?_)
      refine zr_s0 w8 (p0.2.1 2 (by decide)) (fun h14 M14 w14 => ?_)
      refine zr_gR w14 p0.1 rfl ?_
      refine zr_s0 w14 (p0.2.1 5 (by decide)) (fun h16 M16 w16 => ?_)
      exact zr_ok w16
def m_X5_joinClouds (a0 : Nat) (M0 : zMem) : Option (Unit × zMem) :=
  mbd (
  mlp (σ := Int32) (β := Int32) zLF (fun s1 M2 =>
  mlt (ztof (M2.1 a0 14)) (fun t5 =>
  if (M2.1 t5 14) ≤ s1 then
  some ((.inr s1), M2)
  else
  mbd (
  mlp (σ := Int32) (β := Int32) zLF (fun s7 M8 =>
  mlt (ztof (M8.1 a0 14)) (fun t11 =>
  if (M8.1 t11 14) ≤ s7 then
  some ((.inr s7), M8)
  else
  mbd (m_X5_isUp a0 s1 M8) (fun v14 M13 =>
  if v14 = 0 then
  some ((.inr s7), M13)
  else
  mbd (m_X5_isUp a0 s7 M13) (fun v16 M15 =>
  if v16 = 0 then
  some ((.inl (s7 + 1)), M15)
  else
  zob (mrd M15 (a0 + 1) s1) (fun v18 =>
  zob (mrd M15 (a0 + 1) s7) (fun v20 =>
  if v18 = v20 then
  zob (mrd M15 (a0 + 2) s1) (fun v22 =>
  zob (mrd M15 (a0 + 2) s7) (fun v24 =>
  if v22 = v24 then
  mbd (m_X5_joinTwo a0 s1 s7 M15) (fun v26 M25 =>
  some ((.inl (s7 + 1)), M25))
  else
  some ((.inl (s7 + 1)), M15)))
  else
  some ((.inl (s7 + 1)), M15))))))) (s1 + 1) M2) (fun e9 M10 =>
  some ((.inl (s1 + 1)), M10)))) 0 M0) (fun e3 M4 =>
  some ((), M4))
set_option maxRecDepth 100000 in
set_option maxHeartbeats 4000000 in
theorem r_X5_joinClouds {B n : Nat} {h0 : zHp} {M0 : zMem} (w0 : zW B n h0 M0) (a0 : Nat) (p0 : zIS a0) : zRR B n (f_X5_joinClouds (B + a0) h0) (m_X5_joinClouds a0 M0) := by
  unfold f_X5_joinClouds m_X5_joinClouds
  refine zr_bd (zr_lp (fun s1 h2 M2 w2 => ?_) 0 h0 M0 w0) (fun e3 h4 M4 w4 => ?_)
  · refine zr_gT w2 p0.1 rfl (fun t5 q5 => ?_)
    refine zr_gI w2 (zit_o q5) rfl ?_
    refine zr_if ?_ ?_
    · exact zr_ok w2
    · refine zr_bd (zr_lp (fun s7 h8 M8 w8 => ?_) (s1 + 1) h2 M2 w2) (fun e9 h10 M10 w10 => ?_)
      · refine zr_gT w8 p0.1 rfl (fun t11 q11 => ?_)
        refine zr_gI w8 (zit_o q11) rfl ?_
        refine zr_if ?_ ?_
        · exact zr_ok w8
        · refine zr_cv w8 p0.1 (r_X5_isUp w8 a0 p0 s1) (fun v14 h13 M13 w13 => ?_)
          refine zr_if ?_ ?_
          · exact zr_ok w13
          · refine zr_cv w13 p0.1 (r_X5_isUp w13 a0 p0 s7) (fun v16 h15 M15 w15 => ?_)
            refine zr_if ?_ ?_
            · exact zr_ok w15
            · refine zr_gR w15 p0.1 rfl ?_
              refine zr_a0 w15 (p0.2.1 0 (by decide)) (fun v18 => ?_)
              refine zr_gR w15 p0.1 rfl ?_
              refine zr_a0 w15 (p0.2.1 0 (by decide)) (fun v20 => ?_)
              refine zr_if ?_ ?_
              · refine zr_gR w15 p0.1 rfl ?_
                refine zr_a0 w15 (p0.2.1 1 (by decide)) (fun v22 => ?_)
                refine zr_gR w15 p0.1 rfl ?_
                refine zr_a0 w15 (p0.2.1 1 (by decide)) (fun v24 => ?_)
                refine zr_if ?_ ?_
                · refine zr_cv w15 p0.1 (r_X5_joinTwo w15 a0 p0 s1 s7) (fun v26 h25 M25 w25 => ?_)
                  exact zr_ok w25
                · exact zr_ok w15
              · exact zr_ok w15
      · exact zr_ok w10
  · exact zr_ok w4
def m_X5_markChildren (a0 : Nat) (M0 : zMem) : Option (Unit × zMem) :=
  mbd (
  mlp (σ := Int32) (β := Int32) zLF (fun s1 M2 =>
  mlt (ztof (M2.1 a0 14)) (fun t5 =>
  if (M2.1 t5 15) ≤ s1 then
  some ((.inr s1), M2)
  else
  mbd (
  mlp (σ := Int32) (β := Int32) zLF (fun s7 M8 =>
  mlt (ztof (M8.1 a0 14)) (fun t11 =>
  if (M8.1 t11 14) ≤ s7 then
  some ((.inr s7), M8)
  else
  mbd (m_X5_isUp a0 s7 M8) (fun v14 M13 =>
  if v14 = 0 then
  some ((.inl (s7 + 1)), M13)
  else
  zob (mrd M13 (a0 + 5) s7) (fun v16 =>
  if v16 = s1 then
  zob (mrd M13 (a0 + 9) s1) (fun v18 =>
  mbd (m_X5_worthOf a0 2 s7 M13) (fun v20 M19 =>
  mbd (m_X5_canSee a0 s1 s7 M19) (fun v22 M21 =>
  mbd (α := Int32) (
  if v22 = 0 then
  some (0, M21)
  else
  some (1, M21)) (fun e23 M24 =>
  mbd (m_X5_bounded v20 9 e23 M24) (fun v26 M25 =>
  zob (mwr M25 (a0 + 9) s1 (v18 + v26)) (fun M27 =>
  some ((.inl (s7 + 1)), M27)))))))
  else
  some ((.inl (s7 + 1)), M13))))) 0 M2) (fun e9 M10 =>
  some ((.inl (s1 + 1)), M10)))) 0 M0) (fun e3 M4 =>
  some ((), M4))
set_option maxRecDepth 100000 in
set_option maxHeartbeats 4000000 in
theorem r_X5_markChildren {B n : Nat} {h0 : zHp} {M0 : zMem} (w0 : zW B n h0 M0) (a0 : Nat) (p0 : zIS a0) : zRR B n (f_X5_markChildren (B + a0) h0) (m_X5_markChildren a0 M0) := by
  unfold f_X5_markChildren m_X5_markChildren
  refine zr_bd (zr_lp (fun s1 h2 M2 w2 => ?_) 0 h0 M0 w0) (fun e3 h4 M4 w4 => ?_)
  · refine zr_gT w2 p0.1 rfl (fun t5 q5 => ?_)
    refine zr_gI w2 (zit_o q5) rfl ?_
    refine zr_if ?_ ?_
    · exact zr_ok w2
    · refine zr_bd (zr_lp (fun s7 h8 M8 w8 => ?_) 0 h2 M2 w2) (fun e9 h10 M10 w10 => ?_)
      · refine zr_gT w8 p0.1 rfl (fun t11 q11 => ?_)
        refine zr_gI w8 (zit_o q11) rfl ?_
        refine zr_if ?_ ?_
        · exact zr_ok w8
        · refine zr_cv w8 p0.1 (r_X5_isUp w8 a0 p0 s7) (fun v14 h13 M13 w13 => ?_)
          refine zr_if ?_ ?_
          · exact zr_ok w13
          · refine zr_gR w13 p0.1 rfl ?_
            refine zr_a0 w13 (p0.2.1 4 (by decide)) (fun v16 => ?_)
            refine zr_if ?_ ?_
            · refine zr_gR w13 p0.1 rfl ?_
              refine zr_a0 w13 (p0.2.2.1 2 (by decide)) (fun v18 => ?_)
              refine zr_cv w13 p0.1 (r_X5_worthOf w13 a0 p0 2 s7) (fun v20 h19 M19 w19 => ?_)
              refine zr_cv w19 p0.1 (r_X5_canSee w19 a0 p0 s1 s7) (fun v22 h21 M21 w21 => ?_)
              refine zr_bd ?_ (fun e23 h24 M24 w24 => ?_)
              · refine zr_if ?_ ?_
                · exact zr_ok w21
                · exact zr_ok w21
              · refine zr_bd (r_X5_bounded w24 v20 9 e23) (fun v26 h25 M25 w25 => ?_)
                refine zr_s0 w25 (p0.2.2.1 2 (by decide)) (fun h27 M27 w27 => ?_)
                exact zr_ok w27
            · exact zr_ok w13
      · exact zr_ok w10
  · exact zr_ok w4
def m_X5_wetFields (a0 : Nat) (a1 : Int32) (a2 : Int32) (M0 : zMem) : Option (Unit × zMem) :=
  mbd (
  mlp (σ := Int32) (β := Int32) zLF (fun s1 M2 =>
  mlt (ztof (M2.1 a0 14)) (fun t5 =>
  if (M2.1 t5 13) ≤ s1 then
  some ((.inr s1), M2)
  else
  mlt (ztof (M2.1 a0 14)) (fun t7 =>
  zob (mrd M2 (t7 + 3) s1) (fun v9 =>
  zob (mrd M2 (a0 + 2) a1) (fun v11 =>
  zob (mrd M2 (a0 + 1) a1) (fun v13 =>
  if v9 = ((6 * v11) + v13) then
  zob (mrd M2 (a0 + 10) s1) (fun v15 =>
  zob (mwr M2 (a0 + 10) s1 (v15 + a2)) (fun M16 =>
  zob (mrd M16 (a0 + 5) a1) (fun v18 =>
  if v18 = (-1) then
  some ((.inl (s1 + 1)), M16)
  else
  zob (mrd M16 (a0 + 5) a1) (fun v21 =>
  zob (mrw (a0 + 11) v21) (fun t22 =>
  zob (mrd M16 t22 s1) (fun v23 =>
  zob (mwr M16 t22 s1 (v23 + a2)) (fun M24 =>
  some ((.inl (s1 + 1)), M24))))))))
  else
  some ((.inl (s1 + 1)), M2))))))) 0 M0) (fun e3 M4 =>
  some ((), M4))
set_option maxRecDepth 100000 in
set_option maxHeartbeats 4000000 in
theorem r_X5_wetFields {B n : Nat} {h0 : zHp} {M0 : zMem} (w0 : zW B n h0 M0) (a0 : Nat) (p0 : zIS a0) (a1 : Int32) (a2 : Int32) : zRR B n (f_X5_wetFields (B + a0) a1 a2 h0) (m_X5_wetFields a0 a1 a2 M0) := by
  unfold f_X5_wetFields m_X5_wetFields
  refine zr_bd (zr_lp (fun s1 h2 M2 w2 => ?_) 0 h0 M0 w0) (fun e3 h4 M4 w4 => ?_)
  · refine zr_gT w2 p0.1 rfl (fun t5 q5 => ?_)
    refine zr_gI w2 (zit_o q5) rfl ?_
    refine zr_if ?_ ?_
    · exact zr_ok w2
    · refine zr_gT w2 p0.1 rfl (fun t7 q7 => ?_)
      refine zr_gR w2 (zit_o q7) rfl ?_
      refine zr_a0 w2 (zta_2 q7) (fun v9 => ?_)
      refine zr_gR w2 p0.1 rfl ?_
      refine zr_a0 w2 (p0.2.1 1 (by decide)) (fun v11 => ?_)
      refine zr_gR w2 p0.1 rfl ?_
      refine zr_a0 w2 (p0.2.1 0 (by decide)) (fun v13 => ?_)
      refine zr_if ?_ ?_
      · refine zr_gR w2 p0.1 rfl ?_
        refine zr_a0 w2 p0.2.2.2.1 (fun v15 => ?_)
        refine zr_s0 w2 p0.2.2.2.1 (fun h16 M16 w16 => ?_)
        refine zr_gR w16 p0.1 rfl ?_
        refine zr_a0 w16 (p0.2.1 4 (by decide)) (fun v18 => ?_)
        refine zr_if ?_ ?_
        · exact zr_ok w16
        · refine zr_gR w16 p0.1 rfl ?_
          refine zr_gR w16 p0.1 rfl ?_
          refine zr_a0 w16 (p0.2.1 4 (by decide)) (fun v21 => ?_)
          refine zr_rw w16 p0.2.2.2.2.1 p0.2.2.2.2.2.1 (fun t22 q22 => ?_)
          refine zr_a0 w16 q22 (fun v23 => ?_)
          refine zr_s0 w16 q22 (fun h24 M24 w24 => ?_)
          exact zr_ok w24
      · exact zr_ok w2
  · exact zr_ok w4
def m_X5_rainDown (a0 : Nat) (M0 : zMem) : Option (Unit × zMem) :=
  mbd (
  mlp (σ := Int32) (β := Int32) zLF (fun s1 M2 =>
  mlt (ztof (M2.1 a0 14)) (fun t5 =>
  if (M2.1 t5 14) ≤ s1 then
  some ((.inr s1), M2)
  else
  mbd (m_X5_isUp a0 s1 M2) (fun v8 M7 =>
  if v8 = 0 then
  some ((.inl (s1 + 1)), M7)
  else
  zob (mrd M7 (a0 + 3) s1) (fun v10 =>
  mlt (ztof (M7.1 a0 14)) (fun t11 =>
  if (M7.1 t11 17) ≤ v10 then
  mbd (m_X5_worthOf a0 1 s1 M7) (fun v14 M13 =>
  zob (mrd M13 (a0 + 3) s1) (fun v16 =>
  zob (mrd M13 (a0 + 3) s1) (fun v18 =>
  mbd (m_X5_bounded v14 v16 (zmx 1 (v18 / 2)) M13) (fun v20 M19 =>
  mbd (m_X5_wetFields a0 s1 v20 M19) (fun v22 M21 =>
  zob (mrd M21 (a0 + 3) s1) (fun v24 =>
  zob (mwr M21 (a0 + 3) s1 (v24 - v20)) (fun M25 =>
  zob (mrd M25 (a0 + 3) s1) (fun v27 =>
  if v27 = 0 then
  zob (mwr M25 (a0 + 6) s1 4) (fun M29 =>
  some ((.inl (s1 + 1)), M29))
  else
  some ((.inl (s1 + 1)), M25)))))))))
  else
  zob (mrd M7 (a0 + 1) s1) (fun v31 =>
  zob (mrd M7 (a0 + 2) s1) (fun v33 =>
  mbd (m_X5_groundAt a0 v31 v33 M7) (fun v35 M34 =>
  if v35 = 2 then
  mbd (m_X5_worthOf a0 1 s1 M34) (fun v37 M36 =>
  zob (mrd M36 (a0 + 3) s1) (fun v39 =>
  zob (mrd M36 (a0 + 3) s1) (fun v41 =>
  mbd (m_X5_bounded v37 v39 (zmx 1 (v41 / 2)) M36) (fun v43 M42 =>
  mbd (m_X5_wetFields a0 s1 v43 M42) (fun v45 M44 =>
  zob (mrd M44 (a0 + 3) s1) (fun v47 =>
  zob (mwr M44 (a0 + 3) s1 (v47 - v43)) (fun M48 =>
  zob (mrd M48 (a0 + 3) s1) (fun v50 =>
  if v50 = 0 then
  zob (mwr M48 (a0 + 6) s1 4) (fun M52 =>
  some ((.inl (s1 + 1)), M52))
  else
  some ((.inl (s1 + 1)), M48)))))))))
  else
  some ((.inl (s1 + 1)), M34))))))))) 0 M0) (fun e3 M4 =>
  some ((), M4))
set_option maxRecDepth 100000 in
set_option maxHeartbeats 4000000 in
theorem r_X5_rainDown {B n : Nat} {h0 : zHp} {M0 : zMem} (w0 : zW B n h0 M0) (a0 : Nat) (p0 : zIS a0) : zRR B n (f_X5_rainDown (B + a0) h0) (m_X5_rainDown a0 M0) := by
  unfold f_X5_rainDown m_X5_rainDown
  refine zr_bd (zr_lp (fun s1 h2 M2 w2 => ?_) 0 h0 M0 w0) (fun e3 h4 M4 w4 => ?_)
  · refine zr_gT w2 p0.1 rfl (fun t5 q5 => ?_)
    refine zr_gI w2 (zit_o q5) rfl ?_
    refine zr_if ?_ ?_
    · exact zr_ok w2
    · refine zr_cv w2 p0.1 (r_X5_isUp w2 a0 p0 s1) (fun v8 h7 M7 w7 => ?_)
      refine zr_if ?_ ?_
      · exact zr_ok w7
      · refine zr_gR w7 p0.1 rfl ?_
        refine zr_a0 w7 (p0.2.1 2 (by decide)) (fun v10 => ?_)
        refine zr_gT w7 p0.1 rfl (fun t11 q11 => ?_)
        refine zr_gI w7 (zit_o q11) rfl ?_
        refine zr_if ?_ ?_
        · refine zr_cv w7 p0.1 (r_X5_worthOf w7 a0 p0 1 s1) (fun v14 h13 M13 w13 => ?_)
          refine zr_gR w13 p0.1 rfl ?_
          refine zr_a0 w13 (p0.2.1 2 (by decide)) (fun v16 => ?_)
          refine zr_gR w13 p0.1 rfl ?_
          refine zr_a0 w13 (p0.2.1 2 (by decide)) (fun v18 => ?_)
          refine zr_bd (r_X5_bounded w13 v14 v16 (zmx 1 (v18 / 2))) (fun v20 h19 M19 w19 => ?_)
          refine zr_cv w19 p0.1 (r_X5_wetFields w19 a0 p0 s1 v20) (fun v22 h21 M21 w21 => ?_)
          refine zr_gR w21 p0.1 rfl ?_
          refine zr_a0 w21 (p0.2.1 2 (by decide)) (fun v24 => ?_)
          refine zr_s0 w21 (p0.2.1 2 (by decide)) (fun h25 M25 w25 => ?_)
          refine zr_gR w25 p0.1 rfl ?_
          refine zr_a0 w25 (p0.2.1 2 (by decide)) (fun v27 => ?_)
          refine zr_if ?_ ?_
          · refine zr_gR w25 p0.1 rfl ?_
            refine zr_s0 w25 (p0.2.1 5 (by decide)) (fun h29 M29 w29 => ?_)
            exact zr_ok w29
          · exact zr_ok w25
        · refine zr_gR w7 p0.1 rfl ?_
          refine zr_a0 w7 (p0.2.1 0 (by decide)) (fun v31 => ?_)
          refine zr_gR w7 p0.1 rfl ?_
          refine zr_a0 w7 (p0.2.1 1 (by decide)) (fun v33 => ?_)
          refine zr_cv w7 p0.1 (r_X5_groundAt w7 a0 p0 v31 v33) (fun v35 h34 M34 w34 => ?_)
          refine zr_if ?_ ?_
          · refine zr_cv w34 p0.1 (r_X5_worthOf w34 a0 p0 1 s1) (fun v37 h36 M36 w36 => ?_)
            refine zr_gR w36 p0.1 rfl ?_
            refine zr_a0 w36 (p0.2.1 2 (by decide)) (fun v39 => ?_)
            refine zr_gR w36 p0.1 rfl ?_
            refine zr_a0 w36 (p0.2.1 2 (by decide)) (fun v41 => ?_)
            refine zr_bd (r_X5_bounded w36 v37 v39 (zmx 1 (v41 / 2))) (fun v43 h42 M42 w42 => ?_)
            refine zr_cv w42 p0.1 (r_X5_wetFields w42 a0 p0 s1 v43) (fun v45 h44 M44 w44 => ?_)
            refine zr_gR w44 p0.1 rfl ?_
            refine zr_a0 w44 (p0.2.1 2 (by decide)) (fun v47 => ?_)
            refine zr_s0 w44 (p0.2.1 2 (by decide)) (fun h48 M48 w48 => ?_)
            refine zr_gR w48 p0.1 rfl ?_
            refine zr_a0 w48 (p0.2.1 2 (by decide)) (fun v50 => ?_)
            refine zr_if ?_ ?_
            · refine zr_gR w48 p0.1 rfl ?_
              refine zr_s0 w48 (p0.2.1 5 (by decide)) (fun h52 M52 w52 => ?_)
              exact zr_ok w52
            · exact zr_ok w48
          · exact zr_ok w34
  · exact zr_ok w4
def m_X5_passHour (a0 : Nat) (a1 : Int32) (M0 : zMem) : Option (Unit × zMem) :=
  mbd (m_X5_bearClouds a0 M0) (fun v2 M1 =>
  mbd (m_X5_drift a0 a1 M1) (fun v4 M3 =>
  mbd (m_X5_growClouds a0 M3) (fun v6 M5 =>
  mbd (α := Unit) (
  if (M5.1 a0 13) = 4 then
  some ((), M5)
  else
  mbd (m_X5_joinClouds a0 M5) (fun v9 M8 =>
  some ((), M8))) (fun e10 M11 =>
  mbd (m_X5_rainDown a0 M11) (fun v13 M12 =>
  mbd (m_X5_giveOut a0 M12) (fun v15 M14 =>
  mbd (m_X5_markChildren a0 M14) (fun v17 M16 =>
  mbd (
  mlp (σ := Int32) (β := Int32) zLF (fun s18 M19 =>
  mlt (ztof (M19.1 a0 14)) (fun t22 =>
  if (M19.1 t22 14) ≤ s18 then
  some ((.inr s18), M19)
  else
  mbd (m_X5_isUp a0 s18 M19) (fun v25 M24 =>
  if v25 = 0 then
  some ((.inl (s18 + 1)), M24)
  else
  zob (mrd M24 (a0 + 4) s18) (fun v27 =>
  zob (mwr M24 (a0 + 4) s18 (v27 + 1)) (fun M28 =>
  some ((.inl (s18 + 1)), M28)))))) 0 M16) (fun e20 M21 =>
  mlt (mup M21 a0 11 ((M21.1 a0 11) + 1)) (fun M30 =>
  some ((), M30))))))))))
set_option maxRecDepth 100000 in
set_option maxHeartbeats 4000000 in
theorem r_X5_passHour {B n : Nat} {h0 : zHp} {M0 : zMem} (w0 : zW B n h0 M0) (a0 : Nat) (p0 : zIS a0) (a1 : Int32) : zRR B n (f_X5_passHour (B + a0) a1 h0) (m_X5_passHour a0 a1 M0) := by
  unfold f_X5_passHour m_X5_passHour
  refine zr_cv w0 p0.1 (r_X5_bearClouds w0 a0 p0) (fun v2 h1 M1 w1 => ?_)
  refine zr_cv w1 p0.1 (r_X5_drift w1 a0 p0 a1) (fun v4 h3 M3 w3 => ?_)
  refine zr_cv w3 p0.1 (r_X5_growClouds w3 a0 p0) (fun v6 h5 M5 w5 => ?_)
  refine zr_gI w5 p0.1 rfl ?_
  refine zr_bd ?_ (fun e10 h11 M11 w11 => ?_)
  · refine zr_if ?_ ?_
    · exact zr_ok w5
    · refine zr_cv w5 p0.1 (r_X5_joinClouds w5 a0 p0) (fun v9 h8 M8 w8 => ?_)
      exact zr_ok w8
  · refine zr_cv w11 p0.1 (r_X5_rainDown w11 a0 p0) (fun v13 h12 M12 w12 => ?_)
    refine zr_cv w12 p0.1 (r_X5_giveOut w12 a0 p0) (fun v15 h14 M14 w14 => ?_)
    refine zr_cv w14 p0.1 (r_X5_markChildren w14 a0 p0) (fun v17 h16 M16 w16 => ?_)
    refine zr_bd (zr_lp (fun s18 h19 M19 w19 => ?_) 0 h16 M16 w16) (fun e20 h21 M21 w21 => ?_)
    · refine zr_gT w19 p0.1 rfl (fun t22 q22 => ?_)
      refine zr_gI w19 (zit_o q22) rfl ?_
      refine zr_if ?_ ?_
      · exact zr_ok w19
      · refine zr_cv w19 p0.1 (r_X5_isUp w19 a0 p0 s18) (fun v25 h24 M24 w24 => ?_)
        refine zr_if ?_ ?_
        · exact zr_ok w24
        · refine zr_gR w24 p0.1 rfl ?_
          refine zr_a0 w24 (p0.2.1 3 (by decide)) (fun v27 => ?_)
          refine zr_s0 w24 (p0.2.1 3 (by decide)) (fun h28 M28 w28 => ?_)
          exact zr_ok w28
    · refine zr_gI w21 p0.1 rfl ?_
      refine zr_pV w21 p0.1 (Nat.le_of_ble_eq_true rfl) rfl (fun h30 M30 w30 => ?_)
      exact zr_ok w30
def m_X5_startOf (a0 : Nat) (a1 : Nat) (M0 : zMem) : Option (Unit × zMem) :=
  mlt (mup M0 a0 14 (ztenc a1)) (fun M1 =>
  mlt (mup M1 a0 11 0) (fun M2 =>
  mlt (mup M2 a0 12 (-1)) (fun M3 =>
  mlt (mup M3 a0 13 0) (fun M4 =>
  mbd (
  mlp (σ := Int32) (β := Int32) zLF (fun s5 M6 =>
  if 8 ≤ s5 then
  some ((.inr s5), M6)
  else
  zob (mrd M6 (a1 + 6) s5) (fun v11 =>
  zob (mwr M6 (a0 + 1) s5 (zrm v11 6)) (fun M12 =>
  zob (mrd M12 (a1 + 6) s5) (fun v15 =>
  zob (mwr M12 (a0 + 2) s5 (v15 / 6)) (fun M16 =>
  zob (mrd M16 (a1 + 7) s5) (fun v19 =>
  zob (mwr M16 (a0 + 3) s5 v19) (fun M20 =>
  zob (mwr M20 (a0 + 4) s5 0) (fun M22 =>
  zob (mwr M22 (a0 + 5) s5 (-1)) (fun M24 =>
  zob (mwr M24 (a0 + 6) s5 0) (fun M26 =>
  some ((.inl (s5 + 1)), M26))))))))))) 0 M4) (fun e7 M8 =>
  mbd (
  mlp (σ := Int32) (β := Int32) zLF (fun s27 M28 =>
  if 6 ≤ s27 then
  some ((.inr s27), M28)
  else
  zob (mrd M28 (a1 + 10) s27) (fun v33 =>
  zob (mwr M28 (a0 + 7) s27 (zrm v33 6)) (fun M34 =>
  zob (mrd M34 (a1 + 10) s27) (fun v37 =>
  zob (mwr M34 (a0 + 8) s27 (v37 / 6)) (fun M38 =>
  zob (mwr M38 (a0 + 9) s27 0) (fun M40 =>
  mbd (
  mlp (σ := Int32) (β := Int32) zLF (fun s41 M42 =>
  if 5 ≤ s41 then
  some ((.inr s41), M42)
  else
  zob (mrw (a0 + 11) s27) (fun t46 =>
  zob (mwr M42 t46 s41 0) (fun M47 =>
  some ((.inl (s41 + 1)), M47)))) 0 M40) (fun e43 M44 =>
  some ((.inl (s27 + 1)), M44)))))))) 0 M8) (fun e29 M30 =>
  mbd (
  mlp (σ := Int32) (β := Int32) zLF (fun s48 M49 =>
  if 5 ≤ s48 then
  some ((.inr s48), M49)
  else
  zob (mwr M49 (a0 + 10) s48 0) (fun M53 =>
  some ((.inl (s48 + 1)), M53))) 0 M30) (fun e50 M51 =>
  some ((), M51))))))))
set_option maxRecDepth 100000 in
set_option maxHeartbeats 4000000 in
theorem r_X5_startOf {B n : Nat} {h0 : zHp} {M0 : zMem} (w0 : zW B n h0 M0) (a0 : Nat) (p0 : zIS a0) (a1 : Nat) (p1 : zIT a1) : zRR B n (f_X5_startOf (B + a0) (B + a1) h0) (m_X5_startOf a0 a1 M0) := by
  unfold f_X5_startOf m_X5_startOf
  refine zr_pV w0 p0.1 (Nat.le_of_ble_eq_true rfl) (zpt_X5 p1) (fun h1 M1 w1 => ?_)
  refine zr_pV w1 p0.1 (Nat.le_of_ble_eq_true rfl) rfl (fun h2 M2 w2 => ?_)
  refine zr_pV w2 p0.1 (Nat.le_of_ble_eq_true rfl) rfl (fun h3 M3 w3 => ?_)
  refine zr_pV w3 p0.1 (Nat.le_of_ble_eq_true rfl) rfl (fun h4 M4 w4 => ?_)
  refine zr_bd (zr_lp (fun s5 h6 M6 w6 => ?_) 0 h4 M4 w4) (fun e7 h8 M8 w8 => ?_)
  · refine zr_if ?_ ?_
    · exact zr_ok w6
    · refine zr_gR w6 p0.1 rfl ?_
      refine zr_gR w6 (zit_o p1) rfl ?_
      refine zr_a0 w6 (zta_5 p1) (fun v11 => ?_)
      refine zr_s0 w6 (p0.2.1 0 (by decide)) (fun h12 M12 w12 => ?_)
      refine zr_gR w12 p0.1 rfl ?_
      refine zr_gR w12 (zit_o p1) rfl ?_
      refine zr_a0 w12 (zta_5 p1) (fun v15 => ?_)
      refine zr_s0 w12 (p0.2.1 1 (by decide)) (fun h16 M16 w16 => ?_)
      refine zr_gR w16 p0.1 rfl ?_
      refine zr_gR w16 (zit_o p1) rfl ?_
      refine zr_a0 w16 (zta_6 p1) (fun v19 => ?_)
      refine zr_s0 w16 (p0.2.1 2 (by decide)) (fun h20 M20 w20 => ?_)
      refine zr_gR w20 p0.1 rfl ?_
      refine zr_s0 w20 (p0.2.1 3 (by decide)) (fun h22 M22 w22 => ?_)
      refine zr_gR w22 p0.1 rfl ?_
      refine zr_s0 w22 (p0.2.1 4 (by decide)) (fun h24 M24 w24 => ?_)
      refine zr_gR w24 p0.1 rfl ?_
      refine zr_s0 w24 (p0.2.1 5 (by decide)) (fun h26 M26 w26 => ?_)
      exact zr_ok w26
  · refine zr_bd (zr_lp (fun s27 h28 M28 w28 => ?_) 0 h8 M8 w8) (fun e29 h30 M30 w30 => ?_)
    · refine zr_if ?_ ?_
      · exact zr_ok w28
      · refine zr_gR w28 p0.1 rfl ?_
        refine zr_gR w28 (zit_o p1) rfl ?_
        refine zr_a0 w28 (zta_9 p1) (fun v33 => ?_)
        refine zr_s0 w28 (p0.2.2.1 0 (by decide)) (fun h34 M34 w34 => ?_)
        refine zr_gR w34 p0.1 rfl ?_
        refine zr_gR w34 (zit_o p1) rfl ?_
        refine zr_a0 w34 (zta_9 p1) (fun v37 => ?_)
        refine zr_s0 w34 (p0.2.2.1 1 (by decide)) (fun h38 M38 w38 => ?_)
        refine zr_gR w38 p0.1 rfl ?_
        refine zr_s0 w38 (p0.2.2.1 2 (by decide)) (fun h40 M40 w40 => ?_)
        refine zr_bd (zr_lp (fun s41 h42 M42 w42 => ?_) 0 h40 M40 w40) (fun e43 h44 M44 w44 => ?_)
        · refine zr_if ?_ ?_
          · exact zr_ok w42
          · refine zr_gR w42 p0.1 rfl ?_
            refine zr_rw w42 p0.2.2.2.2.1 p0.2.2.2.2.2.1 (fun t46 q46 => ?_)
            refine zr_s0 w42 q46 (fun h47 M47 w47 => ?_)
            exact zr_ok w47
        · exact zr_ok w44
    · refine zr_bd (zr_lp (fun s48 h49 M49 w49 => ?_) 0 h30 M30 w30) (fun e50 h51 M51 w51 => ?_)
      · refine zr_if ?_ ?_
        · exact zr_ok w49
        · refine zr_gR w49 p0.1 rfl ?_
          refine zr_s0 w49 p0.2.2.2.1 (fun h53 M53 w53 => ?_)
          exact zr_ok w53
      · exact zr_ok w51
def m_X5_windNow (a0 : Nat) (M0 : zMem) : Option (Int32 × zMem) :=
  if (M0.1 a0 13) = 1 then
  some (0, M0)
  else
  if (M0.1 a0 12) = (-1) then
  mlt (ztof (M0.1 a0 14)) (fun t3 =>
  if (M0.1 t3 16) ≤ 0 then
  some (0, M0)
  else
  mlt (ztof (M0.1 a0 14)) (fun t5 =>
  mlt (ztof (M0.1 a0 14)) (fun t8 =>
  zob (zrp (M0.1 a0 11) (M0.1 t8 16)) (fun v10 =>
  zob (mrd M0 (t5 + 12) v10) (fun v11 =>
  some (v11, M0))))))
  else
  some ((M0.1 a0 12), M0)
set_option maxRecDepth 100000 in
set_option maxHeartbeats 4000000 in
theorem r_X5_windNow {B n : Nat} {h0 : zHp} {M0 : zMem} (w0 : zW B n h0 M0) (a0 : Nat) (p0 : zIS a0) : zRR B n (f_X5_windNow (B + a0) h0) (m_X5_windNow a0 M0) := by
  unfold f_X5_windNow m_X5_windNow
  refine zr_gI w0 p0.1 rfl ?_
  refine zr_if ?_ ?_
  · exact zr_ok w0
  · refine zr_gI w0 p0.1 rfl ?_
    refine zr_if ?_ ?_
    · refine zr_gT w0 p0.1 rfl (fun t3 q3 => ?_)
      refine zr_gI w0 (zit_o q3) rfl ?_
      refine zr_if ?_ ?_
      · exact zr_ok w0
      · refine zr_gT w0 p0.1 rfl (fun t5 q5 => ?_)
        refine zr_gR w0 (zit_o q5) rfl ?_
        refine zr_gI w0 p0.1 rfl ?_
        refine zr_gT w0 p0.1 rfl (fun t8 q8 => ?_)
        refine zr_gI w0 (zit_o q8) rfl ?_
        refine zr_obp (fun v10 => ?_)
        refine zr_a0 w0 (zta_11 q5) (fun v11 => ?_)
        exact zr_ok w0
    · refine zr_gI w0 p0.1 rfl ?_
      exact zr_ok w0
def m_X1_agrees (a1 : Nat) (a3 : Int32) (a4 : Int32) (M0 : zMem) : Option (Int32 × zMem) :=
  mbd (m_X5_startOf 99 a1 M0) (fun v3 M2 =>
  zob (mwr M2 (99 + 3) a3 a4) (fun M6 =>
  mbd (m_X3_lastHour  M6) (fun v8 M7 =>
  mbd (
  mlp (σ := Int32) (β := (Int32 ⊕ Int32)) zLF (fun s9 M10 =>
  if v8 < s9 then
  some ((.inr (.inl s9)), M10)
  else
  mbd (m_X5_windNow 99 M10) (fun v16 M15 =>
  mbd (m_X5_passHour 99 v16 M15) (fun v18 M17 =>
  mbd (m_X3_fits 99 M17) (fun v21 M20 =>
  if v21 = 0 then
  some ((.inr (.inr 0)), M20)
  else
  some ((.inl (s9 + 1)), M20))))) 1 M7) (fun b22 M12 => zsl b22 (fun e11 =>
  some (1, M12)) (fun r => some (r, M12))))))
set_option maxRecDepth 100000 in
set_option maxHeartbeats 4000000 in
theorem r_X1_agrees {B n : Nat} {h0 : zHp} {M0 : zMem} (w0 : zW B n h0 M0) (a1 : Nat) (p1 : zIT a1) (a3 : Int32) (a4 : Int32) : zRR B n (f_X1_agrees (B + 92) (B + a1) (B + 85) a3 a4 h0) (m_X1_agrees a1 a3 a4 M0) := by
  unfold f_X1_agrees m_X1_agrees
  refine zr_gR w0 zio_1 rfl ?_
  refine zr_cv w0 zis_99.1 (r_X5_startOf w0 99 zis_99 a1 p1) (fun v3 h2 M2 w2 => ?_)
  refine zr_gR w2 zio_1 rfl ?_
  refine zr_gR w2 zis_99.1 rfl ?_
  refine zr_s0 w2 (zis_99.2.1 2 (by decide)) (fun h6 M6 w6 => ?_)
  refine zr_cv w6 zio_3 (r_X3_lastHour w6 ) (fun v8 h7 M7 w7 => ?_)
  refine zr_bd (zr_lp (fun s9 h10 M10 w10 => ?_) 1 h7 M7 w7) (fun b22 h12 M12 w12 => zr_sl (fun e11 => ?_) (fun r => zr_ok w12))
  · refine zr_if ?_ ?_
    · exact zr_ok w10
    · refine zr_gR w10 zio_1 rfl ?_
      refine zr_gR w10 zio_1 rfl ?_
      refine zr_cv w10 zis_99.1 (r_X5_windNow w10 99 zis_99) (fun v16 h15 M15 w15 => ?_)
      refine zr_cv w15 zis_99.1 (r_X5_passHour w15 99 zis_99 v16) (fun v18 h17 M17 w17 => ?_)
      refine zr_gR w17 zio_1 rfl ?_
      refine zr_cv w17 zio_3 (r_X3_fits w17 99 zis_99) (fun v21 h20 M20 w20 => ?_)
      refine zr_if ?_ ?_
      · exact zr_ok w20
      · exact zr_ok w20
  · exact zr_ok w12
def m_X1_drawFrom (a1 : Int32) (M0 : zMem) : Option (Unit × zMem) :=
  mlt (mup M0 92 8 a1) (fun M1 =>
  some ((), M1))
set_option maxRecDepth 100000 in
set_option maxHeartbeats 4000000 in
theorem r_X1_drawFrom {B n : Nat} {h0 : zHp} {M0 : zMem} (w0 : zW B n h0 M0) (a1 : Int32) : zRR B n (f_X1_drawFrom (B + 92) a1 h0) (m_X1_drawFrom a1 M0) := by
  unfold f_X1_drawFrom m_X1_drawFrom
  refine zr_pV w0 zio_1 (Nat.le_of_ble_eq_true rfl) rfl (fun h1 M1 w1 => ?_)
  exact zr_ok w1
def m_X1_drawNumber  (M0 : zMem) : Option (Int32 × zMem) :=
  mlt (mup M0 92 8 ((((M0.1 92 8) * 1103515245) + 12345) &&& 2147483647)) (fun M2 =>
  some (((M2.1 92 8) / 65536), M2))
set_option maxRecDepth 100000 in
set_option maxHeartbeats 4000000 in
theorem r_X1_drawNumber {B n : Nat} {h0 : zHp} {M0 : zMem} (w0 : zW B n h0 M0)  : zRR B n (f_X1_drawNumber (B + 92) h0) (m_X1_drawNumber  M0) := by
  unfold f_X1_drawNumber m_X1_drawNumber
  refine zr_gI w0 zio_1 rfl ?_
  refine zr_pV w0 zio_1 (Nat.le_of_ble_eq_true rfl) rfl (fun h2 M2 w2 => ?_)
  refine zr_gI w2 zio_1 rfl ?_
  exact zr_ok w2
def m_X5_copyFrom (a0 : Nat) (a1 : Nat) (M0 : zMem) : Option (Unit × zMem) :=
  mlt (ztof (M0.1 a1 14)) (fun t1 =>
  mlt (mup M0 a0 14 (ztenc t1)) (fun M2 =>
  mlt (mup M2 a0 11 (M2.1 a1 11)) (fun M4 =>
  mlt (mup M4 a0 12 (M4.1 a1 12)) (fun M6 =>
  mlt (mup M6 a0 13 (M6.1 a1 13)) (fun M8 =>
  zob (mcp M8 (a1 + 1) 0 (a0 + 1) 0 8) (fun M11 =>
  zob (mcp M11 (a1 + 2) 0 (a0 + 2) 0 8) (fun M14 =>
  zob (mcp M14 (a1 + 3) 0 (a0 + 3) 0 8) (fun M17 =>
  zob (mcp M17 (a1 + 4) 0 (a0 + 4) 0 8) (fun M20 =>
  zob (mcp M20 (a1 + 5) 0 (a0 + 5) 0 8) (fun M23 =>
  zob (mcp M23 (a1 + 6) 0 (a0 + 6) 0 8) (fun M26 =>
  zob (mcp M26 (a1 + 7) 0 (a0 + 7) 0 6) (fun M29 =>
  zob (mcp M29 (a1 + 8) 0 (a0 + 8) 0 6) (fun M32 =>
  zob (mcp M32 (a1 + 9) 0 (a0 + 9) 0 6) (fun M35 =>
  zob (mcp M35 (a1 + 10) 0 (a0 + 10) 0 5) (fun M38 =>
  mbd (
  mlp (σ := Int32) (β := Int32) zLF (fun s39 M40 =>
  if 6 ≤ s39 then
  some ((.inr s39), M40)
  else
  zob (mrw (a1 + 11) s39) (fun t44 =>
  zob (mrw (a0 + 11) s39) (fun t46 =>
  zob (mcp M40 t44 0 t46 0 5) (fun M47 =>
  some ((.inl (s39 + 1)), M47))))) 0 M38) (fun e41 M42 =>
  some ((), M42)))))))))))))))))
set_option maxRecDepth 100000 in
set_option maxHeartbeats 4000000 in
theorem r_X5_copyFrom {B n : Nat} {h0 : zHp} {M0 : zMem} (w0 : zW B n h0 M0) (a0 : Nat) (p0 : zIS a0) (a1 : Nat) (p1 : zIS a1) : zRR B n (f_X5_copyFrom (B + a0) (B + a1) h0) (m_X5_copyFrom a0 a1 M0) := by
  unfold f_X5_copyFrom m_X5_copyFrom
  refine zr_gT w0 p1.1 rfl (fun t1 q1 => ?_)
  refine zr_pV w0 p0.1 (Nat.le_of_ble_eq_true rfl) (zpt_X5 q1) (fun h2 M2 w2 => ?_)
  refine zr_gI w2 p1.1 rfl ?_
  refine zr_pV w2 p0.1 (Nat.le_of_ble_eq_true rfl) rfl (fun h4 M4 w4 => ?_)
  refine zr_gI w4 p1.1 rfl ?_
  refine zr_pV w4 p0.1 (Nat.le_of_ble_eq_true rfl) rfl (fun h6 M6 w6 => ?_)
  refine zr_gI w6 p1.1 rfl ?_
  refine zr_pV w6 p0.1 (Nat.le_of_ble_eq_true rfl) rfl (fun h8 M8 w8 => ?_)
  refine zr_gR w8 p1.1 rfl ?_
  refine zr_gR w8 p0.1 rfl ?_
  refine zr_cp w8 (p1.2.1 0 (by decide)) (p0.2.1 0 (by decide)) (fun h11 M11 w11 => ?_)
  refine zr_gR w11 p1.1 rfl ?_
  refine zr_gR w11 p0.1 rfl ?_
  refine zr_cp w11 (p1.2.1 1 (by decide)) (p0.2.1 1 (by decide)) (fun h14 M14 w14 => ?_)
  refine zr_gR w14 p1.1 rfl ?_
  refine zr_gR w14 p0.1 rfl ?_
  refine zr_cp w14 (p1.2.1 2 (by decide)) (p0.2.1 2 (by decide)) (fun h17 M17 w17 => ?_)
  refine zr_gR w17 p1.1 rfl ?_
  refine zr_gR w17 p0.1 rfl ?_
  refine zr_cp w17 (p1.2.1 3 (by decide)) (p0.2.1 3 (by decide)) (fun h20 M20 w20 => ?_)
  refine zr_gR w20 p1.1 rfl ?_
  refine zr_gR w20 p0.1 rfl ?_
  refine zr_cp w20 (p1.2.1 4 (by decide)) (p0.2.1 4 (by decide)) (fun h23 M23 w23 => ?_)
  refine zr_gR w23 p1.1 rfl ?_
  refine zr_gR w23 p0.1 rfl ?_
  refine zr_cp w23 (p1.2.1 5 (by decide)) (p0.2.1 5 (by decide)) (fun h26 M26 w26 => ?_)
  refine zr_gR w26 p1.1 rfl ?_
  refine zr_gR w26 p0.1 rfl ?_
  refine zr_cp w26 (p1.2.2.1 0 (by decide)) (p0.2.2.1 0 (by decide)) (fun h29 M29 w29 => ?_)
  refine zr_gR w29 p1.1 rfl ?_
  refine zr_gR w29 p0.1 rfl ?_
  refine zr_cp w29 (p1.2.2.1 1 (by decide)) (p0.2.2.1 1 (by decide)) (fun h32 M32 w32 => ?_)
  refine zr_gR w32 p1.1 rfl ?_
  refine zr_gR w32 p0.1 rfl ?_
  refine zr_cp w32 (p1.2.2.1 2 (by decide)) (p0.2.2.1 2 (by decide)) (fun h35 M35 w35 => ?_)
  refine zr_gR w35 p1.1 rfl ?_
  refine zr_gR w35 p0.1 rfl ?_
  refine zr_cp w35 p1.2.2.2.1 p0.2.2.2.1 (fun h38 M38 w38 => ?_)
  refine zr_bd (zr_lp (fun s39 h40 M40 w40 => ?_) 0 h38 M38 w38) (fun e41 h42 M42 w42 => ?_)
  · refine zr_if ?_ ?_
    · exact zr_ok w40
    · refine zr_gR w40 p1.1 rfl ?_
      refine zr_rw w40 p1.2.2.2.2.1 p1.2.2.2.2.2.1 (fun t44 q44 => ?_)
      refine zr_gR w40 p0.1 rfl ?_
      refine zr_rw w40 p0.2.2.2.2.1 p0.2.2.2.2.2.1 (fun t46 q46 => ?_)
      refine zr_cp w40 q44 q46 (fun h47 M47 w47 => ?_)
      exact zr_ok w47
  · exact zr_ok w42
def m_X5_lacksRain (a0 : Nat) (a1 : Int32) (M0 : zMem) : Option (Int32 × zMem) :=
  zob (mrd M0 (a0 + 10) a1) (fun v2 =>
  mlt (ztof (M0.1 a0 14)) (fun t3 =>
  zob (mrd M0 (t3 + 4) a1) (fun v5 =>
  if v5 ≤ v2 then
  some (0, M0)
  else
  some (1, M0))))
set_option maxRecDepth 100000 in
set_option maxHeartbeats 4000000 in
theorem r_X5_lacksRain {B n : Nat} {h0 : zHp} {M0 : zMem} (w0 : zW B n h0 M0) (a0 : Nat) (p0 : zIS a0) (a1 : Int32) : zRR B n (f_X5_lacksRain (B + a0) a1 h0) (m_X5_lacksRain a0 a1 M0) := by
  unfold f_X5_lacksRain m_X5_lacksRain
  refine zr_gR w0 p0.1 rfl ?_
  refine zr_a0 w0 p0.2.2.2.1 (fun v2 => ?_)
  refine zr_gT w0 p0.1 rfl (fun t3 q3 => ?_)
  refine zr_gR w0 (zit_o q3) rfl ?_
  refine zr_a0 w0 (zta_3 q3) (fun v5 => ?_)
  refine zr_if ?_ ?_
  · exact zr_ok w0
  · exact zr_ok w0
def m_X1_hoursUntilEnough (a1 : Nat) (a2 : Int32) (M0 : zMem) : Option (Int32 × zMem) :=
  mbd (m_X5_copyFrom 99 a1 M0) (fun v3 M2 =>
  mbd (
  mlp (σ := Int32) (β := (Int32 ⊕ Int32)) zLF (fun s4 M5 =>
  if 99 < s4 then
  some ((.inr (.inl s4)), M5)
  else
  mbd (m_X5_lacksRain 99 a2 M5) (fun v10 M9 =>
  if v10 = 0 then
  some ((.inr (.inr s4)), M9)
  else
  mbd (m_X5_windNow 99 M9) (fun v14 M13 =>
  mbd (m_X5_passHour 99 v14 M13) (fun v16 M15 =>
  some ((.inl (s4 + 1)), M15))))) 0 M2) (fun b17 M7 => zsl b17 (fun e6 =>
  some ((-2), M7)) (fun r => some (r, M7))))
set_option maxRecDepth 100000 in
set_option maxHeartbeats 4000000 in
theorem r_X1_hoursUntilEnough {B n : Nat} {h0 : zHp} {M0 : zMem} (w0 : zW B n h0 M0) (a1 : Nat) (p1 : zIS a1) (a2 : Int32) : zRR B n (f_X1_hoursUntilEnough (B + 92) (B + a1) a2 h0) (m_X1_hoursUntilEnough a1 a2 M0) := by
  unfold f_X1_hoursUntilEnough m_X1_hoursUntilEnough
  refine zr_gR w0 zio_1 rfl ?_
  refine zr_cv w0 zis_99.1 (r_X5_copyFrom w0 99 zis_99 a1 p1) (fun v3 h2 M2 w2 => ?_)
  refine zr_bd (zr_lp (fun s4 h5 M5 w5 => ?_) 0 h2 M2 w2) (fun b17 h7 M7 w7 => zr_sl (fun e6 => ?_) (fun r => zr_ok w7))
  · refine zr_if ?_ ?_
    · exact zr_ok w5
    · refine zr_gR w5 zio_1 rfl ?_
      refine zr_cv w5 zis_99.1 (r_X5_lacksRain w5 99 zis_99 a2) (fun v10 h9 M9 w9 => ?_)
      refine zr_if ?_ ?_
      · exact zr_ok w9
      · refine zr_gR w9 zio_1 rfl ?_
        refine zr_gR w9 zio_1 rfl ?_
        refine zr_cv w9 zis_99.1 (r_X5_windNow w9 99 zis_99) (fun v14 h13 M13 w13 => ?_)
        refine zr_cv w13 zis_99.1 (r_X5_passHour w13 99 zis_99 v14) (fun v16 h15 M15 w15 => ?_)
        exact zr_ok w15
  · exact zr_ok w7
def m_X1_isRest (a1 : Int32) (M0 : zMem) : Option (Int32 × zMem) :=
  mbd (
  mlp (σ := Int32) (β := (Int32 ⊕ Int32)) zLF (fun s1 M2 =>
  if 5 ≤ s1 then
  some ((.inr (.inl s1)), M2)
  else
  zob (mrd M2 97 ((5 * s1) + (zrm a1 5))) (fun v6 =>
  zob (mrd M2 97 a1) (fun v8 =>
  if v8 < v6 then
  some ((.inr (.inr 0)), M2)
  else
  zob (mrd M2 98 ((5 * (a1 / 5)) + s1)) (fun v10 =>
  zob (mrd M2 98 a1) (fun v12 =>
  if v10 ≤ v12 then
  some ((.inl (s1 + 1)), M2)
  else
  some ((.inr (.inr 0)), M2)))))) 0 M0) (fun b13 M4 => zsl b13 (fun e3 =>
  some (1, M4)) (fun r => some (r, M4)))
set_option maxRecDepth 100000 in
set_option maxHeartbeats 4000000 in
theorem r_X1_isRest {B n : Nat} {h0 : zHp} {M0 : zMem} (w0 : zW B n h0 M0) (a1 : Int32) : zRR B n (f_X1_isRest (B + 92) a1 h0) (m_X1_isRest a1 M0) := by
  unfold f_X1_isRest m_X1_isRest
  refine zr_bd (zr_lp (fun s1 h2 M2 w2 => ?_) 0 h0 M0 w0) (fun b13 h4 M4 w4 => zr_sl (fun e3 => ?_) (fun r => zr_ok w4))
  · refine zr_if ?_ ?_
    · exact zr_ok w2
    · refine zr_gR w2 zio_1 rfl ?_
      refine zr_a0 w2 zca_97 (fun v6 => ?_)
      refine zr_gR w2 zio_1 rfl ?_
      refine zr_a0 w2 zca_97 (fun v8 => ?_)
      refine zr_if ?_ ?_
      · exact zr_ok w2
      · refine zr_gR w2 zio_1 rfl ?_
        refine zr_a0 w2 zca_98 (fun v10 => ?_)
        refine zr_gR w2 zio_1 rfl ?_
        refine zr_a0 w2 zca_98 (fun v12 => ?_)
        refine zr_if ?_ ?_
        · exact zr_ok w2
        · exact zr_ok w2
  · exact zr_ok w4
def m_X5_firstToPush (a0 : Nat) (a1 : Int32) (M0 : zMem) : Option (Int32 × zMem) :=
  mbd (
  mlp (σ := Int32) (β := (Int32 ⊕ Int32)) zLF (fun s1 M2 =>
  mlt (ztof (M2.1 a0 14)) (fun t5 =>
  if (M2.1 t5 14) ≤ s1 then
  some ((.inr (.inl s1)), M2)
  else
  mbd (m_X5_isUp a0 s1 M2) (fun v8 M7 =>
  if v8 = 0 then
  some ((.inl (s1 + 1)), M7)
  else
  zob (mrd M7 (a0 + 5) s1) (fun v10 =>
  if v10 = a1 then
  mbd (m_X5_canSee a0 a1 s1 M7) (fun v12 M11 =>
  if v12 = 0 then
  some ((.inl (s1 + 1)), M11)
  else
  some ((.inr (.inr s1)), M11))
  else
  some ((.inl (s1 + 1)), M7))))) 0 M0) (fun b13 M4 => zsl b13 (fun e3 =>
  some ((-1), M4)) (fun r => some (r, M4)))
set_option maxRecDepth 100000 in
set_option maxHeartbeats 4000000 in
theorem r_X5_firstToPush {B n : Nat} {h0 : zHp} {M0 : zMem} (w0 : zW B n h0 M0) (a0 : Nat) (p0 : zIS a0) (a1 : Int32) : zRR B n (f_X5_firstToPush (B + a0) a1 h0) (m_X5_firstToPush a0 a1 M0) := by
  unfold f_X5_firstToPush m_X5_firstToPush
  refine zr_bd (zr_lp (fun s1 h2 M2 w2 => ?_) 0 h0 M0 w0) (fun b13 h4 M4 w4 => zr_sl (fun e3 => ?_) (fun r => zr_ok w4))
  · refine zr_gT w2 p0.1 rfl (fun t5 q5 => ?_)
    refine zr_gI w2 (zit_o q5) rfl ?_
    refine zr_if ?_ ?_
    · exact zr_ok w2
    · refine zr_cv w2 p0.1 (r_X5_isUp w2 a0 p0 s1) (fun v8 h7 M7 w7 => ?_)
      refine zr_if ?_ ?_
      · exact zr_ok w7
      · refine zr_gR w7 p0.1 rfl ?_
        refine zr_a0 w7 (p0.2.1 4 (by decide)) (fun v10 => ?_)
        refine zr_if ?_ ?_
        · refine zr_cv w7 p0.1 (r_X5_canSee w7 a0 p0 a1 s1) (fun v12 h11 M11 w11 => ?_)
          refine zr_if ?_ ?_
          · exact zr_ok w11
          · exact zr_ok w11
        · exact zr_ok w7
  · exact zr_ok w4
def m_X5_pushBy (a0 : Nat) (a1 : Int32) (a2 : Int32) (M0 : zMem) : Option (Unit × zMem) :=
  mbd (m_X5_firstToPush a0 a1 M0) (fun v2 M1 =>
  if v2 = (-1) then
  some ((), M1)
  else
  mbd (m_X5_moveCloud a0 v2 a2 M1) (fun v4 M3 =>
  some ((), M3)))
set_option maxRecDepth 100000 in
set_option maxHeartbeats 4000000 in
theorem r_X5_pushBy {B n : Nat} {h0 : zHp} {M0 : zMem} (w0 : zW B n h0 M0) (a0 : Nat) (p0 : zIS a0) (a1 : Int32) (a2 : Int32) : zRR B n (f_X5_pushBy (B + a0) a1 a2 h0) (m_X5_pushBy a0 a1 a2 M0) := by
  unfold f_X5_pushBy m_X5_pushBy
  refine zr_cv w0 p0.1 (r_X5_firstToPush w0 a0 p0 a1) (fun v2 h1 M1 w1 => ?_)
  refine zr_if ?_ ?_
  · exact zr_ok w1
  · refine zr_cv w1 p0.1 (r_X5_moveCloud w1 a0 p0 v2 a2) (fun v4 h3 M3 w3 => ?_)
    exact zr_ok w3
def mb_X1_planFrom (F : Int32 → Int32 → Int32 → Int32 → zMem → Option (Unit × zMem)) (a1 : Int32) (a2 : Int32) (a3 : Int32) (a4 : Int32) (M0 : zMem) : Option (Unit × zMem) :=
  if a1 < a4 then
  zob (mpt a1) (fun t2 =>
  mbd (m_X5_firstToPush t2 a2 M0) (fun v4 M3 =>
  mbd (α := Int32) (
  if v4 = (-1) then
  some (1, M3)
  else
  some (5, M3)) (fun e5 M6 =>
  zob (mpt (a1 + 1)) (fun t8 =>
  mbd (
  mlp (σ := Int32) (β := Int32) zLF (fun s9 M10 =>
  if e5 ≤ s9 then
  some ((.inr s9), M10)
  else
  zob (mwr M10 95 a1 s9) (fun M14 =>
  zob (mpt a1) (fun t16 =>
  mbd (m_X5_copyFrom t8 t16 M14) (fun v18 M17 =>
  mbd (m_X5_pushBy t8 a2 s9 M17) (fun v20 M19 =>
  mbd (m_X5_windNow t8 M19) (fun v22 M21 =>
  mbd (m_X5_passHour t8 v22 M21) (fun v24 M23 =>
  mbd (F (a1 + 1) a2 a3 a4 M23) (fun v26 M25 =>
  some ((.inl (s9 + 1)), M25))))))))) 0 M6) (fun e11 M12 =>
  some ((), M12))))))
  else
  zob (mpt a1) (fun t28 =>
  zob (mrd M0 (t28 + 10) a3) (fun v30 =>
  zob (mpt 0) (fun t32 =>
  zob (mrd M0 (t32 + 10) a3) (fun v34 =>
  if (v30 - v34) ≤ (M0.1 92 7) then
  some ((), M0)
  else
  mlt (mup M0 92 7 (v30 - v34)) (fun M36 =>
  zob (mcp M36 95 0 96 0 4) (fun M39 =>
  some ((), M39)))))))
def m_X1_planFrom : Nat → Int32 → Int32 → Int32 → Int32 → zMem → Option (Unit × zMem)
  | 0 => fun _ _ _ _ _ => none
  | n + 1 => mb_X1_planFrom (m_X1_planFrom n)
set_option maxRecDepth 100000 in
set_option maxHeartbeats 4000000 in
theorem r_X1_planFrom : ∀ (fu : Nat) {B n : Nat} {h0 : zHp} {M0 : zMem} (w0 : zW B n h0 M0), (∀ (a1 : Int32) (a2 : Int32) (a3 : Int32) (a4 : Int32), zRR B n (f_X1_planFrom fu (B + 92) a1 a2 a3 a4 h0) (m_X1_planFrom fu a1 a2 a3 a4 M0)) := by
  intro fu
  induction fu with
  | zero => intros; exact zr_none
  | succ fu ih =>
    intro B n h0 M0 w0
    intro a1 a2 a3 a4
    show zRR B n (b_X1_planFrom (f_X1_planFrom fu) (B + 92) a1 a2 a3 a4 h0) (mb_X1_planFrom (m_X1_planFrom fu) a1 a2 a3 a4 M0)
    unfold b_X1_planFrom mb_X1_planFrom
    refine zr_if ?_ ?_
    · refine zr_gR w0 zio_1 rfl ?_
      refine zr_pt w0 (fun t2 q2 => ?_)
      refine zr_cv w0 q2.1 (r_X5_firstToPush w0 t2 q2 a2) (fun v4 h3 M3 w3 => ?_)
      refine zr_bd ?_ (fun e5 h6 M6 w6 => ?_)
      · refine zr_if ?_ ?_
        · exact zr_ok w3
        · exact zr_ok w3
      · refine zr_gR w6 zio_1 rfl ?_
        refine zr_pt w6 (fun t8 q8 => ?_)
        refine zr_bd (zr_lp (fun s9 h10 M10 w10 => ?_) 0 h6 M6 w6) (fun e11 h12 M12 w12 => ?_)
        · refine zr_if ?_ ?_
          · exact zr_ok w10
          · refine zr_gR w10 zio_1 rfl ?_
            refine zr_s0 w10 zca_95 (fun h14 M14 w14 => ?_)
            refine zr_gR w14 zio_1 rfl ?_
            refine zr_pt w14 (fun t16 q16 => ?_)
            refine zr_cv w14 q8.1 (r_X5_copyFrom w14 t8 q8 t16 q16) (fun v18 h17 M17 w17 => ?_)
            refine zr_cv w17 q8.1 (r_X5_pushBy w17 t8 q8 a2 s9) (fun v20 h19 M19 w19 => ?_)
            refine zr_cv w19 q8.1 (r_X5_windNow w19 t8 q8) (fun v22 h21 M21 w21 => ?_)
            refine zr_cv w21 q8.1 (r_X5_passHour w21 t8 q8 v22) (fun v24 h23 M23 w23 => ?_)
            refine zr_cv w23 zio_1 (ih w23 (a1 + 1) a2 a3 a4) (fun v26 h25 M25 w25 => ?_)
            exact zr_ok w25
        · exact zr_ok w12
    · refine zr_gR w0 zio_1 rfl ?_
      refine zr_pt w0 (fun t28 q28 => ?_)
      refine zr_gR w0 q28.1 rfl ?_
      refine zr_a0 w0 q28.2.2.2.1 (fun v30 => ?_)
      refine zr_gR w0 zio_1 rfl ?_
      refine zr_pt w0 (fun t32 q32 => ?_)
      refine zr_gR w0 q32.1 rfl ?_
      refine zr_a0 w0 q32.2.2.2.1 (fun v34 => ?_)
      refine zr_gI w0 zio_1 rfl ?_
      refine zr_if ?_ ?_
      · exact zr_ok w0
      · refine zr_pV w0 zio_1 (Nat.le_of_ble_eq_true rfl) rfl (fun h36 M36 w36 => ?_)
        refine zr_gR w36 zio_1 rfl ?_
        refine zr_gR w36 zio_1 rfl ?_
        refine zr_cp w36 zca_95 zca_96 (fun h39 M39 w39 => ?_)
        exact zr_ok w39
def m_X1_planOf (a1 : Nat) (a2 : Int32) (a3 : Int32) (a4 : Int32) (M0 : zMem) : Option (Int32 × zMem) :=
  zob (mpt 0) (fun t2 =>
  mbd (m_X5_copyFrom t2 a1 M0) (fun v4 M3 =>
  mlt (mup M3 92 7 (-1)) (fun M5 =>
  mbd (m_X1_planFrom 8 0 a2 a3 (zmn a4 4) M5) (fun v7 M6 =>
  some ((M6.1 92 7), M6)))))
set_option maxRecDepth 100000 in
set_option maxHeartbeats 4000000 in
theorem r_X1_planOf {B n : Nat} {h0 : zHp} {M0 : zMem} (w0 : zW B n h0 M0) (a1 : Nat) (p1 : zIS a1) (a2 : Int32) (a3 : Int32) (a4 : Int32) : zRR B n (f_X1_planOf (B + 92) (B + a1) a2 a3 a4 h0) (m_X1_planOf a1 a2 a3 a4 M0) := by
  unfold f_X1_planOf m_X1_planOf
  refine zr_gR w0 zio_1 rfl ?_
  refine zr_pt w0 (fun t2 q2 => ?_)
  refine zr_cv w0 q2.1 (r_X5_copyFrom w0 t2 q2 a1 p1) (fun v4 h3 M3 w3 => ?_)
  refine zr_pV w3 zio_1 (Nat.le_of_ble_eq_true rfl) rfl (fun h5 M5 w5 => ?_)
  refine zr_cv w5 zio_1 (r_X1_planFrom 8 w5 0 a2 a3 (zmn a4 4)) (fun v7 h6 M6 w6 => ?_)
  refine zr_gI w6 zio_1 rfl ?_
  exact zr_ok w6
def m_X1_plannedPush (a1 : Int32) (M0 : zMem) : Option (Int32 × zMem) :=
  if a1 < 0 then
  some ((-1), M0)
  else
  if 4 ≤ a1 then
  some ((-1), M0)
  else
  zob (mrd M0 96 a1) (fun v2 =>
  some (v2, M0))
set_option maxRecDepth 100000 in
set_option maxHeartbeats 4000000 in
theorem r_X1_plannedPush {B n : Nat} {h0 : zHp} {M0 : zMem} (w0 : zW B n h0 M0) (a1 : Int32) : zRR B n (f_X1_plannedPush (B + 92) a1 h0) (m_X1_plannedPush a1 M0) := by
  unfold f_X1_plannedPush m_X1_plannedPush
  refine zr_if ?_ ?_
  · exact zr_ok w0
  · refine zr_if ?_ ?_
    · exact zr_ok w0
    · refine zr_gR w0 zio_1 rfl ?_
      refine zr_a0 w0 zca_96 (fun v2 => ?_)
      exact zr_ok w0
def m_X1_rainByChance (a1 : Nat) (a2 : Int32) (a3 : Int32) (M0 : zMem) : Option (Int32 × zMem) :=
  mbd (m_X5_copyFrom 99 a1 M0) (fun v3 M2 =>
  mbd (
  mlp (σ := Int32) (β := Int32) zLF (fun s4 M5 =>
  if a2 ≤ s4 then
  some ((.inr s4), M5)
  else
  mbd (m_X1_drawNumber  M5) (fun v10 M9 =>
  mbd (m_X5_passHour 99 (zrm v10 5) M9) (fun v12 M11 =>
  some ((.inl (s4 + 1)), M11)))) 0 M2) (fun e6 M7 =>
  zob (mrd M7 (99 + 10) a3) (fun v15 =>
  zob (mrd M7 (a1 + 10) a3) (fun v17 =>
  some ((v15 - v17), M7)))))
set_option maxRecDepth 100000 in
set_option maxHeartbeats 4000000 in
theorem r_X1_rainByChance {B n : Nat} {h0 : zHp} {M0 : zMem} (w0 : zW B n h0 M0) (a1 : Nat) (p1 : zIS a1) (a2 : Int32) (a3 : Int32) : zRR B n (f_X1_rainByChance (B + 92) (B + a1) a2 a3 h0) (m_X1_rainByChance a1 a2 a3 M0) := by
  unfold f_X1_rainByChance m_X1_rainByChance
  refine zr_gR w0 zio_1 rfl ?_
  refine zr_cv w0 zis_99.1 (r_X5_copyFrom w0 99 zis_99 a1 p1) (fun v3 h2 M2 w2 => ?_)
  refine zr_bd (zr_lp (fun s4 h5 M5 w5 => ?_) 0 h2 M2 w2) (fun e6 h7 M7 w7 => ?_)
  · refine zr_if ?_ ?_
    · exact zr_ok w5
    · refine zr_gR w5 zio_1 rfl ?_
      refine zr_cv w5 zio_1 (r_X1_drawNumber w5 ) (fun v10 h9 M9 w9 => ?_)
      refine zr_cv w9 zis_99.1 (r_X5_passHour w9 99 zis_99 (zrm v10 5)) (fun v12 h11 M11 w11 => ?_)
      exact zr_ok w11
  · refine zr_gR w7 zio_1 rfl ?_
    refine zr_gR w7 zis_99.1 rfl ?_
    refine zr_a0 w7 zis_99.2.2.2.1 (fun v15 => ?_)
    refine zr_gR w7 p1.1 rfl ?_
    refine zr_a0 w7 p1.2.2.2.1 (fun v17 => ?_)
    exact zr_ok w7
def m_X1_rowsOf (a0 : Int32) (M0 : zMem) : Option (Int32 × zMem) :=
  mbd (
  mlp (σ := (Int32 × Int32)) (β := (Int32 × Int32)) zLF (fun s1 M2 =>
  if a0 ≤ s1.2 then
  some ((.inr (s1.1, s1.2)), M2)
  else
  some ((.inl ((s1.1 * 5), (s1.2 + 1))), M2)) (1, 0) M0) (fun e3 M4 =>
  some (e3.1, M4))
set_option maxRecDepth 100000 in
set_option maxHeartbeats 4000000 in
theorem r_X1_rowsOf {B n : Nat} {h0 : zHp} {M0 : zMem} (w0 : zW B n h0 M0) (a0 : Int32) : zRR B n (f_X1_rowsOf a0 h0) (m_X1_rowsOf a0 M0) := by
  unfold f_X1_rowsOf m_X1_rowsOf
  refine zr_bd (zr_lp (fun s1 h2 M2 w2 => ?_) (1, 0) h0 M0 w0) (fun e3 h4 M4 w4 => ?_)
  · refine zr_if ?_ ?_
    · exact zr_ok w2
    · exact zr_ok w2
  · exact zr_ok w4
def mb_X1_rowsFrom (F : Int32 → Int32 → Int32 → zMem → Option (Int32 × zMem)) (a1 : Int32) (a2 : Int32) (a3 : Int32) (M0 : zMem) : Option (Int32 × zMem) :=
  if a1 < a3 then
  zob (mpt (a1 + 1)) (fun t2 =>
  mbd (
  mlp (σ := (Int32 × Int32)) (β := (Int32 × Int32)) zLF (fun s3 M4 =>
  if 5 ≤ s3.2 then
  some ((.inr (s3.1, s3.2)), M4)
  else
  zob (mpt a1) (fun t8 =>
  mbd (m_X5_copyFrom t2 t8 M4) (fun v10 M9 =>
  mbd (m_X5_passHour t2 s3.2 M9) (fun v12 M11 =>
  zob (mrd M11 (t2 + 10) a2) (fun v14 =>
  zob (mpt a1) (fun t16 =>
  zob (mrd M11 (t16 + 10) a2) (fun v18 =>
  if v14 ≤ v18 then
  mbd (F (a1 + 1) a2 a3 M11) (fun v20 M19 =>
  some ((.inl ((s3.1 + v20), (s3.2 + 1))), M19))
  else
  mbd (m_X1_rowsOf ((a3 - a1) - 1) M11) (fun v22 M21 =>
  some ((.inl ((s3.1 + v22), (s3.2 + 1))), M21))))))))) (0, 0) M0) (fun e5 M6 =>
  some (e5.1, M6)))
  else
  some (0, M0)
def m_X1_rowsFrom : Nat → Int32 → Int32 → Int32 → zMem → Option (Int32 × zMem)
  | 0 => fun _ _ _ _ => none
  | n + 1 => mb_X1_rowsFrom (m_X1_rowsFrom n)
set_option maxRecDepth 100000 in
set_option maxHeartbeats 4000000 in
theorem r_X1_rowsFrom : ∀ (fu : Nat) {B n : Nat} {h0 : zHp} {M0 : zMem} (w0 : zW B n h0 M0), (∀ (a1 : Int32) (a2 : Int32) (a3 : Int32), zRR B n (f_X1_rowsFrom fu (B + 92) a1 a2 a3 h0) (m_X1_rowsFrom fu a1 a2 a3 M0)) := by
  intro fu
  induction fu with
  | zero => intros; exact zr_none
  | succ fu ih =>
    intro B n h0 M0 w0
    intro a1 a2 a3
    show zRR B n (b_X1_rowsFrom (f_X1_rowsFrom fu) (B + 92) a1 a2 a3 h0) (mb_X1_rowsFrom (m_X1_rowsFrom fu) a1 a2 a3 M0)
    unfold b_X1_rowsFrom mb_X1_rowsFrom
    refine zr_if ?_ ?_
    · refine zr_gR w0 zio_1 rfl ?_
      refine zr_pt w0 (fun t2 q2 => ?_)
      refine zr_bd (zr_lp (fun s3 h4 M4 w4 => ?_) (0, 0) h0 M0 w0) (fun e5 h6 M6 w6 => ?_)
      · refine zr_if ?_ ?_
        · exact zr_ok w4
        · refine zr_gR w4 zio_1 rfl ?_
          refine zr_pt w4 (fun t8 q8 => ?_)
          refine zr_cv w4 q2.1 (r_X5_copyFrom w4 t2 q2 t8 q8) (fun v10 h9 M9 w9 => ?_)
          refine zr_cv w9 q2.1 (r_X5_passHour w9 t2 q2 s3.2) (fun v12 h11 M11 w11 => ?_)
          refine zr_gR w11 q2.1 rfl ?_
          refine zr_a0 w11 q2.2.2.2.1 (fun v14 => ?_)
          refine zr_gR w11 zio_1 rfl ?_
          refine zr_pt w11 (fun t16 q16 => ?_)
          refine zr_gR w11 q16.1 rfl ?_
          refine zr_a0 w11 q16.2.2.2.1 (fun v18 => ?_)
          refine zr_if ?_ ?_
          · refine zr_cv w11 zio_1 (ih w11 (a1 + 1) a2 a3) (fun v20 h19 M19 w19 => ?_)
            exact zr_ok w19
          · refine zr_bd (r_X1_rowsOf w11 ((a3 - a1) - 1)) (fun v22 h21 M21 w21 => ?_)
            exact zr_ok w21
      · exact zr_ok w6
    · exact zr_ok w0
def m_X1_rowsWithRain (a1 : Nat) (a2 : Int32) (a3 : Int32) (M0 : zMem) : Option (Int32 × zMem) :=
  zob (mpt 0) (fun t2 =>
  mbd (m_X5_copyFrom t2 a1 M0) (fun v4 M3 =>
  mbd (m_X1_rowsFrom 8 0 a2 (zmn a3 5) M3) (fun v6 M5 =>
  some (v6, M5))))
set_option maxRecDepth 100000 in
set_option maxHeartbeats 4000000 in
theorem r_X1_rowsWithRain {B n : Nat} {h0 : zHp} {M0 : zMem} (w0 : zW B n h0 M0) (a1 : Nat) (p1 : zIS a1) (a2 : Int32) (a3 : Int32) : zRR B n (f_X1_rowsWithRain (B + 92) (B + a1) a2 a3 h0) (m_X1_rowsWithRain a1 a2 a3 M0) := by
  unfold f_X1_rowsWithRain m_X1_rowsWithRain
  refine zr_gR w0 zio_1 rfl ?_
  refine zr_pt w0 (fun t2 q2 => ?_)
  refine zr_cv w0 q2.1 (r_X5_copyFrom w0 t2 q2 a1 p1) (fun v4 h3 M3 w3 => ?_)
  refine zr_cv w3 zio_1 (r_X1_rowsFrom 8 w3 0 a2 (zmn a3 5)) (fun v6 h5 M5 w5 => ?_)
  exact zr_ok w5
def m_X1_seenFrom (a1 : Int32) (M0 : zMem) : Option (Int32 × zMem) :=
  if a1 < 0 then
  some (0, M0)
  else
  if 24 ≤ a1 then
  some (0, M0)
  else
  zob (mrd M0 94 a1) (fun v2 =>
  some (v2, M0))
set_option maxRecDepth 100000 in
set_option maxHeartbeats 4000000 in
theorem r_X1_seenFrom {B n : Nat} {h0 : zHp} {M0 : zMem} (w0 : zW B n h0 M0) (a1 : Int32) : zRR B n (f_X1_seenFrom (B + 92) a1 h0) (m_X1_seenFrom a1 M0) := by
  unfold f_X1_seenFrom m_X1_seenFrom
  refine zr_if ?_ ?_
  · exact zr_ok w0
  · refine zr_if ?_ ?_
    · exact zr_ok w0
    · refine zr_gR w0 zio_1 rfl ?_
      refine zr_a0 w0 zca_94 (fun v2 => ?_)
      exact zr_ok w0
def m_X1_skyAfter (a1 : Nat) (a2 : Int32) (a3 : Int32) (a4 : Int32) (M0 : zMem) : Option (Nat × zMem) :=
  mbd (m_X5_copyFrom 99 a1 M0) (fun v3 M2 =>
  mlt (mup M2 99 13 a2) (fun M5 =>
  mbd (α := Unit) (
  if a2 = 2 then
  zob (mwr M5 (99 + 6) a3 4) (fun M8 =>
  some ((), M8))
  else
  some ((), M5)) (fun e9 M10 =>
  mbd (
  mlp (σ := Int32) (β := Int32) zLF (fun s11 M12 =>
  if a4 ≤ s11 then
  some ((.inr s11), M12)
  else
  mbd (m_X5_windNow 99 M12) (fun v18 M17 =>
  mbd (m_X5_passHour 99 v18 M17) (fun v20 M19 =>
  some ((.inl (s11 + 1)), M19)))) 0 M10) (fun e13 M14 =>
  some (99, M14)))))
set_option maxRecDepth 100000 in
set_option maxHeartbeats 4000000 in
theorem r_X1_skyAfter {B n : Nat} {h0 : zHp} {M0 : zMem} (w0 : zW B n h0 M0) (a1 : Nat) (p1 : zIS a1) (a2 : Int32) (a3 : Int32) (a4 : Int32) : zRG (fun a b => a = B + b ∧ zIS b) B n (f_X1_skyAfter (B + 92) (B + a1) a2 a3 a4 h0) (m_X1_skyAfter a1 a2 a3 a4 M0) := by
  unfold f_X1_skyAfter m_X1_skyAfter
  refine zr_gR w0 zio_1 rfl ?_
  refine zr_cv w0 zis_99.1 (r_X5_copyFrom w0 99 zis_99 a1 p1) (fun v3 h2 M2 w2 => ?_)
  refine zr_gR w2 zio_1 rfl ?_
  refine zr_pV w2 zis_99.1 (Nat.le_of_ble_eq_true rfl) rfl (fun h5 M5 w5 => ?_)
  refine zr_bd ?_ (fun e9 h10 M10 w10 => ?_)
  · refine zr_if ?_ ?_
    · refine zr_gR w5 zio_1 rfl ?_
      refine zr_gR w5 zis_99.1 rfl ?_
      refine zr_s0 w5 (zis_99.2.1 5 (by decide)) (fun h8 M8 w8 => ?_)
      exact zr_ok w8
    · exact zr_ok w5
  · refine zr_bd (zr_lp (fun s11 h12 M12 w12 => ?_) 0 h10 M10 w10) (fun e13 h14 M14 w14 => ?_)
    · refine zr_if ?_ ?_
      · exact zr_ok w12
      · refine zr_gR w12 zio_1 rfl ?_
        refine zr_gR w12 zio_1 rfl ?_
        refine zr_cv w12 zis_99.1 (r_X5_windNow w12 99 zis_99) (fun v18 h17 M17 w17 => ?_)
        refine zr_cv w17 zis_99.1 (r_X5_passHour w17 99 zis_99 v18) (fun v20 h19 M19 w19 => ?_)
        exact zr_ok w19
    · refine zr_gR w14 zio_1 rfl ?_
      exact zr_okG ⟨rfl, zis_99⟩ w14
def m_X5_seenFrom (a0 : Nat) (a1 : Int32) (a2 : Int32) (a3 : Int32) (M0 : zMem) : Option (Int32 × zMem) :=
  mbd (
  mlp (σ := (Int32 × Int32)) (β := (Int32 × Int32)) zLF (fun s1 M2 =>
  mlt (ztof (M2.1 a0 14)) (fun t5 =>
  if (M2.1 t5 14) ≤ s1.2 then
  some ((.inr (s1.1, s1.2)), M2)
  else
  mbd (m_X5_isUp a0 s1.2 M2) (fun v8 M7 =>
  if v8 = 0 then
  some ((.inl (s1.1, (s1.2 + 1))), M7)
  else
  zob (mrd M7 (a0 + 1) s1.2) (fun v10 =>
  if a3 < (zab (a1 - v10)) then
  some ((.inl (s1.1, (s1.2 + 1))), M7)
  else
  zob (mrd M7 (a0 + 2) s1.2) (fun v12 =>
  if a3 < (zab (a2 - v12)) then
  some ((.inl (s1.1, (s1.2 + 1))), M7)
  else
  some ((.inl ((s1.1 ||| (1 <<< (s1.2 &&& 31))), (s1.2 + 1))), M7)))))) (0, 0) M0) (fun e3 M4 =>
  some (e3.1, M4))
set_option maxRecDepth 100000 in
set_option maxHeartbeats 4000000 in
theorem r_X5_seenFrom {B n : Nat} {h0 : zHp} {M0 : zMem} (w0 : zW B n h0 M0) (a0 : Nat) (p0 : zIS a0) (a1 : Int32) (a2 : Int32) (a3 : Int32) : zRR B n (f_X5_seenFrom (B + a0) a1 a2 a3 h0) (m_X5_seenFrom a0 a1 a2 a3 M0) := by
  unfold f_X5_seenFrom m_X5_seenFrom
  refine zr_bd (zr_lp (fun s1 h2 M2 w2 => ?_) (0, 0) h0 M0 w0) (fun e3 h4 M4 w4 => ?_)
  · refine zr_gT w2 p0.1 rfl (fun t5 q5 => ?_)
    refine zr_gI w2 (zit_o q5) rfl ?_
    refine zr_if ?_ ?_
    · exact zr_ok w2
    · refine zr_cv w2 p0.1 (r_X5_isUp w2 a0 p0 s1.2) (fun v8 h7 M7 w7 => ?_)
      refine zr_if ?_ ?_
      · exact zr_ok w7
      · refine zr_gR w7 p0.1 rfl ?_
        refine zr_a0 w7 (p0.2.1 0 (by decide)) (fun v10 => ?_)
        refine zr_if ?_ ?_
        · exact zr_ok w7
        · refine zr_gR w7 p0.1 rfl ?_
          refine zr_a0 w7 (p0.2.1 1 (by decide)) (fun v12 => ?_)
          refine zr_if ?_ ?_
          · exact zr_ok w7
          · exact zr_ok w7
  · exact zr_ok w4
def m_X1_stationOf (a1 : Nat) (a2 : Int32) (a3 : Int32) (M0 : zMem) : Option (Int32 × zMem) :=
  mbd (m_X5_copyFrom 99 a1 M0) (fun v3 M2 =>
  mbd (
  mlp (σ := Int32) (β := Int32) zLF (fun s4 M5 =>
  if 24 ≤ s4 then
  some ((.inr s4), M5)
  else
  zob (mwr M5 94 s4 0) (fun M9 =>
  some ((.inl (s4 + 1)), M9))) 0 M2) (fun e6 M7 =>
  mlt (ztof (M7.1 a1 14)) (fun t10 =>
  zob (mrd M7 (t10 + 11) a2) (fun v12 =>
  mbd (
  mlp (σ := Int32) (β := Int32) zLF (fun s13 M14 =>
  if a3 ≤ s13 then
  some ((.inr s13), M14)
  else
  mbd (m_X5_windNow 99 M14) (fun v20 M19 =>
  mbd (m_X5_passHour 99 v20 M19) (fun v22 M21 =>
  mbd (
  mlp (σ := Int32) (β := Int32) zLF (fun s23 M24 =>
  if 24 ≤ s23 then
  some ((.inr s23), M24)
  else
  zob (mrd M24 94 s23) (fun v28 =>
  mbd (m_X5_seenFrom 99 (zrm s23 6) (s23 / 6) v12 M24) (fun v31 M30 =>
  mbd (m_J6_bitCount_0f7a4 v31 M30) (fun v33 M32 =>
  zob (mwr M32 94 s23 (v28 + v33)) (fun M34 =>
  some ((.inl (s23 + 1)), M34)))))) 0 M21) (fun e25 M26 =>
  some ((.inl (s13 + 1)), M26))))) 0 M7) (fun e15 M16 =>
  mbd (
  mlp (σ := (Int32 × Int32)) (β := (Int32 × Int32)) zLF (fun s35 M36 =>
  if 24 ≤ s35.2 then
  some ((.inr (s35.1, s35.2)), M36)
  else
  zob (mrd M36 94 s35.2) (fun v40 =>
  zob (mrd M36 94 s35.1) (fun v42 =>
  if v40 ≤ v42 then
  some ((.inl (s35.1, (s35.2 + 1))), M36)
  else
  some ((.inl (s35.2, (s35.2 + 1))), M36)))) (0, 1) M16) (fun e37 M38 =>
  some (e37.1, M38)))))))
set_option maxRecDepth 100000 in
set_option maxHeartbeats 4000000 in
theorem r_X1_stationOf {B n : Nat} {h0 : zHp} {M0 : zMem} (w0 : zW B n h0 M0) (a1 : Nat) (p1 : zIS a1) (a2 : Int32) (a3 : Int32) : zRR B n (f_X1_stationOf (B + 92) (B + a1) a2 a3 h0) (m_X1_stationOf a1 a2 a3 M0) := by
  unfold f_X1_stationOf m_X1_stationOf
  refine zr_gR w0 zio_1 rfl ?_
  refine zr_cv w0 zis_99.1 (r_X5_copyFrom w0 99 zis_99 a1 p1) (fun v3 h2 M2 w2 => ?_)
  refine zr_bd (zr_lp (fun s4 h5 M5 w5 => ?_) 0 h2 M2 w2) (fun e6 h7 M7 w7 => ?_)
  · refine zr_if ?_ ?_
    · exact zr_ok w5
    · refine zr_gR w5 zio_1 rfl ?_
      refine zr_s0 w5 zca_94 (fun h9 M9 w9 => ?_)
      exact zr_ok w9
  · refine zr_gT w7 p1.1 rfl (fun t10 q10 => ?_)
    refine zr_gR w7 (zit_o q10) rfl ?_
    refine zr_a0 w7 (zta_10 q10) (fun v12 => ?_)
    refine zr_bd (zr_lp (fun s13 h14 M14 w14 => ?_) 0 h7 M7 w7) (fun e15 h16 M16 w16 => ?_)
    · refine zr_if ?_ ?_
      · exact zr_ok w14
      · refine zr_gR w14 zio_1 rfl ?_
        refine zr_gR w14 zio_1 rfl ?_
        refine zr_cv w14 zis_99.1 (r_X5_windNow w14 99 zis_99) (fun v20 h19 M19 w19 => ?_)
        refine zr_cv w19 zis_99.1 (r_X5_passHour w19 99 zis_99 v20) (fun v22 h21 M21 w21 => ?_)
        refine zr_bd (zr_lp (fun s23 h24 M24 w24 => ?_) 0 h21 M21 w21) (fun e25 h26 M26 w26 => ?_)
        · refine zr_if ?_ ?_
          · exact zr_ok w24
          · refine zr_gR w24 zio_1 rfl ?_
            refine zr_a0 w24 zca_94 (fun v28 => ?_)
            refine zr_gR w24 zio_1 rfl ?_
            refine zr_cv w24 zis_99.1 (r_X5_seenFrom w24 99 zis_99 (zrm s23 6) (s23 / 6) v12) (fun v31 h30 M30 w30 => ?_)
            refine zr_bd (r_J6_bitCount_0f7a4 w30 v31) (fun v33 h32 M32 w32 => ?_)
            refine zr_s0 w32 zca_94 (fun h34 M34 w34 => ?_)
            exact zr_ok w34
        · exact zr_ok w26
    · refine zr_bd (zr_lp (fun s35 h36 M36 w36 => ?_) (0, 1) h16 M16 w16) (fun e37 h38 M38 w38 => ?_)
      · refine zr_if ?_ ?_
        · exact zr_ok w36
        · refine zr_gR w36 zio_1 rfl ?_
          refine zr_a0 w36 zca_94 (fun v40 => ?_)
          refine zr_gR w36 zio_1 rfl ?_
          refine zr_a0 w36 zca_94 (fun v42 => ?_)
          refine zr_if ?_ ?_
          · exact zr_ok w36
          · exact zr_ok w36
      · exact zr_ok w38
def m_X5_rainOfOwn (a0 : Nat) (a1 : Int32) (M0 : zMem) : Option (Int32 × zMem) :=
  mbd (
  mlp (σ := (Int32 × Int32)) (β := (Int32 × Int32)) zLF (fun s1 M2 =>
  mlt (ztof (M2.1 a0 14)) (fun t5 =>
  if (M2.1 t5 13) ≤ s1.2 then
  some ((.inr (s1.1, s1.2)), M2)
  else
  zob (mrw (a0 + 11) a1) (fun t8 =>
  zob (mrd M2 t8 s1.2) (fun v9 =>
  some ((.inl ((s1.1 + v9), (s1.2 + 1))), M2))))) (0, 0) M0) (fun e3 M4 =>
  some (e3.1, M4))
set_option maxRecDepth 100000 in
set_option maxHeartbeats 4000000 in
theorem r_X5_rainOfOwn {B n : Nat} {h0 : zHp} {M0 : zMem} (w0 : zW B n h0 M0) (a0 : Nat) (p0 : zIS a0) (a1 : Int32) : zRR B n (f_X5_rainOfOwn (B + a0) a1 h0) (m_X5_rainOfOwn a0 a1 M0) := by
  unfold f_X5_rainOfOwn m_X5_rainOfOwn
  refine zr_bd (zr_lp (fun s1 h2 M2 w2 => ?_) (0, 0) h0 M0 w0) (fun e3 h4 M4 w4 => ?_)
  · refine zr_gT w2 p0.1 rfl (fun t5 q5 => ?_)
    refine zr_gI w2 (zit_o q5) rfl ?_
    refine zr_if ?_ ?_
    · exact zr_ok w2
    · refine zr_gR w2 p0.1 rfl ?_
      refine zr_rw w2 p0.2.2.2.2.1 p0.2.2.2.2.2.1 (fun t8 q8 => ?_)
      refine zr_a0 w2 q8 (fun v9 => ?_)
      exact zr_ok w2
  · exact zr_ok w4
def m_X1_tryBoth (a1 : Nat) (a2 : Int32) (a3 : Int32) (M0 : zMem) : Option (Unit × zMem) :=
  mbd (
  mlp (σ := Int32) (β := Int32) zLF (fun s1 M2 =>
  if 25 ≤ s1 then
  some ((.inr s1), M2)
  else
  mbd (m_X5_copyFrom 99 a1 M2) (fun v7 M6 =>
  mbd (m_X5_pushBy 99 a2 (s1 / 5) M6) (fun v10 M9 =>
  mbd (m_X5_pushBy 99 a3 (zrm s1 5) M9) (fun v13 M12 =>
  mbd (m_X5_windNow 99 M12) (fun v17 M16 =>
  mbd (m_X5_passHour 99 v17 M16) (fun v19 M18 =>
  mbd (m_X5_rainOfOwn 99 a2 M18) (fun v23 M22 =>
  mbd (m_X5_rainOfOwn a1 a2 M22) (fun v25 M24 =>
  zob (mwr M24 97 s1 (v23 - v25)) (fun M26 =>
  mbd (m_X5_rainOfOwn 99 a3 M26) (fun v30 M29 =>
  mbd (m_X5_rainOfOwn a1 a3 M29) (fun v32 M31 =>
  zob (mwr M31 98 s1 (v30 - v32)) (fun M33 =>
  some ((.inl (s1 + 1)), M33))))))))))))) 0 M0) (fun e3 M4 =>
  some ((), M4))
set_option maxRecDepth 100000 in
set_option maxHeartbeats 4000000 in
theorem r_X1_tryBoth {B n : Nat} {h0 : zHp} {M0 : zMem} (w0 : zW B n h0 M0) (a1 : Nat) (p1 : zIS a1) (a2 : Int32) (a3 : Int32) : zRR B n (f_X1_tryBoth (B + 92) (B + a1) a2 a3 h0) (m_X1_tryBoth a1 a2 a3 M0) := by
  unfold f_X1_tryBoth m_X1_tryBoth
  refine zr_bd (zr_lp (fun s1 h2 M2 w2 => ?_) 0 h0 M0 w0) (fun e3 h4 M4 w4 => ?_)
  · refine zr_if ?_ ?_
    · exact zr_ok w2
    · refine zr_gR w2 zio_1 rfl ?_
      refine zr_cv w2 zis_99.1 (r_X5_copyFrom w2 99 zis_99 a1 p1) (fun v7 h6 M6 w6 => ?_)
      refine zr_gR w6 zio_1 rfl ?_
      refine zr_cv w6 zis_99.1 (r_X5_pushBy w6 99 zis_99 a2 (s1 / 5)) (fun v10 h9 M9 w9 => ?_)
      refine zr_gR w9 zio_1 rfl ?_
      refine zr_cv w9 zis_99.1 (r_X5_pushBy w9 99 zis_99 a3 (zrm s1 5)) (fun v13 h12 M12 w12 => ?_)
      refine zr_gR w12 zio_1 rfl ?_
      refine zr_gR w12 zio_1 rfl ?_
      refine zr_cv w12 zis_99.1 (r_X5_windNow w12 99 zis_99) (fun v17 h16 M16 w16 => ?_)
      refine zr_cv w16 zis_99.1 (r_X5_passHour w16 99 zis_99 v17) (fun v19 h18 M18 w18 => ?_)
      refine zr_gR w18 zio_1 rfl ?_
      refine zr_gR w18 zio_1 rfl ?_
      refine zr_cv w18 zis_99.1 (r_X5_rainOfOwn w18 99 zis_99 a2) (fun v23 h22 M22 w22 => ?_)
      refine zr_cv w22 p1.1 (r_X5_rainOfOwn w22 a1 p1 a2) (fun v25 h24 M24 w24 => ?_)
      refine zr_s0 w24 zca_97 (fun h26 M26 w26 => ?_)
      refine zr_gR w26 zio_1 rfl ?_
      refine zr_gR w26 zio_1 rfl ?_
      refine zr_cv w26 zis_99.1 (r_X5_rainOfOwn w26 99 zis_99 a3) (fun v30 h29 M29 w29 => ?_)
      refine zr_cv w29 p1.1 (r_X5_rainOfOwn w29 a1 p1 a3) (fun v32 h31 M31 w31 => ?_)
      refine zr_s0 w31 zca_98 (fun h33 M33 w33 => ?_)
      exact zr_ok w33
  · exact zr_ok w4
def m_X2_close (a0 : Nat) (a1 : Int32) (M0 : zMem) : Option (Unit × zMem) :=
  zob (mwr M0 ((a0 + 13) + 3) a1 (M0.1 (a0 + 13) 4)) (fun M3 =>
  some ((), M3))
set_option maxRecDepth 100000 in
set_option maxHeartbeats 4000000 in
theorem r_X2_close {B n : Nat} {h0 : zHp} {M0 : zMem} (w0 : zW B n h0 M0) (a0 : Nat) (p0 : zIT a0) (a1 : Int32) : zRR B n (f_X2_close (B + (a0 + 13)) a1 h0) (m_X2_close a0 a1 M0) := by
  unfold f_X2_close m_X2_close
  refine zr_gR w0 (zit_l p0) rfl ?_
  refine zr_gI w0 (zit_l p0) rfl ?_
  refine zr_s0 w0 (zla_2 p0) (fun h3 M3 w3 => ?_)
  exact zr_ok w3
def m_X2_forget (a0 : Nat) (M0 : zMem) : Option (Unit × zMem) :=
  mbd (
  mlp (σ := Int32) (β := Int32) zLF (fun s1 M2 =>
  if 3 ≤ s1 then
  some ((.inr s1), M2)
  else
  zob (mwr M2 ((a0 + 13) + 2) s1 0) (fun M6 =>
  zob (mwr M6 ((a0 + 13) + 3) s1 0) (fun M8 =>
  some ((.inl (s1 + 1)), M8)))) 0 M0) (fun e3 M4 =>
  mlt (mup M4 (a0 + 13) 4 0) (fun M9 =>
  mlt (mup M9 (a0 + 13) 5 0) (fun M10 =>
  some ((), M10))))
set_option maxRecDepth 100000 in
set_option maxHeartbeats 4000000 in
theorem r_X2_forget {B n : Nat} {h0 : zHp} {M0 : zMem} (w0 : zW B n h0 M0) (a0 : Nat) (p0 : zIT a0) : zRR B n (f_X2_forget (B + (a0 + 13)) h0) (m_X2_forget a0 M0) := by
  unfold f_X2_forget m_X2_forget
  refine zr_bd (zr_lp (fun s1 h2 M2 w2 => ?_) 0 h0 M0 w0) (fun e3 h4 M4 w4 => ?_)
  · refine zr_if ?_ ?_
    · exact zr_ok w2
    · refine zr_gR w2 (zit_l p0) rfl ?_
      refine zr_s0 w2 (zla_1 p0) (fun h6 M6 w6 => ?_)
      refine zr_gR w6 (zit_l p0) rfl ?_
      refine zr_s0 w6 (zla_2 p0) (fun h8 M8 w8 => ?_)
      exact zr_ok w8
  · refine zr_pV w4 (zit_l p0) (Nat.le_of_ble_eq_true rfl) rfl (fun h9 M9 w9 => ?_)
    refine zr_pV w9 (zit_l p0) (Nat.le_of_ble_eq_true rfl) rfl (fun h10 M10 w10 => ?_)
    exact zr_ok w10
def m_X2_open (a0 : Nat) (a1 : Int32) (M0 : zMem) : Option (Unit × zMem) :=
  zob (mwr M0 ((a0 + 13) + 2) a1 (M0.1 (a0 + 13) 4)) (fun M3 =>
  some ((), M3))
set_option maxRecDepth 100000 in
set_option maxHeartbeats 4000000 in
theorem r_X2_open {B n : Nat} {h0 : zHp} {M0 : zMem} (w0 : zW B n h0 M0) (a0 : Nat) (p0 : zIT a0) (a1 : Int32) : zRR B n (f_X2_open (B + (a0 + 13)) a1 h0) (m_X2_open a0 a1 M0) := by
  unfold f_X2_open m_X2_open
  refine zr_gR w0 (zit_l p0) rfl ?_
  refine zr_gI w0 (zit_l p0) rfl ?_
  refine zr_s0 w0 (zla_1 p0) (fun h3 M3 w3 => ?_)
  exact zr_ok w3
def m_X2_place (a0 : Nat) (a1 : Int32) (M0 : zMem) : Option (Unit × zMem) :=
  if 64 ≤ (M0.1 (a0 + 13) 4) then
  some ((), M0)
  else
  zob (mwr M0 ((a0 + 13) + 1) (M0.1 (a0 + 13) 4) a1) (fun M4 =>
  mlt (mup M4 (a0 + 13) 4 ((M4.1 (a0 + 13) 4) + 1)) (fun M6 =>
  some ((), M6)))
set_option maxRecDepth 100000 in
set_option maxHeartbeats 4000000 in
theorem r_X2_place {B n : Nat} {h0 : zHp} {M0 : zMem} (w0 : zW B n h0 M0) (a0 : Nat) (p0 : zIT a0) (a1 : Int32) : zRR B n (f_X2_place (B + (a0 + 13)) a1 h0) (m_X2_place a0 a1 M0) := by
  unfold f_X2_place m_X2_place
  refine zr_gI w0 (zit_l p0) rfl ?_
  refine zr_if ?_ ?_
  · exact zr_ok w0
  · refine zr_gR w0 (zit_l p0) rfl ?_
    refine zr_gI w0 (zit_l p0) rfl ?_
    refine zr_s0 w0 (zla_0 p0) (fun h4 M4 w4 => ?_)
    refine zr_gI w4 (zit_l p0) rfl ?_
    refine zr_pV w4 (zit_l p0) (Nat.le_of_ble_eq_true rfl) rfl (fun h6 M6 w6 => ?_)
    exact zr_ok w6
def m_X3_add (a1 : Int32) (a2 : Int32) (a3 : Int32) (a4 : Int32) (M0 : zMem) : Option (Int32 × zMem) :=
  if (M0.1 85 6) < 24 then
  zob (mwr M0 86 (M0.1 85 6) a1) (fun M4 =>
  zob (mwr M4 87 (M4.1 85 6) a2) (fun M7 =>
  zob (mwr M7 88 (M7.1 85 6) a3) (fun M10 =>
  zob (mwr M10 89 (M10.1 85 6) (znar 2 a4)) (fun M13 =>
  zob (mwr M13 90 (M13.1 85 6) (-1)) (fun M16 =>
  mlt (mup M16 85 6 ((M16.1 85 6) + 1)) (fun M18 =>
  some (((M18.1 85 6) - 1), M18)))))))
  else
  some ((-1), M0)
set_option maxRecDepth 100000 in
set_option maxHeartbeats 4000000 in
theorem r_X3_add {B n : Nat} {h0 : zHp} {M0 : zMem} (w0 : zW B n h0 M0) (a1 : Int32) (a2 : Int32) (a3 : Int32) (a4 : Int32) : zRR B n (f_X3_add (B + 85) a1 a2 a3 a4 h0) (m_X3_add a1 a2 a3 a4 M0) := by
  unfold f_X3_add m_X3_add
  refine zr_gI w0 zio_3 rfl ?_
  refine zr_if ?_ ?_
  · refine zr_gR w0 zio_3 rfl ?_
    refine zr_gI w0 zio_3 rfl ?_
    refine zr_s0 w0 zca_86 (fun h4 M4 w4 => ?_)
    refine zr_gR w4 zio_3 rfl ?_
    refine zr_gI w4 zio_3 rfl ?_
    refine zr_s0 w4 zca_87 (fun h7 M7 w7 => ?_)
    refine zr_gR w7 zio_3 rfl ?_
    refine zr_gI w7 zio_3 rfl ?_
    refine zr_s0 w7 zca_88 (fun h10 M10 w10 => ?_)
    refine zr_gR w10 zio_3 rfl ?_
    refine zr_gI w10 zio_3 rfl ?_
    refine zr_s (t := 2) (by decide) w10 zca_89 (fun h13 M13 w13 => ?_)
    refine zr_gR w13 zio_3 rfl ?_
    refine zr_gI w13 zio_3 rfl ?_
    refine zr_s0 w13 zca_90 (fun h16 M16 w16 => ?_)
    refine zr_gI w16 zio_3 rfl ?_
    refine zr_pV w16 zio_3 (Nat.le_of_ble_eq_true rfl) rfl (fun h18 M18 w18 => ?_)
    refine zr_gI w18 zio_3 rfl ?_
    exact zr_ok w18
  · exact zr_ok w0
def m_X3_addStrike (a1 : Int32) (M0 : zMem) : Option (Int32 × zMem) :=
  mbd (m_X3_add 0 0 0 0 M0) (fun v2 M1 =>
  if v2 = (-1) then
  some (v2, M1)
  else
  zob (mwr M1 90 v2 a1) (fun M4 =>
  some (v2, M4)))
set_option maxRecDepth 100000 in
set_option maxHeartbeats 4000000 in
theorem r_X3_addStrike {B n : Nat} {h0 : zHp} {M0 : zMem} (w0 : zW B n h0 M0) (a1 : Int32) : zRR B n (f_X3_addStrike (B + 85) a1 h0) (m_X3_addStrike a1 M0) := by
  unfold f_X3_addStrike m_X3_addStrike
  refine zr_cv w0 zio_3 (r_X3_add w0 0 0 0 0) (fun v2 h1 M1 w1 => ?_)
  refine zr_if ?_ ?_
  · exact zr_ok w1
  · refine zr_gR w1 zio_3 rfl ?_
    refine zr_s0 w1 zca_90 (fun h4 M4 w4 => ?_)
    exact zr_ok w4
def m_X3_forget  (M0 : zMem) : Option (Unit × zMem) :=
  mlt (mup M0 85 6 0) (fun M1 =>
  mlt (mup M1 85 7 (-1)) (fun M2 =>
  some ((), M2)))
set_option maxRecDepth 100000 in
set_option maxHeartbeats 4000000 in
theorem r_X3_forget {B n : Nat} {h0 : zHp} {M0 : zMem} (w0 : zW B n h0 M0)  : zRR B n (f_X3_forget (B + 85) h0) (m_X3_forget  M0) := by
  unfold f_X3_forget m_X3_forget
  refine zr_pV w0 zio_3 (Nat.le_of_ble_eq_true rfl) rfl (fun h1 M1 w1 => ?_)
  refine zr_pV w1 zio_3 (Nat.le_of_ble_eq_true rfl) rfl (fun h2 M2 w2 => ?_)
  exact zr_ok w2
def m_X3_strikeOut  (M0 : zMem) : Option (Unit × zMem) :=
  mbd (
  mlp (σ := Int32) (β := Int32) zLF (fun s1 M2 =>
  if 24 ≤ s1 then
  some ((.inr s1), M2)
  else
  zob (mwr M2 91 s1 (znar 2 0)) (fun M6 =>
  some ((.inl (s1 + 1)), M6))) 0 M0) (fun e3 M4 =>
  mbd (m_X3_readable  M4) (fun v8 M7 =>
  mbd (
  mlp (σ := Int32) (β := Int32) zLF (fun s9 M10 =>
  if s9 < 0 then
  some ((.inr s9), M10)
  else
  zob (mrd M10 91 s9) (fun v14 =>
  if v14 = 0 then
  zob (mrd M10 90 s9) (fun v16 =>
  if v16 = (-1) then
  some ((.inl (s9 + (-1))), M10)
  else
  zob (mrd M10 90 s9) (fun v19 =>
  zob (mwr M10 91 v19 (znar 2 1)) (fun M20 =>
  some ((.inl (s9 + (-1))), M20))))
  else
  some ((.inl (s9 + (-1))), M10))) (v8 - 1) M7) (fun e11 M12 =>
  some ((), M12))))
set_option maxRecDepth 100000 in
set_option maxHeartbeats 4000000 in
theorem r_X3_strikeOut {B n : Nat} {h0 : zHp} {M0 : zMem} (w0 : zW B n h0 M0)  : zRR B n (f_X3_strikeOut (B + 85) h0) (m_X3_strikeOut  M0) := by
  unfold f_X3_strikeOut m_X3_strikeOut
  refine zr_bd (zr_lp (fun s1 h2 M2 w2 => ?_) 0 h0 M0 w0) (fun e3 h4 M4 w4 => ?_)
  · refine zr_if ?_ ?_
    · exact zr_ok w2
    · refine zr_gR w2 zio_3 rfl ?_
      refine zr_s (t := 2) (by decide) w2 zca_91 (fun h6 M6 w6 => ?_)
      exact zr_ok w6
  · refine zr_cv w4 zio_3 (r_X3_readable w4 ) (fun v8 h7 M7 w7 => ?_)
    refine zr_bd (zr_lp (fun s9 h10 M10 w10 => ?_) (v8 - 1) h7 M7 w7) (fun e11 h12 M12 w12 => ?_)
    · refine zr_if ?_ ?_
      · exact zr_ok w10
      · refine zr_gR w10 zio_3 rfl ?_
        refine zr_a2 w10 zca_91 (fun v14 => ?_)
        refine zr_if ?_ ?_
        · refine zr_gR w10 zio_3 rfl ?_
          refine zr_a0 w10 zca_90 (fun v16 => ?_)
          refine zr_if ?_ ?_
          · exact zr_ok w10
          · refine zr_gR w10 zio_3 rfl ?_
            refine zr_gR w10 zio_3 rfl ?_
            refine zr_a0 w10 zca_90 (fun v19 => ?_)
            refine zr_s (t := 2) (by decide) w10 zca_91 (fun h20 M20 w20 => ?_)
            exact zr_ok w20
        · exact zr_ok w10
    · exact zr_ok w12
def m_X4_isDigit (a0 : Int32) (M0 : zMem) : Option (Int32 × zMem) :=
  if a0 < 48 then
  some (0, M0)
  else
  if 57 < a0 then
  some (0, M0)
  else
  some (1, M0)
set_option maxRecDepth 100000 in
set_option maxHeartbeats 4000000 in
theorem r_X4_isDigit {B n : Nat} {h0 : zHp} {M0 : zMem} (w0 : zW B n h0 M0) (a0 : Int32) : zRR B n (f_X4_isDigit a0 h0) (m_X4_isDigit a0 M0) := by
  unfold f_X4_isDigit m_X4_isDigit
  refine zr_if ?_ ?_
  · exact zr_ok w0
  · refine zr_if ?_ ?_
    · exact zr_ok w0
    · exact zr_ok w0
def m_X4_isLetter (a0 : Int32) (M0 : zMem) : Option (Int32 × zMem) :=
  if a0 < 97 then
  some (0, M0)
  else
  if 122 < a0 then
  some (0, M0)
  else
  some (1, M0)
set_option maxRecDepth 100000 in
set_option maxHeartbeats 4000000 in
theorem r_X4_isLetter {B n : Nat} {h0 : zHp} {M0 : zMem} (w0 : zW B n h0 M0) (a0 : Int32) : zRR B n (f_X4_isLetter a0 h0) (m_X4_isLetter a0 M0) := by
  unfold f_X4_isLetter m_X4_isLetter
  refine zr_if ?_ ?_
  · exact zr_ok w0
  · refine zr_if ?_ ?_
    · exact zr_ok w0
    · exact zr_ok w0
def m_X4_signToken (a0 : Int32) (a1 : Int32) (M0 : zMem) : Option (Int32 × zMem) :=
  if a0 = 40 then
  some (33, M0)
  else if a0 = 41 then
  some (34, M0)
  else if a0 = 42 then
  some (25, M0)
  else if a0 = 43 then
  some (23, M0)
  else if a0 = 44 then
  some (39, M0)
  else if a0 = 45 then
  some (24, M0)
  else if a0 = 46 then
  some (39, M0)
  else if a0 = 47 then
  some (26, M0)
  else if a0 = 48 then
  some (39, M0)
  else if a0 = 49 then
  some (39, M0)
  else if a0 = 50 then
  some (39, M0)
  else if a0 = 51 then
  some (39, M0)
  else if a0 = 52 then
  some (39, M0)
  else if a0 = 53 then
  some (39, M0)
  else if a0 = 54 then
  some (39, M0)
  else if a0 = 55 then
  some (39, M0)
  else if a0 = 56 then
  some (39, M0)
  else if a0 = 57 then
  some (39, M0)
  else if a0 = 58 then
  some (39, M0)
  else if a0 = 59 then
  some (35, M0)
  else if a0 = 60 then
  if a1 = 61 then
  some (28, M0)
  else
  if a1 = 62 then
  some (30, M0)
  else
  some (27, M0)
  else if a0 = 61 then
  some (29, M0)
  else if a0 = 62 then
  if a1 = 61 then
  some (31, M0)
  else
  some (32, M0)
  else 
  some (39, M0)
set_option maxRecDepth 100000 in
set_option maxHeartbeats 4000000 in
theorem r_X4_signToken {B n : Nat} {h0 : zHp} {M0 : zMem} (w0 : zW B n h0 M0) (a0 : Int32) (a1 : Int32) : zRR B n (f_X4_signToken a0 a1 h0) (m_X4_signToken a0 a1 M0) := by
  unfold f_X4_signToken m_X4_signToken
  refine zr_if ?_ ?_
  · exact zr_ok w0
  refine zr_if ?_ ?_
  · exact zr_ok w0
  refine zr_if ?_ ?_
  · exact zr_ok w0
  refine zr_if ?_ ?_
  · exact zr_ok w0
  refine zr_if ?_ ?_
  · exact zr_ok w0
  refine zr_if ?_ ?_
  · exact zr_ok w0
  refine zr_if ?_ ?_
  · exact zr_ok w0
  refine zr_if ?_ ?_
  · exact zr_ok w0
  refine zr_if ?_ ?_
  · exact zr_ok w0
  refine zr_if ?_ ?_
  · exact zr_ok w0
  refine zr_if ?_ ?_
  · exact zr_ok w0
  refine zr_if ?_ ?_
  · exact zr_ok w0
  refine zr_if ?_ ?_
  · exact zr_ok w0
  refine zr_if ?_ ?_
  · exact zr_ok w0
  refine zr_if ?_ ?_
  · exact zr_ok w0
  refine zr_if ?_ ?_
  · exact zr_ok w0
  refine zr_if ?_ ?_
  · exact zr_ok w0
  refine zr_if ?_ ?_
  · exact zr_ok w0
  refine zr_if ?_ ?_
  · exact zr_ok w0
  refine zr_if ?_ ?_
  · exact zr_ok w0
  refine zr_if ?_ ?_
  · refine zr_if ?_ ?_
    · exact zr_ok w0
    · refine zr_if ?_ ?_
      · exact zr_ok w0
      · exact zr_ok w0
  refine zr_if ?_ ?_
  · exact zr_ok w0
  refine zr_if ?_ ?_
  · refine zr_if ?_ ?_
    · exact zr_ok w0
    · exact zr_ok w0
  exact zr_ok w0
def m_X4_takeNumber  (M0 : zMem) : Option (Unit × zMem) :=
  mlt (mup M0 2 6 0) (fun M1 =>
  mbd (
  mlp (σ := Unit) (β := Unit) zLF (fun s2 M3 =>
  if (M3.1 2 2) ≤ (M3.1 2 3) then
  some ((.inr ()), M3)
  else
  mlt (zbof (M3.1 2 1)) (fun t8 =>
  zob (mrd M3 t8 (M3.1 2 3)) (fun v10 =>
  if v10 < 48 then
  some ((.inr ()), M3)
  else
  mlt (zbof (M3.1 2 1)) (fun t11 =>
  zob (mrd M3 t11 (M3.1 2 3)) (fun v13 =>
  if 57 < v13 then
  some ((.inr ()), M3)
  else
  mlt (zbof (M3.1 2 1)) (fun t15 =>
  zob (mrd M3 t15 (M3.1 2 3)) (fun v17 =>
  mbd (α := Int32) (
  if ((((M3.1 2 6) * 10) + v17) - 48) ≤ 1000000 then
  some (((((M3.1 2 6) * 10) + v17) - 48), M3)
  else
  some (1000000, M3)) (fun e18 M19 =>
  mlt (mup M19 2 6 e18) (fun M20 =>
  mlt (mup M20 2 3 ((M20.1 2 3) + 1)) (fun M22 =>
  some ((.inl ()), M22))))))))))) () M1) (fun e4 M5 =>
  some ((), M5)))
set_option maxRecDepth 100000 in
set_option maxHeartbeats 4000000 in
theorem r_X4_takeNumber {B n : Nat} {h0 : zHp} {M0 : zMem} (w0 : zW B n h0 M0)  : zRR B n (f_X4_takeNumber (B + 2) h0) (m_X4_takeNumber  M0) := by
  unfold f_X4_takeNumber m_X4_takeNumber
  refine zr_pV w0 zio_4 (Nat.le_of_ble_eq_true rfl) rfl (fun h1 M1 w1 => ?_)
  refine zr_bd (zr_lp (fun s2 h3 M3 w3 => ?_) () h1 M1 w1) (fun e4 h5 M5 w5 => ?_)
  · refine zr_gI w3 zio_4 rfl ?_
    refine zr_gI w3 zio_4 rfl ?_
    refine zr_if ?_ ?_
    · exact zr_ok w3
    · refine zr_gB w3 zio_4 rfl (fun t8 Nq8 q8 => ?_)
      refine zr_gI w3 zio_4 rfl ?_
      refine zr_a1 w3 q8 (fun v10 => ?_)
      refine zr_if ?_ ?_
      · exact zr_ok w3
      · refine zr_gB w3 zio_4 rfl (fun t11 Nq11 q11 => ?_)
        refine zr_gI w3 zio_4 rfl ?_
        refine zr_a1 w3 q11 (fun v13 => ?_)
        refine zr_if ?_ ?_
        · exact zr_ok w3
        · refine zr_gI w3 zio_4 rfl ?_
          refine zr_gB w3 zio_4 rfl (fun t15 Nq15 q15 => ?_)
          refine zr_gI w3 zio_4 rfl ?_
          refine zr_a1 w3 q15 (fun v17 => ?_)
          refine zr_bd ?_ (fun e18 h19 M19 w19 => ?_)
          · refine zr_if ?_ ?_
            · exact zr_ok w3
            · exact zr_ok w3
          · refine zr_pV w19 zio_4 (Nat.le_of_ble_eq_true rfl) rfl (fun h20 M20 w20 => ?_)
            refine zr_gI w20 zio_4 rfl ?_
            refine zr_pV w20 zio_4 (Nat.le_of_ble_eq_true rfl) rfl (fun h22 M22 w22 => ?_)
            exact zr_ok w22
  · exact zr_ok w5
def m_X4_takeWord  (M0 : zMem) : Option (Unit × zMem) :=
  mlt (mup M0 2 7 0) (fun M1 =>
  mbd (
  mlp (σ := Int32) (β := Int32) zLF (fun s2 M3 =>
  if (M3.1 2 2) ≤ (M3.1 2 3) then
  some ((.inr s2), M3)
  else
  mlt (zbof (M3.1 2 1)) (fun t8 =>
  zob (mrd M3 t8 (M3.1 2 3)) (fun v10 =>
  if v10 < 97 then
  some ((.inr s2), M3)
  else
  mlt (zbof (M3.1 2 1)) (fun t11 =>
  zob (mrd M3 t11 (M3.1 2 3)) (fun v13 =>
  if 122 < v13 then
  some ((.inr s2), M3)
  else
  mbd (α := Unit) (
  if 6 ≤ s2 then
  some ((), M3)
  else
  mlt (zbof (M3.1 2 1)) (fun t15 =>
  zob (mrd M3 t15 (M3.1 2 3)) (fun v17 =>
  mlt (mup M3 2 7 ((M3.1 2 7) ||| (((v17 - 97) + 1) <<< ((5 * (5 - s2)) &&& 31)))) (fun M18 =>
  some ((), M18))))) (fun e19 M20 =>
  mlt (mup M20 2 3 ((M20.1 2 3) + 1)) (fun M22 =>
  some ((.inl (s2 + 1)), M22)))))))) 0 M1) (fun e4 M5 =>
  some ((), M5)))
set_option maxRecDepth 100000 in
set_option maxHeartbeats 4000000 in
theorem r_X4_takeWord {B n : Nat} {h0 : zHp} {M0 : zMem} (w0 : zW B n h0 M0)  : zRR B n (f_X4_takeWord (B + 2) h0) (m_X4_takeWord  M0) := by
  unfold f_X4_takeWord m_X4_takeWord
  refine zr_pV w0 zio_4 (Nat.le_of_ble_eq_true rfl) rfl (fun h1 M1 w1 => ?_)
  refine zr_bd (zr_lp (fun s2 h3 M3 w3 => ?_) 0 h1 M1 w1) (fun e4 h5 M5 w5 => ?_)
  · refine zr_gI w3 zio_4 rfl ?_
    refine zr_gI w3 zio_4 rfl ?_
    refine zr_if ?_ ?_
    · exact zr_ok w3
    · refine zr_gB w3 zio_4 rfl (fun t8 Nq8 q8 => ?_)
      refine zr_gI w3 zio_4 rfl ?_
      refine zr_a1 w3 q8 (fun v10 => ?_)
      refine zr_if ?_ ?_
      · exact zr_ok w3
      · refine zr_gB w3 zio_4 rfl (fun t11 Nq11 q11 => ?_)
        refine zr_gI w3 zio_4 rfl ?_
        refine zr_a1 w3 q11 (fun v13 => ?_)
        refine zr_if ?_ ?_
        · exact zr_ok w3
        · refine zr_bd ?_ (fun e19 h20 M20 w20 => ?_)
          · refine zr_if ?_ ?_
            · exact zr_ok w3
            · refine zr_gI w3 zio_4 rfl ?_
              refine zr_gB w3 zio_4 rfl (fun t15 Nq15 q15 => ?_)
              refine zr_gI w3 zio_4 rfl ?_
              refine zr_a1 w3 q15 (fun v17 => ?_)
              refine zr_pV w3 zio_4 (Nat.le_of_ble_eq_true rfl) rfl (fun h18 M18 w18 => ?_)
              exact zr_ok w18
          · refine zr_gI w20 zio_4 rfl ?_
            refine zr_pV w20 zio_4 (Nat.le_of_ble_eq_true rfl) rfl (fun h22 M22 w22 => ?_)
            exact zr_ok w22
  · exact zr_ok w5
def m_X4_wordToken  (M0 : zMem) : Option (Int32 × zMem) :=
  mbd (
  mlp (σ := Int32) (β := (Int32 ⊕ Int32)) zLF (fun s1 M2 =>
  if 23 ≤ s1 then
  some ((.inr (.inl s1)), M2)
  else
  zob (mrd M2 3 s1) (fun v6 =>
  if v6 = (M2.1 2 7) then
  some ((.inr (.inr s1)), M2)
  else
  some ((.inl (s1 + 1)), M2))) 0 M0) (fun b8 M4 => zsl b8 (fun e3 =>
  some (36, M4)) (fun r => some (r, M4)))
set_option maxRecDepth 100000 in
set_option maxHeartbeats 4000000 in
theorem r_X4_wordToken {B n : Nat} {h0 : zHp} {M0 : zMem} (w0 : zW B n h0 M0)  : zRR B n (f_X4_wordToken (B + 2) h0) (m_X4_wordToken  M0) := by
  unfold f_X4_wordToken m_X4_wordToken
  refine zr_bd (zr_lp (fun s1 h2 M2 w2 => ?_) 0 h0 M0 w0) (fun b8 h4 M4 w4 => zr_sl (fun e3 => ?_) (fun r => zr_ok w4))
  · refine zr_if ?_ ?_
    · exact zr_ok w2
    · refine zr_gR w2 zio_4 rfl ?_
      refine zr_a0 w2 zca_3 (fun v6 => ?_)
      refine zr_gI w2 zio_4 rfl ?_
      refine zr_if ?_ ?_
      · exact zr_ok w2
      · exact zr_ok w2
  · exact zr_ok w4
def m_X4_advance  (M0 : zMem) : Option (Unit × zMem) :=
  if (M0.1 2 14) = 0 then
  mbd (
  mlp (σ := Unit) (β := Unit) zLF (fun s2 M3 =>
  if (M3.1 2 2) ≤ (M3.1 2 3) then
  some ((.inr ()), M3)
  else
  mlt (zbof (M3.1 2 1)) (fun t8 =>
  zob (mrd M3 t8 (M3.1 2 3)) (fun v10 =>
  mbd (α := (Unit ⊕ (Unit ⊕ Unit))) (
  if v10 = 10 then
  some ((.inl ()), M3)
  else
  mlt (zbof (M3.1 2 1)) (fun t11 =>
  zob (mrd M3 t11 (M3.1 2 3)) (fun v13 =>
  if v13 = 32 then
  some ((.inl ()), M3)
  else
  some ((.inr (.inr ())), M3)))) (fun b65 M15 => zsl b65 (fun e14 =>
  mlt (mup M15 2 3 ((M15.1 2 3) + 1)) (fun M17 =>
  some ((.inl ()), M17))) (fun r => some (r, M15)))))) () M0) (fun e4 M5 =>
  mlt (mup M5 2 5 (M5.1 2 3)) (fun M19 =>
  if (M19.1 2 3) < (M19.1 2 2) then
  mlt (zbof (M19.1 2 1)) (fun t22 =>
  zob (mrd M19 t22 (M19.1 2 3)) (fun v24 =>
  mbd (m_X4_isLetter v24 M19) (fun v26 M25 =>
  if v26 = 0 then
  mlt (zbof (M25.1 2 1)) (fun t27 =>
  zob (mrd M25 t27 (M25.1 2 3)) (fun v29 =>
  mbd (m_X4_isDigit v29 M25) (fun v31 M30 =>
  if v31 = 0 then
  mlt (zbof (M30.1 2 1)) (fun t32 =>
  zob (mrd M30 t32 (M30.1 2 3)) (fun v34 =>
  mbd (α := Int32) (
  if (M30.1 2 2) ≤ ((M30.1 2 3) + 1) then
  some (0, M30)
  else
  mlt (zbof (M30.1 2 1)) (fun t37 =>
  zob (mrd M30 t37 ((M30.1 2 3) + 1)) (fun v39 =>
  some (v39, M30)))) (fun e40 M41 =>
  mbd (m_X4_signToken v34 e40 M41) (fun v43 M42 =>
  mlt (mup M42 2 4 v43) (fun M44 =>
  mbd (α := Int32) (
  if (M44.1 2 4) = 28 then
  some (2, M44)
  else
  if (M44.1 2 4) = 30 then
  some (2, M44)
  else
  if (M44.1 2 4) = 31 then
  some (2, M44)
  else
  some (1, M44)) (fun e49 M50 =>
  mlt (mup M50 2 3 ((M44.1 2 3) + e49)) (fun M51 =>
  some ((), M51))))))))
  else
  mbd (m_X4_takeNumber  M30) (fun v53 M52 =>
  mlt (mup M52 2 4 37) (fun M54 =>
  some ((), M54))))))
  else
  mbd (m_X4_takeWord  M25) (fun v56 M55 =>
  mbd (α := Int32) (
  if ((M55.1 2 3) - (M55.1 2 5)) ≤ 6 then
  mbd (m_X4_wordToken  M55) (fun v60 M59 =>
  some (v60, M59))
  else
  some (39, M55)) (fun e61 M62 =>
  mlt (mup M62 2 4 e61) (fun M63 =>
  some ((), M63)))))))
  else
  mlt (mup M19 2 4 38) (fun M64 =>
  some ((), M64))))
  else
  some ((), M0)
set_option maxRecDepth 100000 in
set_option maxHeartbeats 4000000 in
theorem r_X4_advance {B n : Nat} {h0 : zHp} {M0 : zMem} (w0 : zW B n h0 M0)  : zRR B n (f_X4_advance (B + 2) h0) (m_X4_advance  M0) := by
  unfold f_X4_advance m_X4_advance
  refine zr_gI w0 zio_4 rfl ?_
  refine zr_if ?_ ?_
  · refine zr_bd (zr_lp (fun s2 h3 M3 w3 => ?_) () h0 M0 w0) (fun e4 h5 M5 w5 => ?_)
    · refine zr_gI w3 zio_4 rfl ?_
      refine zr_gI w3 zio_4 rfl ?_
      refine zr_if ?_ ?_
      · exact zr_ok w3
      · refine zr_gB w3 zio_4 rfl (fun t8 Nq8 q8 => ?_)
        refine zr_gI w3 zio_4 rfl ?_
        refine zr_a1 w3 q8 (fun v10 => ?_)
        refine zr_bd ?_ (fun b65 h15 M15 w15 => zr_sl (fun e14 => ?_) (fun r => zr_ok w15))
        · refine zr_if ?_ ?_
          · exact zr_ok w3
          · refine zr_gB w3 zio_4 rfl (fun t11 Nq11 q11 => ?_)
            refine zr_gI w3 zio_4 rfl ?_
            refine zr_a1 w3 q11 (fun v13 => ?_)
            refine zr_if ?_ ?_
            · exact zr_ok w3
            · exact zr_ok w3
        · refine zr_gI w15 zio_4 rfl ?_
          refine zr_pV w15 zio_4 (Nat.le_of_ble_eq_true rfl) rfl (fun h17 M17 w17 => ?_)
          exact zr_ok w17
    · refine zr_gI w5 zio_4 rfl ?_
      refine zr_pV w5 zio_4 (Nat.le_of_ble_eq_true rfl) rfl (fun h19 M19 w19 => ?_)
      refine zr_gI w19 zio_4 rfl ?_
      refine zr_gI w19 zio_4 rfl ?_
      refine zr_if ?_ ?_
      · refine zr_gB w19 zio_4 rfl (fun t22 Nq22 q22 => ?_)
        refine zr_gI w19 zio_4 rfl ?_
        refine zr_a1 w19 q22 (fun v24 => ?_)
        refine zr_bd (r_X4_isLetter w19 v24) (fun v26 h25 M25 w25 => ?_)
        refine zr_if ?_ ?_
        · refine zr_gB w25 zio_4 rfl (fun t27 Nq27 q27 => ?_)
          refine zr_gI w25 zio_4 rfl ?_
          refine zr_a1 w25 q27 (fun v29 => ?_)
          refine zr_bd (r_X4_isDigit w25 v29) (fun v31 h30 M30 w30 => ?_)
          refine zr_if ?_ ?_
          · refine zr_gB w30 zio_4 rfl (fun t32 Nq32 q32 => ?_)
            refine zr_gI w30 zio_4 rfl ?_
            refine zr_a1 w30 q32 (fun v34 => ?_)
            refine zr_gI w30 zio_4 rfl ?_
            refine zr_gI w30 zio_4 rfl ?_
            refine zr_bd ?_ (fun e40 h41 M41 w41 => ?_)
            · refine zr_if ?_ ?_
              · exact zr_ok w30
              · refine zr_gB w30 zio_4 rfl (fun t37 Nq37 q37 => ?_)
                refine zr_gI w30 zio_4 rfl ?_
                refine zr_a1 w30 q37 (fun v39 => ?_)
                exact zr_ok w30
            · refine zr_bd (r_X4_signToken w41 v34 e40) (fun v43 h42 M42 w42 => ?_)
              refine zr_pV w42 zio_4 (Nat.le_of_ble_eq_true rfl) rfl (fun h44 M44 w44 => ?_)
              refine zr_gI w44 zio_4 rfl ?_
              refine zr_gI w44 zio_4 rfl ?_
              refine zr_bd ?_ (fun e49 h50 M50 w50 => ?_)
              · refine zr_if ?_ ?_
                · exact zr_ok w44
                · refine zr_gI w44 zio_4 rfl ?_
                  refine zr_if ?_ ?_
                  · exact zr_ok w44
                  · refine zr_gI w44 zio_4 rfl ?_
                    refine zr_if ?_ ?_
                    · exact zr_ok w44
                    · exact zr_ok w44
              · refine zr_pV w50 zio_4 (Nat.le_of_ble_eq_true rfl) rfl (fun h51 M51 w51 => ?_)
                exact zr_ok w51
          · refine zr_cv w30 zio_4 (r_X4_takeNumber w30 ) (fun v53 h52 M52 w52 => ?_)
            refine zr_pV w52 zio_4 (Nat.le_of_ble_eq_true rfl) rfl (fun h54 M54 w54 => ?_)
            exact zr_ok w54
        · refine zr_cv w25 zio_4 (r_X4_takeWord w25 ) (fun v56 h55 M55 w55 => ?_)
          refine zr_gI w55 zio_4 rfl ?_
          refine zr_gI w55 zio_4 rfl ?_
          refine zr_bd ?_ (fun e61 h62 M62 w62 => ?_)
          · refine zr_if ?_ ?_
            · refine zr_cv w55 zio_4 (r_X4_wordToken w55 ) (fun v60 h59 M59 w59 => ?_)
              exact zr_ok w59
            · exact zr_ok w55
          · refine zr_pV w62 zio_4 (Nat.le_of_ble_eq_true rfl) rfl (fun h63 M63 w63 => ?_)
            exact zr_ok w63
      · refine zr_pV w19 zio_4 (Nat.le_of_ble_eq_true rfl) rfl (fun h64 M64 w64 => ?_)
        exact zr_ok w64
  · exact zr_ok w0
def m_X4_failAt (a1 : Int32) (a2 : Int32) (M0 : zMem) : Option (Unit × zMem) :=
  if (M0.1 2 14) = 0 then
  mlt (mup M0 2 14 a1) (fun M2 =>
  mlt (mup M2 2 15 a2) (fun M3 =>
  mlt (mup M3 2 4 39) (fun M4 =>
  some ((), M4))))
  else
  some ((), M0)
set_option maxRecDepth 100000 in
set_option maxHeartbeats 4000000 in
theorem r_X4_failAt {B n : Nat} {h0 : zHp} {M0 : zMem} (w0 : zW B n h0 M0) (a1 : Int32) (a2 : Int32) : zRR B n (f_X4_failAt (B + 2) a1 a2 h0) (m_X4_failAt a1 a2 M0) := by
  unfold f_X4_failAt m_X4_failAt
  refine zr_gI w0 zio_4 rfl ?_
  refine zr_if ?_ ?_
  · refine zr_pV w0 zio_4 (Nat.le_of_ble_eq_true rfl) rfl (fun h2 M2 w2 => ?_)
    refine zr_pV w2 zio_4 (Nat.le_of_ble_eq_true rfl) rfl (fun h3 M3 w3 => ?_)
    refine zr_pV w3 zio_4 (Nat.le_of_ble_eq_true rfl) rfl (fun h4 M4 w4 => ?_)
    exact zr_ok w4
  · exact zr_ok w0
def m_X4_fail (a1 : Int32) (M0 : zMem) : Option (Unit × zMem) :=
  mbd (m_X4_failAt a1 (M0.1 2 5) M0) (fun v3 M2 =>
  some ((), M2))
set_option maxRecDepth 100000 in
set_option maxHeartbeats 4000000 in
theorem r_X4_fail {B n : Nat} {h0 : zHp} {M0 : zMem} (w0 : zW B n h0 M0) (a1 : Int32) : zRR B n (f_X4_fail (B + 2) a1 h0) (m_X4_fail a1 M0) := by
  unfold f_X4_fail m_X4_fail
  refine zr_gI w0 zio_4 rfl ?_
  refine zr_cv w0 zio_4 (r_X4_failAt w0 a1 (M0.1 2 5)) (fun v3 h2 M2 w2 => ?_)
  exact zr_ok w2
def m_X4_countKnot  (M0 : zMem) : Option (Unit × zMem) :=
  mlt (ztof (M0.1 2 10)) (fun t1 =>
  if (M0.1 (t1 + 13) 5) < 64 then
  mlt (ztof (M0.1 2 10)) (fun t4 =>
  mlt (mup M0 (t4 + 13) 5 ((M0.1 (t4 + 13) 5) + 1)) (fun M7 =>
  some ((), M7)))
  else
  mbd (m_X4_fail 2 M0) (fun v9 M8 =>
  some ((), M8)))
set_option maxRecDepth 100000 in
set_option maxHeartbeats 4000000 in
theorem r_X4_countKnot {B n : Nat} {h0 : zHp} {M0 : zMem} (w0 : zW B n h0 M0)  : zRR B n (f_X4_countKnot (B + 2) h0) (m_X4_countKnot  M0) := by
  unfold f_X4_countKnot m_X4_countKnot
  refine zr_gT w0 zio_4 rfl (fun t1 q1 => ?_)
  refine zr_gR w0 (zit_o q1) rfl ?_
  refine zr_gI w0 (zit_l q1) rfl ?_
  refine zr_if ?_ ?_
  · refine zr_gT w0 zio_4 rfl (fun t4 q4 => ?_)
    refine zr_gR w0 (zit_o q4) rfl ?_
    refine zr_gI w0 (zit_l q4) rfl ?_
    refine zr_pV w0 (zit_l q4) (Nat.le_of_ble_eq_true rfl) rfl (fun h7 M7 w7 => ?_)
    exact zr_ok w7
  · refine zr_cv w0 zio_4 (r_X4_fail w0 2) (fun v9 h8 M8 w8 => ?_)
    exact zr_ok w8
def m_X4_expect (a1 : Int32) (M0 : zMem) : Option (Unit × zMem) :=
  if (M0.1 2 4) = a1 then
  mbd (m_X4_advance  M0) (fun v3 M2 =>
  some ((), M2))
  else
  mbd (m_X4_fail 1 M0) (fun v5 M4 =>
  some ((), M4))
set_option maxRecDepth 100000 in
set_option maxHeartbeats 4000000 in
theorem r_X4_expect {B n : Nat} {h0 : zHp} {M0 : zMem} (w0 : zW B n h0 M0) (a1 : Int32) : zRR B n (f_X4_expect (B + 2) a1 h0) (m_X4_expect a1 M0) := by
  unfold f_X4_expect m_X4_expect
  refine zr_gI w0 zio_4 rfl ?_
  refine zr_if ?_ ?_
  · refine zr_cv w0 zio_4 (r_X4_advance w0 ) (fun v3 h2 M2 w2 => ?_)
    exact zr_ok w2
  · refine zr_cv w0 zio_4 (r_X4_fail w0 1) (fun v5 h4 M4 w4 => ?_)
    exact zr_ok w4
def m_X4_hasRoom (a1 : Int32) (a2 : Int32) (M0 : zMem) : Option (Int32 × zMem) :=
  if a1 < a2 then
  mbd (m_X4_advance  M0) (fun v2 M1 =>
  some (1, M1))
  else
  mbd (m_X4_fail 2 M0) (fun v4 M3 =>
  some (0, M3))
set_option maxRecDepth 100000 in
set_option maxHeartbeats 4000000 in
theorem r_X4_hasRoom {B n : Nat} {h0 : zHp} {M0 : zMem} (w0 : zW B n h0 M0) (a1 : Int32) (a2 : Int32) : zRR B n (f_X4_hasRoom (B + 2) a1 a2 h0) (m_X4_hasRoom a1 a2 M0) := by
  unfold f_X4_hasRoom m_X4_hasRoom
  refine zr_if ?_ ?_
  · refine zr_cv w0 zio_4 (r_X4_advance w0 ) (fun v2 h1 M1 w1 => ?_)
    exact zr_ok w1
  · refine zr_cv w0 zio_4 (r_X4_fail w0 2) (fun v4 h3 M3 w3 => ?_)
    exact zr_ok w3
def m_X4_letWait (a1 : Int32) (M0 : zMem) : Option (Unit × zMem) :=
  if (Int32.ofNat (zds 23).2) ≤ (M0.1 2 12) then
  some ((), M0)
  else
  zob (mwr M0 23 (M0.1 2 12) a1) (fun M6 =>
  mlt (mup M6 2 12 ((M6.1 2 12) + 1)) (fun M8 =>
  some ((), M8)))
set_option maxRecDepth 100000 in
set_option maxHeartbeats 4000000 in
theorem r_X4_letWait {B n : Nat} {h0 : zHp} {M0 : zMem} (w0 : zW B n h0 M0) (a1 : Int32) : zRR B n (f_X4_letWait (B + 2) a1 h0) (m_X4_letWait a1 M0) := by
  unfold f_X4_letWait m_X4_letWait
  refine zr_gI w0 zio_4 rfl ?_
  refine zr_gR w0 zio_4 rfl ?_
  refine zr_ln (by decide) w0 zca_23 ?_
  refine zr_if ?_ ?_
  · exact zr_ok w0
  · refine zr_gR w0 zio_4 rfl ?_
    refine zr_gI w0 zio_4 rfl ?_
    refine zr_s0 w0 zca_23 (fun h6 M6 w6 => ?_)
    refine zr_gI w6 zio_4 rfl ?_
    refine zr_pV w6 zio_4 (Nat.le_of_ble_eq_true rfl) rfl (fun h8 M8 w8 => ?_)
    exact zr_ok w8
def m_X4_rankOf (a0 : Int32) (M0 : zMem) : Option (Int32 × zMem) :=
  if a0 = 13 then
  some (1, M0)
  else if a0 = 14 then
  some (2, M0)
  else if a0 = 15 then
  some (3, M0)
  else if a0 = 16 then
  some (0, M0)
  else if a0 = 17 then
  some (0, M0)
  else if a0 = 18 then
  some (0, M0)
  else if a0 = 19 then
  some (0, M0)
  else if a0 = 20 then
  some (0, M0)
  else if a0 = 21 then
  some (0, M0)
  else if a0 = 22 then
  some (0, M0)
  else if a0 = 23 then
  some (5, M0)
  else if a0 = 24 then
  some (5, M0)
  else if a0 = 25 then
  some (6, M0)
  else if a0 = 26 then
  some (6, M0)
  else if a0 = 27 then
  some (4, M0)
  else if a0 = 28 then
  some (4, M0)
  else if a0 = 29 then
  some (4, M0)
  else if a0 = 30 then
  some (4, M0)
  else if a0 = 31 then
  some (4, M0)
  else if a0 = 32 then
  some (4, M0)
  else 
  some (0, M0)
set_option maxRecDepth 100000 in
set_option maxHeartbeats 4000000 in
theorem r_X4_rankOf {B n : Nat} {h0 : zHp} {M0 : zMem} (w0 : zW B n h0 M0) (a0 : Int32) : zRR B n (f_X4_rankOf a0 h0) (m_X4_rankOf a0 M0) := by
  unfold f_X4_rankOf m_X4_rankOf
  refine zr_if ?_ ?_
  · exact zr_ok w0
  refine zr_if ?_ ?_
  · exact zr_ok w0
  refine zr_if ?_ ?_
  · exact zr_ok w0
  refine zr_if ?_ ?_
  · exact zr_ok w0
  refine zr_if ?_ ?_
  · exact zr_ok w0
  refine zr_if ?_ ?_
  · exact zr_ok w0
  refine zr_if ?_ ?_
  · exact zr_ok w0
  refine zr_if ?_ ?_
  · exact zr_ok w0
  refine zr_if ?_ ?_
  · exact zr_ok w0
  refine zr_if ?_ ?_
  · exact zr_ok w0
  refine zr_if ?_ ?_
  · exact zr_ok w0
  refine zr_if ?_ ?_
  · exact zr_ok w0
  refine zr_if ?_ ?_
  · exact zr_ok w0
  refine zr_if ?_ ?_
  · exact zr_ok w0
  refine zr_if ?_ ?_
  · exact zr_ok w0
  refine zr_if ?_ ?_
  · exact zr_ok w0
  refine zr_if ?_ ?_
  · exact zr_ok w0
  refine zr_if ?_ ?_
  · exact zr_ok w0
  refine zr_if ?_ ?_
  · exact zr_ok w0
  refine zr_if ?_ ?_
  · exact zr_ok w0
  exact zr_ok w0
def m_X4_mayTurn  (M0 : zMem) : Option (Int32 × zMem) :=
  if (M0.1 2 12) = 0 then
  some (1, M0)
  else
  zob (mrd M0 23 ((M0.1 2 12) - 1)) (fun v4 =>
  mbd (m_X4_rankOf v4 M0) (fun v6 M5 =>
  if 4 ≤ v6 then
  some (0, M5)
  else
  some (1, M5)))
set_option maxRecDepth 100000 in
set_option maxHeartbeats 4000000 in
theorem r_X4_mayTurn {B n : Nat} {h0 : zHp} {M0 : zMem} (w0 : zW B n h0 M0)  : zRR B n (f_X4_mayTurn (B + 2) h0) (m_X4_mayTurn  M0) := by
  unfold f_X4_mayTurn m_X4_mayTurn
  refine zr_gI w0 zio_4 rfl ?_
  refine zr_if ?_ ?_
  · exact zr_ok w0
  · refine zr_gR w0 zio_4 rfl ?_
    refine zr_gI w0 zio_4 rfl ?_
    refine zr_a0 w0 zca_23 (fun v4 => ?_)
    refine zr_bd (r_X4_rankOf w0 v4) (fun v6 h5 M5 w5 => ?_)
    refine zr_if ?_ ?_
    · exact zr_ok w5
    · exact zr_ok w5
def m_X4_openOne  (M0 : zMem) : Option (Unit × zMem) :=
  if (M0.1 2 13) < 8 then
  mlt (mup M0 2 13 ((M0.1 2 13) + 1)) (fun M3 =>
  some ((), M3))
  else
  mbd (m_X4_fail 2 M0) (fun v5 M4 =>
  some ((), M4))
set_option maxRecDepth 100000 in
set_option maxHeartbeats 4000000 in
theorem r_X4_openOne {B n : Nat} {h0 : zHp} {M0 : zMem} (w0 : zW B n h0 M0)  : zRR B n (f_X4_openOne (B + 2) h0) (m_X4_openOne  M0) := by
  unfold f_X4_openOne m_X4_openOne
  refine zr_gI w0 zio_4 rfl ?_
  refine zr_if ?_ ?_
  · refine zr_gI w0 zio_4 rfl ?_
    refine zr_pV w0 zio_4 (Nat.le_of_ble_eq_true rfl) rfl (fun h3 M3 w3 => ?_)
    exact zr_ok w3
  · refine zr_cv w0 zio_4 (r_X4_fail w0 2) (fun v5 h4 M4 w4 => ?_)
    exact zr_ok w4
def m_X4_placeAbove (a1 : Int32) (M0 : zMem) : Option (Unit × zMem) :=
  mbd (
  mlp (σ := Unit) (β := Unit) zLF (fun s1 M2 =>
  if (M2.1 2 12) ≤ 0 then
  some ((.inr ()), M2)
  else
  zob (mrd M2 23 ((M2.1 2 12) - 1)) (fun v8 =>
  mbd (m_X4_rankOf v8 M2) (fun v10 M9 =>
  if v10 ≤ a1 then
  some ((.inr ()), M9)
  else
  mlt (mup M9 2 12 ((M9.1 2 12) - 1)) (fun M12 =>
  mlt (ztof (M12.1 2 10)) (fun t13 =>
  zob (mrd M12 23 (M12.1 2 12)) (fun v17 =>
  mbd (m_X2_place t13 (v17 ^^^ (-1)) M12) (fun v19 M18 =>
  some ((.inl ()), M18)))))))) () M0) (fun e3 M4 =>
  some ((), M4))
set_option maxRecDepth 100000 in
set_option maxHeartbeats 4000000 in
theorem r_X4_placeAbove {B n : Nat} {h0 : zHp} {M0 : zMem} (w0 : zW B n h0 M0) (a1 : Int32) : zRR B n (f_X4_placeAbove (B + 2) a1 h0) (m_X4_placeAbove a1 M0) := by
  unfold f_X4_placeAbove m_X4_placeAbove
  refine zr_bd (zr_lp (fun s1 h2 M2 w2 => ?_) () h0 M0 w0) (fun e3 h4 M4 w4 => ?_)
  · refine zr_gI w2 zio_4 rfl ?_
    refine zr_if ?_ ?_
    · exact zr_ok w2
    · refine zr_gR w2 zio_4 rfl ?_
      refine zr_gI w2 zio_4 rfl ?_
      refine zr_a0 w2 zca_23 (fun v8 => ?_)
      refine zr_bd (r_X4_rankOf w2 v8) (fun v10 h9 M9 w9 => ?_)
      refine zr_if ?_ ?_
      · exact zr_ok w9
      · refine zr_gI w9 zio_4 rfl ?_
        refine zr_pV w9 zio_4 (Nat.le_of_ble_eq_true rfl) rfl (fun h12 M12 w12 => ?_)
        refine zr_gT w12 zio_4 rfl (fun t13 q13 => ?_)
        refine zr_gR w12 (zit_o q13) rfl ?_
        refine zr_gR w12 zio_4 rfl ?_
        refine zr_gI w12 zio_4 rfl ?_
        refine zr_a0 w12 zca_23 (fun v17 => ?_)
        refine zr_cv w12 (zit_l q13) (r_X2_place w12 t13 q13 (v17 ^^^ (-1))) (fun v19 h18 M18 w18 => ?_)
        exact zr_ok w18
  · exact zr_ok w4
def m_X4_readAheadOfPart  (M0 : zMem) : Option (Unit × zMem) :=
  mbd (
  mlp (σ := Int32) (β := Int32) zLF (fun s1 M2 =>
  if 72 < s1 then
  some ((.inr s1), M2)
  else
  mbd (α := (Unit ⊕ (Int32 ⊕ Int32))) (
  if (M2.1 2 4) = 33 then
  some ((.inl ()), M2)
  else
  if (M2.1 2 4) = 15 then
  some ((.inl ()), M2)
  else
  some ((.inr (.inr s1)), M2)) (fun b25 M8 => zsl b25 (fun e7 =>
  mbd (α := Unit) (
  if (M8.1 2 4) = 33 then
  mbd (m_X4_openOne  M8) (fun v11 M10 =>
  some ((), M10))
  else
  mbd (m_X4_mayTurn  M8) (fun v13 M12 =>
  if v13 = 0 then
  mbd (m_X4_fail 1 M12) (fun v15 M14 =>
  some ((), M14))
  else
  mbd (m_X4_countKnot  M12) (fun v17 M16 =>
  some ((), M16)))) (fun e18 M19 =>
  mbd (m_X4_letWait (M19.1 2 4) M19) (fun v22 M21 =>
  mbd (m_X4_advance  M21) (fun v24 M23 =>
  some ((.inl (s1 + 1)), M23))))) (fun r => some (r, M8)))) 0 M0) (fun e3 M4 =>
  some ((), M4))
set_option maxRecDepth 100000 in
set_option maxHeartbeats 4000000 in
theorem r_X4_readAheadOfPart {B n : Nat} {h0 : zHp} {M0 : zMem} (w0 : zW B n h0 M0)  : zRR B n (f_X4_readAheadOfPart (B + 2) h0) (m_X4_readAheadOfPart  M0) := by
  unfold f_X4_readAheadOfPart m_X4_readAheadOfPart
  refine zr_bd (zr_lp (fun s1 h2 M2 w2 => ?_) 0 h0 M0 w0) (fun e3 h4 M4 w4 => ?_)
  · refine zr_if ?_ ?_
    · exact zr_ok w2
    · refine zr_gI w2 zio_4 rfl ?_
      refine zr_bd ?_ (fun b25 h8 M8 w8 => zr_sl (fun e7 => ?_) (fun r => zr_ok w8))
      · refine zr_if ?_ ?_
        · exact zr_ok w2
        · refine zr_gI w2 zio_4 rfl ?_
          refine zr_if ?_ ?_
          · exact zr_ok w2
          · exact zr_ok w2
      · refine zr_gI w8 zio_4 rfl ?_
        refine zr_bd ?_ (fun e18 h19 M19 w19 => ?_)
        · refine zr_if ?_ ?_
          · refine zr_cv w8 zio_4 (r_X4_openOne w8 ) (fun v11 h10 M10 w10 => ?_)
            exact zr_ok w10
          · refine zr_cv w8 zio_4 (r_X4_mayTurn w8 ) (fun v13 h12 M12 w12 => ?_)
            refine zr_if ?_ ?_
            · refine zr_cv w12 zio_4 (r_X4_fail w12 1) (fun v15 h14 M14 w14 => ?_)
              exact zr_ok w14
            · refine zr_cv w12 zio_4 (r_X4_countKnot w12 ) (fun v17 h16 M16 w16 => ?_)
              exact zr_ok w16
        · refine zr_gI w19 zio_4 rfl ?_
          refine zr_cv w19 zio_4 (r_X4_letWait w19 (M19.1 2 4)) (fun v22 h21 M21 w21 => ?_)
          refine zr_cv w21 zio_4 (r_X4_advance w21 ) (fun v24 h23 M23 w23 => ?_)
          exact zr_ok w23
  · exact zr_ok w4
def m_X4_readNumber (a1 : Int32) (a2 : Int32) (M0 : zMem) : Option (Int32 × zMem) :=
  mbd (α := Unit) (
  if (M0.1 2 4) = 37 then
  mbd (α := (Unit ⊕ Unit)) (
  if (M0.1 2 6) < a1 then
  some ((.inl ()), M0)
  else
  if (M0.1 2 6) ≤ a2 then
  some ((.inr ()), M0)
  else
  some ((.inl ()), M0)) (fun b18 M5 => zsl b18 (fun e4 =>
  mbd (m_X4_fail 2 M5) (fun v7 M6 =>
  some ((), M6))) (fun r => some (r, M5)))
  else
  mbd (m_X4_fail 1 M0) (fun v9 M8 =>
  some ((), M8))) (fun e10 M11 =>
  if (M11.1 2 14) = 0 then
  mlt (mup M11 2 8 (M11.1 2 5)) (fun M15 =>
  mbd (m_X4_advance  M15) (fun v17 M16 =>
  some ((M11.1 2 6), M16)))
  else
  some ((-1), M11))
set_option maxRecDepth 100000 in
set_option maxHeartbeats 4000000 in
theorem r_X4_readNumber {B n : Nat} {h0 : zHp} {M0 : zMem} (w0 : zW B n h0 M0) (a1 : Int32) (a2 : Int32) : zRR B n (f_X4_readNumber (B + 2) a1 a2 h0) (m_X4_readNumber a1 a2 M0) := by
  unfold f_X4_readNumber m_X4_readNumber
  refine zr_gI w0 zio_4 rfl ?_
  refine zr_bd ?_ (fun e10 h11 M11 w11 => ?_)
  · refine zr_if ?_ ?_
    · refine zr_gI w0 zio_4 rfl ?_
      refine zr_bd ?_ (fun b18 h5 M5 w5 => zr_sl (fun e4 => ?_) (fun r => zr_ok w5))
      · refine zr_if ?_ ?_
        · exact zr_ok w0
        · refine zr_gI w0 zio_4 rfl ?_
          refine zr_if ?_ ?_
          · exact zr_ok w0
          · exact zr_ok w0
      · refine zr_cv w5 zio_4 (r_X4_fail w5 2) (fun v7 h6 M6 w6 => ?_)
        exact zr_ok w6
    · refine zr_cv w0 zio_4 (r_X4_fail w0 1) (fun v9 h8 M8 w8 => ?_)
      exact zr_ok w8
  · refine zr_gI w11 zio_4 rfl ?_
    refine zr_if ?_ ?_
    · refine zr_gI w11 zio_4 rfl ?_
      refine zr_gI w11 zio_4 rfl ?_
      refine zr_pV w11 zio_4 (Nat.le_of_ble_eq_true rfl) rfl (fun h15 M15 w15 => ?_)
      refine zr_cv w15 zio_4 (r_X4_advance w15 ) (fun v17 h16 M16 w16 => ?_)
      exact zr_ok w16
    · exact zr_ok w11
def m_X4_readCell  (M0 : zMem) : Option (Int32 × zMem) :=
  mbd (m_X4_readNumber 0 5 M0) (fun v2 M1 =>
  mbd (m_X4_readNumber 0 3 M1) (fun v4 M3 =>
  if (M3.1 2 14) = 0 then
  some (((6 * v4) + v2), M3)
  else
  some ((-1), M3)))
set_option maxRecDepth 100000 in
set_option maxHeartbeats 4000000 in
theorem r_X4_readCell {B n : Nat} {h0 : zHp} {M0 : zMem} (w0 : zW B n h0 M0)  : zRR B n (f_X4_readCell (B + 2) h0) (m_X4_readCell  M0) := by
  unfold f_X4_readCell m_X4_readCell
  refine zr_cv w0 zio_4 (r_X4_readNumber w0 0 5) (fun v2 h1 M1 w1 => ?_)
  refine zr_cv w1 zio_4 (r_X4_readNumber w1 0 3) (fun v4 h3 M3 w3 => ?_)
  refine zr_gI w3 zio_4 rfl ?_
  refine zr_if ?_ ?_
  · exact zr_ok w3
  · exact zr_ok w3
def m_X7_numberOf (a0 : Nat) (a1 : Int32) (a2 : Int32) (M0 : zMem) : Option (Int32 × zMem) :=
  mbd (
  mlp (σ := Int32) (β := (Int32 ⊕ Int32)) zLF (fun s1 M2 =>
  if a1 ≤ s1 then
  some ((.inr (.inl s1)), M2)
  else
  if (Int32.ofNat (zds a0).2) ≤ s1 then
  some ((.inr (.inl s1)), M2)
  else
  zob (mrd M2 a0 s1) (fun v6 =>
  if v6 = a2 then
  some ((.inr (.inr s1)), M2)
  else
  some ((.inl (s1 + 1)), M2))) 0 M0) (fun b7 M4 => zsl b7 (fun e3 =>
  some ((-1), M4)) (fun r => some (r, M4)))
set_option maxRecDepth 100000 in
set_option maxHeartbeats 4000000 in
theorem r_X7_numberOf {B n : Nat} {h0 : zHp} {M0 : zMem} (w0 : zW B n h0 M0) (a0 : Nat) {Np0 : Nat} (p0 : zIA 0 Np0 a0) (a1 : Int32) (a2 : Int32) : zRR B n (f_X7_numberOf (B + a0) a1 a2 h0) (m_X7_numberOf a0 a1 a2 M0) := by
  unfold f_X7_numberOf m_X7_numberOf
  refine zr_bd (zr_lp (fun s1 h2 M2 w2 => ?_) 0 h0 M0 w0) (fun b7 h4 M4 w4 => zr_sl (fun e3 => ?_) (fun r => zr_ok w4))
  · refine zr_if ?_ ?_
    · exact zr_ok w2
    · refine zr_ln (by decide) w2 p0 ?_
      refine zr_if ?_ ?_
      · exact zr_ok w2
      · refine zr_a0 w2 p0 (fun v6 => ?_)
        refine zr_if ?_ ?_
        · exact zr_ok w2
        · exact zr_ok w2
  · exact zr_ok w4

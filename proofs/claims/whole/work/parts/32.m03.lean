def m_X8_runs (a1 : Int32) (M0 : zMem) : Option (Unit × zMem) :=
  mbd (m_X8_copies 1 0 M0) (fun v2 M1 =>
  mbd (
  mlp (σ := Int32) (β := Int32) zLF (fun s3 M4 =>
  if a1 ≤ s3 then
  some ((.inr s3), M4)
  else
  mbd (m_X8_passes 1 M4) (fun v8 M7 =>
  some ((.inl (s3 + 1)), M7))) 0 M1) (fun e5 M6 =>
  some ((), M6)))
set_option maxRecDepth 100000 in
set_option maxHeartbeats 4000000 in
theorem r_X8_runs {B n : Nat} {h0 : zHp} {M0 : zMem} (w0 : zW B n h0 M0) (a1 : Int32) : zRR B n (f_X8_runs (B + 213) a1 h0) (m_X8_runs a1 M0) := by
  unfold f_X8_runs m_X8_runs
  refine zr_cv w0 zio_8 (r_X8_copies w0 1 0) (fun v2 h1 M1 w1 => ?_)
  refine zr_bd (zr_lp (fun s3 h4 M4 w4 => ?_) 0 h1 M1 w1) (fun e5 h6 M6 w6 => ?_)
  · refine zr_if ?_ ?_
    · exact zr_ok w4
    · refine zr_cv w4 zio_8 (r_X8_passes w4 1) (fun v8 h7 M7 w7 => ?_)
      exact zr_ok w7
  · exact zr_ok w6
def m_X8_ahead (a1 : Int32) (a2 : Int32) (M0 : zMem) : Option (Int32 × zMem) :=
  mlt (mup M0 213 0 0) (fun M1 =>
  if a1 < 0 then
  some ((-1), M1)
  else
  if 60 < a1 then
  some ((-1), M1)
  else
  if a2 < 0 then
  some ((-1), M1)
  else
  if a2 ≤ 3 then
  mbd (m_X8_runs a1 M1) (fun v3 M2 =>
  if a2 = 0 then
  mbd (m_X8_rainAll 1 M2) (fun v5 M4 =>
  mbd (m_X8_rainAll 0 M4) (fun v7 M6 =>
  some ((v5 - v7), M6)))
  else if a2 = 1 then
  mbd (m_X8_upMany 1 M2) (fun v9 M8 =>
  some (v9, M8))
  else if a2 = 2 then
  mbd (m_X8_marksAll 1 M2) (fun v11 M10 =>
  mbd (m_X8_marksAll 0 M10) (fun v13 M12 =>
  some ((v11 - v13), M12)))
  else 
  mbd (m_X8_howMany 1 2 M2) (fun v15 M14 =>
  mbd (m_X8_howMany 0 2 M14) (fun v17 M16 =>
  some ((v15 - v17), M16))))
  else
  some ((-1), M1))
set_option maxRecDepth 100000 in
set_option maxHeartbeats 4000000 in
theorem r_X8_ahead {B n : Nat} {h0 : zHp} {M0 : zMem} (w0 : zW B n h0 M0) (a1 : Int32) (a2 : Int32) : zRR B n (f_X8_ahead (B + 213) a1 a2 h0) (m_X8_ahead a1 a2 M0) := by
  unfold f_X8_ahead m_X8_ahead
  refine zr_pV w0 zio_8 (Nat.le_of_ble_eq_true rfl) rfl (fun h1 M1 w1 => ?_)
  refine zr_if ?_ ?_
  · exact zr_ok w1
  · refine zr_if ?_ ?_
    · exact zr_ok w1
    · refine zr_if ?_ ?_
      · exact zr_ok w1
      · refine zr_if ?_ ?_
        · refine zr_cv w1 zio_8 (r_X8_runs w1 a1) (fun v3 h2 M2 w2 => ?_)
          refine zr_if ?_ ?_
          · refine zr_cv w2 zio_8 (r_X8_rainAll w2 1) (fun v5 h4 M4 w4 => ?_)
            refine zr_cv w4 zio_8 (r_X8_rainAll w4 0) (fun v7 h6 M6 w6 => ?_)
            exact zr_ok w6
          refine zr_if ?_ ?_
          · refine zr_cv w2 zio_8 (r_X8_upMany w2 1) (fun v9 h8 M8 w8 => ?_)
            exact zr_ok w8
          refine zr_if ?_ ?_
          · refine zr_cv w2 zio_8 (r_X8_marksAll w2 1) (fun v11 h10 M10 w10 => ?_)
            refine zr_cv w10 zio_8 (r_X8_marksAll w10 0) (fun v13 h12 M12 w12 => ?_)
            exact zr_ok w12
          refine zr_cv w2 zio_8 (r_X8_howMany w2 1 2) (fun v15 h14 M14 w14 => ?_)
          refine zr_cv w14 zio_8 (r_X8_howMany w14 0 2) (fun v17 h16 M16 w16 => ?_)
          exact zr_ok w16
        · exact zr_ok w1
def m_X8_isChild (a1 : Int32) (M0 : zMem) : Option (Int32 × zMem) :=
  if a1 < 0 then
  some (0, M0)
  else
  zob (mrd M0 215 2) (fun v2 =>
  if v2 ≤ a1 then
  some (0, M0)
  else
  some (1, M0))
set_option maxRecDepth 100000 in
set_option maxHeartbeats 4000000 in
theorem r_X8_isChild {B n : Nat} {h0 : zHp} {M0 : zMem} (w0 : zW B n h0 M0) (a1 : Int32) : zRR B n (f_X8_isChild (B + 213) a1 h0) (m_X8_isChild a1 M0) := by
  unfold f_X8_isChild m_X8_isChild
  refine zr_if ?_ ?_
  · exact zr_ok w0
  · refine zr_gR w0 zio_8 rfl ?_
    refine zr_a0 w0 zca_215 (fun v2 => ?_)
    refine zr_if ?_ ?_
    · exact zr_ok w0
    · exact zr_ok w0
def m_X8_areTwo (a1 : Int32) (a2 : Int32) (M0 : zMem) : Option (Int32 × zMem) :=
  mbd (m_X8_isChild a1 M0) (fun v2 M1 =>
  if v2 = 0 then
  some (0, M1)
  else
  mbd (m_X8_isChild a2 M1) (fun v4 M3 =>
  if v4 = 0 then
  some (0, M3)
  else
  if a1 = a2 then
  some (0, M3)
  else
  some (1, M3)))
set_option maxRecDepth 100000 in
set_option maxHeartbeats 4000000 in
theorem r_X8_areTwo {B n : Nat} {h0 : zHp} {M0 : zMem} (w0 : zW B n h0 M0) (a1 : Int32) (a2 : Int32) : zRR B n (f_X8_areTwo (B + 213) a1 a2 h0) (m_X8_areTwo a1 a2 M0) := by
  unfold f_X8_areTwo m_X8_areTwo
  refine zr_cv w0 zio_8 (r_X8_isChild w0 a1) (fun v2 h1 M1 w1 => ?_)
  refine zr_if ?_ ?_
  · exact zr_ok w1
  · refine zr_cv w1 zio_8 (r_X8_isChild w1 a2) (fun v4 h3 M3 w3 => ?_)
    refine zr_if ?_ ?_
    · exact zr_ok w3
    · refine zr_if ?_ ?_
      · exact zr_ok w3
      · exact zr_ok w3
def m_X8_back  (M0 : zMem) : Option (Int32 × zMem) :=
  mlt (mup M0 213 0 0) (fun M1 =>
  if (M1.1 213 47) = 0 then
  some ((-1), M1)
  else
  mbd (m_X8_copies 0 2 M1) (fun v4 M3 =>
  mlt (mup M3 213 48 0) (fun M5 =>
  zob (mrd M5 234 0) (fun v7 =>
  some (v7, M5)))))
set_option maxRecDepth 100000 in
set_option maxHeartbeats 4000000 in
theorem r_X8_back {B n : Nat} {h0 : zHp} {M0 : zMem} (w0 : zW B n h0 M0)  : zRR B n (f_X8_back (B + 213) h0) (m_X8_back  M0) := by
  unfold f_X8_back m_X8_back
  refine zr_pV w0 zio_8 (Nat.le_of_ble_eq_true rfl) rfl (fun h1 M1 w1 => ?_)
  refine zr_gI w1 zio_8 rfl ?_
  refine zr_if ?_ ?_
  · exact zr_ok w1
  · refine zr_cv w1 zio_8 (r_X8_copies w1 0 2) (fun v4 h3 M3 w3 => ?_)
    refine zr_pV w3 zio_8 (Nat.le_of_ble_eq_true rfl) rfl (fun h5 M5 w5 => ?_)
    refine zr_gR w5 zio_8 rfl ?_
    refine zr_a0 w5 zca_234 (fun v7 => ?_)
    exact zr_ok w5
def m_X8_sizeIn (a1 : Int32) (M0 : zMem) : Option (Int32 × zMem) :=
  if a1 = (M0.1 213 52) then
  some ((M0.1 213 53), M0)
  else
  zob (mrd M0 222 a1) (fun v4 =>
  some (v4, M0))
set_option maxRecDepth 100000 in
set_option maxHeartbeats 4000000 in
theorem r_X8_sizeIn {B n : Nat} {h0 : zHp} {M0 : zMem} (w0 : zW B n h0 M0) (a1 : Int32) : zRR B n (f_X8_sizeIn (B + 213) a1 h0) (m_X8_sizeIn a1 M0) := by
  unfold f_X8_sizeIn m_X8_sizeIn
  refine zr_gI w0 zio_8 rfl ?_
  refine zr_if ?_ ?_
  · refine zr_gI w0 zio_8 rfl ?_
    exact zr_ok w0
  · refine zr_gR w0 zio_8 rfl ?_
    refine zr_a0 w0 zca_222 (fun v4 => ?_)
    exact zr_ok w0
def m_X8_starts (a1 : Int32) (M0 : zMem) : Option (Unit × zMem) :=
  zob (mwr M0 234 a1 0) (fun M2 =>
  zob (mwr M2 235 a1 (-1)) (fun M4 =>
  mbd (
  mlp (σ := Int32) (β := Int32) zLF (fun s5 M6 =>
  if 8 ≤ s5 then
  some ((.inr s5), M6)
  else
  zob (mrd M6 215 1) (fun v11 =>
  mbd (α := Int32) (
  if v11 ≤ s5 then
  some (0, M6)
  else
  zob (mrd M6 221 s5) (fun v13 =>
  some (v13, M6))) (fun e14 M15 =>
  zob (mwr M15 236 ((8 * a1) + s5) e14) (fun M16 =>
  zob (mrd M16 215 1) (fun v19 =>
  mbd (α := Int32) (
  if v19 ≤ s5 then
  some (0, M16)
  else
  mbd (m_X8_sizeIn s5 M16) (fun v21 M20 =>
  some (v21, M20))) (fun e22 M23 =>
  zob (mwr M23 237 ((8 * a1) + s5) e22) (fun M24 =>
  zob (mwr M24 238 ((8 * a1) + s5) 0) (fun M26 =>
  zob (mwr M26 239 ((8 * a1) + s5) (-1)) (fun M28 =>
  zob (mwr M28 240 ((8 * a1) + s5) 0) (fun M30 =>
  some ((.inl (s5 + 1)), M30))))))))))) 0 M4) (fun e7 M8 =>
  mbd (
  mlp (σ := Int32) (β := Int32) zLF (fun s31 M32 =>
  if 6 ≤ s31 then
  some ((.inr s31), M32)
  else
  zob (mrd M32 215 2) (fun v37 =>
  mbd (α := Int32) (
  if v37 ≤ s31 then
  some (0, M32)
  else
  zob (mrd M32 225 s31) (fun v39 =>
  some (v39, M32))) (fun e40 M41 =>
  zob (mwr M41 241 ((6 * a1) + s31) e40) (fun M42 =>
  zob (mwr M42 242 ((6 * a1) + s31) 0) (fun M44 =>
  some ((.inl (s31 + 1)), M44)))))) 0 M8) (fun e33 M34 =>
  mbd (
  mlp (σ := Int32) (β := Int32) zLF (fun s45 M46 =>
  if 5 ≤ s45 then
  some ((.inr s45), M46)
  else
  zob (mwr M46 243 ((5 * a1) + s45) 0) (fun M50 =>
  some ((.inl (s45 + 1)), M50))) 0 M34) (fun e47 M48 =>
  mbd (
  mlp (σ := Int32) (β := Int32) zLF (fun s51 M52 =>
  if 35 ≤ s51 then
  some ((.inr s51), M52)
  else
  zob (mwr M52 244 ((35 * a1) + s51) 0) (fun M56 =>
  some ((.inl (s51 + 1)), M56))) 0 M48) (fun e53 M54 =>
  some ((), M54)))))))
set_option maxRecDepth 100000 in
set_option maxHeartbeats 4000000 in
theorem r_X8_starts {B n : Nat} {h0 : zHp} {M0 : zMem} (w0 : zW B n h0 M0) (a1 : Int32) : zRR B n (f_X8_starts (B + 213) a1 h0) (m_X8_starts a1 M0) := by
  unfold f_X8_starts m_X8_starts
  refine zr_gR w0 zio_8 rfl ?_
  refine zr_s0 w0 zca_234 (fun h2 M2 w2 => ?_)
  refine zr_gR w2 zio_8 rfl ?_
  refine zr_s0 w2 zca_235 (fun h4 M4 w4 => ?_)
  refine zr_bd (zr_lp (fun s5 h6 M6 w6 => ?_) 0 h4 M4 w4) (fun e7 h8 M8 w8 => ?_)
  · refine zr_if ?_ ?_
    · exact zr_ok w6
    · refine zr_gR w6 zio_8 rfl ?_
      refine zr_gR w6 zio_8 rfl ?_
      refine zr_a0 w6 zca_215 (fun v11 => ?_)
      refine zr_bd ?_ (fun e14 h15 M15 w15 => ?_)
      · refine zr_if ?_ ?_
        · exact zr_ok w6
        · refine zr_gR w6 zio_8 rfl ?_
          refine zr_a0 w6 zca_221 (fun v13 => ?_)
          exact zr_ok w6
      · refine zr_s0 w15 zca_236 (fun h16 M16 w16 => ?_)
        refine zr_gR w16 zio_8 rfl ?_
        refine zr_gR w16 zio_8 rfl ?_
        refine zr_a0 w16 zca_215 (fun v19 => ?_)
        refine zr_bd ?_ (fun e22 h23 M23 w23 => ?_)
        · refine zr_if ?_ ?_
          · exact zr_ok w16
          · refine zr_cv w16 zio_8 (r_X8_sizeIn w16 s5) (fun v21 h20 M20 w20 => ?_)
            exact zr_ok w20
        · refine zr_s0 w23 zca_237 (fun h24 M24 w24 => ?_)
          refine zr_gR w24 zio_8 rfl ?_
          refine zr_s0 w24 zca_238 (fun h26 M26 w26 => ?_)
          refine zr_gR w26 zio_8 rfl ?_
          refine zr_s0 w26 zca_239 (fun h28 M28 w28 => ?_)
          refine zr_gR w28 zio_8 rfl ?_
          refine zr_s0 w28 zca_240 (fun h30 M30 w30 => ?_)
          exact zr_ok w30
  · refine zr_bd (zr_lp (fun s31 h32 M32 w32 => ?_) 0 h8 M8 w8) (fun e33 h34 M34 w34 => ?_)
    · refine zr_if ?_ ?_
      · exact zr_ok w32
      · refine zr_gR w32 zio_8 rfl ?_
        refine zr_gR w32 zio_8 rfl ?_
        refine zr_a0 w32 zca_215 (fun v37 => ?_)
        refine zr_bd ?_ (fun e40 h41 M41 w41 => ?_)
        · refine zr_if ?_ ?_
          · exact zr_ok w32
          · refine zr_gR w32 zio_8 rfl ?_
            refine zr_a0 w32 zca_225 (fun v39 => ?_)
            exact zr_ok w32
        · refine zr_s0 w41 zca_241 (fun h42 M42 w42 => ?_)
          refine zr_gR w42 zio_8 rfl ?_
          refine zr_s0 w42 zca_242 (fun h44 M44 w44 => ?_)
          exact zr_ok w44
    · refine zr_bd (zr_lp (fun s45 h46 M46 w46 => ?_) 0 h34 M34 w34) (fun e47 h48 M48 w48 => ?_)
      · refine zr_if ?_ ?_
        · exact zr_ok w46
        · refine zr_gR w46 zio_8 rfl ?_
          refine zr_s0 w46 zca_243 (fun h50 M50 w50 => ?_)
          exact zr_ok w50
      · refine zr_bd (zr_lp (fun s51 h52 M52 w52 => ?_) 0 h48 M48 w48) (fun e53 h54 M54 w54 => ?_)
        · refine zr_if ?_ ?_
          · exact zr_ok w52
          · refine zr_gR w52 zio_8 rfl ?_
            refine zr_s0 w52 zca_244 (fun h56 M56 w56 => ?_)
            exact zr_ok w56
        · exact zr_ok w54
def m_X8_begins  (M0 : zMem) : Option (Unit × zMem) :=
  mbd (m_X8_starts 0 M0) (fun v2 M1 =>
  some ((), M1))
set_option maxRecDepth 100000 in
set_option maxHeartbeats 4000000 in
theorem r_X8_begins {B n : Nat} {h0 : zHp} {M0 : zMem} (w0 : zW B n h0 M0)  : zRR B n (f_X8_begins (B + 213) h0) (m_X8_begins  M0) := by
  unfold f_X8_begins m_X8_begins
  refine zr_cv w0 zio_8 (r_X8_starts w0 0) (fun v2 h1 M1 w1 => ?_)
  exact zr_ok w1
def m_X8_keepNow  (M0 : zMem) : Option (Unit × zMem) :=
  mbd (α := Unit) (
  if (M0.1 213 48) = 20 then
  mbd (
  mlp (σ := Int32) (β := Int32) zLF (fun s2 M3 =>
  if 20 ≤ s2 then
  some ((.inr s2), M3)
  else
  mbd (m_X8_copies ((3 + s2) - 1) (3 + s2) M3) (fun v7 M6 =>
  some ((.inl (s2 + 1)), M6))) 1 M0) (fun e4 M5 =>
  mlt (mup M5 213 48 ((M5.1 213 48) - 1)) (fun M9 =>
  some ((), M9)))
  else
  some ((), M0)) (fun e10 M11 =>
  mbd (m_X8_copies (3 + (M11.1 213 48)) 0 M11) (fun v14 M13 =>
  mlt (mup M13 213 48 ((M13.1 213 48) + 1)) (fun M16 =>
  some ((), M16))))
set_option maxRecDepth 100000 in
set_option maxHeartbeats 4000000 in
theorem r_X8_keepNow {B n : Nat} {h0 : zHp} {M0 : zMem} (w0 : zW B n h0 M0)  : zRR B n (f_X8_keepNow (B + 213) h0) (m_X8_keepNow  M0) := by
  unfold f_X8_keepNow m_X8_keepNow
  refine zr_gI w0 zio_8 rfl ?_
  refine zr_bd ?_ (fun e10 h11 M11 w11 => ?_)
  · refine zr_if ?_ ?_
    · refine zr_bd (zr_lp (fun s2 h3 M3 w3 => ?_) 1 h0 M0 w0) (fun e4 h5 M5 w5 => ?_)
      · refine zr_if ?_ ?_
        · exact zr_ok w3
        · refine zr_cv w3 zio_8 (r_X8_copies w3 ((3 + s2) - 1) (3 + s2)) (fun v7 h6 M6 w6 => ?_)
          exact zr_ok w6
      · refine zr_gI w5 zio_8 rfl ?_
        refine zr_pV w5 zio_8 (Nat.le_of_ble_eq_true rfl) rfl (fun h9 M9 w9 => ?_)
        exact zr_ok w9
    · exact zr_ok w0
  · refine zr_gI w11 zio_8 rfl ?_
    refine zr_cv w11 zio_8 (r_X8_copies w11 (3 + (M11.1 213 48)) 0) (fun v14 h13 M13 w13 => ?_)
    refine zr_gI w13 zio_8 rfl ?_
    refine zr_pV w13 zio_8 (Nat.le_of_ble_eq_true rfl) rfl (fun h16 M16 w16 => ?_)
    exact zr_ok w16
def m_X8_blow (a1 : Int32) (M0 : zMem) : Option (Int32 × zMem) :=
  mlt (mup M0 213 0 0) (fun M1 =>
  if a1 < (-1) then
  some (0, M1)
  else
  if 4 < a1 then
  some (0, M1)
  else
  zob (mrd M1 235 0) (fun v3 =>
  if v3 = a1 then
  some (0, M1)
  else
  mbd (m_X8_keepNow  M1) (fun v5 M4 =>
  zob (mwr M4 235 0 a1) (fun M7 =>
  some (1, M7)))))
set_option maxRecDepth 100000 in
set_option maxHeartbeats 4000000 in
theorem r_X8_blow {B n : Nat} {h0 : zHp} {M0 : zMem} (w0 : zW B n h0 M0) (a1 : Int32) : zRR B n (f_X8_blow (B + 213) a1 h0) (m_X8_blow a1 M0) := by
  unfold f_X8_blow m_X8_blow
  refine zr_pV w0 zio_8 (Nat.le_of_ble_eq_true rfl) rfl (fun h1 M1 w1 => ?_)
  refine zr_if ?_ ?_
  · exact zr_ok w1
  · refine zr_if ?_ ?_
    · exact zr_ok w1
    · refine zr_gR w1 zio_8 rfl ?_
      refine zr_a0 w1 zca_235 (fun v3 => ?_)
      refine zr_if ?_ ?_
      · exact zr_ok w1
      · refine zr_cv w1 zio_8 (r_X8_keepNow w1 ) (fun v5 h4 M4 w4 => ?_)
        refine zr_gR w4 zio_8 rfl ?_
        refine zr_s0 w4 zca_235 (fun h7 M7 w7 => ?_)
        exact zr_ok w7
def m_X8_here  (M0 : zMem) : Option (Int32 × zMem) :=
  if (M0.1 213 22) ≤ (M0.1 213 23) then
  some ((-1), M0)
  else
  zob (mrd M0 214 (M0.1 213 23)) (fun v5 =>
  some (v5, M0))
set_option maxRecDepth 100000 in
set_option maxHeartbeats 4000000 in
theorem r_X8_here {B n : Nat} {h0 : zHp} {M0 : zMem} (w0 : zW B n h0 M0)  : zRR B n (f_X8_here (B + 213) h0) (m_X8_here  M0) := by
  unfold f_X8_here m_X8_here
  refine zr_gI w0 zio_8 rfl ?_
  refine zr_gI w0 zio_8 rfl ?_
  refine zr_if ?_ ?_
  · exact zr_ok w0
  · refine zr_gR w0 zio_8 rfl ?_
    refine zr_gI w0 zio_8 rfl ?_
    refine zr_a0 w0 zca_214 (fun v5 => ?_)
    exact zr_ok w0
def m_X8_isDigit (a0 : Int32) (M0 : zMem) : Option (Int32 × zMem) :=
  if a0 < 48 then
  some (0, M0)
  else
  if 57 < a0 then
  some (0, M0)
  else
  some (1, M0)
set_option maxRecDepth 100000 in
set_option maxHeartbeats 4000000 in
theorem r_X8_isDigit {B n : Nat} {h0 : zHp} {M0 : zMem} (w0 : zW B n h0 M0) (a0 : Int32) : zRR B n (f_X8_isDigit a0 h0) (m_X8_isDigit a0 M0) := by
  unfold f_X8_isDigit m_X8_isDigit
  refine zr_if ?_ ?_
  · exact zr_ok w0
  · refine zr_if ?_ ?_
    · exact zr_ok w0
    · exact zr_ok w0
def m_X8_isSmall (a0 : Int32) (M0 : zMem) : Option (Int32 × zMem) :=
  if a0 < 97 then
  some (0, M0)
  else
  if 122 < a0 then
  some (0, M0)
  else
  some (1, M0)
set_option maxRecDepth 100000 in
set_option maxHeartbeats 4000000 in
theorem r_X8_isSmall {B n : Nat} {h0 : zHp} {M0 : zMem} (w0 : zW B n h0 M0) (a0 : Int32) : zRR B n (f_X8_isSmall a0 h0) (m_X8_isSmall a0 M0) := by
  unfold f_X8_isSmall m_X8_isSmall
  refine zr_if ?_ ?_
  · exact zr_ok w0
  · refine zr_if ?_ ?_
    · exact zr_ok w0
    · exact zr_ok w0
def m_X8_name  (M0 : zMem) : Option (Unit × zMem) :=
  mlt (mup M0 213 26 0) (fun M1 =>
  mbd (
  mlp (σ := Int32) (β := Int32) zLF (fun s2 M3 =>
  if 6 ≤ s2 then
  some ((.inr s2), M3)
  else
  mbd (α := Int32) (
  if (M3.1 213 23) ≤ ((M3.1 213 24) + s2) then
  some (0, M3)
  else
  zob (mrd M3 214 ((M3.1 213 24) + s2)) (fun v11 =>
  some (((v11 - 97) + 1), M3))) (fun e12 M13 =>
  mlt (mup M13 213 26 (((M3.1 213 26) <<< (5 &&& 31)) ||| e12)) (fun M14 =>
  some ((.inl (s2 + 1)), M14)))) 0 M1) (fun e4 M5 =>
  some ((), M5)))
set_option maxRecDepth 100000 in
set_option maxHeartbeats 4000000 in
theorem r_X8_name {B n : Nat} {h0 : zHp} {M0 : zMem} (w0 : zW B n h0 M0)  : zRR B n (f_X8_name (B + 213) h0) (m_X8_name  M0) := by
  unfold f_X8_name m_X8_name
  refine zr_pV w0 zio_8 (Nat.le_of_ble_eq_true rfl) rfl (fun h1 M1 w1 => ?_)
  refine zr_bd (zr_lp (fun s2 h3 M3 w3 => ?_) 0 h1 M1 w1) (fun e4 h5 M5 w5 => ?_)
  · refine zr_if ?_ ?_
    · exact zr_ok w3
    · refine zr_gI w3 zio_8 rfl ?_
      refine zr_gI w3 zio_8 rfl ?_
      refine zr_gI w3 zio_8 rfl ?_
      refine zr_bd ?_ (fun e12 h13 M13 w13 => ?_)
      · refine zr_if ?_ ?_
        · exact zr_ok w3
        · refine zr_gR w3 zio_8 rfl ?_
          refine zr_gI w3 zio_8 rfl ?_
          refine zr_a0 w3 zca_214 (fun v11 => ?_)
          exact zr_ok w3
      · refine zr_pV w13 zio_8 (Nat.le_of_ble_eq_true rfl) rfl (fun h14 M14 w14 => ?_)
        exact zr_ok w14
  · exact zr_ok w5
def m_X8_sign (a1 : Int32) (M0 : zMem) : Option (Unit × zMem) :=
  mlt (mup M0 213 23 ((M0.1 213 23) + 1)) (fun M2 =>
  mbd (α := Int32) (
  if a1 = 59 then
  some (3, M2)
  else
  if a1 = 40 then
  some (3, M2)
  else
  if a1 = 41 then
  some (3, M2)
  else
  if a1 = 43 then
  some (3, M2)
  else
  if a1 = 45 then
  some (3, M2)
  else
  if a1 = 42 then
  some (3, M2)
  else
  if a1 = 47 then
  some (3, M2)
  else
  if a1 = 60 then
  some (3, M2)
  else
  if a1 = 61 then
  some (3, M2)
  else
  if a1 = 62 then
  some (3, M2)
  else
  some (5, M2)) (fun e3 M4 =>
  mlt (mup M4 213 25 e3) (fun M5 =>
  mlt (mup M5 213 26 a1) (fun M6 =>
  mbd (α := Unit) (
  if a1 = 60 then
  mbd (m_X8_here  M6) (fun v8 M7 =>
  if v8 = 61 then
  mlt (mup M7 213 26 256) (fun M9 =>
  some ((), M9))
  else
  some ((), M7))
  else
  some ((), M6)) (fun e10 M11 =>
  mbd (α := Unit) (
  if a1 = 60 then
  mbd (m_X8_here  M11) (fun v13 M12 =>
  if v13 = 62 then
  mlt (mup M12 213 26 257) (fun M14 =>
  some ((), M14))
  else
  some ((), M12))
  else
  some ((), M11)) (fun e15 M16 =>
  mbd (α := Unit) (
  if a1 = 62 then
  mbd (m_X8_here  M16) (fun v18 M17 =>
  if v18 = 61 then
  mlt (mup M17 213 26 258) (fun M19 =>
  some ((), M19))
  else
  some ((), M17))
  else
  some ((), M16)) (fun e20 M21 =>
  if (M21.1 213 26) < 256 then
  some ((), M21)
  else
  mlt (mup M21 213 23 ((M21.1 213 23) + 1)) (fun M24 =>
  some ((), M24)))))))))
set_option maxRecDepth 100000 in
set_option maxHeartbeats 4000000 in
theorem r_X8_sign {B n : Nat} {h0 : zHp} {M0 : zMem} (w0 : zW B n h0 M0) (a1 : Int32) : zRR B n (f_X8_sign (B + 213) a1 h0) (m_X8_sign a1 M0) := by
  unfold f_X8_sign m_X8_sign
  refine zr_gI w0 zio_8 rfl ?_
  refine zr_pV w0 zio_8 (Nat.le_of_ble_eq_true rfl) rfl (fun h2 M2 w2 => ?_)
  refine zr_bd ?_ (fun e3 h4 M4 w4 => ?_)
  · refine zr_if ?_ ?_
    · exact zr_ok w2
    · refine zr_if ?_ ?_
      · exact zr_ok w2
      · refine zr_if ?_ ?_
        · exact zr_ok w2
        · refine zr_if ?_ ?_
          · exact zr_ok w2
          · refine zr_if ?_ ?_
            · exact zr_ok w2
            · refine zr_if ?_ ?_
              · exact zr_ok w2
              · refine zr_if ?_ ?_
                · exact zr_ok w2
                · refine zr_if ?_ ?_
                  · exact zr_ok w2
                  · refine zr_if ?_ ?_
                    · exact zr_ok w2
                    · refine zr_if ?_ ?_
                      · exact zr_ok w2
                      · exact zr_ok w2
  · refine zr_pV w4 zio_8 (Nat.le_of_ble_eq_true rfl) rfl (fun h5 M5 w5 => ?_)
    refine zr_pV w5 zio_8 (Nat.le_of_ble_eq_true rfl) rfl (fun h6 M6 w6 => ?_)
    refine zr_bd ?_ (fun e10 h11 M11 w11 => ?_)
    · refine zr_if ?_ ?_
      · refine zr_cv w6 zio_8 (r_X8_here w6 ) (fun v8 h7 M7 w7 => ?_)
        refine zr_if ?_ ?_
        · refine zr_pV w7 zio_8 (Nat.le_of_ble_eq_true rfl) rfl (fun h9 M9 w9 => ?_)
          exact zr_ok w9
        · exact zr_ok w7
      · exact zr_ok w6
    · refine zr_bd ?_ (fun e15 h16 M16 w16 => ?_)
      · refine zr_if ?_ ?_
        · refine zr_cv w11 zio_8 (r_X8_here w11 ) (fun v13 h12 M12 w12 => ?_)
          refine zr_if ?_ ?_
          · refine zr_pV w12 zio_8 (Nat.le_of_ble_eq_true rfl) rfl (fun h14 M14 w14 => ?_)
            exact zr_ok w14
          · exact zr_ok w12
        · exact zr_ok w11
      · refine zr_bd ?_ (fun e20 h21 M21 w21 => ?_)
        · refine zr_if ?_ ?_
          · refine zr_cv w16 zio_8 (r_X8_here w16 ) (fun v18 h17 M17 w17 => ?_)
            refine zr_if ?_ ?_
            · refine zr_pV w17 zio_8 (Nat.le_of_ble_eq_true rfl) rfl (fun h19 M19 w19 => ?_)
              exact zr_ok w19
            · exact zr_ok w17
          · exact zr_ok w16
        · refine zr_gI w21 zio_8 rfl ?_
          refine zr_if ?_ ?_
          · exact zr_ok w21
          · refine zr_gI w21 zio_8 rfl ?_
            refine zr_pV w21 zio_8 (Nat.le_of_ble_eq_true rfl) rfl (fun h24 M24 w24 => ?_)
            exact zr_ok w24
def m_X8_word  (M0 : zMem) : Option (Int32 × zMem) :=
  mbd (
  mlp (σ := (Int32 × Int32)) (β := ((Int32 × Int32) ⊕ Int32)) zLF (fun s1 M2 =>
  if 115 ≤ s1.2 then
  some ((.inr (.inl (s1.1, s1.2))), M2)
  else
  mbd (
  mlp (σ := Int32) (β := Int32) zLF (fun s5 M6 =>
  zob (zco 1 (s1.2 + s5)) (fun v9 =>
  if v9 = 32 then
  some ((.inr s5), M6)
  else
  if (M6.1 213 23) ≤ ((M6.1 213 24) + s5) then
  some ((.inr s5), M6)
  else
  zob (mrd M6 214 ((M6.1 213 24) + s5)) (fun v14 =>
  zob (zco 1 (s1.2 + s5)) (fun v15 =>
  if v14 = v15 then
  some ((.inl (s5 + 1)), M6)
  else
  some ((.inr s5), M6))))) 0 M2) (fun e7 M8 =>
  zob (zco 1 (s1.2 + e7)) (fun v16 =>
  mbd (α := (Unit ⊕ ((Int32 × Int32) ⊕ ((Int32 × Int32) ⊕ Int32)))) (
  if v16 = 32 then
  if ((M8.1 213 24) + e7) = (M8.1 213 23) then
  some ((.inr (.inr (.inr s1.1))), M8)
  else
  some ((.inl ()), M8)
  else
  some ((.inl ()), M8)) (fun b26 M20 => zsl b26 (fun e19 =>
  mbd (
  mlp (σ := Int32) (β := Int32) zLF (fun s21 M22 =>
  zob (zco 1 s21) (fun v25 =>
  if v25 = 32 then
  some ((.inr s21), M22)
  else
  some ((.inl (s21 + 1)), M22))) s1.2 M20) (fun e23 M24 =>
  some ((.inl ((s1.1 + 1), (e23 + 1))), M24))) (fun r => some (r, M20)))))) (0, 0) M0) (fun b27 M4 => zsl b27 (fun e3 =>
  some ((-1), M4)) (fun r => some (r, M4)))
set_option maxRecDepth 100000 in
set_option maxHeartbeats 4000000 in
theorem r_X8_word {B n : Nat} {h0 : zHp} {M0 : zMem} (w0 : zW B n h0 M0)  : zRR B n (f_X8_word (B + 213) h0) (m_X8_word  M0) := by
  unfold f_X8_word m_X8_word
  refine zr_bd (zr_lp (fun s1 h2 M2 w2 => ?_) (0, 0) h0 M0 w0) (fun b27 h4 M4 w4 => zr_sl (fun e3 => ?_) (fun r => zr_ok w4))
  · refine zr_if ?_ ?_
    · exact zr_ok w2
    · refine zr_bd (zr_lp (fun s5 h6 M6 w6 => ?_) 0 h2 M2 w2) (fun e7 h8 M8 w8 => ?_)
      · refine zr_obp (fun v9 => ?_)
        refine zr_if ?_ ?_
        · exact zr_ok w6
        · refine zr_gI w6 zio_8 rfl ?_
          refine zr_gI w6 zio_8 rfl ?_
          refine zr_if ?_ ?_
          · exact zr_ok w6
          · refine zr_gR w6 zio_8 rfl ?_
            refine zr_gI w6 zio_8 rfl ?_
            refine zr_a0 w6 zca_214 (fun v14 => ?_)
            refine zr_obp (fun v15 => ?_)
            refine zr_if ?_ ?_
            · exact zr_ok w6
            · exact zr_ok w6
      · refine zr_obp (fun v16 => ?_)
        refine zr_bd ?_ (fun b26 h20 M20 w20 => zr_sl (fun e19 => ?_) (fun r => zr_ok w20))
        · refine zr_if ?_ ?_
          · refine zr_gI w8 zio_8 rfl ?_
            refine zr_gI w8 zio_8 rfl ?_
            refine zr_if ?_ ?_
            · exact zr_ok w8
            · exact zr_ok w8
          · exact zr_ok w8
        · refine zr_bd (zr_lp (fun s21 h22 M22 w22 => ?_) s1.2 h20 M20 w20) (fun e23 h24 M24 w24 => ?_)
          · refine zr_obp (fun v25 => ?_)
            refine zr_if ?_ ?_
            · exact zr_ok w22
            · exact zr_ok w22
          · exact zr_ok w24
  · exact zr_ok w4
def m_X8_token  (M0 : zMem) : Option (Unit × zMem) :=
  mbd (
  mlp (σ := Unit) (β := Unit) zLF (fun s1 M2 =>
  mbd (m_X8_here  M2) (fun v6 M5 =>
  mbd (α := (Unit ⊕ (Unit ⊕ Unit))) (
  if v6 = 10 then
  some ((.inl ()), M5)
  else
  mbd (m_X8_here  M5) (fun v8 M7 =>
  if v8 = 32 then
  some ((.inl ()), M7)
  else
  some ((.inr (.inr ())), M7))) (fun b66 M10 => zsl b66 (fun e9 =>
  mlt (mup M10 213 23 ((M10.1 213 23) + 1)) (fun M12 =>
  some ((.inl ()), M12))) (fun r => some (r, M10))))) () M0) (fun e3 M4 =>
  mlt (mup M4 213 24 (M4.1 213 23)) (fun M14 =>
  mbd (m_X8_here  M14) (fun v16 M15 =>
  if v16 = (-1) then
  mlt (mup M15 213 25 4) (fun M17 =>
  some ((), M17))
  else
  mbd (m_X8_isSmall v16 M15) (fun v19 M18 =>
  if v19 = 0 then
  mbd (m_X8_isDigit v16 M18) (fun v21 M20 =>
  if v21 = 0 then
  mbd (m_X8_sign v16 M20) (fun v23 M22 =>
  some ((), M22))
  else
  mlt (mup M20 213 25 2) (fun M24 =>
  mlt (mup M24 213 26 0) (fun M25 =>
  mbd (
  mlp (σ := Unit) (β := Unit) zLF (fun s26 M27 =>
  mbd (m_X8_here  M27) (fun v31 M30 =>
  mbd (m_X8_isDigit v31 M30) (fun v33 M32 =>
  if v33 = 0 then
  some ((.inr ()), M32)
  else
  mbd (α := Int32) (
  if (M32.1 213 26) ≤ 99999 then
  mbd (m_X8_here  M32) (fun v37 M36 =>
  some ((((10 * (M32.1 213 26)) + v37) - 48), M36))
  else
  some ((M32.1 213 26), M32)) (fun e39 M40 =>
  mlt (mup M40 213 26 e39) (fun M41 =>
  mlt (mup M41 213 23 ((M41.1 213 23) + 1)) (fun M43 =>
  some ((.inl ()), M43))))))) () M25) (fun e28 M29 =>
  some ((), M29)))))
  else
  mbd (
  mlp (σ := Unit) (β := Unit) zLF (fun s44 M45 =>
  mbd (m_X8_here  M45) (fun v49 M48 =>
  mbd (m_X8_isSmall v49 M48) (fun v51 M50 =>
  if v51 = 0 then
  some ((.inr ()), M50)
  else
  mlt (mup M50 213 23 ((M50.1 213 23) + 1)) (fun M53 =>
  some ((.inl ()), M53))))) () M18) (fun e46 M47 =>
  mbd (m_X8_word  M47) (fun v55 M54 =>
  mlt (mup M54 213 26 v55) (fun M56 =>
  mbd (α := Int32) (
  if (M56.1 213 26) = (-1) then
  if ((M56.1 213 23) - (M56.1 213 24)) ≤ 6 then
  some (1, M56)
  else
  some (5, M56)
  else
  some (0, M56)) (fun e60 M61 =>
  mlt (mup M61 213 25 e60) (fun M62 =>
  if (M62.1 213 25) = 1 then
  mbd (m_X8_name  M62) (fun v65 M64 =>
  some ((), M64))
  else
  some ((), M62))))))))))
set_option maxRecDepth 100000 in
set_option maxHeartbeats 4000000 in
theorem r_X8_token {B n : Nat} {h0 : zHp} {M0 : zMem} (w0 : zW B n h0 M0)  : zRR B n (f_X8_token (B + 213) h0) (m_X8_token  M0) := by
  unfold f_X8_token m_X8_token
  refine zr_bd (zr_lp (fun s1 h2 M2 w2 => ?_) () h0 M0 w0) (fun e3 h4 M4 w4 => ?_)
  · refine zr_cv w2 zio_8 (r_X8_here w2 ) (fun v6 h5 M5 w5 => ?_)
    refine zr_bd ?_ (fun b66 h10 M10 w10 => zr_sl (fun e9 => ?_) (fun r => zr_ok w10))
    · refine zr_if ?_ ?_
      · exact zr_ok w5
      · refine zr_cv w5 zio_8 (r_X8_here w5 ) (fun v8 h7 M7 w7 => ?_)
        refine zr_if ?_ ?_
        · exact zr_ok w7
        · exact zr_ok w7
    · refine zr_gI w10 zio_8 rfl ?_
      refine zr_pV w10 zio_8 (Nat.le_of_ble_eq_true rfl) rfl (fun h12 M12 w12 => ?_)
      exact zr_ok w12
  · refine zr_gI w4 zio_8 rfl ?_
    refine zr_pV w4 zio_8 (Nat.le_of_ble_eq_true rfl) rfl (fun h14 M14 w14 => ?_)
    refine zr_cv w14 zio_8 (r_X8_here w14 ) (fun v16 h15 M15 w15 => ?_)
    refine zr_if ?_ ?_
    · refine zr_pV w15 zio_8 (Nat.le_of_ble_eq_true rfl) rfl (fun h17 M17 w17 => ?_)
      exact zr_ok w17
    · refine zr_bd (r_X8_isSmall w15 v16) (fun v19 h18 M18 w18 => ?_)
      refine zr_if ?_ ?_
      · refine zr_bd (r_X8_isDigit w18 v16) (fun v21 h20 M20 w20 => ?_)
        refine zr_if ?_ ?_
        · refine zr_cv w20 zio_8 (r_X8_sign w20 v16) (fun v23 h22 M22 w22 => ?_)
          exact zr_ok w22
        · refine zr_pV w20 zio_8 (Nat.le_of_ble_eq_true rfl) rfl (fun h24 M24 w24 => ?_)
          refine zr_pV w24 zio_8 (Nat.le_of_ble_eq_true rfl) rfl (fun h25 M25 w25 => ?_)
          refine zr_bd (zr_lp (fun s26 h27 M27 w27 => ?_) () h25 M25 w25) (fun e28 h29 M29 w29 => ?_)
          · refine zr_cv w27 zio_8 (r_X8_here w27 ) (fun v31 h30 M30 w30 => ?_)
            refine zr_bd (r_X8_isDigit w30 v31) (fun v33 h32 M32 w32 => ?_)
            refine zr_if ?_ ?_
            · exact zr_ok w32
            · refine zr_gI w32 zio_8 rfl ?_
              refine zr_bd ?_ (fun e39 h40 M40 w40 => ?_)
              · refine zr_if ?_ ?_
                · refine zr_gI w32 zio_8 rfl ?_
                  refine zr_cv w32 zio_8 (r_X8_here w32 ) (fun v37 h36 M36 w36 => ?_)
                  exact zr_ok w36
                · refine zr_gI w32 zio_8 rfl ?_
                  exact zr_ok w32
              · refine zr_pV w40 zio_8 (Nat.le_of_ble_eq_true rfl) rfl (fun h41 M41 w41 => ?_)
                refine zr_gI w41 zio_8 rfl ?_
                refine zr_pV w41 zio_8 (Nat.le_of_ble_eq_true rfl) rfl (fun h43 M43 w43 => ?_)
                exact zr_ok w43
          · exact zr_ok w29
      · refine zr_bd (zr_lp (fun s44 h45 M45 w45 => ?_) () h18 M18 w18) (fun e46 h47 M47 w47 => ?_)
        · refine zr_cv w45 zio_8 (r_X8_here w45 ) (fun v49 h48 M48 w48 => ?_)
          refine zr_bd (r_X8_isSmall w48 v49) (fun v51 h50 M50 w50 => ?_)
          refine zr_if ?_ ?_
          · exact zr_ok w50
          · refine zr_gI w50 zio_8 rfl ?_
            refine zr_pV w50 zio_8 (Nat.le_of_ble_eq_true rfl) rfl (fun h53 M53 w53 => ?_)
            exact zr_ok w53
        · refine zr_cv w47 zio_8 (r_X8_word w47 ) (fun v55 h54 M54 w54 => ?_)
          refine zr_pV w54 zio_8 (Nat.le_of_ble_eq_true rfl) rfl (fun h56 M56 w56 => ?_)
          refine zr_gI w56 zio_8 rfl ?_
          refine zr_bd ?_ (fun e60 h61 M61 w61 => ?_)
          · refine zr_if ?_ ?_
            · refine zr_gI w56 zio_8 rfl ?_
              refine zr_gI w56 zio_8 rfl ?_
              refine zr_if ?_ ?_
              · exact zr_ok w56
              · exact zr_ok w56
            · exact zr_ok w56
          · refine zr_pV w61 zio_8 (Nat.le_of_ble_eq_true rfl) rfl (fun h62 M62 w62 => ?_)
            refine zr_gI w62 zio_8 rfl ?_
            refine zr_if ?_ ?_
            · refine zr_cv w62 zio_8 (r_X8_name w62 ) (fun v65 h64 M64 w64 => ?_)
              exact zr_ok w64
            · exact zr_ok w62
def m_X8_wrong (a1 : Int32) (M0 : zMem) : Option (Unit × zMem) :=
  if (M0.1 213 27) = 0 then
  mlt (mup M0 213 27 a1) (fun M2 =>
  mlt (mup M2 213 28 (M2.1 213 24)) (fun M4 =>
  some ((), M4)))
  else
  some ((), M0)
set_option maxRecDepth 100000 in
set_option maxHeartbeats 4000000 in
theorem r_X8_wrong {B n : Nat} {h0 : zHp} {M0 : zMem} (w0 : zW B n h0 M0) (a1 : Int32) : zRR B n (f_X8_wrong (B + 213) a1 h0) (m_X8_wrong a1 M0) := by
  unfold f_X8_wrong m_X8_wrong
  refine zr_gI w0 zio_8 rfl ?_
  refine zr_if ?_ ?_
  · refine zr_pV w0 zio_8 (Nat.le_of_ble_eq_true rfl) rfl (fun h2 M2 w2 => ?_)
    refine zr_gI w2 zio_8 rfl ?_
    refine zr_pV w2 zio_8 (Nat.le_of_ble_eq_true rfl) rfl (fun h4 M4 w4 => ?_)
    exact zr_ok w4
  · exact zr_ok w0
def m_X8_numeral (a1 : Int32) (a2 : Int32) (M0 : zMem) : Option (Int32 × zMem) :=
  if (M0.1 213 27) = 0 then
  mbd (α := Unit) (
  if (M0.1 213 25) = 2 then
  mbd (α := (Unit ⊕ Unit)) (
  if (M0.1 213 26) < a1 then
  some ((.inl ()), M0)
  else
  if (M0.1 213 26) ≤ a2 then
  some ((.inr ()), M0)
  else
  some ((.inl ()), M0)) (fun b17 M6 => zsl b17 (fun e5 =>
  mbd (m_X8_wrong 2 M6) (fun v8 M7 =>
  some ((), M7))) (fun r => some (r, M6)))
  else
  mbd (m_X8_wrong 1 M0) (fun v10 M9 =>
  some ((), M9))) (fun e11 M12 =>
  if (M12.1 213 27) = 0 then
  mbd (m_X8_token  M12) (fun v16 M15 =>
  some ((M12.1 213 26), M15))
  else
  some (a1, M12))
  else
  some (a1, M0)
set_option maxRecDepth 100000 in
set_option maxHeartbeats 4000000 in
theorem r_X8_numeral {B n : Nat} {h0 : zHp} {M0 : zMem} (w0 : zW B n h0 M0) (a1 : Int32) (a2 : Int32) : zRR B n (f_X8_numeral (B + 213) a1 a2 h0) (m_X8_numeral a1 a2 M0) := by
  unfold f_X8_numeral m_X8_numeral
  refine zr_gI w0 zio_8 rfl ?_
  refine zr_if ?_ ?_
  · refine zr_gI w0 zio_8 rfl ?_
    refine zr_bd ?_ (fun e11 h12 M12 w12 => ?_)
    · refine zr_if ?_ ?_
      · refine zr_gI w0 zio_8 rfl ?_
        refine zr_bd ?_ (fun b17 h6 M6 w6 => zr_sl (fun e5 => ?_) (fun r => zr_ok w6))
        · refine zr_if ?_ ?_
          · exact zr_ok w0
          · refine zr_gI w0 zio_8 rfl ?_
            refine zr_if ?_ ?_
            · exact zr_ok w0
            · exact zr_ok w0
        · refine zr_cv w6 zio_8 (r_X8_wrong w6 2) (fun v8 h7 M7 w7 => ?_)
          exact zr_ok w7
      · refine zr_cv w0 zio_8 (r_X8_wrong w0 1) (fun v10 h9 M9 w9 => ?_)
        exact zr_ok w9
    · refine zr_gI w12 zio_8 rfl ?_
      refine zr_if ?_ ?_
      · refine zr_gI w12 zio_8 rfl ?_
        refine zr_cv w12 zio_8 (r_X8_token w12 ) (fun v16 h15 M15 w15 => ?_)
        exact zr_ok w15
      · exact zr_ok w12
  · exact zr_ok w0
def m_X8_cellAhead  (M0 : zMem) : Option (Int32 × zMem) :=
  mbd (m_X8_numeral 0 5 M0) (fun v2 M1 =>
  mbd (m_X8_numeral 0 3 M1) (fun v4 M3 =>
  some (((6 * v4) + v2), M3)))
set_option maxRecDepth 100000 in
set_option maxHeartbeats 4000000 in
theorem r_X8_cellAhead {B n : Nat} {h0 : zHp} {M0 : zMem} (w0 : zW B n h0 M0)  : zRR B n (f_X8_cellAhead (B + 213) h0) (m_X8_cellAhead  M0) := by
  unfold f_X8_cellAhead m_X8_cellAhead
  refine zr_cv w0 zio_8 (r_X8_numeral w0 0 5) (fun v2 h1 M1 w1 => ?_)
  refine zr_cv w1 zio_8 (r_X8_numeral w1 0 3) (fun v4 h3 M3 w3 => ?_)
  exact zr_ok w3
def m_X8_isField (a1 : Int32) (M0 : zMem) : Option (Int32 × zMem) :=
  if a1 < 0 then
  some (0, M0)
  else
  zob (mrd M0 215 0) (fun v2 =>
  if v2 ≤ a1 then
  some (0, M0)
  else
  some (1, M0))
set_option maxRecDepth 100000 in
set_option maxHeartbeats 4000000 in
theorem r_X8_isField {B n : Nat} {h0 : zHp} {M0 : zMem} (w0 : zW B n h0 M0) (a1 : Int32) : zRR B n (f_X8_isField (B + 213) a1 h0) (m_X8_isField a1 M0) := by
  unfold f_X8_isField m_X8_isField
  refine zr_if ?_ ?_
  · exact zr_ok w0
  · refine zr_gR w0 zio_8 rfl ?_
    refine zr_a0 w0 zca_215 (fun v2 => ?_)
    refine zr_if ?_ ?_
    · exact zr_ok w0
    · exact zr_ok w0
def m_X8_chance (a1 : Int32) (a2 : Int32) (a3 : Int32) (a4 : Int32) (M0 : zMem) : Option (Int32 × zMem) :=
  mlt (mup M0 213 0 0) (fun M1 =>
  if a1 < 0 then
  some ((-1), M1)
  else
  if a2 < 1 then
  some ((-1), M1)
  else
  if 60 < a2 then
  some ((-1), M1)
  else
  mbd (m_X8_isField a3 M1) (fun v3 M2 =>
  if v3 = 0 then
  some ((-1), M2)
  else
  if a4 < 0 then
  some ((-1), M2)
  else
  if a4 ≤ 999 then
  mbd (
  mlp (σ := (Int32 × Int32 × Int32)) (β := (Int32 × Int32 × Int32)) zLF (fun s4 M5 =>
  if 10 ≤ s4.2.2 then
  some ((.inr (s4.1, s4.2.1, s4.2.2)), M5)
  else
  mbd (m_X8_copies 1 0 M5) (fun v9 M8 =>
  mbd (
  mlp (σ := (Int32 × Int32)) (β := (Int32 × Int32)) zLF (fun s10 M11 =>
  if a2 ≤ s10.2 then
  some ((.inr (s10.1, s10.2)), M11)
  else
  mlt (mup M11 213 51 (zrm ((((s10.1 * 1103515245) + 12345) &&& 2147483647) >>> (16 &&& 31)) 5)) (fun M14 =>
  mbd (m_X8_passes 1 M14) (fun v16 M15 =>
  some ((.inl ((((s10.1 * 1103515245) + 12345) &&& 2147483647), (s10.2 + 1))), M15)))) (s4.1, 0) M8) (fun e12 M13 =>
  mlt (mup M13 213 51 (-1)) (fun M17 =>
  zob (mrd M17 243 (5 + a3)) (fun v19 =>
  zob (mrd M17 243 a3) (fun v21 =>
  if (v19 - v21) < a4 then
  some ((.inl (e12.1, (s4.2.1 + 0), (s4.2.2 + 1))), M17)
  else
  some ((.inl (e12.1, (s4.2.1 + 1), (s4.2.2 + 1))), M17))))))) (a1, 0, 0) M2) (fun e6 M7 =>
  some (e6.2.1, M7))
  else
  some ((-1), M2)))
set_option maxRecDepth 100000 in
set_option maxHeartbeats 4000000 in
theorem r_X8_chance {B n : Nat} {h0 : zHp} {M0 : zMem} (w0 : zW B n h0 M0) (a1 : Int32) (a2 : Int32) (a3 : Int32) (a4 : Int32) : zRR B n (f_X8_chance (B + 213) a1 a2 a3 a4 h0) (m_X8_chance a1 a2 a3 a4 M0) := by
  unfold f_X8_chance m_X8_chance
  refine zr_pV w0 zio_8 (Nat.le_of_ble_eq_true rfl) rfl (fun h1 M1 w1 => ?_)
  refine zr_if ?_ ?_
  · exact zr_ok w1
  · refine zr_if ?_ ?_
    · exact zr_ok w1
    · refine zr_if ?_ ?_
      · exact zr_ok w1
      · refine zr_cv w1 zio_8 (r_X8_isField w1 a3) (fun v3 h2 M2 w2 => ?_)
        refine zr_if ?_ ?_
        · exact zr_ok w2
        · refine zr_if ?_ ?_
          · exact zr_ok w2
          · refine zr_if ?_ ?_
            · refine zr_bd (zr_lp (fun s4 h5 M5 w5 => ?_) (a1, 0, 0) h2 M2 w2) (fun e6 h7 M7 w7 => ?_)
              · refine zr_if ?_ ?_
                · exact zr_ok w5
                · refine zr_cv w5 zio_8 (r_X8_copies w5 1 0) (fun v9 h8 M8 w8 => ?_)
                  refine zr_bd (zr_lp (fun s10 h11 M11 w11 => ?_) (s4.1, 0) h8 M8 w8) (fun e12 h13 M13 w13 => ?_)
                  · refine zr_if ?_ ?_
                    · exact zr_ok w11
                    · refine zr_pV w11 zio_8 (Nat.le_of_ble_eq_true rfl) rfl (fun h14 M14 w14 => ?_)
                      refine zr_cv w14 zio_8 (r_X8_passes w14 1) (fun v16 h15 M15 w15 => ?_)
                      exact zr_ok w15
                  · refine zr_pV w13 zio_8 (Nat.le_of_ble_eq_true rfl) rfl (fun h17 M17 w17 => ?_)
                    refine zr_gR w17 zio_8 rfl ?_
                    refine zr_a0 w17 zca_243 (fun v19 => ?_)
                    refine zr_gR w17 zio_8 rfl ?_
                    refine zr_a0 w17 zca_243 (fun v21 => ?_)
                    refine zr_if ?_ ?_
                    · exact zr_ok w17
                    · exact zr_ok w17
              · exact zr_ok w7
            · exact zr_ok w2
def m_X8_rainBy (a1 : Int32) (a2 : Int32) (M0 : zMem) : Option (Int32 × zMem) :=
  mbd (
  mlp (σ := (Int32 × Int32)) (β := (Int32 × Int32)) zLF (fun s1 M2 =>
  zob (mrd M2 215 0) (fun v6 =>
  if v6 ≤ s1.2 then
  some ((.inr (s1.1, s1.2)), M2)
  else
  zob (mrd M2 244 (((35 * a1) + (7 * s1.2)) + a2)) (fun v8 =>
  some ((.inl ((s1.1 + v8), (s1.2 + 1))), M2)))) (0, 0) M0) (fun e3 M4 =>
  some (e3.1, M4))
set_option maxRecDepth 100000 in
set_option maxHeartbeats 4000000 in
theorem r_X8_rainBy {B n : Nat} {h0 : zHp} {M0 : zMem} (w0 : zW B n h0 M0) (a1 : Int32) (a2 : Int32) : zRR B n (f_X8_rainBy (B + 213) a1 a2 h0) (m_X8_rainBy a1 a2 M0) := by
  unfold f_X8_rainBy m_X8_rainBy
  refine zr_bd (zr_lp (fun s1 h2 M2 w2 => ?_) (0, 0) h0 M0 w0) (fun e3 h4 M4 w4 => ?_)
  · refine zr_gR w2 zio_8 rfl ?_
    refine zr_a0 w2 zca_215 (fun v6 => ?_)
    refine zr_if ?_ ?_
    · exact zr_ok w2
    · refine zr_gR w2 zio_8 rfl ?_
      refine zr_a0 w2 zca_244 (fun v8 => ?_)
      exact zr_ok w2
  · exact zr_ok w4
def m_X8_child (a1 : Int32) (a2 : Int32) (M0 : zMem) : Option (Int32 × zMem) :=
  mlt (mup M0 213 0 0) (fun M1 =>
  mbd (m_X8_isChild a1 M1) (fun v3 M2 =>
  if v3 = 0 then
  some ((-1), M2)
  else
  if a2 = 0 then
  zob (mrd M2 241 a1) (fun v5 =>
  some ((zrm v5 6), M2))
  else if a2 = 1 then
  zob (mrd M2 241 a1) (fun v7 =>
  some ((v7 / 6), M2))
  else if a2 = 2 then
  zob (mrd M2 226 a1) (fun v9 =>
  some (v9, M2))
  else if a2 = 3 then
  zob (mrd M2 242 a1) (fun v11 =>
  some (v11, M2))
  else if a2 = 4 then
  mbd (m_X8_ownUp 0 a1 M2) (fun v13 M12 =>
  some (v13, M12))
  else if a2 = 5 then
  mbd (m_X8_rainBy 0 a1 M2) (fun v15 M14 =>
  some (v15, M14))
  else 
  some ((-1), M2)))
set_option maxRecDepth 100000 in
set_option maxHeartbeats 4000000 in
theorem r_X8_child {B n : Nat} {h0 : zHp} {M0 : zMem} (w0 : zW B n h0 M0) (a1 : Int32) (a2 : Int32) : zRR B n (f_X8_child (B + 213) a1 a2 h0) (m_X8_child a1 a2 M0) := by
  unfold f_X8_child m_X8_child
  refine zr_pV w0 zio_8 (Nat.le_of_ble_eq_true rfl) rfl (fun h1 M1 w1 => ?_)
  refine zr_cv w1 zio_8 (r_X8_isChild w1 a1) (fun v3 h2 M2 w2 => ?_)
  refine zr_if ?_ ?_
  · exact zr_ok w2
  · refine zr_if ?_ ?_
    · refine zr_gR w2 zio_8 rfl ?_
      refine zr_a0 w2 zca_241 (fun v5 => ?_)
      exact zr_ok w2
    refine zr_if ?_ ?_
    · refine zr_gR w2 zio_8 rfl ?_
      refine zr_a0 w2 zca_241 (fun v7 => ?_)
      exact zr_ok w2
    refine zr_if ?_ ?_
    · refine zr_gR w2 zio_8 rfl ?_
      refine zr_a0 w2 zca_226 (fun v9 => ?_)
      exact zr_ok w2
    refine zr_if ?_ ?_
    · refine zr_gR w2 zio_8 rfl ?_
      refine zr_a0 w2 zca_242 (fun v11 => ?_)
      exact zr_ok w2
    refine zr_if ?_ ?_
    · refine zr_cv w2 zio_8 (r_X8_ownUp w2 0 a1) (fun v13 h12 M12 w12 => ?_)
      exact zr_ok w12
    refine zr_if ?_ ?_
    · refine zr_cv w2 zio_8 (r_X8_rainBy w2 0 a1) (fun v15 h14 M14 w14 => ?_)
      exact zr_ok w14
    exact zr_ok w2
def m_X8_isCloud (a1 : Int32) (M0 : zMem) : Option (Int32 × zMem) :=
  if a1 < 0 then
  some (0, M0)
  else
  zob (mrd M0 215 1) (fun v2 =>
  if v2 ≤ a1 then
  some (0, M0)
  else
  some (1, M0))
set_option maxRecDepth 100000 in
set_option maxHeartbeats 4000000 in
theorem r_X8_isCloud {B n : Nat} {h0 : zHp} {M0 : zMem} (w0 : zW B n h0 M0) (a1 : Int32) : zRR B n (f_X8_isCloud (B + 213) a1 h0) (m_X8_isCloud a1 M0) := by
  unfold f_X8_isCloud m_X8_isCloud
  refine zr_if ?_ ?_
  · exact zr_ok w0
  · refine zr_gR w0 zio_8 rfl ?_
    refine zr_a0 w0 zca_215 (fun v2 => ?_)
    refine zr_if ?_ ?_
    · exact zr_ok w0
    · exact zr_ok w0
def m_X8_cloud (a1 : Int32) (a2 : Int32) (M0 : zMem) : Option (Int32 × zMem) :=
  mbd (m_X8_isCloud a1 M0) (fun v2 M1 =>
  mbd (α := Int32) (
  if v2 = 0 then
  some (1, M1)
  else
  if a2 < 0 then
  some (2, M1)
  else
  if a2 ≤ 5 then
  some (0, M1)
  else
  some (2, M1)) (fun e3 M4 =>
  mlt (mup M4 213 0 e3) (fun M5 =>
  if (M5.1 213 0) = 0 then
  if a2 = 0 then
  zob (mrd M5 236 a1) (fun v8 =>
  some ((zrm v8 6), M5))
  else if a2 = 1 then
  zob (mrd M5 236 a1) (fun v10 =>
  some ((v10 / 6), M5))
  else if a2 = 2 then
  zob (mrd M5 237 a1) (fun v12 =>
  some (v12, M5))
  else if a2 = 3 then
  zob (mrd M5 238 a1) (fun v14 =>
  some (v14, M5))
  else if a2 = 4 then
  zob (mrd M5 239 a1) (fun v16 =>
  some (v16, M5))
  else 
  zob (mrd M5 240 a1) (fun v18 =>
  some (v18, M5))
  else
  some (0, M5))))
set_option maxRecDepth 100000 in
set_option maxHeartbeats 4000000 in
theorem r_X8_cloud {B n : Nat} {h0 : zHp} {M0 : zMem} (w0 : zW B n h0 M0) (a1 : Int32) (a2 : Int32) : zRR B n (f_X8_cloud (B + 213) a1 a2 h0) (m_X8_cloud a1 a2 M0) := by
  unfold f_X8_cloud m_X8_cloud
  refine zr_cv w0 zio_8 (r_X8_isCloud w0 a1) (fun v2 h1 M1 w1 => ?_)
  refine zr_bd ?_ (fun e3 h4 M4 w4 => ?_)
  · refine zr_if ?_ ?_
    · exact zr_ok w1
    · refine zr_if ?_ ?_
      · exact zr_ok w1
      · refine zr_if ?_ ?_
        · exact zr_ok w1
        · exact zr_ok w1
  · refine zr_pV w4 zio_8 (Nat.le_of_ble_eq_true rfl) rfl (fun h5 M5 w5 => ?_)
    refine zr_gI w5 zio_8 rfl ?_
    refine zr_if ?_ ?_
    · refine zr_if ?_ ?_
      · refine zr_gR w5 zio_8 rfl ?_
        refine zr_a0 w5 zca_236 (fun v8 => ?_)
        exact zr_ok w5
      refine zr_if ?_ ?_
      · refine zr_gR w5 zio_8 rfl ?_
        refine zr_a0 w5 zca_236 (fun v10 => ?_)
        exact zr_ok w5
      refine zr_if ?_ ?_
      · refine zr_gR w5 zio_8 rfl ?_
        refine zr_a0 w5 zca_237 (fun v12 => ?_)
        exact zr_ok w5
      refine zr_if ?_ ?_
      · refine zr_gR w5 zio_8 rfl ?_
        refine zr_a0 w5 zca_238 (fun v14 => ?_)
        exact zr_ok w5
      refine zr_if ?_ ?_
      · refine zr_gR w5 zio_8 rfl ?_
        refine zr_a0 w5 zca_239 (fun v16 => ?_)
        exact zr_ok w5
      refine zr_gR w5 zio_8 rfl ?_
      refine zr_a0 w5 zca_240 (fun v18 => ?_)
      exact zr_ok w5
    · exact zr_ok w5
def m_X8_common (a0 : Int32) (a1 : Int32) (M0 : zMem) : Option (Int32 × zMem) :=
  mbd (
  mlp (σ := (Int32 × Int32)) (β := (Int32 × Int32)) zLF (fun s1 M2 =>
  if s1.2 = 0 then
  some ((.inr (s1.1, s1.2)), M2)
  else
  zob (zrp s1.1 s1.2) (fun v5 =>
  some ((.inl (s1.2, v5)), M2))) (a0, a1) M0) (fun e3 M4 =>
  some (e3.1, M4))
set_option maxRecDepth 100000 in
set_option maxHeartbeats 4000000 in
theorem r_X8_common {B n : Nat} {h0 : zHp} {M0 : zMem} (w0 : zW B n h0 M0) (a0 : Int32) (a1 : Int32) : zRR B n (f_X8_common a0 a1 h0) (m_X8_common a0 a1 M0) := by
  unfold f_X8_common m_X8_common
  refine zr_bd (zr_lp (fun s1 h2 M2 w2 => ?_) (a0, a1) h0 M0 w0) (fun e3 h4 M4 w4 => ?_)
  · refine zr_if ?_ ?_
    · exact zr_ok w2
    · refine zr_obp (fun v5 => ?_)
      exact zr_ok w2
  · exact zr_ok w4
def m_X8_goOn  (M0 : zMem) : Option (Unit × zMem) :=
  if (M0.1 213 27) = 0 then
  mbd (m_X8_token  M0) (fun v3 M2 =>
  some ((), M2))
  else
  some ((), M0)
set_option maxRecDepth 100000 in
set_option maxHeartbeats 4000000 in
theorem r_X8_goOn {B n : Nat} {h0 : zHp} {M0 : zMem} (w0 : zW B n h0 M0)  : zRR B n (f_X8_goOn (B + 213) h0) (m_X8_goOn  M0) := by
  unfold f_X8_goOn m_X8_goOn
  refine zr_gI w0 zio_8 rfl ?_
  refine zr_if ?_ ?_
  · refine zr_cv w0 zio_8 (r_X8_token w0 ) (fun v3 h2 M2 w2 => ?_)
    exact zr_ok w2
  · exact zr_ok w0
def m_X8_isWord (a1 : Int32) (M0 : zMem) : Option (Int32 × zMem) :=
  if (M0.1 213 27) = 0 then
  if (M0.1 213 25) = 0 then
  if (M0.1 213 26) = a1 then
  some (1, M0)
  else
  some (0, M0)
  else
  some (0, M0)
  else
  some (0, M0)
set_option maxRecDepth 100000 in
set_option maxHeartbeats 4000000 in
theorem r_X8_isWord {B n : Nat} {h0 : zHp} {M0 : zMem} (w0 : zW B n h0 M0) (a1 : Int32) : zRR B n (f_X8_isWord (B + 213) a1 h0) (m_X8_isWord a1 M0) := by
  unfold f_X8_isWord m_X8_isWord
  refine zr_gI w0 zio_8 rfl ?_
  refine zr_if ?_ ?_
  · refine zr_gI w0 zio_8 rfl ?_
    refine zr_if ?_ ?_
    · refine zr_gI w0 zio_8 rfl ?_
      refine zr_if ?_ ?_
      · exact zr_ok w0
      · exact zr_ok w0
    · exact zr_ok w0
  · exact zr_ok w0
def m_X8_knot  (M0 : zMem) : Option (Unit × zMem) :=
  if (M0.1 213 27) = 0 then
  if (M0.1 213 32) = 64 then
  mbd (m_X8_wrong 2 M0) (fun v4 M3 =>
  some ((), M3))
  else
  mlt (mup M0 213 32 ((M0.1 213 32) + 1)) (fun M6 =>
  some ((), M6))
  else
  some ((), M0)
set_option maxRecDepth 100000 in
set_option maxHeartbeats 4000000 in
theorem r_X8_knot {B n : Nat} {h0 : zHp} {M0 : zMem} (w0 : zW B n h0 M0)  : zRR B n (f_X8_knot (B + 213) h0) (m_X8_knot  M0) := by
  unfold f_X8_knot m_X8_knot
  refine zr_gI w0 zio_8 rfl ?_
  refine zr_if ?_ ?_
  · refine zr_gI w0 zio_8 rfl ?_
    refine zr_if ?_ ?_
    · refine zr_cv w0 zio_8 (r_X8_wrong w0 2) (fun v4 h3 M3 w3 => ?_)
      exact zr_ok w3
    · refine zr_gI w0 zio_8 rfl ?_
      refine zr_pV w0 zio_8 (Nat.le_of_ble_eq_true rfl) rfl (fun h6 M6 w6 => ?_)
      exact zr_ok w6
  · exact zr_ok w0
def m_X8_fresher (a1 : Int32) (M0 : zMem) : Option (Int32 × zMem) :=
  zob (mrd M0 215 (8 + a1)) (fun v2 =>
  some (v2, M0))
set_option maxRecDepth 100000 in
set_option maxHeartbeats 4000000 in
theorem r_X8_fresher {B n : Nat} {h0 : zHp} {M0 : zMem} (w0 : zW B n h0 M0) (a1 : Int32) : zRR B n (f_X8_fresher (B + 213) a1 h0) (m_X8_fresher a1 M0) := by
  unfold f_X8_fresher m_X8_fresher
  refine zr_gR w0 zio_8 rfl ?_
  refine zr_a0 w0 zca_215 (fun v2 => ?_)
  exact zr_ok w0
def m_X8_reads (a1 : Int32) (a2 : Int32) (M0 : zMem) : Option (Unit × zMem) :=
  zob (mwr M0 215 (8 + a1) a2) (fun M2 =>
  some ((), M2))
set_option maxRecDepth 100000 in
set_option maxHeartbeats 4000000 in
theorem r_X8_reads {B n : Nat} {h0 : zHp} {M0 : zMem} (w0 : zW B n h0 M0) (a1 : Int32) (a2 : Int32) : zRR B n (f_X8_reads (B + 213) a1 a2 h0) (m_X8_reads a1 a2 M0) := by
  unfold f_X8_reads m_X8_reads
  refine zr_gR w0 zio_8 rfl ?_
  refine zr_s0 w0 zca_215 (fun h2 M2 w2 => ?_)
  exact zr_ok w2
def m_X8_puts (a1 : Int32) (a2 : Int32) (M0 : zMem) : Option (Unit × zMem) :=
  if (M0.1 213 27) = 0 then
  mbd (m_X8_fresher 7 M0) (fun v4 M3 =>
  zob (mwr M3 230 (64 + v4) a1) (fun M5 =>
  mbd (m_X8_fresher 7 M5) (fun v8 M7 =>
  zob (mwr M7 231 (64 + v8) a2) (fun M9 =>
  mbd (m_X8_fresher 7 M9) (fun v11 M10 =>
  mbd (m_X8_reads 7 (v11 + 1) M10) (fun v13 M12 =>
  some ((), M12)))))))
  else
  some ((), M0)
set_option maxRecDepth 100000 in
set_option maxHeartbeats 4000000 in
theorem r_X8_puts {B n : Nat} {h0 : zHp} {M0 : zMem} (w0 : zW B n h0 M0) (a1 : Int32) (a2 : Int32) : zRR B n (f_X8_puts (B + 213) a1 a2 h0) (m_X8_puts a1 a2 M0) := by
  unfold f_X8_puts m_X8_puts
  refine zr_gI w0 zio_8 rfl ?_
  refine zr_if ?_ ?_
  · refine zr_gR w0 zio_8 rfl ?_
    refine zr_cv w0 zio_8 (r_X8_fresher w0 7) (fun v4 h3 M3 w3 => ?_)
    refine zr_s0 w3 zca_230 (fun h5 M5 w5 => ?_)
    refine zr_gR w5 zio_8 rfl ?_
    refine zr_cv w5 zio_8 (r_X8_fresher w5 7) (fun v8 h7 M7 w7 => ?_)
    refine zr_s0 w7 zca_231 (fun h9 M9 w9 => ?_)
    refine zr_cv w9 zio_8 (r_X8_fresher w9 7) (fun v11 h10 M10 w10 => ?_)
    refine zr_cv w10 zio_8 (r_X8_reads w10 7 (v11 + 1)) (fun v13 h12 M12 w12 => ?_)
    exact zr_ok w12
  · exact zr_ok w0
def m_X8_isSign (a1 : Int32) (M0 : zMem) : Option (Int32 × zMem) :=
  if (M0.1 213 27) = 0 then
  if (M0.1 213 25) = 3 then
  if (M0.1 213 26) = a1 then
  some (1, M0)
  else
  some (0, M0)
  else
  some (0, M0)
  else
  some (0, M0)
set_option maxRecDepth 100000 in
set_option maxHeartbeats 4000000 in
theorem r_X8_isSign {B n : Nat} {h0 : zHp} {M0 : zMem} (w0 : zW B n h0 M0) (a1 : Int32) : zRR B n (f_X8_isSign (B + 213) a1 h0) (m_X8_isSign a1 M0) := by
  unfold f_X8_isSign m_X8_isSign
  refine zr_gI w0 zio_8 rfl ?_
  refine zr_if ?_ ?_
  · refine zr_gI w0 zio_8 rfl ?_
    refine zr_if ?_ ?_
    · refine zr_gI w0 zio_8 rfl ?_
      refine zr_if ?_ ?_
      · exact zr_ok w0
      · exact zr_ok w0
    · exact zr_ok w0
  · exact zr_ok w0
def m_X8_givenTo (a1 : Int32) (M0 : zMem) : Option (Int32 × zMem) :=
  mbd (
  mlp (σ := (Int32 × Int32)) (β := (Int32 × Int32)) zLF (fun s1 M2 =>
  zob (mrd M2 215 1) (fun v6 =>
  if v6 ≤ s1.2 then
  some ((.inr (s1.1, s1.2)), M2)
  else
  zob (mrd M2 245 s1.2) (fun v8 =>
  if v8 = a1 then
  some ((.inl ((s1.1 + 1), (s1.2 + 1))), M2)
  else
  some ((.inl ((s1.1 + 0), (s1.2 + 1))), M2)))) (0, 0) M0) (fun e3 M4 =>
  some (e3.1, M4))
set_option maxRecDepth 100000 in
set_option maxHeartbeats 4000000 in
theorem r_X8_givenTo {B n : Nat} {h0 : zHp} {M0 : zMem} (w0 : zW B n h0 M0) (a1 : Int32) : zRR B n (f_X8_givenTo (B + 213) a1 h0) (m_X8_givenTo a1 M0) := by
  unfold f_X8_givenTo m_X8_givenTo
  refine zr_bd (zr_lp (fun s1 h2 M2 w2 => ?_) (0, 0) h0 M0 w0) (fun e3 h4 M4 w4 => ?_)
  · refine zr_gR w2 zio_8 rfl ?_
    refine zr_a0 w2 zca_215 (fun v6 => ?_)
    refine zr_if ?_ ?_
    · exact zr_ok w2
    · refine zr_gR w2 zio_8 rfl ?_
      refine zr_a0 w2 zca_245 (fun v8 => ?_)
      refine zr_if ?_ ?_
      · exact zr_ok w2
      · exact zr_ok w2
  · exact zr_ok w4
def mb_X8_finds (F : Int32 → zMem → Option (Int32 × zMem)) (a1 : Int32) (M0 : zMem) : Option (Int32 × zMem) :=
  mbd (
  mlp (σ := Int32) (β := (Int32 ⊕ Int32)) zLF (fun s1 M2 =>
  zob (mrd M2 215 2) (fun v6 =>
  if v6 ≤ s1 then
  some ((.inr (.inl s1)), M2)
  else
  if (((M2.1 213 55) >>> (s1 &&& 31)) &&& 1) = 1 then
  some ((.inl (s1 + 1)), M2)
  else
  zob (mrd M2 236 a1) (fun v9 =>
  mbd (m_X8_doesSee 0 s1 v9 M2) (fun v11 M10 =>
  if v11 = 0 then
  some ((.inl (s1 + 1)), M10)
  else
  mlt (mup M10 213 55 ((M10.1 213 55) ||| (1 <<< (s1 &&& 31)))) (fun M13 =>
  mbd (m_X8_givenTo s1 M13) (fun v15 M14 =>
  zob (mrd M14 215 5) (fun v17 =>
  if v17 ≤ v15 then
  mbd (
  mlp (σ := Int32) (β := (Int32 ⊕ (Int32 ⊕ (Int32 ⊕ Int32)))) zLF (fun s18 M19 =>
  zob (mrd M19 215 1) (fun v23 =>
  if v23 ≤ s18 then
  some ((.inr (.inl s18)), M19)
  else
  zob (mrd M19 245 s18) (fun v25 =>
  if v25 = s1 then
  mbd (F s18 M19) (fun v27 M26 =>
  if v27 = 0 then
  some ((.inl (s18 + 1)), M26)
  else
  zob (mwr M26 245 a1 s1) (fun M29 =>
  some ((.inr (.inr (.inr (.inr 1)))), M29)))
  else
  some ((.inl (s18 + 1)), M19)))) 0 M14) (fun b32 M21 => zsl b32 (fun e20 =>
  some ((.inl (s1 + 1)), M21)) (fun r => some (r, M21)))
  else
  zob (mwr M14 245 a1 s1) (fun M31 =>
  some ((.inr (.inr 1)), M31))))))))) 0 M0) (fun b33 M4 => zsl b33 (fun e3 =>
  some (0, M4)) (fun r => some (r, M4)))
def m_X8_finds : Nat → Int32 → zMem → Option (Int32 × zMem)
  | 0 => fun _ _ => none
  | n + 1 => mb_X8_finds (m_X8_finds n)
set_option maxRecDepth 100000 in
set_option maxHeartbeats 4000000 in
theorem r_X8_finds : ∀ (fu : Nat) {B n : Nat} {h0 : zHp} {M0 : zMem} (w0 : zW B n h0 M0), (∀ (a1 : Int32), zRR B n (f_X8_finds fu (B + 213) a1 h0) (m_X8_finds fu a1 M0)) := by
  intro fu
  induction fu with
  | zero => intros; exact zr_none
  | succ fu ih =>
    intro B n h0 M0 w0
    intro a1
    show zRR B n (b_X8_finds (f_X8_finds fu) (B + 213) a1 h0) (mb_X8_finds (m_X8_finds fu) a1 M0)
    unfold b_X8_finds mb_X8_finds
    refine zr_bd (zr_lp (fun s1 h2 M2 w2 => ?_) 0 h0 M0 w0) (fun b33 h4 M4 w4 => zr_sl (fun e3 => ?_) (fun r => zr_ok w4))
    · refine zr_gR w2 zio_8 rfl ?_
      refine zr_a0 w2 zca_215 (fun v6 => ?_)
      refine zr_if ?_ ?_
      · exact zr_ok w2
      · refine zr_gI w2 zio_8 rfl ?_
        refine zr_if ?_ ?_
        · exact zr_ok w2
        · refine zr_gR w2 zio_8 rfl ?_
          refine zr_a0 w2 zca_236 (fun v9 => ?_)
          refine zr_cv w2 zio_8 (r_X8_doesSee w2 0 s1 v9) (fun v11 h10 M10 w10 => ?_)
          refine zr_if ?_ ?_
          · exact zr_ok w10
          · refine zr_gI w10 zio_8 rfl ?_
            refine zr_pV w10 zio_8 (Nat.le_of_ble_eq_true rfl) rfl (fun h13 M13 w13 => ?_)
            refine zr_cv w13 zio_8 (r_X8_givenTo w13 s1) (fun v15 h14 M14 w14 => ?_)
            refine zr_gR w14 zio_8 rfl ?_
            refine zr_a0 w14 zca_215 (fun v17 => ?_)
            refine zr_if ?_ ?_
            · refine zr_bd (zr_lp (fun s18 h19 M19 w19 => ?_) 0 h14 M14 w14) (fun b32 h21 M21 w21 => zr_sl (fun e20 => ?_) (fun r => zr_ok w21))
              · refine zr_gR w19 zio_8 rfl ?_
                refine zr_a0 w19 zca_215 (fun v23 => ?_)
                refine zr_if ?_ ?_
                · exact zr_ok w19
                · refine zr_gR w19 zio_8 rfl ?_
                  refine zr_a0 w19 zca_245 (fun v25 => ?_)
                  refine zr_if ?_ ?_
                  · refine zr_cv w19 zio_8 (ih w19 s18) (fun v27 h26 M26 w26 => ?_)
                    refine zr_if ?_ ?_
                    · exact zr_ok w26
                    · refine zr_gR w26 zio_8 rfl ?_
                      refine zr_s0 w26 zca_245 (fun h29 M29 w29 => ?_)
                      exact zr_ok w29
                  · exact zr_ok w19
              · exact zr_ok w21
            · refine zr_gR w14 zio_8 rfl ?_
              refine zr_s0 w14 zca_245 (fun h31 M31 w31 => ?_)
              exact zr_ok w31
    · exact zr_ok w4
def m_X8_could  (M0 : zMem) : Option (Int32 × zMem) :=
  mlt (mup M0 213 0 0) (fun M1 =>
  mbd (
  mlp (σ := Int32) (β := Int32) zLF (fun s2 M3 =>
  if 8 ≤ s2 then
  some ((.inr s2), M3)
  else
  zob (mwr M3 245 s2 (-1)) (fun M7 =>
  some ((.inl (s2 + 1)), M7))) 0 M1) (fun e4 M5 =>
  mbd (
  mlp (σ := (Int32 × Int32)) (β := (Int32 × Int32)) zLF (fun s8 M9 =>
  zob (mrd M9 215 1) (fun v13 =>
  if v13 ≤ s8.2 then
  some ((.inr (s8.1, s8.2)), M9)
  else
  mlt (mup M9 213 55 0) (fun M14 =>
  mbd (m_X8_isUp 0 s8.2 M14) (fun v16 M15 =>
  if v16 = 0 then
  some ((.inl ((s8.1 + 0), (s8.2 + 1))), M15)
  else
  mbd (m_X8_finds 10 s8.2 M15) (fun v18 M17 =>
  if v18 = 0 then
  some ((.inl ((s8.1 + 0), (s8.2 + 1))), M17)
  else
  some ((.inl ((s8.1 + 1), (s8.2 + 1))), M17)))))) (0, 0) M5) (fun e10 M11 =>
  some (e10.1, M11))))
set_option maxRecDepth 100000 in
set_option maxHeartbeats 4000000 in
theorem r_X8_could {B n : Nat} {h0 : zHp} {M0 : zMem} (w0 : zW B n h0 M0)  : zRR B n (f_X8_could (B + 213) h0) (m_X8_could  M0) := by
  unfold f_X8_could m_X8_could
  refine zr_pV w0 zio_8 (Nat.le_of_ble_eq_true rfl) rfl (fun h1 M1 w1 => ?_)
  refine zr_bd (zr_lp (fun s2 h3 M3 w3 => ?_) 0 h1 M1 w1) (fun e4 h5 M5 w5 => ?_)
  · refine zr_if ?_ ?_
    · exact zr_ok w3
    · refine zr_gR w3 zio_8 rfl ?_
      refine zr_s0 w3 zca_245 (fun h7 M7 w7 => ?_)
      exact zr_ok w7
  · refine zr_bd (zr_lp (fun s8 h9 M9 w9 => ?_) (0, 0) h5 M5 w5) (fun e10 h11 M11 w11 => ?_)
    · refine zr_gR w9 zio_8 rfl ?_
      refine zr_a0 w9 zca_215 (fun v13 => ?_)
      refine zr_if ?_ ?_
      · exact zr_ok w9
      · refine zr_pV w9 zio_8 (Nat.le_of_ble_eq_true rfl) rfl (fun h14 M14 w14 => ?_)
        refine zr_cv w14 zio_8 (r_X8_isUp w14 0 s8.2) (fun v16 h15 M15 w15 => ?_)
        refine zr_if ?_ ?_
        · exact zr_ok w15
        · refine zr_cv w15 zio_8 (r_X8_finds 10 w15 s8.2) (fun v18 h17 M17 w17 => ?_)
          refine zr_if ?_ ?_
          · exact zr_ok w17
          · exact zr_ok w17
    · exact zr_ok w11
def m_X8_knownMany  (M0 : zMem) : Option (Int32 × zMem) :=
  if (M0.1 213 62) = (-1) then
  some ((M0.1 213 61), M0)
  else
  some ((M0.1 213 62), M0)
set_option maxRecDepth 100000 in
set_option maxHeartbeats 4000000 in
theorem r_X8_knownMany {B n : Nat} {h0 : zHp} {M0 : zMem} (w0 : zW B n h0 M0)  : zRR B n (f_X8_knownMany (B + 213) h0) (m_X8_knownMany  M0) := by
  unfold f_X8_knownMany m_X8_knownMany
  refine zr_gI w0 zio_8 rfl ?_
  refine zr_if ?_ ?_
  · refine zr_gI w0 zio_8 rfl ?_
    exact zr_ok w0
  · refine zr_gI w0 zio_8 rfl ?_
    exact zr_ok w0
def m_X8_count (a1 : Int32) (M0 : zMem) : Option (Int32 × zMem) :=
  mlt (mup M0 213 0 0) (fun M1 =>
  if a1 = 0 then
  zob (mrd M1 215 0) (fun v3 =>
  some (v3, M1))
  else if a1 = 1 then
  zob (mrd M1 215 1) (fun v5 =>
  some (v5, M1))
  else if a1 = 2 then
  zob (mrd M1 215 2) (fun v7 =>
  some (v7, M1))
  else if a1 = 3 then
  zob (mrd M1 215 3) (fun v9 =>
  some (v9, M1))
  else if a1 = 4 then
  zob (mrd M1 215 7) (fun v11 =>
  some (v11, M1))
  else if a1 = 5 then
  zob (mrd M1 234 0) (fun v13 =>
  some (v13, M1))
  else if a1 = 6 then
  mbd (m_X8_windIn 0 M1) (fun v15 M14 =>
  some (v15, M14))
  else if a1 = 7 then
  mbd (m_X8_upMany 0 M1) (fun v17 M16 =>
  some (v17, M16))
  else if a1 = 8 then
  mbd (m_X8_howMany 0 0 M1) (fun v19 M18 =>
  some (v19, M18))
  else if a1 = 9 then
  mbd (m_X8_howMany 0 2 M1) (fun v21 M20 =>
  some (v21, M20))
  else if a1 = 10 then
  mbd (m_X8_rainAll 0 M1) (fun v23 M22 =>
  some (v23, M22))
  else if a1 = 11 then
  mbd (m_X8_marksAll 0 M1) (fun v25 M24 =>
  some (v25, M24))
  else if a1 = 12 then
  some ((M1.1 213 61), M1)
  else if a1 = 13 then
  mbd (m_X8_knownMany  M1) (fun v28 M27 =>
  some (v28, M27))
  else if a1 = 14 then
  some ((M1.1 213 48), M1)
  else 
  some ((-1), M1))
set_option maxRecDepth 100000 in
set_option maxHeartbeats 4000000 in
theorem r_X8_count {B n : Nat} {h0 : zHp} {M0 : zMem} (w0 : zW B n h0 M0) (a1 : Int32) : zRR B n (f_X8_count (B + 213) a1 h0) (m_X8_count a1 M0) := by
  unfold f_X8_count m_X8_count
  refine zr_pV w0 zio_8 (Nat.le_of_ble_eq_true rfl) rfl (fun h1 M1 w1 => ?_)
  refine zr_if ?_ ?_
  · refine zr_gR w1 zio_8 rfl ?_
    refine zr_a0 w1 zca_215 (fun v3 => ?_)
    exact zr_ok w1
  refine zr_if ?_ ?_
  · refine zr_gR w1 zio_8 rfl ?_
    refine zr_a0 w1 zca_215 (fun v5 => ?_)
    exact zr_ok w1
  refine zr_if ?_ ?_
  · refine zr_gR w1 zio_8 rfl ?_
    refine zr_a0 w1 zca_215 (fun v7 => ?_)
    exact zr_ok w1
  refine zr_if ?_ ?_
  · refine zr_gR w1 zio_8 rfl ?_
    refine zr_a0 w1 zca_215 (fun v9 => ?_)
    exact zr_ok w1
  refine zr_if ?_ ?_
  · refine zr_gR w1 zio_8 rfl ?_
    refine zr_a0 w1 zca_215 (fun v11 => ?_)
    exact zr_ok w1
  refine zr_if ?_ ?_
  · refine zr_gR w1 zio_8 rfl ?_
    refine zr_a0 w1 zca_234 (fun v13 => ?_)
    exact zr_ok w1
  refine zr_if ?_ ?_
  · refine zr_cv w1 zio_8 (r_X8_windIn w1 0) (fun v15 h14 M14 w14 => ?_)
    exact zr_ok w14
  refine zr_if ?_ ?_
  · refine zr_cv w1 zio_8 (r_X8_upMany w1 0) (fun v17 h16 M16 w16 => ?_)
    exact zr_ok w16
  refine zr_if ?_ ?_
  · refine zr_cv w1 zio_8 (r_X8_howMany w1 0 0) (fun v19 h18 M18 w18 => ?_)
    exact zr_ok w18
  refine zr_if ?_ ?_
  · refine zr_cv w1 zio_8 (r_X8_howMany w1 0 2) (fun v21 h20 M20 w20 => ?_)
    exact zr_ok w20
  refine zr_if ?_ ?_
  · refine zr_cv w1 zio_8 (r_X8_rainAll w1 0) (fun v23 h22 M22 w22 => ?_)
    exact zr_ok w22
  refine zr_if ?_ ?_
  · refine zr_cv w1 zio_8 (r_X8_marksAll w1 0) (fun v25 h24 M24 w24 => ?_)
    exact zr_ok w24
  refine zr_if ?_ ?_
  · refine zr_gI w1 zio_8 rfl ?_
    exact zr_ok w1
  refine zr_if ?_ ?_
  · refine zr_cv w1 zio_8 (r_X8_knownMany w1 ) (fun v28 h27 M27 w27 => ?_)
    exact zr_ok w27
  refine zr_if ?_ ?_
  · refine zr_gI w1 zio_8 rfl ?_
    exact zr_ok w1
  exact zr_ok w1
def m_X8_enough (a1 : Int32) (M0 : zMem) : Option (Int32 × zMem) :=
  mlt (mup M0 213 0 0) (fun M1 =>
  mbd (m_X8_isField a1 M1) (fun v3 M2 =>
  if v3 = 0 then
  some ((-1), M2)
  else
  mbd (m_X8_copies 1 0 M2) (fun v5 M4 =>
  mbd (
  mlp (σ := Int32) (β := (Int32 ⊕ Int32)) zLF (fun s6 M7 =>
  if 99 < s6 then
  some ((.inr (.inl s6)), M7)
  else
  zob (mrd M7 243 (5 + a1)) (fun v11 =>
  zob (mrd M7 219 a1) (fun v13 =>
  if v11 < v13 then
  mbd (m_X8_passes 1 M7) (fun v15 M14 =>
  some ((.inl (s6 + 1)), M14))
  else
  some ((.inr (.inr s6)), M7)))) 0 M4) (fun b16 M9 => zsl b16 (fun e8 =>
  some ((-2), M9)) (fun r => some (r, M9))))))
set_option maxRecDepth 100000 in
set_option maxHeartbeats 4000000 in
theorem r_X8_enough {B n : Nat} {h0 : zHp} {M0 : zMem} (w0 : zW B n h0 M0) (a1 : Int32) : zRR B n (f_X8_enough (B + 213) a1 h0) (m_X8_enough a1 M0) := by
  unfold f_X8_enough m_X8_enough
  refine zr_pV w0 zio_8 (Nat.le_of_ble_eq_true rfl) rfl (fun h1 M1 w1 => ?_)
  refine zr_cv w1 zio_8 (r_X8_isField w1 a1) (fun v3 h2 M2 w2 => ?_)
  refine zr_if ?_ ?_
  · exact zr_ok w2
  · refine zr_cv w2 zio_8 (r_X8_copies w2 1 0) (fun v5 h4 M4 w4 => ?_)
    refine zr_bd (zr_lp (fun s6 h7 M7 w7 => ?_) 0 h4 M4 w4) (fun b16 h9 M9 w9 => zr_sl (fun e8 => ?_) (fun r => zr_ok w9))
    · refine zr_if ?_ ?_
      · exact zr_ok w7
      · refine zr_gR w7 zio_8 rfl ?_
        refine zr_a0 w7 zca_243 (fun v11 => ?_)
        refine zr_gR w7 zio_8 rfl ?_
        refine zr_a0 w7 zca_219 (fun v13 => ?_)
        refine zr_if ?_ ?_
        · refine zr_cv w7 zio_8 (r_X8_passes w7 1) (fun v15 h14 M14 w14 => ?_)
          exact zr_ok w14
        · exact zr_ok w7
    · exact zr_ok w9
def m_X8_fault (a1 : Int32) (M0 : zMem) : Option (Int32 × zMem) :=
  mlt (mup M0 213 0 0) (fun M1 =>
  if a1 = 0 then
  some ((M1.1 213 29), M1)
  else
  if a1 = 1 then
  some ((M1.1 213 30), M1)
  else
  some ((-1), M1))
set_option maxRecDepth 100000 in
set_option maxHeartbeats 4000000 in
theorem r_X8_fault {B n : Nat} {h0 : zHp} {M0 : zMem} (w0 : zW B n h0 M0) (a1 : Int32) : zRR B n (f_X8_fault (B + 213) a1 h0) (m_X8_fault a1 M0) := by
  unfold f_X8_fault m_X8_fault
  refine zr_pV w0 zio_8 (Nat.le_of_ble_eq_true rfl) rfl (fun h1 M1 w1 => ?_)
  refine zr_if ?_ ?_
  · refine zr_gI w1 zio_8 rfl ?_
    exact zr_ok w1
  · refine zr_if ?_ ?_
    · refine zr_gI w1 zio_8 rfl ?_
      exact zr_ok w1
    · exact zr_ok w1
def m_X8_feed (a1 : Int32) (a2 : Int32) (a3 : Int32) (a4 : Int32) (a5 : Int32) (M0 : zMem) : Option (Int32 × zMem) :=
  mlt (mup M0 213 0 0) (fun M1 =>
  if (M1.1 213 2) ≤ 680 then
  mbd (
  mlp (σ := Int32) (β := Int32) zLF (fun s3 M4 =>
  if 20 ≤ s3 then
  some ((.inr s3), M4)
  else
  mbd (α := Int32) (
  if 4 ≤ s3 then
  if 8 ≤ s3 then
  if 12 ≤ s3 then
  if 16 ≤ s3 then
  some (a5, M4)
  else
  some (a4, M4)
  else
  some (a3, M4)
  else
  some (a2, M4)
  else
  some (a1, M4)) (fun e7 M8 =>
  zob (mwr M8 214 ((M8.1 213 2) + s3) ((e7 >>> ((24 - (8 * (zrm s3 4))) &&& 31)) &&& 255)) (fun M11 =>
  some ((.inl (s3 + 1)), M11)))) 0 M1) (fun e5 M6 =>
  mlt (mup M6 213 2 ((M6.1 213 2) + 20)) (fun M13 =>
  some ((M13.1 213 2), M13)))
  else
  some ((-1), M1))
set_option maxRecDepth 100000 in
set_option maxHeartbeats 4000000 in
theorem r_X8_feed {B n : Nat} {h0 : zHp} {M0 : zMem} (w0 : zW B n h0 M0) (a1 : Int32) (a2 : Int32) (a3 : Int32) (a4 : Int32) (a5 : Int32) : zRR B n (f_X8_feed (B + 213) a1 a2 a3 a4 a5 h0) (m_X8_feed a1 a2 a3 a4 a5 M0) := by
  unfold f_X8_feed m_X8_feed
  refine zr_pV w0 zio_8 (Nat.le_of_ble_eq_true rfl) rfl (fun h1 M1 w1 => ?_)
  refine zr_gI w1 zio_8 rfl ?_
  refine zr_if ?_ ?_
  · refine zr_bd (zr_lp (fun s3 h4 M4 w4 => ?_) 0 h1 M1 w1) (fun e5 h6 M6 w6 => ?_)
    · refine zr_if ?_ ?_
      · exact zr_ok w4
      · refine zr_bd ?_ (fun e7 h8 M8 w8 => ?_)
        · refine zr_if ?_ ?_
          · refine zr_if ?_ ?_
            · refine zr_if ?_ ?_
              · refine zr_if ?_ ?_
                · exact zr_ok w4
                · exact zr_ok w4
              · exact zr_ok w4
            · exact zr_ok w4
          · exact zr_ok w4
        · refine zr_gR w8 zio_8 rfl ?_
          refine zr_gI w8 zio_8 rfl ?_
          refine zr_s0 w8 zca_214 (fun h11 M11 w11 => ?_)
          exact zr_ok w11
    · refine zr_gI w6 zio_8 rfl ?_
      refine zr_pV w6 zio_8 (Nat.le_of_ble_eq_true rfl) rfl (fun h13 M13 w13 => ?_)
      refine zr_gI w13 zio_8 rfl ?_
      exact zr_ok w13
  · exact zr_ok w1
def m_X8_field (a1 : Int32) (a2 : Int32) (M0 : zMem) : Option (Int32 × zMem) :=
  mlt (mup M0 213 0 0) (fun M1 =>
  mbd (m_X8_isField a1 M1) (fun v3 M2 =>
  if v3 = 0 then
  some ((-1), M2)
  else
  if a2 = 0 then
  zob (mrd M2 218 a1) (fun v5 =>
  some ((zrm v5 6), M2))
  else
  if a2 = 1 then
  zob (mrd M2 218 a1) (fun v7 =>
  some ((v7 / 6), M2))
  else
  if a2 = 2 then
  zob (mrd M2 219 a1) (fun v9 =>
  some (v9, M2))
  else
  if a2 = 3 then
  zob (mrd M2 243 a1) (fun v11 =>
  some (v11, M2))
  else
  some ((-1), M2)))
set_option maxRecDepth 100000 in
set_option maxHeartbeats 4000000 in
theorem r_X8_field {B n : Nat} {h0 : zHp} {M0 : zMem} (w0 : zW B n h0 M0) (a1 : Int32) (a2 : Int32) : zRR B n (f_X8_field (B + 213) a1 a2 h0) (m_X8_field a1 a2 M0) := by
  unfold f_X8_field m_X8_field
  refine zr_pV w0 zio_8 (Nat.le_of_ble_eq_true rfl) rfl (fun h1 M1 w1 => ?_)
  refine zr_cv w1 zio_8 (r_X8_isField w1 a1) (fun v3 h2 M2 w2 => ?_)
  refine zr_if ?_ ?_
  · exact zr_ok w2
  · refine zr_if ?_ ?_
    · refine zr_gR w2 zio_8 rfl ?_
      refine zr_a0 w2 zca_218 (fun v5 => ?_)
      exact zr_ok w2
    · refine zr_if ?_ ?_
      · refine zr_gR w2 zio_8 rfl ?_
        refine zr_a0 w2 zca_218 (fun v7 => ?_)
        exact zr_ok w2
      · refine zr_if ?_ ?_
        · refine zr_gR w2 zio_8 rfl ?_
          refine zr_a0 w2 zca_219 (fun v9 => ?_)
          exact zr_ok w2
        · refine zr_if ?_ ?_
          · refine zr_gR w2 zio_8 rfl ?_
            refine zr_a0 w2 zca_243 (fun v11 => ?_)
            exact zr_ok w2
          · exact zr_ok w2
def m_X8_upIn (a1 : Int32) (a2 : Int32) (M0 : zMem) : Option (Int32 × zMem) :=
  mbd (
  mlp (σ := (Int32 × Int32)) (β := (Int32 × Int32)) zLF (fun s1 M2 =>
  zob (mrd M2 215 1) (fun v6 =>
  if v6 ≤ s1.2 then
  some ((.inr (s1.1, s1.2)), M2)
  else
  mbd (m_X8_isUp a1 s1.2 M2) (fun v8 M7 =>
  if v8 = 0 then
  some ((.inl ((s1.1 ||| 0), (s1.2 + 1))), M7)
  else
  zob (mrd M7 236 ((8 * a1) + s1.2)) (fun v10 =>
  if v10 = a2 then
  some ((.inl ((s1.1 ||| (1 <<< (s1.2 &&& 31))), (s1.2 + 1))), M7)
  else
  some ((.inl ((s1.1 ||| 0), (s1.2 + 1))), M7))))) (0, 0) M0) (fun e3 M4 =>
  some (e3.1, M4))
set_option maxRecDepth 100000 in
set_option maxHeartbeats 4000000 in
theorem r_X8_upIn {B n : Nat} {h0 : zHp} {M0 : zMem} (w0 : zW B n h0 M0) (a1 : Int32) (a2 : Int32) : zRR B n (f_X8_upIn (B + 213) a1 a2 h0) (m_X8_upIn a1 a2 M0) := by
  unfold f_X8_upIn m_X8_upIn
  refine zr_bd (zr_lp (fun s1 h2 M2 w2 => ?_) (0, 0) h0 M0 w0) (fun e3 h4 M4 w4 => ?_)
  · refine zr_gR w2 zio_8 rfl ?_
    refine zr_a0 w2 zca_215 (fun v6 => ?_)
    refine zr_if ?_ ?_
    · exact zr_ok w2
    · refine zr_cv w2 zio_8 (r_X8_isUp w2 a1 s1.2) (fun v8 h7 M7 w7 => ?_)
      refine zr_if ?_ ?_
      · exact zr_ok w7
      · refine zr_gR w7 zio_8 rfl ?_
        refine zr_a0 w7 zca_236 (fun v10 => ?_)
        refine zr_if ?_ ?_
        · exact zr_ok w7
        · exact zr_ok w7
  · exact zr_ok w4
def m_X8_isSo (a1 : Int32) (M0 : zMem) : Option (Int32 × zMem) :=
  mbd (
  mlp (σ := Int32) (β := (Int32 ⊕ Int32)) zLF (fun s1 M2 =>
  mbd (m_X8_knownMany  M2) (fun v6 M5 =>
  if v6 ≤ s1 then
  some ((.inr (.inl s1)), M5)
  else
  zob (mrd M5 253 s1) (fun v8 =>
  if v8 = 0 then
  zob (mrd M5 252 s1) (fun v10 =>
  if v10 = (-1) then
  zob (mrd M5 249 s1) (fun v12 =>
  if v12 = a1 then
  zob (mrd M5 250 s1) (fun v14 =>
  mbd (m_X8_upIn 1 v14 M5) (fun v16 M15 =>
  mbd (α := Int32) (
  if v16 = 0 then
  some (0, M15)
  else
  some (1, M15)) (fun e17 M18 =>
  zob (mrd M18 251 s1) (fun v20 =>
  if e17 = v20 then
  some ((.inl (s1 + 1)), M18)
  else
  some ((.inr (.inr 0)), M18)))))
  else
  some ((.inl (s1 + 1)), M5))
  else
  some ((.inl (s1 + 1)), M5))
  else
  some ((.inl (s1 + 1)), M5)))) 0 M0) (fun b21 M4 => zsl b21 (fun e3 =>
  some (1, M4)) (fun r => some (r, M4)))
set_option maxRecDepth 100000 in
set_option maxHeartbeats 4000000 in
theorem r_X8_isSo {B n : Nat} {h0 : zHp} {M0 : zMem} (w0 : zW B n h0 M0) (a1 : Int32) : zRR B n (f_X8_isSo (B + 213) a1 h0) (m_X8_isSo a1 M0) := by
  unfold f_X8_isSo m_X8_isSo
  refine zr_bd (zr_lp (fun s1 h2 M2 w2 => ?_) 0 h0 M0 w0) (fun b21 h4 M4 w4 => zr_sl (fun e3 => ?_) (fun r => zr_ok w4))
  · refine zr_cv w2 zio_8 (r_X8_knownMany w2 ) (fun v6 h5 M5 w5 => ?_)
    refine zr_if ?_ ?_
    · exact zr_ok w5
    · refine zr_gR w5 zio_8 rfl ?_
      refine zr_a2 w5 zca_253 (fun v8 => ?_)
      refine zr_if ?_ ?_
      · refine zr_gR w5 zio_8 rfl ?_
        refine zr_a0 w5 zca_252 (fun v10 => ?_)
        refine zr_if ?_ ?_
        · refine zr_gR w5 zio_8 rfl ?_
          refine zr_a0 w5 zca_249 (fun v12 => ?_)
          refine zr_if ?_ ?_
          · refine zr_gR w5 zio_8 rfl ?_
            refine zr_a0 w5 zca_250 (fun v14 => ?_)
            refine zr_cv w5 zio_8 (r_X8_upIn w5 1 v14) (fun v16 h15 M15 w15 => ?_)
            refine zr_bd ?_ (fun e17 h18 M18 w18 => ?_)
            · refine zr_if ?_ ?_
              · exact zr_ok w15
              · exact zr_ok w15
            · refine zr_gR w18 zio_8 rfl ?_
              refine zr_a2 w18 zca_251 (fun v20 => ?_)
              refine zr_if ?_ ?_
              · exact zr_ok w18
              · exact zr_ok w18
          · exact zr_ok w5
        · exact zr_ok w5
      · exact zr_ok w5
  · exact zr_ok w4
def m_X8_fitsSize (a1 : Int32) (M0 : zMem) : Option (Int32 × zMem) :=
  mbd (m_X8_starts 1 M0) (fun v2 M1 =>
  mbd (
  mlp (σ := Int32) (β := (Int32 ⊕ Int32)) zLF (fun s3 M4 =>
  if a1 < s3 then
  some ((.inr (.inl s3)), M4)
  else
  mbd (m_X8_passes 1 M4) (fun v8 M7 =>
  mbd (m_X8_isSo s3 M7) (fun v10 M9 =>
  if v10 = 0 then
  some ((.inr (.inr 0)), M9)
  else
  some ((.inl (s3 + 1)), M9)))) 1 M1) (fun b11 M6 => zsl b11 (fun e5 =>
  some (1, M6)) (fun r => some (r, M6))))
set_option maxRecDepth 100000 in
set_option maxHeartbeats 4000000 in
theorem r_X8_fitsSize {B n : Nat} {h0 : zHp} {M0 : zMem} (w0 : zW B n h0 M0) (a1 : Int32) : zRR B n (f_X8_fitsSize (B + 213) a1 h0) (m_X8_fitsSize a1 M0) := by
  unfold f_X8_fitsSize m_X8_fitsSize
  refine zr_cv w0 zio_8 (r_X8_starts w0 1) (fun v2 h1 M1 w1 => ?_)
  refine zr_bd (zr_lp (fun s3 h4 M4 w4 => ?_) 1 h1 M1 w1) (fun b11 h6 M6 w6 => zr_sl (fun e5 => ?_) (fun r => zr_ok w6))
  · refine zr_if ?_ ?_
    · exact zr_ok w4
    · refine zr_cv w4 zio_8 (r_X8_passes w4 1) (fun v8 h7 M7 w7 => ?_)
      refine zr_cv w7 zio_8 (r_X8_isSo w7 s3) (fun v10 h9 M9 w9 => ?_)
      refine zr_if ?_ ?_
      · exact zr_ok w9
      · exact zr_ok w9
  · exact zr_ok w6
def m_X8_fives (a0 : Int32) (M0 : zMem) : Option (Int32 × zMem) :=
  mbd (
  mlp (σ := (Int32 × Int32)) (β := (Int32 × Int32)) zLF (fun s1 M2 =>
  if a0 ≤ s1.2 then
  some ((.inr (s1.1, s1.2)), M2)
  else
  some ((.inl ((s1.1 * 5), (s1.2 + 1))), M2)) (1, 0) M0) (fun e3 M4 =>
  some (e3.1, M4))
set_option maxRecDepth 100000 in
set_option maxHeartbeats 4000000 in
theorem r_X8_fives {B n : Nat} {h0 : zHp} {M0 : zMem} (w0 : zW B n h0 M0) (a0 : Int32) : zRR B n (f_X8_fives a0 h0) (m_X8_fives a0 M0) := by
  unfold f_X8_fives m_X8_fives
  refine zr_bd (zr_lp (fun s1 h2 M2 w2 => ?_) (1, 0) h0 M0 w0) (fun e3 h4 M4 w4 => ?_)
  · refine zr_if ?_ ?_
    · exact zr_ok w2
    · exact zr_ok w2
  · exact zr_ok w4
def m_X8_found (a0 : Nat) (a1 : Int32) (a2 : Int32) (a3 : Int32) (M0 : zMem) : Option (Int32 × zMem) :=
  mbd (
  mlp (σ := Int32) (β := (Int32 ⊕ Int32)) zLF (fun s1 M2 =>
  if a2 ≤ s1 then
  some ((.inr (.inl s1)), M2)
  else
  zob (mrd M2 a0 (a1 + s1)) (fun v5 =>
  if v5 = a3 then
  some ((.inr (.inr s1)), M2)
  else
  some ((.inl (s1 + 1)), M2))) 0 M0) (fun b6 M4 => zsl b6 (fun e3 =>
  some ((-1), M4)) (fun r => some (r, M4)))
set_option maxRecDepth 100000 in
set_option maxHeartbeats 4000000 in
theorem r_X8_found {B n : Nat} {h0 : zHp} {M0 : zMem} (w0 : zW B n h0 M0) (a0 : Nat) {Np0 : Nat} (p0 : zIA 0 Np0 a0) (a1 : Int32) (a2 : Int32) (a3 : Int32) : zRR B n (f_X8_found (B + a0) a1 a2 a3 h0) (m_X8_found a0 a1 a2 a3 M0) := by
  unfold f_X8_found m_X8_found
  refine zr_bd (zr_lp (fun s1 h2 M2 w2 => ?_) 0 h0 M0 w0) (fun b6 h4 M4 w4 => zr_sl (fun e3 => ?_) (fun r => zr_ok w4))
  · refine zr_if ?_ ?_
    · exact zr_ok w2
    · refine zr_a0 w2 p0 (fun v5 => ?_)
      refine zr_if ?_ ?_
      · exact zr_ok w2
      · exact zr_ok w2
  · exact zr_ok w4
def m_X8_fresh (a1 : Nat) (a2 : Int32) (a3 : Int32) (M0 : zMem) : Option (Int32 × zMem) :=
  if (M0.1 213 27) = 0 then
  mbd (α := Unit) (
  if (M0.1 213 25) = 1 then
  mbd (m_X8_found a1 a2 a3 (M0.1 213 26) M0) (fun v5 M4 =>
  if v5 = (-1) then
  some ((), M4)
  else
  mbd (m_X8_wrong 3 M4) (fun v7 M6 =>
  some ((), M6)))
  else
  mbd (m_X8_wrong 1 M0) (fun v9 M8 =>
  some ((), M8))) (fun e10 M11 =>
  if (M11.1 213 27) = 0 then
  mbd (m_X8_token  M11) (fun v15 M14 =>
  some ((M11.1 213 26), M14))
  else
  some (0, M11))
  else
  some (0, M0)
set_option maxRecDepth 100000 in
set_option maxHeartbeats 4000000 in
theorem r_X8_fresh {B n : Nat} {h0 : zHp} {M0 : zMem} (w0 : zW B n h0 M0) (a1 : Nat) {Np1 : Nat} (p1 : zIA 0 Np1 a1) (a2 : Int32) (a3 : Int32) : zRR B n (f_X8_fresh (B + 213) (B + a1) a2 a3 h0) (m_X8_fresh a1 a2 a3 M0) := by
  unfold f_X8_fresh m_X8_fresh
  refine zr_gI w0 zio_8 rfl ?_
  refine zr_if ?_ ?_
  · refine zr_gI w0 zio_8 rfl ?_
    refine zr_bd ?_ (fun e10 h11 M11 w11 => ?_)
    · refine zr_if ?_ ?_
      · refine zr_gI w0 zio_8 rfl ?_
        refine zr_bd (r_X8_found w0 a1 p1 a2 a3 (M0.1 213 26)) (fun v5 h4 M4 w4 => ?_)
        refine zr_if ?_ ?_
        · exact zr_ok w4
        · refine zr_cv w4 zio_8 (r_X8_wrong w4 3) (fun v7 h6 M6 w6 => ?_)
          exact zr_ok w6
      · refine zr_cv w0 zio_8 (r_X8_wrong w0 1) (fun v9 h8 M8 w8 => ?_)
        exact zr_ok w8
    · refine zr_gI w11 zio_8 rfl ?_
      refine zr_if ?_ ?_
      · refine zr_gI w11 zio_8 rfl ?_
        refine zr_cv w11 zio_8 (r_X8_token w11 ) (fun v15 h14 M14 w14 => ?_)
        exact zr_ok w14
      · exact zr_ok w11
  · exact zr_ok w0
def m_X8_give (a1 : Int32) (a2 : Int32) (M0 : zMem) : Option (Int32 × zMem) :=
  mlt (mup M0 213 0 0) (fun M1 =>
  mbd (m_X8_isCloud a1 M1) (fun v3 M2 =>
  if v3 = 0 then
  some (0, M2)
  else
  if a2 = (-1) then
  mbd (m_X8_isUp 0 a1 M2) (fun v5 M4 =>
  if v5 = 0 then
  some (0, M4)
  else
  zob (mrd M4 239 a1) (fun v7 =>
  if v7 = a2 then
  some (0, M4)
  else
  mbd (m_X8_keepNow  M4) (fun v9 M8 =>
  zob (mwr M8 239 a1 a2) (fun M11 =>
  some (1, M11)))))
  else
  mbd (m_X8_isChild a2 M2) (fun v13 M12 =>
  if v13 = 0 then
  some (0, M12)
  else
  mbd (m_X8_isUp 0 a1 M12) (fun v15 M14 =>
  if v15 = 0 then
  some (0, M14)
  else
  zob (mrd M14 239 a1) (fun v17 =>
  if v17 = a2 then
  some (0, M14)
  else
  mbd (m_X8_keepNow  M14) (fun v19 M18 =>
  zob (mwr M18 239 a1 a2) (fun M21 =>
  some (1, M21))))))))
set_option maxRecDepth 100000 in
set_option maxHeartbeats 4000000 in
theorem r_X8_give {B n : Nat} {h0 : zHp} {M0 : zMem} (w0 : zW B n h0 M0) (a1 : Int32) (a2 : Int32) : zRR B n (f_X8_give (B + 213) a1 a2 h0) (m_X8_give a1 a2 M0) := by
  unfold f_X8_give m_X8_give
  refine zr_pV w0 zio_8 (Nat.le_of_ble_eq_true rfl) rfl (fun h1 M1 w1 => ?_)
  refine zr_cv w1 zio_8 (r_X8_isCloud w1 a1) (fun v3 h2 M2 w2 => ?_)
  refine zr_if ?_ ?_
  · exact zr_ok w2
  · refine zr_if ?_ ?_
    · refine zr_cv w2 zio_8 (r_X8_isUp w2 0 a1) (fun v5 h4 M4 w4 => ?_)
      refine zr_if ?_ ?_
      · exact zr_ok w4
      · refine zr_gR w4 zio_8 rfl ?_
        refine zr_a0 w4 zca_239 (fun v7 => ?_)
        refine zr_if ?_ ?_
        · exact zr_ok w4
        · refine zr_cv w4 zio_8 (r_X8_keepNow w4 ) (fun v9 h8 M8 w8 => ?_)
          refine zr_gR w8 zio_8 rfl ?_
          refine zr_s0 w8 zca_239 (fun h11 M11 w11 => ?_)
          exact zr_ok w11
    · refine zr_cv w2 zio_8 (r_X8_isChild w2 a2) (fun v13 h12 M12 w12 => ?_)
      refine zr_if ?_ ?_
      · exact zr_ok w12
      · refine zr_cv w12 zio_8 (r_X8_isUp w12 0 a1) (fun v15 h14 M14 w14 => ?_)
        refine zr_if ?_ ?_
        · exact zr_ok w14
        · refine zr_gR w14 zio_8 rfl ?_
          refine zr_a0 w14 zca_239 (fun v17 => ?_)
          refine zr_if ?_ ?_
          · exact zr_ok w14
          · refine zr_cv w14 zio_8 (r_X8_keepNow w14 ) (fun v19 h18 M18 w18 => ?_)
            refine zr_gR w18 zio_8 rfl ?_
            refine zr_s0 w18 zca_239 (fun h21 M21 w21 => ?_)
            exact zr_ok w21
def m_X8_go (a1 : Int32) (M0 : zMem) : Option (Int32 × zMem) :=
  mlt (mup M0 213 0 0) (fun M1 =>
  if a1 < 0 then
  some ((-1), M1)
  else
  if 99 < a1 then
  some ((-1), M1)
  else
  zob (mrd M1 234 0) (fun v3 =>
  if (v3 + a1) ≤ 999 then
  mbd (α := Unit) (
  if a1 ≤ 0 then
  some ((), M1)
  else
  mlt (mup M1 213 48 0) (fun M4 =>
  some ((), M4))) (fun e5 M6 =>
  mbd (
  mlp (σ := Int32) (β := Int32) zLF (fun s7 M8 =>
  if a1 ≤ s7 then
  some ((.inr s7), M8)
  else
  mbd (m_X8_passes 0 M8) (fun v12 M11 =>
  some ((.inl (s7 + 1)), M11))) 0 M6) (fun e9 M10 =>
  zob (mrd M10 234 0) (fun v14 =>
  some (v14, M10))))
  else
  some ((-1), M1)))
set_option maxRecDepth 100000 in
set_option maxHeartbeats 4000000 in
theorem r_X8_go {B n : Nat} {h0 : zHp} {M0 : zMem} (w0 : zW B n h0 M0) (a1 : Int32) : zRR B n (f_X8_go (B + 213) a1 h0) (m_X8_go a1 M0) := by
  unfold f_X8_go m_X8_go
  refine zr_pV w0 zio_8 (Nat.le_of_ble_eq_true rfl) rfl (fun h1 M1 w1 => ?_)
  refine zr_if ?_ ?_
  · exact zr_ok w1
  · refine zr_if ?_ ?_
    · exact zr_ok w1
    · refine zr_gR w1 zio_8 rfl ?_
      refine zr_a0 w1 zca_234 (fun v3 => ?_)
      refine zr_if ?_ ?_
      · refine zr_bd ?_ (fun e5 h6 M6 w6 => ?_)
        · refine zr_if ?_ ?_
          · exact zr_ok w1
          · refine zr_pV w1 zio_8 (Nat.le_of_ble_eq_true rfl) rfl (fun h4 M4 w4 => ?_)
            exact zr_ok w4
        · refine zr_bd (zr_lp (fun s7 h8 M8 w8 => ?_) 0 h6 M6 w6) (fun e9 h10 M10 w10 => ?_)
          · refine zr_if ?_ ?_
            · exact zr_ok w8
            · refine zr_cv w8 zio_8 (r_X8_passes w8 0) (fun v12 h11 M11 w11 => ?_)
              exact zr_ok w11
          · refine zr_gR w10 zio_8 rfl ?_
            refine zr_a0 w10 zca_234 (fun v14 => ?_)
            exact zr_ok w10
      · exact zr_ok w1
def m_X8_ground (a1 : Int32) (a2 : Int32) (M0 : zMem) : Option (Int32 × zMem) :=
  mlt (mup M0 213 0 0) (fun M1 =>
  mbd (m_X8_isCell a1 a2 M1) (fun v3 M2 =>
  if v3 = 0 then
  some ((-1), M2)
  else
  zob (mrd M2 216 ((6 * a2) + a1)) (fun v5 =>
  some (v5, M2))))
set_option maxRecDepth 100000 in
set_option maxHeartbeats 4000000 in
theorem r_X8_ground {B n : Nat} {h0 : zHp} {M0 : zMem} (w0 : zW B n h0 M0) (a1 : Int32) (a2 : Int32) : zRR B n (f_X8_ground (B + 213) a1 a2 h0) (m_X8_ground a1 a2 M0) := by
  unfold f_X8_ground m_X8_ground
  refine zr_pV w0 zio_8 (Nat.le_of_ble_eq_true rfl) rfl (fun h1 M1 w1 => ?_)
  refine zr_bd (r_X8_isCell w1 a1 a2) (fun v3 h2 M2 w2 => ?_)
  refine zr_if ?_ ?_
  · exact zr_ok w2
  · refine zr_gR w2 zio_8 rfl ?_
    refine zr_a0 w2 zca_216 (fun v5 => ?_)
    exact zr_ok w2
def m_X8_groundLine (a1 : Int32) (M0 : zMem) : Option (Unit × zMem) :=
  mbd (m_X8_numeral 0 5 M0) (fun v2 M1 =>
  if (M1.1 213 27) = 0 then
  mbd (α := Unit) (
  if (M1.1 213 25) = 2 then
  if (M1.1 213 26) ≤ 3 then
  zob (mrd M1 216 ((24 + (6 * (M1.1 213 26))) + v2)) (fun v8 =>
  if v8 ≤ 0 then
  some ((), M1)
  else
  mbd (m_X8_wrong 3 M1) (fun v10 M9 =>
  some ((), M9)))
  else
  mbd (m_X8_wrong 2 M1) (fun v12 M11 =>
  some ((), M11))
  else
  mbd (m_X8_wrong 1 M1) (fun v14 M13 =>
  some ((), M13))) (fun e15 M16 =>
  if (M16.1 213 27) = 0 then
  zob (mwr M16 216 ((24 + (6 * (M16.1 213 26))) + v2) a1) (fun M20 =>
  mbd (m_X8_token  M20) (fun v22 M21 =>
  some ((), M21)))
  else
  some ((), M16))
  else
  some ((), M1))
set_option maxRecDepth 100000 in
set_option maxHeartbeats 4000000 in
theorem r_X8_groundLine {B n : Nat} {h0 : zHp} {M0 : zMem} (w0 : zW B n h0 M0) (a1 : Int32) : zRR B n (f_X8_groundLine (B + 213) a1 h0) (m_X8_groundLine a1 M0) := by
  unfold f_X8_groundLine m_X8_groundLine
  refine zr_cv w0 zio_8 (r_X8_numeral w0 0 5) (fun v2 h1 M1 w1 => ?_)
  refine zr_gI w1 zio_8 rfl ?_
  refine zr_if ?_ ?_
  · refine zr_gI w1 zio_8 rfl ?_
    refine zr_bd ?_ (fun e15 h16 M16 w16 => ?_)
    · refine zr_if ?_ ?_
      · refine zr_gI w1 zio_8 rfl ?_
        refine zr_if ?_ ?_
        · refine zr_gR w1 zio_8 rfl ?_
          refine zr_gI w1 zio_8 rfl ?_
          refine zr_a0 w1 zca_216 (fun v8 => ?_)
          refine zr_if ?_ ?_
          · exact zr_ok w1
          · refine zr_cv w1 zio_8 (r_X8_wrong w1 3) (fun v10 h9 M9 w9 => ?_)
            exact zr_ok w9
        · refine zr_cv w1 zio_8 (r_X8_wrong w1 2) (fun v12 h11 M11 w11 => ?_)
          exact zr_ok w11
      · refine zr_cv w1 zio_8 (r_X8_wrong w1 1) (fun v14 h13 M13 w13 => ?_)
        exact zr_ok w13
    · refine zr_gI w16 zio_8 rfl ?_
      refine zr_if ?_ ?_
      · refine zr_gR w16 zio_8 rfl ?_
        refine zr_gI w16 zio_8 rfl ?_
        refine zr_s0 w16 zca_216 (fun h20 M20 w20 => ?_)
        refine zr_cv w20 zio_8 (r_X8_token w20 ) (fun v22 h21 M21 w21 => ?_)
        exact zr_ok w21
      · exact zr_ok w16
  · exact zr_ok w1
def m_X8_half (a0 : Nat) (M0 : zMem) : Option (Unit × zMem) :=
  mbd (
  mlp (σ := Int32) (β := Int32) zLF (fun s2 M3 =>
  if ((Int32.ofNat (zds a0).2) / 2) ≤ s2 then
  some ((.inr s2), M3)
  else
  zob (mrd M3 a0 (((Int32.ofNat (zds a0).2) / 2) + s2)) (fun v6 =>
  zob (mwr M3 a0 s2 v6) (fun M7 =>
  some ((.inl (s2 + 1)), M7)))) 0 M0) (fun e4 M5 =>
  some ((), M5))
set_option maxRecDepth 100000 in
set_option maxHeartbeats 4000000 in
theorem r_X8_half {B n : Nat} {h0 : zHp} {M0 : zMem} (w0 : zW B n h0 M0) (a0 : Nat) {Np0 : Nat} (p0 : zIA 0 Np0 a0) : zRR B n (f_X8_half (B + a0) h0) (m_X8_half a0 M0) := by
  unfold f_X8_half m_X8_half
  refine zr_ln (by decide) w0 p0 ?_
  refine zr_bd (zr_lp (fun s2 h3 M3 w3 => ?_) 0 h0 M0 w0) (fun e4 h5 M5 w5 => ?_)
  · refine zr_if ?_ ?_
    · exact zr_ok w3
    · refine zr_a0 w3 p0 (fun v6 => ?_)
      refine zr_s0 w3 p0 (fun h7 M7 w7 => ?_)
      exact zr_ok w7
  · exact zr_ok w5
def m_X8_in (a1 : Int32) (a2 : Int32) (M0 : zMem) : Option (Int32 × zMem) :=
  mlt (mup M0 213 0 0) (fun M1 =>
  mbd (m_X8_isCell a1 a2 M1) (fun v3 M2 =>
  if v3 = 0 then
  some ((-1), M2)
  else
  mbd (m_X8_upIn 0 ((6 * a2) + a1) M2) (fun v5 M4 =>
  some (v5, M4))))
set_option maxRecDepth 100000 in
set_option maxHeartbeats 4000000 in
theorem r_X8_in {B n : Nat} {h0 : zHp} {M0 : zMem} (w0 : zW B n h0 M0) (a1 : Int32) (a2 : Int32) : zRR B n (f_X8_in (B + 213) a1 a2 h0) (m_X8_in a1 a2 M0) := by
  unfold f_X8_in m_X8_in
  refine zr_pV w0 zio_8 (Nat.le_of_ble_eq_true rfl) rfl (fun h1 M1 w1 => ?_)
  refine zr_bd (r_X8_isCell w1 a1 a2) (fun v3 h2 M2 w2 => ?_)
  refine zr_if ?_ ?_
  · exact zr_ok w2
  · refine zr_cv w2 zio_8 (r_X8_upIn w2 0 ((6 * a2) + a1)) (fun v5 h4 M4 w4 => ?_)
    exact zr_ok w4
def m_X8_isFull (a1 : Int32) (M0 : zMem) : Option (Int32 × zMem) :=
  if a1 = 2 then
  mbd (m_X8_fresher 0 M0) (fun v2 M1 =>
  if v2 = 5 then
  some (1, M1)
  else
  if a1 = 3 then
  mbd (m_X8_fresher 1 M1) (fun v4 M3 =>
  if v4 = 8 then
  some (1, M3)
  else
  if a1 = 4 then
  mbd (m_X8_fresher 2 M3) (fun v6 M5 =>
  if v6 = 6 then
  some (1, M5)
  else
  if a1 = 5 then
  mbd (m_X8_fresher 3 M5) (fun v8 M7 =>
  if v8 = 12 then
  some (1, M7)
  else
  some (0, M7))
  else
  some (0, M5))
  else
  if a1 = 5 then
  mbd (m_X8_fresher 3 M3) (fun v10 M9 =>
  if v10 = 12 then
  some (1, M9)
  else
  some (0, M9))
  else
  some (0, M3))
  else
  if a1 = 4 then
  mbd (m_X8_fresher 2 M1) (fun v12 M11 =>
  if v12 = 6 then
  some (1, M11)
  else
  if a1 = 5 then
  mbd (m_X8_fresher 3 M11) (fun v14 M13 =>
  if v14 = 12 then
  some (1, M13)
  else
  some (0, M13))
  else
  some (0, M11))
  else
  if a1 = 5 then
  mbd (m_X8_fresher 3 M1) (fun v16 M15 =>
  if v16 = 12 then
  some (1, M15)
  else
  some (0, M15))
  else
  some (0, M1))
  else
  if a1 = 3 then
  mbd (m_X8_fresher 1 M0) (fun v18 M17 =>
  if v18 = 8 then
  some (1, M17)
  else
  if a1 = 4 then
  mbd (m_X8_fresher 2 M17) (fun v20 M19 =>
  if v20 = 6 then
  some (1, M19)
  else
  if a1 = 5 then
  mbd (m_X8_fresher 3 M19) (fun v22 M21 =>
  if v22 = 12 then
  some (1, M21)
  else
  some (0, M21))
  else
  some (0, M19))
  else
  if a1 = 5 then
  mbd (m_X8_fresher 3 M17) (fun v24 M23 =>
  if v24 = 12 then
  some (1, M23)
  else
  some (0, M23))
  else
  some (0, M17))
  else
  if a1 = 4 then
  mbd (m_X8_fresher 2 M0) (fun v26 M25 =>
  if v26 = 6 then
  some (1, M25)
  else
  if a1 = 5 then
  mbd (m_X8_fresher 3 M25) (fun v28 M27 =>
  if v28 = 12 then
  some (1, M27)
  else
  some (0, M27))
  else
  some (0, M25))
  else
  if a1 = 5 then
  mbd (m_X8_fresher 3 M0) (fun v30 M29 =>
  if v30 = 12 then
  some (1, M29)
  else
  some (0, M29))
  else
  some (0, M0)
set_option maxRecDepth 100000 in
set_option maxHeartbeats 4000000 in
theorem r_X8_isFull {B n : Nat} {h0 : zHp} {M0 : zMem} (w0 : zW B n h0 M0) (a1 : Int32) : zRR B n (f_X8_isFull (B + 213) a1 h0) (m_X8_isFull a1 M0) := by
  unfold f_X8_isFull m_X8_isFull
  refine zr_if ?_ ?_
  · refine zr_cv w0 zio_8 (r_X8_fresher w0 0) (fun v2 h1 M1 w1 => ?_)
    refine zr_if ?_ ?_
    · exact zr_ok w1
    · refine zr_if ?_ ?_
      · refine zr_cv w1 zio_8 (r_X8_fresher w1 1) (fun v4 h3 M3 w3 => ?_)
        refine zr_if ?_ ?_
        · exact zr_ok w3
        · refine zr_if ?_ ?_
          · refine zr_cv w3 zio_8 (r_X8_fresher w3 2) (fun v6 h5 M5 w5 => ?_)
            refine zr_if ?_ ?_
            · exact zr_ok w5
            · refine zr_if ?_ ?_
              · refine zr_cv w5 zio_8 (r_X8_fresher w5 3) (fun v8 h7 M7 w7 => ?_)
                refine zr_if ?_ ?_
                · exact zr_ok w7
                · exact zr_ok w7
              · exact zr_ok w5
          · refine zr_if ?_ ?_
            · refine zr_cv w3 zio_8 (r_X8_fresher w3 3) (fun v10 h9 M9 w9 => ?_)
              refine zr_if ?_ ?_
              · exact zr_ok w9
              · exact zr_ok w9
            · exact zr_ok w3
      · refine zr_if ?_ ?_
        · refine zr_cv w1 zio_8 (r_X8_fresher w1 2) (fun v12 h11 M11 w11 => ?_)
          refine zr_if ?_ ?_
          · exact zr_ok w11
          · refine zr_if ?_ ?_
            · refine zr_cv w11 zio_8 (r_X8_fresher w11 3) (fun v14 h13 M13 w13 => ?_)
              refine zr_if ?_ ?_
              · exact zr_ok w13
              · exact zr_ok w13
            · exact zr_ok w11
        · refine zr_if ?_ ?_
          · refine zr_cv w1 zio_8 (r_X8_fresher w1 3) (fun v16 h15 M15 w15 => ?_)
            refine zr_if ?_ ?_
            · exact zr_ok w15
            · exact zr_ok w15
          · exact zr_ok w1
  · refine zr_if ?_ ?_
    · refine zr_cv w0 zio_8 (r_X8_fresher w0 1) (fun v18 h17 M17 w17 => ?_)
      refine zr_if ?_ ?_
      · exact zr_ok w17
      · refine zr_if ?_ ?_
        · refine zr_cv w17 zio_8 (r_X8_fresher w17 2) (fun v20 h19 M19 w19 => ?_)
          refine zr_if ?_ ?_
          · exact zr_ok w19
          · refine zr_if ?_ ?_
            · refine zr_cv w19 zio_8 (r_X8_fresher w19 3) (fun v22 h21 M21 w21 => ?_)
              refine zr_if ?_ ?_
              · exact zr_ok w21
              · exact zr_ok w21
            · exact zr_ok w19
        · refine zr_if ?_ ?_
          · refine zr_cv w17 zio_8 (r_X8_fresher w17 3) (fun v24 h23 M23 w23 => ?_)
            refine zr_if ?_ ?_
            · exact zr_ok w23
            · exact zr_ok w23
          · exact zr_ok w17
    · refine zr_if ?_ ?_
      · refine zr_cv w0 zio_8 (r_X8_fresher w0 2) (fun v26 h25 M25 w25 => ?_)
        refine zr_if ?_ ?_
        · exact zr_ok w25
        · refine zr_if ?_ ?_
          · refine zr_cv w25 zio_8 (r_X8_fresher w25 3) (fun v28 h27 M27 w27 => ?_)
            refine zr_if ?_ ?_
            · exact zr_ok w27
            · exact zr_ok w27
          · exact zr_ok w25
      · refine zr_if ?_ ?_
        · refine zr_cv w0 zio_8 (r_X8_fresher w0 3) (fun v30 h29 M29 w29 => ?_)
          refine zr_if ?_ ?_
          · exact zr_ok w29
          · exact zr_ok w29
        · exact zr_ok w0
def m_X8_isPlan (a1 : Int32) (a2 : Int32) (a3 : Int32) (M0 : zMem) : Option (Int32 × zMem) :=
  mbd (m_X8_isChild a1 M0) (fun v2 M1 =>
  if v2 = 0 then
  some (0, M1)
  else
  mbd (m_X8_isField a2 M1) (fun v4 M3 =>
  if v4 = 0 then
  some (0, M3)
  else
  if a3 < 1 then
  some (0, M3)
  else
  if 4 < a3 then
  some (0, M3)
  else
  some (1, M3)))
set_option maxRecDepth 100000 in
set_option maxHeartbeats 4000000 in
theorem r_X8_isPlan {B n : Nat} {h0 : zHp} {M0 : zMem} (w0 : zW B n h0 M0) (a1 : Int32) (a2 : Int32) (a3 : Int32) : zRR B n (f_X8_isPlan (B + 213) a1 a2 a3 h0) (m_X8_isPlan a1 a2 a3 M0) := by
  unfold f_X8_isPlan m_X8_isPlan
  refine zr_cv w0 zio_8 (r_X8_isChild w0 a1) (fun v2 h1 M1 w1 => ?_)
  refine zr_if ?_ ?_
  · exact zr_ok w1
  · refine zr_cv w1 zio_8 (r_X8_isField w1 a2) (fun v4 h3 M3 w3 => ?_)
    refine zr_if ?_ ?_
    · exact zr_ok w3
    · refine zr_if ?_ ?_
      · exact zr_ok w3
      · refine zr_if ?_ ?_
        · exact zr_ok w3
        · exact zr_ok w3
def m_X8_isRest (a1 : Int32) (M0 : zMem) : Option (Int32 × zMem) :=
  mbd (
  mlp (σ := Int32) (β := (Int32 ⊕ Int32)) zLF (fun s1 M2 =>
  if 5 ≤ s1 then
  some ((.inr (.inl s1)), M2)
  else
  zob (mrd M2 247 ((5 * s1) + (zrm a1 5))) (fun v6 =>
  zob (mrd M2 247 a1) (fun v8 =>
  if v8 < v6 then
  some ((.inr (.inr 0)), M2)
  else
  zob (mrd M2 248 (((a1 / 5) * 5) + s1)) (fun v10 =>
  zob (mrd M2 248 a1) (fun v12 =>
  if v10 ≤ v12 then
  some ((.inl (s1 + 1)), M2)
  else
  some ((.inr (.inr 0)), M2)))))) 0 M0) (fun b13 M4 => zsl b13 (fun e3 =>
  some (1, M4)) (fun r => some (r, M4)))
set_option maxRecDepth 100000 in
set_option maxHeartbeats 4000000 in
theorem r_X8_isRest {B n : Nat} {h0 : zHp} {M0 : zMem} (w0 : zW B n h0 M0) (a1 : Int32) : zRR B n (f_X8_isRest (B + 213) a1 h0) (m_X8_isRest a1 M0) := by
  unfold f_X8_isRest m_X8_isRest
  refine zr_bd (zr_lp (fun s1 h2 M2 w2 => ?_) 0 h0 M0 w0) (fun b13 h4 M4 w4 => zr_sl (fun e3 => ?_) (fun r => zr_ok w4))
  · refine zr_if ?_ ?_
    · exact zr_ok w2
    · refine zr_gR w2 zio_8 rfl ?_
      refine zr_a0 w2 zca_247 (fun v6 => ?_)
      refine zr_gR w2 zio_8 rfl ?_
      refine zr_a0 w2 zca_247 (fun v8 => ?_)
      refine zr_if ?_ ?_
      · exact zr_ok w2
      · refine zr_gR w2 zio_8 rfl ?_
        refine zr_a0 w2 zca_248 (fun v10 => ?_)
        refine zr_gR w2 zio_8 rfl ?_
        refine zr_a0 w2 zca_248 (fun v12 => ?_)
        refine zr_if ?_ ?_
        · exact zr_ok w2
        · exact zr_ok w2
  · exact zr_ok w4
def m_X8_keep  (M0 : zMem) : Option (Int32 × zMem) :=
  mlt (mup M0 213 0 0) (fun M1 =>
  mbd (m_X8_copies 2 0 M1) (fun v3 M2 =>
  mlt (mup M2 213 47 1) (fun M4 =>
  zob (mrd M4 234 0) (fun v6 =>
  some (v6, M4)))))
set_option maxRecDepth 100000 in
set_option maxHeartbeats 4000000 in
theorem r_X8_keep {B n : Nat} {h0 : zHp} {M0 : zMem} (w0 : zW B n h0 M0)  : zRR B n (f_X8_keep (B + 213) h0) (m_X8_keep  M0) := by
  unfold f_X8_keep m_X8_keep
  refine zr_pV w0 zio_8 (Nat.le_of_ble_eq_true rfl) rfl (fun h1 M1 w1 => ?_)
  refine zr_cv w1 zio_8 (r_X8_copies w1 2 0) (fun v3 h2 M2 w2 => ?_)
  refine zr_pV w2 zio_8 (Nat.le_of_ble_eq_true rfl) rfl (fun h4 M4 w4 => ?_)
  refine zr_gR w4 zio_8 rfl ?_
  refine zr_a0 w4 zca_234 (fun v6 => ?_)
  exact zr_ok w4
def m_X8_known (a1 : Int32) (M0 : zMem) : Option (Int32 × zMem) :=
  mlt (mup M0 213 0 0) (fun M1 =>
  if a1 < (-1) then
  some (0, M1)
  else
  if a1 ≤ (M1.1 213 61) then
  mlt (mup M1 213 62 a1) (fun M3 =>
  some (1, M3))
  else
  some (0, M1))
set_option maxRecDepth 100000 in
set_option maxHeartbeats 4000000 in
theorem r_X8_known {B n : Nat} {h0 : zHp} {M0 : zMem} (w0 : zW B n h0 M0) (a1 : Int32) : zRR B n (f_X8_known (B + 213) a1 h0) (m_X8_known a1 M0) := by
  unfold f_X8_known m_X8_known
  refine zr_pV w0 zio_8 (Nat.le_of_ble_eq_true rfl) rfl (fun h1 M1 w1 => ?_)
  refine zr_if ?_ ?_
  · exact zr_ok w1
  · refine zr_gI w1 zio_8 rfl ?_
    refine zr_if ?_ ?_
    · refine zr_pV w1 zio_8 (Nat.le_of_ble_eq_true rfl) rfl (fun h3 M3 w3 => ?_)
      exact zr_ok w3
    · exact zr_ok w1
def m_X8_lacks  (M0 : zMem) : Option (Int32 × zMem) :=
  mlt (mup M0 213 0 0) (fun M1 =>
  mbd (
  mlp (σ := (Int32 × Int32)) (β := (Int32 × Int32)) zLF (fun s2 M3 =>
  zob (mrd M3 215 0) (fun v7 =>
  if v7 ≤ s2.2 then
  some ((.inr (s2.1, s2.2)), M3)
  else
  zob (mrd M3 243 s2.2) (fun v9 =>
  zob (mrd M3 219 s2.2) (fun v11 =>
  if v11 ≤ v9 then
  some ((.inl ((s2.1 ||| 0), (s2.2 + 1))), M3)
  else
  some ((.inl ((s2.1 ||| (1 <<< (s2.2 &&& 31))), (s2.2 + 1))), M3))))) (0, 0) M1) (fun e4 M5 =>
  some (e4.1, M5)))
set_option maxRecDepth 100000 in
set_option maxHeartbeats 4000000 in
theorem r_X8_lacks {B n : Nat} {h0 : zHp} {M0 : zMem} (w0 : zW B n h0 M0)  : zRR B n (f_X8_lacks (B + 213) h0) (m_X8_lacks  M0) := by
  unfold f_X8_lacks m_X8_lacks
  refine zr_pV w0 zio_8 (Nat.le_of_ble_eq_true rfl) rfl (fun h1 M1 w1 => ?_)
  refine zr_bd (zr_lp (fun s2 h3 M3 w3 => ?_) (0, 0) h1 M1 w1) (fun e4 h5 M5 w5 => ?_)
  · refine zr_gR w3 zio_8 rfl ?_
    refine zr_a0 w3 zca_215 (fun v7 => ?_)
    refine zr_if ?_ ?_
    · exact zr_ok w3
    · refine zr_gR w3 zio_8 rfl ?_
      refine zr_a0 w3 zca_243 (fun v9 => ?_)
      refine zr_gR w3 zio_8 rfl ?_
      refine zr_a0 w3 zca_219 (fun v11 => ?_)
      refine zr_if ?_ ?_
      · exact zr_ok w3
      · exact zr_ok w3
  · exact zr_ok w5
def m_X8_law (a1 : Int32) (a2 : Int32) (M0 : zMem) : Option (Int64 × zMem) :=
  mlt (mup M0 213 0 0) (fun M1 =>
  if a1 < 0 then
  some ((-9223372036854775808), M1)
  else
  if 2 < a1 then
  some ((-9223372036854775808), M1)
  else
  mbd (m_X8_hasLaw a1 M1) (fun v3 M2 =>
  if v3 = 0 then
  some ((-9223372036854775808), M2)
  else
  mbd (m_X8_isCloud a2 M2) (fun v5 M4 =>
  if v5 = 0 then
  some ((-9223372036854775808), M4)
  else
  mbd (m_X8_isUp 0 a2 M4) (fun v7 M6 =>
  if v7 = 0 then
  some ((-9223372036854775808), M6)
  else
  mbd (m_X8_calls 0 a2 M6) (fun v9 M8 =>
  mbd (m_X8_goes a1 M8) (fun v11 M10 =>
  if v11 = 0 then
  some ((-9223372036854775808), M10)
  else
  zob (mrdL M10 233 0) (fun v13 =>
  some (v13, M10))))))))
set_option maxRecDepth 100000 in
set_option maxHeartbeats 4000000 in
theorem r_X8_law {B n : Nat} {h0 : zHp} {M0 : zMem} (w0 : zW B n h0 M0) (a1 : Int32) (a2 : Int32) : zRR B n (f_X8_law (B + 213) a1 a2 h0) (m_X8_law a1 a2 M0) := by
  unfold f_X8_law m_X8_law
  refine zr_pV w0 zio_8 (Nat.le_of_ble_eq_true rfl) rfl (fun h1 M1 w1 => ?_)
  refine zr_if ?_ ?_
  · exact zr_ok w1
  · refine zr_if ?_ ?_
    · exact zr_ok w1
    · refine zr_cv w1 zio_8 (r_X8_hasLaw w1 a1) (fun v3 h2 M2 w2 => ?_)
      refine zr_if ?_ ?_
      · exact zr_ok w2
      · refine zr_cv w2 zio_8 (r_X8_isCloud w2 a2) (fun v5 h4 M4 w4 => ?_)
        refine zr_if ?_ ?_
        · exact zr_ok w4
        · refine zr_cv w4 zio_8 (r_X8_isUp w4 0 a2) (fun v7 h6 M6 w6 => ?_)
          refine zr_if ?_ ?_
          · exact zr_ok w6
          · refine zr_cv w6 zio_8 (r_X8_calls w6 0 a2) (fun v9 h8 M8 w8 => ?_)
            refine zr_cv w8 zio_8 (r_X8_goes w8 a1) (fun v11 h10 M10 w10 => ?_)
            refine zr_if ?_ ?_
            · exact zr_ok w10
            · refine zr_gR w10 zio_8 rfl ?_
              refine zr_a3 w10 zca_233 (fun v13 => ?_)
              exact zr_ok w10
def mb_X8_expression (F : Nat → zMem → Option (Unit × zMem))  (M0 : zMem) : Option (Unit × zMem) :=
  mbd (F 1  M0) (fun v2 M1 =>
  mbd (
  mlp (σ := Unit) (β := Unit) zLF (fun s3 M4 =>
  mbd (m_X8_isWord 13 M4) (fun v8 M7 =>
  if v8 = 0 then
  some ((.inr ()), M7)
  else
  mbd (m_X8_knot  M7) (fun v10 M9 =>
  mbd (m_X8_goOn  M9) (fun v12 M11 =>
  mbd (F 1  M11) (fun v14 M13 =>
  mbd (m_X8_puts 2 262 M13) (fun v16 M15 =>
  some ((.inl ()), M15))))))) () M1) (fun e5 M6 =>
  some ((), M6)))
def mb_X8_conjunction (F : Nat → zMem → Option (Unit × zMem))  (M0 : zMem) : Option (Unit × zMem) :=
  mbd (F 2  M0) (fun v2 M1 =>
  mbd (
  mlp (σ := Unit) (β := Unit) zLF (fun s3 M4 =>
  mbd (m_X8_isWord 14 M4) (fun v8 M7 =>
  if v8 = 0 then
  some ((.inr ()), M7)
  else
  mbd (m_X8_knot  M7) (fun v10 M9 =>
  mbd (m_X8_goOn  M9) (fun v12 M11 =>
  mbd (F 2  M11) (fun v14 M13 =>
  mbd (m_X8_puts 2 261 M13) (fun v16 M15 =>
  some ((.inl ()), M15))))))) () M1) (fun e5 M6 =>
  some ((), M6)))
def mb_X8_negation (F : Nat → zMem → Option (Unit × zMem))  (M0 : zMem) : Option (Unit × zMem) :=
  mbd (m_X8_isWord 15 M0) (fun v2 M1 =>
  if v2 = 0 then
  mbd (F 3  M1) (fun v4 M3 =>
  if (M3.1 213 27) = 0 then
  if (M3.1 213 25) = 3 then
  mbd (α := (Unit ⊕ Unit)) (
  if (M3.1 213 26) = 60 then
  some ((.inl ()), M3)
  else
  if (M3.1 213 26) = 62 then
  some ((.inl ()), M3)
  else
  if (M3.1 213 26) = 61 then
  some ((.inl ()), M3)
  else
  if 256 ≤ (M3.1 213 26) then
  some ((.inl ()), M3)
  else
  some ((.inr ()), M3)) (fun b30 M12 => zsl b30 (fun e11 =>
  mbd (m_X8_knot  M12) (fun v15 M14 =>
  mbd (m_X8_goOn  M14) (fun v17 M16 =>
  mbd (F 3  M16) (fun v19 M18 =>
  mbd (m_X8_puts 2 (M12.1 213 26) M18) (fun v21 M20 =>
  some ((), M20)))))) (fun r => some (r, M12)))
  else
  some ((), M3)
  else
  some ((), M3))
  else
  mbd (m_X8_knot  M1) (fun v23 M22 =>
  mbd (m_X8_goOn  M22) (fun v25 M24 =>
  mbd (F 2  M24) (fun v27 M26 =>
  mbd (m_X8_puts 2 260 M26) (fun v29 M28 =>
  some ((), M28))))))
def mb_X8_sum (F : Nat → zMem → Option (Unit × zMem))  (M0 : zMem) : Option (Unit × zMem) :=
  mbd (F 4  M0) (fun v2 M1 =>
  mbd (
  mlp (σ := Unit) (β := Unit) zLF (fun s3 M4 =>
  mbd (m_X8_isSign 43 M4) (fun v8 M7 =>
  mbd (α := (Unit ⊕ (Unit ⊕ Unit))) (
  if v8 = 0 then
  mbd (m_X8_isSign 45 M7) (fun v10 M9 =>
  if v10 = 0 then
  some ((.inr (.inr ())), M9)
  else
  some ((.inl ()), M9))
  else
  some ((.inl ()), M7)) (fun b22 M12 => zsl b22 (fun e11 =>
  mbd (m_X8_knot  M12) (fun v15 M14 =>
  mbd (m_X8_goOn  M14) (fun v17 M16 =>
  mbd (F 4  M16) (fun v19 M18 =>
  mbd (m_X8_puts 2 (M12.1 213 26) M18) (fun v21 M20 =>
  some ((.inl ()), M20)))))) (fun r => some (r, M12))))) () M1) (fun e5 M6 =>
  some ((), M6)))
def mb_X8_product (F : Nat → zMem → Option (Unit × zMem))  (M0 : zMem) : Option (Unit × zMem) :=
  mbd (F 5  M0) (fun v2 M1 =>
  mbd (
  mlp (σ := Unit) (β := Unit) zLF (fun s3 M4 =>
  mbd (m_X8_isSign 42 M4) (fun v8 M7 =>
  mbd (α := (Unit ⊕ (Unit ⊕ Unit))) (
  if v8 = 0 then
  mbd (m_X8_isSign 47 M7) (fun v10 M9 =>
  if v10 = 0 then
  some ((.inr (.inr ())), M9)
  else
  some ((.inl ()), M9))
  else
  some ((.inl ()), M7)) (fun b22 M12 => zsl b22 (fun e11 =>
  mbd (m_X8_knot  M12) (fun v15 M14 =>
  mbd (m_X8_goOn  M14) (fun v17 M16 =>
  mbd (F 5  M16) (fun v19 M18 =>
  mbd (m_X8_puts 2 (M12.1 213 26) M18) (fun v21 M20 =>
  some ((.inl ()), M20)))))) (fun r => some (r, M12))))) () M1) (fun e5 M6 =>
  some ((), M6)))
def mb_X8_primary (F : Nat → zMem → Option (Unit × zMem))  (M0 : zMem) : Option (Unit × zMem) :=
  if (M0.1 213 27) = 0 then
  mbd (m_X8_isSign 40 M0) (fun v3 M2 =>
  if v3 = 0 then
  mbd (α := Int32) (
  if (M2.1 213 25) = 2 then
  some (1, M2)
  else
  some (0, M2)) (fun e5 M6 =>
  mbd (α := Unit) (
  if e5 = 0 then
  if e5 = 0 then
  mbd (α := (Unit ⊕ Unit)) (
  if (M6.1 213 25) = 0 then
  if 16 ≤ (M6.1 213 26) then
  some ((.inr ()), M6)
  else
  some ((.inl ()), M6)
  else
  some ((.inl ()), M6)) (fun b60 M10 => zsl b60 (fun e9 =>
  mbd (m_X8_wrong 1 M10) (fun v12 M11 =>
  some ((), M11))) (fun r => some (r, M10)))
  else
  some ((), M6)
  else
  if (M6.1 213 26) ≤ 9999 then
  if e5 = 0 then
  mbd (α := (Unit ⊕ Unit)) (
  if (M6.1 213 25) = 0 then
  if 16 ≤ (M6.1 213 26) then
  some ((.inr ()), M6)
  else
  some ((.inl ()), M6)
  else
  some ((.inl ()), M6)) (fun b61 M17 => zsl b61 (fun e16 =>
  mbd (m_X8_wrong 1 M17) (fun v19 M18 =>
  some ((), M18))) (fun r => some (r, M17)))
  else
  some ((), M6)
  else
  mbd (m_X8_wrong 2 M6) (fun v21 M20 =>
  some ((), M20))) (fun e22 M23 =>
  mbd (m_X8_knot  M23) (fun v25 M24 =>
  mbd (α := Int32) (
  if e5 = 0 then
  some (1, M24)
  else
  some (0, M24)) (fun e26 M27 =>
  mbd (α := Int32) (
  if e5 = 0 then
  some (((M27.1 213 26) - 16), M27)
  else
  some ((M27.1 213 26), M27)) (fun e30 M31 =>
  mbd (m_X8_puts e26 e30 M31) (fun v33 M32 =>
  mbd (m_X8_goOn  M32) (fun v35 M34 =>
  some ((), M34))))))))
  else
  mbd (α := Unit) (
  if (M2.1 213 31) = 8 then
  mbd (m_X8_wrong 2 M2) (fun v38 M37 =>
  some ((), M37))
  else
  some ((), M2)) (fun e39 M40 =>
  if (M40.1 213 27) = 0 then
  mlt (mup M40 213 31 ((M40.1 213 31) + 1)) (fun M43 =>
  mbd (m_X8_token  M43) (fun v45 M44 =>
  mbd (F 0  M44) (fun v47 M46 =>
  mbd (α := Unit) (
  if (M46.1 213 27) = 0 then
  mbd (m_X8_isSign 41 M46) (fun v50 M49 =>
  if v50 = 0 then
  mbd (m_X8_wrong 1 M49) (fun v52 M51 =>
  some ((), M51))
  else
  some ((), M49))
  else
  some ((), M46)) (fun e53 M54 =>
  if (M54.1 213 27) = 0 then
  mlt (mup M54 213 31 ((M54.1 213 31) - 1)) (fun M57 =>
  mbd (m_X8_token  M57) (fun v59 M58 =>
  some ((), M58)))
  else
  some ((), M54)))))
  else
  some ((), M40)))
  else
  some ((), M0)
def m_E : Nat → Nat → zMem → Option (Unit × zMem)
  | 0 => fun _ _ => none
  | n + 1 => fun k => match k with
    | 0 => mb_X8_expression (m_E n)
    | 1 => mb_X8_conjunction (m_E n)
    | 2 => mb_X8_negation (m_E n)
    | 3 => mb_X8_sum (m_E n)
    | 4 => mb_X8_product (m_E n)
    | _ => mb_X8_primary (m_E n)
set_option maxRecDepth 100000 in
set_option maxHeartbeats 4000000 in
theorem r_E : ∀ (fu : Nat) {B n : Nat} {h0 : zHp} {M0 : zMem} (w0 : zW B n h0 M0), (zRR B n (f_X8_expression fu (B + 213) h0) (m_E fu 0  M0)) ∧ (zRR B n (f_X8_conjunction fu (B + 213) h0) (m_E fu 1  M0)) ∧ (zRR B n (f_X8_negation fu (B + 213) h0) (m_E fu 2  M0)) ∧ (zRR B n (f_X8_sum fu (B + 213) h0) (m_E fu 3  M0)) ∧ (zRR B n (f_X8_product fu (B + 213) h0) (m_E fu 4  M0)) ∧ (zRR B n (f_X8_primary fu (B + 213) h0) (m_E fu 5  M0)) := by
  intro fu
  induction fu with
  | zero => intros; exact ⟨zr_none, zr_none, zr_none, zr_none, zr_none, zr_none⟩
  | succ fu ih =>
    intro B n h0 M0 w0
    refine ⟨?_, ?_, ?_, ?_, ?_, ?_⟩
    · show zRR B n (b_X8_expression (f_E fu) (B + 213) h0) (mb_X8_expression (m_E fu)  M0)
      unfold b_X8_expression mb_X8_expression
      refine zr_cv w0 zio_8 ((ih w0).2.1) (fun v2 h1 M1 w1 => ?_)
      refine zr_bd (zr_lp (fun s3 h4 M4 w4 => ?_) () h1 M1 w1) (fun e5 h6 M6 w6 => ?_)
      · refine zr_cv w4 zio_8 (r_X8_isWord w4 13) (fun v8 h7 M7 w7 => ?_)
        refine zr_if ?_ ?_
        · exact zr_ok w7
        · refine zr_cv w7 zio_8 (r_X8_knot w7 ) (fun v10 h9 M9 w9 => ?_)
          refine zr_cv w9 zio_8 (r_X8_goOn w9 ) (fun v12 h11 M11 w11 => ?_)
          refine zr_cv w11 zio_8 ((ih w11).2.1) (fun v14 h13 M13 w13 => ?_)
          refine zr_cv w13 zio_8 (r_X8_puts w13 2 262) (fun v16 h15 M15 w15 => ?_)
          exact zr_ok w15
      · exact zr_ok w6
    · show zRR B n (b_X8_conjunction (f_E fu) (B + 213) h0) (mb_X8_conjunction (m_E fu)  M0)
      unfold b_X8_conjunction mb_X8_conjunction
      refine zr_cv w0 zio_8 ((ih w0).2.2.1) (fun v2 h1 M1 w1 => ?_)
      refine zr_bd (zr_lp (fun s3 h4 M4 w4 => ?_) () h1 M1 w1) (fun e5 h6 M6 w6 => ?_)
      · refine zr_cv w4 zio_8 (r_X8_isWord w4 14) (fun v8 h7 M7 w7 => ?_)
        refine zr_if ?_ ?_
        · exact zr_ok w7
        · refine zr_cv w7 zio_8 (r_X8_knot w7 ) (fun v10 h9 M9 w9 => ?_)
          refine zr_cv w9 zio_8 (r_X8_goOn w9 ) (fun v12 h11 M11 w11 => ?_)
          refine zr_cv w11 zio_8 ((ih w11).2.2.1) (fun v14 h13 M13 w13 => ?_)
          refine zr_cv w13 zio_8 (r_X8_puts w13 2 261) (fun v16 h15 M15 w15 => ?_)
          exact zr_ok w15
      · exact zr_ok w6
    · show zRR B n (b_X8_negation (f_E fu) (B + 213) h0) (mb_X8_negation (m_E fu)  M0)
      unfold b_X8_negation mb_X8_negation
      refine zr_cv w0 zio_8 (r_X8_isWord w0 15) (fun v2 h1 M1 w1 => ?_)
      refine zr_if ?_ ?_
      · refine zr_cv w1 zio_8 ((ih w1).2.2.2.1) (fun v4 h3 M3 w3 => ?_)
        refine zr_gI w3 zio_8 rfl ?_
        refine zr_if ?_ ?_
        · refine zr_gI w3 zio_8 rfl ?_
          refine zr_if ?_ ?_
          · refine zr_gI w3 zio_8 rfl ?_
            refine zr_bd ?_ (fun b30 h12 M12 w12 => zr_sl (fun e11 => ?_) (fun r => zr_ok w12))
            · refine zr_if ?_ ?_
              · exact zr_ok w3
              · refine zr_gI w3 zio_8 rfl ?_
                refine zr_if ?_ ?_
                · exact zr_ok w3
                · refine zr_gI w3 zio_8 rfl ?_
                  refine zr_if ?_ ?_
                  · exact zr_ok w3
                  · refine zr_gI w3 zio_8 rfl ?_
                    refine zr_if ?_ ?_
                    · exact zr_ok w3
                    · exact zr_ok w3
            · refine zr_gI w12 zio_8 rfl ?_
              refine zr_cv w12 zio_8 (r_X8_knot w12 ) (fun v15 h14 M14 w14 => ?_)
              refine zr_cv w14 zio_8 (r_X8_goOn w14 ) (fun v17 h16 M16 w16 => ?_)
              refine zr_cv w16 zio_8 ((ih w16).2.2.2.1) (fun v19 h18 M18 w18 => ?_)
              refine zr_cv w18 zio_8 (r_X8_puts w18 2 (M12.1 213 26)) (fun v21 h20 M20 w20 => ?_)
              exact zr_ok w20
          · exact zr_ok w3
        · exact zr_ok w3
      · refine zr_cv w1 zio_8 (r_X8_knot w1 ) (fun v23 h22 M22 w22 => ?_)
        refine zr_cv w22 zio_8 (r_X8_goOn w22 ) (fun v25 h24 M24 w24 => ?_)
        refine zr_cv w24 zio_8 ((ih w24).2.2.1) (fun v27 h26 M26 w26 => ?_)
        refine zr_cv w26 zio_8 (r_X8_puts w26 2 260) (fun v29 h28 M28 w28 => ?_)
        exact zr_ok w28
    · show zRR B n (b_X8_sum (f_E fu) (B + 213) h0) (mb_X8_sum (m_E fu)  M0)
      unfold b_X8_sum mb_X8_sum
      refine zr_cv w0 zio_8 ((ih w0).2.2.2.2.1) (fun v2 h1 M1 w1 => ?_)
      refine zr_bd (zr_lp (fun s3 h4 M4 w4 => ?_) () h1 M1 w1) (fun e5 h6 M6 w6 => ?_)
      · refine zr_cv w4 zio_8 (r_X8_isSign w4 43) (fun v8 h7 M7 w7 => ?_)
        refine zr_bd ?_ (fun b22 h12 M12 w12 => zr_sl (fun e11 => ?_) (fun r => zr_ok w12))
        · refine zr_if ?_ ?_
          · refine zr_cv w7 zio_8 (r_X8_isSign w7 45) (fun v10 h9 M9 w9 => ?_)
            refine zr_if ?_ ?_
            · exact zr_ok w9
            · exact zr_ok w9
          · exact zr_ok w7
        · refine zr_gI w12 zio_8 rfl ?_
          refine zr_cv w12 zio_8 (r_X8_knot w12 ) (fun v15 h14 M14 w14 => ?_)
          refine zr_cv w14 zio_8 (r_X8_goOn w14 ) (fun v17 h16 M16 w16 => ?_)
          refine zr_cv w16 zio_8 ((ih w16).2.2.2.2.1) (fun v19 h18 M18 w18 => ?_)
          refine zr_cv w18 zio_8 (r_X8_puts w18 2 (M12.1 213 26)) (fun v21 h20 M20 w20 => ?_)
          exact zr_ok w20
      · exact zr_ok w6
    · show zRR B n (b_X8_product (f_E fu) (B + 213) h0) (mb_X8_product (m_E fu)  M0)
      unfold b_X8_product mb_X8_product
      refine zr_cv w0 zio_8 ((ih w0).2.2.2.2.2) (fun v2 h1 M1 w1 => ?_)
      refine zr_bd (zr_lp (fun s3 h4 M4 w4 => ?_) () h1 M1 w1) (fun e5 h6 M6 w6 => ?_)
      · refine zr_cv w4 zio_8 (r_X8_isSign w4 42) (fun v8 h7 M7 w7 => ?_)
        refine zr_bd ?_ (fun b22 h12 M12 w12 => zr_sl (fun e11 => ?_) (fun r => zr_ok w12))
        · refine zr_if ?_ ?_
          · refine zr_cv w7 zio_8 (r_X8_isSign w7 47) (fun v10 h9 M9 w9 => ?_)
            refine zr_if ?_ ?_
            · exact zr_ok w9
            · exact zr_ok w9
          · exact zr_ok w7
        · refine zr_gI w12 zio_8 rfl ?_
          refine zr_cv w12 zio_8 (r_X8_knot w12 ) (fun v15 h14 M14 w14 => ?_)
          refine zr_cv w14 zio_8 (r_X8_goOn w14 ) (fun v17 h16 M16 w16 => ?_)
          refine zr_cv w16 zio_8 ((ih w16).2.2.2.2.2) (fun v19 h18 M18 w18 => ?_)
          refine zr_cv w18 zio_8 (r_X8_puts w18 2 (M12.1 213 26)) (fun v21 h20 M20 w20 => ?_)
          exact zr_ok w20
      · exact zr_ok w6
    · show zRR B n (b_X8_primary (f_E fu) (B + 213) h0) (mb_X8_primary (m_E fu)  M0)
      unfold b_X8_primary mb_X8_primary
      refine zr_gI w0 zio_8 rfl ?_
      refine zr_if ?_ ?_
      · refine zr_cv w0 zio_8 (r_X8_isSign w0 40) (fun v3 h2 M2 w2 => ?_)
        refine zr_if ?_ ?_
        · refine zr_gI w2 zio_8 rfl ?_
          refine zr_bd ?_ (fun e5 h6 M6 w6 => ?_)
          · refine zr_if ?_ ?_
            · exact zr_ok w2
            · exact zr_ok w2
          · refine zr_bd ?_ (fun e22 h23 M23 w23 => ?_)
            · refine zr_if ?_ ?_
              · refine zr_if ?_ ?_
                · refine zr_gI w6 zio_8 rfl ?_
                  refine zr_bd ?_ (fun b60 h10 M10 w10 => zr_sl (fun e9 => ?_) (fun r => zr_ok w10))
                  · refine zr_if ?_ ?_
                    · refine zr_gI w6 zio_8 rfl ?_
                      refine zr_if ?_ ?_
                      · exact zr_ok w6
                      · exact zr_ok w6
                    · exact zr_ok w6
                  · refine zr_cv w10 zio_8 (r_X8_wrong w10 1) (fun v12 h11 M11 w11 => ?_)
                    exact zr_ok w11
                · exact zr_ok w6
              · refine zr_gI w6 zio_8 rfl ?_
                refine zr_if ?_ ?_
                · refine zr_if ?_ ?_
                  · refine zr_gI w6 zio_8 rfl ?_
                    refine zr_bd ?_ (fun b61 h17 M17 w17 => zr_sl (fun e16 => ?_) (fun r => zr_ok w17))
                    · refine zr_if ?_ ?_
                      · refine zr_gI w6 zio_8 rfl ?_
                        refine zr_if ?_ ?_
                        · exact zr_ok w6
                        · exact zr_ok w6
                      · exact zr_ok w6
                    · refine zr_cv w17 zio_8 (r_X8_wrong w17 1) (fun v19 h18 M18 w18 => ?_)
                      exact zr_ok w18
                  · exact zr_ok w6
                · refine zr_cv w6 zio_8 (r_X8_wrong w6 2) (fun v21 h20 M20 w20 => ?_)
                  exact zr_ok w20
            · refine zr_cv w23 zio_8 (r_X8_knot w23 ) (fun v25 h24 M24 w24 => ?_)
              refine zr_bd ?_ (fun e26 h27 M27 w27 => ?_)
              · refine zr_if ?_ ?_
                · exact zr_ok w24
                · exact zr_ok w24
              · refine zr_bd ?_ (fun e30 h31 M31 w31 => ?_)
                · refine zr_if ?_ ?_
                  · refine zr_gI w27 zio_8 rfl ?_
                    exact zr_ok w27
                  · refine zr_gI w27 zio_8 rfl ?_
                    exact zr_ok w27
                · refine zr_cv w31 zio_8 (r_X8_puts w31 e26 e30) (fun v33 h32 M32 w32 => ?_)
                  refine zr_cv w32 zio_8 (r_X8_goOn w32 ) (fun v35 h34 M34 w34 => ?_)
                  exact zr_ok w34
        · refine zr_gI w2 zio_8 rfl ?_
          refine zr_bd ?_ (fun e39 h40 M40 w40 => ?_)
          · refine zr_if ?_ ?_
            · refine zr_cv w2 zio_8 (r_X8_wrong w2 2) (fun v38 h37 M37 w37 => ?_)
              exact zr_ok w37
            · exact zr_ok w2
          · refine zr_gI w40 zio_8 rfl ?_
            refine zr_if ?_ ?_
            · refine zr_gI w40 zio_8 rfl ?_
              refine zr_pV w40 zio_8 (Nat.le_of_ble_eq_true rfl) rfl (fun h43 M43 w43 => ?_)
              refine zr_cv w43 zio_8 (r_X8_token w43 ) (fun v45 h44 M44 w44 => ?_)
              refine zr_cv w44 zio_8 ((ih w44).1) (fun v47 h46 M46 w46 => ?_)
              refine zr_gI w46 zio_8 rfl ?_
              refine zr_bd ?_ (fun e53 h54 M54 w54 => ?_)
              · refine zr_if ?_ ?_
                · refine zr_cv w46 zio_8 (r_X8_isSign w46 41) (fun v50 h49 M49 w49 => ?_)
                  refine zr_if ?_ ?_
                  · refine zr_cv w49 zio_8 (r_X8_wrong w49 1) (fun v52 h51 M51 w51 => ?_)
                    exact zr_ok w51
                  · exact zr_ok w49
                · exact zr_ok w46
              · refine zr_gI w54 zio_8 rfl ?_
                refine zr_if ?_ ?_
                · refine zr_gI w54 zio_8 rfl ?_
                  refine zr_pV w54 zio_8 (Nat.le_of_ble_eq_true rfl) rfl (fun h57 M57 w57 => ?_)
                  refine zr_cv w57 zio_8 (r_X8_token w57 ) (fun v59 h58 M58 w58 => ?_)
                  exact zr_ok w58
                · exact zr_ok w54
            · exact zr_ok w40
      · exact zr_ok w0
theorem r_X8_expression (fu : Nat) {B n : Nat} {h0 : zHp} {M0 : zMem} (w0 : zW B n h0 M0) : zRR B n (f_X8_expression fu (B + 213) h0) (m_E fu 0  M0) := (r_E fu w0).1
abbrev m_X8_expression (n : Nat) := m_E n 0
theorem r_X8_conjunction (fu : Nat) {B n : Nat} {h0 : zHp} {M0 : zMem} (w0 : zW B n h0 M0) : zRR B n (f_X8_conjunction fu (B + 213) h0) (m_E fu 1  M0) := (r_E fu w0).2.1
abbrev m_X8_conjunction (n : Nat) := m_E n 1
theorem r_X8_negation (fu : Nat) {B n : Nat} {h0 : zHp} {M0 : zMem} (w0 : zW B n h0 M0) : zRR B n (f_X8_negation fu (B + 213) h0) (m_E fu 2  M0) := (r_E fu w0).2.2.1
abbrev m_X8_negation (n : Nat) := m_E n 2
theorem r_X8_sum (fu : Nat) {B n : Nat} {h0 : zHp} {M0 : zMem} (w0 : zW B n h0 M0) : zRR B n (f_X8_sum fu (B + 213) h0) (m_E fu 3  M0) := (r_E fu w0).2.2.2.1
abbrev m_X8_sum (n : Nat) := m_E n 3
theorem r_X8_product (fu : Nat) {B n : Nat} {h0 : zHp} {M0 : zMem} (w0 : zW B n h0 M0) : zRR B n (f_X8_product fu (B + 213) h0) (m_E fu 4  M0) := (r_E fu w0).2.2.2.2.1
abbrev m_X8_product (n : Nat) := m_E n 4
theorem r_X8_primary (fu : Nat) {B n : Nat} {h0 : zHp} {M0 : zMem} (w0 : zW B n h0 M0) : zRR B n (f_X8_primary fu (B + 213) h0) (m_E fu 5  M0) := (r_E fu w0).2.2.2.2.2
abbrev m_X8_primary (n : Nat) := m_E n 5
def m_X8_lawLine  (M0 : zMem) : Option (Unit × zMem) :=
  mbd (α := Unit) (
  if (M0.1 213 25) = 0 then
  mbd (α := (Unit ⊕ Unit)) (
  if (M0.1 213 26) < 10 then
  some ((.inl ()), M0)
  else
  if (M0.1 213 26) ≤ 12 then
  some ((.inr ()), M0)
  else
  some ((.inl ()), M0)) (fun b34 M5 => zsl b34 (fun e4 =>
  mbd (m_X8_wrong 1 M5) (fun v7 M6 =>
  some ((), M6))) (fun r => some (r, M5)))
  else
  mbd (m_X8_wrong 1 M0) (fun v9 M8 =>
  some ((), M8))) (fun e10 M11 =>
  mbd (α := Unit) (
  if (M11.1 213 27) = 0 then
  if (((M11.1 213 20) >>> ((16 + ((M11.1 213 26) - 10)) &&& 31)) &&& 1) = 1 then
  mbd (m_X8_wrong 3 M11) (fun v16 M15 =>
  some ((), M15))
  else
  some ((), M11)
  else
  some ((), M11)) (fun e17 M18 =>
  if (M18.1 213 27) = 0 then
  mlt (mup M18 213 20 ((M18.1 213 20) ||| (1 <<< ((16 + ((M11.1 213 26) - 10)) &&& 31)))) (fun M21 =>
  mbd (m_X8_token  M21) (fun v23 M22 =>
  mbd (m_X8_fresher 7 M22) (fun v26 M25 =>
  zob (mwr M25 228 (3 + ((M11.1 213 26) - 10)) v26) (fun M27 =>
  mbd (m_X8_expression 200  M27) (fun v29 M28 =>
  mbd (m_X8_fresher 7 M28) (fun v32 M31 =>
  zob (mwr M31 229 (3 + ((M11.1 213 26) - 10)) v32) (fun M33 =>
  some ((), M33))))))))
  else
  some ((), M18)))
set_option maxRecDepth 100000 in
set_option maxHeartbeats 4000000 in
theorem r_X8_lawLine {B n : Nat} {h0 : zHp} {M0 : zMem} (w0 : zW B n h0 M0)  : zRR B n (f_X8_lawLine (B + 213) h0) (m_X8_lawLine  M0) := by
  unfold f_X8_lawLine m_X8_lawLine
  refine zr_gI w0 zio_8 rfl ?_
  refine zr_bd ?_ (fun e10 h11 M11 w11 => ?_)
  · refine zr_if ?_ ?_
    · refine zr_gI w0 zio_8 rfl ?_
      refine zr_bd ?_ (fun b34 h5 M5 w5 => zr_sl (fun e4 => ?_) (fun r => zr_ok w5))
      · refine zr_if ?_ ?_
        · exact zr_ok w0
        · refine zr_gI w0 zio_8 rfl ?_
          refine zr_if ?_ ?_
          · exact zr_ok w0
          · exact zr_ok w0
      · refine zr_cv w5 zio_8 (r_X8_wrong w5 1) (fun v7 h6 M6 w6 => ?_)
        exact zr_ok w6
    · refine zr_cv w0 zio_8 (r_X8_wrong w0 1) (fun v9 h8 M8 w8 => ?_)
      exact zr_ok w8
  · refine zr_gI w11 zio_8 rfl ?_
    refine zr_gI w11 zio_8 rfl ?_
    refine zr_bd ?_ (fun e17 h18 M18 w18 => ?_)
    · refine zr_if ?_ ?_
      · refine zr_gI w11 zio_8 rfl ?_
        refine zr_if ?_ ?_
        · refine zr_cv w11 zio_8 (r_X8_wrong w11 3) (fun v16 h15 M15 w15 => ?_)
          exact zr_ok w15
        · exact zr_ok w11
      · exact zr_ok w11
    · refine zr_gI w18 zio_8 rfl ?_
      refine zr_if ?_ ?_
      · refine zr_gI w18 zio_8 rfl ?_
        refine zr_pV w18 zio_8 (Nat.le_of_ble_eq_true rfl) rfl (fun h21 M21 w21 => ?_)
        refine zr_cv w21 zio_8 (r_X8_token w21 ) (fun v23 h22 M22 w22 => ?_)
        refine zr_gR w22 zio_8 rfl ?_
        refine zr_cv w22 zio_8 (r_X8_fresher w22 7) (fun v26 h25 M25 w25 => ?_)
        refine zr_s0 w25 zca_228 (fun h27 M27 w27 => ?_)
        refine zr_cv w27 zio_8 (r_X8_expression 200 w27 ) (fun v29 h28 M28 w28 => ?_)
        refine zr_gR w28 zio_8 rfl ?_
        refine zr_cv w28 zio_8 (r_X8_fresher w28 7) (fun v32 h31 M31 w31 => ?_)
        refine zr_s0 w31 zca_229 (fun h33 M33 w33 => ?_)
        exact zr_ok w33
      · exact zr_ok w18
def m_X8_ownSeen (a1 : Int32) (a2 : Int32) (M0 : zMem) : Option (Int32 × zMem) :=
  mbd (
  mlp (σ := Int32) (β := (Int32 ⊕ Int32)) zLF (fun s1 M2 =>
  zob (mrd M2 215 1) (fun v6 =>
  if v6 ≤ s1 then
  some ((.inr (.inl s1)), M2)
  else
  mbd (m_X8_isUp a1 s1 M2) (fun v8 M7 =>
  if v8 = 0 then
  some ((.inl (s1 + 1)), M7)
  else
  zob (mrd M7 239 ((8 * a1) + s1)) (fun v10 =>
  if v10 = a2 then
  zob (mrd M7 236 ((8 * a1) + s1)) (fun v12 =>
  mbd (m_X8_doesSee a1 a2 v12 M7) (fun v14 M13 =>
  if v14 = 0 then
  some ((.inl (s1 + 1)), M13)
  else
  some ((.inr (.inr s1)), M13)))
  else
  some ((.inl (s1 + 1)), M7))))) 0 M0) (fun b15 M4 => zsl b15 (fun e3 =>
  some ((-1), M4)) (fun r => some (r, M4)))
set_option maxRecDepth 100000 in
set_option maxHeartbeats 4000000 in
theorem r_X8_ownSeen {B n : Nat} {h0 : zHp} {M0 : zMem} (w0 : zW B n h0 M0) (a1 : Int32) (a2 : Int32) : zRR B n (f_X8_ownSeen (B + 213) a1 a2 h0) (m_X8_ownSeen a1 a2 M0) := by
  unfold f_X8_ownSeen m_X8_ownSeen
  refine zr_bd (zr_lp (fun s1 h2 M2 w2 => ?_) 0 h0 M0 w0) (fun b15 h4 M4 w4 => zr_sl (fun e3 => ?_) (fun r => zr_ok w4))
  · refine zr_gR w2 zio_8 rfl ?_
    refine zr_a0 w2 zca_215 (fun v6 => ?_)
    refine zr_if ?_ ?_
    · exact zr_ok w2
    · refine zr_cv w2 zio_8 (r_X8_isUp w2 a1 s1) (fun v8 h7 M7 w7 => ?_)
      refine zr_if ?_ ?_
      · exact zr_ok w7
      · refine zr_gR w7 zio_8 rfl ?_
        refine zr_a0 w7 zca_239 (fun v10 => ?_)
        refine zr_if ?_ ?_
        · refine zr_gR w7 zio_8 rfl ?_
          refine zr_a0 w7 zca_236 (fun v12 => ?_)
          refine zr_cv w7 zio_8 (r_X8_doesSee w7 a1 a2 v12) (fun v14 h13 M13 w13 => ?_)
          refine zr_if ?_ ?_
          · exact zr_ok w13
          · exact zr_ok w13
        · exact zr_ok w7
  · exact zr_ok w4
def m_X8_pushes (a1 : Int32) (a2 : Int32) (a3 : Int32) (M0 : zMem) : Option (Unit × zMem) :=
  mbd (m_X8_ownSeen a1 a2 M0) (fun v2 M1 =>
  if v2 = (-1) then
  some ((), M1)
  else
  if a3 ≤ 0 then
  some ((), M1)
  else
  mbd (m_X8_drifts a1 v2 a3 M1) (fun v4 M3 =>
  some ((), M3)))
set_option maxRecDepth 100000 in
set_option maxHeartbeats 4000000 in
theorem r_X8_pushes {B n : Nat} {h0 : zHp} {M0 : zMem} (w0 : zW B n h0 M0) (a1 : Int32) (a2 : Int32) (a3 : Int32) : zRR B n (f_X8_pushes (B + 213) a1 a2 a3 h0) (m_X8_pushes a1 a2 a3 M0) := by
  unfold f_X8_pushes m_X8_pushes
  refine zr_cv w0 zio_8 (r_X8_ownSeen w0 a1 a2) (fun v2 h1 M1 w1 => ?_)
  refine zr_if ?_ ?_
  · exact zr_ok w1
  · refine zr_if ?_ ?_
    · exact zr_ok w1
    · refine zr_cv w1 zio_8 (r_X8_drifts w1 a1 v2 a3) (fun v4 h3 M3 w3 => ?_)
      exact zr_ok w3
def m_X8_layBoth (a1 : Int32) (a2 : Int32) (M0 : zMem) : Option (Unit × zMem) :=
  mbd (
  mlp (σ := Int32) (β := Int32) zLF (fun s1 M2 =>
  if 25 ≤ s1 then
  some ((.inr s1), M2)
  else
  mbd (m_X8_copies 1 0 M2) (fun v6 M5 =>
  mbd (m_X8_pushes 1 a1 (s1 / 5) M5) (fun v8 M7 =>
  mbd (m_X8_pushes 1 a2 (zrm s1 5) M7) (fun v10 M9 =>
  mbd (m_X8_passes 1 M9) (fun v12 M11 =>
  mbd (m_X8_rainBy 1 a1 M11) (fun v15 M14 =>
  mbd (m_X8_rainBy 0 a1 M14) (fun v17 M16 =>
  zob (mwr M16 247 s1 (v15 - v17)) (fun M18 =>
  mbd (m_X8_rainBy 1 a2 M18) (fun v21 M20 =>
  mbd (m_X8_rainBy 0 a2 M20) (fun v23 M22 =>
  zob (mwr M22 248 s1 (v21 - v23)) (fun M24 =>
  some ((.inl (s1 + 1)), M24)))))))))))) 0 M0) (fun e3 M4 =>
  some ((), M4))
set_option maxRecDepth 100000 in
set_option maxHeartbeats 4000000 in
theorem r_X8_layBoth {B n : Nat} {h0 : zHp} {M0 : zMem} (w0 : zW B n h0 M0) (a1 : Int32) (a2 : Int32) : zRR B n (f_X8_layBoth (B + 213) a1 a2 h0) (m_X8_layBoth a1 a2 M0) := by
  unfold f_X8_layBoth m_X8_layBoth
  refine zr_bd (zr_lp (fun s1 h2 M2 w2 => ?_) 0 h0 M0 w0) (fun e3 h4 M4 w4 => ?_)
  · refine zr_if ?_ ?_
    · exact zr_ok w2
    · refine zr_cv w2 zio_8 (r_X8_copies w2 1 0) (fun v6 h5 M5 w5 => ?_)
      refine zr_cv w5 zio_8 (r_X8_pushes w5 1 a1 (s1 / 5)) (fun v8 h7 M7 w7 => ?_)
      refine zr_cv w7 zio_8 (r_X8_pushes w7 1 a2 (zrm s1 5)) (fun v10 h9 M9 w9 => ?_)
      refine zr_cv w9 zio_8 (r_X8_passes w9 1) (fun v12 h11 M11 w11 => ?_)
      refine zr_gR w11 zio_8 rfl ?_
      refine zr_cv w11 zio_8 (r_X8_rainBy w11 1 a1) (fun v15 h14 M14 w14 => ?_)
      refine zr_cv w14 zio_8 (r_X8_rainBy w14 0 a1) (fun v17 h16 M16 w16 => ?_)
      refine zr_s0 w16 zca_247 (fun h18 M18 w18 => ?_)
      refine zr_gR w18 zio_8 rfl ?_
      refine zr_cv w18 zio_8 (r_X8_rainBy w18 1 a2) (fun v21 h20 M20 w20 => ?_)
      refine zr_cv w20 zio_8 (r_X8_rainBy w20 0 a2) (fun v23 h22 M22 w22 => ?_)
      refine zr_s0 w22 zca_248 (fun h24 M24 w24 => ?_)
      exact zr_ok w24
  · exact zr_ok w4
def m_X8_layPlan (a1 : Int32) (a2 : Int32) (a3 : Int32) (M0 : zMem) : Option (Unit × zMem) :=
  mlt (mup M0 213 57 (-1)) (fun M1 =>
  mbd (
  mlp (σ := Int32) (β := Int32) zLF (fun s2 M3 =>
  mbd (m_X8_fives a3 M3) (fun v7 M6 =>
  if v7 ≤ s2 then
  some ((.inr s2), M6)
  else
  mbd (m_X8_copies 1 0 M6) (fun v9 M8 =>
  mbd (m_X8_fives a3 M8) (fun v11 M10 =>
  mbd (
  mlp (σ := (Int32 × Int32)) (β := (Int32 × Int32)) zLF (fun s12 M13 =>
  if a3 ≤ s12.2 then
  some ((.inr (s12.1, s12.2)), M13)
  else
  zob (zdv s2 (s12.1 / 5)) (fun v16 =>
  mbd (m_X8_pushes 1 a1 (zrm v16 5) M13) (fun v18 M17 =>
  mbd (m_X8_passes 1 M17) (fun v20 M19 =>
  some ((.inl ((s12.1 / 5), (s12.2 + 1))), M19))))) (v11, 0) M10) (fun e14 M15 =>
  zob (mrd M15 243 (5 + a2)) (fun v22 =>
  zob (mrd M15 243 a2) (fun v24 =>
  if (M15.1 213 57) < (v22 - v24) then
  mlt (mup M15 213 57 (v22 - v24)) (fun M26 =>
  mlt (mup M26 213 58 s2) (fun M27 =>
  some ((.inl (s2 + 1)), M27)))
  else
  some ((.inl (s2 + 1)), M15)))))))) 0 M1) (fun e4 M5 =>
  some ((), M5)))
set_option maxRecDepth 100000 in
set_option maxHeartbeats 4000000 in
theorem r_X8_layPlan {B n : Nat} {h0 : zHp} {M0 : zMem} (w0 : zW B n h0 M0) (a1 : Int32) (a2 : Int32) (a3 : Int32) : zRR B n (f_X8_layPlan (B + 213) a1 a2 a3 h0) (m_X8_layPlan a1 a2 a3 M0) := by
  unfold f_X8_layPlan m_X8_layPlan
  refine zr_pV w0 zio_8 (Nat.le_of_ble_eq_true rfl) rfl (fun h1 M1 w1 => ?_)
  refine zr_bd (zr_lp (fun s2 h3 M3 w3 => ?_) 0 h1 M1 w1) (fun e4 h5 M5 w5 => ?_)
  · refine zr_bd (r_X8_fives w3 a3) (fun v7 h6 M6 w6 => ?_)
    refine zr_if ?_ ?_
    · exact zr_ok w6
    · refine zr_cv w6 zio_8 (r_X8_copies w6 1 0) (fun v9 h8 M8 w8 => ?_)
      refine zr_bd (r_X8_fives w8 a3) (fun v11 h10 M10 w10 => ?_)
      refine zr_bd (zr_lp (fun s12 h13 M13 w13 => ?_) (v11, 0) h10 M10 w10) (fun e14 h15 M15 w15 => ?_)
      · refine zr_if ?_ ?_
        · exact zr_ok w13
        · refine zr_obp (fun v16 => ?_)
          refine zr_cv w13 zio_8 (r_X8_pushes w13 1 a1 (zrm v16 5)) (fun v18 h17 M17 w17 => ?_)
          refine zr_cv w17 zio_8 (r_X8_passes w17 1) (fun v20 h19 M19 w19 => ?_)
          exact zr_ok w19
      · refine zr_gR w15 zio_8 rfl ?_
        refine zr_a0 w15 zca_243 (fun v22 => ?_)
        refine zr_gR w15 zio_8 rfl ?_
        refine zr_a0 w15 zca_243 (fun v24 => ?_)
        refine zr_gI w15 zio_8 rfl ?_
        refine zr_if ?_ ?_
        · refine zr_pV w15 zio_8 (Nat.le_of_ble_eq_true rfl) rfl (fun h26 M26 w26 => ?_)
          refine zr_pV w26 zio_8 (Nat.le_of_ble_eq_true rfl) rfl (fun h27 M27 w27 => ?_)
          exact zr_ok w27
        · exact zr_ok w15
  · exact zr_ok w5
def m_X8_likely (a1 : Int32) (a2 : Int32) (a3 : Int32) (M0 : zMem) : Option (Int32 × zMem) :=
  mlt (mup M0 213 0 0) (fun M1 =>
  mbd (m_X8_isField a1 M1) (fun v3 M2 =>
  if v3 = 0 then
  some ((-1), M2)
  else
  if a2 < 1 then
  some ((-1), M2)
  else
  if 5 < a2 then
  some ((-1), M2)
  else
  if a3 < 0 then
  some ((-1), M2)
  else
  if a3 ≤ 1 then
  mbd (m_X8_fives a2 M2) (fun v5 M4 =>
  mbd (
  mlp (σ := (Int32 × Int32)) (β := (Int32 × Int32)) zLF (fun s6 M7 =>
  if v5 ≤ s6.2 then
  some ((.inr (s6.1, s6.2)), M7)
  else
  mbd (m_X8_copies 1 0 M7) (fun v11 M10 =>
  mbd (
  mlp (σ := (Int32 × Int32)) (β := (Int32 × Int32)) zLF (fun s12 M13 =>
  if a2 ≤ s12.2 then
  some ((.inr (s12.1, s12.2)), M13)
  else
  mlt (mup M13 213 51 (zrm s12.1 5)) (fun M16 =>
  mbd (m_X8_passes 1 M16) (fun v18 M17 =>
  some ((.inl ((s12.1 / 5), (s12.2 + 1))), M17)))) (s6.2, 0) M10) (fun e14 M15 =>
  mlt (mup M15 213 51 (-1)) (fun M19 =>
  zob (mrd M19 243 (5 + a1)) (fun v21 =>
  zob (mrd M19 243 a1) (fun v23 =>
  if v21 ≤ v23 then
  some ((.inl ((s6.1 + 0), (s6.2 + 1))), M19)
  else
  some ((.inl ((s6.1 + 1), (s6.2 + 1))), M19))))))) (0, 0) M4) (fun e8 M9 =>
  mbd (m_X8_common e8.1 v5 M9) (fun v25 M24 =>
  if a3 = 0 then
  zob (zdv e8.1 v25) (fun v26 =>
  some (v26, M24))
  else
  zob (zdv v5 v25) (fun v27 =>
  some (v27, M24)))))
  else
  some ((-1), M2)))
set_option maxRecDepth 100000 in
set_option maxHeartbeats 4000000 in
theorem r_X8_likely {B n : Nat} {h0 : zHp} {M0 : zMem} (w0 : zW B n h0 M0) (a1 : Int32) (a2 : Int32) (a3 : Int32) : zRR B n (f_X8_likely (B + 213) a1 a2 a3 h0) (m_X8_likely a1 a2 a3 M0) := by
  unfold f_X8_likely m_X8_likely
  refine zr_pV w0 zio_8 (Nat.le_of_ble_eq_true rfl) rfl (fun h1 M1 w1 => ?_)
  refine zr_cv w1 zio_8 (r_X8_isField w1 a1) (fun v3 h2 M2 w2 => ?_)
  refine zr_if ?_ ?_
  · exact zr_ok w2
  · refine zr_if ?_ ?_
    · exact zr_ok w2
    · refine zr_if ?_ ?_
      · exact zr_ok w2
      · refine zr_if ?_ ?_
        · exact zr_ok w2
        · refine zr_if ?_ ?_
          · refine zr_bd (r_X8_fives w2 a2) (fun v5 h4 M4 w4 => ?_)
            refine zr_bd (zr_lp (fun s6 h7 M7 w7 => ?_) (0, 0) h4 M4 w4) (fun e8 h9 M9 w9 => ?_)
            · refine zr_if ?_ ?_
              · exact zr_ok w7
              · refine zr_cv w7 zio_8 (r_X8_copies w7 1 0) (fun v11 h10 M10 w10 => ?_)
                refine zr_bd (zr_lp (fun s12 h13 M13 w13 => ?_) (s6.2, 0) h10 M10 w10) (fun e14 h15 M15 w15 => ?_)
                · refine zr_if ?_ ?_
                  · exact zr_ok w13
                  · refine zr_pV w13 zio_8 (Nat.le_of_ble_eq_true rfl) rfl (fun h16 M16 w16 => ?_)
                    refine zr_cv w16 zio_8 (r_X8_passes w16 1) (fun v18 h17 M17 w17 => ?_)
                    exact zr_ok w17
                · refine zr_pV w15 zio_8 (Nat.le_of_ble_eq_true rfl) rfl (fun h19 M19 w19 => ?_)
                  refine zr_gR w19 zio_8 rfl ?_
                  refine zr_a0 w19 zca_243 (fun v21 => ?_)
                  refine zr_gR w19 zio_8 rfl ?_
                  refine zr_a0 w19 zca_243 (fun v23 => ?_)
                  refine zr_if ?_ ?_
                  · exact zr_ok w19
                  · exact zr_ok w19
            · refine zr_bd (r_X8_common w9 e8.1 v5) (fun v25 h24 M24 w24 => ?_)
              refine zr_if ?_ ?_
              · refine zr_obp (fun v26 => ?_)
                exact zr_ok w24
              · refine zr_obp (fun v27 => ?_)
                exact zr_ok w24
          · exact zr_ok w2
def m_X8_line  (M0 : zMem) : Option (Unit × zMem) :=
  mbd (α := (Unit ⊕ Unit)) (
  if (M0.1 213 25) = 0 then
  if (M0.1 213 26) ≤ 9 then
  mbd (m_X8_isFull (M0.1 213 26) M0) (fun v5 M4 =>
  mbd (α := Unit) (
  if v5 = 0 then
  if (M0.1 213 26) < 6 then
  some ((), M4)
  else
  if 8 < (M0.1 213 26) then
  some ((), M4)
  else
  if (((M4.1 213 20) >>> ((M0.1 213 26) &&& 31)) &&& 1) = 1 then
  mbd (m_X8_wrong 3 M4) (fun v8 M7 =>
  some ((), M7))
  else
  some ((), M4)
  else
  mbd (m_X8_wrong 2 M4) (fun v10 M9 =>
  some ((), M9))) (fun e11 M12 =>
  if (M12.1 213 27) = 0 then
  mlt (mup M12 213 20 ((M12.1 213 20) ||| (1 <<< ((M0.1 213 26) &&& 31)))) (fun M15 =>
  mbd (m_X8_token  M15) (fun v17 M16 =>
  mbd (α := Unit) (
  if (M0.1 213 26) = 0 then
  mbd (α := Int32) (
  if (M0.1 213 26) = 0 then
  some (1, M16)
  else
  some (2, M16)) (fun e18 M19 =>
  mbd (m_X8_groundLine e18 M19) (fun v21 M20 =>
  some ((), M20)))
  else if (M0.1 213 26) = 1 then
  mbd (α := Int32) (
  if (M0.1 213 26) = 0 then
  some (1, M16)
  else
  some (2, M16)) (fun e22 M23 =>
  mbd (m_X8_groundLine e22 M23) (fun v25 M24 =>
  some ((), M24)))
  else if (M0.1 213 26) = 2 then
  mbd (m_X8_fresher 0 M16) (fun v27 M26 =>
  mbd (m_X8_fresher 0 M26) (fun v31 M30 =>
  mbd (m_X8_fresh 217 5 v31 M30) (fun v33 M32 =>
  zob (mwr M32 217 (5 + v27) v33) (fun M34 =>
  mbd (m_X8_cellAhead  M34) (fun v37 M36 =>
  zob (mwr M36 218 (5 + v27) v37) (fun M38 =>
  mbd (m_X8_numeral 0 99 M38) (fun v41 M40 =>
  zob (mwr M40 219 (5 + v27) v41) (fun M42 =>
  mbd (m_X8_fresher 0 M42) (fun v44 M43 =>
  mbd (m_X8_reads 0 (v44 + 1) M43) (fun v46 M45 =>
  some ((), M45)))))))))))
  else if (M0.1 213 26) = 3 then
  mbd (m_X8_fresher 1 M16) (fun v48 M47 =>
  mbd (m_X8_fresher 1 M47) (fun v52 M51 =>
  mbd (m_X8_fresh 220 8 v52 M51) (fun v54 M53 =>
  zob (mwr M53 220 (8 + v48) v54) (fun M55 =>
  mbd (m_X8_cellAhead  M55) (fun v58 M57 =>
  zob (mwr M57 221 (8 + v48) v58) (fun M59 =>
  mbd (m_X8_numeral 1 9 M59) (fun v62 M61 =>
  zob (mwr M61 222 (8 + v48) v62) (fun M63 =>
  mbd (m_X8_numeral 0 99 M63) (fun v66 M65 =>
  zob (mwr M65 223 (8 + v48) v66) (fun M67 =>
  mbd (m_X8_fresher 1 M67) (fun v69 M68 =>
  mbd (m_X8_reads 1 (v69 + 1) M68) (fun v71 M70 =>
  some ((), M70)))))))))))))
  else if (M0.1 213 26) = 4 then
  mbd (m_X8_fresher 2 M16) (fun v73 M72 =>
  mbd (m_X8_fresher 2 M72) (fun v77 M76 =>
  mbd (m_X8_fresh 224 6 v77 M76) (fun v79 M78 =>
  zob (mwr M78 224 (6 + v73) v79) (fun M80 =>
  mbd (m_X8_cellAhead  M80) (fun v83 M82 =>
  zob (mwr M82 225 (6 + v73) v83) (fun M84 =>
  mbd (m_X8_numeral 0 9 M84) (fun v87 M86 =>
  zob (mwr M86 226 (6 + v73) v87) (fun M88 =>
  mbd (m_X8_fresher 2 M88) (fun v90 M89 =>
  mbd (m_X8_reads 2 (v90 + 1) M89) (fun v92 M91 =>
  some ((), M91)))))))))))
  else if (M0.1 213 26) = 5 then
  mbd (m_X8_fresher 3 M16) (fun v95 M94 =>
  mbd (m_X8_numeral 0 4 M94) (fun v97 M96 =>
  zob (mwr M96 227 (12 + v95) v97) (fun M98 =>
  mbd (m_X8_fresher 3 M98) (fun v100 M99 =>
  mbd (m_X8_reads 3 (v100 + 1) M99) (fun v102 M101 =>
  some ((), M101))))))
  else if (M0.1 213 26) = 6 then
  mbd (m_X8_numeral 1 20 M16) (fun v104 M103 =>
  mbd (m_X8_reads 4 v104 M103) (fun v106 M105 =>
  some ((), M105)))
  else if (M0.1 213 26) = 7 then
  mbd (m_X8_numeral 1 9 M16) (fun v108 M107 =>
  mbd (m_X8_reads 5 v108 M107) (fun v110 M109 =>
  some ((), M109)))
  else if (M0.1 213 26) = 8 then
  mbd (m_X8_numeral 0 99999 M16) (fun v112 M111 =>
  mbd (m_X8_reads 6 v112 M111) (fun v114 M113 =>
  some ((), M113)))
  else 
  mbd (m_X8_lawLine  M16) (fun v116 M115 =>
  some ((), M115))) (fun e117 M118 =>
  if (M118.1 213 27) = 0 then
  mbd (m_X8_isSign 59 M118) (fun v121 M120 =>
  mbd (α := Unit) (
  if v121 = 0 then
  mbd (m_X8_wrong 1 M120) (fun v123 M122 =>
  some ((), M122))
  else
  mbd (m_X8_token  M120) (fun v125 M124 =>
  some ((), M124))) (fun e126 M127 =>
  mlt (mup M127 213 21 ((M127.1 213 21) + 1)) (fun M129 =>
  some ((.inr ()), M129))))
  else
  some ((.inr ()), M118))))
  else
  some ((.inr ()), M12)))
  else
  some ((.inl ()), M0)
  else
  some ((.inl ()), M0)) (fun b134 M131 => zsl b134 (fun e130 =>
  mbd (m_X8_wrong 1 M131) (fun v133 M132 =>
  some ((), M132))) (fun r => some (r, M131)))
set_option maxRecDepth 100000 in
set_option maxHeartbeats 4000000 in
theorem r_X8_line {B n : Nat} {h0 : zHp} {M0 : zMem} (w0 : zW B n h0 M0)  : zRR B n (f_X8_line (B + 213) h0) (m_X8_line  M0) := by
  unfold f_X8_line m_X8_line
  refine zr_gI w0 zio_8 rfl ?_
  refine zr_bd ?_ (fun b134 h131 M131 w131 => zr_sl (fun e130 => ?_) (fun r => zr_ok w131))
  · refine zr_if ?_ ?_
    · refine zr_gI w0 zio_8 rfl ?_
      refine zr_if ?_ ?_
      · refine zr_gI w0 zio_8 rfl ?_
        refine zr_cv w0 zio_8 (r_X8_isFull w0 (M0.1 213 26)) (fun v5 h4 M4 w4 => ?_)
        refine zr_bd ?_ (fun e11 h12 M12 w12 => ?_)
        · refine zr_if ?_ ?_
          · refine zr_if ?_ ?_
            · exact zr_ok w4
            · refine zr_if ?_ ?_
              · exact zr_ok w4
              · refine zr_gI w4 zio_8 rfl ?_
                refine zr_if ?_ ?_
                · refine zr_cv w4 zio_8 (r_X8_wrong w4 3) (fun v8 h7 M7 w7 => ?_)
                  exact zr_ok w7
                · exact zr_ok w4
          · refine zr_cv w4 zio_8 (r_X8_wrong w4 2) (fun v10 h9 M9 w9 => ?_)
            exact zr_ok w9
        · refine zr_gI w12 zio_8 rfl ?_
          refine zr_if ?_ ?_
          · refine zr_gI w12 zio_8 rfl ?_
            refine zr_pV w12 zio_8 (Nat.le_of_ble_eq_true rfl) rfl (fun h15 M15 w15 => ?_)
            refine zr_cv w15 zio_8 (r_X8_token w15 ) (fun v17 h16 M16 w16 => ?_)
            refine zr_bd ?_ (fun e117 h118 M118 w118 => ?_)
            · refine zr_if ?_ ?_
              · refine zr_bd ?_ (fun e18 h19 M19 w19 => ?_)
                · refine zr_if ?_ ?_
                  · exact zr_ok w16
                  · exact zr_ok w16
                · refine zr_cv w19 zio_8 (r_X8_groundLine w19 e18) (fun v21 h20 M20 w20 => ?_)
                  exact zr_ok w20
              refine zr_if ?_ ?_
              · refine zr_bd ?_ (fun e22 h23 M23 w23 => ?_)
                · refine zr_if ?_ ?_
                  · exact zr_ok w16
                  · exact zr_ok w16
                · refine zr_cv w23 zio_8 (r_X8_groundLine w23 e22) (fun v25 h24 M24 w24 => ?_)
                  exact zr_ok w24
              refine zr_if ?_ ?_
              · refine zr_cv w16 zio_8 (r_X8_fresher w16 0) (fun v27 h26 M26 w26 => ?_)
                refine zr_gR w26 zio_8 rfl ?_
                refine zr_gR w26 zio_8 rfl ?_
                refine zr_cv w26 zio_8 (r_X8_fresher w26 0) (fun v31 h30 M30 w30 => ?_)
                refine zr_cv w30 zio_8 (r_X8_fresh w30 217 zca_217 5 v31) (fun v33 h32 M32 w32 => ?_)
                refine zr_s0 w32 zca_217 (fun h34 M34 w34 => ?_)
                refine zr_gR w34 zio_8 rfl ?_
                refine zr_cv w34 zio_8 (r_X8_cellAhead w34 ) (fun v37 h36 M36 w36 => ?_)
                refine zr_s0 w36 zca_218 (fun h38 M38 w38 => ?_)
                refine zr_gR w38 zio_8 rfl ?_
                refine zr_cv w38 zio_8 (r_X8_numeral w38 0 99) (fun v41 h40 M40 w40 => ?_)
                refine zr_s0 w40 zca_219 (fun h42 M42 w42 => ?_)
                refine zr_cv w42 zio_8 (r_X8_fresher w42 0) (fun v44 h43 M43 w43 => ?_)
                refine zr_cv w43 zio_8 (r_X8_reads w43 0 (v44 + 1)) (fun v46 h45 M45 w45 => ?_)
                exact zr_ok w45
              refine zr_if ?_ ?_
              · refine zr_cv w16 zio_8 (r_X8_fresher w16 1) (fun v48 h47 M47 w47 => ?_)
                refine zr_gR w47 zio_8 rfl ?_
                refine zr_gR w47 zio_8 rfl ?_
                refine zr_cv w47 zio_8 (r_X8_fresher w47 1) (fun v52 h51 M51 w51 => ?_)
                refine zr_cv w51 zio_8 (r_X8_fresh w51 220 zca_220 8 v52) (fun v54 h53 M53 w53 => ?_)
                refine zr_s0 w53 zca_220 (fun h55 M55 w55 => ?_)
                refine zr_gR w55 zio_8 rfl ?_
                refine zr_cv w55 zio_8 (r_X8_cellAhead w55 ) (fun v58 h57 M57 w57 => ?_)
                refine zr_s0 w57 zca_221 (fun h59 M59 w59 => ?_)
                refine zr_gR w59 zio_8 rfl ?_
                refine zr_cv w59 zio_8 (r_X8_numeral w59 1 9) (fun v62 h61 M61 w61 => ?_)
                refine zr_s0 w61 zca_222 (fun h63 M63 w63 => ?_)
                refine zr_gR w63 zio_8 rfl ?_
                refine zr_cv w63 zio_8 (r_X8_numeral w63 0 99) (fun v66 h65 M65 w65 => ?_)
                refine zr_s0 w65 zca_223 (fun h67 M67 w67 => ?_)
                refine zr_cv w67 zio_8 (r_X8_fresher w67 1) (fun v69 h68 M68 w68 => ?_)
                refine zr_cv w68 zio_8 (r_X8_reads w68 1 (v69 + 1)) (fun v71 h70 M70 w70 => ?_)
                exact zr_ok w70
              refine zr_if ?_ ?_
              · refine zr_cv w16 zio_8 (r_X8_fresher w16 2) (fun v73 h72 M72 w72 => ?_)
                refine zr_gR w72 zio_8 rfl ?_
                refine zr_gR w72 zio_8 rfl ?_
                refine zr_cv w72 zio_8 (r_X8_fresher w72 2) (fun v77 h76 M76 w76 => ?_)
                refine zr_cv w76 zio_8 (r_X8_fresh w76 224 zca_224 6 v77) (fun v79 h78 M78 w78 => ?_)
                refine zr_s0 w78 zca_224 (fun h80 M80 w80 => ?_)
                refine zr_gR w80 zio_8 rfl ?_
                refine zr_cv w80 zio_8 (r_X8_cellAhead w80 ) (fun v83 h82 M82 w82 => ?_)
                refine zr_s0 w82 zca_225 (fun h84 M84 w84 => ?_)
                refine zr_gR w84 zio_8 rfl ?_
                refine zr_cv w84 zio_8 (r_X8_numeral w84 0 9) (fun v87 h86 M86 w86 => ?_)
                refine zr_s0 w86 zca_226 (fun h88 M88 w88 => ?_)
                refine zr_cv w88 zio_8 (r_X8_fresher w88 2) (fun v90 h89 M89 w89 => ?_)
                refine zr_cv w89 zio_8 (r_X8_reads w89 2 (v90 + 1)) (fun v92 h91 M91 w91 => ?_)
                exact zr_ok w91
              refine zr_if ?_ ?_
              · refine zr_gR w16 zio_8 rfl ?_
                refine zr_cv w16 zio_8 (r_X8_fresher w16 3) (fun v95 h94 M94 w94 => ?_)
                refine zr_cv w94 zio_8 (r_X8_numeral w94 0 4) (fun v97 h96 M96 w96 => ?_)
                refine zr_s0 w96 zca_227 (fun h98 M98 w98 => ?_)
                refine zr_cv w98 zio_8 (r_X8_fresher w98 3) (fun v100 h99 M99 w99 => ?_)
                refine zr_cv w99 zio_8 (r_X8_reads w99 3 (v100 + 1)) (fun v102 h101 M101 w101 => ?_)
                exact zr_ok w101
              refine zr_if ?_ ?_
              · refine zr_cv w16 zio_8 (r_X8_numeral w16 1 20) (fun v104 h103 M103 w103 => ?_)
                refine zr_cv w103 zio_8 (r_X8_reads w103 4 v104) (fun v106 h105 M105 w105 => ?_)
                exact zr_ok w105
              refine zr_if ?_ ?_
              · refine zr_cv w16 zio_8 (r_X8_numeral w16 1 9) (fun v108 h107 M107 w107 => ?_)
                refine zr_cv w107 zio_8 (r_X8_reads w107 5 v108) (fun v110 h109 M109 w109 => ?_)
                exact zr_ok w109
              refine zr_if ?_ ?_
              · refine zr_cv w16 zio_8 (r_X8_numeral w16 0 99999) (fun v112 h111 M111 w111 => ?_)
                refine zr_cv w111 zio_8 (r_X8_reads w111 6 v112) (fun v114 h113 M113 w113 => ?_)
                exact zr_ok w113
              refine zr_cv w16 zio_8 (r_X8_lawLine w16 ) (fun v116 h115 M115 w115 => ?_)
              exact zr_ok w115
            · refine zr_gI w118 zio_8 rfl ?_
              refine zr_if ?_ ?_
              · refine zr_cv w118 zio_8 (r_X8_isSign w118 59) (fun v121 h120 M120 w120 => ?_)
                refine zr_bd ?_ (fun e126 h127 M127 w127 => ?_)
                · refine zr_if ?_ ?_
                  · refine zr_cv w120 zio_8 (r_X8_wrong w120 1) (fun v123 h122 M122 w122 => ?_)
                    exact zr_ok w122
                  · refine zr_cv w120 zio_8 (r_X8_token w120 ) (fun v125 h124 M124 w124 => ?_)
                    exact zr_ok w124
                · refine zr_gI w127 zio_8 rfl ?_
                  refine zr_pV w127 zio_8 (Nat.le_of_ble_eq_true rfl) rfl (fun h129 M129 w129 => ?_)
                  exact zr_ok w129
              · exact zr_ok w118
          · exact zr_ok w12
      · exact zr_ok w0
    · exact zr_ok w0
  · refine zr_cv w131 zio_8 (r_X8_wrong w131 1) (fun v133 h132 M132 w132 => ?_)
    exact zr_ok w132
def m_X8_named (a1 : Int32) (a2 : Int32) (M0 : zMem) : Option (Int32 × zMem) :=
  mlt (mup M0 213 0 0) (fun M1 =>
  if a1 = 0 then
  zob (mrd M1 215 0) (fun v4 =>
  mbd (m_X8_found 217 0 v4 a2 M1) (fun v6 M5 =>
  some (v6, M5)))
  else if a1 = 1 then
  zob (mrd M1 215 1) (fun v9 =>
  mbd (m_X8_found 220 0 v9 a2 M1) (fun v11 M10 =>
  some (v11, M10)))
  else if a1 = 2 then
  zob (mrd M1 215 2) (fun v14 =>
  mbd (m_X8_found 224 0 v14 a2 M1) (fun v16 M15 =>
  some (v16, M15)))
  else 
  some ((-1), M1))
set_option maxRecDepth 100000 in
set_option maxHeartbeats 4000000 in
theorem r_X8_named {B n : Nat} {h0 : zHp} {M0 : zMem} (w0 : zW B n h0 M0) (a1 : Int32) (a2 : Int32) : zRR B n (f_X8_named (B + 213) a1 a2 h0) (m_X8_named a1 a2 M0) := by
  unfold f_X8_named m_X8_named
  refine zr_pV w0 zio_8 (Nat.le_of_ble_eq_true rfl) rfl (fun h1 M1 w1 => ?_)
  refine zr_if ?_ ?_
  · refine zr_gR w1 zio_8 rfl ?_
    refine zr_gR w1 zio_8 rfl ?_
    refine zr_a0 w1 zca_215 (fun v4 => ?_)
    refine zr_bd (r_X8_found w1 217 zca_217 0 v4 a2) (fun v6 h5 M5 w5 => ?_)
    exact zr_ok w5
  refine zr_if ?_ ?_
  · refine zr_gR w1 zio_8 rfl ?_
    refine zr_gR w1 zio_8 rfl ?_
    refine zr_a0 w1 zca_215 (fun v9 => ?_)
    refine zr_bd (r_X8_found w1 220 zca_220 0 v9 a2) (fun v11 h10 M10 w10 => ?_)
    exact zr_ok w10
  refine zr_if ?_ ?_
  · refine zr_gR w1 zio_8 rfl ?_
    refine zr_gR w1 zio_8 rfl ?_
    refine zr_a0 w1 zca_215 (fun v14 => ?_)
    refine zr_bd (r_X8_found w1 224 zca_224 0 v14 a2) (fun v16 h15 M15 w15 => ?_)
    exact zr_ok w15
  exact zr_ok w1
def m_X8_note (a1 : Int32) (a2 : Int32) (a3 : Int32) (a4 : Int32) (M0 : zMem) : Option (Int32 × zMem) :=
  mlt (mup M0 213 0 0) (fun M1 =>
  if a1 < 1 then
  some ((-1), M1)
  else
  if 40 < a1 then
  some ((-1), M1)
  else
  mbd (m_X8_isCell a2 a3 M1) (fun v3 M2 =>
  if v3 = 0 then
  some ((-1), M2)
  else
  if (M2.1 213 61) = 24 then
  some ((-1), M2)
  else
  zob (mwr M2 249 (M2.1 213 61) a1) (fun M7 =>
  zob (mwr M7 250 (M7.1 213 61) ((6 * a3) + a2)) (fun M10 =>
  zob (mwr M10 251 (M10.1 213 61) (znar 2 a4)) (fun M13 =>
  zob (mwr M13 252 (M13.1 213 61) (-1)) (fun M16 =>
  mlt (mup M16 213 61 ((M16.1 213 61) + 1)) (fun M18 =>
  some (((M18.1 213 61) - 1), M18))))))))
set_option maxRecDepth 100000 in
set_option maxHeartbeats 4000000 in
theorem r_X8_note {B n : Nat} {h0 : zHp} {M0 : zMem} (w0 : zW B n h0 M0) (a1 : Int32) (a2 : Int32) (a3 : Int32) (a4 : Int32) : zRR B n (f_X8_note (B + 213) a1 a2 a3 a4 h0) (m_X8_note a1 a2 a3 a4 M0) := by
  unfold f_X8_note m_X8_note
  refine zr_pV w0 zio_8 (Nat.le_of_ble_eq_true rfl) rfl (fun h1 M1 w1 => ?_)
  refine zr_if ?_ ?_
  · exact zr_ok w1
  · refine zr_if ?_ ?_
    · exact zr_ok w1
    · refine zr_bd (r_X8_isCell w1 a2 a3) (fun v3 h2 M2 w2 => ?_)
      refine zr_if ?_ ?_
      · exact zr_ok w2
      · refine zr_gI w2 zio_8 rfl ?_
        refine zr_if ?_ ?_
        · exact zr_ok w2
        · refine zr_gR w2 zio_8 rfl ?_
          refine zr_gI w2 zio_8 rfl ?_
          refine zr_s0 w2 zca_249 (fun h7 M7 w7 => ?_)
          refine zr_gR w7 zio_8 rfl ?_
          refine zr_gI w7 zio_8 rfl ?_
          refine zr_s0 w7 zca_250 (fun h10 M10 w10 => ?_)
          refine zr_gR w10 zio_8 rfl ?_
          refine zr_gI w10 zio_8 rfl ?_
          refine zr_s (t := 2) (by decide) w10 zca_251 (fun h13 M13 w13 => ?_)
          refine zr_gR w13 zio_8 rfl ?_
          refine zr_gI w13 zio_8 rfl ?_
          refine zr_s0 w13 zca_252 (fun h16 M16 w16 => ?_)
          refine zr_gI w16 zio_8 rfl ?_
          refine zr_pV w16 zio_8 (Nat.le_of_ble_eq_true rfl) rfl (fun h18 M18 w18 => ?_)
          refine zr_gI w18 zio_8 rfl ?_
          exact zr_ok w18
def m_X8_out (a1 : Int32) (M0 : zMem) : Option (Int32 × zMem) :=
  mlt (mup M0 213 0 0) (fun M1 =>
  if a1 < 0 then
  some ((-1), M1)
  else
  if (M1.1 213 61) ≤ a1 then
  some ((-1), M1)
  else
  if (M1.1 213 61) = 24 then
  some ((-1), M1)
  else
  zob (mwr M1 252 (M1.1 213 61) a1) (fun M6 =>
  mlt (mup M6 213 61 ((M6.1 213 61) + 1)) (fun M8 =>
  some (((M8.1 213 61) - 1), M8))))
set_option maxRecDepth 100000 in
set_option maxHeartbeats 4000000 in
theorem r_X8_out {B n : Nat} {h0 : zHp} {M0 : zMem} (w0 : zW B n h0 M0) (a1 : Int32) : zRR B n (f_X8_out (B + 213) a1 h0) (m_X8_out a1 M0) := by
  unfold f_X8_out m_X8_out
  refine zr_pV w0 zio_8 (Nat.le_of_ble_eq_true rfl) rfl (fun h1 M1 w1 => ?_)
  refine zr_if ?_ ?_
  · exact zr_ok w1
  · refine zr_gI w1 zio_8 rfl ?_
    refine zr_if ?_ ?_
    · exact zr_ok w1
    · refine zr_gI w1 zio_8 rfl ?_
      refine zr_if ?_ ?_
      · exact zr_ok w1
      · refine zr_gR w1 zio_8 rfl ?_
        refine zr_gI w1 zio_8 rfl ?_
        refine zr_s0 w1 zca_252 (fun h6 M6 w6 => ?_)
        refine zr_gI w6 zio_8 rfl ?_
        refine zr_pV w6 zio_8 (Nat.le_of_ble_eq_true rfl) rfl (fun h8 M8 w8 => ?_)
        refine zr_gI w8 zio_8 rfl ?_
        exact zr_ok w8
def m_X8_plan (a1 : Int32) (a2 : Int32) (a3 : Int32) (M0 : zMem) : Option (Int32 × zMem) :=
  mlt (mup M0 213 0 0) (fun M1 =>
  mbd (m_X8_isPlan a1 a2 a3 M1) (fun v3 M2 =>
  if v3 = 0 then
  some ((-1), M2)
  else
  mbd (m_X8_layPlan a1 a2 a3 M2) (fun v5 M4 =>
  some ((M4.1 213 57), M4))))
set_option maxRecDepth 100000 in
set_option maxHeartbeats 4000000 in
theorem r_X8_plan {B n : Nat} {h0 : zHp} {M0 : zMem} (w0 : zW B n h0 M0) (a1 : Int32) (a2 : Int32) (a3 : Int32) : zRR B n (f_X8_plan (B + 213) a1 a2 a3 h0) (m_X8_plan a1 a2 a3 M0) := by
  unfold f_X8_plan m_X8_plan
  refine zr_pV w0 zio_8 (Nat.le_of_ble_eq_true rfl) rfl (fun h1 M1 w1 => ?_)
  refine zr_cv w1 zio_8 (r_X8_isPlan w1 a1 a2 a3) (fun v3 h2 M2 w2 => ?_)
  refine zr_if ?_ ?_
  · exact zr_ok w2
  · refine zr_cv w2 zio_8 (r_X8_layPlan w2 a1 a2 a3) (fun v5 h4 M4 w4 => ?_)
    refine zr_gI w4 zio_8 rfl ?_
    exact zr_ok w4
def m_X8_push (a1 : Int32) (a2 : Int32) (M0 : zMem) : Option (Int32 × zMem) :=
  mlt (mup M0 213 0 0) (fun M1 =>
  mbd (m_X8_isChild a1 M1) (fun v3 M2 =>
  if v3 = 0 then
  some ((-1), M2)
  else
  if a2 < 1 then
  some ((-1), M2)
  else
  if a2 ≤ 4 then
  mbd (m_X8_ownSeen 0 a1 M2) (fun v5 M4 =>
  if v5 = (-1) then
  some ((-2), M4)
  else
  mbd (m_X8_keepNow  M4) (fun v7 M6 =>
  mbd (m_X8_pushes 0 a1 a2 M6) (fun v9 M8 =>
  some (v5, M8))))
  else
  some ((-1), M2)))
set_option maxRecDepth 100000 in
set_option maxHeartbeats 4000000 in
theorem r_X8_push {B n : Nat} {h0 : zHp} {M0 : zMem} (w0 : zW B n h0 M0) (a1 : Int32) (a2 : Int32) : zRR B n (f_X8_push (B + 213) a1 a2 h0) (m_X8_push a1 a2 M0) := by
  unfold f_X8_push m_X8_push
  refine zr_pV w0 zio_8 (Nat.le_of_ble_eq_true rfl) rfl (fun h1 M1 w1 => ?_)
  refine zr_cv w1 zio_8 (r_X8_isChild w1 a1) (fun v3 h2 M2 w2 => ?_)
  refine zr_if ?_ ?_
  · exact zr_ok w2
  · refine zr_if ?_ ?_
    · exact zr_ok w2
    · refine zr_if ?_ ?_
      · refine zr_cv w2 zio_8 (r_X8_ownSeen w2 0 a1) (fun v5 h4 M4 w4 => ?_)
        refine zr_if ?_ ?_
        · exact zr_ok w4
        · refine zr_cv w4 zio_8 (r_X8_keepNow w4 ) (fun v7 h6 M6 w6 => ?_)
          refine zr_cv w6 zio_8 (r_X8_pushes w6 0 a1 a2) (fun v9 h8 M8 w8 => ?_)
          exact zr_ok w8
      · exact zr_ok w2
def m_X8_restOf (a1 : Int32) (M0 : zMem) : Option (Int32 × zMem) :=
  mbd (
  mlp (σ := (Int32 × Int32)) (β := ((Int32 × Int32) ⊕ Int32)) zLF (fun s1 M2 =>
  if 25 ≤ s1.2 then
  some ((.inr (.inl (s1.1, s1.2))), M2)
  else
  mbd (m_X8_isRest s1.2 M2) (fun v6 M5 =>
  if v6 = 0 then
  some ((.inl (s1.1, (s1.2 + 1))), M5)
  else
  if s1.1 = a1 then
  some ((.inr (.inr ((10 * (s1.2 / 5)) + (zrm s1.2 5)))), M5)
  else
  some ((.inl ((s1.1 + 1), (s1.2 + 1))), M5))) (0, 0) M0) (fun b7 M4 => zsl b7 (fun e3 =>
  if a1 = (-1) then
  some (e3.1, M4)
  else
  some ((-2), M4)) (fun r => some (r, M4)))
set_option maxRecDepth 100000 in
set_option maxHeartbeats 4000000 in
theorem r_X8_restOf {B n : Nat} {h0 : zHp} {M0 : zMem} (w0 : zW B n h0 M0) (a1 : Int32) : zRR B n (f_X8_restOf (B + 213) a1 h0) (m_X8_restOf a1 M0) := by
  unfold f_X8_restOf m_X8_restOf
  refine zr_bd (zr_lp (fun s1 h2 M2 w2 => ?_) (0, 0) h0 M0 w0) (fun b7 h4 M4 w4 => zr_sl (fun e3 => ?_) (fun r => zr_ok w4))
  · refine zr_if ?_ ?_
    · exact zr_ok w2
    · refine zr_cv w2 zio_8 (r_X8_isRest w2 s1.2) (fun v6 h5 M5 w5 => ?_)
      refine zr_if ?_ ?_
      · exact zr_ok w5
      · refine zr_if ?_ ?_
        · exact zr_ok w5
        · exact zr_ok w5
  · refine zr_if ?_ ?_
    · exact zr_ok w4
    · exact zr_ok w4
def m_X8_rest (a1 : Int32) (a2 : Int32) (a3 : Int32) (M0 : zMem) : Option (Int32 × zMem) :=
  mlt (mup M0 213 0 0) (fun M1 =>
  mbd (m_X8_areTwo a1 a2 M1) (fun v3 M2 =>
  if v3 = 0 then
  some ((-1), M2)
  else
  if 0 ≤ a3 then
  mbd (m_X8_layBoth a1 a2 M2) (fun v5 M4 =>
  mbd (m_X8_restOf a3 M4) (fun v7 M6 =>
  some (v7, M6)))
  else
  some ((-1), M2)))
set_option maxRecDepth 100000 in
set_option maxHeartbeats 4000000 in
theorem r_X8_rest {B n : Nat} {h0 : zHp} {M0 : zMem} (w0 : zW B n h0 M0) (a1 : Int32) (a2 : Int32) (a3 : Int32) : zRR B n (f_X8_rest (B + 213) a1 a2 a3 h0) (m_X8_rest a1 a2 a3 M0) := by
  unfold f_X8_rest m_X8_rest
  refine zr_pV w0 zio_8 (Nat.le_of_ble_eq_true rfl) rfl (fun h1 M1 w1 => ?_)
  refine zr_cv w1 zio_8 (r_X8_areTwo w1 a1 a2) (fun v3 h2 M2 w2 => ?_)
  refine zr_if ?_ ?_
  · exact zr_ok w2
  · refine zr_if ?_ ?_
    · refine zr_cv w2 zio_8 (r_X8_layBoth w2 a1 a2) (fun v5 h4 M4 w4 => ?_)
      refine zr_cv w4 zio_8 (r_X8_restOf w4 a3) (fun v7 h6 M6 w6 => ?_)
      exact zr_ok w6
    · exact zr_ok w2
def m_X8_rests (a1 : Int32) (a2 : Int32) (M0 : zMem) : Option (Int32 × zMem) :=
  mlt (mup M0 213 0 0) (fun M1 =>
  mbd (m_X8_areTwo a1 a2 M1) (fun v3 M2 =>
  if v3 = 0 then
  some ((-1), M2)
  else
  mbd (m_X8_layBoth a1 a2 M2) (fun v5 M4 =>
  mbd (m_X8_restOf (-1) M4) (fun v7 M6 =>
  some (v7, M6)))))
set_option maxRecDepth 100000 in
set_option maxHeartbeats 4000000 in
theorem r_X8_rests {B n : Nat} {h0 : zHp} {M0 : zMem} (w0 : zW B n h0 M0) (a1 : Int32) (a2 : Int32) : zRR B n (f_X8_rests (B + 213) a1 a2 h0) (m_X8_rests a1 a2 M0) := by
  unfold f_X8_rests m_X8_rests
  refine zr_pV w0 zio_8 (Nat.le_of_ble_eq_true rfl) rfl (fun h1 M1 w1 => ?_)
  refine zr_cv w1 zio_8 (r_X8_areTwo w1 a1 a2) (fun v3 h2 M2 w2 => ?_)
  refine zr_if ?_ ?_
  · exact zr_ok w2
  · refine zr_cv w2 zio_8 (r_X8_layBoth w2 a1 a2) (fun v5 h4 M4 w4 => ?_)
    refine zr_cv w4 zio_8 (r_X8_restOf w4 (-1)) (fun v7 h6 M6 w6 => ?_)
    exact zr_ok w6
def m_X8_sees (a1 : Int32) (M0 : zMem) : Option (Int32 × zMem) :=
  mlt (mup M0 213 0 0) (fun M1 =>
  mbd (m_X8_isChild a1 M1) (fun v3 M2 =>
  if v3 = 0 then
  some ((-1), M2)
  else
  mbd (
  mlp (σ := (Int32 × Int32)) (β := (Int32 × Int32)) zLF (fun s4 M5 =>
  zob (mrd M5 215 1) (fun v9 =>
  if v9 ≤ s4.2 then
  some ((.inr (s4.1, s4.2)), M5)
  else
  mbd (m_X8_isUp 0 s4.2 M5) (fun v11 M10 =>
  if v11 = 0 then
  some ((.inl ((s4.1 ||| 0), (s4.2 + 1))), M10)
  else
  zob (mrd M10 236 s4.2) (fun v13 =>
  mbd (m_X8_doesSee 0 a1 v13 M10) (fun v15 M14 =>
  if v15 = 0 then
  some ((.inl ((s4.1 ||| 0), (s4.2 + 1))), M14)
  else
  some ((.inl ((s4.1 ||| (1 <<< (s4.2 &&& 31))), (s4.2 + 1))), M14)))))) (0, 0) M2) (fun e6 M7 =>
  some (e6.1, M7))))
set_option maxRecDepth 100000 in
set_option maxHeartbeats 4000000 in
theorem r_X8_sees {B n : Nat} {h0 : zHp} {M0 : zMem} (w0 : zW B n h0 M0) (a1 : Int32) : zRR B n (f_X8_sees (B + 213) a1 h0) (m_X8_sees a1 M0) := by
  unfold f_X8_sees m_X8_sees
  refine zr_pV w0 zio_8 (Nat.le_of_ble_eq_true rfl) rfl (fun h1 M1 w1 => ?_)
  refine zr_cv w1 zio_8 (r_X8_isChild w1 a1) (fun v3 h2 M2 w2 => ?_)
  refine zr_if ?_ ?_
  · exact zr_ok w2
  · refine zr_bd (zr_lp (fun s4 h5 M5 w5 => ?_) (0, 0) h2 M2 w2) (fun e6 h7 M7 w7 => ?_)
    · refine zr_gR w5 zio_8 rfl ?_
      refine zr_a0 w5 zca_215 (fun v9 => ?_)
      refine zr_if ?_ ?_
      · exact zr_ok w5
      · refine zr_cv w5 zio_8 (r_X8_isUp w5 0 s4.2) (fun v11 h10 M10 w10 => ?_)
        refine zr_if ?_ ?_
        · exact zr_ok w10
        · refine zr_gR w10 zio_8 rfl ?_
          refine zr_a0 w10 zca_236 (fun v13 => ?_)
          refine zr_cv w10 zio_8 (r_X8_doesSee w10 0 a1 v13) (fun v15 h14 M14 w14 => ?_)
          refine zr_if ?_ ?_
          · exact zr_ok w14
          · exact zr_ok w14
    · exact zr_ok w7

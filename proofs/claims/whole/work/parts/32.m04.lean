def m_X8_sizes (a1 : Int32) (M0 : zMem) : Option (Int32 × zMem) :=
  mlt (mup M0 213 0 0) (fun M1 =>
  mbd (m_X8_isCloud a1 M1) (fun v3 M2 =>
  if v3 = 0 then
  some ((-1), M2)
  else
  mbd (
  mlp (σ := Int32) (β := Int32) zLF (fun s4 M5 =>
  mbd (m_X8_knownMany  M5) (fun v9 M8 =>
  if v9 ≤ s4 then
  some ((.inr s4), M8)
  else
  zob (mwr M8 253 s4 (znar 2 0)) (fun M11 =>
  some ((.inl (s4 + 1)), M11)))) 0 M2) (fun e6 M7 =>
  mbd (m_X8_knownMany  M7) (fun v13 M12 =>
  mbd (
  mlp (σ := Int32) (β := Int32) zLF (fun s14 M15 =>
  if s14 < 0 then
  some ((.inr s14), M15)
  else
  zob (mrd M15 253 s14) (fun v19 =>
  if v19 = 0 then
  zob (mrd M15 252 s14) (fun v21 =>
  if v21 = (-1) then
  some ((.inl (s14 + (-1))), M15)
  else
  zob (mrd M15 252 s14) (fun v24 =>
  zob (mwr M15 253 v24 (znar 2 1)) (fun M25 =>
  some ((.inl (s14 + (-1))), M25))))
  else
  some ((.inl (s14 + (-1))), M15))) (v13 - 1) M12) (fun e16 M17 =>
  mbd (
  mlp (σ := (Int32 × Int32)) (β := (Int32 × Int32)) zLF (fun s26 M27 =>
  mbd (m_X8_knownMany  M27) (fun v31 M30 =>
  if v31 ≤ s26.2 then
  some ((.inr (s26.1, s26.2)), M30)
  else
  zob (mrd M30 253 s26.2) (fun v33 =>
  if v33 = 0 then
  zob (mrd M30 252 s26.2) (fun v35 =>
  if v35 = (-1) then
  zob (mrd M30 249 s26.2) (fun v37 =>
  some ((.inl ((zmx s26.1 v37), (s26.2 + 1))), M30))
  else
  some ((.inl (s26.1, (s26.2 + 1))), M30))
  else
  some ((.inl (s26.1, (s26.2 + 1))), M30)))) (0, 0) M17) (fun e28 M29 =>
  mlt (mup M29 213 52 a1) (fun M38 =>
  mbd (
  mlp (σ := (Int32 × Int32)) (β := (Int32 × Int32)) zLF (fun s39 M40 =>
  if 9 < s39.2 then
  some ((.inr (s39.1, s39.2)), M40)
  else
  mlt (mup M40 213 53 s39.2) (fun M43 =>
  mbd (m_X8_fitsSize e28.1 M43) (fun v45 M44 =>
  if v45 = 0 then
  some ((.inl ((s39.1 ||| 0), (s39.2 + 1))), M44)
  else
  some ((.inl ((s39.1 ||| (1 <<< (s39.2 &&& 31))), (s39.2 + 1))), M44)))) (0, 1) M38) (fun e41 M42 =>
  mlt (mup M42 213 52 (-1)) (fun M46 =>
  some (e41.1, M46))))))))))
set_option maxRecDepth 100000 in
set_option maxHeartbeats 4000000 in
theorem r_X8_sizes {B n : Nat} {h0 : zHp} {M0 : zMem} (w0 : zW B n h0 M0) (a1 : Int32) : zRR B n (f_X8_sizes (B + 213) a1 h0) (m_X8_sizes a1 M0) := by
  unfold f_X8_sizes m_X8_sizes
  refine zr_pV w0 zio_8 (Nat.le_of_ble_eq_true rfl) rfl (fun h1 M1 w1 => ?_)
  refine zr_cv w1 zio_8 (r_X8_isCloud w1 a1) (fun v3 h2 M2 w2 => ?_)
  refine zr_if ?_ ?_
  · exact zr_ok w2
  · refine zr_bd (zr_lp (fun s4 h5 M5 w5 => ?_) 0 h2 M2 w2) (fun e6 h7 M7 w7 => ?_)
    · refine zr_cv w5 zio_8 (r_X8_knownMany w5 ) (fun v9 h8 M8 w8 => ?_)
      refine zr_if ?_ ?_
      · exact zr_ok w8
      · refine zr_gR w8 zio_8 rfl ?_
        refine zr_s (t := 2) (by decide) w8 zca_253 (fun h11 M11 w11 => ?_)
        exact zr_ok w11
    · refine zr_cv w7 zio_8 (r_X8_knownMany w7 ) (fun v13 h12 M12 w12 => ?_)
      refine zr_bd (zr_lp (fun s14 h15 M15 w15 => ?_) (v13 - 1) h12 M12 w12) (fun e16 h17 M17 w17 => ?_)
      · refine zr_if ?_ ?_
        · exact zr_ok w15
        · refine zr_gR w15 zio_8 rfl ?_
          refine zr_a2 w15 zca_253 (fun v19 => ?_)
          refine zr_if ?_ ?_
          · refine zr_gR w15 zio_8 rfl ?_
            refine zr_a0 w15 zca_252 (fun v21 => ?_)
            refine zr_if ?_ ?_
            · exact zr_ok w15
            · refine zr_gR w15 zio_8 rfl ?_
              refine zr_gR w15 zio_8 rfl ?_
              refine zr_a0 w15 zca_252 (fun v24 => ?_)
              refine zr_s (t := 2) (by decide) w15 zca_253 (fun h25 M25 w25 => ?_)
              exact zr_ok w25
          · exact zr_ok w15
      · refine zr_bd (zr_lp (fun s26 h27 M27 w27 => ?_) (0, 0) h17 M17 w17) (fun e28 h29 M29 w29 => ?_)
        · refine zr_cv w27 zio_8 (r_X8_knownMany w27 ) (fun v31 h30 M30 w30 => ?_)
          refine zr_if ?_ ?_
          · exact zr_ok w30
          · refine zr_gR w30 zio_8 rfl ?_
            refine zr_a2 w30 zca_253 (fun v33 => ?_)
            refine zr_if ?_ ?_
            · refine zr_gR w30 zio_8 rfl ?_
              refine zr_a0 w30 zca_252 (fun v35 => ?_)
              refine zr_if ?_ ?_
              · refine zr_gR w30 zio_8 rfl ?_
                refine zr_a0 w30 zca_249 (fun v37 => ?_)
                exact zr_ok w30
              · exact zr_ok w30
            · exact zr_ok w30
        · refine zr_pV w29 zio_8 (Nat.le_of_ble_eq_true rfl) rfl (fun h38 M38 w38 => ?_)
          refine zr_bd (zr_lp (fun s39 h40 M40 w40 => ?_) (0, 1) h38 M38 w38) (fun e41 h42 M42 w42 => ?_)
          · refine zr_if ?_ ?_
            · exact zr_ok w40
            · refine zr_pV w40 zio_8 (Nat.le_of_ble_eq_true rfl) rfl (fun h43 M43 w43 => ?_)
              refine zr_cv w43 zio_8 (r_X8_fitsSize w43 e28.1) (fun v45 h44 M44 w44 => ?_)
              refine zr_if ?_ ?_
              · exact zr_ok w44
              · exact zr_ok w44
          · refine zr_pV w42 zio_8 (Nat.le_of_ble_eq_true rfl) rfl (fun h46 M46 w46 => ?_)
            exact zr_ok w46
def m_X8_stand (a1 : Int32) (a2 : Int32) (a3 : Int32) (M0 : zMem) : Option (Int32 × zMem) :=
  mlt (mup M0 213 0 0) (fun M1 =>
  mbd (m_X8_isChild a1 M1) (fun v3 M2 =>
  if v3 = 0 then
  some (0, M2)
  else
  mbd (m_X8_isCell a2 a3 M2) (fun v5 M4 =>
  if v5 = 0 then
  some (0, M4)
  else
  zob (mrd M4 241 a1) (fun v7 =>
  if v7 = ((6 * a3) + a2) then
  some (0, M4)
  else
  mbd (m_X8_keepNow  M4) (fun v9 M8 =>
  zob (mwr M8 241 a1 ((6 * a3) + a2)) (fun M11 =>
  some (1, M11)))))))
set_option maxRecDepth 100000 in
set_option maxHeartbeats 4000000 in
theorem r_X8_stand {B n : Nat} {h0 : zHp} {M0 : zMem} (w0 : zW B n h0 M0) (a1 : Int32) (a2 : Int32) (a3 : Int32) : zRR B n (f_X8_stand (B + 213) a1 a2 a3 h0) (m_X8_stand a1 a2 a3 M0) := by
  unfold f_X8_stand m_X8_stand
  refine zr_pV w0 zio_8 (Nat.le_of_ble_eq_true rfl) rfl (fun h1 M1 w1 => ?_)
  refine zr_cv w1 zio_8 (r_X8_isChild w1 a1) (fun v3 h2 M2 w2 => ?_)
  refine zr_if ?_ ?_
  · exact zr_ok w2
  · refine zr_bd (r_X8_isCell w2 a2 a3) (fun v5 h4 M4 w4 => ?_)
    refine zr_if ?_ ?_
    · exact zr_ok w4
    · refine zr_gR w4 zio_8 rfl ?_
      refine zr_a0 w4 zca_241 (fun v7 => ?_)
      refine zr_if ?_ ?_
      · exact zr_ok w4
      · refine zr_cv w4 zio_8 (r_X8_keepNow w4 ) (fun v9 h8 M8 w8 => ?_)
        refine zr_gR w8 zio_8 rfl ?_
        refine zr_s0 w8 zca_241 (fun h11 M11 w11 => ?_)
        exact zr_ok w11
def m_X8_station (a1 : Int32) (a2 : Int32) (a3 : Int32) (M0 : zMem) : Option (Int32 × zMem) :=
  mlt (mup M0 213 0 0) (fun M1 =>
  mbd (m_X8_isChild a1 M1) (fun v3 M2 =>
  if v3 = 0 then
  some ((-1), M2)
  else
  if a2 < 1 then
  some ((-1), M2)
  else
  if 60 < a2 then
  some ((-1), M2)
  else
  if a3 < 0 then
  some ((-1), M2)
  else
  if a3 ≤ 1 then
  mbd (
  mlp (σ := Int32) (β := Int32) zLF (fun s4 M5 =>
  if 24 ≤ s4 then
  some ((.inr s4), M5)
  else
  zob (mwr M5 246 s4 0) (fun M9 =>
  some ((.inl (s4 + 1)), M9))) 0 M2) (fun e6 M7 =>
  mbd (m_X8_copies 1 0 M7) (fun v11 M10 =>
  mbd (
  mlp (σ := Int32) (β := Int32) zLF (fun s12 M13 =>
  if a2 ≤ s12 then
  some ((.inr s12), M13)
  else
  mbd (m_X8_passes 1 M13) (fun v17 M16 =>
  mbd (
  mlp (σ := Int32) (β := Int32) zLF (fun s18 M19 =>
  zob (mrd M19 215 1) (fun v23 =>
  if v23 ≤ s18 then
  some ((.inr s18), M19)
  else
  mbd (m_X8_isUp 1 s18 M19) (fun v25 M24 =>
  if v25 = 0 then
  some ((.inl (s18 + 1)), M24)
  else
  mbd (
  mlp (σ := Int32) (β := Int32) zLF (fun s26 M27 =>
  if 24 ≤ s26 then
  some ((.inr s26), M27)
  else
  zob (mrd M27 246 s26) (fun v31 =>
  zob (mrd M27 236 (8 + s18)) (fun v33 =>
  mbd (m_X8_farOf s26 v33 M27) (fun v35 M34 =>
  zob (mrd M34 226 a1) (fun v37 =>
  mbd (α := Int32) (
  if v37 < v35 then
  some (0, M34)
  else
  some (1, M34)) (fun e38 M39 =>
  zob (mwr M39 246 s26 (v31 + e38)) (fun M40 =>
  some ((.inl (s26 + 1)), M40)))))))) 0 M24) (fun e28 M29 =>
  some ((.inl (s18 + 1)), M29))))) 0 M16) (fun e20 M21 =>
  some ((.inl (s12 + 1)), M21)))) 0 M10) (fun e14 M15 =>
  mbd (
  mlp (σ := (Int32 × Int32)) (β := (Int32 × Int32)) zLF (fun s41 M42 =>
  if 24 ≤ s41.2 then
  some ((.inr (s41.1, s41.2)), M42)
  else
  zob (mrd M42 246 s41.2) (fun v46 =>
  zob (mrd M42 246 s41.1) (fun v48 =>
  if v46 ≤ v48 then
  some ((.inl (s41.1, (s41.2 + 1))), M42)
  else
  some ((.inl (s41.2, (s41.2 + 1))), M42)))) (0, 1) M15) (fun e43 M44 =>
  if a3 = 0 then
  some (e43.1, M44)
  else
  zob (mrd M44 246 e43.1) (fun v50 =>
  some (v50, M44))))))
  else
  some ((-1), M2)))
set_option maxRecDepth 100000 in
set_option maxHeartbeats 4000000 in
theorem r_X8_station {B n : Nat} {h0 : zHp} {M0 : zMem} (w0 : zW B n h0 M0) (a1 : Int32) (a2 : Int32) (a3 : Int32) : zRR B n (f_X8_station (B + 213) a1 a2 a3 h0) (m_X8_station a1 a2 a3 M0) := by
  unfold f_X8_station m_X8_station
  refine zr_pV w0 zio_8 (Nat.le_of_ble_eq_true rfl) rfl (fun h1 M1 w1 => ?_)
  refine zr_cv w1 zio_8 (r_X8_isChild w1 a1) (fun v3 h2 M2 w2 => ?_)
  refine zr_if ?_ ?_
  · exact zr_ok w2
  · refine zr_if ?_ ?_
    · exact zr_ok w2
    · refine zr_if ?_ ?_
      · exact zr_ok w2
      · refine zr_if ?_ ?_
        · exact zr_ok w2
        · refine zr_if ?_ ?_
          · refine zr_bd (zr_lp (fun s4 h5 M5 w5 => ?_) 0 h2 M2 w2) (fun e6 h7 M7 w7 => ?_)
            · refine zr_if ?_ ?_
              · exact zr_ok w5
              · refine zr_gR w5 zio_8 rfl ?_
                refine zr_s0 w5 zca_246 (fun h9 M9 w9 => ?_)
                exact zr_ok w9
            · refine zr_cv w7 zio_8 (r_X8_copies w7 1 0) (fun v11 h10 M10 w10 => ?_)
              refine zr_bd (zr_lp (fun s12 h13 M13 w13 => ?_) 0 h10 M10 w10) (fun e14 h15 M15 w15 => ?_)
              · refine zr_if ?_ ?_
                · exact zr_ok w13
                · refine zr_cv w13 zio_8 (r_X8_passes w13 1) (fun v17 h16 M16 w16 => ?_)
                  refine zr_bd (zr_lp (fun s18 h19 M19 w19 => ?_) 0 h16 M16 w16) (fun e20 h21 M21 w21 => ?_)
                  · refine zr_gR w19 zio_8 rfl ?_
                    refine zr_a0 w19 zca_215 (fun v23 => ?_)
                    refine zr_if ?_ ?_
                    · exact zr_ok w19
                    · refine zr_cv w19 zio_8 (r_X8_isUp w19 1 s18) (fun v25 h24 M24 w24 => ?_)
                      refine zr_if ?_ ?_
                      · exact zr_ok w24
                      · refine zr_bd (zr_lp (fun s26 h27 M27 w27 => ?_) 0 h24 M24 w24) (fun e28 h29 M29 w29 => ?_)
                        · refine zr_if ?_ ?_
                          · exact zr_ok w27
                          · refine zr_gR w27 zio_8 rfl ?_
                            refine zr_a0 w27 zca_246 (fun v31 => ?_)
                            refine zr_gR w27 zio_8 rfl ?_
                            refine zr_a0 w27 zca_236 (fun v33 => ?_)
                            refine zr_bd (r_X8_farOf w27 s26 v33) (fun v35 h34 M34 w34 => ?_)
                            refine zr_gR w34 zio_8 rfl ?_
                            refine zr_a0 w34 zca_226 (fun v37 => ?_)
                            refine zr_bd ?_ (fun e38 h39 M39 w39 => ?_)
                            · refine zr_if ?_ ?_
                              · exact zr_ok w34
                              · exact zr_ok w34
                            · refine zr_s0 w39 zca_246 (fun h40 M40 w40 => ?_)
                              exact zr_ok w40
                        · exact zr_ok w29
                  · exact zr_ok w21
              · refine zr_bd (zr_lp (fun s41 h42 M42 w42 => ?_) (0, 1) h15 M15 w15) (fun e43 h44 M44 w44 => ?_)
                · refine zr_if ?_ ?_
                  · exact zr_ok w42
                  · refine zr_gR w42 zio_8 rfl ?_
                    refine zr_a0 w42 zca_246 (fun v46 => ?_)
                    refine zr_gR w42 zio_8 rfl ?_
                    refine zr_a0 w42 zca_246 (fun v48 => ?_)
                    refine zr_if ?_ ?_
                    · exact zr_ok w42
                    · exact zr_ok w42
                · refine zr_if ?_ ?_
                  · exact zr_ok w44
                  · refine zr_gR w44 zio_8 rfl ?_
                    refine zr_a0 w44 zca_246 (fun v50 => ?_)
                    exact zr_ok w44
          · exact zr_ok w2
def m_X8_step (a1 : Int32) (a2 : Int32) (a3 : Int32) (a4 : Int32) (M0 : zMem) : Option (Int32 × zMem) :=
  mlt (mup M0 213 0 0) (fun M1 =>
  mbd (m_X8_isPlan a1 a2 a3 M1) (fun v3 M2 =>
  if v3 = 0 then
  some ((-1), M2)
  else
  if 0 ≤ a4 then
  if a4 < a3 then
  mbd (m_X8_layPlan a1 a2 a3 M2) (fun v5 M4 =>
  mbd (m_X8_fives ((a3 - 1) - a4) M4) (fun v8 M7 =>
  zob (zdv (M4.1 213 58) v8) (fun v9 =>
  some ((zrm v9 5), M7))))
  else
  some ((-2), M2)
  else
  some ((-1), M2)))
set_option maxRecDepth 100000 in
set_option maxHeartbeats 4000000 in
theorem r_X8_step {B n : Nat} {h0 : zHp} {M0 : zMem} (w0 : zW B n h0 M0) (a1 : Int32) (a2 : Int32) (a3 : Int32) (a4 : Int32) : zRR B n (f_X8_step (B + 213) a1 a2 a3 a4 h0) (m_X8_step a1 a2 a3 a4 M0) := by
  unfold f_X8_step m_X8_step
  refine zr_pV w0 zio_8 (Nat.le_of_ble_eq_true rfl) rfl (fun h1 M1 w1 => ?_)
  refine zr_cv w1 zio_8 (r_X8_isPlan w1 a1 a2 a3) (fun v3 h2 M2 w2 => ?_)
  refine zr_if ?_ ?_
  · exact zr_ok w2
  · refine zr_if ?_ ?_
    · refine zr_if ?_ ?_
      · refine zr_cv w2 zio_8 (r_X8_layPlan w2 a1 a2 a3) (fun v5 h4 M4 w4 => ?_)
        refine zr_gI w4 zio_8 rfl ?_
        refine zr_bd (r_X8_fives w4 ((a3 - 1) - a4)) (fun v8 h7 M7 w7 => ?_)
        refine zr_obp (fun v9 => ?_)
        exact zr_ok w7
      · exact zr_ok w2
    · exact zr_ok w2
def m_X8_wouldSwap (a1 : Int32) (a2 : Int32) (M0 : zMem) : Option (Int32 × zMem) :=
  mbd (m_X8_isUp 0 a1 M0) (fun v2 M1 =>
  if v2 = 0 then
  some (0, M1)
  else
  mbd (m_X8_isUp 0 a2 M1) (fun v4 M3 =>
  if v4 = 0 then
  some (0, M3)
  else
  zob (mrd M3 239 a1) (fun v6 =>
  zob (mrd M3 239 a2) (fun v8 =>
  if v6 = (-1) then
  some (0, M3)
  else
  if v8 = (-1) then
  some (0, M3)
  else
  if v6 = v8 then
  some (0, M3)
  else
  zob (mrd M3 241 v6) (fun v10 =>
  zob (mrd M3 236 a2) (fun v12 =>
  mbd (m_X8_farOf v10 v12 M3) (fun v14 M13 =>
  zob (mrd M13 241 v6) (fun v16 =>
  zob (mrd M13 236 a1) (fun v18 =>
  mbd (m_X8_farOf v16 v18 M13) (fun v20 M19 =>
  if v20 ≤ v14 then
  some (0, M19)
  else
  zob (mrd M19 241 v8) (fun v22 =>
  zob (mrd M19 236 a1) (fun v24 =>
  mbd (m_X8_farOf v22 v24 M19) (fun v26 M25 =>
  zob (mrd M25 241 v8) (fun v28 =>
  zob (mrd M25 236 a2) (fun v30 =>
  mbd (m_X8_farOf v28 v30 M25) (fun v32 M31 =>
  if v32 ≤ v26 then
  some (0, M31)
  else
  some (1, M31)))))))))))))))))
set_option maxRecDepth 100000 in
set_option maxHeartbeats 4000000 in
theorem r_X8_wouldSwap {B n : Nat} {h0 : zHp} {M0 : zMem} (w0 : zW B n h0 M0) (a1 : Int32) (a2 : Int32) : zRR B n (f_X8_wouldSwap (B + 213) a1 a2 h0) (m_X8_wouldSwap a1 a2 M0) := by
  unfold f_X8_wouldSwap m_X8_wouldSwap
  refine zr_cv w0 zio_8 (r_X8_isUp w0 0 a1) (fun v2 h1 M1 w1 => ?_)
  refine zr_if ?_ ?_
  · exact zr_ok w1
  · refine zr_cv w1 zio_8 (r_X8_isUp w1 0 a2) (fun v4 h3 M3 w3 => ?_)
    refine zr_if ?_ ?_
    · exact zr_ok w3
    · refine zr_gR w3 zio_8 rfl ?_
      refine zr_a0 w3 zca_239 (fun v6 => ?_)
      refine zr_gR w3 zio_8 rfl ?_
      refine zr_a0 w3 zca_239 (fun v8 => ?_)
      refine zr_if ?_ ?_
      · exact zr_ok w3
      · refine zr_if ?_ ?_
        · exact zr_ok w3
        · refine zr_if ?_ ?_
          · exact zr_ok w3
          · refine zr_gR w3 zio_8 rfl ?_
            refine zr_a0 w3 zca_241 (fun v10 => ?_)
            refine zr_gR w3 zio_8 rfl ?_
            refine zr_a0 w3 zca_236 (fun v12 => ?_)
            refine zr_bd (r_X8_farOf w3 v10 v12) (fun v14 h13 M13 w13 => ?_)
            refine zr_gR w13 zio_8 rfl ?_
            refine zr_a0 w13 zca_241 (fun v16 => ?_)
            refine zr_gR w13 zio_8 rfl ?_
            refine zr_a0 w13 zca_236 (fun v18 => ?_)
            refine zr_bd (r_X8_farOf w13 v16 v18) (fun v20 h19 M19 w19 => ?_)
            refine zr_if ?_ ?_
            · exact zr_ok w19
            · refine zr_gR w19 zio_8 rfl ?_
              refine zr_a0 w19 zca_241 (fun v22 => ?_)
              refine zr_gR w19 zio_8 rfl ?_
              refine zr_a0 w19 zca_236 (fun v24 => ?_)
              refine zr_bd (r_X8_farOf w19 v22 v24) (fun v26 h25 M25 w25 => ?_)
              refine zr_gR w25 zio_8 rfl ?_
              refine zr_a0 w25 zca_241 (fun v28 => ?_)
              refine zr_gR w25 zio_8 rfl ?_
              refine zr_a0 w25 zca_236 (fun v30 => ?_)
              refine zr_bd (r_X8_farOf w25 v28 v30) (fun v32 h31 M31 w31 => ?_)
              refine zr_if ?_ ?_
              · exact zr_ok w31
              · exact zr_ok w31
def m_X8_swapOf (a1 : Int32) (M0 : zMem) : Option (Int32 × zMem) :=
  mbd (
  mlp (σ := (Int32 × Int32)) (β := ((Int32 × Int32) ⊕ Int32)) zLF (fun s1 M2 =>
  zob (mrd M2 215 1) (fun v6 =>
  if v6 ≤ s1.2 then
  some ((.inr (.inl (s1.1, s1.2))), M2)
  else
  mbd (
  mlp (σ := (Int32 × Int32)) (β := ((Int32 × Int32) ⊕ ((Int32 × Int32) ⊕ ((Int32 × Int32) ⊕ Int32)))) zLF (fun s7 M8 =>
  zob (mrd M8 215 1) (fun v12 =>
  if v12 ≤ s7.2 then
  some ((.inr (.inl (s7.1, s7.2))), M8)
  else
  mbd (m_X8_wouldSwap s1.2 s7.2 M8) (fun v14 M13 =>
  if v14 = 0 then
  some ((.inl (s7.1, (s7.2 + 1))), M13)
  else
  if s7.1 = a1 then
  some ((.inr (.inr (.inr (.inr ((10 * s1.2) + s7.2))))), M13)
  else
  some ((.inl ((s7.1 + 1), (s7.2 + 1))), M13)))) (s1.1, (s1.2 + 1)) M2) (fun b15 M10 => zsl b15 (fun e9 =>
  some ((.inl (e9.1, (s1.2 + 1))), M10)) (fun r => some (r, M10))))) (0, 0) M0) (fun b16 M4 => zsl b16 (fun e3 =>
  if a1 = (-1) then
  some (e3.1, M4)
  else
  some ((-2), M4)) (fun r => some (r, M4)))
set_option maxRecDepth 100000 in
set_option maxHeartbeats 4000000 in
theorem r_X8_swapOf {B n : Nat} {h0 : zHp} {M0 : zMem} (w0 : zW B n h0 M0) (a1 : Int32) : zRR B n (f_X8_swapOf (B + 213) a1 h0) (m_X8_swapOf a1 M0) := by
  unfold f_X8_swapOf m_X8_swapOf
  refine zr_bd (zr_lp (fun s1 h2 M2 w2 => ?_) (0, 0) h0 M0 w0) (fun b16 h4 M4 w4 => zr_sl (fun e3 => ?_) (fun r => zr_ok w4))
  · refine zr_gR w2 zio_8 rfl ?_
    refine zr_a0 w2 zca_215 (fun v6 => ?_)
    refine zr_if ?_ ?_
    · exact zr_ok w2
    · refine zr_bd (zr_lp (fun s7 h8 M8 w8 => ?_) (s1.1, (s1.2 + 1)) h2 M2 w2) (fun b15 h10 M10 w10 => zr_sl (fun e9 => ?_) (fun r => zr_ok w10))
      · refine zr_gR w8 zio_8 rfl ?_
        refine zr_a0 w8 zca_215 (fun v12 => ?_)
        refine zr_if ?_ ?_
        · exact zr_ok w8
        · refine zr_cv w8 zio_8 (r_X8_wouldSwap w8 s1.2 s7.2) (fun v14 h13 M13 w13 => ?_)
          refine zr_if ?_ ?_
          · exact zr_ok w13
          · refine zr_if ?_ ?_
            · exact zr_ok w13
            · exact zr_ok w13
      · exact zr_ok w10
  · refine zr_if ?_ ?_
    · exact zr_ok w4
    · exact zr_ok w4
def m_X8_swap (a1 : Int32) (M0 : zMem) : Option (Int32 × zMem) :=
  mlt (mup M0 213 0 0) (fun M1 =>
  if 0 ≤ a1 then
  mbd (m_X8_swapOf a1 M1) (fun v3 M2 =>
  some (v3, M2))
  else
  some ((-1), M1))
set_option maxRecDepth 100000 in
set_option maxHeartbeats 4000000 in
theorem r_X8_swap {B n : Nat} {h0 : zHp} {M0 : zMem} (w0 : zW B n h0 M0) (a1 : Int32) : zRR B n (f_X8_swap (B + 213) a1 h0) (m_X8_swap a1 M0) := by
  unfold f_X8_swap m_X8_swap
  refine zr_pV w0 zio_8 (Nat.le_of_ble_eq_true rfl) rfl (fun h1 M1 w1 => ?_)
  refine zr_if ?_ ?_
  · refine zr_cv w1 zio_8 (r_X8_swapOf w1 a1) (fun v3 h2 M2 w2 => ?_)
    exact zr_ok w2
  · exact zr_ok w1
def m_X8_swaps  (M0 : zMem) : Option (Int32 × zMem) :=
  mlt (mup M0 213 0 0) (fun M1 =>
  mbd (m_X8_swapOf (-1) M1) (fun v3 M2 =>
  some (v3, M2)))
set_option maxRecDepth 100000 in
set_option maxHeartbeats 4000000 in
theorem r_X8_swaps {B n : Nat} {h0 : zHp} {M0 : zMem} (w0 : zW B n h0 M0)  : zRR B n (f_X8_swaps (B + 213) h0) (m_X8_swaps  M0) := by
  unfold f_X8_swaps m_X8_swaps
  refine zr_pV w0 zio_8 (Nat.le_of_ble_eq_true rfl) rfl (fun h1 M1 w1 => ?_)
  refine zr_cv w1 zio_8 (r_X8_swapOf w1 (-1)) (fun v3 h2 M2 w2 => ?_)
  exact zr_ok w2
def m_X8_text (a1 : Int32) (M0 : zMem) : Option (Int32 × zMem) :=
  mlt (mup M0 213 0 0) (fun M1 =>
  if a1 < 0 then
  some ((-2), M1)
  else
  if a1 ≤ (M1.1 213 2) then
  mlt (mup M1 213 22 a1) (fun M3 =>
  mlt (mup M3 213 2 0) (fun M4 =>
  mlt (mup M4 213 23 0) (fun M5 =>
  mlt (mup M5 213 27 0) (fun M6 =>
  mlt (mup M6 213 28 (-1)) (fun M7 =>
  mbd (
  mlp (σ := Int32) (β := Int32) zLF (fun s8 M9 =>
  if 8 ≤ s8 then
  some ((.inr s8), M9)
  else
  mbd (α := Int32) (
  if s8 = 4 then
  some (6, M9)
  else
  if s8 = 5 then
  some (9, M9)
  else
  some (0, M9)) (fun e12 M13 =>
  mbd (m_X8_reads s8 e12 M13) (fun v15 M14 =>
  some ((.inl (s8 + 1)), M14)))) 0 M7) (fun e10 M11 =>
  mbd (
  mlp (σ := Int32) (β := Int32) zLF (fun s16 M17 =>
  if 24 ≤ s16 then
  some ((.inr s16), M17)
  else
  zob (mwr M17 216 (24 + s16) 0) (fun M21 =>
  some ((.inl (s16 + 1)), M21))) 0 M11) (fun e18 M19 =>
  mbd (
  mlp (σ := Int32) (β := Int32) zLF (fun s22 M23 =>
  if 6 ≤ s22 then
  some ((.inr s22), M23)
  else
  zob (mwr M23 228 s22 0) (fun M27 =>
  zob (mwr M27 229 s22 0) (fun M29 =>
  some ((.inl (s22 + 1)), M29)))) 3 M19) (fun e24 M25 =>
  mlt (mup M25 213 20 0) (fun M30 =>
  mlt (mup M30 213 21 0) (fun M31 =>
  mlt (mup M31 213 31 0) (fun M32 =>
  mlt (mup M32 213 32 0) (fun M33 =>
  mbd (m_X8_token  M33) (fun v35 M34 =>
  mbd (
  mlp (σ := Unit) (β := Unit) zLF (fun s36 M37 =>
  if (M37.1 213 27) = 0 then
  if (M37.1 213 25) = 4 then
  some ((.inr ()), M37)
  else
  mbd (m_X8_line  M37) (fun v43 M42 =>
  some ((.inl ()), M42))
  else
  some ((.inr ()), M37)) () M34) (fun e38 M39 =>
  mlt (mup M39 213 29 (M39.1 213 27)) (fun M45 =>
  mlt (mup M45 213 30 (M45.1 213 28)) (fun M47 =>
  if (M47.1 213 27) = 0 then
  mbd (m_X8_half 215 M47) (fun v51 M50 =>
  mbd (m_X8_half 216 M50) (fun v54 M53 =>
  mbd (m_X8_half 217 M53) (fun v57 M56 =>
  mbd (m_X8_half 218 M56) (fun v60 M59 =>
  mbd (m_X8_half 219 M59) (fun v63 M62 =>
  mbd (m_X8_half 220 M62) (fun v66 M65 =>
  mbd (m_X8_half 221 M65) (fun v69 M68 =>
  mbd (m_X8_half 222 M68) (fun v72 M71 =>
  mbd (m_X8_half 223 M71) (fun v75 M74 =>
  mbd (m_X8_half 224 M74) (fun v78 M77 =>
  mbd (m_X8_half 225 M77) (fun v81 M80 =>
  mbd (m_X8_half 226 M80) (fun v84 M83 =>
  mbd (m_X8_half 227 M83) (fun v87 M86 =>
  mbd (m_X8_half 228 M86) (fun v90 M89 =>
  mbd (m_X8_half 229 M89) (fun v93 M92 =>
  mbd (m_X8_half 230 M92) (fun v96 M95 =>
  mbd (m_X8_half 231 M95) (fun v99 M98 =>
  mlt (mup M98 213 61 0) (fun M100 =>
  mlt (mup M100 213 62 (-1)) (fun M101 =>
  mlt (mup M101 213 47 0) (fun M102 =>
  mlt (mup M102 213 48 0) (fun M103 =>
  mbd (m_X8_begins  M103) (fun v105 M104 =>
  some ((M104.1 213 21), M104)))))))))))))))))))))))
  else
  some ((-1), M47)))))))))))))))))
  else
  some ((-2), M1))
set_option maxRecDepth 100000 in
set_option maxHeartbeats 4000000 in
theorem r_X8_text {B n : Nat} {h0 : zHp} {M0 : zMem} (w0 : zW B n h0 M0) (a1 : Int32) : zRR B n (f_X8_text (B + 213) a1 h0) (m_X8_text a1 M0) := by
  unfold f_X8_text m_X8_text
  refine zr_pV w0 zio_8 (Nat.le_of_ble_eq_true rfl) rfl (fun h1 M1 w1 => ?_)
  refine zr_if ?_ ?_
  · exact zr_ok w1
  · refine zr_gI w1 zio_8 rfl ?_
    refine zr_if ?_ ?_
    · refine zr_pV w1 zio_8 (Nat.le_of_ble_eq_true rfl) rfl (fun h3 M3 w3 => ?_)
      refine zr_pV w3 zio_8 (Nat.le_of_ble_eq_true rfl) rfl (fun h4 M4 w4 => ?_)
      refine zr_pV w4 zio_8 (Nat.le_of_ble_eq_true rfl) rfl (fun h5 M5 w5 => ?_)
      refine zr_pV w5 zio_8 (Nat.le_of_ble_eq_true rfl) rfl (fun h6 M6 w6 => ?_)
      refine zr_pV w6 zio_8 (Nat.le_of_ble_eq_true rfl) rfl (fun h7 M7 w7 => ?_)
      refine zr_bd (zr_lp (fun s8 h9 M9 w9 => ?_) 0 h7 M7 w7) (fun e10 h11 M11 w11 => ?_)
      · refine zr_if ?_ ?_
        · exact zr_ok w9
        · refine zr_bd ?_ (fun e12 h13 M13 w13 => ?_)
          · refine zr_if ?_ ?_
            · exact zr_ok w9
            · refine zr_if ?_ ?_
              · exact zr_ok w9
              · exact zr_ok w9
          · refine zr_cv w13 zio_8 (r_X8_reads w13 s8 e12) (fun v15 h14 M14 w14 => ?_)
            exact zr_ok w14
      · refine zr_bd (zr_lp (fun s16 h17 M17 w17 => ?_) 0 h11 M11 w11) (fun e18 h19 M19 w19 => ?_)
        · refine zr_if ?_ ?_
          · exact zr_ok w17
          · refine zr_gR w17 zio_8 rfl ?_
            refine zr_s0 w17 zca_216 (fun h21 M21 w21 => ?_)
            exact zr_ok w21
        · refine zr_bd (zr_lp (fun s22 h23 M23 w23 => ?_) 3 h19 M19 w19) (fun e24 h25 M25 w25 => ?_)
          · refine zr_if ?_ ?_
            · exact zr_ok w23
            · refine zr_gR w23 zio_8 rfl ?_
              refine zr_s0 w23 zca_228 (fun h27 M27 w27 => ?_)
              refine zr_gR w27 zio_8 rfl ?_
              refine zr_s0 w27 zca_229 (fun h29 M29 w29 => ?_)
              exact zr_ok w29
          · refine zr_pV w25 zio_8 (Nat.le_of_ble_eq_true rfl) rfl (fun h30 M30 w30 => ?_)
            refine zr_pV w30 zio_8 (Nat.le_of_ble_eq_true rfl) rfl (fun h31 M31 w31 => ?_)
            refine zr_pV w31 zio_8 (Nat.le_of_ble_eq_true rfl) rfl (fun h32 M32 w32 => ?_)
            refine zr_pV w32 zio_8 (Nat.le_of_ble_eq_true rfl) rfl (fun h33 M33 w33 => ?_)
            refine zr_cv w33 zio_8 (r_X8_token w33 ) (fun v35 h34 M34 w34 => ?_)
            refine zr_bd (zr_lp (fun s36 h37 M37 w37 => ?_) () h34 M34 w34) (fun e38 h39 M39 w39 => ?_)
            · refine zr_gI w37 zio_8 rfl ?_
              refine zr_if ?_ ?_
              · refine zr_gI w37 zio_8 rfl ?_
                refine zr_if ?_ ?_
                · exact zr_ok w37
                · refine zr_cv w37 zio_8 (r_X8_line w37 ) (fun v43 h42 M42 w42 => ?_)
                  exact zr_ok w42
              · exact zr_ok w37
            · refine zr_gI w39 zio_8 rfl ?_
              refine zr_pV w39 zio_8 (Nat.le_of_ble_eq_true rfl) rfl (fun h45 M45 w45 => ?_)
              refine zr_gI w45 zio_8 rfl ?_
              refine zr_pV w45 zio_8 (Nat.le_of_ble_eq_true rfl) rfl (fun h47 M47 w47 => ?_)
              refine zr_gI w47 zio_8 rfl ?_
              refine zr_if ?_ ?_
              · refine zr_gR w47 zio_8 rfl ?_
                refine zr_bd (r_X8_half w47 215 zca_215) (fun v51 h50 M50 w50 => ?_)
                refine zr_gR w50 zio_8 rfl ?_
                refine zr_bd (r_X8_half w50 216 zca_216) (fun v54 h53 M53 w53 => ?_)
                refine zr_gR w53 zio_8 rfl ?_
                refine zr_bd (r_X8_half w53 217 zca_217) (fun v57 h56 M56 w56 => ?_)
                refine zr_gR w56 zio_8 rfl ?_
                refine zr_bd (r_X8_half w56 218 zca_218) (fun v60 h59 M59 w59 => ?_)
                refine zr_gR w59 zio_8 rfl ?_
                refine zr_bd (r_X8_half w59 219 zca_219) (fun v63 h62 M62 w62 => ?_)
                refine zr_gR w62 zio_8 rfl ?_
                refine zr_bd (r_X8_half w62 220 zca_220) (fun v66 h65 M65 w65 => ?_)
                refine zr_gR w65 zio_8 rfl ?_
                refine zr_bd (r_X8_half w65 221 zca_221) (fun v69 h68 M68 w68 => ?_)
                refine zr_gR w68 zio_8 rfl ?_
                refine zr_bd (r_X8_half w68 222 zca_222) (fun v72 h71 M71 w71 => ?_)
                refine zr_gR w71 zio_8 rfl ?_
                refine zr_bd (r_X8_half w71 223 zca_223) (fun v75 h74 M74 w74 => ?_)
                refine zr_gR w74 zio_8 rfl ?_
                refine zr_bd (r_X8_half w74 224 zca_224) (fun v78 h77 M77 w77 => ?_)
                refine zr_gR w77 zio_8 rfl ?_
                refine zr_bd (r_X8_half w77 225 zca_225) (fun v81 h80 M80 w80 => ?_)
                refine zr_gR w80 zio_8 rfl ?_
                refine zr_bd (r_X8_half w80 226 zca_226) (fun v84 h83 M83 w83 => ?_)
                refine zr_gR w83 zio_8 rfl ?_
                refine zr_bd (r_X8_half w83 227 zca_227) (fun v87 h86 M86 w86 => ?_)
                refine zr_gR w86 zio_8 rfl ?_
                refine zr_bd (r_X8_half w86 228 zca_228) (fun v90 h89 M89 w89 => ?_)
                refine zr_gR w89 zio_8 rfl ?_
                refine zr_bd (r_X8_half w89 229 zca_229) (fun v93 h92 M92 w92 => ?_)
                refine zr_gR w92 zio_8 rfl ?_
                refine zr_bd (r_X8_half w92 230 zca_230) (fun v96 h95 M95 w95 => ?_)
                refine zr_gR w95 zio_8 rfl ?_
                refine zr_bd (r_X8_half w95 231 zca_231) (fun v99 h98 M98 w98 => ?_)
                refine zr_pV w98 zio_8 (Nat.le_of_ble_eq_true rfl) rfl (fun h100 M100 w100 => ?_)
                refine zr_pV w100 zio_8 (Nat.le_of_ble_eq_true rfl) rfl (fun h101 M101 w101 => ?_)
                refine zr_pV w101 zio_8 (Nat.le_of_ble_eq_true rfl) rfl (fun h102 M102 w102 => ?_)
                refine zr_pV w102 zio_8 (Nat.le_of_ble_eq_true rfl) rfl (fun h103 M103 w103 => ?_)
                refine zr_cv w103 zio_8 (r_X8_begins w103 ) (fun v105 h104 M104 w104 => ?_)
                refine zr_gI w104 zio_8 rfl ?_
                exact zr_ok w104
              · exact zr_ok w47
    · exact zr_ok w1
def m_X8_thrown  (M0 : zMem) : Option (Int32 × zMem) :=
  some ((M0.1 213 0), M0)
set_option maxRecDepth 100000 in
set_option maxHeartbeats 4000000 in
theorem r_X8_thrown {B n : Nat} {h0 : zHp} {M0 : zMem} (w0 : zW B n h0 M0)  : zRR B n (f_X8_thrown (B + 213) h0) (m_X8_thrown  M0) := by
  unfold f_X8_thrown m_X8_thrown
  refine zr_gI w0 zio_8 rfl ?_
  exact zr_ok w0
def m_X8_tried (a1 : Int32) (a2 : Int32) (a3 : Int32) (M0 : zMem) : Option (Int32 × zMem) :=
  mlt (mup M0 213 0 0) (fun M1 =>
  mbd (α := Int32) (
  if a1 = 2 then
  mbd (m_X8_isCloud a2 M1) (fun v3 M2 =>
  some (v3, M2))
  else
  if a1 < 0 then
  some (0, M1)
  else
  if 5 < a1 then
  some (0, M1)
  else
  if a2 = 0 then
  some (1, M1)
  else
  some (0, M1)) (fun e4 M5 =>
  if e4 = 0 then
  some ((-1), M5)
  else
  if a3 < 0 then
  some ((-1), M5)
  else
  if a3 ≤ 60 then
  mlt (mup M5 213 49 a1) (fun M6 =>
  mlt (mup M6 213 50 a2) (fun M7 =>
  mbd (m_X8_runs a3 M7) (fun v9 M8 =>
  mlt (mup M8 213 49 0) (fun M10 =>
  mlt (mup M10 213 50 (-1)) (fun M11 =>
  mbd (m_X8_rainAll 1 M11) (fun v13 M12 =>
  mbd (m_X8_rainAll 0 M12) (fun v15 M14 =>
  some ((v13 - v15), M14))))))))
  else
  some ((-1), M5)))
set_option maxRecDepth 100000 in
set_option maxHeartbeats 4000000 in
theorem r_X8_tried {B n : Nat} {h0 : zHp} {M0 : zMem} (w0 : zW B n h0 M0) (a1 : Int32) (a2 : Int32) (a3 : Int32) : zRR B n (f_X8_tried (B + 213) a1 a2 a3 h0) (m_X8_tried a1 a2 a3 M0) := by
  unfold f_X8_tried m_X8_tried
  refine zr_pV w0 zio_8 (Nat.le_of_ble_eq_true rfl) rfl (fun h1 M1 w1 => ?_)
  refine zr_bd ?_ (fun e4 h5 M5 w5 => ?_)
  · refine zr_if ?_ ?_
    · refine zr_cv w1 zio_8 (r_X8_isCloud w1 a2) (fun v3 h2 M2 w2 => ?_)
      exact zr_ok w2
    · refine zr_if ?_ ?_
      · exact zr_ok w1
      · refine zr_if ?_ ?_
        · exact zr_ok w1
        · refine zr_if ?_ ?_
          · exact zr_ok w1
          · exact zr_ok w1
  · refine zr_if ?_ ?_
    · exact zr_ok w5
    · refine zr_if ?_ ?_
      · exact zr_ok w5
      · refine zr_if ?_ ?_
        · refine zr_pV w5 zio_8 (Nat.le_of_ble_eq_true rfl) rfl (fun h6 M6 w6 => ?_)
          refine zr_pV w6 zio_8 (Nat.le_of_ble_eq_true rfl) rfl (fun h7 M7 w7 => ?_)
          refine zr_cv w7 zio_8 (r_X8_runs w7 a3) (fun v9 h8 M8 w8 => ?_)
          refine zr_pV w8 zio_8 (Nat.le_of_ble_eq_true rfl) rfl (fun h10 M10 w10 => ?_)
          refine zr_pV w10 zio_8 (Nat.le_of_ble_eq_true rfl) rfl (fun h11 M11 w11 => ?_)
          refine zr_cv w11 zio_8 (r_X8_rainAll w11 1) (fun v13 h12 M12 w12 => ?_)
          refine zr_cv w12 zio_8 (r_X8_rainAll w12 0) (fun v15 h14 M14 w14 => ?_)
          exact zr_ok w14
        · exact zr_ok w5
def m_X8_undo  (M0 : zMem) : Option (Int32 × zMem) :=
  mlt (mup M0 213 0 0) (fun M1 =>
  if (M1.1 213 48) = 0 then
  some ((-1), M1)
  else
  mlt (mup M1 213 48 ((M1.1 213 48) - 1)) (fun M4 =>
  mbd (m_X8_copies 0 (3 + (M4.1 213 48)) M4) (fun v7 M6 =>
  some ((M6.1 213 48), M6))))
set_option maxRecDepth 100000 in
set_option maxHeartbeats 4000000 in
theorem r_X8_undo {B n : Nat} {h0 : zHp} {M0 : zMem} (w0 : zW B n h0 M0)  : zRR B n (f_X8_undo (B + 213) h0) (m_X8_undo  M0) := by
  unfold f_X8_undo m_X8_undo
  refine zr_pV w0 zio_8 (Nat.le_of_ble_eq_true rfl) rfl (fun h1 M1 w1 => ?_)
  refine zr_gI w1 zio_8 rfl ?_
  refine zr_if ?_ ?_
  · exact zr_ok w1
  · refine zr_gI w1 zio_8 rfl ?_
    refine zr_pV w1 zio_8 (Nat.le_of_ble_eq_true rfl) rfl (fun h4 M4 w4 => ?_)
    refine zr_gI w4 zio_8 rfl ?_
    refine zr_cv w4 zio_8 (r_X8_copies w4 0 (3 + (M4.1 213 48))) (fun v7 h6 M6 w6 => ?_)
    refine zr_gI w6 zio_8 rfl ?_
    exact zr_ok w6
def m_X8_whose (a1 : Int32) (M0 : zMem) : Option (Int32 × zMem) :=
  mlt (mup M0 213 0 0) (fun M1 =>
  mbd (m_X8_isField a1 M1) (fun v3 M2 =>
  if v3 = 0 then
  some ((-1), M2)
  else
  mbd (
  mlp (σ := (Int32 × Int32 × Int32)) (β := (Int32 × Int32 × Int32)) zLF (fun s4 M5 =>
  zob (mrd M5 215 2) (fun v9 =>
  if v9 ≤ s4.2.2 then
  some ((.inr (s4.1, s4.2.1, s4.2.2)), M5)
  else
  zob (mrd M5 244 ((7 * a1) + s4.2.2)) (fun v11 =>
  if s4.2.1 < v11 then
  zob (mrd M5 244 ((7 * a1) + s4.2.2)) (fun v13 =>
  some ((.inl (s4.2.2, v13, (s4.2.2 + 1))), M5))
  else
  some ((.inl (s4.1, s4.2.1, (s4.2.2 + 1))), M5)))) ((-2), 0, 0) M2) (fun e6 M7 =>
  some (e6.1, M7))))
set_option maxRecDepth 100000 in
set_option maxHeartbeats 4000000 in
theorem r_X8_whose {B n : Nat} {h0 : zHp} {M0 : zMem} (w0 : zW B n h0 M0) (a1 : Int32) : zRR B n (f_X8_whose (B + 213) a1 h0) (m_X8_whose a1 M0) := by
  unfold f_X8_whose m_X8_whose
  refine zr_pV w0 zio_8 (Nat.le_of_ble_eq_true rfl) rfl (fun h1 M1 w1 => ?_)
  refine zr_cv w1 zio_8 (r_X8_isField w1 a1) (fun v3 h2 M2 w2 => ?_)
  refine zr_if ?_ ?_
  · exact zr_ok w2
  · refine zr_bd (zr_lp (fun s4 h5 M5 w5 => ?_) ((-2), 0, 0) h2 M2 w2) (fun e6 h7 M7 w7 => ?_)
    · refine zr_gR w5 zio_8 rfl ?_
      refine zr_a0 w5 zca_215 (fun v9 => ?_)
      refine zr_if ?_ ?_
      · exact zr_ok w5
      · refine zr_gR w5 zio_8 rfl ?_
        refine zr_a0 w5 zca_244 (fun v11 => ?_)
        refine zr_if ?_ ?_
        · refine zr_gR w5 zio_8 rfl ?_
          refine zr_a0 w5 zca_244 (fun v13 => ?_)
          exact zr_ok w5
        · exact zr_ok w5
    · exact zr_ok w7

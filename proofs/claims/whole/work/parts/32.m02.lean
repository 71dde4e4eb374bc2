def m_X4_readName (a1 : Nat) (a2 : Int32) (M0 : zMem) : Option (Int32 × zMem) :=
  if (M0.1 2 4) = 36 then
  mbd (m_X7_numberOf a1 a2 (M0.1 2 7) M0) (fun v4 M3 =>
  mbd (α := Unit) (
  if v4 = (-1) then
  some ((), M3)
  else
  mbd (m_X4_fail 3 M3) (fun v6 M5 =>
  some ((), M5))) (fun e7 M8 =>
  mbd (m_X4_advance  M8) (fun v11 M10 =>
  some ((M8.1 2 7), M10))))
  else
  mbd (m_X4_fail 1 M0) (fun v13 M12 =>
  some (0, M12))
set_option maxRecDepth 100000 in
set_option maxHeartbeats 4000000 in
theorem r_X4_readName {B n : Nat} {h0 : zHp} {M0 : zMem} (w0 : zW B n h0 M0) (a1 : Nat) {Np1 : Nat} (p1 : zIA 0 Np1 a1) (a2 : Int32) : zRR B n (f_X4_readName (B + 2) (B + a1) a2 h0) (m_X4_readName a1 a2 M0) := by
  unfold f_X4_readName m_X4_readName
  refine zr_gI w0 zio_4 rfl ?_
  refine zr_if ?_ ?_
  · refine zr_gI w0 zio_4 rfl ?_
    refine zr_bd (r_X7_numberOf w0 a1 p1 a2 (M0.1 2 7)) (fun v4 h3 M3 w3 => ?_)
    refine zr_bd ?_ (fun e7 h8 M8 w8 => ?_)
    · refine zr_if ?_ ?_
      · exact zr_ok w3
      · refine zr_cv w3 zio_4 (r_X4_fail w3 3) (fun v6 h5 M5 w5 => ?_)
        exact zr_ok w5
    · refine zr_gI w8 zio_4 rfl ?_
      refine zr_cv w8 zio_4 (r_X4_advance w8 ) (fun v11 h10 M10 w10 => ?_)
      exact zr_ok w10
  · refine zr_cv w0 zio_4 (r_X4_fail w0 1) (fun v13 h12 M12 w12 => ?_)
    exact zr_ok w12
def m_X4_readChild  (M0 : zMem) : Option (Unit × zMem) :=
  mlt (ztof (M0.1 2 10)) (fun t1 =>
  mbd (m_X4_hasRoom (M0.1 t1 15) 6 M0) (fun v4 M3 =>
  if v4 = 0 then
  some ((), M3)
  else
  mlt (ztof (M3.1 2 10)) (fun t5 =>
  mlt (ztof (M3.1 2 10)) (fun t7 =>
  mbd (m_X4_readName (t7 + 9) (M0.1 t1 15) M3) (fun v10 M9 =>
  zob (mwr M9 (t5 + 9) (M0.1 t1 15) v10) (fun M11 =>
  mlt (ztof (M11.1 2 10)) (fun t12 =>
  mbd (m_X4_readCell  M11) (fun v15 M14 =>
  zob (mwr M14 (t12 + 10) (M0.1 t1 15) v15) (fun M16 =>
  mlt (ztof (M16.1 2 10)) (fun t17 =>
  mbd (m_X4_readNumber 0 9 M16) (fun v20 M19 =>
  zob (mwr M19 (t17 + 11) (M0.1 t1 15) v20) (fun M21 =>
  mlt (ztof (M21.1 2 10)) (fun t22 =>
  mlt (mup M21 t22 15 ((M21.1 t22 15) + 1)) (fun M24 =>
  some ((), M24)))))))))))))))
set_option maxRecDepth 100000 in
set_option maxHeartbeats 4000000 in
theorem r_X4_readChild {B n : Nat} {h0 : zHp} {M0 : zMem} (w0 : zW B n h0 M0)  : zRR B n (f_X4_readChild (B + 2) h0) (m_X4_readChild  M0) := by
  unfold f_X4_readChild m_X4_readChild
  refine zr_gT w0 zio_4 rfl (fun t1 q1 => ?_)
  refine zr_gI w0 (zit_o q1) rfl ?_
  refine zr_cv w0 zio_4 (r_X4_hasRoom w0 (M0.1 t1 15) 6) (fun v4 h3 M3 w3 => ?_)
  refine zr_if ?_ ?_
  · exact zr_ok w3
  · refine zr_gT w3 zio_4 rfl (fun t5 q5 => ?_)
    refine zr_gR w3 (zit_o q5) rfl ?_
    refine zr_gT w3 zio_4 rfl (fun t7 q7 => ?_)
    refine zr_gR w3 (zit_o q7) rfl ?_
    refine zr_cv w3 zio_4 (r_X4_readName w3 (t7 + 9) (zta_8 q7) (M0.1 t1 15)) (fun v10 h9 M9 w9 => ?_)
    refine zr_s0 w9 (zta_8 q5) (fun h11 M11 w11 => ?_)
    refine zr_gT w11 zio_4 rfl (fun t12 q12 => ?_)
    refine zr_gR w11 (zit_o q12) rfl ?_
    refine zr_cv w11 zio_4 (r_X4_readCell w11 ) (fun v15 h14 M14 w14 => ?_)
    refine zr_s0 w14 (zta_9 q12) (fun h16 M16 w16 => ?_)
    refine zr_gT w16 zio_4 rfl (fun t17 q17 => ?_)
    refine zr_gR w16 (zit_o q17) rfl ?_
    refine zr_cv w16 zio_4 (r_X4_readNumber w16 0 9) (fun v20 h19 M19 w19 => ?_)
    refine zr_s0 w19 (zta_10 q17) (fun h21 M21 w21 => ?_)
    refine zr_gT w21 zio_4 rfl (fun t22 q22 => ?_)
    refine zr_gI w21 (zit_o q22) rfl ?_
    refine zr_pV w21 (zit_o q22) (Nat.le_of_ble_eq_true rfl) rfl (fun h24 M24 w24 => ?_)
    exact zr_ok w24
def m_X4_readCloud  (M0 : zMem) : Option (Unit × zMem) :=
  mlt (ztof (M0.1 2 10)) (fun t1 =>
  mbd (m_X4_hasRoom (M0.1 t1 14) 8 M0) (fun v4 M3 =>
  if v4 = 0 then
  some ((), M3)
  else
  mlt (ztof (M3.1 2 10)) (fun t5 =>
  mlt (ztof (M3.1 2 10)) (fun t7 =>
  mbd (m_X4_readName (t7 + 5) (M0.1 t1 14) M3) (fun v10 M9 =>
  zob (mwr M9 (t5 + 5) (M0.1 t1 14) v10) (fun M11 =>
  mlt (ztof (M11.1 2 10)) (fun t12 =>
  mbd (m_X4_readCell  M11) (fun v15 M14 =>
  zob (mwr M14 (t12 + 6) (M0.1 t1 14) v15) (fun M16 =>
  mlt (ztof (M16.1 2 10)) (fun t17 =>
  mbd (m_X4_readNumber 1 9 M16) (fun v20 M19 =>
  zob (mwr M19 (t17 + 7) (M0.1 t1 14) v20) (fun M21 =>
  mlt (ztof (M21.1 2 10)) (fun t22 =>
  mbd (m_X4_readNumber 0 99 M21) (fun v25 M24 =>
  zob (mwr M24 (t22 + 8) (M0.1 t1 14) v25) (fun M26 =>
  mlt (ztof (M26.1 2 10)) (fun t27 =>
  mlt (mup M26 t27 14 ((M26.1 t27 14) + 1)) (fun M29 =>
  some ((), M29))))))))))))))))))
set_option maxRecDepth 100000 in
set_option maxHeartbeats 4000000 in
theorem r_X4_readCloud {B n : Nat} {h0 : zHp} {M0 : zMem} (w0 : zW B n h0 M0)  : zRR B n (f_X4_readCloud (B + 2) h0) (m_X4_readCloud  M0) := by
  unfold f_X4_readCloud m_X4_readCloud
  refine zr_gT w0 zio_4 rfl (fun t1 q1 => ?_)
  refine zr_gI w0 (zit_o q1) rfl ?_
  refine zr_cv w0 zio_4 (r_X4_hasRoom w0 (M0.1 t1 14) 8) (fun v4 h3 M3 w3 => ?_)
  refine zr_if ?_ ?_
  · exact zr_ok w3
  · refine zr_gT w3 zio_4 rfl (fun t5 q5 => ?_)
    refine zr_gR w3 (zit_o q5) rfl ?_
    refine zr_gT w3 zio_4 rfl (fun t7 q7 => ?_)
    refine zr_gR w3 (zit_o q7) rfl ?_
    refine zr_cv w3 zio_4 (r_X4_readName w3 (t7 + 5) (zta_4 q7) (M0.1 t1 14)) (fun v10 h9 M9 w9 => ?_)
    refine zr_s0 w9 (zta_4 q5) (fun h11 M11 w11 => ?_)
    refine zr_gT w11 zio_4 rfl (fun t12 q12 => ?_)
    refine zr_gR w11 (zit_o q12) rfl ?_
    refine zr_cv w11 zio_4 (r_X4_readCell w11 ) (fun v15 h14 M14 w14 => ?_)
    refine zr_s0 w14 (zta_5 q12) (fun h16 M16 w16 => ?_)
    refine zr_gT w16 zio_4 rfl (fun t17 q17 => ?_)
    refine zr_gR w16 (zit_o q17) rfl ?_
    refine zr_cv w16 zio_4 (r_X4_readNumber w16 1 9) (fun v20 h19 M19 w19 => ?_)
    refine zr_s0 w19 (zta_6 q17) (fun h21 M21 w21 => ?_)
    refine zr_gT w21 zio_4 rfl (fun t22 q22 => ?_)
    refine zr_gR w21 (zit_o q22) rfl ?_
    refine zr_cv w21 zio_4 (r_X4_readNumber w21 0 99) (fun v25 h24 M24 w24 => ?_)
    refine zr_s0 w24 (zta_7 q22) (fun h26 M26 w26 => ?_)
    refine zr_gT w26 zio_4 rfl (fun t27 q27 => ?_)
    refine zr_gI w26 (zit_o q27) rfl ?_
    refine zr_pV w26 (zit_o q27) (Nat.le_of_ble_eq_true rfl) rfl (fun h29 M29 w29 => ?_)
    exact zr_ok w29
def m_X4_readField  (M0 : zMem) : Option (Unit × zMem) :=
  mlt (ztof (M0.1 2 10)) (fun t1 =>
  mbd (m_X4_hasRoom (M0.1 t1 13) 5 M0) (fun v4 M3 =>
  if v4 = 0 then
  some ((), M3)
  else
  mlt (ztof (M3.1 2 10)) (fun t5 =>
  mlt (ztof (M3.1 2 10)) (fun t7 =>
  mbd (m_X4_readName (t7 + 2) (M0.1 t1 13) M3) (fun v10 M9 =>
  zob (mwr M9 (t5 + 2) (M0.1 t1 13) v10) (fun M11 =>
  mlt (ztof (M11.1 2 10)) (fun t12 =>
  mbd (m_X4_readCell  M11) (fun v15 M14 =>
  zob (mwr M14 (t12 + 3) (M0.1 t1 13) v15) (fun M16 =>
  mlt (ztof (M16.1 2 10)) (fun t17 =>
  mbd (m_X4_readNumber 0 99 M16) (fun v20 M19 =>
  zob (mwr M19 (t17 + 4) (M0.1 t1 13) v20) (fun M21 =>
  mlt (ztof (M21.1 2 10)) (fun t22 =>
  mlt (mup M21 t22 13 ((M21.1 t22 13) + 1)) (fun M24 =>
  some ((), M24)))))))))))))))
set_option maxRecDepth 100000 in
set_option maxHeartbeats 4000000 in
theorem r_X4_readField {B n : Nat} {h0 : zHp} {M0 : zMem} (w0 : zW B n h0 M0)  : zRR B n (f_X4_readField (B + 2) h0) (m_X4_readField  M0) := by
  unfold f_X4_readField m_X4_readField
  refine zr_gT w0 zio_4 rfl (fun t1 q1 => ?_)
  refine zr_gI w0 (zit_o q1) rfl ?_
  refine zr_cv w0 zio_4 (r_X4_hasRoom w0 (M0.1 t1 13) 5) (fun v4 h3 M3 w3 => ?_)
  refine zr_if ?_ ?_
  · exact zr_ok w3
  · refine zr_gT w3 zio_4 rfl (fun t5 q5 => ?_)
    refine zr_gR w3 (zit_o q5) rfl ?_
    refine zr_gT w3 zio_4 rfl (fun t7 q7 => ?_)
    refine zr_gR w3 (zit_o q7) rfl ?_
    refine zr_cv w3 zio_4 (r_X4_readName w3 (t7 + 2) (zta_1 q7) (M0.1 t1 13)) (fun v10 h9 M9 w9 => ?_)
    refine zr_s0 w9 (zta_1 q5) (fun h11 M11 w11 => ?_)
    refine zr_gT w11 zio_4 rfl (fun t12 q12 => ?_)
    refine zr_gR w11 (zit_o q12) rfl ?_
    refine zr_cv w11 zio_4 (r_X4_readCell w11 ) (fun v15 h14 M14 w14 => ?_)
    refine zr_s0 w14 (zta_2 q12) (fun h16 M16 w16 => ?_)
    refine zr_gT w16 zio_4 rfl (fun t17 q17 => ?_)
    refine zr_gR w16 (zit_o q17) rfl ?_
    refine zr_cv w16 zio_4 (r_X4_readNumber w16 0 99) (fun v20 h19 M19 w19 => ?_)
    refine zr_s0 w19 (zta_3 q17) (fun h21 M21 w21 => ?_)
    refine zr_gT w21 zio_4 rfl (fun t22 q22 => ?_)
    refine zr_gI w21 (zit_o q22) rfl ?_
    refine zr_pV w21 (zit_o q22) (Nat.le_of_ble_eq_true rfl) rfl (fun h24 M24 w24 => ?_)
    exact zr_ok w24
def m_X4_readGround (a1 : Int32) (M0 : zMem) : Option (Unit × zMem) :=
  mbd (m_X4_advance  M0) (fun v2 M1 =>
  mbd (m_X4_readCell  M1) (fun v4 M3 =>
  if v4 < 0 then
  some ((), M3)
  else
  if v4 < 24 then
  mlt (ztof (M3.1 2 10)) (fun t5 =>
  zob (mrd M3 (t5 + 1) v4) (fun v7 =>
  mbd (α := Unit) (
  if v7 = 0 then
  some ((), M3)
  else
  mbd (m_X4_failAt 3 (M3.1 2 8) M3) (fun v10 M9 =>
  some ((), M9))) (fun e11 M12 =>
  mlt (ztof (M12.1 2 10)) (fun t13 =>
  zob (mwr M12 (t13 + 1) v4 a1) (fun M15 =>
  some ((), M15))))))
  else
  some ((), M3)))
set_option maxRecDepth 100000 in
set_option maxHeartbeats 4000000 in
theorem r_X4_readGround {B n : Nat} {h0 : zHp} {M0 : zMem} (w0 : zW B n h0 M0) (a1 : Int32) : zRR B n (f_X4_readGround (B + 2) a1 h0) (m_X4_readGround a1 M0) := by
  unfold f_X4_readGround m_X4_readGround
  refine zr_cv w0 zio_4 (r_X4_advance w0 ) (fun v2 h1 M1 w1 => ?_)
  refine zr_cv w1 zio_4 (r_X4_readCell w1 ) (fun v4 h3 M3 w3 => ?_)
  refine zr_if ?_ ?_
  · exact zr_ok w3
  · refine zr_if ?_ ?_
    · refine zr_gT w3 zio_4 rfl (fun t5 q5 => ?_)
      refine zr_gR w3 (zit_o q5) rfl ?_
      refine zr_a0 w3 (zta_0 q5) (fun v7 => ?_)
      refine zr_bd ?_ (fun e11 h12 M12 w12 => ?_)
      · refine zr_if ?_ ?_
        · exact zr_ok w3
        · refine zr_gI w3 zio_4 rfl ?_
          refine zr_cv w3 zio_4 (r_X4_failAt w3 3 (M3.1 2 8)) (fun v10 h9 M9 w9 => ?_)
          exact zr_ok w9
      · refine zr_gT w12 zio_4 rfl (fun t13 q13 => ?_)
        refine zr_gR w12 (zit_o q13) rfl ?_
        refine zr_s0 w12 (zta_0 q13) (fun h15 M15 w15 => ?_)
        exact zr_ok w15
    · exact zr_ok w3
def m_X4_readPart  (M0 : zMem) : Option (Unit × zMem) :=
  if (M0.1 2 4) = 37 then
  mbd (m_X4_countKnot  M0) (fun v3 M2 =>
  mlt (ztof (M2.1 2 10)) (fun t4 =>
  mbd (m_X4_readNumber 0 9999 M2) (fun v7 M6 =>
  mbd (m_X2_place t4 v7 M6) (fun v9 M8 =>
  some ((), M8)))))
  else
  if (M0.1 2 4) < 16 then
  mbd (m_X4_fail 1 M0) (fun v12 M11 =>
  some ((), M11))
  else
  if 22 < (M0.1 2 4) then
  mbd (m_X4_fail 1 M0) (fun v15 M14 =>
  some ((), M14))
  else
  mlt (ztof (M0.1 2 10)) (fun t16 =>
  mbd (m_X2_place t16 ((M0.1 2 4) ^^^ (-1)) M0) (fun v20 M19 =>
  mbd (m_X4_countKnot  M19) (fun v22 M21 =>
  mbd (m_X4_advance  M21) (fun v24 M23 =>
  some ((), M23)))))
set_option maxRecDepth 100000 in
set_option maxHeartbeats 4000000 in
theorem r_X4_readPart {B n : Nat} {h0 : zHp} {M0 : zMem} (w0 : zW B n h0 M0)  : zRR B n (f_X4_readPart (B + 2) h0) (m_X4_readPart  M0) := by
  unfold f_X4_readPart m_X4_readPart
  refine zr_gI w0 zio_4 rfl ?_
  refine zr_if ?_ ?_
  · refine zr_cv w0 zio_4 (r_X4_countKnot w0 ) (fun v3 h2 M2 w2 => ?_)
    refine zr_gT w2 zio_4 rfl (fun t4 q4 => ?_)
    refine zr_gR w2 (zit_o q4) rfl ?_
    refine zr_cv w2 zio_4 (r_X4_readNumber w2 0 9999) (fun v7 h6 M6 w6 => ?_)
    refine zr_cv w6 (zit_l q4) (r_X2_place w6 t4 q4 v7) (fun v9 h8 M8 w8 => ?_)
    exact zr_ok w8
  · refine zr_gI w0 zio_4 rfl ?_
    refine zr_if ?_ ?_
    · refine zr_cv w0 zio_4 (r_X4_fail w0 1) (fun v12 h11 M11 w11 => ?_)
      exact zr_ok w11
    · refine zr_gI w0 zio_4 rfl ?_
      refine zr_if ?_ ?_
      · refine zr_cv w0 zio_4 (r_X4_fail w0 1) (fun v15 h14 M14 w14 => ?_)
        exact zr_ok w14
      · refine zr_gT w0 zio_4 rfl (fun t16 q16 => ?_)
        refine zr_gR w0 (zit_o q16) rfl ?_
        refine zr_gI w0 zio_4 rfl ?_
        refine zr_cv w0 (zit_l q16) (r_X2_place w0 t16 q16 ((M0.1 2 4) ^^^ (-1))) (fun v20 h19 M19 w19 => ?_)
        refine zr_cv w19 zio_4 (r_X4_countKnot w19 ) (fun v22 h21 M21 w21 => ?_)
        refine zr_cv w21 zio_4 (r_X4_advance w21 ) (fun v24 h23 M23 w23 => ?_)
        exact zr_ok w23
def m_X4_readSign  (M0 : zMem) : Option (Int32 × zMem) :=
  mbd (
  mlp (σ := Int32) (β := Int32) zLF (fun s1 M2 =>
  if 8 ≤ s1 then
  some ((.inr s1), M2)
  else
  if (M2.1 2 4) = 34 then
  if (M2.1 2 13) ≤ 0 then
  some ((.inr s1), M2)
  else
  mbd (m_X4_placeAbove 0 M2) (fun v8 M7 =>
  mlt (mup M7 2 12 (zmx 0 ((M7.1 2 12) - 1))) (fun M10 =>
  mlt (mup M10 2 13 ((M10.1 2 13) - 1)) (fun M12 =>
  mbd (m_X4_advance  M12) (fun v14 M13 =>
  some ((.inl (s1 + 1)), M13)))))
  else
  some ((.inr s1), M2)) 0 M0) (fun e3 M4 =>
  mbd (m_X4_rankOf (M4.1 2 4) M4) (fun v17 M16 =>
  mbd (α := (Unit ⊕ Int32)) (
  if v17 = 0 then
  some ((.inl ()), M16)
  else
  if (M16.1 2 4) = 15 then
  some ((.inl ()), M16)
  else
  mbd (α := Int32) (
  if v17 = 4 then
  some (4, M16)
  else
  some ((v17 - 1), M16)) (fun e19 M20 =>
  mbd (m_X4_placeAbove e19 M20) (fun v22 M21 =>
  mbd (α := Unit) (
  if v17 = 4 then
  mbd (α := (Unit ⊕ Unit)) (
  if (M21.1 2 12) ≤ 0 then
  some ((.inl ()), M21)
  else
  zob (mrd M21 23 ((M21.1 2 12) - 1)) (fun v26 =>
  mbd (m_X4_rankOf v26 M21) (fun v28 M27 =>
  if v28 = 4 then
  mbd (m_X4_fail 1 M27) (fun v30 M29 =>
  some ((.inr ()), M29))
  else
  some ((.inl ()), M27)))) (fun b50 M32 => zsl b50 (fun e31 =>
  mbd (m_X4_countKnot  M32) (fun v34 M33 =>
  some ((), M33))) (fun r => some (r, M32)))
  else
  mbd (m_X4_countKnot  M21) (fun v36 M35 =>
  some ((), M35))) (fun e37 M38 =>
  mbd (m_X4_letWait (M38.1 2 4) M38) (fun v41 M40 =>
  mbd (m_X4_advance  M40) (fun v43 M42 =>
  if (M42.1 2 14) = 0 then
  some ((.inr 1), M42)
  else
  some ((.inr 0), M42))))))) (fun b51 M46 => zsl b51 (fun e45 =>
  if (M46.1 2 13) ≤ 0 then
  some (0, M46)
  else
  mbd (m_X4_fail 1 M46) (fun v49 M48 =>
  some (0, M48))) (fun r => some (r, M46)))))
set_option maxRecDepth 100000 in
set_option maxHeartbeats 4000000 in
theorem r_X4_readSign {B n : Nat} {h0 : zHp} {M0 : zMem} (w0 : zW B n h0 M0)  : zRR B n (f_X4_readSign (B + 2) h0) (m_X4_readSign  M0) := by
  unfold f_X4_readSign m_X4_readSign
  refine zr_bd (zr_lp (fun s1 h2 M2 w2 => ?_) 0 h0 M0 w0) (fun e3 h4 M4 w4 => ?_)
  · refine zr_if ?_ ?_
    · exact zr_ok w2
    · refine zr_gI w2 zio_4 rfl ?_
      refine zr_if ?_ ?_
      · refine zr_gI w2 zio_4 rfl ?_
        refine zr_if ?_ ?_
        · exact zr_ok w2
        · refine zr_cv w2 zio_4 (r_X4_placeAbove w2 0) (fun v8 h7 M7 w7 => ?_)
          refine zr_gI w7 zio_4 rfl ?_
          refine zr_pV w7 zio_4 (Nat.le_of_ble_eq_true rfl) rfl (fun h10 M10 w10 => ?_)
          refine zr_gI w10 zio_4 rfl ?_
          refine zr_pV w10 zio_4 (Nat.le_of_ble_eq_true rfl) rfl (fun h12 M12 w12 => ?_)
          refine zr_cv w12 zio_4 (r_X4_advance w12 ) (fun v14 h13 M13 w13 => ?_)
          exact zr_ok w13
      · exact zr_ok w2
  · refine zr_gI w4 zio_4 rfl ?_
    refine zr_bd (r_X4_rankOf w4 (M4.1 2 4)) (fun v17 h16 M16 w16 => ?_)
    refine zr_bd ?_ (fun b51 h46 M46 w46 => zr_sl (fun e45 => ?_) (fun r => zr_ok w46))
    · refine zr_if ?_ ?_
      · exact zr_ok w16
      · refine zr_gI w16 zio_4 rfl ?_
        refine zr_if ?_ ?_
        · exact zr_ok w16
        · refine zr_bd ?_ (fun e19 h20 M20 w20 => ?_)
          · refine zr_if ?_ ?_
            · exact zr_ok w16
            · exact zr_ok w16
          · refine zr_cv w20 zio_4 (r_X4_placeAbove w20 e19) (fun v22 h21 M21 w21 => ?_)
            refine zr_bd ?_ (fun e37 h38 M38 w38 => ?_)
            · refine zr_if ?_ ?_
              · refine zr_gI w21 zio_4 rfl ?_
                refine zr_bd ?_ (fun b50 h32 M32 w32 => zr_sl (fun e31 => ?_) (fun r => zr_ok w32))
                · refine zr_if ?_ ?_
                  · exact zr_ok w21
                  · refine zr_gR w21 zio_4 rfl ?_
                    refine zr_gI w21 zio_4 rfl ?_
                    refine zr_a0 w21 zca_23 (fun v26 => ?_)
                    refine zr_bd (r_X4_rankOf w21 v26) (fun v28 h27 M27 w27 => ?_)
                    refine zr_if ?_ ?_
                    · refine zr_cv w27 zio_4 (r_X4_fail w27 1) (fun v30 h29 M29 w29 => ?_)
                      exact zr_ok w29
                    · exact zr_ok w27
                · refine zr_cv w32 zio_4 (r_X4_countKnot w32 ) (fun v34 h33 M33 w33 => ?_)
                  exact zr_ok w33
              · refine zr_cv w21 zio_4 (r_X4_countKnot w21 ) (fun v36 h35 M35 w35 => ?_)
                exact zr_ok w35
            · refine zr_gI w38 zio_4 rfl ?_
              refine zr_cv w38 zio_4 (r_X4_letWait w38 (M38.1 2 4)) (fun v41 h40 M40 w40 => ?_)
              refine zr_cv w40 zio_4 (r_X4_advance w40 ) (fun v43 h42 M42 w42 => ?_)
              refine zr_gI w42 zio_4 rfl ?_
              refine zr_if ?_ ?_
              · exact zr_ok w42
              · exact zr_ok w42
    · refine zr_gI w46 zio_4 rfl ?_
      refine zr_if ?_ ?_
      · exact zr_ok w46
      · refine zr_cv w46 zio_4 (r_X4_fail w46 1) (fun v49 h48 M48 w48 => ?_)
        exact zr_ok w48
def m_X4_readLaw  (M0 : zMem) : Option (Unit × zMem) :=
  mbd (m_X4_advance  M0) (fun v2 M1 =>
  mbd (α := (Unit ⊕ Unit)) (
  if (M1.1 2 4) < 10 then
  some ((.inl ()), M1)
  else
  if (M1.1 2 4) ≤ 12 then
  mlt (ztof (M1.1 2 10)) (fun t6 =>
  mbd (m_X2_isTold t6 ((M1.1 2 4) - 10) M1) (fun v9 M8 =>
  mbd (α := Unit) (
  if v9 = 0 then
  some ((), M8)
  else
  mbd (m_X4_fail 3 M8) (fun v11 M10 =>
  some ((), M10))) (fun e12 M13 =>
  mbd (m_X4_advance  M13) (fun v15 M14 =>
  mlt (ztof (M14.1 2 10)) (fun t16 =>
  mbd (m_X2_open t16 ((M1.1 2 4) - 10) M14) (fun v19 M18 =>
  mlt (mup M18 2 12 0) (fun M20 =>
  mlt (mup M20 2 13 0) (fun M21 =>
  mbd (
  mlp (σ := (Int32 × Int32)) (β := (Int32 × Int32)) zLF (fun s22 M23 =>
  if 64 < s22.2 then
  some ((.inr (s22.1, s22.2)), M23)
  else
  if s22.1 = 0 then
  some ((.inr (s22.1, s22.2)), M23)
  else
  mbd (m_X4_readAheadOfPart  M23) (fun v27 M26 =>
  mbd (m_X4_readPart  M26) (fun v29 M28 =>
  mbd (m_X4_readSign  M28) (fun v31 M30 =>
  some ((.inl (v31, (s22.2 + 1))), M30))))) (1, 0) M21) (fun e24 M25 =>
  mbd (m_X4_placeAbove 0 M25) (fun v33 M32 =>
  mlt (ztof (M32.1 2 10)) (fun t34 =>
  mbd (m_X2_close t34 ((M1.1 2 4) - 10) M32) (fun v37 M36 =>
  some ((.inr ()), M36)))))))))))))
  else
  some ((.inl ()), M1)) (fun b42 M39 => zsl b42 (fun e38 =>
  mbd (m_X4_fail 1 M39) (fun v41 M40 =>
  some ((), M40))) (fun r => some (r, M39))))
set_option maxRecDepth 100000 in
set_option maxHeartbeats 4000000 in
theorem r_X4_readLaw {B n : Nat} {h0 : zHp} {M0 : zMem} (w0 : zW B n h0 M0)  : zRR B n (f_X4_readLaw (B + 2) h0) (m_X4_readLaw  M0) := by
  unfold f_X4_readLaw m_X4_readLaw
  refine zr_cv w0 zio_4 (r_X4_advance w0 ) (fun v2 h1 M1 w1 => ?_)
  refine zr_gI w1 zio_4 rfl ?_
  refine zr_bd ?_ (fun b42 h39 M39 w39 => zr_sl (fun e38 => ?_) (fun r => zr_ok w39))
  · refine zr_if ?_ ?_
    · exact zr_ok w1
    · refine zr_gI w1 zio_4 rfl ?_
      refine zr_if ?_ ?_
      · refine zr_gI w1 zio_4 rfl ?_
        refine zr_gT w1 zio_4 rfl (fun t6 q6 => ?_)
        refine zr_gR w1 (zit_o q6) rfl ?_
        refine zr_cv w1 (zit_l q6) (r_X2_isTold w1 t6 q6 ((M1.1 2 4) - 10)) (fun v9 h8 M8 w8 => ?_)
        refine zr_bd ?_ (fun e12 h13 M13 w13 => ?_)
        · refine zr_if ?_ ?_
          · exact zr_ok w8
          · refine zr_cv w8 zio_4 (r_X4_fail w8 3) (fun v11 h10 M10 w10 => ?_)
            exact zr_ok w10
        · refine zr_cv w13 zio_4 (r_X4_advance w13 ) (fun v15 h14 M14 w14 => ?_)
          refine zr_gT w14 zio_4 rfl (fun t16 q16 => ?_)
          refine zr_gR w14 (zit_o q16) rfl ?_
          refine zr_cv w14 (zit_l q16) (r_X2_open w14 t16 q16 ((M1.1 2 4) - 10)) (fun v19 h18 M18 w18 => ?_)
          refine zr_pV w18 zio_4 (Nat.le_of_ble_eq_true rfl) rfl (fun h20 M20 w20 => ?_)
          refine zr_pV w20 zio_4 (Nat.le_of_ble_eq_true rfl) rfl (fun h21 M21 w21 => ?_)
          refine zr_bd (zr_lp (fun s22 h23 M23 w23 => ?_) (1, 0) h21 M21 w21) (fun e24 h25 M25 w25 => ?_)
          · refine zr_if ?_ ?_
            · exact zr_ok w23
            · refine zr_if ?_ ?_
              · exact zr_ok w23
              · refine zr_cv w23 zio_4 (r_X4_readAheadOfPart w23 ) (fun v27 h26 M26 w26 => ?_)
                refine zr_cv w26 zio_4 (r_X4_readPart w26 ) (fun v29 h28 M28 w28 => ?_)
                refine zr_cv w28 zio_4 (r_X4_readSign w28 ) (fun v31 h30 M30 w30 => ?_)
                exact zr_ok w30
          · refine zr_cv w25 zio_4 (r_X4_placeAbove w25 0) (fun v33 h32 M32 w32 => ?_)
            refine zr_gT w32 zio_4 rfl (fun t34 q34 => ?_)
            refine zr_gR w32 (zit_o q34) rfl ?_
            refine zr_cv w32 (zit_l q34) (r_X2_close w32 t34 q34 ((M1.1 2 4) - 10)) (fun v37 h36 M36 w36 => ?_)
            exact zr_ok w36
      · exact zr_ok w1
  · refine zr_cv w39 zio_4 (r_X4_fail w39 1) (fun v41 h40 M40 w40 => ?_)
    exact zr_ok w40
def m_X4_readOnceWord  (M0 : zMem) : Option (Unit × zMem) :=
  mbd (α := Unit) (
  if ((M0.1 2 9) &&& (1 <<< ((M0.1 2 4) &&& 31))) = 0 then
  some ((), M0)
  else
  mbd (m_X4_fail 3 M0) (fun v4 M3 =>
  some ((), M3))) (fun e5 M6 =>
  mlt (mup M6 2 9 ((M6.1 2 9) ||| (1 <<< ((M0.1 2 4) &&& 31)))) (fun M8 =>
  mbd (m_X4_advance  M8) (fun v10 M9 =>
  some ((), M9))))
set_option maxRecDepth 100000 in
set_option maxHeartbeats 4000000 in
theorem r_X4_readOnceWord {B n : Nat} {h0 : zHp} {M0 : zMem} (w0 : zW B n h0 M0)  : zRR B n (f_X4_readOnceWord (B + 2) h0) (m_X4_readOnceWord  M0) := by
  unfold f_X4_readOnceWord m_X4_readOnceWord
  refine zr_gI w0 zio_4 rfl ?_
  refine zr_gI w0 zio_4 rfl ?_
  refine zr_bd ?_ (fun e5 h6 M6 w6 => ?_)
  · refine zr_if ?_ ?_
    · exact zr_ok w0
    · refine zr_cv w0 zio_4 (r_X4_fail w0 3) (fun v4 h3 M3 w3 => ?_)
      exact zr_ok w3
  · refine zr_gI w6 zio_4 rfl ?_
    refine zr_pV w6 zio_4 (Nat.le_of_ble_eq_true rfl) rfl (fun h8 M8 w8 => ?_)
    refine zr_cv w8 zio_4 (r_X4_advance w8 ) (fun v10 h9 M9 w9 => ?_)
    exact zr_ok w9
def m_X4_readMost  (M0 : zMem) : Option (Unit × zMem) :=
  mbd (m_X4_readOnceWord  M0) (fun v2 M1 =>
  mlt (ztof (M1.1 2 10)) (fun t3 =>
  mbd (m_X4_readNumber 1 9 M1) (fun v5 M4 =>
  mlt (mup M4 t3 18 v5) (fun M6 =>
  some ((), M6)))))
set_option maxRecDepth 100000 in
set_option maxHeartbeats 4000000 in
theorem r_X4_readMost {B n : Nat} {h0 : zHp} {M0 : zMem} (w0 : zW B n h0 M0)  : zRR B n (f_X4_readMost (B + 2) h0) (m_X4_readMost  M0) := by
  unfold f_X4_readMost m_X4_readMost
  refine zr_cv w0 zio_4 (r_X4_readOnceWord w0 ) (fun v2 h1 M1 w1 => ?_)
  refine zr_gT w1 zio_4 rfl (fun t3 q3 => ?_)
  refine zr_cv w1 zio_4 (r_X4_readNumber w1 1 9) (fun v5 h4 M4 w4 => ?_)
  refine zr_pV w4 (zit_o q3) (Nat.le_of_ble_eq_true rfl) rfl (fun h6 M6 w6 => ?_)
  exact zr_ok w6
def m_X4_readRain  (M0 : zMem) : Option (Unit × zMem) :=
  mbd (m_X4_readOnceWord  M0) (fun v2 M1 =>
  mlt (ztof (M1.1 2 10)) (fun t3 =>
  mbd (m_X4_readNumber 1 20 M1) (fun v5 M4 =>
  mlt (mup M4 t3 17 v5) (fun M6 =>
  some ((), M6)))))
set_option maxRecDepth 100000 in
set_option maxHeartbeats 4000000 in
theorem r_X4_readRain {B n : Nat} {h0 : zHp} {M0 : zMem} (w0 : zW B n h0 M0)  : zRR B n (f_X4_readRain (B + 2) h0) (m_X4_readRain  M0) := by
  unfold f_X4_readRain m_X4_readRain
  refine zr_cv w0 zio_4 (r_X4_readOnceWord w0 ) (fun v2 h1 M1 w1 => ?_)
  refine zr_gT w1 zio_4 rfl (fun t3 q3 => ?_)
  refine zr_cv w1 zio_4 (r_X4_readNumber w1 1 20) (fun v5 h4 M4 w4 => ?_)
  refine zr_pV w4 (zit_o q3) (Nat.le_of_ble_eq_true rfl) rfl (fun h6 M6 w6 => ?_)
  exact zr_ok w6
def m_X4_readSeed  (M0 : zMem) : Option (Unit × zMem) :=
  mbd (m_X4_readOnceWord  M0) (fun v2 M1 =>
  mbd (m_X4_readNumber 0 99999 M1) (fun v4 M3 =>
  some ((), M3)))
set_option maxRecDepth 100000 in
set_option maxHeartbeats 4000000 in
theorem r_X4_readSeed {B n : Nat} {h0 : zHp} {M0 : zMem} (w0 : zW B n h0 M0)  : zRR B n (f_X4_readSeed (B + 2) h0) (m_X4_readSeed  M0) := by
  unfold f_X4_readSeed m_X4_readSeed
  refine zr_cv w0 zio_4 (r_X4_readOnceWord w0 ) (fun v2 h1 M1 w1 => ?_)
  refine zr_cv w1 zio_4 (r_X4_readNumber w1 0 99999) (fun v4 h3 M3 w3 => ?_)
  exact zr_ok w3
def m_X4_readWind  (M0 : zMem) : Option (Unit × zMem) :=
  mlt (ztof (M0.1 2 10)) (fun t1 =>
  mbd (m_X4_hasRoom (M0.1 t1 16) 12 M0) (fun v4 M3 =>
  if v4 = 0 then
  some ((), M3)
  else
  mlt (ztof (M3.1 2 10)) (fun t5 =>
  mbd (m_X4_readNumber 0 4 M3) (fun v8 M7 =>
  zob (mwr M7 (t5 + 12) (M0.1 t1 16) v8) (fun M9 =>
  mlt (ztof (M9.1 2 10)) (fun t10 =>
  mlt (mup M9 t10 16 ((M9.1 t10 16) + 1)) (fun M12 =>
  some ((), M12))))))))
set_option maxRecDepth 100000 in
set_option maxHeartbeats 4000000 in
theorem r_X4_readWind {B n : Nat} {h0 : zHp} {M0 : zMem} (w0 : zW B n h0 M0)  : zRR B n (f_X4_readWind (B + 2) h0) (m_X4_readWind  M0) := by
  unfold f_X4_readWind m_X4_readWind
  refine zr_gT w0 zio_4 rfl (fun t1 q1 => ?_)
  refine zr_gI w0 (zit_o q1) rfl ?_
  refine zr_cv w0 zio_4 (r_X4_hasRoom w0 (M0.1 t1 16) 12) (fun v4 h3 M3 w3 => ?_)
  refine zr_if ?_ ?_
  · exact zr_ok w3
  · refine zr_gT w3 zio_4 rfl (fun t5 q5 => ?_)
    refine zr_gR w3 (zit_o q5) rfl ?_
    refine zr_cv w3 zio_4 (r_X4_readNumber w3 0 4) (fun v8 h7 M7 w7 => ?_)
    refine zr_s0 w7 (zta_11 q5) (fun h9 M9 w9 => ?_)
    refine zr_gT w9 zio_4 rfl (fun t10 q10 => ?_)
    refine zr_gI w9 (zit_o q10) rfl ?_
    refine zr_pV w9 (zit_o q10) (Nat.le_of_ble_eq_true rfl) rfl (fun h12 M12 w12 => ?_)
    exact zr_ok w12
def m_X4_readLine  (M0 : zMem) : Option (Unit × zMem) :=
  if (M0.1 2 4) = 0 then
  mbd (m_X4_readGround 1 M0) (fun v3 M2 =>
  some ((), M2))
  else if (M0.1 2 4) = 1 then
  mbd (m_X4_readGround 2 M0) (fun v5 M4 =>
  some ((), M4))
  else if (M0.1 2 4) = 2 then
  mbd (m_X4_readField  M0) (fun v7 M6 =>
  some ((), M6))
  else if (M0.1 2 4) = 3 then
  mbd (m_X4_readCloud  M0) (fun v9 M8 =>
  some ((), M8))
  else if (M0.1 2 4) = 4 then
  mbd (m_X4_readChild  M0) (fun v11 M10 =>
  some ((), M10))
  else if (M0.1 2 4) = 5 then
  mbd (m_X4_readWind  M0) (fun v13 M12 =>
  some ((), M12))
  else if (M0.1 2 4) = 6 then
  mbd (m_X4_readRain  M0) (fun v15 M14 =>
  some ((), M14))
  else if (M0.1 2 4) = 7 then
  mbd (m_X4_readMost  M0) (fun v17 M16 =>
  some ((), M16))
  else if (M0.1 2 4) = 8 then
  mbd (m_X4_readSeed  M0) (fun v19 M18 =>
  some ((), M18))
  else if (M0.1 2 4) = 9 then
  mbd (m_X4_readLaw  M0) (fun v21 M20 =>
  some ((), M20))
  else 
  mbd (m_X4_fail 1 M0) (fun v23 M22 =>
  some ((), M22))
set_option maxRecDepth 100000 in
set_option maxHeartbeats 4000000 in
theorem r_X4_readLine {B n : Nat} {h0 : zHp} {M0 : zMem} (w0 : zW B n h0 M0)  : zRR B n (f_X4_readLine (B + 2) h0) (m_X4_readLine  M0) := by
  unfold f_X4_readLine m_X4_readLine
  refine zr_gI w0 zio_4 rfl ?_
  refine zr_if ?_ ?_
  · refine zr_cv w0 zio_4 (r_X4_readGround w0 1) (fun v3 h2 M2 w2 => ?_)
    exact zr_ok w2
  refine zr_if ?_ ?_
  · refine zr_cv w0 zio_4 (r_X4_readGround w0 2) (fun v5 h4 M4 w4 => ?_)
    exact zr_ok w4
  refine zr_if ?_ ?_
  · refine zr_cv w0 zio_4 (r_X4_readField w0 ) (fun v7 h6 M6 w6 => ?_)
    exact zr_ok w6
  refine zr_if ?_ ?_
  · refine zr_cv w0 zio_4 (r_X4_readCloud w0 ) (fun v9 h8 M8 w8 => ?_)
    exact zr_ok w8
  refine zr_if ?_ ?_
  · refine zr_cv w0 zio_4 (r_X4_readChild w0 ) (fun v11 h10 M10 w10 => ?_)
    exact zr_ok w10
  refine zr_if ?_ ?_
  · refine zr_cv w0 zio_4 (r_X4_readWind w0 ) (fun v13 h12 M12 w12 => ?_)
    exact zr_ok w12
  refine zr_if ?_ ?_
  · refine zr_cv w0 zio_4 (r_X4_readRain w0 ) (fun v15 h14 M14 w14 => ?_)
    exact zr_ok w14
  refine zr_if ?_ ?_
  · refine zr_cv w0 zio_4 (r_X4_readMost w0 ) (fun v17 h16 M16 w16 => ?_)
    exact zr_ok w16
  refine zr_if ?_ ?_
  · refine zr_cv w0 zio_4 (r_X4_readSeed w0 ) (fun v19 h18 M18 w18 => ?_)
    exact zr_ok w18
  refine zr_if ?_ ?_
  · refine zr_cv w0 zio_4 (r_X4_readLaw w0 ) (fun v21 h20 M20 w20 => ?_)
    exact zr_ok w20
  refine zr_cv w0 zio_4 (r_X4_fail w0 1) (fun v23 h22 M22 w22 => ?_)
  exact zr_ok w22
def m_X6_forget (a0 : Nat) (M0 : zMem) : Option (Unit × zMem) :=
  mbd (
  mlp (σ := Int32) (β := Int32) zLF (fun s1 M2 =>
  if 24 ≤ s1 then
  some ((.inr s1), M2)
  else
  zob (mwr M2 (a0 + 1) s1 0) (fun M6 =>
  some ((.inl (s1 + 1)), M6))) 0 M0) (fun e3 M4 =>
  mbd (m_X2_forget a0 M4) (fun v9 M8 =>
  mlt (mup M8 a0 13 0) (fun M10 =>
  mlt (mup M10 a0 14 0) (fun M11 =>
  mlt (mup M11 a0 15 0) (fun M12 =>
  mlt (mup M12 a0 16 0) (fun M13 =>
  mlt (mup M13 a0 17 6) (fun M14 =>
  mlt (mup M14 a0 18 9) (fun M15 =>
  some ((), M15)))))))))
set_option maxRecDepth 100000 in
set_option maxHeartbeats 4000000 in
theorem r_X6_forget {B n : Nat} {h0 : zHp} {M0 : zMem} (w0 : zW B n h0 M0) (a0 : Nat) (p0 : zIT a0) : zRR B n (f_X6_forget (B + a0) h0) (m_X6_forget a0 M0) := by
  unfold f_X6_forget m_X6_forget
  refine zr_bd (zr_lp (fun s1 h2 M2 w2 => ?_) 0 h0 M0 w0) (fun e3 h4 M4 w4 => ?_)
  · refine zr_if ?_ ?_
    · exact zr_ok w2
    · refine zr_gR w2 (zit_o p0) rfl ?_
      refine zr_s0 w2 (zta_0 p0) (fun h6 M6 w6 => ?_)
      exact zr_ok w6
  · refine zr_gR w4 (zit_o p0) rfl ?_
    refine zr_cv w4 (zit_l p0) (r_X2_forget w4 a0 p0) (fun v9 h8 M8 w8 => ?_)
    refine zr_pV w8 (zit_o p0) (Nat.le_of_ble_eq_true rfl) rfl (fun h10 M10 w10 => ?_)
    refine zr_pV w10 (zit_o p0) (Nat.le_of_ble_eq_true rfl) rfl (fun h11 M11 w11 => ?_)
    refine zr_pV w11 (zit_o p0) (Nat.le_of_ble_eq_true rfl) rfl (fun h12 M12 w12 => ?_)
    refine zr_pV w12 (zit_o p0) (Nat.le_of_ble_eq_true rfl) rfl (fun h13 M13 w13 => ?_)
    refine zr_pV w13 (zit_o p0) (Nat.le_of_ble_eq_true rfl) rfl (fun h14 M14 w14 => ?_)
    refine zr_pV w14 (zit_o p0) (Nat.le_of_ble_eq_true rfl) rfl (fun h15 M15 w15 => ?_)
    exact zr_ok w15
def m_X4_readText (a2 : Int32) (M0 : zMem) : Option (Int32 × zMem) :=
  mlt (ztof (M0.1 2 10)) (fun t1 =>
  mbd (m_X6_forget t1 M0) (fun v3 M2 =>
  mlt (mup M2 2 1 1) (fun M4 =>
  mlt (mup M4 2 2 (zmn a2 (Int32.ofNat (zds 1).2))) (fun M6 =>
  mlt (mup M6 2 3 0) (fun M7 =>
  mlt (mup M7 2 9 0) (fun M8 =>
  mlt (mup M8 2 14 0) (fun M9 =>
  mlt (mup M9 2 15 (-1)) (fun M10 =>
  mbd (m_X4_advance  M10) (fun v12 M11 =>
  mbd (
  mlp (σ := (Int32 × Int32)) (β := (Int32 × Int32)) zLF (fun s13 M14 =>
  if (M14.1 2 2) ≤ s13.2 then
  some ((.inr (s13.1, s13.2)), M14)
  else
  if (M14.1 2 14) = 0 then
  if (M14.1 2 4) = 38 then
  some ((.inr (s13.1, s13.2)), M14)
  else
  mbd (m_X4_readLine  M14) (fun v21 M20 =>
  mbd (m_X4_expect 35 M20) (fun v23 M22 =>
  some ((.inl ((s13.1 + 1), (s13.2 + 1))), M22)))
  else
  some ((.inr (s13.1, s13.2)), M14)) (0, 0) M11) (fun e15 M16 =>
  if (M16.1 2 14) = 0 then
  some (e15.1, M16)
  else
  some ((-1), M16)))))))))))
set_option maxRecDepth 100000 in
set_option maxHeartbeats 4000000 in
theorem r_X4_readText {B n : Nat} {h0 : zHp} {M0 : zMem} (w0 : zW B n h0 M0) (a2 : Int32) : zRR B n (f_X4_readText (B + 2) (B + 1) a2 h0) (m_X4_readText a2 M0) := by
  unfold f_X4_readText m_X4_readText
  refine zr_gT w0 zio_4 rfl (fun t1 q1 => ?_)
  refine zr_cv w0 (zit_o q1) (r_X6_forget w0 t1 q1) (fun v3 h2 M2 w2 => ?_)
  refine zr_pV w2 zio_4 (Nat.le_of_ble_eq_true rfl) zpb_X4 (fun h4 M4 w4 => ?_)
  refine zr_ln (by decide) w4 zca_1 ?_
  refine zr_pV w4 zio_4 (Nat.le_of_ble_eq_true rfl) rfl (fun h6 M6 w6 => ?_)
  refine zr_pV w6 zio_4 (Nat.le_of_ble_eq_true rfl) rfl (fun h7 M7 w7 => ?_)
  refine zr_pV w7 zio_4 (Nat.le_of_ble_eq_true rfl) rfl (fun h8 M8 w8 => ?_)
  refine zr_pV w8 zio_4 (Nat.le_of_ble_eq_true rfl) rfl (fun h9 M9 w9 => ?_)
  refine zr_pV w9 zio_4 (Nat.le_of_ble_eq_true rfl) rfl (fun h10 M10 w10 => ?_)
  refine zr_cv w10 zio_4 (r_X4_advance w10 ) (fun v12 h11 M11 w11 => ?_)
  refine zr_bd (zr_lp (fun s13 h14 M14 w14 => ?_) (0, 0) h11 M11 w11) (fun e15 h16 M16 w16 => ?_)
  · refine zr_gI w14 zio_4 rfl ?_
    refine zr_if ?_ ?_
    · exact zr_ok w14
    · refine zr_gI w14 zio_4 rfl ?_
      refine zr_if ?_ ?_
      · refine zr_gI w14 zio_4 rfl ?_
        refine zr_if ?_ ?_
        · exact zr_ok w14
        · refine zr_cv w14 zio_4 (r_X4_readLine w14 ) (fun v21 h20 M20 w20 => ?_)
          refine zr_cv w20 zio_4 (r_X4_expect w20 35) (fun v23 h22 M22 w22 => ?_)
          exact zr_ok w22
      · exact zr_ok w14
  · refine zr_gI w16 zio_4 rfl ?_
    refine zr_if ?_ ?_
    · exact zr_ok w16
    · exact zr_ok w16
def m_X4_takeTold (a1 : Nat) (M0 : zMem) : Option (Nat × zMem) :=
  mlt (ztof (M0.1 2 10)) (fun t1 =>
  mlt (mup M0 2 10 (ztenc a1)) (fun M2 =>
  some (t1, M2)))
set_option maxRecDepth 100000 in
set_option maxHeartbeats 4000000 in
theorem r_X4_takeTold {B n : Nat} {h0 : zHp} {M0 : zMem} (w0 : zW B n h0 M0) (a1 : Nat) (p1 : zIT a1) : zRG (fun a b => a = B + b ∧ zIT b) B n (f_X4_takeTold (B + 2) (B + a1) h0) (m_X4_takeTold a1 M0) := by
  unfold f_X4_takeTold m_X4_takeTold
  refine zr_gT w0 zio_4 rfl (fun t1 q1 => ?_)
  refine zr_pV w0 zio_4 (Nat.le_of_ble_eq_true rfl) (zpt_X4 p1) (fun h2 M2 w2 => ?_)
  exact zr_okG ⟨rfl, q1⟩ w2
def m_X5_marksInAll (a0 : Nat) (M0 : zMem) : Option (Int32 × zMem) :=
  mbd (
  mlp (σ := (Int32 × Int32)) (β := (Int32 × Int32)) zLF (fun s1 M2 =>
  mlt (ztof (M2.1 a0 14)) (fun t5 =>
  if (M2.1 t5 15) ≤ s1.2 then
  some ((.inr (s1.1, s1.2)), M2)
  else
  zob (mrd M2 (a0 + 9) s1.2) (fun v8 =>
  some ((.inl ((s1.1 + v8), (s1.2 + 1))), M2)))) (0, 0) M0) (fun e3 M4 =>
  some (e3.1, M4))
set_option maxRecDepth 100000 in
set_option maxHeartbeats 4000000 in
theorem r_X5_marksInAll {B n : Nat} {h0 : zHp} {M0 : zMem} (w0 : zW B n h0 M0) (a0 : Nat) (p0 : zIS a0) : zRR B n (f_X5_marksInAll (B + a0) h0) (m_X5_marksInAll a0 M0) := by
  unfold f_X5_marksInAll m_X5_marksInAll
  refine zr_bd (zr_lp (fun s1 h2 M2 w2 => ?_) (0, 0) h0 M0 w0) (fun e3 h4 M4 w4 => ?_)
  · refine zr_gT w2 p0.1 rfl (fun t5 q5 => ?_)
    refine zr_gI w2 (zit_o q5) rfl ?_
    refine zr_if ?_ ?_
    · exact zr_ok w2
    · refine zr_gR w2 p0.1 rfl ?_
      refine zr_a0 w2 (p0.2.2.1 2 (by decide)) (fun v8 => ?_)
      exact zr_ok w2
  · exact zr_ok w4
def m_X5_rainInAll (a0 : Nat) (M0 : zMem) : Option (Int32 × zMem) :=
  mbd (
  mlp (σ := (Int32 × Int32)) (β := (Int32 × Int32)) zLF (fun s1 M2 =>
  mlt (ztof (M2.1 a0 14)) (fun t5 =>
  if (M2.1 t5 13) ≤ s1.2 then
  some ((.inr (s1.1, s1.2)), M2)
  else
  zob (mrd M2 (a0 + 10) s1.2) (fun v8 =>
  some ((.inl ((s1.1 + v8), (s1.2 + 1))), M2)))) (0, 0) M0) (fun e3 M4 =>
  some (e3.1, M4))
set_option maxRecDepth 100000 in
set_option maxHeartbeats 4000000 in
theorem r_X5_rainInAll {B n : Nat} {h0 : zHp} {M0 : zMem} (w0 : zW B n h0 M0) (a0 : Nat) (p0 : zIS a0) : zRR B n (f_X5_rainInAll (B + a0) h0) (m_X5_rainInAll a0 M0) := by
  unfold f_X5_rainInAll m_X5_rainInAll
  refine zr_bd (zr_lp (fun s1 h2 M2 w2 => ?_) (0, 0) h0 M0 w0) (fun e3 h4 M4 w4 => ?_)
  · refine zr_gT w2 p0.1 rfl (fun t5 q5 => ?_)
    refine zr_gI w2 (zit_o q5) rfl ?_
    refine zr_if ?_ ?_
    · exact zr_ok w2
    · refine zr_gR w2 p0.1 rfl ?_
      refine zr_a0 w2 p0.2.2.2.1 (fun v8 => ?_)
      exact zr_ok w2
  · exact zr_ok w4
def m_X5_seenBy (a0 : Nat) (a1 : Int32) (M0 : zMem) : Option (Int32 × zMem) :=
  zob (mrd M0 (a0 + 7) a1) (fun v2 =>
  zob (mrd M0 (a0 + 8) a1) (fun v4 =>
  mlt (ztof (M0.1 a0 14)) (fun t5 =>
  zob (mrd M0 (t5 + 11) a1) (fun v7 =>
  mbd (m_X5_seenFrom a0 v2 v4 v7 M0) (fun v9 M8 =>
  some (v9, M8))))))
set_option maxRecDepth 100000 in
set_option maxHeartbeats 4000000 in
theorem r_X5_seenBy {B n : Nat} {h0 : zHp} {M0 : zMem} (w0 : zW B n h0 M0) (a0 : Nat) (p0 : zIS a0) (a1 : Int32) : zRR B n (f_X5_seenBy (B + a0) a1 h0) (m_X5_seenBy a0 a1 M0) := by
  unfold f_X5_seenBy m_X5_seenBy
  refine zr_gR w0 p0.1 rfl ?_
  refine zr_a0 w0 (p0.2.2.1 0 (by decide)) (fun v2 => ?_)
  refine zr_gR w0 p0.1 rfl ?_
  refine zr_a0 w0 (p0.2.2.1 1 (by decide)) (fun v4 => ?_)
  refine zr_gT w0 p0.1 rfl (fun t5 q5 => ?_)
  refine zr_gR w0 (zit_o q5) rfl ?_
  refine zr_a0 w0 (zta_10 q5) (fun v7 => ?_)
  refine zr_cv w0 p0.1 (r_X5_seenFrom w0 a0 p0 v2 v4 v7) (fun v9 h8 M8 w8 => ?_)
  exact zr_ok w8
def m_X5_wouldSwap (a0 : Nat) (a1 : Int32) (a2 : Int32) (M0 : zMem) : Option (Int32 × zMem) :=
  zob (mrd M0 (a0 + 5) a1) (fun v2 =>
  zob (mrd M0 (a0 + 5) a2) (fun v4 =>
  mbd (m_X5_isUp a0 a1 M0) (fun v6 M5 =>
  if v6 = 0 then
  some (0, M5)
  else
  mbd (m_X5_isUp a0 a2 M5) (fun v8 M7 =>
  if v8 = 0 then
  some (0, M7)
  else
  if v2 = (-1) then
  some (0, M7)
  else
  if v4 = (-1) then
  some (0, M7)
  else
  if v2 = v4 then
  some (0, M7)
  else
  mbd (m_X5_howFar a0 v2 a2 M7) (fun v10 M9 =>
  mbd (m_X5_howFar a0 v2 a1 M9) (fun v12 M11 =>
  if v12 ≤ v10 then
  some (0, M11)
  else
  mbd (m_X5_howFar a0 v4 a1 M11) (fun v14 M13 =>
  mbd (m_X5_howFar a0 v4 a2 M13) (fun v16 M15 =>
  if v16 ≤ v14 then
  some (0, M15)
  else
  some (1, M15)))))))))
set_option maxRecDepth 100000 in
set_option maxHeartbeats 4000000 in
theorem r_X5_wouldSwap {B n : Nat} {h0 : zHp} {M0 : zMem} (w0 : zW B n h0 M0) (a0 : Nat) (p0 : zIS a0) (a1 : Int32) (a2 : Int32) : zRR B n (f_X5_wouldSwap (B + a0) a1 a2 h0) (m_X5_wouldSwap a0 a1 a2 M0) := by
  unfold f_X5_wouldSwap m_X5_wouldSwap
  refine zr_gR w0 p0.1 rfl ?_
  refine zr_a0 w0 (p0.2.1 4 (by decide)) (fun v2 => ?_)
  refine zr_gR w0 p0.1 rfl ?_
  refine zr_a0 w0 (p0.2.1 4 (by decide)) (fun v4 => ?_)
  refine zr_cv w0 p0.1 (r_X5_isUp w0 a0 p0 a1) (fun v6 h5 M5 w5 => ?_)
  refine zr_if ?_ ?_
  · exact zr_ok w5
  · refine zr_cv w5 p0.1 (r_X5_isUp w5 a0 p0 a2) (fun v8 h7 M7 w7 => ?_)
    refine zr_if ?_ ?_
    · exact zr_ok w7
    · refine zr_if ?_ ?_
      · exact zr_ok w7
      · refine zr_if ?_ ?_
        · exact zr_ok w7
        · refine zr_if ?_ ?_
          · exact zr_ok w7
          · refine zr_cv w7 p0.1 (r_X5_howFar w7 a0 p0 v2 a2) (fun v10 h9 M9 w9 => ?_)
            refine zr_cv w9 p0.1 (r_X5_howFar w9 a0 p0 v2 a1) (fun v12 h11 M11 w11 => ?_)
            refine zr_if ?_ ?_
            · exact zr_ok w11
            · refine zr_cv w11 p0.1 (r_X5_howFar w11 a0 p0 v4 a1) (fun v14 h13 M13 w13 => ?_)
              refine zr_cv w13 p0.1 (r_X5_howFar w13 a0 p0 v4 a2) (fun v16 h15 M15 w15 => ?_)
              refine zr_if ?_ ?_
              · exact zr_ok w15
              · exact zr_ok w15
def m_X7_isFrom (a0 : Int32) (a1 : Int32) (a2 : Int32) (M0 : zMem) : Option (Int32 × zMem) :=
  if a1 < a0 then
  some (0, M0)
  else
  if a2 < a1 then
  some (0, M0)
  else
  some (1, M0)
set_option maxRecDepth 100000 in
set_option maxHeartbeats 4000000 in
theorem r_X7_isFrom {B n : Nat} {h0 : zHp} {M0 : zMem} (w0 : zW B n h0 M0) (a0 : Int32) (a1 : Int32) (a2 : Int32) : zRR B n (f_X7_isFrom a0 a1 a2 h0) (m_X7_isFrom a0 a1 a2 M0) := by
  unfold f_X7_isFrom m_X7_isFrom
  refine zr_if ?_ ?_
  · exact zr_ok w0
  · refine zr_if ?_ ?_
    · exact zr_ok w0
    · exact zr_ok w0
def m_X7_ahead (a1 : Int32) (a2 : Int32) (M0 : zMem) : Option (Int32 × zMem) :=
  mbd (m_X7_isFrom 0 a1 60 M0) (fun v2 M1 =>
  if v2 = 0 then
  some ((-1), M1)
  else
  mbd (m_X7_isFrom 0 a2 3 M1) (fun v4 M3 =>
  if v4 = 0 then
  some ((-1), M3)
  else
  mbd (m_X1_skyAfter 42 0 0 a1 M3) (fun t8 M7 =>
  if a2 = 0 then
  mbd (m_X5_rainInAll t8 M7) (fun v10 M9 =>
  mbd (m_X5_rainInAll 42 M9) (fun v13 M12 =>
  some ((v10 - v13), M12)))
  else if a2 = 1 then
  mbd (m_X5_howManyAre t8 1 M7) (fun v15 M14 =>
  some (v15, M14))
  else if a2 = 2 then
  mbd (m_X5_marksInAll t8 M7) (fun v17 M16 =>
  mbd (m_X5_marksInAll 42 M16) (fun v20 M19 =>
  some ((v17 - v20), M19)))
  else 
  mbd (m_X5_howManyAre t8 2 M7) (fun v22 M21 =>
  mbd (m_X5_howManyAre 42 2 M21) (fun v25 M24 =>
  some ((v22 - v25), M24))))))
set_option maxRecDepth 100000 in
set_option maxHeartbeats 4000000 in
theorem r_X7_ahead {B n : Nat} {h0 : zHp} {M0 : zMem} (w0 : zW B n h0 M0) (a1 : Int32) (a2 : Int32) : zRR B n (f_X7_ahead (B + 0) a1 a2 h0) (m_X7_ahead a1 a2 M0) := by
  unfold f_X7_ahead m_X7_ahead
  refine zr_bd (r_X7_isFrom w0 0 a1 60) (fun v2 h1 M1 w1 => ?_)
  refine zr_if ?_ ?_
  · exact zr_ok w1
  · refine zr_bd (r_X7_isFrom w1 0 a2 3) (fun v4 h3 M3 w3 => ?_)
    refine zr_if ?_ ?_
    · exact zr_ok w3
    · refine zr_gR w3 zio_7 rfl ?_
      refine zr_gR w3 zio_7 rfl ?_
      refine zr_cvA w3 zio_1 (r_X1_skyAfter w3 42 zis_42 0 0 a1) (fun t8 h7 M7 q8 w7 => ?_)
      refine zr_if ?_ ?_
      · refine zr_cv w7 q8.1 (r_X5_rainInAll w7 t8 q8) (fun v10 h9 M9 w9 => ?_)
        refine zr_gR w9 zio_7 rfl ?_
        refine zr_cv w9 zis_42.1 (r_X5_rainInAll w9 42 zis_42) (fun v13 h12 M12 w12 => ?_)
        exact zr_ok w12
      refine zr_if ?_ ?_
      · refine zr_cv w7 q8.1 (r_X5_howManyAre w7 t8 q8 1) (fun v15 h14 M14 w14 => ?_)
        exact zr_ok w14
      refine zr_if ?_ ?_
      · refine zr_cv w7 q8.1 (r_X5_marksInAll w7 t8 q8) (fun v17 h16 M16 w16 => ?_)
        refine zr_gR w16 zio_7 rfl ?_
        refine zr_cv w16 zis_42.1 (r_X5_marksInAll w16 42 zis_42) (fun v20 h19 M19 w19 => ?_)
        exact zr_ok w19
      refine zr_cv w7 q8.1 (r_X5_howManyAre w7 t8 q8 2) (fun v22 h21 M21 w21 => ?_)
      refine zr_gR w21 zio_7 rfl ?_
      refine zr_cv w21 zis_42.1 (r_X5_howManyAre w21 42 zis_42 2) (fun v25 h24 M24 w24 => ?_)
      exact zr_ok w24
def m_X7_back  (M0 : zMem) : Option (Int32 × zMem) :=
  if (M0.1 0 6) = 0 then
  some ((-1), M0)
  else
  mbd (m_X5_copyFrom 42 61 M0) (fun v5 M4 =>
  mbd (m_X0_forget  M4) (fun v8 M7 =>
  some ((M7.1 42 11), M7)))
set_option maxRecDepth 100000 in
set_option maxHeartbeats 4000000 in
theorem r_X7_back {B n : Nat} {h0 : zHp} {M0 : zMem} (w0 : zW B n h0 M0)  : zRR B n (f_X7_back (B + 0) h0) (m_X7_back  M0) := by
  unfold f_X7_back m_X7_back
  refine zr_gI w0 zio_7 rfl ?_
  refine zr_if ?_ ?_
  · exact zr_ok w0
  · refine zr_gR w0 zio_7 rfl ?_
    refine zr_gR w0 zio_7 rfl ?_
    refine zr_cv w0 zis_42.1 (r_X5_copyFrom w0 42 zis_42 61 zis_61) (fun v5 h4 M4 w4 => ?_)
    refine zr_gR w4 zio_7 rfl ?_
    refine zr_cv w4 zio_0 (r_X0_forget w4 ) (fun v8 h7 M7 w7 => ?_)
    refine zr_gR w7 zio_7 rfl ?_
    refine zr_gI w7 zis_42.1 rfl ?_
    exact zr_ok w7
def m_X7_blow (a1 : Int32) (M0 : zMem) : Option (Int32 × zMem) :=
  mbd (m_X7_isFrom (-1) a1 4 M0) (fun v2 M1 =>
  if v2 = 0 then
  some (0, M1)
  else
  if (M1.1 42 12) = a1 then
  some (0, M1)
  else
  mbd (m_X0_remember 3 0 (M1.1 42 12) 0 M1) (fun v9 M8 =>
  mlt (mup M8 42 12 a1) (fun M11 =>
  some (1, M11))))
set_option maxRecDepth 100000 in
set_option maxHeartbeats 4000000 in
theorem r_X7_blow {B n : Nat} {h0 : zHp} {M0 : zMem} (w0 : zW B n h0 M0) (a1 : Int32) : zRR B n (f_X7_blow (B + 0) a1 h0) (m_X7_blow a1 M0) := by
  unfold f_X7_blow m_X7_blow
  refine zr_bd (r_X7_isFrom w0 (-1) a1 4) (fun v2 h1 M1 w1 => ?_)
  refine zr_if ?_ ?_
  · exact zr_ok w1
  · refine zr_gR w1 zio_7 rfl ?_
    refine zr_gI w1 zis_42.1 rfl ?_
    refine zr_if ?_ ?_
    · exact zr_ok w1
    · refine zr_gR w1 zio_7 rfl ?_
      refine zr_gR w1 zio_7 rfl ?_
      refine zr_gI w1 zis_42.1 rfl ?_
      refine zr_cv w1 zio_0 (r_X0_remember w1 3 0 (M1.1 42 12) 0) (fun v9 h8 M8 w8 => ?_)
      refine zr_gR w8 zio_7 rfl ?_
      refine zr_pV w8 zis_42.1 (Nat.le_of_ble_eq_true rfl) rfl (fun h11 M11 w11 => ?_)
      exact zr_ok w11
def m_X7_isField (a1 : Int32) (M0 : zMem) : Option (Int32 × zMem) :=
  if a1 < 0 then
  some (0, M0)
  else
  mlt (ztof (M0.1 0 3)) (fun t1 =>
  if (M0.1 t1 13) ≤ a1 then
  some (0, M0)
  else
  some (1, M0))
set_option maxRecDepth 100000 in
set_option maxHeartbeats 4000000 in
theorem r_X7_isField {B n : Nat} {h0 : zHp} {M0 : zMem} (w0 : zW B n h0 M0) (a1 : Int32) : zRR B n (f_X7_isField (B + 0) a1 h0) (m_X7_isField a1 M0) := by
  unfold f_X7_isField m_X7_isField
  refine zr_if ?_ ?_
  · exact zr_ok w0
  · refine zr_gT w0 zio_7 rfl (fun t1 q1 => ?_)
    refine zr_gI w0 (zit_o q1) rfl ?_
    refine zr_if ?_ ?_
    · exact zr_ok w0
    · exact zr_ok w0
def m_X7_chance (a1 : Int32) (a2 : Int32) (a3 : Int32) (a4 : Int32) (M0 : zMem) : Option (Int32 × zMem) :=
  if a1 < 0 then
  some ((-1), M0)
  else
  mbd (m_X7_isFrom 1 a2 60 M0) (fun v2 M1 =>
  if v2 = 0 then
  some ((-1), M1)
  else
  mbd (m_X7_isField a3 M1) (fun v4 M3 =>
  if v4 = 0 then
  some ((-1), M3)
  else
  mbd (m_X7_isFrom 0 a4 999 M3) (fun v6 M5 =>
  if v6 = 0 then
  some ((-1), M5)
  else
  mbd (m_X1_drawFrom a1 M5) (fun v9 M8 =>
  mbd (
  mlp (σ := (Int32 × Int32)) (β := (Int32 × Int32)) zLF (fun s10 M11 =>
  if 10 ≤ s10.2 then
  some ((.inr (s10.1, s10.2)), M11)
  else
  mbd (m_X1_rainByChance 42 a2 a3 M11) (fun v17 M16 =>
  if v17 < a4 then
  some ((.inl (s10.1, (s10.2 + 1))), M16)
  else
  some ((.inl ((s10.1 + 1), (s10.2 + 1))), M16))) (0, 0) M8) (fun e12 M13 =>
  some (e12.1, M13))))))
set_option maxRecDepth 100000 in
set_option maxHeartbeats 4000000 in
theorem r_X7_chance {B n : Nat} {h0 : zHp} {M0 : zMem} (w0 : zW B n h0 M0) (a1 : Int32) (a2 : Int32) (a3 : Int32) (a4 : Int32) : zRR B n (f_X7_chance (B + 0) a1 a2 a3 a4 h0) (m_X7_chance a1 a2 a3 a4 M0) := by
  unfold f_X7_chance m_X7_chance
  refine zr_if ?_ ?_
  · exact zr_ok w0
  · refine zr_bd (r_X7_isFrom w0 1 a2 60) (fun v2 h1 M1 w1 => ?_)
    refine zr_if ?_ ?_
    · exact zr_ok w1
    · refine zr_cv w1 zio_7 (r_X7_isField w1 a3) (fun v4 h3 M3 w3 => ?_)
      refine zr_if ?_ ?_
      · exact zr_ok w3
      · refine zr_bd (r_X7_isFrom w3 0 a4 999) (fun v6 h5 M5 w5 => ?_)
        refine zr_if ?_ ?_
        · exact zr_ok w5
        · refine zr_gR w5 zio_7 rfl ?_
          refine zr_cv w5 zio_1 (r_X1_drawFrom w5 a1) (fun v9 h8 M8 w8 => ?_)
          refine zr_bd (zr_lp (fun s10 h11 M11 w11 => ?_) (0, 0) h8 M8 w8) (fun e12 h13 M13 w13 => ?_)
          · refine zr_if ?_ ?_
            · exact zr_ok w11
            · refine zr_gR w11 zio_7 rfl ?_
              refine zr_gR w11 zio_7 rfl ?_
              refine zr_cv w11 zio_1 (r_X1_rainByChance w11 42 zis_42 a2 a3) (fun v17 h16 M16 w16 => ?_)
              refine zr_if ?_ ?_
              · exact zr_ok w16
              · exact zr_ok w16
          · exact zr_ok w13
def m_X7_isChild (a1 : Int32) (M0 : zMem) : Option (Int32 × zMem) :=
  if a1 < 0 then
  some (0, M0)
  else
  mlt (ztof (M0.1 0 3)) (fun t1 =>
  if (M0.1 t1 15) ≤ a1 then
  some (0, M0)
  else
  some (1, M0))
set_option maxRecDepth 100000 in
set_option maxHeartbeats 4000000 in
theorem r_X7_isChild {B n : Nat} {h0 : zHp} {M0 : zMem} (w0 : zW B n h0 M0) (a1 : Int32) : zRR B n (f_X7_isChild (B + 0) a1 h0) (m_X7_isChild a1 M0) := by
  unfold f_X7_isChild m_X7_isChild
  refine zr_if ?_ ?_
  · exact zr_ok w0
  · refine zr_gT w0 zio_7 rfl (fun t1 q1 => ?_)
    refine zr_gI w0 (zit_o q1) rfl ?_
    refine zr_if ?_ ?_
    · exact zr_ok w0
    · exact zr_ok w0
def m_X7_child (a1 : Int32) (a2 : Int32) (M0 : zMem) : Option (Int32 × zMem) :=
  mbd (m_X7_isChild a1 M0) (fun v2 M1 =>
  if v2 = 0 then
  some ((-1), M1)
  else
  if a2 = 0 then
  zob (mrd M1 (42 + 7) a1) (fun v5 =>
  some (v5, M1))
  else if a2 = 1 then
  zob (mrd M1 (42 + 8) a1) (fun v8 =>
  some (v8, M1))
  else if a2 = 2 then
  mlt (ztof (M1.1 0 3)) (fun t9 =>
  zob (mrd M1 (t9 + 11) a1) (fun v11 =>
  some (v11, M1)))
  else if a2 = 3 then
  zob (mrd M1 (42 + 9) a1) (fun v14 =>
  some (v14, M1))
  else if a2 = 4 then
  mbd (m_X5_ownInSky 42 a1 M1) (fun v17 M16 =>
  some (v17, M16))
  else if a2 = 5 then
  mbd (m_X5_rainOfOwn 42 a1 M1) (fun v20 M19 =>
  some (v20, M19))
  else 
  some ((-1), M1))
set_option maxRecDepth 100000 in
set_option maxHeartbeats 4000000 in
theorem r_X7_child {B n : Nat} {h0 : zHp} {M0 : zMem} (w0 : zW B n h0 M0) (a1 : Int32) (a2 : Int32) : zRR B n (f_X7_child (B + 0) a1 a2 h0) (m_X7_child a1 a2 M0) := by
  unfold f_X7_child m_X7_child
  refine zr_cv w0 zio_7 (r_X7_isChild w0 a1) (fun v2 h1 M1 w1 => ?_)
  refine zr_if ?_ ?_
  · exact zr_ok w1
  · refine zr_if ?_ ?_
    · refine zr_gR w1 zio_7 rfl ?_
      refine zr_gR w1 zis_42.1 rfl ?_
      refine zr_a0 w1 (zis_42.2.2.1 0 (by decide)) (fun v5 => ?_)
      exact zr_ok w1
    refine zr_if ?_ ?_
    · refine zr_gR w1 zio_7 rfl ?_
      refine zr_gR w1 zis_42.1 rfl ?_
      refine zr_a0 w1 (zis_42.2.2.1 1 (by decide)) (fun v8 => ?_)
      exact zr_ok w1
    refine zr_if ?_ ?_
    · refine zr_gT w1 zio_7 rfl (fun t9 q9 => ?_)
      refine zr_gR w1 (zit_o q9) rfl ?_
      refine zr_a0 w1 (zta_10 q9) (fun v11 => ?_)
      exact zr_ok w1
    refine zr_if ?_ ?_
    · refine zr_gR w1 zio_7 rfl ?_
      refine zr_gR w1 zis_42.1 rfl ?_
      refine zr_a0 w1 (zis_42.2.2.1 2 (by decide)) (fun v14 => ?_)
      exact zr_ok w1
    refine zr_if ?_ ?_
    · refine zr_gR w1 zio_7 rfl ?_
      refine zr_cv w1 zis_42.1 (r_X5_ownInSky w1 42 zis_42 a1) (fun v17 h16 M16 w16 => ?_)
      exact zr_ok w16
    refine zr_if ?_ ?_
    · refine zr_gR w1 zio_7 rfl ?_
      refine zr_cv w1 zis_42.1 (r_X5_rainOfOwn w1 42 zis_42 a1) (fun v20 h19 M19 w19 => ?_)
      exact zr_ok w19
    exact zr_ok w1
def m_X7_isCloud (a1 : Int32) (M0 : zMem) : Option (Int32 × zMem) :=
  if a1 < 0 then
  some (0, M0)
  else
  mlt (ztof (M0.1 0 3)) (fun t1 =>
  if (M0.1 t1 14) ≤ a1 then
  some (0, M0)
  else
  some (1, M0))
set_option maxRecDepth 100000 in
set_option maxHeartbeats 4000000 in
theorem r_X7_isCloud {B n : Nat} {h0 : zHp} {M0 : zMem} (w0 : zW B n h0 M0) (a1 : Int32) : zRR B n (f_X7_isCloud (B + 0) a1 h0) (m_X7_isCloud a1 M0) := by
  unfold f_X7_isCloud m_X7_isCloud
  refine zr_if ?_ ?_
  · exact zr_ok w0
  · refine zr_gT w0 zio_7 rfl (fun t1 q1 => ?_)
    refine zr_gI w0 (zit_o q1) rfl ?_
    refine zr_if ?_ ?_
    · exact zr_ok w0
    · exact zr_ok w0
def m_X7_could  (M0 : zMem) : Option (Int32 × zMem) :=
  mbd (
  mlp (σ := (Int32 × Int32)) (β := (Int32 × Int32)) zLF (fun s1 M2 =>
  mlt (ztof (M2.1 0 3)) (fun t5 =>
  if (1 <<< ((M2.1 t5 15) &&& 31)) ≤ s1.2 then
  some ((.inr (s1.1, s1.2)), M2)
  else
  mbd (
  mlp (σ := (Int32 × Int32)) (β := (Int32 × Int32)) zLF (fun s7 M8 =>
  mlt (ztof (M8.1 0 3)) (fun t11 =>
  if (M8.1 t11 15) ≤ s7.2 then
  some ((.inr (s7.1, s7.2)), M8)
  else
  if ((s1.2 >>> (s7.2 &&& 31)) &&& 1) = 0 then
  mbd (m_X5_seenBy 42 s7.2 M8) (fun v15 M14 =>
  some ((.inl ((s7.1 ||| v15), (s7.2 + 1))), M14))
  else
  some ((.inl (s7.1, (s7.2 + 1))), M8))) (0, 0) M2) (fun e9 M10 =>
  mlt (ztof (M10.1 0 3)) (fun t16 =>
  mbd (m_J6_bitCount_0f7a4 s1.2 M10) (fun v19 M18 =>
  mbd (m_J6_bitCount_0f7a4 e9.1 M18) (fun v21 M20 =>
  some ((.inl ((zmn s1.1 (((M10.1 t16 18) * v19) + v21)), (s1.2 + 1))), M20))))))) (8, 0) M0) (fun e3 M4 =>
  some (e3.1, M4))
set_option maxRecDepth 100000 in
set_option maxHeartbeats 4000000 in
theorem r_X7_could {B n : Nat} {h0 : zHp} {M0 : zMem} (w0 : zW B n h0 M0)  : zRR B n (f_X7_could (B + 0) h0) (m_X7_could  M0) := by
  unfold f_X7_could m_X7_could
  refine zr_bd (zr_lp (fun s1 h2 M2 w2 => ?_) (8, 0) h0 M0 w0) (fun e3 h4 M4 w4 => ?_)
  · refine zr_gT w2 zio_7 rfl (fun t5 q5 => ?_)
    refine zr_gI w2 (zit_o q5) rfl ?_
    refine zr_if ?_ ?_
    · exact zr_ok w2
    · refine zr_bd (zr_lp (fun s7 h8 M8 w8 => ?_) (0, 0) h2 M2 w2) (fun e9 h10 M10 w10 => ?_)
      · refine zr_gT w8 zio_7 rfl (fun t11 q11 => ?_)
        refine zr_gI w8 (zit_o q11) rfl ?_
        refine zr_if ?_ ?_
        · exact zr_ok w8
        · refine zr_if ?_ ?_
          · refine zr_gR w8 zio_7 rfl ?_
            refine zr_cv w8 zis_42.1 (r_X5_seenBy w8 42 zis_42 s7.2) (fun v15 h14 M14 w14 => ?_)
            exact zr_ok w14
          · exact zr_ok w8
      · refine zr_gT w10 zio_7 rfl (fun t16 q16 => ?_)
        refine zr_gI w10 (zit_o q16) rfl ?_
        refine zr_bd (r_J6_bitCount_0f7a4 w10 s1.2) (fun v19 h18 M18 w18 => ?_)
        refine zr_bd (r_J6_bitCount_0f7a4 w18 e9.1) (fun v21 h20 M20 w20 => ?_)
        exact zr_ok w20
  · exact zr_ok w4
def m_X7_count (a1 : Int32) (M0 : zMem) : Option (Int32 × zMem) :=
  if a1 = 0 then
  mlt (ztof (M0.1 0 3)) (fun t1 =>
  some ((M0.1 t1 13), M0))
  else if a1 = 1 then
  mlt (ztof (M0.1 0 3)) (fun t3 =>
  some ((M0.1 t3 14), M0))
  else if a1 = 2 then
  mlt (ztof (M0.1 0 3)) (fun t5 =>
  some ((M0.1 t5 15), M0))
  else if a1 = 3 then
  mlt (ztof (M0.1 0 3)) (fun t7 =>
  some ((M0.1 t7 16), M0))
  else if a1 = 4 then
  mlt (ztof (M0.1 0 3)) (fun t9 =>
  some ((M0.1 (t9 + 13) 5), M0))
  else if a1 = 5 then
  some ((M0.1 42 11), M0)
  else if a1 = 6 then
  mbd (m_X5_windNow 42 M0) (fun v16 M15 =>
  some (v16, M15))
  else if a1 = 7 then
  mbd (m_X5_howManyAre 42 1 M0) (fun v19 M18 =>
  some (v19, M18))
  else if a1 = 8 then
  mbd (m_X5_howManyAre 42 0 M0) (fun v22 M21 =>
  some (v22, M21))
  else if a1 = 9 then
  mbd (m_X5_howManyAre 42 2 M0) (fun v25 M24 =>
  some (v25, M24))
  else if a1 = 10 then
  mbd (m_X5_rainInAll 42 M0) (fun v28 M27 =>
  some (v28, M27))
  else if a1 = 11 then
  mbd (m_X5_marksInAll 42 M0) (fun v31 M30 =>
  some (v31, M30))
  else if a1 = 12 then
  some ((M0.1 85 6), M0)
  else if a1 = 13 then
  mbd (m_X3_readable  M0) (fun v36 M35 =>
  some (v36, M35))
  else if a1 = 14 then
  some ((M0.1 80 4), M0)
  else 
  some ((-1), M0)
set_option maxRecDepth 100000 in
set_option maxHeartbeats 4000000 in
theorem r_X7_count {B n : Nat} {h0 : zHp} {M0 : zMem} (w0 : zW B n h0 M0) (a1 : Int32) : zRR B n (f_X7_count (B + 0) a1 h0) (m_X7_count a1 M0) := by
  unfold f_X7_count m_X7_count
  refine zr_if ?_ ?_
  · refine zr_gT w0 zio_7 rfl (fun t1 q1 => ?_)
    refine zr_gI w0 (zit_o q1) rfl ?_
    exact zr_ok w0
  refine zr_if ?_ ?_
  · refine zr_gT w0 zio_7 rfl (fun t3 q3 => ?_)
    refine zr_gI w0 (zit_o q3) rfl ?_
    exact zr_ok w0
  refine zr_if ?_ ?_
  · refine zr_gT w0 zio_7 rfl (fun t5 q5 => ?_)
    refine zr_gI w0 (zit_o q5) rfl ?_
    exact zr_ok w0
  refine zr_if ?_ ?_
  · refine zr_gT w0 zio_7 rfl (fun t7 q7 => ?_)
    refine zr_gI w0 (zit_o q7) rfl ?_
    exact zr_ok w0
  refine zr_if ?_ ?_
  · refine zr_gT w0 zio_7 rfl (fun t9 q9 => ?_)
    refine zr_gR w0 (zit_o q9) rfl ?_
    refine zr_gI w0 (zit_l q9) rfl ?_
    exact zr_ok w0
  refine zr_if ?_ ?_
  · refine zr_gR w0 zio_7 rfl ?_
    refine zr_gI w0 zis_42.1 rfl ?_
    exact zr_ok w0
  refine zr_if ?_ ?_
  · refine zr_gR w0 zio_7 rfl ?_
    refine zr_cv w0 zis_42.1 (r_X5_windNow w0 42 zis_42) (fun v16 h15 M15 w15 => ?_)
    exact zr_ok w15
  refine zr_if ?_ ?_
  · refine zr_gR w0 zio_7 rfl ?_
    refine zr_cv w0 zis_42.1 (r_X5_howManyAre w0 42 zis_42 1) (fun v19 h18 M18 w18 => ?_)
    exact zr_ok w18
  refine zr_if ?_ ?_
  · refine zr_gR w0 zio_7 rfl ?_
    refine zr_cv w0 zis_42.1 (r_X5_howManyAre w0 42 zis_42 0) (fun v22 h21 M21 w21 => ?_)
    exact zr_ok w21
  refine zr_if ?_ ?_
  · refine zr_gR w0 zio_7 rfl ?_
    refine zr_cv w0 zis_42.1 (r_X5_howManyAre w0 42 zis_42 2) (fun v25 h24 M24 w24 => ?_)
    exact zr_ok w24
  refine zr_if ?_ ?_
  · refine zr_gR w0 zio_7 rfl ?_
    refine zr_cv w0 zis_42.1 (r_X5_rainInAll w0 42 zis_42) (fun v28 h27 M27 w27 => ?_)
    exact zr_ok w27
  refine zr_if ?_ ?_
  · refine zr_gR w0 zio_7 rfl ?_
    refine zr_cv w0 zis_42.1 (r_X5_marksInAll w0 42 zis_42) (fun v31 h30 M30 w30 => ?_)
    exact zr_ok w30
  refine zr_if ?_ ?_
  · refine zr_gR w0 zio_7 rfl ?_
    refine zr_gI w0 zio_3 rfl ?_
    exact zr_ok w0
  refine zr_if ?_ ?_
  · refine zr_gR w0 zio_7 rfl ?_
    refine zr_cv w0 zio_3 (r_X3_readable w0 ) (fun v36 h35 M35 w35 => ?_)
    exact zr_ok w35
  refine zr_if ?_ ?_
  · refine zr_gR w0 zio_7 rfl ?_
    refine zr_gI w0 zio_0 rfl ?_
    exact zr_ok w0
  exact zr_ok w0
def m_X7_enough (a1 : Int32) (M0 : zMem) : Option (Int32 × zMem) :=
  mbd (m_X7_isField a1 M0) (fun v2 M1 =>
  if v2 = 0 then
  some ((-1), M1)
  else
  mbd (m_X1_hoursUntilEnough 42 a1 M1) (fun v6 M5 =>
  some (v6, M5)))
set_option maxRecDepth 100000 in
set_option maxHeartbeats 4000000 in
theorem r_X7_enough {B n : Nat} {h0 : zHp} {M0 : zMem} (w0 : zW B n h0 M0) (a1 : Int32) : zRR B n (f_X7_enough (B + 0) a1 h0) (m_X7_enough a1 M0) := by
  unfold f_X7_enough m_X7_enough
  refine zr_cv w0 zio_7 (r_X7_isField w0 a1) (fun v2 h1 M1 w1 => ?_)
  refine zr_if ?_ ?_
  · exact zr_ok w1
  · refine zr_gR w1 zio_7 rfl ?_
    refine zr_gR w1 zio_7 rfl ?_
    refine zr_cv w1 zio_1 (r_X1_hoursUntilEnough w1 42 zis_42 a1) (fun v6 h5 M5 w5 => ?_)
    exact zr_ok w5
def m_X7_fault (a1 : Int32) (M0 : zMem) : Option (Int32 × zMem) :=
  if a1 = 0 then
  some ((M0.1 2 14), M0)
  else
  if a1 = 1 then
  some ((M0.1 2 15), M0)
  else
  some ((-1), M0)
set_option maxRecDepth 100000 in
set_option maxHeartbeats 4000000 in
theorem r_X7_fault {B n : Nat} {h0 : zHp} {M0 : zMem} (w0 : zW B n h0 M0) (a1 : Int32) : zRR B n (f_X7_fault (B + 0) a1 h0) (m_X7_fault a1 M0) := by
  unfold f_X7_fault m_X7_fault
  refine zr_if ?_ ?_
  · refine zr_gR w0 zio_7 rfl ?_
    refine zr_gI w0 zio_4 rfl ?_
    exact zr_ok w0
  · refine zr_if ?_ ?_
    · refine zr_gR w0 zio_7 rfl ?_
      refine zr_gI w0 zio_4 rfl ?_
      exact zr_ok w0
    · exact zr_ok w0
def m_X7_putFour (a1 : Int32) (M0 : zMem) : Option (Unit × zMem) :=
  mbd (
  mlp (σ := Int32) (β := Int32) zLF (fun s1 M2 =>
  if s1 < 0 then
  some ((.inr s1), M2)
  else
  if 700 ≤ (M2.1 0 1) then
  some ((.inr s1), M2)
  else
  zob (mwr M2 1 (M2.1 0 1) (znar 1 (Int8.toInt32 (Int32.toInt8 (a1 >>> (s1 &&& 31)))))) (fun M8 =>
  mlt (mup M8 0 1 ((M8.1 0 1) + 1)) (fun M10 =>
  some ((.inl (s1 + (-8))), M10)))) 24 M0) (fun e3 M4 =>
  some ((), M4))
set_option maxRecDepth 100000 in
set_option maxHeartbeats 4000000 in
theorem r_X7_putFour {B n : Nat} {h0 : zHp} {M0 : zMem} (w0 : zW B n h0 M0) (a1 : Int32) : zRR B n (f_X7_putFour (B + 0) a1 h0) (m_X7_putFour a1 M0) := by
  unfold f_X7_putFour m_X7_putFour
  refine zr_bd (zr_lp (fun s1 h2 M2 w2 => ?_) 24 h0 M0 w0) (fun e3 h4 M4 w4 => ?_)
  · refine zr_if ?_ ?_
    · exact zr_ok w2
    · refine zr_gI w2 zio_7 rfl ?_
      refine zr_if ?_ ?_
      · exact zr_ok w2
      · refine zr_gR w2 zio_7 rfl ?_
        refine zr_gI w2 zio_7 rfl ?_
        refine zr_s (t := 1) (by decide) w2 zca_1 (fun h8 M8 w8 => ?_)
        refine zr_gI w8 zio_7 rfl ?_
        refine zr_pV w8 zio_7 (Nat.le_of_ble_eq_true rfl) rfl (fun h10 M10 w10 => ?_)
        exact zr_ok w10
  · exact zr_ok w4
def m_X7_feed (a1 : Int32) (a2 : Int32) (a3 : Int32) (a4 : Int32) (a5 : Int32) (M0 : zMem) : Option (Int32 × zMem) :=
  if ((M0.1 0 1) + 20) ≤ 700 then
  mbd (m_X7_putFour a1 M0) (fun v3 M2 =>
  mbd (m_X7_putFour a2 M2) (fun v5 M4 =>
  mbd (m_X7_putFour a3 M4) (fun v7 M6 =>
  mbd (m_X7_putFour a4 M6) (fun v9 M8 =>
  mbd (m_X7_putFour a5 M8) (fun v11 M10 =>
  some ((M10.1 0 1), M10))))))
  else
  some ((-1), M0)
set_option maxRecDepth 100000 in
set_option maxHeartbeats 4000000 in
theorem r_X7_feed {B n : Nat} {h0 : zHp} {M0 : zMem} (w0 : zW B n h0 M0) (a1 : Int32) (a2 : Int32) (a3 : Int32) (a4 : Int32) (a5 : Int32) : zRR B n (f_X7_feed (B + 0) a1 a2 a3 a4 a5 h0) (m_X7_feed a1 a2 a3 a4 a5 M0) := by
  unfold f_X7_feed m_X7_feed
  refine zr_gI w0 zio_7 rfl ?_
  refine zr_if ?_ ?_
  · refine zr_cv w0 zio_7 (r_X7_putFour w0 a1) (fun v3 h2 M2 w2 => ?_)
    refine zr_cv w2 zio_7 (r_X7_putFour w2 a2) (fun v5 h4 M4 w4 => ?_)
    refine zr_cv w4 zio_7 (r_X7_putFour w4 a3) (fun v7 h6 M6 w6 => ?_)
    refine zr_cv w6 zio_7 (r_X7_putFour w6 a4) (fun v9 h8 M8 w8 => ?_)
    refine zr_cv w8 zio_7 (r_X7_putFour w8 a5) (fun v11 h10 M10 w10 => ?_)
    refine zr_gI w10 zio_7 rfl ?_
    exact zr_ok w10
  · exact zr_ok w0
def m_X7_field (a1 : Int32) (a2 : Int32) (M0 : zMem) : Option (Int32 × zMem) :=
  mbd (m_X7_isField a1 M0) (fun v2 M1 =>
  if v2 = 0 then
  some ((-1), M1)
  else
  if a2 = 0 then
  mlt (ztof (M1.1 0 3)) (fun t3 =>
  zob (mrd M1 (t3 + 3) a1) (fun v5 =>
  some ((zrm v5 6), M1)))
  else if a2 = 1 then
  mlt (ztof (M1.1 0 3)) (fun t6 =>
  zob (mrd M1 (t6 + 3) a1) (fun v8 =>
  some ((v8 / 6), M1)))
  else if a2 = 2 then
  mlt (ztof (M1.1 0 3)) (fun t9 =>
  zob (mrd M1 (t9 + 4) a1) (fun v11 =>
  some (v11, M1)))
  else if a2 = 3 then
  zob (mrd M1 (42 + 10) a1) (fun v14 =>
  some (v14, M1))
  else 
  some ((-1), M1))
set_option maxRecDepth 100000 in
set_option maxHeartbeats 4000000 in
theorem r_X7_field {B n : Nat} {h0 : zHp} {M0 : zMem} (w0 : zW B n h0 M0) (a1 : Int32) (a2 : Int32) : zRR B n (f_X7_field (B + 0) a1 a2 h0) (m_X7_field a1 a2 M0) := by
  unfold f_X7_field m_X7_field
  refine zr_cv w0 zio_7 (r_X7_isField w0 a1) (fun v2 h1 M1 w1 => ?_)
  refine zr_if ?_ ?_
  · exact zr_ok w1
  · refine zr_if ?_ ?_
    · refine zr_gT w1 zio_7 rfl (fun t3 q3 => ?_)
      refine zr_gR w1 (zit_o q3) rfl ?_
      refine zr_a0 w1 (zta_2 q3) (fun v5 => ?_)
      exact zr_ok w1
    refine zr_if ?_ ?_
    · refine zr_gT w1 zio_7 rfl (fun t6 q6 => ?_)
      refine zr_gR w1 (zit_o q6) rfl ?_
      refine zr_a0 w1 (zta_2 q6) (fun v8 => ?_)
      exact zr_ok w1
    refine zr_if ?_ ?_
    · refine zr_gT w1 zio_7 rfl (fun t9 q9 => ?_)
      refine zr_gR w1 (zit_o q9) rfl ?_
      refine zr_a0 w1 (zta_3 q9) (fun v11 => ?_)
      exact zr_ok w1
    refine zr_if ?_ ?_
    · refine zr_gR w1 zio_7 rfl ?_
      refine zr_gR w1 zis_42.1 rfl ?_
      refine zr_a0 w1 zis_42.2.2.2.1 (fun v14 => ?_)
      exact zr_ok w1
    exact zr_ok w1
def m_X7_give (a1 : Int32) (a2 : Int32) (M0 : zMem) : Option (Int32 × zMem) :=
  mbd (m_X7_isCloud a1 M0) (fun v2 M1 =>
  if v2 = 0 then
  some (0, M1)
  else
  zob (mrd M1 (42 + 6) a1) (fun v5 =>
  if v5 = 1 then
  mbd (α := (Unit ⊕ Int32)) (
  if a2 = (-1) then
  some ((.inl ()), M1)
  else
  mbd (m_X7_isChild a2 M1) (fun v7 M6 =>
  if v7 = 0 then
  some ((.inr 0), M6)
  else
  some ((.inl ()), M6))) (fun b22 M9 => zsl b22 (fun e8 =>
  zob (mrd M9 (42 + 5) a1) (fun v12 =>
  if v12 = a2 then
  some (0, M9)
  else
  zob (mrd M9 (42 + 5) a1) (fun v16 =>
  mbd (m_X0_remember 1 a1 v16 0 M9) (fun v18 M17 =>
  zob (mwr M17 (42 + 5) a1 a2) (fun M21 =>
  some (1, M21)))))) (fun r => some (r, M9)))
  else
  some (0, M1)))
set_option maxRecDepth 100000 in
set_option maxHeartbeats 4000000 in
theorem r_X7_give {B n : Nat} {h0 : zHp} {M0 : zMem} (w0 : zW B n h0 M0) (a1 : Int32) (a2 : Int32) : zRR B n (f_X7_give (B + 0) a1 a2 h0) (m_X7_give a1 a2 M0) := by
  unfold f_X7_give m_X7_give
  refine zr_cv w0 zio_7 (r_X7_isCloud w0 a1) (fun v2 h1 M1 w1 => ?_)
  refine zr_if ?_ ?_
  · exact zr_ok w1
  · refine zr_gR w1 zio_7 rfl ?_
    refine zr_gR w1 zis_42.1 rfl ?_
    refine zr_a0 w1 (zis_42.2.1 5 (by decide)) (fun v5 => ?_)
    refine zr_if ?_ ?_
    · refine zr_bd ?_ (fun b22 h9 M9 w9 => zr_sl (fun e8 => ?_) (fun r => zr_ok w9))
      · refine zr_if ?_ ?_
        · exact zr_ok w1
        · refine zr_cv w1 zio_7 (r_X7_isChild w1 a2) (fun v7 h6 M6 w6 => ?_)
          refine zr_if ?_ ?_
          · exact zr_ok w6
          · exact zr_ok w6
      · refine zr_gR w9 zio_7 rfl ?_
        refine zr_gR w9 zis_42.1 rfl ?_
        refine zr_a0 w9 (zis_42.2.1 4 (by decide)) (fun v12 => ?_)
        refine zr_if ?_ ?_
        · exact zr_ok w9
        · refine zr_gR w9 zio_7 rfl ?_
          refine zr_gR w9 zio_7 rfl ?_
          refine zr_gR w9 zis_42.1 rfl ?_
          refine zr_a0 w9 (zis_42.2.1 4 (by decide)) (fun v16 => ?_)
          refine zr_cv w9 zio_0 (r_X0_remember w9 1 a1 v16 0) (fun v18 h17 M17 w17 => ?_)
          refine zr_gR w17 zio_7 rfl ?_
          refine zr_gR w17 zis_42.1 rfl ?_
          refine zr_s0 w17 (zis_42.2.1 4 (by decide)) (fun h21 M21 w21 => ?_)
          exact zr_ok w21
    · exact zr_ok w1
def m_X7_go (a1 : Int32) (M0 : zMem) : Option (Int32 × zMem) :=
  mbd (m_X7_isFrom 0 a1 99 M0) (fun v2 M1 =>
  if v2 = 0 then
  some ((-1), M1)
  else
  if ((M1.1 42 11) + a1) ≤ 999 then
  mbd (α := Unit) (
  if a1 ≤ 0 then
  some ((), M1)
  else
  mbd (m_X0_forget  M1) (fun v7 M6 =>
  some ((), M6))) (fun e8 M9 =>
  mbd (
  mlp (σ := Int32) (β := Int32) zLF (fun s10 M11 =>
  if a1 ≤ s10 then
  some ((.inr s10), M11)
  else
  mbd (m_X5_windNow 42 M11) (fun v17 M16 =>
  mbd (m_X5_passHour 42 v17 M16) (fun v19 M18 =>
  some ((.inl (s10 + 1)), M18)))) 0 M9) (fun e12 M13 =>
  some ((M13.1 42 11), M13)))
  else
  some ((-1), M1))
set_option maxRecDepth 100000 in
set_option maxHeartbeats 4000000 in
theorem r_X7_go {B n : Nat} {h0 : zHp} {M0 : zMem} (w0 : zW B n h0 M0) (a1 : Int32) : zRR B n (f_X7_go (B + 0) a1 h0) (m_X7_go a1 M0) := by
  unfold f_X7_go m_X7_go
  refine zr_bd (r_X7_isFrom w0 0 a1 99) (fun v2 h1 M1 w1 => ?_)
  refine zr_if ?_ ?_
  · exact zr_ok w1
  · refine zr_gR w1 zio_7 rfl ?_
    refine zr_gI w1 zis_42.1 rfl ?_
    refine zr_if ?_ ?_
    · refine zr_bd ?_ (fun e8 h9 M9 w9 => ?_)
      · refine zr_if ?_ ?_
        · exact zr_ok w1
        · refine zr_gR w1 zio_7 rfl ?_
          refine zr_cv w1 zio_0 (r_X0_forget w1 ) (fun v7 h6 M6 w6 => ?_)
          exact zr_ok w6
      · refine zr_bd (zr_lp (fun s10 h11 M11 w11 => ?_) 0 h9 M9 w9) (fun e12 h13 M13 w13 => ?_)
        · refine zr_if ?_ ?_
          · exact zr_ok w11
          · refine zr_gR w11 zio_7 rfl ?_
            refine zr_gR w11 zio_7 rfl ?_
            refine zr_cv w11 zis_42.1 (r_X5_windNow w11 42 zis_42) (fun v17 h16 M16 w16 => ?_)
            refine zr_cv w16 zis_42.1 (r_X5_passHour w16 42 zis_42 v17) (fun v19 h18 M18 w18 => ?_)
            exact zr_ok w18
        · refine zr_gR w13 zio_7 rfl ?_
          refine zr_gI w13 zis_42.1 rfl ?_
          exact zr_ok w13
    · exact zr_ok w1
def m_X7_ground (a1 : Int32) (a2 : Int32) (M0 : zMem) : Option (Int32 × zMem) :=
  mbd (m_X7_isCell a1 a2 M0) (fun v2 M1 =>
  if v2 = 0 then
  some ((-1), M1)
  else
  mbd (m_X5_groundAt 42 a1 a2 M1) (fun v5 M4 =>
  some (v5, M4)))
set_option maxRecDepth 100000 in
set_option maxHeartbeats 4000000 in
theorem r_X7_ground {B n : Nat} {h0 : zHp} {M0 : zMem} (w0 : zW B n h0 M0) (a1 : Int32) (a2 : Int32) : zRR B n (f_X7_ground (B + 0) a1 a2 h0) (m_X7_ground a1 a2 M0) := by
  unfold f_X7_ground m_X7_ground
  refine zr_bd (r_X7_isCell w0 a1 a2) (fun v2 h1 M1 w1 => ?_)
  refine zr_if ?_ ?_
  · exact zr_ok w1
  · refine zr_gR w1 zio_7 rfl ?_
    refine zr_cv w1 zis_42.1 (r_X5_groundAt w1 42 zis_42 a1 a2) (fun v5 h4 M4 w4 => ?_)
    exact zr_ok w4
def m_X7_in (a1 : Int32) (a2 : Int32) (M0 : zMem) : Option (Int32 × zMem) :=
  mbd (m_X7_isCell a1 a2 M0) (fun v2 M1 =>
  if v2 = 0 then
  some ((-1), M1)
  else
  mbd (m_X5_cloudsAt 42 a1 a2 M1) (fun v5 M4 =>
  some (v5, M4)))
set_option maxRecDepth 100000 in
set_option maxHeartbeats 4000000 in
theorem r_X7_in {B n : Nat} {h0 : zHp} {M0 : zMem} (w0 : zW B n h0 M0) (a1 : Int32) (a2 : Int32) : zRR B n (f_X7_in (B + 0) a1 a2 h0) (m_X7_in a1 a2 M0) := by
  unfold f_X7_in m_X7_in
  refine zr_bd (r_X7_isCell w0 a1 a2) (fun v2 h1 M1 w1 => ?_)
  refine zr_if ?_ ?_
  · exact zr_ok w1
  · refine zr_gR w1 zio_7 rfl ?_
    refine zr_cv w1 zis_42.1 (r_X5_cloudsAt w1 42 zis_42 a1 a2) (fun v5 h4 M4 w4 => ?_)
    exact zr_ok w4
def m_X7_keep  (M0 : zMem) : Option (Int32 × zMem) :=
  mbd (m_X5_copyFrom 61 42 M0) (fun v4 M3 =>
  mlt (mup M3 0 6 1) (fun M5 =>
  some ((M5.1 42 11), M5)))
set_option maxRecDepth 100000 in
set_option maxHeartbeats 4000000 in
theorem r_X7_keep {B n : Nat} {h0 : zHp} {M0 : zMem} (w0 : zW B n h0 M0)  : zRR B n (f_X7_keep (B + 0) h0) (m_X7_keep  M0) := by
  unfold f_X7_keep m_X7_keep
  refine zr_gR w0 zio_7 rfl ?_
  refine zr_gR w0 zio_7 rfl ?_
  refine zr_cv w0 zis_61.1 (r_X5_copyFrom w0 61 zis_61 42 zis_42) (fun v4 h3 M3 w3 => ?_)
  refine zr_pV w3 zio_7 (Nat.le_of_ble_eq_true rfl) rfl (fun h5 M5 w5 => ?_)
  refine zr_gR w5 zio_7 rfl ?_
  refine zr_gI w5 zis_42.1 rfl ?_
  exact zr_ok w5
def m_X7_known (a1 : Int32) (M0 : zMem) : Option (Int32 × zMem) :=
  mbd (m_X7_isFrom (-1) a1 (M0.1 85 6) M0) (fun v4 M3 =>
  if v4 = 0 then
  some (0, M3)
  else
  mlt (mup M3 85 7 a1) (fun M6 =>
  some (1, M6)))
set_option maxRecDepth 100000 in
set_option maxHeartbeats 4000000 in
theorem r_X7_known {B n : Nat} {h0 : zHp} {M0 : zMem} (w0 : zW B n h0 M0) (a1 : Int32) : zRR B n (f_X7_known (B + 0) a1 h0) (m_X7_known a1 M0) := by
  unfold f_X7_known m_X7_known
  refine zr_gR w0 zio_7 rfl ?_
  refine zr_gI w0 zio_3 rfl ?_
  refine zr_bd (r_X7_isFrom w0 (-1) a1 (M0.1 85 6)) (fun v4 h3 M3 w3 => ?_)
  refine zr_if ?_ ?_
  · exact zr_ok w3
  · refine zr_gR w3 zio_7 rfl ?_
    refine zr_pV w3 zio_3 (Nat.le_of_ble_eq_true rfl) rfl (fun h6 M6 w6 => ?_)
    exact zr_ok w6
def m_X7_lacks  (M0 : zMem) : Option (Int32 × zMem) :=
  mbd (
  mlp (σ := (Int32 × Int32)) (β := (Int32 × Int32)) zLF (fun s1 M2 =>
  mlt (ztof (M2.1 0 3)) (fun t5 =>
  if (M2.1 t5 13) ≤ s1.2 then
  some ((.inr (s1.1, s1.2)), M2)
  else
  mbd (m_X5_lacksRain 42 s1.2 M2) (fun v9 M8 =>
  if v9 = 0 then
  some ((.inl (s1.1, (s1.2 + 1))), M8)
  else
  some ((.inl ((s1.1 ||| (1 <<< (s1.2 &&& 31))), (s1.2 + 1))), M8)))) (0, 0) M0) (fun e3 M4 =>
  some (e3.1, M4))
set_option maxRecDepth 100000 in
set_option maxHeartbeats 4000000 in
theorem r_X7_lacks {B n : Nat} {h0 : zHp} {M0 : zMem} (w0 : zW B n h0 M0)  : zRR B n (f_X7_lacks (B + 0) h0) (m_X7_lacks  M0) := by
  unfold f_X7_lacks m_X7_lacks
  refine zr_bd (zr_lp (fun s1 h2 M2 w2 => ?_) (0, 0) h0 M0 w0) (fun e3 h4 M4 w4 => ?_)
  · refine zr_gT w2 zio_7 rfl (fun t5 q5 => ?_)
    refine zr_gI w2 (zit_o q5) rfl ?_
    refine zr_if ?_ ?_
    · exact zr_ok w2
    · refine zr_gR w2 zio_7 rfl ?_
      refine zr_cv w2 zis_42.1 (r_X5_lacksRain w2 42 zis_42 s1.2) (fun v9 h8 M8 w8 => ?_)
      refine zr_if ?_ ?_
      · exact zr_ok w8
      · exact zr_ok w8
  · exact zr_ok w4
def m_X7_law (a1 : Int32) (a2 : Int32) (M0 : zMem) : Option (Int64 × zMem) :=
  mbd (m_X7_isFrom 0 a1 2 M0) (fun v2 M1 =>
  if v2 = 0 then
  some ((-9223372036854775808), M1)
  else
  mbd (m_X7_isCloud a2 M1) (fun v4 M3 =>
  if v4 = 0 then
  some ((-9223372036854775808), M3)
  else
  zob (mrd M3 (42 + 6) a2) (fun v7 =>
  if v7 = 1 then
  mbd (m_X5_worthOf 42 a1 a2 M3) (fun v10 M9 =>
  some (v10, M9))
  else
  some ((-9223372036854775808), M3))))
set_option maxRecDepth 100000 in
set_option maxHeartbeats 4000000 in
theorem r_X7_law {B n : Nat} {h0 : zHp} {M0 : zMem} (w0 : zW B n h0 M0) (a1 : Int32) (a2 : Int32) : zRR B n (f_X7_law (B + 0) a1 a2 h0) (m_X7_law a1 a2 M0) := by
  unfold f_X7_law m_X7_law
  refine zr_bd (r_X7_isFrom w0 0 a1 2) (fun v2 h1 M1 w1 => ?_)
  refine zr_if ?_ ?_
  · exact zr_ok w1
  · refine zr_cv w1 zio_7 (r_X7_isCloud w1 a2) (fun v4 h3 M3 w3 => ?_)
    refine zr_if ?_ ?_
    · exact zr_ok w3
    · refine zr_gR w3 zio_7 rfl ?_
      refine zr_gR w3 zis_42.1 rfl ?_
      refine zr_a0 w3 (zis_42.2.1 5 (by decide)) (fun v7 => ?_)
      refine zr_if ?_ ?_
      · refine zr_gR w3 zio_7 rfl ?_
        refine zr_cv w3 zis_42.1 (r_X5_worthOf w3 42 zis_42 a1 a2) (fun v10 h9 M9 w9 => ?_)
        exact zr_ok w9
      · exact zr_ok w3
def m_X7_likely (a1 : Int32) (a2 : Int32) (a3 : Int32) (M0 : zMem) : Option (Int32 × zMem) :=
  mbd (m_X7_isField a1 M0) (fun v2 M1 =>
  if v2 = 0 then
  some ((-1), M1)
  else
  mbd (m_X7_isFrom 1 a2 5 M1) (fun v4 M3 =>
  if v4 = 0 then
  some ((-1), M3)
  else
  mbd (m_X7_isFrom 0 a3 1 M3) (fun v6 M5 =>
  if v6 = 0 then
  some ((-1), M5)
  else
  mbd (m_X1_rowsWithRain 42 a1 a2 M5) (fun v10 M9 =>
  mbd (m_X1_rowsOf a2 M9) (fun v12 M11 =>
  mbd (
  mlp (σ := (Int32 × Int32 × Int32)) (β := (Int32 × Int32 × Int32)) zLF (fun s13 M14 =>
  if a2 ≤ s13.2.2 then
  some ((.inr (s13.1, s13.2.1, s13.2.2)), M14)
  else
  if (zrm s13.1 5) = 0 then
  some ((.inl ((s13.1 / 5), (s13.2.1 / 5), (s13.2.2 + 1))), M14)
  else
  some ((.inr (s13.1, s13.2.1, s13.2.2)), M14)) (v10, v12, 0) M11) (fun e15 M16 =>
  if a3 = 0 then
  some (e15.1, M16)
  else
  some (e15.2.1, M16)))))))
set_option maxRecDepth 100000 in
set_option maxHeartbeats 4000000 in
theorem r_X7_likely {B n : Nat} {h0 : zHp} {M0 : zMem} (w0 : zW B n h0 M0) (a1 : Int32) (a2 : Int32) (a3 : Int32) : zRR B n (f_X7_likely (B + 0) a1 a2 a3 h0) (m_X7_likely a1 a2 a3 M0) := by
  unfold f_X7_likely m_X7_likely
  refine zr_cv w0 zio_7 (r_X7_isField w0 a1) (fun v2 h1 M1 w1 => ?_)
  refine zr_if ?_ ?_
  · exact zr_ok w1
  · refine zr_bd (r_X7_isFrom w1 1 a2 5) (fun v4 h3 M3 w3 => ?_)
    refine zr_if ?_ ?_
    · exact zr_ok w3
    · refine zr_bd (r_X7_isFrom w3 0 a3 1) (fun v6 h5 M5 w5 => ?_)
      refine zr_if ?_ ?_
      · exact zr_ok w5
      · refine zr_gR w5 zio_7 rfl ?_
        refine zr_gR w5 zio_7 rfl ?_
        refine zr_cv w5 zio_1 (r_X1_rowsWithRain w5 42 zis_42 a1 a2) (fun v10 h9 M9 w9 => ?_)
        refine zr_bd (r_X1_rowsOf w9 a2) (fun v12 h11 M11 w11 => ?_)
        refine zr_bd (zr_lp (fun s13 h14 M14 w14 => ?_) (v10, v12, 0) h11 M11 w11) (fun e15 h16 M16 w16 => ?_)
        · refine zr_if ?_ ?_
          · exact zr_ok w14
          · refine zr_if ?_ ?_
            · exact zr_ok w14
            · exact zr_ok w14
        · refine zr_if ?_ ?_
          · exact zr_ok w16
          · exact zr_ok w16
def m_X7_named (a1 : Int32) (a2 : Int32) (M0 : zMem) : Option (Int32 × zMem) :=
  if a1 = 0 then
  mlt (ztof (M0.1 0 3)) (fun t1 =>
  mlt (ztof (M0.1 0 3)) (fun t3 =>
  mbd (m_X7_numberOf (t1 + 2) (M0.1 t3 13) a2 M0) (fun v6 M5 =>
  some (v6, M5))))
  else
  if a1 = 1 then
  mlt (ztof (M0.1 0 3)) (fun t7 =>
  mlt (ztof (M0.1 0 3)) (fun t9 =>
  mbd (m_X7_numberOf (t7 + 5) (M0.1 t9 14) a2 M0) (fun v12 M11 =>
  some (v12, M11))))
  else
  if a1 = 2 then
  mlt (ztof (M0.1 0 3)) (fun t13 =>
  mlt (ztof (M0.1 0 3)) (fun t15 =>
  mbd (m_X7_numberOf (t13 + 9) (M0.1 t15 15) a2 M0) (fun v18 M17 =>
  some (v18, M17))))
  else
  some ((-1), M0)
set_option maxRecDepth 100000 in
set_option maxHeartbeats 4000000 in
theorem r_X7_named {B n : Nat} {h0 : zHp} {M0 : zMem} (w0 : zW B n h0 M0) (a1 : Int32) (a2 : Int32) : zRR B n (f_X7_named (B + 0) a1 a2 h0) (m_X7_named a1 a2 M0) := by
  unfold f_X7_named m_X7_named
  refine zr_if ?_ ?_
  · refine zr_gT w0 zio_7 rfl (fun t1 q1 => ?_)
    refine zr_gR w0 (zit_o q1) rfl ?_
    refine zr_gT w0 zio_7 rfl (fun t3 q3 => ?_)
    refine zr_gI w0 (zit_o q3) rfl ?_
    refine zr_bd (r_X7_numberOf w0 (t1 + 2) (zta_1 q1) (M0.1 t3 13) a2) (fun v6 h5 M5 w5 => ?_)
    exact zr_ok w5
  · refine zr_if ?_ ?_
    · refine zr_gT w0 zio_7 rfl (fun t7 q7 => ?_)
      refine zr_gR w0 (zit_o q7) rfl ?_
      refine zr_gT w0 zio_7 rfl (fun t9 q9 => ?_)
      refine zr_gI w0 (zit_o q9) rfl ?_
      refine zr_bd (r_X7_numberOf w0 (t7 + 5) (zta_4 q7) (M0.1 t9 14) a2) (fun v12 h11 M11 w11 => ?_)
      exact zr_ok w11
    · refine zr_if ?_ ?_
      · refine zr_gT w0 zio_7 rfl (fun t13 q13 => ?_)
        refine zr_gR w0 (zit_o q13) rfl ?_
        refine zr_gT w0 zio_7 rfl (fun t15 q15 => ?_)
        refine zr_gI w0 (zit_o q15) rfl ?_
        refine zr_bd (r_X7_numberOf w0 (t13 + 9) (zta_8 q13) (M0.1 t15 15) a2) (fun v18 h17 M17 w17 => ?_)
        exact zr_ok w17
      · exact zr_ok w0
def m_X7_note (a1 : Int32) (a2 : Int32) (a3 : Int32) (a4 : Int32) (M0 : zMem) : Option (Int32 × zMem) :=
  mbd (m_X7_isFrom 1 a1 40 M0) (fun v2 M1 =>
  if v2 = 0 then
  some ((-1), M1)
  else
  mbd (m_X7_isCell a2 a3 M1) (fun v4 M3 =>
  if v4 = 0 then
  some ((-1), M3)
  else
  mbd (m_X3_add a1 a2 a3 a4 M3) (fun v7 M6 =>
  some (v7, M6))))
set_option maxRecDepth 100000 in
set_option maxHeartbeats 4000000 in
theorem r_X7_note {B n : Nat} {h0 : zHp} {M0 : zMem} (w0 : zW B n h0 M0) (a1 : Int32) (a2 : Int32) (a3 : Int32) (a4 : Int32) : zRR B n (f_X7_note (B + 0) a1 a2 a3 a4 h0) (m_X7_note a1 a2 a3 a4 M0) := by
  unfold f_X7_note m_X7_note
  refine zr_bd (r_X7_isFrom w0 1 a1 40) (fun v2 h1 M1 w1 => ?_)
  refine zr_if ?_ ?_
  · exact zr_ok w1
  · refine zr_bd (r_X7_isCell w1 a2 a3) (fun v4 h3 M3 w3 => ?_)
    refine zr_if ?_ ?_
    · exact zr_ok w3
    · refine zr_gR w3 zio_7 rfl ?_
      refine zr_cv w3 zio_3 (r_X3_add w3 a1 a2 a3 a4) (fun v7 h6 M6 w6 => ?_)
      exact zr_ok w6
def m_X7_out (a1 : Int32) (M0 : zMem) : Option (Int32 × zMem) :=
  mbd (m_X7_isFrom 0 a1 ((M0.1 85 6) - 1) M0) (fun v4 M3 =>
  if v4 = 0 then
  some ((-1), M3)
  else
  mbd (m_X3_addStrike a1 M3) (fun v7 M6 =>
  some (v7, M6)))
set_option maxRecDepth 100000 in
set_option maxHeartbeats 4000000 in
theorem r_X7_out {B n : Nat} {h0 : zHp} {M0 : zMem} (w0 : zW B n h0 M0) (a1 : Int32) : zRR B n (f_X7_out (B + 0) a1 h0) (m_X7_out a1 M0) := by
  unfold f_X7_out m_X7_out
  refine zr_gR w0 zio_7 rfl ?_
  refine zr_gI w0 zio_3 rfl ?_
  refine zr_bd (r_X7_isFrom w0 0 a1 ((M0.1 85 6) - 1)) (fun v4 h3 M3 w3 => ?_)
  refine zr_if ?_ ?_
  · exact zr_ok w3
  · refine zr_gR w3 zio_7 rfl ?_
    refine zr_cv w3 zio_3 (r_X3_addStrike w3 a1) (fun v7 h6 M6 w6 => ?_)
    exact zr_ok w6
def m_X7_plan (a1 : Int32) (a2 : Int32) (a3 : Int32) (M0 : zMem) : Option (Int32 × zMem) :=
  mbd (m_X7_isChild a1 M0) (fun v2 M1 =>
  if v2 = 0 then
  some ((-1), M1)
  else
  mbd (m_X7_isField a2 M1) (fun v4 M3 =>
  if v4 = 0 then
  some ((-1), M3)
  else
  mbd (m_X7_isFrom 1 a3 4 M3) (fun v6 M5 =>
  if v6 = 0 then
  some ((-1), M5)
  else
  mbd (m_X1_planOf 42 a1 a2 a3 M5) (fun v10 M9 =>
  some (v10, M9)))))
set_option maxRecDepth 100000 in
set_option maxHeartbeats 4000000 in
theorem r_X7_plan {B n : Nat} {h0 : zHp} {M0 : zMem} (w0 : zW B n h0 M0) (a1 : Int32) (a2 : Int32) (a3 : Int32) : zRR B n (f_X7_plan (B + 0) a1 a2 a3 h0) (m_X7_plan a1 a2 a3 M0) := by
  unfold f_X7_plan m_X7_plan
  refine zr_cv w0 zio_7 (r_X7_isChild w0 a1) (fun v2 h1 M1 w1 => ?_)
  refine zr_if ?_ ?_
  · exact zr_ok w1
  · refine zr_cv w1 zio_7 (r_X7_isField w1 a2) (fun v4 h3 M3 w3 => ?_)
    refine zr_if ?_ ?_
    · exact zr_ok w3
    · refine zr_bd (r_X7_isFrom w3 1 a3 4) (fun v6 h5 M5 w5 => ?_)
      refine zr_if ?_ ?_
      · exact zr_ok w5
      · refine zr_gR w5 zio_7 rfl ?_
        refine zr_gR w5 zio_7 rfl ?_
        refine zr_cv w5 zio_1 (r_X1_planOf w5 42 zis_42 a1 a2 a3) (fun v10 h9 M9 w9 => ?_)
        exact zr_ok w9
def m_X7_push (a1 : Int32) (a2 : Int32) (M0 : zMem) : Option (Int32 × zMem) :=
  mbd (m_X7_isChild a1 M0) (fun v2 M1 =>
  if v2 = 0 then
  some ((-1), M1)
  else
  mbd (m_X7_isFrom 1 a2 4 M1) (fun v4 M3 =>
  if v4 = 0 then
  some ((-1), M3)
  else
  mbd (m_X5_firstToPush 42 a1 M3) (fun v7 M6 =>
  if v7 = (-1) then
  some ((-2), M6)
  else
  zob (mrd M6 (42 + 1) v7) (fun v11 =>
  zob (mrd M6 (42 + 2) v7) (fun v14 =>
  mbd (m_X0_remember 0 v7 v11 v14 M6) (fun v16 M15 =>
  mbd (m_X5_moveCloud 42 v7 a2 M15) (fun v19 M18 =>
  some (v7, M18))))))))
set_option maxRecDepth 100000 in
set_option maxHeartbeats 4000000 in
theorem r_X7_push {B n : Nat} {h0 : zHp} {M0 : zMem} (w0 : zW B n h0 M0) (a1 : Int32) (a2 : Int32) : zRR B n (f_X7_push (B + 0) a1 a2 h0) (m_X7_push a1 a2 M0) := by
  unfold f_X7_push m_X7_push
  refine zr_cv w0 zio_7 (r_X7_isChild w0 a1) (fun v2 h1 M1 w1 => ?_)
  refine zr_if ?_ ?_
  · exact zr_ok w1
  · refine zr_bd (r_X7_isFrom w1 1 a2 4) (fun v4 h3 M3 w3 => ?_)
    refine zr_if ?_ ?_
    · exact zr_ok w3
    · refine zr_gR w3 zio_7 rfl ?_
      refine zr_cv w3 zis_42.1 (r_X5_firstToPush w3 42 zis_42 a1) (fun v7 h6 M6 w6 => ?_)
      refine zr_if ?_ ?_
      · exact zr_ok w6
      · refine zr_gR w6 zio_7 rfl ?_
        refine zr_gR w6 zio_7 rfl ?_
        refine zr_gR w6 zis_42.1 rfl ?_
        refine zr_a0 w6 (zis_42.2.1 0 (by decide)) (fun v11 => ?_)
        refine zr_gR w6 zio_7 rfl ?_
        refine zr_gR w6 zis_42.1 rfl ?_
        refine zr_a0 w6 (zis_42.2.1 1 (by decide)) (fun v14 => ?_)
        refine zr_cv w6 zio_0 (r_X0_remember w6 0 v7 v11 v14) (fun v16 h15 M15 w15 => ?_)
        refine zr_gR w15 zio_7 rfl ?_
        refine zr_cv w15 zis_42.1 (r_X5_moveCloud w15 42 zis_42 v7 a2) (fun v19 h18 M18 w18 => ?_)
        exact zr_ok w18
def m_X7_rest (a1 : Int32) (a2 : Int32) (a3 : Int32) (M0 : zMem) : Option (Int32 × zMem) :=
  mbd (m_X7_isChild a1 M0) (fun v2 M1 =>
  if v2 = 0 then
  some ((-1), M1)
  else
  mbd (m_X7_isChild a2 M1) (fun v4 M3 =>
  if v4 = 0 then
  some ((-1), M3)
  else
  if a1 = a2 then
  some ((-1), M3)
  else
  if 0 ≤ a3 then
  mbd (m_X1_tryBoth 42 a1 a2 M3) (fun v8 M7 =>
  mbd (
  mlp (σ := (Int32 × Int32)) (β := ((Int32 × Int32) ⊕ Int32)) zLF (fun s9 M10 =>
  if 25 ≤ s9.2 then
  some ((.inr (.inl (s9.1, s9.2))), M10)
  else
  mbd (m_X1_isRest s9.2 M10) (fun v15 M14 =>
  if v15 = 0 then
  some ((.inl (s9.1, (s9.2 + 1))), M14)
  else
  if s9.1 = 0 then
  some ((.inr (.inr ((10 * (s9.2 / 5)) + (zrm s9.2 5)))), M14)
  else
  some ((.inl ((s9.1 + (-1)), (s9.2 + 1))), M14))) (a3, 0) M7) (fun b16 M12 => zsl b16 (fun e11 =>
  some ((-2), M12)) (fun r => some (r, M12))))
  else
  some ((-1), M3)))
set_option maxRecDepth 100000 in
set_option maxHeartbeats 4000000 in
theorem r_X7_rest {B n : Nat} {h0 : zHp} {M0 : zMem} (w0 : zW B n h0 M0) (a1 : Int32) (a2 : Int32) (a3 : Int32) : zRR B n (f_X7_rest (B + 0) a1 a2 a3 h0) (m_X7_rest a1 a2 a3 M0) := by
  unfold f_X7_rest m_X7_rest
  refine zr_cv w0 zio_7 (r_X7_isChild w0 a1) (fun v2 h1 M1 w1 => ?_)
  refine zr_if ?_ ?_
  · exact zr_ok w1
  · refine zr_cv w1 zio_7 (r_X7_isChild w1 a2) (fun v4 h3 M3 w3 => ?_)
    refine zr_if ?_ ?_
    · exact zr_ok w3
    · refine zr_if ?_ ?_
      · exact zr_ok w3
      · refine zr_if ?_ ?_
        · refine zr_gR w3 zio_7 rfl ?_
          refine zr_gR w3 zio_7 rfl ?_
          refine zr_cv w3 zio_1 (r_X1_tryBoth w3 42 zis_42 a1 a2) (fun v8 h7 M7 w7 => ?_)
          refine zr_bd (zr_lp (fun s9 h10 M10 w10 => ?_) (a3, 0) h7 M7 w7) (fun b16 h12 M12 w12 => zr_sl (fun e11 => ?_) (fun r => zr_ok w12))
          · refine zr_if ?_ ?_
            · exact zr_ok w10
            · refine zr_gR w10 zio_7 rfl ?_
              refine zr_cv w10 zio_1 (r_X1_isRest w10 s9.2) (fun v15 h14 M14 w14 => ?_)
              refine zr_if ?_ ?_
              · exact zr_ok w14
              · refine zr_if ?_ ?_
                · exact zr_ok w14
                · exact zr_ok w14
          · exact zr_ok w12
        · exact zr_ok w3
def m_X7_rests (a1 : Int32) (a2 : Int32) (M0 : zMem) : Option (Int32 × zMem) :=
  mbd (m_X7_isChild a1 M0) (fun v2 M1 =>
  if v2 = 0 then
  some ((-1), M1)
  else
  mbd (m_X7_isChild a2 M1) (fun v4 M3 =>
  if v4 = 0 then
  some ((-1), M3)
  else
  if a1 = a2 then
  some ((-1), M3)
  else
  mbd (m_X1_tryBoth 42 a1 a2 M3) (fun v8 M7 =>
  mbd (
  mlp (σ := (Int32 × Int32)) (β := (Int32 × Int32)) zLF (fun s9 M10 =>
  if 25 ≤ s9.2 then
  some ((.inr (s9.1, s9.2)), M10)
  else
  mbd (m_X1_isRest s9.2 M10) (fun v15 M14 =>
  if v15 = 0 then
  some ((.inl (s9.1, (s9.2 + 1))), M14)
  else
  some ((.inl ((s9.1 + 1), (s9.2 + 1))), M14))) (0, 0) M7) (fun e11 M12 =>
  some (e11.1, M12)))))
set_option maxRecDepth 100000 in
set_option maxHeartbeats 4000000 in
theorem r_X7_rests {B n : Nat} {h0 : zHp} {M0 : zMem} (w0 : zW B n h0 M0) (a1 : Int32) (a2 : Int32) : zRR B n (f_X7_rests (B + 0) a1 a2 h0) (m_X7_rests a1 a2 M0) := by
  unfold f_X7_rests m_X7_rests
  refine zr_cv w0 zio_7 (r_X7_isChild w0 a1) (fun v2 h1 M1 w1 => ?_)
  refine zr_if ?_ ?_
  · exact zr_ok w1
  · refine zr_cv w1 zio_7 (r_X7_isChild w1 a2) (fun v4 h3 M3 w3 => ?_)
    refine zr_if ?_ ?_
    · exact zr_ok w3
    · refine zr_if ?_ ?_
      · exact zr_ok w3
      · refine zr_gR w3 zio_7 rfl ?_
        refine zr_gR w3 zio_7 rfl ?_
        refine zr_cv w3 zio_1 (r_X1_tryBoth w3 42 zis_42 a1 a2) (fun v8 h7 M7 w7 => ?_)
        refine zr_bd (zr_lp (fun s9 h10 M10 w10 => ?_) (0, 0) h7 M7 w7) (fun e11 h12 M12 w12 => ?_)
        · refine zr_if ?_ ?_
          · exact zr_ok w10
          · refine zr_gR w10 zio_7 rfl ?_
            refine zr_cv w10 zio_1 (r_X1_isRest w10 s9.2) (fun v15 h14 M14 w14 => ?_)
            refine zr_if ?_ ?_
            · exact zr_ok w14
            · exact zr_ok w14
        · exact zr_ok w12
def m_X7_sees (a1 : Int32) (M0 : zMem) : Option (Int32 × zMem) :=
  mbd (m_X7_isChild a1 M0) (fun v2 M1 =>
  if v2 = 0 then
  some ((-1), M1)
  else
  mbd (m_X5_seenBy 42 a1 M1) (fun v5 M4 =>
  some (v5, M4)))
set_option maxRecDepth 100000 in
set_option maxHeartbeats 4000000 in
theorem r_X7_sees {B n : Nat} {h0 : zHp} {M0 : zMem} (w0 : zW B n h0 M0) (a1 : Int32) : zRR B n (f_X7_sees (B + 0) a1 h0) (m_X7_sees a1 M0) := by
  unfold f_X7_sees m_X7_sees
  refine zr_cv w0 zio_7 (r_X7_isChild w0 a1) (fun v2 h1 M1 w1 => ?_)
  refine zr_if ?_ ?_
  · exact zr_ok w1
  · refine zr_gR w1 zio_7 rfl ?_
    refine zr_cv w1 zis_42.1 (r_X5_seenBy w1 42 zis_42 a1) (fun v5 h4 M4 w4 => ?_)
    exact zr_ok w4
def m_X7_sizes (a1 : Int32) (M0 : zMem) : Option (Int32 × zMem) :=
  mbd (m_X7_isCloud a1 M0) (fun v2 M1 =>
  if v2 = 0 then
  some ((-1), M1)
  else
  mbd (m_X3_strikeOut  M1) (fun v5 M4 =>
  mbd (
  mlp (σ := (Int32 × Int32)) (β := (Int32 × Int32)) zLF (fun s6 M7 =>
  if 9 < s6.2 then
  some ((.inr (s6.1, s6.2)), M7)
  else
  mlt (ztof (M7.1 0 3)) (fun t11 =>
  mbd (m_X1_agrees t11 a1 s6.2 M7) (fun v14 M13 =>
  if v14 = 0 then
  some ((.inl (s6.1, (s6.2 + 1))), M13)
  else
  some ((.inl ((s6.1 ||| (1 <<< (s6.2 &&& 31))), (s6.2 + 1))), M13)))) (0, 1) M4) (fun e8 M9 =>
  some (e8.1, M9))))
set_option maxRecDepth 100000 in
set_option maxHeartbeats 4000000 in
theorem r_X7_sizes {B n : Nat} {h0 : zHp} {M0 : zMem} (w0 : zW B n h0 M0) (a1 : Int32) : zRR B n (f_X7_sizes (B + 0) a1 h0) (m_X7_sizes a1 M0) := by
  unfold f_X7_sizes m_X7_sizes
  refine zr_cv w0 zio_7 (r_X7_isCloud w0 a1) (fun v2 h1 M1 w1 => ?_)
  refine zr_if ?_ ?_
  · exact zr_ok w1
  · refine zr_gR w1 zio_7 rfl ?_
    refine zr_cv w1 zio_3 (r_X3_strikeOut w1 ) (fun v5 h4 M4 w4 => ?_)
    refine zr_bd (zr_lp (fun s6 h7 M7 w7 => ?_) (0, 1) h4 M4 w4) (fun e8 h9 M9 w9 => ?_)
    · refine zr_if ?_ ?_
      · exact zr_ok w7
      · refine zr_gR w7 zio_7 rfl ?_
        refine zr_gT w7 zio_7 rfl (fun t11 q11 => ?_)
        refine zr_gR w7 zio_7 rfl ?_
        refine zr_cv w7 zio_1 (r_X1_agrees w7 t11 q11 a1 s6.2) (fun v14 h13 M13 w13 => ?_)
        refine zr_if ?_ ?_
        · exact zr_ok w13
        · exact zr_ok w13
    · exact zr_ok w9
def m_X7_stand (a1 : Int32) (a2 : Int32) (a3 : Int32) (M0 : zMem) : Option (Int32 × zMem) :=
  mbd (m_X7_isChild a1 M0) (fun v2 M1 =>
  if v2 = 0 then
  some (0, M1)
  else
  mbd (m_X7_isCell a2 a3 M1) (fun v4 M3 =>
  if v4 = 0 then
  some (0, M3)
  else
  zob (mrd M3 (42 + 7) a1) (fun v7 =>
  mbd (α := (Unit ⊕ Int32)) (
  if v7 = a2 then
  zob (mrd M3 (42 + 8) a1) (fun v10 =>
  if v10 = a3 then
  some ((.inr 0), M3)
  else
  some ((.inl ()), M3))
  else
  some ((.inl ()), M3)) (fun b28 M12 => zsl b28 (fun e11 =>
  zob (mrd M12 (42 + 7) a1) (fun v16 =>
  zob (mrd M12 (42 + 8) a1) (fun v19 =>
  mbd (m_X0_remember 2 a1 v16 v19 M12) (fun v21 M20 =>
  zob (mwr M20 (42 + 7) a1 a2) (fun M24 =>
  zob (mwr M24 (42 + 8) a1 a3) (fun M27 =>
  some (1, M27))))))) (fun r => some (r, M12))))))
set_option maxRecDepth 100000 in
set_option maxHeartbeats 4000000 in
theorem r_X7_stand {B n : Nat} {h0 : zHp} {M0 : zMem} (w0 : zW B n h0 M0) (a1 : Int32) (a2 : Int32) (a3 : Int32) : zRR B n (f_X7_stand (B + 0) a1 a2 a3 h0) (m_X7_stand a1 a2 a3 M0) := by
  unfold f_X7_stand m_X7_stand
  refine zr_cv w0 zio_7 (r_X7_isChild w0 a1) (fun v2 h1 M1 w1 => ?_)
  refine zr_if ?_ ?_
  · exact zr_ok w1
  · refine zr_bd (r_X7_isCell w1 a2 a3) (fun v4 h3 M3 w3 => ?_)
    refine zr_if ?_ ?_
    · exact zr_ok w3
    · refine zr_gR w3 zio_7 rfl ?_
      refine zr_gR w3 zis_42.1 rfl ?_
      refine zr_a0 w3 (zis_42.2.2.1 0 (by decide)) (fun v7 => ?_)
      refine zr_bd ?_ (fun b28 h12 M12 w12 => zr_sl (fun e11 => ?_) (fun r => zr_ok w12))
      · refine zr_if ?_ ?_
        · refine zr_gR w3 zio_7 rfl ?_
          refine zr_gR w3 zis_42.1 rfl ?_
          refine zr_a0 w3 (zis_42.2.2.1 1 (by decide)) (fun v10 => ?_)
          refine zr_if ?_ ?_
          · exact zr_ok w3
          · exact zr_ok w3
        · exact zr_ok w3
      · refine zr_gR w12 zio_7 rfl ?_
        refine zr_gR w12 zio_7 rfl ?_
        refine zr_gR w12 zis_42.1 rfl ?_
        refine zr_a0 w12 (zis_42.2.2.1 0 (by decide)) (fun v16 => ?_)
        refine zr_gR w12 zio_7 rfl ?_
        refine zr_gR w12 zis_42.1 rfl ?_
        refine zr_a0 w12 (zis_42.2.2.1 1 (by decide)) (fun v19 => ?_)
        refine zr_cv w12 zio_0 (r_X0_remember w12 2 a1 v16 v19) (fun v21 h20 M20 w20 => ?_)
        refine zr_gR w20 zio_7 rfl ?_
        refine zr_gR w20 zis_42.1 rfl ?_
        refine zr_s0 w20 (zis_42.2.2.1 0 (by decide)) (fun h24 M24 w24 => ?_)
        refine zr_gR w24 zio_7 rfl ?_
        refine zr_gR w24 zis_42.1 rfl ?_
        refine zr_s0 w24 (zis_42.2.2.1 1 (by decide)) (fun h27 M27 w27 => ?_)
        exact zr_ok w27
def m_X7_station (a1 : Int32) (a2 : Int32) (a3 : Int32) (M0 : zMem) : Option (Int32 × zMem) :=
  mbd (m_X7_isChild a1 M0) (fun v2 M1 =>
  if v2 = 0 then
  some ((-1), M1)
  else
  mbd (m_X7_isFrom 1 a2 60 M1) (fun v4 M3 =>
  if v4 = 0 then
  some ((-1), M3)
  else
  mbd (m_X7_isFrom 0 a3 1 M3) (fun v6 M5 =>
  if v6 = 0 then
  some ((-1), M5)
  else
  mbd (m_X1_stationOf 42 a1 a2 M5) (fun v10 M9 =>
  if a3 = 0 then
  some (v10, M9)
  else
  mbd (m_X1_seenFrom v10 M9) (fun v13 M12 =>
  some (v13, M12))))))
set_option maxRecDepth 100000 in
set_option maxHeartbeats 4000000 in
theorem r_X7_station {B n : Nat} {h0 : zHp} {M0 : zMem} (w0 : zW B n h0 M0) (a1 : Int32) (a2 : Int32) (a3 : Int32) : zRR B n (f_X7_station (B + 0) a1 a2 a3 h0) (m_X7_station a1 a2 a3 M0) := by
  unfold f_X7_station m_X7_station
  refine zr_cv w0 zio_7 (r_X7_isChild w0 a1) (fun v2 h1 M1 w1 => ?_)
  refine zr_if ?_ ?_
  · exact zr_ok w1
  · refine zr_bd (r_X7_isFrom w1 1 a2 60) (fun v4 h3 M3 w3 => ?_)
    refine zr_if ?_ ?_
    · exact zr_ok w3
    · refine zr_bd (r_X7_isFrom w3 0 a3 1) (fun v6 h5 M5 w5 => ?_)
      refine zr_if ?_ ?_
      · exact zr_ok w5
      · refine zr_gR w5 zio_7 rfl ?_
        refine zr_gR w5 zio_7 rfl ?_
        refine zr_cv w5 zio_1 (r_X1_stationOf w5 42 zis_42 a1 a2) (fun v10 h9 M9 w9 => ?_)
        refine zr_if ?_ ?_
        · exact zr_ok w9
        · refine zr_gR w9 zio_7 rfl ?_
          refine zr_cv w9 zio_1 (r_X1_seenFrom w9 v10) (fun v13 h12 M12 w12 => ?_)
          exact zr_ok w12
def m_X7_step (a1 : Int32) (a2 : Int32) (a3 : Int32) (a4 : Int32) (M0 : zMem) : Option (Int32 × zMem) :=
  mbd (m_X7_isChild a1 M0) (fun v2 M1 =>
  if v2 = 0 then
  some ((-1), M1)
  else
  mbd (m_X7_isField a2 M1) (fun v4 M3 =>
  if v4 = 0 then
  some ((-1), M3)
  else
  mbd (m_X7_isFrom 1 a3 4 M3) (fun v6 M5 =>
  if v6 = 0 then
  some ((-1), M5)
  else
  if 0 ≤ a4 then
  if a4 < a3 then
  mbd (m_X1_planOf 42 a1 a2 a3 M5) (fun v10 M9 =>
  mbd (m_X1_plannedPush a4 M9) (fun v13 M12 =>
  some (v13, M12)))
  else
  some ((-2), M5)
  else
  some ((-1), M5))))
set_option maxRecDepth 100000 in
set_option maxHeartbeats 4000000 in
theorem r_X7_step {B n : Nat} {h0 : zHp} {M0 : zMem} (w0 : zW B n h0 M0) (a1 : Int32) (a2 : Int32) (a3 : Int32) (a4 : Int32) : zRR B n (f_X7_step (B + 0) a1 a2 a3 a4 h0) (m_X7_step a1 a2 a3 a4 M0) := by
  unfold f_X7_step m_X7_step
  refine zr_cv w0 zio_7 (r_X7_isChild w0 a1) (fun v2 h1 M1 w1 => ?_)
  refine zr_if ?_ ?_
  · exact zr_ok w1
  · refine zr_cv w1 zio_7 (r_X7_isField w1 a2) (fun v4 h3 M3 w3 => ?_)
    refine zr_if ?_ ?_
    · exact zr_ok w3
    · refine zr_bd (r_X7_isFrom w3 1 a3 4) (fun v6 h5 M5 w5 => ?_)
      refine zr_if ?_ ?_
      · exact zr_ok w5
      · refine zr_if ?_ ?_
        · refine zr_if ?_ ?_
          · refine zr_gR w5 zio_7 rfl ?_
            refine zr_gR w5 zio_7 rfl ?_
            refine zr_cv w5 zio_1 (r_X1_planOf w5 42 zis_42 a1 a2 a3) (fun v10 h9 M9 w9 => ?_)
            refine zr_gR w9 zio_7 rfl ?_
            refine zr_cv w9 zio_1 (r_X1_plannedPush w9 a4) (fun v13 h12 M12 w12 => ?_)
            exact zr_ok w12
          · exact zr_ok w5
        · exact zr_ok w5
def m_X7_swap (a1 : Int32) (M0 : zMem) : Option (Int32 × zMem) :=
  if 0 ≤ a1 then
  mbd (
  mlp (σ := (Int32 × Int32)) (β := ((Int32 × Int32) ⊕ Int32)) zLF (fun s1 M2 =>
  mlt (ztof (M2.1 0 3)) (fun t5 =>
  if (M2.1 t5 14) ≤ s1.2 then
  some ((.inr (.inl (s1.1, s1.2))), M2)
  else
  mbd (
  mlp (σ := (Int32 × Int32)) (β := ((Int32 × Int32) ⊕ ((Int32 × Int32) ⊕ ((Int32 × Int32) ⊕ Int32)))) zLF (fun s7 M8 =>
  mlt (ztof (M8.1 0 3)) (fun t11 =>
  if (M8.1 t11 14) ≤ s7.2 then
  some ((.inr (.inl (s7.1, s7.2))), M8)
  else
  mbd (m_X5_wouldSwap 42 s1.2 s7.2 M8) (fun v15 M14 =>
  if v15 = 0 then
  some ((.inl (s7.1, (s7.2 + 1))), M14)
  else
  if s7.1 = 0 then
  some ((.inr (.inr (.inr (.inr ((10 * s1.2) + s7.2))))), M14)
  else
  some ((.inl ((s7.1 + (-1)), (s7.2 + 1))), M14)))) (s1.1, (s1.2 + 1)) M2) (fun b16 M10 => zsl b16 (fun e9 =>
  some ((.inl (e9.1, (s1.2 + 1))), M10)) (fun r => some (r, M10))))) (a1, 0) M0) (fun b17 M4 => zsl b17 (fun e3 =>
  some ((-2), M4)) (fun r => some (r, M4)))
  else
  some ((-1), M0)
set_option maxRecDepth 100000 in
set_option maxHeartbeats 4000000 in
theorem r_X7_swap {B n : Nat} {h0 : zHp} {M0 : zMem} (w0 : zW B n h0 M0) (a1 : Int32) : zRR B n (f_X7_swap (B + 0) a1 h0) (m_X7_swap a1 M0) := by
  unfold f_X7_swap m_X7_swap
  refine zr_if ?_ ?_
  · refine zr_bd (zr_lp (fun s1 h2 M2 w2 => ?_) (a1, 0) h0 M0 w0) (fun b17 h4 M4 w4 => zr_sl (fun e3 => ?_) (fun r => zr_ok w4))
    · refine zr_gT w2 zio_7 rfl (fun t5 q5 => ?_)
      refine zr_gI w2 (zit_o q5) rfl ?_
      refine zr_if ?_ ?_
      · exact zr_ok w2
      · refine zr_bd (zr_lp (fun s7 h8 M8 w8 => ?_) (s1.1, (s1.2 + 1)) h2 M2 w2) (fun b16 h10 M10 w10 => zr_sl (fun e9 => ?_) (fun r => zr_ok w10))
        · refine zr_gT w8 zio_7 rfl (fun t11 q11 => ?_)
          refine zr_gI w8 (zit_o q11) rfl ?_
          refine zr_if ?_ ?_
          · exact zr_ok w8
          · refine zr_gR w8 zio_7 rfl ?_
            refine zr_cv w8 zis_42.1 (r_X5_wouldSwap w8 42 zis_42 s1.2 s7.2) (fun v15 h14 M14 w14 => ?_)
            refine zr_if ?_ ?_
            · exact zr_ok w14
            · refine zr_if ?_ ?_
              · exact zr_ok w14
              · exact zr_ok w14
        · exact zr_ok w10
    · exact zr_ok w4
  · exact zr_ok w0
def m_X7_swaps  (M0 : zMem) : Option (Int32 × zMem) :=
  mbd (
  mlp (σ := (Int32 × Int32)) (β := (Int32 × Int32)) zLF (fun s1 M2 =>
  mlt (ztof (M2.1 0 3)) (fun t5 =>
  if (M2.1 t5 14) ≤ s1.2 then
  some ((.inr (s1.1, s1.2)), M2)
  else
  mbd (
  mlp (σ := (Int32 × Int32)) (β := (Int32 × Int32)) zLF (fun s7 M8 =>
  mlt (ztof (M8.1 0 3)) (fun t11 =>
  if (M8.1 t11 14) ≤ s7.2 then
  some ((.inr (s7.1, s7.2)), M8)
  else
  mbd (m_X5_wouldSwap 42 s1.2 s7.2 M8) (fun v15 M14 =>
  if v15 = 0 then
  some ((.inl (s7.1, (s7.2 + 1))), M14)
  else
  some ((.inl ((s7.1 + 1), (s7.2 + 1))), M14)))) (s1.1, (s1.2 + 1)) M2) (fun e9 M10 =>
  some ((.inl (e9.1, (s1.2 + 1))), M10)))) (0, 0) M0) (fun e3 M4 =>
  some (e3.1, M4))
set_option maxRecDepth 100000 in
set_option maxHeartbeats 4000000 in
theorem r_X7_swaps {B n : Nat} {h0 : zHp} {M0 : zMem} (w0 : zW B n h0 M0)  : zRR B n (f_X7_swaps (B + 0) h0) (m_X7_swaps  M0) := by
  unfold f_X7_swaps m_X7_swaps
  refine zr_bd (zr_lp (fun s1 h2 M2 w2 => ?_) (0, 0) h0 M0 w0) (fun e3 h4 M4 w4 => ?_)
  · refine zr_gT w2 zio_7 rfl (fun t5 q5 => ?_)
    refine zr_gI w2 (zit_o q5) rfl ?_
    refine zr_if ?_ ?_
    · exact zr_ok w2
    · refine zr_bd (zr_lp (fun s7 h8 M8 w8 => ?_) (s1.1, (s1.2 + 1)) h2 M2 w2) (fun e9 h10 M10 w10 => ?_)
      · refine zr_gT w8 zio_7 rfl (fun t11 q11 => ?_)
        refine zr_gI w8 (zit_o q11) rfl ?_
        refine zr_if ?_ ?_
        · exact zr_ok w8
        · refine zr_gR w8 zio_7 rfl ?_
          refine zr_cv w8 zis_42.1 (r_X5_wouldSwap w8 42 zis_42 s1.2 s7.2) (fun v15 h14 M14 w14 => ?_)
          refine zr_if ?_ ?_
          · exact zr_ok w14
          · exact zr_ok w14
      · exact zr_ok w10
  · exact zr_ok w4
def m_X7_text (a1 : Int32) (M0 : zMem) : Option (Int32 × zMem) :=
  if a1 < 0 then
  some ((-2), M0)
  else
  if a1 ≤ (M0.1 0 1) then
  mlt (mup M0 0 1 0) (fun M2 =>
  mbd (m_X4_readText a1 M2) (fun v6 M5 =>
  if v6 = (-1) then
  some ((-1), M5)
  else
  mlt (ztof (M5.1 0 3)) (fun t8 =>
  mbd (m_X4_takeTold t8 M5) (fun t10 M9 =>
  mlt (mup M9 0 3 (ztenc t10)) (fun M11 =>
  mlt (ztof (M11.1 0 3)) (fun t13 =>
  mbd (m_X5_startOf 42 t13 M11) (fun v15 M14 =>
  mbd (m_X3_forget  M14) (fun v18 M17 =>
  mbd (m_X0_forget  M17) (fun v21 M20 =>
  mlt (mup M20 0 6 0) (fun M22 =>
  some (v6, M22)))))))))))
  else
  some ((-2), M0)
set_option maxRecDepth 100000 in
set_option maxHeartbeats 4000000 in
theorem r_X7_text {B n : Nat} {h0 : zHp} {M0 : zMem} (w0 : zW B n h0 M0) (a1 : Int32) : zRR B n (f_X7_text (B + 0) a1 h0) (m_X7_text a1 M0) := by
  unfold f_X7_text m_X7_text
  refine zr_if ?_ ?_
  · exact zr_ok w0
  · refine zr_gI w0 zio_7 rfl ?_
    refine zr_if ?_ ?_
    · refine zr_pV w0 zio_7 (Nat.le_of_ble_eq_true rfl) rfl (fun h2 M2 w2 => ?_)
      refine zr_gR w2 zio_7 rfl ?_
      refine zr_gR w2 zio_7 rfl ?_
      refine zr_cv w2 zio_4 (r_X4_readText w2 a1) (fun v6 h5 M5 w5 => ?_)
      refine zr_if ?_ ?_
      · exact zr_ok w5
      · refine zr_gR w5 zio_7 rfl ?_
        refine zr_gT w5 zio_7 rfl (fun t8 q8 => ?_)
        refine zr_cvA w5 zio_4 (r_X4_takeTold w5 t8 q8) (fun t10 h9 M9 q10 w9 => ?_)
        refine zr_pV w9 zio_7 (Nat.le_of_ble_eq_true rfl) (zpt_X7 q10) (fun h11 M11 w11 => ?_)
        refine zr_gR w11 zio_7 rfl ?_
        refine zr_gT w11 zio_7 rfl (fun t13 q13 => ?_)
        refine zr_cv w11 zis_42.1 (r_X5_startOf w11 42 zis_42 t13 q13) (fun v15 h14 M14 w14 => ?_)
        refine zr_gR w14 zio_7 rfl ?_
        refine zr_cv w14 zio_3 (r_X3_forget w14 ) (fun v18 h17 M17 w17 => ?_)
        refine zr_gR w17 zio_7 rfl ?_
        refine zr_cv w17 zio_0 (r_X0_forget w17 ) (fun v21 h20 M20 w20 => ?_)
        refine zr_pV w20 zio_7 (Nat.le_of_ble_eq_true rfl) rfl (fun h22 M22 w22 => ?_)
        exact zr_ok w22
    · exact zr_ok w0
def m_X7_tried (a1 : Int32) (a2 : Int32) (a3 : Int32) (M0 : zMem) : Option (Int32 × zMem) :=
  mbd (m_X7_isFrom 0 a1 5 M0) (fun v2 M1 =>
  if v2 = 0 then
  some ((-1), M1)
  else
  mbd (m_X7_isFrom 0 a3 60 M1) (fun v4 M3 =>
  if v4 = 0 then
  some ((-1), M3)
  else
  if a1 = 2 then
  mbd (m_X7_isCloud a2 M3) (fun v6 M5 =>
  if v6 = 0 then
  some ((-1), M5)
  else
  mbd (m_X1_skyAfter 42 a1 a2 a3 M5) (fun t10 M9 =>
  mbd (m_X5_rainInAll t10 M9) (fun v12 M11 =>
  mbd (m_X5_rainInAll 42 M11) (fun v15 M14 =>
  some ((v12 - v15), M14)))))
  else
  if a2 = 0 then
  mbd (m_X1_skyAfter 42 a1 a2 a3 M3) (fun t19 M18 =>
  mbd (m_X5_rainInAll t19 M18) (fun v21 M20 =>
  mbd (m_X5_rainInAll 42 M20) (fun v24 M23 =>
  some ((v21 - v24), M23))))
  else
  some ((-1), M3)))
set_option maxRecDepth 100000 in
set_option maxHeartbeats 4000000 in
theorem r_X7_tried {B n : Nat} {h0 : zHp} {M0 : zMem} (w0 : zW B n h0 M0) (a1 : Int32) (a2 : Int32) (a3 : Int32) : zRR B n (f_X7_tried (B + 0) a1 a2 a3 h0) (m_X7_tried a1 a2 a3 M0) := by
  unfold f_X7_tried m_X7_tried
  refine zr_bd (r_X7_isFrom w0 0 a1 5) (fun v2 h1 M1 w1 => ?_)
  refine zr_if ?_ ?_
  · exact zr_ok w1
  · refine zr_bd (r_X7_isFrom w1 0 a3 60) (fun v4 h3 M3 w3 => ?_)
    refine zr_if ?_ ?_
    · exact zr_ok w3
    · refine zr_if ?_ ?_
      · refine zr_cv w3 zio_7 (r_X7_isCloud w3 a2) (fun v6 h5 M5 w5 => ?_)
        refine zr_if ?_ ?_
        · exact zr_ok w5
        · refine zr_gR w5 zio_7 rfl ?_
          refine zr_gR w5 zio_7 rfl ?_
          refine zr_cvA w5 zio_1 (r_X1_skyAfter w5 42 zis_42 a1 a2 a3) (fun t10 h9 M9 q10 w9 => ?_)
          refine zr_cv w9 q10.1 (r_X5_rainInAll w9 t10 q10) (fun v12 h11 M11 w11 => ?_)
          refine zr_gR w11 zio_7 rfl ?_
          refine zr_cv w11 zis_42.1 (r_X5_rainInAll w11 42 zis_42) (fun v15 h14 M14 w14 => ?_)
          exact zr_ok w14
      · refine zr_if ?_ ?_
        · refine zr_gR w3 zio_7 rfl ?_
          refine zr_gR w3 zio_7 rfl ?_
          refine zr_cvA w3 zio_1 (r_X1_skyAfter w3 42 zis_42 a1 a2 a3) (fun t19 h18 M18 q19 w18 => ?_)
          refine zr_cv w18 q19.1 (r_X5_rainInAll w18 t19 q19) (fun v21 h20 M20 w20 => ?_)
          refine zr_gR w20 zio_7 rfl ?_
          refine zr_cv w20 zis_42.1 (r_X5_rainInAll w20 42 zis_42) (fun v24 h23 M23 w23 => ?_)
          exact zr_ok w23
        · exact zr_ok w3
def m_X7_undo  (M0 : zMem) : Option (Int32 × zMem) :=
  if (M0.1 80 4) = 0 then
  some ((-1), M0)
  else
  mbd (m_X0_undoLatest 42 M0) (fun v6 M5 =>
  some ((M5.1 80 4), M5))
set_option maxRecDepth 100000 in
set_option maxHeartbeats 4000000 in
theorem r_X7_undo {B n : Nat} {h0 : zHp} {M0 : zMem} (w0 : zW B n h0 M0)  : zRR B n (f_X7_undo (B + 0) h0) (m_X7_undo  M0) := by
  unfold f_X7_undo m_X7_undo
  refine zr_gR w0 zio_7 rfl ?_
  refine zr_gI w0 zio_0 rfl ?_
  refine zr_if ?_ ?_
  · exact zr_ok w0
  · refine zr_gR w0 zio_7 rfl ?_
    refine zr_gR w0 zio_7 rfl ?_
    refine zr_cv w0 zio_0 (r_X0_undoLatest w0 42 zis_42) (fun v6 h5 M5 w5 => ?_)
    refine zr_gR w5 zio_7 rfl ?_
    refine zr_gI w5 zio_0 rfl ?_
    exact zr_ok w5
def m_X7_whose (a1 : Int32) (M0 : zMem) : Option (Int32 × zMem) :=
  mbd (m_X7_isField a1 M0) (fun v2 M1 =>
  if v2 = 0 then
  some ((-1), M1)
  else
  mbd (
  mlp (σ := (Int32 × Int32 × Int32)) (β := (Int32 × Int32 × Int32)) zLF (fun s3 M4 =>
  mlt (ztof (M4.1 0 3)) (fun t7 =>
  if (M4.1 t7 15) ≤ s3.2.2 then
  some ((.inr (s3.1, s3.2.1, s3.2.2)), M4)
  else
  zob (mrw (42 + 11) s3.2.2) (fun t11 =>
  zob (mrd M4 t11 a1) (fun v12 =>
  if v12 ≤ s3.2.1 then
  some ((.inl (s3.1, s3.2.1, (s3.2.2 + 1))), M4)
  else
  zob (mrw (42 + 11) s3.2.2) (fun t15 =>
  zob (mrd M4 t15 a1) (fun v16 =>
  some ((.inl (s3.2.2, v16, (s3.2.2 + 1))), M4))))))) ((-2), 0, 0) M1) (fun e5 M6 =>
  some (e5.1, M6)))
set_option maxRecDepth 100000 in
set_option maxHeartbeats 4000000 in
theorem r_X7_whose {B n : Nat} {h0 : zHp} {M0 : zMem} (w0 : zW B n h0 M0) (a1 : Int32) : zRR B n (f_X7_whose (B + 0) a1 h0) (m_X7_whose a1 M0) := by
  unfold f_X7_whose m_X7_whose
  refine zr_cv w0 zio_7 (r_X7_isField w0 a1) (fun v2 h1 M1 w1 => ?_)
  refine zr_if ?_ ?_
  · exact zr_ok w1
  · refine zr_bd (zr_lp (fun s3 h4 M4 w4 => ?_) ((-2), 0, 0) h1 M1 w1) (fun e5 h6 M6 w6 => ?_)
    · refine zr_gT w4 zio_7 rfl (fun t7 q7 => ?_)
      refine zr_gI w4 (zit_o q7) rfl ?_
      refine zr_if ?_ ?_
      · exact zr_ok w4
      · refine zr_gR w4 zio_7 rfl ?_
        refine zr_gR w4 zis_42.1 rfl ?_
        refine zr_rw w4 zis_42.2.2.2.2.1 zis_42.2.2.2.2.2.1 (fun t11 q11 => ?_)
        refine zr_a0 w4 q11 (fun v12 => ?_)
        refine zr_if ?_ ?_
        · exact zr_ok w4
        · refine zr_gR w4 zio_7 rfl ?_
          refine zr_gR w4 zis_42.1 rfl ?_
          refine zr_rw w4 zis_42.2.2.2.2.1 zis_42.2.2.2.2.2.1 (fun t15 q15 => ?_)
          refine zr_a0 w4 q15 (fun v16 => ?_)
          exact zr_ok w4
    · exact zr_ok w6
def m_X8_howMany (a1 : Int32) (a2 : Int32) (M0 : zMem) : Option (Int32 × zMem) :=
  mbd (
  mlp (σ := (Int32 × Int32)) (β := (Int32 × Int32)) zLF (fun s1 M2 =>
  zob (mrd M2 215 1) (fun v6 =>
  if v6 ≤ s1.2 then
  some ((.inr (s1.1, s1.2)), M2)
  else
  zob (mrd M2 240 ((8 * a1) + s1.2)) (fun v8 =>
  if v8 = a2 then
  some ((.inl ((s1.1 + 1), (s1.2 + 1))), M2)
  else
  some ((.inl ((s1.1 + 0), (s1.2 + 1))), M2)))) (0, 0) M0) (fun e3 M4 =>
  some (e3.1, M4))
set_option maxRecDepth 100000 in
set_option maxHeartbeats 4000000 in
theorem r_X8_howMany {B n : Nat} {h0 : zHp} {M0 : zMem} (w0 : zW B n h0 M0) (a1 : Int32) (a2 : Int32) : zRR B n (f_X8_howMany (B + 213) a1 a2 h0) (m_X8_howMany a1 a2 M0) := by
  unfold f_X8_howMany m_X8_howMany
  refine zr_bd (zr_lp (fun s1 h2 M2 w2 => ?_) (0, 0) h0 M0 w0) (fun e3 h4 M4 w4 => ?_)
  · refine zr_gR w2 zio_8 rfl ?_
    refine zr_a0 w2 zca_215 (fun v6 => ?_)
    refine zr_if ?_ ?_
    · exact zr_ok w2
    · refine zr_gR w2 zio_8 rfl ?_
      refine zr_a0 w2 zca_240 (fun v8 => ?_)
      refine zr_if ?_ ?_
      · exact zr_ok w2
      · exact zr_ok w2
  · exact zr_ok w4
def m_X8_marksAll (a1 : Int32) (M0 : zMem) : Option (Int32 × zMem) :=
  mbd (
  mlp (σ := (Int32 × Int32)) (β := (Int32 × Int32)) zLF (fun s1 M2 =>
  zob (mrd M2 215 2) (fun v6 =>
  if v6 ≤ s1.2 then
  some ((.inr (s1.1, s1.2)), M2)
  else
  zob (mrd M2 242 ((6 * a1) + s1.2)) (fun v8 =>
  some ((.inl ((s1.1 + v8), (s1.2 + 1))), M2)))) (0, 0) M0) (fun e3 M4 =>
  some (e3.1, M4))
set_option maxRecDepth 100000 in
set_option maxHeartbeats 4000000 in
theorem r_X8_marksAll {B n : Nat} {h0 : zHp} {M0 : zMem} (w0 : zW B n h0 M0) (a1 : Int32) : zRR B n (f_X8_marksAll (B + 213) a1 h0) (m_X8_marksAll a1 M0) := by
  unfold f_X8_marksAll m_X8_marksAll
  refine zr_bd (zr_lp (fun s1 h2 M2 w2 => ?_) (0, 0) h0 M0 w0) (fun e3 h4 M4 w4 => ?_)
  · refine zr_gR w2 zio_8 rfl ?_
    refine zr_a0 w2 zca_215 (fun v6 => ?_)
    refine zr_if ?_ ?_
    · exact zr_ok w2
    · refine zr_gR w2 zio_8 rfl ?_
      refine zr_a0 w2 zca_242 (fun v8 => ?_)
      exact zr_ok w2
  · exact zr_ok w4
def m_X8_rainAll (a1 : Int32) (M0 : zMem) : Option (Int32 × zMem) :=
  mbd (
  mlp (σ := (Int32 × Int32)) (β := (Int32 × Int32)) zLF (fun s1 M2 =>
  zob (mrd M2 215 0) (fun v6 =>
  if v6 ≤ s1.2 then
  some ((.inr (s1.1, s1.2)), M2)
  else
  zob (mrd M2 243 ((5 * a1) + s1.2)) (fun v8 =>
  some ((.inl ((s1.1 + v8), (s1.2 + 1))), M2)))) (0, 0) M0) (fun e3 M4 =>
  some (e3.1, M4))
set_option maxRecDepth 100000 in
set_option maxHeartbeats 4000000 in
theorem r_X8_rainAll {B n : Nat} {h0 : zHp} {M0 : zMem} (w0 : zW B n h0 M0) (a1 : Int32) : zRR B n (f_X8_rainAll (B + 213) a1 h0) (m_X8_rainAll a1 M0) := by
  unfold f_X8_rainAll m_X8_rainAll
  refine zr_bd (zr_lp (fun s1 h2 M2 w2 => ?_) (0, 0) h0 M0 w0) (fun e3 h4 M4 w4 => ?_)
  · refine zr_gR w2 zio_8 rfl ?_
    refine zr_a0 w2 zca_215 (fun v6 => ?_)
    refine zr_if ?_ ?_
    · exact zr_ok w2
    · refine zr_gR w2 zio_8 rfl ?_
      refine zr_a0 w2 zca_243 (fun v8 => ?_)
      exact zr_ok w2
  · exact zr_ok w4
def m_X8_copies (a1 : Int32) (a2 : Int32) (M0 : zMem) : Option (Unit × zMem) :=
  zob (mrd M0 234 a2) (fun v3 =>
  zob (mwr M0 234 a1 v3) (fun M4 =>
  zob (mrd M4 235 a2) (fun v7 =>
  zob (mwr M4 235 a1 v7) (fun M8 =>
  mbd (
  mlp (σ := Int32) (β := Int32) zLF (fun s9 M10 =>
  if 8 ≤ s9 then
  some ((.inr s9), M10)
  else
  zob (mrd M10 236 ((8 * a2) + s9)) (fun v15 =>
  zob (mwr M10 236 ((8 * a1) + s9) v15) (fun M16 =>
  zob (mrd M16 237 ((8 * a2) + s9)) (fun v19 =>
  zob (mwr M16 237 ((8 * a1) + s9) v19) (fun M20 =>
  zob (mrd M20 238 ((8 * a2) + s9)) (fun v23 =>
  zob (mwr M20 238 ((8 * a1) + s9) v23) (fun M24 =>
  zob (mrd M24 239 ((8 * a2) + s9)) (fun v27 =>
  zob (mwr M24 239 ((8 * a1) + s9) v27) (fun M28 =>
  zob (mrd M28 240 ((8 * a2) + s9)) (fun v31 =>
  zob (mwr M28 240 ((8 * a1) + s9) v31) (fun M32 =>
  some ((.inl (s9 + 1)), M32)))))))))))) 0 M8) (fun e11 M12 =>
  mbd (
  mlp (σ := Int32) (β := Int32) zLF (fun s33 M34 =>
  if 6 ≤ s33 then
  some ((.inr s33), M34)
  else
  zob (mrd M34 241 ((6 * a2) + s33)) (fun v39 =>
  zob (mwr M34 241 ((6 * a1) + s33) v39) (fun M40 =>
  zob (mrd M40 242 ((6 * a2) + s33)) (fun v43 =>
  zob (mwr M40 242 ((6 * a1) + s33) v43) (fun M44 =>
  some ((.inl (s33 + 1)), M44)))))) 0 M12) (fun e35 M36 =>
  mbd (
  mlp (σ := Int32) (β := Int32) zLF (fun s45 M46 =>
  if 5 ≤ s45 then
  some ((.inr s45), M46)
  else
  zob (mrd M46 243 ((5 * a2) + s45)) (fun v51 =>
  zob (mwr M46 243 ((5 * a1) + s45) v51) (fun M52 =>
  some ((.inl (s45 + 1)), M52)))) 0 M36) (fun e47 M48 =>
  mbd (
  mlp (σ := Int32) (β := Int32) zLF (fun s53 M54 =>
  if 35 ≤ s53 then
  some ((.inr s53), M54)
  else
  zob (mrd M54 244 ((35 * a2) + s53)) (fun v59 =>
  zob (mwr M54 244 ((35 * a1) + s53) v59) (fun M60 =>
  some ((.inl (s53 + 1)), M60)))) 0 M48) (fun e55 M56 =>
  some ((), M56)))))))))
set_option maxRecDepth 100000 in
set_option maxHeartbeats 4000000 in
theorem r_X8_copies {B n : Nat} {h0 : zHp} {M0 : zMem} (w0 : zW B n h0 M0) (a1 : Int32) (a2 : Int32) : zRR B n (f_X8_copies (B + 213) a1 a2 h0) (m_X8_copies a1 a2 M0) := by
  unfold f_X8_copies m_X8_copies
  refine zr_gR w0 zio_8 rfl ?_
  refine zr_gR w0 zio_8 rfl ?_
  refine zr_a0 w0 zca_234 (fun v3 => ?_)
  refine zr_s0 w0 zca_234 (fun h4 M4 w4 => ?_)
  refine zr_gR w4 zio_8 rfl ?_
  refine zr_gR w4 zio_8 rfl ?_
  refine zr_a0 w4 zca_235 (fun v7 => ?_)
  refine zr_s0 w4 zca_235 (fun h8 M8 w8 => ?_)
  refine zr_bd (zr_lp (fun s9 h10 M10 w10 => ?_) 0 h8 M8 w8) (fun e11 h12 M12 w12 => ?_)
  · refine zr_if ?_ ?_
    · exact zr_ok w10
    · refine zr_gR w10 zio_8 rfl ?_
      refine zr_gR w10 zio_8 rfl ?_
      refine zr_a0 w10 zca_236 (fun v15 => ?_)
      refine zr_s0 w10 zca_236 (fun h16 M16 w16 => ?_)
      refine zr_gR w16 zio_8 rfl ?_
      refine zr_gR w16 zio_8 rfl ?_
      refine zr_a0 w16 zca_237 (fun v19 => ?_)
      refine zr_s0 w16 zca_237 (fun h20 M20 w20 => ?_)
      refine zr_gR w20 zio_8 rfl ?_
      refine zr_gR w20 zio_8 rfl ?_
      refine zr_a0 w20 zca_238 (fun v23 => ?_)
      refine zr_s0 w20 zca_238 (fun h24 M24 w24 => ?_)
      refine zr_gR w24 zio_8 rfl ?_
      refine zr_gR w24 zio_8 rfl ?_
      refine zr_a0 w24 zca_239 (fun v27 => ?_)
      refine zr_s0 w24 zca_239 (fun h28 M28 w28 => ?_)
      refine zr_gR w28 zio_8 rfl ?_
      refine zr_gR w28 zio_8 rfl ?_
      refine zr_a0 w28 zca_240 (fun v31 => ?_)
      refine zr_s0 w28 zca_240 (fun h32 M32 w32 => ?_)
      exact zr_ok w32
  · refine zr_bd (zr_lp (fun s33 h34 M34 w34 => ?_) 0 h12 M12 w12) (fun e35 h36 M36 w36 => ?_)
    · refine zr_if ?_ ?_
      · exact zr_ok w34
      · refine zr_gR w34 zio_8 rfl ?_
        refine zr_gR w34 zio_8 rfl ?_
        refine zr_a0 w34 zca_241 (fun v39 => ?_)
        refine zr_s0 w34 zca_241 (fun h40 M40 w40 => ?_)
        refine zr_gR w40 zio_8 rfl ?_
        refine zr_gR w40 zio_8 rfl ?_
        refine zr_a0 w40 zca_242 (fun v43 => ?_)
        refine zr_s0 w40 zca_242 (fun h44 M44 w44 => ?_)
        exact zr_ok w44
    · refine zr_bd (zr_lp (fun s45 h46 M46 w46 => ?_) 0 h36 M36 w36) (fun e47 h48 M48 w48 => ?_)
      · refine zr_if ?_ ?_
        · exact zr_ok w46
        · refine zr_gR w46 zio_8 rfl ?_
          refine zr_gR w46 zio_8 rfl ?_
          refine zr_a0 w46 zca_243 (fun v51 => ?_)
          refine zr_s0 w46 zca_243 (fun h52 M52 w52 => ?_)
          exact zr_ok w52
      · refine zr_bd (zr_lp (fun s53 h54 M54 w54 => ?_) 0 h48 M48 w48) (fun e55 h56 M56 w56 => ?_)
        · refine zr_if ?_ ?_
          · exact zr_ok w54
          · refine zr_gR w54 zio_8 rfl ?_
            refine zr_gR w54 zio_8 rfl ?_
            refine zr_a0 w54 zca_244 (fun v59 => ?_)
            refine zr_s0 w54 zca_244 (fun h60 M60 w60 => ?_)
            exact zr_ok w60
        · exact zr_ok w56
def m_X8_farOf (a0 : Int32) (a1 : Int32) (M0 : zMem) : Option (Int32 × zMem) :=
  some ((zmx (zab ((zrm a0 6) - (zrm a1 6))) (zab ((a0 / 6) - (a1 / 6)))), M0)
set_option maxRecDepth 100000 in
set_option maxHeartbeats 4000000 in
theorem r_X8_farOf {B n : Nat} {h0 : zHp} {M0 : zMem} (w0 : zW B n h0 M0) (a0 : Int32) (a1 : Int32) : zRR B n (f_X8_farOf a0 a1 h0) (m_X8_farOf a0 a1 M0) := by
  unfold f_X8_farOf m_X8_farOf
  exact zr_ok w0
def m_X8_groundIn (a1 : Int32) (M0 : zMem) : Option (Int32 × zMem) :=
  if (M0.1 213 49) = 5 then
  some (1, M0)
  else
  if (M0.1 213 49) = 3 then
  zob (mrd M0 216 a1) (fun v4 =>
  if v4 = 2 then
  some (0, M0)
  else
  zob (mrd M0 216 a1) (fun v6 =>
  some (v6, M0)))
  else
  zob (mrd M0 216 a1) (fun v8 =>
  some (v8, M0))
set_option maxRecDepth 100000 in
set_option maxHeartbeats 4000000 in
theorem r_X8_groundIn {B n : Nat} {h0 : zHp} {M0 : zMem} (w0 : zW B n h0 M0) (a1 : Int32) : zRR B n (f_X8_groundIn (B + 213) a1 h0) (m_X8_groundIn a1 M0) := by
  unfold f_X8_groundIn m_X8_groundIn
  refine zr_gI w0 zio_8 rfl ?_
  refine zr_if ?_ ?_
  · exact zr_ok w0
  · refine zr_gI w0 zio_8 rfl ?_
    refine zr_if ?_ ?_
    · refine zr_gR w0 zio_8 rfl ?_
      refine zr_a0 w0 zca_216 (fun v4 => ?_)
      refine zr_if ?_ ?_
      · exact zr_ok w0
      · refine zr_gR w0 zio_8 rfl ?_
        refine zr_a0 w0 zca_216 (fun v6 => ?_)
        exact zr_ok w0
    · refine zr_gR w0 zio_8 rfl ?_
      refine zr_a0 w0 zca_216 (fun v8 => ?_)
      exact zr_ok w0
def m_X8_isUp (a1 : Int32) (a2 : Int32) (M0 : zMem) : Option (Int32 × zMem) :=
  zob (mrd M0 240 ((8 * a1) + a2)) (fun v2 =>
  if v2 = 1 then
  if (M0.1 213 49) = 2 then
  if a2 = (M0.1 213 50) then
  some (0, M0)
  else
  some (1, M0)
  else
  some (1, M0)
  else
  some (0, M0))
set_option maxRecDepth 100000 in
set_option maxHeartbeats 4000000 in
theorem r_X8_isUp {B n : Nat} {h0 : zHp} {M0 : zMem} (w0 : zW B n h0 M0) (a1 : Int32) (a2 : Int32) : zRR B n (f_X8_isUp (B + 213) a1 a2 h0) (m_X8_isUp a1 a2 M0) := by
  unfold f_X8_isUp m_X8_isUp
  refine zr_gR w0 zio_8 rfl ?_
  refine zr_a0 w0 zca_240 (fun v2 => ?_)
  refine zr_if ?_ ?_
  · refine zr_gI w0 zio_8 rfl ?_
    refine zr_if ?_ ?_
    · refine zr_gI w0 zio_8 rfl ?_
      refine zr_if ?_ ?_
      · exact zr_ok w0
      · exact zr_ok w0
    · exact zr_ok w0
  · exact zr_ok w0
def m_X8_upMany (a1 : Int32) (M0 : zMem) : Option (Int32 × zMem) :=
  mbd (
  mlp (σ := (Int32 × Int32)) (β := (Int32 × Int32)) zLF (fun s1 M2 =>
  zob (mrd M2 215 1) (fun v6 =>
  if v6 ≤ s1.2 then
  some ((.inr (s1.1, s1.2)), M2)
  else
  mbd (m_X8_isUp a1 s1.2 M2) (fun v8 M7 =>
  if v8 = 0 then
  some ((.inl ((s1.1 + 0), (s1.2 + 1))), M7)
  else
  some ((.inl ((s1.1 + 1), (s1.2 + 1))), M7)))) (0, 0) M0) (fun e3 M4 =>
  some (e3.1, M4))
set_option maxRecDepth 100000 in
set_option maxHeartbeats 4000000 in
theorem r_X8_upMany {B n : Nat} {h0 : zHp} {M0 : zMem} (w0 : zW B n h0 M0) (a1 : Int32) : zRR B n (f_X8_upMany (B + 213) a1 h0) (m_X8_upMany a1 M0) := by
  unfold f_X8_upMany m_X8_upMany
  refine zr_bd (zr_lp (fun s1 h2 M2 w2 => ?_) (0, 0) h0 M0 w0) (fun e3 h4 M4 w4 => ?_)
  · refine zr_gR w2 zio_8 rfl ?_
    refine zr_a0 w2 zca_215 (fun v6 => ?_)
    refine zr_if ?_ ?_
    · exact zr_ok w2
    · refine zr_cv w2 zio_8 (r_X8_isUp w2 a1 s1.2) (fun v8 h7 M7 w7 => ?_)
      refine zr_if ?_ ?_
      · exact zr_ok w7
      · exact zr_ok w7
  · exact zr_ok w4
def m_X8_calls (a1 : Int32) (a2 : Int32) (M0 : zMem) : Option (Unit × zMem) :=
  zob (mrd M0 239 ((8 * a1) + a2)) (fun v2 =>
  zob (mrd M0 237 ((8 * a1) + a2)) (fun v5 =>
  zob (mwrL M0 232 0 (Int32.toInt64 v5)) (fun M6 =>
  zob (mrd M6 236 ((8 * a1) + a2)) (fun v9 =>
  mbd (m_X8_groundIn v9 M6) (fun v11 M10 =>
  zob (mwrL M10 232 1 (Int32.toInt64 v11)) (fun M12 =>
  zob (mrd M12 238 ((8 * a1) + a2)) (fun v15 =>
  zob (mwrL M12 232 2 (Int32.toInt64 v15)) (fun M16 =>
  mbd (α := Int64) (
  if v2 = (-1) then
  some (99, M16)
  else
  zob (mrd M16 236 ((8 * a1) + a2)) (fun v19 =>
  zob (mrd M16 241 ((6 * a1) + v2)) (fun v21 =>
  mbd (m_X8_farOf v19 v21 M16) (fun v23 M22 =>
  some ((Int32.toInt64 v23), M22))))) (fun e24 M25 =>
  zob (mwrL M25 232 3 e24) (fun M26 =>
  mbd (m_X8_upMany a1 M26) (fun v29 M28 =>
  zob (mwrL M28 232 4 (Int32.toInt64 v29)) (fun M30 =>
  mbd (α := Int64) (
  if v2 = (-1) then
  some (0, M30)
  else
  zob (mrd M30 242 ((6 * a1) + v2)) (fun v33 =>
  some ((Int32.toInt64 v33), M30))) (fun e34 M35 =>
  zob (mwrL M35 232 5 e34) (fun M36 =>
  zob (mrd M36 234 a1) (fun v39 =>
  zob (mwrL M36 232 6 (Int32.toInt64 v39)) (fun M40 =>
  some ((), M40)))))))))))))))))
set_option maxRecDepth 100000 in
set_option maxHeartbeats 4000000 in
theorem r_X8_calls {B n : Nat} {h0 : zHp} {M0 : zMem} (w0 : zW B n h0 M0) (a1 : Int32) (a2 : Int32) : zRR B n (f_X8_calls (B + 213) a1 a2 h0) (m_X8_calls a1 a2 M0) := by
  unfold f_X8_calls m_X8_calls
  refine zr_gR w0 zio_8 rfl ?_
  refine zr_a0 w0 zca_239 (fun v2 => ?_)
  refine zr_gR w0 zio_8 rfl ?_
  refine zr_gR w0 zio_8 rfl ?_
  refine zr_a0 w0 zca_237 (fun v5 => ?_)
  refine zr_sL w0 zca_232 (fun h6 M6 w6 => ?_)
  refine zr_gR w6 zio_8 rfl ?_
  refine zr_gR w6 zio_8 rfl ?_
  refine zr_a0 w6 zca_236 (fun v9 => ?_)
  refine zr_cv w6 zio_8 (r_X8_groundIn w6 v9) (fun v11 h10 M10 w10 => ?_)
  refine zr_sL w10 zca_232 (fun h12 M12 w12 => ?_)
  refine zr_gR w12 zio_8 rfl ?_
  refine zr_gR w12 zio_8 rfl ?_
  refine zr_a0 w12 zca_238 (fun v15 => ?_)
  refine zr_sL w12 zca_232 (fun h16 M16 w16 => ?_)
  refine zr_gR w16 zio_8 rfl ?_
  refine zr_bd ?_ (fun e24 h25 M25 w25 => ?_)
  · refine zr_if ?_ ?_
    · exact zr_ok w16
    · refine zr_gR w16 zio_8 rfl ?_
      refine zr_a0 w16 zca_236 (fun v19 => ?_)
      refine zr_gR w16 zio_8 rfl ?_
      refine zr_a0 w16 zca_241 (fun v21 => ?_)
      refine zr_bd (r_X8_farOf w16 v19 v21) (fun v23 h22 M22 w22 => ?_)
      exact zr_ok w22
  · refine zr_sL w25 zca_232 (fun h26 M26 w26 => ?_)
    refine zr_gR w26 zio_8 rfl ?_
    refine zr_cv w26 zio_8 (r_X8_upMany w26 a1) (fun v29 h28 M28 w28 => ?_)
    refine zr_sL w28 zca_232 (fun h30 M30 w30 => ?_)
    refine zr_gR w30 zio_8 rfl ?_
    refine zr_bd ?_ (fun e34 h35 M35 w35 => ?_)
    · refine zr_if ?_ ?_
      · exact zr_ok w30
      · refine zr_gR w30 zio_8 rfl ?_
        refine zr_a0 w30 zca_242 (fun v33 => ?_)
        exact zr_ok w30
    · refine zr_sL w35 zca_232 (fun h36 M36 w36 => ?_)
      refine zr_gR w36 zio_8 rfl ?_
      refine zr_gR w36 zio_8 rfl ?_
      refine zr_a0 w36 zca_234 (fun v39 => ?_)
      refine zr_sL w36 zca_232 (fun h40 M40 w40 => ?_)
      exact zr_ok w40
def m_X8_isCell (a0 : Int32) (a1 : Int32) (M0 : zMem) : Option (Int32 × zMem) :=
  if a0 < 0 then
  some (0, M0)
  else
  if 6 ≤ a0 then
  some (0, M0)
  else
  if a1 < 0 then
  some (0, M0)
  else
  if 4 ≤ a1 then
  some (0, M0)
  else
  some (1, M0)
set_option maxRecDepth 100000 in
set_option maxHeartbeats 4000000 in
theorem r_X8_isCell {B n : Nat} {h0 : zHp} {M0 : zMem} (w0 : zW B n h0 M0) (a0 : Int32) (a1 : Int32) : zRR B n (f_X8_isCell a0 a1 h0) (m_X8_isCell a0 a1 M0) := by
  unfold f_X8_isCell m_X8_isCell
  refine zr_if ?_ ?_
  · exact zr_ok w0
  · refine zr_if ?_ ?_
    · exact zr_ok w0
    · refine zr_if ?_ ?_
      · exact zr_ok w0
      · refine zr_if ?_ ?_
        · exact zr_ok w0
        · exact zr_ok w0
def m_X8_drifts (a1 : Int32) (a2 : Int32) (a3 : Int32) (M0 : zMem) : Option (Unit × zMem) :=
  zob (mrd M0 236 ((8 * a1) + a2)) (fun v2 =>
  mbd (α := Int32) (
  if a3 = 1 then
  some (1, M0)
  else
  if a3 = 3 then
  some ((-1), M0)
  else
  some (0, M0)) (fun e3 M4 =>
  zob (mrd M4 236 ((8 * a1) + a2)) (fun v6 =>
  mbd (α := Int32) (
  if a3 = 2 then
  some (1, M4)
  else
  if a3 = 4 then
  some ((-1), M4)
  else
  some (0, M4)) (fun e7 M8 =>
  mbd (m_X8_isCell ((zrm v2 6) + e3) ((v6 / 6) + e7) M8) (fun v10 M9 =>
  if v10 = 0 then
  zob (mwr M9 240 ((8 * a1) + a2) 2) (fun M12 =>
  some ((), M12))
  else
  zob (mwr M9 236 ((8 * a1) + a2) ((6 * ((v6 / 6) + e7)) + ((zrm v2 6) + e3))) (fun M14 =>
  some ((), M14)))))))
set_option maxRecDepth 100000 in
set_option maxHeartbeats 4000000 in
theorem r_X8_drifts {B n : Nat} {h0 : zHp} {M0 : zMem} (w0 : zW B n h0 M0) (a1 : Int32) (a2 : Int32) (a3 : Int32) : zRR B n (f_X8_drifts (B + 213) a1 a2 a3 h0) (m_X8_drifts a1 a2 a3 M0) := by
  unfold f_X8_drifts m_X8_drifts
  refine zr_gR w0 zio_8 rfl ?_
  refine zr_a0 w0 zca_236 (fun v2 => ?_)
  refine zr_bd ?_ (fun e3 h4 M4 w4 => ?_)
  · refine zr_if ?_ ?_
    · exact zr_ok w0
    · refine zr_if ?_ ?_
      · exact zr_ok w0
      · exact zr_ok w0
  · refine zr_gR w4 zio_8 rfl ?_
    refine zr_a0 w4 zca_236 (fun v6 => ?_)
    refine zr_bd ?_ (fun e7 h8 M8 w8 => ?_)
    · refine zr_if ?_ ?_
      · exact zr_ok w4
      · refine zr_if ?_ ?_
        · exact zr_ok w4
        · exact zr_ok w4
    · refine zr_bd (r_X8_isCell w8 ((zrm v2 6) + e3) ((v6 / 6) + e7)) (fun v10 h9 M9 w9 => ?_)
      refine zr_if ?_ ?_
      · refine zr_gR w9 zio_8 rfl ?_
        refine zr_s0 w9 zca_240 (fun h12 M12 w12 => ?_)
        exact zr_ok w12
      · refine zr_gR w9 zio_8 rfl ?_
        refine zr_s0 w9 zca_236 (fun h14 M14 w14 => ?_)
        exact zr_ok w14
def m_X8_is (a0 : Int32) (M0 : zMem) : Option (Int64 × zMem) :=
  if a0 = 0 then
  some (0, M0)
  else
  some (1, M0)
set_option maxRecDepth 100000 in
set_option maxHeartbeats 4000000 in
theorem r_X8_is {B n : Nat} {h0 : zHp} {M0 : zMem} (w0 : zW B n h0 M0) (a0 : Int32) : zRR B n (f_X8_is a0 h0) (m_X8_is a0 M0) := by
  unfold f_X8_is m_X8_is
  refine zr_if ?_ ?_
  · exact zr_ok w0
  · exact zr_ok w0
def m_X8_works (a1 : Int32) (M0 : zMem) : Option (Int32 × zMem) :=
  zob (mrdL M0 233 ((M0.1 213 35) - 1)) (fun v3 =>
  if a1 = 260 then
  mbd (α := Int32) (
  if (lg_cmp v3 0) = 0 then
  some (1, M0)
  else
  some (0, M0)) (fun e6 M7 =>
  mbd (m_X8_is e6 M7) (fun v9 M8 =>
  zob (mwrL M8 233 ((M0.1 213 35) - 1) v9) (fun M10 =>
  some (1, M10))))
  else
  zob (mrdL M0 233 ((M0.1 213 35) - 2)) (fun v13 =>
  mlt (mup M0 213 35 ((M0.1 213 35) - 1)) (fun M15 =>
  mbd (α := (Int64 ⊕ Int32)) (
  if a1 = 42 then
  if (lg_cmp v13 0) = 0 then
  some ((.inl (v13 * v3)), M15)
  else
  zob (zdl 1000000000000 (zabL v13)) (fun v16 =>
  if (lg_cmp (zabL v3) v16) ≤ 0 then
  some ((.inl (v13 * v3)), M15)
  else
  some ((.inr 0), M15))
  else if a1 = 43 then
  some ((.inl (v13 + v3)), M15)
  else if a1 = 45 then
  some ((.inl (v13 - v3)), M15)
  else if a1 = 47 then
  if (lg_cmp v3 0) = 0 then
  some ((.inr 0), M15)
  else
  zob (zdl v13 v3) (fun v17 =>
  some ((.inl v17), M15))
  else if a1 = 60 then
  mbd (α := Int32) (
  if 0 ≤ (lg_cmp v13 v3) then
  some (0, M15)
  else
  some (1, M15)) (fun e18 M19 =>
  mbd (m_X8_is e18 M19) (fun v21 M20 =>
  some ((.inl v21), M20)))
  else if a1 = 61 then
  mbd (α := Int32) (
  if (lg_cmp v13 v3) = 0 then
  some (1, M15)
  else
  some (0, M15)) (fun e22 M23 =>
  mbd (m_X8_is e22 M23) (fun v25 M24 =>
  some ((.inl v25), M24)))
  else if a1 = 62 then
  mbd (α := Int32) (
  if (lg_cmp v13 v3) ≤ 0 then
  some (0, M15)
  else
  some (1, M15)) (fun e26 M27 =>
  mbd (m_X8_is e26 M27) (fun v29 M28 =>
  some ((.inl v29), M28)))
  else if a1 = 256 then
  mbd (α := Int32) (
  if 0 < (lg_cmp v13 v3) then
  some (0, M15)
  else
  some (1, M15)) (fun e30 M31 =>
  mbd (m_X8_is e30 M31) (fun v33 M32 =>
  some ((.inl v33), M32)))
  else if a1 = 257 then
  mbd (α := Int32) (
  if (lg_cmp v13 v3) = 0 then
  some (0, M15)
  else
  some (1, M15)) (fun e34 M35 =>
  mbd (m_X8_is e34 M35) (fun v37 M36 =>
  some ((.inl v37), M36)))
  else if a1 = 258 then
  mbd (α := Int32) (
  if (lg_cmp v13 v3) < 0 then
  some (0, M15)
  else
  some (1, M15)) (fun e38 M39 =>
  mbd (m_X8_is e38 M39) (fun v41 M40 =>
  some ((.inl v41), M40)))
  else if a1 = 261 then
  mbd (α := Int32) (
  if (lg_cmp v13 0) = 0 then
  some (0, M15)
  else
  if (lg_cmp v3 0) = 0 then
  some (0, M15)
  else
  some (1, M15)) (fun e42 M43 =>
  mbd (m_X8_is e42 M43) (fun v45 M44 =>
  some ((.inl v45), M44)))
  else 
  mbd (α := Int32) (
  if (lg_cmp v13 0) = 0 then
  if (lg_cmp v3 0) = 0 then
  some (0, M15)
  else
  some (1, M15)
  else
  some (1, M15)) (fun e46 M47 =>
  mbd (m_X8_is e46 M47) (fun v49 M48 =>
  some ((.inl v49), M48)))) (fun b55 M51 => zsl b55 (fun e50 =>
  zob (mwrL M51 233 ((M51.1 213 35) - 1) e50) (fun M54 =>
  if 0 < (lg_cmp e50 1000000000000) then
  some (0, M54)
  else
  if (lg_cmp e50 (-1000000000000)) < 0 then
  some (0, M54)
  else
  some (1, M54))) (fun r => some (r, M51))))))
set_option maxRecDepth 100000 in
set_option maxHeartbeats 4000000 in
theorem r_X8_works {B n : Nat} {h0 : zHp} {M0 : zMem} (w0 : zW B n h0 M0) (a1 : Int32) : zRR B n (f_X8_works (B + 213) a1 h0) (m_X8_works a1 M0) := by
  unfold f_X8_works m_X8_works
  refine zr_gR w0 zio_8 rfl ?_
  refine zr_gI w0 zio_8 rfl ?_
  refine zr_a3 w0 zca_233 (fun v3 => ?_)
  refine zr_if ?_ ?_
  · refine zr_gR w0 zio_8 rfl ?_
    refine zr_gI w0 zio_8 rfl ?_
    refine zr_bd ?_ (fun e6 h7 M7 w7 => ?_)
    · refine zr_if ?_ ?_
      · exact zr_ok w0
      · exact zr_ok w0
    · refine zr_bd (r_X8_is w7 e6) (fun v9 h8 M8 w8 => ?_)
      refine zr_sL w8 zca_233 (fun h10 M10 w10 => ?_)
      exact zr_ok w10
  · refine zr_gR w0 zio_8 rfl ?_
    refine zr_gI w0 zio_8 rfl ?_
    refine zr_a3 w0 zca_233 (fun v13 => ?_)
    refine zr_gI w0 zio_8 rfl ?_
    refine zr_pV w0 zio_8 (Nat.le_of_ble_eq_true rfl) rfl (fun h15 M15 w15 => ?_)
    refine zr_bd ?_ (fun b55 h51 M51 w51 => zr_sl (fun e50 => ?_) (fun r => zr_ok w51))
    · refine zr_if ?_ ?_
      · refine zr_if ?_ ?_
        · exact zr_ok w15
        · refine zr_obp (fun v16 => ?_)
          refine zr_if ?_ ?_
          · exact zr_ok w15
          · exact zr_ok w15
      refine zr_if ?_ ?_
      · exact zr_ok w15
      refine zr_if ?_ ?_
      · exact zr_ok w15
      refine zr_if ?_ ?_
      · refine zr_if ?_ ?_
        · exact zr_ok w15
        · refine zr_obp (fun v17 => ?_)
          exact zr_ok w15
      refine zr_if ?_ ?_
      · refine zr_bd ?_ (fun e18 h19 M19 w19 => ?_)
        · refine zr_if ?_ ?_
          · exact zr_ok w15
          · exact zr_ok w15
        · refine zr_bd (r_X8_is w19 e18) (fun v21 h20 M20 w20 => ?_)
          exact zr_ok w20
      refine zr_if ?_ ?_
      · refine zr_bd ?_ (fun e22 h23 M23 w23 => ?_)
        · refine zr_if ?_ ?_
          · exact zr_ok w15
          · exact zr_ok w15
        · refine zr_bd (r_X8_is w23 e22) (fun v25 h24 M24 w24 => ?_)
          exact zr_ok w24
      refine zr_if ?_ ?_
      · refine zr_bd ?_ (fun e26 h27 M27 w27 => ?_)
        · refine zr_if ?_ ?_
          · exact zr_ok w15
          · exact zr_ok w15
        · refine zr_bd (r_X8_is w27 e26) (fun v29 h28 M28 w28 => ?_)
          exact zr_ok w28
      refine zr_if ?_ ?_
      · refine zr_bd ?_ (fun e30 h31 M31 w31 => ?_)
        · refine zr_if ?_ ?_
          · exact zr_ok w15
          · exact zr_ok w15
        · refine zr_bd (r_X8_is w31 e30) (fun v33 h32 M32 w32 => ?_)
          exact zr_ok w32
      refine zr_if ?_ ?_
      · refine zr_bd ?_ (fun e34 h35 M35 w35 => ?_)
        · refine zr_if ?_ ?_
          · exact zr_ok w15
          · exact zr_ok w15
        · refine zr_bd (r_X8_is w35 e34) (fun v37 h36 M36 w36 => ?_)
          exact zr_ok w36
      refine zr_if ?_ ?_
      · refine zr_bd ?_ (fun e38 h39 M39 w39 => ?_)
        · refine zr_if ?_ ?_
          · exact zr_ok w15
          · exact zr_ok w15
        · refine zr_bd (r_X8_is w39 e38) (fun v41 h40 M40 w40 => ?_)
          exact zr_ok w40
      refine zr_if ?_ ?_
      · refine zr_bd ?_ (fun e42 h43 M43 w43 => ?_)
        · refine zr_if ?_ ?_
          · exact zr_ok w15
          · refine zr_if ?_ ?_
            · exact zr_ok w15
            · exact zr_ok w15
        · refine zr_bd (r_X8_is w43 e42) (fun v45 h44 M44 w44 => ?_)
          exact zr_ok w44
      refine zr_bd ?_ (fun e46 h47 M47 w47 => ?_)
      · refine zr_if ?_ ?_
        · refine zr_if ?_ ?_
          · exact zr_ok w15
          · exact zr_ok w15
        · exact zr_ok w15
      · refine zr_bd (r_X8_is w47 e46) (fun v49 h48 M48 w48 => ?_)
        exact zr_ok w48
    · refine zr_gR w51 zio_8 rfl ?_
      refine zr_gI w51 zio_8 rfl ?_
      refine zr_sL w51 zca_233 (fun h54 M54 w54 => ?_)
      refine zr_if ?_ ?_
      · exact zr_ok w54
      · refine zr_if ?_ ?_
        · exact zr_ok w54
        · exact zr_ok w54
def m_X8_goes (a1 : Int32) (M0 : zMem) : Option (Int32 × zMem) :=
  mlt (mup M0 213 35 0) (fun M1 =>
  zob (mrd M1 228 a1) (fun v3 =>
  mbd (
  mlp (σ := Int32) (β := (Int32 ⊕ Int32)) zLF (fun s4 M5 =>
  zob (mrd M5 229 a1) (fun v9 =>
  if v9 ≤ s4 then
  some ((.inr (.inl s4)), M5)
  else
  zob (mrd M5 230 s4) (fun v11 =>
  if v11 = 2 then
  zob (mrd M5 231 s4) (fun v13 =>
  mbd (m_X8_works v13 M5) (fun v15 M14 =>
  if v15 = 0 then
  some ((.inr (.inr 0)), M14)
  else
  some ((.inl (s4 + 1)), M14)))
  else
  zob (mrd M5 230 s4) (fun v19 =>
  mbd (α := Int64) (
  if v19 = 0 then
  zob (mrd M5 231 s4) (fun v21 =>
  some ((Int32.toInt64 v21), M5))
  else
  zob (mrd M5 231 s4) (fun v24 =>
  zob (mrdL M5 232 v24) (fun v25 =>
  some (v25, M5)))) (fun e26 M27 =>
  zob (mwrL M27 233 (M5.1 213 35) e26) (fun M28 =>
  mlt (mup M28 213 35 ((M28.1 213 35) + 1)) (fun M30 =>
  some ((.inl (s4 + 1)), M30)))))))) v3 M1) (fun b31 M7 => zsl b31 (fun e6 =>
  some (1, M7)) (fun r => some (r, M7)))))
set_option maxRecDepth 100000 in
set_option maxHeartbeats 4000000 in
theorem r_X8_goes {B n : Nat} {h0 : zHp} {M0 : zMem} (w0 : zW B n h0 M0) (a1 : Int32) : zRR B n (f_X8_goes (B + 213) a1 h0) (m_X8_goes a1 M0) := by
  unfold f_X8_goes m_X8_goes
  refine zr_pV w0 zio_8 (Nat.le_of_ble_eq_true rfl) rfl (fun h1 M1 w1 => ?_)
  refine zr_gR w1 zio_8 rfl ?_
  refine zr_a0 w1 zca_228 (fun v3 => ?_)
  refine zr_bd (zr_lp (fun s4 h5 M5 w5 => ?_) v3 h1 M1 w1) (fun b31 h7 M7 w7 => zr_sl (fun e6 => ?_) (fun r => zr_ok w7))
  · refine zr_gR w5 zio_8 rfl ?_
    refine zr_a0 w5 zca_229 (fun v9 => ?_)
    refine zr_if ?_ ?_
    · exact zr_ok w5
    · refine zr_gR w5 zio_8 rfl ?_
      refine zr_a0 w5 zca_230 (fun v11 => ?_)
      refine zr_if ?_ ?_
      · refine zr_gR w5 zio_8 rfl ?_
        refine zr_a0 w5 zca_231 (fun v13 => ?_)
        refine zr_cv w5 zio_8 (r_X8_works w5 v13) (fun v15 h14 M14 w14 => ?_)
        refine zr_if ?_ ?_
        · exact zr_ok w14
        · exact zr_ok w14
      · refine zr_gR w5 zio_8 rfl ?_
        refine zr_gI w5 zio_8 rfl ?_
        refine zr_gR w5 zio_8 rfl ?_
        refine zr_a0 w5 zca_230 (fun v19 => ?_)
        refine zr_bd ?_ (fun e26 h27 M27 w27 => ?_)
        · refine zr_if ?_ ?_
          · refine zr_gR w5 zio_8 rfl ?_
            refine zr_a0 w5 zca_231 (fun v21 => ?_)
            exact zr_ok w5
          · refine zr_gR w5 zio_8 rfl ?_
            refine zr_gR w5 zio_8 rfl ?_
            refine zr_a0 w5 zca_231 (fun v24 => ?_)
            refine zr_a3 w5 zca_232 (fun v25 => ?_)
            exact zr_ok w5
        · refine zr_sL w27 zca_233 (fun h28 M28 w28 => ?_)
          refine zr_gI w28 zio_8 rfl ?_
          refine zr_pV w28 zio_8 (Nat.le_of_ble_eq_true rfl) rfl (fun h30 M30 w30 => ?_)
          exact zr_ok w30
  · exact zr_ok w7
def m_X8_hasLaw (a1 : Int32) (M0 : zMem) : Option (Int32 × zMem) :=
  zob (mrd M0 229 a1) (fun v2 =>
  zob (mrd M0 228 a1) (fun v4 =>
  if v2 ≤ v4 then
  some (0, M0)
  else
  some (1, M0)))
set_option maxRecDepth 100000 in
set_option maxHeartbeats 4000000 in
theorem r_X8_hasLaw {B n : Nat} {h0 : zHp} {M0 : zMem} (w0 : zW B n h0 M0) (a1 : Int32) : zRR B n (f_X8_hasLaw (B + 213) a1 h0) (m_X8_hasLaw a1 M0) := by
  unfold f_X8_hasLaw m_X8_hasLaw
  refine zr_gR w0 zio_8 rfl ?_
  refine zr_a0 w0 zca_229 (fun v2 => ?_)
  refine zr_gR w0 zio_8 rfl ?_
  refine zr_a0 w0 zca_228 (fun v4 => ?_)
  refine zr_if ?_ ?_
  · exact zr_ok w0
  · exact zr_ok w0
def m_X8_within (a1 : Int32) (a2 : Int32) (a3 : Int32) (M0 : zMem) : Option (Int32 × zMem) :=
  mbd (m_X8_hasLaw a1 M0) (fun v2 M1 =>
  if v2 = 0 then
  some (a3, M1)
  else
  mbd (m_X8_goes a1 M1) (fun v4 M3 =>
  if v4 = 0 then
  some (a3, M3)
  else
  zob (mrdL M3 233 0) (fun v6 =>
  some ((Int64.toInt32 (zmxL 0 (zmnL (Int32.toInt64 a2) v6))), M3))))
set_option maxRecDepth 100000 in
set_option maxHeartbeats 4000000 in
theorem r_X8_within {B n : Nat} {h0 : zHp} {M0 : zMem} (w0 : zW B n h0 M0) (a1 : Int32) (a2 : Int32) (a3 : Int32) : zRR B n (f_X8_within (B + 213) a1 a2 a3 h0) (m_X8_within a1 a2 a3 M0) := by
  unfold f_X8_within m_X8_within
  refine zr_cv w0 zio_8 (r_X8_hasLaw w0 a1) (fun v2 h1 M1 w1 => ?_)
  refine zr_if ?_ ?_
  · exact zr_ok w1
  · refine zr_cv w1 zio_8 (r_X8_goes w1 a1) (fun v4 h3 M3 w3 => ?_)
    refine zr_if ?_ ?_
    · exact zr_ok w3
    · refine zr_gR w3 zio_8 rfl ?_
      refine zr_a3 w3 zca_233 (fun v6 => ?_)
      exact zr_ok w3
def m_X8_falls (a1 : Int32) (a2 : Int32) (M0 : zMem) : Option (Unit × zMem) :=
  zob (mrd M0 237 ((8 * a1) + a2)) (fun v2 =>
  zob (mrd M0 215 4) (fun v4 =>
  mbd (α := (Unit ⊕ Unit)) (
  if v4 ≤ v2 then
  some ((.inl ()), M0)
  else
  zob (mrd M0 236 ((8 * a1) + a2)) (fun v6 =>
  mbd (m_X8_groundIn v6 M0) (fun v8 M7 =>
  if v8 = 2 then
  some ((.inl ()), M7)
  else
  some ((.inr ()), M7)))) (fun b48 M10 => zsl b48 (fun e9 =>
  mbd (m_X8_calls a1 a2 M10) (fun v12 M11 =>
  zob (mrd M11 237 ((8 * a1) + a2)) (fun v14 =>
  zob (mrd M11 237 ((8 * a1) + a2)) (fun v16 =>
  mbd (m_X8_within 1 v14 (zmx 1 (v16 / 2)) M11) (fun v18 M17 =>
  mbd (
  mlp (σ := Int32) (β := Int32) zLF (fun s19 M20 =>
  zob (mrd M20 215 0) (fun v24 =>
  if v24 ≤ s19 then
  some ((.inr s19), M20)
  else
  zob (mrd M20 218 s19) (fun v26 =>
  zob (mrd M20 236 ((8 * a1) + a2)) (fun v28 =>
  if v26 = v28 then
  zob (mrd M20 243 ((5 * a1) + s19)) (fun v30 =>
  zob (mwr M20 243 ((5 * a1) + s19) (v30 + v18)) (fun M31 =>
  zob (mrd M31 239 ((8 * a1) + a2)) (fun v34 =>
  mbd (α := Int32) (
  if v34 = (-1) then
  some (6, M31)
  else
  zob (mrd M31 239 ((8 * a1) + a2)) (fun v36 =>
  some (v36, M31))) (fun e37 M38 =>
  zob (mrd M38 244 (((35 * a1) + (7 * s19)) + e37)) (fun v39 =>
  zob (mwr M38 244 (((35 * a1) + (7 * s19)) + e37) (v39 + v18)) (fun M40 =>
  some ((.inl (s19 + 1)), M40)))))))
  else
  some ((.inl (s19 + 1)), M20))))) 0 M17) (fun e21 M22 =>
  zob (mrd M22 237 ((8 * a1) + a2)) (fun v42 =>
  zob (mwr M22 237 ((8 * a1) + a2) (v42 - v18)) (fun M43 =>
  zob (mrd M43 237 ((8 * a1) + a2)) (fun v45 =>
  if v45 = 0 then
  zob (mwr M43 240 ((8 * a1) + a2) 4) (fun M47 =>
  some ((), M47))
  else
  some ((), M43)))))))))) (fun r => some (r, M10)))))
set_option maxRecDepth 100000 in
set_option maxHeartbeats 4000000 in
theorem r_X8_falls {B n : Nat} {h0 : zHp} {M0 : zMem} (w0 : zW B n h0 M0) (a1 : Int32) (a2 : Int32) : zRR B n (f_X8_falls (B + 213) a1 a2 h0) (m_X8_falls a1 a2 M0) := by
  unfold f_X8_falls m_X8_falls
  refine zr_gR w0 zio_8 rfl ?_
  refine zr_a0 w0 zca_237 (fun v2 => ?_)
  refine zr_gR w0 zio_8 rfl ?_
  refine zr_a0 w0 zca_215 (fun v4 => ?_)
  refine zr_bd ?_ (fun b48 h10 M10 w10 => zr_sl (fun e9 => ?_) (fun r => zr_ok w10))
  · refine zr_if ?_ ?_
    · exact zr_ok w0
    · refine zr_gR w0 zio_8 rfl ?_
      refine zr_a0 w0 zca_236 (fun v6 => ?_)
      refine zr_cv w0 zio_8 (r_X8_groundIn w0 v6) (fun v8 h7 M7 w7 => ?_)
      refine zr_if ?_ ?_
      · exact zr_ok w7
      · exact zr_ok w7
  · refine zr_cv w10 zio_8 (r_X8_calls w10 a1 a2) (fun v12 h11 M11 w11 => ?_)
    refine zr_gR w11 zio_8 rfl ?_
    refine zr_a0 w11 zca_237 (fun v14 => ?_)
    refine zr_gR w11 zio_8 rfl ?_
    refine zr_a0 w11 zca_237 (fun v16 => ?_)
    refine zr_cv w11 zio_8 (r_X8_within w11 1 v14 (zmx 1 (v16 / 2))) (fun v18 h17 M17 w17 => ?_)
    refine zr_bd (zr_lp (fun s19 h20 M20 w20 => ?_) 0 h17 M17 w17) (fun e21 h22 M22 w22 => ?_)
    · refine zr_gR w20 zio_8 rfl ?_
      refine zr_a0 w20 zca_215 (fun v24 => ?_)
      refine zr_if ?_ ?_
      · exact zr_ok w20
      · refine zr_gR w20 zio_8 rfl ?_
        refine zr_a0 w20 zca_218 (fun v26 => ?_)
        refine zr_gR w20 zio_8 rfl ?_
        refine zr_a0 w20 zca_236 (fun v28 => ?_)
        refine zr_if ?_ ?_
        · refine zr_gR w20 zio_8 rfl ?_
          refine zr_a0 w20 zca_243 (fun v30 => ?_)
          refine zr_s0 w20 zca_243 (fun h31 M31 w31 => ?_)
          refine zr_gR w31 zio_8 rfl ?_
          refine zr_gR w31 zio_8 rfl ?_
          refine zr_a0 w31 zca_239 (fun v34 => ?_)
          refine zr_bd ?_ (fun e37 h38 M38 w38 => ?_)
          · refine zr_if ?_ ?_
            · exact zr_ok w31
            · refine zr_gR w31 zio_8 rfl ?_
              refine zr_a0 w31 zca_239 (fun v36 => ?_)
              exact zr_ok w31
          · refine zr_a0 w38 zca_244 (fun v39 => ?_)
            refine zr_s0 w38 zca_244 (fun h40 M40 w40 => ?_)
            exact zr_ok w40
        · exact zr_ok w20
    · refine zr_gR w22 zio_8 rfl ?_
      refine zr_a0 w22 zca_237 (fun v42 => ?_)
      refine zr_s0 w22 zca_237 (fun h43 M43 w43 => ?_)
      refine zr_gR w43 zio_8 rfl ?_
      refine zr_a0 w43 zca_237 (fun v45 => ?_)
      refine zr_if ?_ ?_
      · refine zr_gR w43 zio_8 rfl ?_
        refine zr_s0 w43 zca_240 (fun h47 M47 w47 => ?_)
        exact zr_ok w47
      · exact zr_ok w43
def m_X8_doesSee (a1 : Int32) (a2 : Int32) (a3 : Int32) (M0 : zMem) : Option (Int32 × zMem) :=
  zob (mrd M0 241 ((6 * a1) + a2)) (fun v2 =>
  mbd (m_X8_farOf v2 a3 M0) (fun v4 M3 =>
  zob (mrd M3 226 a2) (fun v6 =>
  if v6 < v4 then
  some (0, M3)
  else
  some (1, M3))))
set_option maxRecDepth 100000 in
set_option maxHeartbeats 4000000 in
theorem r_X8_doesSee {B n : Nat} {h0 : zHp} {M0 : zMem} (w0 : zW B n h0 M0) (a1 : Int32) (a2 : Int32) (a3 : Int32) : zRR B n (f_X8_doesSee (B + 213) a1 a2 a3 h0) (m_X8_doesSee a1 a2 a3 M0) := by
  unfold f_X8_doesSee m_X8_doesSee
  refine zr_gR w0 zio_8 rfl ?_
  refine zr_a0 w0 zca_241 (fun v2 => ?_)
  refine zr_bd (r_X8_farOf w0 v2 a3) (fun v4 h3 M3 w3 => ?_)
  refine zr_gR w3 zio_8 rfl ?_
  refine zr_a0 w3 zca_226 (fun v6 => ?_)
  refine zr_if ?_ ?_
  · exact zr_ok w3
  · exact zr_ok w3
def m_X8_ownUp (a1 : Int32) (a2 : Int32) (M0 : zMem) : Option (Int32 × zMem) :=
  mbd (
  mlp (σ := (Int32 × Int32)) (β := (Int32 × Int32)) zLF (fun s1 M2 =>
  zob (mrd M2 215 1) (fun v6 =>
  if v6 ≤ s1.2 then
  some ((.inr (s1.1, s1.2)), M2)
  else
  mbd (m_X8_isUp a1 s1.2 M2) (fun v8 M7 =>
  if v8 = 0 then
  some ((.inl ((s1.1 + 0), (s1.2 + 1))), M7)
  else
  zob (mrd M7 239 ((8 * a1) + s1.2)) (fun v10 =>
  if v10 = a2 then
  some ((.inl ((s1.1 + 1), (s1.2 + 1))), M7)
  else
  some ((.inl ((s1.1 + 0), (s1.2 + 1))), M7))))) (0, 0) M0) (fun e3 M4 =>
  some (e3.1, M4))
set_option maxRecDepth 100000 in
set_option maxHeartbeats 4000000 in
theorem r_X8_ownUp {B n : Nat} {h0 : zHp} {M0 : zMem} (w0 : zW B n h0 M0) (a1 : Int32) (a2 : Int32) : zRR B n (f_X8_ownUp (B + 213) a1 a2 h0) (m_X8_ownUp a1 a2 M0) := by
  unfold f_X8_ownUp m_X8_ownUp
  refine zr_bd (zr_lp (fun s1 h2 M2 w2 => ?_) (0, 0) h0 M0 w0) (fun e3 h4 M4 w4 => ?_)
  · refine zr_gR w2 zio_8 rfl ?_
    refine zr_a0 w2 zca_215 (fun v6 => ?_)
    refine zr_if ?_ ?_
    · exact zr_ok w2
    · refine zr_cv w2 zio_8 (r_X8_isUp w2 a1 s1.2) (fun v8 h7 M7 w7 => ?_)
      refine zr_if ?_ ?_
      · exact zr_ok w7
      · refine zr_gR w7 zio_8 rfl ?_
        refine zr_a0 w7 zca_239 (fun v10 => ?_)
        refine zr_if ?_ ?_
        · exact zr_ok w7
        · exact zr_ok w7
  · exact zr_ok w4
def m_X8_isGiven (a1 : Int32) (a2 : Int32) (M0 : zMem) : Option (Unit × zMem) :=
  mbd (
  mlp (σ := (Int32 × Int32)) (β := (Int32 × Int32)) zLF (fun s1 M2 =>
  zob (mrd M2 215 2) (fun v6 =>
  if v6 ≤ s1.2 then
  some ((.inr (s1.1, s1.2)), M2)
  else
  zob (mrd M2 236 ((8 * a1) + a2)) (fun v8 =>
  mbd (m_X8_doesSee a1 s1.2 v8 M2) (fun v10 M9 =>
  if v10 = 0 then
  some ((.inl (s1.1, (s1.2 + 1))), M9)
  else
  mbd (m_X8_ownUp a1 s1.2 M9) (fun v12 M11 =>
  zob (mrd M11 215 5) (fun v14 =>
  if v12 < v14 then
  if s1.1 = (-1) then
  some ((.inl (s1.2, (s1.2 + 1))), M11)
  else
  mbd (m_X8_ownUp a1 s1.2 M11) (fun v16 M15 =>
  mbd (m_X8_ownUp a1 s1.1 M15) (fun v18 M17 =>
  if v18 ≤ v16 then
  some ((.inl (s1.1, (s1.2 + 1))), M17)
  else
  some ((.inl (s1.2, (s1.2 + 1))), M17)))
  else
  some ((.inl (s1.1, (s1.2 + 1))), M11))))))) ((-1), 0) M0) (fun e3 M4 =>
  zob (mwr M4 239 ((8 * a1) + a2) e3.1) (fun M20 =>
  some ((), M20)))
set_option maxRecDepth 100000 in
set_option maxHeartbeats 4000000 in
theorem r_X8_isGiven {B n : Nat} {h0 : zHp} {M0 : zMem} (w0 : zW B n h0 M0) (a1 : Int32) (a2 : Int32) : zRR B n (f_X8_isGiven (B + 213) a1 a2 h0) (m_X8_isGiven a1 a2 M0) := by
  unfold f_X8_isGiven m_X8_isGiven
  refine zr_bd (zr_lp (fun s1 h2 M2 w2 => ?_) ((-1), 0) h0 M0 w0) (fun e3 h4 M4 w4 => ?_)
  · refine zr_gR w2 zio_8 rfl ?_
    refine zr_a0 w2 zca_215 (fun v6 => ?_)
    refine zr_if ?_ ?_
    · exact zr_ok w2
    · refine zr_gR w2 zio_8 rfl ?_
      refine zr_a0 w2 zca_236 (fun v8 => ?_)
      refine zr_cv w2 zio_8 (r_X8_doesSee w2 a1 s1.2 v8) (fun v10 h9 M9 w9 => ?_)
      refine zr_if ?_ ?_
      · exact zr_ok w9
      · refine zr_cv w9 zio_8 (r_X8_ownUp w9 a1 s1.2) (fun v12 h11 M11 w11 => ?_)
        refine zr_gR w11 zio_8 rfl ?_
        refine zr_a0 w11 zca_215 (fun v14 => ?_)
        refine zr_if ?_ ?_
        · refine zr_if ?_ ?_
          · exact zr_ok w11
          · refine zr_cv w11 zio_8 (r_X8_ownUp w11 a1 s1.2) (fun v16 h15 M15 w15 => ?_)
            refine zr_cv w15 zio_8 (r_X8_ownUp w15 a1 s1.1) (fun v18 h17 M17 w17 => ?_)
            refine zr_if ?_ ?_
            · exact zr_ok w17
            · exact zr_ok w17
        · exact zr_ok w11
  · refine zr_gR w4 zio_8 rfl ?_
    refine zr_s0 w4 zca_239 (fun h20 M20 w20 => ?_)
    exact zr_ok w20
def m_X8_joins (a1 : Int32) (M0 : zMem) : Option (Unit × zMem) :=
  mbd (
  mlp (σ := Int32) (β := Int32) zLF (fun s1 M2 =>
  zob (mrd M2 215 1) (fun v6 =>
  if v6 ≤ s1 then
  some ((.inr s1), M2)
  else
  if (M2.1 213 49) = 4 then
  some ((.inr s1), M2)
  else
  mbd (
  mlp (σ := Int32) (β := Int32) zLF (fun s8 M9 =>
  zob (mrd M9 215 1) (fun v13 =>
  if v13 ≤ s8 then
  some ((.inr s8), M9)
  else
  mbd (m_X8_isUp a1 s1 M9) (fun v15 M14 =>
  if v15 = 0 then
  some ((.inl (s8 + 1)), M14)
  else
  mbd (m_X8_isUp a1 s8 M14) (fun v17 M16 =>
  if v17 = 0 then
  some ((.inl (s8 + 1)), M16)
  else
  zob (mrd M16 236 ((8 * a1) + s1)) (fun v19 =>
  zob (mrd M16 236 ((8 * a1) + s8)) (fun v21 =>
  if v19 = v21 then
  zob (mrd M16 237 ((8 * a1) + s1)) (fun v23 =>
  zob (mrd M16 237 ((8 * a1) + s8)) (fun v25 =>
  zob (mrd M16 237 ((8 * a1) + s1)) (fun v27 =>
  zob (mrd M16 237 ((8 * a1) + s8)) (fun v29 =>
  mbd (α := Int32) (
  if v27 < v29 then
  some (0, M16)
  else
  some (1, M16)) (fun e30 M31 =>
  mbd (α := Int32) (
  if e30 = 0 then
  some (((8 * a1) + s8), M31)
  else
  some (((8 * a1) + s1), M31)) (fun e33 M34 =>
  zob (mwr M34 237 e33 (zmn 20 (v23 + v25))) (fun M35 =>
  mbd (α := Int32) (
  if e30 = 0 then
  some (((8 * a1) + s1), M35)
  else
  some (((8 * a1) + s8), M35)) (fun e37 M38 =>
  zob (mwr M38 240 e37 3) (fun M39 =>
  some ((.inl (s8 + 1)), M39))))))))))
  else
  some ((.inl (s8 + 1)), M16))))))) (s1 + 1) M2) (fun e10 M11 =>
  some ((.inl (s1 + 1)), M11)))) 0 M0) (fun e3 M4 =>
  some ((), M4))
set_option maxRecDepth 100000 in
set_option maxHeartbeats 4000000 in
theorem r_X8_joins {B n : Nat} {h0 : zHp} {M0 : zMem} (w0 : zW B n h0 M0) (a1 : Int32) : zRR B n (f_X8_joins (B + 213) a1 h0) (m_X8_joins a1 M0) := by
  unfold f_X8_joins m_X8_joins
  refine zr_bd (zr_lp (fun s1 h2 M2 w2 => ?_) 0 h0 M0 w0) (fun e3 h4 M4 w4 => ?_)
  · refine zr_gR w2 zio_8 rfl ?_
    refine zr_a0 w2 zca_215 (fun v6 => ?_)
    refine zr_if ?_ ?_
    · exact zr_ok w2
    · refine zr_gI w2 zio_8 rfl ?_
      refine zr_if ?_ ?_
      · exact zr_ok w2
      · refine zr_bd (zr_lp (fun s8 h9 M9 w9 => ?_) (s1 + 1) h2 M2 w2) (fun e10 h11 M11 w11 => ?_)
        · refine zr_gR w9 zio_8 rfl ?_
          refine zr_a0 w9 zca_215 (fun v13 => ?_)
          refine zr_if ?_ ?_
          · exact zr_ok w9
          · refine zr_cv w9 zio_8 (r_X8_isUp w9 a1 s1) (fun v15 h14 M14 w14 => ?_)
            refine zr_if ?_ ?_
            · exact zr_ok w14
            · refine zr_cv w14 zio_8 (r_X8_isUp w14 a1 s8) (fun v17 h16 M16 w16 => ?_)
              refine zr_if ?_ ?_
              · exact zr_ok w16
              · refine zr_gR w16 zio_8 rfl ?_
                refine zr_a0 w16 zca_236 (fun v19 => ?_)
                refine zr_gR w16 zio_8 rfl ?_
                refine zr_a0 w16 zca_236 (fun v21 => ?_)
                refine zr_if ?_ ?_
                · refine zr_gR w16 zio_8 rfl ?_
                  refine zr_a0 w16 zca_237 (fun v23 => ?_)
                  refine zr_gR w16 zio_8 rfl ?_
                  refine zr_a0 w16 zca_237 (fun v25 => ?_)
                  refine zr_gR w16 zio_8 rfl ?_
                  refine zr_a0 w16 zca_237 (fun v27 => ?_)
                  refine zr_gR w16 zio_8 rfl ?_
                  refine zr_a0 w16 zca_237 (fun v29 => ?_)
                  refine zr_bd ?_ (fun e30 h31 M31 w31 => ?_)
                  · refine zr_if ?_ ?_
                    · exact zr_ok w16
                    · exact zr_ok w16
                  · refine zr_gR w31 zio_8 rfl ?_
                    refine zr_bd ?_ (fun e33 h34 M34 w34 => ?_)
                    · refine zr_if ?_ ?_
                      · exact zr_ok w31
                      · exact zr_ok w31
                    · refine zr_s0 w34 zca_237 (fun h35 M35 w35 => ?_)
                      refine zr_gR w35 zio_8 rfl ?_
                      refine zr_bd ?_ (fun e37 h38 M38 w38 => ?_)
                      · refine zr_if ?_ ?_
                        · exact zr_ok w35
                        · exact zr_ok w35
                      · refine zr_s0 w38 zca_240 (fun h39 M39 w39 => ?_)
                        exact zr_ok w39
                · exact zr_ok w16
        · exact zr_ok w11
  · exact zr_ok w4
def m_X8_marks (a1 : Int32) (M0 : zMem) : Option (Unit × zMem) :=
  mbd (
  mlp (σ := Int32) (β := Int32) zLF (fun s1 M2 =>
  zob (mrd M2 215 2) (fun v6 =>
  if v6 ≤ s1 then
  some ((.inr s1), M2)
  else
  mbd (
  mlp (σ := Int32) (β := Int32) zLF (fun s7 M8 =>
  zob (mrd M8 215 1) (fun v12 =>
  if v12 ≤ s7 then
  some ((.inr s7), M8)
  else
  mbd (m_X8_isUp a1 s7 M8) (fun v14 M13 =>
  if v14 = 0 then
  some ((.inl (s7 + 1)), M13)
  else
  zob (mrd M13 239 ((8 * a1) + s7)) (fun v16 =>
  if v16 = s1 then
  mbd (m_X8_calls a1 s7 M13) (fun v18 M17 =>
  zob (mrd M17 242 ((6 * a1) + s1)) (fun v20 =>
  zob (mrd M17 236 ((8 * a1) + s7)) (fun v22 =>
  mbd (m_X8_doesSee a1 s1 v22 M17) (fun v24 M23 =>
  mbd (α := Int32) (
  if v24 = 0 then
  some (0, M23)
  else
  some (1, M23)) (fun e25 M26 =>
  mbd (m_X8_within 2 9 e25 M26) (fun v28 M27 =>
  zob (mwr M27 242 ((6 * a1) + s1) (v20 + v28)) (fun M29 =>
  some ((.inl (s7 + 1)), M29))))))))
  else
  some ((.inl (s7 + 1)), M13))))) 0 M2) (fun e9 M10 =>
  some ((.inl (s1 + 1)), M10)))) 0 M0) (fun e3 M4 =>
  some ((), M4))
set_option maxRecDepth 100000 in
set_option maxHeartbeats 4000000 in
theorem r_X8_marks {B n : Nat} {h0 : zHp} {M0 : zMem} (w0 : zW B n h0 M0) (a1 : Int32) : zRR B n (f_X8_marks (B + 213) a1 h0) (m_X8_marks a1 M0) := by
  unfold f_X8_marks m_X8_marks
  refine zr_bd (zr_lp (fun s1 h2 M2 w2 => ?_) 0 h0 M0 w0) (fun e3 h4 M4 w4 => ?_)
  · refine zr_gR w2 zio_8 rfl ?_
    refine zr_a0 w2 zca_215 (fun v6 => ?_)
    refine zr_if ?_ ?_
    · exact zr_ok w2
    · refine zr_bd (zr_lp (fun s7 h8 M8 w8 => ?_) 0 h2 M2 w2) (fun e9 h10 M10 w10 => ?_)
      · refine zr_gR w8 zio_8 rfl ?_
        refine zr_a0 w8 zca_215 (fun v12 => ?_)
        refine zr_if ?_ ?_
        · exact zr_ok w8
        · refine zr_cv w8 zio_8 (r_X8_isUp w8 a1 s7) (fun v14 h13 M13 w13 => ?_)
          refine zr_if ?_ ?_
          · exact zr_ok w13
          · refine zr_gR w13 zio_8 rfl ?_
            refine zr_a0 w13 zca_239 (fun v16 => ?_)
            refine zr_if ?_ ?_
            · refine zr_cv w13 zio_8 (r_X8_calls w13 a1 s7) (fun v18 h17 M17 w17 => ?_)
              refine zr_gR w17 zio_8 rfl ?_
              refine zr_a0 w17 zca_242 (fun v20 => ?_)
              refine zr_gR w17 zio_8 rfl ?_
              refine zr_a0 w17 zca_236 (fun v22 => ?_)
              refine zr_cv w17 zio_8 (r_X8_doesSee w17 a1 s1 v22) (fun v24 h23 M23 w23 => ?_)
              refine zr_bd ?_ (fun e25 h26 M26 w26 => ?_)
              · refine zr_if ?_ ?_
                · exact zr_ok w23
                · exact zr_ok w23
              · refine zr_cv w26 zio_8 (r_X8_within w26 2 9 e25) (fun v28 h27 M27 w27 => ?_)
                refine zr_s0 w27 zca_242 (fun h29 M29 w29 => ?_)
                exact zr_ok w29
            · exact zr_ok w13
      · exact zr_ok w10
  · exact zr_ok w4
def m_X8_windIn (a1 : Int32) (M0 : zMem) : Option (Int32 × zMem) :=
  if (M0.1 213 49) = 1 then
  some (0, M0)
  else
  if (M0.1 213 51) = (-1) then
  zob (mrd M0 235 a1) (fun v4 =>
  if v4 = (-1) then
  zob (mrd M0 215 3) (fun v6 =>
  if v6 = 0 then
  some (0, M0)
  else
  zob (mrd M0 234 a1) (fun v9 =>
  zob (mrd M0 215 3) (fun v11 =>
  zob (zrp v9 v11) (fun v12 =>
  zob (mrd M0 227 v12) (fun v13 =>
  some (v13, M0))))))
  else
  zob (mrd M0 235 a1) (fun v15 =>
  some (v15, M0)))
  else
  some ((M0.1 213 51), M0)
set_option maxRecDepth 100000 in
set_option maxHeartbeats 4000000 in
theorem r_X8_windIn {B n : Nat} {h0 : zHp} {M0 : zMem} (w0 : zW B n h0 M0) (a1 : Int32) : zRR B n (f_X8_windIn (B + 213) a1 h0) (m_X8_windIn a1 M0) := by
  unfold f_X8_windIn m_X8_windIn
  refine zr_gI w0 zio_8 rfl ?_
  refine zr_if ?_ ?_
  · exact zr_ok w0
  · refine zr_gI w0 zio_8 rfl ?_
    refine zr_if ?_ ?_
    · refine zr_gR w0 zio_8 rfl ?_
      refine zr_a0 w0 zca_235 (fun v4 => ?_)
      refine zr_if ?_ ?_
      · refine zr_gR w0 zio_8 rfl ?_
        refine zr_a0 w0 zca_215 (fun v6 => ?_)
        refine zr_if ?_ ?_
        · exact zr_ok w0
        · refine zr_gR w0 zio_8 rfl ?_
          refine zr_gR w0 zio_8 rfl ?_
          refine zr_a0 w0 zca_234 (fun v9 => ?_)
          refine zr_gR w0 zio_8 rfl ?_
          refine zr_a0 w0 zca_215 (fun v11 => ?_)
          refine zr_obp (fun v12 => ?_)
          refine zr_a0 w0 zca_227 (fun v13 => ?_)
          exact zr_ok w0
      · refine zr_gR w0 zio_8 rfl ?_
        refine zr_a0 w0 zca_235 (fun v15 => ?_)
        exact zr_ok w0
    · refine zr_gI w0 zio_8 rfl ?_
      exact zr_ok w0
def m_X8_passes (a1 : Int32) (M0 : zMem) : Option (Unit × zMem) :=
  mbd (m_X8_windIn a1 M0) (fun v2 M1 =>
  mbd (
  mlp (σ := Int32) (β := Int32) zLF (fun s3 M4 =>
  zob (mrd M4 215 1) (fun v8 =>
  if v8 ≤ s3 then
  some ((.inr s3), M4)
  else
  zob (mrd M4 223 s3) (fun v10 =>
  zob (mrd M4 234 a1) (fun v12 =>
  mbd (α := Unit) (
  if v10 = v12 then
  zob (mrd M4 240 ((8 * a1) + s3)) (fun v14 =>
  if v14 = 0 then
  zob (mwr M4 240 ((8 * a1) + s3) 1) (fun M16 =>
  some ((), M16))
  else
  some ((), M4))
  else
  some ((), M4)) (fun e17 M18 =>
  mbd (m_X8_isUp a1 s3 M18) (fun v20 M19 =>
  if v20 = 0 then
  some ((.inl (s3 + 1)), M19)
  else
  if v2 ≤ 0 then
  some ((.inl (s3 + 1)), M19)
  else
  mbd (m_X8_drifts a1 s3 v2 M19) (fun v22 M21 =>
  some ((.inl (s3 + 1)), M21)))))))) 0 M1) (fun e5 M6 =>
  mbd (
  mlp (σ := Int32) (β := Int32) zLF (fun s23 M24 =>
  zob (mrd M24 215 1) (fun v28 =>
  if v28 ≤ s23 then
  some ((.inr s23), M24)
  else
  mbd (m_X8_isUp a1 s23 M24) (fun v30 M29 =>
  if v30 = 0 then
  some ((.inl (s23 + 1)), M29)
  else
  mbd (m_X8_calls a1 s23 M29) (fun v32 M31 =>
  zob (mrd M31 237 ((8 * a1) + s23)) (fun v35 =>
  zob (mrd M31 236 ((8 * a1) + s23)) (fun v37 =>
  mbd (m_X8_groundIn v37 M31) (fun v39 M38 =>
  mbd (α := Int32) (
  if v39 = 1 then
  some (1, M38)
  else
  some (0, M38)) (fun e40 M41 =>
  mbd (m_X8_within 0 9 e40 M41) (fun v43 M42 =>
  zob (mwr M42 237 ((8 * a1) + s23) (zmn 20 (v35 + v43))) (fun M44 =>
  some ((.inl (s23 + 1)), M44))))))))))) 0 M6) (fun e25 M26 =>
  mbd (m_X8_joins a1 M26) (fun v46 M45 =>
  mbd (
  mlp (σ := Int32) (β := Int32) zLF (fun s47 M48 =>
  zob (mrd M48 215 1) (fun v52 =>
  if v52 ≤ s47 then
  some ((.inr s47), M48)
  else
  mbd (m_X8_isUp a1 s47 M48) (fun v54 M53 =>
  if v54 = 0 then
  some ((.inl (s47 + 1)), M53)
  else
  mbd (m_X8_falls a1 s47 M53) (fun v56 M55 =>
  some ((.inl (s47 + 1)), M55))))) 0 M45) (fun e49 M50 =>
  mbd (
  mlp (σ := Int32) (β := Int32) zLF (fun s57 M58 =>
  zob (mrd M58 215 1) (fun v62 =>
  if v62 ≤ s57 then
  some ((.inr s57), M58)
  else
  mbd (m_X8_isUp a1 s57 M58) (fun v64 M63 =>
  if v64 = 0 then
  some ((.inl (s57 + 1)), M63)
  else
  zob (mrd M63 239 ((8 * a1) + s57)) (fun v66 =>
  if v66 = (-1) then
  mbd (m_X8_isGiven a1 s57 M63) (fun v68 M67 =>
  some ((.inl (s57 + 1)), M67))
  else
  some ((.inl (s57 + 1)), M63))))) 0 M50) (fun e59 M60 =>
  mbd (m_X8_marks a1 M60) (fun v70 M69 =>
  mbd (
  mlp (σ := Int32) (β := Int32) zLF (fun s71 M72 =>
  zob (mrd M72 215 1) (fun v76 =>
  if v76 ≤ s71 then
  some ((.inr s71), M72)
  else
  mbd (m_X8_isUp a1 s71 M72) (fun v78 M77 =>
  if v78 = 0 then
  some ((.inl (s71 + 1)), M77)
  else
  zob (mrd M77 238 ((8 * a1) + s71)) (fun v80 =>
  zob (mwr M77 238 ((8 * a1) + s71) (v80 + 1)) (fun M81 =>
  some ((.inl (s71 + 1)), M81)))))) 0 M69) (fun e73 M74 =>
  zob (mrd M74 234 a1) (fun v83 =>
  zob (mwr M74 234 a1 (v83 + 1)) (fun M84 =>
  some ((), M84)))))))))))
set_option maxRecDepth 100000 in
set_option maxHeartbeats 4000000 in
theorem r_X8_passes {B n : Nat} {h0 : zHp} {M0 : zMem} (w0 : zW B n h0 M0) (a1 : Int32) : zRR B n (f_X8_passes (B + 213) a1 h0) (m_X8_passes a1 M0) := by
  unfold f_X8_passes m_X8_passes
  refine zr_cv w0 zio_8 (r_X8_windIn w0 a1) (fun v2 h1 M1 w1 => ?_)
  refine zr_bd (zr_lp (fun s3 h4 M4 w4 => ?_) 0 h1 M1 w1) (fun e5 h6 M6 w6 => ?_)
  · refine zr_gR w4 zio_8 rfl ?_
    refine zr_a0 w4 zca_215 (fun v8 => ?_)
    refine zr_if ?_ ?_
    · exact zr_ok w4
    · refine zr_gR w4 zio_8 rfl ?_
      refine zr_a0 w4 zca_223 (fun v10 => ?_)
      refine zr_gR w4 zio_8 rfl ?_
      refine zr_a0 w4 zca_234 (fun v12 => ?_)
      refine zr_bd ?_ (fun e17 h18 M18 w18 => ?_)
      · refine zr_if ?_ ?_
        · refine zr_gR w4 zio_8 rfl ?_
          refine zr_a0 w4 zca_240 (fun v14 => ?_)
          refine zr_if ?_ ?_
          · refine zr_gR w4 zio_8 rfl ?_
            refine zr_s0 w4 zca_240 (fun h16 M16 w16 => ?_)
            exact zr_ok w16
          · exact zr_ok w4
        · exact zr_ok w4
      · refine zr_cv w18 zio_8 (r_X8_isUp w18 a1 s3) (fun v20 h19 M19 w19 => ?_)
        refine zr_if ?_ ?_
        · exact zr_ok w19
        · refine zr_if ?_ ?_
          · exact zr_ok w19
          · refine zr_cv w19 zio_8 (r_X8_drifts w19 a1 s3 v2) (fun v22 h21 M21 w21 => ?_)
            exact zr_ok w21
  · refine zr_bd (zr_lp (fun s23 h24 M24 w24 => ?_) 0 h6 M6 w6) (fun e25 h26 M26 w26 => ?_)
    · refine zr_gR w24 zio_8 rfl ?_
      refine zr_a0 w24 zca_215 (fun v28 => ?_)
      refine zr_if ?_ ?_
      · exact zr_ok w24
      · refine zr_cv w24 zio_8 (r_X8_isUp w24 a1 s23) (fun v30 h29 M29 w29 => ?_)
        refine zr_if ?_ ?_
        · exact zr_ok w29
        · refine zr_cv w29 zio_8 (r_X8_calls w29 a1 s23) (fun v32 h31 M31 w31 => ?_)
          refine zr_gR w31 zio_8 rfl ?_
          refine zr_gR w31 zio_8 rfl ?_
          refine zr_a0 w31 zca_237 (fun v35 => ?_)
          refine zr_gR w31 zio_8 rfl ?_
          refine zr_a0 w31 zca_236 (fun v37 => ?_)
          refine zr_cv w31 zio_8 (r_X8_groundIn w31 v37) (fun v39 h38 M38 w38 => ?_)
          refine zr_bd ?_ (fun e40 h41 M41 w41 => ?_)
          · refine zr_if ?_ ?_
            · exact zr_ok w38
            · exact zr_ok w38
          · refine zr_cv w41 zio_8 (r_X8_within w41 0 9 e40) (fun v43 h42 M42 w42 => ?_)
            refine zr_s0 w42 zca_237 (fun h44 M44 w44 => ?_)
            exact zr_ok w44
    · refine zr_cv w26 zio_8 (r_X8_joins w26 a1) (fun v46 h45 M45 w45 => ?_)
      refine zr_bd (zr_lp (fun s47 h48 M48 w48 => ?_) 0 h45 M45 w45) (fun e49 h50 M50 w50 => ?_)
      · refine zr_gR w48 zio_8 rfl ?_
        refine zr_a0 w48 zca_215 (fun v52 => ?_)
        refine zr_if ?_ ?_
        · exact zr_ok w48
        · refine zr_cv w48 zio_8 (r_X8_isUp w48 a1 s47) (fun v54 h53 M53 w53 => ?_)
          refine zr_if ?_ ?_
          · exact zr_ok w53
          · refine zr_cv w53 zio_8 (r_X8_falls w53 a1 s47) (fun v56 h55 M55 w55 => ?_)
            exact zr_ok w55
      · refine zr_bd (zr_lp (fun s57 h58 M58 w58 => ?_) 0 h50 M50 w50) (fun e59 h60 M60 w60 => ?_)
        · refine zr_gR w58 zio_8 rfl ?_
          refine zr_a0 w58 zca_215 (fun v62 => ?_)
          refine zr_if ?_ ?_
          · exact zr_ok w58
          · refine zr_cv w58 zio_8 (r_X8_isUp w58 a1 s57) (fun v64 h63 M63 w63 => ?_)
            refine zr_if ?_ ?_
            · exact zr_ok w63
            · refine zr_gR w63 zio_8 rfl ?_
              refine zr_a0 w63 zca_239 (fun v66 => ?_)
              refine zr_if ?_ ?_
              · refine zr_cv w63 zio_8 (r_X8_isGiven w63 a1 s57) (fun v68 h67 M67 w67 => ?_)
                exact zr_ok w67
              · exact zr_ok w63
        · refine zr_cv w60 zio_8 (r_X8_marks w60 a1) (fun v70 h69 M69 w69 => ?_)
          refine zr_bd (zr_lp (fun s71 h72 M72 w72 => ?_) 0 h69 M69 w69) (fun e73 h74 M74 w74 => ?_)
          · refine zr_gR w72 zio_8 rfl ?_
            refine zr_a0 w72 zca_215 (fun v76 => ?_)
            refine zr_if ?_ ?_
            · exact zr_ok w72
            · refine zr_cv w72 zio_8 (r_X8_isUp w72 a1 s71) (fun v78 h77 M77 w77 => ?_)
              refine zr_if ?_ ?_
              · exact zr_ok w77
              · refine zr_gR w77 zio_8 rfl ?_
                refine zr_a0 w77 zca_238 (fun v80 => ?_)
                refine zr_s0 w77 zca_238 (fun h81 M81 w81 => ?_)
                exact zr_ok w81
          · refine zr_gR w74 zio_8 rfl ?_
            refine zr_a0 w74 zca_234 (fun v83 => ?_)
            refine zr_s0 w74 zca_234 (fun h84 M84 w84 => ?_)
            exact zr_ok w84

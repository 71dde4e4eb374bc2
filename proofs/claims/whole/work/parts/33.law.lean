def m_L_0 (L : Nat) (xs : Nat → Int32) (i : Int32) (M0 : zMem) : Option ((Unit ⊕ Int32) × zMem) :=
  zob (zsc L xs (i + 1)) (fun v1 =>
  zob (zsc L xs (i + 2)) (fun v2 =>
  zob (zsc L xs (i + 3)) (fun v3 =>
  zob (zsc L xs (i + 4)) (fun v4 =>
  zob (zsc L xs (i + 5)) (fun v5 =>
  mbd (m_X7_feed v1 v2 v3 v4 v5 M0) (fun v7 M6 =>
  zob (zsc L xs (i + 1)) (fun v8 =>
  zob (zsc L xs (i + 2)) (fun v9 =>
  zob (zsc L xs (i + 3)) (fun v10 =>
  zob (zsc L xs (i + 4)) (fun v11 =>
  zob (zsc L xs (i + 5)) (fun v12 =>
  mbd (m_X8_feed v8 v9 v10 v11 v12 M6) (fun v14 M13 =>
  if v7 = v14 then
  some ((.inl ()), M13)
  else
  some ((.inr 0), M13)))))))))))))
set_option maxRecDepth 100000 in
set_option maxHeartbeats 4000000 in
theorem r_L_0 {B n : Nat} {h0 : zHp} {M0 : zMem} (w0 : zW B n h0 M0) (L : Nat) (xs : Nat → Int32) (i : Int32) : zRR B n (f_L_0 L xs (B + 0) (B + 213) (B + 254) i h0) (m_L_0 L xs i M0) := by
  unfold f_L_0 m_L_0
  refine zr_obp (fun v1 => ?_)
  refine zr_obp (fun v2 => ?_)
  refine zr_obp (fun v3 => ?_)
  refine zr_obp (fun v4 => ?_)
  refine zr_obp (fun v5 => ?_)
  refine zr_cv w0 zio_7 (r_X7_feed w0 v1 v2 v3 v4 v5) (fun v7 h6 M6 w6 => ?_)
  refine zr_obp (fun v8 => ?_)
  refine zr_obp (fun v9 => ?_)
  refine zr_obp (fun v10 => ?_)
  refine zr_obp (fun v11 => ?_)
  refine zr_obp (fun v12 => ?_)
  refine zr_cv w6 zio_8 (r_X8_feed w6 v8 v9 v10 v11 v12) (fun v14 h13 M13 w13 => ?_)
  refine zr_if ?_ ?_
  · exact zr_ok w13
  · exact zr_ok w13
def m_L_1 (L : Nat) (xs : Nat → Int32) (i : Int32) (M0 : zMem) : Option ((Unit ⊕ Int32) × zMem) :=
  zob (zsc L xs (i + 1)) (fun v1 =>
  mbd (m_X7_text v1 M0) (fun v3 M2 =>
  zob (zsc L xs (i + 1)) (fun v4 =>
  mbd (m_X8_text v4 M2) (fun v6 M5 =>
  if v3 = v6 then
  some ((.inl ()), M5)
  else
  some ((.inr 0), M5)))))
set_option maxRecDepth 100000 in
set_option maxHeartbeats 4000000 in
theorem r_L_1 {B n : Nat} {h0 : zHp} {M0 : zMem} (w0 : zW B n h0 M0) (L : Nat) (xs : Nat → Int32) (i : Int32) : zRR B n (f_L_1 L xs (B + 0) (B + 213) (B + 254) i h0) (m_L_1 L xs i M0) := by
  unfold f_L_1 m_L_1
  refine zr_obp (fun v1 => ?_)
  refine zr_cv w0 zio_7 (r_X7_text w0 v1) (fun v3 h2 M2 w2 => ?_)
  refine zr_obp (fun v4 => ?_)
  refine zr_cv w2 zio_8 (r_X8_text w2 v4) (fun v6 h5 M5 w5 => ?_)
  refine zr_if ?_ ?_
  · exact zr_ok w5
  · exact zr_ok w5
def m_L_2 (L : Nat) (xs : Nat → Int32) (i : Int32) (M0 : zMem) : Option ((Unit ⊕ Int32) × zMem) :=
  zob (zsc L xs (i + 1)) (fun v1 =>
  mbd (m_X7_fault v1 M0) (fun v3 M2 =>
  zob (zsc L xs (i + 1)) (fun v4 =>
  mbd (m_X8_fault v4 M2) (fun v6 M5 =>
  if v3 = v6 then
  some ((.inl ()), M5)
  else
  some ((.inr 0), M5)))))
set_option maxRecDepth 100000 in
set_option maxHeartbeats 4000000 in
theorem r_L_2 {B n : Nat} {h0 : zHp} {M0 : zMem} (w0 : zW B n h0 M0) (L : Nat) (xs : Nat → Int32) (i : Int32) : zRR B n (f_L_2 L xs (B + 0) (B + 213) (B + 254) i h0) (m_L_2 L xs i M0) := by
  unfold f_L_2 m_L_2
  refine zr_obp (fun v1 => ?_)
  refine zr_cv w0 zio_7 (r_X7_fault w0 v1) (fun v3 h2 M2 w2 => ?_)
  refine zr_obp (fun v4 => ?_)
  refine zr_cv w2 zio_8 (r_X8_fault w2 v4) (fun v6 h5 M5 w5 => ?_)
  refine zr_if ?_ ?_
  · exact zr_ok w5
  · exact zr_ok w5
def m_L_3 (L : Nat) (xs : Nat → Int32) (i : Int32) (M0 : zMem) : Option ((Unit ⊕ Int32) × zMem) :=
  zob (zsc L xs (i + 1)) (fun v1 =>
  zob (zsc L xs (i + 2)) (fun v2 =>
  mbd (m_X7_named v1 v2 M0) (fun v4 M3 =>
  zob (zsc L xs (i + 1)) (fun v5 =>
  zob (zsc L xs (i + 2)) (fun v6 =>
  mbd (m_X8_named v5 v6 M3) (fun v8 M7 =>
  if v4 = v8 then
  some ((.inl ()), M7)
  else
  some ((.inr 0), M7)))))))
set_option maxRecDepth 100000 in
set_option maxHeartbeats 4000000 in
theorem r_L_3 {B n : Nat} {h0 : zHp} {M0 : zMem} (w0 : zW B n h0 M0) (L : Nat) (xs : Nat → Int32) (i : Int32) : zRR B n (f_L_3 L xs (B + 0) (B + 213) (B + 254) i h0) (m_L_3 L xs i M0) := by
  unfold f_L_3 m_L_3
  refine zr_obp (fun v1 => ?_)
  refine zr_obp (fun v2 => ?_)
  refine zr_cv w0 zio_7 (r_X7_named w0 v1 v2) (fun v4 h3 M3 w3 => ?_)
  refine zr_obp (fun v5 => ?_)
  refine zr_obp (fun v6 => ?_)
  refine zr_cv w3 zio_8 (r_X8_named w3 v5 v6) (fun v8 h7 M7 w7 => ?_)
  refine zr_if ?_ ?_
  · exact zr_ok w7
  · exact zr_ok w7
def m_L_5 (L : Nat) (xs : Nat → Int32) (i : Int32) (M0 : zMem) : Option ((Unit ⊕ Int32) × zMem) :=
  zob (zsc L xs (i + 1)) (fun v1 =>
  zob (zsc L xs (i + 2)) (fun v2 =>
  mbd (m_X7_child v1 v2 M0) (fun v4 M3 =>
  zob (zsc L xs (i + 1)) (fun v5 =>
  zob (zsc L xs (i + 2)) (fun v6 =>
  mbd (m_X8_child v5 v6 M3) (fun v8 M7 =>
  if v4 = v8 then
  some ((.inl ()), M7)
  else
  some ((.inr 0), M7)))))))
set_option maxRecDepth 100000 in
set_option maxHeartbeats 4000000 in
theorem r_L_5 {B n : Nat} {h0 : zHp} {M0 : zMem} (w0 : zW B n h0 M0) (L : Nat) (xs : Nat → Int32) (i : Int32) : zRR B n (f_L_5 L xs (B + 0) (B + 213) (B + 254) i h0) (m_L_5 L xs i M0) := by
  unfold f_L_5 m_L_5
  refine zr_obp (fun v1 => ?_)
  refine zr_obp (fun v2 => ?_)
  refine zr_cv w0 zio_7 (r_X7_child w0 v1 v2) (fun v4 h3 M3 w3 => ?_)
  refine zr_obp (fun v5 => ?_)
  refine zr_obp (fun v6 => ?_)
  refine zr_cv w3 zio_8 (r_X8_child w3 v5 v6) (fun v8 h7 M7 w7 => ?_)
  refine zr_if ?_ ?_
  · exact zr_ok w7
  · exact zr_ok w7
def m_L_6 (L : Nat) (xs : Nat → Int32) (i : Int32) (M0 : zMem) : Option ((Unit ⊕ Int32) × zMem) :=
  zob (zsc L xs (i + 1)) (fun v1 =>
  zob (zsc L xs (i + 2)) (fun v2 =>
  mbd (m_X7_field v1 v2 M0) (fun v4 M3 =>
  zob (zsc L xs (i + 1)) (fun v5 =>
  zob (zsc L xs (i + 2)) (fun v6 =>
  mbd (m_X8_field v5 v6 M3) (fun v8 M7 =>
  if v4 = v8 then
  some ((.inl ()), M7)
  else
  some ((.inr 0), M7)))))))
set_option maxRecDepth 100000 in
set_option maxHeartbeats 4000000 in
theorem r_L_6 {B n : Nat} {h0 : zHp} {M0 : zMem} (w0 : zW B n h0 M0) (L : Nat) (xs : Nat → Int32) (i : Int32) : zRR B n (f_L_6 L xs (B + 0) (B + 213) (B + 254) i h0) (m_L_6 L xs i M0) := by
  unfold f_L_6 m_L_6
  refine zr_obp (fun v1 => ?_)
  refine zr_obp (fun v2 => ?_)
  refine zr_cv w0 zio_7 (r_X7_field w0 v1 v2) (fun v4 h3 M3 w3 => ?_)
  refine zr_obp (fun v5 => ?_)
  refine zr_obp (fun v6 => ?_)
  refine zr_cv w3 zio_8 (r_X8_field w3 v5 v6) (fun v8 h7 M7 w7 => ?_)
  refine zr_if ?_ ?_
  · exact zr_ok w7
  · exact zr_ok w7
def m_L_7 (L : Nat) (xs : Nat → Int32) (i : Int32) (M0 : zMem) : Option ((Unit ⊕ Int32) × zMem) :=
  zob (zsc L xs (i + 1)) (fun v1 =>
  zob (zsc L xs (i + 2)) (fun v2 =>
  mbd (m_X7_ground v1 v2 M0) (fun v4 M3 =>
  zob (zsc L xs (i + 1)) (fun v5 =>
  zob (zsc L xs (i + 2)) (fun v6 =>
  mbd (m_X8_ground v5 v6 M3) (fun v8 M7 =>
  if v4 = v8 then
  some ((.inl ()), M7)
  else
  some ((.inr 0), M7)))))))
set_option maxRecDepth 100000 in
set_option maxHeartbeats 4000000 in
theorem r_L_7 {B n : Nat} {h0 : zHp} {M0 : zMem} (w0 : zW B n h0 M0) (L : Nat) (xs : Nat → Int32) (i : Int32) : zRR B n (f_L_7 L xs (B + 0) (B + 213) (B + 254) i h0) (m_L_7 L xs i M0) := by
  unfold f_L_7 m_L_7
  refine zr_obp (fun v1 => ?_)
  refine zr_obp (fun v2 => ?_)
  refine zr_cv w0 zio_7 (r_X7_ground w0 v1 v2) (fun v4 h3 M3 w3 => ?_)
  refine zr_obp (fun v5 => ?_)
  refine zr_obp (fun v6 => ?_)
  refine zr_cv w3 zio_8 (r_X8_ground w3 v5 v6) (fun v8 h7 M7 w7 => ?_)
  refine zr_if ?_ ?_
  · exact zr_ok w7
  · exact zr_ok w7
def m_L_8 (L : Nat) (xs : Nat → Int32) (i : Int32) (M0 : zMem) : Option ((Unit ⊕ Int32) × zMem) :=
  zob (zsc L xs (i + 1)) (fun v1 =>
  mbd (m_X7_sees v1 M0) (fun v3 M2 =>
  zob (zsc L xs (i + 1)) (fun v4 =>
  mbd (m_X8_sees v4 M2) (fun v6 M5 =>
  if v3 = v6 then
  some ((.inl ()), M5)
  else
  some ((.inr 0), M5)))))
set_option maxRecDepth 100000 in
set_option maxHeartbeats 4000000 in
theorem r_L_8 {B n : Nat} {h0 : zHp} {M0 : zMem} (w0 : zW B n h0 M0) (L : Nat) (xs : Nat → Int32) (i : Int32) : zRR B n (f_L_8 L xs (B + 0) (B + 213) (B + 254) i h0) (m_L_8 L xs i M0) := by
  unfold f_L_8 m_L_8
  refine zr_obp (fun v1 => ?_)
  refine zr_cv w0 zio_7 (r_X7_sees w0 v1) (fun v3 h2 M2 w2 => ?_)
  refine zr_obp (fun v4 => ?_)
  refine zr_cv w2 zio_8 (r_X8_sees w2 v4) (fun v6 h5 M5 w5 => ?_)
  refine zr_if ?_ ?_
  · exact zr_ok w5
  · exact zr_ok w5
def m_L_9 (L : Nat) (xs : Nat → Int32) (i : Int32) (M0 : zMem) : Option ((Unit ⊕ Int32) × zMem) :=
  zob (zsc L xs (i + 1)) (fun v1 =>
  zob (zsc L xs (i + 2)) (fun v2 =>
  mbd (m_X7_in v1 v2 M0) (fun v4 M3 =>
  zob (zsc L xs (i + 1)) (fun v5 =>
  zob (zsc L xs (i + 2)) (fun v6 =>
  mbd (m_X8_in v5 v6 M3) (fun v8 M7 =>
  if v4 = v8 then
  some ((.inl ()), M7)
  else
  some ((.inr 0), M7)))))))
set_option maxRecDepth 100000 in
set_option maxHeartbeats 4000000 in
theorem r_L_9 {B n : Nat} {h0 : zHp} {M0 : zMem} (w0 : zW B n h0 M0) (L : Nat) (xs : Nat → Int32) (i : Int32) : zRR B n (f_L_9 L xs (B + 0) (B + 213) (B + 254) i h0) (m_L_9 L xs i M0) := by
  unfold f_L_9 m_L_9
  refine zr_obp (fun v1 => ?_)
  refine zr_obp (fun v2 => ?_)
  refine zr_cv w0 zio_7 (r_X7_in w0 v1 v2) (fun v4 h3 M3 w3 => ?_)
  refine zr_obp (fun v5 => ?_)
  refine zr_obp (fun v6 => ?_)
  refine zr_cv w3 zio_8 (r_X8_in w3 v5 v6) (fun v8 h7 M7 w7 => ?_)
  refine zr_if ?_ ?_
  · exact zr_ok w7
  · exact zr_ok w7
def m_L_10 (L : Nat) (xs : Nat → Int32) (i : Int32) (M0 : zMem) : Option ((Unit ⊕ Int32) × zMem) :=
  zob (zsc L xs (i + 1)) (fun v1 =>
  zob (zsc L xs (i + 2)) (fun v2 =>
  mbd (m_X7_law v1 v2 M0) (fun v4 M3 =>
  zob (zsc L xs (i + 1)) (fun v5 =>
  zob (zsc L xs (i + 2)) (fun v6 =>
  mbd (m_X8_law v5 v6 M3) (fun v8 M7 =>
  if (lg_cmp v4 v8) = 0 then
  some ((.inl ()), M7)
  else
  some ((.inr 0), M7)))))))
set_option maxRecDepth 100000 in
set_option maxHeartbeats 4000000 in
theorem r_L_10 {B n : Nat} {h0 : zHp} {M0 : zMem} (w0 : zW B n h0 M0) (L : Nat) (xs : Nat → Int32) (i : Int32) : zRR B n (f_L_10 L xs (B + 0) (B + 213) (B + 254) i h0) (m_L_10 L xs i M0) := by
  unfold f_L_10 m_L_10
  refine zr_obp (fun v1 => ?_)
  refine zr_obp (fun v2 => ?_)
  refine zr_cv w0 zio_7 (r_X7_law w0 v1 v2) (fun v4 h3 M3 w3 => ?_)
  refine zr_obp (fun v5 => ?_)
  refine zr_obp (fun v6 => ?_)
  refine zr_cv w3 zio_8 (r_X8_law w3 v5 v6) (fun v8 h7 M7 w7 => ?_)
  refine zr_if ?_ ?_
  · exact zr_ok w7
  · exact zr_ok w7
def m_L_11 (L : Nat) (xs : Nat → Int32) (i : Int32) (M0 : zMem) : Option ((Unit ⊕ Int32) × zMem) :=
  zob (zsc L xs (i + 1)) (fun v1 =>
  zob (zsc L xs (i + 2)) (fun v2 =>
  mbd (m_X7_push v1 v2 M0) (fun v4 M3 =>
  zob (zsc L xs (i + 1)) (fun v5 =>
  zob (zsc L xs (i + 2)) (fun v6 =>
  mbd (m_X8_push v5 v6 M3) (fun v8 M7 =>
  if v4 = v8 then
  some ((.inl ()), M7)
  else
  some ((.inr 0), M7)))))))
set_option maxRecDepth 100000 in
set_option maxHeartbeats 4000000 in
theorem r_L_11 {B n : Nat} {h0 : zHp} {M0 : zMem} (w0 : zW B n h0 M0) (L : Nat) (xs : Nat → Int32) (i : Int32) : zRR B n (f_L_11 L xs (B + 0) (B + 213) (B + 254) i h0) (m_L_11 L xs i M0) := by
  unfold f_L_11 m_L_11
  refine zr_obp (fun v1 => ?_)
  refine zr_obp (fun v2 => ?_)
  refine zr_cv w0 zio_7 (r_X7_push w0 v1 v2) (fun v4 h3 M3 w3 => ?_)
  refine zr_obp (fun v5 => ?_)
  refine zr_obp (fun v6 => ?_)
  refine zr_cv w3 zio_8 (r_X8_push w3 v5 v6) (fun v8 h7 M7 w7 => ?_)
  refine zr_if ?_ ?_
  · exact zr_ok w7
  · exact zr_ok w7
def m_L_12 (L : Nat) (xs : Nat → Int32) (i : Int32) (M0 : zMem) : Option ((Unit ⊕ Int32) × zMem) :=
  zob (zsc L xs (i + 1)) (fun v1 =>
  zob (zsc L xs (i + 2)) (fun v2 =>
  mbd (m_X7_give v1 v2 M0) (fun v4 M3 =>
  zob (zsc L xs (i + 1)) (fun v5 =>
  zob (zsc L xs (i + 2)) (fun v6 =>
  mbd (m_X8_give v5 v6 M3) (fun v8 M7 =>
  if v4 = v8 then
  some ((.inl ()), M7)
  else
  some ((.inr 0), M7)))))))
set_option maxRecDepth 100000 in
set_option maxHeartbeats 4000000 in
theorem r_L_12 {B n : Nat} {h0 : zHp} {M0 : zMem} (w0 : zW B n h0 M0) (L : Nat) (xs : Nat → Int32) (i : Int32) : zRR B n (f_L_12 L xs (B + 0) (B + 213) (B + 254) i h0) (m_L_12 L xs i M0) := by
  unfold f_L_12 m_L_12
  refine zr_obp (fun v1 => ?_)
  refine zr_obp (fun v2 => ?_)
  refine zr_cv w0 zio_7 (r_X7_give w0 v1 v2) (fun v4 h3 M3 w3 => ?_)
  refine zr_obp (fun v5 => ?_)
  refine zr_obp (fun v6 => ?_)
  refine zr_cv w3 zio_8 (r_X8_give w3 v5 v6) (fun v8 h7 M7 w7 => ?_)
  refine zr_if ?_ ?_
  · exact zr_ok w7
  · exact zr_ok w7
def m_L_13 (L : Nat) (xs : Nat → Int32) (i : Int32) (M0 : zMem) : Option ((Unit ⊕ Int32) × zMem) :=
  zob (zsc L xs (i + 1)) (fun v1 =>
  zob (zsc L xs (i + 2)) (fun v2 =>
  zob (zsc L xs (i + 3)) (fun v3 =>
  mbd (m_X7_stand v1 v2 v3 M0) (fun v5 M4 =>
  zob (zsc L xs (i + 1)) (fun v6 =>
  zob (zsc L xs (i + 2)) (fun v7 =>
  zob (zsc L xs (i + 3)) (fun v8 =>
  mbd (m_X8_stand v6 v7 v8 M4) (fun v10 M9 =>
  if v5 = v10 then
  some ((.inl ()), M9)
  else
  some ((.inr 0), M9)))))))))
set_option maxRecDepth 100000 in
set_option maxHeartbeats 4000000 in
theorem r_L_13 {B n : Nat} {h0 : zHp} {M0 : zMem} (w0 : zW B n h0 M0) (L : Nat) (xs : Nat → Int32) (i : Int32) : zRR B n (f_L_13 L xs (B + 0) (B + 213) (B + 254) i h0) (m_L_13 L xs i M0) := by
  unfold f_L_13 m_L_13
  refine zr_obp (fun v1 => ?_)
  refine zr_obp (fun v2 => ?_)
  refine zr_obp (fun v3 => ?_)
  refine zr_cv w0 zio_7 (r_X7_stand w0 v1 v2 v3) (fun v5 h4 M4 w4 => ?_)
  refine zr_obp (fun v6 => ?_)
  refine zr_obp (fun v7 => ?_)
  refine zr_obp (fun v8 => ?_)
  refine zr_cv w4 zio_8 (r_X8_stand w4 v6 v7 v8) (fun v10 h9 M9 w9 => ?_)
  refine zr_if ?_ ?_
  · exact zr_ok w9
  · exact zr_ok w9
def m_L_14 (L : Nat) (xs : Nat → Int32) (i : Int32) (M0 : zMem) : Option ((Unit ⊕ Int32) × zMem) :=
  zob (zsc L xs (i + 1)) (fun v1 =>
  mbd (m_X7_blow v1 M0) (fun v3 M2 =>
  zob (zsc L xs (i + 1)) (fun v4 =>
  mbd (m_X8_blow v4 M2) (fun v6 M5 =>
  if v3 = v6 then
  some ((.inl ()), M5)
  else
  some ((.inr 0), M5)))))
set_option maxRecDepth 100000 in
set_option maxHeartbeats 4000000 in
theorem r_L_14 {B n : Nat} {h0 : zHp} {M0 : zMem} (w0 : zW B n h0 M0) (L : Nat) (xs : Nat → Int32) (i : Int32) : zRR B n (f_L_14 L xs (B + 0) (B + 213) (B + 254) i h0) (m_L_14 L xs i M0) := by
  unfold f_L_14 m_L_14
  refine zr_obp (fun v1 => ?_)
  refine zr_cv w0 zio_7 (r_X7_blow w0 v1) (fun v3 h2 M2 w2 => ?_)
  refine zr_obp (fun v4 => ?_)
  refine zr_cv w2 zio_8 (r_X8_blow w2 v4) (fun v6 h5 M5 w5 => ?_)
  refine zr_if ?_ ?_
  · exact zr_ok w5
  · exact zr_ok w5
def m_L_15 (L : Nat) (xs : Nat → Int32) (i : Int32) (M0 : zMem) : Option ((Unit ⊕ Int32) × zMem) :=
  zob (zsc L xs (i + 1)) (fun v1 =>
  mbd (m_X7_go v1 M0) (fun v3 M2 =>
  zob (zsc L xs (i + 1)) (fun v4 =>
  mbd (m_X8_go v4 M2) (fun v6 M5 =>
  if v3 = v6 then
  some ((.inl ()), M5)
  else
  some ((.inr 0), M5)))))
set_option maxRecDepth 100000 in
set_option maxHeartbeats 4000000 in
theorem r_L_15 {B n : Nat} {h0 : zHp} {M0 : zMem} (w0 : zW B n h0 M0) (L : Nat) (xs : Nat → Int32) (i : Int32) : zRR B n (f_L_15 L xs (B + 0) (B + 213) (B + 254) i h0) (m_L_15 L xs i M0) := by
  unfold f_L_15 m_L_15
  refine zr_obp (fun v1 => ?_)
  refine zr_cv w0 zio_7 (r_X7_go w0 v1) (fun v3 h2 M2 w2 => ?_)
  refine zr_obp (fun v4 => ?_)
  refine zr_cv w2 zio_8 (r_X8_go w2 v4) (fun v6 h5 M5 w5 => ?_)
  refine zr_if ?_ ?_
  · exact zr_ok w5
  · exact zr_ok w5
def m_L_16 (L : Nat) (xs : Nat → Int32) (i : Int32) (M0 : zMem) : Option ((Unit ⊕ Int32) × zMem) :=
  zob (zsc L xs (i + 1)) (fun v1 =>
  zob (zsc L xs (i + 2)) (fun v2 =>
  mbd (m_X7_ahead v1 v2 M0) (fun v4 M3 =>
  zob (zsc L xs (i + 1)) (fun v5 =>
  zob (zsc L xs (i + 2)) (fun v6 =>
  mbd (m_X8_ahead v5 v6 M3) (fun v8 M7 =>
  if v4 = v8 then
  some ((.inl ()), M7)
  else
  some ((.inr 0), M7)))))))
set_option maxRecDepth 100000 in
set_option maxHeartbeats 4000000 in
theorem r_L_16 {B n : Nat} {h0 : zHp} {M0 : zMem} (w0 : zW B n h0 M0) (L : Nat) (xs : Nat → Int32) (i : Int32) : zRR B n (f_L_16 L xs (B + 0) (B + 213) (B + 254) i h0) (m_L_16 L xs i M0) := by
  unfold f_L_16 m_L_16
  refine zr_obp (fun v1 => ?_)
  refine zr_obp (fun v2 => ?_)
  refine zr_cv w0 zio_7 (r_X7_ahead w0 v1 v2) (fun v4 h3 M3 w3 => ?_)
  refine zr_obp (fun v5 => ?_)
  refine zr_obp (fun v6 => ?_)
  refine zr_cv w3 zio_8 (r_X8_ahead w3 v5 v6) (fun v8 h7 M7 w7 => ?_)
  refine zr_if ?_ ?_
  · exact zr_ok w7
  · exact zr_ok w7
def m_L_17 (L : Nat) (xs : Nat → Int32) (i : Int32) (M0 : zMem) : Option ((Unit ⊕ Int32) × zMem) :=
  mbd (m_X7_could  M0) (fun v2 M1 =>
  mbd (m_X8_could  M1) (fun v4 M3 =>
  if v2 = v4 then
  some ((.inl ()), M3)
  else
  some ((.inr 0), M3)))
set_option maxRecDepth 100000 in
set_option maxHeartbeats 4000000 in
theorem r_L_17 {B n : Nat} {h0 : zHp} {M0 : zMem} (w0 : zW B n h0 M0) (L : Nat) (xs : Nat → Int32) (i : Int32) : zRR B n (f_L_17 L xs (B + 0) (B + 213) (B + 254) i h0) (m_L_17 L xs i M0) := by
  unfold f_L_17 m_L_17
  refine zr_cv w0 zio_7 (r_X7_could w0 ) (fun v2 h1 M1 w1 => ?_)
  refine zr_cv w1 zio_8 (r_X8_could w1 ) (fun v4 h3 M3 w3 => ?_)
  refine zr_if ?_ ?_
  · exact zr_ok w3
  · exact zr_ok w3
def m_L_18 (L : Nat) (xs : Nat → Int32) (i : Int32) (M0 : zMem) : Option ((Unit ⊕ Int32) × zMem) :=
  zob (zsc L xs (i + 1)) (fun v1 =>
  zob (zsc L xs (i + 2)) (fun v2 =>
  zob (zsc L xs (i + 3)) (fun v3 =>
  mbd (m_X7_station v1 v2 v3 M0) (fun v5 M4 =>
  zob (zsc L xs (i + 1)) (fun v6 =>
  zob (zsc L xs (i + 2)) (fun v7 =>
  zob (zsc L xs (i + 3)) (fun v8 =>
  mbd (m_X8_station v6 v7 v8 M4) (fun v10 M9 =>
  if v5 = v10 then
  some ((.inl ()), M9)
  else
  some ((.inr 0), M9)))))))))
set_option maxRecDepth 100000 in
set_option maxHeartbeats 4000000 in
theorem r_L_18 {B n : Nat} {h0 : zHp} {M0 : zMem} (w0 : zW B n h0 M0) (L : Nat) (xs : Nat → Int32) (i : Int32) : zRR B n (f_L_18 L xs (B + 0) (B + 213) (B + 254) i h0) (m_L_18 L xs i M0) := by
  unfold f_L_18 m_L_18
  refine zr_obp (fun v1 => ?_)
  refine zr_obp (fun v2 => ?_)
  refine zr_obp (fun v3 => ?_)
  refine zr_cv w0 zio_7 (r_X7_station w0 v1 v2 v3) (fun v5 h4 M4 w4 => ?_)
  refine zr_obp (fun v6 => ?_)
  refine zr_obp (fun v7 => ?_)
  refine zr_obp (fun v8 => ?_)
  refine zr_cv w4 zio_8 (r_X8_station w4 v6 v7 v8) (fun v10 h9 M9 w9 => ?_)
  refine zr_if ?_ ?_
  · exact zr_ok w9
  · exact zr_ok w9
def m_L_19 (L : Nat) (xs : Nat → Int32) (i : Int32) (M0 : zMem) : Option ((Unit ⊕ Int32) × zMem) :=
  mbd (m_X7_lacks  M0) (fun v2 M1 =>
  mbd (m_X8_lacks  M1) (fun v4 M3 =>
  if v2 = v4 then
  some ((.inl ()), M3)
  else
  some ((.inr 0), M3)))
set_option maxRecDepth 100000 in
set_option maxHeartbeats 4000000 in
theorem r_L_19 {B n : Nat} {h0 : zHp} {M0 : zMem} (w0 : zW B n h0 M0) (L : Nat) (xs : Nat → Int32) (i : Int32) : zRR B n (f_L_19 L xs (B + 0) (B + 213) (B + 254) i h0) (m_L_19 L xs i M0) := by
  unfold f_L_19 m_L_19
  refine zr_cv w0 zio_7 (r_X7_lacks w0 ) (fun v2 h1 M1 w1 => ?_)
  refine zr_cv w1 zio_8 (r_X8_lacks w1 ) (fun v4 h3 M3 w3 => ?_)
  refine zr_if ?_ ?_
  · exact zr_ok w3
  · exact zr_ok w3
def m_L_20 (L : Nat) (xs : Nat → Int32) (i : Int32) (M0 : zMem) : Option ((Unit ⊕ Int32) × zMem) :=
  zob (zsc L xs (i + 1)) (fun v1 =>
  mbd (m_X7_enough v1 M0) (fun v3 M2 =>
  zob (zsc L xs (i + 1)) (fun v4 =>
  mbd (m_X8_enough v4 M2) (fun v6 M5 =>
  if v3 = v6 then
  some ((.inl ()), M5)
  else
  some ((.inr 0), M5)))))
set_option maxRecDepth 100000 in
set_option maxHeartbeats 4000000 in
theorem r_L_20 {B n : Nat} {h0 : zHp} {M0 : zMem} (w0 : zW B n h0 M0) (L : Nat) (xs : Nat → Int32) (i : Int32) : zRR B n (f_L_20 L xs (B + 0) (B + 213) (B + 254) i h0) (m_L_20 L xs i M0) := by
  unfold f_L_20 m_L_20
  refine zr_obp (fun v1 => ?_)
  refine zr_cv w0 zio_7 (r_X7_enough w0 v1) (fun v3 h2 M2 w2 => ?_)
  refine zr_obp (fun v4 => ?_)
  refine zr_cv w2 zio_8 (r_X8_enough w2 v4) (fun v6 h5 M5 w5 => ?_)
  refine zr_if ?_ ?_
  · exact zr_ok w5
  · exact zr_ok w5
def m_L_21 (L : Nat) (xs : Nat → Int32) (i : Int32) (M0 : zMem) : Option ((Unit ⊕ Int32) × zMem) :=
  zob (zsc L xs (i + 1)) (fun v1 =>
  mbd (m_X7_whose v1 M0) (fun v3 M2 =>
  zob (zsc L xs (i + 1)) (fun v4 =>
  mbd (m_X8_whose v4 M2) (fun v6 M5 =>
  if v3 = v6 then
  some ((.inl ()), M5)
  else
  some ((.inr 0), M5)))))
set_option maxRecDepth 100000 in
set_option maxHeartbeats 4000000 in
theorem r_L_21 {B n : Nat} {h0 : zHp} {M0 : zMem} (w0 : zW B n h0 M0) (L : Nat) (xs : Nat → Int32) (i : Int32) : zRR B n (f_L_21 L xs (B + 0) (B + 213) (B + 254) i h0) (m_L_21 L xs i M0) := by
  unfold f_L_21 m_L_21
  refine zr_obp (fun v1 => ?_)
  refine zr_cv w0 zio_7 (r_X7_whose w0 v1) (fun v3 h2 M2 w2 => ?_)
  refine zr_obp (fun v4 => ?_)
  refine zr_cv w2 zio_8 (r_X8_whose w2 v4) (fun v6 h5 M5 w5 => ?_)
  refine zr_if ?_ ?_
  · exact zr_ok w5
  · exact zr_ok w5
def m_L_22 (L : Nat) (xs : Nat → Int32) (i : Int32) (M0 : zMem) : Option ((Unit ⊕ Int32) × zMem) :=
  mbd (m_X7_swaps  M0) (fun v2 M1 =>
  mbd (m_X8_swaps  M1) (fun v4 M3 =>
  if v2 = v4 then
  some ((.inl ()), M3)
  else
  some ((.inr 0), M3)))
set_option maxRecDepth 100000 in
set_option maxHeartbeats 4000000 in
theorem r_L_22 {B n : Nat} {h0 : zHp} {M0 : zMem} (w0 : zW B n h0 M0) (L : Nat) (xs : Nat → Int32) (i : Int32) : zRR B n (f_L_22 L xs (B + 0) (B + 213) (B + 254) i h0) (m_L_22 L xs i M0) := by
  unfold f_L_22 m_L_22
  refine zr_cv w0 zio_7 (r_X7_swaps w0 ) (fun v2 h1 M1 w1 => ?_)
  refine zr_cv w1 zio_8 (r_X8_swaps w1 ) (fun v4 h3 M3 w3 => ?_)
  refine zr_if ?_ ?_
  · exact zr_ok w3
  · exact zr_ok w3
def m_L_23 (L : Nat) (xs : Nat → Int32) (i : Int32) (M0 : zMem) : Option ((Unit ⊕ Int32) × zMem) :=
  zob (zsc L xs (i + 1)) (fun v1 =>
  mbd (m_X7_swap v1 M0) (fun v3 M2 =>
  zob (zsc L xs (i + 1)) (fun v4 =>
  mbd (m_X8_swap v4 M2) (fun v6 M5 =>
  if v3 = v6 then
  some ((.inl ()), M5)
  else
  some ((.inr 0), M5)))))
set_option maxRecDepth 100000 in
set_option maxHeartbeats 4000000 in
theorem r_L_23 {B n : Nat} {h0 : zHp} {M0 : zMem} (w0 : zW B n h0 M0) (L : Nat) (xs : Nat → Int32) (i : Int32) : zRR B n (f_L_23 L xs (B + 0) (B + 213) (B + 254) i h0) (m_L_23 L xs i M0) := by
  unfold f_L_23 m_L_23
  refine zr_obp (fun v1 => ?_)
  refine zr_cv w0 zio_7 (r_X7_swap w0 v1) (fun v3 h2 M2 w2 => ?_)
  refine zr_obp (fun v4 => ?_)
  refine zr_cv w2 zio_8 (r_X8_swap w2 v4) (fun v6 h5 M5 w5 => ?_)
  refine zr_if ?_ ?_
  · exact zr_ok w5
  · exact zr_ok w5
def m_L_24 (L : Nat) (xs : Nat → Int32) (i : Int32) (M0 : zMem) : Option ((Unit ⊕ Int32) × zMem) :=
  zob (zsc L xs (i + 1)) (fun v1 =>
  zob (zsc L xs (i + 2)) (fun v2 =>
  zob (zsc L xs (i + 3)) (fun v3 =>
  mbd (m_X7_likely v1 v2 v3 M0) (fun v5 M4 =>
  zob (zsc L xs (i + 1)) (fun v6 =>
  zob (zsc L xs (i + 2)) (fun v7 =>
  zob (zsc L xs (i + 3)) (fun v8 =>
  mbd (m_X8_likely v6 v7 v8 M4) (fun v10 M9 =>
  if v5 = v10 then
  some ((.inl ()), M9)
  else
  some ((.inr 0), M9)))))))))
set_option maxRecDepth 100000 in
set_option maxHeartbeats 4000000 in
theorem r_L_24 {B n : Nat} {h0 : zHp} {M0 : zMem} (w0 : zW B n h0 M0) (L : Nat) (xs : Nat → Int32) (i : Int32) : zRR B n (f_L_24 L xs (B + 0) (B + 213) (B + 254) i h0) (m_L_24 L xs i M0) := by
  unfold f_L_24 m_L_24
  refine zr_obp (fun v1 => ?_)
  refine zr_obp (fun v2 => ?_)
  refine zr_obp (fun v3 => ?_)
  refine zr_cv w0 zio_7 (r_X7_likely w0 v1 v2 v3) (fun v5 h4 M4 w4 => ?_)
  refine zr_obp (fun v6 => ?_)
  refine zr_obp (fun v7 => ?_)
  refine zr_obp (fun v8 => ?_)
  refine zr_cv w4 zio_8 (r_X8_likely w4 v6 v7 v8) (fun v10 h9 M9 w9 => ?_)
  refine zr_if ?_ ?_
  · exact zr_ok w9
  · exact zr_ok w9
def m_L_25 (L : Nat) (xs : Nat → Int32) (i : Int32) (M0 : zMem) : Option ((Unit ⊕ Int32) × zMem) :=
  zob (zsc L xs (i + 1)) (fun v1 =>
  zob (zsc L xs (i + 2)) (fun v2 =>
  zob (zsc L xs (i + 3)) (fun v3 =>
  mbd (m_X7_plan v1 v2 v3 M0) (fun v5 M4 =>
  zob (zsc L xs (i + 1)) (fun v6 =>
  zob (zsc L xs (i + 2)) (fun v7 =>
  zob (zsc L xs (i + 3)) (fun v8 =>
  mbd (m_X8_plan v6 v7 v8 M4) (fun v10 M9 =>
  if v5 = v10 then
  some ((.inl ()), M9)
  else
  some ((.inr 0), M9)))))))))
set_option maxRecDepth 100000 in
set_option maxHeartbeats 4000000 in
theorem r_L_25 {B n : Nat} {h0 : zHp} {M0 : zMem} (w0 : zW B n h0 M0) (L : Nat) (xs : Nat → Int32) (i : Int32) : zRR B n (f_L_25 L xs (B + 0) (B + 213) (B + 254) i h0) (m_L_25 L xs i M0) := by
  unfold f_L_25 m_L_25
  refine zr_obp (fun v1 => ?_)
  refine zr_obp (fun v2 => ?_)
  refine zr_obp (fun v3 => ?_)
  refine zr_cv w0 zio_7 (r_X7_plan w0 v1 v2 v3) (fun v5 h4 M4 w4 => ?_)
  refine zr_obp (fun v6 => ?_)
  refine zr_obp (fun v7 => ?_)
  refine zr_obp (fun v8 => ?_)
  refine zr_cv w4 zio_8 (r_X8_plan w4 v6 v7 v8) (fun v10 h9 M9 w9 => ?_)
  refine zr_if ?_ ?_
  · exact zr_ok w9
  · exact zr_ok w9
def m_L_26 (L : Nat) (xs : Nat → Int32) (i : Int32) (M0 : zMem) : Option ((Unit ⊕ Int32) × zMem) :=
  zob (zsc L xs (i + 1)) (fun v1 =>
  zob (zsc L xs (i + 2)) (fun v2 =>
  zob (zsc L xs (i + 3)) (fun v3 =>
  zob (zsc L xs (i + 4)) (fun v4 =>
  mbd (m_X7_step v1 v2 v3 v4 M0) (fun v6 M5 =>
  zob (zsc L xs (i + 1)) (fun v7 =>
  zob (zsc L xs (i + 2)) (fun v8 =>
  zob (zsc L xs (i + 3)) (fun v9 =>
  zob (zsc L xs (i + 4)) (fun v10 =>
  mbd (m_X8_step v7 v8 v9 v10 M5) (fun v12 M11 =>
  if v6 = v12 then
  some ((.inl ()), M11)
  else
  some ((.inr 0), M11)))))))))))
set_option maxRecDepth 100000 in
set_option maxHeartbeats 4000000 in
theorem r_L_26 {B n : Nat} {h0 : zHp} {M0 : zMem} (w0 : zW B n h0 M0) (L : Nat) (xs : Nat → Int32) (i : Int32) : zRR B n (f_L_26 L xs (B + 0) (B + 213) (B + 254) i h0) (m_L_26 L xs i M0) := by
  unfold f_L_26 m_L_26
  refine zr_obp (fun v1 => ?_)
  refine zr_obp (fun v2 => ?_)
  refine zr_obp (fun v3 => ?_)
  refine zr_obp (fun v4 => ?_)
  refine zr_cv w0 zio_7 (r_X7_step w0 v1 v2 v3 v4) (fun v6 h5 M5 w5 => ?_)
  refine zr_obp (fun v7 => ?_)
  refine zr_obp (fun v8 => ?_)
  refine zr_obp (fun v9 => ?_)
  refine zr_obp (fun v10 => ?_)
  refine zr_cv w5 zio_8 (r_X8_step w5 v7 v8 v9 v10) (fun v12 h11 M11 w11 => ?_)
  refine zr_if ?_ ?_
  · exact zr_ok w11
  · exact zr_ok w11
def m_L_27 (L : Nat) (xs : Nat → Int32) (i : Int32) (M0 : zMem) : Option ((Unit ⊕ Int32) × zMem) :=
  zob (zsc L xs (i + 1)) (fun v1 =>
  zob (zsc L xs (i + 2)) (fun v2 =>
  mbd (m_X7_rests v1 v2 M0) (fun v4 M3 =>
  zob (zsc L xs (i + 1)) (fun v5 =>
  zob (zsc L xs (i + 2)) (fun v6 =>
  mbd (m_X8_rests v5 v6 M3) (fun v8 M7 =>
  if v4 = v8 then
  some ((.inl ()), M7)
  else
  some ((.inr 0), M7)))))))
set_option maxRecDepth 100000 in
set_option maxHeartbeats 4000000 in
theorem r_L_27 {B n : Nat} {h0 : zHp} {M0 : zMem} (w0 : zW B n h0 M0) (L : Nat) (xs : Nat → Int32) (i : Int32) : zRR B n (f_L_27 L xs (B + 0) (B + 213) (B + 254) i h0) (m_L_27 L xs i M0) := by
  unfold f_L_27 m_L_27
  refine zr_obp (fun v1 => ?_)
  refine zr_obp (fun v2 => ?_)
  refine zr_cv w0 zio_7 (r_X7_rests w0 v1 v2) (fun v4 h3 M3 w3 => ?_)
  refine zr_obp (fun v5 => ?_)
  refine zr_obp (fun v6 => ?_)
  refine zr_cv w3 zio_8 (r_X8_rests w3 v5 v6) (fun v8 h7 M7 w7 => ?_)
  refine zr_if ?_ ?_
  · exact zr_ok w7
  · exact zr_ok w7
def m_L_28 (L : Nat) (xs : Nat → Int32) (i : Int32) (M0 : zMem) : Option ((Unit ⊕ Int32) × zMem) :=
  zob (zsc L xs (i + 1)) (fun v1 =>
  zob (zsc L xs (i + 2)) (fun v2 =>
  zob (zsc L xs (i + 3)) (fun v3 =>
  mbd (m_X7_rest v1 v2 v3 M0) (fun v5 M4 =>
  zob (zsc L xs (i + 1)) (fun v6 =>
  zob (zsc L xs (i + 2)) (fun v7 =>
  zob (zsc L xs (i + 3)) (fun v8 =>
  mbd (m_X8_rest v6 v7 v8 M4) (fun v10 M9 =>
  if v5 = v10 then
  some ((.inl ()), M9)
  else
  some ((.inr 0), M9)))))))))
set_option maxRecDepth 100000 in
set_option maxHeartbeats 4000000 in
theorem r_L_28 {B n : Nat} {h0 : zHp} {M0 : zMem} (w0 : zW B n h0 M0) (L : Nat) (xs : Nat → Int32) (i : Int32) : zRR B n (f_L_28 L xs (B + 0) (B + 213) (B + 254) i h0) (m_L_28 L xs i M0) := by
  unfold f_L_28 m_L_28
  refine zr_obp (fun v1 => ?_)
  refine zr_obp (fun v2 => ?_)
  refine zr_obp (fun v3 => ?_)
  refine zr_cv w0 zio_7 (r_X7_rest w0 v1 v2 v3) (fun v5 h4 M4 w4 => ?_)
  refine zr_obp (fun v6 => ?_)
  refine zr_obp (fun v7 => ?_)
  refine zr_obp (fun v8 => ?_)
  refine zr_cv w4 zio_8 (r_X8_rest w4 v6 v7 v8) (fun v10 h9 M9 w9 => ?_)
  refine zr_if ?_ ?_
  · exact zr_ok w9
  · exact zr_ok w9
def m_L_29 (L : Nat) (xs : Nat → Int32) (i : Int32) (M0 : zMem) : Option ((Unit ⊕ Int32) × zMem) :=
  zob (zsc L xs (i + 1)) (fun v1 =>
  zob (zsc L xs (i + 2)) (fun v2 =>
  zob (zsc L xs (i + 3)) (fun v3 =>
  zob (zsc L xs (i + 4)) (fun v4 =>
  mbd (α := Int32) (
  if v4 = 0 then
  some (0, M0)
  else
  some (1, M0)) (fun e5 M6 =>
  mbd (m_X7_note v1 v2 v3 e5 M6) (fun v8 M7 =>
  zob (zsc L xs (i + 1)) (fun v9 =>
  zob (zsc L xs (i + 2)) (fun v10 =>
  zob (zsc L xs (i + 3)) (fun v11 =>
  zob (zsc L xs (i + 4)) (fun v12 =>
  mbd (α := Int32) (
  if v12 = 0 then
  some (0, M7)
  else
  some (1, M7)) (fun e13 M14 =>
  mbd (m_X8_note v9 v10 v11 e13 M14) (fun v16 M15 =>
  if v8 = v16 then
  some ((.inl ()), M15)
  else
  some ((.inr 0), M15)))))))))))))
set_option maxRecDepth 100000 in
set_option maxHeartbeats 4000000 in
theorem r_L_29 {B n : Nat} {h0 : zHp} {M0 : zMem} (w0 : zW B n h0 M0) (L : Nat) (xs : Nat → Int32) (i : Int32) : zRR B n (f_L_29 L xs (B + 0) (B + 213) (B + 254) i h0) (m_L_29 L xs i M0) := by
  unfold f_L_29 m_L_29
  refine zr_obp (fun v1 => ?_)
  refine zr_obp (fun v2 => ?_)
  refine zr_obp (fun v3 => ?_)
  refine zr_obp (fun v4 => ?_)
  refine zr_bd ?_ (fun e5 h6 M6 w6 => ?_)
  · refine zr_if ?_ ?_
    · exact zr_ok w0
    · exact zr_ok w0
  · refine zr_cv w6 zio_7 (r_X7_note w6 v1 v2 v3 e5) (fun v8 h7 M7 w7 => ?_)
    refine zr_obp (fun v9 => ?_)
    refine zr_obp (fun v10 => ?_)
    refine zr_obp (fun v11 => ?_)
    refine zr_obp (fun v12 => ?_)
    refine zr_bd ?_ (fun e13 h14 M14 w14 => ?_)
    · refine zr_if ?_ ?_
      · exact zr_ok w7
      · exact zr_ok w7
    · refine zr_cv w14 zio_8 (r_X8_note w14 v9 v10 v11 e13) (fun v16 h15 M15 w15 => ?_)
      refine zr_if ?_ ?_
      · exact zr_ok w15
      · exact zr_ok w15
def m_L_30 (L : Nat) (xs : Nat → Int32) (i : Int32) (M0 : zMem) : Option ((Unit ⊕ Int32) × zMem) :=
  zob (zsc L xs (i + 1)) (fun v1 =>
  mbd (m_X7_out v1 M0) (fun v3 M2 =>
  zob (zsc L xs (i + 1)) (fun v4 =>
  mbd (m_X8_out v4 M2) (fun v6 M5 =>
  if v3 = v6 then
  some ((.inl ()), M5)
  else
  some ((.inr 0), M5)))))
set_option maxRecDepth 100000 in
set_option maxHeartbeats 4000000 in
theorem r_L_30 {B n : Nat} {h0 : zHp} {M0 : zMem} (w0 : zW B n h0 M0) (L : Nat) (xs : Nat → Int32) (i : Int32) : zRR B n (f_L_30 L xs (B + 0) (B + 213) (B + 254) i h0) (m_L_30 L xs i M0) := by
  unfold f_L_30 m_L_30
  refine zr_obp (fun v1 => ?_)
  refine zr_cv w0 zio_7 (r_X7_out w0 v1) (fun v3 h2 M2 w2 => ?_)
  refine zr_obp (fun v4 => ?_)
  refine zr_cv w2 zio_8 (r_X8_out w2 v4) (fun v6 h5 M5 w5 => ?_)
  refine zr_if ?_ ?_
  · exact zr_ok w5
  · exact zr_ok w5
def m_L_31 (L : Nat) (xs : Nat → Int32) (i : Int32) (M0 : zMem) : Option ((Unit ⊕ Int32) × zMem) :=
  zob (zsc L xs (i + 1)) (fun v1 =>
  mbd (m_X7_known v1 M0) (fun v3 M2 =>
  zob (zsc L xs (i + 1)) (fun v4 =>
  mbd (m_X8_known v4 M2) (fun v6 M5 =>
  if v3 = v6 then
  some ((.inl ()), M5)
  else
  some ((.inr 0), M5)))))
set_option maxRecDepth 100000 in
set_option maxHeartbeats 4000000 in
theorem r_L_31 {B n : Nat} {h0 : zHp} {M0 : zMem} (w0 : zW B n h0 M0) (L : Nat) (xs : Nat → Int32) (i : Int32) : zRR B n (f_L_31 L xs (B + 0) (B + 213) (B + 254) i h0) (m_L_31 L xs i M0) := by
  unfold f_L_31 m_L_31
  refine zr_obp (fun v1 => ?_)
  refine zr_cv w0 zio_7 (r_X7_known w0 v1) (fun v3 h2 M2 w2 => ?_)
  refine zr_obp (fun v4 => ?_)
  refine zr_cv w2 zio_8 (r_X8_known w2 v4) (fun v6 h5 M5 w5 => ?_)
  refine zr_if ?_ ?_
  · exact zr_ok w5
  · exact zr_ok w5
def m_L_32 (L : Nat) (xs : Nat → Int32) (i : Int32) (M0 : zMem) : Option ((Unit ⊕ Int32) × zMem) :=
  zob (zsc L xs (i + 1)) (fun v1 =>
  mbd (m_X7_sizes v1 M0) (fun v3 M2 =>
  zob (zsc L xs (i + 1)) (fun v4 =>
  mbd (m_X8_sizes v4 M2) (fun v6 M5 =>
  if v3 = v6 then
  some ((.inl ()), M5)
  else
  some ((.inr 0), M5)))))
set_option maxRecDepth 100000 in
set_option maxHeartbeats 4000000 in
theorem r_L_32 {B n : Nat} {h0 : zHp} {M0 : zMem} (w0 : zW B n h0 M0) (L : Nat) (xs : Nat → Int32) (i : Int32) : zRR B n (f_L_32 L xs (B + 0) (B + 213) (B + 254) i h0) (m_L_32 L xs i M0) := by
  unfold f_L_32 m_L_32
  refine zr_obp (fun v1 => ?_)
  refine zr_cv w0 zio_7 (r_X7_sizes w0 v1) (fun v3 h2 M2 w2 => ?_)
  refine zr_obp (fun v4 => ?_)
  refine zr_cv w2 zio_8 (r_X8_sizes w2 v4) (fun v6 h5 M5 w5 => ?_)
  refine zr_if ?_ ?_
  · exact zr_ok w5
  · exact zr_ok w5
def m_L_33 (L : Nat) (xs : Nat → Int32) (i : Int32) (M0 : zMem) : Option ((Unit ⊕ Int32) × zMem) :=
  zob (zsc L xs (i + 1)) (fun v1 =>
  zob (zsc L xs (i + 2)) (fun v2 =>
  zob (zsc L xs (i + 3)) (fun v3 =>
  zob (zsc L xs (i + 4)) (fun v4 =>
  mbd (m_X7_chance v1 v2 v3 v4 M0) (fun v6 M5 =>
  zob (zsc L xs (i + 1)) (fun v7 =>
  zob (zsc L xs (i + 2)) (fun v8 =>
  zob (zsc L xs (i + 3)) (fun v9 =>
  zob (zsc L xs (i + 4)) (fun v10 =>
  mbd (m_X8_chance v7 v8 v9 v10 M5) (fun v12 M11 =>
  if v6 = v12 then
  some ((.inl ()), M11)
  else
  some ((.inr 0), M11)))))))))))
set_option maxRecDepth 100000 in
set_option maxHeartbeats 4000000 in
theorem r_L_33 {B n : Nat} {h0 : zHp} {M0 : zMem} (w0 : zW B n h0 M0) (L : Nat) (xs : Nat → Int32) (i : Int32) : zRR B n (f_L_33 L xs (B + 0) (B + 213) (B + 254) i h0) (m_L_33 L xs i M0) := by
  unfold f_L_33 m_L_33
  refine zr_obp (fun v1 => ?_)
  refine zr_obp (fun v2 => ?_)
  refine zr_obp (fun v3 => ?_)
  refine zr_obp (fun v4 => ?_)
  refine zr_cv w0 zio_7 (r_X7_chance w0 v1 v2 v3 v4) (fun v6 h5 M5 w5 => ?_)
  refine zr_obp (fun v7 => ?_)
  refine zr_obp (fun v8 => ?_)
  refine zr_obp (fun v9 => ?_)
  refine zr_obp (fun v10 => ?_)
  refine zr_cv w5 zio_8 (r_X8_chance w5 v7 v8 v9 v10) (fun v12 h11 M11 w11 => ?_)
  refine zr_if ?_ ?_
  · exact zr_ok w11
  · exact zr_ok w11
def m_L_34 (L : Nat) (xs : Nat → Int32) (i : Int32) (M0 : zMem) : Option ((Unit ⊕ Int32) × zMem) :=
  zob (zsc L xs (i + 1)) (fun v1 =>
  zob (zsc L xs (i + 2)) (fun v2 =>
  zob (zsc L xs (i + 3)) (fun v3 =>
  mbd (m_X7_tried v1 v2 v3 M0) (fun v5 M4 =>
  zob (zsc L xs (i + 1)) (fun v6 =>
  zob (zsc L xs (i + 2)) (fun v7 =>
  zob (zsc L xs (i + 3)) (fun v8 =>
  mbd (m_X8_tried v6 v7 v8 M4) (fun v10 M9 =>
  if v5 = v10 then
  some ((.inl ()), M9)
  else
  some ((.inr 0), M9)))))))))
set_option maxRecDepth 100000 in
set_option maxHeartbeats 4000000 in
theorem r_L_34 {B n : Nat} {h0 : zHp} {M0 : zMem} (w0 : zW B n h0 M0) (L : Nat) (xs : Nat → Int32) (i : Int32) : zRR B n (f_L_34 L xs (B + 0) (B + 213) (B + 254) i h0) (m_L_34 L xs i M0) := by
  unfold f_L_34 m_L_34
  refine zr_obp (fun v1 => ?_)
  refine zr_obp (fun v2 => ?_)
  refine zr_obp (fun v3 => ?_)
  refine zr_cv w0 zio_7 (r_X7_tried w0 v1 v2 v3) (fun v5 h4 M4 w4 => ?_)
  refine zr_obp (fun v6 => ?_)
  refine zr_obp (fun v7 => ?_)
  refine zr_obp (fun v8 => ?_)
  refine zr_cv w4 zio_8 (r_X8_tried w4 v6 v7 v8) (fun v10 h9 M9 w9 => ?_)
  refine zr_if ?_ ?_
  · exact zr_ok w9
  · exact zr_ok w9
def m_L_35 (L : Nat) (xs : Nat → Int32) (i : Int32) (M0 : zMem) : Option ((Unit ⊕ Int32) × zMem) :=
  mbd (m_X7_undo  M0) (fun v2 M1 =>
  mbd (m_X8_undo  M1) (fun v4 M3 =>
  if v2 = v4 then
  some ((.inl ()), M3)
  else
  some ((.inr 0), M3)))
set_option maxRecDepth 100000 in
set_option maxHeartbeats 4000000 in
theorem r_L_35 {B n : Nat} {h0 : zHp} {M0 : zMem} (w0 : zW B n h0 M0) (L : Nat) (xs : Nat → Int32) (i : Int32) : zRR B n (f_L_35 L xs (B + 0) (B + 213) (B + 254) i h0) (m_L_35 L xs i M0) := by
  unfold f_L_35 m_L_35
  refine zr_cv w0 zio_7 (r_X7_undo w0 ) (fun v2 h1 M1 w1 => ?_)
  refine zr_cv w1 zio_8 (r_X8_undo w1 ) (fun v4 h3 M3 w3 => ?_)
  refine zr_if ?_ ?_
  · exact zr_ok w3
  · exact zr_ok w3
def m_L_36 (L : Nat) (xs : Nat → Int32) (i : Int32) (M0 : zMem) : Option ((Unit ⊕ Int32) × zMem) :=
  mbd (m_X7_keep  M0) (fun v2 M1 =>
  mbd (m_X8_keep  M1) (fun v4 M3 =>
  if v2 = v4 then
  some ((.inl ()), M3)
  else
  some ((.inr 0), M3)))
set_option maxRecDepth 100000 in
set_option maxHeartbeats 4000000 in
theorem r_L_36 {B n : Nat} {h0 : zHp} {M0 : zMem} (w0 : zW B n h0 M0) (L : Nat) (xs : Nat → Int32) (i : Int32) : zRR B n (f_L_36 L xs (B + 0) (B + 213) (B + 254) i h0) (m_L_36 L xs i M0) := by
  unfold f_L_36 m_L_36
  refine zr_cv w0 zio_7 (r_X7_keep w0 ) (fun v2 h1 M1 w1 => ?_)
  refine zr_cv w1 zio_8 (r_X8_keep w1 ) (fun v4 h3 M3 w3 => ?_)
  refine zr_if ?_ ?_
  · exact zr_ok w3
  · exact zr_ok w3
def m_L_37 (L : Nat) (xs : Nat → Int32) (i : Int32) (M0 : zMem) : Option ((Unit ⊕ Int32) × zMem) :=
  mbd (m_X7_back  M0) (fun v2 M1 =>
  mbd (m_X8_back  M1) (fun v4 M3 =>
  if v2 = v4 then
  some ((.inl ()), M3)
  else
  some ((.inr 0), M3)))
set_option maxRecDepth 100000 in
set_option maxHeartbeats 4000000 in
theorem r_L_37 {B n : Nat} {h0 : zHp} {M0 : zMem} (w0 : zW B n h0 M0) (L : Nat) (xs : Nat → Int32) (i : Int32) : zRR B n (f_L_37 L xs (B + 0) (B + 213) (B + 254) i h0) (m_L_37 L xs i M0) := by
  unfold f_L_37 m_L_37
  refine zr_cv w0 zio_7 (r_X7_back w0 ) (fun v2 h1 M1 w1 => ?_)
  refine zr_cv w1 zio_8 (r_X8_back w1 ) (fun v4 h3 M3 w3 => ?_)
  refine zr_if ?_ ?_
  · exact zr_ok w3
  · exact zr_ok w3
def m_L_38 (L : Nat) (xs : Nat → Int32) (i : Int32) (M0 : zMem) : Option ((Unit ⊕ Int32) × zMem) :=
  zob (zsc L xs (i + 1)) (fun v1 =>
  mbd (m_X7_count v1 M0) (fun v3 M2 =>
  zob (zsc L xs (i + 1)) (fun v4 =>
  mbd (m_X8_count v4 M2) (fun v6 M5 =>
  if v3 = v6 then
  some ((.inl ()), M5)
  else
  some ((.inr 0), M5)))))
set_option maxRecDepth 100000 in
set_option maxHeartbeats 4000000 in
theorem r_L_38 {B n : Nat} {h0 : zHp} {M0 : zMem} (w0 : zW B n h0 M0) (L : Nat) (xs : Nat → Int32) (i : Int32) : zRR B n (f_L_38 L xs (B + 0) (B + 213) (B + 254) i h0) (m_L_38 L xs i M0) := by
  unfold f_L_38 m_L_38
  refine zr_obp (fun v1 => ?_)
  refine zr_cv w0 zio_7 (r_X7_count w0 v1) (fun v3 h2 M2 w2 => ?_)
  refine zr_obp (fun v4 => ?_)
  refine zr_cv w2 zio_8 (r_X8_count w2 v4) (fun v6 h5 M5 w5 => ?_)
  refine zr_if ?_ ?_
  · exact zr_ok w5
  · exact zr_ok w5

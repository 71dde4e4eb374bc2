section
variable {M : zMem} {b : Nat → Nat} {n : Nat} {K0 d p : Nat} {out : List yK} {cnt opn : Nat} {w : List Nat} {R : yRz}
/-- a leaf: counted, put, passed -/
theorem r_leaf (re : yRE M b n K0 d p out cnt opn) (x : yK) (hx : yMi 5 = 100) {s v : Int32} (es : s = yKs x) (ev : v = yKv x)
    (hR : yrZ b n (true, p, w, out, cnt, opn) = if 64 ≤ cnt then .inl (2, ypl b n p) else yrZ b n (false, ynx b n p, w, out ++ [x], cnt + 1, opn)) :
    zwp (mbd (m_X8_knot M) (fun _ M1 => mbd (m_X8_puts s v M1) (fun _ M2 => mbd (m_X8_goOn M2) (fun _ M3 => some ((), M3))))) (fun _ M' => zfr (yEP K0) M M' ∧ yPo b n K0 d 5 w (yrZ b n (true, p, w, out, cnt, opn)) cnt opn M') := by
  have c64 := re.c64
  by_cases hf : 64 ≤ cnt
  · rw [if_pos hf] at hR
    have kn : zwp (m_X8_knot M) (fun _ M' => yRF M' (2, ypl b n p) ∧ zfr (yEP K0) M M') := by
      unfold m_X8_knot
      rw [if_pos re.ok, if_pos (by rw [re.2.2.2.2.1, show cnt = 64 by omega]; rfl)]
      exact zwp_bd (re.wrong (k := 2) (by omega)) (fun _ M' z => zwp_ret z)
    refine zwp_bd kn (fun _ M1 z => ?_)
    obtain ⟨fl, f1⟩ := z
    rw [r_puts_f fl, mbd_some, r_goOn_f fl, mbd_some]
    exact zwp_ret ⟨f1, Or.inl ⟨_, fl, hR⟩⟩
  · rw [if_neg hf] at hR
    have kn := re.knot (by omega)
    have ek : m_X8_knot M = some ((), mup M 213 32 (Int32.ofNat (cnt + 1))) := by
      unfold m_X8_knot
      rw [if_pos re.ok, re.2.2.2.2.1, if_neg (by rw [show (64 : Int32) = Int32.ofNat 64 from rfl, zi_eq (by omega) (by omega)]; omega), mlt_eq, yi_nn]
    rw [ek, mbd_some]
    generalize mup M 213 32 (Int32.ofNat (cnt + 1)) = M1 at kn ⊢
    obtain ⟨re1, f1⟩ := kn
    rw [es, ev]
    refine zwp_bd (re1.puts x) (fun _ M2 z => ?_)
    obtain ⟨re2, f2⟩ := z
    refine zwp_bd re2.goOn (fun _ M3 z => ?_)
    obtain ⟨re3, f3⟩ := z
    refine zwp_ret ⟨zfr_trans f1 (zfr_trans f2 f3), Or.inr ⟨ynx b n p, [], out ++ [x], cnt + 1, by omega, ?_, hR, ?_, ?_⟩⟩
    · show yRE M3 b n K0 d (ynx b n p) (out ++ [x] ++ []) (cnt + 1) opn
      rw [List.append_nil]
      exact re3
    · intro t ht; cases ht
    · exact ⟨fun a => absurd a (by decide), fun a => absurd a (by decide), fun a => absurd a (by decide), fun a => absurd a (by decide), fun a => absurd a (by decide)⟩
theorem r_prim {c0 : Nat} {F : Nat → zMem → Option (Unit × zMem)} (sp : opn < 8 → ySp b n K0 d 0 (opn + 1) c0 (F 0)) : ySp b n K0 d 5 opn c0 (mb_X8_primary F) := by
  constructor
  · intro M f fl
    unfold mb_X8_primary
    rw [if_neg fl.ne]
  · intro M p w out cnt re hc _ t15
    have c64 := re.c64
    have o8 := re.o8
    have lt := ytk_lt re.hb (p := p)
    have s3 := ysrt_3 _ lt
    have e : m_X8_isSign 40 M = _ := r_isSign re.rk re.hb re.ok (c := 33) (by decide) (by decide)
    unfold mb_X8_primary
    rw [if_pos re.ok, e]
    by_cases h33 : ytk b n p = 33
    · rw [if_pos h33, mbd_some, if_neg (by decide), re.2.2.2.2.2.1]
      by_cases h8 : opn = 8
      · rw [if_pos (by rw [h8]; rfl)]
        refine zwp_bd (Q' := fun _ M' => yRF M' (2, ypl b n p) ∧ zfr (yEP K0) M M') (zwp_bd (re.wrong (k := 2) (by omega)) (fun _ M' z => zwp_ret z)) (fun _ M1 z => ?_)
        rw [if_neg z.1.ne]
        refine zwp_ret ⟨z.2, Or.inl ⟨_, z.1, ?_⟩⟩
        refine yrZ_end re.hn re.rk.1 ?_
        rw [ystp_a]
        rw [if_pos h33, if_pos (by omega)]
      · rw [if_neg (by rw [show (8 : Int32) = Int32.ofNat 8 from rfl, zi_eq (by omega) (by omega)]; exact h8), mbd_some, if_pos re.ok, mlt_eq, re.2.2.2.2.2.1, yi_nn]
        have ro := re.setO (o := opn + 1) (by omega)
        generalize mup M 213 31 (Int32.ofNat (opn + 1)) = M1 at ro ⊢
        obtain ⟨re1, f1⟩ := ro
        refine zwp_bd re1.token (fun _ M2 z => ?_)
        obtain ⟨re2, f2⟩ := z
        have st : yrZ b n (true, p, w, out, cnt, opn) = yrZ b n (true, ynx b n p, 33 :: w, out, cnt, opn + 1) := by
          refine yrZ_go re.hn re.hb re.rk.1 ?_
          rw [ystp_a]
          rw [if_pos h33, if_neg (by omega)]
        refine zwp_bd ((sp (by omega)).2 M2 _ (33 :: w) out cnt re2 hc (show yrank 33 ≤ 0 by decide) (fun z => absurd z (by decide))) (fun _ M3 z => ?_)
        obtain ⟨f3, po⟩ := z
        rw [← st] at po
        have f03 : zfr (yEP K0) M M3 := zfr_trans f1 (zfr_trans f2 f3)
        rcases po with ⟨f, fl, e3⟩ | ⟨p3, v3, out3, cnt3, hc3, re3, e3, ra3, nt3⟩
        · rw [if_neg fl.ne, mbd_some, if_neg fl.ne]
          exact zwp_ret ⟨f03, Or.inl ⟨f, fl, e3⟩⟩
        · have e' : m_X8_isSign 41 M3 = _ := r_isSign re3.rk re3.hb re3.ok (c := 34) (by decide) (by decide)
          rw [if_pos re3.ok, e']
          have pp : ypop 0 (v3 ++ 33 :: w) = (33 :: w, yflush v3) := ypop_rs (fun t ht => ra3 t ht) (show yrank 33 ≤ 0 by decide)
          by_cases h34 : ytk b n p3 = 34
          · rw [if_pos h34, mbd_some, if_neg (by decide), mbd_some, if_pos re3.ok, mlt_eq, re3.2.2.2.2.2.1, yi_m1 (by omega), show opn + 1 - 1 = opn by omega]
            have ro := re3.setO (o := opn) (by omega)
            generalize mup M3 213 31 (Int32.ofNat opn) = M4 at ro ⊢
            obtain ⟨re4, f4⟩ := ro
            refine zwp_bd re4.token (fun _ M5 z => ?_)
            obtain ⟨re5, f5⟩ := z
            refine zwp_ret ⟨zfr_trans f03 (zfr_trans f4 f5), Or.inr ⟨ynx b n p3, [], out3 ++ yflush v3, cnt3, hc3, ?_, ?_, ?_, ?_⟩⟩
            · show yRE M5 b n K0 d (ynx b n p3) (out3 ++ yflush v3 ++ []) cnt3 opn
              rw [List.append_nil]
              exact re5
            · rw [e3]
              refine yrZ_go re3.hn re3.hb re3.rk.1 ?_
              rw [ystp_n]
              rw [if_pos ⟨h34, by omega⟩, pp]
              rfl
            · intro t ht; cases ht
            · exact ⟨fun a => absurd a (by decide), fun a => absurd a (by decide), fun a => absurd a (by decide), fun a => absurd a (by decide), fun a => absurd a (by decide)⟩
          · rw [if_neg h34, mbd_some, if_pos rfl]
            refine zwp_bd (Q' := fun _ M' => yRF M' (1, ypl b n p3) ∧ zfr (yEP K0) M3 M') (zwp_bd (re3.wrong (k := 1) (by omega)) (fun _ M' z => zwp_ret z)) (fun _ M4 z => ?_)
            rw [if_neg z.1.ne]
            refine zwp_ret ⟨zfr_trans f03 z.2, Or.inl ⟨_, z.1, ?_⟩⟩
            rw [e3]
            refine yrZ_end re3.hn re3.rk.1 ?_
            rw [ystp_n]
            rw [if_neg (fun z => h34 z.1)]
            by_cases z0 : yrank (ytk b n p3) = 0 ∨ ytk b n p3 = 15
            · rw [if_pos z0, if_pos (by omega)]
            · rw [if_neg z0]
              have lt3 := ytk_lt re3.hb (p := p3)
              have rf := yrank_f _ lt3
              have r4 : yrank (ytk b n p3) = 4 := by
                have a1 := nt3.1 (by decide)
                have a2 := nt3.2.1 (by decide)
                have a3 := nt3.2.2.2.1 (by decide)
                have a4 := nt3.2.2.2.2 (by decide)
                have b1 : ¬ yrank (ytk b n p3) = 1 := fun z => a4 (rf.2.1.mp z)
                have b2 : ¬ yrank (ytk b n p3) = 2 := fun z => a3 (rf.2.2.1.mp z)
                have b3 : ¬ yrank (ytk b n p3) = 3 := fun z => z0 (Or.inr (rf.2.2.2.1.mp z))
                have b0 : ¬ yrank (ytk b n p3) = 0 := fun z => z0 (Or.inl z)
                omega
              rw [if_pos ⟨r4, nt3.2.2.1 (by decide) r4⟩]
    · rw [if_neg h33, mbd_some, if_pos rfl, re.rk.2.2.2.1]
      by_cases h37 : ytk b n p = 37
      · have vl := re.rk.2.2.2.2.2.2.1 h37
        have yl := yva_le (b := b) (n := n) (p := p)
        rw [if_pos (by rw [s3.2.2.1.mpr h37]; rfl), mbd_some, if_neg (by decide), vl]
        have st1 : 9999 < yva b n p → yrZ b n (true, p, w, out, cnt, opn) = .inl (2, ypl b n p) := fun z => by
          refine yrZ_end re.hn re.rk.1 ?_
          rw [ystp_a]
          rw [if_neg h33, if_neg (by omega), if_pos h37, if_pos (Or.inr z)]
        by_cases h9 : yva b n p ≤ 9999
        · rw [if_pos (by rw [show (9999 : Int32) = Int32.ofNat 9999 from rfl, zi_le (by omega) (by omega)]; exact h9), if_neg (by decide), mbd_some]
          have := r_leaf (w := w) re (.inl (Int32.ofNat (yva b n p))) rfl (s := 0) (v := Int32.ofNat (yva b n p)) rfl rfl (by
            by_cases hf : 64 ≤ cnt
            · rw [if_pos hf]
              refine yrZ_end re.hn re.rk.1 ?_
              rw [ystp_a]
              rw [if_neg h33, if_neg (by omega), if_pos h37, if_pos (Or.inl hf)]
            · rw [if_neg hf]
              refine yrZ_go re.hn re.hb re.rk.1 ?_
              rw [ystp_a]
              rw [if_neg h33, if_neg (by omega), if_pos h37, if_neg (by omega)])
          by_cases hf : 64 ≤ cnt
          · have kn : zwp (m_X8_knot M) (fun _ M' => yRF M' (2, ypl b n p) ∧ zfr (yEP K0) M M') := by
              unfold m_X8_knot
              rw [if_pos re.ok, if_pos (by rw [re.2.2.2.2.1, show cnt = 64 by omega]; rfl)]
              exact zwp_bd (re.wrong (k := 2) (by omega)) (fun _ M' z => zwp_ret z)
            refine zwp_bd kn (fun _ M1 z => ?_)
            obtain ⟨fl, f1⟩ := z
            rw [if_neg (by decide), mbd_some, if_neg (by decide), mbd_some, r_puts_f fl, mbd_some, r_goOn_f fl, mbd_some]
            refine zwp_ret ⟨f1, Or.inl ⟨_, fl, ?_⟩⟩
            refine yrZ_end re.hn re.rk.1 ?_
            rw [ystp_a]
            rw [if_neg h33, if_neg (by omega), if_pos h37, if_pos (Or.inl hf)]
          · have ek : m_X8_knot M = some ((), mup M 213 32 (Int32.ofNat (cnt + 1))) := by
              unfold m_X8_knot
              rw [if_pos re.ok, re.2.2.2.2.1, if_neg (by rw [show (64 : Int32) = Int32.ofNat 64 from rfl, zi_eq (by omega) (by omega)]; omega), mlt_eq, yi_nn]
            rw [ek, mbd_some] at this ⊢
            rw [if_neg (by decide), mbd_some, if_neg (by decide), mbd_some, mup_off' (by decide), vl]
            exact this
        · rw [if_neg (by rw [show (9999 : Int32) = Int32.ofNat 9999 from rfl, zi_le (by omega) (by omega)]; exact h9)]
          refine zwp_bd (Q' := fun _ M' => yRF M' (2, ypl b n p) ∧ zfr (yEP K0) M M') (zwp_bd (re.wrong (k := 2) (by omega)) (fun _ M' z => zwp_ret z)) (fun _ M1 z => ?_)
          obtain ⟨fl, f1⟩ := z
          rw [r_knot_f fl, mbd_some, if_neg (by decide), mbd_some, if_neg (by decide), mbd_some, r_puts_f fl, mbd_some, r_goOn_f fl, mbd_some]
          exact zwp_ret ⟨f1, Or.inl ⟨_, fl, st1 (by omega)⟩⟩
      · rw [if_neg (by rw [show (2 : Int32) = Int32.ofNat 2 from rfl, ysr_eq _ (by omega)]; exact fun z => h37 (s3.2.2.1.mp z)), mbd_some, if_pos rfl, if_pos rfl, re.rk.2.2.2.1]
        by_cases hw : 16 ≤ ytk b n p ∧ ytk b n p ≤ 22
        · have vl := re.rk.2.2.2.2.1 (by omega)
          rw [if_pos (by rw [s3.2.1.mpr (by omega)]; rfl), vl, if_pos (by rw [show (16 : Int32) = Int32.ofNat 16 from rfl, zi_le (by omega) (by omega)]; exact hw.1), mbd_some, zsl_r, mbd_some]
          have := r_leaf (w := w) re (.inr (.inl (ytk b n p - 16))) rfl (s := 1) (v := Int32.ofNat (ytk b n p - 16)) rfl rfl (by
            by_cases hf : 64 ≤ cnt
            · rw [if_pos hf]
              refine yrZ_end re.hn re.rk.1 ?_
              rw [ystp_a]
              rw [if_neg h33, if_neg (by omega), if_neg h37, if_pos hw, if_pos hf]
            · rw [if_neg hf]
              refine yrZ_go re.hn re.hb re.rk.1 ?_
              rw [ystp_a]
              rw [if_neg h33, if_neg (by omega), if_neg h37, if_pos hw, if_neg hf])
          by_cases hf : 64 ≤ cnt
          · have kn : zwp (m_X8_knot M) (fun _ M' => yRF M' (2, ypl b n p) ∧ zfr (yEP K0) M M') := by
              unfold m_X8_knot
              rw [if_pos re.ok, if_pos (by rw [re.2.2.2.2.1, show cnt = 64 by omega]; rfl)]
              exact zwp_bd (re.wrong (k := 2) (by omega)) (fun _ M' z => zwp_ret z)
            refine zwp_bd kn (fun _ M1 z => ?_)
            obtain ⟨fl, f1⟩ := z
            rw [if_pos rfl, mbd_some, if_pos rfl, mbd_some, r_puts_f fl, mbd_some, r_goOn_f fl, mbd_some]
            refine zwp_ret ⟨f1, Or.inl ⟨_, fl, ?_⟩⟩
            refine yrZ_end re.hn re.rk.1 ?_
            rw [ystp_a]
            rw [if_neg h33, if_neg (by omega), if_neg h37, if_pos hw, if_pos hf]
          · have ek : m_X8_knot M = some ((), mup M 213 32 (Int32.ofNat (cnt + 1))) := by
              unfold m_X8_knot
              rw [if_pos re.ok, re.2.2.2.2.1, if_neg (by rw [show (64 : Int32) = Int32.ofNat 64 from rfl, zi_eq (by omega) (by omega)]; omega), mlt_eq, yi_nn]
            rw [ek, mbd_some] at this ⊢
            rw [if_pos rfl, mbd_some, if_pos rfl, mbd_some, mup_off' (by decide), vl, show (16 : Int32) = Int32.ofNat 16 from rfl, yi_sub (by omega)]
            exact this
        · have wr : zwp (mbd (m_X8_wrong 1 M) (fun _ M11 => some ((), M11))) (fun _ M' => yRF M' (1, ypl b n p) ∧ zfr (yEP K0) M M') := zwp_bd (re.wrong (k := 1) (by omega)) (fun _ M' z => zwp_ret z)
          have st : yrZ b n (true, p, w, out, cnt, opn) = .inl (1, ypl b n p) := by
            refine yrZ_end re.hn re.rk.1 ?_
            rw [ystp_a]
            rw [if_neg h33]
            by_cases h15 : ytk b n p = 15
            · rw [if_pos h15, if_neg (by have := t15 (by decide) h15; omega)]
            · rw [if_neg h15, if_neg h37, if_neg hw]
          have fin : ∀ M1, yRF M1 (1, ypl b n p) ∧ zfr (yEP K0) M M1 → zwp (mbd (m_X8_knot M1) (fun v25 M24 =>
  mbd (α := Int32) (
  if (0 : Int32) = 0 then
  some (1, M24)
  else
  some (0, M24)) (fun e26 M27 =>
  mbd (α := Int32) (
  if (0 : Int32) = 0 then
  some (((M27.1 213 26) - 16), M27)
  else
  some ((M27.1 213 26), M27)) (fun e30 M31 =>
  mbd (m_X8_puts e26 e30 M31) (fun v33 M32 =>
  mbd (m_X8_goOn  M32) (fun v35 M34 =>
  some ((), M34))))))) (fun _ M' => zfr (yEP K0) M M' ∧ yPo b n K0 d 5 w (yrZ b n (true, p, w, out, cnt, opn)) cnt opn M') := by
            rintro M1 ⟨fl, f1⟩
            rw [r_knot_f fl, mbd_some, if_pos rfl, mbd_some, if_pos rfl, mbd_some, r_puts_f fl, mbd_some, r_goOn_f fl, mbd_some]
            exact zwp_ret ⟨f1, Or.inl ⟨_, fl, st⟩⟩
          by_cases h23 : ytk b n p < 23
          · rw [if_pos (by rw [s3.2.1.mpr h23]; rfl), re.rk.2.2.2.2.1 h23, if_neg (by rw [show (16 : Int32) = Int32.ofNat 16 from rfl, zi_le (by omega) (by omega)]; omega), mbd_some, zsl_l]
            exact zwp_bd wr (fun _ M1 z => fin M1 z)
          · rw [if_neg (by rw [show (0 : Int32) = Int32.ofNat 0 from rfl, ysr_eq _ (by omega)]; exact fun z => h23 (s3.2.1.mp z)), mbd_some, zsl_l]
            exact zwp_bd wr (fun _ M1 z => fin M1 z)
/-- the whole of it -/
theorem r_Esp : ∀ fu l d opn c0, l ≤ 5 → opn ≤ 8 → c0 ≤ 64 → 7 * (8 - opn) + (65 - c0) + yEc l ≤ fu → ySp b n K0 d l opn c0 (m_E fu l) := by
  intro fu
  induction fu with
  | zero =>
    intro l d opn c0 hl _ _ h
    have : 2 ≤ yEc l := by
      rcases (show l = 0 ∨ l = 1 ∨ l = 2 ∨ l = 3 ∨ l = 4 ∨ l = 5 by omega) with rfl | rfl | rfl | rfl | rfl | rfl <;> decide
    omega
  | succ fu ih =>
    intro l d opn c0 hl ho hc h
    rcases (show l = 0 ∨ l = 1 ∨ l = 2 ∨ l = 3 ∨ l = 4 ∨ l = 5 by omega) with rfl | rfl | rfl | rfl | rfl | rfl
    · have h : 7 * (8 - opn) + (65 - c0) + 7 ≤ fu + 1 := h
      have ge : ∀ d, ySp b n K0 d 1 opn c0 (m_E fu 1) := fun d => ih 1 d opn c0 (by omega) ho hc (by show _ + 6 ≤ _; omega)
      exact r_expr (F := m_E fu) (ge _) (ge _)
    · have h : 7 * (8 - opn) + (65 - c0) + 6 ≤ fu + 1 := h
      have ge : ∀ d, ySp b n K0 d 2 opn c0 (m_E fu 2) := fun d => ih 2 d opn c0 (by omega) ho hc (by show _ + 5 ≤ _; omega)
      exact r_conj (F := m_E fu) (ge _) (ge _)
    · have h : 7 * (8 - opn) + (65 - c0) + 5 ≤ fu + 1 := h
      have ge : ∀ d, ySp b n K0 d 3 opn c0 (m_E fu 3) := fun d => ih 3 d opn c0 (by omega) ho hc (by show _ + 4 ≤ _; omega)
      refine r_neg (F := m_E fu) (ge _) (ge _) ?_
      by_cases hc' : c0 < 64
      · exact ih 2 (d + 1) opn (c0 + 1) (by omega) ho (by omega) (by show _ + 5 ≤ _; omega)
      · refine ⟨fun M f fl => r_E_f fl fu 2 (by omega) (by show 5 ≤ _; omega), fun M p w out cnt re h1 => ?_⟩
        have := re.c64
        omega
    · have h : 7 * (8 - opn) + (65 - c0) + 4 ≤ fu + 1 := h
      have ge : ∀ d, ySp b n K0 d 4 opn c0 (m_E fu 4) := fun d => ih 4 d opn c0 (by omega) ho hc (by show _ + 3 ≤ _; omega)
      exact r_sum (F := m_E fu) (ge _) (ge _)
    · have h : 7 * (8 - opn) + (65 - c0) + 3 ≤ fu + 1 := h
      have ge : ∀ d, ySp b n K0 d 5 opn c0 (m_E fu 5) := fun d => ih 5 d opn c0 (by omega) ho hc (by show _ + 2 ≤ _; omega)
      exact r_prod (F := m_E fu) (ge _) (ge _)
    · have h : 7 * (8 - opn) + (65 - c0) + 2 ≤ fu + 1 := h
      refine r_prim (F := m_E fu) (fun h8 => ih 0 d (opn + 1) c0 (by omega) (by omega) hc (by show _ + 7 ≤ _; omega))
end

/-! the class goes on to the next token -/
section
variable {M : zMem} {b : Nat → Nat} {n : Nat}
theorem c_isLetter {x : Nat} (hx : x < 256) : m_X4_isLetter (yby x) M = some (if 97 ≤ x ∧ x ≤ 122 then 1 else 0, M) := by
  unfold m_X4_isLetter
  by_cases h : 97 ≤ x ∧ x ≤ 122
  · obtain ⟨y1, y2, -⟩ := (yby_c x hx).1 h
    rw [if_neg y1, if_neg y2, if_pos h]
  · rw [if_neg h]
    rcases (yby_c x hx).2 h with y | ⟨y1, y2⟩
    · rw [if_pos y]
    · rw [if_neg y1, if_pos y2]
theorem c_isDigit {x : Nat} (hx : x < 256) : m_X4_isDigit (yby x) M = some (if 48 ≤ x ∧ x ≤ 57 then 1 else 0, M) := by
  unfold m_X4_isDigit
  by_cases h : 48 ≤ x ∧ x ≤ 57
  · obtain ⟨y1, y2, -⟩ := (yby_d x hx).1 h
    rw [if_neg y1, if_neg y2, if_pos h]
  · rw [if_neg h]
    rcases (yby_d x hx).2 h with y | ⟨y1, y2⟩
    · rw [if_pos y]
    · rw [if_neg y1, if_pos y2]
theorem ypk6_lt (tx : ∀ i, i < n → b i < 256) {q : Nat} : ypk b q (yrn (ypc b) n q) 6 < 1073741824 := by
  refine ypk_lt (b := b) (q := q) (e := yrn (ypc b) n q) (fun k => ?_) 6 (Nat.le_refl _)
  unfold ycd
  split
  · next hk =>
    have g := of_decide_eq_true (yrn_in (P := ypc b) (n := n) (p := q) (i := q + k) (by omega) hk).2
    omega
  · omega
theorem c_advance (rb : yRb M n) (tx : yTx M b n) (ho : M.1 2 14 = 0) {p : Nat} (hp : p ≤ n) (hn : M.1 2 3 = Int32.ofNat p) : zwp (m_X4_advance M) (fun _ M' => yCk M' b n p ∧ zfr yRA M M') := by
  have ln := tx.1
  have hb : ∀ i, i < n → b i < 256 := fun i hi => (tx.2 i hi).1
  have pl := ypl_le (b := b) hp
  unfold m_X4_advance
  rw [if_pos ho]
  refine zwp_bd (Q' := fun _ M' => M'.1 2 3 = Int32.ofNat (ypl b n p) ∧ zfr (fun k i => k = 2 ∧ i = 3) M M') (zwp_lp (fun d _ M' => ∃ q, d = n - q ∧ q ≤ n ∧ M'.1 2 3 = Int32.ofNat q ∧ yrn (ypb b) n q = ypl b n p ∧ zfr (fun k i => k = 2 ∧ i = 3) M M') ?_ (n - p) _ _ ⟨p, rfl, hp, hn, rfl, zfr_refl⟩ (by have : zLF = 100000 := rfl; omega)) ?_
  · rintro d s M1 ⟨q, rfl, hq, e1, er, f1⟩
    have rb1 := rb.keep f1 (by omega) (by omega) (by omega)
    have tx1 := tx.keep f1 (by omega) (by omega)
    rw [rb1.2.1, e1]
    by_cases hl : q < n
    · have bx := hb _ hl
      have rd := tx1.rd hl rfl
      have zb : zbof (M1.1 2 1) = 1 := by rw [rb1.1]; rfl
      rw [if_neg (by rw [zi_le (by omega) (by omega)]; omega)]
      simp only [mlt_eq, zb, rd, zob_some]
      have yb := yby_b _ bx
      by_cases h10 : b q = 10
      · rw [if_pos (yb.1.mpr h10), mbd_some, zsl_l, e1]
        exact zwp_ret ⟨n - (q + 1), by omega, q + 1, rfl, by omega, mup_on.trans (yi_nn q), (yrn_go (P := ypb b) hl (decide_eq_true (Or.inl h10))).symm.trans er, zfr_trans f1 (zfr_mup ⟨rfl, rfl⟩)⟩
      · rw [if_neg (fun z => h10 (yb.1.mp z))]
        by_cases h32 : b q = 32
        · rw [if_pos (yb.2.1.mpr h32), mbd_some, zsl_l, e1]
          exact zwp_ret ⟨n - (q + 1), by omega, q + 1, rfl, by omega, mup_on.trans (yi_nn q), (yrn_go (P := ypb b) hl (decide_eq_true (Or.inr h32))).symm.trans er, zfr_trans f1 (zfr_mup ⟨rfl, rfl⟩)⟩
        · rw [if_neg (fun z => h32 (yb.2.1.mp z)), mbd_some, zsl_r]
          have st := yrn_st (P := ypb b) (n := n) (p := q) (fun z => (of_decide_eq_true z.2).elim h10 h32)
          exact zwp_ret ⟨by rw [← er, st]; exact e1, f1⟩
    · rw [if_pos (by rw [zi_le (by omega) (by omega)]; omega)]
      have st := yrn_st (P := ypb b) (n := n) (p := q) (fun z => hl z.1)
      exact zwp_ret ⟨by rw [← er, st]; exact e1, f1⟩
  · rintro _ M2 ⟨e2, f2⟩
    rw [mlt_eq, e2]
    have f3 : zfr (fun k i => k = 2 ∧ (i = 3 ∨ i = 5)) M (mup M2 2 5 (Int32.ofNat (ypl b n p))) := zfr_trans (zfr_weak f2 (by omega)) (zfr_mup (by omega))
    have e3 : (mup M2 2 5 (Int32.ofNat (ypl b n p))).1 2 3 = Int32.ofNat (ypl b n p) := (mup_off' (by decide)).trans e2
    have e5 : (mup M2 2 5 (Int32.ofNat (ypl b n p))).1 2 5 = Int32.ofNat (ypl b n p) := mup_on
    generalize mup M2 2 5 (Int32.ofNat (ypl b n p)) = M3 at f3 e3 e5 ⊢
    have rb3 := rb.keep f3 (by omega) (by omega) (by omega)
    have tx3 := tx.keep f3 (by omega) (by omega)
    rw [rb3.2.1, e3]
    by_cases hl : ypl b n p < n
    · have bx := hb _ hl
      have rd := tx3.rd hl rfl
      have zb : zbof (M3.1 2 1) = 1 := by rw [rb3.1]; rfl
      rw [if_pos (by rw [zi_lt (by omega) (by omega)]; exact hl)]
      simp only [mlt_eq, zb, rd, zob_some]
      rw [c_isLetter bx, mbd_some]
      by_cases hc : 97 ≤ b (ypl b n p) ∧ b (ypl b n p) ≤ 122
      · have hc' : ypc b (ypl b n p) = true := decide_eq_true hc
        rw [if_pos hc, if_neg (by decide)]
        refine zwp_bd (c_takeWord rb3 tx3 pl.2 e3) ?_
        rintro _ M4 ⟨w1, w2, f4⟩
        have g := yrn_ge (P := ypc b) (n := n) (p := ypl b n p)
        have gl := yrn_le (P := ypc b) (n := n) pl.2
        have en : ynx b n p = yrn (ypc b) n (ypl b n p) := by unfold ynx; rw [if_pos hl, if_pos hc']
        rw [w1, f4 2 5 (by omega), e5, yi_sub g]
        by_cases h6 : yrn (ypc b) n (ypl b n p) - ypl b n p ≤ 6
        · have et : ytk b n p = ywt (ypk b (ypl b n p) (yrn (ypc b) n (ypl b n p)) 6) 0 23 := by unfold ytk; rw [if_pos hl, if_pos hc', if_pos h6]
          rw [if_pos (by rw [show (6 : Int32) = Int32.ofNat 6 from rfl, zi_le (by omega) (by omega)]; exact h6), c_wordToken (rb3.keep f4 (by omega) (by omega) (by omega)) (ypk6_lt hb) (w2 h6), mbd_some, mbd_some]
          have wl := (ywt_le (x := ypk b (ypl b n p) (yrn (ypc b) n (ypl b n p)) 6) 23 0 rfl).2
          refine zwp_ret ⟨⟨hp, ?_, ?_, ?_, fun z => ?_, fun z => ?_⟩, zfr_trans (zfr_weak f3 (by unfold yRA; omega)) (zfr_trans (zfr_weak f4 (by unfold yRA; omega)) (zfr_mup (by unfold yRA; omega)))⟩
          · rw [mup_off' (by decide), en]; exact w1
          · rw [mup_off' (by decide), f4 2 5 (by omega)]; exact e5
          · rw [mup_on, et]
          · rw [et] at z; omega
          · rw [mup_off' (by decide)]; exact w2 h6
        · have et : ytk b n p = 39 := by unfold ytk; rw [if_pos hl, if_pos hc', if_neg h6]
          rw [if_neg (by rw [show (6 : Int32) = Int32.ofNat 6 from rfl, zi_le (by omega) (by omega)]; exact h6), mbd_some]
          refine zwp_ret ⟨⟨hp, ?_, ?_, ?_, fun z => ?_, fun z => ?_⟩, zfr_trans (zfr_weak f3 (by unfold yRA; omega)) (zfr_trans (zfr_weak f4 (by unfold yRA; omega)) (zfr_mup (by unfold yRA; omega)))⟩
          · rw [mup_off' (by decide), en]; exact w1
          · rw [mup_off' (by decide), f4 2 5 (by omega)]; exact e5
          · rw [mup_on, et]; rfl
          · rw [et] at z; omega
          · rw [et] at z; omega
      · have hc' : ¬ ypc b (ypl b n p) = true := fun z => hc (of_decide_eq_true z)
        rw [if_neg hc, if_pos rfl, zb, e3, rd, zob_some, c_isDigit bx, mbd_some]
        by_cases hd : 48 ≤ b (ypl b n p) ∧ b (ypl b n p) ≤ 57
        · have hd' : ypd b (ypl b n p) = true := decide_eq_true hd
          rw [if_pos hd, if_neg (by decide)]
          refine zwp_bd (c_takeNumber rb3 tx3 pl.2 e3) ?_
          rintro _ M4 ⟨w1, w2, f4⟩
          have en : ynx b n p = yrn (ypd b) n (ypl b n p) := by unfold ynx; rw [if_pos hl, if_neg hc', if_pos hd']
          have et : ytk b n p = 37 := by unfold ytk; rw [if_pos hl, if_neg hc', if_pos hd']
          refine zwp_ret ⟨⟨hp, ?_, ?_, ?_, fun z => ?_, fun z => ?_⟩, zfr_trans (zfr_weak f3 (by unfold yRA; omega)) (zfr_trans (zfr_weak f4 (by unfold yRA; omega)) (zfr_mup (by unfold yRA; omega)))⟩
          · rw [mup_off' (by decide), en]; exact w1
          · rw [mup_off' (by decide), f4 2 5 (by omega)]; exact e5
          · rw [mup_on, et]; rfl
          · refine ⟨_, (mup_off' (by decide)).trans w2, ?_⟩
            have vr := yv_rel (b := b) (q := ypl b n p) (yrn (ypd b) n (ypl b n p) - ypl b n p) (fun i hi => of_decide_eq_true (yrn_in (P := ypd b) (n := n) (p := ypl b n p) (i := ypl b n p + i) (by omega) (by omega)).2)
            rcases vr with ⟨v1, v2⟩ | ⟨v1, v2, v3, v4⟩
            · exact Or.inl ⟨v1, v2⟩
            · exact Or.inr ⟨v1, v2, v3⟩
          · rw [et] at z; omega
        · have hd' : ¬ ypd b (ypl b n p) = true := fun z => hd (of_decide_eq_true z)
          rw [if_neg hd, if_pos rfl, zb, e3, rd, zob_some, rb3.2.1]
          have et : ytk b n p = ysgN (b (ypl b n p)) (decide (ypl b n p + 1 < n ∧ b (ypl b n p + 1) = 61)) (decide (ypl b n p + 1 < n ∧ b (ypl b n p + 1) = 62)) := by unfold ytk; rw [if_pos hl, if_neg hc', if_neg hd']
          have lt := ysg_lt _ bx (decide (ypl b n p + 1 < n ∧ b (ypl b n p + 1) = 61)) (decide (ypl b n p + 1 < n ∧ b (ypl b n p + 1) = 62))
          have nb : ∃ a1, (if M3.1 2 2 ≤ M3.1 2 3 + 1 then some ((0 : Int32), M3) else zob (mrd M3 (zbof (M3.1 2 1)) (M3.1 2 3 + 1)) (fun v39 => some (v39, M3))) = some (a1, M3) ∧ decide (a1 = 61) = decide (ypl b n p + 1 < n ∧ b (ypl b n p + 1) = 61) ∧ decide (a1 = 62) = decide (ypl b n p + 1 < n ∧ b (ypl b n p + 1) = 62) := by
            rw [rb3.2.1, e3, yi_nn]
            by_cases hl2 : ypl b n p + 1 < n
            · have yb := yby_b _ (hb _ hl2)
              rw [if_neg (by rw [zi_le (by omega) (by omega)]; omega), zb, tx3.rd hl2 rfl, zob_some]
              refine ⟨_, rfl, decide_eq_decide.mpr ?_, decide_eq_decide.mpr ?_⟩
              · rw [yb.2.2.1]; exact ⟨fun z => ⟨hl2, z⟩, fun z => z.2⟩
              · rw [yb.2.2.2]; exact ⟨fun z => ⟨hl2, z⟩, fun z => z.2⟩
            · rw [if_pos (by rw [zi_le (by omega) (by omega)]; omega)]
              refine ⟨0, rfl, ?_, ?_⟩
              · rw [decide_eq_false (show ¬ (ypl b n p + 1 < n ∧ b (ypl b n p + 1) = 61) from fun z => hl2 z.1)]; rfl
              · rw [decide_eq_false (show ¬ (ypl b n p + 1 < n ∧ b (ypl b n p + 1) = 62) from fun z => hl2 z.1)]; rfl
          obtain ⟨a1, n1, n2, n3⟩ := nb
          rw [rb3.2.1, e3, zb] at n1
          rw [n1, mbd_some, c_signToken, mbd_some, n2, n3, ysg_e _ bx, ← et, mup_on]
          rw [← et] at lt
          have lit : ∀ k : Nat, k < 100 → ((Int32.ofNat (ytk b n p) = Int32.ofNat k) ↔ ytk b n p = k) := fun k hk => zi_eq (by omega) (by omega)
          have e2n : (if Int32.ofNat (ytk b n p) = 28 then some ((2 : Int32), mup M3 2 4 (Int32.ofNat (ytk b n p))) else if Int32.ofNat (ytk b n p) = 30 then some (2, mup M3 2 4 (Int32.ofNat (ytk b n p))) else if Int32.ofNat (ytk b n p) = 31 then some (2, mup M3 2 4 (Int32.ofNat (ytk b n p))) else some (1, mup M3 2 4 (Int32.ofNat (ytk b n p)))) = some (Int32.ofNat (ynx b n p - ypl b n p), mup M3 2 4 (Int32.ofNat (ytk b n p))) := by
            have en : ynx b n p = if ytk b n p = 28 ∨ ytk b n p = 30 ∨ ytk b n p = 31 then ypl b n p + 2 else ypl b n p + 1 := by unfold ynx; rw [if_pos hl, if_neg hc', if_neg hd']
            have l28 : (Int32.ofNat (ytk b n p) = 28) ↔ ytk b n p = 28 := lit 28 (by decide)
            have l30 : (Int32.ofNat (ytk b n p) = 30) ↔ ytk b n p = 30 := lit 30 (by decide)
            have l31 : (Int32.ofNat (ytk b n p) = 31) ↔ ytk b n p = 31 := lit 31 (by decide)
            by_cases z1 : ytk b n p = 28
            · rw [if_pos (l28.mpr z1), en, if_pos (Or.inl z1), show ypl b n p + 2 - ypl b n p = 2 by omega]; rfl
            · rw [if_neg (fun w => z1 (l28.mp w))]
              by_cases z2 : ytk b n p = 30
              · rw [if_pos (l30.mpr z2), en, if_pos (Or.inr (Or.inl z2)), show ypl b n p + 2 - ypl b n p = 2 by omega]; rfl
              · rw [if_neg (fun w => z2 (l30.mp w))]
                by_cases z3 : ytk b n p = 31
                · rw [if_pos (l31.mpr z3), en, if_pos (Or.inr (Or.inr z3)), show ypl b n p + 2 - ypl b n p = 2 by omega]; rfl
                · rw [if_neg (fun w => z3 (l31.mp w)), en, if_neg (by omega), show ypl b n p + 1 - ypl b n p = 1 by omega]; rfl
          rw [e2n, mbd_some, mup_off' (by decide), e3, ← Int32.ofNat_add]
          have gn := ynx_le hb hp
          refine zwp_ret ⟨⟨hp, ?_, ?_, ?_, fun z => ?_, fun z => ?_⟩, zfr_trans (zfr_weak f3 (by unfold yRA; omega)) (zfr_trans (zfr_mup (by unfold yRA; omega)) (zfr_mup (by unfold yRA; omega)))⟩
          · rw [mup_on]; congr 1; omega
          · rw [mup_off' (by decide), mup_off' (by decide)]; exact e5
          · rw [mup_off' (by decide), mup_on]
          · omega
          · omega
    · rw [if_neg (by rw [zi_lt (by omega) (by omega)]; exact hl)]
      have en : ynx b n p = ypl b n p := by unfold ynx; rw [if_neg hl]
      have et : ytk b n p = 38 := by unfold ytk; rw [if_neg hl]
      refine zwp_ret ⟨⟨hp, ?_, ?_, ?_, fun z => ?_, fun z => ?_⟩, zfr_trans (zfr_weak f3 (by unfold yRA; omega)) (zfr_mup (by unfold yRA; omega))⟩
      · rw [mup_off' (by decide), en]; exact e3
      · rw [mup_off' (by decide)]; exact e5
      · rw [mup_on, et]; rfl
      · rw [et] at z; omega
      · rw [et] at z; omega
end

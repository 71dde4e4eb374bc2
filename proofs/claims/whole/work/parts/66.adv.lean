/-! the class's tokens -/
theorem yor_of {a b : Nat} (ha : a < 2147483648) (hb : b < 2147483648) : Int32.ofNat a ||| Int32.ofNat b = Int32.ofNat (a ||| b) := by
  have hab : a ||| b < 2 ^ 31 := Nat.or_lt_two_pow ha hb
  rw [← Int32.toBitVec_inj, Int32.toBitVec_or]
  show BitVec.ofNat 32 a ||| BitVec.ofNat 32 b = BitVec.ofNat 32 (a ||| b)
  apply BitVec.eq_of_toNat_eq
  rw [BitVec.toNat_or, BitVec.toNat_ofNat, BitVec.toNat_ofNat, BitVec.toNat_ofNat, Nat.mod_eq_of_lt (by omega), Nat.mod_eq_of_lt (by omega), Nat.mod_eq_of_lt (by omega)]
theorem ysl5 {v : Nat} (hv : v < 33554432) : Int32.ofNat v <<< (5 &&& 31) = Int32.ofNat (32 * v) := by
  rw [← Int32.toBitVec_inj]
  show (BitVec.ofNat 32 v) <<< ((5 &&& 31 : Int32).toBitVec.smod 32) = BitVec.ofNat 32 (32 * v)
  rw [show (5 &&& 31 : Int32).toBitVec.smod 32 = 5#32 by decide]
  apply BitVec.eq_of_toNat_eq
  show ((BitVec.ofNat 32 v) <<< 5).toNat = _
  rw [BitVec.toNat_shiftLeft, BitVec.toNat_ofNat, BitVec.toNat_ofNat, Nat.shiftLeft_eq]
  omega
theorem yshc : ∀ c, c < 32 → ∀ i, i < 6 → (Int32.ofNat c) <<< ((5 * (5 - Int32.ofNat i)) &&& 31) = Int32.ofNat (c * 32 ^ (5 - i)) := by decide +kernel
theorem ypk_lt {b : Nat → Nat} {q e : Nat} (h : ∀ k, ycd b q e k < 32) : ∀ k, k ≤ 6 → ypk b q e k < 32 ^ k := by
  intro k
  induction k with
  | zero => intro _; show 0 < 1; decide
  | succ k ih =>
    intro hk
    have := ih (by omega)
    have := h k
    show 32 * ypk b q e k + ycd b q e k < 32 ^ (k + 1)
    rw [Nat.pow_succ]
    omega
/-- one letter more -/
theorem ypk_add {b : Nat → Nat} {q i : Nat} (hi : i < 6) : ypk b q (q + (i + 1)) 6 = ypk b q (q + i) 6 + (b (q + i) - 96) * 32 ^ (5 - i) := by
  have c1 : ∀ k, ycd b q (q + (i + 1)) k = if k < i + 1 then b (q + k) - 96 else 0 := fun k => by
    unfold ycd
    by_cases e : k < i + 1
    · rw [if_pos (by omega), if_pos e]
    · rw [if_neg (by omega), if_neg e]
  have c2 : ∀ k, ycd b q (q + i) k = if k < i then b (q + k) - 96 else 0 := fun k => by
    unfold ycd
    by_cases e : k < i
    · rw [if_pos (by omega), if_pos e]
    · rw [if_neg (by omega), if_neg e]
  simp only [ypk, c1, c2]
  rcases (show i = 0 ∨ i = 1 ∨ i = 2 ∨ i = 3 ∨ i = 4 ∨ i = 5 by omega) with rfl | rfl | rfl | rfl | rfl | rfl <;> simp <;> omega
theorem ypk_mul {b : Nat → Nat} {q i : Nat} (hi : i ≤ 6) : ∃ a, ypk b q (q + i) 6 = 32 ^ (6 - i) * a := by
  have c2 : ∀ k, ycd b q (q + i) k = if k < i then b (q + k) - 96 else 0 := fun k => by
    unfold ycd
    by_cases e : k < i
    · rw [if_pos (by omega), if_pos e]
    · rw [if_neg (by omega), if_neg e]
  refine ⟨ypk b q (q + i) i, ?_⟩
  simp only [ypk, c2]
  rcases (show i = 0 ∨ i = 1 ∨ i = 2 ∨ i = 3 ∨ i = 4 ∨ i = 5 ∨ i = 6 by omega) with rfl | rfl | rfl | rfl | rfl | rfl | rfl <;> simp [ypk, c2] <;> omega
section
variable {M : zMem} {b : Nat → Nat} {n : Nat}
theorem yTx.keep {M' : zMem} {P : Nat → Nat → Prop} (h : yTx M b n) (f : zfr P M M') (h1 : ∀ i, ¬ P 1 i) (h2 : ∀ i, ¬ P 214 i) : yTx M' b n := ⟨h.1, fun i hi => by rw [f _ _ (h1 i), f _ _ (h2 i)]; exact h.2 i hi⟩
theorem yRb.keep {M' : zMem} {P : Nat → Nat → Prop} (h : yRb M n) (f : zfr P M M') (h1 : ¬ P 2 1) (h2 : ¬ P 2 2) (h3 : ∀ i, ¬ P 3 i) : yRb M' n := ⟨(f _ _ h1).trans h.1, (f _ _ h2).trans h.2.1, fun w hw => (f _ _ (h3 w)).trans (h.2.2 w hw)⟩
theorem yTx.rd (h : yTx M b n) {q : Nat} {i : Int32} (hq : q < n) (e : i = Int32.ofNat q) : mrd M 1 i = some (yby (b q)) := by
  have l := h.1
  rw [mrd_of (k := 1) (j := q) (by show q < 700; omega) (by decide) e, (h.2 q hq).2.2]
theorem c_takeWord (rb : yRb M n) (tx : yTx M b n) {q : Nat} (hq : q ≤ n) (e : M.1 2 3 = Int32.ofNat q) : zwp (m_X4_takeWord M) (fun _ M' => M'.1 2 3 = Int32.ofNat (yrn (ypc b) n q) ∧ (yrn (ypc b) n q - q ≤ 6 → M'.1 2 7 = Int32.ofNat (ypk b q (yrn (ypc b) n q) 6)) ∧ zfr (fun k i => k = 2 ∧ (i = 3 ∨ i = 7)) M M') := by
  have ln := tx.1
  unfold m_X4_takeWord
  rw [mlt_eq]
  have zc : ∀ k, ycd b q (q + 0) k = 0 := fun k => if_neg (by omega)
  have z0 : ypk b q (q + 0) 6 = 0 := by simp only [ypk, zc]
  refine zwp_bd (Q' := fun _ M' => M'.1 2 3 = Int32.ofNat (yrn (ypc b) n q) ∧ (yrn (ypc b) n q - q ≤ 6 → M'.1 2 7 = Int32.ofNat (ypk b q (yrn (ypc b) n q) 6)) ∧ zfr (fun k i => k = 2 ∧ (i = 3 ∨ i = 7)) M M') (zwp_lp (fun d s M' => ∃ i, d = n - (q + i) ∧ q + i ≤ n ∧ s = Int32.ofNat i ∧ M'.1 2 3 = Int32.ofNat (q + i) ∧ yrn (ypc b) n (q + i) = yrn (ypc b) n q ∧ (i ≤ 6 → M'.1 2 7 = Int32.ofNat (ypk b q (q + i) 6)) ∧ zfr (fun k i => k = 2 ∧ (i = 3 ∨ i = 7)) M M') ?_ (n - q) _ _ ⟨0, rfl, hq, rfl, (mup_off' (by decide)).trans e, rfl, fun _ => by rw [z0]; exact mup_on, zfr_mup (by omega)⟩ (by have : zLF = 100000 := rfl; omega)) (fun _ M' z => zwp_ret z)
  rintro d s M1 ⟨i, rfl, hi, rfl, e1, er, e7, f1⟩
  have rb1 := rb.keep f1 (by omega) (by omega) (by omega)
  have tx1 := tx.keep f1 (by omega) (by omega)
  rw [rb1.2.1, e1]
  by_cases hl : q + i < n
  · have bx := (tx.2 _ hl).1
    have rd := tx1.rd hl rfl
    have zb : zbof (M1.1 2 1) = 1 := by rw [rb1.1]; rfl
    rw [if_neg (by rw [zi_le (by omega) (by omega)]; omega)]
    simp only [mlt_eq, zb, rd, zob_some]
    have yc := yby_c _ bx
    by_cases hc : 97 ≤ b (q + i) ∧ b (q + i) ≤ 122
    · obtain ⟨y1, y2, y3⟩ := yc.1 hc
      have go := yrn_go (P := ypc b) hl (decide_eq_true hc)
      simp only [y1, y2, if_false]
      refine zwp_bd (Q' := fun _ M2 => (i + 1 ≤ 6 → M2.1 2 7 = Int32.ofNat (ypk b q (q + (i + 1)) 6)) ∧ M2.1 2 3 = Int32.ofNat (q + i) ∧ zfr (fun k i => k = 2 ∧ (i = 3 ∨ i = 7)) M M2) ?_ ?_
      · by_cases h6 : i < 6
        · rw [if_neg (by rw [show (6 : Int32) = Int32.ofNat 6 from rfl, zi_le (by omega) (by omega)]; omega), e7 (by omega), y3]
          refine zwp_ret ⟨fun _ => ?_, (mup_off' (by decide)).trans e1, zfr_trans f1 (zfr_mup (by omega))⟩
          rw [mup_on]
          have ec : Int32.ofNat (b (q + i)) - 97 + 1 = Int32.ofNat (b (q + i) - 96) := by
            rw [show (97 : Int32) = Int32.ofNat 97 from rfl, yi_sub (by omega), yi_nn]
            congr 1
            omega
          rw [ec, yshc _ (by omega) i h6, ypk_add h6]
          obtain ⟨a, ea⟩ := ypk_mul (b := b) (q := q) (i := i) (by omega)
          have lt : ypk b q (q + i) 6 < 32 ^ 6 := by
            refine ypk_lt (fun k => ?_) 6 (Nat.le_refl _)
            unfold ycd
            split
            · next hk =>
              have g2 := (yrn_in (P := ypc b) (n := n) (p := q) (i := q + k) (by omega) (by
                have := yrn_ge (P := ypc b) (n := n) (p := q + i)
                omega)).2
              have g3 := of_decide_eq_true g2
              omega
            · omega
          have pw : 32 ^ (6 - i) = 32 * 32 ^ (5 - i) := by rw [show 6 - i = (5 - i) + 1 by omega, Nat.pow_succ, Nat.mul_comm]
          have pp : 32 ^ (5 - i) ≤ 32 ^ 5 := Nat.pow_le_pow_right (by decide) (by omega)
          have lc : (b (q + i) - 96) * 32 ^ (5 - i) < 32 ^ (6 - i) := by
            rw [pw]
            exact Nat.mul_lt_mul_of_pos_right (by omega) (Nat.pow_pos (by decide))
          have p6 : 32 ^ (6 - i) ≤ 32 ^ 6 := Nat.pow_le_pow_right (by decide) (by omega)
          have n6 : 32 ^ 6 = 1073741824 := by decide
          rw [yor_of (by omega) (by omega)]
          congr 1
          rw [ea]
          have e2 : 32 ^ (6 - i) = 2 ^ (5 * (6 - i)) := by rw [Nat.pow_mul]
          rw [e2] at lc ⊢
          exact (Nat.two_pow_add_eq_or_of_lt lc a).symm
        · rw [if_pos (by rw [show (6 : Int32) = Int32.ofNat 6 from rfl, zi_le (by omega) (by omega)]; omega)]
          exact zwp_ret ⟨fun z => absurd z (by omega), e1, f1⟩
      · rintro _ M2 ⟨g1, g2, g3⟩
        rw [g2]
        exact zwp_ret ⟨n - (q + (i + 1)), by omega, i + 1, rfl, by omega, yi_nn i, mup_on.trans (yi_nn _), go.symm.trans er, fun z => (mup_off' (by decide)).trans (g1 z), zfr_trans g3 (zfr_mup (by omega))⟩
    · have st := yrn_st (P := ypc b) (n := n) (p := q + i) (fun z => hc (of_decide_eq_true z.2))
      rw [st] at er
      have ex : M1.1 2 3 = Int32.ofNat (yrn (ypc b) n q) ∧ (yrn (ypc b) n q - q ≤ 6 → M1.1 2 7 = Int32.ofNat (ypk b q (yrn (ypc b) n q) 6)) ∧ zfr (fun k i => k = 2 ∧ (i = 3 ∨ i = 7)) M M1 := ⟨by rw [← er]; exact e1, by rw [← er]; exact fun z => e7 (by omega), f1⟩
      rcases yc.2 hc with y | ⟨y1, y2⟩
      · rw [if_pos y]; exact zwp_ret ex
      · rw [if_neg y1, if_pos y2]; exact zwp_ret ex
  · rw [if_pos (by rw [zi_le (by omega) (by omega)]; omega)]
    have st := yrn_st (P := ypc b) (n := n) (p := q + i) (fun z => hl z.1)
    rw [st] at er
    exact zwp_ret ⟨by rw [← er]; exact e1, by rw [← er]; exact fun z => e7 (by omega), f1⟩
theorem c_takeNumber (rb : yRb M n) (tx : yTx M b n) {q : Nat} (hq : q ≤ n) (e : M.1 2 3 = Int32.ofNat q) : zwp (m_X4_takeNumber M) (fun _ M' => M'.1 2 3 = Int32.ofNat (yrn (ypd b) n q) ∧ M'.1 2 6 = Int32.ofNat (yvc b q (yrn (ypd b) n q - q)) ∧ zfr (fun k i => k = 2 ∧ (i = 3 ∨ i = 6)) M M') := by
  have ln := tx.1
  unfold m_X4_takeNumber
  rw [mlt_eq]
  refine zwp_bd (Q' := fun _ M' => M'.1 2 3 = Int32.ofNat (yrn (ypd b) n q) ∧ M'.1 2 6 = Int32.ofNat (yvc b q (yrn (ypd b) n q - q)) ∧ zfr (fun k i => k = 2 ∧ (i = 3 ∨ i = 6)) M M') (zwp_lp (fun d _ M' => ∃ i, d = n - (q + i) ∧ q + i ≤ n ∧ M'.1 2 3 = Int32.ofNat (q + i) ∧ yrn (ypd b) n (q + i) = yrn (ypd b) n q ∧ M'.1 2 6 = Int32.ofNat (yvc b q i) ∧ zfr (fun k i => k = 2 ∧ (i = 3 ∨ i = 6)) M M') ?_ (n - q) _ _ ⟨0, rfl, hq, (mup_off' (by decide)).trans e, rfl, mup_on, zfr_mup (by omega)⟩ (by have : zLF = 100000 := rfl; omega)) (fun _ M' z => zwp_ret z)
  rintro d s M1 ⟨i, rfl, hi, e1, er, e6, f1⟩
  have rb1 := rb.keep f1 (by omega) (by omega) (by omega)
  have tx1 := tx.keep f1 (by omega) (by omega)
  rw [rb1.2.1, e1]
  by_cases hl : q + i < n
  · have bx := (tx.2 _ hl).1
    have rd := tx1.rd hl rfl
    have zb : zbof (M1.1 2 1) = 1 := by rw [rb1.1]; rfl
    rw [if_neg (by rw [zi_le (by omega) (by omega)]; omega)]
    simp only [mlt_eq, zb, rd, zob_some]
    have yc := yby_d _ bx
    by_cases hc : 48 ≤ b (q + i) ∧ b (q + i) ≤ 57
    · obtain ⟨y1, y2, y3⟩ := yc.1 hc
      have go := yrn_go (P := ypd b) hl (decide_eq_true hc)
      have vr : yvc b q i ≤ 1000000 := by
        cases i with
        | zero => show 0 ≤ _; omega
        | succ i =>
          show (if 1000000 < 10 * yvc b q i + (b (q + i) - 48) then 1000000 else 10 * yvc b q i + (b (q + i) - 48)) ≤ 1000000
          split <;> omega
      simp only [y1, y2, if_false]
      rw [ymbd_ite]
      have ev : (if M1.1 2 6 * 10 + yby (b (q + i)) - 48 ≤ 1000000 then M1.1 2 6 * 10 + yby (b (q + i)) - 48 else 1000000) = Int32.ofNat (yvc b q (i + 1)) := by
        have es : yvc b q (i + 1) = if 1000000 < 10 * yvc b q i + (b (q + i) - 48) then 1000000 else 10 * yvc b q i + (b (q + i) - 48) := rfl
        rw [e6, y3, show (10 : Int32) = Int32.ofNat 10 from rfl, ← Int32.ofNat_mul, ← Int32.ofNat_add, show (48 : Int32) = Int32.ofNat 48 from rfl, yi_sub (by omega), show yvc b q i * 10 + b (q + i) - 48 = 10 * yvc b q i + (b (q + i) - 48) by omega, es]
        rw [show (1000000 : Int32) = Int32.ofNat 1000000 from rfl]
        by_cases z : 10 * yvc b q i + (b (q + i) - 48) ≤ 1000000
        · rw [if_pos ((zi_le (by omega) (by omega)).mpr z), if_neg (by omega)]
        · rw [if_neg (fun w => z ((zi_le (by omega) (by omega)).mp w)), if_pos (by omega)]
      rw [ev, mup_off' (by decide), e1, yi_nn]
      exact zwp_ret ⟨n - (q + (i + 1)), by omega, i + 1, rfl, by omega, mup_on, go.symm.trans er, (mup_off' (by decide)).trans mup_on, zfr_trans f1 (zfr_trans (zfr_mup (by omega)) (zfr_mup (by omega)))⟩
    · have st := yrn_st (P := ypd b) (n := n) (p := q + i) (fun z => hc (of_decide_eq_true z.2))
      rw [st] at er
      have ex : M1.1 2 3 = Int32.ofNat (yrn (ypd b) n q) ∧ M1.1 2 6 = Int32.ofNat (yvc b q (yrn (ypd b) n q - q)) ∧ zfr (fun k i => k = 2 ∧ (i = 3 ∨ i = 6)) M M1 := ⟨by rw [← er]; exact e1, by rw [← er, show q + i - q = i by omega]; exact e6, f1⟩
      rcases yc.2 hc with y | ⟨y1, y2⟩
      · rw [if_pos y]; exact zwp_ret ex
      · rw [if_neg y1, if_pos y2]; exact zwp_ret ex
  · rw [if_pos (by rw [zi_le (by omega) (by omega)]; omega)]
    have st := yrn_st (P := ypd b) (n := n) (p := q + i) (fun z => hl z.1)
    rw [st] at er
    exact zwp_ret ⟨by rw [← er]; exact e1, by rw [← er, show q + i - q = i by omega]; exact e6, f1⟩
theorem ywt_le {x : Nat} : ∀ k w, w + k = 23 → ywt x w k ≤ 36 ∧ (ywt x w k < 23 ∨ ywt x w k = 36) := by
  intro k
  induction k with
  | zero => intro w _; exact ⟨Nat.le_refl _, Or.inr rfl⟩
  | succ k ih =>
    intro w hw
    show (if yWp w = x then w else ywt x (w + 1) k) ≤ 36 ∧ ((if yWp w = x then w else ywt x (w + 1) k) < 23 ∨ (if yWp w = x then w else ywt x (w + 1) k) = 36)
    split
    · exact ⟨by omega, Or.inl (by omega)⟩
    · exact ih (w + 1) (by omega)
theorem yWp_lt : ∀ w, w < 23 → yWp w < 1073741824 := by decide +kernel
theorem c_wordToken (rb : yRb M n) {x : Nat} (hx : x < 1073741824) (e : M.1 2 7 = Int32.ofNat x) : m_X4_wordToken M = some (Int32.ofNat (ywt x 0 23), M) := by
  refine zwp_out ?_
  unfold m_X4_wordToken
  refine zwp_bd (Q' := fun r M' => M' = M ∧ match r with
      | .inl _ => ywt x 0 23 = 36
      | .inr v => v = Int32.ofNat (ywt x 0 23)) (zwp_for 0 23 (fun c st M' => st = Int32.ofNat c ∧ M' = M ∧ ywt x 0 23 = ywt x c (23 - c)) ?_ ?_ ⟨rfl, rfl, rfl⟩ (by decide) (by decide)) ?_
  · rintro c st M' - hc ⟨rfl, rfl, es⟩
    have st : ywt x c (23 - c) = if yWp c = x then c else ywt x (c + 1) (23 - (c + 1)) := by
      rw [show 23 - c = (23 - (c + 1)) + 1 by omega]
      rfl
    have lw := yWp_lt c hc
    rw [if_neg (yge hc (by decide)), mrd_of (k := 3) (j := c) (by show c < 23; omega) (by decide), zob_some, rb.2.2 c hc, e]
    by_cases z : yWp c = x
    · rw [if_pos z] at st
      rw [if_pos (by rw [z])]
      exact zwp_ret ⟨rfl, by rw [es, st]⟩
    · rw [if_neg z] at st
      rw [if_neg (fun w => z ((zi_eq (by omega) (by omega)).mp w))]
      exact zwp_ret ⟨yi_nn c, rfl, es.trans st⟩
  · rintro st M' ⟨rfl, rfl, es⟩
    rw [if_pos (by decide)]
    exact zwp_ret ⟨rfl, es⟩
  · rintro r M' ⟨rfl, q⟩
    match r, q with
    | .inl _, q => rw [zsl_l]; exact zwp_ret ⟨by rw [q]; rfl, rfl⟩
    | .inr v, q => rw [zsl_r]; exact zwp_ret ⟨q, rfl⟩
end

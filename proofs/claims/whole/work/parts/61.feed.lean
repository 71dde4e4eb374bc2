/-! promise by promise: the tape -/
theorem ynar_b (y : Int32) : vp_nar .byte y = Int8.toInt32 (Int32.toInt8 y) := rfl
theorem yb_and (x : Int32) : Int32.toInt8 (x &&& 255) = Int32.toInt8 x := by
  rw [← Int8.toBitVec_inj, Int32.toBitVec_toInt8, Int32.toBitVec_toInt8, Int32.toBitVec_and, BitVec.signExtend_eq_setWidth_of_le _ (by decide), BitVec.signExtend_eq_setWidth_of_le _ (by decide), BitVec.setWidth_and, show BitVec.setWidth 8 (255 : Int32).toBitVec = BitVec.allOnes 8 by decide, BitVec.and_allOnes]
theorem yb_nat (y : Int32) : ∃ b, b < 256 ∧ (y &&& 255) = Int32.ofNat b := by
  have hb : (y &&& 255).toBitVec.msb = false := by
    rw [Int32.toBitVec_and, BitVec.msb_and, show (255 : Int32).toBitVec.msb = false by decide, Bool.and_false]
  have e' : (y &&& 255).toInt = ((y &&& 255).toBitVec.toNat : Int) := BitVec.toInt_eq_toNat_of_msb hb
  have l : (y &&& 255).toBitVec.toNat < 256 := by
    rw [Int32.toBitVec_and, BitVec.toNat_and]
    exact Nat.and_lt_two_pow (n := 8) _ (by decide)
  refine ⟨(y &&& 255).toBitVec.toNat, l, ?_⟩
  rw [← Int32.toInt_inj, Int32.toInt_ofNat_of_lt (by omega)]
  exact e'
/-- the j-th byte of a number -/
def ybx (a : Int32) (j : Nat) : Int32 := a >>> ((24 - 8 * Int32.ofNat j) &&& 31)
def yfa (a b c d e : Int32) (q : Nat) : Int32 := if q = 0 then a else if q = 1 then b else if q = 2 then c else if q = 3 then d else e
theorem yps : ∀ j, j < 4 → ¬ (24 - 8 * Int32.ofNat j) < 0 ∧ (24 - 8 * Int32.ofNat j) + (-8) = 24 - 8 * Int32.ofNat (j + 1) := by decide +kernel
def yPut (M M' : zMem) (n : Nat) (A : Nat → Int32) (q : Nat) : Prop :=
  M'.1 0 1 = Int32.ofNat (n + q) ∧ (∀ i, i < q → M'.1 1 (n + i) = vp_nar .byte (Int8.toInt32 (Int32.toInt8 (ybx (A (i / 4)) (i % 4))))) ∧ zfr (fun k i => (k = 0 ∧ i = 1) ∨ (k = 1 ∧ n ≤ i)) M M'
section
variable {W : Nat → Int32} {M : zMem} {t : Nat} {T : yT} {S : yA}
theorem c_putFour {M' : zMem} {n q : Nat} {A : Nat → Int32} (hn : n + 20 ≤ 700) (hq : q < 5) (h : yPut M M' n A (4 * q)) : zwp (m_X7_putFour (A q) M') (fun _ M2 => yPut M M2 n A (4 * (q + 1))) := by
  unfold m_X7_putFour
  refine zwp_bd (Q' := fun _ M2 => yPut M M2 n A (4 * (q + 1))) (zwp_for 0 4 (fun j st M2 => st = 24 - 8 * Int32.ofNat j ∧ yPut M M2 n A (4 * q + j)) ?_ ?_ ⟨by decide, h⟩ (by decide) (by decide)) (fun _ M2 z => zwp_ret z)
  · rintro j st M2 - hj ⟨rfl, p1, p2, p3⟩
    have pp := yps j hj
    rw [if_neg pp.1, p1, if_neg (by rw [show (700 : Int32) = Int32.ofNat 700 from rfl, zi_le (by omega) (by omega)]; omega), mwr_of (k := 1) (j := n + (4 * q + j)) (by show n + (4 * q + j) < 700; omega) (by decide) rfl, zob_some, mlt_eq, mup_off (by decide), p1, yi_nn]
    refine zwp_ret ⟨pp.2, mup_on, fun i hi => ?_, zfr_trans p3 (zfr_trans (zfr_mup (by omega)) (zfr_mup (by omega)))⟩
    rw [mup_off (by decide)]
    by_cases e : i = 4 * q + j
    · subst e
      rw [mup_on, show (4 * q + j) / 4 = q by omega, show (4 * q + j) % 4 = j by omega]
      rfl
    · rw [mup_off' (by omega)]
      exact p2 i (by omega)
  · rintro st M2 ⟨rfl, p⟩
    rw [if_pos (by decide)]
    exact zwp_ret (by rw [show 4 * (q + 1) = 4 * q + 4 by omega]; exact p)
theorem yImg.keep2 {M M' : zMem} {t : Nat} {T : yT} {P : Nat → Nat → Prop} (h : yImg M t T) (tt : t = 5 ∨ t = 24) (f : zfr P M M') (h0 : ¬ P 0 6) (h47 : ¬ P 213 47) (ht : ∀ k i, 5 ≤ k → k < 42 → ¬ P k i) (h5 : ∀ k i, 61 ≤ k → k < 79 → ¬ P k i) (h1 : ¬ P 213 49) (h2 : ¬ P 213 50) (h3 : ∀ k i, 215 ≤ k → k < 232 → ¬ P k i) (h4 : ∀ k i, k ≠ 213 → yTR 2 k i → ¬ P k i) : yImg M' t T := by
  refine ⟨?_, ?_⟩
  · rw [f _ _ h0, f _ _ h47]; exact h.eq
  · rw [f _ _ h0]
    rcases h.cs with e | ⟨e, SI, a, b, c⟩
    · exact Or.inl e
    · exact Or.inr ⟨e, SI, a.keep2 f (fun k i q1 q2 => ht k i (by omega) (by omega)) (fun k i q1 q2 => h5 k i (by omega) (by omega)), b.keep f h1 h2 h3 h4, c⟩
theorem p_feed (h : yI W M t T S) (a b c d e : Int32) : yPr W (m_X7_feed a b c d e M) (m_X8_feed a b c d e) := by
  have tt : t = 5 ∨ t = 24 := h.cs.ct.tt
  obtain ⟨n, tap⟩ := h.tap
  have hle := tap.le
  unfold m_X7_feed m_X8_feed
  have k1 : (M.1 0 1 + 20 ≤ 700) ↔ n + 20 ≤ 700 := by rw [tap.c1, show (20 : Int32) = Int32.ofNat 20 from rfl, ← Int32.ofNat_add, show (700 : Int32) = Int32.ofNat 700 from rfl, zi_le (by omega) (by omega)]
  have k2 : (Int32.ofNat n ≤ 680) ↔ n + 20 ≤ 700 := by rw [show (680 : Int32) = Int32.ofNat 680 from rfl, zi_le (by omega) (by omega)]; omega
  by_cases hn : n + 20 ≤ 700
  · unfold yPr
    rw [if_pos (k1.mpr hn)]
    have p0 : yPut M M n (yfa a b c d e) (4 * 0) := ⟨tap.c1, fun i hi => absurd hi (by omega), zfr_refl⟩
    have w0 := c_putFour (q := 0) (A := yfa a b c d e) hn (by decide) p0
    rw [show yfa a b c d e 0 = a from rfl] at w0
    refine zwp_bd w0 ?_
    rintro _ M1 p1
    have w1 := c_putFour (q := 1) (A := yfa a b c d e) hn (by decide) p1
    rw [show yfa a b c d e 1 = b from rfl] at w1
    refine zwp_bd w1 ?_
    rintro _ M2 p2
    have w2 := c_putFour (q := 2) (A := yfa a b c d e) hn (by decide) p2
    rw [show yfa a b c d e 2 = c from rfl] at w2
    refine zwp_bd w2 ?_
    rintro _ M3 p3
    have w3 := c_putFour (q := 3) (A := yfa a b c d e) hn (by decide) p3
    rw [show yfa a b c d e 3 = d from rfl] at w3
    refine zwp_bd w3 ?_
    rintro _ M4 p4
    have w4 := c_putFour (q := 4) (A := yfa a b c d e) hn (by decide) p4
    rw [show yfa a b c d e 4 = e from rfl] at w4
    refine zwp_bd w4 ?_
    rintro _ M5 p5
    obtain ⟨q1, q2, q3⟩ := p5
    rw [q1]
    refine zwp_ret ?_
    show zwp (mlt _ _) _
    rw [mlt_eq]
    have r1 : (mup M5 213 0 0).1 213 2 = Int32.ofNat n := (mup_off' (by decide)).trans ((q3 213 2 (by omega)).trans tap.r1)
    have f6 : zfr (fun k i => (k = 0 ∧ i = 1) ∨ (k = 1 ∧ n ≤ i) ∨ (k = 213 ∧ i = 0)) M (mup M5 213 0 0) := zfr_trans (zfr_weak q3 (by omega)) (zfr_mup (by omega))
    have l6 : ∀ k i, k < 213 → (mup M5 213 0 0).1 k i = M5.1 k i := fun k i hk => mup_off (by omega)
    generalize mup M5 213 0 0 = M6 at r1 f6 l6 ⊢
    rw [r1, if_pos (k2.mpr hn)]
    refine yfor (n := 20) (I := fun x M' => M'.1 213 2 = Int32.ofNat n ∧ (∀ i, i < x → M'.1 214 (n + i) = ybx (yfa a b c d e (i / 4)) (i % 4) &&& 255) ∧ zfr (fun k i => k = 214 ∧ n ≤ i) M6 M') ⟨r1, fun i hi => absurd hi (by omega), zfr_refl⟩ (by decide) ?_ (fun M' _ => if_pos (by decide)) (fun _ M7 z => ?_)
    · rintro x M7 hx ⟨z1, z2, z3⟩
      rw [if_neg (yge hx (by decide))]
      have sel : (if 4 ≤ Int32.ofNat x then if 8 ≤ Int32.ofNat x then if 12 ≤ Int32.ofNat x then if 16 ≤ Int32.ofNat x then some (e, M7) else some (d, M7) else some (c, M7) else some (b, M7) else some (a, M7)) = some (yfa a b c d e (x / 4), M7) := by
        have c4 : ((4 : Int32) ≤ Int32.ofNat x) ↔ 4 ≤ x := by rw [show (4 : Int32) = Int32.ofNat 4 from rfl, zi_le (by omega) (by omega)]
        have c8 : ((8 : Int32) ≤ Int32.ofNat x) ↔ 8 ≤ x := by rw [show (8 : Int32) = Int32.ofNat 8 from rfl, zi_le (by omega) (by omega)]
        have c12 : ((12 : Int32) ≤ Int32.ofNat x) ↔ 12 ≤ x := by rw [show (12 : Int32) = Int32.ofNat 12 from rfl, zi_le (by omega) (by omega)]
        have c16 : ((16 : Int32) ≤ Int32.ofNat x) ↔ 16 ≤ x := by rw [show (16 : Int32) = Int32.ofNat 16 from rfl, zi_le (by omega) (by omega)]
        unfold yfa
        by_cases h4 : 4 ≤ x
        · rw [if_pos (c4.mpr h4)]
          by_cases h8 : 8 ≤ x
          · rw [if_pos (c8.mpr h8)]
            by_cases h12 : 12 ≤ x
            · rw [if_pos (c12.mpr h12)]
              by_cases h16 : 16 ≤ x
              · rw [if_pos (c16.mpr h16), if_neg (by omega), if_neg (by omega), if_neg (by omega), if_neg (by omega)]
              · rw [if_neg (fun w => h16 (c16.mp w)), if_neg (by omega), if_neg (by omega), if_neg (by omega), if_pos (by omega)]
            · rw [if_neg (fun w => h12 (c12.mp w)), if_neg (by omega), if_neg (by omega), if_pos (by omega)]
          · rw [if_neg (fun w => h8 (c8.mp w)), if_neg (by omega), if_pos (by omega)]
        · rw [if_neg (fun w => h4 (c4.mp w)), if_pos (by omega)]
      rw [sel, mbd_some, z1, mwr_of (k := 214) (j := n + x) (by show n + x < 700; omega) (by decide), zob_some]
      have er : zrm (Int32.ofNat x) 4 = Int32.ofNat (x % 4) := yrm_of (b := 4) (by omega) (by decide)
      rw [er]
      refine zwp_ret ⟨rfl, (mup_off (by decide)).trans z1, fun i hi => ?_, zfr_trans z3 (zfr_mup (by omega))⟩
      by_cases e : i = x
      · subst e; exact mup_on
      · rw [mup_off' (by omega)]; exact z2 i (by omega)
    obtain ⟨z1, z2, z3⟩ := z
    rw [mlt_eq, z1, mup_on, show (20 : Int32) = Int32.ofNat 20 from rfl, ← Int32.ofNat_add]
    have f8 : zfr (fun k i => (k = 0 ∧ i = 1) ∨ (k = 1 ∧ n ≤ i) ∨ (k = 213 ∧ (i = 0 ∨ i = 2)) ∨ (k = 214 ∧ n ≤ i)) M (mup M7 213 2 (Int32.ofNat (n + 20))) := zfr_trans (zfr_weak f6 (by omega)) (zfr_trans (zfr_weak z3 (by omega)) (zfr_mup (by omega)))
    have lo : ∀ k i, k < 213 → (mup M7 213 2 (Int32.ofNat (n + 20))).1 k i = M5.1 k i := fun k i hk => by rw [mup_off (by omega), z3 k i (by omega), l6 k i hk]
    have hi : ∀ i, (mup M7 213 2 (Int32.ofNat (n + 20))).1 214 i = M7.1 214 i := fun i => mup_off (by decide)
    have k13 : (mup M7 213 2 (Int32.ofNat (n + 20))).1 213 2 = Int32.ofNat (n + 20) := mup_on
    generalize mup M7 213 2 (Int32.ofNat (n + 20)) = M8 at f8 lo hi k13 ⊢
    obtain ⟨N, no⟩ := h.no
    refine zwp_ret ⟨rfl, t, T, S, h.re f8 (by intro k i hk; unfold yCore yT3 yTR at hk; omega) (h.img.keep2 tt f8 (by omega) (by omega) (by omega) (by omega) (by omega) (by omega) (by omega) (by unfold yTR; omega)) ⟨N, no.keep f8 (by omega) (by omega) (by omega) (by omega)⟩ ⟨n + 20, hn, (lo _ _ (by decide)).trans q1, k13, fun i hi20 => ?_⟩⟩
    by_cases ei : i < n
    · obtain ⟨x, x1, x2, x3⟩ := tap.bt i ei
      exact ⟨x, x1, (f8 214 i (by omega)).trans x2, (f8 1 i (by omega)).trans x3⟩
    · have v1 := q2 (i - n) (by omega)
      have v2 := z2 (i - n) (by omega)
      rw [show n + (i - n) = i by omega] at v1 v2
      obtain ⟨x, x1, x2⟩ := yb_nat (ybx (yfa a b c d e ((i - n) / 4)) ((i - n) % 4))
      refine ⟨x, x1, by rw [hi, v2, x2], ?_⟩
      rw [lo _ _ (by decide), v1, ← x2, ynar_b, ynar_b, yb_and, Int8.toInt8_toInt32]
  · refine yPr.qq h (v := -1) ?_ ?_
    · rw [if_neg (fun z => hn (k1.mp z))]
    · rw [mlt_eq, mup_off' (by decide), tap.r1, if_neg (fun z => hn (k2.mp z))]
end

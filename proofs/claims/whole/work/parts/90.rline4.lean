/-! the reference's line: ground, and what the words tell once -/
section
variable {M : zMem} {b : Nat → Nat} {n p : Nat} {T : yT} {la : Nat → Nat} {K u : Nat}
theorem r_groundB (h : yRG M b n (ynx b n p)) (ct : yRU M T la) (gs : ∀ c, c < 24 → T.ground c = 0 ∨ T.ground c = 1 ∨ T.ground c = 2) (v : Int32) : zwp (m_X8_groundLine v M) (fun _ M' => yRp b n la (aground b n T v p) M M') := by
  have wk : ∀ {M1 M2 : zMem}, zfr yRv M1 M2 → zfr yRLn M1 M2 := fun fr => zfr_weak fr (by unfold yRv yRLn; omega)
  unfold m_X8_groundLine
  refine r_num h (lo := 0) (hi := 5) (by decide) (by decide) (fun f M1 e fl f1 => ?_) (fun x p1 M1 e rg f1 => ?_)
  · rw [if_neg fl.ne]
    exact zwp_ret ⟨wk f1, Or.inl ⟨f, by unfold aground acell; rw [e], fl⟩⟩
  · have rk := rg.2.2.2
    have lt := ytk_lt rg.hb (p := p1)
    have s3 := ysrt_3 _ lt
    have ct1 := ct.rd f1 (by unfold yRv; omega)
    have a1 := anum_inr e
    rw [if_pos rg.2.2.1, rk.2.2.2.1]
    by_cases h37 : ytk b n p1 = 37
    · have vl := rk.2.2.2.2.2.2.1 h37
      have yl := yva_le (b := b) (n := n) (p := p1)
      rw [if_pos (by rw [s3.2.2.1.mpr h37]; rfl), vl]
      by_cases y3 : yva b n p1 ≤ 3
      · have ea : acell b n (ynx b n p) = .inr (6 * yva b n p1 + x, ypl b n p1, ynx b n p1) := by
          unfold acell
          rw [e]
          simp only
          unfold anum
          rw [if_pos h37, if_pos ⟨Nat.zero_le _, y3⟩]
        have ix : 24 + 6 * yva b n p1 + x = 24 + (6 * yva b n p1 + x) := by omega
        have gc := ct1.ground (6 * yva b n p1 + x) (by omega)
        rw [if_pos (by rw [show (3 : Int32) = Int32.ofNat 3 from rfl, zi_le (by omega) (by omega)]; exact y3), mrd_of (k := 216) (j := 24 + 6 * yva b n p1 + x) (by show _ < 48; omega), zob_some, ix, gc]
        by_cases g0 : T.ground (6 * yva b n p1 + x) = 0
        · rw [g0, if_pos (by decide), mbd_some, if_pos rg.2.2.1, vl, mwr_of (k := 216) (j := 24 + 6 * yva b n p1 + x) (by show _ < 48; omega), zob_some, ix]
          have f2 : zfr (fun k i => k = 216 ∧ 24 ≤ i) M1 (mup M1 216 (24 + (6 * yva b n p1 + x)) v) := zfr_mup (by omega)
          have ct2 : yRU (mup M1 216 (24 + (6 * yva b n p1 + x)) v) (T.setG (6 * yva b n p1 + x) v) la := ct1.setG
          have rg2 : yRG (mup M1 216 (24 + (6 * yva b n p1 + x)) v) b n p1 := rg.keep f2 (by omega) (by rw [f2 213 27 (by omega)]; exact rg.2.2.1) (rk.keep f2 (by omega))
          refine zwp_bd rg2.token (fun _ M3 y => zwp_ret ⟨zfr_trans (wk f1) (zfr_trans (zfr_weak f2 (by unfold yRLn; omega)) (zfr_weak y.2 (by unfold yRB yRLn; omega))), Or.inr ⟨_, _, by unfold aground; rw [ea]; simp only; rw [if_pos g0], y.1, ct2.rd y.2 (by unfold yRB; omega)⟩⟩)
        · have ng : ¬ T.ground (6 * yva b n p1 + x) ≤ 0 := by
            rcases gs (6 * yva b n p1 + x) (by omega) with z | z | z
            · exact absurd z g0
            · rw [z]; decide
            · rw [z]; decide
          rw [if_neg ng]
          refine zwp_bd (Q' := fun _ M' => yRF M' (3, ypl b n p1) ∧ zfr yRv M1 M') (zwp_bd (rg.wrong (k := 3) (by omega)) (fun _ M1 y => zwp_ret y)) (fun _ M2 y => ?_)
          rw [if_neg y.1.ne]
          exact zwp_ret ⟨wk (zfr_trans f1 y.2), Or.inl ⟨_, by unfold aground; rw [ea]; simp only; rw [if_neg g0], y.1⟩⟩
      · rw [if_neg (by rw [show (3 : Int32) = Int32.ofNat 3 from rfl, zi_le (by omega) (by omega)]; exact y3)]
        refine zwp_bd (Q' := fun _ M' => yRF M' (2, ypl b n p1) ∧ zfr yRv M1 M') (zwp_bd (rg.wrong (k := 2) (by omega)) (fun _ M1 y => zwp_ret y)) (fun _ M2 y => ?_)
        rw [if_neg y.1.ne]
        refine zwp_ret ⟨wk (zfr_trans f1 y.2), Or.inl ⟨_, ?_, y.1⟩⟩
        unfold aground acell
        rw [e]
        simp only
        unfold anum
        rw [if_pos h37, if_neg (by omega)]
    · rw [if_neg (by rw [show (2 : Int32) = Int32.ofNat 2 from rfl, ysr_eq _ (by omega)]; exact fun z => h37 (s3.2.2.1.mp z))]
      refine zwp_bd (Q' := fun _ M' => yRF M' (1, ypl b n p1) ∧ zfr yRv M1 M') (zwp_bd (rg.wrong (k := 1) (by omega)) (fun _ M1 y => zwp_ret y)) (fun _ M2 y => ?_)
      rw [if_neg y.1.ne]
      refine zwp_ret ⟨wk (zfr_trans f1 y.2), Or.inl ⟨_, ?_, y.1⟩⟩
      unfold aground acell
      rw [e]
      simp only
      unfold anum
      rw [if_neg h37]
/-! is it full -/
theorem r_full0 {w : Nat} (hw : w < 40) (h2 : ¬ w = 2) (h3 : ¬ w = 3) (h4 : ¬ w = 4) (h5 : ¬ w = 5) : m_X8_isFull (Int32.ofNat w) M = some (0, M) := by
  unfold m_X8_isFull
  rw [if_neg (by rw [show (2 : Int32) = Int32.ofNat 2 from rfl, zi_eq (by omega) (by omega)]; exact h2), if_neg (by rw [show (3 : Int32) = Int32.ofNat 3 from rfl, zi_eq (by omega) (by omega)]; exact h3), if_neg (by rw [show (4 : Int32) = Int32.ofNat 4 from rfl, zi_eq (by omega) (by omega)]; exact h4), if_neg (by rw [show (5 : Int32) = Int32.ofNat 5 from rfl, zi_eq (by omega) (by omega)]; exact h5)]
theorem r_full2 (ct : yRU M T la) (hc : T.nf ≤ 5) : m_X8_isFull (Int32.ofNat 2) M = some (if 5 ≤ T.nf then 1 else 0, M) := by
  have fe : ∀ {M' : zMem}, m_X8_fresher 0 M' = some (M'.1 215 8, M') := r_fresher (a := 0) (by decide)
  unfold m_X8_isFull
  rw [if_pos (by decide), fe, mbd_some, ct.nf]
  by_cases z : 5 ≤ T.nf
  · rw [if_pos z, if_pos (by rw [show (5 : Int32) = Int32.ofNat 5 from rfl, zi_eq (by omega) (by omega)]; omega)]
  · rw [if_neg z, if_neg (by rw [show (5 : Int32) = Int32.ofNat 5 from rfl, zi_eq (by omega) (by omega)]; omega), if_neg (by decide), if_neg (by decide), if_neg (by decide)]
theorem r_full3 (ct : yRU M T la) (hc : T.nc ≤ 8) : m_X8_isFull (Int32.ofNat 3) M = some (if 8 ≤ T.nc then 1 else 0, M) := by
  have fe : ∀ {M' : zMem}, m_X8_fresher 1 M' = some (M'.1 215 9, M') := r_fresher (a := 1) (by decide)
  unfold m_X8_isFull
  rw [if_neg (by decide), if_pos (by decide), fe, mbd_some, ct.nc]
  by_cases z : 8 ≤ T.nc
  · rw [if_pos z, if_pos (by rw [show (8 : Int32) = Int32.ofNat 8 from rfl, zi_eq (by omega) (by omega)]; omega)]
  · rw [if_neg z, if_neg (by rw [show (8 : Int32) = Int32.ofNat 8 from rfl, zi_eq (by omega) (by omega)]; omega), if_neg (by decide), if_neg (by decide)]
theorem r_full4 (ct : yRU M T la) (hc : T.nh ≤ 6) : m_X8_isFull (Int32.ofNat 4) M = some (if 6 ≤ T.nh then 1 else 0, M) := by
  have fe : ∀ {M' : zMem}, m_X8_fresher 2 M' = some (M'.1 215 10, M') := r_fresher (a := 2) (by decide)
  unfold m_X8_isFull
  rw [if_neg (by decide), if_neg (by decide), if_pos (by decide), fe, mbd_some, ct.nh]
  by_cases z : 6 ≤ T.nh
  · rw [if_pos z, if_pos (by rw [show (6 : Int32) = Int32.ofNat 6 from rfl, zi_eq (by omega) (by omega)]; omega)]
  · rw [if_neg z, if_neg (by rw [show (6 : Int32) = Int32.ofNat 6 from rfl, zi_eq (by omega) (by omega)]; omega), if_neg (by decide)]
theorem r_full5 (ct : yRU M T la) (hc : T.nw ≤ 12) : m_X8_isFull (Int32.ofNat 5) M = some (if 12 ≤ T.nw then 1 else 0, M) := by
  have fe : ∀ {M' : zMem}, m_X8_fresher 3 M' = some (M'.1 215 11, M') := r_fresher (a := 3) (by decide)
  unfold m_X8_isFull
  rw [if_neg (by decide), if_neg (by decide), if_neg (by decide), if_pos (by decide), fe, mbd_some, ct.nw]
  by_cases z : 12 ≤ T.nw
  · rw [if_pos z, if_pos (by rw [show (12 : Int32) = Int32.ofNat 12 from rfl, zi_eq (by omega) (by omega)]; omega)]
  · rw [if_neg z, if_neg (by rw [show (12 : Int32) = Int32.ofNat 12 from rfl, zi_eq (by omega) (by omega)]; omega)]
/-! the word of what was told -/
def yWd (M : zMem) (T : yT) (u : Nat) : Prop := ∃ a, a < 1048576 ∧ M.1 213 20 = Int32.ofNat a ∧ (∀ k, 6 ≤ k → k ≤ 8 → a.testBit k = u.testBit k) ∧ ∀ k, k < 3 → (a.testBit (16 + k) = true ↔ ¬ T.law k = [])
/-- how many knots there are, and where they lie -/
def yKq (M : zMem) (T : yT) (K : Nat) (la : Nat → Nat) : Prop := M.1 213 32 = Int32.ofNat K ∧ M.1 213 31 = 0 ∧ T.knots = Int32.ofNat K ∧ K ≤ 64 ∧ ∀ k, k < 3 → la k + (T.law k).length ≤ K
theorem yWd.tell (h : yWd M T u) {w : Nat} (hw : w ≤ 9) : yWd (mup M 213 20 (M.1 213 20 ||| (1 <<< (Int32.ofNat w &&& 31)))) T (if 6 ≤ w ∧ w ≤ 8 then u ||| 2 ^ w else u) := by
  obtain ⟨a, a1, a2, a3, a4⟩ := h
  have o := ybt_o a1 (show w < 20 by omega)
  refine ⟨a ||| 2 ^ w, o.2, by rw [mup_on, a2]; exact o.1, fun k k1 k2 => ?_, fun k hk => ?_⟩
  · rw [ybt_or, a3 k k1 k2]
    by_cases z : 6 ≤ w ∧ w ≤ 8
    · rw [if_pos z, ybt_or]
    · rw [if_neg z, show decide (w = k) = false from decide_eq_false (by omega), Bool.or_false]
  · rw [ybt_or, show decide (w = 16 + k) = false from decide_eq_false (by omega), Bool.or_false]
    exact a4 k hk
theorem yWd.keep {M' : zMem} {P : Nat → Nat → Prop} {T' : yT} (h : yWd M T u) (fr : zfr P M M') (hP : ¬ P 213 20) (e : T'.law = T.law) : yWd M' T' u := by
  obtain ⟨a, a1, a2, a3, a4⟩ := h
  exact ⟨a, a1, (fr _ _ hP).trans a2, a3, by rw [e]; exact a4⟩
theorem yKq.keep {M' : zMem} {P : Nat → Nat → Prop} {T' : yT} (h : yKq M T K la) (fr : zfr P M M') (h1 : ¬ P 213 31) (h2 : ¬ P 213 32) (e : T'.knots = T.knots) (e2 : T'.law = T.law) : yKq M' T' K la := by
  obtain ⟨a1, a2, a3, a4, a5⟩ := h
  exact ⟨(fr _ _ h2).trans a1, (fr _ _ h1).trans a2, e.trans a3, a4, by rw [e2]; exact a5⟩
end

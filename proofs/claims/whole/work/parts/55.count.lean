/-! promise by promise: counts, lacks, whose, swaps -/
def yKn (N : yNs) : Int32 := if N.kb = -1 then Int32.ofNat N.n else N.kb
theorem c_readable {M : zMem} {N : yNs} (h : yNot M N) : m_X3_readable M = some (yKn N, M) := by
  unfold m_X3_readable yKn
  rw [h.c1, h.c2]
  split <;> rfl
theorem r_knownMany {M : zMem} {N : yNs} (h : yNot M N) : m_X8_knownMany M = some (yKn N, M) := by
  unfold m_X8_knownMany yKn
  rw [h.r1, h.r2]
  split <;> rfl
section
variable {W : Nat → Int32} {M : zMem} {t : Nat} {T : yT} {S : yA}
theorem p_count (h : yI W M t T S) (a : Int32) : yPr W (m_X7_count a M) (m_X8_count a) := by
  have h1 := h.thr 0
  obtain ⟨n, B, u⟩ := h.und
  obtain ⟨N, no⟩ := h.no
  have no1 : yNot (mup M 213 0 0) N := no.keep (P := fun k i => k = 213 ∧ i = 0) (zfr_mup ⟨rfl, rfl⟩) (by omega) (by omega) (by omega) (by omega)
  have hh : S.hour < 2147483648 := by have := h.hr; omega
  unfold m_X7_count m_X8_count
  by_cases g0 : a = 0
  · refine yPr.qq h (v := Int32.ofNat T.nf) ?_ ?_
    · rw [if_pos g0, mlt_eq, h.tp, h.cs.ct.nf]
    · rw [mlt_eq, if_pos g0, h1.rs.rt.rNf, zob_some]
  by_cases g1 : a = 1
  · refine yPr.qq h (v := Int32.ofNat T.nc) ?_ ?_
    · rw [if_neg g0, if_pos g1, mlt_eq, h.tp, h.cs.ct.nc]
    · rw [mlt_eq, if_neg g0, if_pos g1, h1.rs.rt.rNc, zob_some]
  by_cases g2 : a = 2
  · refine yPr.qq h (v := Int32.ofNat T.nh) ?_ ?_
    · rw [if_neg g0, if_neg g1, if_pos g2, mlt_eq, h.tp, h.cs.ct.nh]
    · rw [mlt_eq, if_neg g0, if_neg g1, if_pos g2, h1.rs.rt.rNh, zob_some]
  by_cases g3 : a = 3
  · refine yPr.qq h (v := Int32.ofNat T.nw) ?_ ?_
    · rw [if_neg g0, if_neg g1, if_neg g2, if_pos g3, mlt_eq, h.tp, h.cs.ct.nw]
    · rw [mlt_eq, if_neg g0, if_neg g1, if_neg g2, if_pos g3, h1.rs.rt.rNw, zob_some]
  by_cases g4 : a = 4
  · refine yPr.qq h (v := T.knots) ?_ ?_
    · rw [if_neg g0, if_neg g1, if_neg g2, if_neg g3, if_pos g4, mlt_eq, h.tp, h.cs.ct.knots]
    · rw [mlt_eq, if_neg g0, if_neg g1, if_neg g2, if_neg g3, if_pos g4, h1.rs.rt.rKnots, zob_some]
  by_cases g5 : a = 5
  · refine yPr.qq h (v := Int32.ofNat S.hour) ?_ ?_
    · rw [if_neg g0, if_neg g1, if_neg g2, if_neg g3, if_neg g4, if_pos g5, h.cs.hour]
    · rw [mlt_eq, if_neg g0, if_neg g1, if_neg g2, if_neg g3, if_neg g4, if_pos g5, h1.rs.rHour0, zob_some]
  by_cases g6 : a = 6
  · refine yPr.qq h (v := ywn T 0 S) ?_ ?_
    · rw [if_neg g0, if_neg g1, if_neg g2, if_neg g3, if_neg g4, if_neg g5, if_pos g6, c_wind h.cs hh, mbd_some]
    · rw [mlt_eq, if_neg g0, if_neg g1, if_neg g2, if_neg g3, if_neg g4, if_neg g5, if_pos g6, r_wind (a := 0) h1.rs hh (-1) h1.mis.c, mbd_some, show (if (0 : Int32) = 1 then 0 else if (-1 : Int32) = -1 then ywn T 0 S else -1) = ywn T 0 S from yww_n T 0 S]
  by_cases g7 : a = 7
  · refine yPr.qq h (v := yup S 1 T.nc) ?_ ?_
    · rw [if_neg g0, if_neg g1, if_neg g2, if_neg g3, if_neg g4, if_neg g5, if_neg g6, if_pos g7, c_howMany h.cs, mbd_some]
    · rw [mlt_eq, if_neg g0, if_neg g1, if_neg g2, if_neg g3, if_neg g4, if_neg g5, if_neg g6, if_pos g7, r_upMany (a := 0) h1.rs, mbd_some]
  by_cases g8 : a = 8
  · refine yPr.qq h (v := yup S 0 T.nc) ?_ ?_
    · rw [if_neg g0, if_neg g1, if_neg g2, if_neg g3, if_neg g4, if_neg g5, if_neg g6, if_neg g7, if_pos g8, c_howMany h.cs, mbd_some]
    · rw [mlt_eq, if_neg g0, if_neg g1, if_neg g2, if_neg g3, if_neg g4, if_neg g5, if_neg g6, if_neg g7, if_pos g8, r_howMany (a := 0) h1.rs (by decide), mbd_some]
  by_cases g9 : a = 9
  · refine yPr.qq h (v := yup S 2 T.nc) ?_ ?_
    · rw [if_neg g0, if_neg g1, if_neg g2, if_neg g3, if_neg g4, if_neg g5, if_neg g6, if_neg g7, if_neg g8, if_pos g9, c_howMany h.cs, mbd_some]
    · rw [mlt_eq, if_neg g0, if_neg g1, if_neg g2, if_neg g3, if_neg g4, if_neg g5, if_neg g6, if_neg g7, if_neg g8, if_pos g9, r_howMany (a := 0) h1.rs (by decide), mbd_some]
  by_cases g10 : a = 10
  · refine yPr.qq h (v := zsum S.got T.nf) ?_ ?_
    · rw [if_neg g0, if_neg g1, if_neg g2, if_neg g3, if_neg g4, if_neg g5, if_neg g6, if_neg g7, if_neg g8, if_neg g9, if_pos g10, c_rainInAll h.cs, mbd_some]
    · rw [mlt_eq, if_neg g0, if_neg g1, if_neg g2, if_neg g3, if_neg g4, if_neg g5, if_neg g6, if_neg g7, if_neg g8, if_neg g9, if_pos g10, r_rainAll (a := 0) h1.rs, mbd_some]
  by_cases g11 : a = 11
  · refine yPr.qq h (v := zsum S.marks T.nh) ?_ ?_
    · rw [if_neg g0, if_neg g1, if_neg g2, if_neg g3, if_neg g4, if_neg g5, if_neg g6, if_neg g7, if_neg g8, if_neg g9, if_neg g10, if_pos g11, c_marksInAll h.cs, mbd_some]
    · rw [mlt_eq, if_neg g0, if_neg g1, if_neg g2, if_neg g3, if_neg g4, if_neg g5, if_neg g6, if_neg g7, if_neg g8, if_neg g9, if_neg g10, if_pos g11, r_marksAll (a := 0) h1.rs, mbd_some]
  by_cases g12 : a = 12
  · refine yPr.qq h (v := Int32.ofNat N.n) ?_ ?_
    · rw [if_neg g0, if_neg g1, if_neg g2, if_neg g3, if_neg g4, if_neg g5, if_neg g6, if_neg g7, if_neg g8, if_neg g9, if_neg g10, if_neg g11, if_pos g12, no.c1]
    · rw [mlt_eq, if_neg g0, if_neg g1, if_neg g2, if_neg g3, if_neg g4, if_neg g5, if_neg g6, if_neg g7, if_neg g8, if_neg g9, if_neg g10, if_neg g11, if_pos g12, no1.r1]
  by_cases g13 : a = 13
  · refine yPr.qq h (v := yKn N) ?_ ?_
    · rw [if_neg g0, if_neg g1, if_neg g2, if_neg g3, if_neg g4, if_neg g5, if_neg g6, if_neg g7, if_neg g8, if_neg g9, if_neg g10, if_neg g11, if_neg g12, if_pos g13, c_readable no, mbd_some]
    · rw [mlt_eq, if_neg g0, if_neg g1, if_neg g2, if_neg g3, if_neg g4, if_neg g5, if_neg g6, if_neg g7, if_neg g8, if_neg g9, if_neg g10, if_neg g11, if_neg g12, if_pos g13, r_knownMany no1, mbd_some]
  by_cases g14 : a = 14
  · refine yPr.qq h (v := Int32.ofNat n) ?_ ?_
    · rw [if_neg g0, if_neg g1, if_neg g2, if_neg g3, if_neg g4, if_neg g5, if_neg g6, if_neg g7, if_neg g8, if_neg g9, if_neg g10, if_neg g11, if_neg g12, if_neg g13, if_pos g14, u.c1]
    · rw [mlt_eq, if_neg g0, if_neg g1, if_neg g2, if_neg g3, if_neg g4, if_neg g5, if_neg g6, if_neg g7, if_neg g8, if_neg g9, if_neg g10, if_neg g11, if_neg g12, if_neg g13, if_pos g14, mup_off' (by decide), u.r1]
  refine yPr.qq h (v := -1) ?_ ?_
  · rw [if_neg g0, if_neg g1, if_neg g2, if_neg g3, if_neg g4, if_neg g5, if_neg g6, if_neg g7, if_neg g8, if_neg g9, if_neg g10, if_neg g11, if_neg g12, if_neg g13, if_neg g14]
  · rw [mlt_eq, if_neg g0, if_neg g1, if_neg g2, if_neg g3, if_neg g4, if_neg g5, if_neg g6, if_neg g7, if_neg g8, if_neg g9, if_neg g10, if_neg g11, if_neg g12, if_neg g13, if_neg g14]
def ylk (T : yT) (S : yA) (n : Nat) : Int32 := zorr (fun f => if S.got f < T.need f then ybit f else 0) n
theorem p_lacks (h : yI W M t T S) : yPr W (m_X7_lacks M) m_X8_lacks := by
  have h1 := h.thr 0
  have b3 := h.cs.tk.nf
  unfold m_X7_lacks m_X8_lacks
  refine yPr.qq h (v := ylk T S T.nf) ?_ ?_
  · refine zwp_out ?_
    refine zwp_bd (Q' := fun b M' => b.1 = ylk T S T.nf ∧ M' = M) (zwp_for 0 T.nf (fun c st M' => st = (ylk T S c, Int32.ofNat c) ∧ M' = M) ?_ ?_ ⟨rfl, rfl⟩ (Nat.zero_le _) (by have : zLF = 100000 := rfl; omega)) ?_
    · rintro c st M' - hc ⟨rfl, rfl⟩
      simp only [mlt_eq, h.tp, h.cs.ct.lnf h.cs.tk hc, if_false, c_lacksRain h.cs hc, mbd_some]
      by_cases e : S.got c < T.need c
      · simp only [e, if_true, one_ne, if_false, zwp_some, yi_nn, ylk, zorr, ybit, and_self]
      · simp only [e, if_true, if_false, zwp_some, yi_nn, ylk, zorr, yor0, and_self]
    · rintro st M' ⟨rfl, rfl⟩
      simp only [mlt_eq, h.tp, h.cs.ct.enf, if_true, zwp_some, and_self]
    · rintro b M' ⟨e, rfl⟩
      exact zwp_ret ⟨e, rfl⟩
  · rw [mlt_eq]
    refine zwp_out ?_
    refine zwp_bd (Q' := fun b M' => b.1 = ylk T S T.nf ∧ M' = mup M 213 0 0) (zwp_for 0 T.nf (fun c st M' => st = (ylk T S c, Int32.ofNat c) ∧ M' = mup M 213 0 0) ?_ ?_ ⟨rfl, rfl⟩ (Nat.zero_le _) (by have : zLF = 100000 := rfl; omega)) ?_
    · rintro c st M' - hc ⟨rfl, rfl⟩
      simp only [h1.rs.rt.rNf, zob_some, yle_f hc (by omega), if_false, h1.rs.rGot0 hc, h1.rs.rt.rNeed h.cs.tk hc]
      by_cases e : S.got c < T.need c
      · rw [if_neg (Int32.not_le.mpr e)]
        simp only [e, if_true, zwp_some, yi_nn, ylk, zorr, ybit, and_self]
      · rw [if_pos (Int32.not_lt.mp e)]
        simp only [e, if_false, zwp_some, yi_nn, ylk, zorr, yor0, and_self]
    · rintro st M' ⟨rfl, rfl⟩
      simp only [h1.rs.rt.rNf, zob_some, yle_t, if_true, zwp_some, and_self]
    · rintro b M' ⟨e, rfl⟩
      exact zwp_ret ⟨e, rfl⟩
def ywh (S : yA) (f : Nat) : Nat → Int32 × Int32 := fun n => zfd (fun h b => if b.2 < S.rained h f then (Int32.ofNat h, S.rained h f) else b) n (-2, 0)
theorem p_whose (h : yI W M t T S) (a : Int32) : yPr W (m_X7_whose a M) (m_X8_whose a) := by
  have h1 := h.thr 0
  have b2 := h.cs.tk.nh
  have b3 := h.cs.tk.nf
  unfold m_X7_whose m_X8_whose
  rcases y_isField h a with ⟨e1, e2⟩ | ⟨f, hf, rfl, e1, e2⟩
  · refine yPr.qq h (v := -1) ?_ ?_
    · simp only [e1, mbd_some, if_true]
    · simp only [mlt_eq, e2 _ h1.rs.rt, mbd_some, if_true]
  · refine yPr.qq h (v := (ywh S f T.nh).1) ?_ ?_
    · simp only [e1, mbd_some, one_ne, if_false]
      refine zwp_out ?_
      refine zwp_bd (Q' := fun b M' => b.1 = (ywh S f T.nh).1 ∧ M' = M) (zwp_for 0 T.nh (fun c st M' => st = ((ywh S f c).1, (ywh S f c).2, Int32.ofNat c) ∧ M' = M) ?_ ?_ ⟨rfl, rfl⟩ (Nat.zero_le _) (by have : zLF = 100000 := rfl; omega)) ?_
      · rintro c st M' - hc ⟨rfl, rfl⟩
        simp only [mlt_eq, h.tp, h.cs.ct.lnh h.cs.tk hc, if_false, h.cs.rw hc, zob_some, h.cs.rRained hc hf]
        have es : ywh S f (c + 1) = if (ywh S f c).2 < S.rained c f then (Int32.ofNat c, S.rained c f) else ywh S f c := rfl
        by_cases e : (ywh S f c).2 < S.rained c f
        · rw [if_neg (Int32.not_le.mpr e)]
          rw [if_pos e] at es
          exact zwp_ret ⟨by rw [es, yi_nn], rfl⟩
        · rw [if_pos (Int32.not_lt.mp e)]
          rw [if_neg e] at es
          exact zwp_ret ⟨by rw [es, yi_nn], rfl⟩
      · rintro st M' ⟨rfl, rfl⟩
        simp only [mlt_eq, h.tp, h.cs.ct.enh, if_true, zwp_some, and_self]
      · rintro b M' ⟨e, rfl⟩
        exact zwp_ret ⟨e, rfl⟩
    · simp only [mlt_eq, e2 _ h1.rs.rt, mbd_some, one_ne, if_false]
      refine zwp_out ?_
      refine zwp_bd (Q' := fun b M' => b.1 = (ywh S f T.nh).1 ∧ M' = mup M 213 0 0) (zwp_for 0 T.nh (fun c st M' => st = ((ywh S f c).1, (ywh S f c).2, Int32.ofNat c) ∧ M' = mup M 213 0 0) ?_ ?_ ⟨rfl, rfl⟩ (Nat.zero_le _) (by have : zLF = 100000 := rfl; omega)) ?_
      · rintro c st M' - hc ⟨rfl, rfl⟩
        have rd : mrd (mup M 213 0 0) 244 (7 * Int32.ofNat f + Int32.ofNat c) = some (S.rained c f) := by
          rw [mrd_of (k := 244) (j := 7 * f + c) (by show 7 * f + c < 805; omega) (by decide)]
          have z := h1.rs.rained c f hc hf
          rw [show 35 * 0 + 7 * f + c = 7 * f + c by omega] at z
          rw [z]
        simp only [h1.rs.rt.rNh, zob_some, yle_f hc (by omega), if_false, rd]
        have es : ywh S f (c + 1) = if (ywh S f c).2 < S.rained c f then (Int32.ofNat c, S.rained c f) else ywh S f c := rfl
        by_cases e : (ywh S f c).2 < S.rained c f
        · rw [if_pos e]
          rw [if_pos e] at es
          exact zwp_ret ⟨by rw [es, yi_nn], rfl⟩
        · rw [if_neg e]
          rw [if_neg e] at es
          exact zwp_ret ⟨by rw [es, yi_nn], rfl⟩
      · rintro st M' ⟨rfl, rfl⟩
        simp only [h1.rs.rt.rNh, zob_some, yle_t, if_true, zwp_some, and_self]
      · rintro b M' ⟨e, rfl⟩
        exact zwp_ret ⟨e, rfl⟩
end
/-! lists of what is found, one behind another -/
def ylst (p : Nat → Prop) [DecidablePred p] (g : Nat → Int32) : Nat → List Int32
  | 0 => []
  | c + 1 => ylst p g c ++ (if p c then [g c] else [])
theorem ylst_len {p : Nat → Prop} [DecidablePred p] {g : Nat → Int32} (n : Nat) : (ylst p g n).length ≤ n := by
  induction n with
  | zero => exact Nat.le_refl _
  | succ n ih =>
    show (ylst p g n ++ _).length ≤ _
    rw [List.length_append]
    split
    · show _ + 1 ≤ _; omega
    · show _ + 0 ≤ _; omega
theorem ylst_pre {p : Nat → Prop} [DecidablePred p] {g : Nat → Int32} {c : Nat} (d : Nat) : ∃ r, ylst p g (c + d) = ylst p g c ++ r := by
  induction d with
  | zero => exact ⟨[], (List.append_nil _).symm⟩
  | succ d ih =>
    obtain ⟨r, e⟩ := ih
    refine ⟨r ++ (if p (c + d) then [g (c + d)] else []), ?_⟩
    show ylst p g (c + d) ++ _ = _
    rw [e, List.append_assoc]
    rfl
theorem ylst_low {p : Nat → Prop} [DecidablePred p] {g : Nat → Int32} {n : Nat} (h : ∀ c, c < n → ¬ p c) : ylst p g n = [] := by
  induction n with
  | zero => rfl
  | succ n ih =>
    show ylst p g n ++ _ = _
    rw [ih (fun c hc => h c (by omega)), if_neg (h n (by omega))]
    rfl
/-- the one of number a; how many, for -1 -/
def yget (L : List Int32) (a : Int32) : Int32 := if a = -1 then Int32.ofNat L.length else (L[a.toNatClampNeg]?).getD (-2)
theorem yget_hit {L r : List Int32} {x : Int32} {a : Int32} (h : Int32.ofNat L.length = a) (hl : L.length < 2147483648) : yget (L ++ [x] ++ r) a = x := by
  subst h
  unfold yget
  rw [if_neg (zi_n1 hl), zi_cl hl, List.append_assoc, List.getElem?_append_right (Nat.le_refl _), Nat.sub_self]
  rfl
abbrev yswR (S : yA) (a : Nat) : Nat → List Int32 := ylst (fun c => a < c ∧ ysw S a c) (fun c => 10 * Int32.ofNat a + Int32.ofNat c)
def yswL (S : yA) (n : Nat) : Nat → List Int32
  | 0 => []
  | a + 1 => yswL S n a ++ yswR S a n
theorem yswL_len {S : yA} {n : Nat} (a : Nat) : (yswL S n a).length ≤ a * n := by
  induction a with
  | zero => exact Nat.zero_le _
  | succ a ih =>
    show (yswL S n a ++ yswR S a n).length ≤ _
    rw [List.length_append, Nat.succ_mul]
    have := ylst_len (p := fun c => a < c ∧ ysw S a c) (g := fun c => 10 * Int32.ofNat a + Int32.ofNat c) n
    exact Nat.add_le_add ih this
theorem yswL_pre {S : yA} {n a : Nat} (d : Nat) : ∃ r, yswL S n (a + d) = yswL S n a ++ r := by
  induction d with
  | zero => exact ⟨[], (List.append_nil _).symm⟩
  | succ d ih =>
    obtain ⟨r, e⟩ := ih
    refine ⟨r ++ yswR S (a + d) n, ?_⟩
    show yswL S n (a + d) ++ _ = _
    rw [e, List.append_assoc]
    rfl
theorem yswL_at {S : yA} {n a c : Nat} (ha : a < n) (hc : c < n) (h : a < c ∧ ysw S a c) : ∃ r, yswL S n n = (yswL S n a ++ yswR S a c) ++ [10 * Int32.ofNat a + Int32.ofNat c] ++ r := by
  obtain ⟨r1, e1⟩ := yswL_pre (S := S) (n := n) (a := a + 1) (n - (a + 1))
  obtain ⟨r2, e2⟩ := ylst_pre (p := fun c => a < c ∧ ysw S a c) (g := fun c => 10 * Int32.ofNat a + Int32.ofNat c) (c := c + 1) (n - (c + 1))
  rw [show a + 1 + (n - (a + 1)) = n by omega] at e1
  rw [show c + 1 + (n - (c + 1)) = n by omega] at e2
  refine ⟨r2 ++ r1, ?_⟩
  rw [e1]
  show yswL S n a ++ yswR S a n ++ r1 = _
  rw [show yswR S a n = yswR S a (c + 1) ++ r2 from e2]
  have e3 : yswR S a (c + 1) = yswR S a c ++ [10 * Int32.ofNat a + Int32.ofNat c] := by
    show yswR S a c ++ (if a < c ∧ ysw S a c then _ else _) = _
    rw [if_pos h]
  rw [e3]
  simp only [List.append_assoc]
theorem yswR_skip {S : yA} {a c : Nat} (h : ¬ (a < c ∧ ysw S a c)) : yswR S a (c + 1) = yswR S a c := by
  show yswR S a c ++ (if a < c ∧ ysw S a c then _ else _) = _
  rw [if_neg h, List.append_nil]
theorem yswR_take {S : yA} {a c : Nat} (h : a < c ∧ ysw S a c) : (yswR S a (c + 1)).length = (yswR S a c).length + 1 := by
  show (yswR S a c ++ (if a < c ∧ ysw S a c then _ else _)).length = _
  rw [if_pos h, List.length_append]
  rfl
section
variable {W : Nat → Int32} {M : zMem} {t : Nat} {T : yT} {S : yA}
theorem r_swapOf (h : yRS M 0 0 T S) {a : Int32} (ha : a = -1 ∨ ¬ a < 0) : m_X8_swapOf a M = some (yget (yswL S T.nc T.nc) a, M) := by
  have b1 := h.tk.nc
  have hfu : zLF = 100000 := rfl
  have ln : ∀ x c, x ≤ T.nc → c ≤ T.nc → (yswL S T.nc x ++ yswR S x c).length < 1000 := by
    intro x c hx hc
    rw [List.length_append]
    have l1 := yswL_len (S := S) (n := T.nc) x
    have l2 := ylst_len (p := fun c => x < c ∧ ysw S x c) (g := fun c => 10 * Int32.ofNat x + Int32.ofNat c) c
    have l3 : x * T.nc ≤ 8 * 8 := Nat.mul_le_mul (by omega) (by omega)
    have l2 : (yswR S x c).length ≤ c := l2
    omega
  refine zwp_out ?_
  unfold m_X8_swapOf
  refine zwp_bd (Q' := fun b M' => M' = M ∧ match b with
      | .inl e => e.1 = Int32.ofNat (yswL S T.nc T.nc).length ∧ (a = -1 ∨ (yswL S T.nc T.nc).length ≤ a.toNatClampNeg)
      | .inr r => r = yget (yswL S T.nc T.nc) a) (zwp_for 0 T.nc (fun x st M' => st = (Int32.ofNat (yswL S T.nc x).length, Int32.ofNat x) ∧ M' = M ∧ (a = -1 ∨ (yswL S T.nc x).length ≤ a.toNatClampNeg)) ?_ ?_ ⟨rfl, rfl, Or.inr (Nat.zero_le _)⟩ (Nat.zero_le _) (by omega)) ?_
  · rintro x st M' - hx ⟨rfl, rfl, hl⟩
    simp only [h.rt.rNc, zob_some, yle_f hx (by omega), if_false]
    refine zwp_bd (Q' := fun b M2 => M2 = M' ∧ match b with
        | .inl e => e.1 = Int32.ofNat (yswL S T.nc x ++ yswR S x T.nc).length ∧ (a = -1 ∨ (yswL S T.nc x ++ yswR S x T.nc).length ≤ a.toNatClampNeg)
        | .inr (.inr (.inr r)) => r = yget (yswL S T.nc T.nc) a
        | _ => False) (zwp_for (x + 1) T.nc (fun c st M2 => st = (Int32.ofNat (yswL S T.nc x ++ yswR S x c).length, Int32.ofNat c) ∧ M2 = M' ∧ (a = -1 ∨ (yswL S T.nc x ++ yswR S x c).length ≤ a.toNatClampNeg)) ?_ ?_ ⟨?_, rfl, ?_⟩ (by omega) (by omega)) ?_
    · rintro c st M' hxc hc ⟨rfl, rfl, hl⟩
      have l1 := ln x c (by omega) (by omega)
      simp only [h.rt.rNc, zob_some, yle_f hc (by omega), if_false, r_wouldSwap h hx hc, mbd_some]
      by_cases e : ysw S x c
      · rw [if_pos e, if_neg (by decide)]
        by_cases ef : Int32.ofNat (yswL S T.nc x ++ yswR S x c).length = a
        · rw [if_pos ef]
          obtain ⟨r, er⟩ := yswL_at hx hc ⟨by omega, e⟩
          exact zwp_ret ⟨rfl, by rw [er]; exact (yget_hit ef (by omega)).symm⟩
        · rw [if_neg ef]
          have lt : (yswL S T.nc x ++ yswR S x (c + 1)).length = (yswL S T.nc x ++ yswR S x c).length + 1 := by
            rw [List.length_append, List.length_append, yswR_take ⟨by omega, e⟩]; omega
          refine zwp_ret ⟨by rw [lt, yi_nn, yi_nn], rfl, ?_⟩
          rcases hl with z | z
          · exact Or.inl z
          · rcases ha with w | w
            · exact Or.inl w
            · right
              rw [lt]
              refine Nat.lt_of_le_of_ne z (fun y => ef ?_)
              rw [y]
              have w' := w
              rw [Int32.lt_iff_toInt_lt] at w
              have e0 : Int32.toInt 0 = 0 := by decide
              rw [← Int32.toInt_inj, Int32.toInt_ofNat_of_lt (by have := a.toInt_lt; unfold Int32.toNatClampNeg; omega)]
              unfold Int32.toNatClampNeg
              omega
      · rw [if_neg e, if_pos rfl]
        have sk : yswR S x (c + 1) = yswR S x c := yswR_skip (fun z => e z.2)
        exact zwp_ret ⟨by rw [sk, yi_nn], rfl, by rw [sk]; exact hl⟩
    · rintro st M' ⟨rfl, rfl, hl⟩
      simp only [h.rt.rNc, zob_some, yle_t, if_true]
      exact zwp_ret ⟨rfl, rfl, hl⟩
    · rw [show yswR S x (x + 1) = [] from ylst_low (fun c hc z => by omega), List.append_nil, yi_nn]
    · rw [show yswR S x (x + 1) = [] from ylst_low (fun c hc z => by omega), List.append_nil]; exact hl
    · rintro b M' ⟨rfl, q⟩
      match b, q with
      | .inl e, q => exact zwp_ret ⟨by rw [q.1, yi_nn]; rfl, rfl, q.2⟩
      | .inr (.inr (.inr r)), q => exact zwp_ret ⟨rfl, q⟩
  · rintro st M' ⟨rfl, rfl, hl⟩
    simp only [h.rt.rNc, zob_some, yle_t, if_true]
    exact zwp_ret ⟨rfl, rfl, hl⟩
  · rintro b M' ⟨rfl, q⟩
    match b, q with
    | .inl e, q =>
      rw [zsl_l]
      by_cases e1 : a = -1
      · rw [if_pos e1, q.1]
        exact zwp_ret ⟨by unfold yget; rw [if_pos e1], rfl⟩
      · rw [if_neg e1]
        refine zwp_ret ⟨?_, rfl⟩
        unfold yget
        rw [if_neg e1, List.getElem?_eq_none (q.2.resolve_left e1)]
        rfl
    | .inr r, q => rw [zsl_r]; exact zwp_ret ⟨q, rfl⟩
theorem p_swaps (h : yI W M t T S) : yPr W (m_X7_swaps M) m_X8_swaps := by
  have h1 := h.thr 0
  have b1 := h.cs.tk.nc
  have hfu : zLF = 100000 := rfl
  unfold m_X7_swaps m_X8_swaps
  refine yPr.qq h (v := Int32.ofNat (yswL S T.nc T.nc).length) ?_ ?_
  · refine zwp_out ?_
    refine zwp_bd (Q' := fun b M' => b.1 = Int32.ofNat (yswL S T.nc T.nc).length ∧ M' = M) (zwp_for 0 T.nc (fun x st M' => st = (Int32.ofNat (yswL S T.nc x).length, Int32.ofNat x) ∧ M' = M) ?_ ?_ ⟨rfl, rfl⟩ (Nat.zero_le _) (by omega)) ?_
    · rintro x st M' - hx ⟨rfl, rfl⟩
      simp only [mlt_eq, h.tp, h.cs.ct.lnc h.cs.tk hx, if_false]
      refine zwp_bd (Q' := fun b M2 => b.1 = Int32.ofNat (yswL S T.nc x ++ yswR S x T.nc).length ∧ M2 = M') (zwp_for (x + 1) T.nc (fun c st M2 => st = (Int32.ofNat (yswL S T.nc x ++ yswR S x c).length, Int32.ofNat c) ∧ M2 = M') ?_ ?_ ⟨?_, rfl⟩ (by omega) (by omega)) ?_
      · rintro c st M' hxc hc ⟨rfl, rfl⟩
        simp only [mlt_eq, h.tp, h.cs.ct.lnc h.cs.tk hc, if_false, c_wouldSwap h.cs hx hc, mbd_some]
        by_cases e : ysw S x c
        · rw [if_pos e, if_neg (by decide)]
          have lt : (yswL S T.nc x ++ yswR S x (c + 1)).length = (yswL S T.nc x ++ yswR S x c).length + 1 := by
            rw [List.length_append, List.length_append, yswR_take ⟨by omega, e⟩]; omega
          exact zwp_ret ⟨by rw [lt, yi_nn, yi_nn], rfl⟩
        · rw [if_neg e, if_pos rfl]
          exact zwp_ret ⟨by rw [yswR_skip (fun z => e z.2), yi_nn], rfl⟩
      · rintro st M' ⟨rfl, rfl⟩
        simp only [mlt_eq, h.tp, h.cs.ct.enc, if_true, zwp_some, and_self]
      · rw [show yswR S x (x + 1) = [] from ylst_low (fun c hc z => by omega), List.append_nil, yi_nn]
      · rintro b M' ⟨e, rfl⟩
        exact zwp_ret ⟨by rw [e, yi_nn]; rfl, rfl⟩
    · rintro st M' ⟨rfl, rfl⟩
      simp only [mlt_eq, h.tp, h.cs.ct.enc, if_true, zwp_some, and_self]
    · rintro b M' ⟨e, rfl⟩
      exact zwp_ret ⟨e, rfl⟩
  · rw [mlt_eq, r_swapOf h1.rs (Or.inl rfl), mbd_some]
    rfl
theorem p_swap (h : yI W M t T S) (a : Int32) : yPr W (m_X7_swap a M) (m_X8_swap a) := by
  have h1 := h.thr 0
  have b1 := h.cs.tk.nc
  have hfu : zLF = 100000 := rfl
  unfold m_X7_swap m_X8_swap
  by_cases a0 : 0 ≤ a
  · have ha : ¬ a < 0 := Int32.not_lt.mpr a0
    obtain ⟨k, hk, rfl⟩ : ∃ k, k < 2147483648 ∧ a = Int32.ofNat k := by
      rw [Int32.le_iff_toInt_le] at a0
      have e0 : Int32.toInt 0 = 0 := by decide
      have := a.toInt_lt
      refine ⟨a.toInt.toNat, by omega, ?_⟩
      rw [← Int32.toInt_inj, Int32.toInt_ofNat_of_lt (by omega)]
      omega
    have yg : ∀ L : List Int32, yget L (Int32.ofNat k) = (L[k]?).getD (-2) := fun L => by
      unfold yget
      rw [if_neg (zi_n1 hk), zi_cl hk]
    refine yPr.qq h (v := yget (yswL S T.nc T.nc) (Int32.ofNat k)) ?_ ?_
    · rw [if_pos a0]
      have ln : ∀ x c, x ≤ T.nc → c ≤ T.nc → (yswL S T.nc x ++ yswR S x c).length < 1000 := by
        intro x c hx hc
        rw [List.length_append]
        have l1 := yswL_len (S := S) (n := T.nc) x
        have l2 := ylst_len (p := fun c => x < c ∧ ysw S x c) (g := fun c => 10 * Int32.ofNat x + Int32.ofNat c) c
        have l3 : x * T.nc ≤ 8 * 8 := Nat.mul_le_mul (by omega) (by omega)
        have l2 : (yswR S x c).length ≤ c := l2
        omega
      refine zwp_out ?_
      refine zwp_bd (Q' := fun b M' => M' = M ∧ match b with
          | .inl _ => (yswL S T.nc T.nc).length ≤ k
          | .inr r => r = yget (yswL S T.nc T.nc) (Int32.ofNat k)) (zwp_for 0 T.nc (fun x st M' => st = (Int32.ofNat (k - (yswL S T.nc x).length), Int32.ofNat x) ∧ M' = M ∧ (yswL S T.nc x).length ≤ k) ?_ ?_ ⟨rfl, rfl, Nat.zero_le _⟩ (Nat.zero_le _) (by omega)) ?_
      · rintro x st M' - hx ⟨rfl, rfl, hl⟩
        simp only [mlt_eq, h.tp, h.cs.ct.lnc h.cs.tk hx, if_false]
        refine zwp_bd (Q' := fun b M2 => M2 = M' ∧ match b with
            | .inl e => e.1 = Int32.ofNat (k - (yswL S T.nc x ++ yswR S x T.nc).length) ∧ (yswL S T.nc x ++ yswR S x T.nc).length ≤ k
            | .inr (.inr (.inr r)) => r = yget (yswL S T.nc T.nc) (Int32.ofNat k)
            | _ => False) (zwp_for (x + 1) T.nc (fun c st M2 => st = (Int32.ofNat (k - (yswL S T.nc x ++ yswR S x c).length), Int32.ofNat c) ∧ M2 = M' ∧ (yswL S T.nc x ++ yswR S x c).length ≤ k) ?_ ?_ ⟨?_, rfl, ?_⟩ (by omega) (by omega)) ?_
        · rintro c st M' hxc hc ⟨rfl, rfl, hl⟩
          have l1 := ln x c (by omega) (by omega)
          simp only [mlt_eq, h.tp, h.cs.ct.lnc h.cs.tk hc, if_false, c_wouldSwap h.cs hx hc, mbd_some]
          by_cases e : ysw S x c
          · rw [if_pos e, if_neg (by decide)]
            by_cases ef : k = (yswL S T.nc x ++ yswR S x c).length
            · rw [if_pos (by rw [← ef, Nat.sub_self]; rfl)]
              obtain ⟨r, er⟩ := yswL_at hx hc ⟨by omega, e⟩
              exact zwp_ret ⟨rfl, by rw [er]; exact (yget_hit (by rw [← ef]) (by omega)).symm⟩
            · rw [if_neg (by rw [show (0 : Int32) = Int32.ofNat 0 from rfl, zi_eq (by omega) (by omega)]; omega)]
              have lt : (yswL S T.nc x ++ yswR S x (c + 1)).length = (yswL S T.nc x ++ yswR S x c).length + 1 := by
                rw [List.length_append, List.length_append, yswR_take ⟨by omega, e⟩]; omega
              exact zwp_ret ⟨by rw [lt, yi_nn, yi_a1 (by omega)]; rfl, rfl, by rw [lt]; omega⟩
          · rw [if_neg e, if_pos rfl]
            have sk : yswR S x (c + 1) = yswR S x c := yswR_skip (fun z => e z.2)
            exact zwp_ret ⟨by rw [sk, yi_nn], rfl, by rw [sk]; exact hl⟩
        · rintro st M' ⟨rfl, rfl, hl⟩
          simp only [mlt_eq, h.tp, h.cs.ct.enc, if_true]
          exact zwp_ret ⟨rfl, rfl, hl⟩
        · rw [show yswR S x (x + 1) = [] from ylst_low (fun c hc z => by omega), List.append_nil, yi_nn]
        · rw [show yswR S x (x + 1) = [] from ylst_low (fun c hc z => by omega), List.append_nil]; exact hl
        · rintro b M' ⟨rfl, q⟩
          match b, q with
          | .inl e, q => exact zwp_ret ⟨by rw [q.1, yi_nn]; rfl, rfl, q.2⟩
          | .inr (.inr (.inr r)), q => exact zwp_ret ⟨rfl, q⟩
      · rintro st M' ⟨rfl, rfl, hl⟩
        simp only [mlt_eq, h.tp, h.cs.ct.enc, if_true]
        exact zwp_ret ⟨rfl, hl⟩
      · rintro b M' ⟨rfl, q⟩
        match b, q with
        | .inl e, q =>
          rw [zsl_l]
          refine zwp_ret ⟨?_, rfl⟩
          rw [yg, List.getElem?_eq_none q]
          rfl
        | .inr r, q => rw [zsl_r]; exact zwp_ret ⟨q, rfl⟩
    · rw [mlt_eq, if_pos a0, r_swapOf h1.rs (Or.inr ha), mbd_some]
  · refine yPr.qq h (v := -1) ?_ ?_
    · rw [if_neg a0]
    · rw [mlt_eq, if_neg a0]
end

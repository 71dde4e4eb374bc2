/-! promise by promise, class and reference alike: the plain questions -/
def yPr {α : Type} (W : Nat → Int32) (c1 : Option (α × zMem)) (c2 : zMem → Option (α × zMem)) : Prop := zwp c1 (fun v M1 => zwp (c2 M1) (fun v' M2 => v = v' ∧ ∃ t T S, yI W M2 t T S))
theorem y_rng {a m : Int32} (n : Nat) (em : m = Int32.ofNat n) (hn : n < 100000) : a < 0 ∨ (¬ a < 0 ∧ m ≤ a) ∨ ∃ q, q < n ∧ a = Int32.ofNat q ∧ ¬ a < 0 ∧ ¬ m ≤ a := by
  by_cases h0 : a < 0
  · exact Or.inl h0
  · by_cases h1 : m ≤ a
    · exact Or.inr (Or.inl ⟨h0, h1⟩)
    · obtain ⟨q, hq, e⟩ := zi_in (n := n) (by omega) h0 (by rw [← em]; exact Int32.not_le.mp h1)
      exact Or.inr (Or.inr ⟨q, hq, e, h0, h1⟩)
theorem y_nat {a lo hi : Int32} (l h : Nat) (el : lo = Int32.ofNat l) (eh : hi = Int32.ofNat h) (hl : l < 100000) (hh : h < 100000) (h1 : ¬ a < lo) (h2 : ¬ hi < a) : ∃ q, l ≤ q ∧ q ≤ h ∧ a = Int32.ofNat q := by
  rw [Int32.lt_iff_toInt_lt] at h1 h2
  rw [el, Int32.toInt_ofNat_of_lt (by omega)] at h1
  rw [eh, Int32.toInt_ofNat_of_lt (by omega)] at h2
  refine ⟨a.toInt.toNat, by omega, by omega, ?_⟩
  rw [← Int32.toInt_inj, Int32.toInt_ofNat_of_lt (by omega)]
  omega
theorem y_from (lo hi a : Int32) (M : zMem) : (m_X7_isFrom lo a hi M = some (0, M) ∧ (a < lo ∨ (¬ a < lo ∧ hi < a ∧ ¬ a ≤ hi))) ∨ (m_X7_isFrom lo a hi M = some (1, M) ∧ ¬ a < lo ∧ ¬ hi < a ∧ a ≤ hi) := by
  unfold m_X7_isFrom
  by_cases h1 : a < lo
  · exact Or.inl ⟨if_pos h1, Or.inl h1⟩
  · by_cases h2 : hi < a
    · exact Or.inl ⟨by rw [if_neg h1, if_pos h2], Or.inr ⟨h1, h2, Int32.not_le.mpr h2⟩⟩
    · exact Or.inr ⟨by rw [if_neg h1, if_neg h2], h1, h2, Int32.not_lt.mp h2⟩
theorem isCell_eq : m_X8_isCell = m_X7_isCell := rfl
theorem y_isCell (a b : Int32) : (∀ M, m_X7_isCell a b M = some (0, M)) ∨ ∃ k, k < 24 ∧ a = Int32.ofNat (k % 6) ∧ b = Int32.ofNat (k / 6) ∧ ∀ M, m_X7_isCell a b M = some (1, M) := by
  unfold m_X7_isCell
  rcases y_rng (a := a) (m := 6) 6 rfl (by decide) with h0 | ⟨h0, h1⟩ | ⟨q, hq, ea, h0, h1⟩
  · left; intro M; rw [if_pos h0]
  · left; intro M; rw [if_neg h0, if_pos h1]
  · rcases y_rng (a := b) (m := 4) 4 rfl (by decide) with g0 | ⟨g0, g1⟩ | ⟨r, hr, eb, g0, g1⟩
    · left; intro M; rw [if_neg h0, if_neg h1, if_pos g0]
    · left; intro M; rw [if_neg h0, if_neg h1, if_neg g0, if_pos g1]
    · right
      refine ⟨6 * r + q, by omega, by rw [ea]; congr 1; omega, by rw [eb]; congr 1; omega, fun M => ?_⟩
      rw [if_neg h0, if_neg h1, if_neg g0, if_neg g1]
section
variable {W : Nat → Int32} {M : zMem} {t : Nat} {T : yT} {S : yA}
theorem yI.thr (h : yI W M t T S) (v : Int32) : yI W (mup M 213 0 v) t T S := h.keep (zfr_mup (by unfold ySc yTR; omega))
theorem yI.keepC {M' : zMem} (h : yI W M t T S) (f : zfr (fun k i => ySc k i ∨ (42 ≤ k ∧ k < 61)) M M') (c : yCS M' 42 t 0 T S) : yI W M' t T S := by
  obtain ⟨n, B, u⟩ := h.und
  obtain ⟨N, no⟩ := h.no
  obtain ⟨m, tap⟩ := h.tap
  refine ⟨c, h.rs.keep f (by unfold ySc yTR; omega) (by unfold ySc yTR; omega) (by unfold ySc yTR; omega) (by unfold ySc yTR; omega), h.hr, ?_, h.img.keep f (by unfold ySc yTR; omega) (by unfold ySc yTR; omega) (by intro k i hk hp; unfold ySc yTR at hp; omega) (by unfold ySc yTR; omega) (by unfold ySc yTR; omega) (by unfold ySc yTR; omega) (by unfold ySc yTR; omega), ⟨n, B, u.keep f (by unfold ySc yTR; omega) (by unfold ySc yTR; omega) (by unfold ySc yTR; omega) (by unfold ySc yTR; omega) (by unfold ySc yTR; omega) (by unfold ySc yTR; omega)⟩, ⟨N, no.keep f (by unfold ySc yTR; omega) (by unfold ySc yTR; omega) (by unfold ySc yTR; omega) (by unfold ySc yTR; omega)⟩, ⟨m, tap.keep f (by unfold ySc yTR; omega) (by unfold ySc yTR; omega) (by unfold ySc yTR; omega) (by unfold ySc yTR; omega)⟩, h.rd.keep f (by unfold ySc yTR; omega) (by unfold ySc yTR; omega) (by unfold ySc yTR; omega) (by unfold ySc yTR; omega), h.mis.keep f (by unfold ySc yTR; omega) (by unfold ySc yTR; omega) (by unfold ySc yTR; omega) (by unfold ySc yTR; omega), h.bd⟩
  rw [f 0 3 (by unfold ySc yTR; omega)]; exact h.tp
theorem yPr.uu {α : Type} {c1 : Option (α × zMem)} {c2 : zMem → Option (α × zMem)} {v : α} (e1 : zwp c1 (fun r M1 => r = v ∧ yI W M1 t T S)) (e2 : ∀ M1, yI W M1 t T S → zwp (c2 M1) (fun r M2 => r = v ∧ zfr ySc M1 M2)) : yPr W c1 c2 := by
  refine zwp_mono e1 ?_
  rintro r M1 ⟨rfl, f⟩
  refine zwp_mono (e2 M1 f) ?_
  rintro r' M2 ⟨rfl, f'⟩
  exact ⟨rfl, t, T, S, f.keep f'⟩
theorem yPr.ss {α : Type} {c1 : Option (α × zMem)} {c2 : zMem → Option (α × zMem)} {v : α} (h : yI W M t T S) (e1 : zwp c1 (fun r M1 => r = v ∧ zfr ySc M M1)) (e2 : ∀ M1, yI W M1 t T S → zwp (c2 M1) (fun r M2 => r = v ∧ zfr ySc M1 M2)) : yPr W c1 c2 := by
  refine zwp_mono e1 ?_
  rintro r M1 ⟨rfl, f⟩
  refine zwp_mono (e2 M1 (h.keep f)) ?_
  rintro r' M2 ⟨rfl, f'⟩
  exact ⟨rfl, t, T, S, (h.keep f).keep f'⟩
theorem yPr.qq {α : Type} {c1 : Option (α × zMem)} {c2 : zMem → Option (α × zMem)} {v : α} (h : yI W M t T S) (e1 : c1 = some (v, M)) (e2 : c2 M = some (v, mup M 213 0 0)) : yPr W c1 c2 :=
  zwp_eq e1 (zwp_eq e2 ⟨rfl, t, T, S, h.thr 0⟩)
theorem y_isChild (h : yI W M t T S) (a : Int32) : (m_X7_isChild a M = some (0, M) ∧ ∀ M', yRT M' T → m_X8_isChild a M' = some (0, M')) ∨ ∃ q, q < T.nh ∧ a = Int32.ofNat q ∧ m_X7_isChild a M = some (1, M) ∧ ∀ M', yRT M' T → m_X8_isChild a M' = some (1, M') := by
  have b := h.cs.tk.nh
  have e := h.cs.ct.nh
  unfold m_X7_isChild m_X8_isChild
  simp only [mlt_eq, h.tp, e]
  rcases y_rng (a := a) T.nh rfl (by omega) with h0 | ⟨h0, h1⟩ | ⟨q, hq, ea, h0, h1⟩
  · left; exact ⟨if_pos h0, fun M' r => if_pos h0⟩
  · left; refine ⟨by rw [if_neg h0, if_pos h1], fun M' r => by rw [if_neg h0, r.rNh, zob_some, if_pos h1]⟩
  · right; exact ⟨q, hq, ea, by rw [if_neg h0, if_neg h1], fun M' r => by rw [if_neg h0, r.rNh, zob_some, if_neg h1]⟩
theorem y_isCloud (h : yI W M t T S) (a : Int32) : (m_X7_isCloud a M = some (0, M) ∧ ∀ M', yRT M' T → m_X8_isCloud a M' = some (0, M')) ∨ ∃ q, q < T.nc ∧ a = Int32.ofNat q ∧ m_X7_isCloud a M = some (1, M) ∧ ∀ M', yRT M' T → m_X8_isCloud a M' = some (1, M') := by
  have b := h.cs.tk.nc
  have e := h.cs.ct.nc
  unfold m_X7_isCloud m_X8_isCloud
  simp only [mlt_eq, h.tp, e]
  rcases y_rng (a := a) T.nc rfl (by omega) with h0 | ⟨h0, h1⟩ | ⟨q, hq, ea, h0, h1⟩
  · left; exact ⟨if_pos h0, fun M' r => if_pos h0⟩
  · left; refine ⟨by rw [if_neg h0, if_pos h1], fun M' r => by rw [if_neg h0, r.rNc, zob_some, if_pos h1]⟩
  · right; exact ⟨q, hq, ea, by rw [if_neg h0, if_neg h1], fun M' r => by rw [if_neg h0, r.rNc, zob_some, if_neg h1]⟩
theorem y_isField (h : yI W M t T S) (a : Int32) : (m_X7_isField a M = some (0, M) ∧ ∀ M', yRT M' T → m_X8_isField a M' = some (0, M')) ∨ ∃ q, q < T.nf ∧ a = Int32.ofNat q ∧ m_X7_isField a M = some (1, M) ∧ ∀ M', yRT M' T → m_X8_isField a M' = some (1, M') := by
  have b := h.cs.tk.nf
  have e := h.cs.ct.nf
  unfold m_X7_isField m_X8_isField
  simp only [mlt_eq, h.tp, e]
  rcases y_rng (a := a) T.nf rfl (by omega) with h0 | ⟨h0, h1⟩ | ⟨q, hq, ea, h0, h1⟩
  · left; exact ⟨if_pos h0, fun M' r => if_pos h0⟩
  · left; refine ⟨by rw [if_neg h0, if_pos h1], fun M' r => by rw [if_neg h0, r.rNf, zob_some, if_pos h1]⟩
  · right; exact ⟨q, hq, ea, by rw [if_neg h0, if_neg h1], fun M' r => by rw [if_neg h0, r.rNf, zob_some, if_neg h1]⟩
theorem p_fault (h : yI W M t T S) (a : Int32) : yPr W (m_X7_fault a M) (m_X8_fault a) := by
  have h1 := h.thr 0
  unfold yPr m_X7_fault m_X8_fault
  by_cases a0 : a = 0
  · rw [if_pos a0]
    refine zwp_ret ?_
    rw [mlt_eq, if_pos a0]
    exact zwp_ret ⟨(mup_off (by decide)).symm.trans h1.rd.f, t, T, S, h1⟩
  · by_cases a1 : a = 1
    · rw [if_neg a0, if_pos a1]
      refine zwp_ret ?_
      rw [mlt_eq, if_neg a0, if_pos a1]
      exact zwp_ret ⟨(mup_off (by decide)).symm.trans h1.rd.p, t, T, S, h1⟩
    · rw [if_neg a0, if_neg a1]
      refine zwp_ret ?_
      rw [mlt_eq, if_neg a0, if_neg a1]
      exact zwp_ret ⟨rfl, t, T, S, h1⟩
theorem c_numberOf {a0 n : Nat} (f : Nat → Int32) (hn : n ≤ (zds a0).2) (hb : (zds a0).2 < 1000) (hf : ∀ i, i < n → M.1 a0 i = f i) (v : Int32) : m_X7_numberOf a0 (Int32.ofNat n) v M = some (zfst (fun i => f i = v) 0 n, M) := by
  refine zwp_out ?_
  unfold m_X7_numberOf
  refine zwp_bd (Q' := fun b M' => M' = M ∧ match b with
      | .inl _ => zfst (fun i => f i = v) 0 n = -1
      | .inr r => r = zfst (fun i => f i = v) 0 n) (zwp_for 0 n (fun c st M' => st = Int32.ofNat c ∧ M' = M ∧ zfst (fun i => f i = v) 0 n = zfst (fun i => f i = v) c (n - c)) ?_ ?_ ⟨rfl, rfl, rfl⟩ (Nat.zero_le _) (by have : zLF = 100000 := rfl; omega)) ?_
  · rintro c st M' - hc ⟨rfl, rfl, e⟩
    have g1 : ¬ (Int32.ofNat n ≤ Int32.ofNat c) := by rw [zi_le (by omega) (by omega)]; omega
    have g2 : ¬ (Int32.ofNat (zds a0).2 ≤ Int32.ofNat c) := by rw [zi_le (by omega) (by omega)]; omega
    simp only [g1, g2, if_false]
    rw [mrd_of (j := c) (by omega) (by omega), zob_some, hf c hc]
    by_cases z : f c = v
    · rw [if_pos z]
      exact zwp_ret ⟨rfl, (e.trans (zfst_hit hc z)).symm⟩
    · rw [if_neg z]
      exact zwp_ret ⟨yi_nn c, rfl, e.trans (zfst_step hc z)⟩
  · rintro st M' ⟨rfl, rfl, e⟩
    rw [if_pos (by rw [zi_le (by omega) (by omega)]; omega)]
    refine zwp_ret ⟨rfl, e.trans ?_⟩
    rw [Nat.sub_self]; rfl
  · rintro b M' ⟨rfl, e⟩
    cases b with
    | inl e3 => exact zwp_ret ⟨e.symm, rfl⟩
    | inr r => exact zwp_ret ⟨e, rfl⟩
theorem r_found {a0 fr n : Nat} (f : Nat → Int32) (hn : fr + n ≤ (zds a0).2) (hb : (zds a0).2 < 1000) (hf : ∀ i, i < n → M.1 a0 (fr + i) = f i) (v : Int32) : m_X8_found a0 (Int32.ofNat fr) (Int32.ofNat n) v M = some (zfst (fun i => f i = v) 0 n, M) := by
  refine zwp_out ?_
  unfold m_X8_found
  refine zwp_bd (Q' := fun b M' => M' = M ∧ match b with
      | .inl _ => zfst (fun i => f i = v) 0 n = -1
      | .inr r => r = zfst (fun i => f i = v) 0 n) (zwp_for 0 n (fun c st M' => st = Int32.ofNat c ∧ M' = M ∧ zfst (fun i => f i = v) 0 n = zfst (fun i => f i = v) c (n - c)) ?_ ?_ ⟨rfl, rfl, rfl⟩ (Nat.zero_le _) (by have : zLF = 100000 := rfl; omega)) ?_
  · rintro c st M' - hc ⟨rfl, rfl, e⟩
    have g1 : ¬ (Int32.ofNat n ≤ Int32.ofNat c) := by rw [zi_le (by omega) (by omega)]; omega
    simp only [g1, if_false]
    rw [mrd_of (j := fr + c) (by omega) (by omega), zob_some, hf c hc]
    by_cases z : f c = v
    · rw [if_pos z]
      exact zwp_ret ⟨rfl, (e.trans (zfst_hit hc z)).symm⟩
    · rw [if_neg z]
      exact zwp_ret ⟨yi_nn c, rfl, e.trans (zfst_step hc z)⟩
  · rintro st M' ⟨rfl, rfl, e⟩
    rw [if_pos (by rw [zi_le (by omega) (by omega)]; omega)]
    refine zwp_ret ⟨rfl, e.trans ?_⟩
    rw [Nat.sub_self]; rfl
  · rintro b M' ⟨rfl, e⟩
    cases b with
    | inl e3 => exact zwp_ret ⟨e.symm, rfl⟩
    | inr r => exact zwp_ret ⟨e, rfl⟩
theorem p_named (h : yI W M t T S) (a v : Int32) : yPr W (m_X7_named a v M) (m_X8_named a v) := by
  have h1 := h.thr 0
  have tk := h.cs.tk
  have b1 := tk.nf
  have b2 := tk.nc
  have b3 := tk.nh
  have d1 := ztt_n h.cs.ct.tt 2 5 ⟨rfl, rfl⟩
  have d2 := ztt_n h.cs.ct.tt 5 8 ⟨rfl, rfl⟩
  have d3 := ztt_n h.cs.ct.tt 9 6 ⟨rfl, rfl⟩
  have c1 := c_numberOf (M := M) (a0 := t + 2) (n := T.nf) T.fname (by omega) (by omega) h.cs.ct.fname v
  have c2 := c_numberOf (M := M) (a0 := t + 5) (n := T.nc) T.cname (by omega) (by omega) h.cs.ct.cname v
  have c3 := c_numberOf (M := M) (a0 := t + 9) (n := T.nh) T.hname (by omega) (by omega) h.cs.ct.hname v
  have r1 := r_found (M := mup M 213 0 0) (a0 := 217) (fr := 0) (n := T.nf) T.fname (by show 0 + T.nf ≤ 10; omega) (by decide) (fun i hi => by rw [Nat.zero_add]; exact h1.rs.rt.fname i hi) v
  have r2 := r_found (M := mup M 213 0 0) (a0 := 220) (fr := 0) (n := T.nc) T.cname (by show 0 + T.nc ≤ 16; omega) (by decide) (fun i hi => by rw [Nat.zero_add]; exact h1.rs.rt.cname i hi) v
  have r3 := r_found (M := mup M 213 0 0) (a0 := 224) (fr := 0) (n := T.nh) T.hname (by show 0 + T.nh ≤ 12; omega) (by decide) (fun i hi => by rw [Nat.zero_add]; exact h1.rs.rt.hname i hi) v
  rw [show Int32.ofNat 0 = 0 from rfl] at r1 r2 r3
  unfold m_X7_named m_X8_named
  by_cases a0 : a = 0
  · refine yPr.qq h (v := zfst (fun i => T.fname i = v) 0 T.nf) ?_ ?_
    · rw [if_pos a0]
      simp only [mlt_eq, h.tp, h.cs.ct.nf, c1, mbd_some]
    · simp only [mlt_eq]
      rw [if_pos a0]
      simp only [h1.rs.rt.rNf, zob_some, r1, mbd_some]
  · by_cases a1 : a = 1
    · refine yPr.qq h (v := zfst (fun i => T.cname i = v) 0 T.nc) ?_ ?_
      · rw [if_neg a0, if_pos a1]
        simp only [mlt_eq, h.tp, h.cs.ct.nc, c2, mbd_some]
      · simp only [mlt_eq]
        rw [if_neg a0, if_pos a1]
        simp only [h1.rs.rt.rNc, zob_some, r2, mbd_some]
    · by_cases a2 : a = 2
      · refine yPr.qq h (v := zfst (fun i => T.hname i = v) 0 T.nh) ?_ ?_
        · rw [if_neg a0, if_neg a1, if_pos a2]
          simp only [mlt_eq, h.tp, h.cs.ct.nh, c3, mbd_some]
        · simp only [mlt_eq]
          rw [if_neg a0, if_neg a1, if_pos a2]
          simp only [h1.rs.rt.rNh, zob_some, r3, mbd_some]
      · refine yPr.qq h (v := -1) ?_ ?_
        · rw [if_neg a0, if_neg a1, if_neg a2]
        · simp only [mlt_eq]
          rw [if_neg a0, if_neg a1, if_neg a2]
theorem p_child (h : yI W M t T S) (a b : Int32) : yPr W (m_X7_child a b M) (m_X8_child a b) := by
  have h1 := h.thr 0
  have tk := h.cs.tk
  unfold m_X7_child m_X8_child
  rcases y_isChild h a with ⟨e1, e2⟩ | ⟨q, hq, rfl, e1, e2⟩
  · refine yPr.qq h (v := -1) ?_ ?_
    · simp only [e1, mbd_some, if_true]
    · simp only [mlt_eq, e2 _ h1.rs.rt, mbd_some, if_true]
  · have pq := h.cs.ok.pos q hq
    have e2' := e2 _ h1.rs.rt
    by_cases g0 : b = 0
    · refine yPr.qq h (v := Int32.ofNat (S.pos q % 6)) ?_ ?_
      · simp only [e1, mbd_some, one_ne, if_false]
        rw [if_pos g0, h.cs.rHx hq, zob_some]
      · simp only [mlt_eq, e2', mbd_some, one_ne, if_false]
        rw [if_pos g0, h1.rs.rPos0 hq, zob_some, yrm6 _ pq]
    · by_cases g1 : b = 1
      · refine yPr.qq h (v := Int32.ofNat (S.pos q / 6)) ?_ ?_
        · simp only [e1, mbd_some, one_ne, if_false]
          rw [if_neg g0, if_pos g1, h.cs.rHy hq, zob_some]
        · simp only [mlt_eq, e2', mbd_some, one_ne, if_false]
          rw [if_neg g0, if_pos g1, h1.rs.rPos0 hq, zob_some, ydv6 _ pq]
      · by_cases g2 : b = 2
        · refine yPr.qq h (v := T.sight q) ?_ ?_
          · simp only [e1, mbd_some, one_ne, if_false]
            rw [if_neg g0, if_neg g1, if_pos g2, mlt_eq, h.tp, h.cs.ct.rSight tk hq, zob_some]
          · simp only [mlt_eq, e2', mbd_some, one_ne, if_false]
            rw [if_neg g0, if_neg g1, if_pos g2, h1.rs.rt.rSight tk hq, zob_some]
        · by_cases g3 : b = 3
          · refine yPr.qq h (v := S.marks q) ?_ ?_
            · simp only [e1, mbd_some, one_ne, if_false]
              rw [if_neg g0, if_neg g1, if_neg g2, if_pos g3, h.cs.rMarks hq, zob_some]
            · simp only [mlt_eq, e2', mbd_some, one_ne, if_false]
              rw [if_neg g0, if_neg g1, if_neg g2, if_pos g3, h1.rs.rMarks0 hq, zob_some]
          · by_cases g4 : b = 4
            · refine yPr.qq h (v := yown S (Int32.ofNat q) T.nc) ?_ ?_
              · simp only [e1, mbd_some, one_ne, if_false]
                rw [if_neg g0, if_neg g1, if_neg g2, if_neg g3, if_pos g4, c_ownInSky h.cs, mbd_some]
              · simp only [mlt_eq, e2', mbd_some, one_ne, if_false]
                rw [if_neg g0, if_neg g1, if_neg g2, if_neg g3, if_pos g4, r_ownUp (a := 0) h1.rs, mbd_some]
            · by_cases g5 : b = 5
              · refine yPr.qq h (v := zsum (S.rained q) T.nf) ?_ ?_
                · simp only [e1, mbd_some, one_ne, if_false]
                  rw [if_neg g0, if_neg g1, if_neg g2, if_neg g3, if_neg g4, if_pos g5, c_rainOfOwn h.cs hq, mbd_some]
                · simp only [mlt_eq, e2', mbd_some, one_ne, if_false]
                  rw [if_neg g0, if_neg g1, if_neg g2, if_neg g3, if_neg g4, if_pos g5, r_rainBy (a := 0) h1.rs hq, mbd_some]
              · refine yPr.qq h (v := -1) ?_ ?_
                · simp only [e1, mbd_some, one_ne, if_false]
                  rw [if_neg g0, if_neg g1, if_neg g2, if_neg g3, if_neg g4, if_neg g5]
                · simp only [mlt_eq, e2', mbd_some, one_ne, if_false]
                  rw [if_neg g0, if_neg g1, if_neg g2, if_neg g3, if_neg g4, if_neg g5]
theorem p_field (h : yI W M t T S) (a b : Int32) : yPr W (m_X7_field a b M) (m_X8_field a b) := by
  have h1 := h.thr 0
  have tk := h.cs.tk
  unfold m_X7_field m_X8_field
  rcases y_isField h a with ⟨e1, e2⟩ | ⟨q, hq, rfl, e1, e2⟩
  · refine yPr.qq h (v := -1) ?_ ?_
    · simp only [e1, mbd_some, if_true]
    · simp only [mlt_eq, e2 _ h1.rs.rt, mbd_some, if_true]
  · have pq := tk.fcell q hq
    have e2' := e2 _ h1.rs.rt
    by_cases g0 : b = 0
    · refine yPr.qq h (v := zrm (Int32.ofNat (T.fcell q)) 6) ?_ ?_
      · simp only [e1, mbd_some, one_ne, if_false]
        rw [if_pos g0, mlt_eq, h.tp, h.cs.ct.rFcell tk hq, zob_some]
      · simp only [mlt_eq, e2', mbd_some, one_ne, if_false]
        rw [if_pos g0, h1.rs.rt.rFcell tk hq, zob_some]
    · by_cases g1 : b = 1
      · refine yPr.qq h (v := Int32.ofNat (T.fcell q) / 6) ?_ ?_
        · simp only [e1, mbd_some, one_ne, if_false]
          rw [if_neg g0, if_pos g1, mlt_eq, h.tp, h.cs.ct.rFcell tk hq, zob_some]
        · simp only [mlt_eq, e2', mbd_some, one_ne, if_false]
          rw [if_neg g0, if_pos g1, h1.rs.rt.rFcell tk hq, zob_some]
      · by_cases g2 : b = 2
        · refine yPr.qq h (v := T.need q) ?_ ?_
          · simp only [e1, mbd_some, one_ne, if_false]
            rw [if_neg g0, if_neg g1, if_pos g2, mlt_eq, h.tp, h.cs.ct.rNeed tk hq, zob_some]
          · simp only [mlt_eq, e2', mbd_some, one_ne, if_false]
            rw [if_neg g0, if_neg g1, if_pos g2, h1.rs.rt.rNeed tk hq, zob_some]
        · by_cases g3 : b = 3
          · refine yPr.qq h (v := S.got q) ?_ ?_
            · simp only [e1, mbd_some, one_ne, if_false]
              rw [if_neg g0, if_neg g1, if_neg g2, if_pos g3, h.cs.rGot hq, zob_some]
            · simp only [mlt_eq, e2', mbd_some, one_ne, if_false]
              rw [if_neg g0, if_neg g1, if_neg g2, if_pos g3, h1.rs.rGot0 hq, zob_some]
          · refine yPr.qq h (v := -1) ?_ ?_
            · simp only [e1, mbd_some, one_ne, if_false]
              rw [if_neg g0, if_neg g1, if_neg g2, if_neg g3]
            · simp only [mlt_eq, e2', mbd_some, one_ne, if_false]
              rw [if_neg g0, if_neg g1, if_neg g2, if_neg g3]
theorem p_ground (h : yI W M t T S) (a b : Int32) : yPr W (m_X7_ground a b M) (m_X8_ground a b) := by
  have h1 := h.thr 0
  unfold m_X7_ground m_X8_ground
  rcases y_isCell a b with e | ⟨k, hk, rfl, rfl, e⟩
  · refine yPr.qq h (v := -1) ?_ ?_
    · simp only [e, mbd_some, if_true]
    · simp only [mlt_eq, isCell_eq, e, mbd_some, if_true]
  · refine yPr.qq h (v := T.ground k) ?_ ?_
    · simp only [e, mbd_some, one_ne, if_false]
      rw [c_ground h.cs hk, mbd_some, ygr, if_neg (by decide), if_neg (by rintro ⟨z, -⟩; exact absurd z (by decide))]
    · simp only [mlt_eq, isCell_eq, e, mbd_some, one_ne, if_false]
      rw [ycell6, h1.rs.rt.rGround h.cs.tk hk, zob_some]
theorem p_in (h : yI W M t T S) (a b : Int32) : yPr W (m_X7_in a b M) (m_X8_in a b) := by
  have h1 := h.thr 0
  unfold m_X7_in m_X8_in
  rcases y_isCell a b with e | ⟨k, hk, rfl, rfl, e⟩
  · refine yPr.qq h (v := -1) ?_ ?_
    · simp only [e, mbd_some, if_true]
    · simp only [mlt_eq, isCell_eq, e, mbd_some, if_true]
  · refine yPr.qq h (v := yat S k T.nc) ?_ ?_
    · simp only [e, mbd_some, one_ne, if_false]
      rw [c_cloudsAt h.cs k hk, mbd_some]
    · simp only [mlt_eq, isCell_eq, e, mbd_some, one_ne, if_false]
      rw [ycell6, r_upIn (a := 0) h1.rs k hk, mbd_some]
theorem r_sees {sl : Nat} (h : yRS M 0 0 T S) {q : Nat} (hq : q < T.nh) : (mbd (
  mlp (σ := (Int32 × Int32)) (β := (Int32 × Int32)) zLF (fun s4 M5 =>
  zob (mrd M5 215 1) (fun v9 =>
  if v9 ≤ s4.2 then
  some ((.inr (s4.1, s4.2)), M5)
  else
  mbd (m_X8_isUp 0 s4.2 M5) (fun v11 M10 =>
  if v11 = 0 then
  some ((.inl ((s4.1 ||| 0), (s4.2 + 1))), M10)
  else
  zob (mrd M10 236 s4.2) (fun v13 =>
  mbd (m_X8_doesSee 0 (Int32.ofNat q) v13 M10) (fun v15 M14 =>
  if v15 = 0 then
  some ((.inl ((s4.1 ||| 0), (s4.2 + 1))), M14)
  else
  some ((.inl ((s4.1 ||| (1 <<< (s4.2 &&& 31))), (s4.2 + 1))), M14)))))) (0, 0) M) (fun e6 M7 =>
  some (e6.1, M7))) = some (ysee S (S.pos q) (T.sight q) T.nc, M) := by
  have b1 := h.tk.nc
  refine zwp_out ?_
  refine zwp_bd (Q' := fun b M' => b.1 = ysee S (S.pos q) (T.sight q) T.nc ∧ M' = M) (zwp_for 0 T.nc (fun c st M' => st = (ysee S (S.pos q) (T.sight q) c, Int32.ofNat c) ∧ M' = M) ?_ ?_ ⟨rfl, rfl⟩ (Nat.zero_le _) (by have : zLF = 100000 := rfl; omega)) ?_
  · rintro c st M' - hc ⟨rfl, rfl⟩
    simp only [h.rt.rNc, zob_some, yle_f hc (by omega), if_false]
    by_cases hu : S.state c = 1
    · rw [r_isUp1 (a := 0) h hc hu, mbd_some, if_neg (by decide), h.rCell0 hc, zob_some, r_doesSee (a := 0) h hq (h.ok.cell c hc), mbd_some]
      by_cases hs : T.sight q < yfar (S.pos q) (S.cell c)
      · simp only [hs, if_true, zwp_some, yi_nn, ysee, zorr, not_true, and_false, if_false, and_self]
      · simp only [hs, hu, if_false, one_ne, zwp_some, yi_nn, ysee, zorr, not_false_iff, and_self, if_true, ybit]
    · rw [r_isUp0 (a := 0) h hc hu, mbd_some, if_pos rfl]
      simp only [hu, zwp_some, yi_nn, ysee, zorr, false_and, if_false, and_self]
  · rintro st M' ⟨rfl, rfl⟩
    simp only [h.rt.rNc, zob_some, yle_t, if_true, zwp_some, and_self]
  · rintro b M' ⟨e, rfl⟩
    exact zwp_ret ⟨e, rfl⟩
theorem p_sees (h : yI W M t T S) (a : Int32) : yPr W (m_X7_sees a M) (m_X8_sees a) := by
  have h1 := h.thr 0
  unfold m_X7_sees m_X8_sees
  rcases y_isChild h a with ⟨e1, e2⟩ | ⟨q, hq, rfl, e1, e2⟩
  · refine yPr.qq h (v := -1) ?_ ?_
    · simp only [e1, mbd_some, if_true]
    · simp only [mlt_eq, e2 _ h1.rs.rt, mbd_some, if_true]
  · refine yPr.qq h (v := ysee S (S.pos q) (T.sight q) T.nc) ?_ ?_
    · simp only [e1, mbd_some, one_ne, if_false]
      rw [c_seenBy h.cs hq, mbd_some]
    · simp only [mlt_eq, e2 _ h1.rs.rt, mbd_some, one_ne, if_false]
      exact r_sees (sl := 0) h1.rs hq
theorem p_law (h : yI W M t T S) (a b : Int32) : yPr W (m_X7_law a b M) (m_X8_law a b) := by
  have tk := h.cs.tk
  unfold m_X7_law m_X8_law
  rcases y_from 0 2 a M with ⟨e, ho⟩ | ⟨e, l1, l2, l3⟩
  · refine yPr.qq h (v := -9223372036854775808) ?_ ?_
    · simp only [e, mbd_some, if_true]
    · simp only [mlt_eq]
      rcases ho with z | ⟨z1, z2, z3⟩
      · rw [if_pos z]
      · rw [if_neg z1, if_pos z2]
  · obtain ⟨k, -, hk, rfl⟩ := y_nat 0 2 rfl rfl (by decide) (by decide) l1 l2
    have hk : k < 3 := by omega
    have h1 := h.thr 0
    simp only [e, mbd_some, one_ne, if_false]
    rcases y_isCloud h b with ⟨e1, e2⟩ | ⟨c, hc, rfl, e1, e2⟩
    · refine yPr.qq h (v := -9223372036854775808) ?_ ?_
      · simp only [e1, mbd_some, if_true]
      · simp only [mlt_eq, l1, l2, if_false, r_hasLaw h1.rs.rt hk, mbd_some, e2 _ h1.rs.rt]
        by_cases z : T.law k = []
        · simp only [z, if_true]
        · simp only [z, if_false, one_ne, if_true]
    · have e2' := e2 _ h1.rs.rt
      by_cases hu : S.state c = 1
      · refine yPr.uu (v := (ywo T 0 S k c).getD (-9223372036854775808)) (t := t) (T := T) (S := S) ?_ ?_
        · simp only [e1, mbd_some, one_ne, if_false]
          rw [h.cs.rState hc, zob_some, if_pos hu]
          refine zwp_bd (c_worthOf h.cs hk hc) ?_
          rintro v M' ⟨q, f, rfl⟩
          exact zwp_ret ⟨rfl, h.keepC (zfr_weak f (fun k i z => Or.inr ⟨z.1, z.2⟩)) q⟩
        · intro M1 g
          have g1 := g.thr 0
          simp only [mlt_eq, l1, l2, if_false, r_hasLaw g1.rs.rt hk, mbd_some]
          by_cases z : T.law k = []
          · simp only [z, if_true]
            refine zwp_ret ⟨?_, zfr_mup (by unfold ySc yTR; omega)⟩
            unfold ywo
            rw [if_pos z]
            rfl
          · simp only [z, if_false, one_ne, e2 _ g1.rs.rt, mbd_some]
            rw [r_isUp1 (a := 0) g1.rs hc hu, mbd_some, if_neg (by decide)]
            refine r_cw (a := 0) g1.rs hk hc (fun M2 q1 q2 q3 => ?_)
            have hw : ywf (T.law k) 0 := (tk.law k hk).resolve_left z
            refine zwp_bd (r_goes q3.rt hk hw (nm := fun i => Int32.toInt64 (ynm T 0 S c i)) q2) ?_
            rintro r M3 ⟨f, ⟨e, rfl⟩ | ⟨e, rfl⟩⟩
            · rw [if_pos rfl]
              refine zwp_ret ⟨by unfold ywo; rw [if_neg z, e]; rfl, zfr_trans (zfr_mup (by unfold ySc yTR; omega)) (zfr_trans (zfr_e q1) (zfr_weak f (fun k i z => ?_)))⟩
              unfold ySc yTR; unfold yT35 at z; omega
            · rw [if_neg (by decide), mrdL_of (k := 233) (j := 0) (by decide) (by decide), zob_some]
              refine zwp_ret ⟨by unfold ywo; rw [if_neg z, e]; rfl, zfr_trans (zfr_mup (by unfold ySc yTR; omega)) (zfr_trans (zfr_e q1) (zfr_weak f (fun k i z => ?_)))⟩
              unfold ySc yTR; unfold yT35 at z; omega
      · refine yPr.qq h (v := -9223372036854775808) ?_ ?_
        · simp only [e1, mbd_some, one_ne, if_false]
          rw [h.cs.rState hc, zob_some, if_neg hu]
        · simp only [mlt_eq, l1, l2, if_false, r_hasLaw h1.rs.rt hk, mbd_some]
          by_cases z : T.law k = []
          · simp only [z, if_true]
          · simp only [z, if_false, one_ne, e2', mbd_some]
            rw [r_isUp0 (a := 0) h1.rs hc hu, mbd_some, if_pos rfl]
end

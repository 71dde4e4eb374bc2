/-! how a sky begins -/
def ystart (T : yT) (f : Nat → Int32) : yA := yA.mk 0 (-1) T.ccell f (fun _ => 0) (fun _ => -1) (fun _ => 0) T.hcell (fun _ => 0) (fun _ => 0) (fun _ _ => 0)
theorem ystart_ok {T : yT} (tk : yTok T) {f : Nat → Int32} : yOK T (ystart T f) := ⟨tk.ccell, fun _ _ => Or.inl rfl, tk.hcell⟩
theorem ywr8 {M : zMem} {s j c : Nat} (sp : ySP s) (h1 : 1 ≤ j) (h2 : j < 7) (hc : c < 8) (v : Int32) : mwr M (s + j) (Int32.ofNat c) v = some (mup M (s + j) c v) := by
  have d := ysp_8 sp h1 h2
  exact mwr_of (j := c) (by omega) (by omega)
theorem ywr6 {M : zMem} {s j c : Nat} (sp : ySP s) (h1 : 7 ≤ j) (h2 : j < 10) (hc : c < 6) (v : Int32) : mwr M (s + j) (Int32.ofNat c) v = some (mup M (s + j) c v) := by
  have d := ysp_6 sp h1 h2
  exact mwr_of (j := c) (by omega) (by omega)
set_option maxHeartbeats 8000000 in
theorem c_start {M : zMem} {s t : Nat} {T : yT} (ct : yCT M t T) (tk : yTok T) (sp : ySP s) : zwp (m_X5_startOf s t M) (fun _ M' => yCS M' s t 0 T (ystart T T.bsize) ∧ zfr (yTC s) M M') := by
  have lo := ysp_lo sp
  have tl : t + 17 < 42 := by rcases ct.tt with e | e <;> omega
  have b1 := tk.nc
  have b2 := tk.nh
  have b3 := tk.nf
  unfold m_X5_startOf
  simp only [mlt_eq]
  generalize hM4 : mup (mup (mup (mup M s 14 (ztenc t)) s 11 0) s 12 (-1)) s 13 0 = M4
  have f4 : zfr (yTC s) M M4 := by
    subst hM4
    exact zfr_trans (zfr_trans (zfr_trans (zfr_mup ⟨by omega, by omega⟩) (zfr_mup ⟨by omega, by omega⟩)) (zfr_mup ⟨by omega, by omega⟩)) (zfr_mup ⟨by omega, by omega⟩)
  have told : ∀ M' : zMem, zfr (yTC s) M M' → ∀ j i, j < 17 → M'.1 (t + j) i = M.1 (t + j) i := fun M' f j i hj => f _ _ (fun z => by have := z.1; omega)
  have d6 := ztt_n ct.tt 6 8 ⟨rfl, rfl⟩
  have d7 := ztt_n ct.tt 7 8 ⟨rfl, rfl⟩
  have d10 := ztt_n ct.tt 10 6 ⟨rfl, rfl⟩
  refine yfor (n := 8) (fun c M' => zfr (yTC s) M M' ∧ (∀ i, M'.1 s i = M4.1 s i) ∧ ∀ j, j < c → j < T.nc → M'.1 (s + 1) j = Int32.ofNat (T.ccell j % 6) ∧ M'.1 (s + 2) j = Int32.ofNat (T.ccell j / 6) ∧ M'.1 (s + 3) j = T.bsize j ∧ M'.1 (s + 4) j = 0 ∧ M'.1 (s + 5) j = -1 ∧ M'.1 (s + 6) j = 0) ⟨f4, fun _ => rfl, fun j hj => absurd hj (Nat.not_lt_zero _)⟩ (by decide) ?_ (fun M' _ => rfl) ?_
  · rintro c M' hc ⟨i1, i2, i3⟩
    have rr : ∀ (M1 : zMem) (j : Nat), (zds (t + j)).2 = 8 → mrd M1 (t + j) (Int32.ofNat c) = some (M1.1 (t + j) c) := fun M1 j d => mrd_of (j := c) (by omega) (by omega)
    rw [if_neg (yge (m := 8) hc (by decide)), rr _ 6 d6, zob_some, ywr8 sp (by decide) (by decide) hc, zob_some, rr _ 6 d6, zob_some, ywr8 sp (by decide) (by decide) hc, zob_some, rr _ 7 d7, zob_some, ywr8 sp (by decide) (by decide) hc, zob_some, ywr8 sp (by decide) (by decide) hc, zob_some, ywr8 sp (by decide) (by decide) hc, zob_some, ywr8 sp (by decide) (by decide) hc, zob_some]
    rw [mup_off (show t + 6 ≠ s + 1 by omega), mup_off (show t + 7 ≠ s + 2 by omega), mup_off (show t + 7 ≠ s + 1 by omega), told M' i1 6 c (by decide), told M' i1 7 c (by decide)]
    refine zwp_ret ⟨rfl, zfr_trans i1 (zfr_trans (zfr_trans (zfr_trans (zfr_trans (zfr_trans (zfr_mup ⟨by omega, by omega⟩) (zfr_mup ⟨by omega, by omega⟩)) (zfr_mup ⟨by omega, by omega⟩)) (zfr_mup ⟨by omega, by omega⟩)) (zfr_mup ⟨by omega, by omega⟩)) (zfr_mup ⟨by omega, by omega⟩)), fun i => ?_, fun j hj hj' => ?_⟩
    · simp only [mup_at]
      simp
      exact i2 i
    · simp only [mup_at]
      simp
      by_cases ej : j = c
      · subst ej
        rw [ct.ccell j hj', ct.bsize j hj', yrm6 _ (tk.ccell j hj'), ydv6 _ (tk.ccell j hj')]
        simp
      · simp [ej]
        exact i3 j (by omega) hj'
  rintro _ M5 ⟨f5, t5, p5⟩
  refine yfor (n := 6) (fun c M' => zfr (yTC s) M M' ∧ (∀ j i, j < 7 → M'.1 (s + j) i = M5.1 (s + j) i) ∧ (∀ j, j < c → j < T.nh → M'.1 (s + 7) j = Int32.ofNat (T.hcell j % 6) ∧ M'.1 (s + 8) j = Int32.ofNat (T.hcell j / 6) ∧ M'.1 (s + 9) j = 0) ∧ ∀ j f, j < c → f < 5 → M'.1 (s + 11 + 1 + j) f = 0) ⟨f5, fun _ _ _ => rfl, fun j hj => absurd hj (Nat.not_lt_zero _), fun j f hj => absurd hj (Nat.not_lt_zero _)⟩ (by decide) ?_ (fun M' _ => rfl) ?_
  · rintro c M' hc ⟨i1, i2, i3, i4⟩
    have rr : ∀ (M1 : zMem), mrd M1 (t + 10) (Int32.ofNat c) = some (M1.1 (t + 10) c) := fun M1 => mrd_of (j := c) (by omega) (by omega)
    rw [if_neg (yge (m := 6) hc (by decide)), rr, zob_some, ywr6 sp (by decide) (by decide) hc, zob_some, rr, zob_some, ywr6 sp (by decide) (by decide) hc, zob_some, ywr6 sp (by decide) (by decide) hc, zob_some]
    rw [mup_off (show t + 10 ≠ s + 7 by omega), told M' i1 10 c (by decide)]
    generalize hM6 : mup (mup (mup M' (s + 7) c (zrm (M.1 (t + 10) c) 6)) (s + 8) c (M.1 (t + 10) c / 6)) (s + 9) c 0 = M6
    have g6 : zfr (yTC s) M M6 := by
      subst hM6
      exact zfr_trans i1 (zfr_trans (zfr_trans (zfr_mup ⟨by omega, by omega⟩) (zfr_mup ⟨by omega, by omega⟩)) (zfr_mup ⟨by omega, by omega⟩))
    have h6 : ∀ j i, j < 7 ∨ 10 ≤ j → M6.1 (s + j) i = M'.1 (s + j) i := by
      intro j i hj
      subst hM6
      rw [mup_off (by omega), mup_off (by omega), mup_off (by omega)]
    have e6 : ∀ j, j < c + 1 → j < T.nh → M6.1 (s + 7) j = Int32.ofNat (T.hcell j % 6) ∧ M6.1 (s + 8) j = Int32.ofNat (T.hcell j / 6) ∧ M6.1 (s + 9) j = 0 := by
      intro j hj hj'
      subst hM6
      simp only [mup_at]
      simp
      by_cases ej : j = c
      · subst ej
        rw [ct.hcell j hj', yrm6 _ (tk.hcell j hj'), ydv6 _ (tk.hcell j hj')]
        simp
      · simp [ej]
        exact i3 j (by omega) hj'
    refine yfor (n := 5) (fun f M'' => zfr (yTC s) M M'' ∧ (∀ j i, j ≠ 11 + 1 + c → M''.1 (s + j) i = M6.1 (s + j) i) ∧ ∀ g, g < f → M''.1 (s + 11 + 1 + c) g = 0) ⟨g6, fun _ _ _ => rfl, fun g hg => absurd hg (Nat.not_lt_zero _)⟩ (by decide) ?_ (fun M' _ => rfl) ?_
    · rintro f M'' hf ⟨j1, j2, j3⟩
      have e2 : mrw (s + 11) (Int32.ofNat c) = some (s + 11 + 1 + c) := by
        unfold mrw
        rw [zi_cl (by omega), if_neg]
        rintro (e | e)
        · exact zi_nn (by omega) e
        · omega
      have r2 := ysp_r sp hc
      rw [if_neg (yge (m := 5) hf (by decide)), e2, zob_some, mwr_of (k := s + 11 + 1 + c) (j := f) (by omega) (by omega), zob_some]
      refine zwp_ret ⟨rfl, zfr_trans j1 (zfr_mup ⟨by omega, by omega⟩), fun j i hj => ?_, fun g hg => ?_⟩
      · rw [mup_off (by omega)]; exact j2 j i hj
      · rw [mup_row]
        by_cases eg : g = f
        · rw [if_pos eg]
        · rw [if_neg eg]; exact j3 g (by omega)
    · rintro _ M7 ⟨j1, j2, j3⟩
      refine zwp_ret ⟨rfl, j1, fun j i hj => ?_, fun j hj hj' => ?_, fun j f hj hf => ?_⟩
      · rw [j2 j i (by omega), h6 j i (by omega)]; exact i2 j i hj
      · rw [j2 7 j (by omega), j2 8 j (by omega), j2 9 j (by omega)]; exact e6 j hj hj'
      · by_cases ej : j = c
        · subst ej; exact j3 f hf
        · have := j2 (11 + 1 + j) f (by omega)
          rw [show s + (11 + 1 + j) = s + 11 + 1 + j by omega] at this
          rw [this]
          have := h6 (11 + 1 + j) f (by omega)
          rw [show s + (11 + 1 + j) = s + 11 + 1 + j by omega] at this
          rw [this]
          exact i4 j f (by omega) hf
  rintro _ M8 ⟨f8, t8, p8, r8⟩
  refine yfor (n := 5) (fun c M' => zfr (yTC s) M M' ∧ (∀ j i, j ≠ 10 → M'.1 (s + j) i = M8.1 (s + j) i) ∧ ∀ j, j < c → M'.1 (s + 10) j = 0) ⟨f8, fun _ _ _ => rfl, fun j hj => absurd hj (Nat.not_lt_zero _)⟩ (by decide) ?_ (fun M' _ => rfl) ?_
  · rintro c M' hc ⟨i1, i2, i3⟩
    have d := ysp_g sp
    rw [if_neg (yge (m := 5) hc (by decide)), mwr_of (k := s + 10) (j := c) (by omega) (by omega), zob_some]
    refine zwp_ret ⟨rfl, zfr_trans i1 (zfr_mup ⟨by omega, by omega⟩), fun j i hj => ?_, fun j hj => ?_⟩
    · rw [mup_off (by omega)]; exact i2 j i hj
    · rw [mup_row]
      by_cases eg : j = c
      · rw [if_pos eg]
      · rw [if_neg eg]; exact i3 j (by omega)
  rintro _ M9 ⟨f9, t9, p9⟩
  have fl : ∀ i, M9.1 s i = M4.1 s i := fun i => by
    have a1 := t9 0 i (by decide)
    have a2 := t8 0 i (by decide)
    rw [Nat.add_zero] at a1 a2
    rw [a1, a2, t5]
  have c8 : ∀ j i, 1 ≤ j → j < 7 → M9.1 (s + j) i = M5.1 (s + j) i := fun j i h1 h2 => by rw [t9 j i (by omega), t8 j i h2]
  refine zwp_ret ⟨⟨sp, tk, ?_, ?_, yct_fr ct f9 (ytc_lo sp), ystart_ok tk, ?_, ?_, fun q hq => (c8 1 q (by decide) (by decide)).trans (p5 q (by omega) hq).1, fun q hq => (c8 2 q (by decide) (by decide)).trans (p5 q (by omega) hq).2.1, fun q hq => (c8 3 q (by decide) (by decide)).trans (p5 q (by omega) hq).2.2.1, fun q hq => (c8 4 q (by decide) (by decide)).trans (p5 q (by omega) hq).2.2.2.1, fun q hq => (c8 5 q (by decide) (by decide)).trans (p5 q (by omega) hq).2.2.2.2.1, fun q hq => (c8 6 q (by decide) (by decide)).trans (p5 q (by omega) hq).2.2.2.2.2, fun q hq => (t9 7 q (by decide)).trans (p8 q (by omega) hq).1, fun q hq => (t9 8 q (by decide)).trans (p8 q (by omega) hq).2.1, fun q hq => (t9 9 q (by decide)).trans (p8 q (by omega) hq).2.2, fun q hq => p9 q (by omega), fun q f hq hf => ?_⟩, f9⟩
  · rw [fl]; subst hM4
    rw [mup_off' (by decide), mup_off' (by decide), mup_off' (by decide), mup_on]
    exact zt_enc ct.tt
  · rw [fl]; subst hM4; exact mup_on
  · rw [fl]; subst hM4
    rw [mup_off' (by decide), mup_off' (by decide), mup_on]; rfl
  · rw [fl]; subst hM4
    rw [mup_off' (by decide), mup_on]; rfl
  · have a1 := t9 (11 + 1 + q) f (by omega)
    rw [show s + (11 + 1 + q) = s + 11 + 1 + q by omega] at a1
    exact a1.trans (r8 q f (by omega) (by omega))
set_option maxHeartbeats 8000000 in
theorem r_starts {M : zMem} {a : Int32} {sl : Nat} {o : Int32} {T : yT} (rt : yRT M T) (tk : yTok T) (hs : sl < 23) (ho : M.1 213 49 = o) (ho' : o ≠ 2) (f : Nat → Int32) (hf : ∀ c, c < T.nc → (if Int32.ofNat c = M.1 213 52 then M.1 213 53 else T.bsize c) = f c) (ea : zN a sl := by with_reducible repeat (first | assumption | exact zn_of _ | exact zn_lit _ | apply zn_add | apply zn_mul)) : zwp (m_X8_starts a M) (fun _ M' => yRS M' sl o T (ystart T f) ∧ zfr (yTR sl) M M') := by
  obtain rfl := ea.e
  have b1 := tk.nc
  have b2 := tk.nh
  have b3 := tk.nf
  unfold m_X8_starts
  rw [mwr_of (k := 234) (j := sl) (by show sl < 23; omega) (by decide), zob_some, mwr_of (k := 235) (j := sl) (by show sl < 23; omega) (by decide), zob_some]
  generalize hM4 : mup (mup M 234 sl 0) 235 sl (-1) = M4
  have f4 : zfr (yTR sl) M M4 := by
    subst hM4
    exact zfr_trans (zfr_mup (by unfold yTR; omega)) (zfr_mup (by unfold yTR; omega))
  have n213 : ∀ M', zfr (yTR sl) M M' → ∀ i, i ≠ 35 → M'.1 213 i = M.1 213 i := fun M' f i hi => f _ _ (by unfold yTR; omega)
  have w8 : ∀ (M1 : zMem) k c v, 236 ≤ k → k ≤ 240 → c < 8 → mwr M1 k (8 * Int32.ofNat sl + Int32.ofNat c) v = some (mup M1 k (8 * sl + c) v) := fun M1 k c v k1 k2 hc => by
    have : (zds k).2 = 184 := by
      have : k = 236 ∨ k = 237 ∨ k = 238 ∨ k = 239 ∨ k = 240 := by omega
      rcases this with rfl | rfl | rfl | rfl | rfl <;> rfl
    exact mwr_of (j := 8 * sl + c) (by omega) (by omega)
  refine yfor (n := 8) (fun c M' => zfr (yTR sl) M M' ∧ (∀ k i, (k = 234 ∨ k = 235) → M'.1 k i = M4.1 k i) ∧ ∀ j, j < c → j < T.nc → M'.1 236 (8 * sl + j) = Int32.ofNat (T.ccell j) ∧ M'.1 237 (8 * sl + j) = f j ∧ M'.1 238 (8 * sl + j) = 0 ∧ M'.1 239 (8 * sl + j) = -1 ∧ M'.1 240 (8 * sl + j) = 0) ⟨f4, fun _ _ _ => rfl, fun j hj => absurd hj (Nat.not_lt_zero _)⟩ (by decide) ?_ (fun M' _ => rfl) ?_
  · rintro c M' hc ⟨i1, i2, i3⟩
    have rt' := yrt_fr rt i1 ytr_lo
    rw [if_neg (yge (m := 8) hc (by decide)), rt'.rNc, zob_some]
    refine zwp_bd (Q' := fun v M1 => M1 = M' ∧ (c < T.nc → v = Int32.ofNat (T.ccell c))) ?_ ?_
    · by_cases hcn : c < T.nc
      · rw [if_neg (by rw [yle_f hcn (by omega)]; exact id), rt'.rCcell tk hcn, zob_some]
        exact zwp_ret ⟨rfl, fun _ => rfl⟩
      · rw [if_pos (by rw [zi_le (by omega) (by omega)]; omega)]
        exact zwp_ret ⟨rfl, fun z => absurd z hcn⟩
    rintro v1 M1 ⟨rfl, hv1⟩
    rw [w8 _ 236 c _ (by decide) (by decide) hc, zob_some]
    have i1' : zfr (yTR sl) M (mup M1 236 (8 * sl + c) v1) := zfr_trans i1 (zfr_mup (by unfold yTR; omega))
    have rt2 := yrt_fr rt i1' ytr_lo
    rw [rt2.rNc, zob_some]
    generalize hMx : mup M1 236 (8 * sl + c) v1 = Mx at i1' rt2 ⊢
    refine zwp_bd (Q' := fun v M2 => M2 = Mx ∧ (c < T.nc → v = f c)) ?_ ?_
    · by_cases hcn : c < T.nc
      · rw [if_neg (by rw [yle_f hcn (by omega)]; exact id)]
        unfold m_X8_sizeIn
        rw [n213 Mx i1' 52 (by decide), n213 Mx i1' 53 (by decide), ← hf c hcn]
        by_cases e : Int32.ofNat c = M.1 213 52
        · rw [if_pos e, if_pos e, mbd_some]; exact zwp_ret ⟨rfl, fun _ => rfl⟩
        · rw [if_neg e, if_neg e, rt2.rBsize tk hcn, zob_some, mbd_some]; exact zwp_ret ⟨rfl, fun _ => rfl⟩
      · rw [if_pos (by rw [zi_le (by omega) (by omega)]; omega)]
        exact zwp_ret ⟨rfl, fun z => absurd z hcn⟩
    rintro v2 M2 ⟨rfl, hv2⟩
    rw [w8 _ 237 c _ (by decide) (by decide) hc, zob_some, w8 _ 238 c _ (by decide) (by decide) hc, zob_some, w8 _ 239 c _ (by decide) (by decide) hc, zob_some, w8 _ 240 c _ (by decide) (by decide) hc, zob_some]
    refine zwp_ret ⟨rfl, zfr_trans i1' (zfr_trans (zfr_trans (zfr_trans (zfr_mup (by unfold yTR; omega)) (zfr_mup (by unfold yTR; omega))) (zfr_mup (by unfold yTR; omega))) (zfr_mup (by unfold yTR; omega))), fun k i hk => ?_, fun j hj hj' => ?_⟩
    · subst hMx
      rw [mup_off (by omega), mup_off (by omega), mup_off (by omega), mup_off (by omega), mup_off (by omega)]; exact i2 k i hk
    · subst hMx
      simp only [mup_at]
      simp
      by_cases ej : j = c
      · subst ej
        simp
        exact ⟨hv1 hj', hv2 hj'⟩
      · simp [ej]
        exact i3 j (by omega) hj'
  rintro _ M5 ⟨f5, t5, p5⟩
  refine yfor (n := 6) (fun c M' => zfr (yTR sl) M M' ∧ (∀ k i, (234 ≤ k ∧ k ≤ 240) → M'.1 k i = M5.1 k i) ∧ ∀ j, j < c → j < T.nh → M'.1 241 (6 * sl + j) = Int32.ofNat (T.hcell j) ∧ M'.1 242 (6 * sl + j) = 0) ⟨f5, fun _ _ _ => rfl, fun j hj => absurd hj (Nat.not_lt_zero _)⟩ (by decide) ?_ (fun M' _ => rfl) ?_
  · rintro c M' hc ⟨i1, i2, i3⟩
    have rt' := yrt_fr rt i1 ytr_lo
    rw [if_neg (yge (m := 6) hc (by decide)), rt'.rNh, zob_some]
    refine zwp_bd (Q' := fun v M1 => M1 = M' ∧ (c < T.nh → v = Int32.ofNat (T.hcell c))) ?_ ?_
    · by_cases hcn : c < T.nh
      · rw [if_neg (by rw [yle_f hcn (by omega)]; exact id), rt'.rHcell tk hcn, zob_some]
        exact zwp_ret ⟨rfl, fun _ => rfl⟩
      · rw [if_pos (by rw [zi_le (by omega) (by omega)]; omega)]
        exact zwp_ret ⟨rfl, fun z => absurd z hcn⟩
    rintro v1 M1 ⟨rfl, hv1⟩
    rw [mwr_of (k := 241) (j := 6 * sl + c) (by show _ < 138; omega) (by decide), zob_some, mwr_of (k := 242) (j := 6 * sl + c) (by show _ < 138; omega) (by decide), zob_some]
    refine zwp_ret ⟨rfl, zfr_trans i1 (zfr_trans (zfr_mup (by unfold yTR; omega)) (zfr_mup (by unfold yTR; omega))), fun k i hk => ?_, fun j hj hj' => ?_⟩
    · rw [mup_off (by omega), mup_off (by omega)]; exact i2 k i hk
    · simp only [mup_at]
      simp
      by_cases ej : j = c
      · subst ej
        simp
        exact hv1 hj'
      · simp [ej]
        exact i3 j (by omega) hj'
  rintro _ M6 ⟨f6, t6, p6⟩
  refine yfor (n := 5) (fun c M' => zfr (yTR sl) M M' ∧ (∀ k i, (234 ≤ k ∧ k ≤ 242) → M'.1 k i = M6.1 k i) ∧ ∀ j, j < c → M'.1 243 (5 * sl + j) = 0) ⟨f6, fun _ _ _ => rfl, fun j hj => absurd hj (Nat.not_lt_zero _)⟩ (by decide) ?_ (fun M' _ => rfl) ?_
  · rintro c M' hc ⟨i1, i2, i3⟩
    rw [if_neg (yge (m := 5) hc (by decide)), mwr_of (k := 243) (j := 5 * sl + c) (by show _ < 115; omega) (by decide), zob_some]
    refine zwp_ret ⟨rfl, zfr_trans i1 (zfr_mup (by unfold yTR; omega)), fun k i hk => ?_, fun j hj => ?_⟩
    · rw [mup_off (by omega)]; exact i2 k i hk
    · by_cases ej : j = c
      · subst ej; rw [mup_on]
      · rw [mup_off' (by omega)]; exact i3 j (by omega)
  rintro _ M7 ⟨f7, t7, p7⟩
  refine yfor (n := 35) (fun c M' => zfr (yTR sl) M M' ∧ (∀ k i, (234 ≤ k ∧ k ≤ 243) → M'.1 k i = M7.1 k i) ∧ ∀ j, j < c → M'.1 244 (35 * sl + j) = 0) ⟨f7, fun _ _ _ => rfl, fun j hj => absurd hj (Nat.not_lt_zero _)⟩ (by decide) ?_ (fun M' _ => rfl) ?_
  · rintro c M' hc ⟨i1, i2, i3⟩
    rw [if_neg (yge (m := 35) hc (by decide)), mwr_of (k := 244) (j := 35 * sl + c) (by show _ < 805; omega) (by decide), zob_some]
    refine zwp_ret ⟨rfl, zfr_trans i1 (zfr_mup (by unfold yTR; omega)), fun k i hk => ?_, fun j hj => ?_⟩
    · rw [mup_off (by omega)]; exact i2 k i hk
    · by_cases ej : j = c
      · subst ej; rw [mup_on]
      · rw [mup_off' (by omega)]; exact i3 j (by omega)
  rintro _ M8 ⟨f8, t8, p8⟩
  have q8 : ∀ k i, 236 ≤ k → k ≤ 240 → M8.1 k i = M5.1 k i := fun k i k1 k2 => by
    rw [t8 _ _ (by omega), t7 _ _ (by omega), t6 _ _ (by omega)]
  have q6 : ∀ k i, (k = 241 ∨ k = 242) → M8.1 k i = M6.1 k i := fun k i k1 => by
    rw [t8 _ _ (by omega), t7 _ _ (by omega)]
  refine zwp_ret ⟨⟨hs, tk, (n213 M8 f8 49 (by decide)).trans ho, yrt_fr rt f8 ytr_lo, ystart_ok tk, ?_, ?_, fun q hq => (q8 236 _ (by decide) (by decide)).trans (p5 q (by omega) hq).1, fun q hq => (q8 237 _ (by decide) (by decide)).trans (p5 q (by omega) hq).2.1, fun q hq => (q8 238 _ (by decide) (by decide)).trans (p5 q (by omega) hq).2.2.1, fun q hq => (q8 239 _ (by decide) (by decide)).trans (p5 q (by omega) hq).2.2.2.1, fun q hq => ?_, fun q hq => (q6 241 _ (Or.inl rfl)).trans (p6 q (by omega) hq).1, fun q hq => (q6 242 _ (Or.inr rfl)).trans (p6 q (by omega) hq).2, fun q hq => ?_, fun q g hq hg => ?_⟩, f8⟩
  · rw [t8 _ _ (by omega), t7 _ _ (by omega), t6 _ _ (by omega), t5 _ _ (by omega)]
    subst hM4; rw [mup_off (by decide), mup_on]; rfl
  · rw [t8 _ _ (by omega), t7 _ _ (by omega), t6 _ _ (by omega), t5 _ _ (by omega)]
    subst hM4; rw [mup_on]; rfl
  · rw [if_neg (fun z => ho' z.1), q8 240 _ (by decide) (by decide), (p5 q (by omega) hq).2.2.2.2]; rfl
  · rw [t8 _ _ (by omega), p7 q (by omega)]; rfl
  · rw [Nat.add_assoc, p8 (7 * g + q) (by omega)]; rfl

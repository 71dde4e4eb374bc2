/-! what stands while other things change -/
theorem yct_fr2 {P : Nat → Nat → Prop} {M M' : zMem} {t : Nat} {T : yT} (h : yCT M t T) (f : zfr P M M') (hp : ∀ k i, t ≤ k → k ≤ t + 17 → ¬ P k i) : yCT M' t T := by
  refine ⟨h.tt, (f _ _ (hp _ _ (by omega) (by omega))).trans h.nf, (f _ _ (hp _ _ (by omega) (by omega))).trans h.nc, (f _ _ (hp _ _ (by omega) (by omega))).trans h.nh, (f _ _ (hp _ _ (by omega) (by omega))).trans h.nw, (f _ _ (hp _ _ (by omega) (by omega))).trans h.rain, (f _ _ (hp _ _ (by omega) (by omega))).trans h.most, (f _ _ (hp _ _ (by omega) (by omega))).trans h.knots, fun c hc => (f _ _ (hp _ _ (by omega) (by omega))).trans (h.ground c hc), fun c hc => (f _ _ (hp _ _ (by omega) (by omega))).trans (h.fname c hc), fun c hc => (f _ _ (hp _ _ (by omega) (by omega))).trans (h.fcell c hc), fun c hc => (f _ _ (hp _ _ (by omega) (by omega))).trans (h.need c hc), fun c hc => (f _ _ (hp _ _ (by omega) (by omega))).trans (h.cname c hc), fun c hc => (f _ _ (hp _ _ (by omega) (by omega))).trans (h.ccell c hc), fun c hc => (f _ _ (hp _ _ (by omega) (by omega))).trans (h.bsize c hc), fun c hc => (f _ _ (hp _ _ (by omega) (by omega))).trans (h.bat c hc), fun c hc => (f _ _ (hp _ _ (by omega) (by omega))).trans (h.hname c hc), fun c hc => (f _ _ (hp _ _ (by omega) (by omega))).trans (h.hcell c hc), fun c hc => (f _ _ (hp _ _ (by omega) (by omega))).trans (h.sight c hc), fun c hc => (f _ _ (hp _ _ (by omega) (by omega))).trans (h.wind c hc), ?_⟩
  intro k hk
  obtain ⟨a, h1, h2, h3, h4⟩ := h.law k hk
  refine ⟨a, h1, (f _ _ (hp _ _ (by omega) (by omega))).trans h2, (f _ _ (hp _ _ (by omega) (by omega))).trans h3, fun j hj => ?_⟩
  exact (f _ _ (hp _ _ (by omega) (by omega))).trans (h4 j hj)
theorem yCS.keep2 {M M' : zMem} {s t : Nat} {o : Int32} {T : yT} {S : yA} {P : Nat → Nat → Prop} (h : yCS M s t o T S) (f : zfr P M M') (ht : ∀ k i, t ≤ k → k ≤ t + 17 → ¬ P k i) (hp : ∀ k i, s ≤ k → k < s + 18 → ¬ P k i) : yCS M' s t o T S := by
  have nh := h.tk.nh
  exact ⟨h.sp, h.tk, by rw [f _ _ (hp _ _ (by omega) (by omega))]; exact h.tp, (f _ _ (hp _ _ (by omega) (by omega))).trans h.ot, yct_fr2 h.ct f ht, h.ok, (f _ _ (hp _ _ (by omega) (by omega))).trans h.hour, (f _ _ (hp _ _ (by omega) (by omega))).trans h.blown, fun q hq => (f _ _ (hp _ _ (by omega) (by omega))).trans (h.x q hq), fun q hq => (f _ _ (hp _ _ (by omega) (by omega))).trans (h.y q hq), fun q hq => (f _ _ (hp _ _ (by omega) (by omega))).trans (h.size q hq), fun q hq => (f _ _ (hp _ _ (by omega) (by omega))).trans (h.age q hq), fun q hq => (f _ _ (hp _ _ (by omega) (by omega))).trans (h.owner q hq), fun q hq => (f _ _ (hp _ _ (by omega) (by omega))).trans (h.state q hq), fun q hq => (f _ _ (hp _ _ (by omega) (by omega))).trans (h.hx q hq), fun q hq => (f _ _ (hp _ _ (by omega) (by omega))).trans (h.hy q hq), fun q hq => (f _ _ (hp _ _ (by omega) (by omega))).trans (h.marks q hq), fun q hq => (f _ _ (hp _ _ (by omega) (by omega))).trans (h.got q hq), fun q g hq hg => (f _ _ (hp _ _ (by omega) (by omega))).trans (h.rained q g hq hg)⟩
def yCore (k i : Nat) : Prop := (5 ≤ k ∧ k ≤ 22) ∨ (24 ≤ k ∧ k < 60) ∨ (k = 0 ∧ i = 3) ∨ (80 ≤ k ∧ k ≤ 84) ∨ (k = 2 ∧ (i = 10 ∨ i = 14 ∨ i = 15)) ∨ k = 3 ∨ (k = 213 ∧ (i = 29 ∨ i = 30 ∨ (48 ≤ i ∧ i ≤ 52))) ∨ (215 ≤ k ∧ k < 232) ∨ (k ≠ 213 ∧ yTR 0 k i) ∨ yT3 k i
theorem yI.re {W : Nat → Int32} {M M' : zMem} {t : Nat} {T : yT} {S : yA} {P : Nat → Nat → Prop} (h : yI W M t T S) (f : zfr P M M') (hp : ∀ k i, yCore k i → ¬ P k i) (img : yImg M' t T) (no : ∃ N, yNot M' N) (tap : ∃ n, yTap M' n) : yI W M' t T S := by
  have tt : t = 5 ∨ t = 24 := h.cs.ct.tt
  obtain ⟨n, B, u⟩ := h.und
  refine ⟨h.cs.keep2 f (fun k i h1 h2 => hp k i (by unfold yCore; omega)) (fun k i h1 h2 => hp k i (by unfold yCore; omega)), h.rs.keep f (hp _ _ (by unfold yCore; omega)) (hp _ _ (by unfold yCore; omega)) (fun k i h1 h2 => hp k i (by unfold yCore; omega)) (fun k i h1 h2 => hp k i (by unfold yCore; exact Or.inr (Or.inr (Or.inr (Or.inr (Or.inr (Or.inr (Or.inr (Or.inr (Or.inl ⟨h1, h2⟩)))))))))), h.hr, ?_, img, ⟨n, B, u.keep f (fun k i h1 h2 => hp k i (by unfold yCore; omega)) (hp _ _ (by unfold yCore; omega)) (hp _ _ (by unfold yCore; omega)) (hp _ _ (by unfold yCore; omega)) (fun k i h1 h2 => hp k i (by unfold yCore; omega)) (fun sl k i h1 h2 h3 => hp k i (by unfold yTR at h3; unfold yCore yT3; omega))⟩, no, tap, h.rd.keep f (fun i hi => hp _ _ (by unfold yCore; omega)) (hp _ _ (by unfold yCore; omega)) (hp _ _ (by unfold yCore; omega)) (fun i => hp _ _ (by unfold yCore; omega)), h.mis.keep f (hp _ _ (by unfold yCore; omega)) (hp _ _ (by unfold yCore; omega)) (hp _ _ (by unfold yCore; omega)) (hp _ _ (by unfold yCore; omega)), h.bd⟩
  rw [f 0 3 (hp _ _ (by unfold yCore; omega))]; exact h.tp
/-! promise by promise: undone, images, notes -/
section
variable {W : Nat → Int32} {M : zMem} {t : Nat} {T : yT} {S : yA}
theorem c_undo (h : yI W M t T S) {k : Nat} {B : Nat → yA} (u : yUnd M T S (k + 1) B) : zwp (m_X0_undoLatest 42 M) (fun _ M' => M'.1 80 4 = Int32.ofNat k ∧ yCS M' 42 t 0 T (B k) ∧ zfr (fun q i => (q = 80 ∧ i = 4) ∨ (42 ≤ q ∧ q < 61)) M M' ∧ (B k).hour = S.hour) := by
  have hle := u.le
  have b1 := h.cs.tk.nc
  have b2 := h.cs.tk.nh
  have e1 : (1 : Int32) ≤ M.1 80 4 := by rw [u.c1, show (1 : Int32) = Int32.ofNat 1 from rfl, zi_le (by omega) (by omega)]; omega
  unfold m_X0_undoLatest
  rw [if_pos e1, mlt_eq, u.c1, yi_m1 (by omega), show k + 1 - 1 = k from rfl]
  have n3 : (mup M 80 4 (Int32.ofNat k)).1 80 4 = Int32.ofNat k := mup_on
  have f3 : zfr (fun q i => (q = 80 ∧ i = 4) ∨ (42 ≤ q ∧ q < 61)) M (mup M 80 4 (Int32.ofNat k)) := zfr_mup (Or.inl ⟨rfl, rfl⟩)
  have c3 : yCS (mup M 80 4 (Int32.ofNat k)) 42 t 0 T S := h.cs.keep (P := fun q i => q = 80 ∧ i = 4) (zfr_mup ⟨rfl, rfl⟩) (by omega)
  have d := u.deed k (by omega)
  rw [u.top] at d
  generalize mup M 80 4 (Int32.ofNat k) = M3 at n3 f3 c3 ⊢
  rw [mrd_of (k := 82) (j := k) (by show k < 20; omega) (by decide) n3, zob_some, mrd_of (k := 81) (j := k) (by show k < 20; omega) (by decide) n3, zob_some, f3 82 k (by omega), f3 81 k (by omega)]
  rcases d with ⟨c, q, hc, hq, d1, d2, d3, d4, e⟩ | ⟨c, v, hc, hv, d1, d2, d3, e⟩ | ⟨p, q, hp, hq, d1, d2, d3, d4, e⟩ | ⟨v, d1, d3, e⟩
  · rw [d1, d2, if_pos rfl, mrd_of (k := 83) (j := k) (by show k < 20; omega) (by decide) n3, zob_some, f3 83 k (by omega), d3, c3.wX hc, zob_some]
    have n4 : (mup M3 (42 + 1) c (Int32.ofNat (q % 6))).1 80 4 = Int32.ofNat k := (mup_off (by decide)).trans n3
    rw [mrd_of (k := 84) (j := k) (by show k < 20; omega) (by decide) n4, zob_some, mup_off (by decide), f3 84 k (by omega), d4, mwr_of (k := 42 + 2) (j := c) (by show c < 8; omega) (by decide), zob_some, mwr_of (k := 42 + 6) (j := c) (by show c < 8; omega) (by decide), zob_some]
    refine zwp_ret ⟨?_, ?_, zfr_trans f3 (zfr_trans (zfr_mup (by omega)) (zfr_trans (zfr_mup (by omega)) (zfr_mup (by omega)))), ?_⟩
    · rw [mup_off (by decide), mup_off (by decide)]; exact n4
    · rw [e]; exact (c3.setCell c q hq).setState c 1
    · rw [e]; rfl
  · rw [d1, d2, if_neg (by decide), if_pos rfl, mrd_of (k := 83) (j := k) (by show k < 20; omega) (by decide) n3, zob_some, f3 83 k (by omega), d3, c3.wOwner hc, zob_some]
    refine zwp_ret ⟨?_, ?_, zfr_trans f3 (zfr_mup (by omega)), ?_⟩
    · rw [mup_off (by decide)]; exact n3
    · rw [e]; exact c3.setOwner c v hv
    · rw [e]; rfl
  · rw [d1, d2, if_neg (by decide), if_neg (by decide), if_pos rfl, mrd_of (k := 83) (j := k) (by show k < 20; omega) (by decide) n3, zob_some, f3 83 k (by omega), d3, c3.wHx hp, zob_some]
    have n4 : (mup M3 (42 + 7) p (Int32.ofNat (q % 6))).1 80 4 = Int32.ofNat k := (mup_off (by decide)).trans n3
    rw [mrd_of (k := 84) (j := k) (by show k < 20; omega) (by decide) n4, zob_some, mup_off (by decide), f3 84 k (by omega), d4, mwr_of (k := 42 + 8) (j := p) (by show p < 6; omega) (by decide), zob_some]
    refine zwp_ret ⟨?_, ?_, zfr_trans f3 (zfr_trans (zfr_mup (by omega)) (zfr_mup (by omega))), ?_⟩
    · rw [mup_off (by decide)]; exact n4
    · rw [e]; exact c3.setPos p q hq
    · rw [e]; rfl
  · rw [d1, if_neg (by decide), if_neg (by decide), if_neg (by decide), mrd_of (k := 83) (j := k) (by show k < 20; omega) (by decide) n3, zob_some, f3 83 k (by omega), d3, mlt_eq]
    refine zwp_ret ⟨?_, ?_, zfr_trans f3 (zfr_mup (by omega)), ?_⟩
    · rw [mup_off (by decide)]; exact n3
    · rw [e]; exact c3.setBlown v
    · rw [e]; rfl
theorem p_undo (h : yI W M t T S) : yPr W (m_X7_undo M) m_X8_undo := by
  obtain ⟨n, B, u⟩ := h.und
  have hle := u.le
  unfold m_X7_undo m_X8_undo
  cases n with
  | zero =>
    refine yPr.qq h (v := -1) ?_ ?_
    · rw [u.c1]; exact if_pos rfl
    · simp only [mlt_eq]
      rw [mup_off' (by decide), u.r1]; exact if_pos rfl
  | succ k =>
    have nz : ¬ Int32.ofNat (k + 1) = 0 := by rw [show (0 : Int32) = Int32.ofNat 0 from rfl, zi_eq (by omega) (by omega)]; omega
    unfold yPr
    rw [u.c1, if_neg nz]
    refine zwp_bd (c_undo h u) ?_
    rintro _ M1 ⟨n1, c1, f1, hh⟩
    rw [n1]
    refine zwp_ret ?_
    simp only [mlt_eq]
    have r1 : (mup M1 213 0 0).1 213 48 = Int32.ofNat (k + 1) := (mup_off' (by decide)).trans ((f1 213 48 (by omega)).trans u.r1)
    rw [r1, if_neg nz, yi_m1 (by omega), show k + 1 - 1 = k from rfl, mup_on]
    have f4 : zfr (fun q i => (q = 80 ∧ i = 4) ∨ (42 ≤ q ∧ q < 61) ∨ (q = 213 ∧ (i = 0 ∨ i = 48))) M (mup (mup M1 213 0 0) 213 48 (Int32.ofNat k)) := zfr_trans (zfr_weak f1 (by omega)) (zfr_trans (zfr_mup (by omega)) (zfr_mup (by omega)))
    have kp : ∀ q, q < k + 1 → yRS (mup (mup M1 213 0 0) 213 48 (Int32.ofNat k)) (3 + q) 0 T (B q) := fun q hq => (u.sl q hq).keep f4 (by omega) (by omega) (by omega) (by unfold yTR; omega)
    refine zwp_bd (r_copies (to := 0) (sl := 3 + k) (kp k (by omega)) (by omega) (by omega)) ?_
    rintro _ M5 ⟨r5, f5⟩
    rw [f5 213 48 (by unfold yTR; omega), mup_on]
    have f15 : zfr (fun q i => (q = 213 ∧ (i = 0 ∨ i = 48)) ∨ yTR 0 q i) M1 M5 := zfr_trans (zfr_mup (by omega)) (zfr_trans (zfr_mup (by omega)) (zfr_weak f5 (fun q i z => Or.inr z)))
    have f05 : zfr (fun q i => (q = 80 ∧ i = 4) ∨ (42 ≤ q ∧ q < 61) ∨ (q = 213 ∧ (i = 0 ∨ i = 48)) ∨ yTR 0 q i) M M5 := zfr_trans (zfr_weak f1 (by omega)) (zfr_weak f15 (by intro q i z; rcases z with z | z; exact Or.inr (Or.inr (Or.inl z)); exact Or.inr (Or.inr (Or.inr z))))
    refine zwp_ret ⟨rfl, t, T, B k, h.step (zfr_weak f05 (by rintro k i (⟨rfl, rfl⟩ | z | ⟨rfl, rfl | rfl⟩ | z); exact ystp_d (by omega); exact ystp_c z; exact ystp_t (Or.inl rfl); exact ystp_u; exact ystp_r z)) (c1.keep f15 (by intro k i hk; unfold yTR; omega)) r5 (by rw [hh]; exact h.hr) ⟨k, B, by omega, rfl, (f15 80 4 (by unfold yTR; omega)).trans n1, ?_, fun q hq => ?_, fun q hq => ?_, fun q hq => u.bd q (by omega)⟩ (u.bd k (by omega))⟩
    · rw [f5 213 48 (by unfold yTR; omega), mup_on]
    · exact (kp q (by omega)).keep f5 (by unfold yTR; omega) (by unfold yTR; omega) (by unfold yTR; omega) (by unfold yTR; omega)
    · exact (u.deed q (by omega)).keep (fun x x1 x2 => f05 x q (by unfold yTR; omega))
theorem p_back (h : yI W M t T S) : yPr W (m_X7_back M) m_X8_back := by
  unfold m_X7_back m_X8_back
  rcases h.img.cs with e | ⟨e, SI, ci, ri, hi, bi⟩
  · refine yPr.qq h (v := -1) ?_ ?_
    · rw [e]; exact if_pos rfl
    · simp only [mlt_eq]
      rw [mup_off' (by decide), ← h.img.eq, e]; exact if_pos rfl
  · unfold yPr
    rw [e, if_neg (by decide)]
    refine zwp_bd (c_copy (s := 42) (s' := 61) ci h.cs.sp (by decide)) ?_
    rintro _ M1 ⟨c1, f1⟩
    unfold m_X0_forget
    rw [mlt_eq, mbd_some]
    have c2 : yCS (mup M1 80 4 0) 42 t 0 T SI := c1.keep (P := fun q i => q = 80 ∧ i = 4) (zfr_mup ⟨rfl, rfl⟩) (by omega)
    have f2 : zfr (fun q i => (q = 80 ∧ i = 4) ∨ yTC 42 q i) M (mup M1 80 4 0) := zfr_trans (zfr_weak f1 (fun q i z => Or.inr z)) (zfr_mup (Or.inl ⟨rfl, rfl⟩))
    have n2 : (mup M1 80 4 0).1 80 4 = 0 := mup_on
    generalize mup M1 80 4 0 = M2 at c2 f2 n2 ⊢
    refine zwp_ret ?_
    simp only [mlt_eq]
    have f3 : zfr (fun q i => (q = 80 ∧ i = 4) ∨ yTC 42 q i ∨ (q = 213 ∧ i = 0)) M (mup M2 213 0 0) := zfr_trans (zfr_weak f2 (fun q i z => z.elim Or.inl (fun w => Or.inr (Or.inl w)))) (zfr_mup (Or.inr (Or.inr ⟨rfl, rfl⟩)))
    rw [f3 213 47 (by unfold yTC; omega), ← h.img.eq, e, if_neg (by decide)]
    have r3 : yRS (mup M2 213 0 0) 2 0 T SI := ri.keep f3 (by unfold yTC; omega) (by unfold yTC; omega) (by unfold yTC; omega) (by unfold yTC yTR; omega)
    refine zwp_bd (r_copies (to := 0) (sl := 2) r3 (by omega) (by omega)) ?_
    rintro _ M4 ⟨r4, f4⟩
    have g5 : zfr (fun q i => q = 213 ∧ i = 48) M4 (mup M4 213 48 0) := zfr_mup ⟨rfl, rfl⟩
    have r5 : yRS (mup M4 213 48 0) 0 0 T SI := r4.keep g5 (by omega) (by omega) (by omega) (by omega)
    rw [r5.rHour0, zob_some]
    have f25 : zfr (fun q i => (q = 213 ∧ (i = 0 ∨ i = 48)) ∨ yTR 0 q i) M2 (mup M4 213 48 0) := zfr_trans (zfr_mup (by omega)) (zfr_trans (zfr_weak f4 (fun q i z => Or.inr z)) (zfr_mup (by omega)))
    have f05 : zfr (fun q i => (q = 80 ∧ i = 4) ∨ yTC 42 q i ∨ (q = 213 ∧ (i = 0 ∨ i = 48)) ∨ yTR 0 q i) M (mup M4 213 48 0) := zfr_trans (zfr_weak f2 (fun q i z => z.elim Or.inl (fun w => Or.inr (Or.inl w)))) (zfr_weak f25 (fun q i z => Or.inr (Or.inr z)))
    exact zwp_ret ⟨c2.hour, t, T, SI, h.step (zfr_weak f05 (by rintro k i (⟨rfl, rfl⟩ | z | ⟨rfl, rfl | rfl⟩ | z); exact ystp_d (by omega); exact ystp_c z; exact ystp_t (Or.inl rfl); exact ystp_u; exact ystp_r z)) (c2.keep f25 (by intro k i hk; unfold yTR; omega)) r5 hi ⟨0, fun _ => SI, by omega, rfl, (f25 80 4 (by unfold yTR; omega)).trans n2, mup_on, fun k hk => absurd hk (by omega), fun k hk => absurd hk (by omega), fun k hk => absurd hk (by omega)⟩ bi⟩
theorem p_keep (h : yI W M t T S) : yPr W (m_X7_keep M) m_X8_keep := by
  have tt : t = 5 ∨ t = 24 := h.cs.ct.tt
  obtain ⟨N, no⟩ := h.no
  obtain ⟨m, tap⟩ := h.tap
  unfold m_X7_keep m_X8_keep yPr
  refine zwp_bd (c_copy (s := 61) (s' := 42) h.cs (by unfold ySP; decide) (by decide)) ?_
  rintro _ M1 ⟨c1, f1⟩
  rw [mlt_eq]
  have g2 : zfr (fun q i => q = 0 ∧ i = 6) M1 (mup M1 0 6 1) := zfr_mup ⟨rfl, rfl⟩
  have f2 : zfr (fun q i => (q = 0 ∧ i = 6) ∨ yTC 61 q i) M (mup M1 0 6 1) := zfr_trans (zfr_weak f1 (fun q i z => Or.inr z)) (zfr_weak g2 (fun q i z => Or.inl z))
  have n2 : (mup M1 0 6 1).1 0 6 = 1 := mup_on
  have c2 : yCS (mup M1 0 6 1) 61 t 0 T S := c1.keep2 g2 (by omega) (by omega)
  generalize mup M1 0 6 1 = M2 at f2 n2 c2 ⊢
  refine zwp_ret ?_
  simp only [mlt_eq]
  have f3 : zfr (fun q i => (q = 0 ∧ i = 6) ∨ yTC 61 q i ∨ (q = 213 ∧ i = 0)) M (mup M2 213 0 0) := zfr_trans (zfr_weak f2 (fun q i z => z.elim Or.inl (fun w => Or.inr (Or.inl w)))) (zfr_mup (Or.inr (Or.inr ⟨rfl, rfl⟩)))
  have r3 : yRS (mup M2 213 0 0) 0 0 T S := h.rs.keep f3 (by unfold yTC; omega) (by unfold yTC; omega) (by unfold yTC; omega) (by unfold yTC yTR; omega)
  refine zwp_bd (r_copies (to := 2) (sl := 0) r3 (by omega) (by omega)) ?_
  rintro _ M4 ⟨r4, f4⟩
  have g5 : zfr (fun q i => q = 213 ∧ i = 47) M4 (mup M4 213 47 1) := zfr_mup ⟨rfl, rfl⟩
  have r5 : yRS (mup M4 213 47 1) 2 0 T S := r4.keep g5 (by omega) (by omega) (by omega) (by omega)
  have r0 : yRS (mup M4 213 47 1) 0 0 T S := (r3.keep f4 (by unfold yTR; omega) (by unfold yTR; omega) (by unfold yTR; omega) (by unfold yTR; omega)).keep g5 (by omega) (by omega) (by omega) (by omega)
  rw [r0.rHour0, zob_some, f2 42 11 (by unfold yTC; omega), h.cs.hour]
  have f25 : zfr (fun q i => (q = 213 ∧ (i = 0 ∨ i = 47)) ∨ yTR 2 q i) M2 (mup M4 213 47 1) := zfr_trans (zfr_mup (by omega)) (zfr_trans (zfr_weak f4 (fun q i z => Or.inr z)) (zfr_mup (by omega)))
  have f05 : zfr (fun q i => (q = 0 ∧ i = 6) ∨ yTC 61 q i ∨ (q = 213 ∧ (i = 0 ∨ i = 47)) ∨ yTR 2 q i) M (mup M4 213 47 1) := zfr_trans (zfr_weak f2 (fun q i z => z.elim Or.inl (fun w => Or.inr (Or.inl w)))) (zfr_weak f25 (fun q i z => Or.inr (Or.inr z)))
  have n5 : (mup M4 213 47 1).1 0 6 = 1 := (f25 0 6 (by unfold yTR; omega)).trans n2
  refine zwp_ret ⟨rfl, t, T, S, h.re f05 (by intro k i hk; unfold yCore yT3 yTR at hk; unfold yTC yTR; omega) ⟨n5.trans mup_on.symm, Or.inr ⟨n5, S, c2.keep f25 (by intro k i hk; unfold yTR; omega), r5, h.hr, h.bd⟩⟩ ⟨N, no.keep f05 (by unfold yTC yTR; omega) (by unfold yTC yTR; omega) (by unfold yTC yTR; omega) (by unfold yTC yTR; omega)⟩ ⟨m, tap.keep f05 (by unfold yTC yTR; omega) (by unfold yTC yTR; omega) (by unfold yTC yTR; omega) (by unfold yTC yTR; omega)⟩⟩
end

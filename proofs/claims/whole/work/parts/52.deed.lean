/-! promise by promise: what is done by call -/
theorem yu_back {γ : Type} {f : Nat → γ} {c : Nat} {x y : γ} (e : y = f c) : yu (yu f c x) c y = f := by
  funext j
  unfold yu
  by_cases h : j = c
  · rw [if_pos h, h, e]
  · rw [if_neg h, if_neg h]
theorem yu_same {γ : Type} {f : Nat → γ} {c : Nat} {y : γ} (e : y = f c) : yu f c y = f := by
  funext j
  unfold yu
  by_cases h : j = c
  · rw [if_pos h, h, e]
  · rw [if_neg h]
section
variable {W : Nat → Int32} {M : zMem} {t : Nat} {T : yT} {S : yA}
theorem yRS.rBlown0 {o : Int32} (h : yRS M 0 o T S) : mrd M 235 0 = some S.blown := by
  rw [mrd_of (k := 235) (j := 0) (by decide) (by decide), h.blown]
theorem yRS.rHour0 {o : Int32} (h : yRS M 0 o T S) : mrd M 234 0 = some (Int32.ofNat S.hour) := by
  rw [mrd_of (k := 234) (j := 0) (by decide) (by decide), h.hour]
theorem p_blow (h : yI W M t T S) (a : Int32) : yPr W (m_X7_blow a M) (m_X8_blow a) := by
  have h1 := h.thr 0
  unfold m_X7_blow m_X8_blow
  rcases y_from (-1) 4 a M with ⟨e, ho⟩ | ⟨e, l1, l2, l3⟩
  · refine yPr.qq h (v := 0) ?_ ?_
    · simp only [e, mbd_some, if_true]
    · simp only [mlt_eq]
      rcases ho with z | ⟨z1, z2, z3⟩
      · rw [if_pos z]
      · rw [if_neg z1, if_pos z2]
  · by_cases eb : S.blown = a
    · refine yPr.qq h (v := 0) ?_ ?_
      · simp only [e, mbd_some, one_ne, if_false]
        rw [h.cs.blown, if_pos eb]
      · simp only [mlt_eq, l1, l2, if_false]
        rw [h1.rs.rBlown0, zob_some, if_pos eb]
    · obtain ⟨n, B, u⟩ := h.und
      unfold yPr
      simp only [e, mbd_some, one_ne, if_false]
      rw [h.cs.blown, if_neg eb]
      refine zwp_bd (c_remember u.le u.c1 3 0 S.blown 0) ?_
      rintro _ M1 rem
      rw [mlt_eq]
      refine zwp_ret ?_
      have c1 : yCS M1 42 t 0 T S := h.cs.keep rem.2.2.2.2.2.2 (by omega)
      have f2 : zfr (fun k _ => 42 ≤ k ∧ k < 61) M1 (mup M1 42 12 a) := zfr_mup (by omega)
      obtain ⟨r0, kn⟩ := h.kn u rem f2
      simp only [mlt_eq, l1, l2, if_false]
      rw [r0.rBlown0, zob_some, if_neg eb]
      refine zwp_bd kn ?_
      rintro _ M3 kn3
      rw [mwr_of (k := 235) (j := 0) (by decide) (by decide), zob_some]
      exact zwp_ret ⟨rfl, t, T, yA.w_blown S a, h.deed u rem f2 (c1.setBlown a) kn3 (zfr_mup (by unfold yTR; omega)) (kn3.2.2.2.1.setBlown a) h.hr h.bd (fun X e1 e2 e3 e4 => Or.inr (Or.inr (Or.inr ⟨S.blown, e1, e3, rfl⟩)))⟩
theorem p_give2 (h : yI W M t T S) {c : Nat} (hc : c < T.nc) {v : Int32} (hv : v = -1 ∨ ∃ q, q < T.nh ∧ v = Int32.ofNat q) :
    zwp (zob (mrd M (42 + 5) (Int32.ofNat c)) (fun v16 => mbd (m_X0_remember 1 (Int32.ofNat c) v16 0 M) (fun _ M17 => zob (mwr M17 (42 + 5) (Int32.ofNat c) v) (fun M21 => some ((1 : Int32), M21)))))
      (fun r M2 => r = 1 ∧ yRS (mup M2 213 0 0) 0 0 T S ∧ zwp (mbd (m_X8_keepNow (mup M2 213 0 0)) (fun _ M8 => zob (mwr M8 239 (Int32.ofNat c) v) (fun M11 => some ((1 : Int32), M11)))) (fun r' M4 => r = r' ∧ ∃ t T S, yI W M4 t T S)) := by
  have b1 := h.cs.tk.nc
  obtain ⟨n, B, u⟩ := h.und
  rw [h.cs.rOwner hc, zob_some]
  refine zwp_bd (c_remember u.le u.c1 1 (Int32.ofNat c) (S.owner c) 0) ?_
  rintro _ M1 rem
  have c1 : yCS M1 42 t 0 T S := h.cs.keep rem.2.2.2.2.2.2 (by omega)
  rw [c1.wOwner hc, zob_some]
  have f2 : zfr (fun k _ => 42 ≤ k ∧ k < 61) M1 (mup M1 (42 + 5) c v) := zfr_mup (by omega)
  obtain ⟨r0, kn⟩ := h.kn u rem f2
  refine zwp_ret ⟨rfl, r0, ?_⟩
  refine zwp_bd kn ?_
  rintro _ M3 kn3
  rw [mwr_of (k := 239) (j := c) (by show c < 184; omega) (by decide), zob_some]
  refine zwp_ret ⟨rfl, t, T, yA.w_owner S (yu S.owner c v), h.deed u rem f2 (c1.setOwner c v hv) kn3 (zfr_mup (by unfold yTR; omega)) ?_ h.hr h.bd (fun X e1 e2 e3 e4 => Or.inr (Or.inl ⟨c, S.owner c, hc, h.cs.ok.owner c hc, e1, e2, e3, yA_ext rfl rfl rfl rfl rfl (yu_back rfl).symm rfl rfl rfl rfl rfl⟩))⟩
  have q := kn3.2.2.2.1.setOwner c v (by omega) hv
  rw [show 8 * 0 + c = c by omega] at q
  exact q
theorem p_give (h : yI W M t T S) (a b : Int32) : yPr W (m_X7_give a b M) (m_X8_give a b) := by
  have h1 := h.thr 0
  unfold m_X7_give m_X8_give
  rcases y_isCloud h a with ⟨e1, e2⟩ | ⟨c, hc, rfl, e1, e2⟩
  · refine yPr.qq h (v := 0) ?_ ?_
    · simp only [e1, mbd_some, if_true]
    · simp only [mlt_eq, e2 _ h1.rs.rt, mbd_some, if_true]
  · have e2' := e2 _ h1.rs.rt
    by_cases hu : S.state c = 1
    · have up : ∀ M', yRS M' 0 0 T S → m_X8_isUp 0 (Int32.ofNat c) M' = some (1, M') := fun M' q => r_isUp1 (a := 0) q hc hu
      by_cases eb : b = -1
      · by_cases eo : S.owner c = b
        · refine yPr.qq h (v := 0) ?_ ?_
          · simp only [e1, mbd_some, one_ne, if_false]
            rw [h.cs.rState hc, zob_some, if_pos hu, if_pos eb, mbd_some, zsl_l, h.cs.rOwner hc, zob_some, if_pos eo]
          · simp only [mlt_eq, e2', mbd_some, one_ne, if_false]
            rw [if_pos eb, up _ h1.rs, mbd_some, if_neg (by decide), h1.rs.rOwner0 hc, zob_some, if_pos eo]
        · unfold yPr
          simp only [e1, mbd_some, one_ne, if_false]
          rw [h.cs.rState hc, zob_some, if_pos hu, if_pos eb, mbd_some, zsl_l, h.cs.rOwner hc, zob_some, if_neg eo]
          have z := p_give2 h hc (v := b) (Or.inl eb)
          rw [h.cs.rOwner hc] at z
          refine zwp_mono z ?_
          rintro r M2 ⟨rfl, r0, kn⟩
          simp only [mlt_eq, e2 _ r0.rt, mbd_some, one_ne, if_false]
          rw [if_pos eb, up _ r0, mbd_some, if_neg (by decide), r0.rOwner0 hc, zob_some, if_neg eo]
          exact kn
      · rcases y_isChild h b with ⟨g1, g2⟩ | ⟨q, hq, rfl, g1, g2⟩
        · refine yPr.qq h (v := 0) ?_ ?_
          · simp only [e1, mbd_some, one_ne, if_false]
            rw [h.cs.rState hc, zob_some, if_pos hu, if_neg eb, g1, mbd_some, if_pos rfl, mbd_some, zsl_r]
          · simp only [mlt_eq, e2', mbd_some, one_ne, if_false]
            rw [if_neg eb, g2 _ h1.rs.rt, mbd_some, if_pos rfl]
        · by_cases eo : S.owner c = Int32.ofNat q
          · refine yPr.qq h (v := 0) ?_ ?_
            · simp only [e1, mbd_some, one_ne, if_false]
              rw [h.cs.rState hc, zob_some, if_pos hu, if_neg eb, g1, mbd_some, if_neg (by decide), mbd_some, zsl_l, h.cs.rOwner hc, zob_some, if_pos eo]
            · simp only [mlt_eq, e2', mbd_some, one_ne, if_false]
              rw [if_neg eb, g2 _ h1.rs.rt, mbd_some, if_neg (by decide), up _ h1.rs, mbd_some, if_neg (by decide), h1.rs.rOwner0 hc, zob_some, if_pos eo]
          · unfold yPr
            simp only [e1, mbd_some, one_ne, if_false]
            rw [h.cs.rState hc, zob_some, if_pos hu, if_neg eb, g1, mbd_some, if_neg (by decide), mbd_some, zsl_l, h.cs.rOwner hc, zob_some, if_neg eo]
            have z := p_give2 h hc (v := Int32.ofNat q) (Or.inr ⟨q, hq, rfl⟩)
            rw [h.cs.rOwner hc] at z
            refine zwp_mono z ?_
            rintro r M2 ⟨rfl, r0, kn⟩
            simp only [mlt_eq, e2 _ r0.rt, mbd_some, one_ne, if_false]
            rw [if_neg eb, g2 _ r0.rt, mbd_some, if_neg (by decide), up _ r0, mbd_some, if_neg (by decide), r0.rOwner0 hc, zob_some, if_neg eo]
            exact kn
    · have up : ∀ M', yRS M' 0 0 T S → m_X8_isUp 0 (Int32.ofNat c) M' = some (0, M') := fun M' q => r_isUp0 (a := 0) q hc hu
      refine yPr.qq h (v := 0) ?_ ?_
      · simp only [e1, mbd_some, one_ne, if_false]
        rw [h.cs.rState hc, zob_some, if_neg hu]
      · simp only [mlt_eq, e2', mbd_some, one_ne, if_false]
        by_cases eb : b = -1
        · rw [if_pos eb, up _ h1.rs, mbd_some, if_pos rfl]
        · rw [if_neg eb]
          rcases y_isChild h b with ⟨g1, g2⟩ | ⟨q, hq, rfl, g1, g2⟩
          · rw [g2 _ h1.rs.rt, mbd_some, if_pos rfl]
          · rw [g2 _ h1.rs.rt, mbd_some, if_neg (by decide), up _ h1.rs, mbd_some, if_pos rfl]
theorem p_stand (h : yI W M t T S) (a x y : Int32) : yPr W (m_X7_stand a x y M) (m_X8_stand a x y) := by
  have h1 := h.thr 0
  have b2 := h.cs.tk.nh
  unfold m_X7_stand m_X8_stand
  rcases y_isChild h a with ⟨e1, e2⟩ | ⟨q, hq, rfl, e1, e2⟩
  · refine yPr.qq h (v := 0) ?_ ?_
    · simp only [e1, mbd_some, if_true]
    · simp only [mlt_eq, e2 _ h1.rs.rt, mbd_some, if_true]
  · have e2' := e2 _ h1.rs.rt
    have pq := h.cs.ok.pos q hq
    rcases y_isCell x y with e | ⟨k, hk, rfl, rfl, e⟩
    · refine yPr.qq h (v := 0) ?_ ?_
      · simp only [e1, e, mbd_some, one_ne, if_false, if_true]
      · simp only [mlt_eq, e2', isCell_eq, e, mbd_some, one_ne, if_false, if_true]
    · have x1 : (Int32.ofNat (S.pos q % 6) = Int32.ofNat (k % 6)) ↔ S.pos q % 6 = k % 6 := zi_eq (by omega) (by omega)
      have y1 : (Int32.ofNat (S.pos q / 6) = Int32.ofNat (k / 6)) ↔ S.pos q / 6 = k / 6 := zi_eq (by omega) (by omega)
      have k1 : (Int32.ofNat (S.pos q) = Int32.ofNat k) ↔ S.pos q = k := zi_eq (by omega) (by omega)
      by_cases ep : S.pos q = k
      · refine yPr.qq h (v := 0) ?_ ?_
        · simp only [e1, e, mbd_some, one_ne, if_false]
          rw [h.cs.rHx hq, zob_some, if_pos (x1.mpr (by rw [ep])), h.cs.rHy hq, zob_some, if_pos (y1.mpr (by rw [ep])), mbd_some, zsl_r]
        · simp only [mlt_eq, e2', isCell_eq, e, mbd_some, one_ne, if_false]
          rw [h1.rs.rPos0 hq, zob_some, ycell6, if_pos (k1.mpr ep)]
      · obtain ⟨n, B, u⟩ := h.und
        unfold yPr
        simp only [e1, e, mbd_some, one_ne, if_false]
        have st : (if Int32.ofNat (S.pos q % 6) = Int32.ofNat (k % 6) then zob (mrd M (42 + 8) (Int32.ofNat q)) (fun v10 => if v10 = Int32.ofNat (k / 6) then some ((Sum.inr 0 : Unit ⊕ Int32), M) else some (Sum.inl (), M)) else some (Sum.inl (), M)) = some (Sum.inl (), M) := by
          by_cases z : S.pos q % 6 = k % 6
          · rw [if_pos (x1.mpr z), h.cs.rHy hq, zob_some, if_neg (fun w => ep (by have := y1.mp w; omega))]
          · rw [if_neg (fun w => z (x1.mp w))]
        rw [h.cs.rHx hq, zob_some, st, mbd_some, zsl_l, h.cs.rHx hq, zob_some, h.cs.rHy hq, zob_some]
        refine zwp_bd (c_remember u.le u.c1 2 (Int32.ofNat q) (Int32.ofNat (S.pos q % 6)) (Int32.ofNat (S.pos q / 6))) ?_
        rintro _ M1 rem
        have c1 : yCS M1 42 t 0 T S := h.cs.keep rem.2.2.2.2.2.2 (by omega)
        have c2 := c1.setPos q k hk
        rw [c1.wHx hq, zob_some, mwr_of (k := 42 + 8) (j := q) (by show q < 6; omega) (by decide), zob_some]
        have f2 : zfr (fun k _ => 42 ≤ k ∧ k < 61) M1 (mup (mup M1 (42 + 7) q (Int32.ofNat (k % 6))) (42 + 8) q (Int32.ofNat (k / 6))) := zfr_trans (zfr_mup (by omega)) (zfr_mup (by omega))
        obtain ⟨r0, kn⟩ := h.kn u rem f2
        refine zwp_ret ?_
        simp only [mlt_eq, e2 _ r0.rt, isCell_eq, e, mbd_some, one_ne, if_false]
        rw [r0.rPos0 hq, zob_some, ycell6, if_neg (fun w => ep (k1.mp w))]
        refine zwp_bd kn ?_
        rintro _ M3 kn3
        rw [mwr_of (k := 241) (j := q) (by show q < 138; omega) (by decide), zob_some]
        refine zwp_ret ⟨rfl, t, T, yA.w_pos S (yu S.pos q k), h.deed u rem f2 c2 kn3 (zfr_mup (by unfold yTR; omega)) ?_ h.hr h.bd (fun X e1 e2 e3 e4 => Or.inr (Or.inr (Or.inl ⟨q, S.pos q, hq, pq, e1, e2, e3, e4, yA_ext rfl rfl rfl rfl rfl rfl rfl (yu_back rfl).symm rfl rfl rfl⟩)))⟩
        have z := kn3.2.2.2.1.setPos q k (by omega) _ rfl hk
        rw [show 6 * 0 + q = q by omega] at z
        exact z
theorem p_push (h : yI W M t T S) (a w : Int32) : yPr W (m_X7_push a w M) (m_X8_push a w) := by
  have h1 := h.thr 0
  unfold m_X7_push m_X8_push
  rcases y_isChild h a with ⟨e1, e2⟩ | ⟨q, hq, rfl, e1, e2⟩
  · refine yPr.qq h (v := -1) ?_ ?_
    · simp only [e1, mbd_some, if_true]
    · simp only [mlt_eq, e2 _ h1.rs.rt, mbd_some, if_true]
  · have e2' := e2 _ h1.rs.rt
    rcases y_from 1 4 w M with ⟨e, ho⟩ | ⟨e, l1, l2, l3⟩
    · refine yPr.qq h (v := -1) ?_ ?_
      · simp only [e1, e, mbd_some, one_ne, if_false, if_true]
      · simp only [mlt_eq, e2', mbd_some, one_ne, if_false]
        rcases ho with z | ⟨z1, z2, z3⟩
        · rw [if_pos z]
        · rw [if_neg z1, if_neg z3]
    · have w0 : ¬ w ≤ 0 := by
        intro z
        refine l1 (Int32.lt_of_le_of_lt z (by decide))
      have os : ∀ M', yRS M' 0 0 T S → m_X8_ownSeen 0 (Int32.ofNat q) M' = some (zfst (yfp S T q) 0 T.nc, M') := fun M' z => r_ownSeen (a := 0) z hq
      rcases zfst_in (p := yfp S T q) (n := T.nc) 0 with ef | ⟨c, -, hc, pc, ef⟩
      · refine yPr.qq h (v := -2) ?_ ?_
        · simp only [e1, e, mbd_some, one_ne, if_false]
          rw [c_firstToPush h.cs hq, mbd_some, ef, if_pos rfl]
        · simp only [mlt_eq, e2', mbd_some, one_ne, if_false]
          rw [if_neg l1, if_pos l3, os _ h1.rs, mbd_some, ef, if_pos rfl]
      · have hc : c < T.nc := by omega
        have b1 := h.cs.tk.nc
        have nn : ¬ Int32.ofNat c = -1 := zi_n1 (by omega)
        obtain ⟨n, B, u⟩ := h.und
        unfold yPr
        simp only [e1, e, mbd_some, one_ne, if_false]
        rw [c_firstToPush h.cs hq, mbd_some, ef, if_neg nn, h.cs.rX hc, zob_some, h.cs.rY hc, zob_some]
        refine zwp_bd (c_remember u.le u.c1 0 (Int32.ofNat c) (Int32.ofNat (S.cell c % 6)) (Int32.ofNat (S.cell c / 6))) ?_
        rintro _ M1 rem
        have c1 : yCS M1 42 t 0 T S := h.cs.keep rem.2.2.2.2.2.2 (by omega)
        refine zwp_bd (c_move c1 hc w) ?_
        rintro _ M2 ⟨c2, f2⟩
        have f2 : zfr (fun k _ => 42 ≤ k ∧ k < 61) M1 M2 := zfr_weak f2 (fun k i z => z)
        obtain ⟨r0, kn⟩ := h.kn u rem f2
        refine zwp_ret ?_
        simp only [mlt_eq, e2 _ r0.rt, mbd_some, one_ne, if_false]
        rw [if_neg l1, if_pos l3, os _ r0, mbd_some, ef, if_neg nn]
        refine zwp_bd kn ?_
        rintro _ M3 kn3
        have r3 := kn3.2.2.2.1
        unfold m_X8_pushes
        rw [os _ r3, mbd_some, ef, if_neg nn, if_neg w0]
        refine zwp_bd (Q' := fun _ M' => yRS M' 0 0 T (ymv w c S) ∧ zfr (yTR 0) M3 M') ?_ ?_
        · refine zwp_bd (r_drifts (a := 0) r3 hc pc.1 w) ?_
          rintro _ M4 z
          exact zwp_ret z
        · rintro _ M4 ⟨r4, f4⟩
          refine zwp_ret ⟨rfl, t, T, ymv w c S, h.deed u rem f2 c2 kn3 f4 r4 (by rw [yh_mv]; exact h.hr) (ymv_bd h.bd pc.1) (fun X e1 e2 e3 e4 => Or.inl ⟨c, S.cell c, hc, h.cs.ok.cell c hc, e1, e2, e3, e4, ?_⟩)⟩
          unfold ymv
          split
          · exact yA_ext rfl rfl (yu_back rfl).symm rfl rfl rfl (yu_same pc.1.symm).symm rfl rfl rfl rfl
          · exact yA_ext rfl rfl (yu_same rfl).symm rfl rfl rfl (yu_back pc.1.symm).symm rfl rfl rfl rfl
theorem p_go (h : yI W M t T S) (a : Int32) : yPr W (m_X7_go a M) (m_X8_go a) := by
  have h1 := h.thr 0
  have hr := h.hr
  unfold m_X7_go m_X8_go
  rcases y_from 0 99 a M with ⟨e, ho⟩ | ⟨e, l1, l2, l3⟩
  · refine yPr.qq h (v := -1) ?_ ?_
    · simp only [e, mbd_some, if_true]
    · simp only [mlt_eq]
      rcases ho with z | ⟨z1, z2, z3⟩
      · rw [if_pos z]
      · rw [if_neg z1, if_pos z2]
  · obtain ⟨n, -, hn, rfl⟩ := y_nat 0 99 rfl rfl (by decide) (by decide) l1 l2
    have s1 : (Int32.ofNat S.hour + Int32.ofNat n ≤ 999) ↔ S.hour + n ≤ 999 := by
      rw [← Int32.ofNat_add, show (999 : Int32) = Int32.ofNat 999 from rfl, zi_le (by omega) (by omega)]
    by_cases e9 : S.hour + n ≤ 999
    · unfold yPr
      simp only [e, mbd_some, one_ne, if_false]
      rw [h.cs.hour, if_pos (s1.mpr e9)]
      obtain ⟨m, B, u⟩ := h.und
      refine zwp_bd (Q' := fun _ M1 => yCS M1 42 t 0 T S ∧ M1.1 80 4 = (if n = 0 then Int32.ofNat m else 0) ∧ zfr (fun k i => k = 80 ∧ i = 4) M M1) ?_ ?_
      · by_cases e0 : n = 0
        · rw [if_pos (by rw [e0]; decide), if_pos e0]
          exact zwp_ret ⟨h.cs, u.c1, zfr_refl⟩
        · rw [if_neg (by rw [show (0 : Int32) = Int32.ofNat 0 from rfl, zi_le (by omega) (by omega)]; omega), if_neg e0]
          unfold m_X0_forget
          rw [mlt_eq, mbd_some]
          have f : zfr (fun k i => k = 80 ∧ i = 4) M (mup M 80 4 0) := zfr_mup ⟨rfl, rfl⟩
          exact zwp_ret ⟨h.cs.keep f (by omega), mup_on, f⟩
      · rintro _ M1 ⟨c1, n1, f1⟩
        refine c_run c1 rfl (by omega) (by omega) (fun _ M2 c2 f2 => zwp_ret ?_)
        have f02 : zfr (fun k i => (k = 80 ∧ i = 4) ∨ yTC 42 k i) M M2 := zfr_trans (zfr_weak f1 (fun k i z => Or.inl z)) (zfr_weak f2 (fun k i z => Or.inr z))
        have f03 : zfr (fun k i => (k = 80 ∧ i = 4) ∨ yTC 42 k i ∨ (k = 213 ∧ i = 0)) M (mup M2 213 0 0) := zfr_trans (zfr_weak f02 (fun k i z => z.elim Or.inl (fun w => Or.inr (Or.inl w)))) (zfr_mup (Or.inr (Or.inr ⟨rfl, rfl⟩)))
        have r2 : yRS (mup M2 213 0 0) 0 0 T S := h.rs.keep f03 (by unfold yTC; omega) (by unfold yTC; omega) (by unfold yTC; omega) (by unfold yTC yTR; omega)
        simp only [mlt_eq, l1, l2, if_false]
        rw [r2.rHour0, zob_some, if_pos (s1.mpr e9)]
        refine zwp_bd (Q' := fun _ M3 => yRS M3 0 0 T S ∧ M3.1 213 48 = (if n = 0 then Int32.ofNat m else 0) ∧ zfr (fun k i => k = 213 ∧ i = 48) (mup M2 213 0 0) M3) ?_ ?_
        · by_cases e0 : n = 0
          · rw [if_pos (by rw [e0]; decide), if_pos e0]
            exact zwp_ret ⟨r2, (f03 213 48 (by unfold yTC; omega)).trans u.r1, zfr_refl⟩
          · rw [if_neg (by rw [show (0 : Int32) = Int32.ofNat 0 from rfl, zi_le (by omega) (by omega)]; omega), if_neg e0]
            have f : zfr (fun k i => k = 213 ∧ i = 48) (mup M2 213 0 0) (mup (mup M2 213 0 0) 213 48 0) := zfr_mup ⟨rfl, rfl⟩
            exact zwp_ret ⟨r2.keep f (by omega) (by omega) (by omega) (by omega), mup_on, f⟩
        · rintro _ M3 ⟨r3, n3, f3⟩
          have w3 : M3.1 213 51 = -1 := (f3 213 51 (by omega)).trans ((f03 213 51 (by unfold yTC; omega)).trans h.mis.c)
          refine r_run (b := 0) r3 rfl rfl (by omega) (by omega) w3 (fun _ M4 r4 f4 => ?_)
          rw [r4.rHour0, zob_some]
          have f24 : zfr (fun k i => (k = 213 ∧ (i = 0 ∨ i = 48)) ∨ yTR 0 k i) M2 M4 := zfr_trans (zfr_mup (Or.inl ⟨rfl, Or.inl rfl⟩)) (zfr_trans (zfr_weak f3 (fun k i z => Or.inl ⟨z.1, Or.inr z.2⟩)) (zfr_weak f4 (fun k i z => Or.inr z)))
          have f04 : zfr (fun k i => (k = 80 ∧ i = 4) ∨ yTC 42 k i ∨ (k = 213 ∧ (i = 0 ∨ i = 48)) ∨ yTR 0 k i) M M4 := zfr_trans (zfr_weak f02 (fun k i z => z.elim Or.inl (fun w => Or.inr (Or.inl w)))) (zfr_weak f24 (fun k i z => Or.inr (Or.inr z)))
          refine zwp_ret ⟨c2.hour, t, T, ygo T 0 S n, h.step (zfr_weak f04 (by rintro k i (⟨rfl, rfl⟩ | z | ⟨rfl, rfl | rfl⟩ | z); exact ystp_d (by omega); exact ystp_c z; exact ystp_t (Or.inl rfl); exact ystp_u; exact ystp_r z)) (c2.keep f24 (by intro k i hk; unfold yTR; omega)) r4 (by rw [ygo_hour]; exact e9) ?_ (ygo_bd h.cs.tk h.bd n)⟩
          have k1 : M4.1 80 4 = (if n = 0 then Int32.ofNat m else 0) := (f24 80 4 (by unfold yTR; omega)).trans ((f2 80 4 (by unfold yTC; omega)).trans n1)
          have k2 : M4.1 213 48 = (if n = 0 then Int32.ofNat m else 0) := (f4 213 48 (by unfold yTR; omega)).trans n3
          by_cases e0 : n = 0
          · subst e0
            refine ⟨m, B, u.le, u.top, k1, k2, fun k hk => (u.sl k hk).keep f04 (by unfold yTC yTR; omega) (by unfold yTC yTR; omega) (by unfold yTC yTR; omega) (by unfold yTC yTR; omega), fun k hk => (u.deed k hk).keep (fun q q1 q2 => f04 q k (by unfold yTC yTR; omega)), u.bd⟩
          · rw [if_neg e0] at k1 k2
            exact ⟨0, fun _ => ygo T 0 S n, by omega, rfl, k1, k2, fun k hk => absurd hk (by omega), fun k hk => absurd hk (by omega), fun k hk => absurd hk (by omega)⟩
    · refine yPr.qq h (v := -1) ?_ ?_
      · simp only [e, mbd_some, one_ne, if_false]
        rw [h.cs.hour, if_neg (fun z => e9 (s1.mp z))]
      · simp only [mlt_eq, l1, l2, if_false]
        rw [h1.rs.rHour0, zob_some, if_neg (fun z => e9 (s1.mp z))]
end

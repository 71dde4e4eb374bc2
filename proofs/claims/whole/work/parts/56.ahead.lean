/-! promise by promise: hours ahead -/
section
variable {M : zMem} {s t : Nat} {o : Int32} {T : yT} {S : yA}
theorem yCS.setOt (h : yCS M s t o T S) (v : Int32) : yCS (mup M s 13 v) s t v T S := by
  have lo := ysp_lo h.sp
  have fr : zfr (fun k i => k = s ∧ i = 13) M (mup M s 13 v) := zfr_mup ⟨rfl, rfl⟩
  exact ⟨h.sp, h.tk, by rw [fr s 14 (by omega)]; exact h.tp, mup_on, yct_fr h.ct fr (by omega), h.ok, (fr _ _ (by omega)).trans h.hour, (fr _ _ (by omega)).trans h.blown, fun q hq => (fr _ _ (by omega)).trans (h.x q hq), fun q hq => (fr _ _ (by omega)).trans (h.y q hq), fun q hq => (fr _ _ (by omega)).trans (h.size q hq), fun q hq => (fr _ _ (by omega)).trans (h.age q hq), fun q hq => (fr _ _ (by omega)).trans (h.owner q hq), fun q hq => (fr _ _ (by omega)).trans (h.state q hq), fun q hq => (fr _ _ (by omega)).trans (h.hx q hq), fun q hq => (fr _ _ (by omega)).trans (h.hy q hq), fun q hq => (fr _ _ (by omega)).trans (h.marks q hq), fun q hq => (fr _ _ (by omega)).trans (h.got q hq), fun q g hq hg => (fr _ _ (by omega)).trans (h.rained q g hq hg)⟩
theorem ysc_99 : ∀ k i, yTC 99 k i → ySc k i := by
  intro k i z
  unfold yTC at z
  unfold ySc
  omega
theorem ysc_r1 : ∀ k i, yTR 1 k i → ySc k i := by
  intro k i z
  unfold yTR at z
  unfold ySc yTR
  omega
/-- the sky from which it is tried -/
def ytry (o : Int32) (c : Nat) (S : yA) : yA := if o = 2 then yA.w_state S (yu S.state c 4) else S
theorem ytry_hour (o : Int32) (c : Nat) (S : yA) : (ytry o c S).hour = S.hour := by unfold ytry; split <;> rfl
theorem ytry_0 (c : Nat) (S : yA) : ytry 0 c S = S := if_neg (by decide)
theorem c_skyAfter (h : yCS M 42 t 0 T S) (o : Int32) {c n : Nat} (hc : o = 2 → c < T.nc) (hn : n < 1000) (hh : S.hour ≤ 999) : zwp (m_X1_skyAfter 42 o (Int32.ofNat c) (Int32.ofNat n) M) (fun r M' => r = 99 ∧ yCS M' 99 t o T (ygo T o (ytry o c S) n) ∧ yCS M' 42 t 0 T S ∧ zfr (yTC 99) M M') := by
  unfold m_X1_skyAfter
  refine zwp_bd (c_copy (s := 99) (s' := 42) h (by unfold ySP; decide) (by decide)) ?_
  rintro _ M1 ⟨c1, f1⟩
  rw [mlt_eq]
  have c2 := c1.setOt o
  have f2 : zfr (yTC 99) M (mup M1 99 13 o) := zfr_trans f1 (zfr_mup (by unfold yTC; omega))
  refine zwp_bd (Q' := fun _ M' => yCS M' 99 t o T (ytry o c S) ∧ zfr (yTC 99) M M') ?_ ?_
  · unfold ytry
    by_cases e : o = 2
    · have b1 := h.tk.nc
      have hc := hc e
      rw [if_pos e, if_pos e, c2.wState hc, zob_some]
      exact zwp_ret ⟨c2.setState c 4, zfr_trans f2 (zfr_mup (by unfold yTC; omega))⟩
    · rw [if_neg e, if_neg e]
      exact zwp_ret ⟨c2, f2⟩
  · rintro _ M2 ⟨c3, f3⟩
    refine c_run c3 rfl hn (by rw [ytry_hour]; omega) (fun _ M4 c4 f4 => zwp_ret ⟨rfl, c4, h.keep (zfr_trans f3 f4) (by intro k i hk; unfold yTC; omega), zfr_trans f3 f4⟩)
theorem r_runs (h : yRS M 0 o T S) {n : Nat} (hn : n < 1000) (hh : S.hour ≤ 999) (hw : M.1 213 51 = -1) : zwp (m_X8_runs (Int32.ofNat n) M) (fun _ M' => yRS M' 1 o T (ygo T o S n) ∧ yRS M' 0 o T S ∧ zfr (yTR 1) M M') := by
  unfold m_X8_runs
  refine zwp_bd (r_copies (to := 1) (sl := 0) h (by omega) (by omega)) ?_
  rintro _ M1 ⟨r1, f1⟩
  refine r_run (b := 1) r1 rfl rfl hn (by omega) ((f1 213 51 (by unfold yTR; omega)).trans hw) (fun _ M2 r2 f2 => zwp_ret ⟨r2, h.keep (zfr_trans f1 f2) (by unfold yTR; omega) (by unfold yTR; omega) (by unfold yTR; omega) (by unfold yTR; omega), zfr_trans f1 f2⟩)
end
section
variable {W : Nat → Int32} {M : zMem} {t : Nat} {T : yT} {S : yA}
theorem p_ahead (h : yI W M t T S) (a b : Int32) : yPr W (m_X7_ahead a b M) (m_X8_ahead a b) := by
  have h1 := h.thr 0
  have hr := h.hr
  unfold m_X7_ahead m_X8_ahead
  rcases y_from 0 60 a M with ⟨e, ho⟩ | ⟨e, l1, l2, l3⟩
  · refine yPr.qq h (v := -1) ?_ ?_
    · simp only [e, mbd_some, if_true]
    · simp only [mlt_eq]
      rcases ho with z | ⟨z1, z2, z3⟩
      · rw [if_pos z]
      · rw [if_neg z1, if_pos z2]
  · rcases y_from 0 3 b M with ⟨e', ho⟩ | ⟨e', m1, m2, m3⟩
    · refine yPr.qq h (v := -1) ?_ ?_
      · simp only [e, e', mbd_some, one_ne, if_false, if_true]
      · simp only [mlt_eq, l1, l2, if_false]
        rcases ho with z | ⟨z1, z2, z3⟩
        · rw [if_pos z]
        · rw [if_neg z1, if_neg z3]
    · obtain ⟨n, -, hn, rfl⟩ := y_nat 0 60 rfl rfl (by decide) (by decide) l1 l2
      simp only [e, e', mbd_some, one_ne, if_false, mlt_eq, l1, l2, m1, m3, if_true]
      have cs := c_skyAfter h.cs 0 (c := 0) (n := n) (fun z => absurd z (by decide)) (by omega) hr
      rw [ytry_0] at cs
      have rs : ∀ M1, yI W M1 t T S → zwp (m_X8_runs (Int32.ofNat n) (mup M1 213 0 0)) (fun _ M' => yRS M' 1 0 T (ygo T 0 S n) ∧ yRS M' 0 0 T S ∧ zfr ySc M1 M') := fun M1 g => by
        refine zwp_mono (r_runs (g.thr 0).rs (n := n) (by omega) hr (g.thr 0).mis.c) ?_
        rintro _ M' ⟨q1, q2, q3⟩
        exact ⟨q1, q2, zfr_trans (zfr_mup (by unfold ySc yTR; omega)) (zfr_weak q3 ysc_r1)⟩
      by_cases b0 : b = 0
      · refine yPr.ss (v := zsum (ygo T 0 S n).got T.nf - zsum S.got T.nf) h ?_ (fun M1 g => ?_)
        · refine zwp_bd cs ?_
          rintro _ M1 ⟨rfl, c1, c2, f1⟩
          rw [if_pos b0, c_rainInAll c1, mbd_some, c_rainInAll c2, mbd_some]
          exact zwp_ret ⟨rfl, zfr_weak f1 ysc_99⟩
        · refine zwp_bd (rs M1 g) ?_
          rintro _ M2 ⟨c1, c2, f1⟩
          rw [if_pos b0, r_rainAll (a := 1) c1, mbd_some, r_rainAll (a := 0) c2, mbd_some]
          exact zwp_ret ⟨rfl, f1⟩
      · by_cases b1 : b = 1
        · refine yPr.ss (v := yup (ygo T 0 S n) 1 T.nc) h ?_ (fun M1 g => ?_)
          · refine zwp_bd cs ?_
            rintro _ M1 ⟨rfl, c1, c2, f1⟩
            rw [if_neg b0, if_pos b1, c_howMany c1, mbd_some]
            exact zwp_ret ⟨rfl, zfr_weak f1 ysc_99⟩
          · refine zwp_bd (rs M1 g) ?_
            rintro _ M2 ⟨c1, c2, f1⟩
            rw [if_neg b0, if_pos b1, r_upMany (a := 1) c1, mbd_some]
            exact zwp_ret ⟨rfl, f1⟩
        · by_cases b2 : b = 2
          · refine yPr.ss (v := zsum (ygo T 0 S n).marks T.nh - zsum S.marks T.nh) h ?_ (fun M1 g => ?_)
            · refine zwp_bd cs ?_
              rintro _ M1 ⟨rfl, c1, c2, f1⟩
              rw [if_neg b0, if_neg b1, if_pos b2, c_marksInAll c1, mbd_some, c_marksInAll c2, mbd_some]
              exact zwp_ret ⟨rfl, zfr_weak f1 ysc_99⟩
            · refine zwp_bd (rs M1 g) ?_
              rintro _ M2 ⟨c1, c2, f1⟩
              rw [if_neg b0, if_neg b1, if_pos b2, r_marksAll (a := 1) c1, mbd_some, r_marksAll (a := 0) c2, mbd_some]
              exact zwp_ret ⟨rfl, f1⟩
          · refine yPr.ss (v := yup (ygo T 0 S n) 2 T.nc - yup S 2 T.nc) h ?_ (fun M1 g => ?_)
            · refine zwp_bd cs ?_
              rintro _ M1 ⟨rfl, c1, c2, f1⟩
              rw [if_neg b0, if_neg b1, if_neg b2, c_howMany c1, mbd_some, c_howMany c2, mbd_some]
              exact zwp_ret ⟨rfl, zfr_weak f1 ysc_99⟩
            · refine zwp_bd (rs M1 g) ?_
              rintro _ M2 ⟨c1, c2, f1⟩
              rw [if_neg b0, if_neg b1, if_neg b2, r_howMany (a := 1) c1 (by decide), mbd_some, r_howMany (a := 0) c2 (by decide), mbd_some]
              exact zwp_ret ⟨rfl, f1⟩
theorem zfr_fix {P : Nat → Nat → Prop} {M M' : zMem} (k0 i0 : Nat) (f : zfr (fun k i => P k i ∨ (k = k0 ∧ i = i0)) M M') (e : M'.1 k0 i0 = M.1 k0 i0) : zfr P M M' := by
  intro k i hp
  by_cases z : k = k0 ∧ i = i0
  · obtain ⟨rfl, rfl⟩ := z
    exact e
  · exact f k i (fun w => w.elim hp z)
theorem yRS.setTry (h : yRS M 0 0 T S) (o : Int32) {c : Nat} (hc : o = 2 → c < T.nc) : yRS (mup (mup M 213 49 o) 213 50 (Int32.ofNat c)) 0 o T (ytry o c S) := by
  have b1 := h.tk.nc
  have fr : zfr (fun k i => k = 213 ∧ (i = 49 ∨ i = 50)) M (mup (mup M 213 49 o) 213 50 (Int32.ofNat c)) := zfr_trans (zfr_mup (by omega)) (zfr_mup (by omega))
  have ok : yOK T (ytry o c S) := by
    unfold ytry
    split
    · exact ⟨h.ok.cell, h.ok.owner, h.ok.pos⟩
    · exact h.ok
  have e50 : (mup (mup M 213 49 o) 213 50 (Int32.ofNat c)).1 213 50 = Int32.ofNat c := mup_on
  have sh : ∀ {γ : Type} (f : yA → γ), (∀ S' v, f (yA.w_state S' v) = f S') → f (ytry o c S) = f S := fun f hf => by
    unfold ytry
    split
    · exact hf _ _
    · rfl
  refine ⟨h.lt, h.tk, ?_, yrt_fr h.rt fr (by omega), ok, ?_, ?_, ?_, ?_, ?_, ?_, ?_, ?_, ?_, ?_, ?_⟩
  · rw [mup_off' (by decide), mup_on]
  · rw [fr _ _ (by omega), sh yA.hour (fun _ _ => rfl)]; exact h.hour
  · rw [fr _ _ (by omega), sh yA.blown (fun _ _ => rfl)]; exact h.blown
  · intro q hq; rw [fr _ _ (by omega), sh yA.cell (fun _ _ => rfl)]; exact h.cell q hq
  · intro q hq; rw [fr _ _ (by omega), sh yA.size (fun _ _ => rfl)]; exact h.size q hq
  · intro q hq; rw [fr _ _ (by omega), sh yA.age (fun _ _ => rfl)]; exact h.age q hq
  · intro q hq; rw [fr _ _ (by omega), sh yA.owner (fun _ _ => rfl)]; exact h.owner q hq
  · intro q hq
    have z := h.state q hq
    rw [if_neg (fun w => absurd w.1 (by decide))] at z
    rw [e50, fr 240 _ (by omega)]
    unfold ytry
    by_cases e : o = 2
    · have hc := hc e
      rw [if_pos e]
      show yu S.state c 4 q = _
      by_cases e2 : q = c
      · subst e2; rw [yu_on, if_pos ⟨e, rfl⟩]
      · rw [yu_off e2, if_neg (fun w => e2 ((zi_eq (by omega) (by omega)).mp w.2))]; exact z
    · rw [if_neg e, if_neg (fun w => e w.1)]; exact z
  · intro q hq; rw [fr _ _ (by omega), sh yA.pos (fun _ _ => rfl)]; exact h.pos q hq
  · intro q hq; rw [fr _ _ (by omega), sh yA.marks (fun _ _ => rfl)]; exact h.marks q hq
  · intro q hq; rw [fr _ _ (by omega), sh yA.got (fun _ _ => rfl)]; exact h.got q hq
  · intro q f hq hf; rw [fr _ _ (by omega), sh yA.rained (fun _ _ => rfl)]; exact h.rained q f hq hf
theorem yRS.unTry {sl : Nat} {o : Int32} (h : yRS M sl o T S) : yRS (mup (mup M 213 49 0) 213 50 (-1)) sl 0 T (yA.w_state S (fun c => M.1 240 (8 * sl + c))) := by
  have fr : zfr (fun k i => k = 213 ∧ (i = 49 ∨ i = 50)) M (mup (mup M 213 49 0) 213 50 (-1)) := zfr_trans (zfr_mup (by omega)) (zfr_mup (by omega))
  refine ⟨h.lt, h.tk, ?_, yrt_fr h.rt fr (by omega), ⟨h.ok.cell, h.ok.owner, h.ok.pos⟩, ?_, ?_, ?_, ?_, ?_, ?_, ?_, ?_, ?_, ?_, ?_⟩
  · rw [mup_off' (by decide), mup_on]
  · rw [fr _ _ (by omega)]; exact h.hour
  · rw [fr _ _ (by omega)]; exact h.blown
  · intro q hq; rw [fr _ _ (by omega)]; exact h.cell q hq
  · intro q hq; rw [fr _ _ (by omega)]; exact h.size q hq
  · intro q hq; rw [fr _ _ (by omega)]; exact h.age q hq
  · intro q hq; rw [fr _ _ (by omega)]; exact h.owner q hq
  · intro q hq
    rw [if_neg (fun w => absurd w.1 (by decide)), fr 240 _ (by omega)]
    rfl
  · intro q hq; rw [fr _ _ (by omega)]; exact h.pos q hq
  · intro q hq; rw [fr _ _ (by omega)]; exact h.marks q hq
  · intro q hq; rw [fr _ _ (by omega)]; exact h.got q hq
  · intro q f hq hf; rw [fr _ _ (by omega)]; exact h.rained q f hq hf
/-- the reference's part of tried -/
theorem r_tried (h : yI W M t T S) (o : Int32) {c n : Nat} (hc : o = 2 → c < T.nc) (hn : n ≤ 60) : zwp (
    mlt (mup (mup M 213 0 0) 213 49 o) (fun M6 =>
    mlt (mup M6 213 50 (Int32.ofNat c)) (fun M7 =>
    mbd (m_X8_runs (Int32.ofNat n) M7) (fun _ M8 =>
    mlt (mup M8 213 49 0) (fun M10 =>
    mlt (mup M10 213 50 (-1)) (fun M11 =>
    mbd (m_X8_rainAll 1 M11) (fun v13 M12 =>
    mbd (m_X8_rainAll 0 M12) (fun v15 M14 =>
    some ((v13 - v15), M14)))))))))
    (fun r M' => r = zsum (ygo T o (ytry o c S) n).got T.nf - zsum S.got T.nf ∧ zfr ySc M M') := by
  have h1 := h.thr 0
  have hr := h.hr
  simp only [mlt_eq]
  have r1 := h1.rs.setTry o hc
  have w1 : (mup (mup (mup M 213 0 0) 213 49 o) 213 50 (Int32.ofNat c)).1 213 51 = -1 := by
    rw [mup_off' (by decide), mup_off' (by decide)]; exact h1.mis.c
  have f1 : zfr (fun k i => ((ySc k i) ∨ (k = 213 ∧ i = 49)) ∨ (k = 213 ∧ i = 50)) M (mup (mup (mup M 213 0 0) 213 49 o) 213 50 (Int32.ofNat c)) := zfr_trans (zfr_mup (Or.inl (Or.inl (by unfold ySc; omega)))) (zfr_trans (zfr_mup (Or.inl (Or.inr ⟨rfl, rfl⟩))) (zfr_mup (Or.inr ⟨rfl, rfl⟩)))
  refine zwp_bd (r_runs r1 (n := n) (by omega) (by rw [ytry_hour]; exact hr) w1) ?_
  rintro _ M2 ⟨q1, -, f2⟩
  have q3 := q1.unTry
  have f3 : zfr (fun k i => ((ySc k i) ∨ (k = 213 ∧ i = 49)) ∨ (k = 213 ∧ i = 50)) M (mup (mup M2 213 49 0) 213 50 (-1)) := zfr_trans f1 (zfr_trans (zfr_weak f2 (fun k i z => Or.inl (Or.inl (ysc_r1 k i z)))) (zfr_trans (zfr_mup (Or.inl (Or.inr ⟨rfl, rfl⟩))) (zfr_mup (Or.inr ⟨rfl, rfl⟩))))
  have f4 : zfr ySc M (mup (mup M2 213 49 0) 213 50 (-1)) := zfr_fix 213 49 (zfr_fix 213 50 f3 (mup_on.trans h.mis.b.symm)) (by rw [mup_off' (by decide), mup_on]; exact h.mis.a.symm)
  have g := (h.keep f4).rs
  rw [r_rainAll (a := 1) q3, mbd_some, r_rainAll (a := 0) g, mbd_some]
  exact zwp_ret ⟨rfl, f4⟩
theorem p_tried (h : yI W M t T S) (a b d : Int32) : yPr W (m_X7_tried a b d M) (m_X8_tried a b d) := by
  have h1 := h.thr 0
  have hr := h.hr
  have cs : ∀ {c n : Nat}, (a = 2 → c < T.nc) → n ≤ 60 → zwp (mbd (m_X1_skyAfter 42 a (Int32.ofNat c) (Int32.ofNat n) M) (fun t10 M9 => mbd (m_X5_rainInAll t10 M9) (fun v12 M11 => mbd (m_X5_rainInAll 42 M11) (fun v15 M14 => some ((v12 - v15), M14))))) (fun r M' => r = zsum (ygo T a (ytry a c S) n).got T.nf - zsum S.got T.nf ∧ zfr ySc M M') := by
    intro c n hc hn
    refine zwp_bd (c_skyAfter h.cs a hc (by omega) hr) ?_
    rintro _ M1 ⟨rfl, c1, c2, f1⟩
    rw [c_rainInAll c1, mbd_some, c_rainInAll c2, mbd_some]
    exact zwp_ret ⟨rfl, zfr_weak f1 ysc_99⟩
  unfold m_X7_tried m_X8_tried
  rcases y_from 0 5 a M with ⟨e, ho⟩ | ⟨e, l1, l2, l3⟩
  · refine yPr.qq h (v := -1) ?_ ?_
    · simp only [e, mbd_some, if_true]
    · have n2 : ¬ a = 2 := by
        intro z
        subst z
        rcases ho with w | ⟨-, w, -⟩ <;> exact absurd w (by decide)
      rw [mlt_eq, if_neg n2]
      rcases ho with z | ⟨z1, z2, z3⟩
      · rw [if_pos z, mbd_some, if_pos rfl]
      · rw [if_neg z1, if_pos z2, mbd_some, if_pos rfl]
  · by_cases a2 : a = 2
    · rcases y_isCloud h b with ⟨g1, g2⟩ | ⟨c, hc, rfl, g1, g2⟩
      · refine yPr.qq h (v := -1) ?_ ?_
        · rcases y_from 0 60 d M with ⟨e', ho⟩ | ⟨e', m1, m2, m3⟩
          · simp only [e, e', mbd_some, one_ne, if_false, if_true]
          · simp only [e, e', g1, mbd_some, one_ne, if_false]
            rw [if_pos a2, if_pos trivial]
        · rw [mlt_eq, if_pos a2, g2 _ h1.rs.rt, mbd_some, mbd_some, if_pos rfl]
      · rcases y_from 0 60 d M with ⟨e', ho⟩ | ⟨e', m1, m2, m3⟩
        · refine yPr.qq h (v := -1) ?_ ?_
          · simp only [e, e', mbd_some, one_ne, if_false, if_true]
          · rw [mlt_eq, if_pos a2, g2 _ h1.rs.rt, mbd_some, mbd_some, if_neg (by decide)]
            rcases ho with z | ⟨z1, z2, z3⟩
            · rw [if_pos z]
            · rw [if_neg z1, if_neg z3]
        · obtain ⟨n, -, hn, rfl⟩ := y_nat 0 60 rfl rfl (by decide) (by decide) m1 m2
          refine yPr.ss (v := zsum (ygo T a (ytry a c S) n).got T.nf - zsum S.got T.nf) h ?_ (fun M1 g => ?_)
          · simp only [e, e', g1, mbd_some, one_ne, if_false]
            rw [if_pos a2]
            exact cs (fun _ => hc) hn
          · rw [mlt_eq, if_pos a2, g2 _ (g.thr 0).rs.rt, mbd_some, mbd_some, if_neg (by decide), if_neg m1, if_pos m3]
            exact r_tried g a (fun _ => hc) hn
    · by_cases b0 : b = 0
      · rcases y_from 0 60 d M with ⟨e', ho⟩ | ⟨e', m1, m2, m3⟩
        · refine yPr.qq h (v := -1) ?_ ?_
          · simp only [e, e', mbd_some, one_ne, if_false, if_true]
          · rw [mlt_eq, if_neg a2, if_neg l1, if_neg l2, if_pos b0, mbd_some, if_neg (by decide)]
            rcases ho with z | ⟨z1, z2, z3⟩
            · rw [if_pos z]
            · rw [if_neg z1, if_neg z3]
        · obtain ⟨n, -, hn, rfl⟩ := y_nat 0 60 rfl rfl (by decide) (by decide) m1 m2
          subst b0
          refine yPr.ss (v := zsum (ygo T a (ytry a 0 S) n).got T.nf - zsum S.got T.nf) h ?_ (fun M1 g => ?_)
          · simp only [e, e', mbd_some, one_ne, if_false]
            rw [if_neg a2, if_pos trivial]
            exact cs (c := 0) (fun z => absurd z a2) hn
          · rw [mlt_eq, if_neg a2, if_neg l1, if_neg l2, if_pos rfl, mbd_some, if_neg (by decide), if_neg m1, if_pos m3]
            exact r_tried g a (c := 0) (fun z => absurd z a2) hn
      · refine yPr.qq h (v := -1) ?_ ?_
        · rcases y_from 0 60 d M with ⟨e', ho⟩ | ⟨e', m1, m2, m3⟩
          · simp only [e, e', mbd_some, one_ne, if_false, if_true]
          · simp only [e, e', mbd_some, one_ne, if_false]
            rw [if_neg a2, if_neg b0]
        · rw [mlt_eq, if_neg a2, if_neg l1, if_neg l2, if_neg b0, mbd_some, if_pos rfl]
def yenf (T : yT) (S : yA) (f : Nat) : Nat → Nat → Int32
  | _, 0 => -2
  | k, m + 1 => if (ygo T 0 S k).got f < T.need f then yenf T S f (k + 1) m else Int32.ofNat k
theorem yenf_step {f k : Nat} (hk : k < 100) (h : (ygo T 0 S k).got f < T.need f) : yenf T S f k (100 - k) = yenf T S f (k + 1) (100 - (k + 1)) := by
  rw [show 100 - k = (100 - (k + 1)) + 1 by omega]
  show (if _ then _ else _) = _
  rw [if_pos h]
theorem yenf_hit {f k : Nat} (hk : k < 100) (h : ¬ (ygo T 0 S k).got f < T.need f) : yenf T S f k (100 - k) = Int32.ofNat k := by
  rw [show 100 - k = (100 - (k + 1)) + 1 by omega]
  show (if _ then _ else _) = _
  rw [if_neg h]
theorem p_enough (h : yI W M t T S) (a : Int32) : yPr W (m_X7_enough a M) (m_X8_enough a) := by
  have h1 := h.thr 0
  have hr := h.hr
  have hfu : zLF = 100000 := rfl
  have b3 := h.cs.tk.nf
  have lt99 : ∀ c, c < 100 → ¬ (99 : Int32) < Int32.ofNat c := fun c hc => by rw [show (99 : Int32) = Int32.ofNat 99 from rfl, zi_lt (by omega) (by omega)]; omega
  unfold m_X7_enough m_X8_enough
  rcases y_isField h a with ⟨e1, e2⟩ | ⟨f, hf, rfl, e1, e2⟩
  · refine yPr.qq h (v := -1) ?_ ?_
    · simp only [e1, mbd_some, if_true]
    · simp only [mlt_eq, e2 _ h1.rs.rt, mbd_some, if_true]
  · refine yPr.ss (v := yenf T S f 0 100) h ?_ (fun M1 g => ?_)
    · simp only [e1, mbd_some, one_ne, if_false]
      unfold m_X1_hoursUntilEnough
      refine zwp_bd (Q' := fun r M' => r = yenf T S f 0 100 ∧ zfr (yTC 99) M M') ?_ ?_
      · refine zwp_bd (c_copy (s := 99) (s' := 42) h.cs (by unfold ySP; decide) (by decide)) ?_
        rintro _ M1 ⟨c1, f1⟩
        refine zwp_bd (Q' := fun b M' => zfr (yTC 99) M M' ∧ match b with
            | .inl _ => yenf T S f 0 100 = -2
            | .inr r => r = yenf T S f 0 100) (zwp_for 0 100 (fun c st M' => st = Int32.ofNat c ∧ yCS M' 99 t 0 T (ygo T 0 S c) ∧ zfr (yTC 99) M M' ∧ yenf T S f 0 100 = yenf T S f c (100 - c)) ?_ ?_ ⟨rfl, c1, f1, rfl⟩ (Nat.zero_le _) (by omega)) ?_
        · rintro c st M' - hc ⟨rfl, c2, f2, ee⟩
          rw [if_neg (lt99 c hc), c_lacksRain c2 hf, mbd_some]
          by_cases z : (ygo T 0 S c).got f < T.need f
          · rw [if_pos z, if_neg (by decide), c_wind c2 (by rw [ygo_hour]; omega), mbd_some]
            refine zwp_bd (c_pass c2 _) ?_
            rintro _ M3 ⟨c3, f3⟩
            exact zwp_ret ⟨yi_nn c, c3, zfr_trans f2 f3, ee.trans (yenf_step hc z)⟩
          · rw [if_neg z, if_pos rfl]
            exact zwp_ret ⟨f2, (ee.trans (yenf_hit hc z)).symm⟩
        · rintro st M' ⟨rfl, c2, f2, ee⟩
          rw [if_pos (by decide)]
          exact zwp_ret ⟨f2, ee⟩
        · rintro b M' ⟨f2, q⟩
          match b, q with
          | .inl _, q => rw [zsl_l]; exact zwp_ret ⟨q.symm, f2⟩
          | .inr r, q => rw [zsl_r]; exact zwp_ret ⟨q, f2⟩
      · rintro r M' ⟨q, f2⟩
        exact zwp_ret ⟨q, zfr_weak f2 ysc_99⟩
    · have g1 := g.thr 0
      simp only [mlt_eq, e2 _ g1.rs.rt, mbd_some, one_ne, if_false]
      have f0 : zfr ySc M1 (mup M1 213 0 0) := zfr_mup (by unfold ySc; omega)
      refine zwp_bd (r_copies (to := 1) (sl := 0) g1.rs (by omega) (by omega)) ?_
      rintro _ M2 ⟨r2, f2⟩
      have w2 : M2.1 213 51 = -1 := (f2 213 51 (by unfold yTR; omega)).trans g1.mis.c
      refine zwp_bd (Q' := fun b M' => zfr ySc M1 M' ∧ match b with
          | .inl _ => yenf T S f 0 100 = -2
          | .inr r => r = yenf T S f 0 100) (zwp_for 0 100 (fun c st M' => st = Int32.ofNat c ∧ yRS M' 1 0 T (ygo T 0 S c) ∧ zfr ySc M1 M' ∧ M'.1 213 51 = -1 ∧ yenf T S f 0 100 = yenf T S f c (100 - c)) ?_ ?_ ⟨rfl, r2, zfr_trans f0 (zfr_weak f2 ysc_r1), w2, rfl⟩ (Nat.zero_le _) (by omega)) ?_
      · rintro c st M' - hc ⟨rfl, c2, f2, w2, ee⟩
        have rd : mrd M' 243 (5 + Int32.ofNat f) = some ((ygo T 0 S c).got f) := by
          rw [mrd_of (k := 243) (j := 5 + f) (by show 5 + f < 115; omega) (by decide)]
          have z := c2.got f hf
          rw [show 5 * 1 + f = 5 + f by omega] at z
          rw [z]
        rw [if_neg (lt99 c hc), rd, zob_some, c2.rt.rNeed c2.tk hf, zob_some]
        by_cases z : (ygo T 0 S c).got f < T.need f
        · rw [if_pos z]
          refine zwp_bd (r_pass (a := 1) c2 (by rw [ygo_hour]; omega) w2) ?_
          rintro _ M3 ⟨c3, f3⟩
          rw [yww_n] at c3
          exact zwp_ret ⟨yi_nn c, c3, zfr_trans f2 (zfr_weak f3 ysc_r1), (f3 213 51 (by unfold yTR; omega)).trans w2, ee.trans (yenf_step hc z)⟩
        · rw [if_neg z]
          exact zwp_ret ⟨f2, (ee.trans (yenf_hit hc z)).symm⟩
      · rintro st M' ⟨rfl, c2, f2, w2, ee⟩
        rw [if_pos (by decide)]
        exact zwp_ret ⟨f2, ee⟩
      · rintro b M' ⟨f2, q⟩
        match b, q with
        | .inl _, q => rw [zsl_l]; exact zwp_ret ⟨q.symm, f2⟩
        | .inr r, q => rw [zsl_r]; exact zwp_ret ⟨q, f2⟩
end

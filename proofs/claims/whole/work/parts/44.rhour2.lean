section
variable {M : zMem} {sl : Nat} {o : Int32} {T : yT} {S : yA}
theorem r_falls {a : Int32} (h : yRS M sl o T S) {c : Nat} (hc : c < T.nc) (hu : S.state c = 1) (ea : zN a sl := by with_reducible repeat (first | assumption | exact zn_of _ | exact zn_lit _ | apply zn_add | apply zn_mul)) : zwp (m_X8_falls a (Int32.ofNat c) M) (fun _ M' => yRS M' sl o T (yfall1 T o c S) ∧ zfr (yTR sl) M M') := by
  obtain rfl := ea.e
  have b1 := h.tk.nc
  have l1 := h.lt
  have kc := h.ok.cell c hc
  unfold m_X8_falls yfall1
  rw [h.rSize hc, zob_some, h.rt.rNRain, zob_some]
  refine zwp_bd (Q' := fun b M' => M' = M ∧ match b with
      | .inl _ => (T.rain ≤ S.size c ∨ ygr T o (S.cell c) = 2)
      | .inr _ => ¬ (T.rain ≤ S.size c ∨ ygr T o (S.cell c) = 2)) ?_ ?_
  · by_cases e : T.rain ≤ S.size c
    · rw [if_pos e]; exact zwp_ret ⟨rfl, Or.inl e⟩
    · rw [if_neg e, h.rCell hc, zob_some, r_ground h kc, mbd_some]
      by_cases e2 : ygr T o (S.cell c) = 2
      · rw [if_pos e2]; exact zwp_ret ⟨rfl, Or.inr e2⟩
      · rw [if_neg e2]; exact zwp_ret ⟨rfl, fun z => z.elim e e2⟩
  rintro b M' ⟨rfl, hb⟩
  cases b with
  | inr u =>
    have hb : ¬ (T.rain ≤ S.size c ∨ ygr T o (S.cell c) = 2) := hb
    rw [if_neg (fun z => hb z.2)]
    exact zwp_ret ⟨h, zfr_refl⟩
  | inl u =>
    have hb : (T.rain ≤ S.size c ∨ ygr T o (S.cell c) = 2) := hb
    rw [if_pos ⟨hu, hb⟩, zsl_l]
    refine r_cw h (k := 1) (by decide) hc ?_
    intro M1 e1 hn h1
    rw [h1.rSize hc, zob_some, zob_some]
    refine zwp_bd (r_within h1.rt h1.tk (k := 1) (by decide) hn _ _) ?_
    rintro r M2 ⟨f2, rfl⟩
    rw [show ybd (ywo T o S 1 c) (S.size c) (zmx 1 (S.size c / 2)) = yfv T o c S from rfl]
    have h2 := h1.k35 f2
    refine r_wet h2 hc (yfv T o c S) ?_
    intro b M3 h3 f3
    rw [h3.rSize hc, zob_some, h3.wSize hc, zob_some]
    have h4 := h3.setSize c ((zfd (ywet1 T c (yfv T o c S)) T.nf S).size c - yfv T o c S) (by omega)
    have f0 : zfr (yTR sl) M' M3 := zfr_trans (zfr_e e1) (zfr_trans (zfr_35 f2) f3)
    have f4 : zfr (yTR sl) M3 (mup M3 237 (8 * sl + c) ((zfd (ywet1 T c (yfv T o c S)) T.nf S).size c - yfv T o c S)) := zfr_mup (by unfold yTR; omega)
    rw [h4.rSize hc, zob_some]
    unfold ydry
    have e0 : yu (zfd (ywet1 T c (yfv T o c S)) T.nf S).size c ((zfd (ywet1 T c (yfv T o c S)) T.nf S).size c - yfv T o c S) c = (zfd (ywet1 T c (yfv T o c S)) T.nf S).size c - yfv T o c S := yu_on
    simp only [ya_size_size, e0]
    by_cases e : (zfd (ywet1 T c (yfv T o c S)) T.nf S).size c - yfv T o c S = 0
    · rw [if_pos e, if_pos e, h4.wState hc, zob_some]
      have h5 := h4.setState c 4 (by omega)
      have hu4 : (yA.w_size (zfd (ywet1 T c (yfv T o c S)) T.nf S) (yu (zfd (ywet1 T c (yfv T o c S)) T.nf S).size c ((zfd (ywet1 T c (yfv T o c S)) T.nf S).size c - yfv T o c S))).state c = 1 := by
        show (zfd (ywet1 T c (yfv T o c S)) T.nf S).state c = 1
        rw [(ywet_keep T.nf S).2.2.2]; exact hu
      rw [h4.notx hc hu4] at h5
      exact zwp_ret ⟨h5, zfr_trans f0 (zfr_trans f4 (zfr_mup (by unfold yTR; omega)))⟩
    · rw [if_neg e, if_neg e]
      exact zwp_ret ⟨h4, zfr_trans f0 f4⟩
theorem ywho_i {c : Nat} (n : Nat) (hn : n ≤ 24) : (ywho T S c n).2 = (if (ywho T S c n).1 = -1 then T.most else yown S (ywho T S c n).1 T.nc) ∧ ((ywho T S c n).1 ≠ -1 → yown S (ywho T S c n).1 T.nc < T.most) := by
  induction n with
  | zero => exact ⟨rfl, fun z => absurd rfl z⟩
  | succ n ih =>
    have ih := ih (by omega)
    have e : ywho T S c (n + 1) = if ¬ T.sight n < yfar (S.pos n) (S.cell c) ∧ yown S (Int32.ofNat n) T.nc < (ywho T S c n).2 then (Int32.ofNat n, yown S (Int32.ofNat n) T.nc) else ywho T S c n := rfl
    rw [e]
    by_cases g : ¬ T.sight n < yfar (S.pos n) (S.cell c) ∧ yown S (Int32.ofNat n) T.nc < (ywho T S c n).2
    · rw [if_pos g]
      have lt : yown S (Int32.ofNat n) T.nc < T.most := by
        have g2 := g.2
        rw [ih.1] at g2
        by_cases z : (ywho T S c n).1 = -1
        · rw [if_pos z] at g2; exact g2
        · rw [if_neg z] at g2; exact Int32.lt_trans g2 (ih.2 z)
      refine ⟨?_, fun _ => lt⟩
      show yown S (Int32.ofNat n) T.nc = if Int32.ofNat n = -1 then _ else _
      rw [if_neg (zi_n1 (by omega))]
    · rw [if_neg g]
      exact ih
theorem r_given {a : Int32} (h : yRS M sl o T S) {c : Nat} (hc : c < T.nc) (ea : zN a sl := by with_reducible repeat (first | assumption | exact zn_of _ | exact zn_lit _ | apply zn_add | apply zn_mul)) : zwp (m_X8_isGiven a (Int32.ofNat c) M) (fun _ M' => yRS M' sl o T (yA.w_owner S (yu S.owner c (ywho T S c T.nh).1)) ∧ zfr (yTR sl) M M') := by
  obtain rfl := ea.e
  have b1 := h.tk.nc
  have b2 := h.tk.nh
  have l1 := h.lt
  have kc := h.ok.cell c hc
  unfold m_X8_isGiven
  refine zwp_bd (Q' := fun b M' => b.1 = (ywho T S c T.nh).1 ∧ M' = M) (zwp_for 0 T.nh (fun q st M' => st = ((ywho T S c q).1, Int32.ofNat q) ∧ M' = M) ?_ ?_ ⟨rfl, rfl⟩ (Nat.zero_le _) (by have : zLF = 100000 := rfl; omega)) ?_
  · rintro q st M' - hq ⟨rfl, rfl⟩
    have e0 : ywho T S c (q + 1) = if ¬ T.sight q < yfar (S.pos q) (S.cell c) ∧ yown S (Int32.ofNat q) T.nc < (ywho T S c q).2 then (Int32.ofNat q, yown S (Int32.ofNat q) T.nc) else ywho T S c q := rfl
    obtain ⟨i1, i2⟩ := ywho_i (T := T) (S := S) (c := c) q (by omega)
    rw [e0]
    simp only [h.rt.rNh, zob_some, yle_f hq (show T.nh ≤ 200 by omega), if_false, h.rCell hc, r_doesSee h hq kc, mbd_some]
    by_cases e1 : T.sight q < yfar (S.pos q) (S.cell c)
    · simp only [e1, if_true, not_true, false_and, if_false, zwp_some, yi_nn, and_self]
    · simp only [e1, if_false, one_ne, r_ownUp h, mbd_some, not_false_iff, true_and, h.rt.rNMost, zob_some]
      rw [i1]
      by_cases z : (ywho T S c q).1 = -1
      · simp only [z, if_true]
        by_cases e2 : yown S (Int32.ofNat q) T.nc < T.most
        · simp only [e2, if_true, zwp_some, yi_nn, and_self]
        · simp only [e2, if_false, zwp_some, yi_nn, and_self, z]
      · simp only [z, if_false]
        by_cases e2 : yown S (Int32.ofNat q) T.nc < yown S (ywho T S c q).1 T.nc
        · have e3 := Int32.lt_trans e2 (i2 z)
          have e4 : ¬ yown S (ywho T S c q).1 T.nc ≤ yown S (Int32.ofNat q) T.nc := by rw [Int32.not_le]; exact e2
          simp only [e2, e3, e4, if_true, if_false, zwp_some, yi_nn, and_self]
        · have e4 : yown S (ywho T S c q).1 T.nc ≤ yown S (Int32.ofNat q) T.nc := Int32.not_lt.mp e2
          by_cases e3 : yown S (Int32.ofNat q) T.nc < T.most
          · simp only [e2, e3, e4, if_true, if_false, zwp_some, yi_nn, and_self]
          · simp only [e2, e3, if_false, zwp_some, yi_nn, and_self]
  · rintro st M' ⟨rfl, rfl⟩
    simp only [h.rt.rNh, zob_some, yle_t, if_true, zwp_some, and_self]
  · rintro b M' ⟨e, rfl⟩
    rw [e, h.wOwner hc, zob_some]
    exact zwp_ret ⟨h.setOwner c _ (by omega) (ywho_ok T.nh), zfr_mup (by unfold yTR; omega)⟩
theorem r_marks {a : Int32} (h : yRS M sl o T S) (ea : zN a sl := by with_reducible repeat (first | assumption | exact zn_of _ | exact zn_lit _ | apply zn_add | apply zn_mul)) : zwp (m_X8_marks a M) (fun _ M' => yRS M' sl o T (zfd (ymark1 T o) T.nh S) ∧ zfr (yTR sl) M M') := by
  obtain rfl := ea.e
  have b1 := h.tk.nc
  have b2 := h.tk.nh
  have l1 := h.lt
  unfold m_X8_marks
  refine h.foldK (N := T.nh) (by omega) (ymark1 T o) ?_ (fun S' M' h' => by simp only [h'.rt.rNh, zob_some, yle_t, if_true]) (fun b M' q1 q2 => zwp_ret ⟨q1, q2⟩)
  intro q S0 M0 hq h0
  rw [h0.rt.rNh, zob_some, if_neg (by rw [yle_f hq (by omega)]; exact id)]
  refine h0.foldK (N := T.nc) (by omega) (ymark2 T o q) ?_ (fun S' M' h' => by simp only [h'.rt.rNc, zob_some, yle_t, if_true]) (fun b M' q1 q2 => zwp_ret ⟨rfl, q1, q2⟩)
  intro c S' M' hc h'
  have kc := h'.ok.cell c hc
  rw [h'.rt.rNc, zob_some, if_neg (by rw [yle_f hc (by omega)]; exact id)]
  unfold ymark2
  by_cases hu : S'.state c = 1
  · rw [r_isUp1 h' hc hu, mbd_some, if_neg (by decide), h'.rOwner hc, zob_some]
    by_cases e : S'.owner c = Int32.ofNat q
    · rw [if_pos e, if_pos ⟨hu, e⟩]
      refine r_cw h' (k := 2) (by decide) hc ?_
      intro M1 e1 hn h1
      rw [h1.rMarks hq, zob_some, h1.rCell hc, zob_some, r_doesSee h1 hq kc, mbd_some]
      have e2 : (if (if T.sight q < yfar (S'.pos q) (S'.cell c) then (0 : Int32) else 1) = 0 then some ((0 : Int32), M1) else some (1, M1)) = some (if T.sight q < yfar (S'.pos q) (S'.cell c) then 0 else 1, M1) := by
        split <;> rfl
      rw [e2, mbd_some]
      refine zwp_bd (r_within h1.rt h1.tk (k := 2) (by decide) hn _ _) ?_
      rintro r M2 ⟨f2, rfl⟩
      have h2 := h1.k35 f2
      rw [h2.wMarks hq, zob_some]
      exact zwp_ret ⟨rfl, h2.setMarks q _ (by omega), zfr_trans (zfr_e e1) (zfr_trans (zfr_35 f2) (zfr_mup (by unfold yTR; omega)))⟩
    · rw [if_neg e, if_neg (fun z => e z.2)]
      exact zwp_ret ⟨rfl, h', zfr_refl⟩
  · rw [r_isUp0 h' hc hu, mbd_some, if_pos rfl, if_neg (fun z => hu z.1)]
    exact zwp_ret ⟨rfl, h', zfr_refl⟩
set_option maxHeartbeats 4000000 in
theorem r_joins {a : Int32} (h : yRS M sl o T S) (ea : zN a sl := by with_reducible repeat (first | assumption | exact zn_of _ | exact zn_lit _ | apply zn_add | apply zn_mul)) : zwp (m_X8_joins a M) (fun _ M' => yRS M' sl o T ((if o = 4 then id else zfd (yjoin1 T.nc) T.nc) S) ∧ zfr (yTR sl) M M') := by
  obtain rfl := ea.e
  have b1 := h.tk.nc
  have l1 := h.lt
  unfold m_X8_joins
  by_cases e4 : o = 4
  · rw [if_pos e4]
    refine zwp_bd (Q' := fun _ M' => M' = M) ?_ ?_
    · refine zwp_lp (fun d _ M' => d = 1 ∧ M' = M) ?_ 1 0 M ⟨rfl, rfl⟩ (by decide)
      rintro d st M' ⟨rfl, rfl⟩
      rw [h.rt.rNc, zob_some]
      by_cases z : Int32.ofNat T.nc ≤ st
      · rw [if_pos z]; exact zwp_ret rfl
      · rw [if_neg z, h.ot, if_pos e4]; exact zwp_ret rfl
    · rintro b M' rfl
      exact zwp_ret ⟨h, zfr_refl⟩
  rw [if_neg e4]
  refine h.foldK (N := T.nc) (by omega) (yjoin1 T.nc) ?_ (fun S' M' h' => by simp only [h'.rt.rNc, zob_some, yle_t, if_true]) (fun b M' q1 q2 => zwp_ret ⟨q1, q2⟩)
  intro a S' M' ha h'
  rw [h'.rt.rNc, zob_some, if_neg (by rw [yle_f ha (by omega)]; exact id), h'.ot, if_neg e4]
  refine zwp_bd (Q' := fun _ M1 => yRS M1 sl o T (yjoin1 T.nc a S') ∧ zfr (yTR sl) M' M1) (zwp_for (a + 1) T.nc (fun c st M1 => st = Int32.ofNat c ∧ yRS M1 sl o T (zfd (fun b S => if a < b then yjoin2 a b S else S) c S') ∧ zfr (yTR sl) M' M1) ?_ ?_ ⟨yi_nn a, by rw [yj_low (Nat.le_refl _)]; exact h', zfr_refl⟩ (by omega) (by have : zLF = 100000 := rfl; omega)) ?_
  · rintro b st M1 hab hb ⟨rfl, h1, h2⟩
    have hlt : a < b := by omega
    have hne : ∀ S1, zfd (fun b S => if a < b then yjoin2 a b S else S) (b + 1) S1 = yjoin2 a b (zfd (fun b S => if a < b then yjoin2 a b S else S) b S1) := fun S1 => by
      show (fun b S => if a < b then yjoin2 a b S else S) b (zfd _ b S1) = _
      simp only [hlt, if_true]
    rw [hne]
    generalize hS : zfd (fun b S => if a < b then yjoin2 a b S else S) b S' = S1 at h1 ⊢
    rw [h1.rt.rNc, zob_some, if_neg (by rw [yle_f hb (by omega)]; exact id)]
    by_cases hu : S1.state a = 1
    · rw [r_isUp1 h1 ha hu, mbd_some, if_neg (by decide)]
      by_cases hv : S1.state b = 1
      · have ka := h1.ok.cell a ha
        have kb := h1.ok.cell b hb
        rw [r_isUp1 h1 hb hv, mbd_some, if_neg (by decide)]
        simp only [h1.rCell ha, h1.rCell hb, h1.rSize ha, h1.rSize hb, zob_some]
        by_cases e1 : S1.cell a = S1.cell b
        · have key : Int32.ofNat (S1.cell a) = Int32.ofNat (S1.cell b) := by rw [e1]
          rw [if_pos key]
          unfold yjoin2
          have key2 : S1.state a = 1 ∧ S1.state b = 1 ∧ S1.cell a = S1.cell b := ⟨hu, hv, e1⟩
          rw [if_pos key2]
          by_cases e : S1.size a < S1.size b
          · rw [if_pos e, if_pos e, mbd_some, if_pos rfl, mbd_some, h1.wSize hb, zob_some, if_pos rfl, mbd_some]
            have g2 := h1.setSize b (zmn 20 (S1.size a + S1.size b)) (by omega)
            rw [g2.wState ha, zob_some]
            have g3 := g2.setState a 3 (by omega)
            rw [g2.notx ha hu] at g3
            exact zwp_ret ⟨yi_nn b, g3, zfr_trans h2 (zfr_trans (zfr_mup (by unfold yTR; omega)) (zfr_mup (by unfold yTR; omega)))⟩
          · rw [if_neg e, if_neg e, mbd_some, if_neg (by decide), mbd_some, h1.wSize ha, zob_some, if_neg (by decide), mbd_some]
            have g2 := h1.setSize a (zmn 20 (S1.size a + S1.size b)) (by omega)
            rw [g2.wState hb, zob_some]
            have g3 := g2.setState b 3 (by omega)
            rw [g2.notx hb hv] at g3
            exact zwp_ret ⟨yi_nn b, g3, zfr_trans h2 (zfr_trans (zfr_mup (by unfold yTR; omega)) (zfr_mup (by unfold yTR; omega)))⟩
        · have key : ¬ Int32.ofNat (S1.cell a) = Int32.ofNat (S1.cell b) := by rw [zi_eq (by omega) (by omega)]; exact e1
          rw [if_neg key]
          exact zwp_ret ⟨yi_nn b, by unfold yjoin2; rw [if_neg (fun z => e1 z.2.2)]; exact h1, h2⟩
      · rw [r_isUp0 h1 hb hv, mbd_some, if_pos rfl]
        exact zwp_ret ⟨yi_nn b, by unfold yjoin2; rw [if_neg (fun z => hv z.2.1)]; exact h1, h2⟩
    · rw [r_isUp0 h1 ha hu, mbd_some, if_pos rfl]
      exact zwp_ret ⟨yi_nn b, by unfold yjoin2; rw [if_neg (fun z => hu z.1)]; exact h1, h2⟩
  · rintro st M1 ⟨rfl, h1, h2⟩
    simp only [h1.rt.rNc, zob_some, yle_t, if_true]
    exact zwp_ret ⟨h1, h2⟩
  · rintro b M1 ⟨h1, h2⟩
    exact zwp_ret ⟨rfl, h1, h2⟩
end

section
variable {M : zMem} {s t : Nat} {o : Int32} {T : yT} {S : yA}
theorem ycell6 {k : Nat} : (6 : Int32) * Int32.ofNat (k / 6) + Int32.ofNat (k % 6) = Int32.ofNat k := by
  have e : k = 6 * (k / 6) + k % 6 := by omega
  conv => rhs; rw [e]
  rw [Int32.ofNat_add, Int32.ofNat_mul]; rfl
theorem ywet_keep {c : Nat} {v : Int32} (n : Nat) (S : yA) : (zfd (ywet1 T c v) n S).cell = S.cell ∧ (zfd (ywet1 T c v) n S).owner = S.owner ∧ (zfd (ywet1 T c v) n S).size = S.size ∧ (zfd (ywet1 T c v) n S).state = S.state := by
  induction n with
  | zero => exact ⟨rfl, rfl, rfl, rfl⟩
  | succ n ih =>
    have : (ywet1 T c v n (zfd (ywet1 T c v) n S)).cell = (zfd (ywet1 T c v) n S).cell ∧ (ywet1 T c v n (zfd (ywet1 T c v) n S)).owner = (zfd (ywet1 T c v) n S).owner ∧ (ywet1 T c v n (zfd (ywet1 T c v) n S)).size = (zfd (ywet1 T c v) n S).size ∧ (ywet1 T c v n (zfd (ywet1 T c v) n S)).state = (zfd (ywet1 T c v) n S).state := by
      unfold ywet1
      split
      · split <;> exact ⟨rfl, rfl, rfl, rfl⟩
      · exact ⟨rfl, rfl, rfl, rfl⟩
    exact ⟨this.1.trans ih.1, this.2.1.trans ih.2.1, this.2.2.1.trans ih.2.2.1, this.2.2.2.trans ih.2.2.2⟩
theorem c_wet (h : yCS M s t o T S) {c : Nat} (hc : c < T.nc) (v : Int32) : zwp (m_X5_wetFields s (Int32.ofNat c) v M) (fun _ M' => yCS M' s t o T (zfd (ywet1 T c v) T.nf S) ∧ zfr (yTC s) M M') := by
  have b3 := h.tk.nf
  have b2 := h.tk.nh
  have lo := ysp_lo h.sp
  unfold m_X5_wetFields
  refine h.fold (N := T.nf) (by omega) (ywet1 T c v) ?_ (fun S' M' h' => by simp only [mlt_eq, h'.tp, h'.ct.enf, if_true]) (fun M' q1 q2 => ⟨q1, q2⟩)
  intro f S' M' hf h'
  have k1 := h'.ok.cell c hc
  have k2 := h'.tk.fcell f hf
  simp only [mlt_eq, h'.tp, h'.ct.lnf h'.tk hf, if_false, h'.ct.rFcell h'.tk hf, h'.rX hc, h'.rY hc, zob_some, ycell6, zi_eq (show T.fcell f < 2147483648 by omega) (show S'.cell c < 2147483648 by omega)]
  unfold ywet1
  by_cases e : T.fcell f = S'.cell c
  · simp only [e, if_true, h'.rGot hf, h'.wGot hf, zob_some]
    have h2 := h'.setGot f (S'.got f + v)
    rw [h2.rOwner hc, zob_some]
    rw [show (yA.w_got S' (yu S'.got f (S'.got f + v))).owner c = S'.owner c from rfl]
    rcases yowner_cases h'.ok h'.tk hc with e1 | ⟨e1, e2, e3⟩
    · rw [if_pos e1, if_pos e1]
      exact zwp_ret ⟨rfl, h2, zfr_mup ⟨by omega, by omega⟩⟩
    · rw [if_neg e1, if_neg e1]
      have e3' : ((yA.w_got S' (yu S'.got f (S'.got f + v))) : yA).owner c = Int32.ofNat (yown1 S' c) := e3
      rw [zob_some, e3, h2.rw e2, zob_some, h2.rRained e2 hf, zob_some, h2.wRained e2 hf, zob_some]
      exact zwp_ret ⟨rfl, h2.setRained (yown1 S' c) f _ e2, zfr_trans (zfr_mup ⟨by omega, by omega⟩) (zfr_mup ⟨by omega, by omega⟩)⟩
  · simp only [e, if_false]
    exact zwp_ret ⟨rfl, h', zfr_refl⟩
theorem c_fall (h : yCS M s t o T S) {c : Nat} (hc : c < T.nc) {x : Int32 ⊕ Int32} : zwp (mbd (m_X5_worthOf s 1 (Int32.ofNat c) M) (fun v14 M13 =>
  zob (mrd M13 (s + 3) (Int32.ofNat c)) (fun v16 =>
  zob (mrd M13 (s + 3) (Int32.ofNat c)) (fun v18 =>
  mbd (m_X5_bounded v14 v16 (zmx 1 (v18 / 2)) M13) (fun v20 M19 =>
  mbd (m_X5_wetFields s (Int32.ofNat c) v20 M19) (fun v22 M21 =>
  zob (mrd M21 (s + 3) (Int32.ofNat c)) (fun v24 =>
  zob (mwr M21 (s + 3) (Int32.ofNat c) (v24 - v20)) (fun M25 =>
  zob (mrd M25 (s + 3) (Int32.ofNat c)) (fun v27 =>
  if v27 = 0 then
  zob (mwr M25 (s + 6) (Int32.ofNat c) 4) (fun M29 =>
  some (x, M29))
  else
  some (x, M25)))))))))) (fun r M1 => r = x ∧ yCS M1 s t o T (ydry c (yfv T o c S) (zfd (ywet1 T c (yfv T o c S)) T.nf S)) ∧ zfr (yTC s) M M1) := by
  have lo := ysp_lo h.sp
  refine zwp_bd (c_worthOf (k := 1) h (by decide) hc) ?_
  rintro v M1 ⟨q1, q2, rfl⟩
  rw [q1.rSize hc, zob_some, zob_some, c_bounded (fun w hw => ywo_ok h.tk (by decide) hw), mbd_some]
  rw [show ybd (ywo T o S 1 c) (S.size c) (zmx 1 (S.size c / 2)) = yfv T o c S from rfl]
  refine zwp_bd (c_wet q1 hc _) ?_
  rintro u M2 ⟨q3, q4⟩
  rw [q3.rSize hc, zob_some, q3.wSize hc, zob_some]
  have h2 := q3.setSize c ((zfd (ywet1 T c (yfv T o c S)) T.nf S).size c - yfv T o c S)
  rw [h2.rSize hc, zob_some]
  unfold ydry
  have e0 : yu (zfd (ywet1 T c (yfv T o c S)) T.nf S).size c ((zfd (ywet1 T c (yfv T o c S)) T.nf S).size c - yfv T o c S) c = (zfd (ywet1 T c (yfv T o c S)) T.nf S).size c - yfv T o c S := yu_on
  simp only [ya_size_size, e0]
  by_cases e : (zfd (ywet1 T c (yfv T o c S)) T.nf S).size c - yfv T o c S = 0
  · rw [if_pos e, if_pos e, h2.wState hc, zob_some]
    exact zwp_ret ⟨rfl, h2.setState c 4, zfr_trans q2 (zfr_trans q4 (zfr_trans (zfr_mup ⟨by omega, by omega⟩) (zfr_mup ⟨by omega, by omega⟩)))⟩
  · rw [if_neg e, if_neg e]
    exact zwp_ret ⟨rfl, h2, zfr_trans q2 (zfr_trans q4 (zfr_mup ⟨by omega, by omega⟩))⟩
theorem c_rain (h : yCS M s t o T S) : zwp (m_X5_rainDown s M) (fun _ M' => yCS M' s t o T (zfd (yfall1 T o) T.nc S) ∧ zfr (yTC s) M M') := by
  have b1 := h.tk.nc
  unfold m_X5_rainDown
  refine h.fold (N := T.nc) (by omega) (yfall1 T o) ?_ (fun S' M' h' => by simp only [mlt_eq, h'.tp, h'.ct.enc, if_true]) (fun M' q1 q2 => ⟨q1, q2⟩)
  intro c S' M' hc h'
  simp only [mlt_eq, h'.tp, h'.ct.lnc h'.tk hc, if_false]
  unfold yfall1
  by_cases hu : S'.state c = 1
  · rw [c_isUp1 h' hc hu, mbd_some, if_neg (by decide), h'.rSize hc, zob_some, h'.tp, h'.ct.rain]
    by_cases e : T.rain ≤ S'.size c
    · rw [if_pos e, if_pos ⟨hu, Or.inl e⟩]
      exact c_fall h' hc
    · rw [if_neg e, h'.rX hc, zob_some, h'.rY hc, zob_some, c_ground h' (h'.ok.cell c hc), mbd_some]
      by_cases e2 : ygr T o (S'.cell c) = 2
      · rw [if_pos e2, if_pos ⟨hu, Or.inr e2⟩]
        exact c_fall h' hc
      · rw [if_neg e2, if_neg (fun z => z.2.elim e e2)]
        exact zwp_ret ⟨rfl, h', zfr_refl⟩
  · rw [c_isUp0 h' hc hu, mbd_some, if_pos rfl, if_neg (fun z => hu z.1)]
    exact zwp_ret ⟨rfl, h', zfr_refl⟩
theorem ywho_ok {c : Nat} (n : Nat) : (ywho T S c n).1 = -1 ∨ ∃ h, h < n ∧ (ywho T S c n).1 = Int32.ofNat h := by
  induction n with
  | zero => exact Or.inl rfl
  | succ n ih =>
    have e : ywho T S c (n + 1) = if ¬ T.sight n < yfar (S.pos n) (S.cell c) ∧ yown S (Int32.ofNat n) T.nc < (ywho T S c n).2 then (Int32.ofNat n, yown S (Int32.ofNat n) T.nc) else ywho T S c n := rfl
    rw [e]
    split
    · exact Or.inr ⟨n, by omega, rfl⟩
    · rcases ih with e | ⟨h, h1, h2⟩
      · exact Or.inl e
      · exact Or.inr ⟨h, by omega, h2⟩
theorem c_who (h : yCS M s t o T S) {c : Nat} (hc : c < T.nc) : m_X5_whoTakes s (Int32.ofNat c) M = some ((ywho T S c T.nh).1, M) := by
  have b2 := h.tk.nh
  refine zwp_out ?_
  unfold m_X5_whoTakes
  rw [mlt_eq, h.tp]
  refine zwp_bd (Q' := fun b M' => b.1 = (ywho T S c T.nh).1 ∧ M' = M) (zwp_for 0 T.nh (fun q st M' => st = ((ywho T S c q).1, (ywho T S c q).2, Int32.ofNat q) ∧ M' = M) ?_ ?_ ⟨by rw [h.ct.most]; rfl, rfl⟩ (Nat.zero_le _) (by have : zLF = 100000 := rfl; omega)) ?_
  · rintro q st M' - hq ⟨rfl, rfl⟩
    have e0 : ywho T S c (q + 1) = if ¬ T.sight q < yfar (S.pos q) (S.cell c) ∧ yown S (Int32.ofNat q) T.nc < (ywho T S c q).2 then (Int32.ofNat q, yown S (Int32.ofNat q) T.nc) else ywho T S c q := rfl
    rw [e0]
    simp only [mlt_eq, h.tp, h.ct.lnh h.tk hq, if_false, c_canSee h hq hc, mbd_some]
    by_cases e1 : T.sight q < yfar (S.pos q) (S.cell c)
    · simp only [e1, if_true, not_true, false_and, if_false, zwp_some, yi_nn, and_self]
    · simp only [e1, if_false, one_ne, c_ownInSky h, mbd_some, not_false_iff, true_and]
      by_cases e2 : yown S (Int32.ofNat q) T.nc < (ywho T S c q).2
      · have e3 : ¬ (ywho T S c q).2 ≤ yown S (Int32.ofNat q) T.nc := by rw [Int32.not_le]; exact e2
        simp only [e2, e3, if_true, if_false, zwp_some, yi_nn, and_self]
      · have e3 : (ywho T S c q).2 ≤ yown S (Int32.ofNat q) T.nc := Int32.not_lt.mp e2
        simp only [e2, e3, if_true, if_false, zwp_some, yi_nn, and_self]
  · rintro st M' ⟨rfl, rfl⟩
    simp only [mlt_eq, h.tp, h.ct.enh, if_true, zwp_some, and_self]
  · rintro b M' ⟨e, rfl⟩
    exact zwp_ret ⟨e, rfl⟩
theorem c_give (h : yCS M s t o T S) : zwp (m_X5_giveOut s M) (fun _ M' => yCS M' s t o T (zfd (ygive1 T) T.nc S) ∧ zfr (yTC s) M M') := by
  have b1 := h.tk.nc
  have lo := ysp_lo h.sp
  unfold m_X5_giveOut
  refine h.fold (N := T.nc) (by omega) (ygive1 T) ?_ (fun S' M' h' => by simp only [mlt_eq, h'.tp, h'.ct.enc, if_true]) (fun M' q1 q2 => ⟨q1, q2⟩)
  intro c S' M' hc h'
  simp only [mlt_eq, h'.tp, h'.ct.lnc h'.tk hc, if_false]
  unfold ygive1
  by_cases hu : S'.state c = 1
  · rw [c_isUp1 h' hc hu, mbd_some, if_neg (by decide), h'.rOwner hc, zob_some]
    by_cases e : S'.owner c = -1
    · rw [if_pos e, if_pos ⟨hu, e⟩, c_who h' hc, mbd_some, h'.wOwner hc, zob_some]
      exact zwp_ret ⟨rfl, h'.setOwner c _ (ywho_ok T.nh), zfr_mup ⟨by omega, by omega⟩⟩
    · rw [if_neg e, if_neg (fun z => e z.2)]
      exact zwp_ret ⟨rfl, h', zfr_refl⟩
  · rw [c_isUp0 h' hc hu, mbd_some, if_pos rfl, if_neg (fun z => hu z.1)]
    exact zwp_ret ⟨rfl, h', zfr_refl⟩
theorem c_mark (h : yCS M s t o T S) : zwp (m_X5_markChildren s M) (fun _ M' => yCS M' s t o T (zfd (ymark1 T o) T.nh S) ∧ zfr (yTC s) M M') := by
  have b1 := h.tk.nc
  have b2 := h.tk.nh
  have lo := ysp_lo h.sp
  unfold m_X5_markChildren
  refine h.fold (N := T.nh) (by omega) (ymark1 T o) ?_ (fun S' M' h' => by simp only [mlt_eq, h'.tp, h'.ct.enh, if_true]) (fun M' q1 q2 => ⟨q1, q2⟩)
  intro q S0 M0 hq h0
  simp only [mlt_eq, h0.tp, h0.ct.lnh h0.tk hq, if_false]
  refine h0.foldK (N := T.nc) (by omega) (ymark2 T o q) ?_ (fun S' M' h' => by simp only [mlt_eq, h'.tp, h'.ct.enc, if_true]) (fun b M' q1 q2 => zwp_ret ⟨rfl, q1, q2⟩)
  intro c S' M' hc h'
  simp only [mlt_eq, h'.tp, h'.ct.lnc h'.tk hc, if_false]
  unfold ymark2
  by_cases hu : S'.state c = 1
  · rw [c_isUp1 h' hc hu, mbd_some, if_neg (by decide), h'.rOwner hc, zob_some]
    by_cases e : S'.owner c = Int32.ofNat q
    · rw [if_pos e, if_pos ⟨hu, e⟩, h'.rMarks hq, zob_some]
      refine zwp_bd (c_worthOf (k := 2) h' (by decide) hc) ?_
      rintro v M1 ⟨q1, q2, rfl⟩
      rw [c_canSee q1 hq hc, mbd_some]
      have e2 : (if (if T.sight q < yfar (S'.pos q) (S'.cell c) then (0 : Int32) else 1) = 0 then some ((0 : Int32), M1) else some (1, M1)) = some (if T.sight q < yfar (S'.pos q) (S'.cell c) then 0 else 1, M1) := by
        split <;> rfl
      rw [e2, mbd_some, c_bounded (fun w hw => ywo_ok h'.tk (by decide) hw), mbd_some, q1.wMarks hq, zob_some]
      exact zwp_ret ⟨rfl, q1.setMarks q _, zfr_trans q2 (zfr_mup ⟨by omega, by omega⟩)⟩
    · rw [if_neg e, if_neg (fun z => e z.2)]
      exact zwp_ret ⟨rfl, h', zfr_refl⟩
  · rw [c_isUp0 h' hc hu, mbd_some, if_pos rfl, if_neg (fun z => hu z.1)]
    exact zwp_ret ⟨rfl, h', zfr_refl⟩
theorem c_pass (h : yCS M s t o T S) (w : Int32) : zwp (m_X5_passHour s w M) (fun _ M' => yCS M' s t o T (ypass T o w S) ∧ zfr (yTC s) M M') := by
  have b1 := h.tk.nc
  have lo := ysp_lo h.sp
  unfold m_X5_passHour
  refine zwp_bd (c_bear h) ?_
  rintro _ M1 ⟨h1, f1⟩
  refine zwp_bd (c_drift h1 w) ?_
  rintro _ M2 ⟨h2, f2⟩
  refine zwp_bd (c_grow h2) ?_
  rintro _ M3 ⟨h3, f3⟩
  refine zwp_bd (Q' := fun _ M' => yCS M' s t o T ((if o = 4 then id else zfd (yjoin1 T.nc) T.nc) (zfd (ygrow1 T o) T.nc (zfd (ydrift1 w) T.nc (zfd (ybear1 T) T.nc S)))) ∧ zfr (yTC s) M3 M') ?_ ?_
  · rw [h3.ot]
    by_cases e : o = 4
    · rw [if_pos e, if_pos e]
      exact zwp_ret ⟨h3, zfr_refl⟩
    · rw [if_neg e, if_neg e]
      refine zwp_bd (c_join h3) ?_
      rintro _ M' ⟨h4, f4⟩
      exact zwp_ret ⟨h4, f4⟩
  rintro _ M4 ⟨h4, f4⟩
  refine zwp_bd (c_rain h4) ?_
  rintro _ M5 ⟨h5, f5⟩
  refine zwp_bd (c_give h5) ?_
  rintro _ M6 ⟨h6, f6⟩
  refine zwp_bd (c_mark h6) ?_
  rintro _ M7 ⟨h7, f7⟩
  refine h7.foldK (N := T.nc) (by omega) yage1 ?_ (fun S' M' h' => by simp only [mlt_eq, h'.tp, h'.ct.enc, if_true]) (fun b M8 h8 f8 => ?_)
  rotate_left
  · rw [mlt_eq, h8.hour, yi_nn]
    exact zwp_ret ⟨h8.setHour _, zfr_trans f1 (zfr_trans f2 (zfr_trans f3 (zfr_trans f4 (zfr_trans f5 (zfr_trans f6 (zfr_trans f7 (zfr_trans f8 (zfr_mup ⟨by omega, by omega⟩))))))))⟩
  intro c S' M' hc h'
  simp only [mlt_eq, h'.tp, h'.ct.lnc h'.tk hc, if_false]
  unfold yage1
  by_cases hu : S'.state c = 1
  · rw [c_isUp1 h' hc hu, mbd_some, if_neg (by decide), h'.rAge hc, zob_some, h'.wAge hc, zob_some, if_pos hu]
    exact zwp_ret ⟨rfl, h'.setAge c _, zfr_mup ⟨by omega, by omega⟩⟩
  · rw [c_isUp0 h' hc hu, mbd_some, if_pos rfl, if_neg hu]
    exact zwp_ret ⟨rfl, h', zfr_refl⟩
end

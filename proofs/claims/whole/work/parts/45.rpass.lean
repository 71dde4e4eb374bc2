theorem ymv0 {w : Int32} {c : Nat} {S : yA} (hw : w ≤ 0) : ymv w c S = S := by
  have n1 : ¬ w = 1 := by rintro rfl; exact absurd hw (by decide)
  have n2 : ¬ w = 2 := by rintro rfl; exact absurd hw (by decide)
  have n3 : ¬ w = 3 := by rintro rfl; exact absurd hw (by decide)
  have n4 : ¬ w = 4 := by rintro rfl; exact absurd hw (by decide)
  unfold ymv ymove
  simp only [n1, n2, n3, n4, if_false, yu_id]
  rfl
theorem ymv_at {w : Int32} {c : Nat} {S : yA} : ymv w c S = (yA.w_state (yA.w_cell S ((ymv w c S).cell)) ((ymv w c S).state)) := by
  unfold ymv; split <;> rfl
theorem ybd_comm {T : yT} {w : Int32} {c c' : Nat} (h : c ≠ c') (S : yA) : ybear1 T c (ydrift1 w c' S) = ydrift1 w c' (ybear1 T c S) := by
  unfold ydrift1
  have e1 : (ybear1 T c S).state c' = S.state c' := by
    unfold ybear1
    split
    · exact yu_off (Ne.symm h)
    · rfl
  have e2 : (ybear1 T c S).cell c' = S.cell c' := by
    unfold ybear1; split <;> rfl
  rw [e1]
  by_cases hu : S.state c' = 1
  · rw [if_pos hu, if_pos hu]
    unfold ymv
    rw [e2]
    cases ymove w (S.cell c') with
    | some k =>
      show ybear1 T c (yA.w_cell S (yu S.cell c' k)) = yA.w_cell (ybear1 T c S) (yu (ybear1 T c S).cell c' k)
      unfold ybear1
      rw [show (yA.w_cell S (yu S.cell c' k)).state c = S.state c from rfl, show (yA.w_cell S (yu S.cell c' k)).hour = S.hour from rfl]
      split <;> rfl
    | none =>
      show ybear1 T c (yA.w_state S (yu S.state c' 2)) = yA.w_state (ybear1 T c S) (yu (ybear1 T c S).state c' 2)
      unfold ybear1
      rw [show (yA.w_state S (yu S.state c' 2)).state c = S.state c from yu_off h, show (yA.w_state S (yu S.state c' 2)).hour = S.hour from rfl]
      split
      · exact congrArg (fun z => ((yA.w_state S (z)) : yA)) (yu_comm (Ne.symm h))
      · rfl
  · rw [if_neg hu, if_neg hu]
theorem ybd_fold {T : yT} {w : Int32} {c : Nat} : ∀ (n : Nat), n ≤ c → ∀ S, ybear1 T c (zfd (ydrift1 w) n S) = zfd (ydrift1 w) n (ybear1 T c S) := by
  intro n
  induction n with
  | zero => intro _ S; rfl
  | succ n ih =>
    intro hn S
    show ybear1 T c (ydrift1 w n (zfd (ydrift1 w) n S)) = ydrift1 w n (zfd (ydrift1 w) n (ybear1 T c S))
    rw [ybd_comm (by omega), ih (by omega)]
theorem ybd_fuse {T : yT} {w : Int32} {S : yA} (n : Nat) : zfd (fun c S => ydrift1 w c (ybear1 T c S)) n S = zfd (ydrift1 w) n (zfd (ybear1 T) n S) := by
  induction n with
  | zero => rfl
  | succ n ih =>
    show ydrift1 w n (ybear1 T n (zfd (fun c S => ydrift1 w c (ybear1 T c S)) n S)) = ydrift1 w n (zfd (ydrift1 w) n (ybear1 T n (zfd (ybear1 T) n S)))
    rw [ih, ybd_fold n (Nat.le_refl _)]
section
variable {M : zMem} {sl : Nat} {o : Int32} {T : yT} {S : yA}
theorem r_bear1 (h : yRS M sl o T S) {c : Nat} (hc : c < T.nc) : zwp (α := Unit) (
  if T.bat c = Int32.ofNat S.hour then
  zob (mrd M 240 ((8 * Int32.ofNat sl) + Int32.ofNat c)) (fun v14 =>
  if v14 = 0 then
  zob (mwr M 240 ((8 * Int32.ofNat sl) + Int32.ofNat c) 1) (fun M16 =>
  some ((), M16))
  else
  some ((), M))
  else
  some ((), M)) (fun _ M' => yRS M' sl o T (ybear1 T c S) ∧ zfr (yTR sl) M M') := by
  have b1 := h.tk.nc
  have l1 := h.lt
  unfold ybear1
  by_cases e1 : T.bat c = Int32.ofNat S.hour
  · rw [if_pos e1, h.rHow hc, zob_some]
    have hs := h.state c hc
    by_cases e2 : M.1 240 (8 * sl + c) = 0
    · rw [if_pos e2, h.wState hc, zob_some]
      have h2 := h.setState c 1 (by omega)
      by_cases x : o = 2 ∧ Int32.ofNat c = M.1 213 50
      · rw [if_pos x] at h2 hs
        have n0 : ¬ (S.state c = 0 ∧ T.bat c = Int32.ofNat S.hour) := by rw [hs]; exact fun z => absurd z.1 (by decide)
        rw [if_neg n0]
        rw [← hs, yu_id] at h2
        exact zwp_ret ⟨h2, zfr_mup (by unfold yTR; omega)⟩
      · rw [if_neg x] at h2 hs
        have n0 : (S.state c = 0 ∧ T.bat c = Int32.ofNat S.hour) := ⟨by rw [hs]; exact e2, e1⟩
        rw [if_pos n0]
        exact zwp_ret ⟨h2, zfr_mup (by unfold yTR; omega)⟩
    · rw [if_neg e2]
      have n0 : ¬ (S.state c = 0 ∧ T.bat c = Int32.ofNat S.hour) := by
        rw [hs]
        by_cases x : o = 2 ∧ Int32.ofNat c = M.1 213 50
        · rw [if_pos x]; exact fun z => absurd z.1 (by decide)
        · rw [if_neg x]; exact fun z => e2 z.1
      rw [if_neg n0]
      exact zwp_ret ⟨h, zfr_refl⟩
  · rw [if_neg e1]
    have n0 : ¬ (S.state c = 0 ∧ T.bat c = Int32.ofNat S.hour) := fun z => e1 z.2
    rw [if_neg n0]
    exact zwp_ret ⟨h, zfr_refl⟩
def yww (T : yT) (o : Int32) (S : yA) (w : Int32) : Int32 := if o = 1 then 0 else if w = -1 then ywn T o S else w
set_option maxHeartbeats 4000000 in
theorem r_pass {a : Int32} (h : yRS M sl o T S) (hh : S.hour < 2147483648) {w : Int32} (hw : M.1 213 51 = w) (ea : zN a sl := by with_reducible repeat (first | assumption | exact zn_of _ | exact zn_lit _ | apply zn_add | apply zn_mul)) : zwp (m_X8_passes a M) (fun _ M' => yRS M' sl o T (ypass T o (yww T o S w) S) ∧ zfr (yTR sl) M M') := by
  obtain rfl := ea.e
  have b1 := h.tk.nc
  have b2 := h.tk.nh
  have l1 := h.lt
  unfold m_X8_passes
  rw [r_wind h hh w hw, mbd_some, show (if o = 1 then 0 else if w = -1 then ywn T o S else w) = yww T o S w from rfl]
  generalize yww T o S w = wd
  refine h.foldK (N := T.nc) (by omega) (fun c S => ydrift1 wd c (ybear1 T c S)) ?_ (fun S' M' h' => by simp only [h'.rt.rNc, zob_some, yle_t, if_true]) (fun b M1 h1 f1 => ?_)
  · intro c S' M' hc h'
    rw [h'.rt.rNc, zob_some, if_neg (by rw [yle_f hc (by omega)]; exact id), h'.rt.rBat h'.tk hc, zob_some, h'.rHour, zob_some]
    refine zwp_bd (r_bear1 h' hc) ?_
    rintro _ M1 ⟨h1, f1⟩
    generalize ybear1 T c S' = S1 at h1 ⊢
    unfold ydrift1
    by_cases hu : S1.state c = 1
    · rw [r_isUp1 h1 hc hu, mbd_some, if_neg (by decide), if_pos hu]
      by_cases g : wd ≤ 0
      · rw [if_pos g, ymv0 g]; exact zwp_ret ⟨rfl, h1, f1⟩
      · rw [if_neg g]
        refine zwp_bd (r_drifts h1 hc hu wd) ?_
        rintro _ M2 ⟨h2, f2⟩
        exact zwp_ret ⟨rfl, h2, zfr_trans f1 f2⟩
    · rw [r_isUp0 h1 hc hu, mbd_some, if_pos rfl, if_neg hu]
      exact zwp_ret ⟨rfl, h1, f1⟩
  rw [ybd_fuse] at h1
  refine h1.foldK (N := T.nc) (by omega) (ygrow1 T o) ?_ (fun S' M' h' => by simp only [h'.rt.rNc, zob_some, yle_t, if_true]) (fun b M2 h2 f2 => ?_)
  · intro c S' M' hc h'
    rw [h'.rt.rNc, zob_some, if_neg (by rw [yle_f hc (by omega)]; exact id)]
    unfold ygrow1
    by_cases hu : S'.state c = 1
    · rw [r_isUp1 h' hc hu, mbd_some, if_neg (by decide), if_pos hu]
      refine r_cw h' (k := 0) (by decide) hc ?_
      intro M3 e3 hn h3
      rw [h3.rSize hc, zob_some, h3.rCell hc, zob_some, r_ground h3 (h3.ok.cell c hc), mbd_some]
      have e1 : (if ygr T o (S'.cell c) = 1 then some ((1 : Int32), M3) else some (0, M3)) = some (if ygr T o (S'.cell c) = 1 then 1 else 0, M3) := by split <;> rfl
      rw [e1, mbd_some]
      refine zwp_bd (r_within h3.rt h3.tk (k := 0) (by decide) hn _ _) ?_
      rintro r M4 ⟨f4, rfl⟩
      have h4 := h3.k35 f4
      rw [h4.wSize hc, zob_some]
      exact zwp_ret ⟨rfl, h4.setSize c _ (by omega), zfr_trans (zfr_e e3) (zfr_trans (zfr_35 f4) (zfr_mup (by unfold yTR; omega)))⟩
    · rw [r_isUp0 h' hc hu, mbd_some, if_pos rfl, if_neg hu]
      exact zwp_ret ⟨rfl, h', zfr_refl⟩
  refine zwp_bd (r_joins h2) ?_
  rintro _ M3 ⟨h3, f3⟩
  refine h3.foldK (N := T.nc) (by omega) (yfall1 T o) ?_ (fun S' M' h' => by simp only [h'.rt.rNc, zob_some, yle_t, if_true]) (fun b M4 h4 f4 => ?_)
  · intro c S' M' hc h'
    rw [h'.rt.rNc, zob_some, if_neg (by rw [yle_f hc (by omega)]; exact id)]
    by_cases hu : S'.state c = 1
    · rw [r_isUp1 h' hc hu, mbd_some, if_neg (by decide)]
      refine zwp_bd (r_falls h' hc hu) ?_
      rintro _ M5 ⟨h5, f5⟩
      exact zwp_ret ⟨rfl, h5, f5⟩
    · rw [r_isUp0 h' hc hu, mbd_some, if_pos rfl]
      refine zwp_ret ⟨rfl, ?_, zfr_refl⟩
      unfold yfall1
      rw [if_neg (fun z => hu z.1)]; exact h'
  refine h4.foldK (N := T.nc) (by omega) (ygive1 T) ?_ (fun S' M' h' => by simp only [h'.rt.rNc, zob_some, yle_t, if_true]) (fun b M5 h5 f5 => ?_)
  · intro c S' M' hc h'
    rw [h'.rt.rNc, zob_some, if_neg (by rw [yle_f hc (by omega)]; exact id)]
    unfold ygive1
    by_cases hu : S'.state c = 1
    · rw [r_isUp1 h' hc hu, mbd_some, if_neg (by decide), h'.rOwner hc, zob_some]
      by_cases e : S'.owner c = -1
      · rw [if_pos e]
        have key : S'.state c = 1 ∧ S'.owner c = -1 := ⟨hu, e⟩
        rw [if_pos key]
        refine zwp_bd (r_given h' hc) ?_
        rintro _ M6 ⟨h6, f6⟩
        exact zwp_ret ⟨rfl, h6, f6⟩
      · rw [if_neg e, if_neg (fun z => e z.2)]
        exact zwp_ret ⟨rfl, h', zfr_refl⟩
    · rw [r_isUp0 h' hc hu, mbd_some, if_pos rfl, if_neg (fun z => hu z.1)]
      exact zwp_ret ⟨rfl, h', zfr_refl⟩
  refine zwp_bd (r_marks h5) ?_
  rintro _ M6 ⟨h6, f6⟩
  refine h6.foldK (N := T.nc) (by omega) yage1 ?_ (fun S' M' h' => by simp only [h'.rt.rNc, zob_some, yle_t, if_true]) (fun b M7 h7 f7 => ?_)
  · intro c S' M' hc h'
    rw [h'.rt.rNc, zob_some, if_neg (by rw [yle_f hc (by omega)]; exact id)]
    unfold yage1
    by_cases hu : S'.state c = 1
    · rw [r_isUp1 h' hc hu, mbd_some, if_neg (by decide), if_pos hu, h'.rAge hc, zob_some, h'.wAge hc, zob_some]
      exact zwp_ret ⟨rfl, h'.setAge c _ (by omega), zfr_mup (by unfold yTR; omega)⟩
    · rw [r_isUp0 h' hc hu, mbd_some, if_pos rfl, if_neg hu]
      exact zwp_ret ⟨rfl, h', zfr_refl⟩
  rw [h7.rHour, zob_some, h7.wHour, zob_some, yi_nn]
  exact zwp_ret ⟨h7.setHour _ _ rfl, zfr_trans f1 (zfr_trans f2 (zfr_trans f3 (zfr_trans f4 (zfr_trans f5 (zfr_trans f6 (zfr_trans f7 (zfr_mup (by unfold yTR; omega))))))))⟩
end

/-! an hour of the class -/
section
variable {M : zMem} {s t : Nat} {o : Int32} {T : yT} {S : yA}
theorem yCS.foldK {α : Type} {N : Nat} (hN : N ≤ 24) (g : Nat → yA → yA) {body : Int32 → zMem → Option ((Int32 ⊕ Int32) × zMem)} {f : Int32 → zMem → Option (α × zMem)} {Q : α → zMem → Prop} (h : yCS M s t o T S)
    (hs : ∀ c S' M', c < N → yCS M' s t o T S' → zwp (body (Int32.ofNat c) M') (fun r M1 => r = .inl (Int32.ofNat c + 1) ∧ yCS M1 s t o T (g c S') ∧ zfr (yTC s) M' M1))
    (he : ∀ S' M', yCS M' s t o T S' → body (Int32.ofNat N) M' = some (.inr (Int32.ofNat N), M'))
    (hq : ∀ b M', yCS M' s t o T (zfd g N S) → zfr (yTC s) M M' → zwp (f b M') Q) : zwp (mbd (mlp zLF body 0 M) f) Q := by
  refine zwp_bd (Q' := fun _ M' => yCS M' s t o T (zfd g N S) ∧ zfr (yTC s) M M') (zwp_for 0 N (fun c st M' => st = Int32.ofNat c ∧ yCS M' s t o T (zfd g c S) ∧ zfr (yTC s) M M') ?_ ?_ ⟨rfl, h, zfr_refl⟩ (Nat.zero_le _) (by have : zLF = 100000 := rfl; omega)) ?_
  · rintro c st M' - hc ⟨rfl, h1, h2⟩
    refine zwp_mono (hs c _ M' hc h1) ?_
    rintro r M1 ⟨rfl, q1, q2⟩
    exact ⟨yi_nn c, q1, zfr_trans h2 q2⟩
  · rintro st M' ⟨rfl, h1, h2⟩
    exact zwp_eq (he _ M' h1) ⟨h1, h2⟩
  · rintro b M' ⟨h1, h2⟩
    exact hq b M' h1 h2
theorem yCS.fold {N : Nat} (hN : N ≤ 24) (g : Nat → yA → yA) {body : Int32 → zMem → Option ((Int32 ⊕ Int32) × zMem)} {Q : Unit → zMem → Prop} (h : yCS M s t o T S)
    (hs : ∀ c S' M', c < N → yCS M' s t o T S' → zwp (body (Int32.ofNat c) M') (fun r M1 => r = .inl (Int32.ofNat c + 1) ∧ yCS M1 s t o T (g c S') ∧ zfr (yTC s) M' M1))
    (he : ∀ S' M', yCS M' s t o T S' → body (Int32.ofNat N) M' = some (.inr (Int32.ofNat N), M'))
    (hq : ∀ M', yCS M' s t o T (zfd g N S) → zfr (yTC s) M M' → Q () M') : zwp (mbd (mlp zLF body 0 M) (fun _ M4 => some ((), M4))) Q :=
  h.foldK hN g hs he (fun _ M' q1 q2 => zwp_ret (hq M' q1 q2))
theorem c_bear (h : yCS M s t o T S) : zwp (m_X5_bearClouds s M) (fun _ M' => yCS M' s t o T (zfd (ybear1 T) T.nc S) ∧ zfr (yTC s) M M') := by
  have b1 := h.tk.nc
  have lo := ysp_lo h.sp
  unfold m_X5_bearClouds
  refine h.fold (N := T.nc) (by omega) (ybear1 T) ?_ (fun S' M' h' => by simp only [mlt_eq, h'.tp, h'.ct.enc, if_true]) (fun M' q1 q2 => ⟨q1, q2⟩)
  intro c S' M' hc h'
  simp only [mlt_eq, h'.tp, h'.ct.lnc h'.tk hc, if_false, h'.rState hc, zob_some]
  by_cases e1 : S'.state c = 0
  · simp only [e1, if_true, h'.ct.rBat h'.tk hc, zob_some, h'.hour]
    by_cases e2 : T.bat c = Int32.ofNat S'.hour
    · simp only [e2, if_true, h'.wState hc, zob_some]
      refine zwp_ret ⟨rfl, ?_, zfr_mup ⟨by omega, by omega⟩⟩
      unfold ybear1
      rw [if_pos ⟨e1, e2⟩]
      exact h'.setState c 1
    · simp only [e2, if_false]
      refine zwp_ret ⟨rfl, ?_, zfr_refl⟩
      unfold ybear1
      rw [if_neg (fun z => e2 z.2)]
      exact h'
  · simp only [e1, if_false]
    refine zwp_ret ⟨rfl, ?_, zfr_refl⟩
    unfold ybear1
    rw [if_neg (fun z => e1 z.1)]
    exact h'
theorem yisc {dx dy : Int32} (M : zMem) {k k' : Nat} (h : Int32.ofNat (k % 6) + dx = Int32.ofNat (k' % 6) ∧ Int32.ofNat (k / 6) + dy = Int32.ofNat (k' / 6) ∧ k' < 24) : m_X7_isCell (Int32.ofNat (k % 6) + dx) (Int32.ofNat (k / 6) + dy) M = some (1, M) := by
  obtain ⟨h1, h2, h3⟩ := h
  have h6 : ¬ (6 : Int32) ≤ Int32.ofNat (k' % 6) := by rw [show (6 : Int32) = Int32.ofNat 6 from rfl, zi_le (by omega) (by omega)]; omega
  have h4 : ¬ (4 : Int32) ≤ Int32.ofNat (k' / 6) := by rw [show (4 : Int32) = Int32.ofNat 4 from rfl, zi_le (by omega) (by omega)]; omega
  unfold m_X7_isCell
  rw [h1, h2, if_neg (zi_nn (by omega)), if_neg h6, if_neg (zi_nn (by omega)), if_neg h4]
def ydx (w : Int32) : Int32 := if w = 1 then 1 else if w = 3 then -1 else 0
def ydy (w : Int32) : Int32 := if w = 2 then 1 else if w = 4 then -1 else 0
def ymvP (dx dy : Int32) (k : Nat) : Option Nat → Bool
  | some k' => decide (Int32.ofNat (k % 6) + dx = Int32.ofNat (k' % 6) ∧ Int32.ofNat (k / 6) + dy = Int32.ofNat (k' / 6) ∧ k' < 24)
  | none => decide (Int32.ofNat (k % 6) + dx < 0 ∨ 6 ≤ Int32.ofNat (k % 6) + dx ∨ Int32.ofNat (k / 6) + dy < 0 ∨ 4 ≤ Int32.ofNat (k / 6) + dy)
theorem ymove_d (w : Int32) : ∀ k, k < 24 → ymvP (ydx w) (ydy w) k (ymove w k) = true := by
  unfold ymove ydx ydy
  by_cases h1 : w = 1
  · subst h1; decide +kernel
  · by_cases h3 : w = 3
    · subst h3; decide +kernel
    · by_cases h2 : w = 2
      · subst h2; decide +kernel
      · by_cases h4 : w = 4
        · subst h4; decide +kernel
        · simp only [h1, h2, h3, h4, if_false]
          decide +kernel
theorem c_move (h : yCS M s t o T S) {c : Nat} (hc : c < T.nc) (w : Int32) : zwp (m_X5_moveCloud s (Int32.ofNat c) w M) (fun _ M' => yCS M' s t o T (ymv w c S) ∧ zfr (yTC s) M M') := by
  have lo := ysp_lo h.sp
  have b1 := h.tk.nc
  unfold m_X5_moveCloud
  have e1 : (if w = 1 then some ((1 : Int32), M) else if w = 3 then some (-1, M) else some (0, M)) = some (ydx w, M) := by
    unfold ydx; split
    · rfl
    · split <;> rfl
  have e2 : (if w = 2 then some ((1 : Int32), M) else if w = 4 then some (-1, M) else some (0, M)) = some (ydy w, M) := by
    unfold ydy; split
    · rfl
    · split <;> rfl
  rw [h.rX hc, zob_some, e1, mbd_some, h.rY hc, zob_some, e2, mbd_some]
  have hm := ymove_d w (S.cell c) (h.ok.cell c hc)
  unfold ymv
  cases hk : ymove w (S.cell c) with
  | some k' =>
    rw [hk] at hm
    have hm : Int32.ofNat (S.cell c % 6) + ydx w = Int32.ofNat (k' % 6) ∧ Int32.ofNat (S.cell c / 6) + ydy w = Int32.ofNat (k' / 6) ∧ k' < 24 := of_decide_eq_true hm
    rw [yisc M hm, mbd_some, if_neg (by decide), h.wX hc, zob_some]
    have d2 := ysp_8 h.sp (j := 2) (by decide) (by decide)
    rw [mwr_of (j := c) (by omega) (by omega), zob_some, hm.1, hm.2.1]
    exact zwp_ret ⟨h.setCell c k' hm.2.2, zfr_trans (zfr_mup ⟨by omega, by omega⟩) (zfr_mup ⟨by omega, by omega⟩)⟩
  | none =>
    rw [hk] at hm
    have hm : (Int32.ofNat (S.cell c % 6) + ydx w < 0 ∨ 6 ≤ Int32.ofNat (S.cell c % 6) + ydx w ∨ Int32.ofNat (S.cell c / 6) + ydy w < 0 ∨ 4 ≤ Int32.ofNat (S.cell c / 6) + ydy w) := of_decide_eq_true hm
    have e3 : m_X7_isCell (Int32.ofNat (S.cell c % 6) + ydx w) (Int32.ofNat (S.cell c / 6) + ydy w) M = some (0, M) := by
      unfold m_X7_isCell
      generalize Int32.ofNat (S.cell c % 6) + ydx w = p at *
      generalize Int32.ofNat (S.cell c / 6) + ydy w = q at *
      by_cases g1 : p < 0
      · rw [if_pos g1]
      · by_cases g2 : 6 ≤ p
        · rw [if_neg g1, if_pos g2]
        · by_cases g3 : q < 0
          · rw [if_neg g1, if_neg g2, if_pos g3]
          · by_cases g4 : 4 ≤ q
            · rw [if_neg g1, if_neg g2, if_neg g3, if_pos g4]
            · exact absurd hm (by simp [g1, g2, g3, g4])
    rw [e3, mbd_some, if_pos rfl, h.wState hc, zob_some]
    exact zwp_ret ⟨h.setState c 2, zfr_mup ⟨by omega, by omega⟩⟩
theorem c_drift (h : yCS M s t o T S) (w : Int32) : zwp (m_X5_drift s w M) (fun _ M' => yCS M' s t o T (zfd (ydrift1 w) T.nc S) ∧ zfr (yTC s) M M') := by
  have b1 := h.tk.nc
  unfold m_X5_drift
  refine h.fold (N := T.nc) (by omega) (ydrift1 w) ?_ (fun S' M' h' => by simp only [mlt_eq, h'.tp, h'.ct.enc, if_true]) (fun M' q1 q2 => ⟨q1, q2⟩)
  intro c S' M' hc h'
  simp only [mlt_eq, h'.tp, h'.ct.lnc h'.tk hc, if_false]
  unfold ydrift1
  by_cases hu : S'.state c = 1
  · simp only [c_isUp1 h' hc hu, mbd_some, one_ne, if_false, hu, if_true]
    refine zwp_bd (c_move h' hc w) ?_
    rintro u M1 ⟨q1, q2⟩
    exact zwp_ret ⟨rfl, q1, q2⟩
  · simp only [c_isUp0 h' hc hu, mbd_some, if_true, hu, if_false]
    exact zwp_ret ⟨rfl, h', zfr_refl⟩
theorem c_grow (h : yCS M s t o T S) : zwp (m_X5_growClouds s M) (fun _ M' => yCS M' s t o T (zfd (ygrow1 T o) T.nc S) ∧ zfr (yTC s) M M') := by
  have b1 := h.tk.nc
  have lo := ysp_lo h.sp
  unfold m_X5_growClouds
  refine h.fold (N := T.nc) (by omega) (ygrow1 T o) ?_ (fun S' M' h' => by simp only [mlt_eq, h'.tp, h'.ct.enc, if_true]) (fun M' q1 q2 => ⟨q1, q2⟩)
  intro c S' M' hc h'
  simp only [mlt_eq, h'.tp, h'.ct.lnc h'.tk hc, if_false]
  unfold ygrow1
  by_cases hu : S'.state c = 1
  · simp only [c_isUp1 h' hc hu, mbd_some, one_ne, if_false, hu, if_true, h'.rX hc, h'.rY hc, zob_some, c_ground h' (h'.ok.cell c hc)]
    have e1 : (if ygr T o (S'.cell c) = 1 then some ((1 : Int32), M') else some (0, M')) = some (if ygr T o (S'.cell c) = 1 then 1 else 0, M') := by split <;> rfl
    rw [e1, mbd_some]
    refine zwp_bd (c_worthOf (k := 0) h' (by decide) hc) ?_
    rintro v M1 ⟨q1, q2, rfl⟩
    rw [c_bounded (fun w hw => ywo_ok h'.tk (by decide) hw), mbd_some, q1.rSize hc, zob_some, q1.wSize hc, zob_some]
    exact zwp_ret ⟨rfl, q1.setSize c _, zfr_trans q2 (zfr_mup ⟨by omega, by omega⟩)⟩
  · simp only [c_isUp0 h' hc hu, mbd_some, if_true, hu, if_false]
    exact zwp_ret ⟨rfl, h', zfr_refl⟩
theorem c_joinTwo (h : yCS M s t o T S) {a b : Nat} (ha : a < T.nc) (hb : b < T.nc) (hab : a < b) (h1 : S.state a = 1 ∧ S.state b = 1 ∧ S.cell a = S.cell b) : zwp (m_X5_joinTwo s (Int32.ofNat a) (Int32.ofNat b) M) (fun _ M' => yCS M' s t o T (yjoin2 a b S) ∧ zfr (yTC s) M M') := by
  have b1 := h.tk.nc
  have lo := ysp_lo h.sp
  unfold m_X5_joinTwo yjoin2
  rw [if_pos h1, h.rSize hb, zob_some, h.rSize ha, zob_some]
  have ne : ¬ Int32.ofNat b = Int32.ofNat a := by rw [zi_eq (by omega) (by omega)]; omega
  by_cases e : S.size a < S.size b
  · rw [if_neg (by rw [Int32.not_le]; exact e), mbd_some, if_neg ne, mbd_some, if_pos e, h.rSize ha, zob_some, h.rSize hb, zob_some, h.wSize hb, zob_some]
    have h2 := h.setSize b (zmn 20 (S.size a + S.size b))
    rw [h2.wState ha, zob_some]
    exact zwp_ret ⟨h2.setState a 3, zfr_trans (zfr_mup ⟨by omega, by omega⟩) (zfr_mup ⟨by omega, by omega⟩)⟩
  · rw [if_pos (Int32.not_lt.mp e), mbd_some, if_pos rfl, mbd_some, if_neg e, h.rSize ha, zob_some, h.rSize hb, zob_some, h.wSize ha, zob_some]
    have h2 := h.setSize a (zmn 20 (S.size a + S.size b))
    rw [h2.wState hb, zob_some]
    exact zwp_ret ⟨h2.setState b 3, zfr_trans (zfr_mup ⟨by omega, by omega⟩) (zfr_mup ⟨by omega, by omega⟩)⟩
theorem yj_dead {a : Nat} : ∀ (n c : Nat) (S : yA), ¬ S.state a = 1 → zfd (fun b S => if a < b then yjoin2 a b S else S) n S = S := by
  intro n c S hu
  induction n with
  | zero => rfl
  | succ n ih =>
    show (fun b S => if a < b then yjoin2 a b S else S) n (zfd _ n S) = S
    rw [ih]
    simp only []
    split
    · unfold yjoin2; rw [if_neg (fun z => hu z.1)]
    · rfl
theorem zfd_add {τ : Type} {f : Nat → τ → τ} {m n : Nat} {S : τ} : zfd f (m + n) S = zfd (fun c => f (m + c)) n (zfd f m S) := by
  induction n with
  | zero => rfl
  | succ n ih => show f (m + n) (zfd f (m + n) S) = f (m + n) _; rw [ih]
theorem yj_dead2 {a m n : Nat} {S : yA} (hm : m ≤ n) (hu : ¬ (zfd (fun b S => if a < b then yjoin2 a b S else S) m S).state a = 1) : zfd (fun b S => if a < b then yjoin2 a b S else S) n S = zfd (fun b S => if a < b then yjoin2 a b S else S) m S := by
  rw [show n = m + (n - m) by omega, zfd_add]
  generalize zfd (fun b S => if a < b then yjoin2 a b S else S) m S = S' at hu ⊢
  generalize n - m = k
  induction k with
  | zero => rfl
  | succ k ih =>
    show (fun c S => if a < m + c then yjoin2 a (m + c) S else S) k (zfd _ k S') = S'
    rw [ih]
    simp only []
    split
    · unfold yjoin2; rw [if_neg (fun z => hu z.1)]
    · rfl
theorem yj_low {a n : Nat} {S : yA} (h : n ≤ a + 1) : zfd (fun b S => if a < b then yjoin2 a b S else S) n S = S := by
  induction n with
  | zero => rfl
  | succ n ih =>
    show (fun b S => if a < b then yjoin2 a b S else S) n (zfd _ n S) = S
    rw [ih (by omega)]
    simp only []
    rw [if_neg (by omega)]
set_option maxHeartbeats 4000000 in
theorem c_join (h : yCS M s t o T S) : zwp (m_X5_joinClouds s M) (fun _ M' => yCS M' s t o T (zfd (yjoin1 T.nc) T.nc S) ∧ zfr (yTC s) M M') := by
  have b1 := h.tk.nc
  have lo := ysp_lo h.sp
  unfold m_X5_joinClouds
  refine h.fold (N := T.nc) (by omega) (yjoin1 T.nc) ?_ (fun S' M' h' => by simp only [mlt_eq, h'.tp, h'.ct.enc, if_true]) (fun M' q1 q2 => ⟨q1, q2⟩)
  intro a S' M' ha h'
  simp only [mlt_eq, h'.tp, h'.ct.lnc h'.tk ha, if_false]
  refine zwp_bd (Q' := fun _ M1 => yCS M1 s t o T (yjoin1 T.nc a S') ∧ zfr (yTC s) M' M1) (zwp_for (a + 1) T.nc (fun c st M1 => st = Int32.ofNat c ∧ yCS M1 s t o T (zfd (fun b S => if a < b then yjoin2 a b S else S) c S') ∧ zfr (yTC s) M' M1) ?_ ?_ ⟨yi_nn a, by rw [yj_low (Nat.le_refl _)]; exact h', zfr_refl⟩ (by omega) (by have : zLF = 100000 := rfl; omega)) ?_
  · rintro b st M1 hab hb ⟨rfl, h1, h2⟩
    have hlt : a < b := by omega
    have hne : ∀ S1, zfd (fun b S => if a < b then yjoin2 a b S else S) (b + 1) S1 = yjoin2 a b (zfd (fun b S => if a < b then yjoin2 a b S else S) b S1) := fun S1 => by
      show (fun b S => if a < b then yjoin2 a b S else S) b (zfd _ b S1) = _
      simp only [hlt, if_true]
    rw [hne]
    have hz := @yj_dead2 a b T.nc S' (by omega)
    generalize hS : zfd (fun b S => if a < b then yjoin2 a b S else S) b S' = S1 at h1 hz ⊢
    simp only [mlt_eq, h1.tp, h1.ct.lnc h1.tk hb, if_false]
    by_cases hu : S1.state a = 1
    · simp only [c_isUp1 h1 ha hu, mbd_some, one_ne, if_false]
      by_cases hv : S1.state b = 1
      · simp only [c_isUp1 h1 hb hv, mbd_some, one_ne, if_false, h1.rX ha, h1.rX hb, h1.rY ha, h1.rY hb, zob_some, zi_eq (show S1.cell a % 6 < 2147483648 by omega) (show S1.cell b % 6 < 2147483648 by omega)]
        have ka := h1.ok.cell a ha
        have kb := h1.ok.cell b hb
        by_cases e1 : S1.cell a % 6 = S1.cell b % 6
        · simp only [e1, if_true, zi_eq (show S1.cell a / 6 < 2147483648 by omega) (show S1.cell b / 6 < 2147483648 by omega)]
          by_cases e2 : S1.cell a / 6 = S1.cell b / 6
          · simp only [e2, if_true]
            refine zwp_bd (c_joinTwo h1 ha hb hlt ⟨hu, hv, by omega⟩) ?_
            rintro u M2 ⟨q1, q2⟩
            exact zwp_ret ⟨yi_nn b, q1, zfr_trans h2 q2⟩
          · simp only [e2, if_false]
            exact zwp_ret ⟨yi_nn b, by unfold yjoin2; rw [if_neg (fun z => e2 (by rw [z.2.2]))]; exact h1, h2⟩
        · simp only [e1, if_false]
          exact zwp_ret ⟨yi_nn b, by unfold yjoin2; rw [if_neg (fun z => e1 (by rw [z.2.2]))]; exact h1, h2⟩
      · simp only [c_isUp0 h1 hb hv, mbd_some, if_true]
        exact zwp_ret ⟨yi_nn b, by unfold yjoin2; rw [if_neg (fun z => hv z.2.1)]; exact h1, h2⟩
    · simp only [c_isUp0 h1 ha hu, mbd_some, if_true]
      refine zwp_ret ⟨?_, h2⟩
      unfold yjoin1
      rw [hz hu]; exact h1
  · rintro st M1 ⟨rfl, h1, h2⟩
    simp only [mlt_eq, h1.tp, h1.ct.enc, if_true]
    exact zwp_ret ⟨h1, h2⟩
  · rintro b M1 ⟨h1, h2⟩
    exact zwp_ret ⟨rfl, h1, h2⟩
end

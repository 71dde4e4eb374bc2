/-! an hour of the reference -/
section
variable {M : zMem} {sl : Nat} {o : Int32} {T : yT} {S : yA}
theorem yRS.foldK {α : Type} {N : Nat} (hN : N ≤ 24) (g : Nat → yA → yA) {body : Int32 → zMem → Option ((Int32 ⊕ Int32) × zMem)} {f : Int32 → zMem → Option (α × zMem)} {Q : α → zMem → Prop} (h : yRS M sl o T S)
    (hs : ∀ c S' M', c < N → yRS M' sl o T S' → zwp (body (Int32.ofNat c) M') (fun r M1 => r = .inl (Int32.ofNat c + 1) ∧ yRS M1 sl o T (g c S') ∧ zfr (yTR sl) M' M1))
    (he : ∀ S' M', yRS M' sl o T S' → body (Int32.ofNat N) M' = some (.inr (Int32.ofNat N), M'))
    (hq : ∀ b M', yRS M' sl o T (zfd g N S) → zfr (yTR sl) M M' → zwp (f b M') Q) : zwp (mbd (mlp zLF body 0 M) f) Q := by
  refine zwp_bd (Q' := fun _ M' => yRS M' sl o T (zfd g N S) ∧ zfr (yTR sl) M M') (zwp_for 0 N (fun c st M' => st = Int32.ofNat c ∧ yRS M' sl o T (zfd g c S) ∧ zfr (yTR sl) M M') ?_ ?_ ⟨rfl, h, zfr_refl⟩ (Nat.zero_le _) (by have : zLF = 100000 := rfl; omega)) ?_
  · rintro c st M' - hc ⟨rfl, h1, h2⟩
    refine zwp_mono (hs c _ M' hc h1) ?_
    rintro r M1 ⟨rfl, q1, q2⟩
    exact ⟨yi_nn c, q1, zfr_trans h2 q2⟩
  · rintro st M' ⟨rfl, h1, h2⟩
    exact zwp_eq (he _ M' h1) ⟨h1, h2⟩
  · rintro b M' ⟨h1, h2⟩
    exact hq b M' h1 h2
theorem yRS.setRain6 (h : yRS M sl o T S) (f : Nat) (v : Int32) (hf : f < 5) : yRS (mup M 244 (35 * sl + 7 * f + 6) v) sl o T S := by
  have l1 := h.lt
  have n1 := h.tk.nc
  have n2 := h.tk.nh
  have n3 := h.tk.nf
  have fr : zfr (yTR sl) M (mup M 244 (35 * sl + 7 * f + 6) v) := zfr_mup (by unfold yTR; omega)
  exact ⟨h.lt, h.tk, (mup_off (by omega)).trans (h.ot), yrt_fr h.rt fr ytr_lo, h.ok, (mup_off (by omega)).trans (h.hour), (mup_off (by omega)).trans (h.blown), fun q hq => (mup_off (by omega)).trans (h.cell q hq), fun q hq => (mup_off (by omega)).trans (h.size q hq), fun q hq => (mup_off (by omega)).trans (h.age q hq), fun q hq => (mup_off (by omega)).trans (h.owner q hq), fun q hq => by rw [mup_off (by omega), mup_off (by omega)]; exact h.state q hq, fun q hq => (mup_off (by omega)).trans (h.pos q hq), fun q hq => (mup_off (by omega)).trans (h.marks q hq), fun q hq => (mup_off (by omega)).trans (h.got q hq), fun q g hq hg => (mup_off' (by omega)).trans (h.rained q g hq hg)⟩
theorem zfr_35 {M' : zMem} (f : zfr yT35 M M') : zfr (yTR sl) M M' := zfr_weak f (fun k i z => Or.inl z)
theorem zfr_e {M' : zMem} {P : Nat → Nat → Prop} (e : M'.1 = M.1) : zfr P M M' := fun k i _ => by rw [e]
/-- a cloud that is up is not left out -/
theorem yRS.notx (h : yRS M sl o T S) {c : Nat} (hc : c < T.nc) (hu : S.state c = 1) (v : Int32) : (if o = 2 ∧ Int32.ofNat c = M.1 213 50 then 4 else v) = v := by
  rw [if_neg ((r_up h hc).mp hu).2]
theorem r_drifts {a : Int32} (h : yRS M sl o T S) {c : Nat} (hc : c < T.nc) (hu : S.state c = 1) (w : Int32) (ea : zN a sl := by with_reducible repeat (first | assumption | exact zn_of _ | exact zn_lit _ | apply zn_add | apply zn_mul)) : zwp (m_X8_drifts a (Int32.ofNat c) w M) (fun _ M' => yRS M' sl o T (ymv w c S) ∧ zfr (yTR sl) M M') := by
  obtain rfl := ea.e
  have b1 := h.tk.nc
  have l1 := h.lt
  have kc := h.ok.cell c hc
  unfold m_X8_drifts
  have e1 : (if w = 1 then some ((1 : Int32), M) else if w = 3 then some (-1, M) else some (0, M)) = some (ydx w, M) := by
    unfold ydx; split
    · rfl
    · split <;> rfl
  have e2 : (if w = 2 then some ((1 : Int32), M) else if w = 4 then some (-1, M) else some (0, M)) = some (ydy w, M) := by
    unfold ydy; split
    · rfl
    · split <;> rfl
  simp only [h.rCell hc, zob_some, e1, mbd_some, e2, yrm6 _ kc, ydv6 _ kc]
  have hm := ymove_d w (S.cell c) kc
  unfold ymv
  cases hk : ymove w (S.cell c) with
  | some k' =>
    rw [hk] at hm
    have hm : Int32.ofNat (S.cell c % 6) + ydx w = Int32.ofNat (k' % 6) ∧ Int32.ofNat (S.cell c / 6) + ydy w = Int32.ofNat (k' / 6) ∧ k' < 24 := of_decide_eq_true hm
    have e3 : m_X8_isCell (Int32.ofNat (S.cell c % 6) + ydx w) (Int32.ofNat (S.cell c / 6) + ydy w) M = some (1, M) := yisc M hm
    rw [e3, mbd_some, if_neg (by decide), h.wCell hc, zob_some, hm.1, hm.2.1, ycell6]
    exact zwp_ret ⟨h.setCell c k' (by omega) _ rfl hm.2.2, zfr_mup (by unfold yTR; omega)⟩
  | none =>
    rw [hk] at hm
    have hm : (Int32.ofNat (S.cell c % 6) + ydx w < 0 ∨ 6 ≤ Int32.ofNat (S.cell c % 6) + ydx w ∨ Int32.ofNat (S.cell c / 6) + ydy w < 0 ∨ 4 ≤ Int32.ofNat (S.cell c / 6) + ydy w) := of_decide_eq_true hm
    have e3 : m_X8_isCell (Int32.ofNat (S.cell c % 6) + ydx w) (Int32.ofNat (S.cell c / 6) + ydy w) M = some (0, M) := by
      unfold m_X8_isCell
      generalize Int32.ofNat (S.cell c % 6) + ydx w = p at *
      generalize Int32.ofNat (S.cell c / 6) + ydy w = q at *
      by_cases g1 : p < 0
      · rw [if_pos g1]
      · by_cases g2 : 6 ≤ p
        · rw [if_neg g1, if_pos g2]
        · by_cases g3 : q < 0
          · rw [if_neg g1, if_neg g2, if_pos g3]
          · by_cases g4 : 4 ≤ q
            · rw [if_neg g1, if_neg g2, if_neg g3, if_pos g4]
            · exact absurd hm (by simp [g1, g2, g3, g4])
    rw [e3, mbd_some, if_pos rfl, h.wState hc, zob_some]
    have h2 := h.setState c 2 (by omega)
    rw [h.notx hc hu] at h2
    exact zwp_ret ⟨h2, zfr_mup (by unfold yTR; omega)⟩
theorem r_wet {a : Int32} (h : yRS M sl o T S) {c : Nat} (hc : c < T.nc) (v : Int32) {α : Type} {f : Int32 → zMem → Option (α × zMem)} {Q : α → zMem → Prop}
    (hq : ∀ b M', yRS M' sl o T (zfd (ywet1 T c v) T.nf S) → zfr (yTR sl) M M' → zwp (f b M') Q) (ea : zN a sl := by with_reducible repeat (first | assumption | exact zn_of _ | exact zn_lit _ | apply zn_add | apply zn_mul)) : zwp (mbd (mlp (σ := Int32) (β := Int32) zLF (fun s19 M20 =>
  zob (mrd M20 215 0) (fun v24 =>
  if v24 ≤ s19 then
  some ((.inr s19), M20)
  else
  zob (mrd M20 218 s19) (fun v26 =>
  zob (mrd M20 236 ((8 * a) + Int32.ofNat c)) (fun v28 =>
  if v26 = v28 then
  zob (mrd M20 243 ((5 * a) + s19)) (fun v30 =>
  zob (mwr M20 243 ((5 * a) + s19) (v30 + v)) (fun M31 =>
  zob (mrd M31 239 ((8 * a) + Int32.ofNat c)) (fun v34 =>
  mbd (α := Int32) (
  if v34 = (-1) then
  some (6, M31)
  else
  zob (mrd M31 239 ((8 * a) + Int32.ofNat c)) (fun v36 =>
  some (v36, M31))) (fun e37 M38 =>
  zob (mrd M38 244 (((35 * a) + (7 * s19)) + e37)) (fun v39 =>
  zob (mwr M38 244 (((35 * a) + (7 * s19)) + e37) (v39 + v)) (fun M40 =>
  some ((.inl (s19 + 1)), M40)))))))
  else
  some ((.inl (s19 + 1)), M20))))) 0 M) f) Q := by
  obtain rfl := ea.e
  have b3 := h.tk.nf
  have b2 := h.tk.nh
  have l1 := h.lt
  refine h.foldK (N := T.nf) (by omega) (ywet1 T c v) ?_ (fun S' M' h' => by simp only [h'.rt.rNf, zob_some, yle_t, if_true]) hq
  intro f S' M' hf h'
  have k1 := h'.ok.cell c hc
  have k2 := h'.tk.fcell f hf
  simp only [h'.rt.rNf, zob_some, yle_f hf (show T.nf ≤ 200 by omega), if_false, h'.rt.rFcell h'.tk hf, h'.rCell hc, zi_eq (show T.fcell f < 2147483648 by omega) (show S'.cell c < 2147483648 by omega)]
  unfold ywet1
  by_cases e : T.fcell f = S'.cell c
  · simp only [e, if_true, h'.rGot hf, h'.wGot hf, zob_some]
    have h2 := h'.setGot f (S'.got f + v) (by omega)
    have f2 : zfr (yTR sl) M' (mup M' 243 (5 * sl + f) (S'.got f + v)) := zfr_mup (by unfold yTR; omega)
    rw [h2.rOwner hc, zob_some, show (yA.w_got S' (yu S'.got f (S'.got f + v))).owner c = S'.owner c from rfl]
    rcases yowner_cases h'.ok h'.tk hc with e1 | ⟨e1, e2, e3⟩
    · rw [if_pos e1, if_pos e1, mbd_some, show (6 : Int32) = Int32.ofNat 6 from rfl, h2.rRain (by decide) hf, zob_some, h2.wRained (by decide) hf, zob_some]
      refine zwp_ret ⟨rfl, ?_, zfr_trans f2 (zfr_mup (by unfold yTR; omega))⟩
      exact h2.setRain6 f _ (by omega)
    · rw [if_neg e1, if_neg e1]
      have e3' : ((yA.w_got S' (yu S'.got f (S'.got f + v))) : yA).owner c = Int32.ofNat (yown1 S' c) := e3
      rw [zob_some, e3, mbd_some, h2.rRained e2 hf, zob_some, h2.wRained (by omega) hf, zob_some]
      exact zwp_ret ⟨rfl, h2.setRained (yown1 S' c) f _ (by omega) (by omega), zfr_trans f2 (zfr_mup (by unfold yTR; omega))⟩
  · simp only [e, if_false]
    exact zwp_ret ⟨rfl, h', zfr_refl⟩
end

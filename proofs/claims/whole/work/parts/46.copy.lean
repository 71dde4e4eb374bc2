/-! a sky over another -/
theorem zwp_cp {α : Type} {Q : α → zMem → Prop} {M : zMem} {a b n : Nat} {nn : Int32} {f : zMem → Option (α × zMem)} (h1 : n ≤ (zds a).2) (h2 : n ≤ (zds b).2) (h3 : n < 1000)
    (q : ∀ M', (∀ i, i < n → M'.1 b i = M.1 a i) → (∀ k i, k ≠ b → M'.1 k i = M.1 k i) → zwp (f M') Q) (e : zN nn n := by with_reducible repeat (first | assumption | exact zn_of _ | exact zn_lit _ | apply zn_add | apply zn_mul)) : zwp (zob (mcp M a 0 b 0 nn) f) Q := by
  have en : nn.toNatClampNeg = n := by rw [e.e]; exact zi_cl (by omega)
  have e0 : (0 : Int32).toNatClampNeg = 0 := by decide
  have hn : ¬ nn < 0 := by rw [e.e]; exact zi_nn (by omega)
  unfold mcp
  rw [if_pos ⟨by decide, by decide, hn, by rw [en, e0]; omega, by rw [en, e0]; omega⟩, zob_some]
  refine q _ (fun i hi => ?_) (fun k i hk => ?_)
  · show (if b = b then va_cpy (M.1 a) (M.1 b) _ _ _ else M.1 b) i = _
    rw [if_pos rfl, en, e0]
    show (if 0 ≤ i ∧ i < 0 + n then M.1 a (0 + (i - 0)) else M.1 b i) = _
    have hc : 0 ≤ i ∧ i < 0 + n := ⟨by omega, by omega⟩
    rw [if_pos hc, show 0 + (i - 0) = i by omega]
  · show (if k = b then va_cpy (M.1 a) (M.1 b) _ _ _ else M.1 k) i = _
    rw [if_neg hk]
/-- rows below j are copied -/
def yCp (M M' : zMem) (s s' j : Nat) : Prop :=
  (∀ r i, 1 ≤ r → r < j → i < (zds (s + r)).2 → M'.1 (s + r) i = M.1 (s' + r) i) ∧
  (∀ k i, ¬ (s < k ∧ k < s + 19) → M'.1 k i = M.1 k i)
theorem yCp.row {M M' : zMem} {s s' j : Nat} (h : yCp M M' s s' j) : ∀ r i, 1 ≤ r → r < j → i < (zds (s + r)).2 → M'.1 (s + r) i = M.1 (s' + r) i := h.1
theorem yCp.off {M M' : zMem} {s s' j : Nat} (h : yCp M M' s s' j) : ∀ k i, ¬ (s < k ∧ k < s + 19) → M'.1 k i = M.1 k i := h.2
theorem yCp.step {α : Type} {Q : α → zMem → Prop} {M M1 : zMem} {s s' j n : Nat} {nn : Int32} {f : zMem → Option (α × zMem)} (h : yCp M M1 s s' j) (ds : s + 19 ≤ s' ∨ s' + 19 ≤ s) (h0 : 1 ≤ j) (h0' : j < 18) (h1 : (zds (s' + j)).2 = n) (h2 : (zds (s + j)).2 = n) (h3 : n < 1000)
    (q : ∀ M', yCp M M' s s' (j + 1) → zwp (f M') Q) (e : zN nn n := by with_reducible repeat (first | assumption | exact zn_of _ | exact zn_lit _ | apply zn_add | apply zn_mul)) : zwp (zob (mcp M1 (s' + j) 0 (s + j) 0 nn) f) Q := by
  refine zwp_cp (n := n) (by omega) (by omega) h3 (fun M' g1 g2 => q M' ⟨fun r i a1 a2 a3 => ?_, fun k i hk => ?_⟩)
  · by_cases er : r = j
    · subst er
      rw [g1 i (by omega), h.off _ _ (by omega)]
    · rw [g2 _ _ (by omega), h.row r i a1 (by omega) a3]
  · rw [g2 _ _ (by omega), h.off k i hk]
set_option maxHeartbeats 4000000 in
theorem c_copy {M : zMem} {s s' t : Nat} {o : Int32} {T : yT} {S : yA} (h : yCS M s' t o T S) (sp : ySP s) (ne : s ≠ s') : zwp (m_X5_copyFrom s s' M) (fun _ M' => yCS M' s t o T S ∧ zfr (yTC s) M M') := by
  have lo := ysp_lo sp
  have lo' := ysp_lo h.sp
  have ds : s + 19 ≤ s' ∨ s' + 19 ≤ s := by
    have a1 := sp
    have a2 := h.sp
    simp only [ySP, List.mem_cons, List.not_mem_nil, or_false] at a1 a2
    omega
  unfold m_X5_copyFrom
  simp only [mlt_eq, h.tp]
  have tt := h.ct.tt
  have k1 : (mup M s 14 (ztenc t)).1 s' 11 = Int32.ofNat S.hour := (mup_off (by omega)).trans h.hour
  have k2 : (mup (mup M s 14 (ztenc t)) s 11 ((mup M s 14 (ztenc t)).1 s' 11)).1 s' 12 = S.blown := by rw [mup_off (by omega), mup_off (by omega)]; exact h.blown
  have k3 : (mup (mup (mup M s 14 (ztenc t)) s 11 ((mup M s 14 (ztenc t)).1 s' 11)) s 12 ((mup (mup M s 14 (ztenc t)) s 11 ((mup M s 14 (ztenc t)).1 s' 11)).1 s' 12)).1 s' 13 = o := by rw [mup_off (by omega), mup_off (by omega), mup_off (by omega)]; exact h.ot
  rw [k3, k2, k1]
  generalize hM4 : mup (mup (mup (mup M s 14 (ztenc t)) s 11 (Int32.ofNat S.hour)) s 12 S.blown) s 13 o = M4
  have m4 : ∀ k i, k ≠ s → M4.1 k i = M.1 k i := fun k i hk => by
    subst hM4
    rw [mup_off hk, mup_off hk, mup_off hk, mup_off hk]
  have c0 : yCp M4 M4 s s' 1 := ⟨fun r i a1 a2 => by omega, fun _ _ _ => rfl⟩
  refine c0.step (n := 8) ds (by decide) (by decide) (ysp_8 h.sp (by decide) (by decide)) (ysp_8 sp (by decide) (by decide)) (by decide) (fun M5 c1 => ?_)
  refine c1.step (n := 8) ds (by decide) (by decide) (ysp_8 h.sp (by decide) (by decide)) (ysp_8 sp (by decide) (by decide)) (by decide) (fun M6 c2 => ?_)
  refine c2.step (n := 8) ds (by decide) (by decide) (ysp_8 h.sp (by decide) (by decide)) (ysp_8 sp (by decide) (by decide)) (by decide) (fun M7 c3 => ?_)
  refine c3.step (n := 8) ds (by decide) (by decide) (ysp_8 h.sp (by decide) (by decide)) (ysp_8 sp (by decide) (by decide)) (by decide) (fun M8 c4 => ?_)
  refine c4.step (n := 8) ds (by decide) (by decide) (ysp_8 h.sp (by decide) (by decide)) (ysp_8 sp (by decide) (by decide)) (by decide) (fun M9 c5 => ?_)
  refine c5.step (n := 8) ds (by decide) (by decide) (ysp_8 h.sp (by decide) (by decide)) (ysp_8 sp (by decide) (by decide)) (by decide) (fun M10 c6 => ?_)
  refine c6.step (n := 6) ds (by decide) (by decide) (ysp_6 h.sp (by decide) (by decide)) (ysp_6 sp (by decide) (by decide)) (by decide) (fun M11 c7 => ?_)
  refine c7.step (n := 6) ds (by decide) (by decide) (ysp_6 h.sp (by decide) (by decide)) (ysp_6 sp (by decide) (by decide)) (by decide) (fun M12 c8 => ?_)
  refine c8.step (n := 6) ds (by decide) (by decide) (ysp_6 h.sp (by decide) (by decide)) (ysp_6 sp (by decide) (by decide)) (by decide) (fun M13 c9 => ?_)
  refine c9.step (n := 5) ds (by decide) (by decide) (ysp_g h.sp) (ysp_g sp) (by decide) (fun M14 c10 => ?_)
  have rowlen : (zds (s + 11)).2 = 0 := by rw [(ysp_is sp).2.2.2.2.1.2]
  have c11 : yCp M4 M14 s s' 12 := ⟨fun r i a1 a2 a3 => by
    by_cases er : r = 11
    · subst er; omega
    · exact c10.row r i a1 (by omega) a3, c10.off⟩
  refine zwp_bd (Q' := fun _ M' => yCp M4 M' s s' 18) (zwp_for 0 6 (fun c st M' => st = Int32.ofNat c ∧ yCp M4 M' s s' (12 + c)) ?_ ?_ ⟨rfl, c11⟩ (Nat.zero_le _) (by decide)) ?_
  · rintro c st M' - hc ⟨rfl, hcp⟩
    have e1 : ¬ (6 : Int32) ≤ Int32.ofNat c := by rw [show (6 : Int32) = Int32.ofNat 6 from rfl, zi_le (by omega) (by omega)]; omega
    have e2 : ∀ q, mrw q (Int32.ofNat c) = some (q + 1 + c) := fun q => by
      unfold mrw
      rw [zi_cl (by omega), if_neg]
      rintro (e | e)
      · exact zi_nn (by omega) e
      · omega
    rw [if_neg e1, e2, zob_some, e2, zob_some]
    have r1 := ysp_r h.sp hc
    have r2 := ysp_r sp hc
    rw [show s' + 11 + 1 + c = s' + (12 + c) by omega, show s + 11 + 1 + c = s + (12 + c) by omega] at *
    refine hcp.step (n := 5) ds (by omega) (by omega) r1 r2 (by decide) (fun M'' c'' => ?_)
    exact zwp_ret ⟨yi_nn c, c''⟩
  · rintro st M' ⟨rfl, hcp⟩
    rw [if_pos (by decide)]
    exact zwp_ret hcp
  · rintro b M' hcp
    have fr : zfr (yTC s) M M' := fun k i hk => by
      have hk' : ¬ (s ≤ k ∧ k < s + 19) := hk
      rw [hcp.off k i (by omega), m4 k i (by omega)]
    have fl : ∀ i, M'.1 s i = M4.1 s i := fun i => hcp.off s i (by omega)
    have row : ∀ r i, 1 ≤ r → r < 18 → i < (zds (s + r)).2 → M'.1 (s + r) i = M.1 (s' + r) i := fun r i a1 a2 a3 => by
      rw [hcp.row r i a1 a2 a3, m4 _ _ (by omega)]
    have b1 := h.tk.nc
    have b2 := h.tk.nh
    have b3 := h.tk.nf
    have d8 : ∀ r i, 1 ≤ r → r < 7 → i < T.nc → M'.1 (s + r) i = M.1 (s' + r) i := fun r i a1 a2 a3 => row r i a1 (by omega) (by rw [ysp_8 sp a1 a2]; omega)
    have d6 : ∀ r i, 7 ≤ r → r < 10 → i < T.nh → M'.1 (s + r) i = M.1 (s' + r) i := fun r i a1 a2 a3 => row r i (by omega) (by omega) (by rw [ysp_6 sp a1 a2]; omega)
    refine zwp_ret ⟨⟨sp, h.tk, ?_, ?_, yct_fr h.ct fr (ytc_lo sp), h.ok, ?_, ?_, fun q hq => (d8 1 q (by decide) (by decide) hq).trans (h.x q hq), fun q hq => (d8 2 q (by decide) (by decide) hq).trans (h.y q hq), fun q hq => (d8 3 q (by decide) (by decide) hq).trans (h.size q hq), fun q hq => (d8 4 q (by decide) (by decide) hq).trans (h.age q hq), fun q hq => (d8 5 q (by decide) (by decide) hq).trans (h.owner q hq), fun q hq => (d8 6 q (by decide) (by decide) hq).trans (h.state q hq), fun q hq => (d6 7 q (by decide) (by decide) hq).trans (h.hx q hq), fun q hq => (d6 8 q (by decide) (by decide) hq).trans (h.hy q hq), fun q hq => (d6 9 q (by decide) (by decide) hq).trans (h.marks q hq), fun q hq => (row 10 q (by decide) (by decide) (by rw [ysp_g sp]; omega)).trans (h.got q hq), fun q f hq hf => ?_⟩, fr⟩
    · rw [fl]; subst hM4
      rw [mup_off' (by decide), mup_off' (by decide), mup_off' (by decide), mup_on]
      exact zt_enc tt
    · rw [fl]; subst hM4; exact mup_on
    · rw [fl]; subst hM4
      rw [mup_off' (by decide), mup_off' (by decide), mup_on]
    · rw [fl]; subst hM4
      rw [mup_off' (by decide), mup_on]
    · have r2 := ysp_r sp (j := q) (by omega)
      rw [show s + 11 + 1 + q = s + (12 + q) by omega] at r2 ⊢
      rw [row (12 + q) f (by omega) (by omega) (by omega), show s' + (12 + q) = s' + 11 + 1 + q by omega]
      exact h.rained q f hq hf
/-- the reference -/
theorem yfor {n : Nat} {N : Nat} {body : Int32 → zMem → Option ((Int32 ⊕ Int32) × zMem)} {α : Type} {f : Int32 → zMem → Option (α × zMem)} {Q : α → zMem → Prop} {M : zMem} (I : Nat → zMem → Prop) (h0 : I 0 M) (hn : n < N)
    (hs : ∀ c M', c < n → I c M' → zwp (body (Int32.ofNat c) M') (fun r M1 => r = .inl (Int32.ofNat c + 1) ∧ I (c + 1) M1))
    (he : ∀ M', I n M' → body (Int32.ofNat n) M' = some (.inr (Int32.ofNat n), M'))
    (hq : ∀ b M', I n M' → zwp (f b M') Q) : zwp (mbd (mlp N body 0 M) f) Q := by
  refine zwp_bd (Q' := fun _ M' => I n M') (zwp_for 0 n (fun c st M' => st = Int32.ofNat c ∧ I c M') ?_ ?_ ⟨rfl, h0⟩ (Nat.zero_le _) hn) (fun b M' h => hq b M' h)
  · rintro c st M' - hc ⟨rfl, h1⟩
    refine zwp_mono (hs c M' hc h1) ?_
    rintro r M1 ⟨rfl, q⟩
    exact ⟨yi_nn c, q⟩
  · rintro st M' ⟨rfl, h1⟩
    exact zwp_eq (he M' h1) h1
theorem yge {m : Int32} {c n : Nat} (h : c < n) (hn : n < 1000) (e : zN m n := by with_reducible repeat (first | assumption | exact zn_of _ | exact zn_lit _ | apply zn_add | apply zn_mul)) : ¬ m ≤ Int32.ofNat c := by rw [e.e, zi_le (by omega) (by omega)]; omega
set_option maxHeartbeats 8000000 in
theorem r_copies {M : zMem} {a b : Int32} {to sl : Nat} {o : Int32} {T : yT} {S : yA} (h : yRS M sl o T S) (ht : to < 23) (ne : to ≠ sl) (ea : zN a to := by with_reducible repeat (first | assumption | exact zn_of _ | exact zn_lit _ | apply zn_add | apply zn_mul)) (eb : zN b sl := by with_reducible repeat (first | assumption | exact zn_of _ | exact zn_lit _ | apply zn_add | apply zn_mul)) : zwp (m_X8_copies a b M) (fun _ M' => yRS M' to o T S ∧ zfr (yTR to) M M') := by
  obtain rfl := ea.e
  obtain rfl := eb.e
  have l1 := h.lt
  have b1 := h.tk.nc
  have b2 := h.tk.nh
  have b3 := h.tk.nf
  have fM : ∀ M', zfr (yTR to) M M' → ∀ k i, k ≠ 213 → yTR sl k i → M'.1 k i = M.1 k i := fun M' f k i hk hi => f k i (fun z => by unfold yTR at z hi; omega)
  unfold m_X8_copies
  rw [h.rHour, zob_some, mwr_of (k := 234) (j := to) (by show to < 23; omega) (by decide), zob_some]
  have f1 : zfr (yTR to) M (mup M 234 to (Int32.ofNat S.hour)) := zfr_mup (by unfold yTR; omega)
  rw [mrd_of (k := 235) (j := sl) (by show sl < 23; omega) (by decide), zob_some, mup_off (by decide), h.blown, mwr_of (k := 235) (j := to) (by show to < 23; omega) (by decide), zob_some]
  have f2 : zfr (yTR to) M (mup (mup M 234 to (Int32.ofNat S.hour)) 235 to S.blown) := zfr_trans f1 (zfr_mup (by unfold yTR; omega))
  have g1 : (mup (mup M 234 to (Int32.ofNat S.hour)) 235 to S.blown).1 234 to = Int32.ofNat S.hour := by rw [mup_off (by decide), mup_on]
  have g2 : (mup (mup M 234 to (Int32.ofNat S.hour)) 235 to S.blown).1 235 to = S.blown := mup_on
  generalize mup (mup M 234 to (Int32.ofNat S.hour)) 235 to S.blown = M2 at f2 g1 g2 ⊢
  refine yfor (n := 8) (fun c M' => zfr (yTR to) M M' ∧ (∀ k i, (k = 234 ∨ k = 235) → M'.1 k i = M2.1 k i) ∧ ∀ k j, 236 ≤ k → k ≤ 240 → j < c → M'.1 k (8 * to + j) = M.1 k (8 * sl + j)) ⟨f2, fun _ _ _ => rfl, fun k j _ _ hj => absurd hj (Nat.not_lt_zero _)⟩ (by decide) ?_ (fun M' _ => rfl) ?_
  · rintro c M' hc ⟨i1, i2, i3⟩
    rw [if_neg (yge (m := 8) hc (by decide))]
    have rd : ∀ (M1 : zMem) k, 236 ≤ k → k ≤ 240 → mrd M1 k (8 * Int32.ofNat sl + Int32.ofNat c) = some (M1.1 k (8 * sl + c)) := fun M1 k k1 k2 => by
      have : (zds k).2 = 184 := by
        have : k = 236 ∨ k = 237 ∨ k = 238 ∨ k = 239 ∨ k = 240 := by omega
        rcases this with rfl | rfl | rfl | rfl | rfl <;> rfl
      exact mrd_of (j := 8 * sl + c) (by omega) (by omega)
    have wr : ∀ (M1 : zMem) k v, 236 ≤ k → k ≤ 240 → mwr M1 k (8 * Int32.ofNat to + Int32.ofNat c) v = some (mup M1 k (8 * to + c) v) := fun M1 k v k1 k2 => by
      have : (zds k).2 = 184 := by
        have : k = 236 ∨ k = 237 ∨ k = 238 ∨ k = 239 ∨ k = 240 := by omega
        rcases this with rfl | rfl | rfl | rfl | rfl <;> rfl
      exact mwr_of (j := 8 * to + c) (by omega) (by omega)
    simp only [rd _ 236 (by decide) (by decide), rd _ 237 (by decide) (by decide), rd _ 238 (by decide) (by decide), rd _ 239 (by decide) (by decide), rd _ 240 (by decide) (by decide), wr _ 236 _ (by decide) (by decide), wr _ 237 _ (by decide) (by decide), wr _ 238 _ (by decide) (by decide), wr _ 239 _ (by decide) (by decide), wr _ 240 _ (by decide) (by decide), zob_some]
    have src : ∀ k, 236 ≤ k → k ≤ 240 → M'.1 k (8 * sl + c) = M.1 k (8 * sl + c) := fun k k1 k2 => fM M' i1 k _ (by omega) (by unfold yTR; omega)
    simp only [mup_off (show (237 : Nat) ≠ 236 by decide), mup_off (show (238 : Nat) ≠ 236 by decide), mup_off (show (238 : Nat) ≠ 237 by decide), mup_off (show (239 : Nat) ≠ 236 by decide), mup_off (show (239 : Nat) ≠ 237 by decide), mup_off (show (239 : Nat) ≠ 238 by decide), mup_off (show (240 : Nat) ≠ 236 by decide), mup_off (show (240 : Nat) ≠ 237 by decide), mup_off (show (240 : Nat) ≠ 238 by decide), mup_off (show (240 : Nat) ≠ 239 by decide), src 236 (by decide) (by decide), src 237 (by decide) (by decide), src 238 (by decide) (by decide), src 239 (by decide) (by decide), src 240 (by decide) (by decide)]
    refine zwp_ret ⟨rfl, zfr_trans i1 (zfr_trans (zfr_trans (zfr_trans (zfr_trans (zfr_mup ?_) (zfr_mup ?_)) (zfr_mup ?_)) (zfr_mup ?_)) (zfr_mup ?_)), fun k i hk => ?_, fun k j k1 k2 hj => ?_⟩
    all_goals first | (unfold yTR; omega) | skip
    · rw [mup_off (by omega), mup_off (by omega), mup_off (by omega), mup_off (by omega), mup_off (by omega)]; exact i2 k i hk
    · by_cases ej : j = c
      · subst ej
        have : k = 236 ∨ k = 237 ∨ k = 238 ∨ k = 239 ∨ k = 240 := by omega
        rcases this with rfl | rfl | rfl | rfl | rfl
        · rw [mup_off (by decide), mup_off (by decide), mup_off (by decide), mup_off (by decide), mup_on]
        · rw [mup_off (by decide), mup_off (by decide), mup_off (by decide), mup_on]
        · rw [mup_off (by decide), mup_off (by decide), mup_on]
        · rw [mup_off (by decide), mup_on]
        · rw [mup_on]
      · rw [mup_off' (by omega), mup_off' (by omega), mup_off' (by omega), mup_off' (by omega), mup_off' (by omega)]
        exact i3 k j k1 k2 (by omega)
  rintro _ M3 ⟨f3, t3, p3⟩
  refine yfor (n := 6) (fun c M' => zfr (yTR to) M M' ∧ (∀ k i, (234 ≤ k ∧ k ≤ 240) → M'.1 k i = M3.1 k i) ∧ ∀ k j, (k = 241 ∨ k = 242) → j < c → M'.1 k (6 * to + j) = M.1 k (6 * sl + j)) ⟨f3, fun _ _ _ => rfl, fun k j _ hj => absurd hj (Nat.not_lt_zero _)⟩ (by decide) ?_ (fun M' _ => rfl) ?_
  · rintro c M' hc ⟨i1, i2, i3⟩
    rw [if_neg (yge (m := 6) hc (by decide)), mrd_of (k := 241) (j := 6 * sl + c) (by show _ < 138; omega) (by decide), zob_some, mwr_of (k := 241) (j := 6 * to + c) (by show _ < 138; omega) (by decide), zob_some, mrd_of (k := 242) (j := 6 * sl + c) (by show _ < 138; omega) (by decide), zob_some, mwr_of (k := 242) (j := 6 * to + c) (by show _ < 138; omega) (by decide), zob_some]
    rw [mup_off (show (242 : Nat) ≠ 241 by decide), fM M' i1 241 (6 * sl + c) (by decide) (by unfold yTR; omega), fM M' i1 242 (6 * sl + c) (by decide) (by unfold yTR; omega)]
    refine zwp_ret ⟨rfl, zfr_trans i1 (zfr_trans (zfr_mup (by unfold yTR; omega)) (zfr_mup (by unfold yTR; omega))), fun k i hk => ?_, fun k j hk hj => ?_⟩
    · rw [mup_off (by omega), mup_off (by omega)]; exact i2 k i hk
    · by_cases ej : j = c
      · subst ej
        rcases hk with rfl | rfl
        · rw [mup_off (by decide), mup_on]
        · rw [mup_on]
      · rw [mup_off' (by omega), mup_off' (by omega)]; exact i3 k j hk (by omega)
  rintro _ M4 ⟨f4, t4, p4⟩
  refine yfor (n := 5) (fun c M' => zfr (yTR to) M M' ∧ (∀ k i, (234 ≤ k ∧ k ≤ 242) → M'.1 k i = M4.1 k i) ∧ ∀ j, j < c → M'.1 243 (5 * to + j) = M.1 243 (5 * sl + j)) ⟨f4, fun _ _ _ => rfl, fun j hj => absurd hj (Nat.not_lt_zero _)⟩ (by decide) ?_ (fun M' _ => rfl) ?_
  · rintro c M' hc ⟨i1, i2, i3⟩
    rw [if_neg (yge (m := 5) hc (by decide)), mrd_of (k := 243) (j := 5 * sl + c) (by show _ < 115; omega) (by decide), zob_some, mwr_of (k := 243) (j := 5 * to + c) (by show _ < 115; omega) (by decide), zob_some]
    rw [fM M' i1 243 (5 * sl + c) (by decide) (by unfold yTR; omega)]
    refine zwp_ret ⟨rfl, zfr_trans i1 (zfr_mup (by unfold yTR; omega)), fun k i hk => ?_, fun j hj => ?_⟩
    · rw [mup_off (by omega)]; exact i2 k i hk
    · by_cases ej : j = c
      · subst ej; rw [mup_on]
      · rw [mup_off' (by omega)]; exact i3 j (by omega)
  rintro _ M5 ⟨f5, t5, p5⟩
  refine yfor (n := 35) (fun c M' => zfr (yTR to) M M' ∧ (∀ k i, (234 ≤ k ∧ k ≤ 243) → M'.1 k i = M5.1 k i) ∧ ∀ j, j < c → M'.1 244 (35 * to + j) = M.1 244 (35 * sl + j)) ⟨f5, fun _ _ _ => rfl, fun j hj => absurd hj (Nat.not_lt_zero _)⟩ (by decide) ?_ (fun M' _ => rfl) ?_
  · rintro c M' hc ⟨i1, i2, i3⟩
    rw [if_neg (yge (m := 35) hc (by decide)), mrd_of (k := 244) (j := 35 * sl + c) (by show _ < 805; omega) (by decide), zob_some, mwr_of (k := 244) (j := 35 * to + c) (by show _ < 805; omega) (by decide), zob_some]
    rw [fM M' i1 244 (35 * sl + c) (by decide) (by unfold yTR; omega)]
    refine zwp_ret ⟨rfl, zfr_trans i1 (zfr_mup (by unfold yTR; omega)), fun k i hk => ?_, fun j hj => ?_⟩
    · rw [mup_off (by omega)]; exact i2 k i hk
    · by_cases ej : j = c
      · subst ej; rw [mup_on]
      · rw [mup_off' (by omega)]; exact i3 j (by omega)
  rintro _ M6 ⟨f6, t6, p6⟩
  have q8 : ∀ k j, 236 ≤ k → k ≤ 240 → j < 8 → M6.1 k (8 * to + j) = M.1 k (8 * sl + j) := fun k j k1 k2 hj => by
    rw [t6 _ _ (by omega), t5 _ _ (by omega), t4 _ _ (by omega)]; exact p3 k j k1 k2 hj
  have q6 : ∀ k j, (k = 241 ∨ k = 242) → j < 6 → M6.1 k (6 * to + j) = M.1 k (6 * sl + j) := fun k j k1 hj => by
    rw [t6 _ _ (by omega), t5 _ _ (by omega)]; exact p4 k j k1 hj
  have n213 : ∀ i, i ≠ 35 → M6.1 213 i = M.1 213 i := fun i hi => f6 _ _ (by unfold yTR; omega)
  refine zwp_ret ⟨⟨ht, h.tk, (n213 49 (by decide)).trans h.ot, yrt_fr h.rt f6 ytr_lo, h.ok, ?_, ?_, fun q hq => (q8 236 q (by decide) (by decide) (by omega)).trans (h.cell q hq), fun q hq => (q8 237 q (by decide) (by decide) (by omega)).trans (h.size q hq), fun q hq => (q8 238 q (by decide) (by decide) (by omega)).trans (h.age q hq), fun q hq => (q8 239 q (by decide) (by decide) (by omega)).trans (h.owner q hq), fun q hq => ?_, fun q hq => (q6 241 q (Or.inl rfl) (by omega)).trans (h.pos q hq), fun q hq => (q6 242 q (Or.inr rfl) (by omega)).trans (h.marks q hq), fun q hq => ?_, fun q f hq hf => ?_⟩, f6⟩
  · rw [t6 _ _ (by omega), t5 _ _ (by omega), t4 _ _ (by omega), t3 _ _ (by omega)]; exact g1
  · rw [t6 _ _ (by omega), t5 _ _ (by omega), t4 _ _ (by omega), t3 _ _ (by omega)]; exact g2
  · rw [n213 50 (by decide), q8 240 q (by decide) (by decide) (by omega)]; exact h.state q hq
  · rw [t6 _ _ (by omega), p5 q (by omega)]; exact h.got q hq
  · rw [Nat.add_assoc, p6 (7 * f + q) (by omega), ← Nat.add_assoc]; exact h.rained q f hq hf

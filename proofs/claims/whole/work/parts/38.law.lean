/-! laws: their knots worked out -/
abbrev ybad (v : Int64) : Prop := 1000000000000 < v ∨ v < -1000000000000
def ycb (o : Nat) (x y : Int64) : Int64 :=
  if o = 23 then x + y else if o = 24 then x - y
  else if o = 25 then (if x = 0 then x * y else if zabL y ≤ 1000000000000 / zabL x then x * y else -9223372036854775808)
  else if o = 26 then (if y = 0 then -9223372036854775808 else x / y)
  else if o = 27 then (if y ≤ x then 0 else 1) else if o = 28 then (if y < x then 0 else 1)
  else if o = 29 then (if x = y then 1 else 0) else if o = 30 then (if x = y then 0 else 1)
  else if o = 31 then (if x < y then 0 else 1) else if o = 32 then (if x ≤ y then 0 else 1)
  else if o = 14 then (if x = 0 then 0 else if y = 0 then 0 else 1)
  else (if x = 0 then (if y = 0 then 0 else 1) else 1)
def yev (nm : Nat → Int64) : List yK → (Nat → Int64) → Nat → Option Int64
  | [], f, _ => some (f 0)
  | .inl v :: l, f, d => yev nm l (yu f d (Int32.toInt64 v)) (d + 1)
  | .inr (.inl i) :: l, f, d => yev nm l (yu f d (nm i)) (d + 1)
  | .inr (.inr o) :: l, f, d => if o = 15 then yev nm l (yu f (d - 1) (if f (d - 1) = 0 then 1 else 0)) d
      else if ybad (ycb o (f (d - 2)) (f (d - 1))) then none
      else yev nm l (yu f (d - 2) (ycb o (f (d - 2)) (f (d - 1)))) (d - 1)
theorem yu_congr {γ : Type} {f g : Nat → γ} {d e : Nat} {v : γ} (h : ∀ j, j < d → f j = g j) (he : e ≤ d) : ∀ j, j < e + 1 → yu f e v j = yu g e v j := by
  intro j hj
  unfold yu
  split
  · rfl
  · exact h j (by omega)
theorem yev_congr {nm : Nat → Int64} : ∀ (l : List yK) (f g : Nat → Int64) (d : Nat), (∀ j, j < d → f j = g j) → ywf l d → yev nm l f d = yev nm l g d := by
  intro l
  induction l with
  | nil =>
    intro f g d h hw
    have : d = 1 := hw
    show some (f 0) = some (g 0)
    rw [h 0 (by omega)]
  | cons q l ih =>
    intro f g d h hw
    rcases q with v | i | o
    · exact ih _ _ (d + 1) (yu_congr h (Nat.le_refl _)) hw.2
    · exact ih _ _ (d + 1) (yu_congr h (Nat.le_refl _)) hw.2
    ·
      show (if o = 15 then _ else _) = (if o = 15 then _ else _)
      rcases hw with ⟨rfl, h1, h2⟩ | ⟨ho, h1, h2⟩
      · rw [if_pos rfl, if_pos rfl, h (d - 1) (by omega)]
        exact ih _ _ d (fun j hj => yu_congr h (show d - 1 ≤ d by omega) j (by omega)) h2
      · have o15 : ¬ o = 15 := by omega
        simp only [o15, if_false, h (d - 1) (show d - 1 < d by omega), h (d - 2) (show d - 2 < d by omega)]
        split
        · rfl
        · exact ih _ _ (d - 1) (fun j hj => yu_congr h (show d - 2 ≤ d by omega) j (by omega)) h2
theorem yev_good {nm : Nat → Int64} (hn : ∀ i, ¬ ybad (nm i)) : ∀ (l : List yK) (f : Nat → Int64) (d : Nat) (v : Int64), (∀ j, j < d → ¬ ybad (f j)) → ywf l d → yev nm l f d = some v → ¬ ybad v := by
  have up : ∀ (f : Nat → Int64) (d e : Nat) (v : Int64), (∀ j, j < d → ¬ ybad (f j)) → e ≤ d → ¬ ybad v → ∀ j, j < e + 1 → ¬ ybad (yu f e v j) := by
    intro f d e v h he hv j hj
    unfold yu
    split
    · exact hv
    · exact h j (by omega)
  have nb : ∀ v : Int32, ¬ ybad (Int32.toInt64 v) := by
    intro v
    unfold ybad
    rw [Int64.lt_iff_toInt_lt, Int64.lt_iff_toInt_lt, Int32.toInt_toInt64]
    have h1 := Int32.toInt_lt v
    have h2 := Int32.le_toInt v
    have e1 : Int64.toInt 1000000000000 = 1000000000000 := by decide
    have e2 : Int64.toInt (-1000000000000) = -1000000000000 := by decide
    omega
  intro l
  induction l with
  | nil =>
    intro f d v h hw e
    have : d = 1 := hw
    cases e
    exact h 0 (by omega)
  | cons q l ih =>
    intro f d v h hw e
    rcases q with w | i | o
    · exact ih _ (d + 1) v (up f d d _ h (Nat.le_refl _) (nb w)) hw.2 e
    · exact ih _ (d + 1) v (up f d d _ h (Nat.le_refl _) (hn i)) hw.2 e
    ·
      have e : (if o = 15 then yev nm l (yu f (d - 1) (if f (d - 1) = 0 then 1 else 0)) d
        else if ybad (ycb o (f (d - 2)) (f (d - 1))) then none
        else yev nm l (yu f (d - 2) (ycb o (f (d - 2)) (f (d - 1)))) (d - 1)) = some v := e
      rcases hw with ⟨rfl, h1, h2⟩ | ⟨ho, h1, h2⟩
      · rw [if_pos rfl] at e
        refine ih _ d v (fun j hj => up f d (d - 1) _ h (by omega) ?_ j (by omega)) h2 e
        split <;> decide
      · rw [if_neg (by omega)] at e
        by_cases hb : ybad (ycb o (f (d - 2)) (f (d - 1)))
        · rw [if_pos hb] at e; cases e
        · rw [if_neg hb] at e
          exact ih _ (d - 1) v (fun j hj => up f d (d - 2) _ h (by omega) hb j (by omega)) h2 e
theorem yabL_ne {x : Int64} (h : ¬ x = 0) : ¬ zabL x = 0 := by
  unfold zabL
  split
  · exact h
  · intro e
    apply h
    have := congrArg (fun z => -z) e
    simpa using this
theorem yabL_0 : zabL 0 = 0 := by decide
theorem yabL_if (x : Int64) : (if 0 ≤ lg_cmp x 0 then x else -x) = zabL x := by
  unfold zabL
  by_cases e : x = 0
  · subst e; decide
  · simp only [lg_cmp_ge]
    by_cases e2 : 0 < x
    · rw [if_pos e2, if_pos (Int64.le_of_lt e2)]
    · rw [if_neg e2, if_neg (fun z => e (Int64.le_antisymm (Int64.not_lt.mp e2) z))]
theorem c_combined {M : zMem} {o : Nat} (ho : o = 13 ∨ o = 14 ∨ (23 ≤ o ∧ o ≤ 32)) (x y : Int64) : m_X2_combined (Int32.ofNat o) x y M = some (ycb o x y, M) := by
  unfold m_X2_combined ycb
  rw [ymbd_ite, ymbd_ite, yabL_if, yabL_if]
  simp only [lg_cmp_ge, lg_cmp_le, lg_cmp_gt, lg_cmp_lt, lg_cmp_eq]
  have hh : o = 13 ∨ o = 14 ∨ o = 23 ∨ o = 24 ∨ o = 25 ∨ o = 26 ∨ o = 27 ∨ o = 28 ∨ o = 29 ∨ o = 30 ∨ o = 31 ∨ o = 32 := by omega
  rcases hh with rfl | rfl | rfl | rfl | rfl | rfl | rfl | rfl | rfl | rfl | rfl | rfl
  all_goals simp (config := { decide := true }) only [if_true, if_false]
  · split
    · split <;> rfl
    · rfl
  · split
    · rfl
    · split <;> rfl
  · by_cases e : x = 0
    · simp only [e, yabL_0, if_true]
    · simp only [e, if_false, zdl, yabL_ne e, zob_some]
      split <;> rfl
  · by_cases e : y = 0
    · simp only [e, if_true]
    · simp only [e, if_false, zdl, zob_some]
  all_goals (split <;> rfl)
theorem yi_sub {d j : Nat} (h : j ≤ d) : Int32.ofNat d - Int32.ofNat j = Int32.ofNat (d - j) := by
  have e : d = (d - j) + j := by omega
  conv => lhs; lhs; rw [e, Int32.ofNat_add]
  exact Int32.add_sub_cancel _ _
theorem yi_m1 {d : Nat} (h : 1 ≤ d) : Int32.ofNat d - 1 = Int32.ofNat (d - 1) := yi_sub h
theorem yi_m2 {d : Nat} (h : 2 ≤ d) : Int32.ofNat d - 2 = Int32.ofNat (d - 2) := yi_sub h
theorem yi_a1 {d : Nat} (h : 1 ≤ d) : Int32.ofNat d + -1 = Int32.ofNat (d - 1) := by rw [← yi_m1 h, Int32.sub_eq_add_neg]
theorem yi_a2 {d : Nat} (h : 2 ≤ d) : Int32.ofNat d + -2 = Int32.ofNat (d - 2) := by rw [← yi_m2 h, Int32.sub_eq_add_neg]
theorem yxx (x : Int32) : (x ^^^ -1) ^^^ -1 = x := by rw [Int32.xor_assoc, Int32.xor_self, Int32.xor_zero]
theorem yneg {v : Int32} (h : ¬ v < 0) : (v ^^^ -1) < 0 := by
  rw [Int32.xor_neg_one]
  rw [Int32.lt_iff_toInt_lt] at h ⊢
  have e0 : Int32.toInt 0 = 0 := by decide
  have e1 : ~~~v = -v - 1 := by
    have := Int32.neg_eq_not_add (a := v)
    rw [this]
    exact (Int32.add_sub_cancel _ _).symm
  have b1 := Int32.toInt_lt v
  have e2 : -v - 1 = Int32.ofInt (-v.toInt - 1) := by
    rw [Int32.ofInt_sub, Int32.ofInt_neg, Int32.ofInt_toInt]; rfl
  rw [e1, e2, Int32.toInt_ofInt_of_le (by omega) (by omega)]
  omega
/-- a worked-out list of knots, the class -/
theorem yCT.rKnot {M : zMem} {t : Nat} {T : yT} (h : yCT M t T) {a j : Nat} (hj : a + j < 64) : mrd M (t + 13 + 1) (Int32.ofNat (a + j)) = some (M.1 (t + 13 + 1) (a + j)) := by
  have d := ztt_n h.tt 14 64 ⟨rfl, rfl⟩
  exact mrd_of (j := a + j) (by show _ < (zds (t + 14)).2; omega) (by show (zds (t + 14)).2 < _; omega)
theorem yst_r {M : zMem} {t : Nat} (h : zIT t) {j : Nat} (hj : j < 64) : mrdL M (t + 13 + 4) (Int32.ofNat j) = some (M.2 (t + 13 + 4) j) := by
  have d := ztt_n h 17 64 ⟨rfl, rfl⟩
  exact mrdL_of (j := j) (by show _ < (zds (t + 17)).2; omega) (by show (zds (t + 17)).2 < _; omega)
theorem yst_w {M : zMem} {t : Nat} (h : zIT t) {j : Nat} (hj : j < 64) (v : Int64) : mwrL M (t + 13 + 4) (Int32.ofNat j) v = some (mupL M (t + 13 + 4) j v) := by
  have d := ztt_n h 17 64 ⟨rfl, rfl⟩
  exact mwrL_of (j := j) (by show _ < (zds (t + 17)).2; omega) (by show (zds (t + 17)).2 < _; omega)
theorem ynb (v : Int32) : ¬ ybad (Int32.toInt64 v) := by
  unfold ybad
  rw [Int64.lt_iff_toInt_lt, Int64.lt_iff_toInt_lt, Int32.toInt_toInt64]
  have h1 := Int32.toInt_lt v
  have h2 := Int32.le_toInt v
  have e1 : Int64.toInt 1000000000000 = 1000000000000 := by decide
  have e2 : Int64.toInt (-1000000000000) = -1000000000000 := by decide
  omega
theorem ybad_g {v : Int64} (h : ¬ ybad v) : ¬ (0 < lg_cmp v 1000000000000) ∧ ¬ (lg_cmp v (-1000000000000) < 0) := by
  rw [lg_cmp_gt, lg_cmp_lt]
  exact ⟨fun e => h (Or.inl e), fun e => h (Or.inr e)⟩
theorem yul_at {M : zMem} {k j : Nat} {v : Int64} {f : Nat → Int64} {d : Nat} (hf : ∀ i, i < d → M.2 k i = f i) (hj : j ≤ d) : ∀ i, i < j + 1 → (mupL M k j v).2 k i = yu f j v i := by
  intro i hi
  rw [mupL_at, yu]
  by_cases e : i = j
  · rw [if_pos ⟨rfl, e⟩, if_pos e]
  · rw [if_neg (fun z => e z.2), if_neg e, hf i (by omega)]
set_option maxHeartbeats 4000000 in
theorem c_worth {M : zMem} {t a2 : Nat} {T : yT} (h : yCT M t T) (tk : yTok T) {k : Nat} (hk : k < 3) (hw : ywf (T.law k) 0) {nm : Nat → Int32} (ha : (zds a2).2 = 7) (hn : ∀ i, i < 7 → M.1 a2 i = nm i) :
    zwp (m_X2_worth t (Int32.ofNat k) a2 M) (fun v M' => M'.1 = M.1 ∧ v = (yev (fun i => Int32.toInt64 (nm i)) (T.law k) (fun _ => 0) 0).getD (-9223372036854775808)) := by
  obtain ⟨a, l1, l2, l3, l4⟩ := h.law k hk
  have dF := ztt_n h.tt 15 3 ⟨rfl, rfl⟩
  have dT := ztt_n h.tt 16 3 ⟨rfl, rfl⟩
  have rF : ∀ M' : zMem, M'.1 = M.1 → mrd M' (t + 13 + 2) (Int32.ofNat k) = some (Int32.ofNat a) := fun M' e => by
    rw [mrd_of (k := t + 13 + 2) (j := k) (by show _ < (zds (t + 15)).2; omega) (by show (zds (t + 15)).2 < _; omega), e, l2]
  have rT : ∀ M' : zMem, M'.1 = M.1 → mrd M' (t + 13 + 3) (Int32.ofNat k) = some (Int32.ofNat (a + (T.law k).length)) := fun M' e => by
    rw [mrd_of (k := t + 13 + 3) (j := k) (by show _ < (zds (t + 16)).2; omega) (by show (zds (t + 16)).2 < _; omega), e, l3]
  have rK : ∀ M' : zMem, M'.1 = M.1 → ∀ j, (hj : j < (T.law k).length) → mrd M' (t + 13 + 1) (Int32.ofNat (a + j)) = some (yKc ((T.law k)[j])) := fun M' e j hj => by
    have d := ztt_n h.tt 14 64 ⟨rfl, rfl⟩
    rw [mrd_of (k := t + 13 + 1) (j := a + j) (by show _ < (zds (t + 14)).2; omega) (by show (zds (t + 14)).2 < _; omega), e, l4 j hj]
  have rN : ∀ M' : zMem, M'.1 = M.1 → ∀ i, i < 7 → mrd M' a2 (Int32.ofNat i) = some (nm i) := fun M' e i hi => by
    rw [mrd_of (j := i) (by omega) (by omega), e, hn i hi]
  generalize hR : (yev (fun i => Int32.toInt64 (nm i)) (T.law k) (fun _ => 0) 0) = R
  unfold m_X2_worth
  rw [rF M rfl, zob_some]
  refine zwp_bd (Q' := fun b M' => M'.1 = M.1 ∧ match b with
      | .inl st => st.1 = 1 ∧ R = some (M'.2 (t + 13 + 4) 0)
      | .inr r => r = R.getD (-9223372036854775808)) (zwp_for 0 (T.law k).length (fun c st M' => M'.1 = M.1 ∧ ∃ f d, d ≤ c ∧ st = (Int32.ofNat d, Int32.ofNat (a + c)) ∧ (∀ j, j < d → M'.2 (t + 13 + 4) j = f j) ∧ ywf ((T.law k).drop c) d ∧ yev (fun i => Int32.toInt64 (nm i)) ((T.law k).drop c) f d = R) ?_ ?_ ⟨rfl, fun _ => 0, 0, Nat.le_refl _, rfl, fun j hj => absurd hj (Nat.not_lt_zero _), hw, hR⟩ (Nat.zero_le _) (by have : zLF = 100000 := rfl; omega)) ?_
  · rintro c st M' - hc ⟨hM, f, d, hd, rfl, hf, hwf, hev⟩
    have hb : ¬ (Int32.ofNat (a + (T.law k).length) ≤ Int32.ofNat (a + c)) := by
      rw [zi_le (by omega) (by omega)]; omega
    have push : ∀ (e : Nat) (v : Int64), e ≤ d → ¬ ybad v → yev (fun i => Int32.toInt64 (nm i)) ((T.law k).drop (c + 1)) (yu f e v) (e + 1) = R → ywf ((T.law k).drop (c + 1)) (e + 1) →
        zwp (if 0 < lg_cmp v 1000000000000 then some (Sum.inr (Sum.inr (-9223372036854775808)), M') else if lg_cmp v (-1000000000000) < 0 then some (Sum.inr (Sum.inr (-9223372036854775808)), M') else if Int32.ofNat e < 64 then zob (mwrL M' (t + 13 + 4) (Int32.ofNat e) v) (fun M37 => some (Sum.inl (Int32.ofNat e + 1, Int32.ofNat (a + c) + 1), M37)) else some (Sum.inr (Sum.inr (-9223372036854775808)), M'))
          (fun (r : (Int32 × Int32) ⊕ ((Int32 × Int32) ⊕ Int64)) M1 => match r with
            | .inl s1 => M1.1 = M.1 ∧ ∃ f d, d ≤ c + 1 ∧ s1 = (Int32.ofNat d, Int32.ofNat (a + (c + 1))) ∧ (∀ j, j < d → M1.2 (t + 13 + 4) j = f j) ∧ ywf ((T.law k).drop (c + 1)) d ∧ yev (fun i => Int32.toInt64 (nm i)) ((T.law k).drop (c + 1)) f d = R
            | .inr b => M1.1 = M.1 ∧ match b with
              | .inl st => st.1 = 1 ∧ R = some (M1.2 (t + 13 + 4) 0)
              | .inr r => r = R.getD (-9223372036854775808)) := by
      intro e v hle hv he hw'
      have d64 : Int32.ofNat e < 64 := by rw [show (64 : Int32) = Int32.ofNat 64 from rfl, zi_lt (by omega) (by omega)]; omega
      rw [if_neg (ybad_g hv).1, if_neg (ybad_g hv).2, if_pos d64, yst_w h.tt (by omega), zob_some]
      refine zwp_ret ⟨hM, yu f e v, e + 1, by omega, by rw [yi_nn, yi_nn]; rfl, ?_, hw', he⟩
      exact yul_at hf hle
    have err : ∀ (e : Nat) (v : Int64), ybad v → R = none →
        zwp (if 0 < lg_cmp v 1000000000000 then some (Sum.inr (Sum.inr (-9223372036854775808)), M') else if lg_cmp v (-1000000000000) < 0 then some (Sum.inr (Sum.inr (-9223372036854775808)), M') else if Int32.ofNat e < 64 then zob (mwrL M' (t + 13 + 4) (Int32.ofNat e) v) (fun M37 => some (Sum.inl (Int32.ofNat e + 1, Int32.ofNat (a + c) + 1), M37)) else some (Sum.inr (Sum.inr (-9223372036854775808)), M'))
          (fun (r : (Int32 × Int32) ⊕ ((Int32 × Int32) ⊕ Int64)) M1 => match r with
            | .inl s1 => M1.1 = M.1 ∧ ∃ f d, d ≤ c + 1 ∧ s1 = (Int32.ofNat d, Int32.ofNat (a + (c + 1))) ∧ (∀ j, j < d → M1.2 (t + 13 + 4) j = f j) ∧ ywf ((T.law k).drop (c + 1)) d ∧ yev (fun i => Int32.toInt64 (nm i)) ((T.law k).drop (c + 1)) f d = R
            | .inr b => M1.1 = M.1 ∧ match b with
              | .inl st => st.1 = 1 ∧ R = some (M1.2 (t + 13 + 4) 0)
              | .inr r => r = R.getD (-9223372036854775808)) := by
      intro e v hv hR
      by_cases g1 : 0 < lg_cmp v 1000000000000
      · rw [if_pos g1]; exact zwp_ret ⟨hM, by rw [hR]; rfl⟩
      · have g2 : lg_cmp v (-1000000000000) < 0 := by
          rw [lg_cmp_gt] at g1
          rw [lg_cmp_lt]
          exact hv.resolve_left g1
        rw [if_neg g1, if_pos g2]; exact zwp_ret ⟨hM, by rw [hR]; rfl⟩
    rw [List.drop_eq_getElem_cons hc] at hwf hev
    simp only [rT M' hM, rK M' hM c hc, zob_some, hb, if_false]
    generalize (T.law k)[c] = q at hwf hev ⊢
    rcases q with v | i | o
    ·
      have h1 := yneg hwf.1
      have h2 : (v ^^^ -1) < 16 := Int32.lt_trans h1 (by decide)
      have h3 : ¬ (v ^^^ -1) = 15 := fun e => by rw [e] at h1; exact absurd h1 (by decide)
      simp only [yKc, h2, h3, h1, if_true, if_false, mbd_some, zsl_l]
      refine zwp_mono (push d _ (Nat.le_refl _) (ynb v) hev hwf.2) (fun r M1 q => ?_)
      rcases r with r | r | r <;> exact q
    ·
      have hi := hwf.1
      have h1 : ∀ i, i < 7 → ¬ (Int32.ofNat (16 + i) < 16) ∧ ¬ ((22 : Int32) < Int32.ofNat (16 + i)) ∧ Int32.ofNat (16 + i) - 16 = Int32.ofNat i := by decide
      obtain ⟨g1, g2, g3⟩ := h1 i hi
      simp only [yKc, yxx, g1, g2, g3, if_true, if_false, rN M' hM i hi, zob_some, mbd_some]
      refine zwp_mono (push d _ (Nat.le_refl _) (ynb _) hev hwf.2) (fun r M1 q => ?_)
      rcases r with r | r | r <;> exact q
    ·
      have hd64 : d < 64 := by omega
      rcases hwf with ⟨rfl, h1, h2⟩ | ⟨ho, h1, h2⟩
      · have g1 : ¬ (Int32.ofNat d < 1) := by rw [show (1 : Int32) = Int32.ofNat 1 from rfl, zi_lt (by omega) (by omega)]; omega
        have hev' : yev (fun i => Int32.toInt64 (nm i)) ((T.law k).drop (c + 1)) (yu f (d - 1) (if f (d - 1) = 0 then 1 else 0)) (d - 1 + 1) = R := by
          rw [show d - 1 + 1 = d by omega]; exact hev
        have h2' : ywf ((T.law k).drop (c + 1)) (d - 1 + 1) := by rw [show d - 1 + 1 = d by omega]; exact h2
        have c1 : (Int32.ofNat 15 < 16) = True := by decide
        have c2 : (Int32.ofNat 15 = 15) = True := by decide
        simp only [yKc, yxx, c1, c2, if_true, g1, if_false, yi_a1 h1, yst_r h.tt (show d - 1 < 64 by omega), zob_some, hf (d - 1) (by omega), lg_cmp_eq]
        by_cases z : f (d - 1) = 0
        · simp only [z, if_true, mbd_some, zsl_r]
          rw [if_pos z] at hev'
          refine zwp_mono (push (d - 1) 1 (by omega) (by decide) hev' h2') (fun r M1 q => ?_)
          rcases r with r | r | r <;> exact q
        · simp only [z, if_false, mbd_some, zsl_r]
          rw [if_neg z] at hev'
          refine zwp_mono (push (d - 1) 0 (by omega) (by decide) hev' h2') (fun r M1 q => ?_)
          rcases r with r | r | r <;> exact q
      · have g1 : ¬ (Int32.ofNat d < 2) := by rw [show (2 : Int32) = Int32.ofNat 2 from rfl, zi_lt (by omega) (by omega)]; omega
        have g2 : ¬ (Int32.ofNat o < 0) := zi_nn (by omega)
        have g3 : ¬ (Int32.ofNat o = 15) := by rw [show (15 : Int32) = Int32.ofNat 15 from rfl, zi_eq (by omega) (by omega)]; omega
        have o15 : ¬ o = 15 := by omega
        have e1 : Int32.ofNat (d - 2) + 1 = Int32.ofNat (d - 1) := by rw [yi_nn]; congr 1; omega
        have hev1 : (if o = 15 then yev (fun i => Int32.toInt64 (nm i)) ((T.law k).drop (c + 1)) (yu f (d - 1) (if f (d - 1) = 0 then 1 else 0)) d
          else if ybad (ycb o (f (d - 2)) (f (d - 1))) then none
          else yev (fun i => Int32.toInt64 (nm i)) ((T.law k).drop (c + 1)) (yu f (d - 2) (ycb o (f (d - 2)) (f (d - 1)))) (d - 1)) = R := hev
        rw [if_neg o15] at hev1
        have fin : ∀ (X : Option (((Int32 × Int32) ⊕ ((Int32 × Int32) ⊕ Int64)) × zMem)), X = (if 0 < lg_cmp (ycb o (f (d - 2)) (f (d - 1))) 1000000000000 then some (Sum.inr (Sum.inr (-9223372036854775808)), M') else if lg_cmp (ycb o (f (d - 2)) (f (d - 1))) (-1000000000000) < 0 then some (Sum.inr (Sum.inr (-9223372036854775808)), M') else if Int32.ofNat (d - 2) < 64 then zob (mwrL M' (t + 13 + 4) (Int32.ofNat (d - 2)) (ycb o (f (d - 2)) (f (d - 1)))) (fun M37 => some (Sum.inl (Int32.ofNat (d - 2) + 1, Int32.ofNat (a + c) + 1), M37)) else some (Sum.inr (Sum.inr (-9223372036854775808)), M')) → zwp X
          (fun (r : (Int32 × Int32) ⊕ ((Int32 × Int32) ⊕ Int64)) M1 => match r with
            | .inl s1 => M1.1 = M.1 ∧ ∃ f d, d ≤ c + 1 ∧ s1 = (Int32.ofNat d, Int32.ofNat (a + (c + 1))) ∧ (∀ j, j < d → M1.2 (t + 13 + 4) j = f j) ∧ ywf ((T.law k).drop (c + 1)) d ∧ yev (fun i => Int32.toInt64 (nm i)) ((T.law k).drop (c + 1)) f d = R
            | .inr b => M1.1 = M.1 ∧ match b with
              | .inl st => st.1 = 1 ∧ R = some (M1.2 (t + 13 + 4) 0)
              | .inr r => r = R.getD (-9223372036854775808)) := by
          intro X hX
          rw [hX]
          by_cases hb : ybad (ycb o (f (d - 2)) (f (d - 1)))
          · rw [if_pos hb] at hev1
            refine zwp_mono (err (d - 2) _ hb hev1.symm) (fun r M1 q => ?_)
            rcases r with r | r | r <;> exact q
          · rw [if_neg hb] at hev1
            refine zwp_mono (push (d - 2) _ (by omega) hb (by rw [show d - 2 + 1 = d - 1 by omega]; exact hev1) (by rw [show d - 2 + 1 = d - 1 by omega]; exact h2)) (fun r M1 q => ?_)
            rcases r with r | r | r <;> exact q
        by_cases g4 : Int32.ofNat o < 16
        · simp only [yKc, yxx, g4, g3, g2, g1, if_true, if_false, mbd_some, zsl_l, yi_a2 h1, yst_r h.tt (show d - 2 < 64 by omega), e1, yst_r h.tt (show d - 1 < 64 by omega), zob_some, hf (d - 1) (by omega), hf (d - 2) (by omega), c_combined ho]
          refine zwp_mono (fin _ (by rw [e1])) (fun r M1 q => ?_)
          rcases r with r | r | r <;> exact q
        · have g5 : (22 : Int32) < Int32.ofNat o := by
            rw [show (16 : Int32) = Int32.ofNat 16 from rfl, zi_lt (by omega) (by omega)] at g4
            rw [show (22 : Int32) = Int32.ofNat 22 from rfl, zi_lt (by omega) (by omega)]; omega
          simp only [yKc, yxx, g4, g5, g3, g2, g1, if_true, if_false, mbd_some, zsl_l, yi_a2 h1, yst_r h.tt (show d - 2 < 64 by omega), e1, yst_r h.tt (show d - 1 < 64 by omega), zob_some, hf (d - 1) (by omega), hf (d - 2) (by omega), c_combined ho]
          refine zwp_mono (fin _ (by rw [e1])) (fun r M1 q => ?_)
          rcases r with r | r | r <;> exact q
  · rintro st M' ⟨hM, f, d, hd, rfl, hf, hwf, hev⟩
    rw [List.drop_length] at hwf hev
    have d1 : d = 1 := hwf
    subst d1
    simp only [rT M' hM, zob_some, yle_t, if_true, zwp_some]
    exact ⟨hM, rfl, by rw [hf 0 (by omega)]; exact hev.symm⟩
  · rintro b M' ⟨hM, q⟩
    cases b with
    | inl st =>
      rw [zsl_l, if_pos q.1]
      rw [show mrdL M' (t + 13 + 4) 0 = some (M'.2 (t + 13 + 4) 0) from yst_r (j := 0) h.tt (by omega)]
      exact zwp_ret ⟨hM, by rw [q.2]; rfl⟩
    | inr r => exact zwp_ret ⟨hM, q⟩
/-- the reference's -/
theorem r_combined {M : zMem} {o : Nat} (ho : o = 13 ∨ o = 14 ∨ (23 ≤ o ∧ o ≤ 32)) {d : Nat} (hd : 2 ≤ d) (hd' : d ≤ 64) (h1 : M.1 213 35 = Int32.ofNat d) {f : Nat → Int64} (hf : ∀ j, j < d → M.2 233 j = f j) :
    zwp (m_X8_works (yKo o) M) (fun r M' => M'.1 = (mup M 213 35 (Int32.ofNat (d - 1))).1 ∧ M'.2 232 = M.2 232 ∧ ((ybad (ycb o (f (d - 2)) (f (d - 1))) ∧ r = 0) ∨ (¬ ybad (ycb o (f (d - 2)) (f (d - 1))) ∧ r = 1 ∧ M'.2 233 = yu (M.2 233) (d - 2) (ycb o (f (d - 2)) (f (d - 1)))))) := by
  have rd : ∀ j, j < 64 → mrdL M 233 (Int32.ofNat j) = some (M.2 233 j) := fun j hj => mrdL_of (k := 233) (j := j) hj (by decide)
  have k1 : (mup M 213 35 (Int32.ofNat (d - 1))).1 213 35 = Int32.ofNat (d - 1) := mup_on
  have wr : ∀ j v, j < 64 → mwrL (mup M 213 35 (Int32.ofNat (d - 1))) 233 (Int32.ofNat j) v = some (mupL (mup M 213 35 (Int32.ofNat (d - 1))) 233 j v) := fun j v hj => mwrL_of (k := 233) (j := j) hj (by decide)
  have fin : ∀ v, zwp (zob (mwrL (mup M 213 35 (Int32.ofNat (d - 1))) 233 ((mup M 213 35 (Int32.ofNat (d - 1))).1 213 35 - 1) v) (fun M54 => if 1000000000000 < v then some ((0 : Int32), M54) else if v < -1000000000000 then some (0, M54) else some (1, M54))) (fun r M' => M'.1 = (mup M 213 35 (Int32.ofNat (d - 1))).1 ∧ M'.2 232 = M.2 232 ∧ ((ybad v ∧ r = 0) ∨ (¬ ybad v ∧ r = 1 ∧ M'.2 233 = yu (M.2 233) (d - 2) v))) := by
    intro v
    rw [k1, yi_m1 (by omega), show d - 1 - 1 = d - 2 by omega, wr (d - 2) v (by omega), zob_some]
    have h2 : (mupL (mup M 213 35 (Int32.ofNat (d - 1))) 233 (d - 2) v).2 233 = yu (M.2 233) (d - 2) v := by
      funext i; rw [mupL_at, yu]
      by_cases e : i = d - 2
      · rw [if_pos ⟨rfl, e⟩, if_pos e]
      · rw [if_neg (fun z => e z.2), if_neg e]; rfl
    by_cases g1 : 1000000000000 < v
    · rw [if_pos g1]; exact zwp_ret ⟨rfl, rfl, Or.inl ⟨Or.inl g1, rfl⟩⟩
    · by_cases g2 : v < -1000000000000
      · rw [if_neg g1, if_pos g2]; exact zwp_ret ⟨rfl, rfl, Or.inl ⟨Or.inr g2, rfl⟩⟩
      · rw [if_neg g1, if_neg g2]
        exact zwp_ret ⟨rfl, rfl, Or.inr ⟨fun z => z.elim g1 g2, rfl, h2⟩⟩
  have bad : zwp (some ((0 : Int32), mup M 213 35 (Int32.ofNat (d - 1)))) (fun r M' => M'.1 = (mup M 213 35 (Int32.ofNat (d - 1))).1 ∧ M'.2 232 = M.2 232 ∧ ((ybad (-9223372036854775808) ∧ r = 0) ∨ (¬ ybad (-9223372036854775808) ∧ r = 1 ∧ M'.2 233 = yu (M.2 233) (d - 2) (-9223372036854775808)))) := zwp_ret ⟨rfl, rfl, Or.inl ⟨by decide, rfl⟩⟩
  have bmin : ybad (-9223372036854775808) := by decide
  unfold m_X8_works
  have hh : o = 13 ∨ o = 14 ∨ o = 23 ∨ o = 24 ∨ o = 25 ∨ o = 26 ∨ o = 27 ∨ o = 28 ∨ o = 29 ∨ o = 30 ∨ o = 31 ∨ o = 32 := by omega
  rw [h1, yi_m1 (by omega), yi_m2 hd, rd (d - 1) (by omega), zob_some]
  simp only [rd (d - 2) (by omega), zob_some, hf (d - 1) (by omega), hf (d - 2) (by omega), mlt_eq, lg_cmp_eq, lg_cmp_le, lg_cmp_lt, lg_cmp_gt, lg_cmp_ge]
  generalize f (d - 1) = y at *
  generalize f (d - 2) = x at *
  rcases hh with rfl | rfl | rfl | rfl | rfl | rfl | rfl | rfl | rfl | rfl | rfl | rfl
  all_goals simp (config := { decide := true }) only [yKo, ycb, if_true, if_false]
  · by_cases e1 : x = 0
    · by_cases e2 : y = 0
      · simp only [e1, e2, if_true]; exact fin _
      · simp only [e1, e2, if_true, if_false]; exact fin _
    · simp only [e1, if_false]; exact fin _
  · by_cases e1 : x = 0
    · simp only [e1, if_true]; exact fin _
    · by_cases e2 : y = 0
      · simp only [e1, e2, if_true, if_false]; exact fin _
      · simp only [e1, e2, if_true, if_false]; exact fin _
  · exact fin _
  · exact fin _
  · by_cases e1 : x = 0
    · simp only [e1, if_true]; exact fin _
    · simp only [e1, if_false, zdl, yabL_ne e1, zob_some]
      by_cases e2 : zabL y ≤ 1000000000000 / zabL x
      · simp only [e2, if_true]; exact fin _
      · simp only [e2, if_false]; exact bad
  · by_cases e1 : y = 0
    · simp only [e1, if_true]; exact bad
    · simp only [e1, if_false, zdl, zob_some]; exact fin _
  · by_cases e1 : y ≤ x
    · simp only [e1, if_true]; exact fin _
    · simp only [e1, if_false]; exact fin _
  · by_cases e1 : y < x
    · simp only [e1, if_true]; exact fin _
    · simp only [e1, if_false]; exact fin _
  · by_cases e1 : x = y
    · simp only [e1, if_true]; exact fin _
    · simp only [e1, if_false]; exact fin _
  · by_cases e1 : x = y
    · simp only [e1, if_true]; exact fin _
    · simp only [e1, if_false]; exact fin _
  · by_cases e1 : x < y
    · simp only [e1, if_true]; exact fin _
    · simp only [e1, if_false]; exact fin _
  · by_cases e1 : x ≤ y
    · simp only [e1, if_true]; exact fin _
    · simp only [e1, if_false]; exact fin _
theorem r_not {M : zMem} {d : Nat} (hd : 1 ≤ d) (hd' : d ≤ 64) (h1 : M.1 213 35 = Int32.ofNat d) :
    zwp (m_X8_works 260 M) (fun r M' => r = 1 ∧ M'.1 = M.1 ∧ M'.2 232 = M.2 232 ∧ M'.2 233 = yu (M.2 233) (d - 1) (if M.2 233 (d - 1) = 0 then 1 else 0)) := by
  have rd : mrdL M 233 (Int32.ofNat (d - 1)) = some (M.2 233 (d - 1)) := mrdL_of (k := 233) (j := d - 1) (by show d - 1 < 64; omega) (by decide)
  have wr : ∀ v, mwrL M 233 (Int32.ofNat (d - 1)) v = some (mupL M 233 (d - 1) v) := fun v => mwrL_of (k := 233) (j := d - 1) (by show d - 1 < 64; omega) (by decide)
  have h2 : ∀ v, (mupL M 233 (d - 1) v).2 233 = yu (M.2 233) (d - 1) v := by
    intro v; funext i; rw [mupL_at, yu]
    by_cases e : i = d - 1
    · rw [if_pos ⟨rfl, e⟩, if_pos e]
    · rw [if_neg (fun z => e z.2), if_neg e]
  unfold m_X8_works
  rw [h1, yi_m1 hd, rd, zob_some]
  simp only [if_true, lg_cmp_eq]
  by_cases e : M.2 233 (d - 1) = 0
  · simp only [e, if_true, mbd_some, show m_X8_is 1 M = some (1, M) from rfl, wr, zob_some, zwp_some]
    exact ⟨trivial, rfl, rfl, h2 1⟩
  · simp only [e, if_false, mbd_some, show m_X8_is 0 M = some (0, M) from rfl, wr, zob_some, zwp_some]
    exact ⟨trivial, rfl, rfl, h2 0⟩
def yT35 (k i : Nat) : Prop := k = 213 ∧ i = 35
set_option maxHeartbeats 4000000 in
theorem r_goes {M : zMem} {T : yT} (h : yRT M T) {k : Nat} (hk : k < 3) (hw : ywf (T.law k) 0) {nm : Nat → Int64} (hn : ∀ i, i < 7 → M.2 232 i = nm i) :
    zwp (m_X8_goes (Int32.ofNat k) M) (fun r M' => zfr yT35 M M' ∧ ((yev nm (T.law k) (fun _ => 0) 0 = none ∧ r = 0) ∨ (yev nm (T.law k) (fun _ => 0) 0 = some (M'.2 233 0) ∧ r = 1))) := by
  obtain ⟨a, l1, l2, l3, l4⟩ := h.law k hk
  have fr : ∀ M' : zMem, zfr yT35 M M' → ∀ q i, q ≠ 213 → M'.1 q i = M.1 q i := fun M' f q i hq => f q i (fun z => hq z.1)
  have rF : ∀ M' : zMem, zfr yT35 M M' → mrd M' 228 (Int32.ofNat k) = some (Int32.ofNat a) := fun M' e => by
    rw [mrd_of (k := 228) (j := k) (by show k < 6; omega) (by decide), fr M' e _ _ (by decide), l2]
  have rT : ∀ M' : zMem, zfr yT35 M M' → mrd M' 229 (Int32.ofNat k) = some (Int32.ofNat (a + (T.law k).length)) := fun M' e => by
    rw [mrd_of (k := 229) (j := k) (by show k < 6; omega) (by decide), fr M' e _ _ (by decide), l3]
  have rS : ∀ M' : zMem, zfr yT35 M M' → ∀ j, (hj : j < (T.law k).length) → mrd M' 230 (Int32.ofNat (a + j)) = some (yKs ((T.law k)[j])) := fun M' e j hj => by
    rw [mrd_of (k := 230) (j := a + j) (by show a + j < 128; omega) (by decide), fr M' e _ _ (by decide), (l4 j hj).1]
  have rV : ∀ M' : zMem, zfr yT35 M M' → ∀ j, (hj : j < (T.law k).length) → mrd M' 231 (Int32.ofNat (a + j)) = some (yKv ((T.law k)[j])) := fun M' e j hj => by
    rw [mrd_of (k := 231) (j := a + j) (by show a + j < 128; omega) (by decide), fr M' e _ _ (by decide), (l4 j hj).2]
  generalize hR : yev nm (T.law k) (fun _ => 0) 0 = R
  unfold m_X8_goes
  have f0 : zfr yT35 M (mup M 213 35 0) := zfr_mup ⟨rfl, rfl⟩
  rw [mlt_eq, rF _ f0, zob_some]
  refine zwp_bd (Q' := fun b M' => zfr yT35 M M' ∧ match b with
      | .inl _ => R = some (M'.2 233 0)
      | .inr r => R = none ∧ r = 0) (zwp_for 0 (T.law k).length (fun c st M' => zfr yT35 M M' ∧ M'.2 232 = M.2 232 ∧ ∃ d, d ≤ c ∧ st = Int32.ofNat (a + c) ∧ M'.1 213 35 = Int32.ofNat d ∧ ywf ((T.law k).drop c) d ∧ yev nm ((T.law k).drop c) (M'.2 233) d = R) ?_ ?_ ⟨f0, rfl, 0, Nat.le_refl _, rfl, mup_on, hw, ?_⟩ (Nat.zero_le _) (by have : zLF = 100000 := rfl; omega)) ?_
  · rintro c st M' - hc ⟨hM, hN, d, hd, rfl, h35, hwf, hev⟩
    have hb : ¬ (Int32.ofNat (a + (T.law k).length) ≤ Int32.ofNat (a + c)) := by
      rw [zi_le (by omega) (by omega)]; omega
    have push : ∀ (v : Int64), yev nm ((T.law k).drop (c + 1)) (yu (M'.2 233) d v) (d + 1) = R → ywf ((T.law k).drop (c + 1)) (d + 1) →
        zwp (zob (mwrL M' 233 (M'.1 213 35) v) (fun M28 => mlt (mup M28 213 35 ((M28.1 213 35) + 1)) (fun M30 => some (Sum.inl (Int32.ofNat (a + c) + 1), M30))))
          (fun (r : Int32 ⊕ (Int32 ⊕ Int32)) M1 => match r with
            | .inl s1 => zfr yT35 M M1 ∧ M1.2 232 = M.2 232 ∧ ∃ d, d ≤ c + 1 ∧ s1 = Int32.ofNat (a + (c + 1)) ∧ M1.1 213 35 = Int32.ofNat d ∧ ywf ((T.law k).drop (c + 1)) d ∧ yev nm ((T.law k).drop (c + 1)) (M1.2 233) d = R
            | .inr b => zfr yT35 M M1 ∧ match b with
              | .inl _ => R = some (M1.2 233 0)
              | .inr r => R = none ∧ r = 0) := by
      intro v he hw'
      rw [h35, mwrL_of (k := 233) (j := d) (by show d < 64; omega) (by decide), zob_some, mlt_eq]
      have e2 : (mup (mupL M' 233 d v) 213 35 ((mupL M' 233 d v).1 213 35 + 1)).2 233 = yu (M'.2 233) d v := by
        funext i
        show (mupL M' 233 d v).2 233 i = _
        rw [mupL_at, yu]
        by_cases e : i = d
        · rw [if_pos ⟨rfl, e⟩, if_pos e]
        · rw [if_neg (fun z => e z.2), if_neg e]
      refine zwp_ret ⟨zfr_trans hM (zfr_trans zfr_mupL (zfr_mup ⟨rfl, rfl⟩)), hN, d + 1, by omega, by rw [yi_nn]; rfl, ?_, hw', by rw [e2]; exact he⟩
      rw [mup_on, mupL_1, h35, yi_nn]
    rw [List.drop_eq_getElem_cons hc] at hwf hev
    simp only [rT M' hM, rS M' hM c hc, rV M' hM c hc, zob_some, hb, if_false]
    generalize (T.law k)[c] = q at hwf hev ⊢
    rcases q with v | i | o
    ·
      simp only [yKs, yKv, show ((0 : Int32) = 2) = False by decide, if_true, if_false, mbd_some]
      refine zwp_mono (push _ hev hwf.2) (fun r M1 q => ?_)
      rcases r with r | r | r <;> exact q
    ·
      have hi := hwf.1
      have hn' : mrdL M' 232 (Int32.ofNat i) = some (nm i) := by
        rw [mrdL_of (k := 232) (j := i) (by show i < 7; omega) (by decide), hN, hn i hi]
      simp only [yKs, yKv, show ((1 : Int32) = 2) = False by decide, show ((1 : Int32) = 0) = False by decide, if_true, if_false, hn', zob_some, mbd_some]
      refine zwp_mono (push _ hev hwf.2) (fun r M1 q => ?_)
      rcases r with r | r | r <;> exact q
    ·
      simp only [yKs, yKv, if_true]
      have hev1 : (if o = 15 then yev nm ((T.law k).drop (c + 1)) (yu (M'.2 233) (d - 1) (if M'.2 233 (d - 1) = 0 then 1 else 0)) d
          else if ybad (ycb o (M'.2 233 (d - 2)) (M'.2 233 (d - 1))) then none
          else yev nm ((T.law k).drop (c + 1)) (yu (M'.2 233) (d - 2) (ycb o (M'.2 233 (d - 2)) (M'.2 233 (d - 1)))) (d - 1)) = R := hev
      rcases hwf with ⟨rfl, h1, h2⟩ | ⟨ho, h1, h2⟩
      · rw [if_pos rfl] at hev1
        rw [show yKo 15 = 260 from rfl]
        refine zwp_bd (r_not h1 (by omega) h35) ?_
        rintro r M1 ⟨rfl, q1, q2, q3⟩
        simp only [one_ne, if_false, zwp_some]
        refine ⟨fun x y z => ?_, q2.trans hN, d, by omega, by rw [yi_nn]; rfl, by rw [q1]; exact h35, h2, by rw [q3]; exact hev1⟩
        rw [q1]; exact hM x y z
      · rw [if_neg (show ¬ o = 15 by omega)] at hev1
        refine zwp_bd (r_combined ho h1 (by omega) h35 (f := M'.2 233) (fun _ _ => rfl)) ?_
        rintro r M1 ⟨q1, q2, q3⟩
        have hM1 : zfr yT35 M M1 := fun x y z => by
          rw [q1]; exact (zfr_mup (P := yT35) ⟨rfl, rfl⟩ x y z).trans (hM x y z)
        rcases q3 with ⟨q3, rfl⟩ | ⟨q3, rfl, q4⟩
        · rw [if_pos q3] at hev1
          simp only [if_true, zwp_some]
          exact ⟨hM1, hev1.symm, trivial⟩
        · rw [if_neg q3] at hev1
          simp only [one_ne, if_false, zwp_some]
          exact ⟨hM1, q2.trans hN, d - 1, by omega, by rw [yi_nn]; rfl, by rw [q1, mup_on], h2, by rw [q4]; exact hev1⟩
  · rintro st M' ⟨hM, hN, d, hd, rfl, h35, hwf, hev⟩
    rw [List.drop_length] at hwf hev
    simp only [rT M' hM, zob_some, yle_t, if_true, zwp_some]
    exact ⟨hM, hev.symm⟩
  · rw [← hR]
    exact yev_congr _ _ _ 0 (fun j hj => absurd hj (Nat.not_lt_zero _)) hw
  · rintro b M' ⟨hM, q⟩
    cases b with
    | inl st => exact zwp_ret ⟨hM, Or.inr ⟨q, rfl⟩⟩
    | inr r => exact zwp_ret ⟨hM, Or.inl q⟩

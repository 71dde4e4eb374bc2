/-! the reference goes on to the next token -/
section
variable {M : zMem} {b : Nat → Nat} {n : Nat}
theorem r_isSmall_n : m_X8_isSmall (-1) M = some (0, M) := by unfold m_X8_isSmall; rw [if_pos (by decide)]
theorem r_isDigit_n : m_X8_isDigit (-1) M = some (0, M) := by unfold m_X8_isDigit; rw [if_pos (by decide)]
theorem r_letters (tx : yTx M b n) (hn : M.1 213 22 = Int32.ofNat n) {q : Nat} (hq : q ≤ n) (e : M.1 213 23 = Int32.ofNat q) {α : Type} {Q : α → zMem → Prop} {f : Unit → zMem → Option (α × zMem)}
    (kk : ∀ M', M'.1 213 23 = Int32.ofNat (yrn (ypc b) n q) → zfr (fun k i => k = 213 ∧ i = 23) M M' → zwp (f () M') Q) :
    zwp (mbd (mlp (σ := Unit) (β := Unit) zLF (fun _ M45 =>
      mbd (m_X8_here M45) (fun v49 M48 =>
      mbd (m_X8_isSmall v49 M48) (fun v51 M50 =>
      if v51 = 0 then some ((.inr ()), M50)
      else mlt (mup M50 213 23 ((M50.1 213 23) + 1)) (fun M53 => some ((.inl ()), M53))))) () M) f) Q := by
  have ln := tx.1
  refine zwp_bd (Q' := fun _ M' => M'.1 213 23 = Int32.ofNat (yrn (ypc b) n q) ∧ zfr (fun k i => k = 213 ∧ i = 23) M M') (zwp_lp (fun d _ M' => ∃ r, d = n - r ∧ r ≤ n ∧ M'.1 213 23 = Int32.ofNat r ∧ yrn (ypc b) n r = yrn (ypc b) n q ∧ zfr (fun k i => k = 213 ∧ i = 23) M M') ?_ (n - q) _ _ ⟨q, rfl, hq, e, rfl, zfr_refl⟩ (by have : zLF = 100000 := rfl; omega)) (fun _ M' z => kk M' z.1 z.2)
  rintro d _ M1 ⟨r, rfl, hr, e1, er, f1⟩
  have tx1 := tx.keep f1 (by omega) (by omega)
  rw [r_here tx1 ((f1 213 22 (by omega)).trans hn) hr e1, mbd_some]
  by_cases hl : r < n
  · rw [if_pos hl, r_isSmall (tx.2 r hl).1, mbd_some]
    by_cases hc : 97 ≤ b r ∧ b r ≤ 122
    · rw [if_pos hc, if_neg (by decide), mlt_eq, e1]
      exact zwp_ret ⟨n - (r + 1), by omega, r + 1, rfl, by omega, mup_on.trans (yi_nn r), (yrn_go (P := ypc b) hl (decide_eq_true hc)).symm.trans er, zfr_trans f1 (zfr_mup ⟨rfl, rfl⟩)⟩
    · rw [if_neg hc, if_pos rfl]
      rw [yrn_st (P := ypc b) (fun z => hc (of_decide_eq_true z.2))] at er
      exact zwp_ret ⟨by rw [← er]; exact e1, f1⟩
  · rw [if_neg hl, r_isSmall_n, mbd_some, if_pos rfl]
    rw [yrn_st (P := ypc b) (fun z => hl z.1)] at er
    exact zwp_ret ⟨by rw [← er]; exact e1, f1⟩
theorem r_digits (tx : yTx M b n) (hn : M.1 213 22 = Int32.ofNat n) {q : Nat} (hq : q ≤ n) (e : M.1 213 23 = Int32.ofNat q) (e0 : M.1 213 26 = 0) {α : Type} {Q : α → zMem → Prop} {f : Unit → zMem → Option (α × zMem)}
    (kk : ∀ M', M'.1 213 23 = Int32.ofNat (yrn (ypd b) n q) → M'.1 213 26 = Int32.ofNat (yvl b q (yrn (ypd b) n q - q)) → zfr (fun k i => k = 213 ∧ (i = 23 ∨ i = 26)) M M' → zwp (f () M') Q) :
    zwp (mbd (mlp (σ := Unit) (β := Unit) zLF (fun _ M27 =>
      mbd (m_X8_here M27) (fun v31 M30 =>
      mbd (m_X8_isDigit v31 M30) (fun v33 M32 =>
      if v33 = 0 then some ((.inr ()), M32)
      else
      mbd (α := Int32) (
      if (M32.1 213 26) ≤ 99999 then
      mbd (m_X8_here M32) (fun v37 M36 => some ((((10 * (M32.1 213 26)) + v37) - 48), M36))
      else some ((M32.1 213 26), M32)) (fun e39 M40 =>
      mlt (mup M40 213 26 e39) (fun M41 =>
      mlt (mup M41 213 23 ((M41.1 213 23) + 1)) (fun M43 => some ((.inl ()), M43))))))) () M) f) Q := by
  have ln := tx.1
  refine zwp_bd (Q' := fun _ M' => M'.1 213 23 = Int32.ofNat (yrn (ypd b) n q) ∧ M'.1 213 26 = Int32.ofNat (yvl b q (yrn (ypd b) n q - q)) ∧ zfr (fun k i => k = 213 ∧ (i = 23 ∨ i = 26)) M M') (zwp_lp (fun d _ M' => ∃ i, d = n - (q + i) ∧ q + i ≤ n ∧ M'.1 213 23 = Int32.ofNat (q + i) ∧ yrn (ypd b) n (q + i) = yrn (ypd b) n q ∧ M'.1 213 26 = Int32.ofNat (yvl b q i) ∧ yvl b q i ≤ 1000000 ∧ zfr (fun k i => k = 213 ∧ (i = 23 ∨ i = 26)) M M') ?_ (n - q) _ _ ⟨0, rfl, hq, e, rfl, e0, by show 0 ≤ _; omega, zfr_refl⟩ (by have : zLF = 100000 := rfl; omega)) (fun _ M' z => kk M' z.1 z.2.1 z.2.2)
  rintro d _ M1 ⟨i, rfl, hr, e1, er, e6, l6, f1⟩
  have tx1 := tx.keep f1 (by omega) (by omega)
  have hh := r_here tx1 ((f1 213 22 (by omega)).trans hn) hr e1
  rw [hh, mbd_some]
  by_cases hl : q + i < n
  · rw [if_pos hl] at hh ⊢
    rw [r_isDigit (tx.2 _ hl).1, mbd_some]
    by_cases hc : 48 ≤ b (q + i) ∧ b (q + i) ≤ 57
    · have es : yvl b q (i + 1) = if 99999 < yvl b q i then yvl b q i else 10 * yvl b q i + (b (q + i) - 48) := rfl
      have l7 : yvl b q (i + 1) ≤ 1000000 := by rw [es]; split <;> omega
      have ev : (if (M1.1 213 26) ≤ 99999 then mbd (m_X8_here M1) (fun v37 M36 => some ((((10 * (M1.1 213 26)) + v37) - 48), M36)) else some ((M1.1 213 26), M1)) = some (Int32.ofNat (yvl b q (i + 1)), M1) := by
        rw [e6, es]
        by_cases z : 99999 < yvl b q i
        · rw [if_pos z, if_neg (by rw [show (99999 : Int32) = Int32.ofNat 99999 from rfl, zi_le (by omega) (by omega)]; omega)]
        · rw [if_neg z, if_pos (by rw [show (99999 : Int32) = Int32.ofNat 99999 from rfl, zi_le (by omega) (by omega)]; omega), hh, mbd_some, show (10 : Int32) = Int32.ofNat 10 from rfl, ← Int32.ofNat_mul, ← Int32.ofNat_add, show (48 : Int32) = Int32.ofNat 48 from rfl, yi_sub (by omega), show 10 * yvl b q i + b (q + i) - 48 = 10 * yvl b q i + (b (q + i) - 48) by omega]
      rw [if_pos hc, if_neg (by decide), ev, mbd_some, mlt_eq, mlt_eq, mup_off' (by decide), e1]
      exact zwp_ret ⟨n - (q + (i + 1)), by omega, i + 1, rfl, by omega, mup_on.trans (yi_nn _), (yrn_go (P := ypd b) hl (decide_eq_true hc)).symm.trans er, (mup_off' (by decide)).trans mup_on, l7, zfr_trans f1 (zfr_trans (zfr_mup (by omega)) (zfr_mup (by omega)))⟩
    · rw [if_neg hc, if_pos rfl]
      rw [yrn_st (P := ypd b) (fun z => hc (of_decide_eq_true z.2))] at er
      exact zwp_ret ⟨by rw [← er]; exact e1, by rw [← er, show q + i - q = i by omega]; exact e6, f1⟩
  · rw [if_neg hl, r_isDigit_n, mbd_some, if_pos rfl]
    rw [yrn_st (P := ypd b) (fun z => hl z.1)] at er
    exact zwp_ret ⟨by rw [← er]; exact e1, by rw [← er, show q + i - q = i by omega]; exact e6, f1⟩
def ysgS (x : Nat) : Nat := if x = 59 ∨ x = 40 ∨ x = 41 ∨ x = 43 ∨ x = 45 ∨ x = 42 ∨ x = 47 ∨ x = 60 ∨ x = 61 ∨ x = 62 then 3 else 5
theorem ysg_r1 : ∀ x, x < 256 → ∀ e1 e2 : Bool, (e1 && e2) = false → ysrt (ysgN x e1 e2) = ysgS x := by decide +kernel
theorem ysg_r2 : ∀ x, x < 256 → ∀ e1 e2 : Bool, (e1 && e2) = false → ysgN x e1 e2 ≤ 35 → yvs (ysgN x e1 e2) = (if x = 60 then (if e1 then 256 else if e2 then 257 else 60) else if x = 62 then (if e1 then 258 else 62) else x) := by decide +kernel
theorem ysg_r3 : ∀ x, x < 256 → ∀ e1 e2 : Bool, (e1 && e2) = false → (decide (ysgN x e1 e2 = 28) || decide (ysgN x e1 e2 = 30) || decide (ysgN x e1 e2 = 31)) = ((decide (x = 60) && (e1 || e2)) || (decide (x = 62) && e1)) := by decide +kernel
theorem ysg_r (x : Nat) (hx : x < 256) (e1 e2 : Bool) (h : (e1 && e2) = false) : ysrt (ysgN x e1 e2) = ysgS x ∧ (ysgN x e1 e2 ≤ 35 → yvs (ysgN x e1 e2) = (if x = 60 then (if e1 then 256 else if e2 then 257 else 60) else if x = 62 then (if e1 then 258 else 62) else x)) ∧ ((ysgN x e1 e2 = 28 ∨ ysgN x e1 e2 = 30 ∨ ysgN x e1 e2 = 31) ↔ ((x = 60 ∧ (e1 = true ∨ e2 = true)) ∨ (x = 62 ∧ e1 = true))) := by
  refine ⟨ysg_r1 x hx e1 e2 h, ysg_r2 x hx e1 e2 h, ?_⟩
  have := ysg_r3 x hx e1 e2 h
  rw [Bool.eq_iff_iff] at this
  simp only [Bool.or_eq_true, Bool.and_eq_true, decide_eq_true_eq] at this
  rw [← this, or_assoc]
def yRg (k i : Nat) : Prop := k = 213 ∧ (i = 23 ∨ i = 25 ∨ i = 26)
theorem r_sign (tx : yTx M b n) (hn : M.1 213 22 = Int32.ofNat n) {q : Nat} (hq : q < n) (e : M.1 213 23 = Int32.ofNat q) : zwp (m_X8_sign (Int32.ofNat (b q)) M) (fun _ M' =>
    M'.1 213 25 = Int32.ofNat (ysgS (b q)) ∧
    M'.1 213 26 = Int32.ofNat (if b q = 60 then (if q + 1 < n ∧ b (q + 1) = 61 then 256 else if q + 1 < n ∧ b (q + 1) = 62 then 257 else 60) else if b q = 62 then (if q + 1 < n ∧ b (q + 1) = 61 then 258 else 62) else b q) ∧
    M'.1 213 23 = Int32.ofNat (if (b q = 60 ∧ (q + 1 < n ∧ b (q + 1) = 61 ∨ q + 1 < n ∧ b (q + 1) = 62)) ∨ (b q = 62 ∧ q + 1 < n ∧ b (q + 1) = 61) then q + 2 else q + 1) ∧ zfr yRg M M') := by
  have ln := tx.1
  have bx := (tx.2 q hq).1
  have lit : ∀ k : Nat, k < 300 → ((Int32.ofNat (b q) = Int32.ofNat k) ↔ b q = k) := fun k hk => zi_eq (by omega) (by omega)
  have l59 : (Int32.ofNat (b q) = 59) ↔ b q = 59 := lit 59 (by decide)
  have l40 : (Int32.ofNat (b q) = 40) ↔ b q = 40 := lit 40 (by decide)
  have l41 : (Int32.ofNat (b q) = 41) ↔ b q = 41 := lit 41 (by decide)
  have l42 : (Int32.ofNat (b q) = 42) ↔ b q = 42 := lit 42 (by decide)
  have l43 : (Int32.ofNat (b q) = 43) ↔ b q = 43 := lit 43 (by decide)
  have l45 : (Int32.ofNat (b q) = 45) ↔ b q = 45 := lit 45 (by decide)
  have l47 : (Int32.ofNat (b q) = 47) ↔ b q = 47 := lit 47 (by decide)
  have l60 : (Int32.ofNat (b q) = 60) ↔ b q = 60 := lit 60 (by decide)
  have l61 : (Int32.ofNat (b q) = 61) ↔ b q = 61 := lit 61 (by decide)
  have l62 : (Int32.ofNat (b q) = 62) ↔ b q = 62 := lit 62 (by decide)
  unfold m_X8_sign
  rw [mlt_eq, e, yi_nn]
  have f1 : zfr yRg M (mup M 213 23 (Int32.ofNat (q + 1))) := zfr_mup (by unfold yRg; omega)
  have e1 : (mup M 213 23 (Int32.ofNat (q + 1))).1 213 23 = Int32.ofNat (q + 1) := mup_on
  generalize mup M 213 23 (Int32.ofNat (q + 1)) = M1 at f1 e1 ⊢
  have es : (if Int32.ofNat (b q) = 59 then some ((3 : Int32), M1) else if Int32.ofNat (b q) = 40 then some (3, M1) else if Int32.ofNat (b q) = 41 then some (3, M1) else if Int32.ofNat (b q) = 43 then some (3, M1) else if Int32.ofNat (b q) = 45 then some (3, M1) else if Int32.ofNat (b q) = 42 then some (3, M1) else if Int32.ofNat (b q) = 47 then some (3, M1) else if Int32.ofNat (b q) = 60 then some (3, M1) else if Int32.ofNat (b q) = 61 then some (3, M1) else if Int32.ofNat (b q) = 62 then some (3, M1) else some (5, M1)) = some (Int32.ofNat (ysgS (b q)), M1) := by
    simp only [l59, l40, l41, l42, l43, l45, l47, l60, l61, l62]
    unfold ysgS
    by_cases c1 : b q = 59
    · simp [c1]
    by_cases c2 : b q = 40
    · simp [c2]
    by_cases c3 : b q = 41
    · simp [c3]
    by_cases c4 : b q = 43
    · simp [c4]
    by_cases c5 : b q = 45
    · simp [c5]
    by_cases c6 : b q = 42
    · simp [c6]
    by_cases c7 : b q = 47
    · simp [c7]
    by_cases c8 : b q = 60
    · simp [c8]
    by_cases c9 : b q = 61
    · simp [c9]
    by_cases c10 : b q = 62
    · simp [c10]
    simp [c1, c2, c3, c4, c5, c6, c7, c8, c9, c10]
  rw [es, mbd_some, mlt_eq, mlt_eq]
  have f2 : zfr yRg M (mup (mup M1 213 25 (Int32.ofNat (ysgS (b q)))) 213 26 (Int32.ofNat (b q))) := zfr_trans f1 (zfr_trans (zfr_mup (by unfold yRg; omega)) (zfr_mup (by unfold yRg; omega)))
  have e2 : (mup (mup M1 213 25 (Int32.ofNat (ysgS (b q)))) 213 26 (Int32.ofNat (b q))).1 213 23 = Int32.ofNat (q + 1) := by rw [mup_off' (by decide), mup_off' (by decide)]; exact e1
  have s2 : (mup (mup M1 213 25 (Int32.ofNat (ysgS (b q)))) 213 26 (Int32.ofNat (b q))).1 213 25 = Int32.ofNat (ysgS (b q)) := by rw [mup_off' (by decide), mup_on]
  have v2 : (mup (mup M1 213 25 (Int32.ofNat (ysgS (b q)))) 213 26 (Int32.ofNat (b q))).1 213 26 = Int32.ofNat (b q) := mup_on
  generalize mup (mup M1 213 25 (Int32.ofNat (ysgS (b q)))) 213 26 (Int32.ofNat (b q)) = M2 at f2 e2 s2 v2 ⊢
  have hr : ∀ M', zfr yRg M M' → M'.1 213 23 = Int32.ofNat (q + 1) → m_X8_here M' = some (if q + 1 < n then Int32.ofNat (b (q + 1)) else -1, M') := fun M' f e => r_here (tx.keep f (by unfold yRg; omega) (by unfold yRg; omega)) ((f 213 22 (by unfold yRg; omega)).trans hn) (by omega) e
  have h61 : ((if q + 1 < n then Int32.ofNat (b (q + 1)) else -1) = 61) ↔ (q + 1 < n ∧ b (q + 1) = 61) := by
    by_cases hl : q + 1 < n
    · have := (tx.2 _ hl).1
      rw [if_pos hl, show (61 : Int32) = Int32.ofNat 61 from rfl, zi_eq (by omega) (by omega)]
      exact ⟨fun z => ⟨hl, z⟩, fun z => z.2⟩
    · rw [if_neg hl]
      exact ⟨fun z => absurd z (by decide), fun z => absurd z.1 hl⟩
  have h62 : ((if q + 1 < n then Int32.ofNat (b (q + 1)) else -1) = 62) ↔ (q + 1 < n ∧ b (q + 1) = 62) := by
    by_cases hl : q + 1 < n
    · have := (tx.2 _ hl).1
      rw [if_pos hl, show (62 : Int32) = Int32.ofNat 62 from rfl, zi_eq (by omega) (by omega)]
      exact ⟨fun z => ⟨hl, z⟩, fun z => z.2⟩
    · rw [if_neg hl]
      exact ⟨fun z => absurd z (by decide), fun z => absurd z.1 hl⟩
  by_cases c60 : b q = 60
  · have nc62 : ¬ Int32.ofNat (b q) = 62 := fun z => by have := l62.mp z; omega
    rw [if_pos (l60.mpr c60), hr M2 f2 e2, mbd_some]
    by_cases g1 : q + 1 < n ∧ b (q + 1) = 61
    · rw [if_pos (h61.mpr g1), mlt_eq, mbd_some, if_pos (l60.mpr c60)]
      have f3 : zfr yRg M (mup M2 213 26 256) := zfr_trans f2 (zfr_mup (by unfold yRg; omega))
      have e3 : (mup M2 213 26 256).1 213 23 = Int32.ofNat (q + 1) := (mup_off' (by decide)).trans e2
      rw [hr _ f3 e3, mbd_some, if_neg (fun z => by have := h62.mp z; omega), mbd_some, if_neg nc62, mbd_some, mup_on, if_neg (by decide), mlt_eq, e3, yi_nn]
      refine zwp_ret ⟨?_, ?_, ?_, zfr_trans f3 (zfr_mup (by unfold yRg; omega))⟩
      · rw [mup_off' (by decide), mup_off' (by decide)]; exact s2
      · rw [mup_off' (by decide), mup_on, if_pos c60, if_pos g1]; rfl
      · rw [mup_on, if_pos (Or.inl ⟨c60, Or.inl g1⟩)]
    · rw [if_neg (fun z => g1 (h61.mp z)), mbd_some, if_pos (l60.mpr c60), hr M2 f2 e2, mbd_some]
      by_cases g2 : q + 1 < n ∧ b (q + 1) = 62
      · rw [if_pos (h62.mpr g2), mlt_eq, mbd_some, if_neg nc62, mbd_some, mup_on, if_neg (by decide), mlt_eq, mup_off' (by decide), e2, yi_nn]
        refine zwp_ret ⟨?_, ?_, ?_, zfr_trans f2 (zfr_trans (zfr_mup (by unfold yRg; omega)) (zfr_mup (by unfold yRg; omega)))⟩
        · rw [mup_off' (by decide), mup_off' (by decide)]; exact s2
        · rw [mup_off' (by decide), mup_on, if_pos c60, if_neg g1, if_pos g2]; rfl
        · rw [mup_on, if_pos (Or.inl ⟨c60, Or.inr g2⟩)]
      · rw [if_neg (fun z => g2 (h62.mp z)), mbd_some, if_neg nc62, mbd_some, v2, if_pos (by rw [show (256 : Int32) = Int32.ofNat 256 from rfl, zi_lt (by omega) (by omega)]; omega)]
        refine zwp_ret ⟨s2, ?_, ?_, f2⟩
        · rw [v2, if_pos c60, if_neg g1, if_neg g2, c60]
        · rw [e2, if_neg]
          rintro (⟨-, z | z⟩ | ⟨z, -⟩)
          · exact g1 z
          · exact g2 z
          · omega
  · rw [if_neg (fun z => c60 (l60.mp z)), mbd_some, if_neg (fun z => c60 (l60.mp z)), mbd_some]
    by_cases c62 : b q = 62
    · rw [if_pos (l62.mpr c62), hr M2 f2 e2, mbd_some]
      by_cases g1 : q + 1 < n ∧ b (q + 1) = 61
      · rw [if_pos (h61.mpr g1), mlt_eq, mbd_some, mup_on, if_neg (by decide), mlt_eq, mup_off' (by decide), e2, yi_nn]
        refine zwp_ret ⟨?_, ?_, ?_, zfr_trans f2 (zfr_trans (zfr_mup (by unfold yRg; omega)) (zfr_mup (by unfold yRg; omega)))⟩
        · rw [mup_off' (by decide), mup_off' (by decide)]; exact s2
        · rw [mup_off' (by decide), mup_on, if_neg c60, if_pos c62, if_pos g1]; rfl
        · rw [mup_on, if_pos (Or.inr ⟨c62, g1⟩)]
      · rw [if_neg (fun z => g1 (h61.mp z)), mbd_some, v2, if_pos (by rw [show (256 : Int32) = Int32.ofNat 256 from rfl, zi_lt (by omega) (by omega)]; omega)]
        refine zwp_ret ⟨s2, ?_, ?_, f2⟩
        · rw [v2, if_neg c60, if_pos c62, if_neg g1, c62]
        · rw [e2, if_neg]
          rintro (⟨z, -⟩ | ⟨-, z⟩)
          · exact c60 z
          · exact g1 z
    · rw [if_neg (fun z => c62 (l62.mp z)), mbd_some, v2, if_pos (by rw [show (256 : Int32) = Int32.ofNat 256 from rfl, zi_lt (by omega) (by omega)]; omega)]
      refine zwp_ret ⟨s2, ?_, ?_, f2⟩
      · rw [v2, if_neg c60, if_neg c62]
      · rw [e2, if_neg]
        rintro (⟨z, -⟩ | ⟨z, -⟩)
        · exact c60 z
        · exact c62 z
theorem r_token (tx : yTx M b n) (hn : M.1 213 22 = Int32.ofNat n) {p : Nat} (hp : p ≤ n) (e : M.1 213 23 = Int32.ofNat p) : zwp (m_X8_token M) (fun _ M' => yRk M' b n p ∧ zfr yRB M M') := by
  have ln := tx.1
  have hb : ∀ i, i < n → b i < 256 := fun i hi => (tx.2 i hi).1
  have pl := ypl_le (b := b) hp
  unfold m_X8_token
  refine zwp_bd (Q' := fun _ M' => M'.1 213 23 = Int32.ofNat (ypl b n p) ∧ zfr (fun k i => k = 213 ∧ i = 23) M M') (zwp_lp (fun d _ M' => ∃ q, d = n - q ∧ q ≤ n ∧ M'.1 213 23 = Int32.ofNat q ∧ yrn (ypb b) n q = ypl b n p ∧ zfr (fun k i => k = 213 ∧ i = 23) M M') ?_ (n - p) _ _ ⟨p, rfl, hp, e, rfl, zfr_refl⟩ (by have : zLF = 100000 := rfl; omega)) ?_
  · rintro d _ M1 ⟨q, rfl, hq, e1, er, f1⟩
    have tx1 := tx.keep f1 (by omega) (by omega)
    have hh := r_here tx1 ((f1 213 22 (by omega)).trans hn) hq e1
    rw [hh, mbd_some]
    by_cases hl : q < n
    · have bx := hb _ hl
      rw [if_pos hl] at hh ⊢
      by_cases h10 : b q = 10
      · rw [if_pos (by rw [h10]; rfl), mbd_some, zsl_l, mlt_eq, e1]
        exact zwp_ret ⟨n - (q + 1), by omega, q + 1, rfl, by omega, mup_on.trans (yi_nn q), (yrn_go (P := ypb b) hl (decide_eq_true (Or.inl h10))).symm.trans er, zfr_trans f1 (zfr_mup ⟨rfl, rfl⟩)⟩
      · rw [if_neg (by rw [show (10 : Int32) = Int32.ofNat 10 from rfl, zi_eq (by omega) (by omega)]; exact h10), hh, mbd_some]
        by_cases h32 : b q = 32
        · rw [if_pos (by rw [h32]; rfl), mbd_some, zsl_l, mlt_eq, e1]
          exact zwp_ret ⟨n - (q + 1), by omega, q + 1, rfl, by omega, mup_on.trans (yi_nn q), (yrn_go (P := ypb b) hl (decide_eq_true (Or.inr h32))).symm.trans er, zfr_trans f1 (zfr_mup ⟨rfl, rfl⟩)⟩
        · rw [if_neg (by rw [show (32 : Int32) = Int32.ofNat 32 from rfl, zi_eq (by omega) (by omega)]; exact h32), mbd_some, zsl_r]
          have st := yrn_st (P := ypb b) (n := n) (p := q) (fun z => (of_decide_eq_true z.2).elim h10 h32)
          exact zwp_ret ⟨by rw [← er, st]; exact e1, f1⟩
    · rw [if_neg hl] at hh ⊢
      rw [if_neg (by decide), hh, mbd_some, if_neg (by decide), mbd_some, zsl_r]
      have st := yrn_st (P := ypb b) (n := n) (p := q) (fun z => hl z.1)
      exact zwp_ret ⟨by rw [← er, st]; exact e1, f1⟩
  · rintro _ M2 ⟨e2, f2⟩
    rw [mlt_eq, e2]
    have f3 : zfr (fun k i => k = 213 ∧ (i = 23 ∨ i = 24)) M (mup M2 213 24 (Int32.ofNat (ypl b n p))) := zfr_trans (zfr_weak f2 (by omega)) (zfr_mup (by omega))
    have e3 : (mup M2 213 24 (Int32.ofNat (ypl b n p))).1 213 23 = Int32.ofNat (ypl b n p) := (mup_off' (by decide)).trans e2
    have e4 : (mup M2 213 24 (Int32.ofNat (ypl b n p))).1 213 24 = Int32.ofNat (ypl b n p) := mup_on
    generalize mup M2 213 24 (Int32.ofNat (ypl b n p)) = M3 at f3 e3 e4 ⊢
    have tx3 := tx.keep f3 (by omega) (by omega)
    have hn3 : M3.1 213 22 = Int32.ofNat n := (f3 213 22 (by omega)).trans hn
    have f3w : zfr yRB M M3 := zfr_weak f3 (by unfold yRB; omega)
    rw [r_here tx3 hn3 pl.2 e3, mbd_some]
    by_cases hl : ypl b n p < n
    · have bx := hb _ hl
      rw [if_pos hl, if_neg (zi_n1 (by omega)), r_isSmall bx, mbd_some]
      by_cases hc : 97 ≤ b (ypl b n p) ∧ b (ypl b n p) ≤ 122
      · have hc' : ypc b (ypl b n p) = true := decide_eq_true hc
        have en : ynx b n p = yrn (ypc b) n (ypl b n p) := by unfold ynx; rw [if_pos hl, if_pos hc']
        have g := yrn_ge (P := ypc b) (n := n) (p := ypl b n p)
        have gl := yrn_le (P := ypc b) (n := n) pl.2
        have hle : ∀ i, ypl b n p ≤ i → i < yrn (ypc b) n (ypl b n p) → 97 ≤ b i ∧ b i ≤ 122 := fun i h1 h2 => of_decide_eq_true (yrn_in (P := ypc b) h1 h2).2
        rw [if_pos hc, if_neg (by decide)]
        refine r_letters tx3 hn3 pl.2 e3 (fun M4 w1 f4 => ?_)
        have tx4 := tx3.keep f4 (by omega) (by omega)
        have w4 : M4.1 213 24 = Int32.ofNat (ypl b n p) := (f4 213 24 (by omega)).trans e4
        rw [r_word tx4 g gl hle w1 w4, mbd_some, mlt_eq, mup_on]
        have wl := (ywt_le (x := ypk b (ypl b n p) (yrn (ypc b) n (ypl b n p)) 6) 23 0 rfl).2
        by_cases h6 : yrn (ypc b) n (ypl b n p) - ypl b n p ≤ 6
        · have et : ytk b n p = ywt (ypk b (ypl b n p) (yrn (ypc b) n (ypl b n p)) 6) 0 23 := by unfold ytk; rw [if_pos hl, if_pos hc', if_pos h6]
          rw [← et] at wl ⊢
          by_cases hw : ytk b n p < 23
          · have ev : (if yrn (ypc b) n (ypl b n p) - ypl b n p ≤ 6 ∧ ytk b n p < 23 then Int32.ofNat (ytk b n p) else -1) = Int32.ofNat (ytk b n p) := if_pos ⟨h6, hw⟩
            rw [ev, if_neg (zi_n1 (by omega)), mbd_some, mlt_eq, mup_on, if_neg (by decide)]
            refine zwp_ret ⟨⟨hp, ?_, ?_, ?_, fun _ => ?_, fun z => by omega, fun z => by omega, fun z => by omega⟩, zfr_trans f3w (zfr_trans (zfr_weak f4 (by unfold yRB; omega)) (zfr_trans (zfr_mup (by unfold yRB; omega)) (zfr_mup (by unfold yRB; omega))))⟩
            · rw [mup_off' (by decide), mup_off' (by decide), en]; exact w1
            · rw [mup_off' (by decide), mup_off' (by decide)]; exact w4
            · rw [mup_on]; unfold ysrt; rw [if_pos hw]; rfl
            · rw [mup_off' (by decide), mup_on]
          · have e36 : ytk b n p = 36 := by omega
            have ev : (if yrn (ypc b) n (ypl b n p) - ypl b n p ≤ 6 ∧ ytk b n p < 23 then Int32.ofNat (ytk b n p) else -1) = -1 := if_neg (fun z => hw z.2)
            rw [ev, if_pos rfl, mup_off' (by decide), w1, mup_off' (by decide), w4, yi_sub g, if_pos (by rw [show (6 : Int32) = Int32.ofNat 6 from rfl, zi_le (by omega) (by omega)]; exact h6), mbd_some, mlt_eq, mup_on, if_pos rfl]
            have f5 : zfr (fun k i => k = 213 ∧ (i = 25 ∨ i = 26)) M4 (mup (mup M4 213 26 (-1)) 213 25 1) := zfr_trans (zfr_mup (by omega)) (zfr_mup (by omega))
            refine zwp_bd (r_name (tx4.keep f5 (by omega) (by omega)) g gl hle ((f5 213 23 (by omega)).trans w1) ((f5 213 24 (by omega)).trans w4)) ?_
            rintro _ M6 ⟨n6, f6⟩
            refine zwp_ret ⟨⟨hp, ?_, ?_, ?_, fun z => by omega, fun z => n6, fun z => by omega, fun z => by omega⟩, zfr_trans f3w (zfr_trans (zfr_weak f4 (by unfold yRB; omega)) (zfr_trans (zfr_weak f5 (by unfold yRB; omega)) (zfr_weak f6 (by unfold yRB; omega))))⟩
            · rw [f6 213 23 (by omega), f5 213 23 (by omega), en]; exact w1
            · rw [f6 213 24 (by omega), f5 213 24 (by omega)]; exact w4
            · rw [f6 213 25 (by omega), mup_on, e36]; rfl
        · have et : ytk b n p = 39 := by unfold ytk; rw [if_pos hl, if_pos hc', if_neg h6]
          have ev : (if yrn (ypc b) n (ypl b n p) - ypl b n p ≤ 6 ∧ ywt (ypk b (ypl b n p) (yrn (ypc b) n (ypl b n p)) 6) 0 23 < 23 then Int32.ofNat (ywt (ypk b (ypl b n p) (yrn (ypc b) n (ypl b n p)) 6) 0 23) else -1) = -1 := if_neg (fun z => h6 z.1)
          rw [ev, if_pos rfl, mup_off' (by decide), w1, mup_off' (by decide), w4, yi_sub g, if_neg (by rw [show (6 : Int32) = Int32.ofNat 6 from rfl, zi_le (by omega) (by omega)]; exact h6), mbd_some, mlt_eq, mup_on, if_neg (by decide)]
          refine zwp_ret ⟨⟨hp, ?_, ?_, ?_, fun z => by omega, fun z => by omega, fun z => by omega, fun z => by omega⟩, zfr_trans f3w (zfr_trans (zfr_weak f4 (by unfold yRB; omega)) (zfr_trans (zfr_mup (by unfold yRB; omega)) (zfr_mup (by unfold yRB; omega))))⟩
          · rw [mup_off' (by decide), mup_off' (by decide), en]; exact w1
          · rw [mup_off' (by decide), mup_off' (by decide)]; exact w4
          · rw [mup_on, et]; rfl
      · have hc' : ¬ ypc b (ypl b n p) = true := fun z => hc (of_decide_eq_true z)
        rw [if_neg hc, if_pos rfl, r_isDigit bx, mbd_some]
        by_cases hd : 48 ≤ b (ypl b n p) ∧ b (ypl b n p) ≤ 57
        · have hd' : ypd b (ypl b n p) = true := decide_eq_true hd
          have en : ynx b n p = yrn (ypd b) n (ypl b n p) := by unfold ynx; rw [if_pos hl, if_neg hc', if_pos hd']
          have et : ytk b n p = 37 := by unfold ytk; rw [if_pos hl, if_neg hc', if_pos hd']
          rw [if_pos hd, if_neg (by decide), mlt_eq, mlt_eq]
          have f4 : zfr (fun k i => k = 213 ∧ (i = 25 ∨ i = 26)) M3 (mup (mup M3 213 25 2) 213 26 0) := zfr_trans (zfr_mup (by omega)) (zfr_mup (by omega))
          refine r_digits (tx3.keep f4 (by omega) (by omega)) ((f4 213 22 (by omega)).trans hn3) pl.2 ((f4 213 23 (by omega)).trans e3) mup_on (fun M5 w1 w2 f5 => ?_)
          refine zwp_ret ⟨⟨hp, ?_, ?_, ?_, fun z => by omega, fun z => by omega, fun z => w2, fun z => by omega⟩, zfr_trans f3w (zfr_trans (zfr_weak f4 (by unfold yRB; omega)) (zfr_weak f5 (by unfold yRB; omega)))⟩
          · rw [en]; exact w1
          · rw [f5 213 24 (by omega), f4 213 24 (by omega)]; exact e4
          · rw [f5 213 25 (by omega), mup_off' (by decide), mup_on, et]; rfl
        · have hd' : ¬ ypd b (ypl b n p) = true := fun z => hd (of_decide_eq_true z)
          have et : ytk b n p = ysgN (b (ypl b n p)) (decide (ypl b n p + 1 < n ∧ b (ypl b n p + 1) = 61)) (decide (ypl b n p + 1 < n ∧ b (ypl b n p + 1) = 62)) := by unfold ytk; rw [if_pos hl, if_neg hc', if_neg hd']
          have en : ynx b n p = if ytk b n p = 28 ∨ ytk b n p = 30 ∨ ytk b n p = 31 then ypl b n p + 2 else ypl b n p + 1 := by unfold ynx; rw [if_pos hl, if_neg hc', if_neg hd']
          have ng : (decide (ypl b n p + 1 < n ∧ b (ypl b n p + 1) = 61) && decide (ypl b n p + 1 < n ∧ b (ypl b n p + 1) = 62)) = false := by
            by_cases z : ypl b n p + 1 < n ∧ b (ypl b n p + 1) = 61
            · rw [decide_eq_false (show ¬ (ypl b n p + 1 < n ∧ b (ypl b n p + 1) = 62) from fun w => by omega), Bool.and_false]
            · rw [decide_eq_false z, Bool.false_and]
          have rg := ysg_r _ bx _ _ ng
          have lt := ysg_lt _ bx (decide (ypl b n p + 1 < n ∧ b (ypl b n p + 1) = 61)) (decide (ypl b n p + 1 < n ∧ b (ypl b n p + 1) = 62))
          rw [← et] at rg lt
          rw [if_neg hd, if_pos rfl]
          refine zwp_bd (r_sign tx3 hn3 hl e3) ?_
          rintro _ M4 ⟨s1, s2, s3, f4⟩
          refine zwp_ret ⟨⟨hp, ?_, ?_, ?_, fun z => by omega, fun z => by omega, fun z => by omega, fun z1 z2 => ?_⟩, zfr_trans f3w (zfr_weak f4 (by unfold yRB yRg; omega))⟩
          · rw [s3, en]
            congr 1
            have q1 := rg.2.2
            rw [decide_eq_true_eq, decide_eq_true_eq] at q1
            by_cases z : ytk b n p = 28 ∨ ytk b n p = 30 ∨ ytk b n p = 31
            · rw [if_pos z, if_pos (q1.mp z)]
            · rw [if_neg z, if_neg (fun w => z (q1.mpr w))]
          · rw [f4 213 24 (by unfold yRg; omega)]; exact e4
          · rw [s1, rg.1]
          · rw [s2, rg.2.1 z2]
            congr 1
            simp only [decide_eq_true_eq]
    · have en : ynx b n p = ypl b n p := by unfold ynx; rw [if_neg hl]
      have et : ytk b n p = 38 := by unfold ytk; rw [if_neg hl]
      rw [if_neg hl, if_pos rfl]
      refine zwp_ret ⟨⟨hp, ?_, ?_, ?_, fun z => by omega, fun z => by omega, fun z => by omega, fun z => by omega⟩, zfr_trans f3w (zfr_mup (by unfold yRB; omega))⟩
      · rw [mup_off' (by decide), en]; exact e3
      · rw [mup_off' (by decide)]; exact e4
      · rw [mup_on, et]; rfl
end

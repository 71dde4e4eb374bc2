/-! the reference's tokens -/
def yof (w : Nat) : Nat := zsn (fun v => (yWl v).length + 1) w
theorem yof_f : ∀ w, w < 23 → yof w + (yWl w).length < 115 ∧ (yWl w).length ≤ 6 ∧ 1 ≤ (yWl w).length ∧ zch 1 (yof w + (yWl w).length) = 32 ∧ ∀ j, j < (yWl w).length → zch 1 (yof w + j) = Int32.ofNat (yWb w j) ∧ 97 ≤ yWb w j ∧ yWb w j ≤ 122 := by decide +kernel
theorem yof_23 : yof 23 = 115 := by decide +kernel
theorem yof_ln : zLn.getD 1 0 = 115 := by decide +kernel
theorem zco_of {k : Nat} (h : k < 115) : zco 1 (Int32.ofNat k) = some (zch 1 k) := by
  unfold zco
  rw [zi_cl (by omega), yof_ln, if_neg]
  rintro (e | e)
  · exact zi_nn (by omega) e
  · omega
theorem y32 {A B a c : Nat} (h : 32 * A + a = 32 * B + c) (ha : a < 32) (hc : c < 32) : A = B ∧ a = c := by omega
theorem ypk_inj {b b' : Nat → Nat} {q e q' e' : Nat} (h : ∀ k, ycd b q e k < 32) (h' : ∀ k, ycd b' q' e' k < 32) : ∀ n, ypk b q e n = ypk b' q' e' n → ∀ k, k < n → ycd b q e k = ycd b' q' e' k := by
  intro n
  induction n with
  | zero => intro _ k hk; omega
  | succ n ih =>
    intro z k hk
    obtain ⟨z1, z2⟩ := y32 (show 32 * ypk b q e n + ycd b q e n = 32 * ypk b' q' e' n + ycd b' q' e' n from z) (h n) (h' n)
    by_cases ek : k = n
    · subst ek; exact z2
    · exact ih z1 k (by omega)
theorem ypk_congr {b b' : Nat → Nat} {q e q' e' : Nat} : ∀ n, (∀ k, k < n → ycd b q e k = ycd b' q' e' k) → ypk b q e n = ypk b' q' e' n := by
  intro n
  induction n with
  | zero => intro _; rfl
  | succ n ih =>
    intro z
    show 32 * ypk b q e n + ycd b q e n = 32 * ypk b' q' e' n + ycd b' q' e' n
    rw [ih (fun k hk => z k (by omega)), z n (by omega)]
/-- it is that word just if its letters are -/
theorem ywd_iff {b : Nat → Nat} {q e w : Nat} (hw : w < 23) (hq : q ≤ e) (hl : ∀ i, q ≤ i → i < e → 97 ≤ b i ∧ b i ≤ 122) : ((yWl w).length = e - q ∧ ∀ j, j < (yWl w).length → b (q + j) = yWb w j) ↔ (e - q ≤ 6 ∧ yWp w = ypk b q e 6) := by
  obtain ⟨f1, f2, f3, f4, f5⟩ := yof_f w hw
  have c1 : ∀ k, ycd b q e k < 32 := fun k => by
    unfold ycd
    split
    · have := hl (q + k) (by omega) (by omega); omega
    · omega
  have c2 : ∀ k, ycd (yWb w) 0 (yWl w).length k < 32 := fun k => by
    unfold ycd
    split
    · next hk =>
      have := (f5 (0 + k) (by omega)).2
      omega
    · omega
  constructor
  · rintro ⟨z1, z2⟩
    refine ⟨by omega, ?_⟩
    unfold yWp
    refine ypk_congr 6 (fun k hk => ?_)
    unfold ycd
    by_cases hk : k < (yWl w).length
    · rw [if_pos (by omega), if_pos (by omega), z2 k hk, Nat.zero_add]
    · rw [if_neg (by omega), if_neg (by omega)]
  · rintro ⟨z1, z2⟩
    have d := ypk_inj c2 c1 6 z2
    have le : (yWl w).length = e - q := by
      by_cases g1 : (yWl w).length < e - q
      · have dk := d (yWl w).length (by omega)
        unfold ycd at dk
        rw [if_neg (by omega), if_pos (by omega)] at dk
        have := hl (q + (yWl w).length) (by omega) (by omega)
        omega
      · by_cases g2 : e - q < (yWl w).length
        · have dk := d (e - q) (by omega)
          unfold ycd at dk
          rw [if_pos (by omega), if_neg (by omega)] at dk
          have := (f5 (0 + (e - q)) (by omega)).2
          omega
        · omega
    refine ⟨le, fun j hj => ?_⟩
    have dk := d j (by omega)
    unfold ycd at dk
    rw [if_pos (by omega), if_pos (by omega), Nat.zero_add] at dk
    have g1 := (f5 j hj).2
    have g2 := hl (q + j) (by omega) (by omega)
    omega
def ysrt (k : Nat) : Nat := if k < 23 then 0 else if k = 36 then 1 else if k = 37 then 2 else if k = 38 then 4 else if k = 39 then 5 else 3
def yvs (k : Nat) : Nat := if k = 23 then 43 else if k = 24 then 45 else if k = 25 then 42 else if k = 26 then 47 else if k = 27 then 60 else if k = 28 then 256 else if k = 29 then 61 else if k = 30 then 257 else if k = 31 then 258 else if k = 32 then 62 else if k = 33 then 40 else if k = 34 then 41 else 59
/-- the reference's reader at the token that begins at p -/
def yRk (M : zMem) (b : Nat → Nat) (n p : Nat) : Prop :=
  p ≤ n ∧ M.1 213 23 = Int32.ofNat (ynx b n p) ∧ M.1 213 24 = Int32.ofNat (ypl b n p) ∧ M.1 213 25 = Int32.ofNat (ysrt (ytk b n p)) ∧
  (ytk b n p < 23 → M.1 213 26 = Int32.ofNat (ytk b n p)) ∧ (ytk b n p = 36 → M.1 213 26 = Int32.ofNat (ylt b n p)) ∧ (ytk b n p = 37 → M.1 213 26 = Int32.ofNat (yva b n p)) ∧ (23 ≤ ytk b n p → ytk b n p ≤ 35 → M.1 213 26 = Int32.ofNat (yvs (ytk b n p)))
def yRB (k i : Nat) : Prop := k = 213 ∧ 23 ≤ i ∧ i ≤ 26
section
variable {M : zMem} {b : Nat → Nat} {n : Nat}
theorem r_here (tx : yTx M b n) (hn : M.1 213 22 = Int32.ofNat n) {q : Nat} (hq : q ≤ n) (e : M.1 213 23 = Int32.ofNat q) : m_X8_here M = some (if q < n then Int32.ofNat (b q) else -1, M) := by
  have ln := tx.1
  unfold m_X8_here
  rw [hn, e]
  by_cases hl : q < n
  · rw [if_neg (by rw [zi_le (by omega) (by omega)]; omega), mrd_of (k := 214) (j := q) (by show q < 700; omega) (by decide), zob_some, (tx.2 q hl).2.1, if_pos hl]
  · rw [if_pos (by rw [zi_le (by omega) (by omega)]; omega), if_neg hl]
theorem r_isSmall {x : Nat} (hx : x < 256) : m_X8_isSmall (Int32.ofNat x) M = some (if 97 ≤ x ∧ x ≤ 122 then 1 else 0, M) := by
  unfold m_X8_isSmall
  by_cases h : 97 ≤ x ∧ x ≤ 122
  · obtain ⟨y1, y2⟩ := (yof_c x hx).1 h
    rw [if_neg y1, if_neg y2, if_pos h]
  · rw [if_neg h]
    rcases (yof_c x hx).2 h with y | ⟨y1, y2⟩
    · rw [if_pos y]
    · rw [if_neg y1, if_pos y2]
theorem r_isDigit {x : Nat} (hx : x < 256) : m_X8_isDigit (Int32.ofNat x) M = some (if 48 ≤ x ∧ x ≤ 57 then 1 else 0, M) := by
  unfold m_X8_isDigit
  by_cases h : 48 ≤ x ∧ x ≤ 57
  · obtain ⟨y1, y2⟩ := (yof_d x hx).1 h
    rw [if_neg y1, if_neg y2, if_pos h]
  · rw [if_neg h]
    rcases (yof_d x hx).2 h with y | ⟨y1, y2⟩
    · rw [if_pos y]
    · rw [if_neg y1, if_pos y2]
theorem r_word (tx : yTx M b n) {q e : Nat} (hq : q ≤ e) (he : e ≤ n) (hl : ∀ i, q ≤ i → i < e → 97 ≤ b i ∧ b i ≤ 122) (e1 : M.1 213 23 = Int32.ofNat e) (e2 : M.1 213 24 = Int32.ofNat q) :
    m_X8_word M = some (if e - q ≤ 6 ∧ ywt (ypk b q e 6) 0 23 < 23 then Int32.ofNat (ywt (ypk b q e 6) 0 23) else -1, M) := by
  have ln := tx.1
  have hfu : zLF = 100000 := rfl
  refine zwp_out ?_
  unfold m_X8_word
  refine zwp_bd (Q' := fun r M' => M' = M ∧ match r with
      | .inl _ => e - q ≤ 6 → ywt (ypk b q e 6) 0 23 = 36
      | .inr v => e - q ≤ 6 ∧ ywt (ypk b q e 6) 0 23 < 23 ∧ v = Int32.ofNat (ywt (ypk b q e 6) 0 23)) (zwp_for 0 23 (fun w st M' => st = (Int32.ofNat w, Int32.ofNat (yof w)) ∧ M' = M ∧ (e - q ≤ 6 → ywt (ypk b q e 6) 0 23 = ywt (ypk b q e 6) w (23 - w))) ?_ ?_ ⟨rfl, rfl, fun _ => rfl⟩ (by decide) (by decide)) ?_
  · rintro w st M1 - hw ⟨rfl, rfl, es⟩
    obtain ⟨f1, f2, f3, f4, f5⟩ := yof_f w hw
    have iff := ywd_iff (b := b) (q := q) (e := e) hw hq hl
    have st : ywt (ypk b q e 6) w (23 - w) = if yWp w = ypk b q e 6 then w else ywt (ypk b q e 6) (w + 1) (23 - (w + 1)) := by
      rw [show 23 - w = (23 - (w + 1)) + 1 by omega]
      rfl
    rw [if_neg (show ¬ (115 : Int32) ≤ Int32.ofNat (yof w) by rw [show (115 : Int32) = Int32.ofNat 115 from rfl, zi_le (by omega) (by omega)]; omega)]
    refine zwp_bd (Q' := fun s M' => M' = M1 ∧ ∃ i, s = Int32.ofNat i ∧ i ≤ (yWl w).length ∧ q + i ≤ e ∧ (∀ j, j < i → b (q + j) = yWb w j) ∧ (i = (yWl w).length ∨ q + i = e ∨ ¬ b (q + i) = yWb w i)) (zwp_lp (fun d s M' => M' = M1 ∧ ∃ i, d = (yWl w).length - i ∧ s = Int32.ofNat i ∧ i ≤ (yWl w).length ∧ q + i ≤ e ∧ ∀ j, j < i → b (q + j) = yWb w j) ?_ _ _ _ ⟨rfl, 0, rfl, rfl, by omega, by omega, fun j hj => absurd hj (by omega)⟩ (by omega)) ?_
    · rintro d s M2 ⟨rfl, i, rfl, rfl, h1, h2, h3⟩
      rw [show ((Int32.ofNat w, Int32.ofNat (yof w)) : Int32 × Int32).2 + Int32.ofNat i = Int32.ofNat (yof w + i) from (Int32.ofNat_add _ _).symm, zco_of (by omega), zob_some]
      by_cases g1 : i = (yWl w).length
      · rw [if_pos (by rw [g1]; exact f4)]
        exact zwp_ret ⟨rfl, i, rfl, h1, h2, h3, Or.inl g1⟩
      · have fj := f5 i (by omega)
        rw [fj.1, if_neg (by rw [show (32 : Int32) = Int32.ofNat 32 from rfl, zi_eq (by omega) (by omega)]; omega), e1, e2, ← Int32.ofNat_add]
        by_cases g2 : q + i = e
        · rw [if_pos (by rw [zi_le (by omega) (by omega)]; omega)]
          exact zwp_ret ⟨rfl, i, rfl, h1, h2, h3, Or.inr (Or.inl g2)⟩
        · have bx := (tx.2 (q + i) (by omega)).1
          rw [if_neg (by rw [zi_le (by omega) (by omega)]; omega), mrd_of (k := 214) (j := q + i) (by show q + i < 700; omega) (by decide), zob_some, (tx.2 (q + i) (by omega)).2.1]
          by_cases g3 : b (q + i) = yWb w i
          · rw [zob_some, if_pos (by rw [g3])]
            refine zwp_ret ⟨(yWl w).length - (i + 1), by omega, rfl, i + 1, rfl, yi_nn i, by omega, by omega, fun j hj => ?_⟩
            by_cases ej : j = i
            · subst ej; exact g3
            · exact h3 j (by omega)
          · rw [zob_some, if_neg (by rw [zi_eq (by omega) (by omega)]; exact g3)]
            exact zwp_ret ⟨rfl, i, rfl, h1, h2, h3, Or.inr (Or.inr g3)⟩
    · rintro s M2 ⟨rfl, i, rfl, h1, h2, h3, h4⟩
      rw [show ((Int32.ofNat w, Int32.ofNat (yof w)) : Int32 × Int32).2 + Int32.ofNat i = Int32.ofNat (yof w + i) from (Int32.ofNat_add _ _).symm, zco_of (by omega), zob_some, e1, e2, ← Int32.ofNat_add]
      by_cases mt : i = (yWl w).length ∧ q + i = e
      · obtain ⟨m1, m2⟩ := mt
        have ok := iff.mp ⟨by omega, fun j hj => h3 j (by omega)⟩
        rw [if_pos ok.2] at st
        have ew := (es ok.1).trans st
        rw [if_pos (by rw [m1]; exact f4), if_pos (by rw [m2]), mbd_some, zsl_r]
        exact zwp_ret ⟨rfl, ok.1, by omega, by rw [ew]⟩
      · have no : ¬ (e - q ≤ 6 ∧ yWp w = ypk b q e 6) := fun z => by
          obtain ⟨z1, z2⟩ := iff.mpr z
          rcases h4 with y | y | y
          · exact mt ⟨y, by omega⟩
          · exact mt ⟨by omega, y⟩
          · by_cases yi : i < (yWl w).length
            · exact y (z2 i yi)
            · exact mt ⟨by omega, by omega⟩
        have cond : (if zch 1 (yof w + i) = 32 then if Int32.ofNat (q + i) = Int32.ofNat e then some ((Sum.inr (Sum.inr (Sum.inr ((Int32.ofNat w, Int32.ofNat (yof w)) : Int32 × Int32).1)) : Unit ⊕ ((Int32 × Int32) ⊕ ((Int32 × Int32) ⊕ Int32))), M2) else some (Sum.inl (), M2) else some (Sum.inl (), M2)) = some (Sum.inl (), M2) := by
          by_cases g1 : i = (yWl w).length
          · rw [if_pos (by rw [g1]; exact f4), if_neg (by rw [zi_eq (by omega) (by omega)]; exact fun z => mt ⟨g1, z⟩)]
          · have fj := f5 i (by omega)
            rw [fj.1, if_neg (by rw [show (32 : Int32) = Int32.ofNat 32 from rfl, zi_eq (by omega) (by omega)]; omega)]
        rw [cond, mbd_some, zsl_l]
        refine zwp_bd (Q' := fun s M' => s = Int32.ofNat (yof w + (yWl w).length) ∧ M' = M2) (zwp_lp (fun d s M' => M' = M2 ∧ ∃ i, d = (yWl w).length - i ∧ s = Int32.ofNat (yof w + i) ∧ i ≤ (yWl w).length) ?_ _ _ _ ⟨rfl, 0, rfl, rfl, by omega⟩ (by omega)) ?_
        · rintro d s M3 ⟨rfl, j, rfl, rfl, hj⟩
          rw [zco_of (by omega), zob_some]
          by_cases g1 : j = (yWl w).length
          · rw [if_pos (by rw [g1]; exact f4)]
            exact zwp_ret ⟨by rw [g1], rfl⟩
          · have fj := f5 j (by omega)
            rw [fj.1, if_neg (by rw [show (32 : Int32) = Int32.ofNat 32 from rfl, zi_eq (by omega) (by omega)]; omega)]
            exact zwp_ret ⟨(yWl w).length - (j + 1), by omega, rfl, j + 1, rfl, yi_nn _, by omega⟩
        · rintro s M3 ⟨rfl, rfl⟩
          refine zwp_ret ⟨?_, rfl, fun z => ?_⟩
          · show (Int32.ofNat w + 1, Int32.ofNat (yof w + (yWl w).length) + 1) = _
            rw [yi_nn, yi_nn]
            rfl
          · rw [if_neg (fun y => no ⟨z, y⟩)] at st
            exact (es z).trans st
  · rintro st M1 ⟨rfl, rfl, es⟩
    rw [if_pos (show (115 : Int32) ≤ Int32.ofNat (yof 23) by rw [yof_23]; decide)]
    exact zwp_ret ⟨rfl, es⟩
  · rintro r M1 ⟨rfl, z⟩
    match r, z with
    | .inl _, z =>
      rw [zsl_l]
      refine zwp_ret ⟨?_, rfl⟩
      rw [if_neg]
      rintro ⟨y1, y2⟩
      rw [z y1] at y2
      omega
    | .inr v, z =>
      rw [zsl_r]
      exact zwp_ret ⟨by rw [if_pos ⟨z.1, z.2.1⟩]; exact z.2.2, rfl⟩
theorem r_name (tx : yTx M b n) {q e : Nat} (hq : q ≤ e) (he : e ≤ n) (hl : ∀ i, q ≤ i → i < e → 97 ≤ b i ∧ b i ≤ 122) (e1 : M.1 213 23 = Int32.ofNat e) (e2 : M.1 213 24 = Int32.ofNat q) : zwp (m_X8_name M) (fun _ M' => M'.1 213 26 = Int32.ofNat (ypk b q e 6) ∧ zfr (fun k i => k = 213 ∧ i = 26) M M') := by
  have ln := tx.1
  have c1 : ∀ k, ycd b q e k < 32 := fun k => by
    unfold ycd
    split
    · have := hl (q + k) (by omega) (by omega); omega
    · omega
  unfold m_X8_name
  rw [mlt_eq]
  refine yfor (n := 6) (I := fun k M' => M'.1 213 26 = Int32.ofNat (ypk b q e k) ∧ zfr (fun k i => k = 213 ∧ i = 26) M M') ⟨mup_on, zfr_mup ⟨rfl, rfl⟩⟩ (by decide) ?_ (fun M' _ => if_pos (by decide)) (fun _ M' z => zwp_ret z)
  rintro k M1 hk ⟨v1, f1⟩
  have lt := ypk_lt c1 k (by omega)
  have l32 : 32 ^ k ≤ 32 ^ 5 := Nat.pow_le_pow_right (by decide) (by omega)
  have n5 : 32 ^ 5 = 33554432 := by decide
  have ck := c1 k
  rw [if_neg (yge hk (by decide)), f1 213 23 (by omega), e1, f1 213 24 (by omega), e2, ← Int32.ofNat_add, v1]
  have ec : (if Int32.ofNat e ≤ Int32.ofNat (q + k) then some ((0 : Int32), M1) else zob (mrd M1 214 (Int32.ofNat (q + k))) (fun v11 => some (((v11 - 97) + 1), M1))) = some (Int32.ofNat (ycd b q e k), M1) := by
    unfold ycd
    by_cases g : q + k < e
    · have bl := hl (q + k) (by omega) g
      rw [if_neg (by rw [zi_le (by omega) (by omega)]; omega), mrd_of (k := 214) (j := q + k) (by show q + k < 700; omega) (by decide), zob_some, f1 214 (q + k) (by omega), (tx.2 (q + k) (by omega)).2.1, if_pos g, show (97 : Int32) = Int32.ofNat 97 from rfl, yi_sub (by omega), yi_nn]
      congr 3
      omega
    · rw [if_pos (by rw [zi_le (by omega) (by omega)]; omega), if_neg g]
      rfl
  rw [ec, mbd_some, ysl5 (by omega), yor_of (by omega) (by omega)]
  refine zwp_ret ⟨rfl, ?_, zfr_trans f1 (zfr_mup ⟨rfl, rfl⟩)⟩
  rw [mup_on]
  congr 1
  exact (Nat.two_pow_add_eq_or_of_lt (i := 5) ck (ypk b q e k)).symm
end

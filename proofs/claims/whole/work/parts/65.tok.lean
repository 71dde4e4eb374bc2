/-! the text: tokens, by where they begin -/
def yrf (P : Nat → Bool) (n : Nat) : Nat → Nat → Nat
  | 0, p => p
  | k + 1, p => if p < n ∧ P p = true then yrf P n k (p + 1) else p
def yrn (P : Nat → Bool) (n p : Nat) : Nat := yrf P n (n - p) p
theorem yrn_go {P : Nat → Bool} {n p : Nat} (h : p < n) (h' : P p = true) : yrn P n p = yrn P n (p + 1) := by
  unfold yrn
  rw [show n - p = (n - (p + 1)) + 1 by omega]
  show (if p < n ∧ P p = true then _ else _) = _
  rw [if_pos ⟨h, h'⟩]
theorem yrn_st {P : Nat → Bool} {n p : Nat} (h : ¬ (p < n ∧ P p = true)) : yrn P n p = p := by
  unfold yrn
  cases n - p with
  | zero => rfl
  | succ k => show (if p < n ∧ P p = true then _ else _) = _; rw [if_neg h]
theorem yrf_b {P : Nat → Bool} {n : Nat} : ∀ k p, p ≤ yrf P n k p ∧ (p ≤ n → yrf P n k p ≤ n) ∧ ∀ i, p ≤ i → i < yrf P n k p → i < n ∧ P i = true := by
  intro k
  induction k with
  | zero => intro p; exact ⟨Nat.le_refl _, fun h => h, fun i h1 h2 => absurd h2 (by show ¬ i < p; omega)⟩
  | succ k ih =>
    intro p
    show p ≤ (if p < n ∧ P p = true then _ else _) ∧ (p ≤ n → (if p < n ∧ P p = true then _ else _) ≤ n) ∧ ∀ i, p ≤ i → i < (if p < n ∧ P p = true then _ else _) → _
    by_cases h : p < n ∧ P p = true
    · rw [if_pos h]
      have q := ih (p + 1)
      refine ⟨by omega, fun _ => q.2.1 (by omega), fun i h1 h2 => ?_⟩
      by_cases e : i = p
      · subst e; exact h
      · exact q.2.2 i (by omega) h2
    · rw [if_neg h]
      exact ⟨Nat.le_refl _, fun h => h, fun i h1 h2 => absurd h2 (by omega)⟩
theorem yrn_ge {P : Nat → Bool} {n p : Nat} : p ≤ yrn P n p := (yrf_b _ _).1
theorem yrn_le {P : Nat → Bool} {n p : Nat} (h : p ≤ n) : yrn P n p ≤ n := (yrf_b _ _).2.1 h
theorem yrn_in {P : Nat → Bool} {n p i : Nat} (h1 : p ≤ i) (h2 : i < yrn P n p) : i < n ∧ P i = true := (yrf_b _ _).2.2 i h1 h2
def ypb (b : Nat → Nat) (i : Nat) : Bool := decide (b i = 10 ∨ b i = 32)
def ypc (b : Nat → Nat) (i : Nat) : Bool := decide (97 ≤ b i ∧ b i ≤ 122)
def ypd (b : Nat → Nat) (i : Nat) : Bool := decide (48 ≤ b i ∧ b i ≤ 57)
/-- a byte as the class keeps it -/
def yby (x : Nat) : Int32 := vp_nar .byte (Int32.ofNat x)
theorem yby_c : ∀ x, x < 256 → (97 ≤ x ∧ x ≤ 122 → ¬ yby x < 97 ∧ ¬ (122 : Int32) < yby x ∧ yby x = Int32.ofNat x) ∧ (¬ (97 ≤ x ∧ x ≤ 122) → yby x < 97 ∨ (¬ yby x < 97 ∧ (122 : Int32) < yby x)) := by decide +kernel
theorem yby_d : ∀ x, x < 256 → (48 ≤ x ∧ x ≤ 57 → ¬ yby x < 48 ∧ ¬ (57 : Int32) < yby x ∧ yby x = Int32.ofNat x) ∧ (¬ (48 ≤ x ∧ x ≤ 57) → yby x < 48 ∨ (¬ yby x < 48 ∧ (57 : Int32) < yby x)) := by decide +kernel
theorem yby_b : ∀ x, x < 256 → (yby x = 10 ↔ x = 10) ∧ (yby x = 32 ↔ x = 32) ∧ (yby x = 61 ↔ x = 61) ∧ (yby x = 62 ↔ x = 62) := by decide +kernel
theorem yof_c : ∀ x, x < 256 → (97 ≤ x ∧ x ≤ 122 → ¬ Int32.ofNat x < 97 ∧ ¬ (122 : Int32) < Int32.ofNat x) ∧ (¬ (97 ≤ x ∧ x ≤ 122) → Int32.ofNat x < 97 ∨ (¬ Int32.ofNat x < 97 ∧ (122 : Int32) < Int32.ofNat x)) := by decide +kernel
theorem yof_d : ∀ x, x < 256 → (48 ≤ x ∧ x ≤ 57 → ¬ Int32.ofNat x < 48 ∧ ¬ (57 : Int32) < Int32.ofNat x) ∧ (¬ (48 ≤ x ∧ x ≤ 57) → Int32.ofNat x < 48 ∨ (¬ Int32.ofNat x < 48 ∧ (57 : Int32) < Int32.ofNat x)) := by decide +kernel
/-- signs -/
def ysgN (x : Nat) (e1 e2 : Bool) : Nat := if x = 40 then 33 else if x = 41 then 34 else if x = 42 then 25 else if x = 43 then 23 else if x = 45 then 24 else if x = 47 then 26 else if x = 59 then 35 else if x = 60 then (if e1 then 28 else if e2 then 30 else 27) else if x = 61 then 29 else if x = 62 then (if e1 then 31 else 32) else 39
def ysgI (a0 : Int32) (e1 e2 : Bool) : Int32 := if a0 = 40 then 33 else if a0 = 41 then 34 else if a0 = 42 then 25 else if a0 = 43 then 23 else if a0 = 45 then 24 else if a0 = 47 then 26 else if a0 = 59 then 35 else if a0 = 60 then (if e1 then 28 else if e2 then 30 else 27) else if a0 = 61 then 29 else if a0 = 62 then (if e1 then 31 else 32) else 39
theorem ysg_e : ∀ x, x < 256 → ∀ e1 e2 : Bool, ysgI (yby x) e1 e2 = Int32.ofNat (ysgN x e1 e2) := by decide +kernel
theorem ysg_lt : ∀ x, x < 256 → ∀ e1 e2 : Bool, 23 ≤ ysgN x e1 e2 ∧ ysgN x e1 e2 ≤ 39 ∧ ¬ ysgN x e1 e2 = 36 ∧ ¬ ysgN x e1 e2 = 37 ∧ ¬ ysgN x e1 e2 = 38 := by decide +kernel
theorem c_signToken (a0 a1 : Int32) (M : zMem) : m_X4_signToken a0 a1 M = some (ysgI a0 (decide (a1 = 61)) (decide (a1 = 62)), M) := by
  unfold m_X4_signToken ysgI
  by_cases h1 : a0 = 40
  · subst h1; rfl
  by_cases h2 : a0 = 41
  · subst h2; rfl
  by_cases h3 : a0 = 42
  · subst h3; rfl
  by_cases h4 : a0 = 43
  · subst h4; rfl
  by_cases h5 : a0 = 45
  · subst h5; rfl
  by_cases h6 : a0 = 47
  · subst h6; rfl
  by_cases h7 : a0 = 59
  · subst h7; rfl
  by_cases h8 : a0 = 60
  · subst h8
    by_cases g1 : a1 = 61
    · subst g1; rfl
    · by_cases g2 : a1 = 62
      · subst g2; rfl
      · rw [decide_eq_false g1, decide_eq_false g2]
        show (if a1 = 61 then _ else if a1 = 62 then _ else _) = _
        rw [if_neg g1, if_neg g2]
        rfl
  by_cases h9 : a0 = 61
  · subst h9; rfl
  by_cases h10 : a0 = 62
  · subst h10
    by_cases g1 : a1 = 61
    · subst g1; rfl
    · rw [decide_eq_false g1]
      show (if a1 = 61 then _ else _) = _
      rw [if_neg g1]
      rfl
  simp only [h1, h2, h3, h4, h5, h6, h7, h8, h9, h10, if_false, ite_self]
/-- a letter of a name, and names in five bits a letter -/
def ycd (b : Nat → Nat) (q e k : Nat) : Nat := if q + k < e then b (q + k) - 96 else 0
def ypk (b : Nat → Nat) (q e : Nat) : Nat → Nat
  | 0 => 0
  | k + 1 => 32 * ypk b q e k + ycd b q e k
def yWs : List (List Nat) := [[119, 97, 116, 101, 114], [104, 105, 108, 108], [102, 105, 101, 108, 100], [99, 108, 111, 117, 100], [99, 104, 105, 108, 100], [119, 105, 110, 100], [114, 97, 105, 110], [109, 111, 115, 116], [115, 101, 101, 100], [108, 97, 119], [103, 114, 111, 119], [102, 97, 108, 108], [109, 97, 114, 107], [111, 114], [97, 110, 100], [110, 111, 116], [115, 105, 122, 101], [103, 114, 111, 117, 110, 100], [97, 103, 101], [102, 97, 114], [109, 97, 110, 121], [109, 97, 114, 107, 115], [104, 111, 117, 114]]
def yWl (w : Nat) : List Nat := yWs.getD w []
def yWb (w j : Nat) : Nat := (yWl w).getD j 0
/-- the words' numbers -/
def yWp (w : Nat) : Nat := ypk (yWb w) 0 (yWl w).length 6
def ywt (x : Nat) : Nat → Nat → Nat
  | _, 0 => 36
  | w, k + 1 => if yWp w = x then w else ywt x (w + 1) k
section
variable (b : Nat → Nat) (n : Nat)
/-- where the token that begins at p stands, which it is, its number, its letters, and where the next one begins -/
def ypl (p : Nat) : Nat := yrn (ypb b) n p
def ytk (p : Nat) : Nat := if ypl b n p < n then
    (if ypc b (ypl b n p) = true then (if yrn (ypc b) n (ypl b n p) - ypl b n p ≤ 6 then ywt (ypk b (ypl b n p) (yrn (ypc b) n (ypl b n p)) 6) 0 23 else 39)
     else if ypd b (ypl b n p) = true then 37
     else ysgN (b (ypl b n p)) (decide (ypl b n p + 1 < n ∧ b (ypl b n p + 1) = 61)) (decide (ypl b n p + 1 < n ∧ b (ypl b n p + 1) = 62)))
  else 38
def ynx (p : Nat) : Nat := if ypl b n p < n then
    (if ypc b (ypl b n p) = true then yrn (ypc b) n (ypl b n p)
     else if ypd b (ypl b n p) = true then yrn (ypd b) n (ypl b n p)
     else if ytk b n p = 28 ∨ ytk b n p = 30 ∨ ytk b n p = 31 then ypl b n p + 2 else ypl b n p + 1)
  else ypl b n p
def ylt (p : Nat) : Nat := ypk b (ypl b n p) (yrn (ypc b) n (ypl b n p)) 6
end
/-- a number held at what is beyond all that may be told -/
def yvl (b : Nat → Nat) (q : Nat) : Nat → Nat
  | 0 => 0
  | k + 1 => if 99999 < yvl b q k then yvl b q k else 10 * yvl b q k + (b (q + k) - 48)
def yvc (b : Nat → Nat) (q : Nat) : Nat → Nat
  | 0 => 0
  | k + 1 => if 1000000 < 10 * yvc b q k + (b (q + k) - 48) then 1000000 else 10 * yvc b q k + (b (q + k) - 48)
def yva (b : Nat → Nat) (n p : Nat) : Nat := yvl b (ypl b n p) (yrn (ypd b) n (ypl b n p) - ypl b n p)
theorem yv_rel {b : Nat → Nat} {q : Nat} (k : Nat) (h : ∀ i, i < k → 48 ≤ b (q + i) ∧ b (q + i) ≤ 57) : (yvc b q k = yvl b q k ∧ yvl b q k ≤ 99999) ∨ (99999 < yvc b q k ∧ yvc b q k ≤ 1000000 ∧ 99999 < yvl b q k ∧ yvl b q k ≤ 1000000) := by
  induction k with
  | zero => left; exact ⟨rfl, by show 0 ≤ _; omega⟩
  | succ k ih =>
    have i := ih (fun i hi => h i (by omega))
    have d := h k (by omega)
    show ((if 1000000 < 10 * yvc b q k + (b (q + k) - 48) then 1000000 else 10 * yvc b q k + (b (q + k) - 48)) = (if 99999 < yvl b q k then yvl b q k else 10 * yvl b q k + (b (q + k) - 48)) ∧ (if 99999 < yvl b q k then yvl b q k else 10 * yvl b q k + (b (q + k) - 48)) ≤ 99999) ∨ (99999 < (if 1000000 < 10 * yvc b q k + (b (q + k) - 48) then 1000000 else 10 * yvc b q k + (b (q + k) - 48)) ∧ (if 1000000 < 10 * yvc b q k + (b (q + k) - 48) then 1000000 else 10 * yvc b q k + (b (q + k) - 48)) ≤ 1000000 ∧ 99999 < (if 99999 < yvl b q k then yvl b q k else 10 * yvl b q k + (b (q + k) - 48)) ∧ (if 99999 < yvl b q k then yvl b q k else 10 * yvl b q k + (b (q + k) - 48)) ≤ 1000000)
    rcases i with ⟨i1, i2⟩ | ⟨i1, i2, i3, i4⟩
    · rw [i1]
      rw [if_neg (show ¬ 99999 < yvl b q k by omega), if_neg (show ¬ 1000000 < 10 * yvl b q k + (b (q + k) - 48) by omega)]
      omega
    · right
      rw [if_pos i3]
      split <;> omega
/-- the text that is read -/
def yTx (M : zMem) (b : Nat → Nat) (n : Nat) : Prop := n ≤ 700 ∧ ∀ i, i < n → b i < 256 ∧ M.1 214 i = Int32.ofNat (b i) ∧ M.1 1 i = yby (b i)
/-- the class's reader at the token that begins at p -/
def yCk (M : zMem) (b : Nat → Nat) (n p : Nat) : Prop :=
  p ≤ n ∧ M.1 2 3 = Int32.ofNat (ynx b n p) ∧ M.1 2 5 = Int32.ofNat (ypl b n p) ∧ M.1 2 4 = Int32.ofNat (ytk b n p) ∧
  (ytk b n p = 37 → ∃ c, M.1 2 6 = Int32.ofNat c ∧ ((c = yva b n p ∧ yva b n p ≤ 99999) ∨ (99999 < c ∧ c ≤ 1000000 ∧ 99999 < yva b n p))) ∧
  (ytk b n p = 36 → M.1 2 7 = Int32.ofNat (ylt b n p))
/-- the words, the text's length, where it lies -/
def yRb (M : zMem) (n : Nat) : Prop := M.1 2 1 = 1 ∧ M.1 2 2 = Int32.ofNat n ∧ ∀ w, w < 23 → M.1 3 w = Int32.ofNat (yWp w)
def yRA (k i : Nat) : Prop := k = 2 ∧ (i = 3 ∨ i = 4 ∨ i = 5 ∨ i = 6 ∨ i = 7)
theorem ypl_le {b : Nat → Nat} {n p : Nat} (h : p ≤ n) : p ≤ ypl b n p ∧ ypl b n p ≤ n := ⟨yrn_ge, yrn_le h⟩
theorem ynx_le {b : Nat → Nat} {n p : Nat} (hb : ∀ i, i < n → b i < 256) (h : p ≤ n) : ypl b n p ≤ ynx b n p ∧ ynx b n p ≤ n ∧ (¬ ytk b n p = 38 → p < ynx b n p) := by
  have l := ypl_le (b := b) h
  unfold ynx
  by_cases e : ypl b n p < n
  · rw [if_pos e]
    by_cases e1 : ypc b (ypl b n p) = true
    · rw [if_pos e1]
      have g : ypl b n p + 1 ≤ yrn (ypc b) n (ypl b n p) := by rw [yrn_go e e1]; exact yrn_ge
      exact ⟨by omega, yrn_le l.2, fun _ => by omega⟩
    · rw [if_neg e1]
      by_cases e2 : ypd b (ypl b n p) = true
      · rw [if_pos e2]
        have g : ypl b n p + 1 ≤ yrn (ypd b) n (ypl b n p) := by rw [yrn_go e e2]; exact yrn_ge
        exact ⟨by omega, yrn_le l.2, fun _ => by omega⟩
      · rw [if_neg e2]
        have et : ytk b n p = ysgN (b (ypl b n p)) (decide (ypl b n p + 1 < n ∧ b (ypl b n p + 1) = 61)) (decide (ypl b n p + 1 < n ∧ b (ypl b n p + 1) = 62)) := by
          unfold ytk
          rw [if_pos e, if_neg e1, if_neg e2]
        by_cases e3 : ytk b n p = 28 ∨ ytk b n p = 30 ∨ ytk b n p = 31
        · rw [if_pos e3]
          have : ypl b n p + 1 < n := by
            rw [et] at e3
            by_cases q1 : ypl b n p + 1 < n
            · exact q1
            · rw [decide_eq_false (fun z => q1 z.1), decide_eq_false (fun z => q1 z.1)] at e3
              have key : ∀ x, x < 256 → ¬ (ysgN x false false = 28 ∨ ysgN x false false = 30 ∨ ysgN x false false = 31) := by decide +kernel
              exact absurd e3 (key _ (hb _ e))
          exact ⟨by omega, by omega, fun _ => by omega⟩
        · rw [if_neg e3]
          exact ⟨by omega, by omega, fun _ => by omega⟩
  · rw [if_neg e]
    refine ⟨Nat.le_refl _, l.2, fun z => absurd ?_ z⟩
    unfold ytk
    rw [if_neg e]

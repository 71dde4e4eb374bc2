/-! a law's E, token by token: what waits, what is out -/
def yrank (t : Nat) : Nat := if t = 13 then 1 else if t = 14 then 2 else if t = 15 then 3 else if 27 ≤ t ∧ t ≤ 32 then 4 else if t = 23 ∨ t = 24 then 5 else if t = 25 ∨ t = 26 then 6 else 0
def yop (t : Nat) : yK := .inr (.inr t)
def yflush (v : List Nat) : List yK := v.map yop
def ytop : List Nat → Nat
  | [] => 0
  | t :: _ => yrank t
def ypop (r : Nat) : List Nat → List Nat × List yK
  | [] => ([], [])
  | t :: w => if r < yrank t then ((ypop r w).1, yop t :: (ypop r w).2) else (t :: w, [])
theorem ypop_st {r : Nat} {w : List Nat} (h : ytop w ≤ r) : ypop r w = (w, []) := by
  cases w with
  | nil => rfl
  | cons t w => show (if r < yrank t then _ else _) = _; rw [if_neg (by have : yrank t ≤ r := h; omega)]
theorem ypop_app {r : Nat} {w : List Nat} : ∀ v : List Nat, (∀ t, t ∈ v → r < yrank t) → ypop r (v ++ w) = ((ypop r w).1, yflush v ++ (ypop r w).2) := by
  intro v
  induction v with
  | nil => intro _; rfl
  | cons t v ih =>
    intro h
    show (if r < yrank t then ((ypop r (v ++ w)).1, yop t :: (ypop r (v ++ w)).2) else _) = _
    rw [if_pos (h t (List.mem_cons_self ..)), ih (fun x hx => h x (List.mem_cons_of_mem _ hx))]
    rfl
abbrev yX : Type := Bool × Nat × List Nat × List yK × Nat × Nat
abbrev yRz : Type := (Nat × Nat) ⊕ (List yK × Nat × Nat)
def ystp (b : Nat → Nat) (n : Nat) : yX → yRz ⊕ yX
  | (true, p, w, out, cnt, opn) =>
    if ytk b n p = 33 then (if 8 ≤ opn then .inl (.inl (2, ypl b n p)) else .inr (true, ynx b n p, 33 :: w, out, cnt, opn + 1))
    else if ytk b n p = 15 then (if ytop w < 4 then (if 64 ≤ cnt then .inl (.inl (2, ypl b n p)) else .inr (true, ynx b n p, 15 :: w, out, cnt + 1, opn)) else .inl (.inl (1, ypl b n p)))
    else if ytk b n p = 37 then (if 64 ≤ cnt ∨ 9999 < yva b n p then .inl (.inl (2, ypl b n p)) else .inr (false, ynx b n p, w, out ++ [.inl (Int32.ofNat (yva b n p))], cnt + 1, opn))
    else if 16 ≤ ytk b n p ∧ ytk b n p ≤ 22 then (if 64 ≤ cnt then .inl (.inl (2, ypl b n p)) else .inr (false, ynx b n p, w, out ++ [.inr (.inl (ytk b n p - 16))], cnt + 1, opn))
    else .inl (.inl (1, ypl b n p))
  | (false, p, w, out, cnt, opn) =>
    if ytk b n p = 34 ∧ 0 < opn then .inr (false, ynx b n p, (ypop 0 w).1.drop 1, out ++ (ypop 0 w).2, cnt, opn - 1)
    else if yrank (ytk b n p) = 0 ∨ ytk b n p = 15 then (if 0 < opn then .inl (.inl (1, ypl b n p)) else .inl (.inr (out ++ (ypop 0 w).2, p, cnt)))
    else if yrank (ytk b n p) = 4 ∧ ytop (ypop 4 w).1 = 4 then .inl (.inl (1, ypl b n p))
    else if 64 ≤ cnt then .inl (.inl (2, ypl b n p))
    else .inr (true, ynx b n p, ytk b n p :: (ypop (if yrank (ytk b n p) = 4 then 4 else yrank (ytk b n p) - 1) w).1, out ++ (ypop (if yrank (ytk b n p) = 4 then 4 else yrank (ytk b n p) - 1) w).2, cnt + 1, opn)
theorem ystp_a {b : Nat → Nat} {n p : Nat} {w : List Nat} {out : List yK} {cnt opn : Nat} : ystp b n (true, p, w, out, cnt, opn) =
   (if ytk b n p = 33 then (if 8 ≤ opn then .inl (.inl (2, ypl b n p)) else .inr (true, ynx b n p, 33 :: w, out, cnt, opn + 1))
    else if ytk b n p = 15 then (if ytop w < 4 then (if 64 ≤ cnt then .inl (.inl (2, ypl b n p)) else .inr (true, ynx b n p, 15 :: w, out, cnt + 1, opn)) else .inl (.inl (1, ypl b n p)))
    else if ytk b n p = 37 then (if 64 ≤ cnt ∨ 9999 < yva b n p then .inl (.inl (2, ypl b n p)) else .inr (false, ynx b n p, w, out ++ [.inl (Int32.ofNat (yva b n p))], cnt + 1, opn))
    else if 16 ≤ ytk b n p ∧ ytk b n p ≤ 22 then (if 64 ≤ cnt then .inl (.inl (2, ypl b n p)) else .inr (false, ynx b n p, w, out ++ [.inr (.inl (ytk b n p - 16))], cnt + 1, opn))
    else .inl (.inl (1, ypl b n p))) := rfl
theorem ystp_n {b : Nat → Nat} {n p : Nat} {w : List Nat} {out : List yK} {cnt opn : Nat} : ystp b n (false, p, w, out, cnt, opn) =
   (if ytk b n p = 34 ∧ 0 < opn then .inr (false, ynx b n p, (ypop 0 w).1.drop 1, out ++ (ypop 0 w).2, cnt, opn - 1)
    else if yrank (ytk b n p) = 0 ∨ ytk b n p = 15 then (if 0 < opn then .inl (.inl (1, ypl b n p)) else .inl (.inr (out ++ (ypop 0 w).2, p, cnt)))
    else if yrank (ytk b n p) = 4 ∧ ytop (ypop 4 w).1 = 4 then .inl (.inl (1, ypl b n p))
    else if 64 ≤ cnt then .inl (.inl (2, ypl b n p))
    else .inr (true, ynx b n p, ytk b n p :: (ypop (if yrank (ytk b n p) = 4 then 4 else yrank (ytk b n p) - 1) w).1, out ++ (ypop (if yrank (ytk b n p) = 4 then 4 else yrank (ytk b n p) - 1) w).2, cnt + 1, opn)) := rfl
def yrX (b : Nat → Nat) (n : Nat) : Nat → yX → yRz
  | 0, _ => .inl (0, 0)
  | k + 1, X => match ystp b n X with
    | .inl r => r
    | .inr X' => yrX b n k X'
def yrZ (b : Nat → Nat) (n : Nat) (X : yX) : yRz := yrX b n (705 - X.2.1) X
section
variable {b : Nat → Nat} {n : Nat}
theorem ystp_p (hb : ∀ i, i < n → b i < 256) {X X' : yX} (hp : X.2.1 ≤ n) (h : ystp b n X = .inr X') : X.2.1 < X'.2.1 ∧ X'.2.1 ≤ n := by
  obtain ⟨m, p, w, out, cnt, opn⟩ := X
  have hp : p ≤ n := hp
  have g := ynx_le hb hp
  have key : ¬ ytk b n p = 38 → X'.2.1 = ynx b n p → p < X'.2.1 ∧ X'.2.1 ≤ n := fun a c => by rw [c]; exact ⟨g.2.2 a, g.2.1⟩
  cases m with
  | true =>
    rw [ystp_a] at h
    by_cases e1 : ytk b n p = 33
    · rw [if_pos e1] at h
      split at h
      · cases h
      · cases h; exact key (by omega) rfl
    · rw [if_neg e1] at h
      by_cases e2 : ytk b n p = 15
      · rw [if_pos e2] at h
        split at h
        · split at h
          · cases h
          · cases h; exact key (by omega) rfl
        · cases h
      · rw [if_neg e2] at h
        by_cases e3 : ytk b n p = 37
        · rw [if_pos e3] at h
          split at h
          · cases h
          · cases h; exact key (by omega) rfl
        · rw [if_neg e3] at h
          by_cases e4 : 16 ≤ ytk b n p ∧ ytk b n p ≤ 22
          · rw [if_pos e4] at h
            split at h
            · cases h
            · cases h; exact key (by omega) rfl
          · rw [if_neg e4] at h; cases h
  | false =>
    rw [ystp_n] at h
    by_cases e1 : ytk b n p = 34 ∧ 0 < opn
    · rw [if_pos e1] at h
      cases h
      exact key (by omega) rfl
    · rw [if_neg e1] at h
      by_cases e2 : yrank (ytk b n p) = 0 ∨ ytk b n p = 15
      · rw [if_pos e2] at h
        split at h <;> cases h
      · rw [if_neg e2] at h
        split at h
        · cases h
        · split at h
          · cases h
          · cases h
            exact key (fun z => e2 (Or.inl (by rw [z]; rfl))) rfl
theorem yrX_st (hn : n ≤ 700) (hb : ∀ i, i < n → b i < 256) : ∀ k1 k2 (X : yX), X.2.1 ≤ n → 705 - X.2.1 ≤ k1 → 705 - X.2.1 ≤ k2 → yrX b n k1 X = yrX b n k2 X := by
  intro k1
  induction k1 with
  | zero => intro k2 X h1 h2; omega
  | succ k1 ih =>
    intro k2 X h1 h2 h3
    obtain ⟨k2, rfl⟩ : ∃ k, k2 = k + 1 := ⟨k2 - 1, by omega⟩
    show (match ystp b n X with | .inl r => r | .inr X' => yrX b n k1 X') = (match ystp b n X with | .inl r => r | .inr X' => yrX b n k2 X')
    cases e : ystp b n X with
    | inl r => rfl
    | inr X' =>
      have g := ystp_p hb h1 e
      exact ih k2 X' g.2 (by omega) (by omega)
theorem yrZ_go (hn : n ≤ 700) (hb : ∀ i, i < n → b i < 256) {X X' : yX} (hp : X.2.1 ≤ n) (h : ystp b n X = .inr X') : yrZ b n X = yrZ b n X' := by
  have g := ystp_p hb hp h
  unfold yrZ
  rw [show 705 - X.2.1 = (704 - X.2.1) + 1 by omega]
  show (match ystp b n X with | .inl r => r | .inr X' => yrX b n (704 - X.2.1) X') = _
  rw [h]
  exact yrX_st hn hb _ _ X' g.2 (by omega) (by omega)
theorem yrZ_end (hn : n ≤ 700) {X : yX} (hp : X.2.1 ≤ n) {r : yRz} (h : ystp b n X = .inl r) : yrZ b n X = r := by
  unfold yrZ
  rw [show 705 - X.2.1 = (704 - X.2.1) + 1 by omega]
  show (match ystp b n X with | .inl r => r | .inr X' => yrX b n (704 - X.2.1) X') = _
  rw [h]
end
/-! the reference's E -/
def yEP (K0 : Nat) (k i : Nat) : Prop := (k = 213 ∧ (23 ≤ i ∧ i ≤ 28 ∨ i = 31 ∨ i = 32)) ∨ (k = 215 ∧ i = 15) ∨ ((k = 230 ∨ k = 231) ∧ 64 + K0 ≤ i)
/-- at the token p with so much out -/
def yRE (M : zMem) (b : Nat → Nat) (n K0 d p : Nat) (out : List yK) (cnt opn : Nat) : Prop :=
  yTx M b n ∧ M.1 213 22 = Int32.ofNat n ∧ M.1 213 27 = 0 ∧ yRk M b n p ∧ M.1 213 32 = Int32.ofNat cnt ∧ M.1 213 31 = Int32.ofNat opn ∧ cnt ≤ 64 ∧ opn ≤ 8 ∧ K0 + out.length + d ≤ cnt ∧ M.1 215 15 = Int32.ofNat (K0 + out.length) ∧ ∀ j, (hj : j < out.length) → M.1 230 (64 + K0 + j) = yKs out[j] ∧ M.1 231 (64 + K0 + j) = yKv out[j]
def yRF (M : zMem) (f : Nat × Nat) : Prop := (f.1 = 1 ∨ f.1 = 2 ∨ f.1 = 3) ∧ M.1 213 27 = Int32.ofNat f.1 ∧ M.1 213 28 = Int32.ofNat f.2
theorem yRF.ne {M : zMem} {f : Nat × Nat} (h : yRF M f) : ¬ M.1 213 27 = 0 := by
  rw [h.2.1]
  rcases h.1 with e | e | e <;> rw [e] <;> decide
def yEc (l : Nat) : Nat := if l = 0 then 7 else if l = 1 then 6 else if l = 2 then 5 else if l = 3 then 4 else if l = 4 then 3 else 2
section
variable {M : zMem} {b : Nat → Nat} {n : Nat}
theorem r_isWord_f {f : Nat × Nat} (h : yRF M f) (w : Int32) : m_X8_isWord w M = some (0, M) := by
  unfold m_X8_isWord
  rw [if_neg h.ne]
theorem r_isSign_f {f : Nat × Nat} (h : yRF M f) (w : Int32) : m_X8_isSign w M = some (0, M) := by
  unfold m_X8_isSign
  rw [if_neg h.ne]
theorem r_knot_f {f : Nat × Nat} (h : yRF M f) : m_X8_knot M = some ((), M) := by
  unfold m_X8_knot
  rw [if_neg h.ne]
theorem r_goOn_f {f : Nat × Nat} (h : yRF M f) : m_X8_goOn M = some ((), M) := by
  unfold m_X8_goOn
  rw [if_neg h.ne]
theorem r_puts_f {f : Nat × Nat} (h : yRF M f) (a c : Int32) : m_X8_puts a c M = some ((), M) := by
  unfold m_X8_puts
  rw [if_neg h.ne]
theorem mlp_end {σ β : Type} {N : Nat} {body : σ → zMem → Option ((σ ⊕ β) × zMem)} {s : σ} {M : zMem} {r : β} (hN : 0 < N) (h : body s M = some (.inr r, M)) : mlp N body s M = some (r, M) := by
  obtain ⟨k, rfl⟩ : ∃ k, N = k + 1 := ⟨N - 1, by omega⟩
  show mbd (body s M) _ = _
  rw [h]
  rfl
theorem r_E_f {f : Nat × Nat} (h : yRF M f) : ∀ fu l, l ≤ 5 → yEc l ≤ fu → m_E fu l M = some ((), M) := by
  intro fu
  induction fu with
  | zero => intro l hl he; unfold yEc at he; split at he <;> (try split at he) <;> (try split at he) <;> (try split at he) <;> (try split at he) <;> omega
  | succ fu ih =>
    intro l hl he
    have z0 : 0 < zLF := by decide
    rcases (show l = 0 ∨ l = 1 ∨ l = 2 ∨ l = 3 ∨ l = 4 ∨ l = 5 by omega) with rfl | rfl | rfl | rfl | rfl | rfl
    · show mb_X8_expression (m_E fu) M = _
      have he : 7 ≤ fu + 1 := he
      unfold mb_X8_expression
      rw [ih 1 (by decide) (show 6 ≤ fu by omega), mbd_some, mlp_end (r := ()) z0 (by rw [r_isWord_f h, mbd_some, if_pos rfl]), mbd_some]
    · show mb_X8_conjunction (m_E fu) M = _
      have he : 6 ≤ fu + 1 := he
      unfold mb_X8_conjunction
      rw [ih 2 (by decide) (show 5 ≤ fu by omega), mbd_some, mlp_end (r := ()) z0 (by rw [r_isWord_f h, mbd_some, if_pos rfl]), mbd_some]
    · show mb_X8_negation (m_E fu) M = _
      have he : 5 ≤ fu + 1 := he
      unfold mb_X8_negation
      rw [r_isWord_f h, mbd_some, if_pos rfl, ih 3 (by decide) (show 4 ≤ fu by omega), mbd_some, if_neg h.ne]
    · show mb_X8_sum (m_E fu) M = _
      have he : 4 ≤ fu + 1 := he
      unfold mb_X8_sum
      rw [ih 4 (by decide) (show 3 ≤ fu by omega), mbd_some, mlp_end (r := ()) z0 (by rw [r_isSign_f h, mbd_some, if_pos rfl, r_isSign_f h, mbd_some, if_pos rfl, mbd_some, zsl_r]), mbd_some]
    · show mb_X8_product (m_E fu) M = _
      have he : 3 ≤ fu + 1 := he
      unfold mb_X8_product
      rw [ih 5 (by decide) (show 2 ≤ fu by omega), mbd_some, mlp_end (r := ()) z0 (by rw [r_isSign_f h, mbd_some, if_pos rfl, r_isSign_f h, mbd_some, if_pos rfl, mbd_some, zsl_r]), mbd_some]
    · show mb_X8_primary (m_E fu) M = _
      unfold mb_X8_primary
      rw [if_neg h.ne]
end

/-! The third picture: what the m_ functions say, by their ends. -/
def zwp {α : Type} (c : Option (α × zMem)) (Q : α → zMem → Prop) : Prop := ∃ a M', c = some (a, M') ∧ Q a M'
def zN (i : Int32) (j : Nat) : Prop := i = Int32.ofNat j
theorem zN.e {i : Int32} {j : Nat} (h : zN i j) : i = Int32.ofNat j := h
theorem zn_of (j : Nat) : zN (Int32.ofNat j) j := rfl
theorem zn_lit (n : Nat) : zN (OfNat.ofNat n) (OfNat.ofNat n) := rfl
theorem zn_add {a b : Int32} {i j : Nat} (x : zN a i) (y : zN b j) : zN (a + b) (i + j) := by
  show a + b = _; rw [x.e, y.e, Int32.ofNat_add]
theorem zn_mul {a b : Int32} {i j : Nat} (x : zN a i) (y : zN b j) : zN (a * b) (i * j) := by
  show a * b = _; rw [x.e, y.e, Int32.ofNat_mul]
theorem zi_lt {a b : Nat} (ha : a < 2147483648) (hb : b < 2147483648) : (Int32.ofNat a < Int32.ofNat b) ↔ a < b := by
  rw [Int32.lt_iff_toInt_lt, Int32.toInt_ofNat_of_lt ha, Int32.toInt_ofNat_of_lt hb]; omega
theorem zi_le {a b : Nat} (ha : a < 2147483648) (hb : b < 2147483648) : (Int32.ofNat a ≤ Int32.ofNat b) ↔ a ≤ b := by
  rw [Int32.le_iff_toInt_le, Int32.toInt_ofNat_of_lt ha, Int32.toInt_ofNat_of_lt hb]; omega
theorem zi_eq {a b : Nat} (ha : a < 2147483648) (hb : b < 2147483648) : (Int32.ofNat a = Int32.ofNat b) ↔ a = b := by
  rw [← Int32.toInt_inj, Int32.toInt_ofNat_of_lt ha, Int32.toInt_ofNat_of_lt hb]; omega
theorem zi_nn {a : Nat} (ha : a < 2147483648) : ¬ Int32.ofNat a < 0 := by
  rw [Int32.lt_iff_toInt_lt, Int32.toInt_ofNat_of_lt ha]; show ¬ (a : Int) < 0; omega
theorem zi_n1 {a : Nat} (ha : a < 2147483648) : Int32.ofNat a ≠ -1 := by
  intro e
  have := congrArg Int32.toInt e
  rw [Int32.toInt_ofNat_of_lt ha] at this
  have h1 : Int32.toInt (-1) = -1 := by decide
  omega
theorem zi_cl {a : Nat} (ha : a < 2147483648) : (Int32.ofNat a).toNatClampNeg = a := Int32.toNatClampNeg_ofNat_of_lt ha
theorem zi_in {v : Int32} {n : Nat} (hn : n < 2147483648) (h0 : ¬ v < 0) (h1 : v < Int32.ofNat n) : ∃ j, j < n ∧ v = Int32.ofNat j := by
  rw [Int32.lt_iff_toInt_lt] at h0 h1
  rw [Int32.toInt_ofNat_of_lt hn] at h1
  have e0 : Int32.toInt 0 = 0 := by decide
  refine ⟨v.toInt.toNat, by omega, ?_⟩
  rw [← Int32.toInt_inj, Int32.toInt_ofNat_of_lt (by omega)]
  omega
theorem zi_in' {v : Int32} {n : Nat} (hn : n < 2147483648) (h0 : 0 ≤ v) (h1 : v < Int32.ofNat n) : ∃ j, j < n ∧ v = Int32.ofNat j :=
  zi_in hn (Int32.not_lt.mpr h0) h1
section
variable {α β σ γ : Type} {M : zMem} {Q : α → zMem → Prop}
theorem zob_some {a : γ} {f : γ → Option β} : zob (some a) f = f a := rfl
theorem mbd_some {a : β} {f : β → zMem → Option (α × zMem)} : mbd (some (a, M)) f = f a M := rfl
theorem mlt_eq {a : γ} {f : γ → β} : mlt a f = f a := rfl
theorem zsl_l {ε ρ : Type} {e : ε} {f : ε → β} {g : ρ → β} : zsl (.inl e) f g = f e := rfl
theorem zsl_r {ε ρ : Type} {e : ρ} {f : ε → β} {g : ρ → β} : zsl (.inr e) f g = g e := rfl
theorem mbd_if {p : Prop} [Decidable p] {a b : Option (β × zMem)} {f : β → zMem → Option (α × zMem)} : mbd (if p then a else b) f = if p then mbd a f else mbd b f := by split <;> rfl
theorem mrd_of {k j : Nat} {i : Int32} (hj : j < (zds k).2) (hb : (zds k).2 < 2147483648 := by decide) (h : zN i j := by with_reducible repeat (first | assumption | exact zn_of _ | exact zn_lit _ | apply zn_add | apply zn_mul)) : mrd M k i = some (M.1 k j) := by
  unfold mrd
  rw [h.e, zi_cl (by omega), if_neg]
  intro e
  rcases e with e | e
  · exact zi_nn (by omega) e
  · omega
theorem mrdL_of {k j : Nat} {i : Int32} (hj : j < (zds k).2) (hb : (zds k).2 < 2147483648 := by decide) (h : zN i j := by with_reducible repeat (first | assumption | exact zn_of _ | exact zn_lit _ | apply zn_add | apply zn_mul)) : mrdL M k i = some (M.2 k j) := by
  unfold mrdL
  rw [h.e, zi_cl (by omega), if_neg]
  intro e
  rcases e with e | e
  · exact zi_nn (by omega) e
  · omega
theorem mwr_of {k j : Nat} {i x : Int32} (hj : j < (zds k).2) (hb : (zds k).2 < 2147483648 := by decide) (h : zN i j := by with_reducible repeat (first | assumption | exact zn_of _ | exact zn_lit _ | apply zn_add | apply zn_mul)) : mwr M k i x = some (mup M k j x) := by
  unfold mwr
  rw [h.e, zi_cl (by omega), if_neg]
  intro e
  rcases e with e | e
  · exact zi_nn (by omega) e
  · omega
theorem mwrL_of {k j : Nat} {i : Int32} {x : Int64} (hj : j < (zds k).2) (hb : (zds k).2 < 2147483648 := by decide) (h : zN i j := by with_reducible repeat (first | assumption | exact zn_of _ | exact zn_lit _ | apply zn_add | apply zn_mul)) : mwrL M k i x = some (mupL M k j x) := by
  unfold mwrL
  rw [h.e, zi_cl (by omega), if_neg]
  intro e
  rcases e with e | e
  · exact zi_nn (by omega) e
  · omega
theorem zwp_ret {a : α} (h : Q a M) : zwp (some (a, M)) Q := ⟨a, M, rfl, h⟩
theorem zwp_eq {c : Option (α × zMem)} {a : α} {M' : zMem} (e : c = some (a, M')) (h : Q a M') : zwp c Q := ⟨a, M', e, h⟩
theorem zwp_mono {c : Option (α × zMem)} {Q' : α → zMem → Prop} (h : zwp c Q') (k : ∀ a M', Q' a M' → Q a M') : zwp c Q := by
  obtain ⟨a, M', e, q⟩ := h
  exact ⟨a, M', e, k a M' q⟩
theorem zwp_bd {c : Option (β × zMem)} {f : β → zMem → Option (α × zMem)} {Q' : β → zMem → Prop} (h : zwp c Q') (k : ∀ a M1, Q' a M1 → zwp (f a M1) Q) : zwp (mbd c f) Q := by
  obtain ⟨a, M', e, q⟩ := h
  rw [e]
  exact k a M' q
theorem zwp_bdE {c : Option (β × zMem)} {f : β → zMem → Option (α × zMem)} {a : β} {M1 : zMem} (e : c = some (a, M1)) (k : zwp (f a M1) Q) : zwp (mbd c f) Q := by
  rw [e]; exact k
theorem zwp_if {p : Prop} [Decidable p] {a b : Option (α × zMem)} (h1 : p → zwp a Q) (h2 : ¬ p → zwp b Q) : zwp (if p then a else b) Q := by
  by_cases hp : p
  · rw [if_pos hp]; exact h1 hp
  · rw [if_neg hp]; exact h2 hp
theorem zwp_rd {k j : Nat} {i : Int32} {f : Int32 → Option (α × zMem)} (hj : j < (zds k).2) (hb : (zds k).2 < 2147483648) (q : zwp (f (M.1 k j)) Q) (h : zN i j := by with_reducible repeat (first | assumption | exact zn_of _ | exact zn_lit _ | apply zn_add | apply zn_mul)) : zwp (zob (mrd M k i) f) Q := by
  rw [mrd_of hj hb]; exact q
theorem zwp_rdL {k j : Nat} {i : Int32} {f : Int64 → Option (α × zMem)} (hj : j < (zds k).2) (hb : (zds k).2 < 2147483648) (q : zwp (f (M.2 k j)) Q) (h : zN i j := by with_reducible repeat (first | assumption | exact zn_of _ | exact zn_lit _ | apply zn_add | apply zn_mul)) : zwp (zob (mrdL M k i) f) Q := by
  rw [mrdL_of hj hb]; exact q
theorem zwp_wr {k j : Nat} {i x : Int32} {f : zMem → Option (α × zMem)} (hj : j < (zds k).2) (hb : (zds k).2 < 2147483648) (q : zwp (f (mup M k j x)) Q) (h : zN i j := by with_reducible repeat (first | assumption | exact zn_of _ | exact zn_lit _ | apply zn_add | apply zn_mul)) : zwp (zob (mwr M k i x) f) Q := by
  rw [mwr_of hj hb]; exact q
theorem zwp_wrL {k j : Nat} {i : Int32} {x : Int64} {f : zMem → Option (α × zMem)} (hj : j < (zds k).2) (hb : (zds k).2 < 2147483648) (q : zwp (f (mupL M k j x)) Q) (h : zN i j := by with_reducible repeat (first | assumption | exact zn_of _ | exact zn_lit _ | apply zn_add | apply zn_mul)) : zwp (zob (mwrL M k i x) f) Q := by
  rw [mwrL_of hj hb]; exact q
/-- a loop: d is what is left, which shrinks -/
theorem zwp_lp {N : Nat} {body : σ → zMem → Option ((σ ⊕ α) × zMem)} (I : Nat → σ → zMem → Prop)
    (hb : ∀ d s M, I d s M → zwp (body s M) (fun r M1 => match r with
      | .inl s1 => ∃ d1, d1 < d ∧ I d1 s1 M1
      | .inr b => Q b M1)) : ∀ (d : Nat) (s : σ) (M : zMem), I d s M → d < N → zwp (mlp N body s M) Q := by
  induction N with
  | zero => intro d s M _ h; omega
  | succ N ih =>
    intro d s M hI hd
    show zwp (mbd (body s M) _) Q
    refine zwp_bd (hb d s M hI) (fun r M1 q => ?_)
    cases r with
    | inl s1 =>
      obtain ⟨d1, h1, h2⟩ := q
      exact ih d1 s1 M1 h2 (by omega)
    | inr b => exact zwp_ret q
/-- a counted loop from a to n -/
theorem zwp_for {N : Nat} {body : σ → zMem → Option ((σ ⊕ α) × zMem)} (a n : Nat) (I : Nat → σ → zMem → Prop)
    (hs : ∀ c s M, a ≤ c → c < n → I c s M → zwp (body s M) (fun r M1 => match r with
      | .inl s1 => I (c + 1) s1 M1
      | .inr b => Q b M1))
    (he : ∀ s M, I n s M → zwp (body s M) (fun r M1 => match r with
      | .inl _ => False
      | .inr b => Q b M1)) {s : σ} {M : zMem} (h0 : I a s M) (ha : a ≤ n) (hN : n - a < N) : zwp (mlp N body s M) Q := by
  refine zwp_lp (fun d s M => ∃ c, a ≤ c ∧ c ≤ n ∧ d = n - c ∧ I c s M) (fun d s M h => ?_) (n - a) s M ⟨a, Nat.le_refl _, ha, rfl, h0⟩ hN
  obtain ⟨c, h1, h2, h3, h4⟩ := h
  by_cases hc : c < n
  · refine zwp_mono (hs c s M h1 hc h4) (fun r M1 q => ?_)
    cases r with
    | inl s1 => exact ⟨n - (c + 1), by omega, c + 1, by omega, by omega, rfl, q⟩
    | inr b => exact q
  · have : c = n := by omega
    subst this
    refine zwp_mono (he s M h4) (fun r M1 q => ?_)
    cases r with
    | inl s1 => exact q.elim
    | inr b => exact q
/-- a counted loop that changes nothing in memory and ends by its count alone -/
theorem mlp_for {N : Nat} {body : σ → zMem → Option ((σ ⊕ α) × zMem)} {M : zMem} (n : Nat) (g : Nat → σ) {b : α}
    (hs : ∀ c, c < n → body (g c) M = some (.inl (g (c + 1)), M)) (he : body (g n) M = some (.inr b, M)) (hN : n < N) : mlp N body (g 0) M = some (b, M) := by
  obtain ⟨x, M', e, q⟩ : zwp (mlp N body (g 0) M) (fun x M' => x = b ∧ M' = M) :=
    zwp_for 0 n (fun c s M1 => s = g c ∧ M1 = M) (fun c s M1 _ hc ⟨h1, h2⟩ => by
      subst h1; subst h2; exact zwp_eq (hs c hc) ⟨rfl, rfl⟩) (fun s M1 ⟨h1, h2⟩ => by
      subst h1; subst h2; exact zwp_eq he ⟨rfl, rfl⟩) ⟨rfl, rfl⟩ (Nat.zero_le _) hN
  obtain ⟨rfl, rfl⟩ := q
  exact e
end
/-! sums, sets and first ones -/
def zsum (f : Nat → Int32) : Nat → Int32
  | 0 => 0
  | n + 1 => zsum f n + f n
def zorr (f : Nat → Int32) : Nat → Int32
  | 0 => 0
  | n + 1 => zorr f n ||| f n
theorem zsum_congr {f g : Nat → Int32} {n : Nat} (h : ∀ c, c < n → f c = g c) : zsum f n = zsum g n := by
  induction n with
  | zero => rfl
  | succ n ih => simp only [zsum]; rw [ih (fun c hc => h c (by omega)), h n (by omega)]
theorem zorr_congr {f g : Nat → Int32} {n : Nat} (h : ∀ c, c < n → f c = g c) : zorr f n = zorr g n := by
  induction n with
  | zero => rfl
  | succ n ih => simp only [zorr]; rw [ih (fun c hc => h c (by omega)), h n (by omega)]
/-- the first of those below n for which p holds; -1 -/
def zfst (p : Nat → Prop) [DecidablePred p] : Nat → Nat → Int32
  | _, 0 => -1
  | c, n + 1 => if p c then Int32.ofNat c else zfst p (c + 1) n
/-- folds over the clouds (children, fields) from 0 on -/
def zfd {τ : Type} (f : Nat → τ → τ) : Nat → τ → τ
  | 0, S => S
  | n + 1, S => f n (zfd f n S)
/-! frames -/
def zfr (P : Nat → Nat → Prop) (M M' : zMem) : Prop := ∀ k i, ¬ P k i → M'.1 k i = M.1 k i
theorem zfr_refl {P : Nat → Nat → Prop} {M : zMem} : zfr P M M := fun _ _ _ => rfl
theorem zfr_trans {P : Nat → Nat → Prop} {M1 M2 M3 : zMem} (h1 : zfr P M1 M2) (h2 : zfr P M2 M3) : zfr P M1 M3 := fun k i h => (h2 k i h).trans (h1 k i h)
theorem mup_at {M : zMem} {k i k' i' : Nat} {v : Int32} : (mup M k i v).1 k' i' = if k' = k ∧ i' = i then v else M.1 k' i' := by
  by_cases h : k' = k <;> by_cases h' : i' = i <;> simp [mup, h, h']
theorem mup_2 {M : zMem} {k i : Nat} {v : Int32} : (mup M k i v).2 = M.2 := rfl
theorem mupL_1 {M : zMem} {k i : Nat} {v : Int64} : (mupL M k i v).1 = M.1 := rfl
theorem mupL_at {M : zMem} {k i k' i' : Nat} {v : Int64} : (mupL M k i v).2 k' i' = if k' = k ∧ i' = i then v else M.2 k' i' := by
  by_cases h : k' = k <;> by_cases h' : i' = i <;> simp [mupL, h, h']
theorem mup_off {M : zMem} {k i k' i' : Nat} {v : Int32} (h : k' ≠ k) : (mup M k i v).1 k' i' = M.1 k' i' := by
  rw [mup_at, if_neg (fun e => h e.1)]
theorem mup_off' {M : zMem} {k i k' i' : Nat} {v : Int32} (h : i' ≠ i) : (mup M k i v).1 k' i' = M.1 k' i' := by
  rw [mup_at, if_neg (fun e => h e.2)]
theorem mup_on {M : zMem} {k i : Nat} {v : Int32} : (mup M k i v).1 k i = v := by
  rw [mup_at, if_pos ⟨rfl, rfl⟩]
theorem mup_row {M : zMem} {k i q : Nat} {v : Int32} : (mup M k i v).1 k q = if q = i then v else M.1 k q := by
  by_cases h' : q = i <;> simp [mup, h']
theorem zfr_mup {P : Nat → Nat → Prop} {M : zMem} {k i : Nat} {v : Int32} (h : P k i) : zfr P M (mup M k i v) := fun k' i' h' => by
  rw [mup_at, if_neg]
  rintro ⟨rfl, rfl⟩
  exact h' h
theorem zfr_mupL {P : Nat → Nat → Prop} {M : zMem} {k i : Nat} {v : Int64} : zfr P M (mupL M k i v) := fun _ _ _ => rfl
theorem zfr_weak {P P' : Nat → Nat → Prop} {M M' : zMem} (h : zfr P M M') (w : ∀ k i, P k i → P' k i) : zfr P' M M' := fun k i hn => h k i (fun hp => hn (w k i hp))

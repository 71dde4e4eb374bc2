/-! as long as there is no fault its place is -1 -/
def zpr {α : Type} (J : zMem → Prop) (c : Option (α × zMem)) : Prop := ∀ a M', c = some (a, M') → J M'
section
variable {α β σ γ : Type} {M : zMem} {J : zMem → Prop}
theorem zpr_ret {a : α} (h : J M) : zpr J (some (a, M)) := fun _ _ e => by cases e; exact h
theorem zpr_bd {c : Option (β × zMem)} {f : β → zMem → Option (α × zMem)} (h : zpr J c) (k : ∀ a M1, J M1 → zpr J (f a M1)) : zpr J (mbd c f) := fun a M' e => by
  cases c with
  | none => cases e
  | some x =>
    obtain ⟨b, M1⟩ := x
    exact k b M1 (h b M1 rfl) a M' e
theorem zpr_bd0 {c : Option (β × zMem)} {f : β → zMem → Option (α × zMem)} (k : ∀ a M1, zpr J (f a M1)) : zpr J (mbd c f) := fun a M' e => by
  cases c with
  | none => cases e
  | some x =>
    obtain ⟨b, M1⟩ := x
    exact k b M1 a M' e
theorem zpr_if {p : Prop} [Decidable p] {a b : Option (α × zMem)} (h1 : zpr J a) (h2 : zpr J b) : zpr J (if p then a else b) := by split <;> assumption
theorem zpr_mltA {a : γ} {f : γ → Option (α × zMem)} (h : ∀ a, zpr J (f a)) : zpr J (mlt a f) := h a
theorem zpr_mltT {v : Int32} {f : Nat → Option (α × zMem)} (h : ∀ t, 5 ≤ t → zpr J (f t)) : zpr J (mlt (ztof v) f) := h _ (by unfold ztof; split <;> decide)
theorem zpr_ob {o : Option γ} {f : γ → Option (α × zMem)} (h : ∀ v, zpr J (f v)) : zpr J (zob o f) := fun a M' e => by
  cases o with
  | none => cases e
  | some x => exact h x a M' e
theorem zpr_sl {ε ρ : Type} {s : ε ⊕ ρ} {f : ε → Option (α × zMem)} {g : ρ → Option (α × zMem)} (h1 : ∀ e, zpr J (f e)) (h2 : ∀ r, zpr J (g r)) : zpr J (zsl s f g) := by
  cases s with
  | inl e => exact h1 e
  | inr r => exact h2 r
theorem zpr_lp {N : Nat} {body : σ → zMem → Option ((σ ⊕ α) × zMem)} (hb : ∀ s M, J M → zpr J (body s M)) : ∀ (s : σ) (M : zMem), J M → zpr J (mlp N body s M) := by
  induction N with
  | zero => intro s M h a M' e; cases e
  | succ N ih =>
    intro s M h
    show zpr J (mbd (body s M) _)
    refine zpr_bd (hb s M h) (fun r M1 h1 => ?_)
    cases r with
    | inl s1 => exact ih s1 M1 h1
    | inr b => exact zpr_ret h1
theorem zwp_and {c : Option (α × zMem)} {Q : α → zMem → Prop} (h : zwp c Q) (h2 : zpr J c) : zwp c (fun a M' => Q a M' ∧ J M') := by
  obtain ⟨a, M', e, q⟩ := h
  exact ⟨a, M', e, q, h2 a M' e⟩
end
def Jc (M : zMem) : Prop := M.1 2 14 = 0 → M.1 2 15 = -1
def Jr (M : zMem) : Prop := M.1 213 27 = 0 → M.1 213 28 = -1
section
variable {α : Type} {M : zMem}
theorem Jc.up (h : Jc M) {k i : Nat} {v : Int32} (hk : ¬ (k = 2 ∧ (i = 14 ∨ i = 15))) : Jc (mup M k i v) := by
  unfold Jc
  rw [mup_at, mup_at, if_neg (by omega), if_neg (by omega)]
  exact h
theorem Jr.up (h : Jr M) {k i : Nat} {v : Int32} (hk : ¬ (k = 213 ∧ (i = 27 ∨ i = 28))) : Jr (mup M k i v) := by
  unfold Jr
  rw [mup_at, mup_at, if_neg (by omega), if_neg (by omega)]
  exact h
theorem jc_mlt {f : zMem → Option (α × zMem)} {k i : Nat} {v : Int32} (h : Jc M) (hk : ¬ (k = 2 ∧ (i = 14 ∨ i = 15))) (kk : ∀ M1, Jc M1 → zpr Jc (f M1)) : zpr Jc (mlt (mup M k i v) f) := kk _ (h.up hk)
theorem jr_mlt {f : zMem → Option (α × zMem)} {k i : Nat} {v : Int32} (h : Jr M) (hk : ¬ (k = 213 ∧ (i = 27 ∨ i = 28))) (kk : ∀ M1, Jr M1 → zpr Jr (f M1)) : zpr Jr (mlt (mup M k i v) f) := kk _ (h.up hk)
theorem jc_wr {f : zMem → Option (α × zMem)} {k : Nat} {i v : Int32} (h : Jc M) (hk : ¬ k = 2) (kk : ∀ M1, Jc M1 → zpr Jc (f M1)) : zpr Jc (zob (mwr M k i v) f) := by
  unfold mwr
  split
  · exact fun a M' e => by cases e
  · exact kk _ (h.up (by omega))
theorem jr_wr {f : zMem → Option (α × zMem)} {k : Nat} {i v : Int32} (h : Jr M) (hk : ¬ k = 213) (kk : ∀ M1, Jr M1 → zpr Jr (f M1)) : zpr Jr (zob (mwr M k i v) f) := by
  unfold mwr
  split
  · exact fun a M' e => by cases e
  · exact kk _ (h.up (by omega))
theorem jc_X4_failAt {a1 a2 : Int32} (h : Jc M) (hk : ¬ a1 = 0) : zpr Jc (m_X4_failAt a1 a2 M) := by
  unfold m_X4_failAt
  refine zpr_if ?_ (zpr_ret h)
  rw [mlt_eq, mlt_eq, mlt_eq]
  refine zpr_ret ?_
  intro z
  rw [mup_off' (by decide), mup_off' (by decide), mup_on] at z
  exact absurd z hk
theorem jc_X4_fail {a1 : Int32} (h : Jc M) (hk : ¬ a1 = 0) : zpr Jc (m_X4_fail a1 M) := by
  unfold m_X4_fail
  exact zpr_bd (jc_X4_failAt h hk) (fun _ _ h => zpr_ret h)
theorem jr_X8_wrong {a1 : Int32} (h : Jr M) (hk : ¬ a1 = 0) : zpr Jr (m_X8_wrong a1 M) := by
  unfold m_X8_wrong
  refine zpr_if ?_ (zpr_ret h)
  rw [mlt_eq, mlt_eq]
  refine zpr_ret ?_
  intro z
  rw [mup_off' (by decide), mup_on] at z
  exact absurd z hk
set_option maxHeartbeats 4000000 in
theorem jc_X4_isLetter {a0 : Int32} {M0 : zMem} (h : Jc M0) : zpr Jc (m_X4_isLetter a0 M0) := by
  unfold m_X4_isLetter
  repeat' first
    | with_reducible exact zpr_ret (by assumption)
    | with_reducible refine zpr_if ?_ ?_
    | with_reducible refine zpr_mltT (fun t ht => ?_)
    | with_reducible refine jc_mlt (by assumption) (by omega) (fun M' hM' => ?_)
    | with_reducible refine jc_wr (by assumption) (by omega) (fun M' hM' => ?_)
    | with_reducible refine zpr_ob (fun v => ?_)
    | with_reducible refine zpr_mltA (fun v => ?_)
    | with_reducible refine zpr_lp (fun s M' hM' => ?_) _ _ (by assumption)
    | with_reducible refine zpr_sl (fun e => ?_) (fun r => ?_)
    | with_reducible refine zpr_bd ?_ (fun a M' hM' => ?_)
set_option maxHeartbeats 4000000 in
theorem jc_X4_isDigit {a0 : Int32} {M0 : zMem} (h : Jc M0) : zpr Jc (m_X4_isDigit a0 M0) := by
  unfold m_X4_isDigit
  repeat' first
    | with_reducible exact zpr_ret (by assumption)
    | with_reducible refine zpr_if ?_ ?_
    | with_reducible refine zpr_mltT (fun t ht => ?_)
    | with_reducible refine jc_mlt (by assumption) (by omega) (fun M' hM' => ?_)
    | with_reducible refine jc_wr (by assumption) (by omega) (fun M' hM' => ?_)
    | with_reducible refine zpr_ob (fun v => ?_)
    | with_reducible refine zpr_mltA (fun v => ?_)
    | with_reducible refine zpr_lp (fun s M' hM' => ?_) _ _ (by assumption)
    | with_reducible refine zpr_sl (fun e => ?_) (fun r => ?_)
    | with_reducible refine zpr_bd ?_ (fun a M' hM' => ?_)
set_option maxHeartbeats 4000000 in
theorem jc_X4_signToken {a0 : Int32} {a1 : Int32} {M0 : zMem} (h : Jc M0) : zpr Jc (m_X4_signToken a0 a1 M0) := by
  unfold m_X4_signToken
  repeat' first
    | with_reducible exact zpr_ret (by assumption)
    | with_reducible refine zpr_if ?_ ?_
    | with_reducible refine zpr_mltT (fun t ht => ?_)
    | with_reducible refine jc_mlt (by assumption) (by omega) (fun M' hM' => ?_)
    | with_reducible refine jc_wr (by assumption) (by omega) (fun M' hM' => ?_)
    | with_reducible refine zpr_ob (fun v => ?_)
    | with_reducible refine zpr_mltA (fun v => ?_)
    | with_reducible refine zpr_lp (fun s M' hM' => ?_) _ _ (by assumption)
    | with_reducible refine zpr_sl (fun e => ?_) (fun r => ?_)
    | with_reducible refine zpr_bd ?_ (fun a M' hM' => ?_)
set_option maxHeartbeats 4000000 in
theorem jc_X4_takeNumber {M0 : zMem} (h : Jc M0) : zpr Jc (m_X4_takeNumber M0) := by
  unfold m_X4_takeNumber
  repeat' first
    | with_reducible exact zpr_ret (by assumption)
    | with_reducible refine zpr_if ?_ ?_
    | with_reducible refine zpr_mltT (fun t ht => ?_)
    | with_reducible refine jc_mlt (by assumption) (by omega) (fun M' hM' => ?_)
    | with_reducible refine jc_wr (by assumption) (by omega) (fun M' hM' => ?_)
    | with_reducible refine zpr_ob (fun v => ?_)
    | with_reducible refine zpr_mltA (fun v => ?_)
    | with_reducible refine zpr_lp (fun s M' hM' => ?_) _ _ (by assumption)
    | with_reducible refine zpr_sl (fun e => ?_) (fun r => ?_)
    | with_reducible refine zpr_bd ?_ (fun a M' hM' => ?_)
set_option maxHeartbeats 4000000 in
theorem jc_X4_takeWord {M0 : zMem} (h : Jc M0) : zpr Jc (m_X4_takeWord M0) := by
  unfold m_X4_takeWord
  repeat' first
    | with_reducible exact zpr_ret (by assumption)
    | with_reducible refine zpr_if ?_ ?_
    | with_reducible refine zpr_mltT (fun t ht => ?_)
    | with_reducible refine jc_mlt (by assumption) (by omega) (fun M' hM' => ?_)
    | with_reducible refine jc_wr (by assumption) (by omega) (fun M' hM' => ?_)
    | with_reducible refine zpr_ob (fun v => ?_)
    | with_reducible refine zpr_mltA (fun v => ?_)
    | with_reducible refine zpr_lp (fun s M' hM' => ?_) _ _ (by assumption)
    | with_reducible refine zpr_sl (fun e => ?_) (fun r => ?_)
    | with_reducible refine zpr_bd ?_ (fun a M' hM' => ?_)
set_option maxHeartbeats 4000000 in
theorem jc_X4_wordToken {M0 : zMem} (h : Jc M0) : zpr Jc (m_X4_wordToken M0) := by
  unfold m_X4_wordToken
  repeat' first
    | with_reducible exact zpr_ret (by assumption)
    | with_reducible refine zpr_if ?_ ?_
    | with_reducible refine zpr_mltT (fun t ht => ?_)
    | with_reducible refine jc_mlt (by assumption) (by omega) (fun M' hM' => ?_)
    | with_reducible refine jc_wr (by assumption) (by omega) (fun M' hM' => ?_)
    | with_reducible refine zpr_ob (fun v => ?_)
    | with_reducible refine zpr_mltA (fun v => ?_)
    | with_reducible refine zpr_lp (fun s M' hM' => ?_) _ _ (by assumption)
    | with_reducible refine zpr_sl (fun e => ?_) (fun r => ?_)
    | with_reducible refine zpr_bd ?_ (fun a M' hM' => ?_)
set_option maxHeartbeats 4000000 in
theorem jc_X4_advance {M0 : zMem} (h : Jc M0) : zpr Jc (m_X4_advance M0) := by
  unfold m_X4_advance
  repeat' first
    | with_reducible exact zpr_ret (by assumption)
    | with_reducible refine zpr_if ?_ ?_
    | with_reducible refine zpr_mltT (fun t ht => ?_)
    | with_reducible refine jc_mlt (by assumption) (by omega) (fun M' hM' => ?_)
    | with_reducible refine jc_wr (by assumption) (by omega) (fun M' hM' => ?_)
    | with_reducible refine zpr_ob (fun v => ?_)
    | with_reducible refine zpr_mltA (fun v => ?_)
    | with_reducible refine zpr_lp (fun s M' hM' => ?_) _ _ (by assumption)
    | with_reducible refine zpr_sl (fun e => ?_) (fun r => ?_)
    | with_reducible exact jc_X4_isLetter (by assumption)
    | with_reducible exact jc_X4_isDigit (by assumption)
    | with_reducible exact jc_X4_signToken (by assumption)
    | with_reducible exact jc_X4_takeNumber (by assumption)
    | with_reducible exact jc_X4_takeWord (by assumption)
    | with_reducible exact jc_X4_wordToken (by assumption)
    | with_reducible refine zpr_bd ?_ (fun a M' hM' => ?_)
set_option maxHeartbeats 4000000 in
theorem jc_X4_readNumber {a1 : Int32} {a2 : Int32} {M0 : zMem} (h : Jc M0) : zpr Jc (m_X4_readNumber a1 a2 M0) := by
  unfold m_X4_readNumber
  repeat' first
    | with_reducible exact zpr_ret (by assumption)
    | with_reducible refine zpr_if ?_ ?_
    | with_reducible refine zpr_mltT (fun t ht => ?_)
    | with_reducible refine jc_mlt (by assumption) (by omega) (fun M' hM' => ?_)
    | with_reducible refine jc_wr (by assumption) (by omega) (fun M' hM' => ?_)
    | with_reducible refine zpr_ob (fun v => ?_)
    | with_reducible refine zpr_mltA (fun v => ?_)
    | with_reducible refine zpr_lp (fun s M' hM' => ?_) _ _ (by assumption)
    | with_reducible refine zpr_sl (fun e => ?_) (fun r => ?_)
    | with_reducible exact jc_X4_fail (by assumption) (by decide)
    | with_reducible exact jc_X4_advance (by assumption)
    | with_reducible refine zpr_bd ?_ (fun a M' hM' => ?_)
set_option maxHeartbeats 4000000 in
theorem jc_X4_readCell {M0 : zMem} (h : Jc M0) : zpr Jc (m_X4_readCell M0) := by
  unfold m_X4_readCell
  repeat' first
    | with_reducible exact zpr_ret (by assumption)
    | with_reducible refine zpr_if ?_ ?_
    | with_reducible refine zpr_mltT (fun t ht => ?_)
    | with_reducible refine jc_mlt (by assumption) (by omega) (fun M' hM' => ?_)
    | with_reducible refine jc_wr (by assumption) (by omega) (fun M' hM' => ?_)
    | with_reducible refine zpr_ob (fun v => ?_)
    | with_reducible refine zpr_mltA (fun v => ?_)
    | with_reducible refine zpr_lp (fun s M' hM' => ?_) _ _ (by assumption)
    | with_reducible refine zpr_sl (fun e => ?_) (fun r => ?_)
    | with_reducible exact jc_X4_readNumber (by assumption)
    | with_reducible refine zpr_bd ?_ (fun a M' hM' => ?_)
set_option maxHeartbeats 4000000 in
theorem jc_X4_readGround {a1 : Int32} {M0 : zMem} (h : Jc M0) : zpr Jc (m_X4_readGround a1 M0) := by
  unfold m_X4_readGround
  repeat' first
    | with_reducible exact zpr_ret (by assumption)
    | with_reducible refine zpr_if ?_ ?_
    | with_reducible refine zpr_mltT (fun t ht => ?_)
    | with_reducible refine jc_mlt (by assumption) (by omega) (fun M' hM' => ?_)
    | with_reducible refine jc_wr (by assumption) (by omega) (fun M' hM' => ?_)
    | with_reducible refine zpr_ob (fun v => ?_)
    | with_reducible refine zpr_mltA (fun v => ?_)
    | with_reducible refine zpr_lp (fun s M' hM' => ?_) _ _ (by assumption)
    | with_reducible refine zpr_sl (fun e => ?_) (fun r => ?_)
    | with_reducible exact jc_X4_advance (by assumption)
    | with_reducible exact jc_X4_readCell (by assumption)
    | with_reducible exact jc_X4_failAt (by assumption) (by decide)
    | with_reducible refine zpr_bd ?_ (fun a M' hM' => ?_)
set_option maxHeartbeats 4000000 in
theorem jc_X4_hasRoom {a1 : Int32} {a2 : Int32} {M0 : zMem} (h : Jc M0) : zpr Jc (m_X4_hasRoom a1 a2 M0) := by
  unfold m_X4_hasRoom
  repeat' first
    | with_reducible exact zpr_ret (by assumption)
    | with_reducible refine zpr_if ?_ ?_
    | with_reducible refine zpr_mltT (fun t ht => ?_)
    | with_reducible refine jc_mlt (by assumption) (by omega) (fun M' hM' => ?_)
    | with_reducible refine jc_wr (by assumption) (by omega) (fun M' hM' => ?_)
    | with_reducible refine zpr_ob (fun v => ?_)
    | with_reducible refine zpr_mltA (fun v => ?_)
    | with_reducible refine zpr_lp (fun s M' hM' => ?_) _ _ (by assumption)
    | with_reducible refine zpr_sl (fun e => ?_) (fun r => ?_)
    | with_reducible exact jc_X4_advance (by assumption)
    | with_reducible exact jc_X4_fail (by assumption) (by decide)
    | with_reducible refine zpr_bd ?_ (fun a M' hM' => ?_)
set_option maxHeartbeats 4000000 in
theorem jc_X7_numberOf {a0 : Nat} {a1 : Int32} {a2 : Int32} {M0 : zMem} (h : Jc M0) : zpr Jc (m_X7_numberOf a0 a1 a2 M0) := by
  unfold m_X7_numberOf
  repeat' first
    | with_reducible exact zpr_ret (by assumption)
    | with_reducible refine zpr_if ?_ ?_
    | with_reducible refine zpr_mltT (fun t ht => ?_)
    | with_reducible refine jc_mlt (by assumption) (by omega) (fun M' hM' => ?_)
    | with_reducible refine jc_wr (by assumption) (by omega) (fun M' hM' => ?_)
    | with_reducible refine zpr_ob (fun v => ?_)
    | with_reducible refine zpr_mltA (fun v => ?_)
    | with_reducible refine zpr_lp (fun s M' hM' => ?_) _ _ (by assumption)
    | with_reducible refine zpr_sl (fun e => ?_) (fun r => ?_)
    | with_reducible refine zpr_bd ?_ (fun a M' hM' => ?_)
set_option maxHeartbeats 4000000 in
theorem jc_X4_readName {a1 : Nat} {a2 : Int32} {M0 : zMem} (h : Jc M0) : zpr Jc (m_X4_readName a1 a2 M0) := by
  unfold m_X4_readName
  repeat' first
    | with_reducible exact zpr_ret (by assumption)
    | with_reducible refine zpr_if ?_ ?_
    | with_reducible refine zpr_mltT (fun t ht => ?_)
    | with_reducible refine jc_mlt (by assumption) (by omega) (fun M' hM' => ?_)
    | with_reducible refine jc_wr (by assumption) (by omega) (fun M' hM' => ?_)
    | with_reducible refine zpr_ob (fun v => ?_)
    | with_reducible refine zpr_mltA (fun v => ?_)
    | with_reducible refine zpr_lp (fun s M' hM' => ?_) _ _ (by assumption)
    | with_reducible refine zpr_sl (fun e => ?_) (fun r => ?_)
    | with_reducible exact jc_X7_numberOf (by assumption)
    | with_reducible exact jc_X4_fail (by assumption) (by decide)
    | with_reducible exact jc_X4_advance (by assumption)
    | with_reducible refine zpr_bd ?_ (fun a M' hM' => ?_)
set_option maxHeartbeats 4000000 in
theorem jc_X4_readField {M0 : zMem} (h : Jc M0) : zpr Jc (m_X4_readField M0) := by
  unfold m_X4_readField
  repeat' first
    | with_reducible exact zpr_ret (by assumption)
    | with_reducible refine zpr_if ?_ ?_
    | with_reducible refine zpr_mltT (fun t ht => ?_)
    | with_reducible refine jc_mlt (by assumption) (by omega) (fun M' hM' => ?_)
    | with_reducible refine jc_wr (by assumption) (by omega) (fun M' hM' => ?_)
    | with_reducible refine zpr_ob (fun v => ?_)
    | with_reducible refine zpr_mltA (fun v => ?_)
    | with_reducible refine zpr_lp (fun s M' hM' => ?_) _ _ (by assumption)
    | with_reducible refine zpr_sl (fun e => ?_) (fun r => ?_)
    | with_reducible exact jc_X4_hasRoom (by assumption)
    | with_reducible exact jc_X4_readName (by assumption)
    | with_reducible exact jc_X4_readCell (by assumption)
    | with_reducible exact jc_X4_readNumber (by assumption)
    | with_reducible refine zpr_bd ?_ (fun a M' hM' => ?_)
set_option maxHeartbeats 4000000 in
theorem jc_X4_readCloud {M0 : zMem} (h : Jc M0) : zpr Jc (m_X4_readCloud M0) := by
  unfold m_X4_readCloud
  repeat' first
    | with_reducible exact zpr_ret (by assumption)
    | with_reducible refine zpr_if ?_ ?_
    | with_reducible refine zpr_mltT (fun t ht => ?_)
    | with_reducible refine jc_mlt (by assumption) (by omega) (fun M' hM' => ?_)
    | with_reducible refine jc_wr (by assumption) (by omega) (fun M' hM' => ?_)
    | with_reducible refine zpr_ob (fun v => ?_)
    | with_reducible refine zpr_mltA (fun v => ?_)
    | with_reducible refine zpr_lp (fun s M' hM' => ?_) _ _ (by assumption)
    | with_reducible refine zpr_sl (fun e => ?_) (fun r => ?_)
    | with_reducible exact jc_X4_hasRoom (by assumption)
    | with_reducible exact jc_X4_readName (by assumption)
    | with_reducible exact jc_X4_readCell (by assumption)
    | with_reducible exact jc_X4_readNumber (by assumption)
    | with_reducible refine zpr_bd ?_ (fun a M' hM' => ?_)
set_option maxHeartbeats 4000000 in
theorem jc_X4_readChild {M0 : zMem} (h : Jc M0) : zpr Jc (m_X4_readChild M0) := by
  unfold m_X4_readChild
  repeat' first
    | with_reducible exact zpr_ret (by assumption)
    | with_reducible refine zpr_if ?_ ?_
    | with_reducible refine zpr_mltT (fun t ht => ?_)
    | with_reducible refine jc_mlt (by assumption) (by omega) (fun M' hM' => ?_)
    | with_reducible refine jc_wr (by assumption) (by omega) (fun M' hM' => ?_)
    | with_reducible refine zpr_ob (fun v => ?_)
    | with_reducible refine zpr_mltA (fun v => ?_)
    | with_reducible refine zpr_lp (fun s M' hM' => ?_) _ _ (by assumption)
    | with_reducible refine zpr_sl (fun e => ?_) (fun r => ?_)
    | with_reducible exact jc_X4_hasRoom (by assumption)
    | with_reducible exact jc_X4_readName (by assumption)
    | with_reducible exact jc_X4_readCell (by assumption)
    | with_reducible exact jc_X4_readNumber (by assumption)
    | with_reducible refine zpr_bd ?_ (fun a M' hM' => ?_)
set_option maxHeartbeats 4000000 in
theorem jc_X4_readWind {M0 : zMem} (h : Jc M0) : zpr Jc (m_X4_readWind M0) := by
  unfold m_X4_readWind
  repeat' first
    | with_reducible exact zpr_ret (by assumption)
    | with_reducible refine zpr_if ?_ ?_
    | with_reducible refine zpr_mltT (fun t ht => ?_)
    | with_reducible refine jc_mlt (by assumption) (by omega) (fun M' hM' => ?_)
    | with_reducible refine jc_wr (by assumption) (by omega) (fun M' hM' => ?_)
    | with_reducible refine zpr_ob (fun v => ?_)
    | with_reducible refine zpr_mltA (fun v => ?_)
    | with_reducible refine zpr_lp (fun s M' hM' => ?_) _ _ (by assumption)
    | with_reducible refine zpr_sl (fun e => ?_) (fun r => ?_)
    | with_reducible exact jc_X4_hasRoom (by assumption)
    | with_reducible exact jc_X4_readNumber (by assumption)
    | with_reducible refine zpr_bd ?_ (fun a M' hM' => ?_)
set_option maxHeartbeats 4000000 in
theorem jc_X4_readOnceWord {M0 : zMem} (h : Jc M0) : zpr Jc (m_X4_readOnceWord M0) := by
  unfold m_X4_readOnceWord
  repeat' first
    | with_reducible exact zpr_ret (by assumption)
    | with_reducible refine zpr_if ?_ ?_
    | with_reducible refine zpr_mltT (fun t ht => ?_)
    | with_reducible refine jc_mlt (by assumption) (by omega) (fun M' hM' => ?_)
    | with_reducible refine jc_wr (by assumption) (by omega) (fun M' hM' => ?_)
    | with_reducible refine zpr_ob (fun v => ?_)
    | with_reducible refine zpr_mltA (fun v => ?_)
    | with_reducible refine zpr_lp (fun s M' hM' => ?_) _ _ (by assumption)
    | with_reducible refine zpr_sl (fun e => ?_) (fun r => ?_)
    | with_reducible exact jc_X4_fail (by assumption) (by decide)
    | with_reducible exact jc_X4_advance (by assumption)
    | with_reducible refine zpr_bd ?_ (fun a M' hM' => ?_)
set_option maxHeartbeats 4000000 in
theorem jc_X4_readRain {M0 : zMem} (h : Jc M0) : zpr Jc (m_X4_readRain M0) := by
  unfold m_X4_readRain
  repeat' first
    | with_reducible exact zpr_ret (by assumption)
    | with_reducible refine zpr_if ?_ ?_
    | with_reducible refine zpr_mltT (fun t ht => ?_)
    | with_reducible refine jc_mlt (by assumption) (by omega) (fun M' hM' => ?_)
    | with_reducible refine jc_wr (by assumption) (by omega) (fun M' hM' => ?_)
    | with_reducible refine zpr_ob (fun v => ?_)
    | with_reducible refine zpr_mltA (fun v => ?_)
    | with_reducible refine zpr_lp (fun s M' hM' => ?_) _ _ (by assumption)
    | with_reducible refine zpr_sl (fun e => ?_) (fun r => ?_)
    | with_reducible exact jc_X4_readOnceWord (by assumption)
    | with_reducible exact jc_X4_readNumber (by assumption)
    | with_reducible refine zpr_bd ?_ (fun a M' hM' => ?_)
set_option maxHeartbeats 4000000 in
theorem jc_X4_readMost {M0 : zMem} (h : Jc M0) : zpr Jc (m_X4_readMost M0) := by
  unfold m_X4_readMost
  repeat' first
    | with_reducible exact zpr_ret (by assumption)
    | with_reducible refine zpr_if ?_ ?_
    | with_reducible refine zpr_mltT (fun t ht => ?_)
    | with_reducible refine jc_mlt (by assumption) (by omega) (fun M' hM' => ?_)
    | with_reducible refine jc_wr (by assumption) (by omega) (fun M' hM' => ?_)
    | with_reducible refine zpr_ob (fun v => ?_)
    | with_reducible refine zpr_mltA (fun v => ?_)
    | with_reducible refine zpr_lp (fun s M' hM' => ?_) _ _ (by assumption)
    | with_reducible refine zpr_sl (fun e => ?_) (fun r => ?_)
    | with_reducible exact jc_X4_readOnceWord (by assumption)
    | with_reducible exact jc_X4_readNumber (by assumption)
    | with_reducible refine zpr_bd ?_ (fun a M' hM' => ?_)
set_option maxHeartbeats 4000000 in
theorem jc_X4_readSeed {M0 : zMem} (h : Jc M0) : zpr Jc (m_X4_readSeed M0) := by
  unfold m_X4_readSeed
  repeat' first
    | with_reducible exact zpr_ret (by assumption)
    | with_reducible refine zpr_if ?_ ?_
    | with_reducible refine zpr_mltT (fun t ht => ?_)
    | with_reducible refine jc_mlt (by assumption) (by omega) (fun M' hM' => ?_)
    | with_reducible refine jc_wr (by assumption) (by omega) (fun M' hM' => ?_)
    | with_reducible refine zpr_ob (fun v => ?_)
    | with_reducible refine zpr_mltA (fun v => ?_)
    | with_reducible refine zpr_lp (fun s M' hM' => ?_) _ _ (by assumption)
    | with_reducible refine zpr_sl (fun e => ?_) (fun r => ?_)
    | with_reducible exact jc_X4_readOnceWord (by assumption)
    | with_reducible exact jc_X4_readNumber (by assumption)
    | with_reducible refine zpr_bd ?_ (fun a M' hM' => ?_)
set_option maxHeartbeats 4000000 in
theorem jc_X2_isTold {a0 : Nat} {a1 : Int32} {M0 : zMem} (h : Jc M0) (ht : 5 ≤ a0) : zpr Jc (m_X2_isTold a0 a1 M0) := by
  unfold m_X2_isTold
  repeat' first
    | with_reducible exact zpr_ret (by assumption)
    | with_reducible refine zpr_if ?_ ?_
    | with_reducible refine zpr_mltT (fun t ht => ?_)
    | with_reducible refine jc_mlt (by assumption) (by omega) (fun M' hM' => ?_)
    | with_reducible refine jc_wr (by assumption) (by omega) (fun M' hM' => ?_)
    | with_reducible refine zpr_ob (fun v => ?_)
    | with_reducible refine zpr_mltA (fun v => ?_)
    | with_reducible refine zpr_lp (fun s M' hM' => ?_) _ _ (by assumption)
    | with_reducible refine zpr_sl (fun e => ?_) (fun r => ?_)
    | with_reducible refine zpr_bd ?_ (fun a M' hM' => ?_)
set_option maxHeartbeats 4000000 in
theorem jc_X2_open {a0 : Nat} {a1 : Int32} {M0 : zMem} (h : Jc M0) (ht : 5 ≤ a0) : zpr Jc (m_X2_open a0 a1 M0) := by
  unfold m_X2_open
  repeat' first
    | with_reducible exact zpr_ret (by assumption)
    | with_reducible refine zpr_if ?_ ?_
    | with_reducible refine zpr_mltT (fun t ht => ?_)
    | with_reducible refine jc_mlt (by assumption) (by omega) (fun M' hM' => ?_)
    | with_reducible refine jc_wr (by assumption) (by omega) (fun M' hM' => ?_)
    | with_reducible refine zpr_ob (fun v => ?_)
    | with_reducible refine zpr_mltA (fun v => ?_)
    | with_reducible refine zpr_lp (fun s M' hM' => ?_) _ _ (by assumption)
    | with_reducible refine zpr_sl (fun e => ?_) (fun r => ?_)
    | with_reducible refine zpr_bd ?_ (fun a M' hM' => ?_)
set_option maxHeartbeats 4000000 in
theorem jc_X4_openOne {M0 : zMem} (h : Jc M0) : zpr Jc (m_X4_openOne M0) := by
  unfold m_X4_openOne
  repeat' first
    | with_reducible exact zpr_ret (by assumption)
    | with_reducible refine zpr_if ?_ ?_
    | with_reducible refine zpr_mltT (fun t ht => ?_)
    | with_reducible refine jc_mlt (by assumption) (by omega) (fun M' hM' => ?_)
    | with_reducible refine jc_wr (by assumption) (by omega) (fun M' hM' => ?_)
    | with_reducible refine zpr_ob (fun v => ?_)
    | with_reducible refine zpr_mltA (fun v => ?_)
    | with_reducible refine zpr_lp (fun s M' hM' => ?_) _ _ (by assumption)
    | with_reducible refine zpr_sl (fun e => ?_) (fun r => ?_)
    | with_reducible exact jc_X4_fail (by assumption) (by decide)
    | with_reducible refine zpr_bd ?_ (fun a M' hM' => ?_)
set_option maxHeartbeats 4000000 in
theorem jc_X4_rankOf {a0 : Int32} {M0 : zMem} (h : Jc M0) : zpr Jc (m_X4_rankOf a0 M0) := by
  unfold m_X4_rankOf
  repeat' first
    | with_reducible exact zpr_ret (by assumption)
    | with_reducible refine zpr_if ?_ ?_
    | with_reducible refine zpr_mltT (fun t ht => ?_)
    | with_reducible refine jc_mlt (by assumption) (by omega) (fun M' hM' => ?_)
    | with_reducible refine jc_wr (by assumption) (by omega) (fun M' hM' => ?_)
    | with_reducible refine zpr_ob (fun v => ?_)
    | with_reducible refine zpr_mltA (fun v => ?_)
    | with_reducible refine zpr_lp (fun s M' hM' => ?_) _ _ (by assumption)
    | with_reducible refine zpr_sl (fun e => ?_) (fun r => ?_)
    | with_reducible refine zpr_bd ?_ (fun a M' hM' => ?_)
set_option maxHeartbeats 4000000 in
theorem jc_X4_mayTurn {M0 : zMem} (h : Jc M0) : zpr Jc (m_X4_mayTurn M0) := by
  unfold m_X4_mayTurn
  repeat' first
    | with_reducible exact zpr_ret (by assumption)
    | with_reducible refine zpr_if ?_ ?_
    | with_reducible refine zpr_mltT (fun t ht => ?_)
    | with_reducible refine jc_mlt (by assumption) (by omega) (fun M' hM' => ?_)
    | with_reducible refine jc_wr (by assumption) (by omega) (fun M' hM' => ?_)
    | with_reducible refine zpr_ob (fun v => ?_)
    | with_reducible refine zpr_mltA (fun v => ?_)
    | with_reducible refine zpr_lp (fun s M' hM' => ?_) _ _ (by assumption)
    | with_reducible refine zpr_sl (fun e => ?_) (fun r => ?_)
    | with_reducible exact jc_X4_rankOf (by assumption)
    | with_reducible refine zpr_bd ?_ (fun a M' hM' => ?_)
set_option maxHeartbeats 4000000 in
theorem jc_X4_countKnot {M0 : zMem} (h : Jc M0) : zpr Jc (m_X4_countKnot M0) := by
  unfold m_X4_countKnot
  repeat' first
    | with_reducible exact zpr_ret (by assumption)
    | with_reducible refine zpr_if ?_ ?_
    | with_reducible refine zpr_mltT (fun t ht => ?_)
    | with_reducible refine jc_mlt (by assumption) (by omega) (fun M' hM' => ?_)
    | with_reducible refine jc_wr (by assumption) (by omega) (fun M' hM' => ?_)
    | with_reducible refine zpr_ob (fun v => ?_)
    | with_reducible refine zpr_mltA (fun v => ?_)
    | with_reducible refine zpr_lp (fun s M' hM' => ?_) _ _ (by assumption)
    | with_reducible refine zpr_sl (fun e => ?_) (fun r => ?_)
    | with_reducible exact jc_X4_fail (by assumption) (by decide)
    | with_reducible refine zpr_bd ?_ (fun a M' hM' => ?_)
set_option maxHeartbeats 4000000 in
theorem jc_X4_letWait {a1 : Int32} {M0 : zMem} (h : Jc M0) : zpr Jc (m_X4_letWait a1 M0) := by
  unfold m_X4_letWait
  repeat' first
    | with_reducible exact zpr_ret (by assumption)
    | with_reducible refine zpr_if ?_ ?_
    | with_reducible refine zpr_mltT (fun t ht => ?_)
    | with_reducible refine jc_mlt (by assumption) (by omega) (fun M' hM' => ?_)
    | with_reducible refine jc_wr (by assumption) (by omega) (fun M' hM' => ?_)
    | with_reducible refine zpr_ob (fun v => ?_)
    | with_reducible refine zpr_mltA (fun v => ?_)
    | with_reducible refine zpr_lp (fun s M' hM' => ?_) _ _ (by assumption)
    | with_reducible refine zpr_sl (fun e => ?_) (fun r => ?_)
    | with_reducible refine zpr_bd ?_ (fun a M' hM' => ?_)
set_option maxHeartbeats 4000000 in
theorem jc_X4_readAheadOfPart {M0 : zMem} (h : Jc M0) : zpr Jc (m_X4_readAheadOfPart M0) := by
  unfold m_X4_readAheadOfPart
  repeat' first
    | with_reducible exact zpr_ret (by assumption)
    | with_reducible refine zpr_if ?_ ?_
    | with_reducible refine zpr_mltT (fun t ht => ?_)
    | with_reducible refine jc_mlt (by assumption) (by omega) (fun M' hM' => ?_)
    | with_reducible refine jc_wr (by assumption) (by omega) (fun M' hM' => ?_)
    | with_reducible refine zpr_ob (fun v => ?_)
    | with_reducible refine zpr_mltA (fun v => ?_)
    | with_reducible refine zpr_lp (fun s M' hM' => ?_) _ _ (by assumption)
    | with_reducible refine zpr_sl (fun e => ?_) (fun r => ?_)
    | with_reducible exact jc_X4_openOne (by assumption)
    | with_reducible exact jc_X4_mayTurn (by assumption)
    | with_reducible exact jc_X4_fail (by assumption) (by decide)
    | with_reducible exact jc_X4_countKnot (by assumption)
    | with_reducible exact jc_X4_letWait (by assumption)
    | with_reducible exact jc_X4_advance (by assumption)
    | with_reducible refine zpr_bd ?_ (fun a M' hM' => ?_)
set_option maxHeartbeats 4000000 in
theorem jc_X2_place {a0 : Nat} {a1 : Int32} {M0 : zMem} (h : Jc M0) (ht : 5 ≤ a0) : zpr Jc (m_X2_place a0 a1 M0) := by
  unfold m_X2_place
  repeat' first
    | with_reducible exact zpr_ret (by assumption)
    | with_reducible refine zpr_if ?_ ?_
    | with_reducible refine zpr_mltT (fun t ht => ?_)
    | with_reducible refine jc_mlt (by assumption) (by omega) (fun M' hM' => ?_)
    | with_reducible refine jc_wr (by assumption) (by omega) (fun M' hM' => ?_)
    | with_reducible refine zpr_ob (fun v => ?_)
    | with_reducible refine zpr_mltA (fun v => ?_)
    | with_reducible refine zpr_lp (fun s M' hM' => ?_) _ _ (by assumption)
    | with_reducible refine zpr_sl (fun e => ?_) (fun r => ?_)
    | with_reducible refine zpr_bd ?_ (fun a M' hM' => ?_)
set_option maxHeartbeats 4000000 in
theorem jc_X4_readPart {M0 : zMem} (h : Jc M0) : zpr Jc (m_X4_readPart M0) := by
  unfold m_X4_readPart
  repeat' first
    | with_reducible exact zpr_ret (by assumption)
    | with_reducible refine zpr_if ?_ ?_
    | with_reducible refine zpr_mltT (fun t ht => ?_)
    | with_reducible refine jc_mlt (by assumption) (by omega) (fun M' hM' => ?_)
    | with_reducible refine jc_wr (by assumption) (by omega) (fun M' hM' => ?_)
    | with_reducible refine zpr_ob (fun v => ?_)
    | with_reducible refine zpr_mltA (fun v => ?_)
    | with_reducible refine zpr_lp (fun s M' hM' => ?_) _ _ (by assumption)
    | with_reducible refine zpr_sl (fun e => ?_) (fun r => ?_)
    | with_reducible exact jc_X4_countKnot (by assumption)
    | with_reducible exact jc_X4_readNumber (by assumption)
    | with_reducible exact jc_X2_place (by assumption) (by omega)
    | with_reducible exact jc_X4_fail (by assumption) (by decide)
    | with_reducible exact jc_X4_advance (by assumption)
    | with_reducible refine zpr_bd ?_ (fun a M' hM' => ?_)
set_option maxHeartbeats 4000000 in
theorem jc_X4_placeAbove {a1 : Int32} {M0 : zMem} (h : Jc M0) : zpr Jc (m_X4_placeAbove a1 M0) := by
  unfold m_X4_placeAbove
  repeat' first
    | with_reducible exact zpr_ret (by assumption)
    | with_reducible refine zpr_if ?_ ?_
    | with_reducible refine zpr_mltT (fun t ht => ?_)
    | with_reducible refine jc_mlt (by assumption) (by omega) (fun M' hM' => ?_)
    | with_reducible refine jc_wr (by assumption) (by omega) (fun M' hM' => ?_)
    | with_reducible refine zpr_ob (fun v => ?_)
    | with_reducible refine zpr_mltA (fun v => ?_)
    | with_reducible refine zpr_lp (fun s M' hM' => ?_) _ _ (by assumption)
    | with_reducible refine zpr_sl (fun e => ?_) (fun r => ?_)
    | with_reducible exact jc_X4_rankOf (by assumption)
    | with_reducible exact jc_X2_place (by assumption) (by omega)
    | with_reducible refine zpr_bd ?_ (fun a M' hM' => ?_)
set_option maxHeartbeats 4000000 in
theorem jc_X4_readSign {M0 : zMem} (h : Jc M0) : zpr Jc (m_X4_readSign M0) := by
  unfold m_X4_readSign
  repeat' first
    | with_reducible exact zpr_ret (by assumption)
    | with_reducible refine zpr_if ?_ ?_
    | with_reducible refine zpr_mltT (fun t ht => ?_)
    | with_reducible refine jc_mlt (by assumption) (by omega) (fun M' hM' => ?_)
    | with_reducible refine jc_wr (by assumption) (by omega) (fun M' hM' => ?_)
    | with_reducible refine zpr_ob (fun v => ?_)
    | with_reducible refine zpr_mltA (fun v => ?_)
    | with_reducible refine zpr_lp (fun s M' hM' => ?_) _ _ (by assumption)
    | with_reducible refine zpr_sl (fun e => ?_) (fun r => ?_)
    | with_reducible exact jc_X4_placeAbove (by assumption)
    | with_reducible exact jc_X4_advance (by assumption)
    | with_reducible exact jc_X4_rankOf (by assumption)
    | with_reducible exact jc_X4_fail (by assumption) (by decide)
    | with_reducible exact jc_X4_countKnot (by assumption)
    | with_reducible exact jc_X4_letWait (by assumption)
    | with_reducible refine zpr_bd ?_ (fun a M' hM' => ?_)
set_option maxHeartbeats 4000000 in
theorem jc_X2_close {a0 : Nat} {a1 : Int32} {M0 : zMem} (h : Jc M0) (ht : 5 ≤ a0) : zpr Jc (m_X2_close a0 a1 M0) := by
  unfold m_X2_close
  repeat' first
    | with_reducible exact zpr_ret (by assumption)
    | with_reducible refine zpr_if ?_ ?_
    | with_reducible refine zpr_mltT (fun t ht => ?_)
    | with_reducible refine jc_mlt (by assumption) (by omega) (fun M' hM' => ?_)
    | with_reducible refine jc_wr (by assumption) (by omega) (fun M' hM' => ?_)
    | with_reducible refine zpr_ob (fun v => ?_)
    | with_reducible refine zpr_mltA (fun v => ?_)
    | with_reducible refine zpr_lp (fun s M' hM' => ?_) _ _ (by assumption)
    | with_reducible refine zpr_sl (fun e => ?_) (fun r => ?_)
    | with_reducible refine zpr_bd ?_ (fun a M' hM' => ?_)
set_option maxHeartbeats 4000000 in
theorem jc_X4_readLaw {M0 : zMem} (h : Jc M0) : zpr Jc (m_X4_readLaw M0) := by
  unfold m_X4_readLaw
  repeat' first
    | with_reducible exact zpr_ret (by assumption)
    | with_reducible refine zpr_if ?_ ?_
    | with_reducible refine zpr_mltT (fun t ht => ?_)
    | with_reducible refine jc_mlt (by assumption) (by omega) (fun M' hM' => ?_)
    | with_reducible refine jc_wr (by assumption) (by omega) (fun M' hM' => ?_)
    | with_reducible refine zpr_ob (fun v => ?_)
    | with_reducible refine zpr_mltA (fun v => ?_)
    | with_reducible refine zpr_lp (fun s M' hM' => ?_) _ _ (by assumption)
    | with_reducible refine zpr_sl (fun e => ?_) (fun r => ?_)
    | with_reducible exact jc_X4_advance (by assumption)
    | with_reducible exact jc_X2_isTold (by assumption) (by omega)
    | with_reducible exact jc_X4_fail (by assumption) (by decide)
    | with_reducible exact jc_X2_open (by assumption) (by omega)
    | with_reducible exact jc_X4_readAheadOfPart (by assumption)
    | with_reducible exact jc_X4_readPart (by assumption)
    | with_reducible exact jc_X4_readSign (by assumption)
    | with_reducible exact jc_X4_placeAbove (by assumption)
    | with_reducible exact jc_X2_close (by assumption) (by omega)
    | with_reducible refine zpr_bd ?_ (fun a M' hM' => ?_)
set_option maxHeartbeats 4000000 in
theorem jc_X4_readLine {M0 : zMem} (h : Jc M0) : zpr Jc (m_X4_readLine M0) := by
  unfold m_X4_readLine
  repeat' first
    | with_reducible exact zpr_ret (by assumption)
    | with_reducible refine zpr_if ?_ ?_
    | with_reducible refine zpr_mltT (fun t ht => ?_)
    | with_reducible refine jc_mlt (by assumption) (by omega) (fun M' hM' => ?_)
    | with_reducible refine jc_wr (by assumption) (by omega) (fun M' hM' => ?_)
    | with_reducible refine zpr_ob (fun v => ?_)
    | with_reducible refine zpr_mltA (fun v => ?_)
    | with_reducible refine zpr_lp (fun s M' hM' => ?_) _ _ (by assumption)
    | with_reducible refine zpr_sl (fun e => ?_) (fun r => ?_)
    | with_reducible exact jc_X4_readGround (by assumption)
    | with_reducible exact jc_X4_readField (by assumption)
    | with_reducible exact jc_X4_readCloud (by assumption)
    | with_reducible exact jc_X4_readChild (by assumption)
    | with_reducible exact jc_X4_readWind (by assumption)
    | with_reducible exact jc_X4_readRain (by assumption)
    | with_reducible exact jc_X4_readMost (by assumption)
    | with_reducible exact jc_X4_readSeed (by assumption)
    | with_reducible exact jc_X4_readLaw (by assumption)
    | with_reducible exact jc_X4_fail (by assumption) (by decide)
    | with_reducible refine zpr_bd ?_ (fun a M' hM' => ?_)
set_option maxHeartbeats 4000000 in
theorem jc_X4_expect {a1 : Int32} {M0 : zMem} (h : Jc M0) : zpr Jc (m_X4_expect a1 M0) := by
  unfold m_X4_expect
  repeat' first
    | with_reducible exact zpr_ret (by assumption)
    | with_reducible refine zpr_if ?_ ?_
    | with_reducible refine zpr_mltT (fun t ht => ?_)
    | with_reducible refine jc_mlt (by assumption) (by omega) (fun M' hM' => ?_)
    | with_reducible refine jc_wr (by assumption) (by omega) (fun M' hM' => ?_)
    | with_reducible refine zpr_ob (fun v => ?_)
    | with_reducible refine zpr_mltA (fun v => ?_)
    | with_reducible refine zpr_lp (fun s M' hM' => ?_) _ _ (by assumption)
    | with_reducible refine zpr_sl (fun e => ?_) (fun r => ?_)
    | with_reducible exact jc_X4_advance (by assumption)
    | with_reducible exact jc_X4_fail (by assumption) (by decide)
    | with_reducible refine zpr_bd ?_ (fun a M' hM' => ?_)
theorem jc_X4_readText {a : Int32} : zpr Jc (m_X4_readText a M) := by
  unfold m_X4_readText
  refine zpr_mltA (fun t => zpr_bd0 (fun _ M1 => ?_))
  rw [mlt_eq, mlt_eq, mlt_eq, mlt_eq, mlt_eq, mlt_eq]
  have h : Jc (mup (mup (mup (mup (mup (mup M1 2 1 1) 2 2 (zmn a (Int32.ofNat (zds 1).2))) 2 3 0) 2 9 0) 2 14 0) 2 15 (-1)) := fun _ => mup_on
  generalize mup (mup (mup (mup (mup (mup M1 2 1 1) 2 2 (zmn a (Int32.ofNat (zds 1).2))) 2 3 0) 2 9 0) 2 14 0) 2 15 (-1) = M2 at h ⊢
  refine zpr_bd (jc_X4_advance h) (fun _ M3 h3 => zpr_bd (zpr_lp (fun s M4 h4 => ?_) _ _ h3) (fun _ M4 h4 => zpr_if (zpr_ret h4) (zpr_ret h4)))
  refine zpr_if (zpr_ret h4) (zpr_if (zpr_if (zpr_ret h4) ?_) (zpr_ret h4))
  exact zpr_bd (jc_X4_readLine h4) (fun _ M5 h5 => zpr_bd (jc_X4_expect h5) (fun _ M6 h6 => zpr_ret h6))
set_option maxHeartbeats 4000000 in
theorem jr_X8_fresher {a1 : Int32} {M0 : zMem} (h : Jr M0) : zpr Jr (m_X8_fresher a1 M0) := by
  unfold m_X8_fresher
  repeat' first
    | with_reducible exact zpr_ret (by assumption)
    | with_reducible refine zpr_if ?_ ?_
    | with_reducible refine zpr_mltT (fun t ht => ?_)
    | with_reducible refine jr_mlt (by assumption) (by omega) (fun M' hM' => ?_)
    | with_reducible refine jr_wr (by assumption) (by omega) (fun M' hM' => ?_)
    | with_reducible refine zpr_ob (fun v => ?_)
    | with_reducible refine zpr_mltA (fun v => ?_)
    | with_reducible refine zpr_lp (fun s M' hM' => ?_) _ _ (by assumption)
    | with_reducible refine zpr_sl (fun e => ?_) (fun r => ?_)
    | with_reducible refine zpr_bd ?_ (fun a M' hM' => ?_)
set_option maxHeartbeats 4000000 in
theorem jr_X8_isFull {a1 : Int32} {M0 : zMem} (h : Jr M0) : zpr Jr (m_X8_isFull a1 M0) := by
  unfold m_X8_isFull
  repeat' first
    | with_reducible exact zpr_ret (by assumption)
    | with_reducible refine zpr_if ?_ ?_
    | with_reducible refine zpr_mltT (fun t ht => ?_)
    | with_reducible refine jr_mlt (by assumption) (by omega) (fun M' hM' => ?_)
    | with_reducible refine jr_wr (by assumption) (by omega) (fun M' hM' => ?_)
    | with_reducible refine zpr_ob (fun v => ?_)
    | with_reducible refine zpr_mltA (fun v => ?_)
    | with_reducible refine zpr_lp (fun s M' hM' => ?_) _ _ (by assumption)
    | with_reducible refine zpr_sl (fun e => ?_) (fun r => ?_)
    | with_reducible exact jr_X8_fresher (by assumption)
    | with_reducible refine zpr_bd ?_ (fun a M' hM' => ?_)
set_option maxHeartbeats 4000000 in
theorem jr_X8_here {M0 : zMem} (h : Jr M0) : zpr Jr (m_X8_here M0) := by
  unfold m_X8_here
  repeat' first
    | with_reducible exact zpr_ret (by assumption)
    | with_reducible refine zpr_if ?_ ?_
    | with_reducible refine zpr_mltT (fun t ht => ?_)
    | with_reducible refine jr_mlt (by assumption) (by omega) (fun M' hM' => ?_)
    | with_reducible refine jr_wr (by assumption) (by omega) (fun M' hM' => ?_)
    | with_reducible refine zpr_ob (fun v => ?_)
    | with_reducible refine zpr_mltA (fun v => ?_)
    | with_reducible refine zpr_lp (fun s M' hM' => ?_) _ _ (by assumption)
    | with_reducible refine zpr_sl (fun e => ?_) (fun r => ?_)
    | with_reducible refine zpr_bd ?_ (fun a M' hM' => ?_)
set_option maxHeartbeats 4000000 in
theorem jr_X8_isSmall {a0 : Int32} {M0 : zMem} (h : Jr M0) : zpr Jr (m_X8_isSmall a0 M0) := by
  unfold m_X8_isSmall
  repeat' first
    | with_reducible exact zpr_ret (by assumption)
    | with_reducible refine zpr_if ?_ ?_
    | with_reducible refine zpr_mltT (fun t ht => ?_)
    | with_reducible refine jr_mlt (by assumption) (by omega) (fun M' hM' => ?_)
    | with_reducible refine jr_wr (by assumption) (by omega) (fun M' hM' => ?_)
    | with_reducible refine zpr_ob (fun v => ?_)
    | with_reducible refine zpr_mltA (fun v => ?_)
    | with_reducible refine zpr_lp (fun s M' hM' => ?_) _ _ (by assumption)
    | with_reducible refine zpr_sl (fun e => ?_) (fun r => ?_)
    | with_reducible refine zpr_bd ?_ (fun a M' hM' => ?_)
set_option maxHeartbeats 4000000 in
theorem jr_X8_isDigit {a0 : Int32} {M0 : zMem} (h : Jr M0) : zpr Jr (m_X8_isDigit a0 M0) := by
  unfold m_X8_isDigit
  repeat' first
    | with_reducible exact zpr_ret (by assumption)
    | with_reducible refine zpr_if ?_ ?_
    | with_reducible refine zpr_mltT (fun t ht => ?_)
    | with_reducible refine jr_mlt (by assumption) (by omega) (fun M' hM' => ?_)
    | with_reducible refine jr_wr (by assumption) (by omega) (fun M' hM' => ?_)
    | with_reducible refine zpr_ob (fun v => ?_)
    | with_reducible refine zpr_mltA (fun v => ?_)
    | with_reducible refine zpr_lp (fun s M' hM' => ?_) _ _ (by assumption)
    | with_reducible refine zpr_sl (fun e => ?_) (fun r => ?_)
    | with_reducible refine zpr_bd ?_ (fun a M' hM' => ?_)
set_option maxHeartbeats 4000000 in
theorem jr_X8_sign {a1 : Int32} {M0 : zMem} (h : Jr M0) : zpr Jr (m_X8_sign a1 M0) := by
  unfold m_X8_sign
  repeat' first
    | with_reducible exact zpr_ret (by assumption)
    | with_reducible refine zpr_if ?_ ?_
    | with_reducible refine zpr_mltT (fun t ht => ?_)
    | with_reducible refine jr_mlt (by assumption) (by omega) (fun M' hM' => ?_)
    | with_reducible refine jr_wr (by assumption) (by omega) (fun M' hM' => ?_)
    | with_reducible refine zpr_ob (fun v => ?_)
    | with_reducible refine zpr_mltA (fun v => ?_)
    | with_reducible refine zpr_lp (fun s M' hM' => ?_) _ _ (by assumption)
    | with_reducible refine zpr_sl (fun e => ?_) (fun r => ?_)
    | with_reducible exact jr_X8_here (by assumption)
    | with_reducible refine zpr_bd ?_ (fun a M' hM' => ?_)
set_option maxHeartbeats 4000000 in
theorem jr_X8_word {M0 : zMem} (h : Jr M0) : zpr Jr (m_X8_word M0) := by
  unfold m_X8_word
  repeat' first
    | with_reducible exact zpr_ret (by assumption)
    | with_reducible refine zpr_if ?_ ?_
    | with_reducible refine zpr_mltT (fun t ht => ?_)
    | with_reducible refine jr_mlt (by assumption) (by omega) (fun M' hM' => ?_)
    | with_reducible refine jr_wr (by assumption) (by omega) (fun M' hM' => ?_)
    | with_reducible refine zpr_ob (fun v => ?_)
    | with_reducible refine zpr_mltA (fun v => ?_)
    | with_reducible refine zpr_lp (fun s M' hM' => ?_) _ _ (by assumption)
    | with_reducible refine zpr_sl (fun e => ?_) (fun r => ?_)
    | with_reducible refine zpr_bd ?_ (fun a M' hM' => ?_)
set_option maxHeartbeats 4000000 in
theorem jr_X8_name {M0 : zMem} (h : Jr M0) : zpr Jr (m_X8_name M0) := by
  unfold m_X8_name
  repeat' first
    | with_reducible exact zpr_ret (by assumption)
    | with_reducible refine zpr_if ?_ ?_
    | with_reducible refine zpr_mltT (fun t ht => ?_)
    | with_reducible refine jr_mlt (by assumption) (by omega) (fun M' hM' => ?_)
    | with_reducible refine jr_wr (by assumption) (by omega) (fun M' hM' => ?_)
    | with_reducible refine zpr_ob (fun v => ?_)
    | with_reducible refine zpr_mltA (fun v => ?_)
    | with_reducible refine zpr_lp (fun s M' hM' => ?_) _ _ (by assumption)
    | with_reducible refine zpr_sl (fun e => ?_) (fun r => ?_)
    | with_reducible refine zpr_bd ?_ (fun a M' hM' => ?_)
set_option maxHeartbeats 4000000 in
theorem jr_X8_token {M0 : zMem} (h : Jr M0) : zpr Jr (m_X8_token M0) := by
  unfold m_X8_token
  repeat' first
    | with_reducible exact zpr_ret (by assumption)
    | with_reducible refine zpr_if ?_ ?_
    | with_reducible refine zpr_mltT (fun t ht => ?_)
    | with_reducible refine jr_mlt (by assumption) (by omega) (fun M' hM' => ?_)
    | with_reducible refine jr_wr (by assumption) (by omega) (fun M' hM' => ?_)
    | with_reducible refine zpr_ob (fun v => ?_)
    | with_reducible refine zpr_mltA (fun v => ?_)
    | with_reducible refine zpr_lp (fun s M' hM' => ?_) _ _ (by assumption)
    | with_reducible refine zpr_sl (fun e => ?_) (fun r => ?_)
    | with_reducible exact jr_X8_here (by assumption)
    | with_reducible exact jr_X8_isSmall (by assumption)
    | with_reducible exact jr_X8_isDigit (by assumption)
    | with_reducible exact jr_X8_sign (by assumption)
    | with_reducible exact jr_X8_word (by assumption)
    | with_reducible exact jr_X8_name (by assumption)
    | with_reducible refine zpr_bd ?_ (fun a M' hM' => ?_)
set_option maxHeartbeats 4000000 in
theorem jr_X8_numeral {a1 : Int32} {a2 : Int32} {M0 : zMem} (h : Jr M0) : zpr Jr (m_X8_numeral a1 a2 M0) := by
  unfold m_X8_numeral
  repeat' first
    | with_reducible exact zpr_ret (by assumption)
    | with_reducible refine zpr_if ?_ ?_
    | with_reducible refine zpr_mltT (fun t ht => ?_)
    | with_reducible refine jr_mlt (by assumption) (by omega) (fun M' hM' => ?_)
    | with_reducible refine jr_wr (by assumption) (by omega) (fun M' hM' => ?_)
    | with_reducible refine zpr_ob (fun v => ?_)
    | with_reducible refine zpr_mltA (fun v => ?_)
    | with_reducible refine zpr_lp (fun s M' hM' => ?_) _ _ (by assumption)
    | with_reducible refine zpr_sl (fun e => ?_) (fun r => ?_)
    | with_reducible exact jr_X8_wrong (by assumption) (by decide)
    | with_reducible exact jr_X8_token (by assumption)
    | with_reducible refine zpr_bd ?_ (fun a M' hM' => ?_)
set_option maxHeartbeats 4000000 in
theorem jr_X8_groundLine {a1 : Int32} {M0 : zMem} (h : Jr M0) : zpr Jr (m_X8_groundLine a1 M0) := by
  unfold m_X8_groundLine
  repeat' first
    | with_reducible exact zpr_ret (by assumption)
    | with_reducible refine zpr_if ?_ ?_
    | with_reducible refine zpr_mltT (fun t ht => ?_)
    | with_reducible refine jr_mlt (by assumption) (by omega) (fun M' hM' => ?_)
    | with_reducible refine jr_wr (by assumption) (by omega) (fun M' hM' => ?_)
    | with_reducible refine zpr_ob (fun v => ?_)
    | with_reducible refine zpr_mltA (fun v => ?_)
    | with_reducible refine zpr_lp (fun s M' hM' => ?_) _ _ (by assumption)
    | with_reducible refine zpr_sl (fun e => ?_) (fun r => ?_)
    | with_reducible exact jr_X8_numeral (by assumption)
    | with_reducible exact jr_X8_wrong (by assumption) (by decide)
    | with_reducible exact jr_X8_token (by assumption)
    | with_reducible refine zpr_bd ?_ (fun a M' hM' => ?_)
set_option maxHeartbeats 4000000 in
theorem jr_X8_found {a0 : Nat} {a1 : Int32} {a2 : Int32} {a3 : Int32} {M0 : zMem} (h : Jr M0) : zpr Jr (m_X8_found a0 a1 a2 a3 M0) := by
  unfold m_X8_found
  repeat' first
    | with_reducible exact zpr_ret (by assumption)
    | with_reducible refine zpr_if ?_ ?_
    | with_reducible refine zpr_mltT (fun t ht => ?_)
    | with_reducible refine jr_mlt (by assumption) (by omega) (fun M' hM' => ?_)
    | with_reducible refine jr_wr (by assumption) (by omega) (fun M' hM' => ?_)
    | with_reducible refine zpr_ob (fun v => ?_)
    | with_reducible refine zpr_mltA (fun v => ?_)
    | with_reducible refine zpr_lp (fun s M' hM' => ?_) _ _ (by assumption)
    | with_reducible refine zpr_sl (fun e => ?_) (fun r => ?_)
    | with_reducible refine zpr_bd ?_ (fun a M' hM' => ?_)
set_option maxHeartbeats 4000000 in
theorem jr_X8_fresh {a1 : Nat} {a2 : Int32} {a3 : Int32} {M0 : zMem} (h : Jr M0) : zpr Jr (m_X8_fresh a1 a2 a3 M0) := by
  unfold m_X8_fresh
  repeat' first
    | with_reducible exact zpr_ret (by assumption)
    | with_reducible refine zpr_if ?_ ?_
    | with_reducible refine zpr_mltT (fun t ht => ?_)
    | with_reducible refine jr_mlt (by assumption) (by omega) (fun M' hM' => ?_)
    | with_reducible refine jr_wr (by assumption) (by omega) (fun M' hM' => ?_)
    | with_reducible refine zpr_ob (fun v => ?_)
    | with_reducible refine zpr_mltA (fun v => ?_)
    | with_reducible refine zpr_lp (fun s M' hM' => ?_) _ _ (by assumption)
    | with_reducible refine zpr_sl (fun e => ?_) (fun r => ?_)
    | with_reducible exact jr_X8_found (by assumption)
    | with_reducible exact jr_X8_wrong (by assumption) (by decide)
    | with_reducible exact jr_X8_token (by assumption)
    | with_reducible refine zpr_bd ?_ (fun a M' hM' => ?_)
set_option maxHeartbeats 4000000 in
theorem jr_X8_cellAhead {M0 : zMem} (h : Jr M0) : zpr Jr (m_X8_cellAhead M0) := by
  unfold m_X8_cellAhead
  repeat' first
    | with_reducible exact zpr_ret (by assumption)
    | with_reducible refine zpr_if ?_ ?_
    | with_reducible refine zpr_mltT (fun t ht => ?_)
    | with_reducible refine jr_mlt (by assumption) (by omega) (fun M' hM' => ?_)
    | with_reducible refine jr_wr (by assumption) (by omega) (fun M' hM' => ?_)
    | with_reducible refine zpr_ob (fun v => ?_)
    | with_reducible refine zpr_mltA (fun v => ?_)
    | with_reducible refine zpr_lp (fun s M' hM' => ?_) _ _ (by assumption)
    | with_reducible refine zpr_sl (fun e => ?_) (fun r => ?_)
    | with_reducible exact jr_X8_numeral (by assumption)
    | with_reducible refine zpr_bd ?_ (fun a M' hM' => ?_)
set_option maxHeartbeats 4000000 in
theorem jr_X8_reads {a1 : Int32} {a2 : Int32} {M0 : zMem} (h : Jr M0) : zpr Jr (m_X8_reads a1 a2 M0) := by
  unfold m_X8_reads
  repeat' first
    | with_reducible exact zpr_ret (by assumption)
    | with_reducible refine zpr_if ?_ ?_
    | with_reducible refine zpr_mltT (fun t ht => ?_)
    | with_reducible refine jr_mlt (by assumption) (by omega) (fun M' hM' => ?_)
    | with_reducible refine jr_wr (by assumption) (by omega) (fun M' hM' => ?_)
    | with_reducible refine zpr_ob (fun v => ?_)
    | with_reducible refine zpr_mltA (fun v => ?_)
    | with_reducible refine zpr_lp (fun s M' hM' => ?_) _ _ (by assumption)
    | with_reducible refine zpr_sl (fun e => ?_) (fun r => ?_)
    | with_reducible refine zpr_bd ?_ (fun a M' hM' => ?_)
set_option maxHeartbeats 4000000 in
theorem jr_X8_isWord {a1 : Int32} {M0 : zMem} (h : Jr M0) : zpr Jr (m_X8_isWord a1 M0) := by
  unfold m_X8_isWord
  repeat' first
    | with_reducible exact zpr_ret (by assumption)
    | with_reducible refine zpr_if ?_ ?_
    | with_reducible refine zpr_mltT (fun t ht => ?_)
    | with_reducible refine jr_mlt (by assumption) (by omega) (fun M' hM' => ?_)
    | with_reducible refine jr_wr (by assumption) (by omega) (fun M' hM' => ?_)
    | with_reducible refine zpr_ob (fun v => ?_)
    | with_reducible refine zpr_mltA (fun v => ?_)
    | with_reducible refine zpr_lp (fun s M' hM' => ?_) _ _ (by assumption)
    | with_reducible refine zpr_sl (fun e => ?_) (fun r => ?_)
    | with_reducible refine zpr_bd ?_ (fun a M' hM' => ?_)
set_option maxHeartbeats 4000000 in
theorem jr_X8_knot {M0 : zMem} (h : Jr M0) : zpr Jr (m_X8_knot M0) := by
  unfold m_X8_knot
  repeat' first
    | with_reducible exact zpr_ret (by assumption)
    | with_reducible refine zpr_if ?_ ?_
    | with_reducible refine zpr_mltT (fun t ht => ?_)
    | with_reducible refine jr_mlt (by assumption) (by omega) (fun M' hM' => ?_)
    | with_reducible refine jr_wr (by assumption) (by omega) (fun M' hM' => ?_)
    | with_reducible refine zpr_ob (fun v => ?_)
    | with_reducible refine zpr_mltA (fun v => ?_)
    | with_reducible refine zpr_lp (fun s M' hM' => ?_) _ _ (by assumption)
    | with_reducible refine zpr_sl (fun e => ?_) (fun r => ?_)
    | with_reducible exact jr_X8_wrong (by assumption) (by decide)
    | with_reducible refine zpr_bd ?_ (fun a M' hM' => ?_)
set_option maxHeartbeats 4000000 in
theorem jr_X8_goOn {M0 : zMem} (h : Jr M0) : zpr Jr (m_X8_goOn M0) := by
  unfold m_X8_goOn
  repeat' first
    | with_reducible exact zpr_ret (by assumption)
    | with_reducible refine zpr_if ?_ ?_
    | with_reducible refine zpr_mltT (fun t ht => ?_)
    | with_reducible refine jr_mlt (by assumption) (by omega) (fun M' hM' => ?_)
    | with_reducible refine jr_wr (by assumption) (by omega) (fun M' hM' => ?_)
    | with_reducible refine zpr_ob (fun v => ?_)
    | with_reducible refine zpr_mltA (fun v => ?_)
    | with_reducible refine zpr_lp (fun s M' hM' => ?_) _ _ (by assumption)
    | with_reducible refine zpr_sl (fun e => ?_) (fun r => ?_)
    | with_reducible exact jr_X8_token (by assumption)
    | with_reducible refine zpr_bd ?_ (fun a M' hM' => ?_)
set_option maxHeartbeats 4000000 in
theorem jr_X8_puts {a1 : Int32} {a2 : Int32} {M0 : zMem} (h : Jr M0) : zpr Jr (m_X8_puts a1 a2 M0) := by
  unfold m_X8_puts
  repeat' first
    | with_reducible exact zpr_ret (by assumption)
    | with_reducible refine zpr_if ?_ ?_
    | with_reducible refine zpr_mltT (fun t ht => ?_)
    | with_reducible refine jr_mlt (by assumption) (by omega) (fun M' hM' => ?_)
    | with_reducible refine jr_wr (by assumption) (by omega) (fun M' hM' => ?_)
    | with_reducible refine zpr_ob (fun v => ?_)
    | with_reducible refine zpr_mltA (fun v => ?_)
    | with_reducible refine zpr_lp (fun s M' hM' => ?_) _ _ (by assumption)
    | with_reducible refine zpr_sl (fun e => ?_) (fun r => ?_)
    | with_reducible exact jr_X8_fresher (by assumption)
    | with_reducible exact jr_X8_reads (by assumption)
    | with_reducible refine zpr_bd ?_ (fun a M' hM' => ?_)
set_option maxHeartbeats 4000000 in
theorem jb_X8_expression {F : Nat → zMem → Option (Unit × zMem)} (hF : ∀ l M, Jr M → zpr Jr (F l M)) {M0 : zMem} (h : Jr M0) : zpr Jr (mb_X8_expression F M0) := by
  unfold mb_X8_expression
  repeat' first
    | with_reducible exact zpr_ret (by assumption)
    | with_reducible refine zpr_if ?_ ?_
    | with_reducible refine zpr_mltT (fun t ht => ?_)
    | with_reducible refine jr_mlt (by assumption) (by omega) (fun M' hM' => ?_)
    | with_reducible refine jr_wr (by assumption) (by omega) (fun M' hM' => ?_)
    | with_reducible refine zpr_ob (fun v => ?_)
    | with_reducible refine zpr_mltA (fun v => ?_)
    | with_reducible refine zpr_lp (fun s M' hM' => ?_) _ _ (by assumption)
    | with_reducible refine zpr_sl (fun e => ?_) (fun r => ?_)
    | with_reducible exact jr_X8_isWord (by assumption)
    | with_reducible exact jr_X8_knot (by assumption)
    | with_reducible exact jr_X8_goOn (by assumption)
    | with_reducible exact jr_X8_puts (by assumption)
    | with_reducible exact hF _ _ (by assumption)
    | with_reducible refine zpr_bd ?_ (fun a M' hM' => ?_)
set_option maxHeartbeats 4000000 in
theorem jb_X8_conjunction {F : Nat → zMem → Option (Unit × zMem)} (hF : ∀ l M, Jr M → zpr Jr (F l M)) {M0 : zMem} (h : Jr M0) : zpr Jr (mb_X8_conjunction F M0) := by
  unfold mb_X8_conjunction
  repeat' first
    | with_reducible exact zpr_ret (by assumption)
    | with_reducible refine zpr_if ?_ ?_
    | with_reducible refine zpr_mltT (fun t ht => ?_)
    | with_reducible refine jr_mlt (by assumption) (by omega) (fun M' hM' => ?_)
    | with_reducible refine jr_wr (by assumption) (by omega) (fun M' hM' => ?_)
    | with_reducible refine zpr_ob (fun v => ?_)
    | with_reducible refine zpr_mltA (fun v => ?_)
    | with_reducible refine zpr_lp (fun s M' hM' => ?_) _ _ (by assumption)
    | with_reducible refine zpr_sl (fun e => ?_) (fun r => ?_)
    | with_reducible exact jr_X8_isWord (by assumption)
    | with_reducible exact jr_X8_knot (by assumption)
    | with_reducible exact jr_X8_goOn (by assumption)
    | with_reducible exact jr_X8_puts (by assumption)
    | with_reducible exact hF _ _ (by assumption)
    | with_reducible refine zpr_bd ?_ (fun a M' hM' => ?_)
set_option maxHeartbeats 4000000 in
theorem jb_X8_negation {F : Nat → zMem → Option (Unit × zMem)} (hF : ∀ l M, Jr M → zpr Jr (F l M)) {M0 : zMem} (h : Jr M0) : zpr Jr (mb_X8_negation F M0) := by
  unfold mb_X8_negation
  repeat' first
    | with_reducible exact zpr_ret (by assumption)
    | with_reducible refine zpr_if ?_ ?_
    | with_reducible refine zpr_mltT (fun t ht => ?_)
    | with_reducible refine jr_mlt (by assumption) (by omega) (fun M' hM' => ?_)
    | with_reducible refine jr_wr (by assumption) (by omega) (fun M' hM' => ?_)
    | with_reducible refine zpr_ob (fun v => ?_)
    | with_reducible refine zpr_mltA (fun v => ?_)
    | with_reducible refine zpr_lp (fun s M' hM' => ?_) _ _ (by assumption)
    | with_reducible refine zpr_sl (fun e => ?_) (fun r => ?_)
    | with_reducible exact jr_X8_isWord (by assumption)
    | with_reducible exact jr_X8_knot (by assumption)
    | with_reducible exact jr_X8_goOn (by assumption)
    | with_reducible exact jr_X8_puts (by assumption)
    | with_reducible exact hF _ _ (by assumption)
    | with_reducible refine zpr_bd ?_ (fun a M' hM' => ?_)
set_option maxHeartbeats 4000000 in
theorem jr_X8_isSign {a1 : Int32} {M0 : zMem} (h : Jr M0) : zpr Jr (m_X8_isSign a1 M0) := by
  unfold m_X8_isSign
  repeat' first
    | with_reducible exact zpr_ret (by assumption)
    | with_reducible refine zpr_if ?_ ?_
    | with_reducible refine zpr_mltT (fun t ht => ?_)
    | with_reducible refine jr_mlt (by assumption) (by omega) (fun M' hM' => ?_)
    | with_reducible refine jr_wr (by assumption) (by omega) (fun M' hM' => ?_)
    | with_reducible refine zpr_ob (fun v => ?_)
    | with_reducible refine zpr_mltA (fun v => ?_)
    | with_reducible refine zpr_lp (fun s M' hM' => ?_) _ _ (by assumption)
    | with_reducible refine zpr_sl (fun e => ?_) (fun r => ?_)
    | with_reducible refine zpr_bd ?_ (fun a M' hM' => ?_)
set_option maxHeartbeats 4000000 in
theorem jb_X8_sum {F : Nat → zMem → Option (Unit × zMem)} (hF : ∀ l M, Jr M → zpr Jr (F l M)) {M0 : zMem} (h : Jr M0) : zpr Jr (mb_X8_sum F M0) := by
  unfold mb_X8_sum
  repeat' first
    | with_reducible exact zpr_ret (by assumption)
    | with_reducible refine zpr_if ?_ ?_
    | with_reducible refine zpr_mltT (fun t ht => ?_)
    | with_reducible refine jr_mlt (by assumption) (by omega) (fun M' hM' => ?_)
    | with_reducible refine jr_wr (by assumption) (by omega) (fun M' hM' => ?_)
    | with_reducible refine zpr_ob (fun v => ?_)
    | with_reducible refine zpr_mltA (fun v => ?_)
    | with_reducible refine zpr_lp (fun s M' hM' => ?_) _ _ (by assumption)
    | with_reducible refine zpr_sl (fun e => ?_) (fun r => ?_)
    | with_reducible exact jr_X8_isSign (by assumption)
    | with_reducible exact jr_X8_knot (by assumption)
    | with_reducible exact jr_X8_goOn (by assumption)
    | with_reducible exact jr_X8_puts (by assumption)
    | with_reducible exact hF _ _ (by assumption)
    | with_reducible refine zpr_bd ?_ (fun a M' hM' => ?_)
set_option maxHeartbeats 4000000 in
theorem jb_X8_product {F : Nat → zMem → Option (Unit × zMem)} (hF : ∀ l M, Jr M → zpr Jr (F l M)) {M0 : zMem} (h : Jr M0) : zpr Jr (mb_X8_product F M0) := by
  unfold mb_X8_product
  repeat' first
    | with_reducible exact zpr_ret (by assumption)
    | with_reducible refine zpr_if ?_ ?_
    | with_reducible refine zpr_mltT (fun t ht => ?_)
    | with_reducible refine jr_mlt (by assumption) (by omega) (fun M' hM' => ?_)
    | with_reducible refine jr_wr (by assumption) (by omega) (fun M' hM' => ?_)
    | with_reducible refine zpr_ob (fun v => ?_)
    | with_reducible refine zpr_mltA (fun v => ?_)
    | with_reducible refine zpr_lp (fun s M' hM' => ?_) _ _ (by assumption)
    | with_reducible refine zpr_sl (fun e => ?_) (fun r => ?_)
    | with_reducible exact jr_X8_isSign (by assumption)
    | with_reducible exact jr_X8_knot (by assumption)
    | with_reducible exact jr_X8_goOn (by assumption)
    | with_reducible exact jr_X8_puts (by assumption)
    | with_reducible exact hF _ _ (by assumption)
    | with_reducible refine zpr_bd ?_ (fun a M' hM' => ?_)
set_option maxHeartbeats 4000000 in
theorem jb_X8_primary {F : Nat → zMem → Option (Unit × zMem)} (hF : ∀ l M, Jr M → zpr Jr (F l M)) {M0 : zMem} (h : Jr M0) : zpr Jr (mb_X8_primary F M0) := by
  unfold mb_X8_primary
  repeat' first
    | with_reducible exact zpr_ret (by assumption)
    | with_reducible refine zpr_if ?_ ?_
    | with_reducible refine zpr_mltT (fun t ht => ?_)
    | with_reducible refine jr_mlt (by assumption) (by omega) (fun M' hM' => ?_)
    | with_reducible refine jr_wr (by assumption) (by omega) (fun M' hM' => ?_)
    | with_reducible refine zpr_ob (fun v => ?_)
    | with_reducible refine zpr_mltA (fun v => ?_)
    | with_reducible refine zpr_lp (fun s M' hM' => ?_) _ _ (by assumption)
    | with_reducible refine zpr_sl (fun e => ?_) (fun r => ?_)
    | with_reducible exact jr_X8_isSign (by assumption)
    | with_reducible exact jr_X8_wrong (by assumption) (by decide)
    | with_reducible exact jr_X8_knot (by assumption)
    | with_reducible exact jr_X8_puts (by assumption)
    | with_reducible exact jr_X8_goOn (by assumption)
    | with_reducible exact jr_X8_token (by assumption)
    | with_reducible exact hF _ _ (by assumption)
    | with_reducible refine zpr_bd ?_ (fun a M' hM' => ?_)
theorem jr_E : ∀ (fu l : Nat) (M : zMem), Jr M → zpr Jr (m_E fu l M) := by
  intro fu
  induction fu with
  | zero => intro l M h a M' e; cases e
  | succ fu ih =>
    intro l M h
    rcases l with _ | _ | _ | _ | _ | l
    · exact jb_X8_expression ih h
    · exact jb_X8_conjunction ih h
    · exact jb_X8_negation ih h
    · exact jb_X8_sum ih h
    · exact jb_X8_product ih h
    · exact jb_X8_primary ih h
theorem jr_X8_expression {n : Nat} {M0 : zMem} (h : Jr M0) : zpr Jr (m_X8_expression n M0) := jr_E n 0 M0 h
set_option maxHeartbeats 4000000 in
theorem jr_X8_lawLine {M0 : zMem} (h : Jr M0) : zpr Jr (m_X8_lawLine M0) := by
  unfold m_X8_lawLine
  repeat' first
    | with_reducible exact zpr_ret (by assumption)
    | with_reducible refine zpr_if ?_ ?_
    | with_reducible refine zpr_mltT (fun t ht => ?_)
    | with_reducible refine jr_mlt (by assumption) (by omega) (fun M' hM' => ?_)
    | with_reducible refine jr_wr (by assumption) (by omega) (fun M' hM' => ?_)
    | with_reducible refine zpr_ob (fun v => ?_)
    | with_reducible refine zpr_mltA (fun v => ?_)
    | with_reducible refine zpr_lp (fun s M' hM' => ?_) _ _ (by assumption)
    | with_reducible refine zpr_sl (fun e => ?_) (fun r => ?_)
    | with_reducible exact jr_X8_wrong (by assumption) (by decide)
    | with_reducible exact jr_X8_token (by assumption)
    | with_reducible exact jr_X8_fresher (by assumption)
    | with_reducible exact jr_X8_expression (by assumption)
    | with_reducible refine zpr_bd ?_ (fun a M' hM' => ?_)
set_option maxHeartbeats 4000000 in
theorem jr_X8_line {M0 : zMem} (h : Jr M0) : zpr Jr (m_X8_line M0) := by
  unfold m_X8_line
  repeat' first
    | with_reducible exact zpr_ret (by assumption)
    | with_reducible refine zpr_if ?_ ?_
    | with_reducible refine zpr_mltT (fun t ht => ?_)
    | with_reducible refine jr_mlt (by assumption) (by omega) (fun M' hM' => ?_)
    | with_reducible refine jr_wr (by assumption) (by omega) (fun M' hM' => ?_)
    | with_reducible refine zpr_ob (fun v => ?_)
    | with_reducible refine zpr_mltA (fun v => ?_)
    | with_reducible refine zpr_lp (fun s M' hM' => ?_) _ _ (by assumption)
    | with_reducible refine zpr_sl (fun e => ?_) (fun r => ?_)
    | with_reducible exact jr_X8_isFull (by assumption)
    | with_reducible exact jr_X8_wrong (by assumption) (by decide)
    | with_reducible exact jr_X8_token (by assumption)
    | with_reducible exact jr_X8_groundLine (by assumption)
    | with_reducible exact jr_X8_fresher (by assumption)
    | with_reducible exact jr_X8_fresh (by assumption)
    | with_reducible exact jr_X8_cellAhead (by assumption)
    | with_reducible exact jr_X8_numeral (by assumption)
    | with_reducible exact jr_X8_reads (by assumption)
    | with_reducible exact jr_X8_lawLine (by assumption)
    | with_reducible exact jr_X8_isSign (by assumption)
    | with_reducible refine zpr_bd ?_ (fun a M' hM' => ?_)
end

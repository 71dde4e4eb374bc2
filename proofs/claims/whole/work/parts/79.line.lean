/-! what a line holds, token by token -/
abbrev yLE (α : Type) : Type := (Nat × Nat) ⊕ α
def anum (b : Nat → Nat) (n lo hi p : Nat) : yLE (Nat × Nat) := if ytk b n p = 37 then (if lo ≤ yva b n p ∧ yva b n p ≤ hi then .inr (yva b n p, ynx b n p) else .inl (2, ypl b n p)) else .inl (1, ypl b n p)
def acell (b : Nat → Nat) (n p : Nat) : yLE (Nat × Nat × Nat) := match anum b n 0 5 p with
  | .inl f => .inl f
  | .inr (x, p1) => match anum b n 0 3 p1 with
    | .inl f => .inl f
    | .inr (y, p2) => .inr (6 * y + x, ypl b n p1, p2)
def aname (b : Nat → Nat) (n : Nat) (f : Nat → Int32) (m p : Nat) : yLE (Nat × Nat) := if ytk b n p = 36 then (if zfst (fun i => f i = Int32.ofNat (ylt b n p)) 0 m = -1 then .inr (ylt b n p, ynx b n p) else .inl (3, ypl b n p)) else .inl (1, ypl b n p)
def yCB (M : zMem) (b : Nat → Nat) (n t p : Nat) : Prop := yTx M b n ∧ yRb M n ∧ M.1 2 14 = 0 ∧ yCk M b n p ∧ zIT t ∧ ztof (M.1 2 10) = t
def yCG (M : zMem) (t : Nat) (f : Nat × Nat) : Prop := yFl M f ∧ zIT t ∧ ztof (M.1 2 10) = t
def yRd (k i : Nat) : Prop := k = 2 ∧ (3 ≤ i ∧ i ≤ 8 ∨ i = 14 ∨ i = 15)
def yRG (M : zMem) (b : Nat → Nat) (n p : Nat) : Prop := yTx M b n ∧ M.1 213 22 = Int32.ofNat n ∧ M.1 213 27 = 0 ∧ yRk M b n p
def yRv (k i : Nat) : Prop := k = 213 ∧ 23 ≤ i ∧ i ≤ 28
theorem anum_inr {b : Nat → Nat} {n lo hi p x p' : Nat} (h : anum b n lo hi p = .inr (x, p')) : lo ≤ x ∧ x ≤ hi ∧ x = yva b n p ∧ p' = ynx b n p ∧ ytk b n p = 37 := by
  unfold anum at h
  by_cases h37 : ytk b n p = 37
  · rw [if_pos h37] at h
    by_cases hb : lo ≤ yva b n p ∧ yva b n p ≤ hi
    · rw [if_pos hb] at h
      cases h
      exact ⟨hb.1, hb.2, rfl, rfl, h37⟩
    · rw [if_neg hb] at h; cases h
  · rw [if_neg h37] at h; cases h
section
variable {M : zMem} {b : Nat → Nat} {n t p : Nat} {f : Nat × Nat} {α : Type} {Q : α → zMem → Prop}
theorem yCB.hb (h : yCB M b n t p) : ∀ i, i < n → b i < 256 := fun i hi => (h.1.2 i hi).1
theorem yRG.hb (h : yRG M b n p) : ∀ i, i < n → b i < 256 := fun i hi => (h.1.2 i hi).1
theorem yCB.tk (h : yCB M b n t p) {c : Nat} (hc : c < 40) : (M.1 2 4 = Int32.ofNat c) ↔ ytk b n p = c := by
  rw [h.2.2.2.1.2.2.2.1]
  exact zi_eq (by have := ytk_lt h.hb (p := p); omega) (by omega)
theorem yCB.keep {M' : zMem} {P : Nat → Nat → Prop} {p' : Nat} (h : yCB M b n t p) (fr : zfr P M M') (hP : ∀ k i, P k i → (k = 2 ∧ (3 ≤ i ∧ i ≤ 9 ∨ 12 ≤ i)) ∨ (4 < k ∧ k < 214)) (ok : M'.1 2 14 = 0) (ck : yCk M' b n p') : yCB M' b n t p' :=
  ⟨h.1.keep fr (fun i z => by have := hP _ _ z; omega) (fun i z => by have := hP _ _ z; omega), h.2.1.keep fr (fun z => by have := hP _ _ z; omega) (fun z => by have := hP _ _ z; omega) (fun i z => by have := hP _ _ z; omega), ok, ck, h.2.2.2.2.1, by rw [fr 2 10 (fun z => by have := hP _ _ z; omega)]; exact h.2.2.2.2.2⟩
theorem yCB.flt {M' : zMem} {P : Nat → Nat → Prop} (h : yCB M b n t p) (fr : zfr P M M') (hP : ¬ P 2 10) (fl : yFl M' f) : yCG M' t f := ⟨fl, h.2.2.2.2.1, by rw [fr 2 10 hP]; exact h.2.2.2.2.2⟩
theorem yCG.keep {M' : zMem} {P : Nat → Nat → Prop} (h : yCG M t f) (fr : zfr P M M') (hP : ∀ i, P 2 i → ¬ (i = 4 ∨ i = 10 ∨ i = 14 ∨ i = 15)) : yCG M' t f :=
  ⟨⟨h.1.1, by rw [fr 2 14 (fun z => hP _ z (by omega))]; exact h.1.2.1, by rw [fr 2 15 (fun z => hP _ z (by omega))]; exact h.1.2.2.1, by rw [fr 2 4 (fun z => hP _ z (by omega))]; exact h.1.2.2.2⟩, h.2.1, by rw [fr 2 10 (fun z => hP _ z (by omega))]; exact h.2.2⟩
theorem yCB.adv (h : yCB M b n t p) : zwp (m_X4_advance M) (fun _ M' => yCB M' b n t (ynx b n p) ∧ zfr yRA M M') := by
  refine zwp_mono (c_advance h.2.1 h.1 h.2.2.1 (ynx_le h.hb h.2.2.2.1.1).2.1 h.2.2.2.1.2.1) (fun _ M' z => ⟨h.keep z.2 (by unfold yRA; omega) ?_ z.1, z.2⟩)
  rw [z.2 2 14 (by unfold yRA; omega)]; exact h.2.2.1
theorem yCB.fail (h : yCB M b n t p) {k : Nat} (hk : k = 1 ∨ k = 2 ∨ k = 3) : zwp (m_X4_fail (Int32.ofNat k) M) (fun _ M' => yCG M' t (k, ypl b n p) ∧ zfr yRd M M') :=
  zwp_mono (c_fail h.2.2.1 h.2.2.2.1 hk) (fun _ M' z => ⟨h.flt z.2 (by omega) z.1, zfr_weak z.2 (by unfold yRd; omega)⟩)
theorem c_num (h : yCB M b n t p) {lo hi : Nat} (hl : lo ≤ 99999) (hh : hi ≤ 99999) {g : Int32 → zMem → Option (α × zMem)}
    (k1 : ∀ f M', anum b n lo hi p = .inl f → yCG M' t f → zfr yRd M M' → zwp (g (-1) M') Q)
    (k2 : ∀ x p' M', anum b n lo hi p = .inr (x, p') → yCB M' b n t p' → M'.1 2 8 = Int32.ofNat (ypl b n p) → zfr yRd M M' → zwp (g (Int32.ofNat x) M') Q) :
    zwp (mbd (m_X4_readNumber (Int32.ofNat lo) (Int32.ofNat hi) M) g) Q := by
  refine c_number h.2.2.1 h.2.1 h.1 h.2.2.2.1 hl hh (fun z M' fl fr => ?_) (fun z z2 M' fl fr => ?_) (fun z z2 z3 M' ck e8 fr => ?_)
  · exact k1 _ M' (by unfold anum; rw [if_neg z]) (h.flt fr (by omega) fl) (zfr_weak fr (by unfold yRd; omega))
  · exact k1 _ M' (by unfold anum; rw [if_pos z, if_neg z2]) (h.flt fr (by omega) fl) (zfr_weak fr (by unfold yRd; omega))
  · exact k2 _ _ M' (by unfold anum; rw [if_pos z, if_pos ⟨z2, z3⟩]) (h.keep fr (by omega) (by rw [fr 2 14 (by omega)]; exact h.2.2.1) ck) e8 (zfr_weak fr (by unfold yRd; omega))
theorem c_cell_f (fl : yFl M f) : m_X4_readCell M = some (-1, M) := by
  unfold m_X4_readCell
  rw [c_number_f fl, mbd_some, c_number_f fl, mbd_some, if_neg fl.ne]
theorem c_name_f (fl : yFl M f) (k : Nat) (a : Int32) : m_X4_readName k a M = some (0, M) := by
  unfold m_X4_readName
  rw [fl.2.2.2, if_neg (by decide), c_fail_f fl, mbd_some]
theorem c_cell (h : yCB M b n t p) {g : Int32 → zMem → Option (α × zMem)}
    (k1 : ∀ f M', acell b n p = .inl f → yCG M' t f → zfr yRd M M' → zwp (g (-1) M') Q)
    (k2 : ∀ c q p' M', acell b n p = .inr (c, q, p') → c < 24 → yCB M' b n t p' → M'.1 2 8 = Int32.ofNat q → zfr yRd M M' → zwp (g (Int32.ofNat c) M') Q) :
    zwp (mbd (m_X4_readCell M) g) Q := by
  have key : zwp (m_X4_readCell M) (fun v M' => zfr yRd M M' ∧ ((∃ f, acell b n p = .inl f ∧ yCG M' t f ∧ v = -1) ∨ ∃ c q p', acell b n p = .inr (c, q, p') ∧ c < 24 ∧ yCB M' b n t p' ∧ M'.1 2 8 = Int32.ofNat q ∧ v = Int32.ofNat c)) := by
    unfold m_X4_readCell
    refine c_num h (lo := 0) (hi := 5) (by decide) (by decide) (fun f M1 e cg f1 => ?_) (fun x p1 M1 e cb _ f1 => ?_)
    · rw [c_number_f cg.1, mbd_some, if_neg cg.1.ne]
      exact zwp_ret ⟨f1, Or.inl ⟨f, by unfold acell; rw [e], cg, rfl⟩⟩
    · refine c_num cb (lo := 0) (hi := 3) (by decide) (by decide) (fun f M2 e2 cg f2 => ?_) (fun y p2 M2 e2 cb2 e8 f2 => ?_)
      · rw [if_neg cg.1.ne]
        exact zwp_ret ⟨zfr_trans f1 f2, Or.inl ⟨f, by unfold acell; rw [e]; simp only; rw [e2], cg, rfl⟩⟩
      · have a1 := anum_inr e
        have a2 := anum_inr e2
        rw [if_pos cb2.2.2.1]
        refine zwp_ret ⟨zfr_trans f1 f2, Or.inr ⟨6 * y + x, _, p2, by unfold acell; rw [e]; simp only; rw [e2], by omega, cb2, e8, ?_⟩⟩
        rw [show (6 : Int32) = Int32.ofNat 6 from rfl, ← Int32.ofNat_mul, ← Int32.ofNat_add]
  refine zwp_bd key ?_
  rintro v M' ⟨fr, ⟨f, e, cg, rfl⟩ | ⟨c, q, p', e, hc, cb, e8, rfl⟩⟩
  · exact k1 f M' e cg fr
  · exact k2 c q p' M' e hc cb e8 fr
theorem c_name (h : yCB M b n t p) {k m : Nat} (fn : Nat → Int32) (hm : m ≤ (zds k).2) (hz : (zds k).2 < 1000) (hf : ∀ i, i < m → M.1 k i = fn i) {g : Int32 → zMem → Option (α × zMem)}
    (k1 : ∀ f v M', aname b n fn m p = .inl f → yCG M' t f → zfr yRd M M' → zwp (g v M') Q)
    (k2 : ∀ x p' M', aname b n fn m p = .inr (x, p') → yCB M' b n t p' → zfr yRd M M' → zwp (g (Int32.ofNat x) M') Q) :
    zwp (mbd (m_X4_readName k (Int32.ofNat m) M) g) Q := by
  have ck := h.2.2.2.1
  have key : zwp (m_X4_readName k (Int32.ofNat m) M) (fun v M' => zfr yRd M M' ∧ ((∃ f, aname b n fn m p = .inl f ∧ yCG M' t f) ∨ ∃ x p', aname b n fn m p = .inr (x, p') ∧ yCB M' b n t p' ∧ v = Int32.ofNat x)) := by
    unfold m_X4_readName
    by_cases h36 : ytk b n p = 36
    · have t36 : M.1 2 4 = 36 := (h.tk (c := 36) (by decide)).mpr h36
      rw [if_pos t36, ck.2.2.2.2.2 h36, c_numberOf fn hm hz hf, mbd_some]
      by_cases z : zfst (fun i => fn i = Int32.ofNat (ylt b n p)) 0 m = -1
      · rw [if_pos z, mbd_some]
        refine zwp_bd h.adv (fun _ M1 y => ?_)
        rw [ck.2.2.2.2.2 h36]
        exact zwp_ret ⟨zfr_weak y.2 (by unfold yRA yRd; omega), Or.inr ⟨_, _, by unfold aname; rw [if_pos h36, if_pos z], y.1, rfl⟩⟩
      · rw [if_neg z]
        refine zwp_bd (Q' := fun _ M' => yCG M' t (3, ypl b n p) ∧ zfr yRd M M') (zwp_bd (h.fail (k := 3) (by omega)) (fun _ M1 y => zwp_ret y)) (fun _ M1 y => ?_)
        rw [c_advance_f y.1.1, mbd_some]
        exact zwp_ret ⟨y.2, Or.inl ⟨_, by unfold aname; rw [if_pos h36, if_neg z], y.1⟩⟩
    · have t36 : ¬ M.1 2 4 = 36 := fun z => h36 ((h.tk (c := 36) (by decide)).mp z)
      rw [if_neg t36]
      refine zwp_bd (h.fail (k := 1) (by omega)) (fun _ M1 y => ?_)
      exact zwp_ret ⟨y.2, Or.inl ⟨_, by unfold aname; rw [if_neg h36], y.1⟩⟩
  refine zwp_bd key ?_
  rintro v M' ⟨fr, ⟨f, e, cg⟩ | ⟨x, p', e, cb, rfl⟩⟩
  · exact k1 f v M' e cg fr
  · exact k2 x p' M' e cb fr
/-! the same of the reference -/
theorem r_numeral_f (fl : yRF M f) (a c : Int32) : m_X8_numeral a c M = some (a, M) := by
  unfold m_X8_numeral
  rw [if_neg fl.ne]
theorem r_fresh_f (fl : yRF M f) (k : Nat) (a c : Int32) : m_X8_fresh k a c M = some (0, M) := by
  unfold m_X8_fresh
  rw [if_neg fl.ne]
theorem yRG.keep {M' : zMem} {P : Nat → Nat → Prop} {p' : Nat} (h : yRG M b n p) (fr : zfr P M M') (hP : ∀ k i, P k i → (k = 213 ∧ ¬ i = 22) ∨ 214 < k) (ok : M'.1 213 27 = 0) (rk : yRk M' b n p') : yRG M' b n p' :=
  ⟨h.1.keep fr (fun i z => by have := hP _ _ z; omega) (fun i z => by have := hP _ _ z; omega), by rw [fr 213 22 (fun z => by have := hP _ _ z; omega)]; exact h.2.1, ok, rk⟩
theorem yRG.token (h : yRG M b n p) : zwp (m_X8_token M) (fun _ M' => yRG M' b n (ynx b n p) ∧ zfr yRB M M') := by
  refine zwp_mono (r_token h.1 h.2.1 (ynx_le h.hb h.2.2.2.1).2.1 h.2.2.2.2.1) (fun _ M' z => ⟨h.keep z.2 (by unfold yRB; omega) ?_ z.1, z.2⟩)
  rw [z.2 213 27 (by unfold yRB; omega)]; exact h.2.2.1
theorem yRG.wrong (h : yRG M b n p) {k : Nat} (hk : k = 1 ∨ k = 2 ∨ k = 3) : zwp (m_X8_wrong (Int32.ofNat k) M) (fun _ M' => yRF M' (k, ypl b n p) ∧ zfr yRv M M') :=
  zwp_mono (r_wrong h.2.2.2 h.2.2.1 hk) (fun _ M' z => ⟨z.1, zfr_weak z.2 (by unfold yRv; omega)⟩)
theorem r_num (h : yRG M b n p) {lo hi : Nat} (hl : lo ≤ 99999) (hh : hi ≤ 99999) {g : Int32 → zMem → Option (α × zMem)}
    (k1 : ∀ f M', anum b n lo hi p = .inl f → yRF M' f → zfr yRv M M' → zwp (g (Int32.ofNat lo) M') Q)
    (k2 : ∀ x p' M', anum b n lo hi p = .inr (x, p') → yRG M' b n p' → zfr yRv M M' → zwp (g (Int32.ofNat x) M') Q) :
    zwp (mbd (m_X8_numeral (Int32.ofNat lo) (Int32.ofNat hi) M) g) Q := by
  have rk := h.2.2.2
  have lt := ytk_lt h.hb (p := p)
  have s3 := ysrt_3 _ lt
  have key : zwp (m_X8_numeral (Int32.ofNat lo) (Int32.ofNat hi) M) (fun v M' => zfr yRv M M' ∧ ((∃ f, anum b n lo hi p = .inl f ∧ yRF M' f ∧ v = Int32.ofNat lo) ∨ ∃ x p', anum b n lo hi p = .inr (x, p') ∧ yRG M' b n p' ∧ v = Int32.ofNat x)) := by
    unfold m_X8_numeral
    rw [if_pos h.2.2.1, rk.2.2.2.1]
    by_cases h37 : ytk b n p = 37
    · have vl := rk.2.2.2.2.2.2.1 h37
      have yl := yva_le (b := b) (n := n) (p := p)
      rw [if_pos (by rw [s3.2.2.1.mpr h37]; rfl), vl]
      by_cases hb : lo ≤ yva b n p ∧ yva b n p ≤ hi
      · rw [if_neg (by rw [zi_lt (by omega) (by omega)]; omega), if_pos (by rw [zi_le (by omega) (by omega)]; omega), mbd_some, zsl_r, mbd_some, if_pos h.2.2.1]
        refine zwp_bd h.token (fun _ M1 y => ?_)
        rw [vl]
        exact zwp_ret ⟨zfr_weak y.2 (by unfold yRB yRv; omega), Or.inr ⟨_, _, by unfold anum; rw [if_pos h37, if_pos hb], y.1, rfl⟩⟩
      · have e : (if Int32.ofNat (yva b n p) < Int32.ofNat lo then some (((.inl ()) : Unit ⊕ Unit), M) else if Int32.ofNat (yva b n p) ≤ Int32.ofNat hi then some ((.inr ()), M) else some ((.inl ()), M)) = some (.inl (), M) := by
          by_cases z : yva b n p < lo
          · rw [if_pos (by rw [zi_lt (by omega) (by omega)]; exact z)]
          · rw [if_neg (by rw [zi_lt (by omega) (by omega)]; exact z), if_neg (by rw [zi_le (by omega) (by omega)]; omega)]
        rw [e, mbd_some, zsl_l]
        refine zwp_bd (Q' := fun _ M' => yRF M' (2, ypl b n p) ∧ zfr yRv M M') (zwp_bd (h.wrong (k := 2) (by omega)) (fun _ M1 y => zwp_ret y)) (fun _ M1 y => ?_)
        rw [if_neg y.1.ne]
        exact zwp_ret ⟨y.2, Or.inl ⟨_, by unfold anum; rw [if_pos h37, if_neg hb], y.1, rfl⟩⟩
    · rw [if_neg (by rw [show (2 : Int32) = Int32.ofNat 2 from rfl, ysr_eq _ (by omega)]; exact fun z => h37 (s3.2.2.1.mp z))]
      refine zwp_bd (Q' := fun _ M' => yRF M' (1, ypl b n p) ∧ zfr yRv M M') (zwp_bd (h.wrong (k := 1) (by omega)) (fun _ M1 y => zwp_ret y)) (fun _ M1 y => ?_)
      rw [if_neg y.1.ne]
      exact zwp_ret ⟨y.2, Or.inl ⟨_, by unfold anum; rw [if_neg h37], y.1, rfl⟩⟩
  refine zwp_bd key ?_
  rintro v M' ⟨fr, ⟨f, e, fl, rfl⟩ | ⟨x, p', e, rg, rfl⟩⟩
  · exact k1 f M' e fl fr
  · exact k2 x p' M' e rg fr
theorem r_cell (h : yRG M b n p) {g : Int32 → zMem → Option (α × zMem)}
    (k1 : ∀ f v M', acell b n p = .inl f → yRF M' f → zfr yRv M M' → zwp (g v M') Q)
    (k2 : ∀ c q p' M', acell b n p = .inr (c, q, p') → c < 24 → yRG M' b n p' → zfr yRv M M' → zwp (g (Int32.ofNat c) M') Q) :
    zwp (mbd (m_X8_cellAhead M) g) Q := by
  have key : zwp (m_X8_cellAhead M) (fun v M' => zfr yRv M M' ∧ ((∃ f, acell b n p = .inl f ∧ yRF M' f) ∨ ∃ c q p', acell b n p = .inr (c, q, p') ∧ c < 24 ∧ yRG M' b n p' ∧ v = Int32.ofNat c)) := by
    unfold m_X8_cellAhead
    refine r_num h (lo := 0) (hi := 5) (by decide) (by decide) (fun f M1 e fl f1 => ?_) (fun x p1 M1 e rg f1 => ?_)
    · rw [r_numeral_f fl, mbd_some]
      exact zwp_ret ⟨f1, Or.inl ⟨f, by unfold acell; rw [e], fl⟩⟩
    · refine r_num rg (lo := 0) (hi := 3) (by decide) (by decide) (fun f M2 e2 fl f2 => ?_) (fun y p2 M2 e2 rg2 f2 => ?_)
      · exact zwp_ret ⟨zfr_trans f1 f2, Or.inl ⟨f, by unfold acell; rw [e]; simp only; rw [e2], fl⟩⟩
      · have a1 := anum_inr e
        have a2 := anum_inr e2
        refine zwp_ret ⟨zfr_trans f1 f2, Or.inr ⟨6 * y + x, _, p2, by unfold acell; rw [e]; simp only; rw [e2], by omega, rg2, ?_⟩⟩
        rw [show (6 : Int32) = Int32.ofNat 6 from rfl, ← Int32.ofNat_mul, ← Int32.ofNat_add]
  refine zwp_bd key ?_
  rintro v M' ⟨fr, ⟨f, e, fl⟩ | ⟨c, q, p', e, hc, rg, rfl⟩⟩
  · exact k1 f v M' e fl fr
  · exact k2 c q p' M' e hc rg fr
theorem r_fresh (h : yRG M b n p) {k fr0 m : Nat} (fn : Nat → Int32) (hm : fr0 + m ≤ (zds k).2) (hz : (zds k).2 < 1000) (hf : ∀ i, i < m → M.1 k (fr0 + i) = fn i) {g : Int32 → zMem → Option (α × zMem)}
    (k1 : ∀ f v M', aname b n fn m p = .inl f → yRF M' f → zfr yRv M M' → zwp (g v M') Q)
    (k2 : ∀ x p' M', aname b n fn m p = .inr (x, p') → yRG M' b n p' → zfr yRv M M' → zwp (g (Int32.ofNat x) M') Q) :
    zwp (mbd (m_X8_fresh k (Int32.ofNat fr0) (Int32.ofNat m) M) g) Q := by
  have rk := h.2.2.2
  have lt := ytk_lt h.hb (p := p)
  have s3 := ysrt_3 _ lt
  have key : zwp (m_X8_fresh k (Int32.ofNat fr0) (Int32.ofNat m) M) (fun v M' => zfr yRv M M' ∧ ((∃ f, aname b n fn m p = .inl f ∧ yRF M' f) ∨ ∃ x p', aname b n fn m p = .inr (x, p') ∧ yRG M' b n p' ∧ v = Int32.ofNat x)) := by
    unfold m_X8_fresh
    rw [if_pos h.2.2.1, rk.2.2.2.1]
    by_cases h36 : ytk b n p = 36
    · have vl := rk.2.2.2.2.2.1 h36
      rw [if_pos (by rw [s3.2.2.2.1.mpr h36]; rfl), vl, r_found fn hm hz hf, mbd_some]
      by_cases z : zfst (fun i => fn i = Int32.ofNat (ylt b n p)) 0 m = -1
      · rw [if_pos z, mbd_some, if_pos h.2.2.1]
        refine zwp_bd h.token (fun _ M1 y => ?_)
        rw [vl]
        exact zwp_ret ⟨zfr_weak y.2 (by unfold yRB yRv; omega), Or.inr ⟨_, _, by unfold aname; rw [if_pos h36, if_pos z], y.1, rfl⟩⟩
      · rw [if_neg z]
        refine zwp_bd (Q' := fun _ M' => yRF M' (3, ypl b n p) ∧ zfr yRv M M') (zwp_bd (h.wrong (k := 3) (by omega)) (fun _ M1 y => zwp_ret y)) (fun _ M1 y => ?_)
        rw [if_neg y.1.ne]
        exact zwp_ret ⟨y.2, Or.inl ⟨_, by unfold aname; rw [if_pos h36, if_neg z], y.1⟩⟩
    · rw [if_neg (by rw [show (1 : Int32) = Int32.ofNat 1 from rfl, ysr_eq _ (by omega)]; exact fun z => h36 (s3.2.2.2.1.mp z))]
      refine zwp_bd (Q' := fun _ M' => yRF M' (1, ypl b n p) ∧ zfr yRv M M') (zwp_bd (h.wrong (k := 1) (by omega)) (fun _ M1 y => zwp_ret y)) (fun _ M1 y => ?_)
      rw [if_neg y.1.ne]
      exact zwp_ret ⟨y.2, Or.inl ⟨_, by unfold aname; rw [if_neg h36], y.1⟩⟩
  refine zwp_bd key ?_
  rintro v M' ⟨fr, ⟨f, e, fl⟩ | ⟨x, p', e, rg, rfl⟩⟩
  · exact k1 f v M' e fl fr
  · exact k2 x p' M' e rg fr
end

/-! the class reads an E as the machine does -/
def yrkI (a : Int32) : Int32 := if a = 13 then 1 else if a = 14 then 2 else if a = 15 then 3 else if a = 16 then 0 else if a = 17 then 0 else if a = 18 then 0 else if a = 19 then 0 else if a = 20 then 0 else if a = 21 then 0 else if a = 22 then 0 else if a = 23 then 5 else if a = 24 then 5 else if a = 25 then 6 else if a = 26 then 6 else if a = 27 then 4 else if a = 28 then 4 else if a = 29 then 4 else if a = 30 then 4 else if a = 31 then 4 else if a = 32 then 4 else 0
theorem c_rankOf (a : Int32) (M : zMem) : m_X4_rankOf a M = some (yrkI a, M) := by
  unfold m_X4_rankOf yrkI
  by_cases h13 : a = 13
  · rw [if_pos h13, if_pos h13]
  rw [if_neg h13, if_neg h13]
  by_cases h14 : a = 14
  · rw [if_pos h14, if_pos h14]
  rw [if_neg h14, if_neg h14]
  by_cases h15 : a = 15
  · rw [if_pos h15, if_pos h15]
  rw [if_neg h15, if_neg h15]
  by_cases h16 : a = 16
  · rw [if_pos h16, if_pos h16]
  rw [if_neg h16, if_neg h16]
  by_cases h17 : a = 17
  · rw [if_pos h17, if_pos h17]
  rw [if_neg h17, if_neg h17]
  by_cases h18 : a = 18
  · rw [if_pos h18, if_pos h18]
  rw [if_neg h18, if_neg h18]
  by_cases h19 : a = 19
  · rw [if_pos h19, if_pos h19]
  rw [if_neg h19, if_neg h19]
  by_cases h20 : a = 20
  · rw [if_pos h20, if_pos h20]
  rw [if_neg h20, if_neg h20]
  by_cases h21 : a = 21
  · rw [if_pos h21, if_pos h21]
  rw [if_neg h21, if_neg h21]
  by_cases h22 : a = 22
  · rw [if_pos h22, if_pos h22]
  rw [if_neg h22, if_neg h22]
  by_cases h23 : a = 23
  · rw [if_pos h23, if_pos h23]
  rw [if_neg h23, if_neg h23]
  by_cases h24 : a = 24
  · rw [if_pos h24, if_pos h24]
  rw [if_neg h24, if_neg h24]
  by_cases h25 : a = 25
  · rw [if_pos h25, if_pos h25]
  rw [if_neg h25, if_neg h25]
  by_cases h26 : a = 26
  · rw [if_pos h26, if_pos h26]
  rw [if_neg h26, if_neg h26]
  by_cases h27 : a = 27
  · rw [if_pos h27, if_pos h27]
  rw [if_neg h27, if_neg h27]
  by_cases h28 : a = 28
  · rw [if_pos h28, if_pos h28]
  rw [if_neg h28, if_neg h28]
  by_cases h29 : a = 29
  · rw [if_pos h29, if_pos h29]
  rw [if_neg h29, if_neg h29]
  by_cases h30 : a = 30
  · rw [if_pos h30, if_pos h30]
  rw [if_neg h30, if_neg h30]
  by_cases h31 : a = 31
  · rw [if_pos h31, if_pos h31]
  rw [if_neg h31, if_neg h31]
  by_cases h32 : a = 32
  · rw [if_pos h32, if_pos h32]
  rw [if_neg h32, if_neg h32]
theorem yrk_e : ∀ t, t < 40 → yrkI (Int32.ofNat t) = Int32.ofNat (yrank t) := by decide +kernel
theorem yrank_le (t : Nat) : yrank t ≤ 6 := by
  unfold yrank
  split
  · omega
  split
  · omega
  split
  · omega
  split
  · omega
  split
  · omega
  split <;> omega
def yWt (M : zMem) : List Nat → Prop
  | [] => True
  | t :: w => M.1 23 w.length = Int32.ofNat t ∧ (¬ yrank t = 0 ∨ t = 33) ∧ t < 40 ∧ yWt M w
def yops : List Nat → Nat
  | [] => 0
  | t :: w => (if yrank t = 0 then 0 else 1) + yops w
def ypar : List Nat → Nat
  | [] => 0
  | t :: w => (if yrank t = 0 then 1 else 0) + ypar w
theorem yw_len : ∀ w : List Nat, w.length = yops w + ypar w := by
  intro w
  induction w with
  | nil => rfl
  | cons t w ih =>
    show w.length + 1 = ((if yrank t = 0 then 0 else 1) + yops w) + ((if yrank t = 0 then 1 else 0) + ypar w)
    split <;> omega
theorem yWt.keep {M M' : zMem} : ∀ {w : List Nat}, yWt M w → (∀ j, j < w.length → M'.1 23 j = M.1 23 j) → yWt M' w := by
  intro w
  induction w with
  | nil => intro _ _; trivial
  | cons t w ih =>
    intro h f
    exact ⟨(f _ (by show _ < w.length + 1; omega)).trans h.1, h.2.1, h.2.2.1, ih h.2.2.2 (fun j hj => f j (by show _ < w.length + 1; omega))⟩
/-- a fault that is told -/
def yFl (M : zMem) (f : Nat × Nat) : Prop := (f.1 = 1 ∨ f.1 = 2 ∨ f.1 = 3) ∧ M.1 2 14 = Int32.ofNat f.1 ∧ M.1 2 15 = Int32.ofNat f.2 ∧ M.1 2 4 = 39
def yCF (M : zMem) (t K0 : Nat) (f : Nat × Nat) : Prop := yFl M f ∧ zIT t ∧ ztof (M.1 2 10) = t ∧ (∃ c, c ≤ 72 ∧ M.1 2 12 = Int32.ofNat c) ∧ ∃ c, K0 ≤ c ∧ c ≤ 64 ∧ M.1 (t + 13) 4 = Int32.ofNat c
def yCE (M : zMem) (b : Nat → Nat) (n t K0 p : Nat) (w : List Nat) (out : List yK) (cnt opn : Nat) : Prop :=
  yTx M b n ∧ yRb M n ∧ M.1 2 14 = 0 ∧ yCk M b n p ∧ zIT t ∧ ztof (M.1 2 10) = t ∧ M.1 2 12 = Int32.ofNat w.length ∧ yWt M w ∧ M.1 2 13 = Int32.ofNat opn ∧ M.1 (t + 13) 4 = Int32.ofNat (K0 + out.length) ∧ M.1 (t + 13) 5 = Int32.ofNat cnt ∧ (∀ j, (hj : j < out.length) → M.1 (t + 13 + 1) (K0 + j) = yKc out[j]) ∧ cnt ≤ 64 ∧ opn ≤ 8 ∧ w.length ≤ 72 ∧ K0 + out.length ≤ 64
def yCn (K0 : Nat) (w : List Nat) (out : List yK) (cnt opn : Nat) : Prop := K0 + out.length + yops w ≤ cnt ∧ ypar w = opn
def yCP (t K0 : Nat) (k i : Nat) : Prop := (k = 2 ∧ (3 ≤ i ∧ i ≤ 8 ∨ 12 ≤ i)) ∨ k = 23 ∨ (k = t + 13 ∧ (i = 4 ∨ i = 5)) ∨ (k = t + 13 + 1 ∧ K0 ≤ i)
theorem yFl.ne {M : zMem} {f : Nat × Nat} (h : yFl M f) : ¬ M.1 2 14 = 0 := by
  rw [h.2.1]
  rcases h.1 with e | e | e <;> rw [e] <;> decide
section
variable {M : zMem} {b : Nat → Nat} {n : Nat} {t K0 p : Nat} {w : List Nat} {out : List yK} {cnt opn : Nat} {f : Nat × Nat}
theorem c_fail_f (h : yFl M f) (k : Int32) : m_X4_fail k M = some ((), M) := by
  unfold m_X4_fail m_X4_failAt
  rw [if_neg h.ne, mbd_some]
theorem c_advance_f (h : yFl M f) : m_X4_advance M = some ((), M) := by
  unfold m_X4_advance
  rw [if_neg h.ne]
theorem c_failAt (h0 : M.1 2 14 = 0) {k q : Nat} (hk : k = 1 ∨ k = 2 ∨ k = 3) : zwp (m_X4_failAt (Int32.ofNat k) (Int32.ofNat q) M) (fun _ M' => yFl M' (k, q) ∧ zfr (fun k i => k = 2 ∧ (i = 4 ∨ i = 14 ∨ i = 15)) M M') := by
  unfold m_X4_failAt
  rw [if_pos h0, mlt_eq, mlt_eq, mlt_eq]
  refine zwp_ret ⟨⟨hk, ?_, ?_, mup_on⟩, zfr_trans (zfr_mup (by omega)) (zfr_trans (zfr_mup (by omega)) (zfr_mup (by omega)))⟩
  · rw [mup_off' (by decide), mup_off' (by decide), mup_on]
  · rw [mup_off' (by decide), mup_on]
theorem c_fail (h0 : M.1 2 14 = 0) (ck : yCk M b n p) {k : Nat} (hk : k = 1 ∨ k = 2 ∨ k = 3) : zwp (m_X4_fail (Int32.ofNat k) M) (fun _ M' => yFl M' (k, ypl b n p) ∧ zfr (fun k i => k = 2 ∧ (i = 4 ∨ i = 14 ∨ i = 15)) M M') := by
  unfold m_X4_fail
  rw [ck.2.2.1]
  exact zwp_bd (c_failAt h0 hk) (fun _ M' z => zwp_ret z)
theorem zIT.or5 {t : Nat} (h : zIT t) : (t = 5 ∨ t = 24) := h
theorem yCE.hb (h : yCE M b n t K0 p w out cnt opn) : ∀ i, i < n → b i < 256 := fun i hi => (h.1.2 i hi).1
theorem yCE.hn (h : yCE M b n t K0 p w out cnt opn) : n ≤ 700 := h.1.1
theorem yCE.ok (h : yCE M b n t K0 p w out cnt opn) : M.1 2 14 = 0 := h.2.2.1
theorem yCE.ck (h : yCE M b n t K0 p w out cnt opn) : yCk M b n p := h.2.2.2.1
theorem yCE.it (h : yCE M b n t K0 p w out cnt opn) : zIT t := h.2.2.2.2.1
theorem yCE.to (h : yCE M b n t K0 p w out cnt opn) : ztof (M.1 2 10) = t := h.2.2.2.2.2.1
/-- a fault at this token -/
theorem yCE.fail (h : yCE M b n t K0 p w out cnt opn) {k : Nat} (hk : k = 1 ∨ k = 2 ∨ k = 3) : zwp (m_X4_fail (Int32.ofNat k) M) (fun _ M' => yCF M' t K0 (k, ypl b n p) ∧ zfr (yCP t K0) M M') := by
  obtain ⟨tx, rb, ok, ck, it, to, e12, wt, e13, e4, e5, el, c64, o8, wl, gp⟩ := h
  refine zwp_mono (c_fail ok ck hk) (fun _ M' z => ?_)
  obtain ⟨fl, fr⟩ := z
  refine ⟨⟨fl, it, by rw [fr 2 10 (by omega)]; exact to, ⟨w.length, wl, by rw [fr 2 12 (by omega)]; exact e12⟩, K0 + out.length, by omega, gp, by rw [fr _ _ (by have := it.or5; omega)]; exact e4⟩, zfr_weak fr (by unfold yCP; omega)⟩
/-- the next token -/
theorem yCE.adv (h : yCE M b n t K0 p w out cnt opn) : zwp (m_X4_advance M) (fun _ M' => yCE M' b n t K0 (ynx b n p) w out cnt opn ∧ zfr (yCP t K0) M M') := by
  obtain ⟨tx, rb, ok, ck, it, to, e12, wt, e13, e4, e5, el, c64, o8, wl, gp⟩ := h
  have ib := it.or5
  refine zwp_mono (c_advance rb tx ok (ynx_le (fun i hi => (tx.2 i hi).1) ck.1).2.1 ck.2.1) (fun _ M' z => ?_)
  obtain ⟨ck', fr⟩ := z
  have fr2 : ∀ k i, ¬ k = 2 → M'.1 k i = M.1 k i := fun k i hk => fr k i (by unfold yRA; omega)
  have fr3 : ∀ i, 7 < i → M'.1 2 i = M.1 2 i := fun i hk => fr 2 i (by unfold yRA; omega)
  refine ⟨⟨tx.keep fr (by unfold yRA; omega) (by unfold yRA; omega), rb.keep fr (by unfold yRA; omega) (by unfold yRA; omega) (by unfold yRA; omega), ?_, ck', it, ?_, ?_, wt.keep (fun j _ => fr2 _ _ (by omega)), ?_, ?_, ?_, ?_, c64, o8, wl, gp⟩, zfr_weak fr (by unfold yRA yCP; omega)⟩
  · rw [fr3 14 (by omega)]; exact ok
  · rw [fr3 10 (by omega)]; exact to
  · rw [fr3 12 (by omega)]; exact e12
  · rw [fr3 13 (by omega)]; exact e13
  · rw [fr2 _ _ (by omega)]; exact e4
  · rw [fr2 _ _ (by omega)]; exact e5
  · intro j hj; rw [fr2 _ _ (by omega)]; exact el j hj
/-- one more is counted -/
theorem yCE.count (h : yCE M b n t K0 p w out cnt opn) {α : Type} {Q : α → zMem → Prop} {g : Unit → zMem → Option (α × zMem)}
    (k1 : 64 ≤ cnt → ∀ M', yCF M' t K0 (2, ypl b n p) → zfr (yCP t K0) M M' → zwp (g () M') Q)
    (k2 : cnt < 64 → ∀ M', yCE M' b n t K0 p w out (cnt + 1) opn → zfr (yCP t K0) M M' → zwp (g () M') Q) : zwp (mbd (m_X4_countKnot M) g) Q := by
  have h' := h
  obtain ⟨tx, rb, ok, ck, it, to, e12, wt, e13, e4, e5, el, c64, o8, wl, gp⟩ := h
  have ib := it.or5
  unfold m_X4_countKnot
  rw [mlt_eq, to, e5]
  by_cases hf : 64 ≤ cnt
  · rw [if_neg (by rw [show (64 : Int32) = Int32.ofNat 64 from rfl, zi_lt (by omega) (by omega)]; omega)]
    refine zwp_bd (Q' := fun _ M' => yCF M' t K0 (2, ypl b n p) ∧ zfr (yCP t K0) M M') (zwp_bd (h'.fail (k := 2) (by omega)) (fun _ M' z => zwp_ret z)) (fun _ M' z => k1 hf M' z.1 z.2)
  · rw [if_pos (by rw [show (64 : Int32) = Int32.ofNat 64 from rfl, zi_lt (by omega) (by omega)]; omega), mlt_eq, mlt_eq, e5, yi_nn, mbd_some]
    have fr : zfr (fun k i => k = t + 13 ∧ i = 5) M (mup M (t + 13) 5 (Int32.ofNat (cnt + 1))) := zfr_mup ⟨rfl, rfl⟩
    refine k2 (by omega) _ ⟨tx.keep fr (by omega) (by omega), rb.keep fr (by omega) (by omega) (by omega), ?_, ?_, it, ?_, ?_, wt.keep (fun j _ => fr _ _ (by omega)), ?_, ?_, mup_on, ?_, by omega, o8, wl, gp⟩ (zfr_weak fr (by unfold yCP; omega))
    · rw [fr 2 14 (by omega)]; exact ok
    · unfold yCk
      rw [fr 2 3 (by omega), fr 2 4 (by omega), fr 2 5 (by omega), fr 2 6 (by omega), fr 2 7 (by omega)]; exact ck
    · rw [fr 2 10 (by omega)]; exact to
    · rw [fr 2 12 (by omega)]; exact e12
    · rw [fr 2 13 (by omega)]; exact e13
    · rw [fr (t + 13) 4 (by omega)]; exact e4
    · intro j hj; rw [fr _ _ (by omega)]; exact el j hj
theorem c_count_f (h : yCF M t K0 f) : zwp (m_X4_countKnot M) (fun _ M' => yCF M' t K0 f ∧ zfr (yCP t K0) M M') := by
  obtain ⟨fl, it, to, ⟨c, hc, e12⟩, c', h1, h2, e4⟩ := h
  have ib := it.or5
  unfold m_X4_countKnot
  rw [mlt_eq, to]
  refine zwp_if (fun _ => ?_) (fun _ => ?_)
  · rw [mlt_eq, mlt_eq]
    refine zwp_ret ⟨⟨⟨fl.1, ?_, ?_, ?_⟩, it, ?_, ⟨c, hc, ?_⟩, c', h1, h2, ?_⟩, zfr_mup (by unfold yCP; omega)⟩
    · rw [mup_off (by omega)]; exact fl.2.1
    · rw [mup_off (by omega)]; exact fl.2.2.1
    · rw [mup_off (by omega)]; exact fl.2.2.2
    · rw [mup_off (by omega)]; exact to
    · rw [mup_off (by omega)]; exact e12
    · rw [mup_off' (by omega)]; exact e4
  · rw [c_fail_f fl, mbd_some]
    exact zwp_ret ⟨⟨fl, it, to, ⟨c, hc, e12⟩, c', h1, h2, e4⟩, zfr_refl⟩
/-- a sign begins to wait -/
theorem yCE.wait (h : yCE M b n t K0 p w out cnt opn) {x : Nat} {v : Int32} (ev : v = Int32.ofNat x) (hx : x < 40) (hr : ¬ yrank x = 0 ∨ x = 33) (hl : w.length < 72) : zwp (m_X4_letWait v M) (fun _ M' => yCE M' b n t K0 p (x :: w) out cnt opn ∧ zfr (yCP t K0) M M') := by
  obtain ⟨tx, rb, ok, ck, it, to, e12, wt, e13, e4, e5, el, c64, o8, wl, gp⟩ := h
  have ib := it.or5
  unfold m_X4_letWait
  rw [e12, if_neg (by rw [show (zds 23).2 = 72 from rfl, zi_le (by decide) (by omega)]; omega), mwr_of (k := 23) (j := w.length) hl, zob_some, mlt_eq, mup_off (by decide), e12, yi_nn, ev]
  have fr : zfr (fun k i => (k = 23 ∧ i = w.length) ∨ (k = 2 ∧ i = 12)) M (mup (mup M 23 w.length (Int32.ofNat x)) 2 12 (Int32.ofNat (w.length + 1))) := zfr_trans (zfr_mup (by omega)) (zfr_mup (by omega))
  refine zwp_ret ⟨⟨tx.keep fr (by omega) (by omega), rb.keep fr (by omega) (by omega) (by omega), ?_, ?_, it, ?_, mup_on, ⟨?_, hr, hx, wt.keep (fun j hj => fr _ _ (by omega))⟩, ?_, ?_, ?_, ?_, c64, o8, by show w.length + 1 ≤ 72; omega, gp⟩, zfr_weak fr (by unfold yCP; omega)⟩
  · rw [fr 2 14 (by omega)]; exact ok
  · unfold yCk
    rw [fr 2 3 (by omega), fr 2 4 (by omega), fr 2 5 (by omega), fr 2 6 (by omega), fr 2 7 (by omega)]; exact ck
  · rw [fr 2 10 (by omega)]; exact to
  · rw [mup_off (by decide), mup_on]
  · rw [fr 2 13 (by omega)]; exact e13
  · rw [fr (t + 13) 4 (by omega)]; exact e4
  · rw [fr (t + 13) 5 (by omega)]; exact e5
  · intro j hj; rw [fr _ _ (by omega)]; exact el j hj
theorem c_wait_f (h : yCF M t K0 f) (v : Int32) : zwp (m_X4_letWait v M) (fun _ M' => yCF M' t K0 f ∧ zfr (yCP t K0) M M') := by
  have h' := h
  obtain ⟨fl, it, to, ⟨c, hc, e12⟩, c', h1, h2, e4⟩ := h
  have ib := it.or5
  unfold m_X4_letWait
  rw [e12]
  by_cases hl : 72 ≤ c
  · rw [if_pos (by rw [show (zds 23).2 = 72 from rfl, zi_le (by decide) (by omega)]; omega)]
    exact zwp_ret ⟨h', zfr_refl⟩
  · rw [if_neg (by rw [show (zds 23).2 = 72 from rfl, zi_le (by decide) (by omega)]; omega), mwr_of (k := 23) (j := c) (by show c < 72; omega), zob_some, mlt_eq, mup_off (by decide), e12, yi_nn]
    have fr : zfr (fun k i => k = 23 ∨ (k = 2 ∧ i = 12)) M (mup (mup M 23 c v) 2 12 (Int32.ofNat (c + 1))) := zfr_trans (zfr_mup (by omega)) (zfr_mup (by omega))
    refine zwp_ret ⟨⟨⟨fl.1, ?_, ?_, ?_⟩, it, ?_, ⟨c + 1, by omega, mup_on⟩, c', h1, h2, ?_⟩, zfr_weak fr (by unfold yCP; omega)⟩
    · rw [fr _ _ (by omega)]; exact fl.2.1
    · rw [fr _ _ (by omega)]; exact fl.2.2.1
    · rw [fr _ _ (by omega)]; exact fl.2.2.2
    · rw [fr _ _ (by omega)]; exact to
    · rw [fr _ _ (by omega)]; exact e4
/-- a knot is placed -/
theorem yCE.place (h : yCE M b n t K0 p w out cnt opn) (x : yK) {v : Int32} (ev : v = yKc x) (hl : K0 + out.length < 64) : zwp (m_X2_place t v M) (fun _ M' => yCE M' b n t K0 p w (out ++ [x]) cnt opn ∧ zfr (yCP t K0) M M') := by
  obtain ⟨tx, rb, ok, ck, it, to, e12, wt, e13, e4, e5, el, c64, o8, wl, gp⟩ := h
  have ib := it.or5
  have zd : (zds (t + 13 + 1)).2 = 64 := by rcases ib with z | z <;> rw [z] <;> rfl
  unfold m_X2_place
  rw [e4, if_neg (by rw [show (64 : Int32) = Int32.ofNat 64 from rfl, zi_le (by omega) (by omega)]; omega), mwr_of (k := t + 13 + 1) (j := K0 + out.length) (by rw [zd]; exact hl) (by rw [zd]; decide), zob_some, mlt_eq, mup_off (by omega), e4, yi_nn, ev]
  have fr : zfr (fun k i => (k = t + 13 + 1 ∧ i = K0 + out.length) ∨ (k = t + 13 ∧ i = 4)) M (mup (mup M (t + 13 + 1) (K0 + out.length) (yKc x)) (t + 13) 4 (Int32.ofNat (K0 + out.length + 1))) := zfr_trans (zfr_mup (by omega)) (zfr_mup (by omega))
  have ln : (out ++ [x]).length = out.length + 1 := by rw [List.length_append]; rfl
  refine zwp_ret ⟨⟨tx.keep fr (by omega) (by omega), rb.keep fr (by omega) (by omega) (by omega), ?_, ?_, it, ?_, ?_, wt.keep (fun j hj => fr _ _ (by omega)), ?_, ?_, ?_, ?_, c64, o8, wl, by omega⟩, zfr_weak fr (by unfold yCP; omega)⟩
  · rw [fr 2 14 (by omega)]; exact ok
  · unfold yCk
    rw [fr 2 3 (by omega), fr 2 4 (by omega), fr 2 5 (by omega), fr 2 6 (by omega), fr 2 7 (by omega)]; exact ck
  · rw [fr 2 10 (by omega)]; exact to
  · rw [fr 2 12 (by omega)]; exact e12
  · rw [fr 2 13 (by omega)]; exact e13
  · rw [mup_on, ln]; rfl
  · rw [fr (t + 13) 5 (by omega)]; exact e5
  · intro j hj
    have hj' : j < out.length + 1 := by omega
    by_cases e : j = out.length
    · subst e
      rw [mup_off (by omega), mup_on, List.getElem_append_right (by omega)]
      simp only [Nat.sub_self, List.getElem_cons_zero]
    · rw [fr _ _ (by omega), List.getElem_append_left (by omega)]
      exact el j (by omega)
theorem c_place_f (h : yCF M t K0 f) (v : Int32) : zwp (m_X2_place t v M) (fun _ M' => yCF M' t K0 f ∧ zfr (yCP t K0) M M') := by
  have h' := h
  obtain ⟨fl, it, to, ⟨c, hc, e12⟩, c', h1, h2, e4⟩ := h
  have ib := it.or5
  have zd : (zds (t + 13 + 1)).2 = 64 := by rcases ib with z | z <;> rw [z] <;> rfl
  unfold m_X2_place
  rw [e4]
  by_cases hl : 64 ≤ c'
  · rw [if_pos (by rw [show (64 : Int32) = Int32.ofNat 64 from rfl, zi_le (by omega) (by omega)]; omega)]
    exact zwp_ret ⟨h', zfr_refl⟩
  · rw [if_neg (by rw [show (64 : Int32) = Int32.ofNat 64 from rfl, zi_le (by omega) (by omega)]; omega), mwr_of (k := t + 13 + 1) (j := c') (by rw [zd]; omega) (by rw [zd]; decide), zob_some, mlt_eq, mup_off (by omega), e4, yi_nn]
    have fr : zfr (fun k i => (k = t + 13 + 1 ∧ i = c') ∨ (k = t + 13 ∧ i = 4)) M (mup (mup M (t + 13 + 1) c' v) (t + 13) 4 (Int32.ofNat (c' + 1))) := zfr_trans (zfr_mup (by omega)) (zfr_mup (by omega))
    refine zwp_ret ⟨⟨⟨fl.1, ?_, ?_, ?_⟩, it, ?_, ⟨c, hc, ?_⟩, c' + 1, by omega, by omega, mup_on⟩, zfr_weak fr (by unfold yCP; omega)⟩
    · rw [fr _ _ (by omega)]; exact fl.2.1
    · rw [fr _ _ (by omega)]; exact fl.2.2.1
    · rw [fr _ _ (by omega)]; exact fl.2.2.2
    · rw [fr _ _ (by omega)]; exact to
    · rw [fr _ _ (by omega)]; exact e12
theorem yKc_op {x : Nat} : yKc (yop x) = (Int32.ofNat x) ^^^ (-1) := rfl
theorem yCE.unwait {x : Nat} (h : yCE M b n t K0 p (x :: w) out cnt opn) : yCE (mup M 2 12 (Int32.ofNat w.length)) b n t K0 p w out cnt opn ∧ zfr (yCP t K0) M (mup M 2 12 (Int32.ofNat w.length)) := by
  obtain ⟨tx, rb, ok, ck, it, to, e12, wt, e13, e4, e5, el, c64, o8, wl, gp⟩ := h
  have ib := it.or5
  have wl : w.length + 1 ≤ 72 := wl
  have fr : zfr (fun k i => k = 2 ∧ i = 12) M (mup M 2 12 (Int32.ofNat w.length)) := zfr_mup (by omega)
  refine ⟨⟨tx.keep fr (by omega) (by omega), rb.keep fr (by omega) (by omega) (by omega), ?_, ?_, it, ?_, mup_on, wt.2.2.2.keep (fun j hj => fr _ _ (by omega)), ?_, ?_, ?_, ?_, c64, o8, by omega, gp⟩, zfr_weak fr (by unfold yCP; omega)⟩
  · rw [fr 2 14 (by omega)]; exact ok
  · unfold yCk
    rw [fr 2 3 (by omega), fr 2 4 (by omega), fr 2 5 (by omega), fr 2 6 (by omega), fr 2 7 (by omega)]; exact ck
  · rw [fr 2 10 (by omega)]; exact to
  · rw [fr 2 13 (by omega)]; exact e13
  · rw [fr (t + 13) 4 (by omega)]; exact e4
  · rw [fr (t + 13) 5 (by omega)]; exact e5
  · intro j hj; rw [fr _ _ (by omega)]; exact el j hj
theorem yCE.setO (h : yCE M b n t K0 p w out cnt opn) {o : Nat} (ho : o ≤ 8) : yCE (mup M 2 13 (Int32.ofNat o)) b n t K0 p w out cnt o ∧ zfr (yCP t K0) M (mup M 2 13 (Int32.ofNat o)) := by
  obtain ⟨tx, rb, ok, ck, it, to, e12, wt, e13, e4, e5, el, c64, o8, wl, gp⟩ := h
  have ib := it.or5
  have fr : zfr (fun k i => k = 2 ∧ i = 13) M (mup M 2 13 (Int32.ofNat o)) := zfr_mup (by omega)
  refine ⟨⟨tx.keep fr (by omega) (by omega), rb.keep fr (by omega) (by omega) (by omega), ?_, ?_, it, ?_, ?_, wt.keep (fun j hj => fr _ _ (by omega)), mup_on, ?_, ?_, ?_, c64, ho, wl, gp⟩, zfr_weak fr (by unfold yCP; omega)⟩
  · rw [fr 2 14 (by omega)]; exact ok
  · unfold yCk
    rw [fr 2 3 (by omega), fr 2 4 (by omega), fr 2 5 (by omega), fr 2 6 (by omega), fr 2 7 (by omega)]; exact ck
  · rw [fr 2 10 (by omega)]; exact to
  · rw [fr 2 12 (by omega)]; exact e12
  · rw [fr (t + 13) 4 (by omega)]; exact e4
  · rw [fr (t + 13) 5 (by omega)]; exact e5
  · intro j hj; rw [fr _ _ (by omega)]; exact el j hj
/-- what waits above a rank is placed -/
theorem c_above (h : yCE M b n t K0 p w out cnt opn) (cn : yCn K0 w out cnt opn) {r : Nat} {rv : Int32} (er : rv = Int32.ofNat r) (hr : r ≤ 6) : zwp (m_X4_placeAbove rv M) (fun _ M' => yCE M' b n t K0 p (ypop r w).1 (out ++ (ypop r w).2) cnt opn ∧ yCn K0 (ypop r w).1 (out ++ (ypop r w).2) cnt opn ∧ zfr (yCP t K0) M M') := by
  have lF : zLF = 100000 := rfl
  have wl0 := h.2.2.2.2.2.2.2.2.2.2.2.2.2.2.1
  unfold m_X4_placeAbove
  refine zwp_bd (Q' := fun _ M' => yCE M' b n t K0 p (ypop r w).1 (out ++ (ypop r w).2) cnt opn ∧ yCn K0 (ypop r w).1 (out ++ (ypop r w).2) cnt opn ∧ zfr (yCP t K0) M M') (zwp_lp (fun k _ M' => ∃ w1 out1, k = w1.length ∧ yCE M' b n t K0 p w1 out1 cnt opn ∧ yCn K0 w1 out1 cnt opn ∧ (ypop r w1).1 = (ypop r w).1 ∧ out1 ++ (ypop r w1).2 = out ++ (ypop r w).2 ∧ zfr (yCP t K0) M M') ?_ w.length () M ⟨w, out, rfl, h, cn, rfl, rfl, zfr_refl⟩ (by omega)) (fun _ M' z => zwp_ret z)
  rintro k _ M1 ⟨w1, out1, rfl, ce, cn1, e1, e2, f1⟩
  have ib := ce.it.or5
  cases w1 with
  | nil =>
    rw [ce.2.2.2.2.2.2.1, if_pos (by decide)]
    have e2 : out1 ++ [] = _ := e2
    rw [List.append_nil] at e2
    have e1 : [] = _ := e1
    rw [← e1, ← e2]
    exact zwp_ret ⟨ce, cn1, f1⟩
  | cons x w1 =>
    have e12 : M1.1 2 12 = Int32.ofNat (w1.length + 1) := ce.2.2.2.2.2.2.1
    have wt := ce.2.2.2.2.2.2.2.1
    have wl : w1.length + 1 ≤ 72 := ce.2.2.2.2.2.2.2.2.2.2.2.2.2.2.1
    rw [e12, if_neg (by rw [show (0 : Int32) = Int32.ofNat 0 from rfl, zi_le (by omega) (by omega)]; omega), yi_m1 (by omega), show w1.length + 1 - 1 = w1.length by omega, mrd_of (k := 23) (j := w1.length) (by show w1.length < 72; omega), zob_some, wt.1, c_rankOf, mbd_some, yrk_e _ wt.2.2.1, er]
    have r6 := yrank_le x
    by_cases hx : r < yrank x
    · have pe : ypop r (x :: w1) = ((ypop r w1).1, yop x :: (ypop r w1).2) := by
        show (if r < yrank x then _ else _) = _
        rw [if_pos hx]
      rw [if_neg (by rw [zi_le (by omega) (by omega)]; omega), mlt_eq, e12, yi_m1 (by omega), show w1.length + 1 - 1 = w1.length by omega]
      have uw := ce.unwait
      have ex : (mup M1 2 12 (Int32.ofNat w1.length)).1 23 w1.length = Int32.ofNat x := (mup_off (by decide)).trans wt.1
      generalize mup M1 2 12 (Int32.ofNat w1.length) = M2 at uw ex ⊢
      obtain ⟨ce2, f2⟩ := uw
      have cg := cn1.1
      have yo : yops (x :: w1) = 1 + yops w1 := by show (if yrank x = 0 then 0 else 1) + _ = _; rw [if_neg (by omega)]
      have yp : ypar (x :: w1) = ypar w1 := by show (if yrank x = 0 then 1 else 0) + _ = _; rw [if_neg (by omega)]; omega
      have c64 := ce.2.2.2.2.2.2.2.2.2.2.2.2.1
      rw [mlt_eq, ce2.2.2.2.2.2.2.1, mrd_of (k := 23) (j := w1.length) (by show w1.length < 72; omega), zob_some, ex, ce2.to]
      refine zwp_bd (ce2.place (yop x) rfl (by omega)) (fun _ M3 z => ?_)
      obtain ⟨ce3, f3⟩ := z
      refine zwp_ret ⟨w1.length, by show _ < w1.length + 1; omega, w1, out1 ++ [yop x], rfl, ce3, ⟨?_, ?_⟩, ?_, ?_, zfr_trans f1 (zfr_trans f2 f3)⟩
      · rw [List.length_append]; show K0 + (out1.length + 1) + _ ≤ _; omega
      · rw [← yp]; exact cn1.2
      · rw [← e1, pe]
      · rw [← e2, pe, List.append_assoc]; rfl
    · rw [if_pos (by rw [zi_le (by omega) (by omega)]; omega)]
      have pe : ypop r (x :: w1) = (x :: w1, []) := ypop_st (by show yrank x ≤ r; omega)
      rw [pe] at e1 e2
      rw [List.append_nil] at e2
      rw [← e1, ← e2]
      exact zwp_ret ⟨ce, cn1, f1⟩
theorem c_above_f (h : yCF M t K0 f) (rv : Int32) : zwp (m_X4_placeAbove rv M) (fun _ M' => yCF M' t K0 f ∧ zfr (yCP t K0) M M') := by
  have lF : zLF = 100000 := rfl
  have h' := h
  obtain ⟨-, -, -, ⟨c0, hc0, e120⟩, -⟩ := h
  unfold m_X4_placeAbove
  refine zwp_bd (Q' := fun _ M' => yCF M' t K0 f ∧ zfr (yCP t K0) M M') (zwp_lp (fun k _ M' => M'.1 2 12 = Int32.ofNat k ∧ k ≤ 72 ∧ yCF M' t K0 f ∧ zfr (yCP t K0) M M') ?_ c0 () M ⟨e120, hc0, h', zfr_refl⟩ (by omega)) (fun _ M' z => zwp_ret z)
  rintro k _ M1 ⟨e12, hk, cf, f1⟩
  have cf' := cf
  obtain ⟨fl, it, to, -, c', h1, h2, e4⟩ := cf'
  have ib := it.or5
  rw [e12]
  by_cases k0 : k = 0
  · rw [if_pos (by rw [k0]; decide)]
    exact zwp_ret ⟨cf, f1⟩
  · rw [if_neg (by rw [show (0 : Int32) = Int32.ofNat 0 from rfl, zi_le (by omega) (by omega)]; omega), yi_m1 (by omega), mrd_of (k := 23) (j := k - 1) (by show k - 1 < 72; omega), zob_some, c_rankOf, mbd_some]
    refine zwp_if (fun _ => zwp_ret ⟨cf, f1⟩) (fun _ => ?_)
    rw [mlt_eq, e12, yi_m1 (by omega), mlt_eq, mup_on, mrd_of (k := 23) (j := k - 1) (by show k - 1 < 72; omega), zob_some, mup_off' (by decide), to]
    have cf2 : yCF (mup M1 2 12 (Int32.ofNat (k - 1))) t K0 f := by
      refine ⟨⟨fl.1, ?_, ?_, ?_⟩, it, ?_, ⟨k - 1, by omega, mup_on⟩, c', h1, h2, ?_⟩
      · rw [mup_off' (by decide)]; exact fl.2.1
      · rw [mup_off' (by decide)]; exact fl.2.2.1
      · rw [mup_off' (by decide)]; exact fl.2.2.2
      · rw [mup_off' (by decide)]; exact to
      · rw [mup_off (by omega)]; exact e4
    have p12 : ∀ {M2 : zMem} {v : Int32}, yCF M2 t K0 f → M2.1 2 12 = Int32.ofNat (k - 1) → zwp (m_X2_place t v M2) (fun _ M' => (yCF M' t K0 f ∧ zfr (yCP t K0) M2 M') ∧ M'.1 2 12 = Int32.ofNat (k - 1)) := by
      intro M2 v q1 q2
      have q1' := q1
      obtain ⟨fl, it, to, -, c', h1, h2, e4⟩ := q1'
      obtain ⟨u, M', e, z⟩ := c_place_f q1 v
      refine ⟨u, M', e, z, ?_⟩
      unfold m_X2_place at e
      rw [e4] at e
      by_cases hl : 64 ≤ c'
      · rw [if_pos (by rw [show (64 : Int32) = Int32.ofNat 64 from rfl, zi_le (by omega) (by omega)]; omega)] at e
        cases e; exact q2
      · have zd : (zds (t + 13 + 1)).2 = 64 := by rcases ib with z | z <;> rw [z] <;> rfl
        rw [if_neg (by rw [show (64 : Int32) = Int32.ofNat 64 from rfl, zi_le (by omega) (by omega)]; omega), mwr_of (k := t + 13 + 1) (j := c') (by rw [zd]; omega) (by rw [zd]; decide), zob_some, mlt_eq] at e
        cases e
        rw [mup_off (by omega), mup_off (by omega)]
        exact q2
    refine zwp_bd (p12 cf2 mup_on) (fun _ M3 z => ?_)
    obtain ⟨⟨cf3, f3⟩, e3⟩ := z
    exact zwp_ret ⟨k - 1, by omega, e3, by omega, cf3, zfr_trans f1 (zfr_trans (zfr_mup (by unfold yCP; omega)) f3)⟩
theorem c_mayTurn (h : yCE M b n t K0 p w out cnt opn) : m_X4_mayTurn M = some (if ytop w < 4 then 1 else 0, M) := by
  have e12 := h.2.2.2.2.2.2.1
  have wt := h.2.2.2.2.2.2.2.1
  have wl := h.2.2.2.2.2.2.2.2.2.2.2.2.2.2.1
  unfold m_X4_mayTurn
  rw [e12]
  cases w with
  | nil => rw [if_pos (by decide), if_pos (by decide)]
  | cons x w =>
    have wl : w.length + 1 ≤ 72 := wl
    have e12 : M.1 2 12 = Int32.ofNat (w.length + 1) := e12
    have r6 := yrank_le x
    rw [show (x :: w).length = w.length + 1 from rfl, if_neg (by rw [show (0 : Int32) = Int32.ofNat 0 from rfl, zi_eq (by omega) (by omega)]; omega), yi_m1 (by omega), show w.length + 1 - 1 = w.length by omega, mrd_of (k := 23) (j := w.length) (by show w.length < 72; omega), zob_some, wt.1, c_rankOf, mbd_some, yrk_e _ wt.2.2.1]
    show (if (4 : Int32) ≤ Int32.ofNat (yrank x) then _ else _) = some (if yrank x < 4 then 1 else 0, M)
    by_cases hx : yrank x < 4
    · rw [if_pos hx, if_neg (by rw [show (4 : Int32) = Int32.ofNat 4 from rfl, zi_le (by omega) (by omega)]; omega)]
    · rw [if_neg hx, if_pos (by rw [show (4 : Int32) = Int32.ofNat 4 from rfl, zi_le (by omega) (by omega)]; omega)]
end

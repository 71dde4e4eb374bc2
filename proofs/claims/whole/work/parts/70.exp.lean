/-! the reference reads an E as the machine does -/
theorem ysrt_le (k : Nat) : ysrt k ≤ 5 := by
  unfold ysrt
  split
  · omega
  split
  · omega
  split
  · omega
  split
  · omega
  split <;> omega
theorem ysrt_3 : ∀ k, k < 40 → (ysrt k = 3 ↔ 23 ≤ k ∧ k ≤ 35) ∧ (ysrt k = 0 ↔ k < 23) ∧ (ysrt k = 2 ↔ k = 37) ∧ (ysrt k = 1 ↔ k = 36) ∧ (ysrt k = 4 ↔ k = 38) := by decide +kernel
theorem yvs_inj : ∀ k, k < 36 → ∀ c, c < 36 → 23 ≤ k → 23 ≤ c → yvs k = yvs c → k = c := by decide +kernel
theorem yvs_lt : ∀ k, k < 40 → yvs k < 300 := by decide +kernel
theorem yrank_f : ∀ k, k < 40 → yrank k ≤ 6 ∧ (yrank k = 1 ↔ k = 13) ∧ (yrank k = 2 ↔ k = 14) ∧ (yrank k = 3 ↔ k = 15) ∧ (yrank k = 4 ↔ 27 ≤ k ∧ k ≤ 32) ∧ (yrank k = 5 ↔ k = 23 ∨ k = 24) ∧ (yrank k = 6 ↔ k = 25 ∨ k = 26) := by decide +kernel
theorem yvs_cmp : ∀ k, k < 36 → 23 ≤ k → ((yvs k = 60 ∨ yvs k = 62 ∨ yvs k = 61 ∨ 256 ≤ yvs k) ↔ 27 ≤ k ∧ k ≤ 32) ∧ (k ≤ 32 → yKo k = Int32.ofNat (yvs k)) := by decide +kernel
section
variable {M : zMem} {b : Nat → Nat} {n : Nat}
theorem yva_le {p : Nat} : yva b n p ≤ 1000000 := by
  have := yv_rel (b := b) (q := ypl b n p) (yrn (ypd b) n (ypl b n p) - ypl b n p) (fun i hi => of_decide_eq_true (yrn_in (P := ypd b) (n := n) (p := ypl b n p) (i := ypl b n p + i) (by omega) (by omega)).2)
  unfold yva
  omega
theorem ytk_lt (hb : ∀ i, i < n → b i < 256) {p : Nat} : ytk b n p < 40 := by
  unfold ytk
  by_cases h : ypl b n p < n
  · rw [if_pos h]
    have s := ysg_lt _ (hb _ h) (decide (ypl b n p + 1 < n ∧ b (ypl b n p + 1) = 61)) (decide (ypl b n p + 1 < n ∧ b (ypl b n p + 1) = 62))
    split
    · split
      · have := ywt_le (x := ypk b (ypl b n p) (yrn (ypc b) n (ypl b n p)) 6) 23 0 rfl
        omega
      · omega
    · split <;> omega
  · rw [if_neg h]; omega
theorem ysr_eq (k : Nat) {c : Nat} (hc : c ≤ 5) : (Int32.ofNat (ysrt k) = Int32.ofNat c) ↔ ysrt k = c := zi_eq (by have := ysrt_le k; omega) (by omega)
theorem r_isWord {p : Nat} (rk : yRk M b n p) (hb : ∀ i, i < n → b i < 256) (h0 : M.1 213 27 = 0) {w : Nat} (hw : w < 23) : m_X8_isWord (Int32.ofNat w) M = some (if ytk b n p = w then 1 else 0, M) := by
  have lt := ytk_lt hb (p := p)
  have s := ysrt_3 _ lt
  unfold m_X8_isWord
  rw [if_pos h0, rk.2.2.2.1]
  by_cases h : ytk b n p < 23
  · rw [s.2.1.mpr h, if_pos (show Int32.ofNat 0 = 0 from rfl), rk.2.2.2.2.1 h]
    by_cases e : ytk b n p = w
    · rw [if_pos e, if_pos (by rw [e])]
    · rw [if_neg e, if_neg (by rw [zi_eq (by omega) (by omega)]; exact e)]
  · rw [if_neg (show ¬ ytk b n p = w by omega), if_neg (by rw [show (0 : Int32) = Int32.ofNat 0 from rfl, ysr_eq _ (by omega)]; exact fun z => h (s.2.1.mp z))]
theorem r_isSign {p : Nat} (rk : yRk M b n p) (hb : ∀ i, i < n → b i < 256) (h0 : M.1 213 27 = 0) {c : Nat} (h1 : 23 ≤ c) (h2 : c ≤ 35) : m_X8_isSign (Int32.ofNat (yvs c)) M = some (if ytk b n p = c then 1 else 0, M) := by
  have lt := ytk_lt hb (p := p)
  have s := ysrt_3 _ lt
  unfold m_X8_isSign
  rw [if_pos h0, rk.2.2.2.1]
  by_cases h : 23 ≤ ytk b n p ∧ ytk b n p ≤ 35
  · rw [s.1.mpr h, if_pos (show Int32.ofNat 3 = 3 from rfl), rk.2.2.2.2.2.2.2 h.1 h.2]
    by_cases e : ytk b n p = c
    · rw [if_pos e, if_pos (by rw [e])]
    · rw [if_neg e, if_neg (by rw [zi_eq (by have := yvs_lt _ lt; omega) (by have := yvs_lt c (by omega); omega)]; exact fun z => e (yvs_inj _ (by omega) _ (by omega) h.1 h1 z))]
  · rw [if_neg (show ¬ ytk b n p = c by omega), if_neg (by rw [show (3 : Int32) = Int32.ofNat 3 from rfl, ysr_eq _ (by omega)]; exact fun z => h (s.1.mp z))]
theorem r_wrong {p k : Nat} (rk : yRk M b n p) (h0 : M.1 213 27 = 0) (hk : k = 1 ∨ k = 2 ∨ k = 3) : zwp (m_X8_wrong (Int32.ofNat k) M) (fun _ M' => yRF M' (k, ypl b n p) ∧ zfr (fun k i => k = 213 ∧ (i = 27 ∨ i = 28)) M M') := by
  unfold m_X8_wrong
  rw [if_pos h0, mlt_eq, mlt_eq, mup_off' (by decide), rk.2.2.1]
  exact zwp_ret ⟨⟨hk, by rw [mup_off' (by decide), mup_on], mup_on⟩, zfr_trans (zfr_mup (by omega)) (zfr_mup (by omega))⟩
variable {K0 d p : Nat} {out : List yK} {cnt opn : Nat}
theorem yRE.tx (h : yRE M b n K0 d p out cnt opn) : yTx M b n := h.1
theorem yRE.hb (h : yRE M b n K0 d p out cnt opn) : ∀ i, i < n → b i < 256 := fun i hi => (h.1.2 i hi).1
theorem yRE.hn (h : yRE M b n K0 d p out cnt opn) : n ≤ 700 := h.1.1
theorem yRE.ok (h : yRE M b n K0 d p out cnt opn) : M.1 213 27 = 0 := h.2.2.1
theorem yRE.rk (h : yRE M b n K0 d p out cnt opn) : yRk M b n p := h.2.2.2.1
theorem yRE.c64 (h : yRE M b n K0 d p out cnt opn) : cnt ≤ 64 := h.2.2.2.2.2.2.1
theorem yRE.o8 (h : yRE M b n K0 d p out cnt opn) : opn ≤ 8 := h.2.2.2.2.2.2.2.1
theorem yRE.gap (h : yRE M b n K0 d p out cnt opn) : K0 + out.length + d ≤ cnt := h.2.2.2.2.2.2.2.2.1
theorem yRE.token (h : yRE M b n K0 d p out cnt opn) : zwp (m_X8_token M) (fun _ M' => yRE M' b n K0 d (ynx b n p) out cnt opn ∧ zfr (yEP K0) M M') := by
  obtain ⟨tx, e22, e27, rk, e32, e31, c64, o8, gp, e15, el⟩ := h
  refine zwp_mono (r_token tx e22 (ynx_le (fun i hi => (tx.2 i hi).1) rk.1).2.1 rk.2.1) (fun _ M' z => ?_)
  obtain ⟨rk', f⟩ := z
  have f' : ∀ k i, ¬ k = 213 → M'.1 k i = M.1 k i := fun k i hk => f k i (by unfold yRB; omega)
  have f2 : ∀ i, 26 < i → M'.1 213 i = M.1 213 i := fun i hi => f 213 i (by unfold yRB; omega)
  refine ⟨⟨tx.keep f (by unfold yRB; omega) (by unfold yRB; omega), ?_, ?_, rk', ?_, ?_, c64, o8, gp, ?_, ?_⟩, zfr_weak f (by unfold yRB yEP; omega)⟩
  · rw [f 213 22 (by unfold yRB; omega)]; exact e22
  · rw [f2 27 (by omega)]; exact e27
  · rw [f2 32 (by omega)]; exact e32
  · rw [f2 31 (by omega)]; exact e31
  · rw [f' 215 15 (by omega)]; exact e15
  · intro j hj; rw [f' 230 _ (by omega), f' 231 _ (by omega)]; exact el j hj
theorem yRE.goOn (h : yRE M b n K0 d p out cnt opn) : zwp (m_X8_goOn M) (fun _ M' => yRE M' b n K0 d (ynx b n p) out cnt opn ∧ zfr (yEP K0) M M') := by
  unfold m_X8_goOn
  rw [if_pos h.ok]
  exact zwp_bd h.token (fun _ M' z => zwp_ret z)
theorem yRk.keep {M' : zMem} {P : Nat → Nat → Prop} (h : yRk M b n p) (f : zfr P M M') (h1 : ∀ i, P 213 i → i < 23 ∨ 26 < i) : yRk M' b n p := by
  have e3 := f 213 23 (fun z => by have := h1 _ z; omega)
  have e4 := f 213 24 (fun z => by have := h1 _ z; omega)
  have e5 := f 213 25 (fun z => by have := h1 _ z; omega)
  have e6 := f 213 26 (fun z => by have := h1 _ z; omega)
  unfold yRk
  rw [e3, e4, e5, e6]
  exact h
theorem yRE.knot (h : yRE M b n K0 d p out cnt opn) (hc : cnt < 64) : yRE (mup M 213 32 (Int32.ofNat (cnt + 1))) b n K0 (d + 1) p out (cnt + 1) opn ∧ zfr (yEP K0) M (mup M 213 32 (Int32.ofNat (cnt + 1))) := by
  obtain ⟨tx, e22, e27, rk, e32, e31, c64, o8, gp, e15, el⟩ := h
  have f : zfr (fun k i => k = 213 ∧ i = 32) M (mup M 213 32 (Int32.ofNat (cnt + 1))) := zfr_mup ⟨rfl, rfl⟩
  refine ⟨⟨tx.keep f (by omega) (by omega), ?_, ?_, rk.keep f (by omega), mup_on, ?_, by omega, o8, by omega, ?_, ?_⟩, zfr_weak f (by unfold yEP; omega)⟩
  · rw [mup_off' (by decide)]; exact e22
  · rw [mup_off' (by decide)]; exact e27
  · rw [mup_off' (by decide)]; exact e31
  · rw [mup_off (by decide)]; exact e15
  · intro j hj; rw [mup_off (by decide), mup_off (by decide)]; exact el j hj
theorem yRE.setO (h : yRE M b n K0 d p out cnt opn) {o : Nat} (ho : o ≤ 8) : yRE (mup M 213 31 (Int32.ofNat o)) b n K0 d p out cnt o ∧ zfr (yEP K0) M (mup M 213 31 (Int32.ofNat o)) := by
  obtain ⟨tx, e22, e27, rk, e32, e31, c64, o8, gp, e15, el⟩ := h
  have f : zfr (fun k i => k = 213 ∧ i = 31) M (mup M 213 31 (Int32.ofNat o)) := zfr_mup ⟨rfl, rfl⟩
  refine ⟨⟨tx.keep f (by omega) (by omega), ?_, ?_, rk.keep f (by omega), ?_, mup_on, c64, ho, gp, ?_, ?_⟩, zfr_weak f (by unfold yEP; omega)⟩
  · rw [mup_off' (by decide)]; exact e22
  · rw [mup_off' (by decide)]; exact e27
  · rw [mup_off' (by decide)]; exact e32
  · rw [mup_off (by decide)]; exact e15
  · intro j hj; rw [mup_off (by decide), mup_off (by decide)]; exact el j hj
theorem yRE.wrong (h : yRE M b n K0 d p out cnt opn) {k : Nat} (hk : k = 1 ∨ k = 2 ∨ k = 3) : zwp (m_X8_wrong (Int32.ofNat k) M) (fun _ M' => yRF M' (k, ypl b n p) ∧ zfr (yEP K0) M M') :=
  zwp_mono (r_wrong h.rk h.ok hk) (fun _ _ z => ⟨z.1, zfr_weak z.2 (by unfold yEP; omega)⟩)
theorem yRE.puts (h : yRE M b n K0 (d + 1) p out cnt opn) (x : yK) : zwp (m_X8_puts (yKs x) (yKv x) M) (fun _ M' => yRE M' b n K0 d p (out ++ [x]) cnt opn ∧ zfr (yEP K0) M M') := by
  obtain ⟨tx, e22, e27, rk, e32, e31, c64, o8, gp, e15, el⟩ := h
  have g1 : 64 + (K0 + out.length) < 128 := by omega
  unfold m_X8_puts
  rw [if_pos e27]
  unfold m_X8_fresher m_X8_reads
  have k15 : ∀ {M' : zMem}, mrd M' 215 (8 + 7) = some (M'.1 215 15) := mrd_of (k := 215) (j := 8 + 7) (by decide)
  have k15w : ∀ {M' : zMem} {v : Int32}, mwr M' 215 (8 + 7) v = some (mup M' 215 15 v) := mwr_of (k := 215) (j := 8 + 7) (by decide)
  rw [k15, zob_some, mbd_some, e15, mwr_of (k := 230) (j := 64 + (K0 + out.length)) g1, zob_some, k15, zob_some, mbd_some, mup_off (by decide), e15, mwr_of (k := 231) (j := 64 + (K0 + out.length)) g1, zob_some, k15, zob_some, mbd_some, mup_off (by decide), mup_off (by decide), e15, yi_nn, k15w, zob_some, mbd_some]
  have f : zfr (fun k i => (k = 215 ∧ i = 15) ∨ ((k = 230 ∨ k = 231) ∧ i = 64 + (K0 + out.length))) M (mup (mup (mup M 230 (64 + (K0 + out.length)) (yKs x)) 231 (64 + (K0 + out.length)) (yKv x)) 215 15 (Int32.ofNat (K0 + out.length + 1))) := zfr_trans (zfr_mup (by omega)) (zfr_trans (zfr_mup (by omega)) (zfr_mup (by omega)))
  refine zwp_ret ⟨⟨tx.keep f (by omega) (by omega), ?_, ?_, rk.keep f (by omega), ?_, ?_, c64, o8, ?_, ?_, ?_⟩, zfr_weak f (by unfold yEP; omega)⟩
  · rw [f 213 22 (by omega)]; exact e22
  · rw [f 213 27 (by omega)]; exact e27
  · rw [f 213 32 (by omega)]; exact e32
  · rw [f 213 31 (by omega)]; exact e31
  · rw [List.length_append]; show K0 + (out.length + 1) + d ≤ cnt; omega
  · rw [mup_on, List.length_append]; rfl
  · intro j hj
    rw [List.length_append] at hj
    have hj : j < out.length + 1 := hj
    by_cases e : j = out.length
    · subst e
      rw [show 64 + K0 + out.length = 64 + (K0 + out.length) by omega, List.getElem_append_right (by omega)]
      simp only [Nat.sub_self, List.getElem_cons_zero]
      exact ⟨by rw [mup_off (by decide), mup_off (by decide), mup_on], by rw [mup_off (by decide), mup_on]⟩
    · rw [f 230 _ (by omega), f 231 _ (by omega), List.getElem_append_left (by omega)]
      exact el j (by omega)
end
def yLo (l : Nat) : Nat := if l = 0 then 0 else if l = 1 then 1 else if l = 2 then 3 else if l = 3 then 4 else if l = 4 then 5 else 100
def yMi (l : Nat) : Nat := if l = 0 then 1 else if l = 1 then 2 else if l = 2 then 3 else if l = 3 then 5 else if l = 4 then 6 else 100
def yNt (l t : Nat) (u : List Nat) : Prop := (l ≤ 4 → ¬ yrank t = 6) ∧ (l ≤ 3 → ¬ yrank t = 5) ∧ (l ≤ 2 → yrank t = 4 → ytop (ypop 4 u).1 = 4) ∧ (l ≤ 1 → ¬ t = 14) ∧ (l ≤ 0 → ¬ t = 13)
def yPo (b : Nat → Nat) (n K0 d l : Nat) (w : List Nat) (R : yRz) (c0 opn : Nat) (M' : zMem) : Prop :=
  (∃ f, yRF M' f ∧ R = .inl f) ∨ ∃ p v out cnt, c0 ≤ cnt ∧ yRE M' b n K0 d p (out ++ yflush v) cnt opn ∧ R = yrZ b n (false, p, v ++ w, out, cnt, opn) ∧ (∀ t, t ∈ v → yMi l ≤ yrank t) ∧ yNt l (ytk b n p) (v ++ w)
def ySp (b : Nat → Nat) (n K0 d l opn c0 : Nat) (F : zMem → Option (Unit × zMem)) : Prop :=
  (∀ M f, yRF M f → F M = some ((), M)) ∧ ∀ M p w out cnt, yRE M b n K0 d p out cnt opn → c0 ≤ cnt → ytop w ≤ yLo l → (3 ≤ l → ytk b n p = 15 → 4 ≤ ytop w) →
    zwp (F M) (fun _ M' => zfr (yEP K0) M M' ∧ yPo b n K0 d l w (yrZ b n (true, p, w, out, cnt, opn)) cnt opn M')
section
variable {M : zMem} {b : Nat → Nat} {n : Nat} {K0 d p : Nat} {out : List yK} {cnt opn : Nat} {w : List Nat} {R : yRz}
theorem r_right {F : zMem → Option (Unit × zMem)} {sub c1 t : Nat} (sp : ySp b n K0 (d + 1) sub opn c1 F) (re : yRE M b n K0 d p out cnt opn) (hc : c1 ≤ cnt + 1) (hlo : yrank t ≤ yLo sub) (h4 : 3 ≤ sub → 4 ≤ yrank t)
    (hR : R = if 64 ≤ cnt then .inl (2, ypl b n p) else yrZ b n (true, ynx b n p, t :: w, out, cnt + 1, opn)) {vs : Int32} (ht : vs = yKo t) {α : Type} {Q : α → zMem → Prop} {g : zMem → Option (α × zMem)}
    (kk : ∀ M', zfr (yEP K0) M M' → ((∃ f, yRF M' f ∧ R = .inl f) ∨ ∃ p' v out2 cnt', cnt + 1 ≤ cnt' ∧ yRE M' b n K0 d p' (out2 ++ yflush (v ++ [t])) cnt' opn ∧ R = yrZ b n (false, p', (v ++ [t]) ++ w, out2, cnt', opn) ∧ (∀ x, x ∈ v → yMi sub ≤ yrank x) ∧ yNt sub (ytk b n p') ((v ++ [t]) ++ w)) → zwp (g M') Q) :
    zwp (mbd (m_X8_knot M) (fun _ M1 => mbd (m_X8_goOn M1) (fun _ M2 => mbd (F M2) (fun _ M3 => mbd (m_X8_puts 2 vs M3) (fun _ M4 => g M4))))) Q := by
  have c64 := re.c64
  by_cases hf : 64 ≤ cnt
  · rw [if_pos hf] at hR
    have kn : zwp (m_X8_knot M) (fun _ M' => yRF M' (2, ypl b n p) ∧ zfr (yEP K0) M M') := by
      unfold m_X8_knot
      rw [if_pos re.ok, if_pos (by rw [re.2.2.2.2.1, show cnt = 64 by omega]; rfl)]
      exact zwp_bd (re.wrong (k := 2) (by omega)) (fun _ M' z => zwp_ret z)
    refine zwp_bd kn (fun _ M1 z => ?_)
    obtain ⟨fl, f1⟩ := z
    rw [r_goOn_f fl, mbd_some, sp.1 _ _ fl, mbd_some, r_puts_f fl, mbd_some]
    exact kk M1 f1 (Or.inl ⟨_, fl, hR⟩)
  · rw [if_neg hf] at hR
    have kn := re.knot (by omega)
    have ek : m_X8_knot M = some ((), mup M 213 32 (Int32.ofNat (cnt + 1))) := by
      unfold m_X8_knot
      rw [if_pos re.ok, re.2.2.2.2.1, if_neg (by rw [show (64 : Int32) = Int32.ofNat 64 from rfl, zi_eq (by omega) (by omega)]; omega), mlt_eq, yi_nn]
    rw [ek, mbd_some]
    generalize mup M 213 32 (Int32.ofNat (cnt + 1)) = M1 at kn ⊢
    obtain ⟨re1, f1⟩ := kn
    refine zwp_bd re1.goOn (fun _ M2 z => ?_)
    obtain ⟨re2, f2⟩ := z
    refine zwp_bd (sp.2 M2 _ (t :: w) _ _ re2 hc hlo (fun z _ => h4 z)) (fun _ M3 z => ?_)
    obtain ⟨f3, po⟩ := z
    rcases po with ⟨f, fl, e⟩ | ⟨p', v, out2, cnt', c', re3, e, ra, nt⟩
    · rw [r_puts_f fl, mbd_some]
      exact kk M3 (zfr_trans f1 (zfr_trans f2 f3)) (Or.inl ⟨f, fl, hR.trans e⟩)
    · rw [ht]
      refine zwp_bd (re3.puts (yop t)) (fun _ M4 z => ?_)
      obtain ⟨re4, f4⟩ := z
      have ea : v ++ t :: w = (v ++ [t]) ++ w := by rw [List.append_assoc]; rfl
      have eo : out2 ++ yflush v ++ [yop t] = out2 ++ yflush (v ++ [t]) := by rw [List.append_assoc]; unfold yflush; rw [List.map_append]; rfl
      rw [eo] at re4
      rw [ea] at e nt
      exact kk M4 (zfr_trans f1 (zfr_trans f2 (zfr_trans f3 f4))) (Or.inr ⟨p', v, out2, cnt', c', re4, hR.trans e, ra, nt⟩)
theorem ypop_rs {s : Nat} {v : List Nat} (hv : ∀ t, t ∈ v → s < yrank t) (hw : ytop w ≤ s) : ypop s (v ++ w) = (w, yflush v) := by
  rw [ypop_app v hv, ypop_st hw, List.append_nil]
theorem yrZ_op (hn : n ≤ 700) (hb : ∀ i, i < n → b i < 256) (hp : p ≤ n) {v : List Nat} {q : Nat} (hq : yrank (ytk b n p) = q) (hq0 : ¬ q = 0) (hq3 : ¬ q = 3) (hv : ∀ t, t ∈ v → (if q = 4 then 4 else q - 1) < yrank t) (hw : ytop w ≤ (if q = 4 then 4 else q - 1)) (h4 : q = 4 → ¬ ytop w = 4) :
    yrZ b n (false, p, v ++ w, out, cnt, opn) = if 64 ≤ cnt then .inl (2, ypl b n p) else yrZ b n (true, ynx b n p, ytk b n p :: w, out ++ yflush v, cnt + 1, opn) := by
  have rf := yrank_f _ (ytk_lt hb (p := p))
  have n34 : ¬ (ytk b n p = 34 ∧ 0 < opn) := fun z => by rw [z.1] at hq; exact hq0 hq.symm
  have n0 : ¬ (yrank (ytk b n p) = 0 ∨ ytk b n p = 15) := by
    rintro (z | z)
    · omega
    · have := rf.2.2.2.1.mpr z; omega
  have pr := ypop_rs hv hw
  have n4 : ¬ (yrank (ytk b n p) = 4 ∧ ytop (ypop 4 (v ++ w)).1 = 4) := by
    rintro ⟨z1, z2⟩
    have e4 : q = 4 := by omega
    rw [if_pos e4] at pr
    rw [pr] at z2
    exact h4 e4 z2
  by_cases hc : 64 ≤ cnt
  · rw [if_pos hc]
    refine yrZ_end hn hp ?_
    rw [ystp_n]
    rw [if_neg n34, if_neg n0, if_neg n4, if_pos hc]
  · rw [if_neg hc]
    refine yrZ_go hn hb hp ?_
    rw [ystp_n]
    rw [if_neg n34, if_neg n0, if_neg n4, if_neg hc, hq, pr]
end

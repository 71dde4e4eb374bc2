/-! promise by promise: how many could be given -/
theorem ykb_or : ∀ K, K < 64 → ∀ h, h < 6 → (Int32.ofNat K ||| ((1 : Int32) <<< (Int32.ofNat h &&& 31))) = Int32.ofNat (K ||| 1 <<< h) := by decide +kernel
theorem ykb_t1 : ∀ K, K < 64 → ∀ h, h < 6 → decide ((((Int32.ofNat K) >>> (Int32.ofNat h &&& 31)) &&& 1) = 1) = K.testBit h := by decide +kernel
theorem ykb_t0 : ∀ K, K < 64 → ∀ h, h < 6 → decide ((((Int32.ofNat K) >>> (Int32.ofNat h &&& 31)) &&& 1) = 0) = !K.testBit h := by decide +kernel
theorem ykb_bit : ∀ K, K < 64 → ∀ h, h < 6 → ∀ h', h' < 6 → (K ||| 1 <<< h).testBit h' = (K.testBit h' || decide (h' = h)) := by decide +kernel
theorem ykb_lt : ∀ n, n < 7 → ∀ K, K < 2 ^ n → ∀ h, h < n → (K ||| 1 <<< h) < 2 ^ n := by decide +kernel
theorem ykb_cnt : ∀ n, n < 7 → ∀ K, K < 2 ^ n → ybc (Int32.ofNat K) = Int32.ofNat (ycnt (fun h => K.testBit h) n) := by decide +kernel
theorem ykb_sh : ∀ n, n < 7 → ((1 : Int32) <<< (Int32.ofNat n &&& 31)) = Int32.ofNat (2 ^ n) := by decide +kernel
theorem ykb_64 : ∀ n, n < 7 → 2 ^ n ≤ 64 := by decide +kernel
theorem ycnt_mono {p q : Nat → Bool} {n : Nat} (h : ∀ c, c < n → p c = true → q c = true) : ycnt p n ≤ ycnt q n := by
  induction n with
  | zero => exact Nat.le_refl _
  | succ n ih =>
    have i := ih (fun c hc => h c (by omega))
    have j := h n (by omega)
    simp only [ycnt]
    by_cases e : p n = true
    · rw [if_pos e, if_pos (j e)]; omega
    · rw [if_neg e]; split <;> omega
theorem ycnt_lt {p q : Nat → Bool} {n x : Nat} (h : ∀ c, c < n → p c = true → q c = true) (hx : x < n) (h1 : p x = false) (h2 : q x = true) : ycnt p n < ycnt q n := by
  induction n with
  | zero => omega
  | succ n ih =>
    simp only [ycnt]
    by_cases e : x = n
    · subst e
      have i := ycnt_mono (n := x) (fun c hc => h c (by omega))
      rw [if_neg (by rw [h1]; decide), if_pos h2]
      omega
    · have i := ih (fun c hc => h c (by omega)) (by omega)
      have j := h n (by omega)
      by_cases e2 : p n = true
      · rw [if_pos e2, if_pos (j e2)]; omega
      · rw [if_neg e2]; split <;> omega
theorem ycnt_or {p q r : Nat → Bool} {n : Nat} (h : ∀ c, c < n → p c = (q c || r c)) (d : ∀ c, c < n → ¬ (q c = true ∧ r c = true)) : ycnt p n = ycnt q n + ycnt r n := by
  induction n with
  | zero => rfl
  | succ n ih =>
    have i := ih (fun c hc => h c (by omega)) (fun c hc => d c (by omega))
    have j := h n (by omega)
    have k := d n (by omega)
    simp only [ycnt]
    rw [i, j]
    cases hq : q n <;> cases hr : r n <;> simp_all <;> omega
/-- how many are given to the child h -/
def ygv (H : Nat → Int32) (h n : Nat) : Nat := ycnt (fun c => decide (H c = Int32.ofNat h)) n
theorem ygv_congr {H H' : Nat → Int32} {h n : Nat} (e : ∀ c, c < n → H c = H' c) : ygv H h n = ygv H' h n := ycnt_congr (fun c hc => by rw [e c hc])
theorem ygv_yu {H : Nat → Int32} {h n c : Nat} {v : Int32} (hc : c < n) : ygv (yu H c v) h n + (if H c = Int32.ofNat h then 1 else 0) = ygv H h n + (if v = Int32.ofNat h then 1 else 0) := by
  unfold ygv
  induction n with
  | zero => omega
  | succ n ih =>
    simp only [ycnt]
    by_cases e : c = n
    · subst e
      have z : ycnt (fun d => decide (yu H c v d = Int32.ofNat h)) c = ycnt (fun d => decide (H d = Int32.ofNat h)) c := ycnt_congr (fun d hd => by rw [yu_off (by omega)])
      rw [z]
      have y1 : yu H c v c = v := yu_on
      simp only [y1]
      by_cases e1 : H c = Int32.ofNat h <;> by_cases e2 : v = Int32.ofNat h <;> simp [e1, e2]
    · have z := ih (by omega)
      have y1 : yu H c v n = H n := yu_off (show n ≠ c by omega)
      simp only [y1]
      omega
abbrev ysv (T : yT) (S : yA) (h c : Nat) : Prop := ¬ T.sight h < yfar (S.pos h) (S.cell c)
/-- each is given to one who sees it -/
def yVal (T : yT) (S : yA) (H : Nat → Int32) : Prop := ∀ c, c < T.nc → H c = -1 ∨ ∃ h, h < T.nh ∧ H c = Int32.ofNat h ∧ ysv T S h c
def yClo (T : yT) (S : yA) (m : Nat) (H : Nat → Int32) (F : Nat → Prop) : Prop :=
  (∀ h, h < T.nh → F h → m ≤ ygv H h T.nc) ∧ (∀ d, d < T.nc → ∀ h, h < T.nh → F h → H d = Int32.ofNat h → ∀ h', h' < T.nh → ysv T S h' d → F h')
/-- it found none: whom it asked have as many as they may, and so on -/
def yNo (T : yT) (S : yA) (m : Nat) (H : Nat → Int32) (K K' : Nat) : Prop :=
  (∀ h, h < T.nh → K.testBit h = true → K'.testBit h = true) ∧
  (∀ h, h < T.nh → K'.testBit h = true → K.testBit h = false → m ≤ ygv H h T.nc ∧ ∀ d, d < T.nc → H d = Int32.ofNat h → ∀ h', h' < T.nh → ysv T S h' d → K'.testBit h' = true)
def yYes (T : yT) (S : yA) (m : Nat) (H : Nat → Int32) (K c : Nat) (H' : Nat → Int32) : Prop :=
  (∃ h, h < T.nh ∧ H' c = Int32.ofNat h ∧ ysv T S h c) ∧
  (∀ d, d < T.nc → d ≠ c → H' d = H d ∨ (H d ≠ -1 ∧ ∃ h, h < T.nh ∧ H' d = Int32.ofNat h ∧ ysv T S h d)) ∧
  (∀ d, d < T.nc → d ≠ c → (H d = -1 ∨ ∃ h, h < T.nh ∧ K.testBit h = true ∧ H d = Int32.ofNat h) → H' d = H d) ∧
  (∃ e, e < T.nh ∧ ygv H e T.nc < m ∧ ∀ h, h < T.nh → ygv H' h T.nc + (if H c = Int32.ofNat h then 1 else 0) = ygv H h T.nc + (if h = e then 1 else 0)) ∧
  (∀ F : Nat → Prop, yClo T S m H F → (∀ h, h < T.nh → H' c = Int32.ofNat h → ¬ F h) ∧ ∀ d, d < T.nc → d ≠ c → (∀ h, h < T.nh → F h → H d = Int32.ofNat h → H' d = H d) ∧ (∀ h, h < T.nh → F h → H' d = Int32.ofNat h → H d = Int32.ofNat h))
def yCo (k i : Nat) : Prop := (k = 213 ∧ i = 55) ∨ k = 245
def yun (K n : Nat) : Nat := ycnt (fun h => !K.testBit h) n
theorem yNo.refl {T : yT} {S : yA} {m K : Nat} {H : Nat → Int32} : yNo T S m H K K := ⟨fun _ _ z => z, fun h _ z1 z2 => by rw [z1] at z2; cases z2⟩
theorem yNo.trans {T : yT} {S : yA} {m K K1 K2 : Nat} {H : Nat → Int32} (a : yNo T S m H K K1) (b : yNo T S m H K1 K2) : yNo T S m H K K2 := by
  refine ⟨fun h hh z => b.1 h hh (a.1 h hh z), fun h hh z1 z2 => ?_⟩
  by_cases e : K1.testBit h = true
  · obtain ⟨q1, q2⟩ := a.2 h hh e z2
    exact ⟨q1, fun d hd ed h' hh' s => b.1 h' hh' (q2 d hd ed h' hh' s)⟩
  · exact b.2 h hh z1 (by simpa using e)
theorem yun_le {T : yT} {S : yA} {m K K' : Nat} {H : Nat → Int32} (a : yNo T S m H K K') : yun K' T.nh ≤ yun K T.nh := ycnt_mono (fun h hh z => by
  have := a.1 h hh
  cases e : K.testBit h with
  | false => rfl
  | true => rw [this e] at z; exact z)
section
variable {M : zMem} {T : yT} {S : yA}
theorem r_givenTo (rs : yRS M 0 0 T S) {H : Nat → Int32} (hH : ∀ c, c < T.nc → M.1 245 c = H c) (h : Nat) : m_X8_givenTo (Int32.ofNat h) M = some (Int32.ofNat (ygv H h T.nc), M) := by
  have b1 := rs.tk.nc
  refine zwp_out ?_
  unfold m_X8_givenTo ygv
  refine zwp_bd (Q' := fun b M' => b.1 = Int32.ofNat (ycnt (fun c => decide (H c = Int32.ofNat h)) T.nc) ∧ M' = M) (zwp_for 0 T.nc (fun c st M' => st = (Int32.ofNat (ycnt (fun c => decide (H c = Int32.ofNat h)) c), Int32.ofNat c) ∧ M' = M) ?_ ?_ ⟨rfl, rfl⟩ (Nat.zero_le _) (by have : zLF = 100000 := rfl; omega)) ?_
  · rintro c st M' - hc ⟨rfl, rfl⟩
    have es : ycnt (fun c => decide (H c = Int32.ofNat h)) (c + 1) = ycnt (fun c => decide (H c = Int32.ofNat h)) c + (if decide (H c = Int32.ofNat h) = true then 1 else 0) := rfl
    simp only [rs.rt.rNc, zob_some, yle_f hc (by omega), if_false]
    rw [mrd_of (k := 245) (j := c) (by show c < 8; omega) (by decide), zob_some, hH c hc]
    by_cases z : H c = Int32.ofNat h
    · rw [if_pos z]
      rw [if_pos (decide_eq_true z)] at es
      exact zwp_ret ⟨by rw [es, yi_nn, yi_nn], rfl⟩
    · rw [if_neg z]
      rw [if_neg (by rw [decide_eq_false z]; decide)] at es
      exact zwp_ret ⟨by rw [es, yi_nn, yad0]; rfl, rfl⟩
  · rintro st M' ⟨rfl, rfl⟩
    simp only [rs.rt.rNc, zob_some, yle_t, if_true, zwp_some, and_self]
  · rintro b M' ⟨e, rfl⟩
    exact zwp_ret ⟨e, rfl⟩
theorem yRS.co {M' : zMem} (h : yRS M 0 0 T S) (f : zfr yCo M M') : yRS M' 0 0 T S := h.keep f (by unfold yCo; omega) (by unfold yCo; omega) (by unfold yCo; omega) (by unfold yCo yTR; omega)
theorem yYes.base {m K c h : Nat} {H : Nat → Int32} (hc : c < T.nc) (hh : h < T.nh) (h6 : T.nh ≤ 6) (hs : ysv T S h c) (hl : ygv H h T.nc < m) : yYes T S m H K c (yu H c (Int32.ofNat h)) := by
  refine ⟨⟨h, hh, yu_on, hs⟩, fun d hd ne => Or.inl (yu_off ne), fun d hd ne _ => yu_off ne, ⟨h, hh, hl, fun x hx => ?_⟩, fun F cl => ⟨fun x hx ex fx => ?_, fun d hd ne => ⟨fun x hx fx e => yu_off ne, fun x hx fx e => by rw [yu_off ne] at e; exact e⟩⟩⟩
  · rw [ygv_yu hc]
    congr 1
    by_cases e : x = h
    · subst e; rw [if_pos rfl, if_pos rfl]
    · rw [if_neg (fun z => e ((zi_eq (by omega) (by omega)).mp z).symm), if_neg e]
  · rw [yu_on, zi_eq (by omega) (by omega)] at ex
    subst ex
    have := cl.1 h hh fx
    omega
theorem yYes.step {m K K1 c d h : Nat} {H H2 : Nat → Int32} (h6 : T.nh ≤ 6) (hc : c < T.nc) (hd : d < T.nc) (hh : h < T.nh) (hs : ysv T S h c) (ed : H d = Int32.ofNat h) (kh : K.testBit h = false) (sub : ∀ x, x < T.nh → K.testBit x = true → K1.testBit x = true) (own : H c = -1 ∨ ∃ x, x < T.nh ∧ K.testBit x = true ∧ H c = Int32.ofNat x) (y : yYes T S m H K1 d H2) : yYes T S m H K c (yu H2 c (Int32.ofNat h)) := by
  obtain ⟨⟨x0, hx0, e0, s0⟩, y2, y3, ⟨e, he, le, ce⟩, y5⟩ := y
  have inj : ∀ {a b : Nat}, a < T.nh → b < T.nh → Int32.ofNat a = Int32.ofNat b → a = b := fun ha hb z => (zi_eq (by omega) (by omega)).mp z
  have dc : d ≠ c := by
    rintro rfl
    rcases own with z | ⟨x, hx, kx, z⟩
    · rw [ed] at z; exact zi_n1 (by omega) z
    · rw [ed] at z
      have := inj hh hx z
      subst this
      rw [kx] at kh; cases kh
  have Hc : H2 c = H c := y3 c hc (Ne.symm dc) (by
    rcases own with z | ⟨x, hx, kx, z⟩
    · exact Or.inl z
    · exact Or.inr ⟨x, hx, sub x hx kx, z⟩)
  have nd : H d ≠ -1 := by rw [ed]; exact zi_n1 (by omega)
  refine ⟨⟨h, hh, yu_on, hs⟩, fun x hx ne => ?_, fun x hx ne q => ?_, ⟨e, he, le, fun x hx => ?_⟩, fun F cl => ?_⟩
  · rw [yu_off ne]
    by_cases ex : x = d
    · subst ex; exact Or.inr ⟨nd, x0, hx0, e0, s0⟩
    · exact y2 x hx ex
  · rw [yu_off ne]
    have ex : x ≠ d := by
      rintro rfl
      rcases q with z | ⟨v, hv, kv, z⟩
      · exact nd z
      · rw [ed] at z
        have := inj hh hv z
        subst this
        rw [kv] at kh; cases kh
    refine y3 x hx ex ?_
    rcases q with z | ⟨v, hv, kv, z⟩
    · exact Or.inl z
    · exact Or.inr ⟨v, hv, sub v hv kv, z⟩
  · have a := ygv_yu (H := H2) (h := x) (n := T.nc) (c := c) (v := Int32.ofNat h) hc
    have b := ce x hx
    rw [Hc] at a
    have i1 : (if H d = Int32.ofNat x then 1 else 0) = (if Int32.ofNat h = Int32.ofNat x then 1 else 0) := by rw [ed]
    rw [i1] at b
    omega
  · have q := y5 F cl
    have nf : ¬ F h := fun fh => q.1 x0 hx0 e0 (cl.2 d hd h hh fh ed x0 hx0 s0)
    refine ⟨fun x hx ex fx => ?_, fun x hx ne => ?_⟩
    · rw [yu_on] at ex
      have := inj hh hx ex
      subst this
      exact nf fx
    · rw [yu_off ne]
      by_cases ex : x = d
      · subst ex
        refine ⟨fun v hv fv ev => ?_, fun v hv fv ev => absurd fv (q.1 v hv ev)⟩
        rw [ed] at ev
        have := inj hh hv ev
        subst this
        exact absurd fv nf
      · exact q.2 x hx ex
theorem r_finds {m : Nat} (em : T.most = Int32.ofNat m) (hm : m ≤ 9) : ∀ (fuel : Nat) (M : zMem) (H : Nat → Int32) (K c : Nat), yun K T.nh < fuel → yRS M 0 0 T S → M.1 213 55 = Int32.ofNat K → K < 2 ^ T.nh → (∀ d, d < T.nc → M.1 245 d = H d) → c < T.nc → (H c = -1 ∨ ∃ x, x < T.nh ∧ K.testBit x = true ∧ H c = Int32.ofNat x) →
    zwp (m_X8_finds fuel (Int32.ofNat c) M) (fun r M' => zfr yCo M M' ∧ ∃ K', M'.1 213 55 = Int32.ofNat K' ∧ K' < 2 ^ T.nh ∧
      ((r = 0 ∧ (∀ d, d < T.nc → M'.1 245 d = H d) ∧ yNo T S m H K K' ∧ ∀ h, h < T.nh → ysv T S h c → K'.testBit h = true)
      ∨ (r = 1 ∧ ∃ H', (∀ d, d < T.nc → M'.1 245 d = H' d) ∧ yYes T S m H K c H'))) := by
  intro fuel
  induction fuel with
  | zero => intro M H K c hu; omega
  | succ fuel ih =>
    intro M H K c hu rs hk hK hH hc own
    have b1 := rs.tk.nc
    have b2 := rs.tk.nh
    have p64 := ykb_64 T.nh (by omega)
    have hfu : zLF = 100000 := rfl
    have cc := rs.ok.cell c hc
    show zwp (mb_X8_finds _ _ _) _
    unfold mb_X8_finds
    refine zwp_bd (Q' := fun b M' => zfr yCo M M' ∧ ∃ K', M'.1 213 55 = Int32.ofNat K' ∧ K' < 2 ^ T.nh ∧ match b with
        | .inl _ => (∀ d, d < T.nc → M'.1 245 d = H d) ∧ yNo T S m H K K' ∧ ∀ h, h < T.nh → ysv T S h c → K'.testBit h = true
        | .inr r => r = 1 ∧ ∃ H', (∀ d, d < T.nc → M'.1 245 d = H' d) ∧ yYes T S m H K c H')
      (zwp_for 0 T.nh (fun h st M' => st = Int32.ofNat h ∧ zfr yCo M M' ∧ ∃ K', M'.1 213 55 = Int32.ofNat K' ∧ K' < 2 ^ T.nh ∧ (∀ d, d < T.nc → M'.1 245 d = H d) ∧ yNo T S m H K K' ∧ ∀ x, x < h → ysv T S x c → K'.testBit x = true) ?_ ?_ ⟨rfl, zfr_refl, K, hk, hK, hH, yNo.refl, fun x hx => absurd hx (by omega)⟩ (Nat.zero_le _) (by omega)) ?_
    · rintro h st M1 - hh ⟨rfl, f1, K1, k1, kl, a1, no1, s1⟩
      have rs1 := rs.co f1
      rw [rs1.rt.rNh, zob_some, if_neg (yge hh (by omega)), k1]
      have t1 := ykb_t1 K1 (by omega) h (by omega)
      by_cases z : K1.testBit h = true
      · rw [if_pos (by rw [z] at t1; exact of_decide_eq_true t1)]
        refine zwp_ret ⟨yi_nn h, f1, K1, k1, kl, a1, no1, fun x hx sx => ?_⟩
        by_cases e : x = h
        · subst e; exact z
        · exact s1 x (by omega) sx
      · have z : K1.testBit h = false := by simpa using z
        rw [if_neg (by rw [z] at t1; exact of_decide_eq_false t1), rs1.rCell0 hc, zob_some, r_doesSee (a := 0) rs1 hh cc, mbd_some]
        by_cases sv : T.sight h < yfar (S.pos h) (S.cell c)
        · rw [if_pos sv, if_pos rfl]
          refine zwp_ret ⟨yi_nn h, f1, K1, k1, kl, a1, no1, fun x hx sx => ?_⟩
          by_cases e : x = h
          · subst e; exact absurd sv sx
          · exact s1 x (by omega) sx
        · rw [if_neg sv, if_neg (by decide), mlt_eq, k1, ykb_or K1 (by omega) h (by omega)]
          have kb := ykb_bit K1 (by omega) h (by omega)
          have kl2 := ykb_lt T.nh (by omega) K1 kl h hh
          have k0 : K.testBit h = false := by
            cases e : K.testBit h with
            | false => rfl
            | true => rw [no1.1 h hh e] at z; cases z
          have f2 : zfr yCo M (mup M1 213 55 (Int32.ofNat (K1 ||| 1 <<< h))) := zfr_trans f1 (zfr_mup (Or.inl ⟨rfl, rfl⟩))
          have k2 : (mup M1 213 55 (Int32.ofNat (K1 ||| 1 <<< h))).1 213 55 = Int32.ofNat (K1 ||| 1 <<< h) := mup_on
          have a2 : ∀ d, d < T.nc → (mup M1 213 55 (Int32.ofNat (K1 ||| 1 <<< h))).1 245 d = H d := fun d hd => (mup_off (by decide)).trans (a1 d hd)
          generalize mup M1 213 55 (Int32.ofNat (K1 ||| 1 <<< h)) = M2 at f2 k2 a2 ⊢
          have rs2 := rs.co f2
          rw [r_givenTo rs2 a2, mbd_some, rs2.rt.rNMost, zob_some, em]
          have lg : ygv H h T.nc ≤ T.nc := ycnt_le _
          by_cases lt : ygv H h T.nc < m
          · rw [if_neg (by rw [zi_le (by omega) (by omega)]; omega), mwr_of (k := 245) (j := c) (by show c < 8; omega) (by decide), zob_some]
            refine zwp_ret ⟨zfr_trans f2 (zfr_mup (Or.inr rfl)), K1 ||| 1 <<< h, (mup_off (by decide)).trans k2, kl2, rfl, yu H c (Int32.ofNat h), fun d hd => ?_, yYes.base hc hh b2 sv lt⟩
            by_cases e : d = c
            · subst e; rw [yu_on]; exact mup_on
            · rw [yu_off e, mup_off' e]; exact a2 d hd
          · rw [if_pos (by rw [zi_le (by omega) (by omega)]; omega)]
            generalize eK : K1 ||| 1 <<< h = K2 at kb kl2 k2 f2
            refine zwp_bd (Q' := fun b M' => zfr yCo M M' ∧ ∃ K', M'.1 213 55 = Int32.ofNat K' ∧ K' < 2 ^ T.nh ∧ match b with
                | .inl _ => (∀ d, d < T.nc → M'.1 245 d = H d) ∧ yNo T S m H K2 K' ∧ ∀ d, d < T.nc → H d = Int32.ofNat h → ∀ x, x < T.nh → ysv T S x d → K'.testBit x = true
                | .inr (.inr (.inr r)) => r = 1 ∧ ∃ H', (∀ d, d < T.nc → M'.1 245 d = H' d) ∧ yYes T S m H K c H'
                | _ => False)
              (zwp_for 0 T.nc (fun d st M' => st = Int32.ofNat d ∧ zfr yCo M M' ∧ ∃ K', M'.1 213 55 = Int32.ofNat K' ∧ K' < 2 ^ T.nh ∧ (∀ d, d < T.nc → M'.1 245 d = H d) ∧ yNo T S m H K2 K' ∧ ∀ y, y < d → H y = Int32.ofNat h → ∀ x, x < T.nh → ysv T S x y → K'.testBit x = true) ?_ ?_ ⟨rfl, f2, K2, k2, kl2, a2, yNo.refl, fun y hy => absurd hy (by omega)⟩ (Nat.zero_le _) (by omega)) ?_
            · rintro d st M3 - hd ⟨rfl, f3, K3, k3, kl3, a3, no3, s3⟩
              have rs3 := rs.co f3
              rw [rs3.rt.rNc, zob_some, if_neg (yge hd (by omega)), mrd_of (k := 245) (j := d) (by show d < 8; omega) (by decide), zob_some, a3 d hd]
              by_cases ed : H d = Int32.ofNat h
              · rw [if_pos ed]
                have k2h : K2.testBit h = true := by rw [kb h (by omega)]; simp
                have u3 : yun K3 T.nh < fuel := by
                  have l1 := yun_le no3
                  have l2 : yun K2 T.nh < yun K T.nh := by
                    refine ycnt_lt (x := h) (fun x hx q => ?_) hh (by rw [k2h]; rfl) (by rw [k0]; rfl)
                    cases e : K.testBit x with
                    | false => rfl
                    | true =>
                      rw [kb x (by omega), no1.1 x hx e] at q
                      cases q
                  omega
                refine zwp_bd (ih M3 H K3 d u3 rs3 k3 kl3 a3 hd (Or.inr ⟨h, hh, no3.1 h hh k2h, ed⟩)) ?_
                rintro r M4 ⟨f4, K4, k4, kl4, q⟩
                have f04 := zfr_trans f3 f4
                rcases q with ⟨rfl, a4, no4, s4⟩ | ⟨rfl, H2, a4, y4⟩
                · rw [if_pos rfl]
                  refine zwp_ret ⟨yi_nn d, f04, K4, k4, kl4, a4, no3.trans no4, fun y hy ey x hx sx => ?_⟩
                  by_cases e : y = d
                  · subst e; exact s4 x hx sx
                  · exact no4.1 x hx (s3 y (by omega) ey x hx sx)
                · rw [if_neg (by decide), mwr_of (k := 245) (j := c) (by show c < 8; omega) (by decide), zob_some]
                  refine zwp_ret ⟨zfr_trans f04 (zfr_mup (Or.inr rfl)), K4, (mup_off (by decide)).trans k4, kl4, rfl, yu H2 c (Int32.ofNat h), fun y hy => ?_, yYes.step b2 hc hd hh sv ed k0 (fun x hx kx => no3.1 x hx (by rw [kb x (by omega), no1.1 x hx kx]; rfl)) own y4⟩
                  by_cases e : y = c
                  · subst e; rw [yu_on]; exact mup_on
                  · rw [yu_off e, mup_off' e]; exact a4 y hy
              · rw [if_neg ed]
                refine zwp_ret ⟨yi_nn d, f3, K3, k3, kl3, a3, no3, fun y hy ey x hx sx => ?_⟩
                by_cases e : y = d
                · subst e; exact absurd ey ed
                · exact s3 y (by omega) ey x hx sx
            · rintro st M3 ⟨rfl, f3, K3, k3, kl3, a3, no3, s3⟩
              rw [(rs.co f3).rt.rNc, zob_some, if_pos (Int32.le_refl _)]
              exact zwp_ret ⟨f3, K3, k3, kl3, a3, no3, s3⟩
            · rintro b M3 ⟨f3, K3, k3, kl3, q⟩
              match b, q with
              | .inl e, q =>
                rw [zsl_l]
                obtain ⟨a3, no3, s3⟩ := q
                refine zwp_ret ⟨yi_nn h, f3, K3, k3, kl3, a3, ⟨fun x hx kx => no3.1 x hx (by rw [kb x (by omega), no1.1 x hx kx]; rfl), fun x hx kx nk => ?_⟩, fun x hx sx => ?_⟩
                · by_cases ex : x = h
                  · subst ex
                    exact ⟨by omega, s3⟩
                  · by_cases k1x : K1.testBit x = true
                    · obtain ⟨q1, q2⟩ := no1.2 x hx k1x nk
                      exact ⟨q1, fun d hd ed y hy sy => no3.1 y hy (by rw [kb y (by omega), q2 d hd ed y hy sy]; rfl)⟩
                    · refine no3.2 x hx kx ?_
                      rw [kb x (by omega)]
                      simp [ex, show K1.testBit x = false by simpa using k1x]
                · by_cases ex : x = h
                  · subst ex
                    exact no3.1 x hh (by rw [kb x (by omega)]; simp)
                  · exact no3.1 x (by omega) (by rw [kb x (by omega), s1 x (by omega) sx]; rfl)
              | .inr (.inr (.inr r)), q =>
                rw [zsl_r]
                exact zwp_ret ⟨f3, K3, k3, kl3, q⟩
    · rintro st M1 ⟨rfl, f1, K1, k1, kl, a1, no1, s1⟩
      rw [(rs.co f1).rt.rNh, zob_some, if_pos (Int32.le_refl _)]
      exact zwp_ret ⟨f1, K1, k1, kl, a1, no1, s1⟩
    · rintro b M1 ⟨f1, K1, k1, kl, q⟩
      match b, q with
      | .inl e, q => rw [zsl_l]; exact zwp_ret ⟨f1, K1, k1, kl, Or.inl ⟨rfl, q.1, q.2.1, q.2.2⟩⟩
      | .inr r, q => rw [zsl_r]; exact zwp_ret ⟨f1, K1, k1, kl, Or.inr q⟩
end
/-! the least cut -/
theorem ycnt_one {c : Nat} (k : Nat) : ycnt (fun d => decide (d = c)) k = if c < k then 1 else 0 := by
  induction k with
  | zero => rfl
  | succ k ih =>
    simp only [ycnt, ih, decide_eq_true_eq]
    by_cases e1 : k = c
    · subst e1; simp
    · by_cases e2 : c < k
      · simp [e1, e2, show c < k + 1 by omega]
      · simp [e1, e2, show ¬ c < k + 1 by omega]
/-- a cloud in the sky that a child who isn't in K sees -/
def ysk2 (T : yT) (S : yA) (K c : Nat) : Nat → Bool
  | 0 => false
  | n + 1 => ysk2 T S K c n || (!K.testBit n && decide (S.state c = 1 ∧ ysv T S n c))
theorem ysk2_iff {T : yT} {S : yA} {K c : Nat} (n : Nat) : ysk2 T S K c n = true ↔ ∃ h, h < n ∧ K.testBit h = false ∧ S.state c = 1 ∧ ysv T S h c := by
  induction n with
  | zero => exact ⟨fun z => (by cases z), fun ⟨h, hh, _⟩ => absurd hh (by omega)⟩
  | succ n ih =>
    show (ysk2 T S K c n || (!K.testBit n && decide (S.state c = 1 ∧ ysv T S n c))) = true ↔ _
    rw [Bool.or_eq_true, ih, Bool.and_eq_true, decide_eq_true_eq, Bool.not_eq_true']
    constructor
    · rintro (⟨h, h1, h2⟩ | ⟨h1, h2, h3⟩)
      · exact ⟨h, by omega, h2⟩
      · exact ⟨n, by omega, h1, h2, h3⟩
    · rintro ⟨h, h1, h2, h3, h4⟩
      by_cases e : h = n
      · subst e; exact Or.inr ⟨h2, h3, h4⟩
      · exact Or.inl ⟨h, by omega, h2, h3, h4⟩
def ycut (T : yT) (S : yA) (m K : Nat) : Nat := m * ycnt (fun h => K.testBit h) T.nh + ycnt (fun c => ysk2 T S K c T.nh) T.nc
def ymin (T : yT) (S : yA) (m : Nat) : Nat → Nat
  | 0 => 8
  | k + 1 => if ycut T S m k < ymin T S m k then ycut T S m k else ymin T S m k
theorem ymin_8 {T : yT} {S : yA} {m : Nat} (k : Nat) : ymin T S m k ≤ 8 := by
  induction k with
  | zero => exact Nat.le_refl _
  | succ k ih =>
    show (if ycut T S m k < ymin T S m k then ycut T S m k else ymin T S m k) ≤ 8
    split <;> omega
theorem ymin_le {T : yT} {S : yA} {m : Nat} {k : Nat} : ∀ n, k < n → ymin T S m n ≤ ycut T S m k := by
  intro n
  induction n with
  | zero => intro h; omega
  | succ n ih =>
    intro h
    show (if ycut T S m n < ymin T S m n then ycut T S m n else ymin T S m n) ≤ _
    by_cases e : k = n
    · subst e; split <;> omega
    · have := ih (by omega)
      split <;> omega
theorem ymin_ge {T : yT} {S : yA} {m x : Nat} (h8 : x ≤ 8) : ∀ n, (∀ k, k < n → x ≤ ycut T S m k) → x ≤ ymin T S m n := by
  intro n
  induction n with
  | zero => intro _; exact h8
  | succ n ih =>
    intro h
    show x ≤ (if ycut T S m n < ymin T S m n then ycut T S m n else ymin T S m n)
    have a := ih (fun k hk => h k (by omega))
    have b := h n (by omega)
    split <;> omega
/-- those given to children of G -/
def yinG (H : Nat → Int32) (G : Nat → Bool) (d : Nat) : Nat → Bool
  | 0 => false
  | n + 1 => yinG H G d n || (G n && decide (H d = Int32.ofNat n))
theorem yinG_iff {H : Nat → Int32} {G : Nat → Bool} {d : Nat} (n : Nat) : yinG H G d n = true ↔ ∃ h, h < n ∧ G h = true ∧ H d = Int32.ofNat h := by
  induction n with
  | zero => exact ⟨fun z => (by cases z), fun ⟨h, hh, _⟩ => absurd hh (by omega)⟩
  | succ n ih =>
    show (yinG H G d n || (G n && decide (H d = Int32.ofNat n))) = true ↔ _
    rw [Bool.or_eq_true, ih, Bool.and_eq_true, decide_eq_true_eq]
    constructor
    · rintro (⟨h, h1, h2⟩ | ⟨h1, h2⟩)
      · exact ⟨h, by omega, h2⟩
      · exact ⟨n, by omega, h1, h2⟩
    · rintro ⟨h, h1, h2, h3⟩
      by_cases e : h = n
      · subst e; exact Or.inr ⟨h2, h3⟩
      · exact Or.inl ⟨h, by omega, h2, h3⟩
theorem yinG_cnt {H : Nat → Int32} {G : Nat → Bool} {nc : Nat} (n : Nat) (hn : n ≤ 6) : ycnt (fun d => yinG H G d n) nc = zsn (fun h => if G h = true then ygv H h nc else 0) n := by
  induction n with
  | zero =>
    show ycnt (fun d => false) nc = 0
    induction nc with
    | zero => rfl
    | succ nc ih => simp only [ycnt]; rw [ih]; rfl
  | succ n ih =>
    rw [ycnt_or (p := fun d => yinG H G d (n + 1)) (q := fun d => yinG H G d n) (r := fun d => G n && decide (H d = Int32.ofNat n)) (fun c _ => rfl) (fun c _ z => ?_), ih (by omega)]
    · show _ = zsn _ n + _
      congr 1
      show _ = if G n = true then ygv H n nc else 0
      by_cases e : G n = true
      · rw [if_pos e]
        unfold ygv
        exact ycnt_congr (fun c _ => by rw [e]; rfl)
      · rw [if_neg e]
        have e : G n = false := by simpa using e
        have key : ∀ k, ycnt (fun d => G n && decide (H d = Int32.ofNat n)) k = 0 := by
          intro k
          induction k with
          | zero => rfl
          | succ k ih => simp only [ycnt]; rw [ih, e]; rfl
        exact key nc
    · obtain ⟨h, h1, h2, h3⟩ := (yinG_iff n).mp z.1
      have z2 := z.2
      rw [Bool.and_eq_true, decide_eq_true_eq] at z2
      rw [h3] at z2
      have := (zi_eq (by omega) (by omega)).mp z2.2
      omega
theorem zsn_le {G : Nat → Bool} {g : Nat → Nat} {m n : Nat} (h : ∀ c, c < n → g c ≤ m) : zsn (fun c => if G c = true then g c else 0) n ≤ m * ycnt G n := by
  induction n with
  | zero => exact Nat.zero_le _
  | succ n ih =>
    have i := ih (fun c hc => h c (by omega))
    have j := h n (by omega)
    simp only [zsn, ycnt]
    by_cases e : G n = true
    · rw [if_pos e, if_pos e, Nat.mul_add, Nat.mul_one]; omega
    · rw [if_neg e, if_neg e, Nat.add_zero]; omega
theorem zsn_ge {G : Nat → Bool} {g : Nat → Nat} {m n : Nat} (h : ∀ c, c < n → G c = true → m ≤ g c) : m * ycnt G n ≤ zsn (fun c => if G c = true then g c else 0) n := by
  induction n with
  | zero => exact Nat.le_refl _
  | succ n ih =>
    have i := ih (fun c hc => h c (by omega))
    have j := h n (by omega)
    simp only [zsn, ycnt]
    by_cases e : G n = true
    · have j := j e
      rw [if_pos e, if_pos e, Nat.mul_add, Nat.mul_one]; omega
    · rw [if_neg e, if_neg e, Nat.add_zero]; omega
/-- how it stands behind the clouds below c -/
def yMt (T : yT) (S : yA) (m : Nat) (H : Nat → Int32) (F c : Nat) : Prop :=
  yVal T S H ∧ (∀ d, d < T.nc → H d ≠ -1 → d < c ∧ S.state d = 1) ∧ (∀ h, h < T.nh → ygv H h T.nc ≤ m) ∧ F < 2 ^ T.nh ∧ yClo T S m H (fun h => F.testBit h = true) ∧ (∀ d, d < c → S.state d = 1 → H d = -1 → ∀ h, h < T.nh → ysv T S h d → F.testBit h = true)
def yall (H : Nat → Int32) (n : Nat) : Nat := ycnt (fun d => decide (H d ≠ -1)) n
section
variable {M : zMem} {T : yT} {S : yA}
theorem yMt.value {m F : Nat} {H : Nat → Int32} (h6 : T.nh ≤ 6) (h8 : T.nc ≤ 8) (h : yMt T S m H F T.nc) : yall H T.nc = ymin T S m (2 ^ T.nh) := by
  obtain ⟨v, a, c, fl, cl, f3⟩ := h
  have le8 : yall H T.nc ≤ 8 := Nat.le_trans (ycnt_le _) h8
  have sp : ∀ K : Nat, yall H T.nc = ycnt (fun d => yinG H (fun h => K.testBit h) d T.nh) T.nc + ycnt (fun d => yinG H (fun h => !K.testBit h) d T.nh) T.nc := by
    intro K
    refine ycnt_or (fun d hd => ?_) (fun d hd z => ?_)
    · rcases v d hd with e | ⟨h, hh, e, s⟩
      · have n1 : ∀ G, yinG H G d T.nh = false := fun G => by
          cases q : yinG H G d T.nh with
          | false => rfl
          | true =>
            obtain ⟨h, hh, -, e'⟩ := (yinG_iff _).mp q
            rw [e] at e'
            exact absurd e'.symm (zi_n1 (by omega))
        rw [n1, n1, e]; rfl
      · have ne : H d ≠ -1 := by rw [e]; exact zi_n1 (by omega)
        rw [decide_eq_true ne]
        cases kb : K.testBit h with
        | true =>
          rw [(yinG_iff (G := fun h => K.testBit h) T.nh).mpr ⟨h, hh, kb, e⟩]; rfl
        | false =>
          rw [(yinG_iff (G := fun h => !K.testBit h) T.nh).mpr ⟨h, hh, by rw [kb]; rfl, e⟩, Bool.or_true]
    · obtain ⟨h, hh, k1, e1⟩ := (yinG_iff _).mp z.1
      obtain ⟨h', hh', k2, e2⟩ := (yinG_iff _).mp z.2
      rw [e1] at e2
      have := (zi_eq (by omega) (by omega)).mp e2
      subst this
      have k1 : K.testBit h = true := k1
      have k2 : (!K.testBit h) = true := k2
      rw [k1] at k2
      cases k2
  apply Nat.le_antisymm
  · refine ymin_ge le8 _ (fun K hK => ?_)
    rw [sp K, yinG_cnt _ h6]
    unfold ycut
    refine Nat.add_le_add (zsn_le (fun h hh => c h hh)) (ycnt_mono (fun d hd z => ?_))
    obtain ⟨h, hh, k1, e1⟩ := (yinG_iff _).mp z
    have ne : H d ≠ -1 := by rw [e1]; exact zi_n1 (by omega)
    refine (ysk2_iff _).mpr ⟨h, hh, by simpa using k1, (a d hd ne).2, ?_⟩
    rcases v d hd with e | ⟨h', hh', e, s⟩
    · exact absurd e ne
    · rw [e1] at e
      have := (zi_eq (by omega) (by omega)).mp e
      subst this
      exact s
  · refine Nat.le_trans (ymin_le _ fl) ?_
    rw [sp F, yinG_cnt _ h6]
    unfold ycut
    refine Nat.add_le_add (zsn_ge (fun h hh k => cl.1 h hh k)) (ycnt_mono (fun d hd z => ?_))
    obtain ⟨h, hh, k1, st, sv⟩ := (ysk2_iff _).mp z
    rcases v d hd with e | ⟨h', hh', e, s⟩
    · have := f3 d hd st e h hh sv
      rw [this] at k1; cases k1
    · refine (yinG_iff _).mpr ⟨h', hh', ?_, e⟩
      cases kb : F.testBit h' with
      | false => rfl
      | true =>
        have := cl.2 d hd h' hh' kb e h hh sv
        rw [this] at k1; cases k1
theorem r_could (rs : yRS M 0 0 T S) {m : Nat} (em : T.most = Int32.ofNat m) (hm : m ≤ 9) (hm1 : 1 ≤ m) : zwp (mbd (
    mlp (σ := Int32) (β := Int32) zLF (fun s2 M3 =>
    if 8 ≤ s2 then
    some ((.inr s2), M3)
    else
    zob (mwr M3 245 s2 (-1)) (fun M7 =>
    some ((.inl (s2 + 1)), M7))) 0 M) (fun _ M5 =>
    mbd (
    mlp (σ := (Int32 × Int32)) (β := (Int32 × Int32)) zLF (fun s8 M9 =>
    zob (mrd M9 215 1) (fun v13 =>
    if v13 ≤ s8.2 then
    some ((.inr (s8.1, s8.2)), M9)
    else
    mlt (mup M9 213 55 0) (fun M14 =>
    mbd (m_X8_isUp 0 s8.2 M14) (fun v16 M15 =>
    if v16 = 0 then
    some ((.inl ((s8.1 + 0), (s8.2 + 1))), M15)
    else
    mbd (m_X8_finds 10 s8.2 M15) (fun v18 M17 =>
    if v18 = 0 then
    some ((.inl ((s8.1 + 0), (s8.2 + 1))), M17)
    else
    some ((.inl ((s8.1 + 1), (s8.2 + 1))), M17)))))) (0, 0) M5) (fun e10 M11 =>
    some (e10.1, M11)))) (fun r M' => r = Int32.ofNat (ymin T S m (2 ^ T.nh)) ∧ zfr yCo M M') := by
  have b1 := rs.tk.nc
  have b2 := rs.tk.nh
  have hfu : zLF = 100000 := rfl
  refine yfor (n := 8) (I := fun c M' => zfr yCo M M' ∧ ∀ k, k < c → M'.1 245 k = -1) ⟨zfr_refl, fun k hk => absurd hk (by omega)⟩ (by decide) ?_ (fun M' _ => if_pos (by decide)) (fun _ M1 z => ?_)
  · rintro c M1 hc ⟨f1, a1⟩
    rw [if_neg (yge hc (by decide)), mwr_of (k := 245) (j := c) (by show c < 8; omega) (by decide), zob_some]
    refine zwp_ret ⟨rfl, zfr_trans f1 (zfr_mup (Or.inr rfl)), fun k hk => ?_⟩
    by_cases e : k = c
    · subst e; exact mup_on
    · rw [mup_off' e]; exact a1 k (by omega)
  obtain ⟨f1, a1⟩ := z
  have v0 : yMt T S m (fun _ => -1) 0 0 := by
    have g0 : ∀ h, h < T.nh → ygv (fun _ => -1) h T.nc = 0 := fun h hh => by
      unfold ygv
      have key : ∀ k, ycnt (fun _ => decide ((-1 : Int32) = Int32.ofNat h)) k = 0 := by
        intro k
        induction k with
        | zero => rfl
        | succ k ih => simp only [ycnt]; rw [ih, decide_eq_false (fun z => zi_n1 (by omega) z.symm)]; rfl
      exact key T.nc
    refine ⟨fun c hc => Or.inl rfl, fun d hd ne => absurd rfl ne, fun h hh => by rw [g0 h hh]; omega, Nat.pow_pos (by decide), ⟨fun h hh z => by simp at z, fun d hd h hh z => by simp at z⟩, fun d hd => absurd hd (by omega)⟩
  have y0 : yall (fun _ => -1) T.nc = 0 := by
    unfold yall
    have key : ∀ k, ycnt (fun _ => decide ((-1 : Int32) ≠ -1)) k = 0 := by
      intro k
      induction k with
      | zero => rfl
      | succ k ih => simp only [ycnt]; rw [ih]; rfl
    exact key T.nc
  refine zwp_bd (Q' := fun b M' => zfr yCo M M' ∧ b.1 = Int32.ofNat (ymin T S m (2 ^ T.nh))) (zwp_for 0 T.nc (fun c st M' => zfr yCo M M' ∧ ∃ H F, st = (Int32.ofNat (yall H T.nc), Int32.ofNat c) ∧ (∀ d, d < T.nc → M'.1 245 d = H d) ∧ yMt T S m H F c) ?_ ?_ ⟨f1, fun _ => -1, 0, by rw [y0]; rfl, fun d hd => a1 d (by omega), v0⟩ (Nat.zero_le _) (by omega)) (fun b M' z => zwp_ret ⟨z.2, z.1⟩)
  · rintro c st M2 - hc ⟨f2, H, F, rfl, a2, mt⟩
    obtain ⟨v, a, cm, fl, cl, f3⟩ := mt
    have rs2 := rs.co f2
    rw [rs2.rt.rNc, zob_some, if_neg (show ¬ Int32.ofNat T.nc ≤ Int32.ofNat c from yge hc (by omega)), mlt_eq]
    have fz : zfr yCo M (mup M2 213 55 0) := zfr_trans f2 (zfr_mup (Or.inl ⟨rfl, rfl⟩))
    have kz : (mup M2 213 55 0).1 213 55 = Int32.ofNat 0 := mup_on
    have az : ∀ d, d < T.nc → (mup M2 213 55 0).1 245 d = H d := fun d hd => (mup_off (by decide)).trans (a2 d hd)
    generalize mup M2 213 55 0 = M3 at fz kz az ⊢
    have rs3 := rs.co fz
    have Hc : H c = -1 := by
      cases q : decide (H c = -1) with
      | true => exact of_decide_eq_true q
      | false => exact absurd (a c hc (of_decide_eq_false q)).1 (by omega)
    by_cases hu : S.state c = 1
    · rw [show m_X8_isUp 0 ((Int32.ofNat (yall H T.nc), Int32.ofNat c) : Int32 × Int32).2 M3 = some (1, M3) from r_isUp1 (a := 0) rs3 hc hu, mbd_some, if_neg (by decide)]
      have u0 : yun 0 T.nh < 10 := by
        have := ycnt_le (p := fun h => !(0 : Nat).testBit h) T.nh
        unfold yun
        omega
      refine zwp_bd (r_finds em hm 10 M3 H 0 c u0 rs3 kz (Nat.pow_pos (by decide)) az hc (Or.inl Hc)) ?_
      rintro r M4 ⟨f4, K4, k4, kl4, q⟩
      have f04 := zfr_trans fz f4
      rcases q with ⟨rfl, a4, no4, s4⟩ | ⟨rfl, H2, a4, y4⟩
      · rw [if_pos rfl]
        have kb : ∀ h, (F ||| K4).testBit h = (F.testBit h || K4.testBit h) := fun h => Nat.testBit_or _ _ _
        refine zwp_ret ⟨f04, H, F ||| K4, by rw [yi_nn]; show (Int32.ofNat (yall H T.nc) + 0, _) = _; rw [yad0], a4, v, fun d hd ne => ⟨by have := (a d hd ne).1; omega, (a d hd ne).2⟩, cm, Nat.or_lt_two_pow fl kl4, ⟨fun h hh z => ?_, fun d hd h hh z e h' hh' s => ?_⟩, fun d hd st e h hh s => ?_⟩
        · have z : (F ||| K4).testBit h = true := z
          rw [kb, Bool.or_eq_true] at z
          rcases z with z | z
          · exact cl.1 h hh z
          · exact (no4.2 h hh z (by simp)).1
        · have z : (F ||| K4).testBit h = true := z
          show (F ||| K4).testBit h' = true
          rw [kb, Bool.or_eq_true] at z ⊢
          rcases z with z | z
          · exact Or.inl (cl.2 d hd h hh z e h' hh' s)
          · exact Or.inr ((no4.2 h hh z (by simp)).2 d hd e h' hh' s)
        · rw [kb, Bool.or_eq_true]
          by_cases ed : d = c
          · subst ed; exact Or.inr (s4 h hh s)
          · exact Or.inl (f3 d (by omega) st e h hh s)
      · rw [if_neg (by decide)]
        obtain ⟨⟨x0, hx0, e0, s0⟩, y2, y3, ⟨e, he, le, ce⟩, y5⟩ := y4
        have q5 := y5 _ cl
        have ny : ∀ d, d < T.nc → d ≠ c → (H2 d = -1 ↔ H d = -1) := fun d hd ne => by
          constructor
          · intro z
            rcases y2 d hd ne with w | ⟨w, h, hh, eh, -⟩
            · rw [← w]; exact z
            · rw [eh] at z; exact absurd z (zi_n1 (by omega))
          · intro z
            rw [y3 d hd ne (Or.inl z)]; exact z
        have cnt : yall H2 T.nc = yall H T.nc + 1 := by
          unfold yall
          rw [ycnt_or (p := fun d => decide (H2 d ≠ -1)) (q := fun d => decide (H d ≠ -1)) (r := fun d => decide (d = c)) (fun d hd => ?_) (fun d hd z => ?_)]
          · congr 1
            rw [ycnt_one, if_pos hc]
          · by_cases ed : d = c
            · subst ed
              rw [decide_eq_true (show H2 d ≠ -1 by rw [e0]; exact zi_n1 (by omega)), decide_eq_true (rfl : d = d), Bool.or_true]
            · rw [decide_eq_false ed, Bool.or_false]
              have := ny d hd ed
              by_cases z : H d = -1
              · rw [decide_eq_false (show ¬ H2 d ≠ -1 from fun w => w (this.mpr z)), decide_eq_false (show ¬ H d ≠ -1 from fun w => w z)]
              · rw [decide_eq_true (show H2 d ≠ -1 from fun w => z (this.mp w)), decide_eq_true (show H d ≠ -1 from z)]
          · have z2 := of_decide_eq_true z.2
            subst z2
            exact of_decide_eq_true z.1 Hc
        refine zwp_ret ⟨f04, H2, F, by show (Int32.ofNat (yall H T.nc) + 1, Int32.ofNat c + 1) = _; rw [yi_nn, yi_nn, cnt], a4, fun d hd => ?_, fun d hd ne => ?_, fun h hh => ?_, fl, ⟨fun h hh z => ?_, fun d hd h hh z eh h' hh' s => ?_⟩, fun d hd st eh h hh s => ?_⟩
        · by_cases ed : d = c
          · subst ed; exact Or.inr ⟨x0, hx0, e0, s0⟩
          · rcases y2 d hd ed with w | ⟨w, q⟩
            · rw [w]; exact v d hd
            · exact Or.inr q
        · by_cases ed : d = c
          · subst ed; exact ⟨by omega, hu⟩
          · have := a d hd (fun z => ne ((ny d hd ed).mpr z))
            exact ⟨by omega, this.2⟩
        · have z := ce h hh
          rw [Hc, if_neg (fun w => zi_n1 (by omega) w.symm)] at z
          have z2 := cm h hh
          by_cases eh : h = e
          · subst eh; rw [if_pos rfl] at z; omega
          · rw [if_neg eh] at z; omega
        · have z2 := cl.1 h hh z
          have e1 : ygv H2 h T.nc = ygv H h T.nc := by
            unfold ygv
            refine ycnt_congr (fun d hd => ?_)
            by_cases ed : d = c
            · subst ed
              rw [Hc, decide_eq_false (show ¬ (-1 : Int32) = Int32.ofNat h from fun w => zi_n1 (a := h) (by omega) w.symm), decide_eq_false (show ¬ H2 d = Int32.ofNat h from fun w => q5.1 h hh w z)]
            · have w := q5.2 d hd ed
              by_cases e1 : H d = Int32.ofNat h
              · rw [w.1 h hh z e1]
              · rw [decide_eq_false e1, decide_eq_false (fun y => e1 (w.2 h hh z y))]
          rw [e1]
          exact z2
        · by_cases ed : d = c
          · subst ed; exact absurd z (q5.1 h hh eh)
          · exact cl.2 d hd h hh z ((q5.2 d hd ed).2 h hh z eh) h' hh' s
        · by_cases ed : d = c
          · subst ed
            rw [e0] at eh
            exact absurd eh (zi_n1 (a := x0) (by omega))
          · exact f3 d (by omega) st ((ny d (by omega) ed).mp eh) h hh s
    · rw [show m_X8_isUp 0 ((Int32.ofNat (yall H T.nc), Int32.ofNat c) : Int32 × Int32).2 M3 = some (0, M3) from r_isUp0 (a := 0) rs3 hc hu, mbd_some, if_pos rfl]
      refine zwp_ret ⟨fz, H, F, by rw [yi_nn]; show (Int32.ofNat (yall H T.nc) + 0, _) = _; rw [yad0], az, v, fun d hd ne => ⟨by have := (a d hd ne).1; omega, (a d hd ne).2⟩, cm, fl, cl, fun d hd st e h hh s => ?_⟩
      by_cases ed : d = c
      · subst ed; exact absurd st hu
      · exact f3 d (by omega) st e h hh s
  · rintro st M2 ⟨f2, H, F, rfl, a2, mt⟩
    rw [(rs.co f2).rt.rNc, zob_some, if_pos (show Int32.ofNat T.nc ≤ Int32.ofNat T.nc from Int32.le_refl _)]
    refine zwp_ret ⟨f2, ?_⟩
    show Int32.ofNat (yall H T.nc) = _
    rw [mt.value b2 b1]
/-! the class -/
theorem zorr_or {f g : Nat → Int32} {n : Nat} : zorr (fun c => f c ||| g c) n = zorr f n ||| zorr g n := by
  induction n with
  | zero => show (0 : Int32) = 0 ||| 0; decide
  | succ n ih =>
    simp only [zorr]
    rw [ih, Int32.or_assoc, Int32.or_assoc]
    congr 1
    rw [← Int32.or_assoc, Int32.or_comm (zorr g n) (f n), Int32.or_assoc]
theorem zorr_0 {n : Nat} : zorr (fun _ => 0) n = 0 := by
  induction n with
  | zero => rfl
  | succ n ih => simp only [zorr]; rw [ih]; decide
theorem yse_or {K : Nat} (n : Nat) : zorr (fun h => if K.testBit h = true then 0 else ysee S (S.pos h) (T.sight h) T.nc) n = zorr (fun c => if ysk2 T S K c n = true then ybit c else 0) T.nc := by
  induction n with
  | zero => exact zorr_0.symm
  | succ n ih =>
    show zorr (fun h => if K.testBit h = true then 0 else ysee S (S.pos h) (T.sight h) T.nc) n ||| (if K.testBit n = true then 0 else ysee S (S.pos n) (T.sight n) T.nc) = _
    rw [ih]
    by_cases e : K.testBit n = true
    · rw [if_pos e, yor0]
      refine zorr_congr (fun c hc => ?_)
      have : ysk2 T S K c (n + 1) = ysk2 T S K c n := by
        show (ysk2 T S K c n || (!K.testBit n && _)) = _
        rw [e]; simp
      rw [this]
    · rw [if_neg e]
      unfold ysee
      rw [← zorr_or]
      refine zorr_congr (fun c hc => ?_)
      have e : K.testBit n = false := by simpa using e
      have es : ysk2 T S K c (n + 1) = (ysk2 T S K c n || decide (S.state c = 1 ∧ ysv T S n c)) := by
        show (ysk2 T S K c n || (!K.testBit n && _)) = _
        rw [e]; rfl
      rw [es]
      by_cases z : S.state c = 1 ∧ ¬ T.sight n < yfar (S.pos n) (S.cell c)
      · rw [if_pos z, decide_eq_true z, Bool.or_true, if_pos rfl]
        split
        · exact Int32.or_self
        · exact Int32.zero_or
      · rw [if_neg z, decide_eq_false z, Bool.or_false, yor0]
theorem c_could {W : Nat → Int32} {t : Nat} (h : yI W M t T S) {m : Nat} (em : T.most = Int32.ofNat m) (hm : m ≤ 9) : m_X7_could M = some (Int32.ofNat (ymin T S m (2 ^ T.nh)), M) := by
  have b1 := h.cs.tk.nc
  have b2 := h.cs.tk.nh
  have p64 := ykb_64 T.nh (by omega)
  have hfu : zLF = 100000 := rfl
  refine zwp_out ?_
  unfold m_X7_could
  refine zwp_bd (Q' := fun b M' => b.1 = Int32.ofNat (ymin T S m (2 ^ T.nh)) ∧ M' = M) (zwp_for 0 (2 ^ T.nh) (fun k st M' => st = (Int32.ofNat (ymin T S m k), Int32.ofNat k) ∧ M' = M) ?_ ?_ ⟨rfl, rfl⟩ (Nat.zero_le _) (by omega)) ?_
  · rintro k st M1 - hk ⟨rfl, rfl⟩
    rw [mlt_eq, h.tp, h.cs.ct.nh, ykb_sh T.nh (by omega), if_neg (show ¬ Int32.ofNat (2 ^ T.nh) ≤ Int32.ofNat k by rw [zi_le (by omega) (by omega)]; omega)]
    refine zwp_bd (Q' := fun b M' => b.1 = zorr (fun h => if k.testBit h = true then 0 else ysee S (S.pos h) (T.sight h) T.nc) T.nh ∧ M' = M1) (zwp_for 0 T.nh (fun x st M' => st = (zorr (fun h => if k.testBit h = true then 0 else ysee S (S.pos h) (T.sight h) T.nc) x, Int32.ofNat x) ∧ M' = M1) ?_ ?_ ⟨rfl, rfl⟩ (Nat.zero_le _) (by omega)) ?_
    · rintro x st M2 - hx ⟨rfl, rfl⟩
      have t0 := ykb_t0 k (by omega) x (by omega)
      have es : zorr (fun h => if k.testBit h = true then 0 else ysee S (S.pos h) (T.sight h) T.nc) (x + 1) = zorr (fun h => if k.testBit h = true then 0 else ysee S (S.pos h) (T.sight h) T.nc) x ||| (if k.testBit x = true then 0 else ysee S (S.pos x) (T.sight x) T.nc) := rfl
      rw [mlt_eq, h.tp, h.cs.ct.nh, if_neg (show ¬ Int32.ofNat T.nh ≤ Int32.ofNat x from yge hx (by omega))]
      by_cases z : k.testBit x = true
      · rw [z] at t0
        rw [if_pos z, yor0] at es
        rw [if_neg (of_decide_eq_false t0)]
        exact zwp_ret ⟨by rw [es, yi_nn], rfl⟩
      · have z' : k.testBit x = false := by simpa using z
        rw [z'] at t0
        rw [if_neg z] at es
        rw [if_pos (of_decide_eq_true t0), c_seenBy h.cs hx, mbd_some]
        exact zwp_ret ⟨by rw [es, yi_nn], rfl⟩
    · rintro st M2 ⟨rfl, rfl⟩
      rw [mlt_eq, h.tp, h.cs.ct.nh, if_pos (show Int32.ofNat T.nh ≤ Int32.ofNat T.nh from Int32.le_refl _)]
      exact zwp_ret ⟨rfl, rfl⟩
    · rintro b M2 ⟨e1, rfl⟩
      rw [mlt_eq, h.tp, h.cs.ct.most, em, c_bitCount, mbd_some, c_bitCount, mbd_some, e1, yse_or, ybc_orr _ b1, ykb_cnt T.nh (by omega) k hk]
      have ec : zsum (fun c => if ysk2 T S k c T.nh = true then (1 : Int32) else 0) T.nc = Int32.ofNat (ycnt (fun c => ysk2 T S k c T.nh) T.nc) := by
        have key : ∀ n, zsum (fun c => if ysk2 T S k c T.nh = true then (1 : Int32) else 0) n = Int32.ofNat (ycnt (fun c => ysk2 T S k c T.nh) n) := by
          intro n
          induction n with
          | zero => rfl
          | succ n ih =>
            simp only [zsum, ycnt]
            rw [ih, Int32.ofNat_add]
            congr 1
            split <;> rfl
        exact key _
      rw [ec, ← Int32.ofNat_mul, ← Int32.ofNat_add]
      have l8 := ymin_8 (T := T) (S := S) (m := m) k
      have lc : ycut T S m k ≤ 9 * 6 + 8 := by
        unfold ycut
        have q1 := ycnt_le (p := fun h => k.testBit h) T.nh
        have q2 := ycnt_le (p := fun c => ysk2 T S k c T.nh) T.nc
        have q3 : m * ycnt (fun h => k.testBit h) T.nh ≤ 9 * 6 := Nat.mul_le_mul hm (by omega)
        omega
      have em2 : zmn (Int32.ofNat (ymin T S m k)) (Int32.ofNat (ycut T S m k)) = Int32.ofNat (ymin T S m (k + 1)) := by
        show _ = Int32.ofNat (if ycut T S m k < ymin T S m k then ycut T S m k else ymin T S m k)
        unfold zmn
        by_cases z : ycut T S m k < ymin T S m k
        · rw [if_pos ((zi_lt (by omega) (by omega)).mpr z), if_pos z]
        · rw [if_neg (fun w => z ((zi_lt (by omega) (by omega)).mp w)), if_neg z]
      refine zwp_ret ⟨?_, rfl⟩
      show (zmn (Int32.ofNat (ymin T S m k)) (Int32.ofNat (ycut T S m k)), Int32.ofNat k + 1) = _
      rw [em2, yi_nn]
  · rintro st M1 ⟨rfl, rfl⟩
    rw [mlt_eq, h.tp, h.cs.ct.nh, ykb_sh T.nh (by omega), if_pos (show Int32.ofNat (2 ^ T.nh) ≤ Int32.ofNat (2 ^ T.nh) from Int32.le_refl _)]
    exact zwp_ret ⟨rfl, rfl⟩
  · rintro b M1 ⟨e, rfl⟩
    exact zwp_ret ⟨e, rfl⟩
theorem p_could {W : Nat → Int32} {t : Nat} (h : yI W M t T S) : yPr W (m_X7_could M) m_X8_could := by
  obtain ⟨m, m1, m9, em⟩ := h.cs.tk.most
  refine yPr.ss (v := Int32.ofNat (ymin T S m (2 ^ T.nh))) h (zwp_eq (c_could h em m9) ⟨rfl, zfr_refl⟩) (fun M1 g => ?_)
  unfold m_X8_could
  rw [mlt_eq]
  refine zwp_mono (r_could (g.thr 0).rs em m9 m1) ?_
  rintro r M2 ⟨rfl, f⟩
  exact ⟨rfl, zfr_trans (zfr_mup (by unfold ySc; omega)) (zfr_weak f (by unfold yCo ySc; omega))⟩
end

/-! promise by promise: how likely rain is -/
theorem p5_le {n : Nat} (h : n ≤ 5) : 5 ^ n ≤ 3125 := Nat.le_trans (Nat.pow_le_pow_right (by decide) h) (by decide)
theorem p5_pos (n : Nat) : 0 < 5 ^ n := Nat.pow_pos (by decide)
theorem c_rowsOf (M : zMem) {k : Nat} (hk : k ≤ 5) : m_X1_rowsOf (Int32.ofNat k) M = some (Int32.ofNat (5 ^ k), M) := by
  have hfu : zLF = 100000 := rfl
  refine zwp_out ?_
  unfold m_X1_rowsOf
  refine zwp_bd (Q' := fun b M' => b.1 = Int32.ofNat (5 ^ k) ∧ M' = M) (zwp_for 0 k (fun c st M' => st = (Int32.ofNat (5 ^ c), Int32.ofNat c) ∧ M' = M) ?_ ?_ ⟨rfl, rfl⟩ (Nat.zero_le _) (by omega)) ?_
  · rintro c st M' - hc ⟨rfl, rfl⟩
    rw [if_neg (show ¬ Int32.ofNat k ≤ Int32.ofNat c from yge hc (by omega))]
    exact zwp_ret ⟨by rw [yi_nn, show (5 : Int32) = Int32.ofNat 5 from rfl, ← Int32.ofNat_mul, ← Nat.pow_succ], rfl⟩
  · rintro st M' ⟨rfl, rfl⟩
    rw [if_pos (show Int32.ofNat k ≤ Int32.ofNat k from Int32.le_refl _)]
    exact zwp_ret ⟨rfl, rfl⟩
  · rintro b M' ⟨e, rfl⟩
    exact zwp_ret ⟨e, rfl⟩
theorem fives_eq : m_X8_fives = m_X1_rowsOf := rfl
section
variable {T : yT} {S : yA} {o w : Int32} {c f : Nat}
theorem ywet_got {v : Int32} (S' : yA) (n : Nat) : (ywet1 T c v n S').got f = S'.got f ∨ (f = n ∧ (ywet1 T c v n S').got f = S'.got f + v) := by
  unfold ywet1
  by_cases e : f = n
  · subst e
    split
    · right
      refine ⟨rfl, ?_⟩
      split <;> exact yu_on
    · exact Or.inl rfl
  · left
    split
    · split <;> exact yu_off e
    · rfl
theorem ygot_wet {v : Nat} (n : Nat) : ∃ d, d ≤ v ∧ (n ≤ f → d = 0) ∧ (zfd (ywet1 T c (Int32.ofNat v)) n S).got f = S.got f + Int32.ofNat d := by
  induction n with
  | zero => exact ⟨0, Nat.zero_le _, fun _ => rfl, (yad0 _).symm⟩
  | succ n ih =>
    obtain ⟨d, d1, d2, d3⟩ := ih
    show ∃ d, _ ∧ _ ∧ (ywet1 T c (Int32.ofNat v) n (zfd (ywet1 T c (Int32.ofNat v)) n S)).got f = _
    rcases ywet_got (T := T) (c := c) (f := f) (v := Int32.ofNat v) (zfd (ywet1 T c (Int32.ofNat v)) n S) n with z | ⟨z1, z2⟩
    · exact ⟨d, d1, fun h => d2 (by omega), z.trans d3⟩
    · refine ⟨v, Nat.le_refl _, fun h => absurd h (by omega), ?_⟩
      have d0 := d2 (by omega)
      subst d0
      rw [z2, d3, show Int32.ofNat 0 = 0 from rfl, yad0]
theorem ygot_fall (h : yBz T S) (hc : c < T.nc) : ∃ d, d ≤ 20 ∧ (yfall1 T o c S).got f = S.got f + Int32.ofNat d := by
  unfold yfall1
  split
  · next e =>
    obtain ⟨k, k1, k2, k3⟩ := h c hc
    have k3 := k3 (by rw [e.1]; decide)
    obtain ⟨v, v1, v2⟩ := ybd_rng (ywo T o S 1 c) (m := k) (q := if k / 2 < 1 then 1 else k / 2) (by omega) (by split <;> omega)
    have v3 : yfv T o c S = Int32.ofNat v := by
      unfold yfv
      rw [k2, yhalf k (by omega)]
      exact v2
    rw [v3]
    obtain ⟨d, d1, d2, d3⟩ := ygot_wet (T := T) (S := S) (c := c) (f := f) (v := v) T.nf
    refine ⟨d, by omega, ?_⟩
    rw [← d3]
    unfold ydry
    split <;> rfl
  · exact ⟨0, by omega, (yad0 _).symm⟩
theorem ygot_pass (tk : yTok T) (h : yBd T S) : ∃ d, d ≤ 160 ∧ (ypass T o w S).got f = S.got f + Int32.ofNat d := by
  have b1 := tk.nc
  obtain ⟨h0, h1, h2⟩ := h
  have z1 : yBz T (zfd (ybear1 T) T.nc S) := zfd_ind (fun _ S => yBz T S) h1 (fun c S _ q => ybz_bear q)
  have z2 : yBz T (zfd (ydrift1 w) T.nc (zfd (ybear1 T) T.nc S)) := zfd_ind (fun _ S => yBz T S) z1 (fun c S _ q => ybz_drift q)
  have z3 : yBz T (zfd (ygrow1 T o) T.nc (zfd (ydrift1 w) T.nc (zfd (ybear1 T) T.nc S))) := zfd_ind (fun _ S => yBz T S) z2 (fun c S hc q => ybz_grow q hc)
  have g3 : (zfd (ygrow1 T o) T.nc (zfd (ydrift1 w) T.nc (zfd (ybear1 T) T.nc S))).got = S.got := by
    rw [zfd_keep yA.got (fun _ _ => yg_grow), zfd_keep yA.got (fun _ _ => yg_drift), zfd_keep yA.got (fun _ _ => yg_bear)]
  have e : ypass T o w S = yhour (zfd yage1 T.nc (zfd (ymark1 T o) T.nh (zfd (ygive1 T) T.nc (zfd (yfall1 T o) T.nc ((if o = 4 then id else zfd (yjoin1 T.nc) T.nc) (zfd (ygrow1 T o) T.nc (zfd (ydrift1 w) T.nc (zfd (ybear1 T) T.nc S)))))))) := rfl
  rw [e]
  generalize zfd (ygrow1 T o) T.nc (zfd (ydrift1 w) T.nc (zfd (ybear1 T) T.nc S)) = S3 at z3 g3 ⊢
  have z4 : yBz T ((if o = 4 then id else zfd (yjoin1 T.nc) T.nc) S3) := by
    split
    · exact z3
    · exact zfd_ind (fun _ S => yBz T S) z3 (fun c S hc q => ybz_join q hc)
  have g4 : ((if o = 4 then id else zfd (yjoin1 T.nc) T.nc) S3).got = S.got := by
    split
    · exact g3
    · rw [zfd_keep yA.got (fun _ _ => yg_join)]; exact g3
  generalize (if o = 4 then id else zfd (yjoin1 T.nc) T.nc) S3 = S4 at z4 g4 ⊢
  have z5 : (yBz T (zfd (yfall1 T o) T.nc S4) ∧ yBg T (zfd (yfall1 T o) T.nc S4) (160 * S.hour + 20 * T.nc)) ∧ ∃ d, d ≤ 20 * T.nc ∧ (zfd (yfall1 T o) T.nc S4).got f = S.got f + Int32.ofNat d := zfd_ind (fun c S' => (yBz T S' ∧ yBg T S' (160 * S.hour + 20 * c)) ∧ ∃ d, d ≤ 20 * c ∧ S'.got f = S.got f + Int32.ofNat d) ⟨⟨z4, by intro f hf; rw [g4]; exact h2 f hf⟩, 0, by omega, by rw [g4]; exact (yad0 _).symm⟩ (fun c S' hc q => by
    have q1 := ybz_fall (o := o) q.1.1 q.1.2 hc
    rw [show 160 * S.hour + 20 * c + 20 = 160 * S.hour + 20 * (c + 1) by omega] at q1
    obtain ⟨d, d1, d2⟩ := q.2
    obtain ⟨d', d1', d2'⟩ := ygot_fall (o := o) (f := f) q.1.1 hc
    exact ⟨q1, d + d', by omega, by rw [d2', d2, Int32.add_assoc, ← Int32.ofNat_add]⟩)
  obtain ⟨-, d, d1, d2⟩ := z5
  refine ⟨d, by omega, ?_⟩
  rw [← d2]
  show (zfd yage1 T.nc _).got f = _
  rw [zfd_keep yA.got (fun _ _ => yg_age.1), zfd_keep yA.got (fun _ _ => yg_mark.1), zfd_keep yA.got (fun _ _ => yg_give.1)]
end
/-- what a field got, as a number -/
def yg (S : yA) (f : Nat) : Nat := (S.got f).toNatClampNeg
section
variable {T : yT} {S : yA} {w : Int32} {f : Nat}
theorem yg_e (h : yBd T S) (hf : f < T.nf) (hh : S.hour < 10000) : S.got f = Int32.ofNat (yg S f) ∧ yg S f ≤ 160 * S.hour := by
  obtain ⟨g, g1, g2⟩ := h.2.2 f hf
  unfold yg
  rw [g2, zi_cl (by omega)]
  exact ⟨rfl, g1⟩
theorem yg_mono (tk : yTok T) (h : yBd T S) (hf : f < T.nf) (hh : S.hour < 9999) : yg S f ≤ yg (ypass T 0 w S) f := by
  obtain ⟨d, d1, d2⟩ := ygot_pass (o := 0) (w := w) (f := f) tk h
  obtain ⟨e1, e2⟩ := yg_e h hf (by omega)
  rw [e1, ← Int32.ofNat_add] at d2
  have : yg (ypass T 0 w S) f = yg S f + d := by
    unfold yg at d2 ⊢
    rw [d2]
    exact zi_cl (by unfold yg at e2; omega)
  omega
theorem yg_lt {S' : yA} (h : yBd T S) (h' : yBd T S') (hf : f < T.nf) (hh : S.hour < 10000) (hh' : S'.hour < 10000) : (S'.got f ≤ S.got f) ↔ ¬ yg S f < yg S' f := by
  obtain ⟨e1, e2⟩ := yg_e h hf hh
  obtain ⟨e1', e2'⟩ := yg_e h' hf hh'
  rw [e1, e1', zi_le (by omega) (by omega)]
  omega
end
def zsn (F : Nat → Nat) : Nat → Nat
  | 0 => 0
  | n + 1 => zsn F n + F n
theorem zsn_congr {F G : Nat → Nat} {n : Nat} (h : ∀ c, c < n → F c = G c) : zsn F n = zsn G n := by
  induction n with
  | zero => rfl
  | succ n ih => simp only [zsn]; rw [ih (fun c hc => h c (by omega)), h n (by omega)]
def ylikF (T : yT) (f n : Nat) (R : yA → Nat) (S : yA) (w : Nat) : Nat := if yg S f < yg (ypass T 0 (Int32.ofNat w) S) f then 5 ^ n else R (ypass T 0 (Int32.ofNat w) S)
def ylik (T : yT) (f : Nat) : Nat → yA → Nat
  | 0, _ => 0
  | n + 1, S => zsn (ylikF T f n (ylik T f n) S) 5
def yrun (T : yT) : Nat → Nat → yA → yA
  | 0, _, S => S
  | n + 1, c, S => yrun T n (c / 5) (ypass T 0 (Int32.ofNat (c % 5)) S)
def ycnt (p : Nat → Bool) : Nat → Nat
  | 0 => 0
  | n + 1 => ycnt p n + (if p n = true then 1 else 0)
theorem ycnt_congr {p q : Nat → Bool} {n : Nat} (h : ∀ c, c < n → p c = q c) : ycnt p n = ycnt q n := by
  induction n with
  | zero => rfl
  | succ n ih => simp only [ycnt]; rw [ih (fun c hc => h c (by omega)), h n (by omega)]
theorem ycnt_all {p : Nat → Bool} {n : Nat} (h : ∀ c, c < n → p c = true) : ycnt p n = n := by
  induction n with
  | zero => rfl
  | succ n ih => simp only [ycnt]; rw [ih (fun c hc => h c (by omega)), if_pos (h n (by omega))]
theorem ycnt_le {p : Nat → Bool} (n : Nat) : ycnt p n ≤ n := by
  induction n with
  | zero => exact Nat.le_refl _
  | succ n ih => simp only [ycnt]; split <;> omega
theorem ycnt_5 {p : Nat → Bool} (m : Nat) : ycnt p (5 * m) = zsn (fun w => ycnt (fun q => p (5 * q + w)) m) 5 := by
  induction m with
  | zero => rfl
  | succ m ih =>
    rw [show 5 * (m + 1) = 5 * m + 1 + 1 + 1 + 1 + 1 by omega]
    simp only [ycnt, ih, zsn, Nat.add_zero]
    omega
section
variable {T : yT} {f : Nat}
theorem yrun_bd (tk : yTok T) : ∀ (n c : Nat) (S : yA), yBd T S → yBd T (yrun T n c S) ∧ (yrun T n c S).hour = S.hour + n := by
  intro n
  induction n with
  | zero => intro c S h; exact ⟨h, rfl⟩
  | succ n ih =>
    intro c S h
    have := ih (c / 5) (ypass T 0 (Int32.ofNat (c % 5)) S) (ypass_bd tk h)
    refine ⟨this.1, this.2.trans ?_⟩
    rw [ypass_hour]
    omega
theorem yrun_mono (tk : yTok T) (hf : f < T.nf) : ∀ (n c : Nat) (S : yA), yBd T S → S.hour + n < 9999 → yg S f ≤ yg (yrun T n c S) f := by
  intro n
  induction n with
  | zero => intro c S h hh; exact Nat.le_refl _
  | succ n ih =>
    intro c S h hh
    refine Nat.le_trans (yg_mono tk h hf (by omega)) (ih (c / 5) _ (ypass_bd tk h) ?_)
    rw [ypass_hour]
    omega
theorem ylik_cnt (tk : yTok T) (hf : f < T.nf) : ∀ (n : Nat) (S : yA), yBd T S → S.hour + n < 9999 → ylik T f n S = ycnt (fun c => decide (yg S f < yg (yrun T n c S) f)) (5 ^ n) := by
  intro n
  induction n with
  | zero =>
    intro S h hh
    show 0 = 0 + (if decide (yg S f < yg S f) = true then 1 else 0)
    rw [if_neg (by simp)]
  | succ n ih =>
    intro S h hh
    rw [Nat.pow_succ, Nat.mul_comm, ycnt_5]
    show zsn (ylikF T f n (ylik T f n) S) 5 = _
    refine zsn_congr (fun w hw => ?_)
    have hb := ypass_bd (o := 0) (w := Int32.ofNat w) tk h
    have hh' : (ypass T 0 (Int32.ofNat w) S).hour = S.hour + 1 := ypass_hour _ _ _ _
    have er : ∀ q, yrun T (n + 1) (5 * q + w) S = yrun T n q (ypass T 0 (Int32.ofNat w) S) := fun q => by
      show yrun T n ((5 * q + w) / 5) (ypass T 0 (Int32.ofNat ((5 * q + w) % 5)) S) = _
      rw [show (5 * q + w) / 5 = q by omega, show (5 * q + w) % 5 = w by omega]
    have mo := yg_mono (w := Int32.ofNat w) tk h hf (by omega)
    unfold ylikF
    by_cases z : yg S f < yg (ypass T 0 (Int32.ofNat w) S) f
    · rw [if_pos z, ycnt_all]
      intro q _
      rw [er]
      have := yrun_mono tk hf n q _ hb (by omega)
      exact decide_eq_true (by omega)
    · rw [if_neg z, ih _ hb (by omega)]
      refine ycnt_congr (fun q _ => ?_)
      rw [er, show yg (ypass T 0 (Int32.ofNat w) S) f = yg S f by omega]
theorem ylik_le (n : Nat) : ∀ S, ylik T f n S ≤ 5 ^ n := by
  induction n with
  | zero => intro S; exact Nat.zero_le _
  | succ n ih =>
    intro S
    have hF : ∀ w, ylikF T f n (ylik T f n) S w ≤ 5 ^ n := fun w => by
      unfold ylikF
      split
      · exact Nat.le_refl _
      · exact ih _
    show 0 + ylikF T f n (ylik T f n) S 0 + ylikF T f n (ylik T f n) S 1 + ylikF T f n (ylik T f n) S 2 + ylikF T f n (ylik T f n) S 3 + ylikF T f n (ylik T f n) S 4 ≤ _
    rw [Nat.pow_succ]
    have h0 := hF 0
    have h1 := hF 1
    have h2 := hF 2
    have h3 := hF 3
    have h4 := hF 4
    omega
end
theorem ysp_path : ∀ d, d < 6 → ySP (99 + 19 * d) := by unfold ySP; decide
theorem mpt_of {d : Nat} (h : d < 6) : mpt (Int32.ofNat d) = some (99 + 19 * d) := by
  unfold mpt
  rw [zi_cl (by omega), if_neg]
  rintro (e | e)
  · exact zi_nn (by omega) e
  · omega
section
variable {W : Nat → Int32} {M : zMem} {t : Nat} {T : yT} {S : yA}
theorem c_rowsFrom (tk : yTok T) {f n : Nat} (hf : f < T.nf) (hn : n ≤ 5) : ∀ (j fuel d : Nat) (S : yA) (M : zMem), d + j = n → j < fuel → yCS M (99 + 19 * d) t 0 T S → yBd T S → S.hour + j < 5000 → zwp (m_X1_rowsFrom fuel (Int32.ofNat d) (Int32.ofNat f) (Int32.ofNat n) M) (fun r M' => r = Int32.ofNat (ylik T f j S) ∧ zfr (fun k _ => 99 + 19 * (d + 1) ≤ k ∧ k < 213) M M') := by
  intro j
  induction j with
  | zero =>
    intro fuel d S M hd hfu h hb hh
    obtain ⟨fu, rfl⟩ : ∃ fu, fuel = fu + 1 := ⟨fuel - 1, by omega⟩
    show zwp (mb_X1_rowsFrom _ _ _ _ _) _
    unfold mb_X1_rowsFrom
    rw [if_neg (by rw [zi_lt (by omega) (by omega)]; omega)]
    exact zwp_ret ⟨rfl, zfr_refl⟩
  | succ j ih =>
    intro fuel d S M hd hfu h hb hh
    obtain ⟨fu, rfl⟩ : ∃ fu, fuel = fu + 1 := ⟨fuel - 1, by omega⟩
    show zwp (mb_X1_rowsFrom _ _ _ _ _) _
    unfold mb_X1_rowsFrom
    rw [if_pos (by rw [zi_lt (by omega) (by omega)]; omega), yi_nn, mpt_of (by omega), zob_some]
    refine zwp_bd (Q' := fun b M' => b.1 = Int32.ofNat (ylik T f (j + 1) S) ∧ zfr (fun k _ => 99 + 19 * (d + 1) ≤ k ∧ k < 213) M M') (zwp_for 0 5 (fun w st M' => st = (Int32.ofNat (zsn (ylikF T f j (ylik T f j) S) w), Int32.ofNat w) ∧ zfr (fun k _ => 99 + 19 * (d + 1) ≤ k ∧ k < 213) M M') ?_ ?_ ⟨rfl, zfr_refl⟩ (by decide) (by decide)) (fun b M' z => zwp_ret z)
    · rintro w st M1 - hw ⟨rfl, f1⟩
      have h1 : yCS M1 (99 + 19 * d) t 0 T S := h.keep f1 (by omega)
      rw [if_neg (show ¬ (5 : Int32) ≤ Int32.ofNat w from yge hw (by decide)), mpt_of (by omega), zob_some]
      refine zwp_bd (c_copy (s := 99 + 19 * (d + 1)) (s' := 99 + 19 * d) h1 (ysp_path _ (by omega)) (by omega)) ?_
      rintro _ M2 ⟨c2, f2⟩
      refine zwp_bd (c_pass c2 _) ?_
      rintro _ M3 ⟨c3, f3⟩
      have f13 : zfr (fun k _ => 99 + 19 * (d + 1) ≤ k ∧ k < 213) M1 M3 := zfr_weak (zfr_trans f2 f3) (by unfold yTC; omega)
      have h3 : yCS M3 (99 + 19 * d) t 0 T S := h1.keep f13 (by omega)
      have hb' := ypass_bd (o := 0) (w := Int32.ofNat w) tk hb
      have hh' : (ypass T 0 (Int32.ofNat w) S).hour = S.hour + 1 := ypass_hour _ _ _ _
      have lt := yg_lt hb hb' hf (by omega) (by omega)
      have es : zsn (ylikF T f j (ylik T f j) S) (w + 1) = zsn (ylikF T f j (ylik T f j) S) w + ylikF T f j (ylik T f j) S w := rfl
      rw [c3.rGot hf, zob_some, zob_some, h3.rGot hf, zob_some]
      by_cases z : yg S f < yg (ypass T 0 (Int32.ofNat w) S) f
      · have ef : ylikF T f j (ylik T f j) S w = 5 ^ j := if_pos z
        rw [if_neg (fun q => lt.mp q z), yi_sub (by omega), yi_m1 (by omega), show n - d - 1 = j by omega, c_rowsOf _ (by omega), mbd_some]
        exact zwp_ret ⟨by rw [es, ef, Int32.ofNat_add, yi_nn], zfr_trans f1 f13⟩
      · have ef : ylikF T f j (ylik T f j) S w = ylik T f j (ypass T 0 (Int32.ofNat w) S) := if_neg z
        rw [if_pos (lt.mpr z)]
        refine zwp_bd (ih fu (d + 1) (ypass T 0 (Int32.ofNat w) S) M3 (by omega) (by omega) c3 hb' (by omega)) ?_
        rintro r M4 ⟨rfl, f4⟩
        exact zwp_ret ⟨by rw [es, ef, Int32.ofNat_add, yi_nn], zfr_trans f1 (zfr_trans f13 (zfr_weak f4 (by omega)))⟩
    · rintro st M1 ⟨rfl, f1⟩
      rw [if_pos (show (5 : Int32) ≤ Int32.ofNat 5 by decide)]
      exact zwp_ret ⟨rfl, f1⟩
theorem y_common {x y : Nat} (hx : x < 50000) (hy : y < 50000) : m_X8_common (Int32.ofNat x) (Int32.ofNat y) M = some (Int32.ofNat (Nat.gcd x y), M) := by
  refine zwp_out ?_
  unfold m_X8_common
  refine zwp_bd (Q' := fun b M' => b.1 = Int32.ofNat (Nat.gcd x y) ∧ M' = M) (zwp_lp (fun d s M' => ∃ a, a < 50000 ∧ d < 50000 ∧ s = (Int32.ofNat a, Int32.ofNat d) ∧ M' = M ∧ Nat.gcd a d = Nat.gcd x y) ?_ y _ M ⟨x, hx, hy, rfl, rfl, rfl⟩ (by have : zLF = 100000 := rfl; omega)) ?_
  · rintro d s M' ⟨a, ha, hd, rfl, rfl, hg⟩
    by_cases e : d = 0
    · subst e
      rw [if_pos (show Int32.ofNat 0 = 0 from rfl)]
      rw [Nat.gcd_zero_right] at hg
      exact zwp_ret ⟨by rw [← hg], rfl⟩
    · have nz : ¬ Int32.ofNat d = 0 := by rw [show (0 : Int32) = Int32.ofNat 0 from rfl, zi_eq (by omega) (by omega)]; exact e
      have lt : a % d < d := Nat.mod_lt _ (Nat.pos_of_ne_zero e)
      rw [if_neg nz]
      unfold zrp
      rw [if_neg nz, zob_some, yrm_of (by omega) (by omega)]
      exact zwp_ret ⟨a % d, lt, d, hd, by omega, rfl, rfl, by rw [← hg, Nat.gcd_comm d, ← Nat.gcd_rec, Nat.gcd_comm]⟩
  · rintro b M' ⟨e, rfl⟩
    exact zwp_ret ⟨e, rfl⟩
theorem y_gcd5 {A B a n i : Nat} (hA : A = a * 5 ^ i) (hB : B = 5 ^ n) (hi : i ≤ n) (h : i = n ∨ ¬ a % 5 = 0) : Nat.gcd A B = 5 ^ i := by
  have e : 5 ^ n = 5 ^ (n - i) * 5 ^ i := by rw [← Nat.pow_add]; congr 1; omega
  rw [hA, hB, e, Nat.gcd_mul_right]
  have g : Nat.gcd a (5 ^ (n - i)) = 1 := by
    rcases h with h | h
    · rw [h, Nat.sub_self]; exact Nat.gcd_one_right _
    · refine Nat.Coprime.pow_right _ ?_
      show Nat.gcd a 5 = 1
      rw [Nat.gcd_comm, Nat.gcd_rec]
      rcases (show a % 5 = 1 ∨ a % 5 = 2 ∨ a % 5 = 3 ∨ a % 5 = 4 by omega) with z | z | z | z <;> rw [z] <;> decide
  rw [g, Nat.one_mul]
theorem c_likely (h : yI W M t T S) {f n : Nat} (hf : f < T.nf) (hn1 : 1 ≤ n) (hn : n ≤ 5) (d : Int32) : zwp (mbd (m_X1_rowsWithRain 42 (Int32.ofNat f) (Int32.ofNat n) M) (fun v10 M9 =>
    mbd (m_X1_rowsOf (Int32.ofNat n) M9) (fun v12 M11 =>
    mbd (
    mlp (σ := (Int32 × Int32 × Int32)) (β := (Int32 × Int32 × Int32)) zLF (fun s13 M14 =>
    if (Int32.ofNat n) ≤ s13.2.2 then
    some ((.inr (s13.1, s13.2.1, s13.2.2)), M14)
    else
    if (zrm s13.1 5) = 0 then
    some ((.inl ((s13.1 / 5), (s13.2.1 / 5), (s13.2.2 + 1))), M14)
    else
    some ((.inr (s13.1, s13.2.1, s13.2.2)), M14)) (v10, v12, 0) M11) (fun e15 M16 =>
    if d = 0 then
    some (e15.1, M16)
    else
    some (e15.2.1, M16))))) (fun r M' => r = (if d = 0 then Int32.ofNat (ylik T f n S / Nat.gcd (ylik T f n S) (5 ^ n)) else Int32.ofNat (5 ^ n / Nat.gcd (ylik T f n S) (5 ^ n))) ∧ zfr ySc M M') := by
  have hr := h.hr
  have hfu : zLF = 100000 := rfl
  have l1 := p5_le hn
  have l2 := ylik_le (T := T) (f := f) n S
  unfold m_X1_rowsWithRain
  refine zwp_bd (Q' := fun r M' => r = Int32.ofNat (ylik T f n S) ∧ zfr ySc M M') ?_ ?_
  · rw [show (0 : Int32) = Int32.ofNat 0 from rfl, mpt_of (by decide), zob_some]
    refine zwp_bd (c_copy (s := 99 + 19 * 0) (s' := 42) h.cs (ysp_path 0 (by decide)) (by decide)) ?_
    rintro _ M1 ⟨c1, f1⟩
    rw [show zmn (Int32.ofNat n) 5 = Int32.ofNat n by
      unfold zmn
      rw [show (5 : Int32) = Int32.ofNat 5 from rfl]
      by_cases e : n = 5
      · rw [e]; rfl
      · rw [if_neg (by rw [zi_lt (by omega) (by omega)]; omega)]]
    refine zwp_bd (c_rowsFrom h.cs.tk hf hn n 8 0 S M1 (by omega) (by omega) c1 h.bd (by omega)) ?_
    rintro r M2 ⟨rfl, f2⟩
    exact zwp_ret ⟨rfl, zfr_trans (zfr_weak f1 (by unfold yTC ySc; omega)) (zfr_weak f2 (by unfold ySc; omega))⟩
  · rintro r M1 ⟨rfl, f1⟩
    generalize ylik T f n S = A at l2 ⊢
    rw [c_rowsOf _ hn, mbd_some]
    refine zwp_bd (Q' := fun b M' => M' = M1 ∧ ∃ a i, i ≤ n ∧ A = a * 5 ^ i ∧ (i = n ∨ ¬ a % 5 = 0) ∧ b.1 = Int32.ofNat a ∧ b.2.1 = Int32.ofNat (5 ^ (n - i))) (zwp_for 0 n (fun i st M' => M' = M1 ∧ ∃ a, A = a * 5 ^ i ∧ st = (Int32.ofNat a, Int32.ofNat (5 ^ (n - i)), Int32.ofNat i)) ?_ ?_ ⟨rfl, A, by omega, rfl⟩ (Nat.zero_le _) (by omega)) ?_
    · rintro i st M2 - hi ⟨rfl, a, ha, rfl⟩
      have pi := p5_pos i
      have la : a ≤ A := by rw [ha]; exact Nat.le_mul_of_pos_right _ pi
      rw [if_neg (show ¬ Int32.ofNat n ≤ Int32.ofNat i from yge hi (by omega))]
      have er : zrm (Int32.ofNat a) 5 = Int32.ofNat (a % 5) := yrm5 (by omega)
      have ez : (zrm (Int32.ofNat a) 5 = 0) ↔ a % 5 = 0 := by
        rw [er, show (0 : Int32) = Int32.ofNat 0 from rfl, zi_eq (by omega) (by omega)]
      have pn := p5_le (n := n - i) (by omega)
      by_cases z : a % 5 = 0
      · rw [if_pos (show zrm (Int32.ofNat a) 5 = 0 from ez.mpr z)]
        refine zwp_ret ⟨rfl, a / 5, ?_, ?_⟩
        · rw [ha, Nat.pow_succ, Nat.mul_comm (5 ^ i) 5, ← Nat.mul_assoc, show a / 5 * 5 = a by omega]
        · rw [yi_nn, ydv5 (by omega), ydv5 (by omega), show n - i = (n - (i + 1)) + 1 by omega, Nat.pow_succ, Nat.mul_div_cancel _ (by decide)]
      · rw [if_neg (show ¬ zrm (Int32.ofNat a) 5 = 0 from fun q => z (ez.mp q))]
        exact zwp_ret ⟨rfl, a, i, by omega, ha, Or.inr z, rfl, rfl⟩
    · rintro st M2 ⟨rfl, a, ha, rfl⟩
      rw [if_pos (show Int32.ofNat n ≤ Int32.ofNat n from Int32.le_refl _)]
      exact zwp_ret ⟨rfl, a, n, Nat.le_refl _, ha, Or.inl rfl, rfl, rfl⟩
    · rintro b M2 ⟨rfl, a, i, hi, ha, hor, e1, e2⟩
      have pi := p5_pos i
      have eg : Nat.gcd A (5 ^ n) = 5 ^ i := y_gcd5 ha rfl hi hor
      have q1 : A / 5 ^ i = a := by rw [ha]; exact Nat.mul_div_cancel _ pi
      have q2 : 5 ^ n / 5 ^ i = 5 ^ (n - i) := by
        rw [show 5 ^ n = 5 ^ (n - i) * 5 ^ i by rw [← Nat.pow_add]; congr 1; omega]
        exact Nat.mul_div_cancel _ pi
      rw [eg, q1, q2, e1, e2]
      by_cases d0 : d = 0
      · rw [if_pos d0, if_pos d0]; exact zwp_ret ⟨rfl, f1⟩
      · rw [if_neg d0, if_neg d0]; exact zwp_ret ⟨rfl, f1⟩
theorem r_likely (h : yI W M t T S) {f n : Nat} (hf : f < T.nf) (hn1 : 1 ≤ n) (hn : n ≤ 5) (d : Int32) : zwp (mbd (m_X8_fives (Int32.ofNat n) M) (fun v5 M4 =>
    mbd (
    mlp (σ := (Int32 × Int32)) (β := (Int32 × Int32)) zLF (fun s6 M7 =>
    if v5 ≤ s6.2 then
    some ((.inr (s6.1, s6.2)), M7)
    else
    mbd (m_X8_copies 1 0 M7) (fun _ M10 =>
    mbd (
    mlp (σ := (Int32 × Int32)) (β := (Int32 × Int32)) zLF (fun s12 M13 =>
    if (Int32.ofNat n) ≤ s12.2 then
    some ((.inr (s12.1, s12.2)), M13)
    else
    mlt (mup M13 213 51 (zrm s12.1 5)) (fun M16 =>
    mbd (m_X8_passes 1 M16) (fun _ M17 =>
    some ((.inl ((s12.1 / 5), (s12.2 + 1))), M17)))) (s6.2, 0) M10) (fun _ M15 =>
    mlt (mup M15 213 51 (-1)) (fun M19 =>
    zob (mrd M19 243 (5 + (Int32.ofNat f))) (fun v21 =>
    zob (mrd M19 243 (Int32.ofNat f)) (fun v23 =>
    if v21 ≤ v23 then
    some ((.inl ((s6.1 + 0), (s6.2 + 1))), M19)
    else
    some ((.inl ((s6.1 + 1), (s6.2 + 1))), M19))))))) (0, 0) M4) (fun e8 M9 =>
    mbd (m_X8_common e8.1 v5 M9) (fun v25 M24 =>
    if d = 0 then
    zob (zdv e8.1 v25) (fun v26 =>
    some (v26, M24))
    else
    zob (zdv v5 v25) (fun v27 =>
    some (v27, M24)))))) (fun r M' => r = (if d = 0 then Int32.ofNat (ylik T f n S / Nat.gcd (ylik T f n S) (5 ^ n)) else Int32.ofNat (5 ^ n / Nat.gcd (ylik T f n S) (5 ^ n))) ∧ zfr ySc M M') := by
  have hr := h.hr
  have hfu : zLF = 100000 := rfl
  have l1 := p5_le hn
  have b3 := h.cs.tk.nf
  have tk := h.cs.tk
  rw [fives_eq, c_rowsOf _ hn, mbd_some, ylik_cnt tk hf n S h.bd (by omega)]
  refine zwp_bd (Q' := fun b M' => b.1 = Int32.ofNat (ycnt (fun c => decide (yg S f < yg (yrun T n c S) f)) (5 ^ n)) ∧ zfr ySc M M') (zwp_for 0 (5 ^ n) (fun c st M' => st = (Int32.ofNat (ycnt (fun c => decide (yg S f < yg (yrun T n c S) f)) c), Int32.ofNat c) ∧ zfr ySc M M') ?_ ?_ ⟨rfl, zfr_refl⟩ (Nat.zero_le _) (by omega)) ?_
  · rintro c st M1 - hc ⟨rfl, f1⟩
    have h1 := h.keep f1
    rw [if_neg (show ¬ Int32.ofNat (5 ^ n) ≤ Int32.ofNat c by rw [zi_le (by omega) (by omega)]; omega)]
    refine zwp_bd (r_copies (to := 1) (sl := 0) h1.rs (by omega) (by omega)) ?_
    rintro _ M2 ⟨r2, f2⟩
    refine zwp_bd (Q' := fun _ M' => yRS M' 1 0 T (yrun T n c S) ∧ zfr (fun k i => ySc k i ∨ (k = 213 ∧ i = 51)) M M') (zwp_for 0 n (fun k st M' => ∃ S', st = (Int32.ofNat (c / 5 ^ k), Int32.ofNat k) ∧ yRS M' 1 0 T S' ∧ S'.hour = S.hour + k ∧ yrun T (n - k) (c / 5 ^ k) S' = yrun T n c S ∧ zfr (fun k i => ySc k i ∨ (k = 213 ∧ i = 51)) M M') ?_ ?_ ⟨S, by rw [Nat.pow_zero, Nat.div_one]; rfl, r2, rfl, by rw [Nat.pow_zero, Nat.div_one]; rfl, zfr_weak (zfr_trans f1 (zfr_weak f2 ysc_r1)) (fun k i z => Or.inl z)⟩ (Nat.zero_le _) (by omega)) ?_
    · rintro k st M3 - hk ⟨S', rfl, r3, hh, er, f3⟩
      have lc : c / 5 ^ k ≤ c := Nat.div_le_self _ _
      rw [if_neg (show ¬ Int32.ofNat n ≤ Int32.ofNat k from yge hk (by omega)), mlt_eq]
      have e5 : zrm (Int32.ofNat (c / 5 ^ k)) 5 = Int32.ofNat (c / 5 ^ k % 5) := yrm5 (by omega)
      rw [show zrm ((Int32.ofNat (c / 5 ^ k), Int32.ofNat k) : Int32 × Int32).1 5 = Int32.ofNat (c / 5 ^ k % 5) from e5]
      have g4 : zfr (fun k i => k = 213 ∧ i = 51) M3 (mup M3 213 51 (Int32.ofNat (c / 5 ^ k % 5))) := zfr_mup ⟨rfl, rfl⟩
      refine zwp_bd (r_pass (a := 1) (r3.keep g4 (by omega) (by omega) (by omega) (by omega)) (by omega) (w := Int32.ofNat (c / 5 ^ k % 5)) mup_on) ?_
      rintro _ M5 ⟨r5, f5⟩
      rw [show yww T 0 S' (Int32.ofNat (c / 5 ^ k % 5)) = Int32.ofNat (c / 5 ^ k % 5) by unfold yww; rw [if_neg (by decide), if_neg (zi_n1 (by omega))]] at r5
      refine zwp_ret ⟨_, ?_, r5, by rw [ypass_hour, hh]; omega, ?_, zfr_trans f3 (zfr_trans (zfr_weak g4 (fun k i z => Or.inr z)) (zfr_weak f5 (fun k i z => Or.inl (ysc_r1 k i z))))⟩
      · rw [yi_nn, ydv5 (by omega), Nat.div_div_eq_div_mul, ← Nat.pow_succ]
      · rw [← er, show n - k = (n - (k + 1)) + 1 by omega, Nat.pow_succ, ← Nat.div_div_eq_div_mul]
        rfl
    · rintro st M3 ⟨S', rfl, r3, hh, er, f3⟩
      rw [if_pos (show Int32.ofNat n ≤ Int32.ofNat n from Int32.le_refl _)]
      rw [Nat.sub_self] at er
      have er : S' = yrun T n c S := er
      rw [← er]
      exact zwp_ret ⟨r3, f3⟩
    · rintro _ M3 ⟨r3, f3⟩
      rw [mlt_eq]
      have g4 : zfr (fun k i => k = 213 ∧ i = 51) M3 (mup M3 213 51 (-1)) := zfr_mup ⟨rfl, rfl⟩
      have r4 := r3.keep g4 (by omega) (by omega) (by omega) (by omega)
      have f4 : zfr ySc M (mup M3 213 51 (-1)) := zfr_fix 213 51 (zfr_trans f3 (zfr_weak g4 (fun k i z => Or.inr z))) (mup_on.trans h.mis.c.symm)
      have rd : mrd (mup M3 213 51 (-1)) 243 (5 + Int32.ofNat f) = some ((yrun T n c S).got f) := by
        rw [mrd_of (k := 243) (j := 5 + f) (by show 5 + f < 115; omega) (by decide)]
        have z := r4.got f hf
        rw [show 5 * 1 + f = 5 + f by omega] at z
        rw [z]
      rw [rd, zob_some, (h.keep f4).rs.rGot0 hf, zob_some]
      have rb := yrun_bd tk n c S h.bd
      have lt := yg_lt h.bd rb.1 hf (by omega) (by rw [rb.2]; omega)
      have es : ycnt (fun c => decide (yg S f < yg (yrun T n c S) f)) (c + 1) = ycnt (fun c => decide (yg S f < yg (yrun T n c S) f)) c + (if decide (yg S f < yg (yrun T n c S) f) = true then 1 else 0) := rfl
      by_cases z : yg S f < yg (yrun T n c S) f
      · rw [if_neg (fun q => lt.mp q z)]
        rw [if_pos (decide_eq_true z)] at es
        exact zwp_ret ⟨by rw [es, yi_nn, yi_nn], f4⟩
      · rw [if_pos (lt.mpr z)]
        rw [if_neg (by rw [decide_eq_false z]; decide)] at es
        exact zwp_ret ⟨by rw [es, yi_nn, yad0]; rfl, f4⟩
  · rintro st M1 ⟨rfl, f1⟩
    rw [if_pos (show Int32.ofNat (5 ^ n) ≤ Int32.ofNat (5 ^ n) from Int32.le_refl _)]
    exact zwp_ret ⟨rfl, f1⟩
  · rintro b M1 ⟨e1, f1⟩
    have lA := ycnt_le (p := fun c => decide (yg S f < yg (yrun T n c S) f)) (5 ^ n)
    generalize ycnt (fun c => decide (yg S f < yg (yrun T n c S) f)) (5 ^ n) = A at e1 lA ⊢
    rw [e1, y_common (by omega) (by omega), mbd_some]
    have pg : 0 < Nat.gcd A (5 ^ n) := Nat.gcd_pos_of_pos_right _ (p5_pos n)
    have lg : Nat.gcd A (5 ^ n) ≤ 5 ^ n := Nat.gcd_le_right _ (p5_pos n)
    have nz : ¬ Int32.ofNat (Nat.gcd A (5 ^ n)) = 0 := by rw [show (0 : Int32) = Int32.ofNat 0 from rfl, zi_eq (by omega) (by omega)]; omega
    unfold zdv
    rw [if_neg nz, if_neg nz, zob_some, zob_some, ydv_of (by omega) (by omega), ydv_of (by omega) (by omega)]
    by_cases d0 : d = 0
    · rw [if_pos d0, if_pos d0]; exact zwp_ret ⟨rfl, f1⟩
    · rw [if_neg d0, if_neg d0]; exact zwp_ret ⟨rfl, f1⟩
theorem p_likely (h : yI W M t T S) (a b d : Int32) : yPr W (m_X7_likely a b d M) (m_X8_likely a b d) := by
  have h1 := h.thr 0
  unfold m_X7_likely m_X8_likely
  rcases y_isField h a with ⟨e1, e2⟩ | ⟨f, hf, rfl, e1, e2⟩
  · refine yPr.qq h (v := -1) ?_ ?_
    · simp only [e1, mbd_some, if_true]
    · simp only [mlt_eq, e2 _ h1.rs.rt, mbd_some, if_true]
  · have e2' := e2 _ h1.rs.rt
    rcases y_from 1 5 b M with ⟨e, ho⟩ | ⟨e, l1, l2, l3⟩
    · refine yPr.qq h (v := -1) ?_ ?_
      · simp only [e1, e, mbd_some, one_ne, if_false, if_true]
      · rw [mlt_eq, e2', mbd_some, if_neg (by decide)]
        rcases ho with z | ⟨z1, z2, z3⟩
        · rw [if_pos z]
        · rw [if_neg z1, if_pos z2]
    · rcases y_from 0 1 d M with ⟨e', ho⟩ | ⟨e', m1, m2, m3⟩
      · refine yPr.qq h (v := -1) ?_ ?_
        · simp only [e1, e, e', mbd_some, one_ne, if_false, if_true]
        · rw [mlt_eq, e2', mbd_some, if_neg (by decide), if_neg l1, if_neg l2]
          rcases ho with z | ⟨z1, z2, z3⟩
          · rw [if_pos z]
          · rw [if_neg z1, if_neg z3]
      · obtain ⟨n, hn1, hn, rfl⟩ := y_nat 1 5 rfl rfl (by decide) (by decide) l1 l2
        refine yPr.ss (v := if d = 0 then Int32.ofNat (ylik T f n S / Nat.gcd (ylik T f n S) (5 ^ n)) else Int32.ofNat (5 ^ n / Nat.gcd (ylik T f n S) (5 ^ n))) h ?_ (fun M1 g => ?_)
        · simp only [e1, e, e', mbd_some, one_ne, if_false]
          exact c_likely h hf hn1 hn d
        · have g1 := g.thr 0
          rw [mlt_eq, e2 _ g1.rs.rt, mbd_some, if_neg (by decide), if_neg l1, if_neg l2, if_neg m1, if_pos m3]
          refine zwp_mono (r_likely g1 hf hn1 hn d) ?_
          rintro r M2 ⟨q1, q2⟩
          exact ⟨q1, zfr_trans (zfr_mup (by unfold ySc; omega)) q2⟩
end

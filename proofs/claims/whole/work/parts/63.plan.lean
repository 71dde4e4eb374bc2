/-! promise by promise: plans -/
def ystep (T : yT) (p w : Nat) (S : yA) : yA := ypass T 0 (ywn T 0 (ypsh T p (Int32.ofNat w) S)) (ypsh T p (Int32.ofNat w) S)
theorem ystep_hour (T : yT) (p w : Nat) (S : yA) : (ystep T p w S).hour = S.hour + 1 := by
  unfold ystep
  rw [ypass_hour, ypsh_hour]
theorem ypsh_bd {T : yT} {S : yA} (tk : yTok T) (h : yBd T S) (p : Nat) (w : Int32) : yBd T (ypsh T p w S) := by
  have b1 := tk.nc
  unfold ypsh
  rcases zfst_in (p := yfp S T p) (n := T.nc) 0 with ef | ⟨c, -, hc, pc, ef⟩
  · rw [ef, if_pos rfl]; exact h
  · rw [ef, if_neg (zi_n1 (by omega)), zi_cl (by omega)]
    exact ymv_bd h pc.1
theorem ystep_bd {T : yT} {S : yA} (tk : yTok T) (h : yBd T S) (p w : Nat) : yBd T (ystep T p w S) := ypass_bd tk (ypsh_bd tk h p _)
theorem ypsh_got {T : yT} {S : yA} (p : Nat) (w : Int32) : (ypsh T p w S).got = S.got := by
  unfold ypsh
  split
  · rfl
  · exact yg_mv
def yleaf (f : Nat) (g : Int32) (S : yA) (code : Nat) (b : Int32 × Nat) : Int32 × Nat := if b.1 < S.got f - g then (S.got f - g, code) else b
def yfull (T : yT) (p f : Nat) (g : Int32) : Nat → yA → Nat → Int32 × Nat → Int32 × Nat
  | 0, S, B, b => yleaf f g S B b
  | j + 1, S, B, b => zfd (fun w b => yfull T p f g j (ystep T p w S) (5 * B + w) b) 5 b
def yred (T : yT) (p f : Nat) (g : Int32) : Nat → yA → Nat → Int32 × Nat → Int32 × Nat
  | 0, S, B, b => yleaf f g S B b
  | j + 1, S, B, b => zfd (fun w b => yred T p f g j (ystep T p w S) (5 * B + w) b) (if zfst (yfp S T p) 0 T.nc = -1 then 1 else 5) b
def ydom (T : yT) (p f : Nat) (g : Int32) : Nat → yA → Int32 → Prop
  | 0, S, x => S.got f - g ≤ x
  | j + 1, S, x => ∀ w, w < 5 → ydom T p f g j (ystep T p w S) x
section
variable {T : yT} {p f : Nat} {g : Int32}
theorem ydom_mono {x y : Int32} (h : x ≤ y) : ∀ (j : Nat) (S : yA), ydom T p f g j S x → ydom T p f g j S y := by
  intro j
  induction j with
  | zero => intro S z; exact Int32.le_trans z h
  | succ j ih => intro S z w hw; exact ih _ (z w hw)
theorem yfull_ge : ∀ (j : Nat) (S : yA) (B : Nat) (b : Int32 × Nat), b.1 ≤ (yfull T p f g j S B b).1 := by
  intro j
  induction j with
  | zero =>
    intro S B b
    show b.1 ≤ (yleaf f g S B b).1
    unfold yleaf
    split
    · next e => exact Int32.le_of_lt e
    · exact Int32.le_refl _
  | succ j ih =>
    intro S B b
    refine zfd_ind (fun _ b' => b.1 ≤ b'.1) (Int32.le_refl _) (fun w b' _ q => Int32.le_trans q (ih _ _ b'))
theorem yfull_dom : ∀ (j : Nat) (S : yA) (B : Nat) (b : Int32 × Nat), ydom T p f g j S (yfull T p f g j S B b).1 := by
  intro j
  induction j with
  | zero =>
    intro S B b
    show S.got f - g ≤ (yleaf f g S B b).1
    unfold yleaf
    split
    · exact Int32.le_refl _
    · next e => exact Int32.not_lt.mp e
  | succ j ih =>
    intro S B b
    have key : ∀ n, n ≤ 5 → ∀ w, w < n → ydom T p f g j (ystep T p w S) (zfd (fun w b => yfull T p f g j (ystep T p w S) (5 * B + w) b) n b).1 := by
      intro n
      induction n with
      | zero => intro _ w hw; omega
      | succ n ih2 =>
        intro hn w hw
        show ydom T p f g j (ystep T p w S) (yfull T p f g j (ystep T p n S) (5 * B + n) (zfd (fun w b => yfull T p f g j (ystep T p w S) (5 * B + w) b) n b)).1
        by_cases e : w = n
        · subst e; exact ih _ _ _
        · exact ydom_mono (yfull_ge j _ _ _) j _ (ih2 (by omega) w (by omega))
    exact fun w hw => key 5 (Nat.le_refl _) w hw
theorem yfull_id : ∀ (j : Nat) (S : yA) (B : Nat) (b : Int32 × Nat), ydom T p f g j S b.1 → yfull T p f g j S B b = b := by
  intro j
  induction j with
  | zero =>
    intro S B b h
    show yleaf f g S B b = b
    unfold yleaf
    rw [if_neg (Int32.not_lt.mpr h)]
  | succ j ih =>
    intro S B b h
    exact zfd_ind (fun _ b' => b' = b) rfl (fun w b' hw q => by subst q; exact ih _ _ _ (h w hw))
theorem ystep_none {S : yA} (h : zfst (yfp S T p) 0 T.nc = -1) (w : Nat) : ystep T p w S = ystep T p 0 S := by
  unfold ystep ypsh
  rw [if_pos h, if_pos h]
theorem yred_eq : ∀ (j : Nat) (S : yA) (B : Nat) (b : Int32 × Nat), yred T p f g j S B b = yfull T p f g j S B b := by
  intro j
  induction j with
  | zero => intro S B b; rfl
  | succ j ih =>
    intro S B b
    have e : (fun w b => yred T p f g j (ystep T p w S) (5 * B + w) b) = (fun w b => yfull T p f g j (ystep T p w S) (5 * B + w) b) := by
      funext w b
      exact ih _ _ _
    show zfd (fun w b => yred T p f g j (ystep T p w S) (5 * B + w) b) (if zfst (yfp S T p) 0 T.nc = -1 then 1 else 5) b = zfd (fun w b => yfull T p f g j (ystep T p w S) (5 * B + w) b) 5 b
    rw [e]
    split
    · next h =>
      have d := yfull_dom (T := T) (p := p) (f := f) (g := g) j (ystep T p 0 S) (5 * B + 0) b
      have i : ∀ w, yfull T p f g j (ystep T p w S) (5 * B + w) (yfull T p f g j (ystep T p 0 S) (5 * B + 0) b) = yfull T p f g j (ystep T p 0 S) (5 * B + 0) b := fun w => by
        rw [ystep_none h w]
        exact yfull_id j _ _ _ d
      show yfull T p f g j (ystep T p 0 S) (5 * B + 0) b = yfull T p f g j (ystep T p 4 S) (5 * B + 4) (yfull T p f g j (ystep T p 3 S) (5 * B + 3) (yfull T p f g j (ystep T p 2 S) (5 * B + 2) (yfull T p f g j (ystep T p 1 S) (5 * B + 1) (yfull T p f g j (ystep T p 0 S) (5 * B + 0) b))))
      rw [i 1, i 2, i 3, i 4]
    · rfl
def yrunB (T : yT) (p : Nat) : Nat → Nat → yA → yA
  | 0, _, S => S
  | j + 1, q, S => yrunB T p j (q % 5 ^ j) (ystep T p (q / 5 ^ j) S)
theorem zfd_congr {τ : Type} {F G : Nat → τ → τ} {n : Nat} {b : τ} (h : ∀ c b, c < n → F c b = G c b) : zfd F n b = zfd G n b := by
  induction n with
  | zero => rfl
  | succ n ih =>
    show F n (zfd F n b) = G n (zfd G n b)
    rw [ih (fun c b hc => h c b (by omega)), h n _ (by omega)]
theorem yflat : ∀ (j : Nat) (S : yA) (B : Nat) (b : Int32 × Nat), zfd (fun q b => yleaf f g (yrunB T p j q S) (B * 5 ^ j + q) b) (5 ^ j) b = yfull T p f g j S B b := by
  intro j
  induction j with
  | zero =>
    intro S B b
    show yleaf f g S (B * 1 + 0) b = yleaf f g S B b
    rw [Nat.mul_one, Nat.add_zero]
  | succ j ih =>
    intro S B b
    have pj := p5_pos j
    have key : ∀ m, m ≤ 5 → zfd (fun q b => yleaf f g (yrunB T p (j + 1) q S) (B * 5 ^ (j + 1) + q) b) (m * 5 ^ j) b = zfd (fun w b => yfull T p f g j (ystep T p w S) (5 * B + w) b) m b := by
      intro m
      induction m with
      | zero => intro _; rw [Nat.zero_mul]; rfl
      | succ m ih2 =>
        intro hm
        rw [Nat.succ_mul, zfd_add, ih2 (by omega)]
        show _ = yfull T p f g j (ystep T p m S) (5 * B + m) _
        rw [← ih]
        refine zfd_congr (fun q b hq => ?_)
        have e1 : (m * 5 ^ j + q) / 5 ^ j = m := by
          rw [Nat.add_comm, Nat.add_mul_div_right _ _ pj, Nat.div_eq_of_lt hq, Nat.zero_add]
        have e2 : (m * 5 ^ j + q) % 5 ^ j = q := by
          rw [Nat.add_comm, Nat.add_mul_mod_self_right, Nat.mod_eq_of_lt hq]
        have e3 : B * 5 ^ (j + 1) + (m * 5 ^ j + q) = (5 * B + m) * 5 ^ j + q := by
          rw [Nat.pow_succ, Nat.add_mul, ← Nat.add_assoc]
          congr 2
          rw [Nat.mul_comm (5 ^ j) 5, ← Nat.mul_assoc, Nat.mul_comm B 5]
        rw [e3]
        show yleaf f g (yrunB T p j ((m * 5 ^ j + q) % 5 ^ j) (ystep T p ((m * 5 ^ j + q) / 5 ^ j) S)) _ b = _
        rw [e1, e2]
    have e5 : 5 ^ (j + 1) = 5 * 5 ^ j := by rw [Nat.pow_succ, Nat.mul_comm]
    have z := key 5 (Nat.le_refl _)
    rw [← e5] at z
    exact z
theorem ystep_mono {S : yA} (tk : yTok T) (h : yBd T S) (hf : f < T.nf) (hh : S.hour < 9000) (w : Nat) : yg S f ≤ yg (ystep T p w S) f := by
  have e : yg S f = yg (ypsh T p (Int32.ofNat w) S) f := by unfold yg; rw [ypsh_got]
  rw [e]
  exact yg_mono tk (ypsh_bd tk h p _) hf (by rw [ypsh_hour]; omega)
theorem ydom_pos {g0 : Nat} (tk : yTok T) (hf : f < T.nf) (eg : g = Int32.ofNat g0) {x : Int32} : ∀ (j : Nat) (S : yA), yBd T S → S.hour + j < 9000 → g0 ≤ yg S f → ydom T p f g j S x → ¬ x < 0 := by
  intro j
  induction j with
  | zero =>
    intro S h hh hg hd
    obtain ⟨e1, e2⟩ := yg_e h hf (by omega)
    have hd : S.got f - g ≤ x := hd
    rw [e1, eg, yi_sub hg, Int32.le_iff_toInt_le, Int32.toInt_ofNat_of_lt (by omega)] at hd
    rw [Int32.lt_iff_toInt_lt]
    have e0 : Int32.toInt 0 = 0 := by decide
    omega
  | succ j ih =>
    intro S h hh hg hd
    exact ih _ (ystep_bd tk h p 0) (by rw [ystep_hour]; omega) (Nat.le_trans hg (ystep_mono tk h hf (by omega) 0)) (hd 0 (by decide))
end
def yR96 (M : zMem) (n : Nat) (b : Int32 × Nat) : Prop := b.1 ≠ -1 → ∀ k, k < n → M.1 96 k = Int32.ofNat (b.2 / 5 ^ (n - 1 - k) % 5)
def yPP (d k i : Nat) : Prop := (k = 92 ∧ i = 7) ∨ k = 95 ∨ k = 96 ∨ (99 + 19 * (d + 1) ≤ k ∧ k < 213)
section
variable {W : Nat → Int32} {M : zMem} {t : Nat} {T : yT} {S : yA}
theorem c_planFrom (tk : yTok T) {p f n : Nat} (hp : p < T.nh) (hf : f < T.nf) (hn : n ≤ 4) {S0 : yA} : ∀ (j fuel d : Nat) (S : yA) (B : Nat) (b : Int32 × Nat) (M : zMem), d + j = n → j < fuel → yCS M (99 + 19 * d) t 0 T S → yCS M 99 t 0 T S0 → S.hour + j < 5000 → M.1 92 7 = b.1 → yR96 M n b → (∀ k, k < d → M.1 95 k = Int32.ofNat (B / 5 ^ (d - 1 - k) % 5)) →
    zwp (m_X1_planFrom fuel (Int32.ofNat d) (Int32.ofNat p) (Int32.ofNat f) (Int32.ofNat n) M) (fun _ M' => M'.1 92 7 = (yred T p f (S0.got f) j S B b).1 ∧ yR96 M' n (yred T p f (S0.got f) j S B b) ∧ (∀ k, k < d → M'.1 95 k = M.1 95 k) ∧ zfr (yPP d) M M') := by
  intro j
  induction j with
  | zero =>
    intro fuel d S B b M hd hfu h h0 hh hb hr hx
    obtain ⟨fu, rfl⟩ : ∃ fu, fuel = fu + 1 := ⟨fuel - 1, by omega⟩
    have ed : d = n := by omega
    subst ed
    show zwp (mb_X1_planFrom _ _ _ _ _ _) _
    unfold mb_X1_planFrom
    rw [if_neg (by rw [zi_lt (by omega) (by omega)]; omega), mpt_of (by omega), zob_some, h.rGot hf, zob_some, show (0 : Int32) = Int32.ofNat 0 from rfl, mpt_of (by decide), zob_some, show 99 + 19 * 0 = 99 from rfl, h0.rGot hf, zob_some, hb]
    show zwp _ (fun _ M' => M'.1 92 7 = (yleaf f (S0.got f) S B b).1 ∧ yR96 M' d (yleaf f (S0.got f) S B b) ∧ (∀ k, k < d → M'.1 95 k = M.1 95 k) ∧ zfr (yPP d) M M')
    unfold yleaf
    by_cases z : b.1 < S.got f - S0.got f
    · rw [if_pos z, if_neg (Int32.not_le.mpr z), mlt_eq]
      refine zwp_cp (a := 95) (b := 96) (n := 4) (by decide) (by decide) (by decide) (fun M' a1 a2 => ?_)
      refine zwp_ret ⟨(a2 _ _ (by decide)).trans mup_on, fun _ k hk => ?_, fun k hk => (a2 _ _ (by decide)).trans (mup_off (by decide)), fun k i hk => ?_⟩
      · rw [a1 k (by omega), mup_off (by decide)]
        exact hx k hk
      · have : k ≠ 96 := fun e => hk (Or.inr (Or.inr (Or.inl e)))
        rw [a2 k i this]
        exact (zfr_mup (P := yPP d) (Or.inl ⟨rfl, rfl⟩)) k i hk
    · rw [if_neg z, if_pos (Int32.not_lt.mp z)]
      exact zwp_ret ⟨hb, hr, fun _ _ => rfl, zfr_refl⟩
  | succ j ih =>
    intro fuel d S B b M hd hfu h h0 hh hb hr hx
    obtain ⟨fu, rfl⟩ : ∃ fu, fuel = fu + 1 := ⟨fuel - 1, by omega⟩
    show zwp (mb_X1_planFrom _ _ _ _ _ _) _
    unfold mb_X1_planFrom
    rw [if_pos (by rw [zi_lt (by omega) (by omega)]; omega), mpt_of (by omega), zob_some, c_firstToPush h hp, mbd_some]
    have ew : (if zfst (yfp S T p) 0 T.nc = -1 then some ((1 : Int32), M) else some (5, M)) = some (Int32.ofNat (if zfst (yfp S T p) 0 T.nc = -1 then 1 else 5), M) := by split <;> rfl
    rw [ew, mbd_some, yi_nn, mpt_of (by omega), zob_some]
    show zwp _ (fun _ M' => M'.1 92 7 = (zfd (fun w b => yred T p f (S0.got f) j (ystep T p w S) (5 * B + w) b) (if zfst (yfp S T p) 0 T.nc = -1 then 1 else 5) b).1 ∧ yR96 M' n (zfd (fun w b => yred T p f (S0.got f) j (ystep T p w S) (5 * B + w) b) (if zfst (yfp S T p) 0 T.nc = -1 then 1 else 5) b) ∧ (∀ k, k < d → M'.1 95 k = M.1 95 k) ∧ zfr (yPP d) M M')
    have hm : (if zfst (yfp S T p) 0 T.nc = -1 then 1 else 5) ≤ 5 := by split <;> decide
    generalize (if zfst (yfp S T p) 0 T.nc = -1 then 1 else 5) = m at hm ⊢
    have hfu' : zLF = 100000 := rfl
    refine yfor (n := m) (I := fun w M' => M'.1 92 7 = (zfd (fun w b => yred T p f (S0.got f) j (ystep T p w S) (5 * B + w) b) w b).1 ∧ yR96 M' n (zfd (fun w b => yred T p f (S0.got f) j (ystep T p w S) (5 * B + w) b) w b) ∧ (∀ k, k < d → M'.1 95 k = M.1 95 k) ∧ zfr (yPP d) M M') ⟨hb, hr, fun _ _ => rfl, zfr_refl⟩ (by omega) ?_ (fun M' _ => if_pos (Int32.le_refl _)) (fun _ M' z => zwp_ret z)
    rintro w M1 hw ⟨q1, q2, q3, f1⟩
    have h1 : yCS M1 (99 + 19 * d) t 0 T S := h.keep f1 (by unfold yPP; omega)
    have h01 : yCS M1 99 t 0 T S0 := h0.keep f1 (by unfold yPP; omega)
    rw [if_neg (yge hw (by omega)), mwr_of (k := 95) (j := d) (by show d < 4; omega) (by decide), zob_some, zob_some]
    have g2 : zfr (fun k i => k = 95 ∧ i = d) M1 (mup M1 95 d (Int32.ofNat w)) := zfr_mup ⟨rfl, rfl⟩
    refine zwp_bd (c_copy (s := 99 + 19 * (d + 1)) (s' := 99 + 19 * d) (h1.keep g2 (by omega)) (ysp_path _ (by omega)) (by omega)) ?_
    rintro _ M3 ⟨c3, f3⟩
    refine zwp_bd (c_pushBy c3 hp _) ?_
    rintro _ M4 ⟨c4, f4⟩
    rw [c_wind c4 (by rw [ypsh_hour]; omega), mbd_some]
    refine zwp_bd (c_pass c4 _) ?_
    rintro _ M5 ⟨c5, f5⟩
    have c5 : yCS M5 (99 + 19 * (d + 1)) t 0 T (ystep T p w S) := c5
    have f25 : zfr (yTC (99 + 19 * (d + 1))) (mup M1 95 d (Int32.ofNat w)) M5 := zfr_trans f3 (zfr_trans f4 f5)
    have f15 : zfr (yPP d) M1 M5 := zfr_trans (zfr_weak g2 (by unfold yPP; omega)) (zfr_weak f25 (by unfold yTC yPP; omega))
    have lo : ∀ k i, k < 99 → M5.1 k i = (mup M1 95 d (Int32.ofNat w)).1 k i := fun k i hk => f25 k i (by unfold yTC; omega)
    have h05 : yCS M5 99 t 0 T S0 := h01.keep f15 (by unfold yPP; omega)
    have r5 : yR96 M5 n (zfd (fun w b => yred T p f (S0.got f) j (ystep T p w S) (5 * B + w) b) w b) := fun ne k hk => by
      rw [lo 96 k (by decide), mup_off (by decide)]
      exact q2 ne k hk
    have x5 : ∀ k, k < d + 1 → M5.1 95 k = Int32.ofNat ((5 * B + w) / 5 ^ (d + 1 - 1 - k) % 5) := fun k hk => by
      rw [lo 95 k (by decide)]
      by_cases e : k = d
      · subst e
        rw [mup_on, show k + 1 - 1 - k = 0 by omega, Nat.pow_zero, Nat.div_one, show (5 * B + w) % 5 = w by omega]
      · rw [mup_off' e, q3 k (by omega), hx k (by omega), show d + 1 - 1 - k = (d - 1 - k) + 1 by omega, Nat.pow_succ, Nat.mul_comm (5 ^ (d - 1 - k)) 5, ← Nat.div_div_eq_div_mul, show (5 * B + w) / 5 = B by omega]
    refine zwp_bd (ih fu (d + 1) (ystep T p w S) (5 * B + w) _ M5 (by omega) (by omega) c5 h05 (by rw [ystep_hour]; omega) ((lo 92 7 (by decide)).trans ((mup_off (by decide)).trans q1)) r5 x5) ?_
    rintro _ M6 ⟨s1, s2, s3, f6⟩
    refine zwp_ret ⟨rfl, s1, s2, fun k hk => ?_, zfr_trans f1 (zfr_trans f15 (zfr_weak f6 (by unfold yPP; omega)))⟩
    rw [s3 k (by omega), lo 95 k (by decide), mup_off' (by omega)]
    exact q3 k hk
/-- the best plan -/
def yplan (T : yT) (S : yA) (p f n : Nat) : Int32 × Nat := yfull T p f (S.got f) n S 0 (-1, 0)
theorem yplan_ne (tk : yTok T) (hb : yBd T S) {p f n : Nat} (hf : f < T.nf) (hh : S.hour + n < 9000) : (yplan T S p f n).1 ≠ -1 := by
  obtain ⟨e1, e2⟩ := yg_e hb hf (by omega)
  have := ydom_pos (p := p) tk hf e1 n S hb hh (Nat.le_refl _) (yfull_dom (T := T) (p := p) (f := f) (g := S.got f) n S 0 (-1, 0))
  intro e
  exact this (by show (yplan T S p f n).1 < 0; rw [e]; decide)
theorem c_planOf (h : yI W M t T S) {p f n : Nat} (hp : p < T.nh) (hf : f < T.nf) (hn : n ≤ 4) : zwp (m_X1_planOf 42 (Int32.ofNat p) (Int32.ofNat f) (Int32.ofNat n) M) (fun r M' => r = (yplan T S p f n).1 ∧ (∀ k, k < n → M'.1 96 k = Int32.ofNat ((yplan T S p f n).2 / 5 ^ (n - 1 - k) % 5)) ∧ zfr ySc M M') := by
  have hr := h.hr
  unfold m_X1_planOf
  rw [show (0 : Int32) = Int32.ofNat 0 from rfl, mpt_of (by decide), zob_some]
  refine zwp_bd (c_copy (s := 99 + 19 * 0) (s' := 42) h.cs (ysp_path 0 (by decide)) (by decide)) ?_
  rintro _ M1 ⟨c1, f1⟩
  rw [mlt_eq, show zmn (Int32.ofNat n) 4 = Int32.ofNat n by
      unfold zmn
      rw [show (4 : Int32) = Int32.ofNat 4 from rfl]
      by_cases e : n = 4
      · rw [e]; rfl
      · rw [if_neg (by rw [zi_lt (by omega) (by omega)]; omega)]]
  have g2 : zfr (fun k i => k = 92 ∧ i = 7) M1 (mup M1 92 7 (-1)) := zfr_mup ⟨rfl, rfl⟩
  have c2 := c1.keep g2 (by omega)
  refine zwp_bd (c_planFrom h.cs.tk hp hf hn (S0 := S) n 8 0 S 0 (-1, 0) _ (by omega) (by omega) c2 c2 (by omega) mup_on (fun ne => absurd rfl ne) (fun k hk => absurd hk (by omega))) ?_
  rintro _ M3 ⟨s1, s2, s3, f3⟩
  rw [yred_eq] at s1 s2
  have s1 : M3.1 92 7 = (yplan T S p f n).1 := s1
  have s2 : yR96 M3 n (yplan T S p f n) := s2
  rw [s1]
  exact zwp_ret ⟨rfl, s2 (yplan_ne h.cs.tk h.bd hf (by omega)), zfr_trans (zfr_weak f1 (by unfold yTC ySc; omega)) (zfr_trans (zfr_weak g2 (by unfold ySc; omega)) (zfr_weak f3 (by unfold yPP ySc; omega)))⟩
theorem r_layPlan (h : yI W M t T S) {p f n : Nat} (hp : p < T.nh) (hf : f < T.nf) (hn : n ≤ 4) : zwp (m_X8_layPlan (Int32.ofNat p) (Int32.ofNat f) (Int32.ofNat n) M) (fun _ M' => M'.1 213 57 = (yplan T S p f n).1 ∧ M'.1 213 58 = Int32.ofNat (yplan T S p f n).2 ∧ (yplan T S p f n).2 < 5 ^ n ∧ zfr ySc M M') := by
  have hr := h.hr
  have hfu : zLF = 100000 := rfl
  have l1 := p5_le (n := n) (by omega)
  have b3 := h.cs.tk.nf
  unfold m_X8_layPlan
  rw [mlt_eq]
  have efl : yplan T S p f n = zfd (fun q b => yleaf f (S.got f) (yrunB T p n q S) q b) (5 ^ n) (-1, 0) := by
    have z := yflat (T := T) (p := p) (f := f) (g := S.got f) n S 0 (-1, 0)
    unfold yplan
    rw [← z]
    refine zfd_congr (fun q b _ => ?_)
    rw [Nat.zero_mul, Nat.zero_add]
  have ne := yplan_ne (p := p) h.cs.tk h.bd hf (n := n) (by omega)
  rw [efl] at ne ⊢
  refine yfor (n := 5 ^ n) (I := fun c M' => M'.1 213 57 = (zfd (fun q b => yleaf f (S.got f) (yrunB T p n q S) q b) c (-1, 0)).1 ∧ ((zfd (fun q b => yleaf f (S.got f) (yrunB T p n q S) q b) c (-1, 0)).1 ≠ -1 → M'.1 213 58 = Int32.ofNat (zfd (fun q b => yleaf f (S.got f) (yrunB T p n q S) q b) c (-1, 0)).2 ∧ (zfd (fun q b => yleaf f (S.got f) (yrunB T p n q S) q b) c (-1, 0)).2 < 5 ^ n) ∧ zfr ySc M M') ⟨mup_on, fun e => absurd rfl e, zfr_mup (by unfold ySc; omega)⟩ (by omega) ?_ (fun M' _ => by rw [fives_eq, c_rowsOf _ (by omega), mbd_some, if_pos (Int32.le_refl _)]) (fun _ M' z => zwp_ret ⟨z.1, (z.2.1 ne).1, (z.2.1 ne).2, z.2.2⟩)
  rintro c M1 hc ⟨q1, q2, f1⟩
  have h1 := h.keep f1
  rw [fives_eq, c_rowsOf _ (by omega), mbd_some, if_neg (by rw [zi_le (by omega) (by omega)]; omega)]
  refine zwp_bd (r_copies (to := 1) (sl := 0) h1.rs (by omega) (by omega)) ?_
  rintro _ M2 ⟨r2, f2⟩
  rw [c_rowsOf _ (by omega), mbd_some]
  refine zwp_bd (Q' := fun _ M' => yRS M' 1 0 T (yrunB T p n c S) ∧ zfr (yTR 1) M1 M') (zwp_for 0 n (fun k st M' => ∃ S', st = (Int32.ofNat (5 ^ (n - k)), Int32.ofNat k) ∧ yRS M' 1 0 T S' ∧ S'.hour = S.hour + k ∧ yrunB T p (n - k) (c % 5 ^ (n - k)) S' = yrunB T p n c S ∧ zfr (yTR 1) M1 M') ?_ ?_ ⟨S, rfl, r2, rfl, by rw [Nat.sub_zero, Nat.mod_eq_of_lt hc], f2⟩ (Nat.zero_le _) (by omega)) ?_
  · rintro k st M3 - hk ⟨S', rfl, r3, hh, er, f3⟩
    have pm := p5_pos (n - k - 1)
    have lm := p5_le (n := n - k - 1) (by omega)
    have ln := p5_le (n := n - k) (by omega)
    rw [if_neg (show ¬ Int32.ofNat n ≤ Int32.ofNat k from yge hk (by omega))]
    have ed : Int32.ofNat (5 ^ (n - k)) / 5 = Int32.ofNat (5 ^ (n - k - 1)) := by
      rw [ydv5 (by omega), show n - k = (n - k - 1) + 1 by omega, Nat.pow_succ, Nat.mul_div_cancel _ (by decide)]
      rfl
    have ez : zdv (Int32.ofNat c) (((Int32.ofNat (5 ^ (n - k)), Int32.ofNat k) : Int32 × Int32).1 / 5) = some (Int32.ofNat (c / 5 ^ (n - k - 1))) := by
      show zdv (Int32.ofNat c) (Int32.ofNat (5 ^ (n - k)) / 5) = _
      rw [ed]
      unfold zdv
      rw [if_neg (by rw [show (0 : Int32) = Int32.ofNat 0 from rfl, zi_eq (by omega) (by omega)]; omega), ydv_of (by omega) (by omega)]
    have lc : c / 5 ^ (n - k - 1) ≤ c := Nat.div_le_self _ _
    rw [ez, zob_some, yrm5 (by omega)]
    refine zwp_bd (r_pushes (a := 1) r3 hp _ rfl) ?_
    rintro _ M4 ⟨r4, f4⟩
    have w4 : M4.1 213 51 = -1 := (f4 213 51 (by unfold yTR; omega)).trans ((f3 213 51 (by unfold yTR; omega)).trans h1.mis.c)
    refine zwp_bd (r_pass (a := 1) r4 (by rw [ypsh_hour]; omega) w4) ?_
    rintro _ M5 ⟨r5, f5⟩
    rw [yww_n] at r5
    have r5 : yRS M5 1 0 T (ystep T p (c / 5 ^ (n - k - 1) % 5) S') := r5
    refine zwp_ret ⟨_, ?_, r5, by rw [ystep_hour, hh]; omega, ?_, zfr_trans f3 (zfr_trans f4 f5)⟩
    · show (Int32.ofNat (5 ^ (n - k)) / 5, Int32.ofNat k + 1) = _
      rw [ed, yi_nn, show n - (k + 1) = n - k - 1 by omega]
    · rw [← er, show n - (k + 1) = n - k - 1 by omega]
      have es : n - k = (n - k - 1) + 1 := by omega
      generalize n - k - 1 = m at es ⊢
      rw [es]
      show _ = yrunB T p m (c % 5 ^ (m + 1) % 5 ^ m) (ystep T p (c % 5 ^ (m + 1) / 5 ^ m) S')
      rw [Nat.pow_succ, Nat.mod_mul_right_div_self, Nat.mod_mul_right_mod]
  · rintro st M3 ⟨S', rfl, r3, hh, er, f3⟩
    rw [if_pos (show Int32.ofNat n ≤ Int32.ofNat n from Int32.le_refl _)]
    rw [Nat.sub_self] at er
    have er : S' = yrunB T p n c S := er
    rw [← er]
    exact zwp_ret ⟨r3, f3⟩
  · rintro _ M3 ⟨r3, f3⟩
    have rd : mrd M3 243 (5 + Int32.ofNat f) = some ((yrunB T p n c S).got f) := by
      rw [mrd_of (k := 243) (j := 5 + f) (by show 5 + f < 115; omega) (by decide)]
      have z := r3.got f hf
      rw [show 5 * 1 + f = 5 + f by omega] at z
      rw [z]
    have f03 : zfr ySc M M3 := zfr_trans f1 (zfr_weak f3 ysc_r1)
    have q13 : M3.1 213 57 = (zfd (fun q b => yleaf f (S.got f) (yrunB T p n q S) q b) c (-1, 0)).1 := (f3 213 57 (by unfold yTR; omega)).trans q1
    rw [rd, zob_some, (h.keep f03).rs.rGot0 hf, zob_some, q13]
    have es : zfd (fun q b => yleaf f (S.got f) (yrunB T p n q S) q b) (c + 1) (-1, 0) = yleaf f (S.got f) (yrunB T p n c S) c (zfd (fun q b => yleaf f (S.got f) (yrunB T p n q S) q b) c (-1, 0)) := rfl
    rw [es]
    generalize zfd (fun q b => yleaf f (S.got f) (yrunB T p n q S) q b) c (-1, 0) = b at q2 q13 ⊢
    unfold yleaf
    by_cases z : b.1 < (yrunB T p n c S).got f - S.got f
    · rw [if_pos z, if_pos z, mlt_eq, mlt_eq]
      exact zwp_ret ⟨rfl, by rw [mup_off' (by decide), mup_on], fun _ => ⟨mup_on, hc⟩, zfr_trans f03 (zfr_trans (zfr_mup (by unfold ySc; omega)) (zfr_mup (by unfold ySc; omega)))⟩
    · rw [if_neg z, if_neg z]
      refine zwp_ret ⟨rfl, q13, fun e => ?_, f03⟩
      rw [f3 213 58 (by unfold yTR; omega)]
      exact q2 e
theorem y_plan (h : yI W M t T S) (a b d : Int32) :
    ((∀ M', yRT M' T → m_X8_isPlan a b d M' = some (0, M')) ∧ ∀ (c : zMem → Option (Int32 × zMem)), (mbd (m_X7_isChild a M) (fun v2 M1 => if v2 = 0 then some ((-1), M1) else mbd (m_X7_isField b M1) (fun v4 M3 => if v4 = 0 then some ((-1), M3) else mbd (m_X7_isFrom 1 d 4 M3) (fun v6 M5 => if v6 = 0 then some ((-1), M5) else c M5)))) = some (-1, M))
    ∨ ∃ p f n, p < T.nh ∧ f < T.nf ∧ 1 ≤ n ∧ n ≤ 4 ∧ a = Int32.ofNat p ∧ b = Int32.ofNat f ∧ d = Int32.ofNat n ∧ (∀ M', yRT M' T → m_X8_isPlan a b d M' = some (1, M')) ∧ ∀ (c : zMem → Option (Int32 × zMem)), (mbd (m_X7_isChild a M) (fun v2 M1 => if v2 = 0 then some ((-1), M1) else mbd (m_X7_isField b M1) (fun v4 M3 => if v4 = 0 then some ((-1), M3) else mbd (m_X7_isFrom 1 d 4 M3) (fun v6 M5 => if v6 = 0 then some ((-1), M5) else c M5)))) = c M := by
  unfold m_X8_isPlan
  rcases y_isChild h a with ⟨e1, e2⟩ | ⟨p, hp, ea, e1, e2⟩
  · left
    exact ⟨fun M' r => by rw [e2 M' r, mbd_some, if_pos rfl], fun c => by rw [e1, mbd_some, if_pos rfl]⟩
  · rcases y_isField h b with ⟨g1, g2⟩ | ⟨f, hf, eb, g1, g2⟩
    · left
      exact ⟨fun M' r => by rw [e2 M' r, mbd_some, if_neg (by decide), g2 M' r, mbd_some, if_pos rfl], fun c => by rw [e1, mbd_some, if_neg (by decide), g1, mbd_some, if_pos rfl]⟩
    · rcases y_from 1 4 d M with ⟨e, ho⟩ | ⟨e, l1, l2, l3⟩
      · left
        refine ⟨fun M' r => ?_, fun c => by rw [e1, mbd_some, if_neg (by decide), g1, mbd_some, if_neg (by decide), e, mbd_some, if_pos rfl]⟩
        rw [e2 M' r, mbd_some, if_neg (by decide), g2 M' r, mbd_some, if_neg (by decide)]
        rcases ho with z | ⟨z1, z2, z3⟩
        · rw [if_pos z]
        · rw [if_neg z1, if_pos z2]
      · right
        obtain ⟨n, hn1, hn, ed⟩ := y_nat 1 4 rfl rfl (by decide) (by decide) l1 l2
        exact ⟨p, f, n, hp, hf, hn1, hn, ea, eb, ed, fun M' r => by rw [e2 M' r, mbd_some, if_neg (by decide), g2 M' r, mbd_some, if_neg (by decide), if_neg l1, if_neg l2], fun c => by rw [e1, mbd_some, if_neg (by decide), g1, mbd_some, if_neg (by decide), e, mbd_some, if_neg (by decide)]⟩
theorem p_plan (h : yI W M t T S) (a b d : Int32) : yPr W (m_X7_plan a b d M) (m_X8_plan a b d) := by
  have h1 := h.thr 0
  unfold m_X7_plan m_X8_plan
  rcases y_plan h a b d with ⟨e1, e2⟩ | ⟨p, f, n, hp, hf, hn1, hn, rfl, rfl, rfl, e1, e2⟩
  · refine yPr.qq h (v := -1) (e2 _) ?_
    rw [mlt_eq, e1 _ h1.rs.rt, mbd_some, if_pos rfl]
  · refine yPr.ss (v := (yplan T S p f n).1) h ?_ (fun M1 g => ?_)
    · rw [e2]
      refine zwp_bd (c_planOf h hp hf hn) ?_
      rintro r M1 ⟨rfl, -, f1⟩
      exact zwp_ret ⟨rfl, f1⟩
    · have g1 := g.thr 0
      rw [mlt_eq, e1 _ g1.rs.rt, mbd_some, if_neg (by decide)]
      refine zwp_bd (r_layPlan g1 hp hf hn) ?_
      rintro _ M2 ⟨q1, q2, q3, f2⟩
      exact zwp_ret ⟨q1, zfr_trans (zfr_mup (by unfold ySc; omega)) f2⟩
theorem p_step (h : yI W M t T S) (a b d k : Int32) : yPr W (m_X7_step a b d k M) (m_X8_step a b d k) := by
  have h1 := h.thr 0
  unfold m_X7_step m_X8_step
  rcases y_plan h a b d with ⟨e1, e2⟩ | ⟨p, f, n, hp, hf, hn1, hn, rfl, rfl, rfl, e1, e2⟩
  · refine yPr.qq h (v := -1) (e2 _) ?_
    rw [mlt_eq, e1 _ h1.rs.rt, mbd_some, if_pos rfl]
  · by_cases k0 : 0 ≤ k
    · by_cases kn : k < Int32.ofNat n
      · obtain ⟨x, hx, rfl⟩ := zi_in' (n := n) (by omega) k0 kn
        have pl := p5_le (n := n - 1 - x) (by omega)
        have pp := p5_pos (n - 1 - x)
        refine yPr.ss (v := Int32.ofNat ((yplan T S p f n).2 / 5 ^ (n - 1 - x) % 5)) h ?_ (fun M1 g => ?_)
        · rw [e2, if_pos k0, if_pos kn]
          refine zwp_bd (c_planOf h hp hf hn) ?_
          rintro r M1 ⟨rfl, q2, f1⟩
          unfold m_X1_plannedPush
          rw [if_neg (zi_nn (by omega)), if_neg (by rw [show (4 : Int32) = Int32.ofNat 4 from rfl, zi_le (by omega) (by omega)]; omega), mrd_of (k := 96) (j := x) (by show x < 4; omega) (by decide), zob_some, mbd_some, q2 x hx]
          exact zwp_ret ⟨rfl, f1⟩
        · have g1 := g.thr 0
          rw [mlt_eq, e1 _ g1.rs.rt, mbd_some, if_neg (by decide), if_pos k0, if_pos kn]
          refine zwp_bd (r_layPlan g1 hp hf hn) ?_
          rintro _ M2 ⟨q1, q2, q3, f2⟩
          have l4 := p5_le (n := n) (by omega)
          rw [yi_m1 hn1, yi_sub (by omega), fives_eq, c_rowsOf _ (by omega), mbd_some, q2]
          unfold zdv
          have ld : (yplan T S p f n).2 / 5 ^ (n - 1 - x) ≤ (yplan T S p f n).2 := Nat.div_le_self _ _
          rw [if_neg (by rw [show (0 : Int32) = Int32.ofNat 0 from rfl, zi_eq (by omega) (by omega)]; omega), zob_some, ydv_of (by omega) (by omega), yrm5 (by omega)]
          exact zwp_ret ⟨rfl, zfr_trans (zfr_mup (by unfold ySc; omega)) f2⟩
      · refine yPr.qq h (v := -2) ?_ ?_
        · rw [e2, if_pos k0, if_neg kn]
        · rw [mlt_eq, e1 _ h1.rs.rt, mbd_some, if_neg (by decide), if_pos k0, if_neg kn]
    · refine yPr.qq h (v := -1) ?_ ?_
      · rw [e2, if_neg k0]
      · rw [mlt_eq, e1 _ h1.rs.rt, mbd_some, if_neg (by decide), if_neg k0]
end

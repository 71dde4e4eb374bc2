/-! hours one behind another; deeds -/
theorem zfd_keep {τ γ : Type} {f : Nat → τ → τ} (g : τ → γ) (h : ∀ c S, g (f c S) = g S) (n : Nat) (S : τ) : g (zfd f n S) = g S := by
  induction n with
  | zero => rfl
  | succ n ih => show g (f n (zfd f n S)) = _; rw [h, ih]
theorem yh_bear (T : yT) (c : Nat) (S : yA) : (ybear1 T c S).hour = S.hour := by unfold ybear1; split <;> rfl
theorem yh_mv (w : Int32) (c : Nat) (S : yA) : (ymv w c S).hour = S.hour := by unfold ymv; split <;> rfl
theorem yh_drift (w : Int32) (c : Nat) (S : yA) : (ydrift1 w c S).hour = S.hour := by
  unfold ydrift1
  split
  · exact yh_mv w c S
  · rfl
theorem yh_grow (T : yT) (o : Int32) (c : Nat) (S : yA) : (ygrow1 T o c S).hour = S.hour := by unfold ygrow1; split <;> rfl
theorem yh_join2 (a b : Nat) (S : yA) : (yjoin2 a b S).hour = S.hour := by
  unfold yjoin2
  split
  · split <;> rfl
  · rfl
theorem yh_join (n a : Nat) (S : yA) : (yjoin1 n a S).hour = S.hour := by
  unfold yjoin1
  refine zfd_keep yA.hour (fun b S => ?_) n S
  split
  · exact yh_join2 a b S
  · rfl
theorem yh_wet (T : yT) (c : Nat) (v : Int32) (f : Nat) (S : yA) : (ywet1 T c v f S).hour = S.hour := by
  unfold ywet1
  split
  · split <;> rfl
  · rfl
theorem yh_dry (c : Nat) (v : Int32) (S : yA) : (ydry c v S).hour = S.hour := by unfold ydry; split <;> rfl
theorem yh_fall (T : yT) (o : Int32) (c : Nat) (S : yA) : (yfall1 T o c S).hour = S.hour := by
  unfold yfall1
  split
  · rw [yh_dry]
    exact zfd_keep yA.hour (fun f S => yh_wet _ _ _ _ _) _ _
  · rfl
theorem yh_give (T : yT) (c : Nat) (S : yA) : (ygive1 T c S).hour = S.hour := by unfold ygive1; split <;> rfl
theorem yh_mark2 (T : yT) (o : Int32) (h c : Nat) (S : yA) : (ymark2 T o h c S).hour = S.hour := by unfold ymark2; split <;> rfl
theorem yh_mark (T : yT) (o : Int32) (h : Nat) (S : yA) : (ymark1 T o h S).hour = S.hour := zfd_keep yA.hour (fun c S => yh_mark2 T o h c S) _ _
theorem yh_age (c : Nat) (S : yA) : (yage1 c S).hour = S.hour := by unfold yage1; split <;> rfl
theorem ypass_hour (T : yT) (o w : Int32) (S : yA) : (ypass T o w S).hour = S.hour + 1 := by
  unfold ypass
  show (zfd yage1 _ _).hour + 1 = _
  rw [zfd_keep yA.hour yh_age, zfd_keep yA.hour (yh_mark T o), zfd_keep yA.hour (yh_give T), zfd_keep yA.hour (yh_fall T o)]
  have e : ∀ S' : yA, ((if o = 4 then id else zfd (yjoin1 T.nc) T.nc) S').hour = S'.hour := by
    intro S'
    split
    · rfl
    · exact zfd_keep yA.hour (yh_join T.nc) _ _
  rw [e, zfd_keep yA.hour (yh_grow T o), zfd_keep yA.hour (yh_drift w), zfd_keep yA.hour (yh_bear T)]
/-- n hours as it goes -/
def ygo (T : yT) (o : Int32) (S : yA) : Nat → yA
  | 0 => S
  | n + 1 => ypass T o (ywn T o (ygo T o S n)) (ygo T o S n)
theorem ygo_hour (T : yT) (o : Int32) (S : yA) (n : Nat) : (ygo T o S n).hour = S.hour + n := by
  induction n with
  | zero => rfl
  | succ n ih => show (ypass T o _ _).hour = _; rw [ypass_hour, ih]; rfl
theorem yww_n (T : yT) (o : Int32) (S : yA) : yww T o S (-1) = ywn T o S := by
  unfold yww ywn
  by_cases e : o = 1
  · rw [if_pos e, if_pos e]
  · rw [if_neg e, if_pos rfl, if_neg e]
section
variable {M : zMem} {s t sl : Nat} {o : Int32} {T : yT} {S : yA}
theorem c_run {α : Type} {Q : α → zMem → Prop} {f : Int32 → zMem → Option (α × zMem)} {a : Int32} (h : yCS M s t o T S) {n : Nat} (ea : a = Int32.ofNat n) (hn : n < 1000) (hh : S.hour < 100000)
    (hq : ∀ b M', yCS M' s t o T (ygo T o S n) → zfr (yTC s) M M' → zwp (f b M') Q) :
    zwp (mbd (mlp (σ := Int32) (β := Int32) zLF (fun s1 M1 =>
      if a ≤ s1 then some ((.inr s1), M1)
      else mbd (m_X5_windNow s M1) (fun v M2 => mbd (m_X5_passHour s v M2) (fun _ M3 => some ((.inl (s1 + 1)), M3)))) 0 M) f) Q := by
  subst ea
  refine zwp_bd (Q' := fun _ M' => yCS M' s t o T (ygo T o S n) ∧ zfr (yTC s) M M') (zwp_for 0 n (fun c st M' => st = Int32.ofNat c ∧ yCS M' s t o T (ygo T o S c) ∧ zfr (yTC s) M M') ?_ ?_ ⟨rfl, h, zfr_refl⟩ (Nat.zero_le _) (by have : zLF = 100000 := rfl; omega)) (fun b M' q => hq b M' q.1 q.2)
  · rintro c st M' - hc ⟨rfl, h1, f1⟩
    rw [if_neg (by rw [zi_le (by omega) (by omega)]; omega), c_wind h1 (by rw [ygo_hour]; omega), mbd_some]
    refine zwp_bd (c_pass h1 _) ?_
    rintro _ M2 ⟨h2, f2⟩
    exact zwp_ret ⟨yi_nn c, h2, zfr_trans f1 f2⟩
  · rintro st M' ⟨rfl, h1, f1⟩
    rw [if_pos (Int32.le_refl _)]
    exact zwp_ret ⟨h1, f1⟩
theorem r_run {α : Type} {Q : α → zMem → Prop} {f : Int32 → zMem → Option (α × zMem)} {a b : Int32} (h : yRS M sl o T S) {n : Nat} (ea : a = Int32.ofNat n) (eb : b = Int32.ofNat sl) (hn : n < 1000) (hh : S.hour < 100000) (hw : M.1 213 51 = -1)
    (hq : ∀ b M', yRS M' sl o T (ygo T o S n) → zfr (yTR sl) M M' → zwp (f b M') Q) :
    zwp (mbd (mlp (σ := Int32) (β := Int32) zLF (fun s1 M1 =>
      if a ≤ s1 then some ((.inr s1), M1)
      else mbd (m_X8_passes b M1) (fun _ M3 => some ((.inl (s1 + 1)), M3))) 0 M) f) Q := by
  subst ea
  refine zwp_bd (Q' := fun _ M' => yRS M' sl o T (ygo T o S n) ∧ zfr (yTR sl) M M') (zwp_for 0 n (fun c st M' => st = Int32.ofNat c ∧ yRS M' sl o T (ygo T o S c) ∧ zfr (yTR sl) M M') ?_ ?_ ⟨rfl, h, zfr_refl⟩ (Nat.zero_le _) (by have : zLF = 100000 := rfl; omega)) (fun b M' q => hq b M' q.1 q.2)
  · rintro c st M' - hc ⟨rfl, h1, f1⟩
    rw [if_neg (by rw [zi_le (by omega) (by omega)]; omega)]
    refine zwp_bd (r_pass h1 (by rw [ygo_hour]; omega) ((f1 213 51 (by unfold yTR; omega)).trans hw) eb) ?_
    rintro _ M2 ⟨h2, f2⟩
    rw [yww_n] at h2
    exact zwp_ret ⟨yi_nn c, h2, zfr_trans f1 f2⟩
  · rintro st M' ⟨rfl, h1, f1⟩
    rw [if_pos (Int32.le_refl _)]
    exact zwp_ret ⟨h1, f1⟩
end
/-! what a call that changes the sky may change -/
def yT3 (k i : Nat) : Prop := ((k = 234 ∨ k = 235) ∧ 3 ≤ i) ∨ (236 ≤ k ∧ k ≤ 240 ∧ 24 ≤ i) ∨ ((k = 241 ∨ k = 242) ∧ 18 ≤ i) ∨ (k = 243 ∧ 15 ≤ i) ∨ (k = 244 ∧ 105 ≤ i)
def yStp (k i : Nat) : Prop := ySc k i ∨ (42 ≤ k ∧ k < 61) ∨ (80 ≤ k ∧ k ≤ 84) ∨ (k = 213 ∧ i = 48) ∨ (k ≠ 213 ∧ yTR 0 k i) ∨ yT3 k i
/-- what a call of the class by which something is done may change -/
def yCch (k _i : Nat) : Prop := (42 ≤ k ∧ k < 61) ∨ (80 ≤ k ∧ k ≤ 84)
def yKp (k i : Nat) : Prop := (k = 213 ∧ (i = 0 ∨ i = 35 ∨ i = 48)) ∨ yT3 k i
theorem ystp_sc {k i : Nat} (z : ySc k i) : yStp k i := Or.inl z
theorem ystp_c {k i : Nat} (z : 42 ≤ k ∧ k < 61) : yStp k i := Or.inr (Or.inl z)
theorem ystp_d {k i : Nat} (z : 80 ≤ k ∧ k ≤ 84) : yStp k i := Or.inr (Or.inr (Or.inl z))
theorem ystp_u : yStp 213 48 := Or.inr (Or.inr (Or.inr (Or.inl ⟨rfl, rfl⟩)))
theorem ystp_t {i : Nat} (z : i = 0 ∨ i = 35) : yStp 213 i := Or.inl (by unfold ySc; omega)
theorem ystp_3 {k i : Nat} (z : yT3 k i) : yStp k i := Or.inr (Or.inr (Or.inr (Or.inr (Or.inr z))))
theorem ystp_r {k i : Nat} (z : yTR 0 k i) : yStp k i := by
  by_cases e : k = 213
  · subst e
    exact ystp_t (by unfold yTR at z; omega)
  · exact Or.inr (Or.inr (Or.inr (Or.inr (Or.inl ⟨e, z⟩))))
theorem ystp_k {k i : Nat} (z : yKp k i) : yStp k i := by
  rcases z with ⟨rfl, rfl | rfl | rfl⟩ | z
  · exact ystp_t (Or.inl rfl)
  · exact ystp_t (Or.inr rfl)
  · exact ystp_u
  · exact ystp_3 z
section
variable {W : Nat → Int32} {M : zMem} {t : Nat} {T : yT} {S : yA}
theorem yI.step {M' : zMem} {S' : yA} (h : yI W M t T S) (f : zfr yStp M M') (cs : yCS M' 42 t 0 T S') (rs : yRS M' 0 0 T S') (hr : S'.hour ≤ 999) (und : ∃ n B, yUnd M' T S' n B) (bd : yBd T S') : yI W M' t T S' := by
  obtain ⟨N, no⟩ := h.no
  obtain ⟨m, tap⟩ := h.tap
  refine ⟨cs, rs, hr, ?_, h.img.keep f (by unfold yStp ySc yT3 yTR; omega) (by unfold yStp ySc yT3 yTR; omega) (by intro k i hk hp; unfold yStp ySc yT3 yTR at hp; omega) (by unfold yStp ySc yT3 yTR; omega) (by unfold yStp ySc yT3 yTR; omega) (by unfold yStp ySc yT3 yTR; omega) (by unfold yStp ySc yT3 yTR; omega), und, ⟨N, no.keep f (by unfold yStp ySc yT3 yTR; omega) (by unfold yStp ySc yT3 yTR; omega) (by unfold yStp ySc yT3 yTR; omega) (by unfold yStp ySc yT3 yTR; omega)⟩, ⟨m, tap.keep f (by unfold yStp ySc yT3 yTR; omega) (by unfold yStp ySc yT3 yTR; omega) (by unfold yStp ySc yT3 yTR; omega) (by unfold yStp ySc yT3 yTR; omega)⟩, h.rd.keep f (by unfold yStp ySc yT3 yTR; omega) (by unfold yStp ySc yT3 yTR; omega) (by unfold yStp ySc yT3 yTR; omega) (by unfold yStp ySc yT3 yTR; omega), h.mis.keep f (by unfold yStp ySc yT3 yTR; omega) (by unfold yStp ySc yT3 yTR; omega) (by unfold yStp ySc yT3 yTR; omega) (by unfold yStp ySc yT3 yTR; omega), bd⟩
  rw [f 0 3 (by unfold yStp ySc yT3 yTR; omega)]; exact h.tp
def yRem (M M' : zMem) (n : Nat) (a b c d : Int32) : Prop :=
  M'.1 80 4 = Int32.ofNat (n - n / 20 + 1) ∧
  (∀ q k, 81 ≤ q → q ≤ 84 → k < n - n / 20 → M'.1 q k = M.1 q (k + n / 20)) ∧
  M'.1 81 (n - n / 20) = a ∧ M'.1 82 (n - n / 20) = b ∧ M'.1 83 (n - n / 20) = c ∧ M'.1 84 (n - n / 20) = d ∧
  zfr (fun k _ => 80 ≤ k ∧ k ≤ 84) M M'
/-- a row whose first one is dropped -/
theorem zwp_cp1 {α : Type} {Q : α → zMem → Prop} {M : zMem} {a : Nat} {nn : Int32} {f : zMem → Option (α × zMem)} (h1 : (zds a).2 = 20)
    (en : nn = 19) (q : ∀ M', (∀ i, i < 19 → M'.1 a i = M.1 a (i + 1)) → (∀ k i, k ≠ a → M'.1 k i = M.1 k i) → zwp (f M') Q) : zwp (zob (mcp M a 1 a 0 nn) f) Q := by
  subst en
  have e0 : (0 : Int32).toNatClampNeg = 0 := by decide
  have e1 : (1 : Int32).toNatClampNeg = 1 := by decide
  have e2 : (19 : Int32).toNatClampNeg = 19 := by decide
  unfold mcp
  rw [if_pos ⟨by decide, by decide, by decide, by rw [e1, e2]; omega, by rw [e2, e0]; omega⟩, zob_some]
  refine q _ (fun i hi => ?_) (fun k i hk => ?_)
  · show (if a = a then va_cpy (M.1 a) (M.1 a) _ _ _ else M.1 a) i = _
    rw [if_pos rfl, e0, e1, e2]
    show (if 0 ≤ i ∧ i < 0 + 19 then M.1 a (1 + (i - 0)) else M.1 a i) = _
    have hc : 0 ≤ i ∧ i < 0 + 19 := ⟨by omega, by omega⟩
    rw [if_pos hc, show 1 + (i - 0) = i + 1 by omega]
  · show (if k = a then va_cpy (M.1 a) (M.1 a) _ _ _ else M.1 k) i = _
    rw [if_neg hk]
theorem c_dropFirst : zwp (m_X0_dropFirst M) (fun _ M' => M'.1 80 4 = 19 ∧ (∀ q k, 81 ≤ q → q ≤ 84 → k < 19 → M'.1 q k = M.1 q (k + 1)) ∧ zfr (fun k _ => 80 ≤ k ∧ k ≤ 84) M M') := by
  unfold m_X0_dropFirst
  rw [mlt_eq]
  refine zwp_cp1 (by rfl) mup_on (fun M1 a1 b1 => ?_)
  have n1 : M1.1 80 4 = 19 := (b1 80 4 (by decide)).trans mup_on
  refine zwp_cp1 (by rfl) n1 (fun M2 a2 b2 => ?_)
  have n2 : M2.1 80 4 = 19 := (b2 80 4 (by decide)).trans n1
  refine zwp_cp1 (by rfl) n2 (fun M3 a3 b3 => ?_)
  have n3 : M3.1 80 4 = 19 := (b3 80 4 (by decide)).trans n2
  refine zwp_cp1 (by rfl) n3 (fun M4 a4 b4 => ?_)
  have n4 : M4.1 80 4 = 19 := (b4 80 4 (by decide)).trans n3
  refine zwp_ret ⟨n4, fun q k q1 q2 hk => ?_, fun k i hk => ?_⟩
  · rcases (show q = 81 ∨ q = 82 ∨ q = 83 ∨ q = 84 by omega) with rfl | rfl | rfl | rfl
    · rw [b4 _ _ (by decide), b3 _ _ (by decide), b2 _ _ (by decide), a1 k hk, mup_off (by decide)]
    · rw [b4 _ _ (by decide), b3 _ _ (by decide), a2 k hk, b1 _ _ (by decide), mup_off (by decide)]
    · rw [b4 _ _ (by decide), a3 k hk, b2 _ _ (by decide), b1 _ _ (by decide), mup_off (by decide)]
    · rw [a4 k hk, b3 _ _ (by decide), b2 _ _ (by decide), b1 _ _ (by decide), mup_off (by decide)]
  · rw [b4 _ _ (by omega), b3 _ _ (by omega), b2 _ _ (by omega), b1 _ _ (by omega), mup_off (by omega)]
theorem c_remember {n : Nat} (hn : n ≤ 20) (h : M.1 80 4 = Int32.ofNat n) (a b c d : Int32) : zwp (m_X0_remember a b c d M) (fun _ M' => yRem M M' n a b c d) := by
  unfold m_X0_remember
  refine zwp_bd (Q' := fun _ M1 => M1.1 80 4 = Int32.ofNat (n - n / 20) ∧ (∀ q k, 81 ≤ q → q ≤ 84 → k < n - n / 20 → M1.1 q k = M.1 q (k + n / 20)) ∧ zfr (fun k _ => 80 ≤ k ∧ k ≤ 84) M M1) ?_ ?_
  · rw [h]
    by_cases e : n = 20
    · subst e
      rw [if_neg (by decide)]
      refine zwp_bd c_dropFirst ?_
      rintro _ M1 ⟨q1, q2, q3⟩
      exact zwp_ret ⟨q1, q2, q3⟩
    · have e0 : n / 20 = 0 := by omega
      rw [if_pos (by rw [show (20 : Int32) = Int32.ofNat 20 from rfl, zi_lt (by omega) (by omega)]; omega), e0]
      exact zwp_ret ⟨h, fun _ _ _ _ _ => rfl, zfr_refl⟩
  · rintro _ M1 ⟨q1, q2, q3⟩
    have hm : n - n / 20 < 20 := by omega
    unfold yRem
    generalize n - n / 20 = m at q1 q2 hm ⊢
    have q1b : (mup M1 81 m a).1 80 4 = Int32.ofNat m := (mup_off (by decide)).trans q1
    have q1c : (mup (mup M1 81 m a) 82 m b).1 80 4 = Int32.ofNat m := (mup_off (by decide)).trans q1b
    have q1d : (mup (mup (mup M1 81 m a) 82 m b) 83 m c).1 80 4 = Int32.ofNat m := (mup_off (by decide)).trans q1c
    have q1e : (mup (mup (mup (mup M1 81 m a) 82 m b) 83 m c) 84 m d).1 80 4 = Int32.ofNat m := (mup_off (by decide)).trans q1d
    rw [mwr_of (k := 81) (j := m) (by show m < 20; omega) (by decide) q1, zob_some, mwr_of (k := 82) (j := m) (by show m < 20; omega) (by decide) q1b, zob_some, mwr_of (k := 83) (j := m) (by show m < 20; omega) (by decide) q1c, zob_some, mwr_of (k := 84) (j := m) (by show m < 20; omega) (by decide) q1d, zob_some, mlt_eq, q1e, yi_nn]
    refine zwp_ret ⟨mup_on, fun q k h1 h2 hk => ?_, ?_, ?_, ?_, ?_, ?_⟩
    · rw [mup_off (by omega), mup_off' (by omega), mup_off' (by omega), mup_off' (by omega), mup_off' (by omega)]
      exact q2 q k h1 h2 hk
    · rw [mup_off (by decide), mup_off (by decide), mup_off (by decide), mup_off (by decide), mup_on]
    · rw [mup_off (by decide), mup_off (by decide), mup_off (by decide), mup_on]
    · rw [mup_off (by decide), mup_off (by decide), mup_on]
    · rw [mup_off (by decide), mup_on]
    · intro k i hk
      rw [mup_off (by omega), mup_off (by omega), mup_off (by omega), mup_off (by omega), mup_off (by omega)]
      exact q3 k i hk
def yKN (M M' : zMem) (T : yT) (S : yA) (n : Nat) (B : Nat → yA) : Prop :=
  M'.1 213 48 = Int32.ofNat (n - n / 20 + 1) ∧ (∀ k, k < n - n / 20 → yRS M' (3 + k) 0 T (B (k + n / 20))) ∧ yRS M' (3 + (n - n / 20)) 0 T S ∧ yRS M' 0 0 T S ∧ zfr yKp M M'
theorem ykp_tr {to : Nat} (h : 3 ≤ to) : ∀ k i, yTR to k i → yKp k i := by
  intro k i z
  unfold yTR at z
  unfold yKp yT3
  omega
theorem r_keepNow {n : Nat} {B : Nat → yA} (h : yRS M 0 0 T S) (hn : n ≤ 20) (e : M.1 213 48 = Int32.ofNat n) (hb : ∀ k, k < n → yRS M (3 + k) 0 T (B k)) : zwp (m_X8_keepNow M) (fun _ M' => yKN M M' T S n B) := by
  unfold m_X8_keepNow
  refine zwp_bd (Q' := fun _ M1 => M1.1 213 48 = Int32.ofNat (n - n / 20) ∧ (∀ k, k < n - n / 20 → yRS M1 (3 + k) 0 T (B (k + n / 20))) ∧ yRS M1 0 0 T S ∧ zfr yKp M M1) ?_ ?_
  · rw [e]
    by_cases e20 : n = 20
    · subst e20
      rw [if_pos (show Int32.ofNat 20 = 20 from rfl)]
      refine zwp_bd (Q' := fun _ M1 => M1.1 213 48 = Int32.ofNat 20 ∧ (∀ k, k < 19 → yRS M1 (3 + k) 0 T (B (k + 1))) ∧ yRS M1 0 0 T S ∧ zfr yKp M M1) (zwp_for 1 20 (fun c st M1 => st = Int32.ofNat c ∧ M1.1 213 48 = Int32.ofNat 20 ∧ (∀ k, k + 1 < c → yRS M1 (3 + k) 0 T (B (k + 1))) ∧ (∀ k, c ≤ k → k < 20 → yRS M1 (3 + k) 0 T (B k)) ∧ yRS M1 0 0 T S ∧ zfr yKp M M1) ?_ ?_ ⟨rfl, e, fun k hk => absurd hk (by omega), fun k _ hk => hb k hk, h, zfr_refl⟩ (by decide) (by decide)) ?_
      · rintro c st M1 h1c hc ⟨rfl, q1, q2, q3, q4, q5⟩
        rw [if_neg (by rw [show (20 : Int32) = Int32.ofNat 20 from rfl, zi_le (by omega) (by omega)]; omega)]
        have ea : zN ((3 + Int32.ofNat c) - 1) (2 + c) := by
          show (Int32.ofNat 3 + Int32.ofNat c) - 1 = _
          rw [← Int32.ofNat_add, yi_m1 (by omega)]
          congr 1
          omega
        refine zwp_bd (r_copies (to := 2 + c) (sl := 3 + c) (q3 c (Nat.le_refl _) hc) (by omega) (by omega) ea) ?_
        rintro _ M2 ⟨g1, g2⟩
        refine zwp_ret ⟨yi_nn c, (g2 _ _ (by unfold yTR; omega)).trans q1, fun k hk => ?_, fun k k1 k2 => ?_, q4.keep g2 (by unfold yTR; omega) (by unfold yTR; omega) (by unfold yTR; omega) (by unfold yTR; omega), zfr_trans q5 (zfr_weak g2 (ykp_tr (by omega)))⟩
        · by_cases ek : k + 1 = c
          · subst ek
            rw [show 3 + k = 2 + (k + 1) by omega]
            exact g1
          · exact (q2 k (by omega)).keep g2 (by unfold yTR; omega) (by unfold yTR; omega) (by unfold yTR; omega) (by unfold yTR; omega)
        · exact (q3 k (by omega) k2).keep g2 (by unfold yTR; omega) (by unfold yTR; omega) (by unfold yTR; omega) (by unfold yTR; omega)
      · rintro st M1 ⟨rfl, q1, q2, q3, q4, q5⟩
        rw [if_pos (by decide)]
        exact zwp_ret ⟨q1, fun k hk => q2 k (by omega), q4, q5⟩
      · rintro _ M1 ⟨q1, q2, q4, q5⟩
        rw [mlt_eq, q1]
        have g2 : zfr (fun k i => k = 213 ∧ i = 48) M1 (mup M1 213 48 (Int32.ofNat 20 - 1)) := zfr_mup ⟨rfl, rfl⟩
        refine zwp_ret ⟨mup_on, fun k hk => (q2 k hk).keep g2 (by omega) (by omega) (by omega) (by omega), q4.keep g2 (by omega) (by omega) (by omega) (by omega), zfr_trans q5 (zfr_weak g2 (by unfold yKp; omega))⟩
    · have e0 : n / 20 = 0 := by omega
      rw [if_neg (by rw [show (20 : Int32) = Int32.ofNat 20 from rfl, zi_eq (by omega) (by omega)]; exact e20), e0]
      exact zwp_ret ⟨e, fun k hk => hb k hk, h, zfr_refl⟩
  · rintro _ M1 ⟨q1, q2, q4, q5⟩
    unfold yKN
    have hm : n - n / 20 < 20 := by omega
    generalize n - n / 20 = m at q1 q2 hm ⊢
    rw [q1]
    refine zwp_bd (r_copies (to := 3 + m) (sl := 0) q4 (by omega) (by omega)) ?_
    rintro _ M2 ⟨g1, g2⟩
    rw [mlt_eq, g2 _ _ (by unfold yTR; omega), q1, yi_nn]
    have g3 : zfr (fun k i => k = 213 ∧ i = 48) M2 (mup M2 213 48 (Int32.ofNat (m + 1))) := zfr_mup ⟨rfl, rfl⟩
    refine zwp_ret ⟨mup_on, fun k hk => ?_, g1.keep g3 (by omega) (by omega) (by omega) (by omega), (q4.keep g2 (by unfold yTR; omega) (by unfold yTR; omega) (by unfold yTR; omega) (by unfold yTR; omega)).keep g3 (by omega) (by omega) (by omega) (by omega), zfr_trans q5 (zfr_trans (zfr_weak g2 (ykp_tr (by omega))) (zfr_weak g3 (by unfold yKp; omega)))⟩
    exact ((q2 k hk).keep g2 (by unfold yTR; omega) (by unfold yTR; omega) (by unfold yTR; omega) (by unfold yTR; omega)).keep g3 (by omega) (by omega) (by omega) (by omega)
theorem yUnd.push {M M' : zMem} {S S' : yA} {n : Nat} {B : Nat → yA} (u : yUnd M T S n B) (e1 : M'.1 80 4 = Int32.ofNat (n - n / 20 + 1)) (e2 : M'.1 213 48 = Int32.ofNat (n - n / 20 + 1)) (hs : ∀ k, k < n - n / 20 → yRS M' (3 + k) 0 T (B (k + n / 20))) (hs' : yRS M' (3 + (n - n / 20)) 0 T S) (hd : ∀ q k, 81 ≤ q → q ≤ 84 → k < n - n / 20 → M'.1 q k = M.1 q (k + n / 20)) (hn : yDeed M' T (n - n / 20) S S') (bd : yBd T S) : ∃ n B, yUnd M' T S' n B := by
  have hle := u.le
  refine ⟨n - n / 20 + 1, fun k => if k = n - n / 20 + 1 then S' else B (k + n / 20), by omega, if_pos rfl, e1, e2, fun k hk => ?_, fun k hk => ?_, fun k hk => ?_⟩
  · show yRS M' (3 + k) 0 T (if k = _ then _ else _)
    rw [if_neg (by omega)]
    by_cases q : k < n - n / 20
    · exact hs k q
    · have e : k = n - n / 20 := by omega
      subst e
      rw [show n - n / 20 + n / 20 = n by omega, u.top]
      exact hs'
  · show yDeed M' T k (if k = _ then _ else _) (if k + 1 = _ then _ else _)
    rw [if_neg (by omega)]
    by_cases q : k < n - n / 20
    · rw [if_neg (by omega)]
      have d := u.deed (k + n / 20) (by omega)
      rw [show k + 1 + n / 20 = k + n / 20 + 1 by omega]
      unfold yDeed at d ⊢
      rw [hd 81 k (by decide) (by decide) q, hd 82 k (by decide) (by decide) q, hd 83 k (by decide) (by decide) q, hd 84 k (by decide) (by decide) q]
      exact d
    · have e : k = n - n / 20 := by omega
      subst e
      rw [if_pos rfl, show n - n / 20 + n / 20 = n by omega, u.top]
      exact hn
  · show yBd T (if k = _ then _ else _)
    rw [if_neg (by omega)]
    by_cases q : k < n - n / 20
    · exact u.bd _ (by omega)
    · have e : k = n - n / 20 := by omega
      subst e
      rw [show n - n / 20 + n / 20 = n by omega, u.top]
      exact bd
/-- behind the class's part of a deed the reference's part may begin -/
theorem yI.kn {M1 M2 : zMem} {n : Nat} {B : Nat → yA} {a b c d : Int32} (h : yI W M t T S) (u : yUnd M T S n B) (rem : yRem M M1 n a b c d) (f : zfr (fun k _ => 42 ≤ k ∧ k < 61) M1 M2) : yRS (mup M2 213 0 0) 0 0 T S ∧ zwp (m_X8_keepNow (mup M2 213 0 0)) (fun _ M3 => yKN (mup M2 213 0 0) M3 T S n B) := by
  have g : zfr (fun k i => yCch k i ∨ (k = 213 ∧ i = 0)) M (mup M2 213 0 0) := zfr_trans (zfr_weak rem.2.2.2.2.2.2 (by intro k i z; exact Or.inl (Or.inr z))) (zfr_trans (zfr_weak f (by intro k i z; exact Or.inl (Or.inl z))) (zfr_mup (Or.inr ⟨rfl, rfl⟩)))
  have k : ∀ sl A, yRS M sl 0 T A → yRS (mup M2 213 0 0) sl 0 T A := fun sl A q => q.keep g (by unfold yCch; omega) (by unfold yCch; omega) (by unfold yCch; omega) (by unfold yCch yTR; omega)
  exact ⟨k 0 S h.rs, r_keepNow (k 0 S h.rs) u.le ((g 213 48 (by unfold yCch; omega)).trans u.r1) (fun q hq => k _ _ (u.sl q hq))⟩
/-- and behind it all holds on -/
theorem yI.deed {M1 M2 M3 M4 : zMem} {S' : yA} {n : Nat} {B : Nat → yA} {a b c d : Int32} (h : yI W M t T S) (u : yUnd M T S n B) (rem : yRem M M1 n a b c d) (f : zfr (fun k _ => 42 ≤ k ∧ k < 61) M1 M2) (cs : yCS M2 42 t 0 T S') (kn : yKN (mup M2 213 0 0) M3 T S n B) (f4 : zfr (yTR 0) M3 M4) (rs : yRS M4 0 0 T S') (hr : S'.hour ≤ 999) (bd : yBd T S')
    (dd : ∀ X : zMem, X.1 81 (n - n / 20) = a → X.1 82 (n - n / 20) = b → X.1 83 (n - n / 20) = c → X.1 84 (n - n / 20) = d → yDeed X T (n - n / 20) S S') : yI W M4 t T S' := by
  obtain ⟨r1, r2, r3, r4, r5, r6, r7⟩ := rem
  obtain ⟨n1, n2, n3, n4, n5⟩ := kn
  have f24 : zfr (fun k i => yKp k i ∨ yTR 0 k i) M2 M4 := zfr_trans (zfr_mup (Or.inl (Or.inl ⟨rfl, Or.inl rfl⟩))) (zfr_trans (zfr_weak n5 (fun k i z => Or.inl z)) (zfr_weak f4 (fun k i z => Or.inr z)))
  have row : ∀ q k, 80 ≤ q → q ≤ 84 → M4.1 q k = M1.1 q k := fun q k q1 q2 => (f24 q k (by unfold yKp yT3 yTR; omega)).trans (f q k (by omega))
  have kp : ∀ sl A, 3 ≤ sl → yRS M3 sl 0 T A → yRS M4 sl 0 T A := fun sl A hs q => q.keep f4 (by unfold yTR; omega) (by unfold yTR; omega) (by unfold yTR; omega) (by unfold yTR; omega)
  refine h.step (zfr_trans (zfr_weak r7 (fun k i z => Or.inr (Or.inr (Or.inl z)))) (zfr_trans (zfr_weak f (fun k i z => Or.inr (Or.inl z))) (zfr_weak f24 (fun k i z => z.elim ystp_k ystp_r)))) (cs.keep f24 (by intro k i hk; unfold yKp yT3 yTR; omega)) rs hr ?_ bd
  refine u.push ((row _ _ (by decide) (by decide)).trans r1) ((f4 _ _ (by unfold yTR; omega)).trans n1) (fun k hk => kp _ _ (by omega) (n2 k hk)) (kp _ _ (by omega) n3) (fun q k q1 q2 hk => (row q k (by omega) q2).trans (r2 q k q1 q2 hk)) ?_ h.bd
  exact dd M4 ((row _ _ (by decide) (by decide)).trans r3) ((row _ _ (by decide) (by decide)).trans r4) ((row _ _ (by decide) (by decide)).trans r5) ((row _ _ (by decide) (by decide)).trans r6)
end

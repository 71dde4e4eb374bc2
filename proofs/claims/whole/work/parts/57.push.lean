/-! pushes; how many bits; rests -/
def ypsh (T : yT) (q : Nat) (w : Int32) (S : yA) : yA := if zfst (yfp S T q) 0 T.nc = -1 then S else ymv w (zfst (yfp S T q) 0 T.nc).toNatClampNeg S
theorem ypsh_hour (T : yT) (q : Nat) (w : Int32) (S : yA) : (ypsh T q w S).hour = S.hour := by
  unfold ypsh
  split
  · rfl
  · exact yh_mv _ _ _
section
variable {M : zMem} {s t sl : Nat} {o : Int32} {T : yT} {S : yA}
theorem c_pushBy (h : yCS M s t o T S) {q : Nat} (hq : q < T.nh) (w : Int32) : zwp (m_X5_pushBy s (Int32.ofNat q) w M) (fun _ M' => yCS M' s t o T (ypsh T q w S) ∧ zfr (yTC s) M M') := by
  have b1 := h.tk.nc
  unfold m_X5_pushBy ypsh
  rw [c_firstToPush h hq, mbd_some]
  rcases zfst_in (p := yfp S T q) (n := T.nc) 0 with ef | ⟨c, -, hc, pc, ef⟩
  · rw [ef, if_pos rfl, if_pos rfl]
    exact zwp_ret ⟨h, zfr_refl⟩
  · have hc : c < T.nc := by omega
    have nn : ¬ Int32.ofNat c = -1 := zi_n1 (by omega)
    rw [ef, if_neg nn, if_neg nn, zi_cl (by omega)]
    refine zwp_bd (c_move h hc w) ?_
    rintro _ M2 z
    exact zwp_ret z
theorem r_pushes {a : Int32} (h : yRS M sl o T S) {q : Nat} (hq : q < T.nh) (w : Int32) (ea : a = Int32.ofNat sl) : zwp (m_X8_pushes a (Int32.ofNat q) w M) (fun _ M' => yRS M' sl o T (ypsh T q w S) ∧ zfr (yTR sl) M M') := by
  have b1 := h.tk.nc
  unfold m_X8_pushes ypsh
  rw [r_ownSeen (a := a) h hq ea, mbd_some]
  rcases zfst_in (p := yfp S T q) (n := T.nc) 0 with ef | ⟨c, -, hc, pc, ef⟩
  · rw [ef, if_pos rfl, if_pos rfl]
    exact zwp_ret ⟨h, zfr_refl⟩
  · have hc : c < T.nc := by omega
    have nn : ¬ Int32.ofNat c = -1 := zi_n1 (by omega)
    rw [ef, if_neg nn, if_neg nn, zi_cl (by omega)]
    by_cases w0 : w ≤ 0
    · rw [if_pos w0, ymv0 w0]
      exact zwp_ret ⟨h, zfr_refl⟩
    · rw [if_neg w0]
      refine zwp_bd (r_drifts (a := a) h hc pc.1 w ea) ?_
      rintro _ M2 z
      exact zwp_ret z
end
/-! bits -/
def ybc (a : Int32) : Int32 := match m_J6_bitCount_0f7a4 a (fun _ _ => 0, fun _ _ => 0) with
  | some q => q.1
  | none => 0
theorem c_bitCount (a : Int32) (M : zMem) : m_J6_bitCount_0f7a4 a M = some (ybc a, M) := rfl
theorem ybc_key : ∀ b0 b1 b2 b3 b4 b5 b6 b7 : Bool, ybc ((((((((((0 : Int32) ||| if b0 then ybit 0 else 0) ||| if b1 then ybit 1 else 0) ||| if b2 then ybit 2 else 0) ||| if b3 then ybit 3 else 0) ||| if b4 then ybit 4 else 0) ||| if b5 then ybit 5 else 0) ||| if b6 then ybit 6 else 0) ||| if b7 then ybit 7 else 0)) = (((((((((0 : Int32) + if b0 then 1 else 0) + if b1 then 1 else 0) + if b2 then 1 else 0) + if b3 then 1 else 0) + if b4 then 1 else 0) + if b5 then 1 else 0) + if b6 then 1 else 0) + if b7 then 1 else 0) := by decide +kernel
theorem zorr_pad {f : Nat → Int32} {n : Nat} (d : Nat) : zorr (fun c => if c < n then f c else 0) (n + d) = zorr f n := by
  induction d with
  | zero => exact zorr_congr (fun c hc => if_pos hc)
  | succ d ih =>
    show zorr _ (n + d) ||| (if n + d < n then _ else 0) = _
    rw [ih, if_neg (by omega), yor0]
theorem zsum_pad {f : Nat → Int32} {n : Nat} (d : Nat) : zsum (fun c => if c < n then f c else 0) (n + d) = zsum f n := by
  induction d with
  | zero => exact zsum_congr (fun c hc => if_pos hc)
  | succ d ih =>
    show zsum _ (n + d) + (if n + d < n then _ else 0) = _
    rw [ih, if_neg (by omega), yad0]
theorem ybc_orr (p : Nat → Prop) [DecidablePred p] {n : Nat} (hn : n ≤ 8) : ybc (zorr (fun c => if p c then ybit c else 0) n) = zsum (fun c => if p c then 1 else 0) n := by
  have e1 := zorr_pad (f := fun c => if p c then ybit c else 0) (n := n) (8 - n)
  have e2 := zsum_pad (f := fun c => if p c then (1 : Int32) else 0) (n := n) (8 - n)
  rw [show n + (8 - n) = 8 by omega] at e1 e2
  rw [← e1, ← e2]
  have k := ybc_key (decide (0 < n ∧ p 0)) (decide (1 < n ∧ p 1)) (decide (2 < n ∧ p 2)) (decide (3 < n ∧ p 3)) (decide (4 < n ∧ p 4)) (decide (5 < n ∧ p 5)) (decide (6 < n ∧ p 6)) (decide (7 < n ∧ p 7))
  have m1 : ∀ (c : Nat) (x : Int32), (if c < n then (if p c then x else 0) else 0) = if decide (c < n ∧ p c) = true then x else 0 := by
    intro c x
    by_cases h1 : c < n <;> by_cases h2 : p c <;> simp [h1, h2]
  simp only [zorr, zsum, m1]
  exact k
section
variable {W : Nat → Int32} {M : zMem} {t : Nat} {T : yT} {S : yA}
/-- both push, an hour goes by -/
def ybo1 (T : yT) (S : yA) (p q i : Nat) : yA := ypsh T q (Int32.ofNat (i % 5)) (ypsh T p (Int32.ofNat (i / 5)) S)
def ybo (T : yT) (S : yA) (p q i : Nat) : yA := ypass T 0 (ywn T 0 (ybo1 T S p q i)) (ybo1 T S p q i)
def yhas (T : yT) (S : yA) (p q x i : Nat) : Int32 := zsum ((ybo T S p q i).rained x) T.nf - zsum (S.rained x) T.nf
theorem ydv_of {a b : Nat} (ha : a < 2147483648) (hb : b < 2147483648) : Int32.ofNat a / Int32.ofNat b = Int32.ofNat (a / b) := by
  have hd : a / b ≤ a := Nat.div_le_self _ _
  rw [← Int32.toInt_inj, Int32.toInt_div_of_ne_left, Int32.toInt_ofNat_of_lt ha, Int32.toInt_ofNat_of_lt hb, Int32.toInt_ofNat_of_lt (by omega)]
  · rw [Int.ofNat_tdiv]
  · intro e
    have := congrArg Int32.toInt e
    rw [Int32.toInt_ofNat_of_lt ha] at this
    have h2 : Int32.toInt Int32.minValue = -2147483648 := by decide
    omega
theorem ydv5 {i : Nat} (h : i < 100000) : Int32.ofNat i / 5 = Int32.ofNat (i / 5) := ydv_of (b := 5) (by omega) (by decide)
theorem yrm5 {i : Nat} (h : i < 100000) : zrm (Int32.ofNat i) 5 = Int32.ofNat (i % 5) := yrm_of (b := 5) (by omega) (by decide)
theorem c_tryBoth (h : yI W M t T S) {p q : Nat} (hp : p < T.nh) (hq : q < T.nh) : zwp (m_X1_tryBoth 42 (Int32.ofNat p) (Int32.ofNat q) M) (fun _ M' => zfr ySc M M' ∧ ∀ i, i < 25 → M'.1 97 i = yhas T S p q p i ∧ M'.1 98 i = yhas T S p q q i) := by
  have hr := h.hr
  unfold m_X1_tryBoth
  refine yfor (n := 25) (I := fun c M' => zfr ySc M M' ∧ ∀ i, i < c → M'.1 97 i = yhas T S p q p i ∧ M'.1 98 i = yhas T S p q q i) ⟨zfr_refl, fun i hi => absurd hi (by omega)⟩ (by decide) ?_ (fun M' _ => if_pos (by decide)) (fun _ M' q => zwp_ret q)
  rintro c M1 hc ⟨f1, a1⟩
  have c1 := (h.keep f1).cs
  rw [if_neg (yge hc (by decide))]
  refine zwp_bd (c_copy (s := 99) (s' := 42) c1 (by unfold ySP; decide) (by decide)) ?_
  rintro _ M2 ⟨c2, f2⟩
  rw [ydv5 (by omega), yrm5 (by omega)]
  refine zwp_bd (c_pushBy c2 hp _) ?_
  rintro _ M3 ⟨c3, f3⟩
  refine zwp_bd (c_pushBy c3 hq _) ?_
  rintro _ M4 ⟨c4, f4⟩
  rw [c_wind c4 (by rw [ypsh_hour, ypsh_hour]; omega), mbd_some]
  refine zwp_bd (c_pass c4 _) ?_
  rintro _ M5 ⟨c5, f5⟩
  have f15 : zfr (yTC 99) M1 M5 := zfr_trans f2 (zfr_trans f3 (zfr_trans f4 f5))
  have c0 : yCS M5 42 t 0 T S := c1.keep f15 (by intro k i hk; unfold yTC; omega)
  rw [c_rainOfOwn c5 hp, mbd_some, c_rainOfOwn c0 hp, mbd_some, mwr_of (k := 97) (j := c) (by show c < 25; omega) (by decide), zob_some]
  have g6 : ∀ v, zfr (fun k i => k = 97 ∧ i = c) M5 (mup M5 97 c v) := fun v => zfr_mup ⟨rfl, rfl⟩
  rw [c_rainOfOwn (c5.keep (g6 _) (by omega)) hq, mbd_some, c_rainOfOwn (c0.keep (g6 _) (by omega)) hq, mbd_some, mwr_of (k := 98) (j := c) (by show c < 25; omega) (by decide), zob_some]
  refine zwp_ret ⟨rfl, zfr_trans f1 (zfr_trans (zfr_weak f15 ysc_99) (zfr_trans (zfr_mup (by unfold ySc; omega)) (zfr_mup (by unfold ySc; omega)))), fun i hi => ?_⟩
  by_cases e : i = c
  · subst e
    exact ⟨by rw [mup_off (by decide), mup_on]; rfl, by rw [mup_on]; rfl⟩
  · have z := a1 i (by omega)
    rw [mup_off (by decide), mup_off' e, mup_off' e, mup_off (by decide), f15 97 i (by unfold yTC; omega), f15 98 i (by unfold yTC; omega)]
    exact z
theorem r_layBoth (h : yI W M t T S) {p q : Nat} (hp : p < T.nh) (hq : q < T.nh) : zwp (m_X8_layBoth (Int32.ofNat p) (Int32.ofNat q) M) (fun _ M' => zfr ySc M M' ∧ ∀ i, i < 25 → M'.1 247 i = yhas T S p q p i ∧ M'.1 248 i = yhas T S p q q i) := by
  have hr := h.hr
  unfold m_X8_layBoth
  refine yfor (n := 25) (I := fun c M' => zfr ySc M M' ∧ ∀ i, i < c → M'.1 247 i = yhas T S p q p i ∧ M'.1 248 i = yhas T S p q q i) ⟨zfr_refl, fun i hi => absurd hi (by omega)⟩ (by decide) ?_ (fun M' _ => if_pos (by decide)) (fun _ M' q => zwp_ret q)
  rintro c M1 hc ⟨f1, a1⟩
  have h1 := h.keep f1
  rw [if_neg (yge hc (by decide))]
  refine zwp_bd (r_copies (to := 1) (sl := 0) h1.rs (by omega) (by omega)) ?_
  rintro _ M2 ⟨c2, f2⟩
  rw [ydv5 (by omega), yrm5 (by omega)]
  refine zwp_bd (r_pushes (a := 1) c2 hp _ rfl) ?_
  rintro _ M3 ⟨c3, f3⟩
  refine zwp_bd (r_pushes (a := 1) c3 hq _ rfl) ?_
  rintro _ M4 ⟨c4, f4⟩
  have f14 : zfr (yTR 1) M1 M4 := zfr_trans f2 (zfr_trans f3 f4)
  refine zwp_bd (r_pass (a := 1) c4 (by rw [ypsh_hour, ypsh_hour]; omega) ((f14 213 51 (by unfold yTR; omega)).trans h1.mis.c)) ?_
  rintro _ M5 ⟨c5, f5⟩
  rw [yww_n] at c5
  have f15 : zfr (yTR 1) M1 M5 := zfr_trans f14 f5
  have c0 : yRS M5 0 0 T S := h1.rs.keep f15 (by unfold yTR; omega) (by unfold yTR; omega) (by unfold yTR; omega) (by unfold yTR; omega)
  rw [r_rainBy (a := 1) c5 hp, mbd_some, r_rainBy (a := 0) c0 hp, mbd_some, mwr_of (k := 247) (j := c) (by show c < 25; omega) (by decide), zob_some]
  have g6 : ∀ v, zfr (fun k i => k = 247 ∧ i = c) M5 (mup M5 247 c v) := fun v => zfr_mup ⟨rfl, rfl⟩
  rw [r_rainBy (a := 1) (c5.keep (g6 _) (by omega) (by omega) (by omega) (by unfold yTR; omega)) hq, mbd_some, r_rainBy (a := 0) (c0.keep (g6 _) (by omega) (by omega) (by omega) (by unfold yTR; omega)) hq, mbd_some, mwr_of (k := 248) (j := c) (by show c < 25; omega) (by decide), zob_some]
  refine zwp_ret ⟨rfl, zfr_trans f1 (zfr_trans (zfr_weak f15 ysc_r1) (zfr_trans (zfr_mup (by unfold ySc; omega)) (zfr_mup (by unfold ySc; omega)))), fun i hi => ?_⟩
  by_cases e : i = c
  · subst e
    exact ⟨by rw [mup_off (by decide), mup_on]; rfl, by rw [mup_on]; rfl⟩
  · have z := a1 i (by omega)
    rw [mup_off (by decide), mup_off' e, mup_off' e, mup_off (by decide), f15 247 i (by unfold yTR; omega), f15 248 i (by unfold yTR; omega)]
    exact z
/-- from the w-th way on no other is better -/
def yrst (A B : Nat → Int32) (i : Nat) : Nat → Bool
  | 0 => true
  | w + 1 => yrst A B i w && !(decide (A i < A (5 * w + i % 5)) || decide (B i < B (5 * (i / 5) + w)))
theorem yrst_f {A B : Nat → Int32} {i w : Nat} (d : Nat) (h : yrst A B i w = false) : yrst A B i (w + d) = false := by
  induction d with
  | zero => exact h
  | succ d ih => show (yrst A B i (w + d) && _) = false; rw [ih]; rfl
theorem y_isRest {k1 k2 : Nat} {A B : Nat → Int32} (d1 : (zds k1).2 = 25) (d2 : (zds k2).2 = 25) (ha : ∀ i, i < 25 → M.1 k1 i = A i) (hb : ∀ i, i < 25 → M.1 k2 i = B i) {i : Nat} (hi : i < 25) {m : Int32} (em : m = Int32.ofNat (5 * (i / 5))) :
    mbd (mlp (σ := Int32) (β := (Int32 ⊕ Int32)) zLF (fun s1 M2 =>
      if 5 ≤ s1 then some ((.inr (.inl s1)), M2)
      else zob (mrd M2 k1 ((5 * s1) + (zrm (Int32.ofNat i) 5))) (fun v6 => zob (mrd M2 k1 (Int32.ofNat i)) (fun v8 =>
        if v8 < v6 then some ((.inr (.inr 0)), M2)
        else zob (mrd M2 k2 (m + s1)) (fun v10 => zob (mrd M2 k2 (Int32.ofNat i)) (fun v12 =>
          if v10 ≤ v12 then some ((.inl (s1 + 1)), M2) else some ((.inr (.inr 0)), M2)))))) 0 M) (fun b13 M4 => zsl b13 (fun _ => some ((1 : Int32), M4)) (fun r => some (r, M4))) = some (if yrst A B i 5 = true then 1 else 0, M) := by
  subst em
  refine zwp_out ?_
  refine zwp_bd (Q' := fun b M' => M' = M ∧ match b with
      | .inl _ => yrst A B i 5 = true
      | .inr r => r = 0 ∧ yrst A B i 5 = false) (zwp_for 0 5 (fun c st M' => st = Int32.ofNat c ∧ M' = M ∧ yrst A B i c = true) ?_ ?_ ⟨rfl, rfl, rfl⟩ (Nat.zero_le _) (by decide)) ?_
  · rintro c st M' - hc ⟨rfl, rfl, hy⟩
    have es : yrst A B i (c + 1) = (yrst A B i c && !(decide (A i < A (5 * c + i % 5)) || decide (B i < B (5 * (i / 5) + c)))) := rfl
    have e5 := yrst_f (A := A) (B := B) (i := i) (w := c + 1) (5 - (c + 1))
    rw [show c + 1 + (5 - (c + 1)) = 5 by omega] at e5
    rw [if_neg (yge hc (by decide)), yrm5 (by omega), mrd_of (k := k1) (j := 5 * c + i % 5) (by omega) (by omega), zob_some, mrd_of (k := k1) (j := i) (by omega) (by omega), zob_some, ha _ (by omega), ha _ (by omega), mrd_of (k := k2) (j := 5 * (i / 5) + c) (by omega) (by omega), zob_some, mrd_of (k := k2) (j := i) (by omega) (by omega), zob_some, hb _ (by omega), hb _ (by omega)]
    by_cases z1 : A i < A (5 * c + i % 5)
    · rw [if_pos z1]
      exact zwp_ret ⟨rfl, rfl, e5 (by rw [es, hy]; simp [z1])⟩
    · rw [if_neg z1]
      by_cases z2 : B i < B (5 * (i / 5) + c)
      · rw [if_neg (Int32.not_le.mpr z2)]
        exact zwp_ret ⟨rfl, rfl, e5 (by rw [es, hy]; simp [z2])⟩
      · rw [if_pos (Int32.not_lt.mp z2)]
        exact zwp_ret ⟨yi_nn c, rfl, by rw [es, hy]; simp [z1, z2]⟩
  · rintro st M' ⟨rfl, rfl, hy⟩
    rw [if_pos (by decide)]
    exact zwp_ret ⟨rfl, hy⟩
  · rintro b M' ⟨rfl, q⟩
    match b, q with
    | .inl _, q => rw [zsl_l]; exact zwp_ret ⟨by rw [if_pos q], rfl⟩
    | .inr r, q => rw [zsl_r]; exact zwp_ret ⟨by rw [q.1, if_neg (by rw [q.2]; decide)], rfl⟩
theorem c_isRest {A B : Nat → Int32} (ha : ∀ i, i < 25 → M.1 97 i = A i) (hb : ∀ i, i < 25 → M.1 98 i = B i) {i : Nat} (hi : i < 25) : m_X1_isRest (Int32.ofNat i) M = some (if yrst A B i 5 = true then 1 else 0, M) :=
  y_isRest (k1 := 97) (k2 := 98) rfl rfl ha hb hi (m := 5 * (Int32.ofNat i / 5)) (by rw [ydv5 (by omega), show (5 : Int32) = Int32.ofNat 5 from rfl, ← Int32.ofNat_mul])
theorem r_isRest {A B : Nat → Int32} (ha : ∀ i, i < 25 → M.1 247 i = A i) (hb : ∀ i, i < 25 → M.1 248 i = B i) {i : Nat} (hi : i < 25) : m_X8_isRest (Int32.ofNat i) M = some (if yrst A B i 5 = true then 1 else 0, M) :=
  y_isRest (k1 := 247) (k2 := 248) rfl rfl ha hb hi (m := (Int32.ofNat i / 5) * 5) (by rw [ydv5 (by omega), show (5 : Int32) = Int32.ofNat 5 from rfl, ← Int32.ofNat_mul, Nat.mul_comm])
abbrev yrsL (A B : Nat → Int32) : Nat → List Int32 := ylst (fun i => yrst A B i 5 = true) (fun i => 10 * (Int32.ofNat i / 5) + zrm (Int32.ofNat i) 5)
theorem yrsL_at {A B : Nat → Int32} {c : Nat} (hc : c < 25) (h : yrst A B c 5 = true) : ∃ r, yrsL A B 25 = yrsL A B c ++ [10 * (Int32.ofNat c / 5) + zrm (Int32.ofNat c) 5] ++ r := by
  obtain ⟨r2, e2⟩ := ylst_pre (p := fun i => yrst A B i 5 = true) (g := fun i => 10 * (Int32.ofNat i / 5) + zrm (Int32.ofNat i) 5) (c := c + 1) (25 - (c + 1))
  rw [show c + 1 + (25 - (c + 1)) = 25 by omega] at e2
  refine ⟨r2, ?_⟩
  rw [show yrsL A B 25 = yrsL A B (c + 1) ++ r2 from e2]
  have e3 : yrsL A B (c + 1) = yrsL A B c ++ [10 * (Int32.ofNat c / 5) + zrm (Int32.ofNat c) 5] := by
    show yrsL A B c ++ (if yrst A B c 5 = true then _ else _) = _
    rw [if_pos h]
  rw [e3]
theorem yrsL_skip {A B : Nat → Int32} {c : Nat} (h : ¬ yrst A B c 5 = true) : yrsL A B (c + 1) = yrsL A B c := by
  show yrsL A B c ++ (if yrst A B c 5 = true then _ else _) = _
  rw [if_neg h, List.append_nil]
theorem yrsL_take {A B : Nat → Int32} {c : Nat} (h : yrst A B c 5 = true) : (yrsL A B (c + 1)).length = (yrsL A B c).length + 1 := by
  show (yrsL A B c ++ (if yrst A B c 5 = true then _ else _)).length = _
  rw [if_pos h, List.length_append]
  rfl
theorem r_restOf {A B : Nat → Int32} (ha : ∀ i, i < 25 → M.1 247 i = A i) (hb : ∀ i, i < 25 → M.1 248 i = B i) {a : Int32} (h0 : a = -1 ∨ ¬ a < 0) : m_X8_restOf a M = some (yget (yrsL A B 25) a, M) := by
  have ln : ∀ c, c ≤ 25 → (yrsL A B c).length ≤ 25 := fun c hc => Nat.le_trans (ylst_len c) hc
  refine zwp_out ?_
  unfold m_X8_restOf
  refine zwp_bd (Q' := fun b M' => M' = M ∧ match b with
      | .inl e => e.1 = Int32.ofNat (yrsL A B 25).length ∧ (a = -1 ∨ (yrsL A B 25).length ≤ a.toNatClampNeg)
      | .inr r => r = yget (yrsL A B 25) a) (zwp_for 0 25 (fun x st M' => st = (Int32.ofNat (yrsL A B x).length, Int32.ofNat x) ∧ M' = M ∧ (a = -1 ∨ (yrsL A B x).length ≤ a.toNatClampNeg)) ?_ ?_ ⟨rfl, rfl, Or.inr (Nat.zero_le _)⟩ (Nat.zero_le _) (by decide)) ?_
  · rintro c st M' - hc ⟨rfl, rfl, hl⟩
    have l1 := ln c (by omega)
    rw [if_neg (yge hc (by decide)), r_isRest ha hb hc, mbd_some]
    by_cases e : yrst A B c 5 = true
    · rw [if_pos e, if_neg (by decide)]
      by_cases ef : Int32.ofNat (yrsL A B c).length = a
      · rw [if_pos ef]
        obtain ⟨r, er⟩ := yrsL_at hc e
        exact zwp_ret ⟨rfl, by rw [er]; exact (yget_hit ef (by omega)).symm⟩
      · rw [if_neg ef]
        refine zwp_ret ⟨by rw [yrsL_take e, yi_nn, yi_nn], rfl, ?_⟩
        rcases hl with z | z
        · exact Or.inl z
        · rcases h0 with w | w
          · exact Or.inl w
          · right
            rw [yrsL_take e]
            refine Nat.lt_of_le_of_ne z (fun y => ef ?_)
            rw [y]
            rw [Int32.lt_iff_toInt_lt] at w
            have e0 : Int32.toInt 0 = 0 := by decide
            rw [← Int32.toInt_inj, Int32.toInt_ofNat_of_lt (by have := a.toInt_lt; unfold Int32.toNatClampNeg; omega)]
            unfold Int32.toNatClampNeg
            omega
    · rw [if_neg e, if_pos rfl]
      exact zwp_ret ⟨by rw [yrsL_skip e, yi_nn], rfl, by rw [yrsL_skip e]; exact hl⟩
  · rintro st M' ⟨rfl, rfl, hl⟩
    rw [if_pos (show (25 : Int32) ≤ Int32.ofNat 25 by decide)]
    exact zwp_ret ⟨rfl, rfl, hl⟩
  · rintro b M' ⟨rfl, q⟩
    match b, q with
    | .inl e, q =>
      rw [zsl_l]
      by_cases e1 : a = -1
      · rw [if_pos e1, q.1]
        exact zwp_ret ⟨by unfold yget; rw [if_pos e1], rfl⟩
      · rw [if_neg e1]
        refine zwp_ret ⟨?_, rfl⟩
        unfold yget
        rw [if_neg e1, List.getElem?_eq_none (q.2.resolve_left e1)]
        rfl
    | .inr r, q => rw [zsl_r]; exact zwp_ret ⟨q, rfl⟩
theorem y_two (h : yI W M t T S) (a b : Int32) :
    ((∀ M', yRT M' T → m_X8_areTwo a b M' = some (0, M')) ∧ ∀ (c : zMem → Option (Int32 × zMem)), (mbd (m_X7_isChild a M) (fun v2 M1 => if v2 = 0 then some ((-1), M1) else mbd (m_X7_isChild b M1) (fun v4 M3 => if v4 = 0 then some ((-1), M3) else if a = b then some ((-1), M3) else c M3))) = some (-1, M))
    ∨ ∃ p q, p < T.nh ∧ q < T.nh ∧ a = Int32.ofNat p ∧ b = Int32.ofNat q ∧ (∀ M', yRT M' T → m_X8_areTwo a b M' = some (1, M')) ∧ ∀ (c : zMem → Option (Int32 × zMem)), (mbd (m_X7_isChild a M) (fun v2 M1 => if v2 = 0 then some ((-1), M1) else mbd (m_X7_isChild b M1) (fun v4 M3 => if v4 = 0 then some ((-1), M3) else if a = b then some ((-1), M3) else c M3))) = c M := by
  unfold m_X8_areTwo
  rcases y_isChild h a with ⟨e1, e2⟩ | ⟨p, hp, ea, e1, e2⟩
  · left
    exact ⟨fun M' r => by rw [e2 M' r, mbd_some, if_pos rfl], fun c => by rw [e1, mbd_some, if_pos rfl]⟩
  · rcases y_isChild h b with ⟨g1, g2⟩ | ⟨q, hq, eb, g1, g2⟩
    · left
      exact ⟨fun M' r => by rw [e2 M' r, mbd_some, if_neg (by decide), g2 M' r, mbd_some, if_pos rfl], fun c => by rw [e1, mbd_some, if_neg (by decide), g1, mbd_some, if_pos rfl]⟩
    · by_cases e : a = b
      · left
        exact ⟨fun M' r => by rw [e2 M' r, mbd_some, if_neg (by decide), g2 M' r, mbd_some, if_neg (by decide), if_pos e], fun c => by rw [e1, mbd_some, if_neg (by decide), g1, mbd_some, if_neg (by decide), if_pos e]⟩
      · right
        exact ⟨p, q, hp, hq, ea, eb, fun M' r => by rw [e2 M' r, mbd_some, if_neg (by decide), g2 M' r, mbd_some, if_neg (by decide), if_neg e], fun c => by rw [e1, mbd_some, if_neg (by decide), g1, mbd_some, if_neg (by decide), if_neg e]⟩
theorem p_rests (h : yI W M t T S) (a b : Int32) : yPr W (m_X7_rests a b M) (m_X8_rests a b) := by
  have h1 := h.thr 0
  unfold m_X7_rests m_X8_rests
  rcases y_two h a b with ⟨e1, e2⟩ | ⟨p, q, hp, hq, rfl, rfl, e1, e2⟩
  · refine yPr.qq h (v := -1) (e2 _) ?_
    simp only [mlt_eq, e1 _ h1.rs.rt, mbd_some, if_true]
  · refine yPr.ss (v := Int32.ofNat (yrsL (yhas T S p q p) (yhas T S p q q) 25).length) h ?_ (fun M1 g => ?_)
    · rw [e2]
      refine zwp_bd (c_tryBoth h hp hq) ?_
      rintro _ M1 ⟨f1, ar⟩
      refine zwp_bd (Q' := fun b M' => b.1 = Int32.ofNat (yrsL (yhas T S p q p) (yhas T S p q q) 25).length ∧ M' = M1) (zwp_for 0 25 (fun x st M' => st = (Int32.ofNat (yrsL (yhas T S p q p) (yhas T S p q q) x).length, Int32.ofNat x) ∧ M' = M1) ?_ ?_ ⟨rfl, rfl⟩ (Nat.zero_le _) (by decide)) ?_
      · rintro c st M' - hc ⟨rfl, rfl⟩
        rw [if_neg (yge hc (by decide)), c_isRest (fun i hi => (ar i hi).1) (fun i hi => (ar i hi).2) hc, mbd_some]
        by_cases e : yrst (yhas T S p q p) (yhas T S p q q) c 5 = true
        · rw [if_pos e, if_neg (by decide)]
          exact zwp_ret ⟨by rw [yrsL_take e, yi_nn, yi_nn], rfl⟩
        · rw [if_neg e, if_pos rfl]
          exact zwp_ret ⟨by rw [yrsL_skip e, yi_nn], rfl⟩
      · rintro st M' ⟨rfl, rfl⟩
        rw [if_pos (show (25 : Int32) ≤ Int32.ofNat 25 by decide)]
        exact zwp_ret ⟨rfl, rfl⟩
      · rintro b M' ⟨e, rfl⟩
        exact zwp_ret ⟨e, f1⟩
    · have g1 := g.thr 0
      simp only [mlt_eq, e1 _ g1.rs.rt, mbd_some, one_ne, if_false]
      refine zwp_bd (r_layBoth g1 hp hq) ?_
      rintro _ M2 ⟨f2, ar⟩
      rw [r_restOf (fun i hi => (ar i hi).1) (fun i hi => (ar i hi).2) (Or.inl rfl), mbd_some]
      exact zwp_ret ⟨rfl, zfr_trans (zfr_mup (by unfold ySc; omega)) f2⟩
theorem p_rest (h : yI W M t T S) (a b d : Int32) : yPr W (m_X7_rest a b d M) (m_X8_rest a b d) := by
  have h1 := h.thr 0
  unfold m_X7_rest m_X8_rest
  rcases y_two h a b with ⟨e1, e2⟩ | ⟨p, q, hp, hq, rfl, rfl, e1, e2⟩
  · refine yPr.qq h (v := -1) (e2 _) ?_
    simp only [mlt_eq, e1 _ h1.rs.rt, mbd_some, if_true]
  · by_cases d0 : 0 ≤ d
    · obtain ⟨k, hk, rfl⟩ : ∃ k, k < 2147483648 ∧ d = Int32.ofNat k := by
        rw [Int32.le_iff_toInt_le] at d0
        have e0 : Int32.toInt 0 = 0 := by decide
        have := d.toInt_lt
        refine ⟨d.toInt.toNat, by omega, ?_⟩
        rw [← Int32.toInt_inj, Int32.toInt_ofNat_of_lt (by omega)]
        omega
      have yg : ∀ L : List Int32, yget L (Int32.ofNat k) = (L[k]?).getD (-2) := fun L => by
        unfold yget
        rw [if_neg (zi_n1 hk), zi_cl hk]
      refine yPr.ss (v := yget (yrsL (yhas T S p q p) (yhas T S p q q) 25) (Int32.ofNat k)) h ?_ (fun M1 g => ?_)
      · rw [e2, if_pos d0]
        refine zwp_bd (c_tryBoth h hp hq) ?_
        rintro _ M1 ⟨f1, ar⟩
        generalize yhas T S p q p = A at ar ⊢
        generalize yhas T S p q q = B at ar ⊢
        have ln : ∀ c, c ≤ 25 → (yrsL A B c).length ≤ 25 := fun c hc => Nat.le_trans (ylst_len c) hc
        refine zwp_bd (Q' := fun b M' => M' = M1 ∧ match b with
            | .inl _ => (yrsL A B 25).length ≤ k
            | .inr r => r = yget (yrsL A B 25) (Int32.ofNat k)) (zwp_for 0 25 (fun x st M' => st = (Int32.ofNat (k - (yrsL A B x).length), Int32.ofNat x) ∧ M' = M1 ∧ (yrsL A B x).length ≤ k) ?_ ?_ ⟨rfl, rfl, Nat.zero_le _⟩ (Nat.zero_le _) (by decide)) ?_
        · rintro c st M' - hc ⟨rfl, rfl, hl⟩
          have l1 := ln c (by omega)
          rw [if_neg (yge hc (by decide)), c_isRest (fun i hi => (ar i hi).1) (fun i hi => (ar i hi).2) hc, mbd_some]
          by_cases e : yrst A B c 5 = true
          · rw [if_pos e, if_neg (by decide)]
            by_cases ef : k = (yrsL A B c).length
            · rw [if_pos (by rw [← ef, Nat.sub_self]; rfl)]
              obtain ⟨r, er⟩ := yrsL_at hc e
              exact zwp_ret ⟨rfl, by rw [er]; exact (yget_hit (by rw [← ef]) (by omega)).symm⟩
            · rw [if_neg (by rw [show (0 : Int32) = Int32.ofNat 0 from rfl, zi_eq (by omega) (by omega)]; omega)]
              exact zwp_ret ⟨by rw [yrsL_take e, yi_nn, yi_a1 (by omega)]; rfl, rfl, by rw [yrsL_take e]; omega⟩
          · rw [if_neg e, if_pos rfl]
            exact zwp_ret ⟨by rw [yrsL_skip e, yi_nn], rfl, by rw [yrsL_skip e]; exact hl⟩
        · rintro st M' ⟨rfl, rfl, hl⟩
          rw [if_pos (show (25 : Int32) ≤ Int32.ofNat 25 by decide)]
          exact zwp_ret ⟨rfl, hl⟩
        · rintro b M' ⟨rfl, q⟩
          match b, q with
          | .inl e, q =>
            rw [zsl_l]
            refine zwp_ret ⟨?_, f1⟩
            rw [yg, List.getElem?_eq_none q]
            rfl
          | .inr r, q => rw [zsl_r]; exact zwp_ret ⟨q, f1⟩
      · have g1 := g.thr 0
        simp only [mlt_eq, e1 _ g1.rs.rt, mbd_some, one_ne, if_false]
        rw [if_pos d0]
        refine zwp_bd (r_layBoth g1 hp hq) ?_
        rintro _ M2 ⟨f2, ar⟩
        rw [r_restOf (fun i hi => (ar i hi).1) (fun i hi => (ar i hi).2) (Or.inr (Int32.not_lt.mpr d0)), mbd_some]
        exact zwp_ret ⟨rfl, zfr_trans (zfr_mup (by unfold ySc; omega)) f2⟩
    · refine yPr.qq h (v := -1) ?_ ?_
      · rw [e2, if_neg d0]
      · simp only [mlt_eq, e1 _ h1.rs.rt, mbd_some, one_ne, if_false]
        rw [if_neg d0]
end

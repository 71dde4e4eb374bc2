/-! promise by promise: where to stand, chance -/
def ysn (S : yA) (k : Nat) (g : Int32) (n : Nat) : Int32 := zsum (fun c => if S.state c = 1 ∧ ¬ g < yfar k (S.cell c) then 1 else 0) n
theorem ysn_bits {S : yA} {k n : Nat} {g : Int32} (hn : n ≤ 8) : ybc (ysee S k g n) = ysn S k g n := ybc_orr (fun c => S.state c = 1 ∧ ¬ g < yfar k (S.cell c)) hn
/-- how many are seen from the cell k in n hours -/
def yst (T : yT) (S : yA) (g : Int32) (k : Nat) : Nat → Int32
  | 0 => 0
  | n + 1 => yst T S g k n + ysn (ygo T 0 S (n + 1)) k g T.nc
def ybst (v : Nat → Int32) : Nat → Nat
  | 0 => 0
  | c + 1 => if v c ≤ v (ybst v c) then ybst v c else c
theorem ybst_lt {v : Nat → Int32} : ∀ c, 1 ≤ c → ybst v c < c := by
  intro c
  induction c with
  | zero => intro h; omega
  | succ c ih =>
    intro _
    show (if v c ≤ v (ybst v c) then ybst v c else c) < c + 1
    split
    · by_cases e : c = 0
      · subst e; show 0 < 1; omega
      · have := ih (by omega); omega
    · omega
theorem ybst_1 {v : Nat → Int32} : ybst v 1 = 0 := by
  show (if v 0 ≤ v 0 then 0 else 0) = 0
  split <;> rfl
/-- the first of the most, in the row r -/
theorem y_best {α : Type} {Q : α → zMem → Prop} {f : (Int32 × Int32) → zMem → Option (α × zMem)} {M : zMem} {r : Nat} {v : Nat → Int32} (d : (zds r).2 = 24) (hv : ∀ k, k < 24 → M.1 r k = v k)
    (hq : ∀ x, zwp (f (Int32.ofNat (ybst v 24), x) M) Q) :
    zwp (mbd (mlp (σ := (Int32 × Int32)) (β := (Int32 × Int32)) zLF (fun s M1 =>
      if 24 ≤ s.2 then some ((.inr (s.1, s.2)), M1)
      else zob (mrd M1 r s.2) (fun v1 => zob (mrd M1 r s.1) (fun v2 =>
        if v1 ≤ v2 then some ((.inl (s.1, (s.2 + 1))), M1) else some ((.inl (s.2, (s.2 + 1))), M1)))) (0, 1) M) f) Q := by
  refine zwp_bd (Q' := fun b M' => b.1 = Int32.ofNat (ybst v 24) ∧ M' = M) (zwp_for 1 24 (fun c st M' => st = (Int32.ofNat (ybst v c), Int32.ofNat c) ∧ M' = M) ?_ ?_ ⟨by rw [ybst_1]; rfl, rfl⟩ (by decide) (by decide)) ?_
  · rintro c st M' h1 hc ⟨rfl, rfl⟩
    have lt := ybst_lt (v := v) c h1
    have es : ybst v (c + 1) = if v c ≤ v (ybst v c) then ybst v c else c := rfl
    rw [if_neg (show ¬ (24 : Int32) ≤ Int32.ofNat c from yge hc (by decide)), mrd_of (k := r) (j := c) (by omega) (by omega), zob_some, mrd_of (k := r) (j := ybst v c) (by omega) (by omega), zob_some, hv _ hc, hv _ (by omega)]
    by_cases e : v c ≤ v (ybst v c)
    · rw [if_pos e]
      rw [if_pos e] at es
      exact zwp_ret ⟨by rw [es, yi_nn], rfl⟩
    · rw [if_neg e]
      rw [if_neg e] at es
      exact zwp_ret ⟨by rw [es, yi_nn], rfl⟩
  · rintro st M' ⟨rfl, rfl⟩
    rw [if_pos (show (24 : Int32) ≤ Int32.ofNat 24 by decide)]
    exact zwp_ret ⟨rfl, rfl⟩
  · rintro ⟨b1, b2⟩ M' ⟨e, rfl⟩
    obtain rfl : b1 = _ := e
    exact hq b2
section
variable {W : Nat → Int32} {M : zMem} {t : Nat} {T : yT} {S : yA}
theorem y_zero {α : Type} {Q : α → zMem → Prop} {f : Int32 → zMem → Option (α × zMem)} {r : Nat} (d : (zds r).2 = 24) (hr : r = 94 ∨ r = 246)
    (hq : ∀ b M', zfr ySc M M' → zfr (fun k _ => k = r) M M' → (∀ k, k < 24 → M'.1 r k = 0) → zwp (f b M') Q) :
    zwp (mbd (mlp (σ := Int32) (β := Int32) zLF (fun s4 M5 => if 24 ≤ s4 then some ((.inr s4), M5) else zob (mwr M5 r s4 0) (fun M9 => some ((.inl (s4 + 1)), M9))) 0 M) f) Q := by
  refine yfor (n := 24) (I := fun c M' => zfr ySc M M' ∧ zfr (fun k _ => k = r) M M' ∧ ∀ k, k < c → M'.1 r k = 0) ⟨zfr_refl, zfr_refl, fun k hk => absurd hk (by omega)⟩ (by decide) ?_ (fun M' _ => if_pos (by decide)) (fun b M' z => hq b M' z.1 z.2.1 z.2.2)
  rintro c M1 hc ⟨f1, f2, a1⟩
  rw [if_neg (yge hc (by decide)), mwr_of (k := r) (j := c) (by omega) (by omega), zob_some]
  refine zwp_ret ⟨rfl, zfr_trans f1 (zfr_mup (by unfold ySc; omega)), zfr_trans f2 (zfr_mup rfl), fun k hk => ?_⟩
  by_cases e : k = c
  · subst e; exact mup_on
  · rw [mup_off' e]; exact a1 k (by omega)
theorem c_stationOf (h : yI W M t T S) {q n : Nat} (hq : q < T.nh) (hn : n ≤ 60) : zwp (m_X1_stationOf 42 (Int32.ofNat q) (Int32.ofNat n) M) (fun r M' => r = Int32.ofNat (ybst (fun k => yst T S (T.sight q) k n) 24) ∧ zfr ySc M M' ∧ ∀ k, k < 24 → M'.1 94 k = yst T S (T.sight q) k n) := by
  have hr := h.hr
  have b1 := h.cs.tk.nc
  have hfu : zLF = 100000 := rfl
  unfold m_X1_stationOf
  refine zwp_bd (c_copy (s := 99) (s' := 42) h.cs (by unfold ySP; decide) (by decide)) ?_
  rintro _ M1 ⟨c1, f1⟩
  refine y_zero (r := 94) rfl (Or.inl rfl) (fun _ M2 g2 f2 a2 => ?_)
  have c2 : yCS M2 99 t 0 T S := c1.keep f2 (by omega)
  have e0 := (h.keep (zfr_trans (zfr_weak f1 ysc_99) g2)).cs
  rw [mlt_eq, e0.tp, e0.ct.rSight e0.tk hq, zob_some]
  refine zwp_bd (Q' := fun _ M' => zfr ySc M M' ∧ ∀ k, k < 24 → M'.1 94 k = yst T S (T.sight q) k n) (zwp_for 0 n (fun c st M' => st = Int32.ofNat c ∧ yCS M' 99 t 0 T (ygo T 0 S c) ∧ zfr ySc M M' ∧ ∀ k, k < 24 → M'.1 94 k = yst T S (T.sight q) k c) ?_ ?_ ⟨rfl, c2, zfr_trans (zfr_weak f1 ysc_99) g2, a2⟩ (Nat.zero_le _) (by omega)) ?_
  · rintro c st M3 - hc ⟨rfl, c3, f3, a3⟩
    rw [if_neg (yge hc (by omega)), c_wind c3 (by rw [ygo_hour]; omega), mbd_some]
    refine zwp_bd (c_pass c3 _) ?_
    rintro _ M4 ⟨c4, f4⟩
    have a4 : ∀ k, k < 24 → M4.1 94 k = yst T S (T.sight q) k c := fun k hk => (f4 94 k (by unfold yTC; omega)).trans (a3 k hk)
    refine yfor (n := 24) (I := fun d M' => yCS M' 99 t 0 T (ygo T 0 S (c + 1)) ∧ zfr ySc M M' ∧ (∀ k, k < d → M'.1 94 k = yst T S (T.sight q) k (c + 1)) ∧ ∀ k, d ≤ k → k < 24 → M'.1 94 k = yst T S (T.sight q) k c) ⟨c4, zfr_trans f3 (zfr_weak f4 ysc_99), fun k hk => absurd hk (by omega), fun k _ hk => a4 k hk⟩ (by decide) ?_ (fun M' _ => if_pos (by decide)) (fun _ M' z => zwp_ret ⟨yi_nn c, z.1, z.2.1, z.2.2.1⟩)
    rintro d M5 hd ⟨c5, f5, a5, b5⟩
    rw [if_neg (yge hd (by decide)), mrd_of (k := 94) (j := d) (by show d < 24; omega) (by decide), zob_some, yrm6 d hd, ydv6 d hd, c_seenFrom c5, mbd_some, c_bitCount, mbd_some, ysn_bits (by omega), b5 d (Nat.le_refl _) hd, mwr_of (k := 94) (j := d) (by show d < 24; omega) (by decide), zob_some]
    have g6 : ∀ v, zfr (fun k i => k = 94 ∧ i = d) M5 (mup M5 94 d v) := fun v => zfr_mup ⟨rfl, rfl⟩
    refine zwp_ret ⟨rfl, c5.keep (g6 _) (by omega), zfr_trans f5 (zfr_mup (by unfold ySc; omega)), fun k hk => ?_, fun k k1 k2 => ?_⟩
    · by_cases e : k = d
      · subst e; exact mup_on
      · rw [mup_off' e]; exact a5 k (by omega)
    · rw [mup_off' (by omega)]; exact b5 k (by omega) k2
  · rintro st M3 ⟨rfl, c3, f3, a3⟩
    rw [if_pos (Int32.le_refl _)]
    exact zwp_ret ⟨f3, a3⟩
  · rintro _ M3 ⟨f3, a3⟩
    exact y_best (r := 94) rfl a3 (fun x => zwp_ret ⟨rfl, f3, a3⟩)
theorem r_station (h : yI W M t T S) {q n : Nat} (hq : q < T.nh) (hn : n ≤ 60) {α : Type} {Q : α → zMem → Prop} {f : (Int32 × Int32) → zMem → Option (α × zMem)}
    (kk : ∀ x M', zfr ySc M M' → (∀ k, k < 24 → M'.1 246 k = yst T S (T.sight q) k n) → zwp (f (Int32.ofNat (ybst (fun k => yst T S (T.sight q) k n) 24), x) M') Q) :
    zwp (mbd (
      mlp (σ := Int32) (β := Int32) zLF (fun s4 M5 =>
      if 24 ≤ s4 then
      some ((.inr s4), M5)
      else
      zob (mwr M5 246 s4 0) (fun M9 =>
      some ((.inl (s4 + 1)), M9))) 0 M) (fun _ M7 =>
      mbd (m_X8_copies 1 0 M7) (fun _ M10 =>
      mbd (
      mlp (σ := Int32) (β := Int32) zLF (fun s12 M13 =>
      if (Int32.ofNat n) ≤ s12 then
      some ((.inr s12), M13)
      else
      mbd (m_X8_passes 1 M13) (fun _ M16 =>
      mbd (
      mlp (σ := Int32) (β := Int32) zLF (fun s18 M19 =>
      zob (mrd M19 215 1) (fun v23 =>
      if v23 ≤ s18 then
      some ((.inr s18), M19)
      else
      mbd (m_X8_isUp 1 s18 M19) (fun v25 M24 =>
      if v25 = 0 then
      some ((.inl (s18 + 1)), M24)
      else
      mbd (
      mlp (σ := Int32) (β := Int32) zLF (fun s26 M27 =>
      if 24 ≤ s26 then
      some ((.inr s26), M27)
      else
      zob (mrd M27 246 s26) (fun v31 =>
      zob (mrd M27 236 (8 + s18)) (fun v33 =>
      mbd (m_X8_farOf s26 v33 M27) (fun v35 M34 =>
      zob (mrd M34 226 (Int32.ofNat q)) (fun v37 =>
      mbd (α := Int32) (
      if v37 < v35 then
      some (0, M34)
      else
      some (1, M34)) (fun e38 M39 =>
      zob (mwr M39 246 s26 (v31 + e38)) (fun M40 =>
      some ((.inl (s26 + 1)), M40)))))))) 0 M24) (fun _ M29 =>
      some ((.inl (s18 + 1)), M29))))) 0 M16) (fun _ M21 =>
      some ((.inl (s12 + 1)), M21)))) 0 M10) (fun _ M15 =>
      mbd (
      mlp (σ := (Int32 × Int32)) (β := (Int32 × Int32)) zLF (fun s41 M42 =>
      if 24 ≤ s41.2 then
      some ((.inr (s41.1, s41.2)), M42)
      else
      zob (mrd M42 246 s41.2) (fun v46 =>
      zob (mrd M42 246 s41.1) (fun v48 =>
      if v46 ≤ v48 then
      some ((.inl (s41.1, (s41.2 + 1))), M42)
      else
      some ((.inl (s41.2, (s41.2 + 1))), M42)))) (0, 1) M15) f)))) Q := by
  have hr := h.hr
  have b1 := h.cs.tk.nc
  have hfu : zLF = 100000 := rfl
  refine y_zero (r := 246) rfl (Or.inr rfl) (fun _ M2 g2 f2 a2 => ?_)
  have h2 := h.keep g2
  refine zwp_bd (r_copies (to := 1) (sl := 0) h2.rs (by omega) (by omega)) ?_
  rintro _ M3 ⟨r3, f3⟩
  refine zwp_bd (Q' := fun _ M' => zfr ySc M M' ∧ ∀ k, k < 24 → M'.1 246 k = yst T S (T.sight q) k n) (zwp_for 0 n (fun c st M' => st = Int32.ofNat c ∧ yRS M' 1 0 T (ygo T 0 S c) ∧ zfr ySc M M' ∧ M'.1 213 51 = -1 ∧ ∀ k, k < 24 → M'.1 246 k = yst T S (T.sight q) k c) ?_ ?_ ⟨rfl, r3, zfr_trans g2 (zfr_weak f3 ysc_r1), (f3 213 51 (by unfold yTR; omega)).trans h2.mis.c, fun k hk => (f3 246 k (by unfold yTR; omega)).trans (a2 k hk)⟩ (Nat.zero_le _) (by omega)) ?_
  · rintro c st M4 - hc ⟨rfl, r4, f4, w4, a4⟩
    rw [if_neg (yge hc (by omega))]
    refine zwp_bd (r_pass (a := 1) r4 (by rw [ygo_hour]; omega) w4) ?_
    rintro _ M5 ⟨r5, f5⟩
    rw [yww_n] at r5
    have a5 : ∀ k, k < 24 → M5.1 246 k = yst T S (T.sight q) k c + ysn (ygo T 0 S (c + 1)) k (T.sight q) 0 := fun k hk => by
      rw [f5 246 k (by unfold yTR; omega), a4 k hk]
      exact (yad0 _).symm
    refine yfor (n := T.nc) (I := fun d M' => yRS M' 1 0 T (ygo T 0 S (c + 1)) ∧ zfr ySc M M' ∧ M'.1 213 51 = -1 ∧ ∀ k, k < 24 → M'.1 246 k = yst T S (T.sight q) k c + ysn (ygo T 0 S (c + 1)) k (T.sight q) d) ⟨r5, zfr_trans f4 (zfr_weak f5 ysc_r1), (f5 213 51 (by unfold yTR; omega)).trans w4, a5⟩ (by omega) ?_ (fun M' z => by rw [z.1.rt.rNc, zob_some, if_pos (Int32.le_refl _)]) (fun _ M' z => zwp_ret ⟨yi_nn c, z.1, z.2.1, z.2.2.1, z.2.2.2⟩)
    rintro d M6 hd ⟨r6, f6, w6, a6⟩
    have es : ∀ k, ysn (ygo T 0 S (c + 1)) k (T.sight q) (d + 1) = ysn (ygo T 0 S (c + 1)) k (T.sight q) d + (if (ygo T 0 S (c + 1)).state d = 1 ∧ ¬ T.sight q < yfar k ((ygo T 0 S (c + 1)).cell d) then 1 else 0) := fun k => rfl
    rw [r6.rt.rNc, zob_some, if_neg (yge hd (by omega))]
    by_cases hu : (ygo T 0 S (c + 1)).state d = 1
    · rw [r_isUp1 (a := 1) r6 hd hu, mbd_some, if_neg (by decide)]
      refine yfor (n := 24) (I := fun j M' => yRS M' 1 0 T (ygo T 0 S (c + 1)) ∧ zfr ySc M M' ∧ M'.1 213 51 = -1 ∧ (∀ k, k < j → M'.1 246 k = yst T S (T.sight q) k c + ysn (ygo T 0 S (c + 1)) k (T.sight q) (d + 1)) ∧ ∀ k, j ≤ k → k < 24 → M'.1 246 k = yst T S (T.sight q) k c + ysn (ygo T 0 S (c + 1)) k (T.sight q) d) ⟨r6, f6, w6, fun k hk => absurd hk (by omega), fun k _ hk => a6 k hk⟩ (by decide) ?_ (fun M' _ => if_pos (by decide)) (fun _ M' z => zwp_ret ⟨rfl, z.1, z.2.1, z.2.2.1, z.2.2.2.1⟩)
      rintro j M7 hj ⟨r7, f7, w7, a7, b7⟩
      have rd : mrd M7 236 (8 + Int32.ofNat d) = some (Int32.ofNat ((ygo T 0 S (c + 1)).cell d)) := by
        rw [mrd_of (k := 236) (j := 8 + d) (by show 8 + d < 184; omega) (by decide)]
        have z := r7.cell d hd
        rw [show 8 * 1 + d = 8 + d by omega] at z
        rw [z]
      rw [if_neg (yge hj (by decide)), mrd_of (k := 246) (j := j) (by show j < 24; omega) (by decide), zob_some, rd, zob_some, r_farOf hj (r7.ok.cell d hd), mbd_some, r7.rt.rSight r7.tk hq, zob_some, b7 j (Nat.le_refl _) hj]
      have e1 : (if T.sight q < yfar j ((ygo T 0 S (c + 1)).cell d) then some ((0 : Int32), M7) else some (1, M7)) = some (if (ygo T 0 S (c + 1)).state d = 1 ∧ ¬ T.sight q < yfar j ((ygo T 0 S (c + 1)).cell d) then 1 else 0, M7) := by
        by_cases z : T.sight q < yfar j ((ygo T 0 S (c + 1)).cell d)
        · rw [if_pos z, if_neg (fun w => w.2 z)]
        · rw [if_neg z, if_pos ⟨hu, z⟩]
      rw [e1, mbd_some, mwr_of (k := 246) (j := j) (by show j < 24; omega) (by decide), zob_some, Int32.add_assoc, ← es]
      have g8 : ∀ v, zfr (fun k i => k = 246 ∧ i = j) M7 (mup M7 246 j v) := fun v => zfr_mup ⟨rfl, rfl⟩
      refine zwp_ret ⟨rfl, r7.keep (g8 _) (by omega) (by omega) (by omega) (by unfold yTR; omega), zfr_trans f7 (zfr_mup (by unfold ySc; omega)), (mup_off (by decide)).trans w7, fun k hk => ?_, fun k k1 k2 => ?_⟩
      · by_cases e : k = j
        · subst e; exact mup_on
        · rw [mup_off' e]; exact a7 k (by omega)
      · rw [mup_off' (by omega)]; exact b7 k (by omega) k2
    · rw [r_isUp0 (a := 1) r6 hd hu, mbd_some, if_pos rfl]
      refine zwp_ret ⟨rfl, r6, f6, w6, fun k hk => ?_⟩
      rw [es, if_neg (fun z => hu z.1), yad0]
      exact a6 k hk
  · rintro st M4 ⟨rfl, r4, f4, w4, a4⟩
    rw [if_pos (Int32.le_refl _)]
    exact zwp_ret ⟨f4, a4⟩
  · rintro _ M4 ⟨f4, a4⟩
    exact y_best (r := 246) rfl a4 (fun x => kk x M4 f4 a4)
theorem p_station (h : yI W M t T S) (a b d : Int32) : yPr W (m_X7_station a b d M) (m_X8_station a b d) := by
  have h1 := h.thr 0
  unfold m_X7_station m_X8_station
  rcases y_isChild h a with ⟨e1, e2⟩ | ⟨q, hq, rfl, e1, e2⟩
  · refine yPr.qq h (v := -1) ?_ ?_
    · simp only [e1, mbd_some, if_true]
    · simp only [mlt_eq, e2 _ h1.rs.rt, mbd_some, if_true]
  · have e2' := e2 _ h1.rs.rt
    rcases y_from 1 60 b M with ⟨e, ho⟩ | ⟨e, l1, l2, l3⟩
    · refine yPr.qq h (v := -1) ?_ ?_
      · simp only [e1, e, mbd_some, one_ne, if_false, if_true]
      · simp only [mlt_eq, e2', mbd_some, one_ne, if_false]
        rcases ho with z | ⟨z1, z2, z3⟩
        · rw [if_pos z]
        · rw [if_neg z1, if_pos z2]
    · rcases y_from 0 1 d M with ⟨e', ho⟩ | ⟨e', m1, m2, m3⟩
      · refine yPr.qq h (v := -1) ?_ ?_
        · simp only [e1, e, e', mbd_some, one_ne, if_false, if_true]
        · simp only [mlt_eq, e2', mbd_some, one_ne, if_false, l1, l2]
          rcases ho with z | ⟨z1, z2, z3⟩
          · rw [if_pos z]
          · rw [if_neg z1, if_neg z3]
      · obtain ⟨n, hn1, hn, rfl⟩ := y_nat 1 60 rfl rfl (by decide) (by decide) l1 l2
        have lt := ybst_lt (v := fun k => yst T S (T.sight q) k n) 24 (by decide)
        refine yPr.ss (v := if d = 0 then Int32.ofNat (ybst (fun k => yst T S (T.sight q) k n) 24) else yst T S (T.sight q) (ybst (fun k => yst T S (T.sight q) k n) 24) n) h ?_ (fun M1 g => ?_)
        · simp only [e1, e, e', mbd_some, one_ne, if_false]
          refine zwp_bd (c_stationOf h hq hn) ?_
          rintro r M1 ⟨rfl, f1, a1⟩
          by_cases d0 : d = 0
          · rw [if_pos d0, if_pos d0]
            exact zwp_ret ⟨rfl, f1⟩
          · rw [if_neg d0, if_neg d0]
            unfold m_X1_seenFrom
            rw [if_neg (zi_nn (by omega)), if_neg (by rw [show (24 : Int32) = Int32.ofNat 24 from rfl, zi_le (by omega) (by omega)]; omega), mrd_of (k := 94) (j := ybst (fun k => yst T S (T.sight q) k n) 24) lt (by decide), zob_some, mbd_some, a1 _ lt]
            exact zwp_ret ⟨rfl, f1⟩
        · have g1 := g.thr 0
          simp only [mlt_eq, e2 _ g1.rs.rt, mbd_some, one_ne, if_false, l1, l2, m1, m3, if_true]
          refine r_station g1 hq hn (fun x M' f' a' => ?_)
          have ff : zfr ySc M1 M' := zfr_trans (zfr_mup (by unfold ySc; omega)) f'
          by_cases d0 : d = 0
          · rw [if_pos d0, if_pos d0]
            exact zwp_ret ⟨rfl, ff⟩
          · rw [if_neg d0, if_neg d0, mrd_of (k := 246) (j := ybst (fun k => yst T S (T.sight q) k n) 24) lt (by decide), zob_some, a' _ lt]
            exact zwp_ret ⟨rfl, ff⟩
end

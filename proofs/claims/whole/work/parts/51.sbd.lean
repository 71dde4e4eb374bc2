/-! how large clouds are, hour by hour -/
theorem zfd_ind {τ : Type} {f : Nat → τ → τ} (P : Nat → τ → Prop) {S : τ} {n : Nat} (h0 : P 0 S) (hs : ∀ c S, c < n → P c S → P (c + 1) (f c S)) : P n (zfd f n S) := by
  have key : ∀ m, m ≤ n → P m (zfd f m S) := by
    intro m
    induction m with
    | zero => exact fun _ => h0
    | succ m ih => exact fun hm => hs m _ (by omega) (ih (by omega))
  exact key n (Nat.le_refl _)
theorem ybd_rng (r : Option Int64) {m q : Nat} (hm : m < 1000) (hq : q ≤ m) : ∃ k, k ≤ m ∧ ybd r (Int32.ofNat m) (Int32.ofNat q) = Int32.ofNat k := by
  cases r with
  | none => exact ⟨q, hq, rfl⟩
  | some w =>
    have key : ∃ k, k ≤ m ∧ zmxL 0 (zmnL (Int32.toInt64 (Int32.ofNat m)) w) = Int32.toInt64 (Int32.ofNat k) := by
      have em : (Int32.toInt64 (Int32.ofNat m)).toInt = m := by rw [Int32.toInt_toInt64, Int32.toInt_ofNat_of_lt (by omega)]
      have e0 : Int64.toInt 0 = 0 := by decide
      unfold zmxL zmnL
      by_cases h1 : w < Int32.toInt64 (Int32.ofNat m)
      · rw [if_pos h1]
        by_cases h2 : w < 0
        · rw [if_pos h2]; exact ⟨0, Nat.zero_le _, by decide⟩
        · rw [if_neg h2]
          rw [Int64.lt_iff_toInt_lt] at h1 h2
          rw [em] at h1
          rw [e0] at h2
          refine ⟨w.toInt.toNat, by omega, ?_⟩
          rw [← Int64.toInt_inj, Int32.toInt_toInt64, Int32.toInt_ofNat_of_lt (by omega)]
          omega
      · rw [if_neg h1]
        have h2 : ¬ Int32.toInt64 (Int32.ofNat m) < 0 := by rw [Int64.lt_iff_toInt_lt, em, e0]; omega
        rw [if_neg h2]
        exact ⟨m, Nat.le_refl _, rfl⟩
    obtain ⟨k, hk, e⟩ := key
    refine ⟨k, hk, ?_⟩
    show Int64.toInt32 (zmxL 0 (zmnL (Int32.toInt64 (Int32.ofNat m)) w)) = _
    rw [e, Int32.toInt32_toInt64]
theorem zmn20 {x : Nat} (h : x < 1000) : zmn 20 (Int32.ofNat x) = Int32.ofNat (if x < 20 then x else 20) := by
  unfold zmn
  rw [show (20 : Int32) = Int32.ofNat 20 from rfl]
  by_cases e : x < 20
  · rw [if_pos ((zi_lt (by omega) (by omega)).mpr e), if_pos e]
  · rw [if_neg (fun z => e ((zi_lt (by omega) (by omega)).mp z)), if_neg e]
theorem yhalf : ∀ k, k < 21 → zmx 1 (Int32.ofNat k / 2) = Int32.ofNat (if k / 2 < 1 then 1 else k / 2) := by decide +kernel
def yBz (T : yT) (S : yA) : Prop := ∀ c, c < T.nc → ∃ k, k ≤ 20 ∧ S.size c = Int32.ofNat k ∧ (S.state c ≠ 4 → 1 ≤ k)
def yBg (T : yT) (S : yA) (G : Nat) : Prop := ∀ f, f < T.nf → ∃ g, g ≤ G ∧ S.got f = Int32.ofNat g
section
variable {T : yT} {S : yA} {o w : Int32} {c : Nat}
theorem ybz_st (h : yBz T S) {v : Int32} (hs : S.state c ≠ 4) : yBz T (yA.w_state S (yu S.state c v)) := by
  intro d hd
  obtain ⟨k, k1, k2, k3⟩ := h d hd
  refine ⟨k, k1, k2, fun z => ?_⟩
  by_cases e : d = c
  · subst e; exact k3 hs
  · refine k3 ?_
    have z' : yu S.state c v d ≠ 4 := z
    rw [yu_off e] at z'
    exact z'
theorem ybz_sz (h : yBz T S) {k : Nat} (hk : 1 ≤ k) (hk' : k ≤ 20) : yBz T (yA.w_size S (yu S.size c (Int32.ofNat k))) := by
  intro d hd
  by_cases e : d = c
  · subst e
    exact ⟨k, hk', yu_on, fun _ => hk⟩
  · obtain ⟨k, k1, k2, k3⟩ := h d hd
    exact ⟨k, k1, (yu_off e).trans k2, k3⟩
theorem ybz_bear (h : yBz T S) : yBz T (ybear1 T c S) := by
  unfold ybear1
  split
  · next e => exact ybz_st h (by rw [e.1]; decide)
  · exact h
theorem ybz_mv (h : yBz T S) (hs : S.state c = 1) : yBz T (ymv w c S) := by
  unfold ymv
  split
  · exact h
  · exact ybz_st h (by rw [hs]; decide)
theorem ybz_drift (h : yBz T S) : yBz T (ydrift1 w c S) := by
  unfold ydrift1
  split
  · next e => exact ybz_mv h e
  · exact h
theorem ybz_grow (h : yBz T S) (hc : c < T.nc) : yBz T (ygrow1 T o c S) := by
  unfold ygrow1
  split
  · next e =>
    obtain ⟨k, k1, k2, k3⟩ := h c hc
    have k3 := k3 (by rw [e]; decide)
    obtain ⟨v, v1, v2⟩ := ybd_rng (ywo T o S 0 c) (m := 9) (q := if ygr T o (S.cell c) = 1 then 1 else 0) (by decide) (by split <;> decide)
    have v3 : ybd (ywo T o S 0 c) 9 (if ygr T o (S.cell c) = 1 then 1 else 0) = Int32.ofNat v := by
      rw [← v2]
      congr 1
      split <;> rfl
    rw [v3, k2, ← Int32.ofNat_add, zmn20 (by omega)]
    exact ybz_sz h (by split <;> omega) (by split <;> omega)
  · exact h
theorem ybz_join2 {a b : Nat} (h : yBz T S) (ha : a < T.nc) (hb : b < T.nc) : yBz T (yjoin2 a b S) := by
  unfold yjoin2
  split
  · next e =>
    obtain ⟨ka, a1, a2, a3⟩ := h a ha
    obtain ⟨kb, b1, b2, b3⟩ := h b hb
    have a3 := a3 (by rw [e.1]; decide)
    have b3 := b3 (by rw [e.2.1]; decide)
    rw [a2, b2, ← Int32.ofNat_add, zmn20 (by omega)]
    split
    · exact ybz_st (S := yA.w_size S _) (ybz_sz h (by split <;> omega) (by split <;> omega)) (by show S.state a ≠ 4; rw [e.1]; decide)
    · exact ybz_st (S := yA.w_size S _) (ybz_sz h (by split <;> omega) (by split <;> omega)) (by show S.state b ≠ 4; rw [e.2.1]; decide)
  · exact h
theorem ybz_join {a : Nat} (h : yBz T S) (ha : a < T.nc) : yBz T (yjoin1 T.nc a S) := by
  unfold yjoin1
  refine zfd_ind (fun _ S => yBz T S) h (fun b S hb q => ?_)
  split
  · exact ybz_join2 q ha hb
  · exact q
theorem yg_bear : (ybear1 T c S).got = S.got := by unfold ybear1; split <;> rfl
theorem yg_mv : (ymv w c S).got = S.got := by unfold ymv; split <;> rfl
theorem yg_drift : (ydrift1 w c S).got = S.got := by
  unfold ydrift1
  split
  · exact yg_mv
  · rfl
theorem yg_grow : (ygrow1 T o c S).got = S.got := by unfold ygrow1; split <;> rfl
theorem yg_join2 {a b : Nat} : (yjoin2 a b S).got = S.got := by
  unfold yjoin2
  split
  · split <;> rfl
  · rfl
theorem yg_join {n a : Nat} : (yjoin1 n a S).got = S.got := by
  unfold yjoin1
  refine zfd_keep yA.got (fun b S => ?_) n S
  split
  · exact yg_join2
  · rfl
theorem yg_give : (ygive1 T c S).got = S.got ∧ (ygive1 T c S).size = S.size ∧ (ygive1 T c S).state = S.state := by unfold ygive1; split <;> exact ⟨rfl, rfl, rfl⟩
theorem yg_mark2 {h : Nat} : (ymark2 T o h c S).got = S.got ∧ (ymark2 T o h c S).size = S.size ∧ (ymark2 T o h c S).state = S.state := by unfold ymark2; split <;> exact ⟨rfl, rfl, rfl⟩
theorem yg_mark {h : Nat} : (ymark1 T o h S).got = S.got ∧ (ymark1 T o h S).size = S.size ∧ (ymark1 T o h S).state = S.state :=
  ⟨zfd_keep yA.got (fun _ _ => yg_mark2.1) _ _, zfd_keep yA.size (fun _ _ => yg_mark2.2.1) _ _, zfd_keep yA.state (fun _ _ => yg_mark2.2.2) _ _⟩
theorem yg_age : (yage1 c S).got = S.got ∧ (yage1 c S).size = S.size ∧ (yage1 c S).state = S.state := by unfold yage1; split <;> exact ⟨rfl, rfl, rfl⟩
theorem ybg_wet {v : Nat} (G : Nat) (hv : v ≤ 20) (h : yBg T S G) (n : Nat) : (∀ f, f < T.nf → ∃ g, g ≤ (if f < n then G + 20 else G) ∧ (zfd (ywet1 T c (Int32.ofNat v)) n S).got f = Int32.ofNat g) := by
  induction n with
  | zero => intro f hf; rw [if_neg (by omega)]; exact h f hf
  | succ n ih =>
    intro f hf
    show ∃ g, _ ∧ (ywet1 T c (Int32.ofNat v) n (zfd (ywet1 T c (Int32.ofNat v)) n S)).got f = _
    obtain ⟨g, g1, g2⟩ := ih f hf
    have gg : ∀ S' : yA, (ywet1 T c (Int32.ofNat v) n S').got f = S'.got f ∨ (f = n ∧ (ywet1 T c (Int32.ofNat v) n S').got f = S'.got f + Int32.ofNat v) := by
      intro S'
      unfold ywet1
      by_cases e : f = n
      · subst e
        split
        · right
          refine ⟨rfl, ?_⟩
          split <;> exact yu_on
        · exact Or.inl rfl
      · left
        split
        · split <;> exact yu_off e
        · rfl
    rcases gg (zfd (ywet1 T c (Int32.ofNat v)) n S) with z | ⟨z1, z2⟩
    · exact ⟨g, by split at g1 <;> split <;> omega, z.trans g2⟩
    · subst z1
      rw [if_neg (by omega)] at g1
      exact ⟨g + v, by rw [if_pos (by omega)]; omega, by rw [z2, g2, Int32.ofNat_add]⟩
theorem ybz_fall {G : Nat} (h : yBz T S) (hg : yBg T S G) (hc : c < T.nc) : yBz T (yfall1 T o c S) ∧ yBg T (yfall1 T o c S) (G + 20) := by
  unfold yfall1
  split
  · next e =>
    obtain ⟨k, k1, k2, k3⟩ := h c hc
    have k3 := k3 (by rw [e.1]; decide)
    obtain ⟨v, v1, v2⟩ := ybd_rng (ywo T o S 1 c) (m := k) (q := if k / 2 < 1 then 1 else k / 2) (by omega) (by split <;> omega)
    have v3 : yfv T o c S = Int32.ofNat v := by
      unfold yfv
      rw [k2, yhalf k (by omega)]
      exact v2
    rw [v3]
    have kp := ywet_keep (T := T) (c := c) (v := Int32.ofNat v) T.nf S
    have wt := ybg_wet (T := T) (S := S) (c := c) G (by omega : v ≤ 20) hg T.nf
    generalize zfd (ywet1 T c (Int32.ofNat v)) T.nf S = S1 at kp wt ⊢
    have hz : yBz T S1 := by
      intro d hd
      rw [kp.2.2.1, kp.2.2.2]
      exact h d hd
    have hg1 : yBg T S1 (G + 20) := by
      intro f hf
      obtain ⟨g, g1, g2⟩ := wt f hf
      rw [if_pos hf] at g1
      exact ⟨g, g1, g2⟩
    have es : S1.size c - Int32.ofNat v = Int32.ofNat (k - v) := by
      rw [kp.2.2.1, k2, yi_sub v1]
    unfold ydry
    rw [es]
    split
    · next e0 =>
      refine ⟨?_, hg1⟩
      intro d hd
      by_cases ed : d = c
      · subst ed
        exact ⟨k - v, by omega, yu_on, fun z => absurd (show yu S1.state d 4 d = 4 from yu_on) z⟩
      · obtain ⟨q, q1, q2, q3⟩ := hz d hd
        refine ⟨q, q1, (yu_off ed).trans q2, fun z => q3 ?_⟩
        have z' : yu S1.state c 4 d ≠ 4 := z
        rw [yu_off ed] at z'
        exact z'
    · next e0 =>
      refine ⟨ybz_sz hz ?_ (by omega), hg1⟩
      have : ¬ k - v = 0 := fun z => e0 (by rw [z]; rfl)
      omega
  · refine ⟨h, fun f hf => ?_⟩
    obtain ⟨g, g1, g2⟩ := hg f hf
    exact ⟨g, by omega, g2⟩
theorem ypass_bd (tk : yTok T) (h : yBd T S) : yBd T (ypass T o w S) := by
  have b1 := tk.nc
  have hh := ypass_hour T o w S
  obtain ⟨h0, h1, h2⟩ := h
  have z1 : yBz T (zfd (ybear1 T) T.nc S) := zfd_ind (fun _ S => yBz T S) h1 (fun c S _ q => ybz_bear q)
  have z2 : yBz T (zfd (ydrift1 w) T.nc (zfd (ybear1 T) T.nc S)) := zfd_ind (fun _ S => yBz T S) z1 (fun c S _ q => ybz_drift q)
  have z3 : yBz T (zfd (ygrow1 T o) T.nc (zfd (ydrift1 w) T.nc (zfd (ybear1 T) T.nc S))) := zfd_ind (fun _ S => yBz T S) z2 (fun c S hc q => ybz_grow q hc)
  have g3 : (zfd (ygrow1 T o) T.nc (zfd (ydrift1 w) T.nc (zfd (ybear1 T) T.nc S))).got = S.got := by
    rw [zfd_keep yA.got (fun _ _ => yg_grow), zfd_keep yA.got (fun _ _ => yg_drift), zfd_keep yA.got (fun _ _ => yg_bear)]
  have e : ypass T o w S = yhour (zfd yage1 T.nc (zfd (ymark1 T o) T.nh (zfd (ygive1 T) T.nc (zfd (yfall1 T o) T.nc ((if o = 4 then id else zfd (yjoin1 T.nc) T.nc) (zfd (ygrow1 T o) T.nc (zfd (ydrift1 w) T.nc (zfd (ybear1 T) T.nc S)))))))) := rfl
  rw [e] at hh ⊢
  generalize zfd (ygrow1 T o) T.nc (zfd (ydrift1 w) T.nc (zfd (ybear1 T) T.nc S)) = S3 at z3 g3 hh ⊢
  have z4 : yBz T ((if o = 4 then id else zfd (yjoin1 T.nc) T.nc) S3) := by
    split
    · exact z3
    · exact zfd_ind (fun _ S => yBz T S) z3 (fun c S hc q => ybz_join q hc)
  have g4 : ((if o = 4 then id else zfd (yjoin1 T.nc) T.nc) S3).got = S.got := by
    split
    · exact g3
    · rw [zfd_keep yA.got (fun _ _ => yg_join)]; exact g3
  generalize (if o = 4 then id else zfd (yjoin1 T.nc) T.nc) S3 = S4 at z4 g4 hh ⊢
  have z5 : yBz T (zfd (yfall1 T o) T.nc S4) ∧ yBg T (zfd (yfall1 T o) T.nc S4) (160 * S.hour + 20 * T.nc) := zfd_ind (fun c S' => yBz T S' ∧ yBg T S' (160 * S.hour + 20 * c)) ⟨z4, by intro f hf; rw [g4]; exact h2 f hf⟩ (fun c S' hc q => by
    have := ybz_fall (o := o) q.1 q.2 hc
    rw [show 160 * S.hour + 20 * c + 20 = 160 * S.hour + 20 * (c + 1) by omega] at this
    exact this)
  generalize zfd (yfall1 T o) T.nc S4 = S5 at z5 hh ⊢
  have k6 : (zfd yage1 T.nc (zfd (ymark1 T o) T.nh (zfd (ygive1 T) T.nc S5))).got = S5.got ∧ (zfd yage1 T.nc (zfd (ymark1 T o) T.nh (zfd (ygive1 T) T.nc S5))).size = S5.size ∧ (zfd yage1 T.nc (zfd (ymark1 T o) T.nh (zfd (ygive1 T) T.nc S5))).state = S5.state := by
    refine ⟨?_, ?_, ?_⟩
    · rw [zfd_keep yA.got (fun _ _ => yg_age.1), zfd_keep yA.got (fun _ _ => yg_mark.1), zfd_keep yA.got (fun _ _ => yg_give.1)]
    · rw [zfd_keep yA.size (fun _ _ => yg_age.2.1), zfd_keep yA.size (fun _ _ => yg_mark.2.1), zfd_keep yA.size (fun _ _ => yg_give.2.1)]
    · rw [zfd_keep yA.state (fun _ _ => yg_age.2.2), zfd_keep yA.state (fun _ _ => yg_mark.2.2), zfd_keep yA.state (fun _ _ => yg_give.2.2)]
  generalize zfd yage1 T.nc (zfd (ymark1 T o) T.nh (zfd (ygive1 T) T.nc S5)) = S6 at k6 hh ⊢
  refine ⟨h0, fun c hc => ?_, fun f hf => ?_⟩
  · show ∃ k, k ≤ 20 ∧ S6.size c = Int32.ofNat k ∧ (S6.state c ≠ 4 → 1 ≤ k)
    rw [k6.2.1, k6.2.2]
    exact z5.1 c hc
  · rw [hh]
    show ∃ g, g ≤ 160 * (S.hour + 1) ∧ S6.got f = Int32.ofNat g
    rw [k6.1]
    obtain ⟨g, g1, g2⟩ := z5.2 f hf
    exact ⟨g, by omega, g2⟩
theorem ygo_bd (tk : yTok T) (h : yBd T S) (n : Nat) : yBd T (ygo T o S n) := by
  induction n with
  | zero => exact h
  | succ n ih => exact ypass_bd tk ih
theorem ymv_bd (h : yBd T S) (hs : S.state c = 1) : yBd T (ymv w c S) := by
  refine ⟨h.1, ybz_mv h.2.1 hs, ?_⟩
  rw [yg_mv, yh_mv]
  exact h.2.2
end

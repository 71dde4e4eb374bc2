/-! the reference's text -/
def yUp (k i : Nat) : Prop := (k = 215 ∧ 8 ≤ i) ∨ (k = 216 ∧ 24 ≤ i) ∨ ((k = 217 ∨ k = 218 ∨ k = 219) ∧ 5 ≤ i) ∨ ((k = 220 ∨ k = 221 ∨ k = 222 ∨ k = 223) ∧ 8 ≤ i) ∨ ((k = 224 ∨ k = 225 ∨ k = 226) ∧ 6 ≤ i) ∨ (k = 227 ∧ 12 ≤ i) ∨ ((k = 228 ∨ k = 229) ∧ 3 ≤ i) ∨ ((k = 230 ∨ k = 231) ∧ 64 ≤ i)
def yRx (k i : Nat) : Prop := (k = 213 ∧ (i = 0 ∨ i = 2 ∨ (20 ≤ i ∧ i ≤ 32))) ∨ yUp k i
def yRy (k i : Nat) : Prop := (k = 213 ∧ (i = 0 ∨ i = 2 ∨ (20 ≤ i ∧ i ≤ 32) ∨ i = 47 ∨ i = 48 ∨ i = 61 ∨ i = 62)) ∨ (215 ≤ k ∧ k < 232) ∨ yTR 0 k i
section
variable {M : zMem} {b : Nat → Nat} {n : Nat} {T : yT} {la : Nat → Nat} {R : yLE (Nat × ySt)}
theorem r_first (tx : yTx M b n) {n' : Nat} (h2 : M.1 213 2 = Int32.ofNat n') (hle : n ≤ n') (h7 : n' ≤ 700) {α : Type} {Q : α → zMem → Prop} {f : Unit → zMem → Option (α × zMem)}
    (kk : ∀ M34, zfr yRx M M34 → yRV M34 b n 0 yT0 0 (fun _ => 0) 0 → M34.1 213 21 = 0 → M34.1 213 2 = 0 → Jr M34 → zwp (f () M34) Q) : zwp (
  mlt (mup (mup M 213 0 0) 213 22 (Int32.ofNat n)) (fun M3 =>
  mlt (mup M3 213 2 0) (fun M4 =>
  mlt (mup M4 213 23 0) (fun M5 =>
  mlt (mup M5 213 27 0) (fun M6 =>
  mlt (mup M6 213 28 (-1)) (fun M7 =>
  mbd (
  mlp (σ := Int32) (β := Int32) zLF (fun s8 M9 =>
  if 8 ≤ s8 then
  some ((.inr s8), M9)
  else
  mbd (α := Int32) (
  if s8 = 4 then
  some (6, M9)
  else
  if s8 = 5 then
  some (9, M9)
  else
  some (0, M9)) (fun e12 M13 =>
  mbd (m_X8_reads s8 e12 M13) (fun v15 M14 =>
  some ((.inl (s8 + 1)), M14)))) 0 M7) (fun e10 M11 =>
  mbd (
  mlp (σ := Int32) (β := Int32) zLF (fun s16 M17 =>
  if 24 ≤ s16 then
  some ((.inr s16), M17)
  else
  zob (mwr M17 216 (24 + s16) 0) (fun M21 =>
  some ((.inl (s16 + 1)), M21))) 0 M11) (fun e18 M19 =>
  mbd (
  mlp (σ := Int32) (β := Int32) zLF (fun s22 M23 =>
  if 6 ≤ s22 then
  some ((.inr s22), M23)
  else
  zob (mwr M23 228 s22 0) (fun M27 =>
  zob (mwr M27 229 s22 0) (fun M29 =>
  some ((.inl (s22 + 1)), M29)))) 3 M19) (fun e24 M25 =>
  mlt (mup M25 213 20 0) (fun M30 =>
  mlt (mup M30 213 21 0) (fun M31 =>
  mlt (mup M31 213 31 0) (fun M32 =>
  mlt (mup M32 213 32 0) (fun M33 => mbd (m_X8_token M33) f))))))))))))) Q := by
  have hn := tx.1
  rw [mlt_eq, mlt_eq, mlt_eq, mlt_eq, mlt_eq]
  have f7 : zfr (fun k i => k = 213 ∧ (i = 0 ∨ i = 22 ∨ i = 2 ∨ i = 23 ∨ i = 27 ∨ i = 28)) M (mup (mup (mup (mup (mup (mup M 213 0 0) 213 22 (Int32.ofNat n)) 213 2 0) 213 23 0) 213 27 0) 213 28 (-1)) := zfr_trans (zfr_mup (by omega)) (zfr_trans (zfr_mup (by omega)) (zfr_trans (zfr_mup (by omega)) (zfr_trans (zfr_mup (by omega)) (zfr_trans (zfr_mup (by omega)) (zfr_mup (by omega))))))
  have v22 : (mup (mup (mup (mup (mup (mup M 213 0 0) 213 22 (Int32.ofNat n)) 213 2 0) 213 23 0) 213 27 0) 213 28 (-1)).1 213 22 = Int32.ofNat n := by rw [mup_off' (by decide), mup_off' (by decide), mup_off' (by decide), mup_off' (by decide), mup_on]
  have v2 : (mup (mup (mup (mup (mup (mup M 213 0 0) 213 22 (Int32.ofNat n)) 213 2 0) 213 23 0) 213 27 0) 213 28 (-1)).1 213 2 = 0 := by rw [mup_off' (by decide), mup_off' (by decide), mup_off' (by decide), mup_on]
  have v23 : (mup (mup (mup (mup (mup (mup M 213 0 0) 213 22 (Int32.ofNat n)) 213 2 0) 213 23 0) 213 27 0) 213 28 (-1)).1 213 23 = 0 := by rw [mup_off' (by decide), mup_off' (by decide), mup_on]
  have v27 : (mup (mup (mup (mup (mup (mup M 213 0 0) 213 22 (Int32.ofNat n)) 213 2 0) 213 23 0) 213 27 0) 213 28 (-1)).1 213 27 = 0 := by rw [mup_off' (by decide), mup_on]
  have v28 : (mup (mup (mup (mup (mup (mup M 213 0 0) 213 22 (Int32.ofNat n)) 213 2 0) 213 23 0) 213 27 0) 213 28 (-1)).1 213 28 = -1 := mup_on
  generalize mup (mup (mup (mup (mup (mup M 213 0 0) 213 22 (Int32.ofNat n)) 213 2 0) 213 23 0) 213 27 0) 213 28 (-1) = M7 at f7 v22 v2 v23 v27 v28 ⊢
  refine yfor (n := 8) (I := fun x M' => (∀ i, i < x → M'.1 215 (8 + i) = (if i = 4 then 6 else if i = 5 then 9 else 0)) ∧ zfr (fun k i => k = 215 ∧ 8 ≤ i) M7 M') ⟨fun i hi => absurd hi (Nat.not_lt_zero i), zfr_refl⟩ (by decide) ?_ (fun M' _ => if_pos (by decide)) (fun _ M11 y => ?_)
  · rintro x M1 hx ⟨g1, g2⟩
    have sel : (if Int32.ofNat x = 4 then some ((6 : Int32), M1) else if Int32.ofNat x = 5 then some (9, M1) else some (0, M1)) = some ((if x = 4 then 6 else if x = 5 then 9 else 0), M1) := by
      by_cases e4 : x = 4
      · rw [if_pos (by rw [e4]; rfl), if_pos e4]
      · rw [if_neg (by rw [show (4 : Int32) = Int32.ofNat 4 from rfl, zi_eq (by omega) (by omega)]; exact e4), if_neg e4]
        by_cases e5 : x = 5
        · rw [if_pos (by rw [e5]; rfl), if_pos e5]
        · rw [if_neg (by rw [show (5 : Int32) = Int32.ofNat 5 from rfl, zi_eq (by omega) (by omega)]; exact e5), if_neg e5]
    rw [if_neg (yge hx (by decide)), sel, mbd_some, r_reads hx, mbd_some]
    refine zwp_ret ⟨rfl, fun i hi => ?_, zfr_trans g2 (zfr_mup (by omega))⟩
    by_cases e : i = x
    · subst e; exact mup_on
    · rw [mup_off' (by omega)]; exact g1 i (by omega)
  obtain ⟨g11, f11⟩ := y
  refine yfor (n := 24) (I := fun x M' => (∀ i, i < x → M'.1 216 (24 + i) = 0) ∧ zfr (fun k i => k = 216 ∧ 24 ≤ i) M11 M') ⟨fun i hi => absurd hi (Nat.not_lt_zero i), zfr_refl⟩ (by decide) ?_ (fun M' _ => if_pos (by decide)) (fun _ M19 y => ?_)
  · rintro x M1 hx ⟨g1, g2⟩
    rw [if_neg (yge hx (by decide)), mwr_of (k := 216) (j := 24 + x) (by show 24 + x < 48; omega), zob_some]
    refine zwp_ret ⟨rfl, fun i hi => ?_, zfr_trans g2 (zfr_mup (by omega))⟩
    by_cases e : i = x
    · subst e; exact mup_on
    · rw [mup_off' (by omega)]; exact g1 i (by omega)
  obtain ⟨g19, f19⟩ := y
  refine zwp_bd (Q' := fun _ M' => (∀ i, 3 ≤ i → i < 6 → M'.1 228 i = 0 ∧ M'.1 229 i = 0) ∧ zfr (fun k i => (k = 228 ∨ k = 229) ∧ 3 ≤ i) M19 M') (zwp_for 3 6 (fun c st M' => st = Int32.ofNat c ∧ (∀ i, 3 ≤ i → i < c → M'.1 228 i = 0 ∧ M'.1 229 i = 0) ∧ zfr (fun k i => (k = 228 ∨ k = 229) ∧ 3 ≤ i) M19 M') ?_ ?_ ⟨rfl, fun i h1 h2 => absurd h2 (by omega), zfr_refl⟩ (by decide) (by decide)) (fun _ M25 y => ?_)
  · rintro c st M1 hc1 hc2 ⟨rfl, g1, g2⟩
    rw [if_neg (yge hc2 (by decide)), mwr_of (k := 228) (j := c) (by show c < 6; omega), zob_some, mwr_of (k := 229) (j := c) (by show c < 6; omega), zob_some]
    refine zwp_ret ⟨yi_nn c, fun i h1 h2 => ?_, zfr_trans g2 (zfr_trans (zfr_mup (by omega)) (zfr_mup (by omega)))⟩
    by_cases e : i = c
    · subst e; exact ⟨by rw [mup_off (by decide)]; exact mup_on, mup_on⟩
    · rw [mup_off' (by omega), mup_off' (by omega), mup_off' (by omega), mup_off' (by omega)]; exact g1 i h1 (by omega)
  · rintro st M1 ⟨rfl, g1, g2⟩
    rw [if_pos (by decide)]
    exact zwp_ret ⟨g1, g2⟩
  obtain ⟨g25, f25⟩ := y
  rw [mlt_eq, mlt_eq, mlt_eq, mlt_eq]
  have f33 : zfr (fun k i => k = 213 ∧ (i = 20 ∨ i = 21 ∨ i = 31 ∨ i = 32)) M25 (mup (mup (mup (mup M25 213 20 0) 213 21 0) 213 31 0) 213 32 0) := zfr_trans (zfr_mup (by omega)) (zfr_trans (zfr_mup (by omega)) (zfr_trans (zfr_mup (by omega)) (zfr_mup (by omega))))
  have v20 : (mup (mup (mup (mup M25 213 20 0) 213 21 0) 213 31 0) 213 32 0).1 213 20 = 0 := by rw [mup_off' (by decide), mup_off' (by decide), mup_off' (by decide), mup_on]
  have v21 : (mup (mup (mup (mup M25 213 20 0) 213 21 0) 213 31 0) 213 32 0).1 213 21 = 0 := by rw [mup_off' (by decide), mup_off' (by decide), mup_on]
  have v31 : (mup (mup (mup (mup M25 213 20 0) 213 21 0) 213 31 0) 213 32 0).1 213 31 = 0 := by rw [mup_off' (by decide), mup_on]
  have v32 : (mup (mup (mup (mup M25 213 20 0) 213 21 0) 213 31 0) 213 32 0).1 213 32 = 0 := mup_on
  generalize mup (mup (mup (mup M25 213 20 0) 213 21 0) 213 31 0) 213 32 0 = M33 at f33 v20 v21 v31 v32 ⊢
  have f725 : zfr (fun k i => (k = 215 ∧ 8 ≤ i) ∨ (k = 216 ∧ 24 ≤ i) ∨ ((k = 228 ∨ k = 229) ∧ 3 ≤ i)) M7 M25 := zfr_trans (zfr_weak f11 (by omega)) (zfr_trans (zfr_weak f19 (by omega)) (zfr_weak f25 (by omega)))
  have k13 : ∀ i, ¬ (i = 20 ∨ i = 21 ∨ i = 31 ∨ i = 32) → M33.1 213 i = M7.1 213 i := fun i hi => by rw [f33 _ _ (by omega), f725 _ _ (by omega)]
  have f033 : zfr yRx M M33 := zfr_trans (zfr_weak f7 (by unfold yRx; omega)) (zfr_trans (zfr_weak f725 (by unfold yRx yUp; omega)) (zfr_weak f33 (by unfold yRx; omega)))
  have tx3 : yTx M33 b n := tx.keep f033 (by unfold yRx yUp; omega) (by unfold yRx yUp; omega)
  have n33 : M33.1 213 22 = Int32.ofNat n := (k13 22 (by omega)).trans v22
  have jr : Jr M33 := fun _ => (k13 28 (by omega)).trans v28
  refine zwp_bd (zwp_and (r_token tx3 n33 (p := 0) (Nat.zero_le n) ((k13 23 (by omega)).trans v23)) (jr_X8_token jr)) (fun _ M34 y => ?_)
  obtain ⟨⟨rk, f34⟩, j34⟩ := y
  have o34 : ∀ k i, ¬ (k = 213 ∧ 23 ≤ i ∧ i ≤ 26) → M34.1 k i = M33.1 k i := fun k i h => f34 k i h
  have e15 : ∀ i, i < 8 → M34.1 215 (8 + i) = (if i = 4 then 6 else if i = 5 then 9 else 0) := fun i hi => by
    rw [o34 _ _ (by omega), f33 _ _ (by omega), f25 _ _ (by omega), f19 _ _ (by omega)]; exact g11 i hi
  have e16 : ∀ i, i < 24 → M34.1 216 (24 + i) = 0 := fun i hi => by
    rw [o34 _ _ (by omega), f33 _ _ (by omega), f25 _ _ (by omega)]; exact g19 i hi
  have e28 : ∀ k, k < 3 → M34.1 228 (3 + k) = 0 ∧ M34.1 229 (3 + k) = 0 := fun k hk => by
    rw [o34 _ _ (by omega), f33 _ _ (by omega), o34 _ _ (by omega), f33 _ _ (by omega)]; exact g25 (3 + k) (by omega) (by omega)
  have no : ∀ {P : Nat → Prop} (i : Nat), i < 0 → P i := fun i hi => absurd hi (Nat.not_lt_zero i)
  refine kk M34 (zfr_trans f033 (zfr_weak f34 (by unfold yRB yRx; omega))) ⟨⟨tx3.keep f34 (by unfold yRB; omega) (by unfold yRB; omega), by rw [o34 _ _ (by omega)]; exact n33, by rw [o34 _ _ (by omega)]; exact (k13 27 (by omega)).trans v27, rk⟩, ⟨e15 0 (by decide), e15 1 (by decide), e15 2 (by decide), e15 3 (by decide), e15 4 (by decide), e15 5 (by decide), e15 7 (by decide), e16, no, no, no, no, no, no, no, no, no, no, no, fun k hk => ⟨(e28 k hk).1, (e28 k hk).2, fun j hj => absurd hj (Nat.not_lt_zero j)⟩⟩, ⟨0, by decide, by rw [o34 _ _ (by omega)]; exact v20, fun k _ _ => rfl, fun k hk => ?_⟩, ⟨by rw [o34 _ _ (by omega)]; exact v32, by rw [o34 _ _ (by omega)]; exact v31, rfl, by decide, fun k hk => Nat.le_refl 0⟩, yT0_ok⟩ (by rw [o34 _ _ (by omega)]; exact v21) (by rw [o34 _ _ (by omega), k13 2 (by omega)]; exact v2) j34
  rw [Nat.zero_testBit]
  exact ⟨fun z => (by cases z), fun z => absurd rfl z⟩
/-- what the reference's text comes to -/
def yRtx (b : Nat → Nat) (n : Nat) (M : zMem) (v : Int32) (M' : zMem) : Prop :=
  (∃ f : Nat × Nat, atx b n 701 0 (0, yT0, 0, (fun _ => 0), 0) = .inl f ∧ v = -1 ∧ M'.1 213 29 = Int32.ofNat f.1 ∧ M'.1 213 30 = Int32.ofNat f.2 ∧ M'.1 213 2 = 0 ∧ zfr yRx M M') ∨
  (∃ ln p T K la u, atx b n 701 0 (0, yT0, 0, (fun _ => 0), 0) = .inr (ln, p, T, K, la, u) ∧ v = Int32.ofNat ln ∧ yTi T ∧ yRS M' 0 0 T (ystart T T.bsize) ∧ M'.1 213 29 = 0 ∧ M'.1 213 30 = -1 ∧ M'.1 213 2 = 0 ∧ M'.1 213 61 = 0 ∧ M'.1 213 62 = -1 ∧ M'.1 213 47 = 0 ∧ M'.1 213 48 = 0 ∧ zfr yRy M M')
theorem r_text (tx : yTx M b n) {n' : Nat} (h2 : M.1 213 2 = Int32.ofNat n') (hle : n ≤ n') (h7 : n' ≤ 700) (mis : yMis M) : zwp (m_X8_text (Int32.ofNat n) M) (yRtx b n M) := by
  unfold m_X8_text
  rw [mlt_eq, if_neg (zi_nn (by omega)), if_pos (by rw [mup_off' (by decide), h2, zi_le (by omega) (by omega)]; exact hle)]
  refine r_first tx h2 hle h7 (fun M34 f34 rv h21 z2 j34 => ?_)
  refine zwp_bd (zwp_and (r_lines rv h21 rfl) (zpr_lp (J := Jr) (fun s M1 h => zpr_if (zpr_if (zpr_ret h) (zpr_bd (jr_X8_line h) (fun _ M2 h2 => zpr_ret h2))) (zpr_ret h)) _ _ j34)) (fun _ M39 y => ?_)
  obtain ⟨⟨f39, po⟩, j39⟩ := y
  rw [mlt_eq, mlt_eq]
  have z39 : M39.1 213 2 = 0 := by rw [f39 _ _ (by unfold yRLa yRLs yRLn yRLw; omega)]; exact z2
  have f039 : zfr yRx M M39 := zfr_trans f34 (zfr_weak f39 (by unfold yRLa yRLs yRLn yRLw yRx yUp; omega))
  have f47 : zfr (fun k i => k = 213 ∧ (i = 29 ∨ i = 30)) M39 (mup (mup M39 213 29 (M39.1 213 27)) 213 30 ((mup M39 213 29 (M39.1 213 27)).1 213 28)) := zfr_trans (zfr_mup (by omega)) (zfr_mup (by omega))
  have v29 : (mup (mup M39 213 29 (M39.1 213 27)) 213 30 ((mup M39 213 29 (M39.1 213 27)).1 213 28)).1 213 29 = M39.1 213 27 := by rw [mup_off' (by decide), mup_on]
  have v30 : (mup (mup M39 213 29 (M39.1 213 27)) 213 30 ((mup M39 213 29 (M39.1 213 27)).1 213 28)).1 213 30 = M39.1 213 28 := by rw [mup_on, mup_off' (by decide)]
  generalize mup (mup M39 213 29 (M39.1 213 27)) 213 30 ((mup M39 213 29 (M39.1 213 27)).1 213 28) = M47 at f47 v29 v30 ⊢
  have f047 : zfr yRx M M47 := zfr_trans f039 (zfr_weak f47 (by unfold yRx; omega))
  rcases po with ⟨f, eR, fl⟩ | ⟨ln, p, T, K, la, u, l21, eR, rg, ru, wd, kn, ti⟩
  · rw [if_neg (by rw [f47 _ _ (by omega)]; exact fl.ne)]
    exact zwp_ret (Or.inl ⟨f, eR, rfl, v29.trans fl.2.1, v30.trans fl.2.2, by rw [f47 _ _ (by omega)]; exact z39, f047⟩)
  · rw [if_pos (by rw [f47 _ _ (by omega)]; exact rg.2.2.1)]
    have ru7 : yRU M47 T la := ru.rd f47 (by omega)
    have h0 : yHv M47 M47 215 := ⟨fun k i k1 k2 => absurd k2 (by omega), zfr_refl⟩
    refine zwp_bd (r_half h0 (by decide) (by decide)) (fun _ M215 h1 => ?_)
    clear h0; have h0 := h1; clear h1
    refine zwp_bd (r_half h0 (by decide) (by decide)) (fun _ M216 h1 => ?_)
    clear h0; have h0 := h1; clear h1
    refine zwp_bd (r_half h0 (by decide) (by decide)) (fun _ M217 h1 => ?_)
    clear h0; have h0 := h1; clear h1
    refine zwp_bd (r_half h0 (by decide) (by decide)) (fun _ M218 h1 => ?_)
    clear h0; have h0 := h1; clear h1
    refine zwp_bd (r_half h0 (by decide) (by decide)) (fun _ M219 h1 => ?_)
    clear h0; have h0 := h1; clear h1
    refine zwp_bd (r_half h0 (by decide) (by decide)) (fun _ M220 h1 => ?_)
    clear h0; have h0 := h1; clear h1
    refine zwp_bd (r_half h0 (by decide) (by decide)) (fun _ M221 h1 => ?_)
    clear h0; have h0 := h1; clear h1
    refine zwp_bd (r_half h0 (by decide) (by decide)) (fun _ M222 h1 => ?_)
    clear h0; have h0 := h1; clear h1
    refine zwp_bd (r_half h0 (by decide) (by decide)) (fun _ M223 h1 => ?_)
    clear h0; have h0 := h1; clear h1
    refine zwp_bd (r_half h0 (by decide) (by decide)) (fun _ M224 h1 => ?_)
    clear h0; have h0 := h1; clear h1
    refine zwp_bd (r_half h0 (by decide) (by decide)) (fun _ M225 h1 => ?_)
    clear h0; have h0 := h1; clear h1
    refine zwp_bd (r_half h0 (by decide) (by decide)) (fun _ M226 h1 => ?_)
    clear h0; have h0 := h1; clear h1
    refine zwp_bd (r_half h0 (by decide) (by decide)) (fun _ M227 h1 => ?_)
    clear h0; have h0 := h1; clear h1
    refine zwp_bd (r_half h0 (by decide) (by decide)) (fun _ M228 h1 => ?_)
    clear h0; have h0 := h1; clear h1
    refine zwp_bd (r_half h0 (by decide) (by decide)) (fun _ M229 h1 => ?_)
    clear h0; have h0 := h1; clear h1
    refine zwp_bd (r_half h0 (by decide) (by decide)) (fun _ M230 h1 => ?_)
    clear h0; have h0 := h1; clear h1
    refine zwp_bd (r_half h0 (by decide) (by decide)) (fun _ M231 h1 => ?_)
    clear h0; have h0 := h1; clear h1
    have rt : yRT M231 T := h0.rt ru7 ti.1.nf ti.1.nc ti.1.nh ti.1.nw kn.2.2.2.1 kn.2.2.2.2
    have fh : zfr (fun k i => 215 ≤ k ∧ k < 232) M47 M231 := zfr_weak h0.2 (by omega)
    clear h0
    rw [mlt_eq, mlt_eq, mlt_eq, mlt_eq]
    have f103 : zfr (fun k i => k = 213 ∧ (i = 61 ∨ i = 62 ∨ i = 47 ∨ i = 48)) M231 (mup (mup (mup (mup M231 213 61 0) 213 62 (-1)) 213 47 0) 213 48 0) := zfr_trans (zfr_mup (by omega)) (zfr_trans (zfr_mup (by omega)) (zfr_trans (zfr_mup (by omega)) (zfr_mup (by omega))))
    have v61 : (mup (mup (mup (mup M231 213 61 0) 213 62 (-1)) 213 47 0) 213 48 0).1 213 61 = 0 := by rw [mup_off' (by decide), mup_off' (by decide), mup_off' (by decide), mup_on]
    have v62 : (mup (mup (mup (mup M231 213 61 0) 213 62 (-1)) 213 47 0) 213 48 0).1 213 62 = -1 := by rw [mup_off' (by decide), mup_off' (by decide), mup_on]
    have v47 : (mup (mup (mup (mup M231 213 61 0) 213 62 (-1)) 213 47 0) 213 48 0).1 213 47 = 0 := by rw [mup_off' (by decide), mup_on]
    have v48 : (mup (mup (mup (mup M231 213 61 0) 213 62 (-1)) 213 47 0) 213 48 0).1 213 48 = 0 := mup_on
    generalize mup (mup (mup (mup M231 213 61 0) 213 62 (-1)) 213 47 0) 213 48 0 = M103 at f103 v61 v62 v47 v48 ⊢
    have lo : ∀ i, ¬ (i = 61 ∨ i = 62 ∨ i = 47 ∨ i = 48) → M103.1 213 i = M47.1 213 i := fun i hi => by rw [f103 _ _ (by omega), fh _ _ (by omega)]
    have up : ∀ i, 33 ≤ i → M47.1 213 i = M.1 213 i := fun i hi => f047 _ _ (by unfold yRx yUp; omega)
    unfold m_X8_begins
    have rs := r_starts (M := M103) (a := 0) (sl := 0) (o := 0) (T := T) (yrt_fr rt f103 (by omega)) ti.1 (by decide) (by rw [lo 49 (by omega), up 49 (by omega)]; exact mis.a) (by decide) T.bsize (fun c hc => by
      rw [lo 52 (by omega), up 52 (by omega), mis.d, if_neg]
      have := ti.1.nc
      exact zi_n1 (by omega))
    refine zwp_bd (Q' := fun _ M104 => yRS M104 0 0 T (ystart T T.bsize) ∧ zfr (yTR 0) M103 M104) (zwp_bd rs (fun _ M104 y => zwp_ret y)) (fun _ M104 y => ?_)
    obtain ⟨rs4, f104⟩ := y
    have l4 : ∀ i, ¬ i = 35 → M104.1 213 i = M103.1 213 i := fun i hi => f104 _ _ (by unfold yTR; omega)
    refine zwp_ret (Or.inr ⟨ln, p, T, K, la, u, eR, ?_, ti, rs4, ?_, ?_, ?_, ?_, ?_, ?_, ?_, ?_⟩)
    · rw [l4 _ (by omega), lo _ (by omega), f47 _ _ (by omega)]; exact l21
    · rw [l4 _ (by omega), lo _ (by omega), v29]; exact rg.2.2.1
    · rw [l4 _ (by omega), lo _ (by omega), v30]; exact j39 rg.2.2.1
    · rw [l4 _ (by omega), lo _ (by omega), f47 _ _ (by omega)]; exact z39
    · rw [l4 _ (by omega)]; exact v61
    · rw [l4 _ (by omega)]; exact v62
    · rw [l4 _ (by omega)]; exact v47
    · rw [l4 _ (by omega)]; exact v48
    · exact zfr_trans (zfr_weak f047 (by unfold yRx yUp yRy; omega)) (zfr_trans (zfr_weak fh (by unfold yRy; omega)) (zfr_trans (zfr_weak f103 (by unfold yRy; omega)) (zfr_weak f104 (fun k i z => Or.inr (Or.inr z)))))
end

/-! a told anew, both sides; the halves -/
def yT0 : yT := yT.mk 0 0 0 0 6 9 (Int32.ofNat 0) (fun _ => 0) (fun _ => 0) (fun _ => 0) (fun _ => 0) (fun _ => 0) (fun _ => 0) (fun _ => 0) (fun _ => 0) (fun _ => 0) (fun _ => 0) (fun _ => 0) (fun _ => 0) (fun _ => [])
theorem yT0_ok : yTi yT0 :=
  ⟨⟨Nat.zero_le _, Nat.zero_le _, Nat.zero_le _, Nat.zero_le _, fun f h => absurd h (Nat.not_lt_zero f), fun f h => absurd h (Nat.not_lt_zero f), fun f h => absurd h (Nat.not_lt_zero f), fun _ _ => Or.inl rfl, ⟨9, by decide, by decide, rfl⟩⟩, fun f h => absurd h (Nat.not_lt_zero f), fun _ _ => Or.inl rfl⟩
def yFg (t k i : Nat) : Prop := k = t + 1 ∨ k = t + 15 ∨ k = t + 16 ∨ (k = t + 13 ∧ (i = 4 ∨ i = 5)) ∨ (k = t ∧ 13 ≤ i ∧ i ≤ 18)
section
variable {M : zMem} {b : Nat → Nat} {n t : Nat} {T : yT} {la : Nat → Nat}
theorem c_forget (it : zIT t) : zwp (m_X6_forget t M) (fun _ M' => yCQ M' t yT0 0 (fun _ => 0) ∧ zfr (yFg t) M M') := by
  have ib := it.or5
  have z1 : (zds (t + 1)).2 = 24 := by rcases ib with z | z <;> rw [z] <;> rfl
  have z2 : (zds (t + 13 + 2)).2 = 3 := by rcases ib with z | z <;> rw [z] <;> rfl
  have z3 : (zds (t + 13 + 3)).2 = 3 := by rcases ib with z | z <;> rw [z] <;> rfl
  unfold m_X6_forget
  refine yfor (n := 24) (I := fun x M' => (∀ i, i < x → M'.1 (t + 1) i = 0) ∧ zfr (yFg t) M M') ⟨fun i hi => absurd hi (Nat.not_lt_zero i), zfr_refl⟩ (by decide) ?_ (fun M' _ => if_pos (by decide)) (fun _ M1 y => ?_)
  · rintro x M1 hx ⟨h1, h2⟩
    rw [if_neg (yge hx (by decide)), mwr_of (k := t + 1) (j := x) (by omega) (by omega), zob_some]
    refine zwp_ret ⟨rfl, fun i hi => ?_, zfr_trans h2 (zfr_mup (by unfold yFg; omega))⟩
    by_cases e : i = x
    · subst e; exact mup_on
    · rw [mup_off' (by omega)]; exact h1 i (by omega)
  obtain ⟨g1, f1⟩ := y
  have key : zwp (m_X2_forget t M1) (fun _ M2 => ((∀ i, i < 3 → M2.1 (t + 13 + 2) i = 0 ∧ M2.1 (t + 13 + 3) i = 0) ∧ M2.1 (t + 13) 4 = 0 ∧ M2.1 (t + 13) 5 = 0) ∧ zfr (fun k i => k = t + 15 ∨ k = t + 16 ∨ (k = t + 13 ∧ (i = 4 ∨ i = 5))) M1 M2) := by
    unfold m_X2_forget
    refine yfor (n := 3) (I := fun x M' => (∀ i, i < x → M'.1 (t + 13 + 2) i = 0 ∧ M'.1 (t + 13 + 3) i = 0) ∧ zfr (fun k i => k = t + 15 ∨ k = t + 16) M1 M') ⟨fun i hi => absurd hi (Nat.not_lt_zero i), zfr_refl⟩ (by decide) ?_ (fun M' _ => if_pos (by decide)) (fun _ M2 y => ?_)
    · rintro x M2 hx ⟨h1, h2⟩
      rw [if_neg (yge hx (by decide)), mwr_of (k := t + 13 + 2) (j := x) (by omega) (by omega), zob_some, mwr_of (k := t + 13 + 3) (j := x) (by omega) (by omega), zob_some]
      refine zwp_ret ⟨rfl, fun i hi => ?_, zfr_trans h2 (zfr_trans (zfr_mup (by omega)) (zfr_mup (by omega)))⟩
      by_cases e : i = x
      · subst e
        exact ⟨by rw [mup_off (by omega)]; exact mup_on, mup_on⟩
      · rw [mup_off' (by omega), mup_off' (by omega), mup_off' (by omega), mup_off' (by omega)]; exact h1 i (by omega)
    · obtain ⟨h1, h2⟩ := y
      rw [mlt_eq, mlt_eq]
      refine zwp_ret ⟨⟨fun i hi => ?_, ?_, mup_on⟩, zfr_trans (zfr_weak h2 (by omega)) (zfr_trans (zfr_mup (by omega)) (zfr_mup (by omega)))⟩
      · rw [mup_off (by omega), mup_off (by omega), mup_off (by omega), mup_off (by omega)]; exact h1 i hi
      · rw [mup_off' (by decide), mup_on]
  refine zwp_bd key (fun _ M2 y => ?_)
  obtain ⟨⟨g2, g4, g5⟩, f2⟩ := y
  rw [mlt_eq, mlt_eq, mlt_eq, mlt_eq, mlt_eq, mlt_eq]
  have f3 : zfr (fun k i => k = t ∧ 13 ≤ i ∧ i ≤ 18) M2 (mup (mup (mup (mup (mup (mup M2 t 13 0) t 14 0) t 15 0) t 16 0) t 17 6) t 18 9) := zfr_trans (zfr_mup (by omega)) (zfr_trans (zfr_mup (by omega)) (zfr_trans (zfr_mup (by omega)) (zfr_trans (zfr_mup (by omega)) (zfr_trans (zfr_mup (by omega)) (zfr_mup (by omega))))))
  have v13 : (mup (mup (mup (mup (mup (mup M2 t 13 0) t 14 0) t 15 0) t 16 0) t 17 6) t 18 9).1 t 13 = 0 := by rw [mup_off' (by decide), mup_off' (by decide), mup_off' (by decide), mup_off' (by decide), mup_off' (by decide), mup_on]
  have v14 : (mup (mup (mup (mup (mup (mup M2 t 13 0) t 14 0) t 15 0) t 16 0) t 17 6) t 18 9).1 t 14 = 0 := by rw [mup_off' (by decide), mup_off' (by decide), mup_off' (by decide), mup_off' (by decide), mup_on]
  have v15 : (mup (mup (mup (mup (mup (mup M2 t 13 0) t 14 0) t 15 0) t 16 0) t 17 6) t 18 9).1 t 15 = 0 := by rw [mup_off' (by decide), mup_off' (by decide), mup_off' (by decide), mup_on]
  have v16 : (mup (mup (mup (mup (mup (mup M2 t 13 0) t 14 0) t 15 0) t 16 0) t 17 6) t 18 9).1 t 16 = 0 := by rw [mup_off' (by decide), mup_off' (by decide), mup_on]
  have v17 : (mup (mup (mup (mup (mup (mup M2 t 13 0) t 14 0) t 15 0) t 16 0) t 17 6) t 18 9).1 t 17 = 6 := by rw [mup_off' (by decide), mup_on]
  have v18 : (mup (mup (mup (mup (mup (mup M2 t 13 0) t 14 0) t 15 0) t 16 0) t 17 6) t 18 9).1 t 18 = 9 := mup_on
  generalize mup (mup (mup (mup (mup (mup M2 t 13 0) t 14 0) t 15 0) t 16 0) t 17 6) t 18 9 = M3 at f3 v13 v14 v15 v16 v17 v18 ⊢
  have no : ∀ {P : Nat → Prop} (i : Nat), i < 0 → P i := fun i hi => absurd hi (Nat.not_lt_zero i)
  refine zwp_ret ⟨⟨⟨it, v13, v14, v15, v16, v17, v18, ?_, ?_, no, no, no, no, no, no, no, no, no, no, no, ?_⟩, ?_, rfl, by decide, fun k hk => ⟨Nat.le_refl 0, ?_⟩⟩, zfr_trans f1 (zfr_trans (zfr_weak f2 (by unfold yFg; omega)) (zfr_weak f3 (by unfold yFg; omega)))⟩
  · rw [f3 _ _ (by omega)]; exact g5
  · intro i hi; rw [f3 _ _ (by omega), f2 _ _ (by omega)]; exact g1 i hi
  · intro k hk
    exact ⟨0, by show 0 + 0 ≤ 64; omega, by rw [f3 _ _ (by omega)]; exact (g2 k hk).1, by rw [f3 _ _ (by omega)]; exact (g2 k hk).2, fun j hj => absurd hj (Nat.not_lt_zero j)⟩
  · rw [f3 _ _ (by omega)]; exact g4
  · rw [f3 _ _ (by omega)]; exact (g2 k hk).1
/-! the class's reading -/
theorem c_readText (tx : yTx M b n) (ht : ztof (M.1 2 10) = t) (it : zIT t) (hw : ∀ w, w < 23 → M.1 3 w = Int32.ofNat (yWp w)) :
    zwp (m_X4_readText (Int32.ofNat n) M) (fun v M' => zfr (fun k i => yCLa t k i ∨ (k = 2 ∧ (i = 1 ∨ i = 2))) M M' ∧ ((∃ f, atx b n 701 0 (0, yT0, 0, (fun _ => 0), 0) = .inl f ∧ yCG M' t f ∧ v = -1) ∨ ∃ ln p T K la u, ln ≤ 700 ∧ v = Int32.ofNat ln ∧ atx b n 701 0 (0, yT0, 0, (fun _ => 0), 0) = .inr (ln, p, T, K, la, u) ∧ yCV M' b n t p T K la u)) := by
  have ib := it.or5
  have hn := tx.1
  unfold m_X4_readText
  rw [mlt_eq, ht]
  refine zwp_bd (c_forget it) (fun _ M1 y => ?_)
  obtain ⟨cq1, f1⟩ := y
  have f1 : zfr (fun k i => t ≤ k ∧ k ≤ t + 16) M M1 := zfr_weak f1 (by unfold yFg; omega)
  have mn : zmn (Int32.ofNat n) (Int32.ofNat (zds 1).2) = Int32.ofNat n := by
    unfold zmn
    rw [if_neg]
    rw [show (zds 1).2 = 700 from rfl, zi_lt (by omega) (by omega)]
    omega
  rw [mlt_eq, mlt_eq, mlt_eq, mlt_eq, mlt_eq, mlt_eq, mn]
  have f2 : zfr (fun k i => k = 2 ∧ (i = 1 ∨ i = 2 ∨ i = 3 ∨ i = 9 ∨ i = 14 ∨ i = 15)) M1 (mup (mup (mup (mup (mup (mup M1 2 1 1) 2 2 (Int32.ofNat n)) 2 3 0) 2 9 0) 2 14 0) 2 15 (-1)) := zfr_trans (zfr_mup (by omega)) (zfr_trans (zfr_mup (by omega)) (zfr_trans (zfr_mup (by omega)) (zfr_trans (zfr_mup (by omega)) (zfr_trans (zfr_mup (by omega)) (zfr_mup (by omega))))))
  have v1 : (mup (mup (mup (mup (mup (mup M1 2 1 1) 2 2 (Int32.ofNat n)) 2 3 0) 2 9 0) 2 14 0) 2 15 (-1)).1 2 1 = 1 := by rw [mup_off' (by decide), mup_off' (by decide), mup_off' (by decide), mup_off' (by decide), mup_off' (by decide), mup_on]
  have v2 : (mup (mup (mup (mup (mup (mup M1 2 1 1) 2 2 (Int32.ofNat n)) 2 3 0) 2 9 0) 2 14 0) 2 15 (-1)).1 2 2 = Int32.ofNat n := by rw [mup_off' (by decide), mup_off' (by decide), mup_off' (by decide), mup_off' (by decide), mup_on]
  have v3 : (mup (mup (mup (mup (mup (mup M1 2 1 1) 2 2 (Int32.ofNat n)) 2 3 0) 2 9 0) 2 14 0) 2 15 (-1)).1 2 3 = Int32.ofNat 0 := by rw [mup_off' (by decide), mup_off' (by decide), mup_off' (by decide), mup_on]; rfl
  have v9 : (mup (mup (mup (mup (mup (mup M1 2 1 1) 2 2 (Int32.ofNat n)) 2 3 0) 2 9 0) 2 14 0) 2 15 (-1)).1 2 9 = 0 := by rw [mup_off' (by decide), mup_off' (by decide), mup_on]
  have v14 : (mup (mup (mup (mup (mup (mup M1 2 1 1) 2 2 (Int32.ofNat n)) 2 3 0) 2 9 0) 2 14 0) 2 15 (-1)).1 2 14 = 0 := by rw [mup_off' (by decide), mup_on]
  generalize mup (mup (mup (mup (mup (mup M1 2 1 1) 2 2 (Int32.ofNat n)) 2 3 0) 2 9 0) 2 14 0) 2 15 (-1) = M2 at f2 v1 v2 v3 v9 v14 ⊢
  have f12 : zfr (fun k i => (t ≤ k ∧ k ≤ t + 16) ∨ (k = 2 ∧ (i = 1 ∨ i = 2 ∨ i = 3 ∨ i = 9 ∨ i = 14 ∨ i = 15))) M M2 := zfr_trans (zfr_weak f1 (by omega)) (zfr_weak f2 (by omega))
  have tx2 : yTx M2 b n := tx.keep f12 (by omega) (by omega)
  have rb2 : yRb M2 n := ⟨v1, v2, fun w hw' => by rw [f12 _ _ (by omega)]; exact hw w hw'⟩
  refine zwp_bd (c_advance rb2 tx2 v14 (p := 0) (Nat.zero_le n) v3) (fun _ M3 y => ?_)
  obtain ⟨ck3, f3⟩ := y
  have f23 : zfr (fun k i => k = 2 ∧ (i = 1 ∨ i = 2 ∨ (3 ≤ i ∧ i ≤ 7) ∨ i = 9 ∨ i = 14 ∨ i = 15)) M1 M3 := zfr_trans (zfr_weak f2 (by omega)) (zfr_weak f3 (by unfold yRA; omega))
  have cv3 : yCV M3 b n t 0 yT0 0 (fun _ => 0) 0 := by
    refine ⟨⟨tx2.keep f3 (by unfold yRA; omega) (by unfold yRA; omega), rb2.keep f3 (by unfold yRA; omega) (by unfold yRA; omega) (by unfold yRA; omega), by rw [f3 _ _ (by unfold yRA; omega)]; exact v14, ck3, it, ?_⟩, cq1.go f23 (by omega) (cq1.1.rd f23 (by omega)) rfl rfl, by rw [f3 _ _ (by unfold yRA; omega)]; exact v9, by decide, yT0_ok⟩
    rw [f23 _ _ (by omega), f1 _ _ (by omega)]; exact ht
  have f03 : zfr (fun k i => yCLa t k i ∨ (k = 2 ∧ (i = 1 ∨ i = 2))) M M3 := zfr_trans (zfr_weak f1 (by unfold yCLa; omega)) (zfr_weak f23 (by unfold yCLa; omega))
  refine zwp_bd (c_lines cv3 rfl) (fun e M4 y => ?_)
  obtain ⟨f4, ⟨f, ea, cg⟩ | ⟨ln, p, T, K, la, u, hl, ev, ea, cv4⟩⟩ := y
  · rw [if_neg cg.1.ne]
    exact zwp_ret ⟨zfr_trans f03 (zfr_weak f4 (fun k i z => Or.inl z)), Or.inl ⟨f, ea, cg, rfl⟩⟩
  · rw [if_pos cv4.1.2.2.1]
    exact zwp_ret ⟨zfr_trans f03 (zfr_weak f4 (fun k i z => Or.inl z)), Or.inr ⟨ln, p, T, K, la, u, hl, ev, ea, cv4⟩⟩
/-! the halves of the reference -/
def yhm (k : Nat) : Nat := if k = 215 then 8 else if k = 216 then 24 else if k ≤ 219 then 5 else if k ≤ 223 then 8 else if k ≤ 226 then 6 else if k = 227 then 12 else if k ≤ 229 then 3 else 64
theorem yhm_f : ∀ j, j < 17 → (zds (215 + j)).2 = 2 * yhm (215 + j) ∧ Int32.ofNat (zds (215 + j)).2 / 2 = Int32.ofNat (yhm (215 + j)) ∧ yhm (215 + j) ≤ 64 := by decide +kernel
def yHv (M0 M1 : zMem) (j : Nat) : Prop := (∀ k i, 215 ≤ k → k < j → i < yhm k → M1.1 k i = M0.1 k (yhm k + i)) ∧ zfr (fun k i => 215 ≤ k ∧ k < j ∧ i < yhm k) M0 M1
theorem r_half {M0 : zMem} {j : Nat} (h : yHv M0 M j) (h1 : 215 ≤ j) (h2 : j < 232) : zwp (m_X8_half j M) (fun _ M' => yHv M0 M' (j + 1)) := by
  obtain ⟨e1, e2, e3⟩ := yhm_f (j - 215) (by omega)
  rw [show 215 + (j - 215) = j by omega] at e1 e2 e3
  unfold m_X8_half
  rw [e2]
  refine yfor (n := yhm j) (I := fun x M' => (∀ i, i < x → M'.1 j i = M.1 j (yhm j + i)) ∧ zfr (fun k i => k = j ∧ i < x) M M') ⟨fun i hi => absurd hi (Nat.not_lt_zero i), zfr_refl⟩ (by show _ < 100000; omega) ?_ (fun M' _ => if_pos (by rw [zi_le (by omega) (by omega)]; exact Nat.le_refl _)) (fun _ M1 y => ?_)
  · rintro x M1 hx ⟨g1, g2⟩
    rw [if_neg (by rw [zi_le (by omega) (by omega)]; omega), mrd_of (k := j) (j := yhm j + x) (by omega) (by omega), zob_some, mwr_of (k := j) (j := x) (by omega) (by omega), zob_some]
    refine zwp_ret ⟨rfl, fun i hi => ?_, zfr_trans (zfr_weak g2 (by omega)) (zfr_mup (by omega))⟩
    by_cases e : i = x
    · subst e; rw [mup_on]; exact g2 _ _ (by omega)
    · rw [mup_off' (by omega)]; exact g1 i (by omega)
  · obtain ⟨g1, g2⟩ := y
    refine zwp_ret ⟨fun k i k1 k2 hi => ?_, zfr_trans (zfr_weak h.2 (by omega)) (zfr_weak g2 (by rintro k i ⟨rfl, q⟩; exact ⟨h1, by omega, q⟩))⟩
    by_cases e : k = j
    · subst e
      rw [g1 i hi]; exact h.2 _ _ (by omega)
    · rw [g2 k i (by omega)]; exact h.1 k i k1 (by omega) hi
theorem yHv.rt {M' : zMem} {K : Nat} (h : yHv M M' 232) (ru : yRU M T la) (h5 : T.nf ≤ 5) (h8 : T.nc ≤ 8) (h6 : T.nh ≤ 6) (h12 : T.nw ≤ 12) (k64 : K ≤ 64) (hl : ∀ k, k < 3 → la k + (T.law k).length ≤ K) : yRT M' T := by
  have g : ∀ k i, 215 ≤ k → k < 232 → i < yhm k → M'.1 k i = M.1 k (yhm k + i) := h.1
  have g5 : ∀ i, i < 8 → M'.1 215 i = M.1 215 (8 + i) := fun i hi => g 215 i (by decide) (by decide) hi
  have g6 : ∀ i, i < 24 → M'.1 216 i = M.1 216 (24 + i) := fun i hi => g 216 i (by decide) (by decide) hi
  have g7 : ∀ i, i < 5 → M'.1 217 i = M.1 217 (5 + i) := fun i hi => g 217 i (by decide) (by decide) hi
  have g8 : ∀ i, i < 5 → M'.1 218 i = M.1 218 (5 + i) := fun i hi => g 218 i (by decide) (by decide) hi
  have g9 : ∀ i, i < 5 → M'.1 219 i = M.1 219 (5 + i) := fun i hi => g 219 i (by decide) (by decide) hi
  have c0 : ∀ i, i < 8 → M'.1 220 i = M.1 220 (8 + i) := fun i hi => g 220 i (by decide) (by decide) hi
  have c1 : ∀ i, i < 8 → M'.1 221 i = M.1 221 (8 + i) := fun i hi => g 221 i (by decide) (by decide) hi
  have c2 : ∀ i, i < 8 → M'.1 222 i = M.1 222 (8 + i) := fun i hi => g 222 i (by decide) (by decide) hi
  have c3 : ∀ i, i < 8 → M'.1 223 i = M.1 223 (8 + i) := fun i hi => g 223 i (by decide) (by decide) hi
  have d4 : ∀ i, i < 6 → M'.1 224 i = M.1 224 (6 + i) := fun i hi => g 224 i (by decide) (by decide) hi
  have d5 : ∀ i, i < 6 → M'.1 225 i = M.1 225 (6 + i) := fun i hi => g 225 i (by decide) (by decide) hi
  have d6 : ∀ i, i < 6 → M'.1 226 i = M.1 226 (6 + i) := fun i hi => g 226 i (by decide) (by decide) hi
  have d7 : ∀ i, i < 12 → M'.1 227 i = M.1 227 (12 + i) := fun i hi => g 227 i (by decide) (by decide) hi
  have d8 : ∀ i, i < 3 → M'.1 228 i = M.1 228 (3 + i) := fun i hi => g 228 i (by decide) (by decide) hi
  have d9 : ∀ i, i < 3 → M'.1 229 i = M.1 229 (3 + i) := fun i hi => g 229 i (by decide) (by decide) hi
  have q0 : ∀ i, i < 64 → M'.1 230 i = M.1 230 (64 + i) := fun i hi => g 230 i (by decide) (by decide) hi
  have q1 : ∀ i, i < 64 → M'.1 231 i = M.1 231 (64 + i) := fun i hi => g 231 i (by decide) (by decide) hi
  refine ⟨?_, ?_, ?_, ?_, ?_, ?_, ?_, ?_, ?_, ?_, ?_, ?_, ?_, ?_, ?_, ?_, ?_, ?_, ?_, ?_⟩
  · rw [g5 0 (by decide)]; exact ru.nf
  · rw [g5 1 (by decide)]; exact ru.nc
  · rw [g5 2 (by decide)]; exact ru.nh
  · rw [g5 3 (by decide)]; exact ru.nw
  · rw [g5 4 (by decide)]; exact ru.rain
  · rw [g5 5 (by decide)]; exact ru.most
  · rw [g5 7 (by decide)]; exact ru.knots
  · intro i hi; rw [g6 i hi]; exact ru.ground i hi
  · intro i hi; rw [g7 i (by omega)]; exact ru.fname i hi
  · intro i hi; rw [g8 i (by omega)]; exact ru.fcell i hi
  · intro i hi; rw [g9 i (by omega)]; exact ru.need i hi
  · intro i hi; rw [c0 i (by omega)]; exact ru.cname i hi
  · intro i hi; rw [c1 i (by omega)]; exact ru.ccell i hi
  · intro i hi; rw [c2 i (by omega)]; exact ru.bsize i hi
  · intro i hi; rw [c3 i (by omega)]; exact ru.bat i hi
  · intro i hi; rw [d4 i (by omega)]; exact ru.hname i hi
  · intro i hi; rw [d5 i (by omega)]; exact ru.hcell i hi
  · intro i hi; rw [d6 i (by omega)]; exact ru.sight i hi
  · intro i hi; rw [d7 i (by omega)]; exact ru.wind i hi
  · intro k hk
    obtain ⟨l1, l2, l3⟩ := ru.law k hk
    have lk := hl k hk
    exact ⟨la k, by omega, by rw [d8 k hk]; exact l1, by rw [d9 k hk]; exact l2, fun j hj => by rw [q0 _ (by omega), q1 _ (by omega), ← Nat.add_assoc]; exact l3 j hj⟩
end

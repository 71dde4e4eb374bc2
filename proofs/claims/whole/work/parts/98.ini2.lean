/-! what each constructor does -/
section
variable {α : Type} {B : Nat} {hb h : zHp} {k0 k : Nat} {D : Nat → Option zPC} {Q : α → zHp → Prop}
theorem dswap {p q : Nat} {x y : zPC} (h : ¬ p = q) : dset (dset D p x) q y = dset (dset D q y) p x := by
  funext j
  show (if j = q then some y else if j = p then some x else D j) = (if j = p then some x else if j = q then some y else D j)
  by_cases e1 : j = q
  · rw [if_pos e1, if_neg (by omega), if_pos e1]
  · rw [if_neg e1, if_neg e1]
theorem zQ.swap {p q : Nat} {x y : zPC} (h0 : zQ B hb k0 k (dset (dset D p x) q y) h) (hn : ¬ p = q) : zQ B hb k0 k (dset (dset D q y) p x) h := by rw [← dswap hn]; exact h0
theorem q_M (h0 : zQ B hb k0 k D h) {n m : Nat} {f : Nat → zHp → Option (α × zHp)} (hD : ∀ j, k ≤ j → D j = none) (hc : .inl (5, n, .inr (.inr (.inr (.inr (fun i => if i < n then some (B + (k + 1 + i)) else none))))) = zcd B k zM1) (hr : ∀ i, i < n → .inl (0, m, .inl (fun _ => 0)) = zcd B (k + 1 + i) zM1) (kk : ∀ h1, zQ B hb k0 (k + 1 + n) D h1 → zwf (f (B + k) h1) Q) : zwf (zbd (znM h n m) f) Q := by
  obtain ⟨e, l, g1, g2⟩ := h0
  have ef : (fun i => if i < n then some (h.2 + 1 + i) else none) = (fun i => if i < n then some (B + (k + 1 + i)) else none) := by
    funext i
    rw [e, show B + k + 1 + i = B + (k + 1 + i) by omega]
  unfold znM
  rw [ef, e]
  show zwf (f (B + k) _) Q
  refine kk _ ⟨by show B + k + 1 + n = _; omega, by omega, fun j j1 j2 => ?_, fun j j1 => ?_⟩
  · show (if B + j = B + k then some _ else if B + k < B + j ∧ B + j < B + k + 1 + n then some _ else h.1 (B + j)) = _
    by_cases z : j = k
    · subst z
      rw [if_pos rfl, hD j (Nat.le_refl _), hc]; rfl
    · rw [if_neg (by omega)]
      by_cases y : k < j
      · rw [if_pos (by omega), hD j (by omega)]
        have := hr (j - (k + 1)) (by omega)
        rw [show k + 1 + (j - (k + 1)) = j by omega] at this
        rw [this]; rfl
      · rw [if_neg (by omega)]; exact g1 j j1 (by omega)
  · show (if B + j = B + k then some _ else if B + k < B + j ∧ B + j < B + k + 1 + n then some _ else h.1 (B + j)) = _
    rw [if_neg (by omega), if_neg (by omega)]; exact g2 j j1
theorem q_sI {q n : Nat} {F : Nat → Int32} {i v : Int32} {f : zHp → Option (α × zHp)} (h0 : zQ B hb k0 k (dset D q (.inl (0, n, .inl F))) h) (h1 : k0 ≤ q) (h2 : q < k) (hi : ¬ (i < 0 ∨ n ≤ i.toNatClampNeg)) (kk : ∀ h1, zQ B hb k0 k (dset D q (.inl (0, n, .inl (upd F i.toNatClampNeg v)))) h1 → zwf (f h1) Q) : zwf (zob (zsI 0 h (B + q) i v) f) Q := by
  have e : zsI 0 h (B + q) i v = some (zwr h (B + q) (.inl (0, n, .inl (upd F i.toNatClampNeg v)))) := by
    unfold zsI
    rw [h0.at h1 h2]
    simp only [hi, not_false_iff, and_self, if_true]
    rfl
  rw [e]
  exact kk _ (h0.wr h1 _)
theorem q_ln {q t n : Nat} {x : _} {f : Int32 → Option (α × zHp)} (h0 : zQ B hb k0 k (dset D q (.inl (t, n, x))) h) (h1 : k0 ≤ q) (h2 : q < k) (ht : t < 6) (kk : zwf (f (Int32.ofNat n)) Q) : zwf (zob (zln h (B + q)) f) Q := by
  have e : zln h (B + q) = some (Int32.ofNat n) := by
    unfold zln
    rw [h0.at h1 h2]
    simp only [ht, if_true]
  rw [e]
  exact kk
theorem q_sA {q n s : Nat} {F : Nat → Option Nat} {i : Int32} {f : zHp → Option (α × zHp)} {fs : List Value} (h0 : zQ B hb k0 k (dset D q (.inl (4, n, .inr (.inr (.inr (.inr F)))))) h) (h1 : k0 ≤ q) (h2 : q < k) (s1 : k0 ≤ s) (s2 : s < k) (sq : ¬ s = q) (sD : D s = none) (hs : zcd B s zM1 = .inr (5, fs)) (hi : ¬ (i < 0 ∨ n ≤ i.toNatClampNeg)) (kk : ∀ h1, zQ B hb k0 k (dset D q (.inl (4, n, .inr (.inr (.inr (.inr (va_up F i.toNatClampNeg (some (B + s))))))))) h1 → zwf (f h1) Q) : zwf (zob (zsA h (B + q) i (B + s)) f) Q := by
  have e : zsA h (B + q) i (B + s) = some (zwr h (B + q) (.inl (4, n, .inr (.inr (.inr (.inr (va_up F i.toNatClampNeg (some (B + s))))))))) := by
    have es : h.1 (B + s) = some (.inr (5, fs)) := by
      rw [h0.2.2.1 s s1 s2]
      show some ((if s = q then some _ else D s).getD _) = _
      rw [if_neg sq, sD, ← hs]; rfl
    unfold zsA
    rw [h0.at h1 h2, es]
    simp only [hi, not_false_iff, if_true]
  rw [e]
  exact kk _ (h0.wr h1 _)
theorem q_aA {q n v : Nat} {F : Nat → Option Nat} {i : Int32} {f : Nat → Option (α × zHp)} (h0 : zQ B hb k0 k (dset D q (.inl (4, n, .inr (.inr (.inr (.inr F)))))) h) (h1 : k0 ≤ q) (h2 : q < k) (hi : ¬ (i < 0 ∨ n ≤ i.toNatClampNeg)) (hF : F i.toNatClampNeg = some v) (kk : zwf (f v) Q) : zwf (zob (zaA 4 h (B + q) i) f) Q := by
  have e : zaA 4 h (B + q) i = some v := by
    unfold zaA
    rw [h0.at h1 h2]
    simp only [hi, not_false_iff, and_self, if_true]
    exact hF
  rw [e]
  exact kk
set_option maxRecDepth 100000 in
set_option maxHeartbeats 4000000 in
theorem sp_X2_18 : zSp B (fun a h => f_X2_init a h) 18 2 zfs_X2 23 := by
  intro h e
  have q := zQ.start h e (.inr (2, zfs_X2))
  show zwf (f_X2_init _ _) _
  unfold f_X2_init
  refine q_A q rfl rfl (fun h1 q => ?_)
  refine q_P q (by decide) (by decide) (Nat.le_of_ble_eq_true rfl) (fun h1 q => ?_)
  refine q_A q rfl rfl (fun h1 q => ?_)
  refine q_P q (by decide) (by decide) (Nat.le_of_ble_eq_true rfl) (fun h1 q => ?_)
  refine q_A q rfl rfl (fun h1 q => ?_)
  refine q_P q (by decide) (by decide) (Nat.le_of_ble_eq_true rfl) (fun h1 q => ?_)
  refine q_A q rfl rfl (fun h1 q => ?_)
  refine q_P q (by decide) (by decide) (Nat.le_of_ble_eq_true rfl) (fun h1 q => ?_)
  refine q_P q (by decide) (by decide) (Nat.le_of_ble_eq_true rfl) (fun h1 q => ?_)
  refine q_P q (by decide) (by decide) (Nat.le_of_ble_eq_true rfl) (fun h1 q => ?_)
  exact zwf_ret (q.done rfl rfl)
set_option maxRecDepth 100000 in
set_option maxHeartbeats 4000000 in
theorem sp_X2_37 : zSp B (fun a h => f_X2_init a h) 37 2 zfs_X2 42 := by
  intro h e
  have q := zQ.start h e (.inr (2, zfs_X2))
  show zwf (f_X2_init _ _) _
  unfold f_X2_init
  refine q_A q rfl rfl (fun h1 q => ?_)
  refine q_P q (by decide) (by decide) (Nat.le_of_ble_eq_true rfl) (fun h1 q => ?_)
  refine q_A q rfl rfl (fun h1 q => ?_)
  refine q_P q (by decide) (by decide) (Nat.le_of_ble_eq_true rfl) (fun h1 q => ?_)
  refine q_A q rfl rfl (fun h1 q => ?_)
  refine q_P q (by decide) (by decide) (Nat.le_of_ble_eq_true rfl) (fun h1 q => ?_)
  refine q_A q rfl rfl (fun h1 q => ?_)
  refine q_P q (by decide) (by decide) (Nat.le_of_ble_eq_true rfl) (fun h1 q => ?_)
  refine q_P q (by decide) (by decide) (Nat.le_of_ble_eq_true rfl) (fun h1 q => ?_)
  refine q_P q (by decide) (by decide) (Nat.le_of_ble_eq_true rfl) (fun h1 q => ?_)
  exact zwf_ret (q.done rfl rfl)
set_option maxRecDepth 100000 in
set_option maxHeartbeats 4000000 in
theorem sp_X3 : zSp B (fun a h => f_X3_init a h) 85 3 zfs_X3 92 := by
  intro h e
  have q := zQ.start h e (.inr (3, zfs_X3))
  show zwf (f_X3_init _ _) _
  unfold f_X3_init
  refine q_A q rfl rfl (fun h1 q => ?_)
  refine q_P q (by decide) (by decide) (Nat.le_of_ble_eq_true rfl) (fun h1 q => ?_)
  refine q_A q rfl rfl (fun h1 q => ?_)
  refine q_P q (by decide) (by decide) (Nat.le_of_ble_eq_true rfl) (fun h1 q => ?_)
  refine q_A q rfl rfl (fun h1 q => ?_)
  refine q_P q (by decide) (by decide) (Nat.le_of_ble_eq_true rfl) (fun h1 q => ?_)
  refine q_A q rfl rfl (fun h1 q => ?_)
  refine q_P q (by decide) (by decide) (Nat.le_of_ble_eq_true rfl) (fun h1 q => ?_)
  refine q_A q rfl rfl (fun h1 q => ?_)
  refine q_P q (by decide) (by decide) (Nat.le_of_ble_eq_true rfl) (fun h1 q => ?_)
  refine q_A q rfl rfl (fun h1 q => ?_)
  refine q_P q (by decide) (by decide) (Nat.le_of_ble_eq_true rfl) (fun h1 q => ?_)
  refine q_P q (by decide) (by decide) (Nat.le_of_ble_eq_true rfl) (fun h1 q => ?_)
  refine q_P q (by decide) (by decide) (Nat.le_of_ble_eq_true rfl) (fun h1 q => ?_)
  exact zwf_ret (q.done rfl rfl)
set_option maxRecDepth 100000 in
set_option maxHeartbeats 4000000 in
theorem sp_X6_5 : zSp B (fun a h => f_X6_init a h) 5 6 zfs_X6 23 := by
  intro h e
  have q := zQ.start h e (.inr (6, zfs_X6))
  show zwf (f_X6_init _ _) _
  unfold f_X6_init
  refine q_A q rfl rfl (fun h1 q => ?_)
  refine q_P q (by decide) (by decide) (Nat.le_of_ble_eq_true rfl) (fun h1 q => ?_)
  refine q_A q rfl rfl (fun h1 q => ?_)
  refine q_P q (by decide) (by decide) (Nat.le_of_ble_eq_true rfl) (fun h1 q => ?_)
  refine q_A q rfl rfl (fun h1 q => ?_)
  refine q_P q (by decide) (by decide) (Nat.le_of_ble_eq_true rfl) (fun h1 q => ?_)
  refine q_A q rfl rfl (fun h1 q => ?_)
  refine q_P q (by decide) (by decide) (Nat.le_of_ble_eq_true rfl) (fun h1 q => ?_)
  refine q_A q rfl rfl (fun h1 q => ?_)
  refine q_P q (by decide) (by decide) (Nat.le_of_ble_eq_true rfl) (fun h1 q => ?_)
  refine q_A q rfl rfl (fun h1 q => ?_)
  refine q_P q (by decide) (by decide) (Nat.le_of_ble_eq_true rfl) (fun h1 q => ?_)
  refine q_A q rfl rfl (fun h1 q => ?_)
  refine q_P q (by decide) (by decide) (Nat.le_of_ble_eq_true rfl) (fun h1 q => ?_)
  refine q_A q rfl rfl (fun h1 q => ?_)
  refine q_P q (by decide) (by decide) (Nat.le_of_ble_eq_true rfl) (fun h1 q => ?_)
  refine q_A q rfl rfl (fun h1 q => ?_)
  refine q_P q (by decide) (by decide) (Nat.le_of_ble_eq_true rfl) (fun h1 q => ?_)
  refine q_A q rfl rfl (fun h1 q => ?_)
  refine q_P q (by decide) (by decide) (Nat.le_of_ble_eq_true rfl) (fun h1 q => ?_)
  refine q_A q rfl rfl (fun h1 q => ?_)
  refine q_P q (by decide) (by decide) (Nat.le_of_ble_eq_true rfl) (fun h1 q => ?_)
  refine q_A q rfl rfl (fun h1 q => ?_)
  refine q_P q (by decide) (by decide) (Nat.le_of_ble_eq_true rfl) (fun h1 q => ?_)
  refine q_O q ?_
  refine q_C q sp_X2_18 (fun j hj => if_neg (by omega)) (fun h1 q => ?_)
  refine q_P q (by decide) (by decide) (Nat.le_of_ble_eq_true rfl) (fun h1 q => ?_)
  refine q_P q (by decide) (by decide) (Nat.le_of_ble_eq_true rfl) (fun h1 q => ?_)
  refine q_P q (by decide) (by decide) (Nat.le_of_ble_eq_true rfl) (fun h1 q => ?_)
  refine q_P q (by decide) (by decide) (Nat.le_of_ble_eq_true rfl) (fun h1 q => ?_)
  refine q_P q (by decide) (by decide) (Nat.le_of_ble_eq_true rfl) (fun h1 q => ?_)
  refine q_P q (by decide) (by decide) (Nat.le_of_ble_eq_true rfl) (fun h1 q => ?_)
  refine q_P q (by decide) (by decide) (Nat.le_of_ble_eq_true rfl) (fun h1 q => ?_)
  exact zwf_ret (q.done rfl rfl)
set_option maxRecDepth 100000 in
set_option maxHeartbeats 4000000 in
theorem sp_X6_24 : zSp B (fun a h => f_X6_init a h) 24 6 zfs_X6 42 := by
  intro h e
  have q := zQ.start h e (.inr (6, zfs_X6))
  show zwf (f_X6_init _ _) _
  unfold f_X6_init
  refine q_A q rfl rfl (fun h1 q => ?_)
  refine q_P q (by decide) (by decide) (Nat.le_of_ble_eq_true rfl) (fun h1 q => ?_)
  refine q_A q rfl rfl (fun h1 q => ?_)
  refine q_P q (by decide) (by decide) (Nat.le_of_ble_eq_true rfl) (fun h1 q => ?_)
  refine q_A q rfl rfl (fun h1 q => ?_)
  refine q_P q (by decide) (by decide) (Nat.le_of_ble_eq_true rfl) (fun h1 q => ?_)
  refine q_A q rfl rfl (fun h1 q => ?_)
  refine q_P q (by decide) (by decide) (Nat.le_of_ble_eq_true rfl) (fun h1 q => ?_)
  refine q_A q rfl rfl (fun h1 q => ?_)
  refine q_P q (by decide) (by decide) (Nat.le_of_ble_eq_true rfl) (fun h1 q => ?_)
  refine q_A q rfl rfl (fun h1 q => ?_)
  refine q_P q (by decide) (by decide) (Nat.le_of_ble_eq_true rfl) (fun h1 q => ?_)
  refine q_A q rfl rfl (fun h1 q => ?_)
  refine q_P q (by decide) (by decide) (Nat.le_of_ble_eq_true rfl) (fun h1 q => ?_)
  refine q_A q rfl rfl (fun h1 q => ?_)
  refine q_P q (by decide) (by decide) (Nat.le_of_ble_eq_true rfl) (fun h1 q => ?_)
  refine q_A q rfl rfl (fun h1 q => ?_)
  refine q_P q (by decide) (by decide) (Nat.le_of_ble_eq_true rfl) (fun h1 q => ?_)
  refine q_A q rfl rfl (fun h1 q => ?_)
  refine q_P q (by decide) (by decide) (Nat.le_of_ble_eq_true rfl) (fun h1 q => ?_)
  refine q_A q rfl rfl (fun h1 q => ?_)
  refine q_P q (by decide) (by decide) (Nat.le_of_ble_eq_true rfl) (fun h1 q => ?_)
  refine q_A q rfl rfl (fun h1 q => ?_)
  refine q_P q (by decide) (by decide) (Nat.le_of_ble_eq_true rfl) (fun h1 q => ?_)
  refine q_O q ?_
  refine q_C q sp_X2_37 (fun j hj => if_neg (by omega)) (fun h1 q => ?_)
  refine q_P q (by decide) (by decide) (Nat.le_of_ble_eq_true rfl) (fun h1 q => ?_)
  refine q_P q (by decide) (by decide) (Nat.le_of_ble_eq_true rfl) (fun h1 q => ?_)
  refine q_P q (by decide) (by decide) (Nat.le_of_ble_eq_true rfl) (fun h1 q => ?_)
  refine q_P q (by decide) (by decide) (Nat.le_of_ble_eq_true rfl) (fun h1 q => ?_)
  refine q_P q (by decide) (by decide) (Nat.le_of_ble_eq_true rfl) (fun h1 q => ?_)
  refine q_P q (by decide) (by decide) (Nat.le_of_ble_eq_true rfl) (fun h1 q => ?_)
  refine q_P q (by decide) (by decide) (Nat.le_of_ble_eq_true rfl) (fun h1 q => ?_)
  exact zwf_ret (q.done rfl rfl)
set_option maxRecDepth 100000 in
set_option maxHeartbeats 4000000 in
theorem sp_X5_42 : zSp B (fun a h => f_X5_init a (B + 24) h) 42 5 zfs_X5 61 := by
  intro h e
  have q := zQ.start h e (.inr (5, zfs_X5))
  show zwf (f_X5_init _ _ _) _
  unfold f_X5_init
  refine q_A q rfl rfl (fun h1 q => ?_)
  refine q_P q (by decide) (by decide) (Nat.le_of_ble_eq_true rfl) (fun h1 q => ?_)
  refine q_A q rfl rfl (fun h1 q => ?_)
  refine q_P q (by decide) (by decide) (Nat.le_of_ble_eq_true rfl) (fun h1 q => ?_)
  refine q_A q rfl rfl (fun h1 q => ?_)
  refine q_P q (by decide) (by decide) (Nat.le_of_ble_eq_true rfl) (fun h1 q => ?_)
  refine q_A q rfl rfl (fun h1 q => ?_)
  refine q_P q (by decide) (by decide) (Nat.le_of_ble_eq_true rfl) (fun h1 q => ?_)
  refine q_A q rfl rfl (fun h1 q => ?_)
  refine q_P q (by decide) (by decide) (Nat.le_of_ble_eq_true rfl) (fun h1 q => ?_)
  refine q_A q rfl rfl (fun h1 q => ?_)
  refine q_P q (by decide) (by decide) (Nat.le_of_ble_eq_true rfl) (fun h1 q => ?_)
  refine q_A q rfl rfl (fun h1 q => ?_)
  refine q_P q (by decide) (by decide) (Nat.le_of_ble_eq_true rfl) (fun h1 q => ?_)
  refine q_A q rfl rfl (fun h1 q => ?_)
  refine q_P q (by decide) (by decide) (Nat.le_of_ble_eq_true rfl) (fun h1 q => ?_)
  refine q_A q rfl rfl (fun h1 q => ?_)
  refine q_P q (by decide) (by decide) (Nat.le_of_ble_eq_true rfl) (fun h1 q => ?_)
  refine q_A q rfl rfl (fun h1 q => ?_)
  refine q_P q (by decide) (by decide) (Nat.le_of_ble_eq_true rfl) (fun h1 q => ?_)
  refine q_M q (fun j hj => if_neg (by omega)) rfl (fun i hi => by rcases (show i = 0 ∨ i = 1 ∨ i = 2 ∨ i = 3 ∨ i = 4 ∨ i = 5 by omega) with rfl | rfl | rfl | rfl | rfl | rfl <;> rfl) (fun h1 q => ?_)
  refine q_P q (by decide) (by decide) (Nat.le_of_ble_eq_true rfl) (fun h1 q => ?_)
  refine q_A q rfl rfl (fun h1 q => ?_)
  refine q_P q (by decide) (by decide) (Nat.le_of_ble_eq_true rfl) (fun h1 q => ?_)
  refine q_P q (by decide) (by decide) (Nat.le_of_ble_eq_true rfl) (fun h1 q => ?_)
  refine q_P q (by decide) (by decide) (Nat.le_of_ble_eq_true rfl) (fun h1 q => ?_)
  exact zwf_ret (q.done rfl rfl)
set_option maxRecDepth 100000 in
set_option maxHeartbeats 4000000 in
theorem sp_X5_61 : zSp B (fun a h => f_X5_init a (B + 24) h) 61 5 zfs_X5 80 := by
  intro h e
  have q := zQ.start h e (.inr (5, zfs_X5))
  show zwf (f_X5_init _ _ _) _
  unfold f_X5_init
  refine q_A q rfl rfl (fun h1 q => ?_)
  refine q_P q (by decide) (by decide) (Nat.le_of_ble_eq_true rfl) (fun h1 q => ?_)
  refine q_A q rfl rfl (fun h1 q => ?_)
  refine q_P q (by decide) (by decide) (Nat.le_of_ble_eq_true rfl) (fun h1 q => ?_)
  refine q_A q rfl rfl (fun h1 q => ?_)
  refine q_P q (by decide) (by decide) (Nat.le_of_ble_eq_true rfl) (fun h1 q => ?_)
  refine q_A q rfl rfl (fun h1 q => ?_)
  refine q_P q (by decide) (by decide) (Nat.le_of_ble_eq_true rfl) (fun h1 q => ?_)
  refine q_A q rfl rfl (fun h1 q => ?_)
  refine q_P q (by decide) (by decide) (Nat.le_of_ble_eq_true rfl) (fun h1 q => ?_)
  refine q_A q rfl rfl (fun h1 q => ?_)
  refine q_P q (by decide) (by decide) (Nat.le_of_ble_eq_true rfl) (fun h1 q => ?_)
  refine q_A q rfl rfl (fun h1 q => ?_)
  refine q_P q (by decide) (by decide) (Nat.le_of_ble_eq_true rfl) (fun h1 q => ?_)
  refine q_A q rfl rfl (fun h1 q => ?_)
  refine q_P q (by decide) (by decide) (Nat.le_of_ble_eq_true rfl) (fun h1 q => ?_)
  refine q_A q rfl rfl (fun h1 q => ?_)
  refine q_P q (by decide) (by decide) (Nat.le_of_ble_eq_true rfl) (fun h1 q => ?_)
  refine q_A q rfl rfl (fun h1 q => ?_)
  refine q_P q (by decide) (by decide) (Nat.le_of_ble_eq_true rfl) (fun h1 q => ?_)
  refine q_M q (fun j hj => if_neg (by omega)) rfl (fun i hi => by rcases (show i = 0 ∨ i = 1 ∨ i = 2 ∨ i = 3 ∨ i = 4 ∨ i = 5 by omega) with rfl | rfl | rfl | rfl | rfl | rfl <;> rfl) (fun h1 q => ?_)
  refine q_P q (by decide) (by decide) (Nat.le_of_ble_eq_true rfl) (fun h1 q => ?_)
  refine q_A q rfl rfl (fun h1 q => ?_)
  refine q_P q (by decide) (by decide) (Nat.le_of_ble_eq_true rfl) (fun h1 q => ?_)
  refine q_P q (by decide) (by decide) (Nat.le_of_ble_eq_true rfl) (fun h1 q => ?_)
  refine q_P q (by decide) (by decide) (Nat.le_of_ble_eq_true rfl) (fun h1 q => ?_)
  exact zwf_ret (q.done rfl rfl)
set_option maxRecDepth 100000 in
set_option maxHeartbeats 4000000 in
theorem sp_X5_99 : zSp B (fun a h => f_X5_init a (B + 24) h) 99 5 zfs_X5 118 := by
  intro h e
  have q := zQ.start h e (.inr (5, zfs_X5))
  show zwf (f_X5_init _ _ _) _
  unfold f_X5_init
  refine q_A q rfl rfl (fun h1 q => ?_)
  refine q_P q (by decide) (by decide) (Nat.le_of_ble_eq_true rfl) (fun h1 q => ?_)
  refine q_A q rfl rfl (fun h1 q => ?_)
  refine q_P q (by decide) (by decide) (Nat.le_of_ble_eq_true rfl) (fun h1 q => ?_)
  refine q_A q rfl rfl (fun h1 q => ?_)
  refine q_P q (by decide) (by decide) (Nat.le_of_ble_eq_true rfl) (fun h1 q => ?_)
  refine q_A q rfl rfl (fun h1 q => ?_)
  refine q_P q (by decide) (by decide) (Nat.le_of_ble_eq_true rfl) (fun h1 q => ?_)
  refine q_A q rfl rfl (fun h1 q => ?_)
  refine q_P q (by decide) (by decide) (Nat.le_of_ble_eq_true rfl) (fun h1 q => ?_)
  refine q_A q rfl rfl (fun h1 q => ?_)
  refine q_P q (by decide) (by decide) (Nat.le_of_ble_eq_true rfl) (fun h1 q => ?_)
  refine q_A q rfl rfl (fun h1 q => ?_)
  refine q_P q (by decide) (by decide) (Nat.le_of_ble_eq_true rfl) (fun h1 q => ?_)
  refine q_A q rfl rfl (fun h1 q => ?_)
  refine q_P q (by decide) (by decide) (Nat.le_of_ble_eq_true rfl) (fun h1 q => ?_)
  refine q_A q rfl rfl (fun h1 q => ?_)
  refine q_P q (by decide) (by decide) (Nat.le_of_ble_eq_true rfl) (fun h1 q => ?_)
  refine q_A q rfl rfl (fun h1 q => ?_)
  refine q_P q (by decide) (by decide) (Nat.le_of_ble_eq_true rfl) (fun h1 q => ?_)
  refine q_M q (fun j hj => if_neg (by omega)) rfl (fun i hi => by rcases (show i = 0 ∨ i = 1 ∨ i = 2 ∨ i = 3 ∨ i = 4 ∨ i = 5 by omega) with rfl | rfl | rfl | rfl | rfl | rfl <;> rfl) (fun h1 q => ?_)
  refine q_P q (by decide) (by decide) (Nat.le_of_ble_eq_true rfl) (fun h1 q => ?_)
  refine q_A q rfl rfl (fun h1 q => ?_)
  refine q_P q (by decide) (by decide) (Nat.le_of_ble_eq_true rfl) (fun h1 q => ?_)
  refine q_P q (by decide) (by decide) (Nat.le_of_ble_eq_true rfl) (fun h1 q => ?_)
  refine q_P q (by decide) (by decide) (Nat.le_of_ble_eq_true rfl) (fun h1 q => ?_)
  exact zwf_ret (q.done rfl rfl)
set_option maxRecDepth 100000 in
set_option maxHeartbeats 4000000 in
theorem sp_X5_118 : zSp B (fun a h => f_X5_init a (B + 24) h) 118 5 zfs_X5 137 := by
  intro h e
  have q := zQ.start h e (.inr (5, zfs_X5))
  show zwf (f_X5_init _ _ _) _
  unfold f_X5_init
  refine q_A q rfl rfl (fun h1 q => ?_)
  refine q_P q (by decide) (by decide) (Nat.le_of_ble_eq_true rfl) (fun h1 q => ?_)
  refine q_A q rfl rfl (fun h1 q => ?_)
  refine q_P q (by decide) (by decide) (Nat.le_of_ble_eq_true rfl) (fun h1 q => ?_)
  refine q_A q rfl rfl (fun h1 q => ?_)
  refine q_P q (by decide) (by decide) (Nat.le_of_ble_eq_true rfl) (fun h1 q => ?_)
  refine q_A q rfl rfl (fun h1 q => ?_)
  refine q_P q (by decide) (by decide) (Nat.le_of_ble_eq_true rfl) (fun h1 q => ?_)
  refine q_A q rfl rfl (fun h1 q => ?_)
  refine q_P q (by decide) (by decide) (Nat.le_of_ble_eq_true rfl) (fun h1 q => ?_)
  refine q_A q rfl rfl (fun h1 q => ?_)
  refine q_P q (by decide) (by decide) (Nat.le_of_ble_eq_true rfl) (fun h1 q => ?_)
  refine q_A q rfl rfl (fun h1 q => ?_)
  refine q_P q (by decide) (by decide) (Nat.le_of_ble_eq_true rfl) (fun h1 q => ?_)
  refine q_A q rfl rfl (fun h1 q => ?_)
  refine q_P q (by decide) (by decide) (Nat.le_of_ble_eq_true rfl) (fun h1 q => ?_)
  refine q_A q rfl rfl (fun h1 q => ?_)
  refine q_P q (by decide) (by decide) (Nat.le_of_ble_eq_true rfl) (fun h1 q => ?_)
  refine q_A q rfl rfl (fun h1 q => ?_)
  refine q_P q (by decide) (by decide) (Nat.le_of_ble_eq_true rfl) (fun h1 q => ?_)
  refine q_M q (fun j hj => if_neg (by omega)) rfl (fun i hi => by rcases (show i = 0 ∨ i = 1 ∨ i = 2 ∨ i = 3 ∨ i = 4 ∨ i = 5 by omega) with rfl | rfl | rfl | rfl | rfl | rfl <;> rfl) (fun h1 q => ?_)
  refine q_P q (by decide) (by decide) (Nat.le_of_ble_eq_true rfl) (fun h1 q => ?_)
  refine q_A q rfl rfl (fun h1 q => ?_)
  refine q_P q (by decide) (by decide) (Nat.le_of_ble_eq_true rfl) (fun h1 q => ?_)
  refine q_P q (by decide) (by decide) (Nat.le_of_ble_eq_true rfl) (fun h1 q => ?_)
  refine q_P q (by decide) (by decide) (Nat.le_of_ble_eq_true rfl) (fun h1 q => ?_)
  exact zwf_ret (q.done rfl rfl)
set_option maxRecDepth 100000 in
set_option maxHeartbeats 4000000 in
theorem sp_X5_137 : zSp B (fun a h => f_X5_init a (B + 24) h) 137 5 zfs_X5 156 := by
  intro h e
  have q := zQ.start h e (.inr (5, zfs_X5))
  show zwf (f_X5_init _ _ _) _
  unfold f_X5_init
  refine q_A q rfl rfl (fun h1 q => ?_)
  refine q_P q (by decide) (by decide) (Nat.le_of_ble_eq_true rfl) (fun h1 q => ?_)
  refine q_A q rfl rfl (fun h1 q => ?_)
  refine q_P q (by decide) (by decide) (Nat.le_of_ble_eq_true rfl) (fun h1 q => ?_)
  refine q_A q rfl rfl (fun h1 q => ?_)
  refine q_P q (by decide) (by decide) (Nat.le_of_ble_eq_true rfl) (fun h1 q => ?_)
  refine q_A q rfl rfl (fun h1 q => ?_)
  refine q_P q (by decide) (by decide) (Nat.le_of_ble_eq_true rfl) (fun h1 q => ?_)
  refine q_A q rfl rfl (fun h1 q => ?_)
  refine q_P q (by decide) (by decide) (Nat.le_of_ble_eq_true rfl) (fun h1 q => ?_)
  refine q_A q rfl rfl (fun h1 q => ?_)
  refine q_P q (by decide) (by decide) (Nat.le_of_ble_eq_true rfl) (fun h1 q => ?_)
  refine q_A q rfl rfl (fun h1 q => ?_)
  refine q_P q (by decide) (by decide) (Nat.le_of_ble_eq_true rfl) (fun h1 q => ?_)
  refine q_A q rfl rfl (fun h1 q => ?_)
  refine q_P q (by decide) (by decide) (Nat.le_of_ble_eq_true rfl) (fun h1 q => ?_)
  refine q_A q rfl rfl (fun h1 q => ?_)
  refine q_P q (by decide) (by decide) (Nat.le_of_ble_eq_true rfl) (fun h1 q => ?_)
  refine q_A q rfl rfl (fun h1 q => ?_)
  refine q_P q (by decide) (by decide) (Nat.le_of_ble_eq_true rfl) (fun h1 q => ?_)
  refine q_M q (fun j hj => if_neg (by omega)) rfl (fun i hi => by rcases (show i = 0 ∨ i = 1 ∨ i = 2 ∨ i = 3 ∨ i = 4 ∨ i = 5 by omega) with rfl | rfl | rfl | rfl | rfl | rfl <;> rfl) (fun h1 q => ?_)
  refine q_P q (by decide) (by decide) (Nat.le_of_ble_eq_true rfl) (fun h1 q => ?_)
  refine q_A q rfl rfl (fun h1 q => ?_)
  refine q_P q (by decide) (by decide) (Nat.le_of_ble_eq_true rfl) (fun h1 q => ?_)
  refine q_P q (by decide) (by decide) (Nat.le_of_ble_eq_true rfl) (fun h1 q => ?_)
  refine q_P q (by decide) (by decide) (Nat.le_of_ble_eq_true rfl) (fun h1 q => ?_)
  exact zwf_ret (q.done rfl rfl)
set_option maxRecDepth 100000 in
set_option maxHeartbeats 4000000 in
theorem sp_X5_156 : zSp B (fun a h => f_X5_init a (B + 24) h) 156 5 zfs_X5 175 := by
  intro h e
  have q := zQ.start h e (.inr (5, zfs_X5))
  show zwf (f_X5_init _ _ _) _
  unfold f_X5_init
  refine q_A q rfl rfl (fun h1 q => ?_)
  refine q_P q (by decide) (by decide) (Nat.le_of_ble_eq_true rfl) (fun h1 q => ?_)
  refine q_A q rfl rfl (fun h1 q => ?_)
  refine q_P q (by decide) (by decide) (Nat.le_of_ble_eq_true rfl) (fun h1 q => ?_)
  refine q_A q rfl rfl (fun h1 q => ?_)
  refine q_P q (by decide) (by decide) (Nat.le_of_ble_eq_true rfl) (fun h1 q => ?_)
  refine q_A q rfl rfl (fun h1 q => ?_)
  refine q_P q (by decide) (by decide) (Nat.le_of_ble_eq_true rfl) (fun h1 q => ?_)
  refine q_A q rfl rfl (fun h1 q => ?_)
  refine q_P q (by decide) (by decide) (Nat.le_of_ble_eq_true rfl) (fun h1 q => ?_)
  refine q_A q rfl rfl (fun h1 q => ?_)
  refine q_P q (by decide) (by decide) (Nat.le_of_ble_eq_true rfl) (fun h1 q => ?_)
  refine q_A q rfl rfl (fun h1 q => ?_)
  refine q_P q (by decide) (by decide) (Nat.le_of_ble_eq_true rfl) (fun h1 q => ?_)
  refine q_A q rfl rfl (fun h1 q => ?_)
  refine q_P q (by decide) (by decide) (Nat.le_of_ble_eq_true rfl) (fun h1 q => ?_)
  refine q_A q rfl rfl (fun h1 q => ?_)
  refine q_P q (by decide) (by decide) (Nat.le_of_ble_eq_true rfl) (fun h1 q => ?_)
  refine q_A q rfl rfl (fun h1 q => ?_)
  refine q_P q (by decide) (by decide) (Nat.le_of_ble_eq_true rfl) (fun h1 q => ?_)
  refine q_M q (fun j hj => if_neg (by omega)) rfl (fun i hi => by rcases (show i = 0 ∨ i = 1 ∨ i = 2 ∨ i = 3 ∨ i = 4 ∨ i = 5 by omega) with rfl | rfl | rfl | rfl | rfl | rfl <;> rfl) (fun h1 q => ?_)
  refine q_P q (by decide) (by decide) (Nat.le_of_ble_eq_true rfl) (fun h1 q => ?_)
  refine q_A q rfl rfl (fun h1 q => ?_)
  refine q_P q (by decide) (by decide) (Nat.le_of_ble_eq_true rfl) (fun h1 q => ?_)
  refine q_P q (by decide) (by decide) (Nat.le_of_ble_eq_true rfl) (fun h1 q => ?_)
  refine q_P q (by decide) (by decide) (Nat.le_of_ble_eq_true rfl) (fun h1 q => ?_)
  exact zwf_ret (q.done rfl rfl)
set_option maxRecDepth 100000 in
set_option maxHeartbeats 4000000 in
theorem sp_X5_175 : zSp B (fun a h => f_X5_init a (B + 24) h) 175 5 zfs_X5 194 := by
  intro h e
  have q := zQ.start h e (.inr (5, zfs_X5))
  show zwf (f_X5_init _ _ _) _
  unfold f_X5_init
  refine q_A q rfl rfl (fun h1 q => ?_)
  refine q_P q (by decide) (by decide) (Nat.le_of_ble_eq_true rfl) (fun h1 q => ?_)
  refine q_A q rfl rfl (fun h1 q => ?_)
  refine q_P q (by decide) (by decide) (Nat.le_of_ble_eq_true rfl) (fun h1 q => ?_)
  refine q_A q rfl rfl (fun h1 q => ?_)
  refine q_P q (by decide) (by decide) (Nat.le_of_ble_eq_true rfl) (fun h1 q => ?_)
  refine q_A q rfl rfl (fun h1 q => ?_)
  refine q_P q (by decide) (by decide) (Nat.le_of_ble_eq_true rfl) (fun h1 q => ?_)
  refine q_A q rfl rfl (fun h1 q => ?_)
  refine q_P q (by decide) (by decide) (Nat.le_of_ble_eq_true rfl) (fun h1 q => ?_)
  refine q_A q rfl rfl (fun h1 q => ?_)
  refine q_P q (by decide) (by decide) (Nat.le_of_ble_eq_true rfl) (fun h1 q => ?_)
  refine q_A q rfl rfl (fun h1 q => ?_)
  refine q_P q (by decide) (by decide) (Nat.le_of_ble_eq_true rfl) (fun h1 q => ?_)
  refine q_A q rfl rfl (fun h1 q => ?_)
  refine q_P q (by decide) (by decide) (Nat.le_of_ble_eq_true rfl) (fun h1 q => ?_)
  refine q_A q rfl rfl (fun h1 q => ?_)
  refine q_P q (by decide) (by decide) (Nat.le_of_ble_eq_true rfl) (fun h1 q => ?_)
  refine q_A q rfl rfl (fun h1 q => ?_)
  refine q_P q (by decide) (by decide) (Nat.le_of_ble_eq_true rfl) (fun h1 q => ?_)
  refine q_M q (fun j hj => if_neg (by omega)) rfl (fun i hi => by rcases (show i = 0 ∨ i = 1 ∨ i = 2 ∨ i = 3 ∨ i = 4 ∨ i = 5 by omega) with rfl | rfl | rfl | rfl | rfl | rfl <;> rfl) (fun h1 q => ?_)
  refine q_P q (by decide) (by decide) (Nat.le_of_ble_eq_true rfl) (fun h1 q => ?_)
  refine q_A q rfl rfl (fun h1 q => ?_)
  refine q_P q (by decide) (by decide) (Nat.le_of_ble_eq_true rfl) (fun h1 q => ?_)
  refine q_P q (by decide) (by decide) (Nat.le_of_ble_eq_true rfl) (fun h1 q => ?_)
  refine q_P q (by decide) (by decide) (Nat.le_of_ble_eq_true rfl) (fun h1 q => ?_)
  exact zwf_ret (q.done rfl rfl)
set_option maxRecDepth 100000 in
set_option maxHeartbeats 4000000 in
theorem sp_X5_194 : zSp B (fun a h => f_X5_init a (B + 24) h) 194 5 zfs_X5 213 := by
  intro h e
  have q := zQ.start h e (.inr (5, zfs_X5))
  show zwf (f_X5_init _ _ _) _
  unfold f_X5_init
  refine q_A q rfl rfl (fun h1 q => ?_)
  refine q_P q (by decide) (by decide) (Nat.le_of_ble_eq_true rfl) (fun h1 q => ?_)
  refine q_A q rfl rfl (fun h1 q => ?_)
  refine q_P q (by decide) (by decide) (Nat.le_of_ble_eq_true rfl) (fun h1 q => ?_)
  refine q_A q rfl rfl (fun h1 q => ?_)
  refine q_P q (by decide) (by decide) (Nat.le_of_ble_eq_true rfl) (fun h1 q => ?_)
  refine q_A q rfl rfl (fun h1 q => ?_)
  refine q_P q (by decide) (by decide) (Nat.le_of_ble_eq_true rfl) (fun h1 q => ?_)
  refine q_A q rfl rfl (fun h1 q => ?_)
  refine q_P q (by decide) (by decide) (Nat.le_of_ble_eq_true rfl) (fun h1 q => ?_)
  refine q_A q rfl rfl (fun h1 q => ?_)
  refine q_P q (by decide) (by decide) (Nat.le_of_ble_eq_true rfl) (fun h1 q => ?_)
  refine q_A q rfl rfl (fun h1 q => ?_)
  refine q_P q (by decide) (by decide) (Nat.le_of_ble_eq_true rfl) (fun h1 q => ?_)
  refine q_A q rfl rfl (fun h1 q => ?_)
  refine q_P q (by decide) (by decide) (Nat.le_of_ble_eq_true rfl) (fun h1 q => ?_)
  refine q_A q rfl rfl (fun h1 q => ?_)
  refine q_P q (by decide) (by decide) (Nat.le_of_ble_eq_true rfl) (fun h1 q => ?_)
  refine q_A q rfl rfl (fun h1 q => ?_)
  refine q_P q (by decide) (by decide) (Nat.le_of_ble_eq_true rfl) (fun h1 q => ?_)
  refine q_M q (fun j hj => if_neg (by omega)) rfl (fun i hi => by rcases (show i = 0 ∨ i = 1 ∨ i = 2 ∨ i = 3 ∨ i = 4 ∨ i = 5 by omega) with rfl | rfl | rfl | rfl | rfl | rfl <;> rfl) (fun h1 q => ?_)
  refine q_P q (by decide) (by decide) (Nat.le_of_ble_eq_true rfl) (fun h1 q => ?_)
  refine q_A q rfl rfl (fun h1 q => ?_)
  refine q_P q (by decide) (by decide) (Nat.le_of_ble_eq_true rfl) (fun h1 q => ?_)
  refine q_P q (by decide) (by decide) (Nat.le_of_ble_eq_true rfl) (fun h1 q => ?_)
  refine q_P q (by decide) (by decide) (Nat.le_of_ble_eq_true rfl) (fun h1 q => ?_)
  exact zwf_ret (q.done rfl rfl)
end

/-! what each constructor does -/
section
variable {α : Type} {B : Nat} {hb h : zHp} {k0 k : Nat} {D : Nat → Option zPC} {Q : α → zHp → Prop}
theorem dswap {p q : Nat} {x y : zPC} (h : ¬ p = q) : dset (dset D p x) q y = dset (dset D q y) p x := by
  funext j
  show (if j = q then some y else if j = p then some x else D j) = (if j = p then some x else if j = q then some y else D j)
  by_cases e1 : j = q
  · rw [if_pos e1, if_neg (by omega), if_pos e1]
  · rw [if_neg e1, if_neg e1]
theorem zQ.swap {p q : Nat} {x y : zPC} (h0 : zQ B hb k0 k (dset (dset D p x) q y) h) (hn : ¬ p = q) : zQ B hb k0 k (dset (dset D q y) p x) h := by rw [← dswap hn]; exact h0
theorem q_M (h0 : zQ B hb k0 k D h) {n m : Nat} {f : Nat → zHp → Option (α × zHp)} (hD : ∀ j, k ≤ j → D j = none) (hc : .inl (5, n, .inr (.inr (.inr (.inr (fun i => if i < n then some (B + (k + 1 + i)) else none))))) = zcd B k zM1) (hr : ∀ i, i < n → .inl (0, m, .inl (fun _ => 0)) = zcd B (k + 1 + i) zM1) (kk : ∀ h1, zQ B hb k0 (k + 1 + n) D h1 → zwf (f (B + k) h1) Q) : zwf (zbd (znM h n m) f) Q := by
  obtain ⟨e, l, g1, g2⟩ := h0
  have ef : (fun i => if i < n then some (h.2 + 1 + i) else none) = (fun i => if i < n then some (B + (k + 1 + i)) else none) := by
    funext i
    rw [e, show B + k + 1 + i = B + (k + 1 + i) by omega]
  unfold znM
  rw [ef, e]
  show zwf (f (B + k) _) Q
  refine kk _ ⟨by show B + k + 1 + n = _; omega, by omega, fun j j1 j2 => ?_, fun j j1 => ?_⟩
  · show (if B + j = B + k then some _ else if B + k < B + j ∧ B + j < B + k + 1 + n then some _ else h.1 (B + j)) = _
    by_cases z : j = k
    · subst z
      rw [if_pos rfl, hD j (Nat.le_refl _), hc]; rfl
    · rw [if_neg (by omega)]
      by_cases y : k < j
      · rw [if_pos (by omega), hD j (by omega)]
        have := hr (j - (k + 1)) (by omega)
        rw [show k + 1 + (j - (k + 1)) = j by omega] at this
        rw [this]; rfl
      · rw [if_neg (by omega)]; exact g1 j j1 (by omega)
  · show (if B + j = B + k then some _ else if B + k < B + j ∧ B + j < B + k + 1 + n then some _ else h.1 (B + j)) = _
    rw [if_neg (by omega), if_neg (by omega)]; exact g2 j j1
theorem q_Pn {q c j : Nat} {fs fs' : List Value} {v : Value} {f : zHp → Option (α × zHp)} (h0 : zQ B hb k0 k (dset D q (.inr (c, fs))) h) (h1 : k0 ≤ q) (h2 : q < k) (hl : j < fs.length) (he : fs.set j v = fs') (kk : ∀ h1, zQ B hb k0 k (dset D q (.inr (c, fs'))) h1 → zwf (f h1) Q) : zwf (zob (zpV h (B + q) c j v) f) Q := by
  subst he
  exact q_P h0 h1 h2 hl kk
theorem q_sI {q n : Nat} {F : Nat → Int32} {i v : Int32} {f : zHp → Option (α × zHp)} (h0 : zQ B hb k0 k (dset D q (.inl (0, n, .inl F))) h) (h1 : k0 ≤ q) (h2 : q < k) (hi : ¬ (i < 0 ∨ n ≤ i.toNatClampNeg)) (kk : ∀ h1, zQ B hb k0 k (dset D q (.inl (0, n, .inl (upd F i.toNatClampNeg v)))) h1 → zwf (f h1) Q) : zwf (zob (zsI 0 h (B + q) i v) f) Q := by
  have e : zsI 0 h (B + q) i v = some (zwr h (B + q) (.inl (0, n, .inl (upd F i.toNatClampNeg v)))) := by
    unfold zsI
    rw [h0.at h1 h2]
    simp only [hi, not_false_iff, and_self, if_true]
    rfl
  rw [e]
  exact kk _ (h0.wr h1 _)
theorem q_ln {q t n : Nat} {x : _} {f : Int32 → Option (α × zHp)} (h0 : zQ B hb k0 k (dset D q (.inl (t, n, x))) h) (h1 : k0 ≤ q) (h2 : q < k) (ht : t < 6) (kk : zwf (f (Int32.ofNat n)) Q) : zwf (zob (zln h (B + q)) f) Q := by
  have e : zln h (B + q) = some (Int32.ofNat n) := by
    unfold zln
    rw [h0.at h1 h2]
    simp only [ht, if_true]
  rw [e]
  exact kk
theorem q_sA {q n s : Nat} {F : Nat → Option Nat} {i : Int32} {f : zHp → Option (α × zHp)} {fs : List Value} (h0 : zQ B hb k0 k (dset D q (.inl (4, n, .inr (.inr (.inr (.inr F)))))) h) (h1 : k0 ≤ q) (h2 : q < k) (s1 : k0 ≤ s) (s2 : s < k) (sq : ¬ s = q) (sD : D s = none) (hs : zcd B s zM1 = .inr (5, fs)) (hi : ¬ (i < 0 ∨ n ≤ i.toNatClampNeg)) (kk : ∀ h1, zQ B hb k0 k (dset D q (.inl (4, n, .inr (.inr (.inr (.inr (va_up F i.toNatClampNeg (some (B + s))))))))) h1 → zwf (f h1) Q) : zwf (zob (zsA h (B + q) i (B + s)) f) Q := by
  have e : zsA h (B + q) i (B + s) = some (zwr h (B + q) (.inl (4, n, .inr (.inr (.inr (.inr (va_up F i.toNatClampNeg (some (B + s))))))))) := by
    have es : h.1 (B + s) = some (.inr (5, fs)) := by
      rw [h0.2.2.1 s s1 s2]
      show some ((if s = q then some _ else D s).getD _) = _
      rw [if_neg sq, sD, ← hs]; rfl
    unfold zsA
    rw [h0.at h1 h2, es]
    simp only [hi, not_false_iff, if_true]
  rw [e]
  exact kk _ (h0.wr h1 _)
theorem q_aA {q n v : Nat} {F : Nat → Option Nat} {i : Int32} {f : Nat → Option (α × zHp)} (h0 : zQ B hb k0 k (dset D q (.inl (4, n, .inr (.inr (.inr (.inr F)))))) h) (h1 : k0 ≤ q) (h2 : q < k) (hi : ¬ (i < 0 ∨ n ≤ i.toNatClampNeg)) (hF : F i.toNatClampNeg = some v) (kk : zwf (f v) Q) : zwf (zob (zaA 4 h (B + q) i) f) Q := by
  have e : zaA 4 h (B + q) i = some v := by
    unfold zaA
    rw [h0.at h1 h2]
    simp only [hi, not_false_iff, and_self, if_true]
    exact hF
  rw [e]
  exact kk
set_option maxRecDepth 100000 in
set_option maxHeartbeats 4000000 in
theorem sp_X2_18 : zSp B (fun a h => f_X2_init a h) 18 2 zfs_X2 23 := by
  intro h e
  have q := zQ.start h e (.inr (2, zfs_X2))
  show zwf (f_X2_init _ _) _
  unfold f_X2_init
  refine q_A q rfl rfl (fun h1 q => ?_)
  refine q_Pn (fs' := [.ref (B + 19), .null, .null, .null, .int 0, .int 0]) q (by decide) (by decide) (Nat.le_of_ble_eq_true rfl) rfl (fun h1 q => ?_)
  refine q_A q rfl rfl (fun h1 q => ?_)
  refine q_Pn (fs' := [.ref (B + 19), .ref (B + 20), .null, .null, .int 0, .int 0]) q (by decide) (by decide) (Nat.le_of_ble_eq_true rfl) rfl (fun h1 q => ?_)
  refine q_A q rfl rfl (fun h1 q => ?_)
  refine q_Pn (fs' := [.ref (B + 19), .ref (B + 20), .ref (B + 21), .null, .int 0, .int 0]) q (by decide) (by decide) (Nat.le_of_ble_eq_true rfl) rfl (fun h1 q => ?_)
  refine q_A q rfl rfl (fun h1 q => ?_)
  refine q_Pn (fs' := [.ref (B + 19), .ref (B + 20), .ref (B + 21), .ref (B + 22), .int 0, .int 0]) q (by decide) (by decide) (Nat.le_of_ble_eq_true rfl) rfl (fun h1 q => ?_)
  refine q_Pn (fs' := [.ref (B + 19), .ref (B + 20), .ref (B + 21), .ref (B + 22), .int 0, .int 0]) q (by decide) (by decide) (Nat.le_of_ble_eq_true rfl) rfl (fun h1 q => ?_)
  refine q_Pn (fs' := [.ref (B + 19), .ref (B + 20), .ref (B + 21), .ref (B + 22), .int 0, .int 0]) q (by decide) (by decide) (Nat.le_of_ble_eq_true rfl) rfl (fun h1 q => ?_)
  exact zwf_ret (q.done rfl rfl)
set_option maxRecDepth 100000 in
set_option maxHeartbeats 4000000 in
theorem sp_X2_37 : zSp B (fun a h => f_X2_init a h) 37 2 zfs_X2 42 := by
  intro h e
  have q := zQ.start h e (.inr (2, zfs_X2))
  show zwf (f_X2_init _ _) _
  unfold f_X2_init
  refine q_A q rfl rfl (fun h1 q => ?_)
  refine q_Pn (fs' := [.ref (B + 38), .null, .null, .null, .int 0, .int 0]) q (by decide) (by decide) (Nat.le_of_ble_eq_true rfl) rfl (fun h1 q => ?_)
  refine q_A q rfl rfl (fun h1 q => ?_)
  refine q_Pn (fs' := [.ref (B + 38), .ref (B + 39), .null, .null, .int 0, .int 0]) q (by decide) (by decide) (Nat.le_of_ble_eq_true rfl) rfl (fun h1 q => ?_)
  refine q_A q rfl rfl (fun h1 q => ?_)
  refine q_Pn (fs' := [.ref (B + 38), .ref (B + 39), .ref (B + 40), .null, .int 0, .int 0]) q (by decide) (by decide) (Nat.le_of_ble_eq_true rfl) rfl (fun h1 q => ?_)
  refine q_A q rfl rfl (fun h1 q => ?_)
  refine q_Pn (fs' := [.ref (B + 38), .ref (B + 39), .ref (B + 40), .ref (B + 41), .int 0, .int 0]) q (by decide) (by decide) (Nat.le_of_ble_eq_true rfl) rfl (fun h1 q => ?_)
  refine q_Pn (fs' := [.ref (B + 38), .ref (B + 39), .ref (B + 40), .ref (B + 41), .int 0, .int 0]) q (by decide) (by decide) (Nat.le_of_ble_eq_true rfl) rfl (fun h1 q => ?_)
  refine q_Pn (fs' := [.ref (B + 38), .ref (B + 39), .ref (B + 40), .ref (B + 41), .int 0, .int 0]) q (by decide) (by decide) (Nat.le_of_ble_eq_true rfl) rfl (fun h1 q => ?_)
  exact zwf_ret (q.done rfl rfl)
set_option maxRecDepth 100000 in
set_option maxHeartbeats 4000000 in
theorem sp_X3 : zSp B (fun a h => f_X3_init a h) 85 3 zfs_X3 92 := by
  intro h e
  have q := zQ.start h e (.inr (3, zfs_X3))
  show zwf (f_X3_init _ _) _
  unfold f_X3_init
  refine q_A q rfl rfl (fun h1 q => ?_)
  refine q_Pn (fs' := [.ref (B + 86), .null, .null, .null, .null, .null, .int 0, .int 0]) q (by decide) (by decide) (Nat.le_of_ble_eq_true rfl) rfl (fun h1 q => ?_)
  refine q_A q rfl rfl (fun h1 q => ?_)
  refine q_Pn (fs' := [.ref (B + 86), .ref (B + 87), .null, .null, .null, .null, .int 0, .int 0]) q (by decide) (by decide) (Nat.le_of_ble_eq_true rfl) rfl (fun h1 q => ?_)
  refine q_A q rfl rfl (fun h1 q => ?_)
  refine q_Pn (fs' := [.ref (B + 86), .ref (B + 87), .ref (B + 88), .null, .null, .null, .int 0, .int 0]) q (by decide) (by decide) (Nat.le_of_ble_eq_true rfl) rfl (fun h1 q => ?_)
  refine q_A q rfl rfl (fun h1 q => ?_)
  refine q_Pn (fs' := [.ref (B + 86), .ref (B + 87), .ref (B + 88), .ref (B + 89), .null, .null, .int 0, .int 0]) q (by decide) (by decide) (Nat.le_of_ble_eq_true rfl) rfl (fun h1 q => ?_)
  refine q_A q rfl rfl (fun h1 q => ?_)
  refine q_Pn (fs' := [.ref (B + 86), .ref (B + 87), .ref (B + 88), .ref (B + 89), .ref (B + 90), .null, .int 0, .int 0]) q (by decide) (by decide) (Nat.le_of_ble_eq_true rfl) rfl (fun h1 q => ?_)
  refine q_A q rfl rfl (fun h1 q => ?_)
  refine q_Pn (fs' := [.ref (B + 86), .ref (B + 87), .ref (B + 88), .ref (B + 89), .ref (B + 90), .ref (B + 91), .int 0, .int 0]) q (by decide) (by decide) (Nat.le_of_ble_eq_true rfl) rfl (fun h1 q => ?_)
  refine q_Pn (fs' := [.ref (B + 86), .ref (B + 87), .ref (B + 88), .ref (B + 89), .ref (B + 90), .ref (B + 91), .int 0, .int 0]) q (by decide) (by decide) (Nat.le_of_ble_eq_true rfl) rfl (fun h1 q => ?_)
  refine q_Pn (fs' := [.ref (B + 86), .ref (B + 87), .ref (B + 88), .ref (B + 89), .ref (B + 90), .ref (B + 91), .int 0, .int (-1)]) q (by decide) (by decide) (Nat.le_of_ble_eq_true rfl) rfl (fun h1 q => ?_)
  exact zwf_ret (q.done rfl rfl)
set_option maxRecDepth 100000 in
set_option maxHeartbeats 4000000 in
theorem sp_X6_5 : zSp B (fun a h => f_X6_init a h) 5 6 zfs_X6 23 := by
  intro h e
  have q := zQ.start h e (.inr (6, zfs_X6))
  show zwf (f_X6_init _ _) _
  unfold f_X6_init
  refine q_A q rfl rfl (fun h1 q => ?_)
  refine q_Pn (fs' := [.ref (B + 6), .null, .null, .null, .null, .null, .null, .null, .null, .null, .null, .null, .null, .int 0, .int 0, .int 0, .int 0, .int 0, .int 0]) q (by decide) (by decide) (Nat.le_of_ble_eq_true rfl) rfl (fun h1 q => ?_)
  refine q_A q rfl rfl (fun h1 q => ?_)
  refine q_Pn (fs' := [.ref (B + 6), .ref (B + 7), .null, .null, .null, .null, .null, .null, .null, .null, .null, .null, .null, .int 0, .int 0, .int 0, .int 0, .int 0, .int 0]) q (by decide) (by decide) (Nat.le_of_ble_eq_true rfl) rfl (fun h1 q => ?_)
  refine q_A q rfl rfl (fun h1 q => ?_)
  refine q_Pn (fs' := [.ref (B + 6), .ref (B + 7), .ref (B + 8), .null, .null, .null, .null, .null, .null, .null, .null, .null, .null, .int 0, .int 0, .int 0, .int 0, .int 0, .int 0]) q (by decide) (by decide) (Nat.le_of_ble_eq_true rfl) rfl (fun h1 q => ?_)
  refine q_A q rfl rfl (fun h1 q => ?_)
  refine q_Pn (fs' := [.ref (B + 6), .ref (B + 7), .ref (B + 8), .ref (B + 9), .null, .null, .null, .null, .null, .null, .null, .null, .null, .int 0, .int 0, .int 0, .int 0, .int 0, .int 0]) q (by decide) (by decide) (Nat.le_of_ble_eq_true rfl) rfl (fun h1 q => ?_)
  refine q_A q rfl rfl (fun h1 q => ?_)
  refine q_Pn (fs' := [.ref (B + 6), .ref (B + 7), .ref (B + 8), .ref (B + 9), .ref (B + 10), .null, .null, .null, .null, .null, .null, .null, .null, .int 0, .int 0, .int 0, .int 0, .int 0, .int 0]) q (by decide) (by decide) (Nat.le_of_ble_eq_true rfl) rfl (fun h1 q => ?_)
  refine q_A q rfl rfl (fun h1 q => ?_)
  refine q_Pn (fs' := [.ref (B + 6), .ref (B + 7), .ref (B + 8), .ref (B + 9), .ref (B + 10), .ref (B + 11), .null, .null, .null, .null, .null, .null, .null, .int 0, .int 0, .int 0, .int 0, .int 0, .int 0]) q (by decide) (by decide) (Nat.le_of_ble_eq_true rfl) rfl (fun h1 q => ?_)
  refine q_A q rfl rfl (fun h1 q => ?_)
  refine q_Pn (fs' := [.ref (B + 6), .ref (B + 7), .ref (B + 8), .ref (B + 9), .ref (B + 10), .ref (B + 11), .ref (B + 12), .null, .null, .null, .null, .null, .null, .int 0, .int 0, .int 0, .int 0, .int 0, .int 0]) q (by decide) (by decide) (Nat.le_of_ble_eq_true rfl) rfl (fun h1 q => ?_)
  refine q_A q rfl rfl (fun h1 q => ?_)
  refine q_Pn (fs' := [.ref (B + 6), .ref (B + 7), .ref (B + 8), .ref (B + 9), .ref (B + 10), .ref (B + 11), .ref (B + 12), .ref (B + 13), .null, .null, .null, .null, .null, .int 0, .int 0, .int 0, .int 0, .int 0, .int 0]) q (by decide) (by decide) (Nat.le_of_ble_eq_true rfl) rfl (fun h1 q => ?_)
  refine q_A q rfl rfl (fun h1 q => ?_)
  refine q_Pn (fs' := [.ref (B + 6), .ref (B + 7), .ref (B + 8), .ref (B + 9), .ref (B + 10), .ref (B + 11), .ref (B + 12), .ref (B + 13), .ref (B + 14), .null, .null, .null, .null, .int 0, .int 0, .int 0, .int 0, .int 0, .int 0]) q (by decide) (by decide) (Nat.le_of_ble_eq_true rfl) rfl (fun h1 q => ?_)
  refine q_A q rfl rfl (fun h1 q => ?_)
  refine q_Pn (fs' := [.ref (B + 6), .ref (B + 7), .ref (B + 8), .ref (B + 9), .ref (B + 10), .ref (B + 11), .ref (B + 12), .ref (B + 13), .ref (B + 14), .ref (B + 15), .null, .null, .null, .int 0, .int 0, .int 0, .int 0, .int 0, .int 0]) q (by decide) (by decide) (Nat.le_of_ble_eq_true rfl) rfl (fun h1 q => ?_)
  refine q_A q rfl rfl (fun h1 q => ?_)
  refine q_Pn (fs' := [.ref (B + 6), .ref (B + 7), .ref (B + 8), .ref (B + 9), .ref (B + 10), .ref (B + 11), .ref (B + 12), .ref (B + 13), .ref (B + 14), .ref (B + 15), .ref (B + 16), .null, .null, .int 0, .int 0, .int 0, .int 0, .int 0, .int 0]) q (by decide) (by decide) (Nat.le_of_ble_eq_true rfl) rfl (fun h1 q => ?_)
  refine q_A q rfl rfl (fun h1 q => ?_)
  refine q_Pn (fs' := [.ref (B + 6), .ref (B + 7), .ref (B + 8), .ref (B + 9), .ref (B + 10), .ref (B + 11), .ref (B + 12), .ref (B + 13), .ref (B + 14), .ref (B + 15), .ref (B + 16), .ref (B + 17), .null, .int 0, .int 0, .int 0, .int 0, .int 0, .int 0]) q (by decide) (by decide) (Nat.le_of_ble_eq_true rfl) rfl (fun h1 q => ?_)
  refine q_O q ?_
  refine q_C q sp_X2_18 (fun j hj => if_neg (by omega)) (fun h1 q => ?_)
  refine q_Pn (fs' := [.ref (B + 6), .ref (B + 7), .ref (B + 8), .ref (B + 9), .ref (B + 10), .ref (B + 11), .ref (B + 12), .ref (B + 13), .ref (B + 14), .ref (B + 15), .ref (B + 16), .ref (B + 17), .ref (B + 18), .int 0, .int 0, .int 0, .int 0, .int 0, .int 0]) q (by decide) (by decide) (Nat.le_of_ble_eq_true rfl) rfl (fun h1 q => ?_)
  refine q_Pn (fs' := [.ref (B + 6), .ref (B + 7), .ref (B + 8), .ref (B + 9), .ref (B + 10), .ref (B + 11), .ref (B + 12), .ref (B + 13), .ref (B + 14), .ref (B + 15), .ref (B + 16), .ref (B + 17), .ref (B + 18), .int 0, .int 0, .int 0, .int 0, .int 0, .int 0]) q (by decide) (by decide) (Nat.le_of_ble_eq_true rfl) rfl (fun h1 q => ?_)
  refine q_Pn (fs' := [.ref (B + 6), .ref (B + 7), .ref (B + 8), .ref (B + 9), .ref (B + 10), .ref (B + 11), .ref (B + 12), .ref (B + 13), .ref (B + 14), .ref (B + 15), .ref (B + 16), .ref (B + 17), .ref (B + 18), .int 0, .int 0, .int 0, .int 0, .int 0, .int 0]) q (by decide) (by decide) (Nat.le_of_ble_eq_true rfl) rfl (fun h1 q => ?_)
  refine q_Pn (fs' := [.ref (B + 6), .ref (B + 7), .ref (B + 8), .ref (B + 9), .ref (B + 10), .ref (B + 11), .ref (B + 12), .ref (B + 13), .ref (B + 14), .ref (B + 15), .ref (B + 16), .ref (B + 17), .ref (B + 18), .int 0, .int 0, .int 0, .int 0, .int 0, .int 0]) q (by decide) (by decide) (Nat.le_of_ble_eq_true rfl) rfl (fun h1 q => ?_)
  refine q_Pn (fs' := [.ref (B + 6), .ref (B + 7), .ref (B + 8), .ref (B + 9), .ref (B + 10), .ref (B + 11), .ref (B + 12), .ref (B + 13), .ref (B + 14), .ref (B + 15), .ref (B + 16), .ref (B + 17), .ref (B + 18), .int 0, .int 0, .int 0, .int 0, .int 0, .int 0]) q (by decide) (by decide) (Nat.le_of_ble_eq_true rfl) rfl (fun h1 q => ?_)
  refine q_Pn (fs' := [.ref (B + 6), .ref (B + 7), .ref (B + 8), .ref (B + 9), .ref (B + 10), .ref (B + 11), .ref (B + 12), .ref (B + 13), .ref (B + 14), .ref (B + 15), .ref (B + 16), .ref (B + 17), .ref (B + 18), .int 0, .int 0, .int 0, .int 0, .int 6, .int 0]) q (by decide) (by decide) (Nat.le_of_ble_eq_true rfl) rfl (fun h1 q => ?_)
  refine q_Pn (fs' := [.ref (B + 6), .ref (B + 7), .ref (B + 8), .ref (B + 9), .ref (B + 10), .ref (B + 11), .ref (B + 12), .ref (B + 13), .ref (B + 14), .ref (B + 15), .ref (B + 16), .ref (B + 17), .ref (B + 18), .int 0, .int 0, .int 0, .int 0, .int 6, .int 9]) q (by decide) (by decide) (Nat.le_of_ble_eq_true rfl) rfl (fun h1 q => ?_)
  exact zwf_ret (q.done rfl rfl)
set_option maxRecDepth 100000 in
set_option maxHeartbeats 4000000 in
theorem sp_X6_24 : zSp B (fun a h => f_X6_init a h) 24 6 zfs_X6 42 := by
  intro h e
  have q := zQ.start h e (.inr (6, zfs_X6))
  show zwf (f_X6_init _ _) _
  unfold f_X6_init
  refine q_A q rfl rfl (fun h1 q => ?_)
  refine q_Pn (fs' := [.ref (B + 25), .null, .null, .null, .null, .null, .null, .null, .null, .null, .null, .null, .null, .int 0, .int 0, .int 0, .int 0, .int 0, .int 0]) q (by decide) (by decide) (Nat.le_of_ble_eq_true rfl) rfl (fun h1 q => ?_)
  refine q_A q rfl rfl (fun h1 q => ?_)
  refine q_Pn (fs' := [.ref (B + 25), .ref (B + 26), .null, .null, .null, .null, .null, .null, .null, .null, .null, .null, .null, .int 0, .int 0, .int 0, .int 0, .int 0, .int 0]) q (by decide) (by decide) (Nat.le_of_ble_eq_true rfl) rfl (fun h1 q => ?_)
  refine q_A q rfl rfl (fun h1 q => ?_)
  refine q_Pn (fs' := [.ref (B + 25), .ref (B + 26), .ref (B + 27), .null, .null, .null, .null, .null, .null, .null, .null, .null, .null, .int 0, .int 0, .int 0, .int 0, .int 0, .int 0]) q (by decide) (by decide) (Nat.le_of_ble_eq_true rfl) rfl (fun h1 q => ?_)
  refine q_A q rfl rfl (fun h1 q => ?_)
  refine q_Pn (fs' := [.ref (B + 25), .ref (B + 26), .ref (B + 27), .ref (B + 28), .null, .null, .null, .null, .null, .null, .null, .null, .null, .int 0, .int 0, .int 0, .int 0, .int 0, .int 0]) q (by decide) (by decide) (Nat.le_of_ble_eq_true rfl) rfl (fun h1 q => ?_)
  refine q_A q rfl rfl (fun h1 q => ?_)
  refine q_Pn (fs' := [.ref (B + 25), .ref (B + 26), .ref (B + 27), .ref (B + 28), .ref (B + 29), .null, .null, .null, .null, .null, .null, .null, .null, .int 0, .int 0, .int 0, .int 0, .int 0, .int 0]) q (by decide) (by decide) (Nat.le_of_ble_eq_true rfl) rfl (fun h1 q => ?_)
  refine q_A q rfl rfl (fun h1 q => ?_)
  refine q_Pn (fs' := [.ref (B + 25), .ref (B + 26), .ref (B + 27), .ref (B + 28), .ref (B + 29), .ref (B + 30), .null, .null, .null, .null, .null, .null, .null, .int 0, .int 0, .int 0, .int 0, .int 0, .int 0]) q (by decide) (by decide) (Nat.le_of_ble_eq_true rfl) rfl (fun h1 q => ?_)
  refine q_A q rfl rfl (fun h1 q => ?_)
  refine q_Pn (fs' := [.ref (B + 25), .ref (B + 26), .ref (B + 27), .ref (B + 28), .ref (B + 29), .ref (B + 30), .ref (B + 31), .null, .null, .null, .null, .null, .null, .int 0, .int 0, .int 0, .int 0, .int 0, .int 0]) q (by decide) (by decide) (Nat.le_of_ble_eq_true rfl) rfl (fun h1 q => ?_)
  refine q_A q rfl rfl (fun h1 q => ?_)
  refine q_Pn (fs' := [.ref (B + 25), .ref (B + 26), .ref (B + 27), .ref (B + 28), .ref (B + 29), .ref (B + 30), .ref (B + 31), .ref (B + 32), .null, .null, .null, .null, .null, .int 0, .int 0, .int 0, .int 0, .int 0, .int 0]) q (by decide) (by decide) (Nat.le_of_ble_eq_true rfl) rfl (fun h1 q => ?_)
  refine q_A q rfl rfl (fun h1 q => ?_)
  refine q_Pn (fs' := [.ref (B + 25), .ref (B + 26), .ref (B + 27), .ref (B + 28), .ref (B + 29), .ref (B + 30), .ref (B + 31), .ref (B + 32), .ref (B + 33), .null, .null, .null, .null, .int 0, .int 0, .int 0, .int 0, .int 0, .int 0]) q (by decide) (by decide) (Nat.le_of_ble_eq_true rfl) rfl (fun h1 q => ?_)
  refine q_A q rfl rfl (fun h1 q => ?_)
  refine q_Pn (fs' := [.ref (B + 25), .ref (B + 26), .ref (B + 27), .ref (B + 28), .ref (B + 29), .ref (B + 30), .ref (B + 31), .ref (B + 32), .ref (B + 33), .ref (B + 34), .null, .null, .null, .int 0, .int 0, .int 0, .int 0, .int 0, .int 0]) q (by decide) (by decide) (Nat.le_of_ble_eq_true rfl) rfl (fun h1 q => ?_)
  refine q_A q rfl rfl (fun h1 q => ?_)
  refine q_Pn (fs' := [.ref (B + 25), .ref (B + 26), .ref (B + 27), .ref (B + 28), .ref (B + 29), .ref (B + 30), .ref (B + 31), .ref (B + 32), .ref (B + 33), .ref (B + 34), .ref (B + 35), .null, .null, .int 0, .int 0, .int 0, .int 0, .int 0, .int 0]) q (by decide) (by decide) (Nat.le_of_ble_eq_true rfl) rfl (fun h1 q => ?_)
  refine q_A q rfl rfl (fun h1 q => ?_)
  refine q_Pn (fs' := [.ref (B + 25), .ref (B + 26), .ref (B + 27), .ref (B + 28), .ref (B + 29), .ref (B + 30), .ref (B + 31), .ref (B + 32), .ref (B + 33), .ref (B + 34), .ref (B + 35), .ref (B + 36), .null, .int 0, .int 0, .int 0, .int 0, .int 0, .int 0]) q (by decide) (by decide) (Nat.le_of_ble_eq_true rfl) rfl (fun h1 q => ?_)
  refine q_O q ?_
  refine q_C q sp_X2_37 (fun j hj => if_neg (by omega)) (fun h1 q => ?_)
  refine q_Pn (fs' := [.ref (B + 25), .ref (B + 26), .ref (B + 27), .ref (B + 28), .ref (B + 29), .ref (B + 30), .ref (B + 31), .ref (B + 32), .ref (B + 33), .ref (B + 34), .ref (B + 35), .ref (B + 36), .ref (B + 37), .int 0, .int 0, .int 0, .int 0, .int 0, .int 0]) q (by decide) (by decide) (Nat.le_of_ble_eq_true rfl) rfl (fun h1 q => ?_)
  refine q_Pn (fs' := [.ref (B + 25), .ref (B + 26), .ref (B + 27), .ref (B + 28), .ref (B + 29), .ref (B + 30), .ref (B + 31), .ref (B + 32), .ref (B + 33), .ref (B + 34), .ref (B + 35), .ref (B + 36), .ref (B + 37), .int 0, .int 0, .int 0, .int 0, .int 0, .int 0]) q (by decide) (by decide) (Nat.le_of_ble_eq_true rfl) rfl (fun h1 q => ?_)
  refine q_Pn (fs' := [.ref (B + 25), .ref (B + 26), .ref (B + 27), .ref (B + 28), .ref (B + 29), .ref (B + 30), .ref (B + 31), .ref (B + 32), .ref (B + 33), .ref (B + 34), .ref (B + 35), .ref (B + 36), .ref (B + 37), .int 0, .int 0, .int 0, .int 0, .int 0, .int 0]) q (by decide) (by decide) (Nat.le_of_ble_eq_true rfl) rfl (fun h1 q => ?_)
  refine q_Pn (fs' := [.ref (B + 25), .ref (B + 26), .ref (B + 27), .ref (B + 28), .ref (B + 29), .ref (B + 30), .ref (B + 31), .ref (B + 32), .ref (B + 33), .ref (B + 34), .ref (B + 35), .ref (B + 36), .ref (B + 37), .int 0, .int 0, .int 0, .int 0, .int 0, .int 0]) q (by decide) (by decide) (Nat.le_of_ble_eq_true rfl) rfl (fun h1 q => ?_)
  refine q_Pn (fs' := [.ref (B + 25), .ref (B + 26), .ref (B + 27), .ref (B + 28), .ref (B + 29), .ref (B + 30), .ref (B + 31), .ref (B + 32), .ref (B + 33), .ref (B + 34), .ref (B + 35), .ref (B + 36), .ref (B + 37), .int 0, .int 0, .int 0, .int 0, .int 0, .int 0]) q (by decide) (by decide) (Nat.le_of_ble_eq_true rfl) rfl (fun h1 q => ?_)
  refine q_Pn (fs' := [.ref (B + 25), .ref (B + 26), .ref (B + 27), .ref (B + 28), .ref (B + 29), .ref (B + 30), .ref (B + 31), .ref (B + 32), .ref (B + 33), .ref (B + 34), .ref (B + 35), .ref (B + 36), .ref (B + 37), .int 0, .int 0, .int 0, .int 0, .int 6, .int 0]) q (by decide) (by decide) (Nat.le_of_ble_eq_true rfl) rfl (fun h1 q => ?_)
  refine q_Pn (fs' := [.ref (B + 25), .ref (B + 26), .ref (B + 27), .ref (B + 28), .ref (B + 29), .ref (B + 30), .ref (B + 31), .ref (B + 32), .ref (B + 33), .ref (B + 34), .ref (B + 35), .ref (B + 36), .ref (B + 37), .int 0, .int 0, .int 0, .int 0, .int 6, .int 9]) q (by decide) (by decide) (Nat.le_of_ble_eq_true rfl) rfl (fun h1 q => ?_)
  exact zwf_ret (q.done rfl rfl)
set_option maxRecDepth 100000 in
set_option maxHeartbeats 4000000 in
theorem sp_X5_42 : zSp B (fun a h => f_X5_init a (B + 24) h) 42 5 zfs_X5 61 := by
  intro h e
  have q := zQ.start h e (.inr (5, zfs_X5))
  show zwf (f_X5_init _ _ _) _
  unfold f_X5_init
  refine q_A q rfl rfl (fun h1 q => ?_)
  refine q_Pn (fs' := [.ref (B + 43), .null, .null, .null, .null, .null, .null, .null, .null, .null, .null, .int 0, .int 0, .int 0, .null, .null]) q (by decide) (by decide) (Nat.le_of_ble_eq_true rfl) rfl (fun h1 q => ?_)
  refine q_A q rfl rfl (fun h1 q => ?_)
  refine q_Pn (fs' := [.ref (B + 43), .ref (B + 44), .null, .null, .null, .null, .null, .null, .null, .null, .null, .int 0, .int 0, .int 0, .null, .null]) q (by decide) (by decide) (Nat.le_of_ble_eq_true rfl) rfl (fun h1 q => ?_)
  refine q_A q rfl rfl (fun h1 q => ?_)
  refine q_Pn (fs' := [.ref (B + 43), .ref (B + 44), .ref (B + 45), .null, .null, .null, .null, .null, .null, .null, .null, .int 0, .int 0, .int 0, .null, .null]) q (by decide) (by decide) (Nat.le_of_ble_eq_true rfl) rfl (fun h1 q => ?_)
  refine q_A q rfl rfl (fun h1 q => ?_)
  refine q_Pn (fs' := [.ref (B + 43), .ref (B + 44), .ref (B + 45), .ref (B + 46), .null, .null, .null, .null, .null, .null, .null, .int 0, .int 0, .int 0, .null, .null]) q (by decide) (by decide) (Nat.le_of_ble_eq_true rfl) rfl (fun h1 q => ?_)
  refine q_A q rfl rfl (fun h1 q => ?_)
  refine q_Pn (fs' := [.ref (B + 43), .ref (B + 44), .ref (B + 45), .ref (B + 46), .ref (B + 47), .null, .null, .null, .null, .null, .null, .int 0, .int 0, .int 0, .null, .null]) q (by decide) (by decide) (Nat.le_of_ble_eq_true rfl) rfl (fun h1 q => ?_)
  refine q_A q rfl rfl (fun h1 q => ?_)
  refine q_Pn (fs' := [.ref (B + 43), .ref (B + 44), .ref (B + 45), .ref (B + 46), .ref (B + 47), .ref (B + 48), .null, .null, .null, .null, .null, .int 0, .int 0, .int 0, .null, .null]) q (by decide) (by decide) (Nat.le_of_ble_eq_true rfl) rfl (fun h1 q => ?_)
  refine q_A q rfl rfl (fun h1 q => ?_)
  refine q_Pn (fs' := [.ref (B + 43), .ref (B + 44), .ref (B + 45), .ref (B + 46), .ref (B + 47), .ref (B + 48), .ref (B + 49), .null, .null, .null, .null, .int 0, .int 0, .int 0, .null, .null]) q (by decide) (by decide) (Nat.le_of_ble_eq_true rfl) rfl (fun h1 q => ?_)
  refine q_A q rfl rfl (fun h1 q => ?_)
  refine q_Pn (fs' := [.ref (B + 43), .ref (B + 44), .ref (B + 45), .ref (B + 46), .ref (B + 47), .ref (B + 48), .ref (B + 49), .ref (B + 50), .null, .null, .null, .int 0, .int 0, .int 0, .null, .null]) q (by decide) (by decide) (Nat.le_of_ble_eq_true rfl) rfl (fun h1 q => ?_)
  refine q_A q rfl rfl (fun h1 q => ?_)
  refine q_Pn (fs' := [.ref (B + 43), .ref (B + 44), .ref (B + 45), .ref (B + 46), .ref (B + 47), .ref (B + 48), .ref (B + 49), .ref (B + 50), .ref (B + 51), .null, .null, .int 0, .int 0, .int 0, .null, .null]) q (by decide) (by decide) (Nat.le_of_ble_eq_true rfl) rfl (fun h1 q => ?_)
  refine q_A q rfl rfl (fun h1 q => ?_)
  refine q_Pn (fs' := [.ref (B + 43), .ref (B + 44), .ref (B + 45), .ref (B + 46), .ref (B + 47), .ref (B + 48), .ref (B + 49), .ref (B + 50), .ref (B + 51), .ref (B + 52), .null, .int 0, .int 0, .int 0, .null, .null]) q (by decide) (by decide) (Nat.le_of_ble_eq_true rfl) rfl (fun h1 q => ?_)
  refine q_M q (fun j hj => if_neg (by omega)) rfl (fun i hi => by rcases (show i = 0 ∨ i = 1 ∨ i = 2 ∨ i = 3 ∨ i = 4 ∨ i = 5 by omega) with rfl | rfl | rfl | rfl | rfl | rfl <;> rfl) (fun h1 q => ?_)
  refine q_Pn (fs' := [.ref (B + 43), .ref (B + 44), .ref (B + 45), .ref (B + 46), .ref (B + 47), .ref (B + 48), .ref (B + 49), .ref (B + 50), .ref (B + 51), .ref (B + 52), .ref (B + 53), .int 0, .int 0, .int 0, .null, .null]) q (by decide) (by decide) (Nat.le_of_ble_eq_true rfl) rfl (fun h1 q => ?_)
  refine q_A q rfl rfl (fun h1 q => ?_)
  refine q_Pn (fs' := [.ref (B + 43), .ref (B + 44), .ref (B + 45), .ref (B + 46), .ref (B + 47), .ref (B + 48), .ref (B + 49), .ref (B + 50), .ref (B + 51), .ref (B + 52), .ref (B + 53), .int 0, .int 0, .int 0, .null, .ref (B + 60)]) q (by decide) (by decide) (Nat.le_of_ble_eq_true rfl) rfl (fun h1 q => ?_)
  refine q_Pn (fs' := [.ref (B + 43), .ref (B + 44), .ref (B + 45), .ref (B + 46), .ref (B + 47), .ref (B + 48), .ref (B + 49), .ref (B + 50), .ref (B + 51), .ref (B + 52), .ref (B + 53), .int 0, .int 0, .int 0, .ref (B + 24), .ref (B + 60)]) q (by decide) (by decide) (Nat.le_of_ble_eq_true rfl) rfl (fun h1 q => ?_)
  refine q_Pn (fs' := [.ref (B + 43), .ref (B + 44), .ref (B + 45), .ref (B + 46), .ref (B + 47), .ref (B + 48), .ref (B + 49), .ref (B + 50), .ref (B + 51), .ref (B + 52), .ref (B + 53), .int 0, .int (-1), .int 0, .ref (B + 24), .ref (B + 60)]) q (by decide) (by decide) (Nat.le_of_ble_eq_true rfl) rfl (fun h1 q => ?_)
  exact zwf_ret (q.done rfl rfl)
set_option maxRecDepth 100000 in
set_option maxHeartbeats 4000000 in
theorem sp_X5_61 : zSp B (fun a h => f_X5_init a (B + 24) h) 61 5 zfs_X5 80 := by
  intro h e
  have q := zQ.start h e (.inr (5, zfs_X5))
  show zwf (f_X5_init _ _ _) _
  unfold f_X5_init
  refine q_A q rfl rfl (fun h1 q => ?_)
  refine q_Pn (fs' := [.ref (B + 62), .null, .null, .null, .null, .null, .null, .null, .null, .null, .null, .int 0, .int 0, .int 0, .null, .null]) q (by decide) (by decide) (Nat.le_of_ble_eq_true rfl) rfl (fun h1 q => ?_)
  refine q_A q rfl rfl (fun h1 q => ?_)
  refine q_Pn (fs' := [.ref (B + 62), .ref (B + 63), .null, .null, .null, .null, .null, .null, .null, .null, .null, .int 0, .int 0, .int 0, .null, .null]) q (by decide) (by decide) (Nat.le_of_ble_eq_true rfl) rfl (fun h1 q => ?_)
  refine q_A q rfl rfl (fun h1 q => ?_)
  refine q_Pn (fs' := [.ref (B + 62), .ref (B + 63), .ref (B + 64), .null, .null, .null, .null, .null, .null, .null, .null, .int 0, .int 0, .int 0, .null, .null]) q (by decide) (by decide) (Nat.le_of_ble_eq_true rfl) rfl (fun h1 q => ?_)
  refine q_A q rfl rfl (fun h1 q => ?_)
  refine q_Pn (fs' := [.ref (B + 62), .ref (B + 63), .ref (B + 64), .ref (B + 65), .null, .null, .null, .null, .null, .null, .null, .int 0, .int 0, .int 0, .null, .null]) q (by decide) (by decide) (Nat.le_of_ble_eq_true rfl) rfl (fun h1 q => ?_)
  refine q_A q rfl rfl (fun h1 q => ?_)
  refine q_Pn (fs' := [.ref (B + 62), .ref (B + 63), .ref (B + 64), .ref (B + 65), .ref (B + 66), .null, .null, .null, .null, .null, .null, .int 0, .int 0, .int 0, .null, .null]) q (by decide) (by decide) (Nat.le_of_ble_eq_true rfl) rfl (fun h1 q => ?_)
  refine q_A q rfl rfl (fun h1 q => ?_)
  refine q_Pn (fs' := [.ref (B + 62), .ref (B + 63), .ref (B + 64), .ref (B + 65), .ref (B + 66), .ref (B + 67), .null, .null, .null, .null, .null, .int 0, .int 0, .int 0, .null, .null]) q (by decide) (by decide) (Nat.le_of_ble_eq_true rfl) rfl (fun h1 q => ?_)
  refine q_A q rfl rfl (fun h1 q => ?_)
  refine q_Pn (fs' := [.ref (B + 62), .ref (B + 63), .ref (B + 64), .ref (B + 65), .ref (B + 66), .ref (B + 67), .ref (B + 68), .null, .null, .null, .null, .int 0, .int 0, .int 0, .null, .null]) q (by decide) (by decide) (Nat.le_of_ble_eq_true rfl) rfl (fun h1 q => ?_)
  refine q_A q rfl rfl (fun h1 q => ?_)
  refine q_Pn (fs' := [.ref (B + 62), .ref (B + 63), .ref (B + 64), .ref (B + 65), .ref (B + 66), .ref (B + 67), .ref (B + 68), .ref (B + 69), .null, .null, .null, .int 0, .int 0, .int 0, .null, .null]) q (by decide) (by decide) (Nat.le_of_ble_eq_true rfl) rfl (fun h1 q => ?_)
  refine q_A q rfl rfl (fun h1 q => ?_)
  refine q_Pn (fs' := [.ref (B + 62), .ref (B + 63), .ref (B + 64), .ref (B + 65), .ref (B + 66), .ref (B + 67), .ref (B + 68), .ref (B + 69), .ref (B + 70), .null, .null, .int 0, .int 0, .int 0, .null, .null]) q (by decide) (by decide) (Nat.le_of_ble_eq_true rfl) rfl (fun h1 q => ?_)
  refine q_A q rfl rfl (fun h1 q => ?_)
  refine q_Pn (fs' := [.ref (B + 62), .ref (B + 63), .ref (B + 64), .ref (B + 65), .ref (B + 66), .ref (B + 67), .ref (B + 68), .ref (B + 69), .ref (B + 70), .ref (B + 71), .null, .int 0, .int 0, .int 0, .null, .null]) q (by decide) (by decide) (Nat.le_of_ble_eq_true rfl) rfl (fun h1 q => ?_)
  refine q_M q (fun j hj => if_neg (by omega)) rfl (fun i hi => by rcases (show i = 0 ∨ i = 1 ∨ i = 2 ∨ i = 3 ∨ i = 4 ∨ i = 5 by omega) with rfl | rfl | rfl | rfl | rfl | rfl <;> rfl) (fun h1 q => ?_)
  refine q_Pn (fs' := [.ref (B + 62), .ref (B + 63), .ref (B + 64), .ref (B + 65), .ref (B + 66), .ref (B + 67), .ref (B + 68), .ref (B + 69), .ref (B + 70), .ref (B + 71), .ref (B + 72), .int 0, .int 0, .int 0, .null, .null]) q (by decide) (by decide) (Nat.le_of_ble_eq_true rfl) rfl (fun h1 q => ?_)
  refine q_A q rfl rfl (fun h1 q => ?_)
  refine q_Pn (fs' := [.ref (B + 62), .ref (B + 63), .ref (B + 64), .ref (B + 65), .ref (B + 66), .ref (B + 67), .ref (B + 68), .ref (B + 69), .ref (B + 70), .ref (B + 71), .ref (B + 72), .int 0, .int 0, .int 0, .null, .ref (B + 79)]) q (by decide) (by decide) (Nat.le_of_ble_eq_true rfl) rfl (fun h1 q => ?_)
  refine q_Pn (fs' := [.ref (B + 62), .ref (B + 63), .ref (B + 64), .ref (B + 65), .ref (B + 66), .ref (B + 67), .ref (B + 68), .ref (B + 69), .ref (B + 70), .ref (B + 71), .ref (B + 72), .int 0, .int 0, .int 0, .ref (B + 24), .ref (B + 79)]) q (by decide) (by decide) (Nat.le_of_ble_eq_true rfl) rfl (fun h1 q => ?_)
  refine q_Pn (fs' := [.ref (B + 62), .ref (B + 63), .ref (B + 64), .ref (B + 65), .ref (B + 66), .ref (B + 67), .ref (B + 68), .ref (B + 69), .ref (B + 70), .ref (B + 71), .ref (B + 72), .int 0, .int (-1), .int 0, .ref (B + 24), .ref (B + 79)]) q (by decide) (by decide) (Nat.le_of_ble_eq_true rfl) rfl (fun h1 q => ?_)
  exact zwf_ret (q.done rfl rfl)
set_option maxRecDepth 100000 in
set_option maxHeartbeats 4000000 in
theorem sp_X5_99 : zSp B (fun a h => f_X5_init a (B + 24) h) 99 5 zfs_X5 118 := by
  intro h e
  have q := zQ.start h e (.inr (5, zfs_X5))
  show zwf (f_X5_init _ _ _) _
  unfold f_X5_init
  refine q_A q rfl rfl (fun h1 q => ?_)
  refine q_Pn (fs' := [.ref (B + 100), .null, .null, .null, .null, .null, .null, .null, .null, .null, .null, .int 0, .int 0, .int 0, .null, .null]) q (by decide) (by decide) (Nat.le_of_ble_eq_true rfl) rfl (fun h1 q => ?_)
  refine q_A q rfl rfl (fun h1 q => ?_)
  refine q_Pn (fs' := [.ref (B + 100), .ref (B + 101), .null, .null, .null, .null, .null, .null, .null, .null, .null, .int 0, .int 0, .int 0, .null, .null]) q (by decide) (by decide) (Nat.le_of_ble_eq_true rfl) rfl (fun h1 q => ?_)
  refine q_A q rfl rfl (fun h1 q => ?_)
  refine q_Pn (fs' := [.ref (B + 100), .ref (B + 101), .ref (B + 102), .null, .null, .null, .null, .null, .null, .null, .null, .int 0, .int 0, .int 0, .null, .null]) q (by decide) (by decide) (Nat.le_of_ble_eq_true rfl) rfl (fun h1 q => ?_)
  refine q_A q rfl rfl (fun h1 q => ?_)
  refine q_Pn (fs' := [.ref (B + 100), .ref (B + 101), .ref (B + 102), .ref (B + 103), .null, .null, .null, .null, .null, .null, .null, .int 0, .int 0, .int 0, .null, .null]) q (by decide) (by decide) (Nat.le_of_ble_eq_true rfl) rfl (fun h1 q => ?_)
  refine q_A q rfl rfl (fun h1 q => ?_)
  refine q_Pn (fs' := [.ref (B + 100), .ref (B + 101), .ref (B + 102), .ref (B + 103), .ref (B + 104), .null, .null, .null, .null, .null, .null, .int 0, .int 0, .int 0, .null, .null]) q (by decide) (by decide) (Nat.le_of_ble_eq_true rfl) rfl (fun h1 q => ?_)
  refine q_A q rfl rfl (fun h1 q => ?_)
  refine q_Pn (fs' := [.ref (B + 100), .ref (B + 101), .ref (B + 102), .ref (B + 103), .ref (B + 104), .ref (B + 105), .null, .null, .null, .null, .null, .int 0, .int 0, .int 0, .null, .null]) q (by decide) (by decide) (Nat.le_of_ble_eq_true rfl) rfl (fun h1 q => ?_)
  refine q_A q rfl rfl (fun h1 q => ?_)
  refine q_Pn (fs' := [.ref (B + 100), .ref (B + 101), .ref (B + 102), .ref (B + 103), .ref (B + 104), .ref (B + 105), .ref (B + 106), .null, .null, .null, .null, .int 0, .int 0, .int 0, .null, .null]) q (by decide) (by decide) (Nat.le_of_ble_eq_true rfl) rfl (fun h1 q => ?_)
  refine q_A q rfl rfl (fun h1 q => ?_)
  refine q_Pn (fs' := [.ref (B + 100), .ref (B + 101), .ref (B + 102), .ref (B + 103), .ref (B + 104), .ref (B + 105), .ref (B + 106), .ref (B + 107), .null, .null, .null, .int 0, .int 0, .int 0, .null, .null]) q (by decide) (by decide) (Nat.le_of_ble_eq_true rfl) rfl (fun h1 q => ?_)
  refine q_A q rfl rfl (fun h1 q => ?_)
  refine q_Pn (fs' := [.ref (B + 100), .ref (B + 101), .ref (B + 102), .ref (B + 103), .ref (B + 104), .ref (B + 105), .ref (B + 106), .ref (B + 107), .ref (B + 108), .null, .null, .int 0, .int 0, .int 0, .null, .null]) q (by decide) (by decide) (Nat.le_of_ble_eq_true rfl) rfl (fun h1 q => ?_)
  refine q_A q rfl rfl (fun h1 q => ?_)
  refine q_Pn (fs' := [.ref (B + 100), .ref (B + 101), .ref (B + 102), .ref (B + 103), .ref (B + 104), .ref (B + 105), .ref (B + 106), .ref (B + 107), .ref (B + 108), .ref (B + 109), .null, .int 0, .int 0, .int 0, .null, .null]) q (by decide) (by decide) (Nat.le_of_ble_eq_true rfl) rfl (fun h1 q => ?_)
  refine q_M q (fun j hj => if_neg (by omega)) rfl (fun i hi => by rcases (show i = 0 ∨ i = 1 ∨ i = 2 ∨ i = 3 ∨ i = 4 ∨ i = 5 by omega) with rfl | rfl | rfl | rfl | rfl | rfl <;> rfl) (fun h1 q => ?_)
  refine q_Pn (fs' := [.ref (B + 100), .ref (B + 101), .ref (B + 102), .ref (B + 103), .ref (B + 104), .ref (B + 105), .ref (B + 106), .ref (B + 107), .ref (B + 108), .ref (B + 109), .ref (B + 110), .int 0, .int 0, .int 0, .null, .null]) q (by decide) (by decide) (Nat.le_of_ble_eq_true rfl) rfl (fun h1 q => ?_)
  refine q_A q rfl rfl (fun h1 q => ?_)
  refine q_Pn (fs' := [.ref (B + 100), .ref (B + 101), .ref (B + 102), .ref (B + 103), .ref (B + 104), .ref (B + 105), .ref (B + 106), .ref (B + 107), .ref (B + 108), .ref (B + 109), .ref (B + 110), .int 0, .int 0, .int 0, .null, .ref (B + 117)]) q (by decide) (by decide) (Nat.le_of_ble_eq_true rfl) rfl (fun h1 q => ?_)
  refine q_Pn (fs' := [.ref (B + 100), .ref (B + 101), .ref (B + 102), .ref (B + 103), .ref (B + 104), .ref (B + 105), .ref (B + 106), .ref (B + 107), .ref (B + 108), .ref (B + 109), .ref (B + 110), .int 0, .int 0, .int 0, .ref (B + 24), .ref (B + 117)]) q (by decide) (by decide) (Nat.le_of_ble_eq_true rfl) rfl (fun h1 q => ?_)
  refine q_Pn (fs' := [.ref (B + 100), .ref (B + 101), .ref (B + 102), .ref (B + 103), .ref (B + 104), .ref (B + 105), .ref (B + 106), .ref (B + 107), .ref (B + 108), .ref (B + 109), .ref (B + 110), .int 0, .int (-1), .int 0, .ref (B + 24), .ref (B + 117)]) q (by decide) (by decide) (Nat.le_of_ble_eq_true rfl) rfl (fun h1 q => ?_)
  exact zwf_ret (q.done rfl rfl)
set_option maxRecDepth 100000 in
set_option maxHeartbeats 4000000 in
theorem sp_X5_118 : zSp B (fun a h => f_X5_init a (B + 24) h) 118 5 zfs_X5 137 := by
  intro h e
  have q := zQ.start h e (.inr (5, zfs_X5))
  show zwf (f_X5_init _ _ _) _
  unfold f_X5_init
  refine q_A q rfl rfl (fun h1 q => ?_)
  refine q_Pn (fs' := [.ref (B + 119), .null, .null, .null, .null, .null, .null, .null, .null, .null, .null, .int 0, .int 0, .int 0, .null, .null]) q (by decide) (by decide) (Nat.le_of_ble_eq_true rfl) rfl (fun h1 q => ?_)
  refine q_A q rfl rfl (fun h1 q => ?_)
  refine q_Pn (fs' := [.ref (B + 119), .ref (B + 120), .null, .null, .null, .null, .null, .null, .null, .null, .null, .int 0, .int 0, .int 0, .null, .null]) q (by decide) (by decide) (Nat.le_of_ble_eq_true rfl) rfl (fun h1 q => ?_)
  refine q_A q rfl rfl (fun h1 q => ?_)
  refine q_Pn (fs' := [.ref (B + 119), .ref (B + 120), .ref (B + 121), .null, .null, .null, .null, .null, .null, .null, .null, .int 0, .int 0, .int 0, .null, .null]) q (by decide) (by decide) (Nat.le_of_ble_eq_true rfl) rfl (fun h1 q => ?_)
  refine q_A q rfl rfl (fun h1 q => ?_)
  refine q_Pn (fs' := [.ref (B + 119), .ref (B + 120), .ref (B + 121), .ref (B + 122), .null, .null, .null, .null, .null, .null, .null, .int 0, .int 0, .int 0, .null, .null]) q (by decide) (by decide) (Nat.le_of_ble_eq_true rfl) rfl (fun h1 q => ?_)
  refine q_A q rfl rfl (fun h1 q => ?_)
  refine q_Pn (fs' := [.ref (B + 119), .ref (B + 120), .ref (B + 121), .ref (B + 122), .ref (B + 123), .null, .null, .null, .null, .null, .null, .int 0, .int 0, .int 0, .null, .null]) q (by decide) (by decide) (Nat.le_of_ble_eq_true rfl) rfl (fun h1 q => ?_)
  refine q_A q rfl rfl (fun h1 q => ?_)
  refine q_Pn (fs' := [.ref (B + 119), .ref (B + 120), .ref (B + 121), .ref (B + 122), .ref (B + 123), .ref (B + 124), .null, .null, .null, .null, .null, .int 0, .int 0, .int 0, .null, .null]) q (by decide) (by decide) (Nat.le_of_ble_eq_true rfl) rfl (fun h1 q => ?_)
  refine q_A q rfl rfl (fun h1 q => ?_)
  refine q_Pn (fs' := [.ref (B + 119), .ref (B + 120), .ref (B + 121), .ref (B + 122), .ref (B + 123), .ref (B + 124), .ref (B + 125), .null, .null, .null, .null, .int 0, .int 0, .int 0, .null, .null]) q (by decide) (by decide) (Nat.le_of_ble_eq_true rfl) rfl (fun h1 q => ?_)
  refine q_A q rfl rfl (fun h1 q => ?_)
  refine q_Pn (fs' := [.ref (B + 119), .ref (B + 120), .ref (B + 121), .ref (B + 122), .ref (B + 123), .ref (B + 124), .ref (B + 125), .ref (B + 126), .null, .null, .null, .int 0, .int 0, .int 0, .null, .null]) q (by decide) (by decide) (Nat.le_of_ble_eq_true rfl) rfl (fun h1 q => ?_)
  refine q_A q rfl rfl (fun h1 q => ?_)
  refine q_Pn (fs' := [.ref (B + 119), .ref (B + 120), .ref (B + 121), .ref (B + 122), .ref (B + 123), .ref (B + 124), .ref (B + 125), .ref (B + 126), .ref (B + 127), .null, .null, .int 0, .int 0, .int 0, .null, .null]) q (by decide) (by decide) (Nat.le_of_ble_eq_true rfl) rfl (fun h1 q => ?_)
  refine q_A q rfl rfl (fun h1 q => ?_)
  refine q_Pn (fs' := [.ref (B + 119), .ref (B + 120), .ref (B + 121), .ref (B + 122), .ref (B + 123), .ref (B + 124), .ref (B + 125), .ref (B + 126), .ref (B + 127), .ref (B + 128), .null, .int 0, .int 0, .int 0, .null, .null]) q (by decide) (by decide) (Nat.le_of_ble_eq_true rfl) rfl (fun h1 q => ?_)
  refine q_M q (fun j hj => if_neg (by omega)) rfl (fun i hi => by rcases (show i = 0 ∨ i = 1 ∨ i = 2 ∨ i = 3 ∨ i = 4 ∨ i = 5 by omega) with rfl | rfl | rfl | rfl | rfl | rfl <;> rfl) (fun h1 q => ?_)
  refine q_Pn (fs' := [.ref (B + 119), .ref (B + 120), .ref (B + 121), .ref (B + 122), .ref (B + 123), .ref (B + 124), .ref (B + 125), .ref (B + 126), .ref (B + 127), .ref (B + 128), .ref (B + 129), .int 0, .int 0, .int 0, .null, .null]) q (by decide) (by decide) (Nat.le_of_ble_eq_true rfl) rfl (fun h1 q => ?_)
  refine q_A q rfl rfl (fun h1 q => ?_)
  refine q_Pn (fs' := [.ref (B + 119), .ref (B + 120), .ref (B + 121), .ref (B + 122), .ref (B + 123), .ref (B + 124), .ref (B + 125), .ref (B + 126), .ref (B + 127), .ref (B + 128), .ref (B + 129), .int 0, .int 0, .int 0, .null, .ref (B + 136)]) q (by decide) (by decide) (Nat.le_of_ble_eq_true rfl) rfl (fun h1 q => ?_)
  refine q_Pn (fs' := [.ref (B + 119), .ref (B + 120), .ref (B + 121), .ref (B + 122), .ref (B + 123), .ref (B + 124), .ref (B + 125), .ref (B + 126), .ref (B + 127), .ref (B + 128), .ref (B + 129), .int 0, .int 0, .int 0, .ref (B + 24), .ref (B + 136)]) q (by decide) (by decide) (Nat.le_of_ble_eq_true rfl) rfl (fun h1 q => ?_)
  refine q_Pn (fs' := [.ref (B + 119), .ref (B + 120), .ref (B + 121), .ref (B + 122), .ref (B + 123), .ref (B + 124), .ref (B + 125), .ref (B + 126), .ref (B + 127), .ref (B + 128), .ref (B + 129), .int 0, .int (-1), .int 0, .ref (B + 24), .ref (B + 136)]) q (by decide) (by decide) (Nat.le_of_ble_eq_true rfl) rfl (fun h1 q => ?_)
  exact zwf_ret (q.done rfl rfl)
set_option maxRecDepth 100000 in
set_option maxHeartbeats 4000000 in
theorem sp_X5_137 : zSp B (fun a h => f_X5_init a (B + 24) h) 137 5 zfs_X5 156 := by
  intro h e
  have q := zQ.start h e (.inr (5, zfs_X5))
  show zwf (f_X5_init _ _ _) _
  unfold f_X5_init
  refine q_A q rfl rfl (fun h1 q => ?_)
  refine q_Pn (fs' := [.ref (B + 138), .null, .null, .null, .null, .null, .null, .null, .null, .null, .null, .int 0, .int 0, .int 0, .null, .null]) q (by decide) (by decide) (Nat.le_of_ble_eq_true rfl) rfl (fun h1 q => ?_)
  refine q_A q rfl rfl (fun h1 q => ?_)
  refine q_Pn (fs' := [.ref (B + 138), .ref (B + 139), .null, .null, .null, .null, .null, .null, .null, .null, .null, .int 0, .int 0, .int 0, .null, .null]) q (by decide) (by decide) (Nat.le_of_ble_eq_true rfl) rfl (fun h1 q => ?_)
  refine q_A q rfl rfl (fun h1 q => ?_)
  refine q_Pn (fs' := [.ref (B + 138), .ref (B + 139), .ref (B + 140), .null, .null, .null, .null, .null, .null, .null, .null, .int 0, .int 0, .int 0, .null, .null]) q (by decide) (by decide) (Nat.le_of_ble_eq_true rfl) rfl (fun h1 q => ?_)
  refine q_A q rfl rfl (fun h1 q => ?_)
  refine q_Pn (fs' := [.ref (B + 138), .ref (B + 139), .ref (B + 140), .ref (B + 141), .null, .null, .null, .null, .null, .null, .null, .int 0, .int 0, .int 0, .null, .null]) q (by decide) (by decide) (Nat.le_of_ble_eq_true rfl) rfl (fun h1 q => ?_)
  refine q_A q rfl rfl (fun h1 q => ?_)
  refine q_Pn (fs' := [.ref (B + 138), .ref (B + 139), .ref (B + 140), .ref (B + 141), .ref (B + 142), .null, .null, .null, .null, .null, .null, .int 0, .int 0, .int 0, .null, .null]) q (by decide) (by decide) (Nat.le_of_ble_eq_true rfl) rfl (fun h1 q => ?_)
  refine q_A q rfl rfl (fun h1 q => ?_)
  refine q_Pn (fs' := [.ref (B + 138), .ref (B + 139), .ref (B + 140), .ref (B + 141), .ref (B + 142), .ref (B + 143), .null, .null, .null, .null, .null, .int 0, .int 0, .int 0, .null, .null]) q (by decide) (by decide) (Nat.le_of_ble_eq_true rfl) rfl (fun h1 q => ?_)
  refine q_A q rfl rfl (fun h1 q => ?_)
  refine q_Pn (fs' := [.ref (B + 138), .ref (B + 139), .ref (B + 140), .ref (B + 141), .ref (B + 142), .ref (B + 143), .ref (B + 144), .null, .null, .null, .null, .int 0, .int 0, .int 0, .null, .null]) q (by decide) (by decide) (Nat.le_of_ble_eq_true rfl) rfl (fun h1 q => ?_)
  refine q_A q rfl rfl (fun h1 q => ?_)
  refine q_Pn (fs' := [.ref (B + 138), .ref (B + 139), .ref (B + 140), .ref (B + 141), .ref (B + 142), .ref (B + 143), .ref (B + 144), .ref (B + 145), .null, .null, .null, .int 0, .int 0, .int 0, .null, .null]) q (by decide) (by decide) (Nat.le_of_ble_eq_true rfl) rfl (fun h1 q => ?_)
  refine q_A q rfl rfl (fun h1 q => ?_)
  refine q_Pn (fs' := [.ref (B + 138), .ref (B + 139), .ref (B + 140), .ref (B + 141), .ref (B + 142), .ref (B + 143), .ref (B + 144), .ref (B + 145), .ref (B + 146), .null, .null, .int 0, .int 0, .int 0, .null, .null]) q (by decide) (by decide) (Nat.le_of_ble_eq_true rfl) rfl (fun h1 q => ?_)
  refine q_A q rfl rfl (fun h1 q => ?_)
  refine q_Pn (fs' := [.ref (B + 138), .ref (B + 139), .ref (B + 140), .ref (B + 141), .ref (B + 142), .ref (B + 143), .ref (B + 144), .ref (B + 145), .ref (B + 146), .ref (B + 147), .null, .int 0, .int 0, .int 0, .null, .null]) q (by decide) (by decide) (Nat.le_of_ble_eq_true rfl) rfl (fun h1 q => ?_)
  refine q_M q (fun j hj => if_neg (by omega)) rfl (fun i hi => by rcases (show i = 0 ∨ i = 1 ∨ i = 2 ∨ i = 3 ∨ i = 4 ∨ i = 5 by omega) with rfl | rfl | rfl | rfl | rfl | rfl <;> rfl) (fun h1 q => ?_)
  refine q_Pn (fs' := [.ref (B + 138), .ref (B + 139), .ref (B + 140), .ref (B + 141), .ref (B + 142), .ref (B + 143), .ref (B + 144), .ref (B + 145), .ref (B + 146), .ref (B + 147), .ref (B + 148), .int 0, .int 0, .int 0, .null, .null]) q (by decide) (by decide) (Nat.le_of_ble_eq_true rfl) rfl (fun h1 q => ?_)
  refine q_A q rfl rfl (fun h1 q => ?_)
  refine q_Pn (fs' := [.ref (B + 138), .ref (B + 139), .ref (B + 140), .ref (B + 141), .ref (B + 142), .ref (B + 143), .ref (B + 144), .ref (B + 145), .ref (B + 146), .ref (B + 147), .ref (B + 148), .int 0, .int 0, .int 0, .null, .ref (B + 155)]) q (by decide) (by decide) (Nat.le_of_ble_eq_true rfl) rfl (fun h1 q => ?_)
  refine q_Pn (fs' := [.ref (B + 138), .ref (B + 139), .ref (B + 140), .ref (B + 141), .ref (B + 142), .ref (B + 143), .ref (B + 144), .ref (B + 145), .ref (B + 146), .ref (B + 147), .ref (B + 148), .int 0, .int 0, .int 0, .ref (B + 24), .ref (B + 155)]) q (by decide) (by decide) (Nat.le_of_ble_eq_true rfl) rfl (fun h1 q => ?_)
  refine q_Pn (fs' := [.ref (B + 138), .ref (B + 139), .ref (B + 140), .ref (B + 141), .ref (B + 142), .ref (B + 143), .ref (B + 144), .ref (B + 145), .ref (B + 146), .ref (B + 147), .ref (B + 148), .int 0, .int (-1), .int 0, .ref (B + 24), .ref (B + 155)]) q (by decide) (by decide) (Nat.le_of_ble_eq_true rfl) rfl (fun h1 q => ?_)
  exact zwf_ret (q.done rfl rfl)
set_option maxRecDepth 100000 in
set_option maxHeartbeats 4000000 in
theorem sp_X5_156 : zSp B (fun a h => f_X5_init a (B + 24) h) 156 5 zfs_X5 175 := by
  intro h e
  have q := zQ.start h e (.inr (5, zfs_X5))
  show zwf (f_X5_init _ _ _) _
  unfold f_X5_init
  refine q_A q rfl rfl (fun h1 q => ?_)
  refine q_Pn (fs' := [.ref (B + 157), .null, .null, .null, .null, .null, .null, .null, .null, .null, .null, .int 0, .int 0, .int 0, .null, .null]) q (by decide) (by decide) (Nat.le_of_ble_eq_true rfl) rfl (fun h1 q => ?_)
  refine q_A q rfl rfl (fun h1 q => ?_)
  refine q_Pn (fs' := [.ref (B + 157), .ref (B + 158), .null, .null, .null, .null, .null, .null, .null, .null, .null, .int 0, .int 0, .int 0, .null, .null]) q (by decide) (by decide) (Nat.le_of_ble_eq_true rfl) rfl (fun h1 q => ?_)
  refine q_A q rfl rfl (fun h1 q => ?_)
  refine q_Pn (fs' := [.ref (B + 157), .ref (B + 158), .ref (B + 159), .null, .null, .null, .null, .null, .null, .null, .null, .int 0, .int 0, .int 0, .null, .null]) q (by decide) (by decide) (Nat.le_of_ble_eq_true rfl) rfl (fun h1 q => ?_)
  refine q_A q rfl rfl (fun h1 q => ?_)
  refine q_Pn (fs' := [.ref (B + 157), .ref (B + 158), .ref (B + 159), .ref (B + 160), .null, .null, .null, .null, .null, .null, .null, .int 0, .int 0, .int 0, .null, .null]) q (by decide) (by decide) (Nat.le_of_ble_eq_true rfl) rfl (fun h1 q => ?_)
  refine q_A q rfl rfl (fun h1 q => ?_)
  refine q_Pn (fs' := [.ref (B + 157), .ref (B + 158), .ref (B + 159), .ref (B + 160), .ref (B + 161), .null, .null, .null, .null, .null, .null, .int 0, .int 0, .int 0, .null, .null]) q (by decide) (by decide) (Nat.le_of_ble_eq_true rfl) rfl (fun h1 q => ?_)
  refine q_A q rfl rfl (fun h1 q => ?_)
  refine q_Pn (fs' := [.ref (B + 157), .ref (B + 158), .ref (B + 159), .ref (B + 160), .ref (B + 161), .ref (B + 162), .null, .null, .null, .null, .null, .int 0, .int 0, .int 0, .null, .null]) q (by decide) (by decide) (Nat.le_of_ble_eq_true rfl) rfl (fun h1 q => ?_)
  refine q_A q rfl rfl (fun h1 q => ?_)
  refine q_Pn (fs' := [.ref (B + 157), .ref (B + 158), .ref (B + 159), .ref (B + 160), .ref (B + 161), .ref (B + 162), .ref (B + 163), .null, .null, .null, .null, .int 0, .int 0, .int 0, .null, .null]) q (by decide) (by decide) (Nat.le_of_ble_eq_true rfl) rfl (fun h1 q => ?_)
  refine q_A q rfl rfl (fun h1 q => ?_)
  refine q_Pn (fs' := [.ref (B + 157), .ref (B + 158), .ref (B + 159), .ref (B + 160), .ref (B + 161), .ref (B + 162), .ref (B + 163), .ref (B + 164), .null, .null, .null, .int 0, .int 0, .int 0, .null, .null]) q (by decide) (by decide) (Nat.le_of_ble_eq_true rfl) rfl (fun h1 q => ?_)
  refine q_A q rfl rfl (fun h1 q => ?_)
  refine q_Pn (fs' := [.ref (B + 157), .ref (B + 158), .ref (B + 159), .ref (B + 160), .ref (B + 161), .ref (B + 162), .ref (B + 163), .ref (B + 164), .ref (B + 165), .null, .null, .int 0, .int 0, .int 0, .null, .null]) q (by decide) (by decide) (Nat.le_of_ble_eq_true rfl) rfl (fun h1 q => ?_)
  refine q_A q rfl rfl (fun h1 q => ?_)
  refine q_Pn (fs' := [.ref (B + 157), .ref (B + 158), .ref (B + 159), .ref (B + 160), .ref (B + 161), .ref (B + 162), .ref (B + 163), .ref (B + 164), .ref (B + 165), .ref (B + 166), .null, .int 0, .int 0, .int 0, .null, .null]) q (by decide) (by decide) (Nat.le_of_ble_eq_true rfl) rfl (fun h1 q => ?_)
  refine q_M q (fun j hj => if_neg (by omega)) rfl (fun i hi => by rcases (show i = 0 ∨ i = 1 ∨ i = 2 ∨ i = 3 ∨ i = 4 ∨ i = 5 by omega) with rfl | rfl | rfl | rfl | rfl | rfl <;> rfl) (fun h1 q => ?_)
  refine q_Pn (fs' := [.ref (B + 157), .ref (B + 158), .ref (B + 159), .ref (B + 160), .ref (B + 161), .ref (B + 162), .ref (B + 163), .ref (B + 164), .ref (B + 165), .ref (B + 166), .ref (B + 167), .int 0, .int 0, .int 0, .null, .null]) q (by decide) (by decide) (Nat.le_of_ble_eq_true rfl) rfl (fun h1 q => ?_)
  refine q_A q rfl rfl (fun h1 q => ?_)
  refine q_Pn (fs' := [.ref (B + 157), .ref (B + 158), .ref (B + 159), .ref (B + 160), .ref (B + 161), .ref (B + 162), .ref (B + 163), .ref (B + 164), .ref (B + 165), .ref (B + 166), .ref (B + 167), .int 0, .int 0, .int 0, .null, .ref (B + 174)]) q (by decide) (by decide) (Nat.le_of_ble_eq_true rfl) rfl (fun h1 q => ?_)
  refine q_Pn (fs' := [.ref (B + 157), .ref (B + 158), .ref (B + 159), .ref (B + 160), .ref (B + 161), .ref (B + 162), .ref (B + 163), .ref (B + 164), .ref (B + 165), .ref (B + 166), .ref (B + 167), .int 0, .int 0, .int 0, .ref (B + 24), .ref (B + 174)]) q (by decide) (by decide) (Nat.le_of_ble_eq_true rfl) rfl (fun h1 q => ?_)
  refine q_Pn (fs' := [.ref (B + 157), .ref (B + 158), .ref (B + 159), .ref (B + 160), .ref (B + 161), .ref (B + 162), .ref (B + 163), .ref (B + 164), .ref (B + 165), .ref (B + 166), .ref (B + 167), .int 0, .int (-1), .int 0, .ref (B + 24), .ref (B + 174)]) q (by decide) (by decide) (Nat.le_of_ble_eq_true rfl) rfl (fun h1 q => ?_)
  exact zwf_ret (q.done rfl rfl)
set_option maxRecDepth 100000 in
set_option maxHeartbeats 4000000 in
theorem sp_X5_175 : zSp B (fun a h => f_X5_init a (B + 24) h) 175 5 zfs_X5 194 := by
  intro h e
  have q := zQ.start h e (.inr (5, zfs_X5))
  show zwf (f_X5_init _ _ _) _
  unfold f_X5_init
  refine q_A q rfl rfl (fun h1 q => ?_)
  refine q_Pn (fs' := [.ref (B + 176), .null, .null, .null, .null, .null, .null, .null, .null, .null, .null, .int 0, .int 0, .int 0, .null, .null]) q (by decide) (by decide) (Nat.le_of_ble_eq_true rfl) rfl (fun h1 q => ?_)
  refine q_A q rfl rfl (fun h1 q => ?_)
  refine q_Pn (fs' := [.ref (B + 176), .ref (B + 177), .null, .null, .null, .null, .null, .null, .null, .null, .null, .int 0, .int 0, .int 0, .null, .null]) q (by decide) (by decide) (Nat.le_of_ble_eq_true rfl) rfl (fun h1 q => ?_)
  refine q_A q rfl rfl (fun h1 q => ?_)
  refine q_Pn (fs' := [.ref (B + 176), .ref (B + 177), .ref (B + 178), .null, .null, .null, .null, .null, .null, .null, .null, .int 0, .int 0, .int 0, .null, .null]) q (by decide) (by decide) (Nat.le_of_ble_eq_true rfl) rfl (fun h1 q => ?_)
  refine q_A q rfl rfl (fun h1 q => ?_)
  refine q_Pn (fs' := [.ref (B + 176), .ref (B + 177), .ref (B + 178), .ref (B + 179), .null, .null, .null, .null, .null, .null, .null, .int 0, .int 0, .int 0, .null, .null]) q (by decide) (by decide) (Nat.le_of_ble_eq_true rfl) rfl (fun h1 q => ?_)
  refine q_A q rfl rfl (fun h1 q => ?_)
  refine q_Pn (fs' := [.ref (B + 176), .ref (B + 177), .ref (B + 178), .ref (B + 179), .ref (B + 180), .null, .null, .null, .null, .null, .null, .int 0, .int 0, .int 0, .null, .null]) q (by decide) (by decide) (Nat.le_of_ble_eq_true rfl) rfl (fun h1 q => ?_)
  refine q_A q rfl rfl (fun h1 q => ?_)
  refine q_Pn (fs' := [.ref (B + 176), .ref (B + 177), .ref (B + 178), .ref (B + 179), .ref (B + 180), .ref (B + 181), .null, .null, .null, .null, .null, .int 0, .int 0, .int 0, .null, .null]) q (by decide) (by decide) (Nat.le_of_ble_eq_true rfl) rfl (fun h1 q => ?_)
  refine q_A q rfl rfl (fun h1 q => ?_)
  refine q_Pn (fs' := [.ref (B + 176), .ref (B + 177), .ref (B + 178), .ref (B + 179), .ref (B + 180), .ref (B + 181), .ref (B + 182), .null, .null, .null, .null, .int 0, .int 0, .int 0, .null, .null]) q (by decide) (by decide) (Nat.le_of_ble_eq_true rfl) rfl (fun h1 q => ?_)
  refine q_A q rfl rfl (fun h1 q => ?_)
  refine q_Pn (fs' := [.ref (B + 176), .ref (B + 177), .ref (B + 178), .ref (B + 179), .ref (B + 180), .ref (B + 181), .ref (B + 182), .ref (B + 183), .null, .null, .null, .int 0, .int 0, .int 0, .null, .null]) q (by decide) (by decide) (Nat.le_of_ble_eq_true rfl) rfl (fun h1 q => ?_)
  refine q_A q rfl rfl (fun h1 q => ?_)
  refine q_Pn (fs' := [.ref (B + 176), .ref (B + 177), .ref (B + 178), .ref (B + 179), .ref (B + 180), .ref (B + 181), .ref (B + 182), .ref (B + 183), .ref (B + 184), .null, .null, .int 0, .int 0, .int 0, .null, .null]) q (by decide) (by decide) (Nat.le_of_ble_eq_true rfl) rfl (fun h1 q => ?_)
  refine q_A q rfl rfl (fun h1 q => ?_)
  refine q_Pn (fs' := [.ref (B + 176), .ref (B + 177), .ref (B + 178), .ref (B + 179), .ref (B + 180), .ref (B + 181), .ref (B + 182), .ref (B + 183), .ref (B + 184), .ref (B + 185), .null, .int 0, .int 0, .int 0, .null, .null]) q (by decide) (by decide) (Nat.le_of_ble_eq_true rfl) rfl (fun h1 q => ?_)
  refine q_M q (fun j hj => if_neg (by omega)) rfl (fun i hi => by rcases (show i = 0 ∨ i = 1 ∨ i = 2 ∨ i = 3 ∨ i = 4 ∨ i = 5 by omega) with rfl | rfl | rfl | rfl | rfl | rfl <;> rfl) (fun h1 q => ?_)
  refine q_Pn (fs' := [.ref (B + 176), .ref (B + 177), .ref (B + 178), .ref (B + 179), .ref (B + 180), .ref (B + 181), .ref (B + 182), .ref (B + 183), .ref (B + 184), .ref (B + 185), .ref (B + 186), .int 0, .int 0, .int 0, .null, .null]) q (by decide) (by decide) (Nat.le_of_ble_eq_true rfl) rfl (fun h1 q => ?_)
  refine q_A q rfl rfl (fun h1 q => ?_)
  refine q_Pn (fs' := [.ref (B + 176), .ref (B + 177), .ref (B + 178), .ref (B + 179), .ref (B + 180), .ref (B + 181), .ref (B + 182), .ref (B + 183), .ref (B + 184), .ref (B + 185), .ref (B + 186), .int 0, .int 0, .int 0, .null, .ref (B + 193)]) q (by decide) (by decide) (Nat.le_of_ble_eq_true rfl) rfl (fun h1 q => ?_)
  refine q_Pn (fs' := [.ref (B + 176), .ref (B + 177), .ref (B + 178), .ref (B + 179), .ref (B + 180), .ref (B + 181), .ref (B + 182), .ref (B + 183), .ref (B + 184), .ref (B + 185), .ref (B + 186), .int 0, .int 0, .int 0, .ref (B + 24), .ref (B + 193)]) q (by decide) (by decide) (Nat.le_of_ble_eq_true rfl) rfl (fun h1 q => ?_)
  refine q_Pn (fs' := [.ref (B + 176), .ref (B + 177), .ref (B + 178), .ref (B + 179), .ref (B + 180), .ref (B + 181), .ref (B + 182), .ref (B + 183), .ref (B + 184), .ref (B + 185), .ref (B + 186), .int 0, .int (-1), .int 0, .ref (B + 24), .ref (B + 193)]) q (by decide) (by decide) (Nat.le_of_ble_eq_true rfl) rfl (fun h1 q => ?_)
  exact zwf_ret (q.done rfl rfl)
set_option maxRecDepth 100000 in
set_option maxHeartbeats 4000000 in
theorem sp_X5_194 : zSp B (fun a h => f_X5_init a (B + 24) h) 194 5 zfs_X5 213 := by
  intro h e
  have q := zQ.start h e (.inr (5, zfs_X5))
  show zwf (f_X5_init _ _ _) _
  unfold f_X5_init
  refine q_A q rfl rfl (fun h1 q => ?_)
  refine q_Pn (fs' := [.ref (B + 195), .null, .null, .null, .null, .null, .null, .null, .null, .null, .null, .int 0, .int 0, .int 0, .null, .null]) q (by decide) (by decide) (Nat.le_of_ble_eq_true rfl) rfl (fun h1 q => ?_)
  refine q_A q rfl rfl (fun h1 q => ?_)
  refine q_Pn (fs' := [.ref (B + 195), .ref (B + 196), .null, .null, .null, .null, .null, .null, .null, .null, .null, .int 0, .int 0, .int 0, .null, .null]) q (by decide) (by decide) (Nat.le_of_ble_eq_true rfl) rfl (fun h1 q => ?_)
  refine q_A q rfl rfl (fun h1 q => ?_)
  refine q_Pn (fs' := [.ref (B + 195), .ref (B + 196), .ref (B + 197), .null, .null, .null, .null, .null, .null, .null, .null, .int 0, .int 0, .int 0, .null, .null]) q (by decide) (by decide) (Nat.le_of_ble_eq_true rfl) rfl (fun h1 q => ?_)
  refine q_A q rfl rfl (fun h1 q => ?_)
  refine q_Pn (fs' := [.ref (B + 195), .ref (B + 196), .ref (B + 197), .ref (B + 198), .null, .null, .null, .null, .null, .null, .null, .int 0, .int 0, .int 0, .null, .null]) q (by decide) (by decide) (Nat.le_of_ble_eq_true rfl) rfl (fun h1 q => ?_)
  refine q_A q rfl rfl (fun h1 q => ?_)
  refine q_Pn (fs' := [.ref (B + 195), .ref (B + 196), .ref (B + 197), .ref (B + 198), .ref (B + 199), .null, .null, .null, .null, .null, .null, .int 0, .int 0, .int 0, .null, .null]) q (by decide) (by decide) (Nat.le_of_ble_eq_true rfl) rfl (fun h1 q => ?_)
  refine q_A q rfl rfl (fun h1 q => ?_)
  refine q_Pn (fs' := [.ref (B + 195), .ref (B + 196), .ref (B + 197), .ref (B + 198), .ref (B + 199), .ref (B + 200), .null, .null, .null, .null, .null, .int 0, .int 0, .int 0, .null, .null]) q (by decide) (by decide) (Nat.le_of_ble_eq_true rfl) rfl (fun h1 q => ?_)
  refine q_A q rfl rfl (fun h1 q => ?_)
  refine q_Pn (fs' := [.ref (B + 195), .ref (B + 196), .ref (B + 197), .ref (B + 198), .ref (B + 199), .ref (B + 200), .ref (B + 201), .null, .null, .null, .null, .int 0, .int 0, .int 0, .null, .null]) q (by decide) (by decide) (Nat.le_of_ble_eq_true rfl) rfl (fun h1 q => ?_)
  refine q_A q rfl rfl (fun h1 q => ?_)
  refine q_Pn (fs' := [.ref (B + 195), .ref (B + 196), .ref (B + 197), .ref (B + 198), .ref (B + 199), .ref (B + 200), .ref (B + 201), .ref (B + 202), .null, .null, .null, .int 0, .int 0, .int 0, .null, .null]) q (by decide) (by decide) (Nat.le_of_ble_eq_true rfl) rfl (fun h1 q => ?_)
  refine q_A q rfl rfl (fun h1 q => ?_)
  refine q_Pn (fs' := [.ref (B + 195), .ref (B + 196), .ref (B + 197), .ref (B + 198), .ref (B + 199), .ref (B + 200), .ref (B + 201), .ref (B + 202), .ref (B + 203), .null, .null, .int 0, .int 0, .int 0, .null, .null]) q (by decide) (by decide) (Nat.le_of_ble_eq_true rfl) rfl (fun h1 q => ?_)
  refine q_A q rfl rfl (fun h1 q => ?_)
  refine q_Pn (fs' := [.ref (B + 195), .ref (B + 196), .ref (B + 197), .ref (B + 198), .ref (B + 199), .ref (B + 200), .ref (B + 201), .ref (B + 202), .ref (B + 203), .ref (B + 204), .null, .int 0, .int 0, .int 0, .null, .null]) q (by decide) (by decide) (Nat.le_of_ble_eq_true rfl) rfl (fun h1 q => ?_)
  refine q_M q (fun j hj => if_neg (by omega)) rfl (fun i hi => by rcases (show i = 0 ∨ i = 1 ∨ i = 2 ∨ i = 3 ∨ i = 4 ∨ i = 5 by omega) with rfl | rfl | rfl | rfl | rfl | rfl <;> rfl) (fun h1 q => ?_)
  refine q_Pn (fs' := [.ref (B + 195), .ref (B + 196), .ref (B + 197), .ref (B + 198), .ref (B + 199), .ref (B + 200), .ref (B + 201), .ref (B + 202), .ref (B + 203), .ref (B + 204), .ref (B + 205), .int 0, .int 0, .int 0, .null, .null]) q (by decide) (by decide) (Nat.le_of_ble_eq_true rfl) rfl (fun h1 q => ?_)
  refine q_A q rfl rfl (fun h1 q => ?_)
  refine q_Pn (fs' := [.ref (B + 195), .ref (B + 196), .ref (B + 197), .ref (B + 198), .ref (B + 199), .ref (B + 200), .ref (B + 201), .ref (B + 202), .ref (B + 203), .ref (B + 204), .ref (B + 205), .int 0, .int 0, .int 0, .null, .ref (B + 212)]) q (by decide) (by decide) (Nat.le_of_ble_eq_true rfl) rfl (fun h1 q => ?_)
  refine q_Pn (fs' := [.ref (B + 195), .ref (B + 196), .ref (B + 197), .ref (B + 198), .ref (B + 199), .ref (B + 200), .ref (B + 201), .ref (B + 202), .ref (B + 203), .ref (B + 204), .ref (B + 205), .int 0, .int 0, .int 0, .ref (B + 24), .ref (B + 212)]) q (by decide) (by decide) (Nat.le_of_ble_eq_true rfl) rfl (fun h1 q => ?_)
  refine q_Pn (fs' := [.ref (B + 195), .ref (B + 196), .ref (B + 197), .ref (B + 198), .ref (B + 199), .ref (B + 200), .ref (B + 201), .ref (B + 202), .ref (B + 203), .ref (B + 204), .ref (B + 205), .int 0, .int (-1), .int 0, .ref (B + 24), .ref (B + 212)]) q (by decide) (by decide) (Nat.le_of_ble_eq_true rfl) rfl (fun h1 q => ?_)
  exact zwf_ret (q.done rfl rfl)
end

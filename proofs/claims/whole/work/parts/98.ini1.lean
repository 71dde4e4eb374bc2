/-! the first memory, and how constructors come to it -/
def yWf : Nat → Int32 := fun w => if w < 23 then Int32.ofNat (yWp w) else 0
def zM1 : zMem := (fun k => if k = 0 then (fun i => if i = 3 then 1 else 0) else if k = 2 then (fun i => if i = 15 then -1 else 0) else if k = 3 then yWf else if k = 5 ∨ k = 24 then (fun i => if i = 17 then 6 else if i = 18 then 9 else 0) else if k = 42 ∨ k = 61 ∨ k = 99 ∨ k = 118 ∨ k = 137 ∨ k = 156 ∨ k = 175 ∨ k = 194 then (fun i => if i = 14 then 1 else if i = 12 then -1 else 0) else if k = 85 then (fun i => if i = 7 then -1 else 0) else if k = 213 then (fun i => if i = 30 ∨ i = 50 ∨ i = 51 ∨ i = 52 ∨ i = 62 then -1 else 0) else if k = 215 then (fun i => if i = 4 ∨ i = 12 then 6 else if i = 5 ∨ i = 13 then 9 else 0) else (fun _ => 0), fun _ _ => 0)
def dset (D : Nat → Option zPC) (k : Nat) (c : zPC) : Nat → Option zPC := fun j => if j = k then some c else D j
def dnil : Nat → Option zPC := fun _ => none
def zwf {α : Type} (c : Option (α × zHp)) (Q : α → zHp → Prop) : Prop := ∃ a h', c = some (a, h') ∧ Q a h'
/-- from B + k0 on the cells up to B + k are as they will be, but those of D; what lies ahead of k0 is as it was -/
def zQ (B : Nat) (hb : zHp) (k0 k : Nat) (D : Nat → Option zPC) (h : zHp) : Prop := h.2 = B + k ∧ k0 ≤ k ∧ (∀ j, k0 ≤ j → j < k → h.1 (B + j) = some ((D j).getD (zcd B j zM1))) ∧ ∀ j, j < k0 → h.1 (B + j) = hb.1 (B + j)
section
variable {α β : Type} {B : Nat} {hb h : zHp} {k0 k : Nat} {D : Nat → Option zPC} {Q : α → zHp → Prop}
theorem zwf_ret {a : α} (q : Q a h) : zwf (some (a, h)) Q := ⟨a, h, rfl, q⟩
theorem zwf_mono {c : Option (α × zHp)} {Q' : α → zHp → Prop} (h : zwf c Q') (k : ∀ a h', Q' a h' → Q a h') : zwf c Q := by
  obtain ⟨a, h', e, q⟩ := h
  exact ⟨a, h', e, k a h' q⟩
theorem zwf_bd {c : Option (β × zHp)} {f : β → zHp → Option (α × zHp)} {Q' : β → zHp → Prop} (h : zwf c Q') (k : ∀ a h1, Q' a h1 → zwf (f a h1) Q) : zwf (zbd c f) Q := by
  obtain ⟨a, h', e, q⟩ := h
  rw [e]
  exact k a h' q
theorem zQ.nw (h0 : zQ B hb k0 k D h) (c : zPC) (D' : Nat → Option zPC) (hc : some c = some ((D' k).getD (zcd B k zM1))) (hD : ∀ j, j < k → D' j = D j) : zQ B hb k0 (k + 1) D' (znw h c) := by
  obtain ⟨e, l, h1, h2⟩ := h0
  refine ⟨by show h.2 + 1 = _; omega, by omega, fun j j1 j2 => ?_, fun j j1 => ?_⟩
  · show (if B + j = h.2 then some c else h.1 (B + j)) = _
    by_cases z : j = k
    · subst z
      rw [if_pos e.symm]; exact hc
    · rw [if_neg (by omega), hD j (by omega)]; exact h1 j j1 (by omega)
  · show (if B + j = h.2 then some c else h.1 (B + j)) = _
    rw [if_neg (by omega)]; exact h2 j j1
theorem q_A (h0 : zQ B hb k0 k D h) {t : Nat} {x : vp_A} {f : Nat → zHp → Option (α × zHp)} (hD : D k = none) (hc : .inl (t, x) = zcd B k zM1) (kk : ∀ h1, zQ B hb k0 (k + 1) D h1 → zwf (f (B + k) h1) Q) : zwf (zbd (znA h t x) f) Q := by
  show zwf (f h.2 (znw h (.inl (t, x)))) Q
  rw [h0.1]
  exact kk _ (h0.nw _ D (by rw [hD, hc]; rfl) (fun _ _ => rfl))
theorem q_Ar (h0 : zQ B hb k0 k D h) {t : Nat} {x : vp_A} {f : Nat → zHp → Option (α × zHp)} (kk : ∀ h1, zQ B hb k0 (k + 1) (dset D k (.inl (t, x))) h1 → zwf (f (B + k) h1) Q) : zwf (zbd (znA h t x) f) Q := by
  show zwf (f h.2 (znw h (.inl (t, x)))) Q
  rw [h0.1]
  exact kk _ (h0.nw _ _ (by show _ = some ((if k = k then some (.inl (t, x)) else D k).getD _); rw [if_pos rfl]; rfl) (fun j hj => if_neg (by omega)))
theorem zQ.wr {q : Nat} {c0 : zPC} (h0 : zQ B hb k0 k (dset D q c0) h) (h1 : k0 ≤ q) (c : zPC) : zQ B hb k0 k (dset D q c) (zwr h (B + q) c) := by
  obtain ⟨e, l, g1, g2⟩ := h0
  refine ⟨e, l, fun j j1 j2 => ?_, fun j j1 => ?_⟩
  · show (if B + j = B + q then some c else h.1 (B + j)) = some ((if j = q then some c else D j).getD _)
    by_cases z : j = q
    · subst z
      rw [if_pos rfl, if_pos rfl]; rfl
    · rw [if_neg (by omega), if_neg z, g1 j j1 j2]
      show some ((if j = q then some c0 else D j).getD _) = _
      rw [if_neg z]
  · show (if B + j = B + q then some c else h.1 (B + j)) = _
    rw [if_neg (by omega)]; exact g2 j j1
theorem zQ.at {q : Nat} {c0 : zPC} (h0 : zQ B hb k0 k (dset D q c0) h) (h1 : k0 ≤ q) (h2 : q < k) : h.1 (B + q) = some c0 := by
  rw [h0.2.2.1 q h1 h2]
  show some ((if q = q then some c0 else D q).getD _) = _
  rw [if_pos rfl]; rfl
theorem q_P {q c j : Nat} {fs : List Value} {v : Value} {f : zHp → Option (α × zHp)} (h0 : zQ B hb k0 k (dset D q (.inr (c, fs))) h) (h1 : k0 ≤ q) (h2 : q < k) (hl : j < fs.length) (kk : ∀ h1, zQ B hb k0 k (dset D q (.inr (c, fs.set j v))) h1 → zwf (f h1) Q) : zwf (zob (zpV h (B + q) c j v) f) Q := by
  have e : zpV h (B + q) c j v = some (zwr h (B + q) (.inr (c, fs.set j v))) := by
    unfold zpV
    rw [h0.at h1 h2]
    simp only [hl, and_self, if_true]
  rw [e]
  exact kk _ (h0.wr h1 _)
theorem q_gR {q c j v : Nat} {fs : List Value} {f : Nat → Option (α × zHp)} (h0 : zQ B hb k0 k (dset D q (.inr (c, fs))) h) (h1 : k0 ≤ q) (h2 : q < k) (hv : fs[j]? = some (.ref v)) (kk : zwf (f v) Q) : zwf (zob (zgR h (B + q) c j) f) Q := by
  have e : zgR h (B + q) c j = some v := by
    unfold zgR
    rw [h0.at h1 h2]
    simp only [if_true, hv]
  rw [e]
  exact kk
/-- where an object is new, ahead of its constructor -/
theorem q_gRn {q c j v : Nat} {fs : List Value} {x : zPC} {f : Nat → Option (α × zHp)} (h0 : zQ B hb k0 k (dset D q (.inr (c, fs))) h) (h1 : k0 ≤ q) (h2 : q < k) (hv : fs[j]? = some (.ref v)) (kk : zwf (f v) Q) : zwf (zob (zgR (znw h x) (B + q) c j) f) Q := by
  have e : zgR (znw h x) (B + q) c j = some v := by
    unfold zgR
    rw [show (znw h x).1 (B + q) = h.1 (B + q) from if_neg (by have := h0.1; omega), h0.at h1 h2]
    simp only [if_true, hv]
  rw [e]
  exact kk
theorem q_O (h0 : zQ B hb k0 k D h) {c : Nat} {fs : List Value} {f : Nat → zHp → Option (α × zHp)} (kk : zwf (f (B + k) (znw h (.inr (c, fs)))) Q) : zwf (zbd (znO h c fs) f) Q := by
  show zwf (f h.2 (znw h (.inr (c, fs)))) Q
  rw [h0.1]
  exact kk
/-- what a constructor does: the cells from k on up to k2 are made -/
def zSp (B : Nat) (F : Nat → zHp → Option (Unit × zHp)) (k c : Nat) (fs : List Value) (k2 : Nat) : Prop :=
  ∀ h, h.2 = B + k → zwf (F (B + k) (znw h (.inr (c, fs)))) (fun _ h2 => zQ B h k k2 dnil h2)
theorem q_C (h0 : zQ B hb k0 k D h) {c k2 : Nat} {fs : List Value} {F : Nat → zHp → Option (Unit × zHp)} (sp : zSp B F k c fs k2) (hD : ∀ j, k ≤ j → D j = none) {f : Unit → zHp → Option (α × zHp)} (kk : ∀ h2, zQ B hb k0 k2 D h2 → zwf (f () h2) Q) : zwf (zbd (F (B + k) (znw h (.inr (c, fs)))) f) Q := by
  refine zwf_bd (sp h h0.1) (fun _ h2 q => kk h2 ?_)
  obtain ⟨e, l, g1, g2⟩ := h0
  obtain ⟨e', l', q1, q2⟩ := q
  refine ⟨e', by omega, fun j j1 j2 => ?_, fun j j1 => ?_⟩
  · by_cases z : j < k
    · rw [q2 j z]; exact g1 j j1 z
    · rw [q1 j (by omega) j2, hD j (by omega)]; rfl
  · rw [q2 j (by omega)]; exact g2 j j1
theorem zQ.start (h : zHp) (e : h.2 = B + k) (c : zPC) : zQ B h k (k + 1) (dset dnil k c) (znw h c) := by
  refine ⟨by show h.2 + 1 = _; omega, by omega, fun j j1 j2 => ?_, fun j j1 => if_neg (by omega)⟩
  have : j = k := by omega
  subst this
  show (if B + j = h.2 then some c else h.1 (B + j)) = some ((if j = j then some c else none).getD _)
  rw [if_pos e.symm, if_pos rfl]; rfl
theorem zQ.done {q : Nat} {c : zPC} (h0 : zQ B hb k0 k (dset D q c) h) (hc : c = zcd B q zM1) (hD : D q = none) : zQ B hb k0 k D h := by
  obtain ⟨e, l, g1, g2⟩ := h0
  refine ⟨e, l, fun j j1 j2 => ?_, g2⟩
  rw [g1 j j1 j2]
  show some ((if j = q then some c else D j).getD _) = _
  by_cases z : j = q
  · subst z
    rw [if_pos rfl, hD, hc]; rfl
  · rw [if_neg z]
/-! the plain constructors -/
theorem sp_X0 : zSp B (fun a h => f_X0_init a h) 80 0 zfs_X0 85 := by
  intro h e
  have q := zQ.start h e (.inr (0, zfs_X0))
  show zwf (f_X0_init _ _) _
  unfold f_X0_init
  refine q_A q rfl rfl (fun h1 q => ?_)
  refine q_P q (by decide) (by decide) (Nat.le_of_ble_eq_true rfl) (fun h1 q => ?_)
  refine q_A q rfl rfl (fun h1 q => ?_)
  refine q_P q (by decide) (by decide) (Nat.le_of_ble_eq_true rfl) (fun h1 q => ?_)
  refine q_A q rfl rfl (fun h1 q => ?_)
  refine q_P q (by decide) (by decide) (Nat.le_of_ble_eq_true rfl) (fun h1 q => ?_)
  refine q_A q rfl rfl (fun h1 q => ?_)
  refine q_P q (by decide) (by decide) (Nat.le_of_ble_eq_true rfl) (fun h1 q => ?_)
  refine q_P q (by decide) (by decide) (Nat.le_of_ble_eq_true rfl) (fun h1 q => ?_)
  exact zwf_ret (q.done rfl rfl)
end

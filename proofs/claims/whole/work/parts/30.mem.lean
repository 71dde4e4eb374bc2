/-! The second picture: memory by offsets. M.1 k i: int at place i of the cell k; M.2 k i: long. The world's shape never changes once it is made. -/
abbrev zMem : Type := (Nat → Nat → Int32) × (Nat → Nat → Int64)
def zdT : List (Nat × Nat) := [(17, 0), (1, 700), (14, 0), (0, 23), (1, 0), (16, 0), (0, 24), (0, 5), (0, 5), (0, 5), (0, 8), (0, 8), (0, 8), (0, 8), (0, 6), (0, 6), (0, 6), (0, 12), (12, 0), (0, 64), (0, 3), (0, 3), (3, 64), (0, 72), (16, 0), (0, 24), (0, 5), (0, 5), (0, 5), (0, 8), (0, 8), (0, 8), (0, 8), (0, 6), (0, 6), (0, 6), (0, 12), (12, 0), (0, 64), (0, 3), (0, 3), (3, 64), (15, 0), (0, 8), (0, 8), (0, 8), (0, 8), (0, 8), (0, 8), (0, 6), (0, 6), (0, 6), (0, 5), (5, 0), (0, 5), (0, 5), (0, 5), (0, 5), (0, 5), (0, 5), (0, 7), (15, 0), (0, 8), (0, 8), (0, 8), (0, 8), (0, 8), (0, 8), (0, 6), (0, 6), (0, 6), (0, 5), (5, 0), (0, 5), (0, 5), (0, 5), (0, 5), (0, 5), (0, 5), (0, 7), (10, 0), (0, 20), (0, 20), (0, 20), (0, 20), (13, 0), (0, 24), (0, 24), (0, 24), (2, 24), (0, 24), (2, 24), (11, 0), (4, 0), (0, 24), (0, 4), (0, 4), (0, 25), (0, 25), (15, 0), (0, 8), (0, 8), (0, 8), (0, 8), (0, 8), (0, 8), (0, 6), (0, 6), (0, 6), (0, 5), (5, 0), (0, 5), (0, 5), (0, 5), (0, 5), (0, 5), (0, 5), (0, 7), (15, 0), (0, 8), (0, 8), (0, 8), (0, 8), (0, 8), (0, 8), (0, 6), (0, 6), (0, 6), (0, 5), (5, 0), (0, 5), (0, 5), (0, 5), (0, 5), (0, 5), (0, 5), (0, 7), (15, 0), (0, 8), (0, 8), (0, 8), (0, 8), (0, 8), (0, 8), (0, 6), (0, 6), (0, 6), (0, 5), (5, 0), (0, 5), (0, 5), (0, 5), (0, 5), (0, 5), (0, 5), (0, 7), (15, 0), (0, 8), (0, 8), (0, 8), (0, 8), (0, 8), (0, 8), (0, 6), (0, 6), (0, 6), (0, 5), (5, 0), (0, 5), (0, 5), (0, 5), (0, 5), (0, 5), (0, 5), (0, 7), (15, 0), (0, 8), (0, 8), (0, 8), (0, 8), (0, 8), (0, 8), (0, 6), (0, 6), (0, 6), (0, 5), (5, 0), (0, 5), (0, 5), (0, 5), (0, 5), (0, 5), (0, 5), (0, 7), (15, 0), (0, 8), (0, 8), (0, 8), (0, 8), (0, 8), (0, 8), (0, 6), (0, 6), (0, 6), (0, 5), (5, 0), (0, 5), (0, 5), (0, 5), (0, 5), (0, 5), (0, 5), (0, 7), (18, 0), (0, 700), (0, 16), (0, 48), (0, 10), (0, 10), (0, 10), (0, 16), (0, 16), (0, 16), (0, 16), (0, 12), (0, 12), (0, 12), (0, 24), (0, 6), (0, 6), (0, 128), (0, 128), (3, 7), (3, 64), (0, 23), (0, 23), (0, 184), (0, 184), (0, 184), (0, 184), (0, 184), (0, 138), (0, 138), (0, 115), (0, 805), (0, 8), (0, 24), (0, 25), (0, 25), (0, 24), (0, 24), (2, 24), (0, 24), (2, 24), (3, 1)]
def zds (k : Nat) : Nat × Nat := zdT.getD k (99, 0)
def ztof (v : Int32) : Nat := if v = 0 then 5 else 24
def zbof (v : Int32) : Nat := if v = 0 then 4 else 1
def zfl (c B k : Nat) (f : Nat → Int32) : List Value := match c with
  | 0 => [.ref (B + (k + 1)), .ref (B + (k + 2)), .ref (B + (k + 3)), .ref (B + (k + 4)), .int (f 4)]
  | 1 => [.ref (B + (k + 1)), .ref (B + (k + 7)), .ref (B + (k + 2)), .ref (B + (k + 3)), .ref (B + (k + 4)), .ref (B + (k + 5)), .ref (B + (k + 6)), .int (f 7), .int (f 8)]
  | 2 => [.ref (B + (k + 1)), .ref (B + (k + 2)), .ref (B + (k + 3)), .ref (B + (k + 4)), .int (f 4), .int (f 5)]
  | 3 => [.ref (B + (k + 1)), .ref (B + (k + 2)), .ref (B + (k + 3)), .ref (B + (k + 4)), .ref (B + (k + 5)), .ref (B + (k + 6)), .int (f 6), .int (f 7)]
  | 4 => [.ref (B + (k + 1)), .ref (B + zbof (f 1)), .int (f 2), .int (f 3), .int (f 4), .int (f 5), .int (f 6), .int (f 7), .int (f 8), .int (f 9), .ref (B + ztof (f 10)), .ref (B + (k + 21)), .int (f 12), .int (f 13), .int (f 14), .int (f 15)]
  | 5 => [.ref (B + (k + 1)), .ref (B + (k + 2)), .ref (B + (k + 3)), .ref (B + (k + 4)), .ref (B + (k + 5)), .ref (B + (k + 6)), .ref (B + (k + 7)), .ref (B + (k + 8)), .ref (B + (k + 9)), .ref (B + (k + 10)), .ref (B + (k + 11)), .int (f 11), .int (f 12), .int (f 13), .ref (B + ztof (f 14)), .ref (B + (k + 18))]
  | 6 => [.ref (B + (k + 1)), .ref (B + (k + 2)), .ref (B + (k + 3)), .ref (B + (k + 4)), .ref (B + (k + 5)), .ref (B + (k + 6)), .ref (B + (k + 7)), .ref (B + (k + 8)), .ref (B + (k + 9)), .ref (B + (k + 10)), .ref (B + (k + 11)), .ref (B + (k + 12)), .ref (B + (k + 13)), .int (f 13), .int (f 14), .int (f 15), .int (f 16), .int (f 17), .int (f 18)]
  | 7 => [.ref (B + (k + 1)), .int (f 1), .ref (B + (k + 2)), .ref (B + ztof (f 3)), .ref (B + (k + 42)), .ref (B + (k + 61)), .int (f 6), .ref (B + (k + 80)), .ref (B + (k + 85)), .ref (B + (k + 92))]
  | 8 => [.int (f 0), .ref (B + (k + 1)), .int (f 2), .ref (B + (k + 2)), .ref (B + (k + 3)), .ref (B + (k + 4)), .ref (B + (k + 5)), .ref (B + (k + 6)), .ref (B + (k + 7)), .ref (B + (k + 8)), .ref (B + (k + 9)), .ref (B + (k + 10)), .ref (B + (k + 11)), .ref (B + (k + 12)), .ref (B + (k + 13)), .ref (B + (k + 14)), .ref (B + (k + 15)), .ref (B + (k + 16)), .ref (B + (k + 17)), .ref (B + (k + 18)), .int (f 20), .int (f 21), .int (f 22), .int (f 23), .int (f 24), .int (f 25), .int (f 26), .int (f 27), .int (f 28), .int (f 29), .int (f 30), .int (f 31), .int (f 32), .ref (B + (k + 19)), .ref (B + (k + 20)), .int (f 35), .ref (B + (k + 21)), .ref (B + (k + 22)), .ref (B + (k + 23)), .ref (B + (k + 24)), .ref (B + (k + 25)), .ref (B + (k + 26)), .ref (B + (k + 27)), .ref (B + (k + 28)), .ref (B + (k + 29)), .ref (B + (k + 30)), .ref (B + (k + 31)), .int (f 47), .int (f 48), .int (f 49), .int (f 50), .int (f 51), .int (f 52), .int (f 53), .ref (B + (k + 32)), .int (f 55), .ref (B + (k + 33)), .int (f 57), .int (f 58), .ref (B + (k + 34)), .ref (B + (k + 35)), .int (f 61), .int (f 62), .ref (B + (k + 36)), .ref (B + (k + 37)), .ref (B + (k + 38)), .ref (B + (k + 39)), .ref (B + (k + 40))]
  | _ => []
def zcd (B k : Nat) (M : zMem) : zPC := match zds k with
  | (0, n) => .inl (0, n, .inl (M.1 k))
  | (1, n) => .inl (1, n, .inl (M.1 k))
  | (2, n) => .inl (2, n, .inl (M.1 k))
  | (3, n) => .inl (3, n, .inr (.inl (M.2 k)))
  | (4, _) => .inl (4, 6, .inr (.inr (.inr (.inr (fun i => if i < 6 then some (B + (99 + 19 * i)) else none)))))
  | (5, _) => .inl (5, 6, .inr (.inr (.inr (.inr (fun i => if i < 6 then some (B + (k + 1 + i)) else none)))))
  | (c, _) => .inr (c - 10, zfl (c - 10) B k (M.1 k))
def zW (B n : Nat) (h : zHp) (M : zMem) : Prop := (∀ k, k < 255 → h.1 (B + k) = some (zcd B k M)) ∧ h.2 = n
/-- what the second says, the first does: the answers are R to each other -/
def zRG {α α' : Type} (R : α → α' → Prop) (B n : Nat) (c : Option (α × zHp)) (c' : Option (α' × zMem)) : Prop := ∀ (r' : α') (M' : zMem), c' = some (r', M') → ∃ (r : α) (h' : zHp), c = some (r, h') ∧ R r r' ∧ zW B n h' M'
abbrev zRR {α : Type} (B n : Nat) (c : Option (α × zHp)) (c' : Option (α × zMem)) : Prop := zRG (fun a b => a = b) B n c c'
def mup (M : zMem) (k i : Nat) (v : Int32) : zMem := (fun k' => if k' = k then (fun i' => if i' = i then v else M.1 k' i') else M.1 k', M.2)
def mupL (M : zMem) (k i : Nat) (v : Int64) : zMem := (M.1, fun k' => if k' = k then (fun i' => if i' = i then v else M.2 k' i') else M.2 k')
def mrd (M : zMem) (k : Nat) (i : Int32) : Option Int32 := if i < 0 ∨ (zds k).2 ≤ i.toNatClampNeg then none else some (M.1 k i.toNatClampNeg)
def mrdL (M : zMem) (k : Nat) (i : Int32) : Option Int64 := if i < 0 ∨ (zds k).2 ≤ i.toNatClampNeg then none else some (M.2 k i.toNatClampNeg)
def mwr (M : zMem) (k : Nat) (i x : Int32) : Option zMem := if i < 0 ∨ (zds k).2 ≤ i.toNatClampNeg then none else some (mup M k i.toNatClampNeg x)
def mwrL (M : zMem) (k : Nat) (i : Int32) (x : Int64) : Option zMem := if i < 0 ∨ (zds k).2 ≤ i.toNatClampNeg then none else some (mupL M k i.toNatClampNeg x)
def mcp (M : zMem) (a : Nat) (sp : Int32) (b : Nat) (dp n : Int32) : Option zMem := if ¬ sp < 0 ∧ ¬ dp < 0 ∧ ¬ n < 0 ∧ sp.toNatClampNeg + n.toNatClampNeg ≤ (zds a).2 ∧ dp.toNatClampNeg + n.toNatClampNeg ≤ (zds b).2 then some (fun k' => if k' = b then va_cpy (M.1 a) (M.1 b) sp.toNatClampNeg dp.toNatClampNeg n.toNatClampNeg else M.1 k', M.2) else none
def mpt (i : Int32) : Option Nat := if i < 0 ∨ 6 ≤ i.toNatClampNeg then none else some (99 + 19 * i.toNatClampNeg)
def mrw (k : Nat) (i : Int32) : Option Nat := if i < 0 ∨ 6 ≤ i.toNatClampNeg then none else some (k + 1 + i.toNatClampNeg)
def mbd {α β : Type} (c : Option (α × zMem)) (k : α → zMem → Option (β × zMem)) : Option (β × zMem) := match c with
  | none => none
  | some q => k q.1 q.2
def mlt {α β : Type} (a : α) (k : α → β) : β := k a
def mlp {σ β : Type} (n : Nat) (body : σ → zMem → Option ((σ ⊕ β) × zMem)) (s : σ) (M : zMem) : Option (β × zMem) := match n with
  | 0 => none
  | n + 1 => mbd (body s M) (fun r M1 => zsl r (fun s1 => mlp n body s1 M1) (fun b => some (b, M1)))
/-! what a place is -/
abbrev zIO (c k : Nat) : Prop := k < 255 ∧ zds k = (c + 10, 0) ∧ c < 9
abbrev zIA (t n k : Nat) : Prop := k < 255 ∧ zds k = (t, n)
def zIS (k : Nat) : Prop := zIO 5 k ∧ (∀ j, j < 6 → zIA 0 8 (k + (1 + j))) ∧ (∀ j, j < 3 → zIA 0 6 (k + (7 + j))) ∧ zIA 0 5 (k + 10) ∧ zIA 5 0 (k + 11) ∧ (∀ j, j < 6 → zIA 0 5 (k + 11 + 1 + j)) ∧ zIA 0 7 (k + 18)
def zIT (k : Nat) : Prop := k = 5 ∨ k = 24
theorem zcd_o {c k : Nat} (h : zIO c k) (B : Nat) (M : zMem) : zcd B k M = .inr (c, zfl c B k (M.1 k)) := by
  obtain ⟨-, h1, h2⟩ := h
  unfold zcd
  rw [h1]
  rcases (show c = 0 ∨ c = 1 ∨ c = 2 ∨ c = 3 ∨ c = 4 ∨ c = 5 ∨ c = 6 ∨ c = 7 ∨ c = 8 by omega) with rfl | rfl | rfl | rfl | rfl | rfl | rfl | rfl | rfl <;> rfl
theorem zcd_0 {n k : Nat} (h : zIA 0 n k) (B : Nat) (M : zMem) : zcd B k M = .inl (0, n, .inl (M.1 k)) := by
  unfold zcd; rw [h.2]; rfl
theorem zcd_1 {n k : Nat} (h : zIA 1 n k) (B : Nat) (M : zMem) : zcd B k M = .inl (1, n, .inl (M.1 k)) := by
  unfold zcd; rw [h.2]; rfl
theorem zcd_2 {n k : Nat} (h : zIA 2 n k) (B : Nat) (M : zMem) : zcd B k M = .inl (2, n, .inl (M.1 k)) := by
  unfold zcd; rw [h.2]; rfl
theorem zcd_3 {n k : Nat} (h : zIA 3 n k) (B : Nat) (M : zMem) : zcd B k M = .inl (3, n, .inr (.inl (M.2 k))) := by
  unfold zcd; rw [h.2]; rfl
theorem zcd_4 {k : Nat} (h : zIA 4 0 k) (B : Nat) (M : zMem) : zcd B k M = .inl (4, 6, .inr (.inr (.inr (.inr (fun i => if i < 6 then some (B + (99 + 19 * i)) else none))))) := by
  unfold zcd; rw [h.2]; rfl
theorem zcd_5 {k : Nat} (h : zIA 5 0 k) (B : Nat) (M : zMem) : zcd B k M = .inl (5, 6, .inr (.inr (.inr (.inr (fun i => if i < 6 then some (B + (k + 1 + i)) else none))))) := by
  unfold zcd; rw [h.2]; rfl
theorem zcd_same {B k : Nat} {M M' : zMem} (h1 : M.1 k = M'.1 k) (h2 : M.2 k = M'.2 k) : zcd B k M = zcd B k M' := by
  unfold zcd
  rw [h1, h2]
theorem zit_o {k : Nat} (h : zIT k) : zIO 6 k := by rcases h with rfl | rfl <;> exact ⟨by decide +kernel, by decide +kernel, by decide +kernel⟩
theorem zit_a {k : Nat} (h : zIT k) (j n : Nat) (hj : zIA 0 n (5 + j) ∧ zIA 0 n (24 + j)) : zIA 0 n (k + j) := by
  rcases h with rfl | rfl
  · exact hj.1
  · exact hj.2
theorem zit_l {k : Nat} (h : zIT k) : zIO 2 (k + 13) := by rcases h with rfl | rfl <;> exact ⟨by decide +kernel, by decide +kernel, by decide +kernel⟩
theorem zit_s {k : Nat} (h : zIT k) : zIA 3 64 (k + 13 + 4) := by rcases h with rfl | rfl <;> exact ⟨by decide +kernel, by decide +kernel⟩
theorem zit_of (v : Int32) : zIT (ztof v) := by
  unfold ztof
  split
  · exact Or.inl rfl
  · exact Or.inr rfl
theorem zis_of : ∀ k ∈ [42, 61, 99, 118, 137, 156, 175, 194], zIS k := by
  intro k hk
  simp only [List.mem_cons, List.not_mem_nil, or_false] at hk
  rcases hk with rfl | rfl | rfl | rfl | rfl | rfl | rfl | rfl <;> exact ⟨⟨by decide +kernel, by decide +kernel, by decide +kernel⟩, by decide +kernel, by decide +kernel, ⟨by decide +kernel, by decide +kernel⟩, ⟨by decide +kernel, by decide +kernel⟩, by decide +kernel, ⟨by decide +kernel, by decide +kernel⟩⟩
section ZQ
variable {α α' β σ : Type} {R : α → α' → Prop} {B n : Nat} {h : zHp} {M : zMem}
theorem zW.set {k : Nat} {M' : zMem} {x : zPC} (hW : zW B n h M) (hk : k < 255) (hx : x = zcd B k M') (h1 : ∀ k', k' ≠ k → M'.1 k' = M.1 k') (h2 : ∀ k', k' ≠ k → M'.2 k' = M.2 k') : zW B n (zwr h (B + k) x) M' := by
  refine ⟨fun k' hk' => ?_, hW.2⟩
  by_cases e : k' = k
  · subst e
    show (if B + k' = B + k' then some x else h.1 (B + k')) = _
    rw [if_pos rfl, hx]
  · show (if B + k' = B + k then some x else h.1 (B + k')) = _
    rw [if_neg (by omega), hW.1 k' hk', zcd_same (h1 k' e) (h2 k' e)]
theorem zr_ok {a : α} (hW : zW B n h M) : zRR B n (some (a, h)) (some (a, M)) := by
  intro r M' e
  cases e
  exact ⟨a, h, rfl, rfl, hW⟩
theorem zr_okG {a : α} {a' : α'} (hR : R a a') (hW : zW B n h M) : zRG R B n (some (a, h)) (some (a', M)) := by
  intro r M' e
  cases e
  exact ⟨a, h, rfl, hR, hW⟩
theorem zr_none {c : Option (α × zHp)} : zRG R B n c none := fun _ _ e => by cases e
theorem zr_if {p : Prop} [Decidable p] {c1 c2 : Option (α × zHp)} {d1 d2 : Option (α' × zMem)} (h1 : zRG R B n c1 d1) (h2 : zRG R B n c2 d2) : zRG R B n (if p then c1 else c2) (if p then d1 else d2) := by
  by_cases hp : p
  · rw [if_pos hp, if_pos hp]; exact h1
  · rw [if_neg hp, if_neg hp]; exact h2
theorem zr_obp {γ : Type} {q : Option γ} {f : γ → Option (α × zHp)} {g : γ → Option (α' × zMem)} (k : ∀ v, zRG R B n (f v) (g v)) : zRG R B n (zob q f) (zob q g) := by
  cases q with
  | none => exact zr_none
  | some v => exact k v
theorem zr_bdG {β' : Type} {R1 : β → β' → Prop} {c1 : Option (β × zHp)} {d1 : Option (β' × zMem)} {f : β → zHp → Option (α × zHp)} {g : β' → zMem → Option (α' × zMem)} (h1 : zRG R1 B n c1 d1) (k : ∀ (e : β) (e' : β') (h1 : zHp) (M1 : zMem), R1 e e' → zW B n h1 M1 → zRG R B n (f e h1) (g e' M1)) : zRG R B n (zbd c1 f) (mbd d1 g) := by
  intro r M' e
  cases hq : d1 with
  | none => rw [hq] at e; cases e
  | some q =>
    obtain ⟨a, M1⟩ := q
    rw [hq] at e
    obtain ⟨a0, hh, e1, r1, w1⟩ := h1 a M1 hq
    rw [e1]
    exact k a0 a hh M1 r1 w1 r M' e
theorem zr_bd {c1 : Option (β × zHp)} {d1 : Option (β × zMem)} {f : β → zHp → Option (α × zHp)} {g : β → zMem → Option (α' × zMem)} (h1 : zRR B n c1 d1) (k : ∀ (e : β) (h1 : zHp) (M1 : zMem), zW B n h1 M1 → zRG R B n (f e h1) (g e M1)) : zRG R B n (zbd c1 f) (mbd d1 g) :=
  zr_bdG h1 (fun e e' h1 M1 hR hw => by cases hR; exact k e h1 M1 hw)
theorem zr_sl {ε ρ : Type} {b : ε ⊕ ρ} {f : ε → Option (α × zHp)} {g : ε → Option (α' × zMem)} {f2 : ρ → Option (α × zHp)} {g2 : ρ → Option (α' × zMem)} (h1 : ∀ e, zRG R B n (f e) (g e)) (h2 : ∀ r, zRG R B n (f2 r) (g2 r)) : zRG R B n (zsl b f f2) (zsl b g g2) := by
  cases b with
  | inl e => exact h1 e
  | inr r => exact h2 r
theorem zr_lp {N : Nat} {f : σ → zHp → Option ((σ ⊕ α) × zHp)} {g : σ → zMem → Option ((σ ⊕ α) × zMem)} (hb : ∀ (s : σ) (h : zHp) (M : zMem), zW B n h M → zRR B n (f s h) (g s M)) : ∀ (s : σ) (h : zHp) (M : zMem), zW B n h M → zRR B n (zlp N f s h) (mlp N g s M) := by
  induction N with
  | zero => intro s h M hW; exact zr_none
  | succ N ih =>
    intro s h M hW
    show zRR B n (zbd (f s h) _) (mbd (g s M) _)
    exact zr_bd (hb s h M hW) (fun r h1 M1 w1 => zr_sl (fun s1 => ih s1 h1 M1 w1) (fun b => zr_ok w1))
/-! heap rows -/
theorem mup_ne {M : zMem} {k i k' : Nat} {v : Int32} (e : k' ≠ k) : (mup M k i v).1 k' = M.1 k' := if_neg e
theorem mup_eq {M : zMem} {k i : Nat} {v : Int32} : (mup M k i v).1 k = upd (M.1 k) i v := by
  show (if k = k then _ else M.1 k) = _
  rw [if_pos rfl]
  rfl
theorem zr_gI {c k j : Nat} {f : Int32 → Option (α × zHp)} {d : Option (α' × zMem)} {v : Int32} (hW : zW B n h M) (hk : zIO c k) (hj : (zfl c B k (M.1 k))[j]? = some (.int v)) (kk : zRG R B n (f v) d) : zRG R B n (zob (zgI h (B + k) c j) f) d := by
  have e : zgI h (B + k) c j = some v := by
    unfold zgI
    rw [hW.1 k hk.1, zcd_o hk]
    simp only [if_true, hj]
  rw [e]
  exact kk
theorem zr_gR {c k j : Nat} {f : Nat → Option (α × zHp)} {d : Option (α' × zMem)} {v : Nat} (hW : zW B n h M) (hk : zIO c k) (hj : (zfl c B k (M.1 k))[j]? = some (.ref v)) (kk : zRG R B n (f v) d) : zRG R B n (zob (zgR h (B + k) c j) f) d := by
  have e : zgR h (B + k) c j = some v := by
    unfold zgR
    rw [hW.1 k hk.1, zcd_o hk]
    simp only [if_true, hj]
  rw [e]
  exact kk
theorem zr_pV {c k j : Nat} {x : Value} {v : Int32} {f : zHp → Option (α × zHp)} {g : zMem → Option (α' × zMem)} (hW : zW B n h M) (hk : zIO c k) (hl : j < (zfl c B k (M.1 k)).length) (hs : (zfl c B k (M.1 k)).set j x = zfl c B k (upd (M.1 k) j v)) (kk : ∀ (h1 : zHp) (M1 : zMem), zW B n h1 M1 → zRG R B n (f h1) (g M1)) : zRG R B n (zob (zpV h (B + k) c j x) f) (mlt (mup M k j v) g) := by
  have e : zpV h (B + k) c j x = some (zwr h (B + k) (.inr (c, zfl c B k ((mup M k j v).1 k)))) := by
    unfold zpV
    rw [hW.1 k hk.1, zcd_o hk]
    simp only [hl, and_self, if_true, hs, mup_eq]
  rw [e]
  refine kk _ _ (hW.set hk.1 (zcd_o hk _ _).symm (fun k' hk' => ?_) (fun k' _ => rfl))
  show (if k' = k then _ else M.1 k') = _
  rw [if_neg hk']
theorem zr_a0 {N k : Nat} {i : Int32} {f : Int32 → Option (α × zHp)} {g : Int32 → Option (α' × zMem)} (hW : zW B n h M) (hk : zIA 0 N k) (kk : ∀ v, zRG R B n (f v) (g v)) : zRG R B n (zob (zaI 0 h (B + k) i) f) (zob (mrd M k i) g) := by
  have e : zaI 0 h (B + k) i = mrd M k i := by
    unfold zaI mrd
    rw [hW.1 k hk.1, zcd_0 hk, hk.2]
    by_cases q : i < 0 ∨ N ≤ i.toNatClampNeg
    · simp only [q, not_true, and_false, if_false, if_true]
    · simp only [q, not_false_iff, and_self, if_true, if_false]
  rw [e]
  exact zr_obp kk
theorem zr_a1 {N k : Nat} {i : Int32} {f : Int32 → Option (α × zHp)} {g : Int32 → Option (α' × zMem)} (hW : zW B n h M) (hk : zIA 1 N k) (kk : ∀ v, zRG R B n (f v) (g v)) : zRG R B n (zob (zaI 1 h (B + k) i) f) (zob (mrd M k i) g) := by
  have e : zaI 1 h (B + k) i = mrd M k i := by
    unfold zaI mrd
    rw [hW.1 k hk.1, zcd_1 hk, hk.2]
    by_cases q : i < 0 ∨ N ≤ i.toNatClampNeg
    · simp only [q, not_true, and_false, if_false, if_true]
    · simp only [q, not_false_iff, and_self, if_true, if_false]
  rw [e]
  exact zr_obp kk
theorem zr_a2 {N k : Nat} {i : Int32} {f : Int32 → Option (α × zHp)} {g : Int32 → Option (α' × zMem)} (hW : zW B n h M) (hk : zIA 2 N k) (kk : ∀ v, zRG R B n (f v) (g v)) : zRG R B n (zob (zaI 2 h (B + k) i) f) (zob (mrd M k i) g) := by
  have e : zaI 2 h (B + k) i = mrd M k i := by
    unfold zaI mrd
    rw [hW.1 k hk.1, zcd_2 hk, hk.2]
    by_cases q : i < 0 ∨ N ≤ i.toNatClampNeg
    · simp only [q, not_true, and_false, if_false, if_true]
    · simp only [q, not_false_iff, and_self, if_true, if_false]
  rw [e]
  exact zr_obp kk
theorem zr_a3 {N k : Nat} {i : Int32} {f : Int64 → Option (α × zHp)} {g : Int64 → Option (α' × zMem)} (hW : zW B n h M) (hk : zIA 3 N k) (kk : ∀ v, zRG R B n (f v) (g v)) : zRG R B n (zob (zaL h (B + k) i) f) (zob (mrdL M k i) g) := by
  have e : zaL h (B + k) i = mrdL M k i := by
    unfold zaL mrdL
    rw [hW.1 k hk.1, zcd_3 hk, hk.2]
    by_cases q : i < 0 ∨ N ≤ i.toNatClampNeg
    · simp only [q, not_true, and_false, if_false, if_true]
    · simp only [q, not_false_iff, and_self, if_true, if_false]
  rw [e]
  exact zr_obp kk
theorem zr_s {t N k : Nat} {i x : Int32} {f : zHp → Option (α × zHp)} {g : zMem → Option (α' × zMem)} (ht : t < 3) (hW : zW B n h M) (hk : zIA t N k) (kk : ∀ (h1 : zHp) (M1 : zMem), zW B n h1 M1 → zRG R B n (f h1) (g M1)) : zRG R B n (zob (zsI t h (B + k) i x) f) (zob (mwr M k i (znar t x)) g) := by
  by_cases q : i < 0 ∨ N ≤ i.toNatClampNeg
  · have e : mwr M k i (znar t x) = none := by
      unfold mwr; rw [hk.2]; rw [if_pos q]
    rw [e]
    exact zr_none
  · have e : mwr M k i (znar t x) = some (mup M k i.toNatClampNeg (znar t x)) := by
      unfold mwr; rw [hk.2]; rw [if_neg q]
    have hc : ∀ M' : zMem, zcd B k M' = .inl (t, N, .inl (M'.1 k)) := fun M' => by
      rcases (show t = 0 ∨ t = 1 ∨ t = 2 by omega) with rfl | rfl | rfl
      · exact zcd_0 hk B M'
      · exact zcd_1 hk B M'
      · exact zcd_2 hk B M'
    have e2 : zsI t h (B + k) i x = some (zwr h (B + k) (.inl (t, N, .inl (upd (M.1 k) i.toNatClampNeg (znar t x))))) := by
      unfold zsI
      rw [hW.1 k hk.1, hc]
      simp only [q, not_false_iff, and_self, if_true]
    rw [e, e2]
    exact kk _ _ (hW.set hk.1 (by rw [hc, mup_eq]) (fun k' hk' => mup_ne hk') (fun _ _ => rfl))
theorem zr_sL {N k : Nat} {i : Int32} {x : Int64} {f : zHp → Option (α × zHp)} {g : zMem → Option (α' × zMem)} (hW : zW B n h M) (hk : zIA 3 N k) (kk : ∀ (h1 : zHp) (M1 : zMem), zW B n h1 M1 → zRG R B n (f h1) (g M1)) : zRG R B n (zob (zsL h (B + k) i x) f) (zob (mwrL M k i x) g) := by
  by_cases q : i < 0 ∨ N ≤ i.toNatClampNeg
  · have e : mwrL M k i x = none := by
      unfold mwrL; rw [hk.2]; rw [if_pos q]
    rw [e]
    exact zr_none
  · have e : mwrL M k i x = some (mupL M k i.toNatClampNeg x) := by
      unfold mwrL; rw [hk.2]; rw [if_neg q]
    have e2 : zsL h (B + k) i x = some (zwr h (B + k) (.inl (3, N, .inr (.inl (vp_updL (M.2 k) i.toNatClampNeg x))))) := by
      unfold zsL
      rw [hW.1 k hk.1, zcd_3 hk]
      simp only [q, not_false_iff, and_self, if_true]
    rw [e, e2]
    refine kk _ _ (hW.set hk.1 ?_ (fun _ _ => rfl) (fun k' hk' => if_neg hk'))
    rw [zcd_3 hk]
    show _ = Sum.inl (3, N, Sum.inr (Sum.inl (if k = k then _ else _)))
    rw [if_pos rfl]
    rfl
theorem zr_ln {t N k : Nat} {f : Int32 → Option (α × zHp)} {d : Option (α' × zMem)} (ht : t < 4) (hW : zW B n h M) (hk : zIA t N k) (kk : zRG R B n (f (Int32.ofNat (zds k).2)) d) : zRG R B n (zob (zln h (B + k)) f) d := by
  have e : zln h (B + k) = some (Int32.ofNat (zds k).2) := by
    unfold zln
    rw [hW.1 k hk.1]
    rcases (show t = 0 ∨ t = 1 ∨ t = 2 ∨ t = 3 by omega) with rfl | rfl | rfl | rfl
    · rw [zcd_0 hk, hk.2]; rfl
    · rw [zcd_1 hk, hk.2]; rfl
    · rw [zcd_2 hk, hk.2]; rfl
    · rw [zcd_3 hk, hk.2]; rfl
  rw [e]
  exact kk
theorem zr_pt {i : Int32} {f : Nat → Option (α × zHp)} {g : Nat → Option (α' × zMem)} (hW : zW B n h M) (kk : ∀ q, zIS q → zRG R B n (f (B + q)) (g q)) : zRG R B n (zob (zaA 4 h (B + 93) i) f) (zob (mpt i) g) := by
  have hk : zIA 4 0 93 := ⟨by decide +kernel, by decide +kernel⟩
  by_cases q : i < 0 ∨ 6 ≤ i.toNatClampNeg
  · have e : mpt i = none := by unfold mpt; rw [if_pos q]
    rw [e]
    exact zr_none
  · have e : mpt i = some (99 + 19 * i.toNatClampNeg) := by unfold mpt; rw [if_neg q]
    have hlt : i.toNatClampNeg < 6 := Nat.not_le.mp fun z => q (Or.inr z)
    have e2 : zaA 4 h (B + 93) i = some (B + (99 + 19 * i.toNatClampNeg)) := by
      unfold zaA
      rw [hW.1 93 hk.1, zcd_4 hk]
      simp only [q, not_false_iff, and_self, if_true, hlt]
    rw [e, e2]
    refine kk _ (zis_of _ ?_)
    rcases (show i.toNatClampNeg = 0 ∨ i.toNatClampNeg = 1 ∨ i.toNatClampNeg = 2 ∨ i.toNatClampNeg = 3 ∨ i.toNatClampNeg = 4 ∨ i.toNatClampNeg = 5 by omega) with z | z | z | z | z | z <;> rw [z] <;> decide +kernel
theorem zr_rw {k : Nat} {i : Int32} {f : Nat → Option (α × zHp)} {g : Nat → Option (α' × zMem)} (hW : zW B n h M) (hk : zIA 5 0 k) (hr : ∀ j, j < 6 → zIA 0 5 (k + 1 + j)) (kk : ∀ q, zIA 0 5 q → zRG R B n (f (B + q)) (g q)) : zRG R B n (zob (zaA 5 h (B + k) i) f) (zob (mrw k i) g) := by
  by_cases q : i < 0 ∨ 6 ≤ i.toNatClampNeg
  · have e : mrw k i = none := by unfold mrw; rw [if_pos q]
    rw [e]
    exact zr_none
  · have e : mrw k i = some (k + 1 + i.toNatClampNeg) := by unfold mrw; rw [if_neg q]
    have hlt : i.toNatClampNeg < 6 := Nat.not_le.mp fun z => q (Or.inr z)
    have e2 : zaA 5 h (B + k) i = some (B + (k + 1 + i.toNatClampNeg)) := by
      unfold zaA
      rw [hW.1 k hk.1, zcd_5 hk]
      simp only [q, not_false_iff, and_self, if_true, hlt]
    rw [e, e2]
    exact kk _ (hr _ hlt)
theorem zr_cp {Na Nb a b : Nat} {sp dp m : Int32} {f : zHp → Option (α × zHp)} {g : zMem → Option (α' × zMem)} (hW : zW B n h M) (ha : zIA 0 Na a) (hb : zIA 0 Nb b) (kk : ∀ (h1 : zHp) (M1 : zMem), zW B n h1 M1 → zRG R B n (f h1) (g M1)) : zRG R B n (zob (zcp h (B + a) sp (B + b) dp m) f) (zob (mcp M a sp b dp m) g) := by
  by_cases q : ¬ sp < 0 ∧ ¬ dp < 0 ∧ ¬ m < 0 ∧ sp.toNatClampNeg + m.toNatClampNeg ≤ Na ∧ dp.toNatClampNeg + m.toNatClampNeg ≤ Nb
  · have e : mcp M a sp b dp m = some (fun k' => if k' = b then va_cpy (M.1 a) (M.1 b) sp.toNatClampNeg dp.toNatClampNeg m.toNatClampNeg else M.1 k', M.2) := by
      unfold mcp; rw [ha.2, hb.2]; rw [if_pos q]
    have e2 : zcp h (B + a) sp (B + b) dp m = some (zwr h (B + b) (.inl (0, Nb, .inl (va_cpy (M.1 a) (M.1 b) sp.toNatClampNeg dp.toNatClampNeg m.toNatClampNeg)))) := by
      unfold zcp
      rw [hW.1 a ha.1, hW.1 b hb.1, zcd_0 ha, zcd_0 hb]
      simp only [q, not_false_iff, and_self, if_true]
    rw [e, e2]
    refine kk _ _ (hW.set hb.1 ?_ (fun k' hk' => if_neg hk') (fun _ _ => rfl))
    rw [zcd_0 hb]
    show _ = Sum.inl (0, Nb, Sum.inl (if b = b then _ else _))
    rw [if_pos rfl]
  · have e : mcp M a sp b dp m = none := by
      unfold mcp; rw [ha.2, hb.2]; rw [if_neg q]
    rw [e]
    exact zr_none
theorem zr_cv {c k : Nat} {F : Option (β × zHp)} {d1 : Option (β × zMem)} {f : β → zHp → Option (α × zHp)} {g : β → zMem → Option (α' × zMem)} (hW : zW B n h M) (hk : zIO c k) (h1 : zRR B n F d1) (kk : ∀ (e : β) (h1 : zHp) (M1 : zMem), zW B n h1 M1 → zRG R B n (f e h1) (g e M1)) : zRG R B n (zbd (zcv c (B + k) h F) f) (mbd d1 g) := by
  have e : zcv c (B + k) h F = F := by
    unfold zcv
    rw [hW.1 k hk.1, zcd_o hk]
    simp only [if_true]
  rw [e]
  exact zr_bd h1 kk
theorem zr_cvA {P : Nat → Prop} {c k : Nat} {F : Option (Nat × zHp)} {d1 : Option (Nat × zMem)} {f : Nat → zHp → Option (α × zHp)} {g : Nat → zMem → Option (α' × zMem)} (hW : zW B n h M) (hk : zIO c k) (h1 : zRG (fun a b => a = B + b ∧ P b) B n F d1) (kk : ∀ (q : Nat) (h1 : zHp) (M1 : zMem), P q → zW B n h1 M1 → zRG R B n (f (B + q) h1) (g q M1)) : zRG R B n (zbd (zcv c (B + k) h F) f) (mbd d1 g) := by
  have e : zcv c (B + k) h F = F := by
    unfold zcv
    rw [hW.1 k hk.1, zcd_o hk]
    simp only [if_true]
  rw [e]
  exact zr_bdG h1 (fun a b h1 M1 hR hw => by obtain ⟨rfl, hP⟩ := hR; exact kk b h1 M1 hP hw)
def ztenc (t : Nat) : Int32 := if t = 5 then 0 else 1
theorem zt_enc {t : Nat} (h : zIT t) : ztof (ztenc t) = t := by rcases h with rfl | rfl <;> rfl
theorem zr_gT {c k j : Nat} {f : Nat → Option (α × zHp)} {g : Nat → Option (α' × zMem)} {v : Int32} (hW : zW B n h M) (hk : zIO c k) (hj : (zfl c B k (M.1 k))[j]? = some (.ref (B + ztof v))) (kk : ∀ t, zIT t → zRG R B n (f (B + t)) (g t)) : zRG R B n (zob (zgR h (B + k) c j) f) (mlt (ztof v) g) :=
  zr_gR hW hk hj (kk _ (zit_of v))
theorem zr_gB {c k j : Nat} {f : Nat → Option (α × zHp)} {g : Nat → Option (α' × zMem)} {v : Int32} (hW : zW B n h M) (hk : zIO c k) (hj : (zfl c B k (M.1 k))[j]? = some (.ref (B + zbof v))) (kk : ∀ b N, zIA 1 N b → zRG R B n (f (B + b)) (g b)) : zRG R B n (zob (zgR h (B + k) c j) f) (mlt (zbof v) g) :=
  zr_gR hW hk hj (by
    unfold zbof
    split
    · exact kk 4 0 ⟨by decide +kernel, by decide +kernel⟩
    · exact kk 1 700 ⟨by decide +kernel, by decide +kernel⟩)
theorem zio_0 : zIO 0 80 := ⟨by decide +kernel, by decide +kernel, by decide +kernel⟩
theorem zio_1 : zIO 1 92 := ⟨by decide +kernel, by decide +kernel, by decide +kernel⟩
theorem zio_3 : zIO 3 85 := ⟨by decide +kernel, by decide +kernel, by decide +kernel⟩
theorem zio_4 : zIO 4 2 := ⟨by decide +kernel, by decide +kernel, by decide +kernel⟩
theorem zio_7 : zIO 7 0 := ⟨by decide +kernel, by decide +kernel, by decide +kernel⟩
theorem zio_8 : zIO 8 213 := ⟨by decide +kernel, by decide +kernel, by decide +kernel⟩
theorem zis_42 : zIS 42 := zis_of _ (by decide +kernel)
theorem zis_61 : zIS 61 := zis_of _ (by decide +kernel)
theorem zis_99 : zIS 99 := zis_of _ (by decide +kernel)
end ZQ

/-! what holds between class and reference at every call -/
def yNs : Type := (Nat) × (Int32) × (Nat → Int32) × (Nat → Nat) × (Nat → Int32) × (Nat → Int32)
def yNs.mk (n : Nat) (kb : Int32) (hrs : Nat → Int32) (cell : Nat → Nat) (is : Nat → Int32) (st : Nat → Int32) : yNs := (n, kb, hrs, cell, is, st)
def yNs.n (S : yNs) : Nat := S.1
def yNs.kb (S : yNs) : Int32 := S.2.1
def yNs.hrs (S : yNs) : Nat → Int32 := S.2.2.1
def yNs.cell (S : yNs) : Nat → Nat := S.2.2.2.1
def yNs.is (S : yNs) : Nat → Int32 := S.2.2.2.2.1
def yNs.st (S : yNs) : Nat → Int32 := S.2.2.2.2.2
def yNs.w_n (S : yNs) (v : Nat) : yNs := (v, S.2.1, S.2.2.1, S.2.2.2.1, S.2.2.2.2.1, S.2.2.2.2.2)
def yNs.w_kb (S : yNs) (v : Int32) : yNs := (S.1, v, S.2.2.1, S.2.2.2.1, S.2.2.2.2.1, S.2.2.2.2.2)
def yNs.w_hrs (S : yNs) (v : Nat → Int32) : yNs := (S.1, S.2.1, v, S.2.2.2.1, S.2.2.2.2.1, S.2.2.2.2.2)
def yNs.w_cell (S : yNs) (v : Nat → Nat) : yNs := (S.1, S.2.1, S.2.2.1, v, S.2.2.2.2.1, S.2.2.2.2.2)
def yNs.w_is (S : yNs) (v : Nat → Int32) : yNs := (S.1, S.2.1, S.2.2.1, S.2.2.2.1, v, S.2.2.2.2.2)
def yNs.w_st (S : yNs) (v : Nat → Int32) : yNs := (S.1, S.2.1, S.2.2.1, S.2.2.2.1, S.2.2.2.2.1, v)
def yNot (M : zMem) (N : yNs) : Prop :=
  (N.n ≤ 24) ∧
  (N.kb = -1 ∨ ∃ j, j ≤ N.n ∧ N.kb = Int32.ofNat j) ∧
  (∀ k, k < N.n → N.st k = -1 ∨ ∃ j, j < k ∧ N.st k = Int32.ofNat j) ∧
  (∀ k, k < N.n → N.cell k < 24) ∧
  (∀ k, k < N.n → N.is k = 0 ∨ N.is k = 1) ∧
  (∀ k, k < N.n → ∃ j, j ≤ 40 ∧ N.hrs k = Int32.ofNat j) ∧
  (M.1 85 6 = Int32.ofNat N.n) ∧
  (M.1 85 7 = N.kb) ∧
  (M.1 213 61 = Int32.ofNat N.n) ∧
  (M.1 213 62 = N.kb) ∧
  (∀ k, k < N.n → M.1 90 k = N.st k) ∧
  (∀ k, k < N.n → M.1 252 k = N.st k) ∧
  (∀ k, k < N.n → N.st k = -1 → M.1 86 k = N.hrs k) ∧
  (∀ k, k < N.n → N.st k = -1 → M.1 249 k = N.hrs k) ∧
  (∀ k, k < N.n → N.st k = -1 → M.1 87 k = Int32.ofNat (N.cell k % 6)) ∧
  (∀ k, k < N.n → N.st k = -1 → M.1 88 k = Int32.ofNat (N.cell k / 6)) ∧
  (∀ k, k < N.n → N.st k = -1 → M.1 250 k = Int32.ofNat (N.cell k)) ∧
  (∀ k, k < N.n → N.st k = -1 → M.1 89 k = N.is k) ∧
  (∀ k, k < N.n → N.st k = -1 → M.1 251 k = N.is k)
theorem yNot.le {M : zMem} {N : yNs} (h : yNot M N) : N.n ≤ 24 := h.1
theorem yNot.kb {M : zMem} {N : yNs} (h : yNot M N) : N.kb = -1 ∨ ∃ j, j ≤ N.n ∧ N.kb = Int32.ofNat j := h.2.1
theorem yNot.st {M : zMem} {N : yNs} (h : yNot M N) : ∀ k, k < N.n → N.st k = -1 ∨ ∃ j, j < k ∧ N.st k = Int32.ofNat j := h.2.2.1
theorem yNot.cell {M : zMem} {N : yNs} (h : yNot M N) : ∀ k, k < N.n → N.cell k < 24 := h.2.2.2.1
theorem yNot.is {M : zMem} {N : yNs} (h : yNot M N) : ∀ k, k < N.n → N.is k = 0 ∨ N.is k = 1 := h.2.2.2.2.1
theorem yNot.hrs {M : zMem} {N : yNs} (h : yNot M N) : ∀ k, k < N.n → ∃ j, j ≤ 40 ∧ N.hrs k = Int32.ofNat j := h.2.2.2.2.2.1
theorem yNot.c1 {M : zMem} {N : yNs} (h : yNot M N) : M.1 85 6 = Int32.ofNat N.n := h.2.2.2.2.2.2.1
theorem yNot.c2 {M : zMem} {N : yNs} (h : yNot M N) : M.1 85 7 = N.kb := h.2.2.2.2.2.2.2.1
theorem yNot.r1 {M : zMem} {N : yNs} (h : yNot M N) : M.1 213 61 = Int32.ofNat N.n := h.2.2.2.2.2.2.2.2.1
theorem yNot.r2 {M : zMem} {N : yNs} (h : yNot M N) : M.1 213 62 = N.kb := h.2.2.2.2.2.2.2.2.2.1
theorem yNot.cs {M : zMem} {N : yNs} (h : yNot M N) : ∀ k, k < N.n → M.1 90 k = N.st k := h.2.2.2.2.2.2.2.2.2.2.1
theorem yNot.rs {M : zMem} {N : yNs} (h : yNot M N) : ∀ k, k < N.n → M.1 252 k = N.st k := h.2.2.2.2.2.2.2.2.2.2.2.1
theorem yNot.ch {M : zMem} {N : yNs} (h : yNot M N) : ∀ k, k < N.n → N.st k = -1 → M.1 86 k = N.hrs k := h.2.2.2.2.2.2.2.2.2.2.2.2.1
theorem yNot.rh {M : zMem} {N : yNs} (h : yNot M N) : ∀ k, k < N.n → N.st k = -1 → M.1 249 k = N.hrs k := h.2.2.2.2.2.2.2.2.2.2.2.2.2.1
theorem yNot.cx {M : zMem} {N : yNs} (h : yNot M N) : ∀ k, k < N.n → N.st k = -1 → M.1 87 k = Int32.ofNat (N.cell k % 6) := h.2.2.2.2.2.2.2.2.2.2.2.2.2.2.1
theorem yNot.cy {M : zMem} {N : yNs} (h : yNot M N) : ∀ k, k < N.n → N.st k = -1 → M.1 88 k = Int32.ofNat (N.cell k / 6) := h.2.2.2.2.2.2.2.2.2.2.2.2.2.2.2.1
theorem yNot.rc {M : zMem} {N : yNs} (h : yNot M N) : ∀ k, k < N.n → N.st k = -1 → M.1 250 k = Int32.ofNat (N.cell k) := h.2.2.2.2.2.2.2.2.2.2.2.2.2.2.2.2.1
theorem yNot.ci {M : zMem} {N : yNs} (h : yNot M N) : ∀ k, k < N.n → N.st k = -1 → M.1 89 k = N.is k := h.2.2.2.2.2.2.2.2.2.2.2.2.2.2.2.2.2.1
theorem yNot.ri {M : zMem} {N : yNs} (h : yNot M N) : ∀ k, k < N.n → N.st k = -1 → M.1 251 k = N.is k := h.2.2.2.2.2.2.2.2.2.2.2.2.2.2.2.2.2.2
/-- how large clouds are, and how much fields got -/
def yBd (T : yT) (S : yA) : Prop :=
  (∀ c, c < T.nc → ∃ k, 1 ≤ k ∧ k ≤ 9 ∧ T.bsize c = Int32.ofNat k) ∧
  (∀ c, c < T.nc → ∃ k, k ≤ 20 ∧ S.size c = Int32.ofNat k ∧ (S.state c ≠ 4 → 1 ≤ k)) ∧
  (∀ f, f < T.nf → ∃ g, g ≤ 160 * S.hour ∧ S.got f = Int32.ofNat g)
theorem yBd.cong {T : yT} {S S' : yA} (h : yBd T S) (e1 : S'.size = S.size) (e2 : S'.got = S.got) (e3 : S'.hour = S.hour) (e4 : ∀ c, c < T.nc → S'.state c ≠ 4 → S.state c ≠ 4) : yBd T S' := by
  refine ⟨h.1, fun c hc => ?_, ?_⟩
  · obtain ⟨k, k1, k2, k3⟩ := h.2.1 c hc
    exact ⟨k, k1, by rw [e1]; exact k2, fun z => k3 (e4 c hc z)⟩
  · rw [e2, e3]; exact h.2.2
/-- the deed k leads from A to A' -/
def yDeed (M : zMem) (T : yT) (k : Nat) (A A' : yA) : Prop :=
  (∃ c q, c < T.nc ∧ q < 24 ∧ M.1 81 k = 0 ∧ M.1 82 k = Int32.ofNat c ∧ M.1 83 k = Int32.ofNat (q % 6) ∧ M.1 84 k = Int32.ofNat (q / 6) ∧ A = (yA.w_state (yA.w_cell A' (yu A'.cell c q)) (yu A'.state c 1))) ∨
  (∃ c v, c < T.nc ∧ (v = -1 ∨ ∃ h, h < T.nh ∧ v = Int32.ofNat h) ∧ M.1 81 k = 1 ∧ M.1 82 k = Int32.ofNat c ∧ M.1 83 k = v ∧ A = (yA.w_owner A' (yu A'.owner c v))) ∨
  (∃ h q, h < T.nh ∧ q < 24 ∧ M.1 81 k = 2 ∧ M.1 82 k = Int32.ofNat h ∧ M.1 83 k = Int32.ofNat (q % 6) ∧ M.1 84 k = Int32.ofNat (q / 6) ∧ A = (yA.w_pos A' (yu A'.pos h q))) ∨
  (∃ v, M.1 81 k = 3 ∧ M.1 83 k = v ∧ A = (yA.w_blown A' (v)))
def yUnd (M : zMem) (T : yT) (S : yA) (n : Nat) (B : Nat → yA) : Prop :=
  (n ≤ 20) ∧
  (B n = S) ∧
  (M.1 80 4 = Int32.ofNat n) ∧
  (M.1 213 48 = Int32.ofNat n) ∧
  (∀ k, k < n → yRS M (3 + k) 0 T (B k)) ∧
  (∀ k, k < n → yDeed M T k (B k) (B (k + 1))) ∧
  (∀ k, k < n → yBd T (B k))
theorem yUnd.le {M : zMem} {T : yT} {S : yA} {n : Nat} {B : Nat → yA} (h : yUnd M T S n B) : n ≤ 20 := h.1
theorem yUnd.top {M : zMem} {T : yT} {S : yA} {n : Nat} {B : Nat → yA} (h : yUnd M T S n B) : B n = S := h.2.1
theorem yUnd.c1 {M : zMem} {T : yT} {S : yA} {n : Nat} {B : Nat → yA} (h : yUnd M T S n B) : M.1 80 4 = Int32.ofNat n := h.2.2.1
theorem yUnd.r1 {M : zMem} {T : yT} {S : yA} {n : Nat} {B : Nat → yA} (h : yUnd M T S n B) : M.1 213 48 = Int32.ofNat n := h.2.2.2.1
theorem yUnd.sl {M : zMem} {T : yT} {S : yA} {n : Nat} {B : Nat → yA} (h : yUnd M T S n B) : ∀ k, k < n → yRS M (3 + k) 0 T (B k) := h.2.2.2.2.1
theorem yUnd.deed {M : zMem} {T : yT} {S : yA} {n : Nat} {B : Nat → yA} (h : yUnd M T S n B) : ∀ k, k < n → yDeed M T k (B k) (B (k + 1)) := h.2.2.2.2.2.1
theorem yUnd.bd {M : zMem} {T : yT} {S : yA} {n : Nat} {B : Nat → yA} (h : yUnd M T S n B) : ∀ k, k < n → yBd T (B k) := h.2.2.2.2.2.2
def yImg (M : zMem) (t : Nat) (T : yT) : Prop :=
  (M.1 0 6 = M.1 213 47) ∧
  (M.1 0 6 = 0 ∨ (M.1 0 6 = 1 ∧ ∃ SI, yCS M 61 t 0 T SI ∧ yRS M 2 0 T SI ∧ SI.hour ≤ 999 ∧ yBd T SI))
theorem yImg.eq {M : zMem} {t : Nat} {T : yT} (h : yImg M t T) : M.1 0 6 = M.1 213 47 := h.1
theorem yImg.cs {M : zMem} {t : Nat} {T : yT} (h : yImg M t T) : M.1 0 6 = 0 ∨ (M.1 0 6 = 1 ∧ ∃ SI, yCS M 61 t 0 T SI ∧ yRS M 2 0 T SI ∧ SI.hour ≤ 999 ∧ yBd T SI) := h.2
def yTap (M : zMem) (n : Nat) : Prop :=
  (n ≤ 700) ∧
  (M.1 0 1 = Int32.ofNat n) ∧
  (M.1 213 2 = Int32.ofNat n) ∧
  (∀ i, i < n → ∃ b, b < 256 ∧ M.1 214 i = Int32.ofNat b ∧ M.1 1 i = vp_nar .byte (Int32.ofNat b))
theorem yTap.le {M : zMem} {n : Nat} (h : yTap M n) : n ≤ 700 := h.1
theorem yTap.c1 {M : zMem} {n : Nat} (h : yTap M n) : M.1 0 1 = Int32.ofNat n := h.2.1
theorem yTap.r1 {M : zMem} {n : Nat} (h : yTap M n) : M.1 213 2 = Int32.ofNat n := h.2.2.1
theorem yTap.bt {M : zMem} {n : Nat} (h : yTap M n) : ∀ i, i < n → ∃ b, b < 256 ∧ M.1 214 i = Int32.ofNat b ∧ M.1 1 i = vp_nar .byte (Int32.ofNat b) := h.2.2.2
def yRdr (M : zMem) (t : Nat) (W : Nat → Int32) : Prop :=
  (M.1 2 14 = M.1 213 29) ∧
  (M.1 2 15 = M.1 213 30) ∧
  (ztof (M.1 2 10) ≠ t) ∧
  (∀ i, i < 23 → M.1 3 i = W i)
theorem yRdr.f {M : zMem} {t : Nat} {W : Nat → Int32} (h : yRdr M t W) : M.1 2 14 = M.1 213 29 := h.1
theorem yRdr.p {M : zMem} {t : Nat} {W : Nat → Int32} (h : yRdr M t W) : M.1 2 15 = M.1 213 30 := h.2.1
theorem yRdr.o {M : zMem} {t : Nat} {W : Nat → Int32} (h : yRdr M t W) : ztof (M.1 2 10) ≠ t := h.2.2.1
theorem yRdr.w {M : zMem} {t : Nat} {W : Nat → Int32} (h : yRdr M t W) : ∀ i, i < 23 → M.1 3 i = W i := h.2.2.2
def yMis (M : zMem) : Prop :=
  (M.1 213 49 = 0) ∧
  (M.1 213 50 = -1) ∧
  (M.1 213 51 = -1) ∧
  (M.1 213 52 = -1)
theorem yMis.a {M : zMem} (h : yMis M) : M.1 213 49 = 0 := h.1
theorem yMis.b {M : zMem} (h : yMis M) : M.1 213 50 = -1 := h.2.1
theorem yMis.c {M : zMem} (h : yMis M) : M.1 213 51 = -1 := h.2.2.1
theorem yMis.d {M : zMem} (h : yMis M) : M.1 213 52 = -1 := h.2.2.2
def yI (W : Nat → Int32) (M : zMem) (t : Nat) (T : yT) (S : yA) : Prop :=
  (yCS M 42 t 0 T S) ∧
  (yRS M 0 0 T S) ∧
  (S.hour ≤ 999) ∧
  (ztof (M.1 0 3) = t) ∧
  (yImg M t T) ∧
  (∃ n B, yUnd M T S n B) ∧
  (∃ N, yNot M N) ∧
  (∃ n, yTap M n) ∧
  (yRdr M t W) ∧
  (yMis M) ∧
  (yBd T S)
theorem yI.cs {W : Nat → Int32} {M : zMem} {t : Nat} {T : yT} {S : yA} (h : yI W M t T S) : yCS M 42 t 0 T S := h.1
theorem yI.rs {W : Nat → Int32} {M : zMem} {t : Nat} {T : yT} {S : yA} (h : yI W M t T S) : yRS M 0 0 T S := h.2.1
theorem yI.hr {W : Nat → Int32} {M : zMem} {t : Nat} {T : yT} {S : yA} (h : yI W M t T S) : S.hour ≤ 999 := h.2.2.1
theorem yI.tp {W : Nat → Int32} {M : zMem} {t : Nat} {T : yT} {S : yA} (h : yI W M t T S) : ztof (M.1 0 3) = t := h.2.2.2.1
theorem yI.img {W : Nat → Int32} {M : zMem} {t : Nat} {T : yT} {S : yA} (h : yI W M t T S) : yImg M t T := h.2.2.2.2.1
theorem yI.und {W : Nat → Int32} {M : zMem} {t : Nat} {T : yT} {S : yA} (h : yI W M t T S) : ∃ n B, yUnd M T S n B := h.2.2.2.2.2.1
theorem yI.no {W : Nat → Int32} {M : zMem} {t : Nat} {T : yT} {S : yA} (h : yI W M t T S) : ∃ N, yNot M N := h.2.2.2.2.2.2.1
theorem yI.tap {W : Nat → Int32} {M : zMem} {t : Nat} {T : yT} {S : yA} (h : yI W M t T S) : ∃ n, yTap M n := h.2.2.2.2.2.2.2.1
theorem yI.rd {W : Nat → Int32} {M : zMem} {t : Nat} {T : yT} {S : yA} (h : yI W M t T S) : yRdr M t W := h.2.2.2.2.2.2.2.2.1
theorem yI.mis {W : Nat → Int32} {M : zMem} {t : Nat} {T : yT} {S : yA} (h : yI W M t T S) : yMis M := h.2.2.2.2.2.2.2.2.2.1
theorem yI.bd {W : Nat → Int32} {M : zMem} {t : Nat} {T : yT} {S : yA} (h : yI W M t T S) : yBd T S := h.2.2.2.2.2.2.2.2.2.2
/-- what may change with no one seeing it -/
def ySc (k i : Nat) : Prop := k = 60 ∨ k = 79 ∨ k = 91 ∨ (92 ≤ k ∧ k < 213) ∨ (k = 213 ∧ (i = 0 ∨ i = 35 ∨ i = 53 ∨ i = 55 ∨ i = 57 ∨ i = 58)) ∨ (k ≠ 213 ∧ yTR 1 k i) ∨ (245 ≤ k ∧ k ≤ 248) ∨ 253 ≤ k
theorem yNot.keep {M M' : zMem} {N : yNs} {P : Nat → Nat → Prop} (h : yNot M N) (f : zfr P M M') (h1 : ∀ k i, 85 ≤ k → k ≤ 90 → ¬ P k i) (h2 : ∀ k i, 249 ≤ k → k ≤ 252 → ¬ P k i) (h3 : ¬ P 213 61) (h4 : ¬ P 213 62) : yNot M' N :=
  ⟨h.le, h.kb, h.st, h.cell, h.is, h.hrs, (f _ _ (h1 _ _ (by decide) (by decide))).trans h.c1, (f _ _ (h1 _ _ (by decide) (by decide))).trans h.c2, (f _ _ h3).trans h.r1, (f _ _ h4).trans h.r2,
   fun k hk => (f _ _ (h1 _ _ (by decide) (by decide))).trans (h.cs k hk), fun k hk => (f _ _ (h2 _ _ (by decide) (by decide))).trans (h.rs k hk),
   fun k hk z => (f _ _ (h1 _ _ (by decide) (by decide))).trans (h.ch k hk z), fun k hk z => (f _ _ (h2 _ _ (by decide) (by decide))).trans (h.rh k hk z),
   fun k hk z => (f _ _ (h1 _ _ (by decide) (by decide))).trans (h.cx k hk z), fun k hk z => (f _ _ (h1 _ _ (by decide) (by decide))).trans (h.cy k hk z), fun k hk z => (f _ _ (h2 _ _ (by decide) (by decide))).trans (h.rc k hk z),
   fun k hk z => (f _ _ (h1 _ _ (by decide) (by decide))).trans (h.ci k hk z), fun k hk z => (f _ _ (h2 _ _ (by decide) (by decide))).trans (h.ri k hk z)⟩
theorem yDeed.keep {M M' : zMem} {T : yT} {k : Nat} {A A' : yA} (h : yDeed M T k A A') (f : ∀ q, 81 ≤ q → q ≤ 84 → M'.1 q k = M.1 q k) : yDeed M' T k A A' := by
  unfold yDeed at h ⊢
  rw [f 81 (by decide) (by decide), f 82 (by decide) (by decide), f 83 (by decide) (by decide), f 84 (by decide) (by decide)]
  exact h
/-- a sky of the reference that lies apart from what changes -/
theorem yRS.keep2 {M M' : zMem} {sl : Nat} {o : Int32} {T : yT} {S : yA} {P : Nat → Nat → Prop} (h : yRS M sl o T S) (f : zfr P M M') (h1 : ¬ P 213 49) (h2 : ¬ P 213 50) (h3 : ∀ k i, 215 ≤ k → k < 232 → ¬ P k i) (h4 : ∀ k i, k ≠ 213 → yTR sl k i → ¬ P k i) : yRS M' sl o T S := h.keep f h1 h2 h3 h4
theorem yUnd.keep {M M' : zMem} {T : yT} {S : yA} {n : Nat} {B : Nat → yA} {P : Nat → Nat → Prop} (h : yUnd M T S n B) (f : zfr P M M') (h0 : ∀ k i, 80 ≤ k → k ≤ 84 → ¬ P k i) (h48 : ¬ P 213 48) (h1 : ¬ P 213 49) (h2 : ¬ P 213 50) (h3 : ∀ k i, 215 ≤ k → k < 232 → ¬ P k i) (h4 : ∀ sl k i, 3 ≤ sl → k ≠ 213 → yTR sl k i → ¬ P k i) : yUnd M' T S n B :=
  ⟨h.le, h.top, (f _ _ (h0 _ _ (by decide) (by decide))).trans h.c1, (f _ _ h48).trans h.r1, fun k hk => (h.sl k hk).keep f h1 h2 h3 (h4 (3 + k) · · (by omega)), fun k hk => (h.deed k hk).keep (fun q q1 q2 => f _ _ (h0 _ _ (by omega) q2)), h.bd⟩
theorem yImg.keep {M M' : zMem} {t : Nat} {T : yT} {P : Nat → Nat → Prop} (h : yImg M t T) (f : zfr P M M') (h0 : ¬ P 0 6) (h47 : ¬ P 213 47) (h5 : ∀ k i, k < 42 ∨ (61 ≤ k ∧ k < 79) → ¬ P k i) (h1 : ¬ P 213 49) (h2 : ¬ P 213 50) (h3 : ∀ k i, 215 ≤ k → k < 232 → ¬ P k i) (h4 : ∀ k i, k ≠ 213 → yTR 2 k i → ¬ P k i) : yImg M' t T := by
  refine ⟨?_, ?_⟩
  · rw [f _ _ h0, f _ _ h47]; exact h.eq
  · rw [f _ _ h0]
    rcases h.cs with e | ⟨e, SI, a, b, c⟩
    · exact Or.inl e
    · exact Or.inr ⟨e, SI, a.keep f h5, b.keep f h1 h2 h3 h4, c⟩
theorem yTap.keep {M M' : zMem} {n : Nat} {P : Nat → Nat → Prop} (h : yTap M n) (f : zfr P M M') (h0 : ¬ P 0 1) (h2 : ¬ P 213 2) (h3 : ∀ i, ¬ P 1 i) (h4 : ∀ i, ¬ P 214 i) : yTap M' n :=
  ⟨h.le, (f _ _ h0).trans h.c1, (f _ _ h2).trans h.r1, fun i hi => by rw [f _ _ (h3 i), f _ _ (h4 i)]; exact h.bt i hi⟩
theorem yRdr.keep {M M' : zMem} {t : Nat} {W : Nat → Int32} {P : Nat → Nat → Prop} (h : yRdr M t W) (f : zfr P M M') (h0 : ∀ i, i = 10 ∨ i = 14 ∨ i = 15 → ¬ P 2 i) (h1 : ¬ P 213 29) (h2 : ¬ P 213 30) (h3 : ∀ i, ¬ P 3 i) : yRdr M' t W :=
  ⟨by rw [f _ _ (h0 14 (by omega)), f _ _ h1]; exact h.f, by rw [f _ _ (h0 15 (by omega)), f _ _ h2]; exact h.p, by rw [f _ _ (h0 10 (by omega))]; exact h.o, fun i hi => by rw [f _ _ (h3 i)]; exact h.w i hi⟩
theorem yMis.keep {M M' : zMem} {P : Nat → Nat → Prop} (h : yMis M) (f : zfr P M M') (h1 : ¬ P 213 49) (h2 : ¬ P 213 50) (h3 : ¬ P 213 51) (h4 : ¬ P 213 52) : yMis M' :=
  ⟨(f _ _ h1).trans h.a, (f _ _ h2).trans h.b, (f _ _ h3).trans h.c, (f _ _ h4).trans h.d⟩
theorem yI.keep {W : Nat → Int32} {M M' : zMem} {t : Nat} {T : yT} {S : yA} (h : yI W M t T S) (f : zfr ySc M M') : yI W M' t T S := by
  obtain ⟨n, B, u⟩ := h.und
  obtain ⟨N, no⟩ := h.no
  obtain ⟨m, tap⟩ := h.tap
  refine ⟨h.cs.keep f (by intro k i hk hp; unfold ySc yTR at hp; omega), h.rs.keep f (by unfold ySc yTR; omega) (by unfold ySc yTR; omega) (by unfold ySc yTR; omega) (by unfold ySc yTR; omega), h.hr, ?_, h.img.keep f (by unfold ySc yTR; omega) (by unfold ySc yTR; omega) (by intro k i hk hp; unfold ySc yTR at hp; omega) (by unfold ySc yTR; omega) (by unfold ySc yTR; omega) (by unfold ySc yTR; omega) (by unfold ySc yTR; omega), ⟨n, B, u.keep f (by unfold ySc yTR; omega) (by unfold ySc yTR; omega) (by unfold ySc yTR; omega) (by unfold ySc yTR; omega) (by unfold ySc yTR; omega) (by unfold ySc yTR; omega)⟩, ⟨N, no.keep f (by unfold ySc yTR; omega) (by unfold ySc yTR; omega) (by unfold ySc yTR; omega) (by unfold ySc yTR; omega)⟩, ⟨m, tap.keep f (by unfold ySc yTR; omega) (by unfold ySc yTR; omega) (by unfold ySc yTR; omega) (by unfold ySc yTR; omega)⟩, h.rd.keep f (by unfold ySc yTR; omega) (by unfold ySc yTR; omega) (by unfold ySc yTR; omega) (by unfold ySc yTR; omega), h.mis.keep f (by unfold ySc yTR; omega) (by unfold ySc yTR; omega) (by unfold ySc yTR; omega) (by unfold ySc yTR; omega), h.bd⟩
  rw [f 0 3 (by unfold ySc yTR; omega)]; exact h.tp
/-- a case of the law: it is passed, and what holds holds on -/
def yCase (W : Nat → Int32) (c : Option ((Unit ⊕ Int32) × zMem)) : Prop := zwp c (fun r M' => r = .inl () ∧ ∃ t T S, yI W M' t T S)

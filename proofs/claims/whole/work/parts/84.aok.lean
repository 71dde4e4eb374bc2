/-! what lines keep of a told -/
def yTi (T : yT) : Prop := yTok T ∧ (∀ c, c < T.nc → ∃ m, 1 ≤ m ∧ m ≤ 9 ∧ T.bsize c = Int32.ofNat m) ∧ ∀ c, c < 24 → T.ground c = 0 ∨ T.ground c = 1 ∨ T.ground c = 2
def yLk (T T' : yT) : Prop := yTi T' ∧ T'.knots = T.knots ∧ T'.law = T.law
theorem acell_inr {b : Nat → Nat} {n p c q p' : Nat} (h : acell b n p = .inr (c, q, p')) : c < 24 := by
  unfold acell at h
  cases e : anum b n 0 5 p with
  | inl f => rw [e] at h; cases h
  | inr x =>
    obtain ⟨x, p1⟩ := x
    rw [e] at h
    simp only at h
    cases e2 : anum b n 0 3 p1 with
    | inl f => rw [e2] at h; cases h
    | inr y =>
      obtain ⟨y, p2⟩ := y
      rw [e2] at h
      have a1 := anum_inr e
      have a2 := anum_inr e2
      cases h
      omega
section
variable {b : Nat → Nat} {n p p' : Nat} {T T' : yT}
theorem yTi.addF (h : yTi T) (hc : T.nf < 5) {v w : Int32} {c : Nat} (h24 : c < 24) : yLk T (T.addF v c w) := by
  obtain ⟨⟨a1, a2, a3, a4, a5, a6, a7, a8, a9⟩, hb⟩ := h
  refine ⟨⟨⟨a1, a2, (by show T.nf + 1 ≤ 5; omega), a4, ?_, a6, a7, a8, a9⟩, hb⟩, rfl, rfl⟩
  intro i hi
  have hi : i < T.nf + 1 := hi
  show yust T.fcell T.nf c i < 24
  by_cases z : i = T.nf
  · rw [z, yust_on]; exact h24
  · rw [yust_off z]; exact a5 i (by omega)
theorem yTi.addH (h : yTi T) (hc : T.nh < 6) {v w : Int32} {c : Nat} (h24 : c < 24) : yLk T (T.addH v c w) := by
  obtain ⟨⟨a1, a2, a3, a4, a5, a6, a7, a8, a9⟩, hb⟩ := h
  refine ⟨⟨⟨a1, (by show T.nh + 1 ≤ 6; omega), a3, a4, a5, a6, ?_, a8, a9⟩, hb⟩, rfl, rfl⟩
  intro i hi
  have hi : i < T.nh + 1 := hi
  show yust T.hcell T.nh c i < 24
  by_cases z : i = T.nh
  · rw [z, yust_on]; exact h24
  · rw [yust_off z]; exact a7 i (by omega)
theorem yTi.addC (h : yTi T) (hc : T.nc < 8) {v w : Int32} {c m : Nat} (h24 : c < 24) (m1 : 1 ≤ m) (m9 : m ≤ 9) : yLk T (T.addC v c (Int32.ofNat m) w) := by
  obtain ⟨⟨a1, a2, a3, a4, a5, a6, a7, a8, a9⟩, hb⟩ := h
  refine ⟨⟨⟨(by show T.nc + 1 ≤ 8; omega), a2, a3, a4, a5, ?_, a7, a8, a9⟩, ?_, hb.2⟩, rfl, rfl⟩
  · intro i hi
    have hi : i < T.nc + 1 := hi
    show yust T.ccell T.nc c i < 24
    by_cases z : i = T.nc
    · rw [z, yust_on]; exact h24
    · rw [yust_off z]; exact a6 i (by omega)
  · intro i hi
    have hi : i < T.nc + 1 := hi
    show ∃ m', 1 ≤ m' ∧ m' ≤ 9 ∧ yust T.bsize T.nc (Int32.ofNat m) i = Int32.ofNat m'
    by_cases z : i = T.nc
    · rw [z, yust_on]; exact ⟨m, m1, m9, rfl⟩
    · rw [yust_off z]; exact hb.1 i (by omega)
theorem yTi.addW (h : yTi T) (hc : T.nw < 12) {v : Int32} : yLk T (T.addW v) := by
  obtain ⟨⟨a1, a2, a3, a4, a5, a6, a7, a8, a9⟩, hb⟩ := h
  exact ⟨⟨⟨a1, a2, a3, (by show T.nw + 1 ≤ 12; omega), a5, a6, a7, a8, a9⟩, hb⟩, rfl, rfl⟩
theorem yTi.setR (h : yTi T) {v : Int32} : yLk T (T.setR v) := by
  obtain ⟨⟨a1, a2, a3, a4, a5, a6, a7, a8, a9⟩, hb⟩ := h
  exact ⟨⟨⟨a1, a2, a3, a4, a5, a6, a7, a8, a9⟩, hb⟩, rfl, rfl⟩
theorem yTi.setG (h : yTi T) {c : Nat} {v : Int32} (hv : v = 1 ∨ v = 2) : yLk T (T.setG c v) := by
  obtain ⟨⟨a1, a2, a3, a4, a5, a6, a7, a8, a9⟩, hb, hg⟩ := h
  refine ⟨⟨⟨a1, a2, a3, a4, a5, a6, a7, a8, a9⟩, hb, fun i hi => ?_⟩, rfl, rfl⟩
  show yust T.ground c v i = 0 ∨ yust T.ground c v i = 1 ∨ yust T.ground c v i = 2
  by_cases z : i = c
  · rw [z, yust_on]; exact Or.inr hv
  · rw [yust_off z]; exact hg i hi
theorem yTi.setM (h : yTi T) {m : Nat} (m1 : 1 ≤ m) (m9 : m ≤ 9) : yLk T (T.setM (Int32.ofNat m)) := by
  obtain ⟨⟨a1, a2, a3, a4, a5, a6, a7, a8, a9⟩, hb⟩ := h
  exact ⟨⟨⟨a1, a2, a3, a4, a5, a6, a7, a8, ⟨m, m1, m9, rfl⟩⟩, hb⟩, rfl, rfl⟩
theorem yTi.addL (h : yTi T) {k kn : Nat} {l : List yK} (hl : ywf l 0) : yTi (T.addL k l kn) := by
  obtain ⟨⟨a1, a2, a3, a4, a5, a6, a7, a8, a9⟩, hb⟩ := h
  refine ⟨⟨a1, a2, a3, a4, a5, a6, a7, ?_, a9⟩, hb⟩
  intro i hi
  show yust T.law k l i = [] ∨ ywf (yust T.law k l i) 0
  by_cases z : i = k
  · rw [z, yust_on]; exact Or.inr hl
  · rw [yust_off z]; exact a8 i hi
theorem afield_ok (h : yTi T) (e : afield b n T p = .inr (p', T')) : yLk T T' := by
  unfold afield at e
  by_cases z : 5 ≤ T.nf
  · rw [if_pos z] at e; cases e
  · rw [if_neg z] at e
    cases e1 : aname b n T.fname T.nf (ynx b n p) with
    | inl f => rw [e1] at e; cases e
    | inr x =>
      obtain ⟨x, p1⟩ := x
      rw [e1] at e
      simp only at e
      cases e2 : acell b n p1 with
      | inl f => rw [e2] at e; cases e
      | inr y =>
        obtain ⟨c, q, p2⟩ := y
        rw [e2] at e
        simp only at e
        cases e3 : anum b n 0 99 p2 with
        | inl f => rw [e3] at e; cases e
        | inr y =>
          obtain ⟨d, p3⟩ := y
          rw [e3] at e
          cases e
          exact h.addF (by omega) (acell_inr e2)
theorem achild_ok (h : yTi T) (e : achild b n T p = .inr (p', T')) : yLk T T' := by
  unfold achild at e
  by_cases z : 6 ≤ T.nh
  · rw [if_pos z] at e; cases e
  · rw [if_neg z] at e
    cases e1 : aname b n T.hname T.nh (ynx b n p) with
    | inl f => rw [e1] at e; cases e
    | inr x =>
      obtain ⟨x, p1⟩ := x
      rw [e1] at e
      simp only at e
      cases e2 : acell b n p1 with
      | inl f => rw [e2] at e; cases e
      | inr y =>
        obtain ⟨c, q, p2⟩ := y
        rw [e2] at e
        simp only at e
        cases e3 : anum b n 0 9 p2 with
        | inl f => rw [e3] at e; cases e
        | inr y =>
          obtain ⟨d, p3⟩ := y
          rw [e3] at e
          cases e
          exact h.addH (by omega) (acell_inr e2)
theorem acloud_ok (h : yTi T) (e : acloud b n T p = .inr (p', T')) : yLk T T' := by
  unfold acloud at e
  by_cases z : 8 ≤ T.nc
  · rw [if_pos z] at e; cases e
  · rw [if_neg z] at e
    cases e1 : aname b n T.cname T.nc (ynx b n p) with
    | inl f => rw [e1] at e; cases e
    | inr x =>
      obtain ⟨x, p1⟩ := x
      rw [e1] at e
      simp only at e
      cases e2 : acell b n p1 with
      | inl f => rw [e2] at e; cases e
      | inr y =>
        obtain ⟨c, q, p2⟩ := y
        rw [e2] at e
        simp only at e
        cases e3 : anum b n 1 9 p2 with
        | inl f => rw [e3] at e; cases e
        | inr y =>
          obtain ⟨d, p3⟩ := y
          rw [e3] at e
          simp only at e
          cases e4 : anum b n 0 99 p3 with
          | inl f => rw [e4] at e; cases e
          | inr y =>
            obtain ⟨d2, p4⟩ := y
            rw [e4] at e
            have a := anum_inr e3
            cases e
            exact h.addC (by omega) (acell_inr e2) a.1 a.2.1
theorem awind_ok (h : yTi T) (e : awind b n T p = .inr (p', T')) : yLk T T' := by
  unfold awind at e
  by_cases z : 12 ≤ T.nw
  · rw [if_pos z] at e; cases e
  · rw [if_neg z] at e
    cases e3 : anum b n 0 4 (ynx b n p) with
    | inl f => rw [e3] at e; cases e
    | inr y =>
      obtain ⟨d, p3⟩ := y
      rw [e3] at e
      cases e
      exact h.addW (by omega)
theorem aground_ok (h : yTi T) {v : Int32} (hv : v = 1 ∨ v = 2) (e : aground b n T v p = .inr (p', T')) : yLk T T' := by
  unfold aground at e
  cases e2 : acell b n (ynx b n p) with
  | inl f => rw [e2] at e; cases e
  | inr y =>
    obtain ⟨c, q, p2⟩ := y
    rw [e2] at e
    simp only at e
    by_cases z : T.ground c = 0
    · rw [if_pos z] at e
      cases e
      exact h.setG hv
    · rw [if_neg z] at e; cases e
theorem aonce_ok {u k lo hi : Nat} {F : Int32 → yT} (hF : ∀ d, lo ≤ d → d ≤ hi → yLk T (F (Int32.ofNat d))) (e : aonce b n u k lo hi F p = .inr (p', T')) : yLk T T' := by
  unfold aonce at e
  by_cases z : u.testBit k = true
  · rw [if_pos z] at e; cases e
  · rw [if_neg z] at e
    cases e3 : anum b n lo hi (ynx b n p) with
    | inl f => rw [e3] at e; cases e
    | inr y =>
      obtain ⟨d, p3⟩ := y
      rw [e3] at e
      have a := anum_inr e3
      cases e
      exact hF d a.1 a.2.1
end

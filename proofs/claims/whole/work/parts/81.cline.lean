/-! the class's lines of field, cloud and child -/
def yCLn (t : Nat) (k i : Nat) : Prop := (k = 2 ∧ (3 ≤ i ∧ i ≤ 8 ∨ i = 14 ∨ i = 15)) ∨ (t ≤ k ∧ k ≤ t + 12)
section
variable {M : zMem} {b : Nat → Nat} {n t p : Nat} {f : Nat × Nat} {T : yT} {α : Type} {Q : α → zMem → Prop}
theorem c_wrf (cg : yCG M t f) {k j : Nat} {v : Int32} (hj : j < (zds k).2) (hz : (zds k).2 < 1000) (h1 : t ≤ k) (h2 : k ≤ t + 12) {g : zMem → Option (α × zMem)}
    (kk : ∀ M', yCG M' t f → zfr (yCLn t) M M' → zwp (g M') Q) : zwp (zob (mwr M k (Int32.ofNat j) v) g) Q := by
  have ib := cg.2.1.or5
  rw [mwr_of (k := k) (j := j) hj (by omega), zob_some]
  have fr : zfr (fun k' i => k' = k ∧ i = j) M (mup M k j v) := zfr_mup ⟨rfl, rfl⟩
  exact kk _ (cg.keep fr (by omega)) (zfr_weak fr (by unfold yCLn; omega))
theorem c_wrg (cb : yCB M b n t p) (ct : yCT M t T) {k j : Nat} {v : Int32} (hj : j < (zds k).2) (hz : (zds k).2 < 1000) (h1 : t ≤ k) (h2 : k ≤ t + 12) (hd : yDead t T k j) {g : zMem → Option (α × zMem)}
    (kk : ∀ M', yCB M' b n t p → yCT M' t T → M'.1 k j = v → zfr (fun k' i => k' = k ∧ i = j) M M' → zwp (g M') Q) : zwp (zob (mwr M k (Int32.ofNat j) v) g) Q := by
  have ib := cb.2.2.2.2.1.or5
  rw [mwr_of (k := k) (j := j) hj (by omega), zob_some]
  have fr : zfr (fun k' i => k' = k ∧ i = j) M (mup M k j v) := zfr_mup ⟨rfl, rfl⟩
  refine kk _ (cb.keep fr (by omega) (by rw [fr 2 14 (by omega)]; exact cb.2.2.1) ?_) (ct.keepD fr (by rintro k' i ⟨rfl, rfl⟩; exact hd)) mup_on fr
  have ck := cb.2.2.2.1
  unfold yCk
  rw [fr 2 3 (by omega), fr 2 4 (by omega), fr 2 5 (by omega), fr 2 6 (by omega), fr 2 7 (by omega)]; exact ck
theorem yCT.rd (ct : yCT M t T) {M' : zMem} {P : Nat → Nat → Prop} (fr : zfr P M M') (hP : ∀ k i, P k i → k = 2) : yCT M' t T := by
  have ib := ct.tt.or5
  exact ct.keepD fr (fun k i z => by have := hP k i z; left; omega)
theorem c_room (h : yCB M b n t p) {m k : Nat} (hm : m < 1000) (hk : k < 1000) {g : Int32 → zMem → Option (α × zMem)}
    (k1 : k ≤ m → ∀ M', yCG M' t (2, ypl b n p) → zfr yRd M M' → zwp (g 0 M') Q)
    (k2 : m < k → ∀ M', yCB M' b n t (ynx b n p) → zfr yRd M M' → zwp (g 1 M') Q) : zwp (mbd (m_X4_hasRoom (Int32.ofNat m) (Int32.ofNat k) M) g) Q := by
  unfold m_X4_hasRoom
  by_cases z : m < k
  · rw [if_pos (by rw [zi_lt (by omega) (by omega)]; exact z)]
    refine zwp_bd (Q' := fun v M' => v = 1 ∧ yCB M' b n t (ynx b n p) ∧ zfr yRA M M') (zwp_bd h.adv (fun _ M' y => zwp_ret ⟨rfl, y⟩)) ?_
    rintro _ M' ⟨rfl, cb, fr⟩
    exact k2 z M' cb (zfr_weak fr (by unfold yRA yRd; omega))
  · rw [if_neg (by rw [zi_lt (by omega) (by omega)]; exact z)]
    refine zwp_bd (Q' := fun v M' => v = 0 ∧ yCG M' t (2, ypl b n p) ∧ zfr yRd M M') (zwp_bd (h.fail (k := 2) (by omega)) (fun _ M' y => zwp_ret ⟨rfl, y⟩)) ?_
    rintro _ M' ⟨rfl, cg, fr⟩
    exact k1 (by omega) M' cg fr
def yLp (b : Nat → Nat) (n t : Nat) (A : yLE (Nat × yT)) (M M' : zMem) : Prop := zfr (yCLn t) M M' ∧ ((∃ f, A = .inl f ∧ yCG M' t f) ∨ ∃ p' T', A = .inr (p', T') ∧ yCB M' b n t p' ∧ yCT M' t T')
def afield (b : Nat → Nat) (n : Nat) (T : yT) (p : Nat) : yLE (Nat × yT) := if 5 ≤ T.nf then .inl (2, ypl b n p) else match aname b n T.fname T.nf (ynx b n p) with
  | .inl f => .inl f
  | .inr (x, p1) => match acell b n p1 with
    | .inl f => .inl f
    | .inr (c, _, p2) => match anum b n 0 99 p2 with
      | .inl f => .inl f
      | .inr (d0, p3) => .inr (p3, T.addF (Int32.ofNat x) c (Int32.ofNat d0))
theorem c_field (h : yCB M b n t p) (ct : yCT M t T) (hc : T.nf ≤ 5) : zwp (m_X4_readField M) (fun _ M' => yLp b n t (afield b n T p) M M') := by
  have it := h.2.2.2.2.1
  have ib := it.or5
  have z2 : (zds (t + 2)).2 = 5 := by rcases ib with z | z <;> rw [z] <;> rfl
  have z3 : (zds (t + 3)).2 = 5 := by rcases ib with z | z <;> rw [z] <;> rfl
  have z4 : (zds (t + 4)).2 = 5 := by rcases ib with z | z <;> rw [z] <;> rfl
  have wk : ∀ {M1 M2 : zMem}, zfr yRd M1 M2 → zfr (yCLn t) M1 M2 := fun fr => zfr_weak fr (by unfold yRd yCLn; omega)
  unfold m_X4_readField
  rw [mlt_eq, h.2.2.2.2.2, ct.nf]
  refine c_room h (k := 5) (by omega) (by decide) (fun z M1 cg f1 => ?_) (fun z M1 cb1 f1 => ?_)
  · rw [if_pos rfl]
    exact zwp_ret ⟨wk f1, Or.inl ⟨_, by unfold afield; rw [if_pos z], cg⟩⟩
  · rw [if_neg (by decide), mlt_eq, mlt_eq, cb1.2.2.2.2.2]
    have ct1 := ct.rd f1 (by unfold yRd; omega)
    refine c_name cb1 T.fname (by omega) (by omega) (fun i hi => ct1.fname i hi) (fun f v M2 e cg f2 => ?_) (fun x p1 M2 e0 cb2 f2 => ?_)
    · have ff := zfr_trans (wk f1) (wk f2)
      have ea : afield b n T p = .inl f := by unfold afield; rw [if_neg (by omega)]; rw [e]
      refine c_wrf cg (by omega) (by omega) (by omega) (by omega) (fun M9 cg9 f9 => ?_)
      have ff := zfr_trans ff f9
      clear cg; have cg := cg9
      rw [mlt_eq, cg9.2.2]
      rw [c_cell_f cg9.1, mbd_some]
      refine c_wrf cg (by omega) (by omega) (by omega) (by omega) (fun M9 cg9 f9 => ?_)
      have ff := zfr_trans ff f9
      clear cg; have cg := cg9
      rw [mlt_eq, cg9.2.2]
      rw [c_number_f cg9.1, mbd_some]
      refine c_wrf cg (by omega) (by omega) (by omega) (by omega) (fun M9 cg9 f9 => ?_)
      have ff := zfr_trans ff f9
      clear cg; have cg := cg9
      rw [mlt_eq, cg9.2.2]
      rw [mlt_eq]
      have f9 : zfr (fun k i => k = t ∧ i = 13) M9 (mup M9 t 13 (M9.1 t 13 + 1)) := zfr_mup ⟨rfl, rfl⟩
      exact zwp_ret ⟨zfr_trans ff (zfr_weak f9 (by unfold yCLn; omega)), Or.inl ⟨_, ea, cg.keep f9 (by omega)⟩⟩
    · have ff := zfr_trans (wk f1) (wk f2)
      have ct2 := ct1.rd f2 (by unfold yRd; omega)
      refine c_wrg cb2 ct2 (by omega) (by omega) (by omega) (by omega) (by unfold yDead; omega) (fun M3 cb3 ct3 w0 f3 => ?_)
      have ff := zfr_trans ff (zfr_weak f3 (P' := yCLn t) (by unfold yCLn; omega))
      rw [mlt_eq, cb3.2.2.2.2.2]
      refine c_cell cb3 (fun f M4 e cg f4 => ?_) (fun c q p2 M4 e1 hc4 cb4 _ f4 => ?_)
      · have ff := zfr_trans ff (wk f4)
        have ea : afield b n T p = .inl f := by unfold afield; rw [if_neg (by omega)]; rw [e0]; simp only; rw [e]
        refine c_wrf cg (by omega) (by omega) (by omega) (by omega) (fun M9 cg9 f9 => ?_)
        have ff := zfr_trans ff f9
        clear cg; have cg := cg9
        rw [mlt_eq, cg9.2.2]
        rw [c_number_f cg9.1, mbd_some]
        refine c_wrf cg (by omega) (by omega) (by omega) (by omega) (fun M9 cg9 f9 => ?_)
        have ff := zfr_trans ff f9
        clear cg; have cg := cg9
        rw [mlt_eq, cg9.2.2]
        rw [mlt_eq]
        have f9 : zfr (fun k i => k = t ∧ i = 13) M9 (mup M9 t 13 (M9.1 t 13 + 1)) := zfr_mup ⟨rfl, rfl⟩
        exact zwp_ret ⟨zfr_trans ff (zfr_weak f9 (by unfold yCLn; omega)), Or.inl ⟨_, ea, cg.keep f9 (by omega)⟩⟩
      · have ff := zfr_trans ff (wk f4)
        have ct4 := ct3.rd f4 (by unfold yRd; omega)
        have w0 : M4.1 (t + 2) T.nf = Int32.ofNat x := by rw [f4 _ _ (by unfold yRd; omega)]; exact w0
        refine c_wrg cb4 ct4 (by omega) (by omega) (by omega) (by omega) (by unfold yDead; omega) (fun M5 cb5 ct5 w1 f5 => ?_)
        have ff := zfr_trans ff (zfr_weak f5 (P' := yCLn t) (by unfold yCLn; omega))
        have w0 : M5.1 (t + 2) T.nf = Int32.ofNat x := by rw [f5 _ _ (by omega)]; exact w0
        rw [mlt_eq, cb5.2.2.2.2.2]
        refine c_num cb5 (lo := 0) (hi := 99) (by decide) (by decide) (fun f M6 e cg f6 => ?_) (fun d0 p3 M6 n0 cb6 _ f6 => ?_)
        · have ff := zfr_trans ff (wk f6)
          have ea : afield b n T p = .inl f := by unfold afield; rw [if_neg (by omega)]; rw [e0]; simp only; rw [e1]; simp only; rw [e]
          refine c_wrf cg (by omega) (by omega) (by omega) (by omega) (fun M9 cg9 f9 => ?_)
          have ff := zfr_trans ff f9
          clear cg; have cg := cg9
          rw [mlt_eq, cg9.2.2]
          rw [mlt_eq]
          have f9 : zfr (fun k i => k = t ∧ i = 13) M9 (mup M9 t 13 (M9.1 t 13 + 1)) := zfr_mup ⟨rfl, rfl⟩
          exact zwp_ret ⟨zfr_trans ff (zfr_weak f9 (by unfold yCLn; omega)), Or.inl ⟨_, ea, cg.keep f9 (by omega)⟩⟩
        · have ff := zfr_trans ff (wk f6)
          have ct6 := ct5.rd f6 (by unfold yRd; omega)
          have w0 : M6.1 (t + 2) T.nf = Int32.ofNat x := by rw [f6 _ _ (by unfold yRd; omega)]; exact w0
          have w1 : M6.1 (t + 3) T.nf = Int32.ofNat c := by rw [f6 _ _ (by unfold yRd; omega)]; exact w1
          refine c_wrg cb6 ct6 (by omega) (by omega) (by omega) (by omega) (by unfold yDead; omega) (fun M7 cb7 ct7 w2 f7 => ?_)
          have ff := zfr_trans ff (zfr_weak f7 (P' := yCLn t) (by unfold yCLn; omega))
          have w0 : M7.1 (t + 2) T.nf = Int32.ofNat x := by rw [f7 _ _ (by omega)]; exact w0
          have w1 : M7.1 (t + 3) T.nf = Int32.ofNat c := by rw [f7 _ _ (by omega)]; exact w1
          rw [mlt_eq, cb7.2.2.2.2.2]
          rw [mlt_eq, ct7.nf, yi_nn]
          have fz : zfr (fun k i => k = t ∧ i = 13) M7 (mup M7 t 13 (Int32.ofNat (T.nf + 1))) := zfr_mup ⟨rfl, rfl⟩
          refine zwp_ret ⟨zfr_trans ff (zfr_weak fz (by unfold yCLn; omega)), Or.inr ⟨_, _, by unfold afield; rw [if_neg (by omega)]; rw [e0]; simp only; rw [e1]; simp only; rw [n0], ?_, ct7.addF w0 w1 w2⟩⟩
          refine cb7.keep fz (by omega) (by rw [fz 2 14 (by omega)]; exact cb7.2.2.1) ?_
          have ck := cb7.2.2.2.1
          unfold yCk
          rw [fz 2 3 (by omega), fz 2 4 (by omega), fz 2 5 (by omega), fz 2 6 (by omega), fz 2 7 (by omega)]; exact ck
def achild (b : Nat → Nat) (n : Nat) (T : yT) (p : Nat) : yLE (Nat × yT) := if 6 ≤ T.nh then .inl (2, ypl b n p) else match aname b n T.hname T.nh (ynx b n p) with
  | .inl f => .inl f
  | .inr (x, p1) => match acell b n p1 with
    | .inl f => .inl f
    | .inr (c, _, p2) => match anum b n 0 9 p2 with
      | .inl f => .inl f
      | .inr (d0, p3) => .inr (p3, T.addH (Int32.ofNat x) c (Int32.ofNat d0))
theorem c_child (h : yCB M b n t p) (ct : yCT M t T) (hc : T.nh ≤ 6) : zwp (m_X4_readChild M) (fun _ M' => yLp b n t (achild b n T p) M M') := by
  have it := h.2.2.2.2.1
  have ib := it.or5
  have z9 : (zds (t + 9)).2 = 6 := by rcases ib with z | z <;> rw [z] <;> rfl
  have z10 : (zds (t + 10)).2 = 6 := by rcases ib with z | z <;> rw [z] <;> rfl
  have z11 : (zds (t + 11)).2 = 6 := by rcases ib with z | z <;> rw [z] <;> rfl
  have wk : ∀ {M1 M2 : zMem}, zfr yRd M1 M2 → zfr (yCLn t) M1 M2 := fun fr => zfr_weak fr (by unfold yRd yCLn; omega)
  unfold m_X4_readChild
  rw [mlt_eq, h.2.2.2.2.2, ct.nh]
  refine c_room h (k := 6) (by omega) (by decide) (fun z M1 cg f1 => ?_) (fun z M1 cb1 f1 => ?_)
  · rw [if_pos rfl]
    exact zwp_ret ⟨wk f1, Or.inl ⟨_, by unfold achild; rw [if_pos z], cg⟩⟩
  · rw [if_neg (by decide), mlt_eq, mlt_eq, cb1.2.2.2.2.2]
    have ct1 := ct.rd f1 (by unfold yRd; omega)
    refine c_name cb1 T.hname (by omega) (by omega) (fun i hi => ct1.hname i hi) (fun f v M2 e cg f2 => ?_) (fun x p1 M2 e0 cb2 f2 => ?_)
    · have ff := zfr_trans (wk f1) (wk f2)
      have ea : achild b n T p = .inl f := by unfold achild; rw [if_neg (by omega)]; rw [e]
      refine c_wrf cg (by omega) (by omega) (by omega) (by omega) (fun M9 cg9 f9 => ?_)
      have ff := zfr_trans ff f9
      clear cg; have cg := cg9
      rw [mlt_eq, cg9.2.2]
      rw [c_cell_f cg9.1, mbd_some]
      refine c_wrf cg (by omega) (by omega) (by omega) (by omega) (fun M9 cg9 f9 => ?_)
      have ff := zfr_trans ff f9
      clear cg; have cg := cg9
      rw [mlt_eq, cg9.2.2]
      rw [c_number_f cg9.1, mbd_some]
      refine c_wrf cg (by omega) (by omega) (by omega) (by omega) (fun M9 cg9 f9 => ?_)
      have ff := zfr_trans ff f9
      clear cg; have cg := cg9
      rw [mlt_eq, cg9.2.2]
      rw [mlt_eq]
      have f9 : zfr (fun k i => k = t ∧ i = 15) M9 (mup M9 t 15 (M9.1 t 15 + 1)) := zfr_mup ⟨rfl, rfl⟩
      exact zwp_ret ⟨zfr_trans ff (zfr_weak f9 (by unfold yCLn; omega)), Or.inl ⟨_, ea, cg.keep f9 (by omega)⟩⟩
    · have ff := zfr_trans (wk f1) (wk f2)
      have ct2 := ct1.rd f2 (by unfold yRd; omega)
      refine c_wrg cb2 ct2 (by omega) (by omega) (by omega) (by omega) (by unfold yDead; omega) (fun M3 cb3 ct3 w0 f3 => ?_)
      have ff := zfr_trans ff (zfr_weak f3 (P' := yCLn t) (by unfold yCLn; omega))
      rw [mlt_eq, cb3.2.2.2.2.2]
      refine c_cell cb3 (fun f M4 e cg f4 => ?_) (fun c q p2 M4 e1 hc4 cb4 _ f4 => ?_)
      · have ff := zfr_trans ff (wk f4)
        have ea : achild b n T p = .inl f := by unfold achild; rw [if_neg (by omega)]; rw [e0]; simp only; rw [e]
        refine c_wrf cg (by omega) (by omega) (by omega) (by omega) (fun M9 cg9 f9 => ?_)
        have ff := zfr_trans ff f9
        clear cg; have cg := cg9
        rw [mlt_eq, cg9.2.2]
        rw [c_number_f cg9.1, mbd_some]
        refine c_wrf cg (by omega) (by omega) (by omega) (by omega) (fun M9 cg9 f9 => ?_)
        have ff := zfr_trans ff f9
        clear cg; have cg := cg9
        rw [mlt_eq, cg9.2.2]
        rw [mlt_eq]
        have f9 : zfr (fun k i => k = t ∧ i = 15) M9 (mup M9 t 15 (M9.1 t 15 + 1)) := zfr_mup ⟨rfl, rfl⟩
        exact zwp_ret ⟨zfr_trans ff (zfr_weak f9 (by unfold yCLn; omega)), Or.inl ⟨_, ea, cg.keep f9 (by omega)⟩⟩
      · have ff := zfr_trans ff (wk f4)
        have ct4 := ct3.rd f4 (by unfold yRd; omega)
        have w0 : M4.1 (t + 9) T.nh = Int32.ofNat x := by rw [f4 _ _ (by unfold yRd; omega)]; exact w0
        refine c_wrg cb4 ct4 (by omega) (by omega) (by omega) (by omega) (by unfold yDead; omega) (fun M5 cb5 ct5 w1 f5 => ?_)
        have ff := zfr_trans ff (zfr_weak f5 (P' := yCLn t) (by unfold yCLn; omega))
        have w0 : M5.1 (t + 9) T.nh = Int32.ofNat x := by rw [f5 _ _ (by omega)]; exact w0
        rw [mlt_eq, cb5.2.2.2.2.2]
        refine c_num cb5 (lo := 0) (hi := 9) (by decide) (by decide) (fun f M6 e cg f6 => ?_) (fun d0 p3 M6 n0 cb6 _ f6 => ?_)
        · have ff := zfr_trans ff (wk f6)
          have ea : achild b n T p = .inl f := by unfold achild; rw [if_neg (by omega)]; rw [e0]; simp only; rw [e1]; simp only; rw [e]
          refine c_wrf cg (by omega) (by omega) (by omega) (by omega) (fun M9 cg9 f9 => ?_)
          have ff := zfr_trans ff f9
          clear cg; have cg := cg9
          rw [mlt_eq, cg9.2.2]
          rw [mlt_eq]
          have f9 : zfr (fun k i => k = t ∧ i = 15) M9 (mup M9 t 15 (M9.1 t 15 + 1)) := zfr_mup ⟨rfl, rfl⟩
          exact zwp_ret ⟨zfr_trans ff (zfr_weak f9 (by unfold yCLn; omega)), Or.inl ⟨_, ea, cg.keep f9 (by omega)⟩⟩
        · have ff := zfr_trans ff (wk f6)
          have ct6 := ct5.rd f6 (by unfold yRd; omega)
          have w0 : M6.1 (t + 9) T.nh = Int32.ofNat x := by rw [f6 _ _ (by unfold yRd; omega)]; exact w0
          have w1 : M6.1 (t + 10) T.nh = Int32.ofNat c := by rw [f6 _ _ (by unfold yRd; omega)]; exact w1
          refine c_wrg cb6 ct6 (by omega) (by omega) (by omega) (by omega) (by unfold yDead; omega) (fun M7 cb7 ct7 w2 f7 => ?_)
          have ff := zfr_trans ff (zfr_weak f7 (P' := yCLn t) (by unfold yCLn; omega))
          have w0 : M7.1 (t + 9) T.nh = Int32.ofNat x := by rw [f7 _ _ (by omega)]; exact w0
          have w1 : M7.1 (t + 10) T.nh = Int32.ofNat c := by rw [f7 _ _ (by omega)]; exact w1
          rw [mlt_eq, cb7.2.2.2.2.2]
          rw [mlt_eq, ct7.nh, yi_nn]
          have fz : zfr (fun k i => k = t ∧ i = 15) M7 (mup M7 t 15 (Int32.ofNat (T.nh + 1))) := zfr_mup ⟨rfl, rfl⟩
          refine zwp_ret ⟨zfr_trans ff (zfr_weak fz (by unfold yCLn; omega)), Or.inr ⟨_, _, by unfold achild; rw [if_neg (by omega)]; rw [e0]; simp only; rw [e1]; simp only; rw [n0], ?_, ct7.addH w0 w1 w2⟩⟩
          refine cb7.keep fz (by omega) (by rw [fz 2 14 (by omega)]; exact cb7.2.2.1) ?_
          have ck := cb7.2.2.2.1
          unfold yCk
          rw [fz 2 3 (by omega), fz 2 4 (by omega), fz 2 5 (by omega), fz 2 6 (by omega), fz 2 7 (by omega)]; exact ck
def acloud (b : Nat → Nat) (n : Nat) (T : yT) (p : Nat) : yLE (Nat × yT) := if 8 ≤ T.nc then .inl (2, ypl b n p) else match aname b n T.cname T.nc (ynx b n p) with
  | .inl f => .inl f
  | .inr (x, p1) => match acell b n p1 with
    | .inl f => .inl f
    | .inr (c, _, p2) => match anum b n 1 9 p2 with
      | .inl f => .inl f
      | .inr (d0, p3) => match anum b n 0 99 p3 with
        | .inl f => .inl f
        | .inr (d1, p4) => .inr (p4, T.addC (Int32.ofNat x) c (Int32.ofNat d0) (Int32.ofNat d1))
theorem c_cloud (h : yCB M b n t p) (ct : yCT M t T) (hc : T.nc ≤ 8) : zwp (m_X4_readCloud M) (fun _ M' => yLp b n t (acloud b n T p) M M') := by
  have it := h.2.2.2.2.1
  have ib := it.or5
  have z5 : (zds (t + 5)).2 = 8 := by rcases ib with z | z <;> rw [z] <;> rfl
  have z6 : (zds (t + 6)).2 = 8 := by rcases ib with z | z <;> rw [z] <;> rfl
  have z7 : (zds (t + 7)).2 = 8 := by rcases ib with z | z <;> rw [z] <;> rfl
  have z8 : (zds (t + 8)).2 = 8 := by rcases ib with z | z <;> rw [z] <;> rfl
  have wk : ∀ {M1 M2 : zMem}, zfr yRd M1 M2 → zfr (yCLn t) M1 M2 := fun fr => zfr_weak fr (by unfold yRd yCLn; omega)
  unfold m_X4_readCloud
  rw [mlt_eq, h.2.2.2.2.2, ct.nc]
  refine c_room h (k := 8) (by omega) (by decide) (fun z M1 cg f1 => ?_) (fun z M1 cb1 f1 => ?_)
  · rw [if_pos rfl]
    exact zwp_ret ⟨wk f1, Or.inl ⟨_, by unfold acloud; rw [if_pos z], cg⟩⟩
  · rw [if_neg (by decide), mlt_eq, mlt_eq, cb1.2.2.2.2.2]
    have ct1 := ct.rd f1 (by unfold yRd; omega)
    refine c_name cb1 T.cname (by omega) (by omega) (fun i hi => ct1.cname i hi) (fun f v M2 e cg f2 => ?_) (fun x p1 M2 e0 cb2 f2 => ?_)
    · have ff := zfr_trans (wk f1) (wk f2)
      have ea : acloud b n T p = .inl f := by unfold acloud; rw [if_neg (by omega)]; rw [e]
      refine c_wrf cg (by omega) (by omega) (by omega) (by omega) (fun M9 cg9 f9 => ?_)
      have ff := zfr_trans ff f9
      clear cg; have cg := cg9
      rw [mlt_eq, cg9.2.2]
      rw [c_cell_f cg9.1, mbd_some]
      refine c_wrf cg (by omega) (by omega) (by omega) (by omega) (fun M9 cg9 f9 => ?_)
      have ff := zfr_trans ff f9
      clear cg; have cg := cg9
      rw [mlt_eq, cg9.2.2]
      rw [c_number_f cg9.1, mbd_some]
      refine c_wrf cg (by omega) (by omega) (by omega) (by omega) (fun M9 cg9 f9 => ?_)
      have ff := zfr_trans ff f9
      clear cg; have cg := cg9
      rw [mlt_eq, cg9.2.2]
      rw [c_number_f cg9.1, mbd_some]
      refine c_wrf cg (by omega) (by omega) (by omega) (by omega) (fun M9 cg9 f9 => ?_)
      have ff := zfr_trans ff f9
      clear cg; have cg := cg9
      rw [mlt_eq, cg9.2.2]
      rw [mlt_eq]
      have f9 : zfr (fun k i => k = t ∧ i = 14) M9 (mup M9 t 14 (M9.1 t 14 + 1)) := zfr_mup ⟨rfl, rfl⟩
      exact zwp_ret ⟨zfr_trans ff (zfr_weak f9 (by unfold yCLn; omega)), Or.inl ⟨_, ea, cg.keep f9 (by omega)⟩⟩
    · have ff := zfr_trans (wk f1) (wk f2)
      have ct2 := ct1.rd f2 (by unfold yRd; omega)
      refine c_wrg cb2 ct2 (by omega) (by omega) (by omega) (by omega) (by unfold yDead; omega) (fun M3 cb3 ct3 w0 f3 => ?_)
      have ff := zfr_trans ff (zfr_weak f3 (P' := yCLn t) (by unfold yCLn; omega))
      rw [mlt_eq, cb3.2.2.2.2.2]
      refine c_cell cb3 (fun f M4 e cg f4 => ?_) (fun c q p2 M4 e1 hc4 cb4 _ f4 => ?_)
      · have ff := zfr_trans ff (wk f4)
        have ea : acloud b n T p = .inl f := by unfold acloud; rw [if_neg (by omega)]; rw [e0]; simp only; rw [e]
        refine c_wrf cg (by omega) (by omega) (by omega) (by omega) (fun M9 cg9 f9 => ?_)
        have ff := zfr_trans ff f9
        clear cg; have cg := cg9
        rw [mlt_eq, cg9.2.2]
        rw [c_number_f cg9.1, mbd_some]
        refine c_wrf cg (by omega) (by omega) (by omega) (by omega) (fun M9 cg9 f9 => ?_)
        have ff := zfr_trans ff f9
        clear cg; have cg := cg9
        rw [mlt_eq, cg9.2.2]
        rw [c_number_f cg9.1, mbd_some]
        refine c_wrf cg (by omega) (by omega) (by omega) (by omega) (fun M9 cg9 f9 => ?_)
        have ff := zfr_trans ff f9
        clear cg; have cg := cg9
        rw [mlt_eq, cg9.2.2]
        rw [mlt_eq]
        have f9 : zfr (fun k i => k = t ∧ i = 14) M9 (mup M9 t 14 (M9.1 t 14 + 1)) := zfr_mup ⟨rfl, rfl⟩
        exact zwp_ret ⟨zfr_trans ff (zfr_weak f9 (by unfold yCLn; omega)), Or.inl ⟨_, ea, cg.keep f9 (by omega)⟩⟩
      · have ff := zfr_trans ff (wk f4)
        have ct4 := ct3.rd f4 (by unfold yRd; omega)
        have w0 : M4.1 (t + 5) T.nc = Int32.ofNat x := by rw [f4 _ _ (by unfold yRd; omega)]; exact w0
        refine c_wrg cb4 ct4 (by omega) (by omega) (by omega) (by omega) (by unfold yDead; omega) (fun M5 cb5 ct5 w1 f5 => ?_)
        have ff := zfr_trans ff (zfr_weak f5 (P' := yCLn t) (by unfold yCLn; omega))
        have w0 : M5.1 (t + 5) T.nc = Int32.ofNat x := by rw [f5 _ _ (by omega)]; exact w0
        rw [mlt_eq, cb5.2.2.2.2.2]
        refine c_num cb5 (lo := 1) (hi := 9) (by decide) (by decide) (fun f M6 e cg f6 => ?_) (fun d0 p3 M6 n0 cb6 _ f6 => ?_)
        · have ff := zfr_trans ff (wk f6)
          have ea : acloud b n T p = .inl f := by unfold acloud; rw [if_neg (by omega)]; rw [e0]; simp only; rw [e1]; simp only; rw [e]
          refine c_wrf cg (by omega) (by omega) (by omega) (by omega) (fun M9 cg9 f9 => ?_)
          have ff := zfr_trans ff f9
          clear cg; have cg := cg9
          rw [mlt_eq, cg9.2.2]
          rw [c_number_f cg9.1, mbd_some]
          refine c_wrf cg (by omega) (by omega) (by omega) (by omega) (fun M9 cg9 f9 => ?_)
          have ff := zfr_trans ff f9
          clear cg; have cg := cg9
          rw [mlt_eq, cg9.2.2]
          rw [mlt_eq]
          have f9 : zfr (fun k i => k = t ∧ i = 14) M9 (mup M9 t 14 (M9.1 t 14 + 1)) := zfr_mup ⟨rfl, rfl⟩
          exact zwp_ret ⟨zfr_trans ff (zfr_weak f9 (by unfold yCLn; omega)), Or.inl ⟨_, ea, cg.keep f9 (by omega)⟩⟩
        · have ff := zfr_trans ff (wk f6)
          have ct6 := ct5.rd f6 (by unfold yRd; omega)
          have w0 : M6.1 (t + 5) T.nc = Int32.ofNat x := by rw [f6 _ _ (by unfold yRd; omega)]; exact w0
          have w1 : M6.1 (t + 6) T.nc = Int32.ofNat c := by rw [f6 _ _ (by unfold yRd; omega)]; exact w1
          refine c_wrg cb6 ct6 (by omega) (by omega) (by omega) (by omega) (by unfold yDead; omega) (fun M7 cb7 ct7 w2 f7 => ?_)
          have ff := zfr_trans ff (zfr_weak f7 (P' := yCLn t) (by unfold yCLn; omega))
          have w0 : M7.1 (t + 5) T.nc = Int32.ofNat x := by rw [f7 _ _ (by omega)]; exact w0
          have w1 : M7.1 (t + 6) T.nc = Int32.ofNat c := by rw [f7 _ _ (by omega)]; exact w1
          rw [mlt_eq, cb7.2.2.2.2.2]
          refine c_num cb7 (lo := 0) (hi := 99) (by decide) (by decide) (fun f M8 e cg f8 => ?_) (fun d1 p4 M8 n1 cb8 _ f8 => ?_)
          · have ff := zfr_trans ff (wk f8)
            have ea : acloud b n T p = .inl f := by unfold acloud; rw [if_neg (by omega)]; rw [e0]; simp only; rw [e1]; simp only; rw [n0]; simp only; rw [e]
            refine c_wrf cg (by omega) (by omega) (by omega) (by omega) (fun M9 cg9 f9 => ?_)
            have ff := zfr_trans ff f9
            clear cg; have cg := cg9
            rw [mlt_eq, cg9.2.2]
            rw [mlt_eq]
            have f9 : zfr (fun k i => k = t ∧ i = 14) M9 (mup M9 t 14 (M9.1 t 14 + 1)) := zfr_mup ⟨rfl, rfl⟩
            exact zwp_ret ⟨zfr_trans ff (zfr_weak f9 (by unfold yCLn; omega)), Or.inl ⟨_, ea, cg.keep f9 (by omega)⟩⟩
          · have ff := zfr_trans ff (wk f8)
            have ct8 := ct7.rd f8 (by unfold yRd; omega)
            have w0 : M8.1 (t + 5) T.nc = Int32.ofNat x := by rw [f8 _ _ (by unfold yRd; omega)]; exact w0
            have w1 : M8.1 (t + 6) T.nc = Int32.ofNat c := by rw [f8 _ _ (by unfold yRd; omega)]; exact w1
            have w2 : M8.1 (t + 7) T.nc = Int32.ofNat d0 := by rw [f8 _ _ (by unfold yRd; omega)]; exact w2
            refine c_wrg cb8 ct8 (by omega) (by omega) (by omega) (by omega) (by unfold yDead; omega) (fun M9 cb9 ct9 w3 f9 => ?_)
            have ff := zfr_trans ff (zfr_weak f9 (P' := yCLn t) (by unfold yCLn; omega))
            have w0 : M9.1 (t + 5) T.nc = Int32.ofNat x := by rw [f9 _ _ (by omega)]; exact w0
            have w1 : M9.1 (t + 6) T.nc = Int32.ofNat c := by rw [f9 _ _ (by omega)]; exact w1
            have w2 : M9.1 (t + 7) T.nc = Int32.ofNat d0 := by rw [f9 _ _ (by omega)]; exact w2
            rw [mlt_eq, cb9.2.2.2.2.2]
            rw [mlt_eq, ct9.nc, yi_nn]
            have fz : zfr (fun k i => k = t ∧ i = 14) M9 (mup M9 t 14 (Int32.ofNat (T.nc + 1))) := zfr_mup ⟨rfl, rfl⟩
            refine zwp_ret ⟨zfr_trans ff (zfr_weak fz (by unfold yCLn; omega)), Or.inr ⟨_, _, by unfold acloud; rw [if_neg (by omega)]; rw [e0]; simp only; rw [e1]; simp only; rw [n0]; simp only; rw [n1], ?_, ct9.addC w0 w1 w2 w3⟩⟩
            refine cb9.keep fz (by omega) (by rw [fz 2 14 (by omega)]; exact cb9.2.2.1) ?_
            have ck := cb9.2.2.2.1
            unfold yCk
            rw [fz 2 3 (by omega), fz 2 4 (by omega), fz 2 5 (by omega), fz 2 6 (by omega), fz 2 7 (by omega)]; exact ck
end

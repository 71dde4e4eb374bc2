/-! the class's other lines but the law's -/
def aground (b : Nat → Nat) (n : Nat) (T : yT) (v : Int32) (p : Nat) : yLE (Nat × yT) := match acell b n (ynx b n p) with
  | .inl f => .inl f
  | .inr (c, q, p') => if T.ground c = 0 then .inr (p', T.setG c v) else .inl (3, q)
def awind (b : Nat → Nat) (n : Nat) (T : yT) (p : Nat) : yLE (Nat × yT) := if 12 ≤ T.nw then .inl (2, ypl b n p) else match anum b n 0 4 (ynx b n p) with
  | .inl f => .inl f
  | .inr (d, p') => .inr (p', T.addW (Int32.ofNat d))
/-- once: rain (6), most (7), seed (8) -/
def aonce (b : Nat → Nat) (n u k lo hi : Nat) (F : Int32 → yT) (p : Nat) : yLE (Nat × yT) := if u.testBit k then .inl (3, ypl b n p) else match anum b n lo hi (ynx b n p) with
  | .inl f => .inl f
  | .inr (d, p') => .inr (p', F (Int32.ofNat d))
def yCLo (t : Nat) (k i : Nat) : Prop := yCLn t k i ∨ (k = 2 ∧ i = 9)
def yLo2 (b : Nat → Nat) (n t u : Nat) (A : yLE (Nat × yT)) (M M' : zMem) : Prop := zfr (yCLo t) M M' ∧ ((∃ f, A = .inl f ∧ yCG M' t f) ∨ ∃ p' T', A = .inr (p', T') ∧ yCB M' b n t p' ∧ yCT M' t T' ∧ M'.1 2 9 = Int32.ofNat u)
section
variable {M : zMem} {b : Nat → Nat} {n t p : Nat} {f : Nat × Nat} {T : yT} {α : Type} {Q : α → zMem → Prop}
theorem yCB.put (cb : yCB M b n t p) {k j : Nat} {v : Int32} (h1 : t ≤ k) (h2 : k ≤ t + 12) : yCB (mup M k j v) b n t p := by
  have ib := cb.2.2.2.2.1.or5
  have fr : zfr (fun k' i => k' = k ∧ i = j) M (mup M k j v) := zfr_mup ⟨rfl, rfl⟩
  refine cb.keep fr (by omega) (by rw [fr 2 14 (by omega)]; exact cb.2.2.1) ?_
  have ck := cb.2.2.2.1
  unfold yCk
  rw [fr 2 3 (by omega), fr 2 4 (by omega), fr 2 5 (by omega), fr 2 6 (by omega), fr 2 7 (by omega)]; exact ck
theorem c_lground (h : yCB M b n t p) (ct : yCT M t T) (v : Int32) : zwp (m_X4_readGround v M) (fun _ M' => yLp b n t (aground b n T v p) M M') := by
  have ib := h.2.2.2.2.1.or5
  have zd : (zds (t + 1)).2 = 24 := by rcases ib with z | z <;> rw [z] <;> rfl
  have wk : ∀ {M1 M2 : zMem}, zfr yRd M1 M2 → zfr (yCLn t) M1 M2 := fun fr => zfr_weak fr (by unfold yRd yCLn; omega)
  unfold m_X4_readGround
  refine zwp_bd h.adv (fun _ M1 z => ?_)
  obtain ⟨cb1, f1⟩ := z
  have f1 : zfr yRd M M1 := zfr_weak f1 (by unfold yRA yRd; omega)
  have ct1 := ct.rd f1 (by unfold yRd; omega)
  refine c_cell cb1 (fun f M2 e cg f2 => ?_) (fun c q p' M2 e hc cb2 e8 f2 => ?_)
  · rw [if_pos (by decide)]
    exact zwp_ret ⟨wk (zfr_trans f1 f2), Or.inl ⟨f, by unfold aground; rw [e], cg⟩⟩
  · have ct2 := ct1.rd f2 (by unfold yRd; omega)
    rw [if_neg (zi_nn (by omega)), if_pos (by rw [show (24 : Int32) = Int32.ofNat 24 from rfl, zi_lt (by omega) (by omega)]; exact hc), mlt_eq, cb2.2.2.2.2.2, mrd_of (k := t + 1) (j := c) (by omega) (by omega), zob_some, ct2.ground c hc]
    by_cases g0 : T.ground c = 0
    · rw [if_pos g0, mbd_some, mlt_eq, cb2.2.2.2.2.2, mwr_of (k := t + 1) (j := c) (by omega) (by omega), zob_some]
      refine zwp_ret ⟨zfr_trans (wk (zfr_trans f1 f2)) (zfr_mup (by unfold yCLn; omega)), Or.inr ⟨p', _, by unfold aground; rw [e]; simp only; rw [if_pos g0], cb2.put (by omega) (by omega), ct2.setG⟩⟩
    · rw [if_neg g0, e8]
      refine zwp_bd (Q' := fun _ M3 => yCG M3 t (3, q) ∧ zfr yRd M2 M3) (zwp_bd (c_failAt cb2.2.2.1 (k := 3) (by omega)) (fun _ M3 z => zwp_ret ⟨cb2.flt z.2 (by omega) z.1, zfr_weak z.2 (by unfold yRd; omega)⟩)) (fun _ M3 z => ?_)
      rw [mlt_eq, z.1.2.2]
      refine c_wrf z.1 (by omega) (by omega) (by omega) (by omega) (fun M4 cg4 f4 => ?_)
      exact zwp_ret ⟨zfr_trans (wk (zfr_trans f1 (zfr_trans f2 z.2))) f4, Or.inl ⟨_, by unfold aground; rw [e]; simp only; rw [if_neg g0], cg4⟩⟩
theorem c_lwind (h : yCB M b n t p) (ct : yCT M t T) (hc : T.nw ≤ 12) : zwp (m_X4_readWind M) (fun _ M' => yLp b n t (awind b n T p) M M') := by
  have ib := h.2.2.2.2.1.or5
  have zd : (zds (t + 12)).2 = 12 := by rcases ib with z | z <;> rw [z] <;> rfl
  have wk : ∀ {M1 M2 : zMem}, zfr yRd M1 M2 → zfr (yCLn t) M1 M2 := fun fr => zfr_weak fr (by unfold yRd yCLn; omega)
  unfold m_X4_readWind
  rw [mlt_eq, h.2.2.2.2.2, ct.nw]
  refine c_room h (k := 12) (by omega) (by decide) (fun z M1 cg f1 => ?_) (fun z M1 cb1 f1 => ?_)
  · rw [if_pos rfl]
    exact zwp_ret ⟨wk f1, Or.inl ⟨_, by unfold awind; rw [if_pos z], cg⟩⟩
  · rw [if_neg (by decide), mlt_eq, cb1.2.2.2.2.2]
    have ct1 := ct.rd f1 (by unfold yRd; omega)
    refine c_num cb1 (lo := 0) (hi := 4) (by decide) (by decide) (fun f M2 e cg f2 => ?_) (fun d p' M2 e cb2 _ f2 => ?_)
    · refine c_wrf cg (by omega) (by omega) (by omega) (by omega) (fun M3 cg3 f3 => ?_)
      rw [mlt_eq, cg3.2.2, mlt_eq]
      have f9 : zfr (fun k i => k = t ∧ i = 16) M3 (mup M3 t 16 (M3.1 t 16 + 1)) := zfr_mup ⟨rfl, rfl⟩
      exact zwp_ret ⟨zfr_trans (wk (zfr_trans f1 f2)) (zfr_trans f3 (zfr_weak f9 (by unfold yCLn; omega))), Or.inl ⟨_, by unfold awind; rw [if_neg (by omega), e], cg3.keep f9 (by omega)⟩⟩
    · have ct2 := ct1.rd f2 (by unfold yRd; omega)
      refine c_wrg cb2 ct2 (by omega) (by omega) (by omega) (by omega) (by unfold yDead; omega) (fun M3 cb3 ct3 w3 f3 => ?_)
      rw [mlt_eq, cb3.2.2.2.2.2, mlt_eq, ct3.nw, yi_nn]
      exact zwp_ret ⟨zfr_trans (wk (zfr_trans f1 f2)) (zfr_trans (zfr_weak f3 (by unfold yCLn; omega)) (zfr_mup (by unfold yCLn; omega))), Or.inr ⟨p', _, by unfold awind; rw [if_neg (by omega), e], cb3.put (by omega) (by omega), ct3.addW w3⟩⟩
theorem c_once (h : yCB M b n t p) {k u : Nat} (hu : u < 1048576) (eu : M.1 2 9 = Int32.ofNat u) (hk : ytk b n p = k) (k20 : k < 20) {g : Unit → zMem → Option (α × zMem)}
    (k1 : u.testBit k = true → ∀ M', yCG M' t (3, ypl b n p) → zfr (yCLo t) M M' → zwp (g () M') Q)
    (k2 : u.testBit k = false → ∀ M', yCB M' b n t (ynx b n p) → M'.1 2 9 = Int32.ofNat (u ||| 2 ^ k) → zfr (yCLo t) M M' → (∀ T, yCT M t T → yCT M' t T) → zwp (g () M') Q) : zwp (mbd (m_X4_readOnceWord M) g) Q := by
  have ib := h.2.2.2.2.1.or5
  have tk : M.1 2 4 = Int32.ofNat k := (h.tk (c := k) (by omega)).mpr hk
  unfold m_X4_readOnceWord
  rw [tk, eu]
  cases e : u.testBit k with
  | false =>
    rw [if_pos ((ybt_c hu k20).mpr e), mbd_some, mlt_eq, eu, (ybt_o hu k20).1]
    have fr : zfr (fun k i => k = 2 ∧ i = 9) M (mup M 2 9 (Int32.ofNat (u ||| 2 ^ k))) := zfr_mup ⟨rfl, rfl⟩
    have e9 : (mup M 2 9 (Int32.ofNat (u ||| 2 ^ k))).1 2 9 = Int32.ofNat (u ||| 2 ^ k) := mup_on
    have cb1 : yCB (mup M 2 9 (Int32.ofNat (u ||| 2 ^ k))) b n t p := by
      refine h.keep fr (by omega) (by rw [fr 2 14 (by omega)]; exact h.2.2.1) ?_
      have ck := h.2.2.2.1
      unfold yCk
      rw [fr 2 3 (by omega), fr 2 4 (by omega), fr 2 5 (by omega), fr 2 6 (by omega), fr 2 7 (by omega)]; exact ck
    generalize mup M 2 9 (Int32.ofNat (u ||| 2 ^ k)) = M1 at fr e9 cb1 ⊢
    refine zwp_bd (Q' := fun _ M2 => yCB M2 b n t (ynx b n p) ∧ zfr yRA M1 M2) (zwp_bd cb1.adv (fun _ M2 z => zwp_ret z)) (fun _ M2 z => ?_)
    obtain ⟨cb2, f2⟩ := z
    refine k2 e M2 cb2 (by rw [f2 2 9 (by unfold yRA; omega)]; exact e9) (zfr_trans (zfr_weak fr (by unfold yCLo; omega)) (zfr_weak f2 (by unfold yRA yCLo yCLn; omega))) (fun T ct => (ct.rd fr (by omega)).rd f2 (by unfold yRA; omega))
  | true =>
    have nz : ¬ (Int32.ofNat u &&& (1 <<< (Int32.ofNat k &&& 31)) = 0) := fun z => by rw [(ybt_c hu k20).mp z] at e; cases e
    rw [if_neg nz]
    refine zwp_bd (Q' := fun _ M1 => yCG M1 t (3, ypl b n p) ∧ zfr (yCLo t) M M1) (zwp_bd (Q' := fun _ M1 => yCG M1 t (3, ypl b n p) ∧ zfr yRd M M1) (zwp_bd (h.fail (k := 3) (by omega)) (fun _ M1 z => zwp_ret z)) (fun _ M1 z => ?_)) (fun _ M1 z => k1 e M1 z.1 z.2)
    obtain ⟨cg, f1⟩ := z
    rw [mlt_eq]
    have fr : zfr (fun k i => k = 2 ∧ i = 9) M1 (mup M1 2 9 (M1.1 2 9 ||| (1 <<< (Int32.ofNat k &&& 31)))) := zfr_mup ⟨rfl, rfl⟩
    have cg2 := cg.keep fr (by omega)
    rw [c_advance_f cg2.1, mbd_some]
    exact zwp_ret ⟨cg2, zfr_trans (zfr_weak f1 (by unfold yRd yCLo yCLn; omega)) (zfr_weak fr (by unfold yCLo; omega))⟩
theorem c_lrain (h : yCB M b n t p) (ct : yCT M t T) {u : Nat} (hu : u < 1048576) (eu : M.1 2 9 = Int32.ofNat u) (hk : ytk b n p = 6) : zwp (m_X4_readRain M) (fun _ M' => yLo2 b n t (u ||| 2 ^ 6) (aonce b n u 6 1 20 T.setR p) M M') := by
  have ib := h.2.2.2.2.1.or5
  have wk : ∀ {M1 M2 : zMem}, zfr yRd M1 M2 → zfr (yCLo t) M1 M2 := fun fr => zfr_weak fr (by unfold yRd yCLo yCLn; omega)
  unfold m_X4_readRain
  refine c_once h hu eu hk (by decide) (fun z M1 cg f1 => ?_) (fun z M1 cb1 e9 f1 kt => ?_)
  · rw [mlt_eq, cg.2.2, c_number_f cg.1, mbd_some, mlt_eq]
    have f9 : zfr (fun k i => k = t ∧ i = 17) M1 (mup M1 t 17 (-1)) := zfr_mup ⟨rfl, rfl⟩
    exact zwp_ret ⟨zfr_trans f1 (zfr_weak f9 (by unfold yCLo yCLn; omega)), Or.inl ⟨_, by unfold aonce; rw [if_pos z], cg.keep f9 (by omega)⟩⟩
  · have ct1 := kt T ct
    rw [mlt_eq, cb1.2.2.2.2.2]
    refine c_num cb1 (lo := 1) (hi := 20) (by decide) (by decide) (fun f M2 e cg f2 => ?_) (fun d p' M2 e cb2 _ f2 => ?_)
    · rw [mlt_eq]
      have f9 : zfr (fun k i => k = t ∧ i = 17) M2 (mup M2 t 17 (-1)) := zfr_mup ⟨rfl, rfl⟩
      exact zwp_ret ⟨zfr_trans f1 (zfr_trans (wk f2) (zfr_weak f9 (by unfold yCLo yCLn; omega))), Or.inl ⟨f, by unfold aonce; rw [if_neg (by rw [z]; decide), e], cg.keep f9 (by omega)⟩⟩
    · rw [mlt_eq]
      refine zwp_ret ⟨zfr_trans f1 (zfr_trans (wk f2) (zfr_mup (by unfold yCLo yCLn; omega))), Or.inr ⟨p', _, by unfold aonce; rw [if_neg (by rw [z]; decide), e], cb2.put (by omega) (by omega), (ct1.rd f2 (by unfold yRd; omega)).setR, ?_⟩⟩
      rw [mup_off (by omega), f2 2 9 (by unfold yRd; omega)]; exact e9
theorem c_lmost (h : yCB M b n t p) (ct : yCT M t T) {u : Nat} (hu : u < 1048576) (eu : M.1 2 9 = Int32.ofNat u) (hk : ytk b n p = 7) : zwp (m_X4_readMost M) (fun _ M' => yLo2 b n t (u ||| 2 ^ 7) (aonce b n u 7 1 9 T.setM p) M M') := by
  have ib := h.2.2.2.2.1.or5
  have wk : ∀ {M1 M2 : zMem}, zfr yRd M1 M2 → zfr (yCLo t) M1 M2 := fun fr => zfr_weak fr (by unfold yRd yCLo yCLn; omega)
  unfold m_X4_readMost
  refine c_once h hu eu hk (by decide) (fun z M1 cg f1 => ?_) (fun z M1 cb1 e9 f1 kt => ?_)
  · rw [mlt_eq, cg.2.2, c_number_f cg.1, mbd_some, mlt_eq]
    have f9 : zfr (fun k i => k = t ∧ i = 18) M1 (mup M1 t 18 (-1)) := zfr_mup ⟨rfl, rfl⟩
    exact zwp_ret ⟨zfr_trans f1 (zfr_weak f9 (by unfold yCLo yCLn; omega)), Or.inl ⟨_, by unfold aonce; rw [if_pos z], cg.keep f9 (by omega)⟩⟩
  · have ct1 := kt T ct
    rw [mlt_eq, cb1.2.2.2.2.2]
    refine c_num cb1 (lo := 1) (hi := 9) (by decide) (by decide) (fun f M2 e cg f2 => ?_) (fun d p' M2 e cb2 _ f2 => ?_)
    · rw [mlt_eq]
      have f9 : zfr (fun k i => k = t ∧ i = 18) M2 (mup M2 t 18 (-1)) := zfr_mup ⟨rfl, rfl⟩
      exact zwp_ret ⟨zfr_trans f1 (zfr_trans (wk f2) (zfr_weak f9 (by unfold yCLo yCLn; omega))), Or.inl ⟨f, by unfold aonce; rw [if_neg (by rw [z]; decide), e], cg.keep f9 (by omega)⟩⟩
    · rw [mlt_eq]
      refine zwp_ret ⟨zfr_trans f1 (zfr_trans (wk f2) (zfr_mup (by unfold yCLo yCLn; omega))), Or.inr ⟨p', _, by unfold aonce; rw [if_neg (by rw [z]; decide), e], cb2.put (by omega) (by omega), (ct1.rd f2 (by unfold yRd; omega)).setM, ?_⟩⟩
      rw [mup_off (by omega), f2 2 9 (by unfold yRd; omega)]; exact e9
theorem c_lseed (h : yCB M b n t p) (ct : yCT M t T) {u : Nat} (hu : u < 1048576) (eu : M.1 2 9 = Int32.ofNat u) (hk : ytk b n p = 8) : zwp (m_X4_readSeed M) (fun _ M' => yLo2 b n t (u ||| 2 ^ 8) (aonce b n u 8 0 99999 (fun _ => T) p) M M') := by
  have ib := h.2.2.2.2.1.or5
  have wk : ∀ {M1 M2 : zMem}, zfr yRd M1 M2 → zfr (yCLo t) M1 M2 := fun fr => zfr_weak fr (by unfold yRd yCLo yCLn; omega)
  unfold m_X4_readSeed
  refine c_once h hu eu hk (by decide) (fun z M1 cg f1 => ?_) (fun z M1 cb1 e9 f1 kt => ?_)
  · rw [c_number_f cg.1, mbd_some]
    exact zwp_ret ⟨f1, Or.inl ⟨_, by unfold aonce; rw [if_pos z], cg⟩⟩
  · have ct1 := kt T ct
    refine c_num cb1 (lo := 0) (hi := 99999) (by decide) (by decide) (fun f M2 e cg f2 => ?_) (fun d p' M2 e cb2 _ f2 => ?_)
    · exact zwp_ret ⟨zfr_trans f1 (wk f2), Or.inl ⟨f, by unfold aonce; rw [if_neg (by rw [z]; decide), e], cg⟩⟩
    · refine zwp_ret ⟨zfr_trans f1 (wk f2), Or.inr ⟨p', _, by unfold aonce; rw [if_neg (by rw [z]; decide), e], cb2, ct1.rd f2 (by unfold yRd; omega), ?_⟩⟩
      rw [f2 2 9 (by unfold yRd; omega)]; exact e9
end

/-! a line, whole -/
abbrev ySt : Type := Nat × yT × Nat × (Nat → Nat) × Nat
def alift (A : yLE (Nat × yT)) (K : Nat) (la : Nat → Nat) (u : Nat) : yLE ySt := match A with
  | .inl f => .inl f
  | .inr (p', T') => .inr (p', T', K, la, u)
def aline (b : Nat → Nat) (n p : Nat) (T : yT) (K : Nat) (la : Nat → Nat) (u : Nat) : yLE ySt :=
  if ytk b n p = 0 then alift (aground b n T 1 p) K la u
  else if ytk b n p = 1 then alift (aground b n T 2 p) K la u
  else if ytk b n p = 2 then alift (afield b n T p) K la u
  else if ytk b n p = 3 then alift (acloud b n T p) K la u
  else if ytk b n p = 4 then alift (achild b n T p) K la u
  else if ytk b n p = 5 then alift (awind b n T p) K la u
  else if ytk b n p = 6 then alift (aonce b n u 6 1 20 T.setR p) K la (u ||| 2 ^ 6)
  else if ytk b n p = 7 then alift (aonce b n u 7 1 9 T.setM p) K la (u ||| 2 ^ 7)
  else if ytk b n p = 8 then alift (aonce b n u 8 0 99999 (fun _ => T) p) K la (u ||| 2 ^ 8)
  else if ytk b n p = 9 then (match alaw b n T K p with
    | .inl f => .inl f
    | .inr (p', k, out) => .inr (p', T.addL k out (K + out.length), K + out.length, yust la k K, u))
  else .inl (1, ypl b n p)
def yCV (M : zMem) (b : Nat → Nat) (n t p : Nat) (T : yT) (K : Nat) (la : Nat → Nat) (u : Nat) : Prop := yCB M b n t p ∧ yCQ M t T K la ∧ M.1 2 9 = Int32.ofNat u ∧ u < 1048576 ∧ yTi T
def yCLa (t : Nat) (k i : Nat) : Prop := (k = 2 ∧ (3 ≤ i ∧ i ≤ 9 ∨ 12 ≤ i)) ∨ k = 23 ∨ (t ≤ k ∧ k ≤ t + 16)
def yLq (b : Nat → Nat) (n t : Nat) (A : yLE ySt) (M M' : zMem) : Prop := zfr (yCLa t) M M' ∧ ((∃ f, A = .inl f ∧ yCG M' t f) ∨ ∃ p' T' K' la' u', A = .inr (p', T', K', la', u') ∧ yCV M' b n t p' T' K' la' u')
section
variable {M M' : zMem} {b : Nat → Nat} {n t p : Nat} {T : yT} {K : Nat} {la : Nat → Nat} {u : Nat}
theorem yCQ.go {T' : yT} {P : Nat → Nat → Prop} (cq : yCQ M t T K la) (fr : zfr P M M') (hP : ∀ k i, P k i → k < t + 13) (ct : yCT M' t T') (k1 : T'.knots = T.knots) (k2 : T'.law = T.law) : yCQ M' t T' K la := by
  refine ⟨ct, ?_, k1.trans cq.2.2.1, cq.2.2.2.1, fun k hk => ?_⟩
  · rw [fr _ _ (fun z => by have := hP _ _ z; omega)]; exact cq.2.1
  · rw [k2, fr _ _ (fun z => by have := hP _ _ z; omega)]; exact cq.2.2.2.2 k hk
theorem yLp.go {A : yLE (Nat × yT)} (cv : yCV M b n t p T K la u) (lp : yLp b n t A M M') (ok : ∀ p' T', A = .inr (p', T') → yLk T T') : yLq b n t (alift A K la u) M M' := by
  have ib := cv.1.2.2.2.2.1.or5
  obtain ⟨fr, ⟨f, e, cg⟩ | ⟨p', T', e, cb, ct⟩⟩ := lp
  · exact ⟨zfr_weak fr (by unfold yCLn yCLa; omega), Or.inl ⟨f, by unfold alift; rw [e], cg⟩⟩
  · have k := ok p' T' e
    exact ⟨zfr_weak fr (by unfold yCLn yCLa; omega), Or.inr ⟨p', T', K, la, u, by unfold alift; rw [e], cb, cv.2.1.go fr (by unfold yCLn; omega) ct k.2.1 k.2.2, by rw [fr _ _ (by unfold yCLn; omega)]; exact cv.2.2.1, cv.2.2.2.1, k.1⟩⟩
theorem yLo2.go {A : yLE (Nat × yT)} {u' : Nat} (cv : yCV M b n t p T K la u) (hu : u' < 1048576) (lp : yLo2 b n t u' A M M') (ok : ∀ p' T', A = .inr (p', T') → yLk T T') : yLq b n t (alift A K la u') M M' := by
  have ib := cv.1.2.2.2.2.1.or5
  obtain ⟨fr, ⟨f, e, cg⟩ | ⟨p', T', e, cb, ct, e9⟩⟩ := lp
  · exact ⟨zfr_weak fr (by unfold yCLo yCLn yCLa; omega), Or.inl ⟨f, by unfold alift; rw [e], cg⟩⟩
  · have k := ok p' T' e
    exact ⟨zfr_weak fr (by unfold yCLo yCLn yCLa; omega), Or.inr ⟨p', T', K, la, u', by unfold alift; rw [e], cb, cv.2.1.go fr (by unfold yCLo yCLn; omega) ct k.2.1 k.2.2, e9, hu, k.1⟩⟩
theorem c_line (cv : yCV M b n t p T K la u) : zwp (m_X4_readLine M) (fun _ M' => yLq b n t (aline b n p T K la u) M M') := by
  have cv' := cv
  obtain ⟨cb, cq, e9, hu, ti⟩ := cv
  have ib := cb.2.2.2.2.1.or5
  have tk : ∀ c, c < 40 → ((M.1 2 4 = Int32.ofNat c) ↔ ytk b n p = c) := fun c hc => cb.tk hc
  unfold m_X4_readLine aline
  have q0 : (M.1 2 4 = 0) ↔ ytk b n p = 0 := tk 0 (by decide)
  have q1 : (M.1 2 4 = 1) ↔ ytk b n p = 1 := tk 1 (by decide)
  have q2 : (M.1 2 4 = 2) ↔ ytk b n p = 2 := tk 2 (by decide)
  have q3 : (M.1 2 4 = 3) ↔ ytk b n p = 3 := tk 3 (by decide)
  have q4 : (M.1 2 4 = 4) ↔ ytk b n p = 4 := tk 4 (by decide)
  have q5 : (M.1 2 4 = 5) ↔ ytk b n p = 5 := tk 5 (by decide)
  have q6 : (M.1 2 4 = 6) ↔ ytk b n p = 6 := tk 6 (by decide)
  have q7 : (M.1 2 4 = 7) ↔ ytk b n p = 7 := tk 7 (by decide)
  have q8 : (M.1 2 4 = 8) ↔ ytk b n p = 8 := tk 8 (by decide)
  have q9 : (M.1 2 4 = 9) ↔ ytk b n p = 9 := tk 9 (by decide)
  by_cases z : ytk b n p = 0
  · rw [if_pos (q0.mpr z), if_pos z]
    exact zwp_bd (c_lground cb cq.1 1) (fun _ M' lp => zwp_ret (lp.go cv' (fun p' T' e => aground_ok ti (Or.inl rfl) e)))
  rw [if_neg (fun y => z (q0.mp y)), if_neg z]
  clear z
  by_cases z : ytk b n p = 1
  · rw [if_pos (q1.mpr z), if_pos z]
    exact zwp_bd (c_lground cb cq.1 2) (fun _ M' lp => zwp_ret (lp.go cv' (fun p' T' e => aground_ok ti (Or.inr rfl) e)))
  rw [if_neg (fun y => z (q1.mp y)), if_neg z]
  clear z
  by_cases z : ytk b n p = 2
  · rw [if_pos (q2.mpr z), if_pos z]
    exact zwp_bd (c_field cb cq.1 ti.1.nf) (fun _ M' lp => zwp_ret (lp.go cv' (fun p' T' e => afield_ok ti e)))
  rw [if_neg (fun y => z (q2.mp y)), if_neg z]
  clear z
  by_cases z : ytk b n p = 3
  · rw [if_pos (q3.mpr z), if_pos z]
    exact zwp_bd (c_cloud cb cq.1 ti.1.nc) (fun _ M' lp => zwp_ret (lp.go cv' (fun p' T' e => acloud_ok ti e)))
  rw [if_neg (fun y => z (q3.mp y)), if_neg z]
  clear z
  by_cases z : ytk b n p = 4
  · rw [if_pos (q4.mpr z), if_pos z]
    exact zwp_bd (c_child cb cq.1 ti.1.nh) (fun _ M' lp => zwp_ret (lp.go cv' (fun p' T' e => achild_ok ti e)))
  rw [if_neg (fun y => z (q4.mp y)), if_neg z]
  clear z
  by_cases z : ytk b n p = 5
  · rw [if_pos (q5.mpr z), if_pos z]
    exact zwp_bd (c_lwind cb cq.1 ti.1.nw) (fun _ M' lp => zwp_ret (lp.go cv' (fun p' T' e => awind_ok ti e)))
  rw [if_neg (fun y => z (q5.mp y)), if_neg z]
  clear z
  by_cases z : ytk b n p = 6
  · rw [if_pos (q6.mpr z), if_pos z]
    exact zwp_bd (c_lrain cb cq.1 hu e9 z) (fun _ M' lp => zwp_ret (lp.go cv' (ybt_o hu (by decide)).2 (fun p' T' e => aonce_ok (fun d _ _ => ti.setR) e)))
  rw [if_neg (fun y => z (q6.mp y)), if_neg z]
  clear z
  by_cases z : ytk b n p = 7
  · rw [if_pos (q7.mpr z), if_pos z]
    exact zwp_bd (c_lmost cb cq.1 hu e9 z) (fun _ M' lp => zwp_ret (lp.go cv' (ybt_o hu (by decide)).2 (fun p' T' e => aonce_ok (fun d h1 h2 => ti.setM h1 h2) e)))
  rw [if_neg (fun y => z (q7.mp y)), if_neg z]
  clear z
  by_cases z : ytk b n p = 8
  · rw [if_pos (q8.mpr z), if_pos z]
    exact zwp_bd (c_lseed cb cq.1 hu e9 z) (fun _ M' lp => zwp_ret (lp.go cv' (ybt_o hu (by decide)).2 (fun p' T' e => aonce_ok (fun d _ _ => ⟨ti, rfl, rfl⟩) e)))
  rw [if_neg (fun y => z (q8.mp y)), if_neg z]
  clear z
  by_cases z : ytk b n p = 9
  · rw [if_pos (q9.mpr z), if_pos z]
    refine zwp_bd (c_llaw cb cq) (fun _ M' lp => zwp_ret ?_)
    obtain ⟨fr, ⟨f, e, cg⟩ | ⟨p', k, out, hk, e, wf, cb', cq'⟩⟩ := lp
    · exact ⟨zfr_weak fr (by unfold yCLl yCLa; omega), Or.inl ⟨f, by rw [e], cg⟩⟩
    · exact ⟨zfr_weak fr (by unfold yCLl yCLa; omega), Or.inr ⟨p', _, _, _, u, by rw [e], cb', cq', by rw [fr _ _ (by unfold yCLl; omega)]; exact e9, hu, ti.addL wf⟩⟩
  rw [if_neg (fun y => z (q9.mp y)), if_neg z]
  exact zwp_bd (cb.fail (k := 1) (by omega)) (fun _ M' y => zwp_ret ⟨zfr_weak y.2 (by unfold yRd yCLa; omega), Or.inl ⟨_, rfl, y.1⟩⟩)
/-- and its end -/
def alend (b : Nat → Nat) (n : Nat) (A : yLE ySt) : yLE ySt := match A with
  | .inl f => .inl f
  | .inr (p, s) => if ytk b n p = 35 then .inr (ynx b n p, s) else .inl (1, ypl b n p)
theorem c_expect {A : yLE ySt} (lq : yLq b n t A M M') : zwp (m_X4_expect 35 M') (fun _ M2 => yLq b n t (alend b n A) M M2) := by
  unfold m_X4_expect
  obtain ⟨fr, ⟨f, e, cg⟩ | ⟨p', T', K', la', u', e, cb, cq, e9, hu, ti⟩⟩ := lq
  · rw [cg.1.2.2.2, if_neg (by decide), c_fail_f cg.1, mbd_some]
    exact zwp_ret ⟨fr, Or.inl ⟨f, by unfold alend; rw [e], cg⟩⟩
  · have ib := cb.2.2.2.2.1.or5
    have q35 : (M'.1 2 4 = 35) ↔ ytk b n p' = 35 := cb.tk (c := 35) (by decide)
    by_cases z : ytk b n p' = 35
    · rw [if_pos (q35.mpr z)]
      refine zwp_bd cb.adv (fun _ M2 y => zwp_ret ⟨zfr_trans fr (zfr_weak y.2 (by unfold yRA yCLa; omega)), Or.inr ⟨ynx b n p', T', K', la', u', by unfold alend; rw [e]; simp only; rw [if_pos z], y.1, cq.go y.2 (by unfold yRA; omega) (cq.1.rd y.2 (by unfold yRA; omega)) rfl rfl, by rw [y.2 _ _ (by unfold yRA; omega)]; exact e9, hu, ti⟩⟩)
    · rw [if_neg (fun y => z (q35.mp y))]
      exact zwp_bd (cb.fail (k := 1) (by omega)) (fun _ M2 y => zwp_ret ⟨zfr_trans fr (zfr_weak y.2 (by unfold yRd yCLa; omega)), Or.inl ⟨_, by unfold alend; rw [e]; simp only; rw [if_neg z], y.1⟩⟩)
end

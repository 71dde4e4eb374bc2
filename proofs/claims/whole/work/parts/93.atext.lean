/-! a line goes on -/
theorem ynx_ge {b : Nat → Nat} {n p : Nat} (hb : ∀ i, i < n → b i < 256) (hp : p ≤ n) : p ≤ ynx b n p ∧ ynx b n p ≤ n :=
  ⟨Nat.le_trans (ypl_le (b := b) hp).1 (ynx_le hb hp).1, (ynx_le hb hp).2.1⟩
theorem ytk_n {b : Nat → Nat} {n : Nat} : ytk b n n = 38 := by
  have h : ¬ ypl b n n < n := by have := (ypl_le (b := b) (Nat.le_refl n)).1; omega
  unfold ytk
  rw [if_neg h]
section
variable {b : Nat → Nat} {n p p' : Nat} {T T' : yT}
theorem anum_p (hb : ∀ i, i < n → b i < 256) (hp : p ≤ n) {lo hi x : Nat} (e : anum b n lo hi p = .inr (x, p')) : p ≤ p' ∧ p' ≤ n := by
  rw [(anum_inr e).2.2.2.1]
  exact ynx_ge hb hp
theorem acell_p (hb : ∀ i, i < n → b i < 256) (hp : p ≤ n) {c q : Nat} (e : acell b n p = .inr (c, q, p')) : p ≤ p' ∧ p' ≤ n := by
  unfold acell at e
  cases e1 : anum b n 0 5 p with
  | inl f => rw [e1] at e; cases e
  | inr x =>
    obtain ⟨x, p1⟩ := x
    rw [e1] at e
    simp only at e
    have g1 := anum_p hb hp e1
    cases e2 : anum b n 0 3 p1 with
    | inl f => rw [e2] at e; cases e
    | inr y =>
      obtain ⟨y, p2⟩ := y
      rw [e2] at e
      have g2 := anum_p hb g1.2 e2
      cases e
      exact ⟨by omega, g2.2⟩
theorem aname_p (hb : ∀ i, i < n → b i < 256) (hp : p ≤ n) {f : Nat → Int32} {m x : Nat} (e : aname b n f m p = .inr (x, p')) : p ≤ p' ∧ p' ≤ n := by
  unfold aname at e
  split at e
  · split at e
    · cases e
      exact ynx_ge hb hp
    · cases e
  · cases e
theorem aground_p (hb : ∀ i, i < n → b i < 256) (hp : p ≤ n) {v : Int32} (e : aground b n T v p = .inr (p', T')) : p ≤ p' ∧ p' ≤ n := by
  have g0 := ynx_ge hb hp
  unfold aground at e
  cases e2 : acell b n (ynx b n p) with
  | inl f => rw [e2] at e; cases e
  | inr y =>
    obtain ⟨c, q, p2⟩ := y
    rw [e2] at e
    simp only at e
    have g1 := acell_p hb g0.2 e2
    split at e
    · cases e
      exact ⟨by omega, g1.2⟩
    · cases e
theorem awind_p (hb : ∀ i, i < n → b i < 256) (hp : p ≤ n) (e : awind b n T p = .inr (p', T')) : p ≤ p' ∧ p' ≤ n := by
  have g0 := ynx_ge hb hp
  unfold awind at e
  split at e
  · cases e
  · cases e3 : anum b n 0 4 (ynx b n p) with
    | inl f => rw [e3] at e; cases e
    | inr y =>
      obtain ⟨d, p3⟩ := y
      rw [e3] at e
      have g1 := anum_p hb g0.2 e3
      cases e
      exact ⟨by omega, g1.2⟩
theorem aonce_p (hb : ∀ i, i < n → b i < 256) (hp : p ≤ n) {u k lo hi : Nat} {F : Int32 → yT} (e : aonce b n u k lo hi F p = .inr (p', T')) : p ≤ p' ∧ p' ≤ n := by
  have g0 := ynx_ge hb hp
  unfold aonce at e
  split at e
  · cases e
  · cases e3 : anum b n lo hi (ynx b n p) with
    | inl f => rw [e3] at e; cases e
    | inr y =>
      obtain ⟨d, p3⟩ := y
      rw [e3] at e
      have g1 := anum_p hb g0.2 e3
      cases e
      exact ⟨by omega, g1.2⟩
theorem afield_p (hb : ∀ i, i < n → b i < 256) (hp : p ≤ n) (e : afield b n T p = .inr (p', T')) : p ≤ p' ∧ p' ≤ n := by
  have g0 := ynx_ge hb hp
  unfold afield at e
  split at e
  · cases e
  · cases e1 : aname b n T.fname T.nf (ynx b n p) with
    | inl f => rw [e1] at e; cases e
    | inr x =>
      obtain ⟨x, p1⟩ := x
      rw [e1] at e
      simp only at e
      have g1 := aname_p hb g0.2 e1
      cases e2 : acell b n p1 with
      | inl f => rw [e2] at e; cases e
      | inr y =>
        obtain ⟨c, q, p2⟩ := y
        rw [e2] at e
        simp only at e
        have g2 := acell_p hb g1.2 e2
        cases e3 : anum b n 0 99 p2 with
        | inl f => rw [e3] at e; cases e
        | inr y =>
          obtain ⟨d, p3⟩ := y
          rw [e3] at e
          have g3 := anum_p hb g2.2 e3
          cases e
          exact ⟨by omega, g3.2⟩
theorem achild_p (hb : ∀ i, i < n → b i < 256) (hp : p ≤ n) (e : achild b n T p = .inr (p', T')) : p ≤ p' ∧ p' ≤ n := by
  have g0 := ynx_ge hb hp
  unfold achild at e
  split at e
  · cases e
  · cases e1 : aname b n T.hname T.nh (ynx b n p) with
    | inl f => rw [e1] at e; cases e
    | inr x =>
      obtain ⟨x, p1⟩ := x
      rw [e1] at e
      simp only at e
      have g1 := aname_p hb g0.2 e1
      cases e2 : acell b n p1 with
      | inl f => rw [e2] at e; cases e
      | inr y =>
        obtain ⟨c, q, p2⟩ := y
        rw [e2] at e
        simp only at e
        have g2 := acell_p hb g1.2 e2
        cases e3 : anum b n 0 9 p2 with
        | inl f => rw [e3] at e; cases e
        | inr y =>
          obtain ⟨d, p3⟩ := y
          rw [e3] at e
          have g3 := anum_p hb g2.2 e3
          cases e
          exact ⟨by omega, g3.2⟩
theorem acloud_p (hb : ∀ i, i < n → b i < 256) (hp : p ≤ n) (e : acloud b n T p = .inr (p', T')) : p ≤ p' ∧ p' ≤ n := by
  have g0 := ynx_ge hb hp
  unfold acloud at e
  split at e
  · cases e
  · cases e1 : aname b n T.cname T.nc (ynx b n p) with
    | inl f => rw [e1] at e; cases e
    | inr x =>
      obtain ⟨x, p1⟩ := x
      rw [e1] at e
      simp only at e
      have g1 := aname_p hb g0.2 e1
      cases e2 : acell b n p1 with
      | inl f => rw [e2] at e; cases e
      | inr y =>
        obtain ⟨c, q, p2⟩ := y
        rw [e2] at e
        simp only at e
        have g2 := acell_p hb g1.2 e2
        cases e3 : anum b n 1 9 p2 with
        | inl f => rw [e3] at e; cases e
        | inr y =>
          obtain ⟨d, p3⟩ := y
          rw [e3] at e
          simp only at e
          have g3 := anum_p hb g2.2 e3
          cases e4 : anum b n 0 99 p3 with
          | inl f => rw [e4] at e; cases e
          | inr y =>
            obtain ⟨d2, p4⟩ := y
            rw [e4] at e
            have g4 := anum_p hb g3.2 e4
            cases e
            exact ⟨by omega, g4.2⟩
theorem ystp_e {X : yX} {o : List yK × Nat × Nat} (h : ystp b n X = .inl (.inr o)) : o.2.1 = X.2.1 := by
  obtain ⟨m, p, w, out, cnt, opn⟩ := X
  cases m with
  | true =>
    rw [ystp_a] at h
    repeat' split at h
    all_goals cases h
  | false =>
    rw [ystp_n] at h
    repeat' split at h
    all_goals first | (cases h; rfl) | cases h
theorem yrX_p (hb : ∀ i, i < n → b i < 256) : ∀ k (X : yX), X.2.1 ≤ n → ∀ o, yrX b n k X = .inr o → X.2.1 ≤ o.2.1 ∧ o.2.1 ≤ n := by
  intro k
  induction k with
  | zero => intro X _ o h; cases h
  | succ k ih =>
    intro X hX o h
    have h : (match ystp b n X with | .inl r => r | .inr X' => yrX b n k X') = .inr o := h
    cases e : ystp b n X with
    | inl r =>
      rw [e] at h
      have h : r = .inr o := h
      rw [h] at e
      rw [ystp_e e]
      exact ⟨Nat.le_refl _, hX⟩
    | inr X' =>
      rw [e] at h
      have g := ystp_p hb hX e
      have q := ih X' g.2 o h
      exact ⟨by omega, q.2⟩
theorem alift_p {A : yLE (Nat × yT)} {K u : Nat} {la : Nat → Nat} {s : yT × Nat × (Nat → Nat) × Nat} (e : alift A K la u = .inr (p', s)) (g : ∀ T', A = .inr (p', T') → p ≤ p' ∧ p' ≤ n) : p ≤ p' ∧ p' ≤ n := by
  unfold alift at e
  cases A with
  | inl f => cases e
  | inr x =>
    obtain ⟨q, T'⟩ := x
    cases e
    exact g T' rfl
theorem aline_p (hb : ∀ i, i < n → b i < 256) (hp : p ≤ n) {K u : Nat} {la : Nat → Nat} {s : yT × Nat × (Nat → Nat) × Nat} (e : aline b n p T K la u = .inr (p', s)) : p ≤ p' ∧ p' ≤ n := by
  by_cases h10 : ytk b n p < 10
  · rcases (show ytk b n p = 0 ∨ ytk b n p = 1 ∨ ytk b n p = 2 ∨ ytk b n p = 3 ∨ ytk b n p = 4 ∨ ytk b n p = 5 ∨ ytk b n p = 6 ∨ ytk b n p = 7 ∨ ytk b n p = 8 ∨ ytk b n p = 9 by omega) with z | z | z | z | z | z | z | z | z | z
    · rw [aline_0 z] at e; exact alift_p e (fun T' e => aground_p hb hp e)
    · rw [aline_1 z] at e; exact alift_p e (fun T' e => aground_p hb hp e)
    · rw [aline_2 z] at e; exact alift_p e (fun T' e => afield_p hb hp e)
    · rw [aline_3 z] at e; exact alift_p e (fun T' e => acloud_p hb hp e)
    · rw [aline_4 z] at e; exact alift_p e (fun T' e => achild_p hb hp e)
    · rw [aline_5 z] at e; exact alift_p e (fun T' e => awind_p hb hp e)
    · rw [aline_6 z] at e; exact alift_p e (fun T' e => aonce_p hb hp e)
    · rw [aline_7 z] at e; exact alift_p e (fun T' e => aonce_p hb hp e)
    · rw [aline_8 z] at e; exact alift_p e (fun T' e => aonce_p hb hp e)
    · rw [aline_9 z] at e
      have g0 := ynx_ge hb hp
      have g1 := ynx_ge hb g0.2
      cases e1 : alaw b n T K p with
      | inl f => rw [e1] at e; cases e
      | inr x =>
        obtain ⟨q, k, out⟩ := x
        rw [e1] at e
        cases e
        unfold alaw at e1
        split at e1
        · split at e1
          · cases e2 : yrZ b n (true, ynx b n (ynx b n p), [], [], K, 0) with
            | inl f => rw [e2] at e1; cases e1
            | inr o =>
              obtain ⟨o1, o2, o3⟩ := o
              rw [e2] at e1
              cases e1
              unfold yrZ at e2
              have g2 := yrX_p hb _ (true, ynx b n (ynx b n p), [], [], K, 0) g1.2 _ e2
              exact ⟨Nat.le_trans g0.1 (Nat.le_trans g1.1 g2.1), g2.2⟩
          · cases e1
        · cases e1
  · rw [aline_n h10] at e; cases e
theorem alend_p (hb : ∀ i, i < n → b i < 256) (hp : p ≤ n) {K u : Nat} {la : Nat → Nat} {s : yT × Nat × (Nat → Nat) × Nat} (e : alend b n (aline b n p T K la u) = .inr (p', s)) : p < p' ∧ p' ≤ n := by
  unfold alend at e
  cases e1 : aline b n p T K la u with
  | inl f => rw [e1] at e; cases e
  | inr x =>
    obtain ⟨q, s'⟩ := x
    rw [e1] at e
    simp only at e
    have g := aline_p hb hp e1
    split at e
    · rename_i z
      cases e
      have g2 := ynx_le hb g.2
      exact ⟨by have := g2.2.2 (by omega); omega, g2.2.1⟩
    · cases e
end
/-! a text, line by line -/
def atx (b : Nat → Nat) (n : Nat) : Nat → Nat → ySt → yLE (Nat × ySt)
  | 0, _, _ => .inl (0, 0)
  | fu + 1, ln, s => if ytk b n s.1 = 38 then .inr (ln, s) else match alend b n (aline b n s.1 s.2.1 s.2.2.1 s.2.2.2.1 s.2.2.2.2) with
    | .inl f => .inl f
    | .inr s' => atx b n fu (ln + 1) s'
section
variable {M : zMem} {b : Nat → Nat} {n t p : Nat} {T : yT} {K : Nat} {la : Nat → Nat} {u : Nat} {R : yLE (Nat × ySt)}
theorem atx_end {fu ln : Nat} {s : ySt} (h : ytk b n s.1 = 38) (e : atx b n (fu + 1) ln s = R) : R = .inr (ln, s) := by
  rw [← e]
  show (if ytk b n s.1 = 38 then _ else _) = _
  rw [if_pos h]
theorem atx_go {fu ln : Nat} {s : ySt} (h : ¬ ytk b n s.1 = 38) (e : atx b n (fu + 1) ln s = R) : (match alend b n (aline b n s.1 s.2.1 s.2.2.1 s.2.2.2.1 s.2.2.2.2) with | .inl f => .inl f | .inr s' => atx b n fu (ln + 1) s') = R := by
  rw [← e]
  show _ = (if ytk b n s.1 = 38 then _ else _)
  rw [if_neg h]
def yCt1 (b : Nat → Nat) (n t : Nat) (R : yLE (Nat × ySt)) (M0 : zMem) (d : Nat) (s : Int32 × Int32) (M1 : zMem) : Prop :=
  zfr (yCLa t) M0 M1 ∧ ((∃ ln fu p T K la u, d = n - p + 1 ∧ s = (Int32.ofNat ln, Int32.ofNat ln) ∧ ln ≤ p ∧ n - p < fu ∧ atx b n fu ln (p, T, K, la, u) = R ∧ yCV M1 b n t p T K la u) ∨ ∃ f, d = 0 ∧ R = .inl f ∧ yCG M1 t f)
def yCtq (b : Nat → Nat) (n t : Nat) (R : yLE (Nat × ySt)) (M0 : zMem) (v : Int32) (M1 : zMem) : Prop :=
  zfr (yCLa t) M0 M1 ∧ ((∃ f, R = .inl f ∧ yCG M1 t f) ∨ ∃ ln p T K la u, ln ≤ 700 ∧ v = Int32.ofNat ln ∧ R = .inr (ln, p, T, K, la, u) ∧ yCV M1 b n t p T K la u)
theorem c_lines (cv : yCV M b n t p T K la u) (hR : atx b n 701 0 (p, T, K, la, u) = R) : zwp (
  mlp (σ := (Int32 × Int32)) (β := (Int32 × Int32)) zLF (fun s13 M14 =>
  if (M14.1 2 2) ≤ s13.2 then
  some ((.inr (s13.1, s13.2)), M14)
  else
  if (M14.1 2 14) = 0 then
  if (M14.1 2 4) = 38 then
  some ((.inr (s13.1, s13.2)), M14)
  else
  mbd (m_X4_readLine  M14) (fun v21 M20 =>
  mbd (m_X4_expect 35 M20) (fun v23 M22 =>
  some ((.inl ((s13.1 + 1), (s13.2 + 1))), M22)))
  else
  some ((.inr (s13.1, s13.2)), M14)) (0, 0) M) (fun e M' => yCtq b n t R M e.1 M') := by
  have hn : n ≤ 700 := cv.1.1.1
  have hb := cv.1.hb
  refine zwp_lp (yCt1 b n t R M) ?_ (n - p + 1) (0, 0) M ⟨zfr_refl, Or.inl ⟨0, 701, p, T, K, la, u, rfl, rfl, Nat.zero_le _, by omega, hR, cv⟩⟩ (by show _ < 100000; omega)
  rintro d s M1 ⟨fr, ⟨ln, fu, p, T, K, la, u, rfl, rfl, hl, hf, e, cv1⟩ | ⟨f, rfl, e, cg⟩⟩
  · obtain ⟨fu, rfl⟩ : ∃ k, fu = k + 1 := ⟨fu - 1, by omega⟩
    have pn : p ≤ n := cv1.1.2.2.2.1.1
    have fin : ytk b n p = 38 → yCtq b n t R M (Int32.ofNat ln) M1 := fun z =>
      ⟨fr, Or.inr ⟨ln, p, T, K, la, u, by omega, rfl, atx_end (s := (p, T, K, la, u)) z e, cv1⟩⟩
    show zwp (if (M1.1 2 2) ≤ Int32.ofNat ln then _ else _) _
    rw [cv1.1.2.1.2.1]
    by_cases q1 : n ≤ ln
    · rw [if_pos (by rw [zi_le (by omega) (by omega)]; exact q1)]
      exact zwp_ret (fin (by rw [show p = n by omega]; exact ytk_n))
    · rw [if_neg (by rw [zi_le (by omega) (by omega)]; exact q1), if_pos cv1.1.2.2.1]
      have q38 : (M1.1 2 4 = 38) ↔ ytk b n p = 38 := cv1.1.tk (c := 38) (by decide)
      by_cases z : ytk b n p = 38
      · rw [if_pos (q38.mpr z)]
        exact zwp_ret (fin z)
      · rw [if_neg (fun y => z (q38.mp y))]
        have e2 := atx_go (s := (p, T, K, la, u)) z e
        simp only at e2
        refine zwp_bd (c_line cv1) (fun _ M2 lq => zwp_bd (c_expect lq) (fun _ M3 lq3 => ?_))
        obtain ⟨f3, ⟨f, ea, cg⟩ | ⟨p', T', K', la', u', ea, cv3⟩⟩ := lq3
        · rw [ea] at e2
          exact zwp_ret ⟨0, by omega, zfr_trans fr f3, Or.inr ⟨f, rfl, e2.symm, cg⟩⟩
        · rw [ea] at e2
          have g := alend_p hb pn ea
          exact zwp_ret ⟨n - p' + 1, by omega, zfr_trans fr f3, Or.inl ⟨ln + 1, fu, p', T', K', la', u', rfl, by rw [yi_nn], by omega, by omega, e2, cv3⟩⟩
  · show zwp (if (M1.1 2 2) ≤ s.2 then _ else _) _
    have fin : yCtq b n t R M s.1 M1 := ⟨fr, Or.inl ⟨f, e, cg⟩⟩
    by_cases q : M1.1 2 2 ≤ s.2
    · rw [if_pos q]; exact zwp_ret fin
    · rw [if_neg q, if_neg cg.1.ne]; exact zwp_ret fin
def yRt1 (b : Nat → Nat) (n : Nat) (R : yLE (Nat × ySt)) (M0 : zMem) (d : Nat) (_s : Unit) (M1 : zMem) : Prop :=
  zfr yRLa M0 M1 ∧ ((∃ ln fu p T K la u, d = n - p + 1 ∧ M1.1 213 21 = Int32.ofNat ln ∧ n - p < fu ∧ atx b n fu ln (p, T, K, la, u) = R ∧ yRV M1 b n p T K la u) ∨ ∃ f, d = 0 ∧ R = .inl f ∧ yRF M1 f)
def yRtq (b : Nat → Nat) (n : Nat) (R : yLE (Nat × ySt)) (M0 : zMem) (M1 : zMem) : Prop :=
  zfr yRLa M0 M1 ∧ ((∃ f, R = .inl f ∧ yRF M1 f) ∨ ∃ ln p T K la u, M1.1 213 21 = Int32.ofNat ln ∧ R = .inr (ln, p, T, K, la, u) ∧ yRV M1 b n p T K la u)
theorem r_lines (rv : yRV M b n p T K la u) (h21 : M.1 213 21 = 0) (hR : atx b n 701 0 (p, T, K, la, u) = R) : zwp (
  mlp (σ := Unit) (β := Unit) zLF (fun s36 M37 =>
  if (M37.1 213 27) = 0 then
  if (M37.1 213 25) = 4 then
  some ((.inr ()), M37)
  else
  mbd (m_X8_line  M37) (fun v43 M42 =>
  some ((.inl ()), M42))
  else
  some ((.inr ()), M37)) () M) (fun _ M' => yRtq b n R M M') := by
  have hn : n ≤ 700 := rv.1.1.1
  have hb := rv.1.hb
  refine zwp_lp (yRt1 b n R M) ?_ (n - p + 1) () M ⟨zfr_refl, Or.inl ⟨0, 701, p, T, K, la, u, rfl, h21, by omega, hR, rv⟩⟩ (by show _ < 100000; omega)
  rintro d s M1 ⟨fr, ⟨ln, fu, p, T, K, la, u, rfl, hl, hf, e, rv1⟩ | ⟨f, rfl, e, fl⟩⟩
  · obtain ⟨fu, rfl⟩ : ∃ k, fu = k + 1 := ⟨fu - 1, by omega⟩
    have pn : p ≤ n := rv1.1.2.2.2.1
    have lt := ytk_lt hb (p := p)
    have s3 := ysrt_3 _ lt
    show zwp (if (M1.1 213 27) = 0 then _ else _) _
    rw [if_pos rv1.1.2.2.1, rv1.1.2.2.2.2.2.2.1]
    by_cases z : ytk b n p = 38
    · rw [if_pos (by rw [s3.2.2.2.2.mpr z]; rfl)]
      exact zwp_ret ⟨fr, Or.inr ⟨ln, p, T, K, la, u, hl, atx_end (s := (p, T, K, la, u)) z e, rv1⟩⟩
    · rw [if_neg (by rw [show (4 : Int32) = Int32.ofNat 4 from rfl, ysr_eq _ (by omega)]; exact fun y => z (s3.2.2.2.2.mp y))]
      have e2 := atx_go (s := (p, T, K, la, u)) z e
      simp only at e2
      refine zwp_bd (r_line rv1) (fun _ M3 lq3 => ?_)
      obtain ⟨f3, ⟨f, ea, fl⟩ | ⟨p', T', K', la', u', ea, rv3, l3⟩⟩ := lq3
      · rw [ea] at e2
        exact zwp_ret ⟨0, by omega, zfr_trans fr f3, Or.inr ⟨f, rfl, e2.symm, fl⟩⟩
      · rw [ea] at e2
        have g := alend_p hb pn ea
        exact zwp_ret ⟨n - p' + 1, by omega, zfr_trans fr f3, Or.inl ⟨ln + 1, fu, p', T', K', la', u', rfl, by rw [l3, hl, yi_nn], by omega, e2, rv3⟩⟩
  · show zwp (if (M1.1 213 27) = 0 then _ else _) _
    rw [if_neg fl.ne]
    exact zwp_ret ⟨fr, Or.inl ⟨f, e, fl⟩⟩
end

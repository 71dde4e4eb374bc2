/-! the class's line of a law -/
def yT.addL (T : yT) (k : Nat) (l : List yK) (kn : Nat) : yT := yT.mk T.nc T.nh T.nf T.nw T.rain T.most (Int32.ofNat kn) T.ground T.fname T.fcell T.need T.cname T.ccell T.bsize T.bat T.hname T.hcell T.sight T.wind (yust T.law k l)
def alaw (b : Nat → Nat) (n : Nat) (T : yT) (K p : Nat) : yLE (Nat × Nat × List yK) :=
  if 10 ≤ ytk b n (ynx b n p) ∧ ytk b n (ynx b n p) ≤ 12 then (if T.law (ytk b n (ynx b n p) - 10) = [] then (match yrZ b n (true, ynx b n (ynx b n p), [], [], K, 0) with
    | .inl f => .inl f
    | .inr (out, p', _) => .inr (p', ytk b n (ynx b n p) - 10, out)) else .inl (3, ypl b n (ynx b n p))) else .inl (1, ypl b n (ynx b n p))
def yCQ (M : zMem) (t : Nat) (T : yT) (K : Nat) (la : Nat → Nat) : Prop := yCT M t T ∧ M.1 (t + 13) 4 = Int32.ofNat K ∧ T.knots = Int32.ofNat K ∧ K ≤ 64 ∧ ∀ k, k < 3 → la k + (T.law k).length ≤ K ∧ M.1 (t + 13 + 2) k = Int32.ofNat (la k)
def yCLl (t : Nat) (k i : Nat) : Prop := (k = 2 ∧ (3 ≤ i ∧ i ≤ 8 ∨ 12 ≤ i)) ∨ k = 23 ∨ (t + 13 ≤ k ∧ k ≤ t + 16)
section
variable {M : zMem} {b : Nat → Nat} {n t p : Nat} {f : Nat × Nat} {T : yT} {K : Nat} {la : Nat → Nat}
theorem yCQ.lw (h : yCQ M t T K la) {k : Nat} (hk : k < 3) : M.1 (t + 13 + 3) k = Int32.ofNat (la k + (T.law k).length) ∧ ∀ j, (hj : j < (T.law k).length) → M.1 (t + 13 + 1) (la k + j) = yKc ((T.law k)[j]) := by
  obtain ⟨ct, e4, ek, k64, hl⟩ := h
  obtain ⟨a, h1, h2, h3, h4⟩ := ct.law k hk
  have g := hl k hk
  rw [g.2, zi_eq (by omega) (by omega)] at h2
  rw [h2]
  exact ⟨h3, h4⟩
theorem c_lTold (h : yCQ M t T K la) {k : Nat} (hk : k < 3) : m_X2_isTold t (Int32.ofNat k) M = some (if T.law k = [] then 0 else 1, M) := by
  have ib := h.1.tt.or5
  have z2 : (zds (t + 13 + 2)).2 = 3 := by rcases ib with z | z <;> rw [z] <;> rfl
  have z3 : (zds (t + 13 + 3)).2 = 3 := by rcases ib with z | z <;> rw [z] <;> rfl
  have g := h.2.2.2.2 k hk
  have k64 := h.2.2.2.1
  unfold m_X2_isTold
  rw [mrd_of (k := t + 13 + 2) (j := k) (by omega) (by omega), zob_some, mrd_of (k := t + 13 + 3) (j := k) (by omega) (by omega), zob_some, g.2, (h.lw hk).1]
  by_cases e : T.law k = []
  · rw [if_pos e, if_pos (by rw [zi_le (by omega) (by omega), e]; show la k + 0 ≤ la k; omega)]
  · have : 0 < (T.law k).length := List.length_pos_iff.mpr e
    rw [if_neg e, if_neg (by rw [zi_le (by omega) (by omega)]; omega)]
theorem c_llaw (h : yCB M b n t p) (cq : yCQ M t T K la) : zwp (m_X4_readLaw M) (fun _ M' => zfr (yCLl t) M M' ∧ ((∃ f, alaw b n T K p = .inl f ∧ yCG M' t f) ∨ ∃ p' k out, k < 3 ∧ alaw b n T K p = .inr (p', k, out) ∧ ywf out 0 ∧ yCB M' b n t p' ∧ yCQ M' t (T.addL k out (K + out.length)) (K + out.length) (yust la k K))) := by
  have it := h.2.2.2.2.1
  have ib := it.or5
  have wk : ∀ {M1 M2 : zMem}, zfr yRd M1 M2 → zfr (yCLl t) M1 M2 := fun fr => zfr_weak fr (by unfold yRd yCLl; omega)
  have wp : ∀ {M1 M2 : zMem}, zfr (yCP t K) M1 M2 → zfr (yCLl t) M1 M2 := fun fr => zfr_weak fr (by unfold yCP yCLl; omega)
  have z2 : (zds (t + 13 + 2)).2 = 3 := by rcases ib with z | z <;> rw [z] <;> rfl
  have z3 : (zds (t + 13 + 3)).2 = 3 := by rcases ib with z | z <;> rw [z] <;> rfl
  unfold m_X4_readLaw
  refine zwp_bd h.adv (fun _ M1 z => ?_)
  obtain ⟨cb1, f1⟩ := z
  have f1 : zfr yRd M M1 := zfr_weak f1 (by unfold yRA yRd; omega)
  have lt := ytk_lt h.hb (p := ynx b n p)
  have tk := cb1.2.2.2.1.2.2.2.1
  have bad : ¬ (10 ≤ ytk b n (ynx b n p) ∧ ytk b n (ynx b n p) ≤ 12) → zwp (mbd (m_X4_fail 1 M1) (fun v41 M40 => some ((), M40))) (fun _ M' => zfr (yCLl t) M M' ∧ ((∃ f, alaw b n T K p = .inl f ∧ yCG M' t f) ∨ ∃ p' k out, k < 3 ∧ alaw b n T K p = .inr (p', k, out) ∧ ywf out 0 ∧ yCB M' b n t p' ∧ yCQ M' t (T.addL k out (K + out.length)) (K + out.length) (yust la k K))) := fun nz =>
    zwp_bd (cb1.fail (k := 1) (by omega)) (fun _ M2 z => zwp_ret ⟨wk (zfr_trans f1 z.2), Or.inl ⟨_, by unfold alaw; rw [if_neg nz], z.1⟩⟩)
  rw [tk]
  by_cases l10 : ytk b n (ynx b n p) < 10
  · rw [if_pos (by rw [show (10 : Int32) = Int32.ofNat 10 from rfl, zi_lt (by omega) (by omega)]; exact l10), mbd_some, zsl_l]
    exact bad (by omega)
  · rw [if_neg (by rw [show (10 : Int32) = Int32.ofNat 10 from rfl, zi_lt (by omega) (by omega)]; exact l10)]
    by_cases l12 : ytk b n (ynx b n p) ≤ 12
    · rw [if_pos (by rw [show (12 : Int32) = Int32.ofNat 12 from rfl, zi_le (by omega) (by omega)]; exact l12), mlt_eq, cb1.2.2.2.2.2, show (10 : Int32) = Int32.ofNat 10 from rfl, yi_sub (by omega)]
      have hk : ytk b n (ynx b n p) - 10 < 3 := by omega
      have ain : 10 ≤ ytk b n (ynx b n p) ∧ ytk b n (ynx b n p) ≤ 12 := ⟨by omega, l12⟩
      have eal : alaw b n T K p = (if T.law (ytk b n (ynx b n p) - 10) = [] then (match yrZ b n (true, ynx b n (ynx b n p), [], [], K, 0) with | .inl f => .inl f | .inr (out, p', _) => .inr (p', ytk b n (ynx b n p) - 10, out)) else .inl (3, ypl b n (ynx b n p))) := by unfold alaw; rw [if_pos ain]
      rw [eal]
      clear bad eal
      generalize ytk b n (ynx b n p) - 10 = k at *
      have cq1 : yCQ M1 t T K la := by
        refine ⟨cq.1.rd f1 (by unfold yRd; omega), ?_, cq.2.2.1, cq.2.2.2.1, fun k hk => ⟨(cq.2.2.2.2 k hk).1, ?_⟩⟩
        · rw [f1 _ _ (by unfold yRd; omega)]; exact cq.2.1
        · rw [f1 _ _ (by unfold yRd; omega)]; exact (cq.2.2.2.2 k hk).2
      have k64 := cq.2.2.2.1
      rw [c_lTold cq1 hk, mbd_some]
      by_cases e : T.law k = []
      · rw [if_pos e, if_pos e, if_pos rfl, mbd_some]
        refine zwp_bd (Q' := fun r M' => r = Sum.inr () ∧ zfr (yCLl t) M M' ∧ ((∃ f, (match yrZ b n (true, ynx b n (ynx b n p), [], [], K, 0) with | .inl f => (.inl f : yLE (Nat × Nat × List yK)) | .inr (out, p', _) => .inr (p', k, out)) = .inl f ∧ yCG M' t f) ∨ ∃ p' k' out, k' < 3 ∧ (match yrZ b n (true, ynx b n (ynx b n p), [], [], K, 0) with | .inl f => (.inl f : yLE (Nat × Nat × List yK)) | .inr (out, p', _) => .inr (p', k, out)) = .inr (p', k', out) ∧ ywf out 0 ∧ yCB M' b n t p' ∧ yCQ M' t (T.addL k' out (K + out.length)) (K + out.length) (yust la k' K))) (zwp_bd cb1.adv (fun _ M2 z => ?_)) ?_
        · obtain ⟨cb2, f2⟩ := z
          have f2 : zfr yRd M1 M2 := zfr_weak f2 (by unfold yRA yRd; omega)
          have f02 := zfr_trans f1 f2
          have ct2 := cq.1.rd f02 (by unfold yRd; omega)
          have e4 : M2.1 (t + 13) 4 = Int32.ofNat K := by rw [f02 _ _ (by unfold yRd; omega)]; exact cq.2.1
          unfold m_X2_open
          rw [mlt_eq, cb2.2.2.2.2.2, mwr_of (k := t + 13 + 2) (j := k) (by omega) (by omega), zob_some, mbd_some, e4, mlt_eq, mlt_eq]
          have f3 : zfr (fun k' i => (k' = t + 13 + 2 ∧ i = k) ∨ (k' = 2 ∧ (i = 12 ∨ i = 13))) M2 (mup (mup (mup M2 (t + 13 + 2) k (Int32.ofNat K)) 2 12 0) 2 13 0) := zfr_trans (zfr_mup (by omega)) (zfr_trans (zfr_mup (by omega)) (zfr_mup (by omega)))
          have e12 : (mup (mup (mup M2 (t + 13 + 2) k (Int32.ofNat K)) 2 12 0) 2 13 0).1 2 12 = 0 := by rw [mup_off' (by decide), mup_on]
          have e13 : (mup (mup (mup M2 (t + 13 + 2) k (Int32.ofNat K)) 2 12 0) 2 13 0).1 2 13 = 0 := mup_on
          have eo : (mup (mup (mup M2 (t + 13 + 2) k (Int32.ofNat K)) 2 12 0) 2 13 0).1 (t + 13 + 2) k = Int32.ofNat K := by rw [mup_off (by omega), mup_off (by omega), mup_on]
          generalize mup (mup (mup M2 (t + 13 + 2) k (Int32.ofNat K)) 2 12 0) 2 13 0 = M3 at f3 e12 e13 eo ⊢
          have ce3 : yCE M3 b n t K (ynx b n (ynx b n p)) [] [] K 0 := by
            refine ⟨cb2.1.keep f3 (by omega) (by omega), cb2.2.1.keep f3 (by omega) (by omega) (by omega), by rw [f3 _ _ (by omega)]; exact cb2.2.2.1, ?_, it, by rw [f3 _ _ (by omega)]; exact cb2.2.2.2.2.2, e12, trivial, e13, by rw [f3 _ _ (by omega)]; exact e4, ?_, fun j hj => absurd hj (Nat.not_lt_zero j), k64, by omega, by decide, by show K + 0 ≤ 64; omega⟩
            · have ck := cb2.2.2.2.1
              unfold yCk
              rw [f3 2 3 (by omega), f3 2 4 (by omega), f3 2 5 (by omega), f3 2 6 (by omega), f3 2 7 (by omega)]; exact ck
            · rw [f3 _ _ (by omega)]; exact ct2.knots.trans cq.2.2.1
          have f03 : zfr (yCLl t) M M3 := zfr_trans (wk f02) (zfr_weak f3 (by unfold yCLl; omega))
          refine c_E ce3 (Nat.le_refl K) rfl (fun M4 f4 po => ?_)
          unfold m_X2_close
          rcases po with ⟨f, cf, eR⟩ | ⟨p', w', out', cnt', ce4, hg, eR⟩
          · rw [mlt_eq, cf.2.2.1, mwr_of (k := t + 13 + 3) (j := k) (by omega) (by omega), zob_some, mbd_some]
            have f5 : zfr (fun k' i => k' = t + 13 + 3 ∧ i = k) M4 (mup M4 (t + 13 + 3) k (M4.1 (t + 13) 4)) := zfr_mup ⟨rfl, rfl⟩
            have cg : yCG M4 t f := ⟨cf.1, it, cf.2.2.1⟩
            exact zwp_ret ⟨rfl, zfr_trans f03 (zfr_trans (wp f4) (zfr_weak f5 (by unfold yCLl; omega))), Or.inl ⟨f, by rw [eR], cg.keep f5 (by omega)⟩⟩
          · have wf := yrZ_wf h.hb eR
            have cn : cnt' = K + out'.length := yrZ_cn h.hb eR
            obtain ⟨tx4, rb4, ok4, ck4, -, to4, -, -, -, p4, q4, el4, c64, -, -, g64⟩ := ce4
            rw [mlt_eq, to4, mwr_of (k := t + 13 + 3) (j := k) (by omega) (by omega), zob_some, mbd_some, p4]
            have f5 : zfr (fun k' i => k' = t + 13 + 3 ∧ i = k) M4 (mup M4 (t + 13 + 3) k (Int32.ofNat (K + out'.length))) := zfr_mup ⟨rfl, rfl⟩
            have e5 : (mup M4 (t + 13 + 3) k (Int32.ofNat (K + out'.length))).1 (t + 13 + 3) k = Int32.ofNat (K + out'.length) := mup_on
            generalize mup M4 (t + 13 + 3) k (Int32.ofNat (K + out'.length)) = M5 at f5 e5 ⊢
            have f25 : ∀ k' i, k' < t + 13 → t ≤ k' → M5.1 k' i = M2.1 k' i := fun k' i h1 h2 => by rw [f5 _ _ (by omega), f4 _ _ (by unfold yCP; omega), f3 _ _ (by omega)]
            refine zwp_ret ⟨rfl, zfr_trans f03 (zfr_trans (wp f4) (zfr_weak f5 (by unfold yCLl; omega))), Or.inr ⟨p', k, out', hk, by rw [eR], wf, ?_, ?_, ?_, rfl, by omega, ?_⟩⟩
            · refine ⟨tx4.keep f5 (by omega) (by omega), rb4.keep f5 (by omega) (by omega) (by omega), by rw [f5 _ _ (by omega)]; exact ok4, ?_, it, by rw [f5 _ _ (by omega)]; exact to4⟩
              unfold yCk
              rw [f5 2 3 (by omega), f5 2 4 (by omega), f5 2 5 (by omega), f5 2 6 (by omega), f5 2 7 (by omega)]; exact ck4
            · refine ⟨it, ?_, ?_, ?_, ?_, ?_, ?_, ?_, ?_, ?_, ?_, ?_, ?_, ?_, ?_, ?_, ?_, ?_, ?_, ?_, ?_⟩
              · rw [f25 _ _ (by omega) (by omega)]; exact ct2.nf
              · rw [f25 _ _ (by omega) (by omega)]; exact ct2.nc
              · rw [f25 _ _ (by omega) (by omega)]; exact ct2.nh
              · rw [f25 _ _ (by omega) (by omega)]; exact ct2.nw
              · rw [f25 _ _ (by omega) (by omega)]; exact ct2.rain
              · rw [f25 _ _ (by omega) (by omega)]; exact ct2.most
              · rw [f5 _ _ (by omega), q4, cn]; rfl
              · intro i hi; rw [f25 _ _ (by omega) (by omega)]; exact ct2.ground i hi
              · intro i hi; rw [f25 _ _ (by omega) (by omega)]; exact ct2.fname i hi
              · intro i hi; rw [f25 _ _ (by omega) (by omega)]; exact ct2.fcell i hi
              · intro i hi; rw [f25 _ _ (by omega) (by omega)]; exact ct2.need i hi
              · intro i hi; rw [f25 _ _ (by omega) (by omega)]; exact ct2.cname i hi
              · intro i hi; rw [f25 _ _ (by omega) (by omega)]; exact ct2.ccell i hi
              · intro i hi; rw [f25 _ _ (by omega) (by omega)]; exact ct2.bsize i hi
              · intro i hi; rw [f25 _ _ (by omega) (by omega)]; exact ct2.bat i hi
              · intro i hi; rw [f25 _ _ (by omega) (by omega)]; exact ct2.hname i hi
              · intro i hi; rw [f25 _ _ (by omega) (by omega)]; exact ct2.hcell i hi
              · intro i hi; rw [f25 _ _ (by omega) (by omega)]; exact ct2.sight i hi
              · intro i hi; rw [f25 _ _ (by omega) (by omega)]; exact ct2.wind i hi
              · intro k' hk'
                show ∃ a, a + (yust T.law k out' k').length ≤ 64 ∧ M5.1 (t + 13 + 2) k' = Int32.ofNat a ∧ M5.1 (t + 13 + 3) k' = Int32.ofNat (a + (yust T.law k out' k').length) ∧ ∀ j, (hj : j < (yust T.law k out' k').length) → M5.1 (t + 13 + 1) (a + j) = yKc ((yust T.law k out' k')[j])
                by_cases z : k' = k
                · subst z
                  rw [yust_on]
                  exact ⟨K, by omega, by rw [f5 _ _ (by omega), f4 _ _ (by unfold yCP; omega)]; exact eo, e5, fun j hj => by rw [f5 _ _ (by omega)]; exact el4 j hj⟩
                · rw [yust_off z]
                  have lw := cq1.lw hk'
                  have lg := cq1.2.2.2.2 k' hk'
                  refine ⟨la k', by omega, ?_, ?_, fun j hj => ?_⟩
                  · rw [f5 _ _ (by omega), f4 _ _ (by unfold yCP; omega), f3 _ _ (by omega), f2 _ _ (by unfold yRd; omega)]; exact lg.2
                  · rw [f5 _ _ (by omega), f4 _ _ (by unfold yCP; omega), f3 _ _ (by omega), f2 _ _ (by unfold yRd; omega)]; exact lw.1
                  · rw [f5 _ _ (by omega), f4 _ _ (by unfold yCP; omega), f3 _ _ (by omega), f2 _ _ (by unfold yRd; omega)]; exact lw.2 j hj
            · rw [f5 _ _ (by omega)]; exact p4
            · intro k' hk'
              show yust la k K k' + (yust T.law k out' k').length ≤ K + out'.length ∧ M5.1 (t + 13 + 2) k' = Int32.ofNat (yust la k K k')
              by_cases z : k' = k
              · subst z
                rw [yust_on, yust_on]
                exact ⟨Nat.le_refl _, by rw [f5 _ _ (by omega), f4 _ _ (by unfold yCP; omega)]; exact eo⟩
              · rw [yust_off z, yust_off z]
                have lg := cq1.2.2.2.2 k' hk'
                exact ⟨by omega, by rw [f5 _ _ (by omega), f4 _ _ (by unfold yCP; omega), f3 _ _ (by omega), f2 _ _ (by unfold yRd; omega)]; exact lg.2⟩
        · rintro _ M9 ⟨rfl, z⟩
          rw [zsl_r]
          exact zwp_ret z
      · rw [if_neg e, if_neg e, if_neg (by decide)]
        refine zwp_bd (Q' := fun r M' => r = Sum.inr () ∧ zfr (yCLl t) M M' ∧ yCG M' t (3, ypl b n (ynx b n p))) (zwp_bd (Q' := fun _ M2 => yCG M2 t (3, ypl b n (ynx b n p)) ∧ zfr yRd M1 M2) (zwp_bd (cb1.fail (k := 3) (by omega)) (fun _ M2 z => zwp_ret z)) (fun _ M2 z => ?_)) ?_
        · obtain ⟨cg, f2⟩ := z
          have f02 := zfr_trans f1 f2
          have e4 : M2.1 (t + 13) 4 = Int32.ofNat K := by rw [f02 _ _ (by unfold yRd; omega)]; exact cq.2.1
          rw [c_advance_f cg.1, mbd_some]
          unfold m_X2_open
          rw [mlt_eq, cg.2.2, mwr_of (k := t + 13 + 2) (j := k) (by omega) (by omega), zob_some, mbd_some, mlt_eq, mlt_eq]
          have f3 : zfr (fun k' i => (k' = t + 13 + 2 ∧ i = k) ∨ (k' = 2 ∧ (i = 12 ∨ i = 13))) M2 (mup (mup (mup M2 (t + 13 + 2) k (M2.1 (t + 13) 4)) 2 12 0) 2 13 0) := zfr_trans (zfr_mup (by omega)) (zfr_trans (zfr_mup (by omega)) (zfr_mup (by omega)))
          have e12 : (mup (mup (mup M2 (t + 13 + 2) k (M2.1 (t + 13) 4)) 2 12 0) 2 13 0).1 2 12 = 0 := by rw [mup_off' (by decide), mup_on]
          generalize mup (mup (mup M2 (t + 13 + 2) k (M2.1 (t + 13) 4)) 2 12 0) 2 13 0 = M3 at f3 e12 ⊢
          have cg3 := cg.keep f3 (by omega)
          have cf3 : yCF M3 t K (3, ypl b n (ynx b n p)) := ⟨cg3.1, it, cg3.2.2, ⟨0, by omega, e12⟩, K, Nat.le_refl _, k64, by rw [f3 _ _ (by omega)]; exact e4⟩
          refine c_E_f cf3 (fun M4 f4 cf4 => ?_)
          unfold m_X2_close
          rw [mlt_eq, cf4.2.2.1, mwr_of (k := t + 13 + 3) (j := k) (by omega) (by omega), zob_some, mbd_some]
          have f5 : zfr (fun k' i => k' = t + 13 + 3 ∧ i = k) M4 (mup M4 (t + 13 + 3) k (M4.1 (t + 13) 4)) := zfr_mup ⟨rfl, rfl⟩
          have cg4 : yCG M4 t (3, ypl b n (ynx b n p)) := ⟨cf4.1, it, cf4.2.2.1⟩
          exact zwp_ret ⟨rfl, zfr_trans (wk f02) (zfr_trans (zfr_weak f3 (by unfold yCLl; omega)) (zfr_trans (wp f4) (zfr_weak f5 (by unfold yCLl; omega)))), cg4.keep f5 (by omega)⟩
        · rintro _ M9 ⟨rfl, f9, cg9⟩
          rw [zsl_r]
          exact zwp_ret ⟨f9, Or.inl ⟨_, rfl, cg9⟩⟩
    · rw [if_neg (by rw [show (12 : Int32) = Int32.ofNat 12 from rfl, zi_le (by omega) (by omega)]; exact l12), mbd_some, zsl_l]
      exact bad (by omega)
end

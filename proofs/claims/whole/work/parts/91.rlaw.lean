/-! the reference's line of a law -/
def yRLw (k i : Nat) : Prop := (k = 213 ∧ (i = 20 ∨ (23 ≤ i ∧ i ≤ 28) ∨ i = 31 ∨ i = 32)) ∨ (k = 215 ∧ i = 15) ∨ ((k = 228 ∨ k = 229) ∧ 3 ≤ i) ∨ ((k = 230 ∨ k = 231) ∧ 64 ≤ i)
/-- what the law's line comes to: a fault, a sign that is too much, or all is well -/
def yRlq (b : Nat → Nat) (n : Nat) (T : yT) (K u : Nat) (la : Nat → Nat) (A : yLE (Nat × Nat × List yK)) (M M' : zMem) : Prop :=
  zfr yRLw M M' ∧ ((∃ f, A = .inl f ∧ yRF M' f) ∨ (∃ p', A = .inl (1, ypl b n p') ∧ yRG M' b n p' ∧ ¬ ytk b n p' = 35) ∨
    ∃ p' k out, k < 3 ∧ A = .inr (p', k, out) ∧ ywf out 0 ∧ yRG M' b n p' ∧ yRU M' (T.addL k out (K + out.length)) (yust la k K) ∧ yWd M' (T.addL k out (K + out.length)) u ∧ yKq M' (T.addL k out (K + out.length)) (K + out.length) (yust la k K))
section
variable {M : zMem} {b : Nat → Nat} {n p : Nat} {T : yT} {la : Nat → Nat} {K u : Nat}
theorem yRU.addL (ct : yRU M T la) {M' : zMem} {k : Nat} {out : List yK} (hk : k < 3) (hl : ∀ k, k < 3 → la k + (T.law k).length ≤ K)
    (fr : zfr (fun k' i => k' = 213 ∨ (k' = 215 ∧ i = 15) ∨ ((k' = 228 ∨ k' = 229) ∧ i = 3 + k) ∨ ((k' = 230 ∨ k' = 231) ∧ 64 + K ≤ i)) M M')
    (e15 : M'.1 215 15 = Int32.ofNat (K + out.length)) (e8 : M'.1 228 (3 + k) = Int32.ofNat K) (e9 : M'.1 229 (3 + k) = Int32.ofNat (K + out.length))
    (eo : ∀ j, (hj : j < out.length) → M'.1 230 (64 + K + j) = yKs out[j] ∧ M'.1 231 (64 + K + j) = yKv out[j]) : yRU M' (T.addL k out (K + out.length)) (yust la k K) := by
  refine ⟨?_, ?_, ?_, ?_, ?_, ?_, e15, ?_, ?_, ?_, ?_, ?_, ?_, ?_, ?_, ?_, ?_, ?_, ?_, ?_⟩
  · rw [fr _ _ (by omega)]; exact ct.nf
  · rw [fr _ _ (by omega)]; exact ct.nc
  · rw [fr _ _ (by omega)]; exact ct.nh
  · rw [fr _ _ (by omega)]; exact ct.nw
  · rw [fr _ _ (by omega)]; exact ct.rain
  · rw [fr _ _ (by omega)]; exact ct.most
  · intro i hi; rw [fr _ _ (by omega)]; exact ct.ground i hi
  · intro i hi; rw [fr _ _ (by omega)]; exact ct.fname i hi
  · intro i hi; rw [fr _ _ (by omega)]; exact ct.fcell i hi
  · intro i hi; rw [fr _ _ (by omega)]; exact ct.need i hi
  · intro i hi; rw [fr _ _ (by omega)]; exact ct.cname i hi
  · intro i hi; rw [fr _ _ (by omega)]; exact ct.ccell i hi
  · intro i hi; rw [fr _ _ (by omega)]; exact ct.bsize i hi
  · intro i hi; rw [fr _ _ (by omega)]; exact ct.bat i hi
  · intro i hi; rw [fr _ _ (by omega)]; exact ct.hname i hi
  · intro i hi; rw [fr _ _ (by omega)]; exact ct.hcell i hi
  · intro i hi; rw [fr _ _ (by omega)]; exact ct.sight i hi
  · intro i hi; rw [fr _ _ (by omega)]; exact ct.wind i hi
  · intro k' hk'
    show M'.1 228 (3 + k') = Int32.ofNat (yust la k K k') ∧ M'.1 229 (3 + k') = Int32.ofNat (yust la k K k' + (yust T.law k out k').length) ∧ ∀ j, (hj : j < (yust T.law k out k').length) → M'.1 230 (64 + yust la k K k' + j) = yKs ((yust T.law k out k')[j]) ∧ M'.1 231 (64 + yust la k K k' + j) = yKv ((yust T.law k out k')[j])
    by_cases z : k' = k
    · subst z
      rw [yust_on, yust_on]
      exact ⟨e8, e9, eo⟩
    · rw [yust_off z, yust_off z]
      obtain ⟨h2, h3, h4⟩ := ct.law k' hk'
      have g := hl k' hk'
      exact ⟨by rw [fr _ _ (by omega)]; exact h2, by rw [fr _ _ (by omega)]; exact h3, fun j hj => by rw [fr _ _ (by omega), fr _ _ (by omega)]; exact h4 j hj⟩
theorem yWd.law (h : yWd M T u) {M' : zMem} {k kn : Nat} {out : List yK} (hk : k < 3) (ho : ¬ out = []) (e : M'.1 213 20 = M.1 213 20 ||| (1 <<< (Int32.ofNat (16 + k) &&& 31))) : yWd M' (T.addL k out kn) u := by
  obtain ⟨a, a1, a2, a3, a4⟩ := h
  have o := ybt_o a1 (show 16 + k < 20 by omega)
  refine ⟨a ||| 2 ^ (16 + k), o.2, by rw [e, a2]; exact o.1, fun j k1 k2 => ?_, fun j hj => ?_⟩
  · rw [ybt_or, show decide (16 + k = j) = false from decide_eq_false (by omega), Bool.or_false]
    exact a3 j k1 k2
  · show _ ↔ ¬ yust T.law k out j = []
    rw [ybt_or]
    by_cases z : j = k
    · subst z
      rw [yust_on, decide_eq_true rfl, Bool.or_true]
      exact ⟨fun _ => ho, fun _ => rfl⟩
    · rw [yust_off z, show decide (16 + k = 16 + j) = false from decide_eq_false (by omega), Bool.or_false]
      exact a4 j hj
theorem r_lawB (h : yRG M b n (ynx b n p)) (ct : yRU M T la) (wd : yWd M T u) (kn : yKq M T K la) : zwp (m_X8_lawLine M) (fun _ M' => yRlq b n T K u la (alaw b n T K p) M M') := by
  have hn : n ≤ 700 := h.1.1
  have rk := h.2.2.2
  have lt := ytk_lt h.hb (p := ynx b n p)
  have s3 := ysrt_3 _ lt
  have k64 := kn.2.2.2.1
  have wv : ∀ {M1 M2 : zMem}, zfr yRv M1 M2 → zfr yRLw M1 M2 := fun fr => zfr_weak fr (by unfold yRv yRLw; omega)
  unfold m_X8_lawLine
  by_cases hin : 10 ≤ ytk b n (ynx b n p) ∧ ytk b n (ynx b n p) ≤ 12
  · have eal : alaw b n T K p = (if T.law (ytk b n (ynx b n p) - 10) = [] then (match yrZ b n (true, ynx b n (ynx b n p), [], [], K, 0) with | .inl f => .inl f | .inr (out, p', _) => .inr (p', ytk b n (ynx b n p) - 10, out)) else .inl (3, ypl b n (ynx b n p))) := by unfold alaw; rw [if_pos hin]; (try rfl)
    have vl := rk.2.2.2.2.1 (by omega)
    rw [rk.2.2.2.1, if_pos (by rw [s3.2.1.mpr (by omega)]; rfl), vl, if_neg (by rw [show (10 : Int32) = Int32.ofNat 10 from rfl, zi_lt (by omega) (by omega)]; omega), if_pos (by rw [show (12 : Int32) = Int32.ofNat 12 from rfl, zi_le (by omega) (by omega)]; omega), mbd_some, zsl_r, mbd_some, if_pos h.2.2.1, vl, show (10 : Int32) = Int32.ofNat 10 from rfl, yi_sub (by omega), show (16 : Int32) = Int32.ofNat 16 from rfl, ← Int32.ofNat_add]
    have hk : ytk b n (ynx b n p) - 10 < 3 := by omega
    rw [eal]
    generalize ytk b n (ynx b n p) - 10 = k at hk ⊢
    obtain ⟨a, a1, a2, a3, a4⟩ := wd
    have wd : yWd M T u := ⟨a, a1, a2, a3, a4⟩
    rw [a2]
    by_cases e : T.law k = []
    · rw [if_pos e, if_neg (by rw [ybt_r (by omega) (by omega), a4 k hk]; exact fun z => z e), mbd_some, if_pos h.2.2.1, mlt_eq]
      have f1 : zfr (fun k i => k = 213 ∧ i = 20) M (mup M 213 20 (M.1 213 20 ||| (1 <<< (Int32.ofNat (16 + k) &&& 31)))) := zfr_mup ⟨rfl, rfl⟩
      have e1 : (mup M 213 20 (M.1 213 20 ||| (1 <<< (Int32.ofNat (16 + k) &&& 31)))).1 213 20 = M.1 213 20 ||| (1 <<< (Int32.ofNat (16 + k) &&& 31)) := mup_on
      generalize mup M 213 20 (M.1 213 20 ||| (1 <<< (Int32.ofNat (16 + k) &&& 31))) = M1 at f1 e1 ⊢
      have rg1 : yRG M1 b n (ynx b n p) := h.keep f1 (by omega) (by rw [f1 213 27 (by omega)]; exact h.2.2.1) (rk.keep f1 (by omega))
      refine zwp_bd rg1.token (fun _ M2 y => ?_)
      obtain ⟨rg2, f2⟩ := y
      have fe : ∀ {M' : zMem}, m_X8_fresher 7 M' = some (M'.1 215 15, M') := r_fresher (a := 7) (by decide)
      have f12 : zfr (fun k i => k = 213 ∧ (i = 20 ∨ (23 ≤ i ∧ i ≤ 26))) M M2 := zfr_trans (zfr_weak f1 (by omega)) (zfr_weak f2 (by unfold yRB; omega))
      have q15 : M2.1 215 15 = Int32.ofNat K := by rw [f12 _ _ (by omega), ct.knots]; exact kn.2.2.1
      rw [fe, mbd_some, mwr_of (k := 228) (j := 3 + k) (by show 3 + k < 6; omega), zob_some, q15]
      have f3 : zfr (fun k' i => k' = 228 ∧ i = 3 + k) M2 (mup M2 228 (3 + k) (Int32.ofNat K)) := zfr_mup ⟨rfl, rfl⟩
      have e3 : (mup M2 228 (3 + k) (Int32.ofNat K)).1 228 (3 + k) = Int32.ofNat K := mup_on
      generalize mup M2 228 (3 + k) (Int32.ofNat K) = M3 at f3 e3 ⊢
      have rg3 : yRG M3 b n (ynx b n (ynx b n p)) := rg2.keep f3 (by omega) (by rw [f3 213 27 (by omega)]; exact rg2.2.2.1) (rg2.2.2.2.keep f3 (by omega))
      have re3 : yRE M3 b n K 0 (ynx b n (ynx b n p)) [] K 0 := by
        refine ⟨rg3.1, rg3.2.1, rg3.2.2.1, rg3.2.2.2, ?_, ?_, k64, by omega, by show K + 0 + 0 ≤ K; omega, ?_, fun j hj => absurd hj (Nat.not_lt_zero j)⟩
        · rw [f3 _ _ (by omega), f12 _ _ (by omega)]; exact kn.1
        · rw [f3 _ _ (by omega), f12 _ _ (by omega)]; exact kn.2.1
        · rw [f3 _ _ (by omega)]; exact q15
      have sp := r_Esp (b := b) (n := n) (K0 := K) 200 0 0 0 K (by decide) (by decide) k64 (by show _ + 7 ≤ 200; omega)
      refine zwp_bd (sp.2 M3 _ [] [] K re3 (Nat.le_refl K) (by show 0 ≤ _; omega) (fun z => absurd z (by decide))) (fun _ M4 y => ?_)
      obtain ⟨f4, po⟩ := y
      rw [fe, mbd_some, mwr_of (k := 229) (j := 3 + k) (by show 3 + k < 6; omega), zob_some]
      have f13 : zfr (fun k' i => (k' = 213 ∧ (i = 20 ∨ (23 ≤ i ∧ i ≤ 28) ∨ i = 31 ∨ i = 32)) ∨ (k' = 215 ∧ i = 15) ∨ ((k' = 228 ∨ k' = 229) ∧ i = 3 + k) ∨ ((k' = 230 ∨ k' = 231) ∧ 64 + K ≤ i)) M M4 := zfr_trans (zfr_weak f12 (by omega)) (zfr_trans (zfr_weak f3 (by omega)) (zfr_weak f4 (by unfold yEP; omega)))
      have f5 : zfr (fun k' i => k' = 229 ∧ i = 3 + k) M4 (mup M4 229 (3 + k) (M4.1 215 15)) := zfr_mup ⟨rfl, rfl⟩
      have e5 : (mup M4 229 (3 + k) (M4.1 215 15)).1 229 (3 + k) = M4.1 215 15 := mup_on
      generalize mup M4 229 (3 + k) (M4.1 215 15) = M5 at f5 e5 ⊢
      have f15 := zfr_trans f13 (zfr_weak f5 (P' := fun k' i => (k' = 213 ∧ (i = 20 ∨ (23 ≤ i ∧ i ≤ 28) ∨ i = 31 ∨ i = 32)) ∨ (k' = 215 ∧ i = 15) ∨ ((k' = 228 ∨ k' = 229) ∧ i = 3 + k) ∨ ((k' = 230 ∨ k' = 231) ∧ 64 + K ≤ i)) (by omega))
      have fw : zfr yRLw M M5 := zfr_weak f15 (by unfold yRLw; omega)
      rcases po with ⟨f, fl, eR⟩ | ⟨p', v, out, cnt, hc, re, eR, hv, nt⟩
      · exact zwp_ret ⟨fw, Or.inl ⟨f, by rw [eR], fl.keep f5 (by omega) (by omega)⟩⟩
      · have rg5 : yRG M5 b n p' := by
          have r4 : yRG M4 b n p' := ⟨re.1, re.2.1, re.2.2.1, re.2.2.2.1⟩
          exact r4.keep f5 (by omega) (by rw [f5 213 27 (by omega)]; exact r4.2.2.1) (r4.2.2.2.keep f5 (by omega))
        have hp' : p' ≤ n := rg5.2.2.2.1
        have lt' := ytk_lt h.hb (p := p')
        have rf := yrank_f _ lt'
        rw [List.append_nil] at eR nt
        have key : (yrank (ytk b n p') = 0 ∨ ytk b n p' = 15) → yrZ b n (false, p', v, out, cnt, 0) = .inr (out ++ yflush v, p', cnt) := fun z => by
          refine yrZ_end hn hp' ?_
          rw [ystp_n, if_neg (by omega), if_pos z, if_neg (by omega)]
          have := ypop_rs (s := 0) (w := []) (v := v) (fun t ht => by have := hv t ht; unfold yMi at this; rw [if_pos rfl] at this; omega) (by show 0 ≤ 0; omega)
          rw [List.append_nil] at this
          rw [this]
        by_cases z : yrank (ytk b n p') = 0 ∨ ytk b n p' = 15
        · have eR := eR.trans (key z)
          have wf := yrZ_wf h.hb eR
          have cn : cnt = K + (out ++ yflush v).length := yrZ_cn h.hb eR
          obtain ⟨-, -, -, -, e32, e31, c64, -, -, q4, el4⟩ := re
          have ne : ¬ out ++ yflush v = [] := fun z => by rw [z] at wf; exact absurd (show (0 : Nat) = 1 from wf) (by decide)
          refine zwp_ret ⟨fw, Or.inr (Or.inr ⟨p', k, out ++ yflush v, hk, by rw [eR], wf, rg5, ?_, wd.law hk ne ?_, ?_, ?_, rfl, by omega, ?_⟩)⟩
          · refine ct.addL hk kn.2.2.2.2 (zfr_weak f15 (by omega)) ?_ ?_ ?_ ?_
            · rw [f5 _ _ (by omega)]; exact q4
            · rw [f5 _ _ (by omega), f4 _ _ (by unfold yEP; omega)]; exact e3
            · rw [e5]; exact q4
            · intro j hj; rw [f5 _ _ (by omega), f5 _ _ (by omega)]; exact el4 j hj
          · rw [f5 _ _ (by omega), f4 _ _ (by unfold yEP; omega), f3 _ _ (by omega), f2 _ _ (by unfold yRB; omega)]; exact e1
          · rw [f5 _ _ (by omega), e32, cn]
          · rw [f5 _ _ (by omega)]; exact e31
          · intro k' hk'
            show yust la k K k' + (yust T.law k (out ++ yflush v) k').length ≤ K + (out ++ yflush v).length
            by_cases z : k' = k
            · subst z
              rw [yust_on, yust_on]; omega
            · rw [yust_off z, yust_off z]
              have := kn.2.2.2.2 k' hk'
              omega
        · have r4 : yrank (ytk b n p') = 4 := by
            obtain ⟨n1, n2, n3, n4, n5⟩ := nt
            have := n1 (by omega); have := n2 (by omega); have := n4 (by omega); have := n5 (by omega)
            omega
          have t4 := nt.2.2.1 (by omega) r4
          have eZ : yrZ b n (false, p', v, out, cnt, 0) = .inl (1, ypl b n p') := by
            refine yrZ_end hn hp' ?_
            rw [ystp_n, if_neg (by omega), if_neg z, if_pos ⟨r4, t4⟩]
          have eR := eR.trans eZ
          exact zwp_ret ⟨fw, Or.inr (Or.inl ⟨p', by rw [eR], rg5, by omega⟩)⟩
    · rw [if_neg e, if_pos (by rw [ybt_r (by omega) (by omega), a4 k hk]; exact e)]
      refine zwp_bd (Q' := fun _ M' => yRF M' (3, ypl b n (ynx b n p)) ∧ zfr yRv M M') (zwp_bd (h.wrong (k := 3) (by omega)) (fun _ M1 y => zwp_ret y)) (fun _ M2 y => ?_)
      rw [if_neg y.1.ne]
      exact zwp_ret ⟨wv y.2, Or.inl ⟨_, rfl, y.1⟩⟩
  · have eal : alaw b n T K p = .inl (1, ypl b n (ynx b n p)) := by unfold alaw; rw [if_neg hin]
    rw [eal]
    refine zwp_bd (Q' := fun _ M' => yRF M' (1, ypl b n (ynx b n p)) ∧ zfr yRv M M') ?_ (fun _ M2 y => ?_)
    · rw [rk.2.2.2.1]
      by_cases h23 : ytk b n (ynx b n p) < 23
      · have vl := rk.2.2.2.2.1 h23
        rw [if_pos (by rw [s3.2.1.mpr h23]; rfl), vl]
        by_cases l10 : ytk b n (ynx b n p) < 10
        · rw [if_pos (by rw [show (10 : Int32) = Int32.ofNat 10 from rfl, zi_lt (by omega) (by omega)]; exact l10), mbd_some, zsl_l]
          exact zwp_bd (h.wrong (k := 1) (by omega)) (fun _ M1 y => zwp_ret y)
        · rw [if_neg (by rw [show (10 : Int32) = Int32.ofNat 10 from rfl, zi_lt (by omega) (by omega)]; exact l10), if_neg (by rw [show (12 : Int32) = Int32.ofNat 12 from rfl, zi_le (by omega) (by omega)]; omega), mbd_some, zsl_l]
          exact zwp_bd (h.wrong (k := 1) (by omega)) (fun _ M1 y => zwp_ret y)
      · rw [if_neg (by rw [show (0 : Int32) = Int32.ofNat 0 from rfl, ysr_eq _ (by omega)]; exact fun z => h23 (s3.2.1.mp z))]
        exact zwp_bd (h.wrong (k := 1) (by omega)) (fun _ M1 y => zwp_ret y)
    · rw [if_neg y.1.ne, mbd_some, if_neg y.1.ne]
      exact zwp_ret ⟨wv y.2, Or.inl ⟨_, rfl, y.1⟩⟩
end

/-! the reference's line, whole -/
section
variable {M : zMem} {b : Nat → Nat} {n p : Nat} {T : yT} {la : Nat → Nat} {K u : Nat}
theorem aline_0 (z : ytk b n p = 0) : aline b n p T K la u = alift (aground b n T 1 p) K la u := by unfold aline; rw [if_pos z]
theorem aline_1 (z : ytk b n p = 1) : aline b n p T K la u = alift (aground b n T 2 p) K la u := by unfold aline; rw [if_neg (by omega), if_pos z]
theorem aline_2 (z : ytk b n p = 2) : aline b n p T K la u = alift (afield b n T p) K la u := by unfold aline; rw [if_neg (by omega), if_neg (by omega), if_pos z]
theorem aline_3 (z : ytk b n p = 3) : aline b n p T K la u = alift (acloud b n T p) K la u := by unfold aline; rw [if_neg (by omega), if_neg (by omega), if_neg (by omega), if_pos z]
theorem aline_4 (z : ytk b n p = 4) : aline b n p T K la u = alift (achild b n T p) K la u := by unfold aline; rw [if_neg (by omega), if_neg (by omega), if_neg (by omega), if_neg (by omega), if_pos z]
theorem aline_5 (z : ytk b n p = 5) : aline b n p T K la u = alift (awind b n T p) K la u := by unfold aline; rw [if_neg (by omega), if_neg (by omega), if_neg (by omega), if_neg (by omega), if_neg (by omega), if_pos z]
theorem aline_6 (z : ytk b n p = 6) : aline b n p T K la u = alift (aonce b n u 6 1 20 T.setR p) K la (u ||| 2 ^ 6) := by unfold aline; rw [if_neg (by omega), if_neg (by omega), if_neg (by omega), if_neg (by omega), if_neg (by omega), if_neg (by omega), if_pos z]
theorem aline_7 (z : ytk b n p = 7) : aline b n p T K la u = alift (aonce b n u 7 1 9 T.setM p) K la (u ||| 2 ^ 7) := by unfold aline; rw [if_neg (by omega), if_neg (by omega), if_neg (by omega), if_neg (by omega), if_neg (by omega), if_neg (by omega), if_neg (by omega), if_pos z]
theorem aline_8 (z : ytk b n p = 8) : aline b n p T K la u = alift (aonce b n u 8 0 99999 (fun _ => T) p) K la (u ||| 2 ^ 8) := by unfold aline; rw [if_neg (by omega), if_neg (by omega), if_neg (by omega), if_neg (by omega), if_neg (by omega), if_neg (by omega), if_neg (by omega), if_neg (by omega), if_pos z]
theorem aline_9 (z : ytk b n p = 9) : aline b n p T K la u = (match alaw b n T K p with | .inl f => .inl f | .inr (p', k, out) => .inr (p', T.addL k out (K + out.length), K + out.length, yust la k K, u)) := by unfold aline; rw [if_neg (by omega), if_neg (by omega), if_neg (by omega), if_neg (by omega), if_neg (by omega), if_neg (by omega), if_neg (by omega), if_neg (by omega), if_neg (by omega), if_pos z]; (try rfl)
theorem aline_n (z : ¬ ytk b n p < 10) : aline b n p T K la u = .inl (1, ypl b n p) := by unfold aline; rw [if_neg (by omega), if_neg (by omega), if_neg (by omega), if_neg (by omega), if_neg (by omega), if_neg (by omega), if_neg (by omega), if_neg (by omega), if_neg (by omega), if_neg (by omega)]
end
def rl_sw (w : Int32) (M16 : zMem) : Option (Unit × zMem) :=
  if w = 0 then mbd (α := Int32) (if w = 0 then some (1, M16) else some (2, M16)) (fun e18 M19 => mbd (m_X8_groundLine e18 M19) (fun v21 M20 => some ((), M20)))
  else if w = 1 then mbd (α := Int32) (if w = 0 then some (1, M16) else some (2, M16)) (fun e22 M23 => mbd (m_X8_groundLine e22 M23) (fun v25 M24 => some ((), M24)))
  else if w = 2 then rb_field M16
  else if w = 3 then rb_cloud M16
  else if w = 4 then rb_child M16
  else if w = 5 then rb_wind M16
  else if w = 6 then mbd (m_X8_numeral 1 20 M16) (fun v104 M103 => mbd (m_X8_reads 4 v104 M103) (fun v106 M105 => some ((), M105)))
  else if w = 7 then mbd (m_X8_numeral 1 9 M16) (fun v104 M103 => mbd (m_X8_reads 5 v104 M103) (fun v106 M105 => some ((), M105)))
  else if w = 8 then mbd (m_X8_numeral 0 99999 M16) (fun v104 M103 => mbd (m_X8_reads 6 v104 M103) (fun v106 M105 => some ((), M105)))
  else mbd (m_X8_lawLine M16) (fun v116 M115 => some ((), M115))
def rl_end (M118 : zMem) : Option ((Unit ⊕ Unit) × zMem) :=
  if (M118.1 213 27) = 0 then mbd (m_X8_isSign 59 M118) (fun v121 M120 => mbd (α := Unit) (if v121 = 0 then mbd (m_X8_wrong 1 M120) (fun v123 M122 => some ((), M122)) else mbd (m_X8_token M120) (fun v125 M124 => some ((), M124))) (fun e126 M127 => mlt (mup M127 213 21 ((M127.1 213 21) + 1)) (fun M129 => some ((.inr ()), M129))))
  else some ((.inr ()), M118)
def rl_in (v5 w : Int32) (M4 : zMem) : Option (Unit × zMem) :=
  if v5 = 0 then if w < 6 then some ((), M4) else if 8 < w then some ((), M4) else if (((M4.1 213 20) >>> (w &&& 31)) &&& 1) = 1 then mbd (m_X8_wrong 3 M4) (fun v8 M7 => some ((), M7)) else some ((), M4)
  else mbd (m_X8_wrong 2 M4) (fun v10 M9 => some ((), M9))
theorem rl_eq (M0 : zMem) : m_X8_line M0 = mbd (α := (Unit ⊕ Unit)) (
    if (M0.1 213 25) = 0 then if (M0.1 213 26) ≤ 9 then
      mbd (m_X8_isFull (M0.1 213 26) M0) (fun v5 M4 => mbd (rl_in v5 (M0.1 213 26) M4) (fun e11 M12 =>
        if (M12.1 213 27) = 0 then mlt (mup M12 213 20 ((M12.1 213 20) ||| (1 <<< ((M0.1 213 26) &&& 31)))) (fun M15 => mbd (m_X8_token M15) (fun v17 M16 => mbd (rl_sw (M0.1 213 26) M16) (fun e117 M118 => rl_end M118)))
        else some ((.inr ()), M12)))
    else some ((.inl ()), M0) else some ((.inl ()), M0))
    (fun b134 M131 => zsl b134 (fun e130 => mbd (m_X8_wrong 1 M131) (fun v133 M132 => some ((), M132))) (fun r => some (r, M131))) := rfl
def yRV (M : zMem) (b : Nat → Nat) (n p : Nat) (T : yT) (K : Nat) (la : Nat → Nat) (u : Nat) : Prop := yRG M b n p ∧ yRU M T la ∧ yWd M T u ∧ yKq M T K la ∧ yTi T
def yRLs (k i : Nat) : Prop := yRLn k i ∨ yRLw k i
def yRLa (k i : Nat) : Prop := yRLs k i ∨ (k = 213 ∧ i = 21)
def yRs (b : Nat → Nat) (n : Nat) (A : yLE ySt) (M M' : zMem) : Prop := zfr yRLs M M' ∧ ((∃ f, A = .inl f ∧ yRF M' f) ∨ (∃ p', A = .inl (1, ypl b n p') ∧ yRG M' b n p' ∧ ¬ ytk b n p' = 35) ∨ ∃ p' T' K' la' u', A = .inr (p', T', K', la', u') ∧ yRV M' b n p' T' K' la' u')
def yRq (b : Nat → Nat) (n : Nat) (A : yLE ySt) (M M' : zMem) : Prop := zfr yRLa M M' ∧ ((∃ f, A = .inl f ∧ yRF M' f) ∨ ∃ p' T' K' la' u', A = .inr (p', T', K', la', u') ∧ yRV M' b n p' T' K' la' u' ∧ M'.1 213 21 = M.1 213 21 + 1)
def yFr (T : yT) (u w : Nat) : Prop := (w = 2 → T.nf < 5) ∧ (w = 3 → T.nc < 8) ∧ (w = 4 → T.nh < 6) ∧ (w = 5 → T.nw < 12) ∧ (6 ≤ w → w ≤ 8 → u.testBit w = false)
section
variable {M : zMem} {b : Nat → Nat} {n p : Nat} {T : yT} {la : Nat → Nat} {K u : Nat}
theorem yRp.go {A : yLE (Nat × yT)} {M' : zMem} {u' : Nat} (rp : yRp b n la A M M') (wd : yWd M T u') (kn : yKq M T K la) (ok : ∀ p' T', A = .inr (p', T') → yLk T T') : yRs b n (alift A K la u') M M' := by
  obtain ⟨fr, ⟨f, e, fl⟩ | ⟨p', T', e, rg, ru⟩⟩ := rp
  · exact ⟨zfr_weak fr (by unfold yRLs; exact fun k i z => Or.inl z), Or.inl ⟨f, by unfold alift; rw [e], fl⟩⟩
  · have k := ok p' T' e
    exact ⟨zfr_weak fr (by unfold yRLs; exact fun k i z => Or.inl z), Or.inr (Or.inr ⟨p', T', K, la, u', by unfold alift; rw [e], rg, ru, wd.keep fr (by unfold yRLn; omega) k.2.2, kn.keep fr (by unfold yRLn; omega) (by unfold yRLn; omega) k.2.1 k.2.2, k.1⟩)⟩
theorem r_sw (rg : yRG M b n (ynx b n p)) (ru : yRU M T la) (wd : yWd M T (if 6 ≤ ytk b n p ∧ ytk b n p ≤ 8 then u ||| 2 ^ (ytk b n p) else u)) (kn : yKq M T K la) (ti : yTi T) (hw : ytk b n p ≤ 9) (fr : yFr T u (ytk b n p)) :
    zwp (rl_sw (Int32.ofNat (ytk b n p)) M) (fun _ M' => yRs b n (aline b n p T K la u) M M') := by
  unfold rl_sw
  rcases (show ytk b n p = 0 ∨ ytk b n p = 1 ∨ ytk b n p = 2 ∨ ytk b n p = 3 ∨ ytk b n p = 4 ∨ ytk b n p = 5 ∨ ytk b n p = 6 ∨ ytk b n p = 7 ∨ ytk b n p = 8 ∨ ytk b n p = 9 by omega) with z | z | z | z | z | z | z | z | z | z
  · rw [aline_0 z, z, if_pos (by decide), if_pos (by decide), mbd_some]
    rw [z, if_neg (by omega)] at wd
    exact zwp_bd (r_groundB rg ru ti.2.2 1) (fun _ M' rp => zwp_ret (rp.go wd kn (fun p' T' e => aground_ok ti (Or.inl rfl) e)))
  · rw [aline_1 z, z, if_neg (by decide), if_pos (by decide), if_neg (by decide), mbd_some]
    rw [z, if_neg (by omega)] at wd
    exact zwp_bd (r_groundB rg ru ti.2.2 2) (fun _ M' rp => zwp_ret (rp.go wd kn (fun p' T' e => aground_ok ti (Or.inr rfl) e)))
  · rw [aline_2 z, z, if_neg (by decide), if_neg (by decide), if_pos (by decide)]
    rw [z, if_neg (by omega)] at wd
    exact zwp_mono (r_fieldB rg ru (fr.1 z)) (fun _ M' rp => rp.go wd kn (fun p' T' e => afield_ok ti e))
  · rw [aline_3 z, z, if_neg (by decide), if_neg (by decide), if_neg (by decide), if_pos (by decide)]
    rw [z, if_neg (by omega)] at wd
    exact zwp_mono (r_cloudB rg ru (fr.2.1 z)) (fun _ M' rp => rp.go wd kn (fun p' T' e => acloud_ok ti e))
  · rw [aline_4 z, z, if_neg (by decide), if_neg (by decide), if_neg (by decide), if_neg (by decide), if_pos (by decide)]
    rw [z, if_neg (by omega)] at wd
    exact zwp_mono (r_childB rg ru (fr.2.2.1 z)) (fun _ M' rp => rp.go wd kn (fun p' T' e => achild_ok ti e))
  · rw [aline_5 z, z, if_neg (by decide), if_neg (by decide), if_neg (by decide), if_neg (by decide), if_neg (by decide), if_pos (by decide)]
    rw [z, if_neg (by omega)] at wd
    exact zwp_mono (r_windB rg ru (fr.2.2.2.1 z)) (fun _ M' rp => rp.go wd kn (fun p' T' e => awind_ok ti e))
  · rw [aline_6 z, z, if_neg (by decide), if_neg (by decide), if_neg (by decide), if_neg (by decide), if_neg (by decide), if_neg (by decide), if_pos (by decide)]
    rw [z, if_pos (by omega)] at wd
    rw [z] at fr
    exact zwp_mono (r_oneB rg ru (u := u) (k := 6) (lo := 1) (hi := 20) (a := 4) (F := T.setR) (by decide) (by decide) (by decide) (fr.2.2.2.2 (by decide) (by decide)) (fun ru => ru.setR)) (fun _ M' rp => rp.go wd kn (fun p' T' e => aonce_ok (fun d _ _ => ti.setR) e))
  · rw [aline_7 z, z, if_neg (by decide), if_neg (by decide), if_neg (by decide), if_neg (by decide), if_neg (by decide), if_neg (by decide), if_neg (by decide), if_pos (by decide)]
    rw [z, if_pos (by omega)] at wd
    rw [z] at fr
    exact zwp_mono (r_oneB rg ru (u := u) (k := 7) (lo := 1) (hi := 9) (a := 5) (F := T.setM) (by decide) (by decide) (by decide) (fr.2.2.2.2 (by decide) (by decide)) (fun ru => ru.setM)) (fun _ M' rp => rp.go wd kn (fun p' T' e => aonce_ok (fun d h1 h2 => ti.setM h1 h2) e))
  · rw [aline_8 z, z, if_neg (by decide), if_neg (by decide), if_neg (by decide), if_neg (by decide), if_neg (by decide), if_neg (by decide), if_neg (by decide), if_neg (by decide), if_pos (by decide)]
    rw [z, if_pos (by omega)] at wd
    rw [z] at fr
    exact zwp_mono (r_oneB rg ru (u := u) (k := 8) (lo := 0) (hi := 99999) (a := 6) (F := (fun _ => T)) (by decide) (by decide) (by decide) (fr.2.2.2.2 (by decide) (by decide)) (fun ru => ru.keepD (zfr_mup (P := fun k i => k = 215 ∧ i = 14) ⟨rfl, rfl⟩) (by unfold yDeae; omega))) (fun _ M' rp => rp.go wd kn (fun p' T' e => aonce_ok (fun d _ _ => ⟨ti, rfl, rfl⟩) e))
  · rw [aline_9 z, z, if_neg (by decide), if_neg (by decide), if_neg (by decide), if_neg (by decide), if_neg (by decide), if_neg (by decide), if_neg (by decide), if_neg (by decide), if_neg (by decide)]
    rw [z, if_neg (by omega)] at wd
    refine zwp_bd (r_lawB rg ru wd kn) (fun _ M' lq => zwp_ret ?_)
    obtain ⟨fl, ⟨f, e, rf⟩ | ⟨p', e, rg', t35⟩ | ⟨p', k, out, hk, e, wf, rg', ru', wd', kn'⟩⟩ := lq
    · exact ⟨zfr_weak fl (fun k i z => Or.inr z), Or.inl ⟨f, by rw [e], rf⟩⟩
    · exact ⟨zfr_weak fl (fun k i z => Or.inr z), Or.inr (Or.inl ⟨p', by rw [e], rg', t35⟩)⟩
    · exact ⟨zfr_weak fl (fun k i z => Or.inr z), Or.inr (Or.inr ⟨p', _, _, _, u, by rw [e], rg', ru', wd', kn', ti.addL wf⟩)⟩
theorem r_in (rv : yRV M b n p T K la u) (hw : ytk b n p ≤ 9) : ∃ v, m_X8_isFull (Int32.ofNat (ytk b n p)) M = some (v, M) ∧ zwp (rl_in v (Int32.ofNat (ytk b n p)) M) (fun _ M' => (M' = M ∧ yFr T u (ytk b n p)) ∨ ∃ f, aline b n p T K la u = .inl f ∧ yRF M' f ∧ zfr yRv M M') := by
  obtain ⟨rg, ru, ⟨a, a1, a2, a3, a4⟩, kn, ti⟩ := rv
  have w6 : ∀ c, c < 6 → Int32.ofNat c < 6 := by decide
  unfold rl_in
  by_cases lo : ytk b n p < 2 ∨ ytk b n p = 9
  · refine ⟨0, r_full0 (by omega) (by omega) (by omega) (by omega) (by omega), ?_⟩
    have fr : yFr T u (ytk b n p) := ⟨by omega, by omega, by omega, by omega, by omega⟩
    rw [if_pos rfl]
    by_cases z : ytk b n p < 2
    · rw [if_pos (w6 _ (by omega))]
      exact zwp_ret (Or.inl ⟨rfl, fr⟩)
    · rw [if_neg (by rw [show (6 : Int32) = Int32.ofNat 6 from rfl, zi_lt (by omega) (by omega)]; omega), if_pos (by rw [show (8 : Int32) = Int32.ofNat 8 from rfl, zi_lt (by omega) (by omega)]; omega)]
      exact zwp_ret (Or.inl ⟨rfl, fr⟩)
  · by_cases hi : 6 ≤ ytk b n p
    · refine ⟨0, r_full0 (by omega) (by omega) (by omega) (by omega) (by omega), ?_⟩
      rw [if_pos rfl, if_neg (by rw [show (6 : Int32) = Int32.ofNat 6 from rfl, zi_lt (by omega) (by omega)]; omega), if_neg (by rw [show (8 : Int32) = Int32.ofNat 8 from rfl, zi_lt (by omega) (by omega)]; omega), a2]
      have eb := a3 (ytk b n p) hi (by omega)
      by_cases tb : u.testBit (ytk b n p) = true
      · rw [if_pos (by rw [ybt_r (by omega) (by omega), eb]; exact tb)]
        refine zwp_bd (rg.wrong (k := 3) (by omega)) (fun _ M1 y => zwp_ret (Or.inr ⟨_, ?_, y.1, y.2⟩))
        rcases (show ytk b n p = 6 ∨ ytk b n p = 7 ∨ ytk b n p = 8 by omega) with z | z | z
        · rw [z] at tb; rw [aline_6 z]; unfold alift aonce; rw [if_pos tb]
        · rw [z] at tb; rw [aline_7 z]; unfold alift aonce; rw [if_pos tb]
        · rw [z] at tb; rw [aline_8 z]; unfold alift aonce; rw [if_pos tb]
      · rw [if_neg (by rw [ybt_r (by omega) (by omega), eb]; exact tb)]
        exact zwp_ret (Or.inl ⟨rfl, by omega, by omega, by omega, by omega, fun _ _ => by simpa using tb⟩)
    · rcases (show ytk b n p = 2 ∨ ytk b n p = 3 ∨ ytk b n p = 4 ∨ ytk b n p = 5 by omega) with z | z | z | z
      · rw [z]
        refine ⟨_, r_full2 ru ti.1.nf, ?_⟩
        by_cases y : 5 ≤ T.nf
        · rw [if_pos y, if_neg (by decide)]
          exact zwp_bd (rg.wrong (k := 2) (by omega)) (fun _ M1 y1 => zwp_ret (Or.inr ⟨_, by rw [aline_2 z]; unfold alift afield; rw [if_pos y], y1.1, y1.2⟩))
        · rw [if_neg y, if_pos rfl, if_pos (by decide)]
          exact zwp_ret (Or.inl ⟨rfl, by omega, by omega, by omega, by omega, by omega⟩)
      · rw [z]
        refine ⟨_, r_full3 ru ti.1.nc, ?_⟩
        by_cases y : 8 ≤ T.nc
        · rw [if_pos y, if_neg (by decide)]
          exact zwp_bd (rg.wrong (k := 2) (by omega)) (fun _ M1 y1 => zwp_ret (Or.inr ⟨_, by rw [aline_3 z]; unfold alift acloud; rw [if_pos y], y1.1, y1.2⟩))
        · rw [if_neg y, if_pos rfl, if_pos (by decide)]
          exact zwp_ret (Or.inl ⟨rfl, by omega, by omega, by omega, by omega, by omega⟩)
      · rw [z]
        refine ⟨_, r_full4 ru ti.1.nh, ?_⟩
        by_cases y : 6 ≤ T.nh
        · rw [if_pos y, if_neg (by decide)]
          exact zwp_bd (rg.wrong (k := 2) (by omega)) (fun _ M1 y1 => zwp_ret (Or.inr ⟨_, by rw [aline_4 z]; unfold alift achild; rw [if_pos y], y1.1, y1.2⟩))
        · rw [if_neg y, if_pos rfl, if_pos (by decide)]
          exact zwp_ret (Or.inl ⟨rfl, by omega, by omega, by omega, by omega, by omega⟩)
      · rw [z]
        refine ⟨_, r_full5 ru ti.1.nw, ?_⟩
        by_cases y : 12 ≤ T.nw
        · rw [if_pos y, if_neg (by decide)]
          exact zwp_bd (rg.wrong (k := 2) (by omega)) (fun _ M1 y1 => zwp_ret (Or.inr ⟨_, by rw [aline_5 z]; unfold alift awind; rw [if_pos y], y1.1, y1.2⟩))
        · rw [if_neg y, if_pos rfl, if_pos (by decide)]
          exact zwp_ret (Or.inl ⟨rfl, by omega, by omega, by omega, by omega, by omega⟩)
theorem r_lend {A : yLE ySt} {M' M0 : zMem} (rs : yRs b n A M M') (f0 : zfr yRLs M0 M) : zwp (rl_end M') (fun r M2 => r = .inr () ∧ yRq b n (alend b n A) M0 M2) := by
  unfold rl_end
  obtain ⟨fr, h⟩ := rs
  have f01 : zfr yRLa M0 M' := zfr_weak (zfr_trans f0 fr) (fun k i z => Or.inl z)
  have wk : ∀ {M1 M2 : zMem}, zfr yRv M1 M2 → zfr yRLa M1 M2 := fun fr => zfr_weak fr (by unfold yRv yRLa yRLs yRLn; omega)
  have l21 : M'.1 213 21 = M0.1 213 21 := zfr_trans f0 fr 213 21 (by unfold yRLs yRLn yRLw; omega)
  have sn : ∀ {p'}, yRG M' b n p' → m_X8_isSign 59 M' = some (if ytk b n p' = 35 then 1 else 0, M') := fun rg => r_isSign rg.2.2.2 rg.hb rg.2.2.1 (c := 35) (by decide) (by decide)
  have bad : ∀ {p'}, yRG M' b n p' → ¬ ytk b n p' = 35 → alend b n A = .inl (1, ypl b n p') → zwp (if (M'.1 213 27) = 0 then mbd (m_X8_isSign 59 M') (fun v121 M120 => mbd (α := Unit) (if v121 = 0 then mbd (m_X8_wrong 1 M120) (fun v123 M122 => some ((), M122)) else mbd (m_X8_token M120) (fun v125 M124 => some ((), M124))) (fun e126 M127 => mlt (mup M127 213 21 ((M127.1 213 21) + 1)) (fun M129 => some (((.inr ()) : Unit ⊕ Unit), M129)))) else some ((.inr ()), M')) (fun r M2 => r = .inr () ∧ yRq b n (alend b n A) M0 M2) := fun {p'} rg t35 ea => by
    rw [if_pos rg.2.2.1, sn rg, if_neg t35, mbd_some, if_pos rfl]
    refine zwp_bd (Q' := fun _ M2 => yRF M2 (1, ypl b n p') ∧ zfr yRv M' M2) (zwp_bd (rg.wrong (k := 1) (by omega)) (fun _ M1 y => zwp_ret y)) (fun _ M2 y => ?_)
    rw [mlt_eq]
    have f3 : zfr (fun k i => k = 213 ∧ i = 21) M2 (mup M2 213 21 (M2.1 213 21 + 1)) := zfr_mup ⟨rfl, rfl⟩
    exact zwp_ret ⟨rfl, zfr_trans f01 (zfr_trans (wk y.2) (zfr_weak f3 (fun k i z => Or.inr z))), Or.inl ⟨_, ea, y.1.keep f3 (by omega) (by omega)⟩⟩
  rcases h with ⟨f, e, fl⟩ | ⟨p', e, rg, t35⟩ | ⟨p', T', K', la', u', e, rg, ru, wd, kn, ti⟩
  · rw [if_neg fl.ne]
    exact zwp_ret ⟨rfl, f01, Or.inl ⟨f, by unfold alend; rw [e], fl⟩⟩
  · exact bad rg t35 (by unfold alend; rw [e])
  · by_cases t35 : ytk b n p' = 35
    · rw [if_pos rg.2.2.1, sn rg, if_pos t35, mbd_some, if_neg (by decide)]
      refine zwp_bd (Q' := fun _ M2 => yRG M2 b n (ynx b n p') ∧ zfr yRB M' M2) (zwp_bd rg.token (fun _ M1 y => zwp_ret y)) (fun _ M2 y => ?_)
      rw [mlt_eq]
      have f3 : zfr (fun k i => k = 213 ∧ i = 21) M2 (mup M2 213 21 (M2.1 213 21 + 1)) := zfr_mup ⟨rfl, rfl⟩
      have fz : zfr (fun k i => k = 213 ∧ (i = 21 ∨ (23 ≤ i ∧ i ≤ 26))) M' (mup M2 213 21 (M2.1 213 21 + 1)) := zfr_trans (zfr_weak y.2 (by unfold yRB; omega)) (zfr_weak f3 (by omega))
      refine zwp_ret ⟨rfl, zfr_trans f01 (zfr_weak fz (by unfold yRLa yRLs yRLn; omega)), Or.inr ⟨ynx b n p', T', K', la', u', by unfold alend; rw [e]; simp only; rw [if_pos t35], ⟨y.1.keep f3 (by omega) (by rw [f3 213 27 (by omega)]; exact y.1.2.2.1) (y.1.2.2.2.keep f3 (by omega)), ru.rd fz (by omega), wd.keep fz (by omega) rfl, kn.keep fz (by omega) (by omega) rfl rfl, ti⟩, ?_⟩⟩
      rw [mup_on, y.2 213 21 (by unfold yRB; omega), l21]
    · exact bad rg t35 (by unfold alend; rw [e]; simp only; rw [if_neg t35])
theorem r_line (rv : yRV M b n p T K la u) : zwp (m_X8_line M) (fun _ M' => yRq b n (alend b n (aline b n p T K la u)) M M') := by
  rw [rl_eq]
  have rg := rv.1
  have rk := rg.2.2.2
  have lt := ytk_lt rg.hb (p := p)
  have s3 := ysrt_3 _ lt
  have wk : ∀ {M1 M2 : zMem}, zfr yRv M1 M2 → zfr yRLa M1 M2 := fun fr => zfr_weak fr (by unfold yRv yRLa yRLs yRLn; omega)
  have bad : ¬ ytk b n p < 10 → zwp (mbd (some (((.inl ()) : Unit ⊕ Unit), M)) (fun b134 M131 => zsl b134 (fun e130 => mbd (m_X8_wrong 1 M131) (fun v133 M132 => some ((), M132))) (fun r => some (r, M131)))) (fun _ M' => yRq b n (alend b n (aline b n p T K la u)) M M') := fun z => by
    rw [mbd_some, zsl_l]
    exact zwp_bd (rg.wrong (k := 1) (by omega)) (fun _ M1 y => zwp_ret ⟨wk y.2, Or.inl ⟨_, by rw [aline_n z]; rfl, y.1⟩⟩)
  rw [rk.2.2.2.1]
  by_cases h23 : ytk b n p < 23
  · have vl := rk.2.2.2.2.1 h23
    rw [if_pos (by rw [s3.2.1.mpr h23]; rfl), vl]
    by_cases h10 : ytk b n p ≤ 9
    · rw [if_pos (by rw [show (9 : Int32) = Int32.ofNat 9 from rfl, zi_le (by omega) (by omega)]; exact h10)]
      obtain ⟨v, ev, wi⟩ := r_in rv h10
      rw [ev, mbd_some]
      refine zwp_bd (Q' := fun r M' => r = .inr () ∧ yRq b n (alend b n (aline b n p T K la u)) M M') (zwp_bd wi (fun _ M1 y => ?_)) ?_
      · rcases y with ⟨rfl, fr⟩ | ⟨f, ea, fl, f1⟩
        · rw [if_pos rg.2.2.1, mlt_eq]
          have wd1 := rv.2.2.1.tell h10
          have f1 : zfr (fun k i => k = 213 ∧ i = 20) M1 (mup M1 213 20 (M1.1 213 20 ||| (1 <<< (Int32.ofNat (ytk b n p) &&& 31)))) := zfr_mup ⟨rfl, rfl⟩
          generalize mup M1 213 20 (M1.1 213 20 ||| (1 <<< (Int32.ofNat (ytk b n p) &&& 31))) = M2 at wd1 f1 ⊢
          have rg2 : yRG M2 b n p := rg.keep f1 (by omega) (by rw [f1 213 27 (by omega)]; exact rg.2.2.1) (rk.keep f1 (by omega))
          refine zwp_bd rg2.token (fun _ M3 y => ?_)
          obtain ⟨rg3, f3⟩ := y
          have fz : zfr (fun k i => k = 213 ∧ (i = 20 ∨ (23 ≤ i ∧ i ≤ 26))) M1 M3 := zfr_trans (zfr_weak f1 (by omega)) (zfr_weak f3 (by unfold yRB; omega))
          refine zwp_bd (r_sw rg3 (rv.2.1.rd fz (by omega)) (wd1.keep f3 (by unfold yRB; omega) rfl) (rv.2.2.2.1.keep fz (by omega) (by omega) rfl rfl) rv.2.2.2.2 h10 fr) (fun _ M4 rs => ?_)
          exact r_lend rs (zfr_weak fz (by unfold yRLs yRLn yRLw; omega))
        · rw [if_neg fl.ne]
          exact zwp_ret ⟨rfl, wk f1, Or.inl ⟨f, by unfold alend; rw [ea], fl⟩⟩
      · rintro _ M9 ⟨rfl, z⟩
        rw [zsl_r]
        exact zwp_ret z
    · rw [if_neg (by rw [show (9 : Int32) = Int32.ofNat 9 from rfl, zi_le (by omega) (by omega)]; exact h10)]
      exact bad (by omega)
  · rw [if_neg (by rw [show (0 : Int32) = Int32.ofNat 0 from rfl, ysr_eq _ (by omega)]; exact fun z => h23 (s3.2.1.mp z))]
    exact bad (by omega)
end

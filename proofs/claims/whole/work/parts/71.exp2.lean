def yIt (b : Nat → Nat) (n K0 d l q : Nat) (w : List Nat) (R : yRz) (c0 opn : Nat) (k : Nat) (M' : zMem) : Prop :=
  (∃ f, yRF M' f ∧ R = .inl f) ∨ ∃ p v out cnt, k = 65 - cnt ∧ c0 ≤ cnt ∧ yRE M' b n K0 d p (out ++ yflush v) cnt opn ∧ R = yrZ b n (false, p, v ++ w, out, cnt, opn) ∧ (∀ t, t ∈ v → q ≤ yrank t) ∧ yNt l (ytk b n p) (v ++ w)
section
variable {M : zMem} {b : Nat → Nat} {n : Nat} {K0 d p : Nat} {out : List yK} {cnt opn : Nat} {w : List Nat} {R : yRz}
theorem r_loop {l q c0 : Nat} (S : Nat → Prop) {F : zMem → Option (Unit × zMem)} {body : Unit → zMem → Option ((Unit ⊕ Unit) × zMem)}
    (bf : ∀ M' f, yRF M' f → body () M' = some (.inr (), M'))
    (bn : ∀ M' p out cnt, yRE M' b n K0 d p out cnt opn → ¬ S (ytk b n p) → body () M' = some (.inr (), M'))
    (bs : ∀ M' p out cnt, yRE M' b n K0 d p out cnt opn → S (ytk b n p) → body () M' = mbd (m_X8_knot M') (fun _ M1 => mbd (m_X8_goOn M1) (fun _ M2 => mbd (F M2) (fun _ M3 => mbd (m_X8_puts 2 (yKo (ytk b n p)) M3) (fun _ M4 => some (.inl (), M4))))))
    (sp : ySp b n K0 (d + 1) (l + 1) opn c0 F) (hS : ∀ t, t < 40 → S t → yrank t = q) (q0 : ¬ q = 0) (q3 : ¬ q = 3) (q4 : ¬ q = 4) (ql : q ≤ yLo (l + 1)) (qh : 3 ≤ l + 1 → 4 ≤ q) (qm : q ≤ yMi (l + 1)) (qe : yMi l = q) (hw : ytop w ≤ q - 1)
    (hN : ∀ t u, t < 40 → yNt (l + 1) t u → ¬ S t → yNt l t u) (po : yPo b n K0 d (l + 1) w R c0 opn M) :
    zwp (mlp zLF body () M) (fun _ M' => zfr (yEP K0) M M' ∧ yPo b n K0 d l w R c0 opn M') := by
  have lF : zLF = 100000 := rfl
  have key : ∀ k M', zfr (yEP K0) M M' ∧ yIt b n K0 d (l + 1) q w R c0 opn k M' → k < zLF → zwp (mlp zLF body () M') (fun _ M' => zfr (yEP K0) M M' ∧ yPo b n K0 d l w R c0 opn M') := by
    intro k M'
    refine zwp_lp (fun k _ M' => zfr (yEP K0) M M' ∧ yIt b n K0 d (l + 1) q w R c0 opn k M') ?_ k () M'
    rintro k _ M1 ⟨f1, ⟨f, fl, e⟩ | ⟨p, v, out, cnt, hk, hc, re, e, ra, nt⟩⟩
    · rw [bf M1 f fl]
      exact zwp_ret ⟨f1, Or.inl ⟨f, fl, e⟩⟩
    · have c64 := re.c64
      have tl := ytk_lt re.hb (p := p)
      by_cases hs : S (ytk b n p)
      · have rq := hS _ tl hs
        rw [bs M1 p _ _ re hs]
        refine r_right (w := w) (R := R) sp re (by omega) (by omega) (by omega) ?_ rfl (fun M2 f2 po2 => ?_)
        · rw [e]
          exact yrZ_op re.hn re.hb re.rk.1 rq q0 q3 (by rw [if_neg q4]; intro t ht; have := ra t ht; omega) (by rw [if_neg q4]; exact hw) (fun z => absurd z q4)
        · rcases po2 with ⟨f, fl, e2⟩ | ⟨p', v2, out2, cnt', c', re2, e2, ra2, nt2⟩
          · exact zwp_ret ⟨0, by omega, zfr_trans f1 f2, Or.inl ⟨f, fl, e2⟩⟩
          · have := re2.c64
            refine zwp_ret ⟨65 - cnt', by omega, zfr_trans f1 f2, Or.inr ⟨p', v2 ++ [ytk b n p], out2, cnt', rfl, by omega, re2, e2, ?_, nt2⟩⟩
            intro t ht
            rcases List.mem_append.mp ht with h | h
            · have := ra2 t h; omega
            · have : t = ytk b n p := List.mem_singleton.mp h
              rw [this]; omega
      · rw [bn M1 p _ _ re hs]
        exact zwp_ret ⟨f1, Or.inr ⟨p, v, out, cnt, hc, re, e, by rw [qe]; exact ra, hN _ _ tl nt hs⟩⟩
  rcases po with ⟨f, fl, e⟩ | ⟨p, v, out, cnt, hc, re, e, ra, nt⟩
  · exact key 0 M ⟨zfr_refl, Or.inl ⟨f, fl, e⟩⟩ (by omega)
  · exact key (65 - cnt) M ⟨zfr_refl, Or.inr ⟨p, v, out, cnt, rfl, hc, re, e, fun t ht => Nat.le_trans qm (ra t ht), nt⟩⟩ (by omega)
theorem yPo.c {l c0 c1 : Nat} {M' : zMem} (h : yPo b n K0 d l w R c1 opn M') (hc : c0 ≤ c1) : yPo b n K0 d l w R c0 opn M' := by
  rcases h with ⟨f, fl, e⟩ | ⟨p, v, out, cnt, h1, h2⟩
  · exact Or.inl ⟨f, fl, e⟩
  · exact Or.inr ⟨p, v, out, cnt, Nat.le_trans hc h1, h2⟩
theorem r_lvl {l q c0 : Nat} (S : Nat → Prop) {F G : zMem → Option (Unit × zMem)} {body : Unit → zMem → Option ((Unit ⊕ Unit) × zMem)}
    (hG : ∀ M, G M = mbd (F M) (fun _ M1 => mbd (mlp zLF body () M1) (fun _ M6 => some ((), M6))))
    (bf : ∀ M' f, yRF M' f → body () M' = some (.inr (), M'))
    (bn : ∀ M' p out cnt, yRE M' b n K0 d p out cnt opn → ¬ S (ytk b n p) → body () M' = some (.inr (), M'))
    (bs : ∀ M' p out cnt, yRE M' b n K0 d p out cnt opn → S (ytk b n p) → body () M' = mbd (m_X8_knot M') (fun _ M1 => mbd (m_X8_goOn M1) (fun _ M2 => mbd (F M2) (fun _ M3 => mbd (m_X8_puts 2 (yKo (ytk b n p)) M3) (fun _ M4 => some (.inl (), M4))))))
    (sp0 : ySp b n K0 d (l + 1) opn c0 F) (sp : ySp b n K0 (d + 1) (l + 1) opn c0 F) (hS : ∀ t, t < 40 → S t → yrank t = q) (q0 : ¬ q = 0) (q3 : ¬ q = 3) (q4 : ¬ q = 4) (ql : q ≤ yLo (l + 1)) (qh : 3 ≤ l + 1 → 4 ≤ q) (qm : q ≤ yMi (l + 1)) (qe : yMi l = q) (hw : yLo l ≤ q - 1) (hlo : yLo l ≤ yLo (l + 1)) (h15 : 3 ≤ l + 1 → 3 ≤ l)
    (hN : ∀ t u, t < 40 → yNt (l + 1) t u → ¬ S t → yNt l t u) : ySp b n K0 d l opn c0 G := by
  constructor
  · intro M f fl
    rw [hG, sp0.1 M f fl, mbd_some, mlp_end (by decide) (bf M f fl), mbd_some]
  · intro M p w out cnt re hc tw t15
    rw [hG]
    refine zwp_bd (sp0.2 M p w out cnt re hc (by omega) (fun z => t15 (h15 z))) (fun _ M1 z => ?_)
    obtain ⟨f1, po⟩ := z
    have sp' : ySp b n K0 (d + 1) (l + 1) opn cnt F := ⟨sp.1, fun M p w out c' a1 a2 a3 a4 => sp.2 M p w out c' a1 (by omega) a3 a4⟩
    refine zwp_bd (r_loop S bf bn bs sp' hS q0 q3 q4 ql qh qm qe (by omega) hN po) (fun _ M2 z => ?_)
    exact zwp_ret ⟨zfr_trans f1 z.1, z.2⟩
theorem r_expr {c0 : Nat} {F : Nat → zMem → Option (Unit × zMem)} (sp0 : ySp b n K0 d 1 opn c0 (F 1)) (sp : ySp b n K0 (d + 1) 1 opn c0 (F 1)) : ySp b n K0 d 0 opn c0 (mb_X8_expression F) := by
  refine r_lvl (l := 0) (q := 1) (fun t => t = 13) (fun M => rfl) ?_ ?_ ?_ sp0 sp (fun t _ z => by rw [z]; rfl) (by decide) (by decide) (by decide) (by decide) (by decide) (by decide) rfl (by decide) (by decide) (by decide) (fun t u _ h z => ⟨fun _ => h.1 (by decide), fun _ => h.2.1 (by decide), fun _ => h.2.2.1 (by decide), fun _ => h.2.2.2.1 (by decide), fun _ => z⟩)
  · intro M' f fl
    rw [r_isWord_f fl, mbd_some, if_pos rfl]
  · intro M' p out cnt re z
    have e : m_X8_isWord 13 M' = _ := r_isWord re.rk re.hb re.ok (w := 13) (by decide)
    rw [e, if_neg z, mbd_some, if_pos rfl]
  · intro M' p out cnt re z
    have e : m_X8_isWord 13 M' = _ := r_isWord re.rk re.hb re.ok (w := 13) (by decide)
    rw [e, if_pos z, mbd_some, if_neg (by decide), z]
    rfl
theorem r_conj {c0 : Nat} {F : Nat → zMem → Option (Unit × zMem)} (sp0 : ySp b n K0 d 2 opn c0 (F 2)) (sp : ySp b n K0 (d + 1) 2 opn c0 (F 2)) : ySp b n K0 d 1 opn c0 (mb_X8_conjunction F) := by
  refine r_lvl (l := 1) (q := 2) (fun t => t = 14) (fun M => rfl) ?_ ?_ ?_ sp0 sp (fun t _ z => by rw [z]; rfl) (by decide) (by decide) (by decide) (by decide) (by decide) (by decide) rfl (by decide) (by decide) (by decide) (fun t u _ h z => ⟨fun _ => h.1 (by decide), fun _ => h.2.1 (by decide), fun _ => h.2.2.1 (by decide), fun _ => z, fun a => absurd a (by decide)⟩)
  · intro M' f fl
    rw [r_isWord_f fl, mbd_some, if_pos rfl]
  · intro M' p out cnt re z
    have e : m_X8_isWord 14 M' = _ := r_isWord re.rk re.hb re.ok (w := 14) (by decide)
    rw [e, if_neg z, mbd_some, if_pos rfl]
  · intro M' p out cnt re z
    have e : m_X8_isWord 14 M' = _ := r_isWord re.rk re.hb re.ok (w := 14) (by decide)
    rw [e, if_pos z, mbd_some, if_neg (by decide), z]
    rfl
theorem yRE.val (re : yRE M b n K0 d p out cnt opn) (h1 : 23 ≤ ytk b n p) (h2 : ytk b n p ≤ 32) : M.1 213 26 = yKo (ytk b n p) := by
  rw [re.rk.2.2.2.2.2.2.2 h1 (by omega), (yvs_cmp _ (by omega) h1).2 h2]
theorem r_sum {c0 : Nat} {F : Nat → zMem → Option (Unit × zMem)} (sp0 : ySp b n K0 d 4 opn c0 (F 4)) (sp : ySp b n K0 (d + 1) 4 opn c0 (F 4)) : ySp b n K0 d 3 opn c0 (mb_X8_sum F) := by
  refine r_lvl (l := 3) (q := 5) (fun t => t = 23 ∨ t = 24) (fun M => rfl) ?_ ?_ ?_ sp0 sp (fun t _ z => by rcases z with z | z <;> rw [z] <;> rfl) (by decide) (by decide) (by decide) (by decide) (by decide) (by decide) rfl (by decide) (by decide) (by decide) (fun t u lt h z => ⟨fun _ => h.1 (by decide), fun _ y => z ((yrank_f t lt).2.2.2.2.2.1.mp y), fun a => absurd a (by decide), fun a => absurd a (by decide), fun a => absurd a (by decide)⟩)
  · intro M' f fl
    rw [r_isSign_f fl, mbd_some, if_pos rfl, r_isSign_f fl, mbd_some, if_pos rfl, mbd_some, zsl_r]
  · intro M' p out cnt re z
    have e : m_X8_isSign 43 M' = _ := r_isSign re.rk re.hb re.ok (c := 23) (by decide) (by decide)
    have e' : m_X8_isSign 45 M' = _ := r_isSign re.rk re.hb re.ok (c := 24) (by decide) (by decide)
    rw [e, if_neg (fun y => z (Or.inl y)), mbd_some, if_pos rfl, e', if_neg (fun y => z (Or.inr y)), mbd_some, if_pos rfl, mbd_some, zsl_r]
  · intro M' p out cnt re z
    have e : m_X8_isSign 43 M' = _ := r_isSign re.rk re.hb re.ok (c := 23) (by decide) (by decide)
    have e' : m_X8_isSign 45 M' = _ := r_isSign re.rk re.hb re.ok (c := 24) (by decide) (by decide)
    rw [← re.val (by omega) (by omega)]
    by_cases y : ytk b n p = 23
    · rw [e, if_pos y, mbd_some, if_neg (by decide), mbd_some, zsl_l]
    · rw [e, if_neg y, mbd_some, if_pos rfl, e', if_pos (by omega), mbd_some, if_neg (by decide), mbd_some, zsl_l]
theorem r_prod {c0 : Nat} {F : Nat → zMem → Option (Unit × zMem)} (sp0 : ySp b n K0 d 5 opn c0 (F 5)) (sp : ySp b n K0 (d + 1) 5 opn c0 (F 5)) : ySp b n K0 d 4 opn c0 (mb_X8_product F) := by
  refine r_lvl (l := 4) (q := 6) (fun t => t = 25 ∨ t = 26) (fun M => rfl) ?_ ?_ ?_ sp0 sp (fun t _ z => by rcases z with z | z <;> rw [z] <;> rfl) (by decide) (by decide) (by decide) (by decide) (by decide) (by decide) rfl (by decide) (by decide) (by decide) (fun t u lt h z => ⟨fun _ y => z ((yrank_f t lt).2.2.2.2.2.2.mp y), fun a => absurd a (by decide), fun a => absurd a (by decide), fun a => absurd a (by decide), fun a => absurd a (by decide)⟩)
  · intro M' f fl
    rw [r_isSign_f fl, mbd_some, if_pos rfl, r_isSign_f fl, mbd_some, if_pos rfl, mbd_some, zsl_r]
  · intro M' p out cnt re z
    have e : m_X8_isSign 42 M' = _ := r_isSign re.rk re.hb re.ok (c := 25) (by decide) (by decide)
    have e' : m_X8_isSign 47 M' = _ := r_isSign re.rk re.hb re.ok (c := 26) (by decide) (by decide)
    rw [e, if_neg (fun y => z (Or.inl y)), mbd_some, if_pos rfl, e', if_neg (fun y => z (Or.inr y)), mbd_some, if_pos rfl, mbd_some, zsl_r]
  · intro M' p out cnt re z
    have e : m_X8_isSign 42 M' = _ := r_isSign re.rk re.hb re.ok (c := 25) (by decide) (by decide)
    have e' : m_X8_isSign 47 M' = _ := r_isSign re.rk re.hb re.ok (c := 26) (by decide) (by decide)
    rw [← re.val (by omega) (by omega)]
    by_cases y : ytk b n p = 25
    · rw [e, if_pos y, mbd_some, if_neg (by decide), mbd_some, zsl_l]
    · rw [e, if_neg y, mbd_some, if_pos rfl, e', if_pos (by omega), mbd_some, if_neg (by decide), mbd_some, zsl_l]
theorem r_neg {c0 : Nat} {F : Nat → zMem → Option (Unit × zMem)} (sp3 : ySp b n K0 d 3 opn c0 (F 3)) (sp3' : ySp b n K0 (d + 1) 3 opn c0 (F 3)) (sp2 : ySp b n K0 (d + 1) 2 opn (c0 + 1) (F 2)) : ySp b n K0 d 2 opn c0 (mb_X8_negation F) := by
  constructor
  · intro M f fl
    unfold mb_X8_negation
    rw [r_isWord_f fl, mbd_some, if_pos rfl, sp3.1 M f fl, mbd_some, if_neg fl.ne]
  · intro M p w out cnt re hc tw _
    have tw : ytop w ≤ 3 := tw
    have e : m_X8_isWord 15 M = _ := r_isWord re.rk re.hb re.ok (w := 15) (by decide)
    unfold mb_X8_negation
    by_cases h15 : ytk b n p = 15
    · rw [e, if_pos h15, mbd_some, if_neg (by decide)]
      refine r_right (t := 15) (w := w) (R := yrZ b n (true, p, w, out, cnt, opn)) sp2 re (by omega) (by decide) (by decide) ?_ rfl (fun M2 f2 po2 => ?_)
      · by_cases hf : 64 ≤ cnt
        · rw [if_pos hf]
          refine yrZ_end re.hn re.rk.1 ?_
          rw [ystp_a]
          rw [if_neg (by omega), if_pos h15, if_pos (by omega), if_pos hf]
        · rw [if_neg hf]
          refine yrZ_go re.hn re.hb re.rk.1 ?_
          rw [ystp_a]
          rw [if_neg (by omega), if_pos h15, if_pos (by omega), if_neg hf]
      · rcases po2 with ⟨f, fl, e2⟩ | ⟨p', v2, out2, cnt', c', re2, e2, ra2, nt2⟩
        · exact zwp_ret ⟨f2, Or.inl ⟨f, fl, e2⟩⟩
        · refine zwp_ret ⟨f2, Or.inr ⟨p', v2 ++ [15], out2, cnt', by omega, re2, e2, ?_, nt2⟩⟩
          intro t ht
          rcases List.mem_append.mp ht with h | h
          · exact ra2 t h
          · have : t = 15 := List.mem_singleton.mp h
            rw [this]; decide
    · rw [e, if_neg h15, mbd_some, if_pos rfl]
      refine zwp_bd (sp3.2 M p w out cnt re hc (by show ytop w ≤ 4; omega) (fun _ z => absurd z h15)) (fun _ M1 z => ?_)
      obtain ⟨f1, ⟨f, fl, e1⟩ | ⟨p1, v1, out1, cnt1, hc1, re1, e1, ra1, nt1⟩⟩ := z
      · rw [if_neg fl.ne]
        exact zwp_ret ⟨f1, Or.inl ⟨f, fl, e1⟩⟩
      · have lt := ytk_lt re1.hb (p := p1)
        have s3 := ysrt_3 _ lt
        have rf := yrank_f _ lt
        have ra1 : ∀ t, t ∈ v1 → 5 ≤ yrank t := ra1
        have fin : ¬ yrank (ytk b n p1) = 4 → yPo b n K0 d 2 w (yrZ b n (true, p, w, out, cnt, opn)) cnt opn M1 := fun z => Or.inr ⟨p1, v1, out1, cnt1, hc1, re1, e1, fun t ht => by show 3 ≤ _; have := ra1 t ht; omega, fun _ => nt1.1 (by decide), fun _ => nt1.2.1 (by decide), fun _ y => absurd y z, fun a => absurd a (by decide), fun a => absurd a (by decide)⟩
        rw [if_pos re1.ok, re1.rk.2.2.2.1]
        by_cases hs : 23 ≤ ytk b n p1 ∧ ytk b n p1 ≤ 35
        · rw [if_pos (by rw [s3.1.mpr hs]; rfl)]
          have vl := re1.rk.2.2.2.2.2.2.2 hs.1 hs.2
          have yl := yvs_lt _ lt
          have yc := yvs_cmp _ (by omega) hs.1
          have q60 : (M1.1 213 26 = 60) ↔ yvs (ytk b n p1) = 60 := by rw [vl]; exact zi_eq (b := 60) (by omega) (by decide)
          have q61 : (M1.1 213 26 = 61) ↔ yvs (ytk b n p1) = 61 := by rw [vl]; exact zi_eq (b := 61) (by omega) (by decide)
          have q62 : (M1.1 213 26 = 62) ↔ yvs (ytk b n p1) = 62 := by rw [vl]; exact zi_eq (b := 62) (by omega) (by decide)
          have q256 : (256 ≤ M1.1 213 26) ↔ 256 ≤ yvs (ytk b n p1) := by rw [vl]; exact zi_le (a := 256) (by decide) (by omega)
          by_cases hcm : 27 ≤ ytk b n p1 ∧ ytk b n p1 ≤ 32
          · have eg : (if (M1.1 213 26) = 60 then some ((Sum.inl () : Unit ⊕ Unit), M1) else if (M1.1 213 26) = 62 then some ((Sum.inl () : Unit ⊕ Unit), M1) else if (M1.1 213 26) = 61 then some ((Sum.inl () : Unit ⊕ Unit), M1) else if 256 ≤ (M1.1 213 26) then some ((Sum.inl () : Unit ⊕ Unit), M1) else some ((Sum.inr () : Unit ⊕ Unit), M1)) = some (Sum.inl (), M1) := by
              have hh : M1.1 213 26 = 60 ∨ M1.1 213 26 = 62 ∨ M1.1 213 26 = 61 ∨ 256 ≤ M1.1 213 26 := by rw [q60, q62, q61, q256]; exact yc.1.mpr hcm
              by_cases z1 : M1.1 213 26 = 60
              · rw [if_pos z1]
              rw [if_neg z1]
              by_cases z2 : M1.1 213 26 = 62
              · rw [if_pos z2]
              rw [if_neg z2]
              by_cases z3 : M1.1 213 26 = 61
              · rw [if_pos z3]
              rw [if_neg z3, if_pos (hh.elim (fun z => absurd z z1) (fun z => z.elim (fun z => absurd z z2) (fun z => z.elim (fun z => absurd z z3) id)))]
            rw [eg, mbd_some, zsl_l, re1.val (by omega) (by omega)]
            have r4 := rf.2.2.2.2.1.mpr hcm
            refine r_right (t := ytk b n p1) (w := w) (R := yrZ b n (true, p, w, out, cnt, opn)) sp3' re1 (by omega) (by rw [r4]; decide) (by omega) ?_ rfl (fun M2 f2 po2 => ?_)
            · rw [e1]
              exact yrZ_op re1.hn re1.hb re1.rk.1 r4 (by decide) (by decide) (by intro t ht; have := ra1 t ht; show 4 < _; omega) (by show ytop w ≤ 4; omega) (fun _ => by omega)
            · rcases po2 with ⟨f, fl, e2⟩ | ⟨p', v2, out2, cnt', c', re2, e2, ra2, nt2⟩
              · exact zwp_ret ⟨zfr_trans f1 f2, Or.inl ⟨f, fl, e2⟩⟩
              · have ra2 : ∀ t, t ∈ v2 → 5 ≤ yrank t := ra2
                refine zwp_ret ⟨zfr_trans f1 f2, Or.inr ⟨p', v2 ++ [ytk b n p1], out2, cnt', by omega, re2, e2, ?_, fun _ => nt2.1 (by decide), fun _ => nt2.2.1 (by decide), fun _ _ => ?_, fun a => absurd a (by decide), fun a => absurd a (by decide)⟩⟩
                · intro t ht
                  show 3 ≤ _
                  rcases List.mem_append.mp ht with h | h
                  · have := ra2 t h; omega
                  · have : t = ytk b n p1 := List.mem_singleton.mp h
                    rw [this]; omega
                · rw [List.append_assoc, ypop_app v2 (fun t ht => by have := ra2 t ht; omega)]
                  show ytop (ypop 4 (ytk b n p1 :: w)).1 = 4
                  rw [ypop_st (show yrank (ytk b n p1) ≤ 4 by omega)]
                  exact r4
          · have eg : (if (M1.1 213 26) = 60 then some ((Sum.inl () : Unit ⊕ Unit), M1) else if (M1.1 213 26) = 62 then some ((Sum.inl () : Unit ⊕ Unit), M1) else if (M1.1 213 26) = 61 then some ((Sum.inl () : Unit ⊕ Unit), M1) else if 256 ≤ (M1.1 213 26) then some ((Sum.inl () : Unit ⊕ Unit), M1) else some ((Sum.inr () : Unit ⊕ Unit), M1)) = some (Sum.inr (), M1) := by
              have nc : ¬ (yvs (ytk b n p1) = 60 ∨ yvs (ytk b n p1) = 62 ∨ yvs (ytk b n p1) = 61 ∨ 256 ≤ yvs (ytk b n p1)) := fun z => hcm (yc.1.mp z)
              rw [if_neg (fun z => nc (Or.inl (q60.mp z))), if_neg (fun z => nc (Or.inr (Or.inl (q62.mp z)))), if_neg (fun z => nc (Or.inr (Or.inr (Or.inl (q61.mp z))))), if_neg (fun z => nc (Or.inr (Or.inr (Or.inr (q256.mp z)))))]
            rw [eg, mbd_some, zsl_r]
            exact zwp_ret ⟨f1, fin (fun z => hcm (rf.2.2.2.2.1.mp z))⟩
        · rw [if_neg (by rw [show (3 : Int32) = Int32.ofNat 3 from rfl, ysr_eq _ (by omega)]; exact fun z => hs (s3.1.mp z))]
          exact zwp_ret ⟨f1, fin (fun z => by have := rf.2.2.2.2.1.mp z; omega)⟩
end

section
variable {M : zMem} {b : Nat → Nat} {n : Nat} {t K0 p : Nat} {w : List Nat} {out : List yK} {cnt opn : Nat} {f : Nat × Nat} {R : yRz}
theorem yCE.flt (h : yCE M b n t K0 p w out cnt opn) {M' : zMem} {g : Nat × Nat} (fl : yFl M' g) (fr : zfr (fun k i => k = 2 ∧ (i = 4 ∨ i = 14 ∨ i = 15)) M M') : yCF M' t K0 g ∧ zfr (yCP t K0) M M' := by
  obtain ⟨tx, rb, ok, ck, it, to, e12, wt, e13, e4, e5, el, c64, o8, wl, gp⟩ := h
  exact ⟨⟨fl, it, by rw [fr 2 10 (by omega)]; exact to, ⟨w.length, wl, by rw [fr 2 12 (by omega)]; exact e12⟩, K0 + out.length, by omega, gp, by rw [fr _ _ (by have := it.or5; omega)]; exact e4⟩, zfr_weak fr (by unfold yCP; omega)⟩
theorem yCE.num (h : yCE M b n t K0 p w out cnt opn) {M' : zMem} {p' : Nat} (ck' : yCk M' b n p') (fr : zfr (fun k i => k = 2 ∧ 3 ≤ i ∧ i ≤ 8) M M') : yCE M' b n t K0 p' w out cnt opn ∧ zfr (yCP t K0) M M' := by
  obtain ⟨tx, rb, ok, ck, it, to, e12, wt, e13, e4, e5, el, c64, o8, wl, gp⟩ := h
  have ib := it.or5
  refine ⟨⟨tx.keep fr (by omega) (by omega), rb.keep fr (by omega) (by omega) (by omega), ?_, ck', it, ?_, ?_, wt.keep (fun j _ => fr _ _ (by omega)), ?_, ?_, ?_, ?_, c64, o8, wl, gp⟩, zfr_weak fr (by unfold yCP; omega)⟩
  · rw [fr _ _ (by omega)]; exact ok
  · rw [fr _ _ (by omega)]; exact to
  · rw [fr _ _ (by omega)]; exact e12
  · rw [fr _ _ (by omega)]; exact e13
  · rw [fr _ _ (by omega)]; exact e4
  · rw [fr _ _ (by omega)]; exact e5
  · intro j hj; rw [fr _ _ (by omega)]; exact el j hj
theorem yKc_w : ∀ k, k < 7 → (Int32.ofNat (16 + k)) ^^^ (-1) = yKc (.inr (.inl k)) := by decide +kernel
theorem c_part (h : yCE M b n t K0 p w out cnt opn) (cn : yCn K0 w out cnt opn) (h33 : ¬ ytk b n p = 33) (h15 : ¬ ytk b n p = 15) (hR : R = yrZ b n (true, p, w, out, cnt, opn)) :
    zwp (m_X4_readPart M) (fun _ M' => zfr (yCP t K0) M M' ∧ ((∃ f, yCF M' t K0 f ∧ R = .inl f) ∨ ∃ p' out', yCE M' b n t K0 p' w out' (cnt + 1) opn ∧ yCn K0 w out' (cnt + 1) opn ∧ R = yrZ b n (false, p', w, out', cnt + 1, opn))) := by
  have lt := ytk_lt h.hb (p := p)
  have c64 : cnt ≤ 64 := h.2.2.2.2.2.2.2.2.2.2.2.2.1
  obtain ⟨g1, g2⟩ := cn
  unfold m_X4_readPart
  by_cases h37 : ytk b n p = 37
  · have t37 : M.1 2 4 = 37 := (h.tk (c := 37) (by decide)).mpr h37
    rw [if_pos t37]
    have bad : 64 ≤ cnt ∨ 9999 < yva b n p → R = .inl (2, ypl b n p) := fun z => by
      rw [hR]
      refine yrZ_end h.hn h.ck.1 ?_
      rw [ystp_a, if_neg h33, if_neg h15, if_pos h37, if_pos z]
    refine h.count (fun z M1 cf f1 => ?_) (fun z M1 ce f1 => ?_)
    · rw [mlt_eq, cf.2.2.1, c_number_f cf.1, mbd_some]
      refine zwp_bd (c_place_f cf _) (fun _ M2 z2 => ?_)
      exact zwp_ret ⟨zfr_trans f1 z2.2, Or.inl ⟨_, z2.1, bad (Or.inl z)⟩⟩
    · rw [mlt_eq, ce.to]
      have fl2 : ∀ {g : Nat × Nat} M2, yFl M2 g → zfr (fun k i => k = 2 ∧ (i = 4 ∨ i = 14 ∨ i = 15)) M1 M2 → R = .inl g → zwp (mbd (m_X2_place t (-1) M2) (fun v9 M8 => some ((), M8))) (fun _ M' => zfr (yCP t K0) M M' ∧ ((∃ f, yCF M' t K0 f ∧ R = .inl f) ∨ ∃ p' out', yCE M' b n t K0 p' w out' (cnt + 1) opn ∧ yCn K0 w out' (cnt + 1) opn ∧ R = yrZ b n (false, p', w, out', cnt + 1, opn))) := by
        intro g M2 fl f2 eR
        obtain ⟨cf, f2⟩ := ce.flt fl f2
        refine zwp_bd (c_place_f cf _) (fun _ M3 z3 => ?_)
        exact zwp_ret ⟨zfr_trans f1 (zfr_trans f2 z3.2), Or.inl ⟨_, z3.1, eR⟩⟩
      refine c_number (lo := 0) (hi := 9999) ce.ok ce.2.1 ce.1 ce.ck (by decide) (by decide) (fun y => absurd h37 y) (fun _ y M2 fl f2 => fl2 M2 fl f2 (bad (Or.inr (by omega)))) (fun _ _ y M2 ck2 _ f2 => ?_)
      obtain ⟨ce2, f2⟩ := ce.num ck2 f2
      refine zwp_bd (ce2.place (.inl (Int32.ofNat (yva b n p))) rfl (by omega)) (fun _ M3 z3 => ?_)
      refine zwp_ret ⟨zfr_trans f1 (zfr_trans f2 z3.2), Or.inr ⟨_, _, z3.1, ⟨?_, g2⟩, ?_⟩⟩
      · rw [List.length_append]; show K0 + (out.length + 1) + yops w ≤ cnt + 1; omega
      · rw [hR]
        refine yrZ_go h.hn h.hb h.ck.1 ?_
        rw [ystp_a, if_neg h33, if_neg h15, if_pos h37, if_neg (by omega)]
  · have t37 : ¬ M.1 2 4 = 37 := fun z => h37 ((h.tk (c := 37) (by decide)).mp z)
    rw [if_neg t37, h.ck.2.2.2.1]
    have fl1 : R = .inl (1, ypl b n p) → zwp (mbd (m_X4_fail 1 M) (fun v12 M11 => some ((), M11))) (fun _ M' => zfr (yCP t K0) M M' ∧ ((∃ f, yCF M' t K0 f ∧ R = .inl f) ∨ ∃ p' out', yCE M' b n t K0 p' w out' (cnt + 1) opn ∧ yCn K0 w out' (cnt + 1) opn ∧ R = yrZ b n (false, p', w, out', cnt + 1, opn))) := fun eR =>
      zwp_bd (h.fail (k := 1) (by omega)) (fun _ M1 z => zwp_ret ⟨z.2, Or.inl ⟨_, z.1, eR⟩⟩)
    by_cases hw : 16 ≤ ytk b n p ∧ ytk b n p ≤ 22
    · rw [if_neg (by rw [show (16 : Int32) = Int32.ofNat 16 from rfl, zi_lt (by omega) (by omega)]; omega), if_neg (by rw [show (22 : Int32) = Int32.ofNat 22 from rfl, zi_lt (by omega) (by omega)]; omega), mlt_eq, h.to]
      have ec : Int32.ofNat (ytk b n p) ^^^ (-1) = yKc (.inr (.inl (ytk b n p - 16))) := by
        have := yKc_w (ytk b n p - 16) (by omega)
        rw [show 16 + (ytk b n p - 16) = ytk b n p by omega] at this
        exact this
      by_cases hf : 64 ≤ cnt
      · have bad : R = .inl (2, ypl b n p) := by
          rw [hR]
          refine yrZ_end h.hn h.ck.1 ?_
          rw [ystp_a, if_neg h33, if_neg h15, if_neg h37, if_pos hw, if_pos hf]
        have go : ∀ {out1 : List yK} M1, yCE M1 b n t K0 p w out1 cnt opn → zfr (yCP t K0) M M1 → zwp (mbd (m_X4_countKnot M1) (fun v22 M21 => mbd (m_X4_advance M21) (fun v24 M23 => some ((), M23)))) (fun _ M' => zfr (yCP t K0) M M' ∧ ((∃ f, yCF M' t K0 f ∧ R = .inl f) ∨ ∃ p' out', yCE M' b n t K0 p' w out' (cnt + 1) opn ∧ yCn K0 w out' (cnt + 1) opn ∧ R = yrZ b n (false, p', w, out', cnt + 1, opn))) := by
          intro out1 M1 ce f1
          refine ce.count (fun z M2 cf f2 => ?_) (fun z => by omega)
          rw [c_advance_f cf.1, mbd_some]
          exact zwp_ret ⟨zfr_trans f1 f2, Or.inl ⟨_, cf, bad⟩⟩
        by_cases hp : K0 + out.length < 64
        · refine zwp_bd (h.place _ ec hp) (fun _ M1 z => go M1 z.1 z.2)
        · have e4 := h.2.2.2.2.2.2.2.2.2.1
          have pn : m_X2_place t (Int32.ofNat (ytk b n p) ^^^ (-1)) M = some ((), M) := by
            unfold m_X2_place
            rw [e4, if_pos (by rw [show (64 : Int32) = Int32.ofNat 64 from rfl, zi_le (by omega) (by omega)]; omega)]
          rw [pn, mbd_some]
          exact go M h zfr_refl
      · refine zwp_bd (h.place _ ec (by omega)) (fun _ M1 z => ?_)
        obtain ⟨ce, f1⟩ := z
        refine ce.count (fun z => by omega) (fun z M2 ce2 f2 => ?_)
        refine zwp_bd ce2.adv (fun _ M3 z3 => ?_)
        refine zwp_ret ⟨zfr_trans f1 (zfr_trans f2 z3.2), Or.inr ⟨_, _, z3.1, ⟨?_, g2⟩, ?_⟩⟩
        · rw [List.length_append]; show K0 + (out.length + 1) + yops w ≤ cnt + 1; omega
        · rw [hR]
          refine yrZ_go h.hn h.hb h.ck.1 ?_
          rw [ystp_a, if_neg h33, if_neg h15, if_neg h37, if_pos hw, if_neg hf]
    · have bad : R = .inl (1, ypl b n p) := by
        rw [hR]
        refine yrZ_end h.hn h.ck.1 ?_
        rw [ystp_a, if_neg h33, if_neg h15, if_neg h37, if_neg hw]
      by_cases h16 : ytk b n p < 16
      · rw [if_pos (by rw [show (16 : Int32) = Int32.ofNat 16 from rfl, zi_lt (by omega) (by omega)]; omega)]
        exact fl1 bad
      · rw [if_neg (by rw [show (16 : Int32) = Int32.ofNat 16 from rfl, zi_lt (by omega) (by omega)]; omega), if_pos (by rw [show (22 : Int32) = Int32.ofNat 22 from rfl, zi_lt (by omega) (by omega)]; omega)]
        exact fl1 bad
theorem ypop_par : ∀ {w : List Nat} {r : Nat}, ypar (ypop r w).1 = ypar w := by
  intro w r
  induction w with
  | nil => rfl
  | cons x w ih =>
    show ypar (if r < yrank x then ((ypop r w).1, yop x :: (ypop r w).2) else (x :: w, [])).1 = (if yrank x = 0 then 1 else 0) + ypar w
    by_cases h : r < yrank x
    · rw [if_pos h, if_neg (by omega)]
      show ypar (ypop r w).1 = _
      omega
    · rw [if_neg h]
      rfl
theorem ypop_top : ∀ {w : List Nat} {r : Nat}, ytop (ypop r w).1 ≤ r := by
  intro w r
  induction w with
  | nil => exact Nat.zero_le _
  | cons x w ih =>
    show ytop (if r < yrank x then ((ypop r w).1, yop x :: (ypop r w).2) else (x :: w, [])).1 ≤ r
    by_cases h : r < yrank x
    · rw [if_pos h]; exact ih
    · rw [if_neg h]; show yrank x ≤ r; omega
theorem c_sign_f (cf : yCF M t K0 f) : m_X4_readSign M = some (0, M) := by
  unfold m_X4_readSign
  rw [mlp_end (r := 0) (by decide) (by rw [if_neg (by decide), cf.1.2.2.2, if_neg (by decide)]), mbd_some, cf.1.2.2.2, c_rankOf, mbd_some, if_pos (by decide), mbd_some, zsl_l]
  split
  · rfl
  · rw [c_fail_f cf.1, mbd_some]
/-- the closers -/
theorem c_close (h : yCE M b n t K0 p w out cnt opn) (cn : yCn K0 w out cnt opn) (hR : R = yrZ b n (false, p, w, out, cnt, opn)) {α : Type} {Q : α → zMem → Prop} {g : Int32 → zMem → Option (α × zMem)}
    (kk : ∀ s M', zfr (yCP t K0) M M' → (∃ p' w' out' opn', yCE M' b n t K0 p' w' out' cnt opn' ∧ yCn K0 w' out' cnt opn' ∧ R = yrZ b n (false, p', w', out', cnt, opn') ∧ (ytk b n p' = 34 → opn' = 0)) → zwp (g s M') Q) :
    zwp (mbd (mlp (σ := Int32) (β := Int32) zLF (fun s1 M2 =>
  if 8 ≤ s1 then
  some ((.inr s1), M2)
  else
  if (M2.1 2 4) = 34 then
  if (M2.1 2 13) ≤ 0 then
  some ((.inr s1), M2)
  else
  mbd (m_X4_placeAbove 0 M2) (fun v8 M7 =>
  mlt (mup M7 2 12 (zmx 0 ((M7.1 2 12) - 1))) (fun M10 =>
  mlt (mup M10 2 13 ((M10.1 2 13) - 1)) (fun M12 =>
  mbd (m_X4_advance  M12) (fun v14 M13 =>
  some ((.inl (s1 + 1)), M13)))))
  else
  some ((.inr s1), M2)) 0 M) g) Q := by
  have lF : zLF = 100000 := rfl
  refine zwp_bd (Q' := fun _ M' => zfr (yCP t K0) M M' ∧ ∃ p' w' out' opn', yCE M' b n t K0 p' w' out' cnt opn' ∧ yCn K0 w' out' cnt opn' ∧ R = yrZ b n (false, p', w', out', cnt, opn') ∧ (ytk b n p' = 34 → opn' = 0))
    (zwp_lp (fun k s M' => ∃ i, s = Int32.ofNat i ∧ k = 9 - i ∧ zfr (yCP t K0) M M' ∧ ∃ p' w' out' opn', i + opn' = opn ∧ yCE M' b n t K0 p' w' out' cnt opn' ∧ yCn K0 w' out' cnt opn' ∧ R = yrZ b n (false, p', w', out', cnt, opn')) ?_ 9 0 M ⟨0, rfl, rfl, zfr_refl, p, w, out, opn, by omega, h, cn, hR⟩ (by omega)) (fun s M' z => kk s M' z.1 z.2)
  rintro k s M1 ⟨i, rfl, rfl, f1, p1, w1, out1, opn1, ho, ce, cn1, e⟩
  have o8 : opn ≤ 8 := h.2.2.2.2.2.2.2.2.2.2.2.2.2.1
  by_cases h8 : 8 ≤ i
  · rw [if_pos (by rw [show (8 : Int32) = Int32.ofNat 8 from rfl, zi_le (by omega) (by omega)]; omega)]
    exact zwp_ret ⟨f1, p1, w1, out1, opn1, ce, cn1, e, fun _ => by omega⟩
  · rw [if_neg (by rw [show (8 : Int32) = Int32.ofNat 8 from rfl, zi_le (by omega) (by omega)]; omega)]
    by_cases h34 : ytk b n p1 = 34
    · have t34 : M1.1 2 4 = 34 := (ce.tk (c := 34) (by decide)).mpr h34
      rw [if_pos t34, ce.2.2.2.2.2.2.2.2.1]
      by_cases h0 : opn1 = 0
      · rw [if_pos (by rw [h0]; decide)]
        exact zwp_ret ⟨f1, p1, w1, out1, opn1, ce, cn1, e, fun _ => h0⟩
      · rw [if_neg (by rw [show (0 : Int32) = Int32.ofNat 0 from rfl, zi_le (by omega) (by omega)]; omega)]
        refine zwp_bd (c_above ce cn1 (r := 0) rfl (by decide)) (fun _ M2 z => ?_)
        obtain ⟨ce2, cn2, f2⟩ := z
        have e' : R = yrZ b n (false, ynx b n p1, (ypop 0 w1).1.drop 1, out1 ++ (ypop 0 w1).2, cnt, opn1 - 1) := by
          rw [e]
          refine yrZ_go ce.hn ce.hb ce.ck.1 ?_
          rw [ystp_n, if_pos ⟨h34, by omega⟩]
        have pp : ypar (ypop 0 w1).1 = opn1 := ypop_par.trans cn1.2
        have pt : ytop (ypop 0 w1).1 ≤ 0 := ypop_top
        generalize (ypop 0 w1).1 = w2 at *
        generalize out1 ++ (ypop 0 w1).2 = out2 at *
        cases w2 with
        | nil => exact absurd pp (fun z => h0 z.symm)
        | cons x w3 =>
          have x0 : yrank x = 0 := Nat.le_zero.mp pt
          have e12 : M2.1 2 12 = Int32.ofNat (w3.length + 1) := ce2.2.2.2.2.2.2.1
          have wl : w3.length + 1 ≤ 72 := ce2.2.2.2.2.2.2.2.2.2.2.2.2.2.2.1
          have zm : zmx 0 (Int32.ofNat (w3.length + 1) - 1) = Int32.ofNat w3.length := by
            rw [yi_m1 (by omega), show w3.length + 1 - 1 = w3.length by omega]
            unfold zmx
            by_cases z : w3.length = 0
            · rw [z]; rfl
            · rw [if_pos (by rw [show (0 : Int32) = Int32.ofNat 0 from rfl, zi_lt (by omega) (by omega)]; omega)]
          rw [mlt_eq, e12, zm]
          have uw := ce2.unwait
          generalize mup M2 2 12 (Int32.ofNat w3.length) = M3 at uw ⊢
          obtain ⟨ce3, f3⟩ := uw
          rw [mlt_eq, ce3.2.2.2.2.2.2.2.2.1, yi_m1 (by omega)]
          have co := ce3.setO (o := opn1 - 1) (by omega)
          generalize mup M3 2 13 (Int32.ofNat (opn1 - 1)) = M4 at co ⊢
          obtain ⟨ce4, f4⟩ := co
          refine zwp_bd ce4.adv (fun _ M5 z => ?_)
          obtain ⟨ce5, f5⟩ := z
          have yo : yops (x :: w3) = yops w3 := by show (if yrank x = 0 then 0 else 1) + _ = _; rw [if_pos x0]; omega
          have yp : ypar (x :: w3) = 1 + ypar w3 := by show (if yrank x = 0 then 1 else 0) + _ = _; rw [if_pos x0]
          refine zwp_ret ⟨9 - (i + 1), by omega, i + 1, yi_nn i, rfl, zfr_trans f1 (zfr_trans f2 (zfr_trans f3 (zfr_trans f4 f5))), _, _, _, opn1 - 1, by omega, ce5, ⟨?_, by omega⟩, e'⟩
          rw [← yo]
          exact cn2.1
    · have t34 : ¬ M1.1 2 4 = 34 := fun z => h34 ((ce.tk (c := 34) (by decide)).mp z)
      rw [if_neg t34]
      exact zwp_ret ⟨f1, p1, w1, out1, opn1, ce, cn1, e, fun z => absurd z h34⟩
end

section
variable {M : zMem} {b : Nat → Nat} {n : Nat} {t K0 p : Nat} {w : List Nat} {out : List yK} {cnt opn : Nat} {f : Nat × Nat} {R : yRz}
theorem yCE.tk (h : yCE M b n t K0 p w out cnt opn) {c : Nat} (hc : c < 40) : (M.1 2 4 = Int32.ofNat c) ↔ ytk b n p = c := by
  rw [h.ck.2.2.2.1]
  exact zi_eq (by have := ytk_lt h.hb (p := p); omega) (by omega)
theorem c_ahead (h : yCE M b n t K0 p w out cnt opn) (cn : yCn K0 w out cnt opn) (hR : R = yrZ b n (true, p, w, out, cnt, opn)) :
    zwp (m_X4_readAheadOfPart M) (fun _ M' => zfr (yCP t K0) M M' ∧ ((∃ f, yCF M' t K0 f ∧ R = .inl f) ∨ ∃ p' w' cnt' opn', cnt ≤ cnt' ∧ yCE M' b n t K0 p' w' out cnt' opn' ∧ yCn K0 w' out cnt' opn' ∧ R = yrZ b n (true, p', w', out, cnt', opn') ∧ ¬ ytk b n p' = 33 ∧ ¬ ytk b n p' = 15)) := by
  have lF : zLF = 100000 := rfl
  unfold m_X4_readAheadOfPart
  refine zwp_bd (Q' := fun _ M' => zfr (yCP t K0) M M' ∧ ((∃ f, yCF M' t K0 f ∧ R = .inl f) ∨ ∃ p' w' cnt' opn', cnt ≤ cnt' ∧ yCE M' b n t K0 p' w' out cnt' opn' ∧ yCn K0 w' out cnt' opn' ∧ R = yrZ b n (true, p', w', out, cnt', opn') ∧ ¬ ytk b n p' = 33 ∧ ¬ ytk b n p' = 15))
    (zwp_lp (fun k s M' => ∃ i, s = Int32.ofNat i ∧ k = 74 - i ∧ i ≤ 73 ∧ zfr (yCP t K0) M M' ∧ ((∃ f, yCF M' t K0 f ∧ R = .inl f) ∨ ∃ p' w' cnt' opn', cnt ≤ cnt' ∧ i + cnt + opn = cnt' + opn' ∧ yCE M' b n t K0 p' w' out cnt' opn' ∧ yCn K0 w' out cnt' opn' ∧ R = yrZ b n (true, p', w', out, cnt', opn'))) ?_ 74 0 M ⟨0, rfl, rfl, by omega, zfr_refl, Or.inr ⟨p, w, cnt, opn, Nat.le_refl _, by omega, h, cn, hR⟩⟩ (by omega)) (fun _ M' z => zwp_ret z)
  rintro k s M1 ⟨i, rfl, rfl, hi, f1, ⟨f, cf, e⟩ | ⟨p1, w1, cnt1, opn1, hc, hs, ce, cn1, e⟩⟩
  · by_cases h72 : 72 < i
    · rw [if_pos (by rw [show (72 : Int32) = Int32.ofNat 72 from rfl, zi_lt (by omega) (by omega)]; exact h72)]
      exact zwp_ret ⟨f1, Or.inl ⟨f, cf, e⟩⟩
    · rw [if_neg (by rw [show (72 : Int32) = Int32.ofNat 72 from rfl, zi_lt (by omega) (by omega)]; exact h72), cf.1.2.2.2, if_neg (by decide), if_neg (by decide), mbd_some, zsl_r]
      exact zwp_ret ⟨f1, Or.inl ⟨f, cf, e⟩⟩
  · have c64 : cnt1 ≤ 64 := ce.2.2.2.2.2.2.2.2.2.2.2.2.1
    have o8 : opn1 ≤ 8 := ce.2.2.2.2.2.2.2.2.2.2.2.2.2.1
    have wl := yw_len w1
    obtain ⟨g1, g2⟩ := cn1
    rw [if_neg (by rw [show (72 : Int32) = Int32.ofNat 72 from rfl, zi_lt (by omega) (by omega)]; omega)]
    have fau0 : ∀ {M2 : zMem} {f : Nat × Nat}, yCF M2 t K0 f → zfr (yCP t K0) M M2 → zwp (mbd (m_X4_letWait (M2.1 2 4) M2) (fun v22 M21 => mbd (m_X4_advance M21) (fun v24 M23 => some ((Sum.inl (Int32.ofNat i + 1) : Int32 ⊕ Int32), M23)))) (fun r M3 => r = Sum.inl (Int32.ofNat (i + 1)) ∧ zfr (yCP t K0) M M3 ∧ yCF M3 t K0 f) := by
      intro M2 f cf f2
      refine zwp_bd (c_wait_f cf _) (fun _ M3 z => ?_)
      rw [c_advance_f z.1.1, mbd_some, yi_nn]
      exact zwp_ret ⟨rfl, zfr_trans f2 z.2, z.1⟩
    by_cases h33 : ytk b n p1 = 33
    · have t33 : M1.1 2 4 = 33 := (ce.tk (c := 33) (by decide)).mpr h33
      rw [if_pos t33, mbd_some, zsl_l, if_pos t33]
      by_cases h8 : 8 ≤ opn1
      · have op : zwp (m_X4_openOne M1) (fun _ M' => yCF M' t K0 (2, ypl b n p1) ∧ zfr (yCP t K0) M1 M') := by
          unfold m_X4_openOne
          rw [ce.2.2.2.2.2.2.2.2.1, if_neg (by rw [show (8 : Int32) = Int32.ofNat 8 from rfl, zi_lt (by omega) (by omega)]; omega)]
          exact zwp_bd (ce.fail (k := 2) (by omega)) (fun _ M' z => zwp_ret z)
        refine zwp_bd (Q' := fun _ M' => yCF M' t K0 (2, ypl b n p1) ∧ zfr (yCP t K0) M1 M') (zwp_bd op (fun _ M' z => zwp_ret z)) (fun _ M2 z => ?_)
        refine zwp_mono (fau0 z.1 (zfr_trans f1 z.2)) ?_
        rintro _ M3 ⟨rfl, f3, cf3⟩
        refine ⟨74 - (i + 1), by omega, i + 1, rfl, rfl, by omega, f3, Or.inl ⟨_, cf3, ?_⟩⟩
        rw [e]
        refine yrZ_end ce.hn ce.ck.1 ?_
        rw [ystp_a]
        rw [if_pos h33, if_pos h8]
      · have op : m_X4_openOne M1 = some ((), mup M1 2 13 (Int32.ofNat (opn1 + 1))) := by
          unfold m_X4_openOne
          rw [ce.2.2.2.2.2.2.2.2.1, if_pos (by rw [show (8 : Int32) = Int32.ofNat 8 from rfl, zi_lt (by omega) (by omega)]; omega), mlt_eq, yi_nn]
        rw [op, mbd_some, mbd_some]
        have co := ce.setO (o := opn1 + 1) (by omega)
        generalize mup M1 2 13 (Int32.ofNat (opn1 + 1)) = M2 at co ⊢
        obtain ⟨ce2, f2⟩ := co
        refine zwp_bd (ce2.wait (x := 33) ((ce2.tk (c := 33) (by decide)).mpr h33) (by decide) (Or.inr rfl) (by omega)) (fun _ M3 z => ?_)
        obtain ⟨ce3, f3⟩ := z
        refine zwp_bd ce3.adv (fun _ M4 z => ?_)
        obtain ⟨ce4, f4⟩ := z
        refine zwp_ret ⟨74 - (i + 1), by omega, i + 1, yi_nn i, rfl, by omega, zfr_trans f1 (zfr_trans f2 (zfr_trans f3 f4)), Or.inr ⟨_, _, cnt1, opn1 + 1, hc, by omega, ce4, ⟨?_, ?_⟩, ?_⟩⟩
        · show K0 + out.length + (0 + yops w1) ≤ cnt1; omega
        · show 1 + ypar w1 = opn1 + 1; omega
        · rw [e]
          refine yrZ_go ce.hn ce.hb ce.ck.1 ?_
          rw [ystp_a]
          rw [if_pos h33, if_neg h8]
    · have t33 : ¬ M1.1 2 4 = 33 := fun z => h33 ((ce.tk (c := 33) (by decide)).mp z)
      rw [if_neg t33]
      by_cases h15 : ytk b n p1 = 15
      · have t15 : M1.1 2 4 = 15 := (ce.tk (c := 15) (by decide)).mpr h15
        rw [if_pos t15, mbd_some, zsl_l, if_neg t33, c_mayTurn ce, mbd_some]
        by_cases h4 : ytop w1 < 4
        · rw [if_pos h4, if_neg (by decide)]
          refine zwp_bd (Q' := fun _ M2 => zfr (yCP t K0) M1 M2 ∧ ((64 ≤ cnt1 ∧ yCF M2 t K0 (2, ypl b n p1)) ∨ (cnt1 < 64 ∧ yCE M2 b n t K0 p1 w1 out (cnt1 + 1) opn1))) (ce.count (fun z M2 cf f2 => zwp_ret ⟨f2, Or.inl ⟨z, cf⟩⟩) (fun z M2 ce2 f2 => zwp_ret ⟨f2, Or.inr ⟨z, ce2⟩⟩)) (fun _ M2 z => ?_)
          obtain ⟨f2, ⟨z, cf⟩ | ⟨z, ce2⟩⟩ := z
          · refine zwp_mono (fau0 cf (zfr_trans f1 f2)) ?_
            rintro _ M3 ⟨rfl, f3, cf3⟩
            refine ⟨74 - (i + 1), by omega, i + 1, rfl, rfl, by omega, f3, Or.inl ⟨_, cf3, ?_⟩⟩
            rw [e]
            refine yrZ_end ce.hn ce.ck.1 ?_
            rw [ystp_a]
            rw [if_neg h33, if_pos h15, if_pos h4, if_pos z]
          · refine zwp_bd (ce2.wait (x := 15) ((ce2.tk (c := 15) (by decide)).mpr h15) (by decide) (Or.inl (by decide)) (by omega)) (fun _ M3 z => ?_)
            obtain ⟨ce3, f3⟩ := z
            refine zwp_bd ce3.adv (fun _ M4 z => ?_)
            obtain ⟨ce4, f4⟩ := z
            refine zwp_ret ⟨74 - (i + 1), by omega, i + 1, yi_nn i, rfl, by omega, zfr_trans f1 (zfr_trans f2 (zfr_trans f3 f4)), Or.inr ⟨_, _, cnt1 + 1, opn1, by omega, by omega, ce4, ⟨?_, ?_⟩, ?_⟩⟩
            · show K0 + out.length + (1 + yops w1) ≤ cnt1 + 1; omega
            · show 0 + ypar w1 = opn1; omega
            · rw [e]
              refine yrZ_go ce.hn ce.hb ce.ck.1 ?_
              rw [ystp_a]
              rw [if_neg h33, if_pos h15, if_pos h4, if_neg (by omega)]
        · rw [if_neg h4, if_pos rfl]
          refine zwp_bd (Q' := fun _ M' => yCF M' t K0 (1, ypl b n p1) ∧ zfr (yCP t K0) M1 M') (zwp_bd (ce.fail (k := 1) (by omega)) (fun _ M' z => zwp_ret z)) (fun _ M2 z => ?_)
          refine zwp_mono (fau0 z.1 (zfr_trans f1 z.2)) ?_
          rintro _ M3 ⟨rfl, f3, cf3⟩
          refine ⟨74 - (i + 1), by omega, i + 1, rfl, rfl, by omega, f3, Or.inl ⟨_, cf3, ?_⟩⟩
          rw [e]
          refine yrZ_end ce.hn ce.ck.1 ?_
          rw [ystp_a]
          rw [if_neg h33, if_pos h15, if_neg h4]
      · have t15 : ¬ M1.1 2 4 = 15 := fun z => h15 ((ce.tk (c := 15) (by decide)).mp z)
        rw [if_neg t15, mbd_some, zsl_r]
        exact zwp_ret ⟨f1, Or.inr ⟨p1, w1, cnt1, opn1, hc, ce, ⟨g1, g2⟩, e, h33, h15⟩⟩
theorem c_ahead_f (cf : yCF M t K0 f) : m_X4_readAheadOfPart M = some ((), M) := by
  unfold m_X4_readAheadOfPart
  rw [mlp_end (r := 0) (by decide) (by rw [if_neg (by decide), cf.1.2.2.2, if_neg (by decide), if_neg (by decide), mbd_some, zsl_r]), mbd_some]
theorem c_number_f (fl : yFl M f) (a c : Int32) : m_X4_readNumber a c M = some (-1, M) := by
  unfold m_X4_readNumber
  rw [fl.2.2.2, if_neg (by decide), c_fail_f fl, mbd_some, mbd_some, if_neg fl.ne]
theorem c_part_f (cf : yCF M t K0 f) : m_X4_readPart M = some ((), M) := by
  unfold m_X4_readPart
  rw [cf.1.2.2.2, if_neg (by decide), if_neg (by decide), if_pos (by decide), c_fail_f cf.1, mbd_some]
/-- a number of these bounds -/
theorem c_number (h0 : M.1 2 14 = 0) (rb : yRb M n) (tx : yTx M b n) (ck : yCk M b n p) {lo hi : Nat} (hl : lo ≤ 99999) (hh : hi ≤ 99999) {α : Type} {Q : α → zMem → Prop} {g : Int32 → zMem → Option (α × zMem)}
    (k1 : ¬ ytk b n p = 37 → ∀ M', yFl M' (1, ypl b n p) → zfr (fun k i => k = 2 ∧ (i = 4 ∨ i = 14 ∨ i = 15)) M M' → zwp (g (-1) M') Q)
    (k2 : ytk b n p = 37 → ¬ (lo ≤ yva b n p ∧ yva b n p ≤ hi) → ∀ M', yFl M' (2, ypl b n p) → zfr (fun k i => k = 2 ∧ (i = 4 ∨ i = 14 ∨ i = 15)) M M' → zwp (g (-1) M') Q)
    (k3 : ytk b n p = 37 → lo ≤ yva b n p → yva b n p ≤ hi → ∀ M', yCk M' b n (ynx b n p) → M'.1 2 8 = Int32.ofNat (ypl b n p) → zfr (fun k i => k = 2 ∧ 3 ≤ i ∧ i ≤ 8) M M' → zwp (g (Int32.ofNat (yva b n p)) M') Q) :
    zwp (mbd (m_X4_readNumber (Int32.ofNat lo) (Int32.ofNat hi) M) g) Q := by
  have hb : ∀ i, i < n → b i < 256 := fun i hi => (tx.2 i hi).1
  have lt := ytk_lt hb (p := p)
  unfold m_X4_readNumber
  rw [ck.2.2.2.1]
  by_cases h37 : ytk b n p = 37
  · rw [if_pos (by rw [h37]; rfl)]
    obtain ⟨c, ec, hc⟩ := ck.2.2.2.2.1 h37
    rw [ec]
    by_cases hin : lo ≤ yva b n p ∧ yva b n p ≤ hi
    · have cv : c = yva b n p := by omega
      subst cv
      rw [if_neg (by rw [zi_lt (by omega) (by omega)]; omega), if_pos (by rw [zi_le (by omega) (by omega)]; omega), mbd_some, zsl_r, mbd_some, if_pos h0, mlt_eq]
      have fr : zfr (fun k i => k = 2 ∧ i = 8) M (mup M 2 8 (M.1 2 5)) := zfr_mup ⟨rfl, rfl⟩
      have ck' : (mup M 2 8 (M.1 2 5)).1 2 3 = Int32.ofNat (ynx b n p) := (mup_off' (by decide)).trans ck.2.1
      rw [ec]
      refine zwp_bd (Q' := fun v M' => v = Int32.ofNat (yva b n p) ∧ yCk M' b n (ynx b n p) ∧ zfr yRA (mup M 2 8 (M.1 2 5)) M') (zwp_bd (c_advance (rb.keep fr (by omega) (by omega) (by omega)) (tx.keep fr (by omega) (by omega)) ((mup_off' (by decide)).trans h0) (ynx_le hb ck.1).2.1 ck') (fun _ M' z => zwp_ret ⟨rfl, z⟩)) ?_
      rintro _ M' ⟨rfl, ck2, f2⟩
      refine k3 h37 hin.1 hin.2 M' ck2 ?_ (zfr_trans (zfr_weak fr (by omega)) (zfr_weak f2 (by unfold yRA; omega)))
      rw [f2 2 8 (by unfold yRA; omega), mup_on]
      exact ck.2.2.1
    · have bad : zwp (mbd (α := (Unit ⊕ Unit)) (if Int32.ofNat c < Int32.ofNat lo then some ((.inl ()), M) else if Int32.ofNat c ≤ Int32.ofNat hi then some ((.inr ()), M) else some ((.inl ()), M)) (fun b18 M5 => zsl b18 (fun e4 => mbd (m_X4_fail 2 M5) (fun v7 M6 => some ((), M6))) (fun r => some (r, M5)))) (fun _ M' => yFl M' (2, ypl b n p) ∧ zfr (fun k i => k = 2 ∧ (i = 4 ∨ i = 14 ∨ i = 15)) M M') := by
        have e : (if Int32.ofNat c < Int32.ofNat lo then some (((.inl ()) : Unit ⊕ Unit), M) else if Int32.ofNat c ≤ Int32.ofNat hi then some ((.inr ()), M) else some ((.inl ()), M)) = some (.inl (), M) := by
          by_cases z : c < lo
          · rw [if_pos (by rw [zi_lt (by omega) (by omega)]; exact z)]
          · rw [if_neg (by rw [zi_lt (by omega) (by omega)]; exact z), if_neg (by rw [zi_le (by omega) (by omega)]; omega)]
        rw [e, mbd_some, zsl_l]
        exact zwp_bd (c_fail h0 ck (k := 2) (by omega)) (fun _ M' z => zwp_ret z)
      refine zwp_bd (Q' := fun v M' => v = -1 ∧ yFl M' (2, ypl b n p) ∧ zfr (fun k i => k = 2 ∧ (i = 4 ∨ i = 14 ∨ i = 15)) M M') (zwp_bd bad (fun _ M' z => by rw [if_neg z.1.ne]; exact zwp_ret ⟨rfl, z⟩)) ?_
      rintro _ M' ⟨rfl, fl, f2⟩
      exact k2 h37 hin M' fl f2
  · rw [if_neg (by rw [show (37 : Int32) = Int32.ofNat 37 from rfl, zi_eq (by omega) (by omega)]; exact h37)]
    refine zwp_bd (Q' := fun v M' => v = -1 ∧ yFl M' (1, ypl b n p) ∧ zfr (fun k i => k = 2 ∧ (i = 4 ∨ i = 14 ∨ i = 15)) M M') (zwp_bd (Q' := fun _ M' => yFl M' (1, ypl b n p) ∧ zfr (fun k i => k = 2 ∧ (i = 4 ∨ i = 14 ∨ i = 15)) M M') (zwp_bd (c_fail h0 ck (k := 1) (by omega)) (fun _ M' z => zwp_ret z)) (fun _ M' z => by rw [if_neg z.1.ne]; exact zwp_ret ⟨rfl, z⟩)) ?_
    rintro _ M' ⟨rfl, fl, f2⟩
    exact k1 h37 M' fl f2
end

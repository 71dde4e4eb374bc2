section
variable {M : zMem} {b : Nat → Nat} {n : Nat} {t K0 p : Nat} {w : List Nat} {out : List yK} {cnt opn : Nat} {f : Nat × Nat} {R : yRz}
def ySg (b : Nat → Nat) (n t K0 cnt : Nat) (R : yRz) (v : Int32) (M' : zMem) : Prop :=
  (v = 0 ∧ ∃ f, yCF M' t K0 f ∧ R = .inl f) ∨ (v = 0 ∧ ∃ p' w' out', yCE M' b n t K0 p' w' out' cnt 0 ∧ yCn K0 w' out' cnt 0 ∧ R = .inr (out' ++ (ypop 0 w').2, p', cnt)) ∨ (v = 1 ∧ ∃ p' w' out' opn', yCE M' b n t K0 p' w' out' (cnt + 1) opn' ∧ yCn K0 w' out' (cnt + 1) opn' ∧ R = yrZ b n (true, p', w', out', cnt + 1, opn'))
theorem c_sign (h : yCE M b n t K0 p w out cnt opn) (cn : yCn K0 w out cnt opn) (hR : R = yrZ b n (false, p, w, out, cnt, opn)) :
    zwp (m_X4_readSign M) (fun v M' => zfr (yCP t K0) M M' ∧ ySg b n t K0 cnt R v M') := by
  unfold m_X4_readSign
  refine c_close h cn hR (fun s M1 f1 z => ?_)
  obtain ⟨p1, w1, out1, opn1, ce, cn1, e, h34⟩ := z
  have lt := ytk_lt ce.hb (p := p1)
  have rf := yrank_f _ lt
  have r6 := rf.1
  have c64 : cnt ≤ 64 := ce.2.2.2.2.2.2.2.2.2.2.2.2.1
  have o8 : opn1 ≤ 8 := ce.2.2.2.2.2.2.2.2.2.2.2.2.2.1
  have tk := ce.ck.2.2.2.1
  have n34 : ¬ (ytk b n p1 = 34 ∧ 0 < opn1) := fun z => by have := h34 z.1; omega
  rw [tk, c_rankOf, mbd_some, yrk_e _ lt]
  by_cases h0 : yrank (ytk b n p1) = 0 ∨ ytk b n p1 = 15
  · have st : (if Int32.ofNat (yrank (ytk b n p1)) = 0 then some ((Sum.inl () : Unit ⊕ Int32), M1) else if (M1.1 2 4) = 15 then some ((Sum.inl () : Unit ⊕ Int32), M1) else none) = some (Sum.inl (), M1) := by
      rcases h0 with z | z
      · rw [z, if_pos (by decide)]
      · by_cases z0 : Int32.ofNat (yrank (ytk b n p1)) = 0
        · rw [if_pos z0]
        · rw [if_neg z0, if_pos (show M1.1 2 4 = 15 from (ce.tk (c := 15) (by decide)).mpr z)]
    have go : ∀ X : Option ((Unit ⊕ Int32) × zMem), (if Int32.ofNat (yrank (ytk b n p1)) = 0 then some ((Sum.inl () : Unit ⊕ Int32), M1) else if (M1.1 2 4) = 15 then some ((Sum.inl () : Unit ⊕ Int32), M1) else X) = some (Sum.inl (), M1) := by
      intro X
      by_cases z0 : Int32.ofNat (yrank (ytk b n p1)) = 0
      · rw [if_pos z0]
      · rw [if_neg z0] at st ⊢
        by_cases z1 : M1.1 2 4 = 15
        · rw [if_pos z1]
        · rw [if_neg z1] at st
          exact absurd st (by intro z; cases z)
    rw [go, mbd_some, zsl_l, ce.2.2.2.2.2.2.2.2.1]
    by_cases o0 : opn1 = 0
    · subst o0
      rw [if_pos (by decide)]
      refine zwp_ret ⟨f1, Or.inr (Or.inl ⟨rfl, p1, w1, out1, ce, cn1, ?_⟩)⟩
      rw [e]
      refine yrZ_end ce.hn ce.ck.1 ?_
      rw [ystp_n, if_neg n34, if_pos h0, if_neg (by omega)]
    · rw [if_neg (by rw [show (0 : Int32) = Int32.ofNat 0 from rfl, zi_le (by omega) (by omega)]; omega)]
      refine zwp_bd (ce.fail (k := 1) (by omega)) (fun _ M2 z => zwp_ret ⟨zfr_trans f1 z.2, Or.inl ⟨rfl, _, z.1, ?_⟩⟩)
      rw [e]
      refine yrZ_end ce.hn ce.ck.1 ?_
      rw [ystp_n, if_neg n34, if_pos h0, if_pos (by omega)]
  · have r0 : ¬ Int32.ofNat (yrank (ytk b n p1)) = 0 := by rw [show (0 : Int32) = Int32.ofNat 0 from rfl, zi_eq (by omega) (by omega)]; exact fun z => h0 (Or.inl z)
    have t15 : ¬ M1.1 2 4 = 15 := fun z => h0 (Or.inr ((ce.tk (c := 15) (by decide)).mp z))
    rw [if_neg r0, if_neg t15]
    have e19 : (if Int32.ofNat (yrank (ytk b n p1)) = 4 then some ((4 : Int32), M1) else some ((Int32.ofNat (yrank (ytk b n p1)) - 1), M1)) = some (Int32.ofNat (if yrank (ytk b n p1) = 4 then 4 else yrank (ytk b n p1) - 1), M1) := by
      by_cases z : yrank (ytk b n p1) = 4
      · rw [if_pos z, z, if_pos (by decide)]; rfl
      · rw [if_neg z, if_neg (by rw [show (4 : Int32) = Int32.ofNat 4 from rfl, zi_eq (by omega) (by omega)]; exact z), yi_m1 (by omega)]
    rw [e19, mbd_some]
    have s6 : (if yrank (ytk b n p1) = 4 then 4 else yrank (ytk b n p1) - 1) ≤ 6 := by split <;> omega
    have R1 : R = if yrank (ytk b n p1) = 4 ∧ ytop (ypop 4 w1).1 = 4 then .inl (1, ypl b n p1) else if 64 ≤ cnt then .inl (2, ypl b n p1) else yrZ b n (true, ynx b n p1, ytk b n p1 :: (ypop (if yrank (ytk b n p1) = 4 then 4 else yrank (ytk b n p1) - 1) w1).1, out1 ++ (ypop (if yrank (ytk b n p1) = 4 then 4 else yrank (ytk b n p1) - 1) w1).2, cnt + 1, opn1) := by
      rw [e]
      by_cases z4 : yrank (ytk b n p1) = 4 ∧ ytop (ypop 4 w1).1 = 4
      · rw [if_pos z4]
        refine yrZ_end ce.hn ce.ck.1 ?_
        rw [ystp_n, if_neg n34, if_neg h0, if_pos z4]
      · rw [if_neg z4]
        by_cases z : 64 ≤ cnt
        · rw [if_pos z]
          refine yrZ_end ce.hn ce.ck.1 ?_
          rw [ystp_n, if_neg n34, if_neg h0, if_neg z4, if_pos z]
        · rw [if_neg z]
          refine yrZ_go ce.hn ce.hb ce.ck.1 ?_
          rw [ystp_n, if_neg n34, if_neg h0, if_neg z4, if_neg z]
    refine zwp_bd (Q' := fun r M' => ∃ v, r = Sum.inr v ∧ zfr (yCP t K0) M M' ∧ ySg b n t K0 cnt R v M') (zwp_bd (c_above ce cn1 rfl s6) (fun _ M2 z => ?_)) ?_
    · obtain ⟨ce2, cn2, f2⟩ := z
      have pt : yrank (ytk b n p1) = 4 → ypop 4 w1 = ypop (if yrank (ytk b n p1) = 4 then 4 else yrank (ytk b n p1) - 1) w1 := fun z => by rw [if_pos z]
      have R2 : R = if yrank (ytk b n p1) = 4 ∧ ytop (ypop (if yrank (ytk b n p1) = 4 then 4 else yrank (ytk b n p1) - 1) w1).1 = 4 then .inl (1, ypl b n p1) else if 64 ≤ cnt then .inl (2, ypl b n p1) else yrZ b n (true, ynx b n p1, ytk b n p1 :: (ypop (if yrank (ytk b n p1) = 4 then 4 else yrank (ytk b n p1) - 1) w1).1, out1 ++ (ypop (if yrank (ytk b n p1) = 4 then 4 else yrank (ytk b n p1) - 1) w1).2, cnt + 1, opn1) := by
        rw [R1]
        by_cases z : yrank (ytk b n p1) = 4
        · rw [pt z]
        · rw [if_neg (show ¬ (yrank (ytk b n p1) = 4 ∧ ytop (ypop 4 w1).1 = 4) from fun y => z y.1), if_neg (show ¬ (yrank (ytk b n p1) = 4 ∧ ytop (ypop (if yrank (ytk b n p1) = 4 then 4 else yrank (ytk b n p1) - 1) w1).1 = 4) from fun y => z y.1)]
      clear R1 pt
      generalize (ypop (if yrank (ytk b n p1) = 4 then 4 else yrank (ytk b n p1) - 1) w1).1 = w2 at *
      generalize out1 ++ (ypop (if yrank (ytk b n p1) = 4 then 4 else yrank (ytk b n p1) - 1) w1).2 = out2 at *
      have fin : ∀ {g : Nat × Nat} M3, yCF M3 t K0 g → zfr (yCP t K0) M M3 → R = .inl g → zwp (mbd (m_X4_letWait (M3.1 2 4) M3) (fun v41 M40 => mbd (m_X4_advance M40) (fun v43 M42 => if (M42.1 2 14) = 0 then some (((.inr 1) : Unit ⊕ Int32), M42) else some ((.inr 0), M42)))) (fun r M' => ∃ v, r = Sum.inr v ∧ zfr (yCP t K0) M M' ∧ ySg b n t K0 cnt R v M') := by
        intro g M3 cf f3 eR
        refine zwp_bd (c_wait_f cf _) (fun _ M4 z => ?_)
        rw [c_advance_f z.1.1, mbd_some, if_neg z.1.1.ne]
        exact zwp_ret ⟨0, rfl, zfr_trans f3 z.2, Or.inl ⟨rfl, g, z.1, eR⟩⟩
      have fin2 : ∀ M3, yCE M3 b n t K0 p1 w2 out2 (cnt + 1) opn1 → cnt < 64 → zfr (yCP t K0) M M3 → R = yrZ b n (true, ynx b n p1, ytk b n p1 :: w2, out2, cnt + 1, opn1) → zwp (mbd (m_X4_letWait (M3.1 2 4) M3) (fun v41 M40 => mbd (m_X4_advance M40) (fun v43 M42 => if (M42.1 2 14) = 0 then some (((.inr 1) : Unit ⊕ Int32), M42) else some ((.inr 0), M42)))) (fun r M' => ∃ v, r = Sum.inr v ∧ zfr (yCP t K0) M M' ∧ ySg b n t K0 cnt R v M') := by
        intro M3 ce3 z f3 eR
        have wl := yw_len w2
        have g1 := cn2.1
        have g2 := cn2.2
        have rn : ¬ yrank (ytk b n p1) = 0 := fun z => h0 (Or.inl z)
        refine zwp_bd (ce3.wait ce3.ck.2.2.2.1 lt (Or.inl rn) (by omega)) (fun _ M4 z4 => ?_)
        obtain ⟨ce4, f4⟩ := z4
        refine zwp_bd ce4.adv (fun _ M5 z5 => ?_)
        obtain ⟨ce5, f5⟩ := z5
        rw [if_pos ce5.ok]
        refine zwp_ret ⟨1, rfl, zfr_trans f3 (zfr_trans f4 f5), Or.inr (Or.inr ⟨rfl, _, _, _, _, ce5, ⟨?_, ?_⟩, eR⟩)⟩
        · show K0 + out2.length + ((if yrank (ytk b n p1) = 0 then 0 else 1) + yops w2) ≤ cnt + 1
          rw [if_neg rn]; omega
        · show (if yrank (ytk b n p1) = 0 then 1 else 0) + ypar w2 = opn1
          rw [if_neg rn]; omega
      have f02 : zfr (yCP t K0) M M2 := zfr_trans f1 f2
      have cnt2 : ∀ {g2 : Unit → zMem → Option (Unit × zMem)}, ¬ (yrank (ytk b n p1) = 4 ∧ ytop w2 = 4) → (∀ M3, g2 () M3 = some ((), M3)) → zwp (mbd (mbd (m_X4_countKnot M2) g2) (fun e37 M38 => mbd (m_X4_letWait (M38.1 2 4) M38) (fun v41 M40 => mbd (m_X4_advance M40) (fun v43 M42 => if (M42.1 2 14) = 0 then some (((.inr 1) : Unit ⊕ Int32), M42) else some ((.inr 0), M42))))) (fun r M' => ∃ v, r = Sum.inr v ∧ zfr (yCP t K0) M M' ∧ ySg b n t K0 cnt R v M') := by
        intro g2 n4 hg
        rw [if_neg n4] at R2
        refine zwp_bd (Q' := fun _ M3 => zfr (yCP t K0) M2 M3 ∧ ((64 ≤ cnt ∧ yCF M3 t K0 (2, ypl b n p1)) ∨ (cnt < 64 ∧ yCE M3 b n t K0 p1 w2 out2 (cnt + 1) opn1))) (ce2.count (fun z M3 cf f3 => by rw [hg]; exact zwp_ret ⟨f3, Or.inl ⟨z, cf⟩⟩) (fun z M3 ce3 f3 => by rw [hg]; exact zwp_ret ⟨f3, Or.inr ⟨z, ce3⟩⟩)) (fun _ M3 z => ?_)
        obtain ⟨f3, ⟨z, cf⟩ | ⟨z, ce3⟩⟩ := z
        · rw [if_pos z] at R2
          exact fin M3 cf (zfr_trans f02 f3) R2
        · rw [if_neg (by omega)] at R2
          exact fin2 M3 ce3 z (zfr_trans f02 f3) R2
      by_cases z4 : yrank (ytk b n p1) = 4
      · rw [if_pos (by rw [z4]; decide), ce2.2.2.2.2.2.2.1]
        cases w2 with
        | nil =>
          rw [if_pos (by decide), mbd_some, zsl_l]
          exact cnt2 (fun y => absurd y.2 (by decide)) (fun _ => rfl)
        | cons x w3 =>
          have wt := ce2.2.2.2.2.2.2.2.1
          have wl : w3.length + 1 ≤ 72 := ce2.2.2.2.2.2.2.2.2.2.2.2.2.2.2.1
          have x6 := yrank_le x
          rw [show (x :: w3).length = w3.length + 1 from rfl, if_neg (by rw [show (0 : Int32) = Int32.ofNat 0 from rfl, zi_le (by omega) (by omega)]; omega), yi_m1 (by omega), show w3.length + 1 - 1 = w3.length by omega, mrd_of (k := 23) (j := w3.length) (by show w3.length < 72; omega), zob_some, wt.1, c_rankOf, mbd_some, yrk_e _ wt.2.2.1]
          by_cases x4 : yrank x = 4
          · rw [if_pos (by rw [x4]; decide)]
            have R2 : R = .inl (1, ypl b n p1) := by rw [R2, if_pos ⟨z4, x4⟩]
            refine zwp_bd (Q' := fun _ M3 => yCF M3 t K0 (1, ypl b n p1) ∧ zfr (yCP t K0) M2 M3) (zwp_bd (Q' := fun r M3 => r = Sum.inr () ∧ yCF M3 t K0 (1, ypl b n p1) ∧ zfr (yCP t K0) M2 M3) (zwp_bd (ce2.fail (k := 1) (by omega)) (fun _ M3 z => zwp_ret ⟨rfl, z⟩)) ?_) (fun _ M3 z => fin M3 z.1 (zfr_trans f02 z.2) R2)
            rintro _ M3 ⟨rfl, z⟩
            rw [zsl_r]
            exact zwp_ret z
          · rw [if_neg (by rw [show (4 : Int32) = Int32.ofNat 4 from rfl, zi_eq (by omega) (by omega)]; exact x4), mbd_some, zsl_l]
            exact cnt2 (fun y => x4 y.2) (fun _ => rfl)
      · rw [if_neg (by rw [show (4 : Int32) = Int32.ofNat 4 from rfl, zi_eq (by omega) (by omega)]; exact z4)]
        exact cnt2 (fun y => z4 y.1) (fun _ => rfl)
    · rintro _ M3 ⟨v, rfl, z⟩
      rw [zsl_r]
      exact zwp_ret z
end

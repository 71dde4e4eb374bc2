/-! promise by promise: chance -/
def ydr (x : Int32) : Int32 := ((x * 1103515245) + 12345) &&& 2147483647
theorem ydr_nat (y : Int32) : ∃ m, m < 2147483648 ∧ (y &&& 2147483647) = Int32.ofNat m := by
  have hb : (y &&& 2147483647).toBitVec.msb = false := by
    rw [Int32.toBitVec_and, BitVec.msb_and, show (2147483647 : Int32).toBitVec.msb = false by decide, Bool.and_false]
  have e : (y &&& 2147483647).toBitVec.toInt = _ := BitVec.toInt_eq_toNat_of_msb hb
  have e' : (y &&& 2147483647).toInt = ((y &&& 2147483647).toBitVec.toNat : Int) := e
  have l := (y &&& 2147483647).toInt_lt
  refine ⟨(y &&& 2147483647).toBitVec.toNat, by omega, ?_⟩
  rw [← Int32.toInt_inj, Int32.toInt_ofNat_of_lt (by omega)]
  exact e'
theorem ysh16 {m : Nat} (hm : m < 2147483648) : Int32.ofNat m >>> (16 &&& 31) = Int32.ofNat (m / 65536) := by
  rw [← Int32.toInt_inj, Int32.toInt_ofNat_of_lt (by omega)]
  show ((Int32.ofNat m).toBitVec.sshiftRight' ((16 &&& 31 : Int32).toBitVec.smod 32)).toInt = _
  rw [show (16 &&& 31 : Int32).toBitVec.smod 32 = 16#32 by decide]
  show ((Int32.ofNat m).toBitVec.sshiftRight 16).toInt = _
  rw [BitVec.toInt_sshiftRight, Int.shiftRight_eq_div_pow]
  show (Int32.ofNat m).toInt / _ = _
  rw [Int32.toInt_ofNat_of_lt hm]
  show (m : Int) / 65536 = _
  omega
def ycw (x : Int32) : Int32 := zrm (ydr x / 65536) 5
theorem ycw_r (x : Int32) : zrm (ydr x >>> (16 &&& 31)) 5 = ycw x ∧ ycw x ≠ -1 := by
  obtain ⟨m, hm, e⟩ := ydr_nat ((x * 1103515245) + 12345)
  have e : ydr x = Int32.ofNat m := e
  unfold ycw
  rw [e, ysh16 hm, show (65536 : Int32) = Int32.ofNat 65536 from rfl, ydv_of hm (by decide)]
  refine ⟨rfl, ?_⟩
  rw [show (5 : Int32) = Int32.ofNat 5 from rfl, yrm_of (by omega) (by decide)]
  exact zi_n1 (by omega)
/-- n hours by chance -/
def ycg (T : yT) (S : yA) (x : Int32) : Nat → Int32 × yA
  | 0 => (x, S)
  | n + 1 => (ydr (ycg T S x n).1, ypass T 0 (ycw (ycg T S x n).1) (ycg T S x n).2)
theorem ycg_hour (T : yT) (S : yA) (x : Int32) (n : Nat) : (ycg T S x n).2.hour = S.hour + n := by
  induction n with
  | zero => rfl
  | succ n ih => show (ypass T 0 _ _).hour = _; rw [ypass_hour, ih]; rfl
def ych (T : yT) (S : yA) (n f : Nat) (seed rain : Int32) : Nat → Int32 × Int32
  | 0 => (seed, 0)
  | r + 1 => ((ycg T S (ych T S n f seed rain r).1 n).1, if (ycg T S (ych T S n f seed rain r).1 n).2.got f - S.got f < rain then (ych T S n f seed rain r).2 else (ych T S n f seed rain r).2 + 1)
section
variable {W : Nat → Int32} {M : zMem} {t : Nat} {T : yT} {S : yA}
theorem c_rainByChance (h : yI W M t T S) {n f : Nat} {x : Int32} (hx : M.1 92 8 = x) (hn : n ≤ 60) (hf : f < T.nf) : zwp (m_X1_rainByChance 42 (Int32.ofNat n) (Int32.ofNat f) M) (fun r M' => r = (ycg T S x n).2.got f - S.got f ∧ zfr ySc M M' ∧ M'.1 92 8 = (ycg T S x n).1) := by
  have hr := h.hr
  have hfu : zLF = 100000 := rfl
  unfold m_X1_rainByChance
  refine zwp_bd (c_copy (s := 99) (s' := 42) h.cs (by unfold ySP; decide) (by decide)) ?_
  rintro _ M1 ⟨c1, f1⟩
  refine zwp_bd (Q' := fun _ M' => yCS M' 99 t 0 T (ycg T S x n).2 ∧ M'.1 92 8 = (ycg T S x n).1 ∧ zfr ySc M M') (zwp_for 0 n (fun c st M' => st = Int32.ofNat c ∧ yCS M' 99 t 0 T (ycg T S x c).2 ∧ M'.1 92 8 = (ycg T S x c).1 ∧ zfr ySc M M') ?_ ?_ ⟨rfl, c1, (f1 92 8 (by unfold yTC; omega)).trans hx, zfr_weak f1 ysc_99⟩ (Nat.zero_le _) (by omega)) ?_
  · rintro c st M2 - hc ⟨rfl, c2, x2, f2⟩
    rw [if_neg (yge hc (by omega))]
    unfold m_X1_drawNumber
    rw [mlt_eq, mbd_some, mup_on, x2]
    have g3 : zfr (fun k i => k = 92 ∧ i = 8) M2 (mup M2 92 8 (ydr (ycg T S x c).1)) := zfr_mup ⟨rfl, rfl⟩
    refine zwp_bd (c_pass (c2.keep g3 (by omega)) _) ?_
    rintro _ M4 ⟨c4, f4⟩
    exact zwp_ret ⟨yi_nn c, c4, (f4 92 8 (by unfold yTC; omega)).trans mup_on, zfr_trans f2 (zfr_trans (zfr_mup (by unfold ySc; omega)) (zfr_weak f4 ysc_99))⟩
  · rintro st M2 ⟨rfl, c2, x2, f2⟩
    rw [if_pos (Int32.le_refl _)]
    exact zwp_ret ⟨c2, x2, f2⟩
  · rintro _ M2 ⟨c2, x2, f2⟩
    rw [c2.rGot hf, zob_some, (h.keep f2).cs.rGot hf, zob_some]
    exact zwp_ret ⟨rfl, f2, x2⟩
theorem p_chance (h : yI W M t T S) (a b d r : Int32) : yPr W (m_X7_chance a b d r M) (m_X8_chance a b d r) := by
  have h1 := h.thr 0
  have hr := h.hr
  have hfu : zLF = 100000 := rfl
  have b3 := h.cs.tk.nf
  unfold m_X7_chance m_X8_chance
  by_cases a0 : a < 0
  · refine yPr.qq h (v := -1) ?_ ?_
    · rw [if_pos a0]
    · rw [mlt_eq, if_pos a0]
  · rcases y_from 1 60 b M with ⟨e, ho⟩ | ⟨e, l1, l2, l3⟩
    · refine yPr.qq h (v := -1) ?_ ?_
      · rw [if_neg a0]
        simp only [e, mbd_some, if_true]
      · rw [mlt_eq, if_neg a0]
        rcases ho with z | ⟨z1, z2, z3⟩
        · rw [if_pos z]
        · rw [if_neg z1, if_pos z2]
    · rcases y_isField h d with ⟨e1, e2⟩ | ⟨f, hf, rfl, e1, e2⟩
      · refine yPr.qq h (v := -1) ?_ ?_
        · rw [if_neg a0]
          simp only [e, e1, mbd_some, one_ne, if_false, if_true]
        · rw [mlt_eq, if_neg a0, if_neg l1, if_neg l2, e2 _ h1.rs.rt, mbd_some, if_pos rfl]
      · rcases y_from 0 999 r M with ⟨e', ho⟩ | ⟨e', m1, m2, m3⟩
        · refine yPr.qq h (v := -1) ?_ ?_
          · rw [if_neg a0]
            simp only [e, e1, e', mbd_some, one_ne, if_false, if_true]
          · rw [mlt_eq, if_neg a0, if_neg l1, if_neg l2, e2 _ h1.rs.rt, mbd_some, if_neg (by decide)]
            rcases ho with z | ⟨z1, z2, z3⟩
            · rw [if_pos z]
            · rw [if_neg z1, if_neg z3]
        · obtain ⟨n, hn1, hn, rfl⟩ := y_nat 1 60 rfl rfl (by decide) (by decide) l1 l2
          refine yPr.ss (v := (ych T S n f a r 10).2) h ?_ (fun M1 g => ?_)
          · rw [if_neg a0]
            simp only [e, e1, e', mbd_some, one_ne, if_false]
            unfold m_X1_drawFrom
            rw [mlt_eq, mbd_some]
            have f1 : zfr ySc M (mup M 92 8 a) := zfr_mup (by unfold ySc; omega)
            refine zwp_bd (Q' := fun b M' => b.1 = (ych T S n f a r 10).2 ∧ zfr ySc M M') (zwp_for 0 10 (fun c st M' => st = ((ych T S n f a r c).2, Int32.ofNat c) ∧ M'.1 92 8 = (ych T S n f a r c).1 ∧ zfr ySc M M') ?_ ?_ ⟨rfl, mup_on, f1⟩ (Nat.zero_le _) (by omega)) (fun b M' z => zwp_ret z)
            · rintro c st M2 - hc ⟨rfl, x2, f2⟩
              rw [if_neg (show ¬ (10 : Int32) ≤ Int32.ofNat c from yge hc (by decide))]
              refine zwp_bd (c_rainByChance (h.keep f2) x2 hn hf) ?_
              rintro _ M3 ⟨rfl, f3, x3⟩
              have es : (ych T S n f a r (c + 1)).2 = if (ycg T S (ych T S n f a r c).1 n).2.got f - S.got f < r then (ych T S n f a r c).2 else (ych T S n f a r c).2 + 1 := rfl
              by_cases z : (ycg T S (ych T S n f a r c).1 n).2.got f - S.got f < r
              · rw [if_pos z]
                rw [if_pos z] at es
                exact zwp_ret ⟨by rw [es, yi_nn], x3, zfr_trans f2 f3⟩
              · rw [if_neg z]
                rw [if_neg z] at es
                exact zwp_ret ⟨by rw [es, yi_nn], x3, zfr_trans f2 f3⟩
            · rintro st M2 ⟨rfl, x2, f2⟩
              rw [if_pos (show (10 : Int32) ≤ Int32.ofNat 10 by decide)]
              exact zwp_ret ⟨rfl, f2⟩
          · have g1 := g.thr 0
            rw [mlt_eq, if_neg a0, if_neg l1, if_neg l2, e2 _ g1.rs.rt, mbd_some, if_neg (by decide), if_neg m1, if_pos m3]
            have f1 : zfr ySc M1 (mup M1 213 0 0) := zfr_mup (by unfold ySc; omega)
            refine zwp_bd (Q' := fun b M' => b.2.1 = (ych T S n f a r 10).2 ∧ zfr ySc M1 M') (zwp_for 0 10 (fun c st M' => st = ((ych T S n f a r c).1, (ych T S n f a r c).2, Int32.ofNat c) ∧ zfr ySc M1 M') ?_ ?_ ⟨rfl, f1⟩ (Nat.zero_le _) (by omega)) (fun b M' z => zwp_ret z)
            · rintro c st M2 - hc ⟨rfl, f2⟩
              have h2 := g.keep f2
              rw [if_neg (show ¬ (10 : Int32) ≤ Int32.ofNat c from yge hc (by decide))]
              refine zwp_bd (r_copies (to := 1) (sl := 0) h2.rs (by omega) (by omega)) ?_
              rintro _ M3 ⟨r3, f3⟩
              generalize ex : (ych T S n f a r c).1 = x
              refine zwp_bd (Q' := fun b M' => b.1 = (ycg T S x n).1 ∧ yRS M' 1 0 T (ycg T S x n).2 ∧ zfr (fun k i => ySc k i ∨ (k = 213 ∧ i = 51)) M1 M') (zwp_for 0 n (fun k st M' => st = ((ycg T S x k).1, Int32.ofNat k) ∧ yRS M' 1 0 T (ycg T S x k).2 ∧ zfr (fun k i => ySc k i ∨ (k = 213 ∧ i = 51)) M1 M') ?_ ?_ ⟨rfl, r3, zfr_weak (zfr_trans f2 (zfr_weak f3 ysc_r1)) (fun k i z => Or.inl z)⟩ (Nat.zero_le _) (by omega)) ?_
              · rintro k st M4 - hk ⟨rfl, r4, f4⟩
                rw [if_neg (show ¬ Int32.ofNat n ≤ Int32.ofNat k from yge hk (by omega)), mlt_eq]
                have cw := ycw_r (ycg T S x k).1
                rw [show (((ycg T S x k).1, Int32.ofNat k).1 * 1103515245 + 12345) &&& 2147483647 = ydr (ycg T S x k).1 from rfl, cw.1]
                have g5 : zfr (fun k i => k = 213 ∧ i = 51) M4 (mup M4 213 51 (ycw (ycg T S x k).1)) := zfr_mup ⟨rfl, rfl⟩
                refine zwp_bd (r_pass (a := 1) (r4.keep g5 (by omega) (by omega) (by omega) (by omega)) (by rw [ycg_hour]; omega) (w := ycw (ycg T S x k).1) mup_on) ?_
                rintro _ M5 ⟨r5, f5⟩
                rw [show yww T 0 (ycg T S x k).2 (ycw (ycg T S x k).1) = ycw (ycg T S x k).1 by unfold yww; rw [if_neg (by decide), if_neg cw.2]] at r5
                exact zwp_ret ⟨by rw [yi_nn]; rfl, r5, zfr_trans f4 (zfr_trans (zfr_weak g5 (fun k i z => Or.inr z)) (zfr_weak f5 (fun k i z => Or.inl (ysc_r1 k i z))))⟩
              · rintro st M4 ⟨rfl, r4, f4⟩
                rw [if_pos (show Int32.ofNat n ≤ Int32.ofNat n from Int32.le_refl _)]
                exact zwp_ret ⟨rfl, r4, f4⟩
              · rintro b M4 ⟨eb, r4, f4⟩
                rw [mlt_eq]
                have g5 : zfr (fun k i => k = 213 ∧ i = 51) M4 (mup M4 213 51 (-1)) := zfr_mup ⟨rfl, rfl⟩
                have r5 := r4.keep g5 (by omega) (by omega) (by omega) (by omega)
                have f5 : zfr ySc M1 (mup M4 213 51 (-1)) := zfr_fix 213 51 (zfr_trans f4 (zfr_weak g5 (fun k i z => Or.inr z))) (mup_on.trans g.mis.c.symm)
                have h5 := g.keep f5
                have rd : mrd (mup M4 213 51 (-1)) 243 (5 + Int32.ofNat f) = some ((ycg T S x n).2.got f) := by
                  rw [mrd_of (k := 243) (j := 5 + f) (by show 5 + f < 115; omega) (by decide)]
                  have z := r5.got f hf
                  rw [show 5 * 1 + f = 5 + f by omega] at z
                  rw [z]
                rw [rd, zob_some, h5.rs.rGot0 hf, zob_some, eb]
                have e1 : (ych T S n f a r (c + 1)).1 = (ycg T S x n).1 := by rw [← ex]; rfl
                have es : (ych T S n f a r (c + 1)).2 = if (ycg T S x n).2.got f - S.got f < r then (ych T S n f a r c).2 else (ych T S n f a r c).2 + 1 := by rw [← ex]; rfl
                by_cases z : (ycg T S x n).2.got f - S.got f < r
                · rw [if_pos z]
                  rw [if_pos z] at es
                  exact zwp_ret ⟨by rw [es, e1, yi_nn, yad0], f5⟩
                · rw [if_neg z]
                  rw [if_neg z] at es
                  exact zwp_ret ⟨by rw [es, e1, yi_nn], f5⟩
            · rintro st M2 ⟨rfl, f2⟩
              rw [if_pos (show (10 : Int32) ≤ Int32.ofNat 10 by decide)]
              exact zwp_ret ⟨rfl, f2⟩
end

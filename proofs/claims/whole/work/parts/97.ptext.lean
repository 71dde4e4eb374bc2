/-! promise by promise: text -/
section
variable {W : Nat → Int32} {M : zMem} {t : Nat} {T : yT} {S : yA}
theorem yRT.keepL {M' : zMem} {P : Nat → Nat → Prop} (h : yRT M T) (tk : yTok T) (fr : zfr P M M') (hP : ∀ k i, P k i → k < 215 ∨ 231 < k ∨ yUp k i) : yRT M' T := by
  have h5 := tk.nf
  have h8 := tk.nc
  have h6 := tk.nh
  have h12 := tk.nw
  have dd : ∀ k i, ¬ (k < 215 ∨ 231 < k ∨ yUp k i) → M'.1 k i = M.1 k i := fun k i q => fr k i (fun z => q (hP k i z))
  refine ⟨?_, ?_, ?_, ?_, ?_, ?_, ?_, ?_, ?_, ?_, ?_, ?_, ?_, ?_, ?_, ?_, ?_, ?_, ?_, ?_⟩
  · rw [dd _ _ (by unfold yUp; omega)]; exact h.nf
  · rw [dd _ _ (by unfold yUp; omega)]; exact h.nc
  · rw [dd _ _ (by unfold yUp; omega)]; exact h.nh
  · rw [dd _ _ (by unfold yUp; omega)]; exact h.nw
  · rw [dd _ _ (by unfold yUp; omega)]; exact h.rain
  · rw [dd _ _ (by unfold yUp; omega)]; exact h.most
  · rw [dd _ _ (by unfold yUp; omega)]; exact h.knots
  · intro i hi; rw [dd _ _ (by unfold yUp; omega)]; exact h.ground i hi
  · intro i hi; rw [dd _ _ (by unfold yUp; omega)]; exact h.fname i hi
  · intro i hi; rw [dd _ _ (by unfold yUp; omega)]; exact h.fcell i hi
  · intro i hi; rw [dd _ _ (by unfold yUp; omega)]; exact h.need i hi
  · intro i hi; rw [dd _ _ (by unfold yUp; omega)]; exact h.cname i hi
  · intro i hi; rw [dd _ _ (by unfold yUp; omega)]; exact h.ccell i hi
  · intro i hi; rw [dd _ _ (by unfold yUp; omega)]; exact h.bsize i hi
  · intro i hi; rw [dd _ _ (by unfold yUp; omega)]; exact h.bat i hi
  · intro i hi; rw [dd _ _ (by unfold yUp; omega)]; exact h.hname i hi
  · intro i hi; rw [dd _ _ (by unfold yUp; omega)]; exact h.hcell i hi
  · intro i hi; rw [dd _ _ (by unfold yUp; omega)]; exact h.sight i hi
  · intro i hi; rw [dd _ _ (by unfold yUp; omega)]; exact h.wind i hi
  · intro k hk
    obtain ⟨a, l0, l1, l2, l3⟩ := h.law k hk
    exact ⟨a, l0, by rw [dd _ _ (by unfold yUp; omega)]; exact l1, by rw [dd _ _ (by unfold yUp; omega)]; exact l2, fun j hj => by rw [dd _ _ (by unfold yUp; omega), dd _ _ (by unfold yUp; omega)]; exact l3 j hj⟩
theorem yRS.keepL {M' : zMem} {sl : Nat} {o : Int32} {P : Nat → Nat → Prop} (h : yRS M sl o T S) (f : zfr P M M') (h1 : ¬ P 213 49) (h2 : ¬ P 213 50) (hP : ∀ k i, P k i → k < 215 ∨ 231 < k ∨ yUp k i) (h4 : ∀ k i, 232 ≤ k → ¬ P k i) : yRS M' sl o T S := by
  have l1 := h.lt
  exact ⟨h.lt, h.tk, (f _ _ h1).trans h.ot, h.rt.keepL h.tk f hP, h.ok, (f _ _ (h4 _ _ (by omega))).trans h.hour, (f _ _ (h4 _ _ (by omega))).trans h.blown, fun q hq => (f _ _ (h4 _ _ (by omega))).trans (h.cell q hq), fun q hq => (f _ _ (h4 _ _ (by omega))).trans (h.size q hq), fun q hq => (f _ _ (h4 _ _ (by omega))).trans (h.age q hq), fun q hq => (f _ _ (h4 _ _ (by omega))).trans (h.owner q hq), fun q hq => by rw [f 213 50 h2, f 240 _ (h4 _ _ (by omega))]; exact h.state q hq, fun q hq => (f _ _ (h4 _ _ (by omega))).trans (h.pos q hq), fun q hq => (f _ _ (h4 _ _ (by omega))).trans (h.marks q hq), fun q hq => (f _ _ (h4 _ _ (by omega))).trans (h.got q hq), fun q g hq hg => (f _ _ (h4 _ _ (by omega))).trans (h.rained q g hq hg)⟩
/-- the bytes of the tape -/
theorem yTap.tx {n' n : Nat} (tap : yTap M n') (hn : n ≤ n') : ∃ b, yTx M b n := by
  refine ⟨fun i => (M.1 214 i).toInt.toNat, Nat.le_trans hn tap.le, fun i hi => ?_⟩
  obtain ⟨x, x1, x2, x3⟩ := tap.bt i (by omega)
  have e : (M.1 214 i).toInt.toNat = x := by rw [x2, Int32.toInt_ofNat_of_lt (by omega)]; rfl
  show (M.1 214 i).toInt.toNat < 256 ∧ M.1 214 i = Int32.ofNat (M.1 214 i).toInt.toNat ∧ M.1 1 i = yby (M.1 214 i).toInt.toNat
  rw [e]
  exact ⟨x1, x2, x3⟩
theorem p_text (h : yI W M t T S) (hW : ∀ w, w < 23 → W w = Int32.ofNat (yWp w)) (a : Int32) : yPr W (m_X7_text a M) (m_X8_text a) := by
  have tt : t = 5 ∨ t = 24 := h.cs.ct.tt
  obtain ⟨n', tap⟩ := h.tap
  have hle := tap.le
  have no2 : ∀ {M1 : zMem}, M1.1 213 2 = Int32.ofNat n' → (a < 0 ∨ (¬ a < 0 ∧ ¬ a ≤ Int32.ofNat n')) → m_X8_text a M1 = some (-2, mup M1 213 0 0) := fun {M1} e q => by
    unfold m_X8_text
    rw [mlt_eq]
    rcases q with q | ⟨q1, q2⟩
    · rw [if_pos q]
    · rw [if_neg q1, if_neg (by rw [mup_off' (by decide), e]; exact q2)]
  by_cases a0 : a < 0
  · exact yPr.qq h (v := -2) (by unfold m_X7_text; rw [if_pos a0]) (no2 tap.r1 (Or.inl a0))
  by_cases a1 : a ≤ Int32.ofNat n'
  · obtain ⟨n, -, hn, rfl⟩ := y_nat (a := a) (lo := 0) (hi := Int32.ofNat n') 0 n' rfl rfl (by decide) (by omega) a0 (Int32.not_lt.mpr a1)
    obtain ⟨b, tx⟩ := tap.tx hn
    have hn7 : n ≤ 700 := by omega
    unfold m_X7_text yPr
    rw [if_neg a0, if_pos (by rw [tap.c1]; exact a1), mlt_eq]
    have f1 : zfr (fun k i => k = 0 ∧ i = 1) M (mup M 0 1 0) := zfr_mup ⟨rfl, rfl⟩
    have v1 : (mup M 0 1 0).1 0 1 = 0 := mup_on
    generalize mup M 0 1 0 = M1 at f1 v1 ⊢
    obtain ⟨t', et', it', ne⟩ : ∃ t', ztof (M1.1 2 10) = t' ∧ zIT t' ∧ ¬ t' = t := ⟨_, rfl, by unfold ztof zIT; split <;> omega, by rw [f1 _ _ (by omega)]; exact h.rd.o⟩
    have it5 := it'.or5
    refine zwp_bd (zwp_and (c_readText (tx.keep f1 (by omega) (by omega)) et' it' (fun w hw => by rw [f1 _ _ (by omega), h.rd.w w hw]; exact hW w hw)) jc_X4_readText) (fun v M5 y => ?_)
    obtain ⟨⟨f5, po⟩, j5⟩ := y
    have f05 : zfr (fun k i => (k = 0 ∧ i = 1) ∨ (k = 2 ∧ ¬ i = 0 ∧ ¬ i = 10 ∧ ¬ i = 11) ∨ k = 23 ∨ (t' ≤ k ∧ k ≤ t' + 16)) M M5 := zfr_trans (zfr_weak f1 (by omega)) (zfr_weak f5 (by unfold yCLa; omega))
    rcases po with ⟨f, eR, cg, rfl⟩ | ⟨ln, p, T', K, la, u, hl, rfl, eR, cv⟩
    · rw [if_pos rfl]
      refine zwp_ret ?_
      have tx5 : yTx M5 b n := tx.keep f05 (by omega) (by omega)
      refine zwp_mono (r_text tx5 (n' := n') (by rw [f05 _ _ (by omega)]; exact tap.r1) hn hle (h.mis.keep f05 (by omega) (by omega) (by omega) (by omega))) (fun v' M9 y => ?_)
      rcases y with ⟨f', eR', rfl, w29, w30, w2, f9⟩ | ⟨ln, p, T', K, la, u, eR', -⟩
      · rw [eR] at eR'
        cases eR'
        have f09 : zfr (fun k i => (k = 0 ∧ i = 1) ∨ (k = 2 ∧ ¬ i = 0 ∧ ¬ i = 10 ∧ ¬ i = 11) ∨ k = 23 ∨ (t' ≤ k ∧ k ≤ t' + 16) ∨ yRx k i) M M9 := zfr_trans (zfr_weak f05 (by omega)) (zfr_weak f9 (fun k i z => Or.inr (Or.inr (Or.inr (Or.inr z)))))
        have kR : ∀ {sl : Nat} {S : yA}, yRS M sl 0 T S → yRS M9 sl 0 T S := fun r => r.keepL f09 (by unfold yRx yUp; omega) (by unfold yRx yUp; omega) (by unfold yRx yUp; omega) (by unfold yRx yUp; omega)
        have kC : ∀ {s : Nat} {S : yA}, 42 ≤ s → s + 18 ≤ 213 → yCS M s t 0 T S → yCS M9 s t 0 T S := fun s1 s2 c => c.keep2 f09 (by unfold yRx yUp; omega) (by unfold yRx yUp; omega)
        obtain ⟨m, B, un⟩ := h.und
        obtain ⟨N, no⟩ := h.no
        refine ⟨rfl, t, T, S, kC (by decide) (by decide) h.cs, kR h.rs, h.hr, ?_, ⟨?_, ?_⟩, ⟨m, B, un.le, un.top, ?_, ?_, fun k hk => kR (un.sl k hk), fun k hk => (un.deed k hk).keep (fun q q1 q2 => f09 _ _ (by unfold yRx yUp; omega)), un.bd⟩, ⟨N, no.keep f09 (by unfold yRx yUp; omega) (by unfold yRx yUp; omega) (by unfold yRx yUp; omega) (by unfold yRx yUp; omega)⟩, ⟨0, by decide, ?_, w2, fun i hi => absurd hi (Nat.not_lt_zero i)⟩, ⟨?_, ?_, ?_, fun i hi => ?_⟩, h.mis.keep f09 (by unfold yRx yUp; omega) (by unfold yRx yUp; omega) (by unfold yRx yUp; omega) (by unfold yRx yUp; omega), h.bd⟩
        · rw [f09 _ _ (by unfold yRx yUp; omega)]; exact h.tp
        · rw [f09 _ _ (by unfold yRx yUp; omega), f09 _ _ (by unfold yRx yUp; omega)]; exact h.img.eq
        · rw [f09 _ _ (by unfold yRx yUp; omega)]
          rcases h.img.cs with e | ⟨e, SI, ci, ri, hi, bi⟩
          · exact Or.inl e
          · exact Or.inr ⟨e, SI, kC (by decide) (by decide) ci, kR ri, hi, bi⟩
        · rw [f09 _ _ (by unfold yRx yUp; omega)]; exact un.c1
        · rw [f09 _ _ (by unfold yRx yUp; omega)]; exact un.r1
        · rw [f9 _ _ (by unfold yRx yUp; omega), f5 _ _ (by unfold yCLa; omega)]; exact v1
        · rw [f9 _ _ (by unfold yRx yUp; omega), w29]; exact cg.1.2.1
        · rw [f9 _ _ (by unfold yRx yUp; omega), w30]; exact cg.1.2.2.1
        · rw [f09 _ _ (by unfold yRx yUp; omega)]; exact h.rd.o
        · rw [f09 _ _ (by unfold yRx yUp; omega)]; exact h.rd.w i hi
      · rw [eR] at eR'; cases eR'
    · rw [if_neg (zi_n1 (by omega))]
      have e03 : ztof (M5.1 0 3) = t := by rw [f05 _ _ (by omega)]; exact h.tp
      unfold m_X4_takeTold
      rw [mlt_eq, e03, mlt_eq, cv.1.2.2.2.2.2, mlt_eq, mbd_some, mlt_eq]
      have f11 : zfr (fun k i => (k = 2 ∧ i = 10) ∨ (k = 0 ∧ i = 3)) M5 (mup (mup M5 2 10 (ztenc t)) 0 3 (ztenc t')) := zfr_trans (zfr_mup (by omega)) (zfr_mup (by omega))
      have w10 : (mup (mup M5 2 10 (ztenc t)) 0 3 (ztenc t')).1 2 10 = ztenc t := by rw [mup_off (by decide), mup_on]
      have w3 : (mup (mup M5 2 10 (ztenc t)) 0 3 (ztenc t')).1 0 3 = ztenc t' := mup_on
      generalize mup (mup M5 2 10 (ztenc t)) 0 3 (ztenc t') = M11 at f11 w10 w3 ⊢
      rw [mlt_eq, w3, zt_enc it']
      have ct11 : yCT M11 t' T' := yct_fr2 cv.2.1.1 f11 (by omega)
      refine zwp_bd (c_start ct11 cv.2.2.2.2.1 (s := 42) (by unfold ySP; decide)) (fun _ M14 y => ?_)
      obtain ⟨cs14, f14⟩ := y
      unfold m_X3_forget m_X0_forget
      rw [mlt_eq, mlt_eq, mbd_some, mlt_eq, mbd_some, mlt_eq]
      have f22 : zfr (fun k i => (k = 85 ∧ (i = 6 ∨ i = 7)) ∨ (k = 80 ∧ i = 4) ∨ (k = 0 ∧ i = 6)) M14 (mup (mup (mup (mup M14 85 6 0) 85 7 (-1)) 80 4 0) 0 6 0) := zfr_trans (zfr_mup (by omega)) (zfr_trans (zfr_mup (by omega)) (zfr_trans (zfr_mup (by omega)) (zfr_mup (by omega))))
      have x6 : (mup (mup (mup (mup M14 85 6 0) 85 7 (-1)) 80 4 0) 0 6 0).1 85 6 = 0 := by rw [mup_off (by decide), mup_off (by decide), mup_off' (by decide), mup_on]
      have x7 : (mup (mup (mup (mup M14 85 6 0) 85 7 (-1)) 80 4 0) 0 6 0).1 85 7 = -1 := by rw [mup_off (by decide), mup_off (by decide), mup_on]
      have x4 : (mup (mup (mup (mup M14 85 6 0) 85 7 (-1)) 80 4 0) 0 6 0).1 80 4 = 0 := by rw [mup_off (by decide), mup_on]
      have x0 : (mup (mup (mup (mup M14 85 6 0) 85 7 (-1)) 80 4 0) 0 6 0).1 0 6 = 0 := mup_on
      generalize mup (mup (mup (mup M14 85 6 0) 85 7 (-1)) 80 4 0) 0 6 0 = M22 at f22 x6 x7 x4 x0 ⊢
      refine zwp_ret ?_
      have f522 : zfr (fun k i => (k = 2 ∧ i = 10) ∨ (k = 0 ∧ (i = 3 ∨ i = 6)) ∨ (42 ≤ k ∧ k < 61) ∨ (k = 85 ∧ (i = 6 ∨ i = 7)) ∨ (k = 80 ∧ i = 4)) M5 M22 := zfr_trans (zfr_weak f11 (by omega)) (zfr_trans (zfr_weak f14 (by unfold yTC; omega)) (zfr_weak f22 (by omega)))
      have f022 : zfr (fun k i => (k = 0 ∧ (i = 1 ∨ i = 3 ∨ i = 6)) ∨ (k = 2 ∧ ¬ i = 0 ∧ ¬ i = 11) ∨ k = 23 ∨ (t' ≤ k ∧ k ≤ t' + 16) ∨ (42 ≤ k ∧ k < 61) ∨ (k = 85 ∧ (i = 6 ∨ i = 7)) ∨ (k = 80 ∧ i = 4)) M M22 := zfr_trans (zfr_weak f05 (by omega)) (zfr_weak f522 (by omega))
      have cs22 : yCS M22 42 t' 0 T' (ystart T' T'.bsize) := cs14.keep2 f22 (by omega) (by omega)
      have mis22 := h.mis.keep f022 (by omega) (by omega) (by omega) (by omega)
      refine zwp_mono (r_text (tx.keep f022 (by omega) (by omega)) (n' := n') (by rw [f022 _ _ (by omega)]; exact tap.r1) hn hle mis22) (fun v' M9 y => ?_)
      rcases y with ⟨f', eR', -⟩ | ⟨ln', p', T2, K', la', u', eR', rfl, ti, rs9, w29, w30, w2, w61, w62, w47, w48, f9⟩
      · rw [eR] at eR'; cases eR'
      · rw [eR] at eR'
        cases eR'
        have lo : ∀ k i, k < 213 → M9.1 k i = M22.1 k i := fun k i hk => f9 k i (by unfold yRy yTR; omega)
        refine ⟨rfl, t', T', ystart T' T'.bsize, cs22.keep2 f9 (by unfold yRy yTR; omega) (by unfold yRy yTR; omega), rs9, Nat.zero_le _, ?_, ⟨?_, Or.inl ?_⟩, ⟨0, fun _ => ystart T' T'.bsize, by decide, rfl, ?_, w48, fun k hk => absurd hk (Nat.not_lt_zero k), fun k hk => absurd hk (Nat.not_lt_zero k), fun k hk => absurd hk (Nat.not_lt_zero k)⟩, ⟨yNs.mk 0 (-1) (fun _ => 0) (fun _ => 0) (fun _ => 0) (fun _ => 0), ?_⟩, ⟨0, by decide, ?_, w2, fun i hi => absurd hi (Nat.not_lt_zero i)⟩, ⟨?_, ?_, ?_, fun i hi => ?_⟩, mis22.keep f9 (by unfold yRy yTR; omega) (by unfold yRy yTR; omega) (by unfold yRy yTR; omega) (by unfold yRy yTR; omega), ⟨ti.2.1, fun c hc => ?_, fun f hf => ⟨0, Nat.zero_le _, rfl⟩⟩⟩
        · rw [lo _ _ (by decide), f22 _ _ (by omega), f14 _ _ (by unfold yTC; omega), w3]; exact zt_enc it'
        · rw [lo _ _ (by decide), x0, w47]
        · rw [lo _ _ (by decide)]; exact x0
        · rw [lo _ _ (by decide)]; exact x4
        · exact ⟨Nat.zero_le _, Or.inl rfl, fun k hk => absurd hk (Nat.not_lt_zero k), fun k hk => absurd hk (Nat.not_lt_zero k), fun k hk => absurd hk (Nat.not_lt_zero k), fun k hk => absurd hk (Nat.not_lt_zero k), (lo _ _ (by decide)).trans x6, (lo _ _ (by decide)).trans x7, w61, w62, fun k hk => absurd hk (Nat.not_lt_zero k), fun k hk => absurd hk (Nat.not_lt_zero k), fun k hk => absurd hk (Nat.not_lt_zero k), fun k hk => absurd hk (Nat.not_lt_zero k), fun k hk => absurd hk (Nat.not_lt_zero k), fun k hk => absurd hk (Nat.not_lt_zero k), fun k hk => absurd hk (Nat.not_lt_zero k), fun k hk => absurd hk (Nat.not_lt_zero k), fun k hk => absurd hk (Nat.not_lt_zero k)⟩
        · rw [lo _ _ (by decide), f522 _ _ (by omega), f5 _ _ (by unfold yCLa; omega)]; exact v1
        · rw [lo _ _ (by decide), f522 _ _ (by omega), w29]; exact cv.1.2.2.1
        · rw [lo _ _ (by decide), f522 _ _ (by omega), w30]; exact j5 cv.1.2.2.1
        · rw [lo _ _ (by decide), f22 _ _ (by omega), f14 _ _ (by unfold yTC; omega), w10, zt_enc tt]; exact fun z => ne z.symm
        · rw [lo _ _ (by decide), f022 _ _ (by omega)]; exact h.rd.w i hi
        · obtain ⟨m, m1, m2, m3⟩ := ti.2.1 c hc
          exact ⟨m, by omega, m3, fun _ => m1⟩
  · exact yPr.qq h (v := -2) (by unfold m_X7_text; rw [if_neg a0, if_neg (by rw [tap.c1]; exact a1)]) (no2 tap.r1 (Or.inr ⟨a0, a1⟩))
end

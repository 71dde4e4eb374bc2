/-! promise by promise: notes -/
theorem yNot.ext {M M' : zMem} {N : yNs} (h : yNot M N) (hn : N.n < 24) {st hr is : Int32} {ce : Nat} (hst : st = -1 ∨ ∃ j, j < N.n ∧ st = Int32.ofNat j) (hce : ce < 24) (his : is = 0 ∨ is = 1) (hhr : ∃ j, j ≤ 40 ∧ hr = Int32.ofNat j)
    (e1 : M'.1 85 6 = Int32.ofNat (N.n + 1)) (e2 : M'.1 85 7 = M.1 85 7) (e3 : M'.1 213 61 = Int32.ofNat (N.n + 1)) (e4 : M'.1 213 62 = M.1 213 62)
    (ro : ∀ q k, (86 ≤ q ∧ q ≤ 90) ∨ (249 ≤ q ∧ q ≤ 252) → k < N.n → M'.1 q k = M.1 q k)
    (s1 : M'.1 90 N.n = st) (s2 : M'.1 252 N.n = st)
    (nw : st = -1 → M'.1 86 N.n = hr ∧ M'.1 249 N.n = hr ∧ M'.1 87 N.n = Int32.ofNat (ce % 6) ∧ M'.1 88 N.n = Int32.ofNat (ce / 6) ∧ M'.1 250 N.n = Int32.ofNat ce ∧ M'.1 89 N.n = is ∧ M'.1 251 N.n = is) :
    yNot M' (yNs.mk (N.n + 1) N.kb (yu N.hrs N.n hr) (yu N.cell N.n ce) (yu N.is N.n is) (yu N.st N.n st)) := by
  have lt : ∀ k, k < N.n + 1 → k ≠ N.n → k < N.n := fun k h1 h2 => by omega
  refine ⟨?_, ?_, ?_, ?_, ?_, ?_, e1, e2.trans h.c2, e3, e4.trans h.r2, ?_, ?_, ?_, ?_, ?_, ?_, ?_, ?_, ?_⟩
  · show N.n + 1 ≤ 24; omega
  · rcases h.kb with z | ⟨j, z1, z2⟩
    · exact Or.inl z
    · exact Or.inr ⟨j, by show j ≤ N.n + 1; omega, z2⟩
  · intro k hk
    show yu N.st N.n st k = -1 ∨ ∃ j, j < k ∧ yu N.st N.n st k = Int32.ofNat j
    by_cases e : k = N.n
    · subst e; rw [yu_on]; exact hst
    · rw [yu_off e]; exact h.st k (lt k hk e)
  · intro k hk
    show yu N.cell N.n ce k < 24
    by_cases e : k = N.n
    · subst e; rw [yu_on]; exact hce
    · rw [yu_off e]; exact h.cell k (lt k hk e)
  · intro k hk
    show yu N.is N.n is k = 0 ∨ yu N.is N.n is k = 1
    by_cases e : k = N.n
    · subst e; rw [yu_on]; exact his
    · rw [yu_off e]; exact h.is k (lt k hk e)
  · intro k hk
    show ∃ j, j ≤ 40 ∧ yu N.hrs N.n hr k = Int32.ofNat j
    by_cases e : k = N.n
    · subst e; rw [yu_on]; exact hhr
    · rw [yu_off e]; exact h.hrs k (lt k hk e)
  · intro k hk
    show M'.1 90 k = yu N.st N.n st k
    by_cases e : k = N.n
    · subst e; rw [yu_on]; exact s1
    · rw [yu_off e, ro _ _ (by omega) (lt k hk e)]; exact h.cs k (lt k hk e)
  · intro k hk
    show M'.1 252 k = yu N.st N.n st k
    by_cases e : k = N.n
    · subst e; rw [yu_on]; exact s2
    · rw [yu_off e, ro _ _ (by omega) (lt k hk e)]; exact h.rs k (lt k hk e)
  · intro k hk
    show yu N.st N.n st k = -1 → M'.1 86 k = yu N.hrs N.n hr k
    by_cases e : k = N.n
    · subst e; rw [yu_on, yu_on]; exact fun z => (nw z).1
    · rw [yu_off e, yu_off e, ro _ _ (by omega) (lt k hk e)]; exact h.ch k (lt k hk e)
  · intro k hk
    show yu N.st N.n st k = -1 → M'.1 249 k = yu N.hrs N.n hr k
    by_cases e : k = N.n
    · subst e; rw [yu_on, yu_on]; exact fun z => (nw z).2.1
    · rw [yu_off e, yu_off e, ro _ _ (by omega) (lt k hk e)]; exact h.rh k (lt k hk e)
  · intro k hk
    show yu N.st N.n st k = -1 → M'.1 87 k = Int32.ofNat (yu N.cell N.n ce k % 6)
    by_cases e : k = N.n
    · subst e; rw [yu_on, yu_on]; exact fun z => (nw z).2.2.1
    · rw [yu_off e, yu_off e, ro _ _ (by omega) (lt k hk e)]; exact h.cx k (lt k hk e)
  · intro k hk
    show yu N.st N.n st k = -1 → M'.1 88 k = Int32.ofNat (yu N.cell N.n ce k / 6)
    by_cases e : k = N.n
    · subst e; rw [yu_on, yu_on]; exact fun z => (nw z).2.2.2.1
    · rw [yu_off e, yu_off e, ro _ _ (by omega) (lt k hk e)]; exact h.cy k (lt k hk e)
  · intro k hk
    show yu N.st N.n st k = -1 → M'.1 250 k = Int32.ofNat (yu N.cell N.n ce k)
    by_cases e : k = N.n
    · subst e; rw [yu_on, yu_on]; exact fun z => (nw z).2.2.2.2.1
    · rw [yu_off e, yu_off e, ro _ _ (by omega) (lt k hk e)]; exact h.rc k (lt k hk e)
  · intro k hk
    show yu N.st N.n st k = -1 → M'.1 89 k = yu N.is N.n is k
    by_cases e : k = N.n
    · subst e; rw [yu_on, yu_on]; exact fun z => (nw z).2.2.2.2.2.1
    · rw [yu_off e, yu_off e, ro _ _ (by omega) (lt k hk e)]; exact h.ci k (lt k hk e)
  · intro k hk
    show yu N.st N.n st k = -1 → M'.1 251 k = yu N.is N.n is k
    by_cases e : k = N.n
    · subst e; rw [yu_on, yu_on]; exact fun z => (nw z).2.2.2.2.2.2
    · rw [yu_off e, yu_off e, ro _ _ (by omega) (lt k hk e)]; exact h.ri k (lt k hk e)
/-- what notes are kept in -/
def yNP (k i : Nat) : Prop := (85 ≤ k ∧ k ≤ 90) ∨ (249 ≤ k ∧ k ≤ 252) ∨ (k = 213 ∧ (i = 0 ∨ i = 61 ∨ i = 62))
section
variable {W : Nat → Int32} {M : zMem} {t : Nat} {T : yT} {S : yA}
theorem yI.notes {M' : zMem} (h : yI W M t T S) (f : zfr yNP M M') (no : ∃ N, yNot M' N) : yI W M' t T S := by
  have tt : t = 5 ∨ t = 24 := h.cs.ct.tt
  obtain ⟨m, tap⟩ := h.tap
  refine h.re f (by intro k i hk; unfold yCore yT3 yTR at hk; unfold yNP; omega) ?_ no ⟨m, tap.keep f (by unfold yNP; omega) (by unfold yNP; omega) (by unfold yNP; omega) (by unfold yNP; omega)⟩
  exact h.img.keep f (by unfold yNP; omega) (by unfold yNP; omega) (by intro k i hk; unfold yNP; omega) (by unfold yNP; omega) (by unfold yNP; omega) (by unfold yNP; omega) (by unfold yNP yTR; omega)
theorem c_add {n : Nat} (hn : n < 24) (h : M.1 85 6 = Int32.ofNat n) (a x y i : Int32) (hi : i = 0 ∨ i = 1) : zwp (m_X3_add a x y i M) (fun r M' => r = Int32.ofNat n ∧ M'.1 85 6 = Int32.ofNat (n + 1) ∧ M'.1 85 7 = M.1 85 7 ∧ M'.1 86 n = a ∧ M'.1 87 n = x ∧ M'.1 88 n = y ∧ M'.1 89 n = i ∧ M'.1 90 n = -1 ∧ zfr (fun k j => (k = 85 ∧ j = 6) ∨ (86 ≤ k ∧ k ≤ 90 ∧ j = n)) M M') := by
  have ei : znar 2 i = i := by rcases hi with rfl | rfl <;> rfl
  unfold m_X3_add
  rw [if_pos (by rw [h, show (24 : Int32) = Int32.ofNat 24 from rfl, zi_lt (by omega) (by omega)]; exact hn), ei]
  have h1 : (mup M 86 n a).1 85 6 = Int32.ofNat n := (mup_off (by decide)).trans h
  have h2 : (mup (mup M 86 n a) 87 n x).1 85 6 = Int32.ofNat n := (mup_off (by decide)).trans h1
  have h3 : (mup (mup (mup M 86 n a) 87 n x) 88 n y).1 85 6 = Int32.ofNat n := (mup_off (by decide)).trans h2
  have h4 : (mup (mup (mup (mup M 86 n a) 87 n x) 88 n y) 89 n i).1 85 6 = Int32.ofNat n := (mup_off (by decide)).trans h3
  have h5 : (mup (mup (mup (mup (mup M 86 n a) 87 n x) 88 n y) 89 n i) 90 n (-1)).1 85 6 = Int32.ofNat n := (mup_off (by decide)).trans h4
  rw [mwr_of (k := 86) (j := n) hn (by decide) h, zob_some, mwr_of (k := 87) (j := n) hn (by decide) h1, zob_some, mwr_of (k := 88) (j := n) hn (by decide) h2, zob_some, mwr_of (k := 89) (j := n) hn (by decide) h3, zob_some, mwr_of (k := 90) (j := n) hn (by decide) h4, zob_some, mlt_eq, h5, yi_nn, mup_on]
  refine zwp_ret ⟨by rw [yi_m1 (by omega)]; rfl, mup_on, ?_, ?_, ?_, ?_, ?_, ?_, ?_⟩
  · rw [mup_off' (by decide), mup_off (by decide), mup_off (by decide), mup_off (by decide), mup_off (by decide), mup_off (by decide)]
  · rw [mup_off (by decide), mup_off (by decide), mup_off (by decide), mup_off (by decide), mup_off (by decide), mup_on]
  · rw [mup_off (by decide), mup_off (by decide), mup_off (by decide), mup_off (by decide), mup_on]
  · rw [mup_off (by decide), mup_off (by decide), mup_off (by decide), mup_on]
  · rw [mup_off (by decide), mup_off (by decide), mup_on]
  · rw [mup_off (by decide), mup_on]
  · exact zfr_trans (zfr_mup (by omega)) (zfr_trans (zfr_mup (by omega)) (zfr_trans (zfr_mup (by omega)) (zfr_trans (zfr_mup (by omega)) (zfr_trans (zfr_mup (by omega)) (zfr_mup (by omega))))))
theorem p_note (h : yI W M t T S) (a x y i : Int32) (hi : i = 0 ∨ i = 1) : yPr W (m_X7_note a x y i M) (m_X8_note a x y i) := by
  have ei : znar 2 i = i := by rcases hi with rfl | rfl <;> rfl
  unfold m_X7_note m_X8_note
  rcases y_from 1 40 a M with ⟨e, ho⟩ | ⟨e, l1, l2, l3⟩
  · refine yPr.qq h (v := -1) ?_ ?_
    · simp only [e, mbd_some, if_true]
    · simp only [mlt_eq]
      rcases ho with z | ⟨z1, z2, z3⟩
      · rw [if_pos z]
      · rw [if_neg z1, if_pos z2]
  · obtain ⟨hr, hr1, hr2, rfl⟩ := y_nat 1 40 rfl rfl (by decide) (by decide) l1 l2
    rcases y_isCell x y with ec | ⟨k, hk, rfl, rfl, ec⟩
    · refine yPr.qq h (v := -1) ?_ ?_
      · simp only [e, ec, mbd_some, one_ne, if_false, if_true]
      · simp only [mlt_eq, l1, l2, isCell_eq, ec, mbd_some, if_false, if_true]
    · obtain ⟨N, no⟩ := h.no
      have hle := no.le
      by_cases e24 : N.n = 24
      · refine yPr.qq h (v := -1) ?_ ?_
        · simp only [e, ec, mbd_some, one_ne, if_false]
          unfold m_X3_add
          rw [no.c1, e24, if_neg (by decide), mbd_some]
        · simp only [mlt_eq, l1, l2, isCell_eq, ec, mbd_some, one_ne, if_false]
          rw [mup_off' (by decide), no.r1, e24]; exact if_pos rfl
      · have hn : N.n < 24 := by omega
        unfold yPr
        simp only [e, ec, mbd_some, one_ne, if_false]
        refine zwp_bd (c_add hn no.c1 _ _ _ i hi) ?_
        rintro r M1 ⟨rfl, a1, a2, a3, a4, a5, a6, a7, f1⟩
        refine zwp_ret ?_
        simp only [mlt_eq, l1, l2, isCell_eq, ec, mbd_some, one_ne, if_false]
        have g : (mup M1 213 0 0).1 213 61 = Int32.ofNat N.n := (mup_off' (by decide)).trans ((f1 213 61 (by omega)).trans no.r1)
        have e62 : (mup M1 213 0 0).1 213 62 = M.1 213 62 := (mup_off' (by decide)).trans (f1 213 62 (by omega))
        have f2 : zfr (fun k j => (k = 85 ∧ j = 6) ∨ (86 ≤ k ∧ k ≤ 90 ∧ j = N.n) ∨ (k = 213 ∧ j = 0)) M (mup M1 213 0 0) := zfr_trans (zfr_weak f1 (by omega)) (zfr_mup (by omega))
        have b1 : ∀ q j, q ≠ 213 → (mup M1 213 0 0).1 q j = M1.1 q j := fun q j hq => mup_off hq
        generalize mup M1 213 0 0 = M2 at g e62 f2 b1 ⊢
        rw [g, if_neg (by rw [show (24 : Int32) = Int32.ofNat 24 from rfl, zi_eq (by omega) (by omega)]; exact e24), ycell6, ei]
        have h1 : (mup M2 249 N.n (Int32.ofNat hr)).1 213 61 = Int32.ofNat N.n := (mup_off (by decide)).trans g
        have h2 : (mup (mup M2 249 N.n (Int32.ofNat hr)) 250 N.n (Int32.ofNat k)).1 213 61 = Int32.ofNat N.n := (mup_off (by decide)).trans h1
        have h3 : (mup (mup (mup M2 249 N.n (Int32.ofNat hr)) 250 N.n (Int32.ofNat k)) 251 N.n i).1 213 61 = Int32.ofNat N.n := (mup_off (by decide)).trans h2
        have h4 : (mup (mup (mup (mup M2 249 N.n (Int32.ofNat hr)) 250 N.n (Int32.ofNat k)) 251 N.n i) 252 N.n (-1)).1 213 61 = Int32.ofNat N.n := (mup_off (by decide)).trans h3
        rw [mwr_of (k := 249) (j := N.n) hn (by decide), zob_some, mwr_of (k := 250) (j := N.n) hn (by decide) h1, zob_some, mwr_of (k := 251) (j := N.n) hn (by decide) h2, zob_some, mwr_of (k := 252) (j := N.n) hn (by decide) h3, zob_some, h4, yi_nn, mup_on, yi_m1 (by omega)]
        have g1 : ∀ q j, q < 213 → (mup (mup (mup (mup (mup M2 249 N.n (Int32.ofNat hr)) 250 N.n (Int32.ofNat k)) 251 N.n i) 252 N.n (-1)) 213 61 (Int32.ofNat (N.n + 1))).1 q j = M2.1 q j := fun q j hq => by
          rw [mup_off (by omega), mup_off (by omega), mup_off (by omega), mup_off (by omega), mup_off (by omega)]
        have f3 : zfr (fun k j => (249 ≤ k ∧ k ≤ 252 ∧ j = N.n) ∨ (k = 213 ∧ j = 61)) M2 (mup (mup (mup (mup (mup M2 249 N.n (Int32.ofNat hr)) 250 N.n (Int32.ofNat k)) 251 N.n i) 252 N.n (-1)) 213 61 (Int32.ofNat (N.n + 1))) := zfr_trans (zfr_mup (by omega)) (zfr_trans (zfr_mup (by omega)) (zfr_trans (zfr_mup (by omega)) (zfr_trans (zfr_mup (by omega)) (zfr_mup (by omega)))))
        have k1 : (mup (mup (mup (mup (mup M2 249 N.n (Int32.ofNat hr)) 250 N.n (Int32.ofNat k)) 251 N.n i) 252 N.n (-1)) 213 61 (Int32.ofNat (N.n + 1))).1 213 61 = Int32.ofNat (N.n + 1) := mup_on
        have k2 : (mup (mup (mup (mup (mup M2 249 N.n (Int32.ofNat hr)) 250 N.n (Int32.ofNat k)) 251 N.n i) 252 N.n (-1)) 213 61 (Int32.ofNat (N.n + 1))).1 252 N.n = -1 := by rw [mup_off (by decide), mup_on]
        have k3 : (mup (mup (mup (mup (mup M2 249 N.n (Int32.ofNat hr)) 250 N.n (Int32.ofNat k)) 251 N.n i) 252 N.n (-1)) 213 61 (Int32.ofNat (N.n + 1))).1 251 N.n = i := by rw [mup_off (by decide), mup_off (by decide), mup_on]
        have k4 : (mup (mup (mup (mup (mup M2 249 N.n (Int32.ofNat hr)) 250 N.n (Int32.ofNat k)) 251 N.n i) 252 N.n (-1)) 213 61 (Int32.ofNat (N.n + 1))).1 250 N.n = Int32.ofNat k := by rw [mup_off (by decide), mup_off (by decide), mup_off (by decide), mup_on]
        have k5 : (mup (mup (mup (mup (mup M2 249 N.n (Int32.ofNat hr)) 250 N.n (Int32.ofNat k)) 251 N.n i) 252 N.n (-1)) 213 61 (Int32.ofNat (N.n + 1))).1 249 N.n = Int32.ofNat hr := by rw [mup_off (by decide), mup_off (by decide), mup_off (by decide), mup_off (by decide), mup_on]
        generalize mup (mup (mup (mup (mup M2 249 N.n (Int32.ofNat hr)) 250 N.n (Int32.ofNat k)) 251 N.n i) 252 N.n (-1)) 213 61 (Int32.ofNat (N.n + 1)) = M3 at g1 f3 k1 k2 k3 k4 k5 ⊢
        have lo : ∀ q j, q < 213 → M3.1 q j = M1.1 q j := fun q j hq => (g1 q j hq).trans (b1 q j (by omega))
        have f : zfr yNP M M3 := zfr_trans (zfr_weak f2 (by unfold yNP; omega)) (zfr_weak f3 (by unfold yNP; omega))
        refine zwp_ret ⟨rfl, t, T, S, h.notes f ⟨_, no.ext hn (st := -1) (hr := Int32.ofNat hr) (is := i) (ce := k) (Or.inl rfl) hk hi ⟨hr, by omega, rfl⟩ ((lo _ _ (by decide)).trans a1) ((lo _ _ (by decide)).trans a2) k1 ((f3 213 62 (by omega)).trans e62) ?_ ((lo _ _ (by decide)).trans a7) k2 (fun _ => ⟨(lo _ _ (by decide)).trans a3, k5, (lo _ _ (by decide)).trans a4, (lo _ _ (by decide)).trans a5, k4, (lo _ _ (by decide)).trans a6, k3⟩)⟩⟩
        intro q j hq hj
        rw [f3 q j (by omega), f2 q j (by omega)]
theorem y_out {n : Nat} (hn : n < 25) (a : Int32) : (Int32.ofNat n - 1 < a) ↔ (Int32.ofNat n ≤ a) := by
  have key : ∀ n, n < 25 → (Int32.ofNat n - 1).toInt = (n : Int) - 1 := by decide +kernel
  rw [Int32.lt_iff_toInt_lt, Int32.le_iff_toInt_le, key n hn, Int32.toInt_ofNat_of_lt (by omega)]
  omega
theorem p_out (h : yI W M t T S) (a : Int32) : yPr W (m_X7_out a M) (m_X8_out a) := by
  obtain ⟨N, no⟩ := h.no
  have hle := no.le
  unfold m_X7_out m_X8_out
  rw [no.c1]
  rcases y_from 0 (Int32.ofNat N.n - 1) a M with ⟨e, ho⟩ | ⟨e, l1, l2, l3⟩
  · refine yPr.qq h (v := -1) ?_ ?_
    · simp only [e, mbd_some, if_true]
    · simp only [mlt_eq]
      rcases ho with z | ⟨z1, z2, z3⟩
      · rw [if_pos z]
      · rw [if_neg z1, mup_off' (by decide), no.r1, if_pos ((y_out (by omega) a).mp z2)]
  · have l2' : ¬ Int32.ofNat N.n ≤ a := fun z => l2 ((y_out (by omega) a).mpr z)
    obtain ⟨j, hj, rfl⟩ := zi_in (n := N.n) (by omega) l1 (Int32.not_le.mp l2')
    by_cases e24 : N.n = 24
    · refine yPr.qq h (v := -1) ?_ ?_
      · simp only [e, mbd_some, one_ne, if_false]
        unfold m_X3_addStrike m_X3_add
        rw [no.c1, e24, if_neg (by decide), mbd_some, if_pos rfl, mbd_some]
      · simp only [mlt_eq]
        rw [if_neg l1, mup_off' (by decide), no.r1, if_neg l2', e24]; exact if_pos rfl
    · have hn : N.n < 24 := by omega
      unfold yPr
      simp only [e, mbd_some, one_ne, if_false]
      unfold m_X3_addStrike
      refine zwp_bd (Q' := fun r M' => r = Int32.ofNat N.n ∧ M'.1 85 6 = Int32.ofNat (N.n + 1) ∧ M'.1 90 N.n = Int32.ofNat j ∧ zfr (fun k j => (k = 85 ∧ j = 6) ∨ (86 ≤ k ∧ k ≤ 90 ∧ j = N.n)) M M') ?_ ?_
      · refine zwp_bd (c_add hn no.c1 0 0 0 0 (Or.inl rfl)) ?_
        rintro r M1 ⟨rfl, a1, a2, a3, a4, a5, a6, a7, f1⟩
        rw [if_neg (zi_n1 (by omega)), mwr_of (k := 90) (j := N.n) hn (by decide), zob_some]
        exact zwp_ret ⟨rfl, (mup_off (by decide)).trans a1, mup_on, zfr_trans f1 (zfr_mup (by omega))⟩
      · rintro r M1 ⟨rfl, a1, a7, f1⟩
        refine zwp_ret ?_
        simp only [mlt_eq]
        have g : (mup M1 213 0 0).1 213 61 = Int32.ofNat N.n := (mup_off' (by decide)).trans ((f1 213 61 (by omega)).trans no.r1)
        have e62 : (mup M1 213 0 0).1 213 62 = M.1 213 62 := (mup_off' (by decide)).trans (f1 213 62 (by omega))
        have f2 : zfr (fun k j => (k = 85 ∧ j = 6) ∨ (86 ≤ k ∧ k ≤ 90 ∧ j = N.n) ∨ (k = 213 ∧ j = 0)) M (mup M1 213 0 0) := zfr_trans (zfr_weak f1 (by omega)) (zfr_mup (by omega))
        have b1 : ∀ q j, q ≠ 213 → (mup M1 213 0 0).1 q j = M1.1 q j := fun q j hq => mup_off hq
        generalize mup M1 213 0 0 = M2 at g e62 f2 b1 ⊢
        rw [if_neg l1, g, if_neg l2', if_neg (by rw [show (24 : Int32) = Int32.ofNat 24 from rfl, zi_eq (by omega) (by omega)]; exact e24)]
        have h1 : (mup M2 252 N.n (Int32.ofNat j)).1 213 61 = Int32.ofNat N.n := (mup_off (by decide)).trans g
        rw [mwr_of (k := 252) (j := N.n) hn (by decide), zob_some, h1, yi_nn, mup_on, yi_m1 (by omega)]
        have f3 : zfr (fun k j => (k = 252 ∧ j = N.n) ∨ (k = 213 ∧ j = 61)) M2 (mup (mup M2 252 N.n (Int32.ofNat j)) 213 61 (Int32.ofNat (N.n + 1))) := zfr_trans (zfr_mup (by omega)) (zfr_mup (by omega))
        have k1 : (mup (mup M2 252 N.n (Int32.ofNat j)) 213 61 (Int32.ofNat (N.n + 1))).1 213 61 = Int32.ofNat (N.n + 1) := mup_on
        have k2 : (mup (mup M2 252 N.n (Int32.ofNat j)) 213 61 (Int32.ofNat (N.n + 1))).1 252 N.n = Int32.ofNat j := by rw [mup_off (by decide), mup_on]
        generalize mup (mup M2 252 N.n (Int32.ofNat j)) 213 61 (Int32.ofNat (N.n + 1)) = M3 at f3 k1 k2 ⊢
        have lo : ∀ q j, q < 213 → M3.1 q j = M1.1 q j := fun q j hq => (f3 q j (by omega)).trans (b1 q j (by omega))
        have f : zfr yNP M M3 := zfr_trans (zfr_weak f2 (by unfold yNP; omega)) (zfr_weak f3 (by unfold yNP; omega))
        refine zwp_ret ⟨rfl, t, T, S, h.notes f ⟨_, no.ext hn (st := Int32.ofNat j) (hr := 0) (is := 0) (ce := 0) (Or.inr ⟨j, hj, rfl⟩) (by decide) (Or.inl rfl) ⟨0, by decide, rfl⟩ ((lo _ _ (by decide)).trans a1) ((f3 85 7 (by omega)).trans (f2 85 7 (by omega))) k1 ((f3 213 62 (by omega)).trans e62) ?_ ((lo _ _ (by decide)).trans a7) k2 (fun z => absurd z (zi_n1 (by omega)))⟩⟩
        intro q j hq hj
        rw [f3 q j (by omega), f2 q j (by omega)]
theorem p_known (h : yI W M t T S) (a : Int32) : yPr W (m_X7_known a M) (m_X8_known a) := by
  obtain ⟨N, no⟩ := h.no
  have hle := no.le
  unfold m_X7_known m_X8_known
  rw [no.c1]
  rcases y_from (-1) (Int32.ofNat N.n) a M with ⟨e, ho⟩ | ⟨e, l1, l2, l3⟩
  · refine yPr.qq h (v := 0) ?_ ?_
    · simp only [e, mbd_some, if_true]
    · simp only [mlt_eq]
      rcases ho with z | ⟨z1, z2, z3⟩
      · rw [if_pos z]
      · rw [if_neg z1, mup_off' (by decide), no.r1, if_neg z3]
  · have kb : a = -1 ∨ ∃ j, j ≤ N.n ∧ a = Int32.ofNat j := by
      by_cases ea : a = -1
      · exact Or.inl ea
      · right
        have a1 : ¬ a.toInt = -1 := fun z => ea (Int32.toInt_inj.mp (z.trans (by decide)))
        rw [Int32.lt_iff_toInt_lt] at l1 l2
        rw [Int32.toInt_ofNat_of_lt (by omega)] at l2
        have e1 : Int32.toInt (-1) = -1 := by decide
        refine ⟨a.toInt.toNat, by omega, ?_⟩
        rw [← Int32.toInt_inj, Int32.toInt_ofNat_of_lt (by omega)]
        omega
    unfold yPr
    simp only [e, mbd_some, one_ne, if_false, mlt_eq]
    refine zwp_ret ?_
    rw [if_neg l1, mup_off' (by decide), mup_off (by decide), no.r1, if_pos l3]
    have f : zfr (fun k i => (k = 85 ∧ i = 7) ∨ (k = 213 ∧ (i = 0 ∨ i = 62))) M (mup (mup (mup M 85 7 a) 213 0 0) 213 62 a) := zfr_trans (zfr_mup (by omega)) (zfr_trans (zfr_mup (by omega)) (zfr_mup (by omega)))
    have k1 : (mup (mup (mup M 85 7 a) 213 0 0) 213 62 a).1 85 7 = a := by rw [mup_off (by decide), mup_off (by decide), mup_on]
    have k2 : (mup (mup (mup M 85 7 a) 213 0 0) 213 62 a).1 213 62 = a := mup_on
    generalize mup (mup (mup M 85 7 a) 213 0 0) 213 62 a = M3 at f k1 k2 ⊢
    refine zwp_ret ⟨rfl, t, T, S, h.notes (zfr_weak f (by unfold yNP; omega)) ⟨yNs.w_kb N a, ?_⟩⟩
    exact ⟨no.le, kb, no.st, no.cell, no.is, no.hrs, (f _ _ (by omega)).trans no.c1, k1, (f _ _ (by omega)).trans no.r1, k2,
      fun k hk => (f _ _ (by omega)).trans (no.cs k hk), fun k hk => (f _ _ (by omega)).trans (no.rs k hk),
      fun k hk z => (f _ _ (by omega)).trans (no.ch k hk z), fun k hk z => (f _ _ (by omega)).trans (no.rh k hk z),
      fun k hk z => (f _ _ (by omega)).trans (no.cx k hk z), fun k hk z => (f _ _ (by omega)).trans (no.cy k hk z), fun k hk z => (f _ _ (by omega)).trans (no.rc k hk z),
      fun k hk z => (f _ _ (by omega)).trans (no.ci k hk z), fun k hk z => (f _ _ (by omega)).trans (no.ri k hk z)⟩
end

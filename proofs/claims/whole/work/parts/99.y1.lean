/-! every case of the law is passed -/
section
variable {W : Nat → Int32} {M : zMem} {t : Nat} {T : yT} {S : yA}
theorem y_c {c1 : Option (Int32 × zMem)} {c2 : zMem → Option (Int32 × zMem)} (p : yPr W c1 c2) : yCase W (mbd c1 (fun v M1 => mbd (c2 M1) (fun v' M2 => if v = v' then some ((.inl ()), M2) else some ((.inr 0), M2)))) := by
  refine zwp_bd p (fun v M1 q => zwp_bd q ?_)
  rintro v' M2 ⟨rfl, y⟩
  rw [if_pos rfl]
  exact zwp_ret ⟨rfl, y⟩
theorem lg_self (v : Int64) : lg_cmp v v = 0 := by
  unfold lg_cmp
  rw [if_neg (Int64.lt_irrefl), if_pos rfl]
theorem y_cL {c1 : Option (Int64 × zMem)} {c2 : zMem → Option (Int64 × zMem)} (p : yPr W c1 c2) : yCase W (mbd c1 (fun v M1 => mbd (c2 M1) (fun v' M2 => if (lg_cmp v v') = 0 then some ((.inl ()), M2) else some ((.inr 0), M2)))) := by
  refine zwp_bd p (fun v M1 q => zwp_bd q ?_)
  rintro v' M2 ⟨rfl, y⟩
  rw [lg_self, if_pos rfl]
  exact zwp_ret ⟨rfl, y⟩
variable {L : Nat} {xs : Nat → Int32} {i w1 w2 w3 w4 w5 : Int32}
theorem cs_0 (h : yI yWf M t T S) (e1 : zsc L xs (i + 1) = some w1) (e2 : zsc L xs (i + 2) = some w2) (e3 : zsc L xs (i + 3) = some w3) (e4 : zsc L xs (i + 4) = some w4) (e5 : zsc L xs (i + 5) = some w5) : yCase yWf (m_L_0 L xs i M) := by
  unfold m_L_0
  simp only [e1, e2, e3, e4, e5, zob_some]
  exact y_c (p_feed h w1 w2 w3 w4 w5)
theorem cs_1 (h : yI yWf M t T S) (e1 : zsc L xs (i + 1) = some w1) : yCase yWf (m_L_1 L xs i M) := by
  unfold m_L_1
  simp only [e1, zob_some]
  exact y_c (p_text h yWf_w w1)
theorem cs_2 (h : yI yWf M t T S) (e1 : zsc L xs (i + 1) = some w1) : yCase yWf (m_L_2 L xs i M) := by
  unfold m_L_2
  simp only [e1, zob_some]
  exact y_c (p_fault h w1)
theorem cs_3 (h : yI yWf M t T S) (e1 : zsc L xs (i + 1) = some w1) (e2 : zsc L xs (i + 2) = some w2) : yCase yWf (m_L_3 L xs i M) := by
  unfold m_L_3
  simp only [e1, e2, zob_some]
  exact y_c (p_named h w1 w2)
theorem cs_5 (h : yI yWf M t T S) (e1 : zsc L xs (i + 1) = some w1) (e2 : zsc L xs (i + 2) = some w2) : yCase yWf (m_L_5 L xs i M) := by
  unfold m_L_5
  simp only [e1, e2, zob_some]
  exact y_c (p_child h w1 w2)
theorem cs_6 (h : yI yWf M t T S) (e1 : zsc L xs (i + 1) = some w1) (e2 : zsc L xs (i + 2) = some w2) : yCase yWf (m_L_6 L xs i M) := by
  unfold m_L_6
  simp only [e1, e2, zob_some]
  exact y_c (p_field h w1 w2)
theorem cs_7 (h : yI yWf M t T S) (e1 : zsc L xs (i + 1) = some w1) (e2 : zsc L xs (i + 2) = some w2) : yCase yWf (m_L_7 L xs i M) := by
  unfold m_L_7
  simp only [e1, e2, zob_some]
  exact y_c (p_ground h w1 w2)
theorem cs_8 (h : yI yWf M t T S) (e1 : zsc L xs (i + 1) = some w1) : yCase yWf (m_L_8 L xs i M) := by
  unfold m_L_8
  simp only [e1, zob_some]
  exact y_c (p_sees h w1)
theorem cs_9 (h : yI yWf M t T S) (e1 : zsc L xs (i + 1) = some w1) (e2 : zsc L xs (i + 2) = some w2) : yCase yWf (m_L_9 L xs i M) := by
  unfold m_L_9
  simp only [e1, e2, zob_some]
  exact y_c (p_in h w1 w2)
theorem cs_10 (h : yI yWf M t T S) (e1 : zsc L xs (i + 1) = some w1) (e2 : zsc L xs (i + 2) = some w2) : yCase yWf (m_L_10 L xs i M) := by
  unfold m_L_10
  simp only [e1, e2, zob_some]
  exact y_cL (p_law h w1 w2)
theorem cs_11 (h : yI yWf M t T S) (e1 : zsc L xs (i + 1) = some w1) (e2 : zsc L xs (i + 2) = some w2) : yCase yWf (m_L_11 L xs i M) := by
  unfold m_L_11
  simp only [e1, e2, zob_some]
  exact y_c (p_push h w1 w2)
theorem cs_12 (h : yI yWf M t T S) (e1 : zsc L xs (i + 1) = some w1) (e2 : zsc L xs (i + 2) = some w2) : yCase yWf (m_L_12 L xs i M) := by
  unfold m_L_12
  simp only [e1, e2, zob_some]
  exact y_c (p_give h w1 w2)
theorem cs_13 (h : yI yWf M t T S) (e1 : zsc L xs (i + 1) = some w1) (e2 : zsc L xs (i + 2) = some w2) (e3 : zsc L xs (i + 3) = some w3) : yCase yWf (m_L_13 L xs i M) := by
  unfold m_L_13
  simp only [e1, e2, e3, zob_some]
  exact y_c (p_stand h w1 w2 w3)
theorem cs_14 (h : yI yWf M t T S) (e1 : zsc L xs (i + 1) = some w1) : yCase yWf (m_L_14 L xs i M) := by
  unfold m_L_14
  simp only [e1, zob_some]
  exact y_c (p_blow h w1)
theorem cs_15 (h : yI yWf M t T S) (e1 : zsc L xs (i + 1) = some w1) : yCase yWf (m_L_15 L xs i M) := by
  unfold m_L_15
  simp only [e1, zob_some]
  exact y_c (p_go h w1)
theorem cs_16 (h : yI yWf M t T S) (e1 : zsc L xs (i + 1) = some w1) (e2 : zsc L xs (i + 2) = some w2) : yCase yWf (m_L_16 L xs i M) := by
  unfold m_L_16
  simp only [e1, e2, zob_some]
  exact y_c (p_ahead h w1 w2)
theorem cs_17 (h : yI yWf M t T S) : yCase yWf (m_L_17 L xs i M) := by
  unfold m_L_17
  exact y_c (p_could h)
theorem cs_18 (h : yI yWf M t T S) (e1 : zsc L xs (i + 1) = some w1) (e2 : zsc L xs (i + 2) = some w2) (e3 : zsc L xs (i + 3) = some w3) : yCase yWf (m_L_18 L xs i M) := by
  unfold m_L_18
  simp only [e1, e2, e3, zob_some]
  exact y_c (p_station h w1 w2 w3)
theorem cs_19 (h : yI yWf M t T S) : yCase yWf (m_L_19 L xs i M) := by
  unfold m_L_19
  exact y_c (p_lacks h)
theorem cs_20 (h : yI yWf M t T S) (e1 : zsc L xs (i + 1) = some w1) : yCase yWf (m_L_20 L xs i M) := by
  unfold m_L_20
  simp only [e1, zob_some]
  exact y_c (p_enough h w1)
theorem cs_21 (h : yI yWf M t T S) (e1 : zsc L xs (i + 1) = some w1) : yCase yWf (m_L_21 L xs i M) := by
  unfold m_L_21
  simp only [e1, zob_some]
  exact y_c (p_whose h w1)
theorem cs_22 (h : yI yWf M t T S) : yCase yWf (m_L_22 L xs i M) := by
  unfold m_L_22
  exact y_c (p_swaps h)
theorem cs_23 (h : yI yWf M t T S) (e1 : zsc L xs (i + 1) = some w1) : yCase yWf (m_L_23 L xs i M) := by
  unfold m_L_23
  simp only [e1, zob_some]
  exact y_c (p_swap h w1)
theorem cs_24 (h : yI yWf M t T S) (e1 : zsc L xs (i + 1) = some w1) (e2 : zsc L xs (i + 2) = some w2) (e3 : zsc L xs (i + 3) = some w3) : yCase yWf (m_L_24 L xs i M) := by
  unfold m_L_24
  simp only [e1, e2, e3, zob_some]
  exact y_c (p_likely h w1 w2 w3)
theorem cs_25 (h : yI yWf M t T S) (e1 : zsc L xs (i + 1) = some w1) (e2 : zsc L xs (i + 2) = some w2) (e3 : zsc L xs (i + 3) = some w3) : yCase yWf (m_L_25 L xs i M) := by
  unfold m_L_25
  simp only [e1, e2, e3, zob_some]
  exact y_c (p_plan h w1 w2 w3)
theorem cs_26 (h : yI yWf M t T S) (e1 : zsc L xs (i + 1) = some w1) (e2 : zsc L xs (i + 2) = some w2) (e3 : zsc L xs (i + 3) = some w3) (e4 : zsc L xs (i + 4) = some w4) : yCase yWf (m_L_26 L xs i M) := by
  unfold m_L_26
  simp only [e1, e2, e3, e4, zob_some]
  exact y_c (p_step h w1 w2 w3 w4)
theorem cs_27 (h : yI yWf M t T S) (e1 : zsc L xs (i + 1) = some w1) (e2 : zsc L xs (i + 2) = some w2) : yCase yWf (m_L_27 L xs i M) := by
  unfold m_L_27
  simp only [e1, e2, zob_some]
  exact y_c (p_rests h w1 w2)
theorem cs_28 (h : yI yWf M t T S) (e1 : zsc L xs (i + 1) = some w1) (e2 : zsc L xs (i + 2) = some w2) (e3 : zsc L xs (i + 3) = some w3) : yCase yWf (m_L_28 L xs i M) := by
  unfold m_L_28
  simp only [e1, e2, e3, zob_some]
  exact y_c (p_rest h w1 w2 w3)
theorem cs_29 (h : yI yWf M t T S) (e1 : zsc L xs (i + 1) = some w1) (e2 : zsc L xs (i + 2) = some w2) (e3 : zsc L xs (i + 3) = some w3) (e4 : zsc L xs (i + 4) = some w4) : yCase yWf (m_L_29 L xs i M) := by
  unfold m_L_29
  simp only [e1, e2, e3, e4, zob_some]
  by_cases z : w4 = 0
  · simp only [if_pos z, mbd_some]
    exact y_c (p_note h w1 w2 w3 0 (Or.inl rfl))
  · simp only [if_neg z, mbd_some]
    exact y_c (p_note h w1 w2 w3 1 (Or.inr rfl))
theorem cs_30 (h : yI yWf M t T S) (e1 : zsc L xs (i + 1) = some w1) : yCase yWf (m_L_30 L xs i M) := by
  unfold m_L_30
  simp only [e1, zob_some]
  exact y_c (p_out h w1)
theorem cs_31 (h : yI yWf M t T S) (e1 : zsc L xs (i + 1) = some w1) : yCase yWf (m_L_31 L xs i M) := by
  unfold m_L_31
  simp only [e1, zob_some]
  exact y_c (p_known h w1)
theorem cs_32 (h : yI yWf M t T S) (e1 : zsc L xs (i + 1) = some w1) : yCase yWf (m_L_32 L xs i M) := by
  unfold m_L_32
  simp only [e1, zob_some]
  exact y_c (p_sizes h w1)
theorem cs_33 (h : yI yWf M t T S) (e1 : zsc L xs (i + 1) = some w1) (e2 : zsc L xs (i + 2) = some w2) (e3 : zsc L xs (i + 3) = some w3) (e4 : zsc L xs (i + 4) = some w4) : yCase yWf (m_L_33 L xs i M) := by
  unfold m_L_33
  simp only [e1, e2, e3, e4, zob_some]
  exact y_c (p_chance h w1 w2 w3 w4)
theorem cs_34 (h : yI yWf M t T S) (e1 : zsc L xs (i + 1) = some w1) (e2 : zsc L xs (i + 2) = some w2) (e3 : zsc L xs (i + 3) = some w3) : yCase yWf (m_L_34 L xs i M) := by
  unfold m_L_34
  simp only [e1, e2, e3, zob_some]
  exact y_c (p_tried h w1 w2 w3)
theorem cs_35 (h : yI yWf M t T S) : yCase yWf (m_L_35 L xs i M) := by
  unfold m_L_35
  exact y_c (p_undo h)
theorem cs_36 (h : yI yWf M t T S) : yCase yWf (m_L_36 L xs i M) := by
  unfold m_L_36
  exact y_c (p_keep h)
theorem cs_37 (h : yI yWf M t T S) : yCase yWf (m_L_37 L xs i M) := by
  unfold m_L_37
  exact y_c (p_back h)
theorem cs_38 (h : yI yWf M t T S) (e1 : zsc L xs (i + 1) = some w1) : yCase yWf (m_L_38 L xs i M) := by
  unfold m_L_38
  simp only [e1, zob_some]
  exact y_c (p_count h w1)
/-! cloud -/
def yLw (a b : Int32) (M : zMem) (k : Int32) (M1 : zMem) : Prop := (∃ v, m_Lc a b M = some (v, M1) ∧ k = 0) ∨ (m_X7_isCloud a M = some (0, M1) ∧ k = 1) ∨ (m_X7_isCloud a M = some (1, M1) ∧ (b.toInt < 0 ∨ 5 < b.toInt) ∧ k = 2)
theorem cs_4 (h : yI yWf M t T S) (e1 : zsc L xs (i + 1) = some w1) (e2 : zsc L xs (i + 2) = some w2) : ∃ k M1, yLw w1 w2 M k M1 ∧ yCase yWf (m_L_4 L xs i k M1) := by
  have thr : ∀ (v : Int32), ∃ t T S, yI yWf (mup M 213 0 v) t T S := fun v => ⟨t, T, S, h.thr v⟩
  rcases y_isCloud h w1 with ⟨e7, e8⟩ | ⟨q, hq, ea, e7, e8⟩
  · refine ⟨1, M, Or.inr (Or.inl ⟨e7, rfl⟩), ?_⟩
    unfold m_L_4 m_X8_cloud m_X8_thrown
    simp only [e1, e2, zob_some]
    rw [e8 M h.rs.rt, mbd_some, if_pos rfl, mbd_some, mlt_eq, mup_on, if_neg (by decide), mbd_some, mbd_some, mup_on, if_pos rfl, if_neg (by decide)]
    exact zwp_ret ⟨rfl, thr 1⟩
  · by_cases b0 : w2 < 0
    · refine ⟨2, M, Or.inr (Or.inr ⟨e7, Or.inl (Int32.lt_iff_toInt_lt.mp b0), rfl⟩), ?_⟩
      unfold m_L_4 m_X8_cloud m_X8_thrown
      simp only [e1, e2, zob_some]
      rw [e8 M h.rs.rt, mbd_some, if_neg (by decide), if_pos b0, mbd_some, mlt_eq, mup_on, if_neg (by decide), mbd_some, mbd_some, mup_on, if_pos rfl, if_neg (by decide)]
      exact zwp_ret ⟨rfl, thr 2⟩
    · by_cases b5 : w2 ≤ 5
      · obtain ⟨j, -, j5, eb⟩ := y_nat (a := w2) (lo := 0) (hi := 5) 0 5 rfl rfl (by decide) (by decide) b0 (Int32.not_lt.mpr b5)
        have c24 := h.cs.ok.cell q hq
        have n8 := h.cs.tk.nc
        have st : M.1 240 (8 * 0 + q) = S.state q := by
          have := h.rs.state q hq
          rw [if_neg (fun z => absurd z.1 (by decide))] at this
          exact this.symm
        have fin : ∀ (v : Int32) (_ : m_X7_cloud w1 w2 M = some (v, M)) (_ : m_X8_cloud w1 w2 (mupL M 254 0 v.toInt64) = some (v, mup (mupL M 254 0 v.toInt64) 213 0 0)), ∃ k M1, yLw w1 w2 M k M1 ∧ yCase yWf (m_L_4 L xs i k M1) := fun v ec er => by
          have e0 : mwrL M 254 0 v.toInt64 = some (mupL M 254 0 v.toInt64) := mwrL_of (k := 254) (j := 0) (by decide)
          refine ⟨0, mupL M 254 0 v.toInt64, Or.inl ⟨v, ?_, rfl⟩, ?_⟩
          · unfold m_Lc
            rw [ec, mbd_some, e0, zob_some]
          · unfold m_L_4 m_X8_thrown
            simp only [e1, e2, zob_some]
            have ev : (mup (mupL M 254 0 v.toInt64) 213 0 0).2 254 0 = v.toInt64 := by rw [mup_2, mupL_at, if_pos ⟨rfl, rfl⟩]
            rw [er, mbd_some, mbd_some, mup_on, if_pos rfl, if_pos trivial, mrdL_of (k := 254) (j := 0) (by decide), zob_some, ev, lg_self, if_pos rfl]
            exact zwp_ret ⟨rfl, t, T, S, h.thr 0⟩
        have hr : ∀ (v : Int32), yRS (mup (mupL M 254 0 v.toInt64) 213 0 0) 0 0 T S := fun v => (h.thr 0).rs
        have e8' : ∀ (v : Int32), m_X8_isCloud w1 (mupL M 254 0 v.toInt64) = some (1, mupL M 254 0 v.toInt64) := fun v => e8 _ h.rs.rt
        rcases (show j = 0 ∨ j = 1 ∨ j = 2 ∨ j = 3 ∨ j = 4 ∨ j = 5 by omega) with rfl | rfl | rfl | rfl | rfl | rfl
        · refine fin (Int32.ofNat (S.cell q % 6)) ?_ ?_
          · unfold m_X7_cloud
            rw [e7, mbd_some, if_neg (by decide), if_pos (by rw [eb]; decide), ea, h.cs.rX hq, zob_some]
          · unfold m_X8_cloud
            rw [e8', mbd_some, if_neg (by decide), if_neg b0, if_pos b5, mbd_some, mlt_eq, mup_on, if_pos rfl, if_pos (by rw [eb]; decide), ea, (hr _).rCell0 hq, zob_some, yrm6 _ c24]
        · refine fin (Int32.ofNat (S.cell q / 6)) ?_ ?_
          · unfold m_X7_cloud
            rw [e7, mbd_some, if_neg (by decide), if_neg (by rw [eb]; decide), if_pos (by rw [eb]; decide), ea, h.cs.rY hq, zob_some]
          · unfold m_X8_cloud
            rw [e8', mbd_some, if_neg (by decide), if_neg b0, if_pos b5, mbd_some, mlt_eq, mup_on, if_pos rfl, if_neg (by rw [eb]; decide), if_pos (by rw [eb]; decide), ea, (hr _).rCell0 hq, zob_some, ydv6 _ c24]
        · refine fin (S.size q) ?_ ?_
          · unfold m_X7_cloud
            rw [e7, mbd_some, if_neg (by decide), if_neg (by rw [eb]; decide), if_neg (by rw [eb]; decide), if_pos (by rw [eb]; decide), ea, h.cs.rSize hq, zob_some]
          · unfold m_X8_cloud
            rw [e8', mbd_some, if_neg (by decide), if_neg b0, if_pos b5, mbd_some, mlt_eq, mup_on, if_pos rfl, if_neg (by rw [eb]; decide), if_neg (by rw [eb]; decide), if_pos (by rw [eb]; decide), ea, (hr _).rSize0 hq, zob_some]
        · refine fin (S.age q) ?_ ?_
          · unfold m_X7_cloud
            rw [e7, mbd_some, if_neg (by decide), if_neg (by rw [eb]; decide), if_neg (by rw [eb]; decide), if_neg (by rw [eb]; decide), if_pos (by rw [eb]; decide), ea, h.cs.rAge hq, zob_some]
          · unfold m_X8_cloud
            rw [e8', mbd_some, if_neg (by decide), if_neg b0, if_pos b5, mbd_some, mlt_eq, mup_on, if_pos rfl, if_neg (by rw [eb]; decide), if_neg (by rw [eb]; decide), if_neg (by rw [eb]; decide), if_pos (by rw [eb]; decide), ea, (hr _).rAge0 hq, zob_some]
        · refine fin (S.owner q) ?_ ?_
          · unfold m_X7_cloud
            rw [e7, mbd_some, if_neg (by decide), if_neg (by rw [eb]; decide), if_neg (by rw [eb]; decide), if_neg (by rw [eb]; decide), if_neg (by rw [eb]; decide), if_pos (by rw [eb]; decide), ea, h.cs.rOwner hq, zob_some]
          · unfold m_X8_cloud
            rw [e8', mbd_some, if_neg (by decide), if_neg b0, if_pos b5, mbd_some, mlt_eq, mup_on, if_pos rfl, if_neg (by rw [eb]; decide), if_neg (by rw [eb]; decide), if_neg (by rw [eb]; decide), if_neg (by rw [eb]; decide), if_pos (by rw [eb]; decide), ea, (hr _).rOwner0 hq, zob_some]
        · refine fin (S.state q) ?_ ?_
          · unfold m_X7_cloud
            rw [e7, mbd_some, if_neg (by decide), if_neg (by rw [eb]; decide), if_neg (by rw [eb]; decide), if_neg (by rw [eb]; decide), if_neg (by rw [eb]; decide), if_neg (by rw [eb]; decide), if_pos (by rw [eb]; decide), ea, h.cs.rState hq, zob_some]
          · unfold m_X8_cloud
            rw [e8', mbd_some, if_neg (by decide), if_neg b0, if_pos b5, mbd_some, mlt_eq, mup_on, if_pos rfl, if_neg (by rw [eb]; decide), if_neg (by rw [eb]; decide), if_neg (by rw [eb]; decide), if_neg (by rw [eb]; decide), if_neg (by rw [eb]; decide), ea, (hr _).rHow0 (by decide) hq, zob_some]
      · refine ⟨2, M, Or.inr (Or.inr ⟨e7, Or.inr (Int32.lt_iff_toInt_lt.mp (Int32.not_le.mp b5)), rfl⟩), ?_⟩
        unfold m_L_4 m_X8_cloud m_X8_thrown
        simp only [e1, e2, zob_some]
        rw [e8 M h.rs.rt, mbd_some, if_neg (by decide), if_neg b0, if_neg b5, mbd_some, mlt_eq, mup_on, if_neg (by decide), mbd_some, mbd_some, mup_on, if_pos rfl, if_neg (by decide)]
        exact zwp_ret ⟨rfl, thr 2⟩
end

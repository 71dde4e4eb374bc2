/-! the reference's bodies of field, cloud and child -/
def yRp (b : Nat → Nat) (n : Nat) (la : Nat → Nat) (A : yLE (Nat × yT)) (M M' : zMem) : Prop := zfr yRLn M M' ∧ ((∃ f, A = .inl f ∧ yRF M' f) ∨ ∃ p' T', A = .inr (p', T') ∧ yRG M' b n p' ∧ yRU M' T' la)
section
variable {M : zMem} {b : Nat → Nat} {n p : Nat} {T : yT} {la : Nat → Nat}
theorem r_cellA_f {f : Nat × Nat} (fl : yRF M f) : m_X8_cellAhead M = some ((6 * 0) + 0, M) := by
  unfold m_X8_cellAhead
  rw [r_numeral_f fl, mbd_some, r_numeral_f fl, mbd_some]
def rb_field (M0 : zMem) : Option (Unit × zMem) :=
  mbd (m_X8_fresher 0 M0) (fun v27 M26 =>
  mbd (m_X8_fresher 0 M26) (fun v31 M30 =>
  mbd (m_X8_fresh 217 5 v31 M30) (fun v33 M32 =>
  zob (mwr M32 217 (5 + v27) v33) (fun M34 =>
  mbd (m_X8_cellAhead M34) (fun v37 M36 =>
  zob (mwr M36 218 (5 + v27) v37) (fun M38 =>
  mbd (m_X8_numeral 0 99 M38) (fun w0 N0 =>
  zob (mwr N0 219 (5 + v27) w0) (fun O0 =>
  mbd (m_X8_fresher 0 O0) (fun v44 M43 =>
  mbd (m_X8_reads 0 (v44 + 1) M43) (fun v46 M45 =>
  some ((), M45)))))))))))
theorem r_fieldB (h : yRG M b n (ynx b n p)) (ct : yRU M T la) (hc : T.nf < 5) : zwp (rb_field M) (fun _ M' => yRp b n la (afield b n T p) M M') := by
  have wk : ∀ {M1 M2 : zMem}, zfr yRv M1 M2 → zfr yRLn M1 M2 := fun fr => zfr_weak fr (by unfold yRv yRLn; omega)
  have ei : (5 : Int32) + Int32.ofNat T.nf = Int32.ofNat (5 + T.nf) := by rw [show (5 : Int32) = Int32.ofNat 5 from rfl, ← Int32.ofNat_add]
  have fe : ∀ {M' : zMem}, m_X8_fresher 0 M' = some (M'.1 215 8, M') := r_fresher (a := 0) (by decide)
  have re : ∀ {M' : zMem} (v : Int32), m_X8_reads 0 v M' = some ((), mup M' 215 8 v) := r_reads (a := 0) (by decide)
  unfold rb_field
  rw [fe, mbd_some, fe, mbd_some, ct.nf]
  refine r_fresh h (fr0 := 5) T.fname (by show 5 + T.nf ≤ 10; omega) (by decide) (fun i hi => ct.fname i hi) (fun f v M2 e cg f2 => ?_) (fun x p1 M2 e0 cb2 f2 => ?_)
  · have ff := wk f2
    have ea : afield b n T p = .inl f := by unfold afield; rw [if_neg (by omega)]; rw [e]
    refine r_wrf cg ei (by show 5 + T.nf < 10; omega) (by decide) (by decide) (by unfold yRLn; omega) (fun M9 cg9 _ f9 => ?_)
    have ff := zfr_trans ff f9
    clear cg; have cg := cg9
    rw [r_cellA_f cg9, mbd_some]
    refine r_wrf cg ei (by show 5 + T.nf < 10; omega) (by decide) (by decide) (by unfold yRLn; omega) (fun M9 cg9 _ f9 => ?_)
    have ff := zfr_trans ff f9
    clear cg; have cg := cg9
    rw [r_numeral_f cg9, mbd_some]
    refine r_wrf cg ei (by show 5 + T.nf < 10; omega) (by decide) (by decide) (by unfold yRLn; omega) (fun M9 cg9 _ f9 => ?_)
    have ff := zfr_trans ff f9
    clear cg; have cg := cg9
    rw [fe, mbd_some, re, mbd_some]
    have f9 : zfr (fun k i => k = 215 ∧ i = 8) M9 (mup M9 215 8 (M9.1 215 8 + 1)) := zfr_mup ⟨rfl, rfl⟩
    exact zwp_ret ⟨zfr_trans ff (zfr_weak f9 (by unfold yRLn; omega)), Or.inl ⟨_, ea, cg.keep f9 (by omega) (by omega)⟩⟩
  · have ff := wk f2
    have ct2 := ct.rd f2 (by unfold yRv; omega)
    refine r_wrg cb2 ct2 ei (by show 5 + T.nf < 10; omega) (by decide) (by decide) (by unfold yRLn; omega) (by unfold yDeae; omega) (fun M3 cb3 ct3 w0 _ f3 => ?_)
    have ff := zfr_trans ff f3
    refine r_cell cb3 (fun f v M4 e cg f4 => ?_) (fun c q p2 M4 e1 hc4 cb4 f4 => ?_)
    · have ff := zfr_trans ff (wk f4)
      have ea : afield b n T p = .inl f := by unfold afield; rw [if_neg (by omega)]; rw [e0]; simp only; rw [e]
      refine r_wrf cg ei (by show 5 + T.nf < 10; omega) (by decide) (by decide) (by unfold yRLn; omega) (fun M9 cg9 _ f9 => ?_)
      have ff := zfr_trans ff f9
      clear cg; have cg := cg9
      rw [r_numeral_f cg9, mbd_some]
      refine r_wrf cg ei (by show 5 + T.nf < 10; omega) (by decide) (by decide) (by unfold yRLn; omega) (fun M9 cg9 _ f9 => ?_)
      have ff := zfr_trans ff f9
      clear cg; have cg := cg9
      rw [fe, mbd_some, re, mbd_some]
      have f9 : zfr (fun k i => k = 215 ∧ i = 8) M9 (mup M9 215 8 (M9.1 215 8 + 1)) := zfr_mup ⟨rfl, rfl⟩
      exact zwp_ret ⟨zfr_trans ff (zfr_weak f9 (by unfold yRLn; omega)), Or.inl ⟨_, ea, cg.keep f9 (by omega) (by omega)⟩⟩
    · have ff := zfr_trans ff (wk f4)
      have ct4 := ct3.rd f4 (by unfold yRv; omega)
      have w0 : M4.1 217 (5 + T.nf) = Int32.ofNat x := by rw [f4 _ _ (by unfold yRv; omega)]; exact w0
      refine r_wrg cb4 ct4 ei (by show 5 + T.nf < 10; omega) (by decide) (by decide) (by unfold yRLn; omega) (by unfold yDeae; omega) (fun M5 cb5 ct5 w1 g5 f5 => ?_)
      have ff := zfr_trans ff f5
      have w0 : M5.1 217 (5 + T.nf) = Int32.ofNat x := by rw [g5 _ _ (by omega)]; exact w0
      refine r_num cb5 (lo := 0) (hi := 99) (by decide) (by decide) (fun f M6 e cg f6 => ?_) (fun d0 p3 M6 n0 cb6 f6 => ?_)
      · have ff := zfr_trans ff (wk f6)
        have ea : afield b n T p = .inl f := by unfold afield; rw [if_neg (by omega)]; rw [e0]; simp only; rw [e1]; simp only; rw [e]
        refine r_wrf cg ei (by show 5 + T.nf < 10; omega) (by decide) (by decide) (by unfold yRLn; omega) (fun M9 cg9 _ f9 => ?_)
        have ff := zfr_trans ff f9
        clear cg; have cg := cg9
        rw [fe, mbd_some, re, mbd_some]
        have f9 : zfr (fun k i => k = 215 ∧ i = 8) M9 (mup M9 215 8 (M9.1 215 8 + 1)) := zfr_mup ⟨rfl, rfl⟩
        exact zwp_ret ⟨zfr_trans ff (zfr_weak f9 (by unfold yRLn; omega)), Or.inl ⟨_, ea, cg.keep f9 (by omega) (by omega)⟩⟩
      · have ff := zfr_trans ff (wk f6)
        have ct6 := ct5.rd f6 (by unfold yRv; omega)
        have w0 : M6.1 217 (5 + T.nf) = Int32.ofNat x := by rw [f6 _ _ (by unfold yRv; omega)]; exact w0
        have w1 : M6.1 218 (5 + T.nf) = Int32.ofNat c := by rw [f6 _ _ (by unfold yRv; omega)]; exact w1
        refine r_wrg cb6 ct6 ei (by show 5 + T.nf < 10; omega) (by decide) (by decide) (by unfold yRLn; omega) (by unfold yDeae; omega) (fun M7 cb7 ct7 w2 g7 f7 => ?_)
        have ff := zfr_trans ff f7
        have w0 : M7.1 217 (5 + T.nf) = Int32.ofNat x := by rw [g7 _ _ (by omega)]; exact w0
        have w1 : M7.1 218 (5 + T.nf) = Int32.ofNat c := by rw [g7 _ _ (by omega)]; exact w1
        rw [fe, mbd_some, re, mbd_some, ct7.nf, yi_nn]
        have fz : zfr (fun k i => k = 215 ∧ i = 8) M7 (mup M7 215 8 (Int32.ofNat (T.nf + 1))) := zfr_mup ⟨rfl, rfl⟩
        exact zwp_ret ⟨zfr_trans ff (zfr_weak fz (by unfold yRLn; omega)), Or.inr ⟨_, _, by unfold afield; rw [if_neg (by omega)]; rw [e0]; simp only; rw [e1]; simp only; rw [n0], cb7.keep fz (by omega) (by rw [fz 213 27 (by omega)]; exact cb7.2.2.1) (cb7.2.2.2.keep fz (by omega)), ct7.addF w0 w1 w2⟩⟩
def rb_child (M0 : zMem) : Option (Unit × zMem) :=
  mbd (m_X8_fresher 2 M0) (fun v27 M26 =>
  mbd (m_X8_fresher 2 M26) (fun v31 M30 =>
  mbd (m_X8_fresh 224 6 v31 M30) (fun v33 M32 =>
  zob (mwr M32 224 (6 + v27) v33) (fun M34 =>
  mbd (m_X8_cellAhead M34) (fun v37 M36 =>
  zob (mwr M36 225 (6 + v27) v37) (fun M38 =>
  mbd (m_X8_numeral 0 9 M38) (fun w0 N0 =>
  zob (mwr N0 226 (6 + v27) w0) (fun O0 =>
  mbd (m_X8_fresher 2 O0) (fun v44 M43 =>
  mbd (m_X8_reads 2 (v44 + 1) M43) (fun v46 M45 =>
  some ((), M45)))))))))))
theorem r_childB (h : yRG M b n (ynx b n p)) (ct : yRU M T la) (hc : T.nh < 6) : zwp (rb_child M) (fun _ M' => yRp b n la (achild b n T p) M M') := by
  have wk : ∀ {M1 M2 : zMem}, zfr yRv M1 M2 → zfr yRLn M1 M2 := fun fr => zfr_weak fr (by unfold yRv yRLn; omega)
  have ei : (6 : Int32) + Int32.ofNat T.nh = Int32.ofNat (6 + T.nh) := by rw [show (6 : Int32) = Int32.ofNat 6 from rfl, ← Int32.ofNat_add]
  have fe : ∀ {M' : zMem}, m_X8_fresher 2 M' = some (M'.1 215 10, M') := r_fresher (a := 2) (by decide)
  have re : ∀ {M' : zMem} (v : Int32), m_X8_reads 2 v M' = some ((), mup M' 215 10 v) := r_reads (a := 2) (by decide)
  unfold rb_child
  rw [fe, mbd_some, fe, mbd_some, ct.nh]
  refine r_fresh h (fr0 := 6) T.hname (by show 6 + T.nh ≤ 12; omega) (by decide) (fun i hi => ct.hname i hi) (fun f v M2 e cg f2 => ?_) (fun x p1 M2 e0 cb2 f2 => ?_)
  · have ff := wk f2
    have ea : achild b n T p = .inl f := by unfold achild; rw [if_neg (by omega)]; rw [e]
    refine r_wrf cg ei (by show 6 + T.nh < 12; omega) (by decide) (by decide) (by unfold yRLn; omega) (fun M9 cg9 _ f9 => ?_)
    have ff := zfr_trans ff f9
    clear cg; have cg := cg9
    rw [r_cellA_f cg9, mbd_some]
    refine r_wrf cg ei (by show 6 + T.nh < 12; omega) (by decide) (by decide) (by unfold yRLn; omega) (fun M9 cg9 _ f9 => ?_)
    have ff := zfr_trans ff f9
    clear cg; have cg := cg9
    rw [r_numeral_f cg9, mbd_some]
    refine r_wrf cg ei (by show 6 + T.nh < 12; omega) (by decide) (by decide) (by unfold yRLn; omega) (fun M9 cg9 _ f9 => ?_)
    have ff := zfr_trans ff f9
    clear cg; have cg := cg9
    rw [fe, mbd_some, re, mbd_some]
    have f9 : zfr (fun k i => k = 215 ∧ i = 10) M9 (mup M9 215 10 (M9.1 215 10 + 1)) := zfr_mup ⟨rfl, rfl⟩
    exact zwp_ret ⟨zfr_trans ff (zfr_weak f9 (by unfold yRLn; omega)), Or.inl ⟨_, ea, cg.keep f9 (by omega) (by omega)⟩⟩
  · have ff := wk f2
    have ct2 := ct.rd f2 (by unfold yRv; omega)
    refine r_wrg cb2 ct2 ei (by show 6 + T.nh < 12; omega) (by decide) (by decide) (by unfold yRLn; omega) (by unfold yDeae; omega) (fun M3 cb3 ct3 w0 _ f3 => ?_)
    have ff := zfr_trans ff f3
    refine r_cell cb3 (fun f v M4 e cg f4 => ?_) (fun c q p2 M4 e1 hc4 cb4 f4 => ?_)
    · have ff := zfr_trans ff (wk f4)
      have ea : achild b n T p = .inl f := by unfold achild; rw [if_neg (by omega)]; rw [e0]; simp only; rw [e]
      refine r_wrf cg ei (by show 6 + T.nh < 12; omega) (by decide) (by decide) (by unfold yRLn; omega) (fun M9 cg9 _ f9 => ?_)
      have ff := zfr_trans ff f9
      clear cg; have cg := cg9
      rw [r_numeral_f cg9, mbd_some]
      refine r_wrf cg ei (by show 6 + T.nh < 12; omega) (by decide) (by decide) (by unfold yRLn; omega) (fun M9 cg9 _ f9 => ?_)
      have ff := zfr_trans ff f9
      clear cg; have cg := cg9
      rw [fe, mbd_some, re, mbd_some]
      have f9 : zfr (fun k i => k = 215 ∧ i = 10) M9 (mup M9 215 10 (M9.1 215 10 + 1)) := zfr_mup ⟨rfl, rfl⟩
      exact zwp_ret ⟨zfr_trans ff (zfr_weak f9 (by unfold yRLn; omega)), Or.inl ⟨_, ea, cg.keep f9 (by omega) (by omega)⟩⟩
    · have ff := zfr_trans ff (wk f4)
      have ct4 := ct3.rd f4 (by unfold yRv; omega)
      have w0 : M4.1 224 (6 + T.nh) = Int32.ofNat x := by rw [f4 _ _ (by unfold yRv; omega)]; exact w0
      refine r_wrg cb4 ct4 ei (by show 6 + T.nh < 12; omega) (by decide) (by decide) (by unfold yRLn; omega) (by unfold yDeae; omega) (fun M5 cb5 ct5 w1 g5 f5 => ?_)
      have ff := zfr_trans ff f5
      have w0 : M5.1 224 (6 + T.nh) = Int32.ofNat x := by rw [g5 _ _ (by omega)]; exact w0
      refine r_num cb5 (lo := 0) (hi := 9) (by decide) (by decide) (fun f M6 e cg f6 => ?_) (fun d0 p3 M6 n0 cb6 f6 => ?_)
      · have ff := zfr_trans ff (wk f6)
        have ea : achild b n T p = .inl f := by unfold achild; rw [if_neg (by omega)]; rw [e0]; simp only; rw [e1]; simp only; rw [e]
        refine r_wrf cg ei (by show 6 + T.nh < 12; omega) (by decide) (by decide) (by unfold yRLn; omega) (fun M9 cg9 _ f9 => ?_)
        have ff := zfr_trans ff f9
        clear cg; have cg := cg9
        rw [fe, mbd_some, re, mbd_some]
        have f9 : zfr (fun k i => k = 215 ∧ i = 10) M9 (mup M9 215 10 (M9.1 215 10 + 1)) := zfr_mup ⟨rfl, rfl⟩
        exact zwp_ret ⟨zfr_trans ff (zfr_weak f9 (by unfold yRLn; omega)), Or.inl ⟨_, ea, cg.keep f9 (by omega) (by omega)⟩⟩
      · have ff := zfr_trans ff (wk f6)
        have ct6 := ct5.rd f6 (by unfold yRv; omega)
        have w0 : M6.1 224 (6 + T.nh) = Int32.ofNat x := by rw [f6 _ _ (by unfold yRv; omega)]; exact w0
        have w1 : M6.1 225 (6 + T.nh) = Int32.ofNat c := by rw [f6 _ _ (by unfold yRv; omega)]; exact w1
        refine r_wrg cb6 ct6 ei (by show 6 + T.nh < 12; omega) (by decide) (by decide) (by unfold yRLn; omega) (by unfold yDeae; omega) (fun M7 cb7 ct7 w2 g7 f7 => ?_)
        have ff := zfr_trans ff f7
        have w0 : M7.1 224 (6 + T.nh) = Int32.ofNat x := by rw [g7 _ _ (by omega)]; exact w0
        have w1 : M7.1 225 (6 + T.nh) = Int32.ofNat c := by rw [g7 _ _ (by omega)]; exact w1
        rw [fe, mbd_some, re, mbd_some, ct7.nh, yi_nn]
        have fz : zfr (fun k i => k = 215 ∧ i = 10) M7 (mup M7 215 10 (Int32.ofNat (T.nh + 1))) := zfr_mup ⟨rfl, rfl⟩
        exact zwp_ret ⟨zfr_trans ff (zfr_weak fz (by unfold yRLn; omega)), Or.inr ⟨_, _, by unfold achild; rw [if_neg (by omega)]; rw [e0]; simp only; rw [e1]; simp only; rw [n0], cb7.keep fz (by omega) (by rw [fz 213 27 (by omega)]; exact cb7.2.2.1) (cb7.2.2.2.keep fz (by omega)), ct7.addH w0 w1 w2⟩⟩
def rb_cloud (M0 : zMem) : Option (Unit × zMem) :=
  mbd (m_X8_fresher 1 M0) (fun v27 M26 =>
  mbd (m_X8_fresher 1 M26) (fun v31 M30 =>
  mbd (m_X8_fresh 220 8 v31 M30) (fun v33 M32 =>
  zob (mwr M32 220 (8 + v27) v33) (fun M34 =>
  mbd (m_X8_cellAhead M34) (fun v37 M36 =>
  zob (mwr M36 221 (8 + v27) v37) (fun M38 =>
  mbd (m_X8_numeral 1 9 M38) (fun w0 N0 =>
  zob (mwr N0 222 (8 + v27) w0) (fun O0 =>
  mbd (m_X8_numeral 0 99 O0) (fun w1 N1 =>
  zob (mwr N1 223 (8 + v27) w1) (fun O1 =>
  mbd (m_X8_fresher 1 O1) (fun v44 M43 =>
  mbd (m_X8_reads 1 (v44 + 1) M43) (fun v46 M45 =>
  some ((), M45)))))))))))))
theorem r_cloudB (h : yRG M b n (ynx b n p)) (ct : yRU M T la) (hc : T.nc < 8) : zwp (rb_cloud M) (fun _ M' => yRp b n la (acloud b n T p) M M') := by
  have wk : ∀ {M1 M2 : zMem}, zfr yRv M1 M2 → zfr yRLn M1 M2 := fun fr => zfr_weak fr (by unfold yRv yRLn; omega)
  have ei : (8 : Int32) + Int32.ofNat T.nc = Int32.ofNat (8 + T.nc) := by rw [show (8 : Int32) = Int32.ofNat 8 from rfl, ← Int32.ofNat_add]
  have fe : ∀ {M' : zMem}, m_X8_fresher 1 M' = some (M'.1 215 9, M') := r_fresher (a := 1) (by decide)
  have re : ∀ {M' : zMem} (v : Int32), m_X8_reads 1 v M' = some ((), mup M' 215 9 v) := r_reads (a := 1) (by decide)
  unfold rb_cloud
  rw [fe, mbd_some, fe, mbd_some, ct.nc]
  refine r_fresh h (fr0 := 8) T.cname (by show 8 + T.nc ≤ 16; omega) (by decide) (fun i hi => ct.cname i hi) (fun f v M2 e cg f2 => ?_) (fun x p1 M2 e0 cb2 f2 => ?_)
  · have ff := wk f2
    have ea : acloud b n T p = .inl f := by unfold acloud; rw [if_neg (by omega)]; rw [e]
    refine r_wrf cg ei (by show 8 + T.nc < 16; omega) (by decide) (by decide) (by unfold yRLn; omega) (fun M9 cg9 _ f9 => ?_)
    have ff := zfr_trans ff f9
    clear cg; have cg := cg9
    rw [r_cellA_f cg9, mbd_some]
    refine r_wrf cg ei (by show 8 + T.nc < 16; omega) (by decide) (by decide) (by unfold yRLn; omega) (fun M9 cg9 _ f9 => ?_)
    have ff := zfr_trans ff f9
    clear cg; have cg := cg9
    rw [r_numeral_f cg9, mbd_some]
    refine r_wrf cg ei (by show 8 + T.nc < 16; omega) (by decide) (by decide) (by unfold yRLn; omega) (fun M9 cg9 _ f9 => ?_)
    have ff := zfr_trans ff f9
    clear cg; have cg := cg9
    rw [r_numeral_f cg9, mbd_some]
    refine r_wrf cg ei (by show 8 + T.nc < 16; omega) (by decide) (by decide) (by unfold yRLn; omega) (fun M9 cg9 _ f9 => ?_)
    have ff := zfr_trans ff f9
    clear cg; have cg := cg9
    rw [fe, mbd_some, re, mbd_some]
    have f9 : zfr (fun k i => k = 215 ∧ i = 9) M9 (mup M9 215 9 (M9.1 215 9 + 1)) := zfr_mup ⟨rfl, rfl⟩
    exact zwp_ret ⟨zfr_trans ff (zfr_weak f9 (by unfold yRLn; omega)), Or.inl ⟨_, ea, cg.keep f9 (by omega) (by omega)⟩⟩
  · have ff := wk f2
    have ct2 := ct.rd f2 (by unfold yRv; omega)
    refine r_wrg cb2 ct2 ei (by show 8 + T.nc < 16; omega) (by decide) (by decide) (by unfold yRLn; omega) (by unfold yDeae; omega) (fun M3 cb3 ct3 w0 _ f3 => ?_)
    have ff := zfr_trans ff f3
    refine r_cell cb3 (fun f v M4 e cg f4 => ?_) (fun c q p2 M4 e1 hc4 cb4 f4 => ?_)
    · have ff := zfr_trans ff (wk f4)
      have ea : acloud b n T p = .inl f := by unfold acloud; rw [if_neg (by omega)]; rw [e0]; simp only; rw [e]
      refine r_wrf cg ei (by show 8 + T.nc < 16; omega) (by decide) (by decide) (by unfold yRLn; omega) (fun M9 cg9 _ f9 => ?_)
      have ff := zfr_trans ff f9
      clear cg; have cg := cg9
      rw [r_numeral_f cg9, mbd_some]
      refine r_wrf cg ei (by show 8 + T.nc < 16; omega) (by decide) (by decide) (by unfold yRLn; omega) (fun M9 cg9 _ f9 => ?_)
      have ff := zfr_trans ff f9
      clear cg; have cg := cg9
      rw [r_numeral_f cg9, mbd_some]
      refine r_wrf cg ei (by show 8 + T.nc < 16; omega) (by decide) (by decide) (by unfold yRLn; omega) (fun M9 cg9 _ f9 => ?_)
      have ff := zfr_trans ff f9
      clear cg; have cg := cg9
      rw [fe, mbd_some, re, mbd_some]
      have f9 : zfr (fun k i => k = 215 ∧ i = 9) M9 (mup M9 215 9 (M9.1 215 9 + 1)) := zfr_mup ⟨rfl, rfl⟩
      exact zwp_ret ⟨zfr_trans ff (zfr_weak f9 (by unfold yRLn; omega)), Or.inl ⟨_, ea, cg.keep f9 (by omega) (by omega)⟩⟩
    · have ff := zfr_trans ff (wk f4)
      have ct4 := ct3.rd f4 (by unfold yRv; omega)
      have w0 : M4.1 220 (8 + T.nc) = Int32.ofNat x := by rw [f4 _ _ (by unfold yRv; omega)]; exact w0
      refine r_wrg cb4 ct4 ei (by show 8 + T.nc < 16; omega) (by decide) (by decide) (by unfold yRLn; omega) (by unfold yDeae; omega) (fun M5 cb5 ct5 w1 g5 f5 => ?_)
      have ff := zfr_trans ff f5
      have w0 : M5.1 220 (8 + T.nc) = Int32.ofNat x := by rw [g5 _ _ (by omega)]; exact w0
      refine r_num cb5 (lo := 1) (hi := 9) (by decide) (by decide) (fun f M6 e cg f6 => ?_) (fun d0 p3 M6 n0 cb6 f6 => ?_)
      · have ff := zfr_trans ff (wk f6)
        have ea : acloud b n T p = .inl f := by unfold acloud; rw [if_neg (by omega)]; rw [e0]; simp only; rw [e1]; simp only; rw [e]
        refine r_wrf cg ei (by show 8 + T.nc < 16; omega) (by decide) (by decide) (by unfold yRLn; omega) (fun M9 cg9 _ f9 => ?_)
        have ff := zfr_trans ff f9
        clear cg; have cg := cg9
        rw [r_numeral_f cg9, mbd_some]
        refine r_wrf cg ei (by show 8 + T.nc < 16; omega) (by decide) (by decide) (by unfold yRLn; omega) (fun M9 cg9 _ f9 => ?_)
        have ff := zfr_trans ff f9
        clear cg; have cg := cg9
        rw [fe, mbd_some, re, mbd_some]
        have f9 : zfr (fun k i => k = 215 ∧ i = 9) M9 (mup M9 215 9 (M9.1 215 9 + 1)) := zfr_mup ⟨rfl, rfl⟩
        exact zwp_ret ⟨zfr_trans ff (zfr_weak f9 (by unfold yRLn; omega)), Or.inl ⟨_, ea, cg.keep f9 (by omega) (by omega)⟩⟩
      · have ff := zfr_trans ff (wk f6)
        have ct6 := ct5.rd f6 (by unfold yRv; omega)
        have w0 : M6.1 220 (8 + T.nc) = Int32.ofNat x := by rw [f6 _ _ (by unfold yRv; omega)]; exact w0
        have w1 : M6.1 221 (8 + T.nc) = Int32.ofNat c := by rw [f6 _ _ (by unfold yRv; omega)]; exact w1
        refine r_wrg cb6 ct6 ei (by show 8 + T.nc < 16; omega) (by decide) (by decide) (by unfold yRLn; omega) (by unfold yDeae; omega) (fun M7 cb7 ct7 w2 g7 f7 => ?_)
        have ff := zfr_trans ff f7
        have w0 : M7.1 220 (8 + T.nc) = Int32.ofNat x := by rw [g7 _ _ (by omega)]; exact w0
        have w1 : M7.1 221 (8 + T.nc) = Int32.ofNat c := by rw [g7 _ _ (by omega)]; exact w1
        refine r_num cb7 (lo := 0) (hi := 99) (by decide) (by decide) (fun f M8 e cg f8 => ?_) (fun d1 p4 M8 n1 cb8 f8 => ?_)
        · have ff := zfr_trans ff (wk f8)
          have ea : acloud b n T p = .inl f := by unfold acloud; rw [if_neg (by omega)]; rw [e0]; simp only; rw [e1]; simp only; rw [n0]; simp only; rw [e]
          refine r_wrf cg ei (by show 8 + T.nc < 16; omega) (by decide) (by decide) (by unfold yRLn; omega) (fun M9 cg9 _ f9 => ?_)
          have ff := zfr_trans ff f9
          clear cg; have cg := cg9
          rw [fe, mbd_some, re, mbd_some]
          have f9 : zfr (fun k i => k = 215 ∧ i = 9) M9 (mup M9 215 9 (M9.1 215 9 + 1)) := zfr_mup ⟨rfl, rfl⟩
          exact zwp_ret ⟨zfr_trans ff (zfr_weak f9 (by unfold yRLn; omega)), Or.inl ⟨_, ea, cg.keep f9 (by omega) (by omega)⟩⟩
        · have ff := zfr_trans ff (wk f8)
          have ct8 := ct7.rd f8 (by unfold yRv; omega)
          have w0 : M8.1 220 (8 + T.nc) = Int32.ofNat x := by rw [f8 _ _ (by unfold yRv; omega)]; exact w0
          have w1 : M8.1 221 (8 + T.nc) = Int32.ofNat c := by rw [f8 _ _ (by unfold yRv; omega)]; exact w1
          have w2 : M8.1 222 (8 + T.nc) = Int32.ofNat d0 := by rw [f8 _ _ (by unfold yRv; omega)]; exact w2
          refine r_wrg cb8 ct8 ei (by show 8 + T.nc < 16; omega) (by decide) (by decide) (by unfold yRLn; omega) (by unfold yDeae; omega) (fun M9 cb9 ct9 w3 g9 f9 => ?_)
          have ff := zfr_trans ff f9
          have w0 : M9.1 220 (8 + T.nc) = Int32.ofNat x := by rw [g9 _ _ (by omega)]; exact w0
          have w1 : M9.1 221 (8 + T.nc) = Int32.ofNat c := by rw [g9 _ _ (by omega)]; exact w1
          have w2 : M9.1 222 (8 + T.nc) = Int32.ofNat d0 := by rw [g9 _ _ (by omega)]; exact w2
          rw [fe, mbd_some, re, mbd_some, ct9.nc, yi_nn]
          have fz : zfr (fun k i => k = 215 ∧ i = 9) M9 (mup M9 215 9 (Int32.ofNat (T.nc + 1))) := zfr_mup ⟨rfl, rfl⟩
          exact zwp_ret ⟨zfr_trans ff (zfr_weak fz (by unfold yRLn; omega)), Or.inr ⟨_, _, by unfold acloud; rw [if_neg (by omega)]; rw [e0]; simp only; rw [e1]; simp only; rw [n0]; simp only; rw [n1], cb9.keep fz (by omega) (by rw [fz 213 27 (by omega)]; exact cb9.2.2.1) (cb9.2.2.2.keep fz (by omega)), ct9.addC w0 w1 w2 w3⟩⟩
end

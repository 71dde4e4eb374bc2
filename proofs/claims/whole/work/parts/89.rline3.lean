section
variable {M : zMem} {b : Nat → Nat} {n p : Nat} {T : yT} {la : Nat → Nat}
/-! the reference's other bodies but the law's -/
def rb_wind (M0 : zMem) : Option (Unit × zMem) :=
  mbd (m_X8_fresher 3 M0) (fun v95 M94 =>
  mbd (m_X8_numeral 0 4 M94) (fun v97 M96 =>
  zob (mwr M96 227 (12 + v95) v97) (fun M98 =>
  mbd (m_X8_fresher 3 M98) (fun v100 M99 =>
  mbd (m_X8_reads 3 (v100 + 1) M99) (fun v102 M101 =>
  some ((), M101))))))
theorem r_windB (h : yRG M b n (ynx b n p)) (ct : yRU M T la) (hc : T.nw < 12) : zwp (rb_wind M) (fun _ M' => yRp b n la (awind b n T p) M M') := by
  have wk : ∀ {M1 M2 : zMem}, zfr yRv M1 M2 → zfr yRLn M1 M2 := fun fr => zfr_weak fr (by unfold yRv yRLn; omega)
  have ei : (12 : Int32) + Int32.ofNat T.nw = Int32.ofNat (12 + T.nw) := by rw [show (12 : Int32) = Int32.ofNat 12 from rfl, ← Int32.ofNat_add]
  have fe : ∀ {M' : zMem}, m_X8_fresher 3 M' = some (M'.1 215 11, M') := r_fresher (a := 3) (by decide)
  have re : ∀ {M' : zMem} (v : Int32), m_X8_reads 3 v M' = some ((), mup M' 215 11 v) := r_reads (a := 3) (by decide)
  unfold rb_wind
  rw [fe, mbd_some, ct.nw]
  refine r_num h (lo := 0) (hi := 4) (by decide) (by decide) (fun f M2 e cg f2 => ?_) (fun d p3 M2 e cb2 f2 => ?_)
  · refine r_wrf cg ei (by show 12 + T.nw < 24; omega) (by decide) (by decide) (by unfold yRLn; omega) (fun M9 cg9 _ f9 => ?_)
    rw [fe, mbd_some, re, mbd_some]
    have f8 : zfr (fun k i => k = 215 ∧ i = 11) M9 (mup M9 215 11 (M9.1 215 11 + 1)) := zfr_mup ⟨rfl, rfl⟩
    exact zwp_ret ⟨zfr_trans (wk f2) (zfr_trans f9 (zfr_weak f8 (by unfold yRLn; omega))), Or.inl ⟨_, by unfold awind; rw [if_neg (by omega), e], cg9.keep f8 (by omega) (by omega)⟩⟩
  · refine r_wrg cb2 (ct.rd f2 (by unfold yRv; omega)) ei (by show 12 + T.nw < 24; omega) (by decide) (by decide) (by unfold yRLn; omega) (by unfold yDeae; omega) (fun M3 cb3 ct3 w0 _ f3 => ?_)
    rw [fe, mbd_some, re, mbd_some, ct3.nw, yi_nn]
    have fz : zfr (fun k i => k = 215 ∧ i = 11) M3 (mup M3 215 11 (Int32.ofNat (T.nw + 1))) := zfr_mup ⟨rfl, rfl⟩
    exact zwp_ret ⟨zfr_trans (wk f2) (zfr_trans f3 (zfr_weak fz (by unfold yRLn; omega))), Or.inr ⟨_, _, by unfold awind; rw [if_neg (by omega), e], cb3.keep fz (by omega) (by rw [fz 213 27 (by omega)]; exact cb3.2.2.1) (cb3.2.2.2.keep fz (by omega)), ct3.addW w0⟩⟩
/-- a number into one place: rain, most, seed -/
theorem r_oneB (h : yRG M b n (ynx b n p)) (ct : yRU M T la) {u k lo hi a : Nat} {F : Int32 → yT} (hl : lo ≤ 99999) (hh : hi ≤ 99999) (ha : a < 7) (hu : u.testBit k = false) (hF : ∀ {M' : zMem} {v : Int32}, yRU M' T la → yRU (mup M' 215 (8 + a) v) (F v) la) :
    zwp (mbd (m_X8_numeral (Int32.ofNat lo) (Int32.ofNat hi) M) (fun v104 M103 => mbd (m_X8_reads (Int32.ofNat a) v104 M103) (fun v106 M105 => some ((), M105)))) (fun _ M' => yRp b n la (aonce b n u k lo hi F p) M M') := by
  have wk : ∀ {M1 M2 : zMem}, zfr yRv M1 M2 → zfr yRLn M1 M2 := fun fr => zfr_weak fr (by unfold yRv yRLn; omega)
  have ea : ∀ {A : yLE (Nat × yT)}, (match anum b n lo hi (ynx b n p) with | .inl f => (.inl f : yLE (Nat × yT)) | .inr (d, p') => .inr (p', F (Int32.ofNat d))) = A → aonce b n u k lo hi F p = A := fun z => by unfold aonce; rw [if_neg (by rw [hu]; decide)]; exact z
  refine r_num h hl hh (fun f M2 e cg f2 => ?_) (fun d p3 M2 e cb2 f2 => ?_)
  · rw [r_reads (by omega), mbd_some]
    have fz : zfr (fun k i => k = 215 ∧ i = 8 + a) M2 (mup M2 215 (8 + a) (Int32.ofNat lo)) := zfr_mup ⟨rfl, rfl⟩
    exact zwp_ret ⟨zfr_trans (wk f2) (zfr_weak fz (by unfold yRLn; omega)), Or.inl ⟨f, ea (by rw [e]), cg.keep fz (by omega) (by omega)⟩⟩
  · rw [r_reads (by omega), mbd_some]
    have fz : zfr (fun k i => k = 215 ∧ i = 8 + a) M2 (mup M2 215 (8 + a) (Int32.ofNat d)) := zfr_mup ⟨rfl, rfl⟩
    exact zwp_ret ⟨zfr_trans (wk f2) (zfr_weak fz (by unfold yRLn; omega)), Or.inr ⟨p3, _, ea (by rw [e]), cb2.keep fz (by omega) (by rw [fz 213 27 (by omega)]; exact cb2.2.2.1) (cb2.2.2.2.keep fz (by omega)), hF (ct.rd f2 (by unfold yRv; omega))⟩⟩
end

/-! how a told grows -/
def yust {α : Type} (f : Nat → α) (k : Nat) (v : α) (i : Nat) : α := if i = k then v else f i
theorem yust_on {α : Type} {f : Nat → α} {k : Nat} {v : α} : yust f k v k = v := if_pos rfl
theorem yust_off {α : Type} {f : Nat → α} {k i : Nat} {v : α} (h : ¬ i = k) : yust f k v i = f i := if_neg h
def yDead (t : Nat) (T : yT) (k i : Nat) : Prop := k < t ∨ t + 16 < k ∨ (k = t ∧ (i < 13 ∨ 18 < i)) ∨ ((k = t + 2 ∨ k = t + 3 ∨ k = t + 4) ∧ T.nf ≤ i) ∨ ((k = t + 5 ∨ k = t + 6 ∨ k = t + 7 ∨ k = t + 8) ∧ T.nc ≤ i) ∨ ((k = t + 9 ∨ k = t + 10 ∨ k = t + 11) ∧ T.nh ≤ i) ∨ (k = t + 12 ∧ T.nw ≤ i) ∨ (k = t + 13 ∧ ¬ i = 5)
def yT.addF (T : yT) (vfname : Int32) (vfcell : Nat) (vneed : Int32) : yT := yT.mk T.nc T.nh (T.nf + 1) T.nw T.rain T.most T.knots T.ground (yust T.fname T.nf vfname) (yust T.fcell T.nf vfcell) (yust T.need T.nf vneed) T.cname T.ccell T.bsize T.bat T.hname T.hcell T.sight T.wind T.law
def yT.addC (T : yT) (vcname : Int32) (vccell : Nat) (vbsize : Int32) (vbat : Int32) : yT := yT.mk (T.nc + 1) T.nh T.nf T.nw T.rain T.most T.knots T.ground T.fname T.fcell T.need (yust T.cname T.nc vcname) (yust T.ccell T.nc vccell) (yust T.bsize T.nc vbsize) (yust T.bat T.nc vbat) T.hname T.hcell T.sight T.wind T.law
def yT.addH (T : yT) (vhname : Int32) (vhcell : Nat) (vsight : Int32) : yT := yT.mk T.nc (T.nh + 1) T.nf T.nw T.rain T.most T.knots T.ground T.fname T.fcell T.need T.cname T.ccell T.bsize T.bat (yust T.hname T.nh vhname) (yust T.hcell T.nh vhcell) (yust T.sight T.nh vsight) T.wind T.law
def yT.addW (T : yT) (vwind : Int32) : yT := yT.mk T.nc T.nh T.nf (T.nw + 1) T.rain T.most T.knots T.ground T.fname T.fcell T.need T.cname T.ccell T.bsize T.bat T.hname T.hcell T.sight (yust T.wind T.nw vwind) T.law
def yT.setR (T : yT) (v : Int32) : yT := yT.mk T.nc T.nh T.nf T.nw v T.most T.knots T.ground T.fname T.fcell T.need T.cname T.ccell T.bsize T.bat T.hname T.hcell T.sight T.wind T.law
def yT.setM (T : yT) (v : Int32) : yT := yT.mk T.nc T.nh T.nf T.nw T.rain v T.knots T.ground T.fname T.fcell T.need T.cname T.ccell T.bsize T.bat T.hname T.hcell T.sight T.wind T.law
def yT.setG (T : yT) (c : Nat) (v : Int32) : yT := yT.mk T.nc T.nh T.nf T.nw T.rain T.most T.knots (yust T.ground c v) T.fname T.fcell T.need T.cname T.ccell T.bsize T.bat T.hname T.hcell T.sight T.wind T.law
section
variable {M M' : zMem} {t : Nat} {T : yT}
theorem yCT.keepD {P : Nat → Nat → Prop} (ct : yCT M t T) (fr : zfr P M M') (hP : ∀ k i, P k i → yDead t T k i) : yCT M' t T := by
  have dd : ∀ k i, ¬ yDead t T k i → M'.1 k i = M.1 k i := fun k i h => fr k i (fun z => h (hP k i z))
  refine ⟨ct.tt, ?_, ?_, ?_, ?_, ?_, ?_, ?_, ?_, ?_, ?_, ?_, ?_, ?_, ?_, ?_, ?_, ?_, ?_, ?_, ?_⟩
  · rw [dd t 13 (by unfold yDead; omega)]; exact ct.nf
  · rw [dd t 14 (by unfold yDead; omega)]; exact ct.nc
  · rw [dd t 15 (by unfold yDead; omega)]; exact ct.nh
  · rw [dd t 16 (by unfold yDead; omega)]; exact ct.nw
  · rw [dd t 17 (by unfold yDead; omega)]; exact ct.rain
  · rw [dd t 18 (by unfold yDead; omega)]; exact ct.most
  · rw [dd (t + 13) 5 (by unfold yDead; omega)]; exact ct.knots
  · intro i hi; rw [dd (t + 1) i (by unfold yDead; omega)]; exact ct.ground i hi
  · intro i hi; rw [dd (t + 2) i (by unfold yDead; omega)]; exact ct.fname i hi
  · intro i hi; rw [dd (t + 3) i (by unfold yDead; omega)]; exact ct.fcell i hi
  · intro i hi; rw [dd (t + 4) i (by unfold yDead; omega)]; exact ct.need i hi
  · intro i hi; rw [dd (t + 5) i (by unfold yDead; omega)]; exact ct.cname i hi
  · intro i hi; rw [dd (t + 6) i (by unfold yDead; omega)]; exact ct.ccell i hi
  · intro i hi; rw [dd (t + 7) i (by unfold yDead; omega)]; exact ct.bsize i hi
  · intro i hi; rw [dd (t + 8) i (by unfold yDead; omega)]; exact ct.bat i hi
  · intro i hi; rw [dd (t + 9) i (by unfold yDead; omega)]; exact ct.hname i hi
  · intro i hi; rw [dd (t + 10) i (by unfold yDead; omega)]; exact ct.hcell i hi
  · intro i hi; rw [dd (t + 11) i (by unfold yDead; omega)]; exact ct.sight i hi
  · intro i hi; rw [dd (t + 12) i (by unfold yDead; omega)]; exact ct.wind i hi
  · intro k hk
    obtain ⟨a, h1, h2, h3, h4⟩ := ct.law k hk
    exact ⟨a, h1, by rw [dd _ _ (by unfold yDead; omega)]; exact h2, by rw [dd _ _ (by unfold yDead; omega)]; exact h3, fun j hj => by rw [dd _ _ (by unfold yDead; omega)]; exact h4 j hj⟩
theorem yCT.addF (ct : yCT M t T) {vfname : Int32} {vfcell : Nat} {vneed : Int32} (efname : M.1 (t + 2) T.nf = vfname) (efcell : M.1 (t + 3) T.nf = Int32.ofNat vfcell) (eneed : M.1 (t + 4) T.nf = vneed) : yCT (mup M t 13 (Int32.ofNat (T.nf + 1))) t (T.addF vfname vfcell vneed) := by
  refine ⟨ct.tt, ?_, ?_, ?_, ?_, ?_, ?_, ?_, ?_, ?_, ?_, ?_, ?_, ?_, ?_, ?_, ?_, ?_, ?_, ?_, ?_⟩
  · exact mup_on
  · rw [mup_off' (by decide)]; exact ct.nc
  · rw [mup_off' (by decide)]; exact ct.nh
  · rw [mup_off' (by decide)]; exact ct.nw
  · rw [mup_off' (by decide)]; exact ct.rain
  · rw [mup_off' (by decide)]; exact ct.most
  · rw [mup_off (by omega)]; exact ct.knots
  · intro i hi; rw [mup_off (by omega)]; exact ct.ground i hi
  · intro i hi
    have hi : i < T.nf + 1 := hi
    rw [mup_off (by omega)]
    show M.1 (t + 2) i = yust T.fname T.nf vfname i
    by_cases z : i = T.nf
    · rw [z, yust_on]; exact efname
    · rw [yust_off z]; exact ct.fname i (by omega)
  · intro i hi
    have hi : i < T.nf + 1 := hi
    rw [mup_off (by omega)]
    show M.1 (t + 3) i = Int32.ofNat (yust T.fcell T.nf vfcell i)
    by_cases z : i = T.nf
    · rw [z, yust_on]; exact efcell
    · rw [yust_off z]; exact ct.fcell i (by omega)
  · intro i hi
    have hi : i < T.nf + 1 := hi
    rw [mup_off (by omega)]
    show M.1 (t + 4) i = yust T.need T.nf vneed i
    by_cases z : i = T.nf
    · rw [z, yust_on]; exact eneed
    · rw [yust_off z]; exact ct.need i (by omega)
  · intro i hi; rw [mup_off (by omega)]; exact ct.cname i hi
  · intro i hi; rw [mup_off (by omega)]; exact ct.ccell i hi
  · intro i hi; rw [mup_off (by omega)]; exact ct.bsize i hi
  · intro i hi; rw [mup_off (by omega)]; exact ct.bat i hi
  · intro i hi; rw [mup_off (by omega)]; exact ct.hname i hi
  · intro i hi; rw [mup_off (by omega)]; exact ct.hcell i hi
  · intro i hi; rw [mup_off (by omega)]; exact ct.sight i hi
  · intro i hi; rw [mup_off (by omega)]; exact ct.wind i hi
  · intro k hk
    obtain ⟨a, h1, h2, h3, h4⟩ := ct.law k hk
    exact ⟨a, h1, by rw [mup_off (by omega)]; exact h2, by rw [mup_off (by omega)]; exact h3, fun j hj => by rw [mup_off (by omega)]; exact h4 j hj⟩
theorem yCT.addC (ct : yCT M t T) {vcname : Int32} {vccell : Nat} {vbsize : Int32} {vbat : Int32} (ecname : M.1 (t + 5) T.nc = vcname) (eccell : M.1 (t + 6) T.nc = Int32.ofNat vccell) (ebsize : M.1 (t + 7) T.nc = vbsize) (ebat : M.1 (t + 8) T.nc = vbat) : yCT (mup M t 14 (Int32.ofNat (T.nc + 1))) t (T.addC vcname vccell vbsize vbat) := by
  refine ⟨ct.tt, ?_, ?_, ?_, ?_, ?_, ?_, ?_, ?_, ?_, ?_, ?_, ?_, ?_, ?_, ?_, ?_, ?_, ?_, ?_, ?_⟩
  · rw [mup_off' (by decide)]; exact ct.nf
  · exact mup_on
  · rw [mup_off' (by decide)]; exact ct.nh
  · rw [mup_off' (by decide)]; exact ct.nw
  · rw [mup_off' (by decide)]; exact ct.rain
  · rw [mup_off' (by decide)]; exact ct.most
  · rw [mup_off (by omega)]; exact ct.knots
  · intro i hi; rw [mup_off (by omega)]; exact ct.ground i hi
  · intro i hi; rw [mup_off (by omega)]; exact ct.fname i hi
  · intro i hi; rw [mup_off (by omega)]; exact ct.fcell i hi
  · intro i hi; rw [mup_off (by omega)]; exact ct.need i hi
  · intro i hi
    have hi : i < T.nc + 1 := hi
    rw [mup_off (by omega)]
    show M.1 (t + 5) i = yust T.cname T.nc vcname i
    by_cases z : i = T.nc
    · rw [z, yust_on]; exact ecname
    · rw [yust_off z]; exact ct.cname i (by omega)
  · intro i hi
    have hi : i < T.nc + 1 := hi
    rw [mup_off (by omega)]
    show M.1 (t + 6) i = Int32.ofNat (yust T.ccell T.nc vccell i)
    by_cases z : i = T.nc
    · rw [z, yust_on]; exact eccell
    · rw [yust_off z]; exact ct.ccell i (by omega)
  · intro i hi
    have hi : i < T.nc + 1 := hi
    rw [mup_off (by omega)]
    show M.1 (t + 7) i = yust T.bsize T.nc vbsize i
    by_cases z : i = T.nc
    · rw [z, yust_on]; exact ebsize
    · rw [yust_off z]; exact ct.bsize i (by omega)
  · intro i hi
    have hi : i < T.nc + 1 := hi
    rw [mup_off (by omega)]
    show M.1 (t + 8) i = yust T.bat T.nc vbat i
    by_cases z : i = T.nc
    · rw [z, yust_on]; exact ebat
    · rw [yust_off z]; exact ct.bat i (by omega)
  · intro i hi; rw [mup_off (by omega)]; exact ct.hname i hi
  · intro i hi; rw [mup_off (by omega)]; exact ct.hcell i hi
  · intro i hi; rw [mup_off (by omega)]; exact ct.sight i hi
  · intro i hi; rw [mup_off (by omega)]; exact ct.wind i hi
  · intro k hk
    obtain ⟨a, h1, h2, h3, h4⟩ := ct.law k hk
    exact ⟨a, h1, by rw [mup_off (by omega)]; exact h2, by rw [mup_off (by omega)]; exact h3, fun j hj => by rw [mup_off (by omega)]; exact h4 j hj⟩
theorem yCT.addH (ct : yCT M t T) {vhname : Int32} {vhcell : Nat} {vsight : Int32} (ehname : M.1 (t + 9) T.nh = vhname) (ehcell : M.1 (t + 10) T.nh = Int32.ofNat vhcell) (esight : M.1 (t + 11) T.nh = vsight) : yCT (mup M t 15 (Int32.ofNat (T.nh + 1))) t (T.addH vhname vhcell vsight) := by
  refine ⟨ct.tt, ?_, ?_, ?_, ?_, ?_, ?_, ?_, ?_, ?_, ?_, ?_, ?_, ?_, ?_, ?_, ?_, ?_, ?_, ?_, ?_⟩
  · rw [mup_off' (by decide)]; exact ct.nf
  · rw [mup_off' (by decide)]; exact ct.nc
  · exact mup_on
  · rw [mup_off' (by decide)]; exact ct.nw
  · rw [mup_off' (by decide)]; exact ct.rain
  · rw [mup_off' (by decide)]; exact ct.most
  · rw [mup_off (by omega)]; exact ct.knots
  · intro i hi; rw [mup_off (by omega)]; exact ct.ground i hi
  · intro i hi; rw [mup_off (by omega)]; exact ct.fname i hi
  · intro i hi; rw [mup_off (by omega)]; exact ct.fcell i hi
  · intro i hi; rw [mup_off (by omega)]; exact ct.need i hi
  · intro i hi; rw [mup_off (by omega)]; exact ct.cname i hi
  · intro i hi; rw [mup_off (by omega)]; exact ct.ccell i hi
  · intro i hi; rw [mup_off (by omega)]; exact ct.bsize i hi
  · intro i hi; rw [mup_off (by omega)]; exact ct.bat i hi
  · intro i hi
    have hi : i < T.nh + 1 := hi
    rw [mup_off (by omega)]
    show M.1 (t + 9) i = yust T.hname T.nh vhname i
    by_cases z : i = T.nh
    · rw [z, yust_on]; exact ehname
    · rw [yust_off z]; exact ct.hname i (by omega)
  · intro i hi
    have hi : i < T.nh + 1 := hi
    rw [mup_off (by omega)]
    show M.1 (t + 10) i = Int32.ofNat (yust T.hcell T.nh vhcell i)
    by_cases z : i = T.nh
    · rw [z, yust_on]; exact ehcell
    · rw [yust_off z]; exact ct.hcell i (by omega)
  · intro i hi
    have hi : i < T.nh + 1 := hi
    rw [mup_off (by omega)]
    show M.1 (t + 11) i = yust T.sight T.nh vsight i
    by_cases z : i = T.nh
    · rw [z, yust_on]; exact esight
    · rw [yust_off z]; exact ct.sight i (by omega)
  · intro i hi; rw [mup_off (by omega)]; exact ct.wind i hi
  · intro k hk
    obtain ⟨a, h1, h2, h3, h4⟩ := ct.law k hk
    exact ⟨a, h1, by rw [mup_off (by omega)]; exact h2, by rw [mup_off (by omega)]; exact h3, fun j hj => by rw [mup_off (by omega)]; exact h4 j hj⟩
theorem yCT.addW (ct : yCT M t T) {vwind : Int32} (ewind : M.1 (t + 12) T.nw = vwind) : yCT (mup M t 16 (Int32.ofNat (T.nw + 1))) t (T.addW vwind) := by
  refine ⟨ct.tt, ?_, ?_, ?_, ?_, ?_, ?_, ?_, ?_, ?_, ?_, ?_, ?_, ?_, ?_, ?_, ?_, ?_, ?_, ?_, ?_⟩
  · rw [mup_off' (by decide)]; exact ct.nf
  · rw [mup_off' (by decide)]; exact ct.nc
  · rw [mup_off' (by decide)]; exact ct.nh
  · exact mup_on
  · rw [mup_off' (by decide)]; exact ct.rain
  · rw [mup_off' (by decide)]; exact ct.most
  · rw [mup_off (by omega)]; exact ct.knots
  · intro i hi; rw [mup_off (by omega)]; exact ct.ground i hi
  · intro i hi; rw [mup_off (by omega)]; exact ct.fname i hi
  · intro i hi; rw [mup_off (by omega)]; exact ct.fcell i hi
  · intro i hi; rw [mup_off (by omega)]; exact ct.need i hi
  · intro i hi; rw [mup_off (by omega)]; exact ct.cname i hi
  · intro i hi; rw [mup_off (by omega)]; exact ct.ccell i hi
  · intro i hi; rw [mup_off (by omega)]; exact ct.bsize i hi
  · intro i hi; rw [mup_off (by omega)]; exact ct.bat i hi
  · intro i hi; rw [mup_off (by omega)]; exact ct.hname i hi
  · intro i hi; rw [mup_off (by omega)]; exact ct.hcell i hi
  · intro i hi; rw [mup_off (by omega)]; exact ct.sight i hi
  · intro i hi
    have hi : i < T.nw + 1 := hi
    rw [mup_off (by omega)]
    show M.1 (t + 12) i = yust T.wind T.nw vwind i
    by_cases z : i = T.nw
    · rw [z, yust_on]; exact ewind
    · rw [yust_off z]; exact ct.wind i (by omega)
  · intro k hk
    obtain ⟨a, h1, h2, h3, h4⟩ := ct.law k hk
    exact ⟨a, h1, by rw [mup_off (by omega)]; exact h2, by rw [mup_off (by omega)]; exact h3, fun j hj => by rw [mup_off (by omega)]; exact h4 j hj⟩
theorem yCT.setR (ct : yCT M t T) {v : Int32} : yCT (mup M t 17 v) t (T.setR v) := by
  refine ⟨ct.tt, ?_, ?_, ?_, ?_, ?_, ?_, ?_, ?_, ?_, ?_, ?_, ?_, ?_, ?_, ?_, ?_, ?_, ?_, ?_, ?_⟩
  · rw [mup_off' (by decide)]; exact ct.nf
  · rw [mup_off' (by decide)]; exact ct.nc
  · rw [mup_off' (by decide)]; exact ct.nh
  · rw [mup_off' (by decide)]; exact ct.nw
  · exact mup_on
  · rw [mup_off' (by decide)]; exact ct.most
  · rw [mup_off (by omega)]; exact ct.knots
  · intro i hi; rw [mup_off (by omega)]; exact ct.ground i hi
  · intro i hi; rw [mup_off (by omega)]; exact ct.fname i hi
  · intro i hi; rw [mup_off (by omega)]; exact ct.fcell i hi
  · intro i hi; rw [mup_off (by omega)]; exact ct.need i hi
  · intro i hi; rw [mup_off (by omega)]; exact ct.cname i hi
  · intro i hi; rw [mup_off (by omega)]; exact ct.ccell i hi
  · intro i hi; rw [mup_off (by omega)]; exact ct.bsize i hi
  · intro i hi; rw [mup_off (by omega)]; exact ct.bat i hi
  · intro i hi; rw [mup_off (by omega)]; exact ct.hname i hi
  · intro i hi; rw [mup_off (by omega)]; exact ct.hcell i hi
  · intro i hi; rw [mup_off (by omega)]; exact ct.sight i hi
  · intro i hi; rw [mup_off (by omega)]; exact ct.wind i hi
  · intro k hk
    obtain ⟨a, h1, h2, h3, h4⟩ := ct.law k hk
    exact ⟨a, h1, by rw [mup_off (by omega)]; exact h2, by rw [mup_off (by omega)]; exact h3, fun j hj => by rw [mup_off (by omega)]; exact h4 j hj⟩
theorem yCT.setM (ct : yCT M t T) {v : Int32} : yCT (mup M t 18 v) t (T.setM v) := by
  refine ⟨ct.tt, ?_, ?_, ?_, ?_, ?_, ?_, ?_, ?_, ?_, ?_, ?_, ?_, ?_, ?_, ?_, ?_, ?_, ?_, ?_, ?_⟩
  · rw [mup_off' (by decide)]; exact ct.nf
  · rw [mup_off' (by decide)]; exact ct.nc
  · rw [mup_off' (by decide)]; exact ct.nh
  · rw [mup_off' (by decide)]; exact ct.nw
  · rw [mup_off' (by decide)]; exact ct.rain
  · exact mup_on
  · rw [mup_off (by omega)]; exact ct.knots
  · intro i hi; rw [mup_off (by omega)]; exact ct.ground i hi
  · intro i hi; rw [mup_off (by omega)]; exact ct.fname i hi
  · intro i hi; rw [mup_off (by omega)]; exact ct.fcell i hi
  · intro i hi; rw [mup_off (by omega)]; exact ct.need i hi
  · intro i hi; rw [mup_off (by omega)]; exact ct.cname i hi
  · intro i hi; rw [mup_off (by omega)]; exact ct.ccell i hi
  · intro i hi; rw [mup_off (by omega)]; exact ct.bsize i hi
  · intro i hi; rw [mup_off (by omega)]; exact ct.bat i hi
  · intro i hi; rw [mup_off (by omega)]; exact ct.hname i hi
  · intro i hi; rw [mup_off (by omega)]; exact ct.hcell i hi
  · intro i hi; rw [mup_off (by omega)]; exact ct.sight i hi
  · intro i hi; rw [mup_off (by omega)]; exact ct.wind i hi
  · intro k hk
    obtain ⟨a, h1, h2, h3, h4⟩ := ct.law k hk
    exact ⟨a, h1, by rw [mup_off (by omega)]; exact h2, by rw [mup_off (by omega)]; exact h3, fun j hj => by rw [mup_off (by omega)]; exact h4 j hj⟩
theorem yCT.setG (ct : yCT M t T) {v : Int32} {c : Nat} : yCT (mup M (t + 1) c v) t (T.setG c v) := by
  refine ⟨ct.tt, ?_, ?_, ?_, ?_, ?_, ?_, ?_, ?_, ?_, ?_, ?_, ?_, ?_, ?_, ?_, ?_, ?_, ?_, ?_, ?_⟩
  · rw [mup_off (by omega)]; exact ct.nf
  · rw [mup_off (by omega)]; exact ct.nc
  · rw [mup_off (by omega)]; exact ct.nh
  · rw [mup_off (by omega)]; exact ct.nw
  · rw [mup_off (by omega)]; exact ct.rain
  · rw [mup_off (by omega)]; exact ct.most
  · rw [mup_off (by omega)]; exact ct.knots
  · intro i hi
    show _ = yust T.ground c v i
    by_cases z : i = c
    · rw [z, yust_on, mup_on]
    · rw [yust_off z, mup_off' z]; exact ct.ground i hi
  · intro i hi; rw [mup_off (by omega)]; exact ct.fname i hi
  · intro i hi; rw [mup_off (by omega)]; exact ct.fcell i hi
  · intro i hi; rw [mup_off (by omega)]; exact ct.need i hi
  · intro i hi; rw [mup_off (by omega)]; exact ct.cname i hi
  · intro i hi; rw [mup_off (by omega)]; exact ct.ccell i hi
  · intro i hi; rw [mup_off (by omega)]; exact ct.bsize i hi
  · intro i hi; rw [mup_off (by omega)]; exact ct.bat i hi
  · intro i hi; rw [mup_off (by omega)]; exact ct.hname i hi
  · intro i hi; rw [mup_off (by omega)]; exact ct.hcell i hi
  · intro i hi; rw [mup_off (by omega)]; exact ct.sight i hi
  · intro i hi; rw [mup_off (by omega)]; exact ct.wind i hi
  · intro k hk
    obtain ⟨a, h1, h2, h3, h4⟩ := ct.law k hk
    exact ⟨a, h1, by rw [mup_off (by omega)]; exact h2, by rw [mup_off (by omega)]; exact h3, fun j hj => by rw [mup_off (by omega)]; exact h4 j hj⟩
end

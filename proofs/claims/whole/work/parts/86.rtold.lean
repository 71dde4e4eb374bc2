/-! the reference's told that is being read -/
def yRU (M : zMem) (T : yT) (la : Nat → Nat) : Prop :=
  (M.1 215 8 = Int32.ofNat T.nf) ∧
  (M.1 215 9 = Int32.ofNat T.nc) ∧
  (M.1 215 10 = Int32.ofNat T.nh) ∧
  (M.1 215 11 = Int32.ofNat T.nw) ∧
  (M.1 215 12 = T.rain) ∧
  (M.1 215 13 = T.most) ∧
  (M.1 215 15 = T.knots) ∧
  (∀ i, i < 24 → M.1 216 (24 + i) = T.ground i) ∧
  (∀ i, i < T.nf → M.1 217 (5 + i) = T.fname i) ∧
  (∀ i, i < T.nf → M.1 218 (5 + i) = Int32.ofNat (T.fcell i)) ∧
  (∀ i, i < T.nf → M.1 219 (5 + i) = T.need i) ∧
  (∀ i, i < T.nc → M.1 220 (8 + i) = T.cname i) ∧
  (∀ i, i < T.nc → M.1 221 (8 + i) = Int32.ofNat (T.ccell i)) ∧
  (∀ i, i < T.nc → M.1 222 (8 + i) = T.bsize i) ∧
  (∀ i, i < T.nc → M.1 223 (8 + i) = T.bat i) ∧
  (∀ i, i < T.nh → M.1 224 (6 + i) = T.hname i) ∧
  (∀ i, i < T.nh → M.1 225 (6 + i) = Int32.ofNat (T.hcell i)) ∧
  (∀ i, i < T.nh → M.1 226 (6 + i) = T.sight i) ∧
  (∀ i, i < T.nw → M.1 227 (12 + i) = T.wind i) ∧
  (∀ k, k < 3 → M.1 228 (3 + k) = Int32.ofNat (la k) ∧ M.1 229 (3 + k) = Int32.ofNat (la k + (T.law k).length) ∧ ∀ j, (hj : j < (T.law k).length) → M.1 230 (64 + la k + j) = yKs ((T.law k)[j]) ∧ M.1 231 (64 + la k + j) = yKv ((T.law k)[j]))
section
variable {M M' : zMem} {T : yT} {la : Nat → Nat}
theorem yRU.nf (h : yRU M T la) : (M.1 215 8 = Int32.ofNat T.nf) := h.1
theorem yRU.nc (h : yRU M T la) : (M.1 215 9 = Int32.ofNat T.nc) := h.2.1
theorem yRU.nh (h : yRU M T la) : (M.1 215 10 = Int32.ofNat T.nh) := h.2.2.1
theorem yRU.nw (h : yRU M T la) : (M.1 215 11 = Int32.ofNat T.nw) := h.2.2.2.1
theorem yRU.rain (h : yRU M T la) : (M.1 215 12 = T.rain) := h.2.2.2.2.1
theorem yRU.most (h : yRU M T la) : (M.1 215 13 = T.most) := h.2.2.2.2.2.1
theorem yRU.knots (h : yRU M T la) : (M.1 215 15 = T.knots) := h.2.2.2.2.2.2.1
theorem yRU.ground (h : yRU M T la) : (∀ i, i < 24 → M.1 216 (24 + i) = T.ground i) := h.2.2.2.2.2.2.2.1
theorem yRU.fname (h : yRU M T la) : (∀ i, i < T.nf → M.1 217 (5 + i) = T.fname i) := h.2.2.2.2.2.2.2.2.1
theorem yRU.fcell (h : yRU M T la) : (∀ i, i < T.nf → M.1 218 (5 + i) = Int32.ofNat (T.fcell i)) := h.2.2.2.2.2.2.2.2.2.1
theorem yRU.need (h : yRU M T la) : (∀ i, i < T.nf → M.1 219 (5 + i) = T.need i) := h.2.2.2.2.2.2.2.2.2.2.1
theorem yRU.cname (h : yRU M T la) : (∀ i, i < T.nc → M.1 220 (8 + i) = T.cname i) := h.2.2.2.2.2.2.2.2.2.2.2.1
theorem yRU.ccell (h : yRU M T la) : (∀ i, i < T.nc → M.1 221 (8 + i) = Int32.ofNat (T.ccell i)) := h.2.2.2.2.2.2.2.2.2.2.2.2.1
theorem yRU.bsize (h : yRU M T la) : (∀ i, i < T.nc → M.1 222 (8 + i) = T.bsize i) := h.2.2.2.2.2.2.2.2.2.2.2.2.2.1
theorem yRU.bat (h : yRU M T la) : (∀ i, i < T.nc → M.1 223 (8 + i) = T.bat i) := h.2.2.2.2.2.2.2.2.2.2.2.2.2.2.1
theorem yRU.hname (h : yRU M T la) : (∀ i, i < T.nh → M.1 224 (6 + i) = T.hname i) := h.2.2.2.2.2.2.2.2.2.2.2.2.2.2.2.1
theorem yRU.hcell (h : yRU M T la) : (∀ i, i < T.nh → M.1 225 (6 + i) = Int32.ofNat (T.hcell i)) := h.2.2.2.2.2.2.2.2.2.2.2.2.2.2.2.2.1
theorem yRU.sight (h : yRU M T la) : (∀ i, i < T.nh → M.1 226 (6 + i) = T.sight i) := h.2.2.2.2.2.2.2.2.2.2.2.2.2.2.2.2.2.1
theorem yRU.wind (h : yRU M T la) : (∀ i, i < T.nw → M.1 227 (12 + i) = T.wind i) := h.2.2.2.2.2.2.2.2.2.2.2.2.2.2.2.2.2.2.1
theorem yRU.law (h : yRU M T la) : (∀ k, k < 3 → M.1 228 (3 + k) = Int32.ofNat (la k) ∧ M.1 229 (3 + k) = Int32.ofNat (la k + (T.law k).length) ∧ ∀ j, (hj : j < (T.law k).length) → M.1 230 (64 + la k + j) = yKs ((T.law k)[j]) ∧ M.1 231 (64 + la k + j) = yKv ((T.law k)[j])) := h.2.2.2.2.2.2.2.2.2.2.2.2.2.2.2.2.2.2.2
def yDeae (T : yT) (k i : Nat) : Prop := k < 215 ∨ 231 < k ∨ (k = 215 ∧ (i < 8 ∨ i = 14 ∨ 15 < i)) ∨ (k = 216 ∧ i < 24) ∨ ((k = 217 ∨ k = 218 ∨ k = 219) ∧ (i < 5 ∨ 5 + T.nf ≤ i)) ∨ ((k = 220 ∨ k = 221 ∨ k = 222 ∨ k = 223) ∧ (i < 8 ∨ 8 + T.nc ≤ i)) ∨ ((k = 224 ∨ k = 225 ∨ k = 226) ∧ (i < 6 ∨ 6 + T.nh ≤ i)) ∨ (k = 227 ∧ (i < 12 ∨ 12 + T.nw ≤ i))
theorem yRU.keepD {P : Nat → Nat → Prop} (ct : yRU M T la) (fr : zfr P M M') (hP : ∀ k i, P k i → yDeae T k i) : yRU M' T la := by
  have dd : ∀ k i, ¬ yDeae T k i → M'.1 k i = M.1 k i := fun k i h => fr k i (fun z => h (hP k i z))
  refine ⟨?_, ?_, ?_, ?_, ?_, ?_, ?_, ?_, ?_, ?_, ?_, ?_, ?_, ?_, ?_, ?_, ?_, ?_, ?_, ?_⟩
  · rw [dd 215 8 (by unfold yDeae; omega)]; exact ct.nf
  · rw [dd 215 9 (by unfold yDeae; omega)]; exact ct.nc
  · rw [dd 215 10 (by unfold yDeae; omega)]; exact ct.nh
  · rw [dd 215 11 (by unfold yDeae; omega)]; exact ct.nw
  · rw [dd 215 12 (by unfold yDeae; omega)]; exact ct.rain
  · rw [dd 215 13 (by unfold yDeae; omega)]; exact ct.most
  · rw [dd 215 15 (by unfold yDeae; omega)]; exact ct.knots
  · intro i hi; rw [dd 216 _ (by unfold yDeae; omega)]; exact ct.ground i hi
  · intro i hi; rw [dd 217 _ (by unfold yDeae; omega)]; exact ct.fname i hi
  · intro i hi; rw [dd 218 _ (by unfold yDeae; omega)]; exact ct.fcell i hi
  · intro i hi; rw [dd 219 _ (by unfold yDeae; omega)]; exact ct.need i hi
  · intro i hi; rw [dd 220 _ (by unfold yDeae; omega)]; exact ct.cname i hi
  · intro i hi; rw [dd 221 _ (by unfold yDeae; omega)]; exact ct.ccell i hi
  · intro i hi; rw [dd 222 _ (by unfold yDeae; omega)]; exact ct.bsize i hi
  · intro i hi; rw [dd 223 _ (by unfold yDeae; omega)]; exact ct.bat i hi
  · intro i hi; rw [dd 224 _ (by unfold yDeae; omega)]; exact ct.hname i hi
  · intro i hi; rw [dd 225 _ (by unfold yDeae; omega)]; exact ct.hcell i hi
  · intro i hi; rw [dd 226 _ (by unfold yDeae; omega)]; exact ct.sight i hi
  · intro i hi; rw [dd 227 _ (by unfold yDeae; omega)]; exact ct.wind i hi
  · intro k hk
    obtain ⟨h2, h3, h4⟩ := ct.law k hk
    exact ⟨by rw [dd _ _ (by unfold yDeae; omega)]; exact h2, by rw [dd _ _ (by unfold yDeae; omega)]; exact h3, fun j hj => by rw [dd _ _ (by unfold yDeae; omega), dd _ _ (by unfold yDeae; omega)]; exact h4 j hj⟩
theorem yRU.addF (ct : yRU M T la) {vfname : Int32} {vfcell : Nat} {vneed : Int32} (efname : M.1 217 (5 + T.nf) = vfname) (efcell : M.1 218 (5 + T.nf) = Int32.ofNat vfcell) (eneed : M.1 219 (5 + T.nf) = vneed) : yRU (mup M 215 8 (Int32.ofNat (T.nf + 1))) (T.addF vfname vfcell vneed) la := by
  refine ⟨?_, ?_, ?_, ?_, ?_, ?_, ?_, ?_, ?_, ?_, ?_, ?_, ?_, ?_, ?_, ?_, ?_, ?_, ?_, ?_⟩
  · exact mup_on
  · rw [mup_off' (by decide)]; exact ct.nc
  · rw [mup_off' (by decide)]; exact ct.nh
  · rw [mup_off' (by decide)]; exact ct.nw
  · rw [mup_off' (by decide)]; exact ct.rain
  · rw [mup_off' (by decide)]; exact ct.most
  · rw [mup_off' (by decide)]; exact ct.knots
  · intro i hi; rw [mup_off (by decide)]; exact ct.ground i hi
  · intro i hi
    have hi : i < T.nf + 1 := hi
    rw [mup_off (by decide)]
    show M.1 217 (5 + i) = yust T.fname T.nf vfname i
    by_cases z : i = T.nf
    · rw [z, yust_on]; exact efname
    · rw [yust_off z]; exact ct.fname i (by omega)
  · intro i hi
    have hi : i < T.nf + 1 := hi
    rw [mup_off (by decide)]
    show M.1 218 (5 + i) = Int32.ofNat (yust T.fcell T.nf vfcell i)
    by_cases z : i = T.nf
    · rw [z, yust_on]; exact efcell
    · rw [yust_off z]; exact ct.fcell i (by omega)
  · intro i hi
    have hi : i < T.nf + 1 := hi
    rw [mup_off (by decide)]
    show M.1 219 (5 + i) = yust T.need T.nf vneed i
    by_cases z : i = T.nf
    · rw [z, yust_on]; exact eneed
    · rw [yust_off z]; exact ct.need i (by omega)
  · intro i hi; rw [mup_off (by decide)]; exact ct.cname i hi
  · intro i hi; rw [mup_off (by decide)]; exact ct.ccell i hi
  · intro i hi; rw [mup_off (by decide)]; exact ct.bsize i hi
  · intro i hi; rw [mup_off (by decide)]; exact ct.bat i hi
  · intro i hi; rw [mup_off (by decide)]; exact ct.hname i hi
  · intro i hi; rw [mup_off (by decide)]; exact ct.hcell i hi
  · intro i hi; rw [mup_off (by decide)]; exact ct.sight i hi
  · intro i hi; rw [mup_off (by decide)]; exact ct.wind i hi
  · intro k hk
    obtain ⟨h2, h3, h4⟩ := ct.law k hk
    exact ⟨by rw [mup_off (by decide)]; exact h2, by rw [mup_off (by decide)]; exact h3, fun j hj => by rw [mup_off (by decide), mup_off (by decide)]; exact h4 j hj⟩
theorem yRU.addC (ct : yRU M T la) {vcname : Int32} {vccell : Nat} {vbsize : Int32} {vbat : Int32} (ecname : M.1 220 (8 + T.nc) = vcname) (eccell : M.1 221 (8 + T.nc) = Int32.ofNat vccell) (ebsize : M.1 222 (8 + T.nc) = vbsize) (ebat : M.1 223 (8 + T.nc) = vbat) : yRU (mup M 215 9 (Int32.ofNat (T.nc + 1))) (T.addC vcname vccell vbsize vbat) la := by
  refine ⟨?_, ?_, ?_, ?_, ?_, ?_, ?_, ?_, ?_, ?_, ?_, ?_, ?_, ?_, ?_, ?_, ?_, ?_, ?_, ?_⟩
  · rw [mup_off' (by decide)]; exact ct.nf
  · exact mup_on
  · rw [mup_off' (by decide)]; exact ct.nh
  · rw [mup_off' (by decide)]; exact ct.nw
  · rw [mup_off' (by decide)]; exact ct.rain
  · rw [mup_off' (by decide)]; exact ct.most
  · rw [mup_off' (by decide)]; exact ct.knots
  · intro i hi; rw [mup_off (by decide)]; exact ct.ground i hi
  · intro i hi; rw [mup_off (by decide)]; exact ct.fname i hi
  · intro i hi; rw [mup_off (by decide)]; exact ct.fcell i hi
  · intro i hi; rw [mup_off (by decide)]; exact ct.need i hi
  · intro i hi
    have hi : i < T.nc + 1 := hi
    rw [mup_off (by decide)]
    show M.1 220 (8 + i) = yust T.cname T.nc vcname i
    by_cases z : i = T.nc
    · rw [z, yust_on]; exact ecname
    · rw [yust_off z]; exact ct.cname i (by omega)
  · intro i hi
    have hi : i < T.nc + 1 := hi
    rw [mup_off (by decide)]
    show M.1 221 (8 + i) = Int32.ofNat (yust T.ccell T.nc vccell i)
    by_cases z : i = T.nc
    · rw [z, yust_on]; exact eccell
    · rw [yust_off z]; exact ct.ccell i (by omega)
  · intro i hi
    have hi : i < T.nc + 1 := hi
    rw [mup_off (by decide)]
    show M.1 222 (8 + i) = yust T.bsize T.nc vbsize i
    by_cases z : i = T.nc
    · rw [z, yust_on]; exact ebsize
    · rw [yust_off z]; exact ct.bsize i (by omega)
  · intro i hi
    have hi : i < T.nc + 1 := hi
    rw [mup_off (by decide)]
    show M.1 223 (8 + i) = yust T.bat T.nc vbat i
    by_cases z : i = T.nc
    · rw [z, yust_on]; exact ebat
    · rw [yust_off z]; exact ct.bat i (by omega)
  · intro i hi; rw [mup_off (by decide)]; exact ct.hname i hi
  · intro i hi; rw [mup_off (by decide)]; exact ct.hcell i hi
  · intro i hi; rw [mup_off (by decide)]; exact ct.sight i hi
  · intro i hi; rw [mup_off (by decide)]; exact ct.wind i hi
  · intro k hk
    obtain ⟨h2, h3, h4⟩ := ct.law k hk
    exact ⟨by rw [mup_off (by decide)]; exact h2, by rw [mup_off (by decide)]; exact h3, fun j hj => by rw [mup_off (by decide), mup_off (by decide)]; exact h4 j hj⟩
theorem yRU.addH (ct : yRU M T la) {vhname : Int32} {vhcell : Nat} {vsight : Int32} (ehname : M.1 224 (6 + T.nh) = vhname) (ehcell : M.1 225 (6 + T.nh) = Int32.ofNat vhcell) (esight : M.1 226 (6 + T.nh) = vsight) : yRU (mup M 215 10 (Int32.ofNat (T.nh + 1))) (T.addH vhname vhcell vsight) la := by
  refine ⟨?_, ?_, ?_, ?_, ?_, ?_, ?_, ?_, ?_, ?_, ?_, ?_, ?_, ?_, ?_, ?_, ?_, ?_, ?_, ?_⟩
  · rw [mup_off' (by decide)]; exact ct.nf
  · rw [mup_off' (by decide)]; exact ct.nc
  · exact mup_on
  · rw [mup_off' (by decide)]; exact ct.nw
  · rw [mup_off' (by decide)]; exact ct.rain
  · rw [mup_off' (by decide)]; exact ct.most
  · rw [mup_off' (by decide)]; exact ct.knots
  · intro i hi; rw [mup_off (by decide)]; exact ct.ground i hi
  · intro i hi; rw [mup_off (by decide)]; exact ct.fname i hi
  · intro i hi; rw [mup_off (by decide)]; exact ct.fcell i hi
  · intro i hi; rw [mup_off (by decide)]; exact ct.need i hi
  · intro i hi; rw [mup_off (by decide)]; exact ct.cname i hi
  · intro i hi; rw [mup_off (by decide)]; exact ct.ccell i hi
  · intro i hi; rw [mup_off (by decide)]; exact ct.bsize i hi
  · intro i hi; rw [mup_off (by decide)]; exact ct.bat i hi
  · intro i hi
    have hi : i < T.nh + 1 := hi
    rw [mup_off (by decide)]
    show M.1 224 (6 + i) = yust T.hname T.nh vhname i
    by_cases z : i = T.nh
    · rw [z, yust_on]; exact ehname
    · rw [yust_off z]; exact ct.hname i (by omega)
  · intro i hi
    have hi : i < T.nh + 1 := hi
    rw [mup_off (by decide)]
    show M.1 225 (6 + i) = Int32.ofNat (yust T.hcell T.nh vhcell i)
    by_cases z : i = T.nh
    · rw [z, yust_on]; exact ehcell
    · rw [yust_off z]; exact ct.hcell i (by omega)
  · intro i hi
    have hi : i < T.nh + 1 := hi
    rw [mup_off (by decide)]
    show M.1 226 (6 + i) = yust T.sight T.nh vsight i
    by_cases z : i = T.nh
    · rw [z, yust_on]; exact esight
    · rw [yust_off z]; exact ct.sight i (by omega)
  · intro i hi; rw [mup_off (by decide)]; exact ct.wind i hi
  · intro k hk
    obtain ⟨h2, h3, h4⟩ := ct.law k hk
    exact ⟨by rw [mup_off (by decide)]; exact h2, by rw [mup_off (by decide)]; exact h3, fun j hj => by rw [mup_off (by decide), mup_off (by decide)]; exact h4 j hj⟩
theorem yRU.addW (ct : yRU M T la) {vwind : Int32} (ewind : M.1 227 (12 + T.nw) = vwind) : yRU (mup M 215 11 (Int32.ofNat (T.nw + 1))) (T.addW vwind) la := by
  refine ⟨?_, ?_, ?_, ?_, ?_, ?_, ?_, ?_, ?_, ?_, ?_, ?_, ?_, ?_, ?_, ?_, ?_, ?_, ?_, ?_⟩
  · rw [mup_off' (by decide)]; exact ct.nf
  · rw [mup_off' (by decide)]; exact ct.nc
  · rw [mup_off' (by decide)]; exact ct.nh
  · exact mup_on
  · rw [mup_off' (by decide)]; exact ct.rain
  · rw [mup_off' (by decide)]; exact ct.most
  · rw [mup_off' (by decide)]; exact ct.knots
  · intro i hi; rw [mup_off (by decide)]; exact ct.ground i hi
  · intro i hi; rw [mup_off (by decide)]; exact ct.fname i hi
  · intro i hi; rw [mup_off (by decide)]; exact ct.fcell i hi
  · intro i hi; rw [mup_off (by decide)]; exact ct.need i hi
  · intro i hi; rw [mup_off (by decide)]; exact ct.cname i hi
  · intro i hi; rw [mup_off (by decide)]; exact ct.ccell i hi
  · intro i hi; rw [mup_off (by decide)]; exact ct.bsize i hi
  · intro i hi; rw [mup_off (by decide)]; exact ct.bat i hi
  · intro i hi; rw [mup_off (by decide)]; exact ct.hname i hi
  · intro i hi; rw [mup_off (by decide)]; exact ct.hcell i hi
  · intro i hi; rw [mup_off (by decide)]; exact ct.sight i hi
  · intro i hi
    have hi : i < T.nw + 1 := hi
    rw [mup_off (by decide)]
    show M.1 227 (12 + i) = yust T.wind T.nw vwind i
    by_cases z : i = T.nw
    · rw [z, yust_on]; exact ewind
    · rw [yust_off z]; exact ct.wind i (by omega)
  · intro k hk
    obtain ⟨h2, h3, h4⟩ := ct.law k hk
    exact ⟨by rw [mup_off (by decide)]; exact h2, by rw [mup_off (by decide)]; exact h3, fun j hj => by rw [mup_off (by decide), mup_off (by decide)]; exact h4 j hj⟩
theorem yRU.setR (ct : yRU M T la) {v : Int32} : yRU (mup M 215 12 v) (T.setR v) la := by
  refine ⟨?_, ?_, ?_, ?_, ?_, ?_, ?_, ?_, ?_, ?_, ?_, ?_, ?_, ?_, ?_, ?_, ?_, ?_, ?_, ?_⟩
  · rw [mup_off' (by decide)]; exact ct.nf
  · rw [mup_off' (by decide)]; exact ct.nc
  · rw [mup_off' (by decide)]; exact ct.nh
  · rw [mup_off' (by decide)]; exact ct.nw
  · exact mup_on
  · rw [mup_off' (by decide)]; exact ct.most
  · rw [mup_off' (by decide)]; exact ct.knots
  · intro i hi; rw [mup_off (by decide)]; exact ct.ground i hi
  · intro i hi; rw [mup_off (by decide)]; exact ct.fname i hi
  · intro i hi; rw [mup_off (by decide)]; exact ct.fcell i hi
  · intro i hi; rw [mup_off (by decide)]; exact ct.need i hi
  · intro i hi; rw [mup_off (by decide)]; exact ct.cname i hi
  · intro i hi; rw [mup_off (by decide)]; exact ct.ccell i hi
  · intro i hi; rw [mup_off (by decide)]; exact ct.bsize i hi
  · intro i hi; rw [mup_off (by decide)]; exact ct.bat i hi
  · intro i hi; rw [mup_off (by decide)]; exact ct.hname i hi
  · intro i hi; rw [mup_off (by decide)]; exact ct.hcell i hi
  · intro i hi; rw [mup_off (by decide)]; exact ct.sight i hi
  · intro i hi; rw [mup_off (by decide)]; exact ct.wind i hi
  · intro k hk
    obtain ⟨h2, h3, h4⟩ := ct.law k hk
    exact ⟨by rw [mup_off (by decide)]; exact h2, by rw [mup_off (by decide)]; exact h3, fun j hj => by rw [mup_off (by decide), mup_off (by decide)]; exact h4 j hj⟩
theorem yRU.setM (ct : yRU M T la) {v : Int32} : yRU (mup M 215 13 v) (T.setM v) la := by
  refine ⟨?_, ?_, ?_, ?_, ?_, ?_, ?_, ?_, ?_, ?_, ?_, ?_, ?_, ?_, ?_, ?_, ?_, ?_, ?_, ?_⟩
  · rw [mup_off' (by decide)]; exact ct.nf
  · rw [mup_off' (by decide)]; exact ct.nc
  · rw [mup_off' (by decide)]; exact ct.nh
  · rw [mup_off' (by decide)]; exact ct.nw
  · rw [mup_off' (by decide)]; exact ct.rain
  · exact mup_on
  · rw [mup_off' (by decide)]; exact ct.knots
  · intro i hi; rw [mup_off (by decide)]; exact ct.ground i hi
  · intro i hi; rw [mup_off (by decide)]; exact ct.fname i hi
  · intro i hi; rw [mup_off (by decide)]; exact ct.fcell i hi
  · intro i hi; rw [mup_off (by decide)]; exact ct.need i hi
  · intro i hi; rw [mup_off (by decide)]; exact ct.cname i hi
  · intro i hi; rw [mup_off (by decide)]; exact ct.ccell i hi
  · intro i hi; rw [mup_off (by decide)]; exact ct.bsize i hi
  · intro i hi; rw [mup_off (by decide)]; exact ct.bat i hi
  · intro i hi; rw [mup_off (by decide)]; exact ct.hname i hi
  · intro i hi; rw [mup_off (by decide)]; exact ct.hcell i hi
  · intro i hi; rw [mup_off (by decide)]; exact ct.sight i hi
  · intro i hi; rw [mup_off (by decide)]; exact ct.wind i hi
  · intro k hk
    obtain ⟨h2, h3, h4⟩ := ct.law k hk
    exact ⟨by rw [mup_off (by decide)]; exact h2, by rw [mup_off (by decide)]; exact h3, fun j hj => by rw [mup_off (by decide), mup_off (by decide)]; exact h4 j hj⟩
theorem yRU.setG (ct : yRU M T la) {v : Int32} {c : Nat} : yRU (mup M 216 (24 + c) v) (T.setG c v) la := by
  refine ⟨?_, ?_, ?_, ?_, ?_, ?_, ?_, ?_, ?_, ?_, ?_, ?_, ?_, ?_, ?_, ?_, ?_, ?_, ?_, ?_⟩
  · rw [mup_off (by decide)]; exact ct.nf
  · rw [mup_off (by decide)]; exact ct.nc
  · rw [mup_off (by decide)]; exact ct.nh
  · rw [mup_off (by decide)]; exact ct.nw
  · rw [mup_off (by decide)]; exact ct.rain
  · rw [mup_off (by decide)]; exact ct.most
  · rw [mup_off (by decide)]; exact ct.knots
  · intro i hi
    show _ = yust T.ground c v i
    by_cases z : i = c
    · rw [z, yust_on, mup_on]
    · rw [yust_off z, mup_off' (by omega)]; exact ct.ground i hi
  · intro i hi; rw [mup_off (by decide)]; exact ct.fname i hi
  · intro i hi; rw [mup_off (by decide)]; exact ct.fcell i hi
  · intro i hi; rw [mup_off (by decide)]; exact ct.need i hi
  · intro i hi; rw [mup_off (by decide)]; exact ct.cname i hi
  · intro i hi; rw [mup_off (by decide)]; exact ct.ccell i hi
  · intro i hi; rw [mup_off (by decide)]; exact ct.bsize i hi
  · intro i hi; rw [mup_off (by decide)]; exact ct.bat i hi
  · intro i hi; rw [mup_off (by decide)]; exact ct.hname i hi
  · intro i hi; rw [mup_off (by decide)]; exact ct.hcell i hi
  · intro i hi; rw [mup_off (by decide)]; exact ct.sight i hi
  · intro i hi; rw [mup_off (by decide)]; exact ct.wind i hi
  · intro k hk
    obtain ⟨h2, h3, h4⟩ := ct.law k hk
    exact ⟨by rw [mup_off (by decide)]; exact h2, by rw [mup_off (by decide)]; exact h3, fun j hj => by rw [mup_off (by decide), mup_off (by decide)]; exact h4 j hj⟩
end

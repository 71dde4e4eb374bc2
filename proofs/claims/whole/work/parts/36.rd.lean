/-! reads and writes, by what they are of -/
theorem zwp_out {α : Type} {c : Option (α × zMem)} {r : α} {M : zMem} (h : zwp c (fun a M' => a = r ∧ M' = M)) : c = some (r, M) := by
  obtain ⟨a, M', e, rfl, rfl⟩ := h
  exact e
theorem ztt_n {t : Nat} (h : zIT t) (j n : Nat) (e : (zds (5 + j)).2 = n ∧ (zds (24 + j)).2 = n) : (zds (t + j)).2 = n := by
  rcases h with rfl | rfl
  · exact e.1
  · exact e.2
theorem yi_nn (c : Nat) : (Int32.ofNat c) + 1 = Int32.ofNat (c + 1) := by rw [Int32.ofNat_add]; rfl
section
variable {M : zMem} {s t : Nat} {o : Int32} {T : yT} {S : yA}
theorem yCS.rX (h : yCS M s t o T S) {c : Nat} (hc : c < T.nc) : mrd M (s + 1) (Int32.ofNat c) = some (Int32.ofNat (S.cell c % 6)) := by
  have := h.tk.nc
  have d := ysp_8 h.sp (j := 1) (by decide) (by decide)
  rw [mrd_of (j := c) (by omega) (by omega), h.x c hc]
theorem yCS.wX (h : yCS M s t o T S) {c : Nat} (hc : c < T.nc) (v : Int32) : mwr M (s + 1) (Int32.ofNat c) v = some (mup M (s + 1) c v) := by
  have := h.tk.nc
  have d := ysp_8 h.sp (j := 1) (by decide) (by decide)
  rw [mwr_of (j := c) (by omega) (by omega)]
theorem yCS.rY (h : yCS M s t o T S) {c : Nat} (hc : c < T.nc) : mrd M (s + 2) (Int32.ofNat c) = some (Int32.ofNat (S.cell c / 6)) := by
  have := h.tk.nc
  have d := ysp_8 h.sp (j := 2) (by decide) (by decide)
  rw [mrd_of (j := c) (by omega) (by omega), h.y c hc]
theorem yCS.wY (h : yCS M s t o T S) {c : Nat} (hc : c < T.nc) (v : Int32) : mwr M (s + 2) (Int32.ofNat c) v = some (mup M (s + 2) c v) := by
  have := h.tk.nc
  have d := ysp_8 h.sp (j := 2) (by decide) (by decide)
  rw [mwr_of (j := c) (by omega) (by omega)]
theorem yCS.rSize (h : yCS M s t o T S) {c : Nat} (hc : c < T.nc) : mrd M (s + 3) (Int32.ofNat c) = some (S.size c) := by
  have := h.tk.nc
  have d := ysp_8 h.sp (j := 3) (by decide) (by decide)
  rw [mrd_of (j := c) (by omega) (by omega), h.size c hc]
theorem yCS.wSize (h : yCS M s t o T S) {c : Nat} (hc : c < T.nc) (v : Int32) : mwr M (s + 3) (Int32.ofNat c) v = some (mup M (s + 3) c v) := by
  have := h.tk.nc
  have d := ysp_8 h.sp (j := 3) (by decide) (by decide)
  rw [mwr_of (j := c) (by omega) (by omega)]
theorem yCS.rAge (h : yCS M s t o T S) {c : Nat} (hc : c < T.nc) : mrd M (s + 4) (Int32.ofNat c) = some (S.age c) := by
  have := h.tk.nc
  have d := ysp_8 h.sp (j := 4) (by decide) (by decide)
  rw [mrd_of (j := c) (by omega) (by omega), h.age c hc]
theorem yCS.wAge (h : yCS M s t o T S) {c : Nat} (hc : c < T.nc) (v : Int32) : mwr M (s + 4) (Int32.ofNat c) v = some (mup M (s + 4) c v) := by
  have := h.tk.nc
  have d := ysp_8 h.sp (j := 4) (by decide) (by decide)
  rw [mwr_of (j := c) (by omega) (by omega)]
theorem yCS.rOwner (h : yCS M s t o T S) {c : Nat} (hc : c < T.nc) : mrd M (s + 5) (Int32.ofNat c) = some (S.owner c) := by
  have := h.tk.nc
  have d := ysp_8 h.sp (j := 5) (by decide) (by decide)
  rw [mrd_of (j := c) (by omega) (by omega), h.owner c hc]
theorem yCS.wOwner (h : yCS M s t o T S) {c : Nat} (hc : c < T.nc) (v : Int32) : mwr M (s + 5) (Int32.ofNat c) v = some (mup M (s + 5) c v) := by
  have := h.tk.nc
  have d := ysp_8 h.sp (j := 5) (by decide) (by decide)
  rw [mwr_of (j := c) (by omega) (by omega)]
theorem yCS.rState (h : yCS M s t o T S) {c : Nat} (hc : c < T.nc) : mrd M (s + 6) (Int32.ofNat c) = some (S.state c) := by
  have := h.tk.nc
  have d := ysp_8 h.sp (j := 6) (by decide) (by decide)
  rw [mrd_of (j := c) (by omega) (by omega), h.state c hc]
theorem yCS.wState (h : yCS M s t o T S) {c : Nat} (hc : c < T.nc) (v : Int32) : mwr M (s + 6) (Int32.ofNat c) v = some (mup M (s + 6) c v) := by
  have := h.tk.nc
  have d := ysp_8 h.sp (j := 6) (by decide) (by decide)
  rw [mwr_of (j := c) (by omega) (by omega)]
theorem yCS.rHx (h : yCS M s t o T S) {c : Nat} (hc : c < T.nh) : mrd M (s + 7) (Int32.ofNat c) = some (Int32.ofNat (S.pos c % 6)) := by
  have := h.tk.nh
  have d := ysp_6 h.sp (j := 7) (by decide) (by decide)
  rw [mrd_of (j := c) (by omega) (by omega), h.hx c hc]
theorem yCS.wHx (h : yCS M s t o T S) {c : Nat} (hc : c < T.nh) (v : Int32) : mwr M (s + 7) (Int32.ofNat c) v = some (mup M (s + 7) c v) := by
  have := h.tk.nh
  have d := ysp_6 h.sp (j := 7) (by decide) (by decide)
  rw [mwr_of (j := c) (by omega) (by omega)]
theorem yCS.rHy (h : yCS M s t o T S) {c : Nat} (hc : c < T.nh) : mrd M (s + 8) (Int32.ofNat c) = some (Int32.ofNat (S.pos c / 6)) := by
  have := h.tk.nh
  have d := ysp_6 h.sp (j := 8) (by decide) (by decide)
  rw [mrd_of (j := c) (by omega) (by omega), h.hy c hc]
theorem yCS.wHy (h : yCS M s t o T S) {c : Nat} (hc : c < T.nh) (v : Int32) : mwr M (s + 8) (Int32.ofNat c) v = some (mup M (s + 8) c v) := by
  have := h.tk.nh
  have d := ysp_6 h.sp (j := 8) (by decide) (by decide)
  rw [mwr_of (j := c) (by omega) (by omega)]
theorem yCS.rMarks (h : yCS M s t o T S) {c : Nat} (hc : c < T.nh) : mrd M (s + 9) (Int32.ofNat c) = some (S.marks c) := by
  have := h.tk.nh
  have d := ysp_6 h.sp (j := 9) (by decide) (by decide)
  rw [mrd_of (j := c) (by omega) (by omega), h.marks c hc]
theorem yCS.wMarks (h : yCS M s t o T S) {c : Nat} (hc : c < T.nh) (v : Int32) : mwr M (s + 9) (Int32.ofNat c) v = some (mup M (s + 9) c v) := by
  have := h.tk.nh
  have d := ysp_6 h.sp (j := 9) (by decide) (by decide)
  rw [mwr_of (j := c) (by omega) (by omega)]
theorem yCS.rGot (h : yCS M s t o T S) {c : Nat} (hc : c < T.nf) : mrd M (s + 10) (Int32.ofNat c) = some (S.got c) := by
  have := h.tk.nf
  have d := ysp_g h.sp
  rw [mrd_of (j := c) (by omega) (by omega), h.got c hc]
theorem yCS.wGot (h : yCS M s t o T S) {c : Nat} (hc : c < T.nf) (v : Int32) : mwr M (s + 10) (Int32.ofNat c) v = some (mup M (s + 10) c v) := by
  have := h.tk.nf
  have d := ysp_g h.sp
  rw [mwr_of (j := c) (by omega) (by omega)]
theorem yCS.rRained (h : yCS M s t o T S) {c f : Nat} (hc : c < T.nh) (hf : f < T.nf) : mrd M (s + 11 + 1 + c) (Int32.ofNat f) = some (S.rained c f) := by
  have := h.tk.nh
  have := h.tk.nf
  have d := ysp_r h.sp (j := c) (by omega)
  rw [mrd_of (j := f) (by omega) (by omega), h.rained c f hc hf]
theorem yCS.wRained (h : yCS M s t o T S) {c f : Nat} (hc : c < T.nh) (hf : f < T.nf) (v : Int32) : mwr M (s + 11 + 1 + c) (Int32.ofNat f) v = some (mup M (s + 11 + 1 + c) f v) := by
  have := h.tk.nh
  have := h.tk.nf
  have d := ysp_r h.sp (j := c) (by omega)
  rw [mwr_of (j := f) (by omega) (by omega)]
theorem yCS.rw (h : yCS M s t o T S) {c : Nat} (hc : c < T.nh) : mrw (s + 11) (Int32.ofNat c) = some (s + 11 + 1 + c) := by
  have := h.tk.nh
  unfold mrw
  rw [zi_cl (by omega), if_neg]
  rintro (e | e)
  · exact zi_nn (by omega) e
  · omega
theorem yCS.wName (h : yCS M s t o T S) {i : Int32} {c : Nat} (hc : c < 7) (v : Int32) (e : zN i c := by with_reducible repeat (first | assumption | exact zn_of _ | exact zn_lit _ | apply zn_add | apply zn_mul)) : mwr M (s + 18) i v = some (mup M (s + 18) c v) := by
  have d := ysp_n h.sp
  rw [mwr_of (j := c) (by omega) (by omega)]
theorem yCT.rGround (h : yCT M t T) (tk : yTok T) {c : Nat} (hc : c < 24) : mrd M (t + 1) (Int32.ofNat c) = some (T.ground c) := by
  have d := ztt_n h.tt 1 24 ⟨rfl, rfl⟩
  rw [mrd_of (j := c) (by omega) (by omega), h.ground c hc]
theorem yCT.rFname (h : yCT M t T) (tk : yTok T) {c : Nat} (hc : c < T.nf) : mrd M (t + 2) (Int32.ofNat c) = some (T.fname c) := by
  have := tk.nf
  have d := ztt_n h.tt 2 5 ⟨rfl, rfl⟩
  rw [mrd_of (j := c) (by omega) (by omega), h.fname c hc]
theorem yCT.rFcell (h : yCT M t T) (tk : yTok T) {c : Nat} (hc : c < T.nf) : mrd M (t + 3) (Int32.ofNat c) = some (Int32.ofNat (T.fcell c)) := by
  have := tk.nf
  have d := ztt_n h.tt 3 5 ⟨rfl, rfl⟩
  rw [mrd_of (j := c) (by omega) (by omega), h.fcell c hc]
theorem yCT.rNeed (h : yCT M t T) (tk : yTok T) {c : Nat} (hc : c < T.nf) : mrd M (t + 4) (Int32.ofNat c) = some (T.need c) := by
  have := tk.nf
  have d := ztt_n h.tt 4 5 ⟨rfl, rfl⟩
  rw [mrd_of (j := c) (by omega) (by omega), h.need c hc]
theorem yCT.rCname (h : yCT M t T) (tk : yTok T) {c : Nat} (hc : c < T.nc) : mrd M (t + 5) (Int32.ofNat c) = some (T.cname c) := by
  have := tk.nc
  have d := ztt_n h.tt 5 8 ⟨rfl, rfl⟩
  rw [mrd_of (j := c) (by omega) (by omega), h.cname c hc]
theorem yCT.rCcell (h : yCT M t T) (tk : yTok T) {c : Nat} (hc : c < T.nc) : mrd M (t + 6) (Int32.ofNat c) = some (Int32.ofNat (T.ccell c)) := by
  have := tk.nc
  have d := ztt_n h.tt 6 8 ⟨rfl, rfl⟩
  rw [mrd_of (j := c) (by omega) (by omega), h.ccell c hc]
theorem yCT.rBsize (h : yCT M t T) (tk : yTok T) {c : Nat} (hc : c < T.nc) : mrd M (t + 7) (Int32.ofNat c) = some (T.bsize c) := by
  have := tk.nc
  have d := ztt_n h.tt 7 8 ⟨rfl, rfl⟩
  rw [mrd_of (j := c) (by omega) (by omega), h.bsize c hc]
theorem yCT.rBat (h : yCT M t T) (tk : yTok T) {c : Nat} (hc : c < T.nc) : mrd M (t + 8) (Int32.ofNat c) = some (T.bat c) := by
  have := tk.nc
  have d := ztt_n h.tt 8 8 ⟨rfl, rfl⟩
  rw [mrd_of (j := c) (by omega) (by omega), h.bat c hc]
theorem yCT.rHname (h : yCT M t T) (tk : yTok T) {c : Nat} (hc : c < T.nh) : mrd M (t + 9) (Int32.ofNat c) = some (T.hname c) := by
  have := tk.nh
  have d := ztt_n h.tt 9 6 ⟨rfl, rfl⟩
  rw [mrd_of (j := c) (by omega) (by omega), h.hname c hc]
theorem yCT.rHcell (h : yCT M t T) (tk : yTok T) {c : Nat} (hc : c < T.nh) : mrd M (t + 10) (Int32.ofNat c) = some (Int32.ofNat (T.hcell c)) := by
  have := tk.nh
  have d := ztt_n h.tt 10 6 ⟨rfl, rfl⟩
  rw [mrd_of (j := c) (by omega) (by omega), h.hcell c hc]
theorem yCT.rSight (h : yCT M t T) (tk : yTok T) {c : Nat} (hc : c < T.nh) : mrd M (t + 11) (Int32.ofNat c) = some (T.sight c) := by
  have := tk.nh
  have d := ztt_n h.tt 11 6 ⟨rfl, rfl⟩
  rw [mrd_of (j := c) (by omega) (by omega), h.sight c hc]
theorem yCT.rWind (h : yCT M t T) (tk : yTok T) {c : Nat} (hc : c < T.nw) : mrd M (t + 12) (Int32.ofNat c) = some (T.wind c) := by
  have := tk.nw
  have d := ztt_n h.tt 12 12 ⟨rfl, rfl⟩
  rw [mrd_of (j := c) (by omega) (by omega), h.wind c hc]
theorem yCT.lnf (h : yCT M t T) (tk : yTok T) {c : Nat} (hc : c < T.nf) : (M.1 t 13 ≤ Int32.ofNat c) = False := by
  have := tk.nf
  rw [h.nf, eq_iff_iff, iff_false, zi_le (by omega) (by omega)]; omega
theorem yCT.enf (h : yCT M t T) : (M.1 t 13 ≤ Int32.ofNat T.nf) = True := by
  rw [h.nf, eq_iff_iff, iff_true]; exact Int32.le_refl _
theorem yCT.lnc (h : yCT M t T) (tk : yTok T) {c : Nat} (hc : c < T.nc) : (M.1 t 14 ≤ Int32.ofNat c) = False := by
  have := tk.nc
  rw [h.nc, eq_iff_iff, iff_false, zi_le (by omega) (by omega)]; omega
theorem yCT.enc (h : yCT M t T) : (M.1 t 14 ≤ Int32.ofNat T.nc) = True := by
  rw [h.nc, eq_iff_iff, iff_true]; exact Int32.le_refl _
theorem yCT.lnh (h : yCT M t T) (tk : yTok T) {c : Nat} (hc : c < T.nh) : (M.1 t 15 ≤ Int32.ofNat c) = False := by
  have := tk.nh
  rw [h.nh, eq_iff_iff, iff_false, zi_le (by omega) (by omega)]; omega
theorem yCT.enh (h : yCT M t T) : (M.1 t 15 ≤ Int32.ofNat T.nh) = True := by
  rw [h.nh, eq_iff_iff, iff_true]; exact Int32.le_refl _
end
section
variable {M : zMem} {sl : Nat} {o : Int32} {T : yT} {S : yA}
theorem yRS.rCell (h : yRS M sl o T S) {c : Nat} (hc : c < T.nc) : mrd M 236 (8 * Int32.ofNat sl + Int32.ofNat c) = some (Int32.ofNat (S.cell c)) := by
  have := h.tk.nc
  have := h.lt
  have d : (zds 236).2 = 184 := rfl
  rw [mrd_of (j := 8 * sl + c) (by omega) (by omega), h.cell c hc]
theorem yRS.rSize (h : yRS M sl o T S) {c : Nat} (hc : c < T.nc) : mrd M 237 (8 * Int32.ofNat sl + Int32.ofNat c) = some (S.size c) := by
  have := h.tk.nc
  have := h.lt
  have d : (zds 237).2 = 184 := rfl
  rw [mrd_of (j := 8 * sl + c) (by omega) (by omega), h.size c hc]
theorem yRS.rAge (h : yRS M sl o T S) {c : Nat} (hc : c < T.nc) : mrd M 238 (8 * Int32.ofNat sl + Int32.ofNat c) = some (S.age c) := by
  have := h.tk.nc
  have := h.lt
  have d : (zds 238).2 = 184 := rfl
  rw [mrd_of (j := 8 * sl + c) (by omega) (by omega), h.age c hc]
theorem yRS.rOwner (h : yRS M sl o T S) {c : Nat} (hc : c < T.nc) : mrd M 239 (8 * Int32.ofNat sl + Int32.ofNat c) = some (S.owner c) := by
  have := h.tk.nc
  have := h.lt
  have d : (zds 239).2 = 184 := rfl
  rw [mrd_of (j := 8 * sl + c) (by omega) (by omega), h.owner c hc]
theorem yRS.rPos (h : yRS M sl o T S) {c : Nat} (hc : c < T.nh) : mrd M 241 (6 * Int32.ofNat sl + Int32.ofNat c) = some (Int32.ofNat (S.pos c)) := by
  have := h.tk.nh
  have := h.lt
  have d : (zds 241).2 = 138 := rfl
  rw [mrd_of (j := 6 * sl + c) (by omega) (by omega), h.pos c hc]
theorem yRS.rMarks (h : yRS M sl o T S) {c : Nat} (hc : c < T.nh) : mrd M 242 (6 * Int32.ofNat sl + Int32.ofNat c) = some (S.marks c) := by
  have := h.tk.nh
  have := h.lt
  have d : (zds 242).2 = 138 := rfl
  rw [mrd_of (j := 6 * sl + c) (by omega) (by omega), h.marks c hc]
theorem yRS.rGot (h : yRS M sl o T S) {c : Nat} (hc : c < T.nf) : mrd M 243 (5 * Int32.ofNat sl + Int32.ofNat c) = some (S.got c) := by
  have := h.tk.nf
  have := h.lt
  have d : (zds 243).2 = 115 := rfl
  rw [mrd_of (j := 5 * sl + c) (by omega) (by omega), h.got c hc]
theorem yRS.wCell (h : yRS M sl o T S) {c : Nat} (hc : c < T.nc) (v : Int32) : mwr M 236 (8 * Int32.ofNat sl + Int32.ofNat c) v = some (mup M 236 (8 * sl + c) v) := by
  have := h.tk.nc
  have := h.lt
  have d : (zds 236).2 = 184 := rfl
  rw [mwr_of (j := 8 * sl + c) (by omega) (by omega)]
theorem yRS.wSize (h : yRS M sl o T S) {c : Nat} (hc : c < T.nc) (v : Int32) : mwr M 237 (8 * Int32.ofNat sl + Int32.ofNat c) v = some (mup M 237 (8 * sl + c) v) := by
  have := h.tk.nc
  have := h.lt
  have d : (zds 237).2 = 184 := rfl
  rw [mwr_of (j := 8 * sl + c) (by omega) (by omega)]
theorem yRS.wAge (h : yRS M sl o T S) {c : Nat} (hc : c < T.nc) (v : Int32) : mwr M 238 (8 * Int32.ofNat sl + Int32.ofNat c) v = some (mup M 238 (8 * sl + c) v) := by
  have := h.tk.nc
  have := h.lt
  have d : (zds 238).2 = 184 := rfl
  rw [mwr_of (j := 8 * sl + c) (by omega) (by omega)]
theorem yRS.wOwner (h : yRS M sl o T S) {c : Nat} (hc : c < T.nc) (v : Int32) : mwr M 239 (8 * Int32.ofNat sl + Int32.ofNat c) v = some (mup M 239 (8 * sl + c) v) := by
  have := h.tk.nc
  have := h.lt
  have d : (zds 239).2 = 184 := rfl
  rw [mwr_of (j := 8 * sl + c) (by omega) (by omega)]
theorem yRS.wPos (h : yRS M sl o T S) {c : Nat} (hc : c < T.nh) (v : Int32) : mwr M 241 (6 * Int32.ofNat sl + Int32.ofNat c) v = some (mup M 241 (6 * sl + c) v) := by
  have := h.tk.nh
  have := h.lt
  have d : (zds 241).2 = 138 := rfl
  rw [mwr_of (j := 6 * sl + c) (by omega) (by omega)]
theorem yRS.wMarks (h : yRS M sl o T S) {c : Nat} (hc : c < T.nh) (v : Int32) : mwr M 242 (6 * Int32.ofNat sl + Int32.ofNat c) v = some (mup M 242 (6 * sl + c) v) := by
  have := h.tk.nh
  have := h.lt
  have d : (zds 242).2 = 138 := rfl
  rw [mwr_of (j := 6 * sl + c) (by omega) (by omega)]
theorem yRS.wGot (h : yRS M sl o T S) {c : Nat} (hc : c < T.nf) (v : Int32) : mwr M 243 (5 * Int32.ofNat sl + Int32.ofNat c) v = some (mup M 243 (5 * sl + c) v) := by
  have := h.tk.nf
  have := h.lt
  have d : (zds 243).2 = 115 := rfl
  rw [mwr_of (j := 5 * sl + c) (by omega) (by omega)]
theorem yRS.wState (h : yRS M sl o T S) {c : Nat} (hc : c < T.nc) (v : Int32) : mwr M 240 (8 * Int32.ofNat sl + Int32.ofNat c) v = some (mup M 240 (8 * sl + c) v) := by
  have := h.tk.nc
  have := h.lt
  have d : (zds 240).2 = 184 := rfl
  rw [mwr_of (j := 8 * sl + c) (by omega) (by omega)]
theorem yRS.rHow (h : yRS M sl o T S) {c : Nat} (hc : c < T.nc) : mrd M 240 (8 * Int32.ofNat sl + Int32.ofNat c) = some (M.1 240 (8 * sl + c)) := by
  have := h.tk.nc
  have := h.lt
  have d : (zds 240).2 = 184 := rfl
  rw [mrd_of (j := 8 * sl + c) (by omega) (by omega)]
theorem yRS.rRained (h : yRS M sl o T S) {c f : Nat} (hc : c < T.nh) (hf : f < T.nf) : mrd M 244 (35 * Int32.ofNat sl + 7 * Int32.ofNat f + Int32.ofNat c) = some (S.rained c f) := by
  have := h.tk.nh
  have := h.tk.nf
  have := h.lt
  have d : (zds 244).2 = 805 := rfl
  rw [mrd_of (j := 35 * sl + 7 * f + c) (by omega) (by omega), h.rained c f hc hf]
theorem yRS.wRained (h : yRS M sl o T S) {c f : Nat} (hc : c < 7) (hf : f < T.nf) (v : Int32) : mwr M 244 (35 * Int32.ofNat sl + 7 * Int32.ofNat f + Int32.ofNat c) v = some (mup M 244 (35 * sl + 7 * f + c) v) := by
  have := h.tk.nf
  have := h.lt
  have d : (zds 244).2 = 805 := rfl
  rw [mwr_of (j := 35 * sl + 7 * f + c) (by omega) (by omega)]
theorem yRS.rRain (h : yRS M sl o T S) {c f : Nat} (hc : c < 7) (hf : f < T.nf) : mrd M 244 (35 * Int32.ofNat sl + 7 * Int32.ofNat f + Int32.ofNat c) = some (M.1 244 (35 * sl + 7 * f + c)) := by
  have := h.tk.nf
  have := h.lt
  have d : (zds 244).2 = 805 := rfl
  rw [mrd_of (j := 35 * sl + 7 * f + c) (by omega) (by omega)]
theorem yRS.rHour (h : yRS M sl o T S) : mrd M 234 (Int32.ofNat sl) = some (Int32.ofNat S.hour) := by
  have := h.lt
  have d : (zds 234).2 = 23 := rfl
  rw [mrd_of (j := sl) (by omega) (by omega), h.hour]
theorem yRS.rBlown (h : yRS M sl o T S) : mrd M 235 (Int32.ofNat sl) = some S.blown := by
  have := h.lt
  have d : (zds 235).2 = 23 := rfl
  rw [mrd_of (j := sl) (by omega) (by omega), h.blown]
theorem yRS.wHour (h : yRS M sl o T S) (v : Int32) : mwr M 234 (Int32.ofNat sl) v = some (mup M 234 sl v) := by
  have := h.lt
  have d : (zds 234).2 = 23 := rfl
  rw [mwr_of (j := sl) (by omega) (by omega)]
theorem yRS.wBlown (h : yRS M sl o T S) (v : Int32) : mwr M 235 (Int32.ofNat sl) v = some (mup M 235 sl v) := by
  have := h.lt
  have d : (zds 235).2 = 23 := rfl
  rw [mwr_of (j := sl) (by omega) (by omega)]
theorem yRT.rGround (h : yRT M T) (tk : yTok T) {c : Nat} (hc : c < 24) : mrd M 216 (Int32.ofNat c) = some (T.ground c) := by
  have d : (zds 216).2 = 48 := rfl
  rw [mrd_of (j := c) (by omega) (by omega), h.ground c hc]
theorem yRT.rFname (h : yRT M T) (tk : yTok T) {c : Nat} (hc : c < T.nf) : mrd M 217 (Int32.ofNat c) = some (T.fname c) := by
  have := tk.nf
  have d : (zds 217).2 = 10 := rfl
  rw [mrd_of (j := c) (by omega) (by omega), h.fname c hc]
theorem yRT.rFcell (h : yRT M T) (tk : yTok T) {c : Nat} (hc : c < T.nf) : mrd M 218 (Int32.ofNat c) = some (Int32.ofNat (T.fcell c)) := by
  have := tk.nf
  have d : (zds 218).2 = 10 := rfl
  rw [mrd_of (j := c) (by omega) (by omega), h.fcell c hc]
theorem yRT.rNeed (h : yRT M T) (tk : yTok T) {c : Nat} (hc : c < T.nf) : mrd M 219 (Int32.ofNat c) = some (T.need c) := by
  have := tk.nf
  have d : (zds 219).2 = 10 := rfl
  rw [mrd_of (j := c) (by omega) (by omega), h.need c hc]
theorem yRT.rCname (h : yRT M T) (tk : yTok T) {c : Nat} (hc : c < T.nc) : mrd M 220 (Int32.ofNat c) = some (T.cname c) := by
  have := tk.nc
  have d : (zds 220).2 = 16 := rfl
  rw [mrd_of (j := c) (by omega) (by omega), h.cname c hc]
theorem yRT.rCcell (h : yRT M T) (tk : yTok T) {c : Nat} (hc : c < T.nc) : mrd M 221 (Int32.ofNat c) = some (Int32.ofNat (T.ccell c)) := by
  have := tk.nc
  have d : (zds 221).2 = 16 := rfl
  rw [mrd_of (j := c) (by omega) (by omega), h.ccell c hc]
theorem yRT.rBsize (h : yRT M T) (tk : yTok T) {c : Nat} (hc : c < T.nc) : mrd M 222 (Int32.ofNat c) = some (T.bsize c) := by
  have := tk.nc
  have d : (zds 222).2 = 16 := rfl
  rw [mrd_of (j := c) (by omega) (by omega), h.bsize c hc]
theorem yRT.rBat (h : yRT M T) (tk : yTok T) {c : Nat} (hc : c < T.nc) : mrd M 223 (Int32.ofNat c) = some (T.bat c) := by
  have := tk.nc
  have d : (zds 223).2 = 16 := rfl
  rw [mrd_of (j := c) (by omega) (by omega), h.bat c hc]
theorem yRT.rHname (h : yRT M T) (tk : yTok T) {c : Nat} (hc : c < T.nh) : mrd M 224 (Int32.ofNat c) = some (T.hname c) := by
  have := tk.nh
  have d : (zds 224).2 = 12 := rfl
  rw [mrd_of (j := c) (by omega) (by omega), h.hname c hc]
theorem yRT.rHcell (h : yRT M T) (tk : yTok T) {c : Nat} (hc : c < T.nh) : mrd M 225 (Int32.ofNat c) = some (Int32.ofNat (T.hcell c)) := by
  have := tk.nh
  have d : (zds 225).2 = 12 := rfl
  rw [mrd_of (j := c) (by omega) (by omega), h.hcell c hc]
theorem yRT.rSight (h : yRT M T) (tk : yTok T) {c : Nat} (hc : c < T.nh) : mrd M 226 (Int32.ofNat c) = some (T.sight c) := by
  have := tk.nh
  have d : (zds 226).2 = 12 := rfl
  rw [mrd_of (j := c) (by omega) (by omega), h.sight c hc]
theorem yRT.rWind (h : yRT M T) (tk : yTok T) {c : Nat} (hc : c < T.nw) : mrd M 227 (Int32.ofNat c) = some (T.wind c) := by
  have := tk.nw
  have d : (zds 227).2 = 24 := rfl
  rw [mrd_of (j := c) (by omega) (by omega), h.wind c hc]
theorem yRT.rNf (h : yRT M T) : mrd M 215 0 = some (Int32.ofNat T.nf) := by
  rw [mrd_of (k := 215) (j := 0) (by decide) (by decide), h.nf]
theorem yRT.rNc (h : yRT M T) : mrd M 215 1 = some (Int32.ofNat T.nc) := by
  rw [mrd_of (k := 215) (j := 1) (by decide) (by decide), h.nc]
theorem yRT.rNh (h : yRT M T) : mrd M 215 2 = some (Int32.ofNat T.nh) := by
  rw [mrd_of (k := 215) (j := 2) (by decide) (by decide), h.nh]
theorem yRT.rNw (h : yRT M T) : mrd M 215 3 = some (Int32.ofNat T.nw) := by
  rw [mrd_of (k := 215) (j := 3) (by decide) (by decide), h.nw]
theorem yRT.rNRain (h : yRT M T) : mrd M 215 4 = some (T.rain) := by
  rw [mrd_of (k := 215) (j := 4) (by decide) (by decide), h.rain]
theorem yRT.rNMost (h : yRT M T) : mrd M 215 5 = some (T.most) := by
  rw [mrd_of (k := 215) (j := 5) (by decide) (by decide), h.most]
theorem yRT.rKnots (h : yRT M T) : mrd M 215 7 = some T.knots := by
  rw [mrd_of (k := 215) (j := 7) (by decide) (by decide), h.knots]
end
theorem yle_f {c n : Nat} (hc : c < n) (hn : n ≤ 200) : (Int32.ofNat n ≤ Int32.ofNat c) = False := by
  rw [eq_iff_iff, iff_false, zi_le (by omega) (by omega)]; omega
theorem yle_t {n : Nat} : (Int32.ofNat n ≤ Int32.ofNat n) = True := by
  rw [eq_iff_iff, iff_true]; exact Int32.le_refl _

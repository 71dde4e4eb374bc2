/-! what is asked of a sky -/
theorem zwp_some {α : Type} {a : α} {M : zMem} {Q : α → zMem → Prop} : zwp (some (a, M)) Q = Q a M := by
  rw [eq_iff_iff]
  refine ⟨?_, zwp_ret⟩
  rintro ⟨b, M', e, q⟩
  cases e
  exact q
def yfar (a b : Nat) : Int32 := zmx (zab (Int32.ofNat (a % 6) - Int32.ofNat (b % 6))) (zab (Int32.ofNat (a / 6) - Int32.ofNat (b / 6)))
theorem yfar_sym : ∀ a, a < 24 → ∀ b, b < 24 → yfar a b = yfar b a := by decide +kernel
theorem yrm6 : ∀ a, a < 24 → zrm (Int32.ofNat a) 6 = Int32.ofNat (a % 6) := by decide +kernel
theorem ydv6 : ∀ a, a < 24 → Int32.ofNat a / 6 = Int32.ofNat (a / 6) := by decide +kernel
theorem ymx_le {a b s : Int32} : (s < zmx a b) ↔ (s < a ∨ s < b) := by
  unfold zmx
  simp only [Int32.lt_iff_toInt_lt]
  split <;> omega
def yup (S : yA) (w : Int32) (n : Nat) : Int32 := zsum (fun c => if S.state c = w then 1 else 0) n
def yown (S : yA) (q : Int32) (n : Nat) : Int32 := zsum (fun c => if S.state c = 1 ∧ S.owner c = q then 1 else 0) n
def ybit (c : Nat) : Int32 := 1 <<< (Int32.ofNat c &&& 31)
theorem yor0 (a : Int32) : a ||| 0 = a := Int32.or_zero
theorem yad0 (a : Int32) : a + 0 = a := Int32.add_zero a
theorem one_ne : ((1 : Int32) = 0) = False := by decide
theorem yone : ((0 : Int32) = 0) = True := by decide
section
variable {M : zMem} {s t : Nat} {o : Int32} {T : yT} {S : yA}
theorem c_isUp1 (h : yCS M s t o T S) {c : Nat} (hc : c < T.nc) (hu : S.state c = 1) : m_X5_isUp s (Int32.ofNat c) M = some (1, M) := by
  simp only [m_X5_isUp, h.rState hc, zob_some, hu, if_true]
theorem c_isUp0 (h : yCS M s t o T S) {c : Nat} (hc : c < T.nc) (hu : ¬ S.state c = 1) : m_X5_isUp s (Int32.ofNat c) M = some (0, M) := by
  simp only [m_X5_isUp, h.rState hc, zob_some, hu, if_false]
theorem c_howMany (h : yCS M s t o T S) (w : Int32) : m_X5_howManyAre s w M = some (yup S w T.nc, M) := by
  have b1 := h.tk.nc
  have b2 := h.tk.nh
  have b3 := h.tk.nf
  refine zwp_out ?_
  unfold m_X5_howManyAre
  refine zwp_bd (Q' := fun b M' => b.1 = yup S w T.nc ∧ M' = M) (zwp_for 0 T.nc (fun c st M' => st = (yup S w c, Int32.ofNat c) ∧ M' = M) ?_ ?_ ⟨rfl, rfl⟩ (Nat.zero_le _) (by have : zLF = 100000 := rfl; omega)) ?_
  · rintro c st M' - hc ⟨rfl, rfl⟩
    simp only [mlt_eq, h.tp, h.ct.lnc h.tk hc, if_false, zob_some]
    by_cases e : S.state c = w
    · skip
      simp only [e, h.rState hc, zob_some, mbd_some, mlt_eq, if_true, if_false, zwp_some, yi_nn, yor0, yad0, and_self, true_and, and_true, Nat.reduceAdd, one_ne, yone, zsum, zorr, yup]
    · simp only [e, h.rState hc, zob_some, mbd_some, mlt_eq, if_true, if_false, zwp_some, yi_nn, yor0, yad0, and_self, true_and, and_true, false_and, and_false, one_ne, yone, zsum, zorr, yup]
  · rintro st M' ⟨rfl, rfl⟩
    simp only [mlt_eq, h.tp, h.ct.enc, if_true, zwp_some, and_self]
  · rintro b M' ⟨e, rfl⟩
    exact zwp_ret ⟨e, rfl⟩
theorem c_ownInSky (h : yCS M s t o T S) (q : Int32) : m_X5_ownInSky s q M = some (yown S q T.nc, M) := by
  have b1 := h.tk.nc
  have b2 := h.tk.nh
  have b3 := h.tk.nf
  refine zwp_out ?_
  unfold m_X5_ownInSky
  refine zwp_bd (Q' := fun b M' => b.1 = yown S q T.nc ∧ M' = M) (zwp_for 0 T.nc (fun c st M' => st = (yown S q c, Int32.ofNat c) ∧ M' = M) ?_ ?_ ⟨rfl, rfl⟩ (Nat.zero_le _) (by have : zLF = 100000 := rfl; omega)) ?_
  · rintro c st M' - hc ⟨rfl, rfl⟩
    simp only [mlt_eq, h.tp, h.ct.lnc h.tk hc, if_false, zob_some]
    by_cases hu : S.state c = 1
    · skip
      by_cases e : S.owner c = q
      · skip
        simp only [hu, c_isUp1 h hc hu, e, h.rOwner hc, zob_some, mbd_some, mlt_eq, if_true, if_false, zwp_some, yi_nn, yor0, yad0, and_self, true_and, and_true, Nat.reduceAdd, one_ne, yone, zsum, zorr, yown]
      · simp only [hu, c_isUp1 h hc hu, e, h.rOwner hc, zob_some, mbd_some, mlt_eq, if_true, if_false, zwp_some, yi_nn, yor0, yad0, and_self, true_and, and_true, false_and, and_false, one_ne, yone, zsum, zorr, yown]
    · simp only [hu, c_isUp0 h hc hu, h.rOwner hc, zob_some, mbd_some, mlt_eq, if_true, if_false, zwp_some, yi_nn, yor0, yad0, and_self, true_and, and_true, false_and, and_false, one_ne, yone, zsum, zorr, yown]
  · rintro st M' ⟨rfl, rfl⟩
    simp only [mlt_eq, h.tp, h.ct.enc, if_true, zwp_some, and_self]
  · rintro b M' ⟨e, rfl⟩
    exact zwp_ret ⟨e, rfl⟩
def yat (S : yA) (k : Nat) (n : Nat) : Int32 := zorr (fun c => if S.state c = 1 ∧ S.cell c = k then ybit c else 0) n
def ysee (S : yA) (k : Nat) (g : Int32) (n : Nat) : Int32 := zorr (fun c => if S.state c = 1 ∧ ¬ g < yfar k (S.cell c) then ybit c else 0) n
theorem c_cloudsAt (h : yCS M s t o T S) (k : Nat) (hk : k < 24) : m_X5_cloudsAt s (Int32.ofNat (k % 6)) (Int32.ofNat (k / 6)) M = some (yat S k T.nc, M) := by
  have b1 := h.tk.nc
  have b2 := h.tk.nh
  have b3 := h.tk.nf
  refine zwp_out ?_
  unfold m_X5_cloudsAt
  refine zwp_bd (Q' := fun b M' => b.1 = yat S k T.nc ∧ M' = M) (zwp_for 0 T.nc (fun c st M' => st = (yat S k c, Int32.ofNat c) ∧ M' = M) ?_ ?_ ⟨rfl, rfl⟩ (Nat.zero_le _) (by have : zLF = 100000 := rfl; omega)) ?_
  · rintro c st M' - hc ⟨rfl, rfl⟩
    simp only [mlt_eq, h.tp, h.ct.lnc h.tk hc, if_false, zob_some]
    by_cases hu : S.state c = 1
    · skip
      by_cases e : S.cell c % 6 = k % 6
      · skip
        by_cases e2 : S.cell c / 6 = k / 6
        · skip
          simp only [hu, c_isUp1 h hc hu, e, e2, show S.cell c = k by omega, h.rX hc, h.rY hc, zi_eq (show S.cell c % 6 < 2147483648 by omega) (show k % 6 < 2147483648 by omega), zi_eq (show S.cell c / 6 < 2147483648 by have := h.ok.cell c hc; omega) (show k / 6 < 2147483648 by omega), zob_some, mbd_some, mlt_eq, if_true, if_false, zwp_some, yi_nn, yor0, yad0, and_self, true_and, and_true, Nat.reduceAdd, one_ne, yone, zsum, zorr, yat, ybit]
        · simp only [hu, c_isUp1 h hc hu, e, e2, show ¬ S.cell c = k by omega, h.rX hc, h.rY hc, zi_eq (show S.cell c % 6 < 2147483648 by omega) (show k % 6 < 2147483648 by omega), zi_eq (show S.cell c / 6 < 2147483648 by have := h.ok.cell c hc; omega) (show k / 6 < 2147483648 by omega), zob_some, mbd_some, mlt_eq, if_true, if_false, zwp_some, yi_nn, yor0, yad0, and_self, true_and, and_true, false_and, and_false, one_ne, yone, zsum, zorr, yat, ybit]
      · simp only [hu, c_isUp1 h hc hu, e, show ¬ S.cell c = k by omega, h.rX hc, h.rY hc, zi_eq (show S.cell c % 6 < 2147483648 by omega) (show k % 6 < 2147483648 by omega), zi_eq (show S.cell c / 6 < 2147483648 by have := h.ok.cell c hc; omega) (show k / 6 < 2147483648 by omega), zob_some, mbd_some, mlt_eq, if_true, if_false, zwp_some, yi_nn, yor0, yad0, and_self, true_and, and_true, false_and, and_false, one_ne, yone, zsum, zorr, yat, ybit]
    · simp only [hu, c_isUp0 h hc hu, h.rX hc, h.rY hc, zi_eq (show S.cell c % 6 < 2147483648 by omega) (show k % 6 < 2147483648 by omega), zi_eq (show S.cell c / 6 < 2147483648 by have := h.ok.cell c hc; omega) (show k / 6 < 2147483648 by omega), zob_some, mbd_some, mlt_eq, if_true, if_false, zwp_some, yi_nn, yor0, yad0, and_self, true_and, and_true, false_and, and_false, one_ne, yone, zsum, zorr, yat, ybit]
  · rintro st M' ⟨rfl, rfl⟩
    simp only [mlt_eq, h.tp, h.ct.enc, if_true, zwp_some, and_self]
  · rintro b M' ⟨e, rfl⟩
    exact zwp_ret ⟨e, rfl⟩
theorem c_seenFrom (h : yCS M s t o T S) (k : Nat) (g : Int32) : m_X5_seenFrom s (Int32.ofNat (k % 6)) (Int32.ofNat (k / 6)) g M = some (ysee S k g T.nc, M) := by
  have b1 := h.tk.nc
  have b2 := h.tk.nh
  have b3 := h.tk.nf
  refine zwp_out ?_
  unfold m_X5_seenFrom
  refine zwp_bd (Q' := fun b M' => b.1 = ysee S k g T.nc ∧ M' = M) (zwp_for 0 T.nc (fun c st M' => st = (ysee S k g c, Int32.ofNat c) ∧ M' = M) ?_ ?_ ⟨rfl, rfl⟩ (Nat.zero_le _) (by have : zLF = 100000 := rfl; omega)) ?_
  · rintro c st M' - hc ⟨rfl, rfl⟩
    simp only [mlt_eq, h.tp, h.ct.lnc h.tk hc, if_false, zob_some]
    by_cases hu : S.state c = 1
    · skip
      by_cases e : ¬ g < zab (Int32.ofNat (k % 6) - Int32.ofNat (S.cell c % 6))
      · skip
        by_cases e2 : ¬ g < zab (Int32.ofNat (k / 6) - Int32.ofNat (S.cell c / 6))
        · skip
          simp only [hu, c_isUp1 h hc hu, e, e2, h.rX hc, h.rY hc, zob_some, mbd_some, mlt_eq, if_true, if_false, zwp_some, yi_nn, yor0, yad0, and_self, true_and, and_true, Nat.reduceAdd, one_ne, yone, zsum, zorr, ysee, ybit, yfar, ymx_le, true_or, or_true, false_or, or_false, not_true, not_false_iff]
        · simp only [hu, c_isUp1 h hc hu, e, e2, Decidable.not_not.mp e2, h.rX hc, h.rY hc, zob_some, mbd_some, mlt_eq, if_true, if_false, zwp_some, yi_nn, yor0, yad0, and_self, true_and, and_true, false_and, and_false, one_ne, yone, zsum, zorr, ysee, ybit, yfar, ymx_le, true_or, or_true, false_or, or_false, not_true, not_false_iff]
      · simp only [hu, c_isUp1 h hc hu, e, Decidable.not_not.mp e, h.rX hc, h.rY hc, zob_some, mbd_some, mlt_eq, if_true, if_false, zwp_some, yi_nn, yor0, yad0, and_self, true_and, and_true, false_and, and_false, one_ne, yone, zsum, zorr, ysee, ybit, yfar, ymx_le, true_or, or_true, false_or, or_false, not_true, not_false_iff]
    · simp only [hu, c_isUp0 h hc hu, h.rX hc, h.rY hc, zob_some, mbd_some, mlt_eq, if_true, if_false, zwp_some, yi_nn, yor0, yad0, and_self, true_and, and_true, false_and, and_false, one_ne, yone, zsum, zorr, ysee, ybit, yfar, ymx_le, true_or, or_true, false_or, or_false, not_true, not_false_iff]
  · rintro st M' ⟨rfl, rfl⟩
    simp only [mlt_eq, h.tp, h.ct.enc, if_true, zwp_some, and_self]
  · rintro b M' ⟨e, rfl⟩
    exact zwp_ret ⟨e, rfl⟩
theorem c_seenBy (h : yCS M s t o T S) {q : Nat} (hq : q < T.nh) : m_X5_seenBy s (Int32.ofNat q) M = some (ysee S (S.pos q) (T.sight q) T.nc, M) := by
  simp only [m_X5_seenBy, h.rHx hq, h.rHy hq, mlt_eq, h.tp, h.ct.rSight h.tk hq, zob_some, c_seenFrom h, mbd_some]
theorem ymbd_ite {α β : Type} {p : Prop} [Decidable p] {a b : α} {M : zMem} {f : α → zMem → Option (β × zMem)} : mbd (if p then some (a, M) else some (b, M)) f = f (if p then a else b) M := by
  split <;> rfl
theorem ymx_if {M : zMem} (x y : Int32) : (if x ≤ y then some (y, M) else some (x, M)) = some (zmx x y, M) := by
  unfold zmx
  by_cases e : x ≤ y
  · rw [if_pos e]
    by_cases e2 : x < y
    · rw [if_pos e2]
    · rw [if_neg e2, Int32.le_antisymm e (Int32.not_lt.mp e2)]
  · rw [if_neg e, if_neg (Int32.lt_asymm (Int32.not_le.mp e))]
theorem c_howFar (h : yCS M s t o T S) {q c : Nat} (hq : q < T.nh) (hc : c < T.nc) : m_X5_howFar s (Int32.ofNat q) (Int32.ofNat c) M = some (yfar (S.pos q) (S.cell c), M) := by
  simp only [m_X5_howFar, h.rHx hq, h.rHy hq, h.rX hc, h.rY hc, zob_some, ymbd_ite]
  exact ymx_if _ _
theorem c_canSee (h : yCS M s t o T S) {q c : Nat} (hq : q < T.nh) (hc : c < T.nc) : m_X5_canSee s (Int32.ofNat q) (Int32.ofNat c) M = some (if T.sight q < yfar (S.pos q) (S.cell c) then 0 else 1, M) := by
  simp only [m_X5_canSee, c_howFar h hq hc, mbd_some, mlt_eq, h.tp, h.ct.rSight h.tk hq, zob_some]
  split <;> rfl
theorem c_rainOfOwn (h : yCS M s t o T S) {q : Nat} (hq : q < T.nh) : m_X5_rainOfOwn s (Int32.ofNat q) M = some (zsum (S.rained q) T.nf, M) := by
  have b1 := h.tk.nc
  have b2 := h.tk.nh
  have b3 := h.tk.nf
  refine zwp_out ?_
  unfold m_X5_rainOfOwn
  refine zwp_bd (Q' := fun b M' => b.1 = zsum (S.rained q) T.nf ∧ M' = M) (zwp_for 0 T.nf (fun c st M' => st = (zsum (S.rained q) c, Int32.ofNat c) ∧ M' = M) ?_ ?_ ⟨rfl, rfl⟩ (Nat.zero_le _) (by have : zLF = 100000 := rfl; omega)) ?_
  · rintro c st M' - hc ⟨rfl, rfl⟩
    simp only [mlt_eq, h.tp, h.ct.lnf h.tk hc, if_false, zob_some]
    simp only [h.rw hq, h.rRained hq hc, zob_some, mbd_some, mlt_eq, if_true, if_false, zwp_some, yi_nn, yor0, yad0, and_self, true_and, and_true, Nat.reduceAdd, one_ne, yone, zsum, zorr]
  · rintro st M' ⟨rfl, rfl⟩
    simp only [mlt_eq, h.tp, h.ct.enf, if_true, zwp_some, and_self]
  · rintro b M' ⟨e, rfl⟩
    exact zwp_ret ⟨e, rfl⟩
theorem c_rainInAll (h : yCS M s t o T S) : m_X5_rainInAll s M = some (zsum S.got T.nf, M) := by
  have b1 := h.tk.nc
  have b2 := h.tk.nh
  have b3 := h.tk.nf
  refine zwp_out ?_
  unfold m_X5_rainInAll
  refine zwp_bd (Q' := fun b M' => b.1 = zsum S.got T.nf ∧ M' = M) (zwp_for 0 T.nf (fun c st M' => st = (zsum S.got c, Int32.ofNat c) ∧ M' = M) ?_ ?_ ⟨rfl, rfl⟩ (Nat.zero_le _) (by have : zLF = 100000 := rfl; omega)) ?_
  · rintro c st M' - hc ⟨rfl, rfl⟩
    simp only [mlt_eq, h.tp, h.ct.lnf h.tk hc, if_false, zob_some]
    simp only [h.rGot hc, zob_some, mbd_some, mlt_eq, if_true, if_false, zwp_some, yi_nn, yor0, yad0, and_self, true_and, and_true, Nat.reduceAdd, one_ne, yone, zsum, zorr]
  · rintro st M' ⟨rfl, rfl⟩
    simp only [mlt_eq, h.tp, h.ct.enf, if_true, zwp_some, and_self]
  · rintro b M' ⟨e, rfl⟩
    exact zwp_ret ⟨e, rfl⟩
theorem c_marksInAll (h : yCS M s t o T S) : m_X5_marksInAll s M = some (zsum S.marks T.nh, M) := by
  have b1 := h.tk.nc
  have b2 := h.tk.nh
  have b3 := h.tk.nf
  refine zwp_out ?_
  unfold m_X5_marksInAll
  refine zwp_bd (Q' := fun b M' => b.1 = zsum S.marks T.nh ∧ M' = M) (zwp_for 0 T.nh (fun c st M' => st = (zsum S.marks c, Int32.ofNat c) ∧ M' = M) ?_ ?_ ⟨rfl, rfl⟩ (Nat.zero_le _) (by have : zLF = 100000 := rfl; omega)) ?_
  · rintro c st M' - hc ⟨rfl, rfl⟩
    simp only [mlt_eq, h.tp, h.ct.lnh h.tk hc, if_false, zob_some]
    simp only [h.rMarks hc, zob_some, mbd_some, mlt_eq, if_true, if_false, zwp_some, yi_nn, yor0, yad0, and_self, true_and, and_true, Nat.reduceAdd, one_ne, yone, zsum, zorr]
  · rintro st M' ⟨rfl, rfl⟩
    simp only [mlt_eq, h.tp, h.ct.enh, if_true, zwp_some, and_self]
  · rintro b M' ⟨e, rfl⟩
    exact zwp_ret ⟨e, rfl⟩
theorem c_lacksRain (h : yCS M s t o T S) {f : Nat} (hf : f < T.nf) : m_X5_lacksRain s (Int32.ofNat f) M = some (if S.got f < T.need f then 1 else 0, M) := by
  simp only [m_X5_lacksRain, h.rGot hf, mlt_eq, h.tp, h.ct.rNeed h.tk hf, zob_some, ← Int32.not_lt]
  split <;> simp_all
end
section
variable {M : zMem} {sl : Nat} {o : Int32} {T : yT} {S : yA}
theorem r_up {M : zMem} {sl : Nat} {o : Int32} {T : yT} {S : yA} (h : yRS M sl o T S) {c : Nat} (hc : c < T.nc) : S.state c = 1 ↔ (M.1 240 (8 * sl + c) = 1 ∧ ¬ (o = 2 ∧ Int32.ofNat c = M.1 213 50)) := by
  rw [h.state c hc]
  by_cases e : o = 2 ∧ Int32.ofNat c = M.1 213 50
  · rw [if_pos e]; simp [e]
  · rw [if_neg e]; simp [e]
theorem r_isUp1 {a : Int32} (h : yRS M sl o T S) {c : Nat} (hc : c < T.nc) (hu : S.state c = 1) (ea : zN a sl := by with_reducible repeat (first | assumption | exact zn_of _ | exact zn_lit _ | apply zn_add | apply zn_mul)) : m_X8_isUp a (Int32.ofNat c) M = some (1, M) := by
  obtain rfl := ea.e
  rw [r_up h hc] at hu
  simp only [m_X8_isUp, h.rHow hc, zob_some, hu.1, if_true, h.ot]
  by_cases e : o = 2
  · have := fun e' => hu.2 ⟨e, e'⟩
    rw [if_pos e, if_neg this]
  · rw [if_neg e]
theorem r_isUp0 {a : Int32} (h : yRS M sl o T S) {c : Nat} (hc : c < T.nc) (hu : ¬ S.state c = 1) (ea : zN a sl := by with_reducible repeat (first | assumption | exact zn_of _ | exact zn_lit _ | apply zn_add | apply zn_mul)) : m_X8_isUp a (Int32.ofNat c) M = some (0, M) := by
  obtain rfl := ea.e
  rw [r_up h hc] at hu
  simp only [m_X8_isUp, h.rHow hc, zob_some, h.ot]
  by_cases e : M.1 240 (8 * sl + c) = 1
  · have : o = 2 ∧ Int32.ofNat c = M.1 213 50 := Decidable.byContradiction fun z => hu ⟨e, z⟩
    rw [if_pos e, if_pos this.1, if_pos this.2]
  · rw [if_neg e]
theorem r_upMany {a : Int32} (h : yRS M sl o T S) (ea : zN a sl := by with_reducible repeat (first | assumption | exact zn_of _ | exact zn_lit _ | apply zn_add | apply zn_mul)) : m_X8_upMany a M = some (yup S 1 T.nc, M) := by
  have b1 := h.tk.nc
  have b2 := h.tk.nh
  have b3 := h.tk.nf
  obtain rfl := ea.e
  refine zwp_out ?_
  unfold m_X8_upMany
  refine zwp_bd (Q' := fun b M' => b.1 = yup S 1 T.nc ∧ M' = M) (zwp_for 0 T.nc (fun c st M' => st = (yup S 1 c, Int32.ofNat c) ∧ M' = M) ?_ ?_ ⟨rfl, rfl⟩ (Nat.zero_le _) (by have : zLF = 100000 := rfl; omega)) ?_
  · rintro c st M' - hc ⟨rfl, rfl⟩
    simp only [h.rt.rNc, zob_some, yle_f hc (by omega), if_false]
    by_cases hu : S.state c = 1
    · skip
      simp only [hu, r_isUp1 h hc hu, zob_some, mbd_some, mlt_eq, if_true, if_false, zwp_some, yi_nn, yor0, yad0, and_self, true_and, and_true, Nat.reduceAdd, one_ne, yone, zsum, zorr, yup]
    · simp only [hu, r_isUp0 h hc hu, zob_some, mbd_some, mlt_eq, if_true, if_false, zwp_some, yi_nn, yor0, yad0, and_self, true_and, and_true, false_and, and_false, one_ne, yone, zsum, zorr, yup]
  · rintro st M' ⟨rfl, rfl⟩
    simp only [h.rt.rNc, zob_some, yle_t, if_true, zwp_some, and_self]
  · rintro b M' ⟨e, rfl⟩
    exact zwp_ret ⟨e, rfl⟩
theorem r_ownUp {a : Int32} (h : yRS M sl o T S) (q : Int32) (ea : zN a sl := by with_reducible repeat (first | assumption | exact zn_of _ | exact zn_lit _ | apply zn_add | apply zn_mul)) : m_X8_ownUp a q M = some (yown S q T.nc, M) := by
  have b1 := h.tk.nc
  have b2 := h.tk.nh
  have b3 := h.tk.nf
  obtain rfl := ea.e
  refine zwp_out ?_
  unfold m_X8_ownUp
  refine zwp_bd (Q' := fun b M' => b.1 = yown S q T.nc ∧ M' = M) (zwp_for 0 T.nc (fun c st M' => st = (yown S q c, Int32.ofNat c) ∧ M' = M) ?_ ?_ ⟨rfl, rfl⟩ (Nat.zero_le _) (by have : zLF = 100000 := rfl; omega)) ?_
  · rintro c st M' - hc ⟨rfl, rfl⟩
    simp only [h.rt.rNc, zob_some, yle_f hc (by omega), if_false]
    by_cases hu : S.state c = 1
    · skip
      by_cases e : S.owner c = q
      · skip
        simp only [hu, r_isUp1 h hc hu, e, h.rOwner hc, zob_some, mbd_some, mlt_eq, if_true, if_false, zwp_some, yi_nn, yor0, yad0, and_self, true_and, and_true, Nat.reduceAdd, one_ne, yone, zsum, zorr, yown]
      · simp only [hu, r_isUp1 h hc hu, e, h.rOwner hc, zob_some, mbd_some, mlt_eq, if_true, if_false, zwp_some, yi_nn, yor0, yad0, and_self, true_and, and_true, false_and, and_false, one_ne, yone, zsum, zorr, yown]
    · simp only [hu, r_isUp0 h hc hu, h.rOwner hc, zob_some, mbd_some, mlt_eq, if_true, if_false, zwp_some, yi_nn, yor0, yad0, and_self, true_and, and_true, false_and, and_false, one_ne, yone, zsum, zorr, yown]
  · rintro st M' ⟨rfl, rfl⟩
    simp only [h.rt.rNc, zob_some, yle_t, if_true, zwp_some, and_self]
  · rintro b M' ⟨e, rfl⟩
    exact zwp_ret ⟨e, rfl⟩
theorem r_upIn {a : Int32} (h : yRS M sl o T S) (k : Nat) (hk : k < 24) (ea : zN a sl := by with_reducible repeat (first | assumption | exact zn_of _ | exact zn_lit _ | apply zn_add | apply zn_mul)) : m_X8_upIn a (Int32.ofNat k) M = some (yat S k T.nc, M) := by
  have b1 := h.tk.nc
  have b2 := h.tk.nh
  have b3 := h.tk.nf
  obtain rfl := ea.e
  refine zwp_out ?_
  unfold m_X8_upIn
  refine zwp_bd (Q' := fun b M' => b.1 = yat S k T.nc ∧ M' = M) (zwp_for 0 T.nc (fun c st M' => st = (yat S k c, Int32.ofNat c) ∧ M' = M) ?_ ?_ ⟨rfl, rfl⟩ (Nat.zero_le _) (by have : zLF = 100000 := rfl; omega)) ?_
  · rintro c st M' - hc ⟨rfl, rfl⟩
    simp only [h.rt.rNc, zob_some, yle_f hc (by omega), if_false]
    by_cases hu : S.state c = 1
    · skip
      by_cases e : S.cell c = k
      · skip
        simp only [hu, r_isUp1 h hc hu, e, h.rCell hc, zi_eq (show S.cell c < 2147483648 by have := h.ok.cell c hc; omega) (show k < 2147483648 by omega), zob_some, mbd_some, mlt_eq, if_true, if_false, zwp_some, yi_nn, yor0, yad0, and_self, true_and, and_true, Nat.reduceAdd, one_ne, yone, zsum, zorr, yat, ybit]
      · simp only [hu, r_isUp1 h hc hu, e, h.rCell hc, zi_eq (show S.cell c < 2147483648 by have := h.ok.cell c hc; omega) (show k < 2147483648 by omega), zob_some, mbd_some, mlt_eq, if_true, if_false, zwp_some, yi_nn, yor0, yad0, and_self, true_and, and_true, false_and, and_false, one_ne, yone, zsum, zorr, yat, ybit]
    · simp only [hu, r_isUp0 h hc hu, h.rCell hc, zi_eq (show S.cell c < 2147483648 by have := h.ok.cell c hc; omega) (show k < 2147483648 by omega), zob_some, mbd_some, mlt_eq, if_true, if_false, zwp_some, yi_nn, yor0, yad0, and_self, true_and, and_true, false_and, and_false, one_ne, yone, zsum, zorr, yat, ybit]
  · rintro st M' ⟨rfl, rfl⟩
    simp only [h.rt.rNc, zob_some, yle_t, if_true, zwp_some, and_self]
  · rintro b M' ⟨e, rfl⟩
    exact zwp_ret ⟨e, rfl⟩
theorem r_rainAll {a : Int32} (h : yRS M sl o T S) (ea : zN a sl := by with_reducible repeat (first | assumption | exact zn_of _ | exact zn_lit _ | apply zn_add | apply zn_mul)) : m_X8_rainAll a M = some (zsum S.got T.nf, M) := by
  have b1 := h.tk.nc
  have b2 := h.tk.nh
  have b3 := h.tk.nf
  obtain rfl := ea.e
  refine zwp_out ?_
  unfold m_X8_rainAll
  refine zwp_bd (Q' := fun b M' => b.1 = zsum S.got T.nf ∧ M' = M) (zwp_for 0 T.nf (fun c st M' => st = (zsum S.got c, Int32.ofNat c) ∧ M' = M) ?_ ?_ ⟨rfl, rfl⟩ (Nat.zero_le _) (by have : zLF = 100000 := rfl; omega)) ?_
  · rintro c st M' - hc ⟨rfl, rfl⟩
    simp only [h.rt.rNf, zob_some, yle_f hc (by omega), if_false]
    simp only [h.rGot hc, zob_some, mbd_some, mlt_eq, if_true, if_false, zwp_some, yi_nn, yor0, yad0, and_self, true_and, and_true, Nat.reduceAdd, one_ne, yone, zsum, zorr]
  · rintro st M' ⟨rfl, rfl⟩
    simp only [h.rt.rNf, zob_some, yle_t, if_true, zwp_some, and_self]
  · rintro b M' ⟨e, rfl⟩
    exact zwp_ret ⟨e, rfl⟩
theorem r_rainBy {a : Int32} (h : yRS M sl o T S) {q : Nat} (hq : q < T.nh) (ea : zN a sl := by with_reducible repeat (first | assumption | exact zn_of _ | exact zn_lit _ | apply zn_add | apply zn_mul)) : m_X8_rainBy a (Int32.ofNat q) M = some (zsum (S.rained q) T.nf, M) := by
  have b1 := h.tk.nc
  have b2 := h.tk.nh
  have b3 := h.tk.nf
  obtain rfl := ea.e
  refine zwp_out ?_
  unfold m_X8_rainBy
  refine zwp_bd (Q' := fun b M' => b.1 = zsum (S.rained q) T.nf ∧ M' = M) (zwp_for 0 T.nf (fun c st M' => st = (zsum (S.rained q) c, Int32.ofNat c) ∧ M' = M) ?_ ?_ ⟨rfl, rfl⟩ (Nat.zero_le _) (by have : zLF = 100000 := rfl; omega)) ?_
  · rintro c st M' - hc ⟨rfl, rfl⟩
    simp only [h.rt.rNf, zob_some, yle_f hc (by omega), if_false]
    simp only [h.rRained hq hc, zob_some, mbd_some, mlt_eq, if_true, if_false, zwp_some, yi_nn, yor0, yad0, and_self, true_and, and_true, Nat.reduceAdd, one_ne, yone, zsum, zorr]
  · rintro st M' ⟨rfl, rfl⟩
    simp only [h.rt.rNf, zob_some, yle_t, if_true, zwp_some, and_self]
  · rintro b M' ⟨e, rfl⟩
    exact zwp_ret ⟨e, rfl⟩
theorem r_marksAll {a : Int32} (h : yRS M sl o T S) (ea : zN a sl := by with_reducible repeat (first | assumption | exact zn_of _ | exact zn_lit _ | apply zn_add | apply zn_mul)) : m_X8_marksAll a M = some (zsum S.marks T.nh, M) := by
  have b1 := h.tk.nc
  have b2 := h.tk.nh
  have b3 := h.tk.nf
  obtain rfl := ea.e
  refine zwp_out ?_
  unfold m_X8_marksAll
  refine zwp_bd (Q' := fun b M' => b.1 = zsum S.marks T.nh ∧ M' = M) (zwp_for 0 T.nh (fun c st M' => st = (zsum S.marks c, Int32.ofNat c) ∧ M' = M) ?_ ?_ ⟨rfl, rfl⟩ (Nat.zero_le _) (by have : zLF = 100000 := rfl; omega)) ?_
  · rintro c st M' - hc ⟨rfl, rfl⟩
    simp only [h.rt.rNh, zob_some, yle_f hc (by omega), if_false]
    simp only [h.rMarks hc, zob_some, mbd_some, mlt_eq, if_true, if_false, zwp_some, yi_nn, yor0, yad0, and_self, true_and, and_true, Nat.reduceAdd, one_ne, yone, zsum, zorr]
  · rintro st M' ⟨rfl, rfl⟩
    simp only [h.rt.rNh, zob_some, yle_t, if_true, zwp_some, and_self]
  · rintro b M' ⟨e, rfl⟩
    exact zwp_ret ⟨e, rfl⟩
theorem r_farOf {a b : Nat} (ha : a < 24) (hb : b < 24) : m_X8_farOf (Int32.ofNat a) (Int32.ofNat b) M = some (yfar a b, M) := by
  simp only [m_X8_farOf, yrm6 a ha, yrm6 b hb, ydv6 a ha, ydv6 b hb, yfar]
theorem r_doesSee {a : Int32} (h : yRS M sl o T S) {q k : Nat} (hq : q < T.nh) (hk : k < 24) (ea : zN a sl := by with_reducible repeat (first | assumption | exact zn_of _ | exact zn_lit _ | apply zn_add | apply zn_mul)) : m_X8_doesSee a (Int32.ofNat q) (Int32.ofNat k) M = some (if T.sight q < yfar (S.pos q) k then 0 else 1, M) := by
  obtain rfl := ea.e
  simp only [m_X8_doesSee, h.rPos hq, zob_some, r_farOf (h.ok.pos q hq) hk, mbd_some, h.rt.rSight h.tk hq]
  split <;> rfl
theorem r_howMany {a : Int32} (h : yRS M sl o T S) (ho : o ≠ 2) (w : Int32) (ea : zN a sl := by with_reducible repeat (first | assumption | exact zn_of _ | exact zn_lit _ | apply zn_add | apply zn_mul)) : m_X8_howMany a w M = some (yup S w T.nc, M) := by
  have b1 := h.tk.nc
  have b2 := h.tk.nh
  have b3 := h.tk.nf
  obtain rfl := ea.e
  refine zwp_out ?_
  unfold m_X8_howMany
  refine zwp_bd (Q' := fun b M' => b.1 = yup S w T.nc ∧ M' = M) (zwp_for 0 T.nc (fun c st M' => st = (yup S w c, Int32.ofNat c) ∧ M' = M) ?_ ?_ ⟨rfl, rfl⟩ (Nat.zero_le _) (by have : zLF = 100000 := rfl; omega)) ?_
  · rintro c st M' - hc ⟨rfl, rfl⟩
    simp only [h.rt.rNc, zob_some, yle_f hc (by omega), if_false]
    by_cases e : M'.1 240 (8 * sl + c) = w
    · skip
      simp only [e, show S.state c = w by rw [h.state c hc, if_neg (fun z => ho z.1)]; exact e, h.rHow hc, zob_some, mbd_some, mlt_eq, if_true, if_false, zwp_some, yi_nn, yor0, yad0, and_self, true_and, and_true, Nat.reduceAdd, one_ne, yone, zsum, zorr, yup]
    · simp only [e, show ¬ S.state c = w by rw [h.state c hc, if_neg (fun z => ho z.1)]; exact e, h.rHow hc, zob_some, mbd_some, mlt_eq, if_true, if_false, zwp_some, yi_nn, yor0, yad0, and_self, true_and, and_true, false_and, and_false, one_ne, yone, zsum, zorr, yup]
  · rintro st M' ⟨rfl, rfl⟩
    simp only [h.rt.rNc, zob_some, yle_t, if_true, zwp_some, and_self]
  · rintro b M' ⟨e, rfl⟩
    exact zwp_ret ⟨e, rfl⟩
end
def ygr (T : yT) (o : Int32) (k : Nat) : Int32 := if o = 5 then 1 else if o = 3 ∧ T.ground k = 2 then 0 else T.ground k
def ywn (T : yT) (o : Int32) (S : yA) : Int32 := if o = 1 then 0 else if S.blown = -1 then (if T.nw = 0 then 0 else T.wind (S.hour % T.nw)) else S.blown
abbrev yfp (S : yA) (T : yT) (q : Nat) (c : Nat) : Prop := S.state c = 1 ∧ S.owner c = Int32.ofNat q ∧ ¬ T.sight q < yfar (S.pos q) (S.cell c)
theorem zfst_step {p : Nat → Prop} [DecidablePred p] {c n : Nat} (hc : c < n) (h : ¬ p c) : zfst p c (n - c) = zfst p (c + 1) (n - (c + 1)) := by
  rw [show n - c = (n - (c + 1)) + 1 by omega]
  show (if p c then _ else _) = _
  rw [if_neg h]
theorem zfst_hit {p : Nat → Prop} [DecidablePred p] {c n : Nat} (hc : c < n) (h : p c) : zfst p c (n - c) = Int32.ofNat c := by
  rw [show n - c = (n - (c + 1)) + 1 by omega]
  show (if p c then _ else _) = _
  rw [if_pos h]
theorem zfst_in {p : Nat → Prop} [DecidablePred p] {n : Nat} : ∀ c, zfst p c n = -1 ∨ ∃ j, c ≤ j ∧ j < c + n ∧ p j ∧ zfst p c n = Int32.ofNat j := by
  induction n with
  | zero => intro c; exact Or.inl rfl
  | succ n ih =>
    intro c
    show (if p c then _ else _) = _ ∨ ∃ j, _ ∧ _ ∧ _ ∧ (if p c then _ else _) = _
    by_cases h : p c
    · right; refine ⟨c, Nat.le_refl _, by omega, h, ?_⟩; rw [if_pos h]
    · rw [if_neg h]
      rcases ih (c + 1) with e | ⟨j, h1, h2, h3, h4⟩
      · exact Or.inl e
      · exact Or.inr ⟨j, by omega, by omega, h3, h4⟩
section
variable {M : zMem} {s t : Nat} {o : Int32} {T : yT} {S : yA}
theorem c_ground (h : yCS M s t o T S) {k : Nat} (hk : k < 24) : m_X5_groundAt s (Int32.ofNat (k % 6)) (Int32.ofNat (k / 6)) M = some (ygr T o k, M) := by
  have e : (6 : Int32) * Int32.ofNat (k / 6) + Int32.ofNat (k % 6) = Int32.ofNat k := by
    rw [show k = 6 * (k / 6) + k % 6 by omega]
    rw [Int32.ofNat_add, Int32.ofNat_mul, show (6 * (k / 6) + k % 6) / 6 = k / 6 by omega, show (6 * (k / 6) + k % 6) % 6 = k % 6 by omega]
    rfl
  have e1 : ¬ (24 : Int32) ≤ Int32.ofNat k := by
    rw [show (24 : Int32) = Int32.ofNat 24 from rfl, zi_le (by omega) (by omega)]; omega
  unfold m_X5_groundAt
  rw [e, h.ot, if_neg (zi_nn (by omega)), if_neg e1]
  simp only [mlt_eq, h.tp, h.ct.rGround h.tk hk, zob_some, mbd_some, h.ot, ygr]
  by_cases h5 : o = 5
  · simp only [h5, if_true]
  · by_cases h3 : o = 3
    · by_cases hg : T.ground k = 2
      · simp only [h5, h3, hg, if_true, if_false, and_self]; rfl
      · simp only [h5, h3, hg, if_true, if_false, and_false]; rfl
    · simp only [h5, h3, if_true, if_false, false_and]
theorem yrm_of {a b : Nat} (ha : a < 2147483648) (hb : b < 2147483648) : zrm (Int32.ofNat a) (Int32.ofNat b) = Int32.ofNat (a % b) := by
  have hm : a % b ≤ a := Nat.mod_le _ _
  have hd : a / b ≤ a := Nat.div_le_self _ _
  have e : Int32.ofNat a / Int32.ofNat b = Int32.ofNat (a / b) := by
    rw [← Int32.toInt_inj, Int32.toInt_div_of_ne_left, Int32.toInt_ofNat_of_lt ha, Int32.toInt_ofNat_of_lt hb, Int32.toInt_ofNat_of_lt (by omega)]
    · rw [Int.ofNat_tdiv]
    · intro e
      have := congrArg Int32.toInt e
      rw [Int32.toInt_ofNat_of_lt ha] at this
      have h2 : Int32.toInt Int32.minValue = -2147483648 := by decide
      omega
  unfold zrm
  rw [e, ← Int32.ofNat_mul]
  have h1 : a = a % b + a / b * b := by rw [Nat.mul_comm]; exact (Nat.mod_add_div a b).symm
  conv => lhs; lhs; rw [h1, Int32.ofNat_add]
  exact Int32.add_sub_cancel _ _
theorem c_wind (h : yCS M s t o T S) (hh : S.hour < 2147483648) : m_X5_windNow s M = some (ywn T o S, M) := by
  have b4 := h.tk.nw
  have e0 : (Int32.ofNat T.nw ≤ 0) = (T.nw = 0) := by
    rw [show (0 : Int32) = Int32.ofNat 0 from rfl, zi_le (by omega) (by omega), eq_iff_iff]; omega
  simp only [m_X5_windNow, h.ot, h.blown, mlt_eq, h.tp, h.ct.nw, h.hour, e0, ywn]
  by_cases h1 : o = 1
  · simp only [h1, if_true]
  · by_cases h2 : S.blown = -1
    · by_cases h3 : T.nw = 0
      · simp only [h1, h2, h3, if_true, if_false]
      · have h4 : ¬ Int32.ofNat T.nw = 0 := by rw [show (0 : Int32) = Int32.ofNat 0 from rfl, zi_eq (by omega) (by omega)]; exact h3
        simp only [h1, h2, h3, if_true, if_false, zrp, h4, zob_some, yrm_of hh (show T.nw < 2147483648 by omega), h.ct.rWind h.tk (Nat.mod_lt _ (Nat.pos_of_ne_zero h3))]
    · simp only [h1, h2, if_true, if_false]
abbrev ysw (S : yA) (a b : Nat) : Prop := S.state a = 1 ∧ S.state b = 1 ∧ S.owner a ≠ -1 ∧ S.owner b ≠ -1 ∧ S.owner a ≠ S.owner b ∧ ¬ yfar (S.pos (S.owner a).toNatClampNeg) (S.cell a) ≤ yfar (S.pos (S.owner a).toNatClampNeg) (S.cell b) ∧ ¬ yfar (S.pos (S.owner b).toNatClampNeg) (S.cell b) ≤ yfar (S.pos (S.owner b).toNatClampNeg) (S.cell a)
theorem c_wouldSwap (h : yCS M s t o T S) {a b : Nat} (ha : a < T.nc) (hb : b < T.nc) : m_X5_wouldSwap s (Int32.ofNat a) (Int32.ofNat b) M = some (if ysw S a b then 1 else 0, M) := by
  have b2 := h.tk.nh
  unfold m_X5_wouldSwap
  simp only [h.rOwner ha, h.rOwner hb, zob_some]
  by_cases h1 : S.state a = 1
  · by_cases h2 : S.state b = 1
    · simp only [c_isUp1 h ha h1, c_isUp1 h hb h2, mbd_some, one_ne, if_false]
      rcases h.ok.owner a ha with e1 | ⟨p, hp, e1⟩
      · rw [if_pos e1, if_neg (fun z => z.2.2.1 e1)]
      · rcases h.ok.owner b hb with e2 | ⟨q, hq, e2⟩
        · rw [if_neg (by rw [e1]; exact zi_n1 (by omega)), if_pos e2, if_neg (fun z => z.2.2.2.1 e2)]
        · have n1 : ¬ S.owner a = -1 := by rw [e1]; exact zi_n1 (by omega)
          have n2 : ¬ S.owner b = -1 := by rw [e2]; exact zi_n1 (by omega)
          have k1 : (S.owner a).toNatClampNeg = p := by rw [e1]; exact zi_cl (by omega)
          have k2 : (S.owner b).toNatClampNeg = q := by rw [e2]; exact zi_cl (by omega)
          rw [if_neg n1, if_neg n2]
          by_cases h3 : S.owner a = S.owner b
          · rw [if_pos h3, if_neg (fun z => z.2.2.2.2.1 h3)]
          · rw [if_neg h3]
            simp only [e1, e2, c_howFar h hp hb, c_howFar h hp ha, c_howFar h hq ha, c_howFar h hq hb, mbd_some]
            by_cases h4 : yfar (S.pos p) (S.cell a) ≤ yfar (S.pos p) (S.cell b)
            · rw [if_pos h4, if_neg (fun z => z.2.2.2.2.2.1 (by rw [k1]; exact h4))]
            · rw [if_neg h4]
              by_cases h5 : yfar (S.pos q) (S.cell b) ≤ yfar (S.pos q) (S.cell a)
              · rw [if_pos h5, if_neg (fun z => z.2.2.2.2.2.2 (by rw [k2]; exact h5))]
              · rw [if_neg h5, if_pos ⟨h1, h2, n1, n2, h3, by rw [k1]; exact h4, by rw [k2]; exact h5⟩]
    · simp only [c_isUp1 h ha h1, c_isUp0 h hb h2, mbd_some, one_ne, if_false, if_true]
      rw [if_neg (fun z => h2 z.2.1)]
  · simp only [c_isUp0 h ha h1, mbd_some, if_true]
    rw [if_neg (fun z => h1 z.1)]
theorem c_firstToPush (h : yCS M s t o T S) {q : Nat} (hq : q < T.nh) : m_X5_firstToPush s (Int32.ofNat q) M = some (zfst (yfp S T q) 0 T.nc, M) := by
  have b1 := h.tk.nc
  refine zwp_out ?_
  unfold m_X5_firstToPush
  refine zwp_bd (Q' := fun b M' => M' = M ∧ match b with
      | .inl _ => zfst (yfp S T q) 0 T.nc = -1
      | .inr r => r = zfst (yfp S T q) 0 T.nc) (zwp_for 0 T.nc (fun c st M' => st = Int32.ofNat c ∧ M' = M ∧ zfst (yfp S T q) 0 T.nc = zfst (yfp S T q) c (T.nc - c)) ?_ ?_ ⟨rfl, rfl, rfl⟩ (Nat.zero_le _) (by have : zLF = 100000 := rfl; omega)) ?_
  · rintro c st M' - hc ⟨rfl, rfl, e⟩
    simp only [mlt_eq, h.tp, h.ct.lnc h.tk hc, if_false, zob_some]
    by_cases hu : S.state c = 1
    · simp only [c_isUp1 h hc hu, mbd_some, one_ne, if_false, h.rOwner hc, zob_some]
      by_cases ho : S.owner c = Int32.ofNat q
      · simp only [ho, if_true, c_canSee h hq hc, mbd_some]
        by_cases hs : T.sight q < yfar (S.pos q) (S.cell c)
        · simp only [hs, if_true, zwp_some, yi_nn]
          refine ⟨trivial, trivial, e.trans (zfst_step hc fun z => z.2.2 hs)⟩
        · simp only [hs, if_false, one_ne, zwp_some]
          exact ⟨trivial, (e.trans (zfst_hit hc ⟨hu, ho, hs⟩)).symm⟩
      · simp only [ho, if_false, zwp_some, yi_nn]
        exact ⟨trivial, trivial, e.trans (zfst_step hc fun z => ho z.2.1)⟩
    · simp only [c_isUp0 h hc hu, mbd_some, if_true, zwp_some, yi_nn]
      exact ⟨trivial, trivial, e.trans (zfst_step hc fun z => hu z.1)⟩
  · rintro st M' ⟨rfl, rfl, e⟩
    simp only [mlt_eq, h.tp, h.ct.enc, if_true, zwp_some]
    refine ⟨trivial, e.trans ?_⟩
    rw [Nat.sub_self]; rfl
  · rintro b M' ⟨rfl, e⟩
    cases b with
    | inl e3 => exact zwp_ret ⟨e.symm, rfl⟩
    | inr r => exact zwp_ret ⟨e, rfl⟩
end
section
variable {M : zMem} {sl : Nat} {o : Int32} {T : yT} {S : yA}
theorem r_ground (h : yRS M sl o T S) {k : Nat} (hk : k < 24) : m_X8_groundIn (Int32.ofNat k) M = some (ygr T o k, M) := by
  simp only [m_X8_groundIn, h.ot, h.rt.rGround h.tk hk, zob_some, ygr]
  by_cases h5 : o = 5
  · simp only [h5, if_true]
  · by_cases h3 : o = 3
    · by_cases hg : T.ground k = 2
      · simp only [h5, h3, hg, if_true, if_false, and_self]; rfl
      · simp only [h5, h3, hg, if_true, if_false, and_false]; rfl
    · simp only [h5, h3, if_true, if_false, false_and]
theorem r_ownSeen {a : Int32} (h : yRS M sl o T S) {q : Nat} (hq : q < T.nh) (ea : zN a sl := by with_reducible repeat (first | assumption | exact zn_of _ | exact zn_lit _ | apply zn_add | apply zn_mul)) : m_X8_ownSeen a (Int32.ofNat q) M = some (zfst (yfp S T q) 0 T.nc, M) := by
  have b1 := h.tk.nc
  obtain rfl := ea.e
  refine zwp_out ?_
  unfold m_X8_ownSeen
  refine zwp_bd (Q' := fun b M' => M' = M ∧ match b with
      | .inl _ => zfst (yfp S T q) 0 T.nc = -1
      | .inr r => r = zfst (yfp S T q) 0 T.nc) (zwp_for 0 T.nc (fun c st M' => st = Int32.ofNat c ∧ M' = M ∧ zfst (yfp S T q) 0 T.nc = zfst (yfp S T q) c (T.nc - c)) ?_ ?_ ⟨rfl, rfl, rfl⟩ (Nat.zero_le _) (by have : zLF = 100000 := rfl; omega)) ?_
  · rintro c st M' - hc ⟨rfl, rfl, e⟩
    simp only [h.rt.rNc, zob_some, yle_f hc (by omega), if_false]
    by_cases hu : S.state c = 1
    · simp only [r_isUp1 h hc hu, mbd_some, one_ne, if_false, h.rOwner hc, zob_some]
      by_cases ho : S.owner c = Int32.ofNat q
      · simp only [ho, if_true, h.rCell hc, zob_some, r_doesSee h hq (h.ok.cell c hc), mbd_some]
        by_cases hs : T.sight q < yfar (S.pos q) (S.cell c)
        · simp only [hs, if_true, zwp_some, yi_nn]
          refine ⟨trivial, trivial, e.trans (zfst_step hc fun z => z.2.2 hs)⟩
        · simp only [hs, if_false, one_ne, zwp_some]
          exact ⟨trivial, (e.trans (zfst_hit hc ⟨hu, ho, hs⟩)).symm⟩
      · simp only [ho, if_false, zwp_some, yi_nn]
        exact ⟨trivial, trivial, e.trans (zfst_step hc fun z => ho z.2.1)⟩
    · simp only [r_isUp0 h hc hu, mbd_some, if_true, zwp_some, yi_nn]
      exact ⟨trivial, trivial, e.trans (zfst_step hc fun z => hu z.1)⟩
  · rintro st M' ⟨rfl, rfl, e⟩
    simp only [h.rt.rNc, zob_some, yle_t, if_true, zwp_some]
    refine ⟨trivial, e.trans ?_⟩
    rw [Nat.sub_self]; rfl
  · rintro b M' ⟨rfl, e⟩
    cases b with
    | inl e3 => exact zwp_ret ⟨e.symm, rfl⟩
    | inr r => exact zwp_ret ⟨e, rfl⟩
theorem r_wind {a : Int32} (h : yRS M sl o T S) (hh : S.hour < 2147483648) (w : Int32) (hw : M.1 213 51 = w) (ea : zN a sl := by with_reducible repeat (first | assumption | exact zn_of _ | exact zn_lit _ | apply zn_add | apply zn_mul)) : m_X8_windIn a M = some (if o = 1 then 0 else if w = -1 then ywn T o S else w, M) := by
  obtain rfl := ea.e
  have b4 := h.tk.nw
  have e0 : (Int32.ofNat T.nw = 0) = (T.nw = 0) := by
    rw [show (0 : Int32) = Int32.ofNat 0 from rfl, zi_eq (by omega) (by omega)]
  simp only [m_X8_windIn, h.ot, hw, h.rBlown, h.rt.rNw, h.rHour, zob_some, e0, ywn]
  by_cases h1 : o = 1
  · simp only [h1, if_true]
  · by_cases h5 : w = -1
    · by_cases h2 : S.blown = -1
      · by_cases h3 : T.nw = 0
        · simp only [h1, h2, h3, h5, if_true, if_false]
        · have h4 : ¬ Int32.ofNat T.nw = 0 := by rw [e0]; exact h3
          simp only [h1, h2, h3, h5, if_true, if_false, zrp, h4, zob_some, yrm_of hh (show T.nw < 2147483648 by omega), h.rt.rWind h.tk (Nat.mod_lt _ (Nat.pos_of_ne_zero h3))]
      · simp only [h1, h2, h5, if_true, if_false]
    · simp only [h1, h5, if_true, if_false]
theorem yRS.rOwner0 (h : yRS M 0 o T S) {c : Nat} (hc : c < T.nc) : mrd M 239 (Int32.ofNat c) = some (S.owner c) := by
  have := h.rOwner hc
  rwa [show (8 : Int32) * Int32.ofNat 0 + Int32.ofNat c = Int32.ofNat c by rw [show (8 : Int32) * Int32.ofNat 0 = 0 from rfl, Int32.zero_add]] at this
theorem yRS.rCell0 (h : yRS M 0 o T S) {c : Nat} (hc : c < T.nc) : mrd M 236 (Int32.ofNat c) = some (Int32.ofNat (S.cell c)) := by
  have := h.rCell hc
  rwa [show (8 : Int32) * Int32.ofNat 0 + Int32.ofNat c = Int32.ofNat c by rw [show (8 : Int32) * Int32.ofNat 0 = 0 from rfl, Int32.zero_add]] at this
theorem yRS.rSize0 (h : yRS M 0 o T S) {c : Nat} (hc : c < T.nc) : mrd M 237 (Int32.ofNat c) = some (S.size c) := by
  have := h.rSize hc
  rwa [show (8 : Int32) * Int32.ofNat 0 + Int32.ofNat c = Int32.ofNat c by rw [show (8 : Int32) * Int32.ofNat 0 = 0 from rfl, Int32.zero_add]] at this
theorem yRS.rAge0 (h : yRS M 0 o T S) {c : Nat} (hc : c < T.nc) : mrd M 238 (Int32.ofNat c) = some (S.age c) := by
  have := h.rAge hc
  rwa [show (8 : Int32) * Int32.ofNat 0 + Int32.ofNat c = Int32.ofNat c by rw [show (8 : Int32) * Int32.ofNat 0 = 0 from rfl, Int32.zero_add]] at this
theorem yRS.rHow0 (h : yRS M 0 o T S) (ho : o ≠ 2) {c : Nat} (hc : c < T.nc) : mrd M 240 (Int32.ofNat c) = some (S.state c) := by
  have := h.rHow hc
  rw [show (8 : Int32) * Int32.ofNat 0 + Int32.ofNat c = Int32.ofNat c by rw [show (8 : Int32) * Int32.ofNat 0 = 0 from rfl, Int32.zero_add]] at this
  rw [this, h.state c hc, if_neg (fun z => ho z.1)]
theorem yRS.rPos0 (h : yRS M 0 o T S) {c : Nat} (hc : c < T.nh) : mrd M 241 (Int32.ofNat c) = some (Int32.ofNat (S.pos c)) := by
  have := h.rPos hc
  rwa [show (6 : Int32) * Int32.ofNat 0 + Int32.ofNat c = Int32.ofNat c by rw [show (6 : Int32) * Int32.ofNat 0 = 0 from rfl, Int32.zero_add]] at this
theorem yRS.rMarks0 (h : yRS M 0 o T S) {c : Nat} (hc : c < T.nh) : mrd M 242 (Int32.ofNat c) = some (S.marks c) := by
  have := h.rMarks hc
  rwa [show (6 : Int32) * Int32.ofNat 0 + Int32.ofNat c = Int32.ofNat c by rw [show (6 : Int32) * Int32.ofNat 0 = 0 from rfl, Int32.zero_add]] at this
theorem yRS.rGot0 (h : yRS M 0 o T S) {c : Nat} (hc : c < T.nf) : mrd M 243 (Int32.ofNat c) = some (S.got c) := by
  have := h.rGot hc
  rwa [show (5 : Int32) * Int32.ofNat 0 + Int32.ofNat c = Int32.ofNat c by rw [show (5 : Int32) * Int32.ofNat 0 = 0 from rfl, Int32.zero_add]] at this
theorem r_wouldSwap (h : yRS M 0 o T S) {a b : Nat} (ha : a < T.nc) (hb : b < T.nc) : m_X8_wouldSwap (Int32.ofNat a) (Int32.ofNat b) M = some (if ysw S a b then 1 else 0, M) := by
  have b2 := h.tk.nh
  have ca := h.ok.cell a ha
  have cb := h.ok.cell b hb
  unfold m_X8_wouldSwap
  by_cases h1 : S.state a = 1
  · by_cases h2 : S.state b = 1
    · simp only [r_isUp1 (a := 0) h ha h1, r_isUp1 (a := 0) h hb h2, mbd_some, one_ne, if_false, h.rOwner0 ha, h.rOwner0 hb, zob_some]
      rcases h.ok.owner a ha with e1 | ⟨p, hp, e1⟩
      · rw [if_pos e1, if_neg (fun z => z.2.2.1 e1)]
      · rcases h.ok.owner b hb with e2 | ⟨q, hq, e2⟩
        · rw [if_neg (by rw [e1]; exact zi_n1 (by omega)), if_pos e2, if_neg (fun z => z.2.2.2.1 e2)]
        · have n1 : ¬ S.owner a = -1 := by rw [e1]; exact zi_n1 (by omega)
          have n2 : ¬ S.owner b = -1 := by rw [e2]; exact zi_n1 (by omega)
          have k1 : (S.owner a).toNatClampNeg = p := by rw [e1]; exact zi_cl (by omega)
          have k2 : (S.owner b).toNatClampNeg = q := by rw [e2]; exact zi_cl (by omega)
          rw [if_neg n1, if_neg n2]
          by_cases h3 : S.owner a = S.owner b
          · rw [if_pos h3, if_neg (fun z => z.2.2.2.2.1 h3)]
          · rw [if_neg h3]
            simp only [e1, e2, h.rPos0 hp, h.rPos0 hq, h.rCell0 ha, h.rCell0 hb, zob_some, r_farOf (h.ok.pos p hp) ca, r_farOf (h.ok.pos p hp) cb, r_farOf (h.ok.pos q hq) ca, r_farOf (h.ok.pos q hq) cb, mbd_some]
            by_cases h4 : yfar (S.pos p) (S.cell a) ≤ yfar (S.pos p) (S.cell b)
            · rw [if_pos h4, if_neg (fun z => z.2.2.2.2.2.1 (by rw [k1]; exact h4))]
            · rw [if_neg h4]
              by_cases h5 : yfar (S.pos q) (S.cell b) ≤ yfar (S.pos q) (S.cell a)
              · rw [if_pos h5, if_neg (fun z => z.2.2.2.2.2.2 (by rw [k2]; exact h5))]
              · rw [if_neg h5, if_pos ⟨h1, h2, n1, n2, h3, by rw [k1]; exact h4, by rw [k2]; exact h5⟩]
    · simp only [r_isUp1 (a := 0) h ha h1, r_isUp0 (a := 0) h hb h2, mbd_some, one_ne, if_false, if_true]
      rw [if_neg (fun z => h2 z.2.1)]
  · simp only [r_isUp0 (a := 0) h ha h1, mbd_some, if_true]
    rw [if_neg (fun z => h1 z.1)]
end

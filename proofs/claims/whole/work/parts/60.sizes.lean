/-! promise by promise: sizes by notes -/
/-- how many are known, as a number -/
def yKm (N : yNs) : Nat := if N.kb = -1 then N.n else N.kb.toNatClampNeg
theorem yKm_e {M : zMem} {N : yNs} (h : yNot M N) : yKn N = Int32.ofNat (yKm N) ∧ yKm N ≤ N.n := by
  have l := h.le
  unfold yKn yKm
  rcases h.kb with e | ⟨j, hj, e⟩
  · rw [if_pos e, if_pos e]; exact ⟨rfl, Nat.le_refl _⟩
  · have ne : ¬ N.kb = -1 := by rw [e]; exact zi_n1 (by omega)
    rw [if_neg ne, if_neg ne, e, zi_cl (by omega)]
    exact ⟨rfl, hj⟩
/-- struck, from the last one on -/
def ysk (N : yNs) : Nat → Nat → Int32
  | 0 => fun _ => 0
  | m + 1 => if ysk N m (yKm N - 1 - m) = 0 ∧ ¬ N.st (yKm N - 1 - m) = -1 then yu (ysk N m) (N.st (yKm N - 1 - m)).toNatClampNeg 1 else ysk N m
theorem yNot.sc {M M' : zMem} {N : yNs} (h : yNot M N) (f : zfr (fun k i => ySc k i ∨ (k = 213 ∧ i = 52)) M M') : yNot M' N := h.keep f (by unfold ySc yTR; omega) (by unfold ySc yTR; omega) (by unfold ySc yTR; omega) (by unfold ySc yTR; omega)
/-- the loop that strikes, either side's -/
theorem y_strike {α : Type} {Q : α → zMem → Prop} {f : Int32 → zMem → Option (α × zMem)} {M M0 : zMem} {N : yNs} {r s : Nat} (hrs : (r = 91 ∧ s = 90) ∨ (r = 253 ∧ s = 252)) (no : yNot M0 N) (f0 : zfr ySc M0 M) (d : (zds r).2 = 24) (d' : (zds s).2 = 24) (h0 : ∀ i, i < yKm N → M.1 r i = 0)
    (hq : ∀ b M', zfr ySc M0 M' → (∀ i, i < yKm N → M'.1 r i = ysk N (yKm N) i) → zwp (f b M') Q) :
    zwp (mbd (mlp (σ := Int32) (β := Int32) zLF (fun s9 M10 =>
      if s9 < 0 then some ((.inr s9), M10)
      else zob (mrd M10 r s9) (fun v14 =>
        if v14 = 0 then zob (mrd M10 s s9) (fun v16 =>
          if v16 = (-1) then some ((.inl (s9 + (-1))), M10)
          else zob (mrd M10 s s9) (fun v19 => zob (mwr M10 r v19 (znar 2 1)) (fun M20 => some ((.inl (s9 + (-1))), M20))))
        else some ((.inl (s9 + (-1))), M10))) (Int32.ofNat (yKm N) - 1) M) f) Q := by
  have km := yKm_e no
  have l := no.le
  have hfu : zLF = 100000 := rfl
  refine zwp_bd (Q' := fun _ M' => zfr ySc M0 M' ∧ ∀ i, i < yKm N → M'.1 r i = ysk N (yKm N) i) (zwp_for 0 (yKm N) (fun m st M' => st = Int32.ofNat (yKm N - m) - 1 ∧ zfr ySc M0 M' ∧ ∀ i, i < yKm N → M'.1 r i = ysk N m i) ?_ ?_ ⟨rfl, f0, h0⟩ (Nat.zero_le _) (by omega)) (fun b M' z => hq b M' z.1 z.2)
  · rintro m st M1 - hm ⟨rfl, f1, a1⟩
    have e1 : Int32.ofNat (yKm N - m) - 1 = Int32.ofNat (yKm N - 1 - m) := by rw [yi_m1 (by omega)]; congr 1; omega
    have e2 : Int32.ofNat (yKm N - 1 - m) + -1 = Int32.ofNat (yKm N - (m + 1)) - 1 := by rw [← Int32.sub_eq_add_neg]; congr 2; omega
    have n1 : yNot M1 N := no.sc (zfr_weak f1 (fun k i z => Or.inl z))
    have st : M1.1 s (yKm N - 1 - m) = N.st (yKm N - 1 - m) := by
      rcases hrs with ⟨-, rfl⟩ | ⟨-, rfl⟩
      · exact n1.cs _ (by omega)
      · exact n1.rs _ (by omega)
    have es : ysk N (m + 1) = if ysk N m (yKm N - 1 - m) = 0 ∧ ¬ N.st (yKm N - 1 - m) = -1 then yu (ysk N m) (N.st (yKm N - 1 - m)).toNatClampNeg 1 else ysk N m := rfl
    rw [e1, if_neg (zi_nn (by omega)), mrd_of (k := r) (j := yKm N - 1 - m) (by omega) (by omega), zob_some, a1 _ (by omega)]
    by_cases z1 : ysk N m (yKm N - 1 - m) = 0
    · rw [if_pos z1, mrd_of (k := s) (j := yKm N - 1 - m) (by omega) (by omega), zob_some, st]
      by_cases z2 : N.st (yKm N - 1 - m) = -1
      · rw [if_pos z2]
        rw [if_neg (fun w => w.2 z2)] at es
        exact zwp_ret ⟨e2, f1, fun i hi => by rw [es]; exact a1 i hi⟩
      · rw [if_neg z2]
        rw [if_pos ⟨z1, z2⟩] at es
        obtain ⟨j, hj, ej⟩ := (no.st (yKm N - 1 - m) (by omega)).resolve_left z2
        rw [ej, zi_cl (by omega)] at es
        rw [zob_some, ej, mwr_of (k := r) (j := j) (by omega) (by omega), zob_some, show znar 2 1 = 1 from rfl]
        refine zwp_ret ⟨e2, zfr_trans f1 (zfr_mup (by unfold ySc; omega)), fun i hi => ?_⟩
        rw [es]
        by_cases e : i = j
        · subst e; rw [yu_on]; exact mup_on
        · rw [yu_off e, mup_off' e]; exact a1 i hi
    · rw [if_neg z1]
      rw [if_neg (fun w => z1 w.1)] at es
      exact zwp_ret ⟨e2, f1, fun i hi => by rw [es]; exact a1 i hi⟩
  · rintro st M1 ⟨rfl, f1, a1⟩
    rw [Nat.sub_self, if_pos (by decide)]
    exact zwp_ret ⟨f1, a1⟩
abbrev yct (N : yNs) (k : Nat) : Prop := ysk N (yKm N) k = 0 ∧ N.st k = -1
def ylh (N : yNs) (n : Nat) : Int32 := zfd (fun k b => if yct N k then zmx b (N.hrs k) else b) n 0
theorem ylh_nat {M : zMem} {N : yNs} (h : yNot M N) (n : Nat) (hn : n ≤ yKm N) : ∃ l, l ≤ 40 ∧ ylh N n = Int32.ofNat l := by
  have km := yKm_e h
  induction n with
  | zero => exact ⟨0, by omega, rfl⟩
  | succ n ih =>
    obtain ⟨l, l1, l2⟩ := ih (by omega)
    have es : ylh N (n + 1) = if yct N n then zmx (ylh N n) (N.hrs n) else ylh N n := rfl
    rw [es]
    split
    · obtain ⟨j, j1, j2⟩ := h.hrs n (by omega)
      rw [l2, j2]
      unfold zmx
      split
      · exact ⟨j, j1, rfl⟩
      · exact ⟨l, l1, rfl⟩
    · exact ⟨l, l1, l2⟩
def yfb (T : yT) (N : yNs) (S : yA) : Nat → Bool
  | 0 => true
  | k + 1 => yfb T N S k && !(decide (yct N k) && decide (N.hrs k = Int32.ofNat S.hour) && !decide (N.is k = if yat S (N.cell k) T.nc = 0 then 0 else 1))
theorem yfb_f {T : yT} {N : yNs} {S : yA} {k : Nat} (d : Nat) (h : yfb T N S k = false) : yfb T N S (k + d) = false := by
  induction d with
  | zero => exact h
  | succ d ih => show (yfb T N S (k + d) && _) = false; rw [ih]; rfl
def yag (T : yT) (N : yNs) (S : yA) : Nat → Bool
  | 0 => true
  | h + 1 => yag T N S h && yfb T N (ygo T 0 S (h + 1)) (yKm N)
theorem yag_f {T : yT} {N : yNs} {S : yA} {k : Nat} (d : Nat) (h : yag T N S k = false) : yag T N S (k + d) = false := by
  induction d with
  | zero => exact h
  | succ d ih => show (yag T N S (k + d) && _) = false; rw [ih]; rfl
section
variable {W : Nat → Int32} {M : zMem} {t : Nat} {T : yT} {S : yA} {N : yNs}
theorem c_counts (no : yNot M N) (hs : ∀ i, i < yKm N → M.1 91 i = ysk N (yKm N) i) {k : Nat} (hk : k < yKm N) : m_X3_counts (Int32.ofNat k) M = some (if yct N k then 1 else 0, M) := by
  have km := yKm_e no
  have l := no.le
  unfold m_X3_counts
  rw [mrd_of (k := 91) (j := k) (by show k < 24; omega) (by decide), zob_some, hs k hk]
  by_cases z : ysk N (yKm N) k = 0
  · rw [if_pos z, mrd_of (k := 90) (j := k) (by show k < 24; omega) (by decide), zob_some, no.cs k (by omega)]
    by_cases z2 : N.st k = -1
    · rw [if_pos z2, if_pos ⟨z, z2⟩]
    · rw [if_neg z2, if_neg (fun w => z2 w.2)]
  · rw [if_neg z, if_neg (fun w => z w.1)]
theorem c_lastHour (no : yNot M N) (hs : ∀ i, i < yKm N → M.1 91 i = ysk N (yKm N) i) : m_X3_lastHour M = some (ylh N (yKm N), M) := by
  have km := yKm_e no
  have l := no.le
  have hfu : zLF = 100000 := rfl
  refine zwp_out ?_
  unfold m_X3_lastHour
  refine zwp_bd (Q' := fun b M' => b.1 = ylh N (yKm N) ∧ M' = M) (zwp_for 0 (yKm N) (fun c st M' => st = (ylh N c, Int32.ofNat c) ∧ M' = M) ?_ ?_ ⟨rfl, rfl⟩ (Nat.zero_le _) (by omega)) ?_
  · rintro c st M' - hc ⟨rfl, rfl⟩
    have es : ylh N (c + 1) = if yct N c then zmx (ylh N c) (N.hrs c) else ylh N c := rfl
    rw [c_readable no, mbd_some, km.1, if_neg (show ¬ Int32.ofNat (yKm N) ≤ Int32.ofNat c from yge hc (by omega)), c_counts no hs hc, mbd_some]
    by_cases z : yct N c
    · rw [if_pos z, if_neg (by decide), mrd_of (k := 86) (j := c) (by show c < 24; omega) (by decide), zob_some, no.ch c (by omega) z.2]
      rw [if_pos z] at es
      exact zwp_ret ⟨by rw [es, yi_nn], rfl⟩
    · rw [if_neg z, if_pos rfl]
      rw [if_neg z] at es
      exact zwp_ret ⟨by rw [es, yi_nn], rfl⟩
  · rintro st M' ⟨rfl, rfl⟩
    rw [c_readable no, mbd_some, km.1, if_pos (show Int32.ofNat (yKm N) ≤ Int32.ofNat (yKm N) from Int32.le_refl _)]
    exact zwp_ret ⟨rfl, rfl⟩
  · rintro b M' ⟨e, rfl⟩
    exact zwp_ret ⟨e, rfl⟩
theorem c_fits (no : yNot M N) (hs : ∀ i, i < yKm N → M.1 91 i = ysk N (yKm N) i) (c : yCS M 99 t 0 T S) : m_X3_fits 99 M = some (if yfb T N S (yKm N) = true then 1 else 0, M) := by
  have km := yKm_e no
  have l := no.le
  have hfu : zLF = 100000 := rfl
  refine zwp_out ?_
  unfold m_X3_fits
  refine zwp_bd (Q' := fun b M' => M' = M ∧ match b with
      | .inl _ => yfb T N S (yKm N) = true
      | .inr r => r = 0 ∧ yfb T N S (yKm N) = false) (zwp_for 0 (yKm N) (fun c st M' => st = Int32.ofNat c ∧ M' = M ∧ yfb T N S c = true) ?_ ?_ ⟨rfl, rfl, rfl⟩ (Nat.zero_le _) (by omega)) ?_
  · rintro k st M' - hk ⟨rfl, rfl, hy⟩
    have es : yfb T N S (k + 1) = (yfb T N S k && !(decide (yct N k) && decide (N.hrs k = Int32.ofNat S.hour) && !decide (N.is k = if yat S (N.cell k) T.nc = 0 then 0 else 1))) := rfl
    have e5 := yfb_f (T := T) (N := N) (S := S) (k := k + 1) (yKm N - (k + 1))
    rw [show k + 1 + (yKm N - (k + 1)) = yKm N by omega] at e5
    rw [c_readable no, mbd_some, km.1, if_neg (yge hk (by omega)), c_counts no hs hk, mbd_some]
    by_cases z : yct N k
    · rw [if_pos z, if_neg (by decide), mrd_of (k := 86) (j := k) (by show k < 24; omega) (by decide), zob_some, no.ch k (by omega) z.2, c.hour]
      by_cases z2 : N.hrs k = Int32.ofNat S.hour
      · rw [if_pos z2, mrd_of (k := 89) (j := k) (by show k < 24; omega) (by decide), zob_some, mrd_of (k := 87) (j := k) (by show k < 24; omega) (by decide), zob_some, mrd_of (k := 88) (j := k) (by show k < 24; omega) (by decide), zob_some, no.ci k (by omega) z.2, no.cx k (by omega) z.2, no.cy k (by omega) z.2, c_cloudsAt c _ (no.cell k (by omega)), mbd_some]
        have e1 : (if yat S (N.cell k) T.nc = 0 then some ((0 : Int32), M') else some (1, M')) = some (if yat S (N.cell k) T.nc = 0 then 0 else 1, M') := by split <;> rfl
        rw [e1, mbd_some]
        by_cases z3 : N.is k = if yat S (N.cell k) T.nc = 0 then 0 else 1
        · rw [if_pos z3]
          exact zwp_ret ⟨yi_nn k, rfl, by rw [es, hy, decide_eq_true z3]; simp⟩
        · rw [if_neg z3]
          exact zwp_ret ⟨rfl, rfl, e5 (by rw [es, hy, decide_eq_true z, decide_eq_true z2, decide_eq_false z3]; rfl)⟩
      · rw [if_neg z2]
        exact zwp_ret ⟨yi_nn k, rfl, by rw [es, hy, decide_eq_false z2]; simp⟩
    · rw [if_neg z, if_pos rfl]
      exact zwp_ret ⟨yi_nn k, rfl, by rw [es, hy, decide_eq_false z]; simp⟩
  · rintro st M' ⟨rfl, rfl, hy⟩
    rw [c_readable no, mbd_some, km.1, if_pos (Int32.le_refl _)]
    exact zwp_ret ⟨rfl, hy⟩
  · rintro b M' ⟨rfl, q⟩
    match b, q with
    | .inl _, q => rw [zsl_l]; exact zwp_ret ⟨by rw [if_pos q], rfl⟩
    | .inr r, q => rw [zsl_r]; exact zwp_ret ⟨by rw [q.1, if_neg (by rw [q.2]; decide)], rfl⟩
theorem r_isSo (no : yNot M N) (hs : ∀ i, i < yKm N → M.1 253 i = ysk N (yKm N) i) (c : yRS M 1 0 T S) : m_X8_isSo (Int32.ofNat S.hour) M = some (if yfb T N S (yKm N) = true then 1 else 0, M) := by
  have km := yKm_e no
  have l := no.le
  have hfu : zLF = 100000 := rfl
  refine zwp_out ?_
  unfold m_X8_isSo
  refine zwp_bd (Q' := fun b M' => M' = M ∧ match b with
      | .inl _ => yfb T N S (yKm N) = true
      | .inr r => r = 0 ∧ yfb T N S (yKm N) = false) (zwp_for 0 (yKm N) (fun c st M' => st = Int32.ofNat c ∧ M' = M ∧ yfb T N S c = true) ?_ ?_ ⟨rfl, rfl, rfl⟩ (Nat.zero_le _) (by omega)) ?_
  · rintro k st M' - hk ⟨rfl, rfl, hy⟩
    have es : yfb T N S (k + 1) = (yfb T N S k && !(decide (yct N k) && decide (N.hrs k = Int32.ofNat S.hour) && !decide (N.is k = if yat S (N.cell k) T.nc = 0 then 0 else 1))) := rfl
    have e5 := yfb_f (T := T) (N := N) (S := S) (k := k + 1) (yKm N - (k + 1))
    rw [show k + 1 + (yKm N - (k + 1)) = yKm N by omega] at e5
    rw [r_knownMany no, mbd_some, km.1, if_neg (yge hk (by omega)), mrd_of (k := 253) (j := k) (by show k < 24; omega) (by decide), zob_some, hs k hk]
    by_cases z0 : ysk N (yKm N) k = 0
    · rw [if_pos z0, mrd_of (k := 252) (j := k) (by show k < 24; omega) (by decide), zob_some, no.rs k (by omega)]
      by_cases z1 : N.st k = -1
      · have z : yct N k := ⟨z0, z1⟩
        rw [if_pos z1, mrd_of (k := 249) (j := k) (by show k < 24; omega) (by decide), zob_some, no.rh k (by omega) z1]
        by_cases z2 : N.hrs k = Int32.ofNat S.hour
        · rw [if_pos z2, mrd_of (k := 250) (j := k) (by show k < 24; omega) (by decide), zob_some, no.rc k (by omega) z1, r_upIn (a := 1) c _ (no.cell k (by omega)), mbd_some]
          have e1 : (if yat S (N.cell k) T.nc = 0 then some ((0 : Int32), M') else some (1, M')) = some (if yat S (N.cell k) T.nc = 0 then 0 else 1, M') := by split <;> rfl
          rw [e1, mbd_some, mrd_of (k := 251) (j := k) (by show k < 24; omega) (by decide), zob_some, no.ri k (by omega) z1]
          by_cases z3 : N.is k = if yat S (N.cell k) T.nc = 0 then 0 else 1
          · rw [if_pos z3.symm]
            exact zwp_ret ⟨yi_nn k, rfl, by rw [es, hy, decide_eq_true z3]; simp⟩
          · rw [if_neg (fun w => z3 w.symm)]
            exact zwp_ret ⟨rfl, rfl, e5 (by rw [es, hy, decide_eq_true z, decide_eq_true z2, decide_eq_false z3]; rfl)⟩
        · rw [if_neg z2]
          exact zwp_ret ⟨yi_nn k, rfl, by rw [es, hy, decide_eq_false z2]; simp⟩
      · have z : ¬ yct N k := fun w => z1 w.2
        rw [if_neg z1]
        exact zwp_ret ⟨yi_nn k, rfl, by rw [es, hy, decide_eq_false z]; simp⟩
    · have z : ¬ yct N k := fun w => z0 w.1
      rw [if_neg z0]
      exact zwp_ret ⟨yi_nn k, rfl, by rw [es, hy, decide_eq_false z]; simp⟩
  · rintro st M' ⟨rfl, rfl, hy⟩
    rw [r_knownMany no, mbd_some, km.1, if_pos (Int32.le_refl _)]
    exact zwp_ret ⟨rfl, hy⟩
  · rintro b M' ⟨rfl, q⟩
    match b, q with
    | .inl _, q => rw [zsl_l]; exact zwp_ret ⟨by rw [if_pos q], rfl⟩
    | .inr r, q => rw [zsl_r]; exact zwp_ret ⟨by rw [q.1, if_neg (by rw [q.2]; decide)], rfl⟩
theorem c_agrees (h : yI W M t T S) (no : yNot M N) (hs : ∀ i, i < yKm N → M.1 91 i = ysk N (yKm N) i) {l : Nat} (hl : l ≤ 40) (el : ylh N (yKm N) = Int32.ofNat l) {c k : Nat} (hc : c < T.nc) : zwp (m_X1_agrees t (Int32.ofNat c) (Int32.ofNat k) M) (fun r M' => r = (if yag T N (ystart T (yu T.bsize c (Int32.ofNat k))) l = true then 1 else 0) ∧ zfr (yTC 99) M M') := by
  have b1 := h.cs.tk.nc
  have hfu : zLF = 100000 := rfl
  unfold m_X1_agrees
  refine zwp_bd (c_start h.cs.ct h.cs.tk (s := 99) (by unfold ySP; decide)) ?_
  rintro _ M1 ⟨c1, f1⟩
  rw [c1.wSize hc, zob_some]
  have c2 : yCS (mup M1 (99 + 3) c (Int32.ofNat k)) 99 t 0 T (ystart T (yu T.bsize c (Int32.ofNat k))) := c1.setSize c (Int32.ofNat k)
  have f2 : zfr (yTC 99) M (mup M1 (99 + 3) c (Int32.ofNat k)) := zfr_trans f1 (zfr_mup (by unfold yTC; omega))
  generalize mup M1 (99 + 3) c (Int32.ofNat k) = M2 at c2 f2 ⊢
  have hh : (ystart T (yu T.bsize c (Int32.ofNat k))).hour = 0 := rfl
  generalize ystart T (yu T.bsize c (Int32.ofNat k)) = S0 at c2 hh ⊢
  have nn : ∀ M', zfr (yTC 99) M M' → yNot M' N := fun M' f => no.sc (zfr_weak f (fun k i z => Or.inl (ysc_99 k i z)))
  have ss : ∀ M', zfr (yTC 99) M M' → ∀ i, i < yKm N → M'.1 91 i = ysk N (yKm N) i := fun M' f i hi => (f 91 i (by unfold yTC; omega)).trans (hs i hi)
  rw [c_lastHour (nn _ f2) (ss _ f2), mbd_some, el]
  refine zwp_bd (Q' := fun b M' => zfr (yTC 99) M M' ∧ match b with
      | .inl _ => yag T N S0 l = true
      | .inr r => r = 0 ∧ yag T N S0 l = false) (zwp_for 1 (l + 1) (fun c st M' => st = Int32.ofNat c ∧ yCS M' 99 t 0 T (ygo T 0 S0 (c - 1)) ∧ zfr (yTC 99) M M' ∧ yag T N S0 (c - 1) = true) ?_ ?_ ⟨rfl, c2, f2, rfl⟩ (by omega) (by omega)) ?_
  · rintro c st M3 h1 hc ⟨rfl, c3, f3, hy⟩
    have es : yag T N S0 (c - 1 + 1) = (yag T N S0 (c - 1) && yfb T N (ygo T 0 S0 (c - 1 + 1)) (yKm N)) := rfl
    have e5 := yag_f (T := T) (N := N) (S := S0) (k := c - 1 + 1) (l - c)
    rw [show c - 1 + 1 + (l - c) = l by omega] at e5
    rw [if_neg (show ¬ Int32.ofNat l < Int32.ofNat c by rw [zi_lt (by omega) (by omega)]; omega), c_wind c3 (by rw [ygo_hour]; omega), mbd_some]
    refine zwp_bd (c_pass c3 _) ?_
    rintro _ M4 ⟨c4, f4⟩
    have c4 : yCS M4 99 t 0 T (ygo T 0 S0 (c - 1 + 1)) := c4
    have f34 := zfr_trans f3 f4
    rw [c_fits (nn _ f34) (ss _ f34) c4, mbd_some]
    by_cases z : yfb T N (ygo T 0 S0 (c - 1 + 1)) (yKm N) = true
    · rw [if_pos z, if_neg (by decide)]
      refine zwp_ret ⟨yi_nn c, ?_, f34, ?_⟩
      · rw [show c + 1 - 1 = c - 1 + 1 by omega]; exact c4
      · rw [show c + 1 - 1 = c - 1 + 1 by omega, es, hy, z]; rfl
    · rw [if_neg z, if_pos rfl]
      refine zwp_ret ⟨f34, rfl, e5 ?_⟩
      rw [es, hy]
      simpa using z
  · rintro st M3 ⟨rfl, c3, f3, hy⟩
    rw [if_pos (show Int32.ofNat l < Int32.ofNat (l + 1) by rw [zi_lt (by omega) (by omega)]; omega)]
    exact zwp_ret ⟨f3, hy⟩
  · rintro b M' ⟨f3, q⟩
    match b, q with
    | .inl _, q => rw [zsl_l]; exact zwp_ret ⟨by rw [if_pos q], f3⟩
    | .inr r, q => rw [zsl_r]; exact zwp_ret ⟨by rw [q.1, if_neg (by rw [q.2]; decide)], f3⟩
theorem r_fitsSize (rt : yRT M T) (tk : yTok T) (ho : M.1 213 49 = 0) (hw : M.1 213 51 = -1) (no : yNot M N) (hs : ∀ i, i < yKm N → M.1 253 i = ysk N (yKm N) i) {l : Nat} (hl : l ≤ 40) {c k : Nat} (hc : c < T.nc) (e52 : M.1 213 52 = Int32.ofNat c) (e53 : M.1 213 53 = Int32.ofNat k) : zwp (m_X8_fitsSize (Int32.ofNat l) M) (fun r M' => r = (if yag T N (ystart T (yu T.bsize c (Int32.ofNat k))) l = true then 1 else 0) ∧ zfr (yTR 1) M M') := by
  have b1 := tk.nc
  have hfu : zLF = 100000 := rfl
  unfold m_X8_fitsSize
  refine zwp_bd (r_starts (a := 1) (sl := 1) rt tk (by decide) ho (by decide) (yu T.bsize c (Int32.ofNat k)) (fun d hd => ?_)) ?_
  · rw [e52, e53]
    by_cases e : d = c
    · subst e; rw [if_pos rfl, yu_on]
    · rw [if_neg (fun z => e ((zi_eq (by omega) (by omega)).mp z)), yu_off e]
  rintro _ M2 ⟨c2, f2⟩
  have hh : (ystart T (yu T.bsize c (Int32.ofNat k))).hour = 0 := rfl
  generalize ystart T (yu T.bsize c (Int32.ofNat k)) = S0 at c2 hh ⊢
  have nn : ∀ M', zfr (yTR 1) M M' → yNot M' N := fun M' f => no.sc (zfr_weak f (fun k i z => Or.inl (ysc_r1 k i z)))
  have ss : ∀ M', zfr (yTR 1) M M' → ∀ i, i < yKm N → M'.1 253 i = ysk N (yKm N) i := fun M' f i hi => (f 253 i (by unfold yTR; omega)).trans (hs i hi)
  refine zwp_bd (Q' := fun b M' => zfr (yTR 1) M M' ∧ match b with
      | .inl _ => yag T N S0 l = true
      | .inr r => r = 0 ∧ yag T N S0 l = false) (zwp_for 1 (l + 1) (fun c st M' => st = Int32.ofNat c ∧ yRS M' 1 0 T (ygo T 0 S0 (c - 1)) ∧ zfr (yTR 1) M M' ∧ yag T N S0 (c - 1) = true) ?_ ?_ ⟨rfl, c2, f2, rfl⟩ (by omega) (by omega)) ?_
  · rintro c st M3 h1 hc ⟨rfl, c3, f3, hy⟩
    have es : yag T N S0 (c - 1 + 1) = (yag T N S0 (c - 1) && yfb T N (ygo T 0 S0 (c - 1 + 1)) (yKm N)) := rfl
    have e5 := yag_f (T := T) (N := N) (S := S0) (k := c - 1 + 1) (l - c)
    rw [show c - 1 + 1 + (l - c) = l by omega] at e5
    rw [if_neg (show ¬ Int32.ofNat l < Int32.ofNat c by rw [zi_lt (by omega) (by omega)]; omega)]
    refine zwp_bd (r_pass (a := 1) c3 (by rw [ygo_hour]; omega) ((f3 213 51 (by unfold yTR; omega)).trans hw)) ?_
    rintro _ M4 ⟨c4, f4⟩
    rw [yww_n] at c4
    have c4 : yRS M4 1 0 T (ygo T 0 S0 (c - 1 + 1)) := c4
    have f34 := zfr_trans f3 f4
    have so := r_isSo (nn _ f34) (ss _ f34) c4
    rw [ygo_hour, hh, show 0 + (c - 1 + 1) = c by omega] at so
    rw [so, mbd_some]
    by_cases z : yfb T N (ygo T 0 S0 (c - 1 + 1)) (yKm N) = true
    · rw [if_pos z, if_neg (by decide)]
      refine zwp_ret ⟨yi_nn c, ?_, f34, ?_⟩
      · rw [show c + 1 - 1 = c - 1 + 1 by omega]; exact c4
      · rw [show c + 1 - 1 = c - 1 + 1 by omega, es, hy, z]; rfl
    · rw [if_neg z, if_pos rfl]
      refine zwp_ret ⟨f34, rfl, e5 ?_⟩
      rw [es, hy]
      simpa using z
  · rintro st M3 ⟨rfl, c3, f3, hy⟩
    rw [if_pos (show Int32.ofNat l < Int32.ofNat (l + 1) by rw [zi_lt (by omega) (by omega)]; omega)]
    exact zwp_ret ⟨f3, hy⟩
  · rintro b M' ⟨f3, q⟩
    match b, q with
    | .inl _, q => rw [zsl_l]; exact zwp_ret ⟨by rw [if_pos q], f3⟩
    | .inr r, q => rw [zsl_r]; exact zwp_ret ⟨by rw [q.1, if_neg (by rw [q.2]; decide)], f3⟩
/-- sizes 1 .. k (bits) -/
def ysz (T : yT) (N : yNs) (c l : Nat) : Nat → Int32 := zorr (fun k => if 1 ≤ k ∧ yag T N (ystart T (yu T.bsize c (Int32.ofNat k))) l = true then ybit k else 0)
theorem c_strikeOut (no : yNot M N) : zwp (m_X3_strikeOut M) (fun _ M' => zfr ySc M M' ∧ ∀ i, i < yKm N → M'.1 91 i = ysk N (yKm N) i) := by
  have km := yKm_e no
  have l := no.le
  unfold m_X3_strikeOut
  refine yfor (n := 24) (I := fun c M' => zfr ySc M M' ∧ ∀ k, k < c → M'.1 91 k = 0) ⟨zfr_refl, fun k hk => absurd hk (by omega)⟩ (by decide) ?_ (fun M' _ => if_pos (by decide)) (fun b M1 z => ?_)
  · rintro c M1 hc ⟨f1, a1⟩
    rw [if_neg (yge hc (by decide)), mwr_of (k := 91) (j := c) (by show c < 24; omega) (by decide), zob_some]
    refine zwp_ret ⟨rfl, zfr_trans f1 (zfr_mup (by unfold ySc; omega)), fun k hk => ?_⟩
    by_cases e : k = c
    · subst e; exact mup_on
    · rw [mup_off' e]; exact a1 k (by omega)
  · obtain ⟨f1, a1⟩ := z
    rw [c_readable (no.sc (zfr_weak f1 (fun k i z => Or.inl z))), mbd_some, km.1]
    exact y_strike (r := 91) (s := 90) (Or.inl ⟨rfl, rfl⟩) no f1 rfl rfl (fun i hi => a1 i (by omega)) (fun _ M' g1 g2 => zwp_ret ⟨g1, g2⟩)
theorem p_sizes (h : yI W M t T S) (a : Int32) : yPr W (m_X7_sizes a M) (m_X8_sizes a) := by
  have h1 := h.thr 0
  have b1 := h.cs.tk.nc
  have hfu : zLF = 100000 := rfl
  obtain ⟨N, no⟩ := h.no
  have km := yKm_e no
  have hle := no.le
  obtain ⟨l, hl, el⟩ := ylh_nat no (yKm N) (Nat.le_refl _)
  have lt9 : ∀ c, c < 10 → ¬ (9 : Int32) < Int32.ofNat c := fun c hc => by rw [show (9 : Int32) = Int32.ofNat 9 from rfl, zi_lt (by omega) (by omega)]; omega
  unfold m_X7_sizes m_X8_sizes
  rcases y_isCloud h a with ⟨e1, e2⟩ | ⟨c, hc, rfl, e1, e2⟩
  · refine yPr.qq h (v := -1) ?_ ?_
    · simp only [e1, mbd_some, if_true]
    · simp only [mlt_eq, e2 _ h1.rs.rt, mbd_some, if_true]
  · have es : ∀ k, ysz T N c l (k + 1) = ysz T N c l k ||| (if 1 ≤ k ∧ yag T N (ystart T (yu T.bsize c (Int32.ofNat k))) l = true then ybit k else 0) := fun k => rfl
    have s1 : ysz T N c l 1 = 0 := by
      rw [es, if_neg (by omega)]
      show (0 : Int32) ||| 0 = 0
      decide
    unfold yPr
    refine zwp_mono (Q' := fun r M1 => r = ysz T N c l 10 ∧ zfr ySc M M1) ?_ ?_
    · simp only [e1, mbd_some, one_ne, if_false]
      refine zwp_bd (c_strikeOut no) ?_
      rintro _ M1 ⟨f1, a1⟩
      refine zwp_bd (Q' := fun b M' => b.1 = ysz T N c l 10 ∧ zfr ySc M M') (zwp_for 1 10 (fun k st M' => st = (ysz T N c l k, Int32.ofNat k) ∧ zfr ySc M M' ∧ ∀ i, i < yKm N → M'.1 91 i = ysk N (yKm N) i) ?_ ?_ ⟨by rw [s1]; rfl, f1, a1⟩ (by decide) (by omega)) (fun b M' z => zwp_ret z)
      · rintro k st M2 k1 hk ⟨rfl, f2, a2⟩
        have h2 := h.keep f2
        rw [if_neg (show ¬ (9 : Int32) < Int32.ofNat k from lt9 k hk), mlt_eq, h2.tp]
        refine zwp_bd (c_agrees h2 (no.sc (zfr_weak f2 (fun k i z => Or.inl z))) a2 hl el hc (k := k)) ?_
        rintro r M3 ⟨rfl, f3⟩
        have a3 : ∀ i, i < yKm N → M3.1 91 i = ysk N (yKm N) i := fun i hi => (f3 91 i (by unfold yTC; omega)).trans (a2 i hi)
        by_cases z : yag T N (ystart T (yu T.bsize c (Int32.ofNat k))) l = true
        · rw [if_pos z, if_neg (by decide)]
          exact zwp_ret ⟨by rw [es, if_pos ⟨k1, z⟩, yi_nn]; rfl, zfr_trans f2 (zfr_weak f3 ysc_99), a3⟩
        · rw [if_neg z, if_pos rfl]
          exact zwp_ret ⟨by rw [es, if_neg (fun w => z w.2), yi_nn, yor0], zfr_trans f2 (zfr_weak f3 ysc_99), a3⟩
      · rintro st M2 ⟨rfl, f2, a2⟩
        rw [if_pos (show (9 : Int32) < Int32.ofNat 10 by decide)]
        exact zwp_ret ⟨rfl, f2⟩
    · rintro r M1 ⟨rfl, f1⟩
      have g := h.keep f1
      have g1 := g.thr 0
      have no1 : yNot M1 N := no.sc (zfr_weak f1 (fun k i z => Or.inl z))
      have f0 : zfr ySc M1 (mup M1 213 0 0) := zfr_mup (by unfold ySc; omega)
      have nn : ∀ M', zfr ySc M1 M' → yNot M' N := fun M' f => no1.sc (zfr_weak f (fun k i z => Or.inl z))
      refine zwp_mono (Q' := fun r M2 => r = ysz T N c l 10 ∧ zfr ySc M1 M2) ?_ (fun r M2 z => ⟨z.1.symm, t, T, S, g.keep z.2⟩)
      simp only [mlt_eq, e2 _ g1.rs.rt, mbd_some, one_ne, if_false]
      refine yfor (n := yKm N) (I := fun c M' => zfr ySc M1 M' ∧ ∀ k, k < c → M'.1 253 k = 0) ⟨f0, fun k hk => absurd hk (by omega)⟩ (by omega) ?_ (fun M' z => by rw [r_knownMany (nn M' z.1), mbd_some, km.1, if_pos (Int32.le_refl _)]) (fun _ M2 z => ?_)
      · rintro k M2 hk ⟨f2, a2⟩
        rw [r_knownMany (nn M2 f2), mbd_some, km.1, if_neg (yge hk (by omega)), mwr_of (k := 253) (j := k) (by show k < 24; omega) (by decide), zob_some]
        refine zwp_ret ⟨rfl, zfr_trans f2 (zfr_mup (by unfold ySc; omega)), fun j hj => ?_⟩
        by_cases e : j = k
        · subst e; exact mup_on
        · rw [mup_off' e]; exact a2 j (by omega)
      obtain ⟨f2, a2⟩ := z
      rw [r_knownMany (nn M2 f2), mbd_some, km.1]
      refine y_strike (r := 253) (s := 252) (Or.inr ⟨rfl, rfl⟩) no1 f2 rfl rfl a2 (fun _ M3 f3 a3 => ?_)
      have no3 := nn M3 f3
      refine zwp_bd (Q' := fun b M' => b.1 = Int32.ofNat l ∧ M' = M3) (zwp_for 0 (yKm N) (fun k st M' => st = (ylh N k, Int32.ofNat k) ∧ M' = M3) ?_ ?_ ⟨rfl, rfl⟩ (Nat.zero_le _) (by omega)) ?_
      · rintro k st M4 - hk ⟨rfl, rfl⟩
        have eh : ylh N (k + 1) = if yct N k then zmx (ylh N k) (N.hrs k) else ylh N k := rfl
        rw [r_knownMany no3, mbd_some, km.1, if_neg (show ¬ Int32.ofNat (yKm N) ≤ Int32.ofNat k from yge hk (by omega)), mrd_of (k := 253) (j := k) (by show k < 24; omega) (by decide), zob_some, a3 k hk]
        by_cases z0 : ysk N (yKm N) k = 0
        · rw [if_pos z0, mrd_of (k := 252) (j := k) (by show k < 24; omega) (by decide), zob_some, no3.rs k (by omega)]
          by_cases z1 : N.st k = -1
          · rw [if_pos z1, mrd_of (k := 249) (j := k) (by show k < 24; omega) (by decide), zob_some, no3.rh k (by omega) z1]
            rw [if_pos ⟨z0, z1⟩] at eh
            exact zwp_ret ⟨by rw [eh, yi_nn], rfl⟩
          · rw [if_neg z1]
            rw [if_neg (fun w => z1 w.2)] at eh
            exact zwp_ret ⟨by rw [eh, yi_nn], rfl⟩
        · rw [if_neg z0]
          rw [if_neg (fun w => z0 w.1)] at eh
          exact zwp_ret ⟨by rw [eh, yi_nn], rfl⟩
      · rintro st M4 ⟨rfl, rfl⟩
        rw [r_knownMany no3, mbd_some, km.1, if_pos (show Int32.ofNat (yKm N) ≤ Int32.ofNat (yKm N) from Int32.le_refl _)]
        exact zwp_ret ⟨el, rfl⟩
      · rintro b M4 ⟨eb, rfl⟩
        rw [eb]
        have f5 : zfr (fun k i => ySc k i ∨ (k = 213 ∧ i = 52)) M1 (mup M4 213 52 (Int32.ofNat c)) := zfr_trans (zfr_weak f3 (fun k i z => Or.inl z)) (zfr_mup (Or.inr ⟨rfl, rfl⟩))
        refine zwp_bd (Q' := fun b M' => b.1 = ysz T N c l 10 ∧ zfr (fun k i => ySc k i ∨ (k = 213 ∧ i = 52)) M1 M') (zwp_for 1 10 (fun k st M' => st = (ysz T N c l k, Int32.ofNat k) ∧ zfr (fun k i => ySc k i ∨ (k = 213 ∧ i = 52)) M1 M' ∧ M'.1 213 52 = Int32.ofNat c ∧ ∀ i, i < yKm N → M'.1 253 i = ysk N (yKm N) i) ?_ ?_ ⟨by rw [s1]; rfl, f5, mup_on, fun i hi => (mup_off (by decide)).trans (a3 i hi)⟩ (by decide) (by omega)) ?_
        · rintro k st M6 k1 hk ⟨rfl, f6, c6, a6⟩
          rw [if_neg (show ¬ (9 : Int32) < Int32.ofNat k from lt9 k hk)]
          have f7 : zfr (fun k i => ySc k i ∨ (k = 213 ∧ i = 52)) M1 (mup M6 213 53 (Int32.ofNat k)) := zfr_trans f6 (zfr_mup (Or.inl (by unfold ySc; omega)))
          refine zwp_bd (r_fitsSize (yrt_fr g.rs.rt f7 (by unfold ySc yTR; omega)) g.cs.tk ((f7 213 49 (by unfold ySc yTR; omega)).trans g.mis.a) ((f7 213 51 (by unfold ySc yTR; omega)).trans g.mis.c) (no1.sc f7) (fun i hi => (mup_off (by decide)).trans (a6 i hi)) hl hc ((mup_off' (by decide)).trans c6) (k := k) mup_on) ?_
          rintro r M8 ⟨rfl, f8⟩
          have a8 : ∀ i, i < yKm N → M8.1 253 i = ysk N (yKm N) i := fun i hi => (f8 253 i (by unfold yTR; omega)).trans ((mup_off (by decide)).trans (a6 i hi))
          have c8 : M8.1 213 52 = Int32.ofNat c := (f8 213 52 (by unfold yTR; omega)).trans ((mup_off' (by decide)).trans c6)
          have f18 := zfr_trans f7 (zfr_weak f8 (fun k i z => Or.inl (ysc_r1 k i z)))
          by_cases z : yag T N (ystart T (yu T.bsize c (Int32.ofNat k))) l = true
          · rw [if_pos z, if_neg (by decide)]
            exact zwp_ret ⟨by rw [es, if_pos ⟨k1, z⟩, yi_nn]; rfl, f18, c8, a8⟩
          · rw [if_neg z, if_pos rfl]
            exact zwp_ret ⟨by rw [es, if_neg (fun w => z w.2), yi_nn], f18, c8, a8⟩
        · rintro st M6 ⟨rfl, f6, c6, a6⟩
          rw [if_pos (show (9 : Int32) < Int32.ofNat 10 by decide)]
          exact zwp_ret ⟨rfl, f6⟩
        · rintro b M6 ⟨e6, f6⟩
          exact zwp_ret ⟨e6, zfr_fix 213 52 (zfr_trans f6 (zfr_mup (Or.inr ⟨rfl, rfl⟩))) (mup_on.trans g.mis.d.symm)⟩
end

/-! what a law says of a cloud -/
def yown1 (S : yA) (c : Nat) : Nat := (S.owner c).toNatClampNeg
def ynm (T : yT) (o : Int32) (S : yA) (c : Nat) : Nat → Int32
  | 0 => S.size c
  | 1 => ygr T o (S.cell c)
  | 2 => S.age c
  | 3 => if S.owner c = -1 then 99 else yfar (S.pos (yown1 S c)) (S.cell c)
  | 4 => yup S 1 T.nc
  | 5 => if S.owner c = -1 then 0 else S.marks (yown1 S c)
  | _ => Int32.ofNat S.hour
def ywo (T : yT) (o : Int32) (S : yA) (k c : Nat) : Option Int64 := if T.law k = [] then none else yev (fun i => Int32.toInt64 (ynm T o S c i)) (T.law k) (fun _ => 0) 0
def ybd (r : Option Int64) (most other : Int32) : Int32 := match r with
  | none => other
  | some w => Int64.toInt32 (zmxL 0 (zmnL (Int32.toInt64 most) w))
theorem ywo_ok {T : yT} {o : Int32} {S : yA} {k c : Nat} {w : Int64} (tk : yTok T) (hk : k < 3) (h : ywo T o S k c = some w) : w ≠ -9223372036854775808 := by
  unfold ywo at h
  by_cases e : T.law k = []
  · rw [if_pos e] at h; cases h
  · rw [if_neg e] at h
    have := yev_good (fun i => ynb _) _ _ 0 w (fun j hj => absurd hj (Nat.not_lt_zero _)) ((tk.law k hk).resolve_left e) h
    rintro rfl
    exact this (by decide)
theorem yowner_cases {T : yT} {S : yA} (ok : yOK T S) (tk : yTok T) {c : Nat} (hc : c < T.nc) : S.owner c = -1 ∨ (¬ S.owner c = -1 ∧ yown1 S c < T.nh ∧ S.owner c = Int32.ofNat (yown1 S c)) := by
  have b2 := tk.nh
  rcases ok.owner c hc with e | ⟨h, hh, e⟩
  · exact Or.inl e
  · have : yown1 S c = h := by unfold yown1; rw [e]; exact zi_cl (by omega)
    exact Or.inr ⟨by rw [e]; exact zi_n1 (by omega), by omega, by rw [this]; exact e⟩
section
variable {M : zMem} {s t : Nat} {o : Int32} {T : yT} {S : yA}
theorem c_isTold (h : yCT M t T) {k : Nat} (hk : k < 3) : m_X2_isTold t (Int32.ofNat k) M = some (if T.law k = [] then 0 else 1, M) := by
  obtain ⟨a, l1, l2, l3, l4⟩ := h.law k hk
  have dF := ztt_n h.tt 15 3 ⟨rfl, rfl⟩
  have dT := ztt_n h.tt 16 3 ⟨rfl, rfl⟩
  unfold m_X2_isTold
  rw [mrd_of (k := t + 13 + 2) (j := k) (by show _ < (zds (t + 15)).2; omega) (by show (zds (t + 15)).2 < _; omega), zob_some, mrd_of (k := t + 13 + 3) (j := k) (by show _ < (zds (t + 16)).2; omega) (by show (zds (t + 16)).2 < _; omega), zob_some, l2, l3]
  by_cases e : T.law k = []
  · rw [if_pos e, if_pos (by rw [zi_le (by omega) (by omega), e]; exact Nat.le_refl _)]
  · have : 0 < (T.law k).length := List.length_pos_iff.mpr e
    rw [if_neg e, if_neg (by rw [zi_le (by omega) (by omega)]; omega)]
theorem c_bounded {r : Option Int64} (hr : ∀ w, r = some w → w ≠ -9223372036854775808) (most other : Int32) : m_X5_bounded (r.getD (-9223372036854775808)) most other M = some (ybd r most other, M) := by
  unfold m_X5_bounded
  cases r with
  | none => rfl
  | some w =>
    rw [if_neg (by rw [lg_cmp_eq]; exact hr w rfl)]; rfl
set_option maxHeartbeats 4000000 in
theorem c_worthOf (h : yCS M s t o T S) {k c : Nat} (hk : k < 3) (hc : c < T.nc) : zwp (m_X5_worthOf s (Int32.ofNat k) (Int32.ofNat c) M) (fun v M' => yCS M' s t o T S ∧ zfr (yTC s) M M' ∧ v = (ywo T o S k c).getD (-9223372036854775808)) := by
  have lo := ysp_lo h.sp
  unfold m_X5_worthOf
  rw [mlt_eq, h.tp, c_isTold h.ct hk, mbd_some]
  by_cases e : T.law k = []
  · rw [if_pos e, if_pos rfl]
    exact zwp_ret ⟨h, zfr_refl, by unfold ywo; rw [if_pos e]; rfl⟩
  · rw [if_neg e, if_neg (by decide), h.rOwner hc, zob_some, h.rSize hc, zob_some, h.wName (i := 0) (c := 0) (by decide), zob_some]
    have h1 := h.setName 0 (S.size c)
    rw [h1.rX hc, zob_some, h1.rY hc, zob_some, c_ground h1 (h.ok.cell c hc), mbd_some, h1.wName (i := 1) (c := 1) (by decide), zob_some]
    have h2 := h1.setName 1 (ygr T o (S.cell c))
    rw [h2.rAge hc, zob_some, h2.wName (i := 2) (c := 2) (by decide), zob_some]
    have h3 := h2.setName 2 (S.age c)
    have hfar : (if S.owner c = -1 then some ((99 : Int32), mup (mup (mup M (s + 18) 0 (S.size c)) (s + 18) 1 (ygr T o (S.cell c))) (s + 18) 2 (S.age c)) else mbd (m_X5_howFar s (S.owner c) (Int32.ofNat c) (mup (mup (mup M (s + 18) 0 (S.size c)) (s + 18) 1 (ygr T o (S.cell c))) (s + 18) 2 (S.age c))) (fun v25 M24 => some (v25, M24))) = some (ynm T o S c 3, mup (mup (mup M (s + 18) 0 (S.size c)) (s + 18) 1 (ygr T o (S.cell c))) (s + 18) 2 (S.age c)) := by
      rcases yowner_cases h.ok h.tk hc with e1 | ⟨e1, e2, e3⟩
      · simp only [ynm, e1, if_true]
      · simp only [ynm, e1, if_false]
        rw [e3, c_howFar h3 e2 hc, mbd_some]
    rw [hfar, mbd_some, h3.wName (i := 3) (c := 3) (by decide), zob_some]
    have h4 := h3.setName 3 (ynm T o S c 3)
    rw [c_howMany h4, mbd_some, h4.wName (i := 4) (c := 4) (by decide), zob_some]
    have h5 := h4.setName 4 (yup S 1 T.nc)
    generalize hM5 : mup (mup (mup (mup (mup M (s + 18) 0 (S.size c)) (s + 18) 1 (ygr T o (S.cell c))) (s + 18) 2 (S.age c)) (s + 18) 3 (ynm T o S c 3)) (s + 18) 4 (yup S 1 T.nc) = M5 at h5 ⊢
    have hmk : (if S.owner c = -1 then some ((0 : Int32), M5) else zob (mrd M5 (s + 9) (S.owner c)) (fun v35 => some (v35, M5))) = some (ynm T o S c 5, M5) := by
      rcases yowner_cases h.ok h.tk hc with e1 | ⟨e1, e2, e3⟩
      · simp only [ynm, e1, if_true]
      · simp only [ynm, e1, if_false]
        rw [e3, h5.rMarks e2, zob_some]
    rw [hmk, mbd_some, h5.wName (i := 5) (c := 5) (by decide), zob_some]
    have h6 := h5.setName 5 (ynm T o S c 5)
    rw [h6.hour, h6.wName (i := 6) (c := 6) (by decide), zob_some]
    have h7 := h6.setName 6 (Int32.ofNat S.hour)
    rw [mlt_eq, h7.tp]
    have hn : ∀ i, i < 7 → (mup (mup M5 (s + 18) 5 (ynm T o S c 5)) (s + 18) 6 (Int32.ofNat S.hour)).1 (s + 18) i = ynm T o S c i := by
      intro i hi
      subst hM5
      have : i = 0 ∨ i = 1 ∨ i = 2 ∨ i = 3 ∨ i = 4 ∨ i = 5 ∨ i = 6 := by omega
      rcases this with rfl | rfl | rfl | rfl | rfl | rfl | rfl <;> simp only [mup_row] <;> rfl
    refine zwp_bd (c_worth h7.ct h.tk hk ((h.tk.law k hk).resolve_left e) (ysp_n h.sp) hn) ?_
    rintro v M' ⟨q1, q2⟩
    have fr : zfr (yTC s) M M' := by
      have fr1 : zfr (yTC s) M5 (mup (mup M5 (s + 18) 5 (ynm T o S c 5)) (s + 18) 6 (Int32.ofNat S.hour)) := zfr_trans (zfr_mup ⟨by omega, by omega⟩) (zfr_mup ⟨by omega, by omega⟩)
      have fr0 : zfr (yTC s) M M5 := by
        subst hM5
        exact zfr_trans (zfr_trans (zfr_trans (zfr_trans (zfr_mup ⟨by omega, by omega⟩) (zfr_mup ⟨by omega, by omega⟩)) (zfr_mup ⟨by omega, by omega⟩)) (zfr_mup ⟨by omega, by omega⟩)) (zfr_mup ⟨by omega, by omega⟩)
      intro x y z
      rw [q1]
      exact zfr_trans fr0 fr1 x y z
    refine zwp_ret ⟨h7.keep (P := fun _ _ => False) (fun x y _ => by rw [q1]) (fun _ _ _ z => z), fr, ?_⟩
    rw [q2]; unfold ywo; rw [if_neg e]
end
section
variable {M : zMem} {sl : Nat} {o : Int32} {T : yT} {S : yA}
theorem r_hasLaw (h : yRT M T) {k : Nat} (hk : k < 3) : m_X8_hasLaw (Int32.ofNat k) M = some (if T.law k = [] then 0 else 1, M) := by
  obtain ⟨a, l1, l2, l3, l4⟩ := h.law k hk
  unfold m_X8_hasLaw
  rw [mrd_of (k := 229) (j := k) (by show _ < 6; omega) (by decide), zob_some, mrd_of (k := 228) (j := k) (by show _ < 6; omega) (by decide), zob_some, l2, l3]
  by_cases e : T.law k = []
  · rw [if_pos e, if_pos (by rw [zi_le (by omega) (by omega), e]; exact Nat.le_refl _)]
  · have : 0 < (T.law k).length := List.length_pos_iff.mpr e
    rw [if_neg e, if_neg (by rw [zi_le (by omega) (by omega)]; omega)]
theorem yRS.setL (h : yRS M sl o T S) (k i : Nat) (v : Int64) : yRS (mupL M k i v) sl o T S :=
  h.keep (P := fun _ _ => False) (fun _ _ _ => rfl) (fun z => z) (fun z => z) (fun _ _ _ _ z => z) (fun _ _ _ _ z => z)
theorem yRS.k35 {M' : zMem} (h : yRS M sl o T S) (f : zfr yT35 M M') : yRS M' sl o T S :=
  h.keep f (fun z => absurd z.2 (by decide)) (fun z => absurd z.2 (by decide)) (fun k i h1 h2 z => by have := z.1; omega) (fun k i h1 _ z => h1 z.1)
theorem ywL {M : zMem} {i : Int32} {j : Nat} (hj : j < 7) (v : Int64) (e : zN i j := by with_reducible repeat (first | assumption | exact zn_of _ | exact zn_lit _ | apply zn_add | apply zn_mul)) : mwrL M 232 i v = some (mupL M 232 j v) := mwrL_of (k := 232) (j := j) hj (by decide)
set_option maxHeartbeats 4000000 in
theorem r_calls {a : Int32} (h : yRS M sl o T S) {c : Nat} (hc : c < T.nc) (ea : zN a sl := by with_reducible repeat (first | assumption | exact zn_of _ | exact zn_lit _ | apply zn_add | apply zn_mul)) : zwp (m_X8_calls a (Int32.ofNat c) M) (fun _ M' => M'.1 = M.1 ∧ ∀ i, i < 7 → M'.2 232 i = Int32.toInt64 (ynm T o S c i)) := by
  obtain rfl := ea.e
  unfold m_X8_calls
  have kc := h.ok.cell c hc
  rw [h.rOwner hc, zob_some, h.rSize hc, zob_some, ywL (j := 0) (by decide), zob_some]
  have h1 := h.setL 232 0 (Int32.toInt64 (S.size c))
  rw [h1.rCell hc, zob_some, r_ground h1 kc, mbd_some, ywL (j := 1) (by decide), zob_some]
  have h2 := h1.setL 232 1 (Int32.toInt64 (ygr T o (S.cell c)))
  rw [h2.rAge hc, zob_some, ywL (j := 2) (by decide), zob_some]
  have h3 := h2.setL 232 2 (Int32.toInt64 (S.age c))
  generalize hM3 : mupL (mupL (mupL M 232 0 (Int32.toInt64 (S.size c))) 232 1 (Int32.toInt64 (ygr T o (S.cell c)))) 232 2 (Int32.toInt64 (S.age c)) = M3 at h3 ⊢
  have hfar : (if S.owner c = -1 then some ((99 : Int64), M3) else zob (mrd M3 236 (8 * Int32.ofNat sl + Int32.ofNat c)) (fun v19 => zob (mrd M3 241 (6 * Int32.ofNat sl + S.owner c)) (fun v21 => mbd (m_X8_farOf v19 v21 M3) (fun v23 M22 => some (Int32.toInt64 v23, M22))))) = some (Int32.toInt64 (ynm T o S c 3), M3) := by
    rcases yowner_cases h.ok h.tk hc with e1 | ⟨e1, e2, e3⟩
    · simp only [ynm, e1, if_true]; rfl
    · simp only [ynm, e1, if_false]
      rw [e3, h3.rCell hc, zob_some, h3.rPos e2, zob_some, r_farOf kc (h.ok.pos _ e2), mbd_some, yfar_sym _ kc _ (h.ok.pos _ e2)]
  rw [hfar, mbd_some, ywL (j := 3) (by decide), zob_some]
  have h4 := h3.setL 232 3 (Int32.toInt64 (ynm T o S c 3))
  rw [r_upMany h4, mbd_some, ywL (j := 4) (by decide), zob_some]
  have h5 := h4.setL 232 4 (Int32.toInt64 (yup S 1 T.nc))
  generalize hM5 : mupL (mupL M3 232 3 (Int32.toInt64 (ynm T o S c 3))) 232 4 (Int32.toInt64 (yup S 1 T.nc)) = M5 at h5 ⊢
  have hmk : (if S.owner c = -1 then some ((0 : Int64), M5) else zob (mrd M5 242 (6 * Int32.ofNat sl + S.owner c)) (fun v33 => some (Int32.toInt64 v33, M5))) = some (Int32.toInt64 (ynm T o S c 5), M5) := by
    rcases yowner_cases h.ok h.tk hc with e1 | ⟨e1, e2, e3⟩
    · simp only [ynm, e1, if_true]; rfl
    · simp only [ynm, e1, if_false]
      rw [e3, h5.rMarks e2, zob_some]
  rw [hmk, mbd_some, ywL (j := 5) (by decide), zob_some]
  have h6 := h5.setL 232 5 (Int32.toInt64 (ynm T o S c 5))
  rw [h6.rHour, zob_some, ywL (j := 6) (by decide), zob_some]
  refine zwp_ret ⟨?_, ?_⟩
  · subst hM5; subst hM3; rfl
  · intro i hi
    subst hM5; subst hM3
    have : i = 0 ∨ i = 1 ∨ i = 2 ∨ i = 3 ∨ i = 4 ∨ i = 5 ∨ i = 6 := by omega
    rcases this with rfl | rfl | rfl | rfl | rfl | rfl | rfl <;> simp only [mupL_at] <;> rfl
theorem r_within (h : yRT M T) (tk : yTok T) {k c : Nat} (hk : k < 3) (hn : ∀ i, i < 7 → M.2 232 i = Int32.toInt64 (ynm T o S c i)) (most other : Int32) : zwp (m_X8_within (Int32.ofNat k) most other M) (fun r M' => zfr yT35 M M' ∧ r = ybd (ywo T o S k c) most other) := by
  unfold m_X8_within
  rw [r_hasLaw h hk, mbd_some]
  by_cases e : T.law k = []
  · rw [if_pos e, if_pos rfl]
    exact zwp_ret ⟨zfr_refl, by unfold ywo; rw [if_pos e]; rfl⟩
  · rw [if_neg e, if_neg (by decide)]
    refine zwp_bd (r_goes h hk ((tk.law k hk).resolve_left e) (nm := fun i => Int32.toInt64 (ynm T o S c i)) hn) ?_
    rintro r M' ⟨q1, q2 | q2⟩
    · obtain ⟨q2, rfl⟩ := q2
      rw [if_pos rfl]
      exact zwp_ret ⟨q1, by unfold ywo; rw [if_neg e, q2]; rfl⟩
    · obtain ⟨q2, rfl⟩ := q2
      rw [if_neg (by decide), mrdL_of (k := 233) (j := 0) (by decide) (by decide), zob_some]
      exact zwp_ret ⟨q1, by unfold ywo; rw [if_neg e, q2]; rfl⟩
/-- calls and within, in a row -/
theorem r_cw {α : Type} {Q : α → zMem → Prop} {a : Int32} (h : yRS M sl o T S) {k c : Nat} (hk : k < 3) (hc : c < T.nc) {g : Unit → zMem → Option (α × zMem)} (kk : ∀ M', M'.1 = M.1 → (∀ i, i < 7 → M'.2 232 i = Int32.toInt64 (ynm T o S c i)) → yRS M' sl o T S → zwp (g () M') Q) (ea : zN a sl := by with_reducible repeat (first | assumption | exact zn_of _ | exact zn_lit _ | apply zn_add | apply zn_mul)) : zwp (mbd (m_X8_calls a (Int32.ofNat c) M) g) Q := by
  refine zwp_bd (r_calls h hc) ?_
  rintro u M' ⟨q1, q2⟩
  exact kk M' q1 q2 (h.keep (P := fun _ _ => False) (fun x y _ => by rw [q1]) (fun z => z) (fun z => z) (fun _ _ _ _ z => z) (fun _ _ _ _ z => z))
end

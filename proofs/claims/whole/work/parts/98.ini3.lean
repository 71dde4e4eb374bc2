/-! reader, future, the class itself -/
def zfs_X7 : List Value := [.null, .int 0, .null, .null, .null, .null, .int 0, .null, .null, .null]
theorem zfs_X7_ok : ∀ j, j < 10 → defaultValue (tyX7 j) = vp_V zfs_X7 j := by decide +kernel
def zfs_X8 : List Value := [.int 0, .null, .int 0, .null, .null, .null, .null, .null, .null, .null, .null, .null, .null, .null, .null, .null, .null, .null, .null, .null, .int 0, .int 0, .int 0, .int 0, .int 0, .int 0, .int 0, .int 0, .int 0, .int 0, .int 0, .int 0, .int 0, .null, .null, .int 0, .null, .null, .null, .null, .null, .null, .null, .null, .null, .null, .null, .int 0, .int 0, .int 0, .int 0, .int 0, .int 0, .int 0, .null, .int 0, .null, .int 0, .int 0, .null, .null, .int 0, .int 0, .null, .null, .null, .null, .null]
theorem zfs_X8_ok : ∀ j, j < 68 → defaultValue (tyX8 j) = vp_V zfs_X8 j := by decide +kernel
theorem zlp_for {σ β : Type} {N : Nat} {body : σ → zHp → Option ((σ ⊕ β) × zHp)} (n : Nat) (g : Nat → σ) (I : Nat → zHp → Prop) {b : β}
    (hs : ∀ c h, c < n → I c h → ∃ h1, body (g c) h = some (.inl (g (c + 1)), h1) ∧ I (c + 1) h1) (he : ∀ h, I n h → body (g n) h = some (.inr b, h)) : ∀ c, c ≤ n → ∀ h, I c h → n - c < N → ∃ h1, zlp N body (g c) h = some (b, h1) ∧ I n h1 := by
  induction N with
  | zero => intro c _ h _ hN; omega
  | succ N ih =>
    intro c hc h hI hN
    by_cases e : c = n
    · subst e
      refine ⟨h, ?_, hI⟩
      show zbd (body (g c) h) _ = _
      rw [he h hI]; rfl
    · obtain ⟨h1, e1, i1⟩ := hs c h (by omega) hI
      obtain ⟨h2, e2, i2⟩ := ih (c + 1) (by omega) h1 i1 (by omega)
      refine ⟨h2, ?_, i2⟩
      show zbd (body (g c) h) _ = _
      rw [e1]; exact e2
theorem zco_0 {k : Nat} (h : k < 138) : zco 0 (Int32.ofNat k) = some (zch 0 k) := by
  unfold zco
  rw [zi_cl (by omega), show zLn.getD 0 0 = 138 from rfl, if_neg]
  rintro (e | e)
  · exact zi_nn (by omega) e
  · omega
def ypw (w : Nat) : Nat → Int32
  | 0 => 0
  | c + 1 => if zch 0 (w * 6 + c) = 32 then ((ypw w c <<< (5 &&& 31)) ||| 0) else ((ypw w c <<< (5 &&& 31)) ||| ((zch 0 (w * 6 + c) - 97) + 1))
theorem ypw_s (w c : Nat) : ypw w (c + 1) = if zch 0 (w * 6 + c) = 32 then ((ypw w c <<< (5 &&& 31)) ||| 0) else ((ypw w c <<< (5 &&& 31)) ||| ((zch 0 (w * 6 + c) - 97) + 1)) := rfl
theorem ypw_6 : ∀ w, w < 23 → ypw w 6 = Int32.ofNat (yWp w) := by decide +kernel
def yWg (w : Nat) : Nat → Int32 := fun j => if j < w then Int32.ofNat (yWp j) else 0
theorem yWg_0 : yWg 0 = fun _ => 0 := by funext j; exact if_neg (Nat.not_lt_zero j)
theorem yWg_s {w : Nat} : upd (yWg w) w (Int32.ofNat (yWp w)) = yWg (w + 1) := by
  funext j
  show (if j = w then Int32.ofNat (yWp w) else if j < w then Int32.ofNat (yWp j) else 0) = (if j < w + 1 then Int32.ofNat (yWp j) else 0)
  by_cases e : j = w
  · rw [if_pos e, if_pos (by omega), e]
  · rw [if_neg e]
    by_cases e2 : j < w
    · rw [if_pos e2, if_pos (by omega)]
    · rw [if_neg e2, if_neg (by omega)]
theorem yWg_23 : yWg 23 = yWf := rfl
section
variable {B : Nat} {hb h : zHp} {k0 k : Nat} {D : Nat → Option zPC}
theorem yi_nn_s (c : Nat) : (Int32.ofNat c + 1 : Int32) = Int32.ofNat (c + 1) := yi_nn c
set_option maxRecDepth 100000 in
set_option maxHeartbeats 4000000 in
theorem sp_X4 : zSp B (fun a h => f_X4_init a h) 2 4 zfs_X4 24 := by
  intro h e
  have q := zQ.start h e (.inr (4, zfs_X4))
  show zwf (f_X4_init _ _) _
  unfold f_X4_init
  refine q_Ar q (fun h1 q => ?_)
  replace q := q.swap (by decide)
  refine q_P q (by decide) (by decide) (Nat.le_of_ble_eq_true rfl) (fun h1 q => ?_)
  refine q_A q rfl rfl (fun h1 q => ?_)
  refine q_P q (by decide) (by decide) (Nat.le_of_ble_eq_true rfl) (fun h1 q => ?_)
  refine q_O q ?_
  refine q_C q sp_X6_5 (fun j hj => (if_neg (by omega)).trans (if_neg (by omega))) (fun h1 q => ?_)
  refine q_P q (by decide) (by decide) (Nat.le_of_ble_eq_true rfl) (fun h1 q => ?_)
  refine q_A q rfl rfl (fun h1 q => ?_)
  refine q_P q (by decide) (by decide) (Nat.le_of_ble_eq_true rfl) (fun h1 q => ?_)
  refine q_P q (by decide) (by decide) (Nat.le_of_ble_eq_true rfl) (fun h1 q => ?_)
  refine q_P q (by decide) (by decide) (Nat.le_of_ble_eq_true rfl) (fun h1 q => ?_)
  refine zwf_bd (Q' := fun _ h2 => ∃ fs, zQ B h 2 24 (dset (dset dnil 2 (.inr (4, fs))) 3 (.inl (0, 23, .inl (yWg 23)))) h2 ∧ .inr (4, fs) = zcd B 2 zM1) ?_ (fun _ h2 q => ?_)
  · have q := q.swap (by decide)
    rw [← yWg_0] at q
    have I0 : ∃ fs, zQ B h 2 24 (dset (dset dnil 2 (.inr (4, fs))) 3 (.inl (0, 23, .inl (yWg 0)))) h1 ∧ .inr (4, fs) = zcd B 2 zM1 := ⟨_, q, rfl⟩
    have key := zlp_for (N := zLF) (b := (23 : Int32)) (body := fun (s17 : Int32) (h18 : zHp) => if 23 ≤ s17 then some (((.inr s17) : Int32 ⊕ Int32), h18) else zbd (zlp (σ := (Int32 × Int32)) (β := (Int32 × Int32)) zLF (fun s21 h22 => if 6 ≤ s21.2 then some ((.inr (s21.1, s21.2)), h22) else zob (zco 0 ((s17 * 6) + s21.2)) (fun v25 => if v25 = 32 then some ((.inl (((s21.1 <<< (5 &&& 31)) ||| 0), (s21.2 + 1))), h22) else some ((.inl (((s21.1 <<< (5 &&& 31)) ||| ((v25 - 97) + 1)), (s21.2 + 1))), h22))) (0, 0) h18) (fun e23 h24 => zob (zgR h24 (B + 2) 4 0) (fun v26 => zob (zsI 0 h24 v26 s17 e23.1) (fun h27 => some ((.inl (s17 + 1)), h27))))) 23 (fun c => Int32.ofNat c) (fun c h2 => ∃ fs, zQ B h 2 24 (dset (dset dnil 2 (.inr (4, fs))) 3 (.inl (0, 23, .inl (yWg c)))) h2 ∧ .inr (4, fs) = zcd B 2 zM1) ?_ ?_ 0 (by decide) h1 I0 (by decide)
    · obtain ⟨h2, e2, i2⟩ := key
      exact ⟨_, h2, e2, i2⟩
    · rintro c h2 hc ⟨fs, q2, ef⟩
      have inn := zlp_for (N := zLF) (b := (ypw c 6, (6 : Int32))) (body := fun (s21 : Int32 × Int32) (h22 : zHp) => if 6 ≤ s21.2 then some (((.inr (s21.1, s21.2)) : (Int32 × Int32) ⊕ (Int32 × Int32)), h22) else zob (zco 0 ((Int32.ofNat c * 6) + s21.2)) (fun v25 => if v25 = 32 then some ((.inl (((s21.1 <<< (5 &&& 31)) ||| 0), (s21.2 + 1))), h22) else some ((.inl (((s21.1 <<< (5 &&& 31)) ||| ((v25 - 97) + 1)), (s21.2 + 1))), h22))) 6 (fun j => (ypw c j, Int32.ofNat j)) (fun _ h3 => h3 = h2) ?_ ?_ 0 (by decide) h2 rfl (by decide)
      · obtain ⟨h3, e3, rfl⟩ := inn
        have q3 := q2.swap (by decide)
        have er : zgR h3 (B + 2) 4 0 = some (B + 3) := by
          have eq : zcd B 2 zM1 = .inr (4, zfl 4 B 2 (zM1.1 2)) := rfl
          rw [eq] at ef
          cases ef
          unfold zgR
          rw [q3.at (by decide) (by decide)]
          rfl
        have es : zsI 0 h3 (B + 3) (Int32.ofNat c) (ypw c 6) = some (zwr h3 (B + 3) (.inl (0, 23, .inl (yWg (c + 1))))) := by
          unfold zsI
          rw [q2.at (by decide) (by decide), zi_cl (by omega), ← yWg_s, ← ypw_6 c hc]
          have hi : ¬ (Int32.ofNat c < 0 ∨ 23 ≤ c) := by
            rintro (z | z)
            · exact zi_nn (by omega) z
            · omega
          simp only [hi, not_false_iff, and_self, if_true]
          rfl
        refine ⟨zwr h3 (B + 3) (.inl (0, 23, .inl (yWg (c + 1)))), ?_, fs, q2.wr (by decide) _, ef⟩
        show (if 23 ≤ Int32.ofNat c then _ else _) = _
        rw [if_neg (yge hc (by decide)), show ((0 : Int32), (0 : Int32)) = (ypw c 0, Int32.ofNat 0) from rfl]
        show zbd (zlp zLF _ (ypw c 0, Int32.ofNat 0) h3) _ = _
        rw [e3]
        show zob (zgR h3 (B + 2) 4 0) _ = _
        rw [er]
        show zob (zsI 0 h3 (B + 3) (Int32.ofNat c) (ypw c 6)) _ = _
        rw [es, yi_nn_s c]
        rfl
      · rintro j h3 hj rfl
        refine ⟨h3, ?_, rfl⟩
        show (if 6 ≤ Int32.ofNat j then _ else _) = _
        rw [if_neg (yge hj (by decide))]
        show zob (zco 0 ((Int32.ofNat c * 6) + Int32.ofNat j)) _ = _
        rw [show (Int32.ofNat c * 6) + Int32.ofNat j = Int32.ofNat (c * 6 + j) by rw [show (6 : Int32) = Int32.ofNat 6 from rfl, ← Int32.ofNat_mul, ← Int32.ofNat_add], zco_0 (by omega)]
        show (if zch 0 (c * 6 + j) = 32 then _ else _) = some (Sum.inl (ypw c (j + 1), Int32.ofNat (j + 1)), h3)
        rw [ypw_s, ← yi_nn j]
        by_cases z : zch 0 (c * 6 + j) = 32
        · rw [if_pos z, if_pos z]; (try rfl)
        · rw [if_neg z, if_neg z]; (try rfl)
      · rintro h3 rfl
        show (if 6 ≤ Int32.ofNat 6 then _ else _) = _
        rw [if_pos (by decide)]; rfl
    · rintro h2 -
      show (if 23 ≤ Int32.ofNat 23 then _ else _) = _
      rw [if_pos (by decide)]; rfl
  · obtain ⟨fs, q, ef⟩ := q
    rw [yWg_23] at q
    exact zwf_ret ((q.done rfl rfl).done ef rfl)
theorem yup6 : va_up (va_up (va_up (va_up (va_up (va_up (fun _ => none) 0 (some (B + 99))) 1 (some (B + 118))) 2 (some (B + 137))) 3 (some (B + 156))) 4 (some (B + 175))) 5 (some (B + 194)) = (fun i => if i < 6 then some (B + (99 + 19 * i)) else none) := by
  funext i
  unfold va_up
  by_cases h : i < 6
  · rw [if_pos h]
    rcases (show i = 0 ∨ i = 1 ∨ i = 2 ∨ i = 3 ∨ i = 4 ∨ i = 5 by omega) with rfl | rfl | rfl | rfl | rfl | rfl <;> rfl
  · rw [if_neg h, if_neg (by omega), if_neg (by omega), if_neg (by omega), if_neg (by omega), if_neg (by omega), if_neg (by omega)]
set_option maxRecDepth 100000 in
set_option maxHeartbeats 4000000 in
theorem sp_X1 : zSp B (fun a h => f_X1_init a (B + 24) h) 92 1 zfs_X1 213 := by
  intro h e
  have q := zQ.start h e (.inr (1, zfs_X1))
  show zwf (f_X1_init _ _ _) _
  unfold f_X1_init
  refine q_Ar q (fun h1 q => ?_)
  replace q := q.swap (by decide)
  refine q_P q (by decide) (by decide) (Nat.le_of_ble_eq_true rfl) (fun h1 q => ?_)
  refine q_A q rfl rfl (fun h1 q => ?_)
  refine q_P q (by decide) (by decide) (Nat.le_of_ble_eq_true rfl) (fun h1 q => ?_)
  refine q_A q rfl rfl (fun h1 q => ?_)
  refine q_P q (by decide) (by decide) (Nat.le_of_ble_eq_true rfl) (fun h1 q => ?_)
  refine q_A q rfl rfl (fun h1 q => ?_)
  refine q_P q (by decide) (by decide) (Nat.le_of_ble_eq_true rfl) (fun h1 q => ?_)
  refine q_A q rfl rfl (fun h1 q => ?_)
  refine q_P q (by decide) (by decide) (Nat.le_of_ble_eq_true rfl) (fun h1 q => ?_)
  refine q_A q rfl rfl (fun h1 q => ?_)
  refine q_P q (by decide) (by decide) (Nat.le_of_ble_eq_true rfl) (fun h1 q => ?_)
  refine q_gR q (by decide) (by decide) rfl ?_
  refine q_ln (q.swap (by decide)) (by decide) (by decide) (by decide) ?_
  rw [if_neg (by decide)]
  refine q_gR q (by decide) (by decide) rfl ?_
  refine q_O q ?_
  refine q_C q sp_X5_99 (fun j hj => (if_neg (by omega)).trans (if_neg (by omega))) (fun h1 q => ?_)
  refine q_sA (s := 99) (q.swap (by decide)) (by decide) (by decide) (by decide) (by decide) (by decide) rfl rfl (by decide) (fun h1 q => ?_)
  replace q := q.swap (by decide)
  refine q_gR q (by decide) (by decide) rfl ?_
  refine q_ln (q.swap (by decide)) (by decide) (by decide) (by decide) ?_
  rw [if_neg (by decide)]
  refine q_gR q (by decide) (by decide) rfl ?_
  refine q_O q ?_
  refine q_C q sp_X5_118 (fun j hj => (if_neg (by omega)).trans (if_neg (by omega))) (fun h1 q => ?_)
  refine q_sA (s := 118) (q.swap (by decide)) (by decide) (by decide) (by decide) (by decide) (by decide) rfl rfl (by decide) (fun h1 q => ?_)
  replace q := q.swap (by decide)
  refine q_gR q (by decide) (by decide) rfl ?_
  refine q_ln (q.swap (by decide)) (by decide) (by decide) (by decide) ?_
  rw [if_neg (by decide)]
  refine q_gR q (by decide) (by decide) rfl ?_
  refine q_O q ?_
  refine q_C q sp_X5_137 (fun j hj => (if_neg (by omega)).trans (if_neg (by omega))) (fun h1 q => ?_)
  refine q_sA (s := 137) (q.swap (by decide)) (by decide) (by decide) (by decide) (by decide) (by decide) rfl rfl (by decide) (fun h1 q => ?_)
  replace q := q.swap (by decide)
  refine q_gR q (by decide) (by decide) rfl ?_
  refine q_ln (q.swap (by decide)) (by decide) (by decide) (by decide) ?_
  rw [if_neg (by decide)]
  refine q_gR q (by decide) (by decide) rfl ?_
  refine q_O q ?_
  refine q_C q sp_X5_156 (fun j hj => (if_neg (by omega)).trans (if_neg (by omega))) (fun h1 q => ?_)
  refine q_sA (s := 156) (q.swap (by decide)) (by decide) (by decide) (by decide) (by decide) (by decide) rfl rfl (by decide) (fun h1 q => ?_)
  replace q := q.swap (by decide)
  refine q_gR q (by decide) (by decide) rfl ?_
  refine q_ln (q.swap (by decide)) (by decide) (by decide) (by decide) ?_
  rw [if_neg (by decide)]
  refine q_gR q (by decide) (by decide) rfl ?_
  refine q_O q ?_
  refine q_C q sp_X5_175 (fun j hj => (if_neg (by omega)).trans (if_neg (by omega))) (fun h1 q => ?_)
  refine q_sA (s := 175) (q.swap (by decide)) (by decide) (by decide) (by decide) (by decide) (by decide) rfl rfl (by decide) (fun h1 q => ?_)
  replace q := q.swap (by decide)
  refine q_gR q (by decide) (by decide) rfl ?_
  refine q_ln (q.swap (by decide)) (by decide) (by decide) (by decide) ?_
  rw [if_neg (by decide)]
  refine q_gR q (by decide) (by decide) rfl ?_
  refine q_O q ?_
  refine q_C q sp_X5_194 (fun j hj => (if_neg (by omega)).trans (if_neg (by omega))) (fun h1 q => ?_)
  refine q_sA (s := 194) (q.swap (by decide)) (by decide) (by decide) (by decide) (by decide) (by decide) rfl rfl (by decide) (fun h1 q => ?_)
  replace q := q.swap (by decide)
  refine q_gR q (by decide) (by decide) rfl ?_
  refine q_ln (q.swap (by decide)) (by decide) (by decide) (by decide) ?_
  rw [if_pos (by decide)]
  refine q_gR q (by decide) (by decide) rfl ?_
  refine q_aA (q.swap (by decide)) (by decide) (by decide) (by decide) rfl ?_
  refine q_P q (by decide) (by decide) (Nat.le_of_ble_eq_true rfl) (fun h1 q => ?_)
  refine zwf_ret ((q.done rfl rfl).done ?_ rfl)
  show .inl (4, 6, .inr (.inr (.inr (.inr (va_up (va_up (va_up (va_up (va_up (va_up (fun _ => none) 0 (some (B + 99))) 1 (some (B + 118))) 2 (some (B + 137))) 3 (some (B + 156))) 4 (some (B + 175))) 5 (some (B + 194))))))) = zcd B 93 zM1
  rw [yup6]
  rfl
set_option maxRecDepth 100000 in
set_option maxHeartbeats 4000000 in
theorem sp_X7 : zSp B (fun a h => f_X7_init a h) 0 7 zfs_X7 213 := by
  intro h e
  have q := zQ.start h e (.inr (7, zfs_X7))
  show zwf (f_X7_init _ _) _
  unfold f_X7_init
  refine q_A q rfl rfl (fun h1 q => ?_)
  refine q_P q (by decide) (by decide) (Nat.le_of_ble_eq_true rfl) (fun h1 q => ?_)
  refine q_P q (by decide) (by decide) (Nat.le_of_ble_eq_true rfl) (fun h1 q => ?_)
  refine q_O q ?_
  refine q_C q sp_X4 (fun j hj => if_neg (by omega)) (fun h1 q => ?_)
  refine q_P q (by decide) (by decide) (Nat.le_of_ble_eq_true rfl) (fun h1 q => ?_)
  refine q_O q ?_
  refine q_C q sp_X6_24 (fun j hj => if_neg (by omega)) (fun h1 q => ?_)
  refine q_P q (by decide) (by decide) (Nat.le_of_ble_eq_true rfl) (fun h1 q => ?_)
  refine q_O q ?_
  refine q_gRn q (by decide) (by decide) rfl ?_
  refine q_C q sp_X5_42 (fun j hj => if_neg (by omega)) (fun h1 q => ?_)
  refine q_P q (by decide) (by decide) (Nat.le_of_ble_eq_true rfl) (fun h1 q => ?_)
  refine q_O q ?_
  refine q_gRn q (by decide) (by decide) rfl ?_
  refine q_C q sp_X5_61 (fun j hj => if_neg (by omega)) (fun h1 q => ?_)
  refine q_P q (by decide) (by decide) (Nat.le_of_ble_eq_true rfl) (fun h1 q => ?_)
  refine q_P q (by decide) (by decide) (Nat.le_of_ble_eq_true rfl) (fun h1 q => ?_)
  refine q_O q ?_
  refine q_C q sp_X0 (fun j hj => if_neg (by omega)) (fun h1 q => ?_)
  refine q_P q (by decide) (by decide) (Nat.le_of_ble_eq_true rfl) (fun h1 q => ?_)
  refine q_O q ?_
  refine q_C q sp_X3 (fun j hj => if_neg (by omega)) (fun h1 q => ?_)
  refine q_P q (by decide) (by decide) (Nat.le_of_ble_eq_true rfl) (fun h1 q => ?_)
  refine q_O q ?_
  refine q_gRn q (by decide) (by decide) rfl ?_
  refine q_C q sp_X1 (fun j hj => if_neg (by omega)) (fun h1 q => ?_)
  refine q_P q (by decide) (by decide) (Nat.le_of_ble_eq_true rfl) (fun h1 q => ?_)
  exact zwf_ret (q.done rfl rfl)
end

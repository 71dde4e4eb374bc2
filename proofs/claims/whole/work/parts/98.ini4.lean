/-! the same of the first 254 cells (what the reference begins with, ahead of the law's own row) -/
def zV (B n : Nat) (h : zHp) (M : zMem) : Prop := (∀ k, k < 254 → h.1 (B + k) = some (zcd B k M)) ∧ h.2 = n
def zVG {α α' : Type} (R : α → α' → Prop) (B n : Nat) (c : Option (α × zHp)) (c' : Option (α' × zMem)) : Prop := ∀ (r' : α') (M' : zMem), c' = some (r', M') → ∃ (r : α) (h' : zHp), c = some (r, h') ∧ R r r' ∧ zV B n h' M'
abbrev zVR {α : Type} (B n : Nat) (c : Option (α × zHp)) (c' : Option (α × zMem)) : Prop := zVG (fun a b => a = b) B n c c'
section
variable {α α' β σ : Type} {R : α → α' → Prop} {B n : Nat} {h : zHp} {M : zMem}
theorem zV.set {k : Nat} {M' : zMem} {x : zPC} (hW : zV B n h M) (hk : k < 254) (hx : x = zcd B k M') (h1 : ∀ k', k' ≠ k → M'.1 k' = M.1 k') (h2 : ∀ k', k' ≠ k → M'.2 k' = M.2 k') : zV B n (zwr h (B + k) x) M' := by
  refine ⟨fun k' hk' => ?_, hW.2⟩
  by_cases e : k' = k
  · subst e
    show (if B + k' = B + k' then some x else h.1 (B + k')) = _
    rw [if_pos rfl, hx]
  · show (if B + k' = B + k then some x else h.1 (B + k')) = _
    rw [if_neg (by omega), hW.1 k' hk', zcd_same (h1 k' e) (h2 k' e)]
theorem yv_ok {a : α} (hW : zV B n h M) : zVR B n (some (a, h)) (some (a, M)) := by
  intro r M' e
  cases e
  exact ⟨a, h, rfl, rfl, hW⟩
theorem yv_none {c : Option (α × zHp)} : zVG R B n c none := fun _ _ e => by cases e
theorem yv_if {p : Prop} [Decidable p] {c1 c2 : Option (α × zHp)} {d1 d2 : Option (α' × zMem)} (h1 : zVG R B n c1 d1) (h2 : zVG R B n c2 d2) : zVG R B n (if p then c1 else c2) (if p then d1 else d2) := by
  by_cases hp : p
  · rw [if_pos hp, if_pos hp]; exact h1
  · rw [if_neg hp, if_neg hp]; exact h2
theorem yv_obp {γ : Type} {q : Option γ} {f : γ → Option (α × zHp)} {g : γ → Option (α' × zMem)} (k : ∀ v, zVG R B n (f v) (g v)) : zVG R B n (zob q f) (zob q g) := by
  cases q with
  | none => exact yv_none
  | some v => exact k v
theorem yv_bdG {β' : Type} {R1 : β → β' → Prop} {c1 : Option (β × zHp)} {d1 : Option (β' × zMem)} {f : β → zHp → Option (α × zHp)} {g : β' → zMem → Option (α' × zMem)} (h1 : zVG R1 B n c1 d1) (k : ∀ (e : β) (e' : β') (h1 : zHp) (M1 : zMem), R1 e e' → zV B n h1 M1 → zVG R B n (f e h1) (g e' M1)) : zVG R B n (zbd c1 f) (mbd d1 g) := by
  intro r M' e
  cases hq : d1 with
  | none => rw [hq] at e; cases e
  | some q =>
    obtain ⟨a, M1⟩ := q
    rw [hq] at e
    obtain ⟨a0, hh, e1, r1, w1⟩ := h1 a M1 hq
    rw [e1]
    exact k a0 a hh M1 r1 w1 r M' e
theorem yv_bd {c1 : Option (β × zHp)} {d1 : Option (β × zMem)} {f : β → zHp → Option (α × zHp)} {g : β → zMem → Option (α' × zMem)} (h1 : zVR B n c1 d1) (k : ∀ (e : β) (h1 : zHp) (M1 : zMem), zV B n h1 M1 → zVG R B n (f e h1) (g e M1)) : zVG R B n (zbd c1 f) (mbd d1 g) :=
  yv_bdG h1 (fun e e' h1 M1 hR hw => by cases hR; exact k e h1 M1 hw)
theorem yv_sl {ε ρ : Type} {b : ε ⊕ ρ} {f : ε → Option (α × zHp)} {g : ε → Option (α' × zMem)} {f2 : ρ → Option (α × zHp)} {g2 : ρ → Option (α' × zMem)} (h1 : ∀ e, zVG R B n (f e) (g e)) (h2 : ∀ r, zVG R B n (f2 r) (g2 r)) : zVG R B n (zsl b f f2) (zsl b g g2) := by
  cases b with
  | inl e => exact h1 e
  | inr r => exact h2 r
theorem yv_lp {N : Nat} {f : σ → zHp → Option ((σ ⊕ α) × zHp)} {g : σ → zMem → Option ((σ ⊕ α) × zMem)} (hb : ∀ (s : σ) (h : zHp) (M : zMem), zV B n h M → zVR B n (f s h) (g s M)) : ∀ (s : σ) (h : zHp) (M : zMem), zV B n h M → zVR B n (zlp N f s h) (mlp N g s M) := by
  induction N with
  | zero => intro s h M hW; exact yv_none
  | succ N ih =>
    intro s h M hW
    show zVR B n (zbd (f s h) _) (mbd (g s M) _)
    exact yv_bd (hb s h M hW) (fun r h1 M1 w1 => yv_sl (fun s1 => ih s1 h1 M1 w1) (fun b => yv_ok w1))
theorem yv_gI {c k j : Nat} {f : Int32 → Option (α × zHp)} {d : Option (α' × zMem)} {v : Int32} (hW : zV B n h M) (hk : zIO c k) (hj : (zfl c B k (M.1 k))[j]? = some (.int v)) (kk : zVG R B n (f v) d) (hl : k < 254 := by decide) : zVG R B n (zob (zgI h (B + k) c j) f) d := by
  have e : zgI h (B + k) c j = some v := by
    unfold zgI
    rw [hW.1 k hl, zcd_o hk]
    simp only [if_true, hj]
  rw [e]
  exact kk
theorem yv_gR {c k j : Nat} {f : Nat → Option (α × zHp)} {d : Option (α' × zMem)} {v : Nat} (hW : zV B n h M) (hk : zIO c k) (hj : (zfl c B k (M.1 k))[j]? = some (.ref v)) (kk : zVG R B n (f v) d) (hl : k < 254 := by decide) : zVG R B n (zob (zgR h (B + k) c j) f) d := by
  have e : zgR h (B + k) c j = some v := by
    unfold zgR
    rw [hW.1 k hl, zcd_o hk]
    simp only [if_true, hj]
  rw [e]
  exact kk
theorem yv_a0 {N k : Nat} {i : Int32} {f : Int32 → Option (α × zHp)} {g : Int32 → Option (α' × zMem)} (hW : zV B n h M) (hk : zIA 0 N k) (kk : ∀ v, zVG R B n (f v) (g v)) (hl : k < 254 := by decide) : zVG R B n (zob (zaI 0 h (B + k) i) f) (zob (mrd M k i) g) := by
  have e : zaI 0 h (B + k) i = mrd M k i := by
    unfold zaI mrd
    rw [hW.1 k hl, zcd_0 hk, hk.2]
    by_cases q : i < 0 ∨ N ≤ i.toNatClampNeg
    · simp only [q, not_true, and_false, if_false, if_true]
    · simp only [q, not_false_iff, and_self, if_true, if_false]
  rw [e]
  exact yv_obp kk
theorem yv_s {t N k : Nat} {i x : Int32} {f : zHp → Option (α × zHp)} {g : zMem → Option (α' × zMem)} (ht : t < 3) (hW : zV B n h M) (hk : zIA t N k) (kk : ∀ (h1 : zHp) (M1 : zMem), zV B n h1 M1 → zVG R B n (f h1) (g M1)) (hl : k < 254 := by decide) : zVG R B n (zob (zsI t h (B + k) i x) f) (zob (mwr M k i (znar t x)) g) := by
  by_cases q : i < 0 ∨ N ≤ i.toNatClampNeg
  · have e : mwr M k i (znar t x) = none := by
      unfold mwr; rw [hk.2]; rw [if_pos q]
    rw [e]
    exact yv_none
  · have e : mwr M k i (znar t x) = some (mup M k i.toNatClampNeg (znar t x)) := by
      unfold mwr; rw [hk.2]; rw [if_neg q]
    have hc : ∀ M' : zMem, zcd B k M' = .inl (t, N, .inl (M'.1 k)) := fun M' => by
      rcases (show t = 0 ∨ t = 1 ∨ t = 2 by omega) with rfl | rfl | rfl
      · exact zcd_0 hk B M'
      · exact zcd_1 hk B M'
      · exact zcd_2 hk B M'
    have e2 : zsI t h (B + k) i x = some (zwr h (B + k) (.inl (t, N, .inl (upd (M.1 k) i.toNatClampNeg (znar t x))))) := by
      unfold zsI
      rw [hW.1 k hl, hc]
      simp only [q, not_false_iff, and_self, if_true]
    rw [e, e2]
    exact kk _ _ (hW.set hl (by rw [hc, mup_eq]) (fun k' hk' => mup_ne hk') (fun _ _ => rfl))
theorem yv_cv {c k : Nat} {F : Option (β × zHp)} {d1 : Option (β × zMem)} {f : β → zHp → Option (α × zHp)} {g : β → zMem → Option (α' × zMem)} (hW : zV B n h M) (hk : zIO c k) (h1 : zVR B n F d1) (kk : ∀ (e : β) (h1 : zHp) (M1 : zMem), zV B n h1 M1 → zVG R B n (f e h1) (g e M1)) (hl : k < 254 := by decide) : zVG R B n (zbd (zcv c (B + k) h F) f) (mbd d1 g) := by
  have e : zcv c (B + k) h F = F := by
    unfold zcv
    rw [hW.1 k hl, zcd_o hk]
    simp only [if_true]
  rw [e]
  exact yv_bd h1 kk
theorem yv_s0 {N k : Nat} {i x : Int32} {f : zHp → Option (α × zHp)} {g : zMem → Option (α' × zMem)} (hW : zV B n h M) (hk : zIA 0 N k) (kk : ∀ (h1 : zHp) (M1 : zMem), zV B n h1 M1 → zVG R B n (f h1) (g M1)) (hl : k < 254 := by decide) : zVG R B n (zob (zsI 0 h (B + k) i x) f) (zob (mwr M k i x) g) :=
  yv_s (t := 0) (by decide) hW hk kk hl
end
set_option maxRecDepth 100000 in
set_option maxHeartbeats 4000000 in
theorem v_X8_sizeIn {B n : Nat} {h0 : zHp} {M0 : zMem} (w0 : zV B n h0 M0) (a1 : Int32) : zVR B n (f_X8_sizeIn (B + 213) a1 h0) (m_X8_sizeIn a1 M0) := by
  unfold f_X8_sizeIn m_X8_sizeIn
  refine yv_gI w0 zio_8 rfl ?_
  refine yv_if ?_ ?_
  · refine yv_gI w0 zio_8 rfl ?_
    exact yv_ok w0
  · refine yv_gR w0 zio_8 rfl ?_
    refine yv_a0 w0 zca_222 (fun v4 => ?_)
    exact yv_ok w0
set_option maxRecDepth 100000 in
set_option maxHeartbeats 4000000 in
theorem v_X8_starts {B n : Nat} {h0 : zHp} {M0 : zMem} (w0 : zV B n h0 M0) (a1 : Int32) : zVR B n (f_X8_starts (B + 213) a1 h0) (m_X8_starts a1 M0) := by
  unfold f_X8_starts m_X8_starts
  refine yv_gR w0 zio_8 rfl ?_
  refine yv_s0 w0 zca_234 (fun h2 M2 w2 => ?_)
  refine yv_gR w2 zio_8 rfl ?_
  refine yv_s0 w2 zca_235 (fun h4 M4 w4 => ?_)
  refine yv_bd (yv_lp (fun s5 h6 M6 w6 => ?_) 0 h4 M4 w4) (fun e7 h8 M8 w8 => ?_)
  · refine yv_if ?_ ?_
    · exact yv_ok w6
    · refine yv_gR w6 zio_8 rfl ?_
      refine yv_gR w6 zio_8 rfl ?_
      refine yv_a0 w6 zca_215 (fun v11 => ?_)
      refine yv_bd ?_ (fun e14 h15 M15 w15 => ?_)
      · refine yv_if ?_ ?_
        · exact yv_ok w6
        · refine yv_gR w6 zio_8 rfl ?_
          refine yv_a0 w6 zca_221 (fun v13 => ?_)
          exact yv_ok w6
      · refine yv_s0 w15 zca_236 (fun h16 M16 w16 => ?_)
        refine yv_gR w16 zio_8 rfl ?_
        refine yv_gR w16 zio_8 rfl ?_
        refine yv_a0 w16 zca_215 (fun v19 => ?_)
        refine yv_bd ?_ (fun e22 h23 M23 w23 => ?_)
        · refine yv_if ?_ ?_
          · exact yv_ok w16
          · refine yv_cv w16 zio_8 (v_X8_sizeIn w16 s5) (fun v21 h20 M20 w20 => ?_)
            exact yv_ok w20
        · refine yv_s0 w23 zca_237 (fun h24 M24 w24 => ?_)
          refine yv_gR w24 zio_8 rfl ?_
          refine yv_s0 w24 zca_238 (fun h26 M26 w26 => ?_)
          refine yv_gR w26 zio_8 rfl ?_
          refine yv_s0 w26 zca_239 (fun h28 M28 w28 => ?_)
          refine yv_gR w28 zio_8 rfl ?_
          refine yv_s0 w28 zca_240 (fun h30 M30 w30 => ?_)
          exact yv_ok w30
  · refine yv_bd (yv_lp (fun s31 h32 M32 w32 => ?_) 0 h8 M8 w8) (fun e33 h34 M34 w34 => ?_)
    · refine yv_if ?_ ?_
      · exact yv_ok w32
      · refine yv_gR w32 zio_8 rfl ?_
        refine yv_gR w32 zio_8 rfl ?_
        refine yv_a0 w32 zca_215 (fun v37 => ?_)
        refine yv_bd ?_ (fun e40 h41 M41 w41 => ?_)
        · refine yv_if ?_ ?_
          · exact yv_ok w32
          · refine yv_gR w32 zio_8 rfl ?_
            refine yv_a0 w32 zca_225 (fun v39 => ?_)
            exact yv_ok w32
        · refine yv_s0 w41 zca_241 (fun h42 M42 w42 => ?_)
          refine yv_gR w42 zio_8 rfl ?_
          refine yv_s0 w42 zca_242 (fun h44 M44 w44 => ?_)
          exact yv_ok w44
    · refine yv_bd (yv_lp (fun s45 h46 M46 w46 => ?_) 0 h34 M34 w34) (fun e47 h48 M48 w48 => ?_)
      · refine yv_if ?_ ?_
        · exact yv_ok w46
        · refine yv_gR w46 zio_8 rfl ?_
          refine yv_s0 w46 zca_243 (fun h50 M50 w50 => ?_)
          exact yv_ok w50
      · refine yv_bd (yv_lp (fun s51 h52 M52 w52 => ?_) 0 h48 M48 w48) (fun e53 h54 M54 w54 => ?_)
        · refine yv_if ?_ ?_
          · exact yv_ok w52
          · refine yv_gR w52 zio_8 rfl ?_
            refine yv_s0 w52 zca_244 (fun h56 M56 w56 => ?_)
            exact yv_ok w56
        · exact yv_ok w54
set_option maxRecDepth 100000 in
set_option maxHeartbeats 4000000 in
theorem v_X8_begins {B n : Nat} {h0 : zHp} {M0 : zMem} (w0 : zV B n h0 M0)  : zVR B n (f_X8_begins (B + 213) h0) (m_X8_begins  M0) := by
  unfold f_X8_begins m_X8_begins
  refine yv_cv w0 zio_8 (v_X8_starts w0 0) (fun v2 h1 M1 w1 => ?_)
  exact yv_ok w1
/-! what the first memory holds -/
theorem z_rt : yRT zM1 yT0 := by
  have no : ∀ {P : Nat → Prop} (i : Nat), i < 0 → P i := fun i hi => absurd hi (Nat.not_lt_zero i)
  exact ⟨rfl, rfl, rfl, rfl, rfl, rfl, rfl, fun _ _ => rfl, no, no, no, no, no, no, no, no, no, no, no, fun k hk => ⟨0, by show 0 + 0 ≤ 64; omega, rfl, rfl, fun j hj => absurd hj (Nat.not_lt_zero j)⟩⟩
theorem z_begins : zwp (m_X8_begins zM1) (fun _ M' => yRS M' 0 0 yT0 (ystart yT0 yT0.bsize) ∧ zfr (yTR 0) zM1 M') := by
  unfold m_X8_begins
  exact zwp_bd (r_starts (a := 0) (sl := 0) (o := 0) z_rt yT0_ok.1 (by decide) rfl (by decide) yT0.bsize (fun c hc => absurd hc (Nat.not_lt_zero c))) (fun _ M' y => zwp_ret y)
section
variable {B : Nat}
theorem y215f : (upd (upd (upd (upd (upd (upd (upd (upd (upd (upd (upd (upd (upd (upd (upd (upd (fun _ => 0) (Int32.toNatClampNeg 0) 0) (Int32.toNatClampNeg 1) 0) (Int32.toNatClampNeg 2) 0) (Int32.toNatClampNeg 3) 0) (Int32.toNatClampNeg 4) 6) (Int32.toNatClampNeg 5) 9) (Int32.toNatClampNeg 6) 0) (Int32.toNatClampNeg 7) 0) (Int32.toNatClampNeg 8) 0) (Int32.toNatClampNeg 9) 0) (Int32.toNatClampNeg 10) 0) (Int32.toNatClampNeg 11) 0) (Int32.toNatClampNeg 12) 6) (Int32.toNatClampNeg 13) 9) (Int32.toNatClampNeg 14) 0) (Int32.toNatClampNeg 15) 0) = zM1.1 215 := by
  funext i
  by_cases h : i < 16
  · have : ∀ i, i < 16 → (upd (upd (upd (upd (upd (upd (upd (upd (upd (upd (upd (upd (upd (upd (upd (upd (fun _ => 0) (Int32.toNatClampNeg 0) 0) (Int32.toNatClampNeg 1) 0) (Int32.toNatClampNeg 2) 0) (Int32.toNatClampNeg 3) 0) (Int32.toNatClampNeg 4) 6) (Int32.toNatClampNeg 5) 9) (Int32.toNatClampNeg 6) 0) (Int32.toNatClampNeg 7) 0) (Int32.toNatClampNeg 8) 0) (Int32.toNatClampNeg 9) 0) (Int32.toNatClampNeg 10) 0) (Int32.toNatClampNeg 11) 0) (Int32.toNatClampNeg 12) 6) (Int32.toNatClampNeg 13) 9) (Int32.toNatClampNeg 14) 0) (Int32.toNatClampNeg 15) 0) i = zM1.1 215 i := by decide +kernel
    exact this i h
  · show (upd (upd (upd (upd (upd (upd (upd (upd (upd (upd (upd (upd (upd (upd (upd (upd (fun _ => 0) (Int32.toNatClampNeg 0) 0) (Int32.toNatClampNeg 1) 0) (Int32.toNatClampNeg 2) 0) (Int32.toNatClampNeg 3) 0) (Int32.toNatClampNeg 4) 6) (Int32.toNatClampNeg 5) 9) (Int32.toNatClampNeg 6) 0) (Int32.toNatClampNeg 7) 0) (Int32.toNatClampNeg 8) 0) (Int32.toNatClampNeg 9) 0) (Int32.toNatClampNeg 10) 0) (Int32.toNatClampNeg 11) 0) (Int32.toNatClampNeg 12) 6) (Int32.toNatClampNeg 13) 9) (Int32.toNatClampNeg 14) 0) (Int32.toNatClampNeg 15) 0) i = (if i = 4 ∨ i = 12 then 6 else if i = 5 ∨ i = 13 then 9 else 0)
    rw [if_neg (by omega), if_neg (by omega)]
    unfold upd
    have e : ∀ j : Int32, j.toNatClampNeg < 16 → ¬ i = j.toNatClampNeg := fun j hj => by omega
    rw [if_neg (e _ (by decide)), if_neg (e _ (by decide)), if_neg (e _ (by decide)), if_neg (e _ (by decide)), if_neg (e _ (by decide)), if_neg (e _ (by decide)), if_neg (e _ (by decide)), if_neg (e _ (by decide)), if_neg (e _ (by decide)), if_neg (e _ (by decide)), if_neg (e _ (by decide)), if_neg (e _ (by decide)), if_neg (e _ (by decide)), if_neg (e _ (by decide)), if_neg (e _ (by decide)), if_neg (e _ (by decide))]
theorem y215 : (.inl (0, 16, .inl (upd (upd (upd (upd (upd (upd (upd (upd (upd (upd (upd (upd (upd (upd (upd (upd (fun _ => 0) (Int32.toNatClampNeg 0) 0) (Int32.toNatClampNeg 1) 0) (Int32.toNatClampNeg 2) 0) (Int32.toNatClampNeg 3) 0) (Int32.toNatClampNeg 4) 6) (Int32.toNatClampNeg 5) 9) (Int32.toNatClampNeg 6) 0) (Int32.toNatClampNeg 7) 0) (Int32.toNatClampNeg 8) 0) (Int32.toNatClampNeg 9) 0) (Int32.toNatClampNeg 10) 0) (Int32.toNatClampNeg 11) 0) (Int32.toNatClampNeg 12) 6) (Int32.toNatClampNeg 13) 9) (Int32.toNatClampNeg 14) 0) (Int32.toNatClampNeg 15) 0)) : zPC) = zcd B 215 zM1 := by
  rw [y215f]; rfl
theorem zM1_z {k : Nat} (h1 : 213 < k) (h2 : ¬ k = 215) : zM1.1 k = fun _ => 0 := by
  show (if k = 0 then _ else if k = 2 then _ else if k = 3 then _ else if k = 5 ∨ k = 24 then _ else if k = 42 ∨ k = 61 ∨ k = 99 ∨ k = 118 ∨ k = 137 ∨ k = 156 ∨ k = 175 ∨ k = 194 then _ else if k = 85 then _ else if k = 213 then _ else if k = 215 then _ else (fun _ => 0)) = _
  rw [if_neg (by omega), if_neg (by omega), if_neg (by omega), if_neg (by omega), if_neg (by omega), if_neg (by omega), if_neg (by omega), if_neg h2]
theorem z_c0 {k n : Nat} (hk : zIA 0 n k) (h1 : 213 < k) (h2 : ¬ k = 215) : .inl (0, n, .inl (fun _ => 0)) = zcd B k zM1 := by rw [zcd_0 hk, zM1_z h1 h2]
theorem z_c2 {k n : Nat} (hk : zIA 2 n k) (h1 : 213 < k) (h2 : ¬ k = 215) : .inl (2, n, .inl (fun _ => 0)) = zcd B k zM1 := by rw [zcd_2 hk, zM1_z h1 h2]
theorem z_c3 {k n : Nat} (hk : zIA 3 n k) (_ : 213 < k) (_ : ¬ k = 215) : .inl (3, n, .inr (.inl (fun _ => 0))) = zcd B k zM1 := by rw [zcd_3 hk]; rfl
set_option maxRecDepth 100000 in
set_option maxHeartbeats 20000000 in
theorem sp_X8 {hb : zHp} (e : hb.2 = B + 213) (h213 : ∀ j, j < 213 → hb.1 (B + j) = some (zcd B j zM1)) : zwf (f_X8_init (B + 213) (znw hb (.inr (8, zfs_X8)))) (fun _ h2 => ∃ M0, zV B (B + 254) h2 M0 ∧ m_X8_begins zM1 = some ((), M0)) := by
  have q := zQ.start hb e (.inr (8, zfs_X8))
  unfold f_X8_init
  refine q_A q rfl (z_c0 (k := 214) ⟨by decide +kernel, by decide +kernel⟩ (by decide) (by decide)) (fun h1 q => ?_)
  refine q_Pn (fs' := [.int 0, .ref (B + 214), .int 0, .null, .null, .null, .null, .null, .null, .null, .null, .null, .null, .null, .null, .null, .null, .null, .null, .null, .int 0, .int 0, .int 0, .int 0, .int 0, .int 0, .int 0, .int 0, .int 0, .int 0, .int 0, .int 0, .int 0, .null, .null, .int 0, .null, .null, .null, .null, .null, .null, .null, .null, .null, .null, .null, .int 0, .int 0, .int 0, .int 0, .int 0, .int 0, .int 0, .null, .int 0, .null, .int 0, .int 0, .null, .null, .int 0, .int 0, .null, .null, .null, .null, .null]) q (by decide) (by decide) (Nat.le_of_ble_eq_true rfl) rfl (fun h1 q => ?_)
  refine q_Ar q (fun h1 q => ?_)
  refine q_sI q (by decide) (by decide) (by decide) (fun h1 q => ?_)
  refine q_sI q (by decide) (by decide) (by decide) (fun h1 q => ?_)
  refine q_sI q (by decide) (by decide) (by decide) (fun h1 q => ?_)
  refine q_sI q (by decide) (by decide) (by decide) (fun h1 q => ?_)
  refine q_sI q (by decide) (by decide) (by decide) (fun h1 q => ?_)
  refine q_sI q (by decide) (by decide) (by decide) (fun h1 q => ?_)
  refine q_sI q (by decide) (by decide) (by decide) (fun h1 q => ?_)
  refine q_sI q (by decide) (by decide) (by decide) (fun h1 q => ?_)
  refine q_sI q (by decide) (by decide) (by decide) (fun h1 q => ?_)
  refine q_sI q (by decide) (by decide) (by decide) (fun h1 q => ?_)
  refine q_sI q (by decide) (by decide) (by decide) (fun h1 q => ?_)
  refine q_sI q (by decide) (by decide) (by decide) (fun h1 q => ?_)
  refine q_sI q (by decide) (by decide) (by decide) (fun h1 q => ?_)
  refine q_sI q (by decide) (by decide) (by decide) (fun h1 q => ?_)
  refine q_sI q (by decide) (by decide) (by decide) (fun h1 q => ?_)
  refine q_sI q (by decide) (by decide) (by decide) (fun h1 q => ?_)
  replace q := q.done y215 rfl
  refine q_Pn (fs' := [.int 0, .ref (B + 214), .int 0, .ref (B + 215), .null, .null, .null, .null, .null, .null, .null, .null, .null, .null, .null, .null, .null, .null, .null, .null, .int 0, .int 0, .int 0, .int 0, .int 0, .int 0, .int 0, .int 0, .int 0, .int 0, .int 0, .int 0, .int 0, .null, .null, .int 0, .null, .null, .null, .null, .null, .null, .null, .null, .null, .null, .null, .int 0, .int 0, .int 0, .int 0, .int 0, .int 0, .int 0, .null, .int 0, .null, .int 0, .int 0, .null, .null, .int 0, .int 0, .null, .null, .null, .null, .null]) q (by decide) (by decide) (Nat.le_of_ble_eq_true rfl) rfl (fun h1 q => ?_)
  refine q_A q rfl (z_c0 (k := 216) ⟨by decide +kernel, by decide +kernel⟩ (by decide) (by decide)) (fun h1 q => ?_)
  refine q_Pn (fs' := [.int 0, .ref (B + 214), .int 0, .ref (B + 215), .ref (B + 216), .null, .null, .null, .null, .null, .null, .null, .null, .null, .null, .null, .null, .null, .null, .null, .int 0, .int 0, .int 0, .int 0, .int 0, .int 0, .int 0, .int 0, .int 0, .int 0, .int 0, .int 0, .int 0, .null, .null, .int 0, .null, .null, .null, .null, .null, .null, .null, .null, .null, .null, .null, .int 0, .int 0, .int 0, .int 0, .int 0, .int 0, .int 0, .null, .int 0, .null, .int 0, .int 0, .null, .null, .int 0, .int 0, .null, .null, .null, .null, .null]) q (by decide) (by decide) (Nat.le_of_ble_eq_true rfl) rfl (fun h1 q => ?_)
  refine q_A q rfl (z_c0 (k := 217) ⟨by decide +kernel, by decide +kernel⟩ (by decide) (by decide)) (fun h1 q => ?_)
  refine q_Pn (fs' := [.int 0, .ref (B + 214), .int 0, .ref (B + 215), .ref (B + 216), .ref (B + 217), .null, .null, .null, .null, .null, .null, .null, .null, .null, .null, .null, .null, .null, .null, .int 0, .int 0, .int 0, .int 0, .int 0, .int 0, .int 0, .int 0, .int 0, .int 0, .int 0, .int 0, .int 0, .null, .null, .int 0, .null, .null, .null, .null, .null, .null, .null, .null, .null, .null, .null, .int 0, .int 0, .int 0, .int 0, .int 0, .int 0, .int 0, .null, .int 0, .null, .int 0, .int 0, .null, .null, .int 0, .int 0, .null, .null, .null, .null, .null]) q (by decide) (by decide) (Nat.le_of_ble_eq_true rfl) rfl (fun h1 q => ?_)
  refine q_A q rfl (z_c0 (k := 218) ⟨by decide +kernel, by decide +kernel⟩ (by decide) (by decide)) (fun h1 q => ?_)
  refine q_Pn (fs' := [.int 0, .ref (B + 214), .int 0, .ref (B + 215), .ref (B + 216), .ref (B + 217), .ref (B + 218), .null, .null, .null, .null, .null, .null, .null, .null, .null, .null, .null, .null, .null, .int 0, .int 0, .int 0, .int 0, .int 0, .int 0, .int 0, .int 0, .int 0, .int 0, .int 0, .int 0, .int 0, .null, .null, .int 0, .null, .null, .null, .null, .null, .null, .null, .null, .null, .null, .null, .int 0, .int 0, .int 0, .int 0, .int 0, .int 0, .int 0, .null, .int 0, .null, .int 0, .int 0, .null, .null, .int 0, .int 0, .null, .null, .null, .null, .null]) q (by decide) (by decide) (Nat.le_of_ble_eq_true rfl) rfl (fun h1 q => ?_)
  refine q_A q rfl (z_c0 (k := 219) ⟨by decide +kernel, by decide +kernel⟩ (by decide) (by decide)) (fun h1 q => ?_)
  refine q_Pn (fs' := [.int 0, .ref (B + 214), .int 0, .ref (B + 215), .ref (B + 216), .ref (B + 217), .ref (B + 218), .ref (B + 219), .null, .null, .null, .null, .null, .null, .null, .null, .null, .null, .null, .null, .int 0, .int 0, .int 0, .int 0, .int 0, .int 0, .int 0, .int 0, .int 0, .int 0, .int 0, .int 0, .int 0, .null, .null, .int 0, .null, .null, .null, .null, .null, .null, .null, .null, .null, .null, .null, .int 0, .int 0, .int 0, .int 0, .int 0, .int 0, .int 0, .null, .int 0, .null, .int 0, .int 0, .null, .null, .int 0, .int 0, .null, .null, .null, .null, .null]) q (by decide) (by decide) (Nat.le_of_ble_eq_true rfl) rfl (fun h1 q => ?_)
  refine q_A q rfl (z_c0 (k := 220) ⟨by decide +kernel, by decide +kernel⟩ (by decide) (by decide)) (fun h1 q => ?_)
  refine q_Pn (fs' := [.int 0, .ref (B + 214), .int 0, .ref (B + 215), .ref (B + 216), .ref (B + 217), .ref (B + 218), .ref (B + 219), .ref (B + 220), .null, .null, .null, .null, .null, .null, .null, .null, .null, .null, .null, .int 0, .int 0, .int 0, .int 0, .int 0, .int 0, .int 0, .int 0, .int 0, .int 0, .int 0, .int 0, .int 0, .null, .null, .int 0, .null, .null, .null, .null, .null, .null, .null, .null, .null, .null, .null, .int 0, .int 0, .int 0, .int 0, .int 0, .int 0, .int 0, .null, .int 0, .null, .int 0, .int 0, .null, .null, .int 0, .int 0, .null, .null, .null, .null, .null]) q (by decide) (by decide) (Nat.le_of_ble_eq_true rfl) rfl (fun h1 q => ?_)
  refine q_A q rfl (z_c0 (k := 221) ⟨by decide +kernel, by decide +kernel⟩ (by decide) (by decide)) (fun h1 q => ?_)
  refine q_Pn (fs' := [.int 0, .ref (B + 214), .int 0, .ref (B + 215), .ref (B + 216), .ref (B + 217), .ref (B + 218), .ref (B + 219), .ref (B + 220), .ref (B + 221), .null, .null, .null, .null, .null, .null, .null, .null, .null, .null, .int 0, .int 0, .int 0, .int 0, .int 0, .int 0, .int 0, .int 0, .int 0, .int 0, .int 0, .int 0, .int 0, .null, .null, .int 0, .null, .null, .null, .null, .null, .null, .null, .null, .null, .null, .null, .int 0, .int 0, .int 0, .int 0, .int 0, .int 0, .int 0, .null, .int 0, .null, .int 0, .int 0, .null, .null, .int 0, .int 0, .null, .null, .null, .null, .null]) q (by decide) (by decide) (Nat.le_of_ble_eq_true rfl) rfl (fun h1 q => ?_)
  refine q_A q rfl (z_c0 (k := 222) ⟨by decide +kernel, by decide +kernel⟩ (by decide) (by decide)) (fun h1 q => ?_)
  refine q_Pn (fs' := [.int 0, .ref (B + 214), .int 0, .ref (B + 215), .ref (B + 216), .ref (B + 217), .ref (B + 218), .ref (B + 219), .ref (B + 220), .ref (B + 221), .ref (B + 222), .null, .null, .null, .null, .null, .null, .null, .null, .null, .int 0, .int 0, .int 0, .int 0, .int 0, .int 0, .int 0, .int 0, .int 0, .int 0, .int 0, .int 0, .int 0, .null, .null, .int 0, .null, .null, .null, .null, .null, .null, .null, .null, .null, .null, .null, .int 0, .int 0, .int 0, .int 0, .int 0, .int 0, .int 0, .null, .int 0, .null, .int 0, .int 0, .null, .null, .int 0, .int 0, .null, .null, .null, .null, .null]) q (by decide) (by decide) (Nat.le_of_ble_eq_true rfl) rfl (fun h1 q => ?_)
  refine q_A q rfl (z_c0 (k := 223) ⟨by decide +kernel, by decide +kernel⟩ (by decide) (by decide)) (fun h1 q => ?_)
  refine q_Pn (fs' := [.int 0, .ref (B + 214), .int 0, .ref (B + 215), .ref (B + 216), .ref (B + 217), .ref (B + 218), .ref (B + 219), .ref (B + 220), .ref (B + 221), .ref (B + 222), .ref (B + 223), .null, .null, .null, .null, .null, .null, .null, .null, .int 0, .int 0, .int 0, .int 0, .int 0, .int 0, .int 0, .int 0, .int 0, .int 0, .int 0, .int 0, .int 0, .null, .null, .int 0, .null, .null, .null, .null, .null, .null, .null, .null, .null, .null, .null, .int 0, .int 0, .int 0, .int 0, .int 0, .int 0, .int 0, .null, .int 0, .null, .int 0, .int 0, .null, .null, .int 0, .int 0, .null, .null, .null, .null, .null]) q (by decide) (by decide) (Nat.le_of_ble_eq_true rfl) rfl (fun h1 q => ?_)
  refine q_A q rfl (z_c0 (k := 224) ⟨by decide +kernel, by decide +kernel⟩ (by decide) (by decide)) (fun h1 q => ?_)
  refine q_Pn (fs' := [.int 0, .ref (B + 214), .int 0, .ref (B + 215), .ref (B + 216), .ref (B + 217), .ref (B + 218), .ref (B + 219), .ref (B + 220), .ref (B + 221), .ref (B + 222), .ref (B + 223), .ref (B + 224), .null, .null, .null, .null, .null, .null, .null, .int 0, .int 0, .int 0, .int 0, .int 0, .int 0, .int 0, .int 0, .int 0, .int 0, .int 0, .int 0, .int 0, .null, .null, .int 0, .null, .null, .null, .null, .null, .null, .null, .null, .null, .null, .null, .int 0, .int 0, .int 0, .int 0, .int 0, .int 0, .int 0, .null, .int 0, .null, .int 0, .int 0, .null, .null, .int 0, .int 0, .null, .null, .null, .null, .null]) q (by decide) (by decide) (Nat.le_of_ble_eq_true rfl) rfl (fun h1 q => ?_)
  refine q_A q rfl (z_c0 (k := 225) ⟨by decide +kernel, by decide +kernel⟩ (by decide) (by decide)) (fun h1 q => ?_)
  refine q_Pn (fs' := [.int 0, .ref (B + 214), .int 0, .ref (B + 215), .ref (B + 216), .ref (B + 217), .ref (B + 218), .ref (B + 219), .ref (B + 220), .ref (B + 221), .ref (B + 222), .ref (B + 223), .ref (B + 224), .ref (B + 225), .null, .null, .null, .null, .null, .null, .int 0, .int 0, .int 0, .int 0, .int 0, .int 0, .int 0, .int 0, .int 0, .int 0, .int 0, .int 0, .int 0, .null, .null, .int 0, .null, .null, .null, .null, .null, .null, .null, .null, .null, .null, .null, .int 0, .int 0, .int 0, .int 0, .int 0, .int 0, .int 0, .null, .int 0, .null, .int 0, .int 0, .null, .null, .int 0, .int 0, .null, .null, .null, .null, .null]) q (by decide) (by decide) (Nat.le_of_ble_eq_true rfl) rfl (fun h1 q => ?_)
  refine q_A q rfl (z_c0 (k := 226) ⟨by decide +kernel, by decide +kernel⟩ (by decide) (by decide)) (fun h1 q => ?_)
  refine q_Pn (fs' := [.int 0, .ref (B + 214), .int 0, .ref (B + 215), .ref (B + 216), .ref (B + 217), .ref (B + 218), .ref (B + 219), .ref (B + 220), .ref (B + 221), .ref (B + 222), .ref (B + 223), .ref (B + 224), .ref (B + 225), .ref (B + 226), .null, .null, .null, .null, .null, .int 0, .int 0, .int 0, .int 0, .int 0, .int 0, .int 0, .int 0, .int 0, .int 0, .int 0, .int 0, .int 0, .null, .null, .int 0, .null, .null, .null, .null, .null, .null, .null, .null, .null, .null, .null, .int 0, .int 0, .int 0, .int 0, .int 0, .int 0, .int 0, .null, .int 0, .null, .int 0, .int 0, .null, .null, .int 0, .int 0, .null, .null, .null, .null, .null]) q (by decide) (by decide) (Nat.le_of_ble_eq_true rfl) rfl (fun h1 q => ?_)
  refine q_A q rfl (z_c0 (k := 227) ⟨by decide +kernel, by decide +kernel⟩ (by decide) (by decide)) (fun h1 q => ?_)
  refine q_Pn (fs' := [.int 0, .ref (B + 214), .int 0, .ref (B + 215), .ref (B + 216), .ref (B + 217), .ref (B + 218), .ref (B + 219), .ref (B + 220), .ref (B + 221), .ref (B + 222), .ref (B + 223), .ref (B + 224), .ref (B + 225), .ref (B + 226), .ref (B + 227), .null, .null, .null, .null, .int 0, .int 0, .int 0, .int 0, .int 0, .int 0, .int 0, .int 0, .int 0, .int 0, .int 0, .int 0, .int 0, .null, .null, .int 0, .null, .null, .null, .null, .null, .null, .null, .null, .null, .null, .null, .int 0, .int 0, .int 0, .int 0, .int 0, .int 0, .int 0, .null, .int 0, .null, .int 0, .int 0, .null, .null, .int 0, .int 0, .null, .null, .null, .null, .null]) q (by decide) (by decide) (Nat.le_of_ble_eq_true rfl) rfl (fun h1 q => ?_)
  refine q_A q rfl (z_c0 (k := 228) ⟨by decide +kernel, by decide +kernel⟩ (by decide) (by decide)) (fun h1 q => ?_)
  refine q_Pn (fs' := [.int 0, .ref (B + 214), .int 0, .ref (B + 215), .ref (B + 216), .ref (B + 217), .ref (B + 218), .ref (B + 219), .ref (B + 220), .ref (B + 221), .ref (B + 222), .ref (B + 223), .ref (B + 224), .ref (B + 225), .ref (B + 226), .ref (B + 227), .ref (B + 228), .null, .null, .null, .int 0, .int 0, .int 0, .int 0, .int 0, .int 0, .int 0, .int 0, .int 0, .int 0, .int 0, .int 0, .int 0, .null, .null, .int 0, .null, .null, .null, .null, .null, .null, .null, .null, .null, .null, .null, .int 0, .int 0, .int 0, .int 0, .int 0, .int 0, .int 0, .null, .int 0, .null, .int 0, .int 0, .null, .null, .int 0, .int 0, .null, .null, .null, .null, .null]) q (by decide) (by decide) (Nat.le_of_ble_eq_true rfl) rfl (fun h1 q => ?_)
  refine q_A q rfl (z_c0 (k := 229) ⟨by decide +kernel, by decide +kernel⟩ (by decide) (by decide)) (fun h1 q => ?_)
  refine q_Pn (fs' := [.int 0, .ref (B + 214), .int 0, .ref (B + 215), .ref (B + 216), .ref (B + 217), .ref (B + 218), .ref (B + 219), .ref (B + 220), .ref (B + 221), .ref (B + 222), .ref (B + 223), .ref (B + 224), .ref (B + 225), .ref (B + 226), .ref (B + 227), .ref (B + 228), .ref (B + 229), .null, .null, .int 0, .int 0, .int 0, .int 0, .int 0, .int 0, .int 0, .int 0, .int 0, .int 0, .int 0, .int 0, .int 0, .null, .null, .int 0, .null, .null, .null, .null, .null, .null, .null, .null, .null, .null, .null, .int 0, .int 0, .int 0, .int 0, .int 0, .int 0, .int 0, .null, .int 0, .null, .int 0, .int 0, .null, .null, .int 0, .int 0, .null, .null, .null, .null, .null]) q (by decide) (by decide) (Nat.le_of_ble_eq_true rfl) rfl (fun h1 q => ?_)
  refine q_A q rfl (z_c0 (k := 230) ⟨by decide +kernel, by decide +kernel⟩ (by decide) (by decide)) (fun h1 q => ?_)
  refine q_Pn (fs' := [.int 0, .ref (B + 214), .int 0, .ref (B + 215), .ref (B + 216), .ref (B + 217), .ref (B + 218), .ref (B + 219), .ref (B + 220), .ref (B + 221), .ref (B + 222), .ref (B + 223), .ref (B + 224), .ref (B + 225), .ref (B + 226), .ref (B + 227), .ref (B + 228), .ref (B + 229), .ref (B + 230), .null, .int 0, .int 0, .int 0, .int 0, .int 0, .int 0, .int 0, .int 0, .int 0, .int 0, .int 0, .int 0, .int 0, .null, .null, .int 0, .null, .null, .null, .null, .null, .null, .null, .null, .null, .null, .null, .int 0, .int 0, .int 0, .int 0, .int 0, .int 0, .int 0, .null, .int 0, .null, .int 0, .int 0, .null, .null, .int 0, .int 0, .null, .null, .null, .null, .null]) q (by decide) (by decide) (Nat.le_of_ble_eq_true rfl) rfl (fun h1 q => ?_)
  refine q_A q rfl (z_c0 (k := 231) ⟨by decide +kernel, by decide +kernel⟩ (by decide) (by decide)) (fun h1 q => ?_)
  refine q_Pn (fs' := [.int 0, .ref (B + 214), .int 0, .ref (B + 215), .ref (B + 216), .ref (B + 217), .ref (B + 218), .ref (B + 219), .ref (B + 220), .ref (B + 221), .ref (B + 222), .ref (B + 223), .ref (B + 224), .ref (B + 225), .ref (B + 226), .ref (B + 227), .ref (B + 228), .ref (B + 229), .ref (B + 230), .ref (B + 231), .int 0, .int 0, .int 0, .int 0, .int 0, .int 0, .int 0, .int 0, .int 0, .int 0, .int 0, .int 0, .int 0, .null, .null, .int 0, .null, .null, .null, .null, .null, .null, .null, .null, .null, .null, .null, .int 0, .int 0, .int 0, .int 0, .int 0, .int 0, .int 0, .null, .int 0, .null, .int 0, .int 0, .null, .null, .int 0, .int 0, .null, .null, .null, .null, .null]) q (by decide) (by decide) (Nat.le_of_ble_eq_true rfl) rfl (fun h1 q => ?_)
  refine q_Pn (fs' := [.int 0, .ref (B + 214), .int 0, .ref (B + 215), .ref (B + 216), .ref (B + 217), .ref (B + 218), .ref (B + 219), .ref (B + 220), .ref (B + 221), .ref (B + 222), .ref (B + 223), .ref (B + 224), .ref (B + 225), .ref (B + 226), .ref (B + 227), .ref (B + 228), .ref (B + 229), .ref (B + 230), .ref (B + 231), .int 0, .int 0, .int 0, .int 0, .int 0, .int 0, .int 0, .int 0, .int 0, .int 0, .int (-1), .int 0, .int 0, .null, .null, .int 0, .null, .null, .null, .null, .null, .null, .null, .null, .null, .null, .null, .int 0, .int 0, .int 0, .int 0, .int 0, .int 0, .int 0, .null, .int 0, .null, .int 0, .int 0, .null, .null, .int 0, .int 0, .null, .null, .null, .null, .null]) q (by decide) (by decide) (Nat.le_of_ble_eq_true rfl) rfl (fun h1 q => ?_)
  refine q_A q rfl (z_c3 (k := 232) ⟨by decide +kernel, by decide +kernel⟩ (by decide) (by decide)) (fun h1 q => ?_)
  refine q_Pn (fs' := [.int 0, .ref (B + 214), .int 0, .ref (B + 215), .ref (B + 216), .ref (B + 217), .ref (B + 218), .ref (B + 219), .ref (B + 220), .ref (B + 221), .ref (B + 222), .ref (B + 223), .ref (B + 224), .ref (B + 225), .ref (B + 226), .ref (B + 227), .ref (B + 228), .ref (B + 229), .ref (B + 230), .ref (B + 231), .int 0, .int 0, .int 0, .int 0, .int 0, .int 0, .int 0, .int 0, .int 0, .int 0, .int (-1), .int 0, .int 0, .ref (B + 232), .null, .int 0, .null, .null, .null, .null, .null, .null, .null, .null, .null, .null, .null, .int 0, .int 0, .int 0, .int 0, .int 0, .int 0, .int 0, .null, .int 0, .null, .int 0, .int 0, .null, .null, .int 0, .int 0, .null, .null, .null, .null, .null]) q (by decide) (by decide) (Nat.le_of_ble_eq_true rfl) rfl (fun h1 q => ?_)
  refine q_A q rfl (z_c3 (k := 233) ⟨by decide +kernel, by decide +kernel⟩ (by decide) (by decide)) (fun h1 q => ?_)
  refine q_Pn (fs' := [.int 0, .ref (B + 214), .int 0, .ref (B + 215), .ref (B + 216), .ref (B + 217), .ref (B + 218), .ref (B + 219), .ref (B + 220), .ref (B + 221), .ref (B + 222), .ref (B + 223), .ref (B + 224), .ref (B + 225), .ref (B + 226), .ref (B + 227), .ref (B + 228), .ref (B + 229), .ref (B + 230), .ref (B + 231), .int 0, .int 0, .int 0, .int 0, .int 0, .int 0, .int 0, .int 0, .int 0, .int 0, .int (-1), .int 0, .int 0, .ref (B + 232), .ref (B + 233), .int 0, .null, .null, .null, .null, .null, .null, .null, .null, .null, .null, .null, .int 0, .int 0, .int 0, .int 0, .int 0, .int 0, .int 0, .null, .int 0, .null, .int 0, .int 0, .null, .null, .int 0, .int 0, .null, .null, .null, .null, .null]) q (by decide) (by decide) (Nat.le_of_ble_eq_true rfl) rfl (fun h1 q => ?_)
  refine q_A q rfl (z_c0 (k := 234) ⟨by decide +kernel, by decide +kernel⟩ (by decide) (by decide)) (fun h1 q => ?_)
  refine q_Pn (fs' := [.int 0, .ref (B + 214), .int 0, .ref (B + 215), .ref (B + 216), .ref (B + 217), .ref (B + 218), .ref (B + 219), .ref (B + 220), .ref (B + 221), .ref (B + 222), .ref (B + 223), .ref (B + 224), .ref (B + 225), .ref (B + 226), .ref (B + 227), .ref (B + 228), .ref (B + 229), .ref (B + 230), .ref (B + 231), .int 0, .int 0, .int 0, .int 0, .int 0, .int 0, .int 0, .int 0, .int 0, .int 0, .int (-1), .int 0, .int 0, .ref (B + 232), .ref (B + 233), .int 0, .ref (B + 234), .null, .null, .null, .null, .null, .null, .null, .null, .null, .null, .int 0, .int 0, .int 0, .int 0, .int 0, .int 0, .int 0, .null, .int 0, .null, .int 0, .int 0, .null, .null, .int 0, .int 0, .null, .null, .null, .null, .null]) q (by decide) (by decide) (Nat.le_of_ble_eq_true rfl) rfl (fun h1 q => ?_)
  refine q_A q rfl (z_c0 (k := 235) ⟨by decide +kernel, by decide +kernel⟩ (by decide) (by decide)) (fun h1 q => ?_)
  refine q_Pn (fs' := [.int 0, .ref (B + 214), .int 0, .ref (B + 215), .ref (B + 216), .ref (B + 217), .ref (B + 218), .ref (B + 219), .ref (B + 220), .ref (B + 221), .ref (B + 222), .ref (B + 223), .ref (B + 224), .ref (B + 225), .ref (B + 226), .ref (B + 227), .ref (B + 228), .ref (B + 229), .ref (B + 230), .ref (B + 231), .int 0, .int 0, .int 0, .int 0, .int 0, .int 0, .int 0, .int 0, .int 0, .int 0, .int (-1), .int 0, .int 0, .ref (B + 232), .ref (B + 233), .int 0, .ref (B + 234), .ref (B + 235), .null, .null, .null, .null, .null, .null, .null, .null, .null, .int 0, .int 0, .int 0, .int 0, .int 0, .int 0, .int 0, .null, .int 0, .null, .int 0, .int 0, .null, .null, .int 0, .int 0, .null, .null, .null, .null, .null]) q (by decide) (by decide) (Nat.le_of_ble_eq_true rfl) rfl (fun h1 q => ?_)
  refine q_A q rfl (z_c0 (k := 236) ⟨by decide +kernel, by decide +kernel⟩ (by decide) (by decide)) (fun h1 q => ?_)
  refine q_Pn (fs' := [.int 0, .ref (B + 214), .int 0, .ref (B + 215), .ref (B + 216), .ref (B + 217), .ref (B + 218), .ref (B + 219), .ref (B + 220), .ref (B + 221), .ref (B + 222), .ref (B + 223), .ref (B + 224), .ref (B + 225), .ref (B + 226), .ref (B + 227), .ref (B + 228), .ref (B + 229), .ref (B + 230), .ref (B + 231), .int 0, .int 0, .int 0, .int 0, .int 0, .int 0, .int 0, .int 0, .int 0, .int 0, .int (-1), .int 0, .int 0, .ref (B + 232), .ref (B + 233), .int 0, .ref (B + 234), .ref (B + 235), .ref (B + 236), .null, .null, .null, .null, .null, .null, .null, .null, .int 0, .int 0, .int 0, .int 0, .int 0, .int 0, .int 0, .null, .int 0, .null, .int 0, .int 0, .null, .null, .int 0, .int 0, .null, .null, .null, .null, .null]) q (by decide) (by decide) (Nat.le_of_ble_eq_true rfl) rfl (fun h1 q => ?_)
  refine q_A q rfl (z_c0 (k := 237) ⟨by decide +kernel, by decide +kernel⟩ (by decide) (by decide)) (fun h1 q => ?_)
  refine q_Pn (fs' := [.int 0, .ref (B + 214), .int 0, .ref (B + 215), .ref (B + 216), .ref (B + 217), .ref (B + 218), .ref (B + 219), .ref (B + 220), .ref (B + 221), .ref (B + 222), .ref (B + 223), .ref (B + 224), .ref (B + 225), .ref (B + 226), .ref (B + 227), .ref (B + 228), .ref (B + 229), .ref (B + 230), .ref (B + 231), .int 0, .int 0, .int 0, .int 0, .int 0, .int 0, .int 0, .int 0, .int 0, .int 0, .int (-1), .int 0, .int 0, .ref (B + 232), .ref (B + 233), .int 0, .ref (B + 234), .ref (B + 235), .ref (B + 236), .ref (B + 237), .null, .null, .null, .null, .null, .null, .null, .int 0, .int 0, .int 0, .int 0, .int 0, .int 0, .int 0, .null, .int 0, .null, .int 0, .int 0, .null, .null, .int 0, .int 0, .null, .null, .null, .null, .null]) q (by decide) (by decide) (Nat.le_of_ble_eq_true rfl) rfl (fun h1 q => ?_)
  refine q_A q rfl (z_c0 (k := 238) ⟨by decide +kernel, by decide +kernel⟩ (by decide) (by decide)) (fun h1 q => ?_)
  refine q_Pn (fs' := [.int 0, .ref (B + 214), .int 0, .ref (B + 215), .ref (B + 216), .ref (B + 217), .ref (B + 218), .ref (B + 219), .ref (B + 220), .ref (B + 221), .ref (B + 222), .ref (B + 223), .ref (B + 224), .ref (B + 225), .ref (B + 226), .ref (B + 227), .ref (B + 228), .ref (B + 229), .ref (B + 230), .ref (B + 231), .int 0, .int 0, .int 0, .int 0, .int 0, .int 0, .int 0, .int 0, .int 0, .int 0, .int (-1), .int 0, .int 0, .ref (B + 232), .ref (B + 233), .int 0, .ref (B + 234), .ref (B + 235), .ref (B + 236), .ref (B + 237), .ref (B + 238), .null, .null, .null, .null, .null, .null, .int 0, .int 0, .int 0, .int 0, .int 0, .int 0, .int 0, .null, .int 0, .null, .int 0, .int 0, .null, .null, .int 0, .int 0, .null, .null, .null, .null, .null]) q (by decide) (by decide) (Nat.le_of_ble_eq_true rfl) rfl (fun h1 q => ?_)
  refine q_A q rfl (z_c0 (k := 239) ⟨by decide +kernel, by decide +kernel⟩ (by decide) (by decide)) (fun h1 q => ?_)
  refine q_Pn (fs' := [.int 0, .ref (B + 214), .int 0, .ref (B + 215), .ref (B + 216), .ref (B + 217), .ref (B + 218), .ref (B + 219), .ref (B + 220), .ref (B + 221), .ref (B + 222), .ref (B + 223), .ref (B + 224), .ref (B + 225), .ref (B + 226), .ref (B + 227), .ref (B + 228), .ref (B + 229), .ref (B + 230), .ref (B + 231), .int 0, .int 0, .int 0, .int 0, .int 0, .int 0, .int 0, .int 0, .int 0, .int 0, .int (-1), .int 0, .int 0, .ref (B + 232), .ref (B + 233), .int 0, .ref (B + 234), .ref (B + 235), .ref (B + 236), .ref (B + 237), .ref (B + 238), .ref (B + 239), .null, .null, .null, .null, .null, .int 0, .int 0, .int 0, .int 0, .int 0, .int 0, .int 0, .null, .int 0, .null, .int 0, .int 0, .null, .null, .int 0, .int 0, .null, .null, .null, .null, .null]) q (by decide) (by decide) (Nat.le_of_ble_eq_true rfl) rfl (fun h1 q => ?_)
  refine q_A q rfl (z_c0 (k := 240) ⟨by decide +kernel, by decide +kernel⟩ (by decide) (by decide)) (fun h1 q => ?_)
  refine q_Pn (fs' := [.int 0, .ref (B + 214), .int 0, .ref (B + 215), .ref (B + 216), .ref (B + 217), .ref (B + 218), .ref (B + 219), .ref (B + 220), .ref (B + 221), .ref (B + 222), .ref (B + 223), .ref (B + 224), .ref (B + 225), .ref (B + 226), .ref (B + 227), .ref (B + 228), .ref (B + 229), .ref (B + 230), .ref (B + 231), .int 0, .int 0, .int 0, .int 0, .int 0, .int 0, .int 0, .int 0, .int 0, .int 0, .int (-1), .int 0, .int 0, .ref (B + 232), .ref (B + 233), .int 0, .ref (B + 234), .ref (B + 235), .ref (B + 236), .ref (B + 237), .ref (B + 238), .ref (B + 239), .ref (B + 240), .null, .null, .null, .null, .int 0, .int 0, .int 0, .int 0, .int 0, .int 0, .int 0, .null, .int 0, .null, .int 0, .int 0, .null, .null, .int 0, .int 0, .null, .null, .null, .null, .null]) q (by decide) (by decide) (Nat.le_of_ble_eq_true rfl) rfl (fun h1 q => ?_)
  refine q_A q rfl (z_c0 (k := 241) ⟨by decide +kernel, by decide +kernel⟩ (by decide) (by decide)) (fun h1 q => ?_)
  refine q_Pn (fs' := [.int 0, .ref (B + 214), .int 0, .ref (B + 215), .ref (B + 216), .ref (B + 217), .ref (B + 218), .ref (B + 219), .ref (B + 220), .ref (B + 221), .ref (B + 222), .ref (B + 223), .ref (B + 224), .ref (B + 225), .ref (B + 226), .ref (B + 227), .ref (B + 228), .ref (B + 229), .ref (B + 230), .ref (B + 231), .int 0, .int 0, .int 0, .int 0, .int 0, .int 0, .int 0, .int 0, .int 0, .int 0, .int (-1), .int 0, .int 0, .ref (B + 232), .ref (B + 233), .int 0, .ref (B + 234), .ref (B + 235), .ref (B + 236), .ref (B + 237), .ref (B + 238), .ref (B + 239), .ref (B + 240), .ref (B + 241), .null, .null, .null, .int 0, .int 0, .int 0, .int 0, .int 0, .int 0, .int 0, .null, .int 0, .null, .int 0, .int 0, .null, .null, .int 0, .int 0, .null, .null, .null, .null, .null]) q (by decide) (by decide) (Nat.le_of_ble_eq_true rfl) rfl (fun h1 q => ?_)
  refine q_A q rfl (z_c0 (k := 242) ⟨by decide +kernel, by decide +kernel⟩ (by decide) (by decide)) (fun h1 q => ?_)
  refine q_Pn (fs' := [.int 0, .ref (B + 214), .int 0, .ref (B + 215), .ref (B + 216), .ref (B + 217), .ref (B + 218), .ref (B + 219), .ref (B + 220), .ref (B + 221), .ref (B + 222), .ref (B + 223), .ref (B + 224), .ref (B + 225), .ref (B + 226), .ref (B + 227), .ref (B + 228), .ref (B + 229), .ref (B + 230), .ref (B + 231), .int 0, .int 0, .int 0, .int 0, .int 0, .int 0, .int 0, .int 0, .int 0, .int 0, .int (-1), .int 0, .int 0, .ref (B + 232), .ref (B + 233), .int 0, .ref (B + 234), .ref (B + 235), .ref (B + 236), .ref (B + 237), .ref (B + 238), .ref (B + 239), .ref (B + 240), .ref (B + 241), .ref (B + 242), .null, .null, .int 0, .int 0, .int 0, .int 0, .int 0, .int 0, .int 0, .null, .int 0, .null, .int 0, .int 0, .null, .null, .int 0, .int 0, .null, .null, .null, .null, .null]) q (by decide) (by decide) (Nat.le_of_ble_eq_true rfl) rfl (fun h1 q => ?_)
  refine q_A q rfl (z_c0 (k := 243) ⟨by decide +kernel, by decide +kernel⟩ (by decide) (by decide)) (fun h1 q => ?_)
  refine q_Pn (fs' := [.int 0, .ref (B + 214), .int 0, .ref (B + 215), .ref (B + 216), .ref (B + 217), .ref (B + 218), .ref (B + 219), .ref (B + 220), .ref (B + 221), .ref (B + 222), .ref (B + 223), .ref (B + 224), .ref (B + 225), .ref (B + 226), .ref (B + 227), .ref (B + 228), .ref (B + 229), .ref (B + 230), .ref (B + 231), .int 0, .int 0, .int 0, .int 0, .int 0, .int 0, .int 0, .int 0, .int 0, .int 0, .int (-1), .int 0, .int 0, .ref (B + 232), .ref (B + 233), .int 0, .ref (B + 234), .ref (B + 235), .ref (B + 236), .ref (B + 237), .ref (B + 238), .ref (B + 239), .ref (B + 240), .ref (B + 241), .ref (B + 242), .ref (B + 243), .null, .int 0, .int 0, .int 0, .int 0, .int 0, .int 0, .int 0, .null, .int 0, .null, .int 0, .int 0, .null, .null, .int 0, .int 0, .null, .null, .null, .null, .null]) q (by decide) (by decide) (Nat.le_of_ble_eq_true rfl) rfl (fun h1 q => ?_)
  refine q_A q rfl (z_c0 (k := 244) ⟨by decide +kernel, by decide +kernel⟩ (by decide) (by decide)) (fun h1 q => ?_)
  refine q_Pn (fs' := [.int 0, .ref (B + 214), .int 0, .ref (B + 215), .ref (B + 216), .ref (B + 217), .ref (B + 218), .ref (B + 219), .ref (B + 220), .ref (B + 221), .ref (B + 222), .ref (B + 223), .ref (B + 224), .ref (B + 225), .ref (B + 226), .ref (B + 227), .ref (B + 228), .ref (B + 229), .ref (B + 230), .ref (B + 231), .int 0, .int 0, .int 0, .int 0, .int 0, .int 0, .int 0, .int 0, .int 0, .int 0, .int (-1), .int 0, .int 0, .ref (B + 232), .ref (B + 233), .int 0, .ref (B + 234), .ref (B + 235), .ref (B + 236), .ref (B + 237), .ref (B + 238), .ref (B + 239), .ref (B + 240), .ref (B + 241), .ref (B + 242), .ref (B + 243), .ref (B + 244), .int 0, .int 0, .int 0, .int 0, .int 0, .int 0, .int 0, .null, .int 0, .null, .int 0, .int 0, .null, .null, .int 0, .int 0, .null, .null, .null, .null, .null]) q (by decide) (by decide) (Nat.le_of_ble_eq_true rfl) rfl (fun h1 q => ?_)
  refine q_Pn (fs' := [.int 0, .ref (B + 214), .int 0, .ref (B + 215), .ref (B + 216), .ref (B + 217), .ref (B + 218), .ref (B + 219), .ref (B + 220), .ref (B + 221), .ref (B + 222), .ref (B + 223), .ref (B + 224), .ref (B + 225), .ref (B + 226), .ref (B + 227), .ref (B + 228), .ref (B + 229), .ref (B + 230), .ref (B + 231), .int 0, .int 0, .int 0, .int 0, .int 0, .int 0, .int 0, .int 0, .int 0, .int 0, .int (-1), .int 0, .int 0, .ref (B + 232), .ref (B + 233), .int 0, .ref (B + 234), .ref (B + 235), .ref (B + 236), .ref (B + 237), .ref (B + 238), .ref (B + 239), .ref (B + 240), .ref (B + 241), .ref (B + 242), .ref (B + 243), .ref (B + 244), .int 0, .int 0, .int 0, .int (-1), .int 0, .int 0, .int 0, .null, .int 0, .null, .int 0, .int 0, .null, .null, .int 0, .int 0, .null, .null, .null, .null, .null]) q (by decide) (by decide) (Nat.le_of_ble_eq_true rfl) rfl (fun h1 q => ?_)
  refine q_Pn (fs' := [.int 0, .ref (B + 214), .int 0, .ref (B + 215), .ref (B + 216), .ref (B + 217), .ref (B + 218), .ref (B + 219), .ref (B + 220), .ref (B + 221), .ref (B + 222), .ref (B + 223), .ref (B + 224), .ref (B + 225), .ref (B + 226), .ref (B + 227), .ref (B + 228), .ref (B + 229), .ref (B + 230), .ref (B + 231), .int 0, .int 0, .int 0, .int 0, .int 0, .int 0, .int 0, .int 0, .int 0, .int 0, .int (-1), .int 0, .int 0, .ref (B + 232), .ref (B + 233), .int 0, .ref (B + 234), .ref (B + 235), .ref (B + 236), .ref (B + 237), .ref (B + 238), .ref (B + 239), .ref (B + 240), .ref (B + 241), .ref (B + 242), .ref (B + 243), .ref (B + 244), .int 0, .int 0, .int 0, .int (-1), .int (-1), .int 0, .int 0, .null, .int 0, .null, .int 0, .int 0, .null, .null, .int 0, .int 0, .null, .null, .null, .null, .null]) q (by decide) (by decide) (Nat.le_of_ble_eq_true rfl) rfl (fun h1 q => ?_)
  refine q_Pn (fs' := [.int 0, .ref (B + 214), .int 0, .ref (B + 215), .ref (B + 216), .ref (B + 217), .ref (B + 218), .ref (B + 219), .ref (B + 220), .ref (B + 221), .ref (B + 222), .ref (B + 223), .ref (B + 224), .ref (B + 225), .ref (B + 226), .ref (B + 227), .ref (B + 228), .ref (B + 229), .ref (B + 230), .ref (B + 231), .int 0, .int 0, .int 0, .int 0, .int 0, .int 0, .int 0, .int 0, .int 0, .int 0, .int (-1), .int 0, .int 0, .ref (B + 232), .ref (B + 233), .int 0, .ref (B + 234), .ref (B + 235), .ref (B + 236), .ref (B + 237), .ref (B + 238), .ref (B + 239), .ref (B + 240), .ref (B + 241), .ref (B + 242), .ref (B + 243), .ref (B + 244), .int 0, .int 0, .int 0, .int (-1), .int (-1), .int (-1), .int 0, .null, .int 0, .null, .int 0, .int 0, .null, .null, .int 0, .int 0, .null, .null, .null, .null, .null]) q (by decide) (by decide) (Nat.le_of_ble_eq_true rfl) rfl (fun h1 q => ?_)
  refine q_A q rfl (z_c0 (k := 245) ⟨by decide +kernel, by decide +kernel⟩ (by decide) (by decide)) (fun h1 q => ?_)
  refine q_Pn (fs' := [.int 0, .ref (B + 214), .int 0, .ref (B + 215), .ref (B + 216), .ref (B + 217), .ref (B + 218), .ref (B + 219), .ref (B + 220), .ref (B + 221), .ref (B + 222), .ref (B + 223), .ref (B + 224), .ref (B + 225), .ref (B + 226), .ref (B + 227), .ref (B + 228), .ref (B + 229), .ref (B + 230), .ref (B + 231), .int 0, .int 0, .int 0, .int 0, .int 0, .int 0, .int 0, .int 0, .int 0, .int 0, .int (-1), .int 0, .int 0, .ref (B + 232), .ref (B + 233), .int 0, .ref (B + 234), .ref (B + 235), .ref (B + 236), .ref (B + 237), .ref (B + 238), .ref (B + 239), .ref (B + 240), .ref (B + 241), .ref (B + 242), .ref (B + 243), .ref (B + 244), .int 0, .int 0, .int 0, .int (-1), .int (-1), .int (-1), .int 0, .ref (B + 245), .int 0, .null, .int 0, .int 0, .null, .null, .int 0, .int 0, .null, .null, .null, .null, .null]) q (by decide) (by decide) (Nat.le_of_ble_eq_true rfl) rfl (fun h1 q => ?_)
  refine q_A q rfl (z_c0 (k := 246) ⟨by decide +kernel, by decide +kernel⟩ (by decide) (by decide)) (fun h1 q => ?_)
  refine q_Pn (fs' := [.int 0, .ref (B + 214), .int 0, .ref (B + 215), .ref (B + 216), .ref (B + 217), .ref (B + 218), .ref (B + 219), .ref (B + 220), .ref (B + 221), .ref (B + 222), .ref (B + 223), .ref (B + 224), .ref (B + 225), .ref (B + 226), .ref (B + 227), .ref (B + 228), .ref (B + 229), .ref (B + 230), .ref (B + 231), .int 0, .int 0, .int 0, .int 0, .int 0, .int 0, .int 0, .int 0, .int 0, .int 0, .int (-1), .int 0, .int 0, .ref (B + 232), .ref (B + 233), .int 0, .ref (B + 234), .ref (B + 235), .ref (B + 236), .ref (B + 237), .ref (B + 238), .ref (B + 239), .ref (B + 240), .ref (B + 241), .ref (B + 242), .ref (B + 243), .ref (B + 244), .int 0, .int 0, .int 0, .int (-1), .int (-1), .int (-1), .int 0, .ref (B + 245), .int 0, .ref (B + 246), .int 0, .int 0, .null, .null, .int 0, .int 0, .null, .null, .null, .null, .null]) q (by decide) (by decide) (Nat.le_of_ble_eq_true rfl) rfl (fun h1 q => ?_)
  refine q_A q rfl (z_c0 (k := 247) ⟨by decide +kernel, by decide +kernel⟩ (by decide) (by decide)) (fun h1 q => ?_)
  refine q_Pn (fs' := [.int 0, .ref (B + 214), .int 0, .ref (B + 215), .ref (B + 216), .ref (B + 217), .ref (B + 218), .ref (B + 219), .ref (B + 220), .ref (B + 221), .ref (B + 222), .ref (B + 223), .ref (B + 224), .ref (B + 225), .ref (B + 226), .ref (B + 227), .ref (B + 228), .ref (B + 229), .ref (B + 230), .ref (B + 231), .int 0, .int 0, .int 0, .int 0, .int 0, .int 0, .int 0, .int 0, .int 0, .int 0, .int (-1), .int 0, .int 0, .ref (B + 232), .ref (B + 233), .int 0, .ref (B + 234), .ref (B + 235), .ref (B + 236), .ref (B + 237), .ref (B + 238), .ref (B + 239), .ref (B + 240), .ref (B + 241), .ref (B + 242), .ref (B + 243), .ref (B + 244), .int 0, .int 0, .int 0, .int (-1), .int (-1), .int (-1), .int 0, .ref (B + 245), .int 0, .ref (B + 246), .int 0, .int 0, .ref (B + 247), .null, .int 0, .int 0, .null, .null, .null, .null, .null]) q (by decide) (by decide) (Nat.le_of_ble_eq_true rfl) rfl (fun h1 q => ?_)
  refine q_A q rfl (z_c0 (k := 248) ⟨by decide +kernel, by decide +kernel⟩ (by decide) (by decide)) (fun h1 q => ?_)
  refine q_Pn (fs' := [.int 0, .ref (B + 214), .int 0, .ref (B + 215), .ref (B + 216), .ref (B + 217), .ref (B + 218), .ref (B + 219), .ref (B + 220), .ref (B + 221), .ref (B + 222), .ref (B + 223), .ref (B + 224), .ref (B + 225), .ref (B + 226), .ref (B + 227), .ref (B + 228), .ref (B + 229), .ref (B + 230), .ref (B + 231), .int 0, .int 0, .int 0, .int 0, .int 0, .int 0, .int 0, .int 0, .int 0, .int 0, .int (-1), .int 0, .int 0, .ref (B + 232), .ref (B + 233), .int 0, .ref (B + 234), .ref (B + 235), .ref (B + 236), .ref (B + 237), .ref (B + 238), .ref (B + 239), .ref (B + 240), .ref (B + 241), .ref (B + 242), .ref (B + 243), .ref (B + 244), .int 0, .int 0, .int 0, .int (-1), .int (-1), .int (-1), .int 0, .ref (B + 245), .int 0, .ref (B + 246), .int 0, .int 0, .ref (B + 247), .ref (B + 248), .int 0, .int 0, .null, .null, .null, .null, .null]) q (by decide) (by decide) (Nat.le_of_ble_eq_true rfl) rfl (fun h1 q => ?_)
  refine q_Pn (fs' := [.int 0, .ref (B + 214), .int 0, .ref (B + 215), .ref (B + 216), .ref (B + 217), .ref (B + 218), .ref (B + 219), .ref (B + 220), .ref (B + 221), .ref (B + 222), .ref (B + 223), .ref (B + 224), .ref (B + 225), .ref (B + 226), .ref (B + 227), .ref (B + 228), .ref (B + 229), .ref (B + 230), .ref (B + 231), .int 0, .int 0, .int 0, .int 0, .int 0, .int 0, .int 0, .int 0, .int 0, .int 0, .int (-1), .int 0, .int 0, .ref (B + 232), .ref (B + 233), .int 0, .ref (B + 234), .ref (B + 235), .ref (B + 236), .ref (B + 237), .ref (B + 238), .ref (B + 239), .ref (B + 240), .ref (B + 241), .ref (B + 242), .ref (B + 243), .ref (B + 244), .int 0, .int 0, .int 0, .int (-1), .int (-1), .int (-1), .int 0, .ref (B + 245), .int 0, .ref (B + 246), .int 0, .int 0, .ref (B + 247), .ref (B + 248), .int 0, .int (-1), .null, .null, .null, .null, .null]) q (by decide) (by decide) (Nat.le_of_ble_eq_true rfl) rfl (fun h1 q => ?_)
  refine q_A q rfl (z_c0 (k := 249) ⟨by decide +kernel, by decide +kernel⟩ (by decide) (by decide)) (fun h1 q => ?_)
  refine q_Pn (fs' := [.int 0, .ref (B + 214), .int 0, .ref (B + 215), .ref (B + 216), .ref (B + 217), .ref (B + 218), .ref (B + 219), .ref (B + 220), .ref (B + 221), .ref (B + 222), .ref (B + 223), .ref (B + 224), .ref (B + 225), .ref (B + 226), .ref (B + 227), .ref (B + 228), .ref (B + 229), .ref (B + 230), .ref (B + 231), .int 0, .int 0, .int 0, .int 0, .int 0, .int 0, .int 0, .int 0, .int 0, .int 0, .int (-1), .int 0, .int 0, .ref (B + 232), .ref (B + 233), .int 0, .ref (B + 234), .ref (B + 235), .ref (B + 236), .ref (B + 237), .ref (B + 238), .ref (B + 239), .ref (B + 240), .ref (B + 241), .ref (B + 242), .ref (B + 243), .ref (B + 244), .int 0, .int 0, .int 0, .int (-1), .int (-1), .int (-1), .int 0, .ref (B + 245), .int 0, .ref (B + 246), .int 0, .int 0, .ref (B + 247), .ref (B + 248), .int 0, .int (-1), .ref (B + 249), .null, .null, .null, .null]) q (by decide) (by decide) (Nat.le_of_ble_eq_true rfl) rfl (fun h1 q => ?_)
  refine q_A q rfl (z_c0 (k := 250) ⟨by decide +kernel, by decide +kernel⟩ (by decide) (by decide)) (fun h1 q => ?_)
  refine q_Pn (fs' := [.int 0, .ref (B + 214), .int 0, .ref (B + 215), .ref (B + 216), .ref (B + 217), .ref (B + 218), .ref (B + 219), .ref (B + 220), .ref (B + 221), .ref (B + 222), .ref (B + 223), .ref (B + 224), .ref (B + 225), .ref (B + 226), .ref (B + 227), .ref (B + 228), .ref (B + 229), .ref (B + 230), .ref (B + 231), .int 0, .int 0, .int 0, .int 0, .int 0, .int 0, .int 0, .int 0, .int 0, .int 0, .int (-1), .int 0, .int 0, .ref (B + 232), .ref (B + 233), .int 0, .ref (B + 234), .ref (B + 235), .ref (B + 236), .ref (B + 237), .ref (B + 238), .ref (B + 239), .ref (B + 240), .ref (B + 241), .ref (B + 242), .ref (B + 243), .ref (B + 244), .int 0, .int 0, .int 0, .int (-1), .int (-1), .int (-1), .int 0, .ref (B + 245), .int 0, .ref (B + 246), .int 0, .int 0, .ref (B + 247), .ref (B + 248), .int 0, .int (-1), .ref (B + 249), .ref (B + 250), .null, .null, .null]) q (by decide) (by decide) (Nat.le_of_ble_eq_true rfl) rfl (fun h1 q => ?_)
  refine q_A q rfl (z_c2 (k := 251) ⟨by decide +kernel, by decide +kernel⟩ (by decide) (by decide)) (fun h1 q => ?_)
  refine q_Pn (fs' := [.int 0, .ref (B + 214), .int 0, .ref (B + 215), .ref (B + 216), .ref (B + 217), .ref (B + 218), .ref (B + 219), .ref (B + 220), .ref (B + 221), .ref (B + 222), .ref (B + 223), .ref (B + 224), .ref (B + 225), .ref (B + 226), .ref (B + 227), .ref (B + 228), .ref (B + 229), .ref (B + 230), .ref (B + 231), .int 0, .int 0, .int 0, .int 0, .int 0, .int 0, .int 0, .int 0, .int 0, .int 0, .int (-1), .int 0, .int 0, .ref (B + 232), .ref (B + 233), .int 0, .ref (B + 234), .ref (B + 235), .ref (B + 236), .ref (B + 237), .ref (B + 238), .ref (B + 239), .ref (B + 240), .ref (B + 241), .ref (B + 242), .ref (B + 243), .ref (B + 244), .int 0, .int 0, .int 0, .int (-1), .int (-1), .int (-1), .int 0, .ref (B + 245), .int 0, .ref (B + 246), .int 0, .int 0, .ref (B + 247), .ref (B + 248), .int 0, .int (-1), .ref (B + 249), .ref (B + 250), .ref (B + 251), .null, .null]) q (by decide) (by decide) (Nat.le_of_ble_eq_true rfl) rfl (fun h1 q => ?_)
  refine q_A q rfl (z_c0 (k := 252) ⟨by decide +kernel, by decide +kernel⟩ (by decide) (by decide)) (fun h1 q => ?_)
  refine q_Pn (fs' := [.int 0, .ref (B + 214), .int 0, .ref (B + 215), .ref (B + 216), .ref (B + 217), .ref (B + 218), .ref (B + 219), .ref (B + 220), .ref (B + 221), .ref (B + 222), .ref (B + 223), .ref (B + 224), .ref (B + 225), .ref (B + 226), .ref (B + 227), .ref (B + 228), .ref (B + 229), .ref (B + 230), .ref (B + 231), .int 0, .int 0, .int 0, .int 0, .int 0, .int 0, .int 0, .int 0, .int 0, .int 0, .int (-1), .int 0, .int 0, .ref (B + 232), .ref (B + 233), .int 0, .ref (B + 234), .ref (B + 235), .ref (B + 236), .ref (B + 237), .ref (B + 238), .ref (B + 239), .ref (B + 240), .ref (B + 241), .ref (B + 242), .ref (B + 243), .ref (B + 244), .int 0, .int 0, .int 0, .int (-1), .int (-1), .int (-1), .int 0, .ref (B + 245), .int 0, .ref (B + 246), .int 0, .int 0, .ref (B + 247), .ref (B + 248), .int 0, .int (-1), .ref (B + 249), .ref (B + 250), .ref (B + 251), .ref (B + 252), .null]) q (by decide) (by decide) (Nat.le_of_ble_eq_true rfl) rfl (fun h1 q => ?_)
  refine q_A q rfl (z_c2 (k := 253) ⟨by decide +kernel, by decide +kernel⟩ (by decide) (by decide)) (fun h1 q => ?_)
  refine q_Pn (fs' := [.int 0, .ref (B + 214), .int 0, .ref (B + 215), .ref (B + 216), .ref (B + 217), .ref (B + 218), .ref (B + 219), .ref (B + 220), .ref (B + 221), .ref (B + 222), .ref (B + 223), .ref (B + 224), .ref (B + 225), .ref (B + 226), .ref (B + 227), .ref (B + 228), .ref (B + 229), .ref (B + 230), .ref (B + 231), .int 0, .int 0, .int 0, .int 0, .int 0, .int 0, .int 0, .int 0, .int 0, .int 0, .int (-1), .int 0, .int 0, .ref (B + 232), .ref (B + 233), .int 0, .ref (B + 234), .ref (B + 235), .ref (B + 236), .ref (B + 237), .ref (B + 238), .ref (B + 239), .ref (B + 240), .ref (B + 241), .ref (B + 242), .ref (B + 243), .ref (B + 244), .int 0, .int 0, .int 0, .int (-1), .int (-1), .int (-1), .int 0, .ref (B + 245), .int 0, .ref (B + 246), .int 0, .int 0, .ref (B + 247), .ref (B + 248), .int 0, .int (-1), .ref (B + 249), .ref (B + 250), .ref (B + 251), .ref (B + 252), .ref (B + 253)]) q (by decide) (by decide) (Nat.le_of_ble_eq_true rfl) rfl (fun h1 q => ?_)
  replace q := q.done (by rw [zcd_o zio_8]; rfl) rfl
  have v : zV B (B + 254) h1 zM1 := ⟨fun k hk => by
    by_cases z : k < 213
    · rw [q.2.2.2 k z]; exact h213 k z
    · exact q.2.2.1 k (by omega) hk, q.1⟩
  obtain ⟨M0, eM⟩ : ∃ M0, m_X8_begins zM1 = some ((), M0) := by
    obtain ⟨x, M0, eM, -⟩ := z_begins
    exact ⟨M0, eM⟩
  obtain ⟨r, h2, e2, -, v2⟩ := v_X8_begins v () M0 eM
  have ec : zcv 8 (B + 213) h1 (f_X8_begins (B + 213) h1) = f_X8_begins (B + 213) h1 := by
    unfold zcv
    rw [v.1 213 (by decide), zcd_o zio_8]
    simp only [if_true]
  rw [ec, e2]
  exact zwf_ret ⟨M0, v2, eM⟩
end
/-- what holds between class and reference when both are new -/
theorem z_first {M0 : zMem} (e : m_X8_begins zM1 = some ((), M0)) (M2 : Nat → Nat → Int64) : yI yWf (M0.1, M2) 24 yT0 (ystart yT0 yT0.bsize) := by
  obtain ⟨x, M0', e', rs, fr⟩ := z_begins
  rw [e] at e'
  cases e'
  have lo : ∀ k i, k < 213 → M0.1 k i = zM1.1 k i := fun k i hk => fr k i (by unfold yTR; omega)
  have l3 : ∀ i, ¬ i = 35 → M0.1 213 i = zM1.1 213 i := fun i hi => fr 213 i (by unfold yTR; omega)
  have no : ∀ {P : Nat → Prop} (i : Nat), i < 0 → P i := fun i hi => absurd hi (Nat.not_lt_zero i)
  have ct : yCT M0 24 yT0 := by
    refine ⟨Or.inr rfl, lo _ _ (by decide), lo _ _ (by decide), lo _ _ (by decide), lo _ _ (by decide), lo _ _ (by decide), lo _ _ (by decide), lo _ _ (by decide), fun _ _ => lo _ _ (by decide), no, no, no, no, no, no, no, no, no, no, no, fun k hk => ⟨0, by show 0 + 0 ≤ 64; omega, lo _ _ (by decide), lo _ _ (by decide), fun j hj => absurd hj (Nat.not_lt_zero j)⟩⟩
  have cs : yCS M0 42 24 0 yT0 (ystart yT0 yT0.bsize) := by
    refine ⟨by unfold ySP; decide, yT0_ok.1, by rw [lo _ _ (by decide)]; rfl, lo _ _ (by decide), ct, ystart_ok yT0_ok.1, lo _ _ (by decide), lo _ _ (by decide), no, no, no, no, no, no, no, no, no, no, fun h f hh => absurd hh (Nat.not_lt_zero h)⟩
  have all : yI yWf M0 24 yT0 (ystart yT0 yT0.bsize) := by
    refine ⟨cs, rs, Nat.zero_le _, by rw [lo _ _ (by decide)]; rfl, ⟨?_, Or.inl (lo _ _ (by decide))⟩, ⟨0, fun _ => ystart yT0 yT0.bsize, by decide, rfl, lo _ _ (by decide), l3 _ (by decide), no, no, no⟩, ⟨yNs.mk 0 (-1) (fun _ => 0) (fun _ => 0) (fun _ => 0) (fun _ => 0), ?_⟩, ⟨0, by decide, lo _ _ (by decide), l3 _ (by decide), no⟩, ⟨?_, ?_, ?_, fun i hi => lo _ _ (by decide)⟩, ⟨l3 _ (by decide), l3 _ (by decide), l3 _ (by decide), l3 _ (by decide)⟩, ⟨no, no, no⟩⟩
    · rw [lo _ _ (by decide), l3 _ (by decide)]; rfl
    · exact ⟨Nat.zero_le _, Or.inl rfl, no, no, no, no, lo _ _ (by decide), lo _ _ (by decide), l3 _ (by decide), l3 _ (by decide), no, no, no, no, no, no, no, no, no⟩
    · rw [lo _ _ (by decide), l3 _ (by decide)]; rfl
    · rw [lo _ _ (by decide), l3 _ (by decide)]; rfl
    · rw [lo _ _ (by decide)]; decide
  exact all
theorem yWf_w : ∀ w, w < 23 → yWf w = Int32.ofNat (yWp w) := fun w hw => if_pos hw

section
variable {M : zMem} {b : Nat → Nat} {n : Nat} {t K0 p : Nat} {w : List Nat} {out : List yK} {cnt opn : Nat} {f : Nat × Nat} {R : yRz}
/-- the class's whole E -/
theorem c_E (h : yCE M b n t K0 p [] [] cnt 0) (hk : K0 ≤ cnt) (hR : R = yrZ b n (true, p, [], [], cnt, 0)) {α : Type} {Q : α → zMem → Prop} {g : Unit → zMem → Option (α × zMem)}
    (kk : ∀ M', zfr (yCP t K0) M M' → ((∃ f, yCF M' t K0 f ∧ R = .inl f) ∨ ∃ p' w' out' cnt', yCE M' b n t K0 p' w' out' cnt' 0 ∧ K0 + out'.length ≤ cnt' ∧ R = .inr (out', p', cnt')) → zwp (g () M') Q) :
    zwp (mbd (mlp (σ := (Int32 × Int32)) (β := (Int32 × Int32)) zLF (fun s22 M23 =>
  if 64 < s22.2 then
  some ((.inr (s22.1, s22.2)), M23)
  else
  if s22.1 = 0 then
  some ((.inr (s22.1, s22.2)), M23)
  else
  mbd (m_X4_readAheadOfPart  M23) (fun v27 M26 =>
  mbd (m_X4_readPart  M26) (fun v29 M28 =>
  mbd (m_X4_readSign  M28) (fun v31 M30 =>
  some ((.inl (v31, (s22.2 + 1))), M30))))) (1, 0) M) (fun e24 M25 => mbd (m_X4_placeAbove 0 M25) g)) Q := by
  have lF : zLF = 100000 := rfl
  refine zwp_bd (Q' := fun _ M' => zfr (yCP t K0) M M' ∧ ((∃ f, yCF M' t K0 f ∧ R = .inl f) ∨ ∃ p' w' out' cnt', yCE M' b n t K0 p' w' out' cnt' 0 ∧ yCn K0 w' out' cnt' 0 ∧ R = .inr (out' ++ (ypop 0 w').2, p', cnt')))
    (zwp_lp (fun k s M' => ∃ i, s.2 = Int32.ofNat i ∧ k = 66 - i ∧ i ≤ 65 ∧ zfr (yCP t K0) M M' ∧ ((s.1 = 0 ∧ ((∃ f, yCF M' t K0 f ∧ R = .inl f) ∨ ∃ p' w' out' cnt', yCE M' b n t K0 p' w' out' cnt' 0 ∧ yCn K0 w' out' cnt' 0 ∧ R = .inr (out' ++ (ypop 0 w').2, p', cnt'))) ∨ (s.1 = 1 ∧ ∃ p' w' out' cnt' opn', i ≤ cnt' ∧ yCE M' b n t K0 p' w' out' cnt' opn' ∧ yCn K0 w' out' cnt' opn' ∧ R = yrZ b n (true, p', w', out', cnt', opn')))) ?_ 66 (1, 0) M ⟨0, rfl, rfl, by omega, zfr_refl, Or.inr ⟨rfl, p, [], [], cnt, 0, by omega, h, ⟨hk, rfl⟩, hR⟩⟩ (by omega)) ?_
  · rintro k ⟨s1, s2⟩ M1 ⟨i, e2, rfl, hi, f1, z⟩
    have e2 : s2 = Int32.ofNat i := e2
    subst e2
    rcases z with ⟨e1, z⟩ | ⟨e1, p1, w1, out1, cnt1, opn1, ic, ce, cn, e⟩
    · have e1 : s1 = 0 := e1
      subst e1
      by_cases h64 : 64 < i
      · rw [if_pos (show (64 : Int32) < (((0 : Int32), Int32.ofNat i) : Int32 × Int32).2 by show (64 : Int32) < Int32.ofNat i; rw [show (64 : Int32) = Int32.ofNat 64 from rfl, zi_lt (by omega) (by omega)]; exact h64)]
        exact zwp_ret ⟨f1, z⟩
      · rw [if_neg (show ¬ (64 : Int32) < (((0 : Int32), Int32.ofNat i) : Int32 × Int32).2 by show ¬ (64 : Int32) < Int32.ofNat i; rw [show (64 : Int32) = Int32.ofNat 64 from rfl, zi_lt (by omega) (by omega)]; exact h64), if_pos rfl]
        exact zwp_ret ⟨f1, z⟩
    · have e1 : s1 = 1 := e1
      subst e1
      have c64 : cnt1 ≤ 64 := ce.2.2.2.2.2.2.2.2.2.2.2.2.1
      rw [if_neg (show ¬ (64 : Int32) < (((1 : Int32), Int32.ofNat i) : Int32 × Int32).2 by show ¬ (64 : Int32) < Int32.ofNat i; rw [show (64 : Int32) = Int32.ofNat 64 from rfl, zi_lt (by omega) (by omega)]; omega), if_neg (show ¬ (((1 : Int32), Int32.ofNat i) : Int32 × Int32).1 = 0 from (show ¬ (1 : Int32) = 0 by decide))]
      have fin : ∀ {g : Nat × Nat} M2, yCF M2 t K0 g → zfr (yCP t K0) M M2 → R = .inl g → zwp (mbd (m_X4_readSign M2) (fun v31 M30 => some ((Sum.inl (v31, (Int32.ofNat i + 1)) : (Int32 × Int32) ⊕ (Int32 × Int32)), M30))) (fun r M3 => r = Sum.inl (0, Int32.ofNat (i + 1)) ∧ zfr (yCP t K0) M M3 ∧ ∃ f, yCF M3 t K0 f ∧ R = .inl f) := by
        intro g M2 cf f2 eR
        rw [c_sign_f cf, mbd_some, yi_nn]
        exact zwp_ret ⟨rfl, f2, g, cf, eR⟩
      refine zwp_bd (c_ahead ce cn e) (fun _ M2 z => ?_)
      obtain ⟨f2, ⟨f, cf, eR⟩ | ⟨p2, w2, cnt2, opn2, c2, ce2, cn2, eR, h33, h15⟩⟩ := z
      · rw [c_part_f cf, mbd_some]
        refine zwp_mono (fin M2 cf (zfr_trans f1 f2) eR) ?_
        rintro _ M3 ⟨rfl, f3, z3⟩
        exact ⟨66 - (i + 1), by omega, i + 1, rfl, rfl, by omega, f3, Or.inl ⟨rfl, Or.inl z3⟩⟩
      · refine zwp_bd (c_part ce2 cn2 h33 h15 eR) (fun _ M3 z => ?_)
        obtain ⟨f3, ⟨f, cf, eR⟩ | ⟨p3, out3, ce3, cn3, eR⟩⟩ := z
        · refine zwp_mono (fin M3 cf (zfr_trans f1 (zfr_trans f2 f3)) eR) ?_
          rintro _ M4 ⟨rfl, f4, z4⟩
          exact ⟨66 - (i + 1), by omega, i + 1, rfl, rfl, by omega, f4, Or.inl ⟨rfl, Or.inl z4⟩⟩
        · refine zwp_bd (c_sign ce3 cn3 eR) (fun v M4 z => ?_)
          obtain ⟨f4, z⟩ := z
          have f04 : zfr (yCP t K0) M M4 := zfr_trans f1 (zfr_trans f2 (zfr_trans f3 f4))
          have c65 : cnt2 + 1 ≤ 64 := ce3.2.2.2.2.2.2.2.2.2.2.2.2.1
          rcases z with ⟨rfl, z⟩ | ⟨rfl, p4, w4, out4, ce4, cn4, eR⟩ | ⟨rfl, p4, w4, out4, opn4, ce4, cn4, eR⟩
          · exact zwp_ret ⟨66 - (i + 1), by omega, i + 1, yi_nn i, rfl, by omega, f04, Or.inl ⟨rfl, Or.inl z⟩⟩
          · exact zwp_ret ⟨66 - (i + 1), by omega, i + 1, yi_nn i, rfl, by omega, f04, Or.inl ⟨rfl, Or.inr ⟨p4, w4, out4, _, ce4, cn4, eR⟩⟩⟩
          · exact zwp_ret ⟨66 - (i + 1), by omega, i + 1, yi_nn i, rfl, by omega, f04, Or.inr ⟨rfl, p4, w4, out4, _, opn4, by omega, ce4, cn4, eR⟩⟩
  · rintro _ M1 ⟨f1, ⟨f, cf, eR⟩ | ⟨p1, w1, out1, cnt1, ce, cn, eR⟩⟩
    · refine zwp_bd (c_above_f cf 0) (fun _ M2 z => ?_)
      exact kk M2 (zfr_trans f1 z.2) (Or.inl ⟨f, z.1, eR⟩)
    · refine zwp_bd (c_above ce cn (r := 0) rfl (by decide)) (fun _ M2 z => ?_)
      obtain ⟨ce2, cn2, f2⟩ := z
      exact kk M2 (zfr_trans f1 f2) (Or.inr ⟨_, _, _, _, ce2, by have := cn2.1; omega, eR⟩)
/-- the same from a fault on -/
theorem c_E_f (cf : yCF M t K0 f) {α : Type} {Q : α → zMem → Prop} {g : Unit → zMem → Option (α × zMem)}
    (kk : ∀ M', zfr (yCP t K0) M M' → yCF M' t K0 f → zwp (g () M') Q) :
    zwp (mbd (mlp (σ := (Int32 × Int32)) (β := (Int32 × Int32)) zLF (fun s22 M23 =>
  if 64 < s22.2 then
  some ((.inr (s22.1, s22.2)), M23)
  else
  if s22.1 = 0 then
  some ((.inr (s22.1, s22.2)), M23)
  else
  mbd (m_X4_readAheadOfPart  M23) (fun v27 M26 =>
  mbd (m_X4_readPart  M26) (fun v29 M28 =>
  mbd (m_X4_readSign  M28) (fun v31 M30 =>
  some ((.inl (v31, (s22.2 + 1))), M30))))) (1, 0) M) (fun e24 M25 => mbd (m_X4_placeAbove 0 M25) g)) Q := by
  have lF : zLF = 100000 := rfl
  refine zwp_bd (Q' := fun _ M' => M' = M) (zwp_lp (fun k s M' => M' = M ∧ ((k = 1 ∧ s = (1, 0)) ∨ (k = 0 ∧ s = (0, 1)))) ?_ 1 (1, 0) M ⟨rfl, Or.inl ⟨rfl, rfl⟩⟩ (by omega)) ?_
  · rintro k s M' ⟨rfl, ⟨rfl, rfl⟩ | ⟨rfl, rfl⟩⟩
    · rw [if_neg (by decide), if_neg (by decide), c_ahead_f cf, mbd_some, c_part_f cf, mbd_some, c_sign_f cf, mbd_some]
      exact zwp_ret ⟨0, by omega, rfl, Or.inr ⟨rfl, rfl⟩⟩
    · rw [if_neg (by decide), if_pos (by decide)]
      exact zwp_ret rfl
  · rintro _ M' rfl
    exact zwp_bd (c_above_f cf 0) (fun _ M2 z => kk M2 z.2 z.1)
end
/-! the machine's laws are whole -/
def ybin : List Nat → Nat
  | [] => 0
  | t :: w => (if yrank t = 0 ∨ yrank t = 3 then 0 else 1) + ybin w
def yDp (out : List yK) (k : Nat) : Prop := ∀ l, ywf l k → ywf (out ++ l) 0
theorem yDp_op {out : List yK} {x k : Nat} (hx : x < 40) (hr : ¬ yrank x = 0) (h : yDp out (k + 1)) (hk : ¬ yrank x = 3 → 1 ≤ k) : yDp (out ++ [yop x]) (if yrank x = 3 then k + 1 else k) := by
  intro l hl
  rw [List.append_assoc]
  refine h _ ?_
  have rf := yrank_f x hx
  show (x = 15 ∧ 1 ≤ k + 1 ∧ ywf l (k + 1)) ∨ ((x = 13 ∨ x = 14 ∨ (23 ≤ x ∧ x ≤ 32)) ∧ 2 ≤ k + 1 ∧ ywf l (k + 1 - 1))
  by_cases h3 : yrank x = 3
  · rw [if_pos h3] at hl
    exact Or.inl ⟨rf.2.2.2.1.mp h3, by omega, hl⟩
  · rw [if_neg h3] at hl
    have := hk h3
    have h6 := rf.1
    refine Or.inr ⟨?_, by omega, by rw [show k + 1 - 1 = k by omega]; exact hl⟩
    rcases (show yrank x = 1 ∨ yrank x = 2 ∨ yrank x = 4 ∨ yrank x = 5 ∨ yrank x = 6 by omega) with z | z | z | z | z
    · exact Or.inl (rf.2.1.mp z)
    · exact Or.inr (Or.inl (rf.2.2.1.mp z))
    · have := rf.2.2.2.2.1.mp z; omega
    · have := rf.2.2.2.2.2.1.mp z; omega
    · have := rf.2.2.2.2.2.2.mp z; omega
theorem yDp_pop : ∀ {w : List Nat} {out : List yK} {r : Nat}, (∀ x, x ∈ w → x < 40) → yDp out (ybin w + 1) → yDp (out ++ (ypop r w).2) (ybin (ypop r w).1 + 1) := by
  intro w
  induction w with
  | nil => intro out r _ h; show yDp (out ++ []) _; rw [List.append_nil]; exact h
  | cons x w ih =>
    intro out r hw h
    have hx := hw x (List.mem_cons_self ..)
    by_cases hr : r < yrank x
    · have pe : ypop r (x :: w) = ((ypop r w).1, yop x :: (ypop r w).2) := by
        show (if r < yrank x then _ else _) = _
        rw [if_pos hr]
      rw [pe]
      have e : out ++ yop x :: (ypop r w).2 = (out ++ [yop x]) ++ (ypop r w).2 := by rw [List.append_assoc]; rfl
      show yDp (out ++ yop x :: (ypop r w).2) (ybin (ypop r w).1 + 1)
      rw [e]
      refine ih (fun y hy => hw y (List.mem_cons_of_mem _ hy)) ?_
      have hb : ybin (x :: w) = (if yrank x = 0 ∨ yrank x = 3 then 0 else 1) + ybin w := rfl
      have o := yDp_op (x := x) hx (by omega) h (fun z => by rw [hb, if_neg (by omega)]; omega)
      by_cases h3 : yrank x = 3
      · rw [if_pos h3, hb, if_pos (Or.inr h3), show 0 + ybin w + 1 = ybin w + 1 by omega] at o
        exact o
      · rw [if_neg h3, hb, if_neg (by omega), show 1 + ybin w = ybin w + 1 by omega] at o
        exact o
    · have pe : ypop r (x :: w) = (x :: w, []) := ypop_st (by show yrank x ≤ r; omega)
      rw [pe]
      show yDp (out ++ []) _
      rw [List.append_nil]
      exact h
theorem ypop_mem {w : List Nat} {r x : Nat} : x ∈ (ypop r w).1 → x ∈ w := by
  induction w with
  | nil => exact id
  | cons y w ih =>
    intro h
    have h : x ∈ (if r < yrank y then ((ypop r w).1, yop y :: (ypop r w).2) else (y :: w, [])).1 := h
    by_cases hr : r < yrank y
    · rw [if_pos hr] at h
      exact List.mem_cons_of_mem _ (ih h)
    · rw [if_neg hr] at h
      exact h
def yInv (X : yX) : Prop := (∀ x, x ∈ X.2.2.1 → x < 40) ∧ ypar X.2.2.1 = X.2.2.2.2.2 ∧ yDp X.2.2.2.1 (if X.1 then ybin X.2.2.1 else ybin X.2.2.1 + 1)
def yAft : yRz ⊕ yX → Prop
  | .inl (.inl _) => True
  | .inl (.inr o) => ywf o.1 0
  | .inr X => yInv X
theorem ystp_wf {b : Nat → Nat} {n : Nat} (hb : ∀ i, i < n → b i < 256) (X : yX) (hX : yInv X) : yAft (ystp b n X) := by
  obtain ⟨m, p, w, out, cnt, opn⟩ := X
  obtain ⟨hw, hp, hd⟩ := hX
  have hw : ∀ x, x ∈ w → x < 40 := hw
  have hp : ypar w = opn := hp
  have lt := ytk_lt hb (p := p)
  have cw : ∀ (w' : List Nat) (x : Nat), x < 40 → (∀ y, y ∈ w' → y < 40) → ∀ y, y ∈ x :: w' → y < 40 := fun w' x hx hw y hy => by
    rcases List.mem_cons.mp hy with z | z
    · rw [z]; exact hx
    · exact hw y z
  cases m with
  | true =>
    have hd : yDp out (ybin w) := hd
    rw [ystp_a]
    by_cases h33 : ytk b n p = 33
    · rw [if_pos h33]
      by_cases h8 : 8 ≤ opn
      · rw [if_pos h8]; trivial
      · rw [if_neg h8]
        refine ⟨cw w 33 (by decide) hw, ?_, ?_⟩
        · show (if yrank 33 = 0 then 1 else 0) + ypar w = opn + 1
          rw [if_pos (by decide)]; omega
        · show yDp out (ybin (33 :: w))
          have : ybin (33 :: w) = ybin w := by show (if yrank 33 = 0 ∨ yrank 33 = 3 then 0 else 1) + _ = _; rw [if_pos (by decide)]; omega
          rw [this]; exact hd
    · rw [if_neg h33]
      by_cases h15 : ytk b n p = 15
      · rw [if_pos h15]
        by_cases h4 : ytop w < 4
        · rw [if_pos h4]
          by_cases h64 : 64 ≤ cnt
          · rw [if_pos h64]; trivial
          · rw [if_neg h64]
            refine ⟨cw w 15 (by decide) hw, ?_, ?_⟩
            · show (if yrank 15 = 0 then 1 else 0) + ypar w = opn
              rw [if_neg (by decide)]; omega
            · show yDp out (ybin (15 :: w))
              have : ybin (15 :: w) = ybin w := by show (if yrank 15 = 0 ∨ yrank 15 = 3 then 0 else 1) + _ = _; rw [if_pos (by decide)]; omega
              rw [this]; exact hd
        · rw [if_neg h4]; trivial
      · rw [if_neg h15]
        by_cases h37 : ytk b n p = 37
        · rw [if_pos h37]
          by_cases hn : 64 ≤ cnt ∨ 9999 < yva b n p
          · rw [if_pos hn]; trivial
          · rw [if_neg hn]
            refine ⟨hw, hp, ?_⟩
            intro l hl
            show ywf (out ++ [.inl (Int32.ofNat (yva b n p))] ++ l) 0
            rw [List.append_assoc]
            exact hd _ ⟨zi_nn (by omega), hl⟩
        · rw [if_neg h37]
          by_cases hq : 16 ≤ ytk b n p ∧ ytk b n p ≤ 22
          · rw [if_pos hq]
            by_cases h64 : 64 ≤ cnt
            · rw [if_pos h64]; trivial
            · rw [if_neg h64]
              refine ⟨hw, hp, ?_⟩
              intro l hl
              show ywf (out ++ [.inr (.inl (ytk b n p - 16))] ++ l) 0
              rw [List.append_assoc]
              exact hd _ ⟨by omega, hl⟩
          · rw [if_neg hq]; trivial
  | false =>
    have hd : yDp out (ybin w + 1) := hd
    rw [ystp_n]
    by_cases h34 : ytk b n p = 34 ∧ 0 < opn
    · rw [if_pos h34]
      have dp := yDp_pop (r := 0) hw hd
      have pp : ypar (ypop 0 w).1 = opn := ypop_par.trans hp
      have pt : ytop (ypop 0 w).1 ≤ 0 := ypop_top
      have mm : ∀ x, x ∈ (ypop 0 w).1 → x < 40 := fun x hx => hw x (ypop_mem hx)
      generalize (ypop 0 w).1 = w2 at *
      generalize out ++ (ypop 0 w).2 = out2 at *
      cases w2 with
      | nil => have pp : 0 = opn := pp; omega
      | cons x w3 =>
        have x0 : yrank x = 0 := Nat.le_zero.mp pt
        refine ⟨fun y hy => mm y (List.mem_cons_of_mem _ hy), ?_, ?_⟩
        · have pp : (if yrank x = 0 then 1 else 0) + ypar w3 = opn := pp
          rw [if_pos x0] at pp
          show ypar w3 = opn - 1
          omega
        · have : ybin (x :: w3) = ybin w3 := by show (if yrank x = 0 ∨ yrank x = 3 then 0 else 1) + _ = _; rw [if_pos (Or.inl x0)]; omega
          rw [this] at dp
          exact dp
    · rw [if_neg h34]
      by_cases h0 : yrank (ytk b n p) = 0 ∨ ytk b n p = 15
      · rw [if_pos h0]
        by_cases ho : 0 < opn
        · rw [if_pos ho]; trivial
        · rw [if_neg ho]
          have dp := yDp_pop (r := 0) hw hd
          have z : ybin (ypop 0 w).1 = 0 := by
            have pp : ypar (ypop 0 w).1 = 0 := by rw [ypop_par]; have hp' : ypar w = opn := hp; omega
            have pt : ytop (ypop 0 w).1 ≤ 0 := ypop_top
            generalize (ypop 0 w).1 = w2 at *
            cases w2 with
            | nil => rfl
            | cons x w3 =>
              have x0 : yrank x = 0 := Nat.le_zero.mp pt
              have pp : (if yrank x = 0 then 1 else 0) + ypar w3 = 0 := pp
              rw [if_pos x0] at pp
              omega
          rw [z] at dp
          have := dp [] rfl
          rw [List.append_nil] at this
          exact this
      · rw [if_neg h0]
        by_cases h4 : yrank (ytk b n p) = 4 ∧ ytop (ypop 4 w).1 = 4
        · rw [if_pos h4]; trivial
        · rw [if_neg h4]
          by_cases h64 : 64 ≤ cnt
          · rw [if_pos h64]; trivial
          · rw [if_neg h64]
            have rn : ¬ yrank (ytk b n p) = 0 := fun z => h0 (Or.inl z)
            have r3 : ¬ yrank (ytk b n p) = 3 := fun z => h0 (Or.inr ((yrank_f _ lt).2.2.2.1.mp z))
            have dp := yDp_pop (r := if yrank (ytk b n p) = 4 then 4 else yrank (ytk b n p) - 1) hw hd
            refine ⟨cw _ _ lt (fun x hx => hw x (ypop_mem hx)), ?_, ?_⟩
            · show (if yrank (ytk b n p) = 0 then 1 else 0) + ypar _ = opn
              rw [if_neg rn, ypop_par]; omega
            · show yDp _ (ybin (ytk b n p :: _))
              have : ∀ w', ybin (ytk b n p :: w') = ybin w' + 1 := fun w' => by show (if yrank (ytk b n p) = 0 ∨ yrank (ytk b n p) = 3 then 0 else 1) + _ = _; rw [if_neg (by omega)]; omega
              rw [this]
              exact dp
theorem yrX_wf {b : Nat → Nat} {n : Nat} (hb : ∀ i, i < n → b i < 256) : ∀ k (X : yX), yInv X → ∀ o, yrX b n k X = .inr o → ywf o.1 0 := by
  intro k
  induction k with
  | zero => intro X _ o h; cases h
  | succ k ih =>
    intro X hX o h
    have h : (match ystp b n X with | .inl r => r | .inr X' => yrX b n k X') = .inr o := h
    have a := ystp_wf hb X hX
    cases e : ystp b n X with
    | inl r =>
      rw [e] at h a
      have h : r = .inr o := h
      rw [h] at a
      exact a
    | inr X' =>
      rw [e] at h a
      exact ih X' a o h
theorem yrZ_wf {b : Nat → Nat} {n p cnt : Nat} (hb : ∀ i, i < n → b i < 256) {o : List yK × Nat × Nat} (h : yrZ b n (true, p, [], [], cnt, 0) = .inr o) : ywf o.1 0 := by
  unfold yrZ at h
  exact yrX_wf hb _ (true, p, [], [], cnt, 0) ⟨fun x hx => absurd hx List.not_mem_nil, rfl, fun l hl => hl⟩ o h

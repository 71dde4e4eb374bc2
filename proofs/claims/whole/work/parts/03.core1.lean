/-! The world of this claim as a pure heap: address to cell, and the next free address. Names: z.. -/
abbrev zPC : Type := (Nat × vp_A) ⊕ (Nat × List Value)
abbrev zHp : Type := (Nat → Option zPC) × Nat
def zwr (h : zHp) (a : Nat) (c : zPC) : zHp := (fun b => if b = a then some c else h.1 b, h.2)
def znw (h : zHp) (c : zPC) : zHp := (fun b => if b = h.2 then some c else h.1 b, h.2 + 1)
def zpe (kp : Nat → ClassId) (c : zPC) : va_E := match c with
  | .inl q => .inl (kp q.1, q.2)
  | .inr o => .inr o
abbrev zTy (kp : Nat → ClassId) : List (ClassId × FieldType) := [(kp 0, .int), (kp 1, .byte), (kp 2, .boolean), (kp 3, .long), (kp 4, .object "CloudSchool$Sky"), (kp 5, .array .int)]
def zHR (D : va_G) (kp : Nat → ClassId) (n0 : Nat) (h : zHp) (H : Heap) : Prop := (∀ (a : Nat) (c : zPC), h.1 a = some c → n0 ≤ a ∧ va_at D vwCl (a, zpe kp c) H) ∧ H.size = h.2
theorem zHR.wr {D : va_G} {kp : Nat → ClassId} {n0 : Nat} {h : zHp} {H H1 : Heap} (hR : zHR D kp n0 h H) {a : Nat} {c0 c : zPC} (ha : h.1 a = some c0) (he : va_at D vwCl (a, zpe kp c) H1) (z : H1.size = H.size) (oq : ∀ q : Nat, q ≠ a → H1[q]? = H[q]?) : zHR D kp n0 (zwr h a c) H1 := by
  refine ⟨fun b d hb => ?_, z.trans hR.2⟩
  by_cases e : b = a
  · subst e
    have : some c = some d := by simpa [zwr] using hb
    cases this
    exact ⟨(hR.1 _ _ ha).1, he⟩
  · have hb' : h.1 b = some d := by simpa [zwr, e] using hb
    exact ⟨(hR.1 _ _ hb').1, (hR.1 _ _ hb').2.kept (oq b e)⟩
theorem zHR.nw {D : va_G} {kp : Nat → ClassId} {n0 : Nat} {h : zHp} {H H1 : Heap} (hR : zHR D kp n0 h H) {c : zPC} (hn : n0 ≤ H.size) (he : va_at D vwCl (H.size, zpe kp c) H1) (z : H1.size = H.size + 1) (oq : ∀ q : Nat, q < H.size → H1[q]? = H[q]?) : zHR D kp n0 (znw h c) H1 := by
  refine ⟨fun b d hb => ?_, by show _ = h.2 + 1; rw [z, hR.2]⟩
  by_cases e : b = h.2
  · have : some c = some d := by simpa [znw, e] using hb
    cases this
    rw [e, ← hR.2]
    exact ⟨hn, he⟩
  · have hb' : h.1 b = some d := by simpa [znw, e] using hb
    exact ⟨(hR.1 _ _ hb').1, (hR.1 _ _ hb').2.kept (oq b ((hR.1 _ _ hb').2.lt))⟩
/-! words, and what else stays -/
def zT : List Cond := lw_tbl.filter goodWord
theorem zT_good : GoodIn zT zT := fun w hw => ⟨hw, good_of_word (List.mem_filter.mp hw).2⟩
def zAA (U : State) : Prop := (Cond.arrayOver (.array .int)).before #[] U = true
theorem zAA.moved {u U : State} (hvm : u.vm.Alike U.vm) (h : zAA u) : zAA U := by
  unfold zAA Cond.before Cond.holds at h ⊢
  simp only [Cond.value, beq_iff_eq] at h ⊢
  rw [hvm.findClass]
  cases hc : u.vm.findClass (FieldType.array .int).toString with
  | none => simp [hc] at h
  | some comp =>
    simp only [hc, Option.bind_some, Option.bind_eq_some_iff, Option.map_eq_some_iff] at h ⊢
    obtain ⟨c, hi, k, hk, hb⟩ := h
    obtain ⟨k', hk', he⟩ := hvm.2.2 _ _ hk
    refine ⟨c, ?_, k', hk', ?_⟩
    · have e1 := va_idx_bare U.vm comp
      have e2 := va_idx_bare u.vm comp
      rw [show U.vm.bare = u.vm.bare from by first | exact hvm.bare_eq | exact hvm.bare_eq.symm] at e1
      exact (e1.symm.trans e2).trans hi
    · rw [he, hvm.findClass]
      exact hb
def zNe (U : State) : Prop :=
  va_Nw (.methodLinkNest RX4 21 yX6_init RX7) U ∧ va_Nw (.methodLinkNest RX6 50 yX2_init RX7) U ∧ va_Nw (.methodLinkNest RX7 28 yX6_init RX7) U ∧ va_Nw (.fieldLinkNest RX1 59 RX5 "told" "LCloudSchool$Told;" RX7) U ∧
  va_Nw (.methodLinkNest RX7 51 yX0_init RX7) U ∧ va_Nw (.methodLinkNest RX7 58 yX3_init RX7) U ∧ va_Nw (.methodLinkNest RX4 145 yX7_numberOf RX7) U ∧ va_Nw (.methodLinkNest RX5 134 yX7_isCell RX7) U ∧ va_AO "CloudSchool$Sky" U ∧ zAA U
theorem zNe.warm {s U : State} (hW : s.WarmedH U.vm) (h : zNe s) : zNe U := by
  obtain ⟨h1, h2, h3, h4, h5, h6, h7, h8, h9, h10⟩ := h
  exact ⟨h1.warmM hW, h2.warmM hW, h3.warmM hW, h4.warmF hW, h5.warmM hW, h6.warmM hW, h7.warmM hW, h8.warmM hW, h9.moved hW.alike, h10.moved hW.alike⟩
theorem zNe.same {s U : State} (hv : s.vm = U.vm) (h : zNe s) : zNe U := by
  obtain ⟨h1, h2, h3, h4, h5, h6, h7, h8, h9, h10⟩ := h
  exact ⟨h1.same rfl hv, h2.same rfl hv, h3.same rfl hv, h4.same rfl hv, h5.same rfl hv, h6.same rfl hv, h7.same rfl hv, h8.same rfl hv, h9.moved (by rw [hv]; exact Vm.Alike.refl _), h10.moved (by rw [hv]; exact Vm.Alike.refl _)⟩
/-- the two texts of words -/
def zWx : String := "water hill  field cloud child wind  rain  most  seed  law   grow  fall  mark  or    and   not   size  groundage   far   many  marks hour  "
def zWm : String := "water hill field cloud child wind rain most seed law grow fall mark or and not size ground age far many marks hour "
def zBy (t : String) : List Int32 := t.toList.map (fun ch => (nI ch.toNat).toInt8.toInt32)
abbrev zLn : List Nat := [138, 115]
abbrev zBs : List (List Int32) := [zBy zWx, zBy zWm]
def zSt (n0 : Nat) (aK aV : Nat → Nat) (U : State) : Prop :=
  vk_S 2 zLn zBs aK aV (fun q => n0 ≤ q) U U.heap ∧ vk_R RX4 36 zWx (aK 0) U ∧ vk_R RX8 194 zWm (aK 1) U ∧ va_Z "java/lang/String" "COMPACT_STRINGS" "Z" (.int 1) (fun q => n0 ≤ q) U U.heap ∧ va_Zq "jdk/internal/util/Preconditions" "SIOOBE_FORMATTER" "Ljava/util/function/BiFunction;" (fun q => n0 ≤ q) U U.heap
theorem zSt.go {n0 : Nat} {aK aV : Nat → Nat} {s U : State} (hW : s.WarmedH U.vm) (hn : n0 ≤ s.heap.size) (hk : ∀ q : Nat, q < n0 → U.heap[q]? = s.heap[q]?) (h : zSt n0 aK aV s) : zSt n0 aK aV U := by
  obtain ⟨h1, h2, h3, h4, h5⟩ := h
  have hq : ∀ a : Nat, a < s.heap.size → ¬ (fun q => n0 ≤ q) a → U.heap[a]? = s.heap[a]? := fun a _ h => hk a (Nat.not_le.mp h)
  exact ⟨(h1.kept hq).moved hW.alike, h2.warm hW, h3.warm hW, (h4.kept hq).moved hW.alike, (h5.kept hq).moved hW.alike⟩
theorem zSt.same {n0 : Nat} {aK aV : Nat → Nat} {s U : State} (hv : s.vm = U.vm) (hh : s.heap = U.heap) (h : zSt n0 aK aV s) : zSt n0 aK aV U := by
  obtain ⟨h1, h2, h3, h4, h5⟩ := h
  have ha : s.vm.Alike U.vm := by rw [hv]; exact Vm.Alike.refl _
  rw [hh] at h1 h4 h5
  exact ⟨h1.moved ha, h2.same hv.symm, h3.same hv.symm, h4.moved ha, h5.moved ha⟩
/-! what holds of a state in which one of our methods begins -/
abbrev zGl : Type := va_G × (Nat → ClassId) × Nat × (Nat → Nat) × (Nat → Nat)
def zEn (g : zGl) (U : State) : Prop := va_K g.1 vwCl (zTy g.2.1) U ∧ zNe U ∧ zSt g.2.2.1 g.2.2.2.1 g.2.2.2.2 U ∧ g.2.2.1 ≤ U.heap.size
theorem zEn.go {g : zGl} {s U : State} (hW : s.WarmedH U.vm) (hz : s.heap.size ≤ U.heap.size) (hk : ∀ q : Nat, q < g.2.2.1 → U.heap[q]? = s.heap[q]?) (h : zEn g s) : zEn g U :=
  ⟨h.1.moved hW.alike, h.2.1.warm hW, h.2.2.1.go hW h.2.2.2 hk, Nat.le_trans h.2.2.2 hz⟩
def zPc (g : zGl) (As : List Value) (h : zHp) : Array Value → State → Prop := fun v U => v = As.toArray ∧ zHR g.1 g.2.1 g.2.2.1 h U.heap ∧ zEn g U
def zQc (g : zGl) (rv : Option Value) (h' : zHp) : Array Value → State → Outcome → State → Prop := fun _ st oc t => oc = .returned rv ∧ zHR g.1 g.2.1 g.2.2.1 h' t.heap ∧ va_F (fun q => g.2.2.1 ≤ q) st t
theorem zPc.blind (g : zGl) (As : List Value) (h : zHp) : FrameBlind (zPc g As h) := by
  intro a U f mk hp
  obtain ⟨h1, h2, h3, h4, h5, h6⟩ := hp
  exact ⟨h1, h2, va_K.moved (u := U) (U := U.calling f mk a) (Vm.Alike.refl U.vm) h3, h4.same rfl, h5.same rfl rfl, h6⟩
/-- a method: its class, code, locals, room of frames and of locals, answer's type, name, cells and slots that it may make -/
abbrev zMt : Type := String × ByteArray × Nat × Nat × Nat × Option FieldType × String × Nat × Nat
/-- what stays the same while a body runs -/
abbrev zCx : Type := Program × Launch × Env × Room × State × MethodId × Array Value × List Frame × Method × Code × zGl × (Array Value → State → Outcome → State → Prop)
def zOk (X : zCx) (M : zMt) : Prop := match X with
  | (p, _, _, R, s, m, args, _, meth, c, g, _) =>
    p.tables.exec = Jvm.exec ∧ c.code = M.2.1 ∧ c.maxLocals = M.2.2.1 ∧ s.vm.findClass M.1 = some m.cls ∧ (∀ w ∈ zT, w.before args s = true) ∧ zEn g s ∧ meth.locks = false ∧ meth.sig.returnType = M.2.2.2.2.2.1 ∧ meth.name = M.2.2.2.2.2.2.1 ∧ R.frames = M.2.2.2.1 ∧ R.locals = M.2.2.2.2.1 ∧ R.cells = M.2.2.2.2.2.2.2.1 ∧ R.slots = M.2.2.2.2.2.2.2.2
/-- from here the machine comes to the method's end, as it should -/
def zSW (X : zCx) (M : zMt) (cs : Nat × Nat) (pc : Nat) (lv : List (Nat × Value)) (st : List Value) (h : zHp) : Prop := zOk X M → match X with
  | (p, l, e, R, s, m, args, below, meth, c, g, Qc) =>
    ∀ (ls : Array Slot) (H : Heap) (locs : List Loc), lv_has ls M.2.2.1 lv → zHR g.1 g.2.1 g.2.2.1 h H → va_S (fun q => g.2.2.1 ≤ q) s.heap H locs →
      W p l e R s m args below meth c H locs cs.1 cs.2 (MQ below Qc args s M.2.2.2.2.2.2.2.1 M.2.2.2.2.2.2.2.2 (fun q => g.2.2.1 ≤ q)) (F0 m pc ls st)
/-- the code from pc on works out c, and goes on as K -/
def zG {α : Type} (X : zCx) (M : zMt) (cs : Nat × Nat) (pc : Nat) (lv : List (Nat × Value)) (st : List Value) (h : zHp) (c : Option (α × zHp)) (K : α → zHp → Prop) : Prop :=
  ∀ (a : α) (h' : zHp), c = some (a, h') → K a h' → zSW X M cs pc lv st h
def zDc (M : zMt) (pc : Nat) (i : Instr) (n pc' : Nat) : Prop := decode M.2.1 pc = .ok (i, n) ∧ pc + n = pc'
def zDj (M : zMt) (pc : Nat) (i : Instr) (off : Int) (pc' tgt : Nat) : Prop := decode M.2.1 pc = .ok (i, 3) ∧ pc + 3 = pc' ∧ (pc : Int) + off = (tgt : Int)
/-! how computations are joined -/
def zbd {α β : Type} (c : Option (α × zHp)) (k : α → zHp → Option (β × zHp)) : Option (β × zHp) := match c with
  | none => none
  | some q => k q.1 q.2
def zob {α β : Type} (c : Option α) (k : α → Option β) : Option β := match c with
  | none => none
  | some q => k q
abbrev zsl {ε ρ : Type} {γ : Sort _} (b : ε ⊕ ρ) (f : ε → γ) (g : ρ → γ) : γ := match b with
  | .inl e => f e
  | .inr r => g r
/-- a loop: the body says how it goes on (inl), or how it leaves (inr) -/
def zlp {σ β : Type} (n : Nat) (body : σ → zHp → Option ((σ ⊕ β) × zHp)) (s : σ) (h : zHp) : Option (β × zHp) := match n with
  | 0 => none
  | n + 1 => zbd (body s h) (fun r h1 => zsl r (fun s1 => zlp n body s1 h1) (fun b => some (b, h1)))
section ZR
variable {α β ε ρ σ : Type} {X : zCx} {M : zMt} {cs : Nat × Nat} {pc pc' : Nat} {lv : List (Nat × Value)} {st : List Value} {h : zHp} {c : Option (α × zHp)} {K : α → zHp → Prop}
theorem zSW.sub {lv' : List (Nat × Value)} (ks : List Nat) (hl : lv_pick lv ks = lv') (k : zSW X M cs pc lv' st h) : zSW X M cs pc lv st h := by
  obtain ⟨p, l, e, R, s, m, args, below, meth, cd, g, Qc⟩ := X
  intro hok ls H locs hv hR hS
  exact k hok ls H locs (lv_sub hv ks hl) hR hS
theorem zg_sub {lv' : List (Nat × Value)} (ks : List Nat) (hl : lv_pick lv ks = lv') (k : zG X M cs pc lv' st h c K) : zG X M cs pc lv st h c K := fun a h' hc hK => (k a h' hc hK).sub ks hl
/-- done: what comes behind is K -/
theorem zg_fin {a : α} (k : K a h → zSW X M cs pc lv st h) : zG X M cs pc lv st h (some (a, h)) K := by
  intro b h' hc hK
  cases hc
  exact k hK
/-- a piece of code with one end, and what comes behind it -/
theorem zg_bd {E : Nat} {el : ε → List (Nat × Value)} {es : ε → List Value} {c1 : Option (ε × zHp)} {k : ε → zHp → Option (α × zHp)}
    (h1 : zG X M cs pc lv st h c1 (fun e h1 => zSW X M cs E (el e) (es e) h1)) (h2 : ∀ (e : ε) (h1 : zHp), zG X M cs E (el e) (es e) h1 (k e h1) K) : zG X M cs pc lv st h (zbd c1 k) K := by
  intro a h' hc hK
  cases hq : c1 with
  | none => rw [hq] at hc; cases hc
  | some q =>
    obtain ⟨e, hh⟩ := q
    rw [hq] at hc
    exact h1 e hh hq (h2 e hh a h' hc hK)
/-- the same, where the piece may also return -/
theorem zg_bdr {E : Nat} {el : ε → List (Nat × Value)} {es : ε → List Value} {c1 : Option ((ε ⊕ α) × zHp)} {k : ε → zHp → Option (α × zHp)}
    (h1 : zG X M cs pc lv st h c1 (fun b h1 => zsl b (fun e => zSW X M cs E (el e) (es e) h1) (fun r => K r h1))) (h2 : ∀ (e : ε) (h1 : zHp), zG X M cs E (el e) (es e) h1 (k e h1) K) :
    zG X M cs pc lv st h (zbd c1 (fun b h1 => zsl b (fun e => k e h1) (fun r => some (r, h1)))) K := by
  intro a h' hc hK
  cases hq : c1 with
  | none => rw [hq] at hc; cases hc
  | some q =>
    obtain ⟨b, hh⟩ := q
    rw [hq] at hc
    cases b with
    | inl e => exact h1 _ hh hq (h2 e hh a h' hc hK)
    | inr r => cases hc; exact h1 _ _ hq hK
theorem zg_lp {n : Nat} {body : σ → zHp → Option ((σ ⊕ α) × zHp)} {el : σ → List (Nat × Value)}
    (hb : ∀ (s : σ) (h1 : zHp), zG X M cs pc (el s) [] h1 (body s h1) (fun r h2 => zsl r (fun s' => zSW X M cs pc (el s') [] h2) (fun b => K b h2))) : ∀ (s : σ) (h : zHp), zG X M cs pc (el s) [] h (zlp n body s h) K := by
  induction n with
  | zero => intro s h a h' hc; cases hc
  | succ n ih =>
    intro s h a h' hc hK
    cases hq : body s h with
    | none => simp only [zlp, hq, zbd] at hc; cases hc
    | some q =>
      obtain ⟨r, h1⟩ := q
      simp only [zlp, hq, zbd] at hc
      cases r with
      | inl s1 => exact hb s h _ h1 hq (ih s1 h1 a h' hc hK)
      | inr b => cases hc; exact hb s h _ _ hq hK
theorem zg_if {p : Prop} [Decidable p] {c1 c2 : Option (α × zHp)} (h1 : p → zG X M cs pc lv st h c1 K) (h2 : ¬ p → zG X M cs pc lv st h c2 K) : zG X M cs pc lv st h (if p then c1 else c2) K := by
  by_cases hp : p
  · rw [if_pos hp]; exact h1 hp
  · rw [if_neg hp]; exact h2 hp
end ZR
